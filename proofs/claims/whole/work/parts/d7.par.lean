/-! BY HAND: pairs, by the reference -/
def kyL (lb : Int) (l : Int64) : Int64 := if lb = 0 then l else ltL l
theorem XL_key {lb : Int} {T : List (Int64 × Int)} {i : Nat} {x : Int64 × Int} (h : T[i]? = some x) : gx (XL lb T) i = kyL lb x.1 := by
  have hi := (List.getElem?_eq_some_iff.mp h).1
  have e : lnA T (i : Int) = x.1 := lnA_some (x := x) (by omega) (by rw [Int.toNat_natCast]; exact h)
  rw [XL_at hi, e]; rfl
section PRM
variable {Ω : Om} {m : Nat} {μ : Mu} {V : List VR} {b : BR} {v w lb : Int}
theorem K_areSame {a c : Int} (hB : IdV b μ) (ha : 0 ≤ a ∧ a < bkN b) (hc : 0 ≤ c ∧ c < bkN b) (la : isLn (bkS b a.toNat) = true) (lc : isLn (bkS b c.toNat) = true) (hlb : Q32 lb) : MMi Ω m M_Mdl_areSame rm_Mdl_areSame (fun y μ' => y = bI (kyL lb (bkS b a.toNat) = kyL lb (bkS b c.toNat)) ∧ μ' = μ) μ [xi a, xi c, xi lb] := by
  have h12 := hB.2.1
  have e1 := (hB.2.2 a.toNat (by omega)).1
  have e2 := (hB.2.2 c.toNat (by omega)).1
  refine E_areSame fun σ0 => B_areSame_0 ⟨hlb, fun c0 => ?_, fun c0 => ?_⟩
  · rw [e1, e2]
    have k : kyL lb = id := by funext l; unfold kyL; rw [if_pos c0]; rfl
    rw [k]
    refine ⟨by omega, by omega, by omega, by omega, cmpL_r _ _, fun c1 => R_areSame_55 (Or.inl rfl) ⟨(bI_f (fun z => c1 ((cmpL_0 _ _).mpr z))).symm, rfl⟩, fun c1 => R_areSame_55 (Or.inr rfl) ⟨(bI_t ((cmpL_0 _ _).mp c1)).symm, rfl⟩⟩
  · rw [e1]
    have k : kyL lb = ltL := by funext l; unfold kyL; rw [if_neg c0]
    rw [k]
    refine ⟨by omega, by omega, C_areSame_10 k_bare fun y hy => ?_⟩
    subst hy
    refine B_areSame_13 ⟨by omega, by omega, ?_⟩
    rw [e2]
    refine C_areSame_19 k_bare fun y hy => ?_
    subst hy
    rw [baL_eq la, baL_eq lc]
    exact B_areSame_22 ⟨cmpL_r _ _, fun c1 => R_areSame_55 (Or.inl rfl) ⟨(bI_f (fun z => c1 ((cmpL_0 _ _).mpr z))).symm, rfl⟩, fun c1 => R_areSame_55 (Or.inr rfl) ⟨(bI_t ((cmpL_0 _ _).mp c1)).symm, rfl⟩⟩
/-- what is known where two versions are compared -/
def PrH (V : List VR) (b : BR) (v w lb : Int) (μ : Mu) : Prop := VeV V μ ∧ (∀ v : Int, (vtx V v).length ≤ 20) ∧ IdV b μ ∧ (∀ v : Int, Nm b (vtx V v)) ∧ (0 ≤ v ∧ v < V.length) ∧ (0 ≤ w ∧ w < V.length) ∧ Q32 lb
theorem PrH.fr {fs js gs : List Nat} {μ' : Mu} (h : PrH V b v w lb μ) (k : Fr fs js gs μ μ') (h1 : 1 ∉ fs ∧ 5 ∉ fs) (h2 : 2 ∉ js ∧ 3 ∉ js ∧ 4 ∉ js ∧ 5 ∉ js ∧ 6 ∉ js ∧ 7 ∉ js ∧ 8 ∉ js) (h3 : 1 ∉ gs) : PrH V b v w lb μ' :=
  ⟨h.1.fr k h1.2 ⟨h2.2.2.1, h2.2.2.2.1, h2.2.2.2.2.1, h2.2.2.2.2.2.1, h2.2.2.2.2.2.2⟩, h.2.1, h.2.2.1.fr k h1.1 h2.1 h2.2.1 h3, h.2.2.2⟩
/-- two lines' names, told by their places -/
theorem PrH.same {F : QF} {σ0 : Sto} {i j : Nat} (h : PrH V b v w lb μ) (hi : i < (vtx V v).length) (hj : j < (vtx V w).length) : ∃ a c : Int, mA μ 5 (20 * v.toNat + i) = a ∧ mA μ 5 (20 * w.toNat + j) = c ∧ (0 ≤ a ∧ a < 16384) ∧ (0 ≤ c ∧ c < 16384) ∧ MMi Ω m M_Mdl_areSame rm_Mdl_areSame (fun y μ' => y = bI (gx (XL lb (vtx V v)) i = gx (XL lb (vtx V w)) j) ∧ μ' = μ) μ [xi a, xi c, xi lb] := by
  obtain ⟨hV, h20, hB, hN, hv, hw, hlb⟩ := h
  have y1 := List.getElem?_eq_getElem hi
  have y2 := List.getElem?_eq_getElem hj
  have n1 := (hN v).at y1
  have n2 := (hN w).at y2
  have h12 := hB.2.1
  refine ⟨_, _, hV.tx hv.1 hv.2 y1, hV.tx hw.1 hw.2 y2, ⟨n1.1, by omega⟩, ⟨n2.1, by omega⟩, ?_⟩
  have g := K_areSame (Ω := Ω) (m := m) (lb := lb) hB ⟨n1.1, n1.2.1⟩ ⟨n2.1, n2.2.1⟩ (by rw [n1.2.2.1]; exact n1.2.2.2) (by rw [n2.2.2.1]; exact n2.2.2.2) hlb
  rw [n1.2.2.1, n2.2.2.1] at g
  rw [XL_key y1, XL_key y2]
  exact g
abbrev PrI (μ0 μ : Mu) (X Y : List Int64) (i d : Nat) : Prop := Fr [] [29] [] μ0 μ ∧ (∀ p j, i < p → p ≤ X.length → j ≤ Y.length → mA μ 29 (21 * p + j) = tb X Y p j) ∧ ∀ j, d ≤ j → j ≤ Y.length → mA μ 29 (21 * i + j) = tb X Y i j
theorem pr_put {μ0 μ : Mu} {X Y : List Int64} {i d : Nat} (h : PrI μ0 μ X Y i (d + 1)) (hY : Y.length ≤ 20) (hd : d ≤ Y.length) {e : Int} (he : e = (tb X Y i d : Nat)) : PrI μ0 (wA μ 29 (21 * i + d) e) X Y i d := by
  refine ⟨h.1.trans (Fr.wA (by decide)), fun p j hp hpl hj => ?_, fun j hj hjl => ?_⟩
  · rw [mA_wA, if_neg (by omega)]; exact h.2.1 p j hp hpl hj
  · rw [mA_wA]
    by_cases c : j = d
    · rw [if_pos ⟨rfl, by omega⟩, c, he]
    · rw [if_neg (by omega)]; exact h.2.2 j (by omega) hjl
theorem pr_in {σ0 : Sto} {F : QF} {X Y : List Int64} (h : PrH V b v w lb μ) (eX : X = XL lb (vtx V v)) (eY : Y = XL lb (vtx V w)) {i : Nat} (hi : i ≤ X.length) (out : ∀ μ', PrI μ μ' X Y i 0 → Mw Ω σ0 m M_Mdl_pair rm_Mdl_pair F 20 [xr (some m), xi v, xi w, xi lb, xi X.length, xi Y.length, xi ((i : Int) + -1), xu, xu, xu, xu] [] μ') : ∀ (d : Nat) (μ1 : Mu), d ≤ Y.length + 1 → PrI μ μ1 X Y i d → Mw Ω σ0 m M_Mdl_pair rm_Mdl_pair F 29 [xr (some m), xi v, xi w, xi lb, xi X.length, xi Y.length, xi i, xi ((d : Int) + -1), xu, xu, xu] [] μ1 := by
  intro d
  have v0 := h.2.2.2.2.1
  have w0 := h.2.2.2.2.2.1
  have h40 := h.1.2.1
  have lX : X.length = (vtx V v).length := by rw [eX, XL_len]
  have lY : Y.length = (vtx V w).length := by rw [eY, XL_len]
  have l1 := h.2.1 v
  have l2 := h.2.1 w
  induction d with
  | zero =>
    intro μ1 hd hI
    exact B_pair_29 ⟨by omega, fun _ => out μ1 hI, fun c => absurd (by decide) c⟩
  | succ d ih =>
    intro μ1 hd hI
    rw [show ((d + 1 : Nat) : Int) + -1 = (d : Nat) by omega]
    have eI : (21 * (i : Int) + (d : Int)).toNat = 21 * i + d := by omega
    have fin : X.length ≤ i ∨ Y.length ≤ d → Mw Ω σ0 m M_Mdl_pair rm_Mdl_pair F 48 [xr (some m), xi v, xi w, xi lb, xi X.length, xi Y.length, xi i, xi d, xu, xu, xu] [] μ1 := fun c => by
      refine B_pair_48 ⟨by omega, by omega, ?_⟩
      rw [eI]
      exact ih _ (by omega) (pr_put hI (by omega) (by omega) (by rw [tb_end c]; rfl))
    refine B_pair_29 ⟨by omega, fun c => absurd c (by omega), fun _ => ⟨by omega, by omega, fun c => fin (by omega), fun c => ⟨by omega, fun c2 => ?_, fun c2 => fin (by omega)⟩⟩⟩
    have li : i < X.length := by omega
    have lj : d < Y.length := by omega
    have tA := hI.2.1 (i + 1) d (by omega) (by omega) (by omega)
    have tB := hI.2.2 (d + 1) (by omega) (by omega)
    have tC := hI.2.1 (i + 1) (d + 1) (by omega) (by omega) (by omega)
    have st := tb_step li lj
    have b1 := tb_le X Y (i + 1) (d + 1)
    have b2 := tb_le X Y (i + 1) d
    have b3 := tb_le X Y i (d + 1)
    have h1 := h.fr hI.1 (by decide) (by decide) (by decide)
    obtain ⟨a, c', s1, s2, s3, s4, s5⟩ := h1.same (Ω := Ω) (m := m) (F := F) (σ0 := σ0) (i := i) (j := d) (by omega) (by omega)
    rw [← eX, ← eY] at s5
    have go : ∀ z : Int, z = (max (tb X Y (i + 1) d) (tb X Y i (d + 1)) : Nat) → Mw Ω σ0 m M_Mdl_pair rm_Mdl_pair F 163 [xr (some m), xi v, xi w, xi lb, xi X.length, xi Y.length, xi i, xi d, xi 0, xi z, xu] [xi lb, xi c', xi a, xr (some m)] μ1 := fun z hz => by
      refine C_pair_163 s5 fun y μ2 hq => ?_
      obtain ⟨rfl, rfl⟩ := hq
      refine B_pair_166 ⟨bI_q, fun c3 => ⟨by omega, by omega, by omega, ?_⟩, fun c3 => ⟨by omega, by omega, by omega, by omega, ?_, ?_⟩⟩
      · rw [eI]
        rw [if_neg (bI_0.mp c3)] at st
        exact ih _ (by omega) (pr_put hI (by omega) (by omega) (by rw [hz, st]))
      · rw [show (21 * ((i : Int) + 1) + (d : Int) + 1).toNat = 21 * (i + 1) + (d + 1) by omega, tC]; omega
      · rw [if_pos (bI_1.mp c3)] at st
        rw [show (21 * ((i : Int) + 1) + (d : Int) + 1).toNat = 21 * (i + 1) + (d + 1) by omega, tC, eI]
        exact ih _ (by omega) (pr_put hI (by omega) (by omega) (by rw [st]; omega))
    refine B_pair_53 ⟨by decide, fun _ => ⟨by omega, by omega, by omega, by omega, ?_⟩, fun c3 => absurd rfl c3⟩
    rw [show (21 * ((i : Int) + 1) + (d : Int)).toNat = 21 * (i + 1) + d by omega, show (21 * (i : Int) + (d : Int) + 1).toNat = 21 * i + (d + 1) by omega, tA, tB, show (20 * v + (i : Int)).toNat = 20 * v.toNat + i by omega, show (20 * w + (d : Int)).toNat = 20 * w.toNat + d by omega, s1, s2]
    exact ⟨fun c3 => ⟨fun z => absurd rfl z, fun _ => ⟨by omega, by omega, by omega, by omega, go _ (by omega)⟩⟩, fun c3 => ⟨fun z => absurd rfl z, fun _ => ⟨by omega, by omega, by omega, by omega, go _ (by omega)⟩⟩⟩
theorem pr_out {σ0 : Sto} {F : QF} {X Y : List Int64} (h : PrH V b v w lb μ) (eX : X = XL lb (vtx V v)) (eY : Y = XL lb (vtx V w)) (out : ∀ μ', Fr [] [29] [] μ μ' → (∀ p j, p ≤ X.length → j ≤ Y.length → mA μ' 29 (21 * p + j) = tb X Y p j) → Mw Ω σ0 m M_Mdl_pair rm_Mdl_pair F 239 [xr (some m), xi v, xi w, xi lb, xi X.length, xi Y.length, xi 0, xi 0, xi 0, xu, xu] [] μ') : ∀ (d : Nat) (μ1 : Mu), d ≤ X.length + 1 → Fr [] [29] [] μ μ1 → (∀ p j, d ≤ p → p ≤ X.length → j ≤ Y.length → mA μ1 29 (21 * p + j) = tb X Y p j) → Mw Ω σ0 m M_Mdl_pair rm_Mdl_pair F 20 [xr (some m), xi v, xi w, xi lb, xi X.length, xi Y.length, xi ((d : Int) + -1), xu, xu, xu, xu] [] μ1 := by
  intro d
  have lX : X.length = (vtx V v).length := by rw [eX, XL_len]
  have l1 := h.2.1 v
  induction d with
  | zero =>
    intro μ1 hd hF hT
    exact B_pair_20 ⟨by omega, fun _ => out μ1 hF (fun p j => hT p j (Nat.zero_le _)), fun c => absurd (by decide) c⟩
  | succ d ih =>
    intro μ1 hd hF hT
    rw [show ((d + 1 : Nat) : Int) + -1 = (d : Nat) by omega]
    refine B_pair_20 ⟨by omega, fun c => absurd c (by omega), fun _ => ?_⟩
    have g := pr_in (Ω := Ω) (σ0 := σ0) (m := m) (F := F) h eX eY (i := d) (by omega) (fun μ' hI => ih μ' (by omega) hI.1 (fun p j h1 h2 h3 => ?_)) (Y.length + 1) μ1 (Nat.le_refl _) ⟨hF, fun p j h1 h2 h3 => hT p j (by omega) h2 h3, fun j h1 h2 => by omega⟩
    · rw [show ((Y.length + 1 : Nat) : Int) + -1 = (Y.length : Nat) by omega] at g
      exact g
    · by_cases c : p = d
      · rw [c]; exact hI.2.2 j (Nat.zero_le _) h3
      · exact hI.2.1 p j (by omega) h2 h3
theorem pr_walk {σ0 : Sto} {X Y : List Int64} (h : PrH V b v w lb μ) (eX : X = XL lb (vtx V v)) (eY : Y = XL lb (vtx V w)) : ∀ (f i j n : Nat) (P : Nat → Int) (μ1 : Mu), X.length + Y.length + 1 ≤ i + j + f → i ≤ X.length → j ≤ Y.length → n ≤ i → (∀ g, X.length + Y.length ≤ i + j + g → wk X Y g i j P n = prW X Y) → Fr [] [29, 30] [] μ μ1 → (∀ p j, p ≤ X.length → j ≤ Y.length → mA μ1 29 (21 * p + j) = tb X Y p j) → (∀ k, k < i → mA μ1 30 k = P k) → (∀ k, i ≤ k → P k = -1) → Mw Ω σ0 m M_Mdl_pair rm_Mdl_pair (MQi Ω σ0 m rm_Mdl_pair (fun y μ' => y = (prW X Y).2 ∧ Fr [] [29, 30] [] μ μ' ∧ ∀ k, k < X.length → mA μ' 30 k = (prW X Y).1 k)) 239 [xr (some m), xi v, xi w, xi lb, xi X.length, xi Y.length, xi i, xi j, xi n, xu, xu] [] μ1 := by
  intro f
  have v0 := h.2.2.2.2.1
  have w0 := h.2.2.2.2.2.1
  have h40 := h.1.2.1
  have lX : X.length = (vtx V v).length := by rw [eX, XL_len]
  have lY : Y.length = (vtx V w).length := by rw [eY, XL_len]
  have l1 := h.2.1 v
  have l2 := h.2.1 w
  induction f with
  | zero => intro i j n P μ1 hf hi hj; omega
  | succ f ih =>
    intro i j n P μ1 hf hi hj hn hw hF hT hP hM
    by_cases ci : i < X.length
    · have put : ∀ (s z : Int) (a10 : Int), (s = 0 ∨ s = 1) → (a10 = 0 ∨ a10 = 1) → (z = if s = 0 then -1 else (j : Int)) → Mw Ω σ0 m M_Mdl_pair rm_Mdl_pair (MQi Ω σ0 m rm_Mdl_pair (fun y μ' => y = (prW X Y).2 ∧ Fr [] [29, 30] [] μ μ' ∧ ∀ k, k < X.length → mA μ' 30 k = (prW X Y).1 k)) 372 [xr (some m), xi v, xi w, xi lb, xi X.length, xi Y.length, xi i, xi j, xi n, xi s, xi a10] [xi s, xi n] (wA μ1 30 i z) → Mw Ω σ0 m M_Mdl_pair rm_Mdl_pair (MQi Ω σ0 m rm_Mdl_pair (fun y μ' => y = (prW X Y).2 ∧ Fr [] [29, 30] [] μ μ' ∧ ∀ k, k < X.length → mA μ' 30 k = (prW X Y).1 k)) 340 [xr (some m), xi v, xi w, xi lb, xi X.length, xi Y.length, xi i, xi j, xi n, xi s, xu] [xi a10] μ1 := fun s z a10 hs ha hz g => by
        have in2 : Mw Ω σ0 m M_Mdl_pair rm_Mdl_pair (MQi Ω σ0 m rm_Mdl_pair (fun y μ' => y = (prW X Y).2 ∧ Fr [] [29, 30] [] μ μ' ∧ ∀ k, k < X.length → mA μ' 30 k = (prW X Y).1 k)) 359 [xr (some m), xi v, xi w, xi lb, xi X.length, xi Y.length, xi i, xi j, xi n, xi s, xi a10] [xi z, xi i, xr (some (m + 30))] μ1 := by
          refine B_pair_359 ⟨by omega, by omega, by rw [hz]; split <;> omega, by omega, fun c => ?_, fun c => ?_⟩
          · rw [c] at g ⊢; rw [Int.toNat_natCast]; exact g
          · have e : s = 1 := by omega
            rw [e] at g ⊢; rw [Int.toNat_natCast]; exact g
        refine B_pair_340 ⟨by omega, fun c => ?_, fun c => ?_⟩
        · rw [if_pos c] at hz; rw [hz] at in2; exact in2
        · rw [if_neg c] at hz; rw [hz] at in2; exact in2
      have hF1 : ∀ z : Int, Fr [] [29, 30] [] μ (wA μ1 30 i z) := fun z => hF.trans (Fr.wA (by decide))
      have hT1 : ∀ z : Int, ∀ p j, p ≤ X.length → j ≤ Y.length → mA (wA μ1 30 i z) 29 (21 * p + j) = tb X Y p j := fun z p j q1 q2 => by rw [mA_wA, if_neg (fun y => absurd y.1 (by decide))]; exact hT p j q1 q2
      have hP1 : ∀ k, k < i + 1 → mA (wA μ1 30 i (-1)) 30 k = P k := fun k hk => by
        rw [mA_wA]
        by_cases c : k = i
        · rw [if_pos ⟨rfl, c⟩, hM k (by omega)]
        · rw [if_neg (fun z => c z.2)]; exact hP k (by omega)
      have gone : (∀ g, X.length + Y.length ≤ (i + 1) + j + g → wk X Y g (i + 1) j P n = prW X Y) → Mw Ω σ0 m M_Mdl_pair rm_Mdl_pair (MQi Ω σ0 m rm_Mdl_pair (fun y μ' => y = (prW X Y).2 ∧ Fr [] [29, 30] [] μ μ' ∧ ∀ k, k < X.length → mA μ' 30 k = (prW X Y).1 k)) 335 [xr (some m), xi v, xi w, xi lb, xi X.length, xi Y.length, xi i, xi j, xi n, xi 0, xu] [] μ1 := fun hw2 => by
        refine B_pair_335 (put 0 (-1) 1 (Or.inl rfl) (Or.inr rfl) rfl (B_pair_372 ⟨by decide, fun z => absurd rfl z, fun _ => ⟨by decide, fun z => absurd z (by decide), fun _ => ⟨fun z => absurd z (by decide), fun _ => ?_⟩⟩⟩))
        rw [show (j : Int) + 0 = j from Int.add_zero _, show (n : Int) + 0 = n from Int.add_zero _]
        exact ih (i + 1) j n P _ (by omega) ci hj (by omega) hw2 (hF1 _) (hT1 _) hP1 (fun k hk => hM k (by omega))
      by_cases cj : j < Y.length
      · have h1 := h.fr hF (by decide) (by decide) (by decide)
        obtain ⟨a, c', s1, s2, s3, s4, s5⟩ := h1.same (Ω := Ω) (m := m) (F := MQi Ω σ0 m rm_Mdl_pair (fun _ _ => True)) (σ0 := σ0) (i := i) (j := j) (by omega) (by omega)
        rw [← eX, ← eY] at s5
        refine B_pair_239 ⟨by omega, by omega, fun c => absurd c (by omega), fun _ => ⟨by omega, by omega, fun c => absurd c (by omega), fun _ => ⟨by omega, by omega, by omega, by omega, ?_⟩⟩⟩
        rw [show (20 * v + (i : Int)).toNat = 20 * v.toNat + i by omega, show (20 * w + (j : Int)).toNat = 20 * w.toNat + j by omega, s1, s2]
        refine C_pair_279 s5 fun y μ2 hq => ?_
        obtain ⟨rfl, rfl⟩ := hq
        have st := tb_step ci cj
        refine B_pair_282 ⟨bI_q, fun c => ?_, fun c => ?_⟩
        · have c3 := bI_0.mp c
          rw [if_neg c3] at st
          refine B_pair_289 (B_pair_290 ⟨by omega, by omega, fun z => absurd z (by omega), fun _ => ⟨by decide, fun z => absurd rfl z, fun _ => ⟨by omega, by omega, by omega, by omega, fun c4 => ?_, fun c4 => ?_⟩⟩⟩)
          · rw [show (21 * ((i : Int) + 1) + (j : Int)).toNat = 21 * (i + 1) + j by omega, show (21 * (i : Int) + (j : Int)).toNat = 21 * i + j by omega, hT (i + 1) j ci hj, hT i j hi hj] at c4
            refine B_pair_339 (put 0 (-1) 0 (Or.inl rfl) (Or.inl rfl) rfl (B_pair_372 ⟨by decide, fun z => absurd rfl z, fun _ => ⟨by decide, fun _ => ⟨fun _ => ?_, fun z => absurd rfl z⟩, fun z => absurd rfl z⟩⟩))
            rw [show (i : Int) + 0 = i from Int.add_zero _, show (n : Int) + 0 = n from Int.add_zero _]
            refine ih i (j + 1) n P _ (by omega) hi cj hn (fun g hg => ?_) (hF1 _) (hT1 _) (fun k hk => hP1 k (by omega)) hM
            rw [← hw (g + 1) (by omega), wk_new ci cj c3 (by omega)]
          · rw [show (21 * ((i : Int) + 1) + (j : Int)).toNat = 21 * (i + 1) + j by omega, show (21 * (i : Int) + (j : Int)).toNat = 21 * i + j by omega, hT (i + 1) j ci hj, hT i j hi hj] at c4
            refine gone (fun g hg => ?_)
            rw [← hw (g + 1) (by omega), wk_gone ci cj c3 (by omega)]
        · have c3 := bI_1.mp c
          refine B_pair_290 ⟨by omega, by omega, fun z => absurd z (by omega), fun _ => ⟨by decide, fun _ => ?_, fun z => absurd z (by decide)⟩⟩
          refine B_pair_339 (put 1 j 0 (Or.inr rfl) (Or.inl rfl) rfl (B_pair_372 ⟨by decide, fun _ => ⟨by decide, fun _ => ?_, fun z => absurd rfl z⟩, fun z => absurd z (by decide)⟩))
          refine ih (i + 1) (j + 1) (n + 1) (up1 P i (j : Int)) _ (by omega) ci cj (by omega) (fun g hg => ?_) (hF1 _) (hT1 _) (fun k hk => ?_) (fun k hk => ?_)
          · rw [← hw (g + 2) (by omega), wk_eq ci cj c3]
            exact wk_fuel _ _ _ _ _ _ (by omega) (by omega)
          · rw [mA_wA, up1_at]
            by_cases e : k = i
            · rw [if_pos ⟨rfl, e⟩, if_pos e]
            · rw [if_neg (fun z => e z.2), if_neg e]; exact hP k (by omega)
          · rw [up1_at, if_neg (by omega)]; exact hM k (by omega)
      · refine B_pair_239 ⟨by omega, by omega, fun c => absurd c (by omega), fun _ => ⟨by omega, by omega, fun _ => ?_, fun c => absurd (by omega) c⟩⟩
        refine B_pair_289 (B_pair_290 ⟨by omega, by omega, fun _ => gone (fun g hg => ?_), fun z => absurd (by omega) z⟩)
        rw [wk_end (by omega), ← hw (X.length + Y.length) (by omega), wk_end (by omega)]
    · refine B_pair_239 ⟨by omega, by omega, fun _ => R_pair_415 ⟨?_, hF, fun k hk => ?_⟩, fun c => absurd (by omega) c⟩
      · rw [← hw (X.length + Y.length) (by omega), wk_end (by omega)]
      · rw [← hw (X.length + Y.length) (by omega), wk_end (by omega)]; exact hP k (by omega)
theorem K_pair (h : PrH V b v w lb μ) : MMi Ω m M_Mdl_pair rm_Mdl_pair (fun y μ' => y = (prW (XL lb (vtx V v)) (XL lb (vtx V w))).2 ∧ Fr [] [29, 30] [] μ μ' ∧ ∀ k, k < (vtx V v).length → mA μ' 30 k = (prW (XL lb (vtx V v)) (XL lb (vtx V w))).1 k) μ [xi v, xi w, xi lb] := by
  have v0 := h.2.2.2.2.1
  have w0 := h.2.2.2.2.2.1
  have h40 := h.1.2.1
  have lX : (XL lb (vtx V v)).length = (vtx V v).length := XL_len _ _
  have lY : (XL lb (vtx V w)).length = (vtx V w).length := XL_len _ _
  refine E_pair fun σ0 => B_pair_0 ⟨by omega, by omega, by omega, by omega, ?_⟩
  rw [h.1.sz v0.1 v0.2, h.1.sz w0.1 w0.2, ← lX, ← lY]
  have g := pr_out (Ω := Ω) (σ0 := σ0) (m := m) (F := MQi Ω σ0 m rm_Mdl_pair (fun y μ' => y = (prW (XL lb (vtx V v)) (XL lb (vtx V w))).2 ∧ Fr [] [29, 30] [] μ μ' ∧ ∀ k, k < (XL lb (vtx V v)).length → mA μ' 30 k = (prW (XL lb (vtx V v)) (XL lb (vtx V w))).1 k)) h rfl rfl (fun μ' hF hT => pr_walk h rfl rfl ((XL lb (vtx V v)).length + (XL lb (vtx V w)).length + 1) 0 0 0 (fun _ => -1) μ' (by omega) (Nat.zero_le _) (Nat.zero_le _) (Nat.le_refl _) (fun g hg => wk_fuel _ _ _ _ _ _ (by omega) (by omega)) (hF.mono (fun _ h => h) (by decide) (fun _ h => h)) hT (fun k hk => absurd hk (by omega)) (fun _ _ => rfl)) ((XL lb (vtx V v)).length + 1) μ (Nat.le_refl _) Fr.rf (fun p j h1 h2 h3 => by omega)
  rw [show (((XL lb (vtx V v)).length + 1 : Nat) : Int) + -1 = ((XL lb (vtx V v)).length : Nat) by omega] at g
  exact g
end PRM
