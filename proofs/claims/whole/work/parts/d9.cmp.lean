/-! BY HAND: compare, by the reference -/
theorem bst_taken {X Y : List Int64} {P M : Nat → Int} (hall : ∀ k, k < X.length → M k ≠ -1 ∨ P k ≠ -1) : (bst X Y P M).1 = 0 := by
  rcases Nat.eq_zero_or_pos (bst X Y P M).1 with h | h
  · exact h
  · have o := okM_iff.mp (bst_ok (X := X) (Y := Y) (P := P) (M := M) 0 h)
    rcases hall _ o.1 with z | z
    · exact absurd o.2.2.2.1 z
    · exact absurd o.2.2.1 z
/-- how many lines are in no move yet -/
def frN (M : Nat → Int) : Nat → Nat
  | 0 => 0
  | n + 1 => frN M n + if M n = -1 then 1 else 0
theorem frN_le {M M' : Nat → Int} : ∀ n, (∀ k, k < n → M' k = -1 → M k = -1) → frN M' n ≤ frN M n
  | 0, _ => Nat.le_refl _
  | n + 1, h => by
    have := frN_le n (fun k hk => h k (by omega))
    simp only [frN]
    by_cases c : M' n = -1
    · rw [if_pos c, if_pos (h n (by omega) c)]; omega
    · rw [if_neg c]; omega
theorem frN_lt {M M' : Nat → Int} : ∀ n, (∀ k, k < n → M' k = -1 → M k = -1) → (∃ k, k < n ∧ M k = -1 ∧ M' k ≠ -1) → frN M' n < frN M n
  | 0, _, ⟨k, hk, _⟩ => absurd hk (Nat.not_lt_zero _)
  | n + 1, h, ⟨k, hk, h1, h2⟩ => by
    simp only [frN]
    by_cases e : k = n
    · subst e
      have := frN_le k (fun j hj => h j (by omega))
      rw [if_pos h1, if_neg h2]; omega
    · have := frN_lt n (fun j hj => h j (by omega)) ⟨k, by omega, h1, h2⟩
      by_cases c : M' n = -1
      · rw [if_pos c, if_pos (h n (by omega) c)]; omega
      · rw [if_neg c]; omega
theorem frN_ub (M : Nat → Int) : ∀ n, frN M n ≤ n
  | 0 => Nat.le_refl _
  | n + 1 => by have := frN_ub M n; simp only [frN]; split <;> omega
theorem tkM_lt {X Y : List Int64} {P M : Nat → Int} (h : 0 < (bst X Y P M).1) : frN (tkM X Y P M) X.length < frN M X.length := by
  have o := okM_iff.mp (bst_ok (X := X) (Y := Y) (P := P) (M := M) 0 h)
  rw [Nat.add_zero] at o
  refine frN_lt X.length (fun k _ hk => ?_) ⟨_, o.1, o.2.2.2.1, ?_⟩
  · unfold tkM tkS at hk
    split at hk
    · omega
    · exact hk
  · unfold tkM tkS
    rw [if_pos ⟨Nat.le_refl _, by omega⟩]
    omega
theorem mvF_more {X Y : List Int64} {P : Nat → Int} : ∀ (f : Nat) (M : Nat → Int), frN M X.length ≤ f → (bst X Y P (mvF X Y P f M)).1 = 0
  | 0, M, h => by
    show (bst X Y P M).1 = 0
    rcases Nat.eq_zero_or_pos (bst X Y P M).1 with q | q
    · exact q
    · have := tkM_lt q; omega
  | f + 1, M, h => by
    show (bst X Y P (if 0 < (bst X Y P M).1 then mvF X Y P f (tkM X Y P M) else M)).1 = 0
    by_cases q : 0 < (bst X Y P M).1
    · rw [if_pos q]
      have := tkM_lt q
      exact mvF_more f _ (by omega)
    · rw [if_neg q]; omega
section CM9
variable {Ω : Om} {m : Nat} {μ : Mu} {S : St} {v w lb : Int}
theorem compare_moves {σ0 : Sto} {V : List VR} {b : BR} {X Y : List Int64} {P : Nat → Int} {Mf : Nat → Int} {n : Int} {Q : Int → Mu → Prop} (eX : X = XL lb (vtx V v)) (eY : Y = XL lb (vtx V w)) (hQ : ∀ μ', Fr [] [16] [] μ μ' → CmI X P Mf μ' → Q n μ') : ∀ (f : Nat) (M : Nat → Int) (μ1 : Mu) (v5 : Int), mvF X Y P f M = Mf → frN M X.length ≤ f → PrH V b v w lb μ1 → Fr [] [16] [] μ μ1 → CmI X P M μ1 → Mw Ω σ0 m M_Mdl_compare rm_Mdl_compare (MQi Ω σ0 m rm_Mdl_compare Q) 106 [xr (some m), xi v, xi w, xi lb, xi n, xi v5] [xi lb, xi w, xi v, xr (some m)] μ1 := by
  intro f
  induction f with
  | zero =>
    intro M μ1 v5 hm hf hP hF hC
    refine C_compare_106 (K_findMove hP eX eY hC) fun y μ2 hq => ?_
    obtain ⟨rfl, g1, g2⟩ := hq
    have e0 : (bst X Y P M).1 = 0 := mvF_more 0 M hf
    refine B_compare_109 (B_compare_97 ⟨bI_q, fun _ => R_compare_116 (hQ _ (hF.trans g1) ?_), fun c => absurd (bI_1.mp c) (by omega)⟩)
    have et : tkM X Y P M = M := by unfold tkM; rw [e0, tkS_0]
    rw [et] at g2
    rw [← hm]; exact g2
  | succ f ih =>
    intro M μ1 v5 hm hf hP hF hC
    refine C_compare_106 (K_findMove hP eX eY hC) fun y μ2 hq => ?_
    obtain ⟨rfl, g1, g2⟩ := hq
    refine B_compare_109 (B_compare_97 ⟨bI_q, fun c => R_compare_116 (hQ _ (hF.trans g1) ?_), fun c => ?_⟩)
    · have c' := bI_0.mp c
      have e0 : (bst X Y P M).1 = 0 := by omega
      have et : tkM X Y P M = M := by unfold tkM; rw [e0, tkS_0]
      rw [et] at g2
      have : mvF X Y P (f + 1) M = M := by show (if 0 < (bst X Y P M).1 then _ else M) = M; rw [if_neg c']
      rw [← hm, this]; exact g2
    · have c' := bI_1.mp c
      have : mvF X Y P (f + 1) M = mvF X Y P f (tkM X Y P M) := by show (if 0 < (bst X Y P M).1 then _ else M) = _; rw [if_pos c']
      have lt := tkM_lt c'
      exact ih (tkM X Y P M) μ2 _ (by rw [← this]; exact hm) (by omega) (hP.fr g1 (by decide) (by decide) (by decide)) (hF.trans g1) g2
theorem compare_copy {σ0 : Sto} {X : List Int64} {P : Nat → Int} {n : Int} {F : QF} (h26 : mI μ 26 = X.length) (h20 : X.length ≤ 20) (h30 : ∀ k, k < X.length → mA μ 30 k = P k) (out : ∀ μ' k5, Fr [] [15, 16] [] μ μ' → CmI X P (fun _ => -1) μ' → Mw Ω σ0 m M_Mdl_compare rm_Mdl_compare F 106 [xr (some m), xi v, xi w, xi lb, xi n, xi k5] [xi lb, xi w, xi v, xr (some m)] μ') : ∀ (d k : Nat) (μ1 : Mu), k + d = X.length → Fr [] [15, 16] [] μ μ1 → (∀ j, j < k → mA μ1 15 j = P j ∧ mA μ1 16 j = -1) → Mw Ω σ0 m M_Mdl_compare rm_Mdl_compare F 57 [xr (some m), xi v, xi w, xi lb, xi n, xi k] [] μ1 := by
  intro d
  induction d with
  | zero =>
    intro k μ1 hk hF hC
    have e := (hF.1 26 (by decide)).trans h26
    refine B_compare_57 ⟨by omega, fun _ => B_compare_97 ⟨by decide, fun z => absurd z (by decide), fun _ => out μ1 1 hF ⟨e, fun j hj => hC j (by omega)⟩⟩, fun c => absurd (by omega) c⟩
  | succ d ih =>
    intro k μ1 hk hF hC
    have e := (hF.1 26 (by decide)).trans h26
    have ep := h30 k (by omega)
    refine B_compare_57 ⟨by omega, fun c => absurd c (by omega), fun _ => ⟨by omega, by omega, by omega, by omega, by omega, by omega, ?_⟩⟩
    rw [Int.toNat_natCast, hF.2.1 30 (by decide), ep]
    refine ih (k + 1) _ (by omega) ((hF.trans (Fr.wA (by decide))).trans (Fr.wA (by decide))) (fun j hj => ⟨?_, ?_⟩)
    · rw [mA_wA, if_neg (fun z => absurd z.1 (by decide)), mA_wA]
      by_cases c : j = k
      · rw [if_pos ⟨rfl, c⟩, c]
      · rw [if_neg (fun z => c z.2)]; exact (hC j (by omega)).1
    · rw [mA_wA]
      by_cases c : j = k
      · rw [if_pos ⟨rfl, c⟩]
      · rw [if_neg (fun z => c z.2), mA_wA, if_neg (fun z => absurd z.1 (by decide))]; exact (hC j (by omega)).2
theorem X_compare (h : MdV S μ) (h20 : ∀ v : Int, (vtx (sV S) v).length ≤ 20) (hN : ∀ v : Int, Nm (sB S) (vtx (sV S) v)) (hv : Q32 v) (hw : Q32 w) (hlb : Q32 lb) : MMi Ω m M_Mdl_compare rm_Mdl_compare (OutI S (o_compare S v w lb).1 (o_compare S v w lb).2.1 (o_compare S v w lb).2.2) μ [xi v, xi w, xi lb] := by
  have h40 := h.2.1.2.1
  refine E_compare fun σ0 => B_compare_0 ?_
  have bad : ¬ (isV S v ∧ isV S w) → Mw Ω σ0 m M_Mdl_compare rm_Mdl_compare (MQi Ω σ0 m rm_Mdl_compare (OutI S (o_compare S v w lb).1 (o_compare S v w lb).2.1 (o_compare S v w lb).2.2)) 22 [xr (some m), xi v, xi w, xi lb, xu, xu] [xi 1, xr (some m)] μ := fun c' => by
    have e : (o_compare S v w lb).1 = 1 := c1_f c'
    refine C_compare_22 (K_refused (by decide)) fun y μ2 hq => ?_
    obtain ⟨rfl, rfl⟩ := hq
    refine B_compare_25 ⟨bI_q, fun c2 => absurd c2 (by decide), fun _ => ?_⟩
    refine R_compare_29 ?_
    rw [e]; exact OutI.no h (by decide)
  refine C_compare_3 (K_isVersion hv h.2.1.1 h40) fun y μ1 hq => ?_
  obtain ⟨rfl, rfl⟩ := hq
  refine B_compare_6 ⟨bI_q, fun c => bad (fun z => bI_0.mp c z.1), fun c => ?_⟩
  refine C_compare_11 (K_isVersion hw h.2.1.1 h40) fun y μ1 hq => ?_
  obtain ⟨rfl, rfl⟩ := hq
  refine B_compare_14 ⟨bI_q, fun d => bad (fun z => bI_0.mp d z.2), fun d => ?_⟩
  have c' := bI_1.mp c
  have d' := bI_1.mp d
  have ec : (o_compare S v w lb).1 = 0 := c1_t ⟨c', d'⟩
  have v0 := c'.1
  have v1 := c'.2
  refine C_compare_22 (K_refused (by decide)) fun y μ2 hq => ?_
  obtain ⟨rfl, rfl⟩ := hq
  refine B_compare_25 ⟨bI_q, fun _ => ?_, fun c2 => absurd (show bI ((0 : Int) ≠ 0) = 0 by decide) c2⟩
  have hw0 := h.w0 (v := 0)
  have lX := XL_len lb (vtx (sV S) v)
  have l20 := h20 v
  have hP : PrH (sV S) (sB S) v w lb (wI μ1 0 0) := ⟨hw0.2.1, h20, hw0.1, hN, c', d', hlb⟩
  refine C_compare_34 (K_pair hP) fun y μ3 hq => ?_
  obtain ⟨rfl, hF3, h30⟩ := hq
  have hP3 := hP.fr hF3 (by decide) (by decide) (by decide)
  refine B_compare_37 ⟨v0, by omega, ?_⟩
  rw [hP3.1.sz v0 v1, ← lX]
  refine compare_copy (X := XL lb (vtx (sV S) v)) (P := (prW (XL lb (vtx (sV S) v)) (XL lb (vtx (sV S) w))).1) (by rw [mI_wI, if_pos rfl]) (by omega) (fun k hk => by rw [mA_wI, mA_wI]; exact h30 k (by omega)) (fun μ4 k5 hF4 hC4 => ?_) (XL lb (vtx (sV S) v)).length 0 _ (by omega) Fr.rf (fun j hj => absurd hj (by omega))
  have hF5 : Fr [0, 25, 26, 53] [15, 16, 28, 29, 30, 31, 32, 33, 34, 35, 36, 37] [] (wI μ1 0 0) μ4 := ((hF3.mono (by decide) (by decide) (by decide)).trans ((Fr.wI (by decide)).trans (Fr.wI (by decide)))).trans (hF4.mono (by decide) (by decide) (by decide))
  refine compare_moves (μ := μ4) (V := sV S) (b := sB S) (X := XL lb (vtx (sV S) v)) (Y := XL lb (vtx (sV S) w)) (P := (prW (XL lb (vtx (sV S) v)) (XL lb (vtx (sV S) w))).1) (Mf := mvF (XL lb (vtx (sV S) v)) (XL lb (vtx (sV S) w)) (prW (XL lb (vtx (sV S) v)) (XL lb (vtx (sV S) w))).1 20 (fun _ => -1)) rfl rfl (fun μ5 hF6 hC6 => ?_) 20 (fun _ => -1) μ4 k5 rfl (by have := frN_ub (fun _ => -1) (XL lb (vtx (sV S) v)).length; omega) (hP.fr hF5 (by decide) (by decide) (by decide)) Fr.rf hC4
  rw [ec]
  have hF7 : Fr [0, 25, 26, 53] [15, 16, 28, 29, 30, 31, 32, 33, 34, 35, 36, 37] [] (wI μ1 0 0) μ5 := hF5.trans (hF6.mono (by decide) (by decide) (by decide))
  refine OutI.ok ?_ rfl (hw0.upC hF7 ⟨?_, fun X Y P M n e => ?_⟩)
  · rw [hF6.1 0 (by decide), hF4.1 0 (by decide), mI_wI, if_neg (by decide), mI_wI, if_neg (by decide), hF3.1 0 (by decide)]; exact mw0
  · rw [hF6.1 25 (by decide), hF4.1 25 (by decide), mI_wI, if_neg (by decide), mI_wI, if_pos rfl]; rfl
  · cases e
    exact ⟨hC6.1, by omega, hC6.2⟩
end CM9
