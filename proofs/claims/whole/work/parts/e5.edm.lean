/-! BY HAND: edits of the draft, by the reference, 3 -/
theorem IdV.ext {b b' : BR} {μ : Mu} (h : IdV b μ) (hn : bkN b' = bkN b) (hs : ∀ i, i < bkN b → bkS b' i = bkS b i ∧ bkA b' i = bkA b i ∧ bkO b' i = bkO b i) : IdV b' μ := by
  obtain ⟨h1, h2, h3⟩ := h
  refine ⟨by rw [hn]; exact h1, by rw [hn]; exact h2, fun i hi => ?_⟩
  rw [hn] at hi
  obtain ⟨g1, g2, g3⟩ := hs i hi
  rw [g1, g2, g3]; exact h3 i hi
/-- authors are persons -/
def AuI (b : BR) : Prop := ∀ i, i < bkN b → isP (bkA b i)
def auF (F : List (Int64 × Int)) (au : Nat → Int) (a : Int) (x : Int64) : Int := match F.find? (fun y => decide (y.1 = x)) with | some y => au y.2.toNat | none => a
theorem auF_cons {F : List (Int64 × Int)} {au : Nat → Int} {a : Int} {x : Int64} {y : Int64 × Int} : auF (y :: F) au a x = if y.1 = x then au y.2.toNat else auF F au a x := by
  unfold auF
  rw [List.find?_cons]
  by_cases h : y.1 = x
  · rw [decide_eq_true h, if_pos h]
  · rw [decide_eq_false h, if_neg h]
theorem apA_eq {F : List (Int64 × Int)} {b : BR} {a : Int} {x : Int64} (hN : Nm b F) : apA F (bkN b) (bkA b) a x = if lenL (ltL x) < 4 then a else auF F (bkA b) a x := by
  unfold apA auF
  by_cases h : lenL (ltL x) < 4
  · rw [if_pos h, if_pos h]
  · rw [if_neg h, if_neg h]
    cases hf : F.find? (fun y => decide (y.1 = x)) with
    | none => rfl
    | some y =>
      have n := hN y (List.mem_of_find?_eq_some hf)
      show (if 0 ≤ y.2 ∧ y.2 < (bkN b : Int) then _ else _) = _
      rw [if_pos ⟨n.1, n.2.1⟩]
theorem auF_p {F : List (Int64 × Int)} {b : BR} {a : Int} {x : Int64} (hN : Nm b F) (hA : AuI b) (ha : isP a) : isP (auF F (bkA b) a x) := by
  unfold auF
  cases hf : F.find? (fun y => decide (y.1 = x)) with
  | none => exact ha
  | some y =>
    have n := hN y (List.mem_of_find?_eq_some hf)
    exact hA _ (by omega)
theorem apA_p {F : List (Int64 × Int)} {b : BR} {a : Int} {x : Int64} (hN : Nm b F) (hA : AuI b) (ha : isP a) : isP (apA F (bkN b) (bkA b) a x) := by
  rw [apA_eq hN]
  split
  · exact ha
  · exact auF_p hN hA ha
section EDO
variable {Ω : Om} {m : Nat} {μ : Mu} {S : St} {p q v w : Int} {l : Int64}
theorem putIn_loop {σ0 : Sto} {F : QF} {V : List VR} {b : BR} {T : List (Int64 × Int)} {a w1 : Int} (hV : VeV V μ) (hI : IdV b μ) (e12 : mI μ 12 = w1) (h0 : 0 ≤ w1) (h1 : w1 < V.length) (eT : T = vtx V w1) (hN : Nm b T) (h20 : T.length ≤ 20) (hl : isLn l = true) (out : ∀ z : Int, Mw Ω σ0 m M_Mdl_putIn rm_Mdl_putIn F 91 [xr (some m), xl l, xu, xi (if lenL (ltL l) < 4 then a else auF T (bkA b) a l), xi z] [xi (-1), xi (if lenL (ltL l) < 4 then a else auF T (bkA b) a l), xl l, xr (some m)] μ) : ∀ (k : Nat), k ≤ T.length → (lenL (ltL l) < 4 → k = T.length) → Mw Ω σ0 m M_Mdl_putIn rm_Mdl_putIn F 18 [xr (some m), xl l, xu, xi (auF (T.drop k) (bkA b) a l), xi ((k : Int) - 1)] [] μ := by
  have h40 := hV.2.1
  have b12 := hI.2.1
  have hend : auF (T.drop T.length) (bkA b) a l = a := by rw [List.drop_length]; rfl
  intro k
  induction k with
  | zero =>
    intro hk h4
    refine B_putIn_18 ⟨by omega, fun _ => ?_, fun c => absurd (by omega) c⟩
    rw [List.drop_zero]
    have e : auF T (bkA b) a l = if lenL (ltL l) < 4 then a else auF T (bkA b) a l := by
      by_cases c : lenL (ltL l) < 4
      · have := h4 c
        have et : T = [] := List.length_eq_zero_iff.mp this.symm
        rw [if_pos c, et]; rfl
      · rw [if_neg c]
    rw [e]
    exact out _
  | succ k ih =>
    intro hk h4
    refine B_putIn_18 ⟨by omega, fun c => absurd c (by omega), fun _ => ?_⟩
    refine C_putIn_24 (k_letters) fun y hq => ?_
    subst hq
    rw [lcN_eq hl]
    have le := lenL_le (ltL l)
    obtain ⟨y, hy⟩ : ∃ y, T[k]? = some y := ⟨_, List.getElem?_eq_getElem (by omega)⟩
    have n1 := hN.at hy
    have t1 := hV.tx h0 h1 (k := k) (x := y) (by rw [← eT]; exact hy)
    obtain ⟨g1, g2, g3⟩ := hI.2.2 y.2.toNat (by omega)
    have e1 : (20 * w1 + (((k + 1 : Nat) : Int) - 1)).toNat = 20 * w1.toNat + k := by omega
    have ed : T.drop k = y :: T.drop (k + 1) := by
      have lk := (List.getElem?_eq_some_iff.mp hy)
      rw [List.drop_eq_getElem_cons lk.1, lk.2]
    have i1 := ih (by omega)
    rw [ed, auF_cons] at i1
    refine B_putIn_27 ?_
    rw [e12, e1, t1, g1, n1.2.2.1, g2]
    refine ⟨by omega, fun c => ?_, fun c => ⟨by omega, by omega, n1.1, by omega, cmpL_r _ _, fun d => ?_, fun d => ⟨n1.1, by omega, ?_⟩⟩⟩
    · have e := h4 (by omega)
      rw [e, hend]
      have := out (((k + 1 : Nat) : Int) - 1)
      rw [if_pos (by omega)] at this
      rw [← e]
      exact this
    · rw [cmpL_0] at d
      rw [if_neg d] at i1
      have e : (((k + 1 : Nat) : Int) - 1 + -1) = (k : Int) - 1 := by omega
      rw [e]; exact i1 (fun z => absurd z (by omega))
    · rw [cmpL_0] at d
      rw [if_pos d] at i1
      have e : (((k + 1 : Nat) : Int) - 1 + -1) = (k : Int) - 1 := by omega
      rw [e]; exact i1 (fun z => absurd z (by omega))
theorem K_putIn {V : List VR} {b : BR} {a w1 : Int} (hV : VeV V μ) (hI : IdV b μ) (e12 : mI μ 12 = w1) (e14 : mI μ 14 = a) (h0 : 0 ≤ w1) (h1 : w1 < V.length) (hN : Nm b (vtx V w1)) (h20 : (vtx V w1).length ≤ 20) (hA : AuI b) (ha : isP a) (h12 : bkN b < 12000) (hl : isLn l = true) : MMi Ω m M_Mdl_putIn rm_Mdl_putIn (fun y μ' => y = bkN b ∧ Fr [1] [2, 3] [1] μ μ' ∧ IdV (bkP b l (apA (vtx V w1) (bkN b) (bkA b) a l) (-1)) μ') μ [xl l] := by
  have h40 := hV.2.1
  refine E_putIn fun σ0 => B_putIn_0 ?_
  rw [e12, e14, hV.sz h0 h1]
  refine ⟨by omega, by omega, ?_⟩
  have X := putIn_loop (Ω := Ω) (σ0 := σ0) (m := m) (F := MQi Ω σ0 m rm_Mdl_putIn (fun y μ' => y = bkN b ∧ Fr [1] [2, 3] [1] μ μ' ∧ IdV (bkP b l (apA (vtx V w1) (bkN b) (bkA b) a l) (-1)) μ')) (a := a) hV hI e12 h0 h1 rfl hN h20 hl (fun z => ?_) (vtx V w1).length (Nat.le_refl _) (fun _ => rfl)
  · rw [List.drop_length] at X
    exact X
  · rw [← apA_eq hN]
    have hp := apA_p (x := l) hN hA ha
    refine C_putIn_91 (K_id hI h12 (by omega) (by decide)) fun y μ1 hq => R_putIn_94 hq
theorem nmL_named {F : List (Int64 × Int)} {w : Int} : ∀ (T : List (Int64 × Int)) (n : Nat) (au og : Nat → Int), (∀ y ∈ T, y.2 ≠ -1) → nmL F w T n au og = (T, n, au, og)
  | [], n, au, og, _ => rfl
  | x :: T, n, au, og, h => by
    rw [nmL, if_neg (h x (List.mem_cons_self ..)), nmL_named T n au og (fun y hy => h y (List.mem_cons_of_mem _ hy))]
theorem nmL_ins {F : List (Int64 × Int)} {w : Int} : ∀ (T : List (Int64 × Int)) (i n : Nat) (au og : Nat → Int), (∀ y ∈ T, y.2 ≠ -1) → i ≤ T.length → nmL F w (T.insertIdx i (l, -1)) n au og = (T.insertIdx i (l, (n : Int)), n + 1, up1 au n (apA F n au w l), up1 og n (-1))
  | T, 0, n, au, og, h, _ => by
    show nmL F w ((l, -1) :: T) n au og = ((l, (n : Int)) :: T, _)
    rw [nmL, if_pos rfl, nmL_named T _ _ _ h]
  | [], i + 1, n, au, og, h, hi => absurd hi (Nat.not_succ_le_zero _)
  | x :: T, i + 1, n, au, og, h, hi => by
    have ih := nmL_ins (F := F) (w := w) T i n au og (fun y hy => h y (List.mem_cons_of_mem _ hy)) (Nat.le_of_succ_le_succ hi)
    show nmL F w (x :: T.insertIdx i (l, -1)) n au og = (x :: T.insertIdx i (l, (n : Int)), _)
    rw [nmL, if_neg (h x (List.mem_cons_self ..)), ih]
/-- a book with one name more, by the class's words -/
theorem idv_sg {b : BR} {T' : List (Int64 × Int)} {a o : Int} (hI : IdV (bkP b l a o) μ) (hT : ∀ y ∈ T', (0 ≤ y.2 ∧ y.2 < bkN b ∧ bkS b y.2.toNat = y.1) ∨ y = (l, (bkN b : Int))) (hx : (l, (bkN b : Int)) ∈ T') : IdV (bkN b + 1, sgN (bkS b) T', up1 (bkA b) (bkN b) a, up1 (bkO b) (bkN b) o) μ := by
  refine hI.ext rfl (fun i hi => ⟨?_, rfl, rfl⟩)
  show sgN (bkS b) T' i = up1 (bkS b) (bkN b) l i
  unfold sgN
  cases hf : T'.find? (fun y => decide (y.2 = (i : Int))) with
  | none =>
    have := List.find?_eq_none.mp hf _ hx
    have e : i ≠ bkN b := fun z => this (decide_eq_true (by rw [z]))
    show bkS b i = up1 (bkS b) (bkN b) l i
    unfold up1; rw [if_neg e]
  | some y =>
    have h1 : y.2 = (i : Int) := by
      have := List.find?_some hf
      exact of_decide_eq_true this
    show y.1 = up1 (bkS b) (bkN b) l i
    unfold up1
    rcases hT y (List.mem_of_find?_eq_some hf) with g | g
    · rw [if_neg (by omega), ← g.2.2, h1, Int.toNat_natCast]
    · rw [g] at h1 ⊢
      rw [if_pos (show i = bkN b by have : (bkN b : Int) = i := h1; omega)]
theorem RowV.set {R : List Int} {i : Nat} {x : Int} (h : RowV R μ) (hi : i < R.length) : RowV (R.set i x) (wA μ 9 i x) := by
  refine ⟨by rw [List.length_set]; exact h.1, by rw [List.length_set]; exact h.2.1, fun k y hk => ?_⟩
  rw [mA_wA]
  rw [List.getElem?_set] at hk
  by_cases c : i = k
  · rw [if_pos c, if_pos (c ▸ hi)] at hk
    rw [if_pos ⟨rfl, c.symm⟩]; exact Option.some.inj hk
  · rw [if_neg c] at hk
    rw [if_neg (fun z => c z.2.symm)]; exact h.2.2 k y hk
theorem X_insert (h : MdV S μ) (h20 : ∀ v : Int, (vtx (sV S) v).length ≤ 20) (hN : ∀ v : Int, Nm (sB S) (vtx (sV S) v)) (hNm : NmD S) (hAu : AuI (sB S)) (hE : ∀ r, sD S = some r → (drE r).length < 640 ∧ (drT r).length ≤ 20 ∧ isV S (dr1 r) ∧ isP (drA r)) (h12 : bkN (sB S) < 12000) (hp : Q32 p) : MMi Ω m M_Mdl_insert rm_Mdl_insert (OutI S (o_insert S p l).1 (o_insert S p l).2.1 (o_insert S p l).2.2) μ [xi p, xl l] := by
  refine E_insert fun σ0 => B_insert_0 ?_
  cases hD0 : sD S with
  | none =>
    have e11 := DM.no h hD0
    have c' : ¬ (0 ≤ p ∧ p < dsz S + 1) := by rw [dsz_none hD0]; omega
    have e : (o_insert S p l).1 = 1 := c3_1 c'
    refine ⟨fun _ => ?_, fun c => absurd e11 c⟩
    refine C_insert_68 (K_refused (by decide)) fun y μ2 hq => ?_
    obtain ⟨rfl, rfl⟩ := hq
    refine B_insert_71 ⟨bI_q, fun c2 => absurd c2 (by decide), fun _ => ?_⟩
    refine R_insert_75 ?_
    rw [e]; exact OutI.no h (by decide)
  | some r0 =>
    have e11 := DM.yes h hD0
    obtain ⟨hE1, hE2, hE3, hE4⟩ := hE r0 hD0
    have hM := h.2.2.1.2 r0 hD0
    obtain ⟨R0, q1, q2, q3⟩ := hM.2.2.1
    have ez := dsz_some hD0
    refine ⟨fun c => absurd c (by omega), fun _ => ?_⟩
    refine C_insert_10 (K_lineCount q2) fun y μ1 hq => ?_
    obtain ⟨rfl, rfl⟩ := hq
    have lr := q1.ln
    rw [List.length_map] at lr
    rw [lr]
    refine C_insert_13 (k_in hp (by decide) (by omega)) fun y hq => ?_
    subst hq
    refine B_insert_16 ⟨bI_q, fun c => ?_, fun c => ?_⟩
    · have c' : ¬ (0 ≤ p ∧ p < dsz S + 1) := fun z => bI_0.mp c (by omega)
      have e : (o_insert S p l).1 = 1 := c3_1 c'
      refine C_insert_68 (K_refused (by decide)) fun y μ2 hq => ?_
      obtain ⟨rfl, rfl⟩ := hq
      refine B_insert_71 ⟨bI_q, fun c2 => absurd c2 (by decide), fun _ => ?_⟩
      refine R_insert_75 ?_
      rw [e]; exact OutI.no h (by decide)
    have c1' := bI_1.mp c
    have c' : 0 ≤ p ∧ p < dsz S + 1 := by omega
    refine C_insert_37 (k_isLine) fun y hq => ?_
    subst hq
    refine B_insert_40 ⟨bI_q, fun d => ?_, fun d => ?_⟩
    · have d' := bI_1.mp d
      refine C_insert_48 (K_settledS h hD0) fun y μ1 hq => ?_
      obtain ⟨rfl, rfl⟩ := hq
      have bad3 : ¬ (whB S = true ∧ (drT (drO S)).length < 20) → Mw Ω σ0 m M_Mdl_insert rm_Mdl_insert (MQi Ω σ0 m rm_Mdl_insert (OutI S (o_insert S p l).1 (o_insert S p l).2.1 (o_insert S p l).2.2)) 68 [xr (some m), xi p, xl l, xu, xi 1] [xi 3, xr (some m)] μ1 := fun g => by
        have e : (o_insert S p l).1 = 3 := c3_3 c' d' g
        refine C_insert_68 (K_refused (by decide)) fun y μ2 hq => ?_
        obtain ⟨rfl, rfl⟩ := hq
        refine B_insert_71 ⟨bI_q, fun c2 => absurd c2 (by decide), fun _ => ?_⟩
        refine R_insert_75 ?_
        rw [e]; exact OutI.no h (by decide)
      refine B_insert_51 ⟨bI_q, fun f => bad3 (fun z => bI_0.mp f z.1), fun f => ⟨fun g => ?_, fun g => bad3 ?_⟩⟩
      · have f' := bI_1.mp f
        obtain ⟨r, hD, eD, ho, hz, hV, hR, hl, hM⟩ := h.wh f'
        have er : r = r0 := by rw [hD0] at hD; exact (Option.some.inj hD).symm
        subst er
        have lt : (drT r).length < 20 := by
          have := hV.1
          rw [List.length_map] at this
          omega
        have e : (o_insert S p l).1 = 0 := c3_t c' d' ⟨f', by rw [eD]; exact lt⟩
        have hNr := hNm r hD
        refine C_insert_68 (K_refused (by decide)) fun y μ2 hq => ?_
        obtain ⟨rfl, rfl⟩ := hq
        refine B_insert_71 ⟨bI_q, fun _ => ?_, fun c2 => absurd (show bI ((0 : Int) ≠ 0) = 0 by decide) c2⟩
        have h0 := h.w0 (v := 0)
        have hV0 : RowV (nmT (drT r)) (wI μ1 0 0) := hV.fr (Fr.wI (fs := [0]) (js := []) (gs := []) (by decide)) (by decide) (by decide)
        have hM0 := h0.2.2.1.2 r hD
        refine C_insert_77 (K_remember hV0 hE1 (by rw [List.length_map]; exact hl) hM0.2.2.2.1) fun μ2 hq => ?_
        refine B_insert_80 (C_insert_84 (K_putIn (h0.2.1.fr hq.1 (by decide) (by decide)) (h0.1.fr hq.1 (by decide) (by decide) (by decide) (by decide)) ((hq.1.1 12 (by decide)).trans hM0.1.1) ((hq.1.1 14 (by decide)).trans hM0.1.2.2.1) hE3.1 hE3.2 (hN _) (h20 _) hAu hE4 h12 d') fun y μ3 hq2 => ?_)
        obtain ⟨rfl, k3, hI3⟩ := hq2
        have hV2 := hV0.fr hq.1 (by decide) (by decide)
        have hV3 := hV2.fr k3 (by decide) (by decide)
        rw [hz] at c'
        refine C_insert_87 (K_putAt hV3 (by rw [List.length_map]; omega) c'.1 (by rw [List.length_map]; omega) (by omega)) fun μ4 hq4 => B_insert_90 (R_insert_94 ?_)
        rw [e]
        have k4 : Fr [1, 15] [2, 3, 9] [1] μ2 μ4 := (k3.mono (by decide) (by decide) (by decide)).trans (hq4.1.mono (by decide) (by decide) (by decide))
        have z0 : mI μ4 0 = 0 := by rw [k4.1 0 (by decide), hq.1.1 0 (by decide)]; exact mw0
        have en : nmA' S ((drT (drO S)).insertIdx p.toNat (l, -1)) = ((drT r).insertIdx p.toNat (l, (bkN (sB S) : Int)), bkN (sB S) + 1, up1 (bkA (sB S)) (bkN (sB S)) (apA (vtx (sV S) (dr1 r)) (bkN (sB S)) (bkA (sB S)) (drA r) l), up1 (bkO (sB S)) (bkN (sB S)) (-1)) := by
          unfold nmA'
          rw [eD, nmL_ins (drT r) p.toNat _ _ _ (fun y hy => by have := (hNr y hy).1; omega) (by omega)]
          rfl
        have eR : nmT ((drT r).insertIdx p.toNat (l, (bkN (sB S) : Int))) = (nmT (drT r)).insertIdx p.toNat (bkN (sB S) : Int) := nmT_ins
        refine OutI.ok z0 ?_ ?_
        · rw [hq4.2.1]
          show _ = (((nmA' S ((drT (drO S)).insertIdx p.toNat (l, -1))).1.length : Nat) : Int)
          rw [en, ← eR, List.length_map]
        · show MdV (edS S (nmA' S ((drT (drO S)).insertIdx p.toNat (l, -1))).1 (drC (drO S)) _ (nmB S ((drT (drO S)).insertIdx p.toNat (l, -1)))) μ4
          unfold nmB
          rw [en, eD]
          have lI : ((nmT (drT r)).insertIdx p.toNat (bkN (sB S) : Int)).length = (drT r).length + 1 := by rw [List.length_insertIdx, List.length_map, if_pos (by omega)]
          have mem := fun z => List.mem_insertIdx (a := z) (b := (l, (bkN (sB S) : Int))) (show p.toNat ≤ (drT r).length by omega)
          refine h0.edit hD hR (by rw [List.length_map]; exact hl) hq (k4.mono (by decide) (by decide) (by decide)) (idv_sg (hI3.fr hq4.1 (by decide) (by decide) (by decide) (by decide)) (fun y hy => ?_) ((mem _).mpr (Or.inl rfl))) (R' := (nmT (drT r)).insertIdx p.toNat (bkN (sB S) : Int)) ?_ hq4.2 (by omega) ?_ ((hM0.2.1.fr hq.1 (by decide) (by decide)).fr k4 (by decide) (by decide)) ⟨rfl, rfl⟩
          · rcases (mem y).mp hy with g | g
            · exact Or.inr g
            · have := hNr y g; exact Or.inl ⟨this.1, this.2.1, this.2.2.1⟩
          · rw [eR]
            refine RwV.of ho (fun z hz => ?_)
            rcases (List.mem_insertIdx (show p.toNat ≤ (nmT (drT r)).length by rw [List.length_map]; omega)).mp hz with g | g
            · omega
            · exact nm_ge hNr z g
          · rw [k4.1 18 (by decide), hq.1.1 18 (by decide)]; exact hM0.1.2.2.2
      · intro z
        obtain ⟨r, hD, eD, ho, hz, hV, hR, hl, hM⟩ := h.wh z.1
        have := hV.1
        rw [List.length_map] at this
        rw [eD] at z
        omega
    · have d' := bI_0.mp d
      have e : (o_insert S p l).1 = 2 := c3_2 c' d'
      refine C_insert_68 (K_refused (by decide)) fun y μ2 hq => ?_
      obtain ⟨rfl, rfl⟩ := hq
      refine B_insert_71 ⟨bI_q, fun c2 => absurd c2 (by decide), fun _ => ?_⟩
      refine R_insert_75 ?_
      rw [e]; exact OutI.no h (by decide)
end EDO
