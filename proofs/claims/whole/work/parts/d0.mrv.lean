/-! BY HAND: the reference's reviews and notes -/
section MRV
variable {Ω : Om} {m : Nat} {μ : Mu} {S : St} {v w p q g : Int}
theorem ReM.at (h : MdV S μ) (hq : isR S q) : RvM μ q.toNat (rvO S q) := by
  have hl : q.toNat < (sR S).length := by have := hq.1; have := hq.2; omega
  refine h.2.2.2.2.2.2.2.2.1 q.toNat (rvO S q) ?_
  unfold rvO
  rw [List.getD_eq_getElem?_getD, List.getElem?_eq_getElem hl, Option.getD_some]
theorem cntV_st (V : Nat → Int) (ld : Int) : stR V ld = if ld ≠ 0 then 2 else if (cntV V 2 6 : Nat) ≠ 0 then 0 else if 2 ≤ cntV V 1 6 then 1 else 0 := rfl
theorem cntV_succ (V : Nat → Int) (x : Int) (n : Nat) : cntV V x (n + 1) = cntV V x n + if V n = x then 1 else 0 := rfl
theorem stateOf_loop {σ0 : Sto} {V : Nat → Int} {ld : Int} (hq : 0 ≤ q ∧ q < 20) (h26 : mA μ 26 q.toNat = ld) (h27 : ∀ k, k < 6 → mA μ 27 (6 * q.toNat + k) = V k) : ∀ (d i : Nat), i + d = 6 → Mw Ω σ0 m M_Mdl_stateOf rm_Mdl_stateOf (MQi Ω σ0 m rm_Mdl_stateOf (fun y μ' => y = stR V ld ∧ μ' = μ)) 7 [xr (some m), xi q, xi (cntV V 1 i : Nat), xi (cntV V 2 i : Nat), xi i] [] μ := by
  intro d
  induction d with
  | zero =>
    intro i hi
    have e : i = 6 := by omega
    subst e
    refine B_stateOf_7 ⟨by omega, fun _ => ⟨by omega, by omega, fun c => ?_, fun c => ?_⟩, fun c => absurd (by omega) c⟩
    · rw [h26] at c
      have b1 : cntV V 1 6 ≤ 6 := cntV_le V 1 6
      have b2 : cntV V 2 6 ≤ 6 := cntV_le V 2 6
      have e0 := cntV_st V ld
      rw [if_neg (fun z => z c)] at e0
      refine ⟨by omega, fun c2 => R_stateOf_95 ⟨?_, rfl⟩, fun c2 => ⟨by omega, fun c3 => R_stateOf_95 ⟨?_, rfl⟩, fun c3 => R_stateOf_95 ⟨?_, rfl⟩⟩⟩
      · rw [e0]; split
        · rfl
        · rw [if_neg (by omega)]
      · rw [e0, if_pos (by omega)]
      · rw [e0, if_neg (by omega), if_pos (by omega)]
    · rw [h26] at c
      refine R_stateOf_95 ⟨?_, rfl⟩
      rw [cntV_st, if_pos c]
  | succ d ih =>
    intro i hi
    have hV := h27 i (by omega)
    have ei : (6 * q + (i : Int)).toNat = 6 * q.toNat + i := by omega
    have b1 : cntV V 1 i ≤ i := cntV_le V 1 i
    have b2 : cntV V 2 i ≤ i := cntV_le V 2 i
    have g := ih (i + 1) (by omega)
    rw [cntV_succ, cntV_succ] at g
    refine B_stateOf_7 ⟨by omega, fun c => absurd c (by omega), fun _ => ⟨by omega, by omega, fun c => ⟨fun c2 => ?_, fun c2 => ?_⟩, fun c => ⟨fun c2 => ?_, fun c2 => ?_⟩⟩⟩
    · rw [ei, hV] at c c2
      rw [if_neg c, if_neg c2] at g; exact g
    · rw [ei, hV] at c c2
      rw [if_neg c, if_pos c2] at g; exact g
    · rw [ei, hV] at c c2
      rw [if_pos c, if_neg c2] at g; exact g
    · rw [ei, hV] at c c2
      rw [if_pos c, if_pos c2] at g; exact g
theorem K_stateOf {V : Nat → Int} {ld : Int} (hq : 0 ≤ q ∧ q < 20) (h26 : mA μ 26 q.toNat = ld) (h27 : ∀ k, k < 6 → mA μ 27 (6 * q.toNat + k) = V k) : MMi Ω m M_Mdl_stateOf rm_Mdl_stateOf (fun y μ' => y = stR V ld ∧ μ' = μ) μ [xi q] :=
  E_stateOf fun σ0 => B_stateOf_0 (stateOf_loop hq h26 h27 6 0 rfl)
theorem X_reviewState (h : MdV S μ) (hp : Q32 p) : MMi Ω m M_Mdl_reviewState rm_Mdl_reviewState (OutI S (c1 (0 ≤ p ∧ p < (sR S).length)) (stR ((sR S).getD p.toNat rev0).2.2.2 ((sR S).getD p.toNat rev0).2.2.1) S) μ [xi p] := by
  have h20 := h.2.2.2.2.2.2.2.1
  refine E_reviewState fun σ0 => B_reviewState_0 ?_
  refine C_reviewState_3 (K_isReview h hp) fun y μ1 hq => ?_
  obtain ⟨rfl, rfl⟩ := hq
  refine B_reviewState_6 ⟨bI_q, fun c => ?_, fun c => ?_⟩
  · have c' := bI_0.mp c
    refine C_reviewState_14 (K_refused (by decide)) fun y μ2 hq => ?_
    obtain ⟨rfl, rfl⟩ := hq
    refine B_reviewState_17 ⟨bI_q, fun c2 => absurd c2 (by decide), fun _ => ?_⟩
    refine R_reviewState_29 ?_
    rw [c1_f c']; exact OutI.no h (by decide)
  · have c' := bI_1.mp c
    obtain ⟨r1, r2, r3, r4⟩ := ReM.at h c'
    refine C_reviewState_14 (K_refused (by decide)) fun y μ2 hq => ?_
    obtain ⟨rfl, rfl⟩ := hq
    refine B_reviewState_17 ⟨bI_q, fun _ => ?_, fun c2 => absurd (show bI ((0 : Int) ≠ 0) = 0 by decide) c2⟩
    rw [c1_t c']
    refine C_reviewState_26 (K_stateOf (V := (rvO S p).2.2.2) (ld := (rvO S p).2.2.1) ⟨c'.1, by have := c'.2; omega⟩ (by rw [mA_wI]; exact r3) (fun k hk => by rw [mA_wI]; exact r4 k hk)) fun y μ1 hq => ?_
    obtain ⟨rfl, rfl⟩ := hq
    exact R_reviewState_29 (OutI.ok mw0 rfl h.w0)
/-- codes of a call whose second word is the third kind -/
def cd2 (c : Nat) : Nat := if c = 3 then 2 else c
theorem MdV.upR {S : St} {R : List RR'} {μ' : Mu} {fs js : List Nat} (h : MdV S μ) (k : Fr fs js [] μ μ') (h1 : ∀ x ∈ fs, x = 0 ∨ x = 38) (h2 : ∀ x ∈ js, x = 24 ∨ x = 25 ∨ x = 26 ∨ x = 27) (hR : ReM R μ') : MdV (setR S R) μ' := by
  obtain ⟨a1, a2, a3, a4, a5, a6, a7⟩ := h
  have f : ∀ x, x ≠ 0 → x ≠ 38 → x ∉ fs := fun x q1 q2 z => by rcases h1 x z with e | e <;> contradiction
  have j : ∀ x, x < 24 → x ∉ js := fun x q1 z => by rcases h2 x z with e | e | e | e <;> omega
  refine ⟨a1.fr k (f _ (by decide) (by decide)) (j _ (by decide)) (j _ (by decide)) List.not_mem_nil, a2.fr k (f _ (by decide) (by decide)) ⟨j _ (by decide), j _ (by decide), j _ (by decide), j _ (by decide), j _ (by decide)⟩, a3.fr k (f _ (by decide) (by decide)) ⟨f _ (by decide) (by decide), f _ (by decide) (by decide), f _ (by decide) (by decide), f _ (by decide) (by decide), f _ (by decide) (by decide), f _ (by decide) (by decide), f _ (by decide) (by decide)⟩ ⟨j _ (by decide), j _ (by decide), j _ (by decide), j _ (by decide), j _ (by decide), j _ (by decide)⟩, a4.fr k ⟨f _ (by decide) (by decide), f _ (by decide) (by decide)⟩ ⟨j _ (by decide), j _ (by decide)⟩, a5.fr k (f _ (by decide) (by decide)) ⟨j _ (by decide), j _ (by decide), j _ (by decide), j _ (by decide)⟩ ⟨List.not_mem_nil, List.not_mem_nil⟩, a6.fr k (f _ (by decide) (by decide)) (j _ (by decide)), hR⟩
theorem X_review (h : MdV S μ) (hv : Q32 v) (hw : Q32 w) : MMi Ω m M_Mdl_review rm_Mdl_review (OutI S (cd2 (o_review S v w).1) (o_review S v w).2.1 (o_review S v w).2.2) μ [xi v, xi w] := by
  have h40 := h.2.1.2.1
  obtain ⟨r1, r2, r3, r4⟩ := h.2.2.2.2.2.2
  refine E_review fun σ0 => B_review_0 ?_
  have fin : ∀ y : Int, Mw Ω σ0 m M_Mdl_review rm_Mdl_review (MQi Ω σ0 m rm_Mdl_review (OutI S (cd2 (o_review S v w).1) (o_review S v w).2.1 (o_review S v w).2.2)) 54 [xr (some m), xi v, xi w, xi y] [xi 1, xr (some m)] μ ∨ (isV S v ∧ v ≠ 0 ∧ (w = -1 ∨ isR S w)) := fun y => by
    by_cases c' : isV S v ∧ v ≠ 0 ∧ (w = -1 ∨ isR S w)
    · exact Or.inr c'
    · have e : cd2 (o_review S v w).1 = 1 := by show cd2 (c2 _ _ 1 3) = 1; rw [c2_1 c']; rfl
      left
      refine C_review_54 (K_refused (by decide)) fun y μ2 hq => ?_
      obtain ⟨rfl, rfl⟩ := hq
      refine B_review_57 ⟨bI_q, fun c2 => absurd c2 (by decide), fun _ => ?_⟩
      refine R_review_61 ?_
      rw [e]; exact OutI.no h (by decide)
  have full : ∀ y : Int, isV S v ∧ v ≠ 0 ∧ (w = -1 ∨ isR S w) → (mI μ 38 = 20) → Mw Ω σ0 m M_Mdl_review rm_Mdl_review (MQi Ω σ0 m rm_Mdl_review (OutI S (cd2 (o_review S v w).1) (o_review S v w).2.1 (o_review S v w).2.2)) 54 [xr (some m), xi v, xi w, xi y] [xi 2, xr (some m)] μ := fun y c' c3 => by
    have e : cd2 (o_review S v w).1 = 2 := by show cd2 (c2 _ _ 1 3) = 2; rw [c2_2 c' (by omega)]; rfl
    refine C_review_54 (K_refused (by decide)) fun y μ2 hq => ?_
    obtain ⟨rfl, rfl⟩ := hq
    refine B_review_57 ⟨bI_q, fun c2 => absurd c2 (by decide), fun _ => ?_⟩
    refine R_review_61 ?_
    rw [e]; exact OutI.no h (by decide)
  have good : ∀ y : Int, isV S v ∧ v ≠ 0 ∧ (w = -1 ∨ isR S w) → ¬ (mI μ 38 = 20) → Mw Ω σ0 m M_Mdl_review rm_Mdl_review (MQi Ω σ0 m rm_Mdl_review (OutI S (cd2 (o_review S v w).1) (o_review S v w).2.1 (o_review S v w).2.2)) 54 [xr (some m), xi v, xi w, xi y] [xi 0, xr (some m)] μ := fun y c' c3 => by
    have hl : (sR S).length < 20 := by omega
    have e : cd2 (o_review S v w).1 = 0 := by show cd2 (c2 _ _ 1 3) = 0; rw [c2_t c' hl]; rfl
    obtain ⟨z1, z2⟩ := r4 (sR S).length (Nat.le_refl _) hl
    refine C_review_54 (K_refused (by decide)) fun y μ2 hq => ?_
    obtain ⟨rfl, rfl⟩ := hq
    refine B_review_57 ⟨bI_q, fun _ => ?_, fun c2 => absurd (show bI ((0 : Int) ≠ 0) = 0 by decide) c2⟩
    rw [e, mI_wI, if_neg (by decide), r1, Int.toNat_natCast]
    refine ⟨by omega, by omega, hv, by omega, by omega, hw, by omega, B_review_92 (R_review_98 (OutI.ok ?_ ?_ ?_))⟩
    · rw [mI_wI, if_neg (by decide), mI_wA, mI_wA, mw0]
    · rw [mI_wI, if_pos rfl]; show _ = (((sR S).length : Nat) : Int); omega
    · refine h.w0.upR (fs := [38]) (js := [24, 25]) (((Fr.wA (by decide)).trans (Fr.wA (by decide))).trans (Fr.wI (by decide))) (by decide) (by decide) ⟨?_, ?_, fun i r hi => ?_, fun i hi hi2 => ?_⟩
      · rw [mI_wI, if_pos rfl, List.length_append]; rfl
      · rw [List.length_append]; show (sR S).length + 1 ≤ 20; omega
      · rw [List.getElem?_append] at hi
        by_cases c5 : i < (sR S).length
        · rw [if_pos c5] at hi
          obtain ⟨g1, g2, g3, g4⟩ := r3 i r hi
          refine ⟨?_, ?_, ?_, fun k hk => ?_⟩
          · rw [mA_wI, mA_wA, if_neg (fun z => absurd z.1 (by decide)), mA_wA, if_neg (by omega)]; exact g1
          · rw [mA_wI, mA_wA, if_neg (by omega), mA_wA, if_neg (fun z => absurd z.1 (by decide))]; exact g2
          · rw [mA_wI, mA_wA, if_neg (fun z => absurd z.1 (by decide)), mA_wA, if_neg (fun z => absurd z.1 (by decide))]; exact g3
          · rw [mA_wI, mA_wA, if_neg (fun z => absurd z.1 (by decide)), mA_wA, if_neg (fun z => absurd z.1 (by decide))]; exact g4 k hk
        · rw [if_neg c5] at hi
          have e6 : i = (sR S).length := by have := (List.getElem?_eq_some_iff.mp hi).1; simp at this; omega
          subst e6
          rw [Nat.sub_self] at hi
          cases hi
          refine ⟨?_, ?_, ?_, fun k hk => ?_⟩
          · rw [mA_wI, mA_wA, if_neg (fun z => absurd z.1 (by decide)), mA_wA, if_pos ⟨rfl, rfl⟩]
          · rw [mA_wI, mA_wA, if_pos ⟨rfl, rfl⟩]
          · rw [mA_wI, mA_wA, if_neg (fun z => absurd z.1 (by decide)), mA_wA, if_neg (fun z => absurd z.1 (by decide))]; exact z1
          · rw [mA_wI, mA_wA, if_neg (fun z => absurd z.1 (by decide)), mA_wA, if_neg (fun z => absurd z.1 (by decide))]; exact z2 k hk
      · rw [List.length_append] at hi
        obtain ⟨y1, y2⟩ := r4 i (by omega) hi2
        refine ⟨?_, fun k hk => ?_⟩
        · rw [mA_wI, mA_wA, if_neg (fun z => absurd z.1 (by decide)), mA_wA, if_neg (fun z => absurd z.1 (by decide))]; exact y1
        · rw [mA_wI, mA_wA, if_neg (fun z => absurd z.1 (by decide)), mA_wA, if_neg (fun z => absurd z.1 (by decide))]; exact y2 k hk
  refine C_review_2 (K_isVersion hv h.2.1.1 h40) fun y μ1 hq => ?_
  obtain ⟨rfl, rfl⟩ := hq
  refine B_review_5 ⟨bI_q, fun c => ?_, fun c => ⟨hv, fun c1 => ?_, fun c1 => ⟨hw, fun c2 => ⟨fun c3 => good _ ⟨bI_1.mp c, c1, Or.inl c2⟩ c3, fun c3 => full _ ⟨bI_1.mp c, c1, Or.inl c2⟩ c3⟩, fun c2 => ?_⟩⟩⟩
  · exact (fin 0).resolve_right (fun z => bI_0.mp c z.1)
  · exact (fin 0).resolve_right (fun z => z.2.1 c1)
  · refine C_review_19 (K_isReview h hw) fun y μ1 hq => ?_
    obtain ⟨rfl, rfl⟩ := hq
    refine B_review_22 ⟨bI_q, fun c3 => (fin 0).resolve_right (fun z => z.2.2.elim c2 (bI_0.mp c3)), fun c3 => ⟨fun c4 => good _ ⟨bI_1.mp c, c1, Or.inr (bI_1.mp c3)⟩ c4, fun c4 => full _ ⟨bI_1.mp c, c1, Or.inr (bI_1.mp c3)⟩ c4⟩⟩
end MRV
