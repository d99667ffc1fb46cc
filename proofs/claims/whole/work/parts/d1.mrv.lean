/-! BY HAND: verdict, land, note, noteAt, hunk -/
section MRV
variable {Ω : Om} {m : Nat} {μ : Mu} {S : St} {v w p q g : Int}
theorem set_get {α : Type} {l : List α} {i j : Nat} {x y : α} (h : (l.set i x)[j]? = some y) : (j = i ∧ y = x) ∨ (j ≠ i ∧ l[j]? = some y) := by
  rw [List.getElem?_set] at h
  by_cases e : i = j
  · rw [if_pos e] at h
    split at h
    · exact Or.inl ⟨e.symm, (Option.some.inj h).symm⟩
    · cases h
  · rw [if_neg e] at h
    exact Or.inr ⟨fun z => e z.symm, h⟩
/-- one review anew -/
theorem ReM.set {R : List RR'} {i : Nat} {r : RR'} {μ' : Mu} (h : ReM R μ) (hi : i < R.length) (h0 : mI μ' 38 = mI μ 38) (h1 : RvM μ' i r) (h2 : ∀ j, j ≠ i → mA μ' 24 j = mA μ 24 j ∧ mA μ' 25 j = mA μ 25 j ∧ mA μ' 26 j = mA μ 26 j ∧ ∀ k, k < 6 → mA μ' 27 (6 * j + k) = mA μ 27 (6 * j + k)) : ReM (R.set i r) μ' := by
  obtain ⟨a1, a2, a3, a4⟩ := h
  refine ⟨by rw [h0, List.length_set]; exact a1, by rw [List.length_set]; exact a2, fun j x hx => ?_, fun j hj hj2 => ?_⟩
  · rcases set_get hx with ⟨rfl, rfl⟩ | ⟨e, hx⟩
    · exact h1
    · obtain ⟨g1, g2, g3, g4⟩ := a3 j x hx
      obtain ⟨f1, f2, f3, f4⟩ := h2 j e
      exact ⟨f1.trans g1, f2.trans g2, f3.trans g3, fun k hk => (f4 k hk).trans (g4 k hk)⟩
  · rw [List.length_set] at hj
    obtain ⟨g3, g4⟩ := a4 j hj hj2
    obtain ⟨f1, f2, f3, f4⟩ := h2 j (by omega)
    exact ⟨f3.trans g3, fun k hk => (f4 k hk).trans (g4 k hk)⟩
theorem X_verdict (h : MdV S μ) (hrv : ∀ r ∈ sR S, isV S r.1) (hld : ∀ r ∈ sR S, r.2.2.1 = 0 ∨ r.2.2.1 = 1) (hq : Q32 q) (hp : Q32 p) (hg : Q32 g) : MMi Ω m M_Mdl_verdict rm_Mdl_verdict (OutI S (cd2 (o_verdict S q p g).1) (o_verdict S q p g).2.1 (o_verdict S q p g).2.2) μ [xi q, xi p, xi g] := by
  have h40 := h.2.1.2.1
  have h20 := h.2.2.2.2.2.2.2.1
  refine E_verdict fun σ0 => B_verdict_0 ?_
  have bad : ∀ y z : Int, ¬ (isR S q ∧ isP p) → Mw Ω σ0 m M_Mdl_verdict rm_Mdl_verdict (MQi Ω σ0 m rm_Mdl_verdict (OutI S (cd2 (o_verdict S q p g).1) (o_verdict S q p g).2.1 (o_verdict S q p g).2.2)) 78 [xr (some m), xi q, xi p, xi g, xi y, xi z] [xi 1, xr (some m)] μ := fun y z c' => by
    have e : cd2 (o_verdict S q p g).1 = 1 := by show cd2 (c2 _ _ 1 3) = 1; rw [c2_1 c']; rfl
    refine C_verdict_78 (K_refused (by decide)) fun y μ2 hq => ?_
    obtain ⟨rfl, rfl⟩ := hq
    refine B_verdict_81 ⟨bI_q, fun c2 => absurd c2 (by decide), fun _ => ?_⟩
    refine R_verdict_85 ?_
    rw [e]; exact OutI.no h (by decide)
  have bad2 : ∀ y z : Int, isR S q ∧ isP p → ¬ ((rvO S q).2.2.1 = 0 ∧ vrA (vrO (sV S) (rvO S q).1.toNat) ≠ p) → Mw Ω σ0 m M_Mdl_verdict rm_Mdl_verdict (MQi Ω σ0 m rm_Mdl_verdict (OutI S (cd2 (o_verdict S q p g).1) (o_verdict S q p g).2.1 (o_verdict S q p g).2.2)) 78 [xr (some m), xi q, xi p, xi g, xi y, xi z] [xi 2, xr (some m)] μ := fun y z c' d' => by
    have e : cd2 (o_verdict S q p g).1 = 2 := by show cd2 (c2 _ _ 1 3) = 2; rw [c2_2 c' d']; rfl
    refine C_verdict_78 (K_refused (by decide)) fun y μ2 hq => ?_
    obtain ⟨rfl, rfl⟩ := hq
    refine B_verdict_81 ⟨bI_q, fun c2 => absurd c2 (by decide), fun _ => ?_⟩
    refine R_verdict_85 ?_
    rw [e]; exact OutI.no h (by decide)
  have good : ∀ y z : Int, isR S q ∧ isP p → ((rvO S q).2.2.1 = 0 ∧ vrA (vrO (sV S) (rvO S q).1.toNat) ≠ p) → Mw Ω σ0 m M_Mdl_verdict rm_Mdl_verdict (MQi Ω σ0 m rm_Mdl_verdict (OutI S (cd2 (o_verdict S q p g).1) (o_verdict S q p g).2.1 (o_verdict S q p g).2.2)) 78 [xr (some m), xi q, xi p, xi g, xi y, xi z] [xi 0, xr (some m)] μ := fun y z c' d' => by
    have e : cd2 (o_verdict S q p g).1 = 0 := by show cd2 (c2 _ _ 1 3) = 0; rw [c2_t c' d']; rfl
    obtain ⟨r1, r2, r3, r4⟩ := ReM.at h c'.1
    have q1 := c'.1.1
    have q2 := c'.1.2
    have p1 := c'.2.1
    have p2 := c'.2.2
    have ei : (6 * q + p).toNat = 6 * q.toNat + p.toNat := by omega
    have go : ∀ x : Int, (x = if g = 0 then 2 else 1) → Mw Ω σ0 m M_Mdl_verdict rm_Mdl_verdict (MQi Ω σ0 m rm_Mdl_verdict (OutI S (cd2 (o_verdict S q p g).1) (o_verdict S q p g).2.1 (o_verdict S q p g).2.2)) 108 [xr (some m), xi q, xi p, xi g, xi y, xi z] [xi q, xr (some m)] (wA (wI μ 0 0) 27 (6 * q + p).toNat x) := fun x hx => by
      have hV : ∀ k, k < 6 → mA (wA (wI μ 0 0) 27 (6 * q + p).toNat x) 27 (6 * q.toNat + k) = up1 (rvO S q).2.2.2 p.toNat (if g = 0 then 2 else 1) k := fun k hk => by
        rw [mA_wA, ei, ← hx]
        unfold up1
        by_cases e3 : k = p.toNat
        · rw [if_pos ⟨rfl, by omega⟩, if_pos e3]
        · rw [if_neg (by omega), if_neg e3]; exact r4 k hk
      refine C_verdict_108 (K_stateOf (V := up1 (rvO S q).2.2.2 p.toNat (if g = 0 then 2 else 1)) (ld := (rvO S q).2.2.1) ⟨q1, by omega⟩ (by rw [mA_wA, if_neg (fun z => absurd z.1 (by decide))]; exact r3) hV) fun y μ1 hq => ?_
      obtain ⟨rfl, rfl⟩ := hq
      refine R_verdict_111 ?_
      rw [e]
      refine OutI.ok (by rw [mI_wA]; exact mw0) rfl (h.w0.upR (fs := []) (js := [27]) (Fr.wA (by decide)) (by decide) (by decide) (ReM.set h.2.2.2.2.2.2 (by omega) rfl ⟨?_, ?_, ?_, hV⟩ (fun j hj => ⟨?_, ?_, ?_, fun k hk => ?_⟩)))
      · rw [mA_wA, if_neg (fun z => absurd z.1 (by decide))]; exact r1
      · rw [mA_wA, if_neg (fun z => absurd z.1 (by decide))]; exact r2
      · rw [mA_wA, if_neg (fun z => absurd z.1 (by decide))]; exact r3
      · rw [mA_wA, if_neg (fun z => absurd z.1 (by decide))]; rfl
      · rw [mA_wA, if_neg (fun z => absurd z.1 (by decide))]; rfl
      · rw [mA_wA, if_neg (fun z => absurd z.1 (by decide))]; rfl
      · rw [mA_wA, if_neg (by omega)]; rfl
    refine C_verdict_78 (K_refused (by decide)) fun y μ2 hq => ?_
    obtain ⟨rfl, rfl⟩ := hq
    refine B_verdict_81 ⟨bI_q, fun _ => ?_, fun c2 => absurd (show bI ((0 : Int) ≠ 0) = 0 by decide) c2⟩
    exact ⟨hg, fun c3 => ⟨by omega, by omega, go 2 (if_pos c3).symm⟩, fun c3 => ⟨by omega, by omega, go 1 (if_neg c3).symm⟩⟩
  refine C_verdict_2 (K_isReview h hq) fun y μ1 hq => ?_
  obtain ⟨rfl, rfl⟩ := hq
  refine B_verdict_5 ⟨bI_q, fun c => ?_, fun c => ?_⟩
  · exact B_verdict_19 (B_verdict_20 ⟨by decide, fun _ => B_verdict_55 ⟨by decide, fun z => absurd rfl z, fun _ => bad _ _ (fun z => bI_0.mp c z.1)⟩, fun z => absurd rfl z⟩)
  · have c' := bI_1.mp c
    obtain ⟨r1, r2, r3, r4⟩ := ReM.at h c'
    have q1 := c'.1
    have q2 := c'.2
    have hmem : rvO S q ∈ sR S := by
      have hl : q.toNat < (sR S).length := by omega
      unfold rvO
      rw [List.getD_eq_getElem?_getD, List.getElem?_eq_getElem hl, Option.getD_some]
      exact List.getElem_mem _
    have v1 := hrv _ hmem
    have l1 := hld _ hmem
    refine C_verdict_9 (k_isPerson hp) fun y hq => ?_
    subst hq
    refine B_verdict_12 ⟨bI_q, fun d => ?_, fun d => ?_⟩
    · exact B_verdict_19 (B_verdict_20 ⟨by decide, fun _ => B_verdict_55 ⟨by decide, fun z => absurd rfl z, fun _ => bad _ _ (fun z => bI_0.mp d z.2)⟩, fun z => absurd rfl z⟩)
    · have d' := bI_1.mp d
      have ver := h.2.1.2.2 (rvO S q).1.toNat (by have := v1.1; have := v1.2; omega)
      refine B_verdict_20 ⟨by decide, fun z => absurd z (by decide), fun _ => ⟨q1, by omega, fun c3 => ?_, fun c3 => ⟨q1, by omega, ?_⟩⟩⟩
      · rw [r3] at c3
        exact B_verdict_55 ⟨by decide, fun _ => bad2 _ _ ⟨c', d'⟩ (fun z => c3 z.1), fun z => absurd z (by decide)⟩
      · rw [r3] at c3
        rw [r1, ver.2.1]
        refine ⟨v1.1, by have := v1.2; omega, hp, fun c4 => ?_, fun c4 => ?_⟩
        · exact B_verdict_55 ⟨by decide, fun _ => bad2 _ _ ⟨c', d'⟩ (fun z => z.2 c4), fun z => absurd z (by decide)⟩
        · exact B_verdict_56 ⟨by decide, fun _ => ⟨by decide, fun z => absurd z (by decide), fun _ => good _ _ ⟨c', d'⟩ ⟨c3, c4⟩⟩, fun z => absurd z (by decide)⟩
theorem lnG_take {R : List RR'} {q : Int} {i : Nat} (h : i < R.length) : lnG (R.take (i + 1)) q = lnG (R.take i) q + if R[i].2.1 = q ∧ R[i].2.2.1 = 0 then 1 else 0 := by
  unfold lnG
  rw [List.take_add_one, List.getElem?_eq_getElem h, List.countP_append]
  congr 1
  show List.countP _ [R[i]] = _
  rw [List.countP_singleton]
  simp
theorem land_loop {σ0 : Sto} {R : List RR'} {Q : Int → Mu → Prop} {v2 v3 : Int} (h : ReM R μ) (hq : Q32 q) (hQ : Q (lnG R q) μ) : ∀ (d i : Nat), i + d = R.length → Mw Ω σ0 m M_Mdl_land rm_Mdl_land (MQi Ω σ0 m rm_Mdl_land Q) 88 [xr (some m), xi q, xi v2, xi v3, xi (lnG (R.take i) q), xi i] [] μ := by
  intro d
  obtain ⟨h1, h2, h3, -⟩ := h
  induction d with
  | zero =>
    intro i hi
    refine B_land_88 ⟨by omega, fun _ => R_land_136 ?_, fun c => absurd (by omega) c⟩
    rw [List.take_of_length_le (by omega)]; exact hQ
  | succ d ih =>
    intro i hi
    have li : i < R.length := by omega
    obtain ⟨r1, r2, r3, r4⟩ := h3 i _ (List.getElem?_eq_getElem li)
    have g := ih (i + 1) (by omega)
    rw [lnG_take li] at g
    refine B_land_88 ⟨by omega, fun c => absurd c (by omega), fun _ => ⟨by omega, by omega, hq, fun c => ?_, fun c => ⟨by omega, by omega, fun c2 => ?_, fun c2 => ?_⟩⟩⟩
    · rw [Int.toNat_natCast, r2] at c
      rw [if_neg (fun z => c z.1)] at g; exact g
    · rw [Int.toNat_natCast, r3] at c2
      rw [if_neg (fun z => c2 z.2)] at g; exact g
    · rw [Int.toNat_natCast] at c c2
      rw [r2] at c
      rw [r3] at c2
      rw [if_pos ⟨c, c2⟩] at g; exact g
theorem stR_2 {V : Nat → Int} {ld : Int} : stR V ld = 2 ↔ ld ≠ 0 := by
  unfold stR
  by_cases h : ld ≠ 0
  · rw [if_pos h]; exact ⟨fun _ => h, fun _ => rfl⟩
  · rw [if_neg h]
    refine ⟨fun z => ?_, fun z => absurd z h⟩
    split at z
    · cases z
    · split at z <;> cases z
theorem X_land (h : MdV S μ) (hon : ∀ r ∈ sR S, r.2.1 = -1 ∨ isR S r.2.1) (hq : Q32 q) : MMi Ω m M_Mdl_land rm_Mdl_land (OutI S (cd2 (o_land S q).1) (o_land S q).2.1 (o_land S q).2.2) μ [xi q] := by
  have h20 := h.2.2.2.2.2.2.2.1
  refine E_land fun σ0 => B_land_0 ?_
  have bad : ∀ y z : Int, ¬ isR S q → Mw Ω σ0 m M_Mdl_land rm_Mdl_land (MQi Ω σ0 m rm_Mdl_land (OutI S (cd2 (o_land S q).1) (o_land S q).2.1 (o_land S q).2.2)) 67 [xr (some m), xi q, xi y, xi z, xu, xu] [xi 1, xr (some m)] μ := fun y z c' => by
    have e : cd2 (o_land S q).1 = 1 := by show cd2 (c2 _ _ 1 3) = 1; rw [c2_1 c']; rfl
    refine C_land_67 (K_refused (by decide)) fun y μ2 hq => ?_
    obtain ⟨rfl, rfl⟩ := hq
    refine B_land_70 ⟨bI_q, fun c2 => absurd c2 (by decide), fun _ => ?_⟩
    refine R_land_74 ?_
    rw [e]; exact OutI.no h (by decide)
  have bad2 : ∀ y z : Int, isR S q → ¬ (rvS (rvO S q) = 1 ∧ ((rvO S q).2.1 = -1 ∨ rvS (rvO S (rvO S q).2.1) = 2)) → Mw Ω σ0 m M_Mdl_land rm_Mdl_land (MQi Ω σ0 m rm_Mdl_land (OutI S (cd2 (o_land S q).1) (o_land S q).2.1 (o_land S q).2.2)) 67 [xr (some m), xi q, xi y, xi z, xu, xu] [xi 2, xr (some m)] μ := fun y z c' d' => by
    have e : cd2 (o_land S q).1 = 2 := by show cd2 (c2 _ _ 1 3) = 2; rw [c2_2 c' d']; rfl
    refine C_land_67 (K_refused (by decide)) fun y μ2 hq => ?_
    obtain ⟨rfl, rfl⟩ := hq
    refine B_land_70 ⟨bI_q, fun c2 => absurd c2 (by decide), fun _ => ?_⟩
    refine R_land_74 ?_
    rw [e]; exact OutI.no h (by decide)
  have good : ∀ y z : Int, isR S q → (rvS (rvO S q) = 1 ∧ ((rvO S q).2.1 = -1 ∨ rvS (rvO S (rvO S q).2.1) = 2)) → Mw Ω σ0 m M_Mdl_land rm_Mdl_land (MQi Ω σ0 m rm_Mdl_land (OutI S (cd2 (o_land S q).1) (o_land S q).2.1 (o_land S q).2.2)) 67 [xr (some m), xi q, xi y, xi z, xu, xu] [xi 0, xr (some m)] μ := fun y z c' d' => by
    have e : cd2 (o_land S q).1 = 0 := by show cd2 (c2 _ _ 1 3) = 0; rw [c2_t c' d']; rfl
    obtain ⟨r1, r2, r3, r4⟩ := ReM.at h c'
    have q1 := c'.1
    have q2 := c'.2
    have hl : q.toNat < (sR S).length := by omega
    have hR : ReM (ldR S q) (wA (wI μ 0 0) 26 q.toNat 1) := by
      refine ReM.set h.2.2.2.2.2.2 hl rfl ⟨?_, ?_, ?_, fun k hk => ?_⟩ (fun j hj => ⟨?_, ?_, ?_, fun k hk => ?_⟩)
      · rw [mA_wA, if_neg (fun z => absurd z.1 (by decide))]; exact r1
      · rw [mA_wA, if_neg (fun z => absurd z.1 (by decide))]; exact r2
      · rw [mA_wA, if_pos ⟨rfl, rfl⟩]
      · rw [mA_wA, if_neg (fun z => absurd z.1 (by decide))]; exact r4 k hk
      · rw [mA_wA, if_neg (fun z => absurd z.1 (by decide))]; rfl
      · rw [mA_wA, if_neg (fun z => absurd z.1 (by decide))]; rfl
      · rw [mA_wA, if_neg (fun z => hj z.2)]; rfl
      · rw [mA_wA, if_neg (fun z => absurd z.1 (by decide))]; rfl
    refine C_land_67 (K_refused (by decide)) fun y μ2 hq => ?_
    obtain ⟨rfl, rfl⟩ := hq
    refine B_land_70 ⟨bI_q, fun _ => ?_, fun c2 => absurd (show bI ((0 : Int) ≠ 0) = 0 by decide) c2⟩
    refine ⟨q1, by omega, land_loop hR hq ?_ (ldR S q).length 0 (by omega)⟩
    rw [e]
    exact OutI.ok (by rw [mI_wA]; exact mw0) rfl (h.w0.upR (fs := []) (js := [26]) (Fr.wA (by decide)) (by decide) (by decide) hR)
  refine C_land_2 (K_isReview h hq) fun y μ1 hq => ?_
  obtain ⟨rfl, rfl⟩ := hq
  refine B_land_5 ⟨bI_q, fun c => ⟨fun z => absurd c z, fun _ => bad _ _ (bI_0.mp c)⟩, fun c => ?_⟩
  have c' := bI_1.mp c
  obtain ⟨r1, r2, r3, r4⟩ := ReM.at h c'
  have q1 := c'.1
  have q2 := c'.2
  have hmem : rvO S q ∈ sR S := by
    have hl : q.toNat < (sR S).length := by omega
    unfold rvO
    rw [List.getD_eq_getElem?_getD, List.getElem?_eq_getElem hl, Option.getD_some]
    exact List.getElem_mem _
  refine C_land_12 (K_stateOf (V := (rvO S q).2.2.2) (ld := (rvO S q).2.2.1) ⟨q1, by omega⟩ r3 r4) fun y μ1 hq => ?_
  obtain ⟨rfl, rfl⟩ := hq
  have hst : Q32 (stR (rvO S q).2.2.2 (rvO S q).2.2.1) := by unfold stR; split; exact ⟨by decide, by decide⟩; split; exact ⟨by decide, by decide⟩; split <;> exact ⟨by decide, by decide⟩
  have go47 : ∀ x, x = bI (isR S q) → ¬ (rvS (rvO S q) = 1 ∧ ((rvO S q).2.1 = -1 ∨ rvS (rvO S (rvO S q).2.1) = 2)) → Mw Ω σ0 m M_Mdl_land rm_Mdl_land (MQi Ω σ0 m rm_Mdl_land (OutI S (cd2 (o_land S q).1) (o_land S q).2.1 (o_land S q).2.2)) 47 [xr (some m), xi q, xi x, xu, xu, xu] [] μ1 := fun x hx hn => by
    subst hx
    exact B_land_47 ⟨bI_q, fun _ => bad2 _ _ c' hn, fun z => absurd z c⟩
  have go43 : ∀ x, x = bI (isR S q) → (rvS (rvO S q) = 1 ∧ ((rvO S q).2.1 = -1 ∨ rvS (rvO S (rvO S q).2.1) = 2)) → Mw Ω σ0 m M_Mdl_land rm_Mdl_land (MQi Ω σ0 m rm_Mdl_land (OutI S (cd2 (o_land S q).1) (o_land S q).2.1 (o_land S q).2.2)) 43 [xr (some m), xi q, xi x, xu, xu, xu] [] μ1 := fun x hx hn => by
    subst hx
    exact B_land_43 ⟨bI_q, fun _ => good _ _ c' hn, fun z => absurd z c⟩
  refine B_land_15 ⟨hst, fun d => go47 _ rfl (fun z => d z.1), fun d => ⟨q1, by omega, fun d2 => ?_, fun d2 => ?_⟩⟩
  · rw [r2] at d2
    exact go43 _ rfl ⟨d, Or.inl d2⟩
  · rw [r2] at d2
    have on := (hon _ hmem).resolve_left d2
    obtain ⟨s1, s2, s3, s4⟩ := ReM.at h on
    have o1 := on.1
    have o2 := on.2
    rw [r2, s3]
    exact ⟨o1, by omega, fun d3 => go47 _ rfl (fun z => z.2.elim d2 (fun y => stR_2.mp y d3)), fun d3 => go43 _ rfl ⟨d, Or.inr (stR_2.mpr d3)⟩⟩
end MRV
