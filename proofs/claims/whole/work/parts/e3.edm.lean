/-! BY HAND: edits of the draft, by the reference -/
theorem opG_nil : ∀ (i : Nat) (cl : List Cnl), opn cl = 0 → opG i cl = []
  | _, [], _ => rfl
  | i, c :: cl, h => by
    unfold opn at h
    rw [List.countP_cons] at h
    simp only [opG]
    by_cases e : cnS c = 0
    · rw [if_pos (decide_eq_true e)] at h; omega
    · rw [if_neg e]
      exact opG_nil (i + 1) cl (by unfold opn; omega)
theorem opL_nil {cl : List Cnl} (h : opn cl = 0) : opL cl = [] := opG_nil 0 cl h
theorem RwV.wh {R N : List Int} {cl : List Cnl} (h : RwV R N cl) (ho : opn cl = 0) : R = N := by
  obtain ⟨h1, h2, _⟩ := h
  rw [opL_nil ho] at h2
  rw [← h1, List.filter_eq_self.mpr]
  intro y hy
  by_cases c : 0 ≤ y
  · exact decide_eq_true c
  · have : y ∈ R.filter (fun y => !decide (0 ≤ y)) := List.mem_filter.mpr ⟨hy, by rw [decide_eq_false c]; rfl⟩
    rw [h2] at this
    cases this
theorem RwV.of {N : List Int} {cl : List Cnl} (ho : opn cl = 0) (hN : ∀ y ∈ N, 0 ≤ y) : RwV N N cl := by
  refine ⟨List.filter_eq_self.mpr (fun y hy => decide_eq_true (hN y hy)), ?_, fun A C i c hR _ => ?_⟩
  · rw [opL_nil ho, List.filter_eq_nil_iff]
    intro y hy
    rw [decide_eq_true (hN y hy)]; decide
  · have := hN (-1 - (i : Int)) (by rw [hR]; exact List.mem_append_right _ (List.mem_cons_self ..))
    omega
abbrev NmD (S : St) : Prop := ∀ r, sD S = some r → Nm (sB S) (drT r)
section EDM
variable {Ω : Om} {m : Nat} {μ μ1 μ2 : Mu} {S : St} {p q v w : Int} {r : DR}
theorem nm_ge {b : BR} {T : List (Int64 × Int)} (h : Nm b T) : ∀ y ∈ nmT T, 0 ≤ y := fun y hy => by
  obtain ⟨z, h1, h2⟩ := List.mem_map.mp hy
  rw [← h2]; exact (h z h1).1
/-- a draft without open conflicts -/
theorem MdV.wh (h : MdV S μ) (hw : whB S = true) : ∃ r, sD S = some r ∧ drO S = r ∧ opn (drC r) = 0 ∧ dsz S = (drT r).length ∧ RowV (nmT (drT r)) μ ∧ RwV (nmT (drT r)) (nmT (drT r)) (drC r) ∧ (drT r).length ≤ 48 ∧ DrM (sV S) r μ := by
  obtain ⟨r, hD, ho⟩ := whB_iff.mp hw
  have hM := h.2.2.1.2 r hD
  obtain ⟨_, _, ⟨R, c1, c2, c3⟩, _⟩ := id hM
  have e := c1.wh ho
  subst e
  rw [List.length_map] at c3
  exact ⟨r, hD, drO_some hD, ho, dsz_some hD, c2, c1, c3, hM⟩
theorem K_settledS (h : MdV S μ) (hD : sD S = some r) : MMi Ω m M_Mdl_isSettled rm_Mdl_isSettled (fun y μ' => y = bI (whB S = true) ∧ μ' = μ) μ [] := by
  have hM := h.2.2.1.2 r hD
  have h18 := hM.1.2.2.2
  have h17 := hM.2.1.1
  have h21 := hM.2.1.2.1
  have q := (stB_q h21).2
  refine fun σ => ?_
  have := K_isSettled (Ω := Ω) (m := m) (μ := μ) (by rw [h17]; exact q) σ
  rw [h18, h17] at this
  have e : bI (stB (drC r) = bShl 1 ((drC r).length : Int) - 1) = bI (whB S = true) := bI_c (by rw [stB_all h21, whB_iff]; exact ⟨fun z => ⟨r, hD, z⟩, fun ⟨r', z1, z2⟩ => by rw [hD] at z1; cases z1; exact z2⟩)
  rw [e] at this
  exact this
/-- what an edit writes once the row is kept -/
abbrev Efr (μ μ' : Mu) : Prop := Fr [0, 1, 15, 18, 53] [2, 3, 9, 28, 29, 30, 31, 32, 33, 34, 35, 36, 37] [1] μ μ'
theorem MdV.edit {R R' : List Int} {T' : List (Int64 × Int)} {C' : List Cnl} {E : Edi} {B' : BR} (h : MdV S μ) (hD : sD S = some r) (hR : RwV R (nmT (drT r)) (drC r)) (h48 : R.length ≤ 48) (k1 : QRem μ R (drE r).length μ1) (k2 : Efr μ1 μ2) (hB : IdV B' μ2) (hR' : RwV R' (nmT T') C') (hV' : RowV R' μ2) (h48' : R'.length ≤ 48) (hs : mI μ2 18 = stB C') (hP : PcM (srcF (sV S) r) (srcS (sV S) r) (srcB (sV S) r) C' μ2) (eE : edB E = drT r ∧ edC E = drC r) : MdV (edS S T' C' E B') μ2 := by
  have hM := h.2.2.1.2 r hD
  have h11 := DM.yes h hD
  obtain ⟨k1a, k1b, k1c, k1d⟩ := k1
  have kk : Fr [0, 1, 15, 18, 53, 21] [2, 3, 9, 28, 29, 30, 31, 32, 33, 34, 35, 36, 37, 12, 13, 14] [1] μ μ2 := (k1a.mono (by decide) (by decide) (by decide)).trans (k2.mono (by decide) (by decide) (by decide))
  have eD := drO_some hD
  obtain ⟨⟨a1, a2, a3, a4⟩, b, c, d⟩ := hM
  refine h.upD (kk.mono (by decide) (by decide) (by decide)) rfl rfl rfl rfl rfl hB ⟨?_, fun r' hr' => ?_⟩
  · rw [kk.1 11 (by decide), h11]; rfl
  · have er : r' = (T', C', drE (drO S) ++ [E], drA (drO S), dr1 (drO S), dr2 (drO S), drB (drO S)) := (Option.some.inj hr').symm
    rw [eD] at er
    subst er
    refine ⟨⟨(kk.1 12 (by decide)).trans a1, (kk.1 13 (by decide)).trans a2, (kk.1 14 (by decide)).trans a3, hs⟩, hP, ⟨R', hR', hV', h48'⟩, ?_, fun e E' he => ?_⟩
    · rw [k2.1 21 (by decide), k1b]
      show _ = (((drE r ++ [E]).length : Nat) : Int)
      rw [List.length_append]; rfl
    · have he' : (drE r ++ [E])[e]? = some E' := he
      rcases snoc_get he' with ⟨h1, h2⟩ | ⟨h1, h2⟩
      · obtain ⟨R0, g1, g2, g3⟩ := d.2 e E' h2
        exact ⟨R0, g1, (k1d e R0 _ h1 g3 g2).fr k2 (by decide) (by decide) (by decide), g3⟩
      · subst h2
        rw [h1]
        refine ⟨R, by rw [eE.1, eE.2]; exact hR, ?_, h48⟩
        rw [eE.2, ← a4]
        exact k1c.fr k2 (by decide) (by decide) (by decide)
theorem nmT_erase {T : List (Int64 × Int)} {i : Nat} : nmT (T.eraseIdx i) = (nmT T).eraseIdx i := by
  induction T generalizing i with
  | nil => rfl
  | cons y T ih =>
    cases i with
    | zero => rfl
    | succ i => show y.2 :: nmT (T.eraseIdx i) = y.2 :: (nmT T).eraseIdx i; rw [ih]
theorem Nm.sub {b : BR} {T T' : List (Int64 × Int)} (h : Nm b T) (g : ∀ y ∈ T', y ∈ T) : Nm b T' := fun y hy => h y (g y hy)
theorem X_remove (h : MdV S μ) (hNm : NmD S) (hE : ∀ r, sD S = some r → (drE r).length < 640) (hp : Q32 p) : MMi Ω m M_Mdl_remove rm_Mdl_remove (OutI S (cd2 (o_remove S p).1) (o_remove S p).2.1 (o_remove S p).2.2) μ [xi p] := by
  refine E_remove fun σ0 => B_remove_0 ?_
  refine C_remove_3 (K_isPlaceS h hp) fun y μ1 hq => ?_
  obtain ⟨rfl, rfl⟩ := hq
  refine B_remove_6 ⟨bI_q, fun c => ?_, fun c => ?_⟩
  · have c' := bI_1.mp c
    obtain ⟨r0, hD0⟩ : ∃ r, sD S = some r := by
      cases hD : sD S with
      | none => rw [dsz_none hD] at c'; omega
      | some r => exact ⟨r, rfl⟩
    refine C_remove_14 (K_settledS h hD0) fun y μ1 hq => ?_
    obtain ⟨rfl, rfl⟩ := hq
    refine B_remove_17 ⟨bI_q, fun d => ?_, fun d => ?_⟩
    · have d' := bI_0.mp d
      have e : cd2 (o_remove S p).1 = 2 := by show cd2 (c2 _ _ 1 3) = 2; rw [c2_2 c' d']; rfl
      refine C_remove_25 (K_refused (by decide)) fun y μ2 hq => ?_
      obtain ⟨rfl, rfl⟩ := hq
      refine B_remove_28 ⟨bI_q, fun c2 => absurd c2 (by decide), fun _ => ?_⟩
      refine R_remove_32 ?_
      rw [e]; exact OutI.no h (by decide)
    · have d' := bI_1.mp d
      have e : cd2 (o_remove S p).1 = 0 := by show cd2 (c2 _ _ 1 3) = 0; rw [c2_t c' d']; rfl
      refine C_remove_25 (K_refused (by decide)) fun y μ2 hq => ?_
      obtain ⟨rfl, rfl⟩ := hq
      refine B_remove_28 ⟨bI_q, fun _ => ?_, fun c2 => absurd (show bI ((0 : Int) ≠ 0) = 0 by decide) c2⟩
      have h0 := h.w0 (v := 0)
      obtain ⟨r, hD, eD, ho, hz, hV, hR, hl, hM⟩ := h0.wh d'
      have hE' := hE r hD
      have hN := hNm r hD
      rw [hz] at c'
      refine C_remove_34 (K_remember hV hE' (by rw [List.length_map]; exact hl) hM.2.2.2.1) fun μ1 hq => ?_
      refine B_remove_37 (C_remove_39 (K_takeAt (hV.fr hq.1 (by decide) (by decide)) c'.1 (by rw [List.length_map]; exact c'.2)) fun μ2 hq2 => ?_)
      refine B_remove_42 (R_remove_46 ?_)
      rw [e]
      have z0 : mI μ2 0 = 0 := by rw [hq2.1.1 0 (by decide), hq.1.1 0 (by decide)]; exact mw0
      refine OutI.ok z0 ?_ ?_
      · rw [hq2.2.1, ← nmT_erase, List.length_map]
        show _ = (((((drT (drO S)).eraseIdx p.toNat).length : Nat)) : Int)
        rw [eD]
      · show MdV (edS S ((drT (drO S)).eraseIdx p.toNat) (drC (drO S)) _ (sB S)) μ2
        rw [eD]
        have kk : Efr μ1 μ2 := hq2.1.mono (by decide) (by decide) (by decide)
        refine h0.edit hD hR (by rw [List.length_map]; exact hl) hq kk ((h0.1.fr hq.1 (by decide) (by decide) (by decide) (by decide)).fr hq2.1 (by decide) (by decide) (by decide) (by decide)) (R' := (nmT (drT r)).eraseIdx p.toNat) ?_ hq2.2 ?_ ?_ ((hM.2.1.fr hq.1 (by decide) (by decide)).fr hq2.1 (by decide) (by decide)) ⟨rfl, rfl⟩
        · rw [nmT_erase]
          refine RwV.of ho (fun y hy => nm_ge hN y (List.mem_of_mem_eraseIdx hy))
        · have := List.length_eraseIdx_le (nmT (drT r)) p.toNat
          rw [List.length_map] at this
          omega
        · rw [hq2.1.1 18 (by decide), hq.1.1 18 (by decide)]; exact hM.1.2.2.2
  · have c' := bI_0.mp c
    have e : cd2 (o_remove S p).1 = 1 := by show cd2 (c2 _ _ 1 3) = 1; rw [c2_1 c']; rfl
    refine C_remove_25 (K_refused (by decide)) fun y μ2 hq => ?_
    obtain ⟨rfl, rfl⟩ := hq
    refine B_remove_28 ⟨bI_q, fun c2 => absurd c2 (by decide), fun _ => ?_⟩
    refine R_remove_32 ?_
    rw [e]; exact OutI.no h (by decide)
end EDM
