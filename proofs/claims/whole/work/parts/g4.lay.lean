/-! BY HAND: laying a patch, by the reference: lay -/
section LYB
variable {Ω : Om} {m : Nat} {μ : Mu} {S : St} {p fz : Int} {xx : Nat}
theorem wI_self {f : Nat} : wI μ f (mI μ f) = μ := by
  refine Prod.ext (funext fun g => ?_) rfl
  show (if g = f then mI μ f else mI μ g) = mI μ g
  by_cases e : g = f
  · rw [if_pos e, e]
  · rw [if_neg e]
theorem lay_copy {σ0 : Sto} {F0 : QF} {T : List (Int64 × Int)} {v3 v4 v5 v6 v7 : Int} (h15 : mI μ 15 = T.length) (hl : T.length ≤ 20) (hW : ∀ (i : Nat) y, T[i]? = some y → mA μ 37 i = y.2) (out : ∀ (z : Int) μ1, Fr [] [9] [] μ μ1 → RowV (nmT T) μ1 → Mw Ω σ0 m M_Mdl_lay rm_Mdl_lay F0 188 [xr (some m), xi p, xi fz, xi v3, xi v4, xi v5, xi v6, xi v7, xi z] [xi v7] μ1) : ∀ (d k : Nat) (μ1 : Mu), k + d = T.length → Fr [] [9] [] μ μ1 → (∀ j x, j < k → (nmT T)[j]? = some x → mA μ1 9 j = x) → Mw Ω σ0 m M_Mdl_lay rm_Mdl_lay F0 157 [xr (some m), xi p, xi fz, xi v3, xi v4, xi v5, xi v6, xi v7, xi k] [] μ1 := by
  intro d
  induction d with
  | zero =>
    intro k μ1 hk hF hx
    have e15 := (hF.1 15 (by decide)).trans h15
    refine B_lay_157 ⟨by omega, fun _ => out _ μ1 hF ⟨by rw [e15, List.length_map], by rw [List.length_map]; omega, fun j x hj => hx j x ?_ hj⟩, fun z => absurd (by omega) z⟩
    have := (List.getElem?_eq_some_iff.mp hj).1
    rw [List.length_map] at this; omega
  | succ d ih =>
    intro k μ1 hk hF hx
    have e15 := (hF.1 15 (by decide)).trans h15
    obtain ⟨y, hy⟩ : ∃ y, T[k]? = some y := ⟨_, List.getElem?_eq_getElem (by omega)⟩
    have t1 : mA μ1 37 k = y.2 := by rw [hF.2.1 37 (by decide)]; exact hW k y hy
    refine B_lay_157 ?_
    rw [Int.toNat_natCast, t1]
    refine ⟨by omega, fun z => absurd z (by omega), fun _ => ⟨by omega, by omega, by omega, by omega, ih (k + 1) _ (by omega) (hF.trans (Fr.wA (by decide))) (fun j x hj hx' => ?_)⟩⟩
    rw [wA_r]
    by_cases c : j = k
    · subst c
      rw [nmT_at hy] at hx'
      rw [if_pos rfl]; exact Option.some.inj hx'
    · rw [if_neg c]; exact hx j x (by omega) hx'
/-- the book as the class has it -/
theorem RlT.book {F T T' : List (Int64 × Int)} {w fl : Int} {b0 b' : BR} (h : RlT F w b0 T T' b' fl) (hI : IdV b' μ) : IdV ((nmL F w T (bkN b0) (bkA b0) (bkO b0)).2.1, sgN (bkS b0) (nmL F w T (bkN b0) (bkA b0) (bkO b0)).1, (nmL F w T (bkN b0) (bkA b0) (bkO b0)).2.2.1, (nmL F w T (bkN b0) (bkA b0) (bkO b0)).2.2.2) μ := by
  have hall := nmL_all (F := F) (w := w) T (bkN b0) (bkA b0) (bkO b0)
  rw [h.1] at hall ⊢
  obtain ⟨h1, h2, h3, h4, h5, h6⟩ := h
  refine hI.ext rfl (fun i hi => ⟨?_, rfl, rfl⟩)
  show sgN (bkS b0) T' i = bkS b' i
  unfold sgN
  cases hf : T'.find? (fun y => decide (y.2 = (i : Int))) with
  | some y =>
    have e : y.2 = (i : Int) := of_decide_eq_true (List.find?_some (p := fun y : Int64 × Int => decide (y.2 = (i : Int))) hf)
    have n := (h2 y (List.mem_of_find?_eq_some hf)).2.2.1
    rw [e, Int.toNat_natCast] at n
    exact n.symm
  | none =>
    show bkS b0 i = bkS b' i
    by_cases c : i < bkN b0
    · exact ((h4 i c).1).symm
    · obtain ⟨y, y1, y2⟩ := hall i (by omega) hi
      have := List.find?_eq_none.mp hf y y1
      exact absurd (decide_eq_true y2) this
theorem X_lay (xx : Nat) (h : MdV S μ) (h20 : ∀ v : Int, (vtx (sV S) v).length ≤ 20) (hN : ∀ v : Int, Nm (sB S) (vtx (sV S) v)) (hNm : NmD S) (hAu : AuI (sB S)) (hE : ∀ r, sD S = some r → (drE r).length < 640 ∧ (drT r).length ≤ 20 ∧ isV S (dr1 r) ∧ isP (drA r)) (hH : ∀ hs ∈ sP S, ∀ H ∈ hs, HnB H ∧ ∀ l ∈ hnF H, isLn l = true) (hP : IvP S) (h12 : bkN (sB S) + 20 ≤ 12000) (hp : Q32 p) (hf : Q32 fz) : MMi Ω m M_Mdl_lay rm_Mdl_lay (OutI S (o_lay xx S p fz).1 (o_lay xx S p fz).2.1 (o_lay xx S p fz).2.2) μ [xi p, xi fz] := by
  have hI := h.1
  have eI := hI.1
  refine E_lay fun σ0 => B_lay_0 ?_
  refine C_lay_2 (K_isPatch h hp) fun y μ1 hq => ?_
  obtain ⟨rfl, rfl⟩ := hq
  refine B_lay_5 ?_
  refine C_lay_9 (k_in hf (by decide) (by decide)) fun y hq => ?_
  subst hq
  have bad : ∀ (k : Nat) (v3 v4 v6 v7 : Int) (μx : Mu), (o_lay xx S p fz).1 = k → k ≠ 0 → Q32 (k : Int) → MdV S μx → Mw Ω σ0 m M_Mdl_lay rm_Mdl_lay (MQi Ω σ0 m rm_Mdl_lay (OutI S (o_lay xx S p fz).1 (o_lay xx S p fz).2.1 (o_lay xx S p fz).2.2)) 134 [xr (some m), xi p, xi fz, xi v3, xi v4, xi 0, xi v6, xi v7, xu] [xi (k : Nat), xr (some m)] μx := fun k v3 v4 v6 v7 μx e hk hk2 hx => by
    refine C_lay_134 (K_refused hk2) fun y μ2 hq => ?_
    obtain ⟨rfl, rfl⟩ := hq
    refine B_lay_137 ⟨bI_q, fun c2 => absurd (show (k : Int) ≠ 0 by omega) (bI_0.mp c2), fun _ => R_lay_141 ?_⟩
    rw [e]; exact OutI.no hx hk
  have t85 : ∀ (v3 v4 v5 v6 v7 : Int) (μx : Mu), Q32 v3 → Q32 v4 → Q32 v6 → MdV S (wI μx 1 v6) → (v3 = 0 → (o_lay xx S p fz).1 = 1) → (¬ v3 = 0 → v4 = 0 → (o_lay xx S p fz).1 = 2) → (¬ v3 = 0 → ¬ v4 = 0 → (o_lay xx S p fz).1 = 3) → Mw Ω σ0 m M_Mdl_lay rm_Mdl_lay (MQi Ω σ0 m rm_Mdl_lay (OutI S (o_lay xx S p fz).1 (o_lay xx S p fz).2.1 (o_lay xx S p fz).2.2)) 85 [xr (some m), xi p, xi fz, xi v3, xi v4, xi v5, xi v6, xi v7, xu] [] μx := fun v3 v4 v5 v6 v7 μx q3 q4 q6 hx g1 g2 g3 =>
    B_lay_85 ⟨q6, q3, fun z => ⟨q4, fun z2 => bad 3 _ _ _ _ _ (g3 z z2) (by decide) (by decide) hx, fun z2 => bad 2 _ _ _ _ _ (g2 z z2) (by decide) (by decide) hx⟩, fun z => bad 1 _ _ _ _ _ (g1 z) (by decide) (by decide) hx⟩
  have hs1 : MdV S (wI μ1 1 (mI μ1 1)) := by rw [wI_self]; exact h
  have b12 := hI.2.1
  have t41 : ∀ (v3 v4 : Int), Q32 v3 → Q32 v4 → (v3 = 0 → (o_lay xx S p fz).1 = 1) → (¬ v3 = 0 → v4 = 0 → (o_lay xx S p fz).1 = 2) → (¬ v3 = 0 → ¬ v4 = 0 → (o_lay xx S p fz).1 = 3) → Mw Ω σ0 m M_Mdl_lay rm_Mdl_lay (MQi Ω σ0 m rm_Mdl_lay (OutI S (o_lay xx S p fz).1 (o_lay xx S p fz).2.1 (o_lay xx S p fz).2.2)) 41 [xr (some m), xi p, xi fz, xi v3, xi v4, xu, xu, xu, xu] [] μ1 := fun v3 v4 q3 q4 g1 g2 g3 =>
    B_lay_41 (B_lay_42 ⟨by decide, fun _ => B_lay_65 ⟨by decide, fun _ => t85 _ _ _ _ _ _ q3 q4 (by omega) hs1 g1 g2 g3, fun z => absurd rfl z⟩, fun z => absurd rfl z⟩)
  refine B_lay_12 ⟨bI_q, fun z1 => ?_, fun z1 => ⟨bI_q, fun z2 => ?_, fun z2 => ?_⟩⟩
  · exact t41 _ _ bI_q bI_q (fun _ => c3_1 (bI_0.mp z1)) (fun z => absurd z1 z) (fun z => absurd z1 z)
  · exact t41 _ _ bI_q bI_q (fun z => absurd z z1) (fun _ _ => c3_2 (bI_1.mp z1) (bI_0.mp z2)) (fun _ z => absurd z2 z)
  · have c' := bI_1.mp z1
    have d' := bI_1.mp z2
    have no3 : ¬ (whB S = true ∧ (lyT S p fz).length ≤ 20) → (o_lay xx S p fz).1 = 3 := fun g => c3_3 c' d' g
    refine ⟨fun z3 => ?_, fun z3 => ?_⟩
    · exact t41 _ _ bI_q bI_q (fun z => absurd z z1) (fun _ z => absurd z z2) (fun _ _ => no3 (fun g => by
        obtain ⟨r, hD, _⟩ := whB_iff.mp g.1
        have := DM.yes h hD
        omega))
    · obtain ⟨r, hD⟩ : ∃ r, sD S = some r := by
        cases hD : sD S with
        | none => exact absurd (DM.no h hD) z3
        | some r => exact ⟨r, rfl⟩
      refine C_lay_31 (K_settledS h hD) fun y μ1 hq => ?_
      obtain ⟨rfl, rfl⟩ := hq
      refine B_lay_34 ⟨bI_q, fun z4 => ?_, fun z4 => ?_⟩
      · exact t41 _ _ bI_q bI_q (fun z => absurd z z1) (fun _ z => absurd z z2) (fun _ _ => no3 (fun g => bI_0.mp z4 g.1))
      · have w' := bI_1.mp z4
        obtain ⟨r', hD', eD, ho, hz, hV, hR, hl, hM⟩ := h.wh w'
        have er : r' = r := by rw [hD'] at hD; exact Option.some.inj hD
        subst er
        obtain ⟨hE1, hE2, hE3, hE4⟩ := hE r' hD
        obtain ⟨pn, rfl⟩ := Int.eq_ofNat_of_zero_le c'.1
        obtain ⟨fn, rfl⟩ := Int.eq_ofNat_of_zero_le d'.1
        obtain ⟨hPa1, hPa2, hPa3⟩ := h.2.2.2.2.1
        obtain ⟨hs, hhs⟩ : ∃ hs, (sP S)[pn]? = some hs := ⟨_, List.getElem?_eq_getElem (by omega)⟩
        obtain ⟨f1, f2, f3⟩ := hPa3 pn hs hhs
        have hmem := List.mem_of_getElem? hhs
        have eph : phk S (pn : Int) = hs := by unfold phk; rw [Int.toNat_natCast, List.getD_eq_getElem?_getD, hhs]; rfl
        have hfr : frS hs ≤ 20 := hP hs hmem
        have eL : lyN fn hs 0 0 (drT r') 0 = lyN ((fn : Int)).toNat (phk S (pn : Int)) 0 0 (drT (drO S)) 0 := by rw [eph, eD, Int.toNat_natCast]
        refine B_lay_42 ⟨by decide, fun z => absurd z (by decide), fun _ => ?_⟩
        refine C_lay_58 (K_layAll (T := drT r') (hs := hs) h.2.1 hI hV (hNm r' hD) hAu hM.1.1 hM.1.2.2.1 hE3.1 hE3.2 (hN _) (h20 _) hE4 (by omega) (by omega) f1 f2 (fun i H hi => ⟨f3 i H hi, hH hs hmem H (List.mem_of_getElem? hi)⟩) (by omega) (by omega)) fun y μ2 hq => B_lay_61 ?_
        obtain ⟨rfl, k2, T', b', fl, hRl, hI2, hW2, l40⟩ := hq
        have hlen := hRl.len
        have k12 : Dfr μ1 μ2 := k2.mono (by decide) (by decide) (by decide)
        have hD2 : DM (sV S) (sD S) μ2 := h.2.2.1.fr k2 (by decide) (by decide) (by decide)
        have eT : (lyN fn hs 0 0 (drT r') 0).1 = lyT S (pn : Int) (fn : Int) := by rw [eL]; rfl
        refine B_lay_65 ?_
        rw [hW2.1]
        refine ⟨by decide, fun z => absurd z (by decide), fun _ => ⟨fun z5 => ?_, fun z5 => ?_⟩⟩
        · refine t85 _ _ _ _ _ _ bI_q bI_q (by omega) ?_ (fun z => absurd z z1) (fun _ z => absurd z z2) (fun _ _ => no3 (fun g => by rw [← eT] at g; omega))
          have kw : Fr [1] [] [] μ2 (wI μ2 1 (mI μ1 1)) := Fr.wI (by decide)
          refine h.upD (k12.trans (kw.mono (by decide) (by decide) (by decide))) rfl rfl rfl rfl rfl ?_ (hD2.fr kw (by decide) (by decide) (by decide))
          refine ⟨by rw [mI_wI, if_pos rfl]; exact eI, hI.2.1, fun i hi => ?_⟩
          obtain ⟨q1, q2, q3⟩ := hRl.2.2.2.1 i hi
          obtain ⟨g1, g2, g3⟩ := hI2.2.2 i (by have := hRl.2.2.2.2.2; omega)
          rw [mG_wI, mA_wI]
          exact ⟨g1.trans q1, g2.trans q2, g3.trans q3⟩
        · have c20 : (lyT S (pn : Int) (fn : Int)).length ≤ 20 := by rw [← eT]; omega
          have e : (o_lay xx S (pn : Int) (fn : Int)).1 = 0 := c3_t c' d' ⟨w', c20⟩
          refine B_lay_86 ⟨by decide, fun z => absurd z (by decide), fun _ => ⟨bI_q, fun _ => ⟨bI_q, fun _ => ⟨fun z => absurd z (by decide), fun _ => ?_⟩, fun z => absurd z z2⟩, fun z => absurd z z1⟩⟩
          rw [wI_self]
          refine C_lay_134 (K_refused (by decide)) fun y μ3 hq => ?_
          obtain ⟨rfl, rfl⟩ := hq
          have k3 : Fr [0] [] [] μ2 (wI μ2 0 0) := Fr.wI (by decide)
          have z00 : mI (wI μ2 0 0) 0 = 0 := mw0
          refine B_lay_137 ⟨bI_q, fun _ => ?_, fun c2 => absurd (show bI ((0 : Int) ≠ 0) = 0 by decide) c2⟩
          generalize wI μ2 0 0 = μz at k3 z00 ⊢
          have kz : Fr [0, 1, 53] [2, 3, 37] [1] μ1 μz := (k2.mono (by decide) (by decide) (by decide)).trans (k3.mono (by decide) (by decide) (by decide))
          have hIz := hI2.fr k3 (by decide) (by decide) (by decide) (by decide)
          have hWz := hW2.fr k3 (by decide) (by decide)
          have hVz := hV.fr kz (by decide) (by decide)
          have h1 : MdV (sV S, sD S, sC S, sP S, sW S, sR S, b', sM S) μz := h.upD (kz.mono (by decide) (by decide) (by decide)) rfl rfl rfl rfl rfl hIz (h.2.2.1.fr kz (by decide) (by decide) (by decide))
          have hMz := h1.2.2.1.2 r' hD
          refine C_lay_143 (K_remember hVz hE1 (by rw [List.length_map]; exact hl) hMz.2.2.2.1) fun μ4 hq => B_lay_146 ?_
          have h53 := (hWz.fr hq.1 (by decide) (by decide)).1
          rw [h53]
          have k5 : Fr [15] [] [] μ4 (wI μ4 15 (T'.length : Nat)) := Fr.wI (by decide)
          have e15 : mI (wI μ4 15 (T'.length : Nat)) 15 = (T'.length : Nat) := by rw [mI_wI, if_pos rfl]
          generalize wI μ4 15 ((T'.length : Nat) : Int) = μ5 at k5 e15 ⊢
          refine lay_copy (T := T') e15 (by omega) (fun i y hy => by rw [k5.2.1 37 (by decide), hq.1.2.1 37 (by decide)]; exact hWz.2.2 i y hy) (fun z μ6 k6 hV6 => R_lay_188 ?_) T'.length 0 μ5 (Nat.zero_add _) Fr.rf (fun j x hj => absurd hj (Nat.not_lt_zero _))
          have k46 : Fr [15] [9] [] μ4 μ6 := (k5.mono (by decide) (by decide) (by decide)).trans (k6.mono (by decide) (by decide) (by decide))
          rw [e]
          refine OutI.ok (((k46.1 0 (by decide)).trans (hq.1.1 0 (by decide))).trans z00) ?_ ?_
          · show _ = (((lyN ((fn : Int)).toNat (phk S (pn : Int)) 0 0 (drT (drO S)) 0).2 : Nat) : Int)
            rw [← eL]
          · show MdV (edS S (nmA' S (lyT S (pn : Int) (fn : Int))).1 (drC (drO S)) (lyE xx S (pn : Int) (fn : Int)) (nmB S (lyT S (pn : Int) (fn : Int)))) μ6
            have hbk := hRl.book (hIz.fr (hq.1) (by decide) (by decide) (by decide) (by decide))
            have enm : nmA' S (lyT S (pn : Int) (fn : Int)) = nmL (vtx (sV S) (dr1 r')) (drA r') (lyN fn hs 0 0 (drT r') 0).1 (bkN (sB S)) (bkA (sB S)) (bkO (sB S)) := by unfold nmA'; rw [eT, eD]; rfl
            have enB : nmB S (lyT S (pn : Int) (fn : Int)) = ((nmL (vtx (sV S) (dr1 r')) (drA r') (lyN fn hs 0 0 (drT r') 0).1 (bkN (sB S)) (bkA (sB S)) (bkO (sB S))).2.1, sgN (bkS (sB S)) (nmL (vtx (sV S) (dr1 r')) (drA r') (lyN fn hs 0 0 (drT r') 0).1 (bkN (sB S)) (bkA (sB S)) (bkO (sB S))).1, (nmL (vtx (sV S) (dr1 r')) (drA r') (lyN fn hs 0 0 (drT r') 0).1 (bkN (sB S)) (bkA (sB S)) (bkO (sB S))).2.2.1, (nmL (vtx (sV S) (dr1 r')) (drA r') (lyN fn hs 0 0 (drT r') 0).1 (bkN (sB S)) (bkA (sB S)) (bkO (sB S))).2.2.2) := by unfold nmB; rw [enm]
            rw [enB]
            have e1 : (nmA' S (lyT S (pn : Int) (fn : Int))).1 = T' := by rw [enm, hRl.1]
            rw [e1, eD]
            exact h1.edit hD hR (by rw [List.length_map]; exact hl) hq (k46.mono (by decide) (by decide) (by decide)) (hbk.fr k46 (by decide) (by decide) (by decide) (by decide)) (R' := nmT T') (RwV.of ho (nm_ge hRl.2.1)) hV6 (by rw [List.length_map]; omega) (by rw [k46.1 18 (by decide), hq.1.1 18 (by decide)]; exact hMz.1.2.2.2) ((hMz.2.1.fr hq.1 (by decide) (by decide)).fr k46 (by decide) (by decide)) ⟨by unfold lyE; rw [eD], by unfold lyE; rw [eD]⟩
end LYB
