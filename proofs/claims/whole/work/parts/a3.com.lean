/-! BY HAND: a draft made a version -/
def newV (S : St) : VR := (drT (drO S), drA (drO S), dr1 (drO S), dr2 (drO S), blW (sV S) (dr1 (drO S)) ||| blW (sV S) (dr2 (drO S)), drE (drO S), drB (drO S))
def o_commit (S : St) : Rs := (c1' (whB S = true ∧ (sV S).length < 40), ((sV S).length : Nat), (sV S ++ [newV S], none, sC S, sP S, sW S, sR S, sB S, sM S))
section COM
variable {Ω : Om} {σ σ' : Sto} {lo x sw n d' : Nat} {S : St} {V : List VR} {R : VR} {ds : Nat → Nat} {el : Nat → List Nat} {es : List Nat} {v : Int}
theorem k_Dw_belowOf2 (hH : DwH σ x sw) (e : fI σ 12 x = (V.length : Int)) (hn : V.length ≤ 40) (g : 0 ≤ v ∧ v < (V.length : Int) → VrS σ (x + 374 + 8 * v.toNat) ∧ fL σ 710 (x + 374 + 8 * v.toNat) = vrW (vrO V v.toNat)) (hv : Q32 v) : MC Ω M_Dw_belowOf rm_Dw_belowOf (RL fun r σ' => σ' = σ ∧ r = blW V v) XN σ [xr (some x), xi v] := by
  obtain ⟨h0, h1, hs', f0, f1, f2, f3, f4, f5, f6, f7, f8, f9, ⟨k1, z1, r1⟩, -⟩ := id hH
  refine e_Dw_belowOf (b_Dw_belowOf_0 ⟨hv, fun c => ?_, fun c => ⟨h1, fun _ => ⟨fun c3 => ?_, fun c3 => ?_⟩⟩⟩)
  · exact r_Dw_belowOf_13 ⟨_, rfl, rfl, by rw [blW, if_neg (by omega)]⟩ (by decide) (by decide)
  · rw [e] at c3
    obtain ⟨gs, gn⟩ := g ⟨by omega, c3⟩
    refine ⟨_, f0, k1, by omega, by omega, _, r1 _ (by omega), gs.2.1, ?_⟩
    refine r_Dw_belowOf_27 ⟨_, rfl, rfl, ?_⟩ (by decide) (by decide)
    rw [blW, if_pos ⟨by omega, c3⟩, gn]
  · rw [e] at c3
    exact r_Dw_belowOf_13 ⟨_, rfl, rfl, by rw [blW, if_neg (by omega)]⟩ (by decide) (by decide)
theorem vrO_app {i : Nat} (h : i < V.length) : vrO (V ++ [R]) i = vrO V i := by
  unfold vrO; rw [List.getD_eq_getElem?_getD, List.getD_eq_getElem?_getD, List.getElem?_append_left h]
theorem vrO_end : vrO (V ++ [R]) V.length = R := by
  unfold vrO; rw [List.getD_eq_getElem?_getD, List.getElem?_append_right (Nat.le_refl _), Nat.sub_self]; rfl
theorem vrO_out {i : Nat} (h : V.length ≤ i) : vrO V i = ver0 := by
  unfold vrO; rw [List.getD_eq_getElem?_getD, List.getElem?_eq_none h]; rfl
/-- the versions' view with one more -/
theorem VsV.snoc (h : VsV Ω σ lo x V ds el) (k : Keep σ σ' (fun q => In (x + 374 + 8 * V.length) (x + 374 + 8 * V.length + 8) q ∨ q = x)) (hlo : x + 753 < lo) (hn : V.length < 40) (hV : ∃ N, VrV Ω σ' lo (x + 374 + 8 * V.length) d' (vrT R) N es (vrA R) (vr1 R) (vr2 R) (vrW R) ∧ N.length ≤ 20 ∧ ∀ y ∈ N, y.2 = -1 ∧ V.length ≠ 0) (hE : EdsV σ' lo es (vrE R)) : VsV Ω σ' lo x (V ++ [R]) (up1 ds V.length d') (up1 el V.length es) := by
  intro v hv
  by_cases e : v = V.length
  · subst e
    rw [up1g, if_pos rfl, up1g, if_pos rfl, vrO_end]
    exact ⟨hV, hE, fun z => absurd z (by rw [List.length_append, List.length_singleton]; omega)⟩
  · obtain ⟨⟨N, h1, h2, h3⟩, h4, h5⟩ := h v hv
    rw [up1g, if_neg e, up1g, if_neg e]
    have eV : vrO (V ++ [R]) v = vrO V v := by
      rcases Nat.lt_or_ge v V.length with h6 | h6
      · exact vrO_app h6
      · rw [vrO_out h6, vrO_out (by rw [List.length_append, List.length_singleton]; omega)]
    rw [eV]
    exact ⟨⟨N, h1.keep k (fun q q1 q2 q3 => by omega) (fun q1 q2 => by omega), h2, h3⟩, h4.keep k (fun q q1 _ q3 => by omega), fun z => h5 (by rw [List.length_append] at z; omega)⟩
theorem K_commit (hDV : DwV Ω σ lo x S) (hCn : Cnt S) (iV : IvV S) (iD : IvD S) : MC Ω M_Dw_commit rm_Dw_commit (OI Ω lo x (o_commit S) σ) (XO Ω lo x S (o_commit S).1 σ) σ [xr (some x)] := by
  obtain ⟨⟨hlo, hls, hoE⟩, sw, ds, el, hW⟩ := id hDV
  obtain ⟨hH, hF, hVs, hMn, hSp, hCm, hPa, hNo, hRe, hBk, hPr, hTm, hDs⟩ := id hW
  obtain ⟨hc1, hc2, hc3, hc4, hc5, hc6, hc7⟩ := id hCn
  have hx0 := hH.1
  have hs1 := hH.2.2.1
  refine e_Dw_commit (b_Dw_commit_0 ?_)
  refine c_Dw_commit_1 (k_Dw_checkWhole hH hF hMn) hH.2.1 (by decide) (by decide) (by first | decide | omega) (by first | decide | omega) (Nat.le_of_ble_eq_true rfl) (fun σ3 hq => ?_) (fun E σx hx => Ax.out rfl (XO.of hDV hx (fun hc => c1'_f (fun y => hc (whB_iff.mp y.1))) (by decide)) (by decide) (by decide))
  obtain ⟨rfl, hwh⟩ := hq
  have hwb := whB_iff.mpr hwh
  obtain ⟨r, hD, ho⟩ := hwh
  have iR := iD r hD
  obtain ⟨f, s, b, hDf, hEs, h3f, hrf, h3t, ⟨df, dss, db⟩, ⟨lf, ls, lb⟩, ⟨tF, tS, tB⟩, ⟨qF, qS, qB⟩, hax⟩ := hW.dr hlo hCn iV hD iR
  have f8 := hH.2.2.2.2.2.2.2.2.2.2.2.1
  have iR3 := iR.2.2.1
  have eD := drO_some hD
  have eZ : dszD (sD S) = ((drT r).length : Int) := dsz_some hD
  have hel : (el 40).length ≤ 512 := by have := hEs.1; have := iR.2.2.2.1; omega
  have e12 := hF.2.2.1
  refine b_Dw_commit_4 ⟨hH.2.1, ?_⟩
  rw [e12]
  refine fun _ => ⟨fun c6 => fun _ => ⟨_, hH.2.2.2.1, hH.2.2.2.2.2.2.2.2.2.2.2.2.2.1.1, by omega, by rw [hH.2.2.2.2.2.2.2.2.2.2.2.2.2.1.2.1]; omega, _, f8, ?_⟩, fun c6 => t_Dw_commit_13 (by decide) (by decide) (by first | decide | omega) (by first | decide | omega) (fun n' h2 => XO.of hDV ⟨rfl, (show ¬ ((sV S).length < 40) by omega), Keep.nX h2⟩ (fun z => c1'_f (fun y => z y.2)) (by decide))⟩
  have hn : (sV S).length < 40 := by omega
  rw [show (((sV S).length : Int)).toNat = (sV S).length from Int.toNat_natCast _, hH.2.2.2.2.2.2.2.2.2.2.2.2.2.1.2.2 _ hn]
  obtain ⟨⟨N, hV1, hV2, hV3⟩, hV4, hV5⟩ := hVs (sV S).length hn
  rw [vrO_out (Nat.le_refl _)] at hV1 hV4
  have ee : el (sV S).length = [] := List.eq_nil_of_length_eq_zero hV4.1
  rw [ee, hV5 (Nat.le_refl _)] at hV1
  have hEk : ∀ (i e : Nat), (el 40)[i]? = some e → lo ≤ e ∧ e < sN σ3 ∧ sK σ3 e = 5 := fun i e h => by
    have hi := (List.getElem?_eq_some_iff.mp h).1
    have := hEs.2 i e ((drE r)[i]'(by rw [← hEs.1]; exact hi)) h (List.getElem?_eq_getElem (by rw [← hEs.1]; exact hi))
    exact ⟨this.1, by have := this.2.1; omega, this.2.2.1⟩
  refine c_Dw_commit_40 (k_Ver_keep (by omega) (by omega) (by omega) (by omega) hoE hEk hls hV1 hDf h3f.1 h3f.2.1 h3f.2.2) hV1.1.2.1 (by decide) (by decide) (by first | decide | omega) (by first | decide | omega) (Nat.le_of_ble_eq_true rfl) (fun σ4 hq => ?_) (fun _ _ hx => hx.elim)
  obtain ⟨d', hV', hd', k4⟩ := hq
  have hH4 := hH.keep k4 (fun q q1 q2 q3 => by omega)
  have hF4 := hF.keep k4 (by omega) (by omega)
  have f84 := hH4.2.2.2.2.2.2.2.2.2.2.2.1
  have hDf4 := hDf.keep k4 (fun q q1 q2 q3 => by omega) (fun q1 q2 => by omega)
  have ea := k4.2 (x + 118 + 128 * sw) (by omega) (by omega)
  have e4 : fI σ4 204 (x + 118 + 128 * sw) = dr1 r := (ea.2.2.1 _).trans h3f.2.1
  have e5 : fI σ4 205 (x + 118 + 128 * sw) = dr2 r := (ea.2.2.1 _).trans h3f.2.2
  have gV : ∀ v : Int, 0 ≤ v ∧ v < ((sV S).length : Int) → VrS σ4 (x + 374 + 8 * v.toNat) ∧ fL σ4 710 (x + 374 + 8 * v.toNat) = vrW (vrO (sV S) v.toNat) := fun v hv => by
    obtain ⟨gs, gn, -⟩ := hVs.at hv hc2
    exact ⟨gs.keep k4 (by omega), (gn.keep k4 (by omega) (by omega)).2.2.2⟩
  refine b_Dw_commit_43 ⟨hH4.2.1, _, f84, hDf4.1.2.1, ?_⟩
  rw [e4]
  intro hq1
  refine c_Dw_commit_52 (k_Dw_belowOf2 (V := sV S) hH4 hF4.2.2.1 hc2 (gV _) hq1) hH4.2.1 (by decide) (by decide) (by first | decide | omega) (by first | decide | omega) (Nat.le_of_ble_eq_true rfl) (fun z1 σ4 hq => ?_) (fun _ _ hx => hx.elim)
  obtain ⟨rfl, rfl⟩ := hq
  refine b_Dw_commit_55 ⟨hH4.2.1, _, f84, hDf4.1.2.1, ?_⟩
  rw [e5]
  intro hq2
  refine c_Dw_commit_63 (k_Dw_belowOf2 (V := sV S) hH4 hF4.2.2.1 hc2 (gV _) hq2) hH4.2.1 (by decide) (by decide) (by first | decide | omega) (by first | decide | omega) (Nat.le_of_ble_eq_true rfl) (fun z2 σ4 hq => ?_) (fun _ _ hx => hx.elim)
  obtain ⟨rfl, rfl⟩ := hq
  refine b_Dw_commit_66 ⟨hV'.1.2.1, hH4.2.1, ?_⟩
  rw [hF4.2.2.1]
  refine fun _ => ⟨by omega, ?_⟩
  generalize hw : blW (sV S) (dr1 r) ||| blW (sV S) (dr2 r) = W
  generalize hσ : uI (uI (uL σ4 710 (x + 374 + 8 * (sV S).length) W) 12 x ((sV S).length + 1)) 10 x 0 = σ5
  have k5 : Keep σ4 σ5 (fun q => q = x + 374 + 8 * (sV S).length ∨ q = x) := by
    rw [← hσ]
    exact ((kuL1.mono (fun q _ h => Or.inl h)).trans (kuI1.mono (fun q _ h => Or.inr h))).trans (kuI1.mono (fun q _ h => Or.inr h))
  have kk : Keep σ3 σ5 (fun q => In (x + 374 + 8 * (sV S).length) (x + 374 + 8 * (sV S).length + 8) q ∨ q = x) := (k4.mono (fun q _ h => Or.inl h)).trans (k5.mono (fun q _ h => by
    rcases h with h | h
    · exact Or.inl (by omega)
    · exact Or.inr h))
  have hV5' : VrV Ω σ5 lo (x + 374 + 8 * (sV S).length) d' (drT r) N (el 40) (drA r) (dr1 r) (dr2 r) W := by
    obtain ⟨g1, ⟨g2, g3, g4, g5⟩, g6, g7, g8⟩ := hV'
    refine ⟨by rw [← hσ]; exact g1, ⟨?_, ?_, ?_, ?_⟩, g6.keep k5 (fun q q1 q2 q3 => by omega), g7.keep k5 (fun q q1 q2 q3 => by omega), g8.keep k5 (by omega) (fun q1 q2 => by omega)⟩
    · rw [← hσ, fI_uI, if_neg (by omega), fI_uI, if_neg (by omega), fI_uL]; exact g2
    · rw [← hσ, fI_uI, if_neg (by omega), fI_uI, if_neg (by omega), fI_uL]; exact g3
    · rw [← hσ, fI_uI, if_neg (by omega), fI_uI, if_neg (by omega), fI_uL]; exact g4
    · rw [← hσ, fL_uI, fL_uI, fL_uL, if_pos ⟨rfl, rfl⟩]
  have eN : newV S = (drT r, drA r, dr1 r, dr2 r, W, drE r, drB r) := by unfold newV; rw [eD, hw]
  have hE5 := hEs.keep kk (fun q q1 q2 q3 => by omega)
  have hVs5 := hVs.snoc (R := newV S) (es := el 40) kk hlo hn (by rw [eN]; exact ⟨N, hV5', hV2, hV3⟩) (by rw [eN]; exact hE5)
  obtain ⟨b1, b2, b3, b4, b5, b6, b7, b8, b9, b10, -⟩ := hW.bux kk (by omega) (by omega) hlo
  have hF5 : DwF σ5 x 0 (b01 (sC S).isSome) ((sV S).length + 1) (sP S).length (sR S).length (sW S).length (sM S) := by
    rw [← hσ]; exact DwF.s10 (DwF.s12 (σ := uL σ4 710 (x + 374 + 8 * (sV S).length) W) hF4)
  have hH5 : DwH σ5 x sw := by rw [← hσ]; exact hH4
  have hW5 : DwW Ω σ5 lo x (o_commit S).2.2 sw (up1 ds (sV S).length d') (up1 el (sV S).length (el 40)) := by
    refine ⟨hH5, ?_, hVs5, ?_, ?_, b4 (by omega), b5 (by omega), b6 (by omega), b7 (by omega), b8 (by omega), b9 (by omega), b10 (by omega), ?_⟩
    · show DwF σ5 x 0 (b01 (sC S).isSome) (((sV S ++ [newV S]).length : Nat) : Int) (sP S).length (sR S).length (sW S).length (sM S)
      rw [List.length_append, List.length_singleton]
      exact hF5
    · rw [up1g, if_neg (by omega), up1g, if_neg (by omega)]
      obtain ⟨f', s', b', T', cl', oc', m1, -⟩ := b2 (by omega)
      exact ⟨f', s', b', T', cl', oc', m1, fun r h => by cases h⟩
    · rw [up1g, if_neg (by omega), up1g, if_neg (by omega)]; exact b3 (by omega)
    · intro i j hi hj q1 q2
      rw [up1g] at q1 q2
      rw [up1g] at q2
      by_cases e1 : i = (sV S).length
      · by_cases e2 : j = (sV S).length
        · omega
        · rw [if_pos e1] at q1 q2
          rw [if_neg e2] at q2
          rcases hd' with e | e
          · omega
          · have := (hW.lt (i := j) hj (q2 ▸ q1)).1
            omega
      · rw [if_neg e1] at q1 q2
        by_cases e2 : j = (sV S).length
        · rw [if_pos e2] at q2
          rcases hd' with e | e
          · omega
          · have := (hW.lt (i := i) hi q1).1
            omega
        · rw [if_neg e2] at q2
          exact hDs i j hi hj q1 q2
  exact r_Dw_commit_86 ⟨_, rfl, c1'_t ⟨hwb, hn⟩, rfl, ⟨⟨hlo, Nat.le_trans hls kk.1, hoE⟩, sw, _, _, hW5⟩, kk.mono (fun q _ h => Or.inl (by omega))⟩ (by decide) (by decide)
end COM
