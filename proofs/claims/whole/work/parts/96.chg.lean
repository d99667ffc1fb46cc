/-! BY HAND: the class's calls that make patches; what stays when the draft changes -/
section PTC
variable {Ω : Om} {σ σ' : Sto} {lo x sw : Nat} {S : St} {ds : Nat → Nat} {el : Nat → List Nat} {v w p q g : Int}
theorem DwW.pr (hW : DwW Ω σ lo x S sw ds el) (hlo : x + 753 < lo) (k : Keep σ σ' (In (x + 36) (x + 64))) (hc : CpS σ' (x + 36)) : DwW Ω σ' lo x S sw ds el := by
  have hs := hW.1.2.2.1
  obtain ⟨b1, b2, b3, b4, b5, b6, b7, b8, b9, b10, -, b12, b13⟩ := hW.but k (by omega) (by omega) hlo
  exact ⟨b1, b2, b3 (by omega), b4 (by omega), b5 (by omega), b6 (by omega), b7 (by omega), b8, b9 (by omega), b10 (by omega), hc, b12 (by omega), b13⟩
theorem DwW.pat {hs : List Hun} (hW : DwW Ω σ lo x S sw ds el) (hlo : x + 753 < lo) (hn : (sP S).length < 10) (k : Keep σ σ' (fun q => In (x + 694 + 2 * (sP S).length) (x + 694 + 2 * (sP S).length + 2) q ∨ q = x)) (hH : DwH σ' x sw) (hF : DwF σ' x (b01 (sD S).isSome) (b01 (sC S).isSome) (sV S).length ((sP S).length + 1 : Nat) (sR S).length (sW S).length (sM S)) (hp : Pt σ' lo (x + 694 + 2 * (sP S).length) hs) : DwW Ω σ' lo x (setP S (sP S ++ [hs])) sw ds el := by
  have hs1 := hW.1.2.2.1
  have hP := hW.2.2.2.2.2.2.1
  obtain ⟨b3, b4, b5, b6, -, b8, b9, b10, b11, b12, b13⟩ := hW.bux k (by omega) (by omega) hlo
  have hG := getD_app (sP S) hs []
  refine ⟨hH, by show DwF σ' x _ _ _ ((sP S ++ [hs]).length : Nat) _ _ _; rw [List.length_append]; exact hF, b3 (by omega), b4 (by omega), b5 (by omega), b6 (by omega), fun i hi => ?_, b8 (by omega), b9 (by omega), b10 (by omega), b11 (by omega), b12 (by omega), b13⟩
  show Pt σ' lo (x + 694 + 2 * i) ((sP S ++ [hs]).getD i [])
  by_cases e : i = (sP S).length
  · rw [e, hG.1]; exact hp
  · rw [hG.2 i e]
    exact (hP i hi).keep k (fun b b1 _ b3 => by omega) (by omega) (by omega)
theorem K_patch {c : Int} (hDV : DwV Ω σ lo x S) (hCn : Cnt S) (h20 : ∀ v, (vtx (sV S) v).length ≤ 20) (hv : Q32 v) (hw : Q32 w) (hc0 : Q32 c) : MC Ω M_Dw_patch rm_Dw_patch (OI Ω lo x (o_patch S v w c) σ) (XO Ω lo x S (o_patch S v w c).1 σ) σ [xr (some x), xi v, xi w, xi c] := by
  obtain ⟨⟨hlo, hls, hoE⟩, sw, ds, el, hW⟩ := id hDV
  obtain ⟨hH, hF, hVs, hMn, hSp, hCm, hPa, hNo, hRe, hBk, hPr, hTm, hDs⟩ := id hW
  obtain ⟨hc1, hc2, hc3, hc4, hc5, hc6, hc7⟩ := id hCn
  have hx0 := hH.1
  have f6 := hH.2.2.2.2.2.2.2.2.2.1
  have f1 := hH.2.2.2.2.1
  obtain ⟨k2, z2, r2⟩ := hH.2.2.2.2.2.2.2.2.2.2.2.2.2.2.1
  refine e_Dw_patch (b_Dw_patch_0 ?_)
  refine c_Dw_patch_2 (k_Dw_versionAt hH hF (by omega) hv) hH.2.1 (by decide) (by decide) (by first | decide | omega) (by first | decide | omega) (Nat.le_of_ble_eq_true rfl) (fun r σ1 hq => ?_) (fun E σx hx => Ax.out rfl (XO.of hDV hx (fun hc => c3_1 (fun z => hc z.1)) (by decide)) (by decide) (by decide))
  obtain ⟨rfl, hr, rfl⟩ := hq
  obtain ⟨hs, hn, hx⟩ := hVs.at hr hc2
  refine b_Dw_patch_5 ⟨hs.2.1, _, hs.2.2.1, ?_⟩
  refine c_Dw_patch_12 (k_Dw_versionAt hH hF (by omega) hw) hH.2.1 (by decide) (by decide) (by first | decide | omega) (by first | decide | omega) (Nat.le_of_ble_eq_true rfl) (fun r σ2 hq => ?_) (fun E σx hx => Ax.out rfl (XO.of hDV hx (fun hc => c3_1 (fun z => hc z.2)) (by decide)) (by decide) (by decide))
  obtain ⟨rfl, hr2, rfl⟩ := hq
  obtain ⟨is, in_, ix⟩ := hVs.at hr2 hc2
  have go : (0 ≤ c ∧ c ≤ 3) → Aw Ω M_Dw_patch rm_Dw_patch (MF Ω rm_Dw_patch (OI Ω lo x (o_patch S v w c) σ2) (XO Ω lo x S (o_patch S v w c).1 σ2)) (0 + rm_Dw_versionAt.cells + rm_Dw_versionAt.cells) (0 + rm_Dw_versionAt.slots + rm_Dw_versionAt.slots) 41 [xr (some x), xi v, xi w, xi c, xr (some (x + 374 + 8 * v.toNat + 1)), xr (some (x + 374 + 8 * w.toNat + 1))] [xr (some x)] σ2 := fun h3 => by
    refine c_Dw_patch_41 (k_Dw_checkPatchRoom hH hF) hH.2.1 (by decide) (by decide) (by first | decide | omega) (by first | decide | omega) (Nat.le_of_ble_eq_true rfl) (fun σ3 hq => ?_) (fun E σx hx => Ax.out rfl (XO.of hDV hx (fun hc => c3_3 ⟨hr, hr2⟩ h3 (fun y => hc (by omega))) (by decide)) (by decide) (by decide))
    obtain ⟨rfl, hr3⟩ := hq
    have hn3 : (sP S).length < 10 := by omega
    refine b_Dw_patch_44 ⟨hH.2.1, _, f6, ?_⟩
    refine c_Dw_patch_53 (k_Cmp_pairUp (lb := 0) hPr hx ix (h20 v) (h20 w) (by omega) (by omega) (by decide)) hPr.2.1 (by decide) (by decide) (by first | decide | omega) (by first | decide | omega) (Nat.le_of_ble_eq_true rfl) (fun σ4 hq => ?_) (fun _ _ hx => hx.elim)
    obtain ⟨hW4, hP4, hk4⟩ := hq
    have hWw := hW.pr hlo hk4 hW4.1
    obtain ⟨hH4, hF4, hVs4, hMn4, hSp4, hCm4, hPa4, -⟩ := id hWw
    obtain ⟨hs4, hn4, hx4⟩ := hVs4.at hr hc2
    obtain ⟨is4, in4, ix4⟩ := hVs4.at hr2 hc2
    have gP := hPa4 (sP S).length hn3
    rw [getD_len] at gP
    have l1 := XL_len 0 (vtx (sV S) v)
    have l2 := XL_len 0 (vtx (sV S) w)
    have pok := prs_ok (XL 0 (vtx (sV S) v)) (XL 0 (vtx (sV S) w))
    rw [l1, l2] at pok
    have hP4' : CpP σ4 (x + 36) (XL 0 (vtx (sV S) v)).length (vtx (sV S) w).length (prT (vtx (sV S) v) (vtx (sV S) w)).1 (fun _ => -1) (prT (vtx (sV S) v) (vtx (sV S) w)).2 := by rw [l1]; exact hP4
    have e13 := hF4.2.2.2.1
    have r1 : aR σ4 (x + 2) (((sP S).length : Nat) : Int).toNat = some (x + 694 + 2 * (sP S).length) := by rw [(hk4.2 (x + 2) (by omega) (by omega)).2.2.2.2.2.2.2]; exact r2 _ hn3
    obtain ⟨k24, z24, -⟩ := hH4.2.2.2.2.2.2.2.2.2.2.2.2.2.2.1
    refine b_Dw_patch_56 ?_
    rw [e13]
    refine ⟨hH4.2.1, _, hH4.2.2.2.2.1, fun _ => ⟨k24, by omega, by omega, _, hH4.2.2.2.2.2.2.2.2.2.1, ?_⟩⟩
    rw [r1]
    have hfill := @k_Pat_fill Ω (x + 694 + 2 * (sP S).length) (x + 374 + 8 * v.toNat + 1) (x + 374 + 8 * w.toNat + 1) (x + 36) lo (vtx (sV S) v) (vtx (sV S) w) (XL 0 (vtx (sV S) v)) (XL 0 (vtx (sV S) w)) (prT (vtx (sV S) v) (vtx (sV S) w)).1 (fun _ => -1) (vtx (sV S) w).length (prT (vtx (sV S) v) (vtx (sV S) w)).2 c.toNat σ4 (h20 v) (h20 w) l1 (by omega) (fun i hi => by have := pok.1 i hi; unfold prT; omega) (by omega) (Nat.le_trans hls hk4.1) (by omega) (by omega) (by omega) gP hx4 ix4 hW4 hP4'
    rw [show ((c.toNat : Nat) : Int) = c by omega] at hfill
    refine c_Dw_patch_74 (hfill) gP.2.1 (by decide) (by decide) (by first | decide | omega) (by first | decide | omega) (Nat.le_of_ble_eq_true rfl) (fun σ5 hq => ?_) (fun _ _ hx => hx.elim)
    obtain ⟨hp5, hk5⟩ := hq
    have hH5 := hH4.keep hk5 (fun q' q1 q2 q3 => by omega)
    have hF5 := hF4.keep hk5 (by have := hH4.1; omega) (by omega)
    have e13' := hF5.2.2.2.1
    refine b_Dw_patch_77 ?_
    rw [e13', show fI (uI σ5 13 x (((sP S).length : Int) + 1)) 13 x = ((sP S).length : Int) + 1 from by rw [fI_uI, if_pos ⟨rfl, rfl⟩]]
    refine ⟨hH5.2.1, fun _ => ⟨by omega, fun _ => ?_⟩⟩
    have k6 : Keep σ5 (uI σ5 13 x (((sP S).length : Int) + 1)) (At1 x) := kuI1
    have k46 := (hk5.mono (Q := fun q' => In (x + 694 + 2 * (sP S).length) (x + 694 + 2 * (sP S).length + 2) q' ∨ q' = x) (fun q' _ h => Or.inl h)).trans (k6.mono (fun q' _ h => Or.inr h))
    have hF6 : DwF (uI σ5 13 x (((sP S).length : Int) + 1)) x (b01 (sD S).isSome) (b01 (sC S).isSome) (sV S).length ((sP S).length + 1 : Nat) (sR S).length (sW S).length (sM S) := by
      have := hF5.s13 (w := ((sP S).length : Int) + 1)
      exact this
    have hWf := hWw.pat hlo hn3 k46 hH5 hF6 (hp5.keep k6 (fun b b1 _ b3 => by omega) (by omega) (by omega))
    refine r_Dw_patch_93 ⟨_, rfl, c3_t ⟨hr, hr2⟩ h3 hn3, by show _ = ((sP S).length : Int); omega, ⟨⟨hlo, Nat.le_trans hls (Nat.le_trans hk4.1 k46.1), hoE⟩, sw, ds, el, hWf⟩, (hk4.mono (fun q' _ h => Or.inl (by omega))).trans (k46.mono (fun q' _ h => Or.inl (by omega)))⟩ (by decide) (by decide)
  exact b_Dw_patch_15 ⟨is.2.1, _, is.2.2.1, hc0, fun c4 => t_Dw_patch_29 (by decide) (by decide) (by first | decide | omega) (by first | decide | omega) (fun n' h2 => XO.of hDV ⟨rfl, (show ¬ (0 ≤ c ∧ c ≤ 3) by omega), Keep.nX h2⟩ (fun z => c3_2 ⟨hr, hr2⟩ z) (by decide)), fun c4 => ⟨fun c5 => go ⟨by omega, c5⟩, fun c5 => t_Dw_patch_29 (by decide) (by decide) (by first | decide | omega) (by first | decide | omega) (fun n' h2 => XO.of hDV ⟨rfl, (show ¬ (0 ≤ c ∧ c ≤ 3) by omega), Keep.nX h2⟩ (fun z => c3_2 ⟨hr, hr2⟩ z) (by decide))⟩⟩
theorem K_turn (hDV : DwV Ω σ lo x S) (hCn : Cnt S) (hp : Q32 p) : MC Ω M_Dw_turn rm_Dw_turn (OI Ω lo x (o_turn S p) σ) (XO Ω lo x S (o_turn S p).1 σ) σ [xr (some x), xi p] := by
  obtain ⟨⟨hlo, hls, hoE⟩, sw, ds, el, hW⟩ := id hDV
  obtain ⟨hH, hF, hVs, hMn, hSp, hCm, hPa, hNo, hRe, hBk, hPr, hTm, hDs⟩ := id hW
  obtain ⟨hc1, hc2, hc3, hc4, hc5, hc6, hc7⟩ := id hCn
  have hx0 := hH.1
  have f1 := hH.2.2.2.2.1
  obtain ⟨k2, z2, r2⟩ := hH.2.2.2.2.2.2.2.2.2.2.2.2.2.2.1
  refine e_Dw_turn (b_Dw_turn_0 ?_)
  refine c_Dw_turn_2 (k_Dw_patchAt hH hF (by omega) hp) hH.2.1 (by decide) (by decide) (by first | decide | omega) (by first | decide | omega) (Nat.le_of_ble_eq_true rfl) (fun r σ1 hq => ?_) (fun E σx hx => Ax.out rfl (XO.of hDV hx (fun hc => c2_1 hc) (by decide)) (by decide) (by decide))
  obtain ⟨rfl, hr, rfl⟩ := hq
  have gQ := hPa p.toNat (by omega)
  refine b_Dw_turn_5 ?_
  refine c_Dw_turn_7 (k_Dw_checkPatchRoom hH hF) hH.2.1 (by decide) (by decide) (by first | decide | omega) (by first | decide | omega) (Nat.le_of_ble_eq_true rfl) (fun σ3 hq => ?_) (fun E σx hx => Ax.out rfl (XO.of hDV hx (fun hc => c2_2 hr (fun y => hc (by omega))) (by decide)) (by decide) (by decide))
  obtain ⟨rfl, hr3⟩ := hq
  have hn3 : (sP S).length < 10 := by omega
  have gP := hPa (sP S).length hn3
  rw [getD_len] at gP
  have e13 := hF.2.2.2.1
  have r1 : aR σ3 (x + 2) (((sP S).length : Nat) : Int).toNat = some (x + 694 + 2 * (sP S).length) := r2 _ hn3
  refine b_Dw_turn_10 ?_
  rw [e13]
  refine ⟨hH.2.1, _, f1, fun _ => ⟨k2, by omega, by omega, ?_⟩⟩
  rw [r1]
  refine c_Dw_turn_20 (k_Pat_fillTurned (q := x + 694 + 2 * p.toNat) (by omega) hls (by omega) gP gQ) gP.2.1 (by decide) (by decide) (by first | decide | omega) (by first | decide | omega) (Nat.le_of_ble_eq_true rfl) (fun σ5 hq => ?_) (fun _ _ hx => hx.elim)
  obtain ⟨hp5, hk5⟩ := hq
  have hH5 := hH.keep hk5 (fun q' q1 q2 q3 => by omega)
  have hF5 := hF.keep hk5 (by omega) (by omega)
  have e13' := hF5.2.2.2.1
  refine b_Dw_turn_23 ?_
  rw [e13', show fI (uI σ5 13 x (((sP S).length : Int) + 1)) 13 x = ((sP S).length : Int) + 1 from by rw [fI_uI, if_pos ⟨rfl, rfl⟩]]
  refine ⟨hH5.2.1, fun _ => ⟨by omega, fun _ => ?_⟩⟩
  have k6 : Keep σ5 (uI σ5 13 x (((sP S).length : Int) + 1)) (At1 x) := kuI1
  have k46 := (hk5.mono (Q := fun q' => In (x + 694 + 2 * (sP S).length) (x + 694 + 2 * (sP S).length + 2) q' ∨ q' = x) (fun q' _ h => Or.inl h)).trans (k6.mono (fun q' _ h => Or.inr h))
  have hF6 : DwF (uI σ5 13 x (((sP S).length : Int) + 1)) x (b01 (sD S).isSome) (b01 (sC S).isSome) (sV S).length ((sP S).length + 1 : Nat) (sR S).length (sW S).length (sM S) := by
    have := hF5.s13 (w := ((sP S).length : Int) + 1)
    exact this
  have hWf := hW.pat hlo hn3 k46 hH5 hF6 (hp5.keep k6 (fun b b1 _ b3 => by omega) (by omega) (by omega))
  exact r_Dw_turn_39 ⟨_, rfl, c2_t hr hn3, by show _ = ((sP S).length : Int); omega, ⟨⟨hlo, Nat.le_trans hls k46.1, hoE⟩, sw, ds, el, hWf⟩, k46.mono (fun q' _ h => Or.inl (by omega))⟩ (by decide) (by decide)
/-- what a change of the draft touches -/
abbrev DfP (lo x a d : Nat) : Nat → Prop := fun q => (a ≤ q ∧ q < a + 128) ∨ q = x ∨ In (x + 5) (x + 8) q ∨ (q = d ∧ lo ≤ q)
theorem Ls.lt {l d : Nat} {es : List Nat} (h : Ls Ω σ lo l d es) (hd : lo ≤ d) : d < sN σ ∧ sK σ d = 59 := by
  rcases h.2.2.2.2.2 with w | w
  · have := w.2.1; omega
  · exact ⟨w.2.1, w.2.2.1⟩
theorem DwW.lt (hW : DwW Ω σ lo x S sw ds el) {i : Nat} (hi : i < 42) (hd : lo ≤ ds i) : ds i < sN σ ∧ sK σ (ds i) = 59 := by
  obtain ⟨hH, hF, hVs, hMn, hSp, -⟩ := hW
  by_cases e : i < 40
  · obtain ⟨⟨N, h1, -⟩, -⟩ := hVs i e
    exact h1.2.2.2.2.lt hd
  · have hc : i = 40 ∨ i = 41 := by omega
    rcases hc with rfl | rfl
    · obtain ⟨f, s, b, T, cl, oc, h1, -⟩ := hMn
      exact h1.2.2.2.2.2.2.lt hd
    · obtain ⟨f, s, b, T, cl, oc, h1, -⟩ := hSp
      exact h1.2.2.2.2.2.2.lt hd
theorem up1g {α : Type} (g : Nat → α) (a k : Nat) (v : α) : up1 g a v k = if k = a then v else g k := rfl
theorem DwW.drf {D' : Option DR} {B' : BR} {em' : Int} {d' : Nat} {es' : List Nat} (hW : DwW Ω σ lo x S sw ds el) (hlo : x + 753 < lo) (k : Keep σ σ' (DfP lo x (x + 118 + 128 * sw) (ds 40))) (hH : DwH σ' x sw) (hF : DwF σ' x (b01 D'.isSome) (b01 (sC S).isSome) (sV S).length (sP S).length (sR S).length (sW S).length em') (hM : MnV Ω σ' lo x (x + 118 + 128 * sw) d' es' D') (hB : Bk σ' (x + 5) (bkN B') (bkA B') (bkO B')) (hd : d' = ds 40 ∨ sN σ ≤ d') : DwW Ω σ' lo x (sV S, D', sC S, sP S, sW S, sR S, B', em') sw (up1 ds 40 d') (up1 el 40 es') := by
  have hlt := fun i h1 h2 => hW.lt (i := i) h1 h2
  obtain ⟨h1, h2, h3, h4, h5, h6, h7, h8, h9, h10, h11, h12, h13⟩ := hW
  have h0 := h1.1
  have hs := h1.2.2.1
  have dl : ∀ q, lo ≤ q → sK σ q ≠ 59 → ¬ DfP lo x (x + 118 + 128 * sw) (ds 40) q := fun q q1 q2 q3 => by
    rcases q3 with q3 | q3 | q3 | ⟨q3, _⟩
    · omega
    · omega
    · omega
    · exact q2 (q3 ▸ (hlt 40 (by omega) (q3 ▸ q1)).2)
  have dd : ∀ i, i < 42 → i ≠ 40 → lo ≤ ds i → ¬ DfP lo x (x + 118 + 128 * sw) (ds 40) (ds i) := fun i q1 q2 q3 q4 => by
    rcases q4 with q4 | q4 | q4 | ⟨q4, _⟩
    · omega
    · omega
    · omega
    · exact q2 (h13 i 40 q1 (by omega) q3 q4)
  refine ⟨hH, hF, fun v hv => ?_, ?_, ?_, h6.keep k (fun q q1 q2 q3 => by omega), h7.keep k (fun q q1 q2 q3 => by omega) dl, h8.keep k (by omega) (by omega), h9.keep k (fun q q1 q2 q3 => by omega), hB, h11.keep k (fun q q1 q2 q3 => by omega), h12.keep k (fun q q1 q2 q3 => by omega), fun i j hi hj q1 q2 => ?_⟩
  · have := h3.keep k (fun q q1 q2 q3 => by omega) dl (fun v hv hd => dd v (by omega) (by omega) hd) v hv
    rw [up1g, if_neg (by omega), up1g, if_neg (by omega)]
    exact this
  · rw [up1g, if_pos rfl, up1g, if_pos rfl]; exact hM
  · rw [up1g, if_neg (by omega), up1g, if_neg (by omega)]
    exact h5.keep k (fun q q1 q2 q3 => by omega) dl (fun hd => dd 41 (by omega) (by omega) hd)
  · rw [up1g] at q1 q2
    rw [up1g] at q2
    by_cases e1 : i = 40
    · by_cases e2 : j = 40
      · omega
      · rw [if_pos e1] at q1 q2
        rw [if_neg e2] at q2
        rcases hd with hd | hd
        · rw [hd] at q1 q2
          exact absurd (h13 40 j (by omega) hj q1 q2).symm e2
        · have := (hlt j hj (q2 ▸ q1)).1; omega
    · rw [if_neg e1] at q1 q2
      by_cases e2 : j = 40
      · rw [if_pos e2] at q2
        rcases hd with hd | hd
        · rw [hd] at q2
          exact absurd (h13 i 40 hi (by omega) q1 q2) e1
        · have := (hlt i hi q1).1; omega
      · rw [if_neg e2] at q2
        exact h13 i j hi hj q1 q2
end PTC
