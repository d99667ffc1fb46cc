/-! BY HAND: edits of the draft, as the class makes them, 5 -/
/-- a patch's hunks laid -/
noncomputable def lyT (S : St) (p fz : Int) : List (Int64 × Int) := (lyN fz.toNat (phk S p) 0 0 (drT (drO S)) 0).1
def lyE (x : Nat) (S : St) (p fz : Int) : Edi := (5, p, fz, 0, some (x + 694 + 2 * p.toNat), drT (drO S), drC (drO S))
noncomputable def o_lay (x : Nat) (S : St) (p fz : Int) : Rs := (c3 (0 ≤ p ∧ p < (sP S).length) (0 ≤ fz ∧ fz ≤ 2) (whB S = true ∧ (lyT S p fz).length ≤ 20) 1 2 3, ((lyN fz.toNat (phk S p) 0 0 (drT (drO S)) 0).2 : Nat), edS S (nmA' S (lyT S p fz)).1 (drC (drO S)) (lyE x S p fz) (nmB S (lyT S p fz)))
/-- no patch puts in more than a text has -/
def IvP (S : St) : Prop := ∀ hs ∈ sP S, frS hs ≤ 20
theorem IvP.at {S : St} (h : IvP S) (p : Int) : frS (phk S p) ≤ 20 := by
  unfold phk
  rw [List.getD_eq_getElem?_getD]
  cases e : (sP S)[p.toNat]? with
  | none => exact Nat.zero_le _
  | some y => exact h y (List.mem_of_getElem? e)
section ED5
variable {Ω : Om} {σ σ8 : Sto} {lo x sw : Nat} {S : St} {ds : Nat → Nat} {el : Nat → List Nat} {p q c v w fz : Int} {l : Int64}
theorem K_lay (hDV : DwV Ω σ lo x S) (hCn : Cnt S) (iV : IvV S) (iD : IvD S) (iP : IvP S) (hem : sM S < 512) (hp : Q32 p) (hf0 : Q32 fz) : MC Ω M_Dw_lay rm_Dw_lay (OI Ω lo x (o_lay x S p fz) σ) (XO Ω lo x S (o_lay x S p fz).1 σ) σ [xr (some x), xi p, xi fz] := by
  obtain ⟨⟨hlo, hls, hoE⟩, sw, ds, el, hW⟩ := id hDV
  obtain ⟨hH, hF, hVs, hMn, hSp, hCm, hPa, hNo, hRe, hBk, hPr, hTm, hDs⟩ := id hW
  obtain ⟨hc1, hc2, hc3, hc4, hc5, hc6, hc7⟩ := id hCn
  have hx0 := hH.1
  have hs1 := hH.2.2.1
  refine e_Dw_lay (b_Dw_lay_0 ?_)
  refine c_Dw_lay_2 (k_Dw_patchAt hH hF (by omega) hp) hH.2.1 (by decide) (by decide) (by first | decide | omega) (by first | decide | omega) (Nat.le_of_ble_eq_true rfl) (fun y σ1 hq => ?_) (fun E σx hx => Ax.out rfl (XO.of hDV hx (fun hc => c3_1 hc) (by decide)) (by decide) (by decide))
  obtain ⟨rfl, hr2, rfl⟩ := hq
  refine b_Dw_lay_5 ⟨hf0, fun c4 => t_Dw_lay_15 (by decide) (by decide) (by first | decide | omega) (by first | decide | omega) (fun n' h2 => XO.of hDV ⟨rfl, (show ¬ (0 ≤ fz ∧ fz ≤ 2) by omega), Keep.nX h2⟩ (fun z => c3_2 hr2 z) (by decide)), fun c4 => ⟨fun c5 => ?_, fun c5 => t_Dw_lay_15 (by decide) (by decide) (by first | decide | omega) (by first | decide | omega) (fun n' h2 => XO.of hDV ⟨rfl, (show ¬ (0 ≤ fz ∧ fz ≤ 2) by omega), Keep.nX h2⟩ (fun z => c3_2 hr2 z) (by decide))⟩⟩
  have hfz : 0 ≤ fz ∧ fz ≤ 2 := by omega
  refine c_Dw_lay_27 (k_Dw_checkEditable hH hF hMn hem) hH.2.1 (by decide) (by decide) (by first | decide | omega) (by first | decide | omega) (Nat.le_of_ble_eq_true rfl) (fun σ3 hq => ?_) (fun E σx hx => Ax.out rfl (XO.of hDV hx (fun hc => c3_3 hr2 hfz (fun y => hc (whB_iff.mp y.1))) (by decide)) (by decide) (by decide))
  obtain ⟨rfl, hwh⟩ := hq
  have hwb := whB_iff.mpr hwh
  obtain ⟨r, hD, ho⟩ := hwh
  have iR := iD r hD
  obtain ⟨f, s, b, hDf, hEs, h3f, hrf, h3t, ⟨df, dss, db⟩, ⟨lf, ls, lb⟩, ⟨tF, tS, tB⟩, ⟨qF, qS, qB⟩, hax⟩ := hW.dr hlo hCn iV hD iR
  have f8 := hH.2.2.2.2.2.2.2.2.2.2.2.1
  have iR3 := iR.2.2.1
  have eD := drO_some hD
  have eZ : dszD (sD S) = ((drT r).length : Int) := dsz_some hD
  have hel : (el 40).length ≤ 512 := by have := hEs.1; have := iR.2.2.2.1; omega
  have hPt : Pt σ3 lo (x + 694 + 2 * p.toNat) (phk S p) := hPa p.toNat (by omega)
  have hfr := iP.at p
  refine b_Dw_lay_30 ⟨hH.2.1, _, f8, by decide, by decide, fun σ6 e6 => ?_⟩
  have k6 : Keep σ3 σ6 No := by rw [e6]; exact Keep.nO
  have q6 : sK σ6 (sN σ3) = 5 := by rw [e6, sK_nO, if_pos rfl]
  have n6 : sN σ6 = sN σ3 + 1 := by rw [e6, sN_nO]
  refine c_Dw_lay_43 (k_Edt_init (lo := lo) q6 n6 hls (by decide) hp hf0) (by decide) (by decide) (by first | decide | omega) (by first | decide | omega) (Nat.le_of_ble_eq_true rfl) (fun σ7 hq => ?_) (fun _ _ hx => hx.elim)
  obtain ⟨hE7, k7⟩ := hq
  have k37 : Keep σ3 σ7 No := k6.tr k7 (fun q h1 h2 => by omega)
  have hDf7 := hDf.keep k37 (fun _ _ _ h => h) (fun _ h => h)
  have h37 := h3t.keep k37 (fun _ _ _ h => h) (fun _ _ _ h => h) (fun _ _ _ h => h)
  refine c_Dw_lay_46 (k_Drf_make (σ0 := σ3) (hs := phk S p) hDf7 h37 hE7 k37 (by omega) (Nat.le_refl _) (fun _ => ⟨_, rfl, by omega, hPt⟩) (fun q h => by cases h; omega) (pok_5 rfl ⟨hfz, by show (drT r).length + frS (phk S p) ≤ 40; omega⟩) tF tS tB df dss db qF qS qB (by omega) lf ls lb (by omega) (fun i y hy => ⟨hEs.k5 i y hy, hEs.lt i y hy⟩)) hDf7.1.2.1 (by decide) (by decide) (by first | decide | omega) (by first | decide | omega) (Nat.le_of_ble_eq_true rfl) (fun y σ8 hq => ?_) (fun _ _ hx => hx.elim)
  obtain ⟨hy, d', hDf8, hE8, k8, hd8, a8⟩ := hq
  have hF8 := hF.keep k8 (by omega) (by omega)
  have hH8 := hH.keep k8 (fun q q1 q2 q3 => by omega)
  have e16 := hF8.2.2.2.2.2.2
  have hB8 := hBk.keep k8 (fun q q1 q2 q3 => by omega)
  have eT : pfT (phk S p) (srcF (sV S) r) (srcS (sV S) r) (srcB (sV S) r) (drT r) (drC r) (5, p, fz, 0, some (x + 694 + 2 * p.toNat), [], []) = lyT S p fz := by unfold lyT; rw [eD]; rfl
  have eC : pfC (drC r) (5, p, fz, 0, some (x + 694 + 2 * p.toNat), [], []) = drC r := rfl
  have eO : pfO (opn (drC r)) (5, p, fz, 0, some (x + 694 + 2 * p.toNat), [], []) = opn (drC r) := rfl
  have eR : pfR (phk S p) (drT r) (5, p, fz, 0, some (x + 694 + 2 * p.toNat), [], []) = (lyN fz.toNat (phk S p) 0 0 (drT (drO S)) 0).2 := by rw [eD]; rfl
  rw [eT, eC, eO] at hDf8
  rw [eR] at hy
  subst hy
  have eE : lyE x S p fz = (5, p, fz, 0, some (x + 694 + 2 * p.toNat), drT r, drC r) := by unfold lyE; rw [eD]
  have hEs8 : EdsV σ8 lo (el 40 ++ [sN σ3]) (drE r ++ [(5, p, fz, 0, some (x + 694 + 2 * p.toNat), drT r, drC r)]) := by
    refine (hEs.keep k8 (fun q q1 q2 q3 => ?_)).snoc hE8
    rcases q3 with q3 | q3 | ⟨q3, _⟩
    · omega
    · omega
    · exact q2 (q3 ▸ (hW.lt (i := 40) (by omega) (q3 ▸ q1)).2)
  have hX8 := hDf8.2.2.2.2.1
  have hl8 := hX8.2.2.2.2.2.2.2.2.2.1
  have f88 := hH8.2.2.2.2.2.2.2.2.2.2.2.1
  have iV2 := iV.2
  refine b_Dw_lay_49 ⟨hH8.2.1, _, f88, hDf8.1.2.1, _, hDf8.1.2.2.1, ?_⟩
  refine c_Dw_lay_58 (k_Txt_size hX8) hX8.2.1 (by decide) (by decide) (by first | decide | omega) (by first | decide | omega) (Nat.le_of_ble_eq_true rfl) (fun z σ8 hq => ?_) (fun _ _ hx => hx.elim)
  obtain ⟨rfl, rfl⟩ := hq
  refine b_Dw_lay_61 ⟨by omega, fun c6 => ⟨hH8.2.1, _, f88, _, hH8.2.2.2.2.2.2.2.1, ?_⟩, fun c6 => ⟨hH8.2.1, _, f88, ?_⟩⟩
  · have hnn := noN_le (lyT S p fz)
    have h38 := h3t.keep k8 (fun q q1 q2 q3 => by omega) (fun q q1 q2 q3 => by omega) (fun q q1 q2 q3 => by omega)
    refine c_Dw_lay_91 (k_Drf_namePutIn (w := drA r) (by omega) (by omega) (by omega) (by omega) hDf8.1.2.1 hDf8.1.2.2.1 hDf8.2.1.1 (a8.1.trans h3f.1) h38.1 hDf8.2.2.2.2.1 hB8) hDf8.1.2.1 (by decide) (by decide) (by first | decide | omega) (by first | decide | omega) (Nat.le_of_ble_eq_true rfl) (fun σ9 hq => ?_) (fun _ _ hx => hx.elim)
    obtain ⟨hX9, hB9, k9⟩ := hq
    have enm : nmA' S (lyT S p fz) = nmL (srcF (sV S) r) (drA r) (lyT S p fz) (bkN (sB S)) (bkA (sB S)) (bkO (sB S)) := by unfold nmA'; rw [eD]
    rw [← enm] at hX9 hB9
    have hDf9 := hDf8.txt k9 (by omega) (by omega) (by omega) hX9
    have hEs9 := hEs8.keep k9 (fun q q1 _ q3 => by omega)
    have a9 : Au3 σ8 σ9 (x + 118 + 128 * sw) := k9.au3 (by have := hDf8.1.1; omega) (by omega)
    obtain ⟨hW10, k10⟩ := hW.edm (B' := nmB S (lyT S p fz)) hlo hD ((k8.mono (fun q _ h => Or.inl h)).trans (k9.mono (fun q _ h => by rcases h with h | h; exact Or.inl (Or.inl (by omega)); exact Or.inr h))) hDf9 hEs9 ⟨a9.1.trans (a8.1.trans h3f.1), a9.2.1.trans (a8.2.1.trans h3f.2.1), a9.2.2.trans (a8.2.2.trans h3f.2.2)⟩ hrf hB9 hd8
    have hF9 := hF8.keep k9 (by have := hH8.1; omega) (by omega)
    have hH9 := hH8.keep k9 (fun q q1 q2 q3 => by omega)
    have e16' := hF9.2.2.2.2.2.2
    refine b_Dw_lay_94 ?_
    rw [e16']
    refine ⟨hH9.2.1, fun _ => ⟨by omega, ?_⟩⟩
    refine r_Dw_lay_106 ⟨_, rfl, c3_t hr2 hfz ⟨hwb, by omega⟩, rfl, ⟨⟨hlo, Nat.le_trans hls k10.1, hoE⟩, sw, up1 ds 40 d', up1 el 40 (el 40 ++ [sN σ3]), ?_⟩, k10⟩ (by decide) (by decide)
    show DwW Ω _ lo x (edS S (nmA' S (lyT S p fz)).1 (drC (drO S)) (lyE x S p fz) (nmB S (lyT S p fz))) sw _ _
    rw [eE, eD]; exact hW10
  · refine c_Dw_lay_70 (k_Drf_takeBack hDf8 rfl hE8 (fun h => absurd h (show ¬ ((5 : Int) = 4) by decide)) (by omega) (by omega) (by rw [List.length_append, List.length_singleton]; omega)) hDf8.1.2.1 (by decide) (by decide) (by first | decide | omega) (by first | decide | omega) (Nat.le_of_ble_eq_true rfl) (fun σ9 hq => ?_) (fun _ _ hx => hx.elim)
    obtain ⟨hDf9, k9, a9⟩ := hq
    have k39 : Keep σ3 σ9 (DfP lo x (x + 118 + 128 * sw) (ds 40)) := (k8.mono (fun q _ h => by
      rcases h with h | h | h
      · exact Or.inl (by omega)
      · exact Or.inl (by omega)
      · exact Or.inr (Or.inr (Or.inr h)))).tr k9 (fun q q0 h => by
      rcases h with h | h | ⟨h, h'⟩
      · exact Or.inl (by omega)
      · exact Or.inl (by omega)
      · rcases hd8 with e | e
        · exact Or.inr (Or.inr (Or.inr ⟨h.trans e, h'⟩))
        · omega)
    have hH9 := hH8.keep k9 (fun q q1 q2 q3 => by
      rcases q3 with q3 | q3 | ⟨q3, _⟩ <;> omega)
    have hF9 := hF8.keep k9 (by have := hH8.1; omega) (by
      intro q3
      rcases q3 with q3 | q3 | ⟨q3, _⟩ <;> omega)
    have hB9 := hB8.keep k9 (fun q q1 q2 q3 => by
      rcases q3 with q3 | q3 | ⟨q3, _⟩ <;> omega)
    have hEs9 : EdsV σ9 lo (el 40) (drE r) := by
      have h1 := hEs.keep k8 (fun q q1 q2 q3 => by
        rcases q3 with q3 | q3 | ⟨q3, _⟩
        · omega
        · omega
        · exact q2 (q3 ▸ (hW.lt (i := 40) (by omega) (q3 ▸ q1)).2))
      refine h1.keep k9 (fun q q1 q2 q3 => ?_)
      rcases q3 with q3 | q3 | ⟨q3, _⟩
      · omega
      · omega
      · exact q2 (q3 ▸ (hDf8.2.2.2.2.2.2.lt (q3 ▸ q1)).2)
    have hW9 := hW.drf (D' := sD S) (B' := sB S) (em' := sM S) (d' := d') (es' := el 40) hlo k39 hH9 hF9 (by rw [hD]; exact MnV.mk' (r' := r) hDf9 hEs9 ⟨a9.1.trans (a8.1.trans h3f.1), a9.2.1.trans (a8.2.1.trans h3f.2.1), a9.2.2.trans (a8.2.2.trans h3f.2.2)⟩ hrf) hB9 hd8
    have hDV9 : DwV Ω σ9 lo x S := ⟨⟨hlo, Nat.le_trans hls k39.1, hoE⟩, sw, _, _, hW9⟩
    refine t_Dw_lay_73 (by decide) (by decide) (by first | decide | omega) (by first | decide | omega) (fun n' h2 => ?_)
    have hX := XO.of (c' := (o_lay x S p fz).1) hDV9 ⟨rfl, (show ¬ (whB S = true ∧ (lyT S p fz).length ≤ 20) from fun z => c6 (by have := z.2; omega)), Keep.nX h2⟩ (fun z => c3_3 hr2 hfz z) (by decide : (3 : Nat) ≠ 0)
    exact ⟨hX.1, hX.2.1, hX.2.2.1, (k39.mono (fun q _ h => by
      rcases h with h | h | h | h
      · exact Or.inl (by omega)
      · exact Or.inl (by omega)
      · exact Or.inl (by omega)
      · exact Or.inr h.2)).trans hX.2.2.2⟩
end ED5
