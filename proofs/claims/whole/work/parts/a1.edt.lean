/-! BY HAND: edits of the draft, as the class makes them, 4 -/
def ed0 : Edi := (0, 0, 0, 0, none, [], [])
def lsE (S : St) : Edi := (drE (drO S)).getLastD ed0
def udD (S : St) : DR := (edB (lsE S), tbC (drC (drO S)) (lsE S), (drE (drO S)).dropLast, drA (drO S), dr1 (drO S), dr2 (drO S), drB (drO S))
def setDr (S : St) (D : Option DR) : St := (sV S, D, sC S, sP S, sW S, sR S, sB S, sM S)
def c1' (p : Prop) [Decidable p] : Nat := if p then 0 else 3
theorem c1'_t {p : Prop} [Decidable p] (h : p) : c1' p = 0 := if_pos h
theorem c1'_f {p : Prop} [Decidable p] (h : ¬ p) : c1' p = 3 := if_neg h
def o_undo (S : St) : Rs := (c1' (whB S = true ∧ 0 < (drE (drO S)).length), ((edB (lsE S)).length : Nat), setDr S (some (udD S)))
def o_begin (S : St) (v w : Int) : Rs := (c1 (isV S v ∧ isP w), ((vtx (sV S) v).length : Nat), setDr S (some (vtx (sV S) v, [], [], w, v, -1, 0)))
section ED4
variable {Ω : Om} {σ σ8 : Sto} {lo x sw : Nat} {S : St} {ds : Nat → Nat} {el : Nat → List Nat} {p q c v w fz : Int} {l : Int64}
theorem DfV.sgn {σ : Sto} {a f s b d : Nat} {T : List (Int64 × Int)} {cl : List Cnl} {oc x y z : Int} {es : List Nat} (h : DfV Ω σ lo a f s b d T cl oc es) (hlo : a + 127 < lo) : DfV Ω (uI (uI (uI σ 203 a x) 204 a y) 205 a z) lo a f s b d T cl oc es := by
  have k : Keep σ (uI (uI (uI σ 203 a x) 204 a y) 205 a z) (At1 a) := kuI1.trans (kuI1.trans kuI1)
  have h03 := h.1.1
  obtain ⟨g1, g2, g3, g4, g5, g6, g7⟩ := h
  refine ⟨g1.shp (Shp.uI.trans (Shp.uI.trans Shp.uI)), g2, ⟨?_, g3.2.1, fun i hi => ?_⟩, ?_, g5.keep k (fun q q1 q2 q3 => by omega), g6.keep k (fun q q1 q2 q3 => by omega), g7.keep k (by omega) (fun h h2 => by omega)⟩
  · rw [fI_uI, if_neg (by omega), fI_uI, if_neg (by omega), fI_uI, if_neg (by omega)]; exact g3.1
  · obtain ⟨c0, q1, q2⟩ := g3.2.2 i hi
    exact ⟨c0, Cf.keep q1 k (fun q h1 h2 h3 => by omega), q2⟩
  · rw [fI_uI, if_neg (by omega), fI_uI, if_neg (by omega), fI_uI, if_neg (by omega)]; exact g4
theorem sgn_3 {σ : Sto} {a : Nat} {x y z : Int} : fI (uI (uI (uI σ 203 a x) 204 a y) 205 a z) 203 a = x ∧ fI (uI (uI (uI σ 203 a x) 204 a y) 205 a z) 204 a = y ∧ fI (uI (uI (uI σ 203 a x) 204 a y) 205 a z) 205 a = z := by
  refine ⟨?_, ?_, ?_⟩
  · rw [fI_uI, if_neg (by omega), fI_uI, if_neg (by omega), fI_uI, if_pos ⟨rfl, rfl⟩]
  · rw [fI_uI, if_neg (by omega), fI_uI, if_pos ⟨rfl, rfl⟩]
  · rw [fI_uI, if_pos ⟨rfl, rfl⟩]
theorem K_change (hDV : DwV Ω σ lo x S) (hCn : Cnt S) (iV : IvV S) (iD : IvD S) (hem : sM S < 512) (hp : Q32 p) : MC Ω M_Dw_change rm_Dw_change (OI Ω lo x (o_change S p l) σ) (XO Ω lo x S (o_change S p l).1 σ) σ [xr (some x), xi p, xl l] := by
  obtain ⟨⟨hlo, hls, hoE⟩, sw, ds, el, hW⟩ := id hDV
  obtain ⟨hH, hF, hVs, hMn, hSp, hCm, hPa, hNo, hRe, hBk, hPr, hTm, hDs⟩ := id hW
  obtain ⟨hc1, hc2, hc3, hc4, hc5, hc6, hc7⟩ := id hCn
  have hq := dsz_q hW
  have hx0 := hH.1
  refine e_Dw_change (b_Dw_change_0 ?_)
  refine c_Dw_change_3 (k_Dw_draftSize (a := 0) hH hF hMn) hH.2.1 (by decide) (by decide) (by first | decide | omega) (by first | decide | omega) (Nat.le_of_ble_eq_true rfl) (fun z σ1 hq => ?_) (fun _ _ hx => hx.elim)
  obtain ⟨rfl, rfl⟩ := hq
  refine c_Dw_change_6 (k_Dw_checkPlace hp hq.2) hH.2.1 (by decide) (by decide) (by first | decide | omega) (by first | decide | omega) (Nat.le_of_ble_eq_true rfl) (fun σ2 hq => ?_) (fun E σx hx => Ax.out rfl (XO.of hDV hx (fun hc => c3_1 hc) (by decide)) (by decide) (by decide))
  obtain ⟨rfl, hr2⟩ := hq
  refine b_Dw_change_9 ?_
  refine c_Dw_change_11 (k_Dw_checkLine) hH.2.1 (by decide) (by decide) (by first | decide | omega) (by first | decide | omega) (Nat.le_of_ble_eq_true rfl) (fun σ2 hq => ?_) (fun E σx hx => Ax.out rfl (XO.of hDV hx (fun hc => c3_2 hr2 hc) (by decide)) (by decide) (by decide))
  obtain ⟨rfl, hln⟩ := hq
  refine b_Dw_change_14 ?_
  refine c_Dw_change_15 (k_Dw_checkEditable hH hF hMn hem) hH.2.1 (by decide) (by decide) (by first | decide | omega) (by first | decide | omega) (Nat.le_of_ble_eq_true rfl) (fun σ3 hq => ?_) (fun E σx hx => Ax.out rfl (XO.of hDV hx (fun hc => c3_3 hr2 hln (fun y => hc (whB_iff.mp y))) (by decide)) (by decide) (by decide))
  obtain ⟨rfl, hwh⟩ := hq
  have hwb := whB_iff.mpr hwh
  obtain ⟨r, hD, ho⟩ := hwh
  have iR := iD r hD
  obtain ⟨f, s, b, hDf, hEs, h3f, hrf, h3t, ⟨df, dss, db⟩, ⟨lf, ls, lb⟩, ⟨tF, tS, tB⟩, ⟨qF, qS, qB⟩, hax⟩ := hW.dr hlo hCn iV hD iR
  have f8 := hH.2.2.2.2.2.2.2.2.2.2.2.1
  have iR3 := iR.2.2.1
  have eD := drO_some hD
  have eZ : dszD (sD S) = ((drT r).length : Int) := dsz_some hD
  have hel : (el 40).length ≤ 512 := by have := hEs.1; have := iR.2.2.2.1; omega
  have hXs := hDf.2.2.2.2.1
  have hr3 : 0 ≤ p ∧ p < ((drT r).length : Int) := by omega
  have eg : (drT r)[p.toNat]? = some (chX S p) := by unfold chX; rw [eD, List.getD_eq_getElem?_getD, List.getElem?_eq_getElem (by omega)]; rfl
  have hnm := iR.2.2.2.2.2.2 _ (List.mem_of_getElem? eg)
  have iV2 := iV.2
  refine b_Dw_change_18 ⟨hH.2.1, _, f8, hDf.1.2.1, _, hDf.1.2.2.1, ?_⟩
  refine c_Dw_change_26 (k_Txt_lineAt hXs hp) hXs.2.1 (by decide) (by decide) (by first | decide | omega) (by first | decide | omega) (Nat.le_of_ble_eq_true rfl) (fun z σ3 hq => ?_) (fun _ _ hx => hx.elim)
  obtain ⟨rfl, rfl⟩ := hq
  rw [lnA_some hr3.1 eg]
  refine b_Dw_change_29 ⟨hH.2.1, _, f8, hDf.1.2.1, _, hDf.1.2.2.1, ?_⟩
  refine c_Dw_change_39 (k_Txt_nameAt hXs hp) hXs.2.1 (by decide) (by decide) (by first | decide | omega) (by first | decide | omega) (Nat.le_of_ble_eq_true rfl) (fun z σ3 hq => ?_) (fun _ _ hx => hx.elim)
  obtain ⟨rfl, ez, hqz⟩ := hq
  rw [nmA_some hr3.1 eg] at ez
  rw [ez]
  rw [ez] at hqz
  refine b_Dw_change_42 ⟨hH.2.1, _, f8, by decide, by decide, fun σ6 e6 => ?_⟩
  have k6 : Keep σ3 σ6 No := by rw [e6]; exact Keep.nO
  have q6 : sK σ6 (sN σ3) = 5 := by rw [e6, sK_nO, if_pos rfl]
  have n6 : sN σ6 = sN σ3 + 1 := by rw [e6, sN_nO]
  refine c_Dw_change_57 (k_Edt_init (lo := lo) q6 n6 hls (by decide) hp (by decide)) (by decide) (by decide) (by first | decide | omega) (by first | decide | omega) (Nat.le_of_ble_eq_true rfl) (fun σ7 hq => ?_) (fun _ _ hx => hx.elim)
  obtain ⟨hE7, k7⟩ := hq
  have k37 : Keep σ3 σ7 No := k6.tr k7 (fun q h1 h2 => by omega)
  have hDf7 := hDf.keep k37 (fun _ _ _ h => h) (fun _ h => h)
  have h37 := h3t.keep k37 (fun _ _ _ h => h) (fun _ _ _ h => h) (fun _ _ _ h => h)
  refine c_Dw_change_60 (k_Drf_make (σ0 := σ3) (hs := []) hDf7 h37 hE7 k37 (by omega) (Nat.le_refl _) (fun h => absurd h (show ¬ ((2 : Int) = 5) by decide)) (fun p h => by cases h) (pok_1 (Or.inr rfl) hr3) tF tS tB df dss db qF qS qB (by omega) lf ls lb (by omega) (fun i y hy => ⟨hEs.k5 i y hy, hEs.lt i y hy⟩)) hDf7.1.2.1 (by decide) (by decide) (by first | decide | omega) (by first | decide | omega) (Nat.le_of_ble_eq_true rfl) (fun y σ8 hq => ?_) (fun _ _ hx => hx.elim)
  obtain ⟨-, d', hDf8, hE8, k8, hd8, a8⟩ := hq
  have hF8 := hF.keep k8 (by omega) (by omega)
  have hH8 := hH.keep k8 (fun q q1 q2 q3 => by omega)
  have e16 := hF8.2.2.2.2.2.2
  have hB8 := hBk.keep k8 (fun q q1 q2 q3 => by omega)
  have eT : pfT [] (srcF (sV S) r) (srcS (sV S) r) (srcB (sV S) r) (drT r) (drC r) (2, p, -1, l, none, [], []) = if (chX S p).1 = l then drT r else (drT r).set p.toNat (l, -1) := by
    show (match (drT r)[p.toNat]? with | some x => if x.1 = l then drT r else (drT r).set p.toNat (l, -1) | none => drT r) = _
    rw [eg]
  have eC : pfC (drC r) (2, p, -1, l, none, [], []) = drC r := rfl
  have eO : pfO (opn (drC r)) (2, p, -1, l, none, [], []) = opn (drC r) := rfl
  rw [eT, eC, eO] at hDf8
  have hEs8 : EdsV σ8 lo (el 40 ++ [sN σ3]) (drE r ++ [(2, p, -1, l, none, drT r, drC r)]) := by
    refine (hEs.keep k8 (fun q q1 q2 q3 => ?_)).snoc hE8
    rcases q3 with q3 | q3 | ⟨q3, _⟩
    · omega
    · omega
    · exact q2 (q3 ▸ (hW.lt (i := 40) (by omega) (q3 ▸ q1)).2)
  have hX8 := hDf8.2.2.2.2.1
  have eg8 : ∃ y, (if (chX S p).1 = l then drT r else (drT r).set p.toNat (l, -1))[p.toNat]? = some y ∧ ((chX S p).1 = l → y = chX S p) ∧ ((chX S p).1 ≠ l → y = (l, -1)) := by
    by_cases e : (chX S p).1 = l
    · rw [if_pos e]; exact ⟨_, eg, fun _ => rfl, fun z => absurd e z⟩
    · rw [if_neg e, List.getElem?_set, if_pos rfl, if_pos (by omega)]; exact ⟨_, rfl, fun z => absurd z e, fun _ => rfl⟩
  obtain ⟨y8, ey8, ey1, ey2⟩ := eg8
  refine b_Dw_change_63 ⟨hH8.2.1, _, hH8.2.2.2.2.2.2.2.2.2.2.2.1, _, hH8.2.2.2.2.2.2.2.1, ?_⟩
  refine c_Dw_change_75 (k_Drf_nameRewritten (w := drA r) (by omega) hDf8.1.2.1 hDf8.1.2.2.1 (a8.1.trans h3f.1) hX8 hB8 (by omega) hr3.1 ey8 hqz) hDf8.1.2.1 (by decide) (by decide) (by first | decide | omega) (by first | decide | omega) (Nat.le_of_ble_eq_true rfl) (fun σ9 hq => ?_) (fun _ _ hx => hx.elim)
  obtain ⟨g1, g2⟩ := hq
  have hfin : ∃ k9 : Keep σ8 σ9 (fun q => In (x + 118 + 128 * sw + 1) (x + 118 + 128 * sw + 4) q ∨ In (x + 5) (x + 5 + 3) q), DfV Ω σ9 lo (x + 118 + 128 * sw) f s b d' (chT S p l) (drC r) (opn (drC r)) (el 40 ++ [sN σ3]) ∧ Bk σ9 (x + 5) (bkN (chB S p l)) (bkA (chB S p l)) (bkO (chB S p l)) := by
    by_cases e : (chX S p).1 = l
    · have e9 : σ9 = σ8 := g1 (by rw [ey1 e]; omega)
      subst e9
      have e1 : chT S p l = drT r := by unfold chT; rw [if_pos e, eD]
      have e2 : chB S p l = sB S := if_pos e
      rw [if_pos e] at hDf8
      rw [e1, e2]
      exact ⟨Keep.rf, hDf8, hB8⟩
    · obtain ⟨g3, g4, g5⟩ := g2 (by rw [ey2 e])
      have e1 : chT S p l = (drT r).set p.toNat (l, (bkN (sB S) : Int)) := by unfold chT; rw [if_neg e, eD]
      have e2 : chB S p l = (bkN (sB S) + 1, sgN (bkS (sB S)) (chT S p l), up1 (bkA (sB S)) (bkN (sB S)) (drA r), up1 (bkO (sB S)) (bkN (sB S)) (chX S p).2) := by unfold chB; rw [if_neg e, eD]
      rw [ey2 e, if_neg e, List.set_set] at g3
      rw [e1, e2]
      exact ⟨g5, hDf8.txt g5 (by omega) (by omega) (by omega) g3, g4⟩
  obtain ⟨k9, hDf9, hB9⟩ := hfin
  have hEs9 := hEs8.keep k9 (fun q q1 _ q3 => by omega)
  have a9 : Au3 σ8 σ9 (x + 118 + 128 * sw) := k9.au3 (by have := hDf8.1.1; omega) (by omega)
  obtain ⟨hW10, k10⟩ := hW.edm (B' := chB S p l) hlo hD ((k8.mono (fun q _ h => Or.inl h)).trans (k9.mono (fun q _ h => by rcases h with h | h; exact Or.inl (Or.inl (by omega)); exact Or.inr h))) hDf9 hEs9 ⟨a9.1.trans (a8.1.trans h3f.1), a9.2.1.trans (a8.2.1.trans h3f.2.1), a9.2.2.trans (a8.2.2.trans h3f.2.2)⟩ hrf hB9 hd8
  have hF9 := hF8.keep k9 (by have := hH8.1; omega) (by omega)
  have hH9 := hH8.keep k9 (fun q q1 q2 q3 => by omega)
  have e16' := hF9.2.2.2.2.2.2
  refine b_Dw_change_78 ?_
  rw [e16']
  refine ⟨hH9.2.1, fun _ => ⟨by omega, ?_⟩⟩
  have hDV10 : DwV Ω (uI σ9 16 x (sM S + 1)) lo x (o_change S p l).2.2 := ⟨⟨hlo, Nat.le_trans hls k10.1, hoE⟩, sw, up1 ds 40 d', up1 el 40 (el 40 ++ [sN σ3]), by unfold o_change; rw [eD]; exact hW10⟩
  refine c_Dw_change_91 (k_Lbk_likenessOf) (by decide) (by decide) (by first | decide | omega) (by first | decide | omega) (Nat.le_of_ble_eq_true rfl) (fun z σ11 hq => ?_) (fun _ _ hx => hx.elim)
  obtain ⟨k11, rfl⟩ := hq
  exact r_Dw_change_94 ⟨_, rfl, c3_t hr2 hln hwb, rfl, hDV10.keep k11 (fun _ _ h => h), k10.trans (k11.mono (fun _ _ h => h.elim))⟩ (by decide) (by decide)
theorem K_undo (hDV : DwV Ω σ lo x S) (hCn : Cnt S) (iV : IvV S) (iD : IvD S) : MC Ω M_Dw_undo rm_Dw_undo (OI Ω lo x (o_undo S) σ) (XO Ω lo x S (o_undo S).1 σ) σ [xr (some x)] := by
  obtain ⟨⟨hlo, hls, hoE⟩, sw, ds, el, hW⟩ := id hDV
  obtain ⟨hH, hF, hVs, hMn, hSp, hCm, hPa, hNo, hRe, hBk, hPr, hTm, hDs⟩ := id hW
  obtain ⟨hc1, hc2, hc3, hc4, hc5, hc6, hc7⟩ := id hCn
  have hx0 := hH.1
  refine e_Dw_undo (b_Dw_undo_0 ?_)
  refine c_Dw_undo_1 (k_Dw_checkWhole hH hF hMn) hH.2.1 (by decide) (by decide) (by first | decide | omega) (by first | decide | omega) (Nat.le_of_ble_eq_true rfl) (fun σ3 hq => ?_) (fun E σx hx => Ax.out rfl (XO.of hDV hx (fun hc => c1'_f (fun y => hc (whB_iff.mp y.1))) (by decide)) (by decide) (by decide))
  obtain ⟨rfl, hwh⟩ := hq
  have hwb := whB_iff.mpr hwh
  obtain ⟨r, hD, ho⟩ := hwh
  have iR := iD r hD
  obtain ⟨f, s, b, hDf, hEs, h3f, hrf, h3t, ⟨df, dss, db⟩, ⟨lf, ls, lb⟩, ⟨tF, tS, tB⟩, ⟨qF, qS, qB⟩, hax⟩ := hW.dr hlo hCn iV hD iR
  have f8 := hH.2.2.2.2.2.2.2.2.2.2.2.1
  have iR3 := iR.2.2.1
  have eD := drO_some hD
  have eZ : dszD (sD S) = ((drT r).length : Int) := dsz_some hD
  have hel : (el 40).length ≤ 512 := by have := hEs.1; have := iR.2.2.2.1; omega
  refine b_Dw_undo_4 ⟨hH.2.1, _, f8, ?_⟩
  refine c_Dw_undo_8 (k_Drf_hasEdits hDf.1 hDf.2.2.2.2.2.2 (by omega)) hDf.1.2.1 (by decide) (by decide) (by first | decide | omega) (by first | decide | omega) (Nat.le_of_ble_eq_true rfl) (fun z σ4 hq => ?_) (fun _ _ hx => hx.elim)
  obtain ⟨rfl, hz⟩ := hq
  have hll := hEs.1
  rcases hz with ⟨rfl, hz⟩ | ⟨rfl, hz⟩
  · have hpos : 0 < (el 40).length := List.length_pos_iff.mpr hz
    have eE : (drE r)[(drE r).length - 1]? = some (lsE S) := by
      unfold lsE; rw [eD, List.getLastD_eq_getLast?, List.getLast?_eq_getElem?, List.getElem?_eq_getElem (by omega)]; rfl
    have eE2 : drE r = (drE r).dropLast ++ [lsE S] := by
      have h1 : drE r ≠ [] := fun z => by rw [z, List.length_nil] at hll; omega
      have h2 := (List.dropLast_concat_getLast h1).symm
      have h3 : (drE r).getLast h1 = lsE S := by unfold lsE; rw [eD, List.getLastD_eq_getLast?, List.getLast?_eq_some_getLast h1]; rfl
      rw [h3] at h2; exact h2
    have ee2 : el 40 = (el 40).dropLast ++ [(el 40).getLast hz] := (List.dropLast_concat_getLast hz).symm
    have ee : (el 40)[(el 40).length - 1]? = some ((el 40).getLast hz) := by rw [← List.getLast?_eq_getElem?, List.getLast?_eq_some_getLast hz]
    have hEl := hEs.2 _ _ _ ee (by rw [hll]; exact eE)
    have hEm := List.mem_of_getElem? eE
    have hk4 : edK (lsE S) = 4 → 0 ≤ edT (lsE S) ∧ ∃ c, (drC r)[(edT (lsE S)).toNat]? = some c ∧ (0 ≤ cnL c (edD (lsE S)) ∧ cnL c (edD (lsE S)) ≤ 40) ∧ (0 ≤ edD (lsE S) ∧ edD (lsE S) ≤ 4) ∧ ∀ c ∈ drC r, -100000 ≤ cnP c ∧ cnP c ≤ 100000 := fun h4 => by
      obtain ⟨q1, q2, q3, q4⟩ := iR.2.2.2.2.2.1 _ hEm h4
      have eg : (drC r)[(edT (lsE S)).toNat]? = some (drC r)[(edT (lsE S)).toNat] := List.getElem?_eq_getElem (by omega)
      have hb := (iR.2.2.2.2.1 _ (List.mem_of_getElem? eg)).1
      exact ⟨q1, _, eg, cnL_b hb tF tS tB ⟨q3, q4⟩, ⟨q3, q4⟩, fun c hc => by have := (iR.2.2.2.2.1 c hc).2.1; omega⟩
    refine b_Dw_undo_11 ⟨by decide, fun _ => ⟨hH.2.1, _, f8, ?_⟩, fun c => absurd c (by decide)⟩
    refine c_Dw_undo_28 (k_Drf_takeBack hDf ee2 hEl hk4 (by omega) (by omega) (by omega)) hDf.1.2.1 (by decide) (by decide) (by first | decide | omega) (by first | decide | omega) (Nat.le_of_ble_eq_true rfl) (fun σ5 hq => ?_) (fun _ _ hx => hx.elim)
    obtain ⟨hDf5, k5, a5⟩ := hq
    have hop : tbO (opn (drC r)) (lsE S) = (opn (tbC (drC r) (lsE S)) : Nat) := by
      unfold tbO tbC
      by_cases h4 : edK (lsE S) = 4
      · rw [if_pos h4, if_pos h4]
        obtain ⟨-, c, hc, -⟩ := hk4 h4
        rw [hc]
        have := opn_roC (how := edD (lsE S)) hc (opn_0 ho c (List.mem_of_getElem? hc))
        show ((opn (drC r) : Nat) : Int) + 1 = ((opn (roC (drC r) (edT (lsE S)).toNat c (edD (lsE S))) : Nat) : Int)
        omega
      · rw [if_neg h4, if_neg h4]
    rw [hop] at hDf5
    have hH5 := hH.keep k5 (fun q q1 q2 q3 => by omega)
    have hF5 := hF.keep k5 (by omega) (by omega)
    have hEs5 : EdsV σ5 lo (el 40).dropLast (drE r).dropLast := by
      have hk := hEs.keep k5 (fun q q1 q2 q3 => by
        rcases q3 with q3 | q3 | ⟨q3, _⟩
        · omega
        · omega
        · exact q2 (q3 ▸ (hW.lt (i := 40) (by omega) (q3 ▸ q1)).2))
      refine ⟨by rw [List.length_dropLast, List.length_dropLast, hll], fun i e E h1 h2 => hk.2 i e E ?_ ?_⟩
      · rw [ee2, List.getElem?_append_left (List.getElem?_eq_some_iff.mp h1).1]; exact h1
      · rw [eE2, List.getElem?_append_left (List.getElem?_eq_some_iff.mp h2).1]; exact h2
    have hW5 := hW.drf (D' := some (udD S)) (B' := sB S) (em' := sM S) hlo (k5.mono (fun q _ h => by
      rcases h with h | h | h
      · exact Or.inl (by omega)
      · exact Or.inl (by omega)
      · exact Or.inr (Or.inr (Or.inr h)))) hH5 (by rw [hD] at hF5; exact hF5) (MnV.mk' (r' := udD S) (by unfold udD; rw [eD]; exact hDf5) (by unfold udD; rw [eD]; exact hEs5) (by unfold udD; rw [eD]; exact ⟨a5.1.trans h3f.1, a5.2.1.trans h3f.2.1, a5.2.2.trans h3f.2.2⟩) (by unfold udD; rw [eD]; exact hrf)) (hBk.keep k5 (fun q q1 q2 q3 => by omega)) (Or.inl rfl)
    have hX5 := hDf5.2.2.2.2.1
    refine b_Dw_undo_31 ⟨hH5.2.1, _, hH5.2.2.2.2.2.2.2.2.2.2.2.1, hDf5.1.2.1, _, hDf5.1.2.2.1, ?_⟩
    refine c_Dw_undo_38 (k_Txt_size hX5) hX5.2.1 (by decide) (by decide) (by first | decide | omega) (by first | decide | omega) (Nat.le_of_ble_eq_true rfl) (fun z σ6 hq => ?_) (fun _ _ hx => hx.elim)
    obtain ⟨rfl, rfl⟩ := hq
    exact r_Dw_undo_41 ⟨_, rfl, c1'_t ⟨hwb, by rw [eD]; omega⟩, rfl, ⟨⟨hlo, Nat.le_trans hls k5.1, hoE⟩, sw, _, _, hW5⟩, k5.mono (fun q _ h => by
      rcases h with h | h | h
      · exact Or.inl (by omega)
      · exact Or.inl (by omega)
      · exact Or.inr h.2)⟩ (by decide) (by decide)
  · refine b_Dw_undo_11 ⟨by decide, fun c => absurd rfl c, fun _ => t_Dw_undo_14 (by decide) (by decide) (by first | decide | omega) (by first | decide | omega) (fun n' h2 => XO.of hDV ⟨rfl, hz, Keep.nX h2⟩ (fun z => c1'_f (fun y => z (fun w => by have := y.2; rw [eD] at this; rw [w, List.length_nil] at hll; omega))) (by decide))⟩
theorem K_begin (hDV : DwV Ω σ lo x S) (hCn : Cnt S) (hv : Q32 v) (hw : Q32 w) : MC Ω M_Dw_begin rm_Dw_begin (OI Ω lo x (o_begin S v w) σ) (XO Ω lo x S (o_begin S v w).1 σ) σ [xr (some x), xi v, xi w] := by
  obtain ⟨⟨hlo, hls, hoE⟩, sw, ds, el, hW⟩ := id hDV
  obtain ⟨hH, hF, hVs, hMn, hSp, hCm, hPa, hNo, hRe, hBk, hPr, hTm, hDs⟩ := id hW
  obtain ⟨hc1, hc2, hc3, hc4, hc5, hc6, hc7⟩ := id hCn
  have hx0 := hH.1
  have hs1 := hH.2.2.1
  refine e_Dw_begin (b_Dw_begin_0 ?_)
  refine c_Dw_begin_2 (k_Dw_versionAt hH hF (by omega) hv) hH.2.1 (by decide) (by decide) (by first | decide | omega) (by first | decide | omega) (Nat.le_of_ble_eq_true rfl) (fun r σ1 hq => ?_) (fun E σx hx => Ax.out rfl (XO.of hDV hx (fun hc => c1_f (fun z => hc z.1)) (by decide)) (by decide) (by decide))
  obtain ⟨rfl, hr, rfl⟩ := hq
  obtain ⟨hs, hn, hx⟩ := hVs.at hr hc2
  refine b_Dw_begin_5 ?_
  refine c_Dw_begin_8 (k_Dw_checkPerson hw) hH.2.1 (by decide) (by decide) (by first | decide | omega) (by first | decide | omega) (Nat.le_of_ble_eq_true rfl) (fun σ2 hq => ?_) (fun E σx hx => Ax.out rfl (XO.of hDV hx (fun hc => c1_f (fun z => hc z.2)) (by decide)) (by decide) (by decide))
  obtain ⟨rfl, hr2⟩ := hq
  have f8 := hH.2.2.2.2.2.2.2.2.2.2.2.1
  obtain ⟨f, s, b, T, cl, oc, hDf, -⟩ := hMn
  refine b_Dw_begin_11 ⟨hH.2.1, _, f8, hs.2.1, _, hs.2.2.1, ?_⟩
  refine c_Dw_begin_19 (k_Drf_startFrom hDf.1 hDf.2.2.1 hDf.2.2.2.2.1 hDf.2.2.2.2.2.1 hDf.2.2.2.2.2.2 hx (by omega) (by omega) (by omega)) hDf.1.2.1 (by decide) (by decide) (by first | decide | omega) (by first | decide | omega) (Nat.le_of_ble_eq_true rfl) (fun σ3 hq => ?_) (fun _ _ hx => hx.elim)
  obtain ⟨hDf3, k3⟩ := hq
  have hH3 := hH.keep k3 (fun q q1 q2 q3 => by omega)
  refine b_Dw_begin_22 ⟨hH3.2.1, _, hH3.2.2.2.2.2.2.2.2.2.2.2.1, ?_⟩
  refine c_Dw_begin_29 (k_Drf_signFor (x := w) (y := v) (z := -1) hDf3.1 hw hv (by decide)) hDf3.1.2.1 (by decide) (by decide) (by first | decide | omega) (by first | decide | omega) (Nat.le_of_ble_eq_true rfl) (fun σ4 hq => ?_) (fun _ _ hx => hx.elim)
  obtain hq := hq
  have e4 := hq
  have h03 := hDf3.1.1
  have k4 : Keep σ3 σ4 (At1 (x + 118 + 128 * sw)) := by rw [e4]; exact kuI1.trans (kuI1.trans kuI1)
  have hDf4 : DfV Ω σ4 lo (x + 118 + 128 * sw) (x + 374 + 8 * v.toNat + 1) (x + 118 + 128 * sw + 62) (x + 118 + 128 * sw + 62) (ds 40) (vtx (sV S) v) [] 0 [] := by rw [e4]; exact hDf3.sgn (by omega)
  have hH4 := hH3.keep k4 (fun q q1 q2 q3 => by omega)
  have k5 : Keep σ4 (uI σ4 10 x 1) (At1 x) := kuI1
  have hDf5 := hDf4.keep k5 (fun q q1 q2 q3 => by omega) (fun h h2 => by omega)
  have kk : Keep σ2 (uI σ4 10 x 1) (DfP lo x (x + 118 + 128 * sw) (ds 40)) := (k3.mono (fun q _ h => by
    rcases h with h | h | h
    · exact Or.inl (by omega)
    · exact Or.inl (by omega)
    · exact Or.inr (Or.inr (Or.inr h)))).trans ((k4.mono (fun q _ h => Or.inl (by omega))).trans (k5.mono (fun q _ h => Or.inr (Or.inl h))))
  have hF4 := (hF.keep k3 (by omega) (by omega)).keep k4 (by have := hH3.1; omega) (by omega)
  have h5f : fI (uI σ4 10 x 1) 203 (x + 118 + 128 * sw) = w ∧ fI (uI σ4 10 x 1) 204 (x + 118 + 128 * sw) = v ∧ fI (uI σ4 10 x 1) 205 (x + 118 + 128 * sw) = -1 := by
    rw [e4]
    obtain ⟨q1, q2, q3⟩ := sgn_3 (σ := σ3) (a := x + 118 + 128 * sw) (x := w) (y := v) (z := -1)
    exact ⟨by rw [fI_uI, if_neg (by omega)]; exact q1, by rw [fI_uI, if_neg (by omega)]; exact q2, by rw [fI_uI, if_neg (by omega)]; exact q3⟩
  have hBk5 := ((hBk.keep k3 (fun q q1 q2 q3 => by omega)).keep k4 (fun q q1 q2 q3 => by omega)).keep k5 (fun q q1 q2 q3 => by omega)
  have hW5 := hW.drf (D' := some (vtx (sV S) v, [], [], w, v, -1, 0)) (B' := sB S) (em' := sM S) (d' := ds 40) (es' := []) hlo kk (show DwH (uI σ4 10 x 1) x sw from hH4) (hF4.s10 (w := 1)) (MnV.mk' (r' := (vtx (sV S) v, [], [], w, v, -1, 0)) hDf5 ⟨rfl, fun i e E h1 _ => by simp at h1⟩ h5f ⟨by show _ = x + 375 + 8 * v.toNat; omega, fun _ => ⟨rfl, rfl⟩, fun z => absurd rfl z⟩) hBk5 (Or.inl rfl)
  have hX5 := hDf5.2.2.2.2.1
  refine b_Dw_begin_32 ⟨hH4.2.1, _, hH4.2.2.2.2.2.2.2.2.2.2.2.1, hDf4.1.2.1, _, hDf4.1.2.2.1, ?_⟩
  refine c_Dw_begin_44 (k_Txt_size hX5) hX5.2.1 (by decide) (by decide) (by first | decide | omega) (by first | decide | omega) (Nat.le_of_ble_eq_true rfl) (fun z σ6 hq => ?_) (fun _ _ hx => hx.elim)
  obtain ⟨rfl, rfl⟩ := hq
  exact r_Dw_begin_47 ⟨_, rfl, c1_t ⟨hr, hr2⟩, rfl, ⟨⟨hlo, Nat.le_trans hls kk.1, hoE⟩, sw, _, _, hW5⟩, kk.mono (fun q _ h => by
    rcases h with h | h | h | h
    · exact Or.inl (by omega)
    · exact Or.inl (by omega)
    · exact Or.inl (by omega)
    · exact Or.inr h.2)⟩ (by decide) (by decide)
end ED4
