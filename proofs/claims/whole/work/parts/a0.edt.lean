/-! BY HAND: edits of the draft, as the class makes them, 3 -/
theorem noN_le : ∀ T : List (Int64 × Int), noN T ≤ T.length := by
  intro T
  induction T with
  | nil => exact Nat.le_refl _
  | cons x T ih =>
    rw [noN, List.length_cons]
    split <;> omega
theorem DfV.txt {Ω : Om} {σ σ' : Sto} {lo a f s b d bk : Nat} {T T' : List (Int64 × Int)} {cl : List Cnl} {oc : Int} {es : List Nat} (h : DfV Ω σ lo a f s b d T cl oc es) (k : Keep σ σ' (fun q => In (a + 1) (a + 4) q ∨ In bk (bk + 3) q)) (hb : bk + 3 ≤ a ∨ a + 128 ≤ bk) (hlo : a + 127 < lo) (hbl : bk + 3 ≤ lo) (hX : Tx σ' (a + 1) T') : DfV Ω σ' lo a f s b d T' cl oc es := by
  obtain ⟨h1, h2, h3, h4, h5, h6, h7⟩ := h
  have h0 := h1.1
  exact ⟨h1.keep k (by omega) (fun q q1 q2 => by omega), h2.keep k (by omega) (by omega), h3.keep k h0 (by omega) (fun q q1 q2 => by omega), ((k.2 a (by omega) (by omega)).2.2.1 _).trans h4, hX, h6.keep k (fun q q1 q2 q3 => by omega), h7.keep k (by omega) (fun q q3 => by omega)⟩
def nmA' (S : St) (T : List (Int64 × Int)) : List (Int64 × Int) × Nat × (Nat → Int) × (Nat → Int) := nmL (srcF (sV S) (drO S)) (drA (drO S)) T (bkN (sB S)) (bkA (sB S)) (bkO (sB S))
def nmB (S : St) (T : List (Int64 × Int)) : BR := ((nmA' S T).2.1, sgN (bkS (sB S)) (nmA' S T).1, (nmA' S T).2.2.1, (nmA' S T).2.2.2)
def o_insert (S : St) (p : Int) (l : Int64) : Rs := (c3 (0 ≤ p ∧ p < dsz S + 1) (isLn l = true) (whB S = true ∧ (drT (drO S)).length < 20) 1 2 3, ((nmA' S ((drT (drO S)).insertIdx p.toNat (l, -1))).1.length : Nat), edS S (nmA' S ((drT (drO S)).insertIdx p.toNat (l, -1))).1 (drC (drO S)) (0, p, -1, l, none, drT (drO S), drC (drO S)) (nmB S ((drT (drO S)).insertIdx p.toNat (l, -1))))
def chX (S : St) (p : Int) : Int64 × Int := (drT (drO S)).getD p.toNat (0, 0)
def chT (S : St) (p : Int) (l : Int64) : List (Int64 × Int) := if (chX S p).1 = l then drT (drO S) else (drT (drO S)).set p.toNat (l, (bkN (sB S) : Int))
def chB (S : St) (p : Int) (l : Int64) : BR := if (chX S p).1 = l then sB S else (bkN (sB S) + 1, sgN (bkS (sB S)) (chT S p l), up1 (bkA (sB S)) (bkN (sB S)) (drA (drO S)), up1 (bkO (sB S)) (bkN (sB S)) (chX S p).2)
def o_change (S : St) (p : Int) (l : Int64) : Rs := (c3 (0 ≤ p ∧ p < dsz S) (isLn l = true) (whB S = true) 1 2 3, lkN (chX S p).1 l, edS S (chT S p l) (drC (drO S)) (2, p, -1, l, none, drT (drO S), drC (drO S)) (chB S p l))
def stl (S : St) (c : Int) : Cnl := (drC (drO S)).getD c.toNat ((0, 0), (0, 0), (0, 0), 0, 0)
def o_settle (S : St) (c how : Int) : Rs := (c3 (0 ≤ c ∧ c < cfn S) (0 ≤ how ∧ how ≤ 4) (cnS (stl S c) = 0 ∧ (drT (drO S)).length + cnL (stl S c) how ≤ 20) 1 2 3, (opn (stC (drC (drO S)) c.toNat (stl S c) how) : Nat), edS S (stT (srcF (sV S) (drO S)) (srcS (sV S) (drO S)) (srcB (sV S) (drO S)) (drT (drO S)) (stl S c) how) (stC (drC (drO S)) c.toNat (stl S c) how) (4, c, how, 0, none, drT (drO S), drC (drO S)) (sB S))
section ED3
variable {Ω : Om} {σ σ8 : Sto} {lo x sw : Nat} {S : St} {ds : Nat → Nat} {el : Nat → List Nat} {p q c how : Int} {l : Int64}
theorem K_insert (hDV : DwV Ω σ lo x S) (hCn : Cnt S) (iV : IvV S) (iD : IvD S) (hem : sM S < 512) (hp : Q32 p) : MC Ω M_Dw_insert rm_Dw_insert (OI Ω lo x (o_insert S p l) σ) (XO Ω lo x S (o_insert S p l).1 σ) σ [xr (some x), xi p, xl l] := by
  obtain ⟨⟨hlo, hls, hoE⟩, sw, ds, el, hW⟩ := id hDV
  obtain ⟨hH, hF, hVs, hMn, hSp, hCm, hPa, hNo, hRe, hBk, hPr, hTm, hDs⟩ := id hW
  obtain ⟨hc1, hc2, hc3, hc4, hc5, hc6, hc7⟩ := id hCn
  have hq := dsz_q hW
  have hx0 := hH.1
  refine e_Dw_insert (b_Dw_insert_0 ?_)
  refine c_Dw_insert_3 (k_Dw_draftSize (a := 0) hH hF hMn) hH.2.1 (by decide) (by decide) (by first | decide | omega) (by first | decide | omega) (Nat.le_of_ble_eq_true rfl) (fun z σ1 hq => ?_) (fun _ _ hx => hx.elim)
  obtain ⟨rfl, rfl⟩ := hq
  refine b_Dw_insert_6 ?_
  refine c_Dw_insert_8 (k_Dw_checkPlace hp hq.1) hH.2.1 (by decide) (by decide) (by first | decide | omega) (by first | decide | omega) (Nat.le_of_ble_eq_true rfl) (fun σ2 hq => ?_) (fun E σx hx => Ax.out rfl (XO.of hDV hx (fun hc => c3_1 hc) (by decide)) (by decide) (by decide))
  obtain ⟨rfl, hr2⟩ := hq
  refine b_Dw_insert_11 ?_
  refine c_Dw_insert_13 (k_Dw_checkLine) hH.2.1 (by decide) (by decide) (by first | decide | omega) (by first | decide | omega) (Nat.le_of_ble_eq_true rfl) (fun σ2 hq => ?_) (fun E σx hx => Ax.out rfl (XO.of hDV hx (fun hc => c3_2 hr2 hc) (by decide)) (by decide) (by decide))
  obtain ⟨rfl, hln⟩ := hq
  refine b_Dw_insert_16 ?_
  refine c_Dw_insert_17 (k_Dw_checkEditable hH hF hMn hem) hH.2.1 (by decide) (by decide) (by first | decide | omega) (by first | decide | omega) (Nat.le_of_ble_eq_true rfl) (fun σ3 hq => ?_) (fun E σx hx => Ax.out rfl (XO.of hDV hx (fun hc => c3_3 hr2 hln (fun y => hc (whB_iff.mp y.1))) (by decide)) (by decide) (by decide))
  obtain ⟨rfl, hwh⟩ := hq
  have hwb := whB_iff.mpr hwh
  obtain ⟨r, hD, ho⟩ := hwh
  have iR := iD r hD
  obtain ⟨f, s, b, hDf, hEs, h3f, hrf, h3t, ⟨df, dss, db⟩, ⟨lf, ls, lb⟩, ⟨tF, tS, tB⟩, ⟨qF, qS, qB⟩, hax⟩ := hW.dr hlo hCn iV hD iR
  have f8 := hH.2.2.2.2.2.2.2.2.2.2.2.1
  have iR3 := iR.2.2.1
  have eD := drO_some hD
  have eZ : dszD (sD S) = ((drT r).length : Int) := dsz_some hD
  have hel : (el 40).length ≤ 512 := by have := hEs.1; have := iR.2.2.2.1; omega
  have hXs := hDf.2.2.2.2.1
  refine b_Dw_insert_20 ⟨hH.2.1, _, f8, hDf.1.2.1, _, hDf.1.2.2.1, ?_⟩
  refine c_Dw_insert_27 (k_Txt_size hXs) hXs.2.1 (by decide) (by decide) (by first | decide | omega) (by first | decide | omega) (Nat.le_of_ble_eq_true rfl) (fun z σ3 hq => ?_) (fun _ _ hx => hx.elim)
  obtain ⟨rfl, rfl⟩ := hq
  have hr3 : 0 ≤ p ∧ p ≤ ((drT r).length : Int) := by omega
  refine b_Dw_insert_30 ⟨by omega, fun h20 => ⟨hH.2.1, _, f8, by decide, by decide, fun σ6 e6 => ?_⟩, fun h20 => t_Dw_insert_35 (by decide) (by decide) (by first | decide | omega) (by first | decide | omega) (fun n' h2 => XO.of hDV ⟨rfl, (show ¬ ((drT (drO S)).length < 20) by rw [eD]; omega), Keep.nX h2⟩ (fun z => c3_3 hr2 hln (fun y => z y.2)) (by decide))⟩
  have k6 : Keep σ3 σ6 No := by rw [e6]; exact Keep.nO
  have q6 : sK σ6 (sN σ3) = 5 := by rw [e6, sK_nO, if_pos rfl]
  have n6 : sN σ6 = sN σ3 + 1 := by rw [e6, sN_nO]
  refine c_Dw_insert_58 (k_Edt_init (lo := lo) q6 n6 hls (by decide) hp (by decide)) (by decide) (by decide) (by first | decide | omega) (by first | decide | omega) (Nat.le_of_ble_eq_true rfl) (fun σ7 hq => ?_) (fun _ _ hx => hx.elim)
  obtain ⟨hE7, k7⟩ := hq
  have k37 : Keep σ3 σ7 No := k6.tr k7 (fun q h1 h2 => by omega)
  have hDf7 := hDf.keep k37 (fun _ _ _ h => h) (fun _ h => h)
  have h37 := h3t.keep k37 (fun _ _ _ h => h) (fun _ _ _ h => h) (fun _ _ _ h => h)
  refine c_Dw_insert_61 (k_Drf_make (σ0 := σ3) (hs := []) hDf7 h37 hE7 k37 (by omega) (Nat.le_refl _) (fun h => absurd h (show ¬ ((0 : Int) = 5) by decide)) (fun p h => by cases h) (pok_0 rfl ⟨hr3.1, hr3.2, by omega⟩) tF tS tB df dss db qF qS qB (by omega) lf ls lb (by omega) (fun i y hy => ⟨hEs.k5 i y hy, hEs.lt i y hy⟩)) hDf7.1.2.1 (by decide) (by decide) (by first | decide | omega) (by first | decide | omega) (Nat.le_of_ble_eq_true rfl) (fun y σ8 hq => ?_) (fun _ _ hx => hx.elim)
  obtain ⟨-, d', hDf8, hE8, k8, hd8, a8⟩ := hq
  have hF8 := hF.keep k8 (by omega) (by omega)
  have hH8 := hH.keep k8 (fun q q1 q2 q3 => by omega)
  have e16 := hF8.2.2.2.2.2.2
  have hB8 := hBk.keep k8 (fun q q1 q2 q3 => by omega)
  have eT : pfT [] (srcF (sV S) r) (srcS (sV S) r) (srcB (sV S) r) (drT r) (drC r) (0, p, -1, l, none, [], []) = (drT r).insertIdx p.toNat (l, -1) := rfl
  have eC : pfC (drC r) (0, p, -1, l, none, [], []) = drC r := rfl
  have eO : pfO (opn (drC r)) (0, p, -1, l, none, [], []) = opn (drC r) := rfl
  rw [eT, eC, eO] at hDf8
  have hEs8 : EdsV σ8 lo (el 40 ++ [sN σ3]) (drE r ++ [(0, p, -1, l, none, drT r, drC r)]) := by
    refine (hEs.keep k8 (fun q q1 q2 q3 => ?_)).snoc hE8
    rcases q3 with q3 | q3 | ⟨q3, _⟩
    · omega
    · omega
    · exact q2 (q3 ▸ (hW.lt (i := 40) (by omega) (q3 ▸ q1)).2)
  have lT : ((drT r).insertIdx p.toNat (l, -1)).length = (drT r).length + 1 := by rw [List.length_insertIdx, if_pos (by omega)]
  have hnn := noN_le ((drT r).insertIdx p.toNat (l, -1))
  have iV2 := iV.2
  refine b_Dw_insert_64 ⟨hH8.2.1, _, hH8.2.2.2.2.2.2.2.2.2.2.2.1, _, hH8.2.2.2.2.2.2.2.1, ?_⟩
  have h38 := h3t.keep k8 (fun q q1 q2 q3 => by omega) (fun q q1 q2 q3 => by omega) (fun q q1 q2 q3 => by omega)
  refine c_Dw_insert_73 (k_Drf_namePutIn (w := drA r) (by omega) (by omega) (by omega) (by omega) hDf8.1.2.1 hDf8.1.2.2.1 hDf8.2.1.1 (a8.1.trans h3f.1) h38.1 hDf8.2.2.2.2.1 hB8) hDf8.1.2.1 (by decide) (by decide) (by first | decide | omega) (by first | decide | omega) (Nat.le_of_ble_eq_true rfl) (fun σ9 hq => ?_) (fun _ _ hx => hx.elim)
  obtain ⟨hX9, hB9, k9⟩ := hq
  have enm : nmA' S ((drT r).insertIdx p.toNat (l, -1)) = nmL (srcF (sV S) r) (drA r) ((drT r).insertIdx p.toNat (l, -1)) (bkN (sB S)) (bkA (sB S)) (bkO (sB S)) := by unfold nmA'; rw [eD]
  rw [← enm] at hX9 hB9
  have hDf9 := hDf8.txt k9 (by omega) (by omega) (by omega) hX9
  have hEs9 := hEs8.keep k9 (fun q q1 _ q3 => by omega)
  have a9 : Au3 σ8 σ9 (x + 118 + 128 * sw) := k9.au3 (by have := hDf8.1.1; omega) (by omega)
  obtain ⟨hW10, k10⟩ := hW.edm (B' := nmB S ((drT r).insertIdx p.toNat (l, -1))) hlo hD ((k8.mono (fun q _ h => Or.inl h)).trans (k9.mono (fun q _ h => by rcases h with h | h; exact Or.inl (Or.inl (by omega)); exact Or.inr h))) hDf9 hEs9 ⟨a9.1.trans (a8.1.trans h3f.1), a9.2.1.trans (a8.2.1.trans h3f.2.1), a9.2.2.trans (a8.2.2.trans h3f.2.2)⟩ hrf hB9 hd8
  have hF9 := hF8.keep k9 (by have := hH8.1; omega) (by omega)
  have hH9 := hH8.keep k9 (fun q q1 q2 q3 => by omega)
  have e16' := hF9.2.2.2.2.2.2
  refine b_Dw_insert_76 ?_
  rw [e16']
  have hX10 := hX9.keep (P := At1 x) (kuI1 (f := 16) (v := sM S + 1)) (fun q q1 q2 q3 => by omega)
  refine ⟨hH9.2.1, fun _ => ⟨by omega, _, hH9.2.2.2.2.2.2.2.2.2.2.2.1, hDf9.1.2.1, _, hDf9.1.2.2.1, ?_⟩⟩
  refine c_Dw_insert_93 (k_Txt_size hX10) hX10.2.1 (by decide) (by decide) (by first | decide | omega) (by first | decide | omega) (Nat.le_of_ble_eq_true rfl) (fun z σ11 hq => ?_) (fun _ _ hx => hx.elim)
  obtain ⟨rfl, rfl⟩ := hq
  refine r_Dw_insert_96 ⟨_, rfl, c3_t hr2 hln ⟨hwb, by rw [eD]; omega⟩, by show _ = ((nmA' S ((drT (drO S)).insertIdx p.toNat (l, -1))).1.length : Int); rw [eD], ⟨⟨hlo, Nat.le_trans hls k10.1, hoE⟩, sw, up1 ds 40 d', up1 el 40 (el 40 ++ [sN σ3]), ?_⟩, k10⟩ (by decide) (by decide)
  unfold o_insert; rw [eD]; exact hW10
theorem K_settle (hDV : DwV Ω σ lo x S) (hCn : Cnt S) (iV : IvV S) (iD : IvD S) (hem : sM S < 512) (hc0 : Q32 c) (hh0 : Q32 how) : MC Ω M_Dw_settle rm_Dw_settle (OI Ω lo x (o_settle S c how) σ) (XO Ω lo x S (o_settle S c how).1 σ) σ [xr (some x), xi c, xi how] := by
  obtain ⟨⟨hlo, hls, hoE⟩, sw, ds, el, hW⟩ := id hDV
  obtain ⟨hH, hF, hVs, hMn, hSp, hCm, hPa, hNo, hRe, hBk, hPr, hTm, hDs⟩ := id hW
  obtain ⟨hc1, hc2, hc3, hc4, hc5, hc6, hc7⟩ := id hCn
  have hx0 := hH.1
  refine e_Dw_settle (b_Dw_settle_0 ?_)
  refine c_Dw_settle_2 (k_Dw_checkConflict hH hF hMn hc0) hH.2.1 (by decide) (by decide) (by first | decide | omega) (by first | decide | omega) (Nat.le_of_ble_eq_true rfl) (fun σ1 hq => ?_) (fun E σx hx => Ax.out rfl (XO.of hDV hx (fun hc => c3_1 (fun z => hc (isC_iff.mpr z))) (by decide)) (by decide) (by decide))
  obtain ⟨rfl, hcf⟩ := hq
  have hcv := isC_iff.mp hcf
  obtain ⟨r, hD, hr1, hr2⟩ := hcf
  have iR := iD r hD
  obtain ⟨f, s, b, hDf, hEs, h3f, hrf, h3t, ⟨df, dss, db⟩, ⟨lf, ls, lb⟩, ⟨tF, tS, tB⟩, ⟨qF, qS, qB⟩, hax⟩ := hW.dr hlo hCn iV hD iR
  have f8 := hH.2.2.2.2.2.2.2.2.2.2.2.1
  have iR3 := iR.2.2.1
  have eD := drO_some hD
  have eZ : dszD (sD S) = ((drT r).length : Int) := dsz_some hD
  have hel : (el 40).length ≤ 512 := by have := hEs.1; have := iR.2.2.2.1; omega
  have hXs := hDf.2.2.2.2.1
  have eg : (drC r)[c.toNat]? = some (stl S c) := by unfold stl; rw [eD, List.getD_eq_getElem?_getD, List.getElem?_eq_getElem (by omega)]; rfl
  have hcm := List.mem_of_getElem? eg
  obtain ⟨cb, cp, cu⟩ := iR.2.2.2.2.1 _ hcm
  have hopl : opn (drC r) ≤ (drC r).length := List.countP_le_length
  have hcl21 := hDf.2.2.1.2.1
  have ec : ((c.toNat : Nat) : Int) = c := by omega
  refine b_Dw_settle_5 ⟨hh0, fun c4 => t_Dw_settle_14 (by decide) (by decide) (by first | decide | omega) (by first | decide | omega) (fun n' h2 => XO.of hDV ⟨rfl, (show ¬ (0 ≤ how ∧ how ≤ 4) by omega), Keep.nX h2⟩ (fun z => c3_2 hcv z) (by decide)), fun c4 => ⟨fun c5 => ⟨hH.2.1, _, f8, ?_⟩, fun c5 => t_Dw_settle_14 (by decide) (by decide) (by first | decide | omega) (by first | decide | omega) (fun n' h2 => XO.of hDV ⟨rfl, (show ¬ (0 ≤ how ∧ how ≤ 4) by omega), Keep.nX h2⟩ (fun z => c3_2 hcv z) (by decide))⟩⟩
  have hh : 0 ≤ how ∧ how ≤ 4 := by omega
  have hb40 := cnL_b (how := how) cb tF tS tB hh
  have hset := @k_Drf_isSettled Ω (x + 118 + 128 * sw) (drC r) σ1 c.toNat (stl S c) hDf.1 hDf.2.2.1 eg
  rw [ec] at hset
  refine c_Dw_settle_30 (hset) hDf.1.2.1 (by decide) (by decide) (by first | decide | omega) (by first | decide | omega) (Nat.le_of_ble_eq_true rfl) (fun z σ2 hq => ?_) (fun _ _ hx => hx.elim)
  obtain ⟨rfl, hz⟩ := hq
  rcases hz with ⟨rfl, hz⟩ | ⟨rfl, hz⟩
  · exact b_Dw_settle_33 ⟨by decide, fun c6 => absurd c6 (by decide), fun _ => t_Dw_settle_36 (by decide) (by decide) (by first | decide | omega) (by first | decide | omega) (fun n' h2 => XO.of hDV ⟨rfl, hz, Keep.nX h2⟩ (fun z => c3_3 hcv hh (fun y => z y.1)) (by decide))⟩
  have hs0 : cnS (stl S c) = 0 := Classical.byContradiction hz
  have hop := opn_p hcm hs0
  refine b_Dw_settle_33 ⟨by decide, fun _ => ⟨hH.2.1, _, f8, hDf.1.2.1, _, hDf.1.2.2.1, ?_⟩, fun c6 => absurd rfl c6⟩
  refine c_Dw_settle_54 (k_Txt_size hXs) hXs.2.1 (by decide) (by decide) (by first | decide | omega) (by first | decide | omega) (Nat.le_of_ble_eq_true rfl) (fun z σ3 hq => ?_) (fun _ _ hx => hx.elim)
  obtain ⟨rfl, rfl⟩ := hq
  refine b_Dw_settle_57 ⟨hH.2.1, _, f8, ?_⟩
  have hlp := @k_Drf_linesPut Ω (x + 118 + 128 * sw) (drC r) σ3 c.toNat (stl S c) how hDf.1 hDf.2.2.1 eg hh0
  rw [ec] at hlp
  refine c_Dw_settle_63 (hlp) hDf.1.2.1 (by decide) (by decide) (by first | decide | omega) (by first | decide | omega) (Nat.le_of_ble_eq_true rfl) (fun z σ3 hq => ?_) (fun _ _ hx => hx.elim)
  obtain ⟨rfl, rfl⟩ := hq
  have iR3 := iR.2.2.1
  refine b_Dw_settle_66 ⟨by omega, fun c6 => ?_, fun c6 => t_Dw_settle_72 (by decide) (by decide) (by first | decide | omega) (by first | decide | omega) (fun n' h2 => XO.of hDV ⟨rfl, (show ¬ (((drT (drO S)).length : Int) + cnL (stl S c) how ≤ 20) by rw [eD]; exact c6), Keep.nX h2⟩ (fun z => c3_3 hcv hh (fun y => z y.2)) (by decide))⟩
  refine c_Dw_settle_83 (k_Dw_checkUses hH hF hem) hH.2.1 (by decide) (by decide) (by first | decide | omega) (by first | decide | omega) (Nat.le_of_ble_eq_true rfl) (fun σ3 hq => ?_) (fun _ _ hx => hx.elim)
  obtain rfl := hq
  refine b_Dw_settle_86 ⟨hH.2.1, _, f8, by decide, by decide, fun σ6 e6 => ?_⟩
  have k6 : Keep σ3 σ6 No := by rw [e6]; exact Keep.nO
  have q6 : sK σ6 (sN σ3) = 5 := by rw [e6, sK_nO, if_pos rfl]
  have n6 : sN σ6 = sN σ3 + 1 := by rw [e6, sN_nO]
  refine c_Dw_settle_99 (k_Edt_init (lo := lo) q6 n6 hls (by decide) hc0 hh0) (by decide) (by decide) (by first | decide | omega) (by first | decide | omega) (Nat.le_of_ble_eq_true rfl) (fun σ7 hq => ?_) (fun _ _ hx => hx.elim)
  obtain ⟨hE7, k7⟩ := hq
  have k37 : Keep σ3 σ7 No := k6.tr k7 (fun q h1 h2 => by omega)
  have hDf7 := hDf.keep k37 (fun _ _ _ h => h) (fun _ h => h)
  have h37 := h3t.keep k37 (fun _ _ _ h => h) (fun _ _ _ h => h) (fun _ _ _ h => h)
  refine c_Dw_settle_102 (k_Drf_make (σ0 := σ3) (hs := []) hDf7 h37 hE7 k37 (by omega) (Nat.le_refl _) (fun h => absurd h (show ¬ ((4 : Int) = 5) by decide)) (fun p h => by cases h) (pok_4 rfl ⟨hr1, stl S c, eg, hs0, cb, ⟨cp.1, cu hs0⟩, by show ((drT r).length : Int) + cnL (stl S c) how ≤ 40; omega, hh, by omega, fun c' hc' => by have := (iR.2.2.2.2.1 c' hc').2.1; omega⟩) tF tS tB df dss db qF qS qB (by omega) lf ls lb (by omega) (fun i y hy => ⟨hEs.k5 i y hy, hEs.lt i y hy⟩)) hDf7.1.2.1 (by decide) (by decide) (by first | decide | omega) (by first | decide | omega) (Nat.le_of_ble_eq_true rfl) (fun y σ8 hq => ?_) (fun _ _ hx => hx.elim)
  obtain ⟨-, d', hDf8, hE8, k8, hd8, a8⟩ := hq
  have hF8 := hF.keep k8 (by omega) (by omega)
  have hH8 := hH.keep k8 (fun q q1 q2 q3 => by omega)
  have e16 := hF8.2.2.2.2.2.2
  have hB8 := hBk.keep k8 (fun q q1 q2 q3 => by omega)
  have eT : pfT [] (srcF (sV S) r) (srcS (sV S) r) (srcB (sV S) r) (drT r) (drC r) (4, c, how, 0, none, [], []) = stT (srcF (sV S) r) (srcS (sV S) r) (srcB (sV S) r) (drT r) (stl S c) how := by
    show (match (drC r)[c.toNat]? with | some c' => stT _ _ _ (drT r) c' how | none => drT r) = _
    rw [eg]
  have eC : pfC (drC r) (4, c, how, 0, none, [], []) = stC (drC r) c.toNat (stl S c) how := by
    show (match (drC r)[c.toNat]? with | some c' => stC (drC r) c.toNat c' how | none => drC r) = _
    rw [eg]
  have ho := opn_stC (how := how) eg hs0
  have eO : pfO (opn (drC r)) (4, c, how, 0, none, [], []) = (opn (stC (drC r) c.toNat (stl S c) how) : Nat) := by
    show ((opn (drC r) : Nat) : Int) - 1 = _
    omega
  rw [eT, eC, eO] at hDf8
  have hEs8 : EdsV σ8 lo (el 40 ++ [sN σ3]) (drE r ++ [(4, c, how, 0, none, drT r, drC r)]) := by
    refine (hEs.keep k8 (fun q q1 q2 q3 => ?_)).snoc hE8
    rcases q3 with q3 | q3 | ⟨q3, _⟩
    · omega
    · omega
    · exact q2 (q3 ▸ (hW.lt (i := 40) (by omega) (q3 ▸ q1)).2)
  obtain ⟨hW9, k9⟩ := hW.edm (E' := (4, c, how, 0, none, drT r, drC r)) (B' := sB S) hlo hD (k8.mono (fun q _ h => Or.inl h)) hDf8 hEs8 ⟨a8.1.trans h3f.1, a8.2.1.trans h3f.2.1, a8.2.2.trans h3f.2.2⟩ hrf hB8 hd8
  refine b_Dw_settle_105 ?_
  rw [e16]
  have hDf9 := hDf8.keep (P := At1 x) (kuI1 (f := 16) (v := sM S + 1)) (fun q q1 q2 q3 => by omega) (fun h h2 => by omega)
  refine ⟨hH8.2.1, fun _ => ⟨by omega, _, hH8.2.2.2.2.2.2.2.2.2.2.2.1, ?_⟩⟩
  refine c_Dw_settle_120 (k_Drf_unsettled hDf9.1 hDf9.2.2.2.1) hDf9.1.2.1 (by decide) (by decide) (by first | decide | omega) (by first | decide | omega) (Nat.le_of_ble_eq_true rfl) (fun z σ9 hq => ?_) (fun _ _ hx => hx.elim)
  obtain ⟨rfl, rfl⟩ := hq
  refine r_Dw_settle_123 ⟨_, rfl, c3_t hcv hh ⟨hs0, by rw [eD]; exact c6⟩, by show _ = ((opn (stC (drC (drO S)) c.toNat (stl S c) how) : Nat) : Int); rw [eD], ⟨⟨hlo, Nat.le_trans hls k9.1, hoE⟩, sw, up1 ds 40 d', up1 el 40 (el 40 ++ [sN σ3]), ?_⟩, k9⟩ (by decide) (by decide)
  unfold o_settle; rw [eD]; exact hW9
end ED3
