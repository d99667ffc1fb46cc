/-! BY HAND: edits of the draft, as the class makes them, 2 -/
theorem pok_0 {hs : List Hun} {F S B T : List (Int64 × Int)} {cl : List Cnl} {oc : Int} {E : Edi} (h : edK E = 0) (g : 0 ≤ edT E ∧ edT E ≤ T.length ∧ T.length < 40) : POK hs F S B T cl oc E := ⟨by omega, fun _ => g, fun z => absurd z (by omega), fun z => absurd z (by omega), fun z => absurd z (by omega), fun z => absurd z (by omega)⟩
theorem pok_1 {hs : List Hun} {F S B T : List (Int64 × Int)} {cl : List Cnl} {oc : Int} {E : Edi} (h : edK E = 1 ∨ edK E = 2) (g : 0 ≤ edT E ∧ edT E < T.length) : POK hs F S B T cl oc E := ⟨by omega, fun z => absurd z (by omega), fun _ => g, fun z => absurd z (by omega), fun z => absurd z (by omega), fun z => absurd z (by omega)⟩
theorem pok_3 {hs : List Hun} {F S B T : List (Int64 × Int)} {cl : List Cnl} {oc : Int} {E : Edi} (h : edK E = 3) (g : (0 ≤ edT E ∧ edT E < T.length) ∧ (0 ≤ edD E ∧ edD E < T.length) ∧ T.length ≤ 20) : POK hs F S B T cl oc E := ⟨by omega, fun z => absurd z (by omega), fun z => absurd z (by omega), fun _ => g, fun z => absurd z (by omega), fun z => absurd z (by omega)⟩
theorem pok_4 {hs : List Hun} {F S B T : List (Int64 × Int)} {cl : List Cnl} {oc : Int} {E : Edi} (h : edK E = 4) (g : 0 ≤ edT E ∧ ∃ c, cl[(edT E).toNat]? = some c ∧ cnS c = 0 ∧ CnB c F S B ∧ (0 ≤ cnP c ∧ cnP c ≤ T.length) ∧ T.length + cnL c (edD E) ≤ 40 ∧ (0 ≤ edD E ∧ edD E ≤ 4) ∧ (1 ≤ oc ∧ oc ≤ 21) ∧ ∀ c ∈ cl, -100000 ≤ cnP c ∧ cnP c ≤ 100000) : POK hs F S B T cl oc E := ⟨by omega, fun z => absurd z (by omega), fun z => absurd z (by omega), fun z => absurd z (by omega), fun _ => g, fun z => absurd z (by omega)⟩
theorem pok_5 {hs : List Hun} {F S B T : List (Int64 × Int)} {cl : List Cnl} {oc : Int} {E : Edi} (h : edK E = 5) (g : (0 ≤ edD E ∧ edD E ≤ 2) ∧ T.length + frS hs ≤ 40) : POK hs F S B T cl oc E := ⟨by omega, fun z => absurd z (by omega), fun z => absurd z (by omega), fun z => absurd z (by omega), fun z => absurd z (by omega), fun _ => g⟩
def dr0 : DR := ([], [], [], -1, -1, -1, 0)
def drO (S : St) : DR := (sD S).getD dr0
def edS (S : St) (T' : List (Int64 × Int)) (C' : List Cnl) (E : Edi) (B' : BR) : St := (sV S, some (T', C', drE (drO S) ++ [E], drA (drO S), dr1 (drO S), dr2 (drO S), drB (drO S)), sC S, sP S, sW S, sR S, B', sM S + 1)
/-- signs of names, with those of a text -/
def sgN (s : Nat → Int64) (T : List (Int64 × Int)) : Nat → Int64 := fun i => match T.find? (fun y => decide (y.2 = (i : Int))) with | some y => y.1 | none => s i
def whB (S : St) : Bool := match sD S with | some r => decide (opn (drC r) = 0) | none => false
theorem whB_iff {S : St} : whB S = true ↔ whole (sD S) := by
  unfold whB
  cases hD : sD S with
  | none => exact ⟨fun h => by simp at h, fun h => by obtain ⟨r, h1, _⟩ := h; cases h1⟩
  | some r => exact ⟨fun h => ⟨r, rfl, of_decide_eq_true h⟩, fun h => by obtain ⟨r', h1, h2⟩ := h; cases h1; exact decide_eq_true h2⟩
theorem drO_some {S : St} {r : DR} (h : sD S = some r) : drO S = r := by unfold drO; rw [h]; rfl
def o_remove (S : St) (p : Int) : Rs := (c2 (0 ≤ p ∧ p < dsz S) (whB S = true) 1 3, (((drT (drO S)).eraseIdx p.toNat).length : Nat), edS S ((drT (drO S)).eraseIdx p.toNat) (drC (drO S)) (1, p, -1, 0, none, drT (drO S), drC (drO S)) (sB S))
def mvT (T : List (Int64 × Int)) (p q : Int) : List (Int64 × Int) := (T.eraseIdx p.toNat).insertIdx q.toNat (T.getD p.toNat (0, 0))
def o_move (S : St) (p q : Int) : Rs := (c2 ((0 ≤ p ∧ p < dsz S) ∧ 0 ≤ q ∧ q < dsz S) (whB S = true) 1 3, 0, edS S (mvT (drT (drO S)) p q) (drC (drO S)) (3, p, q, 0, none, drT (drO S), drC (drO S)) (sB S))
section ED2
variable {Ω : Om} {σ σ8 : Sto} {lo x sw : Nat} {S : St} {ds : Nat → Nat} {el : Nat → List Nat} {r : DR} {p q : Int} {l : Int64}
theorem DwW.edm {T' : List (Int64 × Int)} {C' : List Cnl} {E' : Edi} {B' : BR} {f s b d' : Nat} {es' : List Nat} (hW : DwW Ω σ lo x S sw ds el) (hlo : x + 753 < lo) (hD : sD S = some r) (k : Keep σ σ8 (fun q => MP lo (x + 118 + 128 * sw) (ds 40) q ∨ In (x + 5) (x + 8) q)) (hDf : DfV Ω σ8 lo (x + 118 + 128 * sw) f s b d' T' C' (opn C') es') (hE : EdsV σ8 lo es' (drE r ++ [E'])) (h3 : fI σ8 203 (x + 118 + 128 * sw) = drA r ∧ fI σ8 204 (x + 118 + 128 * sw) = dr1 r ∧ fI σ8 205 (x + 118 + 128 * sw) = dr2 r) (hr : f = x + 375 + 8 * (dr1 r).toNat ∧ (dr2 r = -1 → s = x + 118 + 128 * sw + 62 ∧ b = x + 118 + 128 * sw + 62) ∧ (dr2 r ≠ -1 → s = x + 375 + 8 * (dr2 r).toNat ∧ b = x + 375 + 8 * drB r)) (hB : Bk σ8 (x + 5) (bkN B') (bkA B') (bkO B')) (hd : d' = ds 40 ∨ sN σ ≤ d') : DwW Ω (uI σ8 16 x (sM S + 1)) lo x (edS S T' C' E' B') sw (up1 ds 40 d') (up1 el 40 es') ∧ Keep σ (uI σ8 16 x (sM S + 1)) (DwP lo x) := by
  have hs := hW.1.2.2.1
  have h0 := hW.1.1
  have hsome := hW.2.1.1
  have h0x := hDf.1.1
  have k9 : Keep σ8 (uI σ8 16 x (sM S + 1)) (At1 x) := kuI1
  have kk : Keep σ (uI σ8 16 x (sM S + 1)) (DfP lo x (x + 118 + 128 * sw) (ds 40)) := (k.mono (fun q _ h => by
    rcases h with h | h
    · rcases h with h | h | h
      · exact Or.inl (by omega)
      · exact Or.inl (by omega)
      · exact Or.inr (Or.inr (Or.inr h))
    · exact Or.inr (Or.inr (Or.inl h)))).trans (k9.mono (fun q _ h => Or.inr (Or.inl h)))
  have hF8 := hW.2.1.keep k (by omega) (by omega)
  have hF9 := hF8.s16 (w := sM S + 1)
  rw [hD] at hF9
  have hDf9 := hDf.keep k9 (fun q q1 q2 q3 => by omega) (fun h h2 => by omega)
  have hE9 := hE.keep k9 (fun q q1 _ q3 => by omega)
  have e := drO_some hD
  have hH8 : DwH σ8 x sw := hW.1.keep k (fun q q1 q2 q3 => by omega)
  have := hW.drf (D' := some (T', C', drE r ++ [E'], drA r, dr1 r, dr2 r, drB r)) (B' := B') (em' := sM S + 1) hlo kk (show DwH (uI σ8 16 x (sM S + 1)) x sw from hH8) hF9 (MnV.mk' hDf9 hE9 (by
    refine ⟨?_, ?_, ?_⟩ <;> rw [fI_uI, if_neg (by omega)]
    · exact h3.1
    · exact h3.2.1
    · exact h3.2.2) hr) (hB.keep k9 (fun q q1 q2 q3 => by omega)) hd
  unfold edS
  rw [e]
  exact ⟨this, kk.mono (fun q _ h => by
    rcases h with h | h | h | h
    · exact Or.inl (by omega)
    · exact Or.inl (by omega)
    · exact Or.inl (by omega)
    · exact Or.inr (by omega))⟩
theorem dsz_q (hW : DwW Ω σ lo x S sw ds el) : Q32 (dsz S + 1) ∧ Q32 (dsz S) := by
  obtain ⟨hH, hF, hVs, hMn, -⟩ := hW
  obtain ⟨f, s, b, T, cl, oc, h1, h2⟩ := id hMn
  have hl := h1.2.2.2.2.1.2.2.2.2.2.2.2.2.2.1
  cases hD : sD S with
  | none => rw [dsz_none hD]; decide
  | some r => rw [dsz_some hD]; have := (h2 r hD).1; rw [this] at hl; omega
theorem K_remove (hDV : DwV Ω σ lo x S) (hCn : Cnt S) (iV : IvV S) (iD : IvD S) (hem : sM S < 512) (hp : Q32 p) : MC Ω M_Dw_remove rm_Dw_remove (OI Ω lo x (o_remove S p) σ) (XO Ω lo x S (o_remove S p).1 σ) σ [xr (some x), xi p] := by
  obtain ⟨⟨hlo, hls, hoE⟩, sw, ds, el, hW⟩ := id hDV
  obtain ⟨hH, hF, hVs, hMn, hSp, hCm, hPa, hNo, hRe, hBk, hPr, hTm, hDs⟩ := id hW
  obtain ⟨hc1, hc2, hc3, hc4, hc5, hc6, hc7⟩ := id hCn
  have hq := dsz_q hW
  have hx0 := hH.1
  refine e_Dw_remove (b_Dw_remove_0 ?_)
  refine c_Dw_remove_3 (k_Dw_draftSize (a := 0) hH hF hMn) hH.2.1 (by decide) (by decide) (by first | decide | omega) (by first | decide | omega) (Nat.le_of_ble_eq_true rfl) (fun z σ1 hq => ?_) (fun _ _ hx => hx.elim)
  obtain ⟨rfl, rfl⟩ := hq
  refine c_Dw_remove_6 (k_Dw_checkPlace hp hq.2) hH.2.1 (by decide) (by decide) (by first | decide | omega) (by first | decide | omega) (Nat.le_of_ble_eq_true rfl) (fun σ2 hq => ?_) (fun E σx hx => Ax.out rfl (XO.of hDV hx (fun hc => c2_1 hc) (by decide)) (by decide) (by decide))
  obtain ⟨rfl, hr2⟩ := hq
  refine b_Dw_remove_9 ?_
  refine c_Dw_remove_10 (k_Dw_checkEditable hH hF hMn hem) hH.2.1 (by decide) (by decide) (by first | decide | omega) (by first | decide | omega) (Nat.le_of_ble_eq_true rfl) (fun σ3 hq => ?_) (fun E σx hx => Ax.out rfl (XO.of hDV hx (fun hc => c2_2 hr2 (fun y => hc (whB_iff.mp y))) (by decide)) (by decide) (by decide))
  obtain ⟨rfl, hwh⟩ := hq
  have hwb := whB_iff.mpr hwh
  obtain ⟨r, hD, ho⟩ := hwh
  have iR := iD r hD
  obtain ⟨f, s, b, hDf, hEs, h3f, hrf, h3t, ⟨df, dss, db⟩, ⟨lf, ls, lb⟩, ⟨tF, tS, tB⟩, ⟨qF, qS, qB⟩, hax⟩ := hW.dr hlo hCn iV hD iR
  have f8 := hH.2.2.2.2.2.2.2.2.2.2.2.1
  have eD := drO_some hD
  have eZ : dszD (sD S) = ((drT r).length : Int) := dsz_some hD
  have hel : (el 40).length ≤ 512 := by have := hEs.1; have := iR.2.2.2.1; omega
  refine b_Dw_remove_13 ⟨hH.2.1, _, f8, by decide, by decide, fun σ6 e6 => ?_⟩
  have k6 : Keep σ3 σ6 No := by rw [e6]; exact Keep.nO
  have q6 : sK σ6 (sN σ3) = 5 := by rw [e6, sK_nO, if_pos rfl]
  have n6 : sN σ6 = sN σ3 + 1 := by rw [e6, sN_nO]
  refine c_Dw_remove_26 (k_Edt_init (lo := lo) q6 n6 hls (by decide) hp (by decide)) (by decide) (by decide) (by first | decide | omega) (by first | decide | omega) (Nat.le_of_ble_eq_true rfl) (fun σ7 hq => ?_) (fun _ _ hx => hx.elim)
  obtain ⟨hE7, k7⟩ := hq
  have k37 : Keep σ3 σ7 No := k6.tr k7 (fun q h1 h2 => by omega)
  have hDf7 := hDf.keep k37 (fun _ _ _ h => h) (fun _ h => h)
  have h37 := h3t.keep k37 (fun _ _ _ h => h) (fun _ _ _ h => h) (fun _ _ _ h => h)
  refine c_Dw_remove_29 (k_Drf_make (σ0 := σ3) (hs := []) hDf7 h37 hE7 k37 (by omega) (Nat.le_refl _) (fun h => absurd h (show ¬ ((1 : Int) = 5) by decide)) (fun p h => by cases h) (pok_1 (Or.inl rfl) (by show 0 ≤ p ∧ p < ((drT r).length : Int); omega)) tF tS tB df dss db qF qS qB (by omega) lf ls lb (by omega) (fun i y hy => ⟨hEs.k5 i y hy, hEs.lt i y hy⟩)) hDf7.1.2.1 (by decide) (by decide) (by first | decide | omega) (by first | decide | omega) (Nat.le_of_ble_eq_true rfl) (fun y σ8 hq => ?_) (fun _ _ hx => hx.elim)
  obtain ⟨-, d', hDf8, hE8, k8, hd8, a8⟩ := hq
  have eT : pfT [] (srcF (sV S) r) (srcS (sV S) r) (srcB (sV S) r) (drT r) (drC r) (1, p, -1, 0, none, [], []) = (drT r).eraseIdx p.toNat := rfl
  have eC : pfC (drC r) (1, p, -1, 0, none, [], []) = drC r := rfl
  have eO : pfO (opn (drC r)) (1, p, -1, 0, none, [], []) = opn (drC r) := rfl
  rw [eT, eC, eO] at hDf8
  have hEs8 : EdsV σ8 lo (el 40 ++ [sN σ3]) (drE r ++ [(1, p, -1, 0, none, drT r, drC r)]) := by
    refine (hEs.keep k8 (fun q q1 q2 q3 => ?_)).snoc hE8
    rcases q3 with q3 | q3 | ⟨q3, _⟩
    · omega
    · omega
    · exact q2 (q3 ▸ (hW.lt (i := 40) (by omega) (q3 ▸ q1)).2)
  obtain ⟨hW9, k9⟩ := hW.edm (E' := (1, p, -1, 0, none, drT r, drC r)) (B' := sB S) hlo hD (k8.mono (fun q _ h => Or.inl h)) hDf8 hEs8 ⟨a8.1.trans h3f.1, a8.2.1.trans h3f.2.1, a8.2.2.trans h3f.2.2⟩ hrf (hBk.keep k8 (fun q q1 q2 q3 => by omega)) hd8
  have hF8 := hF.keep k8 (by omega) (by omega)
  have hH8 := hH.keep k8 (fun q q1 q2 q3 => by omega)
  have e16 := hF8.2.2.2.2.2.2
  refine b_Dw_remove_32 ?_
  rw [e16]
  have hX9 := hDf8.2.2.2.2.1.keep (P := At1 x) (kuI1 (f := 16) (v := sM S + 1)) (fun q q1 q2 q3 => by omega)
  refine ⟨hH8.2.1, fun _ => ⟨by omega, _, hH8.2.2.2.2.2.2.2.2.2.2.2.1, hDf8.1.2.1, _, hDf8.1.2.2.1, ?_⟩⟩
  refine c_Dw_remove_50 (k_Txt_size hX9) hX9.2.1 (by decide) (by decide) (by first | decide | omega) (by first | decide | omega) (Nat.le_of_ble_eq_true rfl) (fun z σ9 hq => ?_) (fun _ _ hx => hx.elim)
  obtain ⟨rfl, rfl⟩ := hq
  refine r_Dw_remove_53 ⟨_, rfl, c2_t hr2 hwb, by show _ = (((drT (drO S)).eraseIdx p.toNat).length : Int); rw [eD], ⟨⟨hlo, Nat.le_trans hls k9.1, hoE⟩, sw, up1 ds 40 d', up1 el 40 (el 40 ++ [sN σ3]), ?_⟩, k9⟩ (by decide) (by decide)
  unfold o_remove; rw [eD]; exact hW9
theorem K_move (hDV : DwV Ω σ lo x S) (hCn : Cnt S) (iV : IvV S) (iD : IvD S) (hem : sM S < 512) (hp : Q32 p) (hq' : Q32 q) : MC Ω M_Dw_move rm_Dw_move (OV Ω lo x (o_move S p q) σ) (XO Ω lo x S (o_move S p q).1 σ) σ [xr (some x), xi p, xi q] := by
  obtain ⟨⟨hlo, hls, hoE⟩, sw, ds, el, hW⟩ := id hDV
  obtain ⟨hH, hF, hVs, hMn, hSp, hCm, hPa, hNo, hRe, hBk, hPr, hTm, hDs⟩ := id hW
  obtain ⟨hc1, hc2, hc3, hc4, hc5, hc6, hc7⟩ := id hCn
  have hq := dsz_q hW
  have hx0 := hH.1
  refine e_Dw_move (b_Dw_move_0 ?_)
  refine c_Dw_move_3 (k_Dw_draftSize (a := 0) hH hF hMn) hH.2.1 (by decide) (by decide) (by first | decide | omega) (by first | decide | omega) (Nat.le_of_ble_eq_true rfl) (fun z σ1 hq => ?_) (fun _ _ hx => hx.elim)
  obtain ⟨rfl, rfl⟩ := hq
  refine c_Dw_move_6 (k_Dw_checkPlace hp hq.2) hH.2.1 (by decide) (by decide) (by first | decide | omega) (by first | decide | omega) (Nat.le_of_ble_eq_true rfl) (fun σ2 hq => ?_) (fun E σx hx => Ax.out rfl (XO.of hDV hx (fun hc => c2_1 (fun z => hc z.1)) (by decide)) (by decide) (by decide))
  obtain ⟨rfl, hr2⟩ := hq
  refine b_Dw_move_9 ?_
  refine c_Dw_move_12 (k_Dw_draftSize (a := 0) hH hF hMn) hH.2.1 (by decide) (by decide) (by first | decide | omega) (by first | decide | omega) (Nat.le_of_ble_eq_true rfl) (fun z σ1 hq => ?_) (fun _ _ hx => hx.elim)
  obtain ⟨rfl, rfl⟩ := hq
  refine c_Dw_move_15 (k_Dw_checkPlace hq' hq.2) hH.2.1 (by decide) (by decide) (by first | decide | omega) (by first | decide | omega) (Nat.le_of_ble_eq_true rfl) (fun σ2 hq => ?_) (fun E σx hx => Ax.out rfl (XO.of hDV hx (fun hc => c2_1 (fun z => hc z.2)) (by decide)) (by decide) (by decide))
  obtain ⟨rfl, hr2b⟩ := hq
  refine b_Dw_move_18 ?_
  refine c_Dw_move_19 (k_Dw_checkEditable hH hF hMn hem) hH.2.1 (by decide) (by decide) (by first | decide | omega) (by first | decide | omega) (Nat.le_of_ble_eq_true rfl) (fun σ3 hq => ?_) (fun E σx hx => Ax.out rfl (XO.of hDV hx (fun hc => c2_2 ⟨hr2, hr2b⟩ (fun y => hc (whB_iff.mp y))) (by decide)) (by decide) (by decide))
  obtain ⟨rfl, hwh⟩ := hq
  have hwb := whB_iff.mpr hwh
  obtain ⟨r, hD, ho⟩ := hwh
  have iR := iD r hD
  obtain ⟨f, s, b, hDf, hEs, h3f, hrf, h3t, ⟨df, dss, db⟩, ⟨lf, ls, lb⟩, ⟨tF, tS, tB⟩, ⟨qF, qS, qB⟩, hax⟩ := hW.dr hlo hCn iV hD iR
  have f8 := hH.2.2.2.2.2.2.2.2.2.2.2.1
  have eD := drO_some hD
  have eZ : dszD (sD S) = ((drT r).length : Int) := dsz_some hD
  have hr3 : 0 ≤ p ∧ p < ((drT r).length : Int) := by rw [← eZ]; exact hr2
  have hr4 : 0 ≤ q ∧ q < ((drT r).length : Int) := by rw [← eZ]; exact hr2b
  have hel : (el 40).length ≤ 512 := by have := hEs.1; have := iR.2.2.2.1; omega
  refine b_Dw_move_22 ⟨hH.2.1, _, f8, by decide, by decide, fun σ6 e6 => ?_⟩
  have k6 : Keep σ3 σ6 No := by rw [e6]; exact Keep.nO
  have q6 : sK σ6 (sN σ3) = 5 := by rw [e6, sK_nO, if_pos rfl]
  have n6 : sN σ6 = sN σ3 + 1 := by rw [e6, sN_nO]
  refine c_Dw_move_35 (k_Edt_init (lo := lo) q6 n6 hls (by decide) hp hq') (by decide) (by decide) (by first | decide | omega) (by first | decide | omega) (Nat.le_of_ble_eq_true rfl) (fun σ7 hq => ?_) (fun _ _ hx => hx.elim)
  obtain ⟨hE7, k7⟩ := hq
  have k37 : Keep σ3 σ7 No := k6.tr k7 (fun q h1 h2 => by omega)
  have hDf7 := hDf.keep k37 (fun _ _ _ h => h) (fun _ h => h)
  have h37 := h3t.keep k37 (fun _ _ _ h => h) (fun _ _ _ h => h) (fun _ _ _ h => h)
  refine c_Dw_move_38 (k_Drf_make (σ0 := σ3) (hs := []) hDf7 h37 hE7 k37 (by omega) (Nat.le_refl _) (fun h => absurd h (show ¬ ((3 : Int) = 5) by decide)) (fun p h => by cases h) (pok_3 rfl ⟨hr3, hr4, iR.2.2.1⟩) tF tS tB df dss db qF qS qB (by omega) lf ls lb (by omega) (fun i y hy => ⟨hEs.k5 i y hy, hEs.lt i y hy⟩)) hDf7.1.2.1 (by decide) (by decide) (by first | decide | omega) (by first | decide | omega) (Nat.le_of_ble_eq_true rfl) (fun y σ8 hq => ?_) (fun _ _ hx => hx.elim)
  obtain ⟨-, d', hDf8, hE8, k8, hd8, a8⟩ := hq
  have eg : (drT r)[p.toNat]? = some ((drT r).getD p.toNat (0, 0)) := by rw [List.getD_eq_getElem?_getD, List.getElem?_eq_getElem (by omega)]; rfl
  have eT : pfT [] (srcF (sV S) r) (srcS (sV S) r) (srcB (sV S) r) (drT r) (drC r) (3, p, q, 0, none, [], []) = mvT (drT r) p q := by
    show (match (drT r)[p.toNat]? with | some x => ((drT r).eraseIdx p.toNat).insertIdx q.toNat x | none => drT r) = _
    rw [eg]; rfl
  have eC : pfC (drC r) (3, p, q, 0, none, [], []) = drC r := rfl
  have eO : pfO (opn (drC r)) (3, p, q, 0, none, [], []) = opn (drC r) := rfl
  rw [eT, eC, eO] at hDf8
  have hEs8 : EdsV σ8 lo (el 40 ++ [sN σ3]) (drE r ++ [(3, p, q, 0, none, drT r, drC r)]) := by
    refine (hEs.keep k8 (fun q q1 q2 q3 => ?_)).snoc hE8
    rcases q3 with q3 | q3 | ⟨q3, _⟩
    · omega
    · omega
    · exact q2 (q3 ▸ (hW.lt (i := 40) (by omega) (q3 ▸ q1)).2)
  obtain ⟨hW9, k9⟩ := hW.edm (E' := (3, p, q, 0, none, drT r, drC r)) (B' := sB S) hlo hD (k8.mono (fun q _ h => Or.inl h)) hDf8 hEs8 ⟨a8.1.trans h3f.1, a8.2.1.trans h3f.2.1, a8.2.2.trans h3f.2.2⟩ hrf (hBk.keep k8 (fun q q1 q2 q3 => by omega)) hd8
  have hF8 := hF.keep k8 (by omega) (by omega)
  have hH8 := hH.keep k8 (fun q q1 q2 q3 => by omega)
  have e16 := hF8.2.2.2.2.2.2
  refine b_Dw_move_41 ?_
  rw [e16]
  refine ⟨hH8.2.1, fun _ => ⟨by omega, ?_⟩⟩
  refine r_Dw_move_52 ⟨rfl, c2_t ⟨hr2, hr2b⟩ hwb, ⟨⟨hlo, Nat.le_trans hls k9.1, hoE⟩, sw, up1 ds 40 d', up1 el 40 (el 40 ++ [sN σ3]), ?_⟩, k9⟩ (by decide) (by decide)
  unfold o_move; rw [eD]; exact hW9
end ED2
