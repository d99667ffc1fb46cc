/-! BY HAND: the class's calls that only tell -/
abbrev OR (Ω : Om) (lo x c : Nat) (a : Int) (S : St) (σ : Sto) : Option PV → Sto → Prop := RI fun y σ' => c = 0 ∧ y = a ∧ DwV Ω σ' lo x S ∧ Keep σ σ' (DwP lo x)
abbrev OL (Ω : Om) (lo x c : Nat) (a : Int64) (S : St) (σ : Sto) : Option PV → Sto → Prop := RL fun y σ' => c = 0 ∧ y = a ∧ DwV Ω σ' lo x S ∧ Keep σ σ' (DwP lo x)
abbrev isLi (S : St) (v p : Int) : Prop := isV S v ∧ 0 ≤ p ∧ p < (vtx (sV S) v).length
def c1 (p : Prop) [Decidable p] : Nat := if p then 0 else 1
theorem c1_t {p : Prop} [Decidable p] (h : p) : c1 p = 0 := if_pos h
theorem c1_f {p : Prop} [Decidable p] (h : ¬ p) : c1 p = 1 := if_neg h
theorem VsV.at {Ω : Om} {σ : Sto} {lo x : Nat} {V : List VR} {ds : Nat → Nat} {el : Nat → List Nat} (h : VsV Ω σ lo x V ds el) {v : Int} (hv : 0 ≤ v ∧ v < V.length) (hn : V.length ≤ 40) : VrS σ (x + 374 + 8 * v.toNat) ∧ VrN σ (x + 374 + 8 * v.toNat) (vrA (vrO V v.toNat)) (vr1 (vrO V v.toNat)) (vr2 (vrO V v.toNat)) (vrW (vrO V v.toNat)) ∧ Tx σ (x + 374 + 8 * v.toNat + 1) (vtx V v) := by
  obtain ⟨⟨N, h1, -⟩, -⟩ := h v.toNat (by omega)
  exact ⟨h1.1, h1.2.1, h1.2.2.1⟩
theorem cntL {V : List VR} (h : V.length ≤ 40) : (V.length : Int) ≤ 40 := by omega
section RDO
variable {Ω : Om} {σ : Sto} {lo x : Nat} {S : St} {v w p : Int}
theorem K_versions (hDV : DwV Ω σ lo x S) : MC Ω M_Dw_versions rm_Dw_versions (OR Ω lo x 0 (sV S).length S σ) XN σ [xr (some x)] := by
  obtain ⟨-, sw, ds, el, hW⟩ := id hDV
  exact e_Dw_versions (b_Dw_versions_0 ⟨hW.1.2.1, fun _ => r_Dw_versions_4 ⟨_, rfl, rfl, hW.2.1.2.2.1, hDV, Keep.rf⟩ (by decide) (by decide)⟩)
theorem K_lines (hDV : DwV Ω σ lo x S) (hCn : Cnt S) (hv : Q32 v) : MC Ω M_Dw_lines rm_Dw_lines (OR Ω lo x (c1 (isV S v)) (vtx (sV S) v).length S σ) (XO Ω lo x S (c1 (isV S v)) σ) σ [xr (some x), xi v] := by
  obtain ⟨⟨hlo, hls, hoE⟩, sw, ds, el, hW⟩ := id hDV
  obtain ⟨hH, hF, hVs, hMn, hSp, hCm, hPa, hNo, hRe, hBk, hPr, hTm, hDs⟩ := id hW
  obtain ⟨hc1, hc2, hc3, hc4, hc5, hc6, hc7⟩ := id hCn
  refine e_Dw_lines (b_Dw_lines_0 ?_)
  refine c_Dw_lines_2 (k_Dw_versionAt hH hF (by omega) hv) hH.2.1 (by decide) (by decide) (by first | decide | omega) (by first | decide | omega) (Nat.le_of_ble_eq_true rfl) (fun r σ1 hq => ?_) (fun E σx hx => Ax.out rfl (XO.of hDV hx (fun hc => c1_f hc) (by decide)) (by decide) (by decide))
  obtain ⟨rfl, hr, rfl⟩ := hq
  obtain ⟨hs, hn, hx⟩ := hVs.at hr hc2
  refine b_Dw_lines_5 ⟨hs.2.1, _, hs.2.2.1, ?_⟩
  refine c_Dw_lines_8 (k_Txt_size hx) hx.2.1 (by decide) (by decide) (by first | decide | omega) (by first | decide | omega) (Nat.le_of_ble_eq_true rfl) (fun r σ1 hq => ?_) (fun _ _ hx => hx.elim)
  obtain ⟨rfl, rfl⟩ := hq
  exact r_Dw_lines_11 ⟨_, rfl, c1_t hr, rfl, hDV, Keep.rf⟩ (by decide) (by decide)
theorem K_lineOf (hDV : DwV Ω σ lo x S) (hCn : Cnt S) (hv : Q32 v) (hp : Q32 p) : MC Ω M_Dw_lineOf rm_Dw_lineOf (OL Ω lo x (c1 (isLi S v p)) (lnA (vtx (sV S) v) p) S σ) (XO Ω lo x S (c1 (isLi S v p)) σ) σ [xr (some x), xi v, xi p] := by
  obtain ⟨⟨hlo, hls, hoE⟩, sw, ds, el, hW⟩ := id hDV
  obtain ⟨hH, hF, hVs, hMn, hSp, hCm, hPa, hNo, hRe, hBk, hPr, hTm, hDs⟩ := id hW
  obtain ⟨hc1, hc2, hc3, hc4, hc5, hc6, hc7⟩ := id hCn
  refine e_Dw_lineOf (b_Dw_lineOf_0 ?_)
  refine c_Dw_lineOf_2 (k_Dw_versionAt hH hF (by omega) hv) hH.2.1 (by decide) (by decide) (by first | decide | omega) (by first | decide | omega) (Nat.le_of_ble_eq_true rfl) (fun r σ1 hq => ?_) (fun E σx hx => Ax.out rfl (XO.of hDV hx (fun hc => c1_f (fun z => hc z.1)) (by decide)) (by decide) (by decide))
  obtain ⟨rfl, hr, rfl⟩ := hq
  obtain ⟨hs, hn, hx⟩ := hVs.at hr hc2
  have hl := hx.2.2.2.2.2.2.2.2.2.1
  refine b_Dw_lineOf_5 ⟨hs.2.1, _, hs.2.2.1, ?_⟩
  refine c_Dw_lineOf_12 (k_Txt_size hx) hx.2.1 (by decide) (by decide) (by first | decide | omega) (by first | decide | omega) (Nat.le_of_ble_eq_true rfl) (fun r σ1 hq => ?_) (fun _ _ hx => hx.elim)
  obtain ⟨rfl, rfl⟩ := hq
  refine c_Dw_lineOf_15 (k_Dw_checkPlace hp (by omega)) hH.2.1 (by decide) (by decide) (by first | decide | omega) (by first | decide | omega) (Nat.le_of_ble_eq_true rfl) (fun σ2 hq => ?_) (fun E σx hx => Ax.out rfl (XO.of hDV hx (fun hc => c1_f (fun z => hc z.2)) (by decide)) (by decide) (by decide))
  obtain ⟨rfl, hr2⟩ := hq
  refine b_Dw_lineOf_18 ?_
  refine c_Dw_lineOf_20 (k_Txt_lineAt hx hp) hx.2.1 (by decide) (by decide) (by first | decide | omega) (by first | decide | omega) (Nat.le_of_ble_eq_true rfl) (fun r σ3 hq => ?_) (fun _ _ hx => hx.elim)
  obtain ⟨rfl, rfl⟩ := hq
  exact r_Dw_lineOf_23 ⟨_, rfl, c1_t ⟨hr, hr2⟩, rfl, hDV, Keep.rf⟩ (by decide) (by decide)
/-- the author of a name -/
def auN (b : BR) (nm : Int) : Int := if 0 ≤ nm ∧ nm < bkN b then bkA b nm.toNat else -1
theorem K_blame (hDV : DwV Ω σ lo x S) (hCn : Cnt S) (hv : Q32 v) (hp : Q32 p) : MC Ω M_Dw_blame rm_Dw_blame (OR Ω lo x (c1 (isLi S v p)) (auN (sB S) (nmA (vtx (sV S) v) p)) S σ) (XO Ω lo x S (c1 (isLi S v p)) σ) σ [xr (some x), xi v, xi p] := by
  obtain ⟨⟨hlo, hls, hoE⟩, sw, ds, el, hW⟩ := id hDV
  obtain ⟨hH, hF, hVs, hMn, hSp, hCm, hPa, hNo, hRe, hBk, hPr, hTm, hDs⟩ := id hW
  obtain ⟨hc1, hc2, hc3, hc4, hc5, hc6, hc7⟩ := id hCn
  refine e_Dw_blame (b_Dw_blame_0 ?_)
  refine c_Dw_blame_2 (k_Dw_versionAt hH hF (by omega) hv) hH.2.1 (by decide) (by decide) (by first | decide | omega) (by first | decide | omega) (Nat.le_of_ble_eq_true rfl) (fun r σ1 hq => ?_) (fun E σx hx => Ax.out rfl (XO.of hDV hx (fun hc => c1_f (fun z => hc z.1)) (by decide)) (by decide) (by decide))
  obtain ⟨rfl, hr, rfl⟩ := hq
  obtain ⟨hs, hn, hx⟩ := hVs.at hr hc2
  have hl := hx.2.2.2.2.2.2.2.2.2.1
  refine b_Dw_blame_5 ⟨hs.2.1, _, hs.2.2.1, ?_⟩
  refine c_Dw_blame_12 (k_Txt_size hx) hx.2.1 (by decide) (by decide) (by first | decide | omega) (by first | decide | omega) (Nat.le_of_ble_eq_true rfl) (fun r σ1 hq => ?_) (fun _ _ hx => hx.elim)
  obtain ⟨rfl, rfl⟩ := hq
  refine c_Dw_blame_15 (k_Dw_checkPlace hp (by omega)) hH.2.1 (by decide) (by decide) (by first | decide | omega) (by first | decide | omega) (Nat.le_of_ble_eq_true rfl) (fun σ2 hq => ?_) (fun E σx hx => Ax.out rfl (XO.of hDV hx (fun hc => c1_f (fun z => hc z.2)) (by decide)) (by decide) (by decide))
  obtain ⟨rfl, hr2⟩ := hq
  refine b_Dw_blame_18 ⟨hH.2.1, _, hH.2.2.2.2.2.2.2.1, ?_⟩
  refine c_Dw_blame_24 (k_Txt_nameAt hx hp) hx.2.1 (by decide) (by decide) (by first | decide | omega) (by first | decide | omega) (Nat.le_of_ble_eq_true rfl) (fun r σ3 hq => ?_) (fun _ _ hx => hx.elim)
  obtain ⟨rfl, rfl, hq⟩ := hq
  refine c_Dw_blame_27 (k_Lbk_authorOf hBk hq) hBk.2.1 (by decide) (by decide) (by first | decide | omega) (by first | decide | omega) (Nat.le_of_ble_eq_true rfl) (fun r σ4 hq => ?_) (fun _ _ hx => hx.elim)
  obtain ⟨rfl, rfl, hq2⟩ := hq
  exact r_Dw_blame_30 ⟨_, rfl, c1_t ⟨hr, hr2⟩, rfl, hDV, Keep.rf⟩ (by decide) (by decide)
/-- the first version that has a name -/
def snG (V : List VR) (nm : Int) (v : Nat) : Nat → Nat → Nat
  | 0, _ => v
  | f + 1, i => if ∃ y ∈ vtx V (i : Nat), y.2 = nm then i else snG V nm v f (i + 1)
theorem K_since (hDV : DwV Ω σ lo x S) (hCn : Cnt S) (hv : Q32 v) (hp : Q32 p) : MC Ω M_Dw_since rm_Dw_since (OR Ω lo x (c1 (isLi S v p)) (snG (sV S) (nmA (vtx (sV S) v) p) v.toNat v.toNat 0 : Nat) S σ) (XO Ω lo x S (c1 (isLi S v p)) σ) σ [xr (some x), xi v, xi p] := by
  obtain ⟨⟨hlo, hls, hoE⟩, sw, ds, el, hW⟩ := id hDV
  obtain ⟨hH, hF, hVs, hMn, hSp, hCm, hPa, hNo, hRe, hBk, hPr, hTm, hDs⟩ := id hW
  obtain ⟨hc1, hc2, hc3, hc4, hc5, hc6, hc7⟩ := id hCn
  refine e_Dw_since (b_Dw_since_0 ?_)
  refine c_Dw_since_2 (k_Dw_versionAt hH hF (by omega) hv) hH.2.1 (by decide) (by decide) (by first | decide | omega) (by first | decide | omega) (Nat.le_of_ble_eq_true rfl) (fun r σ1 hq => ?_) (fun E σx hx => Ax.out rfl (XO.of hDV hx (fun hc => c1_f (fun z => hc z.1)) (by decide)) (by decide) (by decide))
  obtain ⟨rfl, hr, rfl⟩ := hq
  obtain ⟨hs, hn, hx⟩ := hVs.at hr hc2
  have hl := hx.2.2.2.2.2.2.2.2.2.1
  refine b_Dw_since_5 ⟨hs.2.1, _, hs.2.2.1, ?_⟩
  refine c_Dw_since_12 (k_Txt_size hx) hx.2.1 (by decide) (by decide) (by first | decide | omega) (by first | decide | omega) (Nat.le_of_ble_eq_true rfl) (fun r σ1 hq => ?_) (fun _ _ hx => hx.elim)
  obtain ⟨rfl, rfl⟩ := hq
  refine c_Dw_since_15 (k_Dw_checkPlace hp (by omega)) hH.2.1 (by decide) (by decide) (by first | decide | omega) (by first | decide | omega) (Nat.le_of_ble_eq_true rfl) (fun σ2 hq => ?_) (fun E σx hx => Ax.out rfl (XO.of hDV hx (fun hc => c1_f (fun z => hc z.2)) (by decide)) (by decide) (by decide))
  obtain ⟨rfl, hr2⟩ := hq
  refine b_Dw_since_18 ?_
  refine c_Dw_since_20 (k_Txt_nameAt hx hp) hx.2.1 (by decide) (by decide) (by first | decide | omega) (by first | decide | omega) (Nat.le_of_ble_eq_true rfl) (fun r σ3 hq => ?_) (fun _ _ hx => hx.elim)
  obtain ⟨rfl, rfl, hq⟩ := hq
  refine b_Dw_since_23 ?_
  obtain ⟨h0, h1, hs', f0, f1, f2, f3, f4, f5, f6, f7, f8, f9, ⟨k1, z1, r1⟩, -⟩ := id hH
  have loop : ∀ (d i : Nat), i + d = v.toNat → snG (sV S) (nmA (vtx (sV S) v) p) v.toNat d i = snG (sV S) (nmA (vtx (sV S) v) p) v.toNat v.toNat 0 → Aw Ω M_Dw_since rm_Dw_since (MF Ω rm_Dw_since (OR Ω lo x (c1 (isLi S v p)) (snG (sV S) (nmA (vtx (sV S) v) p) v.toNat v.toNat 0 : Nat) S σ3) (XO Ω lo x S (c1 (isLi S v p)) σ3)) 2 16 28 [xr (some x), xi v, xi p, xr (some (x + 374 + 8 * v.toNat + 1)), xi (nmA (vtx (sV S) v) p), xi i] [] σ3 := by
    intro d
    induction d with
    | zero =>
      intro i hd he
      refine b_Dw_since_28 ⟨by omega, by omega, fun _ => ?_, fun c => absurd (by omega) c⟩
      refine r_Dw_since_62 ⟨_, rfl, c1_t ⟨hr, hr2⟩, ?_, hDV, Keep.rf⟩ (by decide) (by decide)
      rw [← he, snG]; omega
    | succ d ih =>
      intro i hd he
      obtain ⟨gs, gn, gx⟩ := hVs.at (v := (i : Int)) (by omega) hc2
      refine b_Dw_since_28 ⟨by omega, by omega, fun c => absurd c (by omega), fun _ => ⟨h1, _, f0, k1, by omega, by omega, _, r1 _ (by omega), gs.2.1, _, gs.2.2.1, ?_⟩⟩
      refine c_Dw_since_46 (k_Txt_holds gx hq) gx.2.1 (by decide) (by decide) (by first | decide | omega) (by first | decide | omega) (Nat.le_of_ble_eq_true rfl) (fun r σ4 hq => ?_) (fun _ _ hx => hx.elim)
      obtain ⟨rfl, rfl⟩ := hq
      rw [snG] at he
      by_cases hh : ∃ y ∈ vtx (sV S) (i : Int), y.2 = nmA (vtx (sV S) v) p
      · rw [if_pos hh]
        rw [if_pos hh] at he
        refine b_Dw_since_49 ⟨by decide, fun c => absurd c (by decide), fun _ => ?_⟩
        refine r_Dw_since_54 ⟨_, rfl, c1_t ⟨hr, hr2⟩, ?_, hDV, Keep.rf⟩ (by decide) (by decide)
        rw [← he]
      · rw [if_neg hh]
        rw [if_neg hh] at he
        exact b_Dw_since_49 ⟨by decide, fun _ => ih (i + 1) (by omega) he, fun c => absurd rfl c⟩
  exact loop v.toNat 0 (by omega) rfl
theorem K_isAbove (hDV : DwV Ω σ lo x S) (hCn : Cnt S) (hv : Q32 v) (hw : Q32 w) : MC Ω M_Dw_isAbove rm_Dw_isAbove (OR Ω lo x (c1 (isV S v ∧ isV S w)) (if (lUsh (vrW (vrO (sV S) v.toNat)) w &&& 1) ≠ 0 then 1 else 0) S σ) (XO Ω lo x S (c1 (isV S v ∧ isV S w)) σ) σ [xr (some x), xi v, xi w] := by
  obtain ⟨⟨hlo, hls, hoE⟩, sw, ds, el, hW⟩ := id hDV
  obtain ⟨hH, hF, hVs, hMn, hSp, hCm, hPa, hNo, hRe, hBk, hPr, hTm, hDs⟩ := id hW
  obtain ⟨hc1, hc2, hc3, hc4, hc5, hc6, hc7⟩ := id hCn
  refine e_Dw_isAbove (b_Dw_isAbove_0 ?_)
  refine c_Dw_isAbove_2 (k_Dw_versionAt hH hF (by omega) hv) hH.2.1 (by decide) (by decide) (by first | decide | omega) (by first | decide | omega) (Nat.le_of_ble_eq_true rfl) (fun r σ1 hq => ?_) (fun E σx hx => Ax.out rfl (XO.of hDV hx (fun hc => c1_f (fun z => hc z.1)) (by decide)) (by decide) (by decide))
  obtain ⟨rfl, hr, rfl⟩ := hq
  obtain ⟨hs, hn, hx⟩ := hVs.at hr hc2
  refine b_Dw_isAbove_5 ?_
  refine c_Dw_isAbove_8 (k_Dw_versionAt hH hF (by omega) hw) hH.2.1 (by decide) (by decide) (by first | decide | omega) (by first | decide | omega) (Nat.le_of_ble_eq_true rfl) (fun r σ2 hq => ?_) (fun E σx hx => Ax.out rfl (XO.of hDV hx (fun hc => c1_f (fun z => hc z.2)) (by decide)) (by decide) (by decide))
  obtain ⟨rfl, hr2, rfl⟩ := hq
  refine b_Dw_isAbove_11 ?_
  refine c_Dw_isAbove_14 (k_Ver_isOver hs hn hw) hs.2.1 (by decide) (by decide) (by first | decide | omega) (by first | decide | omega) (Nat.le_of_ble_eq_true rfl) (fun r σ3 hq => ?_) (fun _ _ hx => hx.elim)
  obtain ⟨rfl, rfl⟩ := hq
  have e : (0 ≤ w ∧ w < 40 ∧ (lUsh (vrW (vrO (sV S) v.toNat)) w &&& 1) ≠ 0) = ((lUsh (vrW (vrO (sV S) v.toNat)) w &&& 1) ≠ 0) := propext ⟨fun z => z.2.2, fun z => ⟨by omega, by omega, z⟩⟩
  refine r_Dw_isAbove_17 (by split <;> simp) ⟨_, rfl, c1_t ⟨hr, hr2⟩, ?_, hDV, Keep.rf⟩ (by decide) (by decide)
  simp only [e]
theorem K_likeness {l m : Int64} (hDV : DwV Ω σ lo x S) : MC Ω M_Dw_likeness rm_Dw_likeness (OR Ω lo x (if isLn l = true ∧ isLn m = true then 0 else 2) (lkN l m) S σ) (XO Ω lo x S (if isLn l = true ∧ isLn m = true then 0 else 2) σ) σ [xr (some x), xl l, xl m] := by
  obtain ⟨-, sw, ds, el, hW⟩ := id hDV
  have hH := hW.1
  refine e_Dw_likeness (b_Dw_likeness_0 ?_)
  refine c_Dw_likeness_2 (k_Dw_checkLine) hH.2.1 (by decide) (by decide) (by first | decide | omega) (by first | decide | omega) (Nat.le_of_ble_eq_true rfl) (fun σ1 hq => ?_) (fun E σx hx => Ax.out rfl (XO.of hDV hx (fun hc => if_neg (fun z => hc z.1)) (by decide)) (by decide) (by decide))
  obtain ⟨rfl, h1⟩ := hq
  refine b_Dw_likeness_5 ?_
  refine c_Dw_likeness_7 (k_Dw_checkLine) hH.2.1 (by decide) (by decide) (by first | decide | omega) (by first | decide | omega) (Nat.le_of_ble_eq_true rfl) (fun σ2 hq => ?_) (fun E σx hx => Ax.out rfl (XO.of hDV hx (fun hc => if_neg (fun z => hc z.2)) (by decide)) (by decide) (by decide))
  obtain ⟨rfl, h2⟩ := hq
  refine b_Dw_likeness_10 ?_
  refine c_Dw_likeness_12 (k_Lbk_likenessOf) (by decide) (by decide) (by first | decide | omega) (by first | decide | omega) (Nat.le_of_ble_eq_true rfl) (fun r σ3 hq => ?_) (fun _ _ hx => hx.elim)
  obtain ⟨hk, rfl⟩ := hq
  exact r_Dw_likeness_15 ⟨_, rfl, if_pos ⟨h1, h2⟩, rfl, hDV.keep hk (fun _ _ h => h), hk.mono (fun _ _ h => h.elim)⟩ (by decide) (by decide)
theorem K_draftLines (hDV : DwV Ω σ lo x S) : MC Ω M_Dw_draftLines rm_Dw_draftLines (OR Ω lo x 0 (dsz S) S σ) XN σ [xr (some x)] := by
  obtain ⟨-, sw, ds, el, hW⟩ := id hDV
  obtain ⟨hH, hF, hVs, hMn, -⟩ := id hW
  obtain ⟨f, s, b, T, cl, oc, h1, h2⟩ := hMn
  have hS := h1.1
  have hX := h1.2.2.2.2.1
  have f8 := hH.2.2.2.2.2.2.2.2.2.2.2.1
  have hd := hF.1
  refine e_Dw_draftLines (b_Dw_draftLines_0 ⟨hH.2.1, fun _ => ⟨fun c => ?_, fun c => ⟨_, f8, hS.2.1, _, hS.2.2.1, ?_⟩⟩⟩)
  · cases hD : sD S with
    | none =>
      refine r_Dw_draftLines_21 ⟨_, rfl, rfl, ?_, hDV, Keep.rf⟩ (by decide) (by decide)
      exact (dsz_none hD).symm
    | some r => rw [hD] at hd; exact absurd (hd.symm.trans c) (show ¬ ((1 : Int) = 0) by decide)
  · refine c_Dw_draftLines_14 (k_Txt_size hX) hX.2.1 (by decide) (by decide) (by first | decide | omega) (by first | decide | omega) (Nat.le_of_ble_eq_true rfl) (fun z σ1 hq => ?_) (fun _ _ hx => hx.elim)
    obtain ⟨rfl, rfl⟩ := hq
    refine b_Dw_draftLines_17 (r_Dw_draftLines_21 ⟨_, rfl, rfl, ?_, hDV, Keep.rf⟩ (by decide) (by decide))
    cases hD : sD S with
    | none => rw [hD] at hd; exact absurd hd c
    | some r => rw [dsz_some hD, (h2 r hD).1]
theorem K_draftLine (hDV : DwV Ω σ lo x S) (hp : Q32 p) : MC Ω M_Dw_draftLine rm_Dw_draftLine (OL Ω lo x (c1 (0 ≤ p ∧ p < dsz S)) (match sD S with | some r => lnA (drT r) p | none => 0) S σ) (XO Ω lo x S (c1 (0 ≤ p ∧ p < dsz S)) σ) σ [xr (some x), xi p] := by
  obtain ⟨-, sw, ds, el, hW⟩ := id hDV
  obtain ⟨hH, hF, hVs, hMn, -⟩ := id hW
  obtain ⟨f, s, b, T, cl, oc, h1, h2⟩ := id hMn
  have hS := h1.1
  have hX := h1.2.2.2.2.1
  have hl := hX.2.2.2.2.2.2.2.2.2.1
  have f8 := hH.2.2.2.2.2.2.2.2.2.2.2.1
  have hq : Q32 (dsz S) := by
    cases hD : sD S with
    | none => rw [dsz_none hD]; decide
    | some r => rw [dsz_some hD]; have := (h2 r hD).1; rw [this] at hl; omega
  refine e_Dw_draftLine (b_Dw_draftLine_0 ?_)
  refine c_Dw_draftLine_3 (k_Dw_draftSize (a := 0) hH hF hMn) hH.2.1 (by decide) (by decide) (by first | decide | omega) (by first | decide | omega) (Nat.le_of_ble_eq_true rfl) (fun z σ1 hq => ?_) (fun _ _ hx => hx.elim)
  obtain ⟨rfl, rfl⟩ := hq
  refine c_Dw_draftLine_6 (k_Dw_checkPlace hp hq) hH.2.1 (by decide) (by decide) (by first | decide | omega) (by first | decide | omega) (Nat.le_of_ble_eq_true rfl) (fun σ2 hq => ?_) (fun E σx hx => Ax.out rfl (XO.of hDV hx (fun hc => c1_f hc) (by decide)) (by decide) (by decide))
  obtain ⟨rfl, hr2⟩ := hq
  refine b_Dw_draftLine_9 ⟨hH.2.1, _, f8, hS.2.1, _, hS.2.2.1, ?_⟩
  refine c_Dw_draftLine_17 (k_Txt_lineAt hX hp) hX.2.1 (by decide) (by decide) (by first | decide | omega) (by first | decide | omega) (Nat.le_of_ble_eq_true rfl) (fun z σ3 hq => ?_) (fun _ _ hx => hx.elim)
  obtain ⟨rfl, rfl⟩ := hq
  refine r_Dw_draftLine_20 ⟨_, rfl, c1_t hr2, ?_, hDV, Keep.rf⟩ (by decide) (by decide)
  cases hD : sD S with
  | none => exact absurd hr2 (by rw [show dszD (sD S) = -1 from dsz_none hD]; omega)
  | some r => rw [(h2 r hD).1]
end RDO
