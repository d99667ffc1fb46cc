/-! BY HAND: merging -/
theorem wpC_s {F S B : List (Int64 × Int)} {cl : List Cnl} {c : Cnl} (h : ∀ y ∈ cl, cnS y = 0) (hc : cnS c = 0) : ∀ y ∈ wpC F S B cl c, cnS y = 0 := by
  by_cases g : alk F S B c 0 2 ∨ alk F S B c 1 2 ∨ alk F S B c 1 0
  · rw [wpC_1 g]; exact h
  · rw [wpC_0 g]
    intro y hy
    rcases List.mem_append.mp hy with q | q
    · exact h y q
    · rw [List.mem_singleton.mp q]; exact hc
theorem wvN_s {F S B : List (Int64 × Int)} {P1 P2 : Nat → Int} : ∀ (d i ff sf bf : Nat) (T : List (Int64 × Int)) (cl : List Cnl), (∀ y ∈ cl, cnS y = 0) → ∀ y ∈ (wvN F S B P1 P2 d i ff sf bf T cl).2, cnS y = 0 := by
  intro d
  induction d with
  | zero =>
    intro i ff sf bf T cl h
    rw [wvN]
    exact wpC_s h rfl
  | succ d ih =>
    intro i ff sf bf T cl h
    rw [wvN]
    by_cases g : P1 i ≠ -1 ∧ P2 i ≠ -1
    · rw [if_pos g]; exact ih _ _ _ _ _ _ (wpC_s h rfl)
    · rw [if_neg g]; exact ih _ _ _ _ _ _ h
theorem wvA_opn (F S B : List (Int64 × Int)) : opn (wvA F S B).2 = (wvA F S B).2.length := by
  unfold opn
  rw [List.countP_eq_length]
  intro y hy
  exact decide_eq_true (wvN_s _ _ _ _ _ _ _ (fun y h => by simp at h) y hy)
noncomputable def mgW (S : St) (v w : Int) : List (Int64 × Int) × List Cnl := wvA (vtx (sV S) v) (vtx (sV S) w) (vtx (sV S) (bsN (sV S) v w : Nat))
noncomputable def o_merge (S : St) (v w au : Int) : Rs := (c3 (isV S v ∧ isV S w ∧ isP au) (v ≠ w) ((mgW S v w).1.length ≤ 20) 1 2 3, ((mgW S v w).2.length : Nat), (sV S, some ((mgW S v w).1, (mgW S v w).2, [], au, v, w, bsN (sV S) v w), sC S, sP S, sW S, sR S, sB S, sM S))
/-- what a change of the spare draft touches -/
abbrev SpP (lo a d : Nat) : Nat → Prop := fun q => (a ≤ q ∧ q < a + 128) ∨ (q = d ∧ lo ≤ q)
section MRG
variable {Ω : Om} {σ σ' : Sto} {lo x sw n d' : Nat} {S : St} {ds : Nat → Nat} {el : Nat → List Nat} {es : List Nat} {v w au : Int}
theorem DwW.spr (hW : DwW Ω σ lo x S sw ds el) (hlo : x + 753 < lo) (k : Keep σ σ' (SpP lo (x + 118 + 128 * (1 - sw)) (ds 41))) : DwH σ' x sw ∧ DwF σ' x (b01 (sD S).isSome) (b01 (sC S).isSome) (sV S).length (sP S).length (sR S).length (sW S).length (sM S) ∧ VsV Ω σ' lo x (sV S) ds el ∧ MnV Ω σ' lo x (x + 118 + 128 * sw) (ds 40) (el 40) (sD S) ∧ CmV σ' x (sC S) ∧ PaV σ' lo x (sP S) ∧ NoV σ' x (sW S) ∧ ReV σ' x (sR S) ∧ Bk σ' (x + 5) (bkN (sB S)) (bkA (sB S)) (bkO (sB S)) ∧ CpS σ' (x + 36) ∧ TmS σ' (x + 64) := by
  have hlt := fun i h1 h2 => hW.lt (i := i) h1 h2
  obtain ⟨h1, h2, h3, h4, h5, h6, h7, h8, h9, h10, h11, h12, h13⟩ := hW
  have h0 := h1.1
  have hs := h1.2.2.1
  have dl : ∀ q, lo ≤ q → sK σ q ≠ 59 → ¬ SpP lo (x + 118 + 128 * (1 - sw)) (ds 41) q := fun q q1 q2 q3 => by
    rcases q3 with q3 | ⟨q3, _⟩
    · omega
    · exact q2 (q3 ▸ (hlt 41 (by omega) (q3 ▸ q1)).2)
  have dd : ∀ i, i < 42 → i ≠ 41 → lo ≤ ds i → ¬ SpP lo (x + 118 + 128 * (1 - sw)) (ds 41) (ds i) := fun i q1 q2 q3 q4 => by
    rcases q4 with q4 | ⟨q4, _⟩
    · omega
    · exact q2 (h13 i 41 q1 (by omega) q3 q4)
  exact ⟨h1.keep k (fun q q1 q2 q3 => by omega), h2.keep k (by omega) (by omega), h3.keep k (fun q q1 q2 q3 => by omega) dl (fun v hv hd => dd v (by omega) (by omega) hd), h4.keep k (fun q q1 q2 q3 => by omega) dl (fun hd => dd 40 (by omega) (by omega) hd), h6.keep k (fun q q1 q2 q3 => by omega), h7.keep k (fun q q1 q2 q3 => by omega) dl, h8.keep k (by omega) (by omega), h9.keep k (fun q q1 q2 q3 => by omega), h10.keep k (fun q q1 q2 q3 => by omega), h11.keep k (fun q q1 q2 q3 => by omega), h12.keep k (fun q q1 q2 q3 => by omega)⟩
theorem pi_lt {i : Nat} (h : i < 42) : (if i = 40 then 41 else if i = 41 then 40 else i) < 42 := by
  by_cases q1 : i = 40
  · rw [if_pos q1]; omega
  · rw [if_neg q1]
    by_cases q2 : i = 41
    · rw [if_pos q2]; omega
    · rw [if_neg q2]; exact h
theorem pi_inj {i j : Nat} (h : (if i = 40 then 41 else if i = 41 then 40 else i) = (if j = 40 then 41 else if j = 41 then 40 else j)) : i = j := by
  repeat' split at h
  all_goals omega
theorem bsN_isV (hv : isV S v) (hw : isV S w) : isV S ((bsN (sV S) v w : Nat) : Int) := by
  have h := bsF_le (blW (sV S) v &&& blW (sV S) w) (minI v w).toNat
  have h2 : minI v w ≤ v := by unfold minI; split <;> omega
  have : bsN (sV S) v w ≤ (minI v w).toNat := h
  exact ⟨by omega, by omega⟩
theorem K_merge (hDV : DwV Ω σ lo x S) (hCn : Cnt S) (iV : IvV S) (hv : Q32 v) (hw : Q32 w) (ha : Q32 au) : MC Ω M_Dw_merge rm_Dw_merge (OI Ω lo x (o_merge S v w au) σ) (XO Ω lo x S (o_merge S v w au).1 σ) σ [xr (some x), xi v, xi w, xi au] := by
  obtain ⟨⟨hlo, hls, hoE⟩, sw, ds, el, hW⟩ := id hDV
  obtain ⟨hH, hF, hVs, hMn, hSp, hCm, hPa, hNo, hRe, hBk, hPr, hTm, hDs⟩ := id hW
  obtain ⟨hc1, hc2, hc3, hc4, hc5, hc6, hc7⟩ := id hCn
  have hx0 := hH.1
  have hs1 := hH.2.2.1
  refine e_Dw_merge (b_Dw_merge_0 ?_)
  refine c_Dw_merge_2 (k_Dw_versionAt hH hF (by omega) hv) hH.2.1 (by decide) (by decide) (by first | decide | omega) (by first | decide | omega) (Nat.le_of_ble_eq_true rfl) (fun y σ1 hq => ?_) (fun E σx hx => Ax.out rfl (XO.of hDV hx (fun hc => c3_1 (fun z => hc z.1)) (by decide)) (by decide) (by decide))
  obtain ⟨rfl, hr1, rfl⟩ := hq
  obtain ⟨gs1, gn1, gx1⟩ := hVs.at hr1 hc2
  refine b_Dw_merge_5 ⟨gs1.2.1, _, gs1.2.2.1, ?_⟩
  refine c_Dw_merge_12 (k_Dw_versionAt hH hF (by omega) hw) hH.2.1 (by decide) (by decide) (by first | decide | omega) (by first | decide | omega) (Nat.le_of_ble_eq_true rfl) (fun y σ2 hq => ?_) (fun E σx hx => Ax.out rfl (XO.of hDV hx (fun hc => c3_1 (fun z => hc z.2.1)) (by decide)) (by decide) (by decide))
  obtain ⟨rfl, hr2, rfl⟩ := hq
  obtain ⟨gs2, gn2, gx2⟩ := hVs.at hr2 hc2
  refine b_Dw_merge_15 ⟨gs2.2.1, _, gs2.2.2.1, ?_⟩
  refine c_Dw_merge_22 (k_Dw_checkPerson ha) hH.2.1 (by decide) (by decide) (by first | decide | omega) (by first | decide | omega) (Nat.le_of_ble_eq_true rfl) (fun σ3 hq => ?_) (fun E σx hx => Ax.out rfl (XO.of hDV hx (fun hc => c3_1 (fun z => hc z.2.2)) (by decide)) (by decide) (by decide))
  obtain ⟨rfl, hr3⟩ := hq
  have hr : isV S v ∧ isV S w ∧ isP au := ⟨hr1, hr2, hr3⟩
  have f9 := hH.2.2.2.2.2.2.2.2.2.2.2.2.1
  have f8 := hH.2.2.2.2.2.2.2.2.2.2.2.1
  obtain ⟨k1, z1, r1⟩ := hH.2.2.2.2.2.2.2.2.2.2.2.2.2.1
  refine b_Dw_merge_25 ⟨hv, hw, fun c4 => ⟨hH.2.1, _, f9, _, hH.2.2.2.1, ?_⟩, fun c4 => t_Dw_merge_30 (by decide) (by decide) (by first | decide | omega) (by first | decide | omega) (fun n' h2 => XO.of hDV ⟨rfl, (show ¬ (v ≠ w) from fun z => z c4), Keep.nX h2⟩ (fun z => c3_2 hr z) (by decide))⟩
  refine c_Dw_merge_55 (k_Dw_baseOf hW hCn hr1 hr2) hH.2.1 (by decide) (by decide) (by first | decide | omega) (by first | decide | omega) (Nat.le_of_ble_eq_true rfl) (fun y σ3 hq => ?_) (fun _ _ hx => hx.elim)
  obtain ⟨rfl, rfl⟩ := hq
  have hb := bsN_isV hr1 hr2
  obtain ⟨gs4, gn4, gx4⟩ := hVs.at hb hc2
  refine b_Dw_merge_58 ⟨k1, by omega, by omega, _, r1 _ (by omega), gs4.2.1, _, gs4.2.2.1, ?_⟩
  obtain ⟨f0, s0, b0, T0, cl0, oc0, hDf0, -⟩ := hSp
  have iV2 := iV.2
  have hq : ∀ v : Int, ∀ y ∈ vtx (sV S) v, Q32 y.2 := fun v y hy => by
    have := (iV.1 v).2 y hy
    omega
  have h3t : Tx3 σ3 (x + 374 + 8 * v.toNat + 1) (x + 374 + 8 * w.toNat + 1) (x + 374 + 8 * (((bsN (sV S) v w : Nat) : Int)).toNat + 1) (vtx (sV S) v) (vtx (sV S) w) (vtx (sV S) (bsN (sV S) v w : Nat)) := ⟨gx1, gx2, gx4⟩
  refine c_Dw_merge_62 (k_Drf_weave hDf0.1 hDf0.2.2.1 hDf0.2.2.2.2.1 hDf0.2.2.2.2.2.1 hDf0.2.2.2.2.2.2 h3t (iV.1 _).1 (iV.1 _).1 (iV.1 _).1 (by omega) (by omega) (by omega) (hq _) (hq _) (by omega) (by omega) (by omega) (by omega)) hDf0.1.2.1 (by decide) (by decide) (by first | decide | omega) (by first | decide | omega) (Nat.le_of_ble_eq_true rfl) (fun σ4 hq => ?_) (fun _ _ hx => hx.elim)
  obtain ⟨hDf4, k4⟩ := hq
  have emg : wvA (vtx (sV S) v) (vtx (sV S) w) (vtx (sV S) (bsN (sV S) v w : Nat)) = mgW S v w := rfl
  rw [emg] at hDf4
  have ks4 : Keep σ3 σ4 (SpP lo (x + 118 + 128 * (1 - sw)) (ds 41)) := k4.mono (fun q _ h => by
    rcases h with h | h | h
    · exact Or.inl (by omega)
    · exact Or.inl (by omega)
    · exact Or.inr h)
  obtain ⟨p1, p2, p3, p4, p5, p6, p7, p8, p9, p10, p11⟩ := hW.spr hlo ks4
  have f94 := p1.2.2.2.2.2.2.2.2.2.2.2.2.1
  have f84 := p1.2.2.2.2.2.2.2.2.2.2.2.1
  have hX4 := hDf4.2.2.2.2.1
  have hl4 := hX4.2.2.2.2.2.2.2.2.2.1
  refine b_Dw_merge_65 ⟨p1.2.1, _, f94, hDf4.1.2.1, _, hDf4.1.2.2.1, ?_⟩
  refine c_Dw_merge_72 (k_Txt_size hX4) hX4.2.1 (by decide) (by decide) (by first | decide | omega) (by first | decide | omega) (Nat.le_of_ble_eq_true rfl) (fun z σ4 hq => ?_) (fun _ _ hx => hx.elim)
  obtain ⟨rfl, rfl⟩ := hq
  refine b_Dw_merge_75 ⟨by omega, fun c6 => ⟨p1.2.1, _, f94, ?_⟩, fun c6 => ?_⟩
  · have hlen : (mgW S v w).1.length ≤ 20 := by omega
    refine c_Dw_merge_97 (k_Drf_signFor (x := au) (y := v) (z := w) hDf4.1 ha hv hw) hDf4.1.2.1 (by decide) (by decide) (by first | decide | omega) (by first | decide | omega) (Nat.le_of_ble_eq_true rfl) (fun σ5 hq => ?_) (fun _ _ hx => hx.elim)
    obtain hq := hq
    have e5 := hq
    have k45 : Keep σ4 σ5 (At1 (x + 118 + 128 * (1 - sw))) := by rw [e5]; exact kuI1.trans (kuI1.trans kuI1)
    have hDf5 : DfV Ω σ5 lo (x + 118 + 128 * (1 - sw)) (x + 374 + 8 * v.toNat + 1) (x + 374 + 8 * w.toNat + 1) (x + 374 + 8 * (((bsN (sV S) v w : Nat) : Int)).toNat + 1) (ds 41) (mgW S v w).1 (mgW S v w).2 (mgW S v w).2.length [] := by rw [e5]; exact hDf4.sgn (by omega)
    have h35 : fI σ5 203 (x + 118 + 128 * (1 - sw)) = au ∧ fI σ5 204 (x + 118 + 128 * (1 - sw)) = v ∧ fI σ5 205 (x + 118 + 128 * (1 - sw)) = w := by rw [e5]; exact sgn_3
    have hR5 : fR σ5 = fR σ4 := by rw [e5]; rfl
    have hH5 := p1.keep k45 (fun q q1 q2 q3 => by omega)
    have hF5 := p2.keep k45 (by have := p1.1; omega) (by omega)
    have f95 := hH5.2.2.2.2.2.2.2.2.2.2.2.2.1
    have f85 := hH5.2.2.2.2.2.2.2.2.2.2.2.1
    refine b_Dw_merge_100 ⟨hH5.2.1, _, f85, _, f95, x + 118 + 128 * (1 - sw), by rw [fR_uR, if_neg (by omega), fR_uR, if_pos ⟨rfl, rfl⟩], ?_⟩
    generalize hσ : uI (uR (uR σ5 8 x (some (x + 118 + 128 * (1 - sw)))) 9 x (some (x + 118 + 128 * sw))) 10 x 1 = σ6
    have k56 : Keep σ5 σ6 (At1 x) := by rw [← hσ]; exact (kuR1.trans kuR1).trans kuI1
    have k46 : Keep σ4 σ6 (fun q => q = x + 118 + 128 * (1 - sw) ∨ q = x) := (k45.mono (fun q _ h => Or.inl h)).trans (k56.mono (fun q _ h => Or.inr h))
    have hDf6 := hDf5.keep k56 (fun q q1 q2 q3 => by omega) (fun q1 q2 => by omega)
    refine c_Dw_merge_129 (k_Drf_unsettled hDf6.1 hDf6.2.2.2.1) hDf6.1.2.1 (by decide) (by decide) (by first | decide | omega) (by first | decide | omega) (Nat.le_of_ble_eq_true rfl) (fun z σ6 hq => ?_) (fun _ _ hx => hx.elim)
    obtain ⟨rfl, rfl⟩ := hq
    have e1 : 1 - (1 - sw) = sw := by omega
    have hH6 : DwH σ6 x (1 - sw) := by
      obtain ⟨h0, h1, h2, f0, f1, f2, f3, f4, f5, f6, f7, f8, f9, ⟨k1, z1, r1⟩, ⟨k2, z2, r2⟩, ⟨k3, z3, r3⟩, ⟨k4, z4⟩⟩ := hH5
      have g : ∀ f, f ≠ 8 → f ≠ 9 → fR σ6 f x = fR σ5 f x := fun f h8 h9 => by
        rw [← hσ, fR_uI, fR_uR, if_neg (by omega), fR_uR, if_neg (by omega)]
      rw [← hσ]
      refine ⟨h0, h1, by omega, ?_, ?_, ?_, ?_, ?_, ?_, ?_, ?_, ?_, ?_, ⟨k1, z1, r1⟩, ⟨k2, z2, r2⟩, ⟨k3, z3, r3⟩, ⟨k4, z4⟩⟩
      · rw [hσ, g _ (by omega) (by omega)]; exact f0
      · rw [hσ, g _ (by omega) (by omega)]; exact f1
      · rw [hσ, g _ (by omega) (by omega)]; exact f2
      · rw [hσ, g _ (by omega) (by omega)]; exact f3
      · rw [hσ, g _ (by omega) (by omega)]; exact f4
      · rw [hσ, g _ (by omega) (by omega)]; exact f5
      · rw [hσ, g _ (by omega) (by omega)]; exact f6
      · rw [hσ, g _ (by omega) (by omega)]; exact f7
      · rw [fR_uI, fR_uR, if_neg (by omega), fR_uR, if_pos ⟨rfl, rfl⟩]
      · rw [fR_uI, fR_uR, if_pos ⟨rfl, rfl⟩, e1]
    have hF6 : DwF σ6 x 1 (b01 (sC S).isSome) (sV S).length (sP S).length (sR S).length (sW S).length (sM S) := by
      rw [← hσ]
      exact DwF.s10 (σ := uR (uR σ5 8 x (some (x + 118 + 128 * (1 - sw)))) 9 x (some (x + 118 + 128 * sw))) hF5
    have h36 : fI σ6 203 (x + 118 + 128 * (1 - sw)) = au ∧ fI σ6 204 (x + 118 + 128 * (1 - sw)) = v ∧ fI σ6 205 (x + 118 + 128 * (1 - sw)) = w := by
      have ea := k56.2 (x + 118 + 128 * (1 - sw)) (by have := hDf5.1.1; omega) (by omega)
      exact ⟨(ea.2.2.1 _).trans h35.1, (ea.2.2.1 _).trans h35.2.1, (ea.2.2.1 _).trans h35.2.2⟩
    have eo : (mgW S v w).2.length = opn (mgW S v w).2 := (wvA_opn _ _ _).symm
    have ew : w ≠ -1 := by omega
    have hds : ∀ i, up1 (up1 ds 40 (ds 41)) 41 (ds 40) i = ds (if i = 40 then 41 else if i = 41 then 40 else i) := fun i => by
      rw [up1g, up1g]
      by_cases q1 : i = 41
      · rw [if_pos q1, if_neg (show ¬ i = 40 by omega), if_pos q1]
      · rw [if_neg q1]
        by_cases q2 : i = 40
        · rw [if_pos q2, if_pos q2]
        · rw [if_neg q2, if_neg q2, if_neg q1]
    have hW6 : DwW Ω σ6 lo x (o_merge S v w au).2.2 (1 - sw) (up1 (up1 ds 40 (ds 41)) 41 (ds 40)) (up1 (up1 el 40 []) 41 (el 40)) := by
      refine ⟨hH6, hF6, fun v hv => ?_, ?_, ?_, p5.keep k46 (fun q q1 q2 q3 => by omega), p6.keep k46 (fun q q1 q2 q3 => by omega) (fun q q1 _ q3 => by omega), p7.keep k46 (by have := p1.1; omega) (by omega), p8.keep k46 (fun q q1 q2 q3 => by omega), p9.keep k46 (fun q q1 q2 q3 => by omega), p10.keep k46 (fun q q1 q2 q3 => by omega), p11.keep k46 (fun q q1 q2 q3 => by omega), ?_⟩
      · rw [up1g, if_neg (by omega), up1g, if_neg (by omega), up1g, if_neg (by omega), up1g, if_neg (by omega)]
        exact p3.keep k46 (fun q q1 q2 q3 => by omega) (fun q q1 _ q3 => by omega) (fun v _ q1 q3 => by omega) v hv
      · rw [up1g, if_neg (by omega), up1g, if_pos rfl, up1g, if_neg (by omega), up1g, if_pos rfl]
        refine MnV.mk' (r' := ((mgW S v w).1, (mgW S v w).2, [], au, v, w, bsN (sV S) v w)) (f := x + 374 + 8 * v.toNat + 1) (s := x + 374 + 8 * w.toNat + 1) (b := x + 374 + 8 * (((bsN (sV S) v w : Nat) : Int)).toNat + 1) ?_ ⟨rfl, fun i e E h1 _ => by simp at h1⟩ h36 ⟨?_, fun z => absurd z ew, fun _ => ⟨?_, ?_⟩⟩
        · rw [eo] at hDf6; exact hDf6
        · show x + 374 + 8 * v.toNat + 1 = x + 375 + 8 * v.toNat; omega
        · show x + 374 + 8 * w.toNat + 1 = x + 375 + 8 * w.toNat; omega
        · show x + 374 + 8 * (((bsN (sV S) v w : Nat) : Int)).toNat + 1 = x + 375 + 8 * bsN (sV S) v w; omega
      · rw [up1g, if_pos rfl, up1g, if_pos rfl, e1]
        obtain ⟨f', s', b', T', cl', oc', m1, -⟩ := p4
        exact ⟨f', s', b', T', cl', oc', m1.keep k46 (fun q q1 q2 q3 => by omega) (fun q1 q2 => by omega), fun r h => by cases h⟩
      · intro i j hi hj q1 q2
        rw [hds] at q1 q2
        rw [hds] at q2
        exact pi_inj (hDs _ _ (pi_lt hi) (pi_lt hj) q1 q2)
    have k36 : Keep σ3 σ6 (DwP lo x) := (ks4.mono (fun q _ h => by
      rcases h with h | h
      · exact Or.inl (by omega)
      · exact Or.inr h.2)).trans (k46.mono (fun q _ h => Or.inl (by omega)))
    exact r_Dw_merge_132 ⟨_, rfl, c3_t hr c4 hlen, rfl, ⟨⟨hlo, Nat.le_trans hls k36.1, hoE⟩, 1 - sw, _, _, hW6⟩, k36⟩ (by decide) (by decide)
  · have hW4 : DwW Ω σ4 lo x S sw ds (up1 el 41 []) := by
      refine ⟨p1, p2, fun v hv => ?_, ?_, ?_, p5, p6, p7, p8, p9, p10, p11, hDs⟩
      · rw [up1g, if_neg (by omega)]; exact p3 v hv
      · rw [up1g, if_neg (by omega)]; exact p4
      · rw [up1g, if_pos rfl]; exact ⟨_, _, _, _, _, _, hDf4, fun r h => by cases h⟩
    have hDV4 : DwV Ω σ4 lo x S := ⟨⟨hlo, Nat.le_trans hls k4.1, hoE⟩, sw, _, _, hW4⟩
    refine t_Dw_merge_80 (by decide) (by decide) (by first | decide | omega) (by first | decide | omega) (fun n' h2 => ?_)
    have hX := XO.of (c' := (o_merge S v w au).1) hDV4 ⟨rfl, (show ¬ ((mgW S v w).1.length ≤ 20) by omega), Keep.nX h2⟩ (fun z => c3_3 hr c4 z) (by decide : (3 : Nat) ≠ 0)
    exact ⟨hX.1, hX.2.1, hX.2.2.1, (ks4.mono (fun q _ h => by
      rcases h with h | h
      · exact Or.inl (by omega)
      · exact Or.inr h.2)).trans hX.2.2.2⟩
end MRG
