/-! BY HAND: answers, refusals, the checks of the class -/
abbrev Rs := Nat × Int × St
def exN (c : Nat) : String := if c = 1 then "java/lang/IndexOutOfBoundsException" else if c = 2 then "java/lang/IllegalArgumentException" else "java/lang/IllegalStateException"
/-- a check's refusal -/
abbrev XC (σ : Sto) (c : Nat) (cond : Prop) : String → Sto → Prop := fun E σ' => E = exN c ∧ cond ∧ Keep σ σ' No
abbrev XO (Ω : Om) (lo x : Nat) (S : St) (c : Nat) (σ : Sto) : String → Sto → Prop := fun E σ' => c ≠ 0 ∧ E = exN c ∧ DwV Ω σ' lo x S ∧ Keep σ σ' (DwP lo x)
abbrev OI (Ω : Om) (lo x : Nat) (r : Rs) (σ : Sto) : Option PV → Sto → Prop := RI fun y σ' => r.1 = 0 ∧ y = r.2.1 ∧ DwV Ω σ' lo x r.2.2 ∧ Keep σ σ' (DwP lo x)
abbrev OV (Ω : Om) (lo x : Nat) (r : Rs) (σ : Sto) : Option PV → Sto → Prop := RV fun σ' => r.1 = 0 ∧ DwV Ω σ' lo x r.2.2 ∧ Keep σ σ' (DwP lo x)
theorem XO.of {Ω : Om} {σ σ' : Sto} {lo x c c' : Nat} {S : St} {cond : Prop} {E : String} (hD : DwV Ω σ lo x S) (hx : XC σ c cond E σ') (hc : cond → c' = c) (h0 : c ≠ 0) : XO Ω lo x S c' σ E σ' := by
  obtain ⟨rfl, h1, h2⟩ := hx
  rw [hc h1]
  exact ⟨h0, rfl, hD.keep h2 (fun _ _ h => h), h2.mono (fun _ _ h => h.elim)⟩
abbrev isV (S : St) (v : Int) : Prop := 0 ≤ v ∧ v < (sV S).length
abbrev isP (w : Int) : Prop := 0 ≤ w ∧ w < 6
def dszD (D : Option DR) : Int := match D with | some r => (drT r).length | none => -1
abbrev dsz (S : St) : Int := dszD (sD S)
theorem dsz_some {S : St} {r : DR} (h : sD S = some r) : dsz S = (drT r).length := by unfold dsz; rw [h]; rfl
theorem dsz_none {S : St} (h : sD S = none) : dsz S = -1 := by unfold dsz; rw [h]; rfl
section CHK
variable {Ω : Om} {σ : Sto} {lo x sw : Nat} {hd ic nv np nr nn em p b : Int} {S : St}
theorem k_Dw_checkPlace (hp : Q32 p) (hb : Q32 b) : MC Ω M_Dw_checkPlace rm_Dw_checkPlace (RV fun σ' => σ' = σ ∧ 0 ≤ p ∧ p < b) (XC σ 1 (¬ (0 ≤ p ∧ p < b))) σ [xr (some x), xi p, xi b] := by
  have th : ∀ {L}, ¬ (0 ≤ p ∧ p < b) → Aw Ω M_Dw_checkPlace rm_Dw_checkPlace (MF Ω rm_Dw_checkPlace (RV fun σ' => σ' = σ ∧ 0 ≤ p ∧ p < b) (XC σ 1 (¬ (0 ≤ p ∧ p < b)))) 0 0 9 L [] σ := fun h => t_Dw_checkPlace_9 (by decide) (by decide) (by decide) (by decide) (fun n' h2 => ⟨rfl, h, Keep.nX h2⟩)
  exact e_Dw_checkPlace (b_Dw_checkPlace_0 ⟨hp, fun c => th (by omega), fun c => ⟨hb, fun c2 => r_Dw_checkPlace_20 ⟨rfl, rfl, by omega, c2⟩ (by decide) (by decide), fun c2 => th (by omega)⟩⟩)
theorem k_Dw_checkPerson (hp : Q32 p) : MC Ω M_Dw_checkPerson rm_Dw_checkPerson (RV fun σ' => σ' = σ ∧ isP p) (XC σ 1 (¬ isP p)) σ [xr (some x), xi p] := by
  have th : ∀ {L}, ¬ isP p → Aw Ω M_Dw_checkPerson rm_Dw_checkPerson (MF Ω rm_Dw_checkPerson (RV fun σ' => σ' = σ ∧ isP p) (XC σ 1 (¬ isP p))) 0 0 10 L [] σ := fun h => t_Dw_checkPerson_10 (by decide) (by decide) (by decide) (by decide) (fun n' h2 => ⟨rfl, h, Keep.nX h2⟩)
  exact e_Dw_checkPerson (b_Dw_checkPerson_0 ⟨hp, fun c => th (fun z => by have := z.1; omega), fun c => ⟨fun c2 => r_Dw_checkPerson_21 ⟨rfl, rfl, by omega, c2⟩ (by decide) (by decide), fun c2 => th (fun z => c2 z.2)⟩⟩)
theorem k_Dw_checkLine {l : Int64} : MC Ω M_Dw_checkLine rm_Dw_checkLine (RV fun σ' => σ' = σ ∧ isLn l = true) (XC σ 2 (¬ isLn l = true)) σ [xr (some x), xl l] := by
  refine e_Dw_checkLine (b_Dw_checkLine_0 ?_)
  refine c_Dw_checkLine_1 (k_Lbk_isLine) (by decide) (by decide) (by first | decide | omega) (by first | decide | omega) (Nat.le_of_ble_eq_true rfl) (fun z σ1 hq => ?_) (fun _ _ hx => hx.elim)
  obtain ⟨rfl, rfl⟩ := hq
  by_cases h : isLn l = true
  · rw [if_pos h]
    exact b_Dw_checkLine_4 ⟨by decide, fun _ => r_Dw_checkLine_18 ⟨rfl, rfl, h⟩ (by decide) (by decide), fun c => absurd c (by decide)⟩
  · rw [if_neg h]
    exact b_Dw_checkLine_4 ⟨by decide, fun c => absurd rfl c, fun _ => t_Dw_checkLine_7 (by decide) (by decide) (by decide) (by decide) (fun n' h2 => ⟨rfl, h, Keep.nX h2⟩)⟩
theorem k_Dw_checkUses (hH : DwH σ x sw) (hF : DwF σ x hd ic nv np nr nn em) (he : em < 512) : MC Ω M_Dw_checkUses rm_Dw_checkUses (RV fun σ' => σ' = σ) XN σ [xr (some x)] :=
  e_Dw_checkUses (b_Dw_checkUses_0 ⟨hH.2.1, fun _ => ⟨fun _ => r_Dw_checkUses_21 ⟨rfl, rfl⟩ (by decide) (by decide), fun c => absurd (show fI σ 16 x < 512 by rw [hF.2.2.2.2.2.2]; exact he) c⟩⟩)
theorem k_Dw_checkPatchRoom (hH : DwH σ x sw) (hF : DwF σ x hd ic nv np nr nn em) : MC Ω M_Dw_checkPatchRoom rm_Dw_checkPatchRoom (RV fun σ' => σ' = σ ∧ np < 10) (XC σ 3 (¬ np < 10)) σ [xr (some x)] := by
  have e := hF.2.2.2.1
  refine e_Dw_checkPatchRoom (b_Dw_checkPatchRoom_0 ⟨hH.2.1, fun _ => ⟨fun c => ?_, fun c => ?_⟩⟩)
  · rw [e] at c; exact r_Dw_checkPatchRoom_20 ⟨rfl, rfl, c⟩ (by decide) (by decide)
  · rw [e] at c; exact t_Dw_checkPatchRoom_9 (by decide) (by decide) (by decide) (by decide) (fun n' h2 => ⟨rfl, c, Keep.nX h2⟩)
theorem k_Dw_checkNotLanded {q : Nat} {V : Nat → Int} {ver on ld : Int} (hR : Rv σ q V ver on ld) : MC Ω M_Dw_checkNotLanded rm_Dw_checkNotLanded (RV fun σ' => σ' = σ ∧ ld = 0) (XC σ 3 (¬ ld = 0)) σ [xr (some x), xr (some q)] := by
  have e := hR.2.2.2.2.2.2.2.1
  refine e_Dw_checkNotLanded (b_Dw_checkNotLanded_0 ⟨hR.2.1, fun _ => ⟨fun c => ?_, fun c => ?_⟩⟩)
  · rw [e] at c; exact r_Dw_checkNotLanded_18 ⟨rfl, rfl, c⟩ (by decide) (by decide)
  · rw [e] at c; exact t_Dw_checkNotLanded_7 (by decide) (by decide) (by decide) (by decide) (fun n' h2 => ⟨rfl, c, Keep.nX h2⟩)
theorem k_Dw_versionAt (hH : DwH σ x sw) (hF : DwF σ x hd ic nv np nr nn em) (hn : nv ≤ 40) (hp : Q32 p) : MC Ω M_Dw_versionAt rm_Dw_versionAt (RR fun r σ' => σ' = σ ∧ (0 ≤ p ∧ p < nv) ∧ r = some (x + 374 + 8 * p.toNat)) (XC σ 1 (¬ (0 ≤ p ∧ p < nv))) σ [xr (some x), xi p] := by
  obtain ⟨h0, h1, hs, f0, f1, f2, f3, f4, f5, f6, f7, f8, f9, ⟨k1, z1, r1⟩, -⟩ := hH
  have e := hF.2.2.1
  have th : ∀ {L}, ¬ (0 ≤ p ∧ p < nv) → Aw Ω M_Dw_versionAt rm_Dw_versionAt (MF Ω rm_Dw_versionAt (RR fun r σ' => σ' = σ ∧ (0 ≤ p ∧ p < nv) ∧ r = some (x + 374 + 8 * p.toNat)) (XC σ 1 (¬ (0 ≤ p ∧ p < nv)))) 0 0 12 L [] σ := fun h => t_Dw_versionAt_12 (by decide) (by decide) (by decide) (by decide) (fun n' h2 => ⟨rfl, h, Keep.nX h2⟩)
  refine e_Dw_versionAt (b_Dw_versionAt_0 ⟨hp, fun c => th (by omega), fun c => ⟨h1, fun _ => ⟨fun c2 => ⟨_, f0, k1, by omega, by omega, ?_⟩, fun c2 => th (by omega)⟩⟩⟩)
  exact r_Dw_versionAt_29 ⟨_, rfl, rfl, by omega, r1 _ (by omega)⟩ (by decide) (by decide)
theorem k_Dw_patchAt (hH : DwH σ x sw) (hF : DwF σ x hd ic nv np nr nn em) (hn : np ≤ 10) (hp : Q32 p) : MC Ω M_Dw_patchAt rm_Dw_patchAt (RR fun r σ' => σ' = σ ∧ (0 ≤ p ∧ p < np) ∧ r = some (x + 694 + 2 * p.toNat)) (XC σ 1 (¬ (0 ≤ p ∧ p < np))) σ [xr (some x), xi p] := by
  obtain ⟨h0, h1, hs, f0, f1, f2, f3, f4, f5, f6, f7, f8, f9, -, ⟨k1, z1, r1⟩, -⟩ := hH
  have e := hF.2.2.2.1
  have th : ∀ {L}, ¬ (0 ≤ p ∧ p < np) → Aw Ω M_Dw_patchAt rm_Dw_patchAt (MF Ω rm_Dw_patchAt (RR fun r σ' => σ' = σ ∧ (0 ≤ p ∧ p < np) ∧ r = some (x + 694 + 2 * p.toNat)) (XC σ 1 (¬ (0 ≤ p ∧ p < np)))) 0 0 12 L [] σ := fun h => t_Dw_patchAt_12 (by decide) (by decide) (by decide) (by decide) (fun n' h2 => ⟨rfl, h, Keep.nX h2⟩)
  refine e_Dw_patchAt (b_Dw_patchAt_0 ⟨hp, fun c => th (by omega), fun c => ⟨h1, fun _ => ⟨fun c2 => ⟨_, f1, k1, by omega, by omega, ?_⟩, fun c2 => th (by omega)⟩⟩⟩)
  exact r_Dw_patchAt_29 ⟨_, rfl, rfl, by omega, r1 _ (by omega)⟩ (by decide) (by decide)
theorem k_Dw_reviewAt (hH : DwH σ x sw) (hF : DwF σ x hd ic nv np nr nn em) (hn : nr ≤ 20) (hp : Q32 p) : MC Ω M_Dw_reviewAt rm_Dw_reviewAt (RR fun r σ' => σ' = σ ∧ (0 ≤ p ∧ p < nr) ∧ r = some (x + 714 + 2 * p.toNat)) (XC σ 1 (¬ (0 ≤ p ∧ p < nr))) σ [xr (some x), xi p] := by
  obtain ⟨h0, h1, hs, f0, f1, f2, f3, f4, f5, f6, f7, f8, f9, -, -, ⟨k1, z1, r1⟩, -⟩ := hH
  have e := hF.2.2.2.2.1
  have th : ∀ {L}, ¬ (0 ≤ p ∧ p < nr) → Aw Ω M_Dw_reviewAt rm_Dw_reviewAt (MF Ω rm_Dw_reviewAt (RR fun r σ' => σ' = σ ∧ (0 ≤ p ∧ p < nr) ∧ r = some (x + 714 + 2 * p.toNat)) (XC σ 1 (¬ (0 ≤ p ∧ p < nr)))) 0 0 12 L [] σ := fun h => t_Dw_reviewAt_12 (by decide) (by decide) (by decide) (by decide) (fun n' h2 => ⟨rfl, h, Keep.nX h2⟩)
  refine e_Dw_reviewAt (b_Dw_reviewAt_0 ⟨hp, fun c => th (by omega), fun c => ⟨h1, fun _ => ⟨fun c2 => ⟨_, f2, k1, by omega, by omega, ?_⟩, fun c2 => th (by omega)⟩⟩⟩)
  exact r_Dw_reviewAt_29 ⟨_, rfl, rfl, by omega, r1 _ (by omega)⟩ (by decide) (by decide)
/-- what is known of the draft -/
theorem k_Dw_draftSize {a d : Nat} {es : List Nat} {D : Option DR} (hH : DwH σ x sw) (hF : DwF σ x (b01 D.isSome) ic nv np nr nn em) (hM : MnV Ω σ lo x (x + 118 + 128 * sw) d es D) : MC Ω M_Dw_draftSize rm_Dw_draftSize (RI fun r σ' => σ' = σ ∧ r = dszD D) XN σ [xr (some x)] := by
  obtain ⟨f, s, b, T, cl, oc, h1, h2⟩ := hM
  have hS := h1.1
  have hX := h1.2.2.2.2.1
  have f8 := hH.2.2.2.2.2.2.2.2.2.2.2.1
  cases D with
  | none => exact e_Dw_draftSize (b_Dw_draftSize_0 ⟨hH.2.1, fun _ => ⟨fun _ => r_Dw_draftSize_21 ⟨_, rfl, rfl, rfl⟩ (by decide) (by decide), fun c => absurd hF.1 c⟩⟩)
  | some r =>
    refine e_Dw_draftSize (b_Dw_draftSize_0 ⟨hH.2.1, fun _ => ⟨fun c => absurd (hF.1.symm.trans c) (show ¬ ((1 : Int) = 0) by decide), fun _ => ⟨_, f8, hS.2.1, _, hS.2.2.1, ?_⟩⟩⟩)
    refine c_Dw_draftSize_14 (k_Txt_size hX) hX.2.1 (by decide) (by decide) (by first | decide | omega) (by first | decide | omega) (Nat.le_of_ble_eq_true rfl) (fun z σ1 hq => ?_) (fun _ _ hx => hx.elim)
    obtain ⟨rfl, rfl⟩ := hq
    refine b_Dw_draftSize_17 (r_Dw_draftSize_21 ⟨_, rfl, rfl, ?_⟩ (by decide) (by decide))
    rw [(h2 r rfl).1]; rfl
/-- no draft, or a conflict that is open -/
abbrev whole (D : Option DR) : Prop := ∃ r, D = some r ∧ opn (drC r) = 0
theorem k_Dw_checkWhole {d : Nat} {es : List Nat} {D : Option DR} (hH : DwH σ x sw) (hF : DwF σ x (b01 D.isSome) ic nv np nr nn em) (hM : MnV Ω σ lo x (x + 118 + 128 * sw) d es D) : MC Ω M_Dw_checkWhole rm_Dw_checkWhole (RV fun σ' => σ' = σ ∧ whole D) (XC σ 3 (¬ whole D)) σ [xr (some x)] := by
  obtain ⟨f, s, b, T, cl, oc, h1, h2⟩ := hM
  have hS := h1.1
  have f8 := hH.2.2.2.2.2.2.2.2.2.2.2.1
  cases D with
  | none =>
    have hw : ¬ whole none := fun z => by obtain ⟨r, z1, _⟩ := z; cases z1
    exact e_Dw_checkWhole (b_Dw_checkWhole_0 ⟨hH.2.1, fun _ => ⟨fun c => absurd hF.1 c, fun _ => t_Dw_checkWhole_7 (by decide) (by decide) (by decide) (by decide) (fun n' h2 => ⟨rfl, hw, Keep.nX h2⟩)⟩⟩)
  | some r =>
    obtain ⟨g1, g2, g3, -⟩ := h2 r rfl
    refine e_Dw_checkWhole (b_Dw_checkWhole_0 ⟨hH.2.1, fun _ => ⟨fun _ => ⟨_, f8, ?_⟩, fun c => absurd (hF.1.symm.trans c) (show ¬ ((1 : Int) = 0) by decide)⟩⟩)
    refine c_Dw_checkWhole_22 (k_Drf_unsettled hS h1.2.2.2.1) hS.2.1 (by decide) (by decide) (by first | decide | omega) (by first | decide | omega) (Nat.le_of_ble_eq_true rfl) (fun z σ1 hq => ?_) (fun _ _ hx => hx.elim)
    obtain ⟨rfl, rfl⟩ := hq
    rw [g3]
    have hb : (opn (drC r) : Int) ≤ 21 := by
      have q1 : opn (drC r) ≤ (drC r).length := List.countP_le_length
      have q2 := h1.2.2.1.2.1
      rw [g2] at q2
      omega
    refine b_Dw_checkWhole_25 ⟨by omega, fun c => ?_, fun c => ?_⟩
    · exact r_Dw_checkWhole_39 ⟨rfl, rfl, r, rfl, by omega⟩ (by decide) (by decide)
    · exact t_Dw_checkWhole_28 (by decide) (by decide) (by decide) (by decide) (fun n' h2 => ⟨rfl, fun z => by obtain ⟨r', z1, z2⟩ := z; cases z1; omega, Keep.nX h2⟩)
theorem k_Dw_checkEditable {d : Nat} {es : List Nat} {D : Option DR} (hH : DwH σ x sw) (hF : DwF σ x (b01 D.isSome) ic nv np nr nn em) (hM : MnV Ω σ lo x (x + 118 + 128 * sw) d es D) (he : em < 512) : MC Ω M_Dw_checkEditable rm_Dw_checkEditable (RV fun σ' => σ' = σ ∧ whole D) (XC σ 3 (¬ whole D)) σ [xr (some x)] := by
  refine e_Dw_checkEditable (b_Dw_checkEditable_0 ?_)
  refine c_Dw_checkEditable_1 (k_Dw_checkWhole hH hF hM) hH.2.1 (by decide) (by decide) (by decide) (by decide) (Nat.le_of_ble_eq_true rfl) (fun σ1 hq => ?_) (fun E σx hx => Ax.out rfl hx (by decide) (by decide))
  obtain ⟨rfl, hw⟩ := hq
  refine b_Dw_checkEditable_4 ?_
  refine c_Dw_checkEditable_5 (k_Dw_checkUses hH hF he) hH.2.1 (by decide) (by decide) (by first | decide | omega) (by first | decide | omega) (Nat.le_of_ble_eq_true rfl) (fun σ2 hq => ?_) (fun _ _ hx => hx.elim)
  obtain rfl := hq
  exact r_Dw_checkEditable_8 ⟨rfl, rfl, hw⟩ (by decide) (by decide)
/-- which conflict there is -/
abbrev isC (D : Option DR) (c : Int) : Prop := ∃ r, D = some r ∧ 0 ≤ c ∧ c < (drC r).length
theorem k_Dw_checkConflict {d : Nat} {es : List Nat} {D : Option DR} (hH : DwH σ x sw) (hF : DwF σ x (b01 D.isSome) ic nv np nr nn em) (hM : MnV Ω σ lo x (x + 118 + 128 * sw) d es D) (hp : Q32 p) : MC Ω M_Dw_checkConflict rm_Dw_checkConflict (RV fun σ' => σ' = σ ∧ isC D p) (XC σ 1 (¬ isC D p)) σ [xr (some x), xi p] := by
  obtain ⟨f, s, b, T, cl, oc, h1, h2⟩ := hM
  have hS := h1.1
  have f8 := hH.2.2.2.2.2.2.2.2.2.2.2.1
  have th : ∀ {L} {k n : Nat}, k + 1 ≤ rm_Dw_checkConflict.cells → n + 6 ≤ rm_Dw_checkConflict.slots → ¬ isC D p → Aw Ω M_Dw_checkConflict rm_Dw_checkConflict (MF Ω rm_Dw_checkConflict (RV fun σ' => σ' = σ ∧ isC D p) (XC σ 1 (¬ isC D p))) k n 22 L [] σ := fun q1 q2 h => t_Dw_checkConflict_22 (by decide) (by decide) q1 q2 (fun n' h2 => ⟨rfl, h, Keep.nX h2⟩)
  cases D with
  | none => exact e_Dw_checkConflict (b_Dw_checkConflict_0 ⟨hH.2.1, fun _ => ⟨fun _ => th (by decide) (by decide) (fun z => by obtain ⟨r, z1, _⟩ := z; cases z1), fun c => absurd hF.1 c⟩⟩)
  | some r =>
    obtain ⟨g1, g2, g3, -⟩ := h2 r rfl
    refine e_Dw_checkConflict (b_Dw_checkConflict_0 ⟨hH.2.1, fun _ => ⟨fun c => absurd (hF.1.symm.trans c) (show ¬ ((1 : Int) = 0) by decide), fun _ => ⟨hp, fun c => th (by decide) (by decide) (fun z => by obtain ⟨r', z1, z2, z3⟩ := z; omega), fun c => ⟨_, f8, ?_⟩⟩⟩⟩)
    refine c_Dw_checkConflict_16 (k_Drf_conflictCount hS h1.2.2.1) hS.2.1 (by decide) (by decide) (by first | decide | omega) (by first | decide | omega) (Nat.le_of_ble_eq_true rfl) (fun z σ1 hq => ?_) (fun _ _ hx => hx.elim)
    obtain ⟨rfl, rfl⟩ := hq
    have q2 := h1.2.2.1.2.1
    rw [g2] at q2 ⊢
    refine b_Dw_checkConflict_19 ⟨hp, by omega, fun c2 => ?_, fun c2 => ?_⟩
    · exact r_Dw_checkConflict_33 ⟨rfl, rfl, r, rfl, by omega, c2⟩ (by decide) (by decide)
    · exact th (by decide) (by decide) (fun z => by obtain ⟨r', z1, z2, z3⟩ := z; cases z1; omega)
end CHK
