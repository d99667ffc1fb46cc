/-! BY HAND: the class's calls that change notes, reviews, patches, what was compared, 2 -/
def lnG (R : List RR') (q : Int) : Nat := R.countP (fun r => decide (r.2.1 = q ∧ r.2.2.1 = 0))
def ldR (S : St) (q : Int) : List RR' := (sR S).set q.toNat ((rvO S q).1, (rvO S q).2.1, 1, (rvO S q).2.2.2)
def o_land (S : St) (q : Int) : Rs := (c2 (isR S q) (rvS (rvO S q) = 1 ∧ ((rvO S q).2.1 = -1 ∨ rvS (rvO S (rvO S q).2.1) = 2)) 1 3, lnG (ldR S q) q, setR S (ldR S q))
def setN (S : St) (N : List Int) : St := (sV S, sD S, sC S, sP S, N, sR S, sB S, sM S)
def setP (S : St) (P : List (List Hun)) : St := (sV S, sD S, sC S, P, sW S, sR S, sB S, sM S)
def setC (S : St) (C : Option CR) : St := (sV S, sD S, C, sP S, sW S, sR S, sB S, sM S)
def o_note (S : St) (v p : Int) : Rs := (c2 (isLi S v p) ((sW S).length < 20) 1 3, (sW S).length, setN S (sW S ++ [nmA (vtx (sV S) v) p]))
/-- the pairs of two texts -/
def prT (T U : List (Int64 × Int)) : (Nat → Int) × Nat := prW (XL 0 T) (XL 0 U)
/-- which refusal: three of them -/
def c3 (p q r : Prop) [Decidable p] [Decidable q] [Decidable r] (a b c : Nat) : Nat := if p then (if q then (if r then 0 else c) else b) else a
theorem c3_t {p q r : Prop} [Decidable p] [Decidable q] [Decidable r] {a b c : Nat} (h : p) (g : q) (i : r) : c3 p q r a b c = 0 := by rw [c3, if_pos h, if_pos g, if_pos i]
theorem c3_1 {p q r : Prop} [Decidable p] [Decidable q] [Decidable r] {a b c : Nat} (h : ¬ p) : c3 p q r a b c = a := by rw [c3, if_neg h]
theorem c3_2 {p q r : Prop} [Decidable p] [Decidable q] [Decidable r] {a b c : Nat} (h : p) (g : ¬ q) : c3 p q r a b c = b := by rw [c3, if_pos h, if_neg g]
theorem c3_3 {p q r : Prop} [Decidable p] [Decidable q] [Decidable r] {a b c : Nat} (h : p) (g : q) (i : ¬ r) : c3 p q r a b c = c := by rw [c3, if_pos h, if_pos g, if_neg i]
def o_patch (S : St) (v w c : Int) : Rs := (c3 (isV S v ∧ isV S w) (0 ≤ c ∧ c ≤ 3) ((sP S).length < 10) 1 2 3, (sP S).length, setP S (sP S ++ [flH (vtx (sV S) v) (vtx (sV S) w) (prT (vtx (sV S) v) (vtx (sV S) w)).1 c.toNat]))
def o_turn (S : St) (p : Int) : Rs := (c2 (0 ≤ p ∧ p < (sP S).length) ((sP S).length < 10) 1 3, (sP S).length, setP S (sP S ++ [(phk S p).map turnH]))
def cpr (S : St) (v w lb : Int) : CR := (XL lb (vtx (sV S) v), XL lb (vtx (sV S) w), (prW (XL lb (vtx (sV S) v)) (XL lb (vtx (sV S) w))).1, mvF (XL lb (vtx (sV S) v)) (XL lb (vtx (sV S) w)) (prW (XL lb (vtx (sV S) v)) (XL lb (vtx (sV S) w))).1 20 (fun _ => -1), (prW (XL lb (vtx (sV S) v)) (XL lb (vtx (sV S) w))).2)
def o_compare (S : St) (v w lb : Int) : Rs := (c1 (isV S v ∧ isV S w), (cpr S v w lb).2.2.2.2, setC S (some (cpr S v w lb)))
section CHG
variable {Ω : Om} {σ : Sto} {lo x : Nat} {S : St} {v w p q g : Int}
theorem K_land (hDV : DwV Ω σ lo x S) (hCn : Cnt S) (hon : ∀ r ∈ sR S, r.2.1 = -1 ∨ isR S r.2.1) (hq : Q32 q) : MC Ω M_Dw_land rm_Dw_land (OI Ω lo x (o_land S q) σ) (XO Ω lo x S (o_land S q).1 σ) σ [xr (some x), xi q] := by
  obtain ⟨⟨hlo, hls, hoE⟩, sw, ds, el, hW⟩ := id hDV
  obtain ⟨hH, hF, hVs, hMn, hSp, hCm, hPa, hNo, hRe, hBk, hPr, hTm, hDs⟩ := id hW
  obtain ⟨hc1, hc2, hc3, hc4, hc5, hc6, hc7⟩ := id hCn
  refine e_Dw_land (b_Dw_land_0 ?_)
  refine c_Dw_land_2 (k_Dw_reviewAt hH hF (by omega) hq) hH.2.1 (by decide) (by decide) (by first | decide | omega) (by first | decide | omega) (Nat.le_of_ble_eq_true rfl) (fun r σ1 hq => ?_) (fun E σx hx => Ax.out rfl (XO.of hDV hx (fun hc => c2_1 hc) (by decide)) (by decide) (by decide))
  obtain ⟨rfl, hr, rfl⟩ := hq
  have gR := hRe q.toNat (by omega)
  have hrm : rvO S q ∈ sR S := by
    unfold rvO; rw [List.getD_eq_getElem?_getD, List.getElem?_eq_getElem (by omega)]; exact List.getElem_mem _
  have hono := hon _ hrm
  have hx0 := hH.1
  have f2 := hH.2.2.2.2.2.1
  obtain ⟨k3, z3, r3⟩ := hH.2.2.2.2.2.2.2.2.2.2.2.2.2.2.2.1
  refine b_Dw_land_5 ?_
  refine c_Dw_land_7 (k_Rev_state gR) gR.2.1 (by decide) (by decide) (by first | decide | omega) (by first | decide | omega) (Nat.le_of_ble_eq_true rfl) (fun r σ2 hq => ?_) (fun _ _ hx => hx.elim)
  obtain ⟨rfl, rfl⟩ := hq
  have e514 : fI σ2 514 (x + 714 + 2 * q.toNat) = (rvO S q).2.1 := gR.2.2.2.2.2.2.1
  -- the loop over all reviews
  generalize hσ : uI σ2 515 (x + 714 + 2 * q.toNat) 1 = σ3
  have k3' : Keep σ2 σ3 (In (x + 714 + 2 * q.toNat) (x + 714 + 2 * q.toNat + 2)) := by rw [← hσ]; exact Keep.uI (by omega)
  have g3 : Rv σ3 (x + 714 + 2 * q.toNat) (rvO S q).2.2.2 (rvO S q).1 (rvO S q).2.1 1 := by
    rw [← hσ]
    obtain ⟨w1, w2, w3, w4, w5, w6, w7, w8, w9⟩ := gR
    refine ⟨w1, w2, w3, w4, w5, ?_, ?_, ?_, w9⟩
    · rw [fI_uI, if_neg (by omega)]; exact w6
    · rw [fI_uI, if_neg (by omega)]; exact w7
    · rw [fI_uI, if_pos ⟨rfl, rfl⟩]
  have hG := getD_set (sR S) q.toNat ((rvO S q).1, (rvO S q).2.1, 1, (rvO S q).2.2.2) rev0 (by omega)
  have kx := k3'.mono (Q := fun q' => In (x + 714 + 2 * q.toNat) (x + 714 + 2 * q.toNat + 2) q' ∨ q' = x) (fun q' _ h => Or.inl h)
  have ll : (ldR S q).length = (sR S).length := List.length_set
  have hW3 := hW.rev (R := ldR S q) hlo kx (by omega) (hH.keep k3' (fun q' q1 q2 q3 => by omega)) (by rw [ll]; exact hF.keep k3' (by omega) (by omega)) hG.2 hG.1 g3
  have hDV3 : DwV Ω σ3 lo x (setR S (ldR S q)) := ⟨⟨hlo, Nat.le_trans hls k3'.1, hoE⟩, sw, ds, el, hW3⟩
  obtain ⟨hH3, hF3, hVs3, hMn3, hSp3, hCm3, hPa3, hNo3, hRe3, -⟩ := hW3
  have e14 : fI σ3 14 x = (sR S).length := by have := hF3.2.2.2.2.1; rw [this]; show ((ldR S q).length : Int) = _; rw [ll]
  have f2' := hH3.2.2.2.2.2.1
  obtain ⟨k3b, z3b, r3b⟩ := hH3.2.2.2.2.2.2.2.2.2.2.2.2.2.2.2.1
  have loop : isR S q → rvS (rvO S q) = 1 → ((rvO S q).2.1 = -1 ∨ rvS (rvO S (rvO S q).2.1) = 2) → ∀ (d i : Nat) {k n : Nat}, k ≤ 3 → n ≤ 24 → i + d = (sR S).length → Aw Ω M_Dw_land rm_Dw_land (MF Ω rm_Dw_land (OI Ω lo x (o_land S q) σ2) (XO Ω lo x S (o_land S q).1 σ2)) k n 69 [xr (some x), xi q, xr (some (x + 714 + 2 * q.toNat)), xi (lnG ((ldR S q).take i) q), xi i] [] σ3 := by
    intro h1 h2 h4 d
    induction d with
    | zero =>
      intro i k n hk hn hd
      refine b_Dw_land_69 ⟨hH3.2.1, fun _ => ⟨by omega, fun _ => ?_, fun c => absurd (by omega) c⟩⟩
      refine r_Dw_land_115 ⟨_, rfl, c2_t h1 ⟨h2, h4⟩, ?_, hDV3, k3'.mono (fun q' _ h => Or.inl (by omega))⟩ (show k ≤ 4 by omega) (show n ≤ 32 by omega)
      rw [List.take_of_length_le (by omega)]; rfl
    | succ d ih =>
      intro i k n hk hn hd
      have gi := hRe3 i (by omega)
      have ei : (ldR S q)[i]? = some ((ldR S q).getD i rev0) := by rw [List.getD_eq_getElem?_getD, List.getElem?_eq_getElem (by omega)]; rfl
      have et : (ldR S q).take (i + 1) = (ldR S q).take i ++ [(ldR S q).getD i rev0] := by rw [List.take_add_one, ei]; rfl
      have ec : lnG ((ldR S q).take (i + 1)) q = lnG ((ldR S q).take i) q + if ((ldR S q).getD i rev0).2.1 = q ∧ ((ldR S q).getD i rev0).2.2.1 = 0 then 1 else 0 := by
        unfold lnG; rw [et, List.countP_append, List.countP_singleton]; simp only [decide_eq_true_eq]
      have e1 : fI σ3 514 (x + 714 + 2 * i) = ((ldR S q).getD i rev0).2.1 := gi.2.2.2.2.2.2.1
      have e2 : fI σ3 515 (x + 714 + 2 * i) = ((ldR S q).getD i rev0).2.2.1 := gi.2.2.2.2.2.2.2.1
      have next : ∀ m : Int, m = lnG ((ldR S q).take (i + 1)) q → Aw Ω M_Dw_land rm_Dw_land (MF Ω rm_Dw_land (OI Ω lo x (o_land S q) σ2) (XO Ω lo x S (o_land S q).1 σ2)) k n 69 [xr (some x), xi q, xr (some (x + 714 + 2 * q.toNat)), xi m, xi ((i : Int) + 1)] [] σ3 := fun m hm => by
        rw [hm]; exact ih (i + 1) hk hn (by omega)
      have ri : aR σ3 (x + 3) ((i : Int)).toNat = some (x + 714 + 2 * i) := r3b i (by omega)
      refine b_Dw_land_69 ⟨hH3.2.1, fun _ => ⟨by omega, fun c => absurd c (by omega), fun _ => ⟨_, f2', k3b, by omega, by omega, _, ri, gi.2.1, ?_⟩⟩⟩
      rw [e1]
      refine fun _ => ⟨hq, fun c => next _ ?_, fun c => ⟨_, ri, gi.2.1, ?_⟩⟩
      · rw [ec, if_neg (fun z => c z.1)]; rfl
      · rw [e2]
        refine fun _ => ⟨fun c5 => next _ ?_, fun c5 => next _ ?_⟩
        · rw [ec, if_neg (fun z => c5 z.2)]; rfl
        · rw [ec, if_pos ⟨c, c5⟩]; rfl
  refine b_Dw_land_10 ?_
  rw [e514, hσ]
  have hst : stR ((sR S).getD q.toNat rev0).2.2.2 ((sR S).getD q.toNat rev0).2.2.1 = rvS (rvO S q) := rfl
  rw [hst]
  have q1 : Q32 (rvS (rvO S q)) := by unfold rvS stR; split <;> (try split) <;> (try split) <;> decide
  refine ⟨q1, fun c => ⟨gR.2.1, fun q2 => ⟨fun c5 => loop hr c (Or.inl c5) (sR S).length 0 (by decide) (by decide) (Nat.zero_add _), fun c5 => fun _ => ?_⟩⟩, fun c => t_Dw_land_14 (by decide) (by decide) (by first | decide | omega) (by first | decide | omega) (fun n' h2 => XO.of hDV ⟨rfl, c, Keep.nX h2⟩ (fun z => c2_2 hr (fun y => z y.1)) (by decide))⟩
  have hr2 := hono.resolve_left c5
  refine c_Dw_land_38 (k_Dw_reviewAt hH hF (by omega) q2) hH.2.1 (by decide) (by decide) (by first | decide | omega) (by first | decide | omega) (Nat.le_of_ble_eq_true rfl) (fun r σ4 hq => ?_) (fun E σx hx => Ax.out rfl (XO.of hDV hx (fun hc => absurd hr2 hc) (by decide)) (by decide) (by decide))
  obtain ⟨rfl, hr5, rfl⟩ := hq
  have gO := hRe (rvO S q).2.1.toNat (by omega)
  refine c_Dw_land_41 (k_Rev_state gO) gO.2.1 (by decide) (by decide) (by first | decide | omega) (by first | decide | omega) (Nat.le_of_ble_eq_true rfl) (fun r σ5 hq => ?_) (fun _ _ hx => hx.elim)
  obtain ⟨rfl, rfl⟩ := hq
  refine b_Dw_land_44 ?_
  rw [hσ]
  have hst2 : stR ((sR S).getD (rvO S q).2.1.toNat rev0).2.2.2 ((sR S).getD (rvO S q).2.1.toNat rev0).2.2.1 = rvS (rvO S (rvO S q).2.1) := rfl
  rw [hst2]
  have q3 : Q32 (rvS (rvO S (rvO S q).2.1)) := by unfold rvS stR; split <;> (try split) <;> (try split) <;> decide
  exact ⟨q3, fun c6 => ⟨gR.2.1, loop hr c (Or.inr c6) (sR S).length 0 (by decide) (by decide) (Nat.zero_add _)⟩, fun c6 => t_Dw_land_48 (by decide) (by decide) (by first | decide | omega) (by first | decide | omega) (fun n' h2 => XO.of hDV ⟨rfl, c6, Keep.nX h2⟩ (fun z => c2_2 hr (fun y => y.2.elim c5 z)) (by decide))⟩
theorem K_note (hDV : DwV Ω σ lo x S) (hCn : Cnt S) (hv : Q32 v) (hp : Q32 p) : MC Ω M_Dw_note rm_Dw_note (OI Ω lo x (o_note S v p) σ) (XO Ω lo x S (o_note S v p).1 σ) σ [xr (some x), xi v, xi p] := by
  obtain ⟨⟨hlo, hls, hoE⟩, sw, ds, el, hW⟩ := id hDV
  obtain ⟨hH, hF, hVs, hMn, hSp, hCm, hPa, hNo, hRe, hBk, hPr, hTm, hDs⟩ := id hW
  obtain ⟨hc1, hc2, hc3, hc4, hc5, hc6, hc7⟩ := id hCn
  refine e_Dw_note (b_Dw_note_0 ?_)
  refine c_Dw_note_2 (k_Dw_versionAt hH hF (by omega) hv) hH.2.1 (by decide) (by decide) (by first | decide | omega) (by first | decide | omega) (Nat.le_of_ble_eq_true rfl) (fun r σ1 hq => ?_) (fun E σx hx => Ax.out rfl (XO.of hDV hx (fun hc => c2_1 (fun z => hc z.1)) (by decide)) (by decide) (by decide))
  obtain ⟨rfl, hr, rfl⟩ := hq
  obtain ⟨hs, hn, hx⟩ := hVs.at hr hc2
  have hl := hx.2.2.2.2.2.2.2.2.2.1
  have hx0 := hH.1
  refine b_Dw_note_5 ⟨hs.2.1, _, hs.2.2.1, ?_⟩
  refine c_Dw_note_12 (k_Txt_size hx) hx.2.1 (by decide) (by decide) (by first | decide | omega) (by first | decide | omega) (Nat.le_of_ble_eq_true rfl) (fun r σ1 hq => ?_) (fun _ _ hx => hx.elim)
  obtain ⟨rfl, rfl⟩ := hq
  refine c_Dw_note_15 (k_Dw_checkPlace hp (by omega)) hH.2.1 (by decide) (by decide) (by first | decide | omega) (by first | decide | omega) (Nat.le_of_ble_eq_true rfl) (fun σ2 hq => ?_) (fun E σx hx => Ax.out rfl (XO.of hDV hx (fun hc => c2_1 (fun z => hc z.2)) (by decide)) (by decide) (by decide))
  obtain ⟨rfl, hr2⟩ := hq
  have e15 := hF.2.2.2.2.2.1
  have f3 := hH.2.2.2.2.2.2.1
  have k4 := hH.2.2.2.2.2.2.2.2.2.2.2.2.2.2.2.2
  refine b_Dw_note_18 ?_
  rw [e15]
  refine ⟨hH.2.1, fun _ => ⟨fun c => ⟨_, f3, fun _ => ?_⟩, fun c => t_Dw_note_27 (by decide) (by decide) (by first | decide | omega) (by first | decide | omega) (fun n' h2 => XO.of hDV ⟨rfl, c, Keep.nX h2⟩ (fun z => c2_2 ⟨hr, hr2⟩ (fun y => z (by omega))) (by decide))⟩⟩
  refine c_Dw_note_48 (k_Txt_nameAt hx hp) hx.2.1 (by decide) (by decide) (by first | decide | omega) (by first | decide | omega) (Nat.le_of_ble_eq_true rfl) (fun r σ3 hq => ?_) (fun _ _ hx => hx.elim)
  obtain ⟨rfl, rfl, hq⟩ := hq
  refine b_Dw_note_51 ?_
  rw [e15, show fI (uI σ3 15 x (((sW S).length : Int) + 1)) 15 x = ((sW S).length : Int) + 1 from by rw [fI_uI, if_pos ⟨rfl, rfl⟩], show (((sW S).length : Nat) : Int).toNat = (sW S).length from rfl]
  refine ⟨k4.1, by omega, by omega, hq, hH.2.1, fun _ => ⟨by omega, fun _ => ?_⟩⟩
  generalize hσ : uI (vI σ3 (x + 4) (sW S).length (nmA (vtx (sV S) v) p)) 15 x (((sW S).length : Int) + 1) = σ4
  have kk : Keep σ3 σ4 (fun q' => In (x + 4) (x + 5) q' ∨ q' = x) := by rw [← hσ]; exact (Keep.vI (Or.inl (by omega))).trans (Keep.uI (Or.inr rfl))
  have hs1 := hH.2.2.1
  obtain ⟨b3, b4, b5, b6, b7, -, b9, b10, b11, b12, b13⟩ := hW.bux kk (by omega) (by omega) hlo
  have hF4 : DwF σ4 x (b01 (sD S).isSome) (b01 (sC S).isSome) (sV S).length (sP S).length (sR S).length (sW S ++ [nmA (vtx (sV S) v) p]).length (sM S) := by
    have := DwF.s15 (w := ((sW S).length : Int) + 1) (show DwF (vI σ3 (x + 4) (sW S).length (nmA (vtx (sV S) v) p)) x _ _ _ _ _ _ _ from hF)
    rw [hσ] at this
    rw [List.length_append]; simp only [List.length_cons, List.length_nil]
    exact this
  have hN4 : NoV σ4 x (sW S ++ [nmA (vtx (sV S) v) p]) := fun i y hy => by
    rw [← hσ, aI_uI, aI_vI]
    rcases snoc_get hy with ⟨h1, h2⟩ | ⟨h1, h2⟩
    · rw [if_neg (by omega)]; exact hNo i y h2
    · rw [if_pos ⟨rfl, h1⟩, h2]
  have hH4 : DwH σ4 x sw := by rw [← hσ]; exact hH
  exact r_Dw_note_68 ⟨_, rfl, c2_t ⟨hr, hr2⟩ (by omega), by show _ = ((sW S).length : Int); omega, ⟨⟨hlo, Nat.le_trans hls kk.1, hoE⟩, sw, ds, el, hH4, hF4, b3 (by omega), b4 (by omega), b5 (by omega), b6 (by omega), b7 (by omega), hN4, b9 (by omega), b10 (by omega), b11 (by omega), b12 (by omega), b13⟩, kk.mono (fun q' _ h => Or.inl (by omega))⟩ (by decide) (by decide)
theorem K_compare {lb : Int} (hDV : DwV Ω σ lo x S) (hCn : Cnt S) (h20 : ∀ v, (vtx (sV S) v).length ≤ 20) (hv : Q32 v) (hw : Q32 w) (hlb : Q32 lb) : MC Ω M_Dw_compare rm_Dw_compare (OI Ω lo x (o_compare S v w lb) σ) (XO Ω lo x S (o_compare S v w lb).1 σ) σ [xr (some x), xi v, xi w, xi lb] := by
  obtain ⟨⟨hlo, hls, hoE⟩, sw, ds, el, hW⟩ := id hDV
  obtain ⟨hH, hF, hVs, hMn, hSp, hCm, hPa, hNo, hRe, hBk, hPr, hTm, hDs⟩ := id hW
  obtain ⟨hc1, hc2, hc3, hc4, hc5, hc6, hc7⟩ := id hCn
  have hx0 := hH.1
  have f5 := hH.2.2.2.2.2.2.2.2.1
  have hs1 := hH.2.2.1
  refine e_Dw_compare (b_Dw_compare_0 ?_)
  refine c_Dw_compare_2 (k_Dw_versionAt hH hF (by omega) hv) hH.2.1 (by decide) (by decide) (by first | decide | omega) (by first | decide | omega) (Nat.le_of_ble_eq_true rfl) (fun r σ1 hq => ?_) (fun E σx hx => Ax.out rfl (XO.of hDV hx (fun hc => c1_f (fun z => hc z.1)) (by decide)) (by decide) (by decide))
  obtain ⟨rfl, hr, rfl⟩ := hq
  obtain ⟨hs, hn, hx⟩ := hVs.at hr hc2
  refine b_Dw_compare_5 ⟨hs.2.1, _, hs.2.2.1, ?_⟩
  refine c_Dw_compare_12 (k_Dw_versionAt hH hF (by omega) hw) hH.2.1 (by decide) (by decide) (by first | decide | omega) (by first | decide | omega) (Nat.le_of_ble_eq_true rfl) (fun r σ2 hq => ?_) (fun E σx hx => Ax.out rfl (XO.of hDV hx (fun hc => c1_f (fun z => hc z.2)) (by decide)) (by decide) (by decide))
  obtain ⟨rfl, hr2, rfl⟩ := hq
  obtain ⟨is, in_, ix⟩ := hVs.at hr2 hc2
  refine b_Dw_compare_15 ⟨is.2.1, _, is.2.2.1, hH.2.1, _, f5, ?_⟩
  refine c_Dw_compare_29 (k_Cmp_pairUp hCm.1 hx ix (h20 v) (h20 w) (by omega) (by omega) hlb) hCm.1.2.1 (by decide) (by decide) (by first | decide | omega) (by first | decide | omega) (Nat.le_of_ble_eq_true rfl) (fun σ3 hq => ?_) (fun _ _ hx => hx.elim)
  obtain ⟨hW3, hP3, hk3⟩ := hq
  have hH3 := hH.keep hk3 (fun q' q1 q2 q3 => by omega)
  have l1 := XL_len lb (vtx (sV S) v)
  have l2 := XL_len lb (vtx (sV S) w)
  have hP3' : CpP σ3 (x + 8) (XL lb (vtx (sV S) v)).length (XL lb (vtx (sV S) w)).length (prW (XL lb (vtx (sV S) v)) (XL lb (vtx (sV S) w))).1 (fun _ => -1) (prW (XL lb (vtx (sV S) v)) (XL lb (vtx (sV S) w))).2 := by rw [l1, l2]; exact hP3
  refine b_Dw_compare_32 ⟨hH3.2.1, _, hH3.2.2.2.2.2.2.2.2.1, ?_⟩
  refine c_Dw_compare_36 (k_Cmp_findMoves hW3 hP3') hW3.1.2.1 (by decide) (by decide) (by first | decide | omega) (by first | decide | omega) (Nat.le_of_ble_eq_true rfl) (fun σ4 hq => ?_) (fun _ _ hx => hx.elim)
  obtain ⟨hW4, hP4, hk4⟩ := hq
  have k24 := hk3.trans hk4
  have hH4 := hH.keep k24 (fun q' q1 q2 q3 => by omega)
  have hF4 := hF.keep k24 (by omega) (by omega)
  refine b_Dw_compare_39 ⟨hH4.2.1, _, hH4.2.2.2.2.2.2.2.2.1, ?_⟩
  have k5 : Keep σ4 (uI σ4 11 x 1) (At1 x) := kuI1
  obtain ⟨gW5, gP5⟩ := cpkeep hW4 hP4 k5 (fun q' q1 q2 q3 => by omega)
  refine c_Dw_compare_48 (k_Cmp_pairCount gW5.1 gP5) gW5.1.2.1 (by decide) (by decide) (by first | decide | omega) (by first | decide | omega) (Nat.le_of_ble_eq_true rfl) (fun r σ5 hq => ?_) (fun _ _ hx => hx.elim)
  obtain ⟨rfl, rfl⟩ := hq
  have kk := (k24.mono (Q := fun q' => In (x + 8) (x + 36) q' ∨ q' = x) (fun q' _ h => Or.inl h)).trans (k5.mono (fun q' _ h => Or.inr h))
  obtain ⟨b3, b4, b5, -, b7, b8, b9, b10, b11, b12, b13⟩ := hW.bux kk (by omega) (by omega) hlo
  refine r_Dw_compare_51 ⟨_, rfl, c1_t ⟨hr, hr2⟩, rfl, ⟨⟨hlo, Nat.le_trans hls kk.1, hoE⟩, sw, ds, el, hH4, hF4.s11, b3 (by omega), b4 (by omega), b5 (by omega), ⟨gW5.1, fun X Y A M n hc => ?_⟩, b7 (by omega), b8 (by omega), b9 (by omega), b10 (by omega), b11 (by omega), b12 (by omega), b13⟩, kk.mono (fun q' _ h => Or.inl (by omega))⟩ (by decide) (by decide)
  have := Option.some.inj hc
  unfold cpr at this
  obtain ⟨rfl, rfl, rfl, rfl, rfl⟩ := (by simpa using this : _ ∧ _ ∧ _ ∧ _ ∧ _)
  exact ⟨gW5, gP5⟩
end CHG
