/-! BY HAND: the class's calls that change notes, reviews, patches, what was compared -/
section BUX
variable {Ω : Om} {σ σ' : Sto} {lo x sw u w : Nat} {S : St} {ds : Nat → Nat} {el : Nat → List Nat}
/-- what stays when one place and counters are changed -/
theorem DwW.bux (h : DwW Ω σ lo x S sw ds el) (k : Keep σ σ' (fun q => In u w q ∨ q = x)) (hu : x + 4 ≤ u) (hw : w ≤ x + 754) (hlo : x + 753 < lo) :
    (w ≤ x + 374 ∨ x + 694 ≤ u → VsV Ω σ' lo x (sV S) ds el) ∧ (w ≤ x + 118 + 128 * sw ∨ x + 118 + 128 * sw + 128 ≤ u → MnV Ω σ' lo x (x + 118 + 128 * sw) (ds 40) (el 40) (sD S)) ∧ (w ≤ x + 118 + 128 * (1 - sw) ∨ x + 118 + 128 * (1 - sw) + 128 ≤ u → MnV Ω σ' lo x (x + 118 + 128 * (1 - sw)) (ds 41) (el 41) none) ∧ (w ≤ x + 8 ∨ x + 36 ≤ u → CmV σ' x (sC S)) ∧ (w ≤ x + 694 ∨ x + 714 ≤ u → PaV σ' lo x (sP S)) ∧ (x + 5 ≤ u → NoV σ' x (sW S)) ∧ (w ≤ x + 714 → ReV σ' x (sR S)) ∧ (w ≤ x + 5 ∨ x + 8 ≤ u → Bk σ' (x + 5) (bkN (sB S)) (bkA (sB S)) (bkO (sB S))) ∧ (w ≤ x + 36 ∨ x + 64 ≤ u → CpS σ' (x + 36)) ∧ (w ≤ x + 64 ∨ x + 118 ≤ u → TmS σ' (x + 64)) ∧ Dst lo ds := by
  obtain ⟨h1, h2, h3, h4, h5, h6, h7, h8, h9, h10, h11, h12, h13⟩ := h
  have h0 := h1.1
  exact ⟨fun z => h3.keep k (fun q q1 q2 q3 => by omega) (fun q q1 _ q3 => by omega) (fun v _ q1 q3 => by omega), fun z => h4.keep k (fun q q1 q2 q3 => by omega) (fun q q1 _ q3 => by omega) (fun q1 q3 => by omega), fun z => h5.keep k (fun q q1 q2 q3 => by omega) (fun q q1 _ q3 => by omega) (fun q1 q3 => by omega), fun z => h6.keep k (fun q q1 q2 q3 => by omega), fun z => h7.keep k (fun q q1 q2 q3 => by omega) (fun q q1 _ q3 => by omega), fun z => h8.keep k (by omega) (by omega), fun z => h9.keep k (fun q q1 q2 q3 => by omega), fun z => h10.keep k (fun q q1 q2 q3 => by omega), fun z => h11.keep k (fun q q1 q2 q3 => by omega), fun z => h12.keep k (fun q q1 q2 q3 => by omega), h13⟩
end BUX
/-- a list's view with one element changed, or one more -/
theorem ReV.upd {σ σ' : Sto} {x n : Nat} {R R' : List RR'} {r : RR'} (h : ReV σ x R) (k : Keep σ σ' (fun q => In (x + 714 + 2 * n) (x + 714 + 2 * n + 2) q ∨ q = x)) (hn : n < 20) (hR : ∀ i, i ≠ n → R'.getD i rev0 = R.getD i rev0) (hr : R'.getD n rev0 = r) (g : Rv σ' (x + 714 + 2 * n) r.2.2.2 r.1 r.2.1 r.2.2.1) : ReV σ' x R' := by
  intro i hi
  by_cases e : i = n
  · rw [e, hr]; exact g
  · rw [hR i e]; exact (h i hi).keep k (fun q q1 q2 q3 => by omega)
theorem getD_set {α : Type} (R : List α) (n : Nat) (r d : α) (hn : n < R.length) : (R.set n r).getD n d = r ∧ ∀ i, i ≠ n → (R.set n r).getD i d = R.getD i d := by
  refine ⟨by rw [List.getD_eq_getElem?_getD, List.getElem?_set, if_pos rfl, if_pos hn]; rfl, fun i hi => ?_⟩
  rw [List.getD_eq_getElem?_getD, List.getElem?_set, if_neg (fun z => hi z.symm), List.getD_eq_getElem?_getD]
theorem getD_app {α : Type} (R : List α) (r d : α) : (R ++ [r]).getD R.length d = r ∧ ∀ i, i ≠ R.length → (R ++ [r]).getD i d = R.getD i d := by
  refine ⟨by rw [List.getD_eq_getElem?_getD, List.getElem?_append_right (Nat.le_refl _), Nat.sub_self]; rfl, fun i hi => ?_⟩
  rw [List.getD_eq_getElem?_getD, List.getD_eq_getElem?_getD, List.getElem?_append]
  split
  · rfl
  · rw [List.getElem?_eq_none (by simp; omega), List.getElem?_eq_none (by omega)]
theorem getD_len {α : Type} (R : List α) (d : α) : R.getD R.length d = d := by rw [List.getD_eq_getElem?_getD, List.getElem?_eq_none (Nat.le_refl _)]; rfl
theorem DwF.s10 {σ : Sto} {x : Nat} {hd ic nv np nr nn em w : Int} (h : DwF σ x hd ic nv np nr nn em) : DwF (uI σ 10 x w) x w ic nv np nr nn em := by
  obtain ⟨h1, h2, h3, h4, h5, h6, h7⟩ := h
  refine ⟨?_, ?_, ?_, ?_, ?_, ?_, ?_⟩
  · rw [fI_uI, if_pos ⟨rfl, rfl⟩]
  · rw [fI_uI, if_neg (by omega)]; exact h2
  · rw [fI_uI, if_neg (by omega)]; exact h3
  · rw [fI_uI, if_neg (by omega)]; exact h4
  · rw [fI_uI, if_neg (by omega)]; exact h5
  · rw [fI_uI, if_neg (by omega)]; exact h6
  · rw [fI_uI, if_neg (by omega)]; exact h7
theorem DwF.s11 {σ : Sto} {x : Nat} {hd ic nv np nr nn em w : Int} (h : DwF σ x hd ic nv np nr nn em) : DwF (uI σ 11 x w) x hd w nv np nr nn em := by
  obtain ⟨h1, h2, h3, h4, h5, h6, h7⟩ := h
  refine ⟨?_, ?_, ?_, ?_, ?_, ?_, ?_⟩
  · rw [fI_uI, if_neg (by omega)]; exact h1
  · rw [fI_uI, if_pos ⟨rfl, rfl⟩]
  · rw [fI_uI, if_neg (by omega)]; exact h3
  · rw [fI_uI, if_neg (by omega)]; exact h4
  · rw [fI_uI, if_neg (by omega)]; exact h5
  · rw [fI_uI, if_neg (by omega)]; exact h6
  · rw [fI_uI, if_neg (by omega)]; exact h7
theorem DwF.s12 {σ : Sto} {x : Nat} {hd ic nv np nr nn em w : Int} (h : DwF σ x hd ic nv np nr nn em) : DwF (uI σ 12 x w) x hd ic w np nr nn em := by
  obtain ⟨h1, h2, h3, h4, h5, h6, h7⟩ := h
  refine ⟨?_, ?_, ?_, ?_, ?_, ?_, ?_⟩
  · rw [fI_uI, if_neg (by omega)]; exact h1
  · rw [fI_uI, if_neg (by omega)]; exact h2
  · rw [fI_uI, if_pos ⟨rfl, rfl⟩]
  · rw [fI_uI, if_neg (by omega)]; exact h4
  · rw [fI_uI, if_neg (by omega)]; exact h5
  · rw [fI_uI, if_neg (by omega)]; exact h6
  · rw [fI_uI, if_neg (by omega)]; exact h7
theorem DwF.s13 {σ : Sto} {x : Nat} {hd ic nv np nr nn em w : Int} (h : DwF σ x hd ic nv np nr nn em) : DwF (uI σ 13 x w) x hd ic nv w nr nn em := by
  obtain ⟨h1, h2, h3, h4, h5, h6, h7⟩ := h
  refine ⟨?_, ?_, ?_, ?_, ?_, ?_, ?_⟩
  · rw [fI_uI, if_neg (by omega)]; exact h1
  · rw [fI_uI, if_neg (by omega)]; exact h2
  · rw [fI_uI, if_neg (by omega)]; exact h3
  · rw [fI_uI, if_pos ⟨rfl, rfl⟩]
  · rw [fI_uI, if_neg (by omega)]; exact h5
  · rw [fI_uI, if_neg (by omega)]; exact h6
  · rw [fI_uI, if_neg (by omega)]; exact h7
theorem DwF.s14 {σ : Sto} {x : Nat} {hd ic nv np nr nn em w : Int} (h : DwF σ x hd ic nv np nr nn em) : DwF (uI σ 14 x w) x hd ic nv np w nn em := by
  obtain ⟨h1, h2, h3, h4, h5, h6, h7⟩ := h
  refine ⟨?_, ?_, ?_, ?_, ?_, ?_, ?_⟩
  · rw [fI_uI, if_neg (by omega)]; exact h1
  · rw [fI_uI, if_neg (by omega)]; exact h2
  · rw [fI_uI, if_neg (by omega)]; exact h3
  · rw [fI_uI, if_neg (by omega)]; exact h4
  · rw [fI_uI, if_pos ⟨rfl, rfl⟩]
  · rw [fI_uI, if_neg (by omega)]; exact h6
  · rw [fI_uI, if_neg (by omega)]; exact h7
theorem DwF.s15 {σ : Sto} {x : Nat} {hd ic nv np nr nn em w : Int} (h : DwF σ x hd ic nv np nr nn em) : DwF (uI σ 15 x w) x hd ic nv np nr w em := by
  obtain ⟨h1, h2, h3, h4, h5, h6, h7⟩ := h
  refine ⟨?_, ?_, ?_, ?_, ?_, ?_, ?_⟩
  · rw [fI_uI, if_neg (by omega)]; exact h1
  · rw [fI_uI, if_neg (by omega)]; exact h2
  · rw [fI_uI, if_neg (by omega)]; exact h3
  · rw [fI_uI, if_neg (by omega)]; exact h4
  · rw [fI_uI, if_neg (by omega)]; exact h5
  · rw [fI_uI, if_pos ⟨rfl, rfl⟩]
  · rw [fI_uI, if_neg (by omega)]; exact h7
theorem DwF.s16 {σ : Sto} {x : Nat} {hd ic nv np nr nn em w : Int} (h : DwF σ x hd ic nv np nr nn em) : DwF (uI σ 16 x w) x hd ic nv np nr nn w := by
  obtain ⟨h1, h2, h3, h4, h5, h6, h7⟩ := h
  refine ⟨?_, ?_, ?_, ?_, ?_, ?_, ?_⟩
  · rw [fI_uI, if_neg (by omega)]; exact h1
  · rw [fI_uI, if_neg (by omega)]; exact h2
  · rw [fI_uI, if_neg (by omega)]; exact h3
  · rw [fI_uI, if_neg (by omega)]; exact h4
  · rw [fI_uI, if_neg (by omega)]; exact h5
  · rw [fI_uI, if_neg (by omega)]; exact h6
  · rw [fI_uI, if_pos ⟨rfl, rfl⟩]
def rvS (r : RR') : Int := stR r.2.2.2 r.2.2.1
abbrev isR (S : St) (q : Int) : Prop := 0 ≤ q ∧ q < (sR S).length
def rvO (S : St) (q : Int) : RR' := (sR S).getD q.toNat rev0
def setR (S : St) (R : List RR') : St := (sV S, sD S, sC S, sP S, sW S, R, sB S, sM S)
def o_review (S : St) (v w : Int) : Rs := (c2 (isV S v ∧ v ≠ 0 ∧ (w = -1 ∨ isR S w)) ((sR S).length < 20) 1 3, (sR S).length, setR S (sR S ++ [(v, w, 0, fun _ => 0)]))
def o_verdict (S : St) (q p g : Int) : Rs := (c2 (isR S q ∧ isP p) ((rvO S q).2.2.1 = 0 ∧ vrA (vrO (sV S) (rvO S q).1.toNat) ≠ p) 1 3, stR (up1 (rvO S q).2.2.2 p.toNat (if g = 0 then 2 else 1)) (rvO S q).2.2.1, setR S ((sR S).set q.toNat ((rvO S q).1, (rvO S q).2.1, (rvO S q).2.2.1, up1 (rvO S q).2.2.2 p.toNat (if g = 0 then 2 else 1))))
/-- above, by the bits -/
abbrev abv (S : St) (v w : Int) : Prop := (lUsh (vrW (vrO (sV S) v.toNat)) w &&& 1) ≠ 0
section REV
variable {Ω : Om} {σ : Sto} {lo x : Nat} {S : St} {v w p q g : Int}
theorem DwW.rev {σ' : Sto} {sw n : Nat} {ds : Nat → Nat} {el : Nat → List Nat} {R : List RR'} {r : RR'} (hW : DwW Ω σ lo x S sw ds el) (hlo : x + 753 < lo) (k : Keep σ σ' (fun q => In (x + 714 + 2 * n) (x + 714 + 2 * n + 2) q ∨ q = x)) (hn : n < 20) (hH : DwH σ' x sw) (hF : DwF σ' x (b01 (sD S).isSome) (b01 (sC S).isSome) (sV S).length (sP S).length R.length (sW S).length (sM S)) (hR : ∀ i, i ≠ n → R.getD i rev0 = (sR S).getD i rev0) (hr : R.getD n rev0 = r) (g : Rv σ' (x + 714 + 2 * n) r.2.2.2 r.1 r.2.1 r.2.2.1) : DwW Ω σ' lo x (setR S R) sw ds el := by
  have hs := hW.1.2.2.1
  obtain ⟨b3, b4, b5, b6, b7, b8, -, b10, b11, b12, b13⟩ := hW.bux k (by omega) (by omega) hlo
  exact ⟨hH, hF, b3 (by omega), b4 (by omega), b5 (by omega), b6 (by omega), b7 (by omega), b8 (by omega), hW.2.2.2.2.2.2.2.2.1.upd k hn hR hr g, b10 (by omega), b11 (by omega), b12 (by omega), b13⟩
theorem K_review (hDV : DwV Ω σ lo x S) (hCn : Cnt S) (hv : Q32 v) (hw : Q32 w) : MC Ω M_Dw_review rm_Dw_review (OI Ω lo x (o_review S v w) σ) (XO Ω lo x S (o_review S v w).1 σ) σ [xr (some x), xi v, xi w] := by
  obtain ⟨⟨hlo, hls, hoE⟩, sw, ds, el, hW⟩ := id hDV
  obtain ⟨hH, hF, hVs, hMn, hSp, hCm, hPa, hNo, hRe, hBk, hPr, hTm, hDs⟩ := id hW
  obtain ⟨hc1, hc2, hc3, hc4, hc5, hc6, hc7⟩ := id hCn
  have e14 := hF.2.2.2.2.1
  have f2 := hH.2.2.2.2.2.1
  obtain ⟨k3, z3, r3⟩ := hH.2.2.2.2.2.2.2.2.2.2.2.2.2.2.2.1
  have hrl : (sR S).length < 20 → aR σ (x + 3) (sR S).length = some (x + 714 + 2 * (sR S).length) := fun h => r3 _ h
  have fin : (isV S v ∧ v ≠ 0 ∧ (w = -1 ∨ isR S w)) → (sR S).length < 20 → ∀ {k n : Nat}, k ≤ 4 → n ≤ 30 → Aw Ω M_Dw_review rm_Dw_review (MF Ω rm_Dw_review (OI Ω lo x (o_review S v w) σ) (XO Ω lo x S (o_review S v w).1 σ)) k n 63 [xr (some x), xi v, xi w] [xi w, xi v, xr (some (x + 714 + 2 * (sR S).length))] σ := fun h1 h2 k n hk hn => by
    have gR := hRe (sR S).length h2
    rw [getD_len] at gR
    refine c_Dw_review_63 (k_Rev_startOn gR hv hw) gR.2.1 (by decide) (by decide) (by simp only [rm_Dw_review, rm_Rev_startOn]; omega) (by simp only [rm_Dw_review, rm_Rev_startOn]; omega) (Nat.le_of_ble_eq_true rfl) (fun σ1 hq => ?_) (fun _ _ hx => hx.elim)
    obtain ⟨g1, k1⟩ := hq
    have hx0 := hH.1
    have hH1 := hH.keep k1 (fun q q1 q2 q3 => by omega)
    have hF1 := hF.keep k1 (by omega) (by omega)
    have e1 := hF1.2.2.2.2.1
    refine b_Dw_review_66 ?_
    rw [e1, show fI (uI σ1 14 x (((sR S).length : Int) + 1)) 14 x = ((sR S).length : Int) + 1 from by rw [fI_uI, if_pos ⟨rfl, rfl⟩]]
    refine ⟨hH1.2.1, fun _ => ⟨by omega, fun _ => ?_⟩⟩
    have kk : Keep σ (uI σ1 14 x (((sR S).length : Int) + 1)) (fun q => In (x + 714 + 2 * (sR S).length) (x + 714 + 2 * (sR S).length + 2) q ∨ q = x) := (k1.mono (fun q _ h => Or.inl h)).trans (kuI1.mono (fun q _ h => Or.inr h))
    have hF2 := hF1.s14 (w := ((sR S).length : Int) + 1)
    have la : ((sR S ++ [(v, w, 0, fun _ => 0)]).length : Int) = ((sR S).length : Int) + 1 := by rw [List.length_append]; simp
    have hG := getD_app (sR S) ((v, w, 0, fun _ => 0) : RR') rev0
    refine r_Dw_review_82 ⟨_, rfl, c2_t h1 h2, by show _ = ((sR S).length : Int); omega, ⟨⟨hlo, Nat.le_trans hls kk.1, hoE⟩, sw, ds, el, hW.rev hlo kk h2 hH1 (by rw [la]; exact hF2) hG.2 hG.1 (Rv.keep g1 (P := At1 x) kuI1 (fun q q1 q2 q3 => by omega))⟩, kk.mono (fun q _ h => Or.inl (by omega))⟩ (by simp only [rm_Rev_startOn, rm_Dw_review]; omega) (by simp only [rm_Rev_startOn, rm_Dw_review]; omega)
  refine e_Dw_review (b_Dw_review_0 ?_)
  refine c_Dw_review_2 (k_Dw_versionAt hH hF (by omega) hv) hH.2.1 (by decide) (by decide) (by first | decide | omega) (by first | decide | omega) (Nat.le_of_ble_eq_true rfl) (fun r σ1 hq => ?_) (fun E σx hx => Ax.out rfl (XO.of hDV hx (fun hc => c2_1 (fun z => hc z.1)) (by decide)) (by decide) (by decide))
  obtain ⟨rfl, hr, rfl⟩ := hq
  refine b_Dw_review_5 ?_
  rw [e14]
  refine ⟨hv, fun n0 => ⟨hw, fun e1 => ⟨hH.2.1, fun _ => ⟨fun c => ⟨_, f2, fun _ => ⟨k3, by omega, by omega, ?_⟩⟩, fun c => t_Dw_review_41 (by decide) (by decide) (by first | decide | omega) (by first | decide | omega) (fun n' h2 => XO.of hDV ⟨rfl, c, Keep.nX h2⟩ (fun z => c2_2 ⟨hr, n0, Or.inl e1⟩ (fun y => z (by omega))) (by decide))⟩⟩, fun n1 => ?_⟩, fun e0 => t_Dw_review_10 (by decide) (by decide) (by first | decide | omega) (by first | decide | omega) (fun n' h2 => XO.of hDV ⟨rfl, e0, Keep.nX h2⟩ (fun z => c2_1 (fun y => y.2.1 z)) (by decide))⟩
  · rw [show (((sR S).length : Nat) : Int).toNat = (sR S).length from rfl, hrl (by omega)]
    exact fin ⟨hr, n0, Or.inl e1⟩ (by omega) (by decide) (by decide)
  · refine c_Dw_review_28 (k_Dw_reviewAt hH hF (by omega) hw) hH.2.1 (by decide) (by decide) (by first | decide | omega) (by first | decide | omega) (Nat.le_of_ble_eq_true rfl) (fun r σ2 hq => ?_) (fun E σx hx => Ax.out rfl (XO.of hDV hx (fun hc => c2_1 (fun z => hc (z.2.2.resolve_left n1))) (by decide)) (by decide) (by decide))
    obtain ⟨rfl, hr2, rfl⟩ := hq
    refine b_Dw_review_31 ?_
    rw [e14]
    refine ⟨hH.2.1, fun _ => ⟨fun c => ⟨_, f2, fun _ => ⟨k3, by omega, by omega, ?_⟩⟩, fun c => t_Dw_review_41 (by decide) (by decide) (by first | decide | omega) (by first | decide | omega) (fun n' h2 => XO.of hDV ⟨rfl, c, Keep.nX h2⟩ (fun z => c2_2 ⟨hr, n0, Or.inr hr2⟩ (fun y => z (by omega))) (by decide))⟩⟩
    rw [show (((sR S).length : Nat) : Int).toNat = (sR S).length from rfl, hrl (by omega)]
    exact fin ⟨hr, n0, Or.inr hr2⟩ (by omega) (by decide) (by decide)
theorem K_verdict (hDV : DwV Ω σ lo x S) (hCn : Cnt S) (hrv : ∀ r ∈ sR S, isV S r.1) (hq : Q32 q) (hp : Q32 p) (hg : Q32 g) : MC Ω M_Dw_verdict rm_Dw_verdict (OI Ω lo x (o_verdict S q p g) σ) (XO Ω lo x S (o_verdict S q p g).1 σ) σ [xr (some x), xi q, xi p, xi g] := by
  obtain ⟨⟨hlo, hls, hoE⟩, sw, ds, el, hW⟩ := id hDV
  obtain ⟨hH, hF, hVs, hMn, hSp, hCm, hPa, hNo, hRe, hBk, hPr, hTm, hDs⟩ := id hW
  obtain ⟨hc1, hc2, hc3, hc4, hc5, hc6, hc7⟩ := id hCn
  refine e_Dw_verdict (b_Dw_verdict_0 ?_)
  refine c_Dw_verdict_2 (k_Dw_reviewAt hH hF (by omega) hq) hH.2.1 (by decide) (by decide) (by first | decide | omega) (by first | decide | omega) (Nat.le_of_ble_eq_true rfl) (fun r σ1 hq => ?_) (fun E σx hx => Ax.out rfl (XO.of hDV hx (fun hc => c2_1 (fun z => hc z.1)) (by decide)) (by decide) (by decide))
  obtain ⟨rfl, hr, rfl⟩ := hq
  have gR := hRe q.toNat (by omega)
  have hrm : rvO S q ∈ sR S := by
    unfold rvO; rw [List.getD_eq_getElem?_getD, List.getElem?_eq_getElem (by omega)]; exact List.getElem_mem _
  have hver := hrv _ hrm
  have hx0 := hH.1
  refine b_Dw_verdict_5 ?_
  refine c_Dw_verdict_9 (k_Dw_checkPerson hp) hH.2.1 (by decide) (by decide) (by first | decide | omega) (by first | decide | omega) (Nat.le_of_ble_eq_true rfl) (fun σ2 hq => ?_) (fun E σx hx => Ax.out rfl (XO.of hDV hx (fun hc => c2_1 (fun z => hc z.2)) (by decide)) (by decide) (by decide))
  obtain ⟨rfl, hr2⟩ := hq
  refine b_Dw_verdict_12 ?_
  refine c_Dw_verdict_15 (k_Dw_checkNotLanded gR) hH.2.1 (by decide) (by decide) (by first | decide | omega) (by first | decide | omega) (Nat.le_of_ble_eq_true rfl) (fun σ3 hq => ?_) (fun E σx hx => Ax.out rfl (XO.of hDV hx (fun hc => c2_2 ⟨hr, hr2⟩ (fun z => hc z.1)) (by decide)) (by decide) (by decide))
  obtain ⟨rfl, hl0⟩ := hq
  have e513 : fI σ3 513 (x + 714 + 2 * q.toNat) = (rvO S q).1 := gR.2.2.2.2.2.1
  refine b_Dw_verdict_18 ⟨gR.2.1, ?_⟩
  rw [e513]
  refine fun hq13 => ?_
  refine c_Dw_verdict_24 (k_Dw_versionAt hH hF (by omega) hq13) hH.2.1 (by decide) (by decide) (by first | decide | omega) (by first | decide | omega) (Nat.le_of_ble_eq_true rfl) (fun r σ4 hq => ?_) (fun E σx hx => Ax.out rfl (XO.of hDV hx (fun hc => absurd hver hc) (by decide)) (by decide) (by decide))
  obtain ⟨rfl, hr4, rfl⟩ := hq
  obtain ⟨gs, gn, gx⟩ := hVs.at hr4 hc2
  refine b_Dw_verdict_27 ?_
  rw [gn.1]
  refine ⟨gs.2.1, fun _ => ⟨hp, fun c => ?_, fun c => t_Dw_verdict_34 (by decide) (by decide) (by first | decide | omega) (by first | decide | omega) (fun n' h2 => XO.of hDV ⟨rfl, c, Keep.nX h2⟩ (fun z => c2_2 ⟨hr, hr2⟩ (fun y => y.2 z)) (by decide))⟩⟩
  refine c_Dw_verdict_49 (k_Rev_hear gR hr2 hg) gR.2.1 (by decide) (by decide) (by first | decide | omega) (by first | decide | omega) (Nat.le_of_ble_eq_true rfl) (fun σ5 hq => ?_) (fun _ _ hx => hx.elim)
  obtain ⟨g5, k5⟩ := hq
  refine b_Dw_verdict_52 ?_
  refine c_Dw_verdict_54 (k_Rev_state g5) g5.2.1 (by decide) (by decide) (by first | decide | omega) (by first | decide | omega) (Nat.le_of_ble_eq_true rfl) (fun r σ6 hq => ?_) (fun _ _ hx => hx.elim)
  obtain ⟨rfl, rfl⟩ := hq
  have kk := k5.mono (Q := fun q' => In (x + 714 + 2 * q.toNat) (x + 714 + 2 * q.toNat + 2) q' ∨ q' = x) (fun q' _ h => Or.inl h)
  have hG := getD_set (sR S) q.toNat ((rvO S q).1, (rvO S q).2.1, (rvO S q).2.2.1, up1 (rvO S q).2.2.2 p.toNat (if g = 0 then 2 else 1)) rev0 (by omega)
  exact r_Dw_verdict_57 ⟨_, rfl, c2_t ⟨hr, hr2⟩ ⟨hl0, c⟩, rfl, ⟨⟨hlo, Nat.le_trans hls kk.1, hoE⟩, sw, ds, el, hW.rev hlo kk (by omega) (hH.keep k5 (fun q' q1 q2 q3 => by omega)) (by rw [List.length_set]; exact hF.keep k5 (by omega) (by omega)) hG.2 hG.1 g5⟩, kk.mono (fun q' _ h => Or.inl (by omega))⟩ (by decide) (by decide)
/-- a review that gets another version -/
noncomputable def rnV (S : St) (q v : Int) : (Nat → Int) × Int := @ite _ (rowEq (vtx (sV S) v) (vtx (sV S) (rvO S q).1) 0 (vtx (sV S) v).length 0 (vtx (sV S) (rvO S q).1).length) (Classical.propDecidable _) (if 0 ≤ vrA (vrO (sV S) v.toNat) then up1 (rvO S q).2.2.2 (vrA (vrO (sV S) v.toNat)).toNat 0 else (rvO S q).2.2.2, if 0 ≤ vrA (vrO (sV S) v.toNat) ∧ (rvO S q).2.2.2 (vrA (vrO (sV S) v.toNat)).toNat ≠ 0 then 1 else 0) (fun _ => 0, nzV (rvO S q).2.2.2 6)
noncomputable def o_renew (S : St) (q v : Int) : Rs := (c2 (isR S q ∧ isV S v) ((rvO S q).2.2.1 = 0 ∧ abv S v (rvO S q).1) 1 3, (rnV S q v).2, setR S ((sR S).set q.toNat (v, (rvO S q).2.1, (rvO S q).2.2.1, (rnV S q v).1)))
theorem K_renew (hDV : DwV Ω σ lo x S) (hCn : Cnt S) (hrv : ∀ r ∈ sR S, isV S r.1) (hau : ∀ i, isV S i → -1 ≤ vrA (vrO (sV S) i.toNat) ∧ vrA (vrO (sV S) i.toNat) < 6) (hq : Q32 q) (hv : Q32 v) : MC Ω M_Dw_renew rm_Dw_renew (OI Ω lo x (o_renew S q v) σ) (XO Ω lo x S (o_renew S q v).1 σ) σ [xr (some x), xi q, xi v] := by
  obtain ⟨⟨hlo, hls, hoE⟩, sw, ds, el, hW⟩ := id hDV
  obtain ⟨hH, hF, hVs, hMn, hSp, hCm, hPa, hNo, hRe, hBk, hPr, hTm, hDs⟩ := id hW
  obtain ⟨hc1, hc2, hc3, hc4, hc5, hc6, hc7⟩ := id hCn
  refine e_Dw_renew (b_Dw_renew_0 ?_)
  refine c_Dw_renew_2 (k_Dw_reviewAt hH hF (by omega) hq) hH.2.1 (by decide) (by decide) (by first | decide | omega) (by first | decide | omega) (Nat.le_of_ble_eq_true rfl) (fun r σ1 hq => ?_) (fun E σx hx => Ax.out rfl (XO.of hDV hx (fun hc => c2_1 (fun z => hc z.1)) (by decide)) (by decide) (by decide))
  obtain ⟨rfl, hr, rfl⟩ := hq
  have gR := hRe q.toNat (by omega)
  have hrm : rvO S q ∈ sR S := by
    unfold rvO; rw [List.getD_eq_getElem?_getD, List.getElem?_eq_getElem (by omega)]; exact List.getElem_mem _
  have hver := hrv _ hrm
  have hx0 := hH.1
  refine b_Dw_renew_5 ?_
  refine c_Dw_renew_8 (k_Dw_versionAt hH hF (by omega) hv) hH.2.1 (by decide) (by decide) (by first | decide | omega) (by first | decide | omega) (Nat.le_of_ble_eq_true rfl) (fun r σ2 hq => ?_) (fun E σx hx => Ax.out rfl (XO.of hDV hx (fun hc => c2_1 (fun z => hc z.2)) (by decide)) (by decide) (by decide))
  obtain ⟨rfl, hr2, rfl⟩ := hq
  obtain ⟨gs, gn, gx⟩ := hVs.at hr2 hc2
  have ha := hau v hr2
  refine b_Dw_renew_11 ?_
  refine c_Dw_renew_15 (k_Dw_checkNotLanded gR) hH.2.1 (by decide) (by decide) (by first | decide | omega) (by first | decide | omega) (Nat.le_of_ble_eq_true rfl) (fun σ3 hq => ?_) (fun E σx hx => Ax.out rfl (XO.of hDV hx (fun hc => c2_2 ⟨hr, hr2⟩ (fun z => hc z.1)) (by decide)) (by decide) (by decide))
  obtain ⟨rfl, hl0⟩ := hq
  have e513 : fI σ3 513 (x + 714 + 2 * q.toNat) = (rvO S q).1 := gR.2.2.2.2.2.1
  refine b_Dw_renew_18 ⟨gR.2.1, ?_⟩
  rw [e513]
  refine fun hq13 => ?_
  refine c_Dw_renew_24 (k_Ver_isOver gs gn hq13) gs.2.1 (by decide) (by decide) (by first | decide | omega) (by first | decide | omega) (Nat.le_of_ble_eq_true rfl) (fun r σ4 hq => ?_) (fun _ _ hx => hx.elim)
  obtain ⟨rfl, rfl⟩ := hq
  have e9 : (0 ≤ (rvO S q).1 ∧ (rvO S q).1 < 40 ∧ (lUsh (vrW (vrO (sV S) v.toNat)) (rvO S q).1 &&& 1) ≠ 0) = abv S v (rvO S q).1 := propext ⟨fun z => z.2.2, fun z => ⟨by omega, by omega, z⟩⟩
  simp only [e9]
  refine b_Dw_renew_27 ?_
  rw [e513]
  refine ⟨by split <;> decide, fun c => ⟨gs.2.1, _, gs.2.2.1, gR.2.1, fun _ => ?_⟩, fun c => t_Dw_renew_30 (by decide) (by decide) (by first | decide | omega) (by first | decide | omega) (fun n' h2 => XO.of hDV ⟨rfl, c, Keep.nX h2⟩ (fun z => c2_2 ⟨hr, hr2⟩ (fun y => absurd (z.symm.trans (if_pos y.2)) (by decide))) (by decide))⟩
  have hab : abv S v (rvO S q).1 := Classical.byContradiction (fun y => c (if_neg y))
  refine c_Dw_renew_51 (k_Dw_versionAt hH hF (by omega) hq13) hH.2.1 (by decide) (by decide) (by first | decide | omega) (by first | decide | omega) (Nat.le_of_ble_eq_true rfl) (fun r σ5 hq => ?_) (fun E σx hx => Ax.out rfl (XO.of hDV hx (fun hc => absurd hver hc) (by decide)) (by decide) (by decide))
  obtain ⟨rfl, hr4, rfl⟩ := hq
  obtain ⟨is, in_, ix⟩ := hVs.at hr4 hc2
  refine b_Dw_renew_54 ⟨is.2.1, _, is.2.2.1, ?_⟩
  refine c_Dw_renew_57 (k_Txt_isLike gx ix) gx.2.1 (by decide) (by decide) (by first | decide | omega) (by first | decide | omega) (Nat.le_of_ble_eq_true rfl) (fun r σ6 hq => ?_) (fun _ _ hx => hx.elim)
  obtain ⟨rfl, hz⟩ := hq
  have k6 : Keep σ6 (uI σ6 513 (x + 714 + 2 * q.toNat) v) (In (x + 714 + 2 * q.toNat) (x + 714 + 2 * q.toNat + 2)) := Keep.uI (by omega)
  have g6 : Rv (uI σ6 513 (x + 714 + 2 * q.toNat) v) (x + 714 + 2 * q.toNat) (rvO S q).2.2.2 v (rvO S q).2.1 (rvO S q).2.2.1 := by
    obtain ⟨w1, w2, w3, w4, w5, w6, w7, w8, w9⟩ := gR
    refine ⟨w1, w2, w3, w4, w5, ?_, ?_, ?_, w9⟩
    · rw [fI_uI, if_pos ⟨rfl, rfl⟩]
    · rw [fI_uI, if_neg (by omega)]; exact w7
    · rw [fI_uI, if_neg (by omega)]; exact w8
  have e707 : fI (uI σ6 513 (x + 714 + 2 * q.toNat) v) 707 (x + 374 + 8 * v.toNat) = vrA (vrO (sV S) v.toNat) := by rw [fI_uI, if_neg (by omega)]; exact gn.1
  have fin : ∀ {σ7 : Sto} {V : Nat → Int}, V = (rnV S q v).1 → Keep (uI σ6 513 (x + 714 + 2 * q.toNat) v) σ7 (In (x + 714 + 2 * q.toNat) (x + 714 + 2 * q.toNat + 2)) → Rv σ7 (x + 714 + 2 * q.toNat) V v (rvO S q).2.1 (rvO S q).2.2.1 → DwV Ω σ7 lo x (o_renew S q v).2.2 ∧ Keep σ6 σ7 (DwP lo x) := fun hV k7 g7 => by
    have kk := (k6.trans k7)
    have kx := kk.mono (Q := fun q' => In (x + 714 + 2 * q.toNat) (x + 714 + 2 * q.toNat + 2) q' ∨ q' = x) (fun q' _ h => Or.inl h)
    have hG := getD_set (sR S) q.toNat (v, (rvO S q).2.1, (rvO S q).2.2.1, (rnV S q v).1) rev0 (by omega)
    exact ⟨⟨⟨hlo, Nat.le_trans hls kk.1, hoE⟩, sw, ds, el, hW.rev hlo kx (by omega) (hH.keep kk (fun q' q1 q2 q3 => by omega)) (by rw [List.length_set]; exact hF.keep kk (by omega) (by omega)) hG.2 hG.1 (hV ▸ g7)⟩, kk.mono (fun q' _ h => Or.inl (by omega))⟩
  refine b_Dw_renew_60 ⟨gR.2.1, hv, by rcases hz with ⟨e, _⟩ | ⟨e, _⟩ <;> rw [e] <;> decide, fun c3 => ?_, fun c3 => ⟨gs.2.1, ?_⟩⟩
  · have hne : ¬ rowEq (vtx (sV S) v) (vtx (sV S) (rvO S q).1) 0 (vtx (sV S) v).length 0 (vtx (sV S) (rvO S q).1).length := by
      rcases hz with ⟨e, _⟩ | ⟨_, e⟩
      · rw [c3] at e; cases e
      · exact e
    have er : rnV S q v = ((fun _ => 0 : Nat → Int), (nzV (rvO S q).2.2.2 6 : Int)) := @if_neg _ (Classical.propDecidable _) hne _ _ _
    refine c_Dw_renew_85 (k_Rev_dropAll g6) g6.2.1 (by decide) (by decide) (by first | decide | omega) (by first | decide | omega) (Nat.le_of_ble_eq_true rfl) (fun r σ7 hq => ?_) (fun _ _ hx => hx.elim)
    obtain ⟨rfl, g7, k7⟩ := hq
    obtain ⟨q1, q2⟩ := fin (by rw [er]) k7 g7
    exact r_Dw_renew_88 ⟨_, rfl, c2_t ⟨hr, hr2⟩ ⟨hl0, hab⟩, by show _ = (rnV S q v).2; rw [er], q1, q2⟩ (by decide) (by decide)
  · have hne : rowEq (vtx (sV S) v) (vtx (sV S) (rvO S q).1) 0 (vtx (sV S) v).length 0 (vtx (sV S) (rvO S q).1).length := by
      rcases hz with ⟨_, e⟩ | ⟨e, _⟩
      · exact e
      · exact absurd e c3
    have er := @if_pos _ (Classical.propDecidable _) hne _ (if 0 ≤ vrA (vrO (sV S) v.toNat) then up1 (rvO S q).2.2.2 (vrA (vrO (sV S) v.toNat)).toNat 0 else (rvO S q).2.2.2, if 0 ≤ vrA (vrO (sV S) v.toNat) ∧ (rvO S q).2.2.2 (vrA (vrO (sV S) v.toNat)).toNat ≠ 0 then (1 : Int) else 0) (fun _ => (0 : Int), (nzV (rvO S q).2.2.2 6 : Int))
    have er2 : rnV S q v = (if 0 ≤ vrA (vrO (sV S) v.toNat) then up1 (rvO S q).2.2.2 (vrA (vrO (sV S) v.toNat)).toNat 0 else (rvO S q).2.2.2, if 0 ≤ vrA (vrO (sV S) v.toNat) ∧ (rvO S q).2.2.2 (vrA (vrO (sV S) v.toNat)).toNat ≠ 0 then 1 else 0) := er
    rw [e707]
    refine fun _ => ?_
    refine c_Dw_renew_78 (k_Rev_drop g6 ha) g6.2.1 (by decide) (by decide) (by first | decide | omega) (by first | decide | omega) (Nat.le_of_ble_eq_true rfl) (fun r σ7 hq => ?_) (fun _ _ hx => hx.elim)
    obtain ⟨rfl, g7, k7⟩ := hq
    obtain ⟨q1, q2⟩ := fin (by rw [er2]) k7 g7
    refine b_Dw_renew_81 (r_Dw_renew_88 ⟨_, rfl, c2_t ⟨hr, hr2⟩ ⟨hl0, hab⟩, ?_, q1, q2⟩ (by decide) (by decide))
    show _ = (rnV S q v).2; rw [er2]
end REV
