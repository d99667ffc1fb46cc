/-! BY HAND: the class's calls that only tell, 2; parts that stay -/
section BUT
variable {Ω : Om} {σ σ' : Sto} {lo x sw u w : Nat} {S : St} {ds : Nat → Nat} {el : Nat → List Nat}
/-- what stays when one place is changed -/
theorem DwW.but (h : DwW Ω σ lo x S sw ds el) (k : Keep σ σ' (In u w)) (hu : x + 5 ≤ u) (hw : w ≤ x + 754) (hlo : x + 753 < lo) :
    DwH σ' x sw ∧ DwF σ' x (b01 (sD S).isSome) (b01 (sC S).isSome) (sV S).length (sP S).length (sR S).length (sW S).length (sM S) ∧ (w ≤ x + 374 ∨ x + 694 ≤ u → VsV Ω σ' lo x (sV S) ds el) ∧ (w ≤ x + 118 + 128 * sw ∨ x + 118 + 128 * sw + 128 ≤ u → MnV Ω σ' lo x (x + 118 + 128 * sw) (ds 40) (el 40) (sD S)) ∧ (w ≤ x + 118 + 128 * (1 - sw) ∨ x + 118 + 128 * (1 - sw) + 128 ≤ u → MnV Ω σ' lo x (x + 118 + 128 * (1 - sw)) (ds 41) (el 41) none) ∧ (w ≤ x + 8 ∨ x + 36 ≤ u → CmV σ' x (sC S)) ∧ (w ≤ x + 694 ∨ x + 714 ≤ u → PaV σ' lo x (sP S)) ∧ NoV σ' x (sW S) ∧ (w ≤ x + 714 → ReV σ' x (sR S)) ∧ (x + 8 ≤ u → Bk σ' (x + 5) (bkN (sB S)) (bkA (sB S)) (bkO (sB S))) ∧ (w ≤ x + 36 ∨ x + 64 ≤ u → CpS σ' (x + 36)) ∧ (w ≤ x + 64 ∨ x + 118 ≤ u → TmS σ' (x + 64)) ∧ Dst lo ds := by
  obtain ⟨h1, h2, h3, h4, h5, h6, h7, h8, h9, h10, h11, h12, h13⟩ := h
  have h0 := h1.1
  exact ⟨h1.keep k (fun q q1 q2 q3 => by omega), h2.keep k (by omega) (by omega), fun z => h3.keep k (fun q q1 q2 q3 => by omega) (fun q q1 _ q3 => by omega) (fun v _ q1 q3 => by omega), fun z => h4.keep k (fun q q1 q2 q3 => by omega) (fun q q1 _ q3 => by omega) (fun q1 q3 => by omega), fun z => h5.keep k (fun q q1 q2 q3 => by omega) (fun q q1 _ q3 => by omega) (fun q1 q3 => by omega), fun z => h6.keep k (fun q q1 q2 q3 => by omega), fun z => h7.keep k (fun q q1 q2 q3 => by omega) (fun q q1 _ q3 => by omega), h8.keep k (by omega) (by omega), fun z => h9.keep k (fun q q1 q2 q3 => by omega), fun z => h10.keep k (fun q q1 q2 q3 => by omega), fun z => h11.keep k (fun q q1 q2 q3 => by omega), fun z => h12.keep k (fun q q1 q2 q3 => by omega), h13⟩
/-- what stays when a counter is changed -/
theorem DwW.fld {f : Nat} {c : Int} (h : DwW Ω σ lo x S sw ds el) (hlo : x + 753 < lo) : DwH (uI σ f x c) x sw ∧ VsV Ω (uI σ f x c) lo x (sV S) ds el ∧ MnV Ω (uI σ f x c) lo x (x + 118 + 128 * sw) (ds 40) (el 40) (sD S) ∧ MnV Ω (uI σ f x c) lo x (x + 118 + 128 * (1 - sw)) (ds 41) (el 41) none ∧ CmV (uI σ f x c) x (sC S) ∧ PaV (uI σ f x c) lo x (sP S) ∧ NoV (uI σ f x c) x (sW S) ∧ ReV (uI σ f x c) x (sR S) ∧ Bk (uI σ f x c) (x + 5) (bkN (sB S)) (bkA (sB S)) (bkO (sB S)) ∧ CpS (uI σ f x c) (x + 36) ∧ TmS (uI σ f x c) (x + 64) := by
  obtain ⟨h1, h2, h3, h4, h5, h6, h7, h8, h9, h10, h11, h12, h13⟩ := h
  have h0 := h1.1
  have k : Keep σ (uI σ f x c) (At1 x) := kuI1
  exact ⟨h1, h3.keep k (fun q q1 q2 q3 => by omega) (fun q q1 _ q3 => by omega) (fun v _ q1 q3 => by omega), h4.keep k (fun q q1 q2 q3 => by omega) (fun q q1 _ q3 => by omega) (fun q1 q3 => by omega), h5.keep k (fun q q1 q2 q3 => by omega) (fun q q1 _ q3 => by omega) (fun q1 q3 => by omega), h6.keep k (fun q q1 q2 q3 => by omega), h7.keep k (fun q q1 q2 q3 => by omega) (fun q q1 _ q3 => by omega), h8.keep k (by omega) (by omega), h9.keep k (fun q q1 q2 q3 => by omega), h10.keep k (fun q q1 q2 q3 => by omega), h11.keep k (fun q q1 q2 q3 => by omega), h12.keep k (fun q q1 q2 q3 => by omega)⟩
end BUT
def blW (V : List VR) (v : Int) : Int64 := if 0 ≤ v ∧ v < V.length then vrW (vrO V v.toNat) ||| lShl 1 v else 0
def bsF (com : Int64) : Nat → Nat
  | 0 => 0
  | i + 1 => if (lUsh com ((i + 1 : Nat) : Int) &&& 1) ≠ 0 then i + 1 else bsF com i
def bsN (V : List VR) (v w : Int) : Nat := bsF (blW V v &&& blW V w) (minI v w).toNat
theorem bsF_le (c : Int64) : ∀ n, bsF c n ≤ n := by
  intro n
  induction n with
  | zero => exact Nat.le_refl _
  | succ n ih =>
    rw [bsF]
    split
    · exact Nat.le_refl _
    · omega
section RDP
variable {Ω : Om} {σ : Sto} {lo x sw : Nat} {S : St} {v w p : Int} {ds : Nat → Nat} {el : Nat → List Nat}
theorem k_Dw_belowOf (hW : DwW Ω σ lo x S sw ds el) (hCn : Cnt S) (hv : Q32 v) : MC Ω M_Dw_belowOf rm_Dw_belowOf (RL fun r σ' => σ' = σ ∧ r = blW (sV S) v) XN σ [xr (some x), xi v] := by
  obtain ⟨hH, hF, hVs, -⟩ := hW
  obtain ⟨h0, h1, hs', f0, f1, f2, f3, f4, f5, f6, f7, f8, f9, ⟨k1, z1, r1⟩, -⟩ := id hH
  have e := hF.2.2.1
  have c2 := hCn.2.1
  refine e_Dw_belowOf (b_Dw_belowOf_0 ⟨hv, fun c => ?_, fun c => ⟨h1, fun _ => ⟨fun c3 => ?_, fun c3 => ?_⟩⟩⟩)
  · exact r_Dw_belowOf_13 ⟨_, rfl, rfl, by rw [blW, if_neg (by omega)]⟩ (by decide) (by decide)
  · rw [e] at c3
    obtain ⟨gs, gn, gx⟩ := hVs.at (v := v) ⟨by omega, c3⟩ c2
    refine ⟨_, f0, k1, by omega, by omega, _, r1 _ (by omega), gs.2.1, ?_⟩
    refine r_Dw_belowOf_27 ⟨_, rfl, rfl, ?_⟩ (by decide) (by decide)
    rw [blW, if_pos ⟨by omega, c3⟩, gn.2.2.2]
  · rw [e] at c3
    exact r_Dw_belowOf_13 ⟨_, rfl, rfl, by rw [blW, if_neg (by omega)]⟩ (by decide) (by decide)
theorem k_Dw_baseOf (hW : DwW Ω σ lo x S sw ds el) (hCn : Cnt S) (hv : isV S v) (hw : isV S w) : MC Ω M_Dw_baseOf rm_Dw_baseOf (RI fun r σ' => σ' = σ ∧ r = bsN (sV S) v w) XN σ [xr (some x), xi v, xi w] := by
  have hH := hW.1
  have c2 := hCn.2.1
  refine e_Dw_baseOf (b_Dw_baseOf_0 ?_)
  refine c_Dw_baseOf_2 (k_Dw_belowOf hW hCn (by omega)) hH.2.1 (by decide) (by decide) (by first | decide | omega) (by first | decide | omega) (Nat.le_of_ble_eq_true rfl) (fun r σ1 hq => ?_) (fun _ _ hx => hx.elim)
  obtain ⟨rfl, rfl⟩ := hq
  refine b_Dw_baseOf_5 ?_
  refine c_Dw_baseOf_7 (k_Dw_belowOf hW hCn (by omega)) hH.2.1 (by decide) (by decide) (by first | decide | omega) (by first | decide | omega) (Nat.le_of_ble_eq_true rfl) (fun r σ2 hq => ?_) (fun _ _ hx => hx.elim)
  obtain ⟨rfl, rfl⟩ := hq
  refine b_Dw_baseOf_10 ⟨by omega, by omega, by decide, Nat.le_of_ble_eq_true rfl, by decide, by decide, ?_⟩
  have m1 := minI_le (x := v) (y := w)
  have em : minI v w = ((minI v w).toNat : Nat) := by omega
  have hb : (minI v w).toNat < 40 := by omega
  have loop : ∀ (n : Nat), n < 40 → bsF (blW (sV S) v &&& blW (sV S) w) n = bsN (sV S) v w → Aw Ω M_Dw_baseOf rm_Dw_baseOf (MF Ω rm_Dw_baseOf (RI fun r σ' => σ' = σ2 ∧ r = bsN (sV S) v w) XN) 0 0 19 [xr (some x), xi v, xi w, xl (blW (sV S) v &&& blW (sV S) w), xu, xi n] [] σ2 := by
    intro n
    induction n with
    | zero =>
      intro h0 he
      refine b_Dw_baseOf_19 ⟨by decide, fun _ => ?_, fun c => absurd (Int.le_refl _) c⟩
      exact r_Dw_baseOf_45 ⟨_, rfl, rfl, by rw [← he]; rfl⟩ (by decide) (by decide)
    | succ n ih =>
      intro h0 he
      rw [bsF] at he
      refine b_Dw_baseOf_19 ⟨by omega, fun c => absurd c (by omega), fun _ => ⟨cmpL_r _ _, fun c => ?_, fun c => ?_⟩⟩
      · rw [cmpL_0] at c
        rw [if_neg (fun z => z c)] at he
        have := ih (by omega) he
        rw [show ((n + 1 : Nat) : Int) + (-1) = (n : Int) by omega]
        exact this
      · rw [cmpL_0] at c
        rw [if_pos c] at he
        exact r_Dw_baseOf_37 ⟨_, rfl, rfl, by rw [← he]⟩ (by decide) (by decide)
  have := loop (minI v w).toNat hb rfl
  rw [← em] at this
  exact this
theorem K_base (hDV : DwV Ω σ lo x S) (hCn : Cnt S) (hv : Q32 v) (hw : Q32 w) : MC Ω M_Dw_base rm_Dw_base (OR Ω lo x (c1 (isV S v ∧ isV S w)) (bsN (sV S) v w) S σ) (XO Ω lo x S (c1 (isV S v ∧ isV S w)) σ) σ [xr (some x), xi v, xi w] := by
  obtain ⟨⟨hlo, hls, hoE⟩, sw, ds, el, hW⟩ := id hDV
  obtain ⟨hH, hF, hVs, hMn, hSp, hCm, hPa, hNo, hRe, hBk, hPr, hTm, hDs⟩ := id hW
  obtain ⟨hc1, hc2, hc3, hc4, hc5, hc6, hc7⟩ := id hCn
  refine e_Dw_base (b_Dw_base_0 ?_)
  refine c_Dw_base_2 (k_Dw_versionAt hH hF (by omega) hv) hH.2.1 (by decide) (by decide) (by first | decide | omega) (by first | decide | omega) (Nat.le_of_ble_eq_true rfl) (fun r σ1 hq => ?_) (fun E σx hx => Ax.out rfl (XO.of hDV hx (fun hc => c1_f (fun z => hc z.1)) (by decide)) (by decide) (by decide))
  obtain ⟨rfl, hr, rfl⟩ := hq
  refine b_Dw_base_5 ?_
  refine c_Dw_base_8 (k_Dw_versionAt hH hF (by omega) hw) hH.2.1 (by decide) (by decide) (by first | decide | omega) (by first | decide | omega) (Nat.le_of_ble_eq_true rfl) (fun r σ2 hq => ?_) (fun E σx hx => Ax.out rfl (XO.of hDV hx (fun hc => c1_f (fun z => hc z.2)) (by decide)) (by decide) (by decide))
  obtain ⟨rfl, hr2, rfl⟩ := hq
  refine b_Dw_base_11 ?_
  refine c_Dw_base_15 (k_Dw_baseOf hW hCn hr hr2) hH.2.1 (by decide) (by decide) (by first | decide | omega) (by first | decide | omega) (Nat.le_of_ble_eq_true rfl) (fun r σ3 hq => ?_) (fun _ _ hx => hx.elim)
  obtain ⟨rfl, rfl⟩ := hq
  exact r_Dw_base_18 ⟨_, rfl, c1_t ⟨hr, hr2⟩, rfl, hDV, Keep.rf⟩ (by decide) (by decide)
theorem K_treeCost (hDV : DwV Ω σ lo x S) (hCn : Cnt S) (h20 : ∀ v, (vtx (sV S) v).length ≤ 20) (hv : Q32 v) (hw : Q32 w) : MC Ω M_Dw_treeCost rm_Dw_treeCost (OR Ω lo x (c1 (isV S v ∧ isV S w)) (tcN ((vtx (sV S) v).map (·.1)) ((vtx (sV S) w).map (·.1)) : Nat) S σ) (XO Ω lo x S (c1 (isV S v ∧ isV S w)) σ) σ [xr (some x), xi v, xi w] := by
  obtain ⟨⟨hlo, hls, hoE⟩, sw, ds, el, hW⟩ := id hDV
  obtain ⟨hH, hF, hVs, hMn, hSp, hCm, hPa, hNo, hRe, hBk, hPr, hTm, hDs⟩ := id hW
  obtain ⟨hc1, hc2, hc3, hc4, hc5, hc6, hc7⟩ := id hCn
  refine e_Dw_treeCost (b_Dw_treeCost_0 ?_)
  refine c_Dw_treeCost_2 (k_Dw_versionAt hH hF (by omega) hv) hH.2.1 (by decide) (by decide) (by first | decide | omega) (by first | decide | omega) (Nat.le_of_ble_eq_true rfl) (fun r σ1 hq => ?_) (fun E σx hx => Ax.out rfl (XO.of hDV hx (fun hc => c1_f (fun z => hc z.1)) (by decide)) (by decide) (by decide))
  obtain ⟨rfl, hr, rfl⟩ := hq
  obtain ⟨gs, gn, gx⟩ := hVs.at hr hc2
  refine b_Dw_treeCost_5 ⟨gs.2.1, _, gs.2.2.1, ?_⟩
  refine c_Dw_treeCost_11 (k_Dw_versionAt hH hF (by omega) hw) hH.2.1 (by decide) (by decide) (by first | decide | omega) (by first | decide | omega) (Nat.le_of_ble_eq_true rfl) (fun r σ2 hq => ?_) (fun E σx hx => Ax.out rfl (XO.of hDV hx (fun hc => c1_f (fun z => hc z.2)) (by decide)) (by decide) (by decide))
  obtain ⟨rfl, hr2, rfl⟩ := hq
  obtain ⟨is, in_, ix⟩ := hVs.at hr2 hc2
  refine b_Dw_treeCost_14 ⟨is.2.1, _, is.2.2.1, hH.2.1, _, hH.2.2.2.2.2.2.2.2.2.2.1, ?_⟩
  refine c_Dw_treeCost_26 (k_Trm_costOf hTm gx ix (h20 v) (h20 w) (by omega) (by omega)) hTm.2.1 (by decide) (by decide) (by first | decide | omega) (by first | decide | omega) (Nat.le_of_ble_eq_true rfl) (fun r σ3 hq => ?_) (fun _ _ hx => hx.elim)
  obtain ⟨hT3, hk3, rfl⟩ := hq
  obtain ⟨b1, b2, b3, b4, b5, b6, b7, b8, b9, b10, b11, -, b13⟩ := hW.but hk3 (by omega) (by omega) hlo
  refine r_Dw_treeCost_29 ⟨_, rfl, c1_t ⟨hr, hr2⟩, rfl, ⟨⟨hlo, Nat.le_trans hls hk3.1, hoE⟩, sw, ds, el, b1, b2, b3 (by omega), b4 (by omega), b5 (by omega), b6 (by omega), b7 (by omega), b8, b9 (by omega), b10 (by omega), b11 (by omega), hT3, b13⟩, hk3.mono (fun q _ h => Or.inl (by omega))⟩ (by decide) (by decide)
/-- how many lines were compared -/
def csz (S : St) : Nat := match sC S with | some c => c.1.length | none => 0
theorem K_pairOf (hDV : DwV Ω σ lo x S) (hp : Q32 p) : MC Ω M_Dw_pairOf rm_Dw_pairOf (OR Ω lo x (c1 (0 ≤ p ∧ p < csz S)) (match sC S with | some c => c.2.2.1 p.toNat | none => 0) S σ) (XO Ω lo x S (c1 (0 ≤ p ∧ p < csz S)) σ) σ [xr (some x), xi p] := by
  obtain ⟨⟨hlo, hls, hoE⟩, sw, ds, el, hW⟩ := id hDV
  obtain ⟨hH, hF, hVs, hMn, hSp, hCm, -⟩ := id hW
  have f5 := hH.2.2.2.2.2.2.2.2.1
  have hd := hF.2.1
  cases hC : sC S with
  | none =>
    have e : csz S = 0 := by unfold csz; rw [hC]
    rw [hC] at hd
    refine e_Dw_pairOf (b_Dw_pairOf_0 ⟨hH.2.1, fun _ => ⟨fun c => ?_, fun c => absurd hd c⟩⟩)
    refine c_Dw_pairOf_20 (k_Dw_checkPlace (b := 0) hp (by decide)) hH.2.1 (by decide) (by decide) (by first | decide | omega) (by first | decide | omega) (Nat.le_of_ble_eq_true rfl) (fun σ2 hq => ?_) (fun E σx hx => Ax.out rfl (XO.of hDV hx (fun hc => c1_f (by rw [e]; exact hc)) (by decide)) (by decide) (by decide))
    obtain ⟨rfl, hr2⟩ := hq
    omega
  | some c =>
    obtain ⟨X, Y, A, M, n⟩ := c
    obtain ⟨gW, gP⟩ := hCm.2 X Y A M n hC
    have e : csz S = X.length := by unfold csz; rw [hC]
    have x2 := gW.2.1.2.1
    rw [hC] at hd
    refine e_Dw_pairOf (b_Dw_pairOf_0 ⟨hH.2.1, fun _ => ⟨fun c => absurd (hd.symm.trans c) (show ¬ ((1 : Int) = 0) by decide), fun c => ⟨_, f5, ?_⟩⟩⟩)
    refine c_Dw_pairOf_13 (k_Cmp_size gW.1 gW.2.1) gW.1.2.1 (by decide) (by decide) (by first | decide | omega) (by first | decide | omega) (Nat.le_of_ble_eq_true rfl) (fun r σ1 hq => ?_) (fun _ _ hx => hx.elim)
    obtain ⟨rfl, rfl⟩ := hq
    refine b_Dw_pairOf_16 ?_
    refine c_Dw_pairOf_20 (k_Dw_checkPlace hp (by omega)) hH.2.1 (by decide) (by decide) (by first | decide | omega) (by first | decide | omega) (Nat.le_of_ble_eq_true rfl) (fun σ2 hq => ?_) (fun E σx hx => Ax.out rfl (XO.of hDV hx (fun hc => c1_f (by rw [e]; exact hc)) (by decide)) (by decide) (by decide))
    obtain ⟨rfl, hr2⟩ := hq
    refine b_Dw_pairOf_23 ⟨hH.2.1, _, f5, ?_⟩
    refine c_Dw_pairOf_28 (k_Cmp_pairAt gW.1 gW.2.1 gP hp) gW.1.2.1 (by decide) (by decide) (by first | decide | omega) (by first | decide | omega) (Nat.le_of_ble_eq_true rfl) (fun r σ3 hq => ?_) (fun _ _ hx => hx.elim)
    obtain ⟨rfl, -, rfl⟩ := hq
    refine r_Dw_pairOf_31 ⟨_, rfl, c1_t (by rw [e]; exact hr2), ?_, hDV, Keep.rf⟩ (by decide) (by decide)
    rw [if_pos hr2]
theorem K_movedTo (hDV : DwV Ω σ lo x S) (hp : Q32 p) : MC Ω M_Dw_movedTo rm_Dw_movedTo (OR Ω lo x (c1 (0 ≤ p ∧ p < csz S)) (match sC S with | some c => c.2.2.2.1 p.toNat | none => 0) S σ) (XO Ω lo x S (c1 (0 ≤ p ∧ p < csz S)) σ) σ [xr (some x), xi p] := by
  obtain ⟨⟨hlo, hls, hoE⟩, sw, ds, el, hW⟩ := id hDV
  obtain ⟨hH, hF, hVs, hMn, hSp, hCm, -⟩ := id hW
  have f5 := hH.2.2.2.2.2.2.2.2.1
  have hd := hF.2.1
  cases hC : sC S with
  | none =>
    have e : csz S = 0 := by unfold csz; rw [hC]
    rw [hC] at hd
    refine e_Dw_movedTo (b_Dw_movedTo_0 ⟨hH.2.1, fun _ => ⟨fun c => ?_, fun c => absurd hd c⟩⟩)
    refine c_Dw_movedTo_20 (k_Dw_checkPlace (b := 0) hp (by decide)) hH.2.1 (by decide) (by decide) (by first | decide | omega) (by first | decide | omega) (Nat.le_of_ble_eq_true rfl) (fun σ2 hq => ?_) (fun E σx hx => Ax.out rfl (XO.of hDV hx (fun hc => c1_f (by rw [e]; exact hc)) (by decide)) (by decide) (by decide))
    obtain ⟨rfl, hr2⟩ := hq
    omega
  | some c =>
    obtain ⟨X, Y, A, M, n⟩ := c
    obtain ⟨gW, gP⟩ := hCm.2 X Y A M n hC
    have e : csz S = X.length := by unfold csz; rw [hC]
    have x2 := gW.2.1.2.1
    rw [hC] at hd
    refine e_Dw_movedTo (b_Dw_movedTo_0 ⟨hH.2.1, fun _ => ⟨fun c => absurd (hd.symm.trans c) (show ¬ ((1 : Int) = 0) by decide), fun c => ⟨_, f5, ?_⟩⟩⟩)
    refine c_Dw_movedTo_13 (k_Cmp_size gW.1 gW.2.1) gW.1.2.1 (by decide) (by decide) (by first | decide | omega) (by first | decide | omega) (Nat.le_of_ble_eq_true rfl) (fun r σ1 hq => ?_) (fun _ _ hx => hx.elim)
    obtain ⟨rfl, rfl⟩ := hq
    refine b_Dw_movedTo_16 ?_
    refine c_Dw_movedTo_20 (k_Dw_checkPlace hp (by omega)) hH.2.1 (by decide) (by decide) (by first | decide | omega) (by first | decide | omega) (Nat.le_of_ble_eq_true rfl) (fun σ2 hq => ?_) (fun E σx hx => Ax.out rfl (XO.of hDV hx (fun hc => c1_f (by rw [e]; exact hc)) (by decide)) (by decide) (by decide))
    obtain ⟨rfl, hr2⟩ := hq
    refine b_Dw_movedTo_23 ⟨hH.2.1, _, f5, ?_⟩
    refine c_Dw_movedTo_28 (k_Cmp_moveAt gW.1 gW.2.1 gP hp) gW.1.2.1 (by decide) (by decide) (by first | decide | omega) (by first | decide | omega) (Nat.le_of_ble_eq_true rfl) (fun r σ3 hq => ?_) (fun _ _ hx => hx.elim)
    obtain ⟨rfl, -, rfl⟩ := hq
    refine r_Dw_movedTo_31 ⟨_, rfl, c1_t (by rw [e]; exact hr2), ?_, hDV, Keep.rf⟩ (by decide) (by decide)
    rw [if_pos hr2]
theorem K_conflicts (hDV : DwV Ω σ lo x S) : MC Ω M_Dw_conflicts rm_Dw_conflicts (OR Ω lo x 0 (match sD S with | some r => (opn (drC r) : Int) | none => 0) S σ) XN σ [xr (some x)] := by
  obtain ⟨-, sw, ds, el, hW⟩ := id hDV
  obtain ⟨hH, hF, hVs, hMn, -⟩ := id hW
  obtain ⟨f, s, b, T, cl, oc, h1, h2⟩ := hMn
  have hS := h1.1
  have f8 := hH.2.2.2.2.2.2.2.2.2.2.2.1
  have hd := hF.1
  cases hD : sD S with
  | none =>
    rw [hD] at hd
    exact e_Dw_conflicts (b_Dw_conflicts_0 ⟨hH.2.1, fun _ => ⟨fun c => r_Dw_conflicts_18 ⟨_, rfl, rfl, rfl, hDV, Keep.rf⟩ (by decide) (by decide), fun c => absurd hd c⟩⟩)
  | some r =>
    rw [hD] at hd
    refine e_Dw_conflicts (b_Dw_conflicts_0 ⟨hH.2.1, fun _ => ⟨fun c => absurd (hd.symm.trans c) (show ¬ ((1 : Int) = 0) by decide), fun c => ⟨_, f8, ?_⟩⟩⟩)
    refine c_Dw_conflicts_11 (k_Drf_unsettled hS h1.2.2.2.1) hS.2.1 (by decide) (by decide) (by first | decide | omega) (by first | decide | omega) (Nat.le_of_ble_eq_true rfl) (fun z σ1 hq => ?_) (fun _ _ hx => hx.elim)
    obtain ⟨rfl, rfl⟩ := hq
    exact b_Dw_conflicts_14 (r_Dw_conflicts_18 ⟨_, rfl, rfl, (h2 r hD).2.2.1, hDV, Keep.rf⟩ (by decide) (by decide))
/-- which refusal: first this one, then that one -/
def c2 (p q : Prop) [Decidable p] [Decidable q] (a b : Nat) : Nat := if p then (if q then 0 else b) else a
theorem c2_t {p q : Prop} [Decidable p] [Decidable q] {a b : Nat} (h : p) (g : q) : c2 p q a b = 0 := by rw [c2, if_pos h, if_pos g]
theorem c2_1 {p q : Prop} [Decidable p] [Decidable q] {a b : Nat} (h : ¬ p) : c2 p q a b = a := by rw [c2, if_neg h]
theorem c2_2 {p q : Prop} [Decidable p] [Decidable q] {a b : Nat} (h : p) (g : ¬ q) : c2 p q a b = b := by rw [c2, if_pos h, if_neg g]
/-- how many conflicts there are -/
def cfn (S : St) : Nat := match sD S with | some r => (drC r).length | none => 0
theorem isC_iff : isC (sD S) v ↔ 0 ≤ v ∧ v < cfn S := by
  unfold cfn
  cases hD : sD S with
  | none => exact ⟨fun z => (by obtain ⟨r, h, _⟩ := z; cases h), fun h => absurd (show v < 0 from h.2) (by have := h.1; omega)⟩
  | some r => exact ⟨fun ⟨r', h, g⟩ => by cases h; exact g, fun h => ⟨r, rfl, h⟩⟩
theorem K_pieceOf (hDV : DwV Ω σ lo x S) (hv : Q32 v) (hp : Q32 p) : MC Ω M_Dw_pieceOf rm_Dw_pieceOf (OR Ω lo x (c2 (0 ≤ v ∧ v < cfn S) (0 ≤ p ∧ p ≤ 2) 1 2) (match sD S with | some r => cnL ((drC r).getD v.toNat ((0, 0), (0, 0), (0, 0), 0, 0)) p | none => 0) S σ) (XO Ω lo x S (c2 (0 ≤ v ∧ v < cfn S) (0 ≤ p ∧ p ≤ 2) 1 2) σ) σ [xr (some x), xi v, xi p] := by
  obtain ⟨-, sw, ds, el, hW⟩ := id hDV
  obtain ⟨hH, hF, hVs, hMn, -⟩ := id hW
  have f8 := hH.2.2.2.2.2.2.2.2.2.2.2.1
  refine e_Dw_pieceOf (b_Dw_pieceOf_0 ?_)
  refine c_Dw_pieceOf_2 (k_Dw_checkConflict hH hF hMn hv) hH.2.1 (by decide) (by decide) (by first | decide | omega) (by first | decide | omega) (Nat.le_of_ble_eq_true rfl) (fun σ1 hq => ?_) (fun E σx hx => Ax.out rfl (XO.of hDV hx (fun hc => c2_1 (fun z => hc (isC_iff.mpr z))) (by decide)) (by decide) (by decide))
  obtain ⟨rfl, hcf⟩ := hq
  have hcv := isC_iff.mp hcf
  have th : ¬ (0 ≤ p ∧ p ≤ 2) → ∀ {L}, Aw Ω M_Dw_pieceOf rm_Dw_pieceOf (MF Ω rm_Dw_pieceOf (OR Ω lo x (c2 (0 ≤ v ∧ v < cfn S) (0 ≤ p ∧ p ≤ 2) 1 2) (match sD S with | some r => cnL ((drC r).getD v.toNat ((0, 0), (0, 0), (0, 0), 0, 0)) p | none => 0) S σ1) (XO Ω lo x S (c2 (0 ≤ v ∧ v < cfn S) (0 ≤ p ∧ p ≤ 2) 1 2) σ1)) (0 + rm_Dw_checkConflict.cells) (0 + rm_Dw_checkConflict.slots) 14 L [] σ1 := fun h => t_Dw_pieceOf_14 (by decide) (by decide) (by decide) (by decide) (fun n' h2 => XO.of hDV ⟨rfl, h, Keep.nX h2⟩ (fun z => c2_2 hcv z) (by decide))
  refine b_Dw_pieceOf_5 ⟨hp, fun c => th (by omega), fun c => ⟨fun c3 => ⟨hH.2.1, _, f8, ?_⟩, fun c3 => th (by omega)⟩⟩
  obtain ⟨r, hr, hr1, hr2⟩ := hcf
  obtain ⟨f, s, b, T, cl, oc, h1, h2⟩ := hMn
  obtain ⟨g1, g2, -⟩ := h2 r hr
  have hS := h1.1
  have hC := h1.2.2.1
  rw [g2] at hC
  have eg : (drC r)[v.toNat]? = some ((drC r).getD v.toNat ((0, 0), (0, 0), (0, 0), 0, 0)) := by
    rw [List.getD_eq_getElem?_getD, List.getElem?_eq_getElem (by omega)]; rfl
  have := @k_Drf_linesPut Ω (x + 118 + 128 * sw) (drC r) σ1 v.toNat _ p hS hC eg hp
  rw [show ((v.toNat : Nat) : Int) = v by omega] at this
  refine c_Dw_pieceOf_31 (this) hS.2.1 (by decide) (by decide) (by first | decide | omega) (by first | decide | omega) (Nat.le_of_ble_eq_true rfl) (fun z σ3 hq => ?_) (fun _ _ hx => hx.elim)
  obtain ⟨rfl, rfl⟩ := hq
  refine r_Dw_pieceOf_34 ⟨_, rfl, c2_t hcv ⟨by omega, c3⟩, ?_, hDV, Keep.rf⟩ (by decide) (by decide)
  rw [hr]
theorem K_reviewState (hDV : DwV Ω σ lo x S) (hCn : Cnt S) (hv : Q32 v) : MC Ω M_Dw_reviewState rm_Dw_reviewState (OR Ω lo x (c1 (0 ≤ v ∧ v < (sR S).length)) (stR ((sR S).getD v.toNat rev0).2.2.2 ((sR S).getD v.toNat rev0).2.2.1) S σ) (XO Ω lo x S (c1 (0 ≤ v ∧ v < (sR S).length)) σ) σ [xr (some x), xi v] := by
  obtain ⟨⟨hlo, hls, hoE⟩, sw, ds, el, hW⟩ := id hDV
  obtain ⟨hH, hF, hVs, hMn, hSp, hCm, hPa, hNo, hRe, hBk, hPr, hTm, hDs⟩ := id hW
  obtain ⟨hc1, hc2, hc3, hc4, hc5, hc6, hc7⟩ := id hCn
  refine e_Dw_reviewState (b_Dw_reviewState_0 ?_)
  refine c_Dw_reviewState_2 (k_Dw_reviewAt hH hF (by omega) hv) hH.2.1 (by decide) (by decide) (by first | decide | omega) (by first | decide | omega) (Nat.le_of_ble_eq_true rfl) (fun r σ1 hq => ?_) (fun E σx hx => Ax.out rfl (XO.of hDV hx (fun hc => c1_f hc) (by decide)) (by decide) (by decide))
  obtain ⟨rfl, hr, rfl⟩ := hq
  have gR := hRe v.toNat (by omega)
  refine c_Dw_reviewState_5 (k_Rev_state gR) gR.2.1 (by decide) (by decide) (by first | decide | omega) (by first | decide | omega) (Nat.le_of_ble_eq_true rfl) (fun r σ2 hq => ?_) (fun _ _ hx => hx.elim)
  obtain ⟨rfl, rfl⟩ := hq
  exact r_Dw_reviewState_8 ⟨_, rfl, c1_t hr, rfl, hDV, Keep.rf⟩ (by decide) (by decide)
/-- a patch's hunks -/
def phk (S : St) (v : Int) : List Hun := (sP S).getD v.toNat []
theorem K_hunk (hDV : DwV Ω σ lo x S) (hCn : Cnt S) (hv : Q32 v) (hw : Q32 w) (hp : Q32 p) : MC Ω M_Dw_hunk rm_Dw_hunk (OR Ω lo x (c2 ((0 ≤ v ∧ v < (sP S).length) ∧ 0 ≤ w ∧ w < (phk S v).length) (0 ≤ p ∧ p < 5) 1 2) (hnPart ((phk S v).getD w.toNat (0, 0, [], [], [], [])) p) S σ) (XO Ω lo x S (c2 ((0 ≤ v ∧ v < (sP S).length) ∧ 0 ≤ w ∧ w < (phk S v).length) (0 ≤ p ∧ p < 5) 1 2) σ) σ [xr (some x), xi v, xi w, xi p] := by
  obtain ⟨⟨hlo, hls, hoE⟩, sw, ds, el, hW⟩ := id hDV
  obtain ⟨hH, hF, hVs, hMn, hSp, hCm, hPa, hNo, hRe, hBk, hPr, hTm, hDs⟩ := id hW
  obtain ⟨hc1, hc2, hc3, hc4, hc5, hc6, hc7⟩ := id hCn
  refine e_Dw_hunk (b_Dw_hunk_0 ?_)
  refine c_Dw_hunk_2 (k_Dw_patchAt hH hF (by omega) hv) hH.2.1 (by decide) (by decide) (by first | decide | omega) (by first | decide | omega) (Nat.le_of_ble_eq_true rfl) (fun r σ1 hq => ?_) (fun E σx hx => Ax.out rfl (XO.of hDV hx (fun hc => c2_1 (fun z => hc z.1)) (by decide)) (by decide) (by decide))
  obtain ⟨rfl, hr, rfl⟩ := hq
  have gP := hPa v.toNat (by omega)
  refine b_Dw_hunk_5 ?_
  refine c_Dw_hunk_6 (k_Pat_hunkAt gP hw) gP.2.1 (by decide) (by decide) (by first | decide | omega) (by first | decide | omega) (Nat.le_of_ble_eq_true rfl) (fun r σ2 hq => ?_) (fun _ _ hx => hx.elim)
  obtain ⟨rfl, hr2⟩ := hq
  rcases hr2 with ⟨H, h, q1, q2, rfl, q3⟩ | ⟨q1, rfl⟩
  · have hwl : w < (phk S v).length := by have := (List.getElem?_eq_some_iff.mp q2).1; unfold phk; omega
    have th : ¬ (0 ≤ p ∧ p < 5) → ∀ {L}, Aw Ω M_Dw_hunk rm_Dw_hunk (MF Ω rm_Dw_hunk (OR Ω lo x (c2 ((0 ≤ v ∧ v < (sP S).length) ∧ 0 ≤ w ∧ w < (phk S v).length) (0 ≤ p ∧ p < 5) 1 2) (hnPart ((phk S v).getD w.toNat (0, 0, [], [], [], [])) p) S σ2) (XO Ω lo x S (c2 ((0 ≤ v ∧ v < (sP S).length) ∧ 0 ≤ w ∧ w < (phk S v).length) (0 ≤ p ∧ p < 5) 1 2) σ2)) (0 + rm_Dw_patchAt.cells + rm_Pat_hunkAt.cells) (0 + rm_Dw_patchAt.slots + rm_Pat_hunkAt.slots) 36 L [] σ2 := fun h => t_Dw_hunk_36 (by decide) (by decide) (by decide) (by decide) (fun n' h2 => XO.of hDV ⟨rfl, h, Keep.nX h2⟩ (fun z => c2_2 ⟨hr, q1, hwl⟩ z) (by decide))
    refine b_Dw_hunk_9 ⟨fun _ => ⟨hp, fun c => th (by omega), fun c => ⟨fun c3 => ?_, fun c3 => th (by omega)⟩⟩, fun c => absurd c (by simp)⟩
    refine c_Dw_hunk_50 (k_Hnk_part q3 (show 0 ≤ p ∧ p ≤ 4 by omega)) q3.2.2.1 (by decide) (by decide) (by first | decide | omega) (by first | decide | omega) (Nat.le_of_ble_eq_true rfl) (fun r σ3 hq => ?_) (fun _ _ hx => hx.elim)
    obtain ⟨rfl, rfl⟩ := hq
    refine r_Dw_hunk_53 ⟨_, rfl, c2_t ⟨hr, q1, hwl⟩ ⟨by omega, c3⟩, ?_, hDV, Keep.rf⟩ (by decide) (by decide)
    have e : (phk S v)[w.toNat]? = some H := q2
    rw [List.getD_eq_getElem?_getD, e]; rfl
  · refine b_Dw_hunk_9 ⟨fun c => absurd rfl c, fun _ => ?_⟩
    refine t_Dw_hunk_16 (by decide) (by decide) (by decide) (by decide) (fun n' h2 => XO.of hDV ⟨rfl, q1, Keep.nX h2⟩ (fun z => c2_1 (fun y => ?_)) (by decide))
    have e : (phk S v).length = ((sP S).getD v.toNat []).length := rfl
    omega
/-- where a note is -/
def naG (b : BR) (nt : Int) : List (Int64 × Int) → Nat → Int
  | [], _ => -1
  | y :: T, i => if cmF (bkO b) (bkN b) y.2 nt = true then i else naG b nt T (i + 1)
theorem K_noteAt (hDV : DwV Ω σ lo x S) (hCn : Cnt S) (hv : Q32 v) (hw : Q32 w) (hnt : ∀ y ∈ sW S, Q32 y) (hog : ∀ i, i < bkN (sB S) → bkO (sB S) i < bkN (sB S)) (hnm : ∀ y ∈ vtx (sV S) w, Q32 y.2 ∧ y.2 < bkN (sB S)) : MC Ω M_Dw_noteAt rm_Dw_noteAt (OR Ω lo x (c1 ((0 ≤ v ∧ v < (sW S).length) ∧ isV S w)) (naG (sB S) ((sW S).getD v.toNat 0) (vtx (sV S) w) 0) S σ) (XO Ω lo x S (c1 ((0 ≤ v ∧ v < (sW S).length) ∧ isV S w)) σ) σ [xr (some x), xi v, xi w] := by
  obtain ⟨⟨hlo, hls, hoE⟩, sw, ds, el, hW⟩ := id hDV
  obtain ⟨hH, hF, hVs, hMn, hSp, hCm, hPa, hNo, hRe, hBk, hPr, hTm, hDs⟩ := id hW
  obtain ⟨hc1, hc2, hc3, hc4, hc5, hc6, hc7⟩ := id hCn
  have e15 := hF.2.2.2.2.2.1
  have th : ¬ (0 ≤ v ∧ v < (sW S).length) → ∀ {L}, Aw Ω M_Dw_noteAt rm_Dw_noteAt (MF Ω rm_Dw_noteAt (OR Ω lo x (c1 ((0 ≤ v ∧ v < (sW S).length) ∧ isV S w)) (naG (sB S) ((sW S).getD v.toNat 0) (vtx (sV S) w) 0) S σ) (XO Ω lo x S (c1 ((0 ≤ v ∧ v < (sW S).length) ∧ isV S w)) σ)) 0 0 12 L [] σ := fun h => t_Dw_noteAt_12 (by decide) (by decide) (by decide) (by decide) (fun n' h2 => XO.of hDV ⟨rfl, h, Keep.nX h2⟩ (fun z => c1_f (fun y => z y.1)) (by decide))
  refine e_Dw_noteAt (b_Dw_noteAt_0 ⟨hv, fun c => th (by omega), fun c => ⟨hH.2.1, fun _ => ⟨fun c3 => ?_, fun c3 => th (by omega)⟩⟩⟩)
  have hvv : 0 ≤ v ∧ v < (sW S).length := by omega
  refine c_Dw_noteAt_25 (k_Dw_versionAt hH hF (by omega) hw) hH.2.1 (by decide) (by decide) (by first | decide | omega) (by first | decide | omega) (Nat.le_of_ble_eq_true rfl) (fun r σ1 hq => ?_) (fun E σx hx => Ax.out rfl (XO.of hDV hx (fun hc => c1_f (fun z => hc z.2)) (by decide)) (by decide) (by decide))
  obtain ⟨rfl, hr, rfl⟩ := hq
  obtain ⟨gs, gn, gx⟩ := hVs.at hr hc2
  refine b_Dw_noteAt_28 ⟨gs.2.1, _, gs.2.2.1, ?_⟩
  have f4 := hH.2.2.2.2.2.2.2.1
  have f3 := hH.2.2.2.2.2.2.1
  have k4 := hH.2.2.2.2.2.2.2.2.2.2.2.2.2.2.2.2
  have hl := gx.2.2.2.2.2.2.2.2.2.1
  have eg : (sW S)[v.toNat]? = some ((sW S).getD v.toNat 0) := by
    rw [List.getD_eq_getElem?_getD, List.getElem?_eq_getElem (by omega)]; rfl
  have hq := hnt _ (List.mem_of_getElem? eg)
  have ev := hNo _ _ eg
  have loop : ∀ (d i : Nat), i + d = (vtx (sV S) w).length → naG (sB S) ((sW S).getD v.toNat 0) ((vtx (sV S) w).drop i) i = naG (sB S) ((sW S).getD v.toNat 0) (vtx (sV S) w) 0 → Aw Ω M_Dw_noteAt rm_Dw_noteAt (MF Ω rm_Dw_noteAt (OR Ω lo x (c1 ((0 ≤ v ∧ v < (sW S).length) ∧ isV S w)) (naG (sB S) ((sW S).getD v.toNat 0) (vtx (sV S) w) 0) S σ1) (XO Ω lo x S (c1 ((0 ≤ v ∧ v < (sW S).length) ∧ isV S w)) σ1)) 1 8 35 [xr (some x), xi v, xi w, xr (some (x + 374 + 8 * w.toNat + 1)), xi i] [] σ1 := by
    intro d
    induction d with
    | zero =>
      intro i hd he
      rw [List.drop_eq_nil_of_le (by omega)] at he
      refine b_Dw_noteAt_35 ?_
      refine c_Dw_noteAt_38 (k_Txt_size gx) gx.2.1 (by decide) (by decide) (by first | decide | omega) (by first | decide | omega) (Nat.le_of_ble_eq_true rfl) (fun r σ4 hq => ?_) (fun _ _ hx => hx.elim)
      obtain ⟨rfl, rfl⟩ := hq
      refine b_Dw_noteAt_41 ⟨by omega, by omega, fun _ => ?_, fun c => absurd (by omega) c⟩
      exact r_Dw_noteAt_76 ⟨_, rfl, c1_t ⟨hvv, hr⟩, by rw [← he]; rfl, hDV, Keep.rf⟩ (by decide) (by decide)
    | succ d ih =>
      intro i hd he
      have li : i < (vtx (sV S) w).length := by omega
      have ei : (vtx (sV S) w)[i]? = some (vtx (sV S) w)[i] := List.getElem?_eq_getElem li
      have hy := hnm _ (List.mem_of_getElem? ei)
      have en : nmA (vtx (sV S) w) (i : Int) = ((vtx (sV S) w)[i]).2 := nmA_some (by omega) ei
      rw [List.drop_eq_getElem_cons li, naG] at he
      refine b_Dw_noteAt_35 ?_
      refine c_Dw_noteAt_38 (k_Txt_size gx) gx.2.1 (by decide) (by decide) (by first | decide | omega) (by first | decide | omega) (Nat.le_of_ble_eq_true rfl) (fun r σ4 hq => ?_) (fun _ _ hx => hx.elim)
      obtain ⟨rfl, rfl⟩ := hq
      refine b_Dw_noteAt_41 ⟨by omega, by omega, fun c => absurd c (by omega), fun _ => ⟨hH.2.1, _, f4, ?_⟩⟩
      refine c_Dw_noteAt_51 (k_Txt_nameAt gx (by omega)) gx.2.1 (by decide) (by decide) (by first | decide | omega) (by first | decide | omega) (Nat.le_of_ble_eq_true rfl) (fun r σ5 hq => ?_) (fun _ _ hx => hx.elim)
      obtain ⟨rfl, rfl, -⟩ := hq
      rw [en]
      refine b_Dw_noteAt_54 ⟨hH.2.1, _, f3, k4.1, by omega, by omega, fun _ => ?_⟩
      rw [ev]
      refine c_Dw_noteAt_60 (k_Lbk_isOrComesFrom hBk hq hog hy.1 hy.2) hBk.2.1 (by decide) (by decide) (by first | decide | omega) (by first | decide | omega) (Nat.le_of_ble_eq_true rfl) (fun r σ6 hq => ?_) (fun _ _ hx => hx.elim)
      obtain ⟨rfl, rfl⟩ := hq
      by_cases hh : cmF (bkO (sB S)) (bkN (sB S)) ((vtx (sV S) w)[i]).2 ((sW S).getD v.toNat 0) = true
      · rw [if_pos hh] at he ⊢
        refine b_Dw_noteAt_63 ⟨by decide, fun c => absurd c (by decide), fun _ => ?_⟩
        exact r_Dw_noteAt_68 ⟨_, rfl, c1_t ⟨hvv, hr⟩, by rw [← he], hDV, Keep.rf⟩ (by decide) (by decide)
      · rw [if_neg hh] at he ⊢
        exact b_Dw_noteAt_63 ⟨by decide, fun _ => ih (i + 1) (by omega) he, fun c => absurd rfl c⟩
  exact loop _ 0 (Nat.zero_add _) rfl
end RDP
