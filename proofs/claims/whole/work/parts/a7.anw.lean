/-! BY HAND: a text made anew, 2 -/
section ANX
variable {Ω : Om} {σ σ' : Sto} {lo x sw i0 : Nat} {S : St} {ds : Nat → Nat} {el : Nat → List Nat} {v p : Int}
/-- a version's text made anew changes nothing else -/
theorem DwW.anw {N' : Tl} (hW : DwW Ω σ lo x S sw ds el) (hlo : x + 753 < lo) (h1 : 1 ≤ i0) (h40 : i0 < 40) (k : Keep σ σ' (In (x + 374 + 8 * i0 + 4) (x + 374 + 8 * i0 + 7))) (hT : Tx σ' (x + 374 + 8 * i0 + 4) (stp N')) (hl : N'.length ≤ 20) : DwW Ω σ' lo x S sw ds el := by
  obtain ⟨b1, b2, -, b4, b5, b6, b7, b8, b9, b10, b11, b12, b13⟩ := hW.but k (by omega) (by omega) hlo
  have hs := b1.2.2.1
  refine ⟨b1, b2, fun v hv => ?_, b4 (by omega), b5 (by omega), b6 (by omega), b7 (by omega), b8, b9 (by omega), b10 (by omega), b11 (by omega), b12 (by omega), b13⟩
  obtain ⟨⟨N, hV, g1, g2⟩, g3, g4⟩ := hW.2.2.1 v hv
  by_cases e : v = i0
  · subst e
    obtain ⟨q1, q2, q3, q4, q5⟩ := hV
    have := q1.1
    exact ⟨⟨stp N', ⟨q1.keep k (by omega), q2.keep k (by omega) (by omega), q3.keep k (fun q z1 z2 z3 => by omega), hT, q5.keep k (by omega) (fun z1 z2 => by omega)⟩, by rw [stp_len]; exact hl, fun y hy => ⟨stp_m1 y hy, by omega⟩⟩, g3.keep k (fun q z1 _ z3 => by omega), g4⟩
  · exact ⟨⟨N, hV.keep k (fun q z1 z2 z3 => by omega) (fun z1 z2 => by omega), g1, g2⟩, g3.keep k (fun q z1 _ z3 => by omega), g4⟩
/-- the spare draft changed -/
theorem DwW.spr' {f s b : Nat} {T : Tl} {C : List Cnl} {oc : Int} {es : List Nat} (hW : DwW Ω σ lo x S sw ds el) (hlo : x + 753 < lo) (k : Keep σ σ' (SpP lo (x + 118 + 128 * (1 - sw)) (ds 41))) (hD : DfV Ω σ' lo (x + 118 + 128 * (1 - sw)) f s b (ds 41) T C oc es) : DwW Ω σ' lo x S sw ds (up1 el 41 es) := by
  obtain ⟨p1, p2, p3, p4, p5, p6, p7, p8, p9, p10, p11⟩ := hW.spr hlo k
  have hDs := hW.2.2.2.2.2.2.2.2.2.2.2.2
  refine ⟨p1, p2, fun v hv => ?_, ?_, ?_, p5, p6, p7, p8, p9, p10, p11, hDs⟩
  · rw [up1g, if_neg (by omega)]; exact p3 v hv
  · rw [up1g, if_neg (by omega)]; exact p4
  · rw [up1g, if_pos rfl]; exact ⟨_, _, _, _, _, _, hD, fun r h => by cases h⟩
abbrev AnP (lo x sw d i0 : Nat) : Nat → Prop := fun q => SpP lo (x + 118 + 128 * (1 - sw)) d q ∨ In (x + 374 + 8 * i0 + 4) (x + 374 + 8 * i0 + 7) q
theorem an_end {f s b : Nat} {T2 T' : Tl} {C2 : List Cnl} {σ1 σa : Sto} (hW : DwW Ω σ lo x S sw ds el) (hlo : x + 753 < lo) (h1 : 1 ≤ i0) (h40 : i0 < 40) (k1 : Keep σ σ1 (SpP lo (x + 118 + 128 * (1 - sw)) (ds 41))) (hD : DfV Ω σa lo (x + 118 + 128 * (1 - sw)) f s b (ds 41) T2 C2 (opn C2) []) (ka : Keep σ1 σa (WP (x + 118 + 128 * (1 - sw)))) (k' : Keep σa σ' (In (x + 374 + 8 * i0 + 4) (x + 374 + 8 * i0 + 7))) (hT : Tx σ' (x + 374 + 8 * i0 + 4) (stp T')) (hl : T'.length ≤ 20) :
    ∃ el', DwW Ω σ' lo x S sw ds el' ∧ Tx σ' (x + 374 + 8 * i0 + 4) (stp T') ∧ Keep σ σ' (AnP lo x sw (ds 41) i0) := by
  have k2 : Keep σ σa (SpP lo (x + 118 + 128 * (1 - sw)) (ds 41)) := k1.trans (ka.mono (fun q _ h => Or.inl (by omega)))
  exact ⟨_, (hW.spr' hlo k2 hD).anw hlo h1 h40 k' hT hl, hT, (k2.mono (fun q _ h => Or.inl h)).trans (k'.mono (fun q _ h => Or.inr h))⟩
theorem K_makeAnew (hW : DwW Ω σ lo x S sw ds el) (hlo : x + 753 < lo) (hCn : Cnt S) (iV : IvV S) (hi : 1 ≤ i0 ∧ i0 < (sV S).length) (hR : RpV x S i0) (hes : (vrE (vrO (sV S) i0)).length ≤ 520) (hA : ∀ q : Nat, (q = (vr1 (vrO (sV S) i0)).toNat ∨ (vr2 (vrO (sV S) i0) ≠ -1 ∧ (q = (vr2 (vrO (sV S) i0)).toNat ∨ q = bsN (sV S) (vr1 (vrO (sV S) i0)) (vr2 (vrO (sV S) i0))))) → Tx σ (x + 374 + 8 * q + 4) (stp (vtx (sV S) (q : Int)))) :
    MC Ω M_Dw_makeAnew rm_Dw_makeAnew (RV fun σ' => ∃ el', DwW Ω σ' lo x S sw ds el' ∧ Tx σ' (x + 374 + 8 * i0 + 4) (stp (vrT (vrO (sV S) i0))) ∧ Keep σ σ' (AnP lo x sw (ds 41) i0)) XN σ [xr (some x), xr (some (x + 374 + 8 * i0))] := by
  obtain ⟨hH, hF, hVs, hMn, hSp, -⟩ := id hW
  obtain ⟨hc1, hc2, hc3, hc4, hc5, hc6, hc7⟩ := id hCn
  obtain ⟨⟨q1, q2⟩, q3, C', q4⟩ := hR
  generalize hr : vrO (sV S) i0 = r at *
  have hx0 := hH.1
  have hs1 := hH.2.2.1
  have f9 := hH.2.2.2.2.2.2.2.2.2.2.2.2.1
  obtain ⟨k1, z1, r1⟩ := hH.2.2.2.2.2.2.2.2.2.2.2.2.2.1
  have e12 := hF.2.2.1
  obtain ⟨⟨N, hV, -⟩, hE, -⟩ := hVs i0 (by omega)
  rw [hr] at hV hE
  obtain ⟨n7, n8, n9, n10⟩ := hV.2.1
  obtain ⟨gs1, gn1, gx1⟩ := hVs.at q1 hc2
  have e1 := hE.1
  obtain ⟨f0, s0, b0, T0, cl0, oc0, hDf0, -⟩ := hSp
  have lvt : ∀ v : Int, (vtx (sV S) v).length ≤ 20 := fun v => (iV.1 v).1
  have hl : (vrT r).length ≤ 20 := by have := lvt (i0 : Int); unfold vtx at this; rw [Int.toNat_natCast, hr] at this; exact this
  have qm : ∀ {U : Tl}, ∀ y ∈ stp U, Q32 y.2 := fun y hy => by rw [stp_m1 y hy]; decide
  have hA1 := hA (vr1 r).toNat (Or.inl rfl)
  rw [show (((vr1 r).toNat : Nat) : Int) = vr1 r by omega] at hA1
  have eu : up1 el 41 ([] : List Nat) i0 = el i0 := by rw [up1g, if_neg (by omega)]
  refine e_Dw_makeAnew (b_Dw_makeAnew_0 ⟨hV.1.2.1, ?_⟩)
  rw [n8, n9, e12]
  refine fun _ => ⟨fun c => absurd c (by omega), fun _ => fun _ => ⟨hH.2.1, fun _ => ⟨fun _ => ⟨_, hH.2.2.2.1, fun _ => ⟨k1, by omega, by omega, _, r1 _ (by omega), gs1.2.1, _, gs1.2.2.2.1, fun _ => ⟨fun c2 => ⟨_, f9, ?_⟩, fun c2 => fun _ => fun _ => ⟨fun c3 => fun _ => fun _ => ?_, fun c3 => absurd c3 (by omega)⟩⟩⟩⟩, fun c => absurd c (by omega)⟩⟩⟩
  · have e2 : vr2 r = -1 := by omega
    unfold rpS rG rB at q4
    rw [if_pos e2, if_pos e2, if_pos e2] at q4
    refine c_Dw_makeAnew_55 (k_Drf_startFrom hDf0.1 hDf0.2.2.1 hDf0.2.2.2.2.1 hDf0.2.2.2.2.2.1 hDf0.2.2.2.2.2.2 hA1 (by omega) (by omega) (by omega)) hDf0.1.2.1 (by decide) (by decide) (by first | decide | omega) (by first | decide | omega) (Nat.le_of_ble_eq_true rfl) (fun σ1 hq => ?_) (fun _ _ hx => hx.elim)
    obtain ⟨hDf1, kk1⟩ := hq
    have ks : Keep σ σ1 (SpP lo (x + 118 + 128 * (1 - sw)) (ds 41)) := kk1.mono (fun q _ h => by
      rcases h with h | h | h
      · exact Or.inl (by omega)
      · exact Or.inl (by omega)
      · exact Or.inr h)
    have hF1 := hA1.keep ks (fun q z1 z2 z3 => by omega)
    have hZ := hDf1.2.2.2.2.2.1
    refine b_Dw_makeAnew_58 ?_
    exact an_loop (el := up1 el 41 []) (G := []) (B := []) (hW.spr' hlo ks hDf1) hlo hc3 (by omega) (by rw [eu]; omega) ⟨hF1, hZ, hZ⟩ (lvt _) (Nat.zero_le _) (Nat.zero_le _) (by omega) (by omega) (by omega) (fun σ' σa T2 C2 g1 g2 g3 g4 => an_end hW hlo hi.1 (by omega) ks g1 g2 g3 g4 hl) _ 0 _ _ σ1 (by rw [hr]; rfl) (Nat.zero_le _) q4 hDf1 Keep.rf
  · have e2 : vr2 r ≠ -1 := by omega
    have q5 := q3.resolve_left e2
    unfold rpS rG rB at q4
    rw [if_neg e2, if_neg e2, if_neg e2] at q4
    have hb := bsN_isV q1 q5.1
    obtain ⟨gs2, -, -⟩ := hVs.at q5.1 hc2
    obtain ⟨gs3, -, -⟩ := hVs.at hb hc2
    have hA2 := hA (vr2 r).toNat (Or.inr ⟨e2, Or.inl rfl⟩)
    rw [show (((vr2 r).toNat : Nat) : Int) = vr2 r by omega] at hA2
    have hA3 := hA (bsN (sV S) (vr1 r) (vr2 r)) (Or.inr ⟨e2, Or.inr rfl⟩)
    refine c_Dw_makeAnew_70 (k_Dw_baseOf hW hCn q1 q5.1) hH.2.1 (by decide) (by decide) (by first | decide | omega) (by first | decide | omega) (Nat.le_of_ble_eq_true rfl) (fun y σ2 hq => ?_) (fun _ _ hx => hx.elim)
    obtain ⟨rfl, rfl⟩ := hq
    refine b_Dw_makeAnew_73 ⟨hH.2.1, _, f9, _, hH.2.2.2.1, hV.1.2.1, ?_⟩
    rw [n9]
    refine fun _ => ⟨k1, by omega, by omega, _, r1 _ (by omega), gs2.2.1, _, gs2.2.2.2.1, by omega, by omega, _, r1 _ (by omega), gs3.2.1, _, gs3.2.2.2.1, ?_⟩
    rw [Int.toNat_natCast]
    have h3t : Tx3 σ2 (x + 374 + 8 * (vr1 r).toNat + 4) (x + 374 + 8 * (vr2 r).toNat + 4) (x + 374 + 8 * bsN (sV S) (vr1 r) (vr2 r) + 4) (stp (vtx (sV S) (vr1 r))) (stp (vtx (sV S) (vr2 r))) (stp (vtx (sV S) (bsN (sV S) (vr1 r) (vr2 r) : Nat))) := ⟨hA1, hA2, hA3⟩
    refine c_Dw_makeAnew_100 (k_Drf_weave hDf0.1 hDf0.2.2.1 hDf0.2.2.2.2.1 hDf0.2.2.2.2.2.1 hDf0.2.2.2.2.2.2 h3t (by rw [stp_len]; exact lvt _) (by rw [stp_len]; exact lvt _) (by rw [stp_len]; exact lvt _) (by omega) (by omega) (by omega) qm qm (by omega) (by omega) (by omega) (by omega)) hDf0.1.2.1 (by decide) (by decide) (by first | decide | omega) (by first | decide | omega) (Nat.le_of_ble_eq_true rfl) (fun σ1 hq => ?_) (fun _ _ hx => hx.elim)
    obtain ⟨hDf1, kk1⟩ := hq
    rw [stp_wvA] at hDf1
    have ew : wvA (vtx (sV S) (vr1 r)) (vtx (sV S) (vr2 r)) (vtx (sV S) (bsN (sV S) (vr1 r) (vr2 r) : Nat)) = mgW S (vr1 r) (vr2 r) := rfl
    rw [ew] at hDf1
    have eo : (mgW S (vr1 r) (vr2 r)).2.length = opn (mgW S (vr1 r) (vr2 r)).2 := (wvA_opn _ _ _).symm
    have hDf2 : DfV Ω σ1 lo (x + 118 + 128 * (1 - sw)) (x + 374 + 8 * (vr1 r).toNat + 4) (x + 374 + 8 * (vr2 r).toNat + 4) (x + 374 + 8 * bsN (sV S) (vr1 r) (vr2 r) + 4) (ds 41) (stp (mgW S (vr1 r) (vr2 r)).1) (mgW S (vr1 r) (vr2 r)).2 (opn (mgW S (vr1 r) (vr2 r)).2) [] := by rw [← eo]; exact hDf1
    have ks : Keep σ2 σ1 (SpP lo (x + 118 + 128 * (1 - sw)) (ds 41)) := kk1.mono (fun q _ h => by
      rcases h with h | h | h
      · exact Or.inl (by omega)
      · exact Or.inl (by omega)
      · exact Or.inr h)
    refine Aw.iconst d_Dw_makeAnew_103 ?_
    refine Aw.istore_n (by decide) d_Dw_makeAnew_104 ?_
    refine Aw.toL (L' := [xr (some x), xr (some (x + 374 + 8 * i0)), xr (some (x + 374 + 8 * (vr1 r).toNat + 4)), xi 0]) rfl ?_
    exact an_loop (el := up1 el 41 []) (hW.spr' hlo ks hDf2) hlo hc3 (by omega) (by rw [eu]; omega) ⟨hA1.keep ks (fun q z1 z2 z3 => by omega), hA2.keep ks (fun q z1 z2 z3 => by omega), hA3.keep ks (fun q z1 z2 z3 => by omega)⟩ (lvt _) (lvt _) (lvt _) (by omega) (by omega) (by omega) (fun σ' σa T2 C2 g1 g2 g3 g4 => an_end hW hlo hi.1 (by omega) ks g1 g2 g3 g4 hl) _ 0 _ _ σ1 (by rw [hr]; rfl) (Nat.zero_le _) q4 hDf2 Keep.rf
end ANX
