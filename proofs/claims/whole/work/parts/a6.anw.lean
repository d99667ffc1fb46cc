/-! BY HAND: a text made anew -/
def rG (S : St) (v2 : Int) : Tl := if v2 = -1 then [] else vtx (sV S) v2
def rB (S : St) (v1 v2 : Int) : Tl := if v2 = -1 then [] else vtx (sV S) (bsN (sV S) v1 v2 : Nat)
noncomputable def rpS (S : St) (v1 v2 : Int) : Tl × List Cnl := if v2 = -1 then (vtx (sV S) v1, []) else mgW S v1 v2
/-- what is known of how a version was made -/
def RpV (x : Nat) (S : St) (i : Nat) : Prop := (isV S (vr1 (vrO (sV S) i)) ∧ vr1 (vrO (sV S) i) < i) ∧ (vr2 (vrO (sV S) i) = -1 ∨ isV S (vr2 (vrO (sV S) i)) ∧ vr2 (vrO (sV S) i) < i) ∧ ∃ C', Rpl x (sP S) (vtx (sV S) (vr1 (vrO (sV S) i))) (rG S (vr2 (vrO (sV S) i))) (rB S (vr1 (vrO (sV S) i)) (vr2 (vrO (sV S) i))) (rpS S (vr1 (vrO (sV S) i)) (vr2 (vrO (sV S) i))).1 (rpS S (vr1 (vrO (sV S) i)) (vr2 (vrO (sV S) i))).2 (vrE (vrO (sV S) i)) (vrT (vrO (sV S) i)) C'
section ANW
variable {Ω : Om} {σ0 : Sto} {lo x sw i0 d f s b : Nat} {S : St} {ds : Nat → Nat} {el : Nat → List Nat} {F G B : Tl}
theorem pfO_opn {cl : List Cnl} {E : Edi} {hs : List Hun} {F S B T : Tl} (h : POK hs F S B T cl (opn cl) E) : pfO (opn cl) E = (opn (pfC cl E) : Nat) := by
  unfold pfO pfC
  by_cases h4 : edK E = 4
  · rw [if_pos h4, if_pos h4]
    obtain ⟨-, c, hc, hs, -⟩ := h.2.2.2.2.1 h4
    rw [hc]
    have := opn_stC (how := edD E) hc hs
    show ((opn cl : Nat) : Int) - 1 = ((opn (stC cl (edT E).toNat c (edD E)) : Nat) : Int)
    omega
  · rw [if_neg h4, if_neg h4]
theorem an_f {σ : Sto} (hW : DwW Ω σ0 lo x S sw ds el) (hlo : x + 753 < lo) (hi0 : i0 < 40) (h3 : Tx3 σ0 f s b (stp F) (stp G) (stp B)) (df : DO (x + 118 + 128 * (1 - sw)) f) (dg : DO (x + 118 + 128 * (1 - sw)) s) (db : DO (x + 118 + 128 * (1 - sw)) b) (k : Keep σ0 σ (WP (x + 118 + 128 * (1 - sw)))) :
    DwH σ x sw ∧ VrS σ (x + 374 + 8 * i0) ∧ Ls Ω σ lo (x + 374 + 8 * i0 + 7) (ds i0) (el i0) ∧ EdsV σ lo (el i0) (vrE (vrO (sV S) i0)) ∧ Tx3 σ f s b (stp F) (stp G) (stp B) ∧ PaV σ lo x (sP S) ∧ ∃ N, Tx σ (x + 374 + 8 * i0 + 4) N := by
  obtain ⟨h1, h2, h3', h4, h5, h6, h7, -⟩ := hW
  obtain ⟨⟨N, hV, -, -⟩, hE, -⟩ := h3' i0 hi0
  obtain ⟨g1, g2, g3⟩ := h3
  have hs := h1.2.2.1
  have hV' := hV.keep k (fun q q1 q2 q3 => by omega) (fun q1 q2 => by omega)
  exact ⟨h1.keep k (fun q q1 q2 q3 => by omega), hV'.1, hV'.2.2.2.2, hE.keep k (fun q q1 _ q3 => by omega), ⟨g1.keep k (fun q q1 q2 q3 => by omega), g2.keep k (fun q q1 q2 q3 => by omega), g3.keep k (fun q q1 q2 q3 => by omega)⟩, h7.keep k (fun q q1 q2 q3 => by omega) (fun q q1 _ q3 => by omega), N, hV'.2.2.2.1⟩
theorem an_loop {u : Nat} {T' : Tl} {C' : List Cnl} {Q : Sto → Prop} (hW : DwW Ω σ0 lo x S sw ds el) (hlo : x + 753 < lo) (hP10 : (sP S).length ≤ 10) (hi0 : i0 < 40) (hel : (el i0).length ≤ 520) (h3 : Tx3 σ0 f s b (stp F) (stp G) (stp B)) (lF : F.length ≤ 20) (lG : G.length ≤ 20) (lB : B.length ≤ 20) (df : DO (x + 118 + 128 * (1 - sw)) f) (dg : DO (x + 118 + 128 * (1 - sw)) s) (db : DO (x + 118 + 128 * (1 - sw)) b)
    (hQ : ∀ (σ' σa : Sto) (T2 : Tl) (C2 : List Cnl), DfV Ω σa lo (x + 118 + 128 * (1 - sw)) f s b d T2 C2 (opn C2) [] → Keep σ0 σa (WP (x + 118 + 128 * (1 - sw))) → Keep σa σ' (In (x + 374 + 8 * i0 + 4) (x + 374 + 8 * i0 + 7)) → Tx σ' (x + 374 + 8 * i0 + 4) (stp T') → Q σ') :
    ∀ (Es : List Edi) (i : Nat) (T : Tl) (C : List Cnl) (σ : Sto), Es = (vrE (vrO (sV S) i0)).drop i → i ≤ (vrE (vrO (sV S) i0)).length → Rpl x (sP S) F G B T C Es T' C' → DfV Ω σ lo (x + 118 + 128 * (1 - sw)) f s b d (stp T) C (opn C) [] → Keep σ0 σ (WP (x + 118 + 128 * (1 - sw))) →
    Aw Ω M_Dw_makeAnew rm_Dw_makeAnew (MF Ω rm_Dw_makeAnew (RV Q) XN) 0 0 105 [xr (some x), xr (some (x + 374 + 8 * i0)), xr (some u), xi i] [] σ := by
  intro Es
  induction Es with
  | nil =>
    intro i T C σ hEs hi hR hD k
    obtain ⟨hH, hS, hL, hE, h3', hP, N, hN⟩ := an_f hW hlo hi0 h3 df dg db k
    have f9 := hH.2.2.2.2.2.2.2.2.2.2.2.2.1
    have hs := hH.2.2.1
    have e1 : (vrE (vrO (sV S) i0)).length ≤ i := by have := congrArg List.length hEs; rw [List.length_drop, List.length_nil] at this; omega
    have e2 := hE.1
    refine b_Dw_makeAnew_105 ⟨hS.2.1, _, hS.2.2.2.2, ?_⟩
    refine c_Dw_makeAnew_110 (k_Lst_size hL (by omega)) hL.2.2.1 (by decide) (by decide) (by first | decide | omega) (by first | decide | omega) (Nat.le_of_ble_eq_true rfl) (fun z σ2 hq => ?_) (fun _ _ hx => hx.elim)
    obtain ⟨rfl, rfl⟩ := hq
    refine b_Dw_makeAnew_113 ⟨by omega, by omega, fun c => ⟨hS.2.1, _, hS.2.2.2.1, hH.2.1, _, f9, hD.1.2.1, _, hD.1.2.2.1, ?_⟩, fun c => absurd c (by omega)⟩
    refine c_Dw_makeAnew_152 (k_Txt_copy hN hD.2.2.2.2.1 (by omega)) hN.2.1 (by decide) (by decide) (by first | decide | omega) (by first | decide | omega) (Nat.le_of_ble_eq_true rfl) (fun σ9 hq => ?_) (fun _ _ hx => hx.elim)
    obtain ⟨hT9, k9⟩ := hq
    exact r_Dw_makeAnew_155 ⟨rfl, hQ _ σ2 (stp T) C hD k k9 (by rw [← hR.1]; exact hT9)⟩ (by decide) (by decide)
  | cons E Es ih =>
    intro i T C σ hEs hi hR hD k
    obtain ⟨hH, hS, hL, hE, h3', hP, N, hN⟩ := an_f hW hlo hi0 h3 df dg db k
    have f9 := hH.2.2.2.2.2.2.2.2.2.2.2.2.1
    have hs := hH.2.2.1
    have e1 : i < (vrE (vrO (sV S) i0)).length := by
      rcases Nat.lt_or_ge i (vrE (vrO (sV S) i0)).length with h | h
      · exact h
      · rw [List.drop_eq_nil_of_le h] at hEs; cases hEs
    have e2 := hE.1
    rw [List.drop_eq_getElem_cons e1] at hEs
    obtain ⟨eE, eEs⟩ := List.cons.inj hEs
    have hE1 : (vrE (vrO (sV S) i0))[i]? = some E := by rw [eE]; exact List.getElem?_eq_getElem e1
    have he : (el i0)[i]? = some ((el i0)[i]'(by omega)) := List.getElem?_eq_getElem (by omega)
    have hEd := hE.2 _ _ _ he hE1
    obtain ⟨r1, r2, r3, r4, r5, r6⟩ := hR
    refine b_Dw_makeAnew_105 ⟨hS.2.1, _, hS.2.2.2.2, ?_⟩
    refine c_Dw_makeAnew_110 (k_Lst_size hL (by omega)) hL.2.2.1 (by decide) (by decide) (by first | decide | omega) (by first | decide | omega) (Nat.le_of_ble_eq_true rfl) (fun z σ2 hq => ?_) (fun _ _ hx => hx.elim)
    obtain ⟨rfl, rfl⟩ := hq
    refine b_Dw_makeAnew_113 ⟨by omega, by omega, fun c => absurd c (by omega), fun c => ⟨hH.2.1, _, f9, hS.2.1, _, hS.2.2.2.2, ?_⟩⟩
    refine c_Dw_makeAnew_125 (k_Lst_get hL he) hL.2.2.1 (by decide) (by decide) (by first | decide | omega) (by first | decide | omega) (Nat.le_of_ble_eq_true rfl) (fun y σ2 hq => ?_) (fun _ _ hx => hx.elim)
    obtain ⟨rfl, rfl⟩ := hq
    refine b_Dw_makeAnew_128 ⟨hEd.2.2.1, ?_⟩
    have hX := hD.2.2.2.2.1
    rw [r1] at hX
    have hEP : EdP σ2 lo E ((sP S).getD (edT E).toNat []) := fun h5 => by
      obtain ⟨q1, q2, q3⟩ := r4 h5
      exact ⟨_, q1, by omega, hP _ (by omega)⟩
    have hp : ∀ p, edP E = some p → p + 1 < x + 118 + 128 * (1 - sw) ∨ x + 118 + 128 * (1 - sw) + 127 < p := fun p hp => by
      by_cases h5 : edK E = 5
      · obtain ⟨q1, q2, q3⟩ := r4 h5
        rw [q1] at hp
        cases hp
        omega
      · rw [r5 h5] at hp; cases hp
    have qm : ∀ {U : Tl}, ∀ y ∈ stp U, Q32 y.2 := fun y hy => by rw [stp_m1 y hy]; decide
    refine c_Dw_makeAnew_131 (k_Drf_perform hD.1 hD.2.1 hD.2.2.1 hD.2.2.2.1 h3' hX hEd hEP hp (stp_POK r3) (by rw [stp_len]; exact lF) (by rw [stp_len]; exact lG) (by rw [stp_len]; exact lB) df dg db qm qm qm (by omega)) hD.1.2.1 (by decide) (by decide) (by first | decide | omega) (by first | decide | omega) (Nat.le_of_ble_eq_true rfl) (fun y σ3 hq => ?_) (fun _ _ hx => hx.elim)
    obtain ⟨-, g1, g2, g3, g4, g5, g6, g7⟩ := hq
    rw [stp_pf] at g5
    rw [pfO_opn r3] at g4
    have hh := ih (i + 1) _ _ σ3 eEs (by omega) r6 ⟨g1, g2, g3, g4, g5, hD.2.2.2.2.2.1.keep g6 (fun q q1 q2 q3 => by omega), hD.2.2.2.2.2.2.keep g6 (by omega) (fun q1 q2 => by omega)⟩ (k.trans g6)
    refine b_Dw_makeAnew_134 ?_
    rw [show (((i + 1 : Nat)) : Int) = (i : Int) + 1 by omega] at hh
    exact hh
end ANW
