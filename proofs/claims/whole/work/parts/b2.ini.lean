/-! BY HAND: making the parts of the class, 2 -/
section INJ
variable {Ω : Om} {σ : Sto} {lo t v : Nat}
theorem k_Trm_init (ha : sK σ t = 11) (hn : sN σ = t + 1) : MC Ω M_Trm_init rm_Trm_init (RV fun σ' => TmS σ' t ∧ sN σ' = t + 54 ∧ Keep σ σ' (At1 t)) XN σ [xr (some t)] := by
  refine e_Trm_init (b_Trm_init_0 ⟨by decide, Nat.le_of_ble_eq_true rfl, by decide, by decide, fun σ7 e7 => ?_⟩)
  have k7 : sK σ7 t = 11 := by rw [e7, sK_nO, if_neg (by omega)]; exact ha
  have n7 : sN σ7 = t + 2 := by rw [e7, sN_nO, hn]
  have q7 : sK σ7 (t + 1) = 51 := by rw [e7, sK_nO, if_pos (by omega)]
  have z7 : sZ σ7 (t + 1) = 22 := by rw [e7, sZ_nO, if_pos (by omega)]
  have kk7 : Keep σ σ7 (At1 t) := by rw [e7]; exact Keep.nO
  refine ⟨k7, by decide, by decide, fun σ13 e13 => ?_⟩
  rw [hn] at e13
  obtain ⟨n13, q13, z13, f13, g13, k13, kk13⟩ := al_step e13 (by omega)
  rw [n7] at n13 q13 z13
  refine ⟨k13.trans k7, by decide, by decide, fun σ19 e19 => ?_⟩
  rw [n7] at e19
  obtain ⟨n19, q19, z19, f19, g19, k19, kk19⟩ := al_step e19 (by omega)
  rw [n13] at n19 q19 z19
  refine ⟨k19.trans (k13.trans k7), by decide, by decide, fun σ25 e25 => ?_⟩
  rw [n13] at e25
  obtain ⟨n25, q25, z25, f25, g25, k25, kk25⟩ := al_step e25 (by omega)
  rw [n19] at n25 q25 z25
  have kc25 := k25.trans (k19.trans (k13.trans k7))
  refine ⟨kc25, ?_⟩
  rw [n19]
  generalize hτ : uR σ25 643 t (some (t + 2 + 1 + 1)) = τ
  have nτ : sN τ = t + 5 := by rw [← hτ]; show sN σ25 = t + 5; omega
  have kτ : Keep σ25 τ (At1 t) := by rw [← hτ]; exact kuR1
  have cτ : sK τ t = 11 := by rw [← hτ]; exact kc25
  refine Aw.multi (a := 22) (b := 22) cl_Trm_25 (by decide) (by decide) (by decide) (by decide) d_Trm_init_41 ?_
  obtain ⟨m1, m2, m3⟩ := mO_f τ 22 22 22
  have m4 := mO_g τ 22 22 22
  have m5 := mO_k τ 22 22 22
  rw [nτ] at m1 m2 m3 m4
  show Aw Ω M_Trm_init rm_Trm_init _ _ _ 45 _ [xr (some (sN τ)), xr (some t)] (mO τ 22 22 22)
  rw [nτ]
  generalize mO τ 22 22 22 = υ at *
  have kυ := m5.2 t (by omega) (by intro z; exact z)
  refine b_Trm_init_45 ⟨kυ.1.trans cτ, ?_⟩
  generalize hρ : uR υ 644 t (some (t + 5)) = ρ
  have nρ : sN ρ = t + 28 := by rw [← hρ]; show sN υ = t + 28; omega
  have kρ : Keep υ ρ (At1 t) := by rw [← hρ]; exact kuR1
  have cρ : sK ρ t = 11 := by rw [← hρ]; exact kυ.1.trans cτ
  refine Aw.multi (a := 22) (b := 22) cl_Trm_25 (by decide) (by decide) (by decide) (by decide) d_Trm_init_53 ?_
  obtain ⟨w1, w2, w3⟩ := mO_f ρ 22 22 22
  have w4 := mO_g ρ 22 22 22
  have w5 := mO_k ρ 22 22 22
  rw [nρ] at w1 w2 w3 w4
  show Aw Ω M_Trm_init rm_Trm_init _ _ _ 57 _ [xr (some (sN ρ)), xr (some t)] (mO ρ 22 22 22)
  rw [nρ]
  generalize mO ρ 22 22 22 = ω at *
  have kω := w5.2 t (by omega) (by intro z; exact z)
  have cω := kω.1.trans cρ
  refine b_Trm_init_57 ⟨cω, by decide, by decide, fun σ6 e6 => ?_⟩
  obtain ⟨n6, q6, z6, f6, g6, k6, kk6⟩ := al_step e6 (by omega)
  rw [w1] at n6 q6 z6
  refine ⟨k6.trans cω, by decide, by decide, fun σ12 e12 => ?_⟩
  rw [w1] at e12
  obtain ⟨n12, q12, z12, f12, g12, k12, kk12⟩ := al_step e12 (by omega)
  rw [n6] at n12 q12 z12
  refine ⟨k12.trans (k6.trans cω), by decide, by decide, fun σ18 e18 => ?_⟩
  rw [n6] at e18
  obtain ⟨n18, q18, z18, f18, g18, k18, kk18⟩ := al_step e18 (by omega)
  rw [n12] at n18 q18 z18
  refine ⟨k18.trans (k12.trans (k6.trans cω)), ?_⟩
  rw [n12]
  generalize hσ : uI (uI (uR σ18 648 t (some (t + 28 + 1 + 22 + 1 + 1))) 649 t 0) 650 t 0 = σF
  have kF : Keep σ18 σF (At1 t) := by rw [← hσ]; exact (kuR1.trans kuI1).trans kuI1
  have nF : sN σF = t + 54 := by rw [← hσ]; show sN σ18 = t + 54; omega
  have kF12 := kk18.trans kF
  have kF6 := kk12.trans kF12
  have kFω := kk6.trans kF6
  have kFρ : Keep ρ σF (At1 t) := (w5.mono (fun _ _ h => h.elim)).trans kFω
  have kFυ := kρ.trans kFρ
  have kFτ : Keep τ σF (At1 t) := (m5.mono (fun _ _ h => h.elim)).trans kFυ
  have kF25 := kτ.trans kFτ
  have kF19 := kk25.trans kF25
  have kF13 := kk19.trans kF19
  have kF7 := kk13.trans kF13
  have h18 : ∀ f, f ≠ 648 → fR σF f t = fR σ18 f t := fun f hf => by rw [← hσ, fR_uI, fR_uI, fR_uR, if_neg (fun z => hf z.1)]
  have hω : ∀ f, f ≠ 645 → f ≠ 646 → f ≠ 647 → f ≠ 648 → fR σF f t = fR ρ f t := fun f h1 h2 h3 h4 => by
    rw [h18 f h4, g18 f h3, g12 f h2, g6 f h1]; exact kω.2.2.2.2.1 f
  have hυ : ∀ f, f ≠ 644 → fR ρ f t = fR τ f t := fun f h1 => by
    rw [← hρ, fR_uR, if_neg (fun z => h1 z.1)]; exact kυ.2.2.2.2.1 f
  have hτ' : ∀ f, f ≠ 643 → fR τ f t = fR σ25 f t := fun f h1 => by rw [← hτ, fR_uR, if_neg (fun z => h1 z.1)]
  have a1 := kF7.2 (t + 1) (by omega) (by omega)
  have a2 := kF13.2 (t + 2) (by omega) (by omega)
  have a3 := kF19.2 (t + 3) (by omega) (by omega)
  have a4 := kF25.2 (t + 4) (by omega) (by omega)
  have a5 := kFυ.2 (t + 5) (by omega) (by omega)
  have a28 := kFω.2 (t + 28) (by omega) (by omega)
  have a51 := kF6.2 (t + 51) (by omega) (by omega)
  have a52 := kF12.2 (t + 52) (by omega) (by omega)
  have a53 := kF.2 (t + 53) (by omega) (by omega)
  refine r_Trm_init_94 ⟨rfl, ⟨by omega, ?_, ?_, ?_, ?_, ?_, ?_, ?_, ?_, ?_, ?_, a1.1.trans q7, a2.1.trans q13, a3.1.trans q19, a4.1.trans q25, a5.1.trans m2, a28.1.trans w2, a51.1.trans q6, a52.1.trans q12, a53.1.trans q18, a1.2.1.trans z7, a2.2.1.trans z13, a3.2.1.trans z19, a4.2.1.trans z25, a5.2.1.trans m3, a28.2.1.trans w3, a51.2.1.trans z6, a52.2.1.trans z12, a53.2.1.trans z18, fun i hi => ?_, fun i hi => ?_⟩, nF, kk7.trans kF7⟩ (by decide) (by decide)
  · rw [← hσ]; exact k18.trans (k12.trans (k6.trans cω))
  · rw [hω _ (by omega) (by omega) (by omega) (by omega), hυ _ (by omega), hτ' _ (by omega), g25 _ (by omega), g19 _ (by omega), f13]
  · rw [hω _ (by omega) (by omega) (by omega) (by omega), hυ _ (by omega), hτ' _ (by omega), g25 _ (by omega), f19]
  · rw [hω _ (by omega) (by omega) (by omega) (by omega), hυ _ (by omega), hτ' _ (by omega), f25]
  · rw [hω _ (by omega) (by omega) (by omega) (by omega), hυ _ (by omega), ← hτ, fR_uR, if_pos ⟨rfl, rfl⟩]
  · rw [hω _ (by omega) (by omega) (by omega) (by omega), ← hρ, fR_uR, if_pos ⟨rfl, rfl⟩]
  · rw [h18 _ (by omega), g18 _ (by omega), g12 _ (by omega), f6]
  · rw [h18 _ (by omega), g18 _ (by omega), f12]
  · rw [h18 _ (by omega), f18]
  · rw [← hσ, fR_uI, fR_uI, fR_uR, if_pos ⟨rfl, rfl⟩]
  · obtain ⟨r1, r2, r3⟩ := m4 i (by omega)
    have bi := kFυ.2 (t + 5 + 1 + i) (by omega) (by omega)
    refine ⟨?_, ?_, ?_⟩
    · rw [a5.2.2.2.2.2.2.2, r1]
    · rw [show t + 6 + i = t + 5 + 1 + i by omega]; exact bi.1.trans r2
    · rw [show t + 6 + i = t + 5 + 1 + i by omega]; exact bi.2.1.trans r3
  · obtain ⟨r1, r2, r3⟩ := w4 i (by omega)
    have bi := kFω.2 (t + 28 + 1 + i) (by omega) (by omega)
    refine ⟨?_, ?_, ?_⟩
    · rw [a28.2.2.2.2.2.2.2, r1]
    · rw [show t + 29 + i = t + 28 + 1 + i by omega]; exact bi.1.trans r2
    · rw [show t + 29 + i = t + 28 + 1 + i by omega]; exact bi.2.1.trans r3
theorem k_Ver_init (ha : sK σ v = 12) (hn : sN σ = v + 1) (hlo : v + 7 < lo) (hoE : oE Ω < lo) : MC Ω M_Ver_init rm_Ver_init (RV fun σ' => VrV Ω σ' lo v (oE Ω) [] [] [] (-1) (-1) (-1) 0 ∧ sN σ' = v + 8 ∧ Keep σ σ' (At1 v)) XN σ [xr (some v)] := by
  refine e_Ver_init (b_Ver_init_0 ⟨by decide, Nat.le_of_ble_eq_true rfl, by decide, by decide, fun σ1 e1 => ?_⟩)
  have k1 : sK σ1 v = 12 := by rw [e1, sK_nO, if_neg (by omega)]; exact ha
  have n1 : sN σ1 = v + 2 := by rw [e1, sN_nO, hn]
  have q1 : sK σ1 (v + 1) = 10 := by rw [e1, sK_nO, if_pos (by omega)]
  have kk1 : Keep σ σ1 (At1 v) := by rw [e1]; exact Keep.nO
  rw [hn]
  refine c_Ver_init_9 (k_Txt_init q1 n1) (by decide) (by decide) (by first | decide | omega) (by first | decide | omega) (Nat.le_of_ble_eq_true rfl) (fun σ2 hq => ?_) (fun _ _ hx => hx.elim)
  obtain ⟨h2, n2, k2⟩ := hq
  have c2 := (k2.2 v (by omega) (by omega))
  refine b_Ver_init_12 ⟨c2.1.trans k1, by decide, by decide, fun σ3 e3 => ?_⟩
  obtain ⟨n3, q3, z3, f3, g3, c3, k3⟩ := al_step e3 (by omega)
  have e2n : sN σ2 = v + 4 := by omega
  rw [e2n] at q3 n3
  rw [e2n]
  refine c_Ver_init_20 (k_Txt_init q3 (by omega)) (by decide) (by decide) (by first | decide | omega) (by first | decide | omega) (Nat.le_of_ble_eq_true rfl) (fun σ4 hq => ?_) (fun _ _ hx => hx.elim)
  obtain ⟨h4, n4, k4⟩ := hq
  have c4 := (k4.2 v (by omega) (by omega))
  refine b_Ver_init_23 ⟨c4.1.trans (c3.trans (c2.1.trans k1)), by decide, by decide, fun σ5 e5 => ?_⟩
  obtain ⟨n5, q5, z5, f5, g5, c5, k5⟩ := al_step e5 (by omega)
  have y5 := al_zero e5 833
  have e4n : sN σ4 = v + 7 := by omega
  rw [e4n] at q5 n5 y5
  rw [e4n]
  refine c_Ver_init_31 (k_Lst_init q5 y5 (by omega) (by omega) hoE) (by decide) (by decide) (by first | decide | omega) (by first | decide | omega) (Nat.le_of_ble_eq_true rfl) (fun σ6 hq => ?_) (fun _ _ hx => hx.elim)
  obtain ⟨h6, k6, n6⟩ := hq
  have c6 := (k6.2 v (by omega) (by omega))
  have cc6 := c6.1.trans (c5.trans (c4.1.trans (c3.trans (c2.1.trans k1))))
  refine b_Ver_init_34 ⟨cc6, cc6, ?_⟩
  generalize hσ : uL (uI (uI (uI (uR σ6 706 v (some (v + 7))) 707 v (-1)) 708 v (-1)) 709 v (-1)) 710 v 0 = σF
  have kF : Keep σ6 σF (At1 v) := by rw [← hσ]; exact (((kuR1.trans kuI1).trans kuI1).trans kuI1).trans kuL1
  have nF : sN σF = v + 8 := by rw [← hσ]; show sN σ6 = v + 8; omega
  have k4F : Keep σ4 σF (At1 v) := (k5.tr k6 (fun q z1 z2 => by omega)).trans kF
  have k2F : Keep σ2 σF (At1 v) := (k3.tr k4 (fun q z1 z2 => by omega)).trans k4F
  have kA : Keep σ σF (At1 v) := (kk1.tr k2 (fun q z1 z2 => by omega)).trans k2F
  refine r_Ver_init_57 ⟨rfl, ⟨⟨by omega, ?_, ?_, ?_, ?_⟩, ⟨?_, ?_, ?_, ?_⟩, h2.keep k2F (fun q z1 z2 z3 => by omega), h4.keep k4F (fun q z1 z2 z3 => by omega), h6.keep kF (by omega) (fun z1 z2 => by omega)⟩, nF, kA⟩ (by decide) (by decide)
  · rw [← hσ]; exact cc6
  · rw [← hσ, fR_uL, fR_uI, fR_uI, fR_uI, fR_uR, if_neg (by omega), c6.2.2.2.2.1, g5 _ (by omega), c4.2.2.2.2.1, f3]
  · rw [← hσ, fR_uL, fR_uI, fR_uI, fR_uI, fR_uR, if_neg (by omega), c6.2.2.2.2.1, f5]
  · rw [← hσ, fR_uL, fR_uI, fR_uI, fR_uI, fR_uR, if_pos ⟨rfl, rfl⟩]
  · rw [← hσ, fI_uL, fI_uI, if_neg (by omega), fI_uI, if_neg (by omega), fI_uI, if_pos ⟨rfl, rfl⟩]
  · rw [← hσ, fI_uL, fI_uI, if_neg (by omega), fI_uI, if_pos ⟨rfl, rfl⟩]
  · rw [← hσ, fI_uL, fI_uI, if_pos ⟨rfl, rfl⟩]
  · rw [← hσ, fL_uL, if_pos ⟨rfl, rfl⟩]
end INJ
