/-! BY HAND: making the class, 2 -/
def S0 : St := ([ver0], none, none, [], [], [], (0, fun _ => 0, fun _ => 0, fun _ => 0), 0)
theorem vrO_0 (v : Nat) : vrO [ver0] v = ver0 := by
  cases v <;> rfl
section INM
variable {Ω : Om} {σ σ1 : Sto} {lo x : Nat}
theorem wi_end {k n : Nat} (hkl : k ≤ 400) (hnl : n ≤ 27000) (hlo : x + 753 < lo) (hoE : oE Ω < lo) (kA : Keep σ σ1 (At1 x)) (hns : sN σ = x + 1) (hk : sK σ1 x = 1) (hn : sN σ1 = x + 374)
    (hf : fR σ1 0 x = some (x + 1) ∧ fR σ1 1 x = some (x + 2) ∧ fR σ1 2 x = some (x + 3) ∧ fR σ1 3 x = some (x + 4) ∧ fR σ1 4 x = some (x + 5) ∧ fR σ1 5 x = some (x + 8) ∧ fR σ1 6 x = some (x + 36) ∧ fR σ1 7 x = some (x + 64) ∧ fR σ1 8 x = some (x + 118) ∧ fR σ1 9 x = some (x + 246)) (hi : DwF σ1 x 0 0 1 0 0 0 0) (q1 : sK σ1 (x + 1) = 55 ∧ sZ σ1 (x + 1) = 40) (q2 : sK σ1 (x + 2) = 56 ∧ sZ σ1 (x + 2) = 10) (q3 : sK σ1 (x + 3) = 57 ∧ sZ σ1 (x + 3) = 20) (q4 : sK σ1 (x + 4) = 50 ∧ sZ σ1 (x + 4) = 20)
    (hB : Bk σ1 (x + 5) 0 (fun _ => 0) (fun _ => 0)) (c1 : CpS σ1 (x + 8)) (c2 : CpS σ1 (x + 36)) (ct : TmS σ1 (x + 64)) (d1 : DfV Ω σ1 lo (x + 118) (x + 118 + 62) (x + 118 + 62) (x + 118 + 62) (oE Ω) [] [] 0 []) (d2 : DfV Ω σ1 lo (x + 246) (x + 246 + 62) (x + 246 + 62) (x + 246 + 62) (oE Ω) [] [] 0 []) :
    Aw Ω M_Dw_init rm_Dw_init (MF Ω rm_Dw_init (RV fun σ' => DwW Ω σ' lo x S0 0 (fun _ => oE Ω) (fun _ => []) ∧ sN σ' = x + 754 ∧ Keep σ σ' (At1 x)) XN) k n 142 [xr (some x), xi ((0 : Nat) : Int)] [] σ1 := by
  obtain ⟨f0, f1, f2, f3, f4, f5, f6, f7, f8, f9⟩ := hf
  refine wi_1 hk f0 hn hoE hlo (fun σB kB nB b1 b2 b3 b4 b5 b6 => ?_) 40 0 σ1 k n (by omega) (by omega) q1 Keep.rf (fun j hj => by omega) hkl hnl
  have eB := b3.2 x (by omega) (by omega)
  have eB2 := b3.2 (x + 2) (by omega) (by omega)
  have eB3 := b3.2 (x + 3) (by omega) (by omega)
  refine wi_2 (lo := lo) (eB.1.trans hk) ((eB.2.2.2.2.1 _).trans f1) b1 (fun σC kC nC g1 g2 g3 g4 g5 g6 => ?_) 10 0 σB kB nB (by omega) (by omega) ⟨eB2.1.trans q2.1, eB2.2.1.trans q2.2⟩ Keep.rf (fun j hj => by omega) b5 b6 hlo
  have eC := g3.2 x (by omega) (by omega)
  have eC3 := g3.2 (x + 3) (by omega) (by omega)
  refine wi_3 (eC.1.trans (eB.1.trans hk)) ((eC.2.2.2.2.1 _).trans ((eB.2.2.2.2.1 _).trans f2)) g1 (fun σD h1 h2 h3 h4 => ?_) 20 0 σC kC nC (by omega) (by omega) ⟨eC3.1.trans (eB3.1.trans q3.1), eC3.2.1.trans (eB3.2.1.trans q3.2)⟩ Keep.rf (fun j hj => by omega) g5 g6
  have kBD : Keep σB σD (fun q => q = x + 2 ∨ q = x + 3) := (g3.mono (fun q _ h => Or.inl h)).trans (h3.mono (fun q _ h => Or.inr h))
  have kAD : Keep σ1 σD (fun q => q = x + 1 ∨ q = x + 2 ∨ q = x + 3) := (b3.mono (fun q _ h => Or.inl h)).trans (kBD.mono (fun q _ h => Or.inr h))
  have e0 := kAD.2 x (by omega) (by omega)
  have e4 := kAD.2 (x + 4) (by omega) (by omega)
  have eD1 := kBD.2 (x + 1) (by omega) (by omega)
  have eD2 := h3.2 (x + 2) (by omega) (by omega)
  have y6 : ∀ f, fR σD f x = fR σ1 f x := e0.2.2.2.2.1
  have ew : x + 118 + 128 * (1 - 0) = x + 246 := by omega
  refine ⟨rfl, ⟨⟨by omega, e0.1.trans hk, by omega, (y6 _).trans f0, (y6 _).trans f1, (y6 _).trans f2, (y6 _).trans f3, (y6 _).trans f4, (y6 _).trans f5, (y6 _).trans f6, (y6 _).trans f7, (y6 _).trans f8, by rw [ew]; exact (y6 _).trans f9, ⟨eD1.1.trans b2.1, eD1.2.1.trans b2.2, fun i hi => by rw [eD1.2.2.2.2.2.2.2]; exact (b4 i hi).1⟩, ⟨eD2.1.trans g2.1, eD2.2.1.trans g2.2, fun i hi => by rw [eD2.2.2.2.2.2.2.2]; exact (g4 i hi).1⟩, ⟨h2.1, h2.2, fun i hi => (h4 i hi).1⟩, ⟨e4.1.trans q4.1, e4.2.1.trans q4.2⟩⟩, hi.keep kAD (by omega) (by omega), fun v hv => ?_, ⟨_, _, _, _, _, _, d1.keep kAD (fun q z1 z2 z3 => by omega) (fun z1 z2 => by omega), fun r h => by cases h⟩, ?_, ⟨c1.keep kAD (fun q z1 z2 z3 => by omega), fun X Y A M n h => by cases h⟩, fun i hi => ?_, fun i v h => by have h' : ([] : List Int)[i]? = some v := h; simp at h', fun i hi => ?_, hB.keep kAD (fun q z1 z2 z3 => by omega), c2.keep kAD (fun q z1 z2 z3 => by omega), ct.keep kAD (fun q z1 z2 z3 => by omega), fun i j _ _ z _ => absurd (show lo ≤ oE Ω from z) (by omega)⟩, h1, kA.tr kAD (fun q z1 z2 => by omega)⟩
  · show (∃ N, VrV Ω σD lo (x + 374 + 8 * v) (oE Ω) (vrT (vrO [ver0] v)) N [] (vrA (vrO [ver0] v)) (vr1 (vrO [ver0] v)) (vr2 (vrO [ver0] v)) (vrW (vrO [ver0] v)) ∧ N.length ≤ 20 ∧ ∀ y ∈ N, y.2 = -1 ∧ v ≠ 0) ∧ EdsV σD lo [] (vrE (vrO [ver0] v)) ∧ ([ver0].length ≤ v → oE Ω = oE Ω)
    rw [vrO_0]
    exact ⟨⟨[], (b4 v hv).2.keep kBD (fun q z1 z2 z3 => by omega) (fun z1 z2 => by omega), Nat.zero_le _, fun y hy => by simp at hy⟩, ⟨rfl, fun i e E h1 _ => by simp at h1⟩, fun _ => rfl⟩
  · rw [ew]; exact ⟨_, _, _, _, _, _, d2.keep kAD (fun q z1 z2 z3 => by omega) (fun z1 z2 => by omega), fun r h => by cases h⟩
  · exact (g4 i hi).2.keep h3 (fun q z1 z2 z3 => by omega) (by omega) (by omega)
  · exact (h4 i hi).2
theorem wi_n {τ7 : Sto} {k n : Nat} (hkl : k ≤ 117) (hnl : n ≤ 23002) (hlo : x + 753 < lo) (hoE : oE Ω < lo) (kA : Keep σ τ7 (At1 x)) (hns : sN σ = x + 1) (dd7 : sK τ7 x = 1) (m7 : sN τ7 = x + 118)
    (hf : fR τ7 0 x = some (x + 1) ∧ fR τ7 1 x = some (x + 2) ∧ fR τ7 2 x = some (x + 3) ∧ fR τ7 3 x = some (x + 4) ∧ fR τ7 4 x = some (x + 5) ∧ fR τ7 5 x = some (x + 8) ∧ fR τ7 6 x = some (x + 36)) (q1 : sK τ7 (x + 1) = 55 ∧ sZ τ7 (x + 1) = 40) (q2 : sK τ7 (x + 2) = 56 ∧ sZ τ7 (x + 2) = 10) (q3 : sK τ7 (x + 3) = 57 ∧ sZ τ7 (x + 3) = 20) (q4 : sK τ7 (x + 4) = 50 ∧ sZ τ7 (x + 4) = 20) (hB : Bk τ7 (x + 5) 0 (fun _ => 0) (fun _ => 0)) (c1 : CpS τ7 (x + 8)) (c2 : CpS τ7 (x + 36)) (ct : TmS τ7 (x + 64)) :
    Aw Ω M_Dw_init rm_Dw_init (MF Ω rm_Dw_init (RV fun σ' => DwW Ω σ' lo x S0 0 (fun _ => oE Ω) (fun _ => []) ∧ sN σ' = x + 754 ∧ Keep σ σ' (At1 x)) XN) k n 80 [xr (some x), xu] [xr (some (x + 64)), xr (some x)] τ7 := by
  refine b_Dw_init_80 ⟨dd7, by show k + 1 ≤ 900; omega, by show n + 14 ≤ 80000; omega, fun τ8 E8 => ?_⟩
  obtain ⟨m8, q8, z8, f8, g8, c8, t8⟩ := al_step E8 (by omega)
  clear E8
  rw [m7] at q8 m8
  rw [m7]
  have dd8 := c8.trans dd7
  refine c_Dw_init_88 (k_Drf_init (lo := lo) q8 (by omega) (by omega) hoE) (by decide) (by decide) (by simp only [rm_Cmp_init, rm_Drf_init, rm_Dw_init, rm_Trm_init]; omega) (by simp only [rm_Cmp_init, rm_Drf_init, rm_Dw_init, rm_Trm_init]; omega) (Nat.le_of_ble_eq_true rfl) (fun τ9 hq => ?_) (fun _ _ hx => hx.elim)
  obtain ⟨B9, m9, t9⟩ := hq
  have m9 : sN τ9 = x + 246 := by omega
  have d9 := (t9.2 x (by omega) (by omega))
  have dd9 := d9.1.trans dd8
  refine b_Dw_init_91 ⟨dd9, by show k + 1 + 130 + 1 ≤ 900; omega, by show n + 14 + 1800 + 14 ≤ 80000; omega, fun τa Ea => ?_⟩
  obtain ⟨ma, qa, za, fa, ga, ca, ta⟩ := al_step Ea (by omega)
  clear Ea
  rw [m9] at qa ma
  rw [m9]
  have dda := ca.trans dd9
  refine c_Dw_init_99 (k_Drf_init (lo := lo) qa (by omega) (by omega) hoE) (by decide) (by decide) (by simp only [rm_Cmp_init, rm_Drf_init, rm_Dw_init, rm_Trm_init]; omega) (by simp only [rm_Cmp_init, rm_Drf_init, rm_Dw_init, rm_Trm_init]; omega) (Nat.le_of_ble_eq_true rfl) (fun τb hq => ?_) (fun _ _ hx => hx.elim)
  obtain ⟨Bb, mb, tb⟩ := hq
  have mb : sN τb = x + 374 := by omega
  have db := (tb.2 x (by omega) (by omega))
  have ddb := db.1.trans dda
  refine b_Dw_init_102 ⟨ddb, ddb, ?_⟩
  generalize hσ : uI (uI (uI (uI (uI (uI (uI (uR τb 9 x (some (x + 246))) 10 x 0) 11 x 0) 12 x 1) 13 x 0) 14 x 0) 15 x 0) 16 x 0 = σF
  have kF : Keep τb σF (At1 x) := by
    rw [← hσ]
    iterate 7 refine Keep.trans ?_ kuI1
    exact kuR1
  have nF : sN σF = x + 374 := by rw [← hσ]; simp only [fI_uI, fL_uI, fR_uI, aI_uI, aL_uI, aR_uI, sK_uI, sZ_uI, sN_uI, fI_uL, fL_uL, fR_uL, aI_uL, aL_uL, aR_uL, sK_uL, sZ_uL, sN_uL, fI_uR, fL_uR, fR_uR, aI_uR, aL_uR, aR_uR, sK_uR, sZ_uR, sN_uR, fI_vI, fL_vI, fR_vI, aI_vI, aL_vI, aR_vI, sK_vI, sZ_vI, sN_vI, fI_vL, fL_vL, fR_vL, aI_vL, aL_vL, aR_vL, sK_vL, sZ_vL, sN_vL, fI_vR, fL_vR, fR_vR, aI_vR, aL_vR, aR_vR, sK_vR, sZ_vR, sN_vR, fI_nX, fL_nX, fR_nX, aI_nX, aL_nX, aR_nX, sK_nX, sZ_nX, sN_nX, fI_nO, fL_nO, fR_nO, aI_nO, aL_nO, aR_nO, sK_nO, sZ_nO, sN_nO]; exact mb
  have w9 : Keep τ9 σF (At1 x) := (ta.tr tb (fun q y1 y2 => by omega)).trans kF
  have w7 : Keep τ7 σF (At1 x) := (t8.tr t9 (fun q y1 y2 => by omega)).trans w9
  have ccF : sK σF x = 1 := by rw [← hσ]; simp only [fI_uI, fL_uI, fR_uI, aI_uI, aL_uI, aR_uI, sK_uI, sZ_uI, sN_uI, fI_uL, fL_uL, fR_uL, aI_uL, aL_uL, aR_uL, sK_uL, sZ_uL, sN_uL, fI_uR, fL_uR, fR_uR, aI_uR, aL_uR, aR_uR, sK_uR, sZ_uR, sN_uR, fI_vI, fL_vI, fR_vI, aI_vI, aL_vI, aR_vI, sK_vI, sZ_vI, sN_vI, fI_vL, fL_vL, fR_vL, aI_vL, aL_vL, aR_vL, sK_vL, sZ_vL, sN_vL, fI_vR, fL_vR, fR_vR, aI_vR, aL_vR, aR_vR, sK_vR, sZ_vR, sN_vR, fI_nX, fL_nX, fR_nX, aI_nX, aL_nX, aR_nX, sK_nX, sZ_nX, sN_nX, fI_nO, fL_nO, fR_nO, aI_nO, aL_nO, aR_nO, sK_nO, sZ_nO, sN_nO]; exact ddb
  have hb : ∀ f, f < 9 → fR σF f x = fR τb f x := fun f hf => by
    rw [← hσ, fR_uI, fR_uI, fR_uI, fR_uI, fR_uI, fR_uI, fR_uI, fR_uR, if_neg (fun z => by have := z.1; omega)]
  have h9 : ∀ f, f < 8 → fR σF f x = fR τ9 f x := fun f hf => by rw [hb f (by omega), db.2.2.2.2.1, ga f (by omega)]
  have h7 : ∀ f, f < 7 → fR σF f x = fR τ7 f x := fun f hf => by rw [h9 f (by omega), d9.2.2.2.2.1, g8 f (by omega)]
  have hiF : DwF σF x 0 0 1 0 0 0 0 := by
    rw [← hσ]
    refine ⟨?_, ?_, ?_, ?_, ?_, ?_, ?_⟩ <;> simp only [fI_uI] <;> rfl
  have f9F : fR σF 9 x = some (x + 246) := by rw [← hσ]; simp only [fR_uI, fR_uR]; rfl
  clear hσ
  have a1 := w7.2 (x + 1) (by omega) (by omega)
  have a2 := w7.2 (x + 2) (by omega) (by omega)
  have a3 := w7.2 (x + 3) (by omega) (by omega)
  have a4 := w7.2 (x + 4) (by omega) (by omega)
  exact wi_end (by show k + 1 + 130 + 1 + 130 ≤ 400; omega) (by show n + 14 + 1800 + 14 + 1800 ≤ 27000; omega) hlo hoE (kA.trans w7) hns ccF nF ⟨(h7 _ (by decide)).trans hf.1, (h7 _ (by decide)).trans hf.2.1, (h7 _ (by decide)).trans hf.2.2.1, (h7 _ (by decide)).trans hf.2.2.2.1, (h7 _ (by decide)).trans hf.2.2.2.2.1, (h7 _ (by decide)).trans hf.2.2.2.2.2.1, (h7 _ (by decide)).trans hf.2.2.2.2.2.2, by rw [h9 _ (by decide), d9.2.2.2.2.1, f8], by rw [hb _ (by decide), db.2.2.2.2.1, fa], f9F⟩ hiF ⟨a1.1.trans q1.1, a1.2.1.trans q1.2⟩ ⟨a2.1.trans q2.1, a2.2.1.trans q2.2⟩ ⟨a3.1.trans q3.1, a3.2.1.trans q3.2⟩ ⟨a4.1.trans q4.1, a4.2.1.trans q4.2⟩ (hB.keep w7 (fun q q1 q2 q3 => by omega)) (c1.keep w7 (fun q q1 q2 q3 => by omega)) (c2.keep w7 (fun q q1 q2 q3 => by omega)) (ct.keep w7 (fun q q1 q2 q3 => by omega)) (B9.keep w9 (fun q q1 q2 q3 => by omega) (fun q1 q2 => by omega)) (Bb.keep kF (fun q q1 q2 q3 => by omega) (fun q1 q2 => by omega))
theorem wi_m {τ1 : Sto} {k n : Nat} (hkl : k ≤ 7) (hnl : n ≤ 20573) (hlo : x + 753 < lo) (hoE : oE Ω < lo) (kA : Keep σ τ1 (At1 x)) (hns : sN σ = x + 1) (dd1 : sK τ1 x = 1) (m1 : sN τ1 = x + 8)
    (hf : fR τ1 0 x = some (x + 1) ∧ fR τ1 1 x = some (x + 2) ∧ fR τ1 2 x = some (x + 3) ∧ fR τ1 3 x = some (x + 4)) (q1 : sK τ1 (x + 1) = 55 ∧ sZ τ1 (x + 1) = 40) (q2 : sK τ1 (x + 2) = 56 ∧ sZ τ1 (x + 2) = 10) (q3 : sK τ1 (x + 3) = 57 ∧ sZ τ1 (x + 3) = 20) (q4 : sK τ1 (x + 4) = 50 ∧ sZ τ1 (x + 4) = 20) (hB : Bk τ1 (x + 5) 0 (fun _ => 0) (fun _ => 0)) :
    Aw Ω M_Dw_init rm_Dw_init (MF Ω rm_Dw_init (RV fun σ' => DwW Ω σ' lo x S0 0 (fun _ => oE Ω) (fun _ => []) ∧ sN σ' = x + 754 ∧ Keep σ σ' (At1 x)) XN) k n 47 [xr (some x), xu] [xr (some (x + 5)), xr (some x)] τ1 := by
  refine b_Dw_init_47 ⟨dd1, by show k + 1 ≤ 900; omega, by show n + 9 ≤ 80000; omega, fun τ2 E2 => ?_⟩
  obtain ⟨m2, q2', z2, f2, g2, c2, t2⟩ := al_step E2 (by omega)
  clear E2
  rw [m1] at q2' m2
  rw [m1]
  have dd2 := c2.trans dd1
  refine c_Dw_init_55 (k_Cmp_init q2' (by omega)) (by decide) (by decide) (by simp only [rm_Cmp_init, rm_Drf_init, rm_Dw_init, rm_Trm_init]; omega) (by simp only [rm_Cmp_init, rm_Drf_init, rm_Dw_init, rm_Trm_init]; omega) (Nat.le_of_ble_eq_true rfl) (fun τ3 hq => ?_) (fun _ _ hx => hx.elim)
  obtain ⟨B3, m3, t3⟩ := hq
  have m3 : sN τ3 = x + 36 := by omega
  have d3 := (t3.2 x (by omega) (by omega))
  have dd3 := d3.1.trans dd2
  refine b_Dw_init_58 ⟨dd3, by show k + 1 + 27 + 1 ≤ 900; omega, by show n + 9 + 600 + 9 ≤ 80000; omega, fun τ4 E4 => ?_⟩
  obtain ⟨m4, q4', z4, f4, g4, c4, t4⟩ := al_step E4 (by omega)
  clear E4
  rw [m3] at q4' m4
  rw [m3]
  have dd4 := c4.trans dd3
  refine c_Dw_init_66 (k_Cmp_init q4' (by omega)) (by decide) (by decide) (by simp only [rm_Cmp_init, rm_Drf_init, rm_Dw_init, rm_Trm_init]; omega) (by simp only [rm_Cmp_init, rm_Drf_init, rm_Dw_init, rm_Trm_init]; omega) (Nat.le_of_ble_eq_true rfl) (fun τ5 hq => ?_) (fun _ _ hx => hx.elim)
  obtain ⟨B5, m5, t5⟩ := hq
  have m5 : sN τ5 = x + 64 := by omega
  have d5 := (t5.2 x (by omega) (by omega))
  have dd5 := d5.1.trans dd4
  refine b_Dw_init_69 ⟨dd5, by show k + 1 + 27 + 1 + 27 + 1 ≤ 900; omega, by show n + 9 + 600 + 9 + 600 + 11 ≤ 80000; omega, fun τ6 E6 => ?_⟩
  obtain ⟨m6, q6, z6, f6, g6, c6, t6⟩ := al_step E6 (by omega)
  clear E6
  rw [m5] at q6 m6
  rw [m5]
  have dd6 := c6.trans dd5
  refine c_Dw_init_77 (k_Trm_init q6 (by omega)) (by decide) (by decide) (by simp only [rm_Cmp_init, rm_Drf_init, rm_Dw_init, rm_Trm_init]; omega) (by simp only [rm_Cmp_init, rm_Drf_init, rm_Dw_init, rm_Trm_init]; omega) (Nat.le_of_ble_eq_true rfl) (fun τ7 hq => ?_) (fun _ _ hx => hx.elim)
  obtain ⟨B7, m7, t7⟩ := hq
  have m7 : sN τ7 = x + 118 := by omega
  have d7 := (t7.2 x (by omega) (by omega))
  have dd7 := d7.1.trans dd6
  have w5 : Keep τ5 τ7 (At1 x) := t6.tr t7 (fun q y1 y2 => by omega)
  have w3 : Keep τ3 τ7 (At1 x) := (t4.tr t5 (fun q y1 y2 => by omega)).trans w5
  have w1 : Keep τ1 τ7 (At1 x) := (t2.tr t3 (fun q y1 y2 => by omega)).trans w3
  have h5 : ∀ f, f < 6 → fR τ7 f x = fR τ5 f x := fun f hf => by rw [d7.2.2.2.2.1, g6 f (by omega)]
  have h3 : ∀ f, f < 5 → fR τ7 f x = fR τ3 f x := fun f hf => by rw [h5 f (by omega), d5.2.2.2.2.1, g4 f (by omega)]
  have h1 : ∀ f, f < 4 → fR τ7 f x = fR τ1 f x := fun f hf => by rw [h3 f (by omega), d3.2.2.2.2.1, g2 f (by omega)]
  have a1 := w1.2 (x + 1) (by omega) (by omega)
  have a2 := w1.2 (x + 2) (by omega) (by omega)
  have a3 := w1.2 (x + 3) (by omega) (by omega)
  have a4 := w1.2 (x + 4) (by omega) (by omega)
  exact wi_n (by show k + 1 + 27 + 1 + 27 + 1 + 53 ≤ 117; omega) (by show n + 9 + 600 + 9 + 600 + 11 + 1200 ≤ 23002; omega) hlo hoE (kA.trans w1) hns dd7 m7 ⟨(h1 _ (by decide)).trans hf.1, (h1 _ (by decide)).trans hf.2.1, (h1 _ (by decide)).trans hf.2.2.1, (h1 _ (by decide)).trans hf.2.2.2, by rw [h3 _ (by decide), d3.2.2.2.2.1, f2], by rw [h5 _ (by decide), d5.2.2.2.2.1, f4], by rw [d7.2.2.2.2.1, f6]⟩ ⟨a1.1.trans q1.1, a1.2.1.trans q1.2⟩ ⟨a2.1.trans q2.1, a2.2.1.trans q2.2⟩ ⟨a3.1.trans q3.1, a3.2.1.trans q3.2⟩ ⟨a4.1.trans q4.1, a4.2.1.trans q4.2⟩ (hB.keep w1 (fun q q1 q2 q3 => by omega)) (B3.keep w3 (fun q q1 q2 q3 => by omega)) (B5.keep w5 (fun q q1 q2 q3 => by omega)) B7
theorem k_Dw_init (ha : sK σ x = 1) (hn : sN σ = x + 1) (hlo : x + 753 < lo) (hoE : oE Ω < lo) : MC Ω M_Dw_init rm_Dw_init (RV fun σ' => DwW Ω σ' lo x S0 0 (fun _ => oE Ω) (fun _ => []) ∧ sN σ' = x + 754 ∧ Keep σ σ' (At1 x)) XN σ [xr (some x)] := by
  refine e_Dw_init (b_Dw_init_0 ⟨by decide, Nat.le_of_ble_eq_true rfl, by decide, by decide, fun σ7 e7 => ?_⟩)
  have k7 : sK σ7 x = 1 := by rw [e7, sK_nO, if_neg (by omega)]; exact ha
  have n7 : sN σ7 = x + 2 := by rw [e7, sN_nO, hn]
  have q7 : sK σ7 (x + 1) = 55 := by rw [e7, sK_nO, if_pos (by omega)]
  have z7 : sZ σ7 (x + 1) = 40 := by rw [e7, sZ_nO, if_pos (by omega)]
  have kk7 : Keep σ σ7 (At1 x) := by rw [e7]; exact Keep.nO
  refine ⟨k7, by decide, by decide, fun σ13 e13 => ?_⟩
  rw [hn] at e13
  obtain ⟨n13, q13, z13, f13, g13, k13, kk13⟩ := al_step e13 (by omega)
  rw [n7] at n13 q13 z13
  have c13 := k13.trans k7
  refine ⟨c13, by decide, by decide, fun σ19 e19 => ?_⟩
  rw [n7] at e19
  obtain ⟨n19, q19, z19, f19, g19, k19, kk19⟩ := al_step e19 (by omega)
  rw [n13] at n19 q19 z19
  have c19 := k19.trans c13
  refine ⟨c19, by decide, by decide, fun σ25 e25 => ?_⟩
  rw [n13] at e25
  obtain ⟨n25, q25, z25, f25, g25, k25, kk25⟩ := al_step e25 (by omega)
  rw [n19] at n25 q25 z25
  have c25 := k25.trans c19
  refine ⟨c25, by decide, by decide, fun σ29 e29 => ?_⟩
  rw [n19] at e29
  obtain ⟨n29, q29, z29, f29, g29, k29, kk29⟩ := al_step e29 (by omega)
  rw [n25] at n29 q29
  have c29 := k29.trans c25
  rw [n25]
  refine c_Dw_init_44 (k_Lbk_init (b := x + 5) q29 (by omega)) (by decide) (by decide) (by first | decide | omega) (by first | decide | omega) (Nat.le_of_ble_eq_true rfl) (fun τ1 hq => ?_) (fun _ _ hx => hx.elim)
  obtain ⟨B1, m1, t1⟩ := hq
  have m1 : sN τ1 = x + 8 := by omega
  have d1 := (t1.2 x (by omega) (by omega))
  have dd1 := d1.1.trans c29
  have w25 : Keep σ25 τ1 (At1 x) := kk29.tr t1 (fun q y1 y2 => by omega)
  have w19 := kk25.trans w25
  have w13 := kk19.trans w19
  have w7 := kk13.trans w13
  have a1 := w7.2 (x + 1) (by omega) (by omega)
  have a2 := w13.2 (x + 2) (by omega) (by omega)
  have a3 := w19.2 (x + 3) (by omega) (by omega)
  have a4 := w25.2 (x + 4) (by omega) (by omega)
  exact wi_m (Nat.le_of_ble_eq_true rfl) (Nat.le_of_ble_eq_true rfl) hlo hoE (kk7.trans w7) hn dd1 m1 ⟨by rw [d1.2.2.2.2.1, g29 _ (by decide), g25 _ (by decide), g19 _ (by decide), f13], by rw [d1.2.2.2.2.1, g29 _ (by decide), g25 _ (by decide), f19], by rw [d1.2.2.2.2.1, g29 _ (by decide), f25], by rw [d1.2.2.2.2.1, f29]⟩ ⟨a1.1.trans q7, a1.2.1.trans z7⟩ ⟨a2.1.trans q13, a2.2.1.trans z13⟩ ⟨a3.1.trans q19, a3.2.1.trans z19⟩ ⟨a4.1.trans q25, a4.2.1.trans z25⟩ B1
end INM
