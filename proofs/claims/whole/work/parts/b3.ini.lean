/-! BY HAND: making the parts of the class, 3 -/
section INK
variable {Ω : Om} {σ σ1 : Sto} {lo a : Nat}
theorem cn0 : ∀ i, cnF ((0, 0), (0, 0), (0, 0), 0, 0) i = 0 ∧ cnT ((0, 0), (0, 0), (0, 0), 0, 0) i = 0 := fun i => by
  unfold cnF cnT
  by_cases e : i = 0
  · simp only [if_pos e]; exact ⟨trivial, trivial⟩
  · simp only [if_neg e]
    by_cases e1 : i = 1
    · simp only [if_pos e1]; exact ⟨trivial, trivial⟩
    · simp only [if_neg e1]; exact ⟨trivial, trivial⟩
theorem Cf.z {σ : Sto} {b : Nat} (h : Cf σ b (fun _ => 0) (fun _ => 0) 0 0) : CfV σ b ((0, 0), (0, 0), (0, 0), 0, 0) := by
  obtain ⟨h1, h2, h3, h4, h5, h6, h7, h8, h9, h10, h11⟩ := h
  exact ⟨h1, h2, h3, h4, h5, h6, h7, h8, h9, h10, fun i hi => ⟨(h11 i hi).1.trans (cn0 i).1.symm, (h11 i hi).2.trans (cn0 i).2.symm⟩⟩
theorem di_loop {Q : Sto → Prop} (hk : sK σ1 a = 4) (hf : fR σ1 194 a = some (a + 5)) (hn1 : sN σ1 = a + 65)
    (hQ : ∀ σ', sN σ' = a + 128 → (sK σ' (a + 5) = 54 ∧ sZ σ' (a + 5) = 21) → Keep σ1 σ' (At1 (a + 5)) → (∀ j, j < 21 → aR σ' (a + 5) j = some (a + 65 + 3 * j) ∧ CfV σ' (a + 65 + 3 * j) ((0, 0), (0, 0), (0, 0), 0, 0)) → Q σ') :
    ∀ (d i : Nat) (σ : Sto) (k n : Nat), i + d = 21 → sN σ = a + 65 + 3 * i → sK σ (a + 5) = 54 ∧ sZ σ (a + 5) = 21 → Keep σ1 σ (At1 (a + 5)) → (∀ j, j < i → aR σ (a + 5) j = some (a + 65 + 3 * j) ∧ CfV σ (a + 65 + 3 * j) ((0, 0), (0, 0), (0, 0), 0, 0)) → k ≤ 64 + 3 * i → n ≤ 1500 + 10 * i →
    Aw Ω M_Drf_init rm_Drf_init (MF Ω rm_Drf_init (RV Q) XN) k n 119 [xr (some a), xi i] [] σ := by
  intro d
  induction d with
  | zero =>
    intro i σ k n hd hn h54 kk hA h1 h2
    have e : i = 21 := by omega
    subst e
    refine b_Drf_init_119 ⟨by omega, fun _ => ?_, fun c => absurd (show (21 : Int) ≤ ((21 : Nat) : Int) by decide) c⟩
    exact r_Drf_init_144 ⟨rfl, hQ σ hn h54 kk hA⟩ (by show k ≤ 130; omega) (by show n ≤ 1800; omega)
  | succ d ih =>
    intro i σ k n hd hn h54 kk hA h1 h2
    have ea := kk.2 a (by omega) (by omega)
    refine b_Drf_init_119 ⟨by omega, fun c => absurd c (by omega), fun _ => ⟨ea.1.trans hk, a + 5, (ea.2.2.2.2.1 _).trans hf, by show k + 1 ≤ 130; omega, by show n + 4 ≤ 1800; omega, fun σ7 e7 => ?_⟩⟩
    have k7 : Keep σ σ7 No := by rw [e7]; exact Keep.nO
    have q7 : sK σ7 (sN σ) = 3 := by rw [e7, sK_nO, if_pos rfl]
    have n7 : sN σ7 = sN σ + 1 := by rw [e7, sN_nO]
    refine c_Drf_init_134 (k_Cnf_init q7 n7) (by decide) (by decide) (by simp only [rm_Cnf_init, rm_Drf_init]; omega) (by simp only [rm_Cnf_init, rm_Drf_init]; omega) (Nat.le_of_ble_eq_true rfl) (fun σ8 hq => ?_) (fun _ _ hx => hx.elim)
    obtain ⟨h8, n8, k8⟩ := hq
    have k18 : Keep σ σ8 No := k7.tr k8 (fun q z1 z2 => by omega)
    have e5 := k18.2 (a + 5) (by omega) (by intro z; exact z)
    refine b_Drf_init_137 ⟨e5.1.trans h54.1, by omega, by rw [e5.2.1, h54.2]; omega, h8.2.1, ?_⟩
    rw [Int.toNat_natCast]
    have k9 : Keep σ8 (vR σ8 (a + 5) i (some (sN σ))) (At1 (a + 5)) := Keep.vR rfl
    have k89 : Keep σ (vR σ8 (a + 5) i (some (sN σ))) (At1 (a + 5)) := (k18.mono (fun _ _ h => h.elim)).trans k9
    have hh := ih (i + 1) (vR σ8 (a + 5) i (some (sN σ))) _ _ (by omega) (by show sN σ8 = _; omega) ⟨e5.1.trans h54.1, e5.2.1.trans h54.2⟩ (kk.trans k89) (fun j hj => ?_) (?_ : k + 1 + rm_Cnf_init.cells ≤ _) (?_ : n + 4 + rm_Cnf_init.slots ≤ _)
    · rw [show (((i + 1 : Nat)) : Int) = (i : Int) + 1 by omega] at hh
      exact hh
    · by_cases e : j = i
      · subst e
        refine ⟨by rw [aR_vR, if_pos ⟨rfl, rfl⟩, hn], ?_⟩
        rw [← hn]
        exact Cf.keep h8.z k9 (fun q z1 z2 z3 => by omega)
      · obtain ⟨r1, r2⟩ := hA j (by omega)
        refine ⟨?_, Cf.keep r2 k89 (fun q z1 z2 z3 => by omega)⟩
        rw [aR_vR, if_neg (fun z => e z.2), e5.2.2.2.2.2.2.2]; exact r1
    · show k + 1 + 2 ≤ _; omega
    · show n + 4 + 6 ≤ _; omega
theorem di_end {k n : Nat} (hkl : k ≤ 64) (hnl : n ≤ 1500) (hlo : a + 127 < lo) (kA : Keep σ σ1 (At1 a)) (hk : sK σ1 a = 4) (hn : sN σ1 = a + 65) (ha : a < sN σ) (hf : (fR σ1 192 a = some (a + 1) ∧ fR σ1 193 a = some (a + 4) ∧ fR σ1 194 a = some (a + 5) ∧ fR σ1 195 a = some (a + 6) ∧ fR σ1 196 a = some (a + 34) ∧ fR σ1 197 a = some (a + 62)) ∧ (fR σ1 198 a = some (a + 62) ∧ fR σ1 199 a = some (a + 62) ∧ fR σ1 200 a = some (a + 62)) ∧ fI σ1 201 a = 0 ∧ fI σ1 202 a = 0) (h5 : sK σ1 (a + 5) = 54 ∧ sZ σ1 (a + 5) = 21) (x1 : Tx σ1 (a + 1) []) (x2 : Tx σ1 (a + 62) []) (hl : Ls Ω σ1 lo (a + 4) (oE Ω) []) (c1 : CpS σ1 (a + 6)) (c2 : CpS σ1 (a + 34)) (h5' : sN σ ≤ a + 5) (hoE : oE Ω < lo) :
    Aw Ω M_Drf_init rm_Drf_init (MF Ω rm_Drf_init (RV fun σ' => DfV Ω σ' lo a (a + 62) (a + 62) (a + 62) (oE Ω) [] [] 0 [] ∧ sN σ' = a + 128 ∧ Keep σ σ' (At1 a)) XN) k n 119 [xr (some a), xi ((0 : Nat) : Int)] [] σ1 := by
  obtain ⟨⟨f1, f2, f3, f4, f5, f6⟩, ⟨f7, f8, f9⟩, i1, i2⟩ := hf
  refine di_loop hk f3 hn (fun σ' y1 y4 y2 y3 => ?_) 21 0 σ1 _ _ (by omega) (by omega) h5 Keep.rf (fun j hj => by omega) hkl hnl
  have ea := y2.2 a (by omega) (by omega)
  have y6 : ∀ f, fR σ' f a = fR σ1 f a := ea.2.2.2.2.1
  exact ⟨⟨⟨by omega, ea.1.trans hk, (y6 _).trans f1, (y6 _).trans f2, (y6 _).trans f3, (y6 _).trans f4, (y6 _).trans f5, (y6 _).trans f6, y4.1, y4.2, fun i hi => (y3 i hi).1, c1.keep y2 (fun q q1 q2 q3 => by omega), c2.keep y2 (fun q q1 q2 q3 => by omega)⟩, ⟨(y6 _).trans f7, (y6 _).trans f8, (y6 _).trans f9⟩, ⟨(ea.2.2.1 _).trans i1, Nat.zero_le _, fun i hi => ⟨_, (y3 i hi).2, fun c' hc => by simp at hc⟩⟩, (ea.2.2.1 _).trans i2, x1.keep y2 (fun q q1 q2 q3 => by omega), x2.keep y2 (fun q q1 q2 q3 => by omega), hl.keep y2 (by omega) (fun q1 q2 => by omega)⟩, y1, kA.tr y2 (fun q q1 q2 => by omega)⟩
theorem k_Drf_init (ha : sK σ a = 4) (hn : sN σ = a + 1) (hlo : a + 127 < lo) (hoE : oE Ω < lo) : MC Ω M_Drf_init rm_Drf_init (RV fun σ' => DfV Ω σ' lo a (a + 62) (a + 62) (a + 62) (oE Ω) [] [] 0 [] ∧ sN σ' = a + 128 ∧ Keep σ σ' (At1 a)) XN σ [xr (some a)] := by
  refine e_Drf_init (b_Drf_init_0 ⟨by decide, Nat.le_of_ble_eq_true rfl, by decide, by decide, fun σ1 e1 => ?_⟩)
  have k1 : sK σ1 a = 4 := by rw [e1, sK_nO, if_neg (by omega)]; exact ha
  have n1 : sN σ1 = a + 2 := by rw [e1, sN_nO, hn]
  have q1 : sK σ1 (a + 1) = 10 := by rw [e1, sK_nO, if_pos (by omega)]
  have kk1 : Keep σ σ1 (At1 a) := by rw [e1]; exact Keep.nO
  rw [hn]
  refine c_Drf_init_9 (k_Txt_init q1 n1) (by decide) (by decide) (by first | decide | omega) (by first | decide | omega) (Nat.le_of_ble_eq_true rfl) (fun σ2 hq => ?_) (fun _ _ hx => hx.elim)
  obtain ⟨h2, n2, k2⟩ := hq
  have e2n : sN σ2 = a + 4 := by omega
  have c2 := (k2.2 a (by omega) (by omega))
  have cc2 := c2.1.trans k1
  refine b_Drf_init_12 ⟨cc2, by decide, by decide, fun σ3 e3 => ?_⟩
  obtain ⟨n3, q3, z3, f3, g3, c3, k3⟩ := al_step e3 (by omega)
  have y3 := al_zero e3 833
  rw [e2n] at q3 n3 y3
  rw [e2n]
  have cc3 := c3.trans cc2
  refine c_Drf_init_20 (k_Lst_init q3 y3 (by omega) (by omega) hoE) (by decide) (by decide) (by first | decide | omega) (by first | decide | omega) (Nat.le_of_ble_eq_true rfl) (fun σ4 hq => ?_) (fun _ _ hx => hx.elim)
  obtain ⟨h4, k4, n4⟩ := hq
  have e4n : sN σ4 = a + 5 := by omega
  have c4 := (k4.2 a (by omega) (by omega))
  have cc4 := c4.1.trans cc3
  refine b_Drf_init_23 ⟨cc4, by decide, by decide, fun σ5 e5 => ?_⟩
  obtain ⟨n5, q5, z5, f5, g5, c5, k5⟩ := al_step e5 (by omega)
  rw [e4n] at q5 n5 z5
  have cc5 := c5.trans cc4
  refine ⟨cc5, by decide, by decide, fun σ6 e6 => ?_⟩
  rw [e4n] at e6
  obtain ⟨n6, q6, z6, f6, g6, c6, k6⟩ := al_step e6 (by omega)
  rw [n5] at q6 n6
  have cc6 := c6.trans cc5
  rw [n5]
  refine c_Drf_init_40 (k_Cmp_init (c := a + 6) q6 (by omega)) (by decide) (by decide) (by first | decide | omega) (by first | decide | omega) (Nat.le_of_ble_eq_true rfl) (fun σ7 hq => ?_) (fun _ _ hx => hx.elim)
  obtain ⟨h7, n7, k7⟩ := hq
  have e7n : sN σ7 = a + 34 := by omega
  have c7 := (k7.2 a (by omega) (by omega))
  have cc7 := c7.1.trans cc6
  refine b_Drf_init_43 ⟨cc7, by decide, by decide, fun σ8 e8 => ?_⟩
  obtain ⟨n8, q8, z8, f8, g8, c8, k8⟩ := al_step e8 (by omega)
  rw [e7n] at q8 n8
  rw [e7n]
  have cc8 := c8.trans cc7
  refine c_Drf_init_51 (k_Cmp_init q8 (by omega)) (by decide) (by decide) (by first | decide | omega) (by first | decide | omega) (Nat.le_of_ble_eq_true rfl) (fun σ9 hq => ?_) (fun _ _ hx => hx.elim)
  obtain ⟨h9, n9, k9⟩ := hq
  have e9n : sN σ9 = a + 62 := by omega
  have c9 := (k9.2 a (by omega) (by omega))
  have cc9 := c9.1.trans cc8
  refine b_Drf_init_54 ⟨cc9, by decide, by decide, fun σ10 e10 => ?_⟩
  obtain ⟨n10, q10, z10, f10, g10, c10, k10⟩ := al_step e10 (by omega)
  rw [e9n] at q10 n10
  rw [e9n]
  have cc10 := c10.trans cc9
  refine c_Drf_init_62 (k_Txt_init q10 (by omega)) (by decide) (by decide) (by first | decide | omega) (by first | decide | omega) (Nat.le_of_ble_eq_true rfl) (fun σ11 hq => ?_) (fun _ _ hx => hx.elim)
  obtain ⟨h11, n11, k11⟩ := hq
  have e11n : sN σ11 = a + 65 := by omega
  have c11 := (k11.2 a (by omega) (by omega))
  have cc11 := c11.1.trans cc10
  refine b_Drf_init_65 ⟨cc11, cc11, a + 62, by rw [fR_uR, if_pos ⟨rfl, rfl⟩], a + 62, by rw [fR_uR, if_neg (by omega), fR_uR, if_pos ⟨rfl, rfl⟩], a + 62, by rw [fR_uR, if_neg (by omega), fR_uR, if_neg (by omega), fR_uR, if_pos ⟨rfl, rfl⟩], ?_⟩
  generalize hσ : uI (uI (uI (uI (uI (uR (uR (uR (uR σ11 197 a (some (a + 62))) 198 a (some (a + 62))) 199 a (some (a + 62))) 200 a (some (a + 62))) 201 a 0) 202 a 0) 203 a (-1)) 204 a (-1)) 205 a (-1) = σF
  have kF : Keep σ11 σF (At1 a) := by
    rw [← hσ]
    iterate 5 refine Keep.trans ?_ kuI1
    iterate 4 refine Keep.trans ?_ kuR1
    exact Keep.rf
  have nF : sN σF = a + 65 := by rw [← hσ]; simp only [fI_uI, fL_uI, fR_uI, aI_uI, aL_uI, aR_uI, sK_uI, sZ_uI, sN_uI, fI_uL, fL_uL, fR_uL, aI_uL, aL_uL, aR_uL, sK_uL, sZ_uL, sN_uL, fI_uR, fL_uR, fR_uR, aI_uR, aL_uR, aR_uR, sK_uR, sZ_uR, sN_uR, fI_vI, fL_vI, fR_vI, aI_vI, aL_vI, aR_vI, sK_vI, sZ_vI, sN_vI, fI_vL, fL_vL, fR_vL, aI_vL, aL_vL, aR_vL, sK_vL, sZ_vL, sN_vL, fI_vR, fL_vR, fR_vR, aI_vR, aL_vR, aR_vR, sK_vR, sZ_vR, sN_vR, fI_nX, fL_nX, fR_nX, aI_nX, aL_nX, aR_nX, sK_nX, sZ_nX, sN_nX, fI_nO, fL_nO, fR_nO, aI_nO, aL_nO, aR_nO, sK_nO, sZ_nO, sN_nO]; exact e11n
  have k9F : Keep σ9 σF (At1 a) := (k10.tr k11 (fun q y1 y2 => by omega)).trans kF
  have k7F : Keep σ7 σF (At1 a) := (k8.tr k9 (fun q y1 y2 => by omega)).trans k9F
  have k5F : Keep σ5 σF (At1 a) := (k6.tr k7 (fun q y1 y2 => by omega)).trans k7F
  have k4F : Keep σ4 σF (At1 a) := k5.trans k5F
  have k2F : Keep σ2 σF (At1 a) := (k3.tr k4 (fun q y1 y2 => by omega)).trans k4F
  have kA : Keep σ σF (At1 a) := (kk1.tr k2 (fun q y1 y2 => by omega)).trans k2F
  have ccF : sK σF a = 4 := by rw [← hσ]; simp only [fI_uI, fL_uI, fR_uI, aI_uI, aL_uI, aR_uI, sK_uI, sZ_uI, sN_uI, fI_uL, fL_uL, fR_uL, aI_uL, aL_uL, aR_uL, sK_uL, sZ_uL, sN_uL, fI_uR, fL_uR, fR_uR, aI_uR, aL_uR, aR_uR, sK_uR, sZ_uR, sN_uR, fI_vI, fL_vI, fR_vI, aI_vI, aL_vI, aR_vI, sK_vI, sZ_vI, sN_vI, fI_vL, fL_vL, fR_vL, aI_vL, aL_vL, aR_vL, sK_vL, sZ_vL, sN_vL, fI_vR, fL_vR, fR_vR, aI_vR, aL_vR, aR_vR, sK_vR, sZ_vR, sN_vR, fI_nX, fL_nX, fR_nX, aI_nX, aL_nX, aR_nX, sK_nX, sZ_nX, sN_nX, fI_nO, fL_nO, fR_nO, aI_nO, aL_nO, aR_nO, sK_nO, sZ_nO, sN_nO]; exact cc11
  have g11 : ∀ f, f < 197 → fR σF f a = fR σ11 f a := fun f hf => by
    rw [← hσ, fR_uI, fR_uI, fR_uI, fR_uI, fR_uI, fR_uR, if_neg (fun z => by have := z.1; omega), fR_uR, if_neg (fun z => by have := z.1; omega), fR_uR, if_neg (fun z => by have := z.1; omega), fR_uR, if_neg (fun z => by have := z.1; omega)]
  have g9' : ∀ f, f < 196 → fR σF f a = fR σ9 f a := fun f hf => by rw [g11 f (by omega), c11.2.2.2.2.1, g10 f (by omega)]
  have g7' : ∀ f, f < 195 → fR σF f a = fR σ7 f a := fun f hf => by rw [g9' f (by omega), c9.2.2.2.2.1, g8 f (by omega)]
  have g5' : ∀ f, f < 194 → fR σF f a = fR σ5 f a := fun f hf => by rw [g7' f (by omega), c7.2.2.2.2.1, g6 f (by omega)]
  have f194 : fR σF 194 a = some (a + 5) := by rw [g7' _ (by omega), c7.2.2.2.2.1, f6]
  have e5F := k5F.2 (a + 5) (by omega) (by omega)
  refine di_end (Nat.le_of_ble_eq_true rfl) (Nat.le_of_ble_eq_true rfl) hlo kA ccF nF (by omega) ⟨⟨?_, ?_, f194, ?_, ?_, ?_⟩, ⟨?_, ?_, ?_⟩, ?_, ?_⟩ ⟨e5F.1.trans q5, e5F.2.1.trans z5⟩ (h2.keep k2F (fun q q1 q2 q3 => by omega)) (h11.keep kF (fun q q1 q2 q3 => by omega)) (h4.keep k4F (by omega) (fun q1 q2 => by omega)) (h7.keep k7F (fun q q1 q2 q3 => by omega)) (h9.keep k9F (fun q q1 q2 q3 => by omega)) (by omega) hoE
  · rw [g5' _ (by decide), g5 _ (by decide), c4.2.2.2.2.1, f3]
  · rw [g5' _ (by decide), f5]
  · rw [g9' _ (by decide), c9.2.2.2.2.1, f8]
  · rw [g11 _ (by decide), c11.2.2.2.2.1, f10]
  · rw [← hσ]; simp only [fR_uI, fR_uR]; rfl
  · rw [← hσ]; simp only [fR_uI, fR_uR]; rfl
  · rw [← hσ]; simp only [fR_uI, fR_uR]; rfl
  · rw [← hσ]; simp only [fR_uI, fR_uR]; rfl
  · rw [← hσ]; simp only [fI_uI, fI_uR]; rfl
  · rw [← hσ]; simp only [fI_uI, fI_uR]; rfl
end INK
