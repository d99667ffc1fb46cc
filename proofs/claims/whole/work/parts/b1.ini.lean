/-! BY HAND: making the parts of the class -/
section INI
variable {Ω : Om} {σ : Sto} {c t b : Nat}
theorem al_step {σ σ' : Sto} {f a kd z q : Nat} (e : σ' = nO (uR σ f a (some q)) kd z) (ha : a < sN σ) : sN σ' = sN σ + 1 ∧ sK σ' (sN σ) = kd ∧ sZ σ' (sN σ) = z ∧ fR σ' f a = some q ∧ (∀ g, g ≠ f → fR σ' g a = fR σ g a) ∧ sK σ' a = sK σ a ∧ Keep σ σ' (At1 a) := by
  subst e
  have h0 : a ≠ sN σ := by omega
  refine ⟨rfl, by rw [sK_nO]; exact if_pos rfl, by rw [sZ_nO]; exact if_pos rfl, ?_, fun g hg => ?_, ?_, ?_⟩
  · rw [fR_nO, if_neg (by show a ≠ sN σ; exact h0), fR_uR, if_pos ⟨rfl, rfl⟩]
  · rw [fR_nO, if_neg (by show a ≠ sN σ; exact h0), fR_uR, if_neg (fun z => hg z.1)]
  · rw [sK_nO, if_neg (by show a ≠ sN σ; exact h0), sK_uR]
  · exact kuR1.trans Keep.nO
theorem al_zero {σ σ' : Sto} {f a kd z q : Nat} (e : σ' = nO (uR σ f a (some q)) kd z) (g : Nat) : fI σ' g (sN σ) = 0 := by
  subst e
  rw [fI_nO]; exact if_pos rfl
theorem mO_g (σ : Sto) (N M : Nat) : ∀ i j, j < i → aR (mO σ N M i) (sN σ) j = some (sN σ + 1 + j) ∧ sK (mO σ N M i) (sN σ + 1 + j) = 50 ∧ sZ (mO σ N M i) (sN σ + 1 + j) = M := by
  intro i
  induction i with
  | zero => intro j hj; omega
  | succ i ih =>
    intro j hj
    obtain ⟨m1, m2, m3⟩ := mO_f σ N M i
    rw [mO]
    by_cases e : j = i
    · subst e
      refine ⟨by rw [aR_vR, if_pos ⟨rfl, rfl⟩], ?_, ?_⟩
      · rw [sK_vR, sK_nO, if_pos (by omega)]
      · rw [sZ_vR, sZ_nO, if_pos (by omega)]
    · obtain ⟨h1, h2, h3⟩ := ih j (by omega)
      refine ⟨?_, ?_, ?_⟩
      · rw [aR_vR, if_neg (fun z => e z.2), aR_nO, if_neg (by omega)]; exact h1
      · rw [sK_vR, sK_nO, if_neg (by omega)]; exact h2
      · rw [sZ_vR, sZ_nO, if_neg (by omega)]; exact h3
theorem mO_k (σ : Sto) (N M : Nat) : ∀ i, Keep σ (mO σ N M i) No := by
  intro i
  induction i with
  | zero => exact Keep.nO
  | succ i ih =>
    rw [mO]
    have k2 : Keep (nO (mO σ N M i) 50 M) (vR (nO (mO σ N M i) 50 M) (sN σ) i (some (sN σ + 1 + i))) (At1 (sN σ)) := Keep.vR rfl
    exact (ih.trans Keep.nO).tr k2 (fun a h1 h2 => by omega)
theorem k_Lbk_init (ha : sK σ b = 7) (hn : sN σ = b + 1) : MC Ω M_Lbk_init rm_Lbk_init (RV fun σ' => Bk σ' b 0 (fun _ => 0) (fun _ => 0) ∧ sN σ' = b + 3 ∧ Keep σ σ' (At1 b)) XN σ [xr (some b)] := by
  refine e_Lbk_init (b_Lbk_init_0 ⟨by decide, Nat.le_of_ble_eq_true rfl, by decide, by decide, fun σ7 e7 => ?_⟩)
  have k7 : sK σ7 b = 7 := by rw [e7, sK_nO, if_neg (by omega)]; exact ha
  have n7 : sN σ7 = b + 2 := by rw [e7, sN_nO, hn]
  have q7 : sK σ7 (b + 1) = 50 := by rw [e7, sK_nO, if_pos (by omega)]
  have z7 : sZ σ7 (b + 1) = 10240 := by rw [e7, sZ_nO, if_pos (by omega)]
  have kk7 : Keep σ σ7 (At1 b) := by rw [e7]; exact Keep.nO
  refine ⟨k7, by decide, by decide, fun σ13 e13 => ?_⟩
  obtain ⟨n13, q13, z13, f13, g13, k13, kk13⟩ := al_step e13 (by omega)
  rw [n7] at q13 z13
  refine ⟨k13.trans k7, ?_⟩
  rw [n7]
  generalize hσ : uI (uR σ13 385 b (some (b + 2))) 386 b 0 = σF
  have kF : Keep σ13 σF (At1 b) := by rw [← hσ]; exact kuR1.trans kuI1
  have nF : sN σF = b + 3 := by rw [← hσ]; show sN σ13 = b + 3; omega
  have kb := (kk13.trans kF).2 (b + 1) (by omega) (by omega)
  have kc := kF.2 (b + 2) (by omega) (by omega)
  refine r_Lbk_init_27 ⟨rfl, ⟨by omega, ?_, ?_, ?_, kb.1.trans q7, kc.1.trans q13, kb.2.1.trans z7, kc.2.1.trans z13, ?_, by omega, fun i hi => by omega⟩, nF, kk7.trans (kk13.trans kF)⟩ (by decide) (by decide)
  · rw [← hσ]; exact k13.trans k7
  · rw [← hσ, fR_uI, fR_uR, if_neg (by omega), f13, hn]
  · rw [← hσ, fR_uI, fR_uR, if_pos ⟨rfl, rfl⟩]
  · rw [← hσ, fI_uI, if_pos ⟨rfl, rfl⟩]; rfl
theorem k_Cmp_init (ha : sK σ c = 2) (hn : sN σ = c + 1) : MC Ω M_Cmp_init rm_Cmp_init (RV fun σ' => CpS σ' c ∧ sN σ' = c + 28 ∧ Keep σ σ' (At1 c)) XN σ [xr (some c)] := by
  refine e_Cmp_init (b_Cmp_init_0 ⟨by decide, Nat.le_of_ble_eq_true rfl, by decide, by decide, fun σ7 e7 => ?_⟩)
  have k7 : sK σ7 c = 2 := by rw [e7, sK_nO, if_neg (by omega)]; exact ha
  have n7 : sN σ7 = c + 2 := by rw [e7, sN_nO, hn]
  have q7 : sK σ7 (c + 1) = 51 := by rw [e7, sK_nO, if_pos (by omega)]
  have z7 : sZ σ7 (c + 1) = 20 := by rw [e7, sZ_nO, if_pos (by omega)]
  have kk7 : Keep σ σ7 (At1 c) := by rw [e7]; exact Keep.nO
  refine ⟨k7, by decide, by decide, fun σ13 e13 => ?_⟩
  rw [hn] at e13
  obtain ⟨n13, q13, z13, f13, g13, k13, kk13⟩ := al_step e13 (by omega)
  rw [n7] at n13 q13 z13
  refine ⟨k13.trans k7, by decide, by decide, fun σ19 e19 => ?_⟩
  rw [n7] at e19
  obtain ⟨n19, q19, z19, f19, g19, k19, kk19⟩ := al_step e19 (by omega)
  rw [n13] at n19 q19 z19
  refine ⟨k19.trans (k13.trans k7), by decide, by decide, fun σ25 e25 => ?_⟩
  rw [n13] at e25
  obtain ⟨n25, q25, z25, f25, g25, k25, kk25⟩ := al_step e25 (by omega)
  rw [n19] at n25 q25 z25
  refine ⟨k25.trans (k19.trans (k13.trans k7)), by decide, by decide, fun σ31 e31 => ?_⟩
  rw [n19] at e31
  obtain ⟨n31, q31, z31, f31, g31, k31, kk31⟩ := al_step e31 (by omega)
  rw [n25] at n31 q31 z31
  have kc31 := k31.trans (k25.trans (k19.trans (k13.trans k7)))
  refine ⟨kc31, ?_⟩
  rw [n25]
  generalize hτ : uR σ31 68 c (some (c + 2 + 1 + 1 + 1)) = τ
  have nτ : sN τ = c + 6 := by rw [← hτ]; show sN σ31 = c + 6; omega
  have kτ : Keep σ31 τ (At1 c) := by rw [← hτ]; exact kuR1
  refine Aw.multi (a := 21) (b := 21) cl_Cmp_29 (by decide) (by decide) (by decide) (by decide) d_Cmp_init_49 ?_
  obtain ⟨m1, m2, m3⟩ := mO_f τ 21 21 21
  have m4 := mO_g τ 21 21 21
  have m5 := mO_k τ 21 21 21
  rw [nτ] at m1 m2 m3 m4
  show Aw Ω M_Cmp_init rm_Cmp_init _ _ _ 53 _ [xr (some (sN τ)), xr (some c)] (mO τ 21 21 21)
  rw [nτ]
  generalize mO τ 21 21 21 = υ at *
  have kυ := m5.2 c (by omega) (by intro z; exact z)
  have kυc : sK υ c = 2 := kυ.1.trans (by rw [← hτ]; exact kc31)
  refine b_Cmp_init_53 ⟨kυc, kυc, ?_⟩
  generalize hσ : uI (uI (uI (uR υ 69 c (some (c + 6))) 70 c 0) 71 c 0) 72 c 0 = σF
  have kF : Keep υ σF (At1 c) := by rw [← hσ]; exact ((kuR1.trans kuI1).trans kuI1).trans kuI1
  have nF : sN σF = c + 28 := by rw [← hσ]; show sN υ = c + 28; omega
  have kτF : Keep τ σF (At1 c) := (m5.mono (fun _ _ h => h.elim)).trans kF
  have kF31 := kτ.trans kτF
  have kF25 := kk31.trans kF31
  have kF19 := kk25.trans kF25
  have kF13 := kk19.trans kF19
  have kF7 := kk13.trans kF13
  have g6 : ∀ f, f ≠ 69 → fR σF f c = fR τ f c := fun f hf => by
    rw [← hσ, fR_uI, fR_uI, fR_uI, fR_uR, if_neg (fun z => hf z.1)]; exact kυ.2.2.2.2.1 f
  have g5 : ∀ f, f ≠ 68 → fR τ f c = fR σ31 f c := fun f hf => by rw [← hτ, fR_uR, if_neg (fun z => hf z.1)]
  have a1 := kF7.2 (c + 1) (by omega) (by omega)
  have a2 := kF13.2 (c + 2) (by omega) (by omega)
  have a3 := kF19.2 (c + 3) (by omega) (by omega)
  have a4 := kF25.2 (c + 4) (by omega) (by omega)
  have a5 := kF31.2 (c + 5) (by omega) (by omega)
  refine r_Cmp_init_71 ⟨rfl, ⟨by omega, ?_, ?_, ?_, ?_, ?_, ?_, ?_, a1.1.trans q7, a2.1.trans q13, a3.1.trans q19, a4.1.trans q25, a5.1.trans q31, (kF.2 (c + 6) (by omega) (by omega)).1.trans m2, a1.2.1.trans z7, a2.2.1.trans z13, a3.2.1.trans z19, a4.2.1.trans z25, a5.2.1.trans z31, (kF.2 (c + 6) (by omega) (by omega)).2.1.trans m3, fun i hi => ?_⟩, nF, kk7.trans kF7⟩ (by decide) (by decide)
  · rw [← hσ]; exact kυc
  · rw [g6 _ (by omega), g5 _ (by omega), g31 _ (by omega), g25 _ (by omega), g19 _ (by omega), f13]
  · rw [g6 _ (by omega), g5 _ (by omega), g31 _ (by omega), g25 _ (by omega), f19]
  · rw [g6 _ (by omega), g5 _ (by omega), g31 _ (by omega), f25]
  · rw [g6 _ (by omega), g5 _ (by omega), f31]
  · rw [g6 _ (by omega), ← hτ, fR_uR, if_pos ⟨rfl, rfl⟩]
  · rw [← hσ, fR_uI, fR_uI, fR_uI, fR_uR, if_pos ⟨rfl, rfl⟩]
  · obtain ⟨r1, r2, r3⟩ := m4 i (by omega)
    have b6 := kF.2 (c + 6) (by omega) (by omega)
    have bi := kF.2 (c + 6 + 1 + i) (by omega) (by omega)
    refine ⟨?_, ?_, ?_⟩
    · rw [b6.2.2.2.2.2.2.2, r1]
    · rw [show c + 7 + i = c + 6 + 1 + i by omega]; exact bi.1.trans r2
    · rw [show c + 7 + i = c + 6 + 1 + i by omega]; exact bi.2.1.trans r3
end INI
