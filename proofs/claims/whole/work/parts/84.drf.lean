/-! BY HAND: Draft, how it begins -/
section DRB
variable {Ω : Om} {σ0 : Sto} {lo a f s b d : Nat} {T F S B : List (Int64 × Int)} {cl : List Cnl} {es : List Nat}
/-- a draft: its places, its sources, its pieces, how many are open, its text, its edits -/
def DfV (Ω : Om) (σ : Sto) (lo a f s b d : Nat) (T : List (Int64 × Int)) (cl : List Cnl) (oc : Int) (es : List Nat) : Prop := DrS σ a ∧ DrT σ a f s b ∧ DrC σ a cl ∧ fI σ 202 a = oc ∧ Tx σ (a + 1) T ∧ Tx σ (a + 62) [] ∧ Ls Ω σ lo (a + 4) d es
abbrev DP (lo a d : Nat) : Nat → Prop := fun q => In a (a + 62) q ∨ In (a + 65) (a + 128) q ∨ (q = d ∧ lo ≤ q)
theorem k_Drf_begun {σ : Sto} (hS : DrS σ a) (hC : DrC σ a cl) (hL : Ls Ω σ lo (a + 4) d es) (hlo : a + 127 < lo) : MC Ω M_Drf_begun rm_Drf_begun (RV fun σ' => DrS σ' a ∧ DrT σ' a f s b ∧ DrC σ' a [] ∧ fI σ' 202 a = 0 ∧ Ls Ω σ' lo (a + 4) d [] ∧ Keep σ σ' (fun q => q = a ∨ LsP lo (a + 4) d q) ∧ sN σ' = sN σ) XN σ [xr (some a), xr (some f), xr (some s), xr (some b)] := by
  obtain ⟨h0, h1, f0, f1, f2, f3, f4, f5, k1, z1, r1, c1, c2⟩ := id hS
  have n0 : a ≠ a + 4 := by omega
  have k0 : Keep σ (uR (uR (uR σ 198 a (some f)) 199 a (some s)) 200 a (some b)) (At1 a) := kuR1.trans (kuR1.trans kuR1)
  refine e_Drf_begun (b_Drf_begun_0 ⟨h1, a + 4, ?_, ?_⟩)
  · simp only [fI_uI, fL_uI, fR_uI, aI_uI, aL_uI, aR_uI, sK_uI, sZ_uI, sN_uI, fI_uL, fL_uL, fR_uL, aI_uL, aL_uL, aR_uL, sK_uL, sZ_uL, sN_uL, fI_uR, fL_uR, fR_uR, aI_uR, aL_uR, aR_uR, sK_uR, sZ_uR, sN_uR, fI_vI, fL_vI, fR_vI, aI_vI, aL_vI, aR_vI, sK_vI, sZ_vI, sN_vI, fI_vL, fL_vL, fR_vL, aI_vL, aL_vL, aR_vL, sK_vL, sZ_vL, sN_vL, fI_vR, fL_vR, fR_vR, aI_vR, aL_vR, aR_vR, sK_vR, sZ_vR, sN_vR, fI_nX, fL_nX, fR_nX, aI_nX, aL_nX, aR_nX, sK_nX, sZ_nX, sN_nX, fI_nO, fL_nO, fR_nO, aI_nO, aL_nO, aR_nO, sK_nO, sZ_nO, sN_nO]; rw [if_neg (by omega), if_neg (by omega), if_neg (by omega)]; exact f1
  have hL0 := hL.keep k0 (by omega) (fun h => by have := hL.1; omega)
  refine c_Drf_begun_19 (k_Lst_clear hL0) hL0.2.2.1 (by decide) (by decide) (by first | decide | omega) (by first | decide | omega) (Nat.le_of_ble_eq_true rfl) (fun σ1 hq => ?_) (fun _ _ hx => hx.elim)
  obtain ⟨hL1, hk1, hn1⟩ := hq
  have ea := hk1.2 a (by show a < sN σ; omega) (by have := hL.1; omega)
  have k2 : Keep σ1 (uI (uI σ1 201 a 0) 202 a 0) (At1 a) := kuI1.trans kuI1
  have kk : Keep σ (uI (uI σ1 201 a 0) 202 a 0) (fun q => q = a ∨ LsP lo (a + 4) d q) := (k0.mono (fun _ _ h => Or.inl h)).trans ((hk1.mono (fun _ _ h => Or.inr h)).trans (k2.mono (fun _ _ h => Or.inl h)))
  have hlo := hL.1
  have eK : sK σ1 a = sK σ a := ea.1
  refine b_Drf_begun_22 ⟨by rw [eK]; exact h1, r_Drf_begun_32 ⟨rfl, ?_, ?_, ?_, ?_, hL1.keep k2 (by omega) (fun h => by omega), kk, hn1⟩ (by decide) (by decide)⟩
  · refine ⟨Nat.lt_of_lt_of_le h0 kk.1, ea.1.trans h1, ?_, ?_, ?_, ?_, ?_, ?_, ?_, ?_, fun i hi => ?_, ?_, ?_⟩
    · simp only [fI_uI, fL_uI, fR_uI, aI_uI, aL_uI, aR_uI, sK_uI, sZ_uI, sN_uI, fI_uL, fL_uL, fR_uL, aI_uL, aL_uL, aR_uL, sK_uL, sZ_uL, sN_uL, fI_uR, fL_uR, fR_uR, aI_uR, aL_uR, aR_uR, sK_uR, sZ_uR, sN_uR, fI_vI, fL_vI, fR_vI, aI_vI, aL_vI, aR_vI, sK_vI, sZ_vI, sN_vI, fI_vL, fL_vL, fR_vL, aI_vL, aL_vL, aR_vL, sK_vL, sZ_vL, sN_vL, fI_vR, fL_vR, fR_vR, aI_vR, aL_vR, aR_vR, sK_vR, sZ_vR, sN_vR, fI_nX, fL_nX, fR_nX, aI_nX, aL_nX, aR_nX, sK_nX, sZ_nX, sN_nX, fI_nO, fL_nO, fR_nO, aI_nO, aL_nO, aR_nO, sK_nO, sZ_nO, sN_nO]; rw [ea.2.2.2.2.1]; simp only [fI_uI, fL_uI, fR_uI, aI_uI, aL_uI, aR_uI, sK_uI, sZ_uI, sN_uI, fI_uL, fL_uL, fR_uL, aI_uL, aL_uL, aR_uL, sK_uL, sZ_uL, sN_uL, fI_uR, fL_uR, fR_uR, aI_uR, aL_uR, aR_uR, sK_uR, sZ_uR, sN_uR, fI_vI, fL_vI, fR_vI, aI_vI, aL_vI, aR_vI, sK_vI, sZ_vI, sN_vI, fI_vL, fL_vL, fR_vL, aI_vL, aL_vL, aR_vL, sK_vL, sZ_vL, sN_vL, fI_vR, fL_vR, fR_vR, aI_vR, aL_vR, aR_vR, sK_vR, sZ_vR, sN_vR, fI_nX, fL_nX, fR_nX, aI_nX, aL_nX, aR_nX, sK_nX, sZ_nX, sN_nX, fI_nO, fL_nO, fR_nO, aI_nO, aL_nO, aR_nO, sK_nO, sZ_nO, sN_nO]; rw [if_neg (by omega), if_neg (by omega), if_neg (by omega)]; exact f0
    · simp only [fI_uI, fL_uI, fR_uI, aI_uI, aL_uI, aR_uI, sK_uI, sZ_uI, sN_uI, fI_uL, fL_uL, fR_uL, aI_uL, aL_uL, aR_uL, sK_uL, sZ_uL, sN_uL, fI_uR, fL_uR, fR_uR, aI_uR, aL_uR, aR_uR, sK_uR, sZ_uR, sN_uR, fI_vI, fL_vI, fR_vI, aI_vI, aL_vI, aR_vI, sK_vI, sZ_vI, sN_vI, fI_vL, fL_vL, fR_vL, aI_vL, aL_vL, aR_vL, sK_vL, sZ_vL, sN_vL, fI_vR, fL_vR, fR_vR, aI_vR, aL_vR, aR_vR, sK_vR, sZ_vR, sN_vR, fI_nX, fL_nX, fR_nX, aI_nX, aL_nX, aR_nX, sK_nX, sZ_nX, sN_nX, fI_nO, fL_nO, fR_nO, aI_nO, aL_nO, aR_nO, sK_nO, sZ_nO, sN_nO]; rw [ea.2.2.2.2.1]; simp only [fI_uI, fL_uI, fR_uI, aI_uI, aL_uI, aR_uI, sK_uI, sZ_uI, sN_uI, fI_uL, fL_uL, fR_uL, aI_uL, aL_uL, aR_uL, sK_uL, sZ_uL, sN_uL, fI_uR, fL_uR, fR_uR, aI_uR, aL_uR, aR_uR, sK_uR, sZ_uR, sN_uR, fI_vI, fL_vI, fR_vI, aI_vI, aL_vI, aR_vI, sK_vI, sZ_vI, sN_vI, fI_vL, fL_vL, fR_vL, aI_vL, aL_vL, aR_vL, sK_vL, sZ_vL, sN_vL, fI_vR, fL_vR, fR_vR, aI_vR, aL_vR, aR_vR, sK_vR, sZ_vR, sN_vR, fI_nX, fL_nX, fR_nX, aI_nX, aL_nX, aR_nX, sK_nX, sZ_nX, sN_nX, fI_nO, fL_nO, fR_nO, aI_nO, aL_nO, aR_nO, sK_nO, sZ_nO, sN_nO]; rw [if_neg (by omega), if_neg (by omega), if_neg (by omega)]; exact f1
    · simp only [fI_uI, fL_uI, fR_uI, aI_uI, aL_uI, aR_uI, sK_uI, sZ_uI, sN_uI, fI_uL, fL_uL, fR_uL, aI_uL, aL_uL, aR_uL, sK_uL, sZ_uL, sN_uL, fI_uR, fL_uR, fR_uR, aI_uR, aL_uR, aR_uR, sK_uR, sZ_uR, sN_uR, fI_vI, fL_vI, fR_vI, aI_vI, aL_vI, aR_vI, sK_vI, sZ_vI, sN_vI, fI_vL, fL_vL, fR_vL, aI_vL, aL_vL, aR_vL, sK_vL, sZ_vL, sN_vL, fI_vR, fL_vR, fR_vR, aI_vR, aL_vR, aR_vR, sK_vR, sZ_vR, sN_vR, fI_nX, fL_nX, fR_nX, aI_nX, aL_nX, aR_nX, sK_nX, sZ_nX, sN_nX, fI_nO, fL_nO, fR_nO, aI_nO, aL_nO, aR_nO, sK_nO, sZ_nO, sN_nO]; rw [ea.2.2.2.2.1]; simp only [fI_uI, fL_uI, fR_uI, aI_uI, aL_uI, aR_uI, sK_uI, sZ_uI, sN_uI, fI_uL, fL_uL, fR_uL, aI_uL, aL_uL, aR_uL, sK_uL, sZ_uL, sN_uL, fI_uR, fL_uR, fR_uR, aI_uR, aL_uR, aR_uR, sK_uR, sZ_uR, sN_uR, fI_vI, fL_vI, fR_vI, aI_vI, aL_vI, aR_vI, sK_vI, sZ_vI, sN_vI, fI_vL, fL_vL, fR_vL, aI_vL, aL_vL, aR_vL, sK_vL, sZ_vL, sN_vL, fI_vR, fL_vR, fR_vR, aI_vR, aL_vR, aR_vR, sK_vR, sZ_vR, sN_vR, fI_nX, fL_nX, fR_nX, aI_nX, aL_nX, aR_nX, sK_nX, sZ_nX, sN_nX, fI_nO, fL_nO, fR_nO, aI_nO, aL_nO, aR_nO, sK_nO, sZ_nO, sN_nO]; rw [if_neg (by omega), if_neg (by omega), if_neg (by omega)]; exact f2
    · simp only [fI_uI, fL_uI, fR_uI, aI_uI, aL_uI, aR_uI, sK_uI, sZ_uI, sN_uI, fI_uL, fL_uL, fR_uL, aI_uL, aL_uL, aR_uL, sK_uL, sZ_uL, sN_uL, fI_uR, fL_uR, fR_uR, aI_uR, aL_uR, aR_uR, sK_uR, sZ_uR, sN_uR, fI_vI, fL_vI, fR_vI, aI_vI, aL_vI, aR_vI, sK_vI, sZ_vI, sN_vI, fI_vL, fL_vL, fR_vL, aI_vL, aL_vL, aR_vL, sK_vL, sZ_vL, sN_vL, fI_vR, fL_vR, fR_vR, aI_vR, aL_vR, aR_vR, sK_vR, sZ_vR, sN_vR, fI_nX, fL_nX, fR_nX, aI_nX, aL_nX, aR_nX, sK_nX, sZ_nX, sN_nX, fI_nO, fL_nO, fR_nO, aI_nO, aL_nO, aR_nO, sK_nO, sZ_nO, sN_nO]; rw [ea.2.2.2.2.1]; simp only [fI_uI, fL_uI, fR_uI, aI_uI, aL_uI, aR_uI, sK_uI, sZ_uI, sN_uI, fI_uL, fL_uL, fR_uL, aI_uL, aL_uL, aR_uL, sK_uL, sZ_uL, sN_uL, fI_uR, fL_uR, fR_uR, aI_uR, aL_uR, aR_uR, sK_uR, sZ_uR, sN_uR, fI_vI, fL_vI, fR_vI, aI_vI, aL_vI, aR_vI, sK_vI, sZ_vI, sN_vI, fI_vL, fL_vL, fR_vL, aI_vL, aL_vL, aR_vL, sK_vL, sZ_vL, sN_vL, fI_vR, fL_vR, fR_vR, aI_vR, aL_vR, aR_vR, sK_vR, sZ_vR, sN_vR, fI_nX, fL_nX, fR_nX, aI_nX, aL_nX, aR_nX, sK_nX, sZ_nX, sN_nX, fI_nO, fL_nO, fR_nO, aI_nO, aL_nO, aR_nO, sK_nO, sZ_nO, sN_nO]; rw [if_neg (by omega), if_neg (by omega), if_neg (by omega)]; exact f3
    · simp only [fI_uI, fL_uI, fR_uI, aI_uI, aL_uI, aR_uI, sK_uI, sZ_uI, sN_uI, fI_uL, fL_uL, fR_uL, aI_uL, aL_uL, aR_uL, sK_uL, sZ_uL, sN_uL, fI_uR, fL_uR, fR_uR, aI_uR, aL_uR, aR_uR, sK_uR, sZ_uR, sN_uR, fI_vI, fL_vI, fR_vI, aI_vI, aL_vI, aR_vI, sK_vI, sZ_vI, sN_vI, fI_vL, fL_vL, fR_vL, aI_vL, aL_vL, aR_vL, sK_vL, sZ_vL, sN_vL, fI_vR, fL_vR, fR_vR, aI_vR, aL_vR, aR_vR, sK_vR, sZ_vR, sN_vR, fI_nX, fL_nX, fR_nX, aI_nX, aL_nX, aR_nX, sK_nX, sZ_nX, sN_nX, fI_nO, fL_nO, fR_nO, aI_nO, aL_nO, aR_nO, sK_nO, sZ_nO, sN_nO]; rw [ea.2.2.2.2.1]; simp only [fI_uI, fL_uI, fR_uI, aI_uI, aL_uI, aR_uI, sK_uI, sZ_uI, sN_uI, fI_uL, fL_uL, fR_uL, aI_uL, aL_uL, aR_uL, sK_uL, sZ_uL, sN_uL, fI_uR, fL_uR, fR_uR, aI_uR, aL_uR, aR_uR, sK_uR, sZ_uR, sN_uR, fI_vI, fL_vI, fR_vI, aI_vI, aL_vI, aR_vI, sK_vI, sZ_vI, sN_vI, fI_vL, fL_vL, fR_vL, aI_vL, aL_vL, aR_vL, sK_vL, sZ_vL, sN_vL, fI_vR, fL_vR, fR_vR, aI_vR, aL_vR, aR_vR, sK_vR, sZ_vR, sN_vR, fI_nX, fL_nX, fR_nX, aI_nX, aL_nX, aR_nX, sK_nX, sZ_nX, sN_nX, fI_nO, fL_nO, fR_nO, aI_nO, aL_nO, aR_nO, sK_nO, sZ_nO, sN_nO]; rw [if_neg (by omega), if_neg (by omega), if_neg (by omega)]; exact f4
    · simp only [fI_uI, fL_uI, fR_uI, aI_uI, aL_uI, aR_uI, sK_uI, sZ_uI, sN_uI, fI_uL, fL_uL, fR_uL, aI_uL, aL_uL, aR_uL, sK_uL, sZ_uL, sN_uL, fI_uR, fL_uR, fR_uR, aI_uR, aL_uR, aR_uR, sK_uR, sZ_uR, sN_uR, fI_vI, fL_vI, fR_vI, aI_vI, aL_vI, aR_vI, sK_vI, sZ_vI, sN_vI, fI_vL, fL_vL, fR_vL, aI_vL, aL_vL, aR_vL, sK_vL, sZ_vL, sN_vL, fI_vR, fL_vR, fR_vR, aI_vR, aL_vR, aR_vR, sK_vR, sZ_vR, sN_vR, fI_nX, fL_nX, fR_nX, aI_nX, aL_nX, aR_nX, sK_nX, sZ_nX, sN_nX, fI_nO, fL_nO, fR_nO, aI_nO, aL_nO, aR_nO, sK_nO, sZ_nO, sN_nO]; rw [ea.2.2.2.2.1]; simp only [fI_uI, fL_uI, fR_uI, aI_uI, aL_uI, aR_uI, sK_uI, sZ_uI, sN_uI, fI_uL, fL_uL, fR_uL, aI_uL, aL_uL, aR_uL, sK_uL, sZ_uL, sN_uL, fI_uR, fL_uR, fR_uR, aI_uR, aL_uR, aR_uR, sK_uR, sZ_uR, sN_uR, fI_vI, fL_vI, fR_vI, aI_vI, aL_vI, aR_vI, sK_vI, sZ_vI, sN_vI, fI_vL, fL_vL, fR_vL, aI_vL, aL_vL, aR_vL, sK_vL, sZ_vL, sN_vL, fI_vR, fL_vR, fR_vR, aI_vR, aL_vR, aR_vR, sK_vR, sZ_vR, sN_vR, fI_nX, fL_nX, fR_nX, aI_nX, aL_nX, aR_nX, sK_nX, sZ_nX, sN_nX, fI_nO, fL_nO, fR_nO, aI_nO, aL_nO, aR_nO, sK_nO, sZ_nO, sN_nO]; rw [if_neg (by omega), if_neg (by omega), if_neg (by omega)]; exact f5
    · exact (kk.2 (a + 5) (by omega) (by omega)).1.trans k1
    · exact (kk.2 (a + 5) (by omega) (by omega)).2.1.trans z1
    · rw [(kk.2 (a + 5) (by omega) (by omega)).2.2.2.2.2.2.2]; exact r1 i hi
    · exact c1.keep kk (fun q q1 q2 => by omega)
    · exact c2.keep kk (fun q q1 q2 => by omega)
  · refine ⟨?_, ?_, ?_⟩
    · simp only [fI_uI, fL_uI, fR_uI, aI_uI, aL_uI, aR_uI, sK_uI, sZ_uI, sN_uI, fI_uL, fL_uL, fR_uL, aI_uL, aL_uL, aR_uL, sK_uL, sZ_uL, sN_uL, fI_uR, fL_uR, fR_uR, aI_uR, aL_uR, aR_uR, sK_uR, sZ_uR, sN_uR, fI_vI, fL_vI, fR_vI, aI_vI, aL_vI, aR_vI, sK_vI, sZ_vI, sN_vI, fI_vL, fL_vL, fR_vL, aI_vL, aL_vL, aR_vL, sK_vL, sZ_vL, sN_vL, fI_vR, fL_vR, fR_vR, aI_vR, aL_vR, aR_vR, sK_vR, sZ_vR, sN_vR, fI_nX, fL_nX, fR_nX, aI_nX, aL_nX, aR_nX, sK_nX, sZ_nX, sN_nX, fI_nO, fL_nO, fR_nO, aI_nO, aL_nO, aR_nO, sK_nO, sZ_nO, sN_nO]; rw [ea.2.2.2.2.1]; simp only [fI_uI, fL_uI, fR_uI, aI_uI, aL_uI, aR_uI, sK_uI, sZ_uI, sN_uI, fI_uL, fL_uL, fR_uL, aI_uL, aL_uL, aR_uL, sK_uL, sZ_uL, sN_uL, fI_uR, fL_uR, fR_uR, aI_uR, aL_uR, aR_uR, sK_uR, sZ_uR, sN_uR, fI_vI, fL_vI, fR_vI, aI_vI, aL_vI, aR_vI, sK_vI, sZ_vI, sN_vI, fI_vL, fL_vL, fR_vL, aI_vL, aL_vL, aR_vL, sK_vL, sZ_vL, sN_vL, fI_vR, fL_vR, fR_vR, aI_vR, aL_vR, aR_vR, sK_vR, sZ_vR, sN_vR, fI_nX, fL_nX, fR_nX, aI_nX, aL_nX, aR_nX, sK_nX, sZ_nX, sN_nX, fI_nO, fL_nO, fR_nO, aI_nO, aL_nO, aR_nO, sK_nO, sZ_nO, sN_nO]; rw [if_neg (by omega), if_neg (by omega), if_pos ⟨trivial, trivial⟩]
    · simp only [fI_uI, fL_uI, fR_uI, aI_uI, aL_uI, aR_uI, sK_uI, sZ_uI, sN_uI, fI_uL, fL_uL, fR_uL, aI_uL, aL_uL, aR_uL, sK_uL, sZ_uL, sN_uL, fI_uR, fL_uR, fR_uR, aI_uR, aL_uR, aR_uR, sK_uR, sZ_uR, sN_uR, fI_vI, fL_vI, fR_vI, aI_vI, aL_vI, aR_vI, sK_vI, sZ_vI, sN_vI, fI_vL, fL_vL, fR_vL, aI_vL, aL_vL, aR_vL, sK_vL, sZ_vL, sN_vL, fI_vR, fL_vR, fR_vR, aI_vR, aL_vR, aR_vR, sK_vR, sZ_vR, sN_vR, fI_nX, fL_nX, fR_nX, aI_nX, aL_nX, aR_nX, sK_nX, sZ_nX, sN_nX, fI_nO, fL_nO, fR_nO, aI_nO, aL_nO, aR_nO, sK_nO, sZ_nO, sN_nO]; rw [ea.2.2.2.2.1]; simp only [fI_uI, fL_uI, fR_uI, aI_uI, aL_uI, aR_uI, sK_uI, sZ_uI, sN_uI, fI_uL, fL_uL, fR_uL, aI_uL, aL_uL, aR_uL, sK_uL, sZ_uL, sN_uL, fI_uR, fL_uR, fR_uR, aI_uR, aL_uR, aR_uR, sK_uR, sZ_uR, sN_uR, fI_vI, fL_vI, fR_vI, aI_vI, aL_vI, aR_vI, sK_vI, sZ_vI, sN_vI, fI_vL, fL_vL, fR_vL, aI_vL, aL_vL, aR_vL, sK_vL, sZ_vL, sN_vL, fI_vR, fL_vR, fR_vR, aI_vR, aL_vR, aR_vR, sK_vR, sZ_vR, sN_vR, fI_nX, fL_nX, fR_nX, aI_nX, aL_nX, aR_nX, sK_nX, sZ_nX, sN_nX, fI_nO, fL_nO, fR_nO, aI_nO, aL_nO, aR_nO, sK_nO, sZ_nO, sN_nO]; rw [if_neg (by omega), if_pos ⟨trivial, trivial⟩]
    · simp only [fI_uI, fL_uI, fR_uI, aI_uI, aL_uI, aR_uI, sK_uI, sZ_uI, sN_uI, fI_uL, fL_uL, fR_uL, aI_uL, aL_uL, aR_uL, sK_uL, sZ_uL, sN_uL, fI_uR, fL_uR, fR_uR, aI_uR, aL_uR, aR_uR, sK_uR, sZ_uR, sN_uR, fI_vI, fL_vI, fR_vI, aI_vI, aL_vI, aR_vI, sK_vI, sZ_vI, sN_vI, fI_vL, fL_vL, fR_vL, aI_vL, aL_vL, aR_vL, sK_vL, sZ_vL, sN_vL, fI_vR, fL_vR, fR_vR, aI_vR, aL_vR, aR_vR, sK_vR, sZ_vR, sN_vR, fI_nX, fL_nX, fR_nX, aI_nX, aL_nX, aR_nX, sK_nX, sZ_nX, sN_nX, fI_nO, fL_nO, fR_nO, aI_nO, aL_nO, aR_nO, sK_nO, sZ_nO, sN_nO]; rw [ea.2.2.2.2.1]; simp only [fI_uI, fL_uI, fR_uI, aI_uI, aL_uI, aR_uI, sK_uI, sZ_uI, sN_uI, fI_uL, fL_uL, fR_uL, aI_uL, aL_uL, aR_uL, sK_uL, sZ_uL, sN_uL, fI_uR, fL_uR, fR_uR, aI_uR, aL_uR, aR_uR, sK_uR, sZ_uR, sN_uR, fI_vI, fL_vI, fR_vI, aI_vI, aL_vI, aR_vI, sK_vI, sZ_vI, sN_vI, fI_vL, fL_vL, fR_vL, aI_vL, aL_vL, aR_vL, sK_vL, sZ_vL, sN_vL, fI_vR, fL_vR, fR_vR, aI_vR, aL_vR, aR_vR, sK_vR, sZ_vR, sN_vR, fI_nX, fL_nX, fR_nX, aI_nX, aL_nX, aR_nX, sK_nX, sZ_nX, sN_nX, fI_nO, fL_nO, fR_nO, aI_nO, aL_nO, aR_nO, sK_nO, sZ_nO, sN_nO]; rw [if_pos ⟨trivial, trivial⟩]
  · obtain ⟨g1, g2, g3⟩ := hC
    refine ⟨?_, Nat.zero_le _, fun i hi => ?_⟩
    · simp only [fI_uI, fL_uI, fR_uI, aI_uI, aL_uI, aR_uI, sK_uI, sZ_uI, sN_uI, fI_uL, fL_uL, fR_uL, aI_uL, aL_uL, aR_uL, sK_uL, sZ_uL, sN_uL, fI_uR, fL_uR, fR_uR, aI_uR, aL_uR, aR_uR, sK_uR, sZ_uR, sN_uR, fI_vI, fL_vI, fR_vI, aI_vI, aL_vI, aR_vI, sK_vI, sZ_vI, sN_vI, fI_vL, fL_vL, fR_vL, aI_vL, aL_vL, aR_vL, sK_vL, sZ_vL, sN_vL, fI_vR, fL_vR, fR_vR, aI_vR, aL_vR, aR_vR, sK_vR, sZ_vR, sN_vR, fI_nX, fL_nX, fR_nX, aI_nX, aL_nX, aR_nX, sK_nX, sZ_nX, sN_nX, fI_nO, fL_nO, fR_nO, aI_nO, aL_nO, aR_nO, sK_nO, sZ_nO, sN_nO]; rw [if_neg (by omega), if_pos ⟨trivial, trivial⟩]; rfl
    · obtain ⟨c, q1, q2⟩ := g3 i hi
      exact ⟨c, Cf.keep q1 kk (fun q w1 w2 => by omega), fun c' hc' => by simp at hc'⟩
  · simp only [fI_uI, fL_uI, fR_uI, aI_uI, aL_uI, aR_uI, sK_uI, sZ_uI, sN_uI, fI_uL, fL_uL, fR_uL, aI_uL, aL_uL, aR_uL, sK_uL, sZ_uL, sN_uL, fI_uR, fL_uR, fR_uR, aI_uR, aL_uR, aR_uR, sK_uR, sZ_uR, sN_uR, fI_vI, fL_vI, fR_vI, aI_vI, aL_vI, aR_vI, sK_vI, sZ_vI, sN_vI, fI_vL, fL_vL, fR_vL, aI_vL, aL_vL, aR_vL, sK_vL, sZ_vL, sN_vL, fI_vR, fL_vR, fR_vR, aI_vR, aL_vR, aR_vR, sK_vR, sZ_vR, sN_vR, fI_nX, fL_nX, fR_nX, aI_nX, aL_nX, aR_nX, sK_nX, sZ_nX, sN_nX, fI_nO, fL_nO, fR_nO, aI_nO, aL_nO, aR_nO, sK_nO, sZ_nO, sN_nO]; rw [if_pos ⟨trivial, trivial⟩]
theorem k_Drf_startFrom {σ : Sto} (hS : DrS σ a) (hC : DrC σ a cl) (hX : Tx σ (a + 1) T) (hZ : Tx σ (a + 62) []) (hL : Ls Ω σ lo (a + 4) d es) (hF : Tx σ f F) (df : DO a f) (hlo : a + 127 < lo) (hf : f + 2 < lo) : MC Ω M_Drf_startFrom rm_Drf_startFrom (RV fun σ' => DfV Ω σ' lo a f (a + 62) (a + 62) d F [] 0 [] ∧ Keep σ σ' (DP lo a d)) XN σ [xr (some a), xr (some f)] := by
  obtain ⟨h0, h1, f0, f1, f2, f3, f4, f5, k1, z1, r1, c1, c2⟩ := id hS
  refine e_Drf_startFrom (b_Drf_startFrom_0 ⟨h1, _, f5, ?_⟩)
  refine c_Drf_startFrom_10 (k_Drf_begun (f := f) (s := a + 62) (b := a + 62) hS hC hL hlo) h1 (by decide) (by decide) (by first | decide | omega) (by first | decide | omega) (Nat.le_of_ble_eq_true rfl) (fun σ1 hq => ?_) (fun _ _ hx => hx.elim)
  obtain ⟨hS1, hT1, hC1, ho1, hL1, hk1, hn1⟩ := hq
  refine b_Drf_startFrom_13 ⟨hS1.2.1, _, hS1.2.2.1, ?_⟩
  have hX1 := hX.keep hk1 (fun q q1 q2 q3 => by omega)
  have hF1 := hF.keep hk1 (fun q q1 q2 q3 => by omega)
  have hZ1 := hZ.keep hk1 (fun q q1 q2 q3 => by omega)
  refine c_Drf_startFrom_18 (k_Txt_copy hX1 hF1 (by omega)) hX1.2.1 (by decide) (by decide) (by first | decide | omega) (by first | decide | omega) (Nat.le_of_ble_eq_true rfl) (fun σ2 hq => ?_) (fun _ _ hx => hx.elim)
  obtain ⟨hX2, hk2⟩ := hq
  refine r_Drf_startFrom_21 ⟨rfl, ⟨hS1.keep hk2 (by omega) (fun q q1 q2 => by omega), hT1.keep hk2 (by have := hS1.1; omega) (by omega), hC1.keep hk2 hS1.1 (by omega) (fun q q1 q2 => by omega), ((hk2.2 a (by have := hS1.1; omega) (by omega)).2.2.1 _).trans ho1, hX2, hZ1.keep hk2 (fun q q1 q2 q3 => by omega), hL1.keep hk2 (by omega) (fun h => by omega)⟩, (hk1.mono (fun q _ h => ?_)).trans (hk2.mono (fun q _ h => ?_))⟩ (by decide) (by decide)
  · rcases h with h | h | h
    · exact Or.inl (by omega)
    · exact Or.inl (by omega)
    · exact Or.inr (Or.inr h)
  · exact Or.inl (by omega)
theorem DrS.cmp {σ σ' : Sto} (h : DrS σ a) (k : Keep σ σ' (In (a + 6) (a + 62))) (g1 : CpS σ' (a + 6)) (g2 : CpS σ' (a + 34)) : DrS σ' a := by
  obtain ⟨h0, h1, f0, f1, f2, f3, f4, f5, k1, z1, r1, c1, c2⟩ := h
  have e0 := k.2 a (by omega) (by omega)
  have e5 := k.2 (a + 5) (by omega) (by omega)
  refine ⟨Nat.lt_of_lt_of_le h0 k.1, e0.1.trans h1, (e0.2.2.2.2.1 _).trans f0, (e0.2.2.2.2.1 _).trans f1, (e0.2.2.2.2.1 _).trans f2, (e0.2.2.2.2.1 _).trans f3, (e0.2.2.2.2.1 _).trans f4, (e0.2.2.2.2.1 _).trans f5, e5.1.trans k1, e5.2.1.trans z1, fun i hi => ?_, g1, g2⟩
  rw [e5.2.2.2.2.2.2.2]; exact r1 i hi
/-- what two texts are woven to over a third one -/
noncomputable def wvA (F S B : List (Int64 × Int)) : List (Int64 × Int) × List Cnl := wvN F S B (prW (XL 0 B) (XL 0 F)).1 (prW (XL 0 B) (XL 0 S)).1 B.length 0 0 0 0 [] []
theorem k_Drf_weave {σ : Sto} (hS : DrS σ a) (hC : DrC σ a cl) (hX : Tx σ (a + 1) T) (hZ : Tx σ (a + 62) []) (hL : Ls Ω σ lo (a + 4) d es) (h3 : Tx3 σ f s b F S B) (lF : F.length ≤ 20) (lS : S.length ≤ 20) (lB : B.length ≤ 20) (df : DO a f) (ds : DO a s) (db : DO a b) (hqF : ∀ x ∈ F, Q32 x.2) (hqS : ∀ x ∈ S, Q32 x.2) (hlo : a + 127 < lo) (hf : f + 2 < lo) (hs : s + 2 < lo) (hb : b + 2 < lo) : MC Ω M_Drf_weave rm_Drf_weave (RV fun σ' => DfV Ω σ' lo a f s b d (wvA F S B).1 (wvA F S B).2 (wvA F S B).2.length [] ∧ Keep σ σ' (DP lo a d)) XN σ [xr (some a), xr (some f), xr (some s), xr (some b)] := by
  obtain ⟨h0, h1, f0, f1, f2, f3, f4, f5, k1, z1, r1, c1, c2⟩ := id hS
  refine e_Drf_weave (b_Drf_weave_0 ?_)
  refine c_Drf_weave_4 (k_Drf_begun (f := f) (s := s) (b := b) hS hC hL hlo) h1 (by decide) (by decide) (by first | decide | omega) (by first | decide | omega) (Nat.le_of_ble_eq_true rfl) (fun σ1 hq => ?_) (fun _ _ hx => hx.elim)
  obtain ⟨hS1, hT1, hC1, ho1, hL1, hk1, hn1⟩ := hq
  refine b_Drf_weave_7 ⟨hS1.2.1, _, hS1.2.2.1, ?_⟩
  have hX1 := hX.keep hk1 (fun q q1 q2 q3 => by omega)
  have hZ1 := hZ.keep hk1 (fun q q1 q2 q3 => by omega)
  have h31 := h3.keep hk1 (fun q q1 q2 q3 => by omega) (fun q q1 q2 q3 => by omega) (fun q q1 q2 q3 => by omega)
  refine c_Drf_weave_11 (k_Txt_empty hX1) hX1.2.1 (by decide) (by decide) (by first | decide | omega) (by first | decide | omega) (Nat.le_of_ble_eq_true rfl) (fun σ2 hq => ?_) (fun _ _ hx => hx.elim)
  obtain ⟨hX2, hk2⟩ := hq
  have hS2 := hS1.keep hk2 (by omega) (fun q q1 q2 => by omega)
  have hT2 := hT1.keep hk2 (by have := hS1.1; omega) (by omega)
  have hC2 := hC1.keep hk2 hS1.1 (by omega) (fun q q1 q2 => by omega)
  have ho2 := ((hk2.2 a (by have := hS1.1; omega) (by omega)).2.2.1 _).trans ho1
  have hZ2 := hZ1.keep hk2 (fun q q1 q2 q3 => by omega)
  have h32 := h31.keep hk2 (fun q q1 q2 q3 => by omega) (fun q q1 q2 q3 => by omega) (fun q q1 q2 q3 => by omega)
  have hL2 := hL1.keep hk2 (by omega) (fun h => by omega)
  refine b_Drf_weave_14 ⟨hS2.2.1, _, hS2.2.2.2.2.2.1, ?_⟩
  refine c_Drf_weave_21 (k_Cmp_pairUp (lb := 0) hS2.2.2.2.2.2.2.2.2.2.2.2.1 h32.2.2 h32.1 lB lF (by omega) (by omega) (by decide)) hS2.2.2.2.2.2.2.2.2.2.2.2.1.2.1 (by decide) (by decide) (by first | decide | omega) (by first | decide | omega) (Nat.le_of_ble_eq_true rfl) (fun σ3 hq => ?_) (fun _ _ hx => hx.elim)
  obtain ⟨hW3, hP3, hk3⟩ := hq
  have c2' := hS2.2.2.2.2.2.2.2.2.2.2.2.2.keep hk3 (fun q q1 q2 q3 => by omega)
  have hS3 : DrS σ3 a := hS2.cmp (hk3.mono (fun q _ h => by omega)) hW3.1 c2'
  have hn3 := hS3.1
  have h33 := h32.keep hk3 (fun q q1 q2 q3 => by omega) (fun q q1 q2 q3 => by omega) (fun q q1 q2 q3 => by omega)
  have hT3 := hT2.keep hk3 (by have := hS2.1; omega) (by omega)
  have hC3 := hC2.keep hk3 hS2.1 (by omega) (fun q q1 q2 => by omega)
  have ho3 := ((hk3.2 a (by have := hS2.1; omega) (by omega)).2.2.1 _).trans ho2
  have hX3 := hX2.keep hk3 (fun q q1 q2 q3 => by omega)
  have hZ3 := hZ2.keep hk3 (fun q q1 q2 q3 => by omega)
  have hL3 := hL2.keep hk3 (by omega) (fun h => by omega)
  refine b_Drf_weave_24 ⟨hS3.2.1, _, hS3.2.2.2.2.2.2.1, ?_⟩
  refine c_Drf_weave_31 (k_Cmp_pairUp (lb := 0) hS3.2.2.2.2.2.2.2.2.2.2.2.2 h33.2.2 h33.2.1 lB lS (by omega) (by omega) (by decide)) hS3.2.2.2.2.2.2.2.2.2.2.2.2.2.1 (by decide) (by decide) (by first | decide | omega) (by first | decide | omega) (Nat.le_of_ble_eq_true rfl) (fun σ4 hq => ?_) (fun _ _ hx => hx.elim)
  obtain ⟨hW4, hP4, hk4⟩ := hq
  have lb0 := XL_len 0 B
  have hP3' : CpP σ3 (a + 6) (XL 0 B).length F.length (prW (XL 0 B) (XL 0 F)).1 (fun _ => -1) (prW (XL 0 B) (XL 0 F)).2 := by rw [lb0]; exact hP3
  have hP4' : CpP σ4 (a + 34) (XL 0 B).length S.length (prW (XL 0 B) (XL 0 S)).1 (fun _ => -1) (prW (XL 0 B) (XL 0 S)).2 := by rw [lb0]; exact hP4
  have cp4 := cpkeep hW3 hP3' hk4 (fun q q1 q2 q3 => by omega)
  have hS4 : DrS σ4 a := hS3.cmp (hk4.mono (fun q _ h => by omega)) cp4.1.1 hW4.1
  have h34 := h33.keep hk4 (fun q q1 q2 q3 => by omega) (fun q q1 q2 q3 => by omega) (fun q q1 q2 q3 => by omega)
  have hT4 := hT3.keep hk4 (by omega) (by omega)
  have hC4 := hC3.keep hk4 hS3.1 (by omega) (fun q q1 q2 => by omega)
  have ho4 := ((hk4.2 a (by omega) (by omega)).2.2.1 _).trans ho3
  have hX4 := hX3.keep hk4 (fun q q1 q2 q3 => by omega)
  have hZ4 := hZ3.keep hk4 (fun q q1 q2 q3 => by omega)
  have hL4 := hL3.keep hk4 (by omega) (fun h => by omega)
  have k04 : Keep σ σ4 (DP lo a d) := by
    refine (hk1.mono (fun q _ h => ?_)).trans ((hk2.mono (fun q _ h => Or.inl (by omega))).trans ((hk3.mono (fun q _ h => Or.inl (by omega))).trans (hk4.mono (fun q _ h => Or.inl (by omega)))))
    rcases h with h | h | h
    · exact Or.inl (by omega)
    · exact Or.inl (by omega)
    · exact Or.inr (Or.inr h)
  refine b_Drf_weave_34 ?_
  have p1 := prs_ok (XL 0 B) (XL 0 F)
  have p2 := prs_ok (XL 0 B) (XL 0 S)
  rw [XL_len, XL_len] at p1 p2
  refine weave_loop (Ω := Ω) (σ0 := σ4) (v := wvA F S B) lF lS lB lb0 lb0 p1 p2 df ds db hqF hqS (fun σ' hp => ⟨⟨hp.1, hp.2.1, hp.2.2.1, hp.2.2.2.1, hp.2.2.2.2.1, hZ4.keep hp.2.2.2.2.2 (fun q q1 q2 q3 => by omega), hL4.keep hp.2.2.2.2.2 (by omega) (fun h => by omega)⟩, k04.trans (hp.2.2.2.2.2.mono (fun q _ h => by omega))⟩) B.length 0 0 0 0 [] [] σ4 (by omega) rfl (Nat.zero_le _) (Nat.zero_le _) (Nat.le_refl _) (Nat.le_refl _) (Nat.zero_le _) (fun j h1 h2 h3 h4 => ?_) ⟨hS4, hT4, hC4, ho4, hX4, h34, cp4.1, cp4.2, hW4, hP4', Keep.rf⟩
  have r1 := p1.1 j h2
  have r2 := p2.1 j h2
  omega
end DRB
