/-! BY HAND: Conflict, LineBook -/
def Cf (σ : Sto) (b : Nat) (fr to : Nat → Int) (pl se : Int) : Prop := b + 2 < sN σ ∧ sK σ b = 3 ∧ fR σ 128 b = some (b + 1) ∧ fR σ 129 b = some (b + 2) ∧ sK σ (b + 1) = 50 ∧ sK σ (b + 2) = 50 ∧ sZ σ (b + 1) = 3 ∧ sZ σ (b + 2) = 3 ∧ fI σ 130 b = pl ∧ fI σ 131 b = se ∧ ∀ i, i < 3 → aI σ (b + 1) i = fr i ∧ aI σ (b + 2) i = to i
theorem Cf.keep {σ σ' : Sto} {b : Nat} {fr to : Nat → Int} {pl se : Int} {P : Nat → Prop} (h : Cf σ b fr to pl se) (k : Keep σ σ' P) (d : ∀ q, b ≤ q → q ≤ b + 2 → ¬ P q) : Cf σ' b fr to pl se := by
  obtain ⟨h1, h2, h3, h4, h5, h6, h7, h8, h9, h10, h11⟩ := h
  have k0 := k.2 b (by omega) (d b (by omega) (by omega))
  have k1 := k.2 (b + 1) (by omega) (d _ (by omega) (by omega))
  have k2 := k.2 (b + 2) (by omega) (d _ (by omega) (by omega))
  refine ⟨Nat.lt_of_lt_of_le h1 k.1, k0.1.trans h2, (k0.2.2.2.2.1 _).trans h3, (k0.2.2.2.2.1 _).trans h4, k1.1.trans h5, k2.1.trans h6, k1.2.1.trans h7, k2.2.1.trans h8, (k0.2.2.1 _).trans h9, (k0.2.2.1 _).trans h10, fun i hi => ?_⟩
  rw [k1.2.2.2.2.2.1, k2.2.2.2.2.2.1]; exact h11 i hi
def Bk (σ : Sto) (b n : Nat) (au og : Nat → Int) : Prop := b + 2 < sN σ ∧ sK σ b = 7 ∧ fR σ 384 b = some (b + 1) ∧ fR σ 385 b = some (b + 2) ∧ sK σ (b + 1) = 50 ∧ sK σ (b + 2) = 50 ∧ sZ σ (b + 1) = 10240 ∧ sZ σ (b + 2) = 10240 ∧ fI σ 386 b = n ∧ n ≤ 10240 ∧ ∀ i, i < n → aI σ (b + 1) i = au i ∧ aI σ (b + 2) i = og i
theorem Bk.keep {σ σ' : Sto} {b n : Nat} {au og : Nat → Int} {P : Nat → Prop} (h : Bk σ b n au og) (k : Keep σ σ' P) (d : ∀ q, b ≤ q → q ≤ b + 2 → ¬ P q) : Bk σ' b n au og := by
  obtain ⟨h1, h2, h3, h4, h5, h6, h7, h8, h9, h10, h11⟩ := h
  have k0 := k.2 b (by omega) (d b (by omega) (by omega))
  have k1 := k.2 (b + 1) (by omega) (d _ (by omega) (by omega))
  have k2 := k.2 (b + 2) (by omega) (d _ (by omega) (by omega))
  refine ⟨Nat.lt_of_lt_of_le h1 k.1, k0.1.trans h2, (k0.2.2.2.2.1 _).trans h3, (k0.2.2.2.2.1 _).trans h4, k1.1.trans h5, k2.1.trans h6, k1.2.1.trans h7, k2.2.1.trans h8, (k0.2.2.1 _).trans h9, h10, fun i hi => ?_⟩
  rw [k1.2.2.2.2.2.1, k2.2.2.2.2.2.1]; exact h11 i hi
/-- a line is one, or comes from it -/
def cmF (o : Nat → Int) : Nat → Int → Int → Bool
  | 0, _, _ => false
  | f + 1, x, w => if x < 0 then false else if x = w then true else cmF o f (o x.toNat) w
section LBK
variable {Ω : Om} {σ : Sto} {b n : Nat} {au og : Nat → Int}
theorem k_Cnf_pieceSize {fr to : Nat → Int} {pl se p : Int} (h : Cf σ b fr to pl se) (hp : Q32 p) : MC Ω M_Cnf_pieceSize rm_Cnf_pieceSize (RI fun r σ' => σ' = σ ∧ r = (if 0 ≤ p ∧ p ≤ 2 then to p.toNat - fr p.toNat else 0)) XN σ [xr (some b), xi p] := by
  obtain ⟨h1, h2, h3, h4, h5, h6, h7, h8, h9, h10, h11⟩ := id h
  refine e_Cnf_pieceSize (b_Cnf_pieceSize_0 ⟨hp, fun c => ?_, fun c => ⟨fun c2 => ⟨h2, _, h4, h6, by omega, by rw [h8]; omega, fun _ => ⟨_, h3, h5, by omega, by rw [h7]; omega, fun _ => ?_⟩⟩, fun c2 => ?_⟩⟩)
  · exact r_Cnf_pieceSize_26 ⟨_, rfl, rfl, by rw [if_neg (by omega)]⟩ (by decide) (by decide)
  · have := h11 p.toNat (by omega)
    exact r_Cnf_pieceSize_26 ⟨_, rfl, rfl, by rw [if_pos (by omega), this.1, this.2]⟩ (by decide) (by decide)
  · exact r_Cnf_pieceSize_26 ⟨_, rfl, rfl, by rw [if_neg (by omega)]⟩ (by decide) (by decide)
theorem k_Cnf_init (ha : sK σ b = 3) (hn : sN σ = b + 1) : MC Ω M_Cnf_init rm_Cnf_init (RV fun σ' => Cf σ' b (fun _ => 0) (fun _ => 0) 0 0 ∧ sN σ' = b + 3 ∧ Keep σ σ' (At1 b)) XN σ [xr (some b)] := by
  refine e_Cnf_init (b_Cnf_init_0 ⟨by decide, Nat.le_of_ble_eq_true rfl, by decide, by decide, fun σ1 e1 => ?_⟩)
  have k1 : sK σ1 b = 3 := by rw [e1, sK_nO, if_neg (by omega)]; exact ha
  have n1 : sN σ1 = b + 2 := by rw [e1, sN_nO, hn]
  refine ⟨k1, by decide, by decide, fun σ2 e2 => ?_⟩
  rw [hn] at e2
  have k2 : sK σ2 b = 3 := by rw [e2, sK_nO, sN_uR, sK_uR, if_neg (by omega)]; exact k1
  have n2 : sN σ2 = b + 3 := by rw [e2, sN_nO, sN_uR, n1]
  refine ⟨k2, ?_⟩
  rw [n1]
  refine r_Cnf_init_28 ⟨rfl, ⟨?_, ?_, ?_, ?_, ?_, ?_, ?_, ?_, ?_, ?_, fun i hi => ?_⟩, ?_, ?_⟩ (by decide) (by decide)
  · simp only [sN_uI, sN_uR]; omega
  · simp only [sK_uI, sK_uR]; exact k2
  · simp [fI_uI, fL_uI, fR_uI, aI_uI, aL_uI, aR_uI, sK_uI, sZ_uI, sN_uI, fI_uL, fL_uL, fR_uL, aI_uL, aL_uL, aR_uL, sK_uL, sZ_uL, sN_uL, fI_uR, fL_uR, fR_uR, aI_uR, aL_uR, aR_uR, sK_uR, sZ_uR, sN_uR, fI_vI, fL_vI, fR_vI, aI_vI, aL_vI, aR_vI, sK_vI, sZ_vI, sN_vI, fI_vL, fL_vL, fR_vL, aI_vL, aL_vL, aR_vL, sK_vL, sZ_vL, sN_vL, fI_vR, fL_vR, fR_vR, aI_vR, aL_vR, aR_vR, sK_vR, sZ_vR, sN_vR, fI_nX, fL_nX, fR_nX, aI_nX, aL_nX, aR_nX, sK_nX, sZ_nX, sN_nX, fI_nO, fL_nO, fR_nO, aI_nO, aL_nO, aR_nO, sK_nO, sZ_nO, sN_nO, e2, n1]
  · simp [fI_uI, fL_uI, fR_uI, aI_uI, aL_uI, aR_uI, sK_uI, sZ_uI, sN_uI, fI_uL, fL_uL, fR_uL, aI_uL, aL_uL, aR_uL, sK_uL, sZ_uL, sN_uL, fI_uR, fL_uR, fR_uR, aI_uR, aL_uR, aR_uR, sK_uR, sZ_uR, sN_uR, fI_vI, fL_vI, fR_vI, aI_vI, aL_vI, aR_vI, sK_vI, sZ_vI, sN_vI, fI_vL, fL_vL, fR_vL, aI_vL, aL_vL, aR_vL, sK_vL, sZ_vL, sN_vL, fI_vR, fL_vR, fR_vR, aI_vR, aL_vR, aR_vR, sK_vR, sZ_vR, sN_vR, fI_nX, fL_nX, fR_nX, aI_nX, aL_nX, aR_nX, sK_nX, sZ_nX, sN_nX, fI_nO, fL_nO, fR_nO, aI_nO, aL_nO, aR_nO, sK_nO, sZ_nO, sN_nO]
  · simp only [sK_uI, sK_uR]; rw [e2, sK_nO, sN_uR, sK_uR, if_neg (by omega), e1, sK_nO, if_pos (by omega)]
  · simp only [sK_uI, sK_uR]; rw [e2, sK_nO, sN_uR, if_pos (by omega)]
  · simp only [sZ_uI, sZ_uR]; rw [e2, sZ_nO, sN_uR, sZ_uR, if_neg (by omega), e1, sZ_nO, if_pos (by omega)]
  · simp only [sZ_uI, sZ_uR]; rw [e2, sZ_nO, sN_uR, if_pos (by omega)]
  · simp [fI_uI, fL_uI, fR_uI, aI_uI, aL_uI, aR_uI, sK_uI, sZ_uI, sN_uI, fI_uL, fL_uL, fR_uL, aI_uL, aL_uL, aR_uL, sK_uL, sZ_uL, sN_uL, fI_uR, fL_uR, fR_uR, aI_uR, aL_uR, aR_uR, sK_uR, sZ_uR, sN_uR, fI_vI, fL_vI, fR_vI, aI_vI, aL_vI, aR_vI, sK_vI, sZ_vI, sN_vI, fI_vL, fL_vL, fR_vL, aI_vL, aL_vL, aR_vL, sK_vL, sZ_vL, sN_vL, fI_vR, fL_vR, fR_vR, aI_vR, aL_vR, aR_vR, sK_vR, sZ_vR, sN_vR, fI_nX, fL_nX, fR_nX, aI_nX, aL_nX, aR_nX, sK_nX, sZ_nX, sN_nX, fI_nO, fL_nO, fR_nO, aI_nO, aL_nO, aR_nO, sK_nO, sZ_nO, sN_nO]
  · simp [fI_uI, fL_uI, fR_uI, aI_uI, aL_uI, aR_uI, sK_uI, sZ_uI, sN_uI, fI_uL, fL_uL, fR_uL, aI_uL, aL_uL, aR_uL, sK_uL, sZ_uL, sN_uL, fI_uR, fL_uR, fR_uR, aI_uR, aL_uR, aR_uR, sK_uR, sZ_uR, sN_uR, fI_vI, fL_vI, fR_vI, aI_vI, aL_vI, aR_vI, sK_vI, sZ_vI, sN_vI, fI_vL, fL_vL, fR_vL, aI_vL, aL_vL, aR_vL, sK_vL, sZ_vL, sN_vL, fI_vR, fL_vR, fR_vR, aI_vR, aL_vR, aR_vR, sK_vR, sZ_vR, sN_vR, fI_nX, fL_nX, fR_nX, aI_nX, aL_nX, aR_nX, sK_nX, sZ_nX, sN_nX, fI_nO, fL_nO, fR_nO, aI_nO, aL_nO, aR_nO, sK_nO, sZ_nO, sN_nO]
  · simp only [aI_uI, aI_uR]
    rw [e2, aI_nO, aI_nO, sN_uR, aI_uR, if_neg (by omega), if_pos (by omega), e1, aI_nO, if_pos (by omega)]
    exact ⟨rfl, rfl⟩
  · simp only [sN_uI, sN_uR]; exact n2
  · have t1 : Keep σ σ1 (At1 b) := by rw [e1]; exact Keep.nO
    have t2 : Keep σ1 σ2 (At1 b) := by rw [e2]; exact (Keep.uR (P := At1 b) rfl).trans Keep.nO
    exact t1.trans (t2.trans ((Keep.uR (P := At1 b) rfl).trans ((Keep.uI (P := At1 b) rfl).trans (Keep.uI (P := At1 b) rfl))))
theorem k_Lbk_authorOf {p : Int} (h : Bk σ b n au og) (hp : Q32 p) : MC Ω M_Lbk_authorOf rm_Lbk_authorOf (RI fun r σ' => σ' = σ ∧ r = (if 0 ≤ p ∧ p < n then au p.toNat else -1) ∧ Q32 r) XN σ [xr (some b), xi p] := by
  obtain ⟨h1, h2, h3, h4, h5, h6, h7, h8, h9, h10, h11⟩ := id h
  refine e_Lbk_authorOf (b_Lbk_authorOf_0 ⟨hp, fun c => ?_, fun c => ⟨h2, fun _ => ⟨fun c2 => ⟨_, h3, h5, by omega, by rw [h7]; omega, fun q => ?_⟩, fun c2 => ?_⟩⟩⟩)
  · exact r_Lbk_authorOf_22 ⟨_, rfl, rfl, by rw [if_neg (by omega)], by omega⟩ (by decide) (by decide)
  · exact r_Lbk_authorOf_22 ⟨_, rfl, rfl, by rw [if_pos (by omega), (h11 _ (by omega)).1], q⟩ (by decide) (by decide)
  · exact r_Lbk_authorOf_22 ⟨_, rfl, rfl, by rw [if_neg (by omega)], by omega⟩ (by decide) (by decide)
theorem k_Lbk_enter {x y : Int} (h : Bk σ b n au og) (hn : n < 10240) (hx : Q32 x) (hy : Q32 y) : MC Ω M_Lbk_enter rm_Lbk_enter (RI fun r σ' => r = n ∧ Bk σ' b (n + 1) (up1 au n x) (up1 og n y) ∧ Keep σ σ' (In b (b + 3))) XN σ [xr (some b), xi x, xi y] := by
  obtain ⟨h1, h2, h3, h4, h5, h6, h7, h8, h9, h10, h11⟩ := id h
  refine e_Lbk_enter (b_Lbk_enter_0 ⟨h2, fun _ => ⟨_, h3, h5, fun _ => ⟨by rw [h7]; omega, fun c => fun _ => ⟨by omega, by rw [h7]; omega, hx, _, h4, fun _ => ⟨h6, by omega, by rw [h8]; omega, hy, fun _ => ⟨by omega, fun _ => ?_⟩⟩⟩, fun c => absurd c (by rw [h7]; omega)⟩⟩⟩)
  rw [fI_uI, if_pos ⟨rfl, rfl⟩, h9]
  have e1 : (b + 2 = b + 1) = False := by simp
  have e2 : (b + 1 = b + 2) = False := by simp
  refine r_Lbk_enter_50 ⟨_, rfl, by omega, ⟨?_, ?_, ?_, ?_, ?_, ?_, ?_, ?_, ?_, by omega, fun i hi => ?_⟩, (Keep.vI (by omega)).trans ((Keep.vI (by omega)).trans (Keep.uI (by omega)))⟩ (by decide) (by decide)
  · simp only [fI_uI, fL_uI, fR_uI, aI_uI, aL_uI, aR_uI, sK_uI, sZ_uI, sN_uI, fI_uL, fL_uL, fR_uL, aI_uL, aL_uL, aR_uL, sK_uL, sZ_uL, sN_uL, fI_uR, fL_uR, fR_uR, aI_uR, aL_uR, aR_uR, sK_uR, sZ_uR, sN_uR, fI_vI, fL_vI, fR_vI, aI_vI, aL_vI, aR_vI, sK_vI, sZ_vI, sN_vI, fI_vL, fL_vL, fR_vL, aI_vL, aL_vL, aR_vL, sK_vL, sZ_vL, sN_vL, fI_vR, fL_vR, fR_vR, aI_vR, aL_vR, aR_vR, sK_vR, sZ_vR, sN_vR, fI_nX, fL_nX, fR_nX, aI_nX, aL_nX, aR_nX, sK_nX, sZ_nX, sN_nX, fI_nO, fL_nO, fR_nO, aI_nO, aL_nO, aR_nO, sK_nO, sZ_nO, sN_nO]; exact h1
  · simp only [fI_uI, fL_uI, fR_uI, aI_uI, aL_uI, aR_uI, sK_uI, sZ_uI, sN_uI, fI_uL, fL_uL, fR_uL, aI_uL, aL_uL, aR_uL, sK_uL, sZ_uL, sN_uL, fI_uR, fL_uR, fR_uR, aI_uR, aL_uR, aR_uR, sK_uR, sZ_uR, sN_uR, fI_vI, fL_vI, fR_vI, aI_vI, aL_vI, aR_vI, sK_vI, sZ_vI, sN_vI, fI_vL, fL_vL, fR_vL, aI_vL, aL_vL, aR_vL, sK_vL, sZ_vL, sN_vL, fI_vR, fL_vR, fR_vR, aI_vR, aL_vR, aR_vR, sK_vR, sZ_vR, sN_vR, fI_nX, fL_nX, fR_nX, aI_nX, aL_nX, aR_nX, sK_nX, sZ_nX, sN_nX, fI_nO, fL_nO, fR_nO, aI_nO, aL_nO, aR_nO, sK_nO, sZ_nO, sN_nO]; exact h2
  · simp only [fI_uI, fL_uI, fR_uI, aI_uI, aL_uI, aR_uI, sK_uI, sZ_uI, sN_uI, fI_uL, fL_uL, fR_uL, aI_uL, aL_uL, aR_uL, sK_uL, sZ_uL, sN_uL, fI_uR, fL_uR, fR_uR, aI_uR, aL_uR, aR_uR, sK_uR, sZ_uR, sN_uR, fI_vI, fL_vI, fR_vI, aI_vI, aL_vI, aR_vI, sK_vI, sZ_vI, sN_vI, fI_vL, fL_vL, fR_vL, aI_vL, aL_vL, aR_vL, sK_vL, sZ_vL, sN_vL, fI_vR, fL_vR, fR_vR, aI_vR, aL_vR, aR_vR, sK_vR, sZ_vR, sN_vR, fI_nX, fL_nX, fR_nX, aI_nX, aL_nX, aR_nX, sK_nX, sZ_nX, sN_nX, fI_nO, fL_nO, fR_nO, aI_nO, aL_nO, aR_nO, sK_nO, sZ_nO, sN_nO]; exact h3
  · simp only [fI_uI, fL_uI, fR_uI, aI_uI, aL_uI, aR_uI, sK_uI, sZ_uI, sN_uI, fI_uL, fL_uL, fR_uL, aI_uL, aL_uL, aR_uL, sK_uL, sZ_uL, sN_uL, fI_uR, fL_uR, fR_uR, aI_uR, aL_uR, aR_uR, sK_uR, sZ_uR, sN_uR, fI_vI, fL_vI, fR_vI, aI_vI, aL_vI, aR_vI, sK_vI, sZ_vI, sN_vI, fI_vL, fL_vL, fR_vL, aI_vL, aL_vL, aR_vL, sK_vL, sZ_vL, sN_vL, fI_vR, fL_vR, fR_vR, aI_vR, aL_vR, aR_vR, sK_vR, sZ_vR, sN_vR, fI_nX, fL_nX, fR_nX, aI_nX, aL_nX, aR_nX, sK_nX, sZ_nX, sN_nX, fI_nO, fL_nO, fR_nO, aI_nO, aL_nO, aR_nO, sK_nO, sZ_nO, sN_nO]; exact h4
  · simp only [fI_uI, fL_uI, fR_uI, aI_uI, aL_uI, aR_uI, sK_uI, sZ_uI, sN_uI, fI_uL, fL_uL, fR_uL, aI_uL, aL_uL, aR_uL, sK_uL, sZ_uL, sN_uL, fI_uR, fL_uR, fR_uR, aI_uR, aL_uR, aR_uR, sK_uR, sZ_uR, sN_uR, fI_vI, fL_vI, fR_vI, aI_vI, aL_vI, aR_vI, sK_vI, sZ_vI, sN_vI, fI_vL, fL_vL, fR_vL, aI_vL, aL_vL, aR_vL, sK_vL, sZ_vL, sN_vL, fI_vR, fL_vR, fR_vR, aI_vR, aL_vR, aR_vR, sK_vR, sZ_vR, sN_vR, fI_nX, fL_nX, fR_nX, aI_nX, aL_nX, aR_nX, sK_nX, sZ_nX, sN_nX, fI_nO, fL_nO, fR_nO, aI_nO, aL_nO, aR_nO, sK_nO, sZ_nO, sN_nO]; exact h5
  · simp only [fI_uI, fL_uI, fR_uI, aI_uI, aL_uI, aR_uI, sK_uI, sZ_uI, sN_uI, fI_uL, fL_uL, fR_uL, aI_uL, aL_uL, aR_uL, sK_uL, sZ_uL, sN_uL, fI_uR, fL_uR, fR_uR, aI_uR, aL_uR, aR_uR, sK_uR, sZ_uR, sN_uR, fI_vI, fL_vI, fR_vI, aI_vI, aL_vI, aR_vI, sK_vI, sZ_vI, sN_vI, fI_vL, fL_vL, fR_vL, aI_vL, aL_vL, aR_vL, sK_vL, sZ_vL, sN_vL, fI_vR, fL_vR, fR_vR, aI_vR, aL_vR, aR_vR, sK_vR, sZ_vR, sN_vR, fI_nX, fL_nX, fR_nX, aI_nX, aL_nX, aR_nX, sK_nX, sZ_nX, sN_nX, fI_nO, fL_nO, fR_nO, aI_nO, aL_nO, aR_nO, sK_nO, sZ_nO, sN_nO]; exact h6
  · simp only [fI_uI, fL_uI, fR_uI, aI_uI, aL_uI, aR_uI, sK_uI, sZ_uI, sN_uI, fI_uL, fL_uL, fR_uL, aI_uL, aL_uL, aR_uL, sK_uL, sZ_uL, sN_uL, fI_uR, fL_uR, fR_uR, aI_uR, aL_uR, aR_uR, sK_uR, sZ_uR, sN_uR, fI_vI, fL_vI, fR_vI, aI_vI, aL_vI, aR_vI, sK_vI, sZ_vI, sN_vI, fI_vL, fL_vL, fR_vL, aI_vL, aL_vL, aR_vL, sK_vL, sZ_vL, sN_vL, fI_vR, fL_vR, fR_vR, aI_vR, aL_vR, aR_vR, sK_vR, sZ_vR, sN_vR, fI_nX, fL_nX, fR_nX, aI_nX, aL_nX, aR_nX, sK_nX, sZ_nX, sN_nX, fI_nO, fL_nO, fR_nO, aI_nO, aL_nO, aR_nO, sK_nO, sZ_nO, sN_nO]; exact h7
  · simp only [fI_uI, fL_uI, fR_uI, aI_uI, aL_uI, aR_uI, sK_uI, sZ_uI, sN_uI, fI_uL, fL_uL, fR_uL, aI_uL, aL_uL, aR_uL, sK_uL, sZ_uL, sN_uL, fI_uR, fL_uR, fR_uR, aI_uR, aL_uR, aR_uR, sK_uR, sZ_uR, sN_uR, fI_vI, fL_vI, fR_vI, aI_vI, aL_vI, aR_vI, sK_vI, sZ_vI, sN_vI, fI_vL, fL_vL, fR_vL, aI_vL, aL_vL, aR_vL, sK_vL, sZ_vL, sN_vL, fI_vR, fL_vR, fR_vR, aI_vR, aL_vR, aR_vR, sK_vR, sZ_vR, sN_vR, fI_nX, fL_nX, fR_nX, aI_nX, aL_nX, aR_nX, sK_nX, sZ_nX, sN_nX, fI_nO, fL_nO, fR_nO, aI_nO, aL_nO, aR_nO, sK_nO, sZ_nO, sN_nO]; exact h8
  · simp only [fI_uI, fL_uI, fR_uI, aI_uI, aL_uI, aR_uI, sK_uI, sZ_uI, sN_uI, fI_uL, fL_uL, fR_uL, aI_uL, aL_uL, aR_uL, sK_uL, sZ_uL, sN_uL, fI_uR, fL_uR, fR_uR, aI_uR, aL_uR, aR_uR, sK_uR, sZ_uR, sN_uR, fI_vI, fL_vI, fR_vI, aI_vI, aL_vI, aR_vI, sK_vI, sZ_vI, sN_vI, fI_vL, fL_vL, fR_vL, aI_vL, aL_vL, aR_vL, sK_vL, sZ_vL, sN_vL, fI_vR, fL_vR, fR_vR, aI_vR, aL_vR, aR_vR, sK_vR, sZ_vR, sN_vR, fI_nX, fL_nX, fR_nX, aI_nX, aL_nX, aR_nX, sK_nX, sZ_nX, sN_nX, fI_nO, fL_nO, fR_nO, aI_nO, aL_nO, aR_nO, sK_nO, sZ_nO, sN_nO, and_self, if_true]; omega
  · simp only [fI_uI, fL_uI, fR_uI, aI_uI, aL_uI, aR_uI, sK_uI, sZ_uI, sN_uI, fI_uL, fL_uL, fR_uL, aI_uL, aL_uL, aR_uL, sK_uL, sZ_uL, sN_uL, fI_uR, fL_uR, fR_uR, aI_uR, aL_uR, aR_uR, sK_uR, sZ_uR, sN_uR, fI_vI, fL_vI, fR_vI, aI_vI, aL_vI, aR_vI, sK_vI, sZ_vI, sN_vI, fI_vL, fL_vL, fR_vL, aI_vL, aL_vL, aR_vL, sK_vL, sZ_vL, sN_vL, fI_vR, fL_vR, fR_vR, aI_vR, aL_vR, aR_vR, sK_vR, sZ_vR, sN_vR, fI_nX, fL_nX, fR_nX, aI_nX, aL_nX, aR_nX, sK_nX, sZ_nX, sN_nX, fI_nO, fL_nO, fR_nO, aI_nO, aL_nO, aR_nO, sK_nO, sZ_nO, sN_nO, true_and, e1, e2, false_and, if_false, up1]
    by_cases e : i = n
    · rw [if_pos (by omega), if_pos e, if_pos (by omega), if_pos e]; exact ⟨rfl, rfl⟩
    · rw [if_neg (by omega), if_neg e, if_neg (by omega), if_neg e]; exact h11 i (by omega)
theorem comes_loop {nm w : Int} (h : Bk σ b n au og) (hw : Q32 w) (hog : ∀ i, i < n → og i < n) : ∀ (d : Nat) (i x : Int), (n : Int) - i = d → 0 ≤ i → Q32 x → x < n →
    Aw Ω M_Lbk_isOrComesFrom rm_Lbk_isOrComesFrom (MF Ω rm_Lbk_isOrComesFrom (RI fun r σ' => σ' = σ ∧ r = if cmF og d x w then 1 else 0) XN) 0 0 5 [xr (some b), xi nm, xi w, xi x, xi i] [] σ := by
  intro d
  obtain ⟨h1, h2, h3, h4, h5, h6, h7, h8, h9, h10, h11⟩ := id h
  induction d with
  | zero =>
    intro i x hd h0 hx hxn
    refine b_Lbk_isOrComesFrom_5 ⟨h2, fun _ => ⟨by omega, fun c => ?_, fun c => absurd c (by omega)⟩⟩
    exact r_Lbk_isOrComesFrom_47 (Or.inl rfl) ⟨_, rfl, rfl, rfl⟩ (by decide) (by decide)
  | succ d ih =>
    intro i x hd h0 hx hxn
    refine b_Lbk_isOrComesFrom_5 ⟨h2, fun _ => ⟨by omega, fun c => absurd c (by omega), fun c => ⟨hx, fun c2 => ?_, fun c2 => fun _ => ⟨fun c => absurd c (by omega), fun c => ⟨hw, fun c3 => ⟨_, h4, h6, by omega, by rw [h8]; omega, fun q => ?_⟩, fun c3 => ?_⟩⟩⟩⟩⟩
    · exact r_Lbk_isOrComesFrom_47 (Or.inl rfl) ⟨_, rfl, rfl, by simp [cmF, c2]⟩ (by decide) (by decide)
    · have hx1 := h11 x.toNat (by omega)
      rw [hx1.2] at q ⊢
      have := ih (i + 1) (og x.toNat) (by omega) (by omega) q (hog _ (by omega))
      simp only [cmF, if_neg c2, if_neg c3]
      exact this
    · exact r_Lbk_isOrComesFrom_32 (Or.inr rfl) ⟨_, rfl, rfl, by simp [cmF, if_neg c2, if_pos c3]⟩ (by decide) (by decide)
theorem k_Lbk_isOrComesFrom {x w : Int} (h : Bk σ b n au og) (hw : Q32 w) (hog : ∀ i, i < n → og i < n) (hx : Q32 x) (hxn : x < n) : MC Ω M_Lbk_isOrComesFrom rm_Lbk_isOrComesFrom (RI fun r σ' => σ' = σ ∧ r = if cmF og n x w then 1 else 0) XN σ [xr (some b), xi x, xi w] :=
  e_Lbk_isOrComesFrom (b_Lbk_isOrComesFrom_0 (comes_loop h hw hog n 0 x (by omega) (by omega) hx hxn))
end LBK
