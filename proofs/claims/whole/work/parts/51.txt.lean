/-! BY HAND: Text -/
def lnA (T : List (Int64 × Int)) (p : Int) : Int64 := if 0 ≤ p then (match T[p.toNat]? with | some x => x.1 | none => 0) else 0
def nmA (T : List (Int64 × Int)) (p : Int) : Int := if 0 ≤ p then (match T[p.toNat]? with | some x => x.2 | none => -1) else -1
theorem lnA_some {T : List (Int64 × Int)} {p : Int} {x : Int64 × Int} (h0 : 0 ≤ p) (h : T[p.toNat]? = some x) : lnA T p = x.1 := by rw [lnA, if_pos h0, h]
theorem nmA_some {T : List (Int64 × Int)} {p : Int} {x : Int64 × Int} (h0 : 0 ≤ p) (h : T[p.toNat]? = some x) : nmA T p = x.2 := by rw [nmA, if_pos h0, h]
theorem lnA_out {T : List (Int64 × Int)} {p : Int} (h : p < 0 ∨ (T.length : Int) ≤ p) : lnA T p = 0 := by
  unfold lnA
  split
  · rw [List.getElem?_eq_none (by omega)]
  · rfl
theorem nmA_out {T : List (Int64 × Int)} {p : Int} (h : p < 0 ∨ (T.length : Int) ≤ p) : nmA T p = -1 := by
  unfold nmA
  split
  · rw [List.getElem?_eq_none (by omega)]
  · rfl
theorem inT {T : List (Int64 × Int)} {p : Int} (h0 : 0 ≤ p) (h : p < T.length) : ∃ x, T[p.toNat]? = some x := ⟨_, List.getElem?_eq_getElem (by omega)⟩
section TXT
variable {Ω : Om} {σ : Sto} {a : Nat} {T : List (Int64 × Int)}
theorem k_Txt_size (h : Tx σ a T) : MC Ω M_Txt_size rm_Txt_size (RI fun r σ' => σ' = σ ∧ r = T.length) XN σ [xr (some a)] := by
  obtain ⟨h1, h2, h3, h4, h5, h6, h7, h8, h9, h10, h11⟩ := h
  exact e_Txt_size (b_Txt_size_0 ⟨h2, fun _ => r_Txt_size_4 ⟨_, rfl, rfl, h9⟩ (Nat.le_refl _) (Nat.le_refl _)⟩)
theorem k_Txt_hasPlace {p : Int} (h : Tx σ a T) (hp : Q32 p) : MC Ω M_Txt_hasPlace rm_Txt_hasPlace (RI fun r σ' => σ' = σ ∧ r = if 0 ≤ p ∧ p < T.length then 1 else 0) XN σ [xr (some a), xi p] := by
  obtain ⟨h1, h2, h3, h4, h5, h6, h7, h8, h9, h10, h11⟩ := h
  refine e_Txt_hasPlace (b_Txt_hasPlace_0 ⟨hp, fun c => ?_, fun c => ⟨h2, fun _ => ⟨fun c2 => ?_, fun c2 => ?_⟩⟩⟩)
  · exact r_Txt_hasPlace_17 (Or.inl rfl) ⟨_, rfl, rfl, by rw [if_neg (by omega)]⟩ (Nat.le_refl _) (Nat.le_refl _)
  · exact r_Txt_hasPlace_17 (Or.inl rfl) ⟨_, rfl, rfl, by rw [if_neg (by omega)]⟩ (Nat.le_refl _) (Nat.le_refl _)
  · exact r_Txt_hasPlace_17 (Or.inr rfl) ⟨_, rfl, rfl, by rw [if_pos (by omega)]⟩ (Nat.le_refl _) (Nat.le_refl _)
theorem k_Txt_lineAt {p : Int} (h : Tx σ a T) (hp : Q32 p) : MC Ω M_Txt_lineAt rm_Txt_lineAt (RL fun r σ' => σ' = σ ∧ r = lnA T p) XN σ [xr (some a), xi p] := by
  obtain ⟨h1, h2, h3, h4, h5, h6, h7, h8, h9, h10, h11⟩ := h
  refine e_Txt_lineAt (b_Txt_lineAt_0 ⟨hp, fun c => ?_, fun c => ⟨h2, fun _ => ⟨fun c2 => ⟨_, h3, h5, by omega, by rw [h7]; omega, ?_⟩, fun c2 => ?_⟩⟩⟩)
  · exact r_Txt_lineAt_22 ⟨_, rfl, rfl, by rw [lnA_out (by omega)]⟩ (Nat.le_refl _) (Nat.le_refl _)
  · obtain ⟨x, hx⟩ := inT (T := T) (p := p) (by omega) (by omega)
    exact r_Txt_lineAt_22 ⟨_, rfl, rfl, by rw [lnA_some (by omega) hx, (h11 _ _ hx).1]⟩ (Nat.le_refl _) (Nat.le_refl _)
  · exact r_Txt_lineAt_22 ⟨_, rfl, rfl, by rw [lnA_out (by omega)]⟩ (Nat.le_refl _) (Nat.le_refl _)
theorem k_Txt_nameAt {p : Int} (h : Tx σ a T) (hp : Q32 p) : MC Ω M_Txt_nameAt rm_Txt_nameAt (RI fun r σ' => σ' = σ ∧ r = nmA T p ∧ Q32 r) XN σ [xr (some a), xi p] := by
  obtain ⟨h1, h2, h3, h4, h5, h6, h7, h8, h9, h10, h11⟩ := h
  refine e_Txt_nameAt (b_Txt_nameAt_0 ⟨hp, fun c => ?_, fun c => ⟨h2, fun _ => ⟨fun c2 => ⟨_, h4, h6, by omega, by rw [h8]; omega, fun q => ?_⟩, fun c2 => ?_⟩⟩⟩)
  · exact r_Txt_nameAt_22 ⟨_, rfl, rfl, by rw [nmA_out (by omega)], by omega⟩ (Nat.le_refl _) (Nat.le_refl _)
  · obtain ⟨x, hx⟩ := inT (T := T) (p := p) (by omega) (by omega)
    exact r_Txt_nameAt_22 ⟨_, rfl, rfl, by rw [nmA_some (by omega) hx, (h11 _ _ hx).2], q⟩ (Nat.le_refl _) (Nat.le_refl _)
  · exact r_Txt_nameAt_22 ⟨_, rfl, rfl, by rw [nmA_out (by omega)], by omega⟩ (Nat.le_refl _) (Nat.le_refl _)
/-- the head of a text: all but its lines -/
def TxH (σ : Sto) (a N : Nat) : Prop := a + 2 < sN σ ∧ sK σ a = 10 ∧ fR σ 576 a = some (a + 1) ∧ fR σ 577 a = some (a + 2) ∧ sK σ (a + 1) = 51 ∧ sK σ (a + 2) = 50 ∧ sZ σ (a + 1) = 40 ∧ sZ σ (a + 2) = 40 ∧ fI σ 578 a = N ∧ N ≤ 40
theorem Tx.of {N : Nat} (h : TxH σ a N) (hN : T.length = N) (g : ∀ i x, T[i]? = some x → aL σ (a + 1) i = x.1 ∧ aI σ (a + 2) i = x.2) : Tx σ a T := by
  subst hN
  obtain ⟨h1, h2, h3, h4, h5, h6, h7, h8, h9, h10⟩ := h
  exact ⟨h1, h2, h3, h4, h5, h6, h7, h8, h9, h10, g⟩
theorem Tx.hd (h : Tx σ a T) : TxH σ a T.length := by
  obtain ⟨h1, h2, h3, h4, h5, h6, h7, h8, h9, h10, h11⟩ := h
  exact ⟨h1, h2, h3, h4, h5, h6, h7, h8, h9, h10⟩
theorem Tx.at (h : Tx σ a T) {i : Nat} {x : Int64 × Int} (hx : T[i]? = some x) : aL σ (a + 1) i = x.1 ∧ aI σ (a + 2) i = x.2 := h.2.2.2.2.2.2.2.2.2.2 i x hx
theorem k_Txt_empty (h : Tx σ a T) : MC Ω M_Txt_empty rm_Txt_empty (RV fun σ' => Tx σ' a [] ∧ Keep σ σ' (In a (a + 3))) XN σ [xr (some a)] := by
  obtain ⟨h1, h2, h3, h4, h5, h6, h7, h8, h9, h10, h11⟩ := h
  refine e_Txt_empty (b_Txt_empty_0 ⟨h2, r_Txt_empty_5 ⟨rfl, ⟨h1, h2, h3, h4, h5, h6, h7, h8, ?_, by decide, fun i x hx => by simp at hx⟩, Keep.uI (by omega)⟩ (Nat.le_refl _) (Nat.le_refl _)⟩)
  simp only [fI_uI, fL_uI, fR_uI, aI_uI, aL_uI, aR_uI, sK_uI, sZ_uI, sN_uI, fI_uL, fL_uL, fR_uL, aI_uL, aL_uL, aR_uL, sK_uL, sZ_uL, sN_uL, fI_uR, fL_uR, fR_uR, aI_uR, aL_uR, aR_uR, sK_uR, sZ_uR, sN_uR, fI_vI, fL_vI, fR_vI, aI_vI, aL_vI, aR_vI, sK_vI, sZ_vI, sN_vI, fI_vL, fL_vL, fR_vL, aI_vL, aL_vL, aR_vL, sK_vL, sZ_vL, sN_vL, fI_vR, fL_vR, fR_vR, aI_vR, aL_vR, aR_vR, sK_vR, sZ_vR, sN_vR, fI_nX, fL_nX, fR_nX, aI_nX, aL_nX, aR_nX, sK_nX, sZ_nX, sN_nX, fI_nO, fL_nO, fR_nO, aI_nO, aL_nO, aR_nO, sK_nO, sZ_nO, sN_nO]; simp
theorem put_loop {p : Int} {line : Int64} {nm : Int} {N : Nat} {σ0 : Sto} (hp : 0 ≤ p) (hN : N < 40) (hnm : Q32 nm) (hT : Tx σ0 a T) (hTN : T.length = N) : ∀ (d : Nat) (i : Int) (σ : Sto), i - p = d → i ≤ N → TxH σ a N → Keep σ0 σ (In a (a + 3)) →
    (∀ j : Nat, (j : Int) < i → aL σ (a + 1) j = aL σ0 (a + 1) j ∧ aI σ (a + 2) j = aI σ0 (a + 2) j) → (∀ j : Nat, i < (j : Int) → j ≤ N → aL σ (a + 1) j = aL σ0 (a + 1) (j - 1) ∧ aI σ (a + 2) j = aI σ0 (a + 2) (j - 1)) →
    Aw Ω M_Txt_put rm_Txt_put (MF Ω rm_Txt_put (RV fun σ' => Tx σ' a (T.insertIdx p.toNat (line, nm)) ∧ Keep σ0 σ' (In a (a + 3))) XN) 0 0 28 [xr (some a), xi p, xl line, xu, xi nm, xi i] [] σ := by
  intro d
  induction d with
  | zero =>
    intro i σ hd hiN hH hk hlo hhi
    have hi : i = p := by omega
    subst hi
    obtain ⟨h1, h2, h3, h4, h5, h6, h7, h8, h9, h10⟩ := id hH
    refine b_Txt_put_28 ⟨by omega, by omega, fun c => ⟨h2, _, h3, h5, hp, by rw [h7]; omega, _, h4, h6, hp, by rw [h8]; omega, hnm, fun q => ⟨by omega, ?_⟩⟩, fun c => absurd (Int.le_refl i) c⟩
    refine r_Txt_put_97 ⟨rfl, Tx.of (N := N + 1) ⟨h1, h2, h3, h4, h5, h6, h7, h8, ?_, by omega⟩ ?_ ?_, ?_⟩ (Nat.le_refl _) (Nat.le_refl _)
    · simp only [fI_uI, fL_uI, fR_uI, aI_uI, aL_uI, aR_uI, sK_uI, sZ_uI, sN_uI, fI_uL, fL_uL, fR_uL, aI_uL, aL_uL, aR_uL, sK_uL, sZ_uL, sN_uL, fI_uR, fL_uR, fR_uR, aI_uR, aL_uR, aR_uR, sK_uR, sZ_uR, sN_uR, fI_vI, fL_vI, fR_vI, aI_vI, aL_vI, aR_vI, sK_vI, sZ_vI, sN_vI, fI_vL, fL_vL, fR_vL, aI_vL, aL_vL, aR_vL, sK_vL, sZ_vL, sN_vL, fI_vR, fL_vR, fR_vR, aI_vR, aL_vR, aR_vR, sK_vR, sZ_vR, sN_vR, fI_nX, fL_nX, fR_nX, aI_nX, aL_nX, aR_nX, sK_nX, sZ_nX, sN_nX, fI_nO, fL_nO, fR_nO, aI_nO, aL_nO, aR_nO, sK_nO, sZ_nO, sN_nO]; simp; omega
    · rw [List.length_insertIdx]; rw [if_pos (by omega)]; omega
    · intro j x hx
      rw [List.getElem?_insertIdx] at hx
      have e1 : (a + 2 = a + 1) = False := by simp
      have e2 : (a + 1 = a + 2) = False := by simp
      simp only [fI_uI, fL_uI, fR_uI, aI_uI, aL_uI, aR_uI, sK_uI, sZ_uI, sN_uI, fI_uL, fL_uL, fR_uL, aI_uL, aL_uL, aR_uL, sK_uL, sZ_uL, sN_uL, fI_uR, fL_uR, fR_uR, aI_uR, aL_uR, aR_uR, sK_uR, sZ_uR, sN_uR, fI_vI, fL_vI, fR_vI, aI_vI, aL_vI, aR_vI, sK_vI, sZ_vI, sN_vI, fI_vL, fL_vL, fR_vL, aI_vL, aL_vL, aR_vL, sK_vL, sZ_vL, sN_vL, fI_vR, fL_vR, fR_vR, aI_vR, aL_vR, aR_vR, sK_vR, sZ_vR, sN_vR, fI_nX, fL_nX, fR_nX, aI_nX, aL_nX, aR_nX, sK_nX, sZ_nX, sN_nX, fI_nO, fL_nO, fR_nO, aI_nO, aL_nO, aR_nO, sK_nO, sZ_nO, sN_nO, true_and, e1, e2, false_and, if_false]
      split at hx
      · rename_i hj
        have := hlo j (by omega)
        rw [if_neg (by omega), if_neg (by omega), this.1, this.2]
        exact hT.at hx
      · split at hx
        · rename_i hj
          rw [if_pos (by omega), if_pos (by omega)]
          split at hx
          · cases hx; exact ⟨rfl, rfl⟩
          · cases hx
        · rename_i hj1 hj2
          have hjN : j - 1 < T.length := (List.getElem?_eq_some_iff.mp hx).1
          have := hhi j (by omega) (by omega)
          rw [if_neg (by omega), if_neg (by omega), this.1, this.2]
          exact hT.at hx
    · exact hk.trans ((Keep.vL (by omega)).trans ((Keep.vI (by omega)).trans (Keep.uI (by omega))))
  | succ d ih =>
    intro i σ hd hiN hH hk hlo hhi
    obtain ⟨h1, h2, h3, h4, h5, h6, h7, h8, h9, h10⟩ := id hH
    refine b_Txt_put_28 ⟨by omega, by omega, fun c => absurd c (by omega), fun c => ⟨h2, _, h3, h5, by omega, by rw [h7]; omega, by omega, by rw [h7]; omega, _, h4, h6, by omega, by rw [h8]; omega, fun q => ⟨by omega, by rw [h8]; omega, ?_⟩⟩⟩
    have e1 : (a + 2 = a + 1) = False := by simp
    have e2 : (a + 1 = a + 2) = False := by simp
    refine ih (i + (-1)) _ (by omega) (by omega) ⟨h1, h2, h3, h4, h5, h6, h7, h8, h9, h10⟩ (hk.trans ((Keep.vL (by omega)).trans (Keep.vI (by omega)))) (fun j hj => ?_) (fun j hj hjN => ?_)
    · simp only [fI_uI, fL_uI, fR_uI, aI_uI, aL_uI, aR_uI, sK_uI, sZ_uI, sN_uI, fI_uL, fL_uL, fR_uL, aI_uL, aL_uL, aR_uL, sK_uL, sZ_uL, sN_uL, fI_uR, fL_uR, fR_uR, aI_uR, aL_uR, aR_uR, sK_uR, sZ_uR, sN_uR, fI_vI, fL_vI, fR_vI, aI_vI, aL_vI, aR_vI, sK_vI, sZ_vI, sN_vI, fI_vL, fL_vL, fR_vL, aI_vL, aL_vL, aR_vL, sK_vL, sZ_vL, sN_vL, fI_vR, fL_vR, fR_vR, aI_vR, aL_vR, aR_vR, sK_vR, sZ_vR, sN_vR, fI_nX, fL_nX, fR_nX, aI_nX, aL_nX, aR_nX, sK_nX, sZ_nX, sN_nX, fI_nO, fL_nO, fR_nO, aI_nO, aL_nO, aR_nO, sK_nO, sZ_nO, sN_nO, true_and, e1, e2, false_and, if_false]
      rw [if_neg (by omega), if_neg (by omega)]
      exact hlo j (by omega)
    · simp only [fI_uI, fL_uI, fR_uI, aI_uI, aL_uI, aR_uI, sK_uI, sZ_uI, sN_uI, fI_uL, fL_uL, fR_uL, aI_uL, aL_uL, aR_uL, sK_uL, sZ_uL, sN_uL, fI_uR, fL_uR, fR_uR, aI_uR, aL_uR, aR_uR, sK_uR, sZ_uR, sN_uR, fI_vI, fL_vI, fR_vI, aI_vI, aL_vI, aR_vI, sK_vI, sZ_vI, sN_vI, fI_vL, fL_vL, fR_vL, aI_vL, aL_vL, aR_vL, sK_vL, sZ_vL, sN_vL, fI_vR, fL_vR, fR_vR, aI_vR, aL_vR, aR_vR, sK_vR, sZ_vR, sN_vR, fI_nX, fL_nX, fR_nX, aI_nX, aL_nX, aR_nX, sK_nX, sZ_nX, sN_nX, fI_nO, fL_nO, fR_nO, aI_nO, aL_nO, aR_nO, sK_nO, sZ_nO, sN_nO, true_and, e1, e2, false_and, if_false]
      by_cases e : j = i.toNat
      · rw [if_pos e, if_pos e]
        have := hlo (i - 1).toNat (by omega)
        rw [this.1, this.2]
        have e3 : (i - 1).toNat = j - 1 := by omega
        rw [e3]; exact ⟨rfl, rfl⟩
      · rw [if_neg e, if_neg e]
        exact hhi j (by omega) hjN
theorem k_Txt_put {p : Int} {line : Int64} {nm : Int} (h : Tx σ a T) (hp : 0 ≤ p) (hpl : p ≤ T.length) (hl : T.length < 40) (hnm : Q32 nm) : MC Ω M_Txt_put rm_Txt_put (RV fun σ' => Tx σ' a (T.insertIdx p.toNat (line, nm)) ∧ Keep σ σ' (In a (a + 3))) XN σ [xr (some a), xi p, xl line, xi nm] := by
  obtain ⟨h1, h2, h3, h4, h5, h6, h7, h8, h9, h10, h11⟩ := id h
  refine e_Txt_put (b_Txt_put_0 ⟨by omega, fun c => absurd c (by omega), fun c => ⟨h2, fun _ => ⟨fun c => absurd c (by omega), fun c => fun _ => ⟨fun c => fun _ => ?_, fun c => absurd c (by omega)⟩⟩⟩⟩)
  exact put_loop hp hl hnm h rfl (T.length - p.toNat) _ σ (by omega) (by omega) h.hd Keep.rf (fun j _ => ⟨rfl, rfl⟩) (fun j h1 h2 => by omega)
end TXT
