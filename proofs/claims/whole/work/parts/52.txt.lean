/-! BY HAND: Text, on -/
section TXT2
variable {Ω : Om} {σ : Sto} {a : Nat} {T : List (Int64 × Int)}
theorem take_loop {p : Int} {N : Nat} {σ0 : Sto} (hp : 0 ≤ p) (hT : Tx σ0 a T) (hTN : T.length = N) (hpN : p < N) : ∀ (d : Nat) (i : Int) (σ : Sto), (N : Int) - 1 - i = d → p ≤ i → TxH σ a N → Keep σ0 σ (In a (a + 3)) →
    (∀ j : Nat, ((j : Int) < p ∨ i < j ) → aL σ (a + 1) j = aL σ0 (a + 1) j ∧ aI σ (a + 2) j = aI σ0 (a + 2) j) → (∀ j : Nat, p ≤ (j : Int) → (j : Int) < i → aL σ (a + 1) j = aL σ0 (a + 1) (j + 1) ∧ aI σ (a + 2) j = aI σ0 (a + 2) (j + 1)) →
    Aw Ω M_Txt_takeOut rm_Txt_takeOut (MF Ω rm_Txt_takeOut (RV fun σ' => Tx σ' a (T.eraseIdx p.toNat) ∧ Keep σ0 σ' (In a (a + 3))) XN) 0 0 11 [xr (some a), xi p, xi i] [] σ := by
  intro d
  have e1 : (a + 2 = a + 1) = False := by simp
  have e2 : (a + 1 = a + 2) = False := by simp
  induction d with
  | zero =>
    intro i σ hd hpi hH hk hout hin
    obtain ⟨h1, h2, h3, h4, h5, h6, h7, h8, h9, h10⟩ := id hH
    refine b_Txt_takeOut_11 ⟨h2, fun q => ⟨by omega, fun c => fun _ => ⟨by omega, ?_⟩, fun c => absurd c (by omega)⟩⟩
    refine r_Txt_takeOut_65 ⟨rfl, Tx.of (N := N - 1) ⟨h1, h2, h3, h4, h5, h6, h7, h8, ?_, by omega⟩ ?_ ?_, hk.trans (Keep.uI (by omega))⟩ (by decide) (by decide)
    · simp only [fI_uI, fL_uI, fR_uI, aI_uI, aL_uI, aR_uI, sK_uI, sZ_uI, sN_uI, fI_uL, fL_uL, fR_uL, aI_uL, aL_uL, aR_uL, sK_uL, sZ_uL, sN_uL, fI_uR, fL_uR, fR_uR, aI_uR, aL_uR, aR_uR, sK_uR, sZ_uR, sN_uR, fI_vI, fL_vI, fR_vI, aI_vI, aL_vI, aR_vI, sK_vI, sZ_vI, sN_vI, fI_vL, fL_vL, fR_vL, aI_vL, aL_vL, aR_vL, sK_vL, sZ_vL, sN_vL, fI_vR, fL_vR, fR_vR, aI_vR, aL_vR, aR_vR, sK_vR, sZ_vR, sN_vR, fI_nX, fL_nX, fR_nX, aI_nX, aL_nX, aR_nX, sK_nX, sZ_nX, sN_nX, fI_nO, fL_nO, fR_nO, aI_nO, aL_nO, aR_nO, sK_nO, sZ_nO, sN_nO]; simp; omega
    · rw [List.length_eraseIdx]; rw [if_pos (by omega)]; omega
    · intro j x hx
      rw [List.getElem?_eraseIdx] at hx
      simp only [fI_uI, fL_uI, fR_uI, aI_uI, aL_uI, aR_uI, sK_uI, sZ_uI, sN_uI, fI_uL, fL_uL, fR_uL, aI_uL, aL_uL, aR_uL, sK_uL, sZ_uL, sN_uL, fI_uR, fL_uR, fR_uR, aI_uR, aL_uR, aR_uR, sK_uR, sZ_uR, sN_uR, fI_vI, fL_vI, fR_vI, aI_vI, aL_vI, aR_vI, sK_vI, sZ_vI, sN_vI, fI_vL, fL_vL, fR_vL, aI_vL, aL_vL, aR_vL, sK_vL, sZ_vL, sN_vL, fI_vR, fL_vR, fR_vR, aI_vR, aL_vR, aR_vR, sK_vR, sZ_vR, sN_vR, fI_nX, fL_nX, fR_nX, aI_nX, aL_nX, aR_nX, sK_nX, sZ_nX, sN_nX, fI_nO, fL_nO, fR_nO, aI_nO, aL_nO, aR_nO, sK_nO, sZ_nO, sN_nO]
      split at hx
      · have := hout j (by omega)
        rw [this.1, this.2]; exact hT.at hx
      · have hjN : j + 1 < T.length := (List.getElem?_eq_some_iff.mp hx).1
        have := hin j (by omega) (by omega)
        rw [this.1, this.2]; exact hT.at hx
  | succ d ih =>
    intro i σ hd hpi hH hk hout hin
    obtain ⟨h1, h2, h3, h4, h5, h6, h7, h8, h9, h10⟩ := id hH
    refine b_Txt_takeOut_11 ⟨h2, fun q => ⟨by omega, fun c => absurd c (by omega), fun c => ⟨_, h3, h5, by omega, by rw [h7]; omega, by omega, by rw [h7]; omega, _, h4, h6, by omega, by rw [h8]; omega, fun _ => ⟨by omega, by rw [h8]; omega, ?_⟩⟩⟩⟩
    refine ih (i + 1) _ (by omega) (by omega) ⟨h1, h2, h3, h4, h5, h6, h7, h8, h9, h10⟩ (hk.trans ((Keep.vL (by omega)).trans (Keep.vI (by omega)))) (fun j hj => ?_) (fun j hj hjN => ?_)
    · simp only [fI_uI, fL_uI, fR_uI, aI_uI, aL_uI, aR_uI, sK_uI, sZ_uI, sN_uI, fI_uL, fL_uL, fR_uL, aI_uL, aL_uL, aR_uL, sK_uL, sZ_uL, sN_uL, fI_uR, fL_uR, fR_uR, aI_uR, aL_uR, aR_uR, sK_uR, sZ_uR, sN_uR, fI_vI, fL_vI, fR_vI, aI_vI, aL_vI, aR_vI, sK_vI, sZ_vI, sN_vI, fI_vL, fL_vL, fR_vL, aI_vL, aL_vL, aR_vL, sK_vL, sZ_vL, sN_vL, fI_vR, fL_vR, fR_vR, aI_vR, aL_vR, aR_vR, sK_vR, sZ_vR, sN_vR, fI_nX, fL_nX, fR_nX, aI_nX, aL_nX, aR_nX, sK_nX, sZ_nX, sN_nX, fI_nO, fL_nO, fR_nO, aI_nO, aL_nO, aR_nO, sK_nO, sZ_nO, sN_nO, true_and, e1, e2, false_and, if_false]
      rw [if_neg (by omega), if_neg (by omega)]
      exact hout j (by omega)
    · simp only [fI_uI, fL_uI, fR_uI, aI_uI, aL_uI, aR_uI, sK_uI, sZ_uI, sN_uI, fI_uL, fL_uL, fR_uL, aI_uL, aL_uL, aR_uL, sK_uL, sZ_uL, sN_uL, fI_uR, fL_uR, fR_uR, aI_uR, aL_uR, aR_uR, sK_uR, sZ_uR, sN_uR, fI_vI, fL_vI, fR_vI, aI_vI, aL_vI, aR_vI, sK_vI, sZ_vI, sN_vI, fI_vL, fL_vL, fR_vL, aI_vL, aL_vL, aR_vL, sK_vL, sZ_vL, sN_vL, fI_vR, fL_vR, fR_vR, aI_vR, aL_vR, aR_vR, sK_vR, sZ_vR, sN_vR, fI_nX, fL_nX, fR_nX, aI_nX, aL_nX, aR_nX, sK_nX, sZ_nX, sN_nX, fI_nO, fL_nO, fR_nO, aI_nO, aL_nO, aR_nO, sK_nO, sZ_nO, sN_nO, true_and, e1, e2, false_and, if_false]
      by_cases e : j = i.toNat
      · rw [if_pos e, if_pos e]
        have := hout (i + 1).toNat (by omega)
        rw [this.1, this.2]
        have e3 : (i + 1).toNat = j + 1 := by omega
        rw [e3]; exact ⟨rfl, rfl⟩
      · rw [if_neg e, if_neg e]
        exact hin j hj (by omega)
theorem k_Txt_takeOut {p : Int} (h : Tx σ a T) (hp : 0 ≤ p) (hpl : p < T.length) : MC Ω M_Txt_takeOut rm_Txt_takeOut (RV fun σ' => Tx σ' a (T.eraseIdx p.toNat) ∧ Keep σ σ' (In a (a + 3))) XN σ [xr (some a), xi p] := by
  obtain ⟨h1, h2, h3, h4, h5, h6, h7, h8, h9, h10, h11⟩ := id h
  refine e_Txt_takeOut (b_Txt_takeOut_0 ?_)
  refine c_Txt_takeOut_2 (k_Txt_hasPlace h (by omega)) h2 (by decide) (by decide) (by first | decide | omega) (by first | decide | omega) (Nat.le_of_ble_eq_true rfl) (fun x σ1 hq => ?_) (fun _ _ hx => hx.elim)
  obtain ⟨rfl, rfl⟩ := hq
  rw [if_pos (by omega)]
  refine b_Txt_takeOut_5 ⟨by omega, fun c => ?_, fun c => absurd c (by omega)⟩
  exact take_loop hp h rfl hpl (T.length - 1 - p.toNat) p _ (by omega) (by omega) h.hd Keep.rf (fun j _ => ⟨rfl, rfl⟩) (fun j h1 h2 => by omega)
theorem cmpL_0 (x y : Int64) : cmpL x y = 0 ↔ x = y := by
  unfold cmpL lg_cmp
  split
  · rename_i h; simp; intro e; subst e; exact absurd h (by simp [Int64.lt_iff_toInt_lt])
  · split
    · rename_i h; simp [h]
    · rename_i h; simp; exact h
theorem cmpL_r (x y : Int64) : Q32 (cmpL x y) := by
  have h := R32.of (lg_cmp x y)
  exact ⟨h.1, h.2⟩
theorem k_Txt_rewrite {p : Int} {line : Int64} (h : Tx σ a T) (hp : 0 ≤ p) {x : Int64 × Int} (hx : T[p.toNat]? = some x) : MC Ω M_Txt_rewrite rm_Txt_rewrite (RV fun σ' => Tx σ' a (if x.1 = line then T else T.set p.toNat (line, -1)) ∧ Keep σ σ' (In a (a + 3))) XN σ [xr (some a), xi p, xl line] := by
  have hpl : p < T.length := by have := (List.getElem?_eq_some_iff.mp hx).1; omega
  obtain ⟨h1, h2, h3, h4, h5, h6, h7, h8, h9, h10, h11⟩ := id h
  refine e_Txt_rewrite (b_Txt_rewrite_0 ?_)
  refine c_Txt_rewrite_2 (k_Txt_hasPlace h (by omega)) h2 (by decide) (by decide) (by first | decide | omega) (by first | decide | omega) (Nat.le_of_ble_eq_true rfl) (fun y σ1 hq => ?_) (fun _ _ hx => hx.elim)
  obtain ⟨rfl, rfl⟩ := hq
  rw [if_pos (show 0 ≤ p ∧ p < (T.length : Int) by omega)]
  have hq := (h.at hx).1
  refine b_Txt_rewrite_5 ⟨by omega, fun c => absurd c (by omega), fun c => ⟨h2, _, h3, h5, by omega, by rw [h7]; omega, cmpL_r _ _, fun c2 => ?_, fun c2 => ⟨_, h4, h6, by omega, by rw [h8]; omega, ?_⟩⟩⟩
  · rw [cmpL_0, hq] at c2
    exact r_Txt_rewrite_33 ⟨rfl, by rw [if_pos c2]; exact h, Keep.rf⟩ (by decide) (by decide)
  · rw [cmpL_0, hq] at c2
    have e1 : (a + 2 = a + 1) = False := by simp
    have e2 : (a + 1 = a + 2) = False := by simp
    refine r_Txt_rewrite_33 ⟨rfl, ?_, (Keep.vL (by omega)).trans (Keep.vI (by omega))⟩ (by decide) (by decide)
    rw [if_neg c2]
    refine Tx.of (N := T.length) ⟨h1, h2, h3, h4, h5, h6, h7, h8, h9, h10⟩ (by rw [List.length_set]) (fun j y hy => ?_)
    rw [List.getElem?_set] at hy
    simp only [fI_uI, fL_uI, fR_uI, aI_uI, aL_uI, aR_uI, sK_uI, sZ_uI, sN_uI, fI_uL, fL_uL, fR_uL, aI_uL, aL_uL, aR_uL, sK_uL, sZ_uL, sN_uL, fI_uR, fL_uR, fR_uR, aI_uR, aL_uR, aR_uR, sK_uR, sZ_uR, sN_uR, fI_vI, fL_vI, fR_vI, aI_vI, aL_vI, aR_vI, sK_vI, sZ_vI, sN_vI, fI_vL, fL_vL, fR_vL, aI_vL, aL_vL, aR_vL, sK_vL, sZ_vL, sN_vL, fI_vR, fL_vR, fR_vR, aI_vR, aL_vR, aR_vR, sK_vR, sZ_vR, sN_vR, fI_nX, fL_nX, fR_nX, aI_nX, aL_nX, aR_nX, sK_nX, sZ_nX, sN_nX, fI_nO, fL_nO, fR_nO, aI_nO, aL_nO, aR_nO, sK_nO, sZ_nO, sN_nO, true_and, e1, e2, false_and, if_false]
    split at hy
    · rename_i hj
      split at hy
      · cases hy
        rw [if_pos hj.symm, if_pos hj.symm]; exact ⟨rfl, rfl⟩
      · cases hy
    · rename_i hj
      rw [if_neg (fun z => hj z.symm), if_neg (fun z => hj z.symm)]
      exact h.at hy
theorem k_Txt_shift {p q : Int} (h : Tx σ a T) (hp : 0 ≤ p) {x : Int64 × Int} (hx : T[p.toNat]? = some x) (hq0 : 0 ≤ q) (hq1 : q < T.length) (hl : T.length ≤ 20) : MC Ω M_Txt_shift rm_Txt_shift (RV fun σ' => Tx σ' a ((T.eraseIdx p.toNat).insertIdx q.toNat x) ∧ Keep σ σ' (In a (a + 3))) XN σ [xr (some a), xi p, xi q] := by
  have hpl : p < T.length := by have := (List.getElem?_eq_some_iff.mp hx).1; omega
  obtain ⟨h1, h2, h3, h4, h5, h6, h7, h8, h9, h10, h11⟩ := id h
  refine e_Txt_shift (b_Txt_shift_0 ?_)
  refine c_Txt_shift_2 (k_Txt_hasPlace h (by omega)) h2 (by decide) (by decide) (by first | decide | omega) (by first | decide | omega) (Nat.le_of_ble_eq_true rfl) (fun y σ1 hq => ?_) (fun _ _ hx => hx.elim)
  obtain ⟨rfl, rfl⟩ := hq
  rw [if_pos (by omega)]
  refine b_Txt_shift_5 ⟨by omega, fun c => absurd c (by omega), fun c => ?_⟩
  refine c_Txt_shift_10 (k_Txt_hasPlace h (by omega)) h2 (by decide) (by decide) (by first | decide | omega) (by first | decide | omega) (Nat.le_of_ble_eq_true rfl) (fun y σ1 hq => ?_) (fun _ _ hx => hx.elim)
  obtain ⟨rfl, rfl⟩ := hq
  rw [if_pos (by omega)]
  refine b_Txt_shift_13 ⟨by omega, fun c => absurd c (by omega), fun c => ⟨h2, _, h3, h5, by omega, by rw [h7]; omega, _, h4, h6, by omega, by rw [h8]; omega, fun hnm => ?_⟩⟩
  rw [(h.at hx).1]
  rw [(h.at hx).2] at hnm ⊢
  refine c_Txt_shift_33 (k_Txt_takeOut h hp hpl) h2 (by decide) (by decide) (by first | decide | omega) (by first | decide | omega) (Nat.le_of_ble_eq_true rfl) (fun σ1 hq => ?_) (fun _ _ hx => hx.elim)
  obtain ⟨hT1, hk1⟩ := hq
  have hl1 : (T.eraseIdx p.toNat).length = T.length - 1 := by rw [List.length_eraseIdx, if_pos (by omega)]
  refine b_Txt_shift_36 ?_
  refine c_Txt_shift_41 (k_Txt_put hT1 hq0 (by omega) (by omega) hnm) hT1.2.1 (by decide) (by decide) (by first | decide | omega) (by first | decide | omega) (Nat.le_of_ble_eq_true rfl) (fun σ2 hq => ?_) (fun _ _ hx => hx.elim)
  obtain ⟨hT2, hk2⟩ := hq
  exact r_Txt_shift_44 ⟨rfl, hT2, hk1.trans hk2⟩ (by decide) (by decide)
theorem holds_loop {nm : Int} (h : Tx σ a T) (hnm : Q32 nm) : ∀ (d : Nat) (i : Int), (T.length : Int) - i = d → 0 ≤ i → (∀ j : Nat, (j : Int) < i → ∀ x, T[j]? = some x → x.2 ≠ nm) →
    Aw Ω M_Txt_holds rm_Txt_holds (MF Ω rm_Txt_holds (RI fun r σ' => σ' = σ ∧ r = if ∃ x ∈ T, x.2 = nm then 1 else 0) XN) 0 0 2 [xr (some a), xi nm, xi i] [] σ := by
  intro d
  obtain ⟨h1, h2, h3, h4, h5, h6, h7, h8, h9, h10, h11⟩ := id h
  induction d with
  | zero =>
    intro i hd h0 hno
    refine b_Txt_holds_2 ⟨h2, fun _ => ⟨by omega, fun c => ?_, fun c => absurd c (by omega)⟩⟩
    refine r_Txt_holds_29 (Or.inl rfl) ⟨_, rfl, rfl, ?_⟩ (by decide) (by decide)
    rw [if_neg]
    rintro ⟨x, hx, e⟩
    obtain ⟨j, hj⟩ := List.getElem?_of_mem hx
    have := (List.getElem?_eq_some_iff.mp hj).1
    exact hno j (by omega) x hj e
  | succ d ih =>
    intro i hd h0 hno
    obtain ⟨x, hx⟩ := inT (T := T) (p := i) (by omega) (by omega)
    refine b_Txt_holds_2 ⟨h2, fun _ => ⟨by omega, fun c => absurd c (by omega), fun c => ⟨_, h4, h6, by omega, by rw [h8]; omega, fun q => ⟨hnm, fun c2 => ?_, fun c2 => ?_⟩⟩⟩⟩
    · rw [(h.at hx).2] at c2
      refine ih (i + 1) (by omega) (by omega) (fun j hj y hy => ?_)
      by_cases e : j = i.toNat
      · rw [e, hx] at hy; cases hy; exact c2
      · exact hno j (by omega) y hy
    · rw [(h.at hx).2] at c2
      refine r_Txt_holds_21 (Or.inr rfl) ⟨_, rfl, rfl, ?_⟩ (by decide) (by decide)
      rw [if_pos ⟨x, List.mem_of_getElem? hx, c2⟩]
theorem k_Txt_holds {nm : Int} (h : Tx σ a T) (hnm : Q32 nm) : MC Ω M_Txt_holds rm_Txt_holds (RI fun r σ' => σ' = σ ∧ r = if ∃ x ∈ T, x.2 = nm then 1 else 0) XN σ [xr (some a), xi nm] :=
  e_Txt_holds (b_Txt_holds_0 (holds_loop h hnm T.length 0 (by omega) (by omega) (fun j hj => by omega)))
end TXT2
