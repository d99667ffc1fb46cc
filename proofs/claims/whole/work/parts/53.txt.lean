/-! BY HAND: Text, the rest -/
/-- a boolean answer -/
abbrev Bz (r : Int) (P : Prop) : Prop := (r = 1 ∧ P) ∨ (r = 0 ∧ ¬ P)
def rowEq (T O : List (Int64 × Int)) (f t g u : Int) : Prop := t - f = u - g ∧ ∀ j : Nat, (j : Int) < t - f → lnA T (f + j) = lnA O (g + j)
section TXT3
variable {Ω : Om} {σ : Sto} {a b : Nat} {T O : List (Int64 × Int)}
theorem copy_loop {σ0 : Sto} {N : Nat} (hN : T.length = N) (hd : a + 2 < b ∨ b + 2 < a) : ∀ (d : Nat) (i : Int) (σ : Sto), (N : Int) - i = d → 0 ≤ i → TxH σ a N → Tx σ b T → Keep σ0 σ (In a (a + 3)) →
    (∀ j : Nat, (j : Int) < i → ∀ x, T[j]? = some x → aL σ (a + 1) j = x.1 ∧ aI σ (a + 2) j = x.2) →
    Aw Ω M_Txt_copy rm_Txt_copy (MF Ω rm_Txt_copy (RV fun σ' => Tx σ' a T ∧ Keep σ0 σ' (In a (a + 3))) XN) 0 0 15 [xr (some a), xr (some b), xi i] [] σ := by
  intro d
  induction d with
  | zero =>
    intro i σ hd h0 hH hT hk hlo
    obtain ⟨h1, h2, h3, h4, h5, h6, h7, h8, h9, h10⟩ := id hH
    refine b_Txt_copy_15 ⟨h2, fun _ => ⟨by omega, fun c => ?_, fun c => absurd c (by omega)⟩⟩
    refine r_Txt_copy_53 ⟨rfl, Tx.of hH hN (fun j x hx => hlo j ?_ x hx), hk⟩ (by decide) (by decide)
    have := (List.getElem?_eq_some_iff.mp hx).1
    omega
  | succ d ih =>
    intro i σ hdd h0 hH hT hk hlo
    obtain ⟨h1, h2, h3, h4, h5, h6, h7, h8, h9, h10⟩ := id hH
    obtain ⟨g1, g2, g3, g4, g5, g6, g7, g8, g9, g10, g11⟩ := id hT
    obtain ⟨x, hx⟩ := inT (T := T) (p := i) (by omega) (by omega)
    refine b_Txt_copy_15 ⟨h2, fun _ => ⟨by omega, fun c => absurd c (by omega), fun c => ⟨_, h3, g2, _, g3, g5, h0, by rw [g7]; omega, h5, h0, by rw [h7]; omega, _, h4, _, g4, g6, h0, by rw [g8]; omega, fun _ => ⟨h6, h0, by rw [h8]; omega, ?_⟩⟩⟩⟩
    have hkk : Keep σ (vI (vL σ (a + 1) i.toNat (aL σ (b + 1) i.toNat)) (a + 2) i.toNat (aI σ (b + 2) i.toNat)) (In a (a + 3)) := (Keep.vL (by omega)).trans (Keep.vI (by omega))
    have e1 : (a + 2 = a + 1) = False := by simp
    have e2 : (a + 1 = a + 2) = False := by simp
    refine ih (i + 1) _ (by omega) (by omega) ⟨h1, h2, h3, h4, h5, h6, h7, h8, h9, h10⟩ (hT.keep hkk (fun q q1 q2 => by omega)) (hk.trans hkk) (fun j hj y hy => ?_)
    simp only [fI_uI, fL_uI, fR_uI, aI_uI, aL_uI, aR_uI, sK_uI, sZ_uI, sN_uI, fI_uL, fL_uL, fR_uL, aI_uL, aL_uL, aR_uL, sK_uL, sZ_uL, sN_uL, fI_uR, fL_uR, fR_uR, aI_uR, aL_uR, aR_uR, sK_uR, sZ_uR, sN_uR, fI_vI, fL_vI, fR_vI, aI_vI, aL_vI, aR_vI, sK_vI, sZ_vI, sN_vI, fI_vL, fL_vL, fR_vL, aI_vL, aL_vL, aR_vL, sK_vL, sZ_vL, sN_vL, fI_vR, fL_vR, fR_vR, aI_vR, aL_vR, aR_vR, sK_vR, sZ_vR, sN_vR, fI_nX, fL_nX, fR_nX, aI_nX, aL_nX, aR_nX, sK_nX, sZ_nX, sN_nX, fI_nO, fL_nO, fR_nO, aI_nO, aL_nO, aR_nO, sK_nO, sZ_nO, sN_nO, true_and, e1, e2, false_and, if_false]
    by_cases e : j = i.toNat
    · subst e
      rw [hx] at hy; cases hy
      rw [if_pos rfl, if_pos rfl]; exact hT.at hx
    · rw [if_neg e, if_neg e]
      exact hlo j (by omega) y hy
theorem k_Txt_copy (h : Tx σ a O) (g : Tx σ b T) (hd : a + 2 < b ∨ b + 2 < a) : MC Ω M_Txt_copy rm_Txt_copy (RV fun σ' => Tx σ' a T ∧ Keep σ σ' (In a (a + 3))) XN σ [xr (some a), xr (some b)] := by
  obtain ⟨h1, h2, h3, h4, h5, h6, h7, h8, h9, h10, h11⟩ := id h
  obtain ⟨g1, g2, g3, g4, g5, g6, g7, g8, g9, g10, g11⟩ := id g
  have e : minI (fI σ 578 b) 40 = T.length := by rw [g9, minI, if_neg (by omega)]
  refine e_Txt_copy (b_Txt_copy_0 ⟨g2, fun q => ⟨q, by omega, by decide, Nat.le_of_ble_eq_true rfl, by decide, by decide, h2, by rw [e]; omega, ?_⟩⟩)
  rw [e]
  have hk : Keep σ (uI σ 578 a T.length) (In a (a + 3)) := Keep.uI (by omega)
  refine copy_loop rfl hd T.length 0 _ (by omega) (by omega) ⟨h1, h2, h3, h4, h5, h6, h7, h8, ?_, g10⟩ (g.keep hk (fun q q1 q2 => by omega)) hk (fun j hj => by omega)
  simp only [fI_uI, fL_uI, fR_uI, aI_uI, aL_uI, aR_uI, sK_uI, sZ_uI, sN_uI, fI_uL, fL_uL, fR_uL, aI_uL, aL_uL, aR_uL, sK_uL, sZ_uL, sN_uL, fI_uR, fL_uR, fR_uR, aI_uR, aL_uR, aR_uR, sK_uR, sZ_uR, sN_uR, fI_vI, fL_vI, fR_vI, aI_vI, aL_vI, aR_vI, sK_vI, sZ_vI, sN_vI, fI_vL, fL_vL, fR_vL, aI_vL, aL_vL, aR_vL, sK_vL, sZ_vL, sN_vL, fI_vR, fL_vR, fR_vR, aI_vR, aL_vR, aR_vR, sK_vR, sZ_vR, sN_vR, fI_nX, fL_nX, fR_nX, aI_nX, aL_nX, aR_nX, sK_nX, sZ_nX, sN_nX, fI_nO, fL_nO, fR_nO, aI_nO, aL_nO, aR_nO, sK_nO, sZ_nO, sN_nO, and_self, if_true]
theorem k_Txt_giveName {p nm : Int} (h : Tx σ a T) (hp : 0 ≤ p) {x : Int64 × Int} (hx : T[p.toNat]? = some x) (hnm : Q32 nm) : MC Ω M_Txt_giveName rm_Txt_giveName (RV fun σ' => Tx σ' a (T.set p.toNat (x.1, nm)) ∧ Keep σ σ' (In a (a + 3))) XN σ [xr (some a), xi p, xi nm] := by
  have hpl : p < T.length := by have := (List.getElem?_eq_some_iff.mp hx).1; omega
  obtain ⟨h1, h2, h3, h4, h5, h6, h7, h8, h9, h10, h11⟩ := id h
  refine e_Txt_giveName (b_Txt_giveName_0 ?_)
  refine c_Txt_giveName_2 (k_Txt_hasPlace h (by omega)) h2 (by decide) (by decide) (by first | decide | omega) (by first | decide | omega) (Nat.le_of_ble_eq_true rfl) (fun y σ1 hq => ?_) (fun _ _ hx => hx.elim)
  obtain ⟨rfl, rfl⟩ := hq
  rw [if_pos (show 0 ≤ p ∧ p < (T.length : Int) by omega)]
  refine b_Txt_giveName_5 ⟨by omega, fun c => absurd c (by omega), fun c => ⟨h2, _, h4, h6, by omega, by rw [h8]; omega, hnm, ?_⟩⟩
  refine r_Txt_giveName_15 ⟨rfl, Tx.of (N := T.length) ⟨h1, h2, h3, h4, h5, h6, h7, h8, h9, h10⟩ (by rw [List.length_set]) (fun j y hy => ?_), Keep.vI (by omega)⟩ (by decide) (by decide)
  rw [List.getElem?_set] at hy
  have e1 : (a + 1 = a + 2) = False := by simp
  simp only [fI_uI, fL_uI, fR_uI, aI_uI, aL_uI, aR_uI, sK_uI, sZ_uI, sN_uI, fI_uL, fL_uL, fR_uL, aI_uL, aL_uL, aR_uL, sK_uL, sZ_uL, sN_uL, fI_uR, fL_uR, fR_uR, aI_uR, aL_uR, aR_uR, sK_uR, sZ_uR, sN_uR, fI_vI, fL_vI, fR_vI, aI_vI, aL_vI, aR_vI, sK_vI, sZ_vI, sN_vI, fI_vL, fL_vL, fR_vL, aI_vL, aL_vL, aR_vL, sK_vL, sZ_vL, sN_vL, fI_vR, fL_vR, fR_vR, aI_vR, aL_vR, aR_vR, sK_vR, sZ_vR, sN_vR, fI_nX, fL_nX, fR_nX, aI_nX, aL_nX, aR_nX, sK_nX, sZ_nX, sN_nX, fI_nO, fL_nO, fR_nO, aI_nO, aL_nO, aR_nO, sK_nO, sZ_nO, sN_nO, true_and, e1, false_and, if_false]
  split at hy
  · rename_i hj
    split at hy
    · cases hy
      rw [if_pos hj.symm, ← hj]; exact ⟨(h.at hx).1, rfl⟩
    · cases hy
  · rename_i hj
    rw [if_neg (fun z => hj z.symm)]
    exact h.at hy
theorem rowLike_loop {f t g u : Int} (h : Tx σ a T) (hO : Tx σ b O) (hf : -1000 ≤ f ∧ f ≤ 1000) (ht : -1000 ≤ t ∧ t ≤ 1000) (hg : -1000 ≤ g ∧ g ≤ 1000) (hu : t - f = u - g) : ∀ (d : Nat) (i : Int), (t - f - i).toNat = d → 0 ≤ i → i ≤ 2000 → (∀ j : Nat, (j : Int) < i → lnA T (f + j) = lnA O (g + j)) →
    Aw Ω M_Txt_isRowLike rm_Txt_isRowLike (MF Ω rm_Txt_isRowLike (RI fun r σ' => σ' = σ ∧ Bz r (rowEq T O f t g u)) XN) 0 0 16 [xr (some a), xi f, xi t, xr (some b), xi g, xi u, xi i] [] σ := by
  intro d
  induction d with
  | zero =>
    intro i hd h0 h1 hlo
    refine b_Txt_isRowLike_16 ⟨by omega, by omega, fun c => ?_, fun c => absurd c (by omega)⟩
    exact r_Txt_isRowLike_54 (Or.inr rfl) ⟨_, rfl, rfl, Or.inl ⟨rfl, hu, fun j hj => hlo j (by omega)⟩⟩ (by decide) (by decide)
  | succ d ih =>
    intro i hd h0 h1 hlo
    refine b_Txt_isRowLike_16 ⟨by omega, by omega, fun c => absurd c (by omega), fun c => ?_⟩
    refine c_Txt_isRowLike_29 (k_Txt_lineAt h (by omega)) h.2.1 (by decide) (by decide) (by first | decide | omega) (by first | decide | omega) (Nat.le_of_ble_eq_true rfl) (fun x σ1 hq => ?_) (fun _ _ hx => hx.elim)
    obtain ⟨rfl, rfl⟩ := hq
    refine b_Txt_isRowLike_32 ?_
    refine c_Txt_isRowLike_38 (k_Txt_lineAt hO (by omega)) hO.2.1 (by decide) (by decide) (by first | decide | omega) (by first | decide | omega) (Nat.le_of_ble_eq_true rfl) (fun y σ1 hq => ?_) (fun _ _ hx => hx.elim)
    obtain ⟨rfl, rfl⟩ := hq
    have e : (i.toNat : Int) = i := by omega
    refine b_Txt_isRowLike_41 ⟨cmpL_r _ _, fun c2 => ?_, fun c2 => ?_⟩
    · rw [cmpL_0] at c2
      refine ih (i + 1) (by omega) (by omega) (by omega) (fun j hj => ?_)
      by_cases ej : j = i.toNat
      · rw [ej, e]; exact c2
      · exact hlo j (by omega)
    · rw [cmpL_0] at c2
      refine r_Txt_isRowLike_46 (Or.inl rfl) ⟨_, rfl, rfl, Or.inr ⟨rfl, fun z => c2 ?_⟩⟩ (by decide) (by decide)
      have := z.2 i.toNat (by omega)
      rwa [e] at this
theorem k_Txt_isRowLike {f t g u : Int} (h : Tx σ a T) (hO : Tx σ b O) (hf : -1000 ≤ f ∧ f ≤ 1000) (ht : -1000 ≤ t ∧ t ≤ 1000) (hg : -1000 ≤ g ∧ g ≤ 1000) (hu : -1000 ≤ u ∧ u ≤ 1000) : MC Ω M_Txt_isRowLike rm_Txt_isRowLike (RI fun r σ' => σ' = σ ∧ Bz r (rowEq T O f t g u)) XN σ [xr (some a), xi f, xi t, xr (some b), xi g, xi u] := by
  refine e_Txt_isRowLike (b_Txt_isRowLike_0 ⟨by omega, by omega, fun c => ?_, fun c => ?_⟩)
  · exact rowLike_loop h hO hf ht hg c _ 0 rfl (by omega) (by omega) (fun j hj => by omega)
  · exact r_Txt_isRowLike_12 (Or.inl rfl) ⟨_, rfl, rfl, Or.inr ⟨rfl, fun z => c z.1⟩⟩ (by decide) (by decide)
theorem k_Txt_isLike (h : Tx σ a T) (hO : Tx σ b O) : MC Ω M_Txt_isLike rm_Txt_isLike (RI fun r σ' => σ' = σ ∧ Bz r (rowEq T O 0 T.length 0 O.length)) XN σ [xr (some a), xr (some b)] := by
  obtain ⟨h1, h2, h3, h4, h5, h6, h7, h8, h9, h10, h11⟩ := id h
  obtain ⟨g1, g2, g3, g4, g5, g6, g7, g8, g9, g10, g11⟩ := id hO
  refine e_Txt_isLike (b_Txt_isLike_0 ⟨h2, fun _ => ⟨g2, fun _ => ?_⟩⟩)
  rw [h9, g9]
  refine c_Txt_isLike_12 (k_Txt_isRowLike h hO (by omega) (by omega) (by omega) (by omega)) h2 (by decide) (by decide) (by first | decide | omega) (by first | decide | omega) (Nat.le_of_ble_eq_true rfl) (fun x σ1 hq => ?_) (fun _ _ hx => hx.elim)
  obtain ⟨rfl, hr⟩ := hq
  exact r_Txt_isLike_15 (by rcases hr with ⟨e, _⟩ | ⟨e, _⟩ <;> simp [e]) ⟨_, rfl, rfl, hr⟩ (by decide) (by decide)
def standsP (T : List (Int64 × Int)) (row : Nat → Int64) (L : Nat) (p f t : Int) : Prop := 0 ≤ p ∧ 0 ≤ f ∧ t ≤ L ∧ p + t - f ≤ T.length ∧ ∀ j : Nat, f ≤ (j : Int) → (j : Int) < t → lnA T (p + j - f) = row j
theorem stands_loop {p f t : Int} (h : Tx σ a T) (hb : sK σ b = 51) (hz : sZ σ b < 1000) (hp : 0 ≤ p) (hf : 0 ≤ f) (ht : t ≤ sZ σ b) (ht0 : -1000 ≤ t) (hpt : p + t - f ≤ T.length) : ∀ (d : Nat) (i : Int), (t - i).toNat = d → f ≤ i → (i ≤ t ∨ i = f) → i ≤ 3000000 → (∀ j : Nat, f ≤ (j : Int) → (j : Int) < i → lnA T (p + j - f) = aL σ b j) →
    Aw Ω M_Txt_stands rm_Txt_stands (MF Ω rm_Txt_stands (RI fun r σ' => σ' = σ ∧ Bz r (standsP T (aL σ b) (sZ σ b) p f t)) XN) 0 0 33 [xr (some a), xi p, xr (some b), xi f, xi t, xi i] [] σ := by
  intro d
  obtain ⟨h1, h2, h3, h4, h5, h6, h7, h8, h9, h10, h11⟩ := id h
  induction d with
  | zero =>
    intro i hd h0 hit hi3 hlo
    refine b_Txt_stands_33 ⟨by omega, by omega, fun c => ?_, fun c => absurd c (by omega)⟩
    exact r_Txt_stands_68 (Or.inr rfl) ⟨_, rfl, rfl, Or.inl ⟨rfl, hp, hf, ht, hpt, fun j hj1 hj2 => hlo j hj1 (by omega)⟩⟩ (by decide) (by decide)
  | succ d ih =>
    intro i hd h0 hit hi3 hlo
    have hix : (p + i - f).toNat < T.length := by omega
    obtain ⟨x, hx⟩ := inT (T := T) (p := p + i - f) (by omega) (by omega)
    refine b_Txt_stands_33 ⟨by omega, by omega, fun c => absurd c (by omega), fun c => ⟨h2, _, h3, h5, by omega, by rw [h7]; omega, hb, by omega, by omega, cmpL_r _ _, fun c2 => ?_, fun c2 => ?_⟩⟩
    · rw [cmpL_0, (h.at hx).1] at c2
      refine ih (i + 1) (by omega) (by omega) (by omega) (by omega) (fun j hj1 hj2 => ?_)
      by_cases ej : j = i.toNat
      · rw [ej, show (i.toNat : Int) = i by omega, lnA_some (by omega) hx]; exact c2
      · exact hlo j hj1 (by omega)
    · rw [cmpL_0, (h.at hx).1] at c2
      refine r_Txt_stands_60 (Or.inl rfl) ⟨_, rfl, rfl, Or.inr ⟨rfl, fun z => c2 ?_⟩⟩ (by decide) (by decide)
      have := z.2.2.2.2 i.toNat (by omega) (by omega)
      rw [show (i.toNat : Int) = i by omega, lnA_some (by omega) hx] at this
      exact this
theorem k_Txt_stands {p f t : Int} (h : Tx σ a T) (hb : sK σ b = 51) (hz : sZ σ b < 1000) (hp : Q32 p) (hp2 : p ≤ 1000) (hf : -1000 ≤ f ∧ f ≤ 1000) (ht : -1000 ≤ t ∧ t ≤ 1000) : MC Ω M_Txt_stands rm_Txt_stands (RI fun r σ' => σ' = σ ∧ Bz r (standsP T (aL σ b) (sZ σ b) p f t)) XN σ [xr (some a), xi p, xr (some b), xi f, xi t] := by
  obtain ⟨h1, h2, h3, h4, h5, h6, h7, h8, h9, h10, h11⟩ := id h
  have out : ∀ {L : List PV}, ¬ standsP T (aL σ b) (sZ σ b) p f t → Aw Ω M_Txt_stands rm_Txt_stands (MF Ω rm_Txt_stands (RI fun r σ' => σ' = σ ∧ Bz r (standsP T (aL σ b) (sZ σ b) p f t)) XN) 0 0 29 L [xi 0] σ := fun hn => r_Txt_stands_29 (Or.inl rfl) ⟨_, rfl, rfl, Or.inr ⟨rfl, hn⟩⟩ (by decide) (by decide)
  refine e_Txt_stands (b_Txt_stands_0 ⟨hp, fun c => out (fun z => by have := z.1; omega), fun c => ⟨by omega, fun c2 => out (fun z => by have := z.2.1; omega), fun c2 => ⟨hb, fun q => ⟨by omega, by omega, fun c3 => out (fun z => by have := z.2.2.1; omega), fun c3 => ⟨h2, fun _ => ⟨by omega, fun c4 => ?_, fun c4 => out (fun z => by have := z.2.2.2.1; omega)⟩⟩⟩⟩⟩⟩)
  exact stands_loop h hb hz (by omega) (by omega) (by omega) (by omega) (by omega) _ f rfl (by omega) (Or.inr rfl) (by omega) (fun j h1 h2 => by omega)
theorem signs_loop {f t : Int} {σ0 : Sto} {q : Nat} {N : Nat} (hf : 0 ≤ f ∧ f ≤ 1000) (ht : -1000 ≤ t ∧ t ≤ 1000) (hN : (N : Int) = maxI 0 (t - f)) (hN4 : N ≤ 40) (ha : a + 2 < q) (hq0 : sN σ0 ≤ q) : ∀ (d : Nat) (i : Int) (σ : Sto), (N : Int) - i = d → 0 ≤ i → Tx σ a T → sK σ q = 51 → sZ σ q = N → sN σ = q + 1 → Keep σ0 σ No → (∀ j : Nat, (j : Int) < i → aL σ q j = lnA T (f + j)) →
    Aw Ω M_Txt_signsOf rm_Txt_signsOf (MF Ω rm_Txt_signsOf (RR fun r σ' => r = some q ∧ sN σ' = q + 1 ∧ sK σ' q = 51 ∧ sZ σ' q = N ∧ (∀ j : Nat, j < N → aL σ' q j = lnA T (f + j)) ∧ Keep σ0 σ' No) XN) 1 N 13 [xr (some a), xi f, xi t, xr (some q), xi i] [] σ := by
  intro d
  induction d with
  | zero =>
    intro i σ hd hi hT hk hz hn hkp hlo
    refine b_Txt_signsOf_13 ⟨hk, fun _ => ⟨by omega, by omega, fun c => ?_, fun c => absurd c (by omega)⟩⟩
    exact r_Txt_signsOf_39 ⟨_, rfl, rfl, hn, hk, hz, fun j hj => hlo j (by omega), hkp⟩ (by decide) hN4
  | succ d ih =>
    intro i σ hd hi hT hk hz hn hkp hlo
    refine b_Txt_signsOf_13 ⟨hk, fun _ => ⟨by omega, by omega, fun c => absurd c (by omega), fun c => ?_⟩⟩
    refine c_Txt_signsOf_28 (k_Txt_lineAt hT (by omega)) hT.2.1 (by decide) (by decide) (by first | decide | omega) (by first | decide | omega) (Nat.le_of_ble_eq_true rfl) (fun x σ1 hq => ?_) (fun _ _ hx => hx.elim)
    obtain ⟨rfl, rfl⟩ := hq
    refine b_Txt_signsOf_31 ⟨hk, hi, by omega, ?_⟩
    have hkk : Keep σ1 (vL σ1 q i.toNat (lnA T (f + i))) (At1 q) := Keep.vL rfl
    refine ih (i + 1) _ (by omega) (by omega) (hT.keep hkk (fun b h1 h2 => by omega)) hk hz hn (hkp.tr hkk (fun b h1 h2 => by omega)) (fun j hj => ?_)
    simp only [fI_uI, fL_uI, fR_uI, aI_uI, aL_uI, aR_uI, sK_uI, sZ_uI, sN_uI, fI_uL, fL_uL, fR_uL, aI_uL, aL_uL, aR_uL, sK_uL, sZ_uL, sN_uL, fI_uR, fL_uR, fR_uR, aI_uR, aL_uR, aR_uR, sK_uR, sZ_uR, sN_uR, fI_vI, fL_vI, fR_vI, aI_vI, aL_vI, aR_vI, sK_vI, sZ_vI, sN_vI, fI_vL, fL_vL, fR_vL, aI_vL, aL_vL, aR_vL, sK_vL, sZ_vL, sN_vL, fI_vR, fL_vR, fR_vR, aI_vR, aL_vR, aR_vR, sK_vR, sZ_vR, sN_vR, fI_nX, fL_nX, fR_nX, aI_nX, aL_nX, aR_nX, sK_nX, sZ_nX, sN_nX, fI_nO, fL_nO, fR_nO, aI_nO, aL_nO, aR_nO, sK_nO, sZ_nO, sN_nO, true_and]
    by_cases e : j = i.toNat
    · rw [if_pos e, e, show (i.toNat : Int) = i by omega]
    · rw [if_neg e]; exact hlo j (by omega)
theorem k_Txt_signsOf {f t : Int} (h : Tx σ a T) (hf : 0 ≤ f ∧ f ≤ 1000) (ht : -1000 ≤ t ∧ t ≤ 1000) (h4 : t - f ≤ 40) : MC Ω M_Txt_signsOf rm_Txt_signsOf (RR fun r σ' => r = some (sN σ) ∧ sN σ' = sN σ + 1 ∧ sK σ' (sN σ) = 51 ∧ sZ σ' (sN σ) = (t - f).toNat ∧ (∀ j : Nat, j < (t - f).toNat → aL σ' (sN σ) j = lnA T (f + j)) ∧ Keep σ σ' No) XN σ [xr (some a), xi f, xi t] := by
  have hm : maxI 0 (t - f) = ((t - f).toNat : Int) := by unfold maxI; split <;> omega
  refine e_Txt_signsOf (b_Txt_signsOf_0 ⟨by decide, by omega, by decide, by decide, by decide, by decide, by omega, by omega, by decide, ?_, ?_⟩)
  · rw [hm]; show 0 + (t - f).toNat ≤ 40; omega
  · intro σ1 e1
    have hn : (maxI 0 (t - f)).toNat = (t - f).toNat := by rw [hm]; rfl
    rw [hn] at e1 ⊢
    have hkk : Keep σ σ1 No := by rw [e1]; exact Keep.nO
    rw [Nat.zero_add, Nat.zero_add]
    refine signs_loop hf ht hm.symm (by omega) h.1 (Nat.le_refl _) (t - f).toNat 0 σ1 (by omega) (by omega) (h.keep hkk (fun b _ _ => id)) ?_ ?_ ?_ hkk (fun j hj => by omega)
    · rw [e1, sK_nO, if_pos rfl]
    · rw [e1, sZ_nO, if_pos rfl]
    · rw [e1, sN_nO]
theorem ins_mid {α : Type} (X Y : List α) (x : α) : (X ++ Y).insertIdx X.length x = X ++ x :: Y := by
  induction X with
  | nil => simp
  | cons z X ih => simp [ih]
/-- the text with a slice of another one put in -/
def slice (S : List (Int64 × Int)) (f t : Int) : List (Int64 × Int) := (S.drop f.toNat).take (t - f).toNat
theorem slice_len {S : List (Int64 × Int)} {f t : Int} (h0 : 0 ≤ f) (h1 : f ≤ t) (h2 : t ≤ S.length) : (slice S f t).length = (t - f).toNat := by
  unfold slice; rw [List.length_take, List.length_drop]; omega
theorem slice_succ {S : List (Int64 × Int)} {f i : Int} {x : Int64 × Int} (h0 : 0 ≤ f) (h1 : f ≤ i) (hx : S[i.toNat]? = some x) : slice S f (i + 1) = slice S f i ++ [x] := by
  unfold slice
  rw [show (i + 1 - f).toNat = (i - f).toNat + 1 by omega, List.take_add_one, List.getElem?_drop, show f.toNat + (i - f).toNat = i.toNat by omega, hx]
  rfl
theorem slice_0 {S : List (Int64 × Int)} {f : Int} : slice S f f = [] := by unfold slice; simp
theorem row_loop {p f t : Int} {σ0 : Sto} (hp : 0 ≤ p ∧ p ≤ T.length) (hf : 0 ≤ f) (ht : t ≤ O.length) (hT : T.length + (t - f) ≤ 40) (hd : a + 2 < b ∨ b + 2 < a) (hq : ∀ x ∈ O, Q32 x.2) (hO4 : O.length ≤ 40) : ∀ (d : Nat) (i : Int) (σ : Sto), t - i = d → f ≤ i → Tx σ a (T.take p.toNat ++ slice O f i ++ T.drop p.toNat) → Tx σ b O → Keep σ0 σ (In a (a + 3)) →
    Aw Ω M_Txt_putRow rm_Txt_putRow (MF Ω rm_Txt_putRow (RI fun r σ' => r = p + (t - f) ∧ Tx σ' a (T.take p.toNat ++ slice O f t ++ T.drop p.toNat) ∧ Keep σ0 σ' (In a (a + 3))) XN) 0 0 6 [xr (some a), xi p, xr (some b), xi f, xi t, xi (p + (i - f)), xi i] [] σ := by
  intro d
  induction d with
  | zero =>
    intro i σ hd h0 hTx hO hk
    have e : i = t := by omega
    subst e
    refine b_Txt_putRow_6 ⟨by omega, by omega, fun c => ?_, fun c => absurd c (by omega)⟩
    exact r_Txt_putRow_42 ⟨_, rfl, rfl, hTx, hk⟩ (by decide) (by decide)
  | succ d ih =>
    intro i σ hdd h0 hTx hO hk
    obtain ⟨x, hx⟩ := inT (T := O) (p := i) (by omega) (by omega)
    have hxq := hq x (List.mem_of_getElem? hx)
    refine b_Txt_putRow_6 ⟨by omega, by omega, fun c => absurd c (by omega), fun c => ?_⟩
    refine c_Txt_putRow_19 (k_Txt_lineAt hO (by omega)) hO.2.1 (by decide) (by decide) (by first | decide | omega) (by first | decide | omega) (Nat.le_of_ble_eq_true rfl) (fun y σ1 hq => ?_) (fun _ _ hx => hx.elim)
    obtain ⟨rfl, rfl⟩ := hq
    rw [lnA_some (by omega) hx]
    refine b_Txt_putRow_22 ?_
    refine c_Txt_putRow_25 (k_Txt_nameAt hO (by omega)) hO.2.1 (by decide) (by decide) (by first | decide | omega) (by first | decide | omega) (Nat.le_of_ble_eq_true rfl) (fun y σ2 hq => ?_) (fun _ _ hx => hx.elim)
    obtain ⟨rfl, rfl, -⟩ := hq
    rw [nmA_some (by omega) hx]
    have hl1 : (T.take p.toNat ++ slice O f i).length = (p + (i - f)).toNat := by
      rw [List.length_append, List.length_take, slice_len hf h0 (by omega)]; omega
    have hl2 : (T.take p.toNat ++ slice O f i ++ T.drop p.toNat).length = T.length + (i - f).toNat := by
      rw [List.length_append, hl1, List.length_drop]; omega
    refine c_Txt_putRow_28 (k_Txt_put hTx (by omega) (by rw [hl2]; omega) (by rw [hl2]; omega) hxq) hTx.2.1 (by decide) (by decide) (by first | decide | omega) (by first | decide | omega) (Nat.le_of_ble_eq_true rfl) (fun σ3 hq => ?_) (fun _ _ hx => hx.elim)
    obtain ⟨hT3, hk3⟩ := hq
    have e3 : (T.take p.toNat ++ slice O f i ++ T.drop p.toNat).insertIdx (p + (i - f)).toNat x = T.take p.toNat ++ slice O f (i + 1) ++ T.drop p.toNat := by
      rw [← hl1, ins_mid, slice_succ hf h0 hx]; simp
    rw [show (x.1, x.2) = x from rfl, e3] at hT3
    refine b_Txt_putRow_31 ?_
    have := ih (i + 1) σ3 (by omega) (by omega) hT3 (hO.keep hk3 (fun q h1 h2 => by omega)) (hk.trans hk3)
    rw [show p + (i - f) + 1 = p + (i + 1 - f) by omega]
    exact this
theorem k_Txt_putRow {p f t : Int} (h : Tx σ a T) (g : Tx σ b O) (hp : 0 ≤ p ∧ p ≤ T.length) (hf : 0 ≤ f) (hft : f ≤ t) (ht : t ≤ O.length) (hT : T.length + (t - f) ≤ 40) (hd : a + 2 < b ∨ b + 2 < a) (hq : ∀ x ∈ O, Q32 x.2) : MC Ω M_Txt_putRow rm_Txt_putRow (RI fun r σ' => r = p + (t - f) ∧ Tx σ' a (T.take p.toNat ++ slice O f t ++ T.drop p.toNat) ∧ Keep σ σ' (In a (a + 3))) XN σ [xr (some a), xi p, xr (some b), xi f, xi t] := by
  refine e_Txt_putRow (b_Txt_putRow_0 ?_)
  have := row_loop (Ω := Ω) (σ0 := σ) hp hf ht hT hd hq g.2.2.2.2.2.2.2.2.2.1 (t - f).toNat f σ (by omega) (by omega) (by rw [slice_0]; simpa using h) g Keep.rf
  rw [show p + (f - f) = p by omega] at this
  exact this
theorem k_Txt_init (ha : sK σ a = 10) (hn : sN σ = a + 1) : MC Ω M_Txt_init rm_Txt_init (RV fun σ' => Tx σ' a [] ∧ sN σ' = a + 3 ∧ Keep σ σ' (At1 a)) XN σ [xr (some a)] := by
  refine e_Txt_init (b_Txt_init_0 ⟨by decide, Nat.le_of_ble_eq_true rfl, by decide, by decide, fun σ1 e1 => ?_⟩)
  have k1 : sK σ1 a = 10 := by rw [e1, sK_nO, if_neg (by omega)]; exact ha
  have n1 : sN σ1 = a + 2 := by rw [e1, sN_nO, hn]
  have q1 : sK σ1 (a + 1) = 51 := by rw [e1, sK_nO, if_pos (by omega)]
  have z1 : sZ σ1 (a + 1) = 40 := by rw [e1, sZ_nO, if_pos (by omega)]
  refine ⟨k1, by decide, by decide, fun σ2 e2 => ?_⟩
  rw [hn] at e2
  have k2 : sK σ2 a = 10 := by rw [e2, sK_nO, if_neg (by show a ≠ sN σ1; omega)]; exact k1
  refine ⟨k2, ?_⟩
  rw [n1]
  refine r_Txt_init_25 ⟨rfl, ⟨?_, k2, ?_, ?_, ?_, ?_, ?_, ?_, ?_, by decide, fun i x hx => by simp at hx⟩, ?_, ?_⟩ (by decide) (by decide)
  · show a + 2 < sN σ2; rw [e2, sN_nO]; show a + 2 < sN σ1 + 1; omega
  · have h0 : a ≠ sN σ1 := by omega
    rw [fR_uI, fR_uR, if_neg (fun z => absurd z.1 (by decide)), e2, fR_nO, if_neg (by show a ≠ sN σ1; omega), fR_uR, if_pos ⟨rfl, rfl⟩]
  · rw [fR_uI, fR_uR, if_pos ⟨rfl, rfl⟩]
  · show sK σ2 (a + 1) = 51; rw [e2, sK_nO, if_neg (by show a + 1 ≠ sN σ1; omega)]; exact q1
  · show sK σ2 (a + 2) = 50; rw [e2, sK_nO, if_pos (by show a + 2 = sN σ1; omega)]
  · show sZ σ2 (a + 1) = 40; rw [e2, sZ_nO, if_neg (by show a + 1 ≠ sN σ1; omega)]; exact z1
  · show sZ σ2 (a + 2) = 40; rw [e2, sZ_nO, if_pos (by show a + 2 = sN σ1; omega)]
  · rw [fI_uI, if_pos ⟨rfl, rfl⟩]; rfl
  · show sN σ2 = a + 3; rw [e2, sN_nO]; show sN σ1 + 1 = a + 3; omega
  · have t1 : Keep σ σ1 (At1 a) := by rw [e1]; exact Keep.nO
    have t2 : Keep σ1 σ2 (At1 a) := by rw [e2]; exact (Keep.uR (P := At1 a) rfl).trans Keep.nO
    exact t1.trans (t2.trans ((Keep.uR (P := At1 a) rfl).trans (Keep.uI (P := At1 a) rfl)))
end TXT3
