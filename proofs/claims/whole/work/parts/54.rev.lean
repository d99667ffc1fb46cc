/-! BY HAND: Review -/
def cntV (V : Nat → Int) (v : Int) : Nat → Nat
  | 0 => 0
  | n + 1 => cntV V v n + (if V n = v then 1 else 0)
theorem cntV_le (V : Nat → Int) (v : Int) : ∀ n, cntV V v n ≤ n
  | 0 => Nat.le_refl _
  | n + 1 => by have := cntV_le V v n; simp only [cntV]; split <;> omega
theorem cntV_mono (V : Nat → Int) (v : Int) : ∀ n k, cntV V v n ≤ cntV V v (n + k)
  | n, 0 => Nat.le_refl _
  | n, k + 1 => by have := cntV_mono V v n k; show _ ≤ cntV V v (n + k) + _; omega
theorem cntV_congr {V W : Nat → Int} (v : Int) : ∀ n, (∀ i, i < n → V i = W i) → cntV V v n = cntV W v n
  | 0, _ => rfl
  | n + 1, h => by simp only [cntV]; rw [cntV_congr v n (fun i hi => h i (by omega)), h n (by omega)]
def stR (V : Nat → Int) (ld : Int) : Int := if ld ≠ 0 then 2 else if cntV V 2 6 ≠ 0 then 0 else if 2 ≤ cntV V 1 6 then 1 else 0
def Rv (σ : Sto) (b : Nat) (V : Nat → Int) (ver on ld : Int) : Prop := b + 1 < sN σ ∧ sK σ b = 9 ∧ fR σ 512 b = some (b + 1) ∧ sK σ (b + 1) = 50 ∧ sZ σ (b + 1) = 6 ∧ fI σ 513 b = ver ∧ fI σ 514 b = on ∧ fI σ 515 b = ld ∧ ∀ i, i < 6 → aI σ (b + 1) i = V i
theorem Rv.keep {σ σ' : Sto} {b : Nat} {V : Nat → Int} {ver on ld : Int} {P : Nat → Prop} (h : Rv σ b V ver on ld) (k : Keep σ σ' P) (d : ∀ q, b ≤ q → q ≤ b + 1 → ¬ P q) : Rv σ' b V ver on ld := by
  obtain ⟨h1, h2, h3, h4, h5, h6, h7, h8, h9⟩ := h
  have k0 := k.2 b (by omega) (d b (by omega) (by omega))
  have k1 := k.2 (b + 1) (by omega) (d _ (by omega) (by omega))
  refine ⟨Nat.lt_of_lt_of_le h1 k.1, k0.1.trans h2, (k0.2.2.2.2.1 _).trans h3, k1.1.trans h4, k1.2.1.trans h5, (k0.2.2.1 _).trans h6, (k0.2.2.1 _).trans h7, (k0.2.2.1 _).trans h8, fun i hi => ?_⟩
  rw [k1.2.2.2.2.2.1]; exact h9 i hi
section REV
variable {Ω : Om} {σ : Sto} {b : Nat} {V : Nat → Int} {ver on ld : Int}
theorem rev_state_loop (h : Rv σ b V ver on ld) (hld : ld = 0) : ∀ (d : Nat) (i : Int), 6 - i = d → 0 ≤ i → cntV V 2 i.toNat = 0 →
    Aw Ω M_Rev_state rm_Rev_state (MF Ω rm_Rev_state (RI fun r σ' => σ' = σ ∧ r = stR V ld) XN) 0 0 13 [xr (some b), xi (cntV V 1 i.toNat), xi i] [] σ := by
  intro d
  obtain ⟨h1, h2, h3, h4, h5, h6, h7, h8, h9⟩ := id h
  induction d with
  | zero =>
    intro i hd h0 hc
    have e : i = 6 := by omega
    subst e
    have hle := cntV_le V 1 6
    refine b_Rev_state_13 ⟨by omega, fun c => ⟨by show Q32 (cntV V 1 6 : Int); omega, fun c2 => ?_, fun c2 => ?_⟩, fun c => absurd c (by omega)⟩
    · have c3 : (cntV V 1 6 : Int) < 2 := c2
      refine r_Rev_state_65 ⟨_, rfl, rfl, ?_⟩ (by decide) (by decide)
      rw [stR, if_neg (by omega), if_neg (by simpa using hc), if_neg (by omega)]
    · have c3 : ¬ (cntV V 1 6 : Int) < 2 := c2
      refine r_Rev_state_65 ⟨_, rfl, rfl, ?_⟩ (by decide) (by decide)
      rw [stR, if_neg (by omega), if_neg (by simpa using hc), if_pos (by omega)]
  | succ d ih =>
    intro i hd h0 hc
    have hi : i.toNat < 6 := by omega
    have hs : (i + 1).toNat = i.toNat + 1 := by omega
    have hv := h9 _ hi
    refine b_Rev_state_13 ⟨by omega, fun c => absurd c (by omega), fun c => ⟨h2, _, h3, h4, h0, by rw [h5]; omega, fun q => ⟨fun c2 => fun _ => ⟨fun c3 => ?_, fun c3 => ?_⟩, fun c2 => ?_⟩⟩⟩
    · rw [hv] at c2 c3
      have := ih (i + 1) (by omega) (by omega) (by rw [hs, cntV, hc, if_neg c2])
      rw [hs, cntV, if_neg c3] at this
      exact this
    · rw [hv] at c2 c3
      have := ih (i + 1) (by omega) (by omega) (by rw [hs, cntV, hc, if_neg c2])
      rw [hs, cntV, if_pos c3] at this
      rw [Int.natCast_add] at this
      exact this
    · rw [hv] at c2
      refine r_Rev_state_30 ⟨_, rfl, rfl, ?_⟩ (by decide) (by decide)
      have hm := cntV_mono V 2 (i.toNat + 1) (6 - (i.toNat + 1))
      rw [show i.toNat + 1 + (6 - (i.toNat + 1)) = 6 by omega] at hm
      simp only [cntV, if_pos c2] at hm
      rw [stR, if_neg (by omega), if_pos (by simp only [cntV]; omega)]
theorem k_Rev_state (h : Rv σ b V ver on ld) : MC Ω M_Rev_state rm_Rev_state (RI fun r σ' => σ' = σ ∧ r = stR V ld) XN σ [xr (some b)] := by
  obtain ⟨h1, h2, h3, h4, h5, h6, h7, h8, h9⟩ := id h
  refine e_Rev_state (b_Rev_state_0 ⟨h2, fun _ => ⟨fun c => ?_, fun c => ?_⟩⟩)
  · exact rev_state_loop h (by omega) 6 0 (by omega) (by omega) rfl
  · exact r_Rev_state_8 ⟨_, rfl, rfl, by rw [stR, if_pos (by omega)]⟩ (by decide) (by decide)
theorem k_Rev_startOn {v o : Int} (h : Rv σ b V ver on ld) (hv : Q32 v) (ho : Q32 o) : MC Ω M_Rev_startOn rm_Rev_startOn (RV fun σ' => Rv σ' b V v o ld ∧ Keep σ σ' (In b (b + 2))) XN σ [xr (some b), xi v, xi o] := by
  obtain ⟨h1, h2, h3, h4, h5, h6, h7, h8, h9⟩ := id h
  refine e_Rev_startOn (b_Rev_startOn_0 ⟨h2, hv, ho, r_Rev_startOn_10 ⟨rfl, ⟨h1, h2, h3, h4, h5, ?_, ?_, ?_, h9⟩, (Keep.uI (by omega)).trans (Keep.uI (by omega))⟩ (by decide) (by decide)⟩)
  · simp [fI_uI, fL_uI, fR_uI, aI_uI, aL_uI, aR_uI, sK_uI, sZ_uI, sN_uI, fI_uL, fL_uL, fR_uL, aI_uL, aL_uL, aR_uL, sK_uL, sZ_uL, sN_uL, fI_uR, fL_uR, fR_uR, aI_uR, aL_uR, aR_uR, sK_uR, sZ_uR, sN_uR, fI_vI, fL_vI, fR_vI, aI_vI, aL_vI, aR_vI, sK_vI, sZ_vI, sN_vI, fI_vL, fL_vL, fR_vL, aI_vL, aL_vL, aR_vL, sK_vL, sZ_vL, sN_vL, fI_vR, fL_vR, fR_vR, aI_vR, aL_vR, aR_vR, sK_vR, sZ_vR, sN_vR, fI_nX, fL_nX, fR_nX, aI_nX, aL_nX, aR_nX, sK_nX, sZ_nX, sN_nX, fI_nO, fL_nO, fR_nO, aI_nO, aL_nO, aR_nO, sK_nO, sZ_nO, sN_nO]
  · simp [fI_uI, fL_uI, fR_uI, aI_uI, aL_uI, aR_uI, sK_uI, sZ_uI, sN_uI, fI_uL, fL_uL, fR_uL, aI_uL, aL_uL, aR_uL, sK_uL, sZ_uL, sN_uL, fI_uR, fL_uR, fR_uR, aI_uR, aL_uR, aR_uR, sK_uR, sZ_uR, sN_uR, fI_vI, fL_vI, fR_vI, aI_vI, aL_vI, aR_vI, sK_vI, sZ_vI, sN_vI, fI_vL, fL_vL, fR_vL, aI_vL, aL_vL, aR_vL, sK_vL, sZ_vL, sN_vL, fI_vR, fL_vR, fR_vR, aI_vR, aL_vR, aR_vR, sK_vR, sZ_vR, sN_vR, fI_nX, fL_nX, fR_nX, aI_nX, aL_nX, aR_nX, sK_nX, sZ_nX, sN_nX, fI_nO, fL_nO, fR_nO, aI_nO, aL_nO, aR_nO, sK_nO, sZ_nO, sN_nO]
  · simp [fI_uI, fL_uI, fR_uI, aI_uI, aL_uI, aR_uI, sK_uI, sZ_uI, sN_uI, fI_uL, fL_uL, fR_uL, aI_uL, aL_uL, aR_uL, sK_uL, sZ_uL, sN_uL, fI_uR, fL_uR, fR_uR, aI_uR, aL_uR, aR_uR, sK_uR, sZ_uR, sN_uR, fI_vI, fL_vI, fR_vI, aI_vI, aL_vI, aR_vI, sK_vI, sZ_vI, sN_vI, fI_vL, fL_vL, fR_vL, aI_vL, aL_vL, aR_vL, sK_vL, sZ_vL, sN_vL, fI_vR, fL_vR, fR_vR, aI_vR, aL_vR, aR_vR, sK_vR, sZ_vR, sN_vR, fI_nX, fL_nX, fR_nX, aI_nX, aL_nX, aR_nX, sK_nX, sZ_nX, sN_nX, fI_nO, fL_nO, fR_nO, aI_nO, aL_nO, aR_nO, sK_nO, sZ_nO, sN_nO, h8]
theorem k_Rev_hear {p g : Int} (h : Rv σ b V ver on ld) (hp : 0 ≤ p ∧ p < 6) (hg : Q32 g) : MC Ω M_Rev_hear rm_Rev_hear (RV fun σ' => Rv σ' b (up1 V p.toNat (if g = 0 then 2 else 1)) ver on ld ∧ Keep σ σ' (In b (b + 2))) XN σ [xr (some b), xi p, xi g] := by
  obtain ⟨h1, h2, h3, h4, h5, h6, h7, h8, h9⟩ := id h
  have key : ∀ v : Int, Rv (vI σ (b + 1) p.toNat v) b (up1 V p.toNat v) ver on ld ∧ Keep σ (vI σ (b + 1) p.toNat v) (In b (b + 2)) := fun v => by
    refine ⟨⟨h1, h2, h3, h4, h5, h6, h7, h8, fun i hi => ?_⟩, Keep.vI (by omega)⟩
    rw [aI_vI, up1]
    by_cases e : i = p.toNat
    · rw [if_pos ⟨rfl, e⟩, if_pos e]
    · rw [if_neg (fun z => e z.2), if_neg e]; exact h9 i hi
  refine e_Rev_hear (b_Rev_hear_0 ⟨by omega, fun c => absurd c (by omega), fun c => ⟨fun c => absurd c (by omega), fun c => ⟨h2, _, h3, hg, fun c2 => ⟨h4, hp.1, by rw [h5]; omega, ?_⟩, fun c2 => ⟨h4, hp.1, by rw [h5]; omega, ?_⟩⟩⟩⟩)
  · rw [if_pos c2]; exact r_Rev_hear_25 ⟨rfl, key 2⟩ (by decide) (by decide)
  · rw [if_neg c2]; exact r_Rev_hear_25 ⟨rfl, key 1⟩ (by decide) (by decide)
theorem k_Rev_drop {p : Int} (h : Rv σ b V ver on ld) (hp : -1 ≤ p ∧ p < 6) : MC Ω M_Rev_drop rm_Rev_drop (RI fun r σ' => r = (if 0 ≤ p ∧ V p.toNat ≠ 0 then 1 else 0) ∧ Rv σ' b (if 0 ≤ p then up1 V p.toNat 0 else V) ver on ld ∧ Keep σ σ' (In b (b + 2))) XN σ [xr (some b), xi p] := by
  obtain ⟨h1, h2, h3, h4, h5, h6, h7, h8, h9⟩ := id h
  refine e_Rev_drop (b_Rev_drop_0 ⟨by omega, fun c => ?_, fun c => ⟨fun c => absurd c (by omega), fun c => ⟨h2, _, h3, h4, by omega, by rw [h5]; omega, fun q => ⟨fun c2 => ?_, fun c2 => ?_⟩⟩⟩⟩)
  · refine r_Rev_drop_20 ⟨_, rfl, by rw [if_neg (by omega)], ?_, Keep.rf⟩ (by decide) (by decide)
    rw [if_neg (by omega)]; exact h
  · rw [h9 _ (by omega)] at c2
    refine r_Rev_drop_29 ⟨_, rfl, by rw [if_pos ⟨by omega, c2⟩], ?_, Keep.vI (by omega)⟩ (by decide) (by decide)
    rw [if_pos (by omega)]
    refine ⟨h1, h2, h3, h4, h5, h6, h7, h8, fun i hi => ?_⟩
    rw [aI_vI, up1]
    by_cases e : i = p.toNat
    · rw [if_pos ⟨rfl, e⟩, if_pos e]
    · rw [if_neg (fun z => e z.2), if_neg e]; exact h9 i hi
  · rw [h9 _ (by omega)] at c2
    refine r_Rev_drop_20 ⟨_, rfl, by rw [if_neg (fun z => z.2 c2)], ?_, Keep.rf⟩ (by decide) (by decide)
    rw [if_pos (by omega)]
    refine ⟨h1, h2, h3, h4, h5, h6, h7, h8, fun i hi => ?_⟩
    rw [up1]
    by_cases e : i = p.toNat
    · rw [if_pos e, e, h9 _ (by omega)]; exact c2
    · rw [if_neg e]; exact h9 i hi
def nzV (V : Nat → Int) : Nat → Nat
  | 0 => 0
  | n + 1 => nzV V n + (if V n ≠ 0 then 1 else 0)
theorem nzV_le (V : Nat → Int) : ∀ n, nzV V n ≤ n
  | 0 => Nat.le_refl _
  | n + 1 => by have := nzV_le V n; simp only [nzV]; split <;> omega
theorem dropAll_loop {σ0 : Sto} {V0 : Nat → Int} : ∀ (d : Nat) (i : Int) (σ : Sto) (V : Nat → Int), 6 - i = d → 0 ≤ i → Rv σ b V ver on ld → (∀ j : Nat, (j : Int) < i → V j = 0) → (∀ j : Nat, i ≤ (j : Int) → V j = V0 j) → Keep σ0 σ (In b (b + 2)) →
    Aw Ω M_Rev_dropAll rm_Rev_dropAll (MF Ω rm_Rev_dropAll (RI fun r σ' => r = nzV V0 6 ∧ Rv σ' b (fun _ => 0) ver on ld ∧ Keep σ0 σ' (In b (b + 2))) XN) 0 0 4 [xr (some b), xi (nzV V0 i.toNat), xi i] [] σ := by
  intro d
  induction d with
  | zero =>
    intro i σ V hd h0 h hz hv hk
    have e : i = 6 := by omega
    subst e
    refine b_Rev_dropAll_4 ⟨by omega, fun c => ?_, fun c => absurd c (by omega)⟩
    obtain ⟨h1, h2, h3, h4, h5, h6, h7, h8, h9⟩ := id h
    exact r_Rev_dropAll_25 ⟨_, rfl, rfl, ⟨h1, h2, h3, h4, h5, h6, h7, h8, fun i hi => by rw [h9 i hi]; exact hz i (by omega)⟩, hk⟩ (by decide) (by decide)
  | succ d ih =>
    intro i σ V hd h0 h hz hv hk
    refine b_Rev_dropAll_4 ⟨by omega, fun c => absurd c (by omega), fun c => ?_⟩
    refine c_Rev_dropAll_13 (k_Rev_drop h (by omega)) h.2.1 (by decide) (by decide) (by first | decide | omega) (by first | decide | omega) (Nat.le_of_ble_eq_true rfl) (fun x σ1 hq => ?_) (fun _ _ hx => hx.elim)
    obtain ⟨rfl, hR, hk1⟩ := hq
    refine b_Rev_dropAll_16 ?_
    rw [if_pos h0] at hR
    have hs : (i + 1).toNat = i.toNat + 1 := by omega
    have := ih (i + 1) σ1 (up1 V i.toNat 0) (by omega) (by omega) hR (fun j hj => ?_) (fun j hj => ?_) (hk.trans hk1)
    · have e2 : (nzV V0 (i + 1).toNat : Int) = nzV V0 i.toNat + (if 0 ≤ i ∧ V i.toNat ≠ 0 then 1 else 0) := by
        rw [hs, nzV, hv i.toNat (by omega)]
        by_cases e : V0 i.toNat = 0 <;> simp [e, h0]
      rw [e2] at this
      exact this
    · rw [up1]; split
      · rfl
      · exact hz j (by omega)
    · rw [up1, if_neg (by omega)]; exact hv j (by omega)
theorem k_Rev_dropAll (h : Rv σ b V ver on ld) : MC Ω M_Rev_dropAll rm_Rev_dropAll (RI fun r σ' => r = nzV V 6 ∧ Rv σ' b (fun _ => 0) ver on ld ∧ Keep σ σ' (In b (b + 2))) XN σ [xr (some b)] :=
  e_Rev_dropAll (b_Rev_dropAll_0 (dropAll_loop 6 0 σ V (by omega) (by omega) h (fun j hj => by omega) (fun j _ => rfl) Keep.rf))
theorem k_Rev_init (ha : sK σ b = 9) (hn : sN σ = b + 1) : MC Ω M_Rev_init rm_Rev_init (RV fun σ' => Rv σ' b (fun _ => 0) (-1) (-1) 0 ∧ sN σ' = b + 2 ∧ Keep σ σ' (At1 b)) XN σ [xr (some b)] := by
  refine e_Rev_init (b_Rev_init_0 ⟨by decide, Nat.le_of_ble_eq_true rfl, by decide, by decide, fun σ1 e1 => ?_⟩)
  have k1 : sK σ1 b = 9 := by rw [e1, sK_nO, if_neg (by omega)]; exact ha
  have n1 : sN σ1 = b + 2 := by rw [e1, sN_nO, hn]
  refine ⟨k1, ?_⟩
  rw [hn]
  refine r_Rev_init_27 ⟨rfl, ⟨?_, ?_, ?_, ?_, ?_, ?_, ?_, ?_, fun i hi => ?_⟩, ?_, ?_⟩ (by decide) (by decide)
  · simp only [sN_uI, sN_uR]; omega
  · simp only [sK_uI, sK_uR]; exact k1
  · simp [fI_uI, fL_uI, fR_uI, aI_uI, aL_uI, aR_uI, sK_uI, sZ_uI, sN_uI, fI_uL, fL_uL, fR_uL, aI_uL, aL_uL, aR_uL, sK_uL, sZ_uL, sN_uL, fI_uR, fL_uR, fR_uR, aI_uR, aL_uR, aR_uR, sK_uR, sZ_uR, sN_uR, fI_vI, fL_vI, fR_vI, aI_vI, aL_vI, aR_vI, sK_vI, sZ_vI, sN_vI, fI_vL, fL_vL, fR_vL, aI_vL, aL_vL, aR_vL, sK_vL, sZ_vL, sN_vL, fI_vR, fL_vR, fR_vR, aI_vR, aL_vR, aR_vR, sK_vR, sZ_vR, sN_vR, fI_nX, fL_nX, fR_nX, aI_nX, aL_nX, aR_nX, sK_nX, sZ_nX, sN_nX, fI_nO, fL_nO, fR_nO, aI_nO, aL_nO, aR_nO, sK_nO, sZ_nO, sN_nO]
  · simp only [sK_uI, sK_uR]; rw [e1, sK_nO, if_pos (by omega)]
  · simp only [sZ_uI, sZ_uR]; rw [e1, sZ_nO, if_pos (by omega)]
  · simp [fI_uI, fL_uI, fR_uI, aI_uI, aL_uI, aR_uI, sK_uI, sZ_uI, sN_uI, fI_uL, fL_uL, fR_uL, aI_uL, aL_uL, aR_uL, sK_uL, sZ_uL, sN_uL, fI_uR, fL_uR, fR_uR, aI_uR, aL_uR, aR_uR, sK_uR, sZ_uR, sN_uR, fI_vI, fL_vI, fR_vI, aI_vI, aL_vI, aR_vI, sK_vI, sZ_vI, sN_vI, fI_vL, fL_vL, fR_vL, aI_vL, aL_vL, aR_vL, sK_vL, sZ_vL, sN_vL, fI_vR, fL_vR, fR_vR, aI_vR, aL_vR, aR_vR, sK_vR, sZ_vR, sN_vR, fI_nX, fL_nX, fR_nX, aI_nX, aL_nX, aR_nX, sK_nX, sZ_nX, sN_nX, fI_nO, fL_nO, fR_nO, aI_nO, aL_nO, aR_nO, sK_nO, sZ_nO, sN_nO]
  · simp [fI_uI, fL_uI, fR_uI, aI_uI, aL_uI, aR_uI, sK_uI, sZ_uI, sN_uI, fI_uL, fL_uL, fR_uL, aI_uL, aL_uL, aR_uL, sK_uL, sZ_uL, sN_uL, fI_uR, fL_uR, fR_uR, aI_uR, aL_uR, aR_uR, sK_uR, sZ_uR, sN_uR, fI_vI, fL_vI, fR_vI, aI_vI, aL_vI, aR_vI, sK_vI, sZ_vI, sN_vI, fI_vL, fL_vL, fR_vL, aI_vL, aL_vL, aR_vL, sK_vL, sZ_vL, sN_vL, fI_vR, fL_vR, fR_vR, aI_vR, aL_vR, aR_vR, sK_vR, sZ_vR, sN_vR, fI_nX, fL_nX, fR_nX, aI_nX, aL_nX, aR_nX, sK_nX, sZ_nX, sN_nX, fI_nO, fL_nO, fR_nO, aI_nO, aL_nO, aR_nO, sK_nO, sZ_nO, sN_nO]
  · simp [fI_uI, fL_uI, fR_uI, aI_uI, aL_uI, aR_uI, sK_uI, sZ_uI, sN_uI, fI_uL, fL_uL, fR_uL, aI_uL, aL_uL, aR_uL, sK_uL, sZ_uL, sN_uL, fI_uR, fL_uR, fR_uR, aI_uR, aL_uR, aR_uR, sK_uR, sZ_uR, sN_uR, fI_vI, fL_vI, fR_vI, aI_vI, aL_vI, aR_vI, sK_vI, sZ_vI, sN_vI, fI_vL, fL_vL, fR_vL, aI_vL, aL_vL, aR_vL, sK_vL, sZ_vL, sN_vL, fI_vR, fL_vR, fR_vR, aI_vR, aL_vR, aR_vR, sK_vR, sZ_vR, sN_vR, fI_nX, fL_nX, fR_nX, aI_nX, aL_nX, aR_nX, sK_nX, sZ_nX, sN_nX, fI_nO, fL_nO, fR_nO, aI_nO, aL_nO, aR_nO, sK_nO, sZ_nO, sN_nO]
  · simp only [aI_uI, aI_uR]; rw [e1, aI_nO, if_pos (by omega)]
  · simp only [sN_uI, sN_uR]; exact n1
  · have t1 : Keep σ σ1 (At1 b) := by rw [e1]; exact Keep.nO
    exact t1.trans ((Keep.uR (P := At1 b) rfl).trans ((Keep.uI (P := At1 b) rfl).trans ((Keep.uI (P := At1 b) rfl).trans (Keep.uI (P := At1 b) rfl))))
end REV
