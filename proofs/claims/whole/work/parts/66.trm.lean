/-! BY HAND: TreeMeter, the costs -/
def cc (l1 l2 : Nat → Int64) (i j : Nat) : Nat := if l1 i = l2 j then 0 else 1
def TmA (σ : Sto) (t n1 n2 : Nat) (K1 K2 : Nat → Nat) (l1 l2 : Nat → Int64) : Prop := TmS σ t ∧ n1 ≤ 21 ∧ n2 ≤ 21 ∧ Ns K1 n1 ∧ Ns K2 n2 ∧ (∀ i, 1 ≤ i → i ≤ n1 → aI σ (t + 3) i = (K1 i : Nat) + 1 ∧ aL σ (t + 1) i = l1 i) ∧ (∀ j, 1 ≤ j → j ≤ n2 → aI σ (t + 4) j = (K2 j : Nat) + 1 ∧ aL σ (t + 2) j = l2 j)
section TMC
variable {Ω : Om} {σ0 : Sto} {t n1 n2 : Nat} {K1 K2 : Nat → Nat} {l1 l2 : Nat → Int64}
theorem TmA.vI {σ : Sto} {b i : Nat} {v : Int} (h : TmA σ t n1 n2 K1 K2 l1 l2) (hb : t + 5 < b) : TmA (vI σ b i v) t n1 n2 K1 K2 l1 l2 := by
  obtain ⟨hS, h1, h2, h3, h4, h5, h6⟩ := h
  refine ⟨hS.shp Shp.vI, h1, h2, h3, h4, fun i a b => ?_, fun j a b => ?_⟩
  · rw [aI_vI, if_neg (by omega)]; exact h5 i a b
  · rw [aI_vI, if_neg (by omega)]; exact h6 j a b
theorem minI_le {x y : Int} : minI x y ≤ x ∧ minI x y ≤ y ∧ (minI x y = x ∨ minI x y = y) := by
  unfold minI; split
  · exact ⟨by omega, by omega, Or.inr rfl⟩
  · exact ⟨by omega, by omega, Or.inl rfl⟩
theorem k_Trm_leastCost {σ : Sto} {l m p q : Nat} (hA : TmA σ t n1 n2 K1 K2 l1 l2) (hp : l ≤ p) (hpn : p < n1) (hq : m ≤ q) (hqn : q < n2) (hK1 : l ≤ K1 (p + 1)) (hK2 : m ≤ K2 (q + 1))
    (F1 : aI σ (t + 29 + p) (q + 1) = FD K1 K2 (cc l1 l2) l p m (q + 1)) (F2 : aI σ (t + 29 + (p + 1)) q = FD K1 K2 (cc l1 l2) l (p + 1) m q) (F3 : aI σ (t + 29 + p) q = FD K1 K2 (cc l1 l2) l p m q)
    (F4 : ¬ (K1 (p + 1) = l ∧ K2 (q + 1) = m) → aI σ (t + 29 + K1 (p + 1)) (K2 (q + 1)) = FD K1 K2 (cc l1 l2) l (K1 (p + 1)) m (K2 (q + 1)) ∧ aI σ (t + 6 + (p + 1)) (q + 1) = FD K1 K2 (cc l1 l2) (K1 (p + 1)) (p + 1) (K2 (q + 1)) (q + 1)) :
    MC Ω M_Trm_leastCost rm_Trm_leastCost (RI fun r σ' => r = (FD K1 K2 (cc l1 l2) l (p + 1) m (q + 1) : Nat) ∧ σ' = if K1 (p + 1) = l ∧ K2 (q + 1) = m then vI σ (t + 6 + (p + 1)) (q + 1) (FD K1 K2 (cc l1 l2) l (p + 1) m (q + 1) : Nat) else σ) XN σ [xr (some t), xi ((p + 1 : Nat) : Int), xi ((q + 1 : Nat) : Int), xi ((l : Int) + 1), xi ((m : Int) + 1)] := by
  obtain ⟨hS, a1, a2, ns1, ns2, A1, A2⟩ := id hA
  obtain ⟨g0, g1, f0, f1, f2, f3, f4, f5, f6, f7, f8, k1, k2, k3, k4, k5, k6, k7, k8, k9, z1, z2, z3, z4, z5, z6, z7, z8, z9, r1, r2⟩ := id hS
  have b1 := FD_ub (K1 := K1) (K2 := K2) (c := cc l1 l2) _ l p m (q + 1) (Nat.le_refl _)
  have b2 := FD_ub (K1 := K1) (K2 := K2) (c := cc l1 l2) _ l (p + 1) m q (Nat.le_refl _)
  have b3 := FD_ub (K1 := K1) (K2 := K2) (c := cc l1 l2) _ l p m q (Nat.le_refl _)
  have b4 := FD_ub (K1 := K1) (K2 := K2) (c := cc l1 l2) _ l (K1 (p + 1)) m (K2 (q + 1)) (Nat.le_refl _)
  have b5 := FD_ub (K1 := K1) (K2 := K2) (c := cc l1 l2) _ (K1 (p + 1)) (p + 1) (K2 (q + 1)) (q + 1) (Nat.le_refl _)
  have n1' := ns1 (p + 1) (by omega) (by omega)
  have n2' := ns2 (q + 1) (by omega) (by omega)
  have e1 : (((p + 1 : Nat) : Int) - 1).toNat = p := by omega
  have e2 : (((p + 1 : Nat) : Int)).toNat = p + 1 := by omega
  have e3 : (((q + 1 : Nat) : Int) - 1).toNat = q := by omega
  have e4 : (((q + 1 : Nat) : Int)).toNat = q + 1 := by omega
  have hk1 := (A1 (p + 1) (by omega) (by omega)).1
  have hk2 := (A2 (q + 1) (by omega) (by omega)).1
  have e5 : ((K1 (p + 1) : Int) + 1 - 1).toNat = K1 (p + 1) := by omega
  have e6 : ((K2 (q + 1) : Int) + 1 - 1).toNat = K2 (q + 1) := by omega
  have rp := r2 p (by omega)
  have rp1 := r2 (p + 1) (by omega)
  have rk := r2 (K1 (p + 1)) (by omega)
  have tp := r1 (p + 1) (by omega)
  refine e_Trm_leastCost (b_Trm_leastCost_0 ?_)
  simp only [e1, e2, e3, e4]
  refine ⟨g1, _, f5, k6, by omega, by omega, _, rp.1, rp.2.1, by omega, by omega, fun q1 => ⟨by omega, by omega, _, rp1.1, rp1.2.1, by omega, by omega, fun q2 => ⟨q1, q2, by decide, Nat.le_of_ble_eq_true rfl, by decide, by decide, _, f2, k3, by omega, by omega, fun q3 => ⟨by omega, fun c1 => ?_, fun c1 => ⟨_, f3, k4, by omega, by omega, fun q4 => ⟨by omega, fun c2 => ?_, fun c2 => ⟨_, f0, k1, by omega, by omega, _, f1, k2, by omega, by omega, cmpL_r _ _, fun c3 => ?_, fun c3 => ?_⟩⟩⟩⟩⟩⟩⟩
  · rw [hk1] at c1
    have hn : ¬ (K1 (p + 1) = l ∧ K2 (q + 1) = m) := fun z => c1 (by omega)
    obtain ⟨G1, G2⟩ := F4 hn
    rw [hk1, e5]
    refine fun _ => ⟨by omega, by omega, _, f3, k4, by omega, by omega, fun _ => ?_⟩
    rw [hk2, e6]
    refine ⟨_, rk.1, rk.2.1, by omega, by omega, fun _ => ⟨_, f4, k5, by omega, by omega, _, tp.1, tp.2.1, by omega, by omega, fun _ => ?_⟩⟩
    rw [F1, F2, G1, G2]
    have m1 := minI_le (x := (FD K1 K2 (cc l1 l2) l p m (q + 1) : Nat)) (y := (FD K1 K2 (cc l1 l2) l (p + 1) m q : Nat))
    refine ⟨by omega, by omega, by decide, Nat.le_of_ble_eq_true rfl, by decide, by decide, ?_⟩
    refine r_Trm_leastCost_144 ⟨_, rfl, ?_, (if_neg hn).symm⟩ (by decide) (by decide)
    rw [FD_ne (by omega) (by omega) hn (by omega), Nat.add_sub_cancel, Nat.add_sub_cancel]
    unfold minI
    split <;> split <;> omega
  · rw [hk2] at c2
    have hn : ¬ (K1 (p + 1) = l ∧ K2 (q + 1) = m) := fun z => c2 (by omega)
    obtain ⟨G1, G2⟩ := F4 hn
    rw [hk1, e5, hk2, e6]
    refine fun _ => ⟨by omega, by omega, fun _ => ⟨_, rk.1, rk.2.1, by omega, by omega, fun _ => ⟨_, f4, k5, by omega, by omega, _, tp.1, tp.2.1, by omega, by omega, fun _ => ?_⟩⟩⟩
    rw [F1, F2, G1, G2]
    have m1 := minI_le (x := (FD K1 K2 (cc l1 l2) l p m (q + 1) : Nat)) (y := (FD K1 K2 (cc l1 l2) l (p + 1) m q : Nat))
    refine ⟨by omega, by omega, by decide, Nat.le_of_ble_eq_true rfl, by decide, by decide, ?_⟩
    refine r_Trm_leastCost_144 ⟨_, rfl, ?_, (if_neg hn).symm⟩ (by decide) (by decide)
    rw [FD_ne (by omega) (by omega) hn (by omega), Nat.add_sub_cancel, Nat.add_sub_cancel]
    unfold minI
    split <;> split <;> omega
  · rw [hk1] at c1
    rw [hk2] at c2
    have hy : K1 (p + 1) = l ∧ K2 (q + 1) = m := ⟨by omega, by omega⟩
    have hc : cc l1 l2 (p + 1) (q + 1) = 1 := by
      rw [cmpL_0, (A1 (p + 1) (by omega) (by omega)).2, (A2 (q + 1) (by omega) (by omega)).2] at c3
      rw [cc, if_neg c3]
    refine ⟨_, f4, k5, by omega, by omega, _, rp.1, rp.2.1, by omega, by omega, fun _ => ?_⟩
    rw [F1, F2, F3]
    have m1 := minI_le (x := (FD K1 K2 (cc l1 l2) l p m (q + 1) : Nat)) (y := (FD K1 K2 (cc l1 l2) l (p + 1) m q : Nat))
    have ev : minI (minI (FD K1 K2 (cc l1 l2) l p m (q + 1) : Nat) (FD K1 K2 (cc l1 l2) l (p + 1) m q : Nat) + 1) ((FD K1 K2 (cc l1 l2) l p m q : Nat) + 1) = (FD K1 K2 (cc l1 l2) l (p + 1) m (q + 1) : Nat) := by
      rw [FD_eq (by omega) (by omega) hy, Nat.add_sub_cancel, Nat.add_sub_cancel, hc]
      unfold minI
      split <;> split <;> omega
    have b6 := FD_ub (K1 := K1) (K2 := K2) (c := cc l1 l2) _ l (p + 1) m (q + 1) (Nat.le_refl _)
    rw [ev]
    refine ⟨by omega, by omega, by decide, Nat.le_of_ble_eq_true rfl, by decide, by decide, _, tp.1, tp.2.1, by omega, by omega, by omega, _, tp.1, tp.2.1, by omega, by omega, fun _ => ?_⟩
    refine r_Trm_leastCost_107 ⟨_, rfl, ?_, (if_pos hy).symm⟩ (by decide) (by decide)
    rw [aI_vI, if_pos ⟨rfl, rfl⟩]
  · rw [hk1] at c1
    rw [hk2] at c2
    have hy : K1 (p + 1) = l ∧ K2 (q + 1) = m := ⟨by omega, by omega⟩
    have hc : cc l1 l2 (p + 1) (q + 1) = 0 := by
      rw [cmpL_0, (A1 (p + 1) (by omega) (by omega)).2, (A2 (q + 1) (by omega) (by omega)).2] at c3
      rw [cc, if_pos c3]
    refine ⟨_, f4, k5, by omega, by omega, _, rp.1, rp.2.1, by omega, by omega, fun _ => ?_⟩
    rw [F1, F2, F3]
    have m1 := minI_le (x := (FD K1 K2 (cc l1 l2) l p m (q + 1) : Nat)) (y := (FD K1 K2 (cc l1 l2) l (p + 1) m q : Nat))
    have ev : minI (minI (FD K1 K2 (cc l1 l2) l p m (q + 1) : Nat) (FD K1 K2 (cc l1 l2) l (p + 1) m q : Nat) + 1) ((FD K1 K2 (cc l1 l2) l p m q : Nat) + 0) = (FD K1 K2 (cc l1 l2) l (p + 1) m (q + 1) : Nat) := by
      rw [FD_eq (by omega) (by omega) hy, Nat.add_sub_cancel, Nat.add_sub_cancel, hc]
      unfold minI
      split <;> split <;> omega
    have b6 := FD_ub (K1 := K1) (K2 := K2) (c := cc l1 l2) _ l (p + 1) m (q + 1) (Nat.le_refl _)
    rw [ev]
    refine ⟨by omega, by omega, by decide, Nat.le_of_ble_eq_true rfl, by decide, by decide, _, tp.1, tp.2.1, by omega, by omega, by omega, _, tp.1, tp.2.1, by omega, by omega, fun _ => ?_⟩
    refine r_Trm_leastCost_107 ⟨_, rfl, ?_, (if_pos hy).symm⟩ (by decide) (by decide)
    rw [aI_vI, if_pos ⟨rfl, rfl⟩]
theorem last_loop {σ : Sto} {q n a : Nat} {K : Nat → Nat} (hk : sK σ q = 50) (hz : sZ σ q = 22) (hn : n ≤ 21) (ha : 1 ≤ a ∧ a ≤ n) (hK : ∀ i, 1 ≤ i → i ≤ n → aI σ q i = (K i : Nat) + 1) : ∀ (d i : Nat), n + 1 = i + d → a < i → (∀ k, a < k → k < i → K k ≠ K a) → Aw Ω M_Trm_isLastOf rm_Trm_isLastOf (MF Ω rm_Trm_isLastOf (RI fun r σ' => σ' = σ ∧ Bz r (Ky K n a)) XN) 0 0 4 [xr (some q), xi a, xi n, xi i] [] σ := by
  intro d
  induction d with
  | zero =>
    intro i hd hi h
    refine b_Trm_isLastOf_4 ⟨by omega, by omega, fun _ => ?_, fun c => absurd (by omega) c⟩
    exact r_Trm_isLastOf_27 (Or.inr rfl) ⟨_, rfl, rfl, Or.inl ⟨rfl, fun k h1 h2 => h k h1 (by omega)⟩⟩ (by decide) (by decide)
  | succ d ih =>
    intro i hd hi h
    have h1 := hK i (by omega) (by omega)
    have h2 := hK a (by omega) (by omega)
    refine b_Trm_isLastOf_4 ⟨by omega, by omega, fun c => absurd c (by omega), fun _ => ⟨hk, by omega, by omega, fun _ => ⟨by omega, by omega, fun _ => ⟨fun c => ?_, fun c => ?_⟩⟩⟩⟩
    · have c2 : ¬ aI σ q i = aI σ q a := c
      rw [h1, h2] at c2
      refine ih (i + 1) (by omega) (by omega) (fun k k1 k2 => ?_)
      by_cases e : k = i
      · subst e; omega
      · exact h k k1 (by omega)
    · have c2 : aI σ q i = aI σ q a := c
      rw [h1, h2] at c2
      exact r_Trm_isLastOf_19 (Or.inl rfl) ⟨_, rfl, rfl, Or.inr ⟨rfl, fun z => z i (by omega) (by omega) (by omega)⟩⟩ (by decide) (by decide)
theorem k_Trm_isLastOf {σ : Sto} {q n a : Nat} {K : Nat → Nat} (hk : sK σ q = 50) (hz : sZ σ q = 22) (hn : n ≤ 21) (ha : 1 ≤ a ∧ a ≤ n) (hK : ∀ i, 1 ≤ i → i ≤ n → aI σ q i = (K i : Nat) + 1) : MC Ω M_Trm_isLastOf rm_Trm_isLastOf (RI fun r σ' => σ' = σ ∧ Bz r (Ky K n a)) XN σ [xr (some q), xi a, xi n] :=
  e_Trm_isLastOf (b_Trm_isLastOf_0 (last_loop hk hz hn ha hK (n - a) (a + 1) (by omega) (by omega) (fun k h1 h2 => by omega)))
end TMC
