/-! BY HAND: the least cost of two forests; nodes l+1..i and m+1..j -/
def FD (K1 K2 : Nat → Nat) (c : Nat → Nat → Nat) (l i m j : Nat) : Nat :=
  if _h1 : i ≤ l then j - m
  else if _h2 : j ≤ m then i - l
  else min (min (FD K1 K2 c l (i - 1) m j + 1) (FD K1 K2 c l i m (j - 1) + 1)) (if _h3 : K1 i = l ∧ K2 j = m then FD K1 K2 c l (i - 1) m (j - 1) + c i j else if _h4 : l ≤ K1 i ∧ K1 i < i ∧ m ≤ K2 j ∧ K2 j < j then FD K1 K2 c l (K1 i) m (K2 j) + FD K1 K2 c (K1 i) i (K2 j) j else 0)
termination_by (i - l) + (j - m)
decreasing_by all_goals omega
section FDS
variable {K1 K2 : Nat → Nat} {c : Nat → Nat → Nat} {l i m j : Nat}
theorem FD_i0 (h : i ≤ l) : FD K1 K2 c l i m j = j - m := by rw [FD, dif_pos h]
theorem FD_j0 (h : j ≤ m) : FD K1 K2 c l i m j = i - l := by
  by_cases e : i ≤ l
  · rw [FD, dif_pos e]; omega
  · rw [FD, dif_neg e, dif_pos h]
theorem FD_eq (hi : l < i) (hj : m < j) (h : K1 i = l ∧ K2 j = m) : FD K1 K2 c l i m j = min (min (FD K1 K2 c l (i - 1) m j + 1) (FD K1 K2 c l i m (j - 1) + 1)) (FD K1 K2 c l (i - 1) m (j - 1) + c i j) := by
  rw [FD, dif_neg (by omega), dif_neg (by omega), dif_pos h]
theorem FD_ne (hi : l < i) (hj : m < j) (h : ¬ (K1 i = l ∧ K2 j = m)) (g : l ≤ K1 i ∧ K1 i < i ∧ m ≤ K2 j ∧ K2 j < j) : FD K1 K2 c l i m j = min (min (FD K1 K2 c l (i - 1) m j + 1) (FD K1 K2 c l i m (j - 1) + 1)) (FD K1 K2 c l (K1 i) m (K2 j) + FD K1 K2 c (K1 i) i (K2 j) j) := by
  rw [FD, dif_neg (by omega), dif_neg (by omega), dif_neg h, dif_pos g]
theorem FD_a (hi : l < i) (hj : m < j) : FD K1 K2 c l i m j ≤ FD K1 K2 c l (i - 1) m j + 1 := by
  rw [FD, dif_neg (by omega), dif_neg (by omega)]; omega
theorem FD_b (hi : l < i) (hj : m < j) : FD K1 K2 c l i m j ≤ FD K1 K2 c l i m (j - 1) + 1 := by
  rw [FD, dif_neg (by omega), dif_neg (by omega)]; omega
theorem FD_ub : ∀ (s l i m j : Nat), (i - l) + (j - m) ≤ s → FD K1 K2 c l i m j ≤ (i - l) + (j - m) := by
  intro s
  induction s with
  | zero =>
    intro l i m j h
    rw [FD_i0 (by omega)]; omega
  | succ s ih =>
    intro l i m j h
    by_cases hi : i ≤ l
    · rw [FD_i0 hi]; omega
    · by_cases hj : j ≤ m
      · rw [FD_j0 hj]; omega
      · have h1 := FD_a (K1 := K1) (K2 := K2) (c := c) (l := l) (i := i) (m := m) (j := j) (by omega) (by omega)
        have h2 := ih l (i - 1) m j (by omega)
        omega
end FDS
/-- nodes' forests lie one in another -/
def Ns (K : Nat → Nat) (n : Nat) : Prop := ∀ i, 1 ≤ i → i ≤ n → K i < i ∧ ∀ k, K i < k → k ≤ i → K i ≤ K k
/-- the last node with its start -/
def Ky (K : Nat → Nat) (n a : Nat) : Prop := ∀ k, a < k → k ≤ n → K k ≠ K a
theorem Ky_ex {K : Nat → Nat} {n : Nat} : ∀ (d i : Nat), n ≤ i + d → i ≤ n → ∃ a, i ≤ a ∧ a ≤ n ∧ K a = K i ∧ Ky K n a := by
  intro d
  induction d with
  | zero => intro i h hi; exact ⟨i, Nat.le_refl _, hi, rfl, fun k h1 h2 => by omega⟩
  | succ d ih =>
    intro i h hi
    by_cases e : ∃ k, i < k ∧ k ≤ n ∧ K k = K i
    · obtain ⟨k, k1, k2, k3⟩ := e
      obtain ⟨a, h1, h2, h3, h4⟩ := ih k (by omega) k2
      exact ⟨a, by omega, h2, h3.trans k3, h4⟩
    · exact ⟨i, Nat.le_refl _, hi, rfl, fun k k1 k2 k3 => e ⟨k, k1, k2, k3⟩⟩
