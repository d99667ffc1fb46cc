/-! BY HAND: what a walk's pairs are -/
def PrOK (P : Nat → Int) (a b : Nat) : Prop := (∀ i, i < a → P i = -1 ∨ (0 ≤ P i ∧ P i < b)) ∧ ∀ i j, i < j → j < a → P i ≠ -1 → P j ≠ -1 → P i < P j
theorem wk_ok {X Y : List Int64} : ∀ (f i j n : Nat) (P : Nat → Int), j ≤ Y.length → (∀ k, k < i → P k = -1 ∨ (0 ≤ P k ∧ P k < j)) → (∀ p q, p < q → q < i → P p ≠ -1 → P q ≠ -1 → P p < P q) → (∀ k, i ≤ k → P k = -1) → PrOK (wk X Y f i j P n).1 X.length Y.length := by
  intro f
  induction f with
  | zero =>
    intro i j n P hj h1 h2 h3
    rw [wk]
    refine ⟨fun k hk => ?_, fun p q hpq hq h4 h5 => ?_⟩
    · show P k = -1 ∨ (0 ≤ P k ∧ P k < Y.length)
      by_cases c : k < i
      · have := h1 k c; omega
      · exact Or.inl (h3 k (by omega))
    · by_cases c : q < i
      · exact h2 p q hpq c h4 h5
      · exact absurd (h3 q (by omega)) h5
  | succ f ih =>
    intro i j n P hj h1 h2 h3
    by_cases hc : i < X.length ∧ j < Y.length
    · obtain ⟨hi, hj2⟩ := hc
      by_cases e : gx X i = gx Y j
      · rw [wk_eq hi hj2 e]
        refine ih (i + 1) (j + 1) _ _ hj2 (fun k hk => ?_) (fun p q hpq hq h4 h5 => ?_) (fun k hk => ?_)
        · rw [up1_at]
          split
          · exact Or.inr ⟨by omega, by omega⟩
          · have := h1 k (by omega); omega
        · rw [up1_at] at h4 h5 ⊢
          rw [if_neg (by omega)] at h4 ⊢
          rw [up1_at]
          by_cases c : q = i
          · rw [if_pos c]
            have := h1 p (by omega); omega
          · rw [if_neg c] at h5 ⊢
            exact h2 p q hpq (by omega) h4 h5
        · rw [up1_at, if_neg (by omega)]; exact h3 k (by omega)
      · by_cases g : tb X Y i j ≤ tb X Y (i + 1) j
        · rw [wk_gone hi hj2 e g]
          refine ih (i + 1) j _ _ hj (fun k hk => ?_) (fun p q hpq hq h4 h5 => ?_) (fun k hk => h3 k (by omega))
          · by_cases c : k = i
            · exact Or.inl (h3 k (by omega))
            · exact h1 k (by omega)
          · by_cases c : q = i
            · exact absurd (h3 q (by omega)) h5
            · exact h2 p q hpq (by omega) h4 h5
        · rw [wk_new hi hj2 e g]
          refine ih i (j + 1) _ _ hj2 (fun k hk => ?_) h2 h3
          have := h1 k hk; omega
    · rw [wk_end hc]
      refine ⟨fun k hk => ?_, fun p q hpq hq h4 h5 => ?_⟩
      · show P k = -1 ∨ (0 ≤ P k ∧ P k < Y.length)
        by_cases c : k < i
        · have := h1 k c; omega
        · exact Or.inl (h3 k (by omega))
      · by_cases c : q < i
        · exact h2 p q hpq c h4 h5
        · exact absurd (h3 q (by omega)) h5
theorem prs_ok (X Y : List Int64) : PrOK (prW X Y).1 X.length Y.length := wk_ok _ 0 0 0 _ (Nat.zero_le _) (fun k h => by omega) (fun p q _ h => by omega) (fun _ _ => rfl)
