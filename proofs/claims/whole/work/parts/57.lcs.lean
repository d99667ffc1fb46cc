section LCS
def lc : List Int → List Int → Nat
  | [], _ => 0
  | _ :: _, [] => 0
  | a :: s, b :: t => if a = b then lc s t + 1 else max (lc s (b :: t)) (lc (a :: s) t)
termination_by s t => s.length + t.length
theorem lc_nil (t : List Int) : lc [] t = 0 := by rw [lc]
theorem lc_nil' (s : List Int) : lc s [] = 0 := by cases s <;> rw [lc]
theorem lc_cons (a b : Int) (s t : List Int) : lc (a :: s) (b :: t) = if a = b then lc s t + 1 else max (lc s (b :: t)) (lc (a :: s) t) := by rw [lc]
theorem lc_ub : ∀ (n : Nat) (s t u : List Int), s.length + t.length ≤ n → u.Sublist s → u.Sublist t → u.length ≤ lc s t := by
  intro n
  induction n with
  | zero =>
    intro s t u hn hs ht
    have : s = [] := List.eq_nil_of_length_eq_zero (by omega)
    subst this
    have := hs.length_le
    simp at this
    subst this
    exact Nat.zero_le _
  | succ n ih =>
    intro s t u hn hs ht
    cases u with
    | nil => exact Nat.zero_le _
    | cons c u =>
      cases s with
      | nil => cases hs
      | cons a s =>
        cases t with
        | nil => cases ht
        | cons b t =>
          simp only [List.length_cons] at hn
          have us : u.Sublist s := List.Sublist.of_cons_cons hs
          have ut : u.Sublist t := List.Sublist.of_cons_cons ht
          rw [lc_cons]
          split
          · have := ih s t u (by omega) us ut
            simp only [List.length_cons]
            omega
          · rename_i hab
            cases hs with
            | cons _ h1 =>
              have := ih s (b :: t) (c :: u) (by simp only [List.length_cons]; omega) h1 ht
              omega
            | cons_cons _ h1 =>
              cases ht with
              | cons _ h2 =>
                have := ih (c :: s) t (c :: u) (by simp only [List.length_cons]; omega) (h1.cons₂ c) h2
                omega
              | cons_cons _ h2 => exact absurd rfl hab
theorem lc_ex : ∀ (n : Nat) (s t : List Int), s.length + t.length ≤ n → ∃ u : List Int, u.Sublist s ∧ u.Sublist t ∧ u.length = lc s t := by
  intro n
  induction n with
  | zero =>
    intro s t hn
    have : s = [] := List.eq_nil_of_length_eq_zero (by omega)
    subst this
    exact ⟨[], List.Sublist.refl _, List.nil_sublist _, (lc_nil t).symm⟩
  | succ n ih =>
    intro s t hn
    cases s with
    | nil => exact ⟨[], List.Sublist.refl _, List.nil_sublist _, (lc_nil t).symm⟩
    | cons a s =>
      cases t with
      | nil => exact ⟨[], List.nil_sublist _, List.Sublist.refl _, (lc_nil' _).symm⟩
      | cons b t =>
        simp only [List.length_cons] at hn
        rw [lc_cons]
        split
        · rename_i hab
          subst hab
          obtain ⟨u, h1, h2, h3⟩ := ih s t (by omega)
          exact ⟨a :: u, h1.cons₂ a, h2.cons₂ a, by rw [List.length_cons, h3]⟩
        · obtain ⟨u, h1, h2, h3⟩ := ih s (b :: t) (by simp only [List.length_cons]; omega)
          obtain ⟨v, k1, k2, k3⟩ := ih (a :: s) t (by simp only [List.length_cons]; omega)
          by_cases hm : lc s (b :: t) ≤ lc (a :: s) t
          · exact ⟨v, k1, k2.cons b, by omega⟩
          · exact ⟨u, h1.cons a, h2, by omega⟩
theorem lc_rev_le (s t : List Int) : lc s t ≤ lc s.reverse t.reverse := by
  obtain ⟨u, h1, h2, h3⟩ := lc_ex _ s t (Nat.le_refl _)
  have := lc_ub _ s.reverse t.reverse u.reverse (Nat.le_refl _) h1.reverse h2.reverse
  rw [List.length_reverse] at this
  omega
theorem lc_rev (s t : List Int) : lc s.reverse t.reverse = lc s t := by
  have h1 := lc_rev_le s t
  have h2 := lc_rev_le s.reverse t.reverse
  rw [List.reverse_reverse, List.reverse_reverse] at h2
  omega
theorem lc_snoc (a b : Int) (s t : List Int) : lc (s ++ [a]) (t ++ [b]) = if a = b then lc s t + 1 else max (lc s (t ++ [b])) (lc (s ++ [a]) t) := by
  rw [← lc_rev (s ++ [a]) (t ++ [b]), ← lc_rev s t, ← lc_rev s (t ++ [b]), ← lc_rev (s ++ [a]) t]
  simp only [List.reverse_append, List.reverse_cons, List.reverse_nil, List.nil_append, List.singleton_append]
  exact lc_cons a b s.reverse t.reverse
end LCS
