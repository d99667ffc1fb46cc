/-! BY HAND: trees of lines: numbers of the reference against those of the class -/
theorem FD_bn {K1 K2 : Nat → Nat} {c : Nat → Nat → Nat} {l i m b : Nat} (hm : m ≤ b) : ∀ j : Nat, b ≤ j → FD K1 K2 c l i m j ≤ FD K1 K2 c l i m b + (j - b)
  | 0, h => by
    have e : b = 0 := by omega
    subst e; omega
  | j + 1, h => by
    by_cases e : b = j + 1
    · subst e; omega
    · have ih := FD_bn (K1 := K1) (K2 := K2) (c := c) (l := l) (i := i) hm j (by omega)
      by_cases hi : i ≤ l
      · rw [FD_i0 hi, FD_i0 hi]; omega
      · have := FD_b (K1 := K1) (K2 := K2) (c := c) (l := l) (i := i) (m := m) (j := j + 1) (by omega) (by omega)
        rw [Nat.add_sub_cancel] at this; omega
theorem FD_an {K1 K2 : Nat → Nat} {c : Nat → Nat → Nat} {l a m j : Nat} (hl : l ≤ a) : ∀ i : Nat, a ≤ i → FD K1 K2 c l i m j ≤ FD K1 K2 c l a m j + (i - a)
  | 0, h => by
    have e : a = 0 := by omega
    subst e; omega
  | i + 1, h => by
    by_cases e : a = i + 1
    · subst e; omega
    · have ih := FD_an (K1 := K1) (K2 := K2) (c := c) (m := m) (j := j) hl i (by omega)
      by_cases hj : j ≤ m
      · rw [FD_j0 hj, FD_j0 hj]; omega
      · have := FD_a (K1 := K1) (K2 := K2) (c := c) (l := l) (i := i + 1) (m := m) (j := j) (by omega) (by omega)
        rw [Nat.add_sub_cancel] at this; omega
section FDL
variable {K1 K2 : Nat → Nat} {c : Nat → Nat → Nat} {n1 n2 : Nat}
theorem FD_sub (ns1 : Ns K1 n1) (ns2 : Ns K2 n2) : ∀ (s l a i m b j : Nat), (i - a) + (j - b) ≤ s → l ≤ a → a ≤ i → i ≤ n1 → m ≤ b → b ≤ j → j ≤ n2 → (∀ k, a < k → k ≤ i → a ≤ K1 k) → (∀ k, b < k → k ≤ j → b ≤ K2 k) → FD K1 K2 c l i m j ≤ FD K1 K2 c l a m b + FD K1 K2 c a i b j := by
  intro s
  induction s with
  | zero =>
    intro l a i m b j hs h1 h2 h3 h4 h5 h6 _ _
    have e1 : i = a := by omega
    have e2 : j = b := by omega
    subst e1 e2
    omega
  | succ s ih =>
    intro l a i m b j hs h1 h2 h3 h4 h5 h6 B1 B2
    by_cases hi : i ≤ a
    · have e : i = a := by omega
      subst e
      rw [FD_i0 (l := i) (Nat.le_refl _)]
      exact FD_bn h4 j h5
    · by_cases hj : j ≤ b
      · have e : j = b := by omega
        subst e
        rw [FD_j0 (m := j) (Nat.le_refl _)]
        exact FD_an h1 i h2
      · have x := ih l a (i - 1) m b j (by omega) h1 (by omega) (by omega) h4 h5 h6 (fun k p q => B1 k p (by omega)) B2
        have y := ih l a i m b (j - 1) (by omega) h1 h2 h3 h4 (by omega) (by omega) B1 (fun k p q => B2 k p (by omega))
        have fa := FD_a (K1 := K1) (K2 := K2) (c := c) (l := l) (i := i) (m := m) (j := j) (by omega) (by omega)
        have fb := FD_b (K1 := K1) (K2 := K2) (c := c) (l := l) (i := i) (m := m) (j := j) (by omega) (by omega)
        have b1 := B1 i (by omega) (Nat.le_refl _)
        have b2 := B2 j (by omega) (Nat.le_refl _)
        have q1 := ns1 i (by omega) h3
        have q2 := ns2 j (by omega) h6
        by_cases e : K1 i = l ∧ K2 j = m
        · have ea : a = l := by omega
          have eb : b = m := by omega
          subst ea eb
          omega
        · have ne := FD_ne (K1 := K1) (K2 := K2) (c := c) (l := l) (i := i) (m := m) (j := j) (by omega) (by omega) e ⟨by omega, q1.1, by omega, q2.1⟩
          by_cases e2 : K1 i = a ∧ K2 j = b
          · rw [e2.1, e2.2] at ne
            omega
          · have ne2 := FD_ne (K1 := K1) (K2 := K2) (c := c) (l := a) (i := i) (m := b) (j := j) (by omega) (by omega) e2 ⟨by omega, q1.1, by omega, q2.1⟩
            have z := ih l a (K1 i) m b (K2 j) (by omega) h1 b1 (by omega) h4 b2 (by omega) (fun k p q => B1 k p (by omega)) (fun k p q => B2 k p (by omega))
            omega
theorem FD_li (ns1 : Ns K1 n1) (ns2 : Ns K2 n2) : ∀ (s l i m j : Nat), (i - l) + (j - m) ≤ s → l < i → i ≤ n1 → j ≤ n2 → (∀ k, l < k → k ≤ i → l ≤ K1 k) → (∀ k, m < k → k ≤ j → m ≤ K2 k) → FD K1 K2 c l (i - 1) m j ≤ FD K1 K2 c l i m j + 1 := by
  intro s
  induction s with
  | zero => intro l i m j hs h1; omega
  | succ s ih =>
    intro l i m j hs h1 h2 h3 B1 B2
    by_cases hj : j ≤ m
    · rw [FD_j0 hj, FD_j0 hj]; omega
    · have y := ih l i m (j - 1) (by omega) h1 h2 (by omega) B1 (fun k p q => B2 k p (by omega))
      have fb := FD_bn (K1 := K1) (K2 := K2) (c := c) (l := l) (i := i - 1) (m := m) (b := j - 1) (by omega) j (by omega)
      have b1 := B1 i (by omega) (Nat.le_refl _)
      have b2 := B2 j (by omega) (Nat.le_refl _)
      have q1 := ns1 i (by omega) h2
      have q2 := ns2 j (by omega) h3
      by_cases e : K1 i = l ∧ K2 j = m
      · have eq := FD_eq (K1 := K1) (K2 := K2) (c := c) (l := l) (i := i) (m := m) (j := j) (by omega) (by omega) e
        omega
      · have ne := FD_ne (K1 := K1) (K2 := K2) (c := c) (l := l) (i := i) (m := m) (j := j) (by omega) (by omega) e ⟨by omega, q1.1, by omega, q2.1⟩
        have z := ih (K1 i) i (K2 j) j (by omega) q1.1 h2 h3 (fun k p q => q1.2 k p q) (fun k p q => q2.2 k p q)
        have w := FD_sub (c := c) ns1 ns2 _ l (K1 i) (i - 1) m (K2 j) j (Nat.le_refl _) b1 (by omega) (by omega) b2 (by omega) h3 (fun k p q => q1.2 k p (by omega)) (fun k p q => q2.2 k p q)
        omega
theorem FD_lj (ns1 : Ns K1 n1) (ns2 : Ns K2 n2) : ∀ (s l i m j : Nat), (i - l) + (j - m) ≤ s → m < j → i ≤ n1 → j ≤ n2 → (∀ k, l < k → k ≤ i → l ≤ K1 k) → (∀ k, m < k → k ≤ j → m ≤ K2 k) → FD K1 K2 c l i m (j - 1) ≤ FD K1 K2 c l i m j + 1 := by
  intro s
  induction s with
  | zero => intro l i m j hs h1; omega
  | succ s ih =>
    intro l i m j hs h1 h2 h3 B1 B2
    by_cases hi : i ≤ l
    · rw [FD_i0 hi, FD_i0 hi]; omega
    · have y := ih l (i - 1) m j (by omega) h1 (by omega) h3 (fun k p q => B1 k p (by omega)) B2
      have fb := FD_an (K1 := K1) (K2 := K2) (c := c) (l := l) (a := i - 1) (m := m) (j := j - 1) (by omega) i (by omega)
      have b1 := B1 i (by omega) (Nat.le_refl _)
      have b2 := B2 j (by omega) (Nat.le_refl _)
      have q1 := ns1 i (by omega) h2
      have q2 := ns2 j (by omega) h3
      by_cases e : K1 i = l ∧ K2 j = m
      · have eq := FD_eq (K1 := K1) (K2 := K2) (c := c) (l := l) (i := i) (m := m) (j := j) (by omega) (by omega) e
        omega
      · have ne := FD_ne (K1 := K1) (K2 := K2) (c := c) (l := l) (i := i) (m := m) (j := j) (by omega) (by omega) e ⟨by omega, q1.1, by omega, q2.1⟩
        have z := ih (K1 i) i (K2 j) j (by omega) q2.1 h2 h3 (fun k p q => q1.2 k p q) (fun k p q => q2.2 k p q)
        have w := FD_sub (c := c) ns1 ns2 _ l (K1 i) i m (K2 j) (j - 1) (Nat.le_refl _) b1 (by omega) (by omega) b2 (by omega) (by omega) (fun k p q => q1.2 k p q) (fun k p q => q2.2 k p (by omega))
        omega
theorem FD_root (ns1 : Ns K1 n1) (ns2 : Ns K2 n2) (h1 : 1 ≤ n1) (h2 : 1 ≤ n2) (k1 : K1 n1 = 0) (k2 : K2 n2 = 0) (hc : c n1 n2 = 0) : FD K1 K2 c 0 n1 0 n2 = FD K1 K2 c 0 (n1 - 1) 0 (n2 - 1) := by
  have eq := FD_eq (K1 := K1) (K2 := K2) (c := c) (l := 0) (i := n1) (m := 0) (j := n2) h1 h2 ⟨k1, k2⟩
  have a := FD_lj (c := c) ns1 ns2 _ 0 (n1 - 1) 0 n2 (Nat.le_refl _) h2 (by omega) (Nat.le_refl _) (fun _ _ _ => Nat.zero_le _) (fun _ _ _ => Nat.zero_le _)
  have b := FD_li (c := c) ns1 ns2 _ 0 n1 0 (n2 - 1) (Nat.le_refl _) h1 (Nat.le_refl _) (by omega) (fun _ _ _ => Nat.zero_le _) (fun _ _ _ => Nat.zero_le _)
  rw [hc] at eq
  omega
theorem FD_cg {c' : Nat → Nat → Nat} (ns1 : Ns K1 n1) (ns2 : Ns K2 n2) (hc : ∀ i j, 1 ≤ i → i ≤ n1 → 1 ≤ j → j ≤ n2 → c i j = c' i j) : ∀ (s l i m j : Nat), (i - l) + (j - m) ≤ s → i ≤ n1 → j ≤ n2 → (∀ k, l < k → k ≤ i → l ≤ K1 k) → (∀ k, m < k → k ≤ j → m ≤ K2 k) → FD K1 K2 c l i m j = FD K1 K2 c' l i m j := by
  intro s
  induction s with
  | zero =>
    intro l i m j hs _ _ _ _
    rw [FD_i0 (by omega), FD_i0 (by omega)]
  | succ s ih =>
    intro l i m j hs h1 h2 B1 B2
    by_cases hi : i ≤ l
    · rw [FD_i0 hi, FD_i0 hi]
    · by_cases hj : j ≤ m
      · rw [FD_j0 hj, FD_j0 hj]
      · have x := ih l (i - 1) m j (by omega) (by omega) h2 (fun k p q => B1 k p (by omega)) B2
        have y := ih l i m (j - 1) (by omega) h1 (by omega) B1 (fun k p q => B2 k p (by omega))
        have b1 := B1 i (by omega) (Nat.le_refl _)
        have b2 := B2 j (by omega) (Nat.le_refl _)
        have q1 := ns1 i (by omega) h1
        have q2 := ns2 j (by omega) h2
        by_cases e : K1 i = l ∧ K2 j = m
        · have z := ih l (i - 1) m (j - 1) (by omega) (by omega) (by omega) (fun k p q => B1 k p (by omega)) (fun k p q => B2 k p (by omega))
          rw [FD_eq (by omega) (by omega) e, FD_eq (c := c') (by omega) (by omega) e, x, y, z, hc i j (by omega) h1 (by omega) h2]
        · have z := ih (K1 i) i (K2 j) j (by omega) h1 h2 (fun k p q => q1.2 k p q) (fun k p q => q2.2 k p q)
          have w := ih l (K1 i) m (K2 j) (by omega) (by omega) (by omega) (fun k p q => B1 k p (by omega)) (fun k p q => B2 k p (by omega))
          rw [FD_ne (by omega) (by omega) e ⟨b1, q1.1, b2, q2.1⟩, FD_ne (c := c') (by omega) (by omega) e ⟨b1, q1.1, b2, q2.1⟩, x, y, z, w]
/-- the costs of roots matter not -/
theorem FD_tops {c' : Nat → Nat → Nat} (ns1 : Ns K1 n1) (ns2 : Ns K2 n2) (h1 : 1 ≤ n1) (h2 : 1 ≤ n2) (k1 : K1 n1 = 0) (k2 : K2 n2 = 0) (hc : c n1 n2 = 0) (hc' : c' n1 n2 = 0) (he : ∀ i j, 1 ≤ i → i < n1 → 1 ≤ j → j < n2 → c i j = c' i j) : FD K1 K2 c 0 n1 0 n2 = FD K1 K2 c' 0 n1 0 n2 := by
  rw [FD_root ns1 ns2 h1 h2 k1 k2 hc, FD_root ns1 ns2 h1 h2 k1 k2 hc']
  exact FD_cg (n1 := n1 - 1) (n2 := n2 - 1) (fun i a b => ns1 i a (by omega)) (fun i a b => ns2 i a (by omega)) (fun i j a b p q => he i j a (by omega) p (by omega)) _ 0 (n1 - 1) 0 (n2 - 1) (Nat.le_refl _) (Nat.le_refl _) (Nat.le_refl _) (fun _ _ _ => Nat.zero_le _) (fun _ _ _ => Nat.zero_le _)
end FDL
/-! the line above a line -/
def abG (d : Nat → Nat) (k : Nat) : Nat → Int
  | 0 => -1
  | j + 1 => if d j < d k then j else abG d k j
def abN (d : Nat → Nat) (k : Nat) : Int := abG d k k
theorem abG_is (d : Nat → Nat) (k : Nat) : ∀ n : Nat, (abG d k n = -1 ∧ ∀ j, j < n → d k ≤ d j) ∨ ∃ i : Nat, abG d k n = i ∧ i < n ∧ d i < d k ∧ ∀ j, i < j → j < n → d k ≤ d j
  | 0 => Or.inl ⟨rfl, fun j h => by omega⟩
  | n + 1 => by
    simp only [abG]
    by_cases c : d n < d k
    · rw [if_pos c]
      exact Or.inr ⟨n, rfl, by omega, c, fun j h1 h2 => by omega⟩
    · rw [if_neg c]
      rcases abG_is d k n with ⟨h1, h2⟩ | ⟨i, h1, h2, h3, h4⟩
      · refine Or.inl ⟨h1, fun j hj => ?_⟩
        by_cases e : j = n
        · subst e; omega
        · exact h2 j (by omega)
      · refine Or.inr ⟨i, h1, by omega, h3, fun j p q => ?_⟩
        by_cases e : j = n
        · subst e; omega
        · exact h4 j p (by omega)
theorem abN_is (d : Nat → Nat) (k : Nat) : (abN d k = -1 ∧ ∀ j, j < k → d k ≤ d j) ∨ ∃ i : Nat, abN d k = i ∧ i < k ∧ d i < d k ∧ ∀ j, i < j → j < k → d k ≤ d j := abG_is d k k
theorem abN_r (d : Nat → Nat) (k : Nat) : -1 ≤ abN d k ∧ abN d k < k := by
  rcases abN_is d k with ⟨h, _⟩ | ⟨i, h, h2, _⟩
  · rw [h]; omega
  · rw [h]; omega
/-- the lines on the way up -/
def chF (A : Nat → Int) : Nat → Int → List Nat
  | 0, _ => []
  | f + 1, a => if a < 0 then [] else a.toNat :: chF A f (A a.toNat)
theorem chF_more {A : Nat → Int} (hA : ∀ k, -1 ≤ A k ∧ A k < k) : ∀ (f g : Nat) (a : Int), a < f → a < g → chF A f a = chF A g a
  | 0, 0, a, _, _ => rfl
  | 0, g + 1, a, h, _ => by rw [chF, chF, if_pos (by omega)]
  | f + 1, 0, a, _, h => by rw [chF, chF, if_pos (by omega)]
  | f + 1, g + 1, a, h1, h2 => by
    rw [chF, chF]
    by_cases c : a < 0
    · rw [if_pos c, if_pos c]
    · rw [if_neg c, if_neg c, chF_more hA f g _ (by have := hA a.toNat; omega) (by have := hA a.toNat; omega)]
def anL (A : Nat → Int) (a : Int) : List Nat := chF A (a.toNat + 1) a
theorem anL_no {A : Nat → Int} {a : Int} (h : a < 0) : anL A a = [] := by unfold anL; rw [chF, if_pos h]
theorem anL_at {A : Nat → Int} (hA : ∀ k, -1 ≤ A k ∧ A k < k) {a : Nat} : anL A a = a :: anL A (A a) := by
  have := hA a
  unfold anL
  rw [chF, if_neg (by omega), Int.toNat_natCast, chF_more hA a ((A a).toNat + 1) _ (by omega) (by omega)]
def deN (d : Nat → Nat) (j : Nat) : Nat := (anL (abN d) (abN d j)).length
theorem anL_len {A : Nat → Int} (hA : ∀ k, -1 ≤ A k ∧ A k < k) : ∀ (f : Nat) (a : Int), a < f → -1 ≤ a → ((anL A a).length : Int) ≤ a + 1
  | 0, a, h, h2 => by rw [anL_no h]; show (0 : Int) ≤ a + 1; omega
  | f + 1, a, h, h2 => by
    by_cases c : a < 0
    · rw [anL_no c]; show (0 : Int) ≤ a + 1; omega
    · have e : a = ((a.toNat : Nat) : Int) := by omega
      rw [e, anL_at hA, List.length_cons]
      have r := hA a.toNat
      have := anL_len hA f (A a.toNat) (by omega) r.1
      omega
theorem deN_le (d : Nat → Nat) (j : Nat) : deN d j ≤ j := by
  have := abN_r d j
  have h := anL_len (abN_r d) j (abN d j) (by omega) this.1
  unfold deN
  omega
/-- where the lines below a line end -/
def En (d : Nat → Nat) (n j e : Nat) : Prop := j < e ∧ e ≤ n ∧ (∀ k, j < k → k < e → d j < d k) ∧ (e < n → d e ≤ d j)
theorem En.uq {d : Nat → Nat} {n j e e' : Nat} (h : En d n j e) (h' : En d n j e') : e = e' := by
  obtain ⟨a1, a2, a3, a4⟩ := h
  obtain ⟨b1, b2, b3, b4⟩ := h'
  rcases Nat.lt_trichotomy e e' with g | g | g
  · have := b3 e a1 g; have := a4 (by omega); omega
  · exact g
  · have := a3 e' b1 g; have := b4 (by omega); omega
theorem bel_iff {d : Nat → Nat} {j k : Nat} (hjk : j < k) (ho : ∀ i, j < i → i < k → d j < d i) : j ∈ anL (abN d) (abN d k) ↔ d j < d k := by
  have up : ∀ (f : Nat) (a : Int), a < f → (j : Int) ≤ a → a < k → j ∈ anL (abN d) a := by
    intro f
    induction f with
    | zero => intro a h1 h2; omega
    | succ f ih =>
      intro a h1 h2 h3
      have e : a = ((a.toNat : Nat) : Int) := by omega
      rw [e, anL_at (abN_r d)]
      by_cases c : a.toNat = j
      · rw [c]; exact List.mem_cons_self ..
      · refine List.mem_cons_of_mem _ ?_
        have o := ho a.toNat (by omega) (by omega)
        have r := abN_r d a.toNat
        refine ih _ (by omega) ?_ (by omega)
        rcases abN_is d a.toNat with ⟨g1, g2⟩ | ⟨i, g1, g2, g3, g4⟩
        · have := g2 j (by omega); omega
        · rw [g1]
          by_cases z : i < j
          · have := g4 j z (by omega); omega
          · omega
  have dn : ∀ (f : Nat) (a : Int), a < f → a < j → j ∉ anL (abN d) a := by
    intro f
    induction f with
    | zero => intro a h1 h2; rw [anL_no h1]; simp
    | succ f ih =>
      intro a h1 h2
      by_cases c : a < 0
      · rw [anL_no c]; simp
      · have e : a = ((a.toNat : Nat) : Int) := by omega
        have r := abN_r d a.toNat
        rw [e, anL_at (abN_r d), List.mem_cons]
        intro z
        rcases z with z | z
        · omega
        · exact ih _ (by omega) (by omega) z
  have r := abN_r d k
  constructor
  · intro h
    apply Classical.byContradiction
    intro c
    refine dn k (abN d k) (by omega) ?_ h
    rcases abN_is d k with ⟨g1, g2⟩ | ⟨i, g1, g2, g3, g4⟩
    · rw [g1]; omega
    · rw [g1]
      by_cases z : i < j
      · omega
      · by_cases z2 : i = j
        · subst z2; omega
        · have := ho i (by omega) g2; omega
  · intro h
    refine up k (abN d k) (by omega) ?_ (by omega)
    rcases abN_is d k with ⟨g1, g2⟩ | ⟨i, g1, g2, g3, g4⟩
    · have := g2 j hjk; omega
    · rw [g1]
      by_cases z : i < j
      · have := g4 j z hjk; omega
      · omega
/-! numbers of lines in the class's order -/
section NUM
variable {d : Nat → Nat} {lab : Nat → Int64} {n : Nat}
def mpS (d : Nat → Nat) (lab : Nat → Int64) (l : List Nat) : List (Int × Int64 × Nat) := l.map (fun j => ((d j : Int), lab j, j - deN d j + 1)) ++ [(-1, 0, 1)]
def mpO (d : Nat → Nat) (lab : Nat → Int64) (L : List Nat) : List (Int64 × Nat) := L.map (fun j => (lab j, j - deN d j + 1))
/-- lines that are counted -/
def ClL (d : Nat → Nat) (n i : Nat) (L : List Nat) : Prop := ∀ (p j : Nat), L[p]? = some j → j < i ∧ ∃ e, En d n j e ∧ e = p + 1 + deN d j
theorem ClL.mono {i i' : Nat} {L : List Nat} (h : ClL d n i L) (hi : i ≤ i') : ClL d n i' L := fun p j hp => ⟨Nat.lt_of_lt_of_le (h p j hp).1 hi, (h p j hp).2⟩
theorem ClL.snoc {i j : Nat} {L : List Nat} (h : ClL d n i L) (hj : j < i) (he : ∃ e, En d n j e ∧ e = L.length + 1 + deN d j) : ClL d n i (L ++ [j]) := fun p k hp => by
  rcases snoc_get hp with ⟨h1, h2⟩ | ⟨h1, h2⟩
  · exact h p k h2
  · subst h2
    rw [h1]; exact ⟨hj, he⟩
/-- lines that are closed when a line comes whose depth is D, or the end -/
theorem clT_num {D : Int} {i : Nat} (hi : i ≤ n) (hD : ∀ j, j < i → D ≤ d j → ∀ z, z = i → z < n → d z ≤ d j) : ∀ (f : Nat) (a : Int) (L : List Nat), a < f → -1 ≤ a → a < i → ClL d n i L → (∀ k : Nat, a < k → k < i → D ≤ d k ∧ (0 ≤ a → d a.toNat < d k)) → L.length + (anL (abN d) a).length = i → (∀ j, j < i → j ∈ anL (abN d) a ∨ j ∈ L) → 0 ≤ D →
    ∃ a' L', clT D (mpS d lab (anL (abN d) a)) (mpO d lab L) = (mpS d lab (anL (abN d) a'), mpO d lab L') ∧ -1 ≤ a' ∧ a' < i ∧ (0 ≤ a' → (d a'.toNat : Int) < D) ∧ (∀ k : Nat, a' < k → k < i → D ≤ d k) ∧ ClL d n i L' ∧ L'.length + (anL (abN d) a').length = i ∧ ∀ j, j < i → j ∈ anL (abN d) a' ∨ j ∈ L' := by
  have fin : ∀ (a : Int) (L : List Nat), a < 0 → -1 ≤ a → ClL d n i L → (∀ k : Nat, a < k → k < i → D ≤ d k) → L.length + (anL (abN d) a).length = i → (∀ j, j < i → j ∈ anL (abN d) a ∨ j ∈ L) → 0 ≤ D → ∃ a' L', clT D (mpS d lab (anL (abN d) a)) (mpO d lab L) = (mpS d lab (anL (abN d) a'), mpO d lab L') ∧ -1 ≤ a' ∧ a' < i ∧ (0 ≤ a' → (d a'.toNat : Int) < D) ∧ (∀ k : Nat, a' < k → k < i → D ≤ d k) ∧ ClL d n i L' ∧ L'.length + (anL (abN d) a').length = i ∧ ∀ j, j < i → j ∈ anL (abN d) a' ∨ j ∈ L' := by
    intro a L h1 h2 h3 h4 h5 h6 h7
    refine ⟨a, L, ?_, h2, by omega, fun z => by omega, h4, h3, h5, h6⟩
    rw [anL_no h1]
    show clT D [(-1, 0, 1)] _ = _
    rw [clT, if_neg (by omega)]
    rfl
  intro f
  induction f with
  | zero => intro a L h1 h2 _ h3 h4 h5 h6 h7; exact fin a L h1 h2 h3 (fun k p q => (h4 k p q).1) h5 h6 h7
  | succ f ih =>
    intro a L h1 h2 h2' h3 h4 h5 h6 h7
    by_cases c : a < 0
    · exact fin a L c h2 h3 (fun k p q => (h4 k p q).1) h5 h6 h7
    · obtain ⟨j, rfl⟩ : ∃ j : Nat, a = j := ⟨a.toNat, by omega⟩
      have r := abN_r d j
      have el : anL (abN d) (j : Int) = j :: anL (abN d) (abN d j) := anL_at (abN_r d)
      rw [el] at h5 h6 ⊢
      show ∃ a' L', clT D (((d j : Int), lab j, j - deN d j + 1) :: mpS d lab (anL (abN d) (abN d j))) (mpO d lab L) = _ ∧ _
      rw [clT]
      by_cases cd : D ≤ (d j : Int)
      · rw [if_pos cd]
        have hj : j < i := by omega
        have hL : (anL (abN d) (abN d j)).length = deN d j := rfl
        rw [List.length_cons, hL] at h5
        have hen : En d n j i := ⟨hj, hi, fun k p q => by have := (h4 k (by omega) q).2 (by omega); rw [Int.toNat_natCast] at this; exact this, fun z => hD j hj cd i rfl z⟩
        have := ih (abN d j) (L ++ [j]) (by omega) r.1 (by omega) (h3.snoc hj ⟨i, hen, by omega⟩) (fun k p q => ?_) (by rw [List.length_append, List.length_cons, List.length_nil, hL]; omega) (fun k hk => ?_) h7
        · have e : mpO d lab (L ++ [j]) = mpO d lab L ++ [(lab j, j - deN d j + 1)] := by unfold mpO; rw [List.map_append]; rfl
          rw [e] at this
          exact this
        · have ak := abN_is d j
          have bk : D ≤ d k ∧ d j ≤ d k := by
            rcases Nat.lt_trichotomy k j with g | g | g
            · have : d j ≤ d k := by
                rcases ak with ⟨g1, g2⟩ | ⟨z, g1, g2, g3, g4⟩
                · exact g2 k g
                · exact g4 k (by omega) g
              exact ⟨by omega, this⟩
            · subst g; exact ⟨cd, Nat.le_refl _⟩
            · have w := h4 k (by omega) q
              have := w.2 (by omega)
              rw [Int.toNat_natCast] at this
              exact ⟨w.1, by omega⟩
          refine ⟨bk.1, fun z => ?_⟩
          rcases ak with ⟨g1, g2⟩ | ⟨z', g1, g2, g3, g4⟩
          · omega
          · rw [g1, Int.toNat_natCast]; omega
        · rcases h6 k hk with g | g
          · rcases List.mem_cons.mp g with g | g
            · subst g; exact Or.inr (List.mem_append_right _ (List.mem_cons_self ..))
            · exact Or.inl g
          · exact Or.inr (List.mem_append_left _ g)
      · rw [if_neg cd]
        refine ⟨j, L, ?_, by omega, by omega, fun _ => by rw [Int.toNat_natCast]; omega, fun k p q => (h4 k p q).1, h3, by rw [el]; exact h5, by rw [el]; exact h6⟩
        rw [el]; rfl
theorem abN_uq {i : Nat} {a : Int} (h1 : -1 ≤ a) (h2 : a < i) (h3 : 0 ≤ a → d a.toNat < d i) (h4 : ∀ k : Nat, a < k → k < i → d i ≤ d k) : abN d i = a := by
  rcases abN_is d i with ⟨g1, g2⟩ | ⟨z, g1, g2, g3, g4⟩
  · rw [g1]
    by_cases c : a < 0
    · omega
    · have := g2 a.toNat (by omega); have := h3 (by omega); omega
  · rw [g1]
    rcases Int.lt_trichotomy a z with c | c | c
    · have := h4 z c g2; omega
    · exact c.symm
    · have := g4 a.toNat (by omega) (by omega); have := h3 (by omega); omega
theorem clT_two {D D' : Int} (h : D' ≤ D) : ∀ (s : List (Int × Int64 × Nat)) (o : List (Int64 × Nat)), clT D' s o = clT D' (clT D s o).1 (clT D s o).2 := by
  intro s
  induction s with
  | nil => intro o; rfl
  | cons x s ih =>
    intro o
    by_cases c : D ≤ x.1
    · have e1 : clT D (x :: s) o = clT D s (o ++ [(x.2.1, x.2.2)]) := by rw [clT, if_pos c]
      rw [e1, ← ih, clT, if_pos (by omega)]
    · have e1 : clT D (x :: s) o = (x :: s, o) := by rw [clT, if_neg c]
      rw [e1]
end NUM
section NUT
variable {ls : List Int64}
abbrev dT (ls : List Int64) (j : Nat) : Nat := dpL (ls.getD j 0)
abbrev laT (ls : List Int64) (j : Nat) : Int64 := lUsh (ls.getD j 0) (8 * (dT ls j : Nat))
theorem grT_num : ∀ (f i : Nat) (L : List Nat), i + f = ls.length → ClL (dT ls) ls.length i L → L.length + (anL (abN (dT ls)) ((i : Int) - 1)).length = i → (∀ j, j < i → j ∈ anL (abN (dT ls)) ((i : Int) - 1) ∨ j ∈ L) →
    ∃ L', grT (ls.drop i) (mpS (dT ls) (laT ls) (anL (abN (dT ls)) ((i : Int) - 1))) (mpO (dT ls) (laT ls) L) = mpO (dT ls) (laT ls) L' ++ [(0, 1)] ∧ ClL (dT ls) ls.length ls.length L' ∧ L'.length = ls.length ∧ ∀ j, j < ls.length → j ∈ L' := by
  intro f
  induction f with
  | zero =>
    intro i L hi h1 h2 h3
    have e : i = ls.length := by omega
    subst e
    rw [List.drop_eq_nil_of_le (Nat.le_refl _), grT]
    obtain ⟨a', L', c1, c2, c3, c4, c5, c6, c7, c8⟩ := clT_num (d := dT ls) (lab := laT ls) (n := ls.length) (D := 0) (i := ls.length) (Nat.le_refl _) (fun j _ _ z hz hz2 => by omega) ls.length ((ls.length : Int) - 1) L (by omega) (by omega) (by omega) h1 (fun k p q => by omega) h2 h3 (by decide)
    have ea : a' < 0 := by
      apply Classical.byContradiction
      intro z
      have := c4 (by omega); omega
    rw [anL_no ea] at c1 c7 c8
    rw [clT_two (D := 0) (by decide), c1]
    refine ⟨L', ?_, c6, by simpa using c7, fun j hj => by simpa using c8 j hj⟩
    show (clT (-1) [(-1, 0, 1)] _).2 = _
    rw [clT, if_pos (by decide)]; rfl
  | succ f ih =>
    intro i L hi h1 h2 h3
    have li : i < ls.length := by omega
    have eg : ls.getD i 0 = ls[i] := by rw [List.getD_eq_getElem?_getD, List.getElem?_eq_getElem li]; rfl
    rw [List.drop_eq_getElem_cons li, ← eg, grT]
    obtain ⟨a', L', c1, c2, c3, c4, c5, c6, c7, c8⟩ := clT_num (d := dT ls) (lab := laT ls) (n := ls.length) (D := (dT ls i : Nat)) (i := i) (by omega) (fun j _ hj z hz _ => by subst hz; omega) i ((i : Int) - 1) L (by omega) (by omega) (by omega) h1 (fun k p q => by omega) h2 h3 (by omega)
    rw [c1]
    have ea : abN (dT ls) i = a' := abN_uq c2 c3 (fun z => by have := c4 z; omega) (fun k p q => by have := c5 k p q; omega)
    have el : anL (abN (dT ls)) (i : Int) = i :: anL (abN (dT ls)) a' := by rw [anL_at (abN_r _), ea]
    have ed : deN (dT ls) i = (anL (abN (dT ls)) a').length := by unfold deN; rw [ea]
    have e1 : ((i + 1 : Nat) : Int) - 1 = i := by omega
    have := ih (i + 1) L' (by omega) (c6.mono (by omega)) (by rw [e1, el, List.length_cons]; omega) (fun j hj => by
      rw [e1, el, List.mem_cons]
      by_cases z : j = i
      · exact Or.inl (Or.inl z)
      · rcases c8 j (by omega) with g | g
        · exact Or.inl (Or.inr g)
        · exact Or.inr g)
    rw [e1, el] at this
    have e2 : (mpO (dT ls) (laT ls) L').length + 1 = i - deN (dT ls) i + 1 := by
      unfold mpO; rw [List.length_map]; omega
    rw [e2]
    exact this
theorem trT_num (ls : List Int64) : ∃ L, trT ls = mpO (dT ls) (laT ls) L ++ [(0, 1)] ∧ ClL (dT ls) ls.length ls.length L ∧ L.length = ls.length ∧ ∀ j, j < ls.length → j ∈ L :=
  grT_num ls.length 0 [] (by omega) (fun p j h => by simp at h) (by rw [anL_no (by decide)]; rfl) (fun j h => by omega)
end NUT
