/-! BY HAND: what a run of calls keeps: names -/
theorem Nm.ext {b b' : BR} {T : Tl} (h : Nm b T) (hn : bkN b ≤ bkN b') (hs : ∀ i, i < bkN b → bkS b' i = bkS b i) : Nm b' T := fun y hy => by
  obtain ⟨h1, h2, h3, h4⟩ := h y hy
  exact ⟨h1, by omega, by rw [hs _ (by omega)]; exact h3, h4⟩
/-- a book that follows another one -/
def BkX (b b' : BR) : Prop := bkN b ≤ bkN b' ∧ (bkN b' : Int) ≤ bkN b + 20 ∧ (∀ i, i < bkN b → bkS b' i = bkS b i) ∧ AuI b' ∧ OgI b'
/-- signs of names that are told anew -/
theorem sg_ok {s : Nat → Int64} {n0 : Nat} {T : Tl} (h1 : ∀ y ∈ T, (0 ≤ y.2 ∧ y.2 < n0 ∧ s y.2.toNat = y.1) ∨ (n0 : Int) ≤ y.2) (h2 : ∀ y ∈ T, ∀ z ∈ T, (n0 : Int) ≤ y.2 → z.2 = y.2 → z.1 = y.1) : (∀ i, i < n0 → sgN s T i = s i) ∧ ∀ y ∈ T, sgN s T y.2.toNat = y.1 := by
  constructor
  · intro i hi
    unfold sgN
    cases hf : T.find? (fun y => decide (y.2 = (i : Int))) with
    | none => rfl
    | some y =>
      have e : y.2 = (i : Int) := of_decide_eq_true (List.find?_some (p := fun y : Int64 × Int => decide (y.2 = (i : Int))) hf)
      rcases h1 y (List.mem_of_find?_eq_some hf) with g | g
      · have := g.2.2
        rw [e, Int.toNat_natCast] at this
        exact this.symm
      · omega
  · intro y hy
    have y0 : 0 ≤ y.2 := by rcases h1 y hy with g | g <;> omega
    unfold sgN
    cases hf : T.find? (fun z => decide (z.2 = (y.2.toNat : Int))) with
    | none =>
      have := List.find?_eq_none.mp hf y hy
      exact absurd (decide_eq_true (by omega)) this
    | some z =>
      have e : z.2 = (y.2.toNat : Int) := of_decide_eq_true (List.find?_some (p := fun z : Int64 × Int => decide (z.2 = (y.2.toNat : Int))) hf)
      have ez : z.2 = y.2 := by omega
      show z.1 = y.1
      rcases h1 y hy with g | g
      · rcases h1 z (List.mem_of_find?_eq_some hf) with g2 | g2
        · rw [← g.2.2, ← g2.2.2, ez]
        · omega
      · exact h2 y hy z (List.mem_of_find?_eq_some hf) g ez
theorem apA_ip {F : Tl} {n : Nat} {au : Nat → Int} {w : Int} {x : Int64} (hF : ∀ y ∈ F, 0 ≤ y.2 ∧ y.2 < n) (ha : ∀ i, i < n → isP (au i)) (hw : isP w) : isP (apA F n au w x) := by
  unfold apA
  split
  · exact hw
  · cases hf : F.find? (fun y => decide (y.1 = x)) with
    | none => exact hw
    | some y =>
      have g := hF y (List.mem_of_find?_eq_some hf)
      show isP (if 0 ≤ y.2 ∧ y.2 < (n : Int) then au y.2.toNat else -1)
      rw [if_pos g]; exact ha _ (by omega)
/-- naming keeps what it should -/
theorem nmL_ok {F : Tl} {w : Int} {n0 : Nat} (hF : ∀ y ∈ F, 0 ≤ y.2 ∧ y.2 < (n0 : Int)) (hw : isP w) : ∀ (T : Tl) (n : Nat) (au og : Nat → Int), n0 ≤ n → (∀ y ∈ T, y.2 = -1 ∨ (0 ≤ y.2 ∧ y.2 < (n0 : Int))) → (∀ i, i < n → isP (au i)) → (∀ i, i < n → -1 ≤ og i ∧ og i < i) →
    (∀ i, i < (nmL F w T n au og).2.1 → isP ((nmL F w T n au og).2.2.1 i) ∧ -1 ≤ (nmL F w T n au og).2.2.2 i ∧ (nmL F w T n au og).2.2.2 i < i) ∧ (∀ y ∈ (nmL F w T n au og).1, (y ∈ T ∧ 0 ≤ y.2 ∧ y.2 < (n0 : Int)) ∨ ((n : Int) ≤ y.2 ∧ y.2 < (nmL F w T n au og).2.1 ∧ ∃ z ∈ T, z.1 = y.1 ∧ z.2 = -1)) ∧ ∀ y ∈ (nmL F w T n au og).1, ∀ z ∈ (nmL F w T n au og).1, (n : Int) ≤ y.2 → z.2 = y.2 → z.1 = y.1
  | [], n, au, og, hn, hT, ha, ho => ⟨fun i hi => ⟨ha i hi, ho i hi⟩, (fun y hy => by cases hy), (fun y hy => by cases hy)⟩
  | x :: T, n, au, og, hn, hT, ha, ho => by
    rw [nmL]
    have hT' : ∀ y ∈ T, y.2 = -1 ∨ (0 ≤ y.2 ∧ y.2 < (n0 : Int)) := fun y hy => hT y (List.mem_cons_of_mem _ hy)
    by_cases e : x.2 = -1
    · rw [if_pos e]
      have hp : isP (apA F n au w x.1) := apA_ip (fun y hy => by have := hF y hy; omega) ha hw
      obtain ⟨i1, i2, i3⟩ := nmL_ok (n0 := n0) hF hw T (n + 1) (up1 au n (apA F n au w x.1)) (up1 og n (-1)) (by omega) hT' (fun i hi => by
        unfold up1; split
        · exact hp
        · exact ha i (by omega)) (fun i hi => by
        unfold up1; split
        · omega
        · exact ho i (by omega))
      have en := nmL_n (F := F) (w := w) T (n + 1) (up1 au n (apA F n au w x.1)) (up1 og n (-1))
      generalize nmL F w T (n + 1) (up1 au n (apA F n au w x.1)) (up1 og n (-1)) = N at i1 i2 i3 en ⊢
      refine ⟨i1, fun y hy => ?_, fun y hy z hz hyn hzy => ?_⟩
      · rcases List.mem_cons.mp hy with g | g
        · subst g
          exact Or.inr ⟨Int.le_refl _, by show (n : Int) < N.2.1; omega, x, List.mem_cons_self .., rfl, e⟩
        · rcases i2 y g with q | q
          · exact Or.inl ⟨List.mem_cons_of_mem _ q.1, q.2⟩
          · obtain ⟨q1, q2, z, q3, q4⟩ := q
            exact Or.inr ⟨by omega, q2, z, List.mem_cons_of_mem _ q3, q4⟩
      · have low : ∀ y ∈ N.1, y.2 ≠ (n : Int) := fun y hy z => by
          rcases i2 y hy with q | q
          · omega
          · omega
        rcases List.mem_cons.mp hy with g | g
        · subst g
          rcases List.mem_cons.mp hz with g2 | g2
          · subst g2; rfl
          · exact absurd hzy (low z g2)
        · rcases List.mem_cons.mp hz with g2 | g2
          · subst g2
            exact absurd hzy.symm (low y g)
          · rcases i2 y g with q | q
            · omega
            · exact i3 y g z g2 q.1 hzy
    · rw [if_neg e]
      obtain ⟨i1, i2, i3⟩ := nmL_ok (n0 := n0) hF hw T n au og hn hT' ha ho
      generalize nmL F w T n au og = N at i1 i2 i3 ⊢
      have hx := (hT x (List.mem_cons_self ..)).resolve_left e
      refine ⟨i1, fun y hy => ?_, fun y hy z hz hyn hzy => ?_⟩
      · rcases List.mem_cons.mp hy with g | g
        · subst g; exact Or.inl ⟨List.mem_cons_self .., hx⟩
        · rcases i2 y g with q | q
          · exact Or.inl ⟨List.mem_cons_of_mem _ q.1, q.2⟩
          · obtain ⟨q1, q2, z, q3, q4⟩ := q
            exact Or.inr ⟨q1, q2, z, List.mem_cons_of_mem _ q3, q4⟩
      · rcases List.mem_cons.mp hy with g | g
        · subst g; omega
        · rcases List.mem_cons.mp hz with g2 | g2
          · subst g2; omega
          · exact i3 y g z g2 hyn hzy
/-- the book behind an edit that names lines -/
theorem nm_book {F T : Tl} {w : Int} {b : BR} (hF : Nm b F) (hw : isP w) (hA : AuI b) (hO : OgI b) (hT : ∀ y ∈ T, (y.2 = -1 ∧ isLn y.1 = true) ∨ (0 ≤ y.2 ∧ y.2 < bkN b ∧ bkS b y.2.toNat = y.1 ∧ isLn y.1 = true)) (h20 : noN T ≤ 20) : BkX b ((nmL F w T (bkN b) (bkA b) (bkO b)).2.1, sgN (bkS b) (nmL F w T (bkN b) (bkA b) (bkO b)).1, (nmL F w T (bkN b) (bkA b) (bkO b)).2.2.1, (nmL F w T (bkN b) (bkA b) (bkO b)).2.2.2) ∧ Nm ((nmL F w T (bkN b) (bkA b) (bkO b)).2.1, sgN (bkS b) (nmL F w T (bkN b) (bkA b) (bkO b)).1, (nmL F w T (bkN b) (bkA b) (bkO b)).2.2.1, (nmL F w T (bkN b) (bkA b) (bkO b)).2.2.2) (nmL F w T (bkN b) (bkA b) (bkO b)).1 := by
  obtain ⟨i1, i2, i3⟩ := nmL_ok (n0 := bkN b) (fun y hy => ⟨(hF y hy).1, (hF y hy).2.1⟩) hw T (bkN b) (bkA b) (bkO b) (Nat.le_refl _) (fun y hy => by
    rcases hT y hy with g | g
    · exact Or.inl g.1
    · exact Or.inr ⟨g.1, g.2.1⟩) hA hO
  have en := nmL_n (F := F) (w := w) T (bkN b) (bkA b) (bkO b)
  generalize nmL F w T (bkN b) (bkA b) (bkO b) = N at i1 i2 i3 en ⊢
  have old : ∀ y ∈ N.1, (0 ≤ y.2 ∧ y.2 < bkN b ∧ bkS b y.2.toNat = y.1) ∨ (bkN b : Int) ≤ y.2 := fun y hy => by
    rcases i2 y hy with ⟨q1, q2, q3⟩ | q
    · rcases hT y q1 with g | g
      · omega
      · exact Or.inl ⟨g.1, g.2.1, g.2.2.1⟩
    · exact Or.inr q.1
  obtain ⟨s1, s2⟩ := sg_ok old i3
  refine ⟨⟨by show bkN b ≤ N.2.1; omega, by show (N.2.1 : Int) ≤ _; omega, s1, fun i hi => (i1 i hi).1, fun i hi => (i1 i hi).2⟩, fun y hy => ⟨?_, ?_, s2 y hy, ?_⟩⟩
  · rcases old y hy with g | g <;> omega
  · show y.2 < (N.2.1 : Int)
    rcases i2 y hy with ⟨q1, q2, q3⟩ | q
    · omega
    · exact q.2.1
  · rcases i2 y hy with ⟨q1, q2, q3⟩ | ⟨q1, q2, z, q3, q4, q5⟩
    · rcases hT y q1 with g | g
      · exact g.2
      · exact g.2.2.2
    · rw [← q4]
      rcases hT z q3 with g | g
      · exact g.2
      · exact g.2.2.2
