/-! BY HAND: hunks as the reference finds them -/
abbrev Q4 := Nat × Nat × Nat × Nat
/-- from and to in the first text, from and to in the other one -/
def rwN (T U : List (Int64 × Int)) (P : Nat → Int) : Nat → Nat → Nat → Nat → List Q4
  | 0, _, _, _ => []
  | f + 1, i, fr, ot => if flP T U P i = -1 then rwN T U P f (i + 1) fr ot else (if fr < i ∨ (ot : Int) < flP T U P i then [(fr, i, ot, (flP T U P i).toNat)] else []) ++ rwN T U P f (i + 1) (i + 1) ((flP T U P i).toNat + 1)
def mkQ (T U : List (Int64 × Int)) (P : Nat → Int) (ctx : Nat) (q : Q4) : Hun := mkH T U P ctx q.1 q.2.1 q.2.2.1 q.2.2.2
theorem flN_rw {T U : List (Int64 × Int)} {P : Nat → Int} {ctx : Nat} : ∀ (f i fr ot : Nat) (acc : List Hun), flN T U P ctx f i fr ot acc = acc ++ (rwN T U P f i fr ot).map (mkQ T U P ctx) := by
  intro f
  induction f with
  | zero => intro i fr ot acc; rw [flN, rwN, List.map_nil, List.append_nil]
  | succ f ih =>
    intro i fr ot acc
    rw [flN, rwN]
    by_cases h : flP T U P i = -1
    · rw [if_pos h, if_pos h]; exact ih _ _ _ _
    · rw [if_neg h, if_neg h, ih]
      by_cases g : fr < i ∨ (ot : Int) < flP T U P i
      · rw [if_pos g, if_pos g, List.map_append, List.append_assoc]; rfl
      · rw [if_neg g, if_neg g, List.nil_append]
/-- hunks behind a place -/
def QG (P : Nat → Int) (n : Nat) : Nat → Nat → List Q4 → Prop
  | s, so, [] => ∀ k, s ≤ k → k < n → P k = (so : Int) + ((k : Int) - s)
  | s, so, (fr, i, ot, pr) :: r => (s ≤ fr ∧ fr ≤ i ∧ i ≤ n) ∧ (ot + s = so + fr ∧ ot ≤ pr) ∧ (fr < i ∨ ot < pr) ∧ (s < fr ∨ (s = 0 ∧ so = 0)) ∧ (∀ k, s ≤ k → k < fr → P k = (so : Int) + ((k : Int) - s)) ∧ (∀ k, fr ≤ k → k < i → P k = -1) ∧ (i < n → P i = pr) ∧ QG P n i pr r
theorem rwN_ok {T U : List (Int64 × Int)} {P : Nat → Int} (hP : PrOK P T.length U.length) : ∀ (f i fr ot s so : Nat), i + f = T.length + 1 → fr ≤ i → s ≤ fr → (i ≤ T.length → ot ≤ U.length) → ot + s = so + fr → (s < fr ∨ (s = 0 ∧ so = 0)) → (∀ k, s ≤ k → k < fr → k < T.length → P k = (so : Int) + ((k : Int) - s)) → (∀ k, fr ≤ k → k < i → k < T.length → P k = -1) → (∀ j, i ≤ j → j < T.length → P j ≠ -1 → (ot : Int) ≤ P j) → (i = T.length + 1 → T.length ≤ fr ∨ s = T.length) → (s ≤ T.length) → QG P T.length s so (rwN T U P f i fr ot) := by
  intro f
  induction f with
  | zero =>
    intro i fr ot s so hi hfr hs hot he hsf hpd hun hor hend hsn
    rw [rwN]
    intro k k1 k2
    rcases hend (by omega) with g | g
    · exact hpd k k1 (by omega) k2
    · omega
  | succ f ih =>
    intro i fr ot s so hi hfr hs hot he hsf hpd hun hor hend hsn
    rw [rwN]
    by_cases h : flP T U P i = -1
    · rw [if_pos h]
      have li : i < T.length := by
        unfold flP at h
        split at h
        · assumption
        · omega
      have e : P i = -1 := by unfold flP at h; rw [if_pos li] at h; exact h
      refine ih (i + 1) fr ot s so (by omega) (by omega) hs (fun _ => hot (by omega)) he hsf hpd (fun k k1 k2 k3 => ?_) (fun j j1 j2 j3 => hor j (by omega) j2 j3) (fun z => by omega) hsn
      by_cases e2 : k = i
      · subst e2; exact e
      · exact hun k k1 (by omega) k3
    · rw [if_neg h]
      have fp : (ot : Int) ≤ flP T U P i ∧ flP T U P i ≤ U.length := by
        unfold flP at h ⊢
        split
        · rename_i li
          rw [if_pos li] at h
          have r := (hP.1 i li).resolve_left h
          exact ⟨hor i (Nat.le_refl _) li h, by omega⟩
        · have := hot (by omega)
          exact ⟨by omega, Int.le_refl _⟩
      have lst : i < T.length → P i = ((flP T U P i).toNat : Int) := fun li => by
        have e3 : flP T U P i = P i := by unfold flP; rw [if_pos li]
        rw [e3] at fp ⊢; omega
      have lt' : i < T.length → flP T U P i < U.length := fun li => by
        have e3 : flP T U P i = P i := by unfold flP; rw [if_pos li]
        rw [e3] at h ⊢
        have r := (hP.1 i li).resolve_left h; omega
      have nxt : ∀ j, i + 1 ≤ j → j < T.length → P j ≠ -1 → (((flP T U P i).toNat + 1 : Nat) : Int) ≤ P j := fun j j1 j2 j3 => by
        have li : i < T.length := by omega
        have e3 : flP T U P i = P i := by unfold flP; rw [if_pos li]
        have := hP.2 i j (by omega) j2 (by rw [← e3]; exact h) j3
        rw [e3] at fp ⊢; omega
      by_cases g : fr < i ∨ (ot : Int) < flP T U P i
      · rw [if_pos g]
        refine ⟨⟨hs, hfr, by omega⟩, ⟨he, by omega⟩, by omega, hsf, fun k k1 k2 => hpd k k1 k2 (by omega), fun k k1 k2 => hun k k1 k2 (by omega), lst, ?_⟩
        refine ih (i + 1) (i + 1) ((flP T U P i).toNat + 1) i (flP T U P i).toNat (by omega) (Nat.le_refl _) (by omega) (fun z => by have := lt' (by omega); omega) (by omega) (Or.inl (by omega)) (fun k k1 k2 k3 => ?_) (fun k k1 k2 => by omega) nxt (fun z => Or.inr (by omega)) (by omega)
        have e2 : k = i := by omega
        subst e2
        rw [lst k3]; omega
      · rw [if_neg g, List.nil_append]
        have e1 : fr = i := by omega
        have e2 : (flP T U P i).toNat = ot := by omega
        refine ih (i + 1) (i + 1) ((flP T U P i).toNat + 1) s so (by omega) (Nat.le_refl _) (by omega) (fun z => by have := lt' (by omega); omega) (by omega) (Or.inl (by omega)) (fun k k1 k2 k3 => ?_) (fun k k1 k2 => by omega) nxt (fun z => Or.inl (by omega)) hsn
        by_cases e3 : k = i
        · subst e3
          rw [lst k3]; omega
        · exact hpd k k1 (by omega) k3
/-- contexts ahead -/
theorem ca_eq {P : Nat → Int} {ctx s so fr ot : Nat} (h1 : s ≤ fr) (h2 : ot + s = so + fr) (h3 : ∀ k, s ≤ k → k < fr → P k = (so : Int) + ((k : Int) - s)) (st : s = 0 ∨ so = 0 ∨ P (s - 1) ≠ (so : Int) - 1) : ∀ (f c : Nat), c + f = ctx → c ≤ fr - s → caN P ctx fr ot f c = min ctx (fr - s) := by
  intro f
  induction f with
  | zero => intro c hc hl; rw [caN]; omega
  | succ f ih =>
    intro c hc hl
    rw [caN]
    by_cases e : c = fr - s
    · rw [if_neg]
      · omega
      · intro z
        rcases st with g | g | g
        · omega
        · omega
        · apply g
          have := z.2.2.2
          rw [show fr - c - 1 = s - 1 by omega] at this
          omega
    · rw [if_pos]
      · exact ih (c + 1) (by omega) (by omega)
      · have := h3 (fr - c - 1) (by omega) (by omega)
        refine ⟨by omega, by omega, by omega, ?_⟩
        rw [this]; omega
theorem cb_eq {P : Nat → Int} {n ctx i pr e : Nat} (h1 : i ≤ e) (h2 : e ≤ n) (h3 : ∀ k, i ≤ k → k < e → P k = (pr : Int) + ((k : Int) - i)) (st : e < n → P e ≠ (pr : Int) + ((e : Int) - i)) : ∀ (f c : Nat), c + f = ctx → c ≤ e - i → cbN P n ctx i pr f c = min ctx (e - i) := by
  intro f
  induction f with
  | zero => intro c hc hl; rw [cbN]; omega
  | succ f ih =>
    intro c hc hl
    rw [cbN]
    by_cases g : c = e - i
    · rw [if_neg]
      · omega
      · intro z
        apply st (by omega)
        have := z.2.2
        rw [show i + c = e by omega] at this
        omega
    · rw [if_pos]
      · exact ih (c + 1) (by omega) (by omega)
      · have := h3 (i + c) (by omega) (by omega)
        refine ⟨by omega, by omega, ?_⟩
        rw [this]; omega
/-- where the hunk behind begins -/
def nxF (n : Nat) : List Q4 → Nat
  | [] => n
  | q :: _ => q.1
/-- where the hunk ahead ends -/
def stF0 (s : Nat) (R : List Q4) (j : Nat) : Nat := match j with | 0 => s | j' + 1 => (R.getD j' (0, 0, 0, 0)).2.1
/-- contexts of all hunks, as the reference counts them -/
theorem QG.ctx {P : Nat → Int} {n ctx : Nat} : ∀ (r : List Q4) (s so : Nat), QG P n s so r → (s = 0 ∨ so = 0 ∨ P (s - 1) ≠ (so : Int) - 1) → s ≤ n → ∀ (j : Nat) (q : Q4), r[j]? = some q → (q.1 ≤ q.2.1 ∧ q.2.1 ≤ n ∧ q.2.2.1 ≤ q.2.2.2 ∧ q.2.1 ≤ nxF n (r.drop (j + 1)) ∧ nxF n (r.drop (j + 1)) ≤ n) ∧ stF0 s r j ≤ q.1 ∧ caN P ctx q.1 q.2.2.1 ctx 0 = min ctx (q.1 - stF0 s r j) ∧ cbN P n ctx q.2.1 q.2.2.2 ctx 0 = min ctx (nxF n (r.drop (j + 1)) - q.2.1)
  | [], s, so, _, _, _, j, q, h => by cases h
  | (fr, i, ot, pr) :: r, s, so, h, st, hsn, j, q, hj => by
    obtain ⟨⟨a1, a2, a3⟩, ⟨b1, b2⟩, c, d, e, f, g, hr⟩ := h
    have st2 : i = 0 ∨ pr = 0 ∨ P (i - 1) ≠ (pr : Int) - 1 := by
      by_cases e1 : fr < i
      · by_cases z0 : pr = 0
        · exact Or.inr (Or.inl z0)
        · exact Or.inr (Or.inr (by rw [f (i - 1) (by omega) (by omega)]; omega))
      · have e2 : fr = i := by omega
        rcases d with d | d
        · exact Or.inr (Or.inr (by rw [e (i - 1) (by omega) (by omega)]; omega))
        · by_cases z : s = fr
          · exact Or.inl (by omega)
          · exact Or.inr (Or.inr (by rw [e (i - 1) (by omega) (by omega)]; omega))
    cases j with
    | zero =>
      have eq : (fr, i, ot, pr) = q := Option.some.inj hj
      subst eq
      have nb : i ≤ nxF n r ∧ nxF n r ≤ n ∧ (∀ k, i ≤ k → k < nxF n r → P k = (pr : Int) + ((k : Int) - i)) ∧ (nxF n r < n → P (nxF n r) ≠ (pr : Int) + ((nxF n r : Int) - i)) := by
        cases r with
        | nil => exact ⟨a3, Nat.le_refl _, hr, fun z => absurd z (Nat.lt_irrefl _)⟩
        | cons q2 r2 =>
          obtain ⟨fr2, i2, ot2, pr2⟩ := q2
          obtain ⟨⟨a1', a2', a3'⟩, ⟨b1', b2'⟩, c', d', e', f', g', hr'⟩ := hr
          refine ⟨a1', by show fr2 ≤ n; omega, e', fun z => ?_⟩
          show P fr2 ≠ _
          have z' : fr2 < n := z
          show P fr2 ≠ (pr : Int) + ((fr2 : Int) - i)
          by_cases e1 : fr2 < i2
          · rw [f' fr2 (Nat.le_refl _) e1]; omega
          · have e2 : fr2 = i2 := by omega
            rw [e2, g' (by omega)]; omega
      exact ⟨⟨a2, a3, b2, nb.1, nb.2.1⟩, a1, ca_eq a1 b1 e st ctx 0 (by omega) (Nat.zero_le _), cb_eq nb.1 nb.2.1 nb.2.2.1 nb.2.2.2 ctx 0 (by omega) (Nat.zero_le _)⟩
    | succ j =>
      have hj' : r[j]? = some q := hj
      have ih := QG.ctx (ctx := ctx) r i pr hr st2 a3 j q hj'
      cases j with
      | zero => exact ih
      | succ j => exact ih
theorem rwN_len {T U : List (Int64 × Int)} {P : Nat → Int} : ∀ (f i fr ot : Nat), (rwN T U P f i fr ot).length ≤ f := by
  intro f
  induction f with
  | zero => intro i fr ot; rw [rwN]; exact Nat.le_refl _
  | succ f ih =>
    intro i fr ot
    rw [rwN]
    split
    · have := ih (i + 1) fr ot; omega
    · have := ih (i + 1) (i + 1) ((flP T U P i).toNat + 1)
      rw [List.length_append]
      split
      · rw [List.length_singleton]; omega
      · rw [List.length_nil]; omega
