/-! BY HAND: the signs of a line, in the class -/
def sg (x : Int64) (i : Int) : Int := bAnd (iOf (lUsh x (8 * i))) 255
theorem bAnd_r (y : Int) {m : Int} (k : Nat) (hm : (Int32.ofInt m).toBitVec.toNat = 2 ^ k - 1) (hk : k ≤ 30) : 0 ≤ bAnd y m ∧ bAnd y m < 2 ^ k := by
  unfold bAnd
  rw [pk_and _ k hm]
  have h1 : (Int32.ofInt y).toBitVec.toNat % 2 ^ k < 2 ^ k := Nat.mod_lt _ (Nat.two_pow_pos k)
  have h2 : 2 ^ k ≤ 2 ^ 30 := Nat.pow_le_pow_right (by decide) hk
  rw [nI_toInt (by omega)]
  refine ⟨by omega, ?_⟩
  have h3 := Int.ofNat_lt.mpr h1
  rw [Int.natCast_pow] at h3
  exact h3
theorem sg_r (x : Int64) (i : Int) : 0 ≤ sg x i ∧ sg x i < 256 := bAnd_r _ 8 (by decide) (by decide)
def lenG (x : Int64) : Nat → Nat → Nat
  | 0, n => n
  | f + 1, n => if sg x n = 0 then n else lenG x f (n + 1)
def lenL (x : Int64) : Nat := lenG x 8 0
theorem lenG_le (x : Int64) : ∀ f n, lenG x f n ≤ n + f
  | 0, n => Nat.le_refl _
  | f + 1, n => by
    simp only [lenG]
    split
    · omega
    · have := lenG_le x f (n + 1); omega
theorem lenL_le (x : Int64) : lenL x ≤ 8 := by have := lenG_le x 8 0; unfold lenL; omega
def isLet (s : Int) : Prop := 97 ≤ s ∧ s ≤ 122
def ilG (x : Int64) : Nat → Nat → Nat → Bool → Bool
  | 0, _, l, _ => decide (0 < l)
  | f + 1, i, l, o => if sg x i = 0 then ilG x f (i + 1) l true else if o = true ∨ (¬ (97 ≤ sg x i ∧ sg x i ≤ 122) ∧ sg x i ≠ 32) then false else ilG x f (i + 1) (l + if 97 ≤ sg x i ∧ sg x i ≤ 122 then 1 else 0) o
def isLn (x : Int64) : Bool := ilG x 8 0 0 false
def ltG (x : Int64) : Nat → Nat → Int64 → Nat → Int64
  | 0, _, a, _ => a
  | f + 1, i, a, c => if sg x i ≠ 0 ∧ sg x i ≠ 32 then ltG x f (i + 1) (a ||| lShl (lOf (sg x i)) (8 * c)) (c + 1) else ltG x f (i + 1) a c
def ltL (x : Int64) : Int64 := ltG x 8 0 0 0
def dpG (x : Int64) : Nat → Nat → Nat
  | 0, n => n
  | f + 1, n => if sg x n = 32 then dpG x f (n + 1) else n
def dpL (x : Int64) : Nat := dpG x 7 0
theorem dpG_le (x : Int64) : ∀ f n, dpG x f n ≤ n + f
  | 0, n => Nat.le_refl _
  | f + 1, n => by
    simp only [dpG]
    split
    · have := dpG_le x f (n + 1); omega
    · omega
section SGN
variable {Ω : Om} {σ : Sto} {x : Int64}
theorem k_Lbk_signAt {i : Int} : MC Ω M_Lbk_signAt rm_Lbk_signAt (RI fun r σ' => σ' = σ ∧ r = sg x i) XN σ [xl x, xi i] :=
  e_Lbk_signAt (b_Lbk_signAt_0 (r_Lbk_signAt_11 ⟨_, rfl, rfl, rfl⟩ (by decide) (by decide)))
theorem len_loop : ∀ (f n : Nat), n + f = 8 → Aw Ω M_Lbk_lengthOf rm_Lbk_lengthOf (MF Ω rm_Lbk_lengthOf (RI fun r σ' => σ' = σ ∧ r = lenG x f n) XN) 0 0 2 [xl x, xu, xi n] [] σ := by
  intro f
  induction f with
  | zero =>
    intro n hn
    refine b_Lbk_lengthOf_2 ⟨by omega, fun c => ?_, fun c => absurd c (by omega)⟩
    exact r_Lbk_lengthOf_23 ⟨_, rfl, rfl, rfl⟩ (by decide) (by decide)
  | succ f ih =>
    intro n hn
    refine b_Lbk_lengthOf_2 ⟨by omega, fun c => absurd c (by omega), fun c => ?_⟩
    refine c_Lbk_lengthOf_10 (k_Lbk_signAt) (by decide) (by decide) (by first | decide | omega) (by first | decide | omega) (Nat.le_of_ble_eq_true rfl) (fun y σ1 hq => ?_) (fun _ _ hx => hx.elim)
    obtain ⟨rfl, rfl⟩ := hq
    have hr := sg_r x n
    refine b_Lbk_lengthOf_13 ⟨by omega, fun c => ?_, fun c => ?_⟩
    · refine r_Lbk_lengthOf_23 ⟨_, rfl, rfl, ?_⟩ (by decide) (by decide)
      rw [lenG, if_pos c]
    · have := ih (n + 1) (by omega)
      rw [lenG, if_neg c]
      exact this
theorem k_Lbk_lengthOf : MC Ω M_Lbk_lengthOf rm_Lbk_lengthOf (RI fun r σ' => σ' = σ ∧ r = lenL x) XN σ [xl x] :=
  e_Lbk_lengthOf (b_Lbk_lengthOf_0 (len_loop 8 0 rfl))
theorem dep_loop : ∀ (f n : Nat), n + f = 7 → Aw Ω M_Lbk_depthOf rm_Lbk_depthOf (MF Ω rm_Lbk_depthOf (RI fun r σ' => σ' = σ ∧ r = dpG x f n) XN) 0 0 2 [xl x, xu, xi n] [] σ := by
  intro f
  induction f with
  | zero =>
    intro n hn
    refine b_Lbk_depthOf_2 ⟨by omega, fun c => ?_, fun c => absurd c (by omega)⟩
    exact r_Lbk_depthOf_25 ⟨_, rfl, rfl, rfl⟩ (by decide) (by decide)
  | succ f ih =>
    intro n hn
    refine b_Lbk_depthOf_2 ⟨by omega, fun c => absurd c (by omega), fun c => ?_⟩
    refine c_Lbk_depthOf_10 (k_Lbk_signAt) (by decide) (by decide) (by first | decide | omega) (by first | decide | omega) (Nat.le_of_ble_eq_true rfl) (fun y σ1 hq => ?_) (fun _ _ hx => hx.elim)
    obtain ⟨rfl, rfl⟩ := hq
    have hr := sg_r x n
    refine b_Lbk_depthOf_13 ⟨by omega, fun c => ?_, fun c => ?_⟩
    · refine r_Lbk_depthOf_25 ⟨_, rfl, rfl, ?_⟩ (by decide) (by decide)
      rw [dpG, if_neg c]
    · have := ih (n + 1) (by omega)
      rw [dpG, if_pos c]
      exact this
theorem k_Lbk_depthOf : MC Ω M_Lbk_depthOf rm_Lbk_depthOf (RI fun r σ' => σ' = σ ∧ r = dpL x) XN σ [xl x] :=
  e_Lbk_depthOf (b_Lbk_depthOf_0 (dep_loop 7 0 rfl))
theorem lOf_0 {s : Int} (h : 0 ≤ s ∧ s < 256) (c : Int) (hc : 0 ≤ c ∧ c < 256) : cmpL (lOf s) (Int64.ofInt c) = 0 ↔ s = c := by
  rw [cmpL_0]
  unfold lOf
  have e1 : (Int32.ofInt s).toInt64.toInt = s := by rw [Int32.toInt_toInt64, R32.toInt ⟨by omega, by omega⟩]
  have e2 : (Int64.ofInt c).toInt = c := Int64.toInt_ofInt_of_le (by simp; omega) (by omega)
  constructor
  · intro h
    have := congrArg Int64.toInt h
    rwa [e1, e2] at this
  · intro h
    exact Int64.toInt_inj.mp (by rw [e1, e2]; exact h)
theorem let_loop : ∀ (f i : Nat) (a : Int64) (c : Nat), i + f = 8 → c ≤ i → Aw Ω M_Lbk_lettersOf rm_Lbk_lettersOf (MF Ω rm_Lbk_lettersOf (RL fun r σ' => σ' = σ ∧ r = ltG x f i a c) XN) 0 0 8 [xl x, xu, xl a, xu, xi c, xi i, xu, xu] [] σ := by
  intro f
  induction f with
  | zero =>
    intro i a c hi hc
    refine b_Lbk_lettersOf_8 ⟨by omega, fun c => ?_, fun c => absurd c (by omega)⟩
    exact r_Lbk_lettersOf_61 ⟨_, rfl, rfl, rfl⟩ (by decide) (by decide)
  | succ f ih =>
    intro i a c hi hc
    refine b_Lbk_lettersOf_8 ⟨by omega, fun c9 => absurd c9 (by omega), fun c9 => ?_⟩
    refine c_Lbk_lettersOf_18 (k_Lbk_signAt) (by decide) (by decide) (by first | decide | omega) (by first | decide | omega) (Nat.le_of_ble_eq_true rfl) (fun y σ1 hq => ?_) (fun _ _ hx => hx.elim)
    obtain ⟨rfl, rfl⟩ := hq
    have hr := sg_r x i
    have g0 := lOf_0 hr 0 (by omega)
    have g32 := lOf_0 hr 32 (by omega)
    refine b_Lbk_lettersOf_21 ⟨cmpL_r _ _, fun c1 => ?_, fun c1 => ⟨cmpL_r _ _, fun c2 => ?_, fun c2 => ?_⟩⟩
    · have e := g0.mp c1
      have := ih (i + 1) a c (by omega) (by omega)
      rw [ltG, if_neg (fun z => z.1 e)]
      exact this
    · have e := g32.mp c2
      have := ih (i + 1) a c (by omega) (by omega)
      rw [ltG, if_neg (fun z => z.2 e)]
      exact this
    · have := ih (i + 1) (a ||| lShl (lOf (sg x i)) (8 * c)) (c + 1) (by omega) (by omega)
      rw [ltG, if_pos ⟨fun z => c1 (g0.mpr z), fun z => c2 (g32.mpr z)⟩]
      exact this
theorem k_Lbk_lettersOf : MC Ω M_Lbk_lettersOf rm_Lbk_lettersOf (RL fun r σ' => σ' = σ ∧ r = ltL x) XN σ [xl x] :=
  e_Lbk_lettersOf (b_Lbk_lettersOf_0 (let_loop 8 0 0 0 rfl (Nat.le_refl 0)))
theorem isLn_loop : ∀ (f i l : Nat) (o : Bool), i + f = 8 → l ≤ i → Aw Ω M_Lbk_isLine rm_Lbk_isLine (MF Ω rm_Lbk_isLine (RI fun r σ' => σ' = σ ∧ r = if ilG x f i l o = true then 1 else 0) XN) 0 0 7 [xl x, xu, xi l, xi (if o = true then 1 else 0), xi i, xu, xu] [] σ := by
  intro f
  induction f with
  | zero =>
    intro i l o hi hl
    refine b_Lbk_isLine_7 ⟨by omega, fun c => ⟨by omega, fun c2 => ?_, fun c2 => ?_⟩, fun c => absurd c (by omega)⟩
    · refine r_Lbk_isLine_99 (Or.inl rfl) ⟨_, rfl, rfl, ?_⟩ (by decide) (by decide)
      rw [ilG, if_neg]; rw [decide_eq_true_eq]; omega
    · refine r_Lbk_isLine_99 (Or.inr rfl) ⟨_, rfl, rfl, ?_⟩ (by decide) (by decide)
      rw [ilG, if_pos]; rw [decide_eq_true_eq]; omega
  | succ f ih =>
    intro i l o hi hl
    have ho : Q32 (if o = true then 1 else 0) := by split <;> exact ⟨by decide, by decide⟩
    refine b_Lbk_isLine_7 ⟨by omega, fun c => absurd c (by omega), fun c => ?_⟩
    refine c_Lbk_isLine_17 (k_Lbk_signAt) (by decide) (by decide) (by first | decide | omega) (by first | decide | omega) (Nat.le_of_ble_eq_true rfl) (fun y σ1 hq => ?_) (fun _ _ hx => hx.elim)
    obtain ⟨rfl, rfl⟩ := hq
    have hr := sg_r x i
    have non : ¬ (97 ≤ sg x i ∧ sg x i ≤ 122) → Aw Ω M_Lbk_isLine rm_Lbk_isLine (MF Ω rm_Lbk_isLine (RI fun r σ' => σ' = σ1 ∧ r = if ilG x (f + 1) i l o = true then 1 else 0) XN) 0 0 40 [xl x, xu, xi l, xi (if o = true then 1 else 0), xi i, xi (sg x i), xu] [] σ1 := by
      intro hn
      refine b_Lbk_isLine_40 ⟨by omega, fun c0 => ⟨ho, fun c1 => ?_, fun c1 => ⟨fun c2 => ?_, fun c2 => ?_⟩⟩, fun c0 => ?_⟩
      · have e : o = true := by cases o <;> simp at c1 ⊢
        refine r_Lbk_isLine_70 (Or.inl rfl) ⟨_, rfl, rfl, ?_⟩ (by decide) (by decide)
        rw [ilG, if_neg c0, if_pos (Or.inl e)]; rfl
      · have e : o = false := by cases o <;> simp at c1 ⊢
        subst e
        have := ih (i + 1) l false (by omega) (by omega)
        rw [ilG, if_neg c0, if_neg (show ¬ (false = true ∨ (¬ (97 ≤ sg x i ∧ sg x i ≤ 122) ∧ sg x i ≠ 32)) from fun z => z.elim (fun z => by cases z) (fun z => z.2 c2)), if_neg hn]
        exact this
      · refine r_Lbk_isLine_70 (Or.inl rfl) ⟨_, rfl, rfl, ?_⟩ (by decide) (by decide)
        rw [ilG, if_neg c0, if_pos (Or.inr ⟨hn, c2⟩)]; rfl
      · have := ih (i + 1) l true (by omega) (by omega)
        rw [ilG, if_pos c0]
        exact this
    refine b_Lbk_isLine_20 ⟨by omega, fun c1 => non (by omega), fun c1 => ⟨fun c2 => non (by omega), fun c2 => ?_⟩⟩
    have hy : 97 ≤ sg x i ∧ sg x i ≤ 122 := by omega
    refine b_Lbk_isLine_41 ⟨by omega, fun c0 => ⟨ho, fun c1 => ?_, fun c1 => ⟨by omega, fun _ => ⟨fun c3 => absurd c3 (by decide), fun _ => ?_⟩, fun c3 => absurd c3 (by decide)⟩⟩, fun c0 => by omega⟩
    · have e : o = true := by cases o <;> simp at c1 ⊢
      refine r_Lbk_isLine_70 (Or.inl rfl) ⟨_, rfl, rfl, ?_⟩ (by decide) (by decide)
      rw [ilG, if_neg c0, if_pos (Or.inl e)]; rfl
    · have e : o = false := by cases o <;> simp at c1 ⊢
      subst e
      have := ih (i + 1) (l + 1) false (by omega) (by omega)
      rw [ilG, if_neg c0, if_neg (show ¬ (false = true ∨ (¬ (97 ≤ sg x i ∧ sg x i ≤ 122) ∧ sg x i ≠ 32)) from fun z => z.elim (fun z => by cases z) (fun z => z.1 hy)), if_pos hy]
      exact this
theorem k_Lbk_isLine : MC Ω M_Lbk_isLine rm_Lbk_isLine (RI fun r σ' => σ' = σ ∧ r = if isLn x = true then 1 else 0) XN σ [xl x] :=
  e_Lbk_isLine (b_Lbk_isLine_0 (isLn_loop 8 0 0 false rfl (Nat.le_refl 0)))
end SGN
