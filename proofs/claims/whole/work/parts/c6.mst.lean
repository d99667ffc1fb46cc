/-! BY HAND: the reference's static methods -/
/-- a truth as an int -/
def bI (p : Prop) [Decidable p] : Int := if p then 1 else 0
theorem bI_t {p : Prop} [Decidable p] (h : p) : bI p = 1 := if_pos h
theorem bI_f {p : Prop} [Decidable p] (h : ¬ p) : bI p = 0 := if_neg h
theorem bI_r {p : Prop} [Decidable p] : bI p = 0 ∨ bI p = 1 := by unfold bI; split <;> omega
theorem bI_q {p : Prop} [Decidable p] : Q32 (bI p) := by unfold bI; split <;> exact ⟨by decide, by decide⟩
theorem bI_1 {p : Prop} [Decidable p] : (¬ bI p = 0) ↔ p := by unfold bI; split <;> simp_all
theorem bI_0 {p : Prop} [Decidable p] : bI p = 0 ↔ ¬ p := by unfold bI; split <;> simp_all
theorem bI_c {p q : Prop} [Decidable p] [Decidable q] (h : p ↔ q) : bI p = bI q := by
  unfold bI
  by_cases hp : p
  · rw [if_pos hp, if_pos (h.mp hp)]
  · rw [if_neg hp, if_neg (fun z => hp (h.mpr z))]
theorem iOf_and (y : Int64) : iOf (y &&& 255) = bAnd (iOf y) 255 := by
  unfold iOf bAnd
  rw [Int64.toInt32_and, Int32.ofInt_toInt]
  rfl
/-- the letters of a line -/
def lcG (x : Int64) : Nat → Nat → Nat → Nat
  | 0, _, n => n
  | f + 1, i, n => lcG x f (i + 1) (n + if 97 ≤ sg x i ∧ sg x i ≤ 122 then 1 else 0)
def lcN (x : Int64) : Nat := lcG x 8 0 0
theorem lcG_le (x : Int64) : ∀ f i n, lcG x f i n ≤ n + f
  | 0, i, n => Nat.le_refl _
  | f + 1, i, n => by
    simp only [lcG]
    have := lcG_le x f (i + 1) (n + if 97 ≤ sg x i ∧ sg x i ≤ 122 then 1 else 0)
    have h2 : (if 97 ≤ sg x i ∧ sg x i ≤ 122 then 1 else 0) ≤ (1 : Nat) := by split <;> omega
    omega
theorem lcN_le (x : Int64) : lcN x ≤ 8 := by have := lcG_le x 8 0 0; unfold lcN; omega
/-- whether it is one, as the reference asks -/
def mlG (x : Int64) (n : Nat) : Nat → Nat → Bool
  | 0, _ => true
  | f + 1, i => (if i < n then decide (sg x i = 32 ∨ 97 ≤ sg x i ∧ sg x i ≤ 122) else decide (sg x i = 0)) && mlG x n f (i + 1)
def mlL (x : Int64) : Bool := decide (0 < lcN x) && mlG x (lenL x) 8 0
def baG (x : Int64) : Nat → Nat → Int64 → Nat → Int64
  | 0, _, a, _ => a
  | f + 1, i, a, c => if 97 ≤ sg x i ∧ sg x i ≤ 122 then baG x f (i + 1) (a ||| lShl (lOf (sg x i)) (8 * c)) (c + 1) else baG x f (i + 1) a c
def baL (x : Int64) : Int64 := baG x 8 0 0 0
/-- the depth of a line -/
def dmG (x : Int64) : Nat → Nat → Nat
  | 0, n => n
  | f + 1, n => if sg x n = 32 then dmG x f (n + 1) else n
def dmL (x : Int64) : Nat := dmG x 8 0
theorem dmG_le (x : Int64) : ∀ f n, dmG x f n ≤ n + f
  | 0, n => Nat.le_refl _
  | f + 1, n => by
    simp only [dmG]
    split
    · have := dmG_le x f (n + 1); omega
    · omega
theorem dmL_le (x : Int64) : dmL x ≤ 8 := by have := dmG_le x 8 0; unfold dmL; omega
section MST
variable {Ω : Om} {x : Int64}
theorem k_in {v l h : Int} (q1 : Q32 v) (q2 : Q32 l) (q3 : Q32 h) : MPi Ω M_Mdl_in rm_Mdl_in (fun y => y = bI (l ≤ v ∧ v ≤ h)) [xi v, xi l, xi h] := fun σ =>
  e_Mdl_in (b_Mdl_in_0 ⟨q1, q2, fun c => r_Mdl_in_15 (Or.inl rfl) ⟨_, rfl, rfl, (bI_f (fun z => by omega)).symm⟩ (by decide) (by decide), fun c => ⟨q3, fun c2 => r_Mdl_in_15 (Or.inl rfl) ⟨_, rfl, rfl, (bI_f (fun z => by omega)).symm⟩ (by decide) (by decide), fun c2 => r_Mdl_in_15 (Or.inr rfl) ⟨_, rfl, rfl, (bI_t ⟨by omega, by omega⟩).symm⟩ (by decide) (by decide)⟩⟩)
theorem k_isPerson {v : Int} (q1 : Q32 v) : MPi Ω M_Mdl_isPerson rm_Mdl_isPerson (fun y => y = bI (isP v)) [xi v] := fun σ => by
  refine e_Mdl_isPerson (b_Mdl_isPerson_0 ?_)
  refine c_Mdl_isPerson_3 (k_in q1 ⟨by decide, by decide⟩ ⟨by decide, by decide⟩ σ) (by decide) (by decide) (by first | decide | omega) (by first | decide | omega) (Nat.le_of_ble_eq_true rfl) (fun y σ1 hq => ?_) (fun _ _ hx => hx.elim)
  obtain ⟨rfl, rfl⟩ := hq
  refine r_Mdl_isPerson_6 bI_r ⟨_, rfl, rfl, bI_c ?_⟩ (by decide) (by decide)
  show 0 ≤ v ∧ v ≤ 5 ↔ 0 ≤ v ∧ v < 6
  omega
theorem k_signAt {i : Int} (h : Q32 i) : MPi Ω M_Mdl_signAt rm_Mdl_signAt (fun y => y = if i ≤ 7 then sg x i else 0) [xl x, xi i] := fun σ => by
  refine e_Mdl_signAt (b_Mdl_signAt_0 ⟨h, fun c => ?_, fun c => ?_⟩)
  · rw [iOf_and]
    exact r_Mdl_signAt_21 ⟨_, rfl, rfl, by rw [if_pos c]; rfl⟩ (by decide) (by decide)
  · exact r_Mdl_signAt_21 ⟨_, rfl, rfl, by rw [if_neg c]⟩ (by decide) (by decide)
theorem rlen_loop {σ : Sto} : ∀ (f n : Nat), n + f = 8 → Aw Ω M_Mdl_length rm_Mdl_length (MF Ω rm_Mdl_length (RI fun r σ' => σ' = σ ∧ r = lenG x f n) XN) 0 0 2 [xl x, xu, xi n] [] σ := by
  intro f
  induction f with
  | zero =>
    intro n hn
    refine b_Mdl_length_2 ⟨by omega, fun c => ?_, fun c => absurd c (by omega)⟩
    exact r_Mdl_length_23 ⟨_, rfl, rfl, rfl⟩ (by decide) (by decide)
  | succ f ih =>
    intro n hn
    refine b_Mdl_length_2 ⟨by omega, fun c => absurd c (by omega), fun c => ?_⟩
    refine c_Mdl_length_10 (k_signAt (by omega) σ) (by decide) (by decide) (by first | decide | omega) (by first | decide | omega) (Nat.le_of_ble_eq_true rfl) (fun y σ1 hq => ?_) (fun _ _ hx => hx.elim)
    obtain ⟨rfl, rfl⟩ := hq
    rw [if_pos (show (n : Int) ≤ 7 by omega)]
    have hr := sg_r x n
    refine b_Mdl_length_13 ⟨by omega, fun c => ?_, fun c => ?_⟩
    · refine r_Mdl_length_23 ⟨_, rfl, rfl, ?_⟩ (by decide) (by decide)
      rw [lenG, if_pos c]
    · have := ih (n + 1) (by omega)
      rw [lenG, if_neg c]
      exact this
theorem k_length : MPi Ω M_Mdl_length rm_Mdl_length (fun y => y = lenL x) [xl x] := fun σ =>
  e_Mdl_length (b_Mdl_length_0 (rlen_loop 8 0 rfl))
theorem mlet_loop {σ : Sto} : ∀ (f i n : Nat), i + f = 8 → n ≤ i → Aw Ω M_Mdl_letters rm_Mdl_letters (MF Ω rm_Mdl_letters (RI fun r σ' => σ' = σ ∧ r = lcG x f i n) XN) 0 0 4 [xl x, xu, xi n, xi i] [] σ := by
  intro f
  induction f with
  | zero =>
    intro i n hi hn
    refine b_Mdl_letters_4 ⟨by omega, fun c => ?_, fun c => absurd c (by omega)⟩
    exact r_Mdl_letters_40 ⟨_, rfl, rfl, rfl⟩ (by decide) (by decide)
  | succ f ih =>
    intro i n hi hn
    refine b_Mdl_letters_4 ⟨by omega, fun c => absurd c (by omega), fun c => ?_⟩
    refine c_Mdl_letters_13 (k_signAt (by omega) σ) (by decide) (by decide) (by first | decide | omega) (by first | decide | omega) (Nat.le_of_ble_eq_true rfl) (fun y σ1 hq => ?_) (fun _ _ hx => hx.elim)
    obtain ⟨rfl, rfl⟩ := hq
    rw [if_pos (show (i : Int) ≤ 7 by omega)]
    have hr := sg_r x i
    refine b_Mdl_letters_16 ?_
    refine c_Mdl_letters_20 (k_in (by omega) (by omega) (by omega) σ1) (by decide) (by decide) (by first | decide | omega) (by first | decide | omega) (Nat.le_of_ble_eq_true rfl) (fun y σ2 hq => ?_) (fun _ _ hx => hx.elim)
    obtain ⟨rfl, rfl⟩ := hq
    refine b_Mdl_letters_23 ⟨bI_q, fun c => ?_, fun c => ?_⟩
    · have := ih (i + 1) n (by omega) (by omega)
      rw [lcG, if_neg (bI_0.mp c)]
      rw [show (n : Int) + 0 = n from Int.add_zero _]
      exact this
    · have := ih (i + 1) (n + 1) (by omega) (by omega)
      rw [lcG, if_pos (bI_1.mp c)]
      exact this
theorem k_letters : MPi Ω M_Mdl_letters rm_Mdl_letters (fun y => y = lcN x) [xl x] := fun σ =>
  e_Mdl_letters (b_Mdl_letters_0 (mlet_loop 8 0 0 rfl (Nat.le_refl _)))
theorem misl_loop {σ : Sto} {n : Nat} (hn : n ≤ 8) : ∀ (f i : Nat) (b : Bool), i + f = 8 → Aw Ω M_Mdl_isLine rm_Mdl_isLine (MF Ω rm_Mdl_isLine (RI fun r σ' => σ' = σ ∧ r = bI ((b && mlG x n f i) = true)) XN) 0 0 21 [xl x, xu, xi n, xi (if b = true then 1 else 0), xi i, xu] [] σ := by
  intro f
  induction f with
  | zero =>
    intro i b hi
    refine b_Mdl_isLine_21 ⟨by omega, fun c => ?_, fun c => absurd c (by omega)⟩
    refine r_Mdl_isLine_86 (by cases b <;> simp) ⟨_, rfl, rfl, ?_⟩ (by decide) (by decide)
    simp only [mlG, Bool.and_true]
    rfl
  | succ f ih =>
    intro i b hi
    have hb : Q32 (if b = true then 1 else 0) := by split <;> exact ⟨by decide, by decide⟩
    have t : ∀ b' : Bool, (b && mlG x n (f + 1) i) = (b' && mlG x n f (i + 1)) → Aw Ω M_Mdl_isLine rm_Mdl_isLine (MF Ω rm_Mdl_isLine (RI fun r σ' => σ' = σ ∧ r = bI ((b && mlG x n (f + 1) i) = true)) XN) 0 0 21 [xl x, xu, xi n, xi (if b' = true then 1 else 0), xi ((i : Int) + 1), xu] [] σ := fun b' e => by
      rw [e]
      exact ih (i + 1) b' (by omega)
    refine b_Mdl_isLine_21 ⟨by omega, fun c => absurd c (by omega), fun c => ?_⟩
    refine c_Mdl_isLine_31 (k_signAt (by omega) σ) (by decide) (by decide) (by first | decide | omega) (by first | decide | omega) (Nat.le_of_ble_eq_true rfl) (fun y σ1 hq => ?_) (fun _ _ hx => hx.elim)
    obtain ⟨rfl, rfl⟩ := hq
    rw [if_pos (show (i : Int) ≤ 7 by omega)]
    have hr := sg_r x i
    refine b_Mdl_isLine_34 ⟨hb, fun c1 => ?_, fun c1 => ⟨by omega, by omega, fun c2 => ⟨by omega, fun c3 => ?_, fun c3 => ?_⟩, fun c2 => ⟨by omega, fun c3 => ?_, fun c3 => ?_⟩⟩⟩
    · have e : b = false := by cases b <;> simp at c1 ⊢
      exact t false (by rw [e] <;> simp)
    · have e : b = true := by cases b <;> simp at c1 ⊢
      exact t false (by rw [mlG, if_neg (by omega), decide_eq_false c3] <;> simp)
    · have e : b = true := by cases b <;> simp at c1 ⊢
      exact t true (by rw [mlG, if_neg (by omega), decide_eq_true c3, e] <;> simp)
    · have e : b = true := by cases b <;> simp at c1 ⊢
      exact t true (by rw [mlG, if_pos (by omega), decide_eq_true (Or.inl c3), e] <;> simp)
    · have e : b = true := by cases b <;> simp at c1 ⊢
      refine c_Mdl_isLine_59 (k_in (by omega) (by omega) (by omega) σ1) (by decide) (by decide) (by first | decide | omega) (by first | decide | omega) (Nat.le_of_ble_eq_true rfl) (fun y σ2 hq => ?_) (fun _ _ hx => hx.elim)
      obtain ⟨rfl, rfl⟩ := hq
      refine b_Mdl_isLine_62 ⟨bI_q, fun c4 => ?_, fun c4 => ?_⟩
      · exact t false (by rw [mlG, if_pos (by omega), decide_eq_false (fun z => z.elim c3 (bI_0.mp c4))] <;> simp)
      · exact t true (by rw [mlG, if_pos (by omega), decide_eq_true (Or.inr (bI_1.mp c4)), e] <;> simp)
theorem k_isLine0 : MPi Ω M_Mdl_isLine rm_Mdl_isLine (fun y => y = bI (mlL x = true)) [xl x] := fun σ => by
  have h8 := lenL_le x
  have h9 := lcN_le x
  refine e_Mdl_isLine (b_Mdl_isLine_0 ?_)
  refine c_Mdl_isLine_1 (k_length σ) (by decide) (by decide) (by first | decide | omega) (by first | decide | omega) (Nat.le_of_ble_eq_true rfl) (fun y σ1 hq => ?_) (fun _ _ hx => hx.elim)
  obtain ⟨rfl, rfl⟩ := hq
  refine b_Mdl_isLine_4 ?_
  refine c_Mdl_isLine_6 (k_letters σ1) (by decide) (by decide) (by first | decide | omega) (by first | decide | omega) (Nat.le_of_ble_eq_true rfl) (fun y σ2 hq => ?_) (fun _ _ hx => hx.elim)
  obtain ⟨rfl, rfl⟩ := hq
  refine b_Mdl_isLine_9 ⟨by omega, fun c => ?_, fun c => ?_⟩
  · have := misl_loop (Ω := Ω) (x := x) (σ := σ2) h8 8 0 false rfl
    unfold mlL
    rw [decide_eq_false (by omega)]
    exact this
  · have := misl_loop (Ω := Ω) (x := x) (σ := σ2) h8 8 0 true rfl
    unfold mlL
    rw [decide_eq_true (by omega)]
    exact this
theorem mbar_loop {σ : Sto} : ∀ (f i : Nat) (a : Int64) (c : Nat), i + f = 8 → c ≤ i → Aw Ω M_Mdl_bare rm_Mdl_bare (MF Ω rm_Mdl_bare (RL fun r σ' => σ' = σ ∧ r = baG x f i a c) XN) 0 0 8 [xl x, xu, xl a, xu, xi c, xi i] [] σ := by
  intro f
  induction f with
  | zero =>
    intro i a c hi hc
    refine b_Mdl_bare_8 ⟨by omega, fun c => ?_, fun c => absurd c (by omega)⟩
    exact r_Mdl_bare_57 ⟨_, rfl, rfl, rfl⟩ (by decide) (by decide)
  | succ f ih =>
    intro i a c hi hc
    have hr := sg_r x i
    refine b_Mdl_bare_8 ⟨by omega, fun c9 => absurd c9 (by omega), fun c9 => ?_⟩
    refine c_Mdl_bare_18 (k_signAt (by omega) σ) (by decide) (by decide) (by first | decide | omega) (by first | decide | omega) (Nat.le_of_ble_eq_true rfl) (fun y σ1 hq => ?_) (fun _ _ hx => hx.elim)
    obtain ⟨rfl, rfl⟩ := hq
    rw [if_pos (show (i : Int) ≤ 7 by omega)]
    refine b_Mdl_bare_21 ?_
    refine c_Mdl_bare_25 (k_in (by omega) (by omega) (by omega) σ1) (by decide) (by decide) (by first | decide | omega) (by first | decide | omega) (Nat.le_of_ble_eq_true rfl) (fun y σ2 hq => ?_) (fun _ _ hx => hx.elim)
    obtain ⟨rfl, rfl⟩ := hq
    refine b_Mdl_bare_28 ⟨bI_q, fun c1 => ?_, fun c1 => ?_⟩
    · have := ih (i + 1) a c (by omega) (by omega)
      rw [baG, if_neg (bI_0.mp c1)]
      exact this
    · refine c_Mdl_bare_35 (k_signAt (by omega) σ2) (by decide) (by decide) (by first | decide | omega) (by first | decide | omega) (Nat.le_of_ble_eq_true rfl) (fun y σ3 hq => ?_) (fun _ _ hx => hx.elim)
      obtain ⟨rfl, rfl⟩ := hq
      rw [if_pos (show (i : Int) ≤ 7 by omega)]
      have := ih (i + 1) (a ||| lShl (lOf (sg x i)) (8 * c)) (c + 1) (by omega) (by omega)
      rw [baG, if_pos (bI_1.mp c1)]
      exact b_Mdl_bare_38 this
theorem k_bare : MPl Ω M_Mdl_bare rm_Mdl_bare (fun y => y = baL x) [xl x] := fun σ =>
  e_Mdl_bare (b_Mdl_bare_0 (mbar_loop 8 0 0 0 rfl (Nat.le_refl 0)))
theorem mdep_loop {σ : Sto} : ∀ (f n : Nat), n + f = 8 → Aw Ω M_Mdl_depth rm_Mdl_depth (MF Ω rm_Mdl_depth (RI fun r σ' => σ' = σ ∧ r = dmG x f n) XN) 0 0 2 [xl x, xu, xi n] [] σ := by
  intro f
  induction f with
  | zero =>
    intro n hn
    refine b_Mdl_depth_2 ?_
    refine c_Mdl_depth_4 (k_signAt (by omega) σ) (by decide) (by decide) (by first | decide | omega) (by first | decide | omega) (Nat.le_of_ble_eq_true rfl) (fun y σ1 hq => ?_) (fun _ _ hx => hx.elim)
    obtain ⟨rfl, rfl⟩ := hq
    rw [if_neg (show ¬ (n : Int) ≤ 7 by omega)]
    refine b_Mdl_depth_7 ⟨by decide, fun c => ?_, fun c => absurd c (by decide)⟩
    exact r_Mdl_depth_19 ⟨_, rfl, rfl, rfl⟩ (by decide) (by decide)
  | succ f ih =>
    intro n hn
    have hr := sg_r x n
    refine b_Mdl_depth_2 ?_
    refine c_Mdl_depth_4 (k_signAt (by omega) σ) (by decide) (by decide) (by first | decide | omega) (by first | decide | omega) (Nat.le_of_ble_eq_true rfl) (fun y σ1 hq => ?_) (fun _ _ hx => hx.elim)
    obtain ⟨rfl, rfl⟩ := hq
    rw [if_pos (show (n : Int) ≤ 7 by omega)]
    refine b_Mdl_depth_7 ⟨by omega, fun c => ?_, fun c => ?_⟩
    · refine r_Mdl_depth_19 ⟨_, rfl, rfl, ?_⟩ (by decide) (by decide)
      rw [dmG, if_neg c]
    · have := ih (n + 1) (by omega)
      rw [dmG, if_pos c]
      exact this
theorem k_depth : MPi Ω M_Mdl_depth rm_Mdl_depth (fun y => y = dmL x) [xl x] := fun σ =>
  e_Mdl_depth (b_Mdl_depth_0 (mdep_loop 8 0 rfl))
theorem k_least {a b c : Int} (q1 : Q32 a) (q2 : Q32 b) (q3 : Q32 c) : MPi Ω M_Mdl_least rm_Mdl_least (fun y => y = minI (minI a b) c) [xi a, xi b, xi c] := fun σ =>
  e_Mdl_least (b_Mdl_least_0 ⟨q1, q2, fun c1 => ⟨q3, fun c2 => r_Mdl_least_21 ⟨_, rfl, rfl, by unfold minI; split <;> split <;> omega⟩ (by decide) (by decide), fun c2 => r_Mdl_least_21 ⟨_, rfl, rfl, by unfold minI; split <;> split <;> omega⟩ (by decide) (by decide)⟩, fun c1 => ⟨q3, fun c2 => r_Mdl_least_21 ⟨_, rfl, rfl, by unfold minI; split <;> split <;> omega⟩ (by decide) (by decide), fun c2 => r_Mdl_least_21 ⟨_, rfl, rfl, by unfold minI; split <;> split <;> omega⟩ (by decide) (by decide)⟩⟩)
end MST
