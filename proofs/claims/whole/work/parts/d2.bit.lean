/-! BY HAND: bits of small ints -/
theorem ofN {n : Nat} (h : n < 2 ^ 31) : Int32.ofInt (n : Int) = nI n := Int32.toInt_inj.mp (by rw [nI_toInt h, R32.toInt ⟨by omega, by omega⟩])
theorem bShr_n {x k : Nat} (hx : x < 2 ^ 31) (hk : k < 31) : bShr (x : Int) (k : Int) = (x / 2 ^ k : Nat) := by
  unfold bShr
  have e : ∀ k : Nat, k < 31 → (Int32.ofInt (k : Int) &&& 31) = Int32.ofInt (k : Int) := by decide
  have e2 : ∀ k : Nat, k < 31 → ((Int32.ofInt (k : Int)).toBitVec.smod 32).toNat = k := by decide
  rw [e k hk, ← Int32.toInt_toBitVec, Int32.toBitVec_shiftRight, BitVec.sshiftRight_eq', BitVec.toInt_sshiftRight, e2 k hk, Int32.toInt_toBitVec, R32.toInt ⟨by omega, by omega⟩, Int.shiftRight_eq_div_pow]
  exact (Int.natCast_ediv x (2 ^ k)).symm
theorem toN_ofI {y : Nat} (h : y < 2 ^ 31) : (Int32.ofInt (y : Int)).toBitVec.toNat = y := by
  rw [Int32.toBitVec_ofInt, BitVec.toNat_ofInt]
  omega
theorem bAnd_1 {y : Nat} (h : y < 2 ^ 31) : bAnd (y : Int) 1 = (y % 2 : Nat) := by
  unfold bAnd
  rw [pk_and _ 1 (by decide), toN_ofI h, nI_toInt (by omega)]
theorem bShl_1 : ∀ n : Nat, n < 31 → bShl 1 (n : Int) = ((2 ^ n : Nat) : Int) := by decide
theorem bOr_n {x y : Nat} (hx : x < 2 ^ 30) (hy : y < 2 ^ 30) : bOr (x : Int) (y : Int) = ((x ||| y : Nat) : Int) := by
  unfold bOr
  have h : x ||| y < 2 ^ 30 := Nat.or_lt_two_pow hx hy
  have e : (Int32.ofInt (x : Int) ||| Int32.ofInt (y : Int)) = nI (x ||| y) := by
    apply Int32.toBitVec_inj.mp
    apply BitVec.eq_of_toNat_eq
    rw [Int32.toBitVec_or, BitVec.toNat_or, toN_ofI (by omega), toN_ofI (by omega), ← ofN (by omega), toN_ofI (by omega)]
  rw [e, nI_toInt (by omega)]
/-- which are settled, as bits -/
def stN : List Cnl → Nat
  | [] => 0
  | c :: cl => (if cnS c = 0 then 0 else 1) + 2 * stN cl
theorem stB_N : ∀ cl : List Cnl, stB cl = (stN cl : Int)
  | [] => rfl
  | c :: cl => by
    simp only [stB, stN, stB_N cl]
    split <;> omega
theorem stN_lt : ∀ cl : List Cnl, stN cl < 2 ^ cl.length
  | [] => by decide
  | c :: cl => by
    have h := stN_lt cl
    simp only [stN, List.length_cons, Nat.pow_succ]
    split <;> omega
theorem stN_21 {cl : List Cnl} (h : cl.length ≤ 21) : stN cl < 2 ^ 21 := Nat.lt_of_lt_of_le (stN_lt cl) (Nat.pow_le_pow_right (by decide) h)
def stt (c : Cnl) : Bool := decide (cnS c ≠ 0)
theorem stN_bit : ∀ (cl : List Cnl) (i : Nat), (stN cl).testBit i = (cl[i]?).any stt
  | [], i => by simp [stN]
  | c :: cl, 0 => by
    simp only [stN, Nat.testBit_zero, List.getElem?_cons_zero, Option.any_some, stt]
    split <;> rename_i h <;> simp [h] <;> omega
  | c :: cl, i + 1 => by
    rw [Nat.testBit_succ, List.getElem?_cons_succ, ← stN_bit cl i]
    congr 1
    simp only [stN]
    split <;> omega
theorem stB_at {cl : List Cnl} (h : cl.length ≤ 21) {i : Nat} {c : Cnl} (hc : cl[i]? = some c) : bAnd (bShr (stB cl) (i : Int)) 1 = if cnS c = 0 then 0 else 1 := by
  have h1 := stN_21 h
  have hi := (List.getElem?_eq_some_iff.mp hc).1
  have h2 := stN_bit cl i
  rw [hc, Nat.testBit_eq_decide_div_mod_eq] at h2
  have h3 : stN cl / 2 ^ i ≤ stN cl := Nat.div_le_self _ _
  rw [stB_N, bShr_n (by omega) (by omega), bAnd_1 (by omega)]
  simp only [Option.any_some, stt] at h2
  have h4 : stN cl / 2 ^ i % 2 = 1 ↔ cnS c ≠ 0 := by
    have := decide_eq_decide.mp h2
    exact this
  by_cases e : cnS c = 0
  · rw [if_pos e]
    have : ¬ stN cl / 2 ^ i % 2 = 1 := fun z => (h4.mp z) e
    omega
  · rw [if_neg e]
    have := h4.mpr e
    omega
theorem stN_all {cl : List Cnl} : stN cl = 2 ^ cl.length - 1 ↔ opn cl = 0 := by
  unfold opn
  rw [List.countP_eq_zero]
  constructor
  · intro h c hc
    obtain ⟨i, hi, rfl⟩ := List.mem_iff_getElem.mp hc
    have h2 := stN_bit cl i
    rw [h, Nat.testBit_two_pow_sub_one, List.getElem?_eq_getElem hi, Option.any_some, decide_eq_true hi] at h2
    simp only [stt] at h2
    simpa using h2.symm
  · intro h
    apply Nat.eq_of_testBit_eq
    intro i
    rw [stN_bit, Nat.testBit_two_pow_sub_one]
    by_cases hi : i < cl.length
    · rw [List.getElem?_eq_getElem hi, Option.any_some, decide_eq_true hi]
      have := h _ (List.getElem_mem hi)
      simpa [stt] using this
    · rw [List.getElem?_eq_none (by omega), Option.any_none, decide_eq_false hi]
theorem stB_all {cl : List Cnl} (h : cl.length ≤ 21) : stB cl = bShl 1 (cl.length : Int) - 1 ↔ opn cl = 0 := by
  have h2 := Nat.two_pow_pos cl.length
  rw [stB_N, bShl_1 _ (by omega), ← stN_all]
  constructor
  · intro e; omega
  · intro e; omega
theorem stB_set {cl : List Cnl} (h : cl.length ≤ 21) {i : Nat} {c c' : Cnl} (hc : cl[i]? = some c) (h1 : cnS c' ≠ 0) : bOr (stB cl) (bShl 1 (i : Int)) = stB (cl.set i c') := by
  have hi := (List.getElem?_eq_some_iff.mp hc).1
  have g1 := stN_21 h
  have g2 : 2 ^ i < 2 ^ 30 := Nat.pow_lt_pow_right (by decide) (by omega)
  rw [stB_N, bShl_1 _ (by omega), bOr_n (by omega) g2, stB_N]
  congr 1
  apply Nat.eq_of_testBit_eq
  intro j
  rw [Nat.testBit_or, stN_bit, stN_bit, Nat.testBit_two_pow, List.getElem?_set]
  by_cases e : i = j
  · subst e
    rw [if_pos rfl, if_pos hi, hc]
    simp [stt, h1]
  · rw [if_neg e, decide_eq_false e, Bool.or_false]
theorem stB_q {cl : List Cnl} (h : cl.length ≤ 21) : Q32 (stB cl) ∧ Q32 (bShl 1 (cl.length : Int) - 1) := by
  have g1 := stN_21 h
  have g2 : 2 ^ cl.length ≤ 2 ^ 21 := Nat.pow_le_pow_right (by decide) h
  have g3 := Nat.two_pow_pos cl.length
  rw [stB_N, bShl_1 _ (by omega)]
  omega
