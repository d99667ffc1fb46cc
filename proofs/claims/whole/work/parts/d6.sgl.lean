/-! BY HAND: signs of lines: the class's words and the reference's are the same -/
theorem lenG_nz (x : Int64) : ∀ f n j : Nat, n ≤ j → j < lenG x f n → sg x j ≠ 0
  | 0, n, j, h1, h2 => by simp only [lenG] at h2; omega
  | f + 1, n, j, h1, h2 => by
    simp only [lenG] at h2
    by_cases c : sg x n = 0
    · rw [if_pos c] at h2; omega
    · rw [if_neg c] at h2
      by_cases e : j = n
      · rw [e]; exact c
      · exact lenG_nz x f (n + 1) j (by omega) h2
theorem lenG_z (x : Int64) : ∀ f n, lenG x f n < n + f → sg x (lenG x f n) = 0
  | 0, n, h => by simp only [lenG] at h; omega
  | f + 1, n, h => by
    simp only [lenG] at h ⊢
    by_cases c : sg x n = 0
    · rw [if_pos c]; exact c
    · rw [if_neg c] at h ⊢
      exact lenG_z x f (n + 1) (by omega)
theorem lenL_nz {x : Int64} {j : Nat} (h : j < lenL x) : sg x j ≠ 0 := lenG_nz x 8 0 j (Nat.zero_le _) h
theorem lenL_z {x : Int64} (h : lenL x < 8) : sg x (lenL x) = 0 := lenG_z x 8 0 (by unfold lenL at h; omega)
theorem lenL_is {x : Int64} {c : Nat} (hc : c ≤ 8) (h1 : ∀ j : Nat, j < c → sg x j ≠ 0) (h2 : c < 8 → sg x c = 0) : lenL x = c := by
  rcases Nat.lt_trichotomy (lenL x) c with h | h | h
  · exact absurd (lenL_z (by omega)) (h1 _ h)
  · exact h
  · have := lenL_le x
    exact absurd (h2 (by omega)) (lenL_nz h)
theorem lcG_s (x : Int64) (f i l : Nat) : lcG x (f + 1) i l = lcG x f (i + 1) (l + if 97 ≤ sg x i ∧ sg x i ≤ 122 then 1 else 0) := rfl
theorem mlG_s (x : Int64) (n f i : Nat) : mlG x n (f + 1) i = ((if i < n then decide (sg x i = 32 ∨ 97 ≤ sg x i ∧ sg x i ≤ 122) else decide (sg x i = 0)) && mlG x n f (i + 1)) := rfl
theorem ilG_s (x : Int64) (f i l : Nat) (o : Bool) : ilG x (f + 1) i l o = if sg x i = 0 then ilG x f (i + 1) l true else if o = true ∨ (¬ (97 ≤ sg x i ∧ sg x i ≤ 122) ∧ sg x i ≠ 32) then false else ilG x f (i + 1) (l + if 97 ≤ sg x i ∧ sg x i ≤ 122 then 1 else 0) o := rfl
theorem ilG_eq (x : Int64) : ∀ (f i l : Nat) (o : Bool), i + f = 8 → (o = true ↔ lenL x < i) → (ilG x f i l o = true ↔ 0 < lcG x f i l ∧ mlG x (lenL x) f i = true)
  | 0, i, l, o, hi, ho => by
    show decide (0 < l) = true ↔ 0 < l ∧ true = true
    rw [decide_eq_true_iff]
    exact ⟨fun h => ⟨h, rfl⟩, fun h => h.1⟩
  | f + 1, i, l, o, hi, ho => by
    rw [ilG_s, lcG_s, mlG_s]
    by_cases c : sg x i = 0
    · have hn : ¬ i < lenL x := fun z => lenL_nz z c
      rw [if_pos c, if_neg hn, decide_eq_true c, Bool.true_and, if_neg (show ¬ (97 ≤ sg x i ∧ sg x i ≤ 122) by omega)]
      exact ilG_eq x f (i + 1) l true (by omega) ⟨fun _ => by omega, fun _ => rfl⟩
    · rw [if_neg c]
      by_cases d : o = true ∨ (¬ (97 ≤ sg x i ∧ sg x i ≤ 122) ∧ sg x i ≠ 32)
      · rw [if_pos d]
        have e : (if i < lenL x then decide (sg x i = 32 ∨ 97 ≤ sg x i ∧ sg x i ≤ 122) else decide (sg x i = 0)) = false := by
          split
          · rename_i h
            rcases d with d | d
            · have := ho.mp d; omega
            · exact decide_eq_false (fun z => z.elim d.2 d.1)
          · exact decide_eq_false c
        rw [e, Bool.false_and]
        exact ⟨fun z => (by cases z), fun z => (by cases z.2)⟩
      · rw [if_neg d]
        have ho2 : ¬ o = true := fun z => d (Or.inl z)
        have hl : 97 ≤ sg x i ∧ sg x i ≤ 122 ∨ sg x i = 32 := by
          by_cases q : 97 ≤ sg x i ∧ sg x i ≤ 122
          · exact Or.inl q
          · by_cases q2 : sg x i = 32
            · exact Or.inr q2
            · exact absurd (Or.inr ⟨q, q2⟩) d
        have hn : i < lenL x := by
          have h1 : ¬ lenL x < i := fun z => ho2 (ho.mpr z)
          by_cases e : i = lenL x
          · exact absurd (e ▸ lenL_z (x := x) (by omega)) c
          · omega
        rw [if_pos hn, decide_eq_true (show sg x i = 32 ∨ 97 ≤ sg x i ∧ sg x i ≤ 122 from hl.symm), Bool.true_and]
        exact ilG_eq x f (i + 1) _ o (by omega) ⟨fun z => absurd z ho2, fun z => by omega⟩
theorem mlL_eq (x : Int64) : mlL x = isLn x := by
  have h := ilG_eq x 8 0 0 false rfl ⟨fun z => (by cases z), fun z => by omega⟩
  rw [Bool.eq_iff_iff]
  show (decide (0 < lcN x) && mlG x (lenL x) 8 0) = true ↔ ilG x 8 0 0 false = true
  rw [h, Bool.and_eq_true, decide_eq_true_iff]; rfl
theorem mlG_at (x : Int64) (n : Nat) : ∀ f i : Nat, mlG x n f i = true → ∀ j : Nat, i ≤ j → j < i + f → if j < n then sg x j = 32 ∨ 97 ≤ sg x j ∧ sg x j ≤ 122 else sg x j = 0
  | 0, i, _, j, h1, h2 => by omega
  | f + 1, i, h, j, h1, h2 => by
    simp only [mlG, Bool.and_eq_true] at h
    by_cases e : j = i
    · subst e
      have h3 := h.1
      split
      · rename_i q; rw [if_pos q] at h3; exact of_decide_eq_true h3
      · rename_i q; rw [if_neg q] at h3; exact of_decide_eq_true h3
    · exact mlG_at x n f (i + 1) h.2 j (by omega) (by omega)
theorem ln_sg {x : Int64} (h : isLn x = true) {j : Nat} (hj : j < 8) : sg x j = 0 ∨ sg x j = 32 ∨ 97 ≤ sg x j ∧ sg x j ≤ 122 := by
  rw [← mlL_eq] at h
  unfold mlL at h
  rw [Bool.and_eq_true] at h
  have := mlG_at x _ 8 0 h.2 j (Nat.zero_le _) (by omega)
  split at this
  · exact Or.inr this
  · exact Or.inl this
theorem lcG_ex (x : Int64) : ∀ f i l, l < lcG x f i l → ∃ j : Nat, i ≤ j ∧ j < i + f ∧ 97 ≤ sg x j ∧ sg x j ≤ 122
  | 0, i, l, h => by simp only [lcG] at h; omega
  | f + 1, i, l, h => by
    simp only [lcG] at h
    by_cases c : 97 ≤ sg x i ∧ sg x i ≤ 122
    · exact ⟨i, Nat.le_refl _, by omega, c⟩
    · rw [if_neg c] at h
      obtain ⟨j, h1, h2, h3⟩ := lcG_ex x f (i + 1) (l + 0) (by omega)
      exact ⟨j, by omega, by omega, h3⟩
theorem ln_ex {x : Int64} (h : isLn x = true) : ∃ j : Nat, j < 8 ∧ 97 ≤ sg x j ∧ sg x j ≤ 122 := by
  rw [← mlL_eq] at h
  unfold mlL at h
  rw [Bool.and_eq_true] at h
  obtain ⟨j, h1, h2, h3⟩ := lcG_ex x 8 0 0 (of_decide_eq_true h.1)
  exact ⟨j, by omega, h3⟩
theorem ln_len {x : Int64} (h : isLn x = true) : 1 ≤ lenL x := by
  rcases Nat.lt_or_ge 0 (lenL x) with q | q
  · exact q
  · exfalso
    obtain ⟨j, h1, h2⟩ := ln_ex h
    have h0 : lenL x = 0 := by omega
    rw [← mlL_eq] at h
    unfold mlL at h
    rw [Bool.and_eq_true] at h
    have := mlG_at x _ 8 0 h.2 j (Nat.zero_le _) (by omega)
    rw [if_neg (by omega)] at this
    omega
theorem baG_eq {x : Int64} (h : isLn x = true) : ∀ f i a c, i + f = 8 → baG x f i a c = ltG x f i a c
  | 0, i, a, c, _ => rfl
  | f + 1, i, a, c, hi => by
    simp only [baG, ltG]
    have := ln_sg h (j := i) (by omega)
    by_cases d : 97 ≤ sg x i ∧ sg x i ≤ 122
    · rw [if_pos d, if_pos ⟨by omega, by omega⟩]; exact baG_eq h f _ _ _ (by omega)
    · rw [if_neg d, if_neg (fun z => by omega)]; exact baG_eq h f _ _ _ (by omega)
theorem baL_eq {x : Int64} (h : isLn x = true) : baL x = ltL x := baG_eq h 8 0 0 0 rfl
theorem dmG_eq {x : Int64} : ∀ f n : Nat, (∃ j : Nat, n ≤ j ∧ j < n + f + 1 ∧ sg x j ≠ 32) → dmG x (f + 1) n = dpG x f n
  | 0, n, ⟨j, h1, h2, h3⟩ => by
    have e : j = n := by omega
    subst e
    simp only [dmG, dpG]
    rw [if_neg h3]
  | f + 1, n, ⟨j, h1, h2, h3⟩ => by
    simp only [dpG]
    rw [dmG]
    by_cases c : sg x n = 32
    · rw [if_pos c, if_pos c]
      exact dmG_eq f (n + 1) ⟨j, by have : j ≠ n := fun z => h3 (z ▸ c); omega, by omega, h3⟩
    · rw [if_neg c, if_neg c]
theorem dmL_eq {x : Int64} (h : isLn x = true) : dmL x = dpL x := by
  obtain ⟨j, h1, h2⟩ := ln_ex h
  exact dmG_eq 7 0 ⟨j, by omega, by omega, by omega⟩
/-! a sign among the bytes -/
def nnL (x : Int64) : Nat := x.toBitVec.toNat
theorem nn_ush {x : Int64} {i : Nat} (h : i < 8) : nnL (lUsh x (8 * (i : Int))) = nnL x >>> (8 * i) := by
  unfold nnL lUsh
  have e : ∀ i : Nat, i < 8 → (((Int32.ofInt (8 * (i : Int))).toInt64.toUInt64 &&& Int64.toUInt64 63).toBitVec % 64).toNat = 8 * i := by decide +kernel
  show (x.toUInt64 >>> _).toBitVec.toNat = _
  rw [UInt64.toBitVec_shiftRight, BitVec.ushiftRight_eq', BitVec.toNat_ushiftRight, e i h]
  rfl
theorem sg_n {x : Int64} {i : Nat} (h : i < 8) : sg x i = ((nnL x >>> (8 * i)) % 256 : Nat) := by
  rw [← nn_ush h]
  unfold sg bAnd
  rw [pk_and _ 8 (by decide), nI_toInt (by omega)]
  congr 1
  unfold iOf nnL
  rw [Int32.ofInt_toInt, Int64.toBitVec_toInt32, BitVec.signExtend_eq_setWidth_of_le _ (by decide), BitVec.toNat_setWidth]
  omega
theorem nn_shl {s : Int} {c : Nat} (hs : 0 ≤ s ∧ s < 256) (h : c < 8) : nnL (lShl (lOf s) (8 * (c : Int))) = s.toNat <<< (8 * c) := by
  unfold nnL lShl
  have e : ∀ i : Nat, i < 8 → (((Int32.ofInt (8 * (i : Int))).toInt64 &&& 63).toBitVec.smod 64).toNat = 8 * i := by decide +kernel
  have e2 : ∀ s : Nat, s < 256 → (lOf (s : Int)).toBitVec.toNat = s := by decide +kernel
  have e3 := e2 s.toNat (by omega)
  rw [show ((s.toNat : Nat) : Int) = s by omega] at e3
  rw [Int64.toBitVec_shiftLeft, BitVec.shiftLeft_eq', BitVec.toNat_shiftLeft, e c h, e3, Nat.shiftLeft_eq]
  apply Nat.mod_eq_of_lt
  have h1 : 2 ^ (8 * c) ≤ 2 ^ 56 := Nat.pow_le_pow_right (by decide) (by omega)
  have h2 : s.toNat * 2 ^ (8 * c) ≤ 255 * 2 ^ 56 := Nat.mul_le_mul (by omega) h1
  omega
theorem sg_or {a : Int64} {s : Int} {c i : Nat} (hs : 0 ≤ s ∧ s < 256) (hc : c < 8) (hi : i < 8) (h0 : sg a c = 0) : sg (a ||| lShl (lOf s) (8 * (c : Int))) i = if i = c then s else sg a i := by
  rw [sg_n hc] at h0
  have h0' : (nnL a >>> (8 * c)) % 2 ^ 8 = 0 := by omega
  have hz : ∀ b, b < 8 → (nnL a).testBit (8 * c + b) = false := fun b hb => by
    have := congrArg (fun n => Nat.testBit n b) h0'
    simp only [Nat.testBit_mod_two_pow, Nat.testBit_shiftRight, Nat.zero_testBit, decide_eq_true hb, Bool.true_and] at this
    exact this
  rw [sg_n hi, sg_n hi]
  have e : nnL (a ||| lShl (lOf s) (8 * (c : Int))) = nnL a ||| s.toNat <<< (8 * c) := by
    rw [← nn_shl hs hc]; unfold nnL; rw [Int64.toBitVec_or, BitVec.toNat_or]
  rw [e]
  by_cases q : i = c
  · subst q
    rw [if_pos rfl]
    have : ((nnL a ||| s.toNat <<< (8 * i)) >>> (8 * i)) % 2 ^ 8 = s.toNat % 2 ^ 8 := by
      apply Nat.eq_of_testBit_eq
      intro b
      simp only [Nat.testBit_mod_two_pow, Nat.testBit_shiftRight, Nat.testBit_or, Nat.testBit_shiftLeft]
      by_cases hb : b < 8
      · rw [hz b hb, decide_eq_true hb, Bool.true_and, Bool.true_and, Bool.false_or, decide_eq_true (by omega), Bool.true_and, Nat.add_sub_cancel_left]
      · rw [decide_eq_false hb]; rfl
    omega
  · rw [if_neg q]
    have : ((nnL a ||| s.toNat <<< (8 * c)) >>> (8 * i)) % 2 ^ 8 = (nnL a >>> (8 * i)) % 2 ^ 8 := by
      apply Nat.eq_of_testBit_eq
      intro b
      simp only [Nat.testBit_mod_two_pow, Nat.testBit_shiftRight, Nat.testBit_or, Nat.testBit_shiftLeft]
      by_cases hb : b < 8
      · rcases Nat.lt_or_ge i c with z | z
        · rw [decide_eq_false (p := 8 * i + b ≥ 8 * c) (by omega), Bool.false_and, Bool.or_false]
        · have ht : s.toNat.testBit (8 * i + b - 8 * c) = false := by
            apply Nat.testBit_lt_two_pow
            have : 2 ^ 8 ≤ 2 ^ (8 * i + b - 8 * c) := Nat.pow_le_pow_right (by decide) (by omega)
            omega
          rw [ht, Bool.and_false, Bool.or_false]
      · rw [decide_eq_false hb]; rfl
    omega
theorem ltG_len {x : Int64} (h : isLn x = true) : ∀ (f i : Nat) (a : Int64) (c : Nat), i + f = 8 → c ≤ i → (∀ j : Nat, j < c → sg a j ≠ 0) → (∀ j : Nat, c ≤ j → j < 8 → sg a j = 0) → lenL (ltG x f i a c) = lcG x f i c
  | 0, i, a, c, hi, hc, h1, h2 => by
    simp only [ltG, lcG]
    exact lenL_is (by omega) h1 (fun z => h2 c (Nat.le_refl _) z)
  | f + 1, i, a, c, hi, hc, h1, h2 => by
    simp only [ltG, lcG]
    have hs := ln_sg h (j := i) (by omega)
    have hr := sg_r x i
    by_cases d : 97 ≤ sg x i ∧ sg x i ≤ 122
    · rw [if_pos d, if_pos ⟨by omega, by omega⟩]
      refine ltG_len h f (i + 1) _ (c + 1) (by omega) (by omega) (fun j hj => ?_) (fun j hj hj8 => ?_)
      · rw [sg_or hr (by omega) (by omega) (h2 c (Nat.le_refl _) (by omega))]
        split
        · omega
        · exact h1 j (by omega)
      · rw [sg_or hr (by omega) hj8 (h2 c (Nat.le_refl _) (by omega)), if_neg (by omega)]
        exact h2 j (by omega) hj8
    · rw [if_neg d, if_neg (fun z => by omega)]
      exact ltG_len h f (i + 1) a c (by omega) (by omega) h1 h2
theorem lcN_eq {x : Int64} (h : isLn x = true) : lcN x = lenL (ltL x) := by
  unfold lcN ltL
  rw [ltG_len h 8 0 0 0 rfl (Nat.le_refl _) (fun j hj => by omega) (fun j _ hj => ?_)]
  rw [sg_n hj]
  have : nnL 0 = 0 := rfl
  rw [this, Nat.zero_shiftRight]; rfl
/-! the likeness -/
def tl (X Y : List Int) (i j : Nat) : Nat := lc (X.drop i) (Y.drop j)
theorem tl_end {X Y : List Int} {i j : Nat} (h : X.length ≤ i ∨ Y.length ≤ j) : tl X Y i j = 0 := by
  unfold tl
  cases h with
  | inl h => rw [List.drop_eq_nil_of_le h, lc_nil]
  | inr h => rw [List.drop_eq_nil_of_le h, lc_nil']
theorem tl_step {X Y : List Int} {i j : Nat} (hi : i < X.length) (hj : j < Y.length) : tl X Y i j = if X[i] = Y[j] then tl X Y (i + 1) (j + 1) + 1 else max (tl X Y (i + 1) j) (tl X Y i (j + 1)) := by
  unfold tl
  rw [List.drop_eq_getElem_cons hi, List.drop_eq_getElem_cons hj, lc_cons]
theorem tl_le (X Y : List Int) (i j : Nat) : tl X Y i j ≤ X.length := by
  have := lc_le (X.drop i) (Y.drop j)
  rw [List.length_drop] at this
  unfold tl; omega
theorem sgL_len (x : Int64) (n : Nat) : (sgL x n).length = n := by unfold sgL; rw [List.length_map, List.length_range]
theorem sgL_at {x : Int64} {n i : Nat} (h : i < (sgL x n).length) : (sgL x n)[i] = sg x i := by
  have e : (sgL x n)[i]? = some (sg x i) := by
    have h2 : i < n := by rw [sgL_len] at h; exact h
    unfold sgL
    rw [List.getElem?_map, List.getElem?_range h2]; rfl
  exact Option.some.inj ((List.getElem?_eq_getElem h).symm.trans e)
section LKM
variable {Ω : Om} {m : Nat} {μ : Mu} {x y : Int64}
abbrev LkI (μ0 μ : Mu) (X Y : List Int) (i d : Nat) : Prop := Fr [] [28] [] μ0 μ ∧ (∀ p j, i < p → p ≤ X.length → j ≤ Y.length → mA μ 28 (9 * p + j) = tl X Y p j) ∧ ∀ j, d ≤ j → j ≤ Y.length → mA μ 28 (9 * i + j) = tl X Y i j
theorem lk_put {μ0 μ : Mu} {X Y : List Int} {i d : Nat} (h : LkI μ0 μ X Y i (d + 1)) (hY : Y.length ≤ 8) (hd : d ≤ Y.length) {e : Int} (he : e = (tl X Y i d : Nat)) : LkI μ0 (wA μ 28 (9 * i + d) e) X Y i d := by
  refine ⟨h.1.trans (Fr.wA (by decide)), fun p j hp hpl hj => ?_, fun j hj hjl => ?_⟩
  · rw [mA_wA, if_neg (by omega)]; exact h.2.1 p j hp hpl hj
  · rw [mA_wA]
    by_cases c : j = d
    · rw [if_pos ⟨rfl, by omega⟩, c, he]
    · rw [if_neg (by omega)]; exact h.2.2 j (by omega) hjl
theorem lk_in {σ0 : Sto} {F : QF} {X Y : List Int} (eX : X = sgL x (lenL x)) (eY : Y = sgL y (lenL y)) {i : Nat} (hi : i ≤ X.length) (out : ∀ μ', LkI μ μ' X Y i 0 → Mw Ω σ0 m M_Mdl_likenessOf rm_Mdl_likenessOf F 16 [xr (some m), xl x, xu, xl y, xu, xi X.length, xi Y.length, xi ((i : Int) + -1), xu, xu, xu, xu] [] μ') : ∀ (d : Nat) (μ1 : Mu), d ≤ Y.length + 1 → LkI μ μ1 X Y i d → Mw Ω σ0 m M_Mdl_likenessOf rm_Mdl_likenessOf F 25 [xr (some m), xl x, xu, xl y, xu, xi X.length, xi Y.length, xi i, xi ((d : Int) + -1), xu, xu, xu] [] μ1 := by
  intro d
  have lX : X.length ≤ 8 := by rw [eX, sgL_len]; exact lenL_le x
  have lY : Y.length ≤ 8 := by rw [eY, sgL_len]; exact lenL_le y
  induction d with
  | zero =>
    intro μ1 hd hI
    exact B_likenessOf_25 ⟨by omega, fun _ => out μ1 hI, fun c => absurd (by decide) c⟩
  | succ d ih =>
    intro μ1 hd hI
    rw [show ((d + 1 : Nat) : Int) + -1 = (d : Nat) by omega]
    have eI : (9 * (i : Int) + (d : Int)).toNat = 9 * i + d := by omega
    have fin : X.length ≤ i ∨ Y.length ≤ d → Mw Ω σ0 m M_Mdl_likenessOf rm_Mdl_likenessOf F 44 [xr (some m), xl x, xu, xl y, xu, xi X.length, xi Y.length, xi i, xi d, xu, xu, xu] [] μ1 := fun c => by
      refine B_likenessOf_44 ⟨by omega, by omega, ?_⟩
      rw [eI]
      exact ih _ (by omega) (lk_put hI lY (by omega) (by rw [tl_end c]; rfl))
    refine B_likenessOf_25 ⟨by omega, fun c => absurd c (by omega), fun _ => ⟨by omega, by omega, fun c => fin (by omega), fun c => ⟨by omega, fun c2 => ?_, fun c2 => fin (by omega)⟩⟩⟩
    have li : i < X.length := by omega
    have lj : d < Y.length := by omega
    have tA := hI.2.1 (i + 1) d (by omega) (by omega) (by omega)
    have tB := hI.2.2 (d + 1) (by omega) (by omega)
    have tC := hI.2.1 (i + 1) (d + 1) (by omega) (by omega) (by omega)
    have st := tl_step li lj
    have e1 : X[i] = sg x i := by subst eX; exact sgL_at _
    have e2 : Y[d] = sg y d := by subst eY; exact sgL_at _
    rw [e1, e2] at st
    have b1 := tl_le X Y (i + 1) (d + 1)
    have b2 := tl_le X Y (i + 1) d
    have b3 := tl_le X Y i (d + 1)
    have r1 := sg_r x i
    have r2 := sg_r y d
    have go : ∀ z : Int, z = (max (tl X Y (i + 1) d) (tl X Y i (d + 1)) : Nat) → Mw Ω σ0 m M_Mdl_likenessOf rm_Mdl_likenessOf F 136 [xr (some m), xl x, xu, xl y, xu, xi X.length, xi Y.length, xi i, xi d, xi 0, xi z, xu] [xi i, xl x] μ1 := fun z hz => by
      refine C_likenessOf_136 (k_signAt (by omega)) fun y1 hy => ?_
      subst hy
      rw [if_pos (by omega)]
      refine B_likenessOf_139 ?_
      refine C_likenessOf_142 (k_signAt (by omega)) fun y1 hy => ?_
      subst hy
      rw [if_pos (by omega)]
      refine B_likenessOf_145 ⟨by omega, by omega, fun c3 => ⟨by omega, by omega, by omega, ?_⟩, fun c3 => ⟨by omega, by omega, by omega, by omega, ?_, ?_⟩⟩
      · rw [eI]
        rw [if_neg c3] at st
        exact ih _ (by omega) (lk_put hI lY (by omega) (by rw [hz, st]))
      · rw [show (9 * ((i : Int) + 1) + (d : Int) + 1).toNat = 9 * (i + 1) + (d + 1) by omega, tC]; omega
      · rw [if_pos c3] at st
        rw [show (9 * ((i : Int) + 1) + (d : Int) + 1).toNat = 9 * (i + 1) + (d + 1) by omega, tC, eI]
        exact ih _ (by omega) (lk_put hI lY (by omega) (by rw [st]; omega))
    refine B_likenessOf_49 ⟨by decide, fun _ => ⟨by omega, by omega, by omega, by omega, ?_⟩, fun c3 => absurd rfl c3⟩
    rw [show (9 * ((i : Int) + 1) + (d : Int)).toNat = 9 * (i + 1) + d by omega, show (9 * (i : Int) + (d : Int) + 1).toNat = 9 * i + (d + 1) by omega, tA, tB]
    exact ⟨fun c3 => ⟨fun z => absurd rfl z, fun _ => go _ (by omega)⟩, fun c3 => ⟨fun z => absurd rfl z, fun _ => go _ (by omega)⟩⟩
theorem lk_out {σ0 : Sto} {F : QF} {X Y : List Int} (eX : X = sgL x (lenL x)) (eY : Y = sgL y (lenL y)) (h0 : (X.length : Int) + Y.length ≠ 0) (out : ∀ μ', Fr [] [28] [] μ μ' → Mw Ω σ0 m M_Mdl_likenessOf rm_Mdl_likenessOf F 225 [xr (some m), xl x, xu, xl y, xu, xi X.length, xi Y.length, xi (-1), xu, xu, xu, xu] [xi (bDiv (200 * (tl X Y 0 0 : Nat)) ((X.length : Int) + Y.length))] μ') : ∀ (d : Nat) (μ1 : Mu), d ≤ X.length + 1 → Fr [] [28] [] μ μ1 → (∀ p j, d ≤ p → p ≤ X.length → j ≤ Y.length → mA μ1 28 (9 * p + j) = tl X Y p j) → Mw Ω σ0 m M_Mdl_likenessOf rm_Mdl_likenessOf F 16 [xr (some m), xl x, xu, xl y, xu, xi X.length, xi Y.length, xi ((d : Int) + -1), xu, xu, xu, xu] [] μ1 := by
  intro d
  have lX : X.length ≤ 8 := by rw [eX, sgL_len]; exact lenL_le x
  have lY : Y.length ≤ 8 := by rw [eY, sgL_len]; exact lenL_le y
  induction d with
  | zero =>
    intro μ1 hd hF hT
    have e := hT 0 0 (by omega) (by omega) (by omega)
    refine B_likenessOf_16 ⟨by omega, fun _ => ⟨by decide, by decide, by omega, h0, ?_⟩, fun c => absurd (by decide) c⟩
    rw [show mA μ1 28 0 = (tl X Y 0 0 : Nat) from e]
    exact out μ1 hF
  | succ d ih =>
    intro μ1 hd hF hT
    rw [show ((d + 1 : Nat) : Int) + -1 = (d : Nat) by omega]
    refine B_likenessOf_16 ⟨by omega, fun c => absurd c (by omega), fun _ => ?_⟩
    have g := lk_in (Ω := Ω) (σ0 := σ0) (m := m) (μ := μ) (F := F) eX eY (i := d) (by omega) (fun μ' hI => ih μ' (by omega) hI.1 (fun p j h1 h2 h3 => ?_)) (Y.length + 1) μ1 (Nat.le_refl _) ⟨hF, fun p j h1 h2 h3 => hT p j (by omega) h2 h3, fun j h1 h2 => by omega⟩
    · rw [show ((Y.length + 1 : Nat) : Int) + -1 = (Y.length : Nat) by omega] at g
      exact g
    · by_cases c : p = d
      · rw [c]; exact hI.2.2 j (Nat.zero_le _) h3
      · exact hI.2.1 p j (by omega) h2 h3
theorem K_likenessOf (hx : 1 ≤ lenL x) : MMi Ω m M_Mdl_likenessOf rm_Mdl_likenessOf (fun z μ' => z = lkN x y ∧ Fr [] [28] [] μ μ') μ [xl x, xl y] := by
  have e1 := sgL_len x (lenL x)
  have e2 := sgL_len y (lenL y)
  have el : lkN x y = bDiv (200 * (tl (sgL x (lenL x)) (sgL y (lenL y)) 0 0 : Nat)) (((sgL x (lenL x)).length : Int) + (sgL y (lenL y)).length) := by
    unfold lkN
    rw [if_pos (by omega), e1, e2]; rfl
  refine E_likenessOf fun σ0 => B_likenessOf_0 (C_likenessOf_1 k_length fun z hz => ?_)
  subst hz
  refine B_likenessOf_4 (C_likenessOf_7 k_length fun z hz => ?_)
  subst hz
  refine B_likenessOf_10 ?_
  have g := lk_out (Ω := Ω) (σ0 := σ0) (m := m) (μ := μ) (x := x) (y := y) rfl rfl (by omega) (fun μ' hF => R_likenessOf_225 (Q := fun z μ' => z = lkN x y ∧ Fr [] [28] [] μ μ') ⟨el.symm, hF⟩) (lenL x + 1) μ (by omega) Fr.rf (fun p j h1 h2 h3 => by omega)
  rw [e1, e2, show ((lenL x + 1 : Nat) : Int) + -1 = (lenL x : Nat) by omega] at g
  exact g
theorem k_isLine : MPi Ω M_Mdl_isLine rm_Mdl_isLine (fun z => z = bI (isLn x = true)) [xl x] := by
  rw [← mlL_eq]; exact k_isLine0
theorem X_likeness {S : St} (h : MdV S μ) : MMi Ω m M_Mdl_likeness rm_Mdl_likeness (OutI S (if isLn x = true ∧ isLn y = true then 0 else 1) (lkN x y) S) μ [xl x, xl y] := by
  refine E_likeness fun σ0 => B_likeness_0 ?_
  have bad : ¬ (isLn x = true ∧ isLn y = true) → Mw Ω σ0 m M_Mdl_likeness rm_Mdl_likeness (MQi Ω σ0 m rm_Mdl_likeness (OutI S (if isLn x = true ∧ isLn y = true then 0 else 1) (lkN x y) S)) 20 [xr (some m), xl x, xu, xl y, xu] [xi 1, xr (some m)] μ := fun c' => by
    refine C_likeness_20 (K_refused (by decide)) fun y μ2 hq => ?_
    obtain ⟨rfl, rfl⟩ := hq
    refine B_likeness_23 ⟨bI_q, fun c2 => absurd c2 (by decide), fun _ => ?_⟩
    refine R_likeness_36 ?_
    rw [if_neg c']; exact OutI.no h (by decide)
  refine C_likeness_2 k_isLine fun z hz => ?_
  subst hz
  refine B_likeness_5 ⟨bI_q, fun c => bad (fun q => bI_0.mp c q.1), fun c => ?_⟩
  refine C_likeness_9 k_isLine fun z hz => ?_
  subst hz
  refine B_likeness_12 ⟨bI_q, fun d => bad (fun q => bI_0.mp d q.2), fun d => ?_⟩
  have c' := bI_1.mp c
  have d' := bI_1.mp d
  refine C_likeness_20 (K_refused (by decide)) fun y μ2 hq => ?_
  obtain ⟨rfl, rfl⟩ := hq
  refine B_likeness_23 ⟨bI_q, fun _ => ?_, fun c2 => absurd (show bI ((0 : Int) ≠ 0) = 0 by decide) c2⟩
  refine C_likeness_33 (K_likenessOf (ln_len c')) fun z μ1 hq => ?_
  obtain ⟨rfl, hF⟩ := hq
  rw [if_pos ⟨c', d'⟩]
  exact R_likeness_36 (OutI.ok ((hF.1 0 (by decide)).trans mw0) rfl (h.w0.fr (hF.mono (by decide) (by decide) (by decide))))
end LKM
