/-! BY HAND: Comparison, the moves -/
def okM (X Y : List Int64) (P M : Nat → Int) (i j : Nat) : Bool := decide (i < X.length) && (decide (j < Y.length) && (decide (P i = -1) && (decide (M i = -1) && (fr X.length P M j && decide (gx X i = gx Y j)))))
theorem okM_iff {X Y : List Int64} {P M : Nat → Int} {i j : Nat} : okM X Y P M i j = true ↔ i < X.length ∧ j < Y.length ∧ P i = -1 ∧ M i = -1 ∧ fr X.length P M j = true ∧ gx X i = gx Y j := by
  unfold okM
  rw [Bool.and_eq_true, Bool.and_eq_true, Bool.and_eq_true, Bool.and_eq_true, Bool.and_eq_true, decide_eq_true_iff, decide_eq_true_iff, decide_eq_true_iff, decide_eq_true_iff, decide_eq_true_iff]
def rnM (X Y : List Int64) (P M : Nat → Int) : Nat → Nat → Nat → Nat
  | 0, _, _ => 0
  | f + 1, i, j => if okM X Y P M i j = true then rnM X Y P M f (i + 1) (j + 1) + 1 else 0
def mvL (X Y : List Int64) (P M : Nat → Int) (i j : Nat) : Nat := if rnM X Y P M X.length i j = 1 ∧ lenL (ltL (gx X i)) < 4 then 0 else rnM X Y P M X.length i j
def bs0 (X Y : List Int64) (P M : Nat → Int) (i : Nat) : Nat → Nat × Nat × Nat → Nat × Nat × Nat
  | 0, s => s
  | j + 1, s => if (bs0 X Y P M i j s).1 < mvL X Y P M i j then (mvL X Y P M i j, i, j) else bs0 X Y P M i j s
def bs1 (X Y : List Int64) (P M : Nat → Int) : Nat → Nat × Nat × Nat
  | 0 => (0, 0, 0)
  | i + 1 => bs0 X Y P M i Y.length (bs1 X Y P M i)
def bst (X Y : List Int64) (P M : Nat → Int) : Nat × Nat × Nat := bs1 X Y P M X.length
def tkS (s : Nat × Nat × Nat) (M : Nat → Int) (k : Nat) : Nat → Int := fun p => if s.2.1 ≤ p ∧ p < s.2.1 + k then ((s.2.2 + (p - s.2.1) : Nat) : Int) else M p
def tkM (X Y : List Int64) (P M : Nat → Int) : Nat → Int := tkS (bst X Y P M) M (bst X Y P M).1
def mvF (X Y : List Int64) (P : Nat → Int) : Nat → (Nat → Int) → (Nat → Int)
  | 0, M => M
  | f + 1, M => if 0 < (bst X Y P M).1 then mvF X Y P f (tkM X Y P M) else M
theorem tkS_0 (s : Nat × Nat × Nat) (M : Nat → Int) : tkS s M 0 = M := by
  funext p
  unfold tkS
  rw [if_neg (by omega)]
theorem tkS_succ (s : Nat × Nat × Nat) (M : Nat → Int) (k : Nat) : tkS s M (k + 1) = up1 (tkS s M k) (s.2.1 + k) ((s.2.2 + k : Nat) : Int) := by
  funext p
  rw [up1_at]
  unfold tkS
  by_cases e : p = s.2.1 + k
  · rw [if_pos (by omega), if_pos e]
    have : p - s.2.1 = k := by omega
    rw [this]
  · rw [if_neg e]
    by_cases e2 : s.2.1 ≤ p ∧ p < s.2.1 + k
    · rw [if_pos e2, if_pos (by omega)]
    · rw [if_neg e2, if_neg (by omega)]
section MV
variable {X Y : List Int64} {P M : Nat → Int}
theorem rn_ok : ∀ (f i j k : Nat), k < rnM X Y P M f i j → okM X Y P M (i + k) (j + k) = true := by
  intro f
  induction f with
  | zero => intro i j k h; exact absurd h (Nat.not_lt_zero _)
  | succ f ih =>
    intro i j k h
    rw [rnM] at h
    split at h
    · rename_i ho
      cases k with
      | zero => exact ho
      | succ k =>
        have := ih (i + 1) (j + 1) k (by omega)
        have e1 : i + 1 + k = i + (k + 1) := by omega
        have e2 : j + 1 + k = j + (k + 1) := by omega
        rw [e1, e2] at this
        exact this
    · exact absurd h (Nat.not_lt_zero _)
theorem mvL_ok {i j k : Nat} (h : k < mvL X Y P M i j) : okM X Y P M (i + k) (j + k) = true := by
  unfold mvL at h
  split at h
  · exact absurd h (Nat.not_lt_zero _)
  · exact rn_ok _ _ _ _ h
abbrev BsP (X Y : List Int64) (P M : Nat → Int) (s : Nat × Nat × Nat) : Prop := ∀ k, k < s.1 → okM X Y P M (s.2.1 + k) (s.2.2 + k) = true
theorem bs0_ok {i : Nat} {s : Nat × Nat × Nat} (h : BsP X Y P M s) : ∀ j, BsP X Y P M (bs0 X Y P M i j s) := by
  intro j
  induction j with
  | zero => exact h
  | succ j ih =>
    rw [bs0]
    split
    · exact fun k hk => mvL_ok hk
    · exact ih
theorem bs1_ok : ∀ i, BsP X Y P M (bs1 X Y P M i) := by
  intro i
  induction i with
  | zero => exact fun k hk => absurd hk (Nat.not_lt_zero _)
  | succ i ih => exact bs0_ok ih _
theorem bst_ok : BsP X Y P M (bst X Y P M) := bs1_ok _
theorem BsP.le {s : Nat × Nat × Nat} (h : BsP X Y P M s) : s.1 ≤ X.length := by
  cases e : s.1 with
  | zero => exact Nat.zero_le _
  | succ n =>
    have := (okM_iff.mp (h n (by omega))).1
    omega
theorem fr_up2 {a i j j' : Nat} (hi : i < a) (hM : M i = -1) : fr a P (up1 M i (j : Int)) j' = (fr a P M j' && decide (j' ≠ j)) := by
  rw [Bool.eq_iff_iff, Bool.and_eq_true, fr_iff, fr_iff, decide_eq_true_iff]
  constructor
  · intro h
    refine ⟨fun k hk => ?_, ?_⟩
    · have := h k hk
      by_cases e : k = i
      · subst e; exact ⟨this.1, by omega⟩
      · rw [up1_at, if_neg e] at this; exact this
    · intro e
      have := (h i hi).2
      rw [up1_at, if_pos rfl, e] at this
      exact this rfl
  · intro h k hk
    rw [up1_at]
    split
    · exact ⟨(h.1 k hk).1, fun e => h.2 (by omega)⟩
    · exact h.1 k hk
end MV
section CMV
variable {Ω : Om} {σ0 : Sto} {c n : Nat} {X Y : List Int64} {P M : Nat → Int}
theorem mlen_loop {σ : Sto} (hW : CpW σ c X Y) (hP : CpP σ c X.length Y.length P M n) {F : QF} {i0 j0 : Nat} (hi0 : i0 < X.length) (hj0 : j0 < Y.length)
    (out : ∀ m, m ≤ 40 → m = rnM X Y P M X.length i0 j0 → ∀ p q : Int, Aw Ω M_Cmp_moveLength rm_Cmp_moveLength F 0 0 88 [xr (some c), xi i0, xi j0, xi (m : Nat), xi p, xi q] [] σ) :
    ∀ (f m i j : Nat), i = i0 + m → j = j0 + m → X.length ≤ m + f → i ≤ X.length → j ≤ Y.length → m + rnM X Y P M f i j = rnM X Y P M X.length i0 j0 → Aw Ω M_Cmp_moveLength rm_Cmp_moveLength F 0 0 8 [xr (some c), xi i0, xi j0, xi m, xi i, xi j] [] σ := by
  obtain ⟨hS, hX, hY⟩ := id hW
  obtain ⟨h0, h1, f1, f2, f3, f4, f5, f6, k1, k2, k3, k4, k5, k6, z1, z2, z3, z4, z5, z6, hr⟩ := id hS
  obtain ⟨x1, x2, x3⟩ := id hX
  obtain ⟨y1, y2, y3⟩ := id hY
  obtain ⟨p1, p2, p3⟩ := id hP
  intro f
  induction f with
  | zero =>
    intro m i j hi hj hf hin hjn he
    refine b_Cmp_moveLength_8 ⟨h1, fun q1 => ⟨by omega, fun _ => ?_, fun c1 => absurd (show fI σ 70 c ≤ i by omega) c1⟩⟩
    exact out m (by omega) (by rw [← he]; rfl) _ _
  | succ f ih =>
    intro m i j hi hj hf hin hjn he
    have fin : okM X Y P M i j ≠ true → Aw Ω M_Cmp_moveLength rm_Cmp_moveLength F 0 0 88 [xr (some c), xi i0, xi j0, xi m, xi i, xi j] [] σ := fun h => by
      rw [rnM, if_neg h] at he
      exact out m (by omega) he _ _
    refine b_Cmp_moveLength_8 ⟨h1, fun _ => ⟨by omega, fun c1 => fin (fun z => ?_), fun c1 => fun _ => ⟨by omega, fun c2 => fin (fun z => ?_), fun c2 => ?_⟩⟩⟩
    · have := (okM_iff.mp z).1; omega
    · have := (okM_iff.mp z).2.1; omega
    have li : i < X.length := by omega
    have lj : j < Y.length := by omega
    refine ⟨_, f3, k3, by omega, by rw [z3]; omega, fun _ => ⟨fun c3 => fin (fun z => ?_), fun c3 => ⟨_, f4, k4, by omega, by rw [z4]; omega, fun _ => ⟨fun c4 => fin (fun z => ?_), fun c4 => ⟨_, f5, k5, by omega, by rw [z5]; omega, fun _ => ⟨fun c5 => fin (fun z => ?_), fun c5 => ⟨_, f1, k1, by omega, by rw [z1]; omega, _, f2, k2, by omega, by rw [z2]; omega, cmpL_r _ _, fun c6 => fin (fun z => ?_), fun c6 => ?_⟩⟩⟩⟩⟩⟩⟩
    · exact c3 ((p2 i li).1.trans (okM_iff.mp z).2.2.1)
    · exact c4 ((p2 i li).2.trans (okM_iff.mp z).2.2.2.1)
    · have := (p3 j lj).mp c5
      rw [(okM_iff.mp z).2.2.2.2.1] at this; cases this
    · refine c6 ((cmpL_0 _ _).mpr (show aL σ (c + 1) i = aL σ (c + 2) j from ?_))
      rw [x3 i li, y3 j lj]; exact (okM_iff.mp z).2.2.2.2.2
    · have e6 : gx X i = gx Y j := by
        have e : aL σ (c + 1) i = aL σ (c + 2) j := (cmpL_0 _ _).mp c6
        rw [x3 i li, y3 j lj] at e; exact e
      have hok : okM X Y P M i j = true := okM_iff.mpr ⟨li, lj, (p2 i li).1.symm.trans c3, (p2 i li).2.symm.trans c4, by
        cases e : fr X.length P M j with
        | true => rfl
        | false => exact absurd ((p3 j lj).mpr e) c5, e6⟩
      rw [rnM, if_pos hok] at he
      exact ih (m + 1) (i + 1) (j + 1) (by omega) (by omega) (by omega) (by omega) (by omega) (by omega)
theorem k_Cmp_moveLength {σ : Sto} (hW : CpW σ c X Y) (hP : CpP σ c X.length Y.length P M n) {i j : Nat} (hi : i < X.length) (hj : j < Y.length) : MC Ω M_Cmp_moveLength rm_Cmp_moveLength (RI fun r σ' => σ' = σ ∧ r = mvL X Y P M i j) XN σ [xr (some c), xi i, xi j] := by
  obtain ⟨hS, hX, hY⟩ := id hW
  obtain ⟨h0, h1, f1, f2, f3, f4, f5, f6, k1, k2, k3, k4, k5, k6, z1, z2, z3, z4, z5, z6, hr⟩ := id hS
  obtain ⟨x1, x2, x3⟩ := id hX
  refine e_Cmp_moveLength (b_Cmp_moveLength_0 (mlen_loop hW hP hi hj (fun m hm he p q => ?_) X.length 0 i j (by omega) (by omega) (by omega) (by omega) (by omega) (by omega)))
  refine b_Cmp_moveLength_88 ⟨by omega, fun c1 => ?_, fun c1 => ⟨h1, _, f1, k1, by omega, by rw [z1]; omega, ?_⟩⟩
  · refine r_Cmp_moveLength_112 ⟨_, rfl, rfl, ?_⟩ (by decide) (by decide)
    rw [mvL, if_neg (fun z => c1 (by omega)), he]
  · refine c_Cmp_moveLength_99 (k_Lbk_lettersOf) (by decide) (by decide) (by first | decide | omega) (by first | decide | omega) (Nat.le_of_ble_eq_true rfl) (fun z σ1 hq => ?_) (fun _ _ hx => hx.elim)
    obtain ⟨rfl, rfl⟩ := hq
    refine c_Cmp_moveLength_102 (k_Lbk_lengthOf) (by decide) (by decide) (by first | decide | omega) (by first | decide | omega) (Nat.le_of_ble_eq_true rfl) (fun z σ2 hq => ?_) (fun _ _ hx => hx.elim)
    obtain ⟨rfl, rfl⟩ := hq
    have ex : aL σ2 (c + 1) ((i : Int)).toNat = gx X i := x3 i hi
    rw [ex]
    have hl := lenL_le (ltL (gx X i))
    refine b_Cmp_moveLength_105 ⟨by omega, fun c2 => ?_, fun c2 => ?_⟩
    · refine r_Cmp_moveLength_112 ⟨_, rfl, rfl, ?_⟩ (by decide) (by decide)
      rw [mvL, if_neg (by omega), he]
    · refine r_Cmp_moveLength_110 ⟨_, rfl, rfl, ?_⟩ (by decide) (by decide)
      rw [mvL, if_pos (by omega)]; rfl
abbrev QTl (Ω : Om) (σ0 : Sto) (c n : Nat) (X Y : List Int64) (P M : Nat → Int) : QF := MF Ω rm_Cmp_takeLongestMove (RI fun r σ' => CpW σ' c X Y ∧ CpP σ' c X.length Y.length P (tkM X Y P M) n ∧ Keep σ0 σ' (In c (c + 28)) ∧ r = if 0 < (bst X Y P M).1 then 1 else 0) XN
theorem tl_set : ∀ (d k : Nat) (σ : Sto), k + d = (bst X Y P M).1 → CpW σ c X Y → CpP σ c X.length Y.length P (tkS (bst X Y P M) M k) n → Keep σ0 σ (In c (c + 28)) → Aw Ω M_Cmp_takeLongestMove rm_Cmp_takeLongestMove (QTl Ω σ0 c n X Y P M) 0 0 70 [xr (some c), xi (bst X Y P M).1, xi (bst X Y P M).2.1, xi (bst X Y P M).2.2, xi k, xu, xu] [] σ := by
  have hle := BsP.le (bst_ok (X := X) (Y := Y) (P := P) (M := M))
  intro d
  induction d with
  | zero =>
    intro k σ hd hW hP hk
    have x2 := hW.2.1.2.1
    have e : k = (bst X Y P M).1 := by omega
    refine b_Cmp_takeLongestMove_70 ⟨by omega, by omega, fun c1 => ⟨fun c2 => ?_, fun c2 => ?_⟩, fun c1 => absurd (by omega) c1⟩
    · refine r_Cmp_takeLongestMove_114 (Or.inl rfl) ⟨_, rfl, hW, ?_, hk, by rw [if_neg (by omega)]⟩ (by decide) (by decide)
      unfold tkM; rw [← e]; exact hP
    · refine r_Cmp_takeLongestMove_114 (Or.inr rfl) ⟨_, rfl, hW, ?_, hk, by rw [if_pos (by omega)]⟩ (by decide) (by decide)
      unfold tkM; rw [← e]; exact hP
  | succ d ih =>
    intro k σ hd hW hP hk
    obtain ⟨hS, hX, hY⟩ := id hW
    obtain ⟨h0, h1, f1, f2, f3, f4, f5, f6, k1, k2, k3, k4, k5, k6, z1, z2, z3, z4, z5, z6, hr⟩ := id hS
    have x2 := hX.2.1
    have y2 := hY.2.1
    obtain ⟨p1, p2, p3⟩ := id hP
    have hok := okM_iff.mp (bst_ok (X := X) (Y := Y) (P := P) (M := M) k (by omega))
    obtain ⟨o1, o2, o3, o4, o5, o6⟩ := hok
    refine b_Cmp_takeLongestMove_70 ⟨by omega, by omega, fun c1 => absurd c1 (by omega), fun c1 => ⟨h1, _, f4, k4, by omega, by rw [z4]; omega, by omega, _, f5, k5, by omega, by rw [z5]; omega, ?_⟩⟩
    have ef : (((bst X Y P M).2.1 : Int) + (k : Int)).toNat = (bst X Y P M).2.1 + k := by omega
    have et : (((bst X Y P M).2.2 : Int) + (k : Int)).toNat = (bst X Y P M).2.2 + k := by omega
    have ev : ((bst X Y P M).2.2 : Int) + (k : Int) = (((bst X Y P M).2.2 + k : Nat) : Int) := by omega
    rw [ef, et, ev]
    have kk : Keep σ (vI (vI σ (c + 4) ((bst X Y P M).2.1 + k) (((bst X Y P M).2.2 + k : Nat) : Int)) (c + 5) ((bst X Y P M).2.2 + k) 0) (In c (c + 28)) := (Keep.vI (by omega)).trans (Keep.vI (by omega))
    have hm : tkS (bst X Y P M) M k ((bst X Y P M).2.1 + k) = -1 := by
      unfold tkS; rw [if_neg (by omega)]; exact o4
    refine ih (k + 1) _ (by omega) ⟨hS, hX, hY⟩ ⟨p1, fun p hp => ?_, fun q hq => ?_⟩ (hk.trans kk)
    · rw [aI_vI, if_neg (by omega), aI_vI, if_neg (by omega), aI_vI, if_neg (by omega), aI_vI, tkS_succ, up1_at]
      refine ⟨(p2 p hp).1, ?_⟩
      by_cases e : p = (bst X Y P M).2.1 + k
      · rw [if_pos ⟨rfl, e⟩, if_pos e]
      · rw [if_neg (fun z => e z.2), if_neg e]; exact (p2 p hp).2
    · rw [aI_vI, tkS_succ, fr_up2 o1 hm, Bool.and_eq_false_iff, decide_eq_false_iff_not]
      by_cases e : q = (bst X Y P M).2.2 + k
      · rw [if_pos ⟨rfl, e⟩]; exact ⟨fun _ => Or.inr (fun z => z e), fun _ => rfl⟩
      · rw [if_neg (fun z => e z.2), aI_vI, if_neg (by omega), p3 q hq]
        exact ⟨fun h => Or.inl h, fun h => h.elim id (fun z => absurd e z)⟩
theorem tl_in {i : Nat} {σ : Sto} (hW : CpW σ c X Y) (hP : CpP σ c X.length Y.length P M n) (hi : i < X.length) {F : QF} (out : Aw Ω M_Cmp_takeLongestMove rm_Cmp_takeLongestMove F 0 0 9 [xr (some c), xi (bs1 X Y P M (i + 1)).1, xi (bs1 X Y P M (i + 1)).2.1, xi (bs1 X Y P M (i + 1)).2.2, xi ((i : Int) + 1), xu, xu] [] σ) : ∀ (d j : Nat) (s : Nat × Nat × Nat), j + d = Y.length → s = bs0 X Y P M i j (bs1 X Y P M i) → Aw Ω M_Cmp_takeLongestMove rm_Cmp_takeLongestMove F 0 0 21 [xr (some c), xi s.1, xi s.2.1, xi s.2.2, xi i, xi j, xu] [] σ := by
  obtain ⟨hS, hX, hY⟩ := id hW
  have x2 := hX.2.1
  obtain ⟨y1, y2, y3⟩ := id hY
  intro d
  induction d with
  | zero =>
    intro j s hd hs
    have e : j = Y.length := by omega
    subst e
    refine b_Cmp_takeLongestMove_21 ⟨hS.2.1, fun _ => ⟨by omega, fun _ => ?_, fun c1 => absurd (by omega) c1⟩⟩
    rw [hs]; exact out
  | succ d ih =>
    intro j s hd hs
    have hb := BsP.le (show BsP X Y P M s from hs ▸ bs0_ok (bs1_ok i) j)
    refine b_Cmp_takeLongestMove_21 ⟨hS.2.1, fun _ => ⟨by omega, fun c1 => absurd c1 (by omega), fun _ => ?_⟩⟩
    refine c_Cmp_takeLongestMove_35 (k_Cmp_moveLength hW hP hi (show j < Y.length by omega)) hS.2.1 (by decide) (by decide) (by first | decide | omega) (by first | decide | omega) (Nat.le_of_ble_eq_true rfl) (fun z σ1 hq => ?_) (fun _ _ hx => hx.elim)
    obtain ⟨rfl, rfl⟩ := hq
    have hm := BsP.le (s := (mvL X Y P M i j, i, j)) (fun k hk => mvL_ok hk)
    have hm2 : mvL X Y P M i j ≤ X.length := hm
    refine b_Cmp_takeLongestMove_38 ⟨by omega, by omega, fun c1 => ?_, fun c1 => ?_⟩
    · refine ih (j + 1) s (by omega) ?_
      rw [bs0, if_neg (by rw [← hs]; omega)]; exact hs
    · refine ih (j + 1) (mvL X Y P M i j, i, j) (by omega) ?_
      rw [bs0, if_pos (by rw [← hs]; omega)]
theorem tl_out {σ : Sto} (hW : CpW σ c X Y) (hP : CpP σ c X.length Y.length P M n) (hk : Keep σ0 σ (In c (c + 28))) : ∀ (d i : Nat), i + d = X.length → Aw Ω M_Cmp_takeLongestMove rm_Cmp_takeLongestMove (QTl Ω σ0 c n X Y P M) 0 0 9 [xr (some c), xi (bs1 X Y P M i).1, xi (bs1 X Y P M i).2.1, xi (bs1 X Y P M i).2.2, xi i, xu, xu] [] σ := by
  obtain ⟨hS, hX, hY⟩ := id hW
  obtain ⟨x1, x2, x3⟩ := id hX
  intro d
  induction d with
  | zero =>
    intro i hd
    have e : i = X.length := by omega
    subst e
    refine b_Cmp_takeLongestMove_9 ⟨hS.2.1, fun _ => ⟨by omega, fun _ => ?_, fun c1 => absurd (by omega) c1⟩⟩
    exact tl_set (bst X Y P M).1 0 σ (by omega) hW (by rw [tkS_0]; exact hP) hk
  | succ d ih =>
    intro i hd
    refine b_Cmp_takeLongestMove_9 ⟨hS.2.1, fun _ => ⟨by omega, fun c1 => absurd c1 (by omega), fun _ => ?_⟩⟩
    exact tl_in hW hP (by omega) (ih (i + 1) (by omega)) Y.length 0 (bs1 X Y P M i) (by omega) rfl
theorem k_Cmp_takeLongestMove {σ : Sto} (hW : CpW σ c X Y) (hP : CpP σ c X.length Y.length P M n) : MC Ω M_Cmp_takeLongestMove rm_Cmp_takeLongestMove (RI fun r σ' => CpW σ' c X Y ∧ CpP σ' c X.length Y.length P (tkM X Y P M) n ∧ Keep σ σ' (In c (c + 28)) ∧ r = if 0 < (bst X Y P M).1 then 1 else 0) XN σ [xr (some c)] :=
  e_Cmp_takeLongestMove (b_Cmp_takeLongestMove_0 (tl_out hW hP Keep.rf X.length 0 (by omega)))
theorem fm_loop : ∀ (d i : Nat) (σ : Sto) (M : Nat → Int), i + d = 20 → CpW σ c X Y → CpP σ c X.length Y.length P M n → Keep σ0 σ (In c (c + 28)) → Aw Ω M_Cmp_findMoves rm_Cmp_findMoves (MF Ω rm_Cmp_findMoves (RV fun σ' => CpW σ' c X Y ∧ CpP σ' c X.length Y.length P (mvF X Y P d M) n ∧ Keep σ0 σ' (In c (c + 28))) XN) 0 0 2 [xr (some c), xi i] [] σ := by
  intro d
  induction d with
  | zero =>
    intro i σ M hd hW hP hk
    exact b_Cmp_findMoves_2 ⟨by omega, fun _ => r_Cmp_findMoves_22 ⟨rfl, hW, hP, hk⟩ (by decide) (by decide), fun c1 => absurd (by omega) c1⟩
  | succ d ih =>
    intro i σ M hd hW hP hk
    refine b_Cmp_findMoves_2 ⟨by omega, fun c1 => absurd c1 (by omega), fun _ => ?_⟩
    refine c_Cmp_findMoves_9 (k_Cmp_takeLongestMove hW hP) hW.1.2.1 (by decide) (by decide) (by first | decide | omega) (by first | decide | omega) (Nat.le_of_ble_eq_true rfl) (fun z σ1 hq => ?_) (fun _ _ hx => hx.elim)
    obtain ⟨hW1, hP1, hk1, rfl⟩ := hq
    by_cases hb : 0 < (bst X Y P M).1
    · rw [if_pos hb]
      refine b_Cmp_findMoves_12 ⟨by decide, fun _ => ?_, fun c1 => absurd c1 (by decide)⟩
      have := ih (i + 1) σ1 (tkM X Y P M) (by omega) hW1 hP1 (hk.trans hk1)
      rw [mvF, if_pos hb]
      exact this
    · rw [if_neg hb]
      refine b_Cmp_findMoves_12 ⟨by decide, fun c1 => absurd rfl c1, fun _ => ?_⟩
      have e : (bst X Y P M).1 = 0 := by omega
      refine r_Cmp_findMoves_15 ⟨rfl, hW1, ?_, hk.trans hk1⟩ (by decide) (by decide)
      rw [mvF, if_neg hb]
      unfold tkM at hP1
      rw [e, tkS_0] at hP1
      exact hP1
theorem k_Cmp_findMoves {σ : Sto} (hW : CpW σ c X Y) (hP : CpP σ c X.length Y.length P M n) : MC Ω M_Cmp_findMoves rm_Cmp_findMoves (RV fun σ' => CpW σ' c X Y ∧ CpP σ' c X.length Y.length P (mvF X Y P 20 M) n ∧ Keep σ σ' (In c (c + 28))) XN σ [xr (some c)] :=
  e_Cmp_findMoves (b_Cmp_findMoves_0 (fm_loop 20 0 σ M (by omega) hW hP Keep.rf))
end CMV
