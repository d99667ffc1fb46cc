/-! BY HAND: Comparison, its tables -/
def lz : List Int64 → List Int64 → Nat
  | [], _ => 0
  | _ :: _, [] => 0
  | a :: s, b :: t => if a = b then lz s t + 1 else max (lz s (b :: t)) (lz (a :: s) t)
termination_by s t => s.length + t.length
theorem lz_nil (t : List Int64) : lz [] t = 0 := by rw [lz]
theorem lz_nil' (s : List Int64) : lz s [] = 0 := by cases s <;> rw [lz]
theorem lz_cons (a b : Int64) (s t : List Int64) : lz (a :: s) (b :: t) = if a = b then lz s t + 1 else max (lz s (b :: t)) (lz (a :: s) t) := by rw [lz]
theorem lz_le : ∀ (n : Nat) (s t : List Int64), s.length + t.length ≤ n → lz s t ≤ s.length := by
  intro n
  induction n with
  | zero =>
    intro s t h
    have : s = [] := List.eq_nil_of_length_eq_zero (by omega)
    subst this
    rw [lz_nil]; exact Nat.zero_le _
  | succ n ih =>
    intro s t h
    cases s with
    | nil => rw [lz_nil]; exact Nat.zero_le _
    | cons a s =>
      cases t with
      | nil => rw [lz_nil']; exact Nat.zero_le _
      | cons b t =>
        simp only [List.length_cons] at h
        rw [lz_cons, List.length_cons]
        have h1 := ih s t (by omega)
        have h2 := ih s (b :: t) (by rw [List.length_cons]; omega)
        have h3 := ih (a :: s) t (by rw [List.length_cons]; omega)
        rw [List.length_cons] at h3
        split <;> omega
def gx (X : List Int64) (i : Nat) : Int64 := X.getD i 0
theorem gx_of {X : List Int64} {i : Nat} (h : i < X.length) : X[i] = gx X i := by rw [gx, List.getD_eq_getElem?_getD, List.getElem?_eq_getElem h, Option.getD_some]
def tb (X Y : List Int64) (i j : Nat) : Nat := lz (X.drop i) (Y.drop j)
theorem tb_end {X Y : List Int64} {i j : Nat} (h : X.length ≤ i ∨ Y.length ≤ j) : tb X Y i j = 0 := by
  unfold tb
  cases h with
  | inl h => rw [List.drop_eq_nil_of_le h, lz_nil]
  | inr h => rw [List.drop_eq_nil_of_le h, lz_nil']
theorem tb_step {X Y : List Int64} {i j : Nat} (hi : i < X.length) (hj : j < Y.length) : tb X Y i j = if gx X i = gx Y j then tb X Y (i + 1) (j + 1) + 1 else max (tb X Y (i + 1) j) (tb X Y i (j + 1)) := by
  unfold tb
  rw [List.drop_eq_getElem_cons hi, List.drop_eq_getElem_cons hj, lz_cons, gx_of hi, gx_of hj]
theorem tb_le (X Y : List Int64) (i j : Nat) : tb X Y i j ≤ X.length - i := by
  have := lz_le _ (X.drop i) (Y.drop j) (Nat.le_refl _)
  rw [List.length_drop] at this
  exact this
def CpS (σ : Sto) (c : Nat) : Prop := c + 27 < sN σ ∧ sK σ c = 2 ∧ fR σ 64 c = some (c + 1) ∧ fR σ 65 c = some (c + 2) ∧ fR σ 66 c = some (c + 3) ∧ fR σ 67 c = some (c + 4) ∧ fR σ 68 c = some (c + 5) ∧ fR σ 69 c = some (c + 6) ∧ sK σ (c + 1) = 51 ∧ sK σ (c + 2) = 51 ∧ sK σ (c + 3) = 50 ∧ sK σ (c + 4) = 50 ∧ sK σ (c + 5) = 52 ∧ sK σ (c + 6) = 53 ∧ sZ σ (c + 1) = 20 ∧ sZ σ (c + 2) = 20 ∧ sZ σ (c + 3) = 20 ∧ sZ σ (c + 4) = 20 ∧ sZ σ (c + 5) = 20 ∧ sZ σ (c + 6) = 21 ∧ ∀ i, i ≤ 20 → aR σ (c + 6) i = some (c + 7 + i) ∧ sK σ (c + 7 + i) = 50 ∧ sZ σ (c + 7 + i) = 21
def CpX (σ : Sto) (c : Nat) (X : List Int64) : Prop := fI σ 70 c = X.length ∧ X.length ≤ 20 ∧ ∀ i, i < X.length → aL σ (c + 1) i = gx X i
def CpY (σ : Sto) (c : Nat) (Y : List Int64) : Prop := fI σ 71 c = Y.length ∧ Y.length ≤ 20 ∧ ∀ i, i < Y.length → aL σ (c + 2) i = gx Y i
def CpT (σ : Sto) (c : Nat) (X Y : List Int64) : Prop := ∀ i j, i ≤ X.length → j ≤ Y.length → aI σ (c + 7 + i) j = tb X Y i j
/-- references and kinds stay -/
def Shp (σ σ' : Sto) : Prop := sN σ ≤ sN σ' ∧ ∀ a, a < sN σ → sK σ' a = sK σ a ∧ sZ σ' a = sZ σ a ∧ (∀ f, fR σ' f a = fR σ f a) ∧ aR σ' a = aR σ a
theorem CpS.shp {σ σ' : Sto} {c : Nat} (h : CpS σ c) (k : Shp σ σ') : CpS σ' c := by
  obtain ⟨h0, h1, f1, f2, f3, f4, f5, f6, k1, k2, k3, k4, k5, k6, z1, z2, z3, z4, z5, z6, hr⟩ := h
  have e : ∀ d, d ≤ 27 → sK σ' (c + d) = sK σ (c + d) ∧ sZ σ' (c + d) = sZ σ (c + d) ∧ (∀ f, fR σ' f (c + d) = fR σ f (c + d)) ∧ aR σ' (c + d) = aR σ (c + d) := fun d hd => k.2 _ (by omega)
  have e0 := e 0 (by omega)
  have e1 := e 1 (by omega)
  have e2 := e 2 (by omega)
  have e3 := e 3 (by omega)
  have e4 := e 4 (by omega)
  have e5 := e 5 (by omega)
  have e6 := e 6 (by omega)
  refine ⟨Nat.lt_of_lt_of_le h0 k.1, e0.1.trans h1, (e0.2.2.1 _).trans f1, (e0.2.2.1 _).trans f2, (e0.2.2.1 _).trans f3, (e0.2.2.1 _).trans f4, (e0.2.2.1 _).trans f5, (e0.2.2.1 _).trans f6, e1.1.trans k1, e2.1.trans k2, e3.1.trans k3, e4.1.trans k4, e5.1.trans k5, e6.1.trans k6, e1.2.1.trans z1, e2.2.1.trans z2, e3.2.1.trans z3, e4.2.1.trans z4, e5.2.1.trans z5, e6.2.1.trans z6, fun i hi => ?_⟩
  have e7 := k.2 (c + 7 + i) (by omega)
  rw [e6.2.2.2, e7.1, e7.2.1]
  exact hr i hi
theorem CpS.keep {σ σ' : Sto} {c : Nat} {P : Nat → Prop} (h : CpS σ c) (k : Keep σ σ' P) (dj : ∀ b, c ≤ b → b ≤ c + 27 → ¬ P b) : CpS σ' c := by
  obtain ⟨h0, h1, f1, f2, f3, f4, f5, f6, k1, k2, k3, k4, k5, k6, z1, z2, z3, z4, z5, z6, hr⟩ := h
  have e : ∀ d, d ≤ 27 → Same1 σ σ' (c + d) := fun d hd => k.2 _ (by omega) (dj _ (by omega) (by omega))
  have e0 := e 0 (by omega)
  have e1 := e 1 (by omega)
  have e2 := e 2 (by omega)
  have e3 := e 3 (by omega)
  have e4 := e 4 (by omega)
  have e5 := e 5 (by omega)
  have e6 := e 6 (by omega)
  refine ⟨Nat.lt_of_lt_of_le h0 k.1, e0.1.trans h1, (e0.2.2.2.2.1 _).trans f1, (e0.2.2.2.2.1 _).trans f2, (e0.2.2.2.2.1 _).trans f3, (e0.2.2.2.2.1 _).trans f4, (e0.2.2.2.2.1 _).trans f5, (e0.2.2.2.2.1 _).trans f6, e1.1.trans k1, e2.1.trans k2, e3.1.trans k3, e4.1.trans k4, e5.1.trans k5, e6.1.trans k6, e1.2.1.trans z1, e2.2.1.trans z2, e3.2.1.trans z3, e4.2.1.trans z4, e5.2.1.trans z5, e6.2.1.trans z6, fun i hi => ?_⟩
  have e7 := k.2 (c + 7 + i) (by omega) (dj _ (by omega) (by omega))
  rw [e6.2.2.2.2.2.2.2, e7.1, e7.2.1]
  exact hr i hi
theorem CpX.keep {σ σ' : Sto} {c : Nat} {X : List Int64} {P : Nat → Prop} (h : CpX σ c X) (k : Keep σ σ' P) (hc : c + 27 < sN σ) (d0 : ¬ P c) (d1 : ¬ P (c + 1)) : CpX σ' c X := by
  have e0 := k.2 c (by omega) d0
  have e1 := k.2 (c + 1) (by omega) d1
  refine ⟨(e0.2.2.1 _).trans h.1, h.2.1, fun i hi => ?_⟩
  rw [e1.2.2.2.2.2.2.1]; exact h.2.2 i hi
theorem CpY.keep {σ σ' : Sto} {c : Nat} {Y : List Int64} {P : Nat → Prop} (h : CpY σ c Y) (k : Keep σ σ' P) (hc : c + 27 < sN σ) (d0 : ¬ P c) (d1 : ¬ P (c + 2)) : CpY σ' c Y := by
  have e0 := k.2 c (by omega) d0
  have e1 := k.2 (c + 2) (by omega) d1
  refine ⟨(e0.2.2.1 _).trans h.1, h.2.1, fun i hi => ?_⟩
  rw [e1.2.2.2.2.2.2.1]; exact h.2.2 i hi
section CP
variable {Ω : Om} {σ0 : Sto} {c : Nat} {X Y : List Int64}
abbrev QCp (Ω : Om) (σ0 : Sto) (c : Nat) (X Y : List Int64) : QF := MF Ω rm_Cmp_countPairs (RV fun σ' => CpS σ' c ∧ CpX σ' c X ∧ CpY σ' c Y ∧ CpT σ' c X Y ∧ Keep σ0 σ' (In (c + 7) (c + 28))) XN
/-- rows behind i are full, row i from d on -/
def JP (σ0 : Sto) (c : Nat) (X Y : List Int64) (i d : Nat) (σ : Sto) : Prop := CpS σ c ∧ CpX σ c X ∧ CpY σ c Y ∧ Keep σ0 σ (In (c + 7) (c + 28)) ∧ (∀ p j, i < p → p ≤ X.length → j ≤ Y.length → aI σ (c + 7 + p) j = tb X Y p j) ∧ ∀ j, d ≤ j → j ≤ Y.length → aI σ (c + 7 + i) j = tb X Y i j
theorem cp_in {i : Nat} (hi : i ≤ X.length) (out : ∀ σ, JP σ0 c X Y i 0 σ → Aw Ω M_Cmp_countPairs rm_Cmp_countPairs (QCp Ω σ0 c X Y) 0 0 5 [xr (some c), xi ((i : Int) + (-1)), xu] [] σ) :
    ∀ (d : Nat) (σ : Sto), d ≤ Y.length + 1 → JP σ0 c X Y i d σ → Aw Ω M_Cmp_countPairs rm_Cmp_countPairs (QCp Ω σ0 c X Y) 0 0 14 [xr (some c), xi i, xi ((d : Int) + (-1))] [] σ := by
  intro d
  induction d with
  | zero =>
    intro σ hd hJ
    exact b_Cmp_countPairs_14 ⟨by omega, fun _ => out σ hJ, fun c => absurd c (by omega)⟩
  | succ d ih =>
    intro σ hd hJ
    obtain ⟨hS, hX, hY, hk, hp, hrow⟩ := id hJ
    obtain ⟨h0, h1, f1, f2, f3, f4, f5, f6, k1, k2, k3, k4, k5, k6, z1, z2, z3, z4, z5, z6, hr⟩ := id hS
    obtain ⟨x1, x2, x3⟩ := id hX
    obtain ⟨y1, y2, y3⟩ := id hY
    have ed : ((d + 1 : Nat) : Int) + (-1) = (d : Int) := by omega
    rw [ed]
    have ri := hr i (by omega)
    have step : ∀ v : Int, v = tb X Y i d → Aw Ω M_Cmp_countPairs rm_Cmp_countPairs (QCp Ω σ0 c X Y) 0 0 14 [xr (some c), xi i, xi ((d : Int) + (-1))] [] (vI σ (c + 7 + i) d v) := by
      intro v hv
      have kk : Keep σ (vI σ (c + 7 + i) d v) (In (c + 7) (c + 28)) := Keep.vI (by omega)
      refine ih _ (by omega) ⟨hS, hX, hY, hk.trans kk, fun p j h1 h2 h3 => ?_, fun j h1 h2 => ?_⟩
      · rw [aI_vI, if_neg (by omega)]; exact hp p j h1 h2 h3
      · rw [aI_vI]
        by_cases e : j = d
        · rw [if_pos ⟨rfl, e⟩, hv, e]
        · rw [if_neg (by omega)]; exact hrow j (by omega) h2
    refine b_Cmp_countPairs_14 ⟨by omega, fun c => absurd c (by omega), fun _ => ⟨h1, fun _ => ⟨by omega, fun c1 => ?_, fun c1 => fun _ => ⟨fun c2 => ?_, fun c2 => ?_⟩⟩⟩⟩
    · refine ⟨_, f6, k6, by omega, by rw [z6]; omega, _, ri.1, ri.2.1, by omega, by rw [ri.2.2]; omega, step 0 ?_⟩
      rw [tb_end (Or.inl (by omega))]; rfl
    · have li : i < X.length := by omega
      have lj : d < Y.length := by omega
      have ri' := hr (i + 1) (by omega)
      refine ⟨_, f1, k1, by omega, by rw [z1]; omega, _, f2, k2, by omega, by rw [z2]; omega, cmpL_r _ _, fun c3 => ?_, fun c3 => ?_⟩
      · have c4 : ¬ gx X i = gx Y d := fun e => c3 ((cmpL_0 _ _).mpr (show aL σ (c + 1) i = aL σ (c + 2) d by rw [x3 i li, y3 d lj, e]))
        have a1 := hp (i + 1) d (Nat.lt_succ_self _) li (by omega)
        have a2 := hrow (d + 1) (Nat.le_refl _) lj
        have b1 := tb_le X Y (i + 1) d
        have b2 := tb_le X Y i (d + 1)
        have q1 : maxI (aI σ (c + 7 + (i + 1)) d) (aI σ (c + 7 + i) (d + 1)) = tb X Y i d := by
          rw [a1, a2, tb_step li lj, if_neg c4]
          unfold maxI; split <;> omega
        refine ⟨_, f6, k6, by omega, by rw [z6]; omega, by omega, by rw [z6]; omega, _, ri'.1, ri'.2.1, by omega, by rw [ri'.2.2]; omega, fun q5 => ⟨_, ri.1, ri.2.1, by omega, by rw [ri.2.2]; omega, fun q6 => ⟨q5, q6, by decide, Nat.le_of_ble_eq_true rfl, by decide, by decide, _, ri.1, ri.2.1, by omega, by rw [ri.2.2]; omega, ?_, ?_⟩⟩⟩
        · show Q32 (maxI (aI σ (c + 7 + (i + 1)) d) (aI σ (c + 7 + i) (d + 1)))
          have b3 := tb_le X Y i d
          rw [q1]; omega
        · exact step _ q1
      · have c4 : gx X i = gx Y d := by
          have := (cmpL_0 _ _).mp c3
          have e : aL σ (c + 1) i = aL σ (c + 2) d := this
          rw [x3 i li, y3 d lj] at e; exact e
        have a1 := hp (i + 1) (d + 1) (Nat.lt_succ_self _) li (by omega)
        have b1 := tb_le X Y (i + 1) (d + 1)
        refine ⟨_, f6, k6, by omega, by rw [z6]; omega, by omega, by rw [z6]; omega, _, ri'.1, ri'.2.1, by omega, by rw [ri'.2.2]; omega, fun q5 => ⟨_, ri.1, ri.2.1, by omega, by rw [ri.2.2]; omega, ?_, ?_⟩⟩
        · show Q32 (aI σ (c + 7 + (i + 1)) (d + 1) + 1)
          rw [a1]; omega
        · refine step _ ?_
          show aI σ (c + 7 + (i + 1)) (d + 1) + 1 = tb X Y i d
          rw [a1, tb_step li lj, if_pos c4]; rfl
    · refine ⟨_, f6, k6, by omega, by rw [z6]; omega, _, ri.1, ri.2.1, by omega, by rw [ri.2.2]; omega, step 0 ?_⟩
      rw [tb_end (Or.inr (by omega))]; rfl
theorem cp_out : ∀ (d : Nat) (σ : Sto), d ≤ X.length + 1 → CpS σ c → CpX σ c X → CpY σ c Y → Keep σ0 σ (In (c + 7) (c + 28)) → (∀ p j, d ≤ p → p ≤ X.length → j ≤ Y.length → aI σ (c + 7 + p) j = tb X Y p j) → Aw Ω M_Cmp_countPairs rm_Cmp_countPairs (QCp Ω σ0 c X Y) 0 0 5 [xr (some c), xi ((d : Int) + (-1)), xu] [] σ := by
  intro d
  induction d with
  | zero =>
    intro σ hd hS hX hY hk hp
    refine b_Cmp_countPairs_5 ⟨by omega, fun _ => ?_, fun c => absurd c (by omega)⟩
    exact r_Cmp_countPairs_130 ⟨rfl, hS, hX, hY, fun i j h1 h2 => hp i j (Nat.zero_le _) h1 h2, hk⟩ (by decide) (by decide)
  | succ d ih =>
    intro σ hd hS hX hY hk hp
    have ed : ((d + 1 : Nat) : Int) + (-1) = (d : Int) := by omega
    rw [ed]
    refine b_Cmp_countPairs_5 ⟨by have := hX.2.1; omega, fun c => absurd c (by omega), fun _ => ⟨hS.2.1, fun _ => ?_⟩⟩
    have := cp_in (Ω := Ω) (σ0 := σ0) (c := c) (X := X) (Y := Y) (i := d) (by omega) (fun σ' hJ => ?_) (Y.length + 1) σ (Nat.le_refl _) ⟨hS, hX, hY, hk, fun p j h1 h2 h3 => hp p j h1 h2 h3, fun j h1 h2 => by omega⟩
    · have e2 : ((Y.length + 1 : Nat) : Int) + (-1) = fI σ 71 c := by rw [hY.1]; omega
      rw [e2] at this
      exact this
    · obtain ⟨gS, gX, gY, gk, gp, grow⟩ := hJ
      refine ih σ' (by omega) gS gX gY gk (fun p j h1 h2 h3 => ?_)
      by_cases e : p = d
      · rw [e]; exact grow j (Nat.zero_le _) h3
      · exact gp p j (by omega) h2 h3
theorem k_Cmp_countPairs {σ : Sto} (hS : CpS σ c) (hX : CpX σ c X) (hY : CpY σ c Y) : MC Ω M_Cmp_countPairs rm_Cmp_countPairs (RV fun σ' => CpS σ' c ∧ CpX σ' c X ∧ CpY σ' c Y ∧ CpT σ' c X Y ∧ Keep σ σ' (In (c + 7) (c + 28))) XN σ [xr (some c)] := by
  refine e_Cmp_countPairs (b_Cmp_countPairs_0 ⟨hS.2.1, fun _ => ?_⟩)
  have := cp_out (Ω := Ω) (X.length + 1) σ (Nat.le_refl _) hS hX hY Keep.rf (fun p j h1 h2 _ => by omega)
  have e2 : ((X.length + 1 : Nat) : Int) + (-1) = fI σ 70 c := by rw [hX.1]; omega
  rw [e2] at this
  exact this
end CP
