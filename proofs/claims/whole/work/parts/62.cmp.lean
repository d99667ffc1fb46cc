/-! BY HAND: Comparison, the walk and pairUp -/
theorem fr_up {a i j j' : Nat} {P M : Nat → Int} (hi : i < a) (hP : P i = -1) : fr a (up1 P i (j : Int)) M j' = (fr a P M j' && decide (j' ≠ j)) := by
  rw [Bool.eq_iff_iff, Bool.and_eq_true, fr_iff, fr_iff, decide_eq_true_iff]
  constructor
  · intro h
    refine ⟨fun k hk => ?_, ?_⟩
    · have := h k hk
      by_cases e : k = i
      · subst e; exact ⟨by omega, this.2⟩
      · rw [up1_at, if_neg e] at this; exact this
    · intro e
      have := (h i hi).1
      rw [up1_at, if_pos rfl, e] at this
      exact this rfl
  · intro h k hk
    rw [up1_at]
    split
    · exact ⟨fun e => h.2 (by omega), (h.1 k hk).2⟩
    · exact h.1 k hk
theorem CpX.uI {σ : Sto} {c f a : Nat} {X : List Int64} {v : Int} (h : CpX σ c X) (hf : f ≠ 70) : CpX (uI σ f a v) c X := by
  refine ⟨?_, h.2.1, h.2.2⟩
  rw [fI_uI, if_neg (fun z => hf z.1.symm)]; exact h.1
theorem CpY.uI {σ : Sto} {c f a : Nat} {Y : List Int64} {v : Int} (h : CpY σ c Y) (hf : f ≠ 71) : CpY (uI σ f a v) c Y := by
  refine ⟨?_, h.2.1, h.2.2⟩
  rw [fI_uI, if_neg (fun z => hf z.1.symm)]; exact h.1
theorem CpX.vI {σ : Sto} {c a i : Nat} {X : List Int64} {v : Int} (h : CpX σ c X) : CpX (vI σ a i v) c X := h
theorem CpY.vI {σ : Sto} {c a i : Nat} {Y : List Int64} {v : Int} (h : CpY σ c Y) : CpY (vI σ a i v) c Y := h
theorem CpT.vI {σ : Sto} {c a i : Nat} {X Y : List Int64} {v : Int} (h : CpT σ c X Y) (ha : a < c + 7) : CpT (vI σ a i v) c X Y := fun p j hp hj => by
  rw [aI_vI, if_neg (by omega)]; exact h p j hp hj
section CMW
variable {Ω : Om} {σ0 : Sto} {c : Nat} {X Y : List Int64}
abbrev CpW (σ : Sto) (c : Nat) (X Y : List Int64) : Prop := CpS σ c ∧ CpX σ c X ∧ CpY σ c Y
abbrev QCw (Ω : Om) (σ0 : Sto) (c : Nat) (X Y : List Int64) : QF := MF Ω rm_Cmp_walk (RV fun σ' => CpW σ' c X Y ∧ CpP σ' c X.length Y.length (prW X Y).1 (fun _ => -1) (prW X Y).2 ∧ Keep σ0 σ' (In c (c + 28))) XN
theorem walk_loop : ∀ (f i j n : Nat) (P : Nat → Int) (σ : Sto), X.length + Y.length ≤ i + j + f → i ≤ X.length → j ≤ Y.length → n ≤ i → wk X Y f i j P n = prW X Y → CpW σ c X Y → CpT σ c X Y → CpP σ c X.length Y.length P (fun _ => -1) n → (∀ k, i ≤ k → P k = -1) → Keep σ0 σ (In c (c + 28)) → Aw Ω M_Cmp_walk rm_Cmp_walk (QCw Ω σ0 c X Y) 0 0 56 [xr (some c), xi i, xi j] [] σ := by
  intro f
  induction f with
  | zero =>
    intro i j n P σ hf hi hj hn hw hW hT hP hM hk
    obtain ⟨hS, hX, hY⟩ := id hW
    refine b_Cmp_walk_56 ⟨hS.2.1, fun q1 => ⟨by have := hX.2.1; omega, fun _ => ?_, fun c1 => absurd (show fI σ 70 c ≤ i by rw [hX.1]; omega) c1⟩⟩
    rw [wk_end (by omega)] at hw
    exact r_Cmp_walk_154 ⟨rfl, hW, by rw [← hw]; exact hP, hk⟩ (by decide) (by decide)
  | succ f ih =>
    intro i j n P σ hf hi hj hn hw hW hT hP hM hk
    obtain ⟨hS, hX, hY⟩ := id hW
    obtain ⟨h0, h1, f1, f2, f3, f4, f5, f6, k1, k2, k3, k4, k5, k6, z1, z2, z3, z4, z5, z6, hr⟩ := id hS
    obtain ⟨x1, x2, x3⟩ := id hX
    obtain ⟨y1, y2, y3⟩ := id hY
    have fin : ¬ (i < X.length ∧ j < Y.length) → Aw Ω M_Cmp_walk rm_Cmp_walk (QCw Ω σ0 c X Y) 0 0 154 [xr (some c), xi i, xi j] [] σ := fun h => by
      rw [wk_end h] at hw
      exact r_Cmp_walk_154 ⟨rfl, hW, by rw [← hw]; exact hP, hk⟩ (by decide) (by decide)
    refine b_Cmp_walk_56 ⟨h1, fun _ => ⟨by omega, fun c1 => fin (by omega), fun c1 => fun _ => ⟨by omega, fun c2 => fin (by omega), fun c2 => ?_⟩⟩⟩
    have li : i < X.length := by omega
    have lj : j < Y.length := by omega
    have ri := hr i (by omega)
    have ri' := hr (i + 1) (by omega)
    refine ⟨_, f1, k1, by omega, by rw [z1]; omega, _, f2, k2, by omega, by rw [z2]; omega, cmpL_r _ _, fun c3 => ?_, fun c3 => ?_⟩
    · have c4 : ¬ gx X i = gx Y j := fun e => c3 ((cmpL_0 _ _).mpr (show aL σ (c + 1) i = aL σ (c + 2) j by rw [x3 i li, y3 j lj, e]))
      refine ⟨_, f6, k6, by omega, by rw [z6]; omega, _, ri'.1, ri'.2.1, by omega, by rw [ri'.2.2]; omega, fun _ => ⟨by omega, by rw [z6]; omega, _, ri.1, ri.2.1, by omega, by rw [ri.2.2]; omega, fun _ => ⟨fun c5 => ?_, fun c5 => ?_⟩⟩⟩
      · have c6 : aI σ (c + 7 + (i + 1)) j < aI σ (c + 7 + i) j := c5
        rw [hT (i + 1) j li hj, hT i j hi hj] at c6
        rw [wk_new li lj c4 (by omega)] at hw
        exact ih i (j + 1) n P σ (by omega) hi lj hn hw hW hT hP hM hk
      · have c6 : ¬ aI σ (c + 7 + (i + 1)) j < aI σ (c + 7 + i) j := c5
        rw [hT (i + 1) j li hj, hT i j hi hj] at c6
        rw [wk_gone li lj c4 (by omega)] at hw
        exact ih (i + 1) j n P σ (by omega) li hj (by omega) hw hW hT hP (fun k hk => hM k (by omega)) hk
    · have c4 : gx X i = gx Y j := by
        have e : aL σ (c + 1) i = aL σ (c + 2) j := (cmpL_0 _ _).mp c3
        rw [x3 i li, y3 j lj] at e; exact e
      obtain ⟨p1, p2, p3⟩ := id hP
      refine ⟨_, f3, k3, by omega, by rw [z3]; omega, _, f5, k5, by omega, by rw [z5]; omega, fun _ => ⟨by rw [p1]; omega, ?_⟩⟩
      rw [wk_eq li lj c4] at hw
      have kk : Keep σ (uI (vI (vI σ (c + 3) i j) (c + 5) j 0) 72 c (fI σ 72 c + 1)) (In c (c + 28)) := (Keep.vI (by omega)).trans ((Keep.vI (by omega)).trans (Keep.uI (by omega)))
      refine ih (i + 1) (j + 1) (n + 1) (up1 P i (j : Int)) (uI (vI (vI σ (c + 3) i j) (c + 5) j 0) 72 c (fI σ 72 c + 1)) (by omega) li lj (by omega) hw ⟨hS, hX.vI.vI.uI (by decide), hY.vI.vI.uI (by decide)⟩ ((hT.vI (by omega)).vI (by omega)) ⟨?_, fun k hk => ?_, fun j' hj' => ?_⟩ (fun k hk => ?_) (hk.trans kk)
      · rw [fI_uI, if_pos ⟨rfl, rfl⟩, p1]; omega
      · rw [aI_uI, aI_vI, aI_vI, if_neg (by omega), up1_at]
        refine ⟨?_, ?_⟩
        · by_cases e : k = i
          · rw [if_pos ⟨rfl, e⟩, if_pos e]
          · rw [if_neg (fun z => e z.2), if_neg e]; exact (p2 k hk).1
        · rw [aI_vI, if_neg (by omega), aI_vI, if_neg (by omega)]; exact (p2 k hk).2
      · rw [aI_uI, aI_vI, fr_up li (hM i (Nat.le_refl _)), Bool.and_eq_false_iff, decide_eq_false_iff_not]
        by_cases e : j' = j
        · rw [if_pos ⟨rfl, e⟩]; exact ⟨fun _ => Or.inr (fun z => z e), fun _ => rfl⟩
        · rw [if_neg (fun z => e z.2), aI_vI, if_neg (by omega), p3 j' hj']
          exact ⟨fun h => Or.inl h, fun h => h.elim id (fun z => absurd e z)⟩
      · rw [up1_at, if_neg (by omega)]; exact hM k (by omega)
theorem walk_init : ∀ (d i : Nat) (σ : Sto), i + d = 20 → CpW σ c X Y → CpT σ c X Y → Keep σ0 σ (In c (c + 28)) → (∀ k, k < i → aI σ (c + 3) k = -1 ∧ aI σ (c + 4) k = -1 ∧ (aI σ (c + 5) k = 0 ↔ Y.length ≤ k)) → Aw Ω M_Cmp_walk rm_Cmp_walk (QCw Ω σ0 c X Y) 0 0 2 [xr (some c), xi i, xu] [] σ := by
  intro d
  induction d with
  | zero =>
    intro i σ hd hW hT hk hi
    obtain ⟨hS, hX, hY⟩ := id hW
    have x2 := hX.2.1
    have y2 := hY.2.1
    refine b_Cmp_walk_2 ⟨by omega, fun _ => ⟨hS.2.1, ?_⟩, fun c1 => absurd (by omega) c1⟩
    have kk : Keep σ (uI σ 72 c 0) (In c (c + 28)) := Keep.uI (by omega)
    refine walk_loop (X.length + Y.length) 0 0 0 (fun _ => -1) _ (by omega) (Nat.zero_le _) (Nat.zero_le _) (Nat.le_refl _) rfl ⟨hS, hX.uI (by decide), hY.uI (by decide)⟩ hT ⟨?_, fun k hk => ?_, fun j hj => ?_⟩ (fun _ _ => rfl) (hk.trans kk)
    · rw [fI_uI, if_pos ⟨rfl, rfl⟩]; rfl
    · rw [aI_uI]; exact ⟨(hi k (by omega)).1, (hi k (by omega)).2.1⟩
    · rw [aI_uI, (hi j (by omega)).2.2]
      refine ⟨fun h => absurd h (by omega), fun h => ?_⟩
      have : fr X.length (fun _ => -1) (fun _ => -1) j = true := fr_iff.mpr (fun k hk => ⟨by omega, by omega⟩)
      rw [this] at h; cases h
  | succ d ih =>
    intro i σ hd hW hT hk hi
    obtain ⟨hS, hX, hY⟩ := id hW
    obtain ⟨h0, h1, f1, f2, f3, f4, f5, f6, k1, k2, k3, k4, k5, k6, z1, z2, z3, z4, z5, z6, hr⟩ := id hS
    have y1 := hY.1
    have step : ∀ v : Int, (v = 0 ↔ Y.length ≤ i) → Aw Ω M_Cmp_walk rm_Cmp_walk (QCw Ω σ0 c X Y) 0 0 2 [xr (some c), xi ((i : Int) + 1), xu] [] (vI (vI (vI σ (c + 3) i (-1)) (c + 4) i (-1)) (c + 5) i v) := by
      intro v hv
      have kk : Keep σ (vI (vI (vI σ (c + 3) i (-1)) (c + 4) i (-1)) (c + 5) i v) (In c (c + 28)) := (Keep.vI (by omega)).trans ((Keep.vI (by omega)).trans (Keep.vI (by omega)))
      refine ih (i + 1) _ (by omega) ⟨hS, hX, hY⟩ (((hT.vI (by omega)).vI (by omega)).vI (by omega)) (hk.trans kk) (fun k hk2 => ?_)
      have a3 : aI (vI (vI (vI σ (c + 3) i (-1)) (c + 4) i (-1)) (c + 5) i v) (c + 3) k = if k = i then -1 else aI σ (c + 3) k := by
        rw [aI_vI, if_neg (by omega), aI_vI, if_neg (by omega), aI_vI]
        by_cases e : k = i
        · rw [if_pos ⟨rfl, e⟩, if_pos e]
        · rw [if_neg (fun z => e z.2), if_neg e]
      have a4 : aI (vI (vI (vI σ (c + 3) i (-1)) (c + 4) i (-1)) (c + 5) i v) (c + 4) k = if k = i then -1 else aI σ (c + 4) k := by
        rw [aI_vI, if_neg (by omega), aI_vI]
        by_cases e : k = i
        · rw [if_pos ⟨rfl, e⟩, if_pos e]
        · rw [if_neg (fun z => e z.2), if_neg e, aI_vI, if_neg (by omega)]
      have a5 : aI (vI (vI (vI σ (c + 3) i (-1)) (c + 4) i (-1)) (c + 5) i v) (c + 5) k = if k = i then v else aI σ (c + 5) k := by
        rw [aI_vI]
        by_cases e : k = i
        · rw [if_pos ⟨rfl, e⟩, if_pos e]
        · rw [if_neg (fun z => e z.2), if_neg e, aI_vI, if_neg (by omega), aI_vI, if_neg (by omega)]
      rw [a3, a4, a5]
      by_cases e : k = i
      · rw [if_pos e, if_pos e, if_pos e, e]; exact ⟨rfl, rfl, hv⟩
      · rw [if_neg e, if_neg e, if_neg e]; exact hi k (by omega)
    refine b_Cmp_walk_2 ⟨by omega, fun c1 => absurd c1 (by omega), fun _ => ⟨h1, _, f3, k3, by omega, by rw [z3]; omega, _, f4, k4, by omega, by rw [z4]; omega, _, f5, fun _ => ⟨fun c2 => ⟨k5, by omega, by rw [z5]; omega, ?_⟩, fun c2 => ⟨k5, by omega, by rw [z5]; omega, ?_⟩⟩⟩⟩
    · exact step 0 ⟨fun _ => by omega, fun _ => rfl⟩
    · exact step 1 ⟨fun h => by omega, fun h => absurd (show fI σ 71 c ≤ i by omega) c2⟩
theorem k_Cmp_walk {σ : Sto} (hW : CpW σ c X Y) (hT : CpT σ c X Y) : MC Ω M_Cmp_walk rm_Cmp_walk (RV fun σ' => CpW σ' c X Y ∧ CpP σ' c X.length Y.length (prW X Y).1 (fun _ => -1) (prW X Y).2 ∧ Keep σ σ' (In c (c + 28))) XN σ [xr (some c)] :=
  e_Cmp_walk (b_Cmp_walk_0 (walk_init 20 0 σ (by omega) hW hT Keep.rf (fun k h => by omega)))
theorem k_Cmp_pairUp {σ : Sto} {t u : Nat} {T U : List (Int64 × Int)} {lb : Int} (hS : CpS σ c) (hT : Tx σ t T) (hU : Tx σ u U) (lT : T.length ≤ 20) (lU : U.length ≤ 20) (dt : t + 2 < c ∨ c + 27 < t) (du : u + 2 < c ∨ c + 27 < u) (hlb : Q32 lb) : MC Ω M_Cmp_pairUp rm_Cmp_pairUp (RV fun σ' => CpW σ' c (XL lb T) (XL lb U) ∧ CpP σ' c T.length U.length (prW (XL lb T) (XL lb U)).1 (fun _ => -1) (prW (XL lb T) (XL lb U)).2 ∧ Keep σ σ' (In c (c + 28))) XN σ [xr (some c), xr (some t), xr (some u), xi lb] := by
  obtain ⟨h0, h1, f1, f2, f3, f4, f5, f6, k1, k2, k3, k4, k5, k6, z1, z2, z3, z4, z5, z6, hr⟩ := id hS
  refine e_Cmp_pairUp (b_Cmp_pairUp_0 ⟨h1, _, f1, ?_⟩)
  refine c_Cmp_pairUp_7 (k_Cmp_read hT lT k1 z1 (by omega) hlb) (by decide) (by decide) (by first | decide | omega) (by first | decide | omega) (Nat.le_of_ble_eq_true rfl) (fun z σ1 hq => ?_) (fun _ _ hx => hx.elim)
  obtain ⟨rfl, g1, gk, gs⟩ := hq
  have hS1 := hS.shp gs
  obtain ⟨i0, i1, j1, j2, j3, j4, j5, j6, l1, l2, l3, l4, l5, l6, y1, y2, y3, y4, y5, y6, ir⟩ := id hS1
  refine b_Cmp_pairUp_10 ⟨i1, by omega, i1, _, j2, ?_⟩
  have ka : Keep σ1 (uI σ1 70 c T.length) (At1 c) := Keep.uI rfl
  have hU2 : Tx (uI σ1 70 c T.length) u U := (hU.keep gk (fun b h1 h2 h3 => by omega)).keep ka (fun b h1 h2 h3 => by omega)
  refine c_Cmp_pairUp_20 (k_Cmp_read hU2 lU l2 y2 (by omega) hlb) (by decide) (by decide) (by first | decide | omega) (by first | decide | omega) (Nat.le_of_ble_eq_true rfl) (fun z2 σ2 hq => ?_) (fun _ _ hx => hx.elim)
  obtain ⟨rfl, g2, gk2, gs2⟩ := hq
  have hS2 := (hS1.shp (Shp.uI (f := 70) (a := c) (v := (T.length : Int)))).shp gs2
  refine b_Cmp_pairUp_23 ⟨hS2.2.1, by omega, ?_⟩
  have kb : Keep σ2 (uI σ2 71 c U.length) (At1 c) := Keep.uI rfl
  have hS3 : CpS (uI σ2 71 c U.length) c := hS2.shp Shp.uI
  have n1 : c + 27 < sN σ1 := Nat.lt_of_lt_of_le h0 gk.1
  have e0 := gk2.2 c (show c < sN (uI σ1 70 c T.length) by show c < sN σ1; omega) (by omega)
  have e1 := gk2.2 (c + 1) (show c + 1 < sN (uI σ1 70 c T.length) by show c + 1 < sN σ1; omega) (by omega)
  have hX3 : CpX (uI σ2 71 c U.length) c (XL lb T) := by
    refine ⟨?_, by rw [XL_len]; exact lT, fun i hi => ?_⟩
    · rw [fI_uI, if_neg (by omega), e0.2.2.1 70, fI_uI, if_pos ⟨rfl, rfl⟩, XL_len]
    · rw [aL_uI, e1.2.2.2.2.2.2.1, aL_uI]
      rw [XL_len] at hi
      exact g1 i hi
  have hY3 : CpY (uI σ2 71 c U.length) c (XL lb U) := by
    refine ⟨?_, by rw [XL_len]; exact lU, fun i hi => ?_⟩
    · rw [fI_uI, if_pos ⟨rfl, rfl⟩, XL_len]
    · rw [aL_uI]
      rw [XL_len] at hi
      exact g2 i hi
  have k3 : Keep σ (uI σ2 71 c U.length) (In c (c + 28)) := (((gk.mono (fun b _ h => by omega)).trans (ka.mono (fun b _ h => by omega))).trans (gk2.mono (fun b _ h => by omega))).trans (kb.mono (fun b _ h => by omega))
  refine c_Cmp_pairUp_27 (k_Cmp_countPairs hS3 hX3 hY3) hS3.2.1 (by decide) (by decide) (by first | decide | omega) (by first | decide | omega) (Nat.le_of_ble_eq_true rfl) (fun σ4 hq => ?_) (fun _ _ hx => hx.elim)
  obtain ⟨hS4, hX4, hY4, hT4, gk4⟩ := hq
  refine b_Cmp_pairUp_30 ?_
  refine c_Cmp_pairUp_31 (k_Cmp_walk ⟨hS4, hX4, hY4⟩ hT4) hS4.2.1 (by decide) (by decide) (by first | decide | omega) (by first | decide | omega) (Nat.le_of_ble_eq_true rfl) (fun σ5 hq => ?_) (fun _ _ hx => hx.elim)
  obtain ⟨hW5, hP5, gk5⟩ := hq
  refine r_Cmp_pairUp_34 ⟨rfl, hW5, ?_, (k3.trans (gk4.mono (fun b _ h => by omega))).trans gk5⟩ (by decide) (by decide)
  rw [XL_len, XL_len] at hP5
  exact hP5
theorem k_Cmp_size {σ : Sto} (hS : CpS σ c) (hX : CpX σ c X) : MC Ω M_Cmp_size rm_Cmp_size (RI fun r σ' => σ' = σ ∧ r = X.length) XN σ [xr (some c)] :=
  e_Cmp_size (b_Cmp_size_0 ⟨hS.2.1, fun _ => r_Cmp_size_4 ⟨_, rfl, rfl, hX.1⟩ (by decide) (by decide)⟩)
theorem k_Cmp_pairCount {σ : Sto} {a b n : Nat} {P M : Nat → Int} (hS : CpS σ c) (hP : CpP σ c a b P M n) : MC Ω M_Cmp_pairCount rm_Cmp_pairCount (RI fun r σ' => σ' = σ ∧ r = n) XN σ [xr (some c)] :=
  e_Cmp_pairCount (b_Cmp_pairCount_0 ⟨hS.2.1, fun _ => r_Cmp_pairCount_4 ⟨_, rfl, rfl, hP.1⟩ (by decide) (by decide)⟩)
theorem k_Cmp_pairAt {σ : Sto} {b n : Nat} {P M : Nat → Int} {p : Int} (hS : CpS σ c) (hX : CpX σ c X) (hP : CpP σ c X.length b P M n) (hp : Q32 p) : MC Ω M_Cmp_pairAt rm_Cmp_pairAt (RI fun r σ' => σ' = σ ∧ Q32 r ∧ r = if 0 ≤ p ∧ p < X.length then P p.toNat else -1) XN σ [xr (some c), xi p] := by
  obtain ⟨h0, h1, f1, f2, f3, f4, f5, f6, k1, k2, k3, k4, k5, k6, z1, z2, z3, z4, z5, z6, hr⟩ := id hS
  obtain ⟨x1, x2, x3⟩ := id hX
  refine e_Cmp_pairAt (b_Cmp_pairAt_0 ⟨hp, fun c => ?_, fun c => ⟨h1, fun _ => ⟨fun c2 => ⟨_, f3, k3, by omega, by rw [z3]; omega, fun q => ?_⟩, fun c2 => ?_⟩⟩⟩)
  · exact r_Cmp_pairAt_22 ⟨_, rfl, rfl, by omega, by rw [if_neg (by omega)]⟩ (by decide) (by decide)
  · exact r_Cmp_pairAt_22 ⟨_, rfl, rfl, q, by rw [if_pos (by omega), (hP.2.1 p.toNat (by omega)).1]⟩ (by decide) (by decide)
  · exact r_Cmp_pairAt_22 ⟨_, rfl, rfl, by omega, by rw [if_neg (by omega)]⟩ (by decide) (by decide)
theorem k_Cmp_moveAt {σ : Sto} {b n : Nat} {P M : Nat → Int} {p : Int} (hS : CpS σ c) (hX : CpX σ c X) (hP : CpP σ c X.length b P M n) (hp : Q32 p) : MC Ω M_Cmp_moveAt rm_Cmp_moveAt (RI fun r σ' => σ' = σ ∧ Q32 r ∧ r = if 0 ≤ p ∧ p < X.length then M p.toNat else -1) XN σ [xr (some c), xi p] := by
  obtain ⟨h0, h1, f1, f2, f3, f4, f5, f6, k1, k2, k3, k4, k5, k6, z1, z2, z3, z4, z5, z6, hr⟩ := id hS
  obtain ⟨x1, x2, x3⟩ := id hX
  refine e_Cmp_moveAt (b_Cmp_moveAt_0 ⟨hp, fun c => ?_, fun c => ⟨h1, fun _ => ⟨fun c2 => ⟨_, f4, k4, by omega, by rw [z4]; omega, fun q => ?_⟩, fun c2 => ?_⟩⟩⟩)
  · exact r_Cmp_moveAt_22 ⟨_, rfl, rfl, by omega, by rw [if_neg (by omega)]⟩ (by decide) (by decide)
  · exact r_Cmp_moveAt_22 ⟨_, rfl, rfl, q, by rw [if_pos (by omega), (hP.2.1 p.toNat (by omega)).2]⟩ (by decide) (by decide)
  · exact r_Cmp_moveAt_22 ⟨_, rfl, rfl, by omega, by rw [if_neg (by omega)]⟩ (by decide) (by decide)
end CMW
