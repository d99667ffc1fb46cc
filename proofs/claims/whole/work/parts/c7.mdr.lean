/-! BY HAND: the reference's draft, row by row -/
def Fr (fs js gs : List Nat) (μ μ' : Mu) : Prop := (∀ f, f ∉ fs → mI μ' f = mI μ f) ∧ (∀ j, j ∉ js → mA μ' j = mA μ j) ∧ ∀ j, j ∉ gs → mG μ' j = mG μ j
theorem Fr.rf {fs js gs : List Nat} {μ : Mu} : Fr fs js gs μ μ := ⟨fun _ _ => rfl, fun _ _ => rfl, fun _ _ => rfl⟩
theorem Fr.trans {fs js gs : List Nat} {μ μ1 μ2 : Mu} (h : Fr fs js gs μ μ1) (g : Fr fs js gs μ1 μ2) : Fr fs js gs μ μ2 :=
  ⟨fun f q => (g.1 f q).trans (h.1 f q), fun f q => (g.2.1 f q).trans (h.2.1 f q), fun f q => (g.2.2 f q).trans (h.2.2 f q)⟩
theorem Fr.mono {fs js gs fs' js' gs' : List Nat} {μ μ1 : Mu} (h : Fr fs js gs μ μ1) (h1 : ∀ x ∈ fs, x ∈ fs') (h2 : ∀ x ∈ js, x ∈ js') (h3 : ∀ x ∈ gs, x ∈ gs') : Fr fs' js' gs' μ μ1 :=
  ⟨fun f q => h.1 f (fun z => q (h1 f z)), fun f q => h.2.1 f (fun z => q (h2 f z)), fun f q => h.2.2 f (fun z => q (h3 f z))⟩
theorem Fr.wI {fs js gs : List Nat} {μ : Mu} {f : Nat} {v : Int} (h : f ∈ fs) : Fr fs js gs μ (wI μ f v) :=
  ⟨fun g q => by rw [mI_wI, if_neg (fun z => q (by rw [z]; exact h))], fun _ _ => rfl, fun _ _ => rfl⟩
theorem Fr.wA {fs js gs : List Nat} {μ : Mu} {j i : Nat} {v : Int} (h : j ∈ js) : Fr fs js gs μ (wA μ j i v) :=
  ⟨fun _ _ => rfl, fun g q => funext fun k => by rw [mA_wA, if_neg (fun z => q (by rw [z.1]; exact h))], fun _ _ => rfl⟩
theorem Fr.wG {fs js gs : List Nat} {μ : Mu} {j i : Nat} {v : Int64} (h : j ∈ gs) : Fr fs js gs μ (wG μ j i v) :=
  ⟨fun _ _ => rfl, fun _ _ => rfl, fun g q => funext fun k => by rw [mG_wG, if_neg (fun z => q (by rw [z.1]; exact h))]⟩
/-- what the row of the draft holds -/
def RowV (R : List Int) (μ : Mu) : Prop := mI μ 15 = R.length ∧ R.length ≤ 60 ∧ ∀ i x, R[i]? = some x → mA μ 9 i = x
theorem RowV.fr {R : List Int} {fs js gs : List Nat} {μ μ' : Mu} (h : RowV R μ) (k : Fr fs js gs μ μ') (h1 : 15 ∉ fs) (h2 : 9 ∉ js) : RowV R μ' :=
  ⟨(k.1 15 h1).trans h.1, h.2.1, fun i x hx => by rw [k.2.1 9 h2]; exact h.2.2 i x hx⟩
/-- how many lines are in a row -/
def lnR (R : List Int) : Nat := R.countP (fun y => decide (0 ≤ y))
theorem lnR_take {R : List Int} {i : Nat} (h : i < R.length) : lnR (R.take (i + 1)) = lnR (R.take i) + if 0 ≤ R[i] then 1 else 0 := by
  unfold lnR
  rw [List.take_add_one, List.getElem?_eq_getElem h, List.countP_append]
  congr 1
  show List.countP _ [R[i]] = _
  rw [List.countP_singleton]
  simp
theorem lnR_le (R : List Int) : lnR R ≤ R.length := List.countP_le_length
section MDR
variable {Ω : Om} {m : Nat} {μ : Mu} {R : List Int}
theorem K_thrown : MMi Ω m M_Mdl_thrown rm_Mdl_thrown (fun y μ' => y = mI μ 0 ∧ μ' = μ) μ [] := E_thrown fun σ0 => B_thrown_0 (R_thrown_4 ⟨rfl, rfl⟩)
theorem K_refused {v : Int} (h : Q32 v) : MMi Ω m M_Mdl_refused rm_Mdl_refused (fun y μ' => y = bI (v ≠ 0) ∧ μ' = wI μ 0 v) μ [xi v] :=
  E_refused fun σ0 => B_refused_0 ⟨h, fun c => R_refused_14 (Or.inl rfl) ⟨(bI_f (fun z => z c)).symm, rfl⟩, fun c => R_refused_14 (Or.inr rfl) ⟨(bI_t c).symm, rfl⟩⟩
theorem K_fine {v : Int} : MMi Ω m M_Mdl_fine rm_Mdl_fine (fun y μ' => y = v ∧ μ' = wI μ 0 0) μ [xi v] := E_fine fun σ0 => B_fine_0 (R_fine_6 ⟨rfl, rfl⟩)
theorem K_isVersion {v : Int} {n : Nat} (hv : Q32 v) (h5 : mI μ 5 = n) (hn : n ≤ 40) : MMi Ω m M_Mdl_isVersion rm_Mdl_isVersion (fun y μ' => y = bI (0 ≤ v ∧ v < n) ∧ μ' = μ) μ [xi v] := by
  refine E_isVersion fun σ0 => B_isVersion_0 (C_isVersion_8 (k_in hv (by decide) (by omega)) fun y hy => ?_)
  subst hy
  exact R_isVersion_11 bI_r ⟨bI_c (by omega), rfl⟩
theorem lineCount_loop {σ0 : Sto} (hR : RowV R μ) : ∀ (d i : Nat), i + d = R.length → Mw Ω σ0 m M_Mdl_lineCount rm_Mdl_lineCount (MQi Ω σ0 m rm_Mdl_lineCount (fun y μ' => y = lnR R ∧ μ' = μ)) 4 [xr (some m), xi (lnR (R.take i)), xi i] [] μ := by
  intro d
  obtain ⟨h1, h2, h3⟩ := hR
  induction d with
  | zero =>
    intro i hi
    refine B_lineCount_4 ⟨by omega, fun _ => R_lineCount_36 ⟨?_, rfl⟩, fun c => absurd (by omega) c⟩
    rw [List.take_of_length_le (by omega)]
  | succ d ih =>
    intro i hi
    have li : i < R.length := by omega
    have e := h3 i _ (List.getElem?_eq_getElem li)
    have t := lnR_take li
    have g := ih (i + 1) (by omega)
    rw [t] at g
    refine B_lineCount_4 ⟨by omega, fun c => absurd c (by omega), fun _ => ⟨by omega, by omega, fun c => ?_, fun c => ?_⟩⟩
    · rw [Int.toNat_natCast, e] at c
      rw [if_neg (by omega)] at g
      exact g
    · rw [Int.toNat_natCast, e] at c
      rw [if_pos (by omega)] at g
      exact g
theorem K_lineCount (hR : RowV R μ) : MMi Ω m M_Mdl_lineCount rm_Mdl_lineCount (fun y μ' => y = lnR R ∧ μ' = μ) μ [] :=
  E_lineCount fun σ0 => B_lineCount_0 (lineCount_loop hR R.length 0 (by omega))
theorem K_isSettled (h : Q32 (bShl 1 (mI μ 17) - 1)) : MMi Ω m M_Mdl_isSettled rm_Mdl_isSettled (fun y μ' => y = bI (mI μ 18 = bShl 1 (mI μ 17) - 1) ∧ μ' = μ) μ [] :=
  E_isSettled fun σ0 => B_isSettled_0 ⟨h, fun c => R_isSettled_20 (Or.inl rfl) ⟨(bI_f c).symm, rfl⟩, fun c => R_isSettled_20 (Or.inr rfl) ⟨(bI_t c).symm, rfl⟩⟩
theorem K_isPlace {v : Int} (hv : Q32 v) (hR : mI μ 11 ≠ 0 → RowV R μ) : MMi Ω m M_Mdl_isPlace rm_Mdl_isPlace (fun y μ' => y = bI (mI μ 11 ≠ 0 ∧ 0 ≤ v ∧ v < lnR R) ∧ μ' = μ) μ [xi v] := by
  refine E_isPlace fun σ0 => B_isPlace_0 ⟨fun c => R_isPlace_26 (Or.inl rfl) ⟨(bI_f (fun z => z.1 c)).symm, rfl⟩, fun c => ?_⟩
  have hr := hR c
  have hl := lnR_le R
  have h60 := hr.2.1
  refine C_isPlace_10 (K_lineCount hr) fun y μ1 h => ?_
  obtain ⟨rfl, rfl⟩ := h
  refine B_isPlace_13 (C_isPlace_15 (k_in hv (by decide) (by omega)) fun y hy => ?_)
  subst hy
  refine B_isPlace_18 ⟨bI_q, fun c2 => R_isPlace_26 (Or.inl rfl) ⟨(bI_f (fun z => bI_0.mp c2 (by omega))).symm, rfl⟩, fun c2 => R_isPlace_26 (Or.inr rfl) ⟨(bI_t ⟨c, ?_⟩).symm, rfl⟩⟩
  have := bI_1.mp c2
  omega
/-- an entry of the edits that are kept -/
def EdE (μ : Mu) (e : Nat) (R : List Int) (s : Int) : Prop := mA μ 12 e = R.length ∧ mA μ 13 e = s ∧ ∀ i x, R[i]? = some x → mA μ 14 (48 * e + i) = x
theorem EdE.fr {e : Nat} {s : Int} {fs js gs : List Nat} {μ' : Mu} (h : EdE μ e R s) (k : Fr fs js gs μ μ') (h1 : 12 ∉ js) (h2 : 13 ∉ js) (h3 : 14 ∉ js) : EdE μ' e R s := by
  unfold EdE
  rw [k.2.1 12 h1, k.2.1 13 h2, k.2.1 14 h3]
  exact h
abbrev QRem (μ : Mu) (R : List Int) (n : Nat) : Mu → Prop := fun μ' => Fr [21] [12, 13, 14] [] μ μ' ∧ mI μ' 21 = n + 1 ∧ EdE μ' n R (mI μ 18) ∧ ∀ e R' s, e < n → R'.length ≤ 48 → EdE μ e R' s → EdE μ' e R' s
theorem remember_loop {σ0 : Sto} {n : Nat} (hR : RowV R μ) (hn : n < 640) (h48 : R.length ≤ 48) (h21 : mI μ 21 = n) : ∀ (d i : Nat) (μ1 : Mu), i + d = R.length → Fr [] [12, 13, 14] [] μ μ1 → mA μ1 12 n = R.length → mA μ1 13 n = mI μ 18 → (∀ e, e < n → mA μ1 12 e = mA μ 12 e ∧ mA μ1 13 e = mA μ 13 e) → (∀ k, k < 48 * n → mA μ1 14 k = mA μ 14 k) → (∀ k x, k < i → R[k]? = some x → mA μ1 14 (48 * n + k) = x) →
    Mw Ω σ0 m M_Mdl_remember rm_Mdl_remember (MQv Ω σ0 m rm_Mdl_remember (QRem μ R n)) 28 [xr (some m), xi i] [] μ1 := by
  intro d
  induction d with
  | zero =>
    intro i μ1 hi hF a1 a2 a3 a4 a5
    have e15 := (hF.1 15 (by decide)).trans hR.1
    have e21 := (hF.1 21 (by decide)).trans h21
    refine B_remember_28 ⟨by omega, fun _ => ⟨by omega, R_remember_72 ⟨(hF.mono (fun _ h => absurd h List.not_mem_nil) (fun _ h => h) (fun _ h => h)).trans (Fr.wI (by decide)), ?_, ⟨a1, a2, fun k x hx => ?_⟩, fun e R' s he hl hE => ⟨?_, ?_, fun k x hx => ?_⟩⟩⟩, fun c => absurd (by omega) c⟩
    · rw [mI_wI, if_pos rfl, e21]
    · exact a5 k x (by have := (List.getElem?_eq_some_iff.mp hx).1; omega) hx
    · exact (a3 e he).1.trans hE.1
    · exact (a3 e he).2.trans hE.2.1
    · have := (List.getElem?_eq_some_iff.mp hx).1
      exact (a4 _ (by omega)).trans (hE.2.2 k x hx)
  | succ d ih =>
    intro i μ1 hi hF a1 a2 a3 a4 a5
    have e15 := (hF.1 15 (by decide)).trans hR.1
    have e21 := (hF.1 21 (by decide)).trans h21
    have li : i < R.length := by omega
    have e9 : mA μ1 9 i = R[i] := by rw [hF.2.1 9 (by decide)]; exact hR.2.2 i _ (List.getElem?_eq_getElem li)
    refine B_remember_28 ⟨by omega, fun c => absurd c (by omega), fun _ => ⟨by omega, by omega, by omega, by omega, ?_⟩⟩
    rw [e21, show ((48 * (n : Int) + (i : Int))).toNat = 48 * n + i by omega, Int.toNat_natCast, e9]
    refine ih (i + 1) _ (by omega) (hF.trans (Fr.wA (by decide))) ?_ ?_ (fun e he => ?_) (fun k hk => ?_) (fun k x hk hx => ?_)
    · rw [mA_wA, if_neg (by omega)]; exact a1
    · rw [mA_wA, if_neg (by omega)]; exact a2
    · rw [mA_wA, if_neg (by omega), mA_wA, if_neg (by omega)]; exact a3 e he
    · rw [mA_wA, if_neg (by omega)]; exact a4 k hk
    · rw [mA_wA]
      by_cases hki : k = i
      · subst hki
        rw [if_pos ⟨rfl, rfl⟩]
        rw [List.getElem?_eq_getElem li] at hx
        exact Option.some.inj hx
      · rw [if_neg (by omega)]; exact a5 k x (by omega) hx
theorem K_remember {n : Nat} (hR : RowV R μ) (hn : n < 640) (h48 : R.length ≤ 48) (h21 : mI μ 21 = n) : MMv Ω m M_Mdl_remember rm_Mdl_remember (QRem μ R n) μ [] := by
  refine E_remember fun σ0 => B_remember_0 ⟨by omega, by omega, by omega, by omega, ?_⟩
  rw [h21, Int.toNat_natCast, hR.1]
  refine remember_loop hR hn h48 h21 R.length 0 _ (by omega) ((Fr.wA (by decide)).trans (Fr.wA (by decide))) ?_ ?_ (fun e he => ⟨?_, ?_⟩) (fun k hk => ?_) (fun k x hk => absurd hk (by omega))
  · rw [mA_wA, if_neg (by omega), mA_wA, if_pos ⟨rfl, rfl⟩]
  · rw [mA_wA, if_pos ⟨rfl, rfl⟩]
  · rw [mA_wA, if_neg (by omega), mA_wA, if_neg (by omega)]
  · rw [mA_wA, if_neg (by omega), mA_wA, if_neg (by omega)]
  · rw [mA_wA, if_neg (by omega), mA_wA, if_neg (by omega)]
theorem putAt_loop {σ0 : Sto} {a w : Int} (hR : RowV R μ) (h60 : R.length < 60) (ha : 0 ≤ a) (hal : a ≤ R.length) (hw : Q32 w) : ∀ (d : Nat) (i : Int) (μ1 : Mu), i - a = d → i ≤ R.length → Fr [] [9] [] μ μ1 → (∀ k : Nat, (k : Int) ≤ i → mA μ1 9 k = mA μ 9 k) → (∀ k : Nat, i < (k : Int) → (k : Int) ≤ R.length → mA μ1 9 k = mA μ 9 (k - 1)) →
    Mw Ω σ0 m M_Mdl_putAt rm_Mdl_putAt (MQv Ω σ0 m rm_Mdl_putAt (fun μ' => Fr [15] [9] [] μ μ' ∧ RowV (R.insertIdx a.toNat w) μ')) 5 [xr (some m), xi a, xi w, xi i] [] μ1 := by
  intro d
  induction d with
  | zero =>
    intro i μ1 hd hi hF a1 a2
    have ei : i = a := by omega
    subst ei
    have e15 := (hF.1 15 (by decide)).trans hR.1
    refine B_putAt_5 ⟨by omega, by omega, fun _ => ⟨by omega, by omega, hw, by omega, R_putAt_47 ⟨((hF.mono (fun _ h => absurd h List.not_mem_nil) (fun _ h => h) (fun _ h => h)).trans (Fr.wA (by decide))).trans (Fr.wI (by decide)), ?_, ?_, fun k x hx => ?_⟩⟩, fun c => absurd (Int.le_refl _) c⟩
    · rw [mI_wI, if_pos rfl, e15, List.length_insertIdx, if_pos (by omega)]; rfl
    · rw [List.length_insertIdx, if_pos (by omega)]; omega
    · rw [List.getElem?_insertIdx] at hx
      rw [mA_wI, mA_wA]
      split at hx
      · rw [if_neg (by omega), a1 k (by omega)]; exact hR.2.2 k x hx
      · split at hx
        · split at hx
          · rw [if_pos ⟨rfl, by omega⟩]; exact Option.some.inj hx
          · cases hx
        · have hk := (List.getElem?_eq_some_iff.mp hx).1
          rw [if_neg (by omega), a2 k (by omega) (by omega)]; exact hR.2.2 _ x hx
  | succ d ih =>
    intro i μ1 hd hi hF a1 a2
    have e15 := (hF.1 15 (by decide)).trans hR.1
    refine B_putAt_5 ⟨by omega, by omega, fun c => absurd c (by omega), fun _ => ⟨by omega, by omega, by omega, by omega, ?_⟩⟩
    refine ih (i + -1) _ (by omega) (by omega) (hF.trans (Fr.wA (by decide))) (fun k hk => ?_) (fun k hk hk2 => ?_)
    · rw [mA_wA, if_neg (by omega)]; exact a1 k (by omega)
    · rw [mA_wA]
      by_cases e : k = i.toNat
      · rw [if_pos ⟨rfl, e⟩, a1 _ (by omega)]; congr 1; omega
      · rw [if_neg (fun z => e z.2)]; exact a2 k (by omega) hk2
theorem K_putAt {a w : Int} (hR : RowV R μ) (h60 : R.length < 60) (ha : 0 ≤ a) (hal : a ≤ R.length) (hw : Q32 w) : MMv Ω m M_Mdl_putAt rm_Mdl_putAt (fun μ' => Fr [15] [9] [] μ μ' ∧ RowV (R.insertIdx a.toNat w) μ') μ [xi a, xi w] := by
  refine E_putAt fun σ0 => B_putAt_0 ?_
  rw [hR.1]
  exact putAt_loop hR h60 ha hal hw ((R.length : Int) - a).toNat _ μ (by omega) (Int.le_refl _) Fr.rf (fun _ _ => rfl) (fun k hk hk2 => absurd hk2 (by omega))
theorem takeAt_loop {σ0 : Sto} {a : Int} (hR : RowV R μ) (ha : 0 ≤ a) (hal : a < R.length) : ∀ (d : Nat) (i : Int) (μ1 : Mu), (R.length : Int) - 1 - i = d → a ≤ i → Fr [] [9] [] μ μ1 → (∀ k : Nat, (k : Int) < a → mA μ1 9 k = mA μ 9 k) → (∀ k : Nat, a ≤ (k : Int) → (k : Int) < i → mA μ1 9 k = mA μ 9 (k + 1)) → (∀ k : Nat, i ≤ (k : Int) → mA μ1 9 k = mA μ 9 k) →
    Mw Ω σ0 m M_Mdl_takeAt rm_Mdl_takeAt (MQv Ω σ0 m rm_Mdl_takeAt (fun μ' => Fr [15] [9] [] μ μ' ∧ RowV (R.eraseIdx a.toNat) μ')) 2 [xr (some m), xi a, xi i] [] μ1 := by
  intro d
  have h60 := hR.2.1
  induction d with
  | zero =>
    intro i μ1 hd hi hF a1 a2 a3
    have e15 := (hF.1 15 (by decide)).trans hR.1
    refine B_takeAt_2 ⟨by omega, by omega, fun _ => R_takeAt_42 ⟨(hF.mono (fun _ h => absurd h List.not_mem_nil) (fun _ h => h) (fun _ h => h)).trans (Fr.wI (by decide)), ?_, ?_, fun k x hx => ?_⟩, fun c => absurd (by omega) c⟩
    · rw [mI_wI, if_pos rfl, e15, List.length_eraseIdx, if_pos (by omega)]; omega
    · rw [List.length_eraseIdx, if_pos (by omega)]; omega
    · rw [List.getElem?_eraseIdx] at hx
      rw [mA_wI]
      split at hx
      · rw [a1 k (by omega)]; exact hR.2.2 k x hx
      · have hk := (List.getElem?_eq_some_iff.mp hx).1
        rw [a2 k (by omega) (by omega)]; exact hR.2.2 _ x hx
  | succ d ih =>
    intro i μ1 hd hi hF a1 a2 a3
    have e15 := (hF.1 15 (by decide)).trans hR.1
    refine B_takeAt_2 ⟨by omega, by omega, fun c => absurd c (by omega), fun _ => ⟨by omega, by omega, by omega, by omega, ?_⟩⟩
    refine ih (i + 1) _ (by omega) (by omega) (hF.trans (Fr.wA (by decide))) (fun k hk => ?_) (fun k hk hk2 => ?_) (fun k hk => ?_)
    · rw [mA_wA, if_neg (by omega)]; exact a1 k hk
    · rw [mA_wA]
      by_cases e : k = i.toNat
      · rw [if_pos ⟨rfl, e⟩, a3 _ (by omega)]; congr 1; omega
      · rw [if_neg (fun z => e z.2)]; exact a2 k hk (by omega)
    · rw [mA_wA, if_neg (by omega)]; exact a3 k (by omega)
theorem K_takeAt {a : Int} (hR : RowV R μ) (ha : 0 ≤ a) (hal : a < R.length) : MMv Ω m M_Mdl_takeAt rm_Mdl_takeAt (fun μ' => Fr [15] [9] [] μ μ' ∧ RowV (R.eraseIdx a.toNat) μ') μ [xi a] :=
  E_takeAt fun σ0 => B_takeAt_0 (takeAt_loop hR ha hal ((R.length : Int) - 1 - a).toNat a μ (by omega) (Int.le_refl _) Fr.rf (fun _ _ => rfl) (fun k h1 h2 => absurd h2 (by omega)) (fun _ _ => rfl))
/-- the book -/
def IdV (b : BR) (μ : Mu) : Prop := mI μ 1 = bkN b ∧ bkN b ≤ 12000 ∧ ∀ i, i < bkN b → mG μ 1 i = bkS b i ∧ mA μ 2 i = bkA b i ∧ mA μ 3 i = bkO b i
theorem IdV.fr {b : BR} {fs js gs : List Nat} {μ' : Mu} (h : IdV b μ) (k : Fr fs js gs μ μ') (h1 : 1 ∉ fs) (h2 : 2 ∉ js) (h3 : 3 ∉ js) (h4 : 1 ∉ gs) : IdV b μ' := by
  unfold IdV
  rw [k.1 1 h1, k.2.1 2 h2, k.2.1 3 h3, k.2.2 1 h4]
  exact h
def bkP (b : BR) (l : Int64) (w o : Int) : BR := (bkN b + 1, up1 (bkS b) (bkN b) l, up1 (bkA b) (bkN b) w, up1 (bkO b) (bkN b) o)
theorem K_id {b : BR} {l : Int64} {w o : Int} (h : IdV b μ) (h2 : bkN b < 12000) (hw : Q32 w) (ho : Q32 o) : MMi Ω m M_Mdl_id rm_Mdl_id (fun y μ' => y = bkN b ∧ Fr [1] [2, 3] [1] μ μ' ∧ IdV (bkP b l w o) μ') μ [xl l, xi w, xi o] := by
  obtain ⟨h1, -, h3⟩ := h
  refine E_id fun σ0 => B_id_0 ⟨by omega, by omega, by omega, by omega, hw, by omega, by omega, ho, by omega, B_id_41 (R_id_47 ⟨?_, (((Fr.wG (by decide)).trans (Fr.wA (by decide))).trans (Fr.wA (by decide))).trans (Fr.wI (by decide)), ?_, by show bkN b + 1 ≤ 12000; omega, fun i hi => ?_⟩)⟩
  · rw [mI_wI, if_pos rfl, h1]; omega
  · rw [mI_wI, if_pos rfl, h1]; rfl
  · have hi' : i < bkN b + 1 := hi
    rw [h1, Int.toNat_natCast]
    by_cases e : i = bkN b
    · refine ⟨?_, ?_, ?_⟩
      · rw [mG_wI, mG_wA, mG_wA, mG_wG, if_pos ⟨rfl, e⟩]; show l = up1 _ _ _ i; unfold up1; rw [if_pos e]
      · rw [mA_wI, mA_wA, if_neg (fun z => absurd z.1 (by decide)), mA_wA, if_pos ⟨rfl, e⟩]; show w = up1 _ _ _ i; unfold up1; rw [if_pos e]
      · rw [mA_wI, mA_wA, if_pos ⟨rfl, e⟩]; show o = up1 _ _ _ i; unfold up1; rw [if_pos e]
    · obtain ⟨g1, g2, g3⟩ := h3 i (by omega)
      refine ⟨?_, ?_, ?_⟩
      · rw [mG_wI, mG_wA, mG_wA, mG_wG, if_neg (fun z => e z.2), g1]; show _ = up1 _ _ _ i; unfold up1; rw [if_neg e]
      · rw [mA_wI, mA_wA, if_neg (fun z => e z.2), mA_wA, if_neg (fun z => e z.2), mA_wG, g2]; show _ = up1 _ _ _ i; unfold up1; rw [if_neg e]
      · rw [mA_wI, mA_wA, if_neg (fun z => e z.2), mA_wA, if_neg (fun z => e z.2), mA_wG, g3]; show _ = up1 _ _ _ i; unfold up1; rw [if_neg e]
end MDR
