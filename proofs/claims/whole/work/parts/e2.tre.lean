/-! BY HAND: the cost of two texts, by the reference -/
section TRC
variable {Ω : Om} {m : Nat} {μ : Mu} {b : BR} {n1 n2 : Nat} {K1 K2 : Nat → Nat} {c : Nat → Nat → Nat}
theorem isKey_loop {σ0 : Sto} {t n a : Nat} {K : Nat → Nat} (ht : t < 2) (hn : n ≤ 21) (ha : 1 ≤ a ∧ a ≤ n) (hK : ∀ i, 1 ≤ i → i ≤ n → mA μ 33 (22 * t + i) = (K i : Nat) + 1) : ∀ (f i : Nat) (x : Int), n + 1 = i + f → a < i → (x = 1 ∧ (∀ k, a < k → k < i → K k ≠ K a) ∨ x = 0 ∧ ¬ Ky K n a) → Mw Ω σ0 m M_Mdl_isKey rm_Mdl_isKey (MQi Ω σ0 m rm_Mdl_isKey (fun y μ' => Bz y (Ky K n a) ∧ μ' = μ)) 8 [xr (some m), xi t, xi a, xi n, xi x, xi i] [] μ := by
  intro f
  induction f with
  | zero =>
    intro i x hi h1 h2
    refine B_isKey_8 ⟨by omega, by omega, fun _ => ?_, fun c => absurd (by omega) c⟩
    rcases h2 with ⟨rfl, h2⟩ | ⟨rfl, h2⟩
    · exact R_isKey_60 (Or.inr rfl) ⟨Or.inl ⟨rfl, fun k p q => h2 k p (by omega)⟩, rfl⟩
    · exact R_isKey_60 (Or.inl rfl) ⟨Or.inr ⟨rfl, h2⟩, rfl⟩
  | succ f ih =>
    intro i x hi h1 h2
    have k1 := hK i (by omega) (by omega)
    have k2 := hK a ha.1 ha.2
    have e1 : (22 * (t : Int) + (i : Int)).toNat = 22 * t + i := by omega
    have e2 : (22 * (t : Int) + (a : Int)).toNat = 22 * t + a := by omega
    refine B_isKey_8 ?_
    rw [e1, e2, k1, k2]
    refine ⟨by omega, by omega, fun c => absurd c (by omega), fun _ => ⟨by omega, fun z => ?_, fun z => ⟨by omega, by omega, by omega, by omega, fun q => ?_, fun q => ?_⟩⟩⟩
    · rcases h2 with ⟨rfl, _⟩ | ⟨rfl, h2⟩
      · exact absurd z (by decide)
      · exact ih (i + 1) 0 (by omega) (by omega) (Or.inr ⟨rfl, h2⟩)
    · exact ih (i + 1) 0 (by omega) (by omega) (Or.inr ⟨rfl, fun w => w i h1 (by omega) (by omega)⟩)
    · rcases h2 with ⟨rfl, h2⟩ | ⟨rfl, _⟩
      · refine ih (i + 1) 1 (by omega) (by omega) (Or.inl ⟨rfl, fun k p r => ?_⟩)
        by_cases e : k = i
        · subst e; omega
        · exact h2 k p (by omega)
      · exact absurd rfl z
theorem K_isKey {t n a : Nat} {K : Nat → Nat} (ht : t < 2) (hn : n ≤ 21) (ha : 1 ≤ a ∧ a ≤ n) (hK : ∀ i, 1 ≤ i → i ≤ n → mA μ 33 (22 * t + i) = (K i : Nat) + 1) : MMi Ω m M_Mdl_isKey rm_Mdl_isKey (fun y μ' => Bz y (Ky K n a) ∧ μ' = μ) μ [xi t, xi a, xi n] :=
  E_isKey fun σ0 => B_isKey_0 (isKey_loop ht hn ha hK (n - a) (a + 1) 1 (by omega) (by omega) (Or.inl ⟨rfl, fun k h1 h2 => by omega⟩))
/-- the cost of a change of names, none for a root -/
def chC (b : BR) (x y : Int) : Nat := if x = -1 ∨ y = -1 then (if x = y then 0 else 99) else if lUsh (bkS b x.toNat) (8 * (dmL (bkS b x.toNat) : Nat)) = lUsh (bkS b y.toNat) (8 * (dmL (bkS b y.toNat) : Nat)) then 0 else 1
def okN (b : BR) (x : Int) : Prop := x = -1 ∨ 0 ≤ x ∧ x < bkN b
theorem K_changes {x y : Int} (h : IdV b μ) (hx : okN b x) (hy : okN b y) : MMi Ω m M_Mdl_changes rm_Mdl_changes (fun z μ' => z = chC b x y ∧ μ' = μ) μ [xi x, xi y] := by
  have b12 := h.2.1
  unfold okN at hx hy
  refine E_changes fun σ0 => B_changes_0 ⟨by omega, fun c => ⟨by omega, fun d => ?_, fun d => ?_⟩, fun c => ⟨by omega, fun d => ?_, fun d => ⟨fun e => ?_, fun e => ?_⟩⟩⟩
  · refine R_changes_21 ⟨?_, rfl⟩
    unfold chC; rw [if_pos (Or.inl c), if_neg d]; rfl
  · refine R_changes_21 ⟨?_, rfl⟩
    unfold chC; rw [if_pos (Or.inl c), if_pos d]; rfl
  · have g1 := (h.2.2 x.toNat (by omega)).1
    have g2 := (h.2.2 y.toNat (by omega)).1
    have q1 := dmL_le (bkS b x.toNat)
    have q2 := dmL_le (bkS b y.toNat)
    rw [g1, g2]
    refine ⟨by omega, by omega, by omega, by omega, ?_⟩
    refine C_changes_41 (k_depth) fun y hq => ?_
    subst hq
    refine B_changes_44 ?_
    refine C_changes_52 (k_depth) fun y hq => ?_
    subst hq
    refine B_changes_55 ⟨cmpL_r _ _, fun e => R_changes_66 ⟨?_, rfl⟩, fun e => R_changes_66 ⟨?_, rfl⟩⟩
    · rw [cmpL_0] at e
      unfold chC; rw [if_neg (by omega), if_neg e]; rfl
    · rw [cmpL_0] at e
      unfold chC; rw [if_neg (by omega), if_pos e]; rfl
  · refine R_changes_21 ⟨?_, rfl⟩
    unfold chC; rw [if_pos (Or.inr d), if_neg e]; rfl
  · refine R_changes_21 ⟨?_, rfl⟩
    unfold chC; rw [if_pos (Or.inr d), if_pos e]; rfl
/-- two trees that are planted -/
def TA (b : BR) (μ : Mu) (n1 n2 : Nat) (K1 K2 : Nat → Nat) (c : Nat → Nat → Nat) : Prop := IdV b μ ∧ n1 ≤ 21 ∧ n2 ≤ 21 ∧ Ns K1 n1 ∧ Ns K2 n2 ∧ (∀ i, 1 ≤ i → i ≤ n1 → mA μ 33 i = (K1 i : Nat) + 1 ∧ okN b (mA μ 32 i)) ∧ (∀ j, 1 ≤ j → j ≤ n2 → mA μ 33 (22 + j) = (K2 j : Nat) + 1 ∧ okN b (mA μ 32 (22 + j))) ∧ ∀ i j, 1 ≤ i → i ≤ n1 → 1 ≤ j → j ≤ n2 → chC b (mA μ 32 i) (mA μ 32 (22 + j)) = c i j
abbrev TaF (μ μ' : Mu) : Prop := Fr [] [35, 36] [] μ μ'
theorem TA.fr {μ' : Mu} (h : TA b μ n1 n2 K1 K2 c) (k : TaF μ μ') : TA b μ' n1 n2 K1 K2 c := by
  obtain ⟨h1, h2⟩ := h
  refine ⟨h1.fr k (by decide) (by decide) (by decide) (by decide), ?_⟩
  rw [k.2.1 33 (by decide), k.2.1 32 (by decide)]
  exact h2
/-- the costs of the trees of a pair of key nodes -/
def TPm (μ0 μ : Mu) (K1 K2 : Nat → Nat) (c : Nat → Nat → Nat) (a d i j : Nat) : Prop :=
  (∀ p q, q < 22 → ¬ (K1 p = K1 a ∧ K2 q = K2 d) → mA μ 35 (22 * p + q) = mA μ0 35 (22 * p + q)) ∧
  (∀ p q, K1 a < p → p ≤ a → K2 d < q → q ≤ d → K1 p = K1 a → K2 q = K2 d → (p < i ∨ p = i ∧ q < j) → mA μ 35 (22 * p + q) = FD K1 K2 c (K1 a) p (K2 d) q)
def FPm (μ : Mu) (K1 K2 : Nat → Nat) (c : Nat → Nat → Nat) (a d i j : Nat) : Prop :=
  (∀ p, K1 a ≤ p → p ≤ a → mA μ 36 (22 * p + K2 d) = FD K1 K2 c (K1 a) p (K2 d) (K2 d)) ∧ (∀ q, K2 d ≤ q → q ≤ d → mA μ 36 (22 * K1 a + q) = FD K1 K2 c (K1 a) (K1 a) (K2 d) q) ∧
  (∀ p q, K1 a ≤ p → p ≤ a → K2 d ≤ q → q ≤ d → (p < i ∨ p = i ∧ q < j) → mA μ 36 (22 * p + q) = FD K1 K2 c (K1 a) p (K2 d) q)
abbrev QCt (Ω : Om) (σ0 : Sto) (m : Nat) (μ0 : Mu) (K1 K2 : Nat → Nat) (c : Nat → Nat → Nat) (a d : Nat) : QF := MQv Ω σ0 m rm_Mdl_compareTrees (fun μ' => TaF μ0 μ' ∧ TPm μ0 μ' K1 K2 c a d (a + 1) 0)
/-- a cell's value -/
theorem ct_cell {σ0 : Sto} {F : QF} {a d p q : Nat} {x0 x1 x2 v7 : Int} {g : Nat} (q0 : Q32 x0) (q1 : Q32 x1) (q2 : Q32 x2) (hp : p < 22) (hq : q < 22) (hg : minI (minI x0 x1) x2 = g) (hg2 : g ≤ 99) (hv : v7 = 0 ∨ v7 = 1) {L1 L2 v8 : Int}
    (out : ∀ μ', TaF μ μ' → (∀ z, mA μ' 36 z = if z = 22 * p + q then (g : Int) else mA μ 36 z) → (∀ z, mA μ' 35 z = if z = 22 * p + q ∧ v7 = 1 then (g : Int) else mA μ 35 z) → Mw Ω σ0 m M_Mdl_compareTrees rm_Mdl_compareTrees F 145 [xr (some m), xi a, xi d, xi L1, xi L2, xi p, xi ((q : Int) + 1), xu, xu] [] μ') :
    Mw Ω σ0 m M_Mdl_compareTrees rm_Mdl_compareTrees F 325 [xr (some m), xi a, xi d, xi L1, xi L2, xi p, xi q, xi v7, xi v8] [xi x2, xi x1, xi x0, xi (22 * (p : Int) + (q : Int)), xr (some (m + 36))] μ := by
  refine C_compareTrees_325 (k_least q0 q1 q2) fun y hq => ?_
  subst hq
  rw [hg]
  have e1 : (22 * (p : Int) + (q : Int)).toNat = 22 * p + q := by omega
  refine B_compareTrees_328 ⟨by omega, by omega, by omega, ?_⟩
  rw [e1]
  refine B_compareTrees_329 ?_
  rw [e1]
  refine ⟨by omega, fun z => ⟨by omega, by omega, out _ ((Fr.wA (by decide)).trans (Fr.wA (by decide))) (fun y => ?_) (fun y => ?_)⟩, fun z => ⟨by omega, by omega, by omega, by omega, out _ ((Fr.wA (by decide)).trans (Fr.wA (by decide))) (fun y => ?_) (fun y => ?_)⟩⟩
  · rw [mA_wA, if_neg (fun w => absurd w.1 (by decide)), mA_wA]
    by_cases e : y = 22 * p + q
    · rw [if_pos ⟨rfl, e⟩, if_pos e]
    · rw [if_neg (fun w => e w.2), if_neg e]
  · rw [if_neg (by omega), mA_wA]
    by_cases e : y = 22 * p + q
    · rw [if_pos ⟨rfl, e⟩, mA_wA, if_neg (fun w => absurd w.1 (by decide)), e]
    · rw [if_neg (fun w => e w.2), mA_wA, if_neg (fun w => absurd w.1 (by decide))]
  · rw [mA_wA, if_neg (fun w => absurd w.1 (by decide)), mA_wA]
    by_cases e : y = 22 * p + q
    · rw [if_pos ⟨rfl, e⟩, if_pos e]
    · rw [if_neg (fun w => e w.2), if_neg e]
  · rw [mA_wA]
    by_cases e : y = 22 * p + q
    · rw [if_pos ⟨rfl, e⟩, mA_wA, if_pos ⟨rfl, rfl⟩, if_pos ⟨e, by omega⟩]
    · rw [if_neg (fun w => e w.2), mA_wA, if_neg (fun w => absurd w.1 (by decide)), if_neg (fun w => e w.1)]
theorem ct_go {σ0 : Sto} {F : QF} {a d p q l k k1 k2 g g1 g2 g3 g4 g5 cx : Nat} (hI : IdV b μ) (hp : p + 1 < 22) (hq : q + 1 < 22) (hqd : q < d) (hd : d < 22) (hk1 : mA μ 33 (p + 1) = (k1 : Int) + 1) (hk2 : mA μ 33 (22 + (q + 1)) = (k2 : Int) + 1) (l1 : k1 ≤ p) (l2 : k2 ≤ q) (hl : l ≤ 21) (hk : k ≤ 21) (o1 : okN b (mA μ 32 (p + 1))) (o2 : okN b (mA μ 32 (22 + (q + 1)))) (hc : chC b (mA μ 32 (p + 1)) (mA μ 32 (22 + (q + 1))) = cx)
    (G1 : mA μ 36 (22 * p + (q + 1)) = g1) (G2 : mA μ 36 (22 * (p + 1) + q) = g2) (G3 : mA μ 36 (22 * p + q) = g3) (G4 : ¬ (k1 = l ∧ k2 = k) → mA μ 36 (22 * k1 + k2) = g4 ∧ mA μ 35 (22 * (p + 1) + (q + 1)) = g5) (b0 : g ≤ 99) (b1 : g1 ≤ 99) (b2 : g2 ≤ 99) (b3 : g3 ≤ 99) (b4 : g4 ≤ 99) (b5 : g5 ≤ 99) (H1 : ¬ (k1 = l ∧ k2 = k) → g = min (min (g1 + 1) (g2 + 1)) (g4 + g5)) (H2 : k1 = l ∧ k2 = k → g = min (min (g1 + 1) (g2 + 1)) (g3 + cx))
    (out : ∀ v7 : Int, (v7 = 0 ∧ ¬ (k1 = l ∧ k2 = k) ∨ v7 = 1 ∧ k1 = l ∧ k2 = k) → ∀ μ', TaF μ μ' → (∀ z, mA μ' 36 z = if z = 22 * (p + 1) + (q + 1) then (g : Int) else mA μ 36 z) → (∀ z, mA μ' 35 z = if z = 22 * (p + 1) + (q + 1) ∧ v7 = 1 then (g : Int) else mA μ 35 z) → Mw Ω σ0 m M_Mdl_compareTrees rm_Mdl_compareTrees F 145 [xr (some m), xi a, xi d, xi ((l : Int) + 1), xi ((k : Int) + 1), xi ((p + 1 : Nat) : Int), xi (((q + 1 : Nat) : Int) + 1), xu, xu] [] μ') :
    Mw Ω σ0 m M_Mdl_compareTrees rm_Mdl_compareTrees F 145 [xr (some m), xi a, xi d, xi ((l : Int) + 1), xi ((k : Int) + 1), xi ((p + 1 : Nat) : Int), xi ((q + 1 : Nat) : Int), xu, xu] [] μ := by
  have e1 : (22 * ((p + 1 : Nat) : Int) + ((q + 1 : Nat) : Int)).toNat = 22 * (p + 1) + (q + 1) := by omega
  have e2 : (22 * (((p + 1 : Nat) : Int) - 1) + ((q + 1 : Nat) : Int)).toNat = 22 * p + (q + 1) := by omega
  have e3 : (22 * ((p + 1 : Nat) : Int) + ((q + 1 : Nat) : Int) - 1).toNat = 22 * (p + 1) + q := by omega
  have e4 : (22 * (((p + 1 : Nat) : Int) - 1) + ((q + 1 : Nat) : Int) - 1).toNat = 22 * p + q := by omega
  have e5 : (((p + 1 : Nat) : Int)).toNat = p + 1 := by omega
  have e6 : (22 + ((q + 1 : Nat) : Int)).toNat = 22 + (q + 1) := by omega
  have e7 : (22 * ((k1 : Int) + 1 - 1) + ((k2 : Int) + 1) - 1).toNat = 22 * k1 + k2 := by omega
  refine B_compareTrees_145 ?_
  rw [e5, e6, hk1, hk2, e7, e1, e2, e3, e4, G1, G2, G3]
  have fo : ¬ (k1 = l ∧ k2 = k) → minI (minI ((g1 : Int) + 1) ((g2 : Int) + 1)) ((g4 : Int) + (g5 : Int)) = g := fun hn => by
    have := H1 hn
    unfold minI
    split <;> split <;> omega
  refine ⟨by omega, by omega, fun z => absurd z (by omega), fun _ => ⟨by omega, by omega, by omega, fun z => ?_, fun z => ⟨by omega, by omega, by omega, fun w => ?_, fun w => ⟨by omega, by omega, by omega, by omega, by omega, by omega, ?_⟩⟩⟩⟩
  · have hn : ¬ (k1 = l ∧ k2 = k) := fun y => z (by omega)
    obtain ⟨J1, J2⟩ := G4 hn
    rw [J1, J2]
    refine ⟨by omega, by omega, by omega, by omega, by omega, by omega, by omega, by omega, by omega, by omega, ?_⟩
    exact ct_cell (g := g) (by omega) (by omega) (by omega) (by omega) (by omega) (fo hn) (by omega) (Or.inl rfl) (out 0 (Or.inl ⟨rfl, hn⟩))
  · have hn : ¬ (k1 = l ∧ k2 = k) := fun y => w (by omega)
    obtain ⟨J1, J2⟩ := G4 hn
    rw [J1, J2]
    refine ⟨by omega, by omega, by omega, by omega, by omega, by omega, by omega, by omega, ?_⟩
    exact ct_cell (g := g) (by omega) (by omega) (by omega) (by omega) (by omega) (fo hn) (by omega) (Or.inl rfl) (out 0 (Or.inl ⟨rfl, hn⟩))
  · have hy : k1 = l ∧ k2 = k := ⟨by omega, by omega⟩
    have c99 : chC b (mA μ 32 (p + 1)) (mA μ 32 (22 + (q + 1))) ≤ 99 := by
      unfold chC; split <;> split <;> omega
    refine C_compareTrees_224 (K_changes hI o1 o2) fun y μ1 hq => ?_
    obtain ⟨rfl, rfl⟩ := hq
    refine B_compareTrees_227 ?_
    rw [e2, e3, G1, G2, hc]
    rw [hc] at c99
    have H3 : minI (minI ((g1 : Int) + 1) ((g2 : Int) + 1)) ((g3 : Int) + (cx : Int)) = g := by
      have := H2 hy
      unfold minI
      split <;> split <;> omega
    refine ⟨by omega, by omega, by omega, by omega, ?_⟩
    exact ct_cell (g := g) (by omega) (by omega) (by omega) (by omega) (by omega) H3 (by omega) (Or.inr rfl) (out 1 (Or.inr ⟨rfl, hy⟩))
theorem ct_in {σ0 : Sto} {μ0 : Mu} {a d : Nat} (ha : 1 ≤ a ∧ a ≤ n1) (hd : 1 ≤ d ∧ d ≤ n2) (pre : ∀ p q, K1 a < p → p ≤ a → K2 d < q → q ≤ d → ¬ (K1 p = K1 a ∧ K2 q = K2 d) → mA μ0 35 (22 * p + q) = FD K1 K2 c (K1 p) p (K2 q) q) {p : Nat} (hp : K1 a ≤ p) (hpa : p < a)
    (out : ∀ μ, TA b μ n1 n2 K1 K2 c → TPm μ0 μ K1 K2 c a d (p + 2) 0 → FPm μ K1 K2 c a d (p + 2) 0 → TaF μ0 μ → Mw Ω σ0 m M_Mdl_compareTrees rm_Mdl_compareTrees (QCt Ω σ0 m μ0 K1 K2 c a d) 135 [xr (some m), xi a, xi d, xi ((K1 a : Nat) + 1), xi ((K2 d : Nat) + 1), xi (((p + 1 : Nat) : Int) + 1), xu, xu, xu] [] μ) :
    ∀ (f q : Nat) (μ : Mu), q + f = d → K2 d ≤ q → TA b μ n1 n2 K1 K2 c → TPm μ0 μ K1 K2 c a d (p + 1) (q + 1) → FPm μ K1 K2 c a d (p + 1) (q + 1) → TaF μ0 μ → Mw Ω σ0 m M_Mdl_compareTrees rm_Mdl_compareTrees (QCt Ω σ0 m μ0 K1 K2 c a d) 145 [xr (some m), xi a, xi d, xi ((K1 a : Nat) + 1), xi ((K2 d : Nat) + 1), xi ((p + 1 : Nat) : Int), xi ((q + 1 : Nat) : Int), xu, xu] [] μ := by
  intro f
  induction f with
  | zero =>
    intro q μ hf hq hA hT hF hk
    obtain ⟨hI, a1, a2, ns1, ns2, A1, A2, A3⟩ := id hA
    obtain ⟨T1, T2⟩ := hT
    obtain ⟨F1, F2, F3⟩ := hF
    refine B_compareTrees_145 ⟨by omega, by omega, fun _ => out μ hA ⟨T1, fun p' q' h1 h2 h3 h4 h5 h6 h7 => T2 p' q' h1 h2 h3 h4 h5 h6 ?_⟩ ⟨F1, F2, fun p' q' h1 h2 h3 h4 h5 => F3 p' q' h1 h2 h3 h4 ?_⟩ hk, fun z => absurd (by omega) z⟩
    · rcases h7 with h7 | h7
      · by_cases e : p' = p + 1
        · exact Or.inr ⟨e, by omega⟩
        · exact Or.inl (by omega)
      · exact absurd h7.2 (Nat.not_lt_zero _)
    · rcases h5 with h5 | h5
      · by_cases e : p' = p + 1
        · exact Or.inr ⟨e, by omega⟩
        · exact Or.inl (by omega)
      · exact absurd h5.2 (Nat.not_lt_zero _)
  | succ f ih =>
    intro q μ hf hq hA hT hF hk
    obtain ⟨hI, a1, a2, ns1, ns2, A1, A2, A3⟩ := id hA
    obtain ⟨T1, T2⟩ := id hT
    obtain ⟨F1, F2, F3⟩ := id hF
    have na := ns1 a ha.1 ha.2
    have nb := ns2 d hd.1 hd.2
    have np := ns1 (p + 1) (by omega) (by omega)
    have nq := ns2 (q + 1) (by omega) (by omega)
    have np2 := na.2 (p + 1) (by omega) (by omega)
    have nq2 := nb.2 (q + 1) (by omega) (by omega)
    have G1 := F3 p (q + 1) hp (by omega) (by omega) (by omega) (Or.inl (by omega))
    have G2 := F3 (p + 1) q (by omega) (by omega) (by omega) (by omega) (Or.inr ⟨rfl, by omega⟩)
    have G3 := F3 p q hp (by omega) (by omega) (by omega) (Or.inl (by omega))
    have b1 := FD_ub (K1 := K1) (K2 := K2) (c := c) _ (K1 a) p (K2 d) (q + 1) (Nat.le_refl _)
    have b2 := FD_ub (K1 := K1) (K2 := K2) (c := c) _ (K1 a) (p + 1) (K2 d) q (Nat.le_refl _)
    have b3 := FD_ub (K1 := K1) (K2 := K2) (c := c) _ (K1 a) p (K2 d) q (Nat.le_refl _)
    have b4 := FD_ub (K1 := K1) (K2 := K2) (c := c) _ (K1 a) (K1 (p + 1)) (K2 d) (K2 (q + 1)) (Nat.le_refl _)
    have b5 := FD_ub (K1 := K1) (K2 := K2) (c := c) _ (K1 (p + 1)) (p + 1) (K2 (q + 1)) (q + 1) (Nat.le_refl _)
    have b6 := FD_ub (K1 := K1) (K2 := K2) (c := c) _ (K1 a) (p + 1) (K2 d) (q + 1) (Nat.le_refl _)
    have hk1 := (A1 (p + 1) (by omega) (by omega)).1
    have hk2 := (A2 (q + 1) (by omega) (by omega)).1
    refine ct_go (l := K1 a) (k := K2 d) (cx := c (p + 1) (q + 1)) hI (by omega) (by omega) (by omega) (by omega) hk1 hk2 (by omega) (by omega) (by omega) (by omega) (A1 (p + 1) (by omega) (by omega)).2 (A2 (q + 1) (by omega) (by omega)).2 (A3 (p + 1) (q + 1) (by omega) (by omega) (by omega) (by omega)) G1 G2 G3 (fun hn => ⟨F3 (K1 (p + 1)) (K2 (q + 1)) np2 (by omega) nq2 (by omega) (Or.inl (by omega)), (T1 (p + 1) (q + 1) (by omega) hn).trans (pre (p + 1) (q + 1) (by omega) (by omega) (by omega) (by omega) hn)⟩) (g := FD K1 K2 c (K1 a) (p + 1) (K2 d) (q + 1)) (by omega) (by omega) (by omega) (by omega) (by omega) (by omega) (fun hn => by rw [FD_ne (i := p + 1) (j := q + 1) (by omega) (by omega) hn (by omega), Nat.add_sub_cancel, Nat.add_sub_cancel]) (fun hy => by rw [FD_eq (i := p + 1) (j := q + 1) (by omega) (by omega) hy, Nat.add_sub_cancel, Nat.add_sub_cancel]) (fun v7 hv μ' k1 w1 w2 => ?_)
    refine ih (q + 1) μ' (by omega) (by omega) (hA.fr k1) ⟨fun p' q' h1 h2 => ?_, fun p' q' h1 h2 h3 h4 h5 h6 h7 => ?_⟩ ⟨fun p' h1 h2 => ?_, fun q' h1 h2 => ?_, fun p' q' h1 h2 h3 h4 h5 => ?_⟩ (hk.trans k1)
    · rw [w2]
      by_cases e : 22 * p' + q' = 22 * (p + 1) + (q + 1) ∧ v7 = 1
      · have e8 : p' = p + 1 := by omega
        have e9 : q' = q + 1 := by omega
        subst e8 e9
        exact absurd ((hv.resolve_left (fun z => by omega)).2) h2
      · rw [if_neg e]; exact T1 p' q' h1 h2
    · rw [w2]
      by_cases e : p' = p + 1 ∧ q' = q + 1
      · obtain ⟨rfl, rfl⟩ := e
        rw [if_pos ⟨rfl, (hv.resolve_left (fun z => z.2 ⟨h5, h6⟩)).1⟩]
      · rw [if_neg (by omega)]
        exact T2 p' q' h1 h2 h3 h4 h5 h6 (by omega)
    · rw [w1, if_neg (by omega)]; exact F1 p' h1 h2
    · rw [w1, if_neg (by omega)]; exact F2 q' h1 h2
    · rw [w1]
      by_cases e : p' = p + 1 ∧ q' = q + 1
      · obtain ⟨rfl, rfl⟩ := e
        rw [if_pos rfl]
      · rw [if_neg (by omega)]
        exact F3 p' q' h1 h2 h3 h4 (by omega)
theorem ct_out {σ0 : Sto} {μ0 : Mu} {a d : Nat} (ha : 1 ≤ a ∧ a ≤ n1) (hd : 1 ≤ d ∧ d ≤ n2) (pre : ∀ p q, K1 a < p → p ≤ a → K2 d < q → q ≤ d → ¬ (K1 p = K1 a ∧ K2 q = K2 d) → mA μ0 35 (22 * p + q) = FD K1 K2 c (K1 p) p (K2 q) q) :
    ∀ (f p : Nat) (μ : Mu), p + f = a → K1 a ≤ p → TA b μ n1 n2 K1 K2 c → TPm μ0 μ K1 K2 c a d (p + 1) 0 → FPm μ K1 K2 c a d (p + 1) 0 → TaF μ0 μ → Mw Ω σ0 m M_Mdl_compareTrees rm_Mdl_compareTrees (QCt Ω σ0 m μ0 K1 K2 c a d) 135 [xr (some m), xi a, xi d, xi ((K1 a : Nat) + 1), xi ((K2 d : Nat) + 1), xi ((p + 1 : Nat) : Int), xu, xu, xu] [] μ := by
  intro f
  induction f with
  | zero =>
    intro p μ hf hp hA hT hF hk
    obtain ⟨hI, a1, a2, -⟩ := id hA
    have e : p = a := by omega
    subst e
    exact B_compareTrees_135 ⟨by omega, by omega, fun _ => R_compareTrees_388 ⟨hk, hT⟩, fun z => absurd (by omega) z⟩
  | succ f ih =>
    intro p μ hf hp hA hT hF hk
    obtain ⟨hI, a1, a2, ns1, ns2, -⟩ := id hA
    have nb := ns2 d hd.1 hd.2
    obtain ⟨T1, T2⟩ := id hT
    obtain ⟨F1, F2, F3⟩ := id hF
    refine B_compareTrees_135 ⟨by omega, by omega, fun z => absurd z (by omega), fun _ => ?_⟩
    have := ct_in (Ω := Ω) (σ0 := σ0) (m := m) ha hd pre hp (by omega) (fun μ' g1 g2 g3 g4 => ih (p + 1) μ' (by omega) (by omega) g1 g2 g3 g4) (d - K2 d) (K2 d) μ (by omega) (Nat.le_refl _) hA ⟨T1, fun p' q' h1 h2 h3 h4 h5 h6 h7 => T2 p' q' h1 h2 h3 h4 h5 h6 ?_⟩ ⟨F1, F2, fun p' q' h1 h2 h3 h4 h5 => ?_⟩ hk
    · exact this
    · omega
    · by_cases e : q' = K2 d
      · rw [e]; exact F1 p' h1 h2
      · exact F3 p' q' h1 h2 h3 h4 (by omega)
theorem ct_row {σ0 : Sto} {μ0 : Mu} {a d : Nat} (ha : 1 ≤ a ∧ a ≤ n1) (hd : 1 ≤ d ∧ d ≤ n2) (pre : ∀ p q, K1 a < p → p ≤ a → K2 d < q → q ≤ d → ¬ (K1 p = K1 a ∧ K2 q = K2 d) → mA μ0 35 (22 * p + q) = FD K1 K2 c (K1 p) p (K2 q) q) :
    ∀ (f q : Nat) (μ : Mu), q + f = d → K2 d ≤ q → TA b μ n1 n2 K1 K2 c → mA μ 35 = mA μ0 35 → (∀ p, K1 a ≤ p → p ≤ a → mA μ 36 (22 * p + K2 d) = ((p - K1 a : Nat) : Int)) → (∀ y, K2 d ≤ y → y ≤ q → mA μ 36 (22 * K1 a + y) = ((y - K2 d : Nat) : Int)) → TaF μ0 μ → Mw Ω σ0 m M_Mdl_compareTrees rm_Mdl_compareTrees (QCt Ω σ0 m μ0 K1 K2 c a d) 88 [xr (some m), xi a, xi d, xi ((K1 a : Nat) + 1), xi ((K2 d : Nat) + 1), xi ((q + 1 : Nat) : Int), xu, xu, xu] [] μ := by
  intro f
  induction f with
  | zero =>
    intro q μ hf hq hA hT hc hr hk
    obtain ⟨hI, a1, a2, ns1, ns2, -⟩ := id hA
    have e : q = d := by omega
    subst e
    have na := ns1 a ha.1 ha.2
    refine B_compareTrees_88 ⟨by omega, by omega, fun _ => ?_, fun z => absurd (by omega) z⟩
    have := ct_out (Ω := Ω) (σ0 := σ0) (m := m) ha hd pre (a - K1 a) (K1 a) μ (by omega) (Nat.le_refl _) hA ⟨fun p q _ _ => by rw [hT], fun p' q' h1 h2 h3 h4 h5 h6 h7 => by omega⟩ ⟨fun p h1 h2 => ?_, fun y h1 h2 => ?_, fun p' q' h1 h2 h3 h4 h5 => ?_⟩ hk
    · exact this
    · rw [hc p h1 h2, FD_j0 (Nat.le_refl _)]
    · rw [hr y h1 h2, FD_i0 (Nat.le_refl _)]
    · have e : p' = K1 a := by omega
      rw [e, hr q' h3 h4, FD_i0 (Nat.le_refl _)]
  | succ f ih =>
    intro q μ hf hq hA hT hc hr hk
    obtain ⟨hI, a1, a2, ns1, ns2, -⟩ := id hA
    have na := ns1 a ha.1 ha.2
    have e1 : (22 * ((K1 a : Int) + 1 - 1) + ((q + 1 : Nat) : Int) - 1).toNat = 22 * K1 a + q := by omega
    have e2 : (22 * ((K1 a : Int) + 1 - 1) + ((q + 1 : Nat) : Int)).toNat = 22 * K1 a + (q + 1) := by omega
    refine B_compareTrees_88 ?_
    rw [e1, e2, hr q hq (Nat.le_refl _)]
    refine ⟨by omega, by omega, fun z => absurd z (by omega), fun _ => ⟨by omega, by omega, by omega, by omega, by omega, ?_⟩⟩
    refine ih (q + 1) _ (by omega) (by omega) (hA.fr (Fr.wA (by decide))) (funext fun z => ?_) (fun p h1 h2 => ?_) (fun y h1 h2 => ?_) (hk.trans (Fr.wA (by decide)))
    · rw [mA_wA, if_neg (fun w => absurd w.1 (by decide)), hT]
    · rw [mA_wA, if_neg (by omega)]; exact hc p h1 h2
    · rw [mA_wA]
      by_cases e : y = q + 1
      · rw [if_pos ⟨rfl, by omega⟩]; omega
      · rw [if_neg (by omega)]; exact hr y h1 (by omega)
theorem ct_col {σ0 : Sto} {μ0 : Mu} {a d : Nat} (ha : 1 ≤ a ∧ a ≤ n1) (hd : 1 ≤ d ∧ d ≤ n2) (pre : ∀ p q, K1 a < p → p ≤ a → K2 d < q → q ≤ d → ¬ (K1 p = K1 a ∧ K2 q = K2 d) → mA μ0 35 (22 * p + q) = FD K1 K2 c (K1 p) p (K2 q) q) :
    ∀ (f p : Nat) (μ : Mu), p + f = a → K1 a ≤ p → TA b μ n1 n2 K1 K2 c → mA μ 35 = mA μ0 35 → (∀ x, K1 a ≤ x → x ≤ p → mA μ 36 (22 * x + K2 d) = ((x - K1 a : Nat) : Int)) → TaF μ0 μ → Mw Ω σ0 m M_Mdl_compareTrees rm_Mdl_compareTrees (QCt Ω σ0 m μ0 K1 K2 c a d) 38 [xr (some m), xi a, xi d, xi ((K1 a : Nat) + 1), xi ((K2 d : Nat) + 1), xi ((p + 1 : Nat) : Int), xu, xu, xu] [] μ := by
  intro f
  induction f with
  | zero =>
    intro p μ hf hp hA hT hc hk
    obtain ⟨hI, a1, a2, ns1, ns2, -⟩ := id hA
    have e : p = a := by omega
    subst e
    have nb := ns2 d hd.1 hd.2
    refine B_compareTrees_38 ⟨by omega, by omega, fun _ => ?_, fun z => absurd (by omega) z⟩
    refine ct_row ha hd pre (d - K2 d) (K2 d) μ (by omega) (Nat.le_refl _) hA hT hc (fun y h1 h2 => ?_) hk
    have e : y = K2 d := by omega
    rw [e, hc _ (Nat.le_refl _) hp, Nat.sub_self, Nat.sub_self]
  | succ f ih =>
    intro p μ hf hp hA hT hc hk
    obtain ⟨hI, a1, a2, ns1, ns2, -⟩ := id hA
    have nb := ns2 d hd.1 hd.2
    have e1 : (22 * (((p + 1 : Nat) : Int) - 1) + ((K2 d : Int) + 1) - 1).toNat = 22 * p + K2 d := by omega
    have e2 : (22 * ((p + 1 : Nat) : Int) + ((K2 d : Int) + 1) - 1).toNat = 22 * (p + 1) + K2 d := by omega
    refine B_compareTrees_38 ?_
    rw [e1, e2, hc p hp (Nat.le_refl _)]
    refine ⟨by omega, by omega, fun z => absurd z (by omega), fun _ => ⟨by omega, by omega, by omega, by omega, by omega, ?_⟩⟩
    refine ih (p + 1) _ (by omega) (by omega) (hA.fr (Fr.wA (by decide))) (funext fun z => ?_) (fun x h1 h2 => ?_) (hk.trans (Fr.wA (by decide)))
    · rw [mA_wA, if_neg (fun w => absurd w.1 (by decide)), hT]
    · rw [mA_wA]
      by_cases e : x = p + 1
      · rw [if_pos ⟨rfl, by omega⟩]; omega
      · rw [if_neg (by omega)]; exact hc x h1 (by omega)
theorem K_compareTrees {a d : Nat} (hA : TA b μ n1 n2 K1 K2 c) (ha : 1 ≤ a ∧ a ≤ n1) (hd : 1 ≤ d ∧ d ≤ n2) (pre : ∀ p q, K1 a < p → p ≤ a → K2 d < q → q ≤ d → ¬ (K1 p = K1 a ∧ K2 q = K2 d) → mA μ 35 (22 * p + q) = FD K1 K2 c (K1 p) p (K2 q) q) : MMv Ω m M_Mdl_compareTrees rm_Mdl_compareTrees (fun μ' => TaF μ μ' ∧ TPm μ μ' K1 K2 c a d (a + 1) 0) μ [xi a, xi d] := by
  obtain ⟨hI, a1, a2, ns1, ns2, A1, A2, A3⟩ := id hA
  have na := ns1 a ha.1 ha.2
  have nb := ns2 d hd.1 hd.2
  have hk1 := (A1 a ha.1 ha.2).1
  have hk2 := (A2 d hd.1 hd.2).1
  have e1 : (22 + (d : Int)).toNat = 22 + d := by omega
  have e2 : (22 * ((K1 a : Int) + 1 - 1) + ((K2 d : Int) + 1) - 1).toNat = 22 * K1 a + K2 d := by omega
  refine E_compareTrees fun σ0 => B_compareTrees_0 ?_
  rw [Int.toNat_natCast, e1, hk1, hk2, e2]
  refine ⟨by omega, by omega, by omega, by omega, by omega, by omega, ?_⟩
  refine ct_col ha hd pre (a - K1 a) (K1 a) _ (by omega) (Nat.le_refl _) (hA.fr (Fr.wA (by decide))) (funext fun z => ?_) (fun x h1 h2 => ?_) (Fr.wA (by decide))
  · rw [mA_wA, if_neg (fun w => absurd w.1 (by decide))]
  · have e : x = K1 a := by omega
    rw [e, mA_wA, if_pos ⟨rfl, rfl⟩, Nat.sub_self]; rfl
/-- the pairs of key nodes ahead of i and j are done -/
def KDm (μ : Mu) (n1 n2 : Nat) (K1 K2 : Nat → Nat) (c : Nat → Nat → Nat) (i j : Nat) : Prop := ∀ a d, 1 ≤ a → a ≤ n1 → 1 ≤ d → d ≤ n2 → Ky K1 n1 a → Ky K2 n2 d → (a < i ∨ a = i ∧ d < j) → ∀ p q, 1 ≤ p → p ≤ n1 → 1 ≤ q → q ≤ n2 → K1 p = K1 a → K2 q = K2 d → mA μ 35 (22 * p + q) = FD K1 K2 c (K1 p) p (K2 q) q
theorem KDm.pre {i j : Nat} (h : KDm μ n1 n2 K1 K2 c i j) (ns1 : Ns K1 n1) (ns2 : Ns K2 n2) (hi : 1 ≤ i ∧ i ≤ n1) (hj : 1 ≤ j ∧ j ≤ n2) (ki : Ky K1 n1 i) (kj : Ky K2 n2 j) : ∀ p q, K1 i < p → p ≤ i → K2 j < q → q ≤ j → ¬ (K1 p = K1 i ∧ K2 q = K2 j) → mA μ 35 (22 * p + q) = FD K1 K2 c (K1 p) p (K2 q) q := by
  intro p q h1 h2 h3 h4 h5
  obtain ⟨a, x1, x2, x3, x4⟩ := Ky_ex (K := K1) (n := n1) n1 p (by omega) (by omega)
  obtain ⟨d, y1, y2, y3, y4⟩ := Ky_ex (K := K2) (n := n2) n2 q (by omega) (by omega)
  have u1 := (ns1 i hi.1 hi.2).2 p h1 h2
  have u2 := (ns2 j hj.1 hj.2).2 q h3 h4
  have v1 : a ≤ i := by
    apply Classical.byContradiction
    intro hc
    have w1 := (ns1 a (by omega) x2).2 i (by rw [x3]; have := (ns1 p (by omega) (by omega)).1; omega) (by omega)
    exact ki a (by omega) x2 (by omega)
  have v2 : d ≤ j := by
    apply Classical.byContradiction
    intro hc
    have w1 := (ns2 d (by omega) y2).2 j (by rw [y3]; have := (ns2 q (by omega) (by omega)).1; omega) (by omega)
    exact kj d (by omega) y2 (by omega)
  refine h a d (by omega) x2 (by omega) y2 x4 y4 ?_ p q (by omega) (by omega) (by omega) (by omega) x3.symm y3.symm
  by_cases e : a = i
  · refine Or.inr ⟨e, ?_⟩
    by_cases e2 : d = j
    · rw [e] at x3; rw [e2] at y3
      exact absurd ⟨x3.symm, y3.symm⟩ h5
    · omega
  · omega
theorem KDm.post {μ' : Mu} {i j : Nat} (h : KDm μ n1 n2 K1 K2 c i j) (hn : n2 ≤ 21) (ns1 : Ns K1 n1) (ns2 : Ns K2 n2) (hi : 1 ≤ i ∧ i ≤ n1) (hj : 1 ≤ j ∧ j ≤ n2) (ki : Ky K1 n1 i) (kj : Ky K2 n2 j) (g : TPm μ μ' K1 K2 c i j (i + 1) 0) : KDm μ' n1 n2 K1 K2 c i (j + 1) := by
  intro a d h1 h2 h3 h4 ka kb hab p q p1 p2 q1 q2 e1 e2
  obtain ⟨T1, T2⟩ := g
  by_cases e : K1 p = K1 i ∧ K2 q = K2 j
  · have u1 : p ≤ i := by
      apply Classical.byContradiction
      intro hc
      exact ki p (by omega) p2 e.1
    have u2 : q ≤ j := by
      apply Classical.byContradiction
      intro hc
      exact kj q (by omega) q2 e.2
    have w1 := (ns1 p p1 p2).1
    have w2 := (ns2 q q1 q2).1
    rw [T2 p q (by omega) u1 (by omega) u2 e.1 e.2 (Or.inl (by omega)), e.1, e.2]
  · rw [T1 p q (by omega) e]
    refine h a d h1 h2 h3 h4 ka kb ?_ p q p1 p2 q1 q2 e1 e2
    rcases hab with hab | hab
    · exact Or.inl hab
    · by_cases e3 : d = j
      · rw [hab.1] at e1; rw [e3] at e2
        exact absurd ⟨e1, e2⟩ e
      · exact Or.inr ⟨hab.1, by omega⟩
theorem KDm.row {i : Nat} (h : KDm μ n1 n2 K1 K2 c i (n2 + 1)) : KDm μ n1 n2 K1 K2 c (i + 1) 1 := by
  intro a d h1 h2 h3 h4 ka kb hab
  refine h a d h1 h2 h3 h4 ka kb ?_
  rcases hab with hab | hab
  · by_cases e : a = i
    · exact Or.inr ⟨e, by omega⟩
    · exact Or.inl (by omega)
  · omega
theorem tc_in {σ0 : Sto} {F : QF} {μ0 : Mu} {v w : Int} {i : Nat} (hi : 1 ≤ i ∧ i ≤ n1) (out : ∀ μ, TA b μ n1 n2 K1 K2 c → KDm μ n1 n2 K1 K2 c (i + 1) 1 → TaF μ0 μ → Mw Ω σ0 m M_Mdl_treeCost rm_Mdl_treeCost F 64 [xr (some m), xi v, xi w, xi n1, xi n2, xi ((i : Int) + 1), xu] [] μ) : ∀ (f j : Nat) (μ : Mu), j + f = n2 + 1 → 1 ≤ j → TA b μ n1 n2 K1 K2 c → KDm μ n1 n2 K1 K2 c i j → TaF μ0 μ → Mw Ω σ0 m M_Mdl_treeCost rm_Mdl_treeCost F 73 [xr (some m), xi v, xi w, xi n1, xi n2, xi i, xi j] [] μ := by
  intro f
  induction f with
  | zero =>
    intro j μ hd hj hA hK hk
    obtain ⟨hI, a1, a2, -⟩ := id hA
    have e : j = n2 + 1 := by omega
    subst e
    exact B_treeCost_73 ⟨by omega, by omega, fun _ => out μ hA hK.row hk, fun z => absurd (by omega) z⟩
  | succ f ih =>
    intro j μ hd hj hA hK hk
    obtain ⟨hI, a1, a2, ns1, ns2, A1, A2, A3⟩ := id hA
    have skip : ¬ (Ky K1 n1 i ∧ Ky K2 n2 j) → Mw Ω σ0 m M_Mdl_treeCost rm_Mdl_treeCost F 73 [xr (some m), xi v, xi w, xi n1, xi n2, xi i, xi ((j : Int) + 1)] [] μ := by
      intro hn
      refine ih (j + 1) μ (by omega) (by omega) hA (fun a d h1 h2 h3 h4 ka kb hab => hK a d h1 h2 h3 h4 ka kb ?_) hk
      rcases hab with hab | hab
      · exact Or.inl hab
      · by_cases e : d = j
        · exact absurd ⟨hab.1 ▸ ka, e ▸ kb⟩ hn
        · exact Or.inr ⟨hab.1, by omega⟩
    refine B_treeCost_73 ⟨by omega, by omega, fun z => absurd z (by omega), fun _ => ?_⟩
    refine C_treeCost_85 (K_isKey (t := 0) (K := K1) (by omega) a1 hi (fun k h1 h2 => by rw [Nat.mul_zero, Nat.zero_add]; exact (A1 k h1 h2).1)) fun y μ1 hq => ?_
    obtain ⟨hz, rfl⟩ := hq
    rcases hz with ⟨rfl, ki⟩ | ⟨rfl, ki⟩
    · refine B_treeCost_88 ⟨by decide, fun z => absurd z (by decide), fun _ => ?_⟩
      refine C_treeCost_97 (K_isKey (t := 1) (K := K2) (by omega) a2 (show 1 ≤ j ∧ j ≤ n2 by omega) (fun k h1 h2 => by rw [Nat.mul_one]; exact (A2 k h1 h2).1)) fun y μ1 hq => ?_
      obtain ⟨hz, rfl⟩ := hq
      rcases hz with ⟨rfl, kj⟩ | ⟨rfl, kj⟩
      · refine B_treeCost_100 ⟨by decide, fun z => absurd z (by decide), fun _ => ?_⟩
        have hj2 : 1 ≤ j ∧ j ≤ n2 := by omega
        refine C_treeCost_108 (K_compareTrees hA hi hj2 (hK.pre ns1 ns2 hi hj2 ki kj)) fun μ2 hq => ?_
        exact B_treeCost_111 (ih (j + 1) μ2 (by omega) (by omega) (hA.fr hq.1) (hK.post a2 ns1 ns2 hi hj2 ki kj hq.2) (hk.trans hq.1))
      · exact B_treeCost_100 ⟨by decide, fun _ => skip (fun z => kj z.2), fun z => absurd rfl z⟩
    · exact B_treeCost_88 ⟨by decide, fun _ => skip (fun z => ki z.1), fun z => absurd rfl z⟩
theorem tc_out {σ0 : Sto} {F : QF} {μ0 : Mu} {v w : Int} (h1 : 1 ≤ n1) (h2 : 1 ≤ n2) (out : ∀ μ, TaF μ0 μ → Mw Ω σ0 m M_Mdl_treeCost rm_Mdl_treeCost F 135 [xr (some m), xi v, xi w, xi n1, xi n2, xi ((n1 + 1 : Nat) : Int), xu] [xi (FD K1 K2 c (K1 n1) n1 (K2 n2) n2 : Nat)] μ) : ∀ (f i : Nat) (μ : Mu), i + f = n1 + 1 → 1 ≤ i → TA b μ n1 n2 K1 K2 c → KDm μ n1 n2 K1 K2 c i 1 → TaF μ0 μ → Mw Ω σ0 m M_Mdl_treeCost rm_Mdl_treeCost F 64 [xr (some m), xi v, xi w, xi n1, xi n2, xi i, xu] [] μ := by
  intro f
  induction f with
  | zero =>
    intro i μ hd hi hA hK hk
    obtain ⟨hI, a1, a2, -⟩ := id hA
    have e : i = n1 + 1 := by omega
    subst e
    have e1 : (22 * (n1 : Int) + (n2 : Int)).toNat = 22 * n1 + n2 := by omega
    refine B_treeCost_64 ?_
    rw [e1, hK n1 n2 h1 (Nat.le_refl _) h2 (Nat.le_refl _) (fun k h1 h2 => by omega) (fun k h1 h2 => by omega) (Or.inl (by omega)) n1 n2 h1 (Nat.le_refl _) h2 (Nat.le_refl _) rfl rfl]
    exact ⟨by omega, by omega, fun _ => ⟨by omega, by omega, out μ hk⟩, fun z => absurd (by omega) z⟩
  | succ f ih =>
    intro i μ hd hi hA hK hk
    obtain ⟨hI, a1, a2, -⟩ := id hA
    refine B_treeCost_64 ⟨by omega, by omega, fun z => absurd z (by omega), fun _ => ?_⟩
    exact tc_in ⟨hi, by omega⟩ (fun μ' g1 g2 g3 => ih (i + 1) μ' (by omega) (by omega) g1 g2 g3) n2 1 μ (by omega) (Nat.le_refl _) hA hK hk
end TRC
section TRX
variable {Ω : Om} {m : Nat} {μ : Mu} {S : St} {v w : Int}
theorem trK_top (ls : List Int64) : trK (trT ls) (ls.length + 1) = 0 := by
  obtain ⟨L, c1, c2, c3, c4⟩ := trT_num ls
  have el : (mpO (dT ls) (laT ls) L).length = ls.length := by unfold mpO; rw [List.length_map, c3]
  unfold trK
  rw [c1, List.getD_eq_getElem?_getD, Nat.add_sub_cancel, List.getElem?_append_right (by omega), el, Nat.sub_self]
  rfl
theorem trL_top (ls : List Int64) : trL (trT ls) (ls.length + 1) = 0 := by
  obtain ⟨L, c1, c2, c3, c4⟩ := trT_num ls
  have el : (mpO (dT ls) (laT ls) L).length = ls.length := by unfold mpO; rw [List.length_map, c3]
  unfold trL
  rw [c1, List.getD_eq_getElem?_getD, Nat.add_sub_cancel, List.getElem?_append_right (by omega), el, Nat.sub_self]
  rfl
theorem tc_fin {σ0 : Sto} {F : QF} {x y : List Int64} (h : MdV S μ) (lx : (vtx (sV S) v).length ≤ 20) (ly : (vtx (sV S) w).length ≤ 20) (hx : TrM (sB S) μ 0 x) (hy : TrM (sB S) μ 1 y) (out : ∀ (i : Int) (μ' : Mu), TaF μ μ' → Mw Ω σ0 m M_Mdl_treeCost rm_Mdl_treeCost F 135 [xr (some m), xi v, xi w, xi ((x.length : Int) + 1), xi ((y.length : Int) + 1), xi i, xu] [xi (tcN x y : Nat)] μ') (l1 : x.length ≤ 20 := by rw [List.length_map]; assumption) (l2 : y.length ≤ 20 := by rw [List.length_map]; assumption) : Mw Ω σ0 m M_Mdl_treeCost rm_Mdl_treeCost F 64 [xr (some m), xi v, xi w, xi ((x.length : Int) + 1), xi ((y.length : Int) + 1), xi (1 : Int), xu] [] μ := by
  have ns1 := (trT_inv x).ns
  have ns2 := (trT_inv y).ns
  rw [trT_len] at ns1 ns2
  have e1 : (x.length : Int) + 1 = ((x.length + 1 : Nat) : Int) := by omega
  have e2 : (y.length : Int) + 1 = ((y.length + 1 : Nat) : Int) := by omega
  obtain ⟨x1, x2, x3⟩ := hx
  obtain ⟨y1, y2, y3⟩ := hy
  simp only [Nat.mul_zero, Nat.zero_add, Nat.mul_one] at x1 x2 x3 y1 y2 y3
  have cA : ∀ i j, 1 ≤ i → i < x.length + 1 → 1 ≤ j → j < y.length + 1 → chC (sB S) (mA μ 32 i) (mA μ 32 (22 + j)) = cc (trL (trT x)) (trL (trT y)) i j := by
    intro i j a1 a2 b1 b2
    obtain ⟨g1, g2, g3, g4⟩ := x2 i a1 (by omega)
    obtain ⟨f1, f2, f3, f4⟩ := y2 j b1 (by omega)
    unfold chC cc
    rw [if_neg (by omega), dmL_eq g3, dmL_eq f3, ← g4, ← f4]
  have hA : TA (sB S) μ (x.length + 1) (y.length + 1) (trK (trT x)) (trK (trT y)) (fun i j => chC (sB S) (mA μ 32 i) (mA μ 32 (22 + j))) := by
    refine ⟨h.1, by omega, by omega, ns1, ns2, fun i a c => ⟨x1 i a c, ?_⟩, fun j a c => ⟨y1 j a c, ?_⟩, fun i j _ _ _ _ => rfl⟩
    · by_cases e : i = x.length + 1
      · subst e; exact Or.inl x3
      · have := x2 i a (by omega); exact Or.inr ⟨this.1, this.2.1⟩
    · by_cases e : j = y.length + 1
      · subst e; exact Or.inl y3
      · have := y2 j a (by omega); exact Or.inr ⟨this.1, this.2.1⟩
  have eq : FD (trK (trT x)) (trK (trT y)) (fun i j => chC (sB S) (mA μ 32 i) (mA μ 32 (22 + j))) (trK (trT x) (x.length + 1)) (x.length + 1) (trK (trT y) (y.length + 1)) (y.length + 1) = tcN x y := by
    unfold tcN
    rw [trK_top, trK_top]
    refine FD_tops ns1 ns2 (by omega) (by omega) (trK_top x) (trK_top y) ?_ ?_ cA
    · show chC _ _ _ = 0
      rw [x3, y3]; unfold chC; rw [if_pos (Or.inl rfl), if_pos rfl]
    · unfold cc; rw [trL_top, trL_top, if_pos rfl]
  rw [e1, e2]
  refine tc_out (μ0 := μ) (by omega) (by omega) (fun μ' k => ?_) (x.length + 1) 1 μ (by omega) (Nat.le_refl _) hA (fun a d h1 h2 h3 h4 ka kb hab => by omega) Fr.rf
  rw [eq, ← e1, ← e2]
  exact out _ μ' k
theorem X_treeCost (h : MdV S μ) (h20 : ∀ v : Int, (vtx (sV S) v).length ≤ 20) (hN : ∀ v : Int, Nm (sB S) (vtx (sV S) v)) (hv : Q32 v) (hw : Q32 w) : MMi Ω m M_Mdl_treeCost rm_Mdl_treeCost (OutI S (c1 (isV S v ∧ isV S w)) (tcN ((vtx (sV S) v).map (·.1)) ((vtx (sV S) w).map (·.1)) : Nat) S) μ [xi v, xi w] := by
  have h40 := h.2.1.2.1
  refine E_treeCost fun σ0 => B_treeCost_0 ?_
  refine C_treeCost_3 (K_isVersion hv h.2.1.1 h40) fun y μ1 hq => ?_
  obtain ⟨rfl, rfl⟩ := hq
  refine B_treeCost_6 ⟨bI_q, fun c => ?_, fun c => ?_⟩
  · have c' : ¬ (isV S v ∧ isV S w) := fun z => bI_0.mp c z.1
    refine C_treeCost_22 (K_refused (by decide)) fun y μ2 hq => ?_
    obtain ⟨rfl, rfl⟩ := hq
    refine B_treeCost_25 ⟨bI_q, fun c2 => absurd c2 (by decide), fun _ => ?_⟩
    refine R_treeCost_29 ?_
    rw [c1_f c']; exact OutI.no h (by decide)
  refine C_treeCost_11 (K_isVersion hw h.2.1.1 h40) fun y μ1 hq => ?_
  obtain ⟨rfl, rfl⟩ := hq
  refine B_treeCost_14 ⟨bI_q, fun d => ?_, fun d => ?_⟩
  · have c' : ¬ (isV S v ∧ isV S w) := fun z => bI_0.mp d z.2
    refine C_treeCost_22 (K_refused (by decide)) fun y μ2 hq => ?_
    obtain ⟨rfl, rfl⟩ := hq
    refine B_treeCost_25 ⟨bI_q, fun c2 => absurd c2 (by decide), fun _ => ?_⟩
    refine R_treeCost_29 ?_
    rw [c1_f c']; exact OutI.no h (by decide)
  have c' : isV S v ∧ isV S w := ⟨bI_1.mp c, bI_1.mp d⟩
  refine C_treeCost_22 (K_refused (by decide)) fun y μ2 hq => ?_
  obtain ⟨rfl, rfl⟩ := hq
  refine B_treeCost_25 ⟨bI_q, fun _ => ?_, fun c2 => absurd (show bI ((0 : Int) ≠ 0) = 0 by decide) c2⟩
  have hw0 := h.w0 (v := 0)
  have v1 := c'.1.1
  have v2 := c'.1.2
  have w1 := c'.2.1
  have w2 := c'.2.2
  refine C_treeCost_33 (K_plant (t := 0) hw0 (h20 v) (hN v) c'.1 (by decide)) fun μ1 hq => ?_
  obtain ⟨p1, q1, r1⟩ := hq
  refine B_treeCost_36 (C_treeCost_39 (K_plant (t := 1) (hw0.fr p1.scr) (h20 w) (hN w) c'.2 (by decide)) fun μ2 hq => ?_)
  obtain ⟨p2, q2, r2⟩ := hq
  have h2 : MdV S μ2 := (hw0.fr p1.scr).fr p2.scr
  have lv := h20 v
  have lw := h20 w
  refine B_treeCost_42 ?_
  rw [h2.2.1.sz v1 v2, h2.2.1.sz w1 w2]
  refine ⟨by omega, by omega, by omega, by omega, ?_⟩
  have z0 : mI μ2 0 = 0 := by rw [p2.1 0 (by decide), p1.1 0 (by decide)]; exact mw0
  rw [c1_t c']
  have X := tc_fin (Ω := Ω) (σ0 := σ0) (m := m) (v := v) (w := w) h2 lv lw (r1.eq (fun p hp => q2 (22 * 0 + p) (Or.inl (by rw [List.length_map] at hp; omega)))) r2 (F := MQi Ω σ0 m rm_Mdl_treeCost (OutI S 0 (tcN ((vtx (sV S) v).map (·.1)) ((vtx (sV S) w).map (·.1)) : Nat) S)) (fun i μ3 k => R_treeCost_135 ⟨(k.1 0 (by decide)).trans z0, fun _ => ⟨rfl, h2.fr (k.mono (by decide) (by decide) (by decide))⟩, fun z => absurd rfl z⟩)
  rw [List.length_map, List.length_map] at X
  exact X
end TRX
