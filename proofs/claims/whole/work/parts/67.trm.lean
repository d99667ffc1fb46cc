/-! BY HAND: TreeMeter, the tables and the cost of two texts -/
section TMW
variable {Ω : Om} {σ0 : Sto} {t n1 n2 : Nat} {K1 K2 : Nat → Nat} {l1 l2 : Nat → Int64}
abbrev TW (t : Nat) : Nat → Prop := fun b => t + 5 < b ∧ b < t + 51
/-- the costs of the trees of a pair of key nodes, i and j where it stands -/
def TP (σ0 σ : Sto) (t : Nat) (K1 K2 : Nat → Nat) (l1 l2 : Nat → Int64) (a b i j : Nat) : Prop :=
  (∀ p q, p < 22 → ¬ (K1 p = K1 a ∧ K2 q = K2 b) → aI σ (t + 6 + p) q = aI σ0 (t + 6 + p) q) ∧
  (∀ p q, K1 a < p → p ≤ a → K2 b < q → q ≤ b → K1 p = K1 a → K2 q = K2 b → (p < i ∨ p = i ∧ q < j) → aI σ (t + 6 + p) q = FD K1 K2 (cc l1 l2) (K1 a) p (K2 b) q)
/-- the columns and rows of the forests -/
def FP (σ : Sto) (t : Nat) (K1 K2 : Nat → Nat) (l1 l2 : Nat → Int64) (a b i j : Nat) : Prop :=
  (∀ p, K1 a ≤ p → p ≤ a → aI σ (t + 29 + p) (K2 b) = FD K1 K2 (cc l1 l2) (K1 a) p (K2 b) (K2 b)) ∧ (∀ q, K2 b ≤ q → q ≤ b → aI σ (t + 29 + K1 a) q = FD K1 K2 (cc l1 l2) (K1 a) (K1 a) (K2 b) q) ∧
  (∀ p q, K1 a ≤ p → p ≤ a → K2 b ≤ q → q ≤ b → (p < i ∨ p = i ∧ q < j) → aI σ (t + 29 + p) q = FD K1 K2 (cc l1 l2) (K1 a) p (K2 b) q)
abbrev QWg (Ω : Om) (σ0 : Sto) (t n1 n2 : Nat) (K1 K2 : Nat → Nat) (l1 l2 : Nat → Int64) (a b : Nat) : QF := MF Ω rm_Trm_weigh (RV fun σ' => TmA σ' t n1 n2 K1 K2 l1 l2 ∧ TP σ0 σ' t K1 K2 l1 l2 a b (a + 1) 0 ∧ Keep σ0 σ' (TW t) ∧ Shp σ0 σ') XN
theorem wg_in {a b : Nat} (ha : 1 ≤ a ∧ a ≤ n1) (hb : 1 ≤ b ∧ b ≤ n2) (pre : ∀ p q, K1 a < p → p ≤ a → K2 b < q → q ≤ b → ¬ (K1 p = K1 a ∧ K2 q = K2 b) → aI σ0 (t + 6 + p) q = FD K1 K2 (cc l1 l2) (K1 p) p (K2 q) q) {p : Nat} (hp : K1 a ≤ p) (hpa : p < a)
    (out : ∀ σ, TmA σ t n1 n2 K1 K2 l1 l2 → TP σ0 σ t K1 K2 l1 l2 a b (p + 2) 0 → FP σ t K1 K2 l1 l2 a b (p + 2) 0 → Keep σ0 σ (TW t) → Shp σ0 σ → Aw Ω M_Trm_weigh rm_Trm_weigh (QWg Ω σ0 t n1 n2 K1 K2 l1 l2 a b) 0 0 117 [xr (some t), xi a, xi b, xi ((K1 a : Nat) + 1), xi ((K2 b : Nat) + 1), xi (((p + 1 : Nat) : Int) + 1), xu] [] σ) :
    ∀ (d q : Nat) (σ : Sto), q + d = b → K2 b ≤ q → TmA σ t n1 n2 K1 K2 l1 l2 → TP σ0 σ t K1 K2 l1 l2 a b (p + 1) (q + 1) → FP σ t K1 K2 l1 l2 a b (p + 1) (q + 1) → Keep σ0 σ (TW t) → Shp σ0 σ → Aw Ω M_Trm_weigh rm_Trm_weigh (QWg Ω σ0 t n1 n2 K1 K2 l1 l2 a b) 0 0 127 [xr (some t), xi a, xi b, xi ((K1 a : Nat) + 1), xi ((K2 b : Nat) + 1), xi ((p + 1 : Nat) : Int), xi ((q + 1 : Nat) : Int)] [] σ := by
  intro d
  induction d with
  | zero =>
    intro q σ hd hq hA hT hF hk hs
    obtain ⟨hS, a1, a2, ns1, ns2, A1, A2⟩ := id hA
    obtain ⟨T1, T2⟩ := hT
    obtain ⟨F1, F2, F3⟩ := hF
    refine b_Trm_weigh_127 ⟨by omega, by omega, fun _ => out σ hA ⟨T1, fun p' q' h1 h2 h3 h4 h5 h6 h7 => T2 p' q' h1 h2 h3 h4 h5 h6 ?_⟩ ⟨F1, F2, fun p' q' h1 h2 h3 h4 h5 => F3 p' q' h1 h2 h3 h4 ?_⟩ hk hs, fun c => absurd (by omega) c⟩
    · rcases h7 with h7 | h7
      · by_cases e : p' = p + 1
        · exact Or.inr ⟨e, by omega⟩
        · exact Or.inl (by omega)
      · exact absurd h7.2 (Nat.not_lt_zero _)
    · rcases h5 with h5 | h5
      · by_cases e : p' = p + 1
        · exact Or.inr ⟨e, by omega⟩
        · exact Or.inl (by omega)
      · exact absurd h5.2 (Nat.not_lt_zero _)
  | succ d ih =>
    intro q σ hd hq hA hT hF hk hs
    obtain ⟨hS, a1, a2, ns1, ns2, A1, A2⟩ := id hA
    obtain ⟨g0, g1, f0, f1, f2, f3, f4, f5, f6, f7, f8, k1, k2, k3, k4, k5, k6, k7, k8, k9, z1, z2, z3, z4, z5, z6, z7, z8, z9, r1, r2⟩ := id hS
    obtain ⟨T1, T2⟩ := id hT
    obtain ⟨F1, F2, F3⟩ := id hF
    have na := ns1 a ha.1 ha.2
    have nb := ns2 b hb.1 hb.2
    have np := ns1 (p + 1) (by omega) (by omega)
    have nq := ns2 (q + 1) (by omega) (by omega)
    have np2 := na.2 (p + 1) (by omega) (by omega)
    have nq2 := nb.2 (q + 1) (by omega) (by omega)
    refine b_Trm_weigh_127 ⟨by omega, by omega, fun c => absurd c (by omega), fun _ => ⟨g1, _, f5, k6, by omega, by omega, ?_⟩⟩
    have rp1 := r2 (p + 1) (by omega)
    have e2 : (((p + 1 : Nat) : Int)).toNat = p + 1 := by omega
    rw [e2, rp1.1]
    have G1 := F3 p (q + 1) hp (by omega) (by omega) (by omega) (Or.inl (by omega))
    have G2 := F3 (p + 1) q (by omega) (by omega) (by omega) (by omega) (Or.inr ⟨rfl, by omega⟩)
    have G3 := F3 p q hp (by omega) (by omega) (by omega) (Or.inl (by omega))
    refine c_Trm_weigh_150 (k_Trm_leastCost (l := K1 a) (m := K2 b) (p := p) (q := q) hA hp (by omega) hq (by omega) np2 nq2 G1 G2 G3 (fun hn => ⟨F3 (K1 (p + 1)) (K2 (q + 1)) np2 (by omega) nq2 (by omega) (Or.inl (by omega)), (T1 (p + 1) (q + 1) (by omega) hn).trans (pre (p + 1) (q + 1) (by omega) (by omega) (by omega) (by omega) hn)⟩)) g1 (by decide) (by decide) (by first | decide | omega) (by first | decide | omega) (Nat.le_of_ble_eq_true rfl) (fun z σ1 hq => ?_) (fun _ _ hx => hx.elim)
    obtain ⟨rfl, e1⟩ := hq
    have b6 := FD_ub (K1 := K1) (K2 := K2) (c := cc l1 l2) _ (K1 a) (p + 1) (K2 b) (q + 1) (Nat.le_refl _)
    have hk1 : Keep σ σ1 (TW t) := by
      rw [e1]; split
      · exact Keep.vI (by omega)
      · exact Keep.rf
    have hs1 : Shp σ σ1 := by
      rw [e1]; split
      · exact Shp.vI
      · exact Shp.rf
    have hA1 : TmA σ1 t n1 n2 K1 K2 l1 l2 := by
      rw [e1]; split
      · exact hA.vI (by omega)
      · exact hA
    have hS1 := hA1.1
    have rq1 := hS1.2.2.2.2.2.2.2.2.2.2.2.2.2.2.2.2.2.2.2.2.2.2.2.2.2.2.2.2.2.2 (p + 1) (by omega)
    have e4 : (((q + 1 : Nat) : Int)).toNat = q + 1 := by omega
    refine b_Trm_weigh_153 ⟨rq1.2.1, by omega, by omega, by omega, ?_⟩
    rw [e4]
    have F1' : ∀ x y, aI σ1 (t + 29 + x) y = aI σ (t + 29 + x) y ∨ 21 < x := fun x y => by
      by_cases hx : 21 < x
      · exact Or.inr hx
      · refine Or.inl ?_
        rw [e1]; split
        · rw [aI_vI, if_neg (by omega)]
        · rfl
    have FF : ∀ x y, x ≤ 21 → aI σ1 (t + 29 + x) y = aI σ (t + 29 + x) y := fun x y h => (F1' x y).resolve_right (by omega)
    have kk : Keep σ1 (vI σ1 (t + 29 + (p + 1)) (q + 1) (FD K1 K2 (cc l1 l2) (K1 a) (p + 1) (K2 b) (q + 1) : Nat)) (TW t) := Keep.vI (by omega)
    refine ih (q + 1) (vI σ1 (t + 29 + (p + 1)) (q + 1) (FD K1 K2 (cc l1 l2) (K1 a) (p + 1) (K2 b) (q + 1) : Nat)) (by omega) (by omega) (hA1.vI (by omega)) ⟨fun p' q' h1 h2 => ?_, fun p' q' h1 h2 h3 h4 h5 h6 h7 => ?_⟩ ⟨fun p' h1 h2 => ?_, fun q' h1 h2 => ?_, fun p' q' h1 h2 h3 h4 h5 => ?_⟩ (hk.trans (hk1.trans kk)) (hs.trans (hs1.trans Shp.vI))
    · rw [aI_vI, if_neg (by omega), e1]
      split
      · rename_i hy
        rw [aI_vI, if_neg (fun z => h2 (by
          have e : p' = p + 1 := by omega
          rw [e, z.2]; exact hy))]
        exact T1 p' q' h1 h2
      · exact T1 p' q' h1 h2
    · rw [aI_vI, if_neg (by omega), e1]
      by_cases e : p' = p + 1 ∧ q' = q + 1
      · obtain ⟨rfl, rfl⟩ := e
        rw [if_pos ⟨h5, h6⟩, aI_vI, if_pos ⟨rfl, rfl⟩]
      · have h8 := T2 p' q' h1 h2 h3 h4 h5 h6 (by omega)
        split
        · rw [aI_vI, if_neg (by omega)]; exact h8
        · exact h8
    · rw [aI_vI, if_neg (by omega), FF p' _ (by omega)]; exact F1 p' h1 h2
    · rw [aI_vI, if_neg (by omega), FF _ q' (by omega)]; exact F2 q' h1 h2
    · rw [aI_vI]
      by_cases e : p' = p + 1 ∧ q' = q + 1
      · obtain ⟨rfl, rfl⟩ := e
        rw [if_pos ⟨rfl, rfl⟩]
      · rw [if_neg (by omega), FF p' _ (by omega)]
        exact F3 p' q' h1 h2 h3 h4 (by omega)
theorem wg_out {a b : Nat} (ha : 1 ≤ a ∧ a ≤ n1) (hb : 1 ≤ b ∧ b ≤ n2) (pre : ∀ p q, K1 a < p → p ≤ a → K2 b < q → q ≤ b → ¬ (K1 p = K1 a ∧ K2 q = K2 b) → aI σ0 (t + 6 + p) q = FD K1 K2 (cc l1 l2) (K1 p) p (K2 q) q) :
    ∀ (d p : Nat) (σ : Sto), p + d = a → K1 a ≤ p → TmA σ t n1 n2 K1 K2 l1 l2 → TP σ0 σ t K1 K2 l1 l2 a b (p + 1) 0 → FP σ t K1 K2 l1 l2 a b (p + 1) 0 → Keep σ0 σ (TW t) → Shp σ0 σ → Aw Ω M_Trm_weigh rm_Trm_weigh (QWg Ω σ0 t n1 n2 K1 K2 l1 l2 a b) 0 0 117 [xr (some t), xi a, xi b, xi ((K1 a : Nat) + 1), xi ((K2 b : Nat) + 1), xi ((p + 1 : Nat) : Int), xu] [] σ := by
  intro d
  induction d with
  | zero =>
    intro p σ hd hp hA hT hF hk hs
    obtain ⟨hS, a1, a2, ns1, ns2, A1, A2⟩ := id hA
    have e : p = a := by omega
    subst e
    refine b_Trm_weigh_117 ⟨by omega, by omega, fun _ => ?_, fun c => absurd (by omega) c⟩
    exact r_Trm_weigh_166 ⟨rfl, hA, hT, hk, hs⟩ (by decide) (by decide)
  | succ d ih =>
    intro p σ hd hp hA hT hF hk hs
    obtain ⟨hS, a1, a2, ns1, ns2, A1, A2⟩ := id hA
    have nb := ns2 b hb.1 hb.2
    obtain ⟨T1, T2⟩ := id hT
    obtain ⟨F1, F2, F3⟩ := id hF
    refine b_Trm_weigh_117 ⟨by omega, by omega, fun c => absurd c (by omega), fun _ => ?_⟩
    have := wg_in (Ω := Ω) ha hb pre hp (by omega) (fun σ' g1 g2 g3 g4 g5 => ih (p + 1) σ' (by omega) (by omega) g1 g2 g3 g4 g5) (b - K2 b) (K2 b) σ (by omega) (Nat.le_refl _) hA ⟨T1, fun p' q' h1 h2 h3 h4 h5 h6 h7 => T2 p' q' h1 h2 h3 h4 h5 h6 ?_⟩ ⟨F1, F2, fun p' q' h1 h2 h3 h4 h5 => ?_⟩ hk hs
    · exact this
    · omega
    · by_cases e : q' = K2 b
      · rw [e]; exact F1 p' h1 h2
      · exact F3 p' q' h1 h2 h3 h4 (by omega)
theorem wg_row {a b : Nat} (ha : 1 ≤ a ∧ a ≤ n1) (hb : 1 ≤ b ∧ b ≤ n2) (pre : ∀ p q, K1 a < p → p ≤ a → K2 b < q → q ≤ b → ¬ (K1 p = K1 a ∧ K2 q = K2 b) → aI σ0 (t + 6 + p) q = FD K1 K2 (cc l1 l2) (K1 p) p (K2 q) q) :
    ∀ (d q : Nat) (σ : Sto), q + d = b → K2 b ≤ q → TmA σ t n1 n2 K1 K2 l1 l2 → (∀ p q, p < 22 → aI σ (t + 6 + p) q = aI σ0 (t + 6 + p) q) → (∀ p, K1 a ≤ p → p ≤ a → aI σ (t + 29 + p) (K2 b) = ((p - K1 a : Nat) : Int)) → (∀ y, K2 b ≤ y → y ≤ q → aI σ (t + 29 + K1 a) y = ((y - K2 b : Nat) : Int)) → Keep σ0 σ (TW t) → Shp σ0 σ → Aw Ω M_Trm_weigh rm_Trm_weigh (QWg Ω σ0 t n1 n2 K1 K2 l1 l2 a b) 0 0 76 [xr (some t), xi a, xi b, xi ((K1 a : Nat) + 1), xi ((K2 b : Nat) + 1), xi ((q + 1 : Nat) : Int), xu] [] σ := by
  intro d
  induction d with
  | zero =>
    intro q σ hd hq hA hT hc hr hk hs
    obtain ⟨hS, a1, a2, ns1, ns2, A1, A2⟩ := id hA
    have e : q = b := by omega
    subst e
    have na := ns1 a ha.1 ha.2
    refine b_Trm_weigh_76 ⟨by omega, by omega, fun _ => ?_, fun c => absurd (by omega) c⟩
    have := wg_out (Ω := Ω) ha hb pre (a - K1 a) (K1 a) σ (by omega) (Nat.le_refl _) hA ⟨fun p q h1 _ => hT p q h1, fun p' q' h1 h2 h3 h4 h5 h6 h7 => by omega⟩ ⟨fun p h1 h2 => ?_, fun y h1 h2 => ?_, fun p' q' h1 h2 h3 h4 h5 => ?_⟩ hk hs
    · exact this
    · rw [hc p h1 h2, FD_j0 (Nat.le_refl _)]
    · rw [hr y h1 h2, FD_i0 (Nat.le_refl _)]
    · have e : p' = K1 a := by omega
      rw [e, hr q' h3 h4, FD_i0 (Nat.le_refl _)]
  | succ d ih =>
    intro q σ hd hq hA hT hc hr hk hs
    obtain ⟨hS, a1, a2, ns1, ns2, A1, A2⟩ := id hA
    obtain ⟨g0, g1, f0, f1, f2, f3, f4, f5, f6, f7, f8, k1, k2, k3, k4, k5, k6, k7, k8, k9, z1, z2, z3, z4, z5, z6, z7, z8, z9, r1, r2⟩ := id hS
    have na := ns1 a ha.1 ha.2
    have ra := r2 (K1 a) (by omega)
    have e1 : ((K1 a : Int) + 1 - 1).toNat = K1 a := by omega
    have e2 : (((q + 1 : Nat) : Int) - 1).toNat = q := by omega
    have e3 : (((q + 1 : Nat) : Int)).toNat = q + 1 := by omega
    refine b_Trm_weigh_76 ?_
    rw [e1, e2, e3]
    refine ⟨by omega, by omega, fun c => absurd c (by omega), fun _ => ⟨g1, _, f5, k6, by omega, by omega, _, ra.1, ra.2.1, by omega, by omega, fun _ => ⟨_, ra.1, ra.2.1, by omega, by omega, ?_⟩⟩⟩
    rw [hr q hq (Nat.le_refl _)]
    refine ⟨by omega, ?_⟩
    have kk : Keep σ (vI σ (t + 29 + K1 a) (q + 1) (((q - K2 b : Nat) : Int) + 1)) (TW t) := Keep.vI (by omega)
    refine ih (q + 1) _ (by omega) (by omega) (hA.vI (by omega)) (fun p' q' h1 => ?_) (fun p h1 h2 => ?_) (fun y h1 h2 => ?_) (hk.trans kk) (hs.trans Shp.vI)
    · rw [aI_vI, if_neg (by omega)]; exact hT p' q' h1
    · rw [aI_vI, if_neg (by omega)]; exact hc p h1 h2
    · rw [aI_vI]
      by_cases e : y = q + 1
      · rw [if_pos ⟨rfl, e⟩]; omega
      · rw [if_neg (by omega)]; exact hr y h1 (by omega)
theorem wg_col {a b : Nat} (ha : 1 ≤ a ∧ a ≤ n1) (hb : 1 ≤ b ∧ b ≤ n2) (pre : ∀ p q, K1 a < p → p ≤ a → K2 b < q → q ≤ b → ¬ (K1 p = K1 a ∧ K2 q = K2 b) → aI σ0 (t + 6 + p) q = FD K1 K2 (cc l1 l2) (K1 p) p (K2 q) q) :
    ∀ (d p : Nat) (σ : Sto), p + d = a → K1 a ≤ p → TmA σ t n1 n2 K1 K2 l1 l2 → (∀ p q, p < 22 → aI σ (t + 6 + p) q = aI σ0 (t + 6 + p) q) → (∀ x, K1 a ≤ x → x ≤ p → aI σ (t + 29 + x) (K2 b) = ((x - K1 a : Nat) : Int)) → Keep σ0 σ (TW t) → Shp σ0 σ → Aw Ω M_Trm_weigh rm_Trm_weigh (QWg Ω σ0 t n1 n2 K1 K2 l1 l2 a b) 0 0 32 [xr (some t), xi a, xi b, xi ((K1 a : Nat) + 1), xi ((K2 b : Nat) + 1), xi ((p + 1 : Nat) : Int), xu] [] σ := by
  intro d
  induction d with
  | zero =>
    intro p σ hd hp hA hT hc hk hs
    obtain ⟨hS, a1, a2, ns1, ns2, A1, A2⟩ := id hA
    have e : p = a := by omega
    subst e
    have nb := ns2 b hb.1 hb.2
    refine b_Trm_weigh_32 ⟨by omega, by omega, fun _ => ?_, fun c => absurd (by omega) c⟩
    refine wg_row ha hb pre (b - K2 b) (K2 b) σ (by omega) (Nat.le_refl _) hA hT hc (fun y h1 h2 => ?_) hk hs
    have e : y = K2 b := by omega
    rw [e, hc _ (Nat.le_refl _) hp, Nat.sub_self, Nat.sub_self]
  | succ d ih =>
    intro p σ hd hp hA hT hc hk hs
    obtain ⟨hS, a1, a2, ns1, ns2, A1, A2⟩ := id hA
    obtain ⟨g0, g1, f0, f1, f2, f3, f4, f5, f6, f7, f8, k1, k2, k3, k4, k5, k6, k7, k8, k9, z1, z2, z3, z4, z5, z6, z7, z8, z9, r1, r2⟩ := id hS
    have nb := ns2 b hb.1 hb.2
    have rp := r2 p (by omega)
    have rp1 := r2 (p + 1) (by omega)
    have e1 : ((K2 b : Int) + 1 - 1).toNat = K2 b := by omega
    have e2 : (((p + 1 : Nat) : Int) - 1).toNat = p := by omega
    have e3 : (((p + 1 : Nat) : Int)).toNat = p + 1 := by omega
    refine b_Trm_weigh_32 ?_
    rw [e1, e2, e3]
    refine ⟨by omega, by omega, fun c => absurd c (by omega), fun _ => ⟨g1, _, f5, k6, by omega, by omega, by omega, by omega, _, rp.1, rp.2.1, by omega, by omega, fun _ => ⟨_, rp1.1, rp1.2.1, by omega, by omega, ?_⟩⟩⟩
    rw [hc p hp (Nat.le_refl _)]
    refine ⟨by omega, ?_⟩
    have kk : Keep σ (vI σ (t + 29 + (p + 1)) (K2 b) (((p - K1 a : Nat) : Int) + 1)) (TW t) := Keep.vI (by omega)
    refine ih (p + 1) _ (by omega) (by omega) (hA.vI (by omega)) (fun p' q' h1 => ?_) (fun x h1 h2 => ?_) (hk.trans kk) (hs.trans Shp.vI)
    · rw [aI_vI, if_neg (by omega)]; exact hT p' q' h1
    · rw [aI_vI]
      by_cases e : x = p + 1
      · rw [if_pos ⟨by omega, rfl⟩]; omega
      · rw [if_neg (by omega)]; exact hc x h1 (by omega)
theorem k_Trm_weigh {σ : Sto} {a b : Nat} (hA : TmA σ t n1 n2 K1 K2 l1 l2) (ha : 1 ≤ a ∧ a ≤ n1) (hb : 1 ≤ b ∧ b ≤ n2) (pre : ∀ p q, K1 a < p → p ≤ a → K2 b < q → q ≤ b → ¬ (K1 p = K1 a ∧ K2 q = K2 b) → aI σ (t + 6 + p) q = FD K1 K2 (cc l1 l2) (K1 p) p (K2 q) q) :
    MC Ω M_Trm_weigh rm_Trm_weigh (RV fun σ' => TmA σ' t n1 n2 K1 K2 l1 l2 ∧ TP σ σ' t K1 K2 l1 l2 a b (a + 1) 0 ∧ Keep σ σ' (TW t) ∧ Shp σ σ') XN σ [xr (some t), xi a, xi b] := by
  obtain ⟨hS, a1, a2, ns1, ns2, A1, A2⟩ := id hA
  obtain ⟨g0, g1, f0, f1, f2, f3, f4, f5, f6, f7, f8, k1, k2, k3, k4, k5, k6, k7, k8, k9, z1, z2, z3, z4, z5, z6, z7, z8, z9, r1, r2⟩ := id hS
  have na := ns1 a ha.1 ha.2
  have nb := ns2 b hb.1 hb.2
  have ra := r2 (K1 a) (by omega)
  have e1 : ((K1 a : Int) + 1 - 1).toNat = K1 a := by omega
  have e2 : ((K2 b : Int) + 1 - 1).toNat = K2 b := by omega
  refine e_Trm_weigh (b_Trm_weigh_0 ⟨g1, _, f2, k3, by omega, by omega, fun _ => ⟨_, f3, k4, by omega, by omega, fun _ => ?_⟩⟩)
  rw [show aI σ (t + 3) ((a : Int)).toNat = (K1 a : Nat) + 1 from (A1 a ha.1 ha.2).1, show aI σ (t + 4) ((b : Int)).toNat = (K2 b : Nat) + 1 from (A2 b hb.1 hb.2).1, e1, e2]
  refine ⟨_, f5, k6, by omega, by omega, _, ra.1, ra.2.1, by omega, by omega, ?_⟩
  have kk : Keep σ (vI σ (t + 29 + K1 a) (K2 b) 0) (TW t) := Keep.vI (by omega)
  refine wg_col ha hb pre (a - K1 a) (K1 a) _ (by omega) (Nat.le_refl _) (hA.vI (by omega)) (fun p' q' h1 => ?_) (fun x h1 h2 => ?_) kk Shp.vI
  · rw [aI_vI, if_neg (by omega)]
  · have e : x = K1 a := by omega
    rw [e, aI_vI, if_pos ⟨rfl, rfl⟩, Nat.sub_self]; rfl
/-- the pairs of key nodes ahead of i and j are done -/
def KD (σ : Sto) (t n1 n2 : Nat) (K1 K2 : Nat → Nat) (l1 l2 : Nat → Int64) (i j : Nat) : Prop := ∀ a b, 1 ≤ a → a ≤ n1 → 1 ≤ b → b ≤ n2 → Ky K1 n1 a → Ky K2 n2 b → (a < i ∨ a = i ∧ b < j) → ∀ p q, 1 ≤ p → p ≤ n1 → 1 ≤ q → q ≤ n2 → K1 p = K1 a → K2 q = K2 b → aI σ (t + 6 + p) q = FD K1 K2 (cc l1 l2) (K1 p) p (K2 q) q
theorem KD.pre {σ : Sto} {i j : Nat} (hn : n1 ≤ 21) (h : KD σ t n1 n2 K1 K2 l1 l2 i j) (ns1 : Ns K1 n1) (ns2 : Ns K2 n2) (hi : 1 ≤ i ∧ i ≤ n1) (hj : 1 ≤ j ∧ j ≤ n2) (ki : Ky K1 n1 i) (kj : Ky K2 n2 j) : ∀ p q, K1 i < p → p ≤ i → K2 j < q → q ≤ j → ¬ (K1 p = K1 i ∧ K2 q = K2 j) → aI σ (t + 6 + p) q = FD K1 K2 (cc l1 l2) (K1 p) p (K2 q) q := by
  intro p q h1 h2 h3 h4 h5
  obtain ⟨a, x1, x2, x3, x4⟩ := Ky_ex (K := K1) (n := n1) n1 p (by omega) (by omega)
  obtain ⟨b, y1, y2, y3, y4⟩ := Ky_ex (K := K2) (n := n2) n2 q (by omega) (by omega)
  have u1 := (ns1 i hi.1 hi.2).2 p h1 h2
  have u2 := (ns2 j hj.1 hj.2).2 q h3 h4
  have v1 : a ≤ i := by
    apply Classical.byContradiction
    intro hc
    have w1 := (ns1 a (by omega) x2).2 i (by rw [x3]; have := (ns1 p (by omega) (by omega)).1; omega) (by omega)
    exact ki a (by omega) x2 (by omega)
  have v2 : b ≤ j := by
    apply Classical.byContradiction
    intro hc
    have w1 := (ns2 b (by omega) y2).2 j (by rw [y3]; have := (ns2 q (by omega) (by omega)).1; omega) (by omega)
    exact kj b (by omega) y2 (by omega)
  refine h a b (by omega) x2 (by omega) y2 x4 y4 ?_ p q (by omega) (by omega) (by omega) (by omega) x3.symm y3.symm
  by_cases e : a = i
  · refine Or.inr ⟨e, ?_⟩
    by_cases e2 : b = j
    · rw [e] at x3; rw [e2] at y3
      exact absurd ⟨x3.symm, y3.symm⟩ h5
    · omega
  · omega
theorem KD.post {σ σ' : Sto} {i j : Nat} (h : KD σ t n1 n2 K1 K2 l1 l2 i j) (hn : n1 ≤ 21) (ns1 : Ns K1 n1) (ns2 : Ns K2 n2) (hi : 1 ≤ i ∧ i ≤ n1) (hj : 1 ≤ j ∧ j ≤ n2) (ki : Ky K1 n1 i) (kj : Ky K2 n2 j) (g : TP σ σ' t K1 K2 l1 l2 i j (i + 1) 0) : KD σ' t n1 n2 K1 K2 l1 l2 i (j + 1) := by
  intro a b h1 h2 h3 h4 ka kb hab p q p1 p2 q1 q2 e1 e2
  obtain ⟨T1, T2⟩ := g
  by_cases e : K1 p = K1 i ∧ K2 q = K2 j
  · have u1 : p ≤ i := by
      apply Classical.byContradiction
      intro hc
      exact ki p (by omega) p2 e.1
    have u2 : q ≤ j := by
      apply Classical.byContradiction
      intro hc
      exact kj q (by omega) q2 e.2
    have w1 := (ns1 p p1 p2).1
    have w2 := (ns2 q q1 q2).1
    rw [T2 p q (by omega) u1 (by omega) u2 e.1 e.2 (Or.inl (by omega)), e.1, e.2]
  · rw [T1 p q (by omega) e]
    refine h a b h1 h2 h3 h4 ka kb ?_ p q p1 p2 q1 q2 e1 e2
    rcases hab with hab | hab
    · exact Or.inl hab
    · by_cases e3 : b = j
      · rw [hab.1] at e1; rw [e3] at e2
        exact absurd ⟨e1, e2⟩ e
      · exact Or.inr ⟨hab.1, by omega⟩
theorem KD.row {σ : Sto} {i : Nat} (h : KD σ t n1 n2 K1 K2 l1 l2 i (n2 + 1)) : KD σ t n1 n2 K1 K2 l1 l2 (i + 1) 1 := by
  intro a b h1 h2 h3 h4 ka kb hab
  refine h a b h1 h2 h3 h4 ka kb ?_
  rcases hab with hab | hab
  · by_cases e : a = i
    · exact Or.inr ⟨e, by omega⟩
    · exact Or.inl (by omega)
  · omega
end TMW
