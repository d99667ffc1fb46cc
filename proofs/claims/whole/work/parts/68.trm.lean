/-! BY HAND: TreeMeter, the cost of two texts -/
def trK (o : List (Int64 × Nat)) (i : Nat) : Nat := (o.getD (i - 1) (0, 0)).2 - 1
def trL (o : List (Int64 × Nat)) (i : Nat) : Int64 := (o.getD (i - 1) (0, 0)).1
theorem snoc_get {α : Type} {o : List α} {z y : α} {p : Nat} (h : (o ++ [z])[p]? = some y) : (p < o.length ∧ o[p]? = some y) ∨ (p = o.length ∧ y = z) := by
  rw [List.getElem?_append] at h
  split at h
  · rename_i hp
    exact Or.inl ⟨hp, h⟩
  · rename_i hp
    have hp2 := (List.getElem?_eq_some_iff.mp h).1
    simp only [List.length_cons, List.length_nil] at hp2
    have e : p = o.length := by omega
    subst e
    rw [Nat.sub_self] at h
    have : z = y := by simpa using h
    exact Or.inr ⟨rfl, this.symm⟩
def I1 (o : List (Int64 × Nat)) : Prop := ∀ p x, o[p]? = some x → 1 ≤ x.2 ∧ x.2 ≤ p + 1 ∧ ∀ p' y, o[p']? = some y → x.2 ≤ p' + 1 → p' ≤ p → x.2 ≤ y.2
def I2 (s : List (Int × Int64 × Nat)) (o : List (Int64 × Nat)) : Prop := ∀ x ∈ s, 1 ≤ x.2.2 ∧ x.2.2 ≤ o.length + 1 ∧ ∀ p' y, o[p']? = some y → x.2.2 ≤ p' + 1 → x.2.2 ≤ y.2
def I3 (s : List (Int × Int64 × Nat)) : Prop := s.Pairwise (fun x y => y.2.2 ≤ x.2.2)
theorem clT_inv (d : Int) : ∀ (s : List (Int × Int64 × Nat)) (o : List (Int64 × Nat)), I1 o → I2 s o → I3 s → I1 (clT d s o).2 ∧ I2 (clT d s o).1 (clT d s o).2 ∧ I3 (clT d s o).1 := by
  intro s
  induction s with
  | nil => intro o h1 h2 h3; exact ⟨h1, h2, h3⟩
  | cons x s ih =>
    intro o h1 h2 h3
    rw [clT]
    split
    · have hx := h2 x (List.mem_cons_self ..)
      have h3' := List.pairwise_cons.mp h3
      refine ih _ (fun p z hz => ?_) (fun y hy => ?_) h3'.2
      · rcases snoc_get hz with ⟨hp, hz⟩ | ⟨hp, hz⟩
        · refine ⟨(h1 p z hz).1, (h1 p z hz).2.1, fun p' y hy h4 h5 => ?_⟩
          rcases snoc_get hy with ⟨hp', hy⟩ | ⟨hp', hy⟩
          · exact (h1 p z hz).2.2 p' y hy h4 h5
          · omega
        · subst hz
          refine ⟨hx.1, by rw [hp]; exact hx.2.1, fun p' y hy h4 h5 => ?_⟩
          rcases snoc_get hy with ⟨hp', hy⟩ | ⟨hp', hy⟩
          · exact hx.2.2 p' y hy h4
          · rw [hy]; exact Nat.le_refl _
      · have hy2 := h2 y (List.mem_cons_of_mem _ hy)
        refine ⟨hy2.1, by rw [List.length_append]; omega, fun p' z hz h4 => ?_⟩
        rcases snoc_get hz with ⟨hp', hz⟩ | ⟨hp', hz⟩
        · exact hy2.2.2 p' z hz h4
        · rw [hz]; exact h3'.1 y hy
    · exact ⟨h1, h2, h3⟩
theorem grT_inv : ∀ (ls : List Int64) (s : List (Int × Int64 × Nat)) (o : List (Int64 × Nat)), I1 o → I2 s o → I3 s → I1 (grT ls s o) := by
  intro ls
  induction ls with
  | nil => intro s o h1 h2 h3; exact (clT_inv _ s o h1 h2 h3).1
  | cons l ls ih =>
    intro s o h1 h2 h3
    obtain ⟨g1, g2, g3⟩ := clT_inv (dpL l : Nat) s o h1 h2 h3
    rw [grT]
    refine ih _ _ g1 (fun y hy => ?_) (List.pairwise_cons.mpr ⟨fun y hy => (g2 y hy).2.1, g3⟩)
    cases hy with
    | head => exact ⟨Nat.le_add_left _ _, Nat.le_refl _, fun p' z hz h4 => absurd (show _ + 1 ≤ p' + 1 from h4) (by have := (List.getElem?_eq_some_iff.mp hz).1; omega)⟩
    | tail _ hy => exact g2 y hy
theorem trT_inv (ls : List Int64) : I1 (trT ls) := by
  refine grT_inv ls _ _ (fun p x hx => by simp at hx) (fun y hy => ?_) (List.pairwise_singleton _ _)
  cases hy with
  | head => exact ⟨Nat.le_refl _, Nat.le_refl _, fun p' z hz _ => by simp at hz⟩
  | tail _ hy => cases hy
theorem I1.at {o : List (Int64 × Nat)} (h : I1 o) {i : Nat} (h1 : 1 ≤ i) (h2 : i ≤ o.length) : ∃ x, o[i - 1]? = some x ∧ trK o i + 1 = x.2 ∧ trL o i = x.1 := by
  have e := List.getElem?_eq_getElem (l := o) (i := i - 1) (by omega)
  refine ⟨o[i - 1], e, ?_, ?_⟩
  · have := (h (i - 1) _ e).1
    unfold trK
    rw [List.getD_eq_getElem?_getD, e, Option.getD_some]; omega
  · unfold trL
    rw [List.getD_eq_getElem?_getD, e, Option.getD_some]
theorem I1.ns {o : List (Int64 × Nat)} (h : I1 o) : Ns (trK o) o.length := by
  intro i h1 h2
  obtain ⟨x, e1, e2, e3⟩ := h.at h1 h2
  obtain ⟨g1, g2, g3⟩ := h _ _ e1
  refine ⟨by omega, fun k k1 k2 => ?_⟩
  obtain ⟨y, f1, f2, f3⟩ := h.at (i := k) (by omega) (by omega)
  have := g3 (k - 1) y f1 (by omega) (by omega)
  omega
def tcN (x y : List Int64) : Nat := FD (trK (trT x)) (trK (trT y)) (cc (trL (trT x)) (trL (trT y))) (trK (trT x) (x.length + 1)) (x.length + 1) (trK (trT y) (y.length + 1)) (y.length + 1)
section TMK
variable {Ω : Om} {σ0 : Sto} {t n1 n2 : Nat} {K1 K2 : Nat → Nat} {l1 l2 : Nat → Int64}
abbrev QCo (Ω : Om) (σ0 : Sto) (t : Nat) (v : Int) : QF := MF Ω rm_Trm_costOf (RI fun r σ' => TmS σ' t ∧ Keep σ0 σ' (In t (t + 54)) ∧ r = v) XN
theorem co_in {u w : Nat} {v : Int} {i : Nat} (hi : 1 ≤ i ∧ i ≤ n1) (out : ∀ σ, TmA σ t n1 n2 K1 K2 l1 l2 → KD σ t n1 n2 K1 K2 l1 l2 (i + 1) 1 → Keep σ0 σ (In t (t + 54)) → Aw Ω M_Trm_costOf rm_Trm_costOf (QCo Ω σ0 t v) 0 0 32 [xr (some t), xr (some u), xr (some w), xi n1, xi n2, xi ((i : Int) + 1), xu] [] σ) : ∀ (d j : Nat) (σ : Sto), j + d = n2 + 1 → 1 ≤ j → TmA σ t n1 n2 K1 K2 l1 l2 → KD σ t n1 n2 K1 K2 l1 l2 i j → Keep σ0 σ (In t (t + 54)) → Aw Ω M_Trm_costOf rm_Trm_costOf (QCo Ω σ0 t v) 0 0 41 [xr (some t), xr (some u), xr (some w), xi n1, xi n2, xi i, xi j] [] σ := by
  intro d
  induction d with
  | zero =>
    intro j σ hd hj hA hK hk
    obtain ⟨hS, a1, a2, ns1, ns2, A1, A2⟩ := id hA
    have e : j = n2 + 1 := by omega
    subst e
    exact b_Trm_costOf_41 ⟨by omega, by omega, fun _ => out σ hA hK.row hk, fun c => absurd (by omega) c⟩
  | succ d ih =>
    intro j σ hd hj hA hK hk
    obtain ⟨hS, a1, a2, ns1, ns2, A1, A2⟩ := id hA
    obtain ⟨g0, g1, f0, f1, f2, f3, f4, f5, f6, f7, f8, k1, k2, k3, k4, k5, k6, k7, k8, k9, z1, z2, z3, z4, z5, z6, z7, z8, z9, r1, r2⟩ := id hS
    have skip : ∀ σ', σ' = σ → ¬ (Ky K1 n1 i ∧ Ky K2 n2 j) → Aw Ω M_Trm_costOf rm_Trm_costOf (QCo Ω σ0 t v) 0 0 41 [xr (some t), xr (some u), xr (some w), xi n1, xi n2, xi i, xi ((j : Int) + 1)] [] σ' := by
      intro σ' e hn
      rw [e]
      refine ih (j + 1) σ (by omega) (by omega) hA (fun a b h1 h2 h3 h4 ka kb hab => hK a b h1 h2 h3 h4 ka kb ?_) hk
      rcases hab with hab | hab
      · exact Or.inl hab
      · by_cases e : b = j
        · exact absurd ⟨hab.1 ▸ ka, e ▸ kb⟩ hn
        · exact Or.inr ⟨hab.1, by omega⟩
    refine b_Trm_costOf_41 ⟨by omega, by omega, fun c => absurd c (by omega), fun _ => ⟨g1, _, f2, ?_⟩⟩
    refine c_Trm_costOf_55 (k_Trm_isLastOf k3 z3 a1 hi (fun p h1 h2 => (A1 p h1 h2).1)) (by decide) (by decide) (by first | decide | omega) (by first | decide | omega) (Nat.le_of_ble_eq_true rfl) (fun z σ1 hq => ?_) (fun _ _ hx => hx.elim)
    obtain ⟨e1, hz⟩ := hq
    rw [e1]
    rcases hz with ⟨rfl, ki⟩ | ⟨rfl, ki⟩
    · refine b_Trm_costOf_58 ⟨by decide, fun c => absurd c (by decide), fun _ => ⟨g1, _, f3, ?_⟩⟩
      refine c_Trm_costOf_69 (k_Trm_isLastOf k4 z4 a2 (show 1 ≤ j ∧ j ≤ n2 by omega) (fun p h1 h2 => (A2 p h1 h2).1)) (by decide) (by decide) (by first | decide | omega) (by first | decide | omega) (Nat.le_of_ble_eq_true rfl) (fun z2 σ2 hq => ?_) (fun _ _ hx => hx.elim)
      obtain ⟨e2, hz2⟩ := hq
      rw [e2]
      rcases hz2 with ⟨rfl, kj⟩ | ⟨rfl, kj⟩
      · refine b_Trm_costOf_72 ⟨by decide, fun c => absurd c (by decide), fun _ => ?_⟩
        have hj2 : 1 ≤ j ∧ j ≤ n2 := by omega
        refine c_Trm_costOf_80 (k_Trm_weigh hA hi hj2 (hK.pre a1 ns1 ns2 hi hj2 ki kj)) g1 (by decide) (by decide) (by first | decide | omega) (by first | decide | omega) (Nat.le_of_ble_eq_true rfl) (fun σ3 hq => ?_) (fun _ _ hx => hx.elim)
        obtain ⟨hA3, hT3, hk3, hs3⟩ := hq
        refine b_Trm_costOf_83 ?_
        exact ih (j + 1) σ3 (by omega) (by omega) hA3 (hK.post a1 ns1 ns2 hi hj2 ki kj hT3) (hk.trans (hk3.mono (fun b _ h => by omega)))
      · exact b_Trm_costOf_72 ⟨by decide, fun _ => skip σ rfl (fun z => kj z.2), fun c => absurd rfl c⟩
    · exact b_Trm_costOf_58 ⟨by decide, fun _ => skip σ rfl (fun z => ki z.1), fun c => absurd rfl c⟩
theorem co_out {u w : Nat} (h1 : 1 ≤ n1) (h2 : 1 ≤ n2) : ∀ (d i : Nat) (σ : Sto), i + d = n1 + 1 → 1 ≤ i → TmA σ t n1 n2 K1 K2 l1 l2 → KD σ t n1 n2 K1 K2 l1 l2 i 1 → Keep σ0 σ (In t (t + 54)) → Aw Ω M_Trm_costOf rm_Trm_costOf (QCo Ω σ0 t (FD K1 K2 (cc l1 l2) (K1 n1) n1 (K2 n2) n2 : Nat)) 0 0 32 [xr (some t), xr (some u), xr (some w), xi n1, xi n2, xi i, xu] [] σ := by
  intro d
  induction d with
  | zero =>
    intro i σ hd hi hA hK hk
    obtain ⟨hS, a1, a2, ns1, ns2, A1, A2⟩ := id hA
    obtain ⟨g0, g1, f0, f1, f2, f3, f4, f5, f6, f7, f8, k1, k2, k3, k4, k5, k6, k7, k8, k9, z1, z2, z3, z4, z5, z6, z7, z8, z9, r1, r2⟩ := id hS
    have e : i = n1 + 1 := by omega
    subst e
    have rr := r1 n1 (by omega)
    refine b_Trm_costOf_32 ⟨by omega, by omega, fun _ => ⟨g1, _, f4, k5, by omega, by omega, _, rr.1, rr.2.1, by omega, by omega, fun _ => ?_⟩, fun c => absurd (by omega) c⟩
    refine r_Trm_costOf_104 ⟨_, rfl, hS, hk, ?_⟩ (by decide) (by decide)
    exact hK n1 n2 h1 (Nat.le_refl _) h2 (Nat.le_refl _) (fun k h1 h2 => by omega) (fun k h1 h2 => by omega) (Or.inl (by omega)) n1 n2 h1 (Nat.le_refl _) h2 (Nat.le_refl _) rfl rfl
  | succ d ih =>
    intro i σ hd hi hA hK hk
    obtain ⟨hS, a1, a2, ns1, ns2, A1, A2⟩ := id hA
    refine b_Trm_costOf_32 ⟨by omega, by omega, fun c => absurd c (by omega), fun _ => ?_⟩
    exact co_in ⟨hi, by omega⟩ (fun σ' g1 g2 g3 => ih (i + 1) σ' (by omega) (by omega) g1 g2 g3) n2 1 σ (by omega) (Nat.le_refl _) hA hK hk
theorem k_Trm_costOf {σ : Sto} {u w : Nat} {T U : List (Int64 × Int)} (hS : TmS σ t) (hT : Tx σ u T) (hU : Tx σ w U) (lT : T.length ≤ 20) (lU : U.length ≤ 20) (du : u + 2 < t ∨ t + 53 < u) (dw : w + 2 < t ∨ t + 53 < w) : MC Ω M_Trm_costOf rm_Trm_costOf (RI fun r σ' => TmS σ' t ∧ Keep σ σ' (In t (t + 54)) ∧ r = (tcN (T.map (·.1)) (U.map (·.1)) : Nat)) XN σ [xr (some t), xr (some u), xr (some w)] := by
  obtain ⟨g0, g1, f0, f1, f2, f3, f4, f5, f6, f7, f8, k1, k2, k3, k4, k5, k6, k7, k8, k9, z1, z2, z3, z4, z5, z6, z7, z8, z9, r1, r2⟩ := id hS
  refine e_Trm_costOf (b_Trm_costOf_0 ⟨g1, _, f0, _, f2, ?_⟩)
  refine c_Trm_costOf_10 (k_Trm_grow (nl := t + 1) (nf := t + 3) hS hT lT k1 z1 k3 z3 (by omega) (by omega) du) g1 (by decide) (by decide) (by first | decide | omega) (by first | decide | omega) (Nat.le_of_ble_eq_true rfl) (fun z σ1 hq => ?_) (fun _ _ hx => hx.elim)
  obtain ⟨h1, hk1, hs1, rfl⟩ := hq
  have hS1 := h1.1
  obtain ⟨i0, i1, j0, j1, j2, j3, j4, j5, j6, j7, j8, l1, l2, l3, l4, l5, l6, l7, l8, l9, y1, y2, y3, y4, y5, y6, y7, y8, y9, s1, s2⟩ := id hS1
  refine b_Trm_costOf_13 ⟨i1, _, j1, _, j3, ?_⟩
  have hU1 : Tx σ1 w U := hU.keep hk1 (fun b h1 h2 h3 => by omega)
  refine c_Trm_costOf_24 (k_Trm_grow (nl := t + 2) (nf := t + 4) hS1 hU1 lU l2 y2 l4 y4 (by omega) (by omega) dw) i1 (by decide) (by decide) (by first | decide | omega) (by first | decide | omega) (Nat.le_of_ble_eq_true rfl) (fun z2 σ2 hq => ?_) (fun _ _ hx => hx.elim)
  obtain ⟨h2, hk2, hs2, rfl⟩ := hq
  refine b_Trm_costOf_27 ?_
  have hS2 := h2.1
  have lo1 := trT_len (T.map (·.1))
  have lo2 := trT_len (U.map (·.1))
  rw [List.length_map] at lo1 lo2
  have i1' := trT_inv (T.map (·.1))
  have i2' := trT_inv (U.map (·.1))
  have q1 := hk2.2 (t + 1) (by omega) (by omega)
  have q3 := hk2.2 (t + 3) (by omega) (by omega)
  have ns1 := i1'.ns
  have ns2 := i2'.ns
  rw [lo1] at ns1
  rw [lo2] at ns2
  have hA : TmA σ2 t (T.length + 1) (U.length + 1) (trK (trT (T.map (·.1)))) (trK (trT (U.map (·.1)))) (trL (trT (T.map (·.1)))) (trL (trT (U.map (·.1)))) := by
    refine ⟨hS2, by omega, by omega, ns1, ns2, fun i a b => ?_, fun j a b => ?_⟩
    · obtain ⟨x, x1, x2, x3⟩ := i1'.at a (by omega)
      have := h1.2.2.2.2.2.2.2.2 _ _ x1
      have e : i - 1 + 1 = i := by omega
      rw [e] at this
      rw [q3.2.2.2.2.2.1, q1.2.2.2.2.2.2.1, this.1, this.2, x3, ← x2]
      exact ⟨by omega, rfl⟩
    · obtain ⟨x, x1, x2, x3⟩ := i2'.at a (by omega)
      have := h2.2.2.2.2.2.2.2.2 _ _ x1
      have e : j - 1 + 1 = j := by omega
      rw [e] at this
      rw [this.1, this.2, x3, ← x2]
      exact ⟨by omega, rfl⟩
  have := co_out (Ω := Ω) (σ0 := σ) (u := u) (w := w) (by omega) (by omega) (T.length + 1) 1 σ2 (by omega) (Nat.le_refl _) hA (fun a b h1 h2 h3 h4 ka kb hab => by omega) ((hk1.mono (fun b _ h => by omega)).trans (hk2.mono (fun b _ h => by omega)))
  unfold tcN
  rw [List.length_map, List.length_map]
  exact this
end TMK
