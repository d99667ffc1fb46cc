/-! BY HAND: the common signs of two lines, in the class -/
theorem lc_le (s t : List Int) : lc s t ≤ s.length := by
  obtain ⟨u, h1, h2, h3⟩ := lc_ex _ s t (Nat.le_refl _)
  rw [← h3]; exact h1.length_le
def sgL (x : Int64) (n : Nat) : List Int := (List.range n).map (fun i => sg x (i : Nat))
theorem sgL_succ (x : Int64) (n : Nat) : sgL x (n + 1) = sgL x n ++ [sg x n] := by
  unfold sgL
  rw [List.range_succ, List.map_append]
  rfl
def lcP (x y : Int64) (i j : Nat) : Nat := lc (sgL x i) (sgL y j)
theorem lcP_le (x y : Int64) (i j : Nat) : lcP x y i j ≤ i := by
  have := lc_le (sgL x i) (sgL y j)
  unfold lcP
  unfold sgL at this ⊢
  rw [List.length_map, List.length_range] at this
  exact this
theorem lcP_zero (x y : Int64) (i : Nat) : lcP x y i 0 = 0 := lc_nil' _
theorem lcP_zero' (x y : Int64) (j : Nat) : lcP x y 0 j = 0 := lc_nil _
theorem lcP_succ (x y : Int64) (i j : Nat) : lcP x y (i + 1) (j + 1) = if sg x i = sg y j then lcP x y i j + 1 else max (lcP x y i (j + 1)) (lcP x y (i + 1) j) := by
  unfold lcP
  rw [sgL_succ, sgL_succ]
  exact lc_snoc _ _ _ _
def cmN (x y : Int64) : Nat := lcP x y (lenL x) (lenL y)
section COM
variable {Ω : Om} {σ0 : Sto} {x y : Int64} {q : Nat}
abbrev QCom (Ω : Om) (σ0 : Sto) (x y : Int64) : QF := MF Ω rm_Lbk_commonSigns (RI fun r σ' => Keep σ0 σ' No ∧ r = cmN x y) XN
def JC (σ0 : Sto) (x y : Int64) (q i j : Nat) (σ : Sto) : Prop := sK σ q = 50 ∧ sZ σ q = 9 ∧ Keep σ0 σ No ∧ ∀ p : Nat, p ≤ lenL y → aI σ q p = if p < j then lcP x y (i + 1) p else lcP x y i p
theorem com_in (hq : sN σ0 ≤ q) {i : Nat} (hi : i < lenL x) (out : ∀ σ, JC σ0 x y q i (lenL y + 1) σ → Aw Ω M_Lbk_commonSigns rm_Lbk_commonSigns (QCom Ω σ0 x y) 1 9 21 [xl x, xu, xl y, xu, xi (lenL x), xi (lenL y), xr (some q), xi ((i : Int) + 1), xu, xu, xu, xu] [] σ) :
    ∀ (d j : Nat) (σ : Sto), j + d = lenL y → JC σ0 x y q i (j + 1) σ → Aw Ω M_Lbk_commonSigns rm_Lbk_commonSigns (QCom Ω σ0 x y) 1 9 34 [xl x, xu, xl y, xu, xi (lenL x), xi (lenL y), xr (some q), xi i, xi (lcP x y i j), xi ((j : Int) + 1), xu, xu] [] σ := by
  intro d
  have hx := lenL_le x
  have hy := lenL_le y
  induction d with
  | zero =>
    intro j σ hd hJ
    have e : j = lenL y := by omega
    subst e
    refine b_Lbk_commonSigns_34 ⟨by omega, by omega, fun c => out σ hJ, fun c => absurd c (by omega)⟩
  | succ d ih =>
    intro j σ hd hJ
    obtain ⟨h1, h2, h3, h4⟩ := id hJ
    refine b_Lbk_commonSigns_34 ⟨by omega, by omega, fun c => absurd c (by omega), fun c => ⟨h1, by omega, by omega, fun q1 => ?_⟩⟩
    have ej : ((j : Int) + 1).toNat = j + 1 := by omega
    have e1 := h4 (j + 1) (by omega)
    rw [if_neg (Nat.lt_irrefl _)] at e1
    rw [ej, e1]
    refine c_Lbk_commonSigns_51 (k_Lbk_signAt) (by decide) (by decide) (by first | decide | omega) (by first | decide | omega) (Nat.le_of_ble_eq_true rfl) (fun z σ1 hq => ?_) (fun _ _ hx => hx.elim)
    obtain ⟨rfl, rfl⟩ := hq
    refine b_Lbk_commonSigns_54 ?_
    refine c_Lbk_commonSigns_59 (k_Lbk_signAt) (by decide) (by decide) (by first | decide | omega) (by first | decide | omega) (Nat.le_of_ble_eq_true rfl) (fun z σ2 hq => ?_) (fun _ _ hx => hx.elim)
    obtain ⟨rfl, rfl⟩ := hq
    have em : (j : Int) + 1 - 1 = j := by omega
    have r1 := sg_r x i
    have r2 := sg_r y j
    have l1 := lcP_le x y i j
    have l2 := lcP_le x y i (j + 1)
    have l3 := lcP_le x y (i + 1) j
    have e2 := h4 j (by omega)
    rw [if_pos (Nat.lt_succ_self j)] at e2
    have step : ∀ v : Int, v = lcP x y (i + 1) (j + 1) → Aw Ω M_Lbk_commonSigns rm_Lbk_commonSigns (QCom Ω σ0 x y) 1 9 34 [xl x, xu, xl y, xu, xi (lenL x), xi (lenL y), xr (some q), xi i, xi (lcP x y i (j + 1)), xi ((j : Int) + 1 + 1), xu, xu] [] (vI σ2 q (j + 1) v) := by
      intro v hv
      have kk : Keep σ2 (vI σ2 q (j + 1) v) (At1 q) := Keep.vI rfl
      have := ih (j + 1) (vI σ2 q (j + 1) v) (by omega) ⟨h1, h2, h3.tr kk (fun b h1 h2 => by omega), fun p hp => ?_⟩
      · exact this
      · simp only [aI_vI, true_and]
        by_cases e : p = j + 1
        · subst e
          rw [if_pos rfl, if_pos (Nat.lt_succ_self _), hv]
        · rw [if_neg e, h4 p hp]
          by_cases c : p < j + 1
          · rw [if_pos c, if_pos (by omega)]
          · rw [if_neg c, if_neg (by omega)]
    rw [em]
    refine b_Lbk_commonSigns_62 ⟨by omega, by omega, fun c => ?_, fun c => ?_⟩
    · rw [em, show ((j : Int)).toNat = j from rfl, e2, ej]
      refine ⟨h1, by omega, by omega, fun _ => ⟨by omega, by omega, by decide, Nat.le_of_ble_eq_true rfl, by decide, by decide, by omega, by omega, ?_, ?_⟩⟩
      · unfold maxI; split <;> omega
      · refine step _ ?_
        rw [lcP_succ, if_neg c]
        unfold maxI; split <;> omega
    · rw [ej]
      refine ⟨h1, by omega, by omega, by omega, ?_⟩
      refine step _ ?_
      rw [lcP_succ, if_pos c]; rfl
theorem com_out (hq : sN σ0 ≤ q) : ∀ (d i : Nat) (σ : Sto), i + d = lenL x → JC σ0 x y q i 0 σ → Aw Ω M_Lbk_commonSigns rm_Lbk_commonSigns (QCom Ω σ0 x y) 1 9 21 [xl x, xu, xl y, xu, xi (lenL x), xi (lenL y), xr (some q), xi i, xu, xu, xu, xu] [] σ := by
  intro d
  have hx := lenL_le x
  have hy := lenL_le y
  induction d with
  | zero =>
    intro i σ hd hJ
    obtain ⟨h1, h2, h3, h4⟩ := id hJ
    have e : i = lenL x := by omega
    subst e
    refine b_Lbk_commonSigns_21 ⟨by omega, by omega, fun c => ⟨h1, by omega, by omega, fun _ => ?_⟩, fun c => absurd (Int.le_refl _) c⟩
    refine r_Lbk_commonSigns_122 ⟨_, rfl, h3, ?_⟩ (by decide) (by decide)
    exact h4 (lenL y) (Nat.le_refl _)
  | succ d ih =>
    intro i σ hd hJ
    obtain ⟨h1, h2, h3, h4⟩ := id hJ
    refine b_Lbk_commonSigns_21 ⟨by omega, by omega, fun c => absurd c (by omega), fun c => ?_⟩
    have := com_in (Ω := Ω) hq (i := i) (by omega) (fun σ' hJ' => ih (i + 1) σ' (by omega) ?_) (lenL y) 0 σ (by omega) ⟨h1, h2, h3, fun p hp => ?_⟩
    · rw [lcP_zero] at this
      exact this
    · obtain ⟨g1, g2, g3, g4⟩ := hJ'
      refine ⟨g1, g2, g3, fun p hp => ?_⟩
      rw [g4 p hp, if_pos (by omega), if_neg (Nat.not_lt_zero _)]
    · rw [h4 p hp, if_neg (Nat.not_lt_zero _)]
      by_cases e : p = 0
      · subst e; rw [lcP_zero, lcP_zero]; split <;> rfl
      · rw [if_neg (by omega)]
theorem k_Lbk_commonSigns : MC Ω M_Lbk_commonSigns rm_Lbk_commonSigns (RI fun r σ' => Keep σ0 σ' No ∧ r = cmN x y) XN σ0 [xl x, xl y] := by
  refine e_Lbk_commonSigns (b_Lbk_commonSigns_0 ?_)
  refine c_Lbk_commonSigns_1 (k_Lbk_lengthOf) (by decide) (by decide) (by first | decide | omega) (by first | decide | omega) (Nat.le_of_ble_eq_true rfl) (fun z σ1 hq => ?_) (fun _ _ hx => hx.elim)
  obtain ⟨rfl, rfl⟩ := hq
  refine b_Lbk_commonSigns_4 ?_
  refine c_Lbk_commonSigns_7 (k_Lbk_lengthOf) (by decide) (by decide) (by first | decide | omega) (by first | decide | omega) (Nat.le_of_ble_eq_true rfl) (fun z σ2 hq => ?_) (fun _ _ hx => hx.elim)
  obtain ⟨rfl, rfl⟩ := hq
  refine b_Lbk_commonSigns_10 ⟨by decide, by decide, fun σ3 e3 => ?_⟩
  have hk : Keep σ2 σ3 No := by rw [e3]; exact Keep.nO
  refine com_out (Nat.le_refl _) (lenL x) 0 σ3 (by omega) ⟨?_, ?_, hk, fun p hp => ?_⟩
  · rw [e3, sK_nO, if_pos rfl]
  · rw [e3, sZ_nO, if_pos rfl]
  · rw [e3, aI_nO, if_pos rfl, if_neg (Nat.not_lt_zero _), lcP_zero']; rfl
end COM
