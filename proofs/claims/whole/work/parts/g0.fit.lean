/-! BY HAND: laying a patch, by the reference: where a hunk fits -/
/-- the row of work -/
def WkS (T : List (Int64 × Int)) (μ : Mu) : Prop := mI μ 53 = T.length ∧ T.length ≤ 60 ∧ ∀ (i : Nat) y, T[i]? = some y → mA μ 37 i = y.2 ∧ (0 ≤ y.2 ∧ y.2 < 16384 ∧ mG μ 1 y.2.toNat = y.1)
theorem WkS.at {T : List (Int64 × Int)} {μ : Mu} (h : WkS T μ) {i : Int} (h0 : 0 ≤ i) (h1 : i < T.length) : ∃ n : Int, mA μ 37 i.toNat = n ∧ 0 ≤ n ∧ n < 16384 ∧ mG μ 1 n.toNat = lnA T i := by
  obtain ⟨y, hy⟩ : ∃ y, T[i.toNat]? = some y := ⟨_, List.getElem?_eq_getElem (by omega)⟩
  obtain ⟨a, b, c, d⟩ := h.2.2 _ y hy
  exact ⟨y.2, a, b, c, by rw [d, lnA_some h0 hy]⟩
/-- a hunk fits, as the reference tries it -/
def fitR (T : List (Int64 × Int)) (H : Hun) (x fl : Int) (fz : Nat) : Prop := (fl ≤ x - ((hnA H).length - fz : Nat) ∧ x + (hnG H).length + ((hnB H).length - fz : Nat) ≤ T.length) ∧ (∀ j : Nat, j < (hnA H).length - fz → lnA T (x - ((hnA H).length - fz : Nat) + j) = gx (hnA H) ((hnA H).length - ((hnA H).length - fz) + j)) ∧ (∀ j : Nat, j < (hnG H).length → lnA T (x + j) = gx (hnG H) j) ∧ ∀ j : Nat, j < (hnB H).length - fz → lnA T (x + (hnG H).length + j) = gx (hnB H) j
theorem fit_iff {T : List (Int64 × Int)} {H : Hun} {x fl : Int} {fz : Nat} (hfl : 0 ≤ fl) : fitP T H x fl fz ↔ fitR T H x fl fz := by
  have ma : minI fz (hnA H).length = (((hnA H).length - ((hnA H).length - fz) : Nat) : Int) := by unfold minI; split <;> omega
  have mb : minI fz (hnB H).length = (((hnB H).length - ((hnB H).length - fz) : Nat) : Int) := by unfold minI; split <;> omega
  unfold fitP fitR standsP
  rw [ma, mb]
  constructor
  · rintro ⟨h1, ⟨a1, a2, a3, a4, a5⟩, ⟨b1, b2, b3, b4, b5⟩, ⟨c1, c2, c3, c4, c5⟩⟩
    refine ⟨⟨by omega, by omega⟩, fun j hj => ?_, fun j hj => ?_, fun j hj => ?_⟩
    · have := a5 ((hnA H).length - ((hnA H).length - fz) + j) (by omega) (by omega)
      rw [← this]; congr 1; omega
    · have := b5 j (by omega) (by omega)
      rw [← this]; congr 1; omega
    · have := c5 j (by omega) (by omega)
      rw [← this]; congr 1; omega
  · rintro ⟨⟨h1, h2⟩, h3, h4, h5⟩
    refine ⟨by omega, ⟨by omega, by omega, by omega, by omega, fun j j1 j2 => ?_⟩, ⟨by omega, by omega, by omega, by omega, fun j j1 j2 => ?_⟩, ⟨by omega, by omega, by omega, by omega, fun j j1 j2 => ?_⟩⟩
    · have := h3 (j - ((hnA H).length - ((hnA H).length - fz))) (by omega)
      rw [show (hnA H).length - ((hnA H).length - fz) + (j - ((hnA H).length - ((hnA H).length - fz))) = j by omega] at this
      rw [← this]; congr 1; omega
    · have := h4 j (by omega)
      rw [← this]; congr 1; omega
    · have := h5 j (by omega)
      rw [← this]; congr 1; omega
section FIT
variable {Ω : Om} {m : Nat} {μ : Mu} {T : List (Int64 × Int)} {H : Hun} {x fl : Int} {fz q : Nat}
theorem fits_loop3 {σ0 : Sto} (hW : WkS T μ) (hK : HkM μ q H) (hB : HnB H) (hq : q < 210) (hx : -1000 ≤ x ∧ x ≤ 1000) : ∀ (d k : Nat) (v8 : Int), k + d = (hnB H).length - fz → Bz v8 ((fl ≤ x - ((hnA H).length - fz : Nat) ∧ x + (hnG H).length + ((hnB H).length - fz : Nat) ≤ T.length) ∧ 0 ≤ x ∧ (∀ j : Nat, j < (hnA H).length - fz → lnA T (x - ((hnA H).length - fz : Nat) + j) = gx (hnA H) ((hnA H).length - ((hnA H).length - fz) + j)) ∧ (∀ j : Nat, j < (hnG H).length → lnA T (x + j) = gx (hnG H) j) ∧ ∀ j : Nat, j < k → lnA T (x + (hnG H).length + j) = gx (hnB H) j) →
    Mw Ω σ0 m M_Mdl_fits rm_Mdl_fits (MQi Ω σ0 m rm_Mdl_fits (fun y μ' => Bz y (fitR T H x fl fz ∧ 0 ≤ x) ∧ μ' = μ)) 240 [xr (some m), xi q, xi x, xi fz, xi fl, xi ((hnA H).length - fz : Nat), xi ((hnB H).length - fz : Nat), xi (hnG H).length, xi v8, xi k] [] μ := by
  have w60 := hW.2.1
  obtain ⟨b1, b2, b3, b4, b5, b6⟩ := hB
  intro d
  induction d with
  | zero =>
    intro k v8 hk hz
    have fin : Mw Ω σ0 m M_Mdl_fits rm_Mdl_fits (MQi Ω σ0 m rm_Mdl_fits (fun y μ' => Bz y (fitR T H x fl fz ∧ 0 ≤ x) ∧ μ' = μ)) 302 [xr (some m), xi q, xi x, xi fz, xi fl, xi ((hnA H).length - fz : Nat), xi ((hnB H).length - fz : Nat), xi (hnG H).length, xi v8, xi k] [xi v8] μ := by
      rcases hz with ⟨rfl, c0, c1, c2, c3, c4⟩ | ⟨rfl, c0⟩
      · exact R_fits_302 (Or.inr rfl) ⟨Or.inl ⟨rfl, ⟨c0, c2, c3, fun j hj => c4 j (by omega)⟩, c1⟩, rfl⟩
      · exact R_fits_302 (Or.inl rfl) ⟨Or.inr ⟨rfl, fun z => c0 ⟨z.1.1, z.2, z.1.2.1, z.1.2.2.1, fun j hj => z.1.2.2.2 j (by omega)⟩⟩, rfl⟩
    exact B_fits_240 ⟨by omega, by omega, fun _ => fin, fun z => absurd (by omega) z⟩
  | succ d ih =>
    intro k v8 hk hz
    refine B_fits_240 ?_
    rcases hz with ⟨rfl, c0, c1, c2, c3, c4⟩ | ⟨rfl, c0⟩
    · obtain ⟨n, w1, w2, w3, w4⟩ := hW.at (i := x + (hnG H).length + k) (by omega) (by omega)
      rw [show (6 * (q : Int) + 3 + (k : Int)).toNat = 6 * q + 3 + k by omega, w1, w4, hK.2.2.2.2.2 k (by omega)]
      refine ⟨by omega, by omega, fun z => absurd z (by omega), fun _ => ⟨by decide, fun z => absurd z (by decide), fun _ => ⟨by omega, by omega, by omega, by omega, by omega, by omega, cmpL_r _ _, fun z => ?_, fun z => ?_⟩⟩⟩
      · rw [cmpL_0] at z
        exact ih (k + 1) 0 (by omega) (Or.inr ⟨rfl, fun g => z (g.2.2.2.2 k (by omega))⟩)
      · rw [cmpL_0] at z
        refine ih (k + 1) 1 (by omega) (Or.inl ⟨rfl, c0, c1, c2, c3, fun j hj => ?_⟩)
        by_cases e : j = k
        · subst e; exact z
        · exact c4 j (by omega)
    · refine ⟨by omega, by omega, fun z => absurd z (by omega), fun _ => ⟨by decide, fun _ => ?_, fun z => absurd rfl z⟩⟩
      exact R_fits_302 (Or.inl rfl) ⟨Or.inr ⟨rfl, fun z => c0 ⟨z.1.1, z.2, z.1.2.1, z.1.2.2.1, fun j hj => z.1.2.2.2 j (by omega)⟩⟩, rfl⟩
theorem fits_loop2 {σ0 : Sto} (hW : WkS T μ) (hK : HkM μ q H) (hB : HnB H) (hq : q < 210) (hx : -1000 ≤ x ∧ x ≤ 1000) : ∀ (d k : Nat) (v8 : Int), k + d = (hnG H).length → Bz v8 ((fl ≤ x - ((hnA H).length - fz : Nat) ∧ x + (hnG H).length + ((hnB H).length - fz : Nat) ≤ T.length) ∧ 0 ≤ x ∧ (∀ j : Nat, j < (hnA H).length - fz → lnA T (x - ((hnA H).length - fz : Nat) + j) = gx (hnA H) ((hnA H).length - ((hnA H).length - fz) + j)) ∧ (∀ j : Nat, j < k → lnA T (x + j) = gx (hnG H) j)) →
    Mw Ω σ0 m M_Mdl_fits rm_Mdl_fits (MQi Ω σ0 m rm_Mdl_fits (fun y μ' => Bz y (fitR T H x fl fz ∧ 0 ≤ x) ∧ μ' = μ)) 182 [xr (some m), xi q, xi x, xi fz, xi fl, xi ((hnA H).length - fz : Nat), xi ((hnB H).length - fz : Nat), xi (hnG H).length, xi v8, xi k] [] μ := by
  have w60 := hW.2.1
  have hB' := hB
  obtain ⟨b1, b2, b3, b4, b5, b6⟩ := hB'
  intro d
  induction d with
  | zero =>
    intro k v8 hk hz
    have fin : Mw Ω σ0 m M_Mdl_fits rm_Mdl_fits (MQi Ω σ0 m rm_Mdl_fits (fun y μ' => Bz y (fitR T H x fl fz ∧ 0 ≤ x) ∧ μ' = μ)) 240 [xr (some m), xi q, xi x, xi fz, xi fl, xi ((hnA H).length - fz : Nat), xi ((hnB H).length - fz : Nat), xi (hnG H).length, xi v8, xi 0] [] μ := by
      refine fits_loop3 hW hK hB hq hx _ 0 v8 (Nat.zero_add _) ?_
      rcases hz with ⟨rfl, c0, c1, c2, c3⟩ | ⟨rfl, c0⟩
      · exact Or.inl ⟨rfl, c0, c1, c2, fun j hj => c3 j (by omega), fun j hj => absurd hj (Nat.not_lt_zero _)⟩
      · exact Or.inr ⟨rfl, fun z => c0 ⟨z.1, z.2.1, z.2.2.1, fun j hj => z.2.2.2.1 j (by omega)⟩⟩
    exact B_fits_182 ⟨by omega, by omega, fun _ => fin, fun z => absurd (by omega) z⟩
  | succ d ih =>
    intro k v8 hk hz
    refine B_fits_182 ?_
    rcases hz with ⟨rfl, c0, c1, c2, c3⟩ | ⟨rfl, c0⟩
    · obtain ⟨n, w1, w2, w3, w4⟩ := hW.at (i := x + k) (by omega) (by omega)
      rw [show (40 * (q : Int) + (k : Int)).toNat = 40 * q + k by omega, w1, w4, hK.2.2.1 k (by omega)]
      refine ⟨by omega, by omega, fun z => absurd z (by omega), fun _ => ⟨by decide, fun z => absurd z (by decide), fun _ => ⟨by omega, by omega, by omega, by omega, by omega, by omega, cmpL_r _ _, fun z => ?_, fun z => ?_⟩⟩⟩
      · rw [cmpL_0] at z
        exact ih (k + 1) 0 (by omega) (Or.inr ⟨rfl, fun g => z (g.2.2.2 k (by omega))⟩)
      · rw [cmpL_0] at z
        refine ih (k + 1) 1 (by omega) (Or.inl ⟨rfl, c0, c1, c2, fun j hj => ?_⟩)
        by_cases e : j = k
        · subst e; exact z
        · exact c3 j (by omega)
    · refine ⟨by omega, by omega, fun z => absurd z (by omega), fun _ => ⟨by decide, fun _ => ?_, fun z => absurd rfl z⟩⟩
      refine fits_loop3 hW hK hB hq hx _ 0 0 (Nat.zero_add _) (Or.inr ⟨rfl, fun z => c0 ⟨z.1, z.2.1, z.2.2.1, fun j hj => z.2.2.2.1 j (by omega)⟩⟩)
theorem fits_loop1 {σ0 : Sto} (hW : WkS T μ) (hK : HkM μ q H) (hB : HnB H) (hq : q < 210) (hx : -1000 ≤ x ∧ x ≤ 1000) (hfl : 0 ≤ fl) : ∀ (d k : Nat) (v8 : Int), k + d = (hnA H).length - fz → Bz v8 ((fl ≤ x - ((hnA H).length - fz : Nat) ∧ x + (hnG H).length + ((hnB H).length - fz : Nat) ≤ T.length) ∧ 0 ≤ x ∧ (∀ j : Nat, j < k → lnA T (x - ((hnA H).length - fz : Nat) + j) = gx (hnA H) ((hnA H).length - ((hnA H).length - fz) + j))) →
    Mw Ω σ0 m M_Mdl_fits rm_Mdl_fits (MQi Ω σ0 m rm_Mdl_fits (fun y μ' => Bz y (fitR T H x fl fz ∧ 0 ≤ x) ∧ μ' = μ)) 107 [xr (some m), xi q, xi x, xi fz, xi fl, xi ((hnA H).length - fz : Nat), xi ((hnB H).length - fz : Nat), xi (hnG H).length, xi v8, xi k] [] μ := by
  have w60 := hW.2.1
  have hB' := hB
  obtain ⟨b1, b2, b3, b4, b5, b6⟩ := hB'
  have c22 := hK.2.1.2.2.1
  intro d
  induction d with
  | zero =>
    intro k v8 hk hz
    have fin : Mw Ω σ0 m M_Mdl_fits rm_Mdl_fits (MQi Ω σ0 m rm_Mdl_fits (fun y μ' => Bz y (fitR T H x fl fz ∧ 0 ≤ x) ∧ μ' = μ)) 182 [xr (some m), xi q, xi x, xi fz, xi fl, xi ((hnA H).length - fz : Nat), xi ((hnB H).length - fz : Nat), xi (hnG H).length, xi v8, xi 0] [] μ := by
      refine fits_loop2 hW hK hB hq hx _ 0 v8 (Nat.zero_add _) ?_
      rcases hz with ⟨rfl, c0, c1, c2⟩ | ⟨rfl, c0⟩
      · exact Or.inl ⟨rfl, c0, c1, fun j hj => c2 j (by omega), fun j hj => absurd hj (Nat.not_lt_zero _)⟩
      · exact Or.inr ⟨rfl, fun z => c0 ⟨z.1, z.2.1, fun j hj => z.2.2.1 j (by omega)⟩⟩
    exact B_fits_107 ⟨by omega, by omega, fun _ => fin, fun z => absurd (by omega) z⟩
  | succ d ih =>
    intro k v8 hk hz
    refine B_fits_107 ?_
    rcases hz with ⟨rfl, c0, c1, c2⟩ | ⟨rfl, c0⟩
    · obtain ⟨n, w1, w2, w3, w4⟩ := hW.at (i := x - ((hnA H).length - fz : Nat) + k) (by omega) (by omega)
      rw [show (4 * (q : Int) + 2).toNat = 4 * q + 2 by omega, c22, show (6 * (q : Int) + ((hnA H).length : Int) - (((hnA H).length - fz : Nat) : Int) + (k : Int)).toNat = 6 * q + ((hnA H).length - ((hnA H).length - fz) + k) by omega, w1, w4, hK.2.2.2.2.1 ((hnA H).length - ((hnA H).length - fz) + k) (by omega)]
      refine ⟨by omega, by omega, fun z => absurd z (by omega), fun _ => ⟨by decide, fun z => absurd z (by decide), fun _ => ⟨by omega, by omega, by omega, by omega, by omega, by omega, by omega, by omega, cmpL_r _ _, fun z => ?_, fun z => ?_⟩⟩⟩
      · rw [cmpL_0] at z
        exact ih (k + 1) 0 (by omega) (Or.inr ⟨rfl, fun g => z (g.2.2 k (by omega))⟩)
      · rw [cmpL_0] at z
        refine ih (k + 1) 1 (by omega) (Or.inl ⟨rfl, c0, c1, fun j hj => ?_⟩)
        by_cases e : j = k
        · subst e; exact z
        · exact c2 j (by omega)
    · refine ⟨by omega, by omega, fun z => absurd z (by omega), fun _ => ⟨by decide, fun _ => ?_, fun z => absurd rfl z⟩⟩
      refine fits_loop2 hW hK hB hq hx _ 0 0 (Nat.zero_add _) (Or.inr ⟨rfl, fun z => c0 ⟨z.1, z.2.1, fun j hj => z.2.2.1 j (by omega)⟩⟩)
theorem K_fits (hW : WkS T μ) (hK : HkM μ q H) (hB : HnB H) (hq : q < 210) (hx : -1000 ≤ x ∧ x ≤ 1000) (hfl : 0 ≤ fl ∧ fl ≤ 1000) (hf : fz ≤ 2) : MMi Ω m M_Mdl_fits rm_Mdl_fits (fun y μ' => Bz y (fitP T H x fl fz) ∧ μ' = μ) μ [xi q, xi x, xi fz, xi fl] := by
  have w60 := hW.2.1
  have hB' := hB
  obtain ⟨b1, b2, b3, b4, b5, b6⟩ := hB'
  have w53 := hW.1
  obtain ⟨a1, a2, a3, a4⟩ := hK.2.1
  refine MMi.mono (Q := fun y μ' => Bz y (fitR T H x fl fz ∧ 0 ≤ x) ∧ μ' = μ) ?_ (fun y μ' h => ⟨?_, h.2⟩)
  · refine E_fits fun σ0 => B_fits_0 ?_
    have K107 : ∀ v8 : Int, Bz v8 ((fl ≤ x - ((hnA H).length - fz : Nat) ∧ x + (hnG H).length + ((hnB H).length - fz : Nat) ≤ T.length) ∧ 0 ≤ x) → Mw Ω σ0 m M_Mdl_fits rm_Mdl_fits (MQi Ω σ0 m rm_Mdl_fits (fun y μ' => Bz y (fitR T H x fl fz ∧ 0 ≤ x) ∧ μ' = μ)) 107 [xr (some m), xi q, xi x, xi fz, xi fl, xi ((hnA H).length - fz : Nat), xi ((hnB H).length - fz : Nat), xi (hnG H).length, xi v8, xi 0] [] μ := fun v8 hz => by
      refine fits_loop1 hW hK hB hq hx hfl.1 _ 0 v8 (Nat.zero_add _) ?_
      rcases hz with ⟨rfl, c0, c1⟩ | ⟨rfl, c0⟩
      · exact Or.inl ⟨rfl, c0, c1, fun j hj => absurd hj (Nat.not_lt_zero _)⟩
      · exact Or.inr ⟨rfl, fun z => c0 ⟨z.1, z.2.1⟩⟩
    have K30 : Mw Ω σ0 m M_Mdl_fits rm_Mdl_fits (MQi Ω σ0 m rm_Mdl_fits (fun y μ' => Bz y (fitR T H x fl fz ∧ 0 ≤ x) ∧ μ' = μ)) 30 [xr (some m), xi q, xi x, xi fz, xi fl, xu, xu, xu, xu, xu] [xi ((hnA H).length - fz : Nat)] μ := by
      refine B_fits_30 ?_
      rw [show (4 * (q : Int) + 3).toNat = 4 * q + 3 by omega, show (4 * (q : Int)).toNat = 4 * q by omega, a4, a1, w53]
      refine ⟨by omega, by omega, by omega, fun z => ?_, fun z => ?_⟩
      · have e : (((hnB H).length - fz : Nat) : Int) = 0 := by omega
        rw [e] at K107
        exact ⟨by omega, by omega, by omega, by omega, fun g => K107 0 (Or.inr ⟨rfl, fun y => by omega⟩), fun g => ⟨by omega, fun g2 => K107 0 (Or.inr ⟨rfl, fun y => by omega⟩), fun g2 => K107 1 (Or.inl ⟨rfl, ⟨by omega, by omega⟩, by omega⟩)⟩⟩
      · have e : (((hnB H).length - fz : Nat) : Int) = ((hnB H).length : Int) - fz := by omega
        rw [e] at K107
        exact ⟨by omega, by omega, by omega, by omega, fun g => K107 0 (Or.inr ⟨rfl, fun y => by omega⟩), fun g => ⟨by omega, fun g2 => K107 0 (Or.inr ⟨rfl, fun y => by omega⟩), fun g2 => K107 1 (Or.inl ⟨rfl, ⟨by omega, by omega⟩, by omega⟩)⟩⟩
    rw [show (4 * (q : Int) + 2).toNat = 4 * q + 2 by omega, a3]
    refine ⟨by omega, by omega, by omega, fun z => ?_, fun z => ?_⟩
    · have e : (((hnA H).length - fz : Nat) : Int) = 0 := by omega
      rw [e] at K30; exact K30
    · have e : (((hnA H).length - fz : Nat) : Int) = ((hnA H).length : Int) - fz := by omega
      rw [e] at K30; exact K30
  · rcases h.1 with ⟨e, g⟩ | ⟨e, g⟩
    · exact Or.inl ⟨e, (fit_iff hfl.1).mpr g.1⟩
    · refine Or.inr ⟨e, fun z => g ⟨(fit_iff hfl.1).mp z, ?_⟩⟩
      have := ((fit_iff hfl.1).mp z).1.1
      omega
end FIT
