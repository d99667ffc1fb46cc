/-! the reference's start (by program: wip/tools/genini.py) -/
def iniL : List (Nat × Nat × Nat) := [(0, 0, 0), (770, 51, 16384), (771, 50, 16384), (772, 50, 16384), (774, 50, 40), (775, 50, 800), (776, 50, 40), (777, 50, 40), (778, 50, 40), (784, 50, 64), (787, 50, 63), (788, 50, 1260), (790, 50, 640), (791, 50, 640), (792, 50, 30720), (795, 50, 20), (796, 50, 20), (798, 50, 10), (799, 50, 210), (800, 50, 210), (801, 50, 840), (802, 51, 8400), (803, 51, 1260), (805, 50, 20), (807, 50, 20), (808, 50, 20), (809, 52, 20), (810, 50, 120), (811, 50, 81), (812, 50, 441), (813, 50, 20), (814, 50, 20), (815, 50, 44), (816, 50, 44), (817, 50, 20), (818, 50, 484), (819, 50, 484), (820, 50, 128)]
def iF (j : Nat) : Nat := (iniL.getD j (0, 0, 0)).1
def iK (j : Nat) : Nat := (iniL.getD j (0, 0, 0)).2.1
def iZ (j : Nat) : Nat := (iniL.getD j (0, 0, 0)).2.2
theorem iF_ne : ∀ i, i < 38 → ∀ j, j < i → 1 ≤ j → iF j ≠ iF i := by decide +kernel
def IniI (σ : Sto) (m i : Nat) (τ : Sto) : Prop := sN τ = m + 1 + i ∧ sK τ m = 13 ∧ (∀ f, fI τ f m = 0) ∧ (∀ j, 1 ≤ j → j ≤ i → sK τ (m + j) = iK j ∧ sZ τ (m + j) = iZ j ∧ (∀ k, aI τ (m + j) k = 0) ∧ ∀ k, aL τ (m + j) k = 0) ∧ (∀ j, 1 ≤ j → j < i → fR τ (iF j) m = some (m + j)) ∧ Keep σ τ (fun q => q = m)
section INI
variable {Ω : Om} {σ τ τ' : Sto} {m i p : Nat}
theorem IniI.one (hk : sK σ m = 13) (hn : sN σ = m + 1) (h0 : ∀ f, fI σ f m = 0) (e : τ = nO σ 51 16384) : IniI σ m 1 τ := by
  subst e
  have hm : m ≠ sN σ := by omega
  refine ⟨by show sN σ + 1 = _; omega, by show up1 (sK σ) (sN σ) 51 m = 13; rw [up1, if_neg hm]; exact hk, fun f => ?_, fun j h1 h2 => ?_, fun j h1 h2 => by omega, Keep.nO⟩
  · show (if m = sN σ then 0 else fI σ f m) = 0
    rw [if_neg hm]; exact h0 f
  · have e : m + j = sN σ := by omega
    rw [e]
    have hj : j = 1 := by omega
    subst hj
    refine ⟨?_, ?_, fun k => ?_, fun k => ?_⟩
    · show up1 (sK σ) (sN σ) 51 (sN σ) = 51; rw [up1, if_pos rfl]
    · show up1 (sZ σ) (sN σ) 16384 (sN σ) = 16384; rw [up1, if_pos rfl]
    · show up1 (aI σ) (sN σ) (fun _ => 0) (sN σ) k = 0; rw [up1, if_pos rfl]
    · show up1 (aL σ) (sN σ) (fun _ => 0) (sN σ) k = 0; rw [up1, if_pos rfl]
theorem IniI.put (h : IniI σ m i τ) (hp : p = m + i) (h1 : 1 ≤ i) (hi : i < 38) : (∀ j, 1 ≤ j → j ≤ i → fR (uR τ (iF i) m (some p)) (iF j) m = some (m + j)) ∧ Keep σ (uR τ (iF i) m (some p)) (fun q => q = m) := by
  refine ⟨fun j j1 j2 => ?_, h.2.2.2.2.2.trans (Keep.uR rfl)⟩
  by_cases e : j = i
  · subst e; rw [fR_uR, if_pos ⟨rfl, rfl⟩, hp]
  · rw [fR_uR, if_neg (fun z => iF_ne i hi j (by omega) j1 z.1)]; exact h.2.2.2.2.1 j j1 (by omega)
theorem IniI.step (h : IniI σ m i τ) (hp : p = m + i) (h1 : 1 ≤ i) (hi : i < 37) (e : τ' = nO (uR τ (iF i) m (some p)) (iK (i + 1)) (iZ (i + 1))) : IniI σ m (i + 1) τ' := by
  obtain ⟨g1, g2⟩ := h.put hp h1 (by omega)
  subst e
  obtain ⟨a1, a2, a3, a4, a5, a6⟩ := h
  have hm : m ≠ sN τ := by omega
  have hN : sN (uR τ (iF i) m (some p)) = sN τ := rfl
  refine ⟨by show sN τ + 1 = _; omega, by show up1 (sK τ) (sN τ) _ m = 13; rw [up1, if_neg hm]; exact a2, fun f => ?_, fun j j1 j2 => ?_, fun j j1 j2 => ?_, g2.trans Keep.nO⟩
  · show (if m = sN τ then 0 else fI τ f m) = 0
    rw [if_neg hm]; exact a3 f
  · by_cases ej : j = i + 1
    · subst ej
      have e : m + (i + 1) = sN τ := by omega
      rw [e]
      refine ⟨?_, ?_, fun k => ?_, fun k => ?_⟩
      · show up1 (sK τ) (sN τ) _ (sN τ) = _; rw [up1, if_pos rfl]
      · show up1 (sZ τ) (sN τ) _ (sN τ) = _; rw [up1, if_pos rfl]
      · show up1 (aI τ) (sN τ) (fun _ => 0) (sN τ) k = 0; rw [up1, if_pos rfl]
      · show up1 (aL τ) (sN τ) (fun _ => 0) (sN τ) k = 0; rw [up1, if_pos rfl]
    · have hj : m + j ≠ sN τ := by omega
      obtain ⟨b1, b2, b3, b4⟩ := a4 j j1 (by omega)
      refine ⟨?_, ?_, fun k => ?_, fun k => ?_⟩
      · show up1 (sK τ) (sN τ) _ (m + j) = _; rw [up1, if_neg hj]; exact b1
      · show up1 (sZ τ) (sN τ) _ (m + j) = _; rw [up1, if_neg hj]; exact b2
      · show up1 (aI τ) (sN τ) (fun _ => 0) (m + j) k = 0; rw [up1, if_neg hj]; exact b3 k
      · show up1 (aL τ) (sN τ) (fun _ => 0) (m + j) k = 0; rw [up1, if_neg hj]; exact b4 k
  · have := g1 j j1 (by omega)
    show (if m = sN τ then none else fR (uR τ (iF i) m (some p)) (iF j) m) = _
    rw [if_neg hm]; exact this
theorem Sh.of (hN : m + 37 < sN τ) (hk : sK τ m = 13) (A : ∀ j, 1 ≤ j → j ≤ 37 → fR τ (iF j) m = some (m + j) ∧ sK τ (m + j) = iK j ∧ sZ τ (m + j) = iZ j) : Sh τ m :=
  ⟨hN, hk, A 1 (by decide) (by decide), A 2 (by decide) (by decide), A 3 (by decide) (by decide), A 4 (by decide) (by decide), A 5 (by decide) (by decide), A 6 (by decide) (by decide), A 7 (by decide) (by decide), A 8 (by decide) (by decide), A 9 (by decide) (by decide), A 10 (by decide) (by decide), A 11 (by decide) (by decide), A 12 (by decide) (by decide), A 13 (by decide) (by decide), A 14 (by decide) (by decide), A 15 (by decide) (by decide), A 16 (by decide) (by decide), A 17 (by decide) (by decide), A 18 (by decide) (by decide), A 19 (by decide) (by decide), A 20 (by decide) (by decide), A 21 (by decide) (by decide), A 22 (by decide) (by decide), A 23 (by decide) (by decide), A 24 (by decide) (by decide), A 25 (by decide) (by decide), A 26 (by decide) (by decide), A 27 (by decide) (by decide), A 28 (by decide) (by decide), A 29 (by decide) (by decide), A 30 (by decide) (by decide), A 31 (by decide) (by decide), A 32 (by decide) (by decide), A 33 (by decide) (by decide), A 34 (by decide) (by decide), A 35 (by decide) (by decide), A 36 (by decide) (by decide), A 37 (by decide) (by decide)⟩
theorem INI.fin {ρ : Sto} (a1 : sN ρ = m + 1 + 37) (a2 : sK ρ m = 13) (a3 : ∀ f, fI ρ f m = 0) (a4 : ∀ j, 1 ≤ j → j ≤ 37 → sK ρ (m + j) = iK j ∧ sZ ρ (m + j) = iZ j ∧ (∀ k, aI ρ (m + j) k = 0) ∧ ∀ k, aL ρ (m + j) k = 0) (p1 : ∀ j, 1 ≤ j → j ≤ 37 → fR ρ (iF j) m = some (m + j)) (p2 : Keep σ ρ (fun q => q = m)) (hn : sN σ = m + 1) : (Sh (vI (vI (vI (uI ρ 773 m 1) (m + 6) 0 (-1)) (m + 7) 0 (-1)) (m + 8) 0 (-1)) m ∧ MdV S0 (mu (vI (vI (vI (uI ρ 773 m 1) (m + 6) 0 (-1)) (m + 7) 0 (-1)) (m + 8) 0 (-1)) m)) ∧ sN (vI (vI (vI (uI ρ 773 m 1) (m + 6) 0 (-1)) (m + 7) 0 (-1)) (m + 8) 0 (-1)) = m + 38 ∧ Keep σ (vI (vI (vI (uI ρ 773 m 1) (m + 6) 0 (-1)) (m + 7) 0 (-1)) (m + 8) 0 (-1)) (fun q => q = m) := by
  have kI : ∀ f, mI (mu (vI (vI (vI (uI ρ 773 m 1) (m + 6) 0 (-1)) (m + 7) 0 (-1)) (m + 8) 0 (-1)) m) f = if f = 5 then 1 else 0 := fun f => by
    show (if 768 + f = 773 ∧ m = m then 1 else fI ρ (768 + f) m) = _
    by_cases e : f = 5
    · rw [if_pos ⟨by omega, rfl⟩, if_pos e]
    · rw [if_neg (by omega), if_neg e]; exact a3 _
  have kA : ∀ j, 1 ≤ j → j ≤ 37 → ∀ k, mA (mu (vI (vI (vI (uI ρ 773 m 1) (m + 6) 0 (-1)) (m + 7) 0 (-1)) (m + 8) 0 (-1)) m) j k = if (j = 6 ∨ j = 7 ∨ j = 8) ∧ k = 0 then -1 else 0 := fun j j1 j2 k => by
    show aI (vI (vI (vI (uI ρ 773 m 1) (m + 6) 0 (-1)) (m + 7) 0 (-1)) (m + 8) 0 (-1)) (m + j) k = _
    have h0 : aI (uI ρ 773 m 1) (m + j) k = 0 := (a4 j j1 j2).2.2.1 k
    rw [aI_vI, aI_vI, aI_vI, h0]
    by_cases e : (j = 6 ∨ j = 7 ∨ j = 8) ∧ k = 0
    · rw [if_pos e]
      obtain ⟨e1, rfl⟩ := e
      rcases e1 with rfl | rfl | rfl
      · rw [if_neg (by omega), if_neg (by omega), if_pos ⟨rfl, rfl⟩]
      · rw [if_neg (by omega), if_pos ⟨rfl, rfl⟩]
      · rw [if_pos ⟨rfl, rfl⟩]
    · rw [if_neg e, if_neg (by omega), if_neg (by omega), if_neg (by omega)]
  refine ⟨⟨Sh.of (by show m + 37 < sN ρ; omega) a2 (fun j j1 j2 => ⟨p1 j j1 j2, (a4 j j1 j2).1, (a4 j j1 j2).2.1⟩), ?_⟩, a1.trans (by omega), ((p2.tr (Keep.uI (P := fun q => q = m) rfl) (fun _ _ h => h)).tr (Keep.vI (P := fun q => q = m + 6) rfl) ?_).tr (Keep.vI (P := fun q => q = m + 7) rfl) ?_ |>.tr (Keep.vI (P := fun q => q = m + 8) rfl) ?_⟩
  · obtain ⟨μ, hμ⟩ : ∃ μ, μ = mu (vI (vI (vI (uI ρ 773 m 1) (m + 6) 0 (-1)) (m + 7) 0 (-1)) (m + 8) 0 (-1)) m := ⟨_, rfl⟩
    rw [← hμ] at kI kA ⊢
    clear hμ
    refine ⟨⟨(kI 1).trans rfl, by decide, fun i hi => absurd hi (Nat.not_lt_zero i)⟩, ⟨(kI 5).trans rfl, by decide, fun v hv => ?_⟩, ⟨(kI 11).trans rfl, fun r hr => by cases hr⟩, ⟨(kI 25).trans rfl, fun X Y P M n h => by cases h⟩, ⟨(kI 29).trans rfl, by decide, fun p hs h => by cases h⟩, ⟨(kI 36).trans rfl, by decide, fun i v h => by cases h⟩, (kI 38).trans rfl, (by decide), (fun i r h => by cases h), fun i _ hi => ⟨(kA 26 (by decide) (by decide) i).trans (if_neg (by omega)), fun p hp => (kA 27 (by decide) (by decide) _).trans (if_neg (by omega))⟩⟩
    have hv0 : v = 0 := by have : v < 1 := hv; omega
    subst hv0
    exact ⟨(kA 4 (by decide) (by decide) 0).trans rfl, (kA 6 (by decide) (by decide) 0).trans rfl, (kA 7 (by decide) (by decide) 0).trans rfl, (kA 8 (by decide) (by decide) 0).trans rfl, fun k x h => by cases h⟩
  all_goals intro q q1 q2; omega
theorem K_Mdl_init (hk : sK σ m = 13) (hn : sN σ = m + 1) (h0 : ∀ f, fI σ f m = 0) : MC Ω M_Mdl_init rm_Mdl_init (RV fun σ' => (Sh σ' m ∧ MdV S0 (mu σ' m)) ∧ sN σ' = m + 38 ∧ Keep σ σ' (fun q => q = m)) XN σ [xr (some m)] := by
  refine e_Mdl_init (b_Mdl_init_0 ⟨by decide, by decide, by decide, by decide, fun τ1 e1 => ?_⟩)
  have h1 := IniI.one hk hn h0 e1
  have n0 := hn
  refine ⟨h1.2.1, by decide, by decide, fun τ2 e2 => ?_⟩
  have h2 : IniI σ m 2 τ2 := h1.step (by omega) (by decide) (by decide) e2
  clear e1 e2
  refine ⟨h2.2.1, by decide, by decide, fun τ3 e3 => ?_⟩
  have h3 : IniI σ m 3 τ3 := h2.step (by have := h1.1; omega) (by decide) (by decide) e3
  clear e3
  clear n0 h1
  refine ⟨h3.2.1, by decide, by decide, fun τ4 e4 => ?_⟩
  have h4 : IniI σ m 4 τ4 := h3.step (by have := h2.1; omega) (by decide) (by decide) e4
  clear e4
  clear h2
  refine ⟨h4.2.1, by decide, by decide, fun τ5 e5 => ?_⟩
  have h5 : IniI σ m 5 τ5 := h4.step (by have := h3.1; omega) (by decide) (by decide) e5
  clear e5
  clear h3
  refine ⟨h5.2.1, by decide, by decide, fun τ6 e6 => ?_⟩
  have h6 : IniI σ m 6 τ6 := h5.step (by have := h4.1; omega) (by decide) (by decide) e6
  clear e6
  clear h4
  refine ⟨h6.2.1, by decide, by decide, fun τ7 e7 => ?_⟩
  have h7 : IniI σ m 7 τ7 := h6.step (by have := h5.1; omega) (by decide) (by decide) e7
  clear e7
  clear h5
  refine ⟨h7.2.1, by decide, by decide, fun τ8 e8 => ?_⟩
  have h8 : IniI σ m 8 τ8 := h7.step (by have := h6.1; omega) (by decide) (by decide) e8
  clear e8
  clear h6
  refine ⟨h8.2.1, by decide, by decide, fun τ9 e9 => ?_⟩
  have h9 : IniI σ m 9 τ9 := h8.step (by have := h7.1; omega) (by decide) (by decide) e9
  clear e9
  clear h7
  refine ⟨h9.2.1, by decide, by decide, fun τ10 e10 => ?_⟩
  have h10 : IniI σ m 10 τ10 := h9.step (by have := h8.1; omega) (by decide) (by decide) e10
  clear e10
  clear h8
  refine ⟨h10.2.1, by decide, by decide, fun τ11 e11 => ?_⟩
  have h11 : IniI σ m 11 τ11 := h10.step (by have := h9.1; omega) (by decide) (by decide) e11
  clear e11
  clear h9
  refine ⟨h11.2.1, by decide, by decide, fun τ12 e12 => ?_⟩
  have h12 : IniI σ m 12 τ12 := h11.step (by have := h10.1; omega) (by decide) (by decide) e12
  clear e12
  clear h10
  refine ⟨h12.2.1, by decide, by decide, fun τ13 e13 => ?_⟩
  have h13 : IniI σ m 13 τ13 := h12.step (by have := h11.1; omega) (by decide) (by decide) e13
  clear e13
  clear h11
  refine ⟨h13.2.1, by decide, by decide, fun τ14 e14 => ?_⟩
  have h14 : IniI σ m 14 τ14 := h13.step (by have := h12.1; omega) (by decide) (by decide) e14
  clear e14
  clear h12
  refine ⟨h14.2.1, by decide, by decide, fun τ15 e15 => ?_⟩
  have h15 : IniI σ m 15 τ15 := h14.step (by have := h13.1; omega) (by decide) (by decide) e15
  clear e15
  clear h13
  refine ⟨h15.2.1, by decide, by decide, fun τ16 e16 => ?_⟩
  have h16 : IniI σ m 16 τ16 := h15.step (by have := h14.1; omega) (by decide) (by decide) e16
  clear e16
  clear h14
  refine ⟨h16.2.1, by decide, by decide, fun τ17 e17 => ?_⟩
  have h17 : IniI σ m 17 τ17 := h16.step (by have := h15.1; omega) (by decide) (by decide) e17
  clear e17
  clear h15
  refine ⟨h17.2.1, by decide, by decide, fun τ18 e18 => ?_⟩
  have h18 : IniI σ m 18 τ18 := h17.step (by have := h16.1; omega) (by decide) (by decide) e18
  clear e18
  clear h16
  refine ⟨h18.2.1, by decide, by decide, fun τ19 e19 => ?_⟩
  have h19 : IniI σ m 19 τ19 := h18.step (by have := h17.1; omega) (by decide) (by decide) e19
  clear e19
  clear h17
  refine ⟨h19.2.1, by decide, by decide, fun τ20 e20 => ?_⟩
  have h20 : IniI σ m 20 τ20 := h19.step (by have := h18.1; omega) (by decide) (by decide) e20
  clear e20
  clear h18
  refine ⟨h20.2.1, by decide, by decide, fun τ21 e21 => ?_⟩
  have h21 : IniI σ m 21 τ21 := h20.step (by have := h19.1; omega) (by decide) (by decide) e21
  clear e21
  clear h19
  refine ⟨h21.2.1, by decide, by decide, fun τ22 e22 => ?_⟩
  have h22 : IniI σ m 22 τ22 := h21.step (by have := h20.1; omega) (by decide) (by decide) e22
  clear e22
  clear h20
  refine ⟨h22.2.1, by decide, by decide, fun τ23 e23 => ?_⟩
  have h23 : IniI σ m 23 τ23 := h22.step (by have := h21.1; omega) (by decide) (by decide) e23
  clear e23
  clear h21
  refine ⟨h23.2.1, by decide, by decide, fun τ24 e24 => ?_⟩
  have h24 : IniI σ m 24 τ24 := h23.step (by have := h22.1; omega) (by decide) (by decide) e24
  clear e24
  clear h22
  refine ⟨h24.2.1, by decide, by decide, fun τ25 e25 => ?_⟩
  have h25 : IniI σ m 25 τ25 := h24.step (by have := h23.1; omega) (by decide) (by decide) e25
  clear e25
  clear h23
  refine ⟨h25.2.1, by decide, by decide, fun τ26 e26 => ?_⟩
  have h26 : IniI σ m 26 τ26 := h25.step (by have := h24.1; omega) (by decide) (by decide) e26
  clear e26
  clear h24
  refine ⟨h26.2.1, by decide, by decide, fun τ27 e27 => ?_⟩
  have h27 : IniI σ m 27 τ27 := h26.step (by have := h25.1; omega) (by decide) (by decide) e27
  clear e27
  clear h25
  refine ⟨h27.2.1, by decide, by decide, fun τ28 e28 => ?_⟩
  have h28 : IniI σ m 28 τ28 := h27.step (by have := h26.1; omega) (by decide) (by decide) e28
  clear e28
  clear h26
  refine ⟨h28.2.1, by decide, by decide, fun τ29 e29 => ?_⟩
  have h29 : IniI σ m 29 τ29 := h28.step (by have := h27.1; omega) (by decide) (by decide) e29
  clear e29
  clear h27
  refine ⟨h29.2.1, by decide, by decide, fun τ30 e30 => ?_⟩
  have h30 : IniI σ m 30 τ30 := h29.step (by have := h28.1; omega) (by decide) (by decide) e30
  clear e30
  clear h28
  refine ⟨h30.2.1, by decide, by decide, fun τ31 e31 => ?_⟩
  have h31 : IniI σ m 31 τ31 := h30.step (by have := h29.1; omega) (by decide) (by decide) e31
  clear e31
  clear h29
  refine ⟨h31.2.1, by decide, by decide, fun τ32 e32 => ?_⟩
  have h32 : IniI σ m 32 τ32 := h31.step (by have := h30.1; omega) (by decide) (by decide) e32
  clear e32
  clear h30
  refine ⟨h32.2.1, by decide, by decide, fun τ33 e33 => ?_⟩
  have h33 : IniI σ m 33 τ33 := h32.step (by have := h31.1; omega) (by decide) (by decide) e33
  clear e33
  clear h31
  refine ⟨h33.2.1, by decide, by decide, fun τ34 e34 => ?_⟩
  have h34 : IniI σ m 34 τ34 := h33.step (by have := h32.1; omega) (by decide) (by decide) e34
  clear e34
  clear h32
  refine ⟨h34.2.1, by decide, by decide, fun τ35 e35 => ?_⟩
  have h35 : IniI σ m 35 τ35 := h34.step (by have := h33.1; omega) (by decide) (by decide) e35
  clear e35
  clear h33
  refine ⟨h35.2.1, by decide, by decide, fun τ36 e36 => ?_⟩
  have h36 : IniI σ m 36 τ36 := h35.step (by have := h34.1; omega) (by decide) (by decide) e36
  clear e36
  clear h34
  refine ⟨h36.2.1, by decide, by decide, fun τ37 e37 => ?_⟩
  have h37 : IniI σ m 37 τ37 := h36.step (by have := h35.1; omega) (by decide) (by decide) e37
  clear e37
  clear h35
  obtain ⟨p1, p2⟩ := h37.put (p := sN τ36) (by have := h36.1; omega) (by decide) (by decide)
  obtain ⟨a1, a2, a3, a4, a5, a6⟩ := h37
  have r6 := p1 6 (by decide) (by decide)
  have r7 := p1 7 (by decide) (by decide)
  have r8 := p1 8 (by decide) (by decide)
  have k6 := a4 6 (by decide) (by decide)
  have k7 := a4 7 (by decide) (by decide)
  have k8 := a4 8 (by decide) (by decide)
  have z6 : sZ τ37 (m + 6) = 40 := k6.2.1
  have z7 : sZ τ37 (m + 7) = 40 := k7.2.1
  have z8 : sZ τ37 (m + 8) = 40 := k8.2.1
  refine ⟨a2, m + 6, r6, k6.1, by decide, by rw [z6]; decide, m + 7, r7, k7.1, by decide, by rw [z7]; decide, m + 8, r8, k8.1, by decide, by rw [z8]; decide, r_Mdl_init_343 ⟨rfl, ?_⟩ (by decide) (by decide)⟩
  obtain ⟨ρ, hρ⟩ : ∃ ρ, ρ = uR τ37 820 m (some (sN τ36)) := ⟨_, rfl⟩
  have p1 : ∀ j, 1 ≤ j → j ≤ 37 → fR ρ (iF j) m = some (m + j) := fun j j1 j2 => by rw [hρ]; exact p1 j j1 j2
  have p2 : Keep σ ρ (fun q => q = m) := by rw [hρ]; exact p2
  have a1 : sN ρ = m + 1 + 37 := by rw [hρ]; exact a1
  have a2 : sK ρ m = 13 := by rw [hρ]; exact a2
  have a3 : ∀ f, fI ρ f m = 0 := by rw [hρ]; exact a3
  have a4 : ∀ j, 1 ≤ j → j ≤ 37 → sK ρ (m + j) = iK j ∧ sZ ρ (m + j) = iZ j ∧ (∀ k, aI ρ (m + j) k = 0) ∧ ∀ k, aL ρ (m + j) k = 0 := by rw [hρ]; exact a4
  rw [← hρ]
  refine INI.fin a1 a2 a3 a4 p1 p2 hn
end INI
