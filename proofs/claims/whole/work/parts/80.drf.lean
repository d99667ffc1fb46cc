/-! BY HAND: Draft, its pieces -/
/-- from and to in the first, the second and the base; where it stands; settled -/
theorem cnl_I (c : Cnl) : True := trivial
def cnF (c : Cnl) (i : Nat) : Int := if i = 0 then c.1.1 else if i = 1 then c.2.1.1 else c.2.2.1.1
def cnT (c : Cnl) (i : Nat) : Int := if i = 0 then c.1.2 else if i = 1 then c.2.1.2 else c.2.2.1.2
abbrev cnP (c : Cnl) : Int := c.2.2.2.1
abbrev cnS (c : Cnl) : Int := c.2.2.2.2
abbrev CfV (σ : Sto) (b : Nat) (c : Cnl) : Prop := Cf σ b (cnF c) (cnT c) (cnP c) (cnS c)
def DrS (σ : Sto) (a : Nat) : Prop := a + 127 < sN σ ∧ sK σ a = 4 ∧ fR σ 192 a = some (a + 1) ∧ fR σ 193 a = some (a + 4) ∧ fR σ 194 a = some (a + 5) ∧ fR σ 195 a = some (a + 6) ∧ fR σ 196 a = some (a + 34) ∧ fR σ 197 a = some (a + 62) ∧ sK σ (a + 5) = 54 ∧ sZ σ (a + 5) = 21 ∧ (∀ i, i < 21 → aR σ (a + 5) i = some (a + 65 + 3 * i)) ∧ CpS σ (a + 6) ∧ CpS σ (a + 34)
theorem DrS.shp {σ σ' : Sto} {a : Nat} (h : DrS σ a) (k : Shp σ σ') : DrS σ' a := by
  obtain ⟨h0, h1, f0, f1, f2, f3, f4, f5, k1, z1, r1, c1, c2⟩ := h
  have e0 := k.2 a (by omega)
  have e5 := k.2 (a + 5) (by omega)
  refine ⟨Nat.lt_of_lt_of_le h0 k.1, e0.1.trans h1, (e0.2.2.1 _).trans f0, (e0.2.2.1 _).trans f1, (e0.2.2.1 _).trans f2, (e0.2.2.1 _).trans f3, (e0.2.2.1 _).trans f4, (e0.2.2.1 _).trans f5, e5.1.trans k1, e5.2.1.trans z1, fun i hi => ?_, c1.shp k, c2.shp k⟩
  rw [e5.2.2.2]; exact r1 i hi
theorem DrS.keep {σ σ' : Sto} {a : Nat} {P : Nat → Prop} (h : DrS σ a) (k : Keep σ σ' P) (d0 : ¬ P a) (dj : ∀ b, a + 5 ≤ b → b ≤ a + 61 → ¬ P b) : DrS σ' a := by
  obtain ⟨h0, h1, f0, f1, f2, f3, f4, f5, k1, z1, r1, c1, c2⟩ := h
  have e0 := k.2 a (by omega) d0
  have e5 := k.2 (a + 5) (by omega) (dj _ (by omega) (by omega))
  refine ⟨Nat.lt_of_lt_of_le h0 k.1, e0.1.trans h1, (e0.2.2.2.2.1 _).trans f0, (e0.2.2.2.2.1 _).trans f1, (e0.2.2.2.2.1 _).trans f2, (e0.2.2.2.2.1 _).trans f3, (e0.2.2.2.2.1 _).trans f4, (e0.2.2.2.2.1 _).trans f5, e5.1.trans k1, e5.2.1.trans z1, fun i hi => ?_, c1.keep k (fun b h1 h2 => dj b (by omega) (by omega)), c2.keep k (fun b h1 h2 => dj b (by omega) (by omega))⟩
  rw [e5.2.2.2.2.2.2.2]; exact r1 i hi
def DrT (σ : Sto) (a f s b : Nat) : Prop := fR σ 198 a = some f ∧ fR σ 199 a = some s ∧ fR σ 200 a = some b
def DrC (σ : Sto) (a : Nat) (cl : List Cnl) : Prop := fI σ 201 a = cl.length ∧ cl.length ≤ 21 ∧ ∀ i, i < 21 → ∃ c, CfV σ (a + 65 + 3 * i) c ∧ ∀ c', cl[i]? = some c' → c' = c
theorem DrC.keep {σ σ' : Sto} {a : Nat} {cl : List Cnl} {P : Nat → Prop} (h : DrC σ a cl) (k : Keep σ σ' P) (hn : a + 127 < sN σ) (d0 : ¬ P a) (dj : ∀ b, a + 65 ≤ b → b ≤ a + 127 → ¬ P b) : DrC σ' a cl := by
  obtain ⟨h1, h2, h3⟩ := h
  have e0 := k.2 a (by omega) d0
  refine ⟨(e0.2.2.1 _).trans h1, h2, fun i hi => ?_⟩
  obtain ⟨c, g1, g2⟩ := h3 i hi
  exact ⟨c, g1.keep k (fun q q1 q2 => dj q (by omega) (by omega)), g2⟩
/-- a text that stands outside of what a draft changes -/
abbrev DO (a f : Nat) : Prop := f + 2 < a ∨ f = a + 62 ∨ a + 127 < f
abbrev t3 {α : Type} (x y z : α) (i : Nat) : α := if i = 0 then x else if i = 1 then y else z
def CnB (c : Cnl) (F S B : List (Int64 × Int)) : Prop := (0 ≤ c.1.1 ∧ c.1.1 ≤ c.1.2 ∧ c.1.2 ≤ F.length) ∧ (0 ≤ c.2.1.1 ∧ c.2.1.1 ≤ c.2.1.2 ∧ c.2.1.2 ≤ S.length) ∧ (0 ≤ c.2.2.1.1 ∧ c.2.2.1.1 ≤ c.2.2.1.2 ∧ c.2.2.1.2 ≤ B.length)
theorem CnB.at {c : Cnl} {F S B : List (Int64 × Int)} (h : CnB c F S B) (i : Nat) : 0 ≤ cnF c i ∧ cnF c i ≤ cnT c i ∧ cnT c i ≤ (t3 F S B i).length := by
  unfold cnF cnT t3
  by_cases e : i = 0
  · rw [if_pos e, if_pos e, if_pos e]; exact h.1
  · by_cases e1 : i = 1
    · rw [if_neg e, if_neg e, if_neg e, if_pos e1, if_pos e1, if_pos e1]; exact h.2.1
    · rw [if_neg e, if_neg e, if_neg e, if_neg e1, if_neg e1, if_neg e1]; exact h.2.2
section DRF
variable {Ω : Om} {σ0 : Sto} {a f s b : Nat} {T F S B : List (Int64 × Int)} {cl : List Cnl}
theorem k_Drf_signFor {σ : Sto} {x y z : Int} (hS : DrS σ a) (hx : Q32 x) (hy : Q32 y) (hz : Q32 z) : MC Ω M_Drf_signFor rm_Drf_signFor (RV fun σ' => σ' = uI (uI (uI σ 203 a x) 204 a y) 205 a z) XN σ [xr (some a), xi x, xi y, xi z] :=
  e_Drf_signFor (b_Drf_signFor_0 ⟨hS.2.1, hx, hy, hz, r_Drf_signFor_15 ⟨rfl, rfl⟩ (by decide) (by decide)⟩)
theorem k_Drf_sourceOf {σ : Sto} {p : Nat} (hS : DrS σ a) (hT : DrT σ a f s b) (hp : p ≤ 2) : MC Ω M_Drf_sourceOf rm_Drf_sourceOf (RR fun r σ' => σ' = σ ∧ r = some (t3 f s b p)) XN σ [xr (some a), xi p] := by
  obtain ⟨h1, h2, h3⟩ := hT
  refine e_Drf_sourceOf (b_Drf_sourceOf_0 ⟨by omega, fun c => ⟨fun c2 => ⟨hS.2.1, _, h3, ?_⟩, fun c2 => ⟨hS.2.1, _, h2, ?_⟩⟩, fun c => ⟨hS.2.1, _, h1, ?_⟩⟩)
  · exact r_Drf_sourceOf_27 ⟨_, rfl, rfl, by rw [t3, if_neg (by omega), if_neg (by omega)]⟩ (by decide) (by decide)
  · exact r_Drf_sourceOf_27 ⟨_, rfl, rfl, by rw [t3, if_neg (by omega), if_pos (by omega)]⟩ (by decide) (by decide)
  · exact r_Drf_sourceOf_27 ⟨_, rfl, rfl, by rw [t3, if_pos (by omega)]⟩ (by decide) (by decide)
theorem k_Drf_conflictCount {σ : Sto} (hS : DrS σ a) (hC : DrC σ a cl) : MC Ω M_Drf_conflictCount rm_Drf_conflictCount (RI fun r σ' => σ' = σ ∧ r = cl.length) XN σ [xr (some a)] :=
  e_Drf_conflictCount (b_Drf_conflictCount_0 ⟨hS.2.1, fun _ => r_Drf_conflictCount_4 ⟨_, rfl, rfl, hC.1⟩ (by decide) (by decide)⟩)
theorem k_Drf_unsettled {σ : Sto} {oc : Int} (hS : DrS σ a) (ho : fI σ 202 a = oc) : MC Ω M_Drf_unsettled rm_Drf_unsettled (RI fun r σ' => σ' = σ ∧ r = oc) XN σ [xr (some a)] :=
  e_Drf_unsettled (b_Drf_unsettled_0 ⟨hS.2.1, fun _ => r_Drf_unsettled_4 ⟨_, rfl, rfl, ho⟩ (by decide) (by decide)⟩)
theorem DrC.at {σ : Sto} (hC : DrC σ a cl) {i : Nat} {c : Cnl} (h : cl[i]? = some c) : i < 21 ∧ CfV σ (a + 65 + 3 * i) c := by
  have hl := (List.getElem?_eq_some_iff.mp h).1
  have := hC.2.1
  obtain ⟨c', g1, g2⟩ := hC.2.2 i (by omega)
  rw [g2 c h]; exact ⟨by omega, g1⟩
theorem k_Drf_isSettled {σ : Sto} {i : Nat} {c : Cnl} (hS : DrS σ a) (hC : DrC σ a cl) (hi : cl[i]? = some c) : MC Ω M_Drf_isSettled rm_Drf_isSettled (RI fun r σ' => σ' = σ ∧ Bz r (cnS c ≠ 0)) XN σ [xr (some a), xi i] := by
  obtain ⟨h0, h1, f0, f1, f2, f3, f4, f5, k1, z1, r1, c1, c2⟩ := hS
  have hl := (List.getElem?_eq_some_iff.mp hi).1
  have hc := hC.at hi
  have e9 := hc.2.2.2.2.2.2.2.2.2.2.1
  refine e_Drf_isSettled (b_Drf_isSettled_0 ⟨by omega, fun c => absurd c (by omega), fun _ => ⟨h1, fun _ => ⟨fun c => absurd c (by rw [hC.1]; omega), fun _ => ⟨_, f2, k1, by omega, by omega, _, r1 i hc.1, hc.2.2.1, fun _ => ⟨fun c3 => ?_, fun c3 => ?_⟩⟩⟩⟩⟩)
  · exact r_Drf_isSettled_29 (Or.inl rfl) ⟨_, rfl, rfl, Or.inr ⟨rfl, fun z => z (e9.symm.trans c3)⟩⟩ (by decide) (by decide)
  · exact r_Drf_isSettled_29 (Or.inr rfl) ⟨_, rfl, rfl, Or.inl ⟨rfl, fun z => c3 (e9.trans z)⟩⟩ (by decide) (by decide)
def cnZ (c : Cnl) (i : Int) : Int := if 0 ≤ i ∧ i ≤ 2 then cnT c i.toNat - cnF c i.toNat else 0
/-- how many lines a way to settle puts in -/
def cnL (c : Cnl) (how : Int) : Int := if how = 3 ∨ how = 4 then cnZ c 0 + cnZ c 1 else cnZ c how
theorem k_Drf_linesPut {σ : Sto} {i : Nat} {c : Cnl} {how : Int} (hS : DrS σ a) (hC : DrC σ a cl) (hi : cl[i]? = some c) (hh : Q32 how) : MC Ω M_Drf_linesPut rm_Drf_linesPut (RI fun r σ' => σ' = σ ∧ r = cnL c how) XN σ [xr (some a), xi i, xi how] := by
  obtain ⟨h0, h1, f0, f1, f2, f3, f4, f5, k1, z1, r1, c1, c2⟩ := hS
  have hl := (List.getElem?_eq_some_iff.mp hi).1
  have hc := hC.at hi
  have ra := r1 i hc.1
  have both : how = 3 ∨ how = 4 → Aw Ω M_Drf_linesPut rm_Drf_linesPut (MF Ω rm_Drf_linesPut (RI fun r σ' => σ' = σ ∧ r = cnL c how) XN) 0 0 33 [xr (some a), xi i, xi how, xr (some (a + 65 + 3 * i))] [xi 0, xr (some (a + 65 + 3 * i))] σ := fun hh2 => by
    refine c_Drf_linesPut_33 (k_Cnf_pieceSize hc.2 (by decide)) hc.2.2.1 (by decide) (by decide) (by first | decide | omega) (by first | decide | omega) (Nat.le_of_ble_eq_true rfl) (fun z σ1 hq => ?_) (fun _ _ hx => hx.elim)
    obtain ⟨rfl, rfl⟩ := hq
    refine b_Drf_linesPut_36 ?_
    refine c_Drf_linesPut_38 (k_Cnf_pieceSize hc.2 (by decide)) hc.2.2.1 (by decide) (by decide) (by first | decide | omega) (by first | decide | omega) (Nat.le_of_ble_eq_true rfl) (fun z2 σ2 hq => ?_) (fun _ _ hx => hx.elim)
    obtain ⟨rfl, rfl⟩ := hq
    refine b_Drf_linesPut_41 ?_
    refine r_Drf_linesPut_42 ⟨_, rfl, rfl, ?_⟩ (by decide) (by decide)
    rw [show cnL c how = cnZ c 0 + cnZ c 1 from if_pos hh2]; rfl
  refine e_Drf_linesPut (b_Drf_linesPut_0 ⟨by omega, fun c => absurd c (by omega), fun _ => ⟨h1, fun _ => ⟨fun _ => ⟨_, f2, k1, by omega, by omega, hh, fun c3 => ?_, fun c3 => ⟨fun c4 => ?_, fun c4 => ?_⟩⟩, fun c => absurd (show (i : Int) < fI σ 201 a by rw [hC.1]; omega) c⟩⟩⟩)
  · rw [show aR σ (a + 5) ((i : Int)).toNat = some (a + 65 + 3 * i) from ra]
    exact both (Or.inl c3)
  · rw [show aR σ (a + 5) ((i : Int)).toNat = some (a + 65 + 3 * i) from ra]
    refine c_Drf_linesPut_45 (k_Cnf_pieceSize hc.2 hh) hc.2.2.1 (by decide) (by decide) (by first | decide | omega) (by first | decide | omega) (Nat.le_of_ble_eq_true rfl) (fun z σ1 hq => ?_) (fun _ _ hx => hx.elim)
    obtain ⟨rfl, rfl⟩ := hq
    refine r_Drf_linesPut_48 ⟨_, rfl, rfl, ?_⟩ (by decide) (by decide)
    rw [show cnL c how = cnZ c how from if_neg (fun z => z.elim c3 c4)]; rfl
  · rw [show aR σ (a + 5) ((i : Int)).toNat = some (a + 65 + 3 * i) from ra]
    exact both (Or.inr c4)
end DRF
