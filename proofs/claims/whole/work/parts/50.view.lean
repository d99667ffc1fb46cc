/-! BY HAND: reads behind writes; what stays -/
theorem fI_uI (σ : Sto) (f a : Nat) (v : Int) (x y : Nat) : fI (uI σ f a v) x y = if x = f ∧ y = a then v else fI σ x y := Eq.trans rfl rfl
theorem fL_uI (σ : Sto) (f a : Nat) (v : Int) : fL (uI σ f a v) = fL σ := Eq.trans rfl rfl
theorem fR_uI (σ : Sto) (f a : Nat) (v : Int) : fR (uI σ f a v) = fR σ := Eq.trans rfl rfl
theorem aI_uI (σ : Sto) (f a : Nat) (v : Int) : aI (uI σ f a v) = aI σ := Eq.trans rfl rfl
theorem aL_uI (σ : Sto) (f a : Nat) (v : Int) : aL (uI σ f a v) = aL σ := Eq.trans rfl rfl
theorem aR_uI (σ : Sto) (f a : Nat) (v : Int) : aR (uI σ f a v) = aR σ := Eq.trans rfl rfl
theorem sK_uI (σ : Sto) (f a : Nat) (v : Int) : sK (uI σ f a v) = sK σ := Eq.trans rfl rfl
theorem sZ_uI (σ : Sto) (f a : Nat) (v : Int) : sZ (uI σ f a v) = sZ σ := Eq.trans rfl rfl
theorem sN_uI (σ : Sto) (f a : Nat) (v : Int) : sN (uI σ f a v) = sN σ := Eq.trans rfl rfl
theorem fI_uL (σ : Sto) (f a : Nat) (v : Int64) : fI (uL σ f a v) = fI σ := Eq.trans rfl rfl
theorem fL_uL (σ : Sto) (f a : Nat) (v : Int64) (x y : Nat) : fL (uL σ f a v) x y = if x = f ∧ y = a then v else fL σ x y := Eq.trans rfl rfl
theorem fR_uL (σ : Sto) (f a : Nat) (v : Int64) : fR (uL σ f a v) = fR σ := Eq.trans rfl rfl
theorem aI_uL (σ : Sto) (f a : Nat) (v : Int64) : aI (uL σ f a v) = aI σ := Eq.trans rfl rfl
theorem aL_uL (σ : Sto) (f a : Nat) (v : Int64) : aL (uL σ f a v) = aL σ := Eq.trans rfl rfl
theorem aR_uL (σ : Sto) (f a : Nat) (v : Int64) : aR (uL σ f a v) = aR σ := Eq.trans rfl rfl
theorem sK_uL (σ : Sto) (f a : Nat) (v : Int64) : sK (uL σ f a v) = sK σ := Eq.trans rfl rfl
theorem sZ_uL (σ : Sto) (f a : Nat) (v : Int64) : sZ (uL σ f a v) = sZ σ := Eq.trans rfl rfl
theorem sN_uL (σ : Sto) (f a : Nat) (v : Int64) : sN (uL σ f a v) = sN σ := Eq.trans rfl rfl
theorem fI_uR (σ : Sto) (f a : Nat) (v : Option Nat) : fI (uR σ f a v) = fI σ := Eq.trans rfl rfl
theorem fL_uR (σ : Sto) (f a : Nat) (v : Option Nat) : fL (uR σ f a v) = fL σ := Eq.trans rfl rfl
theorem fR_uR (σ : Sto) (f a : Nat) (v : Option Nat) (x y : Nat) : fR (uR σ f a v) x y = if x = f ∧ y = a then v else fR σ x y := Eq.trans rfl rfl
theorem aI_uR (σ : Sto) (f a : Nat) (v : Option Nat) : aI (uR σ f a v) = aI σ := Eq.trans rfl rfl
theorem aL_uR (σ : Sto) (f a : Nat) (v : Option Nat) : aL (uR σ f a v) = aL σ := Eq.trans rfl rfl
theorem aR_uR (σ : Sto) (f a : Nat) (v : Option Nat) : aR (uR σ f a v) = aR σ := Eq.trans rfl rfl
theorem sK_uR (σ : Sto) (f a : Nat) (v : Option Nat) : sK (uR σ f a v) = sK σ := Eq.trans rfl rfl
theorem sZ_uR (σ : Sto) (f a : Nat) (v : Option Nat) : sZ (uR σ f a v) = sZ σ := Eq.trans rfl rfl
theorem sN_uR (σ : Sto) (f a : Nat) (v : Option Nat) : sN (uR σ f a v) = sN σ := Eq.trans rfl rfl
theorem fI_vI (σ : Sto) (a i : Nat) (v : Int) : fI (vI σ a i v) = fI σ := Eq.trans rfl rfl
theorem fL_vI (σ : Sto) (a i : Nat) (v : Int) : fL (vI σ a i v) = fL σ := Eq.trans rfl rfl
theorem fR_vI (σ : Sto) (a i : Nat) (v : Int) : fR (vI σ a i v) = fR σ := Eq.trans rfl rfl
theorem aI_vI (σ : Sto) (a i : Nat) (v : Int) (x y : Nat) : aI (vI σ a i v) x y = if x = a ∧ y = i then v else aI σ x y := Eq.trans rfl rfl
theorem aL_vI (σ : Sto) (a i : Nat) (v : Int) : aL (vI σ a i v) = aL σ := Eq.trans rfl rfl
theorem aR_vI (σ : Sto) (a i : Nat) (v : Int) : aR (vI σ a i v) = aR σ := Eq.trans rfl rfl
theorem sK_vI (σ : Sto) (a i : Nat) (v : Int) : sK (vI σ a i v) = sK σ := Eq.trans rfl rfl
theorem sZ_vI (σ : Sto) (a i : Nat) (v : Int) : sZ (vI σ a i v) = sZ σ := Eq.trans rfl rfl
theorem sN_vI (σ : Sto) (a i : Nat) (v : Int) : sN (vI σ a i v) = sN σ := Eq.trans rfl rfl
theorem fI_vL (σ : Sto) (a i : Nat) (v : Int64) : fI (vL σ a i v) = fI σ := Eq.trans rfl rfl
theorem fL_vL (σ : Sto) (a i : Nat) (v : Int64) : fL (vL σ a i v) = fL σ := Eq.trans rfl rfl
theorem fR_vL (σ : Sto) (a i : Nat) (v : Int64) : fR (vL σ a i v) = fR σ := Eq.trans rfl rfl
theorem aI_vL (σ : Sto) (a i : Nat) (v : Int64) : aI (vL σ a i v) = aI σ := Eq.trans rfl rfl
theorem aL_vL (σ : Sto) (a i : Nat) (v : Int64) (x y : Nat) : aL (vL σ a i v) x y = if x = a ∧ y = i then v else aL σ x y := Eq.trans rfl rfl
theorem aR_vL (σ : Sto) (a i : Nat) (v : Int64) : aR (vL σ a i v) = aR σ := Eq.trans rfl rfl
theorem sK_vL (σ : Sto) (a i : Nat) (v : Int64) : sK (vL σ a i v) = sK σ := Eq.trans rfl rfl
theorem sZ_vL (σ : Sto) (a i : Nat) (v : Int64) : sZ (vL σ a i v) = sZ σ := Eq.trans rfl rfl
theorem sN_vL (σ : Sto) (a i : Nat) (v : Int64) : sN (vL σ a i v) = sN σ := Eq.trans rfl rfl
theorem fI_vR (σ : Sto) (a i : Nat) (v : Option Nat) : fI (vR σ a i v) = fI σ := Eq.trans rfl rfl
theorem fL_vR (σ : Sto) (a i : Nat) (v : Option Nat) : fL (vR σ a i v) = fL σ := Eq.trans rfl rfl
theorem fR_vR (σ : Sto) (a i : Nat) (v : Option Nat) : fR (vR σ a i v) = fR σ := Eq.trans rfl rfl
theorem aI_vR (σ : Sto) (a i : Nat) (v : Option Nat) : aI (vR σ a i v) = aI σ := Eq.trans rfl rfl
theorem aL_vR (σ : Sto) (a i : Nat) (v : Option Nat) : aL (vR σ a i v) = aL σ := Eq.trans rfl rfl
theorem aR_vR (σ : Sto) (a i : Nat) (v : Option Nat) (x y : Nat) : aR (vR σ a i v) x y = if x = a ∧ y = i then v else aR σ x y := Eq.trans rfl rfl
theorem sK_vR (σ : Sto) (a i : Nat) (v : Option Nat) : sK (vR σ a i v) = sK σ := Eq.trans rfl rfl
theorem sZ_vR (σ : Sto) (a i : Nat) (v : Option Nat) : sZ (vR σ a i v) = sZ σ := Eq.trans rfl rfl
theorem sN_vR (σ : Sto) (a i : Nat) (v : Option Nat) : sN (vR σ a i v) = sN σ := Eq.trans rfl rfl
theorem fI_nX (σ : Sto) (n : Nat) : fI (nX σ n) = fI σ := Eq.trans rfl rfl
theorem fL_nX (σ : Sto) (n : Nat) : fL (nX σ n) = fL σ := Eq.trans rfl rfl
theorem fR_nX (σ : Sto) (n : Nat) : fR (nX σ n) = fR σ := Eq.trans rfl rfl
theorem aI_nX (σ : Sto) (n : Nat) : aI (nX σ n) = aI σ := Eq.trans rfl rfl
theorem aL_nX (σ : Sto) (n : Nat) : aL (nX σ n) = aL σ := Eq.trans rfl rfl
theorem aR_nX (σ : Sto) (n : Nat) : aR (nX σ n) = aR σ := Eq.trans rfl rfl
theorem sK_nX (σ : Sto) (n : Nat) : sK (nX σ n) = sK σ := Eq.trans rfl rfl
theorem sZ_nX (σ : Sto) (n : Nat) : sZ (nX σ n) = sZ σ := Eq.trans rfl rfl
theorem sN_nX (σ : Sto) (n : Nat) : sN (nX σ n) = n := rfl
theorem fI_nO (σ : Sto) (k z f a : Nat) : fI (nO σ k z) f a = if a = sN σ then 0 else fI σ f a := Eq.trans rfl rfl
theorem fL_nO (σ : Sto) (k z f a : Nat) : fL (nO σ k z) f a = if a = sN σ then 0 else fL σ f a := Eq.trans rfl rfl
theorem fR_nO (σ : Sto) (k z f a : Nat) : fR (nO σ k z) f a = if a = sN σ then none else fR σ f a := Eq.trans rfl rfl
theorem aI_nO (σ : Sto) (k z a : Nat) : aI (nO σ k z) a = if a = sN σ then (fun _ => 0) else aI σ a := Eq.trans rfl rfl
theorem aL_nO (σ : Sto) (k z a : Nat) : aL (nO σ k z) a = if a = sN σ then (fun _ => 0) else aL σ a := Eq.trans rfl rfl
theorem aR_nO (σ : Sto) (k z a : Nat) : aR (nO σ k z) a = if a = sN σ then (fun _ => none) else aR σ a := Eq.trans rfl rfl
theorem sK_nO (σ : Sto) (k z a : Nat) : sK (nO σ k z) a = if a = sN σ then k else sK σ a := rfl
theorem sZ_nO (σ : Sto) (k z a : Nat) : sZ (nO σ k z) a = if a = sN σ then z else sZ σ a := rfl
theorem sN_nO (σ : Sto) (k z : Nat) : sN (nO σ k z) = sN σ + 1 := rfl
def Same1 (σ σ' : Sto) (a : Nat) : Prop := sK σ' a = sK σ a ∧ sZ σ' a = sZ σ a ∧ (∀ f, fI σ' f a = fI σ f a) ∧ (∀ f, fL σ' f a = fL σ f a) ∧ (∀ f, fR σ' f a = fR σ f a) ∧ aI σ' a = aI σ a ∧ aL σ' a = aL σ a ∧ aR σ' a = aR σ a
def Keep (σ σ' : Sto) (P : Nat → Prop) : Prop := sN σ ≤ sN σ' ∧ ∀ a, a < sN σ → ¬ P a → Same1 σ σ' a
abbrev In (lo hi : Nat) : Nat → Prop := fun b => lo ≤ b ∧ b < hi
theorem Same1.rf {σ : Sto} {a : Nat} : Same1 σ σ a := ⟨rfl, rfl, fun _ => rfl, fun _ => rfl, fun _ => rfl, rfl, rfl, rfl⟩
theorem Same1.trans {σ σ1 σ2 : Sto} {a : Nat} (h : Same1 σ σ1 a) (g : Same1 σ1 σ2 a) : Same1 σ σ2 a := by
  obtain ⟨h1, h2, h3, h4, h5, h6, h7, h8⟩ := h
  obtain ⟨g1, g2, g3, g4, g5, g6, g7, g8⟩ := g
  exact ⟨g1.trans h1, g2.trans h2, fun f => (g3 f).trans (h3 f), fun f => (g4 f).trans (h4 f), fun f => (g5 f).trans (h5 f), g6.trans h6, g7.trans h7, g8.trans h8⟩
theorem Keep.rf {σ : Sto} {P : Nat → Prop} : Keep σ σ P := ⟨Nat.le_refl _, fun _ _ _ => Same1.rf⟩
theorem Keep.trans {σ σ1 σ2 : Sto} {P : Nat → Prop} (h : Keep σ σ1 P) (g : Keep σ1 σ2 P) : Keep σ σ2 P :=
  ⟨Nat.le_trans h.1 g.1, fun a h1 h2 => (h.2 a h1 h2).trans (g.2 a (Nat.lt_of_lt_of_le h1 h.1) h2)⟩
theorem Keep.tr {σ σ1 σ2 : Sto} {P Q : Nat → Prop} (h : Keep σ σ1 P) (g : Keep σ1 σ2 Q) (hQ : ∀ a, a < sN σ → Q a → P a) : Keep σ σ2 P :=
  ⟨Nat.le_trans h.1 g.1, fun a h1 h2 => (h.2 a h1 h2).trans (g.2 a (Nat.lt_of_lt_of_le h1 h.1) (fun z => h2 (hQ a h1 z)))⟩
abbrev No : Nat → Prop := fun _ => False
abbrev At1 (q : Nat) : Nat → Prop := fun b => b = q
theorem Keep.mono {σ σ' : Sto} {P Q : Nat → Prop} (h : Keep σ σ' P) (g : ∀ a, a < sN σ → P a → Q a) : Keep σ σ' Q := ⟨h.1, fun a h1 h2 => h.2 a h1 (fun z => h2 (g a h1 z))⟩
theorem Keep.uI {σ : Sto} {P : Nat → Prop} {f a : Nat} {v : Int} (h : P a) : Keep σ (uI σ f a v) P :=
  ⟨Nat.le_refl _, fun b _ hb => by
    have e : b ≠ a := fun z => hb (z ▸ h)
    refine ⟨rfl, rfl, fun g => ?_, fun _ => rfl, fun _ => rfl, rfl, rfl, rfl⟩
    rw [fI_uI, if_neg (fun z => e z.2)]⟩
theorem Keep.uL {σ : Sto} {P : Nat → Prop} {f a : Nat} {v : Int64} (h : P a) : Keep σ (uL σ f a v) P :=
  ⟨Nat.le_refl _, fun b _ hb => by
    have e : b ≠ a := fun z => hb (z ▸ h)
    refine ⟨rfl, rfl, fun _ => rfl, fun g => ?_, fun _ => rfl, rfl, rfl, rfl⟩
    rw [fL_uL, if_neg (fun z => e z.2)]⟩
theorem Keep.uR {σ : Sto} {P : Nat → Prop} {f a : Nat} {v : Option Nat} (h : P a) : Keep σ (uR σ f a v) P :=
  ⟨Nat.le_refl _, fun b _ hb => by
    have e : b ≠ a := fun z => hb (z ▸ h)
    refine ⟨rfl, rfl, fun _ => rfl, fun _ => rfl, fun g => ?_, rfl, rfl, rfl⟩
    rw [fR_uR, if_neg (fun z => e z.2)]⟩
theorem Keep.vI {σ : Sto} {P : Nat → Prop} {a i : Nat} {v : Int} (h : P a) : Keep σ (vI σ a i v) P :=
  ⟨Nat.le_refl _, fun b _ hb => by
    have e : b ≠ a := fun z => hb (z ▸ h)
    refine ⟨rfl, rfl, fun _ => rfl, fun _ => rfl, fun _ => rfl, ?_, rfl, rfl⟩
    funext j; rw [aI_vI, if_neg (fun z => e z.1)]⟩
theorem Keep.vL {σ : Sto} {P : Nat → Prop} {a i : Nat} {v : Int64} (h : P a) : Keep σ (vL σ a i v) P :=
  ⟨Nat.le_refl _, fun b _ hb => by
    have e : b ≠ a := fun z => hb (z ▸ h)
    refine ⟨rfl, rfl, fun _ => rfl, fun _ => rfl, fun _ => rfl, rfl, ?_, rfl⟩
    funext j; rw [aL_vL, if_neg (fun z => e z.1)]⟩
theorem Keep.vR {σ : Sto} {P : Nat → Prop} {a i : Nat} {v : Option Nat} (h : P a) : Keep σ (vR σ a i v) P :=
  ⟨Nat.le_refl _, fun b _ hb => by
    have e : b ≠ a := fun z => hb (z ▸ h)
    refine ⟨rfl, rfl, fun _ => rfl, fun _ => rfl, fun _ => rfl, rfl, rfl, ?_⟩
    funext j; rw [aR_vR, if_neg (fun z => e z.1)]⟩
theorem Keep.nO {σ : Sto} {P : Nat → Prop} {k z : Nat} : Keep σ (nO σ k z) P :=
  ⟨Nat.le_succ _, fun b hl _ => by
    have e : b ≠ sN σ := by omega
    refine ⟨?_, ?_, fun g => ?_, fun g => ?_, fun g => ?_, ?_, ?_, ?_⟩
    · rw [sK_nO, if_neg e]
    · rw [sZ_nO, if_neg e]
    · rw [fI_nO, if_neg e]
    · rw [fL_nO, if_neg e]
    · rw [fR_nO, if_neg e]
    · rw [aI_nO, if_neg e]
    · rw [aL_nO, if_neg e]
    · rw [aR_nO, if_neg e]⟩
theorem Keep.nX {σ : Sto} {P : Nat → Prop} {n : Nat} (h : sN σ ≤ n) : Keep σ (nX σ n) P := ⟨h, fun _ _ _ => Same1.rf⟩
/-! a text: its lines' signs and names -/
def Tx (σ : Sto) (a : Nat) (T : List (Int64 × Int)) : Prop :=
  a + 2 < sN σ ∧ sK σ a = 10 ∧ fR σ 576 a = some (a + 1) ∧ fR σ 577 a = some (a + 2) ∧ sK σ (a + 1) = 51 ∧ sK σ (a + 2) = 50 ∧ sZ σ (a + 1) = 40 ∧ sZ σ (a + 2) = 40 ∧ fI σ 578 a = T.length ∧ T.length ≤ 40 ∧ ∀ i x, T[i]? = some x → aL σ (a + 1) i = x.1 ∧ aI σ (a + 2) i = x.2
theorem Tx.keep {σ σ' : Sto} {a : Nat} {T : List (Int64 × Int)} {P : Nat → Prop} (h : Tx σ a T) (k : Keep σ σ' P) (d : ∀ b, a ≤ b → b ≤ a + 2 → ¬ P b) : Tx σ' a T := by
  obtain ⟨h1, h2, h3, h4, h5, h6, h7, h8, h9, h10, h11⟩ := h
  have k0 := k.2 a (by omega) (d a (by omega) (by omega))
  have k1 := k.2 (a + 1) (by omega) (d _ (by omega) (by omega))
  have k2 := k.2 (a + 2) (by omega) (d _ (by omega) (by omega))
  refine ⟨Nat.lt_of_lt_of_le h1 k.1, k0.1.trans h2, (k0.2.2.2.2.1 _).trans h3, (k0.2.2.2.2.1 _).trans h4, k1.1.trans h5, k2.1.trans h6, k1.2.1.trans h7, k2.2.1.trans h8, (k0.2.2.1 _).trans h9, h10, fun i x hx => ?_⟩
  rw [k1.2.2.2.2.2.2.1, k2.2.2.2.2.2.1]
  exact h11 i x hx
