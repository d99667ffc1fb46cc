/-! THE ABSTRACT MACHINE, 1: values, the store, what it says of the heap -/
abbrev PV : Type := Int ⊕ Int64 ⊕ Option Nat ⊕ Unit
abbrev xi (x : Int) : PV := Sum.inl x
abbrev xl (x : Int64) : PV := Sum.inr (Sum.inl x)
abbrev xr (r : Option Nat) : PV := Sum.inr (Sum.inr (Sum.inl r))
abbrev xu : PV := Sum.inr (Sum.inr (Sum.inr ()))
def xV : PV → Value
  | .inl x => .int (Int32.ofInt x)
  | .inr (.inl x) => .long x
  | .inr (.inr (.inl r)) => va_rf r
  | .inr (.inr (.inr _)) => .null
def isU : PV → Bool
  | .inr (.inr (.inr _)) => true
  | _ => false
def isL : PV → Bool
  | .inr (.inl _) => true
  | _ => false
theorem xV_i (x : Int) : xV (xi x) = .int (Int32.ofInt x) := rfl
theorem xV_l (x : Int64) : xV (xl x) = .long x := rfl
theorem xV_r (r : Option Nat) : xV (xr r) = va_rf r := rfl
theorem xV_ra (a : Nat) : xV (xr (some a)) = .ref a := rfl
theorem xV_rn : xV (xr none) = .null := rfl
theorem va_rf_cat (r : Option Nat) : (va_rf r).category = 1 := by cases r <;> rfl
theorem xV_cat1 {v : PV} (h : isL v = false) : (xV v).category = 1 := by
  match v, h with
  | .inl _, _ => rfl
  | .inr (.inr (.inl r)), _ => exact va_rf_cat r
  | .inr (.inr (.inr _)), _ => rfl
theorem xV_cat2 {v : PV} (h : isL v = true) : (xV v).category = 2 := by
  match v, h with
  | .inr (.inl _), _ => rfl
def R32 (x : Int) : Prop := -2147483648 ≤ x ∧ x < 2147483648
theorem R32.toInt {x : Int} (h : R32 x) : (Int32.ofInt x).toInt = x := Int32.toInt_ofInt_of_le (by have := h.1; simpa using this) (by have := h.2; omega)
theorem R32.eq {x y : Int} (h : R32 x) (g : R32 y) : Int32.ofInt x = Int32.ofInt y ↔ x = y := by
  refine ⟨fun e => ?_, fun e => by rw [e]⟩
  have := congrArg Int32.toInt e
  rwa [h.toInt, g.toInt] at this
theorem R32.lt {x y : Int} (h : R32 x) (g : R32 y) : Int32.ofInt x < Int32.ofInt y ↔ x < y := by
  rw [Int32.lt_iff_toInt_lt, h.toInt, g.toInt]
theorem R32.le {x y : Int} (h : R32 x) (g : R32 y) : Int32.ofInt x ≤ Int32.ofInt y ↔ x ≤ y := by
  rw [Int32.le_iff_toInt_le, h.toInt, g.toInt]
theorem R32.of (x : Int32) : R32 x.toInt := ⟨by have := x.le_toInt; simpa using this, by have := x.toInt_lt; simpa using this⟩
theorem ofInt_toInt (x : Int32) : Int32.ofInt x.toInt = x := by simp
theorem R32.zero {x : Int} (h : R32 x) : Int32.ofInt x = 0 ↔ x = 0 := h.eq (y := 0) ⟨by decide, by decide⟩
theorem R32.ix {x : Int} (h0 : 0 ≤ x) (h : x < 2147483648) : (Int32.ofInt x).toNatClampNeg = x.toNat := by
  show (Int32.ofInt x).toInt.toNat = _
  rw [R32.toInt ⟨by omega, h⟩]
/-! the store -/
abbrev Sto : Type := Nat × (Nat → Nat) × (Nat → Nat) × (Nat → Nat → Int) × (Nat → Nat → Int64) × (Nat → Nat → Option Nat) × (Nat → Nat → Int) × (Nat → Nat → Int64) × (Nat → Nat → Option Nat)
def sN (σ : Sto) : Nat := σ.1
def sK (σ : Sto) : Nat → Nat := σ.2.1
def sZ (σ : Sto) : Nat → Nat := σ.2.2.1
def fI (σ : Sto) : Nat → Nat → Int := σ.2.2.2.1
def fL (σ : Sto) : Nat → Nat → Int64 := σ.2.2.2.2.1
def fR (σ : Sto) : Nat → Nat → Option Nat := σ.2.2.2.2.2.1
def aI (σ : Sto) : Nat → Nat → Int := σ.2.2.2.2.2.2.1
def aL (σ : Sto) : Nat → Nat → Int64 := σ.2.2.2.2.2.2.2.1
def aR (σ : Sto) : Nat → Nat → Option Nat := σ.2.2.2.2.2.2.2.2
def up2 {α : Type} (g : Nat → Nat → α) (f a : Nat) (v : α) : Nat → Nat → α := fun f' a' => if f' = f ∧ a' = a then v else g f' a'
def up1 {α : Type} (g : Nat → α) (a : Nat) (v : α) : Nat → α := fun a' => if a' = a then v else g a'
def uI (σ : Sto) (f a : Nat) (v : Int) : Sto := (sN σ, sK σ, sZ σ, up2 (fI σ) f a v, fL σ, fR σ, aI σ, aL σ, aR σ)
def uL (σ : Sto) (f a : Nat) (v : Int64) : Sto := (sN σ, sK σ, sZ σ, fI σ, up2 (fL σ) f a v, fR σ, aI σ, aL σ, aR σ)
def uR (σ : Sto) (f a : Nat) (v : Option Nat) : Sto := (sN σ, sK σ, sZ σ, fI σ, fL σ, up2 (fR σ) f a v, aI σ, aL σ, aR σ)
def vI (σ : Sto) (a i : Nat) (v : Int) : Sto := (sN σ, sK σ, sZ σ, fI σ, fL σ, fR σ, up2 (aI σ) a i v, aL σ, aR σ)
def vL (σ : Sto) (a i : Nat) (v : Int64) : Sto := (sN σ, sK σ, sZ σ, fI σ, fL σ, fR σ, aI σ, up2 (aL σ) a i v, aR σ)
def vR (σ : Sto) (a i : Nat) (v : Option Nat) : Sto := (sN σ, sK σ, sZ σ, fI σ, fL σ, fR σ, aI σ, aL σ, up2 (aR σ) a i v)
/-- a new cell of a kind, of a length, with nothing in it -/
def nO (σ : Sto) (k z : Nat) : Sto := (sN σ + 1, up1 (sK σ) (sN σ) k, up1 (sZ σ) (sN σ) z, (fun f a => if a = sN σ then 0 else fI σ f a), (fun f a => if a = sN σ then 0 else fL σ f a), (fun f a => if a = sN σ then none else fR σ f a), up1 (aI σ) (sN σ) (fun _ => 0), up1 (aL σ) (sN σ) (fun _ => 0), up1 (aR σ) (sN σ) (fun _ => none))
/-- cells of which nothing is known, up to n -/
def nX (σ : Sto) (n : Nat) : Sto := (n, sK σ, sZ σ, fI σ, fL σ, fR σ, aI σ, aL σ, aR σ)
/-! the classes and the kinds of arrays -/
abbrev Om : Type := Launch × va_G × (Nat → ClassId) × Heap × (String → Nat → Nat) × Nat × Nat × Nat × (Nat → Int32)
abbrev oL (Ω : Om) : Launch := Ω.1
abbrev oD (Ω : Om) : va_G := Ω.2.1
abbrev oT (Ω : Om) : Nat → ClassId := Ω.2.2.1
abbrev oH (Ω : Om) : Heap := Ω.2.2.2.1
abbrev oS (Ω : Om) : String → Nat → Nat := Ω.2.2.2.2.1
abbrev oE (Ω : Om) : Nat := Ω.2.2.2.2.2.1
abbrev oA (Ω : Om) : Nat → Prop := fun q => (oH Ω).size ≤ q
