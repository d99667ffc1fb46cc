/-! ranges, as omega reads them -/
abbrev Q32 (x : Int) : Prop := -2147483648 ≤ x ∧ x < 2147483648
theorem q32_try {x y : Int} (h : Q32 x) (hy : 0 ≤ y) (g : y < x) : Q32 (y + 1) := by omega
section DER
variable {Ω : Om} {M : MI} {R : Room} {F : QF} {k n pc : Nat} {L st : List PV} {σ : Sto} {r : Option Nat} {b : Nat} {v w : PV}
theorem Aw.der0 (e : r = some b) (h : Aw Ω M R F k n pc L (xr (some b) :: st) σ) : Aw Ω M R F k n pc L (xr r :: st) σ := e ▸ h
theorem Aw.der1 (e : r = some b) (h : Aw Ω M R F k n pc L (v :: xr (some b) :: st) σ) : Aw Ω M R F k n pc L (v :: xr r :: st) σ := e ▸ h
theorem Aw.der2 (e : r = some b) (h : Aw Ω M R F k n pc L (v :: w :: xr (some b) :: st) σ) : Aw Ω M R F k n pc L (v :: w :: xr r :: st) σ := e ▸ h
end DER
/-- fewer known locals -/
def wkL : List PV → List PV → Prop
  | [], [] => True
  | x :: l, y :: l' => (y = xu ∨ y = x) ∧ wkL l l'
  | _, _ => False
theorem wkL_len : ∀ L L' : List PV, wkL L L' → L'.length = L.length
  | [], [], _ => rfl
  | _ :: l, _ :: l', h => by rw [List.length_cons, List.length_cons, wkL_len l l' h.2]
  | [], _ :: _, h => h.elim
  | _ :: _, [], h => h.elim
theorem wkL_get : ∀ (L L' : List PV), wkL L L' → ∀ (i : Nat) (v : PV), L'[i]? = some v → isU v = false → L[i]? = some v
  | [], [], _, i, v, h, _ => by simp at h
  | x :: l, y :: l', h, 0, v, hv, hu => by
    rw [List.getElem?_cons_zero] at hv ⊢
    cases hv
    rcases h.1 with e | e
    · rw [e] at hu; cases hu
    · rw [e]
  | x :: l, y :: l', h, i + 1, v, hv, hu => by
    rw [List.getElem?_cons_succ] at hv ⊢
    exact wkL_get l l' h.2 i v hv hu
  | [], _ :: _, h, _, _, _, _ => h.elim
  | _ :: _, [], h, _, _, _, _ => h.elim
theorem Aw.toW {Ω : Om} {M : MI} {R : Room} {F : QF} {k n pc : Nat} {L L' st : List PV} {σ : Sto} (w : wkL L L') (h : Aw Ω M R F k n pc L' st σ) : Aw Ω M R F k n pc L st σ := by
  intro p e s m args below meth c H locs ls B hR hS hL
  exact h p e s m args below meth c H locs ls B hR hS ⟨(wkL_len L L' w).trans hL.1, hL.2.1, hL.2.2.1, fun i v hv hu => hL.2.2.2 i v (wkL_get L L' w i v hv hu) hu⟩
