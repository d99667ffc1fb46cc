/-! ranges, as omega reads them -/
abbrev Q32 (x : Int) : Prop := -2147483648 ≤ x ∧ x < 2147483648
theorem q32_try {x y : Int} (h : Q32 x) (hy : 0 ≤ y) (g : y < x) : Q32 (y + 1) := by omega
section DER
variable {Ω : Om} {M : MI} {R : Room} {F : QF} {k n pc : Nat} {L st : List PV} {σ : Sto} {r : Option Nat} {b : Nat} {v w : PV}
theorem Aw.der0 (e : r = some b) (h : Aw Ω M R F k n pc L (xr (some b) :: st) σ) : Aw Ω M R F k n pc L (xr r :: st) σ := e ▸ h
theorem Aw.der1 (e : r = some b) (h : Aw Ω M R F k n pc L (v :: xr (some b) :: st) σ) : Aw Ω M R F k n pc L (v :: xr r :: st) σ := e ▸ h
theorem Aw.der2 (e : r = some b) (h : Aw Ω M R F k n pc L (v :: w :: xr (some b) :: st) σ) : Aw Ω M R F k n pc L (v :: w :: xr r :: st) σ := e ▸ h
end DER
