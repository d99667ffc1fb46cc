/-! BY HAND: a list of edits: what a store holds of it -/
def LsA (Ω : Om) (σ : Sto) (lo d : Nat) (es : List Nat) : Prop := (d = oE Ω ∧ d < lo ∧ es = []) ∨ (lo ≤ d ∧ d < sN σ ∧ sK σ d = 59 ∧ 10 ≤ sZ σ d ∧ sZ σ d ≤ 100000 ∧ es.length ≤ sZ σ d ∧ ∀ i e, es[i]? = some e → aR σ d i = some e)
def Ls (Ω : Om) (σ : Sto) (lo l d : Nat) (es : List Nat) : Prop := l < lo ∧ l < sN σ ∧ sK σ l = 14 ∧ fR σ 832 l = some d ∧ fI σ 833 l = es.length ∧ LsA Ω σ lo d es
/-- what a change of a list touches -/
abbrev LsP (lo l d : Nat) : Nat → Prop := fun b => b = l ∨ (b = d ∧ lo ≤ b)
theorem LsA.keep {Ω : Om} {σ σ' : Sto} {lo d : Nat} {es : List Nat} {P : Nat → Prop} (h : LsA Ω σ lo d es) (k : Keep σ σ' P) (dd : lo ≤ d → ¬ P d) : LsA Ω σ' lo d es := by
  rcases h with h | ⟨h1, h2, h3, h4, h5, h6, h7⟩
  · exact Or.inl h
  · have e := k.2 d h2 (dd h1)
    refine Or.inr ⟨h1, Nat.lt_of_lt_of_le h2 k.1, e.1.trans h3, by rw [e.2.1]; exact h4, by rw [e.2.1]; exact h5, by rw [e.2.1]; exact h6, fun i x hx => ?_⟩
    rw [e.2.2.2.2.2.2.2]; exact h7 i x hx
theorem Ls.keep {Ω : Om} {σ σ' : Sto} {lo l d : Nat} {es : List Nat} {P : Nat → Prop} (h : Ls Ω σ lo l d es) (k : Keep σ σ' P) (dl : ¬ P l) (dd : lo ≤ d → ¬ P d) : Ls Ω σ' lo l d es := by
  obtain ⟨h1, h2, h3, h4, h5, h6⟩ := h
  have e := k.2 l h2 dl
  exact ⟨h1, Nat.lt_of_lt_of_le h2 k.1, e.1.trans h3, (e.2.2.2.2.1 _).trans h4, (e.2.2.1 _).trans h5, h6.keep k dd⟩
/-- the new length of a list's row -/
def lsZ (Ω : Om) (σ : Sto) (d : Nat) : Nat := if d = oE Ω then 10 else sZ σ d + sZ σ d / 2
/-- room is there without a new row -/
def lsR (Ω : Om) (σ : Sto) (d : Nat) (es : List Nat) : Prop := d ≠ oE Ω ∧ es.length < sZ σ d
/-- a list's row, the old one or a new one -/
def LsN (Ω : Om) (σ σ' : Sto) (lo l d d' : Nat) (es : List Nat) (e : Nat) : Prop := Ls Ω σ' lo l d' (es ++ [e]) ∧ Keep σ σ' (LsP lo l d) ∧ ((lsR Ω σ d es ∧ d' = d ∧ sN σ' = sN σ ∧ sZ σ' d' = sZ σ d) ∨ (¬ lsR Ω σ d es ∧ d' = sN σ ∧ sN σ' = sN σ + 1 ∧ sZ σ' d' = lsZ Ω σ d))
/-! an edit -/
/-- kind, target, detail, line, patch, the text before, the pieces before -/
abbrev Cnl := (Int × Int) × (Int × Int) × (Int × Int) × Int × Int
abbrev Edi := Int × Int × Int × Int64 × Option Nat × List (Int64 × Int) × List Cnl
abbrev edK (E : Edi) : Int := E.1
abbrev edT (E : Edi) : Int := E.2.1
abbrev edD (E : Edi) : Int := E.2.2.1
abbrev edL (E : Edi) : Int64 := E.2.2.2.1
abbrev edP (E : Edi) : Option Nat := E.2.2.2.2.1
abbrev edB (E : Edi) : List (Int64 × Int) := E.2.2.2.2.2.1
abbrev edC (E : Edi) : List Cnl := E.2.2.2.2.2.2
def EdV (σ : Sto) (lo e : Nat) (E : Edi) : Prop := lo ≤ e ∧ e + 3 < sN σ ∧ sK σ e = 5 ∧ fI σ 256 e = edK E ∧ fI σ 257 e = edT E ∧ fI σ 258 e = edD E ∧ fL σ 259 e = edL E ∧ fR σ 260 e = edP E ∧ fR σ 261 e = some (e + 1) ∧ Tx σ (e + 1) (edB E)
theorem EdV.keep {σ σ' : Sto} {lo e : Nat} {E : Edi} {P : Nat → Prop} (h : EdV σ lo e E) (k : Keep σ σ' P) (d : ∀ b, lo ≤ b → sK σ b ≠ 59 → ¬ P b) : EdV σ' lo e E := by
  obtain ⟨h1, h2, h3, h4, h5, h6, h7, h8, h9, h10⟩ := h
  have g := k.2 e (by omega) (d e h1 (by omega))
  have q1 := h10.2.1
  have q2 := h10.2.2.2.2.1
  have q3 := h10.2.2.2.2.2.1
  refine ⟨h1, Nat.lt_of_lt_of_le h2 k.1, g.1.trans h3, (g.2.2.1 _).trans h4, (g.2.2.1 _).trans h5, (g.2.2.1 _).trans h6, (g.2.2.2.1 _).trans h7, (g.2.2.2.2.1 _).trans h8, (g.2.2.2.2.1 _).trans h9, h10.keep k (fun b b1 b2 => d b (by omega) ?_)⟩
  have hc : b = e + 1 ∨ b = e + 1 + 1 ∨ b = e + 1 + 2 := by omega
  rcases hc with rfl | rfl | rfl <;> omega
/-- all edits of a list -/
def EdsV (σ : Sto) (lo : Nat) (es : List Nat) (Es : List Edi) : Prop := es.length = Es.length ∧ ∀ (i e : Nat) (E : Edi), es[i]? = some e → Es[i]? = some E → EdV σ lo e E
theorem EdsV.keep {σ σ' : Sto} {lo : Nat} {es : List Nat} {Es : List Edi} {P : Nat → Prop} (h : EdsV σ lo es Es) (k : Keep σ σ' P) (d : ∀ b, lo ≤ b → sK σ b ≠ 59 → ¬ P b) : EdsV σ' lo es Es :=
  ⟨h.1, fun i e E h1 h2 => (h.2 i e E h1 h2).keep k d⟩
theorem kuI1 {σ : Sto} {f a : Nat} {v : Int} : Keep σ (uI σ f a v) (At1 a) := Keep.uI rfl
theorem kuL1 {σ : Sto} {f a : Nat} {v : Int64} : Keep σ (uL σ f a v) (At1 a) := Keep.uL rfl
theorem kuR1 {σ : Sto} {f a : Nat} {v : Option Nat} : Keep σ (uR σ f a v) (At1 a) := Keep.uR rfl
