/-! BY HAND: Patch, made of a pairing -/
def caN (P : Nat → Int) (most a b : Nat) : Nat → Nat → Nat
  | 0, c => c
  | f + 1, c => if c < most ∧ c < a ∧ c < b ∧ P (a - c - 1) = ((b - c - 1 : Nat) : Int) then caN P most a b f (c + 1) else c
def cbN (P : Nat → Int) (n most a b : Nat) : Nat → Nat → Nat
  | 0, c => c
  | f + 1, c => if c < most ∧ a + c < n ∧ P (a + c) = ((b + c : Nat) : Int) then cbN P n most a b f (c + 1) else c
def slA (T : List (Int64 × Int)) (a b : Nat) : List Int64 := ((T.drop a).take (b - a)).map (·.1)
theorem slA_len {T : List (Int64 × Int)} {a b : Nat} (h : b ≤ T.length) : (slA T a b).length = b - a := by
  unfold slA; rw [List.length_map, List.length_take, List.length_drop]; omega
theorem slA_at {T : List (Int64 × Int)} {a b j : Nat} (h : b ≤ T.length) (hj : j < b - a) : gx (slA T a b) j = lnA T ((a : Int) + j) := by
  have hl := slA_len (a := a) h
  rw [← gx_of (by omega)]
  have e := List.getElem?_eq_getElem (l := T) (i := a + j) (by omega)
  rw [lnA_some (x := T[a + j]) (by omega) (by rw [show ((a : Int) + (j : Int)).toNat = a + j by omega]; exact e)]
  unfold slA
  rw [List.getElem_map, List.getElem_take, List.getElem_drop]
theorem caN_le {P : Nat → Int} {most a b : Nat} : ∀ (f c : Nat), c ≤ most → c ≤ a → caN P most a b f c ≤ most ∧ caN P most a b f c ≤ a := by
  intro f
  induction f with
  | zero => intro c h1 h2; exact ⟨h1, h2⟩
  | succ f ih =>
    intro c h1 h2
    rw [caN]
    split
    · exact ih (c + 1) (by omega) (by omega)
    · exact ⟨h1, h2⟩
theorem cbN_le {P : Nat → Int} {n most a b : Nat} : ∀ (f c : Nat), c ≤ most → a + c ≤ n → cbN P n most a b f c ≤ most ∧ a + cbN P n most a b f c ≤ n := by
  intro f
  induction f with
  | zero => intro c h1 h2; exact ⟨h1, h2⟩
  | succ f ih =>
    intro c h1 h2
    rw [cbN]
    split
    · exact ih (c + 1) (by omega) (by omega)
    · exact ⟨h1, h2⟩
def mkH (T U : List (Int64 × Int)) (P : Nat → Int) (ctx fr i ot pr : Nat) : Hun := (fr, ot, slA T (fr - caN P ctx fr ot ctx 0) fr, slA T fr i, slA U ot pr, slA T i (i + cbN P T.length ctx i pr ctx 0))
def flP (T U : List (Int64 × Int)) (P : Nat → Int) (i : Nat) : Int := if i < T.length then P i else U.length
def flN (T U : List (Int64 × Int)) (P : Nat → Int) (ctx : Nat) : Nat → Nat → Nat → Nat → List Hun → List Hun
  | 0, _, _, _, acc => acc
  | f + 1, i, fr, ot, acc => if flP T U P i = -1 then flN T U P ctx f (i + 1) fr ot acc else flN T U P ctx f (i + 1) (i + 1) ((flP T U P i).toNat + 1) (if fr < i ∨ (ot : Int) < flP T U P i then acc ++ [mkH T U P ctx fr i ot (flP T U P i).toNat] else acc)
section FIL
variable {Ω : Om} {σ0 : Sto} {p t u c lo : Nat} {T U : List (Int64 × Int)} {X Y : List Int64} {P M : Nat → Int} {b n0 : Nat}
theorem k_Pat_contextAhead {σ : Sto} {most x y : Nat} (hW : CpW σ c X Y) (hP : CpP σ c X.length b P M n0) (hx : x ≤ X.length) (hy : y ≤ 50) (hm : most ≤ 3) : MC Ω M_Pat_contextAhead rm_Pat_contextAhead (RI fun r σ' => σ' = σ ∧ r = (caN P most x y most 0 : Nat)) XN σ [xr (some c), xi x, xi y, xi most] := by
  have x2 := hW.2.1.2.1
  have loop : ∀ (f q : Nat), q + f = most → caN P most x y f q = caN P most x y most 0 → Aw Ω M_Pat_contextAhead rm_Pat_contextAhead (MF Ω rm_Pat_contextAhead (RI fun r σ' => σ' = σ ∧ r = (caN P most x y most 0 : Nat)) XN) 0 0 3 [xr (some c), xi x, xi y, xi most, xi q] [] σ := by
    intro f
    induction f with
    | zero =>
      intro q hq he
      refine b_Pat_contextAhead_3 ⟨by omega, by omega, fun _ => ?_, fun c => absurd (by omega) c⟩
      exact r_Pat_contextAhead_50 ⟨_, rfl, rfl, by rw [← he]; rfl⟩ (by decide) (by decide)
    | succ f ih =>
      intro q hq he
      have fin : ¬ (q < most ∧ q < x ∧ q < y ∧ P (x - q - 1) = ((y - q - 1 : Nat) : Int)) → Aw Ω M_Pat_contextAhead rm_Pat_contextAhead (MF Ω rm_Pat_contextAhead (RI fun r σ' => σ' = σ ∧ r = (caN P most x y most 0 : Nat)) XN) 0 0 50 [xr (some c), xi x, xi y, xi most, xi q] [xi q] σ := fun h => by
        rw [caN, if_neg h] at he
        exact r_Pat_contextAhead_50 ⟨_, rfl, rfl, by rw [← he]⟩ (by decide) (by decide)
      refine b_Pat_contextAhead_3 ⟨by omega, by omega, fun c1 => fin (fun z => by omega), fun c1 => ⟨by omega, fun c2 => fin (fun z => by omega), fun c2 => ⟨by omega, fun c3 => fin (fun z => by omega), fun c3 => ?_⟩⟩⟩
      refine c_Pat_contextAhead_30 (k_Cmp_pairAt (p := (x : Int) - q - 1) hW.1 hW.2.1 hP (by omega)) hW.1.2.1 (by decide) (by decide) (by first | decide | omega) (by first | decide | omega) (Nat.le_of_ble_eq_true rfl) (fun z σ1 hq => ?_) (fun _ _ hx => hx.elim)
      obtain ⟨rfl, hz, hz2⟩ := hq
      rw [if_pos (by omega), show ((x : Int) - q - 1).toNat = x - q - 1 by omega] at hz2
      refine b_Pat_contextAhead_33 ⟨hz, by omega, fun c4 => fin (fun z => ?_), fun c4 => ?_⟩
      · omega
      · have hh : q < most ∧ q < x ∧ q < y ∧ P (x - q - 1) = ((y - q - 1 : Nat) : Int) := ⟨by omega, by omega, by omega, by omega⟩
        rw [caN, if_pos hh] at he
        exact ih (q + 1) (by omega) he
  exact e_Pat_contextAhead (b_Pat_contextAhead_0 (loop most 0 (by omega) rfl))
theorem k_Pat_contextBehind {σ : Sto} {most x y : Nat} (hW : CpW σ c X Y) (hP : CpP σ c X.length b P M n0) (hx : x ≤ X.length) (hy : y ≤ 50) (hm : most ≤ 3) : MC Ω M_Pat_contextBehind rm_Pat_contextBehind (RI fun r σ' => σ' = σ ∧ r = (cbN P X.length most x y most 0 : Nat)) XN σ [xr (some c), xi x, xi y, xi most] := by
  have x2 := hW.2.1.2.1
  have loop : ∀ (f q : Nat), q + f = most → cbN P X.length most x y f q = cbN P X.length most x y most 0 → Aw Ω M_Pat_contextBehind rm_Pat_contextBehind (MF Ω rm_Pat_contextBehind (RI fun r σ' => σ' = σ ∧ r = (cbN P X.length most x y most 0 : Nat)) XN) 0 0 3 [xr (some c), xi x, xi y, xi most, xi q] [] σ := by
    intro f
    induction f with
    | zero =>
      intro q hq he
      refine b_Pat_contextBehind_3 ⟨by omega, by omega, fun _ => ?_, fun c => absurd (by omega) c⟩
      exact r_Pat_contextBehind_43 ⟨_, rfl, rfl, by rw [← he]; rfl⟩ (by decide) (by decide)
    | succ f ih =>
      intro q hq he
      have fin : ¬ (q < most ∧ x + q < X.length ∧ P (x + q) = ((y + q : Nat) : Int)) → Aw Ω M_Pat_contextBehind rm_Pat_contextBehind (MF Ω rm_Pat_contextBehind (RI fun r σ' => σ' = σ ∧ r = (cbN P X.length most x y most 0 : Nat)) XN) 0 0 43 [xr (some c), xi x, xi y, xi most, xi q] [xi q] σ := fun h => by
        rw [cbN, if_neg h] at he
        exact r_Pat_contextBehind_43 ⟨_, rfl, rfl, by rw [← he]⟩ (by decide) (by decide)
      refine b_Pat_contextBehind_3 ⟨by omega, by omega, fun c1 => fin (fun z => by omega), fun c1 => ?_⟩
      refine c_Pat_contextBehind_14 (k_Cmp_size hW.1 hW.2.1) hW.1.2.1 (by decide) (by decide) (by first | decide | omega) (by first | decide | omega) (Nat.le_of_ble_eq_true rfl) (fun z0 σ0' hq => ?_) (fun _ _ hx => hx.elim)
      obtain ⟨rfl, rfl⟩ := hq
      refine b_Pat_contextBehind_17 ⟨by omega, by omega, fun c2 => fin (fun z => by omega), fun c2 => ?_⟩
      refine c_Pat_contextBehind_25 (k_Cmp_pairAt (p := (x : Int) + q) hW.1 hW.2.1 hP (by omega)) hW.1.2.1 (by decide) (by decide) (by first | decide | omega) (by first | decide | omega) (Nat.le_of_ble_eq_true rfl) (fun z σ1 hq => ?_) (fun _ _ hx => hx.elim)
      obtain ⟨rfl, hz, hz2⟩ := hq
      rw [if_pos (by omega), show ((x : Int) + q).toNat = x + q by omega] at hz2
      refine b_Pat_contextBehind_28 ⟨hz, by omega, fun c4 => fin (fun z => ?_), fun c4 => ?_⟩
      · omega
      · have hh : q < most ∧ x + q < X.length ∧ P (x + q) = ((y + q : Nat) : Int) := ⟨by omega, by omega, by omega⟩
        rw [cbN, if_pos hh] at he
        exact ih (q + 1) (by omega) he
  exact e_Pat_contextBehind (b_Pat_contextBehind_0 (loop most 0 (by omega) rfl))
end FIL
