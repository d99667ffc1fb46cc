/-! BY HAND: texts without names; doing again -/
abbrev Tl := List (Int64 × Int)
def stp (T : Tl) : Tl := T.map (fun y => (y.1, (-1 : Int)))
theorem stp_len (T : Tl) : (stp T).length = T.length := List.length_map _
theorem stp_app (T U : Tl) : stp (T ++ U) = stp T ++ stp U := List.map_append
theorem stp_take (T : Tl) (n : Nat) : stp (T.take n) = (stp T).take n := List.map_take
theorem stp_drop (T : Tl) (n : Nat) : stp (T.drop n) = (stp T).drop n := List.map_drop
theorem stp_slice (T : Tl) (f t : Int) : stp (slice T f t) = slice (stp T) f t := by unfold slice; rw [stp_take, stp_drop]
theorem stp_get (T : Tl) (i : Nat) : (stp T)[i]? = (T[i]?).map (fun y => (y.1, (-1 : Int))) := List.getElem?_map
theorem stp_ln (T : Tl) (p : Int) : lnA (stp T) p = lnA T p := by
  unfold lnA
  by_cases h : 0 ≤ p
  · rw [if_pos h, if_pos h, stp_get]
    cases T[p.toNat]? <;> rfl
  · rw [if_neg h, if_neg h]
theorem stp_stp (T : Tl) : stp (stp T) = stp T := by unfold stp; rw [List.map_map]; rfl
theorem stp_m1 {T : Tl} : ∀ y ∈ stp T, y.2 = -1 := fun y h => by
  obtain ⟨x, _, rfl⟩ := List.mem_map.mp h; rfl
theorem stp_id {T : Tl} (h : ∀ y ∈ T, y.2 = -1) : stp T = T := by
  induction T with
  | nil => rfl
  | cons x T ih =>
    have := h x (List.mem_cons_self ..)
    unfold stp at ih ⊢
    rw [List.map_cons, ih (fun y hy => h y (List.mem_cons_of_mem _ hy)), ← this]
theorem stp_XL (lb : Int) (T : Tl) : XL lb (stp T) = XL lb T := by unfold XL stp; rw [List.map_map]; rfl
theorem stp_stands {T : Tl} {r : Nat → Int64} {L : Nat} {p f t : Int} : standsP (stp T) r L p f t ↔ standsP T r L p f t := by
  unfold standsP; simp only [stp_len, stp_ln]
theorem stp_row {F S : Tl} {a b c d : Int} : rowEq (stp F) (stp S) a b c d ↔ rowEq F S a b c d := by
  unfold rowEq; simp only [stp_len, stp_ln]
theorem stp_t3 {F S B : Tl} {i : Nat} : t3 (stp F) (stp S) (stp B) i = stp (t3 F S B i) := by
  unfold t3
  by_cases h : i = 0
  · rw [if_pos h, if_pos h]
  · rw [if_neg h, if_neg h]
    by_cases h2 : i = 1
    · rw [if_pos h2, if_pos h2]
    · rw [if_neg h2, if_neg h2]
theorem stp_alk {F S B : Tl} {c : Cnl} {i j : Nat} : alk (stp F) (stp S) (stp B) c i j ↔ alk F S B c i j := by
  unfold alk; rw [stp_t3, stp_t3, stp_row]
theorem stp_wpC {F S B : Tl} {cl : List Cnl} {c : Cnl} : wpC (stp F) (stp S) (stp B) cl c = wpC F S B cl c := by
  by_cases g : alk F S B c 0 2 ∨ alk F S B c 1 2 ∨ alk F S B c 1 0
  · rw [wpC_1 g, wpC_1 (by rw [stp_alk, stp_alk, stp_alk]; exact g)]
  · rw [wpC_0 g, wpC_0 (by rw [stp_alk, stp_alk, stp_alk]; exact g)]
theorem stp_wpT {F S B T : Tl} {c : Cnl} : wpT (stp F) (stp S) (stp B) (stp T) c = stp (wpT F S B T c) := by
  by_cases g : alk F S B c 0 2
  · rw [wpT_2 g, wpT_2 (stp_alk.mpr g), stp_app, stp_slice]
  · by_cases g2 : alk F S B c 1 2 ∨ alk F S B c 1 0
    · rw [wpT_1 g g2, wpT_1 (fun z => g (stp_alk.mp z)) (by rw [stp_alk, stp_alk]; exact g2), stp_app, stp_slice]
    · rw [wpT_0 g g2, wpT_0 (fun z => g (stp_alk.mp z)) (by rw [stp_alk, stp_alk]; exact g2)]
theorem stp_wvN {F S B : Tl} {P1 P2 : Nat → Int} : ∀ (d i ff sf bf : Nat) (T : Tl) (cl : List Cnl), wvN (stp F) (stp S) (stp B) P1 P2 d i ff sf bf (stp T) cl = (stp (wvN F S B P1 P2 d i ff sf bf T cl).1, (wvN F S B P1 P2 d i ff sf bf T cl).2) := by
  intro d
  induction d with
  | zero =>
    intro i ff sf bf T cl
    rw [wvN, wvN, stp_wpT, stp_wpC, stp_len, stp_len, stp_len, stp_len]
  | succ d ih =>
    intro i ff sf bf T cl
    rw [wvN, wvN]
    by_cases g : P1 i ≠ -1 ∧ P2 i ≠ -1
    · rw [if_pos g, if_pos g, stp_len, stp_wpT, stp_wpC, ← stp_slice, ← stp_app, ih]
    · rw [if_neg g, if_neg g, ih]
theorem stp_wvA (F S B : Tl) : wvA (stp F) (stp S) (stp B) = (stp (wvA F S B).1, (wvA F S B).2) := by
  unfold wvA
  rw [stp_XL, stp_XL, stp_XL, stp_len]
  exact stp_wvN _ _ _ _ _ [] []
theorem stp_fit {T : Tl} {H : Hun} {a fl : Int} {fz : Nat} : fitB (stp T) H a fl fz = fitB T H a fl fz := by
  have h : fitP (stp T) H a fl fz ↔ fitP T H a fl fz := by
    unfold fitP; rw [stp_stands, stp_stands, stp_stands]
  cases e : fitB T H a fl fz with
  | true => exact fitB_iff.mpr (h.mpr (fitB_iff.mp e))
  | false =>
    cases e2 : fitB (stp T) H a fl fz with
    | false => rfl
    | true => rw [fitB_iff.mpr (h.mp (fitB_iff.mp e2))] at e; cases e
theorem stp_find {T : Tl} {H : Hun} {s fl : Int} {fz : Nat} : findN (stp T) H s fl fz = findN T H s fl fz := by
  unfold findN
  rw [stp_len]
  have : (fun b x => fitB (stp T) H x fl b) = (fun b x => fitB T H x fl b) := funext fun b => funext fun x => stp_fit
  rw [this]
theorem stp_pt {T : Tl} {x : Nat} {g f : List Int64} : ptL (stp T) x g f = stp (ptL T x g f) := by
  unfold ptL
  rw [stp_app, stp_app, stp_take, stp_drop]
  congr 2
  unfold stp; rw [List.map_map]; rfl
theorem stp_ly {fz : Nat} : ∀ (hs : List Hun) (mv fl : Int) (T : Tl) (rj : Nat), lyN fz hs mv fl (stp T) rj = (stp (lyN fz hs mv fl T rj).1, (lyN fz hs mv fl T rj).2) := by
  intro hs
  induction hs with
  | nil => intro mv fl T rj; rw [lyN, lyN]
  | cons H hs ih =>
    intro mv fl T rj
    rw [lyN, lyN, stp_find]
    cases findN T H ((hnP H : Int) + mv) fl fz with
    | none => exact ih _ _ _ _
    | some x => simp only [stp_pt]; exact ih _ _ _ _
theorem stp_stT {F S B T : Tl} {c : Cnl} {how : Int} : stT (stp F) (stp S) (stp B) (stp T) c how = stp (stT F S B T c how) := by
  unfold stT
  by_cases h : how = 3
  · rw [if_pos h, if_pos h, stp_app, stp_app, stp_app, stp_take, stp_drop, stp_slice, stp_slice]
  · rw [if_neg h, if_neg h]
    by_cases h2 : how = 4
    · rw [if_pos h2, if_pos h2, stp_app, stp_app, stp_app, stp_take, stp_drop, stp_slice, stp_slice]
    · rw [if_neg h2, if_neg h2, stp_app, stp_app, stp_take, stp_drop, stp_slice, stp_t3]
theorem stp_ins (T : Tl) (i : Nat) (x : Int64 × Int) : stp (T.insertIdx i x) = (stp T).insertIdx i (x.1, -1) := by
  induction T generalizing i with
  | nil => cases i <;> rfl
  | cons y T ih =>
    cases i with
    | zero => rfl
    | succ i => rw [List.insertIdx_succ_cons]; exact congrArg _ (ih i)
theorem stp_era (T : Tl) (i : Nat) : stp (T.eraseIdx i) = (stp T).eraseIdx i := by
  induction T generalizing i with
  | nil => rfl
  | cons y T ih =>
    cases i with
    | zero => rfl
    | succ i => rw [List.eraseIdx_cons_succ]; exact congrArg _ (ih i)
theorem stp_set (T : Tl) (i : Nat) (x : Int64 × Int) : stp (T.set i x) = (stp T).set i (x.1, -1) := by
  unfold stp; rw [List.map_set]
theorem stp_pf {hs : List Hun} {F S B T : Tl} {cl : List Cnl} {E : Edi} : pfT hs (stp F) (stp S) (stp B) (stp T) cl E = stp (pfT hs F S B T cl E) := by
  unfold pfT
  by_cases h0 : edK E = 0
  · rw [if_pos h0, if_pos h0, stp_ins]
  rw [if_neg h0, if_neg h0]
  by_cases h1 : edK E = 1
  · rw [if_pos h1, if_pos h1, stp_era]
  rw [if_neg h1, if_neg h1]
  by_cases h2 : edK E = 2
  · rw [if_pos h2, if_pos h2, stp_get]
    cases e : T[(edT E).toNat]? with
    | none => rfl
    | some x =>
      show (if x.1 = edL E then stp T else (stp T).set _ _) = stp (if x.1 = edL E then T else T.set _ _)
      by_cases h : x.1 = edL E
      · rw [if_pos h, if_pos h]
      · rw [if_neg h, if_neg h, stp_set]
  rw [if_neg h2, if_neg h2]
  by_cases h3 : edK E = 3
  · rw [if_pos h3, if_pos h3, stp_get]
    cases e : T[(edT E).toNat]? with
    | none => rfl
    | some x =>
      show ((stp T).eraseIdx _).insertIdx _ _ = stp ((T.eraseIdx _).insertIdx _ _)
      rw [stp_ins, stp_era]
  rw [if_neg h3, if_neg h3]
  by_cases h4 : edK E = 4
  · rw [if_pos h4, if_pos h4]
    cases cl[(edT E).toNat]? with
    | none => rfl
    | some c => exact stp_stT
  · rw [if_neg h4, if_neg h4, stp_ly]
theorem stp_POK {hs : List Hun} {F S B T : Tl} {cl : List Cnl} {oc : Int} {E : Edi} (h : POK hs F S B T cl oc E) : POK hs (stp F) (stp S) (stp B) (stp T) cl oc E := by
  unfold POK CnB at h ⊢
  simp only [stp_len]
  exact h
/-- what made a text, done from its start, with what was there before each edit -/
def Rpl (x : Nat) (P : List (List Hun)) (F S B : Tl) : Tl → List Cnl → List Edi → Tl → List Cnl → Prop
  | T, C, [], T', C' => stp T = stp T' ∧ C = C'
  | T, C, E :: Es, T', C' => stp T = stp (edB E) ∧ C = edC E ∧ POK (P.getD (edT E).toNat []) F S B (edB E) C (opn C) E ∧ (edK E = 5 → edP E = some (x + 694 + 2 * (edT E).toNat) ∧ 0 ≤ edT E ∧ edT E < P.length) ∧ (edK E ≠ 5 → edP E = none) ∧ Rpl x P F S B (pfT (P.getD (edT E).toNat []) F S B (edB E) C E) (pfC C E) Es T' C'
