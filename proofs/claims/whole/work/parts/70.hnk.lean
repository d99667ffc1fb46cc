/-! BY HAND: Hunk -/
/-- place, other place, ahead, gone, fresh, behind -/
abbrev Hun := Nat × Nat × List Int64 × List Int64 × List Int64 × List Int64
abbrev hnP (H : Hun) : Nat := H.1
abbrev hnO (H : Hun) : Nat := H.2.1
abbrev hnA (H : Hun) : List Int64 := H.2.2.1
abbrev hnG (H : Hun) : List Int64 := H.2.2.2.1
abbrev hnF (H : Hun) : List Int64 := H.2.2.2.2.1
abbrev hnB (H : Hun) : List Int64 := H.2.2.2.2.2
def La (σ : Sto) (lo q : Nat) (l : List Int64) : Prop := lo ≤ q ∧ q < sN σ ∧ sK σ q = 51 ∧ sZ σ q = l.length ∧ ∀ i, i < l.length → aL σ q i = gx l i
def HnB (H : Hun) : Prop := hnP H ≤ 20 ∧ hnO H ≤ 20 ∧ (hnA H).length ≤ 3 ∧ (hnG H).length ≤ 20 ∧ (hnF H).length ≤ 20 ∧ (hnB H).length ≤ 3
def Hk (σ : Sto) (lo h : Nat) (H : Hun) : Prop := lo ≤ h ∧ h < sN σ ∧ sK σ h = 6 ∧ fI σ 320 h = hnP H ∧ fI σ 321 h = hnO H ∧ HnB H ∧ ∃ a g f b, fR σ 322 h = some a ∧ fR σ 323 h = some g ∧ fR σ 324 h = some f ∧ fR σ 325 h = some b ∧ La σ lo a (hnA H) ∧ La σ lo g (hnG H) ∧ La σ lo f (hnF H) ∧ La σ lo b (hnB H)
theorem La.keep {σ σ' : Sto} {lo q : Nat} {l : List Int64} {P : Nat → Prop} (h : La σ lo q l) (k : Keep σ σ' P) (d : ∀ b, lo ≤ b → sK σ b ≠ 59 → ¬ P b) : La σ' lo q l := by
  obtain ⟨h1, h2, h3, h4, h5⟩ := h
  have e := k.2 q h2 (d q h1 (by omega))
  refine ⟨h1, Nat.lt_of_lt_of_le h2 k.1, e.1.trans h3, e.2.1.trans h4, fun i hi => ?_⟩
  rw [e.2.2.2.2.2.2.1]; exact h5 i hi
theorem Hk.keep {σ σ' : Sto} {lo h : Nat} {H : Hun} {P : Nat → Prop} (hh : Hk σ lo h H) (k : Keep σ σ' P) (d : ∀ b, lo ≤ b → sK σ b ≠ 59 → ¬ P b) : Hk σ' lo h H := by
  obtain ⟨h1, h2, h3, h4, h5, h6, a, g, f, b, r1, r2, r3, r4, l1, l2, l3, l4⟩ := hh
  have e := k.2 h h2 (d h h1 (by omega))
  exact ⟨h1, Nat.lt_of_lt_of_le h2 k.1, e.1.trans h3, (e.2.2.1 _).trans h4, (e.2.2.1 _).trans h5, h6, a, g, f, b, (e.2.2.2.2.1 _).trans r1, (e.2.2.2.2.1 _).trans r2, (e.2.2.2.2.1 _).trans r3, (e.2.2.2.2.1 _).trans r4, l1.keep k d, l2.keep k d, l3.keep k d, l4.keep k d⟩
theorem La.lo {σ : Sto} {lo lo' q : Nat} {l : List Int64} (h : La σ lo q l) (g : lo' ≤ lo) : La σ lo' q l := ⟨by have := h.1; omega, h.2⟩
theorem standsP_congr {T : List (Int64 × Int)} {r r' : Nat → Int64} {L : Nat} {p f t : Int} (h : ∀ i, i < L → r i = r' i) : standsP T r L p f t ↔ standsP T r' L p f t := by
  constructor
  · rintro ⟨h1, h2, h3, h4, h5⟩
    exact ⟨h1, h2, h3, h4, fun j j1 j2 => by rw [h5 j j1 j2]; exact h j (by omega)⟩
  · rintro ⟨h1, h2, h3, h4, h5⟩
    exact ⟨h1, h2, h3, h4, fun j j1 j2 => by rw [h5 j j1 j2]; exact (h j (by omega)).symm⟩
theorem La.st {σ : Sto} {lo q : Nat} {l : List Int64} (h : La σ lo q l) {T : List (Int64 × Int)} {p f t : Int} : standsP T (aL σ q) (sZ σ q) p f t ↔ standsP T (gx l) l.length p f t := by
  obtain ⟨h1, h2, h3, h4, h5⟩ := h
  rw [h4]
  exact standsP_congr h5
def fitP (T : List (Int64 × Int)) (H : Hun) (at0 fl : Int) (fz : Nat) : Prop := fl ≤ at0 - ((hnA H).length - minI fz (hnA H).length) ∧ standsP T (gx (hnA H)) (hnA H).length (at0 - ((hnA H).length - minI fz (hnA H).length)) (minI fz (hnA H).length) (hnA H).length ∧ standsP T (gx (hnG H)) (hnG H).length at0 0 (hnG H).length ∧ standsP T (gx (hnB H)) (hnB H).length (at0 + (hnG H).length) 0 ((hnB H).length - minI fz (hnB H).length)
noncomputable def fitB (T : List (Int64 × Int)) (H : Hun) (at0 fl : Int) (fz : Nat) : Bool := @decide (fitP T H at0 fl fz) (Classical.propDecidable _)
theorem fitB_iff {T : List (Int64 × Int)} {H : Hun} {at0 fl : Int} {fz : Nat} : fitB T H at0 fl fz = true ↔ fitP T H at0 fl fz := @decide_eq_true_iff _ (Classical.propDecidable _)
def fn1 (P : Int → Bool) (s : Int) : Nat → Nat → Option Int
  | 0, _ => none
  | n + 1, a => if P (s - a) = true then some (s - a) else if P (s + a) = true then some (s + a) else fn1 P s n (a + 1)
def fn2 (P : Nat → Int → Bool) (s : Int) (m : Nat) : Nat → Nat → Option Int
  | 0, _ => none
  | n + 1, b => match fn1 (P b) s m 0 with
    | some x => some x
    | none => fn2 P s m n (b + 1)
theorem fn1_ok {P : Int → Bool} {s : Int} : ∀ (n a : Nat) (x : Int), fn1 P s n a = some x → P x = true := by
  intro n
  induction n with
  | zero => intro a x h; cases h
  | succ n ih =>
    intro a x h
    rw [fn1] at h
    split at h
    · rename_i hp; cases h; exact hp
    · split at h
      · rename_i hp; cases h; exact hp
      · exact ih _ _ h
theorem fn2_ok {P : Nat → Int → Bool} {s : Int} {m : Nat} : ∀ (n b : Nat) (x : Int), fn2 P s m n b = some x → ∃ b', b ≤ b' ∧ b' < b + n ∧ P b' x = true := by
  intro n
  induction n with
  | zero => intro b x h; cases h
  | succ n ih =>
    intro b x h
    rw [fn2] at h
    split at h
    · rename_i y hy
      cases h
      exact ⟨b, Nat.le_refl _, by omega, fn1_ok _ _ _ hy⟩
    · obtain ⟨b', h1, h2, h3⟩ := ih _ _ h
      exact ⟨b', by omega, by omega, h3⟩
noncomputable def findN (T : List (Int64 × Int)) (H : Hun) (s fl : Int) (fz : Nat) : Option Int := fn2 (fun b x => fitB T H x fl b) s ((minI 80 (maxI s (T.length - s))).toNat + 1) (fz + 1) 0
theorem findN_ok {T : List (Int64 × Int)} {H : Hun} {s fl : Int} {fz : Nat} {x : Int} (h : findN T H s fl fz = some x) : 0 ≤ x ∧ x + (hnG H).length ≤ T.length := by
  obtain ⟨b', h1, h2, h3⟩ := fn2_ok _ _ _ h
  have := (fitB_iff.mp h3).2.2.1
  obtain ⟨g1, g2, g3, g4, g5⟩ := this
  exact ⟨g1, by omega⟩
def ptL (T : List (Int64 × Int)) (x : Nat) (g f : List Int64) : List (Int64 × Int) := T.take x ++ f.map (fun l => (l, (-1 : Int))) ++ T.drop (x + g.length)
section HNK
variable {Ω : Om} {σ0 : Sto} {h t lo : Nat} {H : Hun} {T : List (Int64 × Int)}
theorem k_Hnk_fits {σ : Sto} {x fl : Int} {fz : Nat} (hH : Hk σ lo h H) (hT : Tx σ t T) (hx : -1000 ≤ x ∧ x ≤ 900) (hfl : Q32 fl) (hfz : fz ≤ 2) : MC Ω M_Hnk_fits rm_Hnk_fits (RI fun r σ' => σ' = σ ∧ Bz r (fitP T H x fl fz)) XN σ [xr (some h), xr (some t), xi x, xi fl, xi fz] := by
  obtain ⟨h1, h2, h3, h4, h5, h6, a, g, f, b, r1, r2, r3, r4, la, lg, lf, lb⟩ := hH
  obtain ⟨b1, b2, b3, b4, b5, b6⟩ := h6
  have za := la.2.2.2.1
  have zg := lg.2.2.2.1
  have zb := lb.2.2.2.1
  have m1 := minI_le (x := (fz : Int)) (y := ((hnA H).length : Int))
  have m2 := minI_le (x := (fz : Int)) (y := ((hnB H).length : Int))
  have fin : ∀ {L : List PV}, ¬ fitP T H x fl fz → Aw Ω M_Hnk_fits rm_Hnk_fits (MF Ω rm_Hnk_fits (RI fun r σ' => σ' = σ ∧ Bz r (fitP T H x fl fz)) XN) 0 0 112 L [xi 0] σ := fun hn => r_Hnk_fits_112 (Or.inl rfl) ⟨_, rfl, rfl, Or.inr ⟨rfl, hn⟩⟩ (by decide) (by decide)
  refine e_Hnk_fits (b_Hnk_fits_0 ⟨h3, _, r1, la.2.2.1, ?_⟩)
  rw [za]
  refine fun _ => ⟨by omega, by omega, by decide, Nat.le_of_ble_eq_true rfl, by decide, by decide, _, r4, lb.2.2.1, ?_⟩
  rw [zb]
  refine fun _ => fun _ => ⟨by omega, by omega, by decide, Nat.le_of_ble_eq_true rfl, by decide, by decide, fun _ => ⟨by omega, hfl, fun c => fin (fun z => by have := z.1; omega), fun c => fun _ => ?_⟩⟩
  refine c_Hnk_fits_62 (k_Txt_stands hT la.2.2.1 (by omega) (by omega) (by omega) (by omega) (by omega)) hT.2.1 (by decide) (by decide) (by first | decide | omega) (by first | decide | omega) (Nat.le_of_ble_eq_true rfl) (fun y1 σ1 hq => ?_) (fun _ _ hx => hx.elim)
  obtain ⟨rfl, hz1⟩ := hq
  rw [la.st] at hz1
  rcases hz1 with ⟨rfl, hz1⟩ | ⟨rfl, hz1⟩
  · refine b_Hnk_fits_65 ⟨by decide, fun c => absurd c (by decide), fun _ => ⟨h3, _, r2, lg.2.2.1, ?_⟩⟩
    rw [zg]
    refine fun _ => ?_
    refine c_Hnk_fits_80 (k_Txt_stands hT lg.2.2.1 (by omega) (by omega) (by omega) (by omega) (by omega)) hT.2.1 (by decide) (by decide) (by first | decide | omega) (by first | decide | omega) (Nat.le_of_ble_eq_true rfl) (fun y2 σ2 hq => ?_) (fun _ _ hx => hx.elim)
    obtain ⟨rfl, hz2⟩ := hq
    rw [lg.st] at hz2
    rcases hz2 with ⟨rfl, hz2⟩ | ⟨rfl, hz2⟩
    · refine b_Hnk_fits_83 ⟨by decide, fun c => absurd c (by decide), fun _ => ⟨h3, _, r2, lg.2.2.1, ?_⟩⟩
      rw [zg]
      refine fun _ => ⟨_, r4, ?_⟩
      refine c_Hnk_fits_101 (k_Txt_stands hT lb.2.2.1 (by omega) (by omega) (by omega) (by omega) (by omega)) hT.2.1 (by decide) (by decide) (by first | decide | omega) (by first | decide | omega) (Nat.le_of_ble_eq_true rfl) (fun y3 σ3 hq => ?_) (fun _ _ hx => hx.elim)
      obtain ⟨rfl, hz3⟩ := hq
      rw [lb.st] at hz3
      rcases hz3 with ⟨rfl, hz3⟩ | ⟨rfl, hz3⟩
      · refine b_Hnk_fits_104 ⟨by decide, fun c => absurd c (by decide), fun _ => ?_⟩
        exact r_Hnk_fits_112 (Or.inr rfl) ⟨_, rfl, rfl, Or.inl ⟨rfl, by omega, hz1, hz2, hz3⟩⟩ (by decide) (by decide)
      · exact b_Hnk_fits_104 ⟨by decide, fun _ => fin (fun z => hz3 z.2.2.2), fun c => absurd rfl c⟩
    · exact b_Hnk_fits_83 ⟨by decide, fun _ => fin (fun z => hz2 z.2.2.1), fun c => absurd rfl c⟩
  · exact b_Hnk_fits_65 ⟨by decide, fun _ => fin (fun z => hz1 z.2.1), fun c => absurd rfl c⟩
theorem find_in {σ : Sto} {s fl v : Int} {fz m b : Nat} (hH : Hk σ lo h H) (hT : Tx σ t T) (hs : -200 ≤ s ∧ s ≤ 200) (hfl : Q32 fl) (hfz : fz ≤ 2) (hb : b ≤ fz) (hm : m ≤ 80)
    (hv : ∀ y, fn1 (fun x => fitB T H x fl b) s (m + 1) 0 = some y → y = v)
    (out : fn1 (fun x => fitB T H x fl b) s (m + 1) 0 = none → Aw Ω M_Hnk_findIn rm_Hnk_findIn (MF Ω rm_Hnk_findIn (RI fun r σ' => σ' = σ ∧ r = v) XN) 0 0 20 [xr (some h), xr (some t), xi s, xi fl, xi fz, xi m, xi ((b : Int) + 1), xu] [] σ) :
    ∀ (d a : Nat), a + d = m + 1 → fn1 (fun x => fitB T H x fl b) s d a = fn1 (fun x => fitB T H x fl b) s (m + 1) 0 → Aw Ω M_Hnk_findIn rm_Hnk_findIn (MF Ω rm_Hnk_findIn (RI fun r σ' => σ' = σ ∧ r = v) XN) 0 0 30 [xr (some h), xr (some t), xi s, xi fl, xi fz, xi m, xi b, xi a] [] σ := by
  intro d
  induction d with
  | zero =>
    intro a hd he
    exact b_Hnk_findIn_30 ⟨by omega, by omega, fun _ => out he.symm, fun c => absurd (by omega) c⟩
  | succ d ih =>
    intro a hd he
    refine b_Hnk_findIn_30 ⟨by omega, by omega, fun c => absurd c (by omega), fun _ => ?_⟩
    refine c_Hnk_findIn_46 (k_Hnk_fits hH hT (by omega) hfl (by omega)) hH.2.2.1 (by decide) (by decide) (by first | decide | omega) (by first | decide | omega) (Nat.le_of_ble_eq_true rfl) (fun y1 σ1 hq => ?_) (fun _ _ hx => hx.elim)
    obtain ⟨rfl, hz1⟩ := hq
    rw [fn1] at he
    rcases hz1 with ⟨rfl, hz1⟩ | ⟨rfl, hz1⟩
    · rw [if_pos (fitB_iff.mpr hz1)] at he
      refine b_Hnk_findIn_49 ⟨by decide, fun c => absurd c (by decide), fun _ => ?_⟩
      exact r_Hnk_findIn_56 ⟨_, rfl, rfl, hv _ he.symm⟩ (by decide) (by decide)
    · rw [if_neg (fun z => hz1 (fitB_iff.mp z))] at he
      refine b_Hnk_findIn_49 ⟨by decide, fun _ => ?_, fun c => absurd rfl c⟩
      refine c_Hnk_findIn_66 (k_Hnk_fits hH hT (by omega) hfl (by omega)) hH.2.2.1 (by decide) (by decide) (by first | decide | omega) (by first | decide | omega) (Nat.le_of_ble_eq_true rfl) (fun y2 σ2 hq => ?_) (fun _ _ hx => hx.elim)
      obtain ⟨rfl, hz2⟩ := hq
      rcases hz2 with ⟨rfl, hz2⟩ | ⟨rfl, hz2⟩
      · rw [if_pos (fitB_iff.mpr hz2)] at he
        refine b_Hnk_findIn_69 ⟨by decide, fun c => absurd c (by decide), fun _ => ?_⟩
        exact r_Hnk_findIn_76 ⟨_, rfl, rfl, hv _ he.symm⟩ (by decide) (by decide)
      · rw [if_neg (fun z => hz2 (fitB_iff.mp z))] at he
        exact b_Hnk_findIn_69 ⟨by decide, fun _ => ih (a + 1) (by omega) he, fun c => absurd rfl c⟩
theorem find_out {σ : Sto} {s fl v : Int} {fz m : Nat} (hH : Hk σ lo h H) (hT : Tx σ t T) (hs : -200 ≤ s ∧ s ≤ 200) (hfl : Q32 fl) (hfz : fz ≤ 2) (hm : m ≤ 80) (hv : v = (fn2 (fun b x => fitB T H x fl b) s (m + 1) (fz + 1) 0).getD (-1)) :
    ∀ (d b : Nat), b + d = fz + 1 → fn2 (fun b x => fitB T H x fl b) s (m + 1) d b = fn2 (fun b x => fitB T H x fl b) s (m + 1) (fz + 1) 0 → Aw Ω M_Hnk_findIn rm_Hnk_findIn (MF Ω rm_Hnk_findIn (RI fun r σ' => σ' = σ ∧ r = v) XN) 0 0 20 [xr (some h), xr (some t), xi s, xi fl, xi fz, xi m, xi b, xu] [] σ := by
  intro d
  induction d with
  | zero =>
    intro b hd he
    refine b_Hnk_findIn_20 ⟨by omega, by omega, fun _ => ?_, fun c => absurd (by omega) c⟩
    refine r_Hnk_findIn_90 ⟨_, rfl, rfl, ?_⟩ (by decide) (by decide)
    rw [hv, ← he]; rfl
  | succ d ih =>
    intro b hd he
    refine b_Hnk_findIn_20 ⟨by omega, by omega, fun c => absurd c (by omega), fun _ => ?_⟩
    rw [fn2] at he
    refine find_in hH hT hs hfl hfz (by omega) hm (fun y hy => ?_) (fun hn => ih (b + 1) (by omega) ?_) (m + 1) 0 (by omega) rfl
    · rw [hy] at he
      rw [hv, ← he]; rfl
    · rw [hn] at he
      exact he
theorem k_Hnk_findIn {σ : Sto} {s fl : Int} {fz : Nat} (hH : Hk σ lo h H) (hT : Tx σ t T) (hs : -200 ≤ s ∧ s ≤ 200) (hfl : Q32 fl) (hfz : fz ≤ 2) : MC Ω M_Hnk_findIn rm_Hnk_findIn (RI fun r σ' => σ' = σ ∧ r = (findN T H s fl fz).getD (-1)) XN σ [xr (some h), xr (some t), xi s, xi fl, xi fz] := by
  have hl := hT.2.2.2.2.2.2.2.2.2.1
  refine e_Hnk_findIn (b_Hnk_findIn_0 ?_)
  refine c_Hnk_findIn_4 (k_Txt_size hT) hT.2.1 (by decide) (by decide) (by first | decide | omega) (by first | decide | omega) (Nat.le_of_ble_eq_true rfl) (fun z σ1 hq => ?_) (fun _ _ hx => hx.elim)
  obtain ⟨rfl, rfl⟩ := hq
  have m1 := minI_le (x := (80 : Int)) (y := maxI s ((T.length : Int) - s))
  have m2 : (T.length : Int) - s ≤ maxI s ((T.length : Int) - s) ∧ s ≤ maxI s ((T.length : Int) - s) ∧ maxI s ((T.length : Int) - s) ≤ 300 := by
    unfold maxI; split <;> omega
  have m3 : 0 ≤ minI 80 (maxI s ((T.length : Int) - s)) := by omega
  refine b_Hnk_findIn_7 ⟨by omega, by omega, by decide, Nat.le_of_ble_eq_true rfl, by decide, by decide, by decide, by omega, by decide, Nat.le_of_ble_eq_true rfl, by decide, by decide, ?_⟩
  have e : minI 80 (maxI s ((T.length : Int) - s)) = ((minI 80 (maxI s ((T.length : Int) - s))).toNat : Nat) := by omega
  rw [e]
  exact find_out hH hT hs hfl hfz (by omega) rfl (fz + 1) 0 (by omega) rfl
end HNK
