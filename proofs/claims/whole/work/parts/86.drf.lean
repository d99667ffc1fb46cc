/-! BY HAND: Draft, an edit done -/
noncomputable def pfT (hs : List Hun) (F S B T : List (Int64 × Int)) (cl : List Cnl) (E : Edi) : List (Int64 × Int) :=
  if edK E = 0 then T.insertIdx (edT E).toNat (edL E, -1)
  else if edK E = 1 then T.eraseIdx (edT E).toNat
  else if edK E = 2 then (match T[(edT E).toNat]? with | some x => if x.1 = edL E then T else T.set (edT E).toNat (edL E, -1) | none => T)
  else if edK E = 3 then (match T[(edT E).toNat]? with | some x => (T.eraseIdx (edT E).toNat).insertIdx (edD E).toNat x | none => T)
  else if edK E = 4 then (match cl[(edT E).toNat]? with | some c => stT F S B T c (edD E) | none => T)
  else (lyN (edD E).toNat hs 0 0 T 0).1
def pfC (cl : List Cnl) (E : Edi) : List Cnl := if edK E = 4 then (match cl[(edT E).toNat]? with | some c => stC cl (edT E).toNat c (edD E) | none => cl) else cl
def pfO (oc : Int) (E : Edi) : Int := if edK E = 4 then oc - 1 else oc
noncomputable def pfR (hs : List Hun) (T : List (Int64 × Int)) (E : Edi) : Nat := if edK E = 5 then (lyN (edD E).toNat hs 0 0 T 0).2 else 0
def POK (hs : List Hun) (F S B T : List (Int64 × Int)) (cl : List Cnl) (oc : Int) (E : Edi) : Prop :=
  (0 ≤ edK E ∧ edK E ≤ 5) ∧ (edK E = 0 → 0 ≤ edT E ∧ edT E ≤ T.length ∧ T.length < 40) ∧ (edK E = 1 ∨ edK E = 2 → 0 ≤ edT E ∧ edT E < T.length) ∧
  (edK E = 3 → (0 ≤ edT E ∧ edT E < T.length) ∧ (0 ≤ edD E ∧ edD E < T.length) ∧ T.length ≤ 20) ∧
  (edK E = 4 → 0 ≤ edT E ∧ ∃ c, cl[(edT E).toNat]? = some c ∧ cnS c = 0 ∧ CnB c F S B ∧ (0 ≤ cnP c ∧ cnP c ≤ T.length) ∧ T.length + cnL c (edD E) ≤ 40 ∧ (0 ≤ edD E ∧ edD E ≤ 4) ∧ (1 ≤ oc ∧ oc ≤ 21) ∧ ∀ c ∈ cl, -100000 ≤ cnP c ∧ cnP c ≤ 100000) ∧
  (edK E = 5 → (0 ≤ edD E ∧ edD E ≤ 2) ∧ T.length + frS hs ≤ 40)
/-- an edit's patch -/
def EdP (σ : Sto) (lo : Nat) (E : Edi) (hs : List Hun) : Prop := edK E = 5 → ∃ p, edP E = some p ∧ p + 1 < lo ∧ Pt σ lo p hs
section DRE
variable {Ω : Om} {σ0 : Sto} {lo a f s b d e : Nat} {T F S B : List (Int64 × Int)} {cl : List Cnl} {E : Edi} {hs : List Hun} {oc : Int} {es : List Nat}
theorem k_Drf_perform {σ : Sto} (hS : DrS σ a) (hT : DrT σ a f s b) (hC : DrC σ a cl) (ho : fI σ 202 a = oc) (h3 : Tx3 σ f s b F S B) (hX : Tx σ (a + 1) T) (hE : EdV σ lo e E) (hP : EdP σ lo E hs) (hp : ∀ p, edP E = some p → p + 1 < a ∨ a + 127 < p) (hok : POK hs F S B T cl oc E) (lF : F.length ≤ 20) (lS : S.length ≤ 20) (lB : B.length ≤ 20) (df : DO a f) (ds : DO a s) (db : DO a b) (hqF : ∀ x ∈ F, Q32 x.2) (hqS : ∀ x ∈ S, Q32 x.2) (hqB : ∀ x ∈ B, Q32 x.2) (hlo : a + 127 < lo) :
    MC Ω M_Drf_perform rm_Drf_perform (RI fun r σ' => r = pfR hs T E ∧ DrS σ' a ∧ DrT σ' a f s b ∧ DrC σ' a (pfC cl E) ∧ fI σ' 202 a = pfO oc E ∧ Tx σ' (a + 1) (pfT hs F S B T cl E) ∧ Keep σ σ' (WP a) ∧ Au3 σ σ' a) XN σ [xr (some a), xr (some e)] := by
  obtain ⟨e1, e2, e3, e4, e5, e6, e7, e8, e9, e10⟩ := hE
  obtain ⟨h0, h1, f0, f1, f2, f3, f4, f5, k1, z1, r1, c1, c2⟩ := id hS
  obtain ⟨o1, o2, o3, o4, o5, o6⟩ := hok
  have keepA : ∀ {σ' : Sto}, Keep σ σ' (In (a + 1) (a + 1 + 3)) → DrS σ' a ∧ DrT σ' a f s b ∧ DrC σ' a cl ∧ fI σ' 202 a = oc ∧ Keep σ σ' (WP a) ∧ Au3 σ σ' a := fun k => ⟨hS.keep k (by omega) (fun q q1 q2 => by omega), hT.keep k (by omega) (by omega), hC.keep k h0 (by omega) (fun q q1 q2 => by omega), ((k.2 a (by omega) (by omega)).2.2.1 _).trans ho, k.mono (fun q _ h => by omega), k.au3 (by omega) (by omega)⟩
  refine e_Drf_perform (b_Drf_perform_0 ⟨e3, fun _ => ?_⟩)
  rw [e4]
  have hc : edK E = 0 ∨ edK E = 1 ∨ edK E = 2 ∨ edK E = 3 ∨ edK E = 4 ∨ edK E = 5 := by omega
  rcases hc with h | h | h | h | h | h
  · have hcC : pfC cl E = cl := if_neg (by omega)
    have hcO : pfO oc E = oc := if_neg (by omega)
    have hcR : pfR hs T E = 0 := if_neg (by omega)
    rw [h, hcC, hcO, hcR]
    have ok := o2 h
    refine Aw.swIn (tgt := 40) (off := 36) ⟨by decide, by decide⟩ (by decide) (by decide) rfl (by decide) d_Drf_perform_4 ?_
    refine b_Drf_perform_40 ⟨h1, _, f0, e3, fun _ => ?_⟩
    rw [e5, e7]
    refine c_Drf_perform_53 (k_Txt_put hX ok.1 ok.2.1 ok.2.2 (by decide)) hX.2.1 (by decide) (by decide) (by first | decide | omega) (by first | decide | omega) (Nat.le_of_ble_eq_true rfl) (fun σ1 hq => ?_) (fun _ _ hx => hx.elim)
    obtain ⟨hX1, hk1⟩ := hq
    obtain ⟨g1, g2, g3, g4, g5⟩ := keepA hk1
    refine b_Drf_perform_56 (r_Drf_perform_57 ⟨_, rfl, rfl, g1, g2, g3, g4, ?_, g5⟩ (by decide) (by decide))
    rw [pfT, if_pos h]; exact hX1
  · have hcC : pfC cl E = cl := if_neg (by omega)
    have hcO : pfO oc E = oc := if_neg (by omega)
    have hcR : pfR hs T E = 0 := if_neg (by omega)
    have ok := o3 (Or.inl h)
    rw [h, hcC, hcO, hcR]
    refine Aw.swIn (tgt := 58) (off := 54) ⟨by decide, by decide⟩ (by decide) (by decide) rfl (by decide) d_Drf_perform_4 ?_
    refine b_Drf_perform_58 ⟨h1, _, f0, e3, fun _ => ?_⟩
    rw [e5]
    refine c_Drf_perform_66 (k_Txt_takeOut hX ok.1 ok.2) hX.2.1 (by decide) (by decide) (by first | decide | omega) (by first | decide | omega) (Nat.le_of_ble_eq_true rfl) (fun σ1 hq => ?_) (fun _ _ hx => hx.elim)
    obtain ⟨hX1, hk1⟩ := hq
    obtain ⟨g1, g2, g3, g4, g5⟩ := keepA hk1
    refine b_Drf_perform_69 (r_Drf_perform_70 ⟨_, rfl, rfl, g1, g2, g3, g4, ?_, g5⟩ (by decide) (by decide))
    rw [pfT, if_neg (by omega), if_pos h]; exact hX1
  · have hcC : pfC cl E = cl := if_neg (by omega)
    have hcO : pfO oc E = oc := if_neg (by omega)
    have hcR : pfR hs T E = 0 := if_neg (by omega)
    have ok := o3 (Or.inr h)
    obtain ⟨x, hx⟩ := inT (T := T) (p := edT E) ok.1 ok.2
    rw [h, hcC, hcO, hcR]
    refine Aw.swIn (tgt := 71) (off := 67) ⟨by decide, by decide⟩ (by decide) (by decide) rfl (by decide) d_Drf_perform_4 ?_
    refine b_Drf_perform_71 ⟨h1, _, f0, e3, fun _ => ?_⟩
    rw [e5, e7]
    refine c_Drf_perform_83 (k_Txt_rewrite hX ok.1 hx) hX.2.1 (by decide) (by decide) (by first | decide | omega) (by first | decide | omega) (Nat.le_of_ble_eq_true rfl) (fun σ1 hq => ?_) (fun _ _ hx => hx.elim)
    obtain ⟨hX1, hk1⟩ := hq
    obtain ⟨g1, g2, g3, g4, g5⟩ := keepA hk1
    refine b_Drf_perform_86 (r_Drf_perform_87 ⟨_, rfl, rfl, g1, g2, g3, g4, ?_, g5⟩ (by decide) (by decide))
    rw [pfT, if_neg (by omega), if_neg (by omega), if_pos h, hx]; exact hX1
  · have hcC : pfC cl E = cl := if_neg (by omega)
    have hcO : pfO oc E = oc := if_neg (by omega)
    have hcR : pfR hs T E = 0 := if_neg (by omega)
    have ok := o4 h
    obtain ⟨x, hx⟩ := inT (T := T) (p := edT E) ok.1.1 ok.1.2
    rw [h, hcC, hcO, hcR]
    refine Aw.swIn (tgt := 88) (off := 84) ⟨by decide, by decide⟩ (by decide) (by decide) rfl (by decide) d_Drf_perform_4 ?_
    refine b_Drf_perform_88 ⟨h1, _, f0, e3, fun _ => fun _ => ?_⟩
    rw [e5, e6]
    refine c_Drf_perform_100 (k_Txt_shift hX ok.1.1 hx ok.2.1.1 ok.2.1.2 ok.2.2) hX.2.1 (by decide) (by decide) (by first | decide | omega) (by first | decide | omega) (Nat.le_of_ble_eq_true rfl) (fun σ1 hq => ?_) (fun _ _ hx => hx.elim)
    obtain ⟨hX1, hk1⟩ := hq
    obtain ⟨g1, g2, g3, g4, g5⟩ := keepA hk1
    refine b_Drf_perform_103 (r_Drf_perform_104 ⟨_, rfl, rfl, g1, g2, g3, g4, ?_, g5⟩ (by decide) (by decide))
    rw [pfT, if_neg (by omega), if_neg (by omega), if_neg (by omega), if_pos h, hx]; exact hX1
  · have hcO : pfO oc E = oc - 1 := if_pos h
    have hcR : pfR hs T E = 0 := if_neg (by omega)
    obtain ⟨t0, c, hc, hs0, hb, hpc, hl, hh, hoc, hpl⟩ := o5 h
    have hcC : pfC cl E = stC cl (edT E).toNat c (edD E) := by unfold pfC; rw [if_pos h, hc]
    have hcT : pfT hs F S B T cl E = stT F S B T c (edD E) := by unfold pfT; rw [if_neg (by omega), if_neg (by omega), if_neg (by omega), if_neg (by omega), if_pos h, hc]
    have et : edT E = ((edT E).toNat : Nat) := by omega
    have eo : oc = ((oc.toNat : Nat) : Int) := by omega
    rw [h, hcC, hcO, hcR, hcT]
    refine Aw.swIn (tgt := 105) (off := 101) ⟨by decide, by decide⟩ (by decide) (by decide) rfl (by decide) d_Drf_perform_4 ?_
    refine b_Drf_perform_105 ⟨e3, fun _ => fun _ => ?_⟩
    rw [e5, e6]
    have := @k_Drf_settleBy Ω a f s b T F S B cl c σ (edT E).toNat oc.toNat (edD E) hS hT hC hc hs0 (by rw [← eo]; exact ho) (by omega) h3 hX hb hpc hl lF lS lB hh hpl df ds db hqF hqS hqB
    rw [← et, ← eo] at this
    refine c_Drf_perform_114 (this) h1 (by decide) (by decide) (by first | decide | omega) (by first | decide | omega) (Nat.le_of_ble_eq_true rfl) (fun σ1 hq => ?_) (fun _ _ hx => hx.elim)
    obtain ⟨g1, g2, g3, g4, hX1, hk1, ha1⟩ := hq
    exact b_Drf_perform_117 (r_Drf_perform_118 ⟨_, rfl, rfl, g1, g2, g3, g4, hX1, hk1, ha1⟩ (by decide) (by decide))
  · have hcC : pfC cl E = cl := if_neg (by omega)
    have hcO : pfO oc E = oc := if_neg (by omega)
    have hcR : pfR hs T E = (lyN (edD E).toNat hs 0 0 T 0).2 := if_pos h
    have ok := o6 h
    obtain ⟨p, p1, p2, p3⟩ := hP h
    have p4 := hp p p1
    have hcT : pfT hs F S B T cl E = (lyN (edD E).toNat hs 0 0 T 0).1 := by unfold pfT; rw [if_neg (by omega), if_neg (by omega), if_neg (by omega), if_neg (by omega), if_neg (by omega)]
    rw [h, hcC, hcO, hcR, hcT]
    refine Aw.swOut (tgt := 119) ⟨by decide, by decide⟩ (by decide) (by decide) d_Drf_perform_4 ?_
    refine b_Drf_perform_119 ⟨e3, fun _ => ⟨h1, _, f0, fun _ => ?_⟩, fun c => by rw [e8, p1] at c; cases c⟩
    rw [e6, e8, p1]
    have := @k_Pat_layOn Ω p (a + 1) lo hs T σ (edD E).toNat p3 hX (by omega) ok.2 (by omega) (by omega)
    rw [show (((edD E).toNat : Nat) : Int) = edD E by omega] at this
    refine c_Drf_perform_142 (this) p3.2.1 (by decide) (by decide) (by first | decide | omega) (by first | decide | omega) (Nat.le_of_ble_eq_true rfl) (fun y σ1 hq => ?_) (fun _ _ hx => hx.elim)
    obtain ⟨rfl, hX1, hk1⟩ := hq
    obtain ⟨g1, g2, g3, g4, g5⟩ := keepA hk1
    exact r_Drf_perform_145 ⟨_, rfl, rfl, g1, g2, g3, g4, hX1, g5⟩ (by decide) (by decide)
def setB (E : Edi) (T : List (Int64 × Int)) (cl : List Cnl) : Edi := (edK E, edT E, edD E, edL E, edP E, T, cl)
/-- what making an edit touches -/
abbrev MP (lo a d : Nat) : Nat → Prop := fun q => WP a q ∨ LsP lo (a + 4) d q
theorem k_Drf_make {σ : Sto} (hD : DfV Ω σ lo a f s b d T cl oc es) (h3 : Tx3 σ f s b F S B) (hE : EdV σ lo e E) (k0 : Keep σ0 σ No) (ha0 : a < sN σ0) (he0 : sN σ0 ≤ e) (hP : EdP σ0 lo E hs) (hp : ∀ p, edP E = some p → p + 1 < a ∨ a + 127 < p) (hok : POK hs F S B T cl oc E) (lF : F.length ≤ 20) (lS : S.length ≤ 20) (lB : B.length ≤ 20) (df : DO a f) (ds : DO a s) (db : DO a b) (hqF : ∀ x ∈ F, Q32 x.2) (hqS : ∀ x ∈ S, Q32 x.2) (hqB : ∀ x ∈ B, Q32 x.2) (hlo : a + 127 < lo) (hf : f + 2 < lo) (hs2 : s + 2 < lo) (hb2 : b + 2 < lo) (hz : es.length ≤ 520) (h50 : ∀ (i y : Nat), es[i]? = some y → sK σ0 y = 5 ∧ y < sN σ0) :
    MC Ω M_Drf_make rm_Drf_make (RI fun r σ' => r = pfR hs T E ∧ ∃ d', DfV Ω σ' lo a f s b d' (pfT hs F S B T cl E) (pfC cl E) (pfO oc E) (es ++ [e]) ∧ EdV σ' lo e (setB E T cl) ∧ Keep σ0 σ' (MP lo a d) ∧ (d' = d ∨ sN σ0 ≤ d') ∧ Au3 σ0 σ' a) XN σ [xr (some a), xr (some e)] := by
  obtain ⟨hS, hT, hC, ho, hX, hZ, hL⟩ := hD
  obtain ⟨e1, e2, e3, e4, e5, e6, e7, e8, e9, e10⟩ := id hE
  refine e_Drf_make (b_Drf_make_0 ⟨e3, _, e9, hS.2.1, _, hS.2.2.1, ?_⟩)
  refine c_Drf_make_8 (k_Txt_copy e10 hX (by omega)) e10.2.1 (by decide) (by decide) (by first | decide | omega) (by first | decide | omega) (Nat.le_of_ble_eq_true rfl) (fun σ1 hq => ?_) (fun _ _ hx => hx.elim)
  obtain ⟨hX1, hk1⟩ := hq
  have h0 := hS.1
  have hS1 := hS.keep hk1 (by omega) (fun q q1 q2 => by omega)
  have hT1 := hT.keep hk1 (by omega) (by omega)
  have hC1 := hC.keep hk1 h0 (by omega) (fun q q1 q2 => by omega)
  have ho1 := ((hk1.2 a (by omega) (by omega)).2.2.1 _).trans ho
  have hXa1 := hX.keep hk1 (fun q q1 q2 q3 => by omega)
  have hZ1 := hZ.keep hk1 (fun q q1 q2 q3 => by omega)
  have h31 := h3.keep hk1 (fun q q1 q2 q3 => by omega) (fun q q1 q2 q3 => by omega) (fun q q1 q2 q3 => by omega)
  have ge := hk1.2 e (by omega) (by omega)
  have hE1 : EdV σ1 lo e (setB E T cl) := ⟨e1, Nat.lt_of_lt_of_le e2 hk1.1, ge.1.trans e3, (ge.2.2.1 _).trans e4, (ge.2.2.1 _).trans e5, (ge.2.2.1 _).trans e6, (ge.2.2.2.1 _).trans e7, (ge.2.2.2.2.1 _).trans e8, (ge.2.2.2.2.1 _).trans e9, hX1⟩
  have hL1 : Ls Ω σ1 lo (a + 4) d es := by
    refine hL.keep hk1 (by omega) (fun hd hq => ?_)
    rcases hL.2.2.2.2.2 with q | q
    · exact absurd q.2.1 (by omega)
    · have q3 := q.2.2.1
      have t1 := e10.2.1
      have t2 := e10.2.2.2.2.1
      have t3 := e10.2.2.2.2.2.1
      have hc : d = e + 1 ∨ d = e + 1 + 1 ∨ d = e + 1 + 2 := by omega
      rcases hc with rfl | rfl | rfl <;> omega
  refine b_Drf_make_11 ⟨hS1.2.1, _, hS1.2.2.2.1, ?_⟩
  have hr : lsR Ω σ1 d es ∨ (1 ≤ 1 ∧ lsZ Ω σ1 d ≤ 800) := by
    by_cases c : lsR Ω σ1 d es
    · exact Or.inl c
    · refine Or.inr ⟨Nat.le_refl _, ?_⟩
      unfold lsZ
      split
      · decide
      · rename_i hd
        rcases hL1.2.2.2.2.2 with q | q
        · exact absurd q.1 hd
        · have c2 : ¬ es.length < sZ σ1 d := fun z => c ⟨hd, z⟩
          have := q.2.2.2.2.2.1
          omega
  have h51 : ∀ (i y : Nat), es[i]? = some y → sK σ1 y = 5 := fun i y hy => by
    obtain ⟨q1, q2⟩ := h50 i y hy
    exact (hk1.2 y (Nat.lt_of_lt_of_le q2 k0.1) (by omega)).1.trans ((k0.2 y q2 (fun z => z)).1.trans q1)
  refine c_Drf_make_16 (k_Lst_add (c := 1) (s := 800) hL1 h51 hE1.2.2.1 (by have := hk1.1; omega) (by omega) hr) hL1.2.2.1 (by decide) (by decide) (by first | decide | omega) (by first | decide | omega) (Nat.le_of_ble_eq_true rfl) (fun z σ2 hq => ?_) (fun _ _ hx => hx.elim)
  obtain ⟨d', hL2, hk2, hn2⟩ := hq
  have hd2 : d' = d ∨ sN σ1 ≤ d' := by
    rcases hn2 with q | q
    · exact Or.inl q.2.1
    · exact Or.inr (Nat.le_of_eq q.2.1.symm)
  have hS2 := hS1.keep hk2 (by omega) (fun q q1 q2 => by omega)
  have h01 := hS1.1
  have hT2 := hT1.keep hk2 (by omega) (by omega)
  have hC2 := hC1.keep hk2 h01 (by omega) (fun q q1 q2 => by omega)
  have ho2 := ((hk2.2 a (by omega) (by omega)).2.2.1 _).trans ho1
  have hXa2 := hXa1.keep hk2 (fun q q1 q2 q3 => by omega)
  have hZ2 := hZ1.keep hk2 (fun q q1 q2 q3 => by omega)
  have h32 := h31.keep hk2 (fun q q1 q2 q3 => by omega) (fun q q1 q2 q3 => by omega) (fun q q1 q2 q3 => by omega)
  have hnd : ∀ q, lo ≤ q → sK σ1 q ≠ 59 → ¬ LsP lo (a + 4) d q := fun q q1 q2 q3 => by
    rcases q3 with q3 | ⟨q3, _⟩
    · omega
    · rcases hL1.2.2.2.2.2 with w | w
      · have := w.2.1; omega
      · rw [q3] at q2; exact q2 w.2.2.1
  have hE2 := hE1.keep hk2 hnd
  have k01 : Keep σ0 σ1 No := k0.tr hk1 (fun q q1 q2 => by omega)
  have k02 : Keep σ0 σ2 (LsP lo (a + 4) d) := (k01.mono (fun _ _ h => h.elim)).trans hk2
  have hP2 : EdP σ2 lo (setB E T cl) hs := fun h5 => by
    obtain ⟨p, p1, p2, p3⟩ := hP h5
    have := hp p p1
    have p31 := p3.keep k01 (fun _ _ _ h => h) (fun h => h) (fun h => h)
    exact ⟨p, p1, p2, p31.keep hk2 hnd (by omega) (by omega)⟩
  refine b_Drf_make_19 ?_
  refine c_Drf_make_22 (k_Drf_perform (E := setB E T cl) (hs := hs) hS2 hT2 hC2 ho2 h32 hXa2 hE2 hP2 hp hok lF lS lB df ds db hqF hqS hqB hlo) hS2.2.1 (by decide) (by decide) (by first | decide | omega) (by first | decide | omega) (Nat.le_of_ble_eq_true rfl) (fun r σ3 hq => ?_) (fun _ _ hx => hx.elim)
  obtain ⟨hr3, hS3, hT3, hC3, ho3, hX3, hk3, ha3⟩ := hq
  have hd3 : lo ≤ d' := by
    rcases hL2.2.2.2.2.2 with q | q
    · exact absurd q.2 (by simp)
    · exact q.1
  refine r_Drf_make_25 ⟨_, rfl, hr3, d', ⟨hS3, hT3, hC3, ho3, hX3, hZ2.keep hk3 (fun q q1 q2 q3 => by omega), hL2.keep hk3 (by omega) (fun _ => by omega)⟩, hE2.keep hk3 (fun q q1 q2 q3 => by omega), ?_, ?_, ?_⟩ (by decide) (by decide)
  · exact (k02.mono (fun q _ h => Or.inr h)).trans (hk3.mono (fun q _ h => Or.inl h))
  · rcases hd2 with q | q
    · exact Or.inl q
    · exact Or.inr (Nat.le_trans k01.1 q)
  · exact Au3.trans (σ1 := σ2) (k02.au3 ha0 (by omega)) ha3
end DRE
