/-! BY HAND: the state that a run of calls has, and what a store holds of it for the class -/
/-- a version: its lines, author, first, second, a bit for each below, edits, what it was made over -/
abbrev VR := List (Int64 × Int) × Int × Int × Int × Int64 × List Edi × Nat
abbrev vrT (r : VR) : List (Int64 × Int) := r.1
abbrev vrA (r : VR) : Int := r.2.1
abbrev vr1 (r : VR) : Int := r.2.2.1
abbrev vr2 (r : VR) : Int := r.2.2.2.1
abbrev vrW (r : VR) : Int64 := r.2.2.2.2.1
abbrev vrE (r : VR) : List Edi := r.2.2.2.2.2.1
abbrev vrB (r : VR) : Nat := r.2.2.2.2.2.2
/-- a draft: its lines, its conflicts, its edits, author, first, second, base -/
abbrev DR := List (Int64 × Int) × List Cnl × List Edi × Int × Int × Int × Nat
abbrev drT (r : DR) : List (Int64 × Int) := r.1
abbrev drC (r : DR) : List Cnl := r.2.1
abbrev drE (r : DR) : List Edi := r.2.2.1
abbrev drA (r : DR) : Int := r.2.2.2.1
abbrev dr1 (r : DR) : Int := r.2.2.2.2.1
abbrev dr2 (r : DR) : Int := r.2.2.2.2.2.1
abbrev drB (r : DR) : Nat := r.2.2.2.2.2.2
/-- a comparison: both texts' keys, pairs, moves, how many -/
abbrev CR := List Int64 × List Int64 × (Nat → Int) × (Nat → Int) × Nat
/-- a review: version, on which, landed, verdicts -/
abbrev RR' := Int × Int × Int × (Nat → Int)
/-- the book: how many lines, their signs, authors, origins -/
abbrev BR := Nat × (Nat → Int64) × (Nat → Int) × (Nat → Int)
abbrev St := List VR × Option DR × Option CR × List (List Hun) × List Int × List RR' × BR × Int
abbrev sV (S : St) : List VR := S.1
abbrev sD (S : St) : Option DR := S.2.1
abbrev sC (S : St) : Option CR := S.2.2.1
abbrev sP (S : St) : List (List Hun) := S.2.2.2.1
abbrev sW (S : St) : List Int := S.2.2.2.2.1
abbrev sR (S : St) : List RR' := S.2.2.2.2.2.1
abbrev sB (S : St) : BR := S.2.2.2.2.2.2.1
abbrev sM (S : St) : Int := S.2.2.2.2.2.2.2
abbrev bkN (b : BR) : Nat := b.1
abbrev bkS (b : BR) : Nat → Int64 := b.2.1
abbrev bkA (b : BR) : Nat → Int := b.2.2.1
abbrev bkO (b : BR) : Nat → Int := b.2.2.2
def ver0 : VR := ([], -1, -1, -1, 0, [], 0)
def vrO (V : List VR) (v : Nat) : VR := V.getD v ver0
/-- a version's text -/
def vtx (V : List VR) (v : Int) : List (Int64 × Int) := vrT (vrO V v.toNat)
/-- how many conflicts are open -/
def opn (cl : List Cnl) : Nat := cl.countP (fun c => decide (cnS c = 0))
def DwH (σ : Sto) (x sw : Nat) : Prop := x + 753 < sN σ ∧ sK σ x = 1 ∧ sw ≤ 1 ∧ fR σ 0 x = some (x + 1) ∧ fR σ 1 x = some (x + 2) ∧ fR σ 2 x = some (x + 3) ∧ fR σ 3 x = some (x + 4) ∧ fR σ 4 x = some (x + 5) ∧ fR σ 5 x = some (x + 8) ∧ fR σ 6 x = some (x + 36) ∧ fR σ 7 x = some (x + 64) ∧ fR σ 8 x = some (x + 118 + 128 * sw) ∧ fR σ 9 x = some (x + 118 + 128 * (1 - sw)) ∧
  (sK σ (x + 1) = 55 ∧ sZ σ (x + 1) = 40 ∧ ∀ i, i < 40 → aR σ (x + 1) i = some (x + 374 + 8 * i)) ∧ (sK σ (x + 2) = 56 ∧ sZ σ (x + 2) = 10 ∧ ∀ i, i < 10 → aR σ (x + 2) i = some (x + 694 + 2 * i)) ∧ (sK σ (x + 3) = 57 ∧ sZ σ (x + 3) = 20 ∧ ∀ i, i < 20 → aR σ (x + 3) i = some (x + 714 + 2 * i)) ∧ (sK σ (x + 4) = 50 ∧ sZ σ (x + 4) = 20)
def DwF (σ : Sto) (x : Nat) (hd ic nv np nr nn em : Int) : Prop := fI σ 10 x = hd ∧ fI σ 11 x = ic ∧ fI σ 12 x = nv ∧ fI σ 13 x = np ∧ fI σ 14 x = nr ∧ fI σ 15 x = nn ∧ fI σ 16 x = em
def VsV (Ω : Om) (σ : Sto) (lo x : Nat) (V : List VR) (ds : Nat → Nat) (el : Nat → List Nat) : Prop := ∀ v, v < 40 → (∃ N, VrV Ω σ lo (x + 374 + 8 * v) (ds v) (vrT (vrO V v)) N (el v) (vrA (vrO V v)) (vr1 (vrO V v)) (vr2 (vrO V v)) (vrW (vrO V v)) ∧ N.length ≤ 20 ∧ ∀ y ∈ N, y.2 = -1 ∧ v ≠ 0) ∧ EdsV σ lo (el v) (vrE (vrO V v)) ∧ (V.length ≤ v → ds v = oE Ω)
def MnV (Ω : Om) (σ : Sto) (lo x a d : Nat) (es : List Nat) (D : Option DR) : Prop := ∃ f s b T cl oc, DfV Ω σ lo a f s b d T cl oc es ∧ ∀ r, D = some r → T = drT r ∧ cl = drC r ∧ oc = opn (drC r) ∧ EdsV σ lo es (drE r) ∧ fI σ 203 a = drA r ∧ fI σ 204 a = dr1 r ∧ fI σ 205 a = dr2 r ∧ f = x + 375 + 8 * (dr1 r).toNat ∧ (dr2 r = -1 → s = a + 62 ∧ b = a + 62) ∧ (dr2 r ≠ -1 → s = x + 375 + 8 * (dr2 r).toNat ∧ b = x + 375 + 8 * drB r)
def CmV (σ : Sto) (x : Nat) (C : Option CR) : Prop := CpS σ (x + 8) ∧ ∀ X Y P M n, C = some (X, Y, P, M, n) → CpW σ (x + 8) X Y ∧ CpP σ (x + 8) X.length Y.length P M n
def PaV (σ : Sto) (lo x : Nat) (P : List (List Hun)) : Prop := ∀ i, i < 10 → Pt σ lo (x + 694 + 2 * i) (P.getD i [])
def NoV (σ : Sto) (x : Nat) (N : List Int) : Prop := ∀ i v, N[i]? = some v → aI σ (x + 4) i = v
def rev0 : RR' := (-1, -1, 0, fun _ => 0)
def ReV (σ : Sto) (x : Nat) (R : List RR') : Prop := ∀ i, i < 20 → Rv σ (x + 714 + 2 * i) (R.getD i rev0).2.2.2 (R.getD i rev0).1 (R.getD i rev0).2.1 (R.getD i rev0).2.2.1
def Dst (lo : Nat) (ds : Nat → Nat) : Prop := ∀ i j, i < 42 → j < 42 → lo ≤ ds i → ds i = ds j → i = j
def b01 (b : Bool) : Int := if b = true then 1 else 0
/-- what the counters say -/
def Cnt (S : St) : Prop := 1 ≤ (sV S).length ∧ (sV S).length ≤ 40 ∧ (sP S).length ≤ 10 ∧ (sR S).length ≤ 20 ∧ (sW S).length ≤ 20 ∧ 0 ≤ sM S ∧ sM S ≤ 512
/-- the parts of the class's view, with its hidden numbers -/
def DwW (Ω : Om) (σ : Sto) (lo x : Nat) (S : St) (sw : Nat) (ds : Nat → Nat) (el : Nat → List Nat) : Prop :=
  DwH σ x sw ∧ DwF σ x (b01 (sD S).isSome) (b01 (sC S).isSome) (sV S).length (sP S).length (sR S).length (sW S).length (sM S) ∧ VsV Ω σ lo x (sV S) ds el ∧ MnV Ω σ lo x (x + 118 + 128 * sw) (ds 40) (el 40) (sD S) ∧ MnV Ω σ lo x (x + 118 + 128 * (1 - sw)) (ds 41) (el 41) none ∧ CmV σ x (sC S) ∧ PaV σ lo x (sP S) ∧ NoV σ x (sW S) ∧ ReV σ x (sR S) ∧ Bk σ (x + 5) (bkN (sB S)) (bkA (sB S)) (bkO (sB S)) ∧ CpS σ (x + 36) ∧ TmS σ (x + 64) ∧ Dst lo ds
def DwV (Ω : Om) (σ : Sto) (lo x : Nat) (S : St) : Prop := (x + 753 < lo ∧ lo ≤ sN σ ∧ oE Ω < lo) ∧ ∃ sw ds el, DwW Ω σ lo x S sw ds el
/-- what calls of the class touch -/
abbrev DwP (lo x : Nat) : Nat → Prop := fun q => (x ≤ q ∧ q < x + 754) ∨ lo ≤ q
section STA
variable {Ω : Om} {σ σ' : Sto} {lo x a d sw v n : Nat} {P : Nat → Prop} {V : List VR} {ds : Nat → Nat} {el : Nat → List Nat} {es : List Nat} {D : Option DR} {C : Option CR} {S : St}
theorem DwH.keep (h : DwH σ x sw) (k : Keep σ σ' P) (d0 : ∀ q, x ≤ q → q ≤ x + 4 → ¬ P q) : DwH σ' x sw := by
  obtain ⟨h0, h1, hs, f0, f1, f2, f3, f4, f5, f6, f7, f8, f9, ⟨k1, z1, r1⟩, ⟨k2, z2, r2⟩, ⟨k3, z3, r3⟩, ⟨k4, z4⟩⟩ := h
  have e0 := k.2 x (by omega) (d0 _ (by omega) (by omega))
  have e1 := k.2 (x + 1) (by omega) (d0 _ (by omega) (by omega))
  have e2 := k.2 (x + 2) (by omega) (d0 _ (by omega) (by omega))
  have e3 := k.2 (x + 3) (by omega) (d0 _ (by omega) (by omega))
  have e4 := k.2 (x + 4) (by omega) (d0 _ (by omega) (by omega))
  refine ⟨Nat.lt_of_lt_of_le h0 k.1, e0.1.trans h1, hs, (e0.2.2.2.2.1 _).trans f0, (e0.2.2.2.2.1 _).trans f1, (e0.2.2.2.2.1 _).trans f2, (e0.2.2.2.2.1 _).trans f3, (e0.2.2.2.2.1 _).trans f4, (e0.2.2.2.2.1 _).trans f5, (e0.2.2.2.2.1 _).trans f6, (e0.2.2.2.2.1 _).trans f7, (e0.2.2.2.2.1 _).trans f8, (e0.2.2.2.2.1 _).trans f9, ⟨e1.1.trans k1, e1.2.1.trans z1, fun i hi => ?_⟩, ⟨e2.1.trans k2, e2.2.1.trans z2, fun i hi => ?_⟩, ⟨e3.1.trans k3, e3.2.1.trans z3, fun i hi => ?_⟩, ⟨e4.1.trans k4, e4.2.1.trans z4⟩⟩
  · rw [e1.2.2.2.2.2.2.2]; exact r1 i hi
  · rw [e2.2.2.2.2.2.2.2]; exact r2 i hi
  · rw [e3.2.2.2.2.2.2.2]; exact r3 i hi
theorem DwH.uI {f : Nat} {w : Int} (h : DwH σ x sw) : DwH (uI σ f x w) x sw := h
theorem DwF.keep {hd ic nv np nr nn em : Int} (h : DwF σ x hd ic nv np nr nn em) (k : Keep σ σ' P) (hx : x < sN σ) (d0 : ¬ P x) : DwF σ' x hd ic nv np nr nn em := by
  obtain ⟨h1, h2, h3, h4, h5, h6, h7⟩ := h
  have e := k.2 x hx d0
  exact ⟨(e.2.2.1 _).trans h1, (e.2.2.1 _).trans h2, (e.2.2.1 _).trans h3, (e.2.2.1 _).trans h4, (e.2.2.1 _).trans h5, (e.2.2.1 _).trans h6, (e.2.2.1 _).trans h7⟩
theorem VsV.keep (h : VsV Ω σ lo x V ds el) (k : Keep σ σ' P) (dj : ∀ q, x + 374 ≤ q → q < x + 694 → ¬ P q) (dl : ∀ q, lo ≤ q → sK σ q ≠ 59 → ¬ P q) (dd : ∀ v, v < 40 → lo ≤ ds v → ¬ P (ds v)) : VsV Ω σ' lo x V ds el := by
  intro v hv
  obtain ⟨⟨N, h1, h2, h3⟩, h4, h5⟩ := h v hv
  exact ⟨⟨N, h1.keep k (fun q q1 q2 => dj q (by omega) (by omega)) (dd v hv), h2, h3⟩, h4.keep k dl, h5⟩
theorem DfV.keep {f s b : Nat} {T : List (Int64 × Int)} {cl : List Cnl} {oc : Int} (h : DfV Ω σ lo a f s b d T cl oc es) (k : Keep σ σ' P) (dj : ∀ q, a ≤ q → q ≤ a + 127 → ¬ P q) (dd : lo ≤ d → ¬ P d) : DfV Ω σ' lo a f s b d T cl oc es := by
  obtain ⟨h1, h2, h3, h4, h5, h6, h7⟩ := h
  have h0 := h1.1
  exact ⟨h1.keep k (dj _ (by omega) (by omega)) (fun q q1 q2 => dj q (by omega) (by omega)), h2.keep k (by omega) (dj _ (by omega) (by omega)), h3.keep k h0 (dj _ (by omega) (by omega)) (fun q q1 q2 => dj q (by omega) (by omega)), ((k.2 a (by omega) (dj _ (by omega) (by omega))).2.2.1 _).trans h4, h5.keep k (fun q q1 q2 => dj q (by omega) (by omega)), h6.keep k (fun q q1 q2 => dj q (by omega) (by omega)), h7.keep k (dj _ (by omega) (by omega)) dd⟩
theorem MnV.keep (h : MnV Ω σ lo x a d es D) (k : Keep σ σ' P) (dj : ∀ q, a ≤ q → q ≤ a + 127 → ¬ P q) (dl : ∀ q, lo ≤ q → sK σ q ≠ 59 → ¬ P q) (dd : lo ≤ d → ¬ P d) : MnV Ω σ' lo x a d es D := by
  obtain ⟨f, s, b, T, cl, oc, h1, h2⟩ := h
  have h0 := h1.1.1
  have e := k.2 a (by omega) (dj _ (by omega) (by omega))
  refine ⟨f, s, b, T, cl, oc, h1.keep k dj dd, fun r hr => ?_⟩
  obtain ⟨g1, g2, g3, g4, g5, g6, g7, g8⟩ := h2 r hr
  exact ⟨g1, g2, g3, g4.keep k dl, (e.2.2.1 _).trans g5, (e.2.2.1 _).trans g6, (e.2.2.1 _).trans g7, g8⟩
theorem CpP.keepA {c : Nat} {X Y : List Int64} {A M : Nat → Int} {b n : Nat} (h : CpW σ c X Y ∧ CpP σ c X.length b A M n) (k : Keep σ σ' P) (dj : ∀ q, c ≤ q → q ≤ c + 27 → ¬ P q) : CpW σ' c X Y ∧ CpP σ' c X.length b A M n := cpkeep h.1 h.2 k dj
theorem CmV.keep (h : CmV σ x C) (k : Keep σ σ' P) (dj : ∀ q, x + 8 ≤ q → q ≤ x + 35 → ¬ P q) : CmV σ' x C :=
  ⟨h.1.keep k (fun q q1 q2 => dj q (by omega) (by omega)), fun X Y A M n hc => CpP.keepA (h.2 X Y A M n hc) k (fun q q1 q2 => dj q (by omega) (by omega))⟩
theorem PaV.keep {A : List (List Hun)} (h : PaV σ lo x A) (k : Keep σ σ' P) (dj : ∀ q, x + 694 ≤ q → q < x + 714 → ¬ P q) (dl : ∀ q, lo ≤ q → sK σ q ≠ 59 → ¬ P q) : PaV σ' lo x A := fun i hi => (h i hi).keep k dl (dj _ (by omega) (by omega)) (dj _ (by omega) (by omega))
theorem NoV.keep {A : List Int} (h : NoV σ x A) (k : Keep σ σ' P) (hx : x + 4 < sN σ) (d4 : ¬ P (x + 4)) : NoV σ' x A := fun i v hv => by rw [(k.2 (x + 4) hx d4).2.2.2.2.2.1]; exact h i v hv
theorem ReV.keep {A : List RR'} (h : ReV σ x A) (k : Keep σ σ' P) (dj : ∀ q, x + 714 ≤ q → q < x + 754 → ¬ P q) : ReV σ' x A := fun i hi => (h i hi).keep k (fun q q1 q2 => dj q (by omega) (by omega))
theorem TmS.keep {t : Nat} (h : TmS σ t) (k : Keep σ σ' P) (dj : ∀ q, t ≤ q → q ≤ t + 53 → ¬ P q) : TmS σ' t := by
  have h0 := h.1
  refine (show TmS σ' t from ?_)
  obtain ⟨h0, h1, f0, f1, f2, f3, f4, f5, f6, f7, f8, k1, k2, k3, k4, k5, k6, k7, k8, k9, z1, z2, z3, z4, z5, z6, z7, z8, z9, r1, r2⟩ := h
  have e : ∀ d, d ≤ 53 → Same1 σ σ' (t + d) := fun d hd => k.2 _ (by omega) (dj _ (by omega) (by omega))
  have e0 := e 0 (by omega)
  have e1 := e 1 (by omega)
  have e2 := e 2 (by omega)
  have e3 := e 3 (by omega)
  have e4 := e 4 (by omega)
  have e5 := e 5 (by omega)
  have e6 := e 28 (by omega)
  have e7 := e 51 (by omega)
  have e8 := e 52 (by omega)
  have e9 := e 53 (by omega)
  refine ⟨Nat.lt_of_lt_of_le h0 k.1, e0.1.trans h1, (e0.2.2.2.2.1 _).trans f0, (e0.2.2.2.2.1 _).trans f1, (e0.2.2.2.2.1 _).trans f2, (e0.2.2.2.2.1 _).trans f3, (e0.2.2.2.2.1 _).trans f4, (e0.2.2.2.2.1 _).trans f5, (e0.2.2.2.2.1 _).trans f6, (e0.2.2.2.2.1 _).trans f7, (e0.2.2.2.2.1 _).trans f8, e1.1.trans k1, e2.1.trans k2, e3.1.trans k3, e4.1.trans k4, e5.1.trans k5, e6.1.trans k6, e7.1.trans k7, e8.1.trans k8, e9.1.trans k9, e1.2.1.trans z1, e2.2.1.trans z2, e3.2.1.trans z3, e4.2.1.trans z4, e5.2.1.trans z5, e6.2.1.trans z6, e7.2.1.trans z7, e8.2.1.trans z8, e9.2.1.trans z9, fun i hi => ?_, fun i hi => ?_⟩
  · have g := k.2 (t + 6 + i) (by omega) (dj _ (by omega) (by omega))
    rw [e5.2.2.2.2.2.2.2, g.1, g.2.1]; exact r1 i hi
  · have g := k.2 (t + 29 + i) (by omega) (dj _ (by omega) (by omega))
    rw [e6.2.2.2.2.2.2.2, g.1, g.2.1]; exact r2 i hi
theorem DwW.keep (h : DwW Ω σ lo x S sw ds el) (k : Keep σ σ' P) (dj : ∀ q, DwP lo x q → ¬ P q) : DwW Ω σ' lo x S sw ds el := by
  obtain ⟨h1, h2, h3, h4, h5, h6, h7, h8, h9, h10, h11, h12, h13⟩ := h
  have h0 := h1.1
  have hs := h1.2.2.1
  have lowq : ∀ q, x ≤ q → q < x + 754 → ¬ P q := fun q q1 q2 => dj q (Or.inl ⟨q1, q2⟩)
  have hiq : ∀ q, lo ≤ q → ¬ P q := fun q q1 => dj q (Or.inr q1)
  exact ⟨h1.keep k (fun q q1 q2 => lowq q (by omega) (by omega)), h2.keep k (by omega) (lowq _ (by omega) (by omega)), h3.keep k (fun q q1 q2 => lowq q (by omega) (by omega)) (fun q q1 _ => hiq q q1) (fun v _ q1 => hiq _ q1), h4.keep k (fun q q1 q2 => lowq q (by omega) (by omega)) (fun q q1 _ => hiq q q1) (fun q1 => hiq _ q1), h5.keep k (fun q q1 q2 => lowq q (by omega) (by omega)) (fun q q1 _ => hiq q q1) (fun q1 => hiq _ q1), h6.keep k (fun q q1 q2 => lowq q (by omega) (by omega)), h7.keep k (fun q q1 q2 => lowq q (by omega) (by omega)) (fun q q1 _ => hiq q q1), h8.keep k (by omega) (lowq _ (by omega) (by omega)), h9.keep k (fun q q1 q2 => lowq q (by omega) (by omega)), h10.keep k (fun q q1 q2 => lowq q (by omega) (by omega)), h11.keep k (fun q q1 q2 => lowq q (by omega) (by omega)), h12.keep k (fun q q1 q2 => lowq q (by omega) (by omega)), h13⟩
theorem DwV.keep (h : DwV Ω σ lo x S) (k : Keep σ σ' P) (dj : ∀ q, DwP lo x q → ¬ P q) : DwV Ω σ' lo x S := by
  obtain ⟨⟨h1, h2, h3⟩, sw, ds, el, h4⟩ := h
  exact ⟨⟨h1, Nat.le_trans h2 k.1, h3⟩, sw, ds, el, h4.keep k dj⟩
end STA
