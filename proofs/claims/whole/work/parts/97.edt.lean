/-! BY HAND: edits of the draft, as the class makes them -/
section EDI
variable {Ω : Om} {σ : Sto} {lo a : Nat}
theorem k_Edt_init {k t d : Int} {l : Int64} {p : Option Nat} (ha : sK σ a = 5) (hn : sN σ = a + 1) (hlo : lo ≤ a) (hk : Q32 k) (ht : Q32 t) (hd : Q32 d) : MC Ω M_Edt_init rm_Edt_init (RV fun σ' => EdV σ' lo a (k, t, d, l, p, [], []) ∧ Keep σ σ' (At1 a)) XN σ [xr (some a), xi k, xi t, xi d, xl l, xr p] := by
  refine e_Edt_init (b_Edt_init_0 ⟨by decide, Nat.le_of_ble_eq_true rfl, by decide, by decide, fun σ1 e1 => ?_⟩)
  have k1 : sK σ1 a = 5 := by rw [e1, sK_nO, if_neg (by omega)]; exact ha
  have n1 : sN σ1 = a + 2 := by rw [e1, sN_nO, hn]
  have q1 : sK σ1 (a + 1) = 10 := by rw [e1, sK_nO, if_pos (by omega)]
  rw [hn]
  refine c_Edt_init_9 (k_Txt_init q1 n1) (by decide) (by decide) (by first | decide | omega) (by first | decide | omega) (Nat.le_of_ble_eq_true rfl) (fun σ2 hq => ?_) (fun _ _ hx => hx.elim)
  obtain ⟨h2, n2, hk2⟩ := hq
  have k2 := hk2.2 a (by omega) (by omega)
  have k2' := k2.1.trans k1
  generalize hσ : uR (uL (uI (uI (uI (uR σ2 261 a (some (a + 1))) 256 a k) 257 a t) 258 a d) 259 a l) 260 a p = σ3
  have k3 : Keep σ2 σ3 (At1 a) := by rw [← hσ]; exact kuR1.trans (kuI1.trans (kuI1.trans (kuI1.trans (kuL1.trans kuR1))))
  have hx := h2.keep k3 (fun q q1 q2 q3 => by omega)
  refine b_Edt_init_12 ⟨k2', k2', hk, ht, hd, ?_⟩
  rw [hσ]
  have k01 : Keep σ σ1 (At1 a) := by rw [e1]; exact Keep.nO
  have h3N := Nat.lt_of_lt_of_le h2.1 k3.1
  refine r_Edt_init_42 ⟨rfl, ⟨hlo, by omega, ?_, ?_, ?_, ?_, ?_, ?_, ?_, hx⟩, (k01.tr hk2 (fun q h1 h2 => by omega)).trans k3⟩ (by decide) (by decide)
  · rw [← hσ]; simp only [fI_uI, fL_uI, fR_uI, aI_uI, aL_uI, aR_uI, sK_uI, sZ_uI, sN_uI, fI_uL, fL_uL, fR_uL, aI_uL, aL_uL, aR_uL, sK_uL, sZ_uL, sN_uL, fI_uR, fL_uR, fR_uR, aI_uR, aL_uR, aR_uR, sK_uR, sZ_uR, sN_uR, fI_vI, fL_vI, fR_vI, aI_vI, aL_vI, aR_vI, sK_vI, sZ_vI, sN_vI, fI_vL, fL_vL, fR_vL, aI_vL, aL_vL, aR_vL, sK_vL, sZ_vL, sN_vL, fI_vR, fL_vR, fR_vR, aI_vR, aL_vR, aR_vR, sK_vR, sZ_vR, sN_vR, fI_nX, fL_nX, fR_nX, aI_nX, aL_nX, aR_nX, sK_nX, sZ_nX, sN_nX, fI_nO, fL_nO, fR_nO, aI_nO, aL_nO, aR_nO, sK_nO, sZ_nO, sN_nO]; exact k2'
  · rw [← hσ]; simp only [fI_uI, fL_uI, fR_uI, aI_uI, aL_uI, aR_uI, sK_uI, sZ_uI, sN_uI, fI_uL, fL_uL, fR_uL, aI_uL, aL_uL, aR_uL, sK_uL, sZ_uL, sN_uL, fI_uR, fL_uR, fR_uR, aI_uR, aL_uR, aR_uR, sK_uR, sZ_uR, sN_uR, fI_vI, fL_vI, fR_vI, aI_vI, aL_vI, aR_vI, sK_vI, sZ_vI, sN_vI, fI_vL, fL_vL, fR_vL, aI_vL, aL_vL, aR_vL, sK_vL, sZ_vL, sN_vL, fI_vR, fL_vR, fR_vR, aI_vR, aL_vR, aR_vR, sK_vR, sZ_vR, sN_vR, fI_nX, fL_nX, fR_nX, aI_nX, aL_nX, aR_nX, sK_nX, sZ_nX, sN_nX, fI_nO, fL_nO, fR_nO, aI_nO, aL_nO, aR_nO, sK_nO, sZ_nO, sN_nO]; rw [if_neg (by omega), if_neg (by omega), if_pos ⟨trivial, trivial⟩]
  · rw [← hσ]; simp only [fI_uI, fL_uI, fR_uI, aI_uI, aL_uI, aR_uI, sK_uI, sZ_uI, sN_uI, fI_uL, fL_uL, fR_uL, aI_uL, aL_uL, aR_uL, sK_uL, sZ_uL, sN_uL, fI_uR, fL_uR, fR_uR, aI_uR, aL_uR, aR_uR, sK_uR, sZ_uR, sN_uR, fI_vI, fL_vI, fR_vI, aI_vI, aL_vI, aR_vI, sK_vI, sZ_vI, sN_vI, fI_vL, fL_vL, fR_vL, aI_vL, aL_vL, aR_vL, sK_vL, sZ_vL, sN_vL, fI_vR, fL_vR, fR_vR, aI_vR, aL_vR, aR_vR, sK_vR, sZ_vR, sN_vR, fI_nX, fL_nX, fR_nX, aI_nX, aL_nX, aR_nX, sK_nX, sZ_nX, sN_nX, fI_nO, fL_nO, fR_nO, aI_nO, aL_nO, aR_nO, sK_nO, sZ_nO, sN_nO]; rw [if_neg (by omega), if_pos ⟨trivial, trivial⟩]
  · rw [← hσ]; simp only [fI_uI, fL_uI, fR_uI, aI_uI, aL_uI, aR_uI, sK_uI, sZ_uI, sN_uI, fI_uL, fL_uL, fR_uL, aI_uL, aL_uL, aR_uL, sK_uL, sZ_uL, sN_uL, fI_uR, fL_uR, fR_uR, aI_uR, aL_uR, aR_uR, sK_uR, sZ_uR, sN_uR, fI_vI, fL_vI, fR_vI, aI_vI, aL_vI, aR_vI, sK_vI, sZ_vI, sN_vI, fI_vL, fL_vL, fR_vL, aI_vL, aL_vL, aR_vL, sK_vL, sZ_vL, sN_vL, fI_vR, fL_vR, fR_vR, aI_vR, aL_vR, aR_vR, sK_vR, sZ_vR, sN_vR, fI_nX, fL_nX, fR_nX, aI_nX, aL_nX, aR_nX, sK_nX, sZ_nX, sN_nX, fI_nO, fL_nO, fR_nO, aI_nO, aL_nO, aR_nO, sK_nO, sZ_nO, sN_nO]; rw [if_pos ⟨trivial, trivial⟩]
  · rw [← hσ]; simp only [fI_uI, fL_uI, fR_uI, aI_uI, aL_uI, aR_uI, sK_uI, sZ_uI, sN_uI, fI_uL, fL_uL, fR_uL, aI_uL, aL_uL, aR_uL, sK_uL, sZ_uL, sN_uL, fI_uR, fL_uR, fR_uR, aI_uR, aL_uR, aR_uR, sK_uR, sZ_uR, sN_uR, fI_vI, fL_vI, fR_vI, aI_vI, aL_vI, aR_vI, sK_vI, sZ_vI, sN_vI, fI_vL, fL_vL, fR_vL, aI_vL, aL_vL, aR_vL, sK_vL, sZ_vL, sN_vL, fI_vR, fL_vR, fR_vR, aI_vR, aL_vR, aR_vR, sK_vR, sZ_vR, sN_vR, fI_nX, fL_nX, fR_nX, aI_nX, aL_nX, aR_nX, sK_nX, sZ_nX, sN_nX, fI_nO, fL_nO, fR_nO, aI_nO, aL_nO, aR_nO, sK_nO, sZ_nO, sN_nO]; rw [if_pos ⟨trivial, trivial⟩]
  · rw [← hσ]; simp only [fI_uI, fL_uI, fR_uI, aI_uI, aL_uI, aR_uI, sK_uI, sZ_uI, sN_uI, fI_uL, fL_uL, fR_uL, aI_uL, aL_uL, aR_uL, sK_uL, sZ_uL, sN_uL, fI_uR, fL_uR, fR_uR, aI_uR, aL_uR, aR_uR, sK_uR, sZ_uR, sN_uR, fI_vI, fL_vI, fR_vI, aI_vI, aL_vI, aR_vI, sK_vI, sZ_vI, sN_vI, fI_vL, fL_vL, fR_vL, aI_vL, aL_vL, aR_vL, sK_vL, sZ_vL, sN_vL, fI_vR, fL_vR, fR_vR, aI_vR, aL_vR, aR_vR, sK_vR, sZ_vR, sN_vR, fI_nX, fL_nX, fR_nX, aI_nX, aL_nX, aR_nX, sK_nX, sZ_nX, sN_nX, fI_nO, fL_nO, fR_nO, aI_nO, aL_nO, aR_nO, sK_nO, sZ_nO, sN_nO]; rw [if_pos ⟨trivial, trivial⟩]
  · rw [← hσ]; simp only [fI_uI, fL_uI, fR_uI, aI_uI, aL_uI, aR_uI, sK_uI, sZ_uI, sN_uI, fI_uL, fL_uL, fR_uL, aI_uL, aL_uL, aR_uL, sK_uL, sZ_uL, sN_uL, fI_uR, fL_uR, fR_uR, aI_uR, aL_uR, aR_uR, sK_uR, sZ_uR, sN_uR, fI_vI, fL_vI, fR_vI, aI_vI, aL_vI, aR_vI, sK_vI, sZ_vI, sN_vI, fI_vL, fL_vL, fR_vL, aI_vL, aL_vL, aR_vL, sK_vL, sZ_vL, sN_vL, fI_vR, fL_vR, fR_vR, aI_vR, aL_vR, aR_vR, sK_vR, sZ_vR, sN_vR, fI_nX, fL_nX, fR_nX, aI_nX, aL_nX, aR_nX, sK_nX, sZ_nX, sN_nX, fI_nO, fL_nO, fR_nO, aI_nO, aL_nO, aR_nO, sK_nO, sZ_nO, sN_nO]; rw [if_neg (by omega), if_pos ⟨trivial, trivial⟩]
end EDI
/-! counting open conflicts -/
theorem cnt_congr {α : Type} {p q : α → Bool} : ∀ (l m : List α), l.length = m.length → (∀ (i : Nat) (a b : α), l[i]? = some a → m[i]? = some b → p a = q b) → l.countP p = m.countP q := by
  intro l
  induction l with
  | nil => intro m h _; rw [List.eq_nil_of_length_eq_zero h.symm]; rfl
  | cons x l ih =>
    intro m h g
    cases m with
    | nil => cases h
    | cons y m =>
      have h0 := g 0 x y rfl rfl
      rw [List.countP_cons, List.countP_cons, ih m (by simpa using h) (fun i a b h1 h2 => g (i + 1) a b (by simpa using h1) (by simpa using h2)), h0]
theorem cnt_set {α : Type} {p : α → Bool} {y z : α} : ∀ (l : List α) (i : Nat), l[i]? = some y → (l.set i z).countP p + (if p y = true then 1 else 0) = l.countP p + (if p z = true then 1 else 0) := by
  intro l
  induction l with
  | nil => intro i h; simp at h
  | cons x l ih =>
    intro i h
    cases i with
    | zero =>
      simp only [List.getElem?_cons_zero, Option.some.injEq] at h
      subst h
      rw [List.set_cons_zero, List.countP_cons, List.countP_cons]; omega
    | succ i =>
      have := ih i (by simpa using h)
      rw [List.set_cons_succ, List.countP_cons, List.countP_cons]; omega
theorem opn_psh (cl : List Cnl) (i : Nat) (n : Int) : opn (psh cl i n) = opn cl := by
  unfold opn
  refine cnt_congr _ _ (psh_len _ _ _) (fun j a b h1 h2 => ?_)
  unfold psh at h1
  rw [psj_get, h2, Option.map_some] at h1
  have := Option.some.inj h1
  rw [← this]
  split <;> rfl
theorem opn_stC {cl : List Cnl} {i : Nat} {c : Cnl} {how : Int} (h : cl[i]? = some c) (h0 : cnS c = 0) : opn (stC cl i c how) + 1 = opn cl := by
  unfold stC
  rw [opn_psh]
  have := cnt_set (p := fun c => decide (cnS c = 0)) (z := setSe c 1) cl i h
  rw [if_pos (decide_eq_true h0), if_neg (show ¬ (decide (cnS (setSe c 1) = 0) = true) from (show ¬ (decide ((1 : Int) = 0) = true) by decide))] at this
  exact this
theorem opn_roC {cl : List Cnl} {i : Nat} {c : Cnl} {how : Int} (h : cl[i]? = some c) (h0 : cnS c ≠ 0) : opn (roC cl i c how) = opn cl + 1 := by
  unfold roC
  rw [opn_psh]
  have := cnt_set (p := fun c => decide (cnS c = 0)) (z := setSe c 0) cl i h
  rw [if_neg (by simpa using h0), if_pos (show decide (cnS (setSe c 0) = 0) = true from (show decide ((0 : Int) = 0) = true by decide))] at this
  exact this
theorem opn_0 {cl : List Cnl} (h : opn cl = 0) : ∀ c ∈ cl, cnS c ≠ 0 := fun c hc h0 => by
  unfold opn at h
  rw [List.countP_eq_zero] at h
  exact h c hc (decide_eq_true h0)
theorem opn_p {cl : List Cnl} {c : Cnl} (hc : c ∈ cl) (h0 : cnS c = 0) : 0 < opn cl := by
  unfold opn
  exact List.countP_pos_iff.mpr ⟨c, hc, decide_eq_true h0⟩
/-! the texts that a draft is made of -/
def srcF (V : List VR) (r : DR) : List (Int64 × Int) := vtx V (dr1 r)
def srcS (V : List VR) (r : DR) : List (Int64 × Int) := if dr2 r = -1 then [] else vtx V (dr2 r)
def srcB (V : List VR) (r : DR) : List (Int64 × Int) := if dr2 r = -1 then [] else vtx V (drB r : Nat)
/-- texts, names -/
def IvV (S : St) : Prop := (∀ v : Int, (vtx (sV S) v).length ≤ 20 ∧ ∀ y ∈ vtx (sV S) v, 0 ≤ y.2 ∧ y.2 < bkN (sB S)) ∧ (bkN (sB S) : Int) ≤ 20 * sM S ∧ sM S ≤ 512
/-- one draft -/
def IvR (S : St) (r : DR) : Prop := isV S (dr1 r) ∧ (dr2 r = -1 ∨ isV S (dr2 r) ∧ (drB r : Int) < (sV S).length) ∧ (drT r).length ≤ 20 ∧ ((drE r).length : Int) ≤ sM S ∧ (∀ c ∈ drC r, CnB c (srcF (sV S) r) (srcS (sV S) r) (srcB (sV S) r) ∧ (0 ≤ cnP c ∧ cnP c ≤ 1000) ∧ (cnS c = 0 → cnP c ≤ (drT r).length)) ∧ (∀ E ∈ drE r, edK E = 4 → 0 ≤ edT E ∧ edT E < (drC r).length ∧ 0 ≤ edD E ∧ edD E ≤ 4) ∧ (∀ y ∈ drT r, 0 ≤ y.2 ∧ y.2 < bkN (sB S))
def IvD (S : St) : Prop := ∀ r, sD S = some r → IvR S r
section DRS
variable {Ω : Om} {σ : Sto} {lo x sw : Nat} {S : St} {ds : Nat → Nat} {el : Nat → List Nat} {r : DR}
/-- what is known of a draft that is there -/
theorem DwW.dr (hW : DwW Ω σ lo x S sw ds el) (hlo : x + 753 < lo) (hCn : Cnt S) (iV : IvV S) (hD : sD S = some r) (iR : IvR S r) : ∃ f s b, DfV Ω σ lo (x + 118 + 128 * sw) f s b (ds 40) (drT r) (drC r) (opn (drC r)) (el 40) ∧ EdsV σ lo (el 40) (drE r) ∧ (fI σ 203 (x + 118 + 128 * sw) = drA r ∧ fI σ 204 (x + 118 + 128 * sw) = dr1 r ∧ fI σ 205 (x + 118 + 128 * sw) = dr2 r) ∧ (f = x + 375 + 8 * (dr1 r).toNat ∧ (dr2 r = -1 → s = x + 118 + 128 * sw + 62 ∧ b = x + 118 + 128 * sw + 62) ∧ (dr2 r ≠ -1 → s = x + 375 + 8 * (dr2 r).toNat ∧ b = x + 375 + 8 * drB r)) ∧
    Tx3 σ f s b (srcF (sV S) r) (srcS (sV S) r) (srcB (sV S) r) ∧ (DO (x + 118 + 128 * sw) f ∧ DO (x + 118 + 128 * sw) s ∧ DO (x + 118 + 128 * sw) b) ∧ (f + 2 < lo ∧ s + 2 < lo ∧ b + 2 < lo) ∧ ((srcF (sV S) r).length ≤ 20 ∧ (srcS (sV S) r).length ≤ 20 ∧ (srcB (sV S) r).length ≤ 20) ∧ ((∀ y ∈ srcF (sV S) r, Q32 y.2) ∧ (∀ y ∈ srcS (sV S) r, Q32 y.2) ∧ (∀ y ∈ srcB (sV S) r, Q32 y.2)) ∧ x + 118 + 128 * sw + 127 < x + 374 := by
  obtain ⟨hH, hF, hVs, hMn, -⟩ := hW
  obtain ⟨f, s, b, T, cl, oc, h1, h2⟩ := hMn
  obtain ⟨rfl, rfl, rfl, g4, g5, g6, g7, g8, g9, g10⟩ := h2 r hD
  obtain ⟨i1, i2, -⟩ := iR
  have hs := hH.2.2.1
  have c2 := hCn.2.1
  have hq : ∀ v : Int, ∀ y ∈ vtx (sV S) v, Q32 y.2 := fun v y hy => by
    have := (iV.1 v).2 y hy
    have := iV.2
    omega
  have tx : ∀ v : Int, isV S v → Tx σ (x + 375 + 8 * v.toNat) (vtx (sV S) v) := fun v hv => by
    have := (hVs.at hv c2).2.2
    rwa [show x + 374 + 8 * v.toNat + 1 = x + 375 + 8 * v.toNat by omega] at this
  refine ⟨f, s, b, h1, g4, ⟨g5, g6, g7⟩, ⟨g8, g9, g10⟩, ?_⟩
  have hF' : Tx σ f (srcF (sV S) r) := by rw [g8]; exact tx _ i1
  have lF := (iV.1 (dr1 r)).1
  by_cases e : dr2 r = -1
  · obtain ⟨e1, e2⟩ := g9 e
    have eS : srcS (sV S) r = [] := if_pos e
    have eB : srcB (sV S) r = [] := if_pos e
    have hZ := h1.2.2.2.2.2.1
    rw [eS, eB]
    refine ⟨⟨hF', by rw [e1]; exact hZ, by rw [e2]; exact hZ⟩, ⟨by omega, by omega, by omega⟩, ⟨by omega, by omega, by omega⟩, ⟨lF, Nat.zero_le _, Nat.zero_le _⟩, ⟨hq _, fun y hy => by simp at hy, fun y hy => by simp at hy⟩, by omega⟩
  · obtain ⟨e1, e2⟩ := g10 e
    obtain ⟨i3, i4⟩ := i2.resolve_left e
    have eS : srcS (sV S) r = vtx (sV S) (dr2 r) := if_neg e
    have eB : srcB (sV S) r = vtx (sV S) (drB r : Nat) := if_neg e
    have iB : isV S ((drB r : Nat) : Int) := ⟨by omega, i4⟩
    have tb := tx _ iB
    rw [eS, eB]
    refine ⟨⟨hF', by rw [e1]; exact tx _ i3, by rw [e2]; exact tb⟩, ⟨by omega, by omega, by omega⟩, ⟨by omega, by omega, by omega⟩, ⟨lF, (iV.1 _).1, (iV.1 _).1⟩, ⟨hq _, hq _, hq _⟩, by omega⟩
theorem EdsV.snoc {es : List Nat} {Es : List Edi} {e : Nat} {E : Edi} (h : EdsV σ lo es Es) (g : EdV σ lo e E) : EdsV σ lo (es ++ [e]) (Es ++ [E]) := by
  refine ⟨by rw [List.length_append, List.length_append, h.1]; rfl, fun i e' E' h1 h2 => ?_⟩
  rcases snoc_get h1 with ⟨q1, q2⟩ | ⟨q1, q2⟩
  · rcases snoc_get h2 with ⟨p1, p2⟩ | ⟨p1, p2⟩
    · exact h.2 i e' E' q2 p2
    · have := h.1; omega
  · rcases snoc_get h2 with ⟨p1, p2⟩ | ⟨p1, p2⟩
    · have := h.1; omega
    · rw [q2, p2]; exact g
/-- a draft's view, put together -/
theorem MnV.mk' {σ' : Sto} {a f s b d' : Nat} {es' : List Nat} {r' : DR} (hf : DfV Ω σ' lo a f s b d' (drT r') (drC r') (opn (drC r')) es') (hE : EdsV σ' lo es' (drE r')) (h3 : fI σ' 203 a = drA r' ∧ fI σ' 204 a = dr1 r' ∧ fI σ' 205 a = dr2 r') (hr : f = x + 375 + 8 * (dr1 r').toNat ∧ (dr2 r' = -1 → s = a + 62 ∧ b = a + 62) ∧ (dr2 r' ≠ -1 → s = x + 375 + 8 * (dr2 r').toNat ∧ b = x + 375 + 8 * drB r')) : MnV Ω σ' lo x a d' es' (some r') :=
  ⟨f, s, b, _, _, _, hf, fun q hq => by cases hq; exact ⟨rfl, rfl, rfl, hE, h3.1, h3.2.1, h3.2.2, hr.1, hr.2.1, hr.2.2⟩⟩
end DRS
