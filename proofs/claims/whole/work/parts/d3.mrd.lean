/-! BY HAND: the draft's lines, conflicts, since, notes, hunks of the reference -/
section MR3
variable {Ω : Om} {m : Nat} {μ : Mu} {S : St} {v w p q : Int}
theorem lnR_eq (R : List Int) : lnR R = (R.filter (fun y => decide (0 ≤ y))).length := List.countP_eq_length_filter
theorem RwV.ln {R N : List Int} {cl : List Cnl} (h : RwV R N cl) : lnR R = N.length := by rw [lnR_eq, h.1]
theorem DM.no (h : MdV S μ) (hc : sD S = none) : mI μ 11 = 0 := by rw [h.2.2.1.1, hc]; rfl
theorem DM.yes {r : DR} (h : MdV S μ) (hc : sD S = some r) : mI μ 11 = 1 := by rw [h.2.2.1.1, hc]; rfl
theorem K_isPlaceS (h : MdV S μ) (hp : Q32 p) : MMi Ω m M_Mdl_isPlace rm_Mdl_isPlace (fun y μ' => y = bI (0 ≤ p ∧ p < dsz S) ∧ μ' = μ) μ [xi p] := by
  cases hc : sD S with
  | none =>
    have e0 := DM.no h hc
    have ed := dsz_none hc
    have g := K_isPlace (Ω := Ω) (m := m) (μ := μ) (R := []) hp (fun z => absurd e0 z)
    rw [show bI (mI μ 11 ≠ 0 ∧ 0 ≤ p ∧ p < lnR []) = bI (0 ≤ p ∧ p < dsz S) from bI_c ⟨fun z => absurd e0 z.1, fun z => by omega⟩] at g
    exact g
  | some r =>
    have e0 := DM.yes h hc
    have ed := dsz_some hc
    obtain ⟨-, -, ⟨R, c1, c2, -⟩, -⟩ := h.2.2.1.2 r hc
    have g := K_isPlace (Ω := Ω) (m := m) (μ := μ) (R := R) hp (fun z => c2)
    have el := c1.ln
    rw [List.length_map] at el
    rw [show bI (mI μ 11 ≠ 0 ∧ 0 ≤ p ∧ p < lnR R) = bI (0 ≤ p ∧ p < dsz S) from bI_c ⟨fun z => by omega, fun z => by omega⟩] at g
    exact g
theorem X_draftLines (h : MdV S μ) : MMi Ω m M_Mdl_draftLines rm_Mdl_draftLines (OutI S 0 (dsz S) S) μ [] := by
  refine E_draftLines fun σ0 => B_draftLines_0 ⟨fun c => ?_, fun c => ?_⟩
  · refine C_draftLines_16 (K_fine) fun y μ1 hq => ?_
    obtain ⟨rfl, rfl⟩ := hq
    refine R_draftLines_19 (OutI.ok mw0 ?_ h.w0)
    cases hc : sD S with
    | none => rw [dsz_none hc]
    | some r => rw [DM.yes h hc] at c; cases c
  · cases hc : sD S with
    | none => exact absurd (DM.no h hc) c
    | some r =>
      obtain ⟨-, -, ⟨R, c1, c2, -⟩, -⟩ := h.2.2.1.2 r hc
      refine C_draftLines_9 (K_lineCount c2) fun y μ1 hq => ?_
      obtain ⟨rfl, rfl⟩ := hq
      refine B_draftLines_12 ?_
      refine C_draftLines_16 (K_fine) fun y μ1 hq => ?_
      obtain ⟨rfl, rfl⟩ := hq
      refine R_draftLines_19 (OutI.ok mw0 ?_ h.w0)
      rw [dsz_some hc, c1.ln, List.length_map]
theorem fil_at {R : List Int} {i : Nat} (h : i < R.length) (h0 : 0 ≤ R[i]) : (R.filter (fun y => decide (0 ≤ y)))[lnR (R.take i)]? = some R[i] := by
  have e : R = R.take i ++ R[i] :: R.drop (i + 1) := by rw [List.getElem_cons_drop, List.take_append_drop]
  have e2 : R.filter (fun y => decide (0 ≤ y)) = (R.take i).filter (fun y => decide (0 ≤ y)) ++ R[i] :: (R.drop (i + 1)).filter (fun y => decide (0 ≤ y)) := by
    conv => lhs; rw [e]
    rw [List.filter_append, List.filter_cons_of_pos (by simpa using h0)]
  rw [e2, lnR_eq, List.getElem?_append_right (Nat.le_refl _), Nat.sub_self]
  rfl
theorem draftLine_loop {σ0 : Sto} {R : List Int} {f : Int → Int64} {Q : Int64 → Mu → Prop} (hR : RowV R μ) (hp : 0 ≤ p) (hpl : p < lnR R) (hf : ∀ y, (R.filter (fun y => decide (0 ≤ y)))[p.toNat]? = some y → 0 ≤ y ∧ y < 16384 ∧ mG μ 1 y.toNat = f y) (hQ : ∀ y, (R.filter (fun y => decide (0 ≤ y)))[p.toNat]? = some y → Q (f y) μ) : ∀ (d i : Nat) (x : Int64), i + d = R.length → (p < lnR (R.take i) → ∀ y, (R.filter (fun y => decide (0 ≤ y)))[p.toNat]? = some y → x = f y) → Mw Ω σ0 m M_Mdl_draftLine rm_Mdl_draftLine (MQl Ω σ0 m rm_Mdl_draftLine Q) 29 [xr (some m), xi p, xi (lnR (R.take i)), xl x, xu, xi i] [] μ := by
  intro d
  obtain ⟨h1, h2, h3⟩ := hR
  have el := lnR_eq R
  have el2 := lnR_le R
  induction d with
  | zero =>
    intro i x hi hx
    refine B_draftLine_29 ⟨by omega, fun _ => R_draftLine_95 ?_, fun c => absurd (by omega) c⟩
    rw [List.take_of_length_le (by omega)] at hx
    have hlt : p.toNat < (R.filter (fun y => decide (0 ≤ y))).length := by omega
    rw [hx hpl _ (List.getElem?_eq_getElem hlt)]
    exact hQ _ (List.getElem?_eq_getElem hlt)
  | succ d ih =>
    intro i x hi hx
    have li : i < R.length := by omega
    have e := h3 i _ (List.getElem?_eq_getElem li)
    have t := lnR_take li
    have b1 := lnR_le (R.take i)
    rw [List.length_take] at b1
    refine B_draftLine_29 ⟨by omega, fun c => absurd c (by omega), fun _ => ⟨by omega, by omega, fun c => ⟨fun c2 => ?_, fun c2 => absurd c c2⟩, fun c => ⟨by omega, by omega, fun c3 => ⟨fun c2 => absurd c2 c, fun c2 => ?_⟩, fun c3 => ?_⟩⟩⟩
    · rw [Int.toNat_natCast, e] at c
      rw [if_neg (by omega)] at t
      have g := ih (i + 1) x (by omega) (by rw [t]; exact hx)
      rw [t] at g
      exact g
    · rw [Int.toNat_natCast, e] at c
      rw [if_pos (by omega)] at t
      have g := ih (i + 1) x (by omega) (fun z => hx (by omega))
      rw [t] at g
      exact g
    · rw [Int.toNat_natCast, e] at c ⊢
      have hat := fil_at li (by omega)
      rw [show lnR (R.take i) = p.toNat by omega] at hat
      obtain ⟨g1, g2, g3⟩ := hf _ hat
      rw [if_pos (by omega)] at t
      refine ⟨g1, g2, fun c2 => absurd c2 c, fun c2 => ?_⟩
      have g := ih (i + 1) (mG μ 1 R[i].toNat) (by omega) (fun z y hy => by rw [hat] at hy; cases hy; exact g3)
      rw [t] at g
      exact g
theorem X_draftLine (h : MdV S μ) (hN : ∀ r, sD S = some r → Nm (sB S) (drT r)) (hp : Q32 p) : MMl Ω m M_Mdl_draftLine rm_Mdl_draftLine (OutL S (c1 (0 ≤ p ∧ p < dsz S)) (match sD S with | some r => lnA (drT r) p | none => 0) S) μ [xi p] := by
  refine E_draftLine fun σ0 => B_draftLine_0 ?_
  refine C_draftLine_3 (K_isPlaceS h hp) fun y μ1 hq => ?_
  obtain ⟨rfl, rfl⟩ := hq
  refine B_draftLine_6 ⟨bI_q, fun c => ?_, fun c => ?_⟩
  · have c' := bI_0.mp c
    refine C_draftLine_14 (K_refused (by decide)) fun y μ2 hq => ?_
    obtain ⟨rfl, rfl⟩ := hq
    refine B_draftLine_17 ⟨bI_q, fun c2 => absurd c2 (by decide), fun _ => ?_⟩
    refine R_draftLine_21 ?_
    rw [c1_f c']; exact OutL.no h (by decide)
  · have c' := bI_1.mp c
    refine C_draftLine_14 (K_refused (by decide)) fun y μ2 hq => ?_
    obtain ⟨rfl, rfl⟩ := hq
    refine B_draftLine_17 ⟨bI_q, fun _ => ?_, fun c2 => absurd (show bI ((0 : Int) ≠ 0) = 0 by decide) c2⟩
    rw [c1_t c']
    cases hc : sD S with
    | none => rw [dsz_none hc] at c'; omega
    | some r =>
      rw [dsz_some hc] at c'
      have b1 := h.1
      obtain ⟨-, -, ⟨R, c1, c2, -⟩, -⟩ := h.2.2.1.2 r hc
      have el := c1.ln
      rw [List.length_map] at el
      have key : ∀ y, (R.filter (fun y => decide (0 ≤ y)))[p.toNat]? = some y → 0 ≤ y ∧ y < bkN (sB S) ∧ bkS (sB S) y.toNat = lnA (drT r) p := fun y hy => by
        rw [c1.1, List.getElem?_map] at hy
        obtain ⟨z, z1, z2, z3⟩ := nmA_get c'.1 c'.2
        rw [z1] at hy
        cases hy
        have n1 := (hN r hc).at z1
        exact ⟨n1.1, n1.2.1, by rw [n1.2.2.1, z3]⟩
      have c2' := c2.fr (k := Fr.wI (f := 0) (v := 0) (fs := [0]) (js := []) (gs := []) (by decide)) (by decide) (by decide)
      refine draftLine_loop (f := fun y => bkS (sB S) y.toNat) c2' c'.1 (by omega) (fun y hy => ?_) (fun y hy => ?_) R.length 0 0 (by omega) (fun z => absurd z (by show ¬ p < ((0 : Nat) : Int); omega))
      · obtain ⟨k1, k2, k3⟩ := key y hy
        have b12 := b1.2.1
        exact ⟨k1, by omega, by rw [mG_wI]; exact (b1.2.2 _ (by omega)).1⟩
      · exact OutL.ok mw0 (key y hy).2.2 h.w0
theorem opn_take {cl : List Cnl} {i : Nat} (h : i < cl.length) : opn (cl.take (i + 1)) = opn (cl.take i) + if cnS cl[i] = 0 then 1 else 0 := by
  unfold opn
  rw [List.take_add_one, List.getElem?_eq_getElem h, List.countP_append]
  congr 1
  show List.countP _ [cl[i]] = _
  rw [List.countP_singleton]
  simp
theorem conflicts_loop {σ0 : Sto} {cl : List Cnl} {Q : Int → Mu → Prop} (h11 : mI μ 11 = 1) (h17 : mI μ 17 = cl.length) (h21 : cl.length ≤ 21) (h18 : mI μ 18 = stB cl) (hQ : Q (opn cl) (wI μ 0 0)) : ∀ (d i : Nat), i + d = cl.length → Mw Ω σ0 m M_Mdl_conflicts rm_Mdl_conflicts (MQi Ω σ0 m rm_Mdl_conflicts Q) 4 [xr (some m), xi (opn (cl.take i)), xi i] [] μ := by
  intro d
  induction d with
  | zero =>
    intro i hi
    refine B_conflicts_4 ⟨by omega, fun _ => ?_, fun c => absurd (by omega) c⟩
    refine C_conflicts_46 (K_fine) fun y μ1 hq => ?_
    obtain ⟨rfl, rfl⟩ := hq
    rw [List.take_of_length_le (by omega)]
    exact R_conflicts_49 hQ
  | succ d ih =>
    intro i hi
    have li : i < cl.length := by omega
    have e := stB_at h21 (List.getElem?_eq_getElem li)
    have g := ih (i + 1) (by omega)
    rw [opn_take li] at g
    rw [← h18] at e
    refine B_conflicts_4 ⟨by omega, fun c => absurd c (by omega), fun _ => ⟨fun c => absurd c (by omega), fun _ => ⟨?_, fun c => ?_, fun c => ?_⟩⟩⟩
    · rw [e]; split <;> exact ⟨by decide, by decide⟩
    · rw [e] at c
      by_cases c2 : cnS cl[i] = 0
      · rw [if_pos c2] at c; exact absurd rfl c
      · rw [if_neg c2] at g; exact g
    · rw [e] at c
      by_cases c2 : cnS cl[i] = 0
      · rw [if_pos c2] at g; exact g
      · rw [if_neg c2] at c; exact absurd c (by decide)
theorem X_conflicts0 {r : DR} {Q : Int → Mu → Prop} (h : mI μ 11 = 1 ∧ mI μ 17 = (drC r).length ∧ (drC r).length ≤ 21 ∧ mI μ 18 = stB (drC r)) (hQ : Q (opn (drC r)) (wI μ 0 0)) : MMi Ω m M_Mdl_conflicts rm_Mdl_conflicts Q μ [] :=
  E_conflicts fun σ0 => B_conflicts_0 (conflicts_loop h.1 h.2.1 h.2.2.1 h.2.2.2 hQ (drC r).length 0 (by omega))
theorem X_conflicts (h : MdV S μ) (hQ17 : Q32 (mI μ 17)) : MMi Ω m M_Mdl_conflicts rm_Mdl_conflicts (OutI S 0 (match sD S with | some r => (opn (drC r) : Int) | none => 0) S) μ [] := by
  cases hc : sD S with
  | none =>
    refine E_conflicts fun σ0 => B_conflicts_0 (B_conflicts_4 ⟨by decide, fun _ => ?_, fun _ => ⟨fun _ => ?_, fun c => absurd (DM.no h hc) c⟩⟩)
    · refine C_conflicts_46 (K_fine) fun y μ1 hq => ?_
      obtain ⟨rfl, rfl⟩ := hq
      exact R_conflicts_49 (OutI.ok mw0 rfl h.w0)
    · refine C_conflicts_46 (K_fine) fun y μ1 hq => ?_
      obtain ⟨rfl, rfl⟩ := hq
      exact R_conflicts_49 (OutI.ok mw0 rfl h.w0)
  | some r =>
    obtain ⟨⟨-, -, -, a4⟩, ⟨b1, b2, -⟩, -⟩ := h.2.2.1.2 r hc
    exact X_conflicts0 ⟨DM.yes h hc, b1, b2, a4⟩ (OutI.ok mw0 rfl h.w0)
/-- the lowest one in which a name is -/
def hasN (V : List VR) (nm : Int) (i : Nat) : Prop := ∃ y ∈ vtx V (i : Nat), y.2 = nm
noncomputable def lwF (V : List VR) (nm : Int) (v : Nat) : Nat → Nat → Nat
  | 0, _ => v
  | f + 1, i => @ite _ (hasN V nm i) (Classical.propDecidable _) i (lwF V nm v f (i + 1))
theorem lwF_t {V : List VR} {nm : Int} {v f i : Nat} (h : hasN V nm i) : lwF V nm v (f + 1) i = i := by simp only [lwF]; rw [if_pos h]
theorem lwF_f {V : List VR} {nm : Int} {v f i : Nat} (h : ¬ hasN V nm i) : lwF V nm v (f + 1) i = lwF V nm v f (i + 1) := by simp only [lwF]; rw [if_neg h]
theorem snG_t {V : List VR} {nm : Int} {v f i : Nat} (h : hasN V nm i) : snG V nm v (f + 1) i = i := by simp only [snG]; rw [if_pos (show ∃ y, y ∈ vtx V (i : Nat) ∧ y.2 = nm from h)]
theorem snG_f {V : List VR} {nm : Int} {v f i : Nat} (h : ¬ hasN V nm i) : snG V nm v (f + 1) i = snG V nm v f (i + 1) := by simp only [snG]; rw [if_neg (show ¬ ∃ y, y ∈ vtx V (i : Nat) ∧ y.2 = nm from h)]
theorem lwF_sn {V : List VR} {nm : Int} {v : Nat} (hv : hasN V nm v) : ∀ (f i g : Nat), i + f = v → lwF V nm v (f + 1 + g) i = snG V nm v f i := by
  intro f
  induction f with
  | zero =>
    intro i g hi
    have e : i = v := by omega
    subst e
    rw [show 0 + 1 + g = g + 1 by omega, lwF_t hv]; rfl
  | succ f ih =>
    intro i g hi
    rw [show f + 1 + 1 + g = (f + 1 + g) + 1 by omega]
    by_cases c : hasN V nm i
    · rw [lwF_t c, snG_t c]
    · rw [lwF_f c, snG_f c]; exact ih (i + 1) g (by omega)
theorem since_in {σ0 : Sto} {V : List VR} {nm : Int} {F : QF} {fd : Int} {i : Nat} (hV : VeV V μ) (h20 : ∀ v : Int, (vtx V v).length ≤ 20) (hi : i < V.length) (hv0 : 0 ≤ 20 * v + p) (hv1 : 20 * v + p < 800) (hnm : mA μ 5 (20 * v + p).toNat = nm) (hx : ∀ x : Int, ((hasN V nm i → x = i) ∧ (¬ hasN V nm i → x = fd)) → Mw Ω σ0 m M_Mdl_since rm_Mdl_since F 33 [xr (some m), xi v, xi p, xi x, xi ((i : Int) + -1), xu] [] μ) : ∀ (d k : Nat) (x : Int), k + d = (vtx V (i : Nat)).length → ((∃ y ∈ (vtx V (i : Nat)).take k, y.2 = nm) → x = i) → (¬ (∃ y ∈ (vtx V (i : Nat)).take k, y.2 = nm) → x = fd) →
    Mw Ω σ0 m M_Mdl_since rm_Mdl_since F 41 [xr (some m), xi v, xi p, xi x, xi i, xi k] [] μ := by
  intro d
  have h40 := hV.2.1
  have hl := h20 (i : Nat)
  have e4 : mA μ 4 i = (vtx V (i : Nat)).length := (hV.2.2 i hi).1
  induction d with
  | zero =>
    intro k x hk h1 h2
    refine B_since_41 ⟨by omega, by omega, by omega, fun _ => hx x ?_, fun c => absurd (by rw [Int.toNat_natCast, e4]; omega) c⟩
    rw [List.take_of_length_le (by omega)] at h1 h2
    exact ⟨h1, h2⟩
  | succ d ih =>
    intro k x hk h1 h2
    have lk : k < (vtx V (i : Nat)).length := by omega
    have e5 := (hV.2.2 i hi).2.2.2.2 k _ (List.getElem?_eq_getElem lk)
    have ei : (20 * (i : Int) + (k : Int)).toNat = 20 * i + k := by omega
    have tk : ∀ y, y ∈ (vtx V (i : Nat)).take (k + 1) ↔ y ∈ (vtx V (i : Nat)).take k ∨ y = (vtx V (i : Nat))[k] := fun y => by
      rw [List.take_add_one, List.getElem?_eq_getElem lk, List.mem_append]; simp
    refine B_since_41 ⟨by omega, by omega, by omega, fun c => absurd c (by rw [Int.toNat_natCast, e4]; omega), fun _ => ⟨by omega, by omega, hv0, hv1, fun c => ?_, fun c => ?_⟩⟩
    · rw [ei, e5, hnm] at c
      refine ih (k + 1) x (by omega) (fun ⟨y, y1, y2⟩ => ?_) (fun z => h2 (fun ⟨y, y1, y2⟩ => z ⟨y, (tk y).mpr (Or.inl y1), y2⟩))
      rcases (tk y).mp y1 with y1 | y1
      · exact h1 ⟨y, y1, y2⟩
      · rw [y1] at y2; exact absurd y2 c
    · rw [ei, e5, hnm] at c
      exact ih (k + 1) (i : Int) (by omega) (fun _ => rfl) (fun z => absurd ⟨_, (tk _).mpr (Or.inr rfl), c⟩ z)
theorem since_out {σ0 : Sto} {V : List VR} {nm : Int} {Q : Int → Mu → Prop} (hV : VeV V μ) (h20 : ∀ v : Int, (vtx V v).length ≤ 20) (hv0 : 0 ≤ 20 * v + p) (hv1 : 20 * v + p < 800) (hv : 0 ≤ v) (hnm : mA μ 5 (20 * v + p).toNat = nm) (hQ : Q (lwF V nm v.toNat V.length 0 : Nat) μ) : ∀ (d : Nat), d ≤ V.length → Mw Ω σ0 m M_Mdl_since rm_Mdl_since (MQi Ω σ0 m rm_Mdl_since Q) 33 [xr (some m), xi v, xi p, xi (lwF V nm v.toNat (V.length - d) d : Nat), xi ((d : Int) + -1), xu] [] μ := by
  intro d
  have h40 := hV.2.1
  induction d with
  | zero =>
    intro hd
    exact B_since_33 ⟨by decide, fun _ => R_since_100 hQ, fun c => absurd (by decide) c⟩
  | succ d ih =>
    intro hd
    refine B_since_33 ⟨by omega, fun c => absurd c (by omega), fun _ => ?_⟩
    rw [show ((d + 1 : Nat) : Int) + -1 = (d : Nat) by omega]
    refine since_in hV h20 (by omega) hv0 hv1 hnm (fun x hx => ?_) (vtx V (d : Nat)).length 0 _ (by omega) (fun ⟨y, y1, _⟩ => by simp at y1) (fun _ => rfl)
    have g := ih (by omega)
    have e : ((lwF V nm v.toNat (V.length - d) d : Nat) : Int) = x := by
      rw [show V.length - d = (V.length - (d + 1)) + 1 by omega]
      by_cases c : hasN V nm d
      · rw [lwF_t c, hx.1 c]
      · rw [lwF_f c, hx.2 c]
    rw [e] at g
    exact g
theorem X_since (h : MdV S μ) (h20 : ∀ v : Int, (vtx (sV S) v).length ≤ 20) (hv : Q32 v) (hp : Q32 p) : MMi Ω m M_Mdl_since rm_Mdl_since (OutI S (c1 (isLi S v p)) (snG (sV S) (nmA (vtx (sV S) v) p) v.toNat v.toNat 0 : Nat) S) μ [xi v, xi p] := by
  have h40 := h.2.1.2.1
  have hl := h20 v
  refine E_since fun σ0 => B_since_0 ?_
  refine C_since_4 (K_isLineOf h h20 hv hp) fun y μ1 hq => ?_
  obtain ⟨rfl, rfl⟩ := hq
  refine B_since_7 ⟨bI_q, fun c => ?_, fun c => ?_⟩
  · have c' := bI_0.mp c
    refine C_since_15 (K_refused (by decide)) fun y μ2 hq => ?_
    obtain ⟨rfl, rfl⟩ := hq
    refine B_since_18 ⟨bI_q, fun c2 => absurd c2 (by decide), fun _ => ?_⟩
    refine R_since_22 ?_
    rw [c1_f c']; exact OutI.no h (by decide)
  · have c' := bI_1.mp c
    obtain ⟨y, y1, y2, y3⟩ := nmA_get c'.2.1 c'.2.2
    have t1 := h.2.1.tx c'.1.1 c'.1.2 y1
    have v1 := c'.1.1
    have v2 := c'.1.2
    have p1 := c'.2.1
    have p2 := c'.2.2
    refine C_since_15 (K_refused (by decide)) fun y μ2 hq => ?_
    obtain ⟨rfl, rfl⟩ := hq
    refine B_since_18 ⟨bI_q, fun _ => ?_, fun c2 => absurd (show bI ((0 : Int) ≠ 0) = 0 by decide) c2⟩
    rw [c1_t c', y2, mI_wI, if_neg (by decide), h.2.1.1]
    have hw := h.w0 (v := 0)
    have hh : hasN (sV S) y.2 v.toNat := ⟨y, by rw [show (((v.toNat : Nat)) : Int) = v by omega]; exact List.mem_of_getElem? y1, rfl⟩
    have g := since_out (Ω := Ω) (σ0 := σ0) (m := m) (v := v) (p := p) (nm := y.2) (Q := OutI S 0 (snG (sV S) y.2 v.toNat v.toNat 0 : Nat) S) hw.2.1 h20 (by omega) (by omega) v1 (by rw [mA_wI, show (20 * v + p).toNat = 20 * v.toNat + p.toNat by omega]; exact t1) (OutI.ok mw0 (by rw [← lwF_sn hh v.toNat 0 ((sV S).length - v.toNat - 1) (by omega), show v.toNat + 1 + ((sV S).length - v.toNat - 1) = (sV S).length by omega]) hw) (sV S).length (Nat.le_refl _)
    rw [Nat.sub_self] at g
    rw [show ((lwF (sV S) y.2 v.toNat 0 (sV S).length : Nat) : Int) = v from by show ((v.toNat : Nat) : Int) = v; omega] at g
    exact g
end MR3
