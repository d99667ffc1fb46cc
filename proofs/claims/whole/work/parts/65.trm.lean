/-! BY HAND: TreeMeter, the growing of a tree -/
def TmS (σ : Sto) (t : Nat) : Prop := t + 53 < sN σ ∧ sK σ t = 11 ∧ fR σ 640 t = some (t + 1) ∧ fR σ 641 t = some (t + 2) ∧ fR σ 642 t = some (t + 3) ∧ fR σ 643 t = some (t + 4) ∧ fR σ 644 t = some (t + 5) ∧ fR σ 645 t = some (t + 28) ∧ fR σ 646 t = some (t + 51) ∧ fR σ 647 t = some (t + 52) ∧ fR σ 648 t = some (t + 53) ∧ sK σ (t + 1) = 51 ∧ sK σ (t + 2) = 51 ∧ sK σ (t + 3) = 50 ∧ sK σ (t + 4) = 50 ∧ sK σ (t + 5) = 53 ∧ sK σ (t + 28) = 53 ∧ sK σ (t + 51) = 50 ∧ sK σ (t + 52) = 51 ∧ sK σ (t + 53) = 50 ∧ sZ σ (t + 1) = 22 ∧ sZ σ (t + 2) = 22 ∧ sZ σ (t + 3) = 22 ∧ sZ σ (t + 4) = 22 ∧ sZ σ (t + 5) = 22 ∧ sZ σ (t + 28) = 22 ∧ sZ σ (t + 51) = 22 ∧ sZ σ (t + 52) = 22 ∧ sZ σ (t + 53) = 22 ∧ (∀ i, i < 22 → aR σ (t + 5) i = some (t + 6 + i) ∧ sK σ (t + 6 + i) = 50 ∧ sZ σ (t + 6 + i) = 22) ∧ (∀ i, i < 22 → aR σ (t + 28) i = some (t + 29 + i) ∧ sK σ (t + 29 + i) = 50 ∧ sZ σ (t + 29 + i) = 22)
theorem TmS.shp {σ σ' : Sto} {t : Nat} (h : TmS σ t) (k : Shp σ σ') : TmS σ' t := by
  obtain ⟨h0, h1, f0, f1, f2, f3, f4, f5, f6, f7, f8, k1, k2, k3, k4, k5, k6, k7, k8, k9, z1, z2, z3, z4, z5, z6, z7, z8, z9, r1, r2⟩ := h
  have e : ∀ d, d ≤ 53 → sK σ' (t + d) = sK σ (t + d) ∧ sZ σ' (t + d) = sZ σ (t + d) ∧ (∀ f, fR σ' f (t + d) = fR σ f (t + d)) ∧ aR σ' (t + d) = aR σ (t + d) := fun d hd => k.2 _ (by omega)
  have e0 := e 0 (by omega)
  have e1 := e 1 (by omega)
  have e2 := e 2 (by omega)
  have e3 := e 3 (by omega)
  have e4 := e 4 (by omega)
  have e5 := e 5 (by omega)
  have e6 := e 28 (by omega)
  have e7 := e 51 (by omega)
  have e8 := e 52 (by omega)
  have e9 := e 53 (by omega)
  refine ⟨Nat.lt_of_lt_of_le h0 k.1, e0.1.trans h1, (e0.2.2.1 _).trans f0, (e0.2.2.1 _).trans f1, (e0.2.2.1 _).trans f2, (e0.2.2.1 _).trans f3, (e0.2.2.1 _).trans f4, (e0.2.2.1 _).trans f5, (e0.2.2.1 _).trans f6, (e0.2.2.1 _).trans f7, (e0.2.2.1 _).trans f8, e1.1.trans k1, e2.1.trans k2, e3.1.trans k3, e4.1.trans k4, e5.1.trans k5, e6.1.trans k6, e7.1.trans k7, e8.1.trans k8, e9.1.trans k9, e1.2.1.trans z1, e2.2.1.trans z2, e3.2.1.trans z3, e4.2.1.trans z4, e5.2.1.trans z5, e6.2.1.trans z6, e7.2.1.trans z7, e8.2.1.trans z8, e9.2.1.trans z9, fun i hi => ?_, fun i hi => ?_⟩
  · have g := k.2 (t + 6 + i) (by omega)
    rw [e5.2.2.2, g.1, g.2.1]; exact r1 i hi
  · have g := k.2 (t + 29 + i) (by omega)
    rw [e6.2.2.2, g.1, g.2.1]; exact r2 i hi
theorem Keep.shp {σ σ' : Sto} {P : Nat → Prop} (k : Keep σ σ' P) (h : ∀ a, a < sN σ → P a → sK σ' a = sK σ a ∧ sZ σ' a = sZ σ a ∧ (∀ f, fR σ' f a = fR σ f a) ∧ aR σ' a = aR σ a) : Shp σ σ' := ⟨k.1, fun a ha => by
  by_cases e : P a
  · exact h a ha e
  · have := k.2 a ha e
    exact ⟨this.1, this.2.1, this.2.2.2.2.1, this.2.2.2.2.2.2.2⟩⟩
/-- the open nodes: depth, label, the first node below -/
def RS (od : Nat → Int) (ol : Nat → Int64) (of : Nat → Int) (s : List (Int × Int64 × Nat)) : Prop := ∀ p x, s.reverse[p]? = some x → od p = x.1 ∧ ol p = x.2.1 ∧ of p = x.2.2
/-- the nodes counted -/
def RO (nl : Nat → Int64) (nf : Nat → Int) (o : List (Int64 × Nat)) : Prop := ∀ p x, o[p]? = some x → nl (p + 1) = x.1 ∧ nf (p + 1) = x.2
theorem RS.tail {od : Nat → Int} {ol : Nat → Int64} {of : Nat → Int} {s : List (Int × Int64 × Nat)} {x : Int × Int64 × Nat} (h : RS od ol of (x :: s)) : RS od ol of s := fun p y hy => by
  refine h p y ?_
  rw [List.reverse_cons, List.getElem?_append_left (List.getElem?_eq_some_iff.mp hy).1]
  exact hy
theorem RS.head {od : Nat → Int} {ol : Nat → Int64} {of : Nat → Int} {s : List (Int × Int64 × Nat)} {x : Int × Int64 × Nat} (h : RS od ol of (x :: s)) : od s.length = x.1 ∧ ol s.length = x.2.1 ∧ of s.length = x.2.2 := by
  refine h s.length x ?_
  rw [List.reverse_cons, List.getElem?_append_right (by rw [List.length_reverse]; exact Nat.le_refl _), List.length_reverse, Nat.sub_self]
  rfl
theorem RS.cons {od od' : Nat → Int} {ol ol' : Nat → Int64} {of of' : Nat → Int} {s : List (Int × Int64 × Nat)} {x : Int × Int64 × Nat} (h : RS od ol of s) (g : ∀ p, p < s.length → od' p = od p ∧ ol' p = ol p ∧ of' p = of p) (g2 : od' s.length = x.1 ∧ ol' s.length = x.2.1 ∧ of' s.length = x.2.2) : RS od' ol' of' (x :: s) := fun p y hy => by
  rw [List.reverse_cons, List.getElem?_append, List.length_reverse] at hy
  split at hy
  · rename_i hp
    rw [(g p hp).1, (g p hp).2.1, (g p hp).2.2]
    exact h p y hy
  · rename_i hp
    have hp2 := (List.getElem?_eq_some_iff.mp hy).1
    simp only [List.length_cons, List.length_nil] at hp2
    have e : p = s.length := by omega
    subst e
    rw [Nat.sub_self] at hy
    have : x = y := by simpa using hy
    subst this
    exact g2
theorem RO.snoc {nl nl' : Nat → Int64} {nf nf' : Nat → Int} {o : List (Int64 × Nat)} {x : Int64 × Nat} (h : RO nl nf o) (g : ∀ p, p < o.length → nl' (p + 1) = nl (p + 1) ∧ nf' (p + 1) = nf (p + 1)) (g2 : nl' (o.length + 1) = x.1 ∧ nf' (o.length + 1) = x.2) : RO nl' nf' (o ++ [x]) := fun p y hy => by
  rw [List.getElem?_append] at hy
  split at hy
  · rename_i hp
    rw [(g p hp).1, (g p hp).2]
    exact h p y hy
  · rename_i hp
    have hp2 := (List.getElem?_eq_some_iff.mp hy).1
    simp only [List.length_cons, List.length_nil] at hp2
    have e : p = o.length := by omega
    subst e
    rw [Nat.sub_self] at hy
    have : x = y := by simpa using hy
    subst this
    exact g2
def clT (d : Int) : List (Int × Int64 × Nat) → List (Int64 × Nat) → List (Int × Int64 × Nat) × List (Int64 × Nat)
  | [], o => ([], o)
  | x :: s, o => if d ≤ x.1 then clT d s (o ++ [(x.2.1, x.2.2)]) else (x :: s, o)
def grT : List Int64 → List (Int × Int64 × Nat) → List (Int64 × Nat) → List (Int64 × Nat)
  | [], s, o => (clT (-1) s o).2
  | l :: ls, s, o => grT ls (((dpL l : Nat), lUsh l (8 * (dpL l : Nat)), (clT (dpL l : Nat) s o).2.length + 1) :: (clT (dpL l : Nat) s o).1) (clT (dpL l : Nat) s o).2
def trT (ls : List Int64) : List (Int64 × Nat) := grT ls [(-1, 0, 1)] []
theorem clT_len (d : Int) : ∀ (s : List (Int × Int64 × Nat)) (o : List (Int64 × Nat)), (clT d s o).1.length + (clT d s o).2.length = s.length + o.length := by
  intro s
  induction s with
  | nil => intro o; rfl
  | cons x s ih =>
    intro o
    rw [clT]
    split
    · rw [ih, List.length_append, List.length_cons, List.length_cons, List.length_nil]; omega
    · rfl
theorem clT_all : ∀ (s : List (Int × Int64 × Nat)) (o : List (Int64 × Nat)), (∀ x ∈ s, (-1 : Int) ≤ x.1) → (clT (-1) s o).1 = [] := by
  intro s
  induction s with
  | nil => intro o _; rfl
  | cons x s ih =>
    intro o h
    rw [clT, if_pos (h x (List.mem_cons_self ..))]
    exact ih _ (fun y hy => h y (List.mem_cons_of_mem _ hy))
theorem clT_sub (d : Int) : ∀ (s : List (Int × Int64 × Nat)) (o : List (Int64 × Nat)) (x : Int × Int64 × Nat), x ∈ (clT d s o).1 → x ∈ s := by
  intro s
  induction s with
  | nil => intro o x h; exact h
  | cons y s ih =>
    intro o x h
    rw [clT] at h
    split at h
    · exact List.mem_cons_of_mem _ (ih _ _ h)
    · exact h
theorem grT_len : ∀ (ls : List Int64) (s : List (Int × Int64 × Nat)) (o : List (Int64 × Nat)), (∀ x ∈ s, (-1 : Int) ≤ x.1) → (grT ls s o).length = ls.length + s.length + o.length := by
  intro ls
  induction ls with
  | nil =>
    intro s o h
    have h1 := clT_len (-1) s o
    rw [clT_all s o h] at h1
    rw [grT]
    simp only [List.length_nil] at h1 ⊢
    omega
  | cons l ls ih =>
    intro s o h
    have h1 := clT_len (dpL l : Nat) s o
    rw [grT, ih]
    · rw [List.length_cons, List.length_cons]; omega
    · intro x hx
      cases hx with
      | head => show (-1 : Int) ≤ (dpL l : Nat); omega
      | tail _ hx => exact h x (clT_sub _ _ _ _ hx)
theorem trT_len (ls : List Int64) : (trT ls).length = ls.length + 1 := by
  unfold trT
  rw [grT_len _ _ _ (fun x hx => by
    cases hx with
    | head => exact Int.le_refl _
    | tail _ hx => cases hx)]
  rfl
theorem dpL_le (x : Int64) : dpL x ≤ 7 := by have := dpG_le x 7 0; unfold dpL; omega
section TMG
variable {Ω : Om} {σ0 : Sto} {t nl nf : Nat}
/-- what is open and counted -/
def TmO (σ : Sto) (t nl nf : Nat) (s : List (Int × Int64 × Nat)) (o : List (Int64 × Nat)) : Prop := TmS σ t ∧ sK σ nl = 51 ∧ sZ σ nl = 22 ∧ sK σ nf = 50 ∧ sZ σ nf = 22 ∧ fI σ 649 t = s.length ∧ fI σ 650 t = o.length ∧ RS (aI σ (t + 51)) (aL σ (t + 52)) (aI σ (t + 53)) s ∧ RO (aL σ nl) (aI σ nf) o
abbrev TF (t nl nf : Nat) : Nat → Prop := fun b => b = t ∨ b = nl ∨ b = nf ∨ (t + 51 ≤ b ∧ b < t + 54)
theorem k_Trm_openNode {σ : Sto} {s : List (Int × Int64 × Nat)} {o : List (Int64 × Nat)} {d : Int} {x : Int64} (h : TmO σ t nl nf s o) (hs : s.length + o.length < 22) (hd : Q32 d) (hl : t < nl ∧ nl < t + 3) (hf : t + 2 < nf ∧ nf < t + 5) : MC Ω M_Trm_openNode rm_Trm_openNode (RV fun σ' => TmO σ' t nl nf ((d, x, o.length + 1) :: s) o ∧ Keep σ σ' (TF t nl nf) ∧ Shp σ σ') XN σ [xr (some t), xi d, xl x] := by
  obtain ⟨hS, kl, zl, kf, zf, h1, h2, h3, h4⟩ := h
  obtain ⟨g0, g1, f0, f1, f2, f3, f4, f5, f6, f7, f8, k1, k2, k3, k4, k5, k6, k7, k8, k9, z1, z2, z3, z4, z5, z6, z7, z8, z9, r1, r2⟩ := id hS
  refine e_Trm_openNode (b_Trm_openNode_0 ⟨g1, fun _ => ⟨fun c => absurd c (by omega), fun c => ⟨_, f6, fun _ => ⟨k7, by omega, by omega, hd, _, f7, fun _ => ⟨k8, by omega, by omega, _, f8, fun _ => fun _ => ⟨k9, by omega, by omega, by omega, fun _ => ⟨by omega, ?_⟩⟩⟩⟩⟩⟩⟩)
  have es : (fI σ 649 t).toNat = s.length := by omega
  rw [es, h1, h2]
  have kk : Keep σ (uI (vI (vL (vI σ (t + 51) s.length d) (t + 52) s.length x) (t + 53) s.length ((o.length : Int) + 1)) 649 t ((s.length : Int) + 1)) (TF t nl nf) := (Keep.vI (by omega)).trans ((Keep.vL (by omega)).trans ((Keep.vI (by omega)).trans (Keep.uI (by omega))))
  have ss : Shp σ (uI (vI (vL (vI σ (t + 51) s.length d) (t + 52) s.length x) (t + 53) s.length ((o.length : Int) + 1)) 649 t ((s.length : Int) + 1)) := Shp.vI.trans (Shp.vL.trans (Shp.vI.trans Shp.uI))
  refine r_Trm_openNode_54 ⟨rfl, ⟨hS.shp ss, kl, zl, kf, zf, ?_, ?_, ?_, ?_⟩, kk, ss⟩ (by decide) (by decide)
  · rw [fI_uI, if_pos ⟨rfl, rfl⟩, List.length_cons]; omega
  · rw [fI_uI, if_neg (by omega)]; exact h2
  · refine h3.cons (fun p hp => ?_) ?_
    · simp only [fI_uI, fL_uI, fR_uI, aI_uI, aL_uI, aR_uI, sK_uI, sZ_uI, sN_uI, fI_uL, fL_uL, fR_uL, aI_uL, aL_uL, aR_uL, sK_uL, sZ_uL, sN_uL, fI_uR, fL_uR, fR_uR, aI_uR, aL_uR, aR_uR, sK_uR, sZ_uR, sN_uR, fI_vI, fL_vI, fR_vI, aI_vI, aL_vI, aR_vI, sK_vI, sZ_vI, sN_vI, fI_vL, fL_vL, fR_vL, aI_vL, aL_vL, aR_vL, sK_vL, sZ_vL, sN_vL, fI_vR, fL_vR, fR_vR, aI_vR, aL_vR, aR_vR, sK_vR, sZ_vR, sN_vR, fI_nX, fL_nX, fR_nX, aI_nX, aL_nX, aR_nX, sK_nX, sZ_nX, sN_nX, fI_nO, fL_nO, fR_nO, aI_nO, aL_nO, aR_nO, sK_nO, sZ_nO, sN_nO]
      rw [if_neg (by omega), if_neg (by omega), if_neg (by omega), if_neg (by omega), if_neg (by omega)]
      exact ⟨rfl, rfl, rfl⟩
    · simp only [fI_uI, fL_uI, fR_uI, aI_uI, aL_uI, aR_uI, sK_uI, sZ_uI, sN_uI, fI_uL, fL_uL, fR_uL, aI_uL, aL_uL, aR_uL, sK_uL, sZ_uL, sN_uL, fI_uR, fL_uR, fR_uR, aI_uR, aL_uR, aR_uR, sK_uR, sZ_uR, sN_uR, fI_vI, fL_vI, fR_vI, aI_vI, aL_vI, aR_vI, sK_vI, sZ_vI, sN_vI, fI_vL, fL_vL, fR_vL, aI_vL, aL_vL, aR_vL, sK_vL, sZ_vL, sN_vL, fI_vR, fL_vR, fR_vR, aI_vR, aL_vR, aR_vR, sK_vR, sZ_vR, sN_vR, fI_nX, fL_nX, fR_nX, aI_nX, aL_nX, aR_nX, sK_nX, sZ_nX, sN_nX, fI_nO, fL_nO, fR_nO, aI_nO, aL_nO, aR_nO, sK_nO, sZ_nO, sN_nO]
      rw [if_neg (by omega), if_pos ⟨trivial, trivial⟩, if_pos ⟨trivial, trivial⟩, if_pos ⟨trivial, trivial⟩]
      exact ⟨rfl, rfl, by omega⟩
  · intro p y hy
    simp only [fI_uI, fL_uI, fR_uI, aI_uI, aL_uI, aR_uI, sK_uI, sZ_uI, sN_uI, fI_uL, fL_uL, fR_uL, aI_uL, aL_uL, aR_uL, sK_uL, sZ_uL, sN_uL, fI_uR, fL_uR, fR_uR, aI_uR, aL_uR, aR_uR, sK_uR, sZ_uR, sN_uR, fI_vI, fL_vI, fR_vI, aI_vI, aL_vI, aR_vI, sK_vI, sZ_vI, sN_vI, fI_vL, fL_vL, fR_vL, aI_vL, aL_vL, aR_vL, sK_vL, sZ_vL, sN_vL, fI_vR, fL_vR, fR_vR, aI_vR, aL_vR, aR_vR, sK_vR, sZ_vR, sN_vR, fI_nX, fL_nX, fR_nX, aI_nX, aL_nX, aR_nX, sK_nX, sZ_nX, sN_nX, fI_nO, fL_nO, fR_nO, aI_nO, aL_nO, aR_nO, sK_nO, sZ_nO, sN_nO]
    rw [if_neg (by omega), if_neg (by omega), if_neg (by omega)]
    exact h4 p y hy
theorem close_loop {d : Int} (hd : Q32 d) (hl : t < nl ∧ nl < t + 3) (hf : t + 2 < nf ∧ nf < t + 5) : ∀ (s : List (Int × Int64 × Nat)) (o : List (Int64 × Nat)) (σ : Sto), TmO σ t nl nf s o → s.length + o.length < 22 → Keep σ0 σ (TF t nl nf) → Shp σ0 σ → Aw Ω M_Trm_closeTo rm_Trm_closeTo (MF Ω rm_Trm_closeTo (RV fun σ' => TmO σ' t nl nf (clT d s o).1 (clT d s o).2 ∧ Keep σ0 σ' (TF t nl nf) ∧ Shp σ0 σ') XN) 0 0 0 [xr (some t), xi d, xr (some nl), xr (some nf)] [] σ := by
  intro s
  induction s with
  | nil =>
    intro o σ h hn hk hs
    obtain ⟨hS, kl, zl, kf, zf, h1, h2, h3, h4⟩ := id h
    refine b_Trm_closeTo_0 ⟨hS.2.1, fun _ => ⟨fun _ => ?_, fun c => absurd (show fI σ 649 t ≤ 0 by rw [h1]; exact Int.le_refl _) c⟩⟩
    exact r_Trm_closeTo_86 ⟨rfl, h, hk, hs⟩ (by decide) (by decide)
  | cons x s ih =>
    intro o σ h hn hk hs
    obtain ⟨hS, kl, zl, kf, zf, h1, h2, h3, h4⟩ := id h
    obtain ⟨g0, g1, f0, f1, f2, f3, f4, f5, f6, f7, f8, k1, k2, k3, k4, k5, k6, k7, k8, k9, z1, z2, z3, z4, z5, z6, z7, z8, z9, r1, r2⟩ := id hS
    rw [List.length_cons] at h1 hn
    have hh := h3.head
    have es : (fI σ 649 t - 1).toNat = s.length := by omega
    refine b_Trm_closeTo_0 ⟨g1, fun _ => ⟨fun c => absurd c (by omega), fun _ => ⟨_, f6, fun _ => ⟨k7, by omega, by omega, fun _ => ⟨hd, fun c => ?_, fun c => fun _ => ⟨by omega, fun c2 => absurd c2 (by omega), fun _ => fun _ => ⟨by omega, fun _ => ?_⟩⟩⟩⟩⟩⟩⟩
    · rw [es, hh.1] at c
      refine r_Trm_closeTo_86 ⟨rfl, ?_, hk, hs⟩ (by decide) (by decide)
      rw [clT, if_neg (by omega)]
      exact h
    · rw [es, hh.1] at c
      rw [h1]
      have e0 : ((s.length + 1 : Nat) : Int) - 1 = s.length := by omega
      rw [e0]
      have e1 : fI (uI σ 649 t s.length) 650 t = o.length := by rw [fI_uI, if_neg (by omega)]; exact h2
      rw [e1]
      have e2 : fI (uI (uI σ 649 t s.length) 650 t ((o.length : Int) + 1)) 649 t = s.length := by rw [fI_uI, if_neg (by omega), fI_uI, if_pos ⟨rfl, rfl⟩]
      have e3 : fI (uI (uI σ 649 t s.length) 650 t ((o.length : Int) + 1)) 650 t = ((o.length + 1 : Nat) : Int) := by rw [fI_uI, if_pos ⟨rfl, rfl⟩]; omega
      rw [e2, e3]
      refine ⟨by omega, fun _ => ⟨_, f7, fun _ => ⟨k8, by omega, by omega, kl, by omega, by omega, fun _ => ⟨_, f8, fun _ => ⟨k9, by omega, by omega, fun _ => ⟨kf, by omega, by omega, ?_⟩⟩⟩⟩⟩⟩
      have kk : Keep σ (vI (vL (uI (uI σ 649 t s.length) 650 t ((o.length : Int) + 1)) nl (o.length + 1) (aL σ (t + 52) s.length)) nf (o.length + 1) (aI σ (t + 53) s.length)) (TF t nl nf) := (Keep.uI (by omega)).trans ((Keep.uI (by omega)).trans ((Keep.vL (by omega)).trans (Keep.vI (by omega))))
      have ss : Shp σ (vI (vL (uI (uI σ 649 t s.length) 650 t ((o.length : Int) + 1)) nl (o.length + 1) (aL σ (t + 52) s.length)) nf (o.length + 1) (aI σ (t + 53) s.length)) := Shp.uI.trans (Shp.uI.trans (Shp.vL.trans Shp.vI))
      rw [clT, if_pos (by omega)]
      refine ih (o ++ [(x.2.1, x.2.2)]) (vI (vL (uI (uI σ 649 t s.length) 650 t ((o.length : Int) + 1)) nl (o.length + 1) (aL σ (t + 52) s.length)) nf (o.length + 1) (aI σ (t + 53) s.length)) ⟨hS.shp ss, kl, zl, kf, zf, ?_, ?_, ?_, ?_⟩ (by rw [List.length_append, List.length_cons, List.length_nil]; omega) (hk.trans kk) (hs.trans ss)
      · rw [fI_vI, fI_vL, fI_uI, if_neg (by omega), fI_uI, if_pos ⟨rfl, rfl⟩]
      · rw [fI_vI, fI_vL, fI_uI, if_pos ⟨rfl, rfl⟩, List.length_append, List.length_cons, List.length_nil]; omega
      · have ht := h3.tail
        intro p y hy
        simp only [fI_uI, fL_uI, fR_uI, aI_uI, aL_uI, aR_uI, sK_uI, sZ_uI, sN_uI, fI_uL, fL_uL, fR_uL, aI_uL, aL_uL, aR_uL, sK_uL, sZ_uL, sN_uL, fI_uR, fL_uR, fR_uR, aI_uR, aL_uR, aR_uR, sK_uR, sZ_uR, sN_uR, fI_vI, fL_vI, fR_vI, aI_vI, aL_vI, aR_vI, sK_vI, sZ_vI, sN_vI, fI_vL, fL_vL, fR_vL, aI_vL, aL_vL, aR_vL, sK_vL, sZ_vL, sN_vL, fI_vR, fL_vR, fR_vR, aI_vR, aL_vR, aR_vR, sK_vR, sZ_vR, sN_vR, fI_nX, fL_nX, fR_nX, aI_nX, aL_nX, aR_nX, sK_nX, sZ_nX, sN_nX, fI_nO, fL_nO, fR_nO, aI_nO, aL_nO, aR_nO, sK_nO, sZ_nO, sN_nO]
        rw [if_neg (by omega), if_neg (by omega), if_neg (by omega)]
        exact ht p y hy
      · refine h4.snoc (fun p hp => ?_) ?_
        · simp only [fI_uI, fL_uI, fR_uI, aI_uI, aL_uI, aR_uI, sK_uI, sZ_uI, sN_uI, fI_uL, fL_uL, fR_uL, aI_uL, aL_uL, aR_uL, sK_uL, sZ_uL, sN_uL, fI_uR, fL_uR, fR_uR, aI_uR, aL_uR, aR_uR, sK_uR, sZ_uR, sN_uR, fI_vI, fL_vI, fR_vI, aI_vI, aL_vI, aR_vI, sK_vI, sZ_vI, sN_vI, fI_vL, fL_vL, fR_vL, aI_vL, aL_vL, aR_vL, sK_vL, sZ_vL, sN_vL, fI_vR, fL_vR, fR_vR, aI_vR, aL_vR, aR_vR, sK_vR, sZ_vR, sN_vR, fI_nX, fL_nX, fR_nX, aI_nX, aL_nX, aR_nX, sK_nX, sZ_nX, sN_nX, fI_nO, fL_nO, fR_nO, aI_nO, aL_nO, aR_nO, sK_nO, sZ_nO, sN_nO]
          rw [if_neg (by omega), if_neg (by omega)]
          exact ⟨rfl, rfl⟩
        · simp only [fI_uI, fL_uI, fR_uI, aI_uI, aL_uI, aR_uI, sK_uI, sZ_uI, sN_uI, fI_uL, fL_uL, fR_uL, aI_uL, aL_uL, aR_uL, sK_uL, sZ_uL, sN_uL, fI_uR, fL_uR, fR_uR, aI_uR, aL_uR, aR_uR, sK_uR, sZ_uR, sN_uR, fI_vI, fL_vI, fR_vI, aI_vI, aL_vI, aR_vI, sK_vI, sZ_vI, sN_vI, fI_vL, fL_vL, fR_vL, aI_vL, aL_vL, aR_vL, sK_vL, sZ_vL, sN_vL, fI_vR, fL_vR, fR_vR, aI_vR, aL_vR, aR_vR, sK_vR, sZ_vR, sN_vR, fI_nX, fL_nX, fR_nX, aI_nX, aL_nX, aR_nX, sK_nX, sZ_nX, sN_nX, fI_nO, fL_nO, fR_nO, aI_nO, aL_nO, aR_nO, sK_nO, sZ_nO, sN_nO]
          rw [if_pos ⟨trivial, trivial⟩, if_pos ⟨trivial, trivial⟩]
          exact ⟨hh.2.1, hh.2.2⟩
theorem k_Trm_closeTo {σ : Sto} {s : List (Int × Int64 × Nat)} {o : List (Int64 × Nat)} {d : Int} (h : TmO σ t nl nf s o) (hs : s.length + o.length < 22) (hd : Q32 d) (hl : t < nl ∧ nl < t + 3) (hf : t + 2 < nf ∧ nf < t + 5) : MC Ω M_Trm_closeTo rm_Trm_closeTo (RV fun σ' => TmO σ' t nl nf (clT d s o).1 (clT d s o).2 ∧ Keep σ σ' (TF t nl nf) ∧ Shp σ σ') XN σ [xr (some t), xi d, xr (some nl), xr (some nf)] :=
  e_Trm_closeTo (close_loop hd hl hf s o σ h hs Keep.rf Shp.rf)
theorem TmO.lo {σ σ' : Sto} {s : List (Int × Int64 × Nat)} {o : List (Int64 × Nat)} (h : TmO σ t nl nf s o) (e : σ' = σ) : TmO σ' t nl nf s o := e ▸ h
theorem grow_loop {u : Nat} {T : List (Int64 × Int)} (hT20 : T.length ≤ 20) (hl : t < nl ∧ nl < t + 3) (hf : t + 2 < nf ∧ nf < t + 5) (hu : u + 2 < t ∨ t + 53 < u) : ∀ (d i : Nat) (s : List (Int × Int64 × Nat)) (o : List (Int64 × Nat)) (σ : Sto), i + d = T.length → s.length + o.length = i + 1 → TmO σ t nl nf s o → Tx σ u T → (∀ x ∈ s, (-1 : Int) ≤ x.1) → Keep σ0 σ (TF t nl nf) → Shp σ0 σ → Aw Ω M_Trm_grow rm_Trm_grow (MF Ω rm_Trm_grow (RI fun r σ' => TmO σ' t nl nf [] (grT ((T.drop i).map (·.1)) s o) ∧ Keep σ0 σ' (TF t nl nf) ∧ Shp σ0 σ' ∧ r = T.length + 1) XN) 0 0 30 [xr (some t), xr (some u), xr (some nl), xr (some nf), xi T.length, xi i, xu, xu, xu] [] σ := by
  intro d
  induction d with
  | zero =>
    intro i s o σ hd hn h hT hs hk hsh
    have e : i = T.length := by omega
    subst e
    have hl2 := clT_len (-1) s o
    rw [List.drop_eq_nil_of_le (Nat.le_refl _), List.map_nil, grT]
    refine b_Trm_grow_30 ⟨by omega, by omega, fun _ => ?_, fun c => absurd (Int.le_refl _) c⟩
    refine c_Trm_grow_84 (k_Trm_closeTo h (by omega) (by decide) hl hf) h.1.2.1 (by decide) (by decide) (by first | decide | omega) (by first | decide | omega) (Nat.le_of_ble_eq_true rfl) (fun σ1 hq => ?_) (fun _ _ hx => hx.elim)
    obtain ⟨h1, hk1, hs1⟩ := hq
    rw [clT_all s o hs] at h1 hl2
    refine b_Trm_grow_87 ⟨h1.1.2.1, fun _ => ?_⟩
    refine r_Trm_grow_91 ⟨_, rfl, h1, hk.trans hk1, hsh.trans hs1, ?_⟩ (by decide) (by decide)
    rw [h1.2.2.2.2.2.2.1]
    simp only [List.length_nil] at hl2
    omega
  | succ d ih =>
    intro i s o σ hd hn h hT hs hk hsh
    refine b_Trm_grow_30 ⟨by omega, by omega, fun c => absurd c (by omega), fun _ => ?_⟩
    refine c_Trm_grow_40 (k_Txt_lineAt hT (by omega)) hT.2.1 (by decide) (by decide) (by first | decide | omega) (by first | decide | omega) (Nat.le_of_ble_eq_true rfl) (fun z σ1 hq => ?_) (fun _ _ hx => hx.elim)
    obtain ⟨rfl, rfl⟩ := hq
    refine b_Trm_grow_43 ?_
    refine c_Trm_grow_47 (k_Lbk_depthOf) (by decide) (by decide) (by first | decide | omega) (by first | decide | omega) (Nat.le_of_ble_eq_true rfl) (fun z σ2 hq => ?_) (fun _ _ hx => hx.elim)
    obtain ⟨rfl, rfl⟩ := hq
    refine b_Trm_grow_50 ?_
    have hdp := dpL_le (lnA T i)
    have hl2 := clT_len (dpL (lnA T i) : Nat) s o
    refine c_Trm_grow_57 (k_Trm_closeTo h (by omega) (by omega) hl hf) h.1.2.1 (by decide) (by decide) (by first | decide | omega) (by first | decide | omega) (Nat.le_of_ble_eq_true rfl) (fun σ3 hq => ?_) (fun _ _ hx => hx.elim)
    obtain ⟨h3, hk3, hs3⟩ := hq
    refine b_Trm_grow_60 ?_
    refine c_Trm_grow_71 (k_Trm_openNode h3 (by omega) (by omega) hl hf) h3.1.2.1 (by decide) (by decide) (by first | decide | omega) (by first | decide | omega) (Nat.le_of_ble_eq_true rfl) (fun σ4 hq => ?_) (fun _ _ hx => hx.elim)
    obtain ⟨h4, hk4, hs4⟩ := hq
    refine b_Trm_grow_74 ?_
    have hT4 : Tx σ4 u T := (hT.keep hk3 (fun b h1 h2 h3 => by omega)).keep hk4 (fun b h1 h2 h3 => by omega)
    have li : i < T.length := by omega
    have := ih (i + 1) (((dpL (lnA T i) : Nat), lUsh (lnA T i) (8 * (dpL (lnA T i) : Nat)), (clT (dpL (lnA T i) : Nat) s o).2.length + 1) :: (clT (dpL (lnA T i) : Nat) s o).1) (clT (dpL (lnA T i) : Nat) s o).2 σ4 (by omega) (by rw [List.length_cons]; omega) h4 hT4 (fun x hx => ?_) (hk.trans (hk3.trans hk4)) (hsh.trans (hs3.trans hs4))
    · have ed : T.drop i = T[i] :: T.drop (i + 1) := List.drop_eq_getElem_cons li
      have el : lnA T (i : Int) = T[i].1 := lnA_some (x := T[i]) (by omega) (List.getElem?_eq_getElem li)
      rw [ed, List.map_cons, grT, ← el]
      exact this
    · cases hx with
      | head => show (-1 : Int) ≤ (dpL (lnA T i) : Nat); omega
      | tail _ hx => exact hs x (clT_sub _ _ _ _ hx)
theorem k_Trm_grow {σ : Sto} {u : Nat} {T : List (Int64 × Int)} (hS : TmS σ t) (hT : Tx σ u T) (hT20 : T.length ≤ 20) (kl : sK σ nl = 51) (zl : sZ σ nl = 22) (kf : sK σ nf = 50) (zf : sZ σ nf = 22) (hl : t < nl ∧ nl < t + 3) (hf : t + 2 < nf ∧ nf < t + 5) (hu : u + 2 < t ∨ t + 53 < u) : MC Ω M_Trm_grow rm_Trm_grow (RI fun r σ' => TmO σ' t nl nf [] (trT (T.map (·.1))) ∧ Keep σ σ' (TF t nl nf) ∧ Shp σ σ' ∧ r = T.length + 1) XN σ [xr (some t), xr (some u), xr (some nl), xr (some nf)] := by
  refine e_Trm_grow (b_Trm_grow_0 ⟨hS.2.1, ?_⟩)
  have k0 : Keep σ (uI (uI σ 649 t 0) 650 t 0) (TF t nl nf) := (Keep.uI (by omega)).trans (Keep.uI (by omega))
  have s0 : Shp σ (uI (uI σ 649 t 0) 650 t 0) := Shp.uI.trans Shp.uI
  have h0 : TmO (uI (uI σ 649 t 0) 650 t 0) t nl nf [] [] := by
    refine ⟨hS.shp s0, kl, zl, kf, zf, ?_, ?_, fun p x hx => ?_, fun p x hx => ?_⟩
    · rw [fI_uI, if_neg (by omega), fI_uI, if_pos ⟨rfl, rfl⟩]; rfl
    · rw [fI_uI, if_pos ⟨rfl, rfl⟩]; rfl
    · simp at hx
    · simp at hx
  refine c_Trm_grow_13 (k_Trm_openNode h0 (by decide) (by decide) hl hf) h0.1.2.1 (by decide) (by decide) (by first | decide | omega) (by first | decide | omega) (Nat.le_of_ble_eq_true rfl) (fun σ1 hq => ?_) (fun _ _ hx => hx.elim)
  obtain ⟨h1, hk1, hs1⟩ := hq
  refine b_Trm_grow_16 ?_
  have hT1 : Tx σ1 u T := (hT.keep k0 (fun b h1 h2 h3 => by omega)).keep hk1 (fun b h1 h2 h3 => by omega)
  refine c_Trm_grow_17 (k_Txt_size hT1) hT1.2.1 (by decide) (by decide) (by first | decide | omega) (by first | decide | omega) (Nat.le_of_ble_eq_true rfl) (fun z σ2 hq => ?_) (fun _ _ hx => hx.elim)
  obtain ⟨rfl, rfl⟩ := hq
  refine b_Trm_grow_20 ⟨by omega, by decide, by decide, Nat.le_of_ble_eq_true rfl, by decide, by decide, ?_⟩
  have e : minI (T.length : Int) 20 = T.length := by rw [minI, if_neg (by omega)]
  rw [e]
  have := grow_loop (Ω := Ω) (σ0 := σ) hT20 hl hf hu T.length 0 [(-1, 0, 1)] [] σ2 (by omega) rfl h1 hT1 (fun x hx => ?_) (k0.trans hk1) (s0.trans hs1)
  · exact this
  · cases hx with
    | head => exact Int.le_refl _
    | tail _ hx => cases hx
end TMG
