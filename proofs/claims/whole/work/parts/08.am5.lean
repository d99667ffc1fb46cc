/-! THE ABSTRACT MACHINE, 5: rows of references, of new cells, of Math -/
def am_aC : Nat → String
  | 4 => "DiffWeaver$Conflict"
  | 5 => "DiffWeaver$Version"
  | 6 => "DiffWeaver$Patch"
  | 7 => "DiffWeaver$Review"
  | 8 => "DiffWeaver$Hunk"
  | _ => "java/lang/Object"
def am_aty : Nat → FieldType
  | 0 => .int
  | 1 => .long
  | 2 => .boolean
  | 3 => .array .int
  | t => .object (am_aC t)
theorem am_tys_t (Ω : Om) {t : Nat} (h : t < 10) : (am_tys Ω)[t]? = some (oT Ω t, am_aty t) := by
  match t, h with
  | 0, _ => rfl
  | 1, _ => rfl
  | 2, _ => rfl
  | 3, _ => rfl
  | 4, _ => rfl
  | 5, _ => rfl
  | 6, _ => rfl
  | 7, _ => rfl
  | 8, _ => rfl
  | 9, _ => rfl
theorem am_aty_o {t : Nat} (h3 : 4 ≤ t) : am_aty t = .object (am_aC t) := by
  match t, h3 with
  | t + 4, _ => rfl
theorem am_aty_r {t : Nat} (h3 : 3 ≤ t) : (am_aty t).isReference = true := by
  match t, h3 with
  | 3, _ => rfl
  | t + 4, _ => rfl
theorem ofNat_I (n : Nat) : Int32.ofNat n = Int32.ofInt (n : Int) := by first | exact (Int32.ofInt_eq_ofNat).symm | exact Int32.toBitVec_inj.mp (by simp [Int32.toBitVec_ofInt]) | rfl
section AW8
variable {Ω : Om} {M : MI} {R : Room} {F : QF} {k n pc : Nat} {L st : List PV} {σ : Sto}
theorem Aw.aald {a : Nat} {i : Int} (t : Nat) (ht : 3 ≤ t) (ht2 : t < 10) (hk : sK σ a = 50 + t) (h0 : 0 ≤ i) (h1 : i < sZ σ a) (d : decode (mb M) pc = .ok (.aaload, 1)) (kk : Aw Ω M R F k n (pc + 1) L (xr (aR σ a i.toNat) :: st) σ) : Aw Ω M R F k n pc L (xi i :: xr (some a) :: st) σ := by
  intro p e s m args below meth c H locs ls B hR hS hL
  have hz := hR.2.2.2.2.1.2.2 a
  have hcell := (hR.2.2.2.2.2 a).2 t ht2 hk
  rw [arC_r ht, vp_cell_q] at hcell
  have hAr := (B.2.2.2.2.2.2.2.2.1.2.1.2 t _ (am_tys_t Ω ht2)).1
  refine W.aald (v := va_rf (aR σ a i.toNat)) (ty := am_aty t) B.1 B.2.1 hcell (hAr (sZ σ a) (fun j => va_rf (aR σ a j))) (am_aty_r ht) (fun q => by cases q) (by rw [arrV_size]; exact vp_in_R h0 h1 hz) ?_ rfl rfl d ?_
  · rw [R32.ix h0 (by omega), arrV_read _ _ (by omega)]
  · exact kk p e s m args below meth c H locs ls B hR hS hL
theorem w_arq {t a : Nat} {i : Int} {v : Option Nat} {H H1 : Heap} {s : State} {locs : List Loc} (ht : 3 ≤ t) (ht2 : t < 10) (hR : Rep Ω σ H) (hk : sK σ a = 50 + t) (h0 : 0 ≤ i) (h1 : i < sZ σ a)
    (e1 : H1[a]? = some ((arrV (oT Ω t) (sZ σ a) (fun j => va_rf (aR σ a j))).setSlot (Int32.ofInt i).toNatClampNeg (va_rf v))) (z : H1.size = H.size) (oq : ∀ q, q ≠ a → H1[q]? = H[q]?) : Rep Ω (vR σ a i.toNat v) H1 := by
  have hz := hR.2.2.2.2.1.2.2 a
  refine hR.set z oq (a := a) (by omega) rfl rfl hR.2.2.2.2.1 ⟨fun ci h1 h2 => ?_, fun t' h1 h2 => ?_⟩ (fun q hq => ⟨fun ci k => rfl, fun t => ?_⟩)
  · have h3 : sK σ a = ci + 1 := h2
    omega
  · have h3 : sK σ a = 50 + t' := h2
    have ht : t' = t := by omega
    subst ht
    rw [e1]
    refine congrArg some ?_
    rw [arC_r ht, vp_cell_q, arrV_store]
    show arrV (oT Ω t') (sZ σ a) _ = arrV (oT Ω t') (sZ σ a) _
    refine congrArg (arrV (oT Ω t') (sZ σ a)) (funext fun j => ?_)
    rw [R32.ix h0 (by omega)]
    show (if j = i.toNat then _ else _) = _
    by_cases hj : j = i.toNat
    · simp only [vR, aR, up2, hj, if_true, and_self]
    · simp only [vR, aR, up2, hj, if_false, and_false]
  · simp only [arC, vR, sZ, aI, aL, aR, up2_row hq]
theorem Aw.aastN {a : Nat} {i : Int} (t : Nat) (ht : 4 ≤ t) (ht2 : t < 10) (hk : sK σ a = 50 + t) (h0 : 0 ≤ i) (h1 : i < sZ σ a) (d : decode (mb M) pc = .ok (.aastore, 1)) (kk : Aw Ω M R F k n (pc + 1) L st (vR σ a i.toNat none)) : Aw Ω M R F k n pc L (xr none :: xi i :: xr (some a) :: st) σ := by
  intro p e s m args below meth c H locs ls B hR hS hL
  have hz := hR.2.2.2.2.1.2.2 a
  have hcell := (hR.2.2.2.2.2 a).2 t ht2 hk
  rw [arC_r (by omega), vp_cell_q] at hcell
  have hAr := (B.2.2.2.2.2.2.2.2.1.2.1.2 t _ (am_tys_t Ω ht2)).1
  refine va_WaastN (C := am_aC t) B.1 B.2.1 hcell (am_aty_o ht ▸ hAr (sZ σ a) (fun j => va_rf (aR σ a j))) (fun h => by cases h) (by rw [arrV_size]; exact vp_in_R h0 h1 hz) rfl rfl d fun H1 e1 z oq => ?_
  exact kk p e s m args below meth c H1 _ ls B (w_arq (s := s) (locs := locs) (by omega) ht2 hR hk h0 h1 e1 z oq) (hS.put z oq (hR.base (by omega))) hL
theorem Aw.aast {a v : Nat} {i : Int} (t ci : Nat) (ht : 4 ≤ t) (ht2 : t < 10) (hc : ci < 14) (hca : am_C ci = am_aC t ∨ Cond.castable (am_C ci) (am_aC t) ∈ am_tb) (hk : sK σ a = 50 + t) (hkv : sK σ v = ci + 1) (h0 : 0 ≤ i) (h1 : i < sZ σ a) (d : decode (mb M) pc = .ok (.aastore, 1)) (kk : Aw Ω M R F k n (pc + 1) L st (vR σ a i.toNat (some v))) : Aw Ω M R F k n pc L (xr (some v) :: xi i :: xr (some a) :: st) σ := by
  intro p e s m args below meth c H locs ls B hR hS hL
  have hz := hR.2.2.2.2.1.2.2 a
  have hKn := B.2.2.2.2.2.2.2.2.1
  have hcell := (hR.2.2.2.2.2 a).2 t ht2 hk
  rw [arC_r (by omega), vp_cell_q] at hcell
  have h2 := (hKn.2.1.2 t _ (am_tys_t Ω ht2)).2
  rw [am_aty_o ht] at h2
  obtain ⟨kA, comp, k1, k2, k3, -⟩ := h2
  have hcls := (hKn.2.1.1 ci _ (am_cls hc)).2
  obtain ⟨cellV, g1, g2, g3, -⟩ := (hR.2.2.2.2.2 v).1 ci hc hkv
  obtain ⟨kC, hkC, -⟩ := hcls.2
  obtain ⟨kE, hkE, -⟩ := Vm.findClass_spec k3
  have hasg : s.vm.assignable ((oD Ω).1 ci) comp = true := by
    rcases hca with hca | hca
    · have e1 : comp = (oD Ω).1 ci := Option.some.inj (k3.symm.trans (hca ▸ hcls.1))
      rw [e1]; exact va_assign hcls
    · obtain ⟨c0, t1, f1, f2, f3⟩ := Cond.castable_spec (hKn.hts args _ hca)
      cases hcls.1.symm.trans f1
      cases k3.symm.trans f2
      exact f3
  have hlt := vp_in_R h0 h1 hz
  refine W.aast B.1 B.2.1 hcell (fun q h => by cases h) (fun h => by cases h) k1 k2 rfl hkE ⟨fun q => hlt (Or.inl q), by rw [arrV_size]; exact Nat.not_le.mp (fun q => hlt (Or.inr q))⟩ g1 (fun q h => by rw [g3] at h; cases h) (by rw [g2]; exact hkC) (by rw [g2]; exact hasg) rfl rfl d fun H1 e1 z oq => ?_
  exact kk p e s m args below meth c H1 _ ls B (w_arq (s := s) (locs := locs) (by omega) ht2 hR hk h0 h1 e1 z oq) (hS.put z oq (hR.base (by omega))) hL
theorem Aw.alen {a : Nat} (t : Nat) (ht2 : t < 10) (hk : sK σ a = 50 + t) (d : decode (mb M) pc = .ok (.arraylength, 1)) (kk : (sZ σ a : Int) < 2147483648 → Aw Ω M R F k n (pc + 1) L (xi (sZ σ a : Int) :: st) σ) : Aw Ω M R F k n pc L (xr (some a) :: st) σ := by
  intro p e s m args below meth c H locs ls B hR hS hL
  have hz := hR.2.2.2.2.1.2.2 a
  have hcell := (hR.2.2.2.2.2 a).2 t ht2 hk
  refine va_alen (D := oD Ω) (cl := am_cl) (tys := am_tys Ω) (ws := [(a, .inl (oT Ω t, arC σ t a))]) B.1 B.2.1 B.2.2.2.2.2.2.2.2.1.2.1 (fun k q hq => ?_) 0 t rfl (am_tys_t Ω ht2) (v := Int32.ofInt (sZ σ a : Int)) ?_ d ?_
  · cases k with
    | zero => cases hq; exact hcell
    | succ k => simp at hq
  · exact ofNat_I _
  · exact kk (by omega) p e s m args below meth c H locs ls B hR hS hL
theorem Aw.slen (d : decode (mb M) pc = .ok (.arraylength, 1)) (kk : Aw Ω M R F k n (pc + 1) L (xi (oN Ω : Int) :: st) σ) : Aw Ω M R F k n pc L (xr (some (oB Ω)) :: st) σ := by
  intro p e s m args below meth c H locs ls B hR hS hL
  obtain ⟨-, -, -, -, -, hX, hbl, -⟩ := B.2.2.2.2.2.2.2.2.1
  obtain ⟨scr, h1, h2, h3, h4, h5⟩ := hX
  refine W.alen (n := Int32.ofInt (oN Ω : Int)) B.1 B.2.1 (by rw [hR.2.2.1 _ hbl]; exact h1) h2 (by rw [h4]; exact ofNat_I _) rfl rfl d ?_
  exact kk p e s m args below meth c H locs ls B hR hS hL
theorem Aw.sld {i : Int} (h0 : 0 ≤ i) (hi : i < oN Ω) (hN : oN Ω < 2147483648) (d : decode (mb M) pc = .ok (.iaload, 1)) (kk : Aw Ω M R F k n (pc + 1) L (xi (oX Ω i.toNat).toInt :: st) σ) : Aw Ω M R F k n pc L (xi i :: xr (some (oB Ω)) :: st) σ := by
  intro p e s m args below meth c H locs ls B hR hS hL
  obtain ⟨-, -, -, -, -, hX, hbl, -⟩ := B.2.2.2.2.2.2.2.2.1
  obtain ⟨scr, h1, h2, h3, h4, h5⟩ := hX
  refine W.iald (v := .int (oX Ω i.toNat)) B.1 B.2.1 (by rw [hR.2.2.1 _ hbl]; exact h1) h2 h3 (by rw [h4]; exact vp_in_R h0 hi hN) (by rw [R32.ix h0 (by omega)]; exact h5 _ (by omega)) rfl rfl d ?_
  have h := kk p e s m args below meth c H locs ls B hR hS hL
  simp only [List.map_cons, xV_i, ofInt_toInt] at h
  exact h
theorem va_S.grow {A : Nat → Prop} {H0 H H1 : Heap} {locs : List Loc} (h : va_S A H0 H locs) (z : H.size ≤ H1.size) (oq : ∀ q : Nat, q < H.size → H1[q]? = H[q]?) : va_S A H0 H1 locs :=
  ⟨Nat.le_trans h.1 z, fun q h1 h2 => (oq q (Nat.lt_of_lt_of_le h1 h.1)).trans (h.2.1 q h1 h2), h.2.2⟩
theorem Aw.new {idx : Nat} (ci : Nat) (hc : ci < 14) (hcl : Cond.classLink (mo M) idx (am_C ci) ∈ am_tb) (hins : Cond.instantiable (am_C ci) (am_n ci) ∈ am_tb) (hini : Cond.initialized (am_C ci) ∈ am_tb) (h1 : k + 1 ≤ R.cells) (h2 : n + am_n ci ≤ R.slots) (d : decode (mb M) pc = .ok (.new idx, 3))
    (kk : Aw Ω M R F (k + 1) (n + am_n ci) (pc + 3) L (xr (some (sN σ)) :: st) (nO σ (ci + 1) 0)) : Aw Ω M R F k n pc L st σ := by
  intro p e s m args below meth c H locs ls B hR hS hL
  have hKn := B.2.2.2.2.2.2.2.2.1
  have hts := hKn.hts args
  have hcls := hKn.2.1.1 ci _ (am_cls hc)
  refine W.newcK B.1 B.2.1 B.2.2.2.2.1 (hts _ hcl) (hts _ hins) (hts _ hini) rfl d h1 h2 hcls.2.1 rfl fun H1 kC hkC e1 z1 o1 => ?_
  have hb := u_born (am_ty ci) hts (am_win hc) hcls hkC e1 (am_tyk hc)
  rw [hR.1] at hb
  have hg := am_tgk hc
  have hrep : Rep Ω (nO σ (ci + 1) 0) H1 := hR.new (by decide) z1 o1 ⟨fun ci' h1 h2 => by
    have h3 : (up1 (sK σ) (sN σ) (ci + 1)) (sN σ) = ci' + 1 := h2
    rw [up1, if_pos rfl] at h3
    have e : ci' = ci := by omega
    subst e
    refine hb.to (fun j hj => ?_)
    have h4 := hg j hj
    show _ = fv (nO σ (ci' + 1) 0) ci' j (sN σ)
    simp only [fv, nO, fI, fL, fR, if_true]
    split at h4
    · rename_i h5
      rw [if_pos h5]
      rcases h4 with h4 | h4 <;> rw [h4] <;> rfl
    · rename_i h5
      rw [if_neg h5]
      split at h4
      · rename_i h6
        rw [if_pos h6, h4]; rfl
      · rename_i h6
        rw [if_neg h6]
        cases hty : am_ty ci' j <;> first | (rw [hty] at h4; simp [FieldType.isReference] at h4; done) | rfl, fun t _ h2 => by
    have h3 : (up1 (sK σ) (sN σ) (ci + 1)) (sN σ) = 50 + t := h2
    rw [up1, if_pos rfl] at h3
    omega⟩
  rw [hR.1]
  exact kk p e s m args below meth c H1 locs ls B hrep (hS.grow (by omega) o1) hL
theorem rep_newA {t N : Nat} {H H1 : Heap} (ht2 : t < 10) (hN : N < 2147483648) (hR : Rep Ω σ H) (e1 : H1[H.size]? = some (arrV (oT Ω t) N (fun _ => defaultValue (am_aty t)))) (z1 : H1.size = H.size + 1) (o1 : ∀ q, q < H.size → H1[q]? = H[q]?) : Rep Ω (nO σ (50 + t) N) H1 := by
  rw [hR.1] at e1
  refine hR.new hN z1 o1 ⟨fun ci h1 h2 => ?_, fun t' h1 h2 => ?_⟩
  · have h3 : (up1 (sK σ) (sN σ) (50 + t)) (sN σ) = ci + 1 := h2
    rw [up1, if_pos rfl] at h3
    omega
  · have h3 : (up1 (sK σ) (sN σ) (50 + t)) (sN σ) = 50 + t' := h2
    rw [up1, if_pos rfl] at h3
    have e : t' = t := by omega
    subst e
    rw [e1]
    refine congrArg some ?_
    have hz : sZ (nO σ (50 + t') N) (sN σ) = N := by show up1 (sZ σ) (sN σ) N (sN σ) = N; rw [up1, if_pos rfl]
    match t', ht2 with
    | 0, _ => rw [arC_0, vp_cell_i, hz]; simp only [nO, aI, up1, if_true]; rfl
    | 1, _ => rw [arC_1, vp_cell_l, hz]; simp only [nO, aL, up1, if_true]; rfl
    | 2, _ => rw [arC_2, vp_cell_i, hz]; simp only [nO, aI, up1, if_true]; rfl
    | t + 3, _ =>
      rw [arC_r (by omega), vp_cell_q, hz]; simp only [nO, aR, up1, if_true]
      match t with
      | 0 => rfl
      | t + 1 => rfl
theorem Aw.newarr {at9 : ArrayType} {len : Int} (t : Nat) (ht : t < 3) (hty : newarray.typeOf at9 = am_aty t) (harr : Cond.arrayClass (am_aty t) ∈ am_tb) (h0 : 0 ≤ len) (hlen : len ≤ 60000000) (h1 : k + 1 ≤ R.cells) (h2 : n + len.toNat ≤ R.slots) (d : decode (mb M) pc = .ok (.newarray at9, 2))
    (kk : Aw Ω M R F (k + 1) (n + len.toNat) (pc + 2) L (xr (some (sN σ)) :: st) (nO σ (50 + t) len.toNat)) : Aw Ω M R F k n pc L (xi len :: st) σ := by
  intro p e s m args below meth c H locs ls B hR hS hL
  have hKn := B.2.2.2.2.2.2.2.2.1
  have hts := hKn.hts args
  have hK := (hKn.2.1.2 t _ (am_tys_t Ω (by omega))).2
  have hr : R32 len := ⟨by omega, by omega⟩
  refine va_newaK B.1 B.2.1 (hty.symm ▸ hts _ harr) rfl d (N := len.toNat) rfl (fun q => by have := (hr.lt (y := 0) ⟨by decide, by decide⟩).mp q; omega) (R32.ix h0 (by omega)) ?_ h1 h2 rfl fun H1 cA e1 z1 o1 _ hnm => ?_
  · have hcb : componentBytes (newarray.typeOf at9) ≤ 8 := by cases at9 <;> decide
    have : len.toNat * componentBytes (newarray.typeOf at9) ≤ len.toNat * 8 := Nat.mul_le_mul_left _ hcb
    omega
  · have hcA : cA = oT Ω t := by
      rw [hty] at hnm
      match t, ht with
      | 0, _ => exact Option.some.inj (hnm.symm.trans hK)
      | 1, _ => exact Option.some.inj (hnm.symm.trans hK)
      | 2, _ => exact Option.some.inj (hnm.symm.trans hK)
    subst hcA
    rw [hty] at e1
    rw [hR.1]
    exact kk p e s m args below meth c H1 locs ls B (rep_newA (by omega) (by omega) hR e1 z1 o1) (hS.grow (by omega) o1) hL
theorem Aw.anew {idx : Nat} {len : Int} (t : Nat) (ht : 4 ≤ t) (ht2 : t < 10) (hcl : Cond.classLink (mo M) idx (am_aC t) ∈ am_tb) (hover : Cond.arrayOver (.object (am_aC t)) ∈ am_tb) (h0 : 0 ≤ len) (hlen : len ≤ 60000000) (h1 : k + 1 ≤ R.cells) (h2 : n + len.toNat ≤ R.slots) (d : decode (mb M) pc = .ok (.anewarray idx, 3))
    (kk : Aw Ω M R F (k + 1) (n + len.toNat) (pc + 3) L (xr (some (sN σ)) :: st) (nO σ (50 + t) len.toNat)) : Aw Ω M R F k n pc L (xi len :: st) σ := by
  intro p e s m args below meth c H locs ls B hR hS hL
  have hKn := B.2.2.2.2.2.2.2.2.1
  have hts := hKn.hts args
  have hK := (hKn.2.1.2 t _ (am_tys_t Ω ht2)).2
  rw [am_aty_o ht] at hK
  obtain ⟨-, -, -, -, -, k4⟩ := hK
  have hr : R32 len := ⟨by omega, by omega⟩
  have hix := R32.ix h0 (show len < 2147483648 by omega)
  refine W.anew B.1 B.2.1 B.2.2.2.2.1 (hts _ hcl) (hts _ hover) rfl d rfl (fun q => by have := (hr.lt (y := 0) ⟨by decide, by decide⟩).mp q; omega) (by rw [hix]; omega) h1 (by rw [hix]; exact h2) fun cA kA comp f1 f2 f3 f4 => ?_
  have hcA : cA = oT Ω t := Option.some.inj (f1.symm.trans k4)
  subst hcA
  rw [hix]
  generalize hH1 : H.push ({ cls := oT Ω t, slots := Array.replicate len.toNat .null, vm := .none } : Cell) = H1
  have z1 : H1.size = H.size + 1 := by rw [← hH1, Array.size_push]
  have e1 : H1[H.size]? = some (arrV (oT Ω t) len.toNat (fun _ => defaultValue (am_aty t))) := by rw [← hH1, Array.getElem?_push_size, ← arrV_new, am_aty_o ht]; rfl
  have o1 : ∀ q : Nat, q < H.size → H1[q]? = H[q]? := fun q hq => by rw [← hH1, Array.getElem?_push, if_neg (Nat.ne_of_lt hq)]
  rw [hR.1]
  exact kk p e s m args below meth c H1 locs ls B (rep_newA ht2 (by omega) hR e1 z1 o1) (hS.grow (by omega) o1) hL
theorem Aw.cast {idx a : Nat} (ci : Nat) (hc : ci < 14) (hcl : Cond.classLink (mo M) idx (am_C ci) ∈ am_tb) (hk : sK σ a = ci + 1) (d : decode (mb M) pc = .ok (.checkcast idx, 3)) (kk : Aw Ω M R F k n (pc + 3) L (xr (some a) :: st) σ) : Aw Ω M R F k n pc L (xr (some a) :: st) σ := by
  intro p e s m args below meth c H locs ls B hR hS hL
  have hKn := B.2.2.2.2.2.2.2.2.1
  have hcls := (hKn.2.1.1 ci _ (am_cls hc)).2
  obtain ⟨cell, g1, g2, g3, -⟩ := (hR.2.2.2.2.2 a).1 ci hc hk
  exact va_castS B.1 B.2.1 B.2.2.2.2.1 (hKn.hts args _ hcl) hcls ⟨cell, g1, by rw [g3]; rfl, by rw [g2]; exact hcls.1⟩ d (kk p e s m args below meth c H locs ls B hR hS hL)
def maxI (x y : Int) : Int := if x < y then y else x
def minI (x y : Int) : Int := if y < x then y else x
def catP (v : PV) : Nat := bif isL v then 2 else 1
theorem cat_sum (st : List PV) : ((st.map xV).map fun v => v.category).sum = (st.map catP).sum := by
  rw [List.map_map]
  refine congrArg List.sum (List.map_congr_left fun v _ => ?_)
  show (xV v).category = catP v
  cases h : isL v with
  | true => rw [xV_cat2 h, catP, h]; rfl
  | false => rw [xV_cat1 h, catP, h]; rfl
theorem Aw.mmax {idx : Nat} {x y : Int} (hx : R32 x) (hy : R32 y) (hl : Cond.methodLink (mo M) idx Lib.Math.max.name ∈ am_tb) (h1 : Cond.static Lib.Math.max.name ∈ am_tb) (h2 : Cond.initialized "java/lang/Math" ∈ am_tb) (h3 : Cond.code Lib.Math.max.name Lib.Math.max.code 2 (some .int) ∈ am_tb) (hf : 1 ≤ R.frames) (hlo : (st.map catP).sum + 13 ≤ R.locals) (hc : k ≤ R.cells) (hs : n ≤ R.slots) (d : decode (mb M) pc = .ok (.invokestatic idx, 3))
    (kk : Aw Ω M R F k n (pc + 3) L (xi (maxI x y) :: st) σ) : Aw Ω M R F k n pc L (xi y :: xi x :: st) σ := by
  intro p e s m args below meth c H locs ls B hR hS hL
  have hts := B.2.2.2.2.2.2.2.2.1.hts args
  refine va_mmax B.1 B.2.1 (B.2.2.1.trans hL.2.1.symm) B.2.2.2.2.1 (hts _ hl) (hts _ h1) (hts _ h2) (hts _ h3) hf (by rw [cat_sum]; exact hlo) hc hs d ?_
  have h := kk p e s m args below meth c H locs ls B hR hS hL
  have e : (if Int32.ofInt x < Int32.ofInt y then Int32.ofInt y else Int32.ofInt x) = Int32.ofInt (maxI x y) := by
    unfold maxI
    by_cases q : x < y
    · rw [if_pos q, if_pos ((hx.lt hy).mpr q)]
    · rw [if_neg q, if_neg (fun z => q ((hx.lt hy).mp z))]
  rw [e]
  exact h
theorem Aw.mmin {idx : Nat} {x y : Int} (hx : R32 x) (hy : R32 y) (hl : Cond.methodLink (mo M) idx Lib.Math.min.name ∈ am_tb) (h1 : Cond.static Lib.Math.min.name ∈ am_tb) (h2 : Cond.initialized "java/lang/Math" ∈ am_tb) (h3 : Cond.code Lib.Math.min.name Lib.Math.min.code 2 (some .int) ∈ am_tb) (hf : 1 ≤ R.frames) (hlo : (st.map catP).sum + 13 ≤ R.locals) (hc : k ≤ R.cells) (hs : n ≤ R.slots) (d : decode (mb M) pc = .ok (.invokestatic idx, 3))
    (kk : Aw Ω M R F k n (pc + 3) L (xi (minI x y) :: st) σ) : Aw Ω M R F k n pc L (xi y :: xi x :: st) σ := by
  intro p e s m args below meth c H locs ls B hR hS hL
  have hts := B.2.2.2.2.2.2.2.2.1.hts args
  refine va_mmin B.1 B.2.1 (B.2.2.1.trans hL.2.1.symm) B.2.2.2.2.1 (hts _ hl) (hts _ h1) (hts _ h2) (hts _ h3) hf (by rw [cat_sum]; exact hlo) hc hs d ?_
  have h := kk p e s m args below meth c H locs ls B hR hS hL
  have e : (if Int32.ofInt y < Int32.ofInt x then Int32.ofInt y else Int32.ofInt x) = Int32.ofInt (minI x y) := by
    unfold minI
    by_cases q : y < x
    · rw [if_pos q, if_pos ((hy.lt hx).mpr q)]
    · rw [if_neg q, if_neg (fun z => q ((hy.lt hx).mp z))]
  rw [e]
  exact h
end AW8
