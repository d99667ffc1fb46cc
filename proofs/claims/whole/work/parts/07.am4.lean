/-! THE ABSTRACT MACHINE, 4: rows of the heap -/
def FLk (M : MI) (idx ci j : Nat) : Prop := (∃ ref, Cond.fieldLink (mo M) idx ref (am_T ci j).2.1 (am_T ci j).2.2.1 ∈ am_tb ∧ (ref = (am_T ci j).1 ∨ Cond.sameField ref (am_T ci j).1 (am_T ci j).2.1 (am_T ci j).2.2.1 ∈ am_tb)) ∨ (∃ host, Cond.fieldLinkNest (mo M) idx (am_T ci j).1 (am_T ci j).2.1 (am_T ci j).2.2.1 host ∈ am_tb)
section W7
variable {Ω : Om} {M : MI} {p : Program} {e : Env} {R : Room} {s : State} {m : MethodId} {args : Array Value} {below : List Frame} {meth : Method} {c : Code} {H : Heap} {locs : List Loc} {k n : Nat} {Q : State → Prop} {pc : Nat} {ls : Array Slot} {rest : List Value} {σ : Sto}
theorem w_get {ci j idx a : Nat} (B : Bd Ω M p e s m args below meth c) (hR : Rep Ω σ H) (hl : FLk M idx ci j) (hc : ci < 14) (hj : j < am_n ci) (hk : sK σ a = ci + 1) (d : decode (mb M) pc = .ok (.getfield idx, 3))
    (kk : W p (oL Ω) e R s m args below meth c H locs k n Q (F0 m (pc + 3) ls (fv σ ci j a :: rest))) : W p (oL Ω) e R s m args below meth c H locs k n Q (F0 m pc ls (.ref a :: rest)) := by
  obtain ⟨hx, hb, -, -, hown, -, -, -, hKn, -, -⟩ := B
  have hts := hKn.hts args
  obtain ⟨hS, hfc, kC, hkC, hkind⟩ := hKn.2.1.1 ci _ (am_cls hc)
  obtain ⟨cell, q1, q2, q3, q4⟩ := (hR.2.2.2.2.2 a).1 ci hc hk
  obtain ⟨cf, kf, fi, f, hi, hsl⟩ := hS j hj
  have hst := (u_facts hfc hkC (u_lays hts (am_win hc) hj) hi).1
  rcases hl with ⟨ref, h1, h2⟩ | ⟨host, h1⟩
  · refine W.getf hx hb hown (hts _ h1) (cf := cf) (i := fi) (k := kf) (f := f) ?_ hst q1 (by rw [q3]; exact fun h => by cases h) (v := fv σ ci j a) ?_ rfl rfl d kk
    · rcases h2 with h2 | h2
      · rw [h2]; exact hi
      · exact u_same (hts _ h2) _ hi
    · rw [hsl]; exact q4 j hj
  · refine va_Wgetf hx hb hown (hts _ h1) hi hst q1 (by rw [q3]; exact fun h => by cases h) (v := fv σ ci j a) ?_ rfl rfl d kk
    rw [hsl]; exact q4 j hj
theorem w_put {ci j idx a : Nat} {v : Value} (B : Bd Ω M p e s m args below meth c) (hR : Rep Ω σ H) (hS0 : va_S (oA Ω) s.heap H locs) (hl : FLk M idx ci j) (hc : ci < 14) (hj : j < am_n ci) (hk : sK σ a = ci + 1) (hfin : (am_T ci j).2.2.2 = false) (hn : narrow (am_ty ci j) v = v) (hfit : fits (am_ty ci j) v = true) (d : decode (mb M) pc = .ok (.putfield idx, 3))
    (kk : ∀ (H' : Heap) (locs' : List Loc), t_OB a ((oD Ω).1 ci) (am_n ci) ((oD Ω).2 ci) H' (updV (fun j => fv σ ci j a) j v) → H'.size = H.size → (∀ q, q ≠ a → H'[q]? = H[q]?) → va_S (oA Ω) s.heap H' locs' → W p (oL Ω) e R s m args below meth c H' locs' k n Q (F0 m (pc + 3) ls rest)) : W p (oL Ω) e R s m args below meth c H locs k n Q (F0 m pc ls (v :: .ref a :: rest)) := by
  obtain ⟨hx, hb, -, -, hown, -, -, -, hKn, -, -⟩ := B
  have hts := hKn.hts args
  have hap := va_apart (own := mo M) hts (am_win hc) (am_ty ci) (am_tyk hc) (am_nek hc) hKn.2.1 (am_cls hc)
  obtain ⟨hS, hfc, kC, hkC, hkind⟩ := hKn.2.1.1 ci _ (am_cls hc)
  have hbase : oA Ω a := hR.base (by omega)
  obtain ⟨cell, q1, q2, q3, q4⟩ := (hR.2.2.2.2.2 a).1 ci hc hk
  obtain ⟨cf, kf, fi, f, hi, hsl⟩ := hS j hj
  have hst := (u_facts hfc hkC (u_lays hts (am_win hc) hj) hi).1
  have hlay := hts _ (am_win hc _ (u_in_lay hj))
  unfold u_lay at hlay
  rw [if_neg (by rw [hfin]; decide)] at hlay
  have h6 := u_store hfc hkC hkind hlay hi (am_tyk hc j hj) hn hfit
  have fin : ∀ H' : Heap, H'[a]? = some (cell.setSlot f.slot v) → H'.size = H.size → (∀ q, q ≠ a → H'[q]? = H[q]?) → W p (oL Ω) e R s m args below meth c H' (locs ++ [⟨a, f.slot⟩]) k n Q (F0 m (pc + 3) ls rest) := by
    intro H' e1 e2 e3
    refine kk H' _ ⟨_, e1, q2, q3, ?_⟩ e2 e3 (hS0.put e2 e3 hbase)
    rw [hsl]
    exact t_set q4 hap hj v
  rcases hl with ⟨ref, h1, h2⟩ | ⟨host, h1⟩
  · have hi' : s.fieldFound? ref (am_T ci j).2.1 (am_T ci j).2.2.1 = some (cf, kf, fi, f) := by
      rcases h2 with h2 | h2
      · rw [h2]; exact hi
      · exact u_same (hts _ h2) _ hi
    exact W.putK hx hb (f := f) ⟨hown, hts _ h1, ⟨_, _, _, hi'⟩, hst⟩ (by rw [q2]; exact h6) q1 q3 (by rw [hsl]; exact k2_hasslot (q4 j hj)) rfl rfl d fin
  · exact va_WputK hx hb hown (hts _ h1) hi hst (by rw [q2]; exact h6) q1 q3 (by rw [hsl]; exact k2_hasslot (q4 j hj)) rfl rfl d fin
theorem w_putF {ci j idx a : Nat} {v : Value} (B : Bd Ω M p e s m args below meth c) (hR : Rep Ω σ H) (hS0 : va_S (oA Ω) s.heap H locs) (hl : Cond.fieldLink (mo M) idx (am_T ci j).1 (am_T ci j).2.1 (am_T ci j).2.2.1 ∈ am_tb) (hc : ci < 14) (hj : j < am_n ci) (hk : sK σ a = ci + 1) (hfin : (am_T ci j).2.2.2 = true) (hdecl : (am_T ci j).1 = mo M) (hini : (my M).name = "<init>") (hn : narrow (am_ty ci j) v = v) (hfit : fits (am_ty ci j) v = true) (d : decode (mb M) pc = .ok (.putfield idx, 3))
    (kk : ∀ (H' : Heap) (locs' : List Loc), t_OB a ((oD Ω).1 ci) (am_n ci) ((oD Ω).2 ci) H' (updV (fun j => fv σ ci j a) j v) → H'.size = H.size → (∀ q, q ≠ a → H'[q]? = H[q]?) → va_S (oA Ω) s.heap H' locs' → W p (oL Ω) e R s m args below meth c H' locs' k n Q (F0 m (pc + 3) ls rest)) : W p (oL Ω) e R s m args below meth c H locs k n Q (F0 m pc ls (v :: .ref a :: rest)) := by
  obtain ⟨hx, hb, -, -, hown, -, -, hin2, hKn, -, -⟩ := B
  have hts := hKn.hts args
  have hap := va_apart (own := mo M) hts (am_win hc) (am_ty ci) (am_tyk hc) (am_nek hc) hKn.2.1 (am_cls hc)
  obtain ⟨hS, hfc, kC, hkC, hkind⟩ := hKn.2.1.1 ci _ (am_cls hc)
  have hbase : oA Ω a := hR.base (by omega)
  obtain ⟨cell, q1, q2, q3, q4⟩ := (hR.2.2.2.2.2 a).1 ci hc hk
  obtain ⟨cf, kf, fi, f, hi, hsl⟩ := hS j hj
  have hst := (u_facts hfc hkC (u_lays hts (am_win hc) hj) hi).1
  have hlay := hts _ (am_win hc _ (u_in_lay hj))
  unfold u_lay at hlay
  rw [if_pos hfin] at hlay
  have hcf : m.cls = cf := by
    obtain ⟨_, _, c', _, _, _, -, -, hf', -, -, -, hown2, -⟩ := Cond.laysFinal_spec hlay
    have e1 : c' = cf := by have := hi.symm.trans hf'; simp at this; exact this.1.symm
    rw [hdecl] at hown2
    rw [← e1]; exact Option.some.inj (hown.symm.trans hown2)
  have h6 := u_fits hfc hkC hkind (Or.inr hlay) hi (am_tyk hc j hj) hn hfit
  refine W.putFinK hx hb hown (hts _ hl) hi hst hcf (hin2 hini) (by rw [q2]; exact h6) q1 q3 (by rw [hsl]; exact k2_hasslot (q4 j hj)) rfl rfl d fun H' e1 e2 e3 => ?_
  refine kk H' _ ⟨_, e1, q2, q3, ?_⟩ e2 e3 (hS0.put e2 e3 hbase)
  rw [hsl]
  exact t_set q4 hap hj v
/-- a store of one field, told by the store's setters -/
theorem rep_fld {ci j a : Nat} {v : Value} {σ' : Sto} {H' : Heap} (hR : Rep Ω σ H) (hc : ci < 14) (hk : sK σ a = ci + 1) (hob : t_OB a ((oD Ω).1 ci) (am_n ci) ((oD Ω).2 ci) H' (updV (fun j => fv σ ci j a) j v)) (z : H'.size = H.size) (oq : ∀ q, q ≠ a → H'[q]? = H[q]?)
    (hN : sN σ' = sN σ) (hK : sK σ' = sK σ) (hrng : Rng σ') (hv : ∀ i, fv σ' ci i a = if i = j then v else fv σ ci i a) (ho : ∀ q, q ≠ a → ∀ ci k, fv σ' ci k q = fv σ ci k q) (ha : ∀ q t, arC σ' t q = arC σ t q) : Rep Ω σ' H' := by
  refine hR.set z oq (a := a) (by omega) hN hK hrng ⟨fun ci' h1 h2 => ?_, fun t h1 h2 => ?_⟩ (fun q hq => ⟨ho q hq, ha q⟩)
  · rw [hK] at h2
    have e : ci' = ci := by omega
    subst e
    exact hob.to (fun i _ => by rw [hv i]; rfl)
  · rw [hK] at h2; omega
end W7
theorem Rng.uI {σ : Sto} {f a : Nat} {x : Int} (h : Rng σ) (hx : R32 x) : Rng (uI σ f a x) := by
  refine ⟨fun g b => ?_, h.2.1, h.2.2⟩
  show R32 (up2 (fI σ) f a x g b)
  unfold up2; split
  · exact hx
  · exact h.1 g b
theorem Rng.vI {σ : Sto} {a i : Nat} {x : Int} (h : Rng σ) (hx : R32 x) : Rng (vI σ a i x) := by
  refine ⟨h.1, fun g b => ?_, h.2.2⟩
  show R32 (up2 (aI σ) a i x g b)
  unfold up2; split
  · exact hx
  · exact h.2.1 g b
theorem fv_uI {σ : Sto} {ci j a : Nat} {x : Int} (ht : (am_tg ci).getD j 2 = 0) (i : Nat) : fv (uI σ (64 * ci + j) a x) ci i a = if i = j then .int (Int32.ofInt x) else fv σ ci i a := by
  unfold fv
  by_cases e : i = j
  · subst e
    simp only [ht, if_true, uI, fI, up2, and_self]
  · simp only [if_neg e, uI, fI, fL, fR, up2, Nat.add_left_cancel_iff, e, false_and, if_false]
theorem fv_uL {σ : Sto} {ci j a : Nat} {x : Int64} (ht : (am_tg ci).getD j 2 = 1) (i : Nat) : fv (uL σ (64 * ci + j) a x) ci i a = if i = j then .long x else fv σ ci i a := by
  unfold fv
  by_cases e : i = j
  · subst e
    simp only [ht, if_true, uL, fL, up2, and_self]
    rfl
  · simp only [if_neg e, uL, fI, fL, fR, up2, Nat.add_left_cancel_iff, e, false_and, if_false]
theorem fv_uR {σ : Sto} {ci j a : Nat} {x : Option Nat} (ht : (am_tg ci).getD j 2 = 2) (i : Nat) : fv (uR σ (64 * ci + j) a x) ci i a = if i = j then va_rf x else fv σ ci i a := by
  unfold fv
  by_cases e : i = j
  · subst e
    simp only [ht, if_true, uR, fR, up2, and_self]
    rfl
  · simp only [if_neg e, uR, fI, fL, fR, up2, Nat.add_left_cancel_iff, e, false_and, if_false]
theorem nf_i {ty : FieldType} {x : Int} (h : ty = .int ∨ (ty = .boolean ∧ (x = 0 ∨ x = 1))) : narrow ty (.int (Int32.ofInt x)) = .int (Int32.ofInt x) ∧ fits ty (.int (Int32.ofInt x)) = true := by
  rcases h with rfl | ⟨rfl, rfl | rfl⟩ <;> exact ⟨by rfl, by rfl⟩
theorem nf_r {ty : FieldType} {x : Option Nat} (h : ty.isReference = true) : narrow ty (va_rf x) = va_rf x ∧ fits ty (va_rf x) = true := by
  cases ty <;> first | (simp [FieldType.isReference] at h; done) | (cases x <;> exact ⟨rfl, rfl⟩)
section AW7
variable {Ω : Om} {M : MI} {R : Room} {F : QF} {k n pc : Nat} {L st : List PV} {σ : Sto}
theorem Aw.getI {idx a f : Nat} (ci j : Nat) (hl : FLk M idx ci j) (hc : ci < 14) (hj : j < am_n ci) (ht : (am_tg ci).getD j 2 = 0) (hf : 64 * ci + j = f) (hk : sK σ a = ci + 1) (d : decode (mb M) pc = .ok (.getfield idx, 3)) (kk : R32 (fI σ f a) → Aw Ω M R F k n (pc + 3) L (xi (fI σ f a) :: st) σ) : Aw Ω M R F k n pc L (xr (some a) :: st) σ := by
  intro p e s m args below meth c H locs ls B hR hS hL
  subst hf
  refine w_get B hR hl hc hj hk d ?_
  have h := kk (hR.2.2.2.2.1.1 _ _) p e s m args below meth c H locs ls B hR hS hL
  rw [fv, if_pos ht]
  exact h
theorem Aw.getL {idx a f : Nat} (ci j : Nat) (hl : FLk M idx ci j) (hc : ci < 14) (hj : j < am_n ci) (ht : (am_tg ci).getD j 2 = 1) (hf : 64 * ci + j = f) (hk : sK σ a = ci + 1) (d : decode (mb M) pc = .ok (.getfield idx, 3)) (kk : Aw Ω M R F k n (pc + 3) L (xl (fL σ f a) :: st) σ) : Aw Ω M R F k n pc L (xr (some a) :: st) σ := by
  intro p e s m args below meth c H locs ls B hR hS hL
  subst hf
  refine w_get B hR hl hc hj hk d ?_
  have h := kk p e s m args below meth c H locs ls B hR hS hL
  rw [fv, if_neg (by rw [ht]; decide), if_pos ht]
  exact h
theorem Aw.getR {idx a f : Nat} (ci j : Nat) (hl : FLk M idx ci j) (hc : ci < 14) (hj : j < am_n ci) (ht : (am_tg ci).getD j 2 = 2) (hf : 64 * ci + j = f) (hk : sK σ a = ci + 1) (d : decode (mb M) pc = .ok (.getfield idx, 3)) (kk : Aw Ω M R F k n (pc + 3) L (xr (fR σ f a) :: st) σ) : Aw Ω M R F k n pc L (xr (some a) :: st) σ := by
  intro p e s m args below meth c H locs ls B hR hS hL
  subst hf
  refine w_get B hR hl hc hj hk d ?_
  have h := kk p e s m args below meth c H locs ls B hR hS hL
  rw [fv, if_neg (by rw [ht]; decide), if_neg (by rw [ht]; decide)]
  exact h
theorem Aw.putI {idx a f : Nat} {x : Int} (ci j : Nat) (hl : FLk M idx ci j) (hc : ci < 14) (hj : j < am_n ci) (ht : (am_tg ci).getD j 2 = 0) (hf : 64 * ci + j = f) (hk : sK σ a = ci + 1) (hfin : (am_T ci j).2.2.2 = false) (hx : R32 x) (hb : am_ty ci j = .int ∨ (am_ty ci j = .boolean ∧ (x = 0 ∨ x = 1))) (d : decode (mb M) pc = .ok (.putfield idx, 3)) (kk : Aw Ω M R F k n (pc + 3) L st (uI σ f a x)) : Aw Ω M R F k n pc L (xi x :: xr (some a) :: st) σ := by
  intro p e s m args below meth c H locs ls B hR hS hL
  subst hf
  refine w_put B hR hS hl hc hj hk hfin (v := xV (xi x)) (nf_i hb).1 (nf_i hb).2 d (fun H' locs' e1 e2 e3 e4 => ?_)
  refine kk p e s m args below meth c H' locs' ls B (rep_fld hR hc hk e1 e2 e3 rfl rfl (Rng.uI hR.2.2.2.2.1 hx) (fv_uI ht) (fun q hq ci' k' => ?_) (fun q t => rfl)) e4 hL
  simp only [fv, uI, fI, fL, fR, up2, hq, and_false, if_false]
theorem Aw.putIF {idx a f : Nat} {x : Int} (ci j : Nat) (hl : Cond.fieldLink (mo M) idx (am_T ci j).1 (am_T ci j).2.1 (am_T ci j).2.2.1 ∈ am_tb) (hc : ci < 14) (hj : j < am_n ci) (ht : (am_tg ci).getD j 2 = 0) (hf : 64 * ci + j = f) (hk : sK σ a = ci + 1) (hfin : (am_T ci j).2.2.2 = true) (hdecl : (am_T ci j).1 = mo M) (hini : (my M).name = "<init>") (hx : R32 x) (hb : am_ty ci j = .int ∨ (am_ty ci j = .boolean ∧ (x = 0 ∨ x = 1))) (d : decode (mb M) pc = .ok (.putfield idx, 3)) (kk : Aw Ω M R F k n (pc + 3) L st (uI σ f a x)) : Aw Ω M R F k n pc L (xi x :: xr (some a) :: st) σ := by
  intro p e s m args below meth c H locs ls B hR hS hL
  subst hf
  refine w_putF B hR hS hl hc hj hk hfin hdecl hini (v := xV (xi x)) (nf_i hb).1 (nf_i hb).2 d (fun H' locs' e1 e2 e3 e4 => ?_)
  refine kk p e s m args below meth c H' locs' ls B (rep_fld hR hc hk e1 e2 e3 rfl rfl (Rng.uI hR.2.2.2.2.1 hx) (fv_uI ht) (fun q hq ci' k' => ?_) (fun q t => rfl)) e4 hL
  simp only [fv, uI, fI, fL, fR, up2, hq, and_false, if_false]
theorem Aw.putL {idx a f : Nat} {x : Int64} (ci j : Nat) (hl : FLk M idx ci j) (hc : ci < 14) (hj : j < am_n ci) (ht : (am_tg ci).getD j 2 = 1) (hf : 64 * ci + j = f) (hk : sK σ a = ci + 1) (hfin : (am_T ci j).2.2.2 = false) (hb : am_ty ci j = .long) (d : decode (mb M) pc = .ok (.putfield idx, 3)) (kk : Aw Ω M R F k n (pc + 3) L st (uL σ f a x)) : Aw Ω M R F k n pc L (xl x :: xr (some a) :: st) σ := by
  intro p e s m args below meth c H locs ls B hR hS hL
  subst hf
  refine w_put B hR hS hl hc hj hk hfin (v := xV (xl x)) (by rw [hb]; rfl) (by rw [hb]; rfl) d (fun H' locs' e1 e2 e3 e4 => ?_)
  refine kk p e s m args below meth c H' locs' ls B (rep_fld hR hc hk e1 e2 e3 rfl rfl hR.2.2.2.2.1 (fv_uL ht) (fun q hq ci' k' => ?_) (fun q t => rfl)) e4 hL
  simp only [fv, uL, fI, fL, fR, up2, hq, and_false, if_false]
theorem Aw.putLF {idx a f : Nat} {x : Int64} (ci j : Nat) (hl : Cond.fieldLink (mo M) idx (am_T ci j).1 (am_T ci j).2.1 (am_T ci j).2.2.1 ∈ am_tb) (hc : ci < 14) (hj : j < am_n ci) (ht : (am_tg ci).getD j 2 = 1) (hf : 64 * ci + j = f) (hk : sK σ a = ci + 1) (hfin : (am_T ci j).2.2.2 = true) (hdecl : (am_T ci j).1 = mo M) (hini : (my M).name = "<init>") (hb : am_ty ci j = .long) (d : decode (mb M) pc = .ok (.putfield idx, 3)) (kk : Aw Ω M R F k n (pc + 3) L st (uL σ f a x)) : Aw Ω M R F k n pc L (xl x :: xr (some a) :: st) σ := by
  intro p e s m args below meth c H locs ls B hR hS hL
  subst hf
  refine w_putF B hR hS hl hc hj hk hfin hdecl hini (v := xV (xl x)) (by rw [hb]; rfl) (by rw [hb]; rfl) d (fun H' locs' e1 e2 e3 e4 => ?_)
  refine kk p e s m args below meth c H' locs' ls B (rep_fld hR hc hk e1 e2 e3 rfl rfl hR.2.2.2.2.1 (fv_uL ht) (fun q hq ci' k' => ?_) (fun q t => rfl)) e4 hL
  simp only [fv, uL, fI, fL, fR, up2, hq, and_false, if_false]
theorem Aw.putR {idx a f : Nat} {x : Option Nat} (ci j : Nat) (hl : FLk M idx ci j) (hc : ci < 14) (hj : j < am_n ci) (ht : (am_tg ci).getD j 2 = 2) (hf : 64 * ci + j = f) (hk : sK σ a = ci + 1) (hfin : (am_T ci j).2.2.2 = false) (hb : (am_ty ci j).isReference = true) (d : decode (mb M) pc = .ok (.putfield idx, 3)) (kk : Aw Ω M R F k n (pc + 3) L st (uR σ f a x)) : Aw Ω M R F k n pc L (xr x :: xr (some a) :: st) σ := by
  intro p e s m args below meth c H locs ls B hR hS hL
  subst hf
  refine w_put B hR hS hl hc hj hk hfin (v := xV (xr x)) (nf_r hb).1 (nf_r hb).2 d (fun H' locs' e1 e2 e3 e4 => ?_)
  refine kk p e s m args below meth c H' locs' ls B (rep_fld hR hc hk e1 e2 e3 rfl rfl hR.2.2.2.2.1 (fv_uR ht) (fun q hq ci' k' => ?_) (fun q t => rfl)) e4 hL
  simp only [fv, uR, fI, fL, fR, up2, hq, and_false, if_false]
theorem Aw.putRF {idx a f : Nat} {x : Option Nat} (ci j : Nat) (hl : Cond.fieldLink (mo M) idx (am_T ci j).1 (am_T ci j).2.1 (am_T ci j).2.2.1 ∈ am_tb) (hc : ci < 14) (hj : j < am_n ci) (ht : (am_tg ci).getD j 2 = 2) (hf : 64 * ci + j = f) (hk : sK σ a = ci + 1) (hfin : (am_T ci j).2.2.2 = true) (hdecl : (am_T ci j).1 = mo M) (hini : (my M).name = "<init>") (hb : (am_ty ci j).isReference = true) (d : decode (mb M) pc = .ok (.putfield idx, 3)) (kk : Aw Ω M R F k n (pc + 3) L st (uR σ f a x)) : Aw Ω M R F k n pc L (xr x :: xr (some a) :: st) σ := by
  intro p e s m args below meth c H locs ls B hR hS hL
  subst hf
  refine w_putF B hR hS hl hc hj hk hfin hdecl hini (v := xV (xr x)) (nf_r hb).1 (nf_r hb).2 d (fun H' locs' e1 e2 e3 e4 => ?_)
  refine kk p e s m args below meth c H' locs' ls B (rep_fld hR hc hk e1 e2 e3 rfl rfl hR.2.2.2.2.1 (fv_uR ht) (fun q hq ci' k' => ?_) (fun q t => rfl)) e4 hL
  simp only [fv, uR, fI, fL, fR, up2, hq, and_false, if_false]
theorem arC_0 (σ : Sto) (a : Nat) : arC σ 0 a = (sZ σ a, .inl (fun j => Int32.ofInt (aI σ a j))) := rfl
theorem arC_2 (σ : Sto) (a : Nat) : arC σ 2 a = (sZ σ a, .inl (fun j => Int32.ofInt (aI σ a j))) := rfl
theorem arC_1 (σ : Sto) (a : Nat) : arC σ 1 a = (sZ σ a, .inr (.inl (aL σ a))) := rfl
theorem arC_r {t : Nat} (h : 3 ≤ t) (σ : Sto) (a : Nat) : arC σ t a = (sZ σ a, .inr (.inr (.inr (.inr (aR σ a))))) := by
  rw [arC, if_neg (by omega), if_neg (by omega)]
theorem up2_row {α : Type} {g : Nat → Nat → α} {a i q : Nat} {x : α} (h : q ≠ a) : up2 g a i x q = g q := funext fun j => by simp only [up2, h, false_and, if_false]
theorem vp_in_R {x : Int} {N : Nat} (h0 : 0 ≤ x) (h1 : x < N) (hN : N < 2147483648) : vp_in (Int32.ofInt x) N := by
  rw [vp_in_iff, R32.toInt ⟨by omega, by omega⟩]
  exact ⟨h0, h1⟩
theorem Aw.iald {a : Nat} {i : Int} (hk : sK σ a = 50) (h0 : 0 ≤ i) (h1 : i < sZ σ a) (d : decode (mb M) pc = .ok (.iaload, 1)) (kk : R32 (aI σ a i.toNat) → Aw Ω M R F k n (pc + 1) L (xi (aI σ a i.toNat) :: st) σ) : Aw Ω M R F k n pc L (xi i :: xr (some a) :: st) σ := by
  intro p e s m args below meth c H locs ls B hR hS hL
  have hz := hR.2.2.2.2.1.2.2 a
  have hcell := (hR.2.2.2.2.2 a).2 0 (by decide) hk
  refine va_iald (D := oD Ω) (cl := am_cl) (tys := am_tys Ω) (ws := [(a, .inl (oT Ω 0, arC σ 0 a))]) B.1 B.2.1 B.2.2.2.2.2.2.2.2.1.2.1 (fun k q hq => ?_) 0 0 rfl rfl (vp_in_R h0 h1 hz) d ?_
  · cases k with
    | zero => cases hq; exact hcell
    | succ k => simp at hq
  · have h := kk (hR.2.2.2.2.1.2.1 _ _) p e s m args below meth c H locs ls B hR hS hL
    rw [R32.ix h0 (by omega)]
    exact h
theorem Aw.zald {a : Nat} {i : Int} (hk : sK σ a = 52) (h0 : 0 ≤ i) (h1 : i < sZ σ a) (d : decode (mb M) pc = .ok (.baload, 1)) (kk : R32 (aI σ a i.toNat) → Aw Ω M R F k n (pc + 1) L (xi (aI σ a i.toNat) :: st) σ) : Aw Ω M R F k n pc L (xi i :: xr (some a) :: st) σ := by
  intro p e s m args below meth c H locs ls B hR hS hL
  have hz := hR.2.2.2.2.1.2.2 a
  have hcell := (hR.2.2.2.2.2 a).2 2 (by decide) hk
  refine va_zald (D := oD Ω) (cl := am_cl) (tys := am_tys Ω) (ws := [(a, .inl (oT Ω 2, arC σ 2 a))]) B.1 B.2.1 B.2.2.2.2.2.2.2.2.1.2.1 (fun k q hq => ?_) 0 2 rfl rfl (vp_in_R h0 h1 hz) d ?_
  · cases k with
    | zero => cases hq; exact hcell
    | succ k => simp at hq
  · have h := kk (hR.2.2.2.2.1.2.1 _ _) p e s m args below meth c H locs ls B hR hS hL
    rw [R32.ix h0 (by omega)]
    exact h
theorem Aw.lald {a : Nat} {i : Int} (hk : sK σ a = 51) (h0 : 0 ≤ i) (h1 : i < sZ σ a) (d : decode (mb M) pc = .ok (.laload, 1)) (kk : Aw Ω M R F k n (pc + 1) L (xl (aL σ a i.toNat) :: st) σ) : Aw Ω M R F k n pc L (xi i :: xr (some a) :: st) σ := by
  intro p e s m args below meth c H locs ls B hR hS hL
  have hz := hR.2.2.2.2.1.2.2 a
  have hcell := (hR.2.2.2.2.2 a).2 1 (by decide) hk
  refine va_lald (D := oD Ω) (cl := am_cl) (tys := am_tys Ω) (ws := [(a, .inl (oT Ω 1, arC σ 1 a))]) B.1 B.2.1 B.2.2.2.2.2.2.2.2.1.2.1 (fun k q hq => ?_) 0 1 rfl rfl (vp_in_R h0 h1 hz) d ?_
  · cases k with
    | zero => cases hq; exact hcell
    | succ k => simp at hq
  · have h := kk p e s m args below meth c H locs ls B hR hS hL
    rw [R32.ix h0 (by omega)]
    exact h
theorem Aw.iast {a : Nat} {i : Int} {x : Int} (hk : sK σ a = 50) (h0 : 0 ≤ i) (h1 : i < sZ σ a) (hx : R32 x) (d : decode (mb M) pc = .ok (.iastore, 1)) (kk : Aw Ω M R F k n (pc + 1) L st (vI σ a i.toNat x)) : Aw Ω M R F k n pc L (xi x :: xi i :: xr (some a) :: st) σ := by
  intro p e s m args below meth c H locs ls B hR hS hL
  have hz := hR.2.2.2.2.1.2.2 a
  have hcell := (hR.2.2.2.2.2 a).2 0 (by decide) hk
  refine W.iast B.1 B.2.1 hcell ((B.2.2.2.2.2.2.2.2.1.2.1.2 0 _ rfl).1 (sZ σ a) (fun j => .int (Int32.ofInt (aI σ a j)))) (fun q => by cases q) (by show ¬ (_ < 0 ∨ (arrV _ _ _).slots.size ≤ _); rw [arrV_size]; exact vp_in_R h0 h1 hz) rfl rfl d fun H1 e1 z oq => ?_
  refine kk p e s m args below meth c H1 _ ls B (hR.set z oq (a := a) (by omega) rfl rfl (Rng.vI hR.2.2.2.2.1 hx) ⟨fun ci h1 h2 => ?_, fun t h1 h2 => ?_⟩ (fun q hq => ⟨fun ci k => rfl, fun t => ?_⟩)) (hS.put z oq (hR.base (by omega))) hL
  · have h3 : sK σ a = ci + 1 := h2
    omega
  · have h3 : sK σ a = 50 + t := h2
    have ht : t = 0 := by omega
    subst ht
    rw [e1]
    refine congrArg some ?_
    rw [arC_0, arC_0, vp_cell_i, vp_cell_i, arrV_store]
    refine congrArg (arrV (oT Ω 0) (sZ σ a)) (funext fun j => ?_)
    rw [R32.ix h0 (by omega)]
    show (if j = i.toNat then _ else _) = _
    by_cases hj : j = i.toNat
    · simp only [vI, aI, up2, hj, if_true, and_self]
    · simp only [vI, aI, up2, hj, if_false, and_false]
  · simp only [arC, vI, sZ, aI, aL, aR, up2_row hq]
theorem Aw.zast {a : Nat} {i : Int} {x : Int} (hk : sK σ a = 52) (h0 : 0 ≤ i) (h1 : i < sZ σ a) (hx : x = 0 ∨ x = 1) (d : decode (mb M) pc = .ok (.bastore, 1)) (kk : Aw Ω M R F k n (pc + 1) L st (vI σ a i.toNat x)) : Aw Ω M R F k n pc L (xi x :: xi i :: xr (some a) :: st) σ := by
  intro p e s m args below meth c H locs ls B hR hS hL
  have hz := hR.2.2.2.2.1.2.2 a
  have hcell := (hR.2.2.2.2.2 a).2 2 (by decide) hk
  refine W.zast B.1 B.2.1 hcell ((B.2.2.2.2.2.2.2.2.1.2.1.2 2 _ rfl).1 (sZ σ a) (fun j => .int (Int32.ofInt (aI σ a j)))) (fun q => by cases q) (by show ¬ (_ < 0 ∨ (arrV _ _ _).slots.size ≤ _); rw [arrV_size]; exact vp_in_R h0 h1 hz) rfl rfl d fun H1 e1 z oq => ?_
  refine kk p e s m args below meth c H1 _ ls B (hR.set z oq (a := a) (by omega) rfl rfl (Rng.vI hR.2.2.2.2.1 (by rcases hx with rfl | rfl <;> exact ⟨by decide, by decide⟩)) ⟨fun ci h1 h2 => ?_, fun t h1 h2 => ?_⟩ (fun q hq => ⟨fun ci k => rfl, fun t => ?_⟩)) (hS.put z oq (hR.base (by omega))) hL
  · have h3 : sK σ a = ci + 1 := h2
    omega
  · have h3 : sK σ a = 50 + t := h2
    have ht : t = 2 := by omega
    subst ht
    rw [e1]
    refine congrArg some ?_
    rw [arC_2, arC_2, vp_cell_i, vp_cell_i, arrV_store]
    refine congrArg (arrV (oT Ω 2) (sZ σ a)) (funext fun j => ?_)
    rw [R32.ix h0 (by omega)]
    show (if j = i.toNat then _ else _) = _
    by_cases hj : j = i.toNat
    · simp only [vI, aI, up2, hj, if_true, and_self]
      rcases hx with rfl | rfl <;> rfl
    · simp only [vI, aI, up2, hj, if_false, and_false]
  · simp only [arC, vI, sZ, aI, aL, aR, up2_row hq]
theorem Aw.last {a : Nat} {i : Int} {x : Int64} (hk : sK σ a = 51) (h0 : 0 ≤ i) (h1 : i < sZ σ a) (d : decode (mb M) pc = .ok (.lastore, 1)) (kk : Aw Ω M R F k n (pc + 1) L st (vL σ a i.toNat x)) : Aw Ω M R F k n pc L (xl x :: xi i :: xr (some a) :: st) σ := by
  intro p e s m args below meth c H locs ls B hR hS hL
  have hz := hR.2.2.2.2.1.2.2 a
  have hcell := (hR.2.2.2.2.2 a).2 1 (by decide) hk
  refine W.last B.1 B.2.1 hcell ((B.2.2.2.2.2.2.2.2.1.2.1.2 1 _ rfl).1 (sZ σ a) (fun j => .long (aL σ a j))) (fun q => by cases q) (by show ¬ (_ < 0 ∨ (arrV _ _ _).slots.size ≤ _); rw [arrV_size]; exact vp_in_R h0 h1 hz) rfl rfl d fun H1 e1 z oq => ?_
  refine kk p e s m args below meth c H1 _ ls B (hR.set z oq (a := a) (by omega) rfl rfl hR.2.2.2.2.1 ⟨fun ci h1 h2 => ?_, fun t h1 h2 => ?_⟩ (fun q hq => ⟨fun ci k => rfl, fun t => ?_⟩)) (hS.put z oq (hR.base (by omega))) hL
  · have h3 : sK σ a = ci + 1 := h2
    omega
  · have h3 : sK σ a = 50 + t := h2
    have ht : t = 1 := by omega
    subst ht
    rw [e1]
    refine congrArg some ?_
    rw [arC_1, arC_1, vp_cell_l, vp_cell_l, arrV_store]
    refine congrArg (arrV (oT Ω 1) (sZ σ a)) (funext fun j => ?_)
    rw [R32.ix h0 (by omega)]
    show (if j = i.toNat then _ else _) = _
    by_cases hj : j = i.toNat
    · simp only [vL, aL, up2, hj, if_true, and_self]
    · simp only [vL, aL, up2, hj, if_false, and_false]
  · simp only [arC, vL, sZ, aI, aL, aR, up2_row hq]
end AW7
