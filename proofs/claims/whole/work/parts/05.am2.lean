/-! THE ABSTRACT MACHINE, 2: what a store says of a heap; what a method's body is -/
theorem am_I (x : Sto) : True := trivial
abbrev oB (Ω : Om) : Nat := Ω.2.2.2.2.2.2.1
abbrev oN (Ω : Om) : Nat := Ω.2.2.2.2.2.2.2.1
abbrev oX (Ω : Om) : Nat → Int32 := Ω.2.2.2.2.2.2.2.2
def am_tys (Ω : Om) : List (ClassId × FieldType) := [(oT Ω 0, .int), (oT Ω 1, .long), (oT Ω 2, .boolean), (oT Ω 3, .array .int), (oT Ω 4, .object "DiffWeaver$Conflict"), (oT Ω 5, .object "DiffWeaver$Version"), (oT Ω 6, .object "DiffWeaver$Patch"), (oT Ω 7, .object "DiffWeaver$Review"), (oT Ω 8, .object "DiffWeaver$Hunk"), (oT Ω 9, .object "java/lang/Object")]
def fv (σ : Sto) (ci k a : Nat) : Value := if (am_tg ci).getD k 2 = 0 then .int (Int32.ofInt (fI σ (64 * ci + k) a)) else if (am_tg ci).getD k 2 = 1 then .long (fL σ (64 * ci + k) a) else va_rf (fR σ (64 * ci + k) a)
def arC (σ : Sto) (t a : Nat) : vp_A := (sZ σ a, if t = 0 ∨ t = 2 then .inl (fun j => Int32.ofInt (aI σ a j)) else if t = 1 then .inr (.inl (aL σ a)) else .inr (.inr (.inr (.inr (aR σ a)))))
def cellOK (Ω : Om) (σ : Sto) (a : Nat) (H : Heap) : Prop := (∀ ci, ci < 14 → sK σ a = ci + 1 → t_OB a ((oD Ω).1 ci) (am_n ci) ((oD Ω).2 ci) H (fun k => fv σ ci k a)) ∧ (∀ t, t < 10 → sK σ a = 50 + t → H[a]? = some (vp_cell (oT Ω t) (arC σ t a)))
def Rng (σ : Sto) : Prop := (∀ f a, R32 (fI σ f a)) ∧ (∀ a i, R32 (aI σ a i)) ∧ ∀ a, sZ σ a < 2147483648
def Rep (Ω : Om) (σ : Sto) (H : Heap) : Prop := H.size = sN σ ∧ (oH Ω).size ≤ sN σ ∧ (∀ q, q < (oH Ω).size → H[q]? = (oH Ω)[q]?) ∧ (∀ a, (a < (oH Ω).size ∨ sN σ ≤ a) → sK σ a = 0) ∧ Rng σ ∧ ∀ a, cellOK Ω σ a H
theorem cellOK.kept {Ω : Om} {σ σ' : Sto} {a : Nat} {H H' : Heap} (h : cellOK Ω σ a H) (hq : H'[a]? = H[a]?) (hk : sK σ' a = sK σ a) (hf : ∀ ci k, fv σ' ci k a = fv σ ci k a) (hc : ∀ t, arC σ' t a = arC σ t a) : cellOK Ω σ' a H' := by
  refine ⟨fun ci h1 h2 => ?_, fun t h1 h2 => ?_⟩
  · have h3 := (h.1 ci h1 (hk ▸ h2)).kept hq
    exact h3.to (fun k _ => (hf ci k).symm)
  · rw [hq, hc]
    exact h.2 t h1 (hk ▸ h2)
theorem Rep.set {Ω : Om} {σ σ' : Sto} {H H' : Heap} {a : Nat} (hR : Rep Ω σ H) (z : H'.size = H.size) (oq : ∀ q, q ≠ a → H'[q]? = H[q]?) (ha : sK σ a ≠ 0) (hN : sN σ' = sN σ) (hK : sK σ' = sK σ) (hrng : Rng σ') (hcell : cellOK Ω σ' a H')
    (hot : ∀ q, q ≠ a → (∀ ci k, fv σ' ci k q = fv σ ci k q) ∧ ∀ t, arC σ' t q = arC σ t q) : Rep Ω σ' H' := by
  obtain ⟨h1, h2, h3, h4, h5, h6⟩ := hR
  refine ⟨by rw [z, h1, hN], by rw [hN]; exact h2, fun q hq => ?_, fun b hb => ?_, hrng, fun q => ?_⟩
  · rw [oq q (fun e => ha (h4 a (Or.inl (e ▸ hq)))), h3 q hq]
  · rw [hK]; exact h4 b (by rw [← hN]; exact hb)
  · by_cases e : q = a
    · rw [e]; exact hcell
    · exact (h6 q).kept (oq q e) (by rw [hK]) (hot q e).1 (hot q e).2
theorem Rep.base {Ω : Om} {σ : Sto} {H : Heap} {a : Nat} (hR : Rep Ω σ H) (ha : sK σ a ≠ 0) : oA Ω a := by
  rcases Nat.lt_or_ge a (oH Ω).size with h | h
  · exact absurd (hR.2.2.2.1 a (Or.inl h)) ha
  · exact h
theorem Rep.new {Ω : Om} {σ : Sto} {H H' : Heap} {kd z : Nat} (hR : Rep Ω σ H) (hz : z < 2147483648) (s1 : H'.size = H.size + 1) (oq : ∀ q, q < H.size → H'[q]? = H[q]?) (hcell : cellOK Ω (nO σ kd z) (sN σ) H') : Rep Ω (nO σ kd z) H' := by
  obtain ⟨h1, h2, h3, h4, h5, h6⟩ := hR
  have hN : sN (nO σ kd z) = sN σ + 1 := rfl
  refine ⟨by rw [s1, h1, hN], by rw [hN]; omega, fun q hq => ?_, fun b hb => ?_, ⟨fun f a => ?_, fun a i => ?_, fun a => ?_⟩, fun q => ?_⟩
  · rw [oq q (by omega), h3 q hq]
  · rw [hN] at hb
    have hne : b ≠ sN σ := by omega
    show up1 (sK σ) (sN σ) kd b = 0
    rw [up1, if_neg hne]
    exact h4 b (by omega)
  · show R32 (if a = sN σ then 0 else fI σ f a)
    by_cases e : a = sN σ
    · rw [if_pos e]; exact ⟨by decide, by decide⟩
    · rw [if_neg e]; exact h5.1 f a
  · show R32 (up1 (aI σ) (sN σ) (fun _ => 0) a i)
    by_cases e : a = sN σ
    · rw [up1, if_pos e]; exact ⟨by decide, by decide⟩
    · rw [up1, if_neg e]; exact h5.2.1 a i
  · show up1 (sZ σ) (sN σ) z a < _
    by_cases e : a = sN σ
    · rw [up1, if_pos e]; exact hz
    · rw [up1, if_neg e]; exact h5.2.2 a
  · by_cases e : q = sN σ
    · rw [e]; exact hcell
    · have e1 : sK (nO σ kd z) q = sK σ q := by show up1 (sK σ) (sN σ) kd q = _; rw [up1, if_neg e]
      by_cases hq : q < H.size
      · refine (h6 q).kept (oq q hq) e1 (fun ci k => ?_) (fun t => ?_)
        · simp only [fv, nO, fI, fL, fR, if_neg e]
        · simp only [arC, nO, sZ, aI, aL, aR, up1, if_neg e]
      · have h0 : sK σ q = 0 := h4 q (by omega)
        exact ⟨fun ci _ h => by omega, fun t _ h => by omega⟩
theorem Rep.more {Ω : Om} {σ : Sto} {H H' : Heap} (hR : Rep Ω σ H) (s1 : H.size ≤ H'.size) (oq : ∀ q, q < H.size → H'[q]? = H[q]?) : Rep Ω (nX σ H'.size) H' := by
  obtain ⟨h1, h2, h3, h4, h5, h6⟩ := hR
  refine ⟨rfl, by show (oH Ω).size ≤ H'.size; omega, fun q hq => by rw [oq q (by omega), h3 q hq], fun b hb => ?_, h5, fun q => ?_⟩
  · have hb' : b < (oH Ω).size ∨ H'.size ≤ b := hb
    exact h4 b (by omega)
  · by_cases hq : q < H.size
    · exact (h6 q).kept (oq q hq) rfl (fun _ _ => rfl) (fun _ => rfl)
    · have h0 : sK σ q = 0 := h4 q (by omega)
      exact ⟨fun ci _ h => by have h' : sK σ q = ci + 1 := h; omega, fun t _ h => by have h' : sK σ q = 50 + t := h; omega⟩
/-! what is known of the machine's tables -/
def am_strs (Ω : Om) (U : State) : Prop := ∀ (own : String) (k : Nat) (tx : String), Cond.stringRef own k tx ∈ lw_tbl → vk_R own k tx (oS Ω own k) U
def am_ncs (U : State) : Prop := va_Nc "java/lang/IllegalArgumentException" "java/lang/IndexOutOfBoundsException" U ∧ va_Nc "java/lang/IllegalStateException" "java/lang/IndexOutOfBoundsException" U ∧ va_Nc "java/lang/IllegalStateException" "java/lang/IllegalArgumentException" U
/-- the list's own empty row: where it is, and that it is one -/
def am_DE (Ω : Om) (U : State) : Prop := va_Z "java/util/ArrayList" "DEFAULTCAPACITY_EMPTY_ELEMENTDATA" "[Ljava/lang/Object;" (.ref (oE Ω)) (oA Ω) U (oH Ω) ∧ oE Ω < (oH Ω).size ∧ ∃ cell : Cell, (oH Ω)[oE Ω]? = some cell ∧ U.isArrayOf cell (.object "java/lang/Object") ∧ cell.vm ≠ .unknown ∧ cell.slots.size = 0
theorem am_DE.moved {Ω : Om} {s U : State} (hvm : s.vm.Alike U.vm) (h : am_DE Ω s) : am_DE Ω U := by
  obtain ⟨h1, h2, cell, h3, h4, h5⟩ := h
  exact ⟨va_Z.moved hvm h1, h2, cell, h3, State.isArrayOf_alike hvm h4, h5⟩
theorem am_ncs.moved {s U : State} (hvm : s.vm.Alike U.vm) (h : am_ncs s) : am_ncs U := ⟨va_Nc.moved hvm h.1, va_Nc.moved hvm h.2.1, va_Nc.moved hvm h.2.2⟩
/-- the class object of the rows of objects is made -/
def am_MI (Ω : Om) (U : State) : Prop := va_Mi "[Ljava/lang/Object;" (oS Ω "[" 0) U
def Kn (Ω : Om) (U : State) : Prop := (∀ w ∈ am_tb, w.before #[] U = true) ∧ va_K (oD Ω) am_cl (am_tys Ω) U ∧ am_strs Ω U ∧ vx_Zq Bundle.tN "UNASSIGNED_STACK" Bundle.steD (oA Ω) U (oH Ω) ∧ vx_Zq Bundle.tN "SUPPRESSED_SENTINEL" Bundle.listD (oA Ω) U (oH Ω) ∧ va_X (oB Ω) (oN Ω) (oX Ω) U (oH Ω) ∧ oB Ω < (oH Ω).size ∧ (oL Ω).stackTraces = false ∧ am_ncs U ∧ am_DE Ω U ∧ am_MI Ω U
theorem ao_spec {args : Array Value} {s : State} {t : FieldType} (h : (Cond.arrayOver (.array t)).before args s = true) :
    ∃ comp c k, s.vm.findClass (FieldType.array t).toString = some comp ∧ (s.vm.classes.findIdx? fun (x : Class) => match x.kind with | .array component _ => component == comp | _ => false) = some c ∧ s.vm.classes[c]? = some k ∧ k.kind = .array comp (.array t) ∧ s.vm.findClass ("[" ++ (FieldType.array t).toString) = some c := by
  simp only [Cond.before, Cond.holds, Cond.value, beq_iff_eq] at h
  cases hc : s.vm.findClass (FieldType.array t).toString with
  | none => simp [hc] at h
  | some comp =>
    rw [hc] at h
    simp only [Option.bind_some, Option.bind_eq_some_iff, Option.map_eq_some_iff] at h
    obtain ⟨c, hi, k, hk, hb⟩ := h
    obtain ⟨hlt, hp, -⟩ := Array.findIdx?_eq_some_iff_getElem.mp hi
    have hkk : s.vm.classes[c] = k := (Array.getElem?_eq_some_iff.mp hk).2
    rw [hkk] at hp
    cases hkind : k.kind with
    | array component ty =>
      rw [hkind] at hb hp
      simp at hb hp
      exact ⟨comp, c, k, rfl, hi, hk, by rw [hkind, hp, hb.1], hb.2⟩
    | _ => rw [hkind] at hb; simp at hb
theorem ao_idx (vm : Vm) (comp : ClassId) : (vm.bare.classes.findIdx? fun (x : Class) => match x.kind with | .array component _ => component == comp | _ => false) = (vm.classes.findIdx? fun (x : Class) => match x.kind with | .array component _ => component == comp | _ => false) := by
  simp only [Vm.bare, Array.findIdx?_map]
  rfl
theorem ao_moved {args a' : Array Value} {u U : State} {t : FieldType} (hvm : u.vm.Alike U.vm) (h : (Cond.arrayOver (.array t)).before args u = true) : (Cond.arrayOver (.array t)).before a' U = true := by
  obtain ⟨comp, c, k, h1, h2, h3, h4, h5⟩ := ao_spec h
  obtain ⟨k', hk', he⟩ := hvm.2.2 _ _ h3
  have hi : (U.vm.classes.findIdx? fun (x : Class) => match x.kind with | .array component _ => component == comp | _ => false) = some c := by
    rw [← ao_idx]
    first | rw [hvm.bare_eq] | rw [← hvm.bare_eq]
    rw [ao_idx]
    exact h2
  have hkind : k'.kind = .array comp (.array t) := by rw [he]; exact h4
  have f1 : U.vm.findClass (FieldType.array t).toString = some comp := by rw [hvm.findClass]; exact h1
  have f2 : U.vm.findClass ("[" ++ (FieldType.array t).toString) = some c := by rw [hvm.findClass]; exact h5
  unfold Cond.before Cond.holds
  simp only [Cond.value]
  rw [f1, Option.bind_some]
  refine (congrArg (fun o : Option Nat => (o.bind (fun c => (U.vm.classes[c]?).map fun (k : Class) => match k.kind with | .array _ ty => decide (ty = FieldType.array t) && decide (U.vm.findClass ("[" ++ (FieldType.array t).toString) = some c) | _ => false) == some true)) hi).trans ?_
  simp [hk', hkind, f2]
theorem am_warm {w : Cond} {s U : State} {args a' : Array Value} (hg : am_ok w = true) (hW : s.WarmedH U.vm) (h : w.before args s = true) : w.before a' U = true := by
  by_cases g : goodWord w = true
  · exact word_at hW (good_of_word g) h
  · simp only [am_ok, Bool.or_eq_true] at hg
    rcases hg with hg | hg
    · exact absurd hg g
    · cases w <;> first | (simp at hg; done) | skip
      all_goals first | exact va_Nw.use rfl (va_Nw.warmF hW (va_Nw.of rfl h)) | exact va_Nw.use rfl (va_Nw.warmM hW (va_Nw.of rfl h)) | exact va_Nw.use rfl (va_Nw.warmC hW (va_Nw.of rfl h)) | exact va_Nw.use rfl (va_Nw.warmD hW (va_Nw.of rfl h)) | (rename_i ty; cases ty <;> first | exact va_AO.use (va_AO.moved hW.alike (va_AO.of h)) | exact ao_moved hW.alike h | (simp at hg; done) | (simp [Cond.before, Cond.holds, Cond.value] at h; done))
theorem Kn.moved {Ω : Om} {s U : State} (hW : s.WarmedH U.vm) (h : Kn Ω s) : Kn Ω U := by
  obtain ⟨h1, h2, h3, h4, h5, h6, h7, h8, h9, h10, h11⟩ := h
  exact ⟨fun w hw => am_warm (List.mem_filter.mp hw).2 hW (h1 w hw), va_K.moved hW.alike h2, fun own k tx hm => vk_R.warm hW (h3 own k tx hm), vx_Zq.moved hW.alike h4, vx_Zq.moved hW.alike h5, va_X.moved hW.alike h6, h7, h8, h9.moved hW.alike, h10.moved hW.alike, va_Mi.moved hW.alike h11⟩
theorem Kn.hts {Ω : Om} {s : State} (h : Kn Ω s) (args : Array Value) : ∀ w ∈ am_tb, w.before args s = true := fun w hw => am_warm (List.mem_filter.mp hw).2 (State.WarmedH.refl s) (h.1 w hw)
