/-! BY HAND: an array of arrays -/
section MLT
variable {p : Program} {l : Launch} {e : Env} {R : Room} {s : State} {m : MethodId} {args : Array Value} {below : List Frame} {meth : Method} {c : Code} {H : Heap} {locs : List Loc} {cells slots : Nat} {Q : State → Prop}
theorem W_multi {cc : ByteArray} (hexec : p.tables.exec = Jvm.exec) (hb : c.code = cc) {own : String} {index : Nat} {ty : FieldType} (hown : s.vm.findClass own = some m.cls) (hclink : (Cond.classLink own index ("[" ++ (FieldType.array ty).toString)).before args s = true)
    (hover : (Cond.arrayOver (.array ty)).before args s = true) (harr : (Cond.arrayClass ty).before args s = true)
    {g : JFrame} (hg : g.method = m) (hdg : decode cc g.pc = .ok (.multianewarray index 2, 4)) {n k : Int32} {rest : List Value} (hstack : g.stack = .int k :: .int n :: rest)
    (hn : ¬ n < 0) (hk : ¬ k < 0) (hb1 : n.toNatClampNeg * 4 ≤ 536870912) (hb2 : k.toNatClampNeg * componentBytes ty ≤ 536870912) (hb3 : k.toNatClampNeg ≤ 536870912)
    (hdf : fits ty (defaultValue ty) = true) (hdd : (defaultValue ty).isDefault = true)
    (hcells : cells + (1 + n.toNatClampNeg) ≤ R.cells) (hslots : slots + (n.toNatClampNeg + n.toNatClampNeg * k.toNatClampNeg) ≤ R.slots)
    (kk : ∀ (U : State) (cA comp : ClassId), U.heap = H → s.vm.findClass ("[" ++ (FieldType.array ty).toString) = some cA → s.vm.findClass (FieldType.array ty).toString = some comp →
      W p l e R s m args below meth c (Jvm.Free.Multi.fill U cA comp n.toNatClampNeg k.toNatClampNeg (defaultValue ty) n.toNatClampNeg).heap (locs ++ (List.range n.toNatClampNeg).map fun j => ⟨H.size, j⟩) (cells + 1 + n.toNatClampNeg) (slots + n.toNatClampNeg + n.toNatClampNeg * k.toNatClampNeg) Q { g with pc := g.pc + 4, stack := .ref H.size :: rest }) : W p l e R s m args below meth c H locs cells slots Q g := by
  intro T hT X
  subst hT; subst hb
  obtain ⟨vm₁, cA, comp, -, h1, h2, X', st⟩ := X.multianewarray2 hexec hown hclink hover harr hg hdg hstack hn hk hb1 hb2 hb3 hdf hdd hcells hslots
  obtain ⟨t, a1, b1⟩ := kk (T.setVm vm₁) cA comp rfl h1 h2 _ rfl X'
  exact ⟨t, st t a1, b1⟩
/-- the store with it -/
def mO (σ : Sto) (N M : Nat) : Nat → Sto
  | 0 => nO σ 53 N
  | i + 1 => vR (nO (mO σ N M i) 50 M) (sN σ) i (some (sN σ + 1 + i))
theorem mO_f (σ : Sto) (N M : Nat) : ∀ i, sN (mO σ N M i) = sN σ + 1 + i ∧ sK (mO σ N M i) (sN σ) = 53 ∧ sZ (mO σ N M i) (sN σ) = N := by
  intro i
  induction i with
  | zero => exact ⟨rfl, by rw [mO, sK_nO, if_pos rfl], by rw [mO, sZ_nO, if_pos rfl]⟩
  | succ i ih =>
    obtain ⟨h1, h2, h3⟩ := ih
    refine ⟨?_, ?_, ?_⟩
    · rw [mO, sN_vR, sN_nO, h1]; rfl
    · rw [mO, sK_vR, sK_nO, if_neg (by omega)]; exact h2
    · rw [mO, sZ_vR, sZ_nO, if_neg (by omega)]; exact h3
theorem mO_rep {Ω : Om} {σ : Sto} {U : State} {N M : Nat} (hR : Rep Ω σ U.heap) (hN : N < 2147483648) (hM : M < 2147483648) : ∀ i, i ≤ N → Rep Ω (mO σ N M i) (Jvm.Free.Multi.fill U (oT Ω 3) (oT Ω 0) N M (.int 0) i).heap := by
  intro i
  induction i with
  | zero =>
    intro _
    have e := Array.getElem?_push_size (xs := U.heap) (x := Jvm.Free.Multi.outerC (oT Ω 3) N U.heap.size 0)
    exact rep_newA (t := 3) (by decide) hN hR (by rw [← arrV_new]; exact e) (Array.size_push ..) (fun q hq => by
      show (U.heap.push _)[q]? = _
      rw [Array.getElem?_push, if_neg (Nat.ne_of_lt hq)])
  | succ i ih =>
    intro hi
    have hRi := ih (by omega)
    obtain ⟨f1, f2, f3, f4⟩ := Jvm.Free.Multi.fill_facts U (oT Ω 3) (oT Ω 0) N M (.int 0) i
    obtain ⟨m1, m2, m3⟩ := mO_f σ N M i
    have hs : U.heap.size = sN σ := hR.1
    have hlt : U.heap.size < (Jvm.Free.Multi.fill U (oT Ω 3) (oT Ω 0) N M (.int 0) i).heap.size := by rw [f1]; omega
    have hR2 : Rep Ω (nO (mO σ N M i) 50 M) ((Jvm.Free.Multi.fill U (oT Ω 3) (oT Ω 0) N M (.int 0) i).pushCell (Jvm.Free.Multi.innerC (oT Ω 0) M (.int 0))).heap := by
      refine rep_newA (t := 0) (by decide) hM hRi ?_ ?_ (fun q hq => ?_)
      · rw [← arrV_new]; exact State.heap_pushCell_size _ _
      · exact Array.size_push ..
      · exact State.heap_pushCell_of_lt _ _ hq
    have k2 : sK (nO (mO σ N M i) 50 M) (sN σ) = 50 + 3 := by rw [sK_nO, if_neg (by omega)]; exact m2
    have z2 : sZ (nO (mO σ N M i) 50 M) (sN σ) = N := by rw [sZ_nO, if_neg (by omega)]; exact m3
    have hc := (hR2.2.2.2.2.2 (sN σ)).2 3 (by decide) k2
    rw [arC_r (by omega), vp_cell_q] at hc
    have hb0 : ((Jvm.Free.Multi.fill U (oT Ω 3) (oT Ω 0) N M (.int 0) i).pushCell (Jvm.Free.Multi.innerC (oT Ω 0) M (.int 0))).heap[U.heap.size]? = some (Jvm.Free.Multi.outerC (oT Ω 3) N U.heap.size i) := by rw [State.heap_pushCell_of_lt (h := hlt)]; exact f2
    have hb' : ((Jvm.Free.Multi.fill U (oT Ω 3) (oT Ω 0) N M (.int 0) i).pushCell (Jvm.Free.Multi.innerC (oT Ω 0) M (.int 0))).heap[sN σ]? = some (Jvm.Free.Multi.outerC (oT Ω 3) N U.heap.size i) := by rw [← hs]; exact hb0
    have hco := Option.some.inj (hc.symm.trans hb')
    have := w_arq (t := 3) (a := sN σ) (i := (i : Int)) (v := some (sN σ + 1 + i)) (s := U) (locs := []) (H1 := (Jvm.Free.Multi.fill U (oT Ω 3) (oT Ω 0) N M (.int 0) (i + 1)).heap) (by decide) (by decide) hR2 k2 (by omega) (by rw [z2]; omega) ?_ ?_ ?_
    · exact this
    · rw [hco, R32.ix (by omega) (by omega), Int.toNat_natCast]
      show (((Jvm.Free.Multi.fill U (oT Ω 3) (oT Ω 0) N M (.int 0) i).pushCell (Jvm.Free.Multi.innerC (oT Ω 0) M (.int 0))).setCell U.heap.size (Jvm.Free.Multi.outerC (oT Ω 3) N U.heap.size (i + 1))).heap[sN σ]? = _
      rw [← hs]
      exact State.heap_setCell_self hb0
    · rw [(Jvm.Free.Multi.fill_facts U (oT Ω 3) (oT Ω 0) N M (.int 0) (i + 1)).1]
      show _ = (Array.push _ _).size
      rw [Array.size_push, f1]; omega
    · intro q hq
      show (((Jvm.Free.Multi.fill U (oT Ω 3) (oT Ω 0) N M (.int 0) i).pushCell (Jvm.Free.Multi.innerC (oT Ω 0) M (.int 0))).setCell U.heap.size _).heap[q]? = _
      rw [State.heap_setCell_other (by rw [hs]; exact fun z => hq z.symm)]
theorem Aw.multi {Ω : Om} {M : MI} {R : Room} {F : QF} {k n pc : Nat} {L st : List PV} {σ : Sto} {idx : Nat} {a b : Int} (hcl : Cond.classLink (mo M) idx "[[I" ∈ am_tb) (ha : 0 ≤ a ∧ a ≤ 1000) (hb : 0 ≤ b ∧ b ≤ 1000) (h1 : k + (1 + a.toNat) ≤ R.cells) (h2 : n + (a.toNat + a.toNat * b.toNat) ≤ R.slots) (d : decode (mb M) pc = .ok (.multianewarray idx 2, 4))
    (kk : Aw Ω M R F (k + 1 + a.toNat) (n + a.toNat + a.toNat * b.toNat) (pc + 4) L (xr (some (sN σ)) :: st) (mO σ a.toNat b.toNat a.toNat)) : Aw Ω M R F k n pc L (xi b :: xi a :: st) σ := by
  intro p e s m args below meth c H locs ls B hR hS hL
  have hKn := B.2.2.2.2.2.2.2.2.1
  have hts := hKn.hts args
  have hK3 := (hKn.2.1.2 3 _ (am_tys_t Ω (by decide))).2
  have hK0 := (hKn.2.1.2 0 _ (am_tys_t Ω (by decide))).2
  have hra : R32 a := ⟨by omega, by omega⟩
  have hrb : R32 b := ⟨by omega, by omega⟩
  have ia := R32.ix ha.1 (show a < 2147483648 by omega)
  have ib := R32.ix hb.1 (show b < 2147483648 by omega)
  refine W_multi B.1 B.2.1 B.2.2.2.2.1 (ty := .int) (hts _ hcl) (hts _ aov_3) (hts _ arc_0) rfl d (n := Int32.ofInt a) (k := Int32.ofInt b) rfl (fun q => by have := (hra.lt (y := 0) ⟨by decide, by decide⟩).mp q; omega) (fun q => by have := (hrb.lt (y := 0) ⟨by decide, by decide⟩).mp q; omega) (by rw [ia]; omega) (by rw [ib]; show b.toNat * 4 ≤ _; omega) (by rw [ib]; omega) (by decide) (by decide) (by rw [ia]; exact h1) (by rw [ia, ib]; exact h2) fun U cA comp hU f1 f2 => ?_
  have e1 : cA = oT Ω 3 := Option.some.inj (f1.symm.trans hK3)
  have e2 : comp = oT Ω 0 := Option.some.inj (f2.symm.trans hK0)
  subst e1
  subst e2
  subst hU
  rw [ia, ib]
  have hrep := mO_rep hR (N := a.toNat) (M := b.toNat) (by omega) (by omega) a.toNat (Nat.le_refl _)
  have hs : U.heap.size = sN σ := hR.1
  have hfa := Jvm.Free.Multi.fill_facts U (oT Ω 3) (oT Ω 0) a.toNat b.toNat (.int 0) a.toNat
  rw [hs]
  refine kk p e s m args below meth c _ _ ls B hrep ⟨Nat.le_trans hS.1 (show U.heap.size ≤ (Jvm.Free.Multi.fill U (oT Ω 3) (oT Ω 0) a.toNat b.toNat (.int 0) a.toNat).heap.size by rw [hfa.1]; omega), fun q h3 h4 => ?_, fun x hx => ?_⟩ hL
  · have := hS.1
    exact (Jvm.Free.Multi.fill_old U (oT Ω 3) (oT Ω 0) a.toNat b.toNat (.int 0) (show q < U.heap.size by omega) a.toNat).trans (hS.2.1 q h3 h4)
  · rcases List.mem_append.mp hx with h | h
    · exact hS.2.2 x h
    · obtain ⟨j, _, rfl⟩ := List.mem_map.mp h
      exact hrep.base (a := sN σ) (by rw [(mO_f σ a.toNat b.toNat a.toNat).2.1]; decide)
end MLT
