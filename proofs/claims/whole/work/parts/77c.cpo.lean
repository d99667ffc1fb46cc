/-! BY HAND: java.util.Arrays.copyOf of a row of edits -/
section CPO
variable {Ω : Om} {M : MI} {R : Room} {F : QF} {k n pc : Nat} {L st : List PV} {σ : Sto}
abbrev gcY : MethodName := ⟨"java/lang/Object", "getClass", "()Ljava/lang/Class;"⟩
theorem gc_ins : Cond.instanceMethod gcY ∈ am_tb := am_mem 741 (by decide +kernel) (by decide +kernel)
theorem gc_nat : Cond.native gcY ∈ am_tb := am_mem 760 (by decide +kernel) (by decide +kernel)
theorem gc_sel : Cond.selects "[Ljava/lang/Object;" gcY gcY ∈ am_tb := am_mem 2000 (by decide +kernel) (by decide +kernel)
theorem gc_dec : Cond.declares gcY ∈ am_tb := am_mem 2001 (by decide +kernel) (by decide +kernel)
abbrev acY : MethodName := ⟨"java/lang/System", "arraycopy", "(Ljava/lang/Object;ILjava/lang/Object;II)V"⟩
theorem ac_ini : Cond.initialized "java/lang/System" ∈ am_tb := am_mem 107 (by decide +kernel) (by decide +kernel)
theorem ac_sta : Cond.static acY ∈ am_tb := am_mem 769 (by decide +kernel) (by decide +kernel)
theorem ac_nat : Cond.native acY ∈ am_tb := am_mem 770 (by decide +kernel) (by decide +kernel)
theorem ac_cas : Cond.castable "DiffWeaver$Edit" "java/lang/Object" ∈ am_tb := am_mem 1996 (by decide +kernel) (by decide +kernel)
theorem Aw.ldcM {idx : Nat} (hl : Cond.classLink (mo M) idx "[Ljava/lang/Object;" ∈ am_tb) (d : decode (mb M) pc = .ok (.ldc idx, 2)) (kk : Aw Ω M R F k n (pc + 2) L (xr (some (oS Ω "[" 0)) :: st) σ) : Aw Ω M R F k n pc L st σ := by
  intro p e s m args below meth c H locs ls B hR hS hL
  have hKn := B.2.2.2.2.2.2.2.2.1
  exact va_ldcM B.1 B.2.1 B.2.2.2.2.1 (hKn.hts args _ hl) hKn.2.2.2.2.2.2.2.2.2.2 d (kk p e s m args below meth c H locs ls B hR hS hL)
theorem Aw.getC {idx a : Nat} (hk : sK σ a = 59) (hl : Cond.methodLink (mo M) idx gcY ∈ am_tb) (hf : 1 ≤ R.frames) (hlo : (st.map catP).sum + 14 ≤ R.locals) (d : decode (mb M) pc = .ok (.invokevirtual idx, 3)) (kk : Aw Ω M R F k n (pc + 3) L (xr (some (oS Ω "[" 0)) :: st) σ) : Aw Ω M R F k n pc L (xr (some a) :: st) σ := by
  intro p e s m args below meth c H locs ls B hR hS hL
  have hKn := B.2.2.2.2.2.2.2.2.1
  have hts := hKn.hts args
  have hcell := (hR.2.2.2.2.2 a).2 9 (by decide) hk
  rw [arC_r (by omega), vp_cell_q] at hcell
  have hK := (hKn.2.1.2 9 _ (am_tys_t Ω (by decide))).2
  exact va_getC B.1 B.2.1 (B.2.2.1.trans hL.2.1.symm) B.2.2.2.2.1 (hts _ hl) (hts _ gc_dec) (hts _ gc_sel) (hts _ gc_ins) (hts _ gc_nat) hKn.2.2.2.2.2.2.2.2.2.2 ⟨_, hcell, rfl, va_nmO (C := "java/lang/Object") hK (by decide +kernel)⟩ hf (by rw [cat_sum]; exact hlo) d (kk p e s m args below meth c H locs ls B hR hS hL)
/-- n places of a row copied into another -/
def cpR (σ : Sto) (a b z : Nat) : Sto := (sN σ, sK σ, sZ σ, fI σ, fL σ, fR σ, aI σ, aL σ, up1 (aR σ) b (fun i => if i < z then aR σ a i else aR σ b i))
theorem Aw.acopy {idx a b : Nat} {z : Int} (hka : sK σ a = 59) (hkb : sK σ b = 59) (hl : Cond.methodLink (mo M) idx acY ∈ am_tb) (h0 : 0 ≤ z) (h1 : z ≤ sZ σ a) (h2 : z ≤ sZ σ b) (hel : ∀ i, i < z.toNat → ∃ y, aR σ a i = some y ∧ sK σ y = 5) (hf : 1 ≤ R.frames) (hlo : (st.map catP).sum + 18 ≤ R.locals) (d : decode (mb M) pc = .ok (.invokestatic idx, 3)) (kk : Aw Ω M R F k n (pc + 3) L st (cpR σ a b z.toNat)) : Aw Ω M R F k n pc L (xi z :: xi 0 :: xr (some b) :: xi 0 :: xr (some a) :: st) σ := by
  intro p e s m args below meth c H locs ls B hR hS hL
  have hKn := B.2.2.2.2.2.2.2.2.1
  have hts := hKn.hts args
  have hza := hR.2.2.2.2.1.2.2 a
  have hzb := hR.2.2.2.2.1.2.2 b
  have hca := (hR.2.2.2.2.2 a).2 9 (by decide) hka
  have hcb := (hR.2.2.2.2.2 b).2 9 (by decide) hkb
  rw [arC_r (by omega), vp_cell_q] at hca hcb
  have hAr := hKn.2.1.2 9 _ (am_tys_t Ω (by decide))
  obtain ⟨-, k0, hk0, cm0, hkk0⟩ := hAr.1 (sZ σ a) (fun j => va_rf (aR σ a j))
  obtain ⟨-, k1, hk1, cm1, hkk1⟩ := hAr.1 (sZ σ b) (fun j => va_rf (aR σ b j))
  obtain ⟨kA, comp, r1, r2, r3, -⟩ := (show va_RA s (oT Ω 9) (.object "java/lang/Object") from hAr.2)
  cases hk1.symm.trans r1
  cases hkk1.symm.trans r2
  have hcls := (hKn.2.1.1 4 _ (am_cls (by decide))).2
  obtain ⟨c0, t1, f1, f2, f3⟩ := Cond.castable_spec (hts _ ac_cas)
  cases hcls.1.symm.trans f1
  cases r3.symm.trans f2
  obtain ⟨kC, hkC, -⟩ := hcls.2
  obtain ⟨kE, hkE, -⟩ := Vm.findClass_spec r3
  have hrz : R32 z := ⟨by omega, by omega⟩
  have ez : (Int32.ofInt z).toInt = z := hrz.toInt
  have en : (Int32.ofInt z).toNatClampNeg = z.toNat := R32.ix h0 hrz.2
  intro T hT X
  obtain ⟨vm', X', step⟩ := X.arraycopy B.1 B.2.2.2.2.1 (hts _ hl) (hts _ ac_nat) (hts _ ac_sta) (hts _ ac_ini) (src := a) (dst := b) (cs := arrV (oT Ω 9) (sZ σ a) (fun j => va_rf (aR σ a j))) (cd := arrV (oT Ω 9) (sZ σ b) (fun j => va_rf (aR σ b j))) (srcPos := 0) (destPos := 0) (n := Int32.ofInt z) (by rw [hT]; exact hca) (by rw [hT]; exact hcb)
    (fun _ h => by cases h) (fun _ h => by cases h) (fun h => by cases h) (fun h => by cases h) hk0 hk1 hkk0 hkk1 rfl (by decide) (by decide) (fun q => by have := (hrz.lt (y := 0) ⟨by decide, by decide⟩).mp q; omega)
    (by rw [ez, arrV_size]; show ¬ ((0 : Int) + z > _); omega)
    (by rw [ez, arrV_size]; show ¬ ((0 : Int) + z > _); omega)
    (fun vm₁ hal i hi => by
      rw [en] at hi
      obtain ⟨y, hy, hy5⟩ := hel i hi
      obtain ⟨cellV, g1, g2, g3, -⟩ := (hR.2.2.2.2.2 y).1 4 (by decide) hy5
      have e : (arrV (oT Ω 9) (sZ σ a) (fun j => va_rf (aR σ a j))).slots.getD ((0 : Int32).toNatClampNeg + i) .null = .ref y := by
        rw [show (0 : Int32).toNatClampNeg + i = i from Nat.zero_add i, Array.getD_eq_getD_getElem?, arrV_read _ _ (by omega), hy]
        rfl
      rw [e]
      obtain ⟨kC', hkC', -⟩ := hal.2.2 _ _ hkC
      obtain ⟨kE', hkE', -⟩ := hal.2.2 _ _ hkE
      refine ⟨rfl, cellV, (show T.heap[y]? = some cellV by rw [hT]; exact g1), (fun q h => by rw [h] at g3; cases g3), ⟨kC', by rw [g2]; exact hkC'⟩, ⟨kE', hkE'⟩, ?_⟩
      show vm₁.assignable _ _ = true
      rw [hal.assignable, g2]
      exact f3)
    (g := F0 m pc ls (.int (Int32.ofInt z) :: .int 0 :: .ref b :: .int 0 :: .ref a :: st.map xV)) rfl (by show ls.size = _; rw [hL.2.1]; exact B.2.2.1.symm) (rest := st.map xV) rfl (by rw [B.2.1]; exact d) hf (by show 2 * 0 + _ + _ ≤ _; rw [cat_sum]; have hw : nativeFrameWords "java/lang/System" "arraycopy" 5 = 7 := (by decide); omega)
  have e1 : copied (arrV (oT Ω 9) (sZ σ a) (fun j => va_rf (aR σ a j))) (arrV (oT Ω 9) (sZ σ b) (fun j => va_rf (aR σ b j))) 0 0 (Int32.ofInt z) = arrV (oT Ω 9) (sZ σ b) (fun j => va_rf (aR (cpR σ a b z.toNat) b j)) := by
    show Cell.storeRun _ _ (Cell.stretch _ _ _) = _
    rw [en, show (0 : Int32).toNatClampNeg = 0 from rfl, va_copied (fun z => va_rf z) (oT Ω 9) (oT Ω 9) (aR σ a) (aR σ b) (by omega)]
    refine congrArg (arrV (oT Ω 9) (sZ σ b)) (funext fun j => ?_)
    simp only [va_cpy, cpR, aR, up1, if_true, Nat.zero_le, true_and, Nat.zero_add, Nat.sub_zero]
  rw [e1] at X' step
  have hl : b < H.size := (Array.getElem?_eq_some_iff.mp hcb).1
  have hheap : ((T.setVm vm').setCell b (arrV (oT Ω 9) (sZ σ b) (fun j => va_rf (aR (cpR σ a b z.toNat) b j)))).heap = H.setIfInBounds b (arrV (oT Ω 9) (sZ σ b) (fun j => va_rf (aR (cpR σ a b z.toNat) b j))) := by rw [← hT]; rfl
  have hb1 : (H.setIfInBounds b (arrV (oT Ω 9) (sZ σ b) (fun j => va_rf (aR (cpR σ a b z.toNat) b j))))[b]? = some (arrV (oT Ω 9) (sZ σ b) (fun j => va_rf (aR (cpR σ a b z.toNat) b j))) := by simp [Array.getElem?_setIfInBounds, hl]
  have oq : ∀ q : Nat, q ≠ b → (H.setIfInBounds b (arrV (oT Ω 9) (sZ σ b) (fun j => va_rf (aR (cpR σ a b z.toNat) b j))))[q]? = H[q]? := fun q hq => by simp [Array.getElem?_setIfInBounds, Ne.symm hq]
  have hsz : (H.setIfInBounds b (arrV (oT Ω 9) (sZ σ b) (fun j => va_rf (aR (cpR σ a b z.toNat) b j)))).size = H.size := by simp
  have hA : oA Ω b := hR.base (by omega)
  have hR1 : Rep Ω (cpR σ a b z.toNat) (H.setIfInBounds b (arrV (oT Ω 9) (sZ σ b) (fun j => va_rf (aR (cpR σ a b z.toNat) b j)))) := by
    refine hR.set hsz oq (a := b) (by omega) rfl rfl hR.2.2.2.2.1 ⟨fun ci h1 h2 => ?_, fun t' h1 h2 => ?_⟩ (fun q hq => ⟨fun ci k => rfl, fun t => ?_⟩)
    · have h3 : sK σ b = ci + 1 := h2
      omega
    · have h3 : sK σ b = 50 + t' := h2
      have ht : t' = 9 := by omega
      subst ht
      rw [hb1, arC_r (by omega), vp_cell_q]
      rfl
    · simp only [arC, cpR, sZ, aI, aL, aR, up1, if_neg hq]
  obtain ⟨t, a1, b1⟩ := kk p e s m args below meth c _ _ ls B hR1 (⟨by rw [hsz]; exact hS.1, fun q g1 g2 => by
      rw [oq q (fun e => g2 (by rw [e]; exact hA))]
      exact hS.2.1 q g1 g2, fun q hq => by
      rcases List.mem_append.mp hq with h | h
      · exact hS.2.2 q h
      · obtain ⟨z, -, hz⟩ := List.mem_map.mp h
        rw [← hz]
        exact hA⟩ : va_S (oA Ω) s.heap (H.setIfInBounds b (arrV (oT Ω 9) (sZ σ b) (fun j => va_rf (aR (cpR σ a b z.toNat) b j)))) (locs ++ _)) hL _ hheap X'
  exact ⟨t, step t a1, b1⟩
abbrev rmC (c s : Nat) : Room := { frames := rm_Arrays_copyOf_0.frames, cells := c, slots := s, locals := rm_Arrays_copyOf_0.locals }
abbrev rmC1 (c s : Nat) : Room := { frames := rm_Arrays_copyOf_1.frames, cells := c, slots := s, locals := rm_Arrays_copyOf_1.locals }
theorem k_copyOf1 {d z c s : Nat} (hk : sK σ d = 59) (hd : d < sN σ) (hz : sZ σ d ≤ z) (hn : z ≤ 200000) (he : ∀ i, i < sZ σ d → ∃ y, aR σ d i = some y ∧ sK σ y = 5) (hy : ∀ y, sK σ y = 5 → y < sN σ) (hc : 1 ≤ c) (hs : z ≤ s) : MC Ω M_Arrays_copyOf_1 (rmC1 c s) (RR fun r σ' => r = some (sN σ) ∧ σ' = cpR (nO σ 59 z) d (sN σ) (sZ σ d)) XN σ [xr (some d), xi z, xr (some (oS Ω "[" 0))] := by
  refine MC.body (L := [xr (some d), xi z, xr (some (oS Ω "[" 0)), xu]) (by decide +kernel) rfl (Nat.le_of_ble_eq_true rfl) rfl ?_
  refine Aw.aload_n rfl d_Arrays_copyOf_1_0 ?_
  refine Aw.ldcM cl_Arrays_110 d_Arrays_copyOf_1_1 ?_
  refine Aw.acmp_ne (tgt := 13) (by decide) d_Arrays_copyOf_1_3 (fun q => absurd rfl q) (fun _ => ?_)
  refine Aw.iload_n rfl d_Arrays_copyOf_1_6 ?_
  refine Aw.anew 9 (by decide) (by decide) cl_Arrays_2 aov_9 (by omega) (by omega) (by show 0 + 1 ≤ c; omega) (by show 0 + ((z : Int)).toNat ≤ s; omega) d_Arrays_copyOf_1_7 ?_
  rw [Int.toNat_natCast]
  refine Aw.goto (tgt := 24) (by decide) d_Arrays_copyOf_1_10 ?_
  refine Aw.astore_n (by decide) d_Arrays_copyOf_1_24 ?_
  refine Aw.toL (L' := [xr (some d), xi z, xr (some (oS Ω "[" 0)), xr (some (sN σ))]) rfl ?_
  have hdn : d ≠ sN σ := by omega
  have hk1 : sK (nO σ 59 z) d = 59 := by rw [sK_nO, if_neg hdn]; exact hk
  have hz1 : sZ (nO σ 59 z) d = sZ σ d := by rw [sZ_nO, if_neg hdn]
  have hk2 : sK (nO σ 59 z) (sN σ) = 59 := by rw [sK_nO, if_pos rfl]
  have hz2 : sZ (nO σ 59 z) (sN σ) = z := by rw [sZ_nO, if_pos rfl]
  refine Aw.aload_n rfl d_Arrays_copyOf_1_25 ?_
  refine Aw.iconst d_Arrays_copyOf_1_26 ?_
  refine Aw.aload_n rfl d_Arrays_copyOf_1_27 ?_
  refine Aw.iconst d_Arrays_copyOf_1_28 ?_
  refine Aw.aload_n rfl d_Arrays_copyOf_1_29 ?_
  refine Aw.alen 9 (by decide) hk1 d_Arrays_copyOf_1_30 (fun _ => ?_)
  rw [hz1]
  refine Aw.iload_n rfl d_Arrays_copyOf_1_31 ?_
  refine Aw.mmin ⟨by omega, by omega⟩ ⟨by omega, by omega⟩ ml_Arrays_304 mth_min_1 mth_ini mth_min_2 (Nat.le_of_ble_eq_true rfl) (Nat.le_of_ble_eq_true rfl) (by show 0 + 1 ≤ c; omega) (by show 0 + z ≤ s; omega) d_Arrays_copyOf_1_32 ?_
  rw [show minI (sZ σ d : Int) (z : Int) = (sZ σ d : Int) by unfold minI; split <;> omega]
  refine Aw.acopy hk1 hk2 ml_Arrays_150 (by omega) (by rw [hz1]; omega) (by rw [hz2]; omega) (fun i hi => ?_) (Nat.le_of_ble_eq_true rfl) (Nat.le_of_ble_eq_true rfl) d_Arrays_copyOf_1_35 ?_
  · obtain ⟨y, h1, h2⟩ := he i (by omega)
    have h3 := hy y h2
    exact ⟨y, by rw [aR_nO, if_neg hdn]; exact h1, by rw [sK_nO, if_neg (by omega)]; exact h2⟩
  rw [Int.toNat_natCast]
  refine Aw.aload_n rfl d_Arrays_copyOf_1_38 ?_
  exact Aw.aret rfl (Or.inr ⟨_, rfl⟩) ⟨_, rfl, rfl, rfl⟩ (by show 0 + 1 ≤ c; omega) (by show 0 + z ≤ s; omega) d_Arrays_copyOf_1_39
/-- what a new row holds -/
abbrev NewA (σ σ' : Sto) (z : Nat) (es : List Nat) : Prop := sN σ' = sN σ + 1 ∧ sK σ' (sN σ) = 59 ∧ sZ σ' (sN σ) = z ∧ ∀ i e, es[i]? = some e → aR σ' (sN σ) i = some e
theorem k_copyOf {d z c s : Nat} {es : List Nat} (hk : sK σ d = 59) (hd : d < sN σ) (hz : sZ σ d ≤ z) (hn : z ≤ 200000) (hl : es.length = sZ σ d) (he : ∀ i e, es[i]? = some e → aR σ d i = some e ∧ sK σ e = 5) (hy : ∀ y, sK σ y = 5 → y < sN σ) (hc : 1 ≤ c) (hs : z ≤ s) : MC Ω M_Arrays_copyOf_0 (rmC c s) (RR fun r σ' => r = some (sN σ) ∧ NewA σ σ' z es ∧ Keep σ σ' No) XN σ [xr (some d), xi z] := by
  have he1 : ∀ i, i < sZ σ d → ∃ y, aR σ d i = some y ∧ sK σ y = 5 := fun i hi => ⟨es[i]'(by omega), he i _ (List.getElem?_eq_getElem (by omega))⟩
  refine MC.body (L := [xr (some d), xi z]) (by decide +kernel) rfl (Nat.le_of_ble_eq_true rfl) rfl ?_
  refine Aw.aload_n rfl d_Arrays_copyOf_0_0 ?_
  refine Aw.iload_n rfl d_Arrays_copyOf_0_1 ?_
  refine Aw.aload_n rfl d_Arrays_copyOf_0_2 ?_
  refine Aw.getC hk ml_Arrays_86 (Nat.le_of_ble_eq_true rfl) (Nat.le_of_ble_eq_true rfl) d_Arrays_copyOf_0_3 ?_
  refine Aw.callS (As := [xr (some d), xi z, xr (some (oS Ω "[" 0))]) (st := []) (nn := 3) M_Arrays_copyOf_1 (k_copyOf1 (c := c) (s := s) hk hd hz hn he1 hy hc hs) ok_Arrays_copyOf_1 rfl ml_Arrays_300 sta_Arrays_copyOf_1 ⟨Nat.le_of_ble_eq_true rfl, Nat.le_of_ble_eq_true rfl⟩ rfl ⟨by show 0 + c ≤ c; omega, by show 0 + s ≤ s; omega⟩ (Nat.zero_le _) rfl d_Arrays_copyOf_0_6 (fun r σ' h => ?_) (fun _ _ hx => hx.elim)
  obtain ⟨x, rfl, rfl, rfl⟩ := h
  have hk2 : Keep σ (nO σ 59 z) No := Keep.nO
  have hk3 : Keep (nO σ 59 z) (cpR (nO σ 59 z) d (sN σ) (sZ σ d)) (At1 (sN σ)) := ⟨Nat.le_refl _, fun q _ hq => ⟨rfl, rfl, fun _ => rfl, fun _ => rfl, fun _ => rfl, rfl, rfl, by show up1 _ _ _ q = _; rw [up1, if_neg hq]⟩⟩
  refine Aw.aret rfl (Or.inr ⟨_, rfl⟩) ⟨_, rfl, rfl, ⟨rfl, ?_, ?_, fun i e hi => ?_⟩, hk2.tr hk3 (fun q q1 q2 => by omega)⟩ (by show 0 + c ≤ c; omega) (by show 0 + s ≤ s; omega) d_Arrays_copyOf_0_9
  · show sK (nO σ 59 z) (sN σ) = 59
    rw [sK_nO, if_pos rfl]
  · show sZ (nO σ 59 z) (sN σ) = z
    rw [sZ_nO, if_pos rfl]
  · have hi2 := (List.getElem?_eq_some_iff.mp hi).1
    show up1 (aR (nO σ 59 z)) (sN σ) _ (sN σ) i = some e
    rw [up1, if_pos rfl, if_pos (by omega), aR_nO, if_neg (by omega)]
    exact (he i e hi).1
end CPO
