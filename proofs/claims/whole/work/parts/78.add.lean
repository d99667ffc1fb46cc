/-! BY HAND: the list grows  -/
section ADD
variable {Ω : Om} {σ : Sto} {lo l d : Nat} {es : List Nat}
theorem Aw.elen {M : MI} {R : Room} {F : QF} {k n pc : Nat} {L st : List PV} (d : decode (mb M) pc = .ok (.arraylength, 1)) (kk : Aw Ω M R F k n (pc + 1) L (xi 0 :: st) σ) : Aw Ω M R F k n pc L (xr (some (oE Ω)) :: st) σ := by
  intro p e s m args below meth c H locs ls B hR hS hL
  obtain ⟨-, hlt, cell, h3, h4, h5, h6⟩ := B.2.2.2.2.2.2.2.2.1.2.2.2.2.2.2.2.2.2.1
  exact W.alen (n := Int32.ofInt 0) B.1 B.2.1 (by rw [hR.2.2.1 _ hlt]; exact h3) h4 (by rw [h6]; rfl) rfl rfl d (kk p e s m args below meth c H locs ls B hR hS hL)
theorem Aw.oE0 {M : MI} {R : Room} {F : QF} {k n pc : Nat} {L st : List PV} (kk : sK σ (oE Ω) = 0 → Aw Ω M R F k n pc L st σ) : Aw Ω M R F k n pc L st σ := by
  intro p e s m args below meth c H locs ls B hR hS hL
  have hlt := B.2.2.2.2.2.2.2.2.1.2.2.2.2.2.2.2.2.2.1.2.1
  exact kk (hR.2.2.2.1 _ (Or.inl hlt)) p e s m args below meth c H locs ls B hR hS hL
theorem bShr_1 {x : Int} (h : 0 ≤ x ∧ x < 2147483648) : bShr x 1 = x / 2 := by
  unfold bShr
  have e : Int32.ofInt 1 &&& 31 = 1 := by decide
  rw [e, ← Int32.toInt_toBitVec, Int32.toBitVec_shiftRight, BitVec.sshiftRight_eq', BitVec.toInt_sshiftRight]
  have e2 : (Int32.toBitVec 1 % 32).toNat = 1 := by decide
  rw [show (Int32.toBitVec 1).smod 32 = 1 by decide]
  rw [Int32.toInt_toBitVec, Int32.toInt_ofInt_of_le (by omega) (by omega)]
  show x >>> 1 = x / 2
  rw [Int.shiftRight_eq_div_pow]; rfl
theorem L_newLen {a b c : Int} (ha : 0 ≤ a ∧ a ≤ 200000) (hb : 1 ≤ b ∧ b ≤ 200000) (hc : 0 ≤ c ∧ c ≤ 200000) : MC Ω M_ArraysSupport_newLength rm_ArraysSupport_newLength (RI fun r σ' => σ' = σ ∧ r = a + maxI b c) XN σ [xi a, xi b, xi c] := by
  have qb : R32 b := ⟨by omega, by omega⟩
  have qc : R32 c := ⟨by omega, by omega⟩
  have hm : 1 ≤ maxI b c ∧ maxI b c ≤ 200000 := by unfold maxI; split <;> omega
  have qm : R32 (a + maxI b c) := ⟨by omega, by omega⟩
  refine MC.body (L := [xi a, xi b, xi c, xu]) (by decide +kernel) rfl (Nat.le_of_ble_eq_true rfl) rfl ?_
  refine Aw.iload_n rfl d_ArraysSupport_newLength_0 ?_
  refine Aw.iload_n rfl d_ArraysSupport_newLength_1 ?_
  refine Aw.iload_n rfl d_ArraysSupport_newLength_2 ?_
  refine Aw.mmax qb qc (am_mem 730 (by decide +kernel) (by decide +kernel)) mth_max_1 mth_ini mth_max_2 (by decide) (Nat.le_of_ble_eq_true rfl) (by decide) (by decide) d_ArraysSupport_newLength_3 ?_
  refine Aw.iadd d_ArraysSupport_newLength_6 ?_
  refine Aw.istore_n (by decide) d_ArraysSupport_newLength_7 ?_
  refine Aw.toL (L' := [xi a, xi b, xi c, xi (a + maxI b c)]) rfl ?_
  refine Aw.iconst d_ArraysSupport_newLength_8 ?_
  refine Aw.iload_n rfl d_ArraysSupport_newLength_9 ?_
  refine Aw.icmp_ge (tgt := 21) ⟨by decide, by decide⟩ qm (by decide) d_ArraysSupport_newLength_10 (fun c => absurd c (by omega)) (fun _ => ?_)
  refine Aw.iload_n rfl d_ArraysSupport_newLength_13 ?_
  refine Aw.ldcI (v := 2147483639) cs_ArraysSupport_200 (by decide) d_ArraysSupport_newLength_14 ?_
  refine Aw.icmp_gt (tgt := 21) qm ⟨by decide, by decide⟩ (by decide) d_ArraysSupport_newLength_16 (fun c => absurd c (by omega)) (fun _ => ?_)
  refine Aw.iload_n rfl d_ArraysSupport_newLength_19 ?_
  exact Aw.iret rfl ⟨_, rfl, rfl, rfl⟩ (by decide) (by decide) d_ArraysSupport_newLength_20
abbrev rmG1 (c s : Nat) : Room := { frames := rm_Lst_grow_1.frames, cells := c, slots := s, locals := rm_Lst_grow_1.locals }
abbrev rmG0 (c s : Nat) : Room := { frames := rm_Lst_grow_0.frames, cells := c, slots := s, locals := rm_Lst_grow_0.locals }
abbrev rmA1 (c s : Nat) : Room := { frames := rm_Lst_add_1.frames, cells := c, slots := s, locals := rm_Lst_add_1.locals }
theorem EdsV.k5 {σ : Sto} {lo : Nat} {es : List Nat} {Es : List Edi} (h : EdsV σ lo es Es) (i e : Nat) (he : es[i]? = some e) : sK σ e = 5 := by
  have hi := (List.getElem?_eq_some_iff.mp he).1
  exact (h.2 i e (Es[i]'(by have := h.1; omega)) he (List.getElem?_eq_getElem _)).2.2.1
theorem EdsV.lt {σ : Sto} {lo : Nat} {es : List Nat} {Es : List Edi} (h : EdsV σ lo es Es) (i e : Nat) (he : es[i]? = some e) : e < sN σ := by
  have hi := (List.getElem?_eq_some_iff.mp he).1
  have := (h.2 i e (Es[i]'(by have := h.1; omega)) he (List.getElem?_eq_getElem _)).2.1
  omega
theorem L_grow_1 {c s : Nat} (h : Ls Ω σ lo l d es) (hz : es.length ≤ 50000) (hlo : lo ≤ sN σ) (hr : ¬ lsR Ω σ d es) (h5 : ∀ (i e : Nat), es[i]? = some e → sK σ e = 5) (hy : ∀ y, sK σ y = 5 → y < sN σ) (hc : 1 ≤ c) (hs : lsZ Ω σ d ≤ s) : MC Ω M_Lst_grow_1 (rmG1 c s) (RR fun r σ' => r = some (sN σ) ∧ NewA σ σ' (lsZ Ω σ d) es ∧ sK σ' l = 14 ∧ fR σ' 832 l = some (sN σ) ∧ Keep σ σ' (At1 l)) XN σ [xr (some l), xi ((es.length : Int) + 1)] := by
  obtain ⟨h1, h2, h3, h4, -, h6⟩ := id h
  refine e_Lst_grow_1 (Aw.oE0 fun h0 => ?_)
  rcases h6 with ⟨rfl, w2, rfl⟩ | ⟨w1, w2, w3, w4, w5, w6, w7⟩
  · have ez : lsZ Ω σ (oE Ω) = 10 := if_pos rfl
    rw [ez] at hs ⊢
    refine Aw.aload_n rfl d_Lst_grow_1_0 ?_
    refine Aw.getRs (f := 832) 13 0 fl_Lst_9 (by decide) (by decide) rfl rfl h3 h4 d_Lst_grow_1_1 ?_
    refine Aw.elen d_Lst_grow_1_4 ?_
    refine Aw.istore_n (by decide) d_Lst_grow_1_5 ?_
    refine Aw.toL (L' := [xr (some l), xi (((([] : List Nat).length : Nat) : Int) + 1), xi 0, xu]) rfl ?_
    refine Aw.iload_n rfl d_Lst_grow_1_6 ?_
    refine Aw.if_gt (tgt := 20) ⟨by decide, by decide⟩ (by decide) d_Lst_grow_1_7 (fun c7 => absurd c7 (by decide)) (fun _ => ?_)
    refine Aw.aload_n rfl d_Lst_grow_1_10 ?_
    refine Aw.getRs (f := 832) 13 0 fl_Lst_9 (by decide) (by decide) rfl rfl h3 h4 d_Lst_grow_1_11 ?_
    refine Aw.getsE gs_Lst_39 d_Lst_grow_1_14 ?_
    have e10 : (maxI 10 (((([] : List Nat).length : Nat) : Int) + 1)) = 10 := by decide
    refine b_Lst_grow_1_17 ⟨fun _ => ⟨by decide, by decide, Nat.le_of_ble_eq_true rfl, Nat.le_of_ble_eq_true rfl, Nat.zero_le _, Nat.zero_le _, by decide, by decide, by show 0 + 1 ≤ c; omega, by rw [e10]; show 0 + 10 ≤ s; omega, fun σ11 e11 => ?_⟩, fun z => absurd rfl z⟩
    rw [e10] at e11
    have k1 : Keep σ σ11 No := by rw [e11]; exact Keep.nO
    have a1 := k1.2 l h2 (by intro z; exact z)
    refine ⟨a1.1.trans h3, r_Lst_grow_1_59 ⟨_, rfl, rfl, ⟨by rw [e11]; rfl, by rw [e11, sK_uR, sK_nO, if_pos rfl], by rw [e11, sZ_uR, sZ_nO, if_pos rfl]; rfl, fun i e hi => by simp at hi⟩, a1.1.trans h3, by rw [fR_uR, if_pos ⟨rfl, rfl⟩], (k1.mono (fun _ _ h => h.elim)).trans kuR1⟩ (by show 0 + 1 ≤ c; omega) (by rw [e10]; show 0 + 10 ≤ s; omega)⟩
  · have hdE : d ≠ oE Ω := fun z => by rw [z, h0] at w3; cases w3
    have ez : lsZ Ω σ d = sZ σ d + sZ σ d / 2 := if_neg hdE
    rw [ez] at hs ⊢
    have hfull : es.length = sZ σ d := by
      rcases Nat.lt_or_ge es.length (sZ σ d) with q | q
      · exact absurd ⟨hdE, q⟩ hr
      · omega
    refine b_Lst_grow_1_0 ⟨h3, d, h4, w3, fun _ => ⟨by omega, fun _ => ?_, fun z => absurd (show (0 : Int) < (sZ σ d : Int) by omega) z⟩⟩
    rw [bShr_1 (by omega), show ((es.length : Int) + 1) - (sZ σ d : Int) = 1 by omega]
    refine c_Lst_grow_1_27 (L_newLen (by omega) (by decide) (by omega)) (Nat.le_of_ble_eq_true rfl) (Nat.le_of_ble_eq_true rfl) (by show 0 + 0 ≤ c; omega) (by show 0 + 0 ≤ s; omega) (Nat.le_of_ble_eq_true rfl) (fun r σ1 hq => ?_) (fun _ _ hx => hx.elim)
    obtain ⟨rfl, rfl⟩ := hq
    have em : (sZ σ1 d : Int) + maxI 1 ((sZ σ1 d : Int) / 2) = ((sZ σ1 d + sZ σ1 d / 2 : Nat) : Int) := by unfold maxI; split <;> omega
    rw [em]
    refine b_Lst_grow_1_30 ⟨h3, d, h4, ?_⟩
    refine c_Lst_grow_1_37 (k_copyOf (es := es) (c := c) (s := s) w3 w2 (by omega) (by omega) hfull (fun i e hi => ⟨w7 i e hi, h5 i e hi⟩) hy hc hs) (Nat.le_of_ble_eq_true rfl) (Nat.le_of_ble_eq_true rfl) (by show 0 + 0 + c ≤ c; omega) (by show 0 + 0 + s ≤ s; omega) (Nat.le_of_ble_eq_true rfl) (fun r σ2 hq => ?_) (fun _ _ hx => hx.elim)
    obtain ⟨rfl, ⟨n1, n2, n3, n4⟩, k2⟩ := hq
    have a1 := k2.2 l h2 (by intro z; exact z)
    have hl : l ≠ sN σ1 := by omega
    exact b_Lst_grow_1_40 ⟨a1.1.trans h3, r_Lst_grow_1_44 ⟨_, rfl, rfl, ⟨n1, n2, n3, n4⟩, a1.1.trans h3, by rw [fR_uR, if_pos ⟨rfl, rfl⟩], (k2.mono (fun _ _ h => h.elim)).trans kuR1⟩ (by show 0 + 0 + c ≤ c; omega) (by show 0 + 0 + s ≤ s; omega)⟩
theorem L_grow_0 {c s : Nat} (h : Ls Ω σ lo l d es) (hz : es.length ≤ 50000) (hlo : lo ≤ sN σ) (hr : ¬ lsR Ω σ d es) (h5 : ∀ (i e : Nat), es[i]? = some e → sK σ e = 5) (hy : ∀ y, sK σ y = 5 → y < sN σ) (hc : 1 ≤ c) (hs : lsZ Ω σ d ≤ s) : MC Ω M_Lst_grow_0 (rmG0 c s) (RR fun r σ' => r = some (sN σ) ∧ NewA σ σ' (lsZ Ω σ d) es ∧ sK σ' l = 14 ∧ fR σ' 832 l = some (sN σ) ∧ Keep σ σ' (At1 l)) XN σ [xr (some l)] := by
  refine e_Lst_grow_0 (b_Lst_grow_0_0 ⟨h.2.2.1, ?_⟩)
  rw [h.2.2.2.2.1]
  refine fun _ => c_Lst_grow_0_7 (L_grow_1 (c := c) (s := s) h hz hlo hr h5 hy hc hs) h.2.2.1 (Nat.le_of_ble_eq_true rfl) (Nat.le_of_ble_eq_true rfl) (by show 0 + c ≤ c; omega) (by show 0 + s ≤ s; omega) (Nat.le_of_ble_eq_true rfl) (fun r σ1 hq => ?_) (fun _ _ hx => hx.elim)
  exact r_Lst_grow_0_10 ⟨_, rfl, hq⟩ (by show 0 + c ≤ c; omega) (by show 0 + s ≤ s; omega)
theorem Aw.lt0 {M : MI} {R : Room} {F : QF} {k n pc : Nat} {L st : List PV} (kk : (∀ a, sN σ ≤ a → sK σ a = 0) → Aw Ω M R F k n pc L st σ) : Aw Ω M R F k n pc L st σ := by
  intro p e s m args below meth c H locs ls B hR hS hL
  exact kk (fun a h => hR.2.2.2.1 a (Or.inr h)) p e s m args below meth c H locs ls B hR hS hL
/-- the new row takes the element -/
theorem L_put {c s : Nat} {e : Nat} {k n : Nat} {σ1 : Sto} (h : Ls Ω σ lo l d es) (hlo : lo ≤ sN σ) (hz : es.length ≤ 50000) (he : sK σ e = 5) (hle : e < sN σ) (hr : ¬ lsR Ω σ d es) (hZ : es.length + 1 ≤ lsZ Ω σ d ∧ 10 ≤ lsZ Ω σ d ∧ lsZ Ω σ d ≤ 100000) (hN : NewA σ σ1 (lsZ Ω σ d) es) (hk : sK σ1 l = 14) (hf : fR σ1 832 l = some (sN σ)) (kk : Keep σ σ1 (At1 l)) (h1 : k ≤ c) (h2 : n ≤ s) :
    Aw Ω M_Lst_add_1 (rmA1 c s) (MF Ω (rmA1 c s) (RV fun σ' => ∃ d', LsN Ω σ σ' lo l d d' es e) XN) k n 10 [xr (some l), xr (some e), xr (some d), xi es.length] [xr (some (sN σ))] σ1 := by
  obtain ⟨n1, n2, n3, n4⟩ := hN
  have hel : e ≠ l := fun z => by rw [z, h.2.2.1] at he; cases he
  have ek := kk.2 e hle hel
  refine b_Lst_add_1_10 ⟨n2, by omega, by rw [n3]; omega, ek.1.trans he, hk, by omega, ?_⟩
  rw [Int.toNat_natCast]
  have hll := h.2.1
  have k9 : Keep σ (uI (vR σ1 (sN σ) es.length (some e)) 833 l ((es.length : Int) + 1)) (LsP lo l d) := by
    have k2 : Keep σ1 (vR σ1 (sN σ) es.length (some e)) (At1 (sN σ)) := Keep.vR rfl
    exact ((kk.mono (Q := LsP lo l d) (fun q _ h => Or.inl h)).tr k2 (fun q q1 q2 => by omega)).trans (kuI1.mono (fun q _ h => Or.inl h))
  refine r_Lst_add_1_22 ⟨rfl, sN σ, ⟨h.1, by show l < sN σ1; omega, hk, hf, by rw [fI_uI, if_pos ⟨rfl, rfl⟩, List.length_append, List.length_singleton]; rfl, Or.inr ⟨hlo, by show sN σ < sN σ1; omega, n2, by show 10 ≤ sZ σ1 (sN σ); omega, by show sZ σ1 (sN σ) ≤ 100000; omega, by rw [List.length_append, List.length_singleton]; show es.length + 1 ≤ sZ σ1 (sN σ); omega, fun i e' hi => ?_⟩⟩, k9, Or.inr ⟨hr, rfl, n1, n3⟩⟩ h1 h2
  rw [aR_uI, aR_vR]
  rcases Nat.lt_or_ge i es.length with q | q
  · rw [if_neg (fun z => by have := z.2; omega)]
    rw [List.getElem?_append_left q] at hi
    exact n4 i e' hi
  · have hi2 := (List.getElem?_eq_some_iff.mp hi).1
    rw [List.length_append, List.length_singleton] at hi2
    have e2 : i = es.length := by omega
    rw [e2, List.getElem?_append_right (Nat.le_refl _), Nat.sub_self] at hi
    cases hi
    rw [if_pos ⟨rfl, e2⟩]
theorem L_add_1 {c s : Nat} {e : Nat} (h : Ls Ω σ lo l d es) (hk5 : ∀ (i e : Nat), es[i]? = some e → sK σ e = 5) (he : sK σ e = 5) (hlo : lo ≤ sN σ) (hz : es.length ≤ 50000) (hr : lsR Ω σ d es ∨ (1 ≤ c ∧ lsZ Ω σ d ≤ s)) : MC Ω M_Lst_add_1 (rmA1 c s) (RV fun σ' => ∃ d', LsN Ω σ σ' lo l d d' es e) XN σ [xr (some l), xr (some e), xr (some d), xi es.length] := by
  obtain ⟨h1, h2, h3, h4, h5, h6⟩ := id h
  refine e_Lst_add_1 (Aw.oE0 fun h0 => Aw.lt0 fun hlt => ?_)
  have hy : ∀ y, sK σ y = 5 → y < sN σ := fun y hy => by
    rcases Nat.lt_or_ge y (sN σ) with q | q
    · exact q
    · rw [hlt y q] at hy; cases hy
  have hle : e < sN σ := hy e he
  rcases h6 with ⟨rfl, w2, rfl⟩ | ⟨w1, w2, w3, w4, w5, w6, w7⟩
  · have ez : lsZ Ω σ (oE Ω) = 10 := if_pos rfl
    have hnr : ¬ lsR Ω σ (oE Ω) [] := fun z => z.1 rfl
    obtain ⟨c1, c2⟩ := hr.resolve_left hnr
    refine Aw.iload_n rfl d_Lst_add_1_0 ?_
    refine Aw.aload_n rfl d_Lst_add_1_1 ?_
    refine Aw.elen d_Lst_add_1_2 ?_
    refine Aw.icmp_ne (tgt := 11) ⟨by decide, by decide⟩ ⟨by decide, by decide⟩ (by decide) d_Lst_add_1_3 (fun c7 => absurd rfl c7) (fun _ => ?_)
    refine Aw.aload_n rfl d_Lst_add_1_6 ?_
    refine c_Lst_add_1_7 (L_grow_0 (c := c) (s := s) h hz hlo hnr hk5 hy c1 c2) h3 (Nat.le_of_ble_eq_true rfl) (Nat.le_of_ble_eq_true rfl) (by show 0 + c ≤ c; omega) (by show 0 + s ≤ s; omega) (Nat.le_of_ble_eq_true rfl) (fun r σ1 hq => ?_) (fun _ _ hx => hx.elim)
    obtain ⟨rfl, g1, g2, g3, g5⟩ := hq
    exact L_put h hlo hz he hle hnr ⟨by rw [ez]; decide, by omega, by omega⟩ g1 g2 g3 g5 (by show 0 + c ≤ c; omega) (by show 0 + s ≤ s; omega)
  · have hdE : d ≠ oE Ω := fun z => by rw [z, h0] at w3; cases w3
    have ez : lsZ Ω σ d = sZ σ d + sZ σ d / 2 := if_neg hdE
    refine b_Lst_add_1_0 ⟨w3, fun _ => ⟨by omega, by omega, fun c7 => ⟨by omega, by omega, he, h3, by omega, ?_⟩, fun c7 => ?_⟩⟩
    · rw [Int.toNat_natCast]
      have hl : es.length < sZ σ d := by omega
      have k9 : Keep σ (uI (vR σ d es.length (some e)) 833 l ((es.length : Int) + 1)) (LsP lo l d) := (Keep.vR (P := LsP lo l d) (Or.inr ⟨rfl, w1⟩)).trans (kuI1.mono (fun q _ h => Or.inl h))
      refine r_Lst_add_1_22 ⟨rfl, d, ⟨h1, h2, h3, h4, by rw [fI_uI, if_pos ⟨rfl, rfl⟩, List.length_append, List.length_singleton]; rfl, Or.inr ⟨w1, w2, w3, w4, w5, by rw [List.length_append, List.length_singleton]; show es.length + 1 ≤ sZ σ d; omega, fun i e' hi => ?_⟩⟩, k9, Or.inl ⟨⟨hdE, hl⟩, rfl, rfl, rfl⟩⟩ (Nat.zero_le _) (Nat.zero_le _)
      rw [aR_uI, aR_vR]
      rcases Nat.lt_or_ge i es.length with q | q
      · rw [if_neg (fun z => by have := z.2; omega)]
        rw [List.getElem?_append_left q] at hi
        exact w7 i e' hi
      · have hi2 := (List.getElem?_eq_some_iff.mp hi).1
        rw [List.length_append, List.length_singleton] at hi2
        have e2 : i = es.length := by omega
        rw [e2, List.getElem?_append_right (Nat.le_refl _), Nat.sub_self] at hi
        cases hi
        rw [if_pos ⟨rfl, e2⟩]
    · have hnr : ¬ lsR Ω σ d es := fun z => by have := z.2; omega
      obtain ⟨c1, c2⟩ := hr.resolve_left hnr
      refine c_Lst_add_1_7 (L_grow_0 (c := c) (s := s) h hz hlo hnr hk5 hy c1 c2) h3 (Nat.le_of_ble_eq_true rfl) (Nat.le_of_ble_eq_true rfl) (by show 0 + c ≤ c; omega) (by show 0 + s ≤ s; omega) (Nat.le_of_ble_eq_true rfl) (fun r σ1 hq => ?_) (fun _ _ hx => hx.elim)
      obtain ⟨rfl, g1, g2, g3, g5⟩ := hq
      exact L_put h hlo hz he hle hnr ⟨by omega, by omega, by omega⟩ g1 g2 g3 g5 (by show 0 + c ≤ c; omega) (by show 0 + s ≤ s; omega)
theorem k_Lst_add {e c s : Nat} (h : Ls Ω σ lo l d es) (hk5 : ∀ (i e : Nat), es[i]? = some e → sK σ e = 5) (he : sK σ e = 5) (hlo : lo ≤ sN σ) (hz : es.length ≤ 50000) (hr : lsR Ω σ d es ∨ (1 ≤ c ∧ lsZ Ω σ d ≤ s)) : MC Ω M_Lst_add_0 (rmA c s) (RI fun _ σ' => ∃ d', LsN Ω σ σ' lo l d d' es e) XN σ [xr (some l), xr (some e)] := by
  obtain ⟨h1, h2, h3, h4, h5, h6⟩ := id h
  have e5 : fI (uI σ 834 l (wr (fI σ 834 l + 1))) 833 l = (es.length : Int) := by rw [fI_uI, if_neg (fun z => by have := z.1; omega), h5]
  refine e_Lst_add_0 (b_Lst_add_0_0 ⟨h3, fun _ => ⟨d, h4, ?_⟩⟩)
  rw [e5]
  generalize wr (fI σ 834 l + 1) = m at e5 ⊢
  have hL : Ls Ω (uI σ 834 l m) lo l d es := ⟨h1, h2, h3, h4, e5, h6⟩
  refine fun _ => c_Lst_add_0_20 (L_add_1 (c := c) (s := s) hL hk5 he hlo hz hr) h3 (Nat.le_of_ble_eq_true rfl) (Nat.le_of_ble_eq_true rfl) (by show 0 + c ≤ c; omega) (by show 0 + s ≤ s; omega) (Nat.le_of_ble_eq_true rfl) (fun σ1 hq => ?_) (fun _ _ hx => hx.elim)
  obtain ⟨d', g1, g2, g3⟩ := hq
  have k0 : Keep σ (uI σ 834 l m) (LsP lo l d) := kuI1.mono (fun q _ h => Or.inl h)
  exact b_Lst_add_0_23 (r_Lst_add_0_24 (Or.inr rfl) ⟨_, rfl, d', g1, k0.trans g2, g3⟩ (by show 0 + c ≤ c; omega) (by show 0 + s ≤ s; omega))
end ADD
