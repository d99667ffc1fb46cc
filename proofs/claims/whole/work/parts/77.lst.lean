/-! BY HAND: a list of edits, its methods -/
section LST
variable {Ω : Om} {σ : Sto} {lo l d : Nat} {es : List Nat}
theorem L_pre {i n : Int} (hi : 0 ≤ i) (h : i < n) (hn : Q32 n) : MC Ω M_Preconditions_checkIndex rm_Preconditions_checkIndex (RI fun r σ' => σ' = σ ∧ r = i) XN σ [xi i, xi n, xr none] := by
  have qi : Q32 i := by omega
  refine MC.body (L := [xi i, xi n, xr none]) (by decide +kernel) rfl (Nat.le_of_ble_eq_true rfl) rfl ?_
  refine Aw.iload_n rfl d_Preconditions_checkIndex_0 ?_
  refine Aw.if_lt (tgt := 9) qi (by decide) d_Preconditions_checkIndex_1 (fun c => absurd c (by omega)) (fun _ => ?_)
  refine Aw.iload_n rfl d_Preconditions_checkIndex_4 ?_
  refine Aw.iload_n rfl d_Preconditions_checkIndex_5 ?_
  refine Aw.icmp_lt (tgt := 16) qi hn (by decide) d_Preconditions_checkIndex_6 (fun _ => ?_) (fun c => absurd h c)
  refine Aw.iload_n rfl d_Preconditions_checkIndex_16 ?_
  exact Aw.iret rfl ⟨_, rfl, rfl, rfl⟩ (by decide) (by decide) d_Preconditions_checkIndex_17
theorem L_chk {i n : Int} (hi : 0 ≤ i) (h : i < n) (hn : Q32 n) : MC Ω M_Objects_checkIndex rm_Objects_checkIndex (RI fun r σ' => σ' = σ ∧ r = i) XN σ [xi i, xi n] := by
  refine e_Objects_checkIndex (b_Objects_checkIndex_0 ?_)
  refine c_Objects_checkIndex_3 (L_pre hi h hn) (by decide) (by decide) (by first | decide | omega) (by first | decide | omega) (Nat.le_of_ble_eq_true rfl) (fun r σ1 hq => ?_) (fun _ _ hx => hx.elim)
  obtain ⟨rfl, rfl⟩ := hq
  exact r_Objects_checkIndex_6 ⟨_, rfl, rfl, rfl⟩ (by decide) (by decide)
theorem Ls.el {i e : Nat} (h : Ls Ω σ lo l d es) (hi : es[i]? = some e) : lo ≤ d ∧ d < sN σ ∧ sK σ d = 59 ∧ i < sZ σ d ∧ aR σ d i = some e ∧ es.length ≤ sZ σ d ∧ sZ σ d ≤ 100000 := by
  have hl := (List.getElem?_eq_some_iff.mp hi).1
  rcases h.2.2.2.2.2 with w | w
  · rw [w.2.2] at hi; simp at hi
  · exact ⟨w.1, w.2.1, w.2.2.1, by have := w.2.2.2.2.2.1; omega, w.2.2.2.2.2.2 i e hi, w.2.2.2.2.2.1, w.2.2.2.2.1⟩
theorem k_Lst_size (h : Ls Ω σ lo l d es) (hn : es.length < 100000) : MC Ω M_Lst_size rm_Lst_size (RI fun r σ' => σ' = σ ∧ r = es.length) XN σ [xr (some l)] :=
  e_Lst_size (b_Lst_size_0 ⟨h.2.2.1, fun _ => r_Lst_size_4 ⟨_, rfl, rfl, h.2.2.2.2.1⟩ (by decide) (by decide)⟩)
theorem k_Lst_isEmpty (h : Ls Ω σ lo l d es) : MC Ω M_Lst_isEmpty rm_Lst_isEmpty (RI fun r σ' => σ' = σ ∧ Bz r (es = [])) XN σ [xr (some l)] := by
  have e := h.2.2.2.2.1
  refine e_Lst_isEmpty (b_Lst_isEmpty_0 ⟨h.2.2.1, fun _ => ⟨fun c => ?_, fun c => ?_⟩⟩)
  · exact r_Lst_isEmpty_12 (Or.inl rfl) ⟨_, rfl, rfl, Or.inr ⟨rfl, fun z => c (by rw [e, z]; rfl)⟩⟩ (by decide) (by decide)
  · exact r_Lst_isEmpty_12 (Or.inr rfl) ⟨_, rfl, rfl, Or.inl ⟨rfl, List.eq_nil_of_length_eq_zero (by omega)⟩⟩ (by decide) (by decide)
theorem k_Lst_elementData {i : Nat} {e : Nat} (h : Ls Ω σ lo l d es) (hi : es[i]? = some e) : MC Ω M_Lst_elementData rm_Lst_elementData (RR fun r σ' => σ' = σ ∧ r = some e) XN σ [xr (some l), xi i] := by
  obtain ⟨w1, w2, w3, w4, w5, w6, w7⟩ := h.el hi
  refine e_Lst_elementData (b_Lst_elementData_0 ⟨h.2.2.1, _, h.2.2.2.1, w3, by omega, by omega, ?_⟩)
  exact r_Lst_elementData_6 ⟨_, rfl, rfl, by rw [Int.toNat_natCast]; exact w5⟩ (by decide) (by decide)
theorem k_Lst_get {i : Nat} {e : Nat} (h : Ls Ω σ lo l d es) (hi : es[i]? = some e) : MC Ω M_Lst_get rm_Lst_get (RR fun r σ' => σ' = σ ∧ r = some e) XN σ [xr (some l), xi i] := by
  obtain ⟨w1, w2, w3, w4, w5, w6, w7⟩ := h.el hi
  have hl := (List.getElem?_eq_some_iff.mp hi).1
  refine e_Lst_get (b_Lst_get_0 ⟨h.2.2.1, ?_⟩)
  rw [h.2.2.2.2.1]
  intro q
  refine c_Lst_get_5 (L_chk (by omega) (by omega) q) (by decide) (by decide) (by first | decide | omega) (by first | decide | omega) (Nat.le_of_ble_eq_true rfl) (fun r σ1 hq => ?_) (fun _ _ hx => hx.elim)
  obtain ⟨rfl, rfl⟩ := hq
  refine b_Lst_get_8 ?_
  refine c_Lst_get_11 (k_Lst_elementData h hi) h.2.2.1 (by decide) (by decide) (by first | decide | omega) (by first | decide | omega) (Nat.le_of_ble_eq_true rfl) (fun r σ1 hq => ?_) (fun _ _ hx => hx.elim)
  obtain ⟨rfl, rfl⟩ := hq
  exact r_Lst_get_14 ⟨_, rfl, rfl, rfl⟩ (by decide) (by decide)
theorem k_Lst_fastRemove {es' : List Nat} {e : Nat} (h : Ls Ω σ lo l d es) (he : es = es' ++ [e]) : MC Ω M_Lst_fastRemove rm_Lst_fastRemove (RV fun σ' => Ls Ω σ' lo l d es' ∧ Keep σ σ' (LsP lo l d) ∧ sN σ' = sN σ) XN σ [xr (some l), xr (some d), xi es'.length] := by
  subst he
  obtain ⟨w1, w2, w3, w4, w5, w6, w7⟩ := h.el (i := es'.length) (e := e) (by rw [List.getElem?_append_right (Nat.le_refl _), Nat.sub_self]; rfl)
  obtain ⟨h1, h2, h3, h4, h5, h6⟩ := h
  rw [List.length_append, List.length_singleton] at h5 w6
  have hdl : d ≠ l := by omega
  have e5 : fI (uI σ 834 l (wr (fI σ 834 l + 1))) 833 l = (es'.length : Int) + 1 := by rw [fI_uI, if_neg (fun z => by have := z.1; omega), h5]; rfl
  refine e_Lst_fastRemove (b_Lst_fastRemove_0 ⟨h3, fun _ => ?_⟩)
  rw [e5]
  refine fun _ => ⟨by omega, by omega, fun _ => ⟨w3, by omega, by omega, ?_⟩, fun c => absurd c (by omega)⟩
  rw [show (es'.length : Int) + 1 - 1 = es'.length by omega, Int.toNat_natCast]
  generalize wr (fI σ 834 l + 1) = m
  have k1 : Keep σ (vR (uI (uI σ 834 l m) 833 l (es'.length : Int)) d es'.length none) (LsP lo l d) := by
    refine Keep.trans ?_ (Keep.vR (P := LsP lo l d) (Or.inr ⟨rfl, w1⟩))
    exact (kuI1.trans kuI1).mono (fun q _ h => Or.inl h)
  refine r_Lst_fastRemove_43 ⟨rfl, ⟨h1, h2, h3, h4, ?_, Or.inr ⟨w1, w2, w3, ?_, w7, by show es'.length ≤ sZ σ d; omega, fun i e' hi => ?_⟩⟩, k1, rfl⟩ (by decide) (by decide)
  · rw [fI_vR, fI_uI, if_pos ⟨rfl, rfl⟩]
  · rcases h6 with w | w
    · have := w.2.1; omega
    · exact w.2.2.2.1
  · have hl := (List.getElem?_eq_some_iff.mp hi).1
    rw [aR_vR, if_neg (fun z => by have := z.2; omega)]
    rcases h6 with w | w
    · have := w.2.1; omega
    · exact w.2.2.2.2.2.2 i e' (by rw [List.getElem?_append_left hl]; exact hi)
theorem k_Lst_remove {es' : List Nat} {e : Nat} (h : Ls Ω σ lo l d es) (he : es = es' ++ [e]) : MC Ω M_Lst_remove rm_Lst_remove (RR fun r σ' => r = some e ∧ Ls Ω σ' lo l d es' ∧ Keep σ σ' (LsP lo l d) ∧ sN σ' = sN σ) XN σ [xr (some l), xi es'.length] := by
  have hi : es[es'.length]? = some e := by rw [he, List.getElem?_append_right (Nat.le_refl _), Nat.sub_self]; rfl
  have hl := (List.getElem?_eq_some_iff.mp hi).1
  obtain ⟨w1, w2, w3, w4, w5, w6, w7⟩ := h.el hi
  refine e_Lst_remove (b_Lst_remove_0 ⟨h.2.2.1, ?_⟩)
  rw [h.2.2.2.2.1]
  intro q
  refine c_Lst_remove_5 (L_chk (by omega) (by omega) q) (by decide) (by decide) (by first | decide | omega) (by first | decide | omega) (Nat.le_of_ble_eq_true rfl) (fun r σ1 hq => ?_) (fun _ _ hx => hx.elim)
  obtain ⟨rfl, rfl⟩ := hq
  refine b_Lst_remove_8 ⟨h.2.2.1, _, h.2.2.2.1, w3, by omega, by omega, ?_⟩
  rw [Int.toNat_natCast, w5]
  refine c_Lst_remove_21 (k_Lst_fastRemove h he) h.2.2.1 (by decide) (by decide) (by first | decide | omega) (by first | decide | omega) (Nat.le_of_ble_eq_true rfl) (fun σ2 hq => ?_) (fun _ _ hx => hx.elim)
  obtain ⟨g1, g2, g3⟩ := hq
  exact b_Lst_remove_24 (r_Lst_remove_25 ⟨_, rfl, rfl, g1, g2, g3⟩ (by decide) (by decide))
theorem k_Lst_clear (h : Ls Ω σ lo l d es) : MC Ω M_Lst_clear rm_Lst_clear (RV fun σ' => Ls Ω σ' lo l d [] ∧ Keep σ σ' (LsP lo l d) ∧ sN σ' = sN σ) XN σ [xr (some l)] := by
  obtain ⟨h1, h2, h3, h4, h5, h6⟩ := id h
  have e5 : fI (uI σ 834 l (wr (fI σ 834 l + 1))) 833 l = (es.length : Int) := by rw [fI_uI, if_neg (fun z => by have := z.1; omega), h5]
  refine e_Lst_clear (b_Lst_clear_0 ⟨h3, fun _ => ⟨d, h4, ?_⟩⟩)
  rw [e5]
  intro q
  generalize wr (fI σ 834 l + 1) = m
  have loop : ∀ (c i : Nat) (τ : Sto), i + c = es.length → Keep σ τ (LsP lo l d) → sN τ = sN σ → sK τ l = 14 ∧ fR τ 832 l = some d ∧ fI τ 833 l = 0 ∧ (sK τ d = sK σ d ∧ sZ τ d = sZ σ d) → Aw Ω M_Lst_clear rm_Lst_clear (MF Ω rm_Lst_clear (RV fun σ' => Ls Ω σ' lo l d [] ∧ Keep σ σ' (LsP lo l d) ∧ sN σ' = sN σ) XN) 0 0 27 [xr (some l), xr (some d), xi es.length, xi i] [] τ := by
    intro c
    induction c with
    | zero =>
      intro i τ hc k n ⟨g1, g2, g3, g4, g5⟩
      refine b_Lst_clear_27 ⟨by omega, by omega, fun _ => r_Lst_clear_42 ⟨rfl, ⟨h1, by omega, g1, g2, g3, ?_⟩, k, n⟩ (by decide) (by decide), fun z => absurd z (by omega)⟩
      rcases h6 with w | w
      · exact Or.inl ⟨w.1, w.2.1, rfl⟩
      · exact Or.inr ⟨w.1, by omega, g4.trans w.2.2.1, by rw [g5]; exact w.2.2.2.1, by rw [g5]; exact w.2.2.2.2.1, Nat.zero_le _, fun i e hi => by simp at hi⟩
    | succ c ih =>
      intro i τ hc k n ⟨g1, g2, g3, g4, g5⟩
      have hil : i < es.length := by omega
      obtain ⟨w1, w2, w3, w4, w5, w6, w7⟩ := h.el (List.getElem?_eq_getElem hil)
      refine b_Lst_clear_27 ⟨by omega, by omega, fun z => absurd z (by omega), fun _ => ⟨g4.trans w3, by omega, by rw [g5]; omega, ?_⟩⟩
      rw [Int.toNat_natCast]
      have hh := ih (i + 1) (vR τ d i none) (by omega) (k.trans (Keep.vR (P := LsP lo l d) (Or.inr ⟨rfl, w1⟩))) n ⟨g1, g2, g3, g4, g5⟩
      rw [show (((i + 1 : Nat)) : Int) = (i : Int) + 1 by omega] at hh
      exact hh
  refine loop es.length 0 _ (by omega) ((kuI1.trans kuI1).mono (fun q _ h => Or.inl h)) rfl ⟨h3, h4, by rw [fI_uI, if_pos ⟨rfl, rfl⟩], rfl, rfl⟩
abbrev rmA (c s : Nat) : Room := { frames := rm_Lst_add_0.frames, cells := c, slots := s, locals := rm_Lst_add_0.locals }
theorem L_acol : MC Ω M_AbstractCollection_init rm_AbstractCollection_init (RV fun σ' => σ' = σ) XN σ [xr (some l)] := by
  refine MC.body (L := [xr (some l)]) (by decide +kernel) rfl (Nat.le_of_ble_eq_true rfl) rfl ?_
  refine Aw.aload_n rfl d_AbstractCollection_init_0 ?_
  refine Aw.objInit ml_AbstractCollection_1 oi_1 oi_2 (by decide) (by decide) d_AbstractCollection_init_1 ?_
  exact Aw.vret rfl ⟨rfl, rfl⟩ (by decide) (by decide) d_AbstractCollection_init_4
theorem L_alist (ha : sK σ l = 14) : MC Ω M_AbstractList_init rm_AbstractList_init (RV fun σ' => σ' = uI σ 834 l 0) XN σ [xr (some l)] := by
  refine MC.body (L := [xr (some l)]) (by decide +kernel) rfl (Nat.le_of_ble_eq_true rfl) rfl ?_
  refine Aw.aload_n rfl d_AbstractList_init_0 ?_
  refine Aw.callI (As := []) (stk := [xr (some l)]) (nn := 0) M_AbstractCollection_init L_acol ok_AbstractCollection_init rfl rfl rfl im_AbstractCollection_init (Or.inl ml_AbstractList_1) ⟨by decide, by decide⟩ rfl ⟨by decide, by decide⟩ (by decide) rfl d_AbstractList_init_1 (fun r σ' h => ?_) (fun _ _ h => h.elim)
  obtain ⟨rfl, rfl⟩ := h
  refine Aw.aload_n rfl d_AbstractList_init_4 ?_
  refine Aw.iconst d_AbstractList_init_5 ?_
  refine Aw.putI (f := 834) 13 2 fl_AbstractList_7 (by decide) (by decide) rfl rfl ha rfl ⟨by decide, by decide⟩ (Or.inl rfl) d_AbstractList_init_6 ?_
  exact Aw.vret rfl ⟨rfl, rfl⟩ (by decide) (by decide) d_AbstractList_init_9
theorem k_Lst_init (ha : sK σ l = 14) (hz : fI σ 833 l = 0) (hn : l < sN σ) (hl : l < lo) (hE : oE Ω < lo) : MC Ω M_Lst_init rm_Lst_init (RV fun σ' => Ls Ω σ' lo l (oE Ω) [] ∧ Keep σ σ' (At1 l) ∧ sN σ' = sN σ) XN σ [xr (some l)] := by
  refine e_Lst_init (b_Lst_init_0 ?_)
  refine c_Lst_init_1 (L_alist ha) (by decide) (by decide) (by first | decide | omega) (by first | decide | omega) (Nat.le_of_ble_eq_true rfl) (fun σ1 hq => ?_) (fun _ _ hx => hx.elim)
  obtain hq := hq
  subst hq
  refine b_Lst_init_4 (Aw.getsE gs_Lst_39 d_Lst_init_5 (b_Lst_init_8 ⟨ha, ?_⟩))
  refine r_Lst_init_11 ⟨rfl, ⟨hl, hn, ha, by rw [fR_uR, if_pos ⟨rfl, rfl⟩], ?_, Or.inl ⟨rfl, hE, rfl⟩⟩, kuI1.trans kuR1, rfl⟩ (by decide) (by decide)
  rw [fI_uR, fI_uI, if_neg (fun z => by have := z.1; omega), hz]; rfl
end LST
