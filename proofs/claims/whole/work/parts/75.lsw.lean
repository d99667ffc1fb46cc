/-! BY HAND: an int that wraps -/
def wr (v : Int) : Int := (Int32.ofInt v).toInt
theorem wr_q (v : Int) : Q32 (wr v) := by
  have h1 := Int32.le_toInt (Int32.ofInt v)
  have h2 := Int32.toInt_lt (Int32.ofInt v)
  unfold wr
  constructor <;> omega
theorem Aw.wrap {Ω : Om} {M : MI} {R : Room} {F : QF} {k n pc : Nat} {L st : List PV} {σ : Sto} {v : Int} (kk : Aw Ω M R F k n pc L (xi (wr v) :: st) σ) : Aw Ω M R F k n pc L (xi v :: st) σ := by
  intro p e s m args below meth c H locs ls B hR hS hL
  have h := kk p e s m args below meth c H locs ls B hR hS hL
  unfold wr at h
  simp only [List.map_cons, xV_i, ofInt_toInt] at h ⊢
  exact h
/-- the empty row of the class ArrayList -/
theorem Aw.getsE {Ω : Om} {M : MI} {R : Room} {F : QF} {k n pc : Nat} {L st : List PV} {σ : Sto} {idx : Nat} (hl : Cond.fieldLink (mo M) idx "java/util/ArrayList" "DEFAULTCAPACITY_EMPTY_ELEMENTDATA" "[Ljava/lang/Object;" ∈ am_tb) (d : decode (mb M) pc = .ok (.getstatic idx, 3)) (kk : Aw Ω M R F k n (pc + 3) L (xr (some (oE Ω)) :: st) σ) : Aw Ω M R F k n pc L st σ := by
  intro p e s m args below meth c H locs ls B hR hS hL
  have hKn := B.2.2.2.2.2.2.2.2.1
  obtain ⟨⟨cf, kf, fi, f, a, cell, h1, h2, h3, h4, h5, h6, h7, h8⟩, -⟩ := hKn.2.2.2.2.2.2.2.2.2.1
  exact W.gets B.1 B.2.1 B.2.2.2.2.1 (hKn.hts args _ hl) h1 h2 h3 h4 (by rw [hR.2.2.1 a (Array.getElem?_eq_some_iff.mp h5).1]; exact h5) (fun e => by rw [e] at h6; cases h6) h7 rfl d (kk p e s m args below meth c H locs ls B hR hS hL)
theorem gs_Lst_39 : Cond.fieldLink "java/util/ArrayList" 39 "java/util/ArrayList" "DEFAULTCAPACITY_EMPTY_ELEMENTDATA" "[Ljava/lang/Object;" ∈ am_tb := am_mem 255 (by decide +kernel) (by decide +kernel)
theorem fl_AbstractList_7 : FLc "java/util/AbstractList" 7 13 2 := Or.inl ⟨"java/util/AbstractList", am_mem 259 (by decide +kernel) (by decide +kernel), Or.inl rfl⟩
/-! walks of ArrayList (by program) -/
theorem e_Lst_init {Ω : Om} {R : Room} {QR : Option PV → Sto → Prop} {QX : String → Sto → Prop} {σ : Sto} {a0 : Nat} (h : Aw Ω M_Lst_init R (MF Ω R QR QX) 0 0 0 [xr (some a0)] [] σ) : MC Ω M_Lst_init R QR QX σ [xr (some a0)] := MC.body (by decide +kernel) rfl (Nat.le_of_ble_eq_true rfl) rfl h
theorem b_Lst_init_0 {Ω : Om} {R : Room} {F : QF} {k n : Nat} {σ : Sto} {a0 : Nat} (h : Aw Ω M_Lst_init R F k n 1 [xr (some a0)] [xr (some a0)] σ) : Aw Ω M_Lst_init R F k n 0 [xr (some a0)] [] σ := by
  refine Aw.aload_n rfl d_Lst_init_0 ?_
  exact h
theorem b_Lst_init_4 {Ω : Om} {R : Room} {F : QF} {k n : Nat} {σ : Sto} {a0 : Nat} (h : Aw Ω M_Lst_init R F k n 5 [xr (some a0)] [xr (some a0)] σ) : Aw Ω M_Lst_init R F k n 4 [xr (some a0)] [] σ := by
  refine Aw.aload_n rfl d_Lst_init_4 ?_
  exact h
theorem b_Lst_init_8 {Ω : Om} {R : Room} {F : QF} {k n : Nat} {σ : Sto} {a0 : Nat} {s0 : Nat} {s1 : Nat} (h : sK σ s0 = 14 ∧ Aw Ω M_Lst_init R F k n 11 [xr (some a0)] [] (uR σ 832 s0 (some s1))) : Aw Ω M_Lst_init R F k n 8 [xr (some a0)] [xr (some s1), xr (some s0)] σ := by
  obtain ⟨o1, h⟩ := h
  refine Aw.putR (f := 832) 13 0 fl_Lst_9 (by decide) (by decide) rfl rfl o1 rfl rfl d_Lst_init_8 ?_
  exact h
theorem c_Lst_init_1 {Ω : Om} {R R' : Room} {F : QF} {k n : Nat} {L st : List PV} {σ : Sto} {QX' : String → Sto → Prop} {Q : Sto → Prop} {a : Nat} (hc : MC Ω M_AbstractList_init R' (RV Q) QX' σ [xr (some a)]) (hr1 : R'.frames + 1 ≤ R.frames) (hr2 : 8 + (1 + 11) + R'.locals ≤ R.locals) (hb1 : k + R'.cells ≤ R.cells) (hb2 : n + R'.slots ≤ R.slots) (hst : (st.map catP).sum ≤ 8) (kk : ∀ σ', Q σ' → Aw Ω M_Lst_init R F (k + R'.cells) (n + R'.slots) 4 L st σ') (kx : ∀ E σ', QX' E σ' → Ax Ω M_Lst_init R F (k + R'.cells) (n + R'.slots) 1 L st σ' E) : Aw Ω M_Lst_init R F k n 1 L (xr (some a) :: st) σ :=
  Aw.callI (As := []) (stk := xr (some a) :: st) (nn := 0) M_AbstractList_init hc ok_AbstractList_init rfl rfl rfl im_AbstractList_init (Or.inl ml_Lst_1) ⟨hr1, hr2⟩ rfl ⟨hb1, hb2⟩ hst rfl d_Lst_init_1 (fun r σ' h => by obtain ⟨rfl, h⟩ := h; exact kk σ' h) kx
theorem r_Lst_init_11 {Ω : Om} {R : Room} {k n : Nat} {L : List PV} {σ : Sto} {QR : Option PV → Sto → Prop} {QX : String → Sto → Prop} (h : QR none σ) (h1 : k ≤ R.cells) (h2 : n ≤ R.slots) : Aw Ω M_Lst_init R (MF Ω R QR QX) k n 11 L [] σ := Aw.vret rfl h h1 h2 d_Lst_init_11
theorem e_Lst_clear {Ω : Om} {R : Room} {QR : Option PV → Sto → Prop} {QX : String → Sto → Prop} {σ : Sto} {a0 : Nat} (h : Aw Ω M_Lst_clear R (MF Ω R QR QX) 0 0 0 [xr (some a0), xu, xu, xu] [] σ) : MC Ω M_Lst_clear R QR QX σ [xr (some a0)] := MC.body (by decide +kernel) rfl (Nat.le_of_ble_eq_true rfl) rfl h
theorem b_Lst_clear_0 {Ω : Om} {R : Room} {F : QF} {k n : Nat} {σ : Sto} {a0 : Nat} (h : sK σ a0 = 14 ∧ (Q32 (fI σ 834 a0) → (∃ b4 : Nat, fR σ 832 a0 = some b4 ∧ (Q32 (fI (uI σ 834 a0 (wr ((fI σ 834 a0) + 1))) 833 a0) → Aw Ω M_Lst_clear R F k n 27 [xr (some a0), xr (some b4), xi (fI (uI σ 834 a0 (wr ((fI σ 834 a0) + 1))) 833 a0), xi 0] [] (uI (uI σ 834 a0 (wr ((fI σ 834 a0) + 1))) 833 a0 0))))) : Aw Ω M_Lst_clear R F k n 0 [xr (some a0), xu, xu, xu] [] σ := by
  refine Aw.aload_n rfl d_Lst_clear_0 ?_
  refine Aw.dup rfl d_Lst_clear_1 ?_
  obtain ⟨o1, h⟩ := h
  refine Aw.getI (f := 834) 13 2 fl_Lst_63 (by decide) (by decide) rfl rfl o1 d_Lst_clear_2 (fun r2 => ?_)
  have h := h r2
  refine Aw.iconst d_Lst_clear_5 ?_
  refine Aw.iadd d_Lst_clear_6 ?_
  refine Aw.wrap ?_
  have o3 := wr_q ((fI σ 834 a0) + 1)
  refine Aw.putI (f := 834) 13 2 fl_Lst_63 (by decide) (by decide) rfl rfl o1 rfl o3 (Or.inl rfl) d_Lst_clear_7 ?_
  refine Aw.aload_n rfl d_Lst_clear_10 ?_
  obtain ⟨b4, e5, h⟩ := h
  refine Aw.getRs (f := 832) 13 0 fl_Lst_9 (by decide) (by decide) rfl rfl o1 e5 d_Lst_clear_11 ?_
  refine Aw.astore_n (by decide) d_Lst_clear_14 ?_
  refine Aw.toL (L' := [xr (some a0), xr (some b4), xu, xu]) rfl ?_
  refine Aw.aload_n rfl d_Lst_clear_15 ?_
  refine Aw.getI (f := 833) 13 1 fl_Lst_48 (by decide) (by decide) rfl rfl o1 d_Lst_clear_16 (fun r6 => ?_)
  have h := h r6
  refine Aw.istore_n (by decide) d_Lst_clear_19 ?_
  refine Aw.toL (L' := [xr (some a0), xr (some b4), xi (fI (uI σ 834 a0 (wr ((fI σ 834 a0) + 1))) 833 a0), xu]) rfl ?_
  refine Aw.aload_n rfl d_Lst_clear_20 ?_
  refine Aw.iconst d_Lst_clear_21 ?_
  refine Aw.dup_x1 rfl rfl d_Lst_clear_22 ?_
  refine Aw.putI (f := 833) 13 1 fl_Lst_48 (by decide) (by decide) rfl rfl o1 rfl ⟨by decide, by decide⟩ (Or.inl rfl) d_Lst_clear_23 ?_
  refine Aw.istore_n (by decide) d_Lst_clear_26 ?_
  refine Aw.toL (L' := [xr (some a0), xr (some b4), xi (fI (uI σ 834 a0 (wr ((fI σ 834 a0) + 1))) 833 a0), xi 0]) rfl ?_
  exact h
theorem b_Lst_clear_27 {Ω : Om} {R : Room} {F : QF} {k n : Nat} {σ : Sto} {a0 : Nat} {a1 : Nat} {v2 : Int} {v3 : Int} (h : Q32 v3 ∧ Q32 v2 ∧ ((v2 ≤ v3 → Aw Ω M_Lst_clear R F k n 42 [xr (some a0), xr (some a1), xi v2, xi v3] [] σ) ∧ (¬ v2 ≤ v3 → sK σ a1 = 59 ∧ 0 ≤ v3 ∧ v3 < sZ σ a1 ∧ Aw Ω M_Lst_clear R F k n 27 [xr (some a0), xr (some a1), xi v2, xi (v3 + 1)] [] (vR σ a1 (v3).toNat none)))) : Aw Ω M_Lst_clear R F k n 27 [xr (some a0), xr (some a1), xi v2, xi v3] [] σ := by
  refine Aw.iload_n rfl d_Lst_clear_27 ?_
  refine Aw.iload_n rfl d_Lst_clear_28 ?_
  obtain ⟨o1, h⟩ := h
  obtain ⟨o2, h⟩ := h
  obtain ⟨ht, hf⟩ := h
  refine Aw.icmp_ge (tgt := 42) o1 o2 (by decide) d_Lst_clear_29 (fun c6 => ?_) (fun c6 => ?_)
  · have h := ht c6
    exact h
  · have h := hf c6
    refine Aw.aload_n rfl d_Lst_clear_32 ?_
    refine Aw.iload_n rfl d_Lst_clear_33 ?_
    refine Aw.null d_Lst_clear_34 ?_
    obtain ⟨o3, h⟩ := h
    obtain ⟨o4, o5, h⟩ := h
    refine Aw.aastN 9 (by decide) (by decide) o3 o4 o5 d_Lst_clear_35 ?_
    refine Aw.iinc rfl d_Lst_clear_36 ?_
    refine Aw.toL (L' := [xr (some a0), xr (some a1), xi v2, xi (v3 + 1)]) rfl ?_
    refine Aw.goto (tgt := 27) (by decide) d_Lst_clear_39 ?_
    exact h
theorem r_Lst_clear_42 {Ω : Om} {R : Room} {k n : Nat} {L : List PV} {σ : Sto} {QR : Option PV → Sto → Prop} {QX : String → Sto → Prop} (h : QR none σ) (h1 : k ≤ R.cells) (h2 : n ≤ R.slots) : Aw Ω M_Lst_clear R (MF Ω R QR QX) k n 42 L [] σ := Aw.vret rfl h h1 h2 d_Lst_clear_42
theorem e_Lst_add_0 {Ω : Om} {R : Room} {QR : Option PV → Sto → Prop} {QX : String → Sto → Prop} {σ : Sto} {a0 : Nat} {a1 : Nat} (h : Aw Ω M_Lst_add_0 R (MF Ω R QR QX) 0 0 0 [xr (some a0), xr (some a1)] [] σ) : MC Ω M_Lst_add_0 R QR QX σ [xr (some a0), xr (some a1)] := MC.body (by decide +kernel) rfl (Nat.le_of_ble_eq_true rfl) rfl h
theorem b_Lst_add_0_0 {Ω : Om} {R : Room} {F : QF} {k n : Nat} {σ : Sto} {a0 : Nat} {a1 : Nat} (h : sK σ a0 = 14 ∧ (Q32 (fI σ 834 a0) → (∃ b4 : Nat, fR σ 832 a0 = some b4 ∧ (Q32 (fI (uI σ 834 a0 (wr ((fI σ 834 a0) + 1))) 833 a0) → Aw Ω M_Lst_add_0 R F k n 20 [xr (some a0), xr (some a1)] [xi (fI (uI σ 834 a0 (wr ((fI σ 834 a0) + 1))) 833 a0), xr (some b4), xr (some a1), xr (some a0)] (uI σ 834 a0 (wr ((fI σ 834 a0) + 1))))))) : Aw Ω M_Lst_add_0 R F k n 0 [xr (some a0), xr (some a1)] [] σ := by
  refine Aw.aload_n rfl d_Lst_add_0_0 ?_
  refine Aw.dup rfl d_Lst_add_0_1 ?_
  obtain ⟨o1, h⟩ := h
  refine Aw.getI (f := 834) 13 2 fl_Lst_63 (by decide) (by decide) rfl rfl o1 d_Lst_add_0_2 (fun r2 => ?_)
  have h := h r2
  refine Aw.iconst d_Lst_add_0_5 ?_
  refine Aw.iadd d_Lst_add_0_6 ?_
  refine Aw.wrap ?_
  have o3 := wr_q ((fI σ 834 a0) + 1)
  refine Aw.putI (f := 834) 13 2 fl_Lst_63 (by decide) (by decide) rfl rfl o1 rfl o3 (Or.inl rfl) d_Lst_add_0_7 ?_
  refine Aw.aload_n rfl d_Lst_add_0_10 ?_
  refine Aw.aload_n rfl d_Lst_add_0_11 ?_
  refine Aw.aload_n rfl d_Lst_add_0_12 ?_
  obtain ⟨b4, e5, h⟩ := h
  refine Aw.getRs (f := 832) 13 0 fl_Lst_9 (by decide) (by decide) rfl rfl o1 e5 d_Lst_add_0_13 ?_
  refine Aw.aload_n rfl d_Lst_add_0_16 ?_
  refine Aw.getI (f := 833) 13 1 fl_Lst_48 (by decide) (by decide) rfl rfl o1 d_Lst_add_0_17 (fun r6 => ?_)
  have h := h r6
  exact h
theorem b_Lst_add_0_23 {Ω : Om} {R : Room} {F : QF} {k n : Nat} {σ : Sto} {a0 : Nat} {a1 : Nat} (h : Aw Ω M_Lst_add_0 R F k n 24 [xr (some a0), xr (some a1)] [xi 1] σ) : Aw Ω M_Lst_add_0 R F k n 23 [xr (some a0), xr (some a1)] [] σ := by
  refine Aw.iconst d_Lst_add_0_23 ?_
  exact h
theorem c_Lst_add_0_20 {Ω : Om} {R R' : Room} {F : QF} {k n : Nat} {L st : List PV} {σ : Sto} {QX' : String → Sto → Prop} {Q : Sto → Prop} {a : Nat} {x0 : Option Nat} {x1 : Option Nat} {x2 : Int} (hc : MC Ω M_Lst_add_1 R' (RV Q) QX' σ [xr (some a), xr x0, xr x1, xi x2]) (hk : sK σ a = 14) (hr1 : R'.frames + 1 ≤ R.frames) (hr2 : 8 + (4 + 11) + R'.locals ≤ R.locals) (hb1 : k + R'.cells ≤ R.cells) (hb2 : n + R'.slots ≤ R.slots) (hst : (st.map catP).sum ≤ 8) (kk : ∀ σ', Q σ' → Aw Ω M_Lst_add_0 R F (k + R'.cells) (n + R'.slots) 23 L st σ') (kx : ∀ E σ', QX' E σ' → Ax Ω M_Lst_add_0 R F (k + R'.cells) (n + R'.slots) 20 L st σ' E) : Aw Ω M_Lst_add_0 R F k n 20 L (xi x2 :: xr x1 :: xr x0 :: xr (some a) :: st) σ :=
  Aw.callV (As := [xr x0, xr x1, xi x2]) (stk := xi x2 :: xr x1 :: xr x0 :: xr (some a) :: st) (nn := 3) 13 M_Lst_add_1 hc ok_Lst_add_1 rfl (by decide) rfl hk ml_Lst_131 im_Lst_add_1 se_Lst_add_1 ⟨hr1, hr2⟩ rfl ⟨hb1, hb2⟩ hst rfl d_Lst_add_0_20 (fun r σ' h => by obtain ⟨rfl, h⟩ := h; exact kk σ' h) kx
theorem r_Lst_add_0_24 {Ω : Om} {R : Room} {k n : Nat} {L : List PV} {σ : Sto} {QR : Option PV → Sto → Prop} {QX : String → Sto → Prop} {x : Int} (hx : x = 0 ∨ x = 1) (h : QR (some (xi x)) σ) (h1 : k ≤ R.cells) (h2 : n ≤ R.slots) : Aw Ω M_Lst_add_0 R (MF Ω R QR QX) k n 24 L [xi x] σ := Aw.zret rfl hx h h1 h2 d_Lst_add_0_24
theorem e_Lst_add_1 {Ω : Om} {R : Room} {QR : Option PV → Sto → Prop} {QX : String → Sto → Prop} {σ : Sto} {a0 : Nat} {a1 : Nat} {a2 : Nat} {v3 : Int} (h : Aw Ω M_Lst_add_1 R (MF Ω R QR QX) 0 0 0 [xr (some a0), xr (some a1), xr (some a2), xi v3] [] σ) : MC Ω M_Lst_add_1 R QR QX σ [xr (some a0), xr (some a1), xr (some a2), xi v3] := MC.body (by decide +kernel) rfl (Nat.le_of_ble_eq_true rfl) rfl h
theorem b_Lst_add_1_0 {Ω : Om} {R : Room} {F : QF} {k n : Nat} {σ : Sto} {a0 : Nat} {a1 : Nat} {a2 : Nat} {v3 : Int} (h : sK σ a2 = 59 ∧ ((sZ σ a2 : Int) < 2147483648 → Q32 v3 ∧ Q32 (sZ σ a2 : Int) ∧ ((¬ v3 = (sZ σ a2 : Int) → 0 ≤ v3 ∧ v3 < sZ σ a2 ∧ sK σ a1 = 5 ∧ sK σ a0 = 14 ∧ Q32 (v3 + 1) ∧ Aw Ω M_Lst_add_1 R F k n 22 [xr (some a0), xr (some a1), xr (some a2), xi v3] [] (uI (vR σ a2 (v3).toNat (some a1)) 833 a0 (v3 + 1))) ∧ (v3 = (sZ σ a2 : Int) → Aw Ω M_Lst_add_1 R F k n 7 [xr (some a0), xr (some a1), xr (some a2), xi v3] [xr (some a0)] σ)))) : Aw Ω M_Lst_add_1 R F k n 0 [xr (some a0), xr (some a1), xr (some a2), xi v3] [] σ := by
  refine Aw.iload_n rfl d_Lst_add_1_0 ?_
  refine Aw.aload_n rfl d_Lst_add_1_1 ?_
  obtain ⟨o1, h⟩ := h
  refine Aw.alen 9 (by decide) o1 d_Lst_add_1_2 (fun r2 => ?_)
  have h := h r2
  obtain ⟨o3, h⟩ := h
  obtain ⟨o4, h⟩ := h
  obtain ⟨ht, hf⟩ := h
  refine Aw.icmp_ne (tgt := 11) o3 o4 (by decide) d_Lst_add_1_3 (fun c10 => ?_) (fun c10 => ?_)
  · have h := ht c10
    refine Aw.aload_n rfl d_Lst_add_1_11 ?_
    refine Aw.iload_n rfl d_Lst_add_1_12 ?_
    refine Aw.aload_n rfl d_Lst_add_1_13 ?_
    obtain ⟨o5, o6, h⟩ := h
    obtain ⟨o7, h⟩ := h
    refine Aw.aast 9 4 (by decide) (by decide) (by decide) (Or.inr cast_Edt) o1 o7 o5 o6 d_Lst_add_1_14 ?_
    refine Aw.aload_n rfl d_Lst_add_1_15 ?_
    refine Aw.iload_n rfl d_Lst_add_1_16 ?_
    refine Aw.iconst d_Lst_add_1_17 ?_
    refine Aw.iadd d_Lst_add_1_18 ?_
    obtain ⟨o8, h⟩ := h
    obtain ⟨o9, h⟩ := h
    refine Aw.putI (f := 833) 13 1 fl_Lst_48 (by decide) (by decide) rfl rfl o8 rfl o9 (Or.inl rfl) d_Lst_add_1_19 ?_
    exact h
  · have h := hf c10
    refine Aw.aload_n rfl d_Lst_add_1_6 ?_
    exact h
theorem b_Lst_add_1_10 {Ω : Om} {R : Room} {F : QF} {k n : Nat} {σ : Sto} {a0 : Nat} {a1 : Nat} {a2 : Nat} {v3 : Int} {s0 : Nat} (h : sK σ s0 = 59 ∧ 0 ≤ v3 ∧ v3 < sZ σ s0 ∧ sK σ a1 = 5 ∧ sK σ a0 = 14 ∧ Q32 (v3 + 1) ∧ Aw Ω M_Lst_add_1 R F k n 22 [xr (some a0), xr (some a1), xr (some s0), xi v3] [] (uI (vR σ s0 (v3).toNat (some a1)) 833 a0 (v3 + 1))) : Aw Ω M_Lst_add_1 R F k n 10 [xr (some a0), xr (some a1), xr (some a2), xi v3] [xr (some s0)] σ := by
  refine Aw.astore_n (by decide) d_Lst_add_1_10 ?_
  refine Aw.toL (L' := [xr (some a0), xr (some a1), xr (some s0), xi v3]) rfl ?_
  refine Aw.aload_n rfl d_Lst_add_1_11 ?_
  refine Aw.iload_n rfl d_Lst_add_1_12 ?_
  refine Aw.aload_n rfl d_Lst_add_1_13 ?_
  obtain ⟨o1, h⟩ := h
  obtain ⟨o2, o3, h⟩ := h
  obtain ⟨o4, h⟩ := h
  refine Aw.aast 9 4 (by decide) (by decide) (by decide) (Or.inr cast_Edt) o1 o4 o2 o3 d_Lst_add_1_14 ?_
  refine Aw.aload_n rfl d_Lst_add_1_15 ?_
  refine Aw.iload_n rfl d_Lst_add_1_16 ?_
  refine Aw.iconst d_Lst_add_1_17 ?_
  refine Aw.iadd d_Lst_add_1_18 ?_
  obtain ⟨o5, h⟩ := h
  obtain ⟨o6, h⟩ := h
  refine Aw.putI (f := 833) 13 1 fl_Lst_48 (by decide) (by decide) rfl rfl o5 rfl o6 (Or.inl rfl) d_Lst_add_1_19 ?_
  exact h
theorem c_Lst_add_1_7 {Ω : Om} {R R' : Room} {F : QF} {k n : Nat} {L st : List PV} {σ : Sto} {QX' : String → Sto → Prop} {Q : Option Nat → Sto → Prop} {a : Nat} (hc : MC Ω M_Lst_grow_0 R' (RR Q) QX' σ [xr (some a)]) (hk : sK σ a = 14) (hr1 : R'.frames + 1 ≤ R.frames) (hr2 : 8 + (1 + 11) + R'.locals ≤ R.locals) (hb1 : k + R'.cells ≤ R.cells) (hb2 : n + R'.slots ≤ R.slots) (hst : (st.map catP).sum ≤ 8) (kk : ∀ x σ', Q x σ' → Aw Ω M_Lst_add_1 R F (k + R'.cells) (n + R'.slots) 10 L (xr x :: st) σ') (kx : ∀ E σ', QX' E σ' → Ax Ω M_Lst_add_1 R F (k + R'.cells) (n + R'.slots) 7 L st σ' E) : Aw Ω M_Lst_add_1 R F k n 7 L (xr (some a) :: st) σ :=
  Aw.callV (As := []) (stk := xr (some a) :: st) (nn := 0) 13 M_Lst_grow_0 hc ok_Lst_grow_0 rfl (by decide) rfl hk ml_Lst_129 im_Lst_grow_0 se_Lst_grow_0 ⟨hr1, hr2⟩ rfl ⟨hb1, hb2⟩ hst rfl d_Lst_add_1_7 (fun r σ' h => by obtain ⟨x, rfl, h⟩ := h; exact kk x σ' h) kx
theorem r_Lst_add_1_22 {Ω : Om} {R : Room} {k n : Nat} {L : List PV} {σ : Sto} {QR : Option PV → Sto → Prop} {QX : String → Sto → Prop} (h : QR none σ) (h1 : k ≤ R.cells) (h2 : n ≤ R.slots) : Aw Ω M_Lst_add_1 R (MF Ω R QR QX) k n 22 L [] σ := Aw.vret rfl h h1 h2 d_Lst_add_1_22
theorem e_Lst_grow_0 {Ω : Om} {R : Room} {QR : Option PV → Sto → Prop} {QX : String → Sto → Prop} {σ : Sto} {a0 : Nat} (h : Aw Ω M_Lst_grow_0 R (MF Ω R QR QX) 0 0 0 [xr (some a0)] [] σ) : MC Ω M_Lst_grow_0 R QR QX σ [xr (some a0)] := MC.body (by decide +kernel) rfl (Nat.le_of_ble_eq_true rfl) rfl h
theorem b_Lst_grow_0_0 {Ω : Om} {R : Room} {F : QF} {k n : Nat} {σ : Sto} {a0 : Nat} (h : sK σ a0 = 14 ∧ (Q32 (fI σ 833 a0) → Aw Ω M_Lst_grow_0 R F k n 7 [xr (some a0)] [xi ((fI σ 833 a0) + 1), xr (some a0)] σ)) : Aw Ω M_Lst_grow_0 R F k n 0 [xr (some a0)] [] σ := by
  refine Aw.aload_n rfl d_Lst_grow_0_0 ?_
  refine Aw.aload_n rfl d_Lst_grow_0_1 ?_
  obtain ⟨o1, h⟩ := h
  refine Aw.getI (f := 833) 13 1 fl_Lst_48 (by decide) (by decide) rfl rfl o1 d_Lst_grow_0_2 (fun r2 => ?_)
  have h := h r2
  refine Aw.iconst d_Lst_grow_0_5 ?_
  refine Aw.iadd d_Lst_grow_0_6 ?_
  exact h
theorem c_Lst_grow_0_7 {Ω : Om} {R R' : Room} {F : QF} {k n : Nat} {L st : List PV} {σ : Sto} {QX' : String → Sto → Prop} {Q : Option Nat → Sto → Prop} {a : Nat} {x0 : Int} (hc : MC Ω M_Lst_grow_1 R' (RR Q) QX' σ [xr (some a), xi x0]) (hk : sK σ a = 14) (hr1 : R'.frames + 1 ≤ R.frames) (hr2 : 8 + (4 + 11) + R'.locals ≤ R.locals) (hb1 : k + R'.cells ≤ R.cells) (hb2 : n + R'.slots ≤ R.slots) (hst : (st.map catP).sum ≤ 8) (kk : ∀ x σ', Q x σ' → Aw Ω M_Lst_grow_0 R F (k + R'.cells) (n + R'.slots) 10 L (xr x :: st) σ') (kx : ∀ E σ', QX' E σ' → Ax Ω M_Lst_grow_0 R F (k + R'.cells) (n + R'.slots) 7 L st σ' E) : Aw Ω M_Lst_grow_0 R F k n 7 L (xi x0 :: xr (some a) :: st) σ :=
  Aw.callV (As := [xi x0]) (stk := xi x0 :: xr (some a) :: st) (nn := 1) 13 M_Lst_grow_1 hc ok_Lst_grow_1 rfl (by decide) rfl hk ml_Lst_69 im_Lst_grow_1 se_Lst_grow_1 ⟨hr1, hr2⟩ rfl ⟨hb1, hb2⟩ hst rfl d_Lst_grow_0_7 (fun r σ' h => by obtain ⟨x, rfl, h⟩ := h; exact kk x σ' h) kx
theorem r_Lst_grow_0_10 {Ω : Om} {R : Room} {k n : Nat} {L : List PV} {σ : Sto} {QR : Option PV → Sto → Prop} {QX : String → Sto → Prop} {x : Option Nat} (h : QR (some (xr x)) σ) (h1 : k ≤ R.cells) (h2 : n ≤ R.slots) : Aw Ω M_Lst_grow_0 R (MF Ω R QR QX) k n 10 L [xr x] σ := Aw.aret rfl (by first | exact Or.inl ⟨_, rfl⟩ | exact Or.inr ⟨_, rfl⟩) h h1 h2 d_Lst_grow_0_10
theorem e_Lst_grow_1 {Ω : Om} {R : Room} {QR : Option PV → Sto → Prop} {QX : String → Sto → Prop} {σ : Sto} {a0 : Nat} {v1 : Int} (h : Aw Ω M_Lst_grow_1 R (MF Ω R QR QX) 0 0 0 [xr (some a0), xi v1, xu, xu] [] σ) : MC Ω M_Lst_grow_1 R QR QX σ [xr (some a0), xi v1] := MC.body (by decide +kernel) rfl (Nat.le_of_ble_eq_true rfl) rfl h
theorem b_Lst_grow_1_0 {Ω : Om} {R : Room} {F : QF} {k n : Nat} {σ : Sto} {a0 : Nat} {v1 : Int} (h : sK σ a0 = 14 ∧ (∃ b2 : Nat, fR σ 832 a0 = some b2 ∧ sK σ b2 = 59 ∧ ((sZ σ b2 : Int) < 2147483648 → Q32 (sZ σ b2 : Int) ∧ (((0 : Int) < (sZ σ b2 : Int) → Aw Ω M_Lst_grow_1 R F k n 27 [xr (some a0), xi v1, xi (sZ σ b2 : Int), xu] [xi (bShr (sZ σ b2 : Int) 1), xi (v1 - (sZ σ b2 : Int)), xi (sZ σ b2 : Int)] σ) ∧ (¬ (0 : Int) < (sZ σ b2 : Int) → Aw Ω M_Lst_grow_1 R F k n 14 [xr (some a0), xi v1, xi (sZ σ b2 : Int), xu] [xr (some b2)] σ))))) : Aw Ω M_Lst_grow_1 R F k n 0 [xr (some a0), xi v1, xu, xu] [] σ := by
  refine Aw.aload_n rfl d_Lst_grow_1_0 ?_
  obtain ⟨o1, h⟩ := h
  obtain ⟨b2, e3, h⟩ := h
  refine Aw.getRs (f := 832) 13 0 fl_Lst_9 (by decide) (by decide) rfl rfl o1 e3 d_Lst_grow_1_1 ?_
  obtain ⟨o4, h⟩ := h
  refine Aw.alen 9 (by decide) o4 d_Lst_grow_1_4 (fun r5 => ?_)
  have h := h r5
  refine Aw.istore_n (by decide) d_Lst_grow_1_5 ?_
  refine Aw.toL (L' := [xr (some a0), xi v1, xi (sZ σ b2 : Int), xu]) rfl ?_
  refine Aw.iload_n rfl d_Lst_grow_1_6 ?_
  obtain ⟨o6, h⟩ := h
  obtain ⟨ht, hf⟩ := h
  refine Aw.if_gt (tgt := 20) o6 (by decide) d_Lst_grow_1_7 (fun c7 => ?_) (fun c7 => ?_)
  · have h := ht c7
    refine Aw.iload_n rfl d_Lst_grow_1_20 ?_
    refine Aw.iload_n rfl d_Lst_grow_1_21 ?_
    refine Aw.iload_n rfl d_Lst_grow_1_22 ?_
    refine Aw.isub d_Lst_grow_1_23 ?_
    refine Aw.iload_n rfl d_Lst_grow_1_24 ?_
    refine Aw.iconst d_Lst_grow_1_25 ?_
    refine Aw.ishr d_Lst_grow_1_26 ?_
    exact h
  · have h := hf c7
    refine Aw.aload_n rfl d_Lst_grow_1_10 ?_
    refine Aw.getRs (f := 832) 13 0 fl_Lst_9 (by decide) (by decide) rfl rfl o1 e3 d_Lst_grow_1_11 ?_
    exact h
theorem b_Lst_grow_1_17 {Ω : Om} {R : Room} {F : QF} {k n : Nat} {σ : Sto} {a0 : Nat} {v1 : Int} {v2 : Int} {s0 : Nat} {s1 : Nat} (h : (((some s0) = (some s1) → Q32 10 ∧ Q32 v1 ∧ 1 ≤ R.frames ∧ ([xr (some a0)].map catP).sum + 13 ≤ R.locals ∧ k ≤ R.cells ∧ n ≤ R.slots ∧ 0 ≤ (maxI 10 v1) ∧ (maxI 10 v1) ≤ 60000000 ∧ k + 1 ≤ R.cells ∧ n + (maxI 10 v1).toNat ≤ R.slots ∧ (∀ σ11 : Sto, σ11 = (nO σ 59 (maxI 10 v1).toNat) → sK σ11 a0 = 14 ∧ Aw Ω M_Lst_grow_1 R F (k + 1) (n + (maxI 10 v1).toNat) 59 [xr (some a0), xi v1, xi v2, xu] [xr (some (sN σ))] (uR σ11 832 a0 (some (sN σ))))) ∧ (¬ (some s0) = (some s1) → Aw Ω M_Lst_grow_1 R F k n 27 [xr (some a0), xi v1, xi v2, xu] [xi (bShr v2 1), xi (v1 - v2), xi v2] σ))) : Aw Ω M_Lst_grow_1 R F k n 17 [xr (some a0), xi v1, xi v2, xu] [xr (some s1), xr (some s0)] σ := by
  obtain ⟨ht, hf⟩ := h
  refine Aw.acmp_eq (tgt := 45) (by decide) d_Lst_grow_1_17 (fun c13 => ?_) (fun c13 => ?_)
  · have h := ht c13
    refine Aw.aload_n rfl d_Lst_grow_1_45 ?_
    refine Aw.bipush (by decide) d_Lst_grow_1_46 ?_
    refine Aw.iload_n rfl d_Lst_grow_1_48 ?_
    obtain ⟨o1, o2, o3, o4, o5, o6, h⟩ := h
    refine Aw.mmax o1 o2 ml_Lst_79 mth_max_1 mth_ini mth_max_2 o3 o4 o5 o6 d_Lst_grow_1_49 ?_
    obtain ⟨o7, o8, o9, o10, h⟩ := h
    refine Aw.anew 9 (by decide) (by decide) cl_Lst_7 aov_9 o7 o8 o9 o10 d_Lst_grow_1_52 ?_
    obtain ⟨σ11, hσ11⟩ : ∃ z, z = (nO σ 59 (maxI 10 v1).toNat) := ⟨_, rfl⟩
    refine Aw.toS (σ' := σ11) hσ11 ?_
    have h := h σ11 hσ11
    refine Aw.dup_x1 rfl rfl d_Lst_grow_1_55 ?_
    obtain ⟨o12, h⟩ := h
    refine Aw.putR (f := 832) 13 0 fl_Lst_9 (by decide) (by decide) rfl rfl o12 rfl rfl d_Lst_grow_1_56 ?_
    exact h
  · have h := hf c13
    refine Aw.iload_n rfl d_Lst_grow_1_20 ?_
    refine Aw.iload_n rfl d_Lst_grow_1_21 ?_
    refine Aw.iload_n rfl d_Lst_grow_1_22 ?_
    refine Aw.isub d_Lst_grow_1_23 ?_
    refine Aw.iload_n rfl d_Lst_grow_1_24 ?_
    refine Aw.iconst d_Lst_grow_1_25 ?_
    refine Aw.ishr d_Lst_grow_1_26 ?_
    exact h
theorem b_Lst_grow_1_30 {Ω : Om} {R : Room} {F : QF} {k n : Nat} {σ : Sto} {a0 : Nat} {v1 : Int} {v2 : Int} {s0 : Int} (h : sK σ a0 = 14 ∧ (∃ b2 : Nat, fR σ 832 a0 = some b2 ∧ Aw Ω M_Lst_grow_1 R F k n 37 [xr (some a0), xi v1, xi v2, xi s0] [xi s0, xr (some b2), xr (some a0)] σ)) : Aw Ω M_Lst_grow_1 R F k n 30 [xr (some a0), xi v1, xi v2, xu] [xi s0] σ := by
  refine Aw.istore_n (by decide) d_Lst_grow_1_30 ?_
  refine Aw.toL (L' := [xr (some a0), xi v1, xi v2, xi s0]) rfl ?_
  refine Aw.aload_n rfl d_Lst_grow_1_31 ?_
  refine Aw.aload_n rfl d_Lst_grow_1_32 ?_
  obtain ⟨o1, h⟩ := h
  obtain ⟨b2, e3, h⟩ := h
  refine Aw.getRs (f := 832) 13 0 fl_Lst_9 (by decide) (by decide) rfl rfl o1 e3 d_Lst_grow_1_33 ?_
  refine Aw.iload_n rfl d_Lst_grow_1_36 ?_
  exact h
theorem b_Lst_grow_1_40 {Ω : Om} {R : Room} {F : QF} {k n : Nat} {σ : Sto} {a0 : Nat} {v1 : Int} {v2 : Int} {v3 : Int} {s0 : Nat} {s1 : Nat} (h : sK σ s0 = 14 ∧ Aw Ω M_Lst_grow_1 R F k n 44 [xr (some a0), xi v1, xi v2, xi v3] [xr (some s1)] (uR σ 832 s0 (some s1))) : Aw Ω M_Lst_grow_1 R F k n 40 [xr (some a0), xi v1, xi v2, xi v3] [xr (some s1), xr (some s0)] σ := by
  refine Aw.dup_x1 rfl rfl d_Lst_grow_1_40 ?_
  obtain ⟨o1, h⟩ := h
  refine Aw.putR (f := 832) 13 0 fl_Lst_9 (by decide) (by decide) rfl rfl o1 rfl rfl d_Lst_grow_1_41 ?_
  exact h
theorem c_Lst_grow_1_27 {Ω : Om} {R R' : Room} {F : QF} {k n : Nat} {L st : List PV} {σ : Sto} {QX' : String → Sto → Prop} {Q : Int → Sto → Prop} {x0 : Int} {x1 : Int} {x2 : Int} (hc : MC Ω M_ArraysSupport_newLength R' (RI Q) QX' σ [xi x0, xi x1, xi x2]) (hr1 : R'.frames + 1 ≤ R.frames) (hr2 : 8 + (4 + 11) + R'.locals ≤ R.locals) (hb1 : k + R'.cells ≤ R.cells) (hb2 : n + R'.slots ≤ R.slots) (hst : (st.map catP).sum ≤ 8) (kk : ∀ x σ', Q x σ' → Aw Ω M_Lst_grow_1 R F (k + R'.cells) (n + R'.slots) 30 L (xi x :: st) σ') (kx : ∀ E σ', QX' E σ' → Ax Ω M_Lst_grow_1 R F (k + R'.cells) (n + R'.slots) 27 L st σ' E) : Aw Ω M_Lst_grow_1 R F k n 27 L (xi x2 :: xi x1 :: xi x0 :: st) σ :=
  Aw.callS (As := [xi x0, xi x1, xi x2]) (stk := xi x2 :: xi x1 :: xi x0 :: st) (nn := 3) M_ArraysSupport_newLength hc ok_ArraysSupport_newLength rfl ml_Lst_73 sta_ArraysSupport_newLength ⟨hr1, hr2⟩ rfl ⟨hb1, hb2⟩ hst rfl d_Lst_grow_1_27 (fun r σ' h => by obtain ⟨x, rfl, h⟩ := h; exact kk x σ' h) kx
theorem c_Lst_grow_1_37 {Ω : Om} {R R' : Room} {F : QF} {k n : Nat} {L st : List PV} {σ : Sto} {QX' : String → Sto → Prop} {Q : Option Nat → Sto → Prop} {x0 : Option Nat} {x1 : Int} (hc : MC Ω M_Arrays_copyOf_0 R' (RR Q) QX' σ [xr x0, xi x1]) (hr1 : R'.frames + 1 ≤ R.frames) (hr2 : 8 + (2 + 11) + R'.locals ≤ R.locals) (hb1 : k + R'.cells ≤ R.cells) (hb2 : n + R'.slots ≤ R.slots) (hst : (st.map catP).sum ≤ 8) (kk : ∀ x σ', Q x σ' → Aw Ω M_Lst_grow_1 R F (k + R'.cells) (n + R'.slots) 40 L (xr x :: st) σ') (kx : ∀ E σ', QX' E σ' → Ax Ω M_Lst_grow_1 R F (k + R'.cells) (n + R'.slots) 37 L st σ' E) : Aw Ω M_Lst_grow_1 R F k n 37 L (xi x1 :: xr x0 :: st) σ :=
  Aw.callS (As := [xr x0, xi x1]) (stk := xi x1 :: xr x0 :: st) (nn := 2) M_Arrays_copyOf_0 hc ok_Arrays_copyOf_0 rfl ml_Lst_66 sta_Arrays_copyOf_0 ⟨hr1, hr2⟩ rfl ⟨hb1, hb2⟩ hst rfl d_Lst_grow_1_37 (fun r σ' h => by obtain ⟨x, rfl, h⟩ := h; exact kk x σ' h) kx
theorem r_Lst_grow_1_44 {Ω : Om} {R : Room} {k n : Nat} {L : List PV} {σ : Sto} {QR : Option PV → Sto → Prop} {QX : String → Sto → Prop} {x : Option Nat} (h : QR (some (xr x)) σ) (h1 : k ≤ R.cells) (h2 : n ≤ R.slots) : Aw Ω M_Lst_grow_1 R (MF Ω R QR QX) k n 44 L [xr x] σ := Aw.aret rfl (by first | exact Or.inl ⟨_, rfl⟩ | exact Or.inr ⟨_, rfl⟩) h h1 h2 d_Lst_grow_1_44
theorem r_Lst_grow_1_59 {Ω : Om} {R : Room} {k n : Nat} {L : List PV} {σ : Sto} {QR : Option PV → Sto → Prop} {QX : String → Sto → Prop} {x : Option Nat} (h : QR (some (xr x)) σ) (h1 : k ≤ R.cells) (h2 : n ≤ R.slots) : Aw Ω M_Lst_grow_1 R (MF Ω R QR QX) k n 59 L [xr x] σ := Aw.aret rfl (by first | exact Or.inl ⟨_, rfl⟩ | exact Or.inr ⟨_, rfl⟩) h h1 h2 d_Lst_grow_1_59
theorem e_Lst_size {Ω : Om} {R : Room} {QR : Option PV → Sto → Prop} {QX : String → Sto → Prop} {σ : Sto} {a0 : Nat} (h : Aw Ω M_Lst_size R (MF Ω R QR QX) 0 0 0 [xr (some a0)] [] σ) : MC Ω M_Lst_size R QR QX σ [xr (some a0)] := MC.body (by decide +kernel) rfl (Nat.le_of_ble_eq_true rfl) rfl h
theorem b_Lst_size_0 {Ω : Om} {R : Room} {F : QF} {k n : Nat} {σ : Sto} {a0 : Nat} (h : sK σ a0 = 14 ∧ (Q32 (fI σ 833 a0) → Aw Ω M_Lst_size R F k n 4 [xr (some a0)] [xi (fI σ 833 a0)] σ)) : Aw Ω M_Lst_size R F k n 0 [xr (some a0)] [] σ := by
  refine Aw.aload_n rfl d_Lst_size_0 ?_
  obtain ⟨o1, h⟩ := h
  refine Aw.getI (f := 833) 13 1 fl_Lst_48 (by decide) (by decide) rfl rfl o1 d_Lst_size_1 (fun r2 => ?_)
  have h := h r2
  exact h
theorem r_Lst_size_4 {Ω : Om} {R : Room} {k n : Nat} {L : List PV} {σ : Sto} {QR : Option PV → Sto → Prop} {QX : String → Sto → Prop} {x : Int} (h : QR (some (xi x)) σ) (h1 : k ≤ R.cells) (h2 : n ≤ R.slots) : Aw Ω M_Lst_size R (MF Ω R QR QX) k n 4 L [xi x] σ := Aw.iret rfl h h1 h2 d_Lst_size_4
theorem e_Lst_isEmpty {Ω : Om} {R : Room} {QR : Option PV → Sto → Prop} {QX : String → Sto → Prop} {σ : Sto} {a0 : Nat} (h : Aw Ω M_Lst_isEmpty R (MF Ω R QR QX) 0 0 0 [xr (some a0)] [] σ) : MC Ω M_Lst_isEmpty R QR QX σ [xr (some a0)] := MC.body (by decide +kernel) rfl (Nat.le_of_ble_eq_true rfl) rfl h
theorem b_Lst_isEmpty_0 {Ω : Om} {R : Room} {F : QF} {k n : Nat} {σ : Sto} {a0 : Nat} (h : sK σ a0 = 14 ∧ (Q32 (fI σ 833 a0) → ((¬ (fI σ 833 a0) = (0 : Int) → Aw Ω M_Lst_isEmpty R F k n 12 [xr (some a0)] [xi 0] σ) ∧ ((fI σ 833 a0) = (0 : Int) → Aw Ω M_Lst_isEmpty R F k n 12 [xr (some a0)] [xi 1] σ)))) : Aw Ω M_Lst_isEmpty R F k n 0 [xr (some a0)] [] σ := by
  refine Aw.aload_n rfl d_Lst_isEmpty_0 ?_
  obtain ⟨o1, h⟩ := h
  refine Aw.getI (f := 833) 13 1 fl_Lst_48 (by decide) (by decide) rfl rfl o1 d_Lst_isEmpty_1 (fun r2 => ?_)
  have h := h r2
  obtain ⟨ht, hf⟩ := h
  refine Aw.if_ne (tgt := 11) r2 (by decide) d_Lst_isEmpty_4 (fun c3 => ?_) (fun c3 => ?_)
  · have h := ht c3
    refine Aw.iconst d_Lst_isEmpty_11 ?_
    exact h
  · have h := hf c3
    refine Aw.iconst d_Lst_isEmpty_7 ?_
    refine Aw.goto (tgt := 12) (by decide) d_Lst_isEmpty_8 ?_
    exact h
theorem r_Lst_isEmpty_12 {Ω : Om} {R : Room} {k n : Nat} {L : List PV} {σ : Sto} {QR : Option PV → Sto → Prop} {QX : String → Sto → Prop} {x : Int} (hx : x = 0 ∨ x = 1) (h : QR (some (xi x)) σ) (h1 : k ≤ R.cells) (h2 : n ≤ R.slots) : Aw Ω M_Lst_isEmpty R (MF Ω R QR QX) k n 12 L [xi x] σ := Aw.zret rfl hx h h1 h2 d_Lst_isEmpty_12
theorem e_Lst_remove {Ω : Om} {R : Room} {QR : Option PV → Sto → Prop} {QX : String → Sto → Prop} {σ : Sto} {a0 : Nat} {v1 : Int} (h : Aw Ω M_Lst_remove R (MF Ω R QR QX) 0 0 0 [xr (some a0), xi v1, xu, xu] [] σ) : MC Ω M_Lst_remove R QR QX σ [xr (some a0), xi v1] := MC.body (by decide +kernel) rfl (Nat.le_of_ble_eq_true rfl) rfl h
theorem b_Lst_remove_0 {Ω : Om} {R : Room} {F : QF} {k n : Nat} {σ : Sto} {a0 : Nat} {v1 : Int} (h : sK σ a0 = 14 ∧ (Q32 (fI σ 833 a0) → Aw Ω M_Lst_remove R F k n 5 [xr (some a0), xi v1, xu, xu] [xi (fI σ 833 a0), xi v1] σ)) : Aw Ω M_Lst_remove R F k n 0 [xr (some a0), xi v1, xu, xu] [] σ := by
  refine Aw.iload_n rfl d_Lst_remove_0 ?_
  refine Aw.aload_n rfl d_Lst_remove_1 ?_
  obtain ⟨o1, h⟩ := h
  refine Aw.getI (f := 833) 13 1 fl_Lst_48 (by decide) (by decide) rfl rfl o1 d_Lst_remove_2 (fun r2 => ?_)
  have h := h r2
  exact h
theorem b_Lst_remove_8 {Ω : Om} {R : Room} {F : QF} {k n : Nat} {σ : Sto} {a0 : Nat} {v1 : Int} {s0 : Int} (h : sK σ a0 = 14 ∧ (∃ b2 : Nat, fR σ 832 a0 = some b2 ∧ sK σ b2 = 59 ∧ 0 ≤ v1 ∧ v1 < sZ σ b2 ∧ Aw Ω M_Lst_remove R F k n 21 [xr (some a0), xi v1, xr (some b2), xr (aR σ b2 (v1).toNat)] [xi v1, xr (some b2), xr (some a0)] σ)) : Aw Ω M_Lst_remove R F k n 8 [xr (some a0), xi v1, xu, xu] [xi s0] σ := by
  refine Aw.pop rfl d_Lst_remove_8 ?_
  refine Aw.aload_n rfl d_Lst_remove_9 ?_
  obtain ⟨o1, h⟩ := h
  obtain ⟨b2, e3, h⟩ := h
  refine Aw.getRs (f := 832) 13 0 fl_Lst_9 (by decide) (by decide) rfl rfl o1 e3 d_Lst_remove_10 ?_
  refine Aw.astore_n (by decide) d_Lst_remove_13 ?_
  refine Aw.toL (L' := [xr (some a0), xi v1, xr (some b2), xu]) rfl ?_
  refine Aw.aload_n rfl d_Lst_remove_14 ?_
  refine Aw.iload_n rfl d_Lst_remove_15 ?_
  obtain ⟨o4, h⟩ := h
  obtain ⟨o5, o6, h⟩ := h
  refine Aw.aald 9 (by decide) (by decide) o4 o5 o6 d_Lst_remove_16 ?_
  refine Aw.astore_n (by decide) d_Lst_remove_17 ?_
  refine Aw.toL (L' := [xr (some a0), xi v1, xr (some b2), xr (aR σ b2 (v1).toNat)]) rfl ?_
  refine Aw.aload_n rfl d_Lst_remove_18 ?_
  refine Aw.aload_n rfl d_Lst_remove_19 ?_
  refine Aw.iload_n rfl d_Lst_remove_20 ?_
  exact h
theorem b_Lst_remove_24 {Ω : Om} {R : Room} {F : QF} {k n : Nat} {σ : Sto} {a0 : Nat} {v1 : Int} {a2 : Nat} {a3 : Nat} (h : Aw Ω M_Lst_remove R F k n 25 [xr (some a0), xi v1, xr (some a2), xr (some a3)] [xr (some a3)] σ) : Aw Ω M_Lst_remove R F k n 24 [xr (some a0), xi v1, xr (some a2), xr (some a3)] [] σ := by
  refine Aw.aload_n rfl d_Lst_remove_24 ?_
  exact h
theorem c_Lst_remove_5 {Ω : Om} {R R' : Room} {F : QF} {k n : Nat} {L st : List PV} {σ : Sto} {QX' : String → Sto → Prop} {Q : Int → Sto → Prop} {x0 : Int} {x1 : Int} (hc : MC Ω M_Objects_checkIndex R' (RI Q) QX' σ [xi x0, xi x1]) (hr1 : R'.frames + 1 ≤ R.frames) (hr2 : 8 + (2 + 11) + R'.locals ≤ R.locals) (hb1 : k + R'.cells ≤ R.cells) (hb2 : n + R'.slots ≤ R.slots) (hst : (st.map catP).sum ≤ 8) (kk : ∀ x σ', Q x σ' → Aw Ω M_Lst_remove R F (k + R'.cells) (n + R'.slots) 8 L (xi x :: st) σ') (kx : ∀ E σ', QX' E σ' → Ax Ω M_Lst_remove R F (k + R'.cells) (n + R'.slots) 5 L st σ' E) : Aw Ω M_Lst_remove R F k n 5 L (xi x1 :: xi x0 :: st) σ :=
  Aw.callS (As := [xi x0, xi x1]) (stk := xi x1 :: xi x0 :: st) (nn := 2) M_Objects_checkIndex hc ok_Objects_checkIndex rfl ml_Lst_118 sta_Objects_checkIndex ⟨hr1, hr2⟩ rfl ⟨hb1, hb2⟩ hst rfl d_Lst_remove_5 (fun r σ' h => by obtain ⟨x, rfl, h⟩ := h; exact kk x σ' h) kx
theorem c_Lst_remove_21 {Ω : Om} {R R' : Room} {F : QF} {k n : Nat} {L st : List PV} {σ : Sto} {QX' : String → Sto → Prop} {Q : Sto → Prop} {a : Nat} {x0 : Option Nat} {x1 : Int} (hc : MC Ω M_Lst_fastRemove R' (RV Q) QX' σ [xr (some a), xr x0, xi x1]) (hk : sK σ a = 14) (hr1 : R'.frames + 1 ≤ R.frames) (hr2 : 8 + (4 + 11) + R'.locals ≤ R.locals) (hb1 : k + R'.cells ≤ R.cells) (hb2 : n + R'.slots ≤ R.slots) (hst : (st.map catP).sum ≤ 8) (kk : ∀ σ', Q σ' → Aw Ω M_Lst_remove R F (k + R'.cells) (n + R'.slots) 24 L st σ') (kx : ∀ E σ', QX' E σ' → Ax Ω M_Lst_remove R F (k + R'.cells) (n + R'.slots) 21 L st σ' E) : Aw Ω M_Lst_remove R F k n 21 L (xi x1 :: xr x0 :: xr (some a) :: st) σ :=
  Aw.callV (As := [xr x0, xi x1]) (stk := xi x1 :: xr x0 :: xr (some a) :: st) (nn := 2) 13 M_Lst_fastRemove hc ok_Lst_fastRemove rfl (by decide) rfl hk ml_Lst_144 im_Lst_fastRemove se_Lst_fastRemove ⟨hr1, hr2⟩ rfl ⟨hb1, hb2⟩ hst rfl d_Lst_remove_21 (fun r σ' h => by obtain ⟨rfl, h⟩ := h; exact kk σ' h) kx
theorem r_Lst_remove_25 {Ω : Om} {R : Room} {k n : Nat} {L : List PV} {σ : Sto} {QR : Option PV → Sto → Prop} {QX : String → Sto → Prop} {x : Option Nat} (h : QR (some (xr x)) σ) (h1 : k ≤ R.cells) (h2 : n ≤ R.slots) : Aw Ω M_Lst_remove R (MF Ω R QR QX) k n 25 L [xr x] σ := Aw.aret rfl (by first | exact Or.inl ⟨_, rfl⟩ | exact Or.inr ⟨_, rfl⟩) h h1 h2 d_Lst_remove_25
theorem e_Objects_checkIndex {Ω : Om} {R : Room} {QR : Option PV → Sto → Prop} {QX : String → Sto → Prop} {σ : Sto} {v0 : Int} {v1 : Int} (h : Aw Ω M_Objects_checkIndex R (MF Ω R QR QX) 0 0 0 [xi v0, xi v1] [] σ) : MC Ω M_Objects_checkIndex R QR QX σ [xi v0, xi v1] := MC.body (by decide +kernel) rfl (Nat.le_of_ble_eq_true rfl) rfl h
theorem b_Objects_checkIndex_0 {Ω : Om} {R : Room} {F : QF} {k n : Nat} {σ : Sto} {v0 : Int} {v1 : Int} (h : Aw Ω M_Objects_checkIndex R F k n 3 [xi v0, xi v1] [xr none, xi v1, xi v0] σ) : Aw Ω M_Objects_checkIndex R F k n 0 [xi v0, xi v1] [] σ := by
  refine Aw.iload_n rfl d_Objects_checkIndex_0 ?_
  refine Aw.iload_n rfl d_Objects_checkIndex_1 ?_
  refine Aw.null d_Objects_checkIndex_2 ?_
  exact h
theorem c_Objects_checkIndex_3 {Ω : Om} {R R' : Room} {F : QF} {k n : Nat} {L st : List PV} {σ : Sto} {QX' : String → Sto → Prop} {Q : Int → Sto → Prop} {x0 : Int} {x1 : Int} {x2 : Option Nat} (hc : MC Ω M_Preconditions_checkIndex R' (RI Q) QX' σ [xi x0, xi x1, xr x2]) (hr1 : R'.frames + 1 ≤ R.frames) (hr2 : 8 + (3 + 11) + R'.locals ≤ R.locals) (hb1 : k + R'.cells ≤ R.cells) (hb2 : n + R'.slots ≤ R.slots) (hst : (st.map catP).sum ≤ 8) (kk : ∀ x σ', Q x σ' → Aw Ω M_Objects_checkIndex R F (k + R'.cells) (n + R'.slots) 6 L (xi x :: st) σ') (kx : ∀ E σ', QX' E σ' → Ax Ω M_Objects_checkIndex R F (k + R'.cells) (n + R'.slots) 3 L st σ' E) : Aw Ω M_Objects_checkIndex R F k n 3 L (xr x2 :: xi x1 :: xi x0 :: st) σ :=
  Aw.callS (As := [xi x0, xi x1, xr x2]) (stk := xr x2 :: xi x1 :: xi x0 :: st) (nn := 3) M_Preconditions_checkIndex hc ok_Preconditions_checkIndex rfl ml_Objects_105 sta_Preconditions_checkIndex ⟨hr1, hr2⟩ rfl ⟨hb1, hb2⟩ hst rfl d_Objects_checkIndex_3 (fun r σ' h => by obtain ⟨x, rfl, h⟩ := h; exact kk x σ' h) kx
theorem r_Objects_checkIndex_6 {Ω : Om} {R : Room} {k n : Nat} {L : List PV} {σ : Sto} {QR : Option PV → Sto → Prop} {QX : String → Sto → Prop} {x : Int} (h : QR (some (xi x)) σ) (h1 : k ≤ R.cells) (h2 : n ≤ R.slots) : Aw Ω M_Objects_checkIndex R (MF Ω R QR QX) k n 6 L [xi x] σ := Aw.iret rfl h h1 h2 d_Objects_checkIndex_6
theorem e_Lst_fastRemove {Ω : Om} {R : Room} {QR : Option PV → Sto → Prop} {QX : String → Sto → Prop} {σ : Sto} {a0 : Nat} {a1 : Nat} {v2 : Int} (h : Aw Ω M_Lst_fastRemove R (MF Ω R QR QX) 0 0 0 [xr (some a0), xr (some a1), xi v2, xu] [] σ) : MC Ω M_Lst_fastRemove R QR QX σ [xr (some a0), xr (some a1), xi v2] := MC.body (by decide +kernel) rfl (Nat.le_of_ble_eq_true rfl) rfl h
theorem b_Lst_fastRemove_0 {Ω : Om} {R : Room} {F : QF} {k n : Nat} {σ : Sto} {a0 : Nat} {a1 : Nat} {v2 : Int} (h : sK σ a0 = 14 ∧ (Q32 (fI σ 834 a0) → (Q32 (fI (uI σ 834 a0 (wr ((fI σ 834 a0) + 1))) 833 a0) → Q32 ((fI (uI σ 834 a0 (wr ((fI σ 834 a0) + 1))) 833 a0) - 1) ∧ Q32 v2 ∧ ((((fI (uI σ 834 a0 (wr ((fI σ 834 a0) + 1))) 833 a0) - 1) ≤ v2 → sK σ a1 = 59 ∧ 0 ≤ ((fI (uI σ 834 a0 (wr ((fI σ 834 a0) + 1))) 833 a0) - 1) ∧ ((fI (uI σ 834 a0 (wr ((fI σ 834 a0) + 1))) 833 a0) - 1) < sZ σ a1 ∧ Aw Ω M_Lst_fastRemove R F k n 43 [xr (some a0), xr (some a1), xi v2, xi ((fI (uI σ 834 a0 (wr ((fI σ 834 a0) + 1))) 833 a0) - 1)] [] (vR (uI (uI σ 834 a0 (wr ((fI σ 834 a0) + 1))) 833 a0 ((fI (uI σ 834 a0 (wr ((fI σ 834 a0) + 1))) 833 a0) - 1)) a1 ((fI (uI σ 834 a0 (wr ((fI σ 834 a0) + 1))) 833 a0) - 1).toNat none)) ∧ (¬ ((fI (uI σ 834 a0 (wr ((fI σ 834 a0) + 1))) 833 a0) - 1) ≤ v2 → Aw Ω M_Lst_fastRemove R F k n 31 [xr (some a0), xr (some a1), xi v2, xi ((fI (uI σ 834 a0 (wr ((fI σ 834 a0) + 1))) 833 a0) - 1)] [xi (((fI (uI σ 834 a0 (wr ((fI σ 834 a0) + 1))) 833 a0) - 1) - v2), xi v2, xr (some a1), xi (v2 + 1), xr (some a1)] (uI σ 834 a0 (wr ((fI σ 834 a0) + 1)))))))) : Aw Ω M_Lst_fastRemove R F k n 0 [xr (some a0), xr (some a1), xi v2, xu] [] σ := by
  refine Aw.aload_n rfl d_Lst_fastRemove_0 ?_
  refine Aw.dup rfl d_Lst_fastRemove_1 ?_
  obtain ⟨o1, h⟩ := h
  refine Aw.getI (f := 834) 13 2 fl_Lst_63 (by decide) (by decide) rfl rfl o1 d_Lst_fastRemove_2 (fun r2 => ?_)
  have h := h r2
  refine Aw.iconst d_Lst_fastRemove_5 ?_
  refine Aw.iadd d_Lst_fastRemove_6 ?_
  refine Aw.wrap ?_
  have o3 := wr_q ((fI σ 834 a0) + 1)
  refine Aw.putI (f := 834) 13 2 fl_Lst_63 (by decide) (by decide) rfl rfl o1 rfl o3 (Or.inl rfl) d_Lst_fastRemove_7 ?_
  refine Aw.aload_n rfl d_Lst_fastRemove_10 ?_
  refine Aw.getI (f := 833) 13 1 fl_Lst_48 (by decide) (by decide) rfl rfl o1 d_Lst_fastRemove_11 (fun r4 => ?_)
  have h := h r4
  refine Aw.iconst d_Lst_fastRemove_14 ?_
  refine Aw.isub d_Lst_fastRemove_15 ?_
  refine Aw.dup rfl d_Lst_fastRemove_16 ?_
  refine Aw.istore_n (by decide) d_Lst_fastRemove_17 ?_
  refine Aw.toL (L' := [xr (some a0), xr (some a1), xi v2, xi ((fI (uI σ 834 a0 (wr ((fI σ 834 a0) + 1))) 833 a0) - 1)]) rfl ?_
  refine Aw.iload_n rfl d_Lst_fastRemove_18 ?_
  obtain ⟨o5, h⟩ := h
  obtain ⟨o6, h⟩ := h
  obtain ⟨ht, hf⟩ := h
  refine Aw.icmp_le (tgt := 34) o5 o6 (by decide) d_Lst_fastRemove_19 (fun c10 => ?_) (fun c10 => ?_)
  · have h := ht c10
    refine Aw.aload_n rfl d_Lst_fastRemove_34 ?_
    refine Aw.aload_n rfl d_Lst_fastRemove_35 ?_
    refine Aw.iload_n rfl d_Lst_fastRemove_36 ?_
    refine Aw.dup_x1 rfl rfl d_Lst_fastRemove_37 ?_
    refine Aw.putI (f := 833) 13 1 fl_Lst_48 (by decide) (by decide) rfl rfl o1 rfl o5 (Or.inl rfl) d_Lst_fastRemove_38 ?_
    refine Aw.null d_Lst_fastRemove_41 ?_
    obtain ⟨o7, h⟩ := h
    obtain ⟨o8, o9, h⟩ := h
    refine Aw.aastN 9 (by decide) (by decide) o7 o8 o9 d_Lst_fastRemove_42 ?_
    exact h
  · have h := hf c10
    refine Aw.aload_n rfl d_Lst_fastRemove_22 ?_
    refine Aw.iload_n rfl d_Lst_fastRemove_23 ?_
    refine Aw.iconst d_Lst_fastRemove_24 ?_
    refine Aw.iadd d_Lst_fastRemove_25 ?_
    refine Aw.aload_n rfl d_Lst_fastRemove_26 ?_
    refine Aw.iload_n rfl d_Lst_fastRemove_27 ?_
    refine Aw.iload_n rfl d_Lst_fastRemove_28 ?_
    refine Aw.iload_n rfl d_Lst_fastRemove_29 ?_
    refine Aw.isub d_Lst_fastRemove_30 ?_
    exact h
theorem b_Lst_fastRemove_34 {Ω : Om} {R : Room} {F : QF} {k n : Nat} {σ : Sto} {a0 : Nat} {a1 : Nat} {v2 : Int} {v3 : Int} (h : sK σ a0 = 14 ∧ Q32 v3 ∧ sK σ a1 = 59 ∧ 0 ≤ v3 ∧ v3 < sZ σ a1 ∧ Aw Ω M_Lst_fastRemove R F k n 43 [xr (some a0), xr (some a1), xi v2, xi v3] [] (vR (uI σ 833 a0 v3) a1 (v3).toNat none)) : Aw Ω M_Lst_fastRemove R F k n 34 [xr (some a0), xr (some a1), xi v2, xi v3] [] σ := by
  refine Aw.aload_n rfl d_Lst_fastRemove_34 ?_
  refine Aw.aload_n rfl d_Lst_fastRemove_35 ?_
  refine Aw.iload_n rfl d_Lst_fastRemove_36 ?_
  refine Aw.dup_x1 rfl rfl d_Lst_fastRemove_37 ?_
  obtain ⟨o1, h⟩ := h
  obtain ⟨o2, h⟩ := h
  refine Aw.putI (f := 833) 13 1 fl_Lst_48 (by decide) (by decide) rfl rfl o1 rfl o2 (Or.inl rfl) d_Lst_fastRemove_38 ?_
  refine Aw.null d_Lst_fastRemove_41 ?_
  obtain ⟨o3, h⟩ := h
  obtain ⟨o4, o5, h⟩ := h
  refine Aw.aastN 9 (by decide) (by decide) o3 o4 o5 d_Lst_fastRemove_42 ?_
  exact h
theorem r_Lst_fastRemove_43 {Ω : Om} {R : Room} {k n : Nat} {L : List PV} {σ : Sto} {QR : Option PV → Sto → Prop} {QX : String → Sto → Prop} (h : QR none σ) (h1 : k ≤ R.cells) (h2 : n ≤ R.slots) : Aw Ω M_Lst_fastRemove R (MF Ω R QR QX) k n 43 L [] σ := Aw.vret rfl h h1 h2 d_Lst_fastRemove_43
theorem e_Lst_get {Ω : Om} {R : Room} {QR : Option PV → Sto → Prop} {QX : String → Sto → Prop} {σ : Sto} {a0 : Nat} {v1 : Int} (h : Aw Ω M_Lst_get R (MF Ω R QR QX) 0 0 0 [xr (some a0), xi v1] [] σ) : MC Ω M_Lst_get R QR QX σ [xr (some a0), xi v1] := MC.body (by decide +kernel) rfl (Nat.le_of_ble_eq_true rfl) rfl h
theorem b_Lst_get_0 {Ω : Om} {R : Room} {F : QF} {k n : Nat} {σ : Sto} {a0 : Nat} {v1 : Int} (h : sK σ a0 = 14 ∧ (Q32 (fI σ 833 a0) → Aw Ω M_Lst_get R F k n 5 [xr (some a0), xi v1] [xi (fI σ 833 a0), xi v1] σ)) : Aw Ω M_Lst_get R F k n 0 [xr (some a0), xi v1] [] σ := by
  refine Aw.iload_n rfl d_Lst_get_0 ?_
  refine Aw.aload_n rfl d_Lst_get_1 ?_
  obtain ⟨o1, h⟩ := h
  refine Aw.getI (f := 833) 13 1 fl_Lst_48 (by decide) (by decide) rfl rfl o1 d_Lst_get_2 (fun r2 => ?_)
  have h := h r2
  exact h
theorem b_Lst_get_8 {Ω : Om} {R : Room} {F : QF} {k n : Nat} {σ : Sto} {a0 : Nat} {v1 : Int} {s0 : Int} (h : Aw Ω M_Lst_get R F k n 11 [xr (some a0), xi v1] [xi v1, xr (some a0)] σ) : Aw Ω M_Lst_get R F k n 8 [xr (some a0), xi v1] [xi s0] σ := by
  refine Aw.pop rfl d_Lst_get_8 ?_
  refine Aw.aload_n rfl d_Lst_get_9 ?_
  refine Aw.iload_n rfl d_Lst_get_10 ?_
  exact h
theorem c_Lst_get_5 {Ω : Om} {R R' : Room} {F : QF} {k n : Nat} {L st : List PV} {σ : Sto} {QX' : String → Sto → Prop} {Q : Int → Sto → Prop} {x0 : Int} {x1 : Int} (hc : MC Ω M_Objects_checkIndex R' (RI Q) QX' σ [xi x0, xi x1]) (hr1 : R'.frames + 1 ≤ R.frames) (hr2 : 8 + (2 + 11) + R'.locals ≤ R.locals) (hb1 : k + R'.cells ≤ R.cells) (hb2 : n + R'.slots ≤ R.slots) (hst : (st.map catP).sum ≤ 8) (kk : ∀ x σ', Q x σ' → Aw Ω M_Lst_get R F (k + R'.cells) (n + R'.slots) 8 L (xi x :: st) σ') (kx : ∀ E σ', QX' E σ' → Ax Ω M_Lst_get R F (k + R'.cells) (n + R'.slots) 5 L st σ' E) : Aw Ω M_Lst_get R F k n 5 L (xi x1 :: xi x0 :: st) σ :=
  Aw.callS (As := [xi x0, xi x1]) (stk := xi x1 :: xi x0 :: st) (nn := 2) M_Objects_checkIndex hc ok_Objects_checkIndex rfl ml_Lst_118 sta_Objects_checkIndex ⟨hr1, hr2⟩ rfl ⟨hb1, hb2⟩ hst rfl d_Lst_get_5 (fun r σ' h => by obtain ⟨x, rfl, h⟩ := h; exact kk x σ' h) kx
theorem c_Lst_get_11 {Ω : Om} {R R' : Room} {F : QF} {k n : Nat} {L st : List PV} {σ : Sto} {QX' : String → Sto → Prop} {Q : Option Nat → Sto → Prop} {a : Nat} {x0 : Int} (hc : MC Ω M_Lst_elementData R' (RR Q) QX' σ [xr (some a), xi x0]) (hk : sK σ a = 14) (hr1 : R'.frames + 1 ≤ R.frames) (hr2 : 8 + (2 + 11) + R'.locals ≤ R.locals) (hb1 : k + R'.cells ≤ R.cells) (hb2 : n + R'.slots ≤ R.slots) (hst : (st.map catP).sum ≤ 8) (kk : ∀ x σ', Q x σ' → Aw Ω M_Lst_get R F (k + R'.cells) (n + R'.slots) 14 L (xr x :: st) σ') (kx : ∀ E σ', QX' E σ' → Ax Ω M_Lst_get R F (k + R'.cells) (n + R'.slots) 11 L st σ' E) : Aw Ω M_Lst_get R F k n 11 L (xi x0 :: xr (some a) :: st) σ :=
  Aw.callV (As := [xi x0]) (stk := xi x0 :: xr (some a) :: st) (nn := 1) 13 M_Lst_elementData hc ok_Lst_elementData rfl (by decide) rfl hk ml_Lst_123 im_Lst_elementData se_Lst_elementData ⟨hr1, hr2⟩ rfl ⟨hb1, hb2⟩ hst rfl d_Lst_get_11 (fun r σ' h => by obtain ⟨x, rfl, h⟩ := h; exact kk x σ' h) kx
theorem r_Lst_get_14 {Ω : Om} {R : Room} {k n : Nat} {L : List PV} {σ : Sto} {QR : Option PV → Sto → Prop} {QX : String → Sto → Prop} {x : Option Nat} (h : QR (some (xr x)) σ) (h1 : k ≤ R.cells) (h2 : n ≤ R.slots) : Aw Ω M_Lst_get R (MF Ω R QR QX) k n 14 L [xr x] σ := Aw.aret rfl (by first | exact Or.inl ⟨_, rfl⟩ | exact Or.inr ⟨_, rfl⟩) h h1 h2 d_Lst_get_14
theorem e_Lst_elementData {Ω : Om} {R : Room} {QR : Option PV → Sto → Prop} {QX : String → Sto → Prop} {σ : Sto} {a0 : Nat} {v1 : Int} (h : Aw Ω M_Lst_elementData R (MF Ω R QR QX) 0 0 0 [xr (some a0), xi v1] [] σ) : MC Ω M_Lst_elementData R QR QX σ [xr (some a0), xi v1] := MC.body (by decide +kernel) rfl (Nat.le_of_ble_eq_true rfl) rfl h
theorem b_Lst_elementData_0 {Ω : Om} {R : Room} {F : QF} {k n : Nat} {σ : Sto} {a0 : Nat} {v1 : Int} (h : sK σ a0 = 14 ∧ (∃ b2 : Nat, fR σ 832 a0 = some b2 ∧ sK σ b2 = 59 ∧ 0 ≤ v1 ∧ v1 < sZ σ b2 ∧ Aw Ω M_Lst_elementData R F k n 6 [xr (some a0), xi v1] [xr (aR σ b2 (v1).toNat)] σ)) : Aw Ω M_Lst_elementData R F k n 0 [xr (some a0), xi v1] [] σ := by
  refine Aw.aload_n rfl d_Lst_elementData_0 ?_
  obtain ⟨o1, h⟩ := h
  obtain ⟨b2, e3, h⟩ := h
  refine Aw.getRs (f := 832) 13 0 fl_Lst_9 (by decide) (by decide) rfl rfl o1 e3 d_Lst_elementData_1 ?_
  refine Aw.iload_n rfl d_Lst_elementData_4 ?_
  obtain ⟨o4, h⟩ := h
  obtain ⟨o5, o6, h⟩ := h
  refine Aw.aald 9 (by decide) (by decide) o4 o5 o6 d_Lst_elementData_5 ?_
  exact h
theorem r_Lst_elementData_6 {Ω : Om} {R : Room} {k n : Nat} {L : List PV} {σ : Sto} {QR : Option PV → Sto → Prop} {QX : String → Sto → Prop} {x : Option Nat} (h : QR (some (xr x)) σ) (h1 : k ≤ R.cells) (h2 : n ≤ R.slots) : Aw Ω M_Lst_elementData R (MF Ω R QR QX) k n 6 L [xr x] σ := Aw.aret rfl (by first | exact Or.inl ⟨_, rfl⟩ | exact Or.inr ⟨_, rfl⟩) h h1 h2 d_Lst_elementData_6
