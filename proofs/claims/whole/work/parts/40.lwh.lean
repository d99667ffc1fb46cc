/-! walks of the law's helpers (by program) -/
theorem e_Law_base {Ω : Om} {R : Room} {QR : Option PV → Sto → Prop} {QX : String → Sto → Prop} {σ : Sto} {a0 : Nat} {v1 : Int} {v2 : Int} {a3 : Nat} (h : Aw Ω M_Law_base R (MF Ω R QR QX) 0 0 0 [xr (some a0), xi v1, xi v2, xr (some a3), xu] [] σ) : MC Ω M_Law_base R QR QX σ [xr (some a0), xi v1, xi v2, xr (some a3)] := MC.body (by decide +kernel) rfl (Nat.le_of_ble_eq_true rfl) rfl h
theorem b_Law_base_13 {Ω : Om} {R : Room} {F : QF} {k n : Nat} {σ : Sto} {a0 : Nat} {v1 : Int} {v2 : Int} {a3 : Nat} {s0 : Nat} (h : Aw Ω M_Law_base R F k n 16 [xr (some a0), xi v1, xi v2, xr (some a3), xr (some s0)] [xi 1] σ) : Aw Ω M_Law_base R F k n 13 [xr (some a0), xi v1, xi v2, xr (some a3), xu] [xr (some s0)] σ := by
  refine Aw.astore (by decide) d_Law_base_13 ?_
  refine Aw.toL (L' := [xr (some a0), xi v1, xi v2, xr (some a3), xr (some s0)]) rfl ?_
  refine Aw.iconst d_Law_base_15 ?_
  exact h
theorem b_Law_base_0 {Ω : Om} {R : Room} {F : QF} {k n : Nat} {σ : Sto} {a0 : Nat} {v1 : Int} {v2 : Int} {a3 : Nat} (h : Aw Ω M_Law_base R F k n 5 [xr (some a0), xi v1, xi v2, xr (some a3), xu] [xi v2, xi v1, xr (some a0), xi 0, xr (some a3)] σ) : Aw Ω M_Law_base R F k n 0 [xr (some a0), xi v1, xi v2, xr (some a3), xu] [] σ := by
  refine Aw.aload_n rfl d_Law_base_0 ?_
  refine Aw.iconst d_Law_base_1 ?_
  refine Aw.aload_n rfl d_Law_base_2 ?_
  refine Aw.iload_n rfl d_Law_base_3 ?_
  refine Aw.iload_n rfl d_Law_base_4 ?_
  exact h
theorem b_Law_base_8 {Ω : Om} {R : Room} {F : QF} {k n : Nat} {σ : Sto} {a0 : Nat} {v1 : Int} {v2 : Int} {a3 : Nat} {s0 : Nat} {s1 : Int} {s2 : Int} (h : sK σ s0 = 51 ∧ 0 ≤ s1 ∧ s1 < sZ σ s0 ∧ Aw Ω M_Law_base R F k n 18 [xr (some a0), xi v1, xi v2, xr (some a3), xu] [xi 0] (vL σ s0 (s1).toNat (lOf s2))) : Aw Ω M_Law_base R F k n 8 [xr (some a0), xi v1, xi v2, xr (some a3), xu] [xi s2, xi s1, xr (some s0)] σ := by
  refine Aw.i2l d_Law_base_8 ?_
  obtain ⟨o1, h⟩ := h
  obtain ⟨o2, o3, h⟩ := h
  refine Aw.last o1 o2 o3 d_Law_base_9 ?_
  refine Aw.goto (tgt := 17) (by decide) d_Law_base_10 ?_
  refine Aw.iconst d_Law_base_17 ?_
  exact h
theorem c_Law_base_5 {Ω : Om} {R R' : Room} {F : QF} {k n : Nat} {L st : List PV} {σ : Sto} {QX' : String → Sto → Prop} {Q : Int → Sto → Prop} {a : Nat} {x0 : Int} {x1 : Int} (hc : MC Ω M_Dw_base R' (RI Q) QX' σ [xr (some a), xi x0, xi x1]) (hk : sK σ a = 1) (hr1 : R'.frames + 1 ≤ R.frames) (hr2 : 8 + (3 + 11) + R'.locals ≤ R.locals) (hb1 : k + R'.cells ≤ R.cells) (hb2 : n + R'.slots ≤ R.slots) (hst : (st.map catP).sum ≤ 8) (kk : ∀ x σ', Q x σ' → Aw Ω M_Law_base R F (k + R'.cells) (n + R'.slots) 8 L (xi x :: st) σ') (kx : ∀ E σ', QX' E σ' → Ax Ω M_Law_base R F (k + R'.cells) (n + R'.slots) 5 L st σ' E) : Aw Ω M_Law_base R F k n 5 L (xi x1 :: xi x0 :: xr (some a) :: st) σ :=
  Aw.callV (As := [xi x0, xi x1]) (stk := xi x1 :: xi x0 :: xr (some a) :: st) (nn := 2) 0 M_Dw_base hc ok_Dw_base rfl (by decide) rfl hk ml_Law_82 im_Dw_base se_Dw_base ⟨hr1, hr2⟩ rfl ⟨hb1, hb2⟩ hst rfl d_Law_base_5 (fun r σ' h => by obtain ⟨x, rfl, h⟩ := h; exact kk x σ' h) kx
theorem r_Law_base_16 {Ω : Om} {R : Room} {k n : Nat} {L : List PV} {σ : Sto} {QR : Option PV → Sto → Prop} {QX : String → Sto → Prop} {x : Int} (h : QR (some (xi x)) σ) (h1 : k ≤ R.cells) (h2 : n ≤ R.slots) : Aw Ω M_Law_base R (MF Ω R QR QX) k n 16 L [xi x] σ := Aw.iret rfl h h1 h2 d_Law_base_16
theorem r_Law_base_18 {Ω : Om} {R : Room} {k n : Nat} {L : List PV} {σ : Sto} {QR : Option PV → Sto → Prop} {QX : String → Sto → Prop} {x : Int} (h : QR (some (xi x)) σ) (h1 : k ≤ R.cells) (h2 : n ≤ R.slots) : Aw Ω M_Law_base R (MF Ω R QR QX) k n 18 L [xi x] σ := Aw.iret rfl h h1 h2 d_Law_base_18
theorem e_Law_begin {Ω : Om} {R : Room} {QR : Option PV → Sto → Prop} {QX : String → Sto → Prop} {σ : Sto} {a0 : Nat} {v1 : Int} {v2 : Int} {a3 : Nat} (h : Aw Ω M_Law_begin R (MF Ω R QR QX) 0 0 0 [xr (some a0), xi v1, xi v2, xr (some a3), xu] [] σ) : MC Ω M_Law_begin R QR QX σ [xr (some a0), xi v1, xi v2, xr (some a3)] := MC.body (by decide +kernel) rfl (Nat.le_of_ble_eq_true rfl) rfl h
theorem b_Law_begin_13 {Ω : Om} {R : Room} {F : QF} {k n : Nat} {σ : Sto} {a0 : Nat} {v1 : Int} {v2 : Int} {a3 : Nat} {s0 : Nat} (h : Aw Ω M_Law_begin R F k n 16 [xr (some a0), xi v1, xi v2, xr (some a3), xr (some s0)] [xi 1] σ) : Aw Ω M_Law_begin R F k n 13 [xr (some a0), xi v1, xi v2, xr (some a3), xu] [xr (some s0)] σ := by
  refine Aw.astore (by decide) d_Law_begin_13 ?_
  refine Aw.toL (L' := [xr (some a0), xi v1, xi v2, xr (some a3), xr (some s0)]) rfl ?_
  refine Aw.iconst d_Law_begin_15 ?_
  exact h
theorem b_Law_begin_0 {Ω : Om} {R : Room} {F : QF} {k n : Nat} {σ : Sto} {a0 : Nat} {v1 : Int} {v2 : Int} {a3 : Nat} (h : Aw Ω M_Law_begin R F k n 5 [xr (some a0), xi v1, xi v2, xr (some a3), xu] [xi v2, xi v1, xr (some a0), xi 0, xr (some a3)] σ) : Aw Ω M_Law_begin R F k n 0 [xr (some a0), xi v1, xi v2, xr (some a3), xu] [] σ := by
  refine Aw.aload_n rfl d_Law_begin_0 ?_
  refine Aw.iconst d_Law_begin_1 ?_
  refine Aw.aload_n rfl d_Law_begin_2 ?_
  refine Aw.iload_n rfl d_Law_begin_3 ?_
  refine Aw.iload_n rfl d_Law_begin_4 ?_
  exact h
theorem b_Law_begin_8 {Ω : Om} {R : Room} {F : QF} {k n : Nat} {σ : Sto} {a0 : Nat} {v1 : Int} {v2 : Int} {a3 : Nat} {s0 : Nat} {s1 : Int} {s2 : Int} (h : sK σ s0 = 51 ∧ 0 ≤ s1 ∧ s1 < sZ σ s0 ∧ Aw Ω M_Law_begin R F k n 18 [xr (some a0), xi v1, xi v2, xr (some a3), xu] [xi 0] (vL σ s0 (s1).toNat (lOf s2))) : Aw Ω M_Law_begin R F k n 8 [xr (some a0), xi v1, xi v2, xr (some a3), xu] [xi s2, xi s1, xr (some s0)] σ := by
  refine Aw.i2l d_Law_begin_8 ?_
  obtain ⟨o1, h⟩ := h
  obtain ⟨o2, o3, h⟩ := h
  refine Aw.last o1 o2 o3 d_Law_begin_9 ?_
  refine Aw.goto (tgt := 17) (by decide) d_Law_begin_10 ?_
  refine Aw.iconst d_Law_begin_17 ?_
  exact h
theorem c_Law_begin_5 {Ω : Om} {R R' : Room} {F : QF} {k n : Nat} {L st : List PV} {σ : Sto} {QX' : String → Sto → Prop} {Q : Int → Sto → Prop} {a : Nat} {x0 : Int} {x1 : Int} (hc : MC Ω M_Dw_begin R' (RI Q) QX' σ [xr (some a), xi x0, xi x1]) (hk : sK σ a = 1) (hr1 : R'.frames + 1 ≤ R.frames) (hr2 : 8 + (4 + 11) + R'.locals ≤ R.locals) (hb1 : k + R'.cells ≤ R.cells) (hb2 : n + R'.slots ≤ R.slots) (hst : (st.map catP).sum ≤ 8) (kk : ∀ x σ', Q x σ' → Aw Ω M_Law_begin R F (k + R'.cells) (n + R'.slots) 8 L (xi x :: st) σ') (kx : ∀ E σ', QX' E σ' → Ax Ω M_Law_begin R F (k + R'.cells) (n + R'.slots) 5 L st σ' E) : Aw Ω M_Law_begin R F k n 5 L (xi x1 :: xi x0 :: xr (some a) :: st) σ :=
  Aw.callV (As := [xi x0, xi x1]) (stk := xi x1 :: xi x0 :: xr (some a) :: st) (nn := 2) 0 M_Dw_begin hc ok_Dw_begin rfl (by decide) rfl hk ml_Law_7 im_Dw_begin se_Dw_begin ⟨hr1, hr2⟩ rfl ⟨hb1, hb2⟩ hst rfl d_Law_begin_5 (fun r σ' h => by obtain ⟨x, rfl, h⟩ := h; exact kk x σ' h) kx
theorem r_Law_begin_16 {Ω : Om} {R : Room} {k n : Nat} {L : List PV} {σ : Sto} {QR : Option PV → Sto → Prop} {QX : String → Sto → Prop} {x : Int} (h : QR (some (xi x)) σ) (h1 : k ≤ R.cells) (h2 : n ≤ R.slots) : Aw Ω M_Law_begin R (MF Ω R QR QX) k n 16 L [xi x] σ := Aw.iret rfl h h1 h2 d_Law_begin_16
theorem r_Law_begin_18 {Ω : Om} {R : Room} {k n : Nat} {L : List PV} {σ : Sto} {QR : Option PV → Sto → Prop} {QX : String → Sto → Prop} {x : Int} (h : QR (some (xi x)) σ) (h1 : k ≤ R.cells) (h2 : n ≤ R.slots) : Aw Ω M_Law_begin R (MF Ω R QR QX) k n 18 L [xi x] σ := Aw.iret rfl h h1 h2 d_Law_begin_18
theorem e_Law_blame {Ω : Om} {R : Room} {QR : Option PV → Sto → Prop} {QX : String → Sto → Prop} {σ : Sto} {a0 : Nat} {v1 : Int} {v2 : Int} {a3 : Nat} (h : Aw Ω M_Law_blame R (MF Ω R QR QX) 0 0 0 [xr (some a0), xi v1, xi v2, xr (some a3), xu] [] σ) : MC Ω M_Law_blame R QR QX σ [xr (some a0), xi v1, xi v2, xr (some a3)] := MC.body (by decide +kernel) rfl (Nat.le_of_ble_eq_true rfl) rfl h
theorem b_Law_blame_13 {Ω : Om} {R : Room} {F : QF} {k n : Nat} {σ : Sto} {a0 : Nat} {v1 : Int} {v2 : Int} {a3 : Nat} {s0 : Nat} (h : Aw Ω M_Law_blame R F k n 16 [xr (some a0), xi v1, xi v2, xr (some a3), xr (some s0)] [xi 1] σ) : Aw Ω M_Law_blame R F k n 13 [xr (some a0), xi v1, xi v2, xr (some a3), xu] [xr (some s0)] σ := by
  refine Aw.astore (by decide) d_Law_blame_13 ?_
  refine Aw.toL (L' := [xr (some a0), xi v1, xi v2, xr (some a3), xr (some s0)]) rfl ?_
  refine Aw.iconst d_Law_blame_15 ?_
  exact h
theorem b_Law_blame_0 {Ω : Om} {R : Room} {F : QF} {k n : Nat} {σ : Sto} {a0 : Nat} {v1 : Int} {v2 : Int} {a3 : Nat} (h : Aw Ω M_Law_blame R F k n 5 [xr (some a0), xi v1, xi v2, xr (some a3), xu] [xi v2, xi v1, xr (some a0), xi 0, xr (some a3)] σ) : Aw Ω M_Law_blame R F k n 0 [xr (some a0), xi v1, xi v2, xr (some a3), xu] [] σ := by
  refine Aw.aload_n rfl d_Law_blame_0 ?_
  refine Aw.iconst d_Law_blame_1 ?_
  refine Aw.aload_n rfl d_Law_blame_2 ?_
  refine Aw.iload_n rfl d_Law_blame_3 ?_
  refine Aw.iload_n rfl d_Law_blame_4 ?_
  exact h
theorem b_Law_blame_8 {Ω : Om} {R : Room} {F : QF} {k n : Nat} {σ : Sto} {a0 : Nat} {v1 : Int} {v2 : Int} {a3 : Nat} {s0 : Nat} {s1 : Int} {s2 : Int} (h : sK σ s0 = 51 ∧ 0 ≤ s1 ∧ s1 < sZ σ s0 ∧ Aw Ω M_Law_blame R F k n 18 [xr (some a0), xi v1, xi v2, xr (some a3), xu] [xi 0] (vL σ s0 (s1).toNat (lOf s2))) : Aw Ω M_Law_blame R F k n 8 [xr (some a0), xi v1, xi v2, xr (some a3), xu] [xi s2, xi s1, xr (some s0)] σ := by
  refine Aw.i2l d_Law_blame_8 ?_
  obtain ⟨o1, h⟩ := h
  obtain ⟨o2, o3, h⟩ := h
  refine Aw.last o1 o2 o3 d_Law_blame_9 ?_
  refine Aw.goto (tgt := 17) (by decide) d_Law_blame_10 ?_
  refine Aw.iconst d_Law_blame_17 ?_
  exact h
theorem c_Law_blame_5 {Ω : Om} {R R' : Room} {F : QF} {k n : Nat} {L st : List PV} {σ : Sto} {QX' : String → Sto → Prop} {Q : Int → Sto → Prop} {a : Nat} {x0 : Int} {x1 : Int} (hc : MC Ω M_Dw_blame R' (RI Q) QX' σ [xr (some a), xi x0, xi x1]) (hk : sK σ a = 1) (hr1 : R'.frames + 1 ≤ R.frames) (hr2 : 8 + (4 + 11) + R'.locals ≤ R.locals) (hb1 : k + R'.cells ≤ R.cells) (hb2 : n + R'.slots ≤ R.slots) (hst : (st.map catP).sum ≤ 8) (kk : ∀ x σ', Q x σ' → Aw Ω M_Law_blame R F (k + R'.cells) (n + R'.slots) 8 L (xi x :: st) σ') (kx : ∀ E σ', QX' E σ' → Ax Ω M_Law_blame R F (k + R'.cells) (n + R'.slots) 5 L st σ' E) : Aw Ω M_Law_blame R F k n 5 L (xi x1 :: xi x0 :: xr (some a) :: st) σ :=
  Aw.callV (As := [xi x0, xi x1]) (stk := xi x1 :: xi x0 :: xr (some a) :: st) (nn := 2) 0 M_Dw_blame hc ok_Dw_blame rfl (by decide) rfl hk ml_Law_55 im_Dw_blame se_Dw_blame ⟨hr1, hr2⟩ rfl ⟨hb1, hb2⟩ hst rfl d_Law_blame_5 (fun r σ' h => by obtain ⟨x, rfl, h⟩ := h; exact kk x σ' h) kx
theorem r_Law_blame_16 {Ω : Om} {R : Room} {k n : Nat} {L : List PV} {σ : Sto} {QR : Option PV → Sto → Prop} {QX : String → Sto → Prop} {x : Int} (h : QR (some (xi x)) σ) (h1 : k ≤ R.cells) (h2 : n ≤ R.slots) : Aw Ω M_Law_blame R (MF Ω R QR QX) k n 16 L [xi x] σ := Aw.iret rfl h h1 h2 d_Law_blame_16
theorem r_Law_blame_18 {Ω : Om} {R : Room} {k n : Nat} {L : List PV} {σ : Sto} {QR : Option PV → Sto → Prop} {QX : String → Sto → Prop} {x : Int} (h : QR (some (xi x)) σ) (h1 : k ≤ R.cells) (h2 : n ≤ R.slots) : Aw Ω M_Law_blame R (MF Ω R QR QX) k n 18 L [xi x] σ := Aw.iret rfl h h1 h2 d_Law_blame_18
theorem e_Law_change {Ω : Om} {R : Room} {QR : Option PV → Sto → Prop} {QX : String → Sto → Prop} {σ : Sto} {a0 : Nat} {v1 : Int} {v2 : Int64} {a4 : Nat} (h : Aw Ω M_Law_change R (MF Ω R QR QX) 0 0 0 [xr (some a0), xi v1, xl v2, xu, xr (some a4), xu] [] σ) : MC Ω M_Law_change R QR QX σ [xr (some a0), xi v1, xl v2, xr (some a4)] := MC.body (by decide +kernel) rfl (Nat.le_of_ble_eq_true rfl) rfl h
theorem b_Law_change_22 {Ω : Om} {R : Room} {F : QF} {k n : Nat} {σ : Sto} {a0 : Nat} {v1 : Int} {v2 : Int64} {a4 : Nat} {s0 : Nat} (h : Aw Ω M_Law_change R F k n 25 [xr (some a0), xi v1, xl v2, xu, xr (some a4), xr (some s0)] [xi 3] σ) : Aw Ω M_Law_change R F k n 22 [xr (some a0), xi v1, xl v2, xu, xr (some a4), xu] [xr (some s0)] σ := by
  refine Aw.astore (by decide) d_Law_change_22 ?_
  refine Aw.toL (L' := [xr (some a0), xi v1, xl v2, xu, xr (some a4), xr (some s0)]) rfl ?_
  refine Aw.iconst d_Law_change_24 ?_
  exact h
theorem b_Law_change_18 {Ω : Om} {R : Room} {F : QF} {k n : Nat} {σ : Sto} {a0 : Nat} {v1 : Int} {v2 : Int64} {a4 : Nat} {s0 : Nat} (h : Aw Ω M_Law_change R F k n 21 [xr (some a0), xi v1, xl v2, xu, xr (some a4), xr (some s0)] [xi 2] σ) : Aw Ω M_Law_change R F k n 18 [xr (some a0), xi v1, xl v2, xu, xr (some a4), xu] [xr (some s0)] σ := by
  refine Aw.astore (by decide) d_Law_change_18 ?_
  refine Aw.toL (L' := [xr (some a0), xi v1, xl v2, xu, xr (some a4), xr (some s0)]) rfl ?_
  refine Aw.iconst d_Law_change_20 ?_
  exact h
theorem b_Law_change_14 {Ω : Om} {R : Room} {F : QF} {k n : Nat} {σ : Sto} {a0 : Nat} {v1 : Int} {v2 : Int64} {a4 : Nat} {s0 : Nat} (h : Aw Ω M_Law_change R F k n 17 [xr (some a0), xi v1, xl v2, xu, xr (some a4), xr (some s0)] [xi 1] σ) : Aw Ω M_Law_change R F k n 14 [xr (some a0), xi v1, xl v2, xu, xr (some a4), xu] [xr (some s0)] σ := by
  refine Aw.astore (by decide) d_Law_change_14 ?_
  refine Aw.toL (L' := [xr (some a0), xi v1, xl v2, xu, xr (some a4), xr (some s0)]) rfl ?_
  refine Aw.iconst d_Law_change_16 ?_
  exact h
theorem b_Law_change_0 {Ω : Om} {R : Room} {F : QF} {k n : Nat} {σ : Sto} {a0 : Nat} {v1 : Int} {v2 : Int64} {a4 : Nat} (h : Aw Ω M_Law_change R F k n 6 [xr (some a0), xi v1, xl v2, xu, xr (some a4), xu] [xl v2, xi v1, xr (some a0), xi 0, xr (some a4)] σ) : Aw Ω M_Law_change R F k n 0 [xr (some a0), xi v1, xl v2, xu, xr (some a4), xu] [] σ := by
  refine Aw.aload rfl d_Law_change_0 ?_
  refine Aw.iconst d_Law_change_2 ?_
  refine Aw.aload_n rfl d_Law_change_3 ?_
  refine Aw.iload_n rfl d_Law_change_4 ?_
  refine Aw.lload_n rfl d_Law_change_5 ?_
  exact h
theorem b_Law_change_9 {Ω : Om} {R : Room} {F : QF} {k n : Nat} {σ : Sto} {a0 : Nat} {v1 : Int} {v2 : Int64} {a4 : Nat} {s0 : Nat} {s1 : Int} {s2 : Int} (h : sK σ s0 = 51 ∧ 0 ≤ s1 ∧ s1 < sZ σ s0 ∧ Aw Ω M_Law_change R F k n 27 [xr (some a0), xi v1, xl v2, xu, xr (some a4), xu] [xi 0] (vL σ s0 (s1).toNat (lOf s2))) : Aw Ω M_Law_change R F k n 9 [xr (some a0), xi v1, xl v2, xu, xr (some a4), xu] [xi s2, xi s1, xr (some s0)] σ := by
  refine Aw.i2l d_Law_change_9 ?_
  obtain ⟨o1, h⟩ := h
  obtain ⟨o2, o3, h⟩ := h
  refine Aw.last o1 o2 o3 d_Law_change_10 ?_
  refine Aw.goto (tgt := 26) (by decide) d_Law_change_11 ?_
  refine Aw.iconst d_Law_change_26 ?_
  exact h
theorem c_Law_change_6 {Ω : Om} {R R' : Room} {F : QF} {k n : Nat} {L st : List PV} {σ : Sto} {QX' : String → Sto → Prop} {Q : Int → Sto → Prop} {a : Nat} {x0 : Int} {x1 : Int64} (hc : MC Ω M_Dw_change R' (RI Q) QX' σ [xr (some a), xi x0, xl x1]) (hk : sK σ a = 1) (hr1 : R'.frames + 1 ≤ R.frames) (hr2 : 8 + (7 + 11) + R'.locals ≤ R.locals) (hb1 : k + R'.cells ≤ R.cells) (hb2 : n + R'.slots ≤ R.slots) (hst : (st.map catP).sum ≤ 8) (kk : ∀ x σ', Q x σ' → Aw Ω M_Law_change R F (k + R'.cells) (n + R'.slots) 9 L (xi x :: st) σ') (kx : ∀ E σ', QX' E σ' → Ax Ω M_Law_change R F (k + R'.cells) (n + R'.slots) 6 L st σ' E) : Aw Ω M_Law_change R F k n 6 L (xl x1 :: xi x0 :: xr (some a) :: st) σ :=
  Aw.callV (As := [xi x0, xl x1]) (stk := xl x1 :: xi x0 :: xr (some a) :: st) (nn := 2) 0 M_Dw_change hc ok_Dw_change rfl (by decide) rfl hk ml_Law_27 im_Dw_change se_Dw_change ⟨hr1, hr2⟩ rfl ⟨hb1, hb2⟩ hst rfl d_Law_change_6 (fun r σ' h => by obtain ⟨x, rfl, h⟩ := h; exact kk x σ' h) kx
theorem r_Law_change_17 {Ω : Om} {R : Room} {k n : Nat} {L : List PV} {σ : Sto} {QR : Option PV → Sto → Prop} {QX : String → Sto → Prop} {x : Int} (h : QR (some (xi x)) σ) (h1 : k ≤ R.cells) (h2 : n ≤ R.slots) : Aw Ω M_Law_change R (MF Ω R QR QX) k n 17 L [xi x] σ := Aw.iret rfl h h1 h2 d_Law_change_17
theorem r_Law_change_21 {Ω : Om} {R : Room} {k n : Nat} {L : List PV} {σ : Sto} {QR : Option PV → Sto → Prop} {QX : String → Sto → Prop} {x : Int} (h : QR (some (xi x)) σ) (h1 : k ≤ R.cells) (h2 : n ≤ R.slots) : Aw Ω M_Law_change R (MF Ω R QR QX) k n 21 L [xi x] σ := Aw.iret rfl h h1 h2 d_Law_change_21
theorem r_Law_change_25 {Ω : Om} {R : Room} {k n : Nat} {L : List PV} {σ : Sto} {QR : Option PV → Sto → Prop} {QX : String → Sto → Prop} {x : Int} (h : QR (some (xi x)) σ) (h1 : k ≤ R.cells) (h2 : n ≤ R.slots) : Aw Ω M_Law_change R (MF Ω R QR QX) k n 25 L [xi x] σ := Aw.iret rfl h h1 h2 d_Law_change_25
theorem r_Law_change_27 {Ω : Om} {R : Room} {k n : Nat} {L : List PV} {σ : Sto} {QR : Option PV → Sto → Prop} {QX : String → Sto → Prop} {x : Int} (h : QR (some (xi x)) σ) (h1 : k ≤ R.cells) (h2 : n ≤ R.slots) : Aw Ω M_Law_change R (MF Ω R QR QX) k n 27 L [xi x] σ := Aw.iret rfl h h1 h2 d_Law_change_27
theorem e_Law_commit {Ω : Om} {R : Room} {QR : Option PV → Sto → Prop} {QX : String → Sto → Prop} {σ : Sto} {a0 : Nat} {a1 : Nat} (h : Aw Ω M_Law_commit R (MF Ω R QR QX) 0 0 0 [xr (some a0), xr (some a1), xu] [] σ) : MC Ω M_Law_commit R QR QX σ [xr (some a0), xr (some a1)] := MC.body (by decide +kernel) rfl (Nat.le_of_ble_eq_true rfl) rfl h
theorem b_Law_commit_11 {Ω : Om} {R : Room} {F : QF} {k n : Nat} {σ : Sto} {a0 : Nat} {a1 : Nat} {s0 : Nat} (h : Aw Ω M_Law_commit R F k n 13 [xr (some a0), xr (some a1), xr (some s0)] [xi 1] σ) : Aw Ω M_Law_commit R F k n 11 [xr (some a0), xr (some a1), xu] [xr (some s0)] σ := by
  refine Aw.astore_n (by decide) d_Law_commit_11 ?_
  refine Aw.toL (L' := [xr (some a0), xr (some a1), xr (some s0)]) rfl ?_
  refine Aw.iconst d_Law_commit_12 ?_
  exact h
theorem b_Law_commit_0 {Ω : Om} {R : Room} {F : QF} {k n : Nat} {σ : Sto} {a0 : Nat} {a1 : Nat} (h : Aw Ω M_Law_commit R F k n 3 [xr (some a0), xr (some a1), xu] [xr (some a0), xi 0, xr (some a1)] σ) : Aw Ω M_Law_commit R F k n 0 [xr (some a0), xr (some a1), xu] [] σ := by
  refine Aw.aload_n rfl d_Law_commit_0 ?_
  refine Aw.iconst d_Law_commit_1 ?_
  refine Aw.aload_n rfl d_Law_commit_2 ?_
  exact h
theorem b_Law_commit_6 {Ω : Om} {R : Room} {F : QF} {k n : Nat} {σ : Sto} {a0 : Nat} {a1 : Nat} {s0 : Nat} {s1 : Int} {s2 : Int} (h : sK σ s0 = 51 ∧ 0 ≤ s1 ∧ s1 < sZ σ s0 ∧ Aw Ω M_Law_commit R F k n 15 [xr (some a0), xr (some a1), xu] [xi 0] (vL σ s0 (s1).toNat (lOf s2))) : Aw Ω M_Law_commit R F k n 6 [xr (some a0), xr (some a1), xu] [xi s2, xi s1, xr (some s0)] σ := by
  refine Aw.i2l d_Law_commit_6 ?_
  obtain ⟨o1, h⟩ := h
  obtain ⟨o2, o3, h⟩ := h
  refine Aw.last o1 o2 o3 d_Law_commit_7 ?_
  refine Aw.goto (tgt := 14) (by decide) d_Law_commit_8 ?_
  refine Aw.iconst d_Law_commit_14 ?_
  exact h
theorem c_Law_commit_3 {Ω : Om} {R R' : Room} {F : QF} {k n : Nat} {L st : List PV} {σ : Sto} {QX' : String → Sto → Prop} {Q : Int → Sto → Prop} {a : Nat} (hc : MC Ω M_Dw_commit R' (RI Q) QX' σ [xr (some a)]) (hk : sK σ a = 1) (hr1 : R'.frames + 1 ≤ R.frames) (hr2 : 8 + (3 + 11) + R'.locals ≤ R.locals) (hb1 : k + R'.cells ≤ R.cells) (hb2 : n + R'.slots ≤ R.slots) (hst : (st.map catP).sum ≤ 8) (kk : ∀ x σ', Q x σ' → Aw Ω M_Law_commit R F (k + R'.cells) (n + R'.slots) 6 L (xi x :: st) σ') (kx : ∀ E σ', QX' E σ' → Ax Ω M_Law_commit R F (k + R'.cells) (n + R'.slots) 3 L st σ' E) : Aw Ω M_Law_commit R F k n 3 L (xr (some a) :: st) σ :=
  Aw.callV (As := []) (stk := xr (some a) :: st) (nn := 0) 0 M_Dw_commit hc ok_Dw_commit rfl (by decide) rfl hk ml_Law_38 im_Dw_commit se_Dw_commit ⟨hr1, hr2⟩ rfl ⟨hb1, hb2⟩ hst rfl d_Law_commit_3 (fun r σ' h => by obtain ⟨x, rfl, h⟩ := h; exact kk x σ' h) kx
theorem r_Law_commit_13 {Ω : Om} {R : Room} {k n : Nat} {L : List PV} {σ : Sto} {QR : Option PV → Sto → Prop} {QX : String → Sto → Prop} {x : Int} (h : QR (some (xi x)) σ) (h1 : k ≤ R.cells) (h2 : n ≤ R.slots) : Aw Ω M_Law_commit R (MF Ω R QR QX) k n 13 L [xi x] σ := Aw.iret rfl h h1 h2 d_Law_commit_13
theorem r_Law_commit_15 {Ω : Om} {R : Room} {k n : Nat} {L : List PV} {σ : Sto} {QR : Option PV → Sto → Prop} {QX : String → Sto → Prop} {x : Int} (h : QR (some (xi x)) σ) (h1 : k ≤ R.cells) (h2 : n ≤ R.slots) : Aw Ω M_Law_commit R (MF Ω R QR QX) k n 15 L [xi x] σ := Aw.iret rfl h h1 h2 d_Law_commit_15
theorem e_Law_compare {Ω : Om} {R : Room} {QR : Option PV → Sto → Prop} {QX : String → Sto → Prop} {σ : Sto} {a0 : Nat} {v1 : Int} {v2 : Int} {v3 : Int} {a4 : Nat} (h : Aw Ω M_Law_compare R (MF Ω R QR QX) 0 0 0 [xr (some a0), xi v1, xi v2, xi v3, xr (some a4), xu] [] σ) : MC Ω M_Law_compare R QR QX σ [xr (some a0), xi v1, xi v2, xi v3, xr (some a4)] := MC.body (by decide +kernel) rfl (Nat.le_of_ble_eq_true rfl) rfl h
theorem b_Law_compare_15 {Ω : Om} {R : Room} {F : QF} {k n : Nat} {σ : Sto} {a0 : Nat} {v1 : Int} {v2 : Int} {v3 : Int} {a4 : Nat} {s0 : Nat} (h : Aw Ω M_Law_compare R F k n 18 [xr (some a0), xi v1, xi v2, xi v3, xr (some a4), xr (some s0)] [xi 1] σ) : Aw Ω M_Law_compare R F k n 15 [xr (some a0), xi v1, xi v2, xi v3, xr (some a4), xu] [xr (some s0)] σ := by
  refine Aw.astore (by decide) d_Law_compare_15 ?_
  refine Aw.toL (L' := [xr (some a0), xi v1, xi v2, xi v3, xr (some a4), xr (some s0)]) rfl ?_
  refine Aw.iconst d_Law_compare_17 ?_
  exact h
theorem b_Law_compare_0 {Ω : Om} {R : Room} {F : QF} {k n : Nat} {σ : Sto} {a0 : Nat} {v1 : Int} {v2 : Int} {v3 : Int} {a4 : Nat} (h : Aw Ω M_Law_compare R F k n 7 [xr (some a0), xi v1, xi v2, xi v3, xr (some a4), xu] [xi v3, xi v2, xi v1, xr (some a0), xi 0, xr (some a4)] σ) : Aw Ω M_Law_compare R F k n 0 [xr (some a0), xi v1, xi v2, xi v3, xr (some a4), xu] [] σ := by
  refine Aw.aload rfl d_Law_compare_0 ?_
  refine Aw.iconst d_Law_compare_2 ?_
  refine Aw.aload_n rfl d_Law_compare_3 ?_
  refine Aw.iload_n rfl d_Law_compare_4 ?_
  refine Aw.iload_n rfl d_Law_compare_5 ?_
  refine Aw.iload_n rfl d_Law_compare_6 ?_
  exact h
theorem b_Law_compare_10 {Ω : Om} {R : Room} {F : QF} {k n : Nat} {σ : Sto} {a0 : Nat} {v1 : Int} {v2 : Int} {v3 : Int} {a4 : Nat} {s0 : Nat} {s1 : Int} {s2 : Int} (h : sK σ s0 = 51 ∧ 0 ≤ s1 ∧ s1 < sZ σ s0 ∧ Aw Ω M_Law_compare R F k n 20 [xr (some a0), xi v1, xi v2, xi v3, xr (some a4), xu] [xi 0] (vL σ s0 (s1).toNat (lOf s2))) : Aw Ω M_Law_compare R F k n 10 [xr (some a0), xi v1, xi v2, xi v3, xr (some a4), xu] [xi s2, xi s1, xr (some s0)] σ := by
  refine Aw.i2l d_Law_compare_10 ?_
  obtain ⟨o1, h⟩ := h
  obtain ⟨o2, o3, h⟩ := h
  refine Aw.last o1 o2 o3 d_Law_compare_11 ?_
  refine Aw.goto (tgt := 19) (by decide) d_Law_compare_12 ?_
  refine Aw.iconst d_Law_compare_19 ?_
  exact h
theorem c_Law_compare_7 {Ω : Om} {R R' : Room} {F : QF} {k n : Nat} {L st : List PV} {σ : Sto} {QX' : String → Sto → Prop} {Q : Int → Sto → Prop} {a : Nat} {x0 : Int} {x1 : Int} {x2 : Int} (hc : MC Ω M_Dw_compare R' (RI Q) QX' σ [xr (some a), xi x0, xi x1, xi x2]) (hk : sK σ a = 1) (hr1 : R'.frames + 1 ≤ R.frames) (hr2 : 8 + (6 + 11) + R'.locals ≤ R.locals) (hb1 : k + R'.cells ≤ R.cells) (hb2 : n + R'.slots ≤ R.slots) (hst : (st.map catP).sum ≤ 8) (kk : ∀ x σ', Q x σ' → Aw Ω M_Law_compare R F (k + R'.cells) (n + R'.slots) 10 L (xi x :: st) σ') (kx : ∀ E σ', QX' E σ' → Ax Ω M_Law_compare R F (k + R'.cells) (n + R'.slots) 7 L st σ' E) : Aw Ω M_Law_compare R F k n 7 L (xi x2 :: xi x1 :: xi x0 :: xr (some a) :: st) σ :=
  Aw.callV (As := [xi x0, xi x1, xi x2]) (stk := xi x2 :: xi x1 :: xi x0 :: xr (some a) :: st) (nn := 3) 0 M_Dw_compare hc ok_Dw_compare rfl (by decide) rfl hk ml_Law_65 im_Dw_compare se_Dw_compare ⟨hr1, hr2⟩ rfl ⟨hb1, hb2⟩ hst rfl d_Law_compare_7 (fun r σ' h => by obtain ⟨x, rfl, h⟩ := h; exact kk x σ' h) kx
theorem r_Law_compare_18 {Ω : Om} {R : Room} {k n : Nat} {L : List PV} {σ : Sto} {QR : Option PV → Sto → Prop} {QX : String → Sto → Prop} {x : Int} (h : QR (some (xi x)) σ) (h1 : k ≤ R.cells) (h2 : n ≤ R.slots) : Aw Ω M_Law_compare R (MF Ω R QR QX) k n 18 L [xi x] σ := Aw.iret rfl h h1 h2 d_Law_compare_18
theorem r_Law_compare_20 {Ω : Om} {R : Room} {k n : Nat} {L : List PV} {σ : Sto} {QR : Option PV → Sto → Prop} {QX : String → Sto → Prop} {x : Int} (h : QR (some (xi x)) σ) (h1 : k ≤ R.cells) (h2 : n ≤ R.slots) : Aw Ω M_Law_compare R (MF Ω R QR QX) k n 20 L [xi x] σ := Aw.iret rfl h h1 h2 d_Law_compare_20
theorem e_Law_draftLine {Ω : Om} {R : Room} {QR : Option PV → Sto → Prop} {QX : String → Sto → Prop} {σ : Sto} {a0 : Nat} {v1 : Int} {a2 : Nat} (h : Aw Ω M_Law_draftLine R (MF Ω R QR QX) 0 0 0 [xr (some a0), xi v1, xr (some a2), xu] [] σ) : MC Ω M_Law_draftLine R QR QX σ [xr (some a0), xi v1, xr (some a2)] := MC.body (by decide +kernel) rfl (Nat.le_of_ble_eq_true rfl) rfl h
theorem b_Law_draftLine_11 {Ω : Om} {R : Room} {F : QF} {k n : Nat} {σ : Sto} {a0 : Nat} {v1 : Int} {a2 : Nat} {s0 : Nat} (h : Aw Ω M_Law_draftLine R F k n 13 [xr (some a0), xi v1, xr (some a2), xr (some s0)] [xi 1] σ) : Aw Ω M_Law_draftLine R F k n 11 [xr (some a0), xi v1, xr (some a2), xu] [xr (some s0)] σ := by
  refine Aw.astore_n (by decide) d_Law_draftLine_11 ?_
  refine Aw.toL (L' := [xr (some a0), xi v1, xr (some a2), xr (some s0)]) rfl ?_
  refine Aw.iconst d_Law_draftLine_12 ?_
  exact h
theorem b_Law_draftLine_0 {Ω : Om} {R : Room} {F : QF} {k n : Nat} {σ : Sto} {a0 : Nat} {v1 : Int} {a2 : Nat} (h : Aw Ω M_Law_draftLine R F k n 4 [xr (some a0), xi v1, xr (some a2), xu] [xi v1, xr (some a0), xi 0, xr (some a2)] σ) : Aw Ω M_Law_draftLine R F k n 0 [xr (some a0), xi v1, xr (some a2), xu] [] σ := by
  refine Aw.aload_n rfl d_Law_draftLine_0 ?_
  refine Aw.iconst d_Law_draftLine_1 ?_
  refine Aw.aload_n rfl d_Law_draftLine_2 ?_
  refine Aw.iload_n rfl d_Law_draftLine_3 ?_
  exact h
theorem b_Law_draftLine_7 {Ω : Om} {R : Room} {F : QF} {k n : Nat} {σ : Sto} {a0 : Nat} {v1 : Int} {a2 : Nat} {s0 : Nat} {s1 : Int} {s2 : Int64} (h : sK σ s0 = 51 ∧ 0 ≤ s1 ∧ s1 < sZ σ s0 ∧ Aw Ω M_Law_draftLine R F k n 15 [xr (some a0), xi v1, xr (some a2), xu] [xi 0] (vL σ s0 (s1).toNat s2)) : Aw Ω M_Law_draftLine R F k n 7 [xr (some a0), xi v1, xr (some a2), xu] [xl s2, xi s1, xr (some s0)] σ := by
  obtain ⟨o1, h⟩ := h
  obtain ⟨o2, o3, h⟩ := h
  refine Aw.last o1 o2 o3 d_Law_draftLine_7 ?_
  refine Aw.goto (tgt := 14) (by decide) d_Law_draftLine_8 ?_
  refine Aw.iconst d_Law_draftLine_14 ?_
  exact h
theorem c_Law_draftLine_4 {Ω : Om} {R R' : Room} {F : QF} {k n : Nat} {L st : List PV} {σ : Sto} {QX' : String → Sto → Prop} {Q : Int64 → Sto → Prop} {a : Nat} {x0 : Int} (hc : MC Ω M_Dw_draftLine R' (RL Q) QX' σ [xr (some a), xi x0]) (hk : sK σ a = 1) (hr1 : R'.frames + 1 ≤ R.frames) (hr2 : 8 + (2 + 11) + R'.locals ≤ R.locals) (hb1 : k + R'.cells ≤ R.cells) (hb2 : n + R'.slots ≤ R.slots) (hst : (st.map catP).sum ≤ 8) (kk : ∀ x σ', Q x σ' → Aw Ω M_Law_draftLine R F (k + R'.cells) (n + R'.slots) 7 L (xl x :: st) σ') (kx : ∀ E σ', QX' E σ' → Ax Ω M_Law_draftLine R F (k + R'.cells) (n + R'.slots) 4 L st σ' E) : Aw Ω M_Law_draftLine R F k n 4 L (xi x0 :: xr (some a) :: st) σ :=
  Aw.callV (As := [xi x0]) (stk := xi x0 :: xr (some a) :: st) (nn := 1) 0 M_Dw_draftLine hc ok_Dw_draftLine rfl (by decide) rfl hk ml_Law_41 im_Dw_draftLine se_Dw_draftLine ⟨hr1, hr2⟩ rfl ⟨hb1, hb2⟩ hst rfl d_Law_draftLine_4 (fun r σ' h => by obtain ⟨x, rfl, h⟩ := h; exact kk x σ' h) kx
theorem r_Law_draftLine_13 {Ω : Om} {R : Room} {k n : Nat} {L : List PV} {σ : Sto} {QR : Option PV → Sto → Prop} {QX : String → Sto → Prop} {x : Int} (h : QR (some (xi x)) σ) (h1 : k ≤ R.cells) (h2 : n ≤ R.slots) : Aw Ω M_Law_draftLine R (MF Ω R QR QX) k n 13 L [xi x] σ := Aw.iret rfl h h1 h2 d_Law_draftLine_13
theorem r_Law_draftLine_15 {Ω : Om} {R : Room} {k n : Nat} {L : List PV} {σ : Sto} {QR : Option PV → Sto → Prop} {QX : String → Sto → Prop} {x : Int} (h : QR (some (xi x)) σ) (h1 : k ≤ R.cells) (h2 : n ≤ R.slots) : Aw Ω M_Law_draftLine R (MF Ω R QR QX) k n 15 L [xi x] σ := Aw.iret rfl h h1 h2 d_Law_draftLine_15
theorem e_Law_hunk {Ω : Om} {R : Room} {QR : Option PV → Sto → Prop} {QX : String → Sto → Prop} {σ : Sto} {a0 : Nat} {v1 : Int} {v2 : Int} {v3 : Int} {a4 : Nat} (h : Aw Ω M_Law_hunk R (MF Ω R QR QX) 0 0 0 [xr (some a0), xi v1, xi v2, xi v3, xr (some a4), xu] [] σ) : MC Ω M_Law_hunk R QR QX σ [xr (some a0), xi v1, xi v2, xi v3, xr (some a4)] := MC.body (by decide +kernel) rfl (Nat.le_of_ble_eq_true rfl) rfl h
theorem b_Law_hunk_19 {Ω : Om} {R : Room} {F : QF} {k n : Nat} {σ : Sto} {a0 : Nat} {v1 : Int} {v2 : Int} {v3 : Int} {a4 : Nat} {s0 : Nat} (h : Aw Ω M_Law_hunk R F k n 22 [xr (some a0), xi v1, xi v2, xi v3, xr (some a4), xr (some s0)] [xi 2] σ) : Aw Ω M_Law_hunk R F k n 19 [xr (some a0), xi v1, xi v2, xi v3, xr (some a4), xu] [xr (some s0)] σ := by
  refine Aw.astore (by decide) d_Law_hunk_19 ?_
  refine Aw.toL (L' := [xr (some a0), xi v1, xi v2, xi v3, xr (some a4), xr (some s0)]) rfl ?_
  refine Aw.iconst d_Law_hunk_21 ?_
  exact h
theorem b_Law_hunk_15 {Ω : Om} {R : Room} {F : QF} {k n : Nat} {σ : Sto} {a0 : Nat} {v1 : Int} {v2 : Int} {v3 : Int} {a4 : Nat} {s0 : Nat} (h : Aw Ω M_Law_hunk R F k n 18 [xr (some a0), xi v1, xi v2, xi v3, xr (some a4), xr (some s0)] [xi 1] σ) : Aw Ω M_Law_hunk R F k n 15 [xr (some a0), xi v1, xi v2, xi v3, xr (some a4), xu] [xr (some s0)] σ := by
  refine Aw.astore (by decide) d_Law_hunk_15 ?_
  refine Aw.toL (L' := [xr (some a0), xi v1, xi v2, xi v3, xr (some a4), xr (some s0)]) rfl ?_
  refine Aw.iconst d_Law_hunk_17 ?_
  exact h
theorem b_Law_hunk_0 {Ω : Om} {R : Room} {F : QF} {k n : Nat} {σ : Sto} {a0 : Nat} {v1 : Int} {v2 : Int} {v3 : Int} {a4 : Nat} (h : Aw Ω M_Law_hunk R F k n 7 [xr (some a0), xi v1, xi v2, xi v3, xr (some a4), xu] [xi v3, xi v2, xi v1, xr (some a0), xi 0, xr (some a4)] σ) : Aw Ω M_Law_hunk R F k n 0 [xr (some a0), xi v1, xi v2, xi v3, xr (some a4), xu] [] σ := by
  refine Aw.aload rfl d_Law_hunk_0 ?_
  refine Aw.iconst d_Law_hunk_2 ?_
  refine Aw.aload_n rfl d_Law_hunk_3 ?_
  refine Aw.iload_n rfl d_Law_hunk_4 ?_
  refine Aw.iload_n rfl d_Law_hunk_5 ?_
  refine Aw.iload_n rfl d_Law_hunk_6 ?_
  exact h
theorem b_Law_hunk_10 {Ω : Om} {R : Room} {F : QF} {k n : Nat} {σ : Sto} {a0 : Nat} {v1 : Int} {v2 : Int} {v3 : Int} {a4 : Nat} {s0 : Nat} {s1 : Int} {s2 : Int} (h : sK σ s0 = 51 ∧ 0 ≤ s1 ∧ s1 < sZ σ s0 ∧ Aw Ω M_Law_hunk R F k n 24 [xr (some a0), xi v1, xi v2, xi v3, xr (some a4), xu] [xi 0] (vL σ s0 (s1).toNat (lOf s2))) : Aw Ω M_Law_hunk R F k n 10 [xr (some a0), xi v1, xi v2, xi v3, xr (some a4), xu] [xi s2, xi s1, xr (some s0)] σ := by
  refine Aw.i2l d_Law_hunk_10 ?_
  obtain ⟨o1, h⟩ := h
  obtain ⟨o2, o3, h⟩ := h
  refine Aw.last o1 o2 o3 d_Law_hunk_11 ?_
  refine Aw.goto (tgt := 23) (by decide) d_Law_hunk_12 ?_
  refine Aw.iconst d_Law_hunk_23 ?_
  exact h
theorem c_Law_hunk_7 {Ω : Om} {R R' : Room} {F : QF} {k n : Nat} {L st : List PV} {σ : Sto} {QX' : String → Sto → Prop} {Q : Int → Sto → Prop} {a : Nat} {x0 : Int} {x1 : Int} {x2 : Int} (hc : MC Ω M_Dw_hunk R' (RI Q) QX' σ [xr (some a), xi x0, xi x1, xi x2]) (hk : sK σ a = 1) (hr1 : R'.frames + 1 ≤ R.frames) (hr2 : 8 + (5 + 11) + R'.locals ≤ R.locals) (hb1 : k + R'.cells ≤ R.cells) (hb2 : n + R'.slots ≤ R.slots) (hst : (st.map catP).sum ≤ 8) (kk : ∀ x σ', Q x σ' → Aw Ω M_Law_hunk R F (k + R'.cells) (n + R'.slots) 10 L (xi x :: st) σ') (kx : ∀ E σ', QX' E σ' → Ax Ω M_Law_hunk R F (k + R'.cells) (n + R'.slots) 7 L st σ' E) : Aw Ω M_Law_hunk R F k n 7 L (xi x2 :: xi x1 :: xi x0 :: xr (some a) :: st) σ :=
  Aw.callV (As := [xi x0, xi x1, xi x2]) (stk := xi x2 :: xi x1 :: xi x0 :: xr (some a) :: st) (nn := 3) 0 M_Dw_hunk hc ok_Dw_hunk rfl (by decide) rfl hk ml_Law_101 im_Dw_hunk se_Dw_hunk ⟨hr1, hr2⟩ rfl ⟨hb1, hb2⟩ hst rfl d_Law_hunk_7 (fun r σ' h => by obtain ⟨x, rfl, h⟩ := h; exact kk x σ' h) kx
theorem r_Law_hunk_18 {Ω : Om} {R : Room} {k n : Nat} {L : List PV} {σ : Sto} {QR : Option PV → Sto → Prop} {QX : String → Sto → Prop} {x : Int} (h : QR (some (xi x)) σ) (h1 : k ≤ R.cells) (h2 : n ≤ R.slots) : Aw Ω M_Law_hunk R (MF Ω R QR QX) k n 18 L [xi x] σ := Aw.iret rfl h h1 h2 d_Law_hunk_18
theorem r_Law_hunk_22 {Ω : Om} {R : Room} {k n : Nat} {L : List PV} {σ : Sto} {QR : Option PV → Sto → Prop} {QX : String → Sto → Prop} {x : Int} (h : QR (some (xi x)) σ) (h1 : k ≤ R.cells) (h2 : n ≤ R.slots) : Aw Ω M_Law_hunk R (MF Ω R QR QX) k n 22 L [xi x] σ := Aw.iret rfl h h1 h2 d_Law_hunk_22
theorem r_Law_hunk_24 {Ω : Om} {R : Room} {k n : Nat} {L : List PV} {σ : Sto} {QR : Option PV → Sto → Prop} {QX : String → Sto → Prop} {x : Int} (h : QR (some (xi x)) σ) (h1 : k ≤ R.cells) (h2 : n ≤ R.slots) : Aw Ω M_Law_hunk R (MF Ω R QR QX) k n 24 L [xi x] σ := Aw.iret rfl h h1 h2 d_Law_hunk_24
theorem e_Law_insert {Ω : Om} {R : Room} {QR : Option PV → Sto → Prop} {QX : String → Sto → Prop} {σ : Sto} {a0 : Nat} {v1 : Int} {v2 : Int64} {a4 : Nat} (h : Aw Ω M_Law_insert R (MF Ω R QR QX) 0 0 0 [xr (some a0), xi v1, xl v2, xu, xr (some a4), xu] [] σ) : MC Ω M_Law_insert R QR QX σ [xr (some a0), xi v1, xl v2, xr (some a4)] := MC.body (by decide +kernel) rfl (Nat.le_of_ble_eq_true rfl) rfl h
theorem b_Law_insert_22 {Ω : Om} {R : Room} {F : QF} {k n : Nat} {σ : Sto} {a0 : Nat} {v1 : Int} {v2 : Int64} {a4 : Nat} {s0 : Nat} (h : Aw Ω M_Law_insert R F k n 25 [xr (some a0), xi v1, xl v2, xu, xr (some a4), xr (some s0)] [xi 3] σ) : Aw Ω M_Law_insert R F k n 22 [xr (some a0), xi v1, xl v2, xu, xr (some a4), xu] [xr (some s0)] σ := by
  refine Aw.astore (by decide) d_Law_insert_22 ?_
  refine Aw.toL (L' := [xr (some a0), xi v1, xl v2, xu, xr (some a4), xr (some s0)]) rfl ?_
  refine Aw.iconst d_Law_insert_24 ?_
  exact h
theorem b_Law_insert_18 {Ω : Om} {R : Room} {F : QF} {k n : Nat} {σ : Sto} {a0 : Nat} {v1 : Int} {v2 : Int64} {a4 : Nat} {s0 : Nat} (h : Aw Ω M_Law_insert R F k n 21 [xr (some a0), xi v1, xl v2, xu, xr (some a4), xr (some s0)] [xi 2] σ) : Aw Ω M_Law_insert R F k n 18 [xr (some a0), xi v1, xl v2, xu, xr (some a4), xu] [xr (some s0)] σ := by
  refine Aw.astore (by decide) d_Law_insert_18 ?_
  refine Aw.toL (L' := [xr (some a0), xi v1, xl v2, xu, xr (some a4), xr (some s0)]) rfl ?_
  refine Aw.iconst d_Law_insert_20 ?_
  exact h
theorem b_Law_insert_14 {Ω : Om} {R : Room} {F : QF} {k n : Nat} {σ : Sto} {a0 : Nat} {v1 : Int} {v2 : Int64} {a4 : Nat} {s0 : Nat} (h : Aw Ω M_Law_insert R F k n 17 [xr (some a0), xi v1, xl v2, xu, xr (some a4), xr (some s0)] [xi 1] σ) : Aw Ω M_Law_insert R F k n 14 [xr (some a0), xi v1, xl v2, xu, xr (some a4), xu] [xr (some s0)] σ := by
  refine Aw.astore (by decide) d_Law_insert_14 ?_
  refine Aw.toL (L' := [xr (some a0), xi v1, xl v2, xu, xr (some a4), xr (some s0)]) rfl ?_
  refine Aw.iconst d_Law_insert_16 ?_
  exact h
theorem b_Law_insert_0 {Ω : Om} {R : Room} {F : QF} {k n : Nat} {σ : Sto} {a0 : Nat} {v1 : Int} {v2 : Int64} {a4 : Nat} (h : Aw Ω M_Law_insert R F k n 6 [xr (some a0), xi v1, xl v2, xu, xr (some a4), xu] [xl v2, xi v1, xr (some a0), xi 0, xr (some a4)] σ) : Aw Ω M_Law_insert R F k n 0 [xr (some a0), xi v1, xl v2, xu, xr (some a4), xu] [] σ := by
  refine Aw.aload rfl d_Law_insert_0 ?_
  refine Aw.iconst d_Law_insert_2 ?_
  refine Aw.aload_n rfl d_Law_insert_3 ?_
  refine Aw.iload_n rfl d_Law_insert_4 ?_
  refine Aw.lload_n rfl d_Law_insert_5 ?_
  exact h
theorem b_Law_insert_9 {Ω : Om} {R : Room} {F : QF} {k n : Nat} {σ : Sto} {a0 : Nat} {v1 : Int} {v2 : Int64} {a4 : Nat} {s0 : Nat} {s1 : Int} {s2 : Int} (h : sK σ s0 = 51 ∧ 0 ≤ s1 ∧ s1 < sZ σ s0 ∧ Aw Ω M_Law_insert R F k n 27 [xr (some a0), xi v1, xl v2, xu, xr (some a4), xu] [xi 0] (vL σ s0 (s1).toNat (lOf s2))) : Aw Ω M_Law_insert R F k n 9 [xr (some a0), xi v1, xl v2, xu, xr (some a4), xu] [xi s2, xi s1, xr (some s0)] σ := by
  refine Aw.i2l d_Law_insert_9 ?_
  obtain ⟨o1, h⟩ := h
  obtain ⟨o2, o3, h⟩ := h
  refine Aw.last o1 o2 o3 d_Law_insert_10 ?_
  refine Aw.goto (tgt := 26) (by decide) d_Law_insert_11 ?_
  refine Aw.iconst d_Law_insert_26 ?_
  exact h
theorem c_Law_insert_6 {Ω : Om} {R R' : Room} {F : QF} {k n : Nat} {L st : List PV} {σ : Sto} {QX' : String → Sto → Prop} {Q : Int → Sto → Prop} {a : Nat} {x0 : Int} {x1 : Int64} (hc : MC Ω M_Dw_insert R' (RI Q) QX' σ [xr (some a), xi x0, xl x1]) (hk : sK σ a = 1) (hr1 : R'.frames + 1 ≤ R.frames) (hr2 : 8 + (4 + 11) + R'.locals ≤ R.locals) (hb1 : k + R'.cells ≤ R.cells) (hb2 : n + R'.slots ≤ R.slots) (hst : (st.map catP).sum ≤ 8) (kk : ∀ x σ', Q x σ' → Aw Ω M_Law_insert R F (k + R'.cells) (n + R'.slots) 9 L (xi x :: st) σ') (kx : ∀ E σ', QX' E σ' → Ax Ω M_Law_insert R F (k + R'.cells) (n + R'.slots) 6 L st σ' E) : Aw Ω M_Law_insert R F k n 6 L (xl x1 :: xi x0 :: xr (some a) :: st) σ :=
  Aw.callV (As := [xi x0, xl x1]) (stk := xl x1 :: xi x0 :: xr (some a) :: st) (nn := 2) 0 M_Dw_insert hc ok_Dw_insert rfl (by decide) rfl hk ml_Law_15 im_Dw_insert se_Dw_insert ⟨hr1, hr2⟩ rfl ⟨hb1, hb2⟩ hst rfl d_Law_insert_6 (fun r σ' h => by obtain ⟨x, rfl, h⟩ := h; exact kk x σ' h) kx
theorem r_Law_insert_17 {Ω : Om} {R : Room} {k n : Nat} {L : List PV} {σ : Sto} {QR : Option PV → Sto → Prop} {QX : String → Sto → Prop} {x : Int} (h : QR (some (xi x)) σ) (h1 : k ≤ R.cells) (h2 : n ≤ R.slots) : Aw Ω M_Law_insert R (MF Ω R QR QX) k n 17 L [xi x] σ := Aw.iret rfl h h1 h2 d_Law_insert_17
theorem r_Law_insert_21 {Ω : Om} {R : Room} {k n : Nat} {L : List PV} {σ : Sto} {QR : Option PV → Sto → Prop} {QX : String → Sto → Prop} {x : Int} (h : QR (some (xi x)) σ) (h1 : k ≤ R.cells) (h2 : n ≤ R.slots) : Aw Ω M_Law_insert R (MF Ω R QR QX) k n 21 L [xi x] σ := Aw.iret rfl h h1 h2 d_Law_insert_21
theorem r_Law_insert_25 {Ω : Om} {R : Room} {k n : Nat} {L : List PV} {σ : Sto} {QR : Option PV → Sto → Prop} {QX : String → Sto → Prop} {x : Int} (h : QR (some (xi x)) σ) (h1 : k ≤ R.cells) (h2 : n ≤ R.slots) : Aw Ω M_Law_insert R (MF Ω R QR QX) k n 25 L [xi x] σ := Aw.iret rfl h h1 h2 d_Law_insert_25
theorem r_Law_insert_27 {Ω : Om} {R : Room} {k n : Nat} {L : List PV} {σ : Sto} {QR : Option PV → Sto → Prop} {QX : String → Sto → Prop} {x : Int} (h : QR (some (xi x)) σ) (h1 : k ≤ R.cells) (h2 : n ≤ R.slots) : Aw Ω M_Law_insert R (MF Ω R QR QX) k n 27 L [xi x] σ := Aw.iret rfl h h1 h2 d_Law_insert_27
theorem e_Law_isAbove {Ω : Om} {R : Room} {QR : Option PV → Sto → Prop} {QX : String → Sto → Prop} {σ : Sto} {a0 : Nat} {v1 : Int} {v2 : Int} {a3 : Nat} (h : Aw Ω M_Law_isAbove R (MF Ω R QR QX) 0 0 0 [xr (some a0), xi v1, xi v2, xr (some a3), xu] [] σ) : MC Ω M_Law_isAbove R QR QX σ [xr (some a0), xi v1, xi v2, xr (some a3)] := MC.body (by decide +kernel) rfl (Nat.le_of_ble_eq_true rfl) rfl h
theorem b_Law_isAbove_20 {Ω : Om} {R : Room} {F : QF} {k n : Nat} {σ : Sto} {a0 : Nat} {v1 : Int} {v2 : Int} {a3 : Nat} {s0 : Nat} (h : Aw Ω M_Law_isAbove R F k n 23 [xr (some a0), xi v1, xi v2, xr (some a3), xr (some s0)] [xi 1] σ) : Aw Ω M_Law_isAbove R F k n 20 [xr (some a0), xi v1, xi v2, xr (some a3), xu] [xr (some s0)] σ := by
  refine Aw.astore (by decide) d_Law_isAbove_20 ?_
  refine Aw.toL (L' := [xr (some a0), xi v1, xi v2, xr (some a3), xr (some s0)]) rfl ?_
  refine Aw.iconst d_Law_isAbove_22 ?_
  exact h
theorem b_Law_isAbove_0 {Ω : Om} {R : Room} {F : QF} {k n : Nat} {σ : Sto} {a0 : Nat} {v1 : Int} {v2 : Int} {a3 : Nat} (h : Aw Ω M_Law_isAbove R F k n 5 [xr (some a0), xi v1, xi v2, xr (some a3), xu] [xi v2, xi v1, xr (some a0), xi 0, xr (some a3)] σ) : Aw Ω M_Law_isAbove R F k n 0 [xr (some a0), xi v1, xi v2, xr (some a3), xu] [] σ := by
  refine Aw.aload_n rfl d_Law_isAbove_0 ?_
  refine Aw.iconst d_Law_isAbove_1 ?_
  refine Aw.aload_n rfl d_Law_isAbove_2 ?_
  refine Aw.iload_n rfl d_Law_isAbove_3 ?_
  refine Aw.iload_n rfl d_Law_isAbove_4 ?_
  exact h
theorem b_Law_isAbove_8 {Ω : Om} {R : Room} {F : QF} {k n : Nat} {σ : Sto} {a0 : Nat} {v1 : Int} {v2 : Int} {a3 : Nat} {s0 : Nat} {s1 : Int} {s2 : Int} (h : Q32 s2 ∧ ((s2 = (0 : Int) → sK σ s0 = 51 ∧ 0 ≤ s1 ∧ s1 < sZ σ s0 ∧ Aw Ω M_Law_isAbove R F k n 25 [xr (some a0), xi v1, xi v2, xr (some a3), xu] [xi 0] (vL σ s0 (s1).toNat 0)) ∧ (¬ s2 = (0 : Int) → sK σ s0 = 51 ∧ 0 ≤ s1 ∧ s1 < sZ σ s0 ∧ Aw Ω M_Law_isAbove R F k n 25 [xr (some a0), xi v1, xi v2, xr (some a3), xu] [xi 0] (vL σ s0 (s1).toNat 1)))) : Aw Ω M_Law_isAbove R F k n 8 [xr (some a0), xi v1, xi v2, xr (some a3), xu] [xi s2, xi s1, xr (some s0)] σ := by
  obtain ⟨o1, h⟩ := h
  obtain ⟨ht, hf⟩ := h
  refine Aw.if_eq (tgt := 15) o1 (by decide) d_Law_isAbove_8 (fun c8 => ?_) (fun c8 => ?_)
  · have h := ht c8
    refine Aw.lconst (w := 0) (by decide) d_Law_isAbove_15 ?_
    obtain ⟨o2, h⟩ := h
    obtain ⟨o3, o4, h⟩ := h
    refine Aw.last o2 o3 o4 d_Law_isAbove_16 ?_
    refine Aw.goto (tgt := 24) (by decide) d_Law_isAbove_17 ?_
    refine Aw.iconst d_Law_isAbove_24 ?_
    exact h
  · have h := hf c8
    refine Aw.lconst (w := 1) (by decide) d_Law_isAbove_11 ?_
    refine Aw.goto (tgt := 16) (by decide) d_Law_isAbove_12 ?_
    obtain ⟨o5, h⟩ := h
    obtain ⟨o6, o7, h⟩ := h
    refine Aw.last o5 o6 o7 d_Law_isAbove_16 ?_
    refine Aw.goto (tgt := 24) (by decide) d_Law_isAbove_17 ?_
    refine Aw.iconst d_Law_isAbove_24 ?_
    exact h
theorem c_Law_isAbove_5 {Ω : Om} {R R' : Room} {F : QF} {k n : Nat} {L st : List PV} {σ : Sto} {QX' : String → Sto → Prop} {Q : Int → Sto → Prop} {a : Nat} {x0 : Int} {x1 : Int} (hc : MC Ω M_Dw_isAbove R' (RI Q) QX' σ [xr (some a), xi x0, xi x1]) (hk : sK σ a = 1) (hr1 : R'.frames + 1 ≤ R.frames) (hr2 : 8 + (4 + 11) + R'.locals ≤ R.locals) (hb1 : k + R'.cells ≤ R.cells) (hb2 : n + R'.slots ≤ R.slots) (hst : (st.map catP).sum ≤ 8) (kk : ∀ x σ', Q x σ' → Aw Ω M_Law_isAbove R F (k + R'.cells) (n + R'.slots) 8 L (xi x :: st) σ') (kx : ∀ E σ', QX' E σ' → Ax Ω M_Law_isAbove R F (k + R'.cells) (n + R'.slots) 5 L st σ' E) : Aw Ω M_Law_isAbove R F k n 5 L (xi x1 :: xi x0 :: xr (some a) :: st) σ :=
  Aw.callV (As := [xi x0, xi x1]) (stk := xi x1 :: xi x0 :: xr (some a) :: st) (nn := 2) 0 M_Dw_isAbove hc ok_Dw_isAbove rfl (by decide) rfl hk ml_Law_61 im_Dw_isAbove se_Dw_isAbove ⟨hr1, hr2⟩ rfl ⟨hb1, hb2⟩ hst rfl d_Law_isAbove_5 (fun r σ' h => by obtain ⟨x, rfl, h⟩ := h; exact kk x σ' h) kx
theorem r_Law_isAbove_23 {Ω : Om} {R : Room} {k n : Nat} {L : List PV} {σ : Sto} {QR : Option PV → Sto → Prop} {QX : String → Sto → Prop} {x : Int} (h : QR (some (xi x)) σ) (h1 : k ≤ R.cells) (h2 : n ≤ R.slots) : Aw Ω M_Law_isAbove R (MF Ω R QR QX) k n 23 L [xi x] σ := Aw.iret rfl h h1 h2 d_Law_isAbove_23
theorem r_Law_isAbove_25 {Ω : Om} {R : Room} {k n : Nat} {L : List PV} {σ : Sto} {QR : Option PV → Sto → Prop} {QX : String → Sto → Prop} {x : Int} (h : QR (some (xi x)) σ) (h1 : k ≤ R.cells) (h2 : n ≤ R.slots) : Aw Ω M_Law_isAbove R (MF Ω R QR QX) k n 25 L [xi x] σ := Aw.iret rfl h h1 h2 d_Law_isAbove_25
theorem e_Law_land {Ω : Om} {R : Room} {QR : Option PV → Sto → Prop} {QX : String → Sto → Prop} {σ : Sto} {a0 : Nat} {v1 : Int} {a2 : Nat} (h : Aw Ω M_Law_land R (MF Ω R QR QX) 0 0 0 [xr (some a0), xi v1, xr (some a2), xu] [] σ) : MC Ω M_Law_land R QR QX σ [xr (some a0), xi v1, xr (some a2)] := MC.body (by decide +kernel) rfl (Nat.le_of_ble_eq_true rfl) rfl h
theorem b_Law_land_15 {Ω : Om} {R : Room} {F : QF} {k n : Nat} {σ : Sto} {a0 : Nat} {v1 : Int} {a2 : Nat} {s0 : Nat} (h : Aw Ω M_Law_land R F k n 17 [xr (some a0), xi v1, xr (some a2), xr (some s0)] [xi 2] σ) : Aw Ω M_Law_land R F k n 15 [xr (some a0), xi v1, xr (some a2), xu] [xr (some s0)] σ := by
  refine Aw.astore_n (by decide) d_Law_land_15 ?_
  refine Aw.toL (L' := [xr (some a0), xi v1, xr (some a2), xr (some s0)]) rfl ?_
  refine Aw.iconst d_Law_land_16 ?_
  exact h
theorem b_Law_land_12 {Ω : Om} {R : Room} {F : QF} {k n : Nat} {σ : Sto} {a0 : Nat} {v1 : Int} {a2 : Nat} {s0 : Nat} (h : Aw Ω M_Law_land R F k n 14 [xr (some a0), xi v1, xr (some a2), xr (some s0)] [xi 1] σ) : Aw Ω M_Law_land R F k n 12 [xr (some a0), xi v1, xr (some a2), xu] [xr (some s0)] σ := by
  refine Aw.astore_n (by decide) d_Law_land_12 ?_
  refine Aw.toL (L' := [xr (some a0), xi v1, xr (some a2), xr (some s0)]) rfl ?_
  refine Aw.iconst d_Law_land_13 ?_
  exact h
theorem b_Law_land_0 {Ω : Om} {R : Room} {F : QF} {k n : Nat} {σ : Sto} {a0 : Nat} {v1 : Int} {a2 : Nat} (h : Aw Ω M_Law_land R F k n 4 [xr (some a0), xi v1, xr (some a2), xu] [xi v1, xr (some a0), xi 0, xr (some a2)] σ) : Aw Ω M_Law_land R F k n 0 [xr (some a0), xi v1, xr (some a2), xu] [] σ := by
  refine Aw.aload_n rfl d_Law_land_0 ?_
  refine Aw.iconst d_Law_land_1 ?_
  refine Aw.aload_n rfl d_Law_land_2 ?_
  refine Aw.iload_n rfl d_Law_land_3 ?_
  exact h
theorem b_Law_land_7 {Ω : Om} {R : Room} {F : QF} {k n : Nat} {σ : Sto} {a0 : Nat} {v1 : Int} {a2 : Nat} {s0 : Nat} {s1 : Int} {s2 : Int} (h : sK σ s0 = 51 ∧ 0 ≤ s1 ∧ s1 < sZ σ s0 ∧ Aw Ω M_Law_land R F k n 19 [xr (some a0), xi v1, xr (some a2), xu] [xi 0] (vL σ s0 (s1).toNat (lOf s2))) : Aw Ω M_Law_land R F k n 7 [xr (some a0), xi v1, xr (some a2), xu] [xi s2, xi s1, xr (some s0)] σ := by
  refine Aw.i2l d_Law_land_7 ?_
  obtain ⟨o1, h⟩ := h
  obtain ⟨o2, o3, h⟩ := h
  refine Aw.last o1 o2 o3 d_Law_land_8 ?_
  refine Aw.goto (tgt := 18) (by decide) d_Law_land_9 ?_
  refine Aw.iconst d_Law_land_18 ?_
  exact h
theorem c_Law_land_4 {Ω : Om} {R R' : Room} {F : QF} {k n : Nat} {L st : List PV} {σ : Sto} {QX' : String → Sto → Prop} {Q : Int → Sto → Prop} {a : Nat} {x0 : Int} (hc : MC Ω M_Dw_land R' (RI Q) QX' σ [xr (some a), xi x0]) (hk : sK σ a = 1) (hr1 : R'.frames + 1 ≤ R.frames) (hr2 : 8 + (5 + 11) + R'.locals ≤ R.locals) (hb1 : k + R'.cells ≤ R.cells) (hb2 : n + R'.slots ≤ R.slots) (hst : (st.map catP).sum ≤ 8) (kk : ∀ x σ', Q x σ' → Aw Ω M_Law_land R F (k + R'.cells) (n + R'.slots) 7 L (xi x :: st) σ') (kx : ∀ E σ', QX' E σ' → Ax Ω M_Law_land R F (k + R'.cells) (n + R'.slots) 4 L st σ' E) : Aw Ω M_Law_land R F k n 4 L (xi x0 :: xr (some a) :: st) σ :=
  Aw.callV (As := [xi x0]) (stk := xi x0 :: xr (some a) :: st) (nn := 1) 0 M_Dw_land hc ok_Dw_land rfl (by decide) rfl hk ml_Law_122 im_Dw_land se_Dw_land ⟨hr1, hr2⟩ rfl ⟨hb1, hb2⟩ hst rfl d_Law_land_4 (fun r σ' h => by obtain ⟨x, rfl, h⟩ := h; exact kk x σ' h) kx
theorem r_Law_land_14 {Ω : Om} {R : Room} {k n : Nat} {L : List PV} {σ : Sto} {QR : Option PV → Sto → Prop} {QX : String → Sto → Prop} {x : Int} (h : QR (some (xi x)) σ) (h1 : k ≤ R.cells) (h2 : n ≤ R.slots) : Aw Ω M_Law_land R (MF Ω R QR QX) k n 14 L [xi x] σ := Aw.iret rfl h h1 h2 d_Law_land_14
theorem r_Law_land_17 {Ω : Om} {R : Room} {k n : Nat} {L : List PV} {σ : Sto} {QR : Option PV → Sto → Prop} {QX : String → Sto → Prop} {x : Int} (h : QR (some (xi x)) σ) (h1 : k ≤ R.cells) (h2 : n ≤ R.slots) : Aw Ω M_Law_land R (MF Ω R QR QX) k n 17 L [xi x] σ := Aw.iret rfl h h1 h2 d_Law_land_17
theorem r_Law_land_19 {Ω : Om} {R : Room} {k n : Nat} {L : List PV} {σ : Sto} {QR : Option PV → Sto → Prop} {QX : String → Sto → Prop} {x : Int} (h : QR (some (xi x)) σ) (h1 : k ≤ R.cells) (h2 : n ≤ R.slots) : Aw Ω M_Law_land R (MF Ω R QR QX) k n 19 L [xi x] σ := Aw.iret rfl h h1 h2 d_Law_land_19
theorem e_Law_lay {Ω : Om} {R : Room} {QR : Option PV → Sto → Prop} {QX : String → Sto → Prop} {σ : Sto} {a0 : Nat} {v1 : Int} {v2 : Int} {a3 : Nat} (h : Aw Ω M_Law_lay R (MF Ω R QR QX) 0 0 0 [xr (some a0), xi v1, xi v2, xr (some a3), xu] [] σ) : MC Ω M_Law_lay R QR QX σ [xr (some a0), xi v1, xi v2, xr (some a3)] := MC.body (by decide +kernel) rfl (Nat.le_of_ble_eq_true rfl) rfl h
theorem b_Law_lay_21 {Ω : Om} {R : Room} {F : QF} {k n : Nat} {σ : Sto} {a0 : Nat} {v1 : Int} {v2 : Int} {a3 : Nat} {s0 : Nat} (h : Aw Ω M_Law_lay R F k n 24 [xr (some a0), xi v1, xi v2, xr (some a3), xr (some s0)] [xi 3] σ) : Aw Ω M_Law_lay R F k n 21 [xr (some a0), xi v1, xi v2, xr (some a3), xu] [xr (some s0)] σ := by
  refine Aw.astore (by decide) d_Law_lay_21 ?_
  refine Aw.toL (L' := [xr (some a0), xi v1, xi v2, xr (some a3), xr (some s0)]) rfl ?_
  refine Aw.iconst d_Law_lay_23 ?_
  exact h
theorem b_Law_lay_17 {Ω : Om} {R : Room} {F : QF} {k n : Nat} {σ : Sto} {a0 : Nat} {v1 : Int} {v2 : Int} {a3 : Nat} {s0 : Nat} (h : Aw Ω M_Law_lay R F k n 20 [xr (some a0), xi v1, xi v2, xr (some a3), xr (some s0)] [xi 2] σ) : Aw Ω M_Law_lay R F k n 17 [xr (some a0), xi v1, xi v2, xr (some a3), xu] [xr (some s0)] σ := by
  refine Aw.astore (by decide) d_Law_lay_17 ?_
  refine Aw.toL (L' := [xr (some a0), xi v1, xi v2, xr (some a3), xr (some s0)]) rfl ?_
  refine Aw.iconst d_Law_lay_19 ?_
  exact h
theorem b_Law_lay_13 {Ω : Om} {R : Room} {F : QF} {k n : Nat} {σ : Sto} {a0 : Nat} {v1 : Int} {v2 : Int} {a3 : Nat} {s0 : Nat} (h : Aw Ω M_Law_lay R F k n 16 [xr (some a0), xi v1, xi v2, xr (some a3), xr (some s0)] [xi 1] σ) : Aw Ω M_Law_lay R F k n 13 [xr (some a0), xi v1, xi v2, xr (some a3), xu] [xr (some s0)] σ := by
  refine Aw.astore (by decide) d_Law_lay_13 ?_
  refine Aw.toL (L' := [xr (some a0), xi v1, xi v2, xr (some a3), xr (some s0)]) rfl ?_
  refine Aw.iconst d_Law_lay_15 ?_
  exact h
theorem b_Law_lay_0 {Ω : Om} {R : Room} {F : QF} {k n : Nat} {σ : Sto} {a0 : Nat} {v1 : Int} {v2 : Int} {a3 : Nat} (h : Aw Ω M_Law_lay R F k n 5 [xr (some a0), xi v1, xi v2, xr (some a3), xu] [xi v2, xi v1, xr (some a0), xi 0, xr (some a3)] σ) : Aw Ω M_Law_lay R F k n 0 [xr (some a0), xi v1, xi v2, xr (some a3), xu] [] σ := by
  refine Aw.aload_n rfl d_Law_lay_0 ?_
  refine Aw.iconst d_Law_lay_1 ?_
  refine Aw.aload_n rfl d_Law_lay_2 ?_
  refine Aw.iload_n rfl d_Law_lay_3 ?_
  refine Aw.iload_n rfl d_Law_lay_4 ?_
  exact h
theorem b_Law_lay_8 {Ω : Om} {R : Room} {F : QF} {k n : Nat} {σ : Sto} {a0 : Nat} {v1 : Int} {v2 : Int} {a3 : Nat} {s0 : Nat} {s1 : Int} {s2 : Int} (h : sK σ s0 = 51 ∧ 0 ≤ s1 ∧ s1 < sZ σ s0 ∧ Aw Ω M_Law_lay R F k n 26 [xr (some a0), xi v1, xi v2, xr (some a3), xu] [xi 0] (vL σ s0 (s1).toNat (lOf s2))) : Aw Ω M_Law_lay R F k n 8 [xr (some a0), xi v1, xi v2, xr (some a3), xu] [xi s2, xi s1, xr (some s0)] σ := by
  refine Aw.i2l d_Law_lay_8 ?_
  obtain ⟨o1, h⟩ := h
  obtain ⟨o2, o3, h⟩ := h
  refine Aw.last o1 o2 o3 d_Law_lay_9 ?_
  refine Aw.goto (tgt := 25) (by decide) d_Law_lay_10 ?_
  refine Aw.iconst d_Law_lay_25 ?_
  exact h
theorem c_Law_lay_5 {Ω : Om} {R R' : Room} {F : QF} {k n : Nat} {L st : List PV} {σ : Sto} {QX' : String → Sto → Prop} {Q : Int → Sto → Prop} {a : Nat} {x0 : Int} {x1 : Int} (hc : MC Ω M_Dw_lay R' (RI Q) QX' σ [xr (some a), xi x0, xi x1]) (hk : sK σ a = 1) (hr1 : R'.frames + 1 ≤ R.frames) (hr2 : 8 + (5 + 11) + R'.locals ≤ R.locals) (hb1 : k + R'.cells ≤ R.cells) (hb2 : n + R'.slots ≤ R.slots) (hst : (st.map catP).sum ≤ 8) (kk : ∀ x σ', Q x σ' → Aw Ω M_Law_lay R F (k + R'.cells) (n + R'.slots) 8 L (xi x :: st) σ') (kx : ∀ E σ', QX' E σ' → Ax Ω M_Law_lay R F (k + R'.cells) (n + R'.slots) 5 L st σ' E) : Aw Ω M_Law_lay R F k n 5 L (xi x1 :: xi x0 :: xr (some a) :: st) σ :=
  Aw.callV (As := [xi x0, xi x1]) (stk := xi x1 :: xi x0 :: xr (some a) :: st) (nn := 2) 0 M_Dw_lay hc ok_Dw_lay rfl (by decide) rfl hk ml_Law_104 im_Dw_lay se_Dw_lay ⟨hr1, hr2⟩ rfl ⟨hb1, hb2⟩ hst rfl d_Law_lay_5 (fun r σ' h => by obtain ⟨x, rfl, h⟩ := h; exact kk x σ' h) kx
theorem r_Law_lay_16 {Ω : Om} {R : Room} {k n : Nat} {L : List PV} {σ : Sto} {QR : Option PV → Sto → Prop} {QX : String → Sto → Prop} {x : Int} (h : QR (some (xi x)) σ) (h1 : k ≤ R.cells) (h2 : n ≤ R.slots) : Aw Ω M_Law_lay R (MF Ω R QR QX) k n 16 L [xi x] σ := Aw.iret rfl h h1 h2 d_Law_lay_16
theorem r_Law_lay_20 {Ω : Om} {R : Room} {k n : Nat} {L : List PV} {σ : Sto} {QR : Option PV → Sto → Prop} {QX : String → Sto → Prop} {x : Int} (h : QR (some (xi x)) σ) (h1 : k ≤ R.cells) (h2 : n ≤ R.slots) : Aw Ω M_Law_lay R (MF Ω R QR QX) k n 20 L [xi x] σ := Aw.iret rfl h h1 h2 d_Law_lay_20
theorem r_Law_lay_24 {Ω : Om} {R : Room} {k n : Nat} {L : List PV} {σ : Sto} {QR : Option PV → Sto → Prop} {QX : String → Sto → Prop} {x : Int} (h : QR (some (xi x)) σ) (h1 : k ≤ R.cells) (h2 : n ≤ R.slots) : Aw Ω M_Law_lay R (MF Ω R QR QX) k n 24 L [xi x] σ := Aw.iret rfl h h1 h2 d_Law_lay_24
theorem r_Law_lay_26 {Ω : Om} {R : Room} {k n : Nat} {L : List PV} {σ : Sto} {QR : Option PV → Sto → Prop} {QX : String → Sto → Prop} {x : Int} (h : QR (some (xi x)) σ) (h1 : k ≤ R.cells) (h2 : n ≤ R.slots) : Aw Ω M_Law_lay R (MF Ω R QR QX) k n 26 L [xi x] σ := Aw.iret rfl h h1 h2 d_Law_lay_26
theorem e_Law_likeness {Ω : Om} {R : Room} {QR : Option PV → Sto → Prop} {QX : String → Sto → Prop} {σ : Sto} {a0 : Nat} {v1 : Int64} {v3 : Int64} {a5 : Nat} (h : Aw Ω M_Law_likeness R (MF Ω R QR QX) 0 0 0 [xr (some a0), xl v1, xu, xl v3, xu, xr (some a5), xu] [] σ) : MC Ω M_Law_likeness R QR QX σ [xr (some a0), xl v1, xl v3, xr (some a5)] := MC.body (by decide +kernel) rfl (Nat.le_of_ble_eq_true rfl) rfl h
theorem b_Law_likeness_14 {Ω : Om} {R : Room} {F : QF} {k n : Nat} {σ : Sto} {a0 : Nat} {v1 : Int64} {v3 : Int64} {a5 : Nat} {s0 : Nat} (h : Aw Ω M_Law_likeness R F k n 17 [xr (some a0), xl v1, xu, xl v3, xu, xr (some a5), xr (some s0)] [xi 1] σ) : Aw Ω M_Law_likeness R F k n 14 [xr (some a0), xl v1, xu, xl v3, xu, xr (some a5), xu] [xr (some s0)] σ := by
  refine Aw.astore (by decide) d_Law_likeness_14 ?_
  refine Aw.toL (L' := [xr (some a0), xl v1, xu, xl v3, xu, xr (some a5), xr (some s0)]) rfl ?_
  refine Aw.iconst d_Law_likeness_16 ?_
  exact h
theorem b_Law_likeness_0 {Ω : Om} {R : Room} {F : QF} {k n : Nat} {σ : Sto} {a0 : Nat} {v1 : Int64} {v3 : Int64} {a5 : Nat} (h : Aw Ω M_Law_likeness R F k n 6 [xr (some a0), xl v1, xu, xl v3, xu, xr (some a5), xu] [xl v3, xl v1, xr (some a0), xi 0, xr (some a5)] σ) : Aw Ω M_Law_likeness R F k n 0 [xr (some a0), xl v1, xu, xl v3, xu, xr (some a5), xu] [] σ := by
  refine Aw.aload rfl d_Law_likeness_0 ?_
  refine Aw.iconst d_Law_likeness_2 ?_
  refine Aw.aload_n rfl d_Law_likeness_3 ?_
  refine Aw.lload_n rfl d_Law_likeness_4 ?_
  refine Aw.lload_n rfl d_Law_likeness_5 ?_
  exact h
theorem b_Law_likeness_9 {Ω : Om} {R : Room} {F : QF} {k n : Nat} {σ : Sto} {a0 : Nat} {v1 : Int64} {v3 : Int64} {a5 : Nat} {s0 : Nat} {s1 : Int} {s2 : Int} (h : sK σ s0 = 51 ∧ 0 ≤ s1 ∧ s1 < sZ σ s0 ∧ Aw Ω M_Law_likeness R F k n 19 [xr (some a0), xl v1, xu, xl v3, xu, xr (some a5), xu] [xi 0] (vL σ s0 (s1).toNat (lOf s2))) : Aw Ω M_Law_likeness R F k n 9 [xr (some a0), xl v1, xu, xl v3, xu, xr (some a5), xu] [xi s2, xi s1, xr (some s0)] σ := by
  refine Aw.i2l d_Law_likeness_9 ?_
  obtain ⟨o1, h⟩ := h
  obtain ⟨o2, o3, h⟩ := h
  refine Aw.last o1 o2 o3 d_Law_likeness_10 ?_
  refine Aw.goto (tgt := 18) (by decide) d_Law_likeness_11 ?_
  refine Aw.iconst d_Law_likeness_18 ?_
  exact h
theorem c_Law_likeness_6 {Ω : Om} {R R' : Room} {F : QF} {k n : Nat} {L st : List PV} {σ : Sto} {QX' : String → Sto → Prop} {Q : Int → Sto → Prop} {a : Nat} {x0 : Int64} {x1 : Int64} (hc : MC Ω M_Dw_likeness R' (RI Q) QX' σ [xr (some a), xl x0, xl x1]) (hk : sK σ a = 1) (hr1 : R'.frames + 1 ≤ R.frames) (hr2 : 8 + (5 + 11) + R'.locals ≤ R.locals) (hb1 : k + R'.cells ≤ R.cells) (hb2 : n + R'.slots ≤ R.slots) (hst : (st.map catP).sum ≤ 8) (kk : ∀ x σ', Q x σ' → Aw Ω M_Law_likeness R F (k + R'.cells) (n + R'.slots) 9 L (xi x :: st) σ') (kx : ∀ E σ', QX' E σ' → Ax Ω M_Law_likeness R F (k + R'.cells) (n + R'.slots) 6 L st σ' E) : Aw Ω M_Law_likeness R F k n 6 L (xl x1 :: xl x0 :: xr (some a) :: st) σ :=
  Aw.callV (As := [xl x0, xl x1]) (stk := xl x1 :: xl x0 :: xr (some a) :: st) (nn := 2) 0 M_Dw_likeness hc ok_Dw_likeness rfl (by decide) rfl hk ml_Law_75 im_Dw_likeness se_Dw_likeness ⟨hr1, hr2⟩ rfl ⟨hb1, hb2⟩ hst rfl d_Law_likeness_6 (fun r σ' h => by obtain ⟨x, rfl, h⟩ := h; exact kk x σ' h) kx
theorem r_Law_likeness_17 {Ω : Om} {R : Room} {k n : Nat} {L : List PV} {σ : Sto} {QR : Option PV → Sto → Prop} {QX : String → Sto → Prop} {x : Int} (h : QR (some (xi x)) σ) (h1 : k ≤ R.cells) (h2 : n ≤ R.slots) : Aw Ω M_Law_likeness R (MF Ω R QR QX) k n 17 L [xi x] σ := Aw.iret rfl h h1 h2 d_Law_likeness_17
theorem r_Law_likeness_19 {Ω : Om} {R : Room} {k n : Nat} {L : List PV} {σ : Sto} {QR : Option PV → Sto → Prop} {QX : String → Sto → Prop} {x : Int} (h : QR (some (xi x)) σ) (h1 : k ≤ R.cells) (h2 : n ≤ R.slots) : Aw Ω M_Law_likeness R (MF Ω R QR QX) k n 19 L [xi x] σ := Aw.iret rfl h h1 h2 d_Law_likeness_19
theorem e_Law_lineAnew {Ω : Om} {R : Room} {QR : Option PV → Sto → Prop} {QX : String → Sto → Prop} {σ : Sto} {a0 : Nat} {v1 : Int} {v2 : Int} {a3 : Nat} (h : Aw Ω M_Law_lineAnew R (MF Ω R QR QX) 0 0 0 [xr (some a0), xi v1, xi v2, xr (some a3), xu] [] σ) : MC Ω M_Law_lineAnew R QR QX σ [xr (some a0), xi v1, xi v2, xr (some a3)] := MC.body (by decide +kernel) rfl (Nat.le_of_ble_eq_true rfl) rfl h
theorem b_Law_lineAnew_12 {Ω : Om} {R : Room} {F : QF} {k n : Nat} {σ : Sto} {a0 : Nat} {v1 : Int} {v2 : Int} {a3 : Nat} {s0 : Nat} (h : Aw Ω M_Law_lineAnew R F k n 15 [xr (some a0), xi v1, xi v2, xr (some a3), xr (some s0)] [xi 1] σ) : Aw Ω M_Law_lineAnew R F k n 12 [xr (some a0), xi v1, xi v2, xr (some a3), xu] [xr (some s0)] σ := by
  refine Aw.astore (by decide) d_Law_lineAnew_12 ?_
  refine Aw.toL (L' := [xr (some a0), xi v1, xi v2, xr (some a3), xr (some s0)]) rfl ?_
  refine Aw.iconst d_Law_lineAnew_14 ?_
  exact h
theorem b_Law_lineAnew_0 {Ω : Om} {R : Room} {F : QF} {k n : Nat} {σ : Sto} {a0 : Nat} {v1 : Int} {v2 : Int} {a3 : Nat} (h : Aw Ω M_Law_lineAnew R F k n 5 [xr (some a0), xi v1, xi v2, xr (some a3), xu] [xi v2, xi v1, xr (some a0), xi 0, xr (some a3)] σ) : Aw Ω M_Law_lineAnew R F k n 0 [xr (some a0), xi v1, xi v2, xr (some a3), xu] [] σ := by
  refine Aw.aload_n rfl d_Law_lineAnew_0 ?_
  refine Aw.iconst d_Law_lineAnew_1 ?_
  refine Aw.aload_n rfl d_Law_lineAnew_2 ?_
  refine Aw.iload_n rfl d_Law_lineAnew_3 ?_
  refine Aw.iload_n rfl d_Law_lineAnew_4 ?_
  exact h
theorem b_Law_lineAnew_8 {Ω : Om} {R : Room} {F : QF} {k n : Nat} {σ : Sto} {a0 : Nat} {v1 : Int} {v2 : Int} {a3 : Nat} {s0 : Nat} {s1 : Int} {s2 : Int64} (h : sK σ s0 = 51 ∧ 0 ≤ s1 ∧ s1 < sZ σ s0 ∧ Aw Ω M_Law_lineAnew R F k n 17 [xr (some a0), xi v1, xi v2, xr (some a3), xu] [xi 0] (vL σ s0 (s1).toNat s2)) : Aw Ω M_Law_lineAnew R F k n 8 [xr (some a0), xi v1, xi v2, xr (some a3), xu] [xl s2, xi s1, xr (some s0)] σ := by
  obtain ⟨o1, h⟩ := h
  obtain ⟨o2, o3, h⟩ := h
  refine Aw.last o1 o2 o3 d_Law_lineAnew_8 ?_
  refine Aw.goto (tgt := 16) (by decide) d_Law_lineAnew_9 ?_
  refine Aw.iconst d_Law_lineAnew_16 ?_
  exact h
theorem c_Law_lineAnew_5 {Ω : Om} {R R' : Room} {F : QF} {k n : Nat} {L st : List PV} {σ : Sto} {QX' : String → Sto → Prop} {Q : Int64 → Sto → Prop} {a : Nat} {x0 : Int} {x1 : Int} (hc : MC Ω M_Dw_lineAnew R' (RL Q) QX' σ [xr (some a), xi x0, xi x1]) (hk : sK σ a = 1) (hr1 : R'.frames + 1 ≤ R.frames) (hr2 : 8 + (5 + 11) + R'.locals ≤ R.locals) (hb1 : k + R'.cells ≤ R.cells) (hb2 : n + R'.slots ≤ R.slots) (hst : (st.map catP).sum ≤ 8) (kk : ∀ x σ', Q x σ' → Aw Ω M_Law_lineAnew R F (k + R'.cells) (n + R'.slots) 8 L (xl x :: st) σ') (kx : ∀ E σ', QX' E σ' → Ax Ω M_Law_lineAnew R F (k + R'.cells) (n + R'.slots) 5 L st σ' E) : Aw Ω M_Law_lineAnew R F k n 5 L (xi x1 :: xi x0 :: xr (some a) :: st) σ :=
  Aw.callV (As := [xi x0, xi x1]) (stk := xi x1 :: xi x0 :: xr (some a) :: st) (nn := 2) 0 M_Dw_lineAnew hc ok_Dw_lineAnew rfl (by decide) rfl hk ml_Law_52 im_Dw_lineAnew se_Dw_lineAnew ⟨hr1, hr2⟩ rfl ⟨hb1, hb2⟩ hst rfl d_Law_lineAnew_5 (fun r σ' h => by obtain ⟨x, rfl, h⟩ := h; exact kk x σ' h) kx
theorem r_Law_lineAnew_15 {Ω : Om} {R : Room} {k n : Nat} {L : List PV} {σ : Sto} {QR : Option PV → Sto → Prop} {QX : String → Sto → Prop} {x : Int} (h : QR (some (xi x)) σ) (h1 : k ≤ R.cells) (h2 : n ≤ R.slots) : Aw Ω M_Law_lineAnew R (MF Ω R QR QX) k n 15 L [xi x] σ := Aw.iret rfl h h1 h2 d_Law_lineAnew_15
theorem r_Law_lineAnew_17 {Ω : Om} {R : Room} {k n : Nat} {L : List PV} {σ : Sto} {QR : Option PV → Sto → Prop} {QX : String → Sto → Prop} {x : Int} (h : QR (some (xi x)) σ) (h1 : k ≤ R.cells) (h2 : n ≤ R.slots) : Aw Ω M_Law_lineAnew R (MF Ω R QR QX) k n 17 L [xi x] σ := Aw.iret rfl h h1 h2 d_Law_lineAnew_17
theorem e_Law_lineOf {Ω : Om} {R : Room} {QR : Option PV → Sto → Prop} {QX : String → Sto → Prop} {σ : Sto} {a0 : Nat} {v1 : Int} {v2 : Int} {a3 : Nat} (h : Aw Ω M_Law_lineOf R (MF Ω R QR QX) 0 0 0 [xr (some a0), xi v1, xi v2, xr (some a3), xu] [] σ) : MC Ω M_Law_lineOf R QR QX σ [xr (some a0), xi v1, xi v2, xr (some a3)] := MC.body (by decide +kernel) rfl (Nat.le_of_ble_eq_true rfl) rfl h
theorem b_Law_lineOf_12 {Ω : Om} {R : Room} {F : QF} {k n : Nat} {σ : Sto} {a0 : Nat} {v1 : Int} {v2 : Int} {a3 : Nat} {s0 : Nat} (h : Aw Ω M_Law_lineOf R F k n 15 [xr (some a0), xi v1, xi v2, xr (some a3), xr (some s0)] [xi 1] σ) : Aw Ω M_Law_lineOf R F k n 12 [xr (some a0), xi v1, xi v2, xr (some a3), xu] [xr (some s0)] σ := by
  refine Aw.astore (by decide) d_Law_lineOf_12 ?_
  refine Aw.toL (L' := [xr (some a0), xi v1, xi v2, xr (some a3), xr (some s0)]) rfl ?_
  refine Aw.iconst d_Law_lineOf_14 ?_
  exact h
theorem b_Law_lineOf_0 {Ω : Om} {R : Room} {F : QF} {k n : Nat} {σ : Sto} {a0 : Nat} {v1 : Int} {v2 : Int} {a3 : Nat} (h : Aw Ω M_Law_lineOf R F k n 5 [xr (some a0), xi v1, xi v2, xr (some a3), xu] [xi v2, xi v1, xr (some a0), xi 0, xr (some a3)] σ) : Aw Ω M_Law_lineOf R F k n 0 [xr (some a0), xi v1, xi v2, xr (some a3), xu] [] σ := by
  refine Aw.aload_n rfl d_Law_lineOf_0 ?_
  refine Aw.iconst d_Law_lineOf_1 ?_
  refine Aw.aload_n rfl d_Law_lineOf_2 ?_
  refine Aw.iload_n rfl d_Law_lineOf_3 ?_
  refine Aw.iload_n rfl d_Law_lineOf_4 ?_
  exact h
theorem b_Law_lineOf_8 {Ω : Om} {R : Room} {F : QF} {k n : Nat} {σ : Sto} {a0 : Nat} {v1 : Int} {v2 : Int} {a3 : Nat} {s0 : Nat} {s1 : Int} {s2 : Int64} (h : sK σ s0 = 51 ∧ 0 ≤ s1 ∧ s1 < sZ σ s0 ∧ Aw Ω M_Law_lineOf R F k n 17 [xr (some a0), xi v1, xi v2, xr (some a3), xu] [xi 0] (vL σ s0 (s1).toNat s2)) : Aw Ω M_Law_lineOf R F k n 8 [xr (some a0), xi v1, xi v2, xr (some a3), xu] [xl s2, xi s1, xr (some s0)] σ := by
  obtain ⟨o1, h⟩ := h
  obtain ⟨o2, o3, h⟩ := h
  refine Aw.last o1 o2 o3 d_Law_lineOf_8 ?_
  refine Aw.goto (tgt := 16) (by decide) d_Law_lineOf_9 ?_
  refine Aw.iconst d_Law_lineOf_16 ?_
  exact h
theorem c_Law_lineOf_5 {Ω : Om} {R R' : Room} {F : QF} {k n : Nat} {L st : List PV} {σ : Sto} {QX' : String → Sto → Prop} {Q : Int64 → Sto → Prop} {a : Nat} {x0 : Int} {x1 : Int} (hc : MC Ω M_Dw_lineOf R' (RL Q) QX' σ [xr (some a), xi x0, xi x1]) (hk : sK σ a = 1) (hr1 : R'.frames + 1 ≤ R.frames) (hr2 : 8 + (4 + 11) + R'.locals ≤ R.locals) (hb1 : k + R'.cells ≤ R.cells) (hb2 : n + R'.slots ≤ R.slots) (hst : (st.map catP).sum ≤ 8) (kk : ∀ x σ', Q x σ' → Aw Ω M_Law_lineOf R F (k + R'.cells) (n + R'.slots) 8 L (xl x :: st) σ') (kx : ∀ E σ', QX' E σ' → Ax Ω M_Law_lineOf R F (k + R'.cells) (n + R'.slots) 5 L st σ' E) : Aw Ω M_Law_lineOf R F k n 5 L (xi x1 :: xi x0 :: xr (some a) :: st) σ :=
  Aw.callV (As := [xi x0, xi x1]) (stk := xi x1 :: xi x0 :: xr (some a) :: st) (nn := 2) 0 M_Dw_lineOf hc ok_Dw_lineOf rfl (by decide) rfl hk ml_Law_48 im_Dw_lineOf se_Dw_lineOf ⟨hr1, hr2⟩ rfl ⟨hb1, hb2⟩ hst rfl d_Law_lineOf_5 (fun r σ' h => by obtain ⟨x, rfl, h⟩ := h; exact kk x σ' h) kx
theorem r_Law_lineOf_15 {Ω : Om} {R : Room} {k n : Nat} {L : List PV} {σ : Sto} {QR : Option PV → Sto → Prop} {QX : String → Sto → Prop} {x : Int} (h : QR (some (xi x)) σ) (h1 : k ≤ R.cells) (h2 : n ≤ R.slots) : Aw Ω M_Law_lineOf R (MF Ω R QR QX) k n 15 L [xi x] σ := Aw.iret rfl h h1 h2 d_Law_lineOf_15
theorem r_Law_lineOf_17 {Ω : Om} {R : Room} {k n : Nat} {L : List PV} {σ : Sto} {QR : Option PV → Sto → Prop} {QX : String → Sto → Prop} {x : Int} (h : QR (some (xi x)) σ) (h1 : k ≤ R.cells) (h2 : n ≤ R.slots) : Aw Ω M_Law_lineOf R (MF Ω R QR QX) k n 17 L [xi x] σ := Aw.iret rfl h h1 h2 d_Law_lineOf_17
theorem e_Law_lines {Ω : Om} {R : Room} {QR : Option PV → Sto → Prop} {QX : String → Sto → Prop} {σ : Sto} {a0 : Nat} {v1 : Int} {a2 : Nat} (h : Aw Ω M_Law_lines R (MF Ω R QR QX) 0 0 0 [xr (some a0), xi v1, xr (some a2), xu] [] σ) : MC Ω M_Law_lines R QR QX σ [xr (some a0), xi v1, xr (some a2)] := MC.body (by decide +kernel) rfl (Nat.le_of_ble_eq_true rfl) rfl h
theorem b_Law_lines_12 {Ω : Om} {R : Room} {F : QF} {k n : Nat} {σ : Sto} {a0 : Nat} {v1 : Int} {a2 : Nat} {s0 : Nat} (h : Aw Ω M_Law_lines R F k n 14 [xr (some a0), xi v1, xr (some a2), xr (some s0)] [xi 1] σ) : Aw Ω M_Law_lines R F k n 12 [xr (some a0), xi v1, xr (some a2), xu] [xr (some s0)] σ := by
  refine Aw.astore_n (by decide) d_Law_lines_12 ?_
  refine Aw.toL (L' := [xr (some a0), xi v1, xr (some a2), xr (some s0)]) rfl ?_
  refine Aw.iconst d_Law_lines_13 ?_
  exact h
theorem b_Law_lines_0 {Ω : Om} {R : Room} {F : QF} {k n : Nat} {σ : Sto} {a0 : Nat} {v1 : Int} {a2 : Nat} (h : Aw Ω M_Law_lines R F k n 4 [xr (some a0), xi v1, xr (some a2), xu] [xi v1, xr (some a0), xi 0, xr (some a2)] σ) : Aw Ω M_Law_lines R F k n 0 [xr (some a0), xi v1, xr (some a2), xu] [] σ := by
  refine Aw.aload_n rfl d_Law_lines_0 ?_
  refine Aw.iconst d_Law_lines_1 ?_
  refine Aw.aload_n rfl d_Law_lines_2 ?_
  refine Aw.iload_n rfl d_Law_lines_3 ?_
  exact h
theorem b_Law_lines_7 {Ω : Om} {R : Room} {F : QF} {k n : Nat} {σ : Sto} {a0 : Nat} {v1 : Int} {a2 : Nat} {s0 : Nat} {s1 : Int} {s2 : Int} (h : sK σ s0 = 51 ∧ 0 ≤ s1 ∧ s1 < sZ σ s0 ∧ Aw Ω M_Law_lines R F k n 16 [xr (some a0), xi v1, xr (some a2), xu] [xi 0] (vL σ s0 (s1).toNat (lOf s2))) : Aw Ω M_Law_lines R F k n 7 [xr (some a0), xi v1, xr (some a2), xu] [xi s2, xi s1, xr (some s0)] σ := by
  refine Aw.i2l d_Law_lines_7 ?_
  obtain ⟨o1, h⟩ := h
  obtain ⟨o2, o3, h⟩ := h
  refine Aw.last o1 o2 o3 d_Law_lines_8 ?_
  refine Aw.goto (tgt := 15) (by decide) d_Law_lines_9 ?_
  refine Aw.iconst d_Law_lines_15 ?_
  exact h
theorem c_Law_lines_4 {Ω : Om} {R R' : Room} {F : QF} {k n : Nat} {L st : List PV} {σ : Sto} {QX' : String → Sto → Prop} {Q : Int → Sto → Prop} {a : Nat} {x0 : Int} (hc : MC Ω M_Dw_lines R' (RI Q) QX' σ [xr (some a), xi x0]) (hk : sK σ a = 1) (hr1 : R'.frames + 1 ≤ R.frames) (hr2 : 8 + (2 + 11) + R'.locals ≤ R.locals) (hb1 : k + R'.cells ≤ R.cells) (hb2 : n + R'.slots ≤ R.slots) (hst : (st.map catP).sum ≤ 8) (kk : ∀ x σ', Q x σ' → Aw Ω M_Law_lines R F (k + R'.cells) (n + R'.slots) 7 L (xi x :: st) σ') (kx : ∀ E σ', QX' E σ' → Ax Ω M_Law_lines R F (k + R'.cells) (n + R'.slots) 4 L st σ' E) : Aw Ω M_Law_lines R F k n 4 L (xi x0 :: xr (some a) :: st) σ :=
  Aw.callV (As := [xi x0]) (stk := xi x0 :: xr (some a) :: st) (nn := 1) 0 M_Dw_lines hc ok_Dw_lines rfl (by decide) rfl hk ml_Law_45 im_Dw_lines se_Dw_lines ⟨hr1, hr2⟩ rfl ⟨hb1, hb2⟩ hst rfl d_Law_lines_4 (fun r σ' h => by obtain ⟨x, rfl, h⟩ := h; exact kk x σ' h) kx
theorem r_Law_lines_14 {Ω : Om} {R : Room} {k n : Nat} {L : List PV} {σ : Sto} {QR : Option PV → Sto → Prop} {QX : String → Sto → Prop} {x : Int} (h : QR (some (xi x)) σ) (h1 : k ≤ R.cells) (h2 : n ≤ R.slots) : Aw Ω M_Law_lines R (MF Ω R QR QX) k n 14 L [xi x] σ := Aw.iret rfl h h1 h2 d_Law_lines_14
theorem r_Law_lines_16 {Ω : Om} {R : Room} {k n : Nat} {L : List PV} {σ : Sto} {QR : Option PV → Sto → Prop} {QX : String → Sto → Prop} {x : Int} (h : QR (some (xi x)) σ) (h1 : k ≤ R.cells) (h2 : n ≤ R.slots) : Aw Ω M_Law_lines R (MF Ω R QR QX) k n 16 L [xi x] σ := Aw.iret rfl h h1 h2 d_Law_lines_16
theorem e_Law_merge {Ω : Om} {R : Room} {QR : Option PV → Sto → Prop} {QX : String → Sto → Prop} {σ : Sto} {a0 : Nat} {v1 : Int} {v2 : Int} {v3 : Int} {a4 : Nat} (h : Aw Ω M_Law_merge R (MF Ω R QR QX) 0 0 0 [xr (some a0), xi v1, xi v2, xi v3, xr (some a4), xu] [] σ) : MC Ω M_Law_merge R QR QX σ [xr (some a0), xi v1, xi v2, xi v3, xr (some a4)] := MC.body (by decide +kernel) rfl (Nat.le_of_ble_eq_true rfl) rfl h
theorem b_Law_merge_23 {Ω : Om} {R : Room} {F : QF} {k n : Nat} {σ : Sto} {a0 : Nat} {v1 : Int} {v2 : Int} {v3 : Int} {a4 : Nat} {s0 : Nat} (h : Aw Ω M_Law_merge R F k n 26 [xr (some a0), xi v1, xi v2, xi v3, xr (some a4), xr (some s0)] [xi 3] σ) : Aw Ω M_Law_merge R F k n 23 [xr (some a0), xi v1, xi v2, xi v3, xr (some a4), xu] [xr (some s0)] σ := by
  refine Aw.astore (by decide) d_Law_merge_23 ?_
  refine Aw.toL (L' := [xr (some a0), xi v1, xi v2, xi v3, xr (some a4), xr (some s0)]) rfl ?_
  refine Aw.iconst d_Law_merge_25 ?_
  exact h
theorem b_Law_merge_19 {Ω : Om} {R : Room} {F : QF} {k n : Nat} {σ : Sto} {a0 : Nat} {v1 : Int} {v2 : Int} {v3 : Int} {a4 : Nat} {s0 : Nat} (h : Aw Ω M_Law_merge R F k n 22 [xr (some a0), xi v1, xi v2, xi v3, xr (some a4), xr (some s0)] [xi 2] σ) : Aw Ω M_Law_merge R F k n 19 [xr (some a0), xi v1, xi v2, xi v3, xr (some a4), xu] [xr (some s0)] σ := by
  refine Aw.astore (by decide) d_Law_merge_19 ?_
  refine Aw.toL (L' := [xr (some a0), xi v1, xi v2, xi v3, xr (some a4), xr (some s0)]) rfl ?_
  refine Aw.iconst d_Law_merge_21 ?_
  exact h
theorem b_Law_merge_15 {Ω : Om} {R : Room} {F : QF} {k n : Nat} {σ : Sto} {a0 : Nat} {v1 : Int} {v2 : Int} {v3 : Int} {a4 : Nat} {s0 : Nat} (h : Aw Ω M_Law_merge R F k n 18 [xr (some a0), xi v1, xi v2, xi v3, xr (some a4), xr (some s0)] [xi 1] σ) : Aw Ω M_Law_merge R F k n 15 [xr (some a0), xi v1, xi v2, xi v3, xr (some a4), xu] [xr (some s0)] σ := by
  refine Aw.astore (by decide) d_Law_merge_15 ?_
  refine Aw.toL (L' := [xr (some a0), xi v1, xi v2, xi v3, xr (some a4), xr (some s0)]) rfl ?_
  refine Aw.iconst d_Law_merge_17 ?_
  exact h
theorem b_Law_merge_0 {Ω : Om} {R : Room} {F : QF} {k n : Nat} {σ : Sto} {a0 : Nat} {v1 : Int} {v2 : Int} {v3 : Int} {a4 : Nat} (h : Aw Ω M_Law_merge R F k n 7 [xr (some a0), xi v1, xi v2, xi v3, xr (some a4), xu] [xi v3, xi v2, xi v1, xr (some a0), xi 0, xr (some a4)] σ) : Aw Ω M_Law_merge R F k n 0 [xr (some a0), xi v1, xi v2, xi v3, xr (some a4), xu] [] σ := by
  refine Aw.aload rfl d_Law_merge_0 ?_
  refine Aw.iconst d_Law_merge_2 ?_
  refine Aw.aload_n rfl d_Law_merge_3 ?_
  refine Aw.iload_n rfl d_Law_merge_4 ?_
  refine Aw.iload_n rfl d_Law_merge_5 ?_
  refine Aw.iload_n rfl d_Law_merge_6 ?_
  exact h
theorem b_Law_merge_10 {Ω : Om} {R : Room} {F : QF} {k n : Nat} {σ : Sto} {a0 : Nat} {v1 : Int} {v2 : Int} {v3 : Int} {a4 : Nat} {s0 : Nat} {s1 : Int} {s2 : Int} (h : sK σ s0 = 51 ∧ 0 ≤ s1 ∧ s1 < sZ σ s0 ∧ Aw Ω M_Law_merge R F k n 28 [xr (some a0), xi v1, xi v2, xi v3, xr (some a4), xu] [xi 0] (vL σ s0 (s1).toNat (lOf s2))) : Aw Ω M_Law_merge R F k n 10 [xr (some a0), xi v1, xi v2, xi v3, xr (some a4), xu] [xi s2, xi s1, xr (some s0)] σ := by
  refine Aw.i2l d_Law_merge_10 ?_
  obtain ⟨o1, h⟩ := h
  obtain ⟨o2, o3, h⟩ := h
  refine Aw.last o1 o2 o3 d_Law_merge_11 ?_
  refine Aw.goto (tgt := 27) (by decide) d_Law_merge_12 ?_
  refine Aw.iconst d_Law_merge_27 ?_
  exact h
theorem c_Law_merge_7 {Ω : Om} {R R' : Room} {F : QF} {k n : Nat} {L st : List PV} {σ : Sto} {QX' : String → Sto → Prop} {Q : Int → Sto → Prop} {a : Nat} {x0 : Int} {x1 : Int} {x2 : Int} (hc : MC Ω M_Dw_merge R' (RI Q) QX' σ [xr (some a), xi x0, xi x1, xi x2]) (hk : sK σ a = 1) (hr1 : R'.frames + 1 ≤ R.frames) (hr2 : 8 + (7 + 11) + R'.locals ≤ R.locals) (hb1 : k + R'.cells ≤ R.cells) (hb2 : n + R'.slots ≤ R.slots) (hst : (st.map catP).sum ≤ 8) (kk : ∀ x σ', Q x σ' → Aw Ω M_Law_merge R F (k + R'.cells) (n + R'.slots) 10 L (xi x :: st) σ') (kx : ∀ E σ', QX' E σ' → Ax Ω M_Law_merge R F (k + R'.cells) (n + R'.slots) 7 L st σ' E) : Aw Ω M_Law_merge R F k n 7 L (xi x2 :: xi x1 :: xi x0 :: xr (some a) :: st) σ :=
  Aw.callV (As := [xi x0, xi x1, xi x2]) (stk := xi x2 :: xi x1 :: xi x0 :: xr (some a) :: st) (nn := 3) 0 M_Dw_merge hc ok_Dw_merge rfl (by decide) rfl hk ml_Law_85 im_Dw_merge se_Dw_merge ⟨hr1, hr2⟩ rfl ⟨hb1, hb2⟩ hst rfl d_Law_merge_7 (fun r σ' h => by obtain ⟨x, rfl, h⟩ := h; exact kk x σ' h) kx
theorem r_Law_merge_18 {Ω : Om} {R : Room} {k n : Nat} {L : List PV} {σ : Sto} {QR : Option PV → Sto → Prop} {QX : String → Sto → Prop} {x : Int} (h : QR (some (xi x)) σ) (h1 : k ≤ R.cells) (h2 : n ≤ R.slots) : Aw Ω M_Law_merge R (MF Ω R QR QX) k n 18 L [xi x] σ := Aw.iret rfl h h1 h2 d_Law_merge_18
theorem r_Law_merge_22 {Ω : Om} {R : Room} {k n : Nat} {L : List PV} {σ : Sto} {QR : Option PV → Sto → Prop} {QX : String → Sto → Prop} {x : Int} (h : QR (some (xi x)) σ) (h1 : k ≤ R.cells) (h2 : n ≤ R.slots) : Aw Ω M_Law_merge R (MF Ω R QR QX) k n 22 L [xi x] σ := Aw.iret rfl h h1 h2 d_Law_merge_22
theorem r_Law_merge_26 {Ω : Om} {R : Room} {k n : Nat} {L : List PV} {σ : Sto} {QR : Option PV → Sto → Prop} {QX : String → Sto → Prop} {x : Int} (h : QR (some (xi x)) σ) (h1 : k ≤ R.cells) (h2 : n ≤ R.slots) : Aw Ω M_Law_merge R (MF Ω R QR QX) k n 26 L [xi x] σ := Aw.iret rfl h h1 h2 d_Law_merge_26
theorem r_Law_merge_28 {Ω : Om} {R : Room} {k n : Nat} {L : List PV} {σ : Sto} {QR : Option PV → Sto → Prop} {QX : String → Sto → Prop} {x : Int} (h : QR (some (xi x)) σ) (h1 : k ≤ R.cells) (h2 : n ≤ R.slots) : Aw Ω M_Law_merge R (MF Ω R QR QX) k n 28 L [xi x] σ := Aw.iret rfl h h1 h2 d_Law_merge_28
theorem e_Law_move {Ω : Om} {R : Room} {QR : Option PV → Sto → Prop} {QX : String → Sto → Prop} {σ : Sto} {a0 : Nat} {v1 : Int} {v2 : Int} (h : Aw Ω M_Law_move R (MF Ω R QR QX) 0 0 0 [xr (some a0), xi v1, xi v2, xu] [] σ) : MC Ω M_Law_move R QR QX σ [xr (some a0), xi v1, xi v2] := MC.body (by decide +kernel) rfl (Nat.le_of_ble_eq_true rfl) rfl h
theorem b_Law_move_12 {Ω : Om} {R : Room} {F : QF} {k n : Nat} {σ : Sto} {a0 : Nat} {v1 : Int} {v2 : Int} {s0 : Nat} (h : Aw Ω M_Law_move R F k n 14 [xr (some a0), xi v1, xi v2, xr (some s0)] [xi 2] σ) : Aw Ω M_Law_move R F k n 12 [xr (some a0), xi v1, xi v2, xu] [xr (some s0)] σ := by
  refine Aw.astore_n (by decide) d_Law_move_12 ?_
  refine Aw.toL (L' := [xr (some a0), xi v1, xi v2, xr (some s0)]) rfl ?_
  refine Aw.iconst d_Law_move_13 ?_
  exact h
theorem b_Law_move_9 {Ω : Om} {R : Room} {F : QF} {k n : Nat} {σ : Sto} {a0 : Nat} {v1 : Int} {v2 : Int} {s0 : Nat} (h : Aw Ω M_Law_move R F k n 11 [xr (some a0), xi v1, xi v2, xr (some s0)] [xi 1] σ) : Aw Ω M_Law_move R F k n 9 [xr (some a0), xi v1, xi v2, xu] [xr (some s0)] σ := by
  refine Aw.astore_n (by decide) d_Law_move_9 ?_
  refine Aw.toL (L' := [xr (some a0), xi v1, xi v2, xr (some s0)]) rfl ?_
  refine Aw.iconst d_Law_move_10 ?_
  exact h
theorem b_Law_move_0 {Ω : Om} {R : Room} {F : QF} {k n : Nat} {σ : Sto} {a0 : Nat} {v1 : Int} {v2 : Int} (h : Aw Ω M_Law_move R F k n 3 [xr (some a0), xi v1, xi v2, xu] [xi v2, xi v1, xr (some a0)] σ) : Aw Ω M_Law_move R F k n 0 [xr (some a0), xi v1, xi v2, xu] [] σ := by
  refine Aw.aload_n rfl d_Law_move_0 ?_
  refine Aw.iload_n rfl d_Law_move_1 ?_
  refine Aw.iload_n rfl d_Law_move_2 ?_
  exact h
theorem b_Law_move_6 {Ω : Om} {R : Room} {F : QF} {k n : Nat} {σ : Sto} {a0 : Nat} {v1 : Int} {v2 : Int} (h : Aw Ω M_Law_move R F k n 16 [xr (some a0), xi v1, xi v2, xu] [xi 0] σ) : Aw Ω M_Law_move R F k n 6 [xr (some a0), xi v1, xi v2, xu] [] σ := by
  refine Aw.goto (tgt := 15) (by decide) d_Law_move_6 ?_
  refine Aw.iconst d_Law_move_15 ?_
  exact h
theorem c_Law_move_3 {Ω : Om} {R R' : Room} {F : QF} {k n : Nat} {L st : List PV} {σ : Sto} {QX' : String → Sto → Prop} {Q : Sto → Prop} {a : Nat} {x0 : Int} {x1 : Int} (hc : MC Ω M_Dw_move R' (RV Q) QX' σ [xr (some a), xi x0, xi x1]) (hk : sK σ a = 1) (hr1 : R'.frames + 1 ≤ R.frames) (hr2 : 8 + (3 + 11) + R'.locals ≤ R.locals) (hb1 : k + R'.cells ≤ R.cells) (hb2 : n + R'.slots ≤ R.slots) (hst : (st.map catP).sum ≤ 8) (kk : ∀ σ', Q σ' → Aw Ω M_Law_move R F (k + R'.cells) (n + R'.slots) 6 L st σ') (kx : ∀ E σ', QX' E σ' → Ax Ω M_Law_move R F (k + R'.cells) (n + R'.slots) 3 L st σ' E) : Aw Ω M_Law_move R F k n 3 L (xi x1 :: xi x0 :: xr (some a) :: st) σ :=
  Aw.callV (As := [xi x0, xi x1]) (stk := xi x1 :: xi x0 :: xr (some a) :: st) (nn := 2) 0 M_Dw_move hc ok_Dw_move rfl (by decide) rfl hk ml_Law_30 im_Dw_move se_Dw_move ⟨hr1, hr2⟩ rfl ⟨hb1, hb2⟩ hst rfl d_Law_move_3 (fun r σ' h => by obtain ⟨rfl, h⟩ := h; exact kk σ' h) kx
theorem r_Law_move_11 {Ω : Om} {R : Room} {k n : Nat} {L : List PV} {σ : Sto} {QR : Option PV → Sto → Prop} {QX : String → Sto → Prop} {x : Int} (h : QR (some (xi x)) σ) (h1 : k ≤ R.cells) (h2 : n ≤ R.slots) : Aw Ω M_Law_move R (MF Ω R QR QX) k n 11 L [xi x] σ := Aw.iret rfl h h1 h2 d_Law_move_11
theorem r_Law_move_14 {Ω : Om} {R : Room} {k n : Nat} {L : List PV} {σ : Sto} {QR : Option PV → Sto → Prop} {QX : String → Sto → Prop} {x : Int} (h : QR (some (xi x)) σ) (h1 : k ≤ R.cells) (h2 : n ≤ R.slots) : Aw Ω M_Law_move R (MF Ω R QR QX) k n 14 L [xi x] σ := Aw.iret rfl h h1 h2 d_Law_move_14
theorem r_Law_move_16 {Ω : Om} {R : Room} {k n : Nat} {L : List PV} {σ : Sto} {QR : Option PV → Sto → Prop} {QX : String → Sto → Prop} {x : Int} (h : QR (some (xi x)) σ) (h1 : k ≤ R.cells) (h2 : n ≤ R.slots) : Aw Ω M_Law_move R (MF Ω R QR QX) k n 16 L [xi x] σ := Aw.iret rfl h h1 h2 d_Law_move_16
theorem e_Law_movedTo {Ω : Om} {R : Room} {QR : Option PV → Sto → Prop} {QX : String → Sto → Prop} {σ : Sto} {a0 : Nat} {v1 : Int} {a2 : Nat} (h : Aw Ω M_Law_movedTo R (MF Ω R QR QX) 0 0 0 [xr (some a0), xi v1, xr (some a2), xu] [] σ) : MC Ω M_Law_movedTo R QR QX σ [xr (some a0), xi v1, xr (some a2)] := MC.body (by decide +kernel) rfl (Nat.le_of_ble_eq_true rfl) rfl h
theorem b_Law_movedTo_12 {Ω : Om} {R : Room} {F : QF} {k n : Nat} {σ : Sto} {a0 : Nat} {v1 : Int} {a2 : Nat} {s0 : Nat} (h : Aw Ω M_Law_movedTo R F k n 14 [xr (some a0), xi v1, xr (some a2), xr (some s0)] [xi 1] σ) : Aw Ω M_Law_movedTo R F k n 12 [xr (some a0), xi v1, xr (some a2), xu] [xr (some s0)] σ := by
  refine Aw.astore_n (by decide) d_Law_movedTo_12 ?_
  refine Aw.toL (L' := [xr (some a0), xi v1, xr (some a2), xr (some s0)]) rfl ?_
  refine Aw.iconst d_Law_movedTo_13 ?_
  exact h
theorem b_Law_movedTo_0 {Ω : Om} {R : Room} {F : QF} {k n : Nat} {σ : Sto} {a0 : Nat} {v1 : Int} {a2 : Nat} (h : Aw Ω M_Law_movedTo R F k n 4 [xr (some a0), xi v1, xr (some a2), xu] [xi v1, xr (some a0), xi 0, xr (some a2)] σ) : Aw Ω M_Law_movedTo R F k n 0 [xr (some a0), xi v1, xr (some a2), xu] [] σ := by
  refine Aw.aload_n rfl d_Law_movedTo_0 ?_
  refine Aw.iconst d_Law_movedTo_1 ?_
  refine Aw.aload_n rfl d_Law_movedTo_2 ?_
  refine Aw.iload_n rfl d_Law_movedTo_3 ?_
  exact h
theorem b_Law_movedTo_7 {Ω : Om} {R : Room} {F : QF} {k n : Nat} {σ : Sto} {a0 : Nat} {v1 : Int} {a2 : Nat} {s0 : Nat} {s1 : Int} {s2 : Int} (h : sK σ s0 = 51 ∧ 0 ≤ s1 ∧ s1 < sZ σ s0 ∧ Aw Ω M_Law_movedTo R F k n 16 [xr (some a0), xi v1, xr (some a2), xu] [xi 0] (vL σ s0 (s1).toNat (lOf s2))) : Aw Ω M_Law_movedTo R F k n 7 [xr (some a0), xi v1, xr (some a2), xu] [xi s2, xi s1, xr (some s0)] σ := by
  refine Aw.i2l d_Law_movedTo_7 ?_
  obtain ⟨o1, h⟩ := h
  obtain ⟨o2, o3, h⟩ := h
  refine Aw.last o1 o2 o3 d_Law_movedTo_8 ?_
  refine Aw.goto (tgt := 15) (by decide) d_Law_movedTo_9 ?_
  refine Aw.iconst d_Law_movedTo_15 ?_
  exact h
theorem c_Law_movedTo_4 {Ω : Om} {R R' : Room} {F : QF} {k n : Nat} {L st : List PV} {σ : Sto} {QX' : String → Sto → Prop} {Q : Int → Sto → Prop} {a : Nat} {x0 : Int} (hc : MC Ω M_Dw_movedTo R' (RI Q) QX' σ [xr (some a), xi x0]) (hk : sK σ a = 1) (hr1 : R'.frames + 1 ≤ R.frames) (hr2 : 8 + (2 + 11) + R'.locals ≤ R.locals) (hb1 : k + R'.cells ≤ R.cells) (hb2 : n + R'.slots ≤ R.slots) (hst : (st.map catP).sum ≤ 8) (kk : ∀ x σ', Q x σ' → Aw Ω M_Law_movedTo R F (k + R'.cells) (n + R'.slots) 7 L (xi x :: st) σ') (kx : ∀ E σ', QX' E σ' → Ax Ω M_Law_movedTo R F (k + R'.cells) (n + R'.slots) 4 L st σ' E) : Aw Ω M_Law_movedTo R F k n 4 L (xi x0 :: xr (some a) :: st) σ :=
  Aw.callV (As := [xi x0]) (stk := xi x0 :: xr (some a) :: st) (nn := 1) 0 M_Dw_movedTo hc ok_Dw_movedTo rfl (by decide) rfl hk ml_Law_72 im_Dw_movedTo se_Dw_movedTo ⟨hr1, hr2⟩ rfl ⟨hb1, hb2⟩ hst rfl d_Law_movedTo_4 (fun r σ' h => by obtain ⟨x, rfl, h⟩ := h; exact kk x σ' h) kx
theorem r_Law_movedTo_14 {Ω : Om} {R : Room} {k n : Nat} {L : List PV} {σ : Sto} {QR : Option PV → Sto → Prop} {QX : String → Sto → Prop} {x : Int} (h : QR (some (xi x)) σ) (h1 : k ≤ R.cells) (h2 : n ≤ R.slots) : Aw Ω M_Law_movedTo R (MF Ω R QR QX) k n 14 L [xi x] σ := Aw.iret rfl h h1 h2 d_Law_movedTo_14
theorem r_Law_movedTo_16 {Ω : Om} {R : Room} {k n : Nat} {L : List PV} {σ : Sto} {QR : Option PV → Sto → Prop} {QX : String → Sto → Prop} {x : Int} (h : QR (some (xi x)) σ) (h1 : k ≤ R.cells) (h2 : n ≤ R.slots) : Aw Ω M_Law_movedTo R (MF Ω R QR QX) k n 16 L [xi x] σ := Aw.iret rfl h h1 h2 d_Law_movedTo_16
theorem e_Law_note {Ω : Om} {R : Room} {QR : Option PV → Sto → Prop} {QX : String → Sto → Prop} {σ : Sto} {a0 : Nat} {v1 : Int} {v2 : Int} {a3 : Nat} (h : Aw Ω M_Law_note R (MF Ω R QR QX) 0 0 0 [xr (some a0), xi v1, xi v2, xr (some a3), xu] [] σ) : MC Ω M_Law_note R QR QX σ [xr (some a0), xi v1, xi v2, xr (some a3)] := MC.body (by decide +kernel) rfl (Nat.le_of_ble_eq_true rfl) rfl h
theorem b_Law_note_17 {Ω : Om} {R : Room} {F : QF} {k n : Nat} {σ : Sto} {a0 : Nat} {v1 : Int} {v2 : Int} {a3 : Nat} {s0 : Nat} (h : Aw Ω M_Law_note R F k n 20 [xr (some a0), xi v1, xi v2, xr (some a3), xr (some s0)] [xi 2] σ) : Aw Ω M_Law_note R F k n 17 [xr (some a0), xi v1, xi v2, xr (some a3), xu] [xr (some s0)] σ := by
  refine Aw.astore (by decide) d_Law_note_17 ?_
  refine Aw.toL (L' := [xr (some a0), xi v1, xi v2, xr (some a3), xr (some s0)]) rfl ?_
  refine Aw.iconst d_Law_note_19 ?_
  exact h
theorem b_Law_note_13 {Ω : Om} {R : Room} {F : QF} {k n : Nat} {σ : Sto} {a0 : Nat} {v1 : Int} {v2 : Int} {a3 : Nat} {s0 : Nat} (h : Aw Ω M_Law_note R F k n 16 [xr (some a0), xi v1, xi v2, xr (some a3), xr (some s0)] [xi 1] σ) : Aw Ω M_Law_note R F k n 13 [xr (some a0), xi v1, xi v2, xr (some a3), xu] [xr (some s0)] σ := by
  refine Aw.astore (by decide) d_Law_note_13 ?_
  refine Aw.toL (L' := [xr (some a0), xi v1, xi v2, xr (some a3), xr (some s0)]) rfl ?_
  refine Aw.iconst d_Law_note_15 ?_
  exact h
theorem b_Law_note_0 {Ω : Om} {R : Room} {F : QF} {k n : Nat} {σ : Sto} {a0 : Nat} {v1 : Int} {v2 : Int} {a3 : Nat} (h : Aw Ω M_Law_note R F k n 5 [xr (some a0), xi v1, xi v2, xr (some a3), xu] [xi v2, xi v1, xr (some a0), xi 0, xr (some a3)] σ) : Aw Ω M_Law_note R F k n 0 [xr (some a0), xi v1, xi v2, xr (some a3), xu] [] σ := by
  refine Aw.aload_n rfl d_Law_note_0 ?_
  refine Aw.iconst d_Law_note_1 ?_
  refine Aw.aload_n rfl d_Law_note_2 ?_
  refine Aw.iload_n rfl d_Law_note_3 ?_
  refine Aw.iload_n rfl d_Law_note_4 ?_
  exact h
theorem b_Law_note_8 {Ω : Om} {R : Room} {F : QF} {k n : Nat} {σ : Sto} {a0 : Nat} {v1 : Int} {v2 : Int} {a3 : Nat} {s0 : Nat} {s1 : Int} {s2 : Int} (h : sK σ s0 = 51 ∧ 0 ≤ s1 ∧ s1 < sZ σ s0 ∧ Aw Ω M_Law_note R F k n 22 [xr (some a0), xi v1, xi v2, xr (some a3), xu] [xi 0] (vL σ s0 (s1).toNat (lOf s2))) : Aw Ω M_Law_note R F k n 8 [xr (some a0), xi v1, xi v2, xr (some a3), xu] [xi s2, xi s1, xr (some s0)] σ := by
  refine Aw.i2l d_Law_note_8 ?_
  obtain ⟨o1, h⟩ := h
  obtain ⟨o2, o3, h⟩ := h
  refine Aw.last o1 o2 o3 d_Law_note_9 ?_
  refine Aw.goto (tgt := 21) (by decide) d_Law_note_10 ?_
  refine Aw.iconst d_Law_note_21 ?_
  exact h
theorem c_Law_note_5 {Ω : Om} {R R' : Room} {F : QF} {k n : Nat} {L st : List PV} {σ : Sto} {QX' : String → Sto → Prop} {Q : Int → Sto → Prop} {a : Nat} {x0 : Int} {x1 : Int} (hc : MC Ω M_Dw_note R' (RI Q) QX' σ [xr (some a), xi x0, xi x1]) (hk : sK σ a = 1) (hr1 : R'.frames + 1 ≤ R.frames) (hr2 : 8 + (4 + 11) + R'.locals ≤ R.locals) (hb1 : k + R'.cells ≤ R.cells) (hb2 : n + R'.slots ≤ R.slots) (hst : (st.map catP).sum ≤ 8) (kk : ∀ x σ', Q x σ' → Aw Ω M_Law_note R F (k + R'.cells) (n + R'.slots) 8 L (xi x :: st) σ') (kx : ∀ E σ', QX' E σ' → Ax Ω M_Law_note R F (k + R'.cells) (n + R'.slots) 5 L st σ' E) : Aw Ω M_Law_note R F k n 5 L (xi x1 :: xi x0 :: xr (some a) :: st) σ :=
  Aw.callV (As := [xi x0, xi x1]) (stk := xi x1 :: xi x0 :: xr (some a) :: st) (nn := 2) 0 M_Dw_note hc ok_Dw_note rfl (by decide) rfl hk ml_Law_107 im_Dw_note se_Dw_note ⟨hr1, hr2⟩ rfl ⟨hb1, hb2⟩ hst rfl d_Law_note_5 (fun r σ' h => by obtain ⟨x, rfl, h⟩ := h; exact kk x σ' h) kx
theorem r_Law_note_16 {Ω : Om} {R : Room} {k n : Nat} {L : List PV} {σ : Sto} {QR : Option PV → Sto → Prop} {QX : String → Sto → Prop} {x : Int} (h : QR (some (xi x)) σ) (h1 : k ≤ R.cells) (h2 : n ≤ R.slots) : Aw Ω M_Law_note R (MF Ω R QR QX) k n 16 L [xi x] σ := Aw.iret rfl h h1 h2 d_Law_note_16
theorem r_Law_note_20 {Ω : Om} {R : Room} {k n : Nat} {L : List PV} {σ : Sto} {QR : Option PV → Sto → Prop} {QX : String → Sto → Prop} {x : Int} (h : QR (some (xi x)) σ) (h1 : k ≤ R.cells) (h2 : n ≤ R.slots) : Aw Ω M_Law_note R (MF Ω R QR QX) k n 20 L [xi x] σ := Aw.iret rfl h h1 h2 d_Law_note_20
theorem r_Law_note_22 {Ω : Om} {R : Room} {k n : Nat} {L : List PV} {σ : Sto} {QR : Option PV → Sto → Prop} {QX : String → Sto → Prop} {x : Int} (h : QR (some (xi x)) σ) (h1 : k ≤ R.cells) (h2 : n ≤ R.slots) : Aw Ω M_Law_note R (MF Ω R QR QX) k n 22 L [xi x] σ := Aw.iret rfl h h1 h2 d_Law_note_22
theorem e_Law_noteAt {Ω : Om} {R : Room} {QR : Option PV → Sto → Prop} {QX : String → Sto → Prop} {σ : Sto} {a0 : Nat} {v1 : Int} {v2 : Int} {a3 : Nat} (h : Aw Ω M_Law_noteAt R (MF Ω R QR QX) 0 0 0 [xr (some a0), xi v1, xi v2, xr (some a3), xu] [] σ) : MC Ω M_Law_noteAt R QR QX σ [xr (some a0), xi v1, xi v2, xr (some a3)] := MC.body (by decide +kernel) rfl (Nat.le_of_ble_eq_true rfl) rfl h
theorem b_Law_noteAt_13 {Ω : Om} {R : Room} {F : QF} {k n : Nat} {σ : Sto} {a0 : Nat} {v1 : Int} {v2 : Int} {a3 : Nat} {s0 : Nat} (h : Aw Ω M_Law_noteAt R F k n 16 [xr (some a0), xi v1, xi v2, xr (some a3), xr (some s0)] [xi 1] σ) : Aw Ω M_Law_noteAt R F k n 13 [xr (some a0), xi v1, xi v2, xr (some a3), xu] [xr (some s0)] σ := by
  refine Aw.astore (by decide) d_Law_noteAt_13 ?_
  refine Aw.toL (L' := [xr (some a0), xi v1, xi v2, xr (some a3), xr (some s0)]) rfl ?_
  refine Aw.iconst d_Law_noteAt_15 ?_
  exact h
theorem b_Law_noteAt_0 {Ω : Om} {R : Room} {F : QF} {k n : Nat} {σ : Sto} {a0 : Nat} {v1 : Int} {v2 : Int} {a3 : Nat} (h : Aw Ω M_Law_noteAt R F k n 5 [xr (some a0), xi v1, xi v2, xr (some a3), xu] [xi v2, xi v1, xr (some a0), xi 0, xr (some a3)] σ) : Aw Ω M_Law_noteAt R F k n 0 [xr (some a0), xi v1, xi v2, xr (some a3), xu] [] σ := by
  refine Aw.aload_n rfl d_Law_noteAt_0 ?_
  refine Aw.iconst d_Law_noteAt_1 ?_
  refine Aw.aload_n rfl d_Law_noteAt_2 ?_
  refine Aw.iload_n rfl d_Law_noteAt_3 ?_
  refine Aw.iload_n rfl d_Law_noteAt_4 ?_
  exact h
theorem b_Law_noteAt_8 {Ω : Om} {R : Room} {F : QF} {k n : Nat} {σ : Sto} {a0 : Nat} {v1 : Int} {v2 : Int} {a3 : Nat} {s0 : Nat} {s1 : Int} {s2 : Int} (h : sK σ s0 = 51 ∧ 0 ≤ s1 ∧ s1 < sZ σ s0 ∧ Aw Ω M_Law_noteAt R F k n 18 [xr (some a0), xi v1, xi v2, xr (some a3), xu] [xi 0] (vL σ s0 (s1).toNat (lOf s2))) : Aw Ω M_Law_noteAt R F k n 8 [xr (some a0), xi v1, xi v2, xr (some a3), xu] [xi s2, xi s1, xr (some s0)] σ := by
  refine Aw.i2l d_Law_noteAt_8 ?_
  obtain ⟨o1, h⟩ := h
  obtain ⟨o2, o3, h⟩ := h
  refine Aw.last o1 o2 o3 d_Law_noteAt_9 ?_
  refine Aw.goto (tgt := 17) (by decide) d_Law_noteAt_10 ?_
  refine Aw.iconst d_Law_noteAt_17 ?_
  exact h
theorem c_Law_noteAt_5 {Ω : Om} {R R' : Room} {F : QF} {k n : Nat} {L st : List PV} {σ : Sto} {QX' : String → Sto → Prop} {Q : Int → Sto → Prop} {a : Nat} {x0 : Int} {x1 : Int} (hc : MC Ω M_Dw_noteAt R' (RI Q) QX' σ [xr (some a), xi x0, xi x1]) (hk : sK σ a = 1) (hr1 : R'.frames + 1 ≤ R.frames) (hr2 : 8 + (5 + 11) + R'.locals ≤ R.locals) (hb1 : k + R'.cells ≤ R.cells) (hb2 : n + R'.slots ≤ R.slots) (hst : (st.map catP).sum ≤ 8) (kk : ∀ x σ', Q x σ' → Aw Ω M_Law_noteAt R F (k + R'.cells) (n + R'.slots) 8 L (xi x :: st) σ') (kx : ∀ E σ', QX' E σ' → Ax Ω M_Law_noteAt R F (k + R'.cells) (n + R'.slots) 5 L st σ' E) : Aw Ω M_Law_noteAt R F k n 5 L (xi x1 :: xi x0 :: xr (some a) :: st) σ :=
  Aw.callV (As := [xi x0, xi x1]) (stk := xi x1 :: xi x0 :: xr (some a) :: st) (nn := 2) 0 M_Dw_noteAt hc ok_Dw_noteAt rfl (by decide) rfl hk ml_Law_110 im_Dw_noteAt se_Dw_noteAt ⟨hr1, hr2⟩ rfl ⟨hb1, hb2⟩ hst rfl d_Law_noteAt_5 (fun r σ' h => by obtain ⟨x, rfl, h⟩ := h; exact kk x σ' h) kx
theorem r_Law_noteAt_16 {Ω : Om} {R : Room} {k n : Nat} {L : List PV} {σ : Sto} {QR : Option PV → Sto → Prop} {QX : String → Sto → Prop} {x : Int} (h : QR (some (xi x)) σ) (h1 : k ≤ R.cells) (h2 : n ≤ R.slots) : Aw Ω M_Law_noteAt R (MF Ω R QR QX) k n 16 L [xi x] σ := Aw.iret rfl h h1 h2 d_Law_noteAt_16
theorem r_Law_noteAt_18 {Ω : Om} {R : Room} {k n : Nat} {L : List PV} {σ : Sto} {QR : Option PV → Sto → Prop} {QX : String → Sto → Prop} {x : Int} (h : QR (some (xi x)) σ) (h1 : k ≤ R.cells) (h2 : n ≤ R.slots) : Aw Ω M_Law_noteAt R (MF Ω R QR QX) k n 18 L [xi x] σ := Aw.iret rfl h h1 h2 d_Law_noteAt_18
theorem e_Law_pairOf {Ω : Om} {R : Room} {QR : Option PV → Sto → Prop} {QX : String → Sto → Prop} {σ : Sto} {a0 : Nat} {v1 : Int} {a2 : Nat} (h : Aw Ω M_Law_pairOf R (MF Ω R QR QX) 0 0 0 [xr (some a0), xi v1, xr (some a2), xu] [] σ) : MC Ω M_Law_pairOf R QR QX σ [xr (some a0), xi v1, xr (some a2)] := MC.body (by decide +kernel) rfl (Nat.le_of_ble_eq_true rfl) rfl h
theorem b_Law_pairOf_12 {Ω : Om} {R : Room} {F : QF} {k n : Nat} {σ : Sto} {a0 : Nat} {v1 : Int} {a2 : Nat} {s0 : Nat} (h : Aw Ω M_Law_pairOf R F k n 14 [xr (some a0), xi v1, xr (some a2), xr (some s0)] [xi 1] σ) : Aw Ω M_Law_pairOf R F k n 12 [xr (some a0), xi v1, xr (some a2), xu] [xr (some s0)] σ := by
  refine Aw.astore_n (by decide) d_Law_pairOf_12 ?_
  refine Aw.toL (L' := [xr (some a0), xi v1, xr (some a2), xr (some s0)]) rfl ?_
  refine Aw.iconst d_Law_pairOf_13 ?_
  exact h
theorem b_Law_pairOf_0 {Ω : Om} {R : Room} {F : QF} {k n : Nat} {σ : Sto} {a0 : Nat} {v1 : Int} {a2 : Nat} (h : Aw Ω M_Law_pairOf R F k n 4 [xr (some a0), xi v1, xr (some a2), xu] [xi v1, xr (some a0), xi 0, xr (some a2)] σ) : Aw Ω M_Law_pairOf R F k n 0 [xr (some a0), xi v1, xr (some a2), xu] [] σ := by
  refine Aw.aload_n rfl d_Law_pairOf_0 ?_
  refine Aw.iconst d_Law_pairOf_1 ?_
  refine Aw.aload_n rfl d_Law_pairOf_2 ?_
  refine Aw.iload_n rfl d_Law_pairOf_3 ?_
  exact h
theorem b_Law_pairOf_7 {Ω : Om} {R : Room} {F : QF} {k n : Nat} {σ : Sto} {a0 : Nat} {v1 : Int} {a2 : Nat} {s0 : Nat} {s1 : Int} {s2 : Int} (h : sK σ s0 = 51 ∧ 0 ≤ s1 ∧ s1 < sZ σ s0 ∧ Aw Ω M_Law_pairOf R F k n 16 [xr (some a0), xi v1, xr (some a2), xu] [xi 0] (vL σ s0 (s1).toNat (lOf s2))) : Aw Ω M_Law_pairOf R F k n 7 [xr (some a0), xi v1, xr (some a2), xu] [xi s2, xi s1, xr (some s0)] σ := by
  refine Aw.i2l d_Law_pairOf_7 ?_
  obtain ⟨o1, h⟩ := h
  obtain ⟨o2, o3, h⟩ := h
  refine Aw.last o1 o2 o3 d_Law_pairOf_8 ?_
  refine Aw.goto (tgt := 15) (by decide) d_Law_pairOf_9 ?_
  refine Aw.iconst d_Law_pairOf_15 ?_
  exact h
theorem c_Law_pairOf_4 {Ω : Om} {R R' : Room} {F : QF} {k n : Nat} {L st : List PV} {σ : Sto} {QX' : String → Sto → Prop} {Q : Int → Sto → Prop} {a : Nat} {x0 : Int} (hc : MC Ω M_Dw_pairOf R' (RI Q) QX' σ [xr (some a), xi x0]) (hk : sK σ a = 1) (hr1 : R'.frames + 1 ≤ R.frames) (hr2 : 8 + (2 + 11) + R'.locals ≤ R.locals) (hb1 : k + R'.cells ≤ R.cells) (hb2 : n + R'.slots ≤ R.slots) (hst : (st.map catP).sum ≤ 8) (kk : ∀ x σ', Q x σ' → Aw Ω M_Law_pairOf R F (k + R'.cells) (n + R'.slots) 7 L (xi x :: st) σ') (kx : ∀ E σ', QX' E σ' → Ax Ω M_Law_pairOf R F (k + R'.cells) (n + R'.slots) 4 L st σ' E) : Aw Ω M_Law_pairOf R F k n 4 L (xi x0 :: xr (some a) :: st) σ :=
  Aw.callV (As := [xi x0]) (stk := xi x0 :: xr (some a) :: st) (nn := 1) 0 M_Dw_pairOf hc ok_Dw_pairOf rfl (by decide) rfl hk ml_Law_69 im_Dw_pairOf se_Dw_pairOf ⟨hr1, hr2⟩ rfl ⟨hb1, hb2⟩ hst rfl d_Law_pairOf_4 (fun r σ' h => by obtain ⟨x, rfl, h⟩ := h; exact kk x σ' h) kx
theorem r_Law_pairOf_14 {Ω : Om} {R : Room} {k n : Nat} {L : List PV} {σ : Sto} {QR : Option PV → Sto → Prop} {QX : String → Sto → Prop} {x : Int} (h : QR (some (xi x)) σ) (h1 : k ≤ R.cells) (h2 : n ≤ R.slots) : Aw Ω M_Law_pairOf R (MF Ω R QR QX) k n 14 L [xi x] σ := Aw.iret rfl h h1 h2 d_Law_pairOf_14
theorem r_Law_pairOf_16 {Ω : Om} {R : Room} {k n : Nat} {L : List PV} {σ : Sto} {QR : Option PV → Sto → Prop} {QX : String → Sto → Prop} {x : Int} (h : QR (some (xi x)) σ) (h1 : k ≤ R.cells) (h2 : n ≤ R.slots) : Aw Ω M_Law_pairOf R (MF Ω R QR QX) k n 16 L [xi x] σ := Aw.iret rfl h h1 h2 d_Law_pairOf_16
theorem e_Law_patch {Ω : Om} {R : Room} {QR : Option PV → Sto → Prop} {QX : String → Sto → Prop} {σ : Sto} {a0 : Nat} {v1 : Int} {v2 : Int} {v3 : Int} {a4 : Nat} (h : Aw Ω M_Law_patch R (MF Ω R QR QX) 0 0 0 [xr (some a0), xi v1, xi v2, xi v3, xr (some a4), xu] [] σ) : MC Ω M_Law_patch R QR QX σ [xr (some a0), xi v1, xi v2, xi v3, xr (some a4)] := MC.body (by decide +kernel) rfl (Nat.le_of_ble_eq_true rfl) rfl h
theorem b_Law_patch_23 {Ω : Om} {R : Room} {F : QF} {k n : Nat} {σ : Sto} {a0 : Nat} {v1 : Int} {v2 : Int} {v3 : Int} {a4 : Nat} {s0 : Nat} (h : Aw Ω M_Law_patch R F k n 26 [xr (some a0), xi v1, xi v2, xi v3, xr (some a4), xr (some s0)] [xi 3] σ) : Aw Ω M_Law_patch R F k n 23 [xr (some a0), xi v1, xi v2, xi v3, xr (some a4), xu] [xr (some s0)] σ := by
  refine Aw.astore (by decide) d_Law_patch_23 ?_
  refine Aw.toL (L' := [xr (some a0), xi v1, xi v2, xi v3, xr (some a4), xr (some s0)]) rfl ?_
  refine Aw.iconst d_Law_patch_25 ?_
  exact h
theorem b_Law_patch_19 {Ω : Om} {R : Room} {F : QF} {k n : Nat} {σ : Sto} {a0 : Nat} {v1 : Int} {v2 : Int} {v3 : Int} {a4 : Nat} {s0 : Nat} (h : Aw Ω M_Law_patch R F k n 22 [xr (some a0), xi v1, xi v2, xi v3, xr (some a4), xr (some s0)] [xi 2] σ) : Aw Ω M_Law_patch R F k n 19 [xr (some a0), xi v1, xi v2, xi v3, xr (some a4), xu] [xr (some s0)] σ := by
  refine Aw.astore (by decide) d_Law_patch_19 ?_
  refine Aw.toL (L' := [xr (some a0), xi v1, xi v2, xi v3, xr (some a4), xr (some s0)]) rfl ?_
  refine Aw.iconst d_Law_patch_21 ?_
  exact h
theorem b_Law_patch_15 {Ω : Om} {R : Room} {F : QF} {k n : Nat} {σ : Sto} {a0 : Nat} {v1 : Int} {v2 : Int} {v3 : Int} {a4 : Nat} {s0 : Nat} (h : Aw Ω M_Law_patch R F k n 18 [xr (some a0), xi v1, xi v2, xi v3, xr (some a4), xr (some s0)] [xi 1] σ) : Aw Ω M_Law_patch R F k n 15 [xr (some a0), xi v1, xi v2, xi v3, xr (some a4), xu] [xr (some s0)] σ := by
  refine Aw.astore (by decide) d_Law_patch_15 ?_
  refine Aw.toL (L' := [xr (some a0), xi v1, xi v2, xi v3, xr (some a4), xr (some s0)]) rfl ?_
  refine Aw.iconst d_Law_patch_17 ?_
  exact h
theorem b_Law_patch_0 {Ω : Om} {R : Room} {F : QF} {k n : Nat} {σ : Sto} {a0 : Nat} {v1 : Int} {v2 : Int} {v3 : Int} {a4 : Nat} (h : Aw Ω M_Law_patch R F k n 7 [xr (some a0), xi v1, xi v2, xi v3, xr (some a4), xu] [xi v3, xi v2, xi v1, xr (some a0), xi 0, xr (some a4)] σ) : Aw Ω M_Law_patch R F k n 0 [xr (some a0), xi v1, xi v2, xi v3, xr (some a4), xu] [] σ := by
  refine Aw.aload rfl d_Law_patch_0 ?_
  refine Aw.iconst d_Law_patch_2 ?_
  refine Aw.aload_n rfl d_Law_patch_3 ?_
  refine Aw.iload_n rfl d_Law_patch_4 ?_
  refine Aw.iload_n rfl d_Law_patch_5 ?_
  refine Aw.iload_n rfl d_Law_patch_6 ?_
  exact h
theorem b_Law_patch_10 {Ω : Om} {R : Room} {F : QF} {k n : Nat} {σ : Sto} {a0 : Nat} {v1 : Int} {v2 : Int} {v3 : Int} {a4 : Nat} {s0 : Nat} {s1 : Int} {s2 : Int} (h : sK σ s0 = 51 ∧ 0 ≤ s1 ∧ s1 < sZ σ s0 ∧ Aw Ω M_Law_patch R F k n 28 [xr (some a0), xi v1, xi v2, xi v3, xr (some a4), xu] [xi 0] (vL σ s0 (s1).toNat (lOf s2))) : Aw Ω M_Law_patch R F k n 10 [xr (some a0), xi v1, xi v2, xi v3, xr (some a4), xu] [xi s2, xi s1, xr (some s0)] σ := by
  refine Aw.i2l d_Law_patch_10 ?_
  obtain ⟨o1, h⟩ := h
  obtain ⟨o2, o3, h⟩ := h
  refine Aw.last o1 o2 o3 d_Law_patch_11 ?_
  refine Aw.goto (tgt := 27) (by decide) d_Law_patch_12 ?_
  refine Aw.iconst d_Law_patch_27 ?_
  exact h
theorem c_Law_patch_7 {Ω : Om} {R R' : Room} {F : QF} {k n : Nat} {L st : List PV} {σ : Sto} {QX' : String → Sto → Prop} {Q : Int → Sto → Prop} {a : Nat} {x0 : Int} {x1 : Int} {x2 : Int} (hc : MC Ω M_Dw_patch R' (RI Q) QX' σ [xr (some a), xi x0, xi x1, xi x2]) (hk : sK σ a = 1) (hr1 : R'.frames + 1 ≤ R.frames) (hr2 : 8 + (6 + 11) + R'.locals ≤ R.locals) (hb1 : k + R'.cells ≤ R.cells) (hb2 : n + R'.slots ≤ R.slots) (hst : (st.map catP).sum ≤ 8) (kk : ∀ x σ', Q x σ' → Aw Ω M_Law_patch R F (k + R'.cells) (n + R'.slots) 10 L (xi x :: st) σ') (kx : ∀ E σ', QX' E σ' → Ax Ω M_Law_patch R F (k + R'.cells) (n + R'.slots) 7 L st σ' E) : Aw Ω M_Law_patch R F k n 7 L (xi x2 :: xi x1 :: xi x0 :: xr (some a) :: st) σ :=
  Aw.callV (As := [xi x0, xi x1, xi x2]) (stk := xi x2 :: xi x1 :: xi x0 :: xr (some a) :: st) (nn := 3) 0 M_Dw_patch hc ok_Dw_patch rfl (by decide) rfl hk ml_Law_95 im_Dw_patch se_Dw_patch ⟨hr1, hr2⟩ rfl ⟨hb1, hb2⟩ hst rfl d_Law_patch_7 (fun r σ' h => by obtain ⟨x, rfl, h⟩ := h; exact kk x σ' h) kx
theorem r_Law_patch_18 {Ω : Om} {R : Room} {k n : Nat} {L : List PV} {σ : Sto} {QR : Option PV → Sto → Prop} {QX : String → Sto → Prop} {x : Int} (h : QR (some (xi x)) σ) (h1 : k ≤ R.cells) (h2 : n ≤ R.slots) : Aw Ω M_Law_patch R (MF Ω R QR QX) k n 18 L [xi x] σ := Aw.iret rfl h h1 h2 d_Law_patch_18
theorem r_Law_patch_22 {Ω : Om} {R : Room} {k n : Nat} {L : List PV} {σ : Sto} {QR : Option PV → Sto → Prop} {QX : String → Sto → Prop} {x : Int} (h : QR (some (xi x)) σ) (h1 : k ≤ R.cells) (h2 : n ≤ R.slots) : Aw Ω M_Law_patch R (MF Ω R QR QX) k n 22 L [xi x] σ := Aw.iret rfl h h1 h2 d_Law_patch_22
theorem r_Law_patch_26 {Ω : Om} {R : Room} {k n : Nat} {L : List PV} {σ : Sto} {QR : Option PV → Sto → Prop} {QX : String → Sto → Prop} {x : Int} (h : QR (some (xi x)) σ) (h1 : k ≤ R.cells) (h2 : n ≤ R.slots) : Aw Ω M_Law_patch R (MF Ω R QR QX) k n 26 L [xi x] σ := Aw.iret rfl h h1 h2 d_Law_patch_26
theorem r_Law_patch_28 {Ω : Om} {R : Room} {k n : Nat} {L : List PV} {σ : Sto} {QR : Option PV → Sto → Prop} {QX : String → Sto → Prop} {x : Int} (h : QR (some (xi x)) σ) (h1 : k ≤ R.cells) (h2 : n ≤ R.slots) : Aw Ω M_Law_patch R (MF Ω R QR QX) k n 28 L [xi x] σ := Aw.iret rfl h h1 h2 d_Law_patch_28
theorem e_Law_pieceOf {Ω : Om} {R : Room} {QR : Option PV → Sto → Prop} {QX : String → Sto → Prop} {σ : Sto} {a0 : Nat} {v1 : Int} {v2 : Int} {a3 : Nat} (h : Aw Ω M_Law_pieceOf R (MF Ω R QR QX) 0 0 0 [xr (some a0), xi v1, xi v2, xr (some a3), xu] [] σ) : MC Ω M_Law_pieceOf R QR QX σ [xr (some a0), xi v1, xi v2, xr (some a3)] := MC.body (by decide +kernel) rfl (Nat.le_of_ble_eq_true rfl) rfl h
theorem b_Law_pieceOf_17 {Ω : Om} {R : Room} {F : QF} {k n : Nat} {σ : Sto} {a0 : Nat} {v1 : Int} {v2 : Int} {a3 : Nat} {s0 : Nat} (h : Aw Ω M_Law_pieceOf R F k n 20 [xr (some a0), xi v1, xi v2, xr (some a3), xr (some s0)] [xi 2] σ) : Aw Ω M_Law_pieceOf R F k n 17 [xr (some a0), xi v1, xi v2, xr (some a3), xu] [xr (some s0)] σ := by
  refine Aw.astore (by decide) d_Law_pieceOf_17 ?_
  refine Aw.toL (L' := [xr (some a0), xi v1, xi v2, xr (some a3), xr (some s0)]) rfl ?_
  refine Aw.iconst d_Law_pieceOf_19 ?_
  exact h
theorem b_Law_pieceOf_13 {Ω : Om} {R : Room} {F : QF} {k n : Nat} {σ : Sto} {a0 : Nat} {v1 : Int} {v2 : Int} {a3 : Nat} {s0 : Nat} (h : Aw Ω M_Law_pieceOf R F k n 16 [xr (some a0), xi v1, xi v2, xr (some a3), xr (some s0)] [xi 1] σ) : Aw Ω M_Law_pieceOf R F k n 13 [xr (some a0), xi v1, xi v2, xr (some a3), xu] [xr (some s0)] σ := by
  refine Aw.astore (by decide) d_Law_pieceOf_13 ?_
  refine Aw.toL (L' := [xr (some a0), xi v1, xi v2, xr (some a3), xr (some s0)]) rfl ?_
  refine Aw.iconst d_Law_pieceOf_15 ?_
  exact h
theorem b_Law_pieceOf_0 {Ω : Om} {R : Room} {F : QF} {k n : Nat} {σ : Sto} {a0 : Nat} {v1 : Int} {v2 : Int} {a3 : Nat} (h : Aw Ω M_Law_pieceOf R F k n 5 [xr (some a0), xi v1, xi v2, xr (some a3), xu] [xi v2, xi v1, xr (some a0), xi 0, xr (some a3)] σ) : Aw Ω M_Law_pieceOf R F k n 0 [xr (some a0), xi v1, xi v2, xr (some a3), xu] [] σ := by
  refine Aw.aload_n rfl d_Law_pieceOf_0 ?_
  refine Aw.iconst d_Law_pieceOf_1 ?_
  refine Aw.aload_n rfl d_Law_pieceOf_2 ?_
  refine Aw.iload_n rfl d_Law_pieceOf_3 ?_
  refine Aw.iload_n rfl d_Law_pieceOf_4 ?_
  exact h
theorem b_Law_pieceOf_8 {Ω : Om} {R : Room} {F : QF} {k n : Nat} {σ : Sto} {a0 : Nat} {v1 : Int} {v2 : Int} {a3 : Nat} {s0 : Nat} {s1 : Int} {s2 : Int} (h : sK σ s0 = 51 ∧ 0 ≤ s1 ∧ s1 < sZ σ s0 ∧ Aw Ω M_Law_pieceOf R F k n 22 [xr (some a0), xi v1, xi v2, xr (some a3), xu] [xi 0] (vL σ s0 (s1).toNat (lOf s2))) : Aw Ω M_Law_pieceOf R F k n 8 [xr (some a0), xi v1, xi v2, xr (some a3), xu] [xi s2, xi s1, xr (some s0)] σ := by
  refine Aw.i2l d_Law_pieceOf_8 ?_
  obtain ⟨o1, h⟩ := h
  obtain ⟨o2, o3, h⟩ := h
  refine Aw.last o1 o2 o3 d_Law_pieceOf_9 ?_
  refine Aw.goto (tgt := 21) (by decide) d_Law_pieceOf_10 ?_
  refine Aw.iconst d_Law_pieceOf_21 ?_
  exact h
theorem c_Law_pieceOf_5 {Ω : Om} {R R' : Room} {F : QF} {k n : Nat} {L st : List PV} {σ : Sto} {QX' : String → Sto → Prop} {Q : Int → Sto → Prop} {a : Nat} {x0 : Int} {x1 : Int} (hc : MC Ω M_Dw_pieceOf R' (RI Q) QX' σ [xr (some a), xi x0, xi x1]) (hk : sK σ a = 1) (hr1 : R'.frames + 1 ≤ R.frames) (hr2 : 8 + (3 + 11) + R'.locals ≤ R.locals) (hb1 : k + R'.cells ≤ R.cells) (hb2 : n + R'.slots ≤ R.slots) (hst : (st.map catP).sum ≤ 8) (kk : ∀ x σ', Q x σ' → Aw Ω M_Law_pieceOf R F (k + R'.cells) (n + R'.slots) 8 L (xi x :: st) σ') (kx : ∀ E σ', QX' E σ' → Ax Ω M_Law_pieceOf R F (k + R'.cells) (n + R'.slots) 5 L st σ' E) : Aw Ω M_Law_pieceOf R F k n 5 L (xi x1 :: xi x0 :: xr (some a) :: st) σ :=
  Aw.callV (As := [xi x0, xi x1]) (stk := xi x1 :: xi x0 :: xr (some a) :: st) (nn := 2) 0 M_Dw_pieceOf hc ok_Dw_pieceOf rfl (by decide) rfl hk ml_Law_89 im_Dw_pieceOf se_Dw_pieceOf ⟨hr1, hr2⟩ rfl ⟨hb1, hb2⟩ hst rfl d_Law_pieceOf_5 (fun r σ' h => by obtain ⟨x, rfl, h⟩ := h; exact kk x σ' h) kx
theorem r_Law_pieceOf_16 {Ω : Om} {R : Room} {k n : Nat} {L : List PV} {σ : Sto} {QR : Option PV → Sto → Prop} {QX : String → Sto → Prop} {x : Int} (h : QR (some (xi x)) σ) (h1 : k ≤ R.cells) (h2 : n ≤ R.slots) : Aw Ω M_Law_pieceOf R (MF Ω R QR QX) k n 16 L [xi x] σ := Aw.iret rfl h h1 h2 d_Law_pieceOf_16
theorem r_Law_pieceOf_20 {Ω : Om} {R : Room} {k n : Nat} {L : List PV} {σ : Sto} {QR : Option PV → Sto → Prop} {QX : String → Sto → Prop} {x : Int} (h : QR (some (xi x)) σ) (h1 : k ≤ R.cells) (h2 : n ≤ R.slots) : Aw Ω M_Law_pieceOf R (MF Ω R QR QX) k n 20 L [xi x] σ := Aw.iret rfl h h1 h2 d_Law_pieceOf_20
theorem r_Law_pieceOf_22 {Ω : Om} {R : Room} {k n : Nat} {L : List PV} {σ : Sto} {QR : Option PV → Sto → Prop} {QX : String → Sto → Prop} {x : Int} (h : QR (some (xi x)) σ) (h1 : k ≤ R.cells) (h2 : n ≤ R.slots) : Aw Ω M_Law_pieceOf R (MF Ω R QR QX) k n 22 L [xi x] σ := Aw.iret rfl h h1 h2 d_Law_pieceOf_22
theorem e_Law_remove {Ω : Om} {R : Room} {QR : Option PV → Sto → Prop} {QX : String → Sto → Prop} {σ : Sto} {a0 : Nat} {v1 : Int} {a2 : Nat} (h : Aw Ω M_Law_remove R (MF Ω R QR QX) 0 0 0 [xr (some a0), xi v1, xr (some a2), xu] [] σ) : MC Ω M_Law_remove R QR QX σ [xr (some a0), xi v1, xr (some a2)] := MC.body (by decide +kernel) rfl (Nat.le_of_ble_eq_true rfl) rfl h
theorem b_Law_remove_15 {Ω : Om} {R : Room} {F : QF} {k n : Nat} {σ : Sto} {a0 : Nat} {v1 : Int} {a2 : Nat} {s0 : Nat} (h : Aw Ω M_Law_remove R F k n 17 [xr (some a0), xi v1, xr (some a2), xr (some s0)] [xi 2] σ) : Aw Ω M_Law_remove R F k n 15 [xr (some a0), xi v1, xr (some a2), xu] [xr (some s0)] σ := by
  refine Aw.astore_n (by decide) d_Law_remove_15 ?_
  refine Aw.toL (L' := [xr (some a0), xi v1, xr (some a2), xr (some s0)]) rfl ?_
  refine Aw.iconst d_Law_remove_16 ?_
  exact h
theorem b_Law_remove_12 {Ω : Om} {R : Room} {F : QF} {k n : Nat} {σ : Sto} {a0 : Nat} {v1 : Int} {a2 : Nat} {s0 : Nat} (h : Aw Ω M_Law_remove R F k n 14 [xr (some a0), xi v1, xr (some a2), xr (some s0)] [xi 1] σ) : Aw Ω M_Law_remove R F k n 12 [xr (some a0), xi v1, xr (some a2), xu] [xr (some s0)] σ := by
  refine Aw.astore_n (by decide) d_Law_remove_12 ?_
  refine Aw.toL (L' := [xr (some a0), xi v1, xr (some a2), xr (some s0)]) rfl ?_
  refine Aw.iconst d_Law_remove_13 ?_
  exact h
theorem b_Law_remove_0 {Ω : Om} {R : Room} {F : QF} {k n : Nat} {σ : Sto} {a0 : Nat} {v1 : Int} {a2 : Nat} (h : Aw Ω M_Law_remove R F k n 4 [xr (some a0), xi v1, xr (some a2), xu] [xi v1, xr (some a0), xi 0, xr (some a2)] σ) : Aw Ω M_Law_remove R F k n 0 [xr (some a0), xi v1, xr (some a2), xu] [] σ := by
  refine Aw.aload_n rfl d_Law_remove_0 ?_
  refine Aw.iconst d_Law_remove_1 ?_
  refine Aw.aload_n rfl d_Law_remove_2 ?_
  refine Aw.iload_n rfl d_Law_remove_3 ?_
  exact h
theorem b_Law_remove_7 {Ω : Om} {R : Room} {F : QF} {k n : Nat} {σ : Sto} {a0 : Nat} {v1 : Int} {a2 : Nat} {s0 : Nat} {s1 : Int} {s2 : Int} (h : sK σ s0 = 51 ∧ 0 ≤ s1 ∧ s1 < sZ σ s0 ∧ Aw Ω M_Law_remove R F k n 19 [xr (some a0), xi v1, xr (some a2), xu] [xi 0] (vL σ s0 (s1).toNat (lOf s2))) : Aw Ω M_Law_remove R F k n 7 [xr (some a0), xi v1, xr (some a2), xu] [xi s2, xi s1, xr (some s0)] σ := by
  refine Aw.i2l d_Law_remove_7 ?_
  obtain ⟨o1, h⟩ := h
  obtain ⟨o2, o3, h⟩ := h
  refine Aw.last o1 o2 o3 d_Law_remove_8 ?_
  refine Aw.goto (tgt := 18) (by decide) d_Law_remove_9 ?_
  refine Aw.iconst d_Law_remove_18 ?_
  exact h
theorem c_Law_remove_4 {Ω : Om} {R R' : Room} {F : QF} {k n : Nat} {L st : List PV} {σ : Sto} {QX' : String → Sto → Prop} {Q : Int → Sto → Prop} {a : Nat} {x0 : Int} (hc : MC Ω M_Dw_remove R' (RI Q) QX' σ [xr (some a), xi x0]) (hk : sK σ a = 1) (hr1 : R'.frames + 1 ≤ R.frames) (hr2 : 8 + (2 + 11) + R'.locals ≤ R.locals) (hb1 : k + R'.cells ≤ R.cells) (hb2 : n + R'.slots ≤ R.slots) (hst : (st.map catP).sum ≤ 8) (kk : ∀ x σ', Q x σ' → Aw Ω M_Law_remove R F (k + R'.cells) (n + R'.slots) 7 L (xi x :: st) σ') (kx : ∀ E σ', QX' E σ' → Ax Ω M_Law_remove R F (k + R'.cells) (n + R'.slots) 4 L st σ' E) : Aw Ω M_Law_remove R F k n 4 L (xi x0 :: xr (some a) :: st) σ :=
  Aw.callV (As := [xi x0]) (stk := xi x0 :: xr (some a) :: st) (nn := 1) 0 M_Dw_remove hc ok_Dw_remove rfl (by decide) rfl hk ml_Law_23 im_Dw_remove se_Dw_remove ⟨hr1, hr2⟩ rfl ⟨hb1, hb2⟩ hst rfl d_Law_remove_4 (fun r σ' h => by obtain ⟨x, rfl, h⟩ := h; exact kk x σ' h) kx
theorem r_Law_remove_14 {Ω : Om} {R : Room} {k n : Nat} {L : List PV} {σ : Sto} {QR : Option PV → Sto → Prop} {QX : String → Sto → Prop} {x : Int} (h : QR (some (xi x)) σ) (h1 : k ≤ R.cells) (h2 : n ≤ R.slots) : Aw Ω M_Law_remove R (MF Ω R QR QX) k n 14 L [xi x] σ := Aw.iret rfl h h1 h2 d_Law_remove_14
theorem r_Law_remove_17 {Ω : Om} {R : Room} {k n : Nat} {L : List PV} {σ : Sto} {QR : Option PV → Sto → Prop} {QX : String → Sto → Prop} {x : Int} (h : QR (some (xi x)) σ) (h1 : k ≤ R.cells) (h2 : n ≤ R.slots) : Aw Ω M_Law_remove R (MF Ω R QR QX) k n 17 L [xi x] σ := Aw.iret rfl h h1 h2 d_Law_remove_17
theorem r_Law_remove_19 {Ω : Om} {R : Room} {k n : Nat} {L : List PV} {σ : Sto} {QR : Option PV → Sto → Prop} {QX : String → Sto → Prop} {x : Int} (h : QR (some (xi x)) σ) (h1 : k ≤ R.cells) (h2 : n ≤ R.slots) : Aw Ω M_Law_remove R (MF Ω R QR QX) k n 19 L [xi x] σ := Aw.iret rfl h h1 h2 d_Law_remove_19
theorem e_Law_renew {Ω : Om} {R : Room} {QR : Option PV → Sto → Prop} {QX : String → Sto → Prop} {σ : Sto} {a0 : Nat} {v1 : Int} {v2 : Int} {a3 : Nat} (h : Aw Ω M_Law_renew R (MF Ω R QR QX) 0 0 0 [xr (some a0), xi v1, xi v2, xr (some a3), xu] [] σ) : MC Ω M_Law_renew R QR QX σ [xr (some a0), xi v1, xi v2, xr (some a3)] := MC.body (by decide +kernel) rfl (Nat.le_of_ble_eq_true rfl) rfl h
theorem b_Law_renew_17 {Ω : Om} {R : Room} {F : QF} {k n : Nat} {σ : Sto} {a0 : Nat} {v1 : Int} {v2 : Int} {a3 : Nat} {s0 : Nat} (h : Aw Ω M_Law_renew R F k n 20 [xr (some a0), xi v1, xi v2, xr (some a3), xr (some s0)] [xi 2] σ) : Aw Ω M_Law_renew R F k n 17 [xr (some a0), xi v1, xi v2, xr (some a3), xu] [xr (some s0)] σ := by
  refine Aw.astore (by decide) d_Law_renew_17 ?_
  refine Aw.toL (L' := [xr (some a0), xi v1, xi v2, xr (some a3), xr (some s0)]) rfl ?_
  refine Aw.iconst d_Law_renew_19 ?_
  exact h
theorem b_Law_renew_13 {Ω : Om} {R : Room} {F : QF} {k n : Nat} {σ : Sto} {a0 : Nat} {v1 : Int} {v2 : Int} {a3 : Nat} {s0 : Nat} (h : Aw Ω M_Law_renew R F k n 16 [xr (some a0), xi v1, xi v2, xr (some a3), xr (some s0)] [xi 1] σ) : Aw Ω M_Law_renew R F k n 13 [xr (some a0), xi v1, xi v2, xr (some a3), xu] [xr (some s0)] σ := by
  refine Aw.astore (by decide) d_Law_renew_13 ?_
  refine Aw.toL (L' := [xr (some a0), xi v1, xi v2, xr (some a3), xr (some s0)]) rfl ?_
  refine Aw.iconst d_Law_renew_15 ?_
  exact h
theorem b_Law_renew_0 {Ω : Om} {R : Room} {F : QF} {k n : Nat} {σ : Sto} {a0 : Nat} {v1 : Int} {v2 : Int} {a3 : Nat} (h : Aw Ω M_Law_renew R F k n 5 [xr (some a0), xi v1, xi v2, xr (some a3), xu] [xi v2, xi v1, xr (some a0), xi 0, xr (some a3)] σ) : Aw Ω M_Law_renew R F k n 0 [xr (some a0), xi v1, xi v2, xr (some a3), xu] [] σ := by
  refine Aw.aload_n rfl d_Law_renew_0 ?_
  refine Aw.iconst d_Law_renew_1 ?_
  refine Aw.aload_n rfl d_Law_renew_2 ?_
  refine Aw.iload_n rfl d_Law_renew_3 ?_
  refine Aw.iload_n rfl d_Law_renew_4 ?_
  exact h
theorem b_Law_renew_8 {Ω : Om} {R : Room} {F : QF} {k n : Nat} {σ : Sto} {a0 : Nat} {v1 : Int} {v2 : Int} {a3 : Nat} {s0 : Nat} {s1 : Int} {s2 : Int} (h : sK σ s0 = 51 ∧ 0 ≤ s1 ∧ s1 < sZ σ s0 ∧ Aw Ω M_Law_renew R F k n 22 [xr (some a0), xi v1, xi v2, xr (some a3), xu] [xi 0] (vL σ s0 (s1).toNat (lOf s2))) : Aw Ω M_Law_renew R F k n 8 [xr (some a0), xi v1, xi v2, xr (some a3), xu] [xi s2, xi s1, xr (some s0)] σ := by
  refine Aw.i2l d_Law_renew_8 ?_
  obtain ⟨o1, h⟩ := h
  obtain ⟨o2, o3, h⟩ := h
  refine Aw.last o1 o2 o3 d_Law_renew_9 ?_
  refine Aw.goto (tgt := 21) (by decide) d_Law_renew_10 ?_
  refine Aw.iconst d_Law_renew_21 ?_
  exact h
theorem c_Law_renew_5 {Ω : Om} {R R' : Room} {F : QF} {k n : Nat} {L st : List PV} {σ : Sto} {QX' : String → Sto → Prop} {Q : Int → Sto → Prop} {a : Nat} {x0 : Int} {x1 : Int} (hc : MC Ω M_Dw_renew R' (RI Q) QX' σ [xr (some a), xi x0, xi x1]) (hk : sK σ a = 1) (hr1 : R'.frames + 1 ≤ R.frames) (hr2 : 8 + (6 + 11) + R'.locals ≤ R.locals) (hb1 : k + R'.cells ≤ R.cells) (hb2 : n + R'.slots ≤ R.slots) (hst : (st.map catP).sum ≤ 8) (kk : ∀ x σ', Q x σ' → Aw Ω M_Law_renew R F (k + R'.cells) (n + R'.slots) 8 L (xi x :: st) σ') (kx : ∀ E σ', QX' E σ' → Ax Ω M_Law_renew R F (k + R'.cells) (n + R'.slots) 5 L st σ' E) : Aw Ω M_Law_renew R F k n 5 L (xi x1 :: xi x0 :: xr (some a) :: st) σ :=
  Aw.callV (As := [xi x0, xi x1]) (stk := xi x1 :: xi x0 :: xr (some a) :: st) (nn := 2) 0 M_Dw_renew hc ok_Dw_renew rfl (by decide) rfl hk ml_Law_119 im_Dw_renew se_Dw_renew ⟨hr1, hr2⟩ rfl ⟨hb1, hb2⟩ hst rfl d_Law_renew_5 (fun r σ' h => by obtain ⟨x, rfl, h⟩ := h; exact kk x σ' h) kx
theorem r_Law_renew_16 {Ω : Om} {R : Room} {k n : Nat} {L : List PV} {σ : Sto} {QR : Option PV → Sto → Prop} {QX : String → Sto → Prop} {x : Int} (h : QR (some (xi x)) σ) (h1 : k ≤ R.cells) (h2 : n ≤ R.slots) : Aw Ω M_Law_renew R (MF Ω R QR QX) k n 16 L [xi x] σ := Aw.iret rfl h h1 h2 d_Law_renew_16
theorem r_Law_renew_20 {Ω : Om} {R : Room} {k n : Nat} {L : List PV} {σ : Sto} {QR : Option PV → Sto → Prop} {QX : String → Sto → Prop} {x : Int} (h : QR (some (xi x)) σ) (h1 : k ≤ R.cells) (h2 : n ≤ R.slots) : Aw Ω M_Law_renew R (MF Ω R QR QX) k n 20 L [xi x] σ := Aw.iret rfl h h1 h2 d_Law_renew_20
theorem r_Law_renew_22 {Ω : Om} {R : Room} {k n : Nat} {L : List PV} {σ : Sto} {QR : Option PV → Sto → Prop} {QX : String → Sto → Prop} {x : Int} (h : QR (some (xi x)) σ) (h1 : k ≤ R.cells) (h2 : n ≤ R.slots) : Aw Ω M_Law_renew R (MF Ω R QR QX) k n 22 L [xi x] σ := Aw.iret rfl h h1 h2 d_Law_renew_22
theorem e_Law_review {Ω : Om} {R : Room} {QR : Option PV → Sto → Prop} {QX : String → Sto → Prop} {σ : Sto} {a0 : Nat} {v1 : Int} {v2 : Int} {a3 : Nat} (h : Aw Ω M_Law_review R (MF Ω R QR QX) 0 0 0 [xr (some a0), xi v1, xi v2, xr (some a3), xu] [] σ) : MC Ω M_Law_review R QR QX σ [xr (some a0), xi v1, xi v2, xr (some a3)] := MC.body (by decide +kernel) rfl (Nat.le_of_ble_eq_true rfl) rfl h
theorem b_Law_review_17 {Ω : Om} {R : Room} {F : QF} {k n : Nat} {σ : Sto} {a0 : Nat} {v1 : Int} {v2 : Int} {a3 : Nat} {s0 : Nat} (h : Aw Ω M_Law_review R F k n 20 [xr (some a0), xi v1, xi v2, xr (some a3), xr (some s0)] [xi 2] σ) : Aw Ω M_Law_review R F k n 17 [xr (some a0), xi v1, xi v2, xr (some a3), xu] [xr (some s0)] σ := by
  refine Aw.astore (by decide) d_Law_review_17 ?_
  refine Aw.toL (L' := [xr (some a0), xi v1, xi v2, xr (some a3), xr (some s0)]) rfl ?_
  refine Aw.iconst d_Law_review_19 ?_
  exact h
theorem b_Law_review_13 {Ω : Om} {R : Room} {F : QF} {k n : Nat} {σ : Sto} {a0 : Nat} {v1 : Int} {v2 : Int} {a3 : Nat} {s0 : Nat} (h : Aw Ω M_Law_review R F k n 16 [xr (some a0), xi v1, xi v2, xr (some a3), xr (some s0)] [xi 1] σ) : Aw Ω M_Law_review R F k n 13 [xr (some a0), xi v1, xi v2, xr (some a3), xu] [xr (some s0)] σ := by
  refine Aw.astore (by decide) d_Law_review_13 ?_
  refine Aw.toL (L' := [xr (some a0), xi v1, xi v2, xr (some a3), xr (some s0)]) rfl ?_
  refine Aw.iconst d_Law_review_15 ?_
  exact h
theorem b_Law_review_0 {Ω : Om} {R : Room} {F : QF} {k n : Nat} {σ : Sto} {a0 : Nat} {v1 : Int} {v2 : Int} {a3 : Nat} (h : Aw Ω M_Law_review R F k n 5 [xr (some a0), xi v1, xi v2, xr (some a3), xu] [xi v2, xi v1, xr (some a0), xi 0, xr (some a3)] σ) : Aw Ω M_Law_review R F k n 0 [xr (some a0), xi v1, xi v2, xr (some a3), xu] [] σ := by
  refine Aw.aload_n rfl d_Law_review_0 ?_
  refine Aw.iconst d_Law_review_1 ?_
  refine Aw.aload_n rfl d_Law_review_2 ?_
  refine Aw.iload_n rfl d_Law_review_3 ?_
  refine Aw.iload_n rfl d_Law_review_4 ?_
  exact h
theorem b_Law_review_8 {Ω : Om} {R : Room} {F : QF} {k n : Nat} {σ : Sto} {a0 : Nat} {v1 : Int} {v2 : Int} {a3 : Nat} {s0 : Nat} {s1 : Int} {s2 : Int} (h : sK σ s0 = 51 ∧ 0 ≤ s1 ∧ s1 < sZ σ s0 ∧ Aw Ω M_Law_review R F k n 22 [xr (some a0), xi v1, xi v2, xr (some a3), xu] [xi 0] (vL σ s0 (s1).toNat (lOf s2))) : Aw Ω M_Law_review R F k n 8 [xr (some a0), xi v1, xi v2, xr (some a3), xu] [xi s2, xi s1, xr (some s0)] σ := by
  refine Aw.i2l d_Law_review_8 ?_
  obtain ⟨o1, h⟩ := h
  obtain ⟨o2, o3, h⟩ := h
  refine Aw.last o1 o2 o3 d_Law_review_9 ?_
  refine Aw.goto (tgt := 21) (by decide) d_Law_review_10 ?_
  refine Aw.iconst d_Law_review_21 ?_
  exact h
theorem c_Law_review_5 {Ω : Om} {R R' : Room} {F : QF} {k n : Nat} {L st : List PV} {σ : Sto} {QX' : String → Sto → Prop} {Q : Int → Sto → Prop} {a : Nat} {x0 : Int} {x1 : Int} (hc : MC Ω M_Dw_review R' (RI Q) QX' σ [xr (some a), xi x0, xi x1]) (hk : sK σ a = 1) (hr1 : R'.frames + 1 ≤ R.frames) (hr2 : 8 + (3 + 11) + R'.locals ≤ R.locals) (hb1 : k + R'.cells ≤ R.cells) (hb2 : n + R'.slots ≤ R.slots) (hst : (st.map catP).sum ≤ 8) (kk : ∀ x σ', Q x σ' → Aw Ω M_Law_review R F (k + R'.cells) (n + R'.slots) 8 L (xi x :: st) σ') (kx : ∀ E σ', QX' E σ' → Ax Ω M_Law_review R F (k + R'.cells) (n + R'.slots) 5 L st σ' E) : Aw Ω M_Law_review R F k n 5 L (xi x1 :: xi x0 :: xr (some a) :: st) σ :=
  Aw.callV (As := [xi x0, xi x1]) (stk := xi x1 :: xi x0 :: xr (some a) :: st) (nn := 2) 0 M_Dw_review hc ok_Dw_review rfl (by decide) rfl hk ml_Law_113 im_Dw_review se_Dw_review ⟨hr1, hr2⟩ rfl ⟨hb1, hb2⟩ hst rfl d_Law_review_5 (fun r σ' h => by obtain ⟨x, rfl, h⟩ := h; exact kk x σ' h) kx
theorem r_Law_review_16 {Ω : Om} {R : Room} {k n : Nat} {L : List PV} {σ : Sto} {QR : Option PV → Sto → Prop} {QX : String → Sto → Prop} {x : Int} (h : QR (some (xi x)) σ) (h1 : k ≤ R.cells) (h2 : n ≤ R.slots) : Aw Ω M_Law_review R (MF Ω R QR QX) k n 16 L [xi x] σ := Aw.iret rfl h h1 h2 d_Law_review_16
theorem r_Law_review_20 {Ω : Om} {R : Room} {k n : Nat} {L : List PV} {σ : Sto} {QR : Option PV → Sto → Prop} {QX : String → Sto → Prop} {x : Int} (h : QR (some (xi x)) σ) (h1 : k ≤ R.cells) (h2 : n ≤ R.slots) : Aw Ω M_Law_review R (MF Ω R QR QX) k n 20 L [xi x] σ := Aw.iret rfl h h1 h2 d_Law_review_20
theorem r_Law_review_22 {Ω : Om} {R : Room} {k n : Nat} {L : List PV} {σ : Sto} {QR : Option PV → Sto → Prop} {QX : String → Sto → Prop} {x : Int} (h : QR (some (xi x)) σ) (h1 : k ≤ R.cells) (h2 : n ≤ R.slots) : Aw Ω M_Law_review R (MF Ω R QR QX) k n 22 L [xi x] σ := Aw.iret rfl h h1 h2 d_Law_review_22
theorem e_Law_reviewState {Ω : Om} {R : Room} {QR : Option PV → Sto → Prop} {QX : String → Sto → Prop} {σ : Sto} {a0 : Nat} {v1 : Int} {a2 : Nat} (h : Aw Ω M_Law_reviewState R (MF Ω R QR QX) 0 0 0 [xr (some a0), xi v1, xr (some a2), xu] [] σ) : MC Ω M_Law_reviewState R QR QX σ [xr (some a0), xi v1, xr (some a2)] := MC.body (by decide +kernel) rfl (Nat.le_of_ble_eq_true rfl) rfl h
theorem b_Law_reviewState_12 {Ω : Om} {R : Room} {F : QF} {k n : Nat} {σ : Sto} {a0 : Nat} {v1 : Int} {a2 : Nat} {s0 : Nat} (h : Aw Ω M_Law_reviewState R F k n 14 [xr (some a0), xi v1, xr (some a2), xr (some s0)] [xi 1] σ) : Aw Ω M_Law_reviewState R F k n 12 [xr (some a0), xi v1, xr (some a2), xu] [xr (some s0)] σ := by
  refine Aw.astore_n (by decide) d_Law_reviewState_12 ?_
  refine Aw.toL (L' := [xr (some a0), xi v1, xr (some a2), xr (some s0)]) rfl ?_
  refine Aw.iconst d_Law_reviewState_13 ?_
  exact h
theorem b_Law_reviewState_0 {Ω : Om} {R : Room} {F : QF} {k n : Nat} {σ : Sto} {a0 : Nat} {v1 : Int} {a2 : Nat} (h : Aw Ω M_Law_reviewState R F k n 4 [xr (some a0), xi v1, xr (some a2), xu] [xi v1, xr (some a0), xi 0, xr (some a2)] σ) : Aw Ω M_Law_reviewState R F k n 0 [xr (some a0), xi v1, xr (some a2), xu] [] σ := by
  refine Aw.aload_n rfl d_Law_reviewState_0 ?_
  refine Aw.iconst d_Law_reviewState_1 ?_
  refine Aw.aload_n rfl d_Law_reviewState_2 ?_
  refine Aw.iload_n rfl d_Law_reviewState_3 ?_
  exact h
theorem b_Law_reviewState_7 {Ω : Om} {R : Room} {F : QF} {k n : Nat} {σ : Sto} {a0 : Nat} {v1 : Int} {a2 : Nat} {s0 : Nat} {s1 : Int} {s2 : Int} (h : sK σ s0 = 51 ∧ 0 ≤ s1 ∧ s1 < sZ σ s0 ∧ Aw Ω M_Law_reviewState R F k n 16 [xr (some a0), xi v1, xr (some a2), xu] [xi 0] (vL σ s0 (s1).toNat (lOf s2))) : Aw Ω M_Law_reviewState R F k n 7 [xr (some a0), xi v1, xr (some a2), xu] [xi s2, xi s1, xr (some s0)] σ := by
  refine Aw.i2l d_Law_reviewState_7 ?_
  obtain ⟨o1, h⟩ := h
  obtain ⟨o2, o3, h⟩ := h
  refine Aw.last o1 o2 o3 d_Law_reviewState_8 ?_
  refine Aw.goto (tgt := 15) (by decide) d_Law_reviewState_9 ?_
  refine Aw.iconst d_Law_reviewState_15 ?_
  exact h
theorem c_Law_reviewState_4 {Ω : Om} {R R' : Room} {F : QF} {k n : Nat} {L st : List PV} {σ : Sto} {QX' : String → Sto → Prop} {Q : Int → Sto → Prop} {a : Nat} {x0 : Int} (hc : MC Ω M_Dw_reviewState R' (RI Q) QX' σ [xr (some a), xi x0]) (hk : sK σ a = 1) (hr1 : R'.frames + 1 ≤ R.frames) (hr2 : 8 + (2 + 11) + R'.locals ≤ R.locals) (hb1 : k + R'.cells ≤ R.cells) (hb2 : n + R'.slots ≤ R.slots) (hst : (st.map catP).sum ≤ 8) (kk : ∀ x σ', Q x σ' → Aw Ω M_Law_reviewState R F (k + R'.cells) (n + R'.slots) 7 L (xi x :: st) σ') (kx : ∀ E σ', QX' E σ' → Ax Ω M_Law_reviewState R F (k + R'.cells) (n + R'.slots) 4 L st σ' E) : Aw Ω M_Law_reviewState R F k n 4 L (xi x0 :: xr (some a) :: st) σ :=
  Aw.callV (As := [xi x0]) (stk := xi x0 :: xr (some a) :: st) (nn := 1) 0 M_Dw_reviewState hc ok_Dw_reviewState rfl (by decide) rfl hk ml_Law_125 im_Dw_reviewState se_Dw_reviewState ⟨hr1, hr2⟩ rfl ⟨hb1, hb2⟩ hst rfl d_Law_reviewState_4 (fun r σ' h => by obtain ⟨x, rfl, h⟩ := h; exact kk x σ' h) kx
theorem r_Law_reviewState_14 {Ω : Om} {R : Room} {k n : Nat} {L : List PV} {σ : Sto} {QR : Option PV → Sto → Prop} {QX : String → Sto → Prop} {x : Int} (h : QR (some (xi x)) σ) (h1 : k ≤ R.cells) (h2 : n ≤ R.slots) : Aw Ω M_Law_reviewState R (MF Ω R QR QX) k n 14 L [xi x] σ := Aw.iret rfl h h1 h2 d_Law_reviewState_14
theorem r_Law_reviewState_16 {Ω : Om} {R : Room} {k n : Nat} {L : List PV} {σ : Sto} {QR : Option PV → Sto → Prop} {QX : String → Sto → Prop} {x : Int} (h : QR (some (xi x)) σ) (h1 : k ≤ R.cells) (h2 : n ≤ R.slots) : Aw Ω M_Law_reviewState R (MF Ω R QR QX) k n 16 L [xi x] σ := Aw.iret rfl h h1 h2 d_Law_reviewState_16
theorem e_Law_settle {Ω : Om} {R : Room} {QR : Option PV → Sto → Prop} {QX : String → Sto → Prop} {σ : Sto} {a0 : Nat} {v1 : Int} {v2 : Int} {a3 : Nat} (h : Aw Ω M_Law_settle R (MF Ω R QR QX) 0 0 0 [xr (some a0), xi v1, xi v2, xr (some a3), xu] [] σ) : MC Ω M_Law_settle R QR QX σ [xr (some a0), xi v1, xi v2, xr (some a3)] := MC.body (by decide +kernel) rfl (Nat.le_of_ble_eq_true rfl) rfl h
theorem b_Law_settle_21 {Ω : Om} {R : Room} {F : QF} {k n : Nat} {σ : Sto} {a0 : Nat} {v1 : Int} {v2 : Int} {a3 : Nat} {s0 : Nat} (h : Aw Ω M_Law_settle R F k n 24 [xr (some a0), xi v1, xi v2, xr (some a3), xr (some s0)] [xi 3] σ) : Aw Ω M_Law_settle R F k n 21 [xr (some a0), xi v1, xi v2, xr (some a3), xu] [xr (some s0)] σ := by
  refine Aw.astore (by decide) d_Law_settle_21 ?_
  refine Aw.toL (L' := [xr (some a0), xi v1, xi v2, xr (some a3), xr (some s0)]) rfl ?_
  refine Aw.iconst d_Law_settle_23 ?_
  exact h
theorem b_Law_settle_17 {Ω : Om} {R : Room} {F : QF} {k n : Nat} {σ : Sto} {a0 : Nat} {v1 : Int} {v2 : Int} {a3 : Nat} {s0 : Nat} (h : Aw Ω M_Law_settle R F k n 20 [xr (some a0), xi v1, xi v2, xr (some a3), xr (some s0)] [xi 2] σ) : Aw Ω M_Law_settle R F k n 17 [xr (some a0), xi v1, xi v2, xr (some a3), xu] [xr (some s0)] σ := by
  refine Aw.astore (by decide) d_Law_settle_17 ?_
  refine Aw.toL (L' := [xr (some a0), xi v1, xi v2, xr (some a3), xr (some s0)]) rfl ?_
  refine Aw.iconst d_Law_settle_19 ?_
  exact h
theorem b_Law_settle_13 {Ω : Om} {R : Room} {F : QF} {k n : Nat} {σ : Sto} {a0 : Nat} {v1 : Int} {v2 : Int} {a3 : Nat} {s0 : Nat} (h : Aw Ω M_Law_settle R F k n 16 [xr (some a0), xi v1, xi v2, xr (some a3), xr (some s0)] [xi 1] σ) : Aw Ω M_Law_settle R F k n 13 [xr (some a0), xi v1, xi v2, xr (some a3), xu] [xr (some s0)] σ := by
  refine Aw.astore (by decide) d_Law_settle_13 ?_
  refine Aw.toL (L' := [xr (some a0), xi v1, xi v2, xr (some a3), xr (some s0)]) rfl ?_
  refine Aw.iconst d_Law_settle_15 ?_
  exact h
theorem b_Law_settle_0 {Ω : Om} {R : Room} {F : QF} {k n : Nat} {σ : Sto} {a0 : Nat} {v1 : Int} {v2 : Int} {a3 : Nat} (h : Aw Ω M_Law_settle R F k n 5 [xr (some a0), xi v1, xi v2, xr (some a3), xu] [xi v2, xi v1, xr (some a0), xi 0, xr (some a3)] σ) : Aw Ω M_Law_settle R F k n 0 [xr (some a0), xi v1, xi v2, xr (some a3), xu] [] σ := by
  refine Aw.aload_n rfl d_Law_settle_0 ?_
  refine Aw.iconst d_Law_settle_1 ?_
  refine Aw.aload_n rfl d_Law_settle_2 ?_
  refine Aw.iload_n rfl d_Law_settle_3 ?_
  refine Aw.iload_n rfl d_Law_settle_4 ?_
  exact h
theorem b_Law_settle_8 {Ω : Om} {R : Room} {F : QF} {k n : Nat} {σ : Sto} {a0 : Nat} {v1 : Int} {v2 : Int} {a3 : Nat} {s0 : Nat} {s1 : Int} {s2 : Int} (h : sK σ s0 = 51 ∧ 0 ≤ s1 ∧ s1 < sZ σ s0 ∧ Aw Ω M_Law_settle R F k n 26 [xr (some a0), xi v1, xi v2, xr (some a3), xu] [xi 0] (vL σ s0 (s1).toNat (lOf s2))) : Aw Ω M_Law_settle R F k n 8 [xr (some a0), xi v1, xi v2, xr (some a3), xu] [xi s2, xi s1, xr (some s0)] σ := by
  refine Aw.i2l d_Law_settle_8 ?_
  obtain ⟨o1, h⟩ := h
  obtain ⟨o2, o3, h⟩ := h
  refine Aw.last o1 o2 o3 d_Law_settle_9 ?_
  refine Aw.goto (tgt := 25) (by decide) d_Law_settle_10 ?_
  refine Aw.iconst d_Law_settle_25 ?_
  exact h
theorem c_Law_settle_5 {Ω : Om} {R R' : Room} {F : QF} {k n : Nat} {L st : List PV} {σ : Sto} {QX' : String → Sto → Prop} {Q : Int → Sto → Prop} {a : Nat} {x0 : Int} {x1 : Int} (hc : MC Ω M_Dw_settle R' (RI Q) QX' σ [xr (some a), xi x0, xi x1]) (hk : sK σ a = 1) (hr1 : R'.frames + 1 ≤ R.frames) (hr2 : 8 + (3 + 11) + R'.locals ≤ R.locals) (hb1 : k + R'.cells ≤ R.cells) (hb2 : n + R'.slots ≤ R.slots) (hst : (st.map catP).sum ≤ 8) (kk : ∀ x σ', Q x σ' → Aw Ω M_Law_settle R F (k + R'.cells) (n + R'.slots) 8 L (xi x :: st) σ') (kx : ∀ E σ', QX' E σ' → Ax Ω M_Law_settle R F (k + R'.cells) (n + R'.slots) 5 L st σ' E) : Aw Ω M_Law_settle R F k n 5 L (xi x1 :: xi x0 :: xr (some a) :: st) σ :=
  Aw.callV (As := [xi x0, xi x1]) (stk := xi x1 :: xi x0 :: xr (some a) :: st) (nn := 2) 0 M_Dw_settle hc ok_Dw_settle rfl (by decide) rfl hk ml_Law_92 im_Dw_settle se_Dw_settle ⟨hr1, hr2⟩ rfl ⟨hb1, hb2⟩ hst rfl d_Law_settle_5 (fun r σ' h => by obtain ⟨x, rfl, h⟩ := h; exact kk x σ' h) kx
theorem r_Law_settle_16 {Ω : Om} {R : Room} {k n : Nat} {L : List PV} {σ : Sto} {QR : Option PV → Sto → Prop} {QX : String → Sto → Prop} {x : Int} (h : QR (some (xi x)) σ) (h1 : k ≤ R.cells) (h2 : n ≤ R.slots) : Aw Ω M_Law_settle R (MF Ω R QR QX) k n 16 L [xi x] σ := Aw.iret rfl h h1 h2 d_Law_settle_16
theorem r_Law_settle_20 {Ω : Om} {R : Room} {k n : Nat} {L : List PV} {σ : Sto} {QR : Option PV → Sto → Prop} {QX : String → Sto → Prop} {x : Int} (h : QR (some (xi x)) σ) (h1 : k ≤ R.cells) (h2 : n ≤ R.slots) : Aw Ω M_Law_settle R (MF Ω R QR QX) k n 20 L [xi x] σ := Aw.iret rfl h h1 h2 d_Law_settle_20
theorem r_Law_settle_24 {Ω : Om} {R : Room} {k n : Nat} {L : List PV} {σ : Sto} {QR : Option PV → Sto → Prop} {QX : String → Sto → Prop} {x : Int} (h : QR (some (xi x)) σ) (h1 : k ≤ R.cells) (h2 : n ≤ R.slots) : Aw Ω M_Law_settle R (MF Ω R QR QX) k n 24 L [xi x] σ := Aw.iret rfl h h1 h2 d_Law_settle_24
theorem r_Law_settle_26 {Ω : Om} {R : Room} {k n : Nat} {L : List PV} {σ : Sto} {QR : Option PV → Sto → Prop} {QX : String → Sto → Prop} {x : Int} (h : QR (some (xi x)) σ) (h1 : k ≤ R.cells) (h2 : n ≤ R.slots) : Aw Ω M_Law_settle R (MF Ω R QR QX) k n 26 L [xi x] σ := Aw.iret rfl h h1 h2 d_Law_settle_26
theorem e_Law_since {Ω : Om} {R : Room} {QR : Option PV → Sto → Prop} {QX : String → Sto → Prop} {σ : Sto} {a0 : Nat} {v1 : Int} {v2 : Int} {a3 : Nat} (h : Aw Ω M_Law_since R (MF Ω R QR QX) 0 0 0 [xr (some a0), xi v1, xi v2, xr (some a3), xu] [] σ) : MC Ω M_Law_since R QR QX σ [xr (some a0), xi v1, xi v2, xr (some a3)] := MC.body (by decide +kernel) rfl (Nat.le_of_ble_eq_true rfl) rfl h
theorem b_Law_since_13 {Ω : Om} {R : Room} {F : QF} {k n : Nat} {σ : Sto} {a0 : Nat} {v1 : Int} {v2 : Int} {a3 : Nat} {s0 : Nat} (h : Aw Ω M_Law_since R F k n 16 [xr (some a0), xi v1, xi v2, xr (some a3), xr (some s0)] [xi 1] σ) : Aw Ω M_Law_since R F k n 13 [xr (some a0), xi v1, xi v2, xr (some a3), xu] [xr (some s0)] σ := by
  refine Aw.astore (by decide) d_Law_since_13 ?_
  refine Aw.toL (L' := [xr (some a0), xi v1, xi v2, xr (some a3), xr (some s0)]) rfl ?_
  refine Aw.iconst d_Law_since_15 ?_
  exact h
theorem b_Law_since_0 {Ω : Om} {R : Room} {F : QF} {k n : Nat} {σ : Sto} {a0 : Nat} {v1 : Int} {v2 : Int} {a3 : Nat} (h : Aw Ω M_Law_since R F k n 5 [xr (some a0), xi v1, xi v2, xr (some a3), xu] [xi v2, xi v1, xr (some a0), xi 0, xr (some a3)] σ) : Aw Ω M_Law_since R F k n 0 [xr (some a0), xi v1, xi v2, xr (some a3), xu] [] σ := by
  refine Aw.aload_n rfl d_Law_since_0 ?_
  refine Aw.iconst d_Law_since_1 ?_
  refine Aw.aload_n rfl d_Law_since_2 ?_
  refine Aw.iload_n rfl d_Law_since_3 ?_
  refine Aw.iload_n rfl d_Law_since_4 ?_
  exact h
theorem b_Law_since_8 {Ω : Om} {R : Room} {F : QF} {k n : Nat} {σ : Sto} {a0 : Nat} {v1 : Int} {v2 : Int} {a3 : Nat} {s0 : Nat} {s1 : Int} {s2 : Int} (h : sK σ s0 = 51 ∧ 0 ≤ s1 ∧ s1 < sZ σ s0 ∧ Aw Ω M_Law_since R F k n 18 [xr (some a0), xi v1, xi v2, xr (some a3), xu] [xi 0] (vL σ s0 (s1).toNat (lOf s2))) : Aw Ω M_Law_since R F k n 8 [xr (some a0), xi v1, xi v2, xr (some a3), xu] [xi s2, xi s1, xr (some s0)] σ := by
  refine Aw.i2l d_Law_since_8 ?_
  obtain ⟨o1, h⟩ := h
  obtain ⟨o2, o3, h⟩ := h
  refine Aw.last o1 o2 o3 d_Law_since_9 ?_
  refine Aw.goto (tgt := 17) (by decide) d_Law_since_10 ?_
  refine Aw.iconst d_Law_since_17 ?_
  exact h
theorem c_Law_since_5 {Ω : Om} {R R' : Room} {F : QF} {k n : Nat} {L st : List PV} {σ : Sto} {QX' : String → Sto → Prop} {Q : Int → Sto → Prop} {a : Nat} {x0 : Int} {x1 : Int} (hc : MC Ω M_Dw_since R' (RI Q) QX' σ [xr (some a), xi x0, xi x1]) (hk : sK σ a = 1) (hr1 : R'.frames + 1 ≤ R.frames) (hr2 : 8 + (6 + 11) + R'.locals ≤ R.locals) (hb1 : k + R'.cells ≤ R.cells) (hb2 : n + R'.slots ≤ R.slots) (hst : (st.map catP).sum ≤ 8) (kk : ∀ x σ', Q x σ' → Aw Ω M_Law_since R F (k + R'.cells) (n + R'.slots) 8 L (xi x :: st) σ') (kx : ∀ E σ', QX' E σ' → Ax Ω M_Law_since R F (k + R'.cells) (n + R'.slots) 5 L st σ' E) : Aw Ω M_Law_since R F k n 5 L (xi x1 :: xi x0 :: xr (some a) :: st) σ :=
  Aw.callV (As := [xi x0, xi x1]) (stk := xi x1 :: xi x0 :: xr (some a) :: st) (nn := 2) 0 M_Dw_since hc ok_Dw_since rfl (by decide) rfl hk ml_Law_58 im_Dw_since se_Dw_since ⟨hr1, hr2⟩ rfl ⟨hb1, hb2⟩ hst rfl d_Law_since_5 (fun r σ' h => by obtain ⟨x, rfl, h⟩ := h; exact kk x σ' h) kx
theorem r_Law_since_16 {Ω : Om} {R : Room} {k n : Nat} {L : List PV} {σ : Sto} {QR : Option PV → Sto → Prop} {QX : String → Sto → Prop} {x : Int} (h : QR (some (xi x)) σ) (h1 : k ≤ R.cells) (h2 : n ≤ R.slots) : Aw Ω M_Law_since R (MF Ω R QR QX) k n 16 L [xi x] σ := Aw.iret rfl h h1 h2 d_Law_since_16
theorem r_Law_since_18 {Ω : Om} {R : Room} {k n : Nat} {L : List PV} {σ : Sto} {QR : Option PV → Sto → Prop} {QX : String → Sto → Prop} {x : Int} (h : QR (some (xi x)) σ) (h1 : k ≤ R.cells) (h2 : n ≤ R.slots) : Aw Ω M_Law_since R (MF Ω R QR QX) k n 18 L [xi x] σ := Aw.iret rfl h h1 h2 d_Law_since_18
theorem e_Law_treeCost {Ω : Om} {R : Room} {QR : Option PV → Sto → Prop} {QX : String → Sto → Prop} {σ : Sto} {a0 : Nat} {v1 : Int} {v2 : Int} {a3 : Nat} (h : Aw Ω M_Law_treeCost R (MF Ω R QR QX) 0 0 0 [xr (some a0), xi v1, xi v2, xr (some a3), xu] [] σ) : MC Ω M_Law_treeCost R QR QX σ [xr (some a0), xi v1, xi v2, xr (some a3)] := MC.body (by decide +kernel) rfl (Nat.le_of_ble_eq_true rfl) rfl h
theorem b_Law_treeCost_13 {Ω : Om} {R : Room} {F : QF} {k n : Nat} {σ : Sto} {a0 : Nat} {v1 : Int} {v2 : Int} {a3 : Nat} {s0 : Nat} (h : Aw Ω M_Law_treeCost R F k n 16 [xr (some a0), xi v1, xi v2, xr (some a3), xr (some s0)] [xi 1] σ) : Aw Ω M_Law_treeCost R F k n 13 [xr (some a0), xi v1, xi v2, xr (some a3), xu] [xr (some s0)] σ := by
  refine Aw.astore (by decide) d_Law_treeCost_13 ?_
  refine Aw.toL (L' := [xr (some a0), xi v1, xi v2, xr (some a3), xr (some s0)]) rfl ?_
  refine Aw.iconst d_Law_treeCost_15 ?_
  exact h
theorem b_Law_treeCost_0 {Ω : Om} {R : Room} {F : QF} {k n : Nat} {σ : Sto} {a0 : Nat} {v1 : Int} {v2 : Int} {a3 : Nat} (h : Aw Ω M_Law_treeCost R F k n 5 [xr (some a0), xi v1, xi v2, xr (some a3), xu] [xi v2, xi v1, xr (some a0), xi 0, xr (some a3)] σ) : Aw Ω M_Law_treeCost R F k n 0 [xr (some a0), xi v1, xi v2, xr (some a3), xu] [] σ := by
  refine Aw.aload_n rfl d_Law_treeCost_0 ?_
  refine Aw.iconst d_Law_treeCost_1 ?_
  refine Aw.aload_n rfl d_Law_treeCost_2 ?_
  refine Aw.iload_n rfl d_Law_treeCost_3 ?_
  refine Aw.iload_n rfl d_Law_treeCost_4 ?_
  exact h
theorem b_Law_treeCost_8 {Ω : Om} {R : Room} {F : QF} {k n : Nat} {σ : Sto} {a0 : Nat} {v1 : Int} {v2 : Int} {a3 : Nat} {s0 : Nat} {s1 : Int} {s2 : Int} (h : sK σ s0 = 51 ∧ 0 ≤ s1 ∧ s1 < sZ σ s0 ∧ Aw Ω M_Law_treeCost R F k n 18 [xr (some a0), xi v1, xi v2, xr (some a3), xu] [xi 0] (vL σ s0 (s1).toNat (lOf s2))) : Aw Ω M_Law_treeCost R F k n 8 [xr (some a0), xi v1, xi v2, xr (some a3), xu] [xi s2, xi s1, xr (some s0)] σ := by
  refine Aw.i2l d_Law_treeCost_8 ?_
  obtain ⟨o1, h⟩ := h
  obtain ⟨o2, o3, h⟩ := h
  refine Aw.last o1 o2 o3 d_Law_treeCost_9 ?_
  refine Aw.goto (tgt := 17) (by decide) d_Law_treeCost_10 ?_
  refine Aw.iconst d_Law_treeCost_17 ?_
  exact h
theorem c_Law_treeCost_5 {Ω : Om} {R R' : Room} {F : QF} {k n : Nat} {L st : List PV} {σ : Sto} {QX' : String → Sto → Prop} {Q : Int → Sto → Prop} {a : Nat} {x0 : Int} {x1 : Int} (hc : MC Ω M_Dw_treeCost R' (RI Q) QX' σ [xr (some a), xi x0, xi x1]) (hk : sK σ a = 1) (hr1 : R'.frames + 1 ≤ R.frames) (hr2 : 8 + (5 + 11) + R'.locals ≤ R.locals) (hb1 : k + R'.cells ≤ R.cells) (hb2 : n + R'.slots ≤ R.slots) (hst : (st.map catP).sum ≤ 8) (kk : ∀ x σ', Q x σ' → Aw Ω M_Law_treeCost R F (k + R'.cells) (n + R'.slots) 8 L (xi x :: st) σ') (kx : ∀ E σ', QX' E σ' → Ax Ω M_Law_treeCost R F (k + R'.cells) (n + R'.slots) 5 L st σ' E) : Aw Ω M_Law_treeCost R F k n 5 L (xi x1 :: xi x0 :: xr (some a) :: st) σ :=
  Aw.callV (As := [xi x0, xi x1]) (stk := xi x1 :: xi x0 :: xr (some a) :: st) (nn := 2) 0 M_Dw_treeCost hc ok_Dw_treeCost rfl (by decide) rfl hk ml_Law_79 im_Dw_treeCost se_Dw_treeCost ⟨hr1, hr2⟩ rfl ⟨hb1, hb2⟩ hst rfl d_Law_treeCost_5 (fun r σ' h => by obtain ⟨x, rfl, h⟩ := h; exact kk x σ' h) kx
theorem r_Law_treeCost_16 {Ω : Om} {R : Room} {k n : Nat} {L : List PV} {σ : Sto} {QR : Option PV → Sto → Prop} {QX : String → Sto → Prop} {x : Int} (h : QR (some (xi x)) σ) (h1 : k ≤ R.cells) (h2 : n ≤ R.slots) : Aw Ω M_Law_treeCost R (MF Ω R QR QX) k n 16 L [xi x] σ := Aw.iret rfl h h1 h2 d_Law_treeCost_16
theorem r_Law_treeCost_18 {Ω : Om} {R : Room} {k n : Nat} {L : List PV} {σ : Sto} {QR : Option PV → Sto → Prop} {QX : String → Sto → Prop} {x : Int} (h : QR (some (xi x)) σ) (h1 : k ≤ R.cells) (h2 : n ≤ R.slots) : Aw Ω M_Law_treeCost R (MF Ω R QR QX) k n 18 L [xi x] σ := Aw.iret rfl h h1 h2 d_Law_treeCost_18
theorem e_Law_turn {Ω : Om} {R : Room} {QR : Option PV → Sto → Prop} {QX : String → Sto → Prop} {σ : Sto} {a0 : Nat} {v1 : Int} {a2 : Nat} (h : Aw Ω M_Law_turn R (MF Ω R QR QX) 0 0 0 [xr (some a0), xi v1, xr (some a2), xu] [] σ) : MC Ω M_Law_turn R QR QX σ [xr (some a0), xi v1, xr (some a2)] := MC.body (by decide +kernel) rfl (Nat.le_of_ble_eq_true rfl) rfl h
theorem b_Law_turn_15 {Ω : Om} {R : Room} {F : QF} {k n : Nat} {σ : Sto} {a0 : Nat} {v1 : Int} {a2 : Nat} {s0 : Nat} (h : Aw Ω M_Law_turn R F k n 17 [xr (some a0), xi v1, xr (some a2), xr (some s0)] [xi 2] σ) : Aw Ω M_Law_turn R F k n 15 [xr (some a0), xi v1, xr (some a2), xu] [xr (some s0)] σ := by
  refine Aw.astore_n (by decide) d_Law_turn_15 ?_
  refine Aw.toL (L' := [xr (some a0), xi v1, xr (some a2), xr (some s0)]) rfl ?_
  refine Aw.iconst d_Law_turn_16 ?_
  exact h
theorem b_Law_turn_12 {Ω : Om} {R : Room} {F : QF} {k n : Nat} {σ : Sto} {a0 : Nat} {v1 : Int} {a2 : Nat} {s0 : Nat} (h : Aw Ω M_Law_turn R F k n 14 [xr (some a0), xi v1, xr (some a2), xr (some s0)] [xi 1] σ) : Aw Ω M_Law_turn R F k n 12 [xr (some a0), xi v1, xr (some a2), xu] [xr (some s0)] σ := by
  refine Aw.astore_n (by decide) d_Law_turn_12 ?_
  refine Aw.toL (L' := [xr (some a0), xi v1, xr (some a2), xr (some s0)]) rfl ?_
  refine Aw.iconst d_Law_turn_13 ?_
  exact h
theorem b_Law_turn_0 {Ω : Om} {R : Room} {F : QF} {k n : Nat} {σ : Sto} {a0 : Nat} {v1 : Int} {a2 : Nat} (h : Aw Ω M_Law_turn R F k n 4 [xr (some a0), xi v1, xr (some a2), xu] [xi v1, xr (some a0), xi 0, xr (some a2)] σ) : Aw Ω M_Law_turn R F k n 0 [xr (some a0), xi v1, xr (some a2), xu] [] σ := by
  refine Aw.aload_n rfl d_Law_turn_0 ?_
  refine Aw.iconst d_Law_turn_1 ?_
  refine Aw.aload_n rfl d_Law_turn_2 ?_
  refine Aw.iload_n rfl d_Law_turn_3 ?_
  exact h
theorem b_Law_turn_7 {Ω : Om} {R : Room} {F : QF} {k n : Nat} {σ : Sto} {a0 : Nat} {v1 : Int} {a2 : Nat} {s0 : Nat} {s1 : Int} {s2 : Int} (h : sK σ s0 = 51 ∧ 0 ≤ s1 ∧ s1 < sZ σ s0 ∧ Aw Ω M_Law_turn R F k n 19 [xr (some a0), xi v1, xr (some a2), xu] [xi 0] (vL σ s0 (s1).toNat (lOf s2))) : Aw Ω M_Law_turn R F k n 7 [xr (some a0), xi v1, xr (some a2), xu] [xi s2, xi s1, xr (some s0)] σ := by
  refine Aw.i2l d_Law_turn_7 ?_
  obtain ⟨o1, h⟩ := h
  obtain ⟨o2, o3, h⟩ := h
  refine Aw.last o1 o2 o3 d_Law_turn_8 ?_
  refine Aw.goto (tgt := 18) (by decide) d_Law_turn_9 ?_
  refine Aw.iconst d_Law_turn_18 ?_
  exact h
theorem c_Law_turn_4 {Ω : Om} {R R' : Room} {F : QF} {k n : Nat} {L st : List PV} {σ : Sto} {QX' : String → Sto → Prop} {Q : Int → Sto → Prop} {a : Nat} {x0 : Int} (hc : MC Ω M_Dw_turn R' (RI Q) QX' σ [xr (some a), xi x0]) (hk : sK σ a = 1) (hr1 : R'.frames + 1 ≤ R.frames) (hr2 : 8 + (3 + 11) + R'.locals ≤ R.locals) (hb1 : k + R'.cells ≤ R.cells) (hb2 : n + R'.slots ≤ R.slots) (hst : (st.map catP).sum ≤ 8) (kk : ∀ x σ', Q x σ' → Aw Ω M_Law_turn R F (k + R'.cells) (n + R'.slots) 7 L (xi x :: st) σ') (kx : ∀ E σ', QX' E σ' → Ax Ω M_Law_turn R F (k + R'.cells) (n + R'.slots) 4 L st σ' E) : Aw Ω M_Law_turn R F k n 4 L (xi x0 :: xr (some a) :: st) σ :=
  Aw.callV (As := [xi x0]) (stk := xi x0 :: xr (some a) :: st) (nn := 1) 0 M_Dw_turn hc ok_Dw_turn rfl (by decide) rfl hk ml_Law_98 im_Dw_turn se_Dw_turn ⟨hr1, hr2⟩ rfl ⟨hb1, hb2⟩ hst rfl d_Law_turn_4 (fun r σ' h => by obtain ⟨x, rfl, h⟩ := h; exact kk x σ' h) kx
theorem r_Law_turn_14 {Ω : Om} {R : Room} {k n : Nat} {L : List PV} {σ : Sto} {QR : Option PV → Sto → Prop} {QX : String → Sto → Prop} {x : Int} (h : QR (some (xi x)) σ) (h1 : k ≤ R.cells) (h2 : n ≤ R.slots) : Aw Ω M_Law_turn R (MF Ω R QR QX) k n 14 L [xi x] σ := Aw.iret rfl h h1 h2 d_Law_turn_14
theorem r_Law_turn_17 {Ω : Om} {R : Room} {k n : Nat} {L : List PV} {σ : Sto} {QR : Option PV → Sto → Prop} {QX : String → Sto → Prop} {x : Int} (h : QR (some (xi x)) σ) (h1 : k ≤ R.cells) (h2 : n ≤ R.slots) : Aw Ω M_Law_turn R (MF Ω R QR QX) k n 17 L [xi x] σ := Aw.iret rfl h h1 h2 d_Law_turn_17
theorem r_Law_turn_19 {Ω : Om} {R : Room} {k n : Nat} {L : List PV} {σ : Sto} {QR : Option PV → Sto → Prop} {QX : String → Sto → Prop} {x : Int} (h : QR (some (xi x)) σ) (h1 : k ≤ R.cells) (h2 : n ≤ R.slots) : Aw Ω M_Law_turn R (MF Ω R QR QX) k n 19 L [xi x] σ := Aw.iret rfl h h1 h2 d_Law_turn_19
theorem e_Law_undo {Ω : Om} {R : Room} {QR : Option PV → Sto → Prop} {QX : String → Sto → Prop} {σ : Sto} {a0 : Nat} {a1 : Nat} (h : Aw Ω M_Law_undo R (MF Ω R QR QX) 0 0 0 [xr (some a0), xr (some a1), xu] [] σ) : MC Ω M_Law_undo R QR QX σ [xr (some a0), xr (some a1)] := MC.body (by decide +kernel) rfl (Nat.le_of_ble_eq_true rfl) rfl h
theorem b_Law_undo_11 {Ω : Om} {R : Room} {F : QF} {k n : Nat} {σ : Sto} {a0 : Nat} {a1 : Nat} {s0 : Nat} (h : Aw Ω M_Law_undo R F k n 13 [xr (some a0), xr (some a1), xr (some s0)] [xi 1] σ) : Aw Ω M_Law_undo R F k n 11 [xr (some a0), xr (some a1), xu] [xr (some s0)] σ := by
  refine Aw.astore_n (by decide) d_Law_undo_11 ?_
  refine Aw.toL (L' := [xr (some a0), xr (some a1), xr (some s0)]) rfl ?_
  refine Aw.iconst d_Law_undo_12 ?_
  exact h
theorem b_Law_undo_0 {Ω : Om} {R : Room} {F : QF} {k n : Nat} {σ : Sto} {a0 : Nat} {a1 : Nat} (h : Aw Ω M_Law_undo R F k n 3 [xr (some a0), xr (some a1), xu] [xr (some a0), xi 0, xr (some a1)] σ) : Aw Ω M_Law_undo R F k n 0 [xr (some a0), xr (some a1), xu] [] σ := by
  refine Aw.aload_n rfl d_Law_undo_0 ?_
  refine Aw.iconst d_Law_undo_1 ?_
  refine Aw.aload_n rfl d_Law_undo_2 ?_
  exact h
theorem b_Law_undo_6 {Ω : Om} {R : Room} {F : QF} {k n : Nat} {σ : Sto} {a0 : Nat} {a1 : Nat} {s0 : Nat} {s1 : Int} {s2 : Int} (h : sK σ s0 = 51 ∧ 0 ≤ s1 ∧ s1 < sZ σ s0 ∧ Aw Ω M_Law_undo R F k n 15 [xr (some a0), xr (some a1), xu] [xi 0] (vL σ s0 (s1).toNat (lOf s2))) : Aw Ω M_Law_undo R F k n 6 [xr (some a0), xr (some a1), xu] [xi s2, xi s1, xr (some s0)] σ := by
  refine Aw.i2l d_Law_undo_6 ?_
  obtain ⟨o1, h⟩ := h
  obtain ⟨o2, o3, h⟩ := h
  refine Aw.last o1 o2 o3 d_Law_undo_7 ?_
  refine Aw.goto (tgt := 14) (by decide) d_Law_undo_8 ?_
  refine Aw.iconst d_Law_undo_14 ?_
  exact h
theorem c_Law_undo_3 {Ω : Om} {R R' : Room} {F : QF} {k n : Nat} {L st : List PV} {σ : Sto} {QX' : String → Sto → Prop} {Q : Int → Sto → Prop} {a : Nat} (hc : MC Ω M_Dw_undo R' (RI Q) QX' σ [xr (some a)]) (hk : sK σ a = 1) (hr1 : R'.frames + 1 ≤ R.frames) (hr2 : 8 + (1 + 11) + R'.locals ≤ R.locals) (hb1 : k + R'.cells ≤ R.cells) (hb2 : n + R'.slots ≤ R.slots) (hst : (st.map catP).sum ≤ 8) (kk : ∀ x σ', Q x σ' → Aw Ω M_Law_undo R F (k + R'.cells) (n + R'.slots) 6 L (xi x :: st) σ') (kx : ∀ E σ', QX' E σ' → Ax Ω M_Law_undo R F (k + R'.cells) (n + R'.slots) 3 L st σ' E) : Aw Ω M_Law_undo R F k n 3 L (xr (some a) :: st) σ :=
  Aw.callV (As := []) (stk := xr (some a) :: st) (nn := 0) 0 M_Dw_undo hc ok_Dw_undo rfl (by decide) rfl hk ml_Law_34 im_Dw_undo se_Dw_undo ⟨hr1, hr2⟩ rfl ⟨hb1, hb2⟩ hst rfl d_Law_undo_3 (fun r σ' h => by obtain ⟨x, rfl, h⟩ := h; exact kk x σ' h) kx
theorem r_Law_undo_13 {Ω : Om} {R : Room} {k n : Nat} {L : List PV} {σ : Sto} {QR : Option PV → Sto → Prop} {QX : String → Sto → Prop} {x : Int} (h : QR (some (xi x)) σ) (h1 : k ≤ R.cells) (h2 : n ≤ R.slots) : Aw Ω M_Law_undo R (MF Ω R QR QX) k n 13 L [xi x] σ := Aw.iret rfl h h1 h2 d_Law_undo_13
theorem r_Law_undo_15 {Ω : Om} {R : Room} {k n : Nat} {L : List PV} {σ : Sto} {QR : Option PV → Sto → Prop} {QX : String → Sto → Prop} {x : Int} (h : QR (some (xi x)) σ) (h1 : k ≤ R.cells) (h2 : n ≤ R.slots) : Aw Ω M_Law_undo R (MF Ω R QR QX) k n 15 L [xi x] σ := Aw.iret rfl h h1 h2 d_Law_undo_15
theorem e_Law_verdict {Ω : Om} {R : Room} {QR : Option PV → Sto → Prop} {QX : String → Sto → Prop} {σ : Sto} {a0 : Nat} {v1 : Int} {v2 : Int} {v3 : Int} {a4 : Nat} (h : Aw Ω M_Law_verdict R (MF Ω R QR QX) 0 0 0 [xr (some a0), xi v1, xi v2, xi v3, xr (some a4), xu] [] σ) : MC Ω M_Law_verdict R QR QX σ [xr (some a0), xi v1, xi v2, xi v3, xr (some a4)] := MC.body (by decide +kernel) rfl (Nat.le_of_ble_eq_true rfl) rfl h
theorem b_Law_verdict_19 {Ω : Om} {R : Room} {F : QF} {k n : Nat} {σ : Sto} {a0 : Nat} {v1 : Int} {v2 : Int} {v3 : Int} {a4 : Nat} {s0 : Nat} (h : Aw Ω M_Law_verdict R F k n 22 [xr (some a0), xi v1, xi v2, xi v3, xr (some a4), xr (some s0)] [xi 2] σ) : Aw Ω M_Law_verdict R F k n 19 [xr (some a0), xi v1, xi v2, xi v3, xr (some a4), xu] [xr (some s0)] σ := by
  refine Aw.astore (by decide) d_Law_verdict_19 ?_
  refine Aw.toL (L' := [xr (some a0), xi v1, xi v2, xi v3, xr (some a4), xr (some s0)]) rfl ?_
  refine Aw.iconst d_Law_verdict_21 ?_
  exact h
theorem b_Law_verdict_15 {Ω : Om} {R : Room} {F : QF} {k n : Nat} {σ : Sto} {a0 : Nat} {v1 : Int} {v2 : Int} {v3 : Int} {a4 : Nat} {s0 : Nat} (h : Aw Ω M_Law_verdict R F k n 18 [xr (some a0), xi v1, xi v2, xi v3, xr (some a4), xr (some s0)] [xi 1] σ) : Aw Ω M_Law_verdict R F k n 15 [xr (some a0), xi v1, xi v2, xi v3, xr (some a4), xu] [xr (some s0)] σ := by
  refine Aw.astore (by decide) d_Law_verdict_15 ?_
  refine Aw.toL (L' := [xr (some a0), xi v1, xi v2, xi v3, xr (some a4), xr (some s0)]) rfl ?_
  refine Aw.iconst d_Law_verdict_17 ?_
  exact h
theorem b_Law_verdict_0 {Ω : Om} {R : Room} {F : QF} {k n : Nat} {σ : Sto} {a0 : Nat} {v1 : Int} {v2 : Int} {v3 : Int} {a4 : Nat} (h : Aw Ω M_Law_verdict R F k n 7 [xr (some a0), xi v1, xi v2, xi v3, xr (some a4), xu] [xi v3, xi v2, xi v1, xr (some a0), xi 0, xr (some a4)] σ) : Aw Ω M_Law_verdict R F k n 0 [xr (some a0), xi v1, xi v2, xi v3, xr (some a4), xu] [] σ := by
  refine Aw.aload rfl d_Law_verdict_0 ?_
  refine Aw.iconst d_Law_verdict_2 ?_
  refine Aw.aload_n rfl d_Law_verdict_3 ?_
  refine Aw.iload_n rfl d_Law_verdict_4 ?_
  refine Aw.iload_n rfl d_Law_verdict_5 ?_
  refine Aw.iload_n rfl d_Law_verdict_6 ?_
  exact h
theorem b_Law_verdict_10 {Ω : Om} {R : Room} {F : QF} {k n : Nat} {σ : Sto} {a0 : Nat} {v1 : Int} {v2 : Int} {v3 : Int} {a4 : Nat} {s0 : Nat} {s1 : Int} {s2 : Int} (h : sK σ s0 = 51 ∧ 0 ≤ s1 ∧ s1 < sZ σ s0 ∧ Aw Ω M_Law_verdict R F k n 24 [xr (some a0), xi v1, xi v2, xi v3, xr (some a4), xu] [xi 0] (vL σ s0 (s1).toNat (lOf s2))) : Aw Ω M_Law_verdict R F k n 10 [xr (some a0), xi v1, xi v2, xi v3, xr (some a4), xu] [xi s2, xi s1, xr (some s0)] σ := by
  refine Aw.i2l d_Law_verdict_10 ?_
  obtain ⟨o1, h⟩ := h
  obtain ⟨o2, o3, h⟩ := h
  refine Aw.last o1 o2 o3 d_Law_verdict_11 ?_
  refine Aw.goto (tgt := 23) (by decide) d_Law_verdict_12 ?_
  refine Aw.iconst d_Law_verdict_23 ?_
  exact h
theorem c_Law_verdict_7 {Ω : Om} {R R' : Room} {F : QF} {k n : Nat} {L st : List PV} {σ : Sto} {QX' : String → Sto → Prop} {Q : Int → Sto → Prop} {a : Nat} {x0 : Int} {x1 : Int} {x2 : Int} (hc : MC Ω M_Dw_verdict R' (RI Q) QX' σ [xr (some a), xi x0, xi x1, xi x2]) (hk : sK σ a = 1) (hr1 : R'.frames + 1 ≤ R.frames) (hr2 : 8 + (5 + 11) + R'.locals ≤ R.locals) (hb1 : k + R'.cells ≤ R.cells) (hb2 : n + R'.slots ≤ R.slots) (hst : (st.map catP).sum ≤ 8) (kk : ∀ x σ', Q x σ' → Aw Ω M_Law_verdict R F (k + R'.cells) (n + R'.slots) 10 L (xi x :: st) σ') (kx : ∀ E σ', QX' E σ' → Ax Ω M_Law_verdict R F (k + R'.cells) (n + R'.slots) 7 L st σ' E) : Aw Ω M_Law_verdict R F k n 7 L (xi x2 :: xi x1 :: xi x0 :: xr (some a) :: st) σ :=
  Aw.callV (As := [xi x0, xi x1, xi x2]) (stk := xi x2 :: xi x1 :: xi x0 :: xr (some a) :: st) (nn := 3) 0 M_Dw_verdict hc ok_Dw_verdict rfl (by decide) rfl hk ml_Law_116 im_Dw_verdict se_Dw_verdict ⟨hr1, hr2⟩ rfl ⟨hb1, hb2⟩ hst rfl d_Law_verdict_7 (fun r σ' h => by obtain ⟨x, rfl, h⟩ := h; exact kk x σ' h) kx
theorem r_Law_verdict_18 {Ω : Om} {R : Room} {k n : Nat} {L : List PV} {σ : Sto} {QR : Option PV → Sto → Prop} {QX : String → Sto → Prop} {x : Int} (h : QR (some (xi x)) σ) (h1 : k ≤ R.cells) (h2 : n ≤ R.slots) : Aw Ω M_Law_verdict R (MF Ω R QR QX) k n 18 L [xi x] σ := Aw.iret rfl h h1 h2 d_Law_verdict_18
theorem r_Law_verdict_22 {Ω : Om} {R : Room} {k n : Nat} {L : List PV} {σ : Sto} {QR : Option PV → Sto → Prop} {QX : String → Sto → Prop} {x : Int} (h : QR (some (xi x)) σ) (h1 : k ≤ R.cells) (h2 : n ≤ R.slots) : Aw Ω M_Law_verdict R (MF Ω R QR QX) k n 22 L [xi x] σ := Aw.iret rfl h h1 h2 d_Law_verdict_22
theorem r_Law_verdict_24 {Ω : Om} {R : Room} {k n : Nat} {L : List PV} {σ : Sto} {QR : Option PV → Sto → Prop} {QX : String → Sto → Prop} {x : Int} (h : QR (some (xi x)) σ) (h1 : k ≤ R.cells) (h2 : n ≤ R.slots) : Aw Ω M_Law_verdict R (MF Ω R QR QX) k n 24 L [xi x] σ := Aw.iret rfl h h1 h2 d_Law_verdict_24
