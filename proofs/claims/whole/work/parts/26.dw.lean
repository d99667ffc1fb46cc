/-! walks of DiffWeaver (by program) -/
theorem e_Dw_base {Ω : Om} {R : Room} {QR : Option PV → Sto → Prop} {QX : String → Sto → Prop} {σ : Sto} {a0 : Nat} {v1 : Int} {v2 : Int} (h : Aw Ω M_Dw_base R (MF Ω R QR QX) 0 0 0 [xr (some a0), xi v1, xi v2] [] σ) : MC Ω M_Dw_base R QR QX σ [xr (some a0), xi v1, xi v2] := MC.body (by decide +kernel) rfl (Nat.le_of_ble_eq_true rfl) rfl h
theorem b_Dw_base_0 {Ω : Om} {R : Room} {F : QF} {k n : Nat} {σ : Sto} {a0 : Nat} {v1 : Int} {v2 : Int} (h : Aw Ω M_Dw_base R F k n 2 [xr (some a0), xi v1, xi v2] [xi v1, xr (some a0)] σ) : Aw Ω M_Dw_base R F k n 0 [xr (some a0), xi v1, xi v2] [] σ := by
  refine Aw.aload_n rfl d_Dw_base_0 ?_
  refine Aw.iload_n rfl d_Dw_base_1 ?_
  exact h
theorem b_Dw_base_5 {Ω : Om} {R : Room} {F : QF} {k n : Nat} {σ : Sto} {a0 : Nat} {v1 : Int} {v2 : Int} {s0 : Nat} (h : Aw Ω M_Dw_base R F k n 8 [xr (some a0), xi v1, xi v2] [xi v2, xr (some a0)] σ) : Aw Ω M_Dw_base R F k n 5 [xr (some a0), xi v1, xi v2] [xr (some s0)] σ := by
  refine Aw.pop rfl d_Dw_base_5 ?_
  refine Aw.aload_n rfl d_Dw_base_6 ?_
  refine Aw.iload_n rfl d_Dw_base_7 ?_
  exact h
theorem b_Dw_base_11 {Ω : Om} {R : Room} {F : QF} {k n : Nat} {σ : Sto} {a0 : Nat} {v1 : Int} {v2 : Int} {s0 : Nat} (h : Aw Ω M_Dw_base R F k n 15 [xr (some a0), xi v1, xi v2] [xi v2, xi v1, xr (some a0)] σ) : Aw Ω M_Dw_base R F k n 11 [xr (some a0), xi v1, xi v2] [xr (some s0)] σ := by
  refine Aw.pop rfl d_Dw_base_11 ?_
  refine Aw.aload_n rfl d_Dw_base_12 ?_
  refine Aw.iload_n rfl d_Dw_base_13 ?_
  refine Aw.iload_n rfl d_Dw_base_14 ?_
  exact h
theorem c_Dw_base_2 {Ω : Om} {R R' : Room} {F : QF} {k n : Nat} {L st : List PV} {σ : Sto} {QX' : String → Sto → Prop} {Q : Option Nat → Sto → Prop} {a : Nat} {x0 : Int} (hc : MC Ω M_Dw_versionAt R' (RR Q) QX' σ [xr (some a), xi x0]) (hk : sK σ a = 1) (hr1 : R'.frames + 1 ≤ R.frames) (hr2 : 8 + (2 + 11) + R'.locals ≤ R.locals) (hb1 : k + R'.cells ≤ R.cells) (hb2 : n + R'.slots ≤ R.slots) (hst : (st.map catP).sum ≤ 8) (kk : ∀ x σ', Q x σ' → Aw Ω M_Dw_base R F (k + R'.cells) (n + R'.slots) 5 L (xr x :: st) σ') (kx : ∀ E σ', QX' E σ' → Ax Ω M_Dw_base R F (k + R'.cells) (n + R'.slots) 2 L st σ' E) : Aw Ω M_Dw_base R F k n 2 L (xi x0 :: xr (some a) :: st) σ :=
  Aw.callV (As := [xi x0]) (stk := xi x0 :: xr (some a) :: st) (nn := 1) 0 M_Dw_versionAt hc ok_Dw_versionAt rfl (by decide) rfl hk ml_Dw_91 im_Dw_versionAt se_Dw_versionAt ⟨hr1, hr2⟩ rfl ⟨hb1, hb2⟩ hst rfl d_Dw_base_2 (fun r σ' h => by obtain ⟨x, rfl, h⟩ := h; exact kk x σ' h) kx
theorem c_Dw_base_8 {Ω : Om} {R R' : Room} {F : QF} {k n : Nat} {L st : List PV} {σ : Sto} {QX' : String → Sto → Prop} {Q : Option Nat → Sto → Prop} {a : Nat} {x0 : Int} (hc : MC Ω M_Dw_versionAt R' (RR Q) QX' σ [xr (some a), xi x0]) (hk : sK σ a = 1) (hr1 : R'.frames + 1 ≤ R.frames) (hr2 : 8 + (2 + 11) + R'.locals ≤ R.locals) (hb1 : k + R'.cells ≤ R.cells) (hb2 : n + R'.slots ≤ R.slots) (hst : (st.map catP).sum ≤ 8) (kk : ∀ x σ', Q x σ' → Aw Ω M_Dw_base R F (k + R'.cells) (n + R'.slots) 11 L (xr x :: st) σ') (kx : ∀ E σ', QX' E σ' → Ax Ω M_Dw_base R F (k + R'.cells) (n + R'.slots) 8 L st σ' E) : Aw Ω M_Dw_base R F k n 8 L (xi x0 :: xr (some a) :: st) σ :=
  Aw.callV (As := [xi x0]) (stk := xi x0 :: xr (some a) :: st) (nn := 1) 0 M_Dw_versionAt hc ok_Dw_versionAt rfl (by decide) rfl hk ml_Dw_91 im_Dw_versionAt se_Dw_versionAt ⟨hr1, hr2⟩ rfl ⟨hb1, hb2⟩ hst rfl d_Dw_base_8 (fun r σ' h => by obtain ⟨x, rfl, h⟩ := h; exact kk x σ' h) kx
theorem c_Dw_base_15 {Ω : Om} {R R' : Room} {F : QF} {k n : Nat} {L st : List PV} {σ : Sto} {QX' : String → Sto → Prop} {Q : Int → Sto → Prop} {a : Nat} {x0 : Int} {x1 : Int} (hc : MC Ω M_Dw_baseOf R' (RI Q) QX' σ [xr (some a), xi x0, xi x1]) (hk : sK σ a = 1) (hr1 : R'.frames + 1 ≤ R.frames) (hr2 : 8 + (6 + 11) + R'.locals ≤ R.locals) (hb1 : k + R'.cells ≤ R.cells) (hb2 : n + R'.slots ≤ R.slots) (hst : (st.map catP).sum ≤ 8) (kk : ∀ x σ', Q x σ' → Aw Ω M_Dw_base R F (k + R'.cells) (n + R'.slots) 18 L (xi x :: st) σ') (kx : ∀ E σ', QX' E σ' → Ax Ω M_Dw_base R F (k + R'.cells) (n + R'.slots) 15 L st σ' E) : Aw Ω M_Dw_base R F k n 15 L (xi x1 :: xi x0 :: xr (some a) :: st) σ :=
  Aw.callV (As := [xi x0, xi x1]) (stk := xi x1 :: xi x0 :: xr (some a) :: st) (nn := 2) 0 M_Dw_baseOf hc ok_Dw_baseOf rfl (by decide) rfl hk ml_Dw_237 im_Dw_baseOf se_Dw_baseOf ⟨hr1, hr2⟩ rfl ⟨hb1, hb2⟩ hst rfl d_Dw_base_15 (fun r σ' h => by obtain ⟨x, rfl, h⟩ := h; exact kk x σ' h) kx
theorem r_Dw_base_18 {Ω : Om} {R : Room} {k n : Nat} {L : List PV} {σ : Sto} {QR : Option PV → Sto → Prop} {QX : String → Sto → Prop} {x : Int} (h : QR (some (xi x)) σ) (h1 : k ≤ R.cells) (h2 : n ≤ R.slots) : Aw Ω M_Dw_base R (MF Ω R QR QX) k n 18 L [xi x] σ := Aw.iret rfl h h1 h2 d_Dw_base_18
theorem e_Dw_baseOf {Ω : Om} {R : Room} {QR : Option PV → Sto → Prop} {QX : String → Sto → Prop} {σ : Sto} {a0 : Nat} {v1 : Int} {v2 : Int} (h : Aw Ω M_Dw_baseOf R (MF Ω R QR QX) 0 0 0 [xr (some a0), xi v1, xi v2, xu, xu, xu] [] σ) : MC Ω M_Dw_baseOf R QR QX σ [xr (some a0), xi v1, xi v2] := MC.body (by decide +kernel) rfl (Nat.le_of_ble_eq_true rfl) rfl h
theorem b_Dw_baseOf_0 {Ω : Om} {R : Room} {F : QF} {k n : Nat} {σ : Sto} {a0 : Nat} {v1 : Int} {v2 : Int} (h : Aw Ω M_Dw_baseOf R F k n 2 [xr (some a0), xi v1, xi v2, xu, xu, xu] [xi v1, xr (some a0)] σ) : Aw Ω M_Dw_baseOf R F k n 0 [xr (some a0), xi v1, xi v2, xu, xu, xu] [] σ := by
  refine Aw.aload_n rfl d_Dw_baseOf_0 ?_
  refine Aw.iload_n rfl d_Dw_baseOf_1 ?_
  exact h
theorem b_Dw_baseOf_5 {Ω : Om} {R : Room} {F : QF} {k n : Nat} {σ : Sto} {a0 : Nat} {v1 : Int} {v2 : Int} {s0 : Int64} (h : Aw Ω M_Dw_baseOf R F k n 7 [xr (some a0), xi v1, xi v2, xu, xu, xu] [xi v2, xr (some a0), xl s0] σ) : Aw Ω M_Dw_baseOf R F k n 5 [xr (some a0), xi v1, xi v2, xu, xu, xu] [xl s0] σ := by
  refine Aw.aload_n rfl d_Dw_baseOf_5 ?_
  refine Aw.iload_n rfl d_Dw_baseOf_6 ?_
  exact h
theorem b_Dw_baseOf_10 {Ω : Om} {R : Room} {F : QF} {k n : Nat} {σ : Sto} {a0 : Nat} {v1 : Int} {v2 : Int} {s0 : Int64} {s1 : Int64} (h : Q32 v1 ∧ Q32 v2 ∧ 1 ≤ R.frames ∧ ([].map catP).sum + 13 ≤ R.locals ∧ k ≤ R.cells ∧ n ≤ R.slots ∧ Aw Ω M_Dw_baseOf R F k n 19 [xr (some a0), xi v1, xi v2, xl (s0 &&& s1), xu, xi (minI v1 v2)] [] σ) : Aw Ω M_Dw_baseOf R F k n 10 [xr (some a0), xi v1, xi v2, xu, xu, xu] [xl s1, xl s0] σ := by
  refine Aw.land d_Dw_baseOf_10 ?_
  refine Aw.lstore_n (by decide) d_Dw_baseOf_11 ?_
  refine Aw.toL (L' := [xr (some a0), xi v1, xi v2, xl (s0 &&& s1), xu, xu]) rfl ?_
  refine Aw.iload_n rfl d_Dw_baseOf_12 ?_
  refine Aw.iload_n rfl d_Dw_baseOf_13 ?_
  obtain ⟨o1, o2, o3, o4, o5, o6, h⟩ := h
  refine Aw.mmin o1 o2 ml_Dw_399 mth_min_1 mth_ini mth_min_2 o3 o4 o5 o6 d_Dw_baseOf_14 ?_
  refine Aw.istore (by decide) d_Dw_baseOf_17 ?_
  refine Aw.toL (L' := [xr (some a0), xi v1, xi v2, xl (s0 &&& s1), xu, xi (minI v1 v2)]) rfl ?_
  exact h
theorem b_Dw_baseOf_19 {Ω : Om} {R : Room} {F : QF} {k n : Nat} {σ : Sto} {a0 : Nat} {v1 : Int} {v2 : Int} {v3 : Int64} {v5 : Int} (h : Q32 v5 ∧ ((v5 ≤ (0 : Int) → Aw Ω M_Dw_baseOf R F k n 45 [xr (some a0), xi v1, xi v2, xl v3, xu, xi v5] [xi 0] σ) ∧ (¬ v5 ≤ (0 : Int) → Q32 (cmpL ((lUsh v3 v5) &&& 1) 0) ∧ (((cmpL ((lUsh v3 v5) &&& 1) 0) = (0 : Int) → Aw Ω M_Dw_baseOf R F k n 19 [xr (some a0), xi v1, xi v2, xl v3, xu, xi (v5 + (-1))] [] σ) ∧ (¬ (cmpL ((lUsh v3 v5) &&& 1) 0) = (0 : Int) → Aw Ω M_Dw_baseOf R F k n 37 [xr (some a0), xi v1, xi v2, xl v3, xu, xi v5] [xi v5] σ))))) : Aw Ω M_Dw_baseOf R F k n 19 [xr (some a0), xi v1, xi v2, xl v3, xu, xi v5] [] σ := by
  refine Aw.iload rfl d_Dw_baseOf_19 ?_
  obtain ⟨o1, h⟩ := h
  obtain ⟨ht, hf⟩ := h
  refine Aw.if_le (tgt := 44) o1 (by decide) d_Dw_baseOf_21 (fun c4 => ?_) (fun c4 => ?_)
  · have h := ht c4
    refine Aw.iconst d_Dw_baseOf_44 ?_
    exact h
  · have h := hf c4
    refine Aw.lload_n rfl d_Dw_baseOf_24 ?_
    refine Aw.iload rfl d_Dw_baseOf_25 ?_
    refine Aw.lushr d_Dw_baseOf_27 ?_
    refine Aw.lconst (w := 1) (by decide) d_Dw_baseOf_28 ?_
    refine Aw.land d_Dw_baseOf_29 ?_
    refine Aw.lconst (w := 0) (by decide) d_Dw_baseOf_30 ?_
    refine Aw.lcmp d_Dw_baseOf_31 ?_
    obtain ⟨o2, h⟩ := h
    obtain ⟨ht, hf⟩ := h
    refine Aw.if_eq (tgt := 38) o2 (by decide) d_Dw_baseOf_32 (fun c3 => ?_) (fun c3 => ?_)
    · have h := ht c3
      refine Aw.iinc rfl d_Dw_baseOf_38 ?_
      refine Aw.toL (L' := [xr (some a0), xi v1, xi v2, xl v3, xu, xi (v5 + (-1))]) rfl ?_
      refine Aw.goto (tgt := 19) (by decide) d_Dw_baseOf_41 ?_
      exact h
    · have h := hf c3
      refine Aw.iload rfl d_Dw_baseOf_35 ?_
      exact h
theorem c_Dw_baseOf_2 {Ω : Om} {R R' : Room} {F : QF} {k n : Nat} {L st : List PV} {σ : Sto} {QX' : String → Sto → Prop} {Q : Int64 → Sto → Prop} {a : Nat} {x0 : Int} (hc : MC Ω M_Dw_belowOf R' (RL Q) QX' σ [xr (some a), xi x0]) (hk : sK σ a = 1) (hr1 : R'.frames + 1 ≤ R.frames) (hr2 : 8 + (2 + 11) + R'.locals ≤ R.locals) (hb1 : k + R'.cells ≤ R.cells) (hb2 : n + R'.slots ≤ R.slots) (hst : (st.map catP).sum ≤ 8) (kk : ∀ x σ', Q x σ' → Aw Ω M_Dw_baseOf R F (k + R'.cells) (n + R'.slots) 5 L (xl x :: st) σ') (kx : ∀ E σ', QX' E σ' → Ax Ω M_Dw_baseOf R F (k + R'.cells) (n + R'.slots) 2 L st σ' E) : Aw Ω M_Dw_baseOf R F k n 2 L (xi x0 :: xr (some a) :: st) σ :=
  Aw.callV (As := [xi x0]) (stk := xi x0 :: xr (some a) :: st) (nn := 1) 0 M_Dw_belowOf hc ok_Dw_belowOf rfl (by decide) rfl hk ml_Dw_189 im_Dw_belowOf se_Dw_belowOf ⟨hr1, hr2⟩ rfl ⟨hb1, hb2⟩ hst rfl d_Dw_baseOf_2 (fun r σ' h => by obtain ⟨x, rfl, h⟩ := h; exact kk x σ' h) kx
theorem c_Dw_baseOf_7 {Ω : Om} {R R' : Room} {F : QF} {k n : Nat} {L st : List PV} {σ : Sto} {QX' : String → Sto → Prop} {Q : Int64 → Sto → Prop} {a : Nat} {x0 : Int} (hc : MC Ω M_Dw_belowOf R' (RL Q) QX' σ [xr (some a), xi x0]) (hk : sK σ a = 1) (hr1 : R'.frames + 1 ≤ R.frames) (hr2 : 8 + (2 + 11) + R'.locals ≤ R.locals) (hb1 : k + R'.cells ≤ R.cells) (hb2 : n + R'.slots ≤ R.slots) (hst : (st.map catP).sum ≤ 8) (kk : ∀ x σ', Q x σ' → Aw Ω M_Dw_baseOf R F (k + R'.cells) (n + R'.slots) 10 L (xl x :: st) σ') (kx : ∀ E σ', QX' E σ' → Ax Ω M_Dw_baseOf R F (k + R'.cells) (n + R'.slots) 7 L st σ' E) : Aw Ω M_Dw_baseOf R F k n 7 L (xi x0 :: xr (some a) :: st) σ :=
  Aw.callV (As := [xi x0]) (stk := xi x0 :: xr (some a) :: st) (nn := 1) 0 M_Dw_belowOf hc ok_Dw_belowOf rfl (by decide) rfl hk ml_Dw_189 im_Dw_belowOf se_Dw_belowOf ⟨hr1, hr2⟩ rfl ⟨hb1, hb2⟩ hst rfl d_Dw_baseOf_7 (fun r σ' h => by obtain ⟨x, rfl, h⟩ := h; exact kk x σ' h) kx
theorem r_Dw_baseOf_37 {Ω : Om} {R : Room} {k n : Nat} {L : List PV} {σ : Sto} {QR : Option PV → Sto → Prop} {QX : String → Sto → Prop} {x : Int} (h : QR (some (xi x)) σ) (h1 : k ≤ R.cells) (h2 : n ≤ R.slots) : Aw Ω M_Dw_baseOf R (MF Ω R QR QX) k n 37 L [xi x] σ := Aw.iret rfl h h1 h2 d_Dw_baseOf_37
theorem r_Dw_baseOf_45 {Ω : Om} {R : Room} {k n : Nat} {L : List PV} {σ : Sto} {QR : Option PV → Sto → Prop} {QX : String → Sto → Prop} {x : Int} (h : QR (some (xi x)) σ) (h1 : k ≤ R.cells) (h2 : n ≤ R.slots) : Aw Ω M_Dw_baseOf R (MF Ω R QR QX) k n 45 L [xi x] σ := Aw.iret rfl h h1 h2 d_Dw_baseOf_45
theorem e_Dw_begin {Ω : Om} {R : Room} {QR : Option PV → Sto → Prop} {QX : String → Sto → Prop} {σ : Sto} {a0 : Nat} {v1 : Int} {v2 : Int} (h : Aw Ω M_Dw_begin R (MF Ω R QR QX) 0 0 0 [xr (some a0), xi v1, xi v2, xu] [] σ) : MC Ω M_Dw_begin R QR QX σ [xr (some a0), xi v1, xi v2] := MC.body (by decide +kernel) rfl (Nat.le_of_ble_eq_true rfl) rfl h
theorem b_Dw_begin_0 {Ω : Om} {R : Room} {F : QF} {k n : Nat} {σ : Sto} {a0 : Nat} {v1 : Int} {v2 : Int} (h : Aw Ω M_Dw_begin R F k n 2 [xr (some a0), xi v1, xi v2, xu] [xi v1, xr (some a0)] σ) : Aw Ω M_Dw_begin R F k n 0 [xr (some a0), xi v1, xi v2, xu] [] σ := by
  refine Aw.aload_n rfl d_Dw_begin_0 ?_
  refine Aw.iload_n rfl d_Dw_begin_1 ?_
  exact h
theorem b_Dw_begin_5 {Ω : Om} {R : Room} {F : QF} {k n : Nat} {σ : Sto} {a0 : Nat} {v1 : Int} {v2 : Int} {s0 : Nat} (h : Aw Ω M_Dw_begin R F k n 8 [xr (some a0), xi v1, xi v2, xr (some s0)] [xi v2, xr (some a0)] σ) : Aw Ω M_Dw_begin R F k n 5 [xr (some a0), xi v1, xi v2, xu] [xr (some s0)] σ := by
  refine Aw.astore_n (by decide) d_Dw_begin_5 ?_
  refine Aw.toL (L' := [xr (some a0), xi v1, xi v2, xr (some s0)]) rfl ?_
  refine Aw.aload_n rfl d_Dw_begin_6 ?_
  refine Aw.iload_n rfl d_Dw_begin_7 ?_
  exact h
theorem b_Dw_begin_11 {Ω : Om} {R : Room} {F : QF} {k n : Nat} {σ : Sto} {a0 : Nat} {v1 : Int} {v2 : Int} {a3 : Nat} (h : sK σ a0 = 1 ∧ (∃ b2 : Nat, fR σ 8 a0 = some b2 ∧ sK σ a3 = 12 ∧ (∃ b5 : Nat, fR σ 704 a3 = some b5 ∧ Aw Ω M_Dw_begin R F k n 19 [xr (some a0), xi v1, xi v2, xr (some a3)] [xr (some b5), xr (some b2)] σ))) : Aw Ω M_Dw_begin R F k n 11 [xr (some a0), xi v1, xi v2, xr (some a3)] [] σ := by
  refine Aw.aload_n rfl d_Dw_begin_11 ?_
  obtain ⟨o1, h⟩ := h
  obtain ⟨b2, e3, h⟩ := h
  refine Aw.getRs (f := 8) 0 8 fl_Dw_58 (by decide) (by decide) rfl rfl o1 e3 d_Dw_begin_12 ?_
  refine Aw.aload_n rfl d_Dw_begin_15 ?_
  obtain ⟨o4, h⟩ := h
  obtain ⟨b5, e6, h⟩ := h
  refine Aw.getRs (f := 704) 11 0 fl_Dw_99 (by decide) (by decide) rfl rfl o4 e6 d_Dw_begin_16 ?_
  exact h
theorem b_Dw_begin_22 {Ω : Om} {R : Room} {F : QF} {k n : Nat} {σ : Sto} {a0 : Nat} {v1 : Int} {v2 : Int} {a3 : Nat} (h : sK σ a0 = 1 ∧ (∃ b2 : Nat, fR σ 8 a0 = some b2 ∧ Aw Ω M_Dw_begin R F k n 29 [xr (some a0), xi v1, xi v2, xr (some a3)] [xi (-1), xi v1, xi v2, xr (some b2)] σ)) : Aw Ω M_Dw_begin R F k n 22 [xr (some a0), xi v1, xi v2, xr (some a3)] [] σ := by
  refine Aw.aload_n rfl d_Dw_begin_22 ?_
  obtain ⟨o1, h⟩ := h
  obtain ⟨b2, e3, h⟩ := h
  refine Aw.getRs (f := 8) 0 8 fl_Dw_58 (by decide) (by decide) rfl rfl o1 e3 d_Dw_begin_23 ?_
  refine Aw.iload_n rfl d_Dw_begin_26 ?_
  refine Aw.iload_n rfl d_Dw_begin_27 ?_
  refine Aw.iconst d_Dw_begin_28 ?_
  exact h
theorem b_Dw_begin_32 {Ω : Om} {R : Room} {F : QF} {k n : Nat} {σ : Sto} {a0 : Nat} {v1 : Int} {v2 : Int} {a3 : Nat} (h : sK σ a0 = 1 ∧ (∃ b2 : Nat, fR σ 8 a0 = some b2 ∧ sK σ b2 = 4 ∧ (∃ b5 : Nat, fR σ 192 b2 = some b5 ∧ Aw Ω M_Dw_begin R F k n 44 [xr (some a0), xi v1, xi v2, xr (some a3)] [xr (some b5)] (uI σ 10 a0 1)))) : Aw Ω M_Dw_begin R F k n 32 [xr (some a0), xi v1, xi v2, xr (some a3)] [] σ := by
  refine Aw.aload_n rfl d_Dw_begin_32 ?_
  refine Aw.iconst d_Dw_begin_33 ?_
  obtain ⟨o1, h⟩ := h
  refine Aw.putI (f := 10) 0 10 fl_Dw_65 (by decide) (by decide) rfl rfl o1 rfl ⟨by decide, by decide⟩ (Or.inr ⟨rfl, by decide⟩) d_Dw_begin_34 ?_
  refine Aw.aload_n rfl d_Dw_begin_37 ?_
  obtain ⟨b2, e3, h⟩ := h
  refine Aw.getRs (f := 8) 0 8 fl_Dw_58 (by decide) (by decide) rfl rfl o1 e3 d_Dw_begin_38 ?_
  obtain ⟨o4, h⟩ := h
  obtain ⟨b5, e6, h⟩ := h
  refine Aw.getRs (f := 192) 3 0 fl_Dw_111 (by decide) (by decide) rfl rfl o4 e6 d_Dw_begin_41 ?_
  exact h
theorem c_Dw_begin_2 {Ω : Om} {R R' : Room} {F : QF} {k n : Nat} {L st : List PV} {σ : Sto} {QX' : String → Sto → Prop} {Q : Option Nat → Sto → Prop} {a : Nat} {x0 : Int} (hc : MC Ω M_Dw_versionAt R' (RR Q) QX' σ [xr (some a), xi x0]) (hk : sK σ a = 1) (hr1 : R'.frames + 1 ≤ R.frames) (hr2 : 8 + (2 + 11) + R'.locals ≤ R.locals) (hb1 : k + R'.cells ≤ R.cells) (hb2 : n + R'.slots ≤ R.slots) (hst : (st.map catP).sum ≤ 8) (kk : ∀ x σ', Q x σ' → Aw Ω M_Dw_begin R F (k + R'.cells) (n + R'.slots) 5 L (xr x :: st) σ') (kx : ∀ E σ', QX' E σ' → Ax Ω M_Dw_begin R F (k + R'.cells) (n + R'.slots) 2 L st σ' E) : Aw Ω M_Dw_begin R F k n 2 L (xi x0 :: xr (some a) :: st) σ :=
  Aw.callV (As := [xi x0]) (stk := xi x0 :: xr (some a) :: st) (nn := 1) 0 M_Dw_versionAt hc ok_Dw_versionAt rfl (by decide) rfl hk ml_Dw_91 im_Dw_versionAt se_Dw_versionAt ⟨hr1, hr2⟩ rfl ⟨hb1, hb2⟩ hst rfl d_Dw_begin_2 (fun r σ' h => by obtain ⟨x, rfl, h⟩ := h; exact kk x σ' h) kx
theorem c_Dw_begin_8 {Ω : Om} {R R' : Room} {F : QF} {k n : Nat} {L st : List PV} {σ : Sto} {QX' : String → Sto → Prop} {Q : Sto → Prop} {a : Nat} {x0 : Int} (hc : MC Ω M_Dw_checkPerson R' (RV Q) QX' σ [xr (some a), xi x0]) (hk : sK σ a = 1) (hr1 : R'.frames + 1 ≤ R.frames) (hr2 : 8 + (2 + 11) + R'.locals ≤ R.locals) (hb1 : k + R'.cells ≤ R.cells) (hb2 : n + R'.slots ≤ R.slots) (hst : (st.map catP).sum ≤ 8) (kk : ∀ σ', Q σ' → Aw Ω M_Dw_begin R F (k + R'.cells) (n + R'.slots) 11 L st σ') (kx : ∀ E σ', QX' E σ' → Ax Ω M_Dw_begin R F (k + R'.cells) (n + R'.slots) 8 L st σ' E) : Aw Ω M_Dw_begin R F k n 8 L (xi x0 :: xr (some a) :: st) σ :=
  Aw.callV (As := [xi x0]) (stk := xi x0 :: xr (some a) :: st) (nn := 1) 0 M_Dw_checkPerson hc ok_Dw_checkPerson rfl (by decide) rfl hk ml_Dw_95 im_Dw_checkPerson se_Dw_checkPerson ⟨hr1, hr2⟩ rfl ⟨hb1, hb2⟩ hst rfl d_Dw_begin_8 (fun r σ' h => by obtain ⟨rfl, h⟩ := h; exact kk σ' h) kx
theorem c_Dw_begin_19 {Ω : Om} {R R' : Room} {F : QF} {k n : Nat} {L st : List PV} {σ : Sto} {QX' : String → Sto → Prop} {Q : Sto → Prop} {a : Nat} {x0 : Option Nat} (hc : MC Ω M_Drf_startFrom R' (RV Q) QX' σ [xr (some a), xr x0]) (hk : sK σ a = 4) (hr1 : R'.frames + 1 ≤ R.frames) (hr2 : 8 + (2 + 11) + R'.locals ≤ R.locals) (hb1 : k + R'.cells ≤ R.cells) (hb2 : n + R'.slots ≤ R.slots) (hst : (st.map catP).sum ≤ 8) (kk : ∀ σ', Q σ' → Aw Ω M_Dw_begin R F (k + R'.cells) (n + R'.slots) 22 L st σ') (kx : ∀ E σ', QX' E σ' → Ax Ω M_Dw_begin R F (k + R'.cells) (n + R'.slots) 19 L st σ' E) : Aw Ω M_Dw_begin R F k n 19 L (xr x0 :: xr (some a) :: st) σ :=
  Aw.callV (As := [xr x0]) (stk := xr x0 :: xr (some a) :: st) (nn := 1) 3 M_Drf_startFrom hc ok_Drf_startFrom rfl (by decide) rfl hk ml_Dw_103 im_Drf_startFrom se_Drf_startFrom ⟨hr1, hr2⟩ rfl ⟨hb1, hb2⟩ hst rfl d_Dw_begin_19 (fun r σ' h => by obtain ⟨rfl, h⟩ := h; exact kk σ' h) kx
theorem c_Dw_begin_29 {Ω : Om} {R R' : Room} {F : QF} {k n : Nat} {L st : List PV} {σ : Sto} {QX' : String → Sto → Prop} {Q : Sto → Prop} {a : Nat} {x0 : Int} {x1 : Int} {x2 : Int} (hc : MC Ω M_Drf_signFor R' (RV Q) QX' σ [xr (some a), xi x0, xi x1, xi x2]) (hk : sK σ a = 4) (hr1 : R'.frames + 1 ≤ R.frames) (hr2 : 8 + (4 + 11) + R'.locals ≤ R.locals) (hb1 : k + R'.cells ≤ R.cells) (hb2 : n + R'.slots ≤ R.slots) (hst : (st.map catP).sum ≤ 8) (kk : ∀ σ', Q σ' → Aw Ω M_Dw_begin R F (k + R'.cells) (n + R'.slots) 32 L st σ') (kx : ∀ E σ', QX' E σ' → Ax Ω M_Dw_begin R F (k + R'.cells) (n + R'.slots) 29 L st σ' E) : Aw Ω M_Dw_begin R F k n 29 L (xi x2 :: xi x1 :: xi x0 :: xr (some a) :: st) σ :=
  Aw.callV (As := [xi x0, xi x1, xi x2]) (stk := xi x2 :: xi x1 :: xi x0 :: xr (some a) :: st) (nn := 3) 3 M_Drf_signFor hc ok_Drf_signFor rfl (by decide) rfl hk ml_Dw_107 im_Drf_signFor se_Drf_signFor ⟨hr1, hr2⟩ rfl ⟨hb1, hb2⟩ hst rfl d_Dw_begin_29 (fun r σ' h => by obtain ⟨rfl, h⟩ := h; exact kk σ' h) kx
theorem c_Dw_begin_44 {Ω : Om} {R R' : Room} {F : QF} {k n : Nat} {L st : List PV} {σ : Sto} {QX' : String → Sto → Prop} {Q : Int → Sto → Prop} {a : Nat} (hc : MC Ω M_Txt_size R' (RI Q) QX' σ [xr (some a)]) (hk : sK σ a = 10) (hr1 : R'.frames + 1 ≤ R.frames) (hr2 : 8 + (1 + 11) + R'.locals ≤ R.locals) (hb1 : k + R'.cells ≤ R.cells) (hb2 : n + R'.slots ≤ R.slots) (hst : (st.map catP).sum ≤ 8) (kk : ∀ x σ', Q x σ' → Aw Ω M_Dw_begin R F (k + R'.cells) (n + R'.slots) 47 L (xi x :: st) σ') (kx : ∀ E σ', QX' E σ' → Ax Ω M_Dw_begin R F (k + R'.cells) (n + R'.slots) 44 L st σ' E) : Aw Ω M_Dw_begin R F k n 44 L (xr (some a) :: st) σ :=
  Aw.callV (As := []) (stk := xr (some a) :: st) (nn := 0) 9 M_Txt_size hc ok_Txt_size rfl (by decide) rfl hk ml_Dw_112 im_Txt_size se_Txt_size ⟨hr1, hr2⟩ rfl ⟨hb1, hb2⟩ hst rfl d_Dw_begin_44 (fun r σ' h => by obtain ⟨x, rfl, h⟩ := h; exact kk x σ' h) kx
theorem r_Dw_begin_47 {Ω : Om} {R : Room} {k n : Nat} {L : List PV} {σ : Sto} {QR : Option PV → Sto → Prop} {QX : String → Sto → Prop} {x : Int} (h : QR (some (xi x)) σ) (h1 : k ≤ R.cells) (h2 : n ≤ R.slots) : Aw Ω M_Dw_begin R (MF Ω R QR QX) k n 47 L [xi x] σ := Aw.iret rfl h h1 h2 d_Dw_begin_47
theorem e_Dw_belowOf {Ω : Om} {R : Room} {QR : Option PV → Sto → Prop} {QX : String → Sto → Prop} {σ : Sto} {a0 : Nat} {v1 : Int} (h : Aw Ω M_Dw_belowOf R (MF Ω R QR QX) 0 0 0 [xr (some a0), xi v1] [] σ) : MC Ω M_Dw_belowOf R QR QX σ [xr (some a0), xi v1] := MC.body (by decide +kernel) rfl (Nat.le_of_ble_eq_true rfl) rfl h
theorem b_Dw_belowOf_0 {Ω : Om} {R : Room} {F : QF} {k n : Nat} {σ : Sto} {a0 : Nat} {v1 : Int} (h : Q32 v1 ∧ ((v1 < (0 : Int) → Aw Ω M_Dw_belowOf R F k n 13 [xr (some a0), xi v1] [xl 0] σ) ∧ (¬ v1 < (0 : Int) → sK σ a0 = 1 ∧ (Q32 (fI σ 12 a0) → ((v1 < (fI σ 12 a0) → (∃ b4 : Nat, fR σ 0 a0 = some b4 ∧ sK σ b4 = 55 ∧ 0 ≤ v1 ∧ v1 < sZ σ b4 ∧ ∃ b9 : Nat, aR σ b4 (v1).toNat = some b9 ∧ sK σ b9 = 12 ∧ Aw Ω M_Dw_belowOf R F k n 27 [xr (some a0), xi v1] [xl ((fL σ 710 b9) ||| (lShl 1 v1))] σ)) ∧ (¬ v1 < (fI σ 12 a0) → Aw Ω M_Dw_belowOf R F k n 13 [xr (some a0), xi v1] [xl 0] σ)))))) : Aw Ω M_Dw_belowOf R F k n 0 [xr (some a0), xi v1] [] σ := by
  refine Aw.iload_n rfl d_Dw_belowOf_0 ?_
  obtain ⟨o1, h⟩ := h
  obtain ⟨ht, hf⟩ := h
  refine Aw.if_lt (tgt := 12) o1 (by decide) d_Dw_belowOf_1 (fun c13 => ?_) (fun c13 => ?_)
  · have h := ht c13
    refine Aw.lconst (w := 0) (by decide) d_Dw_belowOf_12 ?_
    exact h
  · have h := hf c13
    refine Aw.iload_n rfl d_Dw_belowOf_4 ?_
    refine Aw.aload_n rfl d_Dw_belowOf_5 ?_
    obtain ⟨o2, h⟩ := h
    refine Aw.getI (f := 12) 0 12 fl_Dw_72 (by decide) (by decide) rfl rfl o2 d_Dw_belowOf_6 (fun r3 => ?_)
    have h := h r3
    obtain ⟨ht, hf⟩ := h
    refine Aw.icmp_lt (tgt := 14) o1 r3 (by decide) d_Dw_belowOf_9 (fun c12 => ?_) (fun c12 => ?_)
    · have h := ht c12
      refine Aw.aload_n rfl d_Dw_belowOf_14 ?_
      obtain ⟨b4, e5, h⟩ := h
      refine Aw.getRs (f := 0) 0 0 fl_Dw_11 (by decide) (by decide) rfl rfl o2 e5 d_Dw_belowOf_15 ?_
      refine Aw.iload_n rfl d_Dw_belowOf_18 ?_
      obtain ⟨o6, h⟩ := h
      obtain ⟨o7, o8, h⟩ := h
      refine Aw.aald 5 (by decide) (by decide) o6 o7 o8 d_Dw_belowOf_19 ?_
      obtain ⟨b9, e10, h⟩ := h
      refine Aw.der0 e10 ?_
      obtain ⟨o11, h⟩ := h
      refine Aw.getL (f := 710) 11 6 fl_Dw_195 (by decide) (by decide) rfl rfl o11 d_Dw_belowOf_20 ?_
      refine Aw.lconst (w := 1) (by decide) d_Dw_belowOf_23 ?_
      refine Aw.iload_n rfl d_Dw_belowOf_24 ?_
      refine Aw.lshl d_Dw_belowOf_25 ?_
      refine Aw.lor d_Dw_belowOf_26 ?_
      exact h
    · have h := hf c12
      refine Aw.lconst (w := 0) (by decide) d_Dw_belowOf_12 ?_
      exact h
theorem r_Dw_belowOf_13 {Ω : Om} {R : Room} {k n : Nat} {L : List PV} {σ : Sto} {QR : Option PV → Sto → Prop} {QX : String → Sto → Prop} {x : Int64} (h : QR (some (xl x)) σ) (h1 : k ≤ R.cells) (h2 : n ≤ R.slots) : Aw Ω M_Dw_belowOf R (MF Ω R QR QX) k n 13 L [xl x] σ := Aw.lret rfl h h1 h2 d_Dw_belowOf_13
theorem r_Dw_belowOf_27 {Ω : Om} {R : Room} {k n : Nat} {L : List PV} {σ : Sto} {QR : Option PV → Sto → Prop} {QX : String → Sto → Prop} {x : Int64} (h : QR (some (xl x)) σ) (h1 : k ≤ R.cells) (h2 : n ≤ R.slots) : Aw Ω M_Dw_belowOf R (MF Ω R QR QX) k n 27 L [xl x] σ := Aw.lret rfl h h1 h2 d_Dw_belowOf_27
theorem e_Dw_blame {Ω : Om} {R : Room} {QR : Option PV → Sto → Prop} {QX : String → Sto → Prop} {σ : Sto} {a0 : Nat} {v1 : Int} {v2 : Int} (h : Aw Ω M_Dw_blame R (MF Ω R QR QX) 0 0 0 [xr (some a0), xi v1, xi v2, xu] [] σ) : MC Ω M_Dw_blame R QR QX σ [xr (some a0), xi v1, xi v2] := MC.body (by decide +kernel) rfl (Nat.le_of_ble_eq_true rfl) rfl h
theorem b_Dw_blame_0 {Ω : Om} {R : Room} {F : QF} {k n : Nat} {σ : Sto} {a0 : Nat} {v1 : Int} {v2 : Int} (h : Aw Ω M_Dw_blame R F k n 2 [xr (some a0), xi v1, xi v2, xu] [xi v1, xr (some a0)] σ) : Aw Ω M_Dw_blame R F k n 0 [xr (some a0), xi v1, xi v2, xu] [] σ := by
  refine Aw.aload_n rfl d_Dw_blame_0 ?_
  refine Aw.iload_n rfl d_Dw_blame_1 ?_
  exact h
theorem b_Dw_blame_5 {Ω : Om} {R : Room} {F : QF} {k n : Nat} {σ : Sto} {a0 : Nat} {v1 : Int} {v2 : Int} {s0 : Nat} (h : sK σ s0 = 12 ∧ (∃ b2 : Nat, fR σ 704 s0 = some b2 ∧ Aw Ω M_Dw_blame R F k n 12 [xr (some a0), xi v1, xi v2, xr (some b2)] [xr (some b2), xi v2, xr (some a0)] σ)) : Aw Ω M_Dw_blame R F k n 5 [xr (some a0), xi v1, xi v2, xu] [xr (some s0)] σ := by
  obtain ⟨o1, h⟩ := h
  obtain ⟨b2, e3, h⟩ := h
  refine Aw.getRs (f := 704) 11 0 fl_Dw_99 (by decide) (by decide) rfl rfl o1 e3 d_Dw_blame_5 ?_
  refine Aw.astore_n (by decide) d_Dw_blame_8 ?_
  refine Aw.toL (L' := [xr (some a0), xi v1, xi v2, xr (some b2)]) rfl ?_
  refine Aw.aload_n rfl d_Dw_blame_9 ?_
  refine Aw.iload_n rfl d_Dw_blame_10 ?_
  refine Aw.aload_n rfl d_Dw_blame_11 ?_
  exact h
theorem b_Dw_blame_18 {Ω : Om} {R : Room} {F : QF} {k n : Nat} {σ : Sto} {a0 : Nat} {v1 : Int} {v2 : Int} {a3 : Nat} (h : sK σ a0 = 1 ∧ (∃ b2 : Nat, fR σ 4 a0 = some b2 ∧ Aw Ω M_Dw_blame R F k n 24 [xr (some a0), xi v1, xi v2, xr (some a3)] [xi v2, xr (some a3), xr (some b2)] σ)) : Aw Ω M_Dw_blame R F k n 18 [xr (some a0), xi v1, xi v2, xr (some a3)] [] σ := by
  refine Aw.aload_n rfl d_Dw_blame_18 ?_
  obtain ⟨o1, h⟩ := h
  obtain ⟨b2, e3, h⟩ := h
  refine Aw.getRs (f := 4) 0 4 fl_Dw_34 (by decide) (by decide) rfl rfl o1 e3 d_Dw_blame_19 ?_
  refine Aw.aload_n rfl d_Dw_blame_22 ?_
  refine Aw.iload_n rfl d_Dw_blame_23 ?_
  exact h
theorem c_Dw_blame_2 {Ω : Om} {R R' : Room} {F : QF} {k n : Nat} {L st : List PV} {σ : Sto} {QX' : String → Sto → Prop} {Q : Option Nat → Sto → Prop} {a : Nat} {x0 : Int} (hc : MC Ω M_Dw_versionAt R' (RR Q) QX' σ [xr (some a), xi x0]) (hk : sK σ a = 1) (hr1 : R'.frames + 1 ≤ R.frames) (hr2 : 8 + (2 + 11) + R'.locals ≤ R.locals) (hb1 : k + R'.cells ≤ R.cells) (hb2 : n + R'.slots ≤ R.slots) (hst : (st.map catP).sum ≤ 8) (kk : ∀ x σ', Q x σ' → Aw Ω M_Dw_blame R F (k + R'.cells) (n + R'.slots) 5 L (xr x :: st) σ') (kx : ∀ E σ', QX' E σ' → Ax Ω M_Dw_blame R F (k + R'.cells) (n + R'.slots) 2 L st σ' E) : Aw Ω M_Dw_blame R F k n 2 L (xi x0 :: xr (some a) :: st) σ :=
  Aw.callV (As := [xi x0]) (stk := xi x0 :: xr (some a) :: st) (nn := 1) 0 M_Dw_versionAt hc ok_Dw_versionAt rfl (by decide) rfl hk ml_Dw_91 im_Dw_versionAt se_Dw_versionAt ⟨hr1, hr2⟩ rfl ⟨hb1, hb2⟩ hst rfl d_Dw_blame_2 (fun r σ' h => by obtain ⟨x, rfl, h⟩ := h; exact kk x σ' h) kx
theorem c_Dw_blame_12 {Ω : Om} {R R' : Room} {F : QF} {k n : Nat} {L st : List PV} {σ : Sto} {QX' : String → Sto → Prop} {Q : Int → Sto → Prop} {a : Nat} (hc : MC Ω M_Txt_size R' (RI Q) QX' σ [xr (some a)]) (hk : sK σ a = 10) (hr1 : R'.frames + 1 ≤ R.frames) (hr2 : 8 + (1 + 11) + R'.locals ≤ R.locals) (hb1 : k + R'.cells ≤ R.cells) (hb2 : n + R'.slots ≤ R.slots) (hst : (st.map catP).sum ≤ 8) (kk : ∀ x σ', Q x σ' → Aw Ω M_Dw_blame R F (k + R'.cells) (n + R'.slots) 15 L (xi x :: st) σ') (kx : ∀ E σ', QX' E σ' → Ax Ω M_Dw_blame R F (k + R'.cells) (n + R'.slots) 12 L st σ' E) : Aw Ω M_Dw_blame R F k n 12 L (xr (some a) :: st) σ :=
  Aw.callV (As := []) (stk := xr (some a) :: st) (nn := 0) 9 M_Txt_size hc ok_Txt_size rfl (by decide) rfl hk ml_Dw_112 im_Txt_size se_Txt_size ⟨hr1, hr2⟩ rfl ⟨hb1, hb2⟩ hst rfl d_Dw_blame_12 (fun r σ' h => by obtain ⟨x, rfl, h⟩ := h; exact kk x σ' h) kx
theorem c_Dw_blame_15 {Ω : Om} {R R' : Room} {F : QF} {k n : Nat} {L st : List PV} {σ : Sto} {QX' : String → Sto → Prop} {Q : Sto → Prop} {a : Nat} {x0 : Int} {x1 : Int} (hc : MC Ω M_Dw_checkPlace R' (RV Q) QX' σ [xr (some a), xi x0, xi x1]) (hk : sK σ a = 1) (hr1 : R'.frames + 1 ≤ R.frames) (hr2 : 8 + (3 + 11) + R'.locals ≤ R.locals) (hb1 : k + R'.cells ≤ R.cells) (hb2 : n + R'.slots ≤ R.slots) (hst : (st.map catP).sum ≤ 8) (kk : ∀ σ', Q σ' → Aw Ω M_Dw_blame R F (k + R'.cells) (n + R'.slots) 18 L st σ') (kx : ∀ E σ', QX' E σ' → Ax Ω M_Dw_blame R F (k + R'.cells) (n + R'.slots) 15 L st σ' E) : Aw Ω M_Dw_blame R F k n 15 L (xi x1 :: xi x0 :: xr (some a) :: st) σ :=
  Aw.callV (As := [xi x0, xi x1]) (stk := xi x1 :: xi x0 :: xr (some a) :: st) (nn := 2) 0 M_Dw_checkPlace hc ok_Dw_checkPlace rfl (by decide) rfl hk ml_Dw_121 im_Dw_checkPlace se_Dw_checkPlace ⟨hr1, hr2⟩ rfl ⟨hb1, hb2⟩ hst rfl d_Dw_blame_15 (fun r σ' h => by obtain ⟨rfl, h⟩ := h; exact kk σ' h) kx
theorem c_Dw_blame_24 {Ω : Om} {R R' : Room} {F : QF} {k n : Nat} {L st : List PV} {σ : Sto} {QX' : String → Sto → Prop} {Q : Int → Sto → Prop} {a : Nat} {x0 : Int} (hc : MC Ω M_Txt_nameAt R' (RI Q) QX' σ [xr (some a), xi x0]) (hk : sK σ a = 10) (hr1 : R'.frames + 1 ≤ R.frames) (hr2 : 8 + (2 + 11) + R'.locals ≤ R.locals) (hb1 : k + R'.cells ≤ R.cells) (hb2 : n + R'.slots ≤ R.slots) (hst : (st.map catP).sum ≤ 8) (kk : ∀ x σ', Q x σ' → Aw Ω M_Dw_blame R F (k + R'.cells) (n + R'.slots) 27 L (xi x :: st) σ') (kx : ∀ E σ', QX' E σ' → Ax Ω M_Dw_blame R F (k + R'.cells) (n + R'.slots) 24 L st σ' E) : Aw Ω M_Dw_blame R F k n 24 L (xi x0 :: xr (some a) :: st) σ :=
  Aw.callV (As := [xi x0]) (stk := xi x0 :: xr (some a) :: st) (nn := 1) 9 M_Txt_nameAt hc ok_Txt_nameAt rfl (by decide) rfl hk ml_Dw_156 im_Txt_nameAt se_Txt_nameAt ⟨hr1, hr2⟩ rfl ⟨hb1, hb2⟩ hst rfl d_Dw_blame_24 (fun r σ' h => by obtain ⟨x, rfl, h⟩ := h; exact kk x σ' h) kx
theorem c_Dw_blame_27 {Ω : Om} {R R' : Room} {F : QF} {k n : Nat} {L st : List PV} {σ : Sto} {QX' : String → Sto → Prop} {Q : Int → Sto → Prop} {a : Nat} {x0 : Int} (hc : MC Ω M_Lbk_authorOf R' (RI Q) QX' σ [xr (some a), xi x0]) (hk : sK σ a = 7) (hr1 : R'.frames + 1 ≤ R.frames) (hr2 : 8 + (2 + 11) + R'.locals ≤ R.locals) (hb1 : k + R'.cells ≤ R.cells) (hb2 : n + R'.slots ≤ R.slots) (hst : (st.map catP).sum ≤ 8) (kk : ∀ x σ', Q x σ' → Aw Ω M_Dw_blame R F (k + R'.cells) (n + R'.slots) 30 L (xi x :: st) σ') (kx : ∀ E σ', QX' E σ' → Ax Ω M_Dw_blame R F (k + R'.cells) (n + R'.slots) 27 L st σ' E) : Aw Ω M_Dw_blame R F k n 27 L (xi x0 :: xr (some a) :: st) σ :=
  Aw.callV (As := [xi x0]) (stk := xi x0 :: xr (some a) :: st) (nn := 1) 6 M_Lbk_authorOf hc ok_Lbk_authorOf rfl (by decide) rfl hk ml_Dw_210 im_Lbk_authorOf se_Lbk_authorOf ⟨hr1, hr2⟩ rfl ⟨hb1, hb2⟩ hst rfl d_Dw_blame_27 (fun r σ' h => by obtain ⟨x, rfl, h⟩ := h; exact kk x σ' h) kx
theorem r_Dw_blame_30 {Ω : Om} {R : Room} {k n : Nat} {L : List PV} {σ : Sto} {QR : Option PV → Sto → Prop} {QX : String → Sto → Prop} {x : Int} (h : QR (some (xi x)) σ) (h1 : k ≤ R.cells) (h2 : n ≤ R.slots) : Aw Ω M_Dw_blame R (MF Ω R QR QX) k n 30 L [xi x] σ := Aw.iret rfl h h1 h2 d_Dw_blame_30
theorem e_Dw_change {Ω : Om} {R : Room} {QR : Option PV → Sto → Prop} {QX : String → Sto → Prop} {σ : Sto} {a0 : Nat} {v1 : Int} {v2 : Int64} (h : Aw Ω M_Dw_change R (MF Ω R QR QX) 0 0 0 [xr (some a0), xi v1, xl v2, xu, xu, xu, xu] [] σ) : MC Ω M_Dw_change R QR QX σ [xr (some a0), xi v1, xl v2] := MC.body (by decide +kernel) rfl (Nat.le_of_ble_eq_true rfl) rfl h
theorem b_Dw_change_0 {Ω : Om} {R : Room} {F : QF} {k n : Nat} {σ : Sto} {a0 : Nat} {v1 : Int} {v2 : Int64} (h : Aw Ω M_Dw_change R F k n 3 [xr (some a0), xi v1, xl v2, xu, xu, xu, xu] [xr (some a0), xi v1, xr (some a0)] σ) : Aw Ω M_Dw_change R F k n 0 [xr (some a0), xi v1, xl v2, xu, xu, xu, xu] [] σ := by
  refine Aw.aload_n rfl d_Dw_change_0 ?_
  refine Aw.iload_n rfl d_Dw_change_1 ?_
  refine Aw.aload_n rfl d_Dw_change_2 ?_
  exact h
theorem b_Dw_change_9 {Ω : Om} {R : Room} {F : QF} {k n : Nat} {σ : Sto} {a0 : Nat} {v1 : Int} {v2 : Int64} (h : Aw Ω M_Dw_change R F k n 11 [xr (some a0), xi v1, xl v2, xu, xu, xu, xu] [xl v2, xr (some a0)] σ) : Aw Ω M_Dw_change R F k n 9 [xr (some a0), xi v1, xl v2, xu, xu, xu, xu] [] σ := by
  refine Aw.aload_n rfl d_Dw_change_9 ?_
  refine Aw.lload_n rfl d_Dw_change_10 ?_
  exact h
theorem b_Dw_change_14 {Ω : Om} {R : Room} {F : QF} {k n : Nat} {σ : Sto} {a0 : Nat} {v1 : Int} {v2 : Int64} (h : Aw Ω M_Dw_change R F k n 15 [xr (some a0), xi v1, xl v2, xu, xu, xu, xu] [xr (some a0)] σ) : Aw Ω M_Dw_change R F k n 14 [xr (some a0), xi v1, xl v2, xu, xu, xu, xu] [] σ := by
  refine Aw.aload_n rfl d_Dw_change_14 ?_
  exact h
theorem b_Dw_change_18 {Ω : Om} {R : Room} {F : QF} {k n : Nat} {σ : Sto} {a0 : Nat} {v1 : Int} {v2 : Int64} (h : sK σ a0 = 1 ∧ (∃ b2 : Nat, fR σ 8 a0 = some b2 ∧ sK σ b2 = 4 ∧ (∃ b5 : Nat, fR σ 192 b2 = some b5 ∧ Aw Ω M_Dw_change R F k n 26 [xr (some a0), xi v1, xl v2, xu, xu, xu, xu] [xi v1, xr (some b5)] σ))) : Aw Ω M_Dw_change R F k n 18 [xr (some a0), xi v1, xl v2, xu, xu, xu, xu] [] σ := by
  refine Aw.aload_n rfl d_Dw_change_18 ?_
  obtain ⟨o1, h⟩ := h
  obtain ⟨b2, e3, h⟩ := h
  refine Aw.getRs (f := 8) 0 8 fl_Dw_58 (by decide) (by decide) rfl rfl o1 e3 d_Dw_change_19 ?_
  obtain ⟨o4, h⟩ := h
  obtain ⟨b5, e6, h⟩ := h
  refine Aw.getRs (f := 192) 3 0 fl_Dw_111 (by decide) (by decide) rfl rfl o4 e6 d_Dw_change_22 ?_
  refine Aw.iload_n rfl d_Dw_change_25 ?_
  exact h
theorem b_Dw_change_29 {Ω : Om} {R : Room} {F : QF} {k n : Nat} {σ : Sto} {a0 : Nat} {v1 : Int} {v2 : Int64} {s0 : Int64} (h : sK σ a0 = 1 ∧ (∃ b2 : Nat, fR σ 8 a0 = some b2 ∧ sK σ b2 = 4 ∧ (∃ b5 : Nat, fR σ 192 b2 = some b5 ∧ Aw Ω M_Dw_change R F k n 39 [xr (some a0), xi v1, xl v2, xu, xl s0, xu, xu] [xi v1, xr (some b5)] σ))) : Aw Ω M_Dw_change R F k n 29 [xr (some a0), xi v1, xl v2, xu, xu, xu, xu] [xl s0] σ := by
  refine Aw.lstore (by decide) d_Dw_change_29 ?_
  refine Aw.toL (L' := [xr (some a0), xi v1, xl v2, xu, xl s0, xu, xu]) rfl ?_
  refine Aw.aload_n rfl d_Dw_change_31 ?_
  obtain ⟨o1, h⟩ := h
  obtain ⟨b2, e3, h⟩ := h
  refine Aw.getRs (f := 8) 0 8 fl_Dw_58 (by decide) (by decide) rfl rfl o1 e3 d_Dw_change_32 ?_
  obtain ⟨o4, h⟩ := h
  obtain ⟨b5, e6, h⟩ := h
  refine Aw.getRs (f := 192) 3 0 fl_Dw_111 (by decide) (by decide) rfl rfl o4 e6 d_Dw_change_35 ?_
  refine Aw.iload_n rfl d_Dw_change_38 ?_
  exact h
theorem b_Dw_change_42 {Ω : Om} {R : Room} {F : QF} {k n : Nat} {σ : Sto} {a0 : Nat} {v1 : Int} {v2 : Int64} {v4 : Int64} {s0 : Int} (h : sK σ a0 = 1 ∧ (∃ b2 : Nat, fR σ 8 a0 = some b2 ∧ k + 1 ≤ R.cells ∧ n + 6 ≤ R.slots ∧ (∀ σ6 : Sto, σ6 = (nO σ 5 0) → Aw Ω M_Dw_change R F (k + 1) (n + 6) 57 [xr (some a0), xi v1, xl v2, xu, xl v4, xu, xi s0] [xr none, xl v2, xi (-1), xi v1, xi 2, xr (some (sN σ)), xr (some (sN σ)), xr (some b2)] σ6))) : Aw Ω M_Dw_change R F k n 42 [xr (some a0), xi v1, xl v2, xu, xl v4, xu, xu] [xi s0] σ := by
  refine Aw.istore (by decide) d_Dw_change_42 ?_
  refine Aw.toL (L' := [xr (some a0), xi v1, xl v2, xu, xl v4, xu, xi s0]) rfl ?_
  refine Aw.aload_n rfl d_Dw_change_44 ?_
  obtain ⟨o1, h⟩ := h
  obtain ⟨b2, e3, h⟩ := h
  refine Aw.getRs (f := 8) 0 8 fl_Dw_58 (by decide) (by decide) rfl rfl o1 e3 d_Dw_change_45 ?_
  obtain ⟨o4, o5, h⟩ := h
  refine Aw.new 4 (by decide) cl_Dw_139 ins_4 ini_4 o4 o5 d_Dw_change_48 ?_
  obtain ⟨σ6, hσ6⟩ : ∃ z, z = (nO σ 5 0) := ⟨_, rfl⟩
  refine Aw.toS (σ' := σ6) hσ6 ?_
  have h := h σ6 hσ6
  refine Aw.dup rfl d_Dw_change_51 ?_
  refine Aw.iconst d_Dw_change_52 ?_
  refine Aw.iload_n rfl d_Dw_change_53 ?_
  refine Aw.iconst d_Dw_change_54 ?_
  refine Aw.lload_n rfl d_Dw_change_55 ?_
  refine Aw.null d_Dw_change_56 ?_
  exact h
theorem b_Dw_change_63 {Ω : Om} {R : Room} {F : QF} {k n : Nat} {σ : Sto} {a0 : Nat} {v1 : Int} {v2 : Int64} {v4 : Int64} {v6 : Int} {s0 : Int} (h : sK σ a0 = 1 ∧ (∃ b2 : Nat, fR σ 8 a0 = some b2 ∧ (∃ b4 : Nat, fR σ 4 a0 = some b4 ∧ Aw Ω M_Dw_change R F k n 75 [xr (some a0), xi v1, xl v2, xu, xl v4, xu, xi v6] [xi v6, xi v1, xr (some b4), xr (some b2)] σ))) : Aw Ω M_Dw_change R F k n 63 [xr (some a0), xi v1, xl v2, xu, xl v4, xu, xi v6] [xi s0] σ := by
  refine Aw.pop rfl d_Dw_change_63 ?_
  refine Aw.aload_n rfl d_Dw_change_64 ?_
  obtain ⟨o1, h⟩ := h
  obtain ⟨b2, e3, h⟩ := h
  refine Aw.getRs (f := 8) 0 8 fl_Dw_58 (by decide) (by decide) rfl rfl o1 e3 d_Dw_change_65 ?_
  refine Aw.aload_n rfl d_Dw_change_68 ?_
  obtain ⟨b4, e5, h⟩ := h
  refine Aw.getRs (f := 4) 0 4 fl_Dw_34 (by decide) (by decide) rfl rfl o1 e5 d_Dw_change_69 ?_
  refine Aw.iload_n rfl d_Dw_change_72 ?_
  refine Aw.iload rfl d_Dw_change_73 ?_
  exact h
theorem b_Dw_change_78 {Ω : Om} {R : Room} {F : QF} {k n : Nat} {σ : Sto} {a0 : Nat} {v1 : Int} {v2 : Int64} {v4 : Int64} {v6 : Int} (h : sK σ a0 = 1 ∧ (Q32 (fI σ 16 a0) → Q32 ((fI σ 16 a0) + 1) ∧ Aw Ω M_Dw_change R F k n 91 [xr (some a0), xi v1, xl v2, xu, xl v4, xu, xi v6] [xl v2, xl v4] (uI σ 16 a0 ((fI σ 16 a0) + 1)))) : Aw Ω M_Dw_change R F k n 78 [xr (some a0), xi v1, xl v2, xu, xl v4, xu, xi v6] [] σ := by
  refine Aw.aload_n rfl d_Dw_change_78 ?_
  refine Aw.dup rfl d_Dw_change_79 ?_
  obtain ⟨o1, h⟩ := h
  refine Aw.getI (f := 16) 0 16 fl_Dw_85 (by decide) (by decide) rfl rfl o1 d_Dw_change_80 (fun r2 => ?_)
  have h := h r2
  refine Aw.iconst d_Dw_change_83 ?_
  refine Aw.iadd d_Dw_change_84 ?_
  obtain ⟨o3, h⟩ := h
  refine Aw.putI (f := 16) 0 16 fl_Dw_85 (by decide) (by decide) rfl rfl o1 rfl o3 (Or.inl rfl) d_Dw_change_85 ?_
  refine Aw.lload rfl d_Dw_change_88 ?_
  refine Aw.lload_n rfl d_Dw_change_90 ?_
  exact h
theorem c_Dw_change_3 {Ω : Om} {R R' : Room} {F : QF} {k n : Nat} {L st : List PV} {σ : Sto} {QX' : String → Sto → Prop} {Q : Int → Sto → Prop} {a : Nat} (hc : MC Ω M_Dw_draftSize R' (RI Q) QX' σ [xr (some a)]) (hk : sK σ a = 1) (hr1 : R'.frames + 1 ≤ R.frames) (hr2 : 8 + (1 + 11) + R'.locals ≤ R.locals) (hb1 : k + R'.cells ≤ R.cells) (hb2 : n + R'.slots ≤ R.slots) (hst : (st.map catP).sum ≤ 8) (kk : ∀ x σ', Q x σ' → Aw Ω M_Dw_change R F (k + R'.cells) (n + R'.slots) 6 L (xi x :: st) σ') (kx : ∀ E σ', QX' E σ' → Ax Ω M_Dw_change R F (k + R'.cells) (n + R'.slots) 3 L st σ' E) : Aw Ω M_Dw_change R F k n 3 L (xr (some a) :: st) σ :=
  Aw.callV (As := []) (stk := xr (some a) :: st) (nn := 0) 0 M_Dw_draftSize hc ok_Dw_draftSize rfl (by decide) rfl hk ml_Dw_118 im_Dw_draftSize se_Dw_draftSize ⟨hr1, hr2⟩ rfl ⟨hb1, hb2⟩ hst rfl d_Dw_change_3 (fun r σ' h => by obtain ⟨x, rfl, h⟩ := h; exact kk x σ' h) kx
theorem c_Dw_change_6 {Ω : Om} {R R' : Room} {F : QF} {k n : Nat} {L st : List PV} {σ : Sto} {QX' : String → Sto → Prop} {Q : Sto → Prop} {a : Nat} {x0 : Int} {x1 : Int} (hc : MC Ω M_Dw_checkPlace R' (RV Q) QX' σ [xr (some a), xi x0, xi x1]) (hk : sK σ a = 1) (hr1 : R'.frames + 1 ≤ R.frames) (hr2 : 8 + (3 + 11) + R'.locals ≤ R.locals) (hb1 : k + R'.cells ≤ R.cells) (hb2 : n + R'.slots ≤ R.slots) (hst : (st.map catP).sum ≤ 8) (kk : ∀ σ', Q σ' → Aw Ω M_Dw_change R F (k + R'.cells) (n + R'.slots) 9 L st σ') (kx : ∀ E σ', QX' E σ' → Ax Ω M_Dw_change R F (k + R'.cells) (n + R'.slots) 6 L st σ' E) : Aw Ω M_Dw_change R F k n 6 L (xi x1 :: xi x0 :: xr (some a) :: st) σ :=
  Aw.callV (As := [xi x0, xi x1]) (stk := xi x1 :: xi x0 :: xr (some a) :: st) (nn := 2) 0 M_Dw_checkPlace hc ok_Dw_checkPlace rfl (by decide) rfl hk ml_Dw_121 im_Dw_checkPlace se_Dw_checkPlace ⟨hr1, hr2⟩ rfl ⟨hb1, hb2⟩ hst rfl d_Dw_change_6 (fun r σ' h => by obtain ⟨rfl, h⟩ := h; exact kk σ' h) kx
theorem c_Dw_change_11 {Ω : Om} {R R' : Room} {F : QF} {k n : Nat} {L st : List PV} {σ : Sto} {QX' : String → Sto → Prop} {Q : Sto → Prop} {a : Nat} {x0 : Int64} (hc : MC Ω M_Dw_checkLine R' (RV Q) QX' σ [xr (some a), xl x0]) (hk : sK σ a = 1) (hr1 : R'.frames + 1 ≤ R.frames) (hr2 : 8 + (3 + 11) + R'.locals ≤ R.locals) (hb1 : k + R'.cells ≤ R.cells) (hb2 : n + R'.slots ≤ R.slots) (hst : (st.map catP).sum ≤ 8) (kk : ∀ σ', Q σ' → Aw Ω M_Dw_change R F (k + R'.cells) (n + R'.slots) 14 L st σ') (kx : ∀ E σ', QX' E σ' → Ax Ω M_Dw_change R F (k + R'.cells) (n + R'.slots) 11 L st σ' E) : Aw Ω M_Dw_change R F k n 11 L (xl x0 :: xr (some a) :: st) σ :=
  Aw.callV (As := [xl x0]) (stk := xl x0 :: xr (some a) :: st) (nn := 1) 0 M_Dw_checkLine hc ok_Dw_checkLine rfl (by decide) rfl hk ml_Dw_125 im_Dw_checkLine se_Dw_checkLine ⟨hr1, hr2⟩ rfl ⟨hb1, hb2⟩ hst rfl d_Dw_change_11 (fun r σ' h => by obtain ⟨rfl, h⟩ := h; exact kk σ' h) kx
theorem c_Dw_change_15 {Ω : Om} {R R' : Room} {F : QF} {k n : Nat} {L st : List PV} {σ : Sto} {QX' : String → Sto → Prop} {Q : Sto → Prop} {a : Nat} (hc : MC Ω M_Dw_checkEditable R' (RV Q) QX' σ [xr (some a)]) (hk : sK σ a = 1) (hr1 : R'.frames + 1 ≤ R.frames) (hr2 : 8 + (1 + 11) + R'.locals ≤ R.locals) (hb1 : k + R'.cells ≤ R.cells) (hb2 : n + R'.slots ≤ R.slots) (hst : (st.map catP).sum ≤ 8) (kk : ∀ σ', Q σ' → Aw Ω M_Dw_change R F (k + R'.cells) (n + R'.slots) 18 L st σ') (kx : ∀ E σ', QX' E σ' → Ax Ω M_Dw_change R F (k + R'.cells) (n + R'.slots) 15 L st σ' E) : Aw Ω M_Dw_change R F k n 15 L (xr (some a) :: st) σ :=
  Aw.callV (As := []) (stk := xr (some a) :: st) (nn := 0) 0 M_Dw_checkEditable hc ok_Dw_checkEditable rfl (by decide) rfl hk ml_Dw_129 im_Dw_checkEditable se_Dw_checkEditable ⟨hr1, hr2⟩ rfl ⟨hb1, hb2⟩ hst rfl d_Dw_change_15 (fun r σ' h => by obtain ⟨rfl, h⟩ := h; exact kk σ' h) kx
theorem c_Dw_change_26 {Ω : Om} {R R' : Room} {F : QF} {k n : Nat} {L st : List PV} {σ : Sto} {QX' : String → Sto → Prop} {Q : Int64 → Sto → Prop} {a : Nat} {x0 : Int} (hc : MC Ω M_Txt_lineAt R' (RL Q) QX' σ [xr (some a), xi x0]) (hk : sK σ a = 10) (hr1 : R'.frames + 1 ≤ R.frames) (hr2 : 8 + (2 + 11) + R'.locals ≤ R.locals) (hb1 : k + R'.cells ≤ R.cells) (hb2 : n + R'.slots ≤ R.slots) (hst : (st.map catP).sum ≤ 8) (kk : ∀ x σ', Q x σ' → Aw Ω M_Dw_change R F (k + R'.cells) (n + R'.slots) 29 L (xl x :: st) σ') (kx : ∀ E σ', QX' E σ' → Ax Ω M_Dw_change R F (k + R'.cells) (n + R'.slots) 26 L st σ' E) : Aw Ω M_Dw_change R F k n 26 L (xi x0 :: xr (some a) :: st) σ :=
  Aw.callV (As := [xi x0]) (stk := xi x0 :: xr (some a) :: st) (nn := 1) 9 M_Txt_lineAt hc ok_Txt_lineAt rfl (by decide) rfl hk ml_Dw_152 im_Txt_lineAt se_Txt_lineAt ⟨hr1, hr2⟩ rfl ⟨hb1, hb2⟩ hst rfl d_Dw_change_26 (fun r σ' h => by obtain ⟨x, rfl, h⟩ := h; exact kk x σ' h) kx
theorem c_Dw_change_39 {Ω : Om} {R R' : Room} {F : QF} {k n : Nat} {L st : List PV} {σ : Sto} {QX' : String → Sto → Prop} {Q : Int → Sto → Prop} {a : Nat} {x0 : Int} (hc : MC Ω M_Txt_nameAt R' (RI Q) QX' σ [xr (some a), xi x0]) (hk : sK σ a = 10) (hr1 : R'.frames + 1 ≤ R.frames) (hr2 : 8 + (2 + 11) + R'.locals ≤ R.locals) (hb1 : k + R'.cells ≤ R.cells) (hb2 : n + R'.slots ≤ R.slots) (hst : (st.map catP).sum ≤ 8) (kk : ∀ x σ', Q x σ' → Aw Ω M_Dw_change R F (k + R'.cells) (n + R'.slots) 42 L (xi x :: st) σ') (kx : ∀ E σ', QX' E σ' → Ax Ω M_Dw_change R F (k + R'.cells) (n + R'.slots) 39 L st σ' E) : Aw Ω M_Dw_change R F k n 39 L (xi x0 :: xr (some a) :: st) σ :=
  Aw.callV (As := [xi x0]) (stk := xi x0 :: xr (some a) :: st) (nn := 1) 9 M_Txt_nameAt hc ok_Txt_nameAt rfl (by decide) rfl hk ml_Dw_156 im_Txt_nameAt se_Txt_nameAt ⟨hr1, hr2⟩ rfl ⟨hb1, hb2⟩ hst rfl d_Dw_change_39 (fun r σ' h => by obtain ⟨x, rfl, h⟩ := h; exact kk x σ' h) kx
theorem c_Dw_change_57 {Ω : Om} {R R' : Room} {F : QF} {k n : Nat} {L st : List PV} {σ : Sto} {QX' : String → Sto → Prop} {Q : Sto → Prop} {a : Nat} {x0 : Int} {x1 : Int} {x2 : Int} {x3 : Int64} {x4 : Option Nat} (hc : MC Ω M_Edt_init R' (RV Q) QX' σ [xr (some a), xi x0, xi x1, xi x2, xl x3, xr x4]) (hr1 : R'.frames + 1 ≤ R.frames) (hr2 : 8 + (7 + 11) + R'.locals ≤ R.locals) (hb1 : k + R'.cells ≤ R.cells) (hb2 : n + R'.slots ≤ R.slots) (hst : (st.map catP).sum ≤ 8) (kk : ∀ σ', Q σ' → Aw Ω M_Dw_change R F (k + R'.cells) (n + R'.slots) 60 L st σ') (kx : ∀ E σ', QX' E σ' → Ax Ω M_Dw_change R F (k + R'.cells) (n + R'.slots) 57 L st σ' E) : Aw Ω M_Dw_change R F k n 57 L (xr x4 :: xl x3 :: xi x2 :: xi x1 :: xi x0 :: xr (some a) :: st) σ :=
  Aw.callI (As := [xi x0, xi x1, xi x2, xl x3, xr x4]) (stk := xr x4 :: xl x3 :: xi x2 :: xi x1 :: xi x0 :: xr (some a) :: st) (nn := 5) M_Edt_init hc ok_Edt_init rfl rfl rfl im_Edt_init (Or.inl ml_Dw_141) ⟨hr1, hr2⟩ rfl ⟨hb1, hb2⟩ hst rfl d_Dw_change_57 (fun r σ' h => by obtain ⟨rfl, h⟩ := h; exact kk σ' h) kx
theorem c_Dw_change_60 {Ω : Om} {R R' : Room} {F : QF} {k n : Nat} {L st : List PV} {σ : Sto} {QX' : String → Sto → Prop} {Q : Int → Sto → Prop} {a : Nat} {x0 : Option Nat} (hc : MC Ω M_Drf_make R' (RI Q) QX' σ [xr (some a), xr x0]) (hk : sK σ a = 4) (hr1 : R'.frames + 1 ≤ R.frames) (hr2 : 8 + (2 + 11) + R'.locals ≤ R.locals) (hb1 : k + R'.cells ≤ R.cells) (hb2 : n + R'.slots ≤ R.slots) (hst : (st.map catP).sum ≤ 8) (kk : ∀ x σ', Q x σ' → Aw Ω M_Dw_change R F (k + R'.cells) (n + R'.slots) 63 L (xi x :: st) σ') (kx : ∀ E σ', QX' E σ' → Ax Ω M_Dw_change R F (k + R'.cells) (n + R'.slots) 60 L st σ' E) : Aw Ω M_Dw_change R F k n 60 L (xr x0 :: xr (some a) :: st) σ :=
  Aw.callV (As := [xr x0]) (stk := xr x0 :: xr (some a) :: st) (nn := 1) 3 M_Drf_make hc ok_Drf_make rfl (by decide) rfl hk ml_Dw_144 im_Drf_make se_Drf_make ⟨hr1, hr2⟩ rfl ⟨hb1, hb2⟩ hst rfl d_Dw_change_60 (fun r σ' h => by obtain ⟨x, rfl, h⟩ := h; exact kk x σ' h) kx
theorem c_Dw_change_75 {Ω : Om} {R R' : Room} {F : QF} {k n : Nat} {L st : List PV} {σ : Sto} {QX' : String → Sto → Prop} {Q : Sto → Prop} {a : Nat} {x0 : Option Nat} {x1 : Int} {x2 : Int} (hc : MC Ω M_Drf_nameRewritten R' (RV Q) QX' σ [xr (some a), xr x0, xi x1, xi x2]) (hk : sK σ a = 4) (hr1 : R'.frames + 1 ≤ R.frames) (hr2 : 8 + (4 + 11) + R'.locals ≤ R.locals) (hb1 : k + R'.cells ≤ R.cells) (hb2 : n + R'.slots ≤ R.slots) (hst : (st.map catP).sum ≤ 8) (kk : ∀ σ', Q σ' → Aw Ω M_Dw_change R F (k + R'.cells) (n + R'.slots) 78 L st σ') (kx : ∀ E σ', QX' E σ' → Ax Ω M_Dw_change R F (k + R'.cells) (n + R'.slots) 75 L st σ' E) : Aw Ω M_Dw_change R F k n 75 L (xi x2 :: xi x1 :: xr x0 :: xr (some a) :: st) σ :=
  Aw.callV (As := [xr x0, xi x1, xi x2]) (stk := xi x2 :: xi x1 :: xr x0 :: xr (some a) :: st) (nn := 3) 3 M_Drf_nameRewritten hc ok_Drf_nameRewritten rfl (by decide) rfl hk ml_Dw_160 im_Drf_nameRewritten se_Drf_nameRewritten ⟨hr1, hr2⟩ rfl ⟨hb1, hb2⟩ hst rfl d_Dw_change_75 (fun r σ' h => by obtain ⟨rfl, h⟩ := h; exact kk σ' h) kx
theorem c_Dw_change_91 {Ω : Om} {R R' : Room} {F : QF} {k n : Nat} {L st : List PV} {σ : Sto} {QX' : String → Sto → Prop} {Q : Int → Sto → Prop} {x0 : Int64} {x1 : Int64} (hc : MC Ω M_Lbk_likenessOf R' (RI Q) QX' σ [xl x0, xl x1]) (hr1 : R'.frames + 1 ≤ R.frames) (hr2 : 8 + (5 + 11) + R'.locals ≤ R.locals) (hb1 : k + R'.cells ≤ R.cells) (hb2 : n + R'.slots ≤ R.slots) (hst : (st.map catP).sum ≤ 8) (kk : ∀ x σ', Q x σ' → Aw Ω M_Dw_change R F (k + R'.cells) (n + R'.slots) 94 L (xi x :: st) σ') (kx : ∀ E σ', QX' E σ' → Ax Ω M_Dw_change R F (k + R'.cells) (n + R'.slots) 91 L st σ' E) : Aw Ω M_Dw_change R F k n 91 L (xl x1 :: xl x0 :: st) σ :=
  Aw.callS (As := [xl x0, xl x1]) (stk := xl x1 :: xl x0 :: st) (nn := 2) M_Lbk_likenessOf hc ok_Lbk_likenessOf rfl ml_Dw_164 sta_Lbk_likenessOf ⟨hr1, hr2⟩ rfl ⟨hb1, hb2⟩ hst rfl d_Dw_change_91 (fun r σ' h => by obtain ⟨x, rfl, h⟩ := h; exact kk x σ' h) kx
theorem r_Dw_change_94 {Ω : Om} {R : Room} {k n : Nat} {L : List PV} {σ : Sto} {QR : Option PV → Sto → Prop} {QX : String → Sto → Prop} {x : Int} (h : QR (some (xi x)) σ) (h1 : k ≤ R.cells) (h2 : n ≤ R.slots) : Aw Ω M_Dw_change R (MF Ω R QR QX) k n 94 L [xi x] σ := Aw.iret rfl h h1 h2 d_Dw_change_94
theorem e_Dw_checkConflict {Ω : Om} {R : Room} {QR : Option PV → Sto → Prop} {QX : String → Sto → Prop} {σ : Sto} {a0 : Nat} {v1 : Int} (h : Aw Ω M_Dw_checkConflict R (MF Ω R QR QX) 0 0 0 [xr (some a0), xi v1] [] σ) : MC Ω M_Dw_checkConflict R QR QX σ [xr (some a0), xi v1] := MC.body (by decide +kernel) rfl (Nat.le_of_ble_eq_true rfl) rfl h
theorem b_Dw_checkConflict_0 {Ω : Om} {R : Room} {F : QF} {k n : Nat} {σ : Sto} {a0 : Nat} {v1 : Int} (h : sK σ a0 = 1 ∧ (Q32 (fI σ 10 a0) → (((fI σ 10 a0) = (0 : Int) → Aw Ω M_Dw_checkConflict R F k n 22 [xr (some a0), xi v1] [] σ) ∧ (¬ (fI σ 10 a0) = (0 : Int) → Q32 v1 ∧ ((v1 < (0 : Int) → Aw Ω M_Dw_checkConflict R F k n 22 [xr (some a0), xi v1] [] σ) ∧ (¬ v1 < (0 : Int) → (∃ b4 : Nat, fR σ 8 a0 = some b4 ∧ Aw Ω M_Dw_checkConflict R F k n 16 [xr (some a0), xi v1] [xr (some b4), xi v1] σ))))))) : Aw Ω M_Dw_checkConflict R F k n 0 [xr (some a0), xi v1] [] σ := by
  refine Aw.aload_n rfl d_Dw_checkConflict_0 ?_
  obtain ⟨o1, h⟩ := h
  refine Aw.getI (f := 10) 0 10 fl_Dw_65 (by decide) (by decide) rfl rfl o1 d_Dw_checkConflict_1 (fun r2 => ?_)
  have h := h r2
  obtain ⟨ht, hf⟩ := h
  refine Aw.if_eq (tgt := 22) r2 (by decide) d_Dw_checkConflict_4 (fun c7 => ?_) (fun c7 => ?_)
  · have h := ht c7
    exact h
  · have h := hf c7
    refine Aw.iload_n rfl d_Dw_checkConflict_7 ?_
    obtain ⟨o3, h⟩ := h
    obtain ⟨ht, hf⟩ := h
    refine Aw.if_lt (tgt := 22) o3 (by decide) d_Dw_checkConflict_8 (fun c6 => ?_) (fun c6 => ?_)
    · have h := ht c6
      exact h
    · have h := hf c6
      refine Aw.iload_n rfl d_Dw_checkConflict_11 ?_
      refine Aw.aload_n rfl d_Dw_checkConflict_12 ?_
      obtain ⟨b4, e5, h⟩ := h
      refine Aw.getRs (f := 8) 0 8 fl_Dw_58 (by decide) (by decide) rfl rfl o1 e5 d_Dw_checkConflict_13 ?_
      exact h
theorem b_Dw_checkConflict_19 {Ω : Om} {R : Room} {F : QF} {k n : Nat} {σ : Sto} {a0 : Nat} {v1 : Int} {s0 : Int} {s1 : Int} (h : Q32 s0 ∧ Q32 s1 ∧ ((s0 < s1 → Aw Ω M_Dw_checkConflict R F k n 33 [xr (some a0), xi v1] [] σ) ∧ (¬ s0 < s1 → Aw Ω M_Dw_checkConflict R F k n 22 [xr (some a0), xi v1] [] σ))) : Aw Ω M_Dw_checkConflict R F k n 19 [xr (some a0), xi v1] [xi s1, xi s0] σ := by
  obtain ⟨o1, h⟩ := h
  obtain ⟨o2, h⟩ := h
  obtain ⟨ht, hf⟩ := h
  refine Aw.icmp_lt (tgt := 33) o1 o2 (by decide) d_Dw_checkConflict_19 (fun c3 => ?_) (fun c3 => ?_)
  · have h := ht c3
    exact h
  · have h := hf c3
    exact h
theorem c_Dw_checkConflict_16 {Ω : Om} {R R' : Room} {F : QF} {k n : Nat} {L st : List PV} {σ : Sto} {QX' : String → Sto → Prop} {Q : Int → Sto → Prop} {a : Nat} (hc : MC Ω M_Drf_conflictCount R' (RI Q) QX' σ [xr (some a)]) (hk : sK σ a = 4) (hr1 : R'.frames + 1 ≤ R.frames) (hr2 : 8 + (1 + 11) + R'.locals ≤ R.locals) (hb1 : k + R'.cells ≤ R.cells) (hb2 : n + R'.slots ≤ R.slots) (hst : (st.map catP).sum ≤ 8) (kk : ∀ x σ', Q x σ' → Aw Ω M_Dw_checkConflict R F (k + R'.cells) (n + R'.slots) 19 L (xi x :: st) σ') (kx : ∀ E σ', QX' E σ' → Ax Ω M_Dw_checkConflict R F (k + R'.cells) (n + R'.slots) 16 L st σ' E) : Aw Ω M_Dw_checkConflict R F k n 16 L (xr (some a) :: st) σ :=
  Aw.callV (As := []) (stk := xr (some a) :: st) (nn := 0) 3 M_Drf_conflictCount hc ok_Drf_conflictCount rfl (by decide) rfl hk ml_Dw_378 im_Drf_conflictCount se_Drf_conflictCount ⟨hr1, hr2⟩ rfl ⟨hb1, hb2⟩ hst rfl d_Dw_checkConflict_16 (fun r σ' h => by obtain ⟨x, rfl, h⟩ := h; exact kk x σ' h) kx
theorem t_Dw_checkConflict_22 {Ω : Om} {R : Room} {k n : Nat} {L : List PV} {σ : Sto} {QR : Option PV → Sto → Prop} {QX : String → Sto → Prop} {st : List PV} (hRf : 5 < R.frames) (hRl : (st.map catP).sum + 82 ≤ R.locals) (hc : k + 1 ≤ R.cells) (hs : n + 6 ≤ R.slots) (hx : ∀ n', sN σ ≤ n' → QX "java/lang/IndexOutOfBoundsException" (nX σ n')) : Aw Ω M_Dw_checkConflict R (MF Ω R QR QX) k n 22 L st σ := Aw.throwSW (text := "there is no such conflict") rfl (by decide +kernel) exn_f cl_Dw_294 exi_IndexOutOfBoundsException (List.mem_of_getElem? (i := 1252) (by decide +kernel)) exa_Dw_298 exg_Dw_298 d_Dw_checkConflict_22 d_Dw_checkConflict_25 d_Dw_checkConflict_26 d_Dw_checkConflict_29 d_Dw_checkConflict_32 hRf hRl hc hs hx
theorem r_Dw_checkConflict_33 {Ω : Om} {R : Room} {k n : Nat} {L : List PV} {σ : Sto} {QR : Option PV → Sto → Prop} {QX : String → Sto → Prop} (h : QR none σ) (h1 : k ≤ R.cells) (h2 : n ≤ R.slots) : Aw Ω M_Dw_checkConflict R (MF Ω R QR QX) k n 33 L [] σ := Aw.vret rfl h h1 h2 d_Dw_checkConflict_33
theorem e_Dw_checkEditable {Ω : Om} {R : Room} {QR : Option PV → Sto → Prop} {QX : String → Sto → Prop} {σ : Sto} {a0 : Nat} (h : Aw Ω M_Dw_checkEditable R (MF Ω R QR QX) 0 0 0 [xr (some a0)] [] σ) : MC Ω M_Dw_checkEditable R QR QX σ [xr (some a0)] := MC.body (by decide +kernel) rfl (Nat.le_of_ble_eq_true rfl) rfl h
theorem b_Dw_checkEditable_0 {Ω : Om} {R : Room} {F : QF} {k n : Nat} {σ : Sto} {a0 : Nat} (h : Aw Ω M_Dw_checkEditable R F k n 1 [xr (some a0)] [xr (some a0)] σ) : Aw Ω M_Dw_checkEditable R F k n 0 [xr (some a0)] [] σ := by
  refine Aw.aload_n rfl d_Dw_checkEditable_0 ?_
  exact h
theorem b_Dw_checkEditable_4 {Ω : Om} {R : Room} {F : QF} {k n : Nat} {σ : Sto} {a0 : Nat} (h : Aw Ω M_Dw_checkEditable R F k n 5 [xr (some a0)] [xr (some a0)] σ) : Aw Ω M_Dw_checkEditable R F k n 4 [xr (some a0)] [] σ := by
  refine Aw.aload_n rfl d_Dw_checkEditable_4 ?_
  exact h
theorem c_Dw_checkEditable_1 {Ω : Om} {R R' : Room} {F : QF} {k n : Nat} {L st : List PV} {σ : Sto} {QX' : String → Sto → Prop} {Q : Sto → Prop} {a : Nat} (hc : MC Ω M_Dw_checkWhole R' (RV Q) QX' σ [xr (some a)]) (hk : sK σ a = 1) (hr1 : R'.frames + 1 ≤ R.frames) (hr2 : 8 + (1 + 11) + R'.locals ≤ R.locals) (hb1 : k + R'.cells ≤ R.cells) (hb2 : n + R'.slots ≤ R.slots) (hst : (st.map catP).sum ≤ 8) (kk : ∀ σ', Q σ' → Aw Ω M_Dw_checkEditable R F (k + R'.cells) (n + R'.slots) 4 L st σ') (kx : ∀ E σ', QX' E σ' → Ax Ω M_Dw_checkEditable R F (k + R'.cells) (n + R'.slots) 1 L st σ' E) : Aw Ω M_Dw_checkEditable R F k n 1 L (xr (some a) :: st) σ :=
  Aw.callV (As := []) (stk := xr (some a) :: st) (nn := 0) 0 M_Dw_checkWhole hc ok_Dw_checkWhole rfl (by decide) rfl hk ml_Dw_168 im_Dw_checkWhole se_Dw_checkWhole ⟨hr1, hr2⟩ rfl ⟨hb1, hb2⟩ hst rfl d_Dw_checkEditable_1 (fun r σ' h => by obtain ⟨rfl, h⟩ := h; exact kk σ' h) kx
theorem c_Dw_checkEditable_5 {Ω : Om} {R R' : Room} {F : QF} {k n : Nat} {L st : List PV} {σ : Sto} {QX' : String → Sto → Prop} {Q : Sto → Prop} {a : Nat} (hc : MC Ω M_Dw_checkUses R' (RV Q) QX' σ [xr (some a)]) (hk : sK σ a = 1) (hr1 : R'.frames + 1 ≤ R.frames) (hr2 : 8 + (1 + 11) + R'.locals ≤ R.locals) (hb1 : k + R'.cells ≤ R.cells) (hb2 : n + R'.slots ≤ R.slots) (hst : (st.map catP).sum ≤ 8) (kk : ∀ σ', Q σ' → Aw Ω M_Dw_checkEditable R F (k + R'.cells) (n + R'.slots) 8 L st σ') (kx : ∀ E σ', QX' E σ' → Ax Ω M_Dw_checkEditable R F (k + R'.cells) (n + R'.slots) 5 L st σ' E) : Aw Ω M_Dw_checkEditable R F k n 5 L (xr (some a) :: st) σ :=
  Aw.callV (As := []) (stk := xr (some a) :: st) (nn := 0) 0 M_Dw_checkUses hc ok_Dw_checkUses rfl (by decide) rfl hk ml_Dw_270 im_Dw_checkUses se_Dw_checkUses ⟨hr1, hr2⟩ rfl ⟨hb1, hb2⟩ hst rfl d_Dw_checkEditable_5 (fun r σ' h => by obtain ⟨rfl, h⟩ := h; exact kk σ' h) kx
theorem r_Dw_checkEditable_8 {Ω : Om} {R : Room} {k n : Nat} {L : List PV} {σ : Sto} {QR : Option PV → Sto → Prop} {QX : String → Sto → Prop} (h : QR none σ) (h1 : k ≤ R.cells) (h2 : n ≤ R.slots) : Aw Ω M_Dw_checkEditable R (MF Ω R QR QX) k n 8 L [] σ := Aw.vret rfl h h1 h2 d_Dw_checkEditable_8
theorem e_Dw_checkLine {Ω : Om} {R : Room} {QR : Option PV → Sto → Prop} {QX : String → Sto → Prop} {σ : Sto} {a0 : Nat} {v1 : Int64} (h : Aw Ω M_Dw_checkLine R (MF Ω R QR QX) 0 0 0 [xr (some a0), xl v1, xu] [] σ) : MC Ω M_Dw_checkLine R QR QX σ [xr (some a0), xl v1] := MC.body (by decide +kernel) rfl (Nat.le_of_ble_eq_true rfl) rfl h
theorem b_Dw_checkLine_0 {Ω : Om} {R : Room} {F : QF} {k n : Nat} {σ : Sto} {a0 : Nat} {v1 : Int64} (h : Aw Ω M_Dw_checkLine R F k n 1 [xr (some a0), xl v1, xu] [xl v1] σ) : Aw Ω M_Dw_checkLine R F k n 0 [xr (some a0), xl v1, xu] [] σ := by
  refine Aw.lload_n rfl d_Dw_checkLine_0 ?_
  exact h
theorem b_Dw_checkLine_4 {Ω : Om} {R : Room} {F : QF} {k n : Nat} {σ : Sto} {a0 : Nat} {v1 : Int64} {s0 : Int} (h : Q32 s0 ∧ ((¬ s0 = (0 : Int) → Aw Ω M_Dw_checkLine R F k n 18 [xr (some a0), xl v1, xu] [] σ) ∧ (s0 = (0 : Int) → Aw Ω M_Dw_checkLine R F k n 7 [xr (some a0), xl v1, xu] [] σ))) : Aw Ω M_Dw_checkLine R F k n 4 [xr (some a0), xl v1, xu] [xi s0] σ := by
  obtain ⟨o1, h⟩ := h
  obtain ⟨ht, hf⟩ := h
  refine Aw.if_ne (tgt := 18) o1 (by decide) d_Dw_checkLine_4 (fun c2 => ?_) (fun c2 => ?_)
  · have h := ht c2
    exact h
  · have h := hf c2
    exact h
theorem c_Dw_checkLine_1 {Ω : Om} {R R' : Room} {F : QF} {k n : Nat} {L st : List PV} {σ : Sto} {QX' : String → Sto → Prop} {Q : Int → Sto → Prop} {x0 : Int64} (hc : MC Ω M_Lbk_isLine R' (RI Q) QX' σ [xl x0]) (hr1 : R'.frames + 1 ≤ R.frames) (hr2 : 8 + (7 + 11) + R'.locals ≤ R.locals) (hb1 : k + R'.cells ≤ R.cells) (hb2 : n + R'.slots ≤ R.slots) (hst : (st.map catP).sum ≤ 8) (kk : ∀ x σ', Q x σ' → Aw Ω M_Dw_checkLine R F (k + R'.cells) (n + R'.slots) 4 L (xi x :: st) σ') (kx : ∀ E σ', QX' E σ' → Ax Ω M_Dw_checkLine R F (k + R'.cells) (n + R'.slots) 1 L st σ' E) : Aw Ω M_Dw_checkLine R F k n 1 L (xl x0 :: st) σ :=
  Aw.callS (As := [xl x0]) (stk := xl x0 :: st) (nn := 1) M_Lbk_isLine hc ok_Lbk_isLine rfl ml_Dw_383 sta_Lbk_isLine ⟨hr1, hr2⟩ rfl ⟨hb1, hb2⟩ hst rfl d_Dw_checkLine_1 (fun r σ' h => by obtain ⟨x, rfl, h⟩ := h; exact kk x σ' h) kx
theorem t_Dw_checkLine_7 {Ω : Om} {R : Room} {k n : Nat} {L : List PV} {σ : Sto} {QR : Option PV → Sto → Prop} {QX : String → Sto → Prop} {st : List PV} (hRf : 5 < R.frames) (hRl : (st.map catP).sum + 82 ≤ R.locals) (hc : k + 1 ≤ R.cells) (hs : n + 6 ≤ R.slots) (hx : ∀ n', sN σ ≤ n' → QX "java/lang/IllegalArgumentException" (nX σ n')) : Aw Ω M_Dw_checkLine R (MF Ω R QR QX) k n 7 L st σ := Aw.throwSW (text := "this is no line") rfl (by decide +kernel) exn_f cl_Dw_241 exi_IllegalArgumentException (List.mem_of_getElem? (i := 636) (by decide +kernel)) exa_Dw_245 exg_Dw_245 d_Dw_checkLine_7 d_Dw_checkLine_10 d_Dw_checkLine_11 d_Dw_checkLine_14 d_Dw_checkLine_17 hRf hRl hc hs hx
theorem r_Dw_checkLine_18 {Ω : Om} {R : Room} {k n : Nat} {L : List PV} {σ : Sto} {QR : Option PV → Sto → Prop} {QX : String → Sto → Prop} (h : QR none σ) (h1 : k ≤ R.cells) (h2 : n ≤ R.slots) : Aw Ω M_Dw_checkLine R (MF Ω R QR QX) k n 18 L [] σ := Aw.vret rfl h h1 h2 d_Dw_checkLine_18
theorem e_Dw_checkNotLanded {Ω : Om} {R : Room} {QR : Option PV → Sto → Prop} {QX : String → Sto → Prop} {σ : Sto} {a0 : Nat} {a1 : Nat} (h : Aw Ω M_Dw_checkNotLanded R (MF Ω R QR QX) 0 0 0 [xr (some a0), xr (some a1)] [] σ) : MC Ω M_Dw_checkNotLanded R QR QX σ [xr (some a0), xr (some a1)] := MC.body (by decide +kernel) rfl (Nat.le_of_ble_eq_true rfl) rfl h
theorem b_Dw_checkNotLanded_0 {Ω : Om} {R : Room} {F : QF} {k n : Nat} {σ : Sto} {a0 : Nat} {a1 : Nat} (h : sK σ a1 = 9 ∧ (Q32 (fI σ 515 a1) → (((fI σ 515 a1) = (0 : Int) → Aw Ω M_Dw_checkNotLanded R F k n 18 [xr (some a0), xr (some a1)] [] σ) ∧ (¬ (fI σ 515 a1) = (0 : Int) → Aw Ω M_Dw_checkNotLanded R F k n 7 [xr (some a0), xr (some a1)] [] σ)))) : Aw Ω M_Dw_checkNotLanded R F k n 0 [xr (some a0), xr (some a1)] [] σ := by
  refine Aw.aload_n rfl d_Dw_checkNotLanded_0 ?_
  obtain ⟨o1, h⟩ := h
  refine Aw.getI (f := 515) 8 3 fl_Dw_365 (by decide) (by decide) rfl rfl o1 d_Dw_checkNotLanded_1 (fun r2 => ?_)
  have h := h r2
  obtain ⟨ht, hf⟩ := h
  refine Aw.if_eq (tgt := 18) r2 (by decide) d_Dw_checkNotLanded_4 (fun c3 => ?_) (fun c3 => ?_)
  · have h := ht c3
    exact h
  · have h := hf c3
    exact h
theorem t_Dw_checkNotLanded_7 {Ω : Om} {R : Room} {k n : Nat} {L : List PV} {σ : Sto} {QR : Option PV → Sto → Prop} {QX : String → Sto → Prop} {st : List PV} (hRf : 5 < R.frames) (hRl : (st.map catP).sum + 82 ≤ R.locals) (hc : k + 1 ≤ R.cells) (hs : n + 6 ≤ R.slots) (hx : ∀ n', sN σ ≤ n' → QX "java/lang/IllegalStateException" (nX σ n')) : Aw Ω M_Dw_checkNotLanded R (MF Ω R QR QX) k n 7 L st σ := Aw.throwSW (text := "the review is LANDED") rfl (by decide +kernel) exn_f cl_Dw_132 exi_IllegalStateException (List.mem_of_getElem? (i := 1419) (by decide +kernel)) exa_Dw_136 exg_Dw_136 d_Dw_checkNotLanded_7 d_Dw_checkNotLanded_10 d_Dw_checkNotLanded_11 d_Dw_checkNotLanded_14 d_Dw_checkNotLanded_17 hRf hRl hc hs hx
theorem r_Dw_checkNotLanded_18 {Ω : Om} {R : Room} {k n : Nat} {L : List PV} {σ : Sto} {QR : Option PV → Sto → Prop} {QX : String → Sto → Prop} (h : QR none σ) (h1 : k ≤ R.cells) (h2 : n ≤ R.slots) : Aw Ω M_Dw_checkNotLanded R (MF Ω R QR QX) k n 18 L [] σ := Aw.vret rfl h h1 h2 d_Dw_checkNotLanded_18
theorem e_Dw_checkPatchRoom {Ω : Om} {R : Room} {QR : Option PV → Sto → Prop} {QX : String → Sto → Prop} {σ : Sto} {a0 : Nat} (h : Aw Ω M_Dw_checkPatchRoom R (MF Ω R QR QX) 0 0 0 [xr (some a0)] [] σ) : MC Ω M_Dw_checkPatchRoom R QR QX σ [xr (some a0)] := MC.body (by decide +kernel) rfl (Nat.le_of_ble_eq_true rfl) rfl h
theorem b_Dw_checkPatchRoom_0 {Ω : Om} {R : Room} {F : QF} {k n : Nat} {σ : Sto} {a0 : Nat} (h : sK σ a0 = 1 ∧ (Q32 (fI σ 13 a0) → (((fI σ 13 a0) < (10 : Int) → Aw Ω M_Dw_checkPatchRoom R F k n 20 [xr (some a0)] [] σ) ∧ (¬ (fI σ 13 a0) < (10 : Int) → Aw Ω M_Dw_checkPatchRoom R F k n 9 [xr (some a0)] [] σ)))) : Aw Ω M_Dw_checkPatchRoom R F k n 0 [xr (some a0)] [] σ := by
  refine Aw.aload_n rfl d_Dw_checkPatchRoom_0 ?_
  obtain ⟨o1, h⟩ := h
  refine Aw.getI (f := 13) 0 13 fl_Dw_76 (by decide) (by decide) rfl rfl o1 d_Dw_checkPatchRoom_1 (fun r2 => ?_)
  have h := h r2
  refine Aw.bipush (by decide) d_Dw_checkPatchRoom_4 ?_
  obtain ⟨ht, hf⟩ := h
  refine Aw.icmp_lt (tgt := 20) r2 ⟨by decide, by decide⟩ (by decide) d_Dw_checkPatchRoom_6 (fun c3 => ?_) (fun c3 => ?_)
  · have h := ht c3
    exact h
  · have h := hf c3
    exact h
theorem t_Dw_checkPatchRoom_9 {Ω : Om} {R : Room} {k n : Nat} {L : List PV} {σ : Sto} {QR : Option PV → Sto → Prop} {QX : String → Sto → Prop} {st : List PV} (hRf : 5 < R.frames) (hRl : (st.map catP).sum + 82 ≤ R.locals) (hc : k + 1 ≤ R.cells) (hs : n + 6 ≤ R.slots) (hx : ∀ n', sN σ ≤ n' → QX "java/lang/IllegalStateException" (nX σ n')) : Aw Ω M_Dw_checkPatchRoom R (MF Ω R QR QX) k n 9 L st σ := Aw.throwSW (text := "there are 10 patches") rfl (by decide +kernel) exn_f cl_Dw_132 exi_IllegalStateException (List.mem_of_getElem? (i := 1277) (by decide +kernel)) exa_Dw_136 exg_Dw_136 d_Dw_checkPatchRoom_9 d_Dw_checkPatchRoom_12 d_Dw_checkPatchRoom_13 d_Dw_checkPatchRoom_16 d_Dw_checkPatchRoom_19 hRf hRl hc hs hx
theorem r_Dw_checkPatchRoom_20 {Ω : Om} {R : Room} {k n : Nat} {L : List PV} {σ : Sto} {QR : Option PV → Sto → Prop} {QX : String → Sto → Prop} (h : QR none σ) (h1 : k ≤ R.cells) (h2 : n ≤ R.slots) : Aw Ω M_Dw_checkPatchRoom R (MF Ω R QR QX) k n 20 L [] σ := Aw.vret rfl h h1 h2 d_Dw_checkPatchRoom_20
theorem e_Dw_checkPerson {Ω : Om} {R : Room} {QR : Option PV → Sto → Prop} {QX : String → Sto → Prop} {σ : Sto} {a0 : Nat} {v1 : Int} (h : Aw Ω M_Dw_checkPerson R (MF Ω R QR QX) 0 0 0 [xr (some a0), xi v1] [] σ) : MC Ω M_Dw_checkPerson R QR QX σ [xr (some a0), xi v1] := MC.body (by decide +kernel) rfl (Nat.le_of_ble_eq_true rfl) rfl h
theorem b_Dw_checkPerson_0 {Ω : Om} {R : Room} {F : QF} {k n : Nat} {σ : Sto} {a0 : Nat} {v1 : Int} (h : Q32 v1 ∧ ((v1 < (0 : Int) → Aw Ω M_Dw_checkPerson R F k n 10 [xr (some a0), xi v1] [] σ) ∧ (¬ v1 < (0 : Int) → ((v1 < (6 : Int) → Aw Ω M_Dw_checkPerson R F k n 21 [xr (some a0), xi v1] [] σ) ∧ (¬ v1 < (6 : Int) → Aw Ω M_Dw_checkPerson R F k n 10 [xr (some a0), xi v1] [] σ))))) : Aw Ω M_Dw_checkPerson R F k n 0 [xr (some a0), xi v1] [] σ := by
  refine Aw.iload_n rfl d_Dw_checkPerson_0 ?_
  obtain ⟨o1, h⟩ := h
  obtain ⟨ht, hf⟩ := h
  refine Aw.if_lt (tgt := 10) o1 (by decide) d_Dw_checkPerson_1 (fun c3 => ?_) (fun c3 => ?_)
  · have h := ht c3
    exact h
  · have h := hf c3
    refine Aw.iload_n rfl d_Dw_checkPerson_4 ?_
    refine Aw.bipush (by decide) d_Dw_checkPerson_5 ?_
    obtain ⟨ht, hf⟩ := h
    refine Aw.icmp_lt (tgt := 21) o1 ⟨by decide, by decide⟩ (by decide) d_Dw_checkPerson_7 (fun c2 => ?_) (fun c2 => ?_)
    · have h := ht c2
      exact h
    · have h := hf c2
      exact h
theorem t_Dw_checkPerson_10 {Ω : Om} {R : Room} {k n : Nat} {L : List PV} {σ : Sto} {QR : Option PV → Sto → Prop} {QX : String → Sto → Prop} {st : List PV} (hRf : 5 < R.frames) (hRl : (st.map catP).sum + 82 ≤ R.locals) (hc : k + 1 ≤ R.cells) (hs : n + 6 ≤ R.slots) (hx : ∀ n', sN σ ≤ n' → QX "java/lang/IndexOutOfBoundsException" (nX σ n')) : Aw Ω M_Dw_checkPerson R (MF Ω R QR QX) k n 10 L st σ := Aw.throwSW (text := "there is no such person") rfl (by decide +kernel) exn_f cl_Dw_294 exi_IndexOutOfBoundsException (List.mem_of_getElem? (i := 575) (by decide +kernel)) exa_Dw_298 exg_Dw_298 d_Dw_checkPerson_10 d_Dw_checkPerson_13 d_Dw_checkPerson_14 d_Dw_checkPerson_17 d_Dw_checkPerson_20 hRf hRl hc hs hx
theorem r_Dw_checkPerson_21 {Ω : Om} {R : Room} {k n : Nat} {L : List PV} {σ : Sto} {QR : Option PV → Sto → Prop} {QX : String → Sto → Prop} (h : QR none σ) (h1 : k ≤ R.cells) (h2 : n ≤ R.slots) : Aw Ω M_Dw_checkPerson R (MF Ω R QR QX) k n 21 L [] σ := Aw.vret rfl h h1 h2 d_Dw_checkPerson_21
theorem e_Dw_checkPlace {Ω : Om} {R : Room} {QR : Option PV → Sto → Prop} {QX : String → Sto → Prop} {σ : Sto} {a0 : Nat} {v1 : Int} {v2 : Int} (h : Aw Ω M_Dw_checkPlace R (MF Ω R QR QX) 0 0 0 [xr (some a0), xi v1, xi v2] [] σ) : MC Ω M_Dw_checkPlace R QR QX σ [xr (some a0), xi v1, xi v2] := MC.body (by decide +kernel) rfl (Nat.le_of_ble_eq_true rfl) rfl h
theorem b_Dw_checkPlace_0 {Ω : Om} {R : Room} {F : QF} {k n : Nat} {σ : Sto} {a0 : Nat} {v1 : Int} {v2 : Int} (h : Q32 v1 ∧ ((v1 < (0 : Int) → Aw Ω M_Dw_checkPlace R F k n 9 [xr (some a0), xi v1, xi v2] [] σ) ∧ (¬ v1 < (0 : Int) → Q32 v2 ∧ ((v1 < v2 → Aw Ω M_Dw_checkPlace R F k n 20 [xr (some a0), xi v1, xi v2] [] σ) ∧ (¬ v1 < v2 → Aw Ω M_Dw_checkPlace R F k n 9 [xr (some a0), xi v1, xi v2] [] σ))))) : Aw Ω M_Dw_checkPlace R F k n 0 [xr (some a0), xi v1, xi v2] [] σ := by
  refine Aw.iload_n rfl d_Dw_checkPlace_0 ?_
  obtain ⟨o1, h⟩ := h
  obtain ⟨ht, hf⟩ := h
  refine Aw.if_lt (tgt := 9) o1 (by decide) d_Dw_checkPlace_1 (fun c4 => ?_) (fun c4 => ?_)
  · have h := ht c4
    exact h
  · have h := hf c4
    refine Aw.iload_n rfl d_Dw_checkPlace_4 ?_
    refine Aw.iload_n rfl d_Dw_checkPlace_5 ?_
    obtain ⟨o2, h⟩ := h
    obtain ⟨ht, hf⟩ := h
    refine Aw.icmp_lt (tgt := 20) o1 o2 (by decide) d_Dw_checkPlace_6 (fun c3 => ?_) (fun c3 => ?_)
    · have h := ht c3
      exact h
    · have h := hf c3
      exact h
theorem t_Dw_checkPlace_9 {Ω : Om} {R : Room} {k n : Nat} {L : List PV} {σ : Sto} {QR : Option PV → Sto → Prop} {QX : String → Sto → Prop} {st : List PV} (hRf : 5 < R.frames) (hRl : (st.map catP).sum + 82 ≤ R.locals) (hc : k + 1 ≤ R.cells) (hs : n + 6 ≤ R.slots) (hx : ∀ n', sN σ ≤ n' → QX "java/lang/IndexOutOfBoundsException" (nX σ n')) : Aw Ω M_Dw_checkPlace R (MF Ω R QR QX) k n 9 L st σ := Aw.throwSW (text := "there is no such line") rfl (by decide +kernel) exn_f cl_Dw_294 exi_IndexOutOfBoundsException (List.mem_of_getElem? (i := 616) (by decide +kernel)) exa_Dw_298 exg_Dw_298 d_Dw_checkPlace_9 d_Dw_checkPlace_12 d_Dw_checkPlace_13 d_Dw_checkPlace_16 d_Dw_checkPlace_19 hRf hRl hc hs hx
theorem r_Dw_checkPlace_20 {Ω : Om} {R : Room} {k n : Nat} {L : List PV} {σ : Sto} {QR : Option PV → Sto → Prop} {QX : String → Sto → Prop} (h : QR none σ) (h1 : k ≤ R.cells) (h2 : n ≤ R.slots) : Aw Ω M_Dw_checkPlace R (MF Ω R QR QX) k n 20 L [] σ := Aw.vret rfl h h1 h2 d_Dw_checkPlace_20
theorem e_Dw_checkUses {Ω : Om} {R : Room} {QR : Option PV → Sto → Prop} {QX : String → Sto → Prop} {σ : Sto} {a0 : Nat} (h : Aw Ω M_Dw_checkUses R (MF Ω R QR QX) 0 0 0 [xr (some a0)] [] σ) : MC Ω M_Dw_checkUses R QR QX σ [xr (some a0)] := MC.body (by decide +kernel) rfl (Nat.le_of_ble_eq_true rfl) rfl h
theorem b_Dw_checkUses_0 {Ω : Om} {R : Room} {F : QF} {k n : Nat} {σ : Sto} {a0 : Nat} (h : sK σ a0 = 1 ∧ (Q32 (fI σ 16 a0) → (((fI σ 16 a0) < (512 : Int) → Aw Ω M_Dw_checkUses R F k n 21 [xr (some a0)] [] σ) ∧ (¬ (fI σ 16 a0) < (512 : Int) → Aw Ω M_Dw_checkUses R F k n 10 [xr (some a0)] [] σ)))) : Aw Ω M_Dw_checkUses R F k n 0 [xr (some a0)] [] σ := by
  refine Aw.aload_n rfl d_Dw_checkUses_0 ?_
  obtain ⟨o1, h⟩ := h
  refine Aw.getI (f := 16) 0 16 fl_Dw_85 (by decide) (by decide) rfl rfl o1 d_Dw_checkUses_1 (fun r2 => ?_)
  have h := h r2
  refine Aw.sipush (by decide) d_Dw_checkUses_4 ?_
  obtain ⟨ht, hf⟩ := h
  refine Aw.icmp_lt (tgt := 21) r2 ⟨by decide, by decide⟩ (by decide) d_Dw_checkUses_7 (fun c3 => ?_) (fun c3 => ?_)
  · have h := ht c3
    exact h
  · have h := hf c3
    exact h
theorem t_Dw_checkUses_10 {Ω : Om} {R : Room} {k n : Nat} {L : List PV} {σ : Sto} {QR : Option PV → Sto → Prop} {QX : String → Sto → Prop} {st : List PV} (hRf : 5 < R.frames) (hRl : (st.map catP).sum + 82 ≤ R.locals) (hc : k + 1 ≤ R.cells) (hs : n + 6 ≤ R.slots) (hx : ∀ n', sN σ ≤ n' → QX "java/lang/IllegalStateException" (nX σ n')) : Aw Ω M_Dw_checkUses R (MF Ω R QR QX) k n 10 L st σ := Aw.throwSW (text := "the object is used up") rfl (by decide +kernel) exn_f cl_Dw_132 exi_IllegalStateException (List.mem_of_getElem? (i := 672) (by decide +kernel)) exa_Dw_136 exg_Dw_136 d_Dw_checkUses_10 d_Dw_checkUses_13 d_Dw_checkUses_14 d_Dw_checkUses_17 d_Dw_checkUses_20 hRf hRl hc hs hx
theorem r_Dw_checkUses_21 {Ω : Om} {R : Room} {k n : Nat} {L : List PV} {σ : Sto} {QR : Option PV → Sto → Prop} {QX : String → Sto → Prop} (h : QR none σ) (h1 : k ≤ R.cells) (h2 : n ≤ R.slots) : Aw Ω M_Dw_checkUses R (MF Ω R QR QX) k n 21 L [] σ := Aw.vret rfl h h1 h2 d_Dw_checkUses_21
theorem e_Dw_checkWhole {Ω : Om} {R : Room} {QR : Option PV → Sto → Prop} {QX : String → Sto → Prop} {σ : Sto} {a0 : Nat} (h : Aw Ω M_Dw_checkWhole R (MF Ω R QR QX) 0 0 0 [xr (some a0)] [] σ) : MC Ω M_Dw_checkWhole R QR QX σ [xr (some a0)] := MC.body (by decide +kernel) rfl (Nat.le_of_ble_eq_true rfl) rfl h
theorem b_Dw_checkWhole_0 {Ω : Om} {R : Room} {F : QF} {k n : Nat} {σ : Sto} {a0 : Nat} (h : sK σ a0 = 1 ∧ (Q32 (fI σ 10 a0) → ((¬ (fI σ 10 a0) = (0 : Int) → (∃ b3 : Nat, fR σ 8 a0 = some b3 ∧ Aw Ω M_Dw_checkWhole R F k n 22 [xr (some a0)] [xr (some b3)] σ)) ∧ ((fI σ 10 a0) = (0 : Int) → Aw Ω M_Dw_checkWhole R F k n 7 [xr (some a0)] [] σ)))) : Aw Ω M_Dw_checkWhole R F k n 0 [xr (some a0)] [] σ := by
  refine Aw.aload_n rfl d_Dw_checkWhole_0 ?_
  obtain ⟨o1, h⟩ := h
  refine Aw.getI (f := 10) 0 10 fl_Dw_65 (by decide) (by decide) rfl rfl o1 d_Dw_checkWhole_1 (fun r2 => ?_)
  have h := h r2
  obtain ⟨ht, hf⟩ := h
  refine Aw.if_ne (tgt := 18) r2 (by decide) d_Dw_checkWhole_4 (fun c5 => ?_) (fun c5 => ?_)
  · have h := ht c5
    refine Aw.aload_n rfl d_Dw_checkWhole_18 ?_
    obtain ⟨b3, e4, h⟩ := h
    refine Aw.getRs (f := 8) 0 8 fl_Dw_58 (by decide) (by decide) rfl rfl o1 e4 d_Dw_checkWhole_19 ?_
    exact h
  · have h := hf c5
    exact h
theorem b_Dw_checkWhole_25 {Ω : Om} {R : Room} {F : QF} {k n : Nat} {σ : Sto} {a0 : Nat} {s0 : Int} (h : Q32 s0 ∧ ((s0 ≤ (0 : Int) → Aw Ω M_Dw_checkWhole R F k n 39 [xr (some a0)] [] σ) ∧ (¬ s0 ≤ (0 : Int) → Aw Ω M_Dw_checkWhole R F k n 28 [xr (some a0)] [] σ))) : Aw Ω M_Dw_checkWhole R F k n 25 [xr (some a0)] [xi s0] σ := by
  obtain ⟨o1, h⟩ := h
  obtain ⟨ht, hf⟩ := h
  refine Aw.if_le (tgt := 39) o1 (by decide) d_Dw_checkWhole_25 (fun c2 => ?_) (fun c2 => ?_)
  · have h := ht c2
    exact h
  · have h := hf c2
    exact h
theorem t_Dw_checkWhole_7 {Ω : Om} {R : Room} {k n : Nat} {L : List PV} {σ : Sto} {QR : Option PV → Sto → Prop} {QX : String → Sto → Prop} {st : List PV} (hRf : 5 < R.frames) (hRl : (st.map catP).sum + 82 ≤ R.locals) (hc : k + 1 ≤ R.cells) (hs : n + 6 ≤ R.slots) (hx : ∀ n', sN σ ≤ n' → QX "java/lang/IllegalStateException" (nX σ n')) : Aw Ω M_Dw_checkWhole R (MF Ω R QR QX) k n 7 L st σ := Aw.throwSW (text := "there is no draft") rfl (by decide +kernel) exn_f cl_Dw_132 exi_IllegalStateException (List.mem_of_getElem? (i := 660) (by decide +kernel)) exa_Dw_136 exg_Dw_136 d_Dw_checkWhole_7 d_Dw_checkWhole_10 d_Dw_checkWhole_11 d_Dw_checkWhole_14 d_Dw_checkWhole_17 hRf hRl hc hs hx
theorem c_Dw_checkWhole_22 {Ω : Om} {R R' : Room} {F : QF} {k n : Nat} {L st : List PV} {σ : Sto} {QX' : String → Sto → Prop} {Q : Int → Sto → Prop} {a : Nat} (hc : MC Ω M_Drf_unsettled R' (RI Q) QX' σ [xr (some a)]) (hk : sK σ a = 4) (hr1 : R'.frames + 1 ≤ R.frames) (hr2 : 8 + (1 + 11) + R'.locals ≤ R.locals) (hb1 : k + R'.cells ≤ R.cells) (hb2 : n + R'.slots ≤ R.slots) (hst : (st.map catP).sum ≤ 8) (kk : ∀ x σ', Q x σ' → Aw Ω M_Dw_checkWhole R F (k + R'.cells) (n + R'.slots) 25 L (xi x :: st) σ') (kx : ∀ E σ', QX' E σ' → Ax Ω M_Dw_checkWhole R F (k + R'.cells) (n + R'.slots) 22 L st σ' E) : Aw Ω M_Dw_checkWhole R F k n 22 L (xr (some a) :: st) σ :=
  Aw.callV (As := []) (stk := xr (some a) :: st) (nn := 0) 3 M_Drf_unsettled hc ok_Drf_unsettled rfl (by decide) rfl hk ml_Dw_252 im_Drf_unsettled se_Drf_unsettled ⟨hr1, hr2⟩ rfl ⟨hb1, hb2⟩ hst rfl d_Dw_checkWhole_22 (fun r σ' h => by obtain ⟨x, rfl, h⟩ := h; exact kk x σ' h) kx
theorem t_Dw_checkWhole_28 {Ω : Om} {R : Room} {k n : Nat} {L : List PV} {σ : Sto} {QR : Option PV → Sto → Prop} {QX : String → Sto → Prop} {st : List PV} (hRf : 5 < R.frames) (hRl : (st.map catP).sum + 82 ≤ R.locals) (hc : k + 1 ≤ R.cells) (hs : n + 6 ≤ R.slots) (hx : ∀ n', sN σ ≤ n' → QX "java/lang/IllegalStateException" (nX σ n')) : Aw Ω M_Dw_checkWhole R (MF Ω R QR QX) k n 28 L st σ := Aw.throwSW (text := "a conflict is not settled") rfl (by decide +kernel) exn_f cl_Dw_132 exi_IllegalStateException (List.mem_of_getElem? (i := 667) (by decide +kernel)) exa_Dw_136 exg_Dw_136 d_Dw_checkWhole_28 d_Dw_checkWhole_31 d_Dw_checkWhole_32 d_Dw_checkWhole_35 d_Dw_checkWhole_38 hRf hRl hc hs hx
theorem r_Dw_checkWhole_39 {Ω : Om} {R : Room} {k n : Nat} {L : List PV} {σ : Sto} {QR : Option PV → Sto → Prop} {QX : String → Sto → Prop} (h : QR none σ) (h1 : k ≤ R.cells) (h2 : n ≤ R.slots) : Aw Ω M_Dw_checkWhole R (MF Ω R QR QX) k n 39 L [] σ := Aw.vret rfl h h1 h2 d_Dw_checkWhole_39
theorem e_Dw_commit {Ω : Om} {R : Room} {QR : Option PV → Sto → Prop} {QX : String → Sto → Prop} {σ : Sto} {a0 : Nat} (h : Aw Ω M_Dw_commit R (MF Ω R QR QX) 0 0 0 [xr (some a0), xu, xu] [] σ) : MC Ω M_Dw_commit R QR QX σ [xr (some a0)] := MC.body (by decide +kernel) rfl (Nat.le_of_ble_eq_true rfl) rfl h
theorem b_Dw_commit_0 {Ω : Om} {R : Room} {F : QF} {k n : Nat} {σ : Sto} {a0 : Nat} (h : Aw Ω M_Dw_commit R F k n 1 [xr (some a0), xu, xu] [xr (some a0)] σ) : Aw Ω M_Dw_commit R F k n 0 [xr (some a0), xu, xu] [] σ := by
  refine Aw.aload_n rfl d_Dw_commit_0 ?_
  exact h
theorem b_Dw_commit_4 {Ω : Om} {R : Room} {F : QF} {k n : Nat} {σ : Sto} {a0 : Nat} (h : sK σ a0 = 1 ∧ (Q32 (fI σ 12 a0) → (((fI σ 12 a0) < (40 : Int) → (Q32 (fI σ 12 a0) → (∃ b4 : Nat, fR σ 0 a0 = some b4 ∧ sK σ b4 = 55 ∧ 0 ≤ (fI σ 12 a0) ∧ (fI σ 12 a0) < sZ σ b4 ∧ (∃ b9 : Nat, fR σ 8 a0 = some b9 ∧ Aw Ω M_Dw_commit R F k n 40 [xr (some a0), xi (fI σ 12 a0), xr (aR σ b4 (fI σ 12 a0).toNat)] [xr (some b9), xr (aR σ b4 (fI σ 12 a0).toNat)] σ)))) ∧ (¬ (fI σ 12 a0) < (40 : Int) → Aw Ω M_Dw_commit R F k n 13 [xr (some a0), xu, xu] [] σ)))) : Aw Ω M_Dw_commit R F k n 4 [xr (some a0), xu, xu] [] σ := by
  refine Aw.aload_n rfl d_Dw_commit_4 ?_
  obtain ⟨o1, h⟩ := h
  refine Aw.getI (f := 12) 0 12 fl_Dw_72 (by decide) (by decide) rfl rfl o1 d_Dw_commit_5 (fun r2 => ?_)
  have h := h r2
  refine Aw.bipush (by decide) d_Dw_commit_8 ?_
  obtain ⟨ht, hf⟩ := h
  refine Aw.icmp_lt (tgt := 23) r2 ⟨by decide, by decide⟩ (by decide) d_Dw_commit_10 (fun c11 => ?_) (fun c11 => ?_)
  · have h := ht c11
    refine Aw.aload_n rfl d_Dw_commit_23 ?_
    refine Aw.getI (f := 12) 0 12 fl_Dw_72 (by decide) (by decide) rfl rfl o1 d_Dw_commit_24 (fun r3 => ?_)
    have h := h r3
    refine Aw.istore_n (by decide) d_Dw_commit_27 ?_
    refine Aw.toL (L' := [xr (some a0), xi (fI σ 12 a0), xu]) rfl ?_
    refine Aw.aload_n rfl d_Dw_commit_28 ?_
    obtain ⟨b4, e5, h⟩ := h
    refine Aw.getRs (f := 0) 0 0 fl_Dw_11 (by decide) (by decide) rfl rfl o1 e5 d_Dw_commit_29 ?_
    refine Aw.iload_n rfl d_Dw_commit_32 ?_
    obtain ⟨o6, h⟩ := h
    obtain ⟨o7, o8, h⟩ := h
    refine Aw.aald 5 (by decide) (by decide) o6 o7 o8 d_Dw_commit_33 ?_
    refine Aw.astore_n (by decide) d_Dw_commit_34 ?_
    refine Aw.toL (L' := [xr (some a0), xi (fI σ 12 a0), xr (aR σ b4 (fI σ 12 a0).toNat)]) rfl ?_
    refine Aw.aload_n rfl d_Dw_commit_35 ?_
    refine Aw.aload_n rfl d_Dw_commit_36 ?_
    obtain ⟨b9, e10, h⟩ := h
    refine Aw.getRs (f := 8) 0 8 fl_Dw_58 (by decide) (by decide) rfl rfl o1 e10 d_Dw_commit_37 ?_
    exact h
  · have h := hf c11
    exact h
theorem b_Dw_commit_43 {Ω : Om} {R : Room} {F : QF} {k n : Nat} {σ : Sto} {a0 : Nat} {v1 : Int} {a2 : Nat} (h : sK σ a0 = 1 ∧ (∃ b2 : Nat, fR σ 8 a0 = some b2 ∧ sK σ b2 = 4 ∧ (Q32 (fI σ 204 b2) → Aw Ω M_Dw_commit R F k n 52 [xr (some a0), xi v1, xr (some a2)] [xi (fI σ 204 b2), xr (some a0), xr (some a2)] σ))) : Aw Ω M_Dw_commit R F k n 43 [xr (some a0), xi v1, xr (some a2)] [] σ := by
  refine Aw.aload_n rfl d_Dw_commit_43 ?_
  refine Aw.aload_n rfl d_Dw_commit_44 ?_
  refine Aw.aload_n rfl d_Dw_commit_45 ?_
  obtain ⟨o1, h⟩ := h
  obtain ⟨b2, e3, h⟩ := h
  refine Aw.getRs (f := 8) 0 8 fl_Dw_58 (by decide) (by decide) rfl rfl o1 e3 d_Dw_commit_46 ?_
  obtain ⟨o4, h⟩ := h
  refine Aw.getI (f := 204) 3 12 fl_Dw_186 (by decide) (by decide) rfl rfl o4 d_Dw_commit_49 (fun r5 => ?_)
  have h := h r5
  exact h
theorem b_Dw_commit_55 {Ω : Om} {R : Room} {F : QF} {k n : Nat} {σ : Sto} {a0 : Nat} {v1 : Int} {a2 : Nat} {s0 : Nat} {s1 : Int64} (h : sK σ a0 = 1 ∧ (∃ b2 : Nat, fR σ 8 a0 = some b2 ∧ sK σ b2 = 4 ∧ (Q32 (fI σ 205 b2) → Aw Ω M_Dw_commit R F k n 63 [xr (some a0), xi v1, xr (some a2)] [xi (fI σ 205 b2), xr (some a0), xl s1, xr (some s0)] σ))) : Aw Ω M_Dw_commit R F k n 55 [xr (some a0), xi v1, xr (some a2)] [xl s1, xr (some s0)] σ := by
  refine Aw.aload_n rfl d_Dw_commit_55 ?_
  refine Aw.aload_n rfl d_Dw_commit_56 ?_
  obtain ⟨o1, h⟩ := h
  obtain ⟨b2, e3, h⟩ := h
  refine Aw.getRs (f := 8) 0 8 fl_Dw_58 (by decide) (by decide) rfl rfl o1 e3 d_Dw_commit_57 ?_
  obtain ⟨o4, h⟩ := h
  refine Aw.getI (f := 205) 3 13 fl_Dw_192 (by decide) (by decide) rfl rfl o4 d_Dw_commit_60 (fun r5 => ?_)
  have h := h r5
  exact h
theorem b_Dw_commit_66 {Ω : Om} {R : Room} {F : QF} {k n : Nat} {σ : Sto} {a0 : Nat} {v1 : Int} {a2 : Nat} {s0 : Nat} {s1 : Int64} {s2 : Int64} (h : sK σ s0 = 12 ∧ sK σ a0 = 1 ∧ (Q32 (fI σ 12 a0) → Q32 ((fI σ 12 a0) + 1) ∧ Aw Ω M_Dw_commit R F k n 86 [xr (some a0), xi v1, xr (some a2)] [xi v1] (uI (uI (uL σ 710 s0 (s1 ||| s2)) 12 a0 ((fI σ 12 a0) + 1)) 10 a0 0))) : Aw Ω M_Dw_commit R F k n 66 [xr (some a0), xi v1, xr (some a2)] [xl s2, xl s1, xr (some s0)] σ := by
  refine Aw.lor d_Dw_commit_66 ?_
  obtain ⟨o1, h⟩ := h
  refine Aw.putL (f := 710) 11 6 fl_Dw_195 (by decide) (by decide) rfl rfl o1 rfl rfl d_Dw_commit_67 ?_
  refine Aw.aload_n rfl d_Dw_commit_70 ?_
  refine Aw.dup rfl d_Dw_commit_71 ?_
  obtain ⟨o2, h⟩ := h
  refine Aw.getI (f := 12) 0 12 fl_Dw_72 (by decide) (by decide) rfl rfl o2 d_Dw_commit_72 (fun r3 => ?_)
  have h := h r3
  refine Aw.iconst d_Dw_commit_75 ?_
  refine Aw.iadd d_Dw_commit_76 ?_
  obtain ⟨o4, h⟩ := h
  refine Aw.putI (f := 12) 0 12 fl_Dw_72 (by decide) (by decide) rfl rfl o2 rfl o4 (Or.inl rfl) d_Dw_commit_77 ?_
  refine Aw.aload_n rfl d_Dw_commit_80 ?_
  refine Aw.iconst d_Dw_commit_81 ?_
  refine Aw.putI (f := 10) 0 10 fl_Dw_65 (by decide) (by decide) rfl rfl o2 rfl ⟨by decide, by decide⟩ (Or.inr ⟨rfl, by decide⟩) d_Dw_commit_82 ?_
  refine Aw.iload_n rfl d_Dw_commit_85 ?_
  exact h
theorem c_Dw_commit_1 {Ω : Om} {R R' : Room} {F : QF} {k n : Nat} {L st : List PV} {σ : Sto} {QX' : String → Sto → Prop} {Q : Sto → Prop} {a : Nat} (hc : MC Ω M_Dw_checkWhole R' (RV Q) QX' σ [xr (some a)]) (hk : sK σ a = 1) (hr1 : R'.frames + 1 ≤ R.frames) (hr2 : 8 + (1 + 11) + R'.locals ≤ R.locals) (hb1 : k + R'.cells ≤ R.cells) (hb2 : n + R'.slots ≤ R.slots) (hst : (st.map catP).sum ≤ 8) (kk : ∀ σ', Q σ' → Aw Ω M_Dw_commit R F (k + R'.cells) (n + R'.slots) 4 L st σ') (kx : ∀ E σ', QX' E σ' → Ax Ω M_Dw_commit R F (k + R'.cells) (n + R'.slots) 1 L st σ' E) : Aw Ω M_Dw_commit R F k n 1 L (xr (some a) :: st) σ :=
  Aw.callV (As := []) (stk := xr (some a) :: st) (nn := 0) 0 M_Dw_checkWhole hc ok_Dw_checkWhole rfl (by decide) rfl hk ml_Dw_168 im_Dw_checkWhole se_Dw_checkWhole ⟨hr1, hr2⟩ rfl ⟨hb1, hb2⟩ hst rfl d_Dw_commit_1 (fun r σ' h => by obtain ⟨rfl, h⟩ := h; exact kk σ' h) kx
theorem t_Dw_commit_13 {Ω : Om} {R : Room} {k n : Nat} {L : List PV} {σ : Sto} {QR : Option PV → Sto → Prop} {QX : String → Sto → Prop} {st : List PV} (hRf : 5 < R.frames) (hRl : (st.map catP).sum + 82 ≤ R.locals) (hc : k + 1 ≤ R.cells) (hs : n + 6 ≤ R.slots) (hx : ∀ n', sN σ ≤ n' → QX "java/lang/IllegalStateException" (nX σ n')) : Aw Ω M_Dw_commit R (MF Ω R QR QX) k n 13 L st σ := Aw.throwS (text := "there are 40 versions") rfl (by decide +kernel) exn_f cl_Dw_132 exi_IllegalStateException (List.mem_of_getElem? (i := 985) (by decide +kernel)) exa_Dw_136 exg_Dw_136 d_Dw_commit_13 d_Dw_commit_16 d_Dw_commit_17 d_Dw_commit_19 d_Dw_commit_22 hRf hRl hc hs hx
theorem c_Dw_commit_40 {Ω : Om} {R R' : Room} {F : QF} {k n : Nat} {L st : List PV} {σ : Sto} {QX' : String → Sto → Prop} {Q : Sto → Prop} {a : Nat} {x0 : Option Nat} (hc : MC Ω M_Ver_keep R' (RV Q) QX' σ [xr (some a), xr x0]) (hk : sK σ a = 12) (hr1 : R'.frames + 1 ≤ R.frames) (hr2 : 8 + (3 + 11) + R'.locals ≤ R.locals) (hb1 : k + R'.cells ≤ R.cells) (hb2 : n + R'.slots ≤ R.slots) (hst : (st.map catP).sum ≤ 8) (kk : ∀ σ', Q σ' → Aw Ω M_Dw_commit R F (k + R'.cells) (n + R'.slots) 43 L st σ') (kx : ∀ E σ', QX' E σ' → Ax Ω M_Dw_commit R F (k + R'.cells) (n + R'.slots) 40 L st σ' E) : Aw Ω M_Dw_commit R F k n 40 L (xr x0 :: xr (some a) :: st) σ :=
  Aw.callV (As := [xr x0]) (stk := xr x0 :: xr (some a) :: st) (nn := 1) 11 M_Ver_keep hc ok_Ver_keep rfl (by decide) rfl hk ml_Dw_182 im_Ver_keep se_Ver_keep ⟨hr1, hr2⟩ rfl ⟨hb1, hb2⟩ hst rfl d_Dw_commit_40 (fun r σ' h => by obtain ⟨rfl, h⟩ := h; exact kk σ' h) kx
theorem c_Dw_commit_52 {Ω : Om} {R R' : Room} {F : QF} {k n : Nat} {L st : List PV} {σ : Sto} {QX' : String → Sto → Prop} {Q : Int64 → Sto → Prop} {a : Nat} {x0 : Int} (hc : MC Ω M_Dw_belowOf R' (RL Q) QX' σ [xr (some a), xi x0]) (hk : sK σ a = 1) (hr1 : R'.frames + 1 ≤ R.frames) (hr2 : 8 + (2 + 11) + R'.locals ≤ R.locals) (hb1 : k + R'.cells ≤ R.cells) (hb2 : n + R'.slots ≤ R.slots) (hst : (st.map catP).sum ≤ 8) (kk : ∀ x σ', Q x σ' → Aw Ω M_Dw_commit R F (k + R'.cells) (n + R'.slots) 55 L (xl x :: st) σ') (kx : ∀ E σ', QX' E σ' → Ax Ω M_Dw_commit R F (k + R'.cells) (n + R'.slots) 52 L st σ' E) : Aw Ω M_Dw_commit R F k n 52 L (xi x0 :: xr (some a) :: st) σ :=
  Aw.callV (As := [xi x0]) (stk := xi x0 :: xr (some a) :: st) (nn := 1) 0 M_Dw_belowOf hc ok_Dw_belowOf rfl (by decide) rfl hk ml_Dw_189 im_Dw_belowOf se_Dw_belowOf ⟨hr1, hr2⟩ rfl ⟨hb1, hb2⟩ hst rfl d_Dw_commit_52 (fun r σ' h => by obtain ⟨x, rfl, h⟩ := h; exact kk x σ' h) kx
theorem c_Dw_commit_63 {Ω : Om} {R R' : Room} {F : QF} {k n : Nat} {L st : List PV} {σ : Sto} {QX' : String → Sto → Prop} {Q : Int64 → Sto → Prop} {a : Nat} {x0 : Int} (hc : MC Ω M_Dw_belowOf R' (RL Q) QX' σ [xr (some a), xi x0]) (hk : sK σ a = 1) (hr1 : R'.frames + 1 ≤ R.frames) (hr2 : 8 + (2 + 11) + R'.locals ≤ R.locals) (hb1 : k + R'.cells ≤ R.cells) (hb2 : n + R'.slots ≤ R.slots) (hst : (st.map catP).sum ≤ 8) (kk : ∀ x σ', Q x σ' → Aw Ω M_Dw_commit R F (k + R'.cells) (n + R'.slots) 66 L (xl x :: st) σ') (kx : ∀ E σ', QX' E σ' → Ax Ω M_Dw_commit R F (k + R'.cells) (n + R'.slots) 63 L st σ' E) : Aw Ω M_Dw_commit R F k n 63 L (xi x0 :: xr (some a) :: st) σ :=
  Aw.callV (As := [xi x0]) (stk := xi x0 :: xr (some a) :: st) (nn := 1) 0 M_Dw_belowOf hc ok_Dw_belowOf rfl (by decide) rfl hk ml_Dw_189 im_Dw_belowOf se_Dw_belowOf ⟨hr1, hr2⟩ rfl ⟨hb1, hb2⟩ hst rfl d_Dw_commit_63 (fun r σ' h => by obtain ⟨x, rfl, h⟩ := h; exact kk x σ' h) kx
theorem r_Dw_commit_86 {Ω : Om} {R : Room} {k n : Nat} {L : List PV} {σ : Sto} {QR : Option PV → Sto → Prop} {QX : String → Sto → Prop} {x : Int} (h : QR (some (xi x)) σ) (h1 : k ≤ R.cells) (h2 : n ≤ R.slots) : Aw Ω M_Dw_commit R (MF Ω R QR QX) k n 86 L [xi x] σ := Aw.iret rfl h h1 h2 d_Dw_commit_86
theorem e_Dw_compare {Ω : Om} {R : Room} {QR : Option PV → Sto → Prop} {QX : String → Sto → Prop} {σ : Sto} {a0 : Nat} {v1 : Int} {v2 : Int} {v3 : Int} (h : Aw Ω M_Dw_compare R (MF Ω R QR QX) 0 0 0 [xr (some a0), xi v1, xi v2, xi v3, xu, xu] [] σ) : MC Ω M_Dw_compare R QR QX σ [xr (some a0), xi v1, xi v2, xi v3] := MC.body (by decide +kernel) rfl (Nat.le_of_ble_eq_true rfl) rfl h
theorem b_Dw_compare_0 {Ω : Om} {R : Room} {F : QF} {k n : Nat} {σ : Sto} {a0 : Nat} {v1 : Int} {v2 : Int} {v3 : Int} (h : Aw Ω M_Dw_compare R F k n 2 [xr (some a0), xi v1, xi v2, xi v3, xu, xu] [xi v1, xr (some a0)] σ) : Aw Ω M_Dw_compare R F k n 0 [xr (some a0), xi v1, xi v2, xi v3, xu, xu] [] σ := by
  refine Aw.aload_n rfl d_Dw_compare_0 ?_
  refine Aw.iload_n rfl d_Dw_compare_1 ?_
  exact h
theorem b_Dw_compare_5 {Ω : Om} {R : Room} {F : QF} {k n : Nat} {σ : Sto} {a0 : Nat} {v1 : Int} {v2 : Int} {v3 : Int} {s0 : Nat} (h : sK σ s0 = 12 ∧ (∃ b2 : Nat, fR σ 704 s0 = some b2 ∧ Aw Ω M_Dw_compare R F k n 12 [xr (some a0), xi v1, xi v2, xi v3, xr (some b2), xu] [xi v2, xr (some a0)] σ)) : Aw Ω M_Dw_compare R F k n 5 [xr (some a0), xi v1, xi v2, xi v3, xu, xu] [xr (some s0)] σ := by
  obtain ⟨o1, h⟩ := h
  obtain ⟨b2, e3, h⟩ := h
  refine Aw.getRs (f := 704) 11 0 fl_Dw_99 (by decide) (by decide) rfl rfl o1 e3 d_Dw_compare_5 ?_
  refine Aw.astore (by decide) d_Dw_compare_8 ?_
  refine Aw.toL (L' := [xr (some a0), xi v1, xi v2, xi v3, xr (some b2), xu]) rfl ?_
  refine Aw.aload_n rfl d_Dw_compare_10 ?_
  refine Aw.iload_n rfl d_Dw_compare_11 ?_
  exact h
theorem b_Dw_compare_15 {Ω : Om} {R : Room} {F : QF} {k n : Nat} {σ : Sto} {a0 : Nat} {v1 : Int} {v2 : Int} {v3 : Int} {a4 : Nat} {s0 : Nat} (h : sK σ s0 = 12 ∧ (∃ b2 : Nat, fR σ 704 s0 = some b2 ∧ sK σ a0 = 1 ∧ (∃ b5 : Nat, fR σ 5 a0 = some b5 ∧ Aw Ω M_Dw_compare R F k n 29 [xr (some a0), xi v1, xi v2, xi v3, xr (some a4), xr (some b2)] [xi v3, xr (some b2), xr (some a4), xr (some b5)] σ))) : Aw Ω M_Dw_compare R F k n 15 [xr (some a0), xi v1, xi v2, xi v3, xr (some a4), xu] [xr (some s0)] σ := by
  obtain ⟨o1, h⟩ := h
  obtain ⟨b2, e3, h⟩ := h
  refine Aw.getRs (f := 704) 11 0 fl_Dw_99 (by decide) (by decide) rfl rfl o1 e3 d_Dw_compare_15 ?_
  refine Aw.astore (by decide) d_Dw_compare_18 ?_
  refine Aw.toL (L' := [xr (some a0), xi v1, xi v2, xi v3, xr (some a4), xr (some b2)]) rfl ?_
  refine Aw.aload_n rfl d_Dw_compare_20 ?_
  obtain ⟨o4, h⟩ := h
  obtain ⟨b5, e6, h⟩ := h
  refine Aw.getRs (f := 5) 0 5 fl_Dw_41 (by decide) (by decide) rfl rfl o4 e6 d_Dw_compare_21 ?_
  refine Aw.aload rfl d_Dw_compare_24 ?_
  refine Aw.aload rfl d_Dw_compare_26 ?_
  refine Aw.iload_n rfl d_Dw_compare_28 ?_
  exact h
theorem b_Dw_compare_32 {Ω : Om} {R : Room} {F : QF} {k n : Nat} {σ : Sto} {a0 : Nat} {v1 : Int} {v2 : Int} {v3 : Int} {a4 : Nat} {a5 : Nat} (h : sK σ a0 = 1 ∧ (∃ b2 : Nat, fR σ 5 a0 = some b2 ∧ Aw Ω M_Dw_compare R F k n 36 [xr (some a0), xi v1, xi v2, xi v3, xr (some a4), xr (some a5)] [xr (some b2)] σ)) : Aw Ω M_Dw_compare R F k n 32 [xr (some a0), xi v1, xi v2, xi v3, xr (some a4), xr (some a5)] [] σ := by
  refine Aw.aload_n rfl d_Dw_compare_32 ?_
  obtain ⟨o1, h⟩ := h
  obtain ⟨b2, e3, h⟩ := h
  refine Aw.getRs (f := 5) 0 5 fl_Dw_41 (by decide) (by decide) rfl rfl o1 e3 d_Dw_compare_33 ?_
  exact h
theorem b_Dw_compare_39 {Ω : Om} {R : Room} {F : QF} {k n : Nat} {σ : Sto} {a0 : Nat} {v1 : Int} {v2 : Int} {v3 : Int} {a4 : Nat} {a5 : Nat} (h : sK σ a0 = 1 ∧ (∃ b2 : Nat, fR σ 5 a0 = some b2 ∧ Aw Ω M_Dw_compare R F k n 48 [xr (some a0), xi v1, xi v2, xi v3, xr (some a4), xr (some a5)] [xr (some b2)] (uI σ 11 a0 1))) : Aw Ω M_Dw_compare R F k n 39 [xr (some a0), xi v1, xi v2, xi v3, xr (some a4), xr (some a5)] [] σ := by
  refine Aw.aload_n rfl d_Dw_compare_39 ?_
  refine Aw.iconst d_Dw_compare_40 ?_
  obtain ⟨o1, h⟩ := h
  refine Aw.putI (f := 11) 0 11 fl_Dw_69 (by decide) (by decide) rfl rfl o1 rfl ⟨by decide, by decide⟩ (Or.inr ⟨rfl, by decide⟩) d_Dw_compare_41 ?_
  refine Aw.aload_n rfl d_Dw_compare_44 ?_
  obtain ⟨b2, e3, h⟩ := h
  refine Aw.getRs (f := 5) 0 5 fl_Dw_41 (by decide) (by decide) rfl rfl o1 e3 d_Dw_compare_45 ?_
  exact h
theorem c_Dw_compare_2 {Ω : Om} {R R' : Room} {F : QF} {k n : Nat} {L st : List PV} {σ : Sto} {QX' : String → Sto → Prop} {Q : Option Nat → Sto → Prop} {a : Nat} {x0 : Int} (hc : MC Ω M_Dw_versionAt R' (RR Q) QX' σ [xr (some a), xi x0]) (hk : sK σ a = 1) (hr1 : R'.frames + 1 ≤ R.frames) (hr2 : 8 + (2 + 11) + R'.locals ≤ R.locals) (hb1 : k + R'.cells ≤ R.cells) (hb2 : n + R'.slots ≤ R.slots) (hst : (st.map catP).sum ≤ 8) (kk : ∀ x σ', Q x σ' → Aw Ω M_Dw_compare R F (k + R'.cells) (n + R'.slots) 5 L (xr x :: st) σ') (kx : ∀ E σ', QX' E σ' → Ax Ω M_Dw_compare R F (k + R'.cells) (n + R'.slots) 2 L st σ' E) : Aw Ω M_Dw_compare R F k n 2 L (xi x0 :: xr (some a) :: st) σ :=
  Aw.callV (As := [xi x0]) (stk := xi x0 :: xr (some a) :: st) (nn := 1) 0 M_Dw_versionAt hc ok_Dw_versionAt rfl (by decide) rfl hk ml_Dw_91 im_Dw_versionAt se_Dw_versionAt ⟨hr1, hr2⟩ rfl ⟨hb1, hb2⟩ hst rfl d_Dw_compare_2 (fun r σ' h => by obtain ⟨x, rfl, h⟩ := h; exact kk x σ' h) kx
theorem c_Dw_compare_12 {Ω : Om} {R R' : Room} {F : QF} {k n : Nat} {L st : List PV} {σ : Sto} {QX' : String → Sto → Prop} {Q : Option Nat → Sto → Prop} {a : Nat} {x0 : Int} (hc : MC Ω M_Dw_versionAt R' (RR Q) QX' σ [xr (some a), xi x0]) (hk : sK σ a = 1) (hr1 : R'.frames + 1 ≤ R.frames) (hr2 : 8 + (2 + 11) + R'.locals ≤ R.locals) (hb1 : k + R'.cells ≤ R.cells) (hb2 : n + R'.slots ≤ R.slots) (hst : (st.map catP).sum ≤ 8) (kk : ∀ x σ', Q x σ' → Aw Ω M_Dw_compare R F (k + R'.cells) (n + R'.slots) 15 L (xr x :: st) σ') (kx : ∀ E σ', QX' E σ' → Ax Ω M_Dw_compare R F (k + R'.cells) (n + R'.slots) 12 L st σ' E) : Aw Ω M_Dw_compare R F k n 12 L (xi x0 :: xr (some a) :: st) σ :=
  Aw.callV (As := [xi x0]) (stk := xi x0 :: xr (some a) :: st) (nn := 1) 0 M_Dw_versionAt hc ok_Dw_versionAt rfl (by decide) rfl hk ml_Dw_91 im_Dw_versionAt se_Dw_versionAt ⟨hr1, hr2⟩ rfl ⟨hb1, hb2⟩ hst rfl d_Dw_compare_12 (fun r σ' h => by obtain ⟨x, rfl, h⟩ := h; exact kk x σ' h) kx
theorem c_Dw_compare_29 {Ω : Om} {R R' : Room} {F : QF} {k n : Nat} {L st : List PV} {σ : Sto} {QX' : String → Sto → Prop} {Q : Sto → Prop} {a : Nat} {x0 : Option Nat} {x1 : Option Nat} {x2 : Int} (hc : MC Ω M_Cmp_pairUp R' (RV Q) QX' σ [xr (some a), xr x0, xr x1, xi x2]) (hk : sK σ a = 2) (hr1 : R'.frames + 1 ≤ R.frames) (hr2 : 8 + (4 + 11) + R'.locals ≤ R.locals) (hb1 : k + R'.cells ≤ R.cells) (hb2 : n + R'.slots ≤ R.slots) (hst : (st.map catP).sum ≤ 8) (kk : ∀ σ', Q σ' → Aw Ω M_Dw_compare R F (k + R'.cells) (n + R'.slots) 32 L st σ') (kx : ∀ E σ', QX' E σ' → Ax Ω M_Dw_compare R F (k + R'.cells) (n + R'.slots) 29 L st σ' E) : Aw Ω M_Dw_compare R F k n 29 L (xi x2 :: xr x1 :: xr x0 :: xr (some a) :: st) σ :=
  Aw.callV (As := [xr x0, xr x1, xi x2]) (stk := xi x2 :: xr x1 :: xr x0 :: xr (some a) :: st) (nn := 3) 1 M_Cmp_pairUp hc ok_Cmp_pairUp rfl (by decide) rfl hk ml_Dw_216 im_Cmp_pairUp se_Cmp_pairUp ⟨hr1, hr2⟩ rfl ⟨hb1, hb2⟩ hst rfl d_Dw_compare_29 (fun r σ' h => by obtain ⟨rfl, h⟩ := h; exact kk σ' h) kx
theorem c_Dw_compare_36 {Ω : Om} {R R' : Room} {F : QF} {k n : Nat} {L st : List PV} {σ : Sto} {QX' : String → Sto → Prop} {Q : Sto → Prop} {a : Nat} (hc : MC Ω M_Cmp_findMoves R' (RV Q) QX' σ [xr (some a)]) (hk : sK σ a = 2) (hr1 : R'.frames + 1 ≤ R.frames) (hr2 : 8 + (2 + 11) + R'.locals ≤ R.locals) (hb1 : k + R'.cells ≤ R.cells) (hb2 : n + R'.slots ≤ R.slots) (hst : (st.map catP).sum ≤ 8) (kk : ∀ σ', Q σ' → Aw Ω M_Dw_compare R F (k + R'.cells) (n + R'.slots) 39 L st σ') (kx : ∀ E σ', QX' E σ' → Ax Ω M_Dw_compare R F (k + R'.cells) (n + R'.slots) 36 L st σ' E) : Aw Ω M_Dw_compare R F k n 36 L (xr (some a) :: st) σ :=
  Aw.callV (As := []) (stk := xr (some a) :: st) (nn := 0) 1 M_Cmp_findMoves hc ok_Cmp_findMoves rfl (by decide) rfl hk ml_Dw_220 im_Cmp_findMoves se_Cmp_findMoves ⟨hr1, hr2⟩ rfl ⟨hb1, hb2⟩ hst rfl d_Dw_compare_36 (fun r σ' h => by obtain ⟨rfl, h⟩ := h; exact kk σ' h) kx
theorem c_Dw_compare_48 {Ω : Om} {R R' : Room} {F : QF} {k n : Nat} {L st : List PV} {σ : Sto} {QX' : String → Sto → Prop} {Q : Int → Sto → Prop} {a : Nat} (hc : MC Ω M_Cmp_pairCount R' (RI Q) QX' σ [xr (some a)]) (hk : sK σ a = 2) (hr1 : R'.frames + 1 ≤ R.frames) (hr2 : 8 + (1 + 11) + R'.locals ≤ R.locals) (hb1 : k + R'.cells ≤ R.cells) (hb2 : n + R'.slots ≤ R.slots) (hst : (st.map catP).sum ≤ 8) (kk : ∀ x σ', Q x σ' → Aw Ω M_Dw_compare R F (k + R'.cells) (n + R'.slots) 51 L (xi x :: st) σ') (kx : ∀ E σ', QX' E σ' → Ax Ω M_Dw_compare R F (k + R'.cells) (n + R'.slots) 48 L st σ' E) : Aw Ω M_Dw_compare R F k n 48 L (xr (some a) :: st) σ :=
  Aw.callV (As := []) (stk := xr (some a) :: st) (nn := 0) 1 M_Cmp_pairCount hc ok_Cmp_pairCount rfl (by decide) rfl hk ml_Dw_223 im_Cmp_pairCount se_Cmp_pairCount ⟨hr1, hr2⟩ rfl ⟨hb1, hb2⟩ hst rfl d_Dw_compare_48 (fun r σ' h => by obtain ⟨x, rfl, h⟩ := h; exact kk x σ' h) kx
theorem r_Dw_compare_51 {Ω : Om} {R : Room} {k n : Nat} {L : List PV} {σ : Sto} {QR : Option PV → Sto → Prop} {QX : String → Sto → Prop} {x : Int} (h : QR (some (xi x)) σ) (h1 : k ≤ R.cells) (h2 : n ≤ R.slots) : Aw Ω M_Dw_compare R (MF Ω R QR QX) k n 51 L [xi x] σ := Aw.iret rfl h h1 h2 d_Dw_compare_51
theorem e_Dw_conflicts {Ω : Om} {R : Room} {QR : Option PV → Sto → Prop} {QX : String → Sto → Prop} {σ : Sto} {a0 : Nat} (h : Aw Ω M_Dw_conflicts R (MF Ω R QR QX) 0 0 0 [xr (some a0)] [] σ) : MC Ω M_Dw_conflicts R QR QX σ [xr (some a0)] := MC.body (by decide +kernel) rfl (Nat.le_of_ble_eq_true rfl) rfl h
theorem b_Dw_conflicts_0 {Ω : Om} {R : Room} {F : QF} {k n : Nat} {σ : Sto} {a0 : Nat} (h : sK σ a0 = 1 ∧ (Q32 (fI σ 10 a0) → (((fI σ 10 a0) = (0 : Int) → Aw Ω M_Dw_conflicts R F k n 18 [xr (some a0)] [xi 0] σ) ∧ (¬ (fI σ 10 a0) = (0 : Int) → (∃ b3 : Nat, fR σ 8 a0 = some b3 ∧ Aw Ω M_Dw_conflicts R F k n 11 [xr (some a0)] [xr (some b3)] σ))))) : Aw Ω M_Dw_conflicts R F k n 0 [xr (some a0)] [] σ := by
  refine Aw.aload_n rfl d_Dw_conflicts_0 ?_
  obtain ⟨o1, h⟩ := h
  refine Aw.getI (f := 10) 0 10 fl_Dw_65 (by decide) (by decide) rfl rfl o1 d_Dw_conflicts_1 (fun r2 => ?_)
  have h := h r2
  obtain ⟨ht, hf⟩ := h
  refine Aw.if_eq (tgt := 17) r2 (by decide) d_Dw_conflicts_4 (fun c5 => ?_) (fun c5 => ?_)
  · have h := ht c5
    refine Aw.iconst d_Dw_conflicts_17 ?_
    exact h
  · have h := hf c5
    refine Aw.aload_n rfl d_Dw_conflicts_7 ?_
    obtain ⟨b3, e4, h⟩ := h
    refine Aw.getRs (f := 8) 0 8 fl_Dw_58 (by decide) (by decide) rfl rfl o1 e4 d_Dw_conflicts_8 ?_
    exact h
theorem b_Dw_conflicts_14 {Ω : Om} {R : Room} {F : QF} {k n : Nat} {σ : Sto} {a0 : Nat} {s0 : Int} (h : Aw Ω M_Dw_conflicts R F k n 18 [xr (some a0)] [xi s0] σ) : Aw Ω M_Dw_conflicts R F k n 14 [xr (some a0)] [xi s0] σ := by
  refine Aw.goto (tgt := 18) (by decide) d_Dw_conflicts_14 ?_
  exact h
theorem c_Dw_conflicts_11 {Ω : Om} {R R' : Room} {F : QF} {k n : Nat} {L st : List PV} {σ : Sto} {QX' : String → Sto → Prop} {Q : Int → Sto → Prop} {a : Nat} (hc : MC Ω M_Drf_unsettled R' (RI Q) QX' σ [xr (some a)]) (hk : sK σ a = 4) (hr1 : R'.frames + 1 ≤ R.frames) (hr2 : 8 + (1 + 11) + R'.locals ≤ R.locals) (hb1 : k + R'.cells ≤ R.cells) (hb2 : n + R'.slots ≤ R.slots) (hst : (st.map catP).sum ≤ 8) (kk : ∀ x σ', Q x σ' → Aw Ω M_Dw_conflicts R F (k + R'.cells) (n + R'.slots) 14 L (xi x :: st) σ') (kx : ∀ E σ', QX' E σ' → Ax Ω M_Dw_conflicts R F (k + R'.cells) (n + R'.slots) 11 L st σ' E) : Aw Ω M_Dw_conflicts R F k n 11 L (xr (some a) :: st) σ :=
  Aw.callV (As := []) (stk := xr (some a) :: st) (nn := 0) 3 M_Drf_unsettled hc ok_Drf_unsettled rfl (by decide) rfl hk ml_Dw_252 im_Drf_unsettled se_Drf_unsettled ⟨hr1, hr2⟩ rfl ⟨hb1, hb2⟩ hst rfl d_Dw_conflicts_11 (fun r σ' h => by obtain ⟨x, rfl, h⟩ := h; exact kk x σ' h) kx
theorem r_Dw_conflicts_18 {Ω : Om} {R : Room} {k n : Nat} {L : List PV} {σ : Sto} {QR : Option PV → Sto → Prop} {QX : String → Sto → Prop} {x : Int} (h : QR (some (xi x)) σ) (h1 : k ≤ R.cells) (h2 : n ≤ R.slots) : Aw Ω M_Dw_conflicts R (MF Ω R QR QX) k n 18 L [xi x] σ := Aw.iret rfl h h1 h2 d_Dw_conflicts_18
theorem e_Dw_draftLine {Ω : Om} {R : Room} {QR : Option PV → Sto → Prop} {QX : String → Sto → Prop} {σ : Sto} {a0 : Nat} {v1 : Int} (h : Aw Ω M_Dw_draftLine R (MF Ω R QR QX) 0 0 0 [xr (some a0), xi v1] [] σ) : MC Ω M_Dw_draftLine R QR QX σ [xr (some a0), xi v1] := MC.body (by decide +kernel) rfl (Nat.le_of_ble_eq_true rfl) rfl h
theorem b_Dw_draftLine_0 {Ω : Om} {R : Room} {F : QF} {k n : Nat} {σ : Sto} {a0 : Nat} {v1 : Int} (h : Aw Ω M_Dw_draftLine R F k n 3 [xr (some a0), xi v1] [xr (some a0), xi v1, xr (some a0)] σ) : Aw Ω M_Dw_draftLine R F k n 0 [xr (some a0), xi v1] [] σ := by
  refine Aw.aload_n rfl d_Dw_draftLine_0 ?_
  refine Aw.iload_n rfl d_Dw_draftLine_1 ?_
  refine Aw.aload_n rfl d_Dw_draftLine_2 ?_
  exact h
theorem b_Dw_draftLine_9 {Ω : Om} {R : Room} {F : QF} {k n : Nat} {σ : Sto} {a0 : Nat} {v1 : Int} (h : sK σ a0 = 1 ∧ (∃ b2 : Nat, fR σ 8 a0 = some b2 ∧ sK σ b2 = 4 ∧ (∃ b5 : Nat, fR σ 192 b2 = some b5 ∧ Aw Ω M_Dw_draftLine R F k n 17 [xr (some a0), xi v1] [xi v1, xr (some b5)] σ))) : Aw Ω M_Dw_draftLine R F k n 9 [xr (some a0), xi v1] [] σ := by
  refine Aw.aload_n rfl d_Dw_draftLine_9 ?_
  obtain ⟨o1, h⟩ := h
  obtain ⟨b2, e3, h⟩ := h
  refine Aw.getRs (f := 8) 0 8 fl_Dw_58 (by decide) (by decide) rfl rfl o1 e3 d_Dw_draftLine_10 ?_
  obtain ⟨o4, h⟩ := h
  obtain ⟨b5, e6, h⟩ := h
  refine Aw.getRs (f := 192) 3 0 fl_Dw_111 (by decide) (by decide) rfl rfl o4 e6 d_Dw_draftLine_13 ?_
  refine Aw.iload_n rfl d_Dw_draftLine_16 ?_
  exact h
theorem c_Dw_draftLine_3 {Ω : Om} {R R' : Room} {F : QF} {k n : Nat} {L st : List PV} {σ : Sto} {QX' : String → Sto → Prop} {Q : Int → Sto → Prop} {a : Nat} (hc : MC Ω M_Dw_draftSize R' (RI Q) QX' σ [xr (some a)]) (hk : sK σ a = 1) (hr1 : R'.frames + 1 ≤ R.frames) (hr2 : 8 + (1 + 11) + R'.locals ≤ R.locals) (hb1 : k + R'.cells ≤ R.cells) (hb2 : n + R'.slots ≤ R.slots) (hst : (st.map catP).sum ≤ 8) (kk : ∀ x σ', Q x σ' → Aw Ω M_Dw_draftLine R F (k + R'.cells) (n + R'.slots) 6 L (xi x :: st) σ') (kx : ∀ E σ', QX' E σ' → Ax Ω M_Dw_draftLine R F (k + R'.cells) (n + R'.slots) 3 L st σ' E) : Aw Ω M_Dw_draftLine R F k n 3 L (xr (some a) :: st) σ :=
  Aw.callV (As := []) (stk := xr (some a) :: st) (nn := 0) 0 M_Dw_draftSize hc ok_Dw_draftSize rfl (by decide) rfl hk ml_Dw_118 im_Dw_draftSize se_Dw_draftSize ⟨hr1, hr2⟩ rfl ⟨hb1, hb2⟩ hst rfl d_Dw_draftLine_3 (fun r σ' h => by obtain ⟨x, rfl, h⟩ := h; exact kk x σ' h) kx
theorem c_Dw_draftLine_6 {Ω : Om} {R R' : Room} {F : QF} {k n : Nat} {L st : List PV} {σ : Sto} {QX' : String → Sto → Prop} {Q : Sto → Prop} {a : Nat} {x0 : Int} {x1 : Int} (hc : MC Ω M_Dw_checkPlace R' (RV Q) QX' σ [xr (some a), xi x0, xi x1]) (hk : sK σ a = 1) (hr1 : R'.frames + 1 ≤ R.frames) (hr2 : 8 + (3 + 11) + R'.locals ≤ R.locals) (hb1 : k + R'.cells ≤ R.cells) (hb2 : n + R'.slots ≤ R.slots) (hst : (st.map catP).sum ≤ 8) (kk : ∀ σ', Q σ' → Aw Ω M_Dw_draftLine R F (k + R'.cells) (n + R'.slots) 9 L st σ') (kx : ∀ E σ', QX' E σ' → Ax Ω M_Dw_draftLine R F (k + R'.cells) (n + R'.slots) 6 L st σ' E) : Aw Ω M_Dw_draftLine R F k n 6 L (xi x1 :: xi x0 :: xr (some a) :: st) σ :=
  Aw.callV (As := [xi x0, xi x1]) (stk := xi x1 :: xi x0 :: xr (some a) :: st) (nn := 2) 0 M_Dw_checkPlace hc ok_Dw_checkPlace rfl (by decide) rfl hk ml_Dw_121 im_Dw_checkPlace se_Dw_checkPlace ⟨hr1, hr2⟩ rfl ⟨hb1, hb2⟩ hst rfl d_Dw_draftLine_6 (fun r σ' h => by obtain ⟨rfl, h⟩ := h; exact kk σ' h) kx
theorem c_Dw_draftLine_17 {Ω : Om} {R R' : Room} {F : QF} {k n : Nat} {L st : List PV} {σ : Sto} {QX' : String → Sto → Prop} {Q : Int64 → Sto → Prop} {a : Nat} {x0 : Int} (hc : MC Ω M_Txt_lineAt R' (RL Q) QX' σ [xr (some a), xi x0]) (hk : sK σ a = 10) (hr1 : R'.frames + 1 ≤ R.frames) (hr2 : 8 + (2 + 11) + R'.locals ≤ R.locals) (hb1 : k + R'.cells ≤ R.cells) (hb2 : n + R'.slots ≤ R.slots) (hst : (st.map catP).sum ≤ 8) (kk : ∀ x σ', Q x σ' → Aw Ω M_Dw_draftLine R F (k + R'.cells) (n + R'.slots) 20 L (xl x :: st) σ') (kx : ∀ E σ', QX' E σ' → Ax Ω M_Dw_draftLine R F (k + R'.cells) (n + R'.slots) 17 L st σ' E) : Aw Ω M_Dw_draftLine R F k n 17 L (xi x0 :: xr (some a) :: st) σ :=
  Aw.callV (As := [xi x0]) (stk := xi x0 :: xr (some a) :: st) (nn := 1) 9 M_Txt_lineAt hc ok_Txt_lineAt rfl (by decide) rfl hk ml_Dw_152 im_Txt_lineAt se_Txt_lineAt ⟨hr1, hr2⟩ rfl ⟨hb1, hb2⟩ hst rfl d_Dw_draftLine_17 (fun r σ' h => by obtain ⟨x, rfl, h⟩ := h; exact kk x σ' h) kx
theorem r_Dw_draftLine_20 {Ω : Om} {R : Room} {k n : Nat} {L : List PV} {σ : Sto} {QR : Option PV → Sto → Prop} {QX : String → Sto → Prop} {x : Int64} (h : QR (some (xl x)) σ) (h1 : k ≤ R.cells) (h2 : n ≤ R.slots) : Aw Ω M_Dw_draftLine R (MF Ω R QR QX) k n 20 L [xl x] σ := Aw.lret rfl h h1 h2 d_Dw_draftLine_20
theorem e_Dw_draftLines {Ω : Om} {R : Room} {QR : Option PV → Sto → Prop} {QX : String → Sto → Prop} {σ : Sto} {a0 : Nat} (h : Aw Ω M_Dw_draftLines R (MF Ω R QR QX) 0 0 0 [xr (some a0)] [] σ) : MC Ω M_Dw_draftLines R QR QX σ [xr (some a0)] := MC.body (by decide +kernel) rfl (Nat.le_of_ble_eq_true rfl) rfl h
theorem b_Dw_draftLines_0 {Ω : Om} {R : Room} {F : QF} {k n : Nat} {σ : Sto} {a0 : Nat} (h : sK σ a0 = 1 ∧ (Q32 (fI σ 10 a0) → (((fI σ 10 a0) = (0 : Int) → Aw Ω M_Dw_draftLines R F k n 21 [xr (some a0)] [xi (-1)] σ) ∧ (¬ (fI σ 10 a0) = (0 : Int) → (∃ b3 : Nat, fR σ 8 a0 = some b3 ∧ sK σ b3 = 4 ∧ (∃ b6 : Nat, fR σ 192 b3 = some b6 ∧ Aw Ω M_Dw_draftLines R F k n 14 [xr (some a0)] [xr (some b6)] σ)))))) : Aw Ω M_Dw_draftLines R F k n 0 [xr (some a0)] [] σ := by
  refine Aw.aload_n rfl d_Dw_draftLines_0 ?_
  obtain ⟨o1, h⟩ := h
  refine Aw.getI (f := 10) 0 10 fl_Dw_65 (by decide) (by decide) rfl rfl o1 d_Dw_draftLines_1 (fun r2 => ?_)
  have h := h r2
  obtain ⟨ht, hf⟩ := h
  refine Aw.if_eq (tgt := 20) r2 (by decide) d_Dw_draftLines_4 (fun c8 => ?_) (fun c8 => ?_)
  · have h := ht c8
    refine Aw.iconst d_Dw_draftLines_20 ?_
    exact h
  · have h := hf c8
    refine Aw.aload_n rfl d_Dw_draftLines_7 ?_
    obtain ⟨b3, e4, h⟩ := h
    refine Aw.getRs (f := 8) 0 8 fl_Dw_58 (by decide) (by decide) rfl rfl o1 e4 d_Dw_draftLines_8 ?_
    obtain ⟨o5, h⟩ := h
    obtain ⟨b6, e7, h⟩ := h
    refine Aw.getRs (f := 192) 3 0 fl_Dw_111 (by decide) (by decide) rfl rfl o5 e7 d_Dw_draftLines_11 ?_
    exact h
theorem b_Dw_draftLines_17 {Ω : Om} {R : Room} {F : QF} {k n : Nat} {σ : Sto} {a0 : Nat} {s0 : Int} (h : Aw Ω M_Dw_draftLines R F k n 21 [xr (some a0)] [xi s0] σ) : Aw Ω M_Dw_draftLines R F k n 17 [xr (some a0)] [xi s0] σ := by
  refine Aw.goto (tgt := 21) (by decide) d_Dw_draftLines_17 ?_
  exact h
theorem c_Dw_draftLines_14 {Ω : Om} {R R' : Room} {F : QF} {k n : Nat} {L st : List PV} {σ : Sto} {QX' : String → Sto → Prop} {Q : Int → Sto → Prop} {a : Nat} (hc : MC Ω M_Txt_size R' (RI Q) QX' σ [xr (some a)]) (hk : sK σ a = 10) (hr1 : R'.frames + 1 ≤ R.frames) (hr2 : 8 + (1 + 11) + R'.locals ≤ R.locals) (hb1 : k + R'.cells ≤ R.cells) (hb2 : n + R'.slots ≤ R.slots) (hst : (st.map catP).sum ≤ 8) (kk : ∀ x σ', Q x σ' → Aw Ω M_Dw_draftLines R F (k + R'.cells) (n + R'.slots) 17 L (xi x :: st) σ') (kx : ∀ E σ', QX' E σ' → Ax Ω M_Dw_draftLines R F (k + R'.cells) (n + R'.slots) 14 L st σ' E) : Aw Ω M_Dw_draftLines R F k n 14 L (xr (some a) :: st) σ :=
  Aw.callV (As := []) (stk := xr (some a) :: st) (nn := 0) 9 M_Txt_size hc ok_Txt_size rfl (by decide) rfl hk ml_Dw_112 im_Txt_size se_Txt_size ⟨hr1, hr2⟩ rfl ⟨hb1, hb2⟩ hst rfl d_Dw_draftLines_14 (fun r σ' h => by obtain ⟨x, rfl, h⟩ := h; exact kk x σ' h) kx
theorem r_Dw_draftLines_21 {Ω : Om} {R : Room} {k n : Nat} {L : List PV} {σ : Sto} {QR : Option PV → Sto → Prop} {QX : String → Sto → Prop} {x : Int} (h : QR (some (xi x)) σ) (h1 : k ≤ R.cells) (h2 : n ≤ R.slots) : Aw Ω M_Dw_draftLines R (MF Ω R QR QX) k n 21 L [xi x] σ := Aw.iret rfl h h1 h2 d_Dw_draftLines_21
theorem e_Dw_draftSize {Ω : Om} {R : Room} {QR : Option PV → Sto → Prop} {QX : String → Sto → Prop} {σ : Sto} {a0 : Nat} (h : Aw Ω M_Dw_draftSize R (MF Ω R QR QX) 0 0 0 [xr (some a0)] [] σ) : MC Ω M_Dw_draftSize R QR QX σ [xr (some a0)] := MC.body (by decide +kernel) rfl (Nat.le_of_ble_eq_true rfl) rfl h
theorem b_Dw_draftSize_0 {Ω : Om} {R : Room} {F : QF} {k n : Nat} {σ : Sto} {a0 : Nat} (h : sK σ a0 = 1 ∧ (Q32 (fI σ 10 a0) → (((fI σ 10 a0) = (0 : Int) → Aw Ω M_Dw_draftSize R F k n 21 [xr (some a0)] [xi (-1)] σ) ∧ (¬ (fI σ 10 a0) = (0 : Int) → (∃ b3 : Nat, fR σ 8 a0 = some b3 ∧ sK σ b3 = 4 ∧ (∃ b6 : Nat, fR σ 192 b3 = some b6 ∧ Aw Ω M_Dw_draftSize R F k n 14 [xr (some a0)] [xr (some b6)] σ)))))) : Aw Ω M_Dw_draftSize R F k n 0 [xr (some a0)] [] σ := by
  refine Aw.aload_n rfl d_Dw_draftSize_0 ?_
  obtain ⟨o1, h⟩ := h
  refine Aw.getI (f := 10) 0 10 fl_Dw_65 (by decide) (by decide) rfl rfl o1 d_Dw_draftSize_1 (fun r2 => ?_)
  have h := h r2
  obtain ⟨ht, hf⟩ := h
  refine Aw.if_eq (tgt := 20) r2 (by decide) d_Dw_draftSize_4 (fun c8 => ?_) (fun c8 => ?_)
  · have h := ht c8
    refine Aw.iconst d_Dw_draftSize_20 ?_
    exact h
  · have h := hf c8
    refine Aw.aload_n rfl d_Dw_draftSize_7 ?_
    obtain ⟨b3, e4, h⟩ := h
    refine Aw.getRs (f := 8) 0 8 fl_Dw_58 (by decide) (by decide) rfl rfl o1 e4 d_Dw_draftSize_8 ?_
    obtain ⟨o5, h⟩ := h
    obtain ⟨b6, e7, h⟩ := h
    refine Aw.getRs (f := 192) 3 0 fl_Dw_111 (by decide) (by decide) rfl rfl o5 e7 d_Dw_draftSize_11 ?_
    exact h
theorem b_Dw_draftSize_17 {Ω : Om} {R : Room} {F : QF} {k n : Nat} {σ : Sto} {a0 : Nat} {s0 : Int} (h : Aw Ω M_Dw_draftSize R F k n 21 [xr (some a0)] [xi s0] σ) : Aw Ω M_Dw_draftSize R F k n 17 [xr (some a0)] [xi s0] σ := by
  refine Aw.goto (tgt := 21) (by decide) d_Dw_draftSize_17 ?_
  exact h
theorem c_Dw_draftSize_14 {Ω : Om} {R R' : Room} {F : QF} {k n : Nat} {L st : List PV} {σ : Sto} {QX' : String → Sto → Prop} {Q : Int → Sto → Prop} {a : Nat} (hc : MC Ω M_Txt_size R' (RI Q) QX' σ [xr (some a)]) (hk : sK σ a = 10) (hr1 : R'.frames + 1 ≤ R.frames) (hr2 : 8 + (1 + 11) + R'.locals ≤ R.locals) (hb1 : k + R'.cells ≤ R.cells) (hb2 : n + R'.slots ≤ R.slots) (hst : (st.map catP).sum ≤ 8) (kk : ∀ x σ', Q x σ' → Aw Ω M_Dw_draftSize R F (k + R'.cells) (n + R'.slots) 17 L (xi x :: st) σ') (kx : ∀ E σ', QX' E σ' → Ax Ω M_Dw_draftSize R F (k + R'.cells) (n + R'.slots) 14 L st σ' E) : Aw Ω M_Dw_draftSize R F k n 14 L (xr (some a) :: st) σ :=
  Aw.callV (As := []) (stk := xr (some a) :: st) (nn := 0) 9 M_Txt_size hc ok_Txt_size rfl (by decide) rfl hk ml_Dw_112 im_Txt_size se_Txt_size ⟨hr1, hr2⟩ rfl ⟨hb1, hb2⟩ hst rfl d_Dw_draftSize_14 (fun r σ' h => by obtain ⟨x, rfl, h⟩ := h; exact kk x σ' h) kx
theorem r_Dw_draftSize_21 {Ω : Om} {R : Room} {k n : Nat} {L : List PV} {σ : Sto} {QR : Option PV → Sto → Prop} {QX : String → Sto → Prop} {x : Int} (h : QR (some (xi x)) σ) (h1 : k ≤ R.cells) (h2 : n ≤ R.slots) : Aw Ω M_Dw_draftSize R (MF Ω R QR QX) k n 21 L [xi x] σ := Aw.iret rfl h h1 h2 d_Dw_draftSize_21
theorem e_Dw_hunk {Ω : Om} {R : Room} {QR : Option PV → Sto → Prop} {QX : String → Sto → Prop} {σ : Sto} {a0 : Nat} {v1 : Int} {v2 : Int} {v3 : Int} (h : Aw Ω M_Dw_hunk R (MF Ω R QR QX) 0 0 0 [xr (some a0), xi v1, xi v2, xi v3, xu] [] σ) : MC Ω M_Dw_hunk R QR QX σ [xr (some a0), xi v1, xi v2, xi v3] := MC.body (by decide +kernel) rfl (Nat.le_of_ble_eq_true rfl) rfl h
theorem b_Dw_hunk_0 {Ω : Om} {R : Room} {F : QF} {k n : Nat} {σ : Sto} {a0 : Nat} {v1 : Int} {v2 : Int} {v3 : Int} (h : Aw Ω M_Dw_hunk R F k n 2 [xr (some a0), xi v1, xi v2, xi v3, xu] [xi v1, xr (some a0)] σ) : Aw Ω M_Dw_hunk R F k n 0 [xr (some a0), xi v1, xi v2, xi v3, xu] [] σ := by
  refine Aw.aload_n rfl d_Dw_hunk_0 ?_
  refine Aw.iload_n rfl d_Dw_hunk_1 ?_
  exact h
theorem b_Dw_hunk_5 {Ω : Om} {R : Room} {F : QF} {k n : Nat} {σ : Sto} {a0 : Nat} {v1 : Int} {v2 : Int} {v3 : Int} {s0 : Nat} (h : Aw Ω M_Dw_hunk R F k n 6 [xr (some a0), xi v1, xi v2, xi v3, xu] [xi v2, xr (some s0)] σ) : Aw Ω M_Dw_hunk R F k n 5 [xr (some a0), xi v1, xi v2, xi v3, xu] [xr (some s0)] σ := by
  refine Aw.iload_n rfl d_Dw_hunk_5 ?_
  exact h
theorem b_Dw_hunk_9 {Ω : Om} {R : Room} {F : QF} {k n : Nat} {σ : Sto} {a0 : Nat} {v1 : Int} {v2 : Int} {v3 : Int} {s0 : Option Nat} (h : ((¬ s0 = none → Q32 v3 ∧ ((v3 < (0 : Int) → Aw Ω M_Dw_hunk R F k n 36 [xr (some a0), xi v1, xi v2, xi v3, xr s0] [] σ) ∧ (¬ v3 < (0 : Int) → ((v3 < (5 : Int) → Aw Ω M_Dw_hunk R F k n 50 [xr (some a0), xi v1, xi v2, xi v3, xr s0] [xi v3, xr s0] σ) ∧ (¬ v3 < (5 : Int) → Aw Ω M_Dw_hunk R F k n 36 [xr (some a0), xi v1, xi v2, xi v3, xr s0] [] σ))))) ∧ (s0 = none → Aw Ω M_Dw_hunk R F k n 16 [xr (some a0), xi v1, xi v2, xi v3, xr s0] [] σ))) : Aw Ω M_Dw_hunk R F k n 9 [xr (some a0), xi v1, xi v2, xi v3, xu] [xr s0] σ := by
  refine Aw.astore (by decide) d_Dw_hunk_9 ?_
  refine Aw.toL (L' := [xr (some a0), xi v1, xi v2, xi v3, xr s0]) rfl ?_
  refine Aw.aload rfl d_Dw_hunk_11 ?_
  obtain ⟨ht, hf⟩ := h
  refine Aw.ifnonnull (tgt := 27) (by decide) d_Dw_hunk_13 (fun c4 => ?_) (fun c4 => ?_)
  · have h := ht c4
    refine Aw.iload_n rfl d_Dw_hunk_27 ?_
    obtain ⟨o1, h⟩ := h
    obtain ⟨ht, hf⟩ := h
    refine Aw.if_lt (tgt := 36) o1 (by decide) d_Dw_hunk_28 (fun c3 => ?_) (fun c3 => ?_)
    · have h := ht c3
      exact h
    · have h := hf c3
      refine Aw.iload_n rfl d_Dw_hunk_31 ?_
      refine Aw.iconst d_Dw_hunk_32 ?_
      obtain ⟨ht, hf⟩ := h
      refine Aw.icmp_lt (tgt := 47) o1 ⟨by decide, by decide⟩ (by decide) d_Dw_hunk_33 (fun c2 => ?_) (fun c2 => ?_)
      · have h := ht c2
        refine Aw.aload rfl d_Dw_hunk_47 ?_
        refine Aw.iload_n rfl d_Dw_hunk_49 ?_
        exact h
      · have h := hf c2
        exact h
  · have h := hf c4
    exact h
theorem c_Dw_hunk_2 {Ω : Om} {R R' : Room} {F : QF} {k n : Nat} {L st : List PV} {σ : Sto} {QX' : String → Sto → Prop} {Q : Option Nat → Sto → Prop} {a : Nat} {x0 : Int} (hc : MC Ω M_Dw_patchAt R' (RR Q) QX' σ [xr (some a), xi x0]) (hk : sK σ a = 1) (hr1 : R'.frames + 1 ≤ R.frames) (hr2 : 8 + (2 + 11) + R'.locals ≤ R.locals) (hb1 : k + R'.cells ≤ R.cells) (hb2 : n + R'.slots ≤ R.slots) (hst : (st.map catP).sum ≤ 8) (kk : ∀ x σ', Q x σ' → Aw Ω M_Dw_hunk R F (k + R'.cells) (n + R'.slots) 5 L (xr x :: st) σ') (kx : ∀ E σ', QX' E σ' → Ax Ω M_Dw_hunk R F (k + R'.cells) (n + R'.slots) 2 L st σ' E) : Aw Ω M_Dw_hunk R F k n 2 L (xi x0 :: xr (some a) :: st) σ :=
  Aw.callV (As := [xi x0]) (stk := xi x0 :: xr (some a) :: st) (nn := 1) 0 M_Dw_patchAt hc ok_Dw_patchAt rfl (by decide) rfl hk ml_Dw_282 im_Dw_patchAt se_Dw_patchAt ⟨hr1, hr2⟩ rfl ⟨hb1, hb2⟩ hst rfl d_Dw_hunk_2 (fun r σ' h => by obtain ⟨x, rfl, h⟩ := h; exact kk x σ' h) kx
theorem c_Dw_hunk_6 {Ω : Om} {R R' : Room} {F : QF} {k n : Nat} {L st : List PV} {σ : Sto} {QX' : String → Sto → Prop} {Q : Option Nat → Sto → Prop} {a : Nat} {x0 : Int} (hc : MC Ω M_Pat_hunkAt R' (RR Q) QX' σ [xr (some a), xi x0]) (hk : sK σ a = 8) (hr1 : R'.frames + 1 ≤ R.frames) (hr2 : 8 + (2 + 11) + R'.locals ≤ R.locals) (hb1 : k + R'.cells ≤ R.cells) (hb2 : n + R'.slots ≤ R.slots) (hst : (st.map catP).sum ≤ 8) (kk : ∀ x σ', Q x σ' → Aw Ω M_Dw_hunk R F (k + R'.cells) (n + R'.slots) 9 L (xr x :: st) σ') (kx : ∀ E σ', QX' E σ' → Ax Ω M_Dw_hunk R F (k + R'.cells) (n + R'.slots) 6 L st σ' E) : Aw Ω M_Dw_hunk R F k n 6 L (xi x0 :: xr (some a) :: st) σ :=
  Aw.callV (As := [xi x0]) (stk := xi x0 :: xr (some a) :: st) (nn := 1) 7 M_Pat_hunkAt hc ok_Pat_hunkAt rfl (by decide) rfl hk ml_Dw_290 im_Pat_hunkAt se_Pat_hunkAt ⟨hr1, hr2⟩ rfl ⟨hb1, hb2⟩ hst rfl d_Dw_hunk_6 (fun r σ' h => by obtain ⟨x, rfl, h⟩ := h; exact kk x σ' h) kx
theorem t_Dw_hunk_16 {Ω : Om} {R : Room} {k n : Nat} {L : List PV} {σ : Sto} {QR : Option PV → Sto → Prop} {QX : String → Sto → Prop} {st : List PV} (hRf : 5 < R.frames) (hRl : (st.map catP).sum + 82 ≤ R.locals) (hc : k + 1 ≤ R.cells) (hs : n + 6 ≤ R.slots) (hx : ∀ n', sN σ ≤ n' → QX "java/lang/IndexOutOfBoundsException" (nX σ n')) : Aw Ω M_Dw_hunk R (MF Ω R QR QX) k n 16 L st σ := Aw.throwSW (text := "there is no such hunk") rfl (by decide +kernel) exn_f cl_Dw_294 exi_IndexOutOfBoundsException (List.mem_of_getElem? (i := 1356) (by decide +kernel)) exa_Dw_298 exg_Dw_298 d_Dw_hunk_16 d_Dw_hunk_19 d_Dw_hunk_20 d_Dw_hunk_23 d_Dw_hunk_26 hRf hRl hc hs hx
theorem t_Dw_hunk_36 {Ω : Om} {R : Room} {k n : Nat} {L : List PV} {σ : Sto} {QR : Option PV → Sto → Prop} {QX : String → Sto → Prop} {st : List PV} (hRf : 5 < R.frames) (hRl : (st.map catP).sum + 82 ≤ R.locals) (hc : k + 1 ≤ R.cells) (hs : n + 6 ≤ R.slots) (hx : ∀ n', sN σ ≤ n' → QX "java/lang/IllegalArgumentException" (nX σ n')) : Aw Ω M_Dw_hunk R (MF Ω R QR QX) k n 36 L st σ := Aw.throwSW (text := "there is no such part") rfl (by decide +kernel) exn_f cl_Dw_241 exi_IllegalArgumentException (List.mem_of_getElem? (i := 1357) (by decide +kernel)) exa_Dw_245 exg_Dw_245 d_Dw_hunk_36 d_Dw_hunk_39 d_Dw_hunk_40 d_Dw_hunk_43 d_Dw_hunk_46 hRf hRl hc hs hx
theorem c_Dw_hunk_50 {Ω : Om} {R R' : Room} {F : QF} {k n : Nat} {L st : List PV} {σ : Sto} {QX' : String → Sto → Prop} {Q : Int → Sto → Prop} {a : Nat} {x0 : Int} (hc : MC Ω M_Hnk_part R' (RI Q) QX' σ [xr (some a), xi x0]) (hk : sK σ a = 6) (hr1 : R'.frames + 1 ≤ R.frames) (hr2 : 8 + (2 + 11) + R'.locals ≤ R.locals) (hb1 : k + R'.cells ≤ R.cells) (hb2 : n + R'.slots ≤ R.slots) (hst : (st.map catP).sum ≤ 8) (kk : ∀ x σ', Q x σ' → Aw Ω M_Dw_hunk R F (k + R'.cells) (n + R'.slots) 53 L (xi x :: st) σ') (kx : ∀ E σ', QX' E σ' → Ax Ω M_Dw_hunk R F (k + R'.cells) (n + R'.slots) 50 L st σ' E) : Aw Ω M_Dw_hunk R F k n 50 L (xi x0 :: xr (some a) :: st) σ :=
  Aw.callV (As := [xi x0]) (stk := xi x0 :: xr (some a) :: st) (nn := 1) 5 M_Hnk_part hc ok_Hnk_part rfl (by decide) rfl hk ml_Dw_301 im_Hnk_part se_Hnk_part ⟨hr1, hr2⟩ rfl ⟨hb1, hb2⟩ hst rfl d_Dw_hunk_50 (fun r σ' h => by obtain ⟨x, rfl, h⟩ := h; exact kk x σ' h) kx
theorem r_Dw_hunk_53 {Ω : Om} {R : Room} {k n : Nat} {L : List PV} {σ : Sto} {QR : Option PV → Sto → Prop} {QX : String → Sto → Prop} {x : Int} (h : QR (some (xi x)) σ) (h1 : k ≤ R.cells) (h2 : n ≤ R.slots) : Aw Ω M_Dw_hunk R (MF Ω R QR QX) k n 53 L [xi x] σ := Aw.iret rfl h h1 h2 d_Dw_hunk_53
theorem e_Dw_init {Ω : Om} {R : Room} {QR : Option PV → Sto → Prop} {QX : String → Sto → Prop} {σ : Sto} {a0 : Nat} (h : Aw Ω M_Dw_init R (MF Ω R QR QX) 0 0 0 [xr (some a0), xu] [] σ) : MC Ω M_Dw_init R QR QX σ [xr (some a0)] := MC.body (by decide +kernel) rfl (Nat.le_of_ble_eq_true rfl) rfl h
theorem b_Dw_init_0 {Ω : Om} {R : Room} {F : QF} {k n : Nat} {σ : Sto} {a0 : Nat} (h : 1 ≤ R.frames ∧ ([].map catP).sum + 12 ≤ R.locals ∧ k + 1 ≤ R.cells ∧ n + 40 ≤ R.slots ∧ (∀ σ7 : Sto, σ7 = (nO σ 55 40) → sK σ7 a0 = 1 ∧ k + 1 + 1 ≤ R.cells ∧ n + 40 + 10 ≤ R.slots ∧ (∀ σ13 : Sto, σ13 = (nO (uR σ7 0 a0 (some (sN σ))) 56 10) → sK σ13 a0 = 1 ∧ k + 1 + 1 + 1 ≤ R.cells ∧ n + 40 + 10 + 20 ≤ R.slots ∧ (∀ σ19 : Sto, σ19 = (nO (uR σ13 1 a0 (some (sN σ7))) 57 20) → sK σ19 a0 = 1 ∧ k + 1 + 1 + 1 + 1 ≤ R.cells ∧ n + 40 + 10 + 20 + 20 ≤ R.slots ∧ (∀ σ25 : Sto, σ25 = (nO (uR σ19 2 a0 (some (sN σ13))) 50 20) → sK σ25 a0 = 1 ∧ k + 1 + 1 + 1 + 1 + 1 ≤ R.cells ∧ n + 40 + 10 + 20 + 20 + 3 ≤ R.slots ∧ (∀ σ29 : Sto, σ29 = (nO (uR σ25 3 a0 (some (sN σ19))) 7 0) → Aw Ω M_Dw_init R F (k + 1 + 1 + 1 + 1 + 1) (n + 40 + 10 + 20 + 20 + 3) 44 [xr (some a0), xu] [xr (some (sN σ25)), xr (some (sN σ25)), xr (some a0)] σ29)))))) : Aw Ω M_Dw_init R F k n 0 [xr (some a0), xu] [] σ := by
  refine Aw.aload_n rfl d_Dw_init_0 ?_
  obtain ⟨o1, o2, h⟩ := h
  refine Aw.objInit ml_Dw_3 oi_1 oi_2 o1 o2 d_Dw_init_1 ?_
  refine Aw.aload_n rfl d_Dw_init_4 ?_
  refine Aw.bipush (by decide) d_Dw_init_5 ?_
  obtain ⟨o5, o6, h⟩ := h
  refine Aw.anew 5 (by decide) (by decide) cl_Dw_9 aov_5 (by decide) (by decide) o5 o6 d_Dw_init_7 ?_
  obtain ⟨σ7, hσ7⟩ : ∃ z, z = (nO σ 55 40) := ⟨_, rfl⟩
  refine Aw.toS (σ' := σ7) hσ7 ?_
  have h := h σ7 hσ7
  obtain ⟨o8, h⟩ := h
  refine Aw.putRF (f := 0) 0 0 fm_Dw_11 (by decide) (by decide) rfl rfl o8 rfl rfl rfl rfl d_Dw_init_10 ?_
  refine Aw.aload_n rfl d_Dw_init_13 ?_
  refine Aw.bipush (by decide) d_Dw_init_14 ?_
  obtain ⟨o11, o12, h⟩ := h
  refine Aw.anew 6 (by decide) (by decide) cl_Dw_15 aov_6 (by decide) (by decide) o11 o12 d_Dw_init_16 ?_
  obtain ⟨σ13, hσ13⟩ : ∃ z, z = (nO (uR σ7 0 a0 (some (sN σ))) 56 10) := ⟨_, rfl⟩
  refine Aw.toS (σ' := σ13) hσ13 ?_
  have h := h σ13 hσ13
  obtain ⟨o14, h⟩ := h
  refine Aw.putRF (f := 1) 0 1 fm_Dw_17 (by decide) (by decide) rfl rfl o14 rfl rfl rfl rfl d_Dw_init_19 ?_
  refine Aw.aload_n rfl d_Dw_init_22 ?_
  refine Aw.bipush (by decide) d_Dw_init_23 ?_
  obtain ⟨o17, o18, h⟩ := h
  refine Aw.anew 7 (by decide) (by decide) cl_Dw_21 aov_7 (by decide) (by decide) o17 o18 d_Dw_init_25 ?_
  obtain ⟨σ19, hσ19⟩ : ∃ z, z = (nO (uR σ13 1 a0 (some (sN σ7))) 57 20) := ⟨_, rfl⟩
  refine Aw.toS (σ' := σ19) hσ19 ?_
  have h := h σ19 hσ19
  obtain ⟨o20, h⟩ := h
  refine Aw.putRF (f := 2) 0 2 fm_Dw_23 (by decide) (by decide) rfl rfl o20 rfl rfl rfl rfl d_Dw_init_28 ?_
  refine Aw.aload_n rfl d_Dw_init_31 ?_
  refine Aw.bipush (by decide) d_Dw_init_32 ?_
  obtain ⟨o23, o24, h⟩ := h
  refine Aw.newarr 0 (by decide) rfl arc_0 (by decide) (by decide) o23 o24 d_Dw_init_34 ?_
  obtain ⟨σ25, hσ25⟩ : ∃ z, z = (nO (uR σ19 2 a0 (some (sN σ13))) 50 20) := ⟨_, rfl⟩
  refine Aw.toS (σ' := σ25) hσ25 ?_
  have h := h σ25 hσ25
  obtain ⟨o26, h⟩ := h
  refine Aw.putRF (f := 3) 0 3 fm_Dw_27 (by decide) (by decide) rfl rfl o26 rfl rfl rfl rfl d_Dw_init_36 ?_
  refine Aw.aload_n rfl d_Dw_init_39 ?_
  obtain ⟨o27, o28, h⟩ := h
  refine Aw.new 6 (by decide) cl_Dw_31 ins_6 ini_6 o27 o28 d_Dw_init_40 ?_
  obtain ⟨σ29, hσ29⟩ : ∃ z, z = (nO (uR σ25 3 a0 (some (sN σ19))) 7 0) := ⟨_, rfl⟩
  refine Aw.toS (σ' := σ29) hσ29 ?_
  have h := h σ29 hσ29
  refine Aw.dup rfl d_Dw_init_43 ?_
  exact h
theorem b_Dw_init_47 {Ω : Om} {R : Room} {F : QF} {k n : Nat} {σ : Sto} {a0 : Nat} {s0 : Nat} {s1 : Nat} (h : sK σ s0 = 1 ∧ k + 1 ≤ R.cells ∧ n + 9 ≤ R.slots ∧ (∀ σ4 : Sto, σ4 = (nO (uR σ 4 s0 (some s1)) 2 0) → Aw Ω M_Dw_init R F (k + 1) (n + 9) 55 [xr (some a0), xu] [xr (some (sN σ)), xr (some (sN σ)), xr (some a0)] σ4)) : Aw Ω M_Dw_init R F k n 47 [xr (some a0), xu] [xr (some s1), xr (some s0)] σ := by
  obtain ⟨o1, h⟩ := h
  refine Aw.putRF (f := 4) 0 4 fm_Dw_34 (by decide) (by decide) rfl rfl o1 rfl rfl rfl rfl d_Dw_init_47 ?_
  refine Aw.aload_n rfl d_Dw_init_50 ?_
  obtain ⟨o2, o3, h⟩ := h
  refine Aw.new 1 (by decide) cl_Dw_38 ins_1 ini_1 o2 o3 d_Dw_init_51 ?_
  obtain ⟨σ4, hσ4⟩ : ∃ z, z = (nO (uR σ 4 s0 (some s1)) 2 0) := ⟨_, rfl⟩
  refine Aw.toS (σ' := σ4) hσ4 ?_
  have h := h σ4 hσ4
  refine Aw.dup rfl d_Dw_init_54 ?_
  exact h
theorem b_Dw_init_58 {Ω : Om} {R : Room} {F : QF} {k n : Nat} {σ : Sto} {a0 : Nat} {s0 : Nat} {s1 : Nat} (h : sK σ s0 = 1 ∧ k + 1 ≤ R.cells ∧ n + 9 ≤ R.slots ∧ (∀ σ4 : Sto, σ4 = (nO (uR σ 5 s0 (some s1)) 2 0) → Aw Ω M_Dw_init R F (k + 1) (n + 9) 66 [xr (some a0), xu] [xr (some (sN σ)), xr (some (sN σ)), xr (some a0)] σ4)) : Aw Ω M_Dw_init R F k n 58 [xr (some a0), xu] [xr (some s1), xr (some s0)] σ := by
  obtain ⟨o1, h⟩ := h
  refine Aw.putRF (f := 5) 0 5 fm_Dw_41 (by decide) (by decide) rfl rfl o1 rfl rfl rfl rfl d_Dw_init_58 ?_
  refine Aw.aload_n rfl d_Dw_init_61 ?_
  obtain ⟨o2, o3, h⟩ := h
  refine Aw.new 1 (by decide) cl_Dw_38 ins_1 ini_1 o2 o3 d_Dw_init_62 ?_
  obtain ⟨σ4, hσ4⟩ : ∃ z, z = (nO (uR σ 5 s0 (some s1)) 2 0) := ⟨_, rfl⟩
  refine Aw.toS (σ' := σ4) hσ4 ?_
  have h := h σ4 hσ4
  refine Aw.dup rfl d_Dw_init_65 ?_
  exact h
theorem b_Dw_init_69 {Ω : Om} {R : Room} {F : QF} {k n : Nat} {σ : Sto} {a0 : Nat} {s0 : Nat} {s1 : Nat} (h : sK σ s0 = 1 ∧ k + 1 ≤ R.cells ∧ n + 11 ≤ R.slots ∧ (∀ σ4 : Sto, σ4 = (nO (uR σ 6 s0 (some s1)) 11 0) → Aw Ω M_Dw_init R F (k + 1) (n + 11) 77 [xr (some a0), xu] [xr (some (sN σ)), xr (some (sN σ)), xr (some a0)] σ4)) : Aw Ω M_Dw_init R F k n 69 [xr (some a0), xu] [xr (some s1), xr (some s0)] σ := by
  obtain ⟨o1, h⟩ := h
  refine Aw.putRF (f := 6) 0 6 fm_Dw_45 (by decide) (by decide) rfl rfl o1 rfl rfl rfl rfl d_Dw_init_69 ?_
  refine Aw.aload_n rfl d_Dw_init_72 ?_
  obtain ⟨o2, o3, h⟩ := h
  refine Aw.new 10 (by decide) cl_Dw_48 ins_10 ini_10 o2 o3 d_Dw_init_73 ?_
  obtain ⟨σ4, hσ4⟩ : ∃ z, z = (nO (uR σ 6 s0 (some s1)) 11 0) := ⟨_, rfl⟩
  refine Aw.toS (σ' := σ4) hσ4 ?_
  have h := h σ4 hσ4
  refine Aw.dup rfl d_Dw_init_76 ?_
  exact h
theorem b_Dw_init_80 {Ω : Om} {R : Room} {F : QF} {k n : Nat} {σ : Sto} {a0 : Nat} {s0 : Nat} {s1 : Nat} (h : sK σ s0 = 1 ∧ k + 1 ≤ R.cells ∧ n + 14 ≤ R.slots ∧ (∀ σ4 : Sto, σ4 = (nO (uR σ 7 s0 (some s1)) 4 0) → Aw Ω M_Dw_init R F (k + 1) (n + 14) 88 [xr (some a0), xu] [xr (some (sN σ)), xr (some (sN σ)), xr (some a0)] σ4)) : Aw Ω M_Dw_init R F k n 80 [xr (some a0), xu] [xr (some s1), xr (some s0)] σ := by
  obtain ⟨o1, h⟩ := h
  refine Aw.putRF (f := 7) 0 7 fm_Dw_51 (by decide) (by decide) rfl rfl o1 rfl rfl rfl rfl d_Dw_init_80 ?_
  refine Aw.aload_n rfl d_Dw_init_83 ?_
  obtain ⟨o2, o3, h⟩ := h
  refine Aw.new 3 (by decide) cl_Dw_55 ins_3 ini_3 o2 o3 d_Dw_init_84 ?_
  obtain ⟨σ4, hσ4⟩ : ∃ z, z = (nO (uR σ 7 s0 (some s1)) 4 0) := ⟨_, rfl⟩
  refine Aw.toS (σ' := σ4) hσ4 ?_
  have h := h σ4 hσ4
  refine Aw.dup rfl d_Dw_init_87 ?_
  exact h
theorem b_Dw_init_91 {Ω : Om} {R : Room} {F : QF} {k n : Nat} {σ : Sto} {a0 : Nat} {s0 : Nat} {s1 : Nat} (h : sK σ s0 = 1 ∧ k + 1 ≤ R.cells ∧ n + 14 ≤ R.slots ∧ (∀ σ4 : Sto, σ4 = (nO (uR σ 8 s0 (some s1)) 4 0) → Aw Ω M_Dw_init R F (k + 1) (n + 14) 99 [xr (some a0), xu] [xr (some (sN σ)), xr (some (sN σ)), xr (some a0)] σ4)) : Aw Ω M_Dw_init R F k n 91 [xr (some a0), xu] [xr (some s1), xr (some s0)] σ := by
  obtain ⟨o1, h⟩ := h
  refine Aw.putR (f := 8) 0 8 fl_Dw_58 (by decide) (by decide) rfl rfl o1 rfl rfl d_Dw_init_91 ?_
  refine Aw.aload_n rfl d_Dw_init_94 ?_
  obtain ⟨o2, o3, h⟩ := h
  refine Aw.new 3 (by decide) cl_Dw_55 ins_3 ini_3 o2 o3 d_Dw_init_95 ?_
  obtain ⟨σ4, hσ4⟩ : ∃ z, z = (nO (uR σ 8 s0 (some s1)) 4 0) := ⟨_, rfl⟩
  refine Aw.toS (σ' := σ4) hσ4 ?_
  have h := h σ4 hσ4
  refine Aw.dup rfl d_Dw_init_98 ?_
  exact h
theorem b_Dw_init_102 {Ω : Om} {R : Room} {F : QF} {k n : Nat} {σ : Sto} {a0 : Nat} {s0 : Nat} {s1 : Nat} (h : sK σ s0 = 1 ∧ sK σ a0 = 1 ∧ Aw Ω M_Dw_init R F k n 142 [xr (some a0), xi 0] [] (uI (uI (uI (uI (uI (uI (uI (uR σ 9 s0 (some s1)) 10 a0 0) 11 a0 0) 12 a0 1) 13 a0 0) 14 a0 0) 15 a0 0) 16 a0 0)) : Aw Ω M_Dw_init R F k n 102 [xr (some a0), xu] [xr (some s1), xr (some s0)] σ := by
  obtain ⟨o1, h⟩ := h
  refine Aw.putR (f := 9) 0 9 fl_Dw_62 (by decide) (by decide) rfl rfl o1 rfl rfl d_Dw_init_102 ?_
  refine Aw.aload_n rfl d_Dw_init_105 ?_
  refine Aw.iconst d_Dw_init_106 ?_
  obtain ⟨o2, h⟩ := h
  refine Aw.putI (f := 10) 0 10 fl_Dw_65 (by decide) (by decide) rfl rfl o2 rfl ⟨by decide, by decide⟩ (Or.inr ⟨rfl, by decide⟩) d_Dw_init_107 ?_
  refine Aw.aload_n rfl d_Dw_init_110 ?_
  refine Aw.iconst d_Dw_init_111 ?_
  refine Aw.putI (f := 11) 0 11 fl_Dw_69 (by decide) (by decide) rfl rfl o2 rfl ⟨by decide, by decide⟩ (Or.inr ⟨rfl, by decide⟩) d_Dw_init_112 ?_
  refine Aw.aload_n rfl d_Dw_init_115 ?_
  refine Aw.iconst d_Dw_init_116 ?_
  refine Aw.putI (f := 12) 0 12 fl_Dw_72 (by decide) (by decide) rfl rfl o2 rfl ⟨by decide, by decide⟩ (Or.inl rfl) d_Dw_init_117 ?_
  refine Aw.aload_n rfl d_Dw_init_120 ?_
  refine Aw.iconst d_Dw_init_121 ?_
  refine Aw.putI (f := 13) 0 13 fl_Dw_76 (by decide) (by decide) rfl rfl o2 rfl ⟨by decide, by decide⟩ (Or.inl rfl) d_Dw_init_122 ?_
  refine Aw.aload_n rfl d_Dw_init_125 ?_
  refine Aw.iconst d_Dw_init_126 ?_
  refine Aw.putI (f := 14) 0 14 fl_Dw_79 (by decide) (by decide) rfl rfl o2 rfl ⟨by decide, by decide⟩ (Or.inl rfl) d_Dw_init_127 ?_
  refine Aw.aload_n rfl d_Dw_init_130 ?_
  refine Aw.iconst d_Dw_init_131 ?_
  refine Aw.putI (f := 15) 0 15 fl_Dw_82 (by decide) (by decide) rfl rfl o2 rfl ⟨by decide, by decide⟩ (Or.inl rfl) d_Dw_init_132 ?_
  refine Aw.aload_n rfl d_Dw_init_135 ?_
  refine Aw.iconst d_Dw_init_136 ?_
  refine Aw.putI (f := 16) 0 16 fl_Dw_85 (by decide) (by decide) rfl rfl o2 rfl ⟨by decide, by decide⟩ (Or.inl rfl) d_Dw_init_137 ?_
  refine Aw.iconst d_Dw_init_140 ?_
  refine Aw.istore_n (by decide) d_Dw_init_141 ?_
  refine Aw.toL (L' := [xr (some a0), xi 0]) rfl ?_
  exact h
theorem b_Dw_init_142 {Ω : Om} {R : Room} {F : QF} {k n : Nat} {σ : Sto} {a0 : Nat} {v1 : Int} (h : Q32 v1 ∧ (((40 : Int) ≤ v1 → Aw Ω M_Dw_init R F k n 169 [xr (some a0), xi 0] [] σ) ∧ (¬ (40 : Int) ≤ v1 → sK σ a0 = 1 ∧ (∃ b3 : Nat, fR σ 0 a0 = some b3 ∧ k + 1 ≤ R.cells ∧ n + 7 ≤ R.slots ∧ (∀ σ7 : Sto, σ7 = (nO σ 12 0) → Aw Ω M_Dw_init R F (k + 1) (n + 7) 157 [xr (some a0), xi v1] [xr (some (sN σ)), xr (some (sN σ)), xi v1, xr (some b3)] σ7))))) : Aw Ω M_Dw_init R F k n 142 [xr (some a0), xi v1] [] σ := by
  refine Aw.iload_n rfl d_Dw_init_142 ?_
  refine Aw.bipush (by decide) d_Dw_init_143 ?_
  obtain ⟨o1, h⟩ := h
  obtain ⟨ht, hf⟩ := h
  refine Aw.icmp_ge (tgt := 167) o1 ⟨by decide, by decide⟩ (by decide) d_Dw_init_145 (fun c8 => ?_) (fun c8 => ?_)
  · have h := ht c8
    refine Aw.iconst d_Dw_init_167 ?_
    refine Aw.istore_n (by decide) d_Dw_init_168 ?_
    refine Aw.toL (L' := [xr (some a0), xi 0]) rfl ?_
    exact h
  · have h := hf c8
    refine Aw.aload_n rfl d_Dw_init_148 ?_
    obtain ⟨o2, h⟩ := h
    obtain ⟨b3, e4, h⟩ := h
    refine Aw.getRs (f := 0) 0 0 fl_Dw_11 (by decide) (by decide) rfl rfl o2 e4 d_Dw_init_149 ?_
    refine Aw.iload_n rfl d_Dw_init_152 ?_
    obtain ⟨o5, o6, h⟩ := h
    refine Aw.new 11 (by decide) cl_Dw_9 ins_11 ini_11 o5 o6 d_Dw_init_153 ?_
    obtain ⟨σ7, hσ7⟩ : ∃ z, z = (nO σ 12 0) := ⟨_, rfl⟩
    refine Aw.toS (σ' := σ7) hσ7 ?_
    have h := h σ7 hσ7
    refine Aw.dup rfl d_Dw_init_156 ?_
    exact h
theorem b_Dw_init_160 {Ω : Om} {R : Room} {F : QF} {k n : Nat} {σ : Sto} {a0 : Nat} {v1 : Int} {s0 : Nat} {s1 : Int} {s2 : Nat} (h : sK σ s0 = 55 ∧ 0 ≤ s1 ∧ s1 < sZ σ s0 ∧ sK σ s2 = 12 ∧ Aw Ω M_Dw_init R F k n 142 [xr (some a0), xi (v1 + 1)] [] (vR σ s0 (s1).toNat (some s2))) : Aw Ω M_Dw_init R F k n 160 [xr (some a0), xi v1] [xr (some s2), xi s1, xr (some s0)] σ := by
  obtain ⟨o1, h⟩ := h
  obtain ⟨o2, o3, h⟩ := h
  obtain ⟨o4, h⟩ := h
  refine Aw.aast 5 11 (by decide) (by decide) (by decide) (Or.inl rfl) o1 o4 o2 o3 d_Dw_init_160 ?_
  refine Aw.iinc rfl d_Dw_init_161 ?_
  refine Aw.toL (L' := [xr (some a0), xi (v1 + 1)]) rfl ?_
  refine Aw.goto (tgt := 142) (by decide) d_Dw_init_164 ?_
  exact h
theorem b_Dw_init_169 {Ω : Om} {R : Room} {F : QF} {k n : Nat} {σ : Sto} {a0 : Nat} {v1 : Int} (h : Q32 v1 ∧ (((10 : Int) ≤ v1 → Aw Ω M_Dw_init R F k n 196 [xr (some a0), xi 0] [] σ) ∧ (¬ (10 : Int) ≤ v1 → sK σ a0 = 1 ∧ (∃ b3 : Nat, fR σ 1 a0 = some b3 ∧ k + 1 ≤ R.cells ∧ n + 2 ≤ R.slots ∧ (∀ σ7 : Sto, σ7 = (nO σ 8 0) → Aw Ω M_Dw_init R F (k + 1) (n + 2) 184 [xr (some a0), xi v1] [xr (some (sN σ)), xr (some (sN σ)), xi v1, xr (some b3)] σ7))))) : Aw Ω M_Dw_init R F k n 169 [xr (some a0), xi v1] [] σ := by
  refine Aw.iload_n rfl d_Dw_init_169 ?_
  refine Aw.bipush (by decide) d_Dw_init_170 ?_
  obtain ⟨o1, h⟩ := h
  obtain ⟨ht, hf⟩ := h
  refine Aw.icmp_ge (tgt := 194) o1 ⟨by decide, by decide⟩ (by decide) d_Dw_init_172 (fun c8 => ?_) (fun c8 => ?_)
  · have h := ht c8
    refine Aw.iconst d_Dw_init_194 ?_
    refine Aw.istore_n (by decide) d_Dw_init_195 ?_
    refine Aw.toL (L' := [xr (some a0), xi 0]) rfl ?_
    exact h
  · have h := hf c8
    refine Aw.aload_n rfl d_Dw_init_175 ?_
    obtain ⟨o2, h⟩ := h
    obtain ⟨b3, e4, h⟩ := h
    refine Aw.getRs (f := 1) 0 1 fl_Dw_17 (by decide) (by decide) rfl rfl o2 e4 d_Dw_init_176 ?_
    refine Aw.iload_n rfl d_Dw_init_179 ?_
    obtain ⟨o5, o6, h⟩ := h
    refine Aw.new 7 (by decide) cl_Dw_15 ins_7 ini_7 o5 o6 d_Dw_init_180 ?_
    obtain ⟨σ7, hσ7⟩ : ∃ z, z = (nO σ 8 0) := ⟨_, rfl⟩
    refine Aw.toS (σ' := σ7) hσ7 ?_
    have h := h σ7 hσ7
    refine Aw.dup rfl d_Dw_init_183 ?_
    exact h
theorem b_Dw_init_187 {Ω : Om} {R : Room} {F : QF} {k n : Nat} {σ : Sto} {a0 : Nat} {v1 : Int} {s0 : Nat} {s1 : Int} {s2 : Nat} (h : sK σ s0 = 56 ∧ 0 ≤ s1 ∧ s1 < sZ σ s0 ∧ sK σ s2 = 8 ∧ Aw Ω M_Dw_init R F k n 169 [xr (some a0), xi (v1 + 1)] [] (vR σ s0 (s1).toNat (some s2))) : Aw Ω M_Dw_init R F k n 187 [xr (some a0), xi v1] [xr (some s2), xi s1, xr (some s0)] σ := by
  obtain ⟨o1, h⟩ := h
  obtain ⟨o2, o3, h⟩ := h
  obtain ⟨o4, h⟩ := h
  refine Aw.aast 6 7 (by decide) (by decide) (by decide) (Or.inl rfl) o1 o4 o2 o3 d_Dw_init_187 ?_
  refine Aw.iinc rfl d_Dw_init_188 ?_
  refine Aw.toL (L' := [xr (some a0), xi (v1 + 1)]) rfl ?_
  refine Aw.goto (tgt := 169) (by decide) d_Dw_init_191 ?_
  exact h
theorem b_Dw_init_196 {Ω : Om} {R : Room} {F : QF} {k n : Nat} {σ : Sto} {a0 : Nat} {v1 : Int} (h : Q32 v1 ∧ (((20 : Int) ≤ v1 → Aw Ω M_Dw_init R F k n 221 [xr (some a0), xi v1] [] σ) ∧ (¬ (20 : Int) ≤ v1 → sK σ a0 = 1 ∧ (∃ b3 : Nat, fR σ 2 a0 = some b3 ∧ k + 1 ≤ R.cells ∧ n + 4 ≤ R.slots ∧ (∀ σ7 : Sto, σ7 = (nO σ 9 0) → Aw Ω M_Dw_init R F (k + 1) (n + 4) 211 [xr (some a0), xi v1] [xr (some (sN σ)), xr (some (sN σ)), xi v1, xr (some b3)] σ7))))) : Aw Ω M_Dw_init R F k n 196 [xr (some a0), xi v1] [] σ := by
  refine Aw.iload_n rfl d_Dw_init_196 ?_
  refine Aw.bipush (by decide) d_Dw_init_197 ?_
  obtain ⟨o1, h⟩ := h
  obtain ⟨ht, hf⟩ := h
  refine Aw.icmp_ge (tgt := 221) o1 ⟨by decide, by decide⟩ (by decide) d_Dw_init_199 (fun c8 => ?_) (fun c8 => ?_)
  · have h := ht c8
    exact h
  · have h := hf c8
    refine Aw.aload_n rfl d_Dw_init_202 ?_
    obtain ⟨o2, h⟩ := h
    obtain ⟨b3, e4, h⟩ := h
    refine Aw.getRs (f := 2) 0 2 fl_Dw_23 (by decide) (by decide) rfl rfl o2 e4 d_Dw_init_203 ?_
    refine Aw.iload_n rfl d_Dw_init_206 ?_
    obtain ⟨o5, o6, h⟩ := h
    refine Aw.new 8 (by decide) cl_Dw_21 ins_8 ini_8 o5 o6 d_Dw_init_207 ?_
    obtain ⟨σ7, hσ7⟩ : ∃ z, z = (nO σ 9 0) := ⟨_, rfl⟩
    refine Aw.toS (σ' := σ7) hσ7 ?_
    have h := h σ7 hσ7
    refine Aw.dup rfl d_Dw_init_210 ?_
    exact h
theorem b_Dw_init_214 {Ω : Om} {R : Room} {F : QF} {k n : Nat} {σ : Sto} {a0 : Nat} {v1 : Int} {s0 : Nat} {s1 : Int} {s2 : Nat} (h : sK σ s0 = 57 ∧ 0 ≤ s1 ∧ s1 < sZ σ s0 ∧ sK σ s2 = 9 ∧ Aw Ω M_Dw_init R F k n 196 [xr (some a0), xi (v1 + 1)] [] (vR σ s0 (s1).toNat (some s2))) : Aw Ω M_Dw_init R F k n 214 [xr (some a0), xi v1] [xr (some s2), xi s1, xr (some s0)] σ := by
  obtain ⟨o1, h⟩ := h
  obtain ⟨o2, o3, h⟩ := h
  obtain ⟨o4, h⟩ := h
  refine Aw.aast 7 8 (by decide) (by decide) (by decide) (Or.inl rfl) o1 o4 o2 o3 d_Dw_init_214 ?_
  refine Aw.iinc rfl d_Dw_init_215 ?_
  refine Aw.toL (L' := [xr (some a0), xi (v1 + 1)]) rfl ?_
  refine Aw.goto (tgt := 196) (by decide) d_Dw_init_218 ?_
  exact h
theorem c_Dw_init_44 {Ω : Om} {R R' : Room} {F : QF} {k n : Nat} {L st : List PV} {σ : Sto} {QX' : String → Sto → Prop} {Q : Sto → Prop} {a : Nat} (hc : MC Ω M_Lbk_init R' (RV Q) QX' σ [xr (some a)]) (hr1 : R'.frames + 1 ≤ R.frames) (hr2 : 8 + (1 + 11) + R'.locals ≤ R.locals) (hb1 : k + R'.cells ≤ R.cells) (hb2 : n + R'.slots ≤ R.slots) (hst : (st.map catP).sum ≤ 8) (kk : ∀ σ', Q σ' → Aw Ω M_Dw_init R F (k + R'.cells) (n + R'.slots) 47 L st σ') (kx : ∀ E σ', QX' E σ' → Ax Ω M_Dw_init R F (k + R'.cells) (n + R'.slots) 44 L st σ' E) : Aw Ω M_Dw_init R F k n 44 L (xr (some a) :: st) σ :=
  Aw.callI (As := []) (stk := xr (some a) :: st) (nn := 0) M_Lbk_init hc ok_Lbk_init rfl rfl rfl im_Lbk_init (Or.inr ⟨_, ml_Dw_33⟩) ⟨hr1, hr2⟩ rfl ⟨hb1, hb2⟩ hst rfl d_Dw_init_44 (fun r σ' h => by obtain ⟨rfl, h⟩ := h; exact kk σ' h) kx
theorem c_Dw_init_55 {Ω : Om} {R R' : Room} {F : QF} {k n : Nat} {L st : List PV} {σ : Sto} {QX' : String → Sto → Prop} {Q : Sto → Prop} {a : Nat} (hc : MC Ω M_Cmp_init R' (RV Q) QX' σ [xr (some a)]) (hr1 : R'.frames + 1 ≤ R.frames) (hr2 : 8 + (1 + 11) + R'.locals ≤ R.locals) (hb1 : k + R'.cells ≤ R.cells) (hb2 : n + R'.slots ≤ R.slots) (hst : (st.map catP).sum ≤ 8) (kk : ∀ σ', Q σ' → Aw Ω M_Dw_init R F (k + R'.cells) (n + R'.slots) 58 L st σ') (kx : ∀ E σ', QX' E σ' → Ax Ω M_Dw_init R F (k + R'.cells) (n + R'.slots) 55 L st σ' E) : Aw Ω M_Dw_init R F k n 55 L (xr (some a) :: st) σ :=
  Aw.callI (As := []) (stk := xr (some a) :: st) (nn := 0) M_Cmp_init hc ok_Cmp_init rfl rfl rfl im_Cmp_init (Or.inr ⟨_, ml_Dw_40⟩) ⟨hr1, hr2⟩ rfl ⟨hb1, hb2⟩ hst rfl d_Dw_init_55 (fun r σ' h => by obtain ⟨rfl, h⟩ := h; exact kk σ' h) kx
theorem c_Dw_init_66 {Ω : Om} {R R' : Room} {F : QF} {k n : Nat} {L st : List PV} {σ : Sto} {QX' : String → Sto → Prop} {Q : Sto → Prop} {a : Nat} (hc : MC Ω M_Cmp_init R' (RV Q) QX' σ [xr (some a)]) (hr1 : R'.frames + 1 ≤ R.frames) (hr2 : 8 + (1 + 11) + R'.locals ≤ R.locals) (hb1 : k + R'.cells ≤ R.cells) (hb2 : n + R'.slots ≤ R.slots) (hst : (st.map catP).sum ≤ 8) (kk : ∀ σ', Q σ' → Aw Ω M_Dw_init R F (k + R'.cells) (n + R'.slots) 69 L st σ') (kx : ∀ E σ', QX' E σ' → Ax Ω M_Dw_init R F (k + R'.cells) (n + R'.slots) 66 L st σ' E) : Aw Ω M_Dw_init R F k n 66 L (xr (some a) :: st) σ :=
  Aw.callI (As := []) (stk := xr (some a) :: st) (nn := 0) M_Cmp_init hc ok_Cmp_init rfl rfl rfl im_Cmp_init (Or.inr ⟨_, ml_Dw_40⟩) ⟨hr1, hr2⟩ rfl ⟨hb1, hb2⟩ hst rfl d_Dw_init_66 (fun r σ' h => by obtain ⟨rfl, h⟩ := h; exact kk σ' h) kx
theorem c_Dw_init_77 {Ω : Om} {R R' : Room} {F : QF} {k n : Nat} {L st : List PV} {σ : Sto} {QX' : String → Sto → Prop} {Q : Sto → Prop} {a : Nat} (hc : MC Ω M_Trm_init R' (RV Q) QX' σ [xr (some a)]) (hr1 : R'.frames + 1 ≤ R.frames) (hr2 : 8 + (1 + 11) + R'.locals ≤ R.locals) (hb1 : k + R'.cells ≤ R.cells) (hb2 : n + R'.slots ≤ R.slots) (hst : (st.map catP).sum ≤ 8) (kk : ∀ σ', Q σ' → Aw Ω M_Dw_init R F (k + R'.cells) (n + R'.slots) 80 L st σ') (kx : ∀ E σ', QX' E σ' → Ax Ω M_Dw_init R F (k + R'.cells) (n + R'.slots) 77 L st σ' E) : Aw Ω M_Dw_init R F k n 77 L (xr (some a) :: st) σ :=
  Aw.callI (As := []) (stk := xr (some a) :: st) (nn := 0) M_Trm_init hc ok_Trm_init rfl rfl rfl im_Trm_init (Or.inr ⟨_, ml_Dw_50⟩) ⟨hr1, hr2⟩ rfl ⟨hb1, hb2⟩ hst rfl d_Dw_init_77 (fun r σ' h => by obtain ⟨rfl, h⟩ := h; exact kk σ' h) kx
theorem c_Dw_init_88 {Ω : Om} {R R' : Room} {F : QF} {k n : Nat} {L st : List PV} {σ : Sto} {QX' : String → Sto → Prop} {Q : Sto → Prop} {a : Nat} (hc : MC Ω M_Drf_init R' (RV Q) QX' σ [xr (some a)]) (hr1 : R'.frames + 1 ≤ R.frames) (hr2 : 8 + (2 + 11) + R'.locals ≤ R.locals) (hb1 : k + R'.cells ≤ R.cells) (hb2 : n + R'.slots ≤ R.slots) (hst : (st.map catP).sum ≤ 8) (kk : ∀ σ', Q σ' → Aw Ω M_Dw_init R F (k + R'.cells) (n + R'.slots) 91 L st σ') (kx : ∀ E σ', QX' E σ' → Ax Ω M_Dw_init R F (k + R'.cells) (n + R'.slots) 88 L st σ' E) : Aw Ω M_Dw_init R F k n 88 L (xr (some a) :: st) σ :=
  Aw.callI (As := []) (stk := xr (some a) :: st) (nn := 0) M_Drf_init hc ok_Drf_init rfl rfl rfl im_Drf_init (Or.inl ml_Dw_57) ⟨hr1, hr2⟩ rfl ⟨hb1, hb2⟩ hst rfl d_Dw_init_88 (fun r σ' h => by obtain ⟨rfl, h⟩ := h; exact kk σ' h) kx
theorem c_Dw_init_99 {Ω : Om} {R R' : Room} {F : QF} {k n : Nat} {L st : List PV} {σ : Sto} {QX' : String → Sto → Prop} {Q : Sto → Prop} {a : Nat} (hc : MC Ω M_Drf_init R' (RV Q) QX' σ [xr (some a)]) (hr1 : R'.frames + 1 ≤ R.frames) (hr2 : 8 + (2 + 11) + R'.locals ≤ R.locals) (hb1 : k + R'.cells ≤ R.cells) (hb2 : n + R'.slots ≤ R.slots) (hst : (st.map catP).sum ≤ 8) (kk : ∀ σ', Q σ' → Aw Ω M_Dw_init R F (k + R'.cells) (n + R'.slots) 102 L st σ') (kx : ∀ E σ', QX' E σ' → Ax Ω M_Dw_init R F (k + R'.cells) (n + R'.slots) 99 L st σ' E) : Aw Ω M_Dw_init R F k n 99 L (xr (some a) :: st) σ :=
  Aw.callI (As := []) (stk := xr (some a) :: st) (nn := 0) M_Drf_init hc ok_Drf_init rfl rfl rfl im_Drf_init (Or.inl ml_Dw_57) ⟨hr1, hr2⟩ rfl ⟨hb1, hb2⟩ hst rfl d_Dw_init_99 (fun r σ' h => by obtain ⟨rfl, h⟩ := h; exact kk σ' h) kx
theorem c_Dw_init_157 {Ω : Om} {R R' : Room} {F : QF} {k n : Nat} {L st : List PV} {σ : Sto} {QX' : String → Sto → Prop} {Q : Sto → Prop} {a : Nat} (hc : MC Ω M_Ver_init R' (RV Q) QX' σ [xr (some a)]) (hr1 : R'.frames + 1 ≤ R.frames) (hr2 : 8 + (1 + 11) + R'.locals ≤ R.locals) (hb1 : k + R'.cells ≤ R.cells) (hb2 : n + R'.slots ≤ R.slots) (hst : (st.map catP).sum ≤ 8) (kk : ∀ σ', Q σ' → Aw Ω M_Dw_init R F (k + R'.cells) (n + R'.slots) 160 L st σ') (kx : ∀ E σ', QX' E σ' → Ax Ω M_Dw_init R F (k + R'.cells) (n + R'.slots) 157 L st σ' E) : Aw Ω M_Dw_init R F k n 157 L (xr (some a) :: st) σ :=
  Aw.callI (As := []) (stk := xr (some a) :: st) (nn := 0) M_Ver_init hc ok_Ver_init rfl rfl rfl im_Ver_init (Or.inr ⟨_, ml_Dw_88⟩) ⟨hr1, hr2⟩ rfl ⟨hb1, hb2⟩ hst rfl d_Dw_init_157 (fun r σ' h => by obtain ⟨rfl, h⟩ := h; exact kk σ' h) kx
theorem c_Dw_init_184 {Ω : Om} {R R' : Room} {F : QF} {k n : Nat} {L st : List PV} {σ : Sto} {QX' : String → Sto → Prop} {Q : Sto → Prop} {a : Nat} (hc : MC Ω M_Pat_init R' (RV Q) QX' σ [xr (some a)]) (hr1 : R'.frames + 1 ≤ R.frames) (hr2 : 8 + (1 + 11) + R'.locals ≤ R.locals) (hb1 : k + R'.cells ≤ R.cells) (hb2 : n + R'.slots ≤ R.slots) (hst : (st.map catP).sum ≤ 8) (kk : ∀ σ', Q σ' → Aw Ω M_Dw_init R F (k + R'.cells) (n + R'.slots) 187 L st σ') (kx : ∀ E σ', QX' E σ' → Ax Ω M_Dw_init R F (k + R'.cells) (n + R'.slots) 184 L st σ' E) : Aw Ω M_Dw_init R F k n 184 L (xr (some a) :: st) σ :=
  Aw.callI (As := []) (stk := xr (some a) :: st) (nn := 0) M_Pat_init hc ok_Pat_init rfl rfl rfl im_Pat_init (Or.inr ⟨_, ml_Dw_89⟩) ⟨hr1, hr2⟩ rfl ⟨hb1, hb2⟩ hst rfl d_Dw_init_184 (fun r σ' h => by obtain ⟨rfl, h⟩ := h; exact kk σ' h) kx
theorem c_Dw_init_211 {Ω : Om} {R R' : Room} {F : QF} {k n : Nat} {L st : List PV} {σ : Sto} {QX' : String → Sto → Prop} {Q : Sto → Prop} {a : Nat} (hc : MC Ω M_Rev_init R' (RV Q) QX' σ [xr (some a)]) (hr1 : R'.frames + 1 ≤ R.frames) (hr2 : 8 + (1 + 11) + R'.locals ≤ R.locals) (hb1 : k + R'.cells ≤ R.cells) (hb2 : n + R'.slots ≤ R.slots) (hst : (st.map catP).sum ≤ 8) (kk : ∀ σ', Q σ' → Aw Ω M_Dw_init R F (k + R'.cells) (n + R'.slots) 214 L st σ') (kx : ∀ E σ', QX' E σ' → Ax Ω M_Dw_init R F (k + R'.cells) (n + R'.slots) 211 L st σ' E) : Aw Ω M_Dw_init R F k n 211 L (xr (some a) :: st) σ :=
  Aw.callI (As := []) (stk := xr (some a) :: st) (nn := 0) M_Rev_init hc ok_Rev_init rfl rfl rfl im_Rev_init (Or.inr ⟨_, ml_Dw_90⟩) ⟨hr1, hr2⟩ rfl ⟨hb1, hb2⟩ hst rfl d_Dw_init_211 (fun r σ' h => by obtain ⟨rfl, h⟩ := h; exact kk σ' h) kx
theorem r_Dw_init_221 {Ω : Om} {R : Room} {k n : Nat} {L : List PV} {σ : Sto} {QR : Option PV → Sto → Prop} {QX : String → Sto → Prop} (h : QR none σ) (h1 : k ≤ R.cells) (h2 : n ≤ R.slots) : Aw Ω M_Dw_init R (MF Ω R QR QX) k n 221 L [] σ := Aw.vret rfl h h1 h2 d_Dw_init_221
theorem e_Dw_insert {Ω : Om} {R : Room} {QR : Option PV → Sto → Prop} {QX : String → Sto → Prop} {σ : Sto} {a0 : Nat} {v1 : Int} {v2 : Int64} (h : Aw Ω M_Dw_insert R (MF Ω R QR QX) 0 0 0 [xr (some a0), xi v1, xl v2, xu] [] σ) : MC Ω M_Dw_insert R QR QX σ [xr (some a0), xi v1, xl v2] := MC.body (by decide +kernel) rfl (Nat.le_of_ble_eq_true rfl) rfl h
theorem b_Dw_insert_0 {Ω : Om} {R : Room} {F : QF} {k n : Nat} {σ : Sto} {a0 : Nat} {v1 : Int} {v2 : Int64} (h : Aw Ω M_Dw_insert R F k n 3 [xr (some a0), xi v1, xl v2, xu] [xr (some a0), xi v1, xr (some a0)] σ) : Aw Ω M_Dw_insert R F k n 0 [xr (some a0), xi v1, xl v2, xu] [] σ := by
  refine Aw.aload_n rfl d_Dw_insert_0 ?_
  refine Aw.iload_n rfl d_Dw_insert_1 ?_
  refine Aw.aload_n rfl d_Dw_insert_2 ?_
  exact h
theorem b_Dw_insert_6 {Ω : Om} {R : Room} {F : QF} {k n : Nat} {σ : Sto} {a0 : Nat} {v1 : Int} {v2 : Int64} {s0 : Nat} {s1 : Int} {s2 : Int} (h : Aw Ω M_Dw_insert R F k n 8 [xr (some a0), xi v1, xl v2, xu] [xi (s2 + 1), xi s1, xr (some s0)] σ) : Aw Ω M_Dw_insert R F k n 6 [xr (some a0), xi v1, xl v2, xu] [xi s2, xi s1, xr (some s0)] σ := by
  refine Aw.iconst d_Dw_insert_6 ?_
  refine Aw.iadd d_Dw_insert_7 ?_
  exact h
theorem b_Dw_insert_11 {Ω : Om} {R : Room} {F : QF} {k n : Nat} {σ : Sto} {a0 : Nat} {v1 : Int} {v2 : Int64} (h : Aw Ω M_Dw_insert R F k n 13 [xr (some a0), xi v1, xl v2, xu] [xl v2, xr (some a0)] σ) : Aw Ω M_Dw_insert R F k n 11 [xr (some a0), xi v1, xl v2, xu] [] σ := by
  refine Aw.aload_n rfl d_Dw_insert_11 ?_
  refine Aw.lload_n rfl d_Dw_insert_12 ?_
  exact h
theorem b_Dw_insert_16 {Ω : Om} {R : Room} {F : QF} {k n : Nat} {σ : Sto} {a0 : Nat} {v1 : Int} {v2 : Int64} (h : Aw Ω M_Dw_insert R F k n 17 [xr (some a0), xi v1, xl v2, xu] [xr (some a0)] σ) : Aw Ω M_Dw_insert R F k n 16 [xr (some a0), xi v1, xl v2, xu] [] σ := by
  refine Aw.aload_n rfl d_Dw_insert_16 ?_
  exact h
theorem b_Dw_insert_20 {Ω : Om} {R : Room} {F : QF} {k n : Nat} {σ : Sto} {a0 : Nat} {v1 : Int} {v2 : Int64} (h : sK σ a0 = 1 ∧ (∃ b2 : Nat, fR σ 8 a0 = some b2 ∧ sK σ b2 = 4 ∧ (∃ b5 : Nat, fR σ 192 b2 = some b5 ∧ Aw Ω M_Dw_insert R F k n 27 [xr (some a0), xi v1, xl v2, xu] [xr (some b5)] σ))) : Aw Ω M_Dw_insert R F k n 20 [xr (some a0), xi v1, xl v2, xu] [] σ := by
  refine Aw.aload_n rfl d_Dw_insert_20 ?_
  obtain ⟨o1, h⟩ := h
  obtain ⟨b2, e3, h⟩ := h
  refine Aw.getRs (f := 8) 0 8 fl_Dw_58 (by decide) (by decide) rfl rfl o1 e3 d_Dw_insert_21 ?_
  obtain ⟨o4, h⟩ := h
  obtain ⟨b5, e6, h⟩ := h
  refine Aw.getRs (f := 192) 3 0 fl_Dw_111 (by decide) (by decide) rfl rfl o4 e6 d_Dw_insert_24 ?_
  exact h
theorem b_Dw_insert_30 {Ω : Om} {R : Room} {F : QF} {k n : Nat} {σ : Sto} {a0 : Nat} {v1 : Int} {v2 : Int64} {s0 : Int} (h : Q32 s0 ∧ ((s0 < (20 : Int) → sK σ a0 = 1 ∧ (∃ b3 : Nat, fR σ 8 a0 = some b3 ∧ k + 1 ≤ R.cells ∧ n + 6 ≤ R.slots ∧ (∀ σ7 : Sto, σ7 = (nO σ 5 0) → Aw Ω M_Dw_insert R F (k + 1) (n + 6) 58 [xr (some a0), xi v1, xl v2, xu] [xr none, xl v2, xi (-1), xi v1, xi 0, xr (some (sN σ)), xr (some (sN σ)), xr (some b3)] σ7))) ∧ (¬ s0 < (20 : Int) → Aw Ω M_Dw_insert R F k n 35 [xr (some a0), xi v1, xl v2, xu] [] σ))) : Aw Ω M_Dw_insert R F k n 30 [xr (some a0), xi v1, xl v2, xu] [xi s0] σ := by
  refine Aw.bipush (by decide) d_Dw_insert_30 ?_
  obtain ⟨o1, h⟩ := h
  obtain ⟨ht, hf⟩ := h
  refine Aw.icmp_lt (tgt := 45) o1 ⟨by decide, by decide⟩ (by decide) d_Dw_insert_32 (fun c8 => ?_) (fun c8 => ?_)
  · have h := ht c8
    refine Aw.aload_n rfl d_Dw_insert_45 ?_
    obtain ⟨o2, h⟩ := h
    obtain ⟨b3, e4, h⟩ := h
    refine Aw.getRs (f := 8) 0 8 fl_Dw_58 (by decide) (by decide) rfl rfl o2 e4 d_Dw_insert_46 ?_
    obtain ⟨o5, o6, h⟩ := h
    refine Aw.new 4 (by decide) cl_Dw_139 ins_4 ini_4 o5 o6 d_Dw_insert_49 ?_
    obtain ⟨σ7, hσ7⟩ : ∃ z, z = (nO σ 5 0) := ⟨_, rfl⟩
    refine Aw.toS (σ' := σ7) hσ7 ?_
    have h := h σ7 hσ7
    refine Aw.dup rfl d_Dw_insert_52 ?_
    refine Aw.iconst d_Dw_insert_53 ?_
    refine Aw.iload_n rfl d_Dw_insert_54 ?_
    refine Aw.iconst d_Dw_insert_55 ?_
    refine Aw.lload_n rfl d_Dw_insert_56 ?_
    refine Aw.null d_Dw_insert_57 ?_
    exact h
  · have h := hf c8
    exact h
theorem b_Dw_insert_64 {Ω : Om} {R : Room} {F : QF} {k n : Nat} {σ : Sto} {a0 : Nat} {v1 : Int} {v2 : Int64} {s0 : Int} (h : sK σ a0 = 1 ∧ (∃ b2 : Nat, fR σ 8 a0 = some b2 ∧ (∃ b4 : Nat, fR σ 4 a0 = some b4 ∧ Aw Ω M_Dw_insert R F k n 73 [xr (some a0), xi v1, xl v2, xu] [xr (some b4), xr (some b2)] σ))) : Aw Ω M_Dw_insert R F k n 64 [xr (some a0), xi v1, xl v2, xu] [xi s0] σ := by
  refine Aw.pop rfl d_Dw_insert_64 ?_
  refine Aw.aload_n rfl d_Dw_insert_65 ?_
  obtain ⟨o1, h⟩ := h
  obtain ⟨b2, e3, h⟩ := h
  refine Aw.getRs (f := 8) 0 8 fl_Dw_58 (by decide) (by decide) rfl rfl o1 e3 d_Dw_insert_66 ?_
  refine Aw.aload_n rfl d_Dw_insert_69 ?_
  obtain ⟨b4, e5, h⟩ := h
  refine Aw.getRs (f := 4) 0 4 fl_Dw_34 (by decide) (by decide) rfl rfl o1 e5 d_Dw_insert_70 ?_
  exact h
theorem b_Dw_insert_76 {Ω : Om} {R : Room} {F : QF} {k n : Nat} {σ : Sto} {a0 : Nat} {v1 : Int} {v2 : Int64} (h : sK σ a0 = 1 ∧ (Q32 (fI σ 16 a0) → Q32 ((fI σ 16 a0) + 1) ∧ (∃ b4 : Nat, fR σ 8 a0 = some b4 ∧ sK σ b4 = 4 ∧ (∃ b7 : Nat, fR σ 192 b4 = some b7 ∧ Aw Ω M_Dw_insert R F k n 93 [xr (some a0), xi v1, xl v2, xu] [xr (some b7)] (uI σ 16 a0 ((fI σ 16 a0) + 1)))))) : Aw Ω M_Dw_insert R F k n 76 [xr (some a0), xi v1, xl v2, xu] [] σ := by
  refine Aw.aload_n rfl d_Dw_insert_76 ?_
  refine Aw.dup rfl d_Dw_insert_77 ?_
  obtain ⟨o1, h⟩ := h
  refine Aw.getI (f := 16) 0 16 fl_Dw_85 (by decide) (by decide) rfl rfl o1 d_Dw_insert_78 (fun r2 => ?_)
  have h := h r2
  refine Aw.iconst d_Dw_insert_81 ?_
  refine Aw.iadd d_Dw_insert_82 ?_
  obtain ⟨o3, h⟩ := h
  refine Aw.putI (f := 16) 0 16 fl_Dw_85 (by decide) (by decide) rfl rfl o1 rfl o3 (Or.inl rfl) d_Dw_insert_83 ?_
  refine Aw.aload_n rfl d_Dw_insert_86 ?_
  obtain ⟨b4, e5, h⟩ := h
  refine Aw.getRs (f := 8) 0 8 fl_Dw_58 (by decide) (by decide) rfl rfl o1 e5 d_Dw_insert_87 ?_
  obtain ⟨o6, h⟩ := h
  obtain ⟨b7, e8, h⟩ := h
  refine Aw.getRs (f := 192) 3 0 fl_Dw_111 (by decide) (by decide) rfl rfl o6 e8 d_Dw_insert_90 ?_
  exact h
theorem c_Dw_insert_3 {Ω : Om} {R R' : Room} {F : QF} {k n : Nat} {L st : List PV} {σ : Sto} {QX' : String → Sto → Prop} {Q : Int → Sto → Prop} {a : Nat} (hc : MC Ω M_Dw_draftSize R' (RI Q) QX' σ [xr (some a)]) (hk : sK σ a = 1) (hr1 : R'.frames + 1 ≤ R.frames) (hr2 : 8 + (1 + 11) + R'.locals ≤ R.locals) (hb1 : k + R'.cells ≤ R.cells) (hb2 : n + R'.slots ≤ R.slots) (hst : (st.map catP).sum ≤ 8) (kk : ∀ x σ', Q x σ' → Aw Ω M_Dw_insert R F (k + R'.cells) (n + R'.slots) 6 L (xi x :: st) σ') (kx : ∀ E σ', QX' E σ' → Ax Ω M_Dw_insert R F (k + R'.cells) (n + R'.slots) 3 L st σ' E) : Aw Ω M_Dw_insert R F k n 3 L (xr (some a) :: st) σ :=
  Aw.callV (As := []) (stk := xr (some a) :: st) (nn := 0) 0 M_Dw_draftSize hc ok_Dw_draftSize rfl (by decide) rfl hk ml_Dw_118 im_Dw_draftSize se_Dw_draftSize ⟨hr1, hr2⟩ rfl ⟨hb1, hb2⟩ hst rfl d_Dw_insert_3 (fun r σ' h => by obtain ⟨x, rfl, h⟩ := h; exact kk x σ' h) kx
theorem c_Dw_insert_8 {Ω : Om} {R R' : Room} {F : QF} {k n : Nat} {L st : List PV} {σ : Sto} {QX' : String → Sto → Prop} {Q : Sto → Prop} {a : Nat} {x0 : Int} {x1 : Int} (hc : MC Ω M_Dw_checkPlace R' (RV Q) QX' σ [xr (some a), xi x0, xi x1]) (hk : sK σ a = 1) (hr1 : R'.frames + 1 ≤ R.frames) (hr2 : 8 + (3 + 11) + R'.locals ≤ R.locals) (hb1 : k + R'.cells ≤ R.cells) (hb2 : n + R'.slots ≤ R.slots) (hst : (st.map catP).sum ≤ 8) (kk : ∀ σ', Q σ' → Aw Ω M_Dw_insert R F (k + R'.cells) (n + R'.slots) 11 L st σ') (kx : ∀ E σ', QX' E σ' → Ax Ω M_Dw_insert R F (k + R'.cells) (n + R'.slots) 8 L st σ' E) : Aw Ω M_Dw_insert R F k n 8 L (xi x1 :: xi x0 :: xr (some a) :: st) σ :=
  Aw.callV (As := [xi x0, xi x1]) (stk := xi x1 :: xi x0 :: xr (some a) :: st) (nn := 2) 0 M_Dw_checkPlace hc ok_Dw_checkPlace rfl (by decide) rfl hk ml_Dw_121 im_Dw_checkPlace se_Dw_checkPlace ⟨hr1, hr2⟩ rfl ⟨hb1, hb2⟩ hst rfl d_Dw_insert_8 (fun r σ' h => by obtain ⟨rfl, h⟩ := h; exact kk σ' h) kx
theorem c_Dw_insert_13 {Ω : Om} {R R' : Room} {F : QF} {k n : Nat} {L st : List PV} {σ : Sto} {QX' : String → Sto → Prop} {Q : Sto → Prop} {a : Nat} {x0 : Int64} (hc : MC Ω M_Dw_checkLine R' (RV Q) QX' σ [xr (some a), xl x0]) (hk : sK σ a = 1) (hr1 : R'.frames + 1 ≤ R.frames) (hr2 : 8 + (3 + 11) + R'.locals ≤ R.locals) (hb1 : k + R'.cells ≤ R.cells) (hb2 : n + R'.slots ≤ R.slots) (hst : (st.map catP).sum ≤ 8) (kk : ∀ σ', Q σ' → Aw Ω M_Dw_insert R F (k + R'.cells) (n + R'.slots) 16 L st σ') (kx : ∀ E σ', QX' E σ' → Ax Ω M_Dw_insert R F (k + R'.cells) (n + R'.slots) 13 L st σ' E) : Aw Ω M_Dw_insert R F k n 13 L (xl x0 :: xr (some a) :: st) σ :=
  Aw.callV (As := [xl x0]) (stk := xl x0 :: xr (some a) :: st) (nn := 1) 0 M_Dw_checkLine hc ok_Dw_checkLine rfl (by decide) rfl hk ml_Dw_125 im_Dw_checkLine se_Dw_checkLine ⟨hr1, hr2⟩ rfl ⟨hb1, hb2⟩ hst rfl d_Dw_insert_13 (fun r σ' h => by obtain ⟨rfl, h⟩ := h; exact kk σ' h) kx
theorem c_Dw_insert_17 {Ω : Om} {R R' : Room} {F : QF} {k n : Nat} {L st : List PV} {σ : Sto} {QX' : String → Sto → Prop} {Q : Sto → Prop} {a : Nat} (hc : MC Ω M_Dw_checkEditable R' (RV Q) QX' σ [xr (some a)]) (hk : sK σ a = 1) (hr1 : R'.frames + 1 ≤ R.frames) (hr2 : 8 + (1 + 11) + R'.locals ≤ R.locals) (hb1 : k + R'.cells ≤ R.cells) (hb2 : n + R'.slots ≤ R.slots) (hst : (st.map catP).sum ≤ 8) (kk : ∀ σ', Q σ' → Aw Ω M_Dw_insert R F (k + R'.cells) (n + R'.slots) 20 L st σ') (kx : ∀ E σ', QX' E σ' → Ax Ω M_Dw_insert R F (k + R'.cells) (n + R'.slots) 17 L st σ' E) : Aw Ω M_Dw_insert R F k n 17 L (xr (some a) :: st) σ :=
  Aw.callV (As := []) (stk := xr (some a) :: st) (nn := 0) 0 M_Dw_checkEditable hc ok_Dw_checkEditable rfl (by decide) rfl hk ml_Dw_129 im_Dw_checkEditable se_Dw_checkEditable ⟨hr1, hr2⟩ rfl ⟨hb1, hb2⟩ hst rfl d_Dw_insert_17 (fun r σ' h => by obtain ⟨rfl, h⟩ := h; exact kk σ' h) kx
theorem c_Dw_insert_27 {Ω : Om} {R R' : Room} {F : QF} {k n : Nat} {L st : List PV} {σ : Sto} {QX' : String → Sto → Prop} {Q : Int → Sto → Prop} {a : Nat} (hc : MC Ω M_Txt_size R' (RI Q) QX' σ [xr (some a)]) (hk : sK σ a = 10) (hr1 : R'.frames + 1 ≤ R.frames) (hr2 : 8 + (1 + 11) + R'.locals ≤ R.locals) (hb1 : k + R'.cells ≤ R.cells) (hb2 : n + R'.slots ≤ R.slots) (hst : (st.map catP).sum ≤ 8) (kk : ∀ x σ', Q x σ' → Aw Ω M_Dw_insert R F (k + R'.cells) (n + R'.slots) 30 L (xi x :: st) σ') (kx : ∀ E σ', QX' E σ' → Ax Ω M_Dw_insert R F (k + R'.cells) (n + R'.slots) 27 L st σ' E) : Aw Ω M_Dw_insert R F k n 27 L (xr (some a) :: st) σ :=
  Aw.callV (As := []) (stk := xr (some a) :: st) (nn := 0) 9 M_Txt_size hc ok_Txt_size rfl (by decide) rfl hk ml_Dw_112 im_Txt_size se_Txt_size ⟨hr1, hr2⟩ rfl ⟨hb1, hb2⟩ hst rfl d_Dw_insert_27 (fun r σ' h => by obtain ⟨x, rfl, h⟩ := h; exact kk x σ' h) kx
theorem t_Dw_insert_35 {Ω : Om} {R : Room} {k n : Nat} {L : List PV} {σ : Sto} {QR : Option PV → Sto → Prop} {QX : String → Sto → Prop} {st : List PV} (hRf : 5 < R.frames) (hRl : (st.map catP).sum + 82 ≤ R.locals) (hc : k + 1 ≤ R.cells) (hs : n + 6 ≤ R.slots) (hx : ∀ n', sN σ ≤ n' → QX "java/lang/IllegalStateException" (nX σ n')) : Aw Ω M_Dw_insert R (MF Ω R QR QX) k n 35 L st σ := Aw.throwS (text := "the draft has 20 lines") rfl (by decide +kernel) exn_f cl_Dw_132 exi_IllegalStateException (List.mem_of_getElem? (i := 673) (by decide +kernel)) exa_Dw_136 exg_Dw_136 d_Dw_insert_35 d_Dw_insert_38 d_Dw_insert_39 d_Dw_insert_41 d_Dw_insert_44 hRf hRl hc hs hx
theorem c_Dw_insert_58 {Ω : Om} {R R' : Room} {F : QF} {k n : Nat} {L st : List PV} {σ : Sto} {QX' : String → Sto → Prop} {Q : Sto → Prop} {a : Nat} {x0 : Int} {x1 : Int} {x2 : Int} {x3 : Int64} {x4 : Option Nat} (hc : MC Ω M_Edt_init R' (RV Q) QX' σ [xr (some a), xi x0, xi x1, xi x2, xl x3, xr x4]) (hr1 : R'.frames + 1 ≤ R.frames) (hr2 : 8 + (7 + 11) + R'.locals ≤ R.locals) (hb1 : k + R'.cells ≤ R.cells) (hb2 : n + R'.slots ≤ R.slots) (hst : (st.map catP).sum ≤ 8) (kk : ∀ σ', Q σ' → Aw Ω M_Dw_insert R F (k + R'.cells) (n + R'.slots) 61 L st σ') (kx : ∀ E σ', QX' E σ' → Ax Ω M_Dw_insert R F (k + R'.cells) (n + R'.slots) 58 L st σ' E) : Aw Ω M_Dw_insert R F k n 58 L (xr x4 :: xl x3 :: xi x2 :: xi x1 :: xi x0 :: xr (some a) :: st) σ :=
  Aw.callI (As := [xi x0, xi x1, xi x2, xl x3, xr x4]) (stk := xr x4 :: xl x3 :: xi x2 :: xi x1 :: xi x0 :: xr (some a) :: st) (nn := 5) M_Edt_init hc ok_Edt_init rfl rfl rfl im_Edt_init (Or.inl ml_Dw_141) ⟨hr1, hr2⟩ rfl ⟨hb1, hb2⟩ hst rfl d_Dw_insert_58 (fun r σ' h => by obtain ⟨rfl, h⟩ := h; exact kk σ' h) kx
theorem c_Dw_insert_61 {Ω : Om} {R R' : Room} {F : QF} {k n : Nat} {L st : List PV} {σ : Sto} {QX' : String → Sto → Prop} {Q : Int → Sto → Prop} {a : Nat} {x0 : Option Nat} (hc : MC Ω M_Drf_make R' (RI Q) QX' σ [xr (some a), xr x0]) (hk : sK σ a = 4) (hr1 : R'.frames + 1 ≤ R.frames) (hr2 : 8 + (2 + 11) + R'.locals ≤ R.locals) (hb1 : k + R'.cells ≤ R.cells) (hb2 : n + R'.slots ≤ R.slots) (hst : (st.map catP).sum ≤ 8) (kk : ∀ x σ', Q x σ' → Aw Ω M_Dw_insert R F (k + R'.cells) (n + R'.slots) 64 L (xi x :: st) σ') (kx : ∀ E σ', QX' E σ' → Ax Ω M_Dw_insert R F (k + R'.cells) (n + R'.slots) 61 L st σ' E) : Aw Ω M_Dw_insert R F k n 61 L (xr x0 :: xr (some a) :: st) σ :=
  Aw.callV (As := [xr x0]) (stk := xr x0 :: xr (some a) :: st) (nn := 1) 3 M_Drf_make hc ok_Drf_make rfl (by decide) rfl hk ml_Dw_144 im_Drf_make se_Drf_make ⟨hr1, hr2⟩ rfl ⟨hb1, hb2⟩ hst rfl d_Dw_insert_61 (fun r σ' h => by obtain ⟨x, rfl, h⟩ := h; exact kk x σ' h) kx
theorem c_Dw_insert_73 {Ω : Om} {R R' : Room} {F : QF} {k n : Nat} {L st : List PV} {σ : Sto} {QX' : String → Sto → Prop} {Q : Sto → Prop} {a : Nat} {x0 : Option Nat} (hc : MC Ω M_Drf_namePutIn R' (RV Q) QX' σ [xr (some a), xr x0]) (hk : sK σ a = 4) (hr1 : R'.frames + 1 ≤ R.frames) (hr2 : 8 + (3 + 11) + R'.locals ≤ R.locals) (hb1 : k + R'.cells ≤ R.cells) (hb2 : n + R'.slots ≤ R.slots) (hst : (st.map catP).sum ≤ 8) (kk : ∀ σ', Q σ' → Aw Ω M_Dw_insert R F (k + R'.cells) (n + R'.slots) 76 L st σ') (kx : ∀ E σ', QX' E σ' → Ax Ω M_Dw_insert R F (k + R'.cells) (n + R'.slots) 73 L st σ' E) : Aw Ω M_Dw_insert R F k n 73 L (xr x0 :: xr (some a) :: st) σ :=
  Aw.callV (As := [xr x0]) (stk := xr x0 :: xr (some a) :: st) (nn := 1) 3 M_Drf_namePutIn hc ok_Drf_namePutIn rfl (by decide) rfl hk ml_Dw_148 im_Drf_namePutIn se_Drf_namePutIn ⟨hr1, hr2⟩ rfl ⟨hb1, hb2⟩ hst rfl d_Dw_insert_73 (fun r σ' h => by obtain ⟨rfl, h⟩ := h; exact kk σ' h) kx
theorem c_Dw_insert_93 {Ω : Om} {R R' : Room} {F : QF} {k n : Nat} {L st : List PV} {σ : Sto} {QX' : String → Sto → Prop} {Q : Int → Sto → Prop} {a : Nat} (hc : MC Ω M_Txt_size R' (RI Q) QX' σ [xr (some a)]) (hk : sK σ a = 10) (hr1 : R'.frames + 1 ≤ R.frames) (hr2 : 8 + (1 + 11) + R'.locals ≤ R.locals) (hb1 : k + R'.cells ≤ R.cells) (hb2 : n + R'.slots ≤ R.slots) (hst : (st.map catP).sum ≤ 8) (kk : ∀ x σ', Q x σ' → Aw Ω M_Dw_insert R F (k + R'.cells) (n + R'.slots) 96 L (xi x :: st) σ') (kx : ∀ E σ', QX' E σ' → Ax Ω M_Dw_insert R F (k + R'.cells) (n + R'.slots) 93 L st σ' E) : Aw Ω M_Dw_insert R F k n 93 L (xr (some a) :: st) σ :=
  Aw.callV (As := []) (stk := xr (some a) :: st) (nn := 0) 9 M_Txt_size hc ok_Txt_size rfl (by decide) rfl hk ml_Dw_112 im_Txt_size se_Txt_size ⟨hr1, hr2⟩ rfl ⟨hb1, hb2⟩ hst rfl d_Dw_insert_93 (fun r σ' h => by obtain ⟨x, rfl, h⟩ := h; exact kk x σ' h) kx
theorem r_Dw_insert_96 {Ω : Om} {R : Room} {k n : Nat} {L : List PV} {σ : Sto} {QR : Option PV → Sto → Prop} {QX : String → Sto → Prop} {x : Int} (h : QR (some (xi x)) σ) (h1 : k ≤ R.cells) (h2 : n ≤ R.slots) : Aw Ω M_Dw_insert R (MF Ω R QR QX) k n 96 L [xi x] σ := Aw.iret rfl h h1 h2 d_Dw_insert_96
theorem e_Dw_isAbove {Ω : Om} {R : Room} {QR : Option PV → Sto → Prop} {QX : String → Sto → Prop} {σ : Sto} {a0 : Nat} {v1 : Int} {v2 : Int} (h : Aw Ω M_Dw_isAbove R (MF Ω R QR QX) 0 0 0 [xr (some a0), xi v1, xi v2, xu] [] σ) : MC Ω M_Dw_isAbove R QR QX σ [xr (some a0), xi v1, xi v2] := MC.body (by decide +kernel) rfl (Nat.le_of_ble_eq_true rfl) rfl h
theorem b_Dw_isAbove_0 {Ω : Om} {R : Room} {F : QF} {k n : Nat} {σ : Sto} {a0 : Nat} {v1 : Int} {v2 : Int} (h : Aw Ω M_Dw_isAbove R F k n 2 [xr (some a0), xi v1, xi v2, xu] [xi v1, xr (some a0)] σ) : Aw Ω M_Dw_isAbove R F k n 0 [xr (some a0), xi v1, xi v2, xu] [] σ := by
  refine Aw.aload_n rfl d_Dw_isAbove_0 ?_
  refine Aw.iload_n rfl d_Dw_isAbove_1 ?_
  exact h
theorem b_Dw_isAbove_5 {Ω : Om} {R : Room} {F : QF} {k n : Nat} {σ : Sto} {a0 : Nat} {v1 : Int} {v2 : Int} {s0 : Nat} (h : Aw Ω M_Dw_isAbove R F k n 8 [xr (some a0), xi v1, xi v2, xr (some s0)] [xi v2, xr (some a0)] σ) : Aw Ω M_Dw_isAbove R F k n 5 [xr (some a0), xi v1, xi v2, xu] [xr (some s0)] σ := by
  refine Aw.astore_n (by decide) d_Dw_isAbove_5 ?_
  refine Aw.toL (L' := [xr (some a0), xi v1, xi v2, xr (some s0)]) rfl ?_
  refine Aw.aload_n rfl d_Dw_isAbove_6 ?_
  refine Aw.iload_n rfl d_Dw_isAbove_7 ?_
  exact h
theorem b_Dw_isAbove_11 {Ω : Om} {R : Room} {F : QF} {k n : Nat} {σ : Sto} {a0 : Nat} {v1 : Int} {v2 : Int} {a3 : Nat} {s0 : Nat} (h : Aw Ω M_Dw_isAbove R F k n 14 [xr (some a0), xi v1, xi v2, xr (some a3)] [xi v2, xr (some a3)] σ) : Aw Ω M_Dw_isAbove R F k n 11 [xr (some a0), xi v1, xi v2, xr (some a3)] [xr (some s0)] σ := by
  refine Aw.pop rfl d_Dw_isAbove_11 ?_
  refine Aw.aload_n rfl d_Dw_isAbove_12 ?_
  refine Aw.iload_n rfl d_Dw_isAbove_13 ?_
  exact h
theorem c_Dw_isAbove_2 {Ω : Om} {R R' : Room} {F : QF} {k n : Nat} {L st : List PV} {σ : Sto} {QX' : String → Sto → Prop} {Q : Option Nat → Sto → Prop} {a : Nat} {x0 : Int} (hc : MC Ω M_Dw_versionAt R' (RR Q) QX' σ [xr (some a), xi x0]) (hk : sK σ a = 1) (hr1 : R'.frames + 1 ≤ R.frames) (hr2 : 8 + (2 + 11) + R'.locals ≤ R.locals) (hb1 : k + R'.cells ≤ R.cells) (hb2 : n + R'.slots ≤ R.slots) (hst : (st.map catP).sum ≤ 8) (kk : ∀ x σ', Q x σ' → Aw Ω M_Dw_isAbove R F (k + R'.cells) (n + R'.slots) 5 L (xr x :: st) σ') (kx : ∀ E σ', QX' E σ' → Ax Ω M_Dw_isAbove R F (k + R'.cells) (n + R'.slots) 2 L st σ' E) : Aw Ω M_Dw_isAbove R F k n 2 L (xi x0 :: xr (some a) :: st) σ :=
  Aw.callV (As := [xi x0]) (stk := xi x0 :: xr (some a) :: st) (nn := 1) 0 M_Dw_versionAt hc ok_Dw_versionAt rfl (by decide) rfl hk ml_Dw_91 im_Dw_versionAt se_Dw_versionAt ⟨hr1, hr2⟩ rfl ⟨hb1, hb2⟩ hst rfl d_Dw_isAbove_2 (fun r σ' h => by obtain ⟨x, rfl, h⟩ := h; exact kk x σ' h) kx
theorem c_Dw_isAbove_8 {Ω : Om} {R R' : Room} {F : QF} {k n : Nat} {L st : List PV} {σ : Sto} {QX' : String → Sto → Prop} {Q : Option Nat → Sto → Prop} {a : Nat} {x0 : Int} (hc : MC Ω M_Dw_versionAt R' (RR Q) QX' σ [xr (some a), xi x0]) (hk : sK σ a = 1) (hr1 : R'.frames + 1 ≤ R.frames) (hr2 : 8 + (2 + 11) + R'.locals ≤ R.locals) (hb1 : k + R'.cells ≤ R.cells) (hb2 : n + R'.slots ≤ R.slots) (hst : (st.map catP).sum ≤ 8) (kk : ∀ x σ', Q x σ' → Aw Ω M_Dw_isAbove R F (k + R'.cells) (n + R'.slots) 11 L (xr x :: st) σ') (kx : ∀ E σ', QX' E σ' → Ax Ω M_Dw_isAbove R F (k + R'.cells) (n + R'.slots) 8 L st σ' E) : Aw Ω M_Dw_isAbove R F k n 8 L (xi x0 :: xr (some a) :: st) σ :=
  Aw.callV (As := [xi x0]) (stk := xi x0 :: xr (some a) :: st) (nn := 1) 0 M_Dw_versionAt hc ok_Dw_versionAt rfl (by decide) rfl hk ml_Dw_91 im_Dw_versionAt se_Dw_versionAt ⟨hr1, hr2⟩ rfl ⟨hb1, hb2⟩ hst rfl d_Dw_isAbove_8 (fun r σ' h => by obtain ⟨x, rfl, h⟩ := h; exact kk x σ' h) kx
theorem c_Dw_isAbove_14 {Ω : Om} {R R' : Room} {F : QF} {k n : Nat} {L st : List PV} {σ : Sto} {QX' : String → Sto → Prop} {Q : Int → Sto → Prop} {a : Nat} {x0 : Int} (hc : MC Ω M_Ver_isOver R' (RI Q) QX' σ [xr (some a), xi x0]) (hk : sK σ a = 12) (hr1 : R'.frames + 1 ≤ R.frames) (hr2 : 8 + (2 + 11) + R'.locals ≤ R.locals) (hb1 : k + R'.cells ≤ R.cells) (hb2 : n + R'.slots ≤ R.slots) (hst : (st.map catP).sum ≤ 8) (kk : ∀ x σ', Q x σ' → Aw Ω M_Dw_isAbove R F (k + R'.cells) (n + R'.slots) 17 L (xi x :: st) σ') (kx : ∀ E σ', QX' E σ' → Ax Ω M_Dw_isAbove R F (k + R'.cells) (n + R'.slots) 14 L st σ' E) : Aw Ω M_Dw_isAbove R F k n 14 L (xi x0 :: xr (some a) :: st) σ :=
  Aw.callV (As := [xi x0]) (stk := xi x0 :: xr (some a) :: st) (nn := 1) 11 M_Ver_isOver hc ok_Ver_isOver rfl (by decide) rfl hk ml_Dw_199 im_Ver_isOver se_Ver_isOver ⟨hr1, hr2⟩ rfl ⟨hb1, hb2⟩ hst rfl d_Dw_isAbove_14 (fun r σ' h => by obtain ⟨x, rfl, h⟩ := h; exact kk x σ' h) kx
theorem r_Dw_isAbove_17 {Ω : Om} {R : Room} {k n : Nat} {L : List PV} {σ : Sto} {QR : Option PV → Sto → Prop} {QX : String → Sto → Prop} {x : Int} (hx : x = 0 ∨ x = 1) (h : QR (some (xi x)) σ) (h1 : k ≤ R.cells) (h2 : n ≤ R.slots) : Aw Ω M_Dw_isAbove R (MF Ω R QR QX) k n 17 L [xi x] σ := Aw.zret rfl hx h h1 h2 d_Dw_isAbove_17
theorem e_Dw_land {Ω : Om} {R : Room} {QR : Option PV → Sto → Prop} {QX : String → Sto → Prop} {σ : Sto} {a0 : Nat} {v1 : Int} (h : Aw Ω M_Dw_land R (MF Ω R QR QX) 0 0 0 [xr (some a0), xi v1, xu, xu, xu] [] σ) : MC Ω M_Dw_land R QR QX σ [xr (some a0), xi v1] := MC.body (by decide +kernel) rfl (Nat.le_of_ble_eq_true rfl) rfl h
theorem b_Dw_land_0 {Ω : Om} {R : Room} {F : QF} {k n : Nat} {σ : Sto} {a0 : Nat} {v1 : Int} (h : Aw Ω M_Dw_land R F k n 2 [xr (some a0), xi v1, xu, xu, xu] [xi v1, xr (some a0)] σ) : Aw Ω M_Dw_land R F k n 0 [xr (some a0), xi v1, xu, xu, xu] [] σ := by
  refine Aw.aload_n rfl d_Dw_land_0 ?_
  refine Aw.iload_n rfl d_Dw_land_1 ?_
  exact h
theorem b_Dw_land_5 {Ω : Om} {R : Room} {F : QF} {k n : Nat} {σ : Sto} {a0 : Nat} {v1 : Int} {s0 : Nat} (h : Aw Ω M_Dw_land R F k n 7 [xr (some a0), xi v1, xr (some s0), xu, xu] [xr (some s0)] σ) : Aw Ω M_Dw_land R F k n 5 [xr (some a0), xi v1, xu, xu, xu] [xr (some s0)] σ := by
  refine Aw.astore_n (by decide) d_Dw_land_5 ?_
  refine Aw.toL (L' := [xr (some a0), xi v1, xr (some s0), xu, xu]) rfl ?_
  refine Aw.aload_n rfl d_Dw_land_6 ?_
  exact h
theorem b_Dw_land_10 {Ω : Om} {R : Room} {F : QF} {k n : Nat} {σ : Sto} {a0 : Nat} {v1 : Int} {a2 : Nat} {s0 : Int} (h : Q32 s0 ∧ ((s0 = (1 : Int) → sK σ a2 = 9 ∧ (Q32 (fI σ 514 a2) → (((fI σ 514 a2) = (-1 : Int) → Aw Ω M_Dw_land R F k n 69 [xr (some a0), xi v1, xr (some a2), xi 0, xi 0] [] (uI σ 515 a2 1)) ∧ (¬ (fI σ 514 a2) = (-1 : Int) → (Q32 (fI σ 514 a2) → Aw Ω M_Dw_land R F k n 38 [xr (some a0), xi v1, xr (some a2), xu, xu] [xi (fI σ 514 a2), xr (some a0)] σ))))) ∧ (¬ s0 = (1 : Int) → Aw Ω M_Dw_land R F k n 14 [xr (some a0), xi v1, xr (some a2), xu, xu] [] σ))) : Aw Ω M_Dw_land R F k n 10 [xr (some a0), xi v1, xr (some a2), xu, xu] [xi s0] σ := by
  refine Aw.iconst d_Dw_land_10 ?_
  obtain ⟨o1, h⟩ := h
  obtain ⟨ht, hf⟩ := h
  refine Aw.icmp_eq (tgt := 25) o1 ⟨by decide, by decide⟩ (by decide) d_Dw_land_11 (fun c6 => ?_) (fun c6 => ?_)
  · have h := ht c6
    refine Aw.aload_n rfl d_Dw_land_25 ?_
    obtain ⟨o2, h⟩ := h
    refine Aw.getI (f := 514) 8 2 fl_Dw_360 (by decide) (by decide) rfl rfl o2 d_Dw_land_26 (fun r3 => ?_)
    have h := h r3
    refine Aw.iconst d_Dw_land_29 ?_
    obtain ⟨ht, hf⟩ := h
    refine Aw.icmp_eq (tgt := 59) r3 ⟨by decide, by decide⟩ (by decide) d_Dw_land_30 (fun c5 => ?_) (fun c5 => ?_)
    · have h := ht c5
      refine Aw.aload_n rfl d_Dw_land_59 ?_
      refine Aw.iconst d_Dw_land_60 ?_
      refine Aw.putI (f := 515) 8 3 fl_Dw_365 (by decide) (by decide) rfl rfl o2 rfl ⟨by decide, by decide⟩ (Or.inr ⟨rfl, by decide⟩) d_Dw_land_61 ?_
      refine Aw.iconst d_Dw_land_64 ?_
      refine Aw.istore_n (by decide) d_Dw_land_65 ?_
      refine Aw.toL (L' := [xr (some a0), xi v1, xr (some a2), xi 0, xu]) rfl ?_
      refine Aw.iconst d_Dw_land_66 ?_
      refine Aw.istore (by decide) d_Dw_land_67 ?_
      refine Aw.toL (L' := [xr (some a0), xi v1, xr (some a2), xi 0, xi 0]) rfl ?_
      exact h
    · have h := hf c5
      refine Aw.aload_n rfl d_Dw_land_33 ?_
      refine Aw.aload_n rfl d_Dw_land_34 ?_
      refine Aw.getI (f := 514) 8 2 fl_Dw_360 (by decide) (by decide) rfl rfl o2 d_Dw_land_35 (fun r4 => ?_)
      have h := h r4
      exact h
  · have h := hf c6
    exact h
theorem b_Dw_land_44 {Ω : Om} {R : Room} {F : QF} {k n : Nat} {σ : Sto} {a0 : Nat} {v1 : Int} {a2 : Nat} {s0 : Int} (h : Q32 s0 ∧ ((s0 = (2 : Int) → sK σ a2 = 9 ∧ Aw Ω M_Dw_land R F k n 69 [xr (some a0), xi v1, xr (some a2), xi 0, xi 0] [] (uI σ 515 a2 1)) ∧ (¬ s0 = (2 : Int) → Aw Ω M_Dw_land R F k n 48 [xr (some a0), xi v1, xr (some a2), xu, xu] [] σ))) : Aw Ω M_Dw_land R F k n 44 [xr (some a0), xi v1, xr (some a2), xu, xu] [xi s0] σ := by
  refine Aw.iconst d_Dw_land_44 ?_
  obtain ⟨o1, h⟩ := h
  obtain ⟨ht, hf⟩ := h
  refine Aw.icmp_eq (tgt := 59) o1 ⟨by decide, by decide⟩ (by decide) d_Dw_land_45 (fun c3 => ?_) (fun c3 => ?_)
  · have h := ht c3
    refine Aw.aload_n rfl d_Dw_land_59 ?_
    refine Aw.iconst d_Dw_land_60 ?_
    obtain ⟨o2, h⟩ := h
    refine Aw.putI (f := 515) 8 3 fl_Dw_365 (by decide) (by decide) rfl rfl o2 rfl ⟨by decide, by decide⟩ (Or.inr ⟨rfl, by decide⟩) d_Dw_land_61 ?_
    refine Aw.iconst d_Dw_land_64 ?_
    refine Aw.istore_n (by decide) d_Dw_land_65 ?_
    refine Aw.toL (L' := [xr (some a0), xi v1, xr (some a2), xi 0, xu]) rfl ?_
    refine Aw.iconst d_Dw_land_66 ?_
    refine Aw.istore (by decide) d_Dw_land_67 ?_
    refine Aw.toL (L' := [xr (some a0), xi v1, xr (some a2), xi 0, xi 0]) rfl ?_
    exact h
  · have h := hf c3
    exact h
theorem b_Dw_land_69 {Ω : Om} {R : Room} {F : QF} {k n : Nat} {σ : Sto} {a0 : Nat} {v1 : Int} {a2 : Nat} {v3 : Int} {v4 : Int} (h : sK σ a0 = 1 ∧ (Q32 (fI σ 14 a0) → Q32 v4 ∧ (((fI σ 14 a0) ≤ v4 → Aw Ω M_Dw_land R F k n 115 [xr (some a0), xi v1, xr (some a2), xi v3, xi v4] [xi v3] σ) ∧ (¬ (fI σ 14 a0) ≤ v4 → (∃ b4 : Nat, fR σ 2 a0 = some b4 ∧ sK σ b4 = 57 ∧ 0 ≤ v4 ∧ v4 < sZ σ b4 ∧ ∃ b9 : Nat, aR σ b4 (v4).toNat = some b9 ∧ sK σ b9 = 9 ∧ (Q32 (fI σ 514 b9) → Q32 v1 ∧ ((¬ (fI σ 514 b9) = v1 → Aw Ω M_Dw_land R F k n 69 [xr (some a0), xi v1, xr (some a2), xi v3, xi (v4 + 1)] [] σ) ∧ ((fI σ 514 b9) = v1 → ∃ b14 : Nat, aR σ b4 (v4).toNat = some b14 ∧ sK σ b14 = 9 ∧ (Q32 (fI σ 515 b14) → ((¬ (fI σ 515 b14) = (0 : Int) → Aw Ω M_Dw_land R F k n 69 [xr (some a0), xi v1, xr (some a2), xi v3, xi (v4 + 1)] [] σ) ∧ ((fI σ 515 b14) = (0 : Int) → Aw Ω M_Dw_land R F k n 69 [xr (some a0), xi v1, xr (some a2), xi (v3 + 1), xi (v4 + 1)] [] σ))))))))))) : Aw Ω M_Dw_land R F k n 69 [xr (some a0), xi v1, xr (some a2), xi v3, xi v4] [] σ := by
  refine Aw.iload rfl d_Dw_land_69 ?_
  refine Aw.aload_n rfl d_Dw_land_71 ?_
  obtain ⟨o1, h⟩ := h
  refine Aw.getI (f := 14) 0 14 fl_Dw_79 (by decide) (by decide) rfl rfl o1 d_Dw_land_72 (fun r2 => ?_)
  have h := h r2
  obtain ⟨o3, h⟩ := h
  obtain ⟨ht, hf⟩ := h
  refine Aw.icmp_ge (tgt := 114) o3 r2 (by decide) d_Dw_land_75 (fun c20 => ?_) (fun c20 => ?_)
  · have h := ht c20
    refine Aw.iload_n rfl d_Dw_land_114 ?_
    exact h
  · have h := hf c20
    refine Aw.aload_n rfl d_Dw_land_78 ?_
    obtain ⟨b4, e5, h⟩ := h
    refine Aw.getRs (f := 2) 0 2 fl_Dw_23 (by decide) (by decide) rfl rfl o1 e5 d_Dw_land_79 ?_
    refine Aw.iload rfl d_Dw_land_82 ?_
    obtain ⟨o6, h⟩ := h
    obtain ⟨o7, o8, h⟩ := h
    refine Aw.aald 7 (by decide) (by decide) o6 o7 o8 d_Dw_land_84 ?_
    obtain ⟨b9, e10, h⟩ := h
    refine Aw.der0 e10 ?_
    obtain ⟨o11, h⟩ := h
    refine Aw.getI (f := 514) 8 2 fl_Dw_360 (by decide) (by decide) rfl rfl o11 d_Dw_land_85 (fun r12 => ?_)
    have h := h r12
    refine Aw.iload_n rfl d_Dw_land_88 ?_
    obtain ⟨o13, h⟩ := h
    obtain ⟨ht, hf⟩ := h
    refine Aw.icmp_ne (tgt := 108) r12 o13 (by decide) d_Dw_land_89 (fun c19 => ?_) (fun c19 => ?_)
    · have h := ht c19
      refine Aw.iinc rfl d_Dw_land_108 ?_
      refine Aw.toL (L' := [xr (some a0), xi v1, xr (some a2), xi v3, xi (v4 + 1)]) rfl ?_
      refine Aw.goto (tgt := 69) (by decide) d_Dw_land_111 ?_
      exact h
    · have h := hf c19
      refine Aw.aload_n rfl d_Dw_land_92 ?_
      refine Aw.getRs (f := 2) 0 2 fl_Dw_23 (by decide) (by decide) rfl rfl o1 e5 d_Dw_land_93 ?_
      refine Aw.iload rfl d_Dw_land_96 ?_
      refine Aw.aald 7 (by decide) (by decide) o6 o7 o8 d_Dw_land_98 ?_
      obtain ⟨b14, e15, h⟩ := h
      refine Aw.der0 e15 ?_
      obtain ⟨o16, h⟩ := h
      refine Aw.getI (f := 515) 8 3 fl_Dw_365 (by decide) (by decide) rfl rfl o16 d_Dw_land_99 (fun r17 => ?_)
      have h := h r17
      obtain ⟨ht, hf⟩ := h
      refine Aw.if_ne (tgt := 108) r17 (by decide) d_Dw_land_102 (fun c18 => ?_) (fun c18 => ?_)
      · have h := ht c18
        refine Aw.iinc rfl d_Dw_land_108 ?_
        refine Aw.toL (L' := [xr (some a0), xi v1, xr (some a2), xi v3, xi (v4 + 1)]) rfl ?_
        refine Aw.goto (tgt := 69) (by decide) d_Dw_land_111 ?_
        exact h
      · have h := hf c18
        refine Aw.iinc rfl d_Dw_land_105 ?_
        refine Aw.toL (L' := [xr (some a0), xi v1, xr (some a2), xi (v3 + 1), xi v4]) rfl ?_
        refine Aw.iinc rfl d_Dw_land_108 ?_
        refine Aw.toL (L' := [xr (some a0), xi v1, xr (some a2), xi (v3 + 1), xi (v4 + 1)]) rfl ?_
        refine Aw.goto (tgt := 69) (by decide) d_Dw_land_111 ?_
        exact h
theorem c_Dw_land_2 {Ω : Om} {R R' : Room} {F : QF} {k n : Nat} {L st : List PV} {σ : Sto} {QX' : String → Sto → Prop} {Q : Option Nat → Sto → Prop} {a : Nat} {x0 : Int} (hc : MC Ω M_Dw_reviewAt R' (RR Q) QX' σ [xr (some a), xi x0]) (hk : sK σ a = 1) (hr1 : R'.frames + 1 ≤ R.frames) (hr2 : 8 + (2 + 11) + R'.locals ≤ R.locals) (hb1 : k + R'.cells ≤ R.cells) (hb2 : n + R'.slots ≤ R.slots) (hst : (st.map catP).sum ≤ 8) (kk : ∀ x σ', Q x σ' → Aw Ω M_Dw_land R F (k + R'.cells) (n + R'.slots) 5 L (xr x :: st) σ') (kx : ∀ E σ', QX' E σ' → Ax Ω M_Dw_land R F (k + R'.cells) (n + R'.slots) 2 L st σ' E) : Aw Ω M_Dw_land R F k n 2 L (xi x0 :: xr (some a) :: st) σ :=
  Aw.callV (As := [xi x0]) (stk := xi x0 :: xr (some a) :: st) (nn := 1) 0 M_Dw_reviewAt hc ok_Dw_reviewAt rfl (by decide) rfl hk ml_Dw_318 im_Dw_reviewAt se_Dw_reviewAt ⟨hr1, hr2⟩ rfl ⟨hb1, hb2⟩ hst rfl d_Dw_land_2 (fun r σ' h => by obtain ⟨x, rfl, h⟩ := h; exact kk x σ' h) kx
theorem c_Dw_land_7 {Ω : Om} {R R' : Room} {F : QF} {k n : Nat} {L st : List PV} {σ : Sto} {QX' : String → Sto → Prop} {Q : Int → Sto → Prop} {a : Nat} (hc : MC Ω M_Rev_state R' (RI Q) QX' σ [xr (some a)]) (hk : sK σ a = 9) (hr1 : R'.frames + 1 ≤ R.frames) (hr2 : 8 + (3 + 11) + R'.locals ≤ R.locals) (hb1 : k + R'.cells ≤ R.cells) (hb2 : n + R'.slots ≤ R.slots) (hst : (st.map catP).sum ≤ 8) (kk : ∀ x σ', Q x σ' → Aw Ω M_Dw_land R F (k + R'.cells) (n + R'.slots) 10 L (xi x :: st) σ') (kx : ∀ E σ', QX' E σ' → Ax Ω M_Dw_land R F (k + R'.cells) (n + R'.slots) 7 L st σ' E) : Aw Ω M_Dw_land R F k n 7 L (xr (some a) :: st) σ :=
  Aw.callV (As := []) (stk := xr (some a) :: st) (nn := 0) 8 M_Rev_state hc ok_Rev_state rfl (by decide) rfl hk ml_Dw_343 im_Rev_state se_Rev_state ⟨hr1, hr2⟩ rfl ⟨hb1, hb2⟩ hst rfl d_Dw_land_7 (fun r σ' h => by obtain ⟨x, rfl, h⟩ := h; exact kk x σ' h) kx
theorem t_Dw_land_14 {Ω : Om} {R : Room} {k n : Nat} {L : List PV} {σ : Sto} {QR : Option PV → Sto → Prop} {QX : String → Sto → Prop} {st : List PV} (hRf : 5 < R.frames) (hRl : (st.map catP).sum + 82 ≤ R.locals) (hc : k + 1 ≤ R.cells) (hs : n + 6 ≤ R.slots) (hx : ∀ n', sN σ ≤ n' → QX "java/lang/IllegalStateException" (nX σ n')) : Aw Ω M_Dw_land R (MF Ω R QR QX) k n 14 L st σ := Aw.throwSW (text := "the review is not APPROVED") rfl (by decide +kernel) exn_f cl_Dw_132 exi_IllegalStateException (List.mem_of_getElem? (i := 1458) (by decide +kernel)) exa_Dw_136 exg_Dw_136 d_Dw_land_14 d_Dw_land_17 d_Dw_land_18 d_Dw_land_21 d_Dw_land_24 hRf hRl hc hs hx
theorem c_Dw_land_38 {Ω : Om} {R R' : Room} {F : QF} {k n : Nat} {L st : List PV} {σ : Sto} {QX' : String → Sto → Prop} {Q : Option Nat → Sto → Prop} {a : Nat} {x0 : Int} (hc : MC Ω M_Dw_reviewAt R' (RR Q) QX' σ [xr (some a), xi x0]) (hk : sK σ a = 1) (hr1 : R'.frames + 1 ≤ R.frames) (hr2 : 8 + (2 + 11) + R'.locals ≤ R.locals) (hb1 : k + R'.cells ≤ R.cells) (hb2 : n + R'.slots ≤ R.slots) (hst : (st.map catP).sum ≤ 8) (kk : ∀ x σ', Q x σ' → Aw Ω M_Dw_land R F (k + R'.cells) (n + R'.slots) 41 L (xr x :: st) σ') (kx : ∀ E σ', QX' E σ' → Ax Ω M_Dw_land R F (k + R'.cells) (n + R'.slots) 38 L st σ' E) : Aw Ω M_Dw_land R F k n 38 L (xi x0 :: xr (some a) :: st) σ :=
  Aw.callV (As := [xi x0]) (stk := xi x0 :: xr (some a) :: st) (nn := 1) 0 M_Dw_reviewAt hc ok_Dw_reviewAt rfl (by decide) rfl hk ml_Dw_318 im_Dw_reviewAt se_Dw_reviewAt ⟨hr1, hr2⟩ rfl ⟨hb1, hb2⟩ hst rfl d_Dw_land_38 (fun r σ' h => by obtain ⟨x, rfl, h⟩ := h; exact kk x σ' h) kx
theorem c_Dw_land_41 {Ω : Om} {R R' : Room} {F : QF} {k n : Nat} {L st : List PV} {σ : Sto} {QX' : String → Sto → Prop} {Q : Int → Sto → Prop} {a : Nat} (hc : MC Ω M_Rev_state R' (RI Q) QX' σ [xr (some a)]) (hk : sK σ a = 9) (hr1 : R'.frames + 1 ≤ R.frames) (hr2 : 8 + (3 + 11) + R'.locals ≤ R.locals) (hb1 : k + R'.cells ≤ R.cells) (hb2 : n + R'.slots ≤ R.slots) (hst : (st.map catP).sum ≤ 8) (kk : ∀ x σ', Q x σ' → Aw Ω M_Dw_land R F (k + R'.cells) (n + R'.slots) 44 L (xi x :: st) σ') (kx : ∀ E σ', QX' E σ' → Ax Ω M_Dw_land R F (k + R'.cells) (n + R'.slots) 41 L st σ' E) : Aw Ω M_Dw_land R F k n 41 L (xr (some a) :: st) σ :=
  Aw.callV (As := []) (stk := xr (some a) :: st) (nn := 0) 8 M_Rev_state hc ok_Rev_state rfl (by decide) rfl hk ml_Dw_343 im_Rev_state se_Rev_state ⟨hr1, hr2⟩ rfl ⟨hb1, hb2⟩ hst rfl d_Dw_land_41 (fun r σ' h => by obtain ⟨x, rfl, h⟩ := h; exact kk x σ' h) kx
theorem t_Dw_land_48 {Ω : Om} {R : Room} {k n : Nat} {L : List PV} {σ : Sto} {QR : Option PV → Sto → Prop} {QX : String → Sto → Prop} {st : List PV} (hRf : 5 < R.frames) (hRl : (st.map catP).sum + 82 ≤ R.locals) (hc : k + 1 ≤ R.cells) (hs : n + 6 ≤ R.slots) (hx : ∀ n', sN σ ≤ n' → QX "java/lang/IllegalStateException" (nX σ n')) : Aw Ω M_Dw_land R (MF Ω R QR QX) k n 48 L st σ := Aw.throwSW (text := "that on which it stands is not LANDED") rfl (by decide +kernel) exn_f cl_Dw_132 exi_IllegalStateException (List.mem_of_getElem? (i := 1459) (by decide +kernel)) exa_Dw_136 exg_Dw_136 d_Dw_land_48 d_Dw_land_51 d_Dw_land_52 d_Dw_land_55 d_Dw_land_58 hRf hRl hc hs hx
theorem r_Dw_land_115 {Ω : Om} {R : Room} {k n : Nat} {L : List PV} {σ : Sto} {QR : Option PV → Sto → Prop} {QX : String → Sto → Prop} {x : Int} (h : QR (some (xi x)) σ) (h1 : k ≤ R.cells) (h2 : n ≤ R.slots) : Aw Ω M_Dw_land R (MF Ω R QR QX) k n 115 L [xi x] σ := Aw.iret rfl h h1 h2 d_Dw_land_115
theorem e_Dw_lay {Ω : Om} {R : Room} {QR : Option PV → Sto → Prop} {QX : String → Sto → Prop} {σ : Sto} {a0 : Nat} {v1 : Int} {v2 : Int} (h : Aw Ω M_Dw_lay R (MF Ω R QR QX) 0 0 0 [xr (some a0), xi v1, xi v2, xu, xu] [] σ) : MC Ω M_Dw_lay R QR QX σ [xr (some a0), xi v1, xi v2] := MC.body (by decide +kernel) rfl (Nat.le_of_ble_eq_true rfl) rfl h
theorem b_Dw_lay_0 {Ω : Om} {R : Room} {F : QF} {k n : Nat} {σ : Sto} {a0 : Nat} {v1 : Int} {v2 : Int} (h : Aw Ω M_Dw_lay R F k n 2 [xr (some a0), xi v1, xi v2, xu, xu] [xi v1, xr (some a0)] σ) : Aw Ω M_Dw_lay R F k n 0 [xr (some a0), xi v1, xi v2, xu, xu] [] σ := by
  refine Aw.aload_n rfl d_Dw_lay_0 ?_
  refine Aw.iload_n rfl d_Dw_lay_1 ?_
  exact h
theorem b_Dw_lay_5 {Ω : Om} {R : Room} {F : QF} {k n : Nat} {σ : Sto} {a0 : Nat} {v1 : Int} {v2 : Int} {s0 : Nat} (h : Q32 v2 ∧ ((v2 < (0 : Int) → Aw Ω M_Dw_lay R F k n 15 [xr (some a0), xi v1, xi v2, xr (some s0), xu] [] σ) ∧ (¬ v2 < (0 : Int) → ((v2 ≤ (2 : Int) → Aw Ω M_Dw_lay R F k n 27 [xr (some a0), xi v1, xi v2, xr (some s0), xu] [xr (some a0)] σ) ∧ (¬ v2 ≤ (2 : Int) → Aw Ω M_Dw_lay R F k n 15 [xr (some a0), xi v1, xi v2, xr (some s0), xu] [] σ))))) : Aw Ω M_Dw_lay R F k n 5 [xr (some a0), xi v1, xi v2, xu, xu] [xr (some s0)] σ := by
  refine Aw.astore_n (by decide) d_Dw_lay_5 ?_
  refine Aw.toL (L' := [xr (some a0), xi v1, xi v2, xr (some s0), xu]) rfl ?_
  refine Aw.iload_n rfl d_Dw_lay_6 ?_
  obtain ⟨o1, h⟩ := h
  obtain ⟨ht, hf⟩ := h
  refine Aw.if_lt (tgt := 15) o1 (by decide) d_Dw_lay_7 (fun c3 => ?_) (fun c3 => ?_)
  · have h := ht c3
    exact h
  · have h := hf c3
    refine Aw.iload_n rfl d_Dw_lay_10 ?_
    refine Aw.iconst d_Dw_lay_11 ?_
    obtain ⟨ht, hf⟩ := h
    refine Aw.icmp_le (tgt := 26) o1 ⟨by decide, by decide⟩ (by decide) d_Dw_lay_12 (fun c2 => ?_) (fun c2 => ?_)
    · have h := ht c2
      refine Aw.aload_n rfl d_Dw_lay_26 ?_
      exact h
    · have h := hf c2
      exact h
theorem b_Dw_lay_30 {Ω : Om} {R : Room} {F : QF} {k n : Nat} {σ : Sto} {a0 : Nat} {v1 : Int} {v2 : Int} {a3 : Nat} (h : sK σ a0 = 1 ∧ (∃ b2 : Nat, fR σ 8 a0 = some b2 ∧ k + 1 ≤ R.cells ∧ n + 6 ≤ R.slots ∧ (∀ σ6 : Sto, σ6 = (nO σ 5 0) → Aw Ω M_Dw_lay R F (k + 1) (n + 6) 43 [xr (some a0), xi v1, xi v2, xr (some a3), xu] [xr (some a3), xl 0, xi v2, xi v1, xi 5, xr (some (sN σ)), xr (some (sN σ)), xr (some b2)] σ6))) : Aw Ω M_Dw_lay R F k n 30 [xr (some a0), xi v1, xi v2, xr (some a3), xu] [] σ := by
  refine Aw.aload_n rfl d_Dw_lay_30 ?_
  obtain ⟨o1, h⟩ := h
  obtain ⟨b2, e3, h⟩ := h
  refine Aw.getRs (f := 8) 0 8 fl_Dw_58 (by decide) (by decide) rfl rfl o1 e3 d_Dw_lay_31 ?_
  obtain ⟨o4, o5, h⟩ := h
  refine Aw.new 4 (by decide) cl_Dw_139 ins_4 ini_4 o4 o5 d_Dw_lay_34 ?_
  obtain ⟨σ6, hσ6⟩ : ∃ z, z = (nO σ 5 0) := ⟨_, rfl⟩
  refine Aw.toS (σ' := σ6) hσ6 ?_
  have h := h σ6 hσ6
  refine Aw.dup rfl d_Dw_lay_37 ?_
  refine Aw.iconst d_Dw_lay_38 ?_
  refine Aw.iload_n rfl d_Dw_lay_39 ?_
  refine Aw.iload_n rfl d_Dw_lay_40 ?_
  refine Aw.lconst (w := 0) (by decide) d_Dw_lay_41 ?_
  refine Aw.aload_n rfl d_Dw_lay_42 ?_
  exact h
theorem b_Dw_lay_49 {Ω : Om} {R : Room} {F : QF} {k n : Nat} {σ : Sto} {a0 : Nat} {v1 : Int} {v2 : Int} {a3 : Nat} {s0 : Int} (h : sK σ a0 = 1 ∧ (∃ b2 : Nat, fR σ 8 a0 = some b2 ∧ sK σ b2 = 4 ∧ (∃ b5 : Nat, fR σ 192 b2 = some b5 ∧ Aw Ω M_Dw_lay R F k n 58 [xr (some a0), xi v1, xi v2, xr (some a3), xi s0] [xr (some b5)] σ))) : Aw Ω M_Dw_lay R F k n 49 [xr (some a0), xi v1, xi v2, xr (some a3), xu] [xi s0] σ := by
  refine Aw.istore (by decide) d_Dw_lay_49 ?_
  refine Aw.toL (L' := [xr (some a0), xi v1, xi v2, xr (some a3), xi s0]) rfl ?_
  refine Aw.aload_n rfl d_Dw_lay_51 ?_
  obtain ⟨o1, h⟩ := h
  obtain ⟨b2, e3, h⟩ := h
  refine Aw.getRs (f := 8) 0 8 fl_Dw_58 (by decide) (by decide) rfl rfl o1 e3 d_Dw_lay_52 ?_
  obtain ⟨o4, h⟩ := h
  obtain ⟨b5, e6, h⟩ := h
  refine Aw.getRs (f := 192) 3 0 fl_Dw_111 (by decide) (by decide) rfl rfl o4 e6 d_Dw_lay_55 ?_
  exact h
theorem b_Dw_lay_61 {Ω : Om} {R : Room} {F : QF} {k n : Nat} {σ : Sto} {a0 : Nat} {v1 : Int} {v2 : Int} {a3 : Nat} {v4 : Int} {s0 : Int} (h : Q32 s0 ∧ ((s0 ≤ (20 : Int) → sK σ a0 = 1 ∧ (∃ b3 : Nat, fR σ 8 a0 = some b3 ∧ (∃ b5 : Nat, fR σ 4 a0 = some b5 ∧ Aw Ω M_Dw_lay R F k n 91 [xr (some a0), xi v1, xi v2, xr (some a3), xi v4] [xr (some b5), xr (some b3)] σ))) ∧ (¬ s0 ≤ (20 : Int) → sK σ a0 = 1 ∧ (∃ b8 : Nat, fR σ 8 a0 = some b8 ∧ Aw Ω M_Dw_lay R F k n 70 [xr (some a0), xi v1, xi v2, xr (some a3), xi v4] [xr (some b8)] σ)))) : Aw Ω M_Dw_lay R F k n 61 [xr (some a0), xi v1, xi v2, xr (some a3), xi v4] [xi s0] σ := by
  refine Aw.bipush (by decide) d_Dw_lay_61 ?_
  obtain ⟨o1, h⟩ := h
  obtain ⟨ht, hf⟩ := h
  refine Aw.icmp_le (tgt := 83) o1 ⟨by decide, by decide⟩ (by decide) d_Dw_lay_63 (fun c10 => ?_) (fun c10 => ?_)
  · have h := ht c10
    refine Aw.aload_n rfl d_Dw_lay_83 ?_
    obtain ⟨o2, h⟩ := h
    obtain ⟨b3, e4, h⟩ := h
    refine Aw.getRs (f := 8) 0 8 fl_Dw_58 (by decide) (by decide) rfl rfl o2 e4 d_Dw_lay_84 ?_
    refine Aw.aload_n rfl d_Dw_lay_87 ?_
    obtain ⟨b5, e6, h⟩ := h
    refine Aw.getRs (f := 4) 0 4 fl_Dw_34 (by decide) (by decide) rfl rfl o2 e6 d_Dw_lay_88 ?_
    exact h
  · have h := hf c10
    refine Aw.aload_n rfl d_Dw_lay_66 ?_
    obtain ⟨o7, h⟩ := h
    obtain ⟨b8, e9, h⟩ := h
    refine Aw.getRs (f := 8) 0 8 fl_Dw_58 (by decide) (by decide) rfl rfl o7 e9 d_Dw_lay_67 ?_
    exact h
theorem b_Dw_lay_94 {Ω : Om} {R : Room} {F : QF} {k n : Nat} {σ : Sto} {a0 : Nat} {v1 : Int} {v2 : Int} {a3 : Nat} {v4 : Int} (h : sK σ a0 = 1 ∧ (Q32 (fI σ 16 a0) → Q32 ((fI σ 16 a0) + 1) ∧ Aw Ω M_Dw_lay R F k n 106 [xr (some a0), xi v1, xi v2, xr (some a3), xi v4] [xi v4] (uI σ 16 a0 ((fI σ 16 a0) + 1)))) : Aw Ω M_Dw_lay R F k n 94 [xr (some a0), xi v1, xi v2, xr (some a3), xi v4] [] σ := by
  refine Aw.aload_n rfl d_Dw_lay_94 ?_
  refine Aw.dup rfl d_Dw_lay_95 ?_
  obtain ⟨o1, h⟩ := h
  refine Aw.getI (f := 16) 0 16 fl_Dw_85 (by decide) (by decide) rfl rfl o1 d_Dw_lay_96 (fun r2 => ?_)
  have h := h r2
  refine Aw.iconst d_Dw_lay_99 ?_
  refine Aw.iadd d_Dw_lay_100 ?_
  obtain ⟨o3, h⟩ := h
  refine Aw.putI (f := 16) 0 16 fl_Dw_85 (by decide) (by decide) rfl rfl o1 rfl o3 (Or.inl rfl) d_Dw_lay_101 ?_
  refine Aw.iload rfl d_Dw_lay_104 ?_
  exact h
theorem c_Dw_lay_2 {Ω : Om} {R R' : Room} {F : QF} {k n : Nat} {L st : List PV} {σ : Sto} {QX' : String → Sto → Prop} {Q : Option Nat → Sto → Prop} {a : Nat} {x0 : Int} (hc : MC Ω M_Dw_patchAt R' (RR Q) QX' σ [xr (some a), xi x0]) (hk : sK σ a = 1) (hr1 : R'.frames + 1 ≤ R.frames) (hr2 : 8 + (2 + 11) + R'.locals ≤ R.locals) (hb1 : k + R'.cells ≤ R.cells) (hb2 : n + R'.slots ≤ R.slots) (hst : (st.map catP).sum ≤ 8) (kk : ∀ x σ', Q x σ' → Aw Ω M_Dw_lay R F (k + R'.cells) (n + R'.slots) 5 L (xr x :: st) σ') (kx : ∀ E σ', QX' E σ' → Ax Ω M_Dw_lay R F (k + R'.cells) (n + R'.slots) 2 L st σ' E) : Aw Ω M_Dw_lay R F k n 2 L (xi x0 :: xr (some a) :: st) σ :=
  Aw.callV (As := [xi x0]) (stk := xi x0 :: xr (some a) :: st) (nn := 1) 0 M_Dw_patchAt hc ok_Dw_patchAt rfl (by decide) rfl hk ml_Dw_282 im_Dw_patchAt se_Dw_patchAt ⟨hr1, hr2⟩ rfl ⟨hb1, hb2⟩ hst rfl d_Dw_lay_2 (fun r σ' h => by obtain ⟨x, rfl, h⟩ := h; exact kk x σ' h) kx
theorem t_Dw_lay_15 {Ω : Om} {R : Room} {k n : Nat} {L : List PV} {σ : Sto} {QR : Option PV → Sto → Prop} {QX : String → Sto → Prop} {st : List PV} (hRf : 5 < R.frames) (hRl : (st.map catP).sum + 82 ≤ R.locals) (hc : k + 1 ≤ R.cells) (hs : n + 6 ≤ R.slots) (hx : ∀ n', sN σ ≤ n' → QX "java/lang/IllegalArgumentException" (nX σ n')) : Aw Ω M_Dw_lay R (MF Ω R QR QX) k n 15 L st σ := Aw.throwSW (text := "the fuzz is out of range") rfl (by decide +kernel) exn_f cl_Dw_241 exi_IllegalArgumentException (List.mem_of_getElem? (i := 1369) (by decide +kernel)) exa_Dw_245 exg_Dw_245 d_Dw_lay_15 d_Dw_lay_18 d_Dw_lay_19 d_Dw_lay_22 d_Dw_lay_25 hRf hRl hc hs hx
theorem c_Dw_lay_27 {Ω : Om} {R R' : Room} {F : QF} {k n : Nat} {L st : List PV} {σ : Sto} {QX' : String → Sto → Prop} {Q : Sto → Prop} {a : Nat} (hc : MC Ω M_Dw_checkEditable R' (RV Q) QX' σ [xr (some a)]) (hk : sK σ a = 1) (hr1 : R'.frames + 1 ≤ R.frames) (hr2 : 8 + (1 + 11) + R'.locals ≤ R.locals) (hb1 : k + R'.cells ≤ R.cells) (hb2 : n + R'.slots ≤ R.slots) (hst : (st.map catP).sum ≤ 8) (kk : ∀ σ', Q σ' → Aw Ω M_Dw_lay R F (k + R'.cells) (n + R'.slots) 30 L st σ') (kx : ∀ E σ', QX' E σ' → Ax Ω M_Dw_lay R F (k + R'.cells) (n + R'.slots) 27 L st σ' E) : Aw Ω M_Dw_lay R F k n 27 L (xr (some a) :: st) σ :=
  Aw.callV (As := []) (stk := xr (some a) :: st) (nn := 0) 0 M_Dw_checkEditable hc ok_Dw_checkEditable rfl (by decide) rfl hk ml_Dw_129 im_Dw_checkEditable se_Dw_checkEditable ⟨hr1, hr2⟩ rfl ⟨hb1, hb2⟩ hst rfl d_Dw_lay_27 (fun r σ' h => by obtain ⟨rfl, h⟩ := h; exact kk σ' h) kx
theorem c_Dw_lay_43 {Ω : Om} {R R' : Room} {F : QF} {k n : Nat} {L st : List PV} {σ : Sto} {QX' : String → Sto → Prop} {Q : Sto → Prop} {a : Nat} {x0 : Int} {x1 : Int} {x2 : Int} {x3 : Int64} {x4 : Option Nat} (hc : MC Ω M_Edt_init R' (RV Q) QX' σ [xr (some a), xi x0, xi x1, xi x2, xl x3, xr x4]) (hr1 : R'.frames + 1 ≤ R.frames) (hr2 : 8 + (7 + 11) + R'.locals ≤ R.locals) (hb1 : k + R'.cells ≤ R.cells) (hb2 : n + R'.slots ≤ R.slots) (hst : (st.map catP).sum ≤ 8) (kk : ∀ σ', Q σ' → Aw Ω M_Dw_lay R F (k + R'.cells) (n + R'.slots) 46 L st σ') (kx : ∀ E σ', QX' E σ' → Ax Ω M_Dw_lay R F (k + R'.cells) (n + R'.slots) 43 L st σ' E) : Aw Ω M_Dw_lay R F k n 43 L (xr x4 :: xl x3 :: xi x2 :: xi x1 :: xi x0 :: xr (some a) :: st) σ :=
  Aw.callI (As := [xi x0, xi x1, xi x2, xl x3, xr x4]) (stk := xr x4 :: xl x3 :: xi x2 :: xi x1 :: xi x0 :: xr (some a) :: st) (nn := 5) M_Edt_init hc ok_Edt_init rfl rfl rfl im_Edt_init (Or.inl ml_Dw_141) ⟨hr1, hr2⟩ rfl ⟨hb1, hb2⟩ hst rfl d_Dw_lay_43 (fun r σ' h => by obtain ⟨rfl, h⟩ := h; exact kk σ' h) kx
theorem c_Dw_lay_46 {Ω : Om} {R R' : Room} {F : QF} {k n : Nat} {L st : List PV} {σ : Sto} {QX' : String → Sto → Prop} {Q : Int → Sto → Prop} {a : Nat} {x0 : Option Nat} (hc : MC Ω M_Drf_make R' (RI Q) QX' σ [xr (some a), xr x0]) (hk : sK σ a = 4) (hr1 : R'.frames + 1 ≤ R.frames) (hr2 : 8 + (2 + 11) + R'.locals ≤ R.locals) (hb1 : k + R'.cells ≤ R.cells) (hb2 : n + R'.slots ≤ R.slots) (hst : (st.map catP).sum ≤ 8) (kk : ∀ x σ', Q x σ' → Aw Ω M_Dw_lay R F (k + R'.cells) (n + R'.slots) 49 L (xi x :: st) σ') (kx : ∀ E σ', QX' E σ' → Ax Ω M_Dw_lay R F (k + R'.cells) (n + R'.slots) 46 L st σ' E) : Aw Ω M_Dw_lay R F k n 46 L (xr x0 :: xr (some a) :: st) σ :=
  Aw.callV (As := [xr x0]) (stk := xr x0 :: xr (some a) :: st) (nn := 1) 3 M_Drf_make hc ok_Drf_make rfl (by decide) rfl hk ml_Dw_144 im_Drf_make se_Drf_make ⟨hr1, hr2⟩ rfl ⟨hb1, hb2⟩ hst rfl d_Dw_lay_46 (fun r σ' h => by obtain ⟨x, rfl, h⟩ := h; exact kk x σ' h) kx
theorem c_Dw_lay_58 {Ω : Om} {R R' : Room} {F : QF} {k n : Nat} {L st : List PV} {σ : Sto} {QX' : String → Sto → Prop} {Q : Int → Sto → Prop} {a : Nat} (hc : MC Ω M_Txt_size R' (RI Q) QX' σ [xr (some a)]) (hk : sK σ a = 10) (hr1 : R'.frames + 1 ≤ R.frames) (hr2 : 8 + (1 + 11) + R'.locals ≤ R.locals) (hb1 : k + R'.cells ≤ R.cells) (hb2 : n + R'.slots ≤ R.slots) (hst : (st.map catP).sum ≤ 8) (kk : ∀ x σ', Q x σ' → Aw Ω M_Dw_lay R F (k + R'.cells) (n + R'.slots) 61 L (xi x :: st) σ') (kx : ∀ E σ', QX' E σ' → Ax Ω M_Dw_lay R F (k + R'.cells) (n + R'.slots) 58 L st σ' E) : Aw Ω M_Dw_lay R F k n 58 L (xr (some a) :: st) σ :=
  Aw.callV (As := []) (stk := xr (some a) :: st) (nn := 0) 9 M_Txt_size hc ok_Txt_size rfl (by decide) rfl hk ml_Dw_112 im_Txt_size se_Txt_size ⟨hr1, hr2⟩ rfl ⟨hb1, hb2⟩ hst rfl d_Dw_lay_58 (fun r σ' h => by obtain ⟨x, rfl, h⟩ := h; exact kk x σ' h) kx
theorem c_Dw_lay_70 {Ω : Om} {R R' : Room} {F : QF} {k n : Nat} {L st : List PV} {σ : Sto} {QX' : String → Sto → Prop} {Q : Sto → Prop} {a : Nat} (hc : MC Ω M_Drf_takeBack R' (RV Q) QX' σ [xr (some a)]) (hk : sK σ a = 4) (hr1 : R'.frames + 1 ≤ R.frames) (hr2 : 8 + (2 + 11) + R'.locals ≤ R.locals) (hb1 : k + R'.cells ≤ R.cells) (hb2 : n + R'.slots ≤ R.slots) (hst : (st.map catP).sum ≤ 8) (kk : ∀ σ', Q σ' → Aw Ω M_Dw_lay R F (k + R'.cells) (n + R'.slots) 73 L st σ') (kx : ∀ E σ', QX' E σ' → Ax Ω M_Dw_lay R F (k + R'.cells) (n + R'.slots) 70 L st σ' E) : Aw Ω M_Dw_lay R F k n 70 L (xr (some a) :: st) σ :=
  Aw.callV (As := []) (stk := xr (some a) :: st) (nn := 0) 3 M_Drf_takeBack hc ok_Drf_takeBack rfl (by decide) rfl hk ml_Dw_177 im_Drf_takeBack se_Drf_takeBack ⟨hr1, hr2⟩ rfl ⟨hb1, hb2⟩ hst rfl d_Dw_lay_70 (fun r σ' h => by obtain ⟨rfl, h⟩ := h; exact kk σ' h) kx
theorem t_Dw_lay_73 {Ω : Om} {R : Room} {k n : Nat} {L : List PV} {σ : Sto} {QR : Option PV → Sto → Prop} {QX : String → Sto → Prop} {st : List PV} (hRf : 5 < R.frames) (hRl : (st.map catP).sum + 82 ≤ R.locals) (hc : k + 1 ≤ R.cells) (hs : n + 6 ≤ R.slots) (hx : ∀ n', sN σ ≤ n' → QX "java/lang/IllegalStateException" (nX σ n')) : Aw Ω M_Dw_lay R (MF Ω R QR QX) k n 73 L st σ := Aw.throwS (text := "the text would have more than 20 lines") rfl (by decide +kernel) exn_f cl_Dw_132 exi_IllegalStateException (List.mem_of_getElem? (i := 1236) (by decide +kernel)) exa_Dw_136 exg_Dw_136 d_Dw_lay_73 d_Dw_lay_76 d_Dw_lay_77 d_Dw_lay_79 d_Dw_lay_82 hRf hRl hc hs hx
theorem c_Dw_lay_91 {Ω : Om} {R R' : Room} {F : QF} {k n : Nat} {L st : List PV} {σ : Sto} {QX' : String → Sto → Prop} {Q : Sto → Prop} {a : Nat} {x0 : Option Nat} (hc : MC Ω M_Drf_namePutIn R' (RV Q) QX' σ [xr (some a), xr x0]) (hk : sK σ a = 4) (hr1 : R'.frames + 1 ≤ R.frames) (hr2 : 8 + (3 + 11) + R'.locals ≤ R.locals) (hb1 : k + R'.cells ≤ R.cells) (hb2 : n + R'.slots ≤ R.slots) (hst : (st.map catP).sum ≤ 8) (kk : ∀ σ', Q σ' → Aw Ω M_Dw_lay R F (k + R'.cells) (n + R'.slots) 94 L st σ') (kx : ∀ E σ', QX' E σ' → Ax Ω M_Dw_lay R F (k + R'.cells) (n + R'.slots) 91 L st σ' E) : Aw Ω M_Dw_lay R F k n 91 L (xr x0 :: xr (some a) :: st) σ :=
  Aw.callV (As := [xr x0]) (stk := xr x0 :: xr (some a) :: st) (nn := 1) 3 M_Drf_namePutIn hc ok_Drf_namePutIn rfl (by decide) rfl hk ml_Dw_148 im_Drf_namePutIn se_Drf_namePutIn ⟨hr1, hr2⟩ rfl ⟨hb1, hb2⟩ hst rfl d_Dw_lay_91 (fun r σ' h => by obtain ⟨rfl, h⟩ := h; exact kk σ' h) kx
theorem r_Dw_lay_106 {Ω : Om} {R : Room} {k n : Nat} {L : List PV} {σ : Sto} {QR : Option PV → Sto → Prop} {QX : String → Sto → Prop} {x : Int} (h : QR (some (xi x)) σ) (h1 : k ≤ R.cells) (h2 : n ≤ R.slots) : Aw Ω M_Dw_lay R (MF Ω R QR QX) k n 106 L [xi x] σ := Aw.iret rfl h h1 h2 d_Dw_lay_106
theorem e_Dw_likeness {Ω : Om} {R : Room} {QR : Option PV → Sto → Prop} {QX : String → Sto → Prop} {σ : Sto} {a0 : Nat} {v1 : Int64} {v3 : Int64} (h : Aw Ω M_Dw_likeness R (MF Ω R QR QX) 0 0 0 [xr (some a0), xl v1, xu, xl v3, xu] [] σ) : MC Ω M_Dw_likeness R QR QX σ [xr (some a0), xl v1, xl v3] := MC.body (by decide +kernel) rfl (Nat.le_of_ble_eq_true rfl) rfl h
theorem b_Dw_likeness_0 {Ω : Om} {R : Room} {F : QF} {k n : Nat} {σ : Sto} {a0 : Nat} {v1 : Int64} {v3 : Int64} (h : Aw Ω M_Dw_likeness R F k n 2 [xr (some a0), xl v1, xu, xl v3, xu] [xl v1, xr (some a0)] σ) : Aw Ω M_Dw_likeness R F k n 0 [xr (some a0), xl v1, xu, xl v3, xu] [] σ := by
  refine Aw.aload_n rfl d_Dw_likeness_0 ?_
  refine Aw.lload_n rfl d_Dw_likeness_1 ?_
  exact h
theorem b_Dw_likeness_5 {Ω : Om} {R : Room} {F : QF} {k n : Nat} {σ : Sto} {a0 : Nat} {v1 : Int64} {v3 : Int64} (h : Aw Ω M_Dw_likeness R F k n 7 [xr (some a0), xl v1, xu, xl v3, xu] [xl v3, xr (some a0)] σ) : Aw Ω M_Dw_likeness R F k n 5 [xr (some a0), xl v1, xu, xl v3, xu] [] σ := by
  refine Aw.aload_n rfl d_Dw_likeness_5 ?_
  refine Aw.lload_n rfl d_Dw_likeness_6 ?_
  exact h
theorem b_Dw_likeness_10 {Ω : Om} {R : Room} {F : QF} {k n : Nat} {σ : Sto} {a0 : Nat} {v1 : Int64} {v3 : Int64} (h : Aw Ω M_Dw_likeness R F k n 12 [xr (some a0), xl v1, xu, xl v3, xu] [xl v3, xl v1] σ) : Aw Ω M_Dw_likeness R F k n 10 [xr (some a0), xl v1, xu, xl v3, xu] [] σ := by
  refine Aw.lload_n rfl d_Dw_likeness_10 ?_
  refine Aw.lload_n rfl d_Dw_likeness_11 ?_
  exact h
theorem c_Dw_likeness_2 {Ω : Om} {R R' : Room} {F : QF} {k n : Nat} {L st : List PV} {σ : Sto} {QX' : String → Sto → Prop} {Q : Sto → Prop} {a : Nat} {x0 : Int64} (hc : MC Ω M_Dw_checkLine R' (RV Q) QX' σ [xr (some a), xl x0]) (hk : sK σ a = 1) (hr1 : R'.frames + 1 ≤ R.frames) (hr2 : 8 + (3 + 11) + R'.locals ≤ R.locals) (hb1 : k + R'.cells ≤ R.cells) (hb2 : n + R'.slots ≤ R.slots) (hst : (st.map catP).sum ≤ 8) (kk : ∀ σ', Q σ' → Aw Ω M_Dw_likeness R F (k + R'.cells) (n + R'.slots) 5 L st σ') (kx : ∀ E σ', QX' E σ' → Ax Ω M_Dw_likeness R F (k + R'.cells) (n + R'.slots) 2 L st σ' E) : Aw Ω M_Dw_likeness R F k n 2 L (xl x0 :: xr (some a) :: st) σ :=
  Aw.callV (As := [xl x0]) (stk := xl x0 :: xr (some a) :: st) (nn := 1) 0 M_Dw_checkLine hc ok_Dw_checkLine rfl (by decide) rfl hk ml_Dw_125 im_Dw_checkLine se_Dw_checkLine ⟨hr1, hr2⟩ rfl ⟨hb1, hb2⟩ hst rfl d_Dw_likeness_2 (fun r σ' h => by obtain ⟨rfl, h⟩ := h; exact kk σ' h) kx
theorem c_Dw_likeness_7 {Ω : Om} {R R' : Room} {F : QF} {k n : Nat} {L st : List PV} {σ : Sto} {QX' : String → Sto → Prop} {Q : Sto → Prop} {a : Nat} {x0 : Int64} (hc : MC Ω M_Dw_checkLine R' (RV Q) QX' σ [xr (some a), xl x0]) (hk : sK σ a = 1) (hr1 : R'.frames + 1 ≤ R.frames) (hr2 : 8 + (3 + 11) + R'.locals ≤ R.locals) (hb1 : k + R'.cells ≤ R.cells) (hb2 : n + R'.slots ≤ R.slots) (hst : (st.map catP).sum ≤ 8) (kk : ∀ σ', Q σ' → Aw Ω M_Dw_likeness R F (k + R'.cells) (n + R'.slots) 10 L st σ') (kx : ∀ E σ', QX' E σ' → Ax Ω M_Dw_likeness R F (k + R'.cells) (n + R'.slots) 7 L st σ' E) : Aw Ω M_Dw_likeness R F k n 7 L (xl x0 :: xr (some a) :: st) σ :=
  Aw.callV (As := [xl x0]) (stk := xl x0 :: xr (some a) :: st) (nn := 1) 0 M_Dw_checkLine hc ok_Dw_checkLine rfl (by decide) rfl hk ml_Dw_125 im_Dw_checkLine se_Dw_checkLine ⟨hr1, hr2⟩ rfl ⟨hb1, hb2⟩ hst rfl d_Dw_likeness_7 (fun r σ' h => by obtain ⟨rfl, h⟩ := h; exact kk σ' h) kx
theorem c_Dw_likeness_12 {Ω : Om} {R R' : Room} {F : QF} {k n : Nat} {L st : List PV} {σ : Sto} {QX' : String → Sto → Prop} {Q : Int → Sto → Prop} {x0 : Int64} {x1 : Int64} (hc : MC Ω M_Lbk_likenessOf R' (RI Q) QX' σ [xl x0, xl x1]) (hr1 : R'.frames + 1 ≤ R.frames) (hr2 : 8 + (5 + 11) + R'.locals ≤ R.locals) (hb1 : k + R'.cells ≤ R.cells) (hb2 : n + R'.slots ≤ R.slots) (hst : (st.map catP).sum ≤ 8) (kk : ∀ x σ', Q x σ' → Aw Ω M_Dw_likeness R F (k + R'.cells) (n + R'.slots) 15 L (xi x :: st) σ') (kx : ∀ E σ', QX' E σ' → Ax Ω M_Dw_likeness R F (k + R'.cells) (n + R'.slots) 12 L st σ' E) : Aw Ω M_Dw_likeness R F k n 12 L (xl x1 :: xl x0 :: st) σ :=
  Aw.callS (As := [xl x0, xl x1]) (stk := xl x1 :: xl x0 :: st) (nn := 2) M_Lbk_likenessOf hc ok_Lbk_likenessOf rfl ml_Dw_164 sta_Lbk_likenessOf ⟨hr1, hr2⟩ rfl ⟨hb1, hb2⟩ hst rfl d_Dw_likeness_12 (fun r σ' h => by obtain ⟨x, rfl, h⟩ := h; exact kk x σ' h) kx
theorem r_Dw_likeness_15 {Ω : Om} {R : Room} {k n : Nat} {L : List PV} {σ : Sto} {QR : Option PV → Sto → Prop} {QX : String → Sto → Prop} {x : Int} (h : QR (some (xi x)) σ) (h1 : k ≤ R.cells) (h2 : n ≤ R.slots) : Aw Ω M_Dw_likeness R (MF Ω R QR QX) k n 15 L [xi x] σ := Aw.iret rfl h h1 h2 d_Dw_likeness_15
theorem e_Dw_lineAnew {Ω : Om} {R : Room} {QR : Option PV → Sto → Prop} {QX : String → Sto → Prop} {σ : Sto} {a0 : Nat} {v1 : Int} {v2 : Int} (h : Aw Ω M_Dw_lineAnew R (MF Ω R QR QX) 0 0 0 [xr (some a0), xi v1, xi v2, xu, xu] [] σ) : MC Ω M_Dw_lineAnew R QR QX σ [xr (some a0), xi v1, xi v2] := MC.body (by decide +kernel) rfl (Nat.le_of_ble_eq_true rfl) rfl h
theorem b_Dw_lineAnew_0 {Ω : Om} {R : Room} {F : QF} {k n : Nat} {σ : Sto} {a0 : Nat} {v1 : Int} {v2 : Int} (h : Aw Ω M_Dw_lineAnew R F k n 2 [xr (some a0), xi v1, xi v2, xu, xu] [xi v1, xr (some a0)] σ) : Aw Ω M_Dw_lineAnew R F k n 0 [xr (some a0), xi v1, xi v2, xu, xu] [] σ := by
  refine Aw.aload_n rfl d_Dw_lineAnew_0 ?_
  refine Aw.iload_n rfl d_Dw_lineAnew_1 ?_
  exact h
theorem b_Dw_lineAnew_5 {Ω : Om} {R : Room} {F : QF} {k n : Nat} {σ : Sto} {a0 : Nat} {v1 : Int} {v2 : Int} {s0 : Nat} (h : sK σ s0 = 12 ∧ (∃ b2 : Nat, fR σ 704 s0 = some b2 ∧ Aw Ω M_Dw_lineAnew R F k n 12 [xr (some a0), xi v1, xi v2, xr (some s0), xu] [xr (some b2), xi v2, xr (some a0)] σ)) : Aw Ω M_Dw_lineAnew R F k n 5 [xr (some a0), xi v1, xi v2, xu, xu] [xr (some s0)] σ := by
  refine Aw.astore_n (by decide) d_Dw_lineAnew_5 ?_
  refine Aw.toL (L' := [xr (some a0), xi v1, xi v2, xr (some s0), xu]) rfl ?_
  refine Aw.aload_n rfl d_Dw_lineAnew_6 ?_
  refine Aw.iload_n rfl d_Dw_lineAnew_7 ?_
  refine Aw.aload_n rfl d_Dw_lineAnew_8 ?_
  obtain ⟨o1, h⟩ := h
  obtain ⟨b2, e3, h⟩ := h
  refine Aw.getRs (f := 704) 11 0 fl_Dw_99 (by decide) (by decide) rfl rfl o1 e3 d_Dw_lineAnew_9 ?_
  exact h
theorem b_Dw_lineAnew_18 {Ω : Om} {R : Room} {F : QF} {k n : Nat} {σ : Sto} {a0 : Nat} {v1 : Int} {v2 : Int} {a3 : Nat} (h : Aw Ω M_Dw_lineAnew R F k n 21 [xr (some a0), xi v1, xi v2, xr (some a3), xi 1] [] σ) : Aw Ω M_Dw_lineAnew R F k n 18 [xr (some a0), xi v1, xi v2, xr (some a3), xu] [] σ := by
  refine Aw.iconst d_Dw_lineAnew_18 ?_
  refine Aw.istore (by decide) d_Dw_lineAnew_19 ?_
  refine Aw.toL (L' := [xr (some a0), xi v1, xi v2, xr (some a3), xi 1]) rfl ?_
  exact h
theorem b_Dw_lineAnew_21 {Ω : Om} {R : Room} {F : QF} {k n : Nat} {σ : Sto} {a0 : Nat} {v1 : Int} {v2 : Int} {a3 : Nat} {v4 : Int} (h : Q32 v4 ∧ Q32 v1 ∧ ((v1 < v4 → sK σ a3 = 12 ∧ (∃ b4 : Nat, fR σ 705 a3 = some b4 ∧ Aw Ω M_Dw_lineAnew R F k n 64 [xr (some a0), xi v1, xi v2, xr (some a3), xi v4] [xi v2, xr (some b4)] σ)) ∧ (¬ v1 < v4 → ((v4 = v1 → sK σ a0 = 1 ∧ (∃ b7 : Nat, fR σ 0 a0 = some b7 ∧ sK σ b7 = 55 ∧ 0 ≤ v4 ∧ v4 < sZ σ b7 ∧ Aw Ω M_Dw_lineAnew R F k n 50 [xr (some a0), xi v1, xi v2, xr (some a3), xi v4] [xr (aR σ b7 (v4).toNat), xr (some a0)] σ)) ∧ (¬ v4 = v1 → Aw Ω M_Dw_lineAnew R F k n 36 [xr (some a0), xi v1, xi v2, xr (some a3), xi v4] [xi v4, xr (some a3)] σ))))) : Aw Ω M_Dw_lineAnew R F k n 21 [xr (some a0), xi v1, xi v2, xr (some a3), xi v4] [] σ := by
  refine Aw.iload rfl d_Dw_lineAnew_21 ?_
  refine Aw.iload_n rfl d_Dw_lineAnew_23 ?_
  obtain ⟨o1, h⟩ := h
  obtain ⟨o2, h⟩ := h
  obtain ⟨ht, hf⟩ := h
  refine Aw.icmp_gt (tgt := 59) o1 o2 (by decide) d_Dw_lineAnew_24 (fun c13 => ?_) (fun c13 => ?_)
  · have h := ht c13
    refine Aw.aload_n rfl d_Dw_lineAnew_59 ?_
    obtain ⟨o3, h⟩ := h
    obtain ⟨b4, e5, h⟩ := h
    refine Aw.getRs (f := 705) 11 1 fl_Dw_207 (by decide) (by decide) rfl rfl o3 e5 d_Dw_lineAnew_60 ?_
    refine Aw.iload_n rfl d_Dw_lineAnew_63 ?_
    exact h
  · have h := hf c13
    refine Aw.iload rfl d_Dw_lineAnew_27 ?_
    refine Aw.iload_n rfl d_Dw_lineAnew_29 ?_
    obtain ⟨ht, hf⟩ := h
    refine Aw.icmp_eq (tgt := 42) o1 o2 (by decide) d_Dw_lineAnew_30 (fun c12 => ?_) (fun c12 => ?_)
    · have h := ht c12
      refine Aw.aload_n rfl d_Dw_lineAnew_42 ?_
      refine Aw.aload_n rfl d_Dw_lineAnew_43 ?_
      obtain ⟨o6, h⟩ := h
      obtain ⟨b7, e8, h⟩ := h
      refine Aw.getRs (f := 0) 0 0 fl_Dw_11 (by decide) (by decide) rfl rfl o6 e8 d_Dw_lineAnew_44 ?_
      refine Aw.iload rfl d_Dw_lineAnew_47 ?_
      obtain ⟨o9, h⟩ := h
      obtain ⟨o10, o11, h⟩ := h
      refine Aw.aald 5 (by decide) (by decide) o9 o10 o11 d_Dw_lineAnew_49 ?_
      exact h
    · have h := hf c12
      refine Aw.aload_n rfl d_Dw_lineAnew_33 ?_
      refine Aw.iload rfl d_Dw_lineAnew_34 ?_
      exact h
theorem b_Dw_lineAnew_39 {Ω : Om} {R : Room} {F : QF} {k n : Nat} {σ : Sto} {a0 : Nat} {v1 : Int} {v2 : Int} {a3 : Nat} {v4 : Int} {s0 : Int} (h : Q32 s0 ∧ ((s0 = (0 : Int) → Aw Ω M_Dw_lineAnew R F k n 21 [xr (some a0), xi v1, xi v2, xr (some a3), xi (v4 + 1)] [] σ) ∧ (¬ s0 = (0 : Int) → sK σ a0 = 1 ∧ (∃ b3 : Nat, fR σ 0 a0 = some b3 ∧ sK σ b3 = 55 ∧ 0 ≤ v4 ∧ v4 < sZ σ b3 ∧ Aw Ω M_Dw_lineAnew R F k n 50 [xr (some a0), xi v1, xi v2, xr (some a3), xi v4] [xr (aR σ b3 (v4).toNat), xr (some a0)] σ)))) : Aw Ω M_Dw_lineAnew R F k n 39 [xr (some a0), xi v1, xi v2, xr (some a3), xi v4] [xi s0] σ := by
  obtain ⟨o1, h⟩ := h
  obtain ⟨ht, hf⟩ := h
  refine Aw.if_eq (tgt := 53) o1 (by decide) d_Dw_lineAnew_39 (fun c8 => ?_) (fun c8 => ?_)
  · have h := ht c8
    refine Aw.iinc rfl d_Dw_lineAnew_53 ?_
    refine Aw.toL (L' := [xr (some a0), xi v1, xi v2, xr (some a3), xi (v4 + 1)]) rfl ?_
    refine Aw.goto (tgt := 21) (by decide) d_Dw_lineAnew_56 ?_
    exact h
  · have h := hf c8
    refine Aw.aload_n rfl d_Dw_lineAnew_42 ?_
    refine Aw.aload_n rfl d_Dw_lineAnew_43 ?_
    obtain ⟨o2, h⟩ := h
    obtain ⟨b3, e4, h⟩ := h
    refine Aw.getRs (f := 0) 0 0 fl_Dw_11 (by decide) (by decide) rfl rfl o2 e4 d_Dw_lineAnew_44 ?_
    refine Aw.iload rfl d_Dw_lineAnew_47 ?_
    obtain ⟨o5, h⟩ := h
    obtain ⟨o6, o7, h⟩ := h
    refine Aw.aald 5 (by decide) (by decide) o5 o6 o7 d_Dw_lineAnew_49 ?_
    exact h
theorem b_Dw_lineAnew_53 {Ω : Om} {R : Room} {F : QF} {k n : Nat} {σ : Sto} {a0 : Nat} {v1 : Int} {v2 : Int} {a3 : Nat} {v4 : Int} (h : Aw Ω M_Dw_lineAnew R F k n 21 [xr (some a0), xi v1, xi v2, xr (some a3), xi (v4 + 1)] [] σ) : Aw Ω M_Dw_lineAnew R F k n 53 [xr (some a0), xi v1, xi v2, xr (some a3), xi v4] [] σ := by
  refine Aw.iinc rfl d_Dw_lineAnew_53 ?_
  refine Aw.toL (L' := [xr (some a0), xi v1, xi v2, xr (some a3), xi (v4 + 1)]) rfl ?_
  refine Aw.goto (tgt := 21) (by decide) d_Dw_lineAnew_56 ?_
  exact h
theorem c_Dw_lineAnew_2 {Ω : Om} {R R' : Room} {F : QF} {k n : Nat} {L st : List PV} {σ : Sto} {QX' : String → Sto → Prop} {Q : Option Nat → Sto → Prop} {a : Nat} {x0 : Int} (hc : MC Ω M_Dw_versionAt R' (RR Q) QX' σ [xr (some a), xi x0]) (hk : sK σ a = 1) (hr1 : R'.frames + 1 ≤ R.frames) (hr2 : 8 + (2 + 11) + R'.locals ≤ R.locals) (hb1 : k + R'.cells ≤ R.cells) (hb2 : n + R'.slots ≤ R.slots) (hst : (st.map catP).sum ≤ 8) (kk : ∀ x σ', Q x σ' → Aw Ω M_Dw_lineAnew R F (k + R'.cells) (n + R'.slots) 5 L (xr x :: st) σ') (kx : ∀ E σ', QX' E σ' → Ax Ω M_Dw_lineAnew R F (k + R'.cells) (n + R'.slots) 2 L st σ' E) : Aw Ω M_Dw_lineAnew R F k n 2 L (xi x0 :: xr (some a) :: st) σ :=
  Aw.callV (As := [xi x0]) (stk := xi x0 :: xr (some a) :: st) (nn := 1) 0 M_Dw_versionAt hc ok_Dw_versionAt rfl (by decide) rfl hk ml_Dw_91 im_Dw_versionAt se_Dw_versionAt ⟨hr1, hr2⟩ rfl ⟨hb1, hb2⟩ hst rfl d_Dw_lineAnew_2 (fun r σ' h => by obtain ⟨x, rfl, h⟩ := h; exact kk x σ' h) kx
theorem c_Dw_lineAnew_12 {Ω : Om} {R R' : Room} {F : QF} {k n : Nat} {L st : List PV} {σ : Sto} {QX' : String → Sto → Prop} {Q : Int → Sto → Prop} {a : Nat} (hc : MC Ω M_Txt_size R' (RI Q) QX' σ [xr (some a)]) (hk : sK σ a = 10) (hr1 : R'.frames + 1 ≤ R.frames) (hr2 : 8 + (1 + 11) + R'.locals ≤ R.locals) (hb1 : k + R'.cells ≤ R.cells) (hb2 : n + R'.slots ≤ R.slots) (hst : (st.map catP).sum ≤ 8) (kk : ∀ x σ', Q x σ' → Aw Ω M_Dw_lineAnew R F (k + R'.cells) (n + R'.slots) 15 L (xi x :: st) σ') (kx : ∀ E σ', QX' E σ' → Ax Ω M_Dw_lineAnew R F (k + R'.cells) (n + R'.slots) 12 L st σ' E) : Aw Ω M_Dw_lineAnew R F k n 12 L (xr (some a) :: st) σ :=
  Aw.callV (As := []) (stk := xr (some a) :: st) (nn := 0) 9 M_Txt_size hc ok_Txt_size rfl (by decide) rfl hk ml_Dw_112 im_Txt_size se_Txt_size ⟨hr1, hr2⟩ rfl ⟨hb1, hb2⟩ hst rfl d_Dw_lineAnew_12 (fun r σ' h => by obtain ⟨x, rfl, h⟩ := h; exact kk x σ' h) kx
theorem c_Dw_lineAnew_15 {Ω : Om} {R R' : Room} {F : QF} {k n : Nat} {L st : List PV} {σ : Sto} {QX' : String → Sto → Prop} {Q : Sto → Prop} {a : Nat} {x0 : Int} {x1 : Int} (hc : MC Ω M_Dw_checkPlace R' (RV Q) QX' σ [xr (some a), xi x0, xi x1]) (hk : sK σ a = 1) (hr1 : R'.frames + 1 ≤ R.frames) (hr2 : 8 + (3 + 11) + R'.locals ≤ R.locals) (hb1 : k + R'.cells ≤ R.cells) (hb2 : n + R'.slots ≤ R.slots) (hst : (st.map catP).sum ≤ 8) (kk : ∀ σ', Q σ' → Aw Ω M_Dw_lineAnew R F (k + R'.cells) (n + R'.slots) 18 L st σ') (kx : ∀ E σ', QX' E σ' → Ax Ω M_Dw_lineAnew R F (k + R'.cells) (n + R'.slots) 15 L st σ' E) : Aw Ω M_Dw_lineAnew R F k n 15 L (xi x1 :: xi x0 :: xr (some a) :: st) σ :=
  Aw.callV (As := [xi x0, xi x1]) (stk := xi x1 :: xi x0 :: xr (some a) :: st) (nn := 2) 0 M_Dw_checkPlace hc ok_Dw_checkPlace rfl (by decide) rfl hk ml_Dw_121 im_Dw_checkPlace se_Dw_checkPlace ⟨hr1, hr2⟩ rfl ⟨hb1, hb2⟩ hst rfl d_Dw_lineAnew_15 (fun r σ' h => by obtain ⟨rfl, h⟩ := h; exact kk σ' h) kx
theorem c_Dw_lineAnew_36 {Ω : Om} {R R' : Room} {F : QF} {k n : Nat} {L st : List PV} {σ : Sto} {QX' : String → Sto → Prop} {Q : Int → Sto → Prop} {a : Nat} {x0 : Int} (hc : MC Ω M_Ver_isOver R' (RI Q) QX' σ [xr (some a), xi x0]) (hk : sK σ a = 12) (hr1 : R'.frames + 1 ≤ R.frames) (hr2 : 8 + (2 + 11) + R'.locals ≤ R.locals) (hb1 : k + R'.cells ≤ R.cells) (hb2 : n + R'.slots ≤ R.slots) (hst : (st.map catP).sum ≤ 8) (kk : ∀ x σ', Q x σ' → Aw Ω M_Dw_lineAnew R F (k + R'.cells) (n + R'.slots) 39 L (xi x :: st) σ') (kx : ∀ E σ', QX' E σ' → Ax Ω M_Dw_lineAnew R F (k + R'.cells) (n + R'.slots) 36 L st σ' E) : Aw Ω M_Dw_lineAnew R F k n 36 L (xi x0 :: xr (some a) :: st) σ :=
  Aw.callV (As := [xi x0]) (stk := xi x0 :: xr (some a) :: st) (nn := 1) 11 M_Ver_isOver hc ok_Ver_isOver rfl (by decide) rfl hk ml_Dw_199 im_Ver_isOver se_Ver_isOver ⟨hr1, hr2⟩ rfl ⟨hb1, hb2⟩ hst rfl d_Dw_lineAnew_36 (fun r σ' h => by obtain ⟨x, rfl, h⟩ := h; exact kk x σ' h) kx
theorem c_Dw_lineAnew_50 {Ω : Om} {R R' : Room} {F : QF} {k n : Nat} {L st : List PV} {σ : Sto} {QX' : String → Sto → Prop} {Q : Sto → Prop} {a : Nat} {x0 : Option Nat} (hc : MC Ω M_Dw_makeAnew R' (RV Q) QX' σ [xr (some a), xr x0]) (hk : sK σ a = 1) (hr1 : R'.frames + 1 ≤ R.frames) (hr2 : 8 + (4 + 11) + R'.locals ≤ R.locals) (hb1 : k + R'.cells ≤ R.cells) (hb2 : n + R'.slots ≤ R.slots) (hst : (st.map catP).sum ≤ 8) (kk : ∀ σ', Q σ' → Aw Ω M_Dw_lineAnew R F (k + R'.cells) (n + R'.slots) 53 L st σ') (kx : ∀ E σ', QX' E σ' → Ax Ω M_Dw_lineAnew R F (k + R'.cells) (n + R'.slots) 50 L st σ' E) : Aw Ω M_Dw_lineAnew R F k n 50 L (xr x0 :: xr (some a) :: st) σ :=
  Aw.callV (As := [xr x0]) (stk := xr x0 :: xr (some a) :: st) (nn := 1) 0 M_Dw_makeAnew hc ok_Dw_makeAnew rfl (by decide) rfl hk ml_Dw_203 im_Dw_makeAnew se_Dw_makeAnew ⟨hr1, hr2⟩ rfl ⟨hb1, hb2⟩ hst rfl d_Dw_lineAnew_50 (fun r σ' h => by obtain ⟨rfl, h⟩ := h; exact kk σ' h) kx
theorem c_Dw_lineAnew_64 {Ω : Om} {R R' : Room} {F : QF} {k n : Nat} {L st : List PV} {σ : Sto} {QX' : String → Sto → Prop} {Q : Int64 → Sto → Prop} {a : Nat} {x0 : Int} (hc : MC Ω M_Txt_lineAt R' (RL Q) QX' σ [xr (some a), xi x0]) (hk : sK σ a = 10) (hr1 : R'.frames + 1 ≤ R.frames) (hr2 : 8 + (2 + 11) + R'.locals ≤ R.locals) (hb1 : k + R'.cells ≤ R.cells) (hb2 : n + R'.slots ≤ R.slots) (hst : (st.map catP).sum ≤ 8) (kk : ∀ x σ', Q x σ' → Aw Ω M_Dw_lineAnew R F (k + R'.cells) (n + R'.slots) 67 L (xl x :: st) σ') (kx : ∀ E σ', QX' E σ' → Ax Ω M_Dw_lineAnew R F (k + R'.cells) (n + R'.slots) 64 L st σ' E) : Aw Ω M_Dw_lineAnew R F k n 64 L (xi x0 :: xr (some a) :: st) σ :=
  Aw.callV (As := [xi x0]) (stk := xi x0 :: xr (some a) :: st) (nn := 1) 9 M_Txt_lineAt hc ok_Txt_lineAt rfl (by decide) rfl hk ml_Dw_152 im_Txt_lineAt se_Txt_lineAt ⟨hr1, hr2⟩ rfl ⟨hb1, hb2⟩ hst rfl d_Dw_lineAnew_64 (fun r σ' h => by obtain ⟨x, rfl, h⟩ := h; exact kk x σ' h) kx
theorem r_Dw_lineAnew_67 {Ω : Om} {R : Room} {k n : Nat} {L : List PV} {σ : Sto} {QR : Option PV → Sto → Prop} {QX : String → Sto → Prop} {x : Int64} (h : QR (some (xl x)) σ) (h1 : k ≤ R.cells) (h2 : n ≤ R.slots) : Aw Ω M_Dw_lineAnew R (MF Ω R QR QX) k n 67 L [xl x] σ := Aw.lret rfl h h1 h2 d_Dw_lineAnew_67
theorem e_Dw_lineOf {Ω : Om} {R : Room} {QR : Option PV → Sto → Prop} {QX : String → Sto → Prop} {σ : Sto} {a0 : Nat} {v1 : Int} {v2 : Int} (h : Aw Ω M_Dw_lineOf R (MF Ω R QR QX) 0 0 0 [xr (some a0), xi v1, xi v2, xu] [] σ) : MC Ω M_Dw_lineOf R QR QX σ [xr (some a0), xi v1, xi v2] := MC.body (by decide +kernel) rfl (Nat.le_of_ble_eq_true rfl) rfl h
theorem b_Dw_lineOf_0 {Ω : Om} {R : Room} {F : QF} {k n : Nat} {σ : Sto} {a0 : Nat} {v1 : Int} {v2 : Int} (h : Aw Ω M_Dw_lineOf R F k n 2 [xr (some a0), xi v1, xi v2, xu] [xi v1, xr (some a0)] σ) : Aw Ω M_Dw_lineOf R F k n 0 [xr (some a0), xi v1, xi v2, xu] [] σ := by
  refine Aw.aload_n rfl d_Dw_lineOf_0 ?_
  refine Aw.iload_n rfl d_Dw_lineOf_1 ?_
  exact h
theorem b_Dw_lineOf_5 {Ω : Om} {R : Room} {F : QF} {k n : Nat} {σ : Sto} {a0 : Nat} {v1 : Int} {v2 : Int} {s0 : Nat} (h : sK σ s0 = 12 ∧ (∃ b2 : Nat, fR σ 704 s0 = some b2 ∧ Aw Ω M_Dw_lineOf R F k n 12 [xr (some a0), xi v1, xi v2, xr (some b2)] [xr (some b2), xi v2, xr (some a0)] σ)) : Aw Ω M_Dw_lineOf R F k n 5 [xr (some a0), xi v1, xi v2, xu] [xr (some s0)] σ := by
  obtain ⟨o1, h⟩ := h
  obtain ⟨b2, e3, h⟩ := h
  refine Aw.getRs (f := 704) 11 0 fl_Dw_99 (by decide) (by decide) rfl rfl o1 e3 d_Dw_lineOf_5 ?_
  refine Aw.astore_n (by decide) d_Dw_lineOf_8 ?_
  refine Aw.toL (L' := [xr (some a0), xi v1, xi v2, xr (some b2)]) rfl ?_
  refine Aw.aload_n rfl d_Dw_lineOf_9 ?_
  refine Aw.iload_n rfl d_Dw_lineOf_10 ?_
  refine Aw.aload_n rfl d_Dw_lineOf_11 ?_
  exact h
theorem b_Dw_lineOf_18 {Ω : Om} {R : Room} {F : QF} {k n : Nat} {σ : Sto} {a0 : Nat} {v1 : Int} {v2 : Int} {a3 : Nat} (h : Aw Ω M_Dw_lineOf R F k n 20 [xr (some a0), xi v1, xi v2, xr (some a3)] [xi v2, xr (some a3)] σ) : Aw Ω M_Dw_lineOf R F k n 18 [xr (some a0), xi v1, xi v2, xr (some a3)] [] σ := by
  refine Aw.aload_n rfl d_Dw_lineOf_18 ?_
  refine Aw.iload_n rfl d_Dw_lineOf_19 ?_
  exact h
theorem c_Dw_lineOf_2 {Ω : Om} {R R' : Room} {F : QF} {k n : Nat} {L st : List PV} {σ : Sto} {QX' : String → Sto → Prop} {Q : Option Nat → Sto → Prop} {a : Nat} {x0 : Int} (hc : MC Ω M_Dw_versionAt R' (RR Q) QX' σ [xr (some a), xi x0]) (hk : sK σ a = 1) (hr1 : R'.frames + 1 ≤ R.frames) (hr2 : 8 + (2 + 11) + R'.locals ≤ R.locals) (hb1 : k + R'.cells ≤ R.cells) (hb2 : n + R'.slots ≤ R.slots) (hst : (st.map catP).sum ≤ 8) (kk : ∀ x σ', Q x σ' → Aw Ω M_Dw_lineOf R F (k + R'.cells) (n + R'.slots) 5 L (xr x :: st) σ') (kx : ∀ E σ', QX' E σ' → Ax Ω M_Dw_lineOf R F (k + R'.cells) (n + R'.slots) 2 L st σ' E) : Aw Ω M_Dw_lineOf R F k n 2 L (xi x0 :: xr (some a) :: st) σ :=
  Aw.callV (As := [xi x0]) (stk := xi x0 :: xr (some a) :: st) (nn := 1) 0 M_Dw_versionAt hc ok_Dw_versionAt rfl (by decide) rfl hk ml_Dw_91 im_Dw_versionAt se_Dw_versionAt ⟨hr1, hr2⟩ rfl ⟨hb1, hb2⟩ hst rfl d_Dw_lineOf_2 (fun r σ' h => by obtain ⟨x, rfl, h⟩ := h; exact kk x σ' h) kx
theorem c_Dw_lineOf_12 {Ω : Om} {R R' : Room} {F : QF} {k n : Nat} {L st : List PV} {σ : Sto} {QX' : String → Sto → Prop} {Q : Int → Sto → Prop} {a : Nat} (hc : MC Ω M_Txt_size R' (RI Q) QX' σ [xr (some a)]) (hk : sK σ a = 10) (hr1 : R'.frames + 1 ≤ R.frames) (hr2 : 8 + (1 + 11) + R'.locals ≤ R.locals) (hb1 : k + R'.cells ≤ R.cells) (hb2 : n + R'.slots ≤ R.slots) (hst : (st.map catP).sum ≤ 8) (kk : ∀ x σ', Q x σ' → Aw Ω M_Dw_lineOf R F (k + R'.cells) (n + R'.slots) 15 L (xi x :: st) σ') (kx : ∀ E σ', QX' E σ' → Ax Ω M_Dw_lineOf R F (k + R'.cells) (n + R'.slots) 12 L st σ' E) : Aw Ω M_Dw_lineOf R F k n 12 L (xr (some a) :: st) σ :=
  Aw.callV (As := []) (stk := xr (some a) :: st) (nn := 0) 9 M_Txt_size hc ok_Txt_size rfl (by decide) rfl hk ml_Dw_112 im_Txt_size se_Txt_size ⟨hr1, hr2⟩ rfl ⟨hb1, hb2⟩ hst rfl d_Dw_lineOf_12 (fun r σ' h => by obtain ⟨x, rfl, h⟩ := h; exact kk x σ' h) kx
theorem c_Dw_lineOf_15 {Ω : Om} {R R' : Room} {F : QF} {k n : Nat} {L st : List PV} {σ : Sto} {QX' : String → Sto → Prop} {Q : Sto → Prop} {a : Nat} {x0 : Int} {x1 : Int} (hc : MC Ω M_Dw_checkPlace R' (RV Q) QX' σ [xr (some a), xi x0, xi x1]) (hk : sK σ a = 1) (hr1 : R'.frames + 1 ≤ R.frames) (hr2 : 8 + (3 + 11) + R'.locals ≤ R.locals) (hb1 : k + R'.cells ≤ R.cells) (hb2 : n + R'.slots ≤ R.slots) (hst : (st.map catP).sum ≤ 8) (kk : ∀ σ', Q σ' → Aw Ω M_Dw_lineOf R F (k + R'.cells) (n + R'.slots) 18 L st σ') (kx : ∀ E σ', QX' E σ' → Ax Ω M_Dw_lineOf R F (k + R'.cells) (n + R'.slots) 15 L st σ' E) : Aw Ω M_Dw_lineOf R F k n 15 L (xi x1 :: xi x0 :: xr (some a) :: st) σ :=
  Aw.callV (As := [xi x0, xi x1]) (stk := xi x1 :: xi x0 :: xr (some a) :: st) (nn := 2) 0 M_Dw_checkPlace hc ok_Dw_checkPlace rfl (by decide) rfl hk ml_Dw_121 im_Dw_checkPlace se_Dw_checkPlace ⟨hr1, hr2⟩ rfl ⟨hb1, hb2⟩ hst rfl d_Dw_lineOf_15 (fun r σ' h => by obtain ⟨rfl, h⟩ := h; exact kk σ' h) kx
theorem c_Dw_lineOf_20 {Ω : Om} {R R' : Room} {F : QF} {k n : Nat} {L st : List PV} {σ : Sto} {QX' : String → Sto → Prop} {Q : Int64 → Sto → Prop} {a : Nat} {x0 : Int} (hc : MC Ω M_Txt_lineAt R' (RL Q) QX' σ [xr (some a), xi x0]) (hk : sK σ a = 10) (hr1 : R'.frames + 1 ≤ R.frames) (hr2 : 8 + (2 + 11) + R'.locals ≤ R.locals) (hb1 : k + R'.cells ≤ R.cells) (hb2 : n + R'.slots ≤ R.slots) (hst : (st.map catP).sum ≤ 8) (kk : ∀ x σ', Q x σ' → Aw Ω M_Dw_lineOf R F (k + R'.cells) (n + R'.slots) 23 L (xl x :: st) σ') (kx : ∀ E σ', QX' E σ' → Ax Ω M_Dw_lineOf R F (k + R'.cells) (n + R'.slots) 20 L st σ' E) : Aw Ω M_Dw_lineOf R F k n 20 L (xi x0 :: xr (some a) :: st) σ :=
  Aw.callV (As := [xi x0]) (stk := xi x0 :: xr (some a) :: st) (nn := 1) 9 M_Txt_lineAt hc ok_Txt_lineAt rfl (by decide) rfl hk ml_Dw_152 im_Txt_lineAt se_Txt_lineAt ⟨hr1, hr2⟩ rfl ⟨hb1, hb2⟩ hst rfl d_Dw_lineOf_20 (fun r σ' h => by obtain ⟨x, rfl, h⟩ := h; exact kk x σ' h) kx
theorem r_Dw_lineOf_23 {Ω : Om} {R : Room} {k n : Nat} {L : List PV} {σ : Sto} {QR : Option PV → Sto → Prop} {QX : String → Sto → Prop} {x : Int64} (h : QR (some (xl x)) σ) (h1 : k ≤ R.cells) (h2 : n ≤ R.slots) : Aw Ω M_Dw_lineOf R (MF Ω R QR QX) k n 23 L [xl x] σ := Aw.lret rfl h h1 h2 d_Dw_lineOf_23
theorem e_Dw_lines {Ω : Om} {R : Room} {QR : Option PV → Sto → Prop} {QX : String → Sto → Prop} {σ : Sto} {a0 : Nat} {v1 : Int} (h : Aw Ω M_Dw_lines R (MF Ω R QR QX) 0 0 0 [xr (some a0), xi v1] [] σ) : MC Ω M_Dw_lines R QR QX σ [xr (some a0), xi v1] := MC.body (by decide +kernel) rfl (Nat.le_of_ble_eq_true rfl) rfl h
theorem b_Dw_lines_0 {Ω : Om} {R : Room} {F : QF} {k n : Nat} {σ : Sto} {a0 : Nat} {v1 : Int} (h : Aw Ω M_Dw_lines R F k n 2 [xr (some a0), xi v1] [xi v1, xr (some a0)] σ) : Aw Ω M_Dw_lines R F k n 0 [xr (some a0), xi v1] [] σ := by
  refine Aw.aload_n rfl d_Dw_lines_0 ?_
  refine Aw.iload_n rfl d_Dw_lines_1 ?_
  exact h
theorem b_Dw_lines_5 {Ω : Om} {R : Room} {F : QF} {k n : Nat} {σ : Sto} {a0 : Nat} {v1 : Int} {s0 : Nat} (h : sK σ s0 = 12 ∧ (∃ b2 : Nat, fR σ 704 s0 = some b2 ∧ Aw Ω M_Dw_lines R F k n 8 [xr (some a0), xi v1] [xr (some b2)] σ)) : Aw Ω M_Dw_lines R F k n 5 [xr (some a0), xi v1] [xr (some s0)] σ := by
  obtain ⟨o1, h⟩ := h
  obtain ⟨b2, e3, h⟩ := h
  refine Aw.getRs (f := 704) 11 0 fl_Dw_99 (by decide) (by decide) rfl rfl o1 e3 d_Dw_lines_5 ?_
  exact h
theorem c_Dw_lines_2 {Ω : Om} {R R' : Room} {F : QF} {k n : Nat} {L st : List PV} {σ : Sto} {QX' : String → Sto → Prop} {Q : Option Nat → Sto → Prop} {a : Nat} {x0 : Int} (hc : MC Ω M_Dw_versionAt R' (RR Q) QX' σ [xr (some a), xi x0]) (hk : sK σ a = 1) (hr1 : R'.frames + 1 ≤ R.frames) (hr2 : 8 + (2 + 11) + R'.locals ≤ R.locals) (hb1 : k + R'.cells ≤ R.cells) (hb2 : n + R'.slots ≤ R.slots) (hst : (st.map catP).sum ≤ 8) (kk : ∀ x σ', Q x σ' → Aw Ω M_Dw_lines R F (k + R'.cells) (n + R'.slots) 5 L (xr x :: st) σ') (kx : ∀ E σ', QX' E σ' → Ax Ω M_Dw_lines R F (k + R'.cells) (n + R'.slots) 2 L st σ' E) : Aw Ω M_Dw_lines R F k n 2 L (xi x0 :: xr (some a) :: st) σ :=
  Aw.callV (As := [xi x0]) (stk := xi x0 :: xr (some a) :: st) (nn := 1) 0 M_Dw_versionAt hc ok_Dw_versionAt rfl (by decide) rfl hk ml_Dw_91 im_Dw_versionAt se_Dw_versionAt ⟨hr1, hr2⟩ rfl ⟨hb1, hb2⟩ hst rfl d_Dw_lines_2 (fun r σ' h => by obtain ⟨x, rfl, h⟩ := h; exact kk x σ' h) kx
theorem c_Dw_lines_8 {Ω : Om} {R R' : Room} {F : QF} {k n : Nat} {L st : List PV} {σ : Sto} {QX' : String → Sto → Prop} {Q : Int → Sto → Prop} {a : Nat} (hc : MC Ω M_Txt_size R' (RI Q) QX' σ [xr (some a)]) (hk : sK σ a = 10) (hr1 : R'.frames + 1 ≤ R.frames) (hr2 : 8 + (1 + 11) + R'.locals ≤ R.locals) (hb1 : k + R'.cells ≤ R.cells) (hb2 : n + R'.slots ≤ R.slots) (hst : (st.map catP).sum ≤ 8) (kk : ∀ x σ', Q x σ' → Aw Ω M_Dw_lines R F (k + R'.cells) (n + R'.slots) 11 L (xi x :: st) σ') (kx : ∀ E σ', QX' E σ' → Ax Ω M_Dw_lines R F (k + R'.cells) (n + R'.slots) 8 L st σ' E) : Aw Ω M_Dw_lines R F k n 8 L (xr (some a) :: st) σ :=
  Aw.callV (As := []) (stk := xr (some a) :: st) (nn := 0) 9 M_Txt_size hc ok_Txt_size rfl (by decide) rfl hk ml_Dw_112 im_Txt_size se_Txt_size ⟨hr1, hr2⟩ rfl ⟨hb1, hb2⟩ hst rfl d_Dw_lines_8 (fun r σ' h => by obtain ⟨x, rfl, h⟩ := h; exact kk x σ' h) kx
theorem r_Dw_lines_11 {Ω : Om} {R : Room} {k n : Nat} {L : List PV} {σ : Sto} {QR : Option PV → Sto → Prop} {QX : String → Sto → Prop} {x : Int} (h : QR (some (xi x)) σ) (h1 : k ≤ R.cells) (h2 : n ≤ R.slots) : Aw Ω M_Dw_lines R (MF Ω R QR QX) k n 11 L [xi x] σ := Aw.iret rfl h h1 h2 d_Dw_lines_11
theorem e_Dw_makeAnew {Ω : Om} {R : Room} {QR : Option PV → Sto → Prop} {QX : String → Sto → Prop} {σ : Sto} {a0 : Nat} {a1 : Nat} (h : Aw Ω M_Dw_makeAnew R (MF Ω R QR QX) 0 0 0 [xr (some a0), xr (some a1), xu, xu] [] σ) : MC Ω M_Dw_makeAnew R QR QX σ [xr (some a0), xr (some a1)] := MC.body (by decide +kernel) rfl (Nat.le_of_ble_eq_true rfl) rfl h
theorem b_Dw_makeAnew_0 {Ω : Om} {R : Room} {F : QF} {k n : Nat} {σ : Sto} {a0 : Nat} {a1 : Nat} (h : sK σ a1 = 12 ∧ (Q32 (fI σ 708 a1) → (((fI σ 708 a1) < (0 : Int) → Aw Ω M_Dw_makeAnew R F k n 18 [xr (some a0), xr (some a1), xu, xu] [] σ) ∧ (¬ (fI σ 708 a1) < (0 : Int) → (Q32 (fI σ 708 a1) → sK σ a0 = 1 ∧ (Q32 (fI σ 12 a0) → (((fI σ 708 a1) < (fI σ 12 a0) → (∃ b6 : Nat, fR σ 0 a0 = some b6 ∧ (Q32 (fI σ 708 a1) → sK σ b6 = 55 ∧ 0 ≤ (fI σ 708 a1) ∧ (fI σ 708 a1) < sZ σ b6 ∧ ∃ b12 : Nat, aR σ b6 (fI σ 708 a1).toNat = some b12 ∧ sK σ b12 = 12 ∧ (∃ b15 : Nat, fR σ 705 b12 = some b15 ∧ (Q32 (fI σ 709 a1) → (((fI σ 709 a1) < (0 : Int) → (∃ b18 : Nat, fR σ 9 a0 = some b18 ∧ Aw Ω M_Dw_makeAnew R F k n 55 [xr (some a0), xr (some a1), xr (some b15), xu] [xr (some b15), xr (some b18)] σ)) ∧ (¬ (fI σ 709 a1) < (0 : Int) → (Q32 (fI σ 709 a1) → (Q32 (fI σ 12 a0) → (((fI σ 709 a1) < (fI σ 12 a0) → (Q32 (fI σ 708 a1) → (Q32 (fI σ 709 a1) → Aw Ω M_Dw_makeAnew R F k n 70 [xr (some a0), xr (some a1), xr (some b15), xu] [xi (fI σ 709 a1), xi (fI σ 708 a1), xr (some a0)] σ))) ∧ (¬ (fI σ 709 a1) < (fI σ 12 a0) → (∃ b24 : Nat, fR σ 9 a0 = some b24 ∧ Aw Ω M_Dw_makeAnew R F k n 55 [xr (some a0), xr (some a1), xr (some b15), xu] [xr (some b15), xr (some b24)] σ)))))))))))) ∧ (¬ (fI σ 708 a1) < (fI σ 12 a0) → Aw Ω M_Dw_makeAnew R F k n 18 [xr (some a0), xr (some a1), xu, xu] [] σ)))))))) : Aw Ω M_Dw_makeAnew R F k n 0 [xr (some a0), xr (some a1), xu, xu] [] σ := by
  refine Aw.aload_n rfl d_Dw_makeAnew_0 ?_
  obtain ⟨o1, h⟩ := h
  refine Aw.getI (f := 708) 11 4 fl_Dw_404 (by decide) (by decide) rfl rfl o1 d_Dw_makeAnew_1 (fun r2 => ?_)
  have h := h r2
  obtain ⟨ht, hf⟩ := h
  refine Aw.if_lt (tgt := 18) r2 (by decide) d_Dw_makeAnew_4 (fun c29 => ?_) (fun c29 => ?_)
  · have h := ht c29
    exact h
  · have h := hf c29
    refine Aw.aload_n rfl d_Dw_makeAnew_7 ?_
    refine Aw.getI (f := 708) 11 4 fl_Dw_404 (by decide) (by decide) rfl rfl o1 d_Dw_makeAnew_8 (fun r3 => ?_)
    have h := h r3
    refine Aw.aload_n rfl d_Dw_makeAnew_11 ?_
    obtain ⟨o4, h⟩ := h
    refine Aw.getI (f := 12) 0 12 fl_Dw_72 (by decide) (by decide) rfl rfl o4 d_Dw_makeAnew_12 (fun r5 => ?_)
    have h := h r5
    obtain ⟨ht, hf⟩ := h
    refine Aw.icmp_lt (tgt := 19) r2 r5 (by decide) d_Dw_makeAnew_15 (fun c28 => ?_) (fun c28 => ?_)
    · have h := ht c28
      refine Aw.aload_n rfl d_Dw_makeAnew_19 ?_
      obtain ⟨b6, e7, h⟩ := h
      refine Aw.getRs (f := 0) 0 0 fl_Dw_11 (by decide) (by decide) rfl rfl o4 e7 d_Dw_makeAnew_20 ?_
      refine Aw.aload_n rfl d_Dw_makeAnew_23 ?_
      refine Aw.getI (f := 708) 11 4 fl_Dw_404 (by decide) (by decide) rfl rfl o1 d_Dw_makeAnew_24 (fun r8 => ?_)
      have h := h r8
      obtain ⟨o9, h⟩ := h
      obtain ⟨o10, o11, h⟩ := h
      refine Aw.aald 5 (by decide) (by decide) o9 o10 o11 d_Dw_makeAnew_27 ?_
      obtain ⟨b12, e13, h⟩ := h
      refine Aw.der0 e13 ?_
      obtain ⟨o14, h⟩ := h
      obtain ⟨b15, e16, h⟩ := h
      refine Aw.getRs (f := 705) 11 1 fl_Dw_207 (by decide) (by decide) rfl rfl o14 e16 d_Dw_makeAnew_28 ?_
      refine Aw.astore_n (by decide) d_Dw_makeAnew_31 ?_
      refine Aw.toL (L' := [xr (some a0), xr (some a1), xr (some b15), xu]) rfl ?_
      refine Aw.aload_n rfl d_Dw_makeAnew_32 ?_
      refine Aw.getI (f := 709) 11 5 fl_Dw_405 (by decide) (by decide) rfl rfl o1 d_Dw_makeAnew_33 (fun r17 => ?_)
      have h := h r17
      obtain ⟨ht, hf⟩ := h
      refine Aw.if_lt (tgt := 50) r17 (by decide) d_Dw_makeAnew_36 (fun c27 => ?_) (fun c27 => ?_)
      · have h := ht c27
        refine Aw.aload_n rfl d_Dw_makeAnew_50 ?_
        obtain ⟨b18, e19, h⟩ := h
        refine Aw.getRs (f := 9) 0 9 fl_Dw_62 (by decide) (by decide) rfl rfl o4 e19 d_Dw_makeAnew_51 ?_
        refine Aw.aload_n rfl d_Dw_makeAnew_54 ?_
        exact h
      · have h := hf c27
        refine Aw.aload_n rfl d_Dw_makeAnew_39 ?_
        refine Aw.getI (f := 709) 11 5 fl_Dw_405 (by decide) (by decide) rfl rfl o1 d_Dw_makeAnew_40 (fun r20 => ?_)
        have h := h r20
        refine Aw.aload_n rfl d_Dw_makeAnew_43 ?_
        refine Aw.getI (f := 12) 0 12 fl_Dw_72 (by decide) (by decide) rfl rfl o4 d_Dw_makeAnew_44 (fun r21 => ?_)
        have h := h r21
        obtain ⟨ht, hf⟩ := h
        refine Aw.icmp_lt (tgt := 61) r17 r21 (by decide) d_Dw_makeAnew_47 (fun c26 => ?_) (fun c26 => ?_)
        · have h := ht c26
          refine Aw.aload_n rfl d_Dw_makeAnew_61 ?_
          refine Aw.aload_n rfl d_Dw_makeAnew_62 ?_
          refine Aw.getI (f := 708) 11 4 fl_Dw_404 (by decide) (by decide) rfl rfl o1 d_Dw_makeAnew_63 (fun r22 => ?_)
          have h := h r22
          refine Aw.aload_n rfl d_Dw_makeAnew_66 ?_
          refine Aw.getI (f := 709) 11 5 fl_Dw_405 (by decide) (by decide) rfl rfl o1 d_Dw_makeAnew_67 (fun r23 => ?_)
          have h := h r23
          exact h
        · have h := hf c26
          refine Aw.aload_n rfl d_Dw_makeAnew_50 ?_
          obtain ⟨b24, e25, h⟩ := h
          refine Aw.getRs (f := 9) 0 9 fl_Dw_62 (by decide) (by decide) rfl rfl o4 e25 d_Dw_makeAnew_51 ?_
          refine Aw.aload_n rfl d_Dw_makeAnew_54 ?_
          exact h
    · have h := hf c28
      exact h
theorem b_Dw_makeAnew_58 {Ω : Om} {R : Room} {F : QF} {k n : Nat} {σ : Sto} {a0 : Nat} {a1 : Nat} {a2 : Nat} (h : Aw Ω M_Dw_makeAnew R F k n 105 [xr (some a0), xr (some a1), xr (some a2), xi 0] [] σ) : Aw Ω M_Dw_makeAnew R F k n 58 [xr (some a0), xr (some a1), xr (some a2), xu] [] σ := by
  refine Aw.goto (tgt := 103) (by decide) d_Dw_makeAnew_58 ?_
  refine Aw.iconst d_Dw_makeAnew_103 ?_
  refine Aw.istore_n (by decide) d_Dw_makeAnew_104 ?_
  refine Aw.toL (L' := [xr (some a0), xr (some a1), xr (some a2), xi 0]) rfl ?_
  exact h
theorem b_Dw_makeAnew_105 {Ω : Om} {R : Room} {F : QF} {k n : Nat} {σ : Sto} {a0 : Nat} {a1 : Nat} {a2 : Nat} {v3 : Int} (h : sK σ a1 = 12 ∧ (∃ b2 : Nat, fR σ 706 a1 = some b2 ∧ Aw Ω M_Dw_makeAnew R F k n 110 [xr (some a0), xr (some a1), xr (some a2), xi v3] [xr (some b2), xi v3] σ)) : Aw Ω M_Dw_makeAnew R F k n 105 [xr (some a0), xr (some a1), xr (some a2), xi v3] [] σ := by
  refine Aw.iload_n rfl d_Dw_makeAnew_105 ?_
  refine Aw.aload_n rfl d_Dw_makeAnew_106 ?_
  obtain ⟨o1, h⟩ := h
  obtain ⟨b2, e3, h⟩ := h
  refine Aw.getRs (f := 706) 11 2 fl_Dw_406 (by decide) (by decide) rfl rfl o1 e3 d_Dw_makeAnew_107 ?_
  exact h
theorem b_Dw_makeAnew_113 {Ω : Om} {R : Room} {F : QF} {k n : Nat} {σ : Sto} {a0 : Nat} {a1 : Nat} {a2 : Nat} {v3 : Int} {s0 : Int} {s1 : Int} (h : Q32 s0 ∧ Q32 s1 ∧ ((s1 ≤ s0 → sK σ a1 = 12 ∧ (∃ b4 : Nat, fR σ 705 a1 = some b4 ∧ sK σ a0 = 1 ∧ (∃ b7 : Nat, fR σ 9 a0 = some b7 ∧ sK σ b7 = 4 ∧ (∃ b10 : Nat, fR σ 192 b7 = some b10 ∧ Aw Ω M_Dw_makeAnew R F k n 152 [xr (some a0), xr (some a1), xr (some a2), xi v3] [xr (some b10), xr (some b4)] σ)))) ∧ (¬ s1 ≤ s0 → sK σ a0 = 1 ∧ (∃ b13 : Nat, fR σ 9 a0 = some b13 ∧ sK σ a1 = 12 ∧ (∃ b16 : Nat, fR σ 706 a1 = some b16 ∧ Aw Ω M_Dw_makeAnew R F k n 125 [xr (some a0), xr (some a1), xr (some a2), xi v3] [xi v3, xr (some b16), xr (some b13)] σ))))) : Aw Ω M_Dw_makeAnew R F k n 113 [xr (some a0), xr (some a1), xr (some a2), xi v3] [xi s1, xi s0] σ := by
  obtain ⟨o1, h⟩ := h
  obtain ⟨o2, h⟩ := h
  obtain ⟨ht, hf⟩ := h
  refine Aw.icmp_ge (tgt := 141) o1 o2 (by decide) d_Dw_makeAnew_113 (fun c18 => ?_) (fun c18 => ?_)
  · have h := ht c18
    refine Aw.aload_n rfl d_Dw_makeAnew_141 ?_
    obtain ⟨o3, h⟩ := h
    obtain ⟨b4, e5, h⟩ := h
    refine Aw.getRs (f := 705) 11 1 fl_Dw_207 (by decide) (by decide) rfl rfl o3 e5 d_Dw_makeAnew_142 ?_
    refine Aw.aload_n rfl d_Dw_makeAnew_145 ?_
    obtain ⟨o6, h⟩ := h
    obtain ⟨b7, e8, h⟩ := h
    refine Aw.getRs (f := 9) 0 9 fl_Dw_62 (by decide) (by decide) rfl rfl o6 e8 d_Dw_makeAnew_146 ?_
    obtain ⟨o9, h⟩ := h
    obtain ⟨b10, e11, h⟩ := h
    refine Aw.getRs (f := 192) 3 0 fl_Dw_111 (by decide) (by decide) rfl rfl o9 e11 d_Dw_makeAnew_149 ?_
    exact h
  · have h := hf c18
    refine Aw.aload_n rfl d_Dw_makeAnew_116 ?_
    obtain ⟨o12, h⟩ := h
    obtain ⟨b13, e14, h⟩ := h
    refine Aw.getRs (f := 9) 0 9 fl_Dw_62 (by decide) (by decide) rfl rfl o12 e14 d_Dw_makeAnew_117 ?_
    refine Aw.aload_n rfl d_Dw_makeAnew_120 ?_
    obtain ⟨o15, h⟩ := h
    obtain ⟨b16, e17, h⟩ := h
    refine Aw.getRs (f := 706) 11 2 fl_Dw_406 (by decide) (by decide) rfl rfl o15 e17 d_Dw_makeAnew_121 ?_
    refine Aw.iload_n rfl d_Dw_makeAnew_124 ?_
    exact h
theorem b_Dw_makeAnew_128 {Ω : Om} {R : Room} {F : QF} {k n : Nat} {σ : Sto} {a0 : Nat} {a1 : Nat} {a2 : Nat} {v3 : Int} {s0 : Nat} {s1 : Nat} (h : sK σ s1 = 5 ∧ Aw Ω M_Dw_makeAnew R F k n 131 [xr (some a0), xr (some a1), xr (some a2), xi v3] [xr (some s1), xr (some s0)] σ) : Aw Ω M_Dw_makeAnew R F k n 128 [xr (some a0), xr (some a1), xr (some a2), xi v3] [xr (some s1), xr (some s0)] σ := by
  obtain ⟨o1, h⟩ := h
  refine Aw.cast 4 (by decide) cl_Dw_139 o1 d_Dw_makeAnew_128 ?_
  exact h
theorem b_Dw_makeAnew_134 {Ω : Om} {R : Room} {F : QF} {k n : Nat} {σ : Sto} {a0 : Nat} {a1 : Nat} {a2 : Nat} {v3 : Int} {s0 : Int} (h : Aw Ω M_Dw_makeAnew R F k n 105 [xr (some a0), xr (some a1), xr (some a2), xi (v3 + 1)] [] σ) : Aw Ω M_Dw_makeAnew R F k n 134 [xr (some a0), xr (some a1), xr (some a2), xi v3] [xi s0] σ := by
  refine Aw.pop rfl d_Dw_makeAnew_134 ?_
  refine Aw.iinc rfl d_Dw_makeAnew_135 ?_
  refine Aw.toL (L' := [xr (some a0), xr (some a1), xr (some a2), xi (v3 + 1)]) rfl ?_
  refine Aw.goto (tgt := 105) (by decide) d_Dw_makeAnew_138 ?_
  exact h
theorem b_Dw_makeAnew_73 {Ω : Om} {R : Room} {F : QF} {k n : Nat} {σ : Sto} {a0 : Nat} {a1 : Nat} {a2 : Nat} {s0 : Int} (h : sK σ a0 = 1 ∧ (∃ b2 : Nat, fR σ 9 a0 = some b2 ∧ (∃ b4 : Nat, fR σ 0 a0 = some b4 ∧ sK σ a1 = 12 ∧ (Q32 (fI σ 709 a1) → sK σ b4 = 55 ∧ 0 ≤ (fI σ 709 a1) ∧ (fI σ 709 a1) < sZ σ b4 ∧ ∃ b11 : Nat, aR σ b4 (fI σ 709 a1).toNat = some b11 ∧ sK σ b11 = 12 ∧ (∃ b14 : Nat, fR σ 705 b11 = some b14 ∧ 0 ≤ s0 ∧ s0 < sZ σ b4 ∧ ∃ b18 : Nat, aR σ b4 (s0).toNat = some b18 ∧ sK σ b18 = 12 ∧ (∃ b21 : Nat, fR σ 705 b18 = some b21 ∧ Aw Ω M_Dw_makeAnew R F k n 100 [xr (some a0), xr (some a1), xr (some a2), xi s0] [xr (some b21), xr (some b14), xr (some a2), xr (some b2)] σ)))))) : Aw Ω M_Dw_makeAnew R F k n 73 [xr (some a0), xr (some a1), xr (some a2), xu] [xi s0] σ := by
  refine Aw.istore_n (by decide) d_Dw_makeAnew_73 ?_
  refine Aw.toL (L' := [xr (some a0), xr (some a1), xr (some a2), xi s0]) rfl ?_
  refine Aw.aload_n rfl d_Dw_makeAnew_74 ?_
  obtain ⟨o1, h⟩ := h
  obtain ⟨b2, e3, h⟩ := h
  refine Aw.getRs (f := 9) 0 9 fl_Dw_62 (by decide) (by decide) rfl rfl o1 e3 d_Dw_makeAnew_75 ?_
  refine Aw.aload_n rfl d_Dw_makeAnew_78 ?_
  refine Aw.aload_n rfl d_Dw_makeAnew_79 ?_
  obtain ⟨b4, e5, h⟩ := h
  refine Aw.getRs (f := 0) 0 0 fl_Dw_11 (by decide) (by decide) rfl rfl o1 e5 d_Dw_makeAnew_80 ?_
  refine Aw.aload_n rfl d_Dw_makeAnew_83 ?_
  obtain ⟨o6, h⟩ := h
  refine Aw.getI (f := 709) 11 5 fl_Dw_405 (by decide) (by decide) rfl rfl o6 d_Dw_makeAnew_84 (fun r7 => ?_)
  have h := h r7
  obtain ⟨o8, h⟩ := h
  obtain ⟨o9, o10, h⟩ := h
  refine Aw.aald 5 (by decide) (by decide) o8 o9 o10 d_Dw_makeAnew_87 ?_
  obtain ⟨b11, e12, h⟩ := h
  refine Aw.der0 e12 ?_
  obtain ⟨o13, h⟩ := h
  obtain ⟨b14, e15, h⟩ := h
  refine Aw.getRs (f := 705) 11 1 fl_Dw_207 (by decide) (by decide) rfl rfl o13 e15 d_Dw_makeAnew_88 ?_
  refine Aw.aload_n rfl d_Dw_makeAnew_91 ?_
  refine Aw.getRs (f := 0) 0 0 fl_Dw_11 (by decide) (by decide) rfl rfl o1 e5 d_Dw_makeAnew_92 ?_
  refine Aw.iload_n rfl d_Dw_makeAnew_95 ?_
  obtain ⟨o16, o17, h⟩ := h
  refine Aw.aald 5 (by decide) (by decide) o8 o16 o17 d_Dw_makeAnew_96 ?_
  obtain ⟨b18, e19, h⟩ := h
  refine Aw.der0 e19 ?_
  obtain ⟨o20, h⟩ := h
  obtain ⟨b21, e22, h⟩ := h
  refine Aw.getRs (f := 705) 11 1 fl_Dw_207 (by decide) (by decide) rfl rfl o20 e22 d_Dw_makeAnew_97 ?_
  exact h
theorem b_Dw_makeAnew_103 {Ω : Om} {R : Room} {F : QF} {k n : Nat} {σ : Sto} {a0 : Nat} {a1 : Nat} {a2 : Nat} (h : Aw Ω M_Dw_makeAnew R F k n 105 [xr (some a0), xr (some a1), xr (some a2), xi 0] [] σ) : Aw Ω M_Dw_makeAnew R F k n 103 [xr (some a0), xr (some a1), xr (some a2), xu] [] σ := by
  refine Aw.iconst d_Dw_makeAnew_103 ?_
  refine Aw.istore_n (by decide) d_Dw_makeAnew_104 ?_
  refine Aw.toL (L' := [xr (some a0), xr (some a1), xr (some a2), xi 0]) rfl ?_
  exact h
theorem r_Dw_makeAnew_18 {Ω : Om} {R : Room} {k n : Nat} {L : List PV} {σ : Sto} {QR : Option PV → Sto → Prop} {QX : String → Sto → Prop} (h : QR none σ) (h1 : k ≤ R.cells) (h2 : n ≤ R.slots) : Aw Ω M_Dw_makeAnew R (MF Ω R QR QX) k n 18 L [] σ := Aw.vret rfl h h1 h2 d_Dw_makeAnew_18
theorem c_Dw_makeAnew_55 {Ω : Om} {R R' : Room} {F : QF} {k n : Nat} {L st : List PV} {σ : Sto} {QX' : String → Sto → Prop} {Q : Sto → Prop} {a : Nat} {x0 : Option Nat} (hc : MC Ω M_Drf_startFrom R' (RV Q) QX' σ [xr (some a), xr x0]) (hk : sK σ a = 4) (hr1 : R'.frames + 1 ≤ R.frames) (hr2 : 8 + (2 + 11) + R'.locals ≤ R.locals) (hb1 : k + R'.cells ≤ R.cells) (hb2 : n + R'.slots ≤ R.slots) (hst : (st.map catP).sum ≤ 8) (kk : ∀ σ', Q σ' → Aw Ω M_Dw_makeAnew R F (k + R'.cells) (n + R'.slots) 58 L st σ') (kx : ∀ E σ', QX' E σ' → Ax Ω M_Dw_makeAnew R F (k + R'.cells) (n + R'.slots) 55 L st σ' E) : Aw Ω M_Dw_makeAnew R F k n 55 L (xr x0 :: xr (some a) :: st) σ :=
  Aw.callV (As := [xr x0]) (stk := xr x0 :: xr (some a) :: st) (nn := 1) 3 M_Drf_startFrom hc ok_Drf_startFrom rfl (by decide) rfl hk ml_Dw_103 im_Drf_startFrom se_Drf_startFrom ⟨hr1, hr2⟩ rfl ⟨hb1, hb2⟩ hst rfl d_Dw_makeAnew_55 (fun r σ' h => by obtain ⟨rfl, h⟩ := h; exact kk σ' h) kx
theorem c_Dw_makeAnew_70 {Ω : Om} {R R' : Room} {F : QF} {k n : Nat} {L st : List PV} {σ : Sto} {QX' : String → Sto → Prop} {Q : Int → Sto → Prop} {a : Nat} {x0 : Int} {x1 : Int} (hc : MC Ω M_Dw_baseOf R' (RI Q) QX' σ [xr (some a), xi x0, xi x1]) (hk : sK σ a = 1) (hr1 : R'.frames + 1 ≤ R.frames) (hr2 : 8 + (6 + 11) + R'.locals ≤ R.locals) (hb1 : k + R'.cells ≤ R.cells) (hb2 : n + R'.slots ≤ R.slots) (hst : (st.map catP).sum ≤ 8) (kk : ∀ x σ', Q x σ' → Aw Ω M_Dw_makeAnew R F (k + R'.cells) (n + R'.slots) 73 L (xi x :: st) σ') (kx : ∀ E σ', QX' E σ' → Ax Ω M_Dw_makeAnew R F (k + R'.cells) (n + R'.slots) 70 L st σ' E) : Aw Ω M_Dw_makeAnew R F k n 70 L (xi x1 :: xi x0 :: xr (some a) :: st) σ :=
  Aw.callV (As := [xi x0, xi x1]) (stk := xi x1 :: xi x0 :: xr (some a) :: st) (nn := 2) 0 M_Dw_baseOf hc ok_Dw_baseOf rfl (by decide) rfl hk ml_Dw_237 im_Dw_baseOf se_Dw_baseOf ⟨hr1, hr2⟩ rfl ⟨hb1, hb2⟩ hst rfl d_Dw_makeAnew_70 (fun r σ' h => by obtain ⟨x, rfl, h⟩ := h; exact kk x σ' h) kx
theorem c_Dw_makeAnew_100 {Ω : Om} {R R' : Room} {F : QF} {k n : Nat} {L st : List PV} {σ : Sto} {QX' : String → Sto → Prop} {Q : Sto → Prop} {a : Nat} {x0 : Option Nat} {x1 : Option Nat} {x2 : Option Nat} (hc : MC Ω M_Drf_weave R' (RV Q) QX' σ [xr (some a), xr x0, xr x1, xr x2]) (hk : sK σ a = 4) (hr1 : R'.frames + 1 ≤ R.frames) (hr2 : 8 + (10 + 11) + R'.locals ≤ R.locals) (hb1 : k + R'.cells ≤ R.cells) (hb2 : n + R'.slots ≤ R.slots) (hst : (st.map catP).sum ≤ 8) (kk : ∀ σ', Q σ' → Aw Ω M_Dw_makeAnew R F (k + R'.cells) (n + R'.slots) 103 L st σ') (kx : ∀ E σ', QX' E σ' → Ax Ω M_Dw_makeAnew R F (k + R'.cells) (n + R'.slots) 100 L st σ' E) : Aw Ω M_Dw_makeAnew R F k n 100 L (xr x2 :: xr x1 :: xr x0 :: xr (some a) :: st) σ :=
  Aw.callV (As := [xr x0, xr x1, xr x2]) (stk := xr x2 :: xr x1 :: xr x0 :: xr (some a) :: st) (nn := 3) 3 M_Drf_weave hc ok_Drf_weave rfl (by decide) rfl hk ml_Dw_246 im_Drf_weave se_Drf_weave ⟨hr1, hr2⟩ rfl ⟨hb1, hb2⟩ hst rfl d_Dw_makeAnew_100 (fun r σ' h => by obtain ⟨rfl, h⟩ := h; exact kk σ' h) kx
theorem c_Dw_makeAnew_110 {Ω : Om} {R R' : Room} {F : QF} {k n : Nat} {L st : List PV} {σ : Sto} {QX' : String → Sto → Prop} {Q : Int → Sto → Prop} {a : Nat} (hc : MC Ω M_Lst_size R' (RI Q) QX' σ [xr (some a)]) (hk : sK σ a = 14) (hr1 : R'.frames + 1 ≤ R.frames) (hr2 : 8 + (1 + 11) + R'.locals ≤ R.locals) (hb1 : k + R'.cells ≤ R.cells) (hb2 : n + R'.slots ≤ R.slots) (hst : (st.map catP).sum ≤ 8) (kk : ∀ x σ', Q x σ' → Aw Ω M_Dw_makeAnew R F (k + R'.cells) (n + R'.slots) 113 L (xi x :: st) σ') (kx : ∀ E σ', QX' E σ' → Ax Ω M_Dw_makeAnew R F (k + R'.cells) (n + R'.slots) 110 L st σ' E) : Aw Ω M_Dw_makeAnew R F k n 110 L (xr (some a) :: st) σ :=
  Aw.callV (As := []) (stk := xr (some a) :: st) (nn := 0) 13 M_Lst_size hc ok_Lst_size rfl (by decide) rfl hk ml_Dw_410 im_Lst_size se_Lst_size ⟨hr1, hr2⟩ rfl ⟨hb1, hb2⟩ hst rfl d_Dw_makeAnew_110 (fun r σ' h => by obtain ⟨x, rfl, h⟩ := h; exact kk x σ' h) kx
theorem c_Dw_makeAnew_125 {Ω : Om} {R R' : Room} {F : QF} {k n : Nat} {L st : List PV} {σ : Sto} {QX' : String → Sto → Prop} {Q : Option Nat → Sto → Prop} {a : Nat} {x0 : Int} (hc : MC Ω M_Lst_get R' (RR Q) QX' σ [xr (some a), xi x0]) (hk : sK σ a = 14) (hr1 : R'.frames + 1 ≤ R.frames) (hr2 : 8 + (2 + 11) + R'.locals ≤ R.locals) (hb1 : k + R'.cells ≤ R.cells) (hb2 : n + R'.slots ≤ R.slots) (hst : (st.map catP).sum ≤ 8) (kk : ∀ x σ', Q x σ' → Aw Ω M_Dw_makeAnew R F (k + R'.cells) (n + R'.slots) 128 L (xr x :: st) σ') (kx : ∀ E σ', QX' E σ' → Ax Ω M_Dw_makeAnew R F (k + R'.cells) (n + R'.slots) 125 L st σ' E) : Aw Ω M_Dw_makeAnew R F k n 125 L (xi x0 :: xr (some a) :: st) σ :=
  Aw.callV (As := [xi x0]) (stk := xi x0 :: xr (some a) :: st) (nn := 1) 13 M_Lst_get hc ok_Lst_get rfl (by decide) rfl hk ml_Dw_413 im_Lst_get se_Lst_get ⟨hr1, hr2⟩ rfl ⟨hb1, hb2⟩ hst rfl d_Dw_makeAnew_125 (fun r σ' h => by obtain ⟨x, rfl, h⟩ := h; exact kk x σ' h) kx
theorem c_Dw_makeAnew_131 {Ω : Om} {R R' : Room} {F : QF} {k n : Nat} {L st : List PV} {σ : Sto} {QX' : String → Sto → Prop} {Q : Int → Sto → Prop} {a : Nat} {x0 : Option Nat} (hc : MC Ω M_Drf_perform R' (RI Q) QX' σ [xr (some a), xr x0]) (hk : sK σ a = 4) (hr1 : R'.frames + 1 ≤ R.frames) (hr2 : 8 + (2 + 11) + R'.locals ≤ R.locals) (hb1 : k + R'.cells ≤ R.cells) (hb2 : n + R'.slots ≤ R.slots) (hst : (st.map catP).sum ≤ 8) (kk : ∀ x σ', Q x σ' → Aw Ω M_Dw_makeAnew R F (k + R'.cells) (n + R'.slots) 134 L (xi x :: st) σ') (kx : ∀ E σ', QX' E σ' → Ax Ω M_Dw_makeAnew R F (k + R'.cells) (n + R'.slots) 131 L st σ' E) : Aw Ω M_Dw_makeAnew R F k n 131 L (xr x0 :: xr (some a) :: st) σ :=
  Aw.callV (As := [xr x0]) (stk := xr x0 :: xr (some a) :: st) (nn := 1) 3 M_Drf_perform hc ok_Drf_perform rfl (by decide) rfl hk ml_Dw_417 im_Drf_perform se_Drf_perform ⟨hr1, hr2⟩ rfl ⟨hb1, hb2⟩ hst rfl d_Dw_makeAnew_131 (fun r σ' h => by obtain ⟨x, rfl, h⟩ := h; exact kk x σ' h) kx
theorem c_Dw_makeAnew_152 {Ω : Om} {R R' : Room} {F : QF} {k n : Nat} {L st : List PV} {σ : Sto} {QX' : String → Sto → Prop} {Q : Sto → Prop} {a : Nat} {x0 : Option Nat} (hc : MC Ω M_Txt_copy R' (RV Q) QX' σ [xr (some a), xr x0]) (hk : sK σ a = 10) (hr1 : R'.frames + 1 ≤ R.frames) (hr2 : 8 + (3 + 11) + R'.locals ≤ R.locals) (hb1 : k + R'.cells ≤ R.cells) (hb2 : n + R'.slots ≤ R.slots) (hst : (st.map catP).sum ≤ 8) (kk : ∀ σ', Q σ' → Aw Ω M_Dw_makeAnew R F (k + R'.cells) (n + R'.slots) 155 L st σ') (kx : ∀ E σ', QX' E σ' → Ax Ω M_Dw_makeAnew R F (k + R'.cells) (n + R'.slots) 152 L st σ' E) : Aw Ω M_Dw_makeAnew R F k n 152 L (xr x0 :: xr (some a) :: st) σ :=
  Aw.callV (As := [xr x0]) (stk := xr x0 :: xr (some a) :: st) (nn := 1) 9 M_Txt_copy hc ok_Txt_copy rfl (by decide) rfl hk ml_Dw_420 im_Txt_copy se_Txt_copy ⟨hr1, hr2⟩ rfl ⟨hb1, hb2⟩ hst rfl d_Dw_makeAnew_152 (fun r σ' h => by obtain ⟨rfl, h⟩ := h; exact kk σ' h) kx
theorem r_Dw_makeAnew_155 {Ω : Om} {R : Room} {k n : Nat} {L : List PV} {σ : Sto} {QR : Option PV → Sto → Prop} {QX : String → Sto → Prop} (h : QR none σ) (h1 : k ≤ R.cells) (h2 : n ≤ R.slots) : Aw Ω M_Dw_makeAnew R (MF Ω R QR QX) k n 155 L [] σ := Aw.vret rfl h h1 h2 d_Dw_makeAnew_155
theorem e_Dw_merge {Ω : Om} {R : Room} {QR : Option PV → Sto → Prop} {QX : String → Sto → Prop} {σ : Sto} {a0 : Nat} {v1 : Int} {v2 : Int} {v3 : Int} (h : Aw Ω M_Dw_merge R (MF Ω R QR QX) 0 0 0 [xr (some a0), xi v1, xi v2, xi v3, xu, xu, xu] [] σ) : MC Ω M_Dw_merge R QR QX σ [xr (some a0), xi v1, xi v2, xi v3] := MC.body (by decide +kernel) rfl (Nat.le_of_ble_eq_true rfl) rfl h
theorem b_Dw_merge_0 {Ω : Om} {R : Room} {F : QF} {k n : Nat} {σ : Sto} {a0 : Nat} {v1 : Int} {v2 : Int} {v3 : Int} (h : Aw Ω M_Dw_merge R F k n 2 [xr (some a0), xi v1, xi v2, xi v3, xu, xu, xu] [xi v1, xr (some a0)] σ) : Aw Ω M_Dw_merge R F k n 0 [xr (some a0), xi v1, xi v2, xi v3, xu, xu, xu] [] σ := by
  refine Aw.aload_n rfl d_Dw_merge_0 ?_
  refine Aw.iload_n rfl d_Dw_merge_1 ?_
  exact h
theorem b_Dw_merge_5 {Ω : Om} {R : Room} {F : QF} {k n : Nat} {σ : Sto} {a0 : Nat} {v1 : Int} {v2 : Int} {v3 : Int} {s0 : Nat} (h : sK σ s0 = 12 ∧ (∃ b2 : Nat, fR σ 704 s0 = some b2 ∧ Aw Ω M_Dw_merge R F k n 12 [xr (some a0), xi v1, xi v2, xi v3, xr (some b2), xu, xu] [xi v2, xr (some a0)] σ)) : Aw Ω M_Dw_merge R F k n 5 [xr (some a0), xi v1, xi v2, xi v3, xu, xu, xu] [xr (some s0)] σ := by
  obtain ⟨o1, h⟩ := h
  obtain ⟨b2, e3, h⟩ := h
  refine Aw.getRs (f := 704) 11 0 fl_Dw_99 (by decide) (by decide) rfl rfl o1 e3 d_Dw_merge_5 ?_
  refine Aw.astore (by decide) d_Dw_merge_8 ?_
  refine Aw.toL (L' := [xr (some a0), xi v1, xi v2, xi v3, xr (some b2), xu, xu]) rfl ?_
  refine Aw.aload_n rfl d_Dw_merge_10 ?_
  refine Aw.iload_n rfl d_Dw_merge_11 ?_
  exact h
theorem b_Dw_merge_15 {Ω : Om} {R : Room} {F : QF} {k n : Nat} {σ : Sto} {a0 : Nat} {v1 : Int} {v2 : Int} {v3 : Int} {a4 : Nat} {s0 : Nat} (h : sK σ s0 = 12 ∧ (∃ b2 : Nat, fR σ 704 s0 = some b2 ∧ Aw Ω M_Dw_merge R F k n 22 [xr (some a0), xi v1, xi v2, xi v3, xr (some a4), xr (some b2), xu] [xi v3, xr (some a0)] σ)) : Aw Ω M_Dw_merge R F k n 15 [xr (some a0), xi v1, xi v2, xi v3, xr (some a4), xu, xu] [xr (some s0)] σ := by
  obtain ⟨o1, h⟩ := h
  obtain ⟨b2, e3, h⟩ := h
  refine Aw.getRs (f := 704) 11 0 fl_Dw_99 (by decide) (by decide) rfl rfl o1 e3 d_Dw_merge_15 ?_
  refine Aw.astore (by decide) d_Dw_merge_18 ?_
  refine Aw.toL (L' := [xr (some a0), xi v1, xi v2, xi v3, xr (some a4), xr (some b2), xu]) rfl ?_
  refine Aw.aload_n rfl d_Dw_merge_20 ?_
  refine Aw.iload_n rfl d_Dw_merge_21 ?_
  exact h
theorem b_Dw_merge_25 {Ω : Om} {R : Room} {F : QF} {k n : Nat} {σ : Sto} {a0 : Nat} {v1 : Int} {v2 : Int} {v3 : Int} {a4 : Nat} {a5 : Nat} (h : Q32 v1 ∧ Q32 v2 ∧ ((¬ v1 = v2 → sK σ a0 = 1 ∧ (∃ b4 : Nat, fR σ 9 a0 = some b4 ∧ (∃ b6 : Nat, fR σ 0 a0 = some b6 ∧ Aw Ω M_Dw_merge R F k n 55 [xr (some a0), xi v1, xi v2, xi v3, xr (some a4), xr (some a5), xu] [xi v2, xi v1, xr (some a0), xr (some b6), xr (some a5), xr (some a4), xr (some b4)] σ))) ∧ (v1 = v2 → Aw Ω M_Dw_merge R F k n 30 [xr (some a0), xi v1, xi v2, xi v3, xr (some a4), xr (some a5), xu] [] σ))) : Aw Ω M_Dw_merge R F k n 25 [xr (some a0), xi v1, xi v2, xi v3, xr (some a4), xr (some a5), xu] [] σ := by
  refine Aw.iload_n rfl d_Dw_merge_25 ?_
  refine Aw.iload_n rfl d_Dw_merge_26 ?_
  obtain ⟨o1, h⟩ := h
  obtain ⟨o2, h⟩ := h
  obtain ⟨ht, hf⟩ := h
  refine Aw.icmp_ne (tgt := 40) o1 o2 (by decide) d_Dw_merge_27 (fun c8 => ?_) (fun c8 => ?_)
  · have h := ht c8
    refine Aw.aload_n rfl d_Dw_merge_40 ?_
    obtain ⟨o3, h⟩ := h
    obtain ⟨b4, e5, h⟩ := h
    refine Aw.getRs (f := 9) 0 9 fl_Dw_62 (by decide) (by decide) rfl rfl o3 e5 d_Dw_merge_41 ?_
    refine Aw.aload rfl d_Dw_merge_44 ?_
    refine Aw.aload rfl d_Dw_merge_46 ?_
    refine Aw.aload_n rfl d_Dw_merge_48 ?_
    obtain ⟨b6, e7, h⟩ := h
    refine Aw.getRs (f := 0) 0 0 fl_Dw_11 (by decide) (by decide) rfl rfl o3 e7 d_Dw_merge_49 ?_
    refine Aw.aload_n rfl d_Dw_merge_52 ?_
    refine Aw.iload_n rfl d_Dw_merge_53 ?_
    refine Aw.iload_n rfl d_Dw_merge_54 ?_
    exact h
  · have h := hf c8
    exact h
theorem b_Dw_merge_58 {Ω : Om} {R : Room} {F : QF} {k n : Nat} {σ : Sto} {a0 : Nat} {v1 : Int} {v2 : Int} {v3 : Int} {a4 : Nat} {a5 : Nat} {s0 : Nat} {s1 : Nat} {s2 : Nat} {s3 : Nat} {s4 : Int} (h : sK σ s3 = 55 ∧ 0 ≤ s4 ∧ s4 < sZ σ s3 ∧ ∃ b4 : Nat, aR σ s3 (s4).toNat = some b4 ∧ sK σ b4 = 12 ∧ (∃ b7 : Nat, fR σ 704 b4 = some b7 ∧ Aw Ω M_Dw_merge R F k n 62 [xr (some a0), xi v1, xi v2, xi v3, xr (some a4), xr (some a5), xu] [xr (some b7), xr (some s2), xr (some s1), xr (some s0)] σ)) : Aw Ω M_Dw_merge R F k n 58 [xr (some a0), xi v1, xi v2, xi v3, xr (some a4), xr (some a5), xu] [xi s4, xr (some s3), xr (some s2), xr (some s1), xr (some s0)] σ := by
  obtain ⟨o1, h⟩ := h
  obtain ⟨o2, o3, h⟩ := h
  refine Aw.aald 5 (by decide) (by decide) o1 o2 o3 d_Dw_merge_58 ?_
  obtain ⟨b4, e5, h⟩ := h
  refine Aw.der0 e5 ?_
  obtain ⟨o6, h⟩ := h
  obtain ⟨b7, e8, h⟩ := h
  refine Aw.getRs (f := 704) 11 0 fl_Dw_99 (by decide) (by decide) rfl rfl o6 e8 d_Dw_merge_59 ?_
  exact h
theorem b_Dw_merge_65 {Ω : Om} {R : Room} {F : QF} {k n : Nat} {σ : Sto} {a0 : Nat} {v1 : Int} {v2 : Int} {v3 : Int} {a4 : Nat} {a5 : Nat} (h : sK σ a0 = 1 ∧ (∃ b2 : Nat, fR σ 9 a0 = some b2 ∧ sK σ b2 = 4 ∧ (∃ b5 : Nat, fR σ 192 b2 = some b5 ∧ Aw Ω M_Dw_merge R F k n 72 [xr (some a0), xi v1, xi v2, xi v3, xr (some a4), xr (some a5), xu] [xr (some b5)] σ))) : Aw Ω M_Dw_merge R F k n 65 [xr (some a0), xi v1, xi v2, xi v3, xr (some a4), xr (some a5), xu] [] σ := by
  refine Aw.aload_n rfl d_Dw_merge_65 ?_
  obtain ⟨o1, h⟩ := h
  obtain ⟨b2, e3, h⟩ := h
  refine Aw.getRs (f := 9) 0 9 fl_Dw_62 (by decide) (by decide) rfl rfl o1 e3 d_Dw_merge_66 ?_
  obtain ⟨o4, h⟩ := h
  obtain ⟨b5, e6, h⟩ := h
  refine Aw.getRs (f := 192) 3 0 fl_Dw_111 (by decide) (by decide) rfl rfl o4 e6 d_Dw_merge_69 ?_
  exact h
theorem b_Dw_merge_75 {Ω : Om} {R : Room} {F : QF} {k n : Nat} {σ : Sto} {a0 : Nat} {v1 : Int} {v2 : Int} {v3 : Int} {a4 : Nat} {a5 : Nat} {s0 : Int} (h : Q32 s0 ∧ ((s0 ≤ (20 : Int) → sK σ a0 = 1 ∧ (∃ b3 : Nat, fR σ 9 a0 = some b3 ∧ Aw Ω M_Dw_merge R F k n 97 [xr (some a0), xi v1, xi v2, xi v3, xr (some a4), xr (some a5), xu] [xi v2, xi v1, xi v3, xr (some b3)] σ)) ∧ (¬ s0 ≤ (20 : Int) → Aw Ω M_Dw_merge R F k n 80 [xr (some a0), xi v1, xi v2, xi v3, xr (some a4), xr (some a5), xu] [] σ))) : Aw Ω M_Dw_merge R F k n 75 [xr (some a0), xi v1, xi v2, xi v3, xr (some a4), xr (some a5), xu] [xi s0] σ := by
  refine Aw.bipush (by decide) d_Dw_merge_75 ?_
  obtain ⟨o1, h⟩ := h
  obtain ⟨ht, hf⟩ := h
  refine Aw.icmp_le (tgt := 90) o1 ⟨by decide, by decide⟩ (by decide) d_Dw_merge_77 (fun c5 => ?_) (fun c5 => ?_)
  · have h := ht c5
    refine Aw.aload_n rfl d_Dw_merge_90 ?_
    obtain ⟨o2, h⟩ := h
    obtain ⟨b3, e4, h⟩ := h
    refine Aw.getRs (f := 9) 0 9 fl_Dw_62 (by decide) (by decide) rfl rfl o2 e4 d_Dw_merge_91 ?_
    refine Aw.iload_n rfl d_Dw_merge_94 ?_
    refine Aw.iload_n rfl d_Dw_merge_95 ?_
    refine Aw.iload_n rfl d_Dw_merge_96 ?_
    exact h
  · have h := hf c5
    exact h
theorem b_Dw_merge_100 {Ω : Om} {R : Room} {F : QF} {k n : Nat} {σ : Sto} {a0 : Nat} {v1 : Int} {v2 : Int} {v3 : Int} {a4 : Nat} {a5 : Nat} (h : sK σ a0 = 1 ∧ (∃ b2 : Nat, fR σ 8 a0 = some b2 ∧ (∃ b4 : Nat, fR σ 9 a0 = some b4 ∧ (∃ b6 : Nat, fR (uR (uR σ 8 a0 (some b4)) 9 a0 (some b2)) 8 a0 = some b6 ∧ Aw Ω M_Dw_merge R F k n 129 [xr (some a0), xi v1, xi v2, xi v3, xr (some a4), xr (some a5), xr (some b2)] [xr (some b6)] (uI (uR (uR σ 8 a0 (some b4)) 9 a0 (some b2)) 10 a0 1))))) : Aw Ω M_Dw_merge R F k n 100 [xr (some a0), xi v1, xi v2, xi v3, xr (some a4), xr (some a5), xu] [] σ := by
  refine Aw.aload_n rfl d_Dw_merge_100 ?_
  obtain ⟨o1, h⟩ := h
  obtain ⟨b2, e3, h⟩ := h
  refine Aw.getRs (f := 8) 0 8 fl_Dw_58 (by decide) (by decide) rfl rfl o1 e3 d_Dw_merge_101 ?_
  refine Aw.astore (by decide) d_Dw_merge_104 ?_
  refine Aw.toL (L' := [xr (some a0), xi v1, xi v2, xi v3, xr (some a4), xr (some a5), xr (some b2)]) rfl ?_
  refine Aw.aload_n rfl d_Dw_merge_106 ?_
  refine Aw.aload_n rfl d_Dw_merge_107 ?_
  obtain ⟨b4, e5, h⟩ := h
  refine Aw.getRs (f := 9) 0 9 fl_Dw_62 (by decide) (by decide) rfl rfl o1 e5 d_Dw_merge_108 ?_
  refine Aw.putR (f := 8) 0 8 fl_Dw_58 (by decide) (by decide) rfl rfl o1 rfl rfl d_Dw_merge_111 ?_
  refine Aw.aload_n rfl d_Dw_merge_114 ?_
  refine Aw.aload rfl d_Dw_merge_115 ?_
  refine Aw.putR (f := 9) 0 9 fl_Dw_62 (by decide) (by decide) rfl rfl o1 rfl rfl d_Dw_merge_117 ?_
  refine Aw.aload_n rfl d_Dw_merge_120 ?_
  refine Aw.iconst d_Dw_merge_121 ?_
  refine Aw.putI (f := 10) 0 10 fl_Dw_65 (by decide) (by decide) rfl rfl o1 rfl ⟨by decide, by decide⟩ (Or.inr ⟨rfl, by decide⟩) d_Dw_merge_122 ?_
  refine Aw.aload_n rfl d_Dw_merge_125 ?_
  obtain ⟨b6, e7, h⟩ := h
  refine Aw.getRs (f := 8) 0 8 fl_Dw_58 (by decide) (by decide) rfl rfl o1 e7 d_Dw_merge_126 ?_
  exact h
theorem c_Dw_merge_2 {Ω : Om} {R R' : Room} {F : QF} {k n : Nat} {L st : List PV} {σ : Sto} {QX' : String → Sto → Prop} {Q : Option Nat → Sto → Prop} {a : Nat} {x0 : Int} (hc : MC Ω M_Dw_versionAt R' (RR Q) QX' σ [xr (some a), xi x0]) (hk : sK σ a = 1) (hr1 : R'.frames + 1 ≤ R.frames) (hr2 : 8 + (2 + 11) + R'.locals ≤ R.locals) (hb1 : k + R'.cells ≤ R.cells) (hb2 : n + R'.slots ≤ R.slots) (hst : (st.map catP).sum ≤ 8) (kk : ∀ x σ', Q x σ' → Aw Ω M_Dw_merge R F (k + R'.cells) (n + R'.slots) 5 L (xr x :: st) σ') (kx : ∀ E σ', QX' E σ' → Ax Ω M_Dw_merge R F (k + R'.cells) (n + R'.slots) 2 L st σ' E) : Aw Ω M_Dw_merge R F k n 2 L (xi x0 :: xr (some a) :: st) σ :=
  Aw.callV (As := [xi x0]) (stk := xi x0 :: xr (some a) :: st) (nn := 1) 0 M_Dw_versionAt hc ok_Dw_versionAt rfl (by decide) rfl hk ml_Dw_91 im_Dw_versionAt se_Dw_versionAt ⟨hr1, hr2⟩ rfl ⟨hb1, hb2⟩ hst rfl d_Dw_merge_2 (fun r σ' h => by obtain ⟨x, rfl, h⟩ := h; exact kk x σ' h) kx
theorem c_Dw_merge_12 {Ω : Om} {R R' : Room} {F : QF} {k n : Nat} {L st : List PV} {σ : Sto} {QX' : String → Sto → Prop} {Q : Option Nat → Sto → Prop} {a : Nat} {x0 : Int} (hc : MC Ω M_Dw_versionAt R' (RR Q) QX' σ [xr (some a), xi x0]) (hk : sK σ a = 1) (hr1 : R'.frames + 1 ≤ R.frames) (hr2 : 8 + (2 + 11) + R'.locals ≤ R.locals) (hb1 : k + R'.cells ≤ R.cells) (hb2 : n + R'.slots ≤ R.slots) (hst : (st.map catP).sum ≤ 8) (kk : ∀ x σ', Q x σ' → Aw Ω M_Dw_merge R F (k + R'.cells) (n + R'.slots) 15 L (xr x :: st) σ') (kx : ∀ E σ', QX' E σ' → Ax Ω M_Dw_merge R F (k + R'.cells) (n + R'.slots) 12 L st σ' E) : Aw Ω M_Dw_merge R F k n 12 L (xi x0 :: xr (some a) :: st) σ :=
  Aw.callV (As := [xi x0]) (stk := xi x0 :: xr (some a) :: st) (nn := 1) 0 M_Dw_versionAt hc ok_Dw_versionAt rfl (by decide) rfl hk ml_Dw_91 im_Dw_versionAt se_Dw_versionAt ⟨hr1, hr2⟩ rfl ⟨hb1, hb2⟩ hst rfl d_Dw_merge_12 (fun r σ' h => by obtain ⟨x, rfl, h⟩ := h; exact kk x σ' h) kx
theorem c_Dw_merge_22 {Ω : Om} {R R' : Room} {F : QF} {k n : Nat} {L st : List PV} {σ : Sto} {QX' : String → Sto → Prop} {Q : Sto → Prop} {a : Nat} {x0 : Int} (hc : MC Ω M_Dw_checkPerson R' (RV Q) QX' σ [xr (some a), xi x0]) (hk : sK σ a = 1) (hr1 : R'.frames + 1 ≤ R.frames) (hr2 : 8 + (2 + 11) + R'.locals ≤ R.locals) (hb1 : k + R'.cells ≤ R.cells) (hb2 : n + R'.slots ≤ R.slots) (hst : (st.map catP).sum ≤ 8) (kk : ∀ σ', Q σ' → Aw Ω M_Dw_merge R F (k + R'.cells) (n + R'.slots) 25 L st σ') (kx : ∀ E σ', QX' E σ' → Ax Ω M_Dw_merge R F (k + R'.cells) (n + R'.slots) 22 L st σ' E) : Aw Ω M_Dw_merge R F k n 22 L (xi x0 :: xr (some a) :: st) σ :=
  Aw.callV (As := [xi x0]) (stk := xi x0 :: xr (some a) :: st) (nn := 1) 0 M_Dw_checkPerson hc ok_Dw_checkPerson rfl (by decide) rfl hk ml_Dw_95 im_Dw_checkPerson se_Dw_checkPerson ⟨hr1, hr2⟩ rfl ⟨hb1, hb2⟩ hst rfl d_Dw_merge_22 (fun r σ' h => by obtain ⟨rfl, h⟩ := h; exact kk σ' h) kx
theorem t_Dw_merge_30 {Ω : Om} {R : Room} {k n : Nat} {L : List PV} {σ : Sto} {QR : Option PV → Sto → Prop} {QX : String → Sto → Prop} {st : List PV} (hRf : 5 < R.frames) (hRl : (st.map catP).sum + 82 ≤ R.locals) (hc : k + 1 ≤ R.cells) (hs : n + 6 ≤ R.slots) (hx : ∀ n', sN σ ≤ n' → QX "java/lang/IllegalArgumentException" (nX σ n')) : Aw Ω M_Dw_merge R (MF Ω R QR QX) k n 30 L st σ := Aw.throwS (text := "both versions are the same") rfl (by decide +kernel) exn_f cl_Dw_241 exi_IllegalArgumentException (List.mem_of_getElem? (i := 1235) (by decide +kernel)) exa_Dw_245 exg_Dw_245 d_Dw_merge_30 d_Dw_merge_33 d_Dw_merge_34 d_Dw_merge_36 d_Dw_merge_39 hRf hRl hc hs hx
theorem c_Dw_merge_55 {Ω : Om} {R R' : Room} {F : QF} {k n : Nat} {L st : List PV} {σ : Sto} {QX' : String → Sto → Prop} {Q : Int → Sto → Prop} {a : Nat} {x0 : Int} {x1 : Int} (hc : MC Ω M_Dw_baseOf R' (RI Q) QX' σ [xr (some a), xi x0, xi x1]) (hk : sK σ a = 1) (hr1 : R'.frames + 1 ≤ R.frames) (hr2 : 8 + (6 + 11) + R'.locals ≤ R.locals) (hb1 : k + R'.cells ≤ R.cells) (hb2 : n + R'.slots ≤ R.slots) (hst : (st.map catP).sum ≤ 8) (kk : ∀ x σ', Q x σ' → Aw Ω M_Dw_merge R F (k + R'.cells) (n + R'.slots) 58 L (xi x :: st) σ') (kx : ∀ E σ', QX' E σ' → Ax Ω M_Dw_merge R F (k + R'.cells) (n + R'.slots) 55 L st σ' E) : Aw Ω M_Dw_merge R F k n 55 L (xi x1 :: xi x0 :: xr (some a) :: st) σ :=
  Aw.callV (As := [xi x0, xi x1]) (stk := xi x1 :: xi x0 :: xr (some a) :: st) (nn := 2) 0 M_Dw_baseOf hc ok_Dw_baseOf rfl (by decide) rfl hk ml_Dw_237 im_Dw_baseOf se_Dw_baseOf ⟨hr1, hr2⟩ rfl ⟨hb1, hb2⟩ hst rfl d_Dw_merge_55 (fun r σ' h => by obtain ⟨x, rfl, h⟩ := h; exact kk x σ' h) kx
theorem c_Dw_merge_62 {Ω : Om} {R R' : Room} {F : QF} {k n : Nat} {L st : List PV} {σ : Sto} {QX' : String → Sto → Prop} {Q : Sto → Prop} {a : Nat} {x0 : Option Nat} {x1 : Option Nat} {x2 : Option Nat} (hc : MC Ω M_Drf_weave R' (RV Q) QX' σ [xr (some a), xr x0, xr x1, xr x2]) (hk : sK σ a = 4) (hr1 : R'.frames + 1 ≤ R.frames) (hr2 : 8 + (10 + 11) + R'.locals ≤ R.locals) (hb1 : k + R'.cells ≤ R.cells) (hb2 : n + R'.slots ≤ R.slots) (hst : (st.map catP).sum ≤ 8) (kk : ∀ σ', Q σ' → Aw Ω M_Dw_merge R F (k + R'.cells) (n + R'.slots) 65 L st σ') (kx : ∀ E σ', QX' E σ' → Ax Ω M_Dw_merge R F (k + R'.cells) (n + R'.slots) 62 L st σ' E) : Aw Ω M_Dw_merge R F k n 62 L (xr x2 :: xr x1 :: xr x0 :: xr (some a) :: st) σ :=
  Aw.callV (As := [xr x0, xr x1, xr x2]) (stk := xr x2 :: xr x1 :: xr x0 :: xr (some a) :: st) (nn := 3) 3 M_Drf_weave hc ok_Drf_weave rfl (by decide) rfl hk ml_Dw_246 im_Drf_weave se_Drf_weave ⟨hr1, hr2⟩ rfl ⟨hb1, hb2⟩ hst rfl d_Dw_merge_62 (fun r σ' h => by obtain ⟨rfl, h⟩ := h; exact kk σ' h) kx
theorem c_Dw_merge_72 {Ω : Om} {R R' : Room} {F : QF} {k n : Nat} {L st : List PV} {σ : Sto} {QX' : String → Sto → Prop} {Q : Int → Sto → Prop} {a : Nat} (hc : MC Ω M_Txt_size R' (RI Q) QX' σ [xr (some a)]) (hk : sK σ a = 10) (hr1 : R'.frames + 1 ≤ R.frames) (hr2 : 8 + (1 + 11) + R'.locals ≤ R.locals) (hb1 : k + R'.cells ≤ R.cells) (hb2 : n + R'.slots ≤ R.slots) (hst : (st.map catP).sum ≤ 8) (kk : ∀ x σ', Q x σ' → Aw Ω M_Dw_merge R F (k + R'.cells) (n + R'.slots) 75 L (xi x :: st) σ') (kx : ∀ E σ', QX' E σ' → Ax Ω M_Dw_merge R F (k + R'.cells) (n + R'.slots) 72 L st σ' E) : Aw Ω M_Dw_merge R F k n 72 L (xr (some a) :: st) σ :=
  Aw.callV (As := []) (stk := xr (some a) :: st) (nn := 0) 9 M_Txt_size hc ok_Txt_size rfl (by decide) rfl hk ml_Dw_112 im_Txt_size se_Txt_size ⟨hr1, hr2⟩ rfl ⟨hb1, hb2⟩ hst rfl d_Dw_merge_72 (fun r σ' h => by obtain ⟨x, rfl, h⟩ := h; exact kk x σ' h) kx
theorem t_Dw_merge_80 {Ω : Om} {R : Room} {k n : Nat} {L : List PV} {σ : Sto} {QR : Option PV → Sto → Prop} {QX : String → Sto → Prop} {st : List PV} (hRf : 5 < R.frames) (hRl : (st.map catP).sum + 82 ≤ R.locals) (hc : k + 1 ≤ R.cells) (hs : n + 6 ≤ R.slots) (hx : ∀ n', sN σ ≤ n' → QX "java/lang/IllegalStateException" (nX σ n')) : Aw Ω M_Dw_merge R (MF Ω R QR QX) k n 80 L st σ := Aw.throwS (text := "the text would have more than 20 lines") rfl (by decide +kernel) exn_f cl_Dw_132 exi_IllegalStateException (List.mem_of_getElem? (i := 1236) (by decide +kernel)) exa_Dw_136 exg_Dw_136 d_Dw_merge_80 d_Dw_merge_83 d_Dw_merge_84 d_Dw_merge_86 d_Dw_merge_89 hRf hRl hc hs hx
theorem c_Dw_merge_97 {Ω : Om} {R R' : Room} {F : QF} {k n : Nat} {L st : List PV} {σ : Sto} {QX' : String → Sto → Prop} {Q : Sto → Prop} {a : Nat} {x0 : Int} {x1 : Int} {x2 : Int} (hc : MC Ω M_Drf_signFor R' (RV Q) QX' σ [xr (some a), xi x0, xi x1, xi x2]) (hk : sK σ a = 4) (hr1 : R'.frames + 1 ≤ R.frames) (hr2 : 8 + (4 + 11) + R'.locals ≤ R.locals) (hb1 : k + R'.cells ≤ R.cells) (hb2 : n + R'.slots ≤ R.slots) (hst : (st.map catP).sum ≤ 8) (kk : ∀ σ', Q σ' → Aw Ω M_Dw_merge R F (k + R'.cells) (n + R'.slots) 100 L st σ') (kx : ∀ E σ', QX' E σ' → Ax Ω M_Dw_merge R F (k + R'.cells) (n + R'.slots) 97 L st σ' E) : Aw Ω M_Dw_merge R F k n 97 L (xi x2 :: xi x1 :: xi x0 :: xr (some a) :: st) σ :=
  Aw.callV (As := [xi x0, xi x1, xi x2]) (stk := xi x2 :: xi x1 :: xi x0 :: xr (some a) :: st) (nn := 3) 3 M_Drf_signFor hc ok_Drf_signFor rfl (by decide) rfl hk ml_Dw_107 im_Drf_signFor se_Drf_signFor ⟨hr1, hr2⟩ rfl ⟨hb1, hb2⟩ hst rfl d_Dw_merge_97 (fun r σ' h => by obtain ⟨rfl, h⟩ := h; exact kk σ' h) kx
theorem c_Dw_merge_129 {Ω : Om} {R R' : Room} {F : QF} {k n : Nat} {L st : List PV} {σ : Sto} {QX' : String → Sto → Prop} {Q : Int → Sto → Prop} {a : Nat} (hc : MC Ω M_Drf_unsettled R' (RI Q) QX' σ [xr (some a)]) (hk : sK σ a = 4) (hr1 : R'.frames + 1 ≤ R.frames) (hr2 : 8 + (1 + 11) + R'.locals ≤ R.locals) (hb1 : k + R'.cells ≤ R.cells) (hb2 : n + R'.slots ≤ R.slots) (hst : (st.map catP).sum ≤ 8) (kk : ∀ x σ', Q x σ' → Aw Ω M_Dw_merge R F (k + R'.cells) (n + R'.slots) 132 L (xi x :: st) σ') (kx : ∀ E σ', QX' E σ' → Ax Ω M_Dw_merge R F (k + R'.cells) (n + R'.slots) 129 L st σ' E) : Aw Ω M_Dw_merge R F k n 129 L (xr (some a) :: st) σ :=
  Aw.callV (As := []) (stk := xr (some a) :: st) (nn := 0) 3 M_Drf_unsettled hc ok_Drf_unsettled rfl (by decide) rfl hk ml_Dw_252 im_Drf_unsettled se_Drf_unsettled ⟨hr1, hr2⟩ rfl ⟨hb1, hb2⟩ hst rfl d_Dw_merge_129 (fun r σ' h => by obtain ⟨x, rfl, h⟩ := h; exact kk x σ' h) kx
theorem r_Dw_merge_132 {Ω : Om} {R : Room} {k n : Nat} {L : List PV} {σ : Sto} {QR : Option PV → Sto → Prop} {QX : String → Sto → Prop} {x : Int} (h : QR (some (xi x)) σ) (h1 : k ≤ R.cells) (h2 : n ≤ R.slots) : Aw Ω M_Dw_merge R (MF Ω R QR QX) k n 132 L [xi x] σ := Aw.iret rfl h h1 h2 d_Dw_merge_132
theorem e_Dw_move {Ω : Om} {R : Room} {QR : Option PV → Sto → Prop} {QX : String → Sto → Prop} {σ : Sto} {a0 : Nat} {v1 : Int} {v2 : Int} (h : Aw Ω M_Dw_move R (MF Ω R QR QX) 0 0 0 [xr (some a0), xi v1, xi v2] [] σ) : MC Ω M_Dw_move R QR QX σ [xr (some a0), xi v1, xi v2] := MC.body (by decide +kernel) rfl (Nat.le_of_ble_eq_true rfl) rfl h
theorem b_Dw_move_0 {Ω : Om} {R : Room} {F : QF} {k n : Nat} {σ : Sto} {a0 : Nat} {v1 : Int} {v2 : Int} (h : Aw Ω M_Dw_move R F k n 3 [xr (some a0), xi v1, xi v2] [xr (some a0), xi v1, xr (some a0)] σ) : Aw Ω M_Dw_move R F k n 0 [xr (some a0), xi v1, xi v2] [] σ := by
  refine Aw.aload_n rfl d_Dw_move_0 ?_
  refine Aw.iload_n rfl d_Dw_move_1 ?_
  refine Aw.aload_n rfl d_Dw_move_2 ?_
  exact h
theorem b_Dw_move_9 {Ω : Om} {R : Room} {F : QF} {k n : Nat} {σ : Sto} {a0 : Nat} {v1 : Int} {v2 : Int} (h : Aw Ω M_Dw_move R F k n 12 [xr (some a0), xi v1, xi v2] [xr (some a0), xi v2, xr (some a0)] σ) : Aw Ω M_Dw_move R F k n 9 [xr (some a0), xi v1, xi v2] [] σ := by
  refine Aw.aload_n rfl d_Dw_move_9 ?_
  refine Aw.iload_n rfl d_Dw_move_10 ?_
  refine Aw.aload_n rfl d_Dw_move_11 ?_
  exact h
theorem b_Dw_move_18 {Ω : Om} {R : Room} {F : QF} {k n : Nat} {σ : Sto} {a0 : Nat} {v1 : Int} {v2 : Int} (h : Aw Ω M_Dw_move R F k n 19 [xr (some a0), xi v1, xi v2] [xr (some a0)] σ) : Aw Ω M_Dw_move R F k n 18 [xr (some a0), xi v1, xi v2] [] σ := by
  refine Aw.aload_n rfl d_Dw_move_18 ?_
  exact h
theorem b_Dw_move_22 {Ω : Om} {R : Room} {F : QF} {k n : Nat} {σ : Sto} {a0 : Nat} {v1 : Int} {v2 : Int} (h : sK σ a0 = 1 ∧ (∃ b2 : Nat, fR σ 8 a0 = some b2 ∧ k + 1 ≤ R.cells ∧ n + 6 ≤ R.slots ∧ (∀ σ6 : Sto, σ6 = (nO σ 5 0) → Aw Ω M_Dw_move R F (k + 1) (n + 6) 35 [xr (some a0), xi v1, xi v2] [xr none, xl 0, xi v2, xi v1, xi 3, xr (some (sN σ)), xr (some (sN σ)), xr (some b2)] σ6))) : Aw Ω M_Dw_move R F k n 22 [xr (some a0), xi v1, xi v2] [] σ := by
  refine Aw.aload_n rfl d_Dw_move_22 ?_
  obtain ⟨o1, h⟩ := h
  obtain ⟨b2, e3, h⟩ := h
  refine Aw.getRs (f := 8) 0 8 fl_Dw_58 (by decide) (by decide) rfl rfl o1 e3 d_Dw_move_23 ?_
  obtain ⟨o4, o5, h⟩ := h
  refine Aw.new 4 (by decide) cl_Dw_139 ins_4 ini_4 o4 o5 d_Dw_move_26 ?_
  obtain ⟨σ6, hσ6⟩ : ∃ z, z = (nO σ 5 0) := ⟨_, rfl⟩
  refine Aw.toS (σ' := σ6) hσ6 ?_
  have h := h σ6 hσ6
  refine Aw.dup rfl d_Dw_move_29 ?_
  refine Aw.iconst d_Dw_move_30 ?_
  refine Aw.iload_n rfl d_Dw_move_31 ?_
  refine Aw.iload_n rfl d_Dw_move_32 ?_
  refine Aw.lconst (w := 0) (by decide) d_Dw_move_33 ?_
  refine Aw.null d_Dw_move_34 ?_
  exact h
theorem b_Dw_move_41 {Ω : Om} {R : Room} {F : QF} {k n : Nat} {σ : Sto} {a0 : Nat} {v1 : Int} {v2 : Int} {s0 : Int} (h : sK σ a0 = 1 ∧ (Q32 (fI σ 16 a0) → Q32 ((fI σ 16 a0) + 1) ∧ Aw Ω M_Dw_move R F k n 52 [xr (some a0), xi v1, xi v2] [] (uI σ 16 a0 ((fI σ 16 a0) + 1)))) : Aw Ω M_Dw_move R F k n 41 [xr (some a0), xi v1, xi v2] [xi s0] σ := by
  refine Aw.pop rfl d_Dw_move_41 ?_
  refine Aw.aload_n rfl d_Dw_move_42 ?_
  refine Aw.dup rfl d_Dw_move_43 ?_
  obtain ⟨o1, h⟩ := h
  refine Aw.getI (f := 16) 0 16 fl_Dw_85 (by decide) (by decide) rfl rfl o1 d_Dw_move_44 (fun r2 => ?_)
  have h := h r2
  refine Aw.iconst d_Dw_move_47 ?_
  refine Aw.iadd d_Dw_move_48 ?_
  obtain ⟨o3, h⟩ := h
  refine Aw.putI (f := 16) 0 16 fl_Dw_85 (by decide) (by decide) rfl rfl o1 rfl o3 (Or.inl rfl) d_Dw_move_49 ?_
  exact h
theorem c_Dw_move_3 {Ω : Om} {R R' : Room} {F : QF} {k n : Nat} {L st : List PV} {σ : Sto} {QX' : String → Sto → Prop} {Q : Int → Sto → Prop} {a : Nat} (hc : MC Ω M_Dw_draftSize R' (RI Q) QX' σ [xr (some a)]) (hk : sK σ a = 1) (hr1 : R'.frames + 1 ≤ R.frames) (hr2 : 8 + (1 + 11) + R'.locals ≤ R.locals) (hb1 : k + R'.cells ≤ R.cells) (hb2 : n + R'.slots ≤ R.slots) (hst : (st.map catP).sum ≤ 8) (kk : ∀ x σ', Q x σ' → Aw Ω M_Dw_move R F (k + R'.cells) (n + R'.slots) 6 L (xi x :: st) σ') (kx : ∀ E σ', QX' E σ' → Ax Ω M_Dw_move R F (k + R'.cells) (n + R'.slots) 3 L st σ' E) : Aw Ω M_Dw_move R F k n 3 L (xr (some a) :: st) σ :=
  Aw.callV (As := []) (stk := xr (some a) :: st) (nn := 0) 0 M_Dw_draftSize hc ok_Dw_draftSize rfl (by decide) rfl hk ml_Dw_118 im_Dw_draftSize se_Dw_draftSize ⟨hr1, hr2⟩ rfl ⟨hb1, hb2⟩ hst rfl d_Dw_move_3 (fun r σ' h => by obtain ⟨x, rfl, h⟩ := h; exact kk x σ' h) kx
theorem c_Dw_move_6 {Ω : Om} {R R' : Room} {F : QF} {k n : Nat} {L st : List PV} {σ : Sto} {QX' : String → Sto → Prop} {Q : Sto → Prop} {a : Nat} {x0 : Int} {x1 : Int} (hc : MC Ω M_Dw_checkPlace R' (RV Q) QX' σ [xr (some a), xi x0, xi x1]) (hk : sK σ a = 1) (hr1 : R'.frames + 1 ≤ R.frames) (hr2 : 8 + (3 + 11) + R'.locals ≤ R.locals) (hb1 : k + R'.cells ≤ R.cells) (hb2 : n + R'.slots ≤ R.slots) (hst : (st.map catP).sum ≤ 8) (kk : ∀ σ', Q σ' → Aw Ω M_Dw_move R F (k + R'.cells) (n + R'.slots) 9 L st σ') (kx : ∀ E σ', QX' E σ' → Ax Ω M_Dw_move R F (k + R'.cells) (n + R'.slots) 6 L st σ' E) : Aw Ω M_Dw_move R F k n 6 L (xi x1 :: xi x0 :: xr (some a) :: st) σ :=
  Aw.callV (As := [xi x0, xi x1]) (stk := xi x1 :: xi x0 :: xr (some a) :: st) (nn := 2) 0 M_Dw_checkPlace hc ok_Dw_checkPlace rfl (by decide) rfl hk ml_Dw_121 im_Dw_checkPlace se_Dw_checkPlace ⟨hr1, hr2⟩ rfl ⟨hb1, hb2⟩ hst rfl d_Dw_move_6 (fun r σ' h => by obtain ⟨rfl, h⟩ := h; exact kk σ' h) kx
theorem c_Dw_move_12 {Ω : Om} {R R' : Room} {F : QF} {k n : Nat} {L st : List PV} {σ : Sto} {QX' : String → Sto → Prop} {Q : Int → Sto → Prop} {a : Nat} (hc : MC Ω M_Dw_draftSize R' (RI Q) QX' σ [xr (some a)]) (hk : sK σ a = 1) (hr1 : R'.frames + 1 ≤ R.frames) (hr2 : 8 + (1 + 11) + R'.locals ≤ R.locals) (hb1 : k + R'.cells ≤ R.cells) (hb2 : n + R'.slots ≤ R.slots) (hst : (st.map catP).sum ≤ 8) (kk : ∀ x σ', Q x σ' → Aw Ω M_Dw_move R F (k + R'.cells) (n + R'.slots) 15 L (xi x :: st) σ') (kx : ∀ E σ', QX' E σ' → Ax Ω M_Dw_move R F (k + R'.cells) (n + R'.slots) 12 L st σ' E) : Aw Ω M_Dw_move R F k n 12 L (xr (some a) :: st) σ :=
  Aw.callV (As := []) (stk := xr (some a) :: st) (nn := 0) 0 M_Dw_draftSize hc ok_Dw_draftSize rfl (by decide) rfl hk ml_Dw_118 im_Dw_draftSize se_Dw_draftSize ⟨hr1, hr2⟩ rfl ⟨hb1, hb2⟩ hst rfl d_Dw_move_12 (fun r σ' h => by obtain ⟨x, rfl, h⟩ := h; exact kk x σ' h) kx
theorem c_Dw_move_15 {Ω : Om} {R R' : Room} {F : QF} {k n : Nat} {L st : List PV} {σ : Sto} {QX' : String → Sto → Prop} {Q : Sto → Prop} {a : Nat} {x0 : Int} {x1 : Int} (hc : MC Ω M_Dw_checkPlace R' (RV Q) QX' σ [xr (some a), xi x0, xi x1]) (hk : sK σ a = 1) (hr1 : R'.frames + 1 ≤ R.frames) (hr2 : 8 + (3 + 11) + R'.locals ≤ R.locals) (hb1 : k + R'.cells ≤ R.cells) (hb2 : n + R'.slots ≤ R.slots) (hst : (st.map catP).sum ≤ 8) (kk : ∀ σ', Q σ' → Aw Ω M_Dw_move R F (k + R'.cells) (n + R'.slots) 18 L st σ') (kx : ∀ E σ', QX' E σ' → Ax Ω M_Dw_move R F (k + R'.cells) (n + R'.slots) 15 L st σ' E) : Aw Ω M_Dw_move R F k n 15 L (xi x1 :: xi x0 :: xr (some a) :: st) σ :=
  Aw.callV (As := [xi x0, xi x1]) (stk := xi x1 :: xi x0 :: xr (some a) :: st) (nn := 2) 0 M_Dw_checkPlace hc ok_Dw_checkPlace rfl (by decide) rfl hk ml_Dw_121 im_Dw_checkPlace se_Dw_checkPlace ⟨hr1, hr2⟩ rfl ⟨hb1, hb2⟩ hst rfl d_Dw_move_15 (fun r σ' h => by obtain ⟨rfl, h⟩ := h; exact kk σ' h) kx
theorem c_Dw_move_19 {Ω : Om} {R R' : Room} {F : QF} {k n : Nat} {L st : List PV} {σ : Sto} {QX' : String → Sto → Prop} {Q : Sto → Prop} {a : Nat} (hc : MC Ω M_Dw_checkEditable R' (RV Q) QX' σ [xr (some a)]) (hk : sK σ a = 1) (hr1 : R'.frames + 1 ≤ R.frames) (hr2 : 8 + (1 + 11) + R'.locals ≤ R.locals) (hb1 : k + R'.cells ≤ R.cells) (hb2 : n + R'.slots ≤ R.slots) (hst : (st.map catP).sum ≤ 8) (kk : ∀ σ', Q σ' → Aw Ω M_Dw_move R F (k + R'.cells) (n + R'.slots) 22 L st σ') (kx : ∀ E σ', QX' E σ' → Ax Ω M_Dw_move R F (k + R'.cells) (n + R'.slots) 19 L st σ' E) : Aw Ω M_Dw_move R F k n 19 L (xr (some a) :: st) σ :=
  Aw.callV (As := []) (stk := xr (some a) :: st) (nn := 0) 0 M_Dw_checkEditable hc ok_Dw_checkEditable rfl (by decide) rfl hk ml_Dw_129 im_Dw_checkEditable se_Dw_checkEditable ⟨hr1, hr2⟩ rfl ⟨hb1, hb2⟩ hst rfl d_Dw_move_19 (fun r σ' h => by obtain ⟨rfl, h⟩ := h; exact kk σ' h) kx
theorem c_Dw_move_35 {Ω : Om} {R R' : Room} {F : QF} {k n : Nat} {L st : List PV} {σ : Sto} {QX' : String → Sto → Prop} {Q : Sto → Prop} {a : Nat} {x0 : Int} {x1 : Int} {x2 : Int} {x3 : Int64} {x4 : Option Nat} (hc : MC Ω M_Edt_init R' (RV Q) QX' σ [xr (some a), xi x0, xi x1, xi x2, xl x3, xr x4]) (hr1 : R'.frames + 1 ≤ R.frames) (hr2 : 8 + (7 + 11) + R'.locals ≤ R.locals) (hb1 : k + R'.cells ≤ R.cells) (hb2 : n + R'.slots ≤ R.slots) (hst : (st.map catP).sum ≤ 8) (kk : ∀ σ', Q σ' → Aw Ω M_Dw_move R F (k + R'.cells) (n + R'.slots) 38 L st σ') (kx : ∀ E σ', QX' E σ' → Ax Ω M_Dw_move R F (k + R'.cells) (n + R'.slots) 35 L st σ' E) : Aw Ω M_Dw_move R F k n 35 L (xr x4 :: xl x3 :: xi x2 :: xi x1 :: xi x0 :: xr (some a) :: st) σ :=
  Aw.callI (As := [xi x0, xi x1, xi x2, xl x3, xr x4]) (stk := xr x4 :: xl x3 :: xi x2 :: xi x1 :: xi x0 :: xr (some a) :: st) (nn := 5) M_Edt_init hc ok_Edt_init rfl rfl rfl im_Edt_init (Or.inl ml_Dw_141) ⟨hr1, hr2⟩ rfl ⟨hb1, hb2⟩ hst rfl d_Dw_move_35 (fun r σ' h => by obtain ⟨rfl, h⟩ := h; exact kk σ' h) kx
theorem c_Dw_move_38 {Ω : Om} {R R' : Room} {F : QF} {k n : Nat} {L st : List PV} {σ : Sto} {QX' : String → Sto → Prop} {Q : Int → Sto → Prop} {a : Nat} {x0 : Option Nat} (hc : MC Ω M_Drf_make R' (RI Q) QX' σ [xr (some a), xr x0]) (hk : sK σ a = 4) (hr1 : R'.frames + 1 ≤ R.frames) (hr2 : 8 + (2 + 11) + R'.locals ≤ R.locals) (hb1 : k + R'.cells ≤ R.cells) (hb2 : n + R'.slots ≤ R.slots) (hst : (st.map catP).sum ≤ 8) (kk : ∀ x σ', Q x σ' → Aw Ω M_Dw_move R F (k + R'.cells) (n + R'.slots) 41 L (xi x :: st) σ') (kx : ∀ E σ', QX' E σ' → Ax Ω M_Dw_move R F (k + R'.cells) (n + R'.slots) 38 L st σ' E) : Aw Ω M_Dw_move R F k n 38 L (xr x0 :: xr (some a) :: st) σ :=
  Aw.callV (As := [xr x0]) (stk := xr x0 :: xr (some a) :: st) (nn := 1) 3 M_Drf_make hc ok_Drf_make rfl (by decide) rfl hk ml_Dw_144 im_Drf_make se_Drf_make ⟨hr1, hr2⟩ rfl ⟨hb1, hb2⟩ hst rfl d_Dw_move_38 (fun r σ' h => by obtain ⟨x, rfl, h⟩ := h; exact kk x σ' h) kx
theorem r_Dw_move_52 {Ω : Om} {R : Room} {k n : Nat} {L : List PV} {σ : Sto} {QR : Option PV → Sto → Prop} {QX : String → Sto → Prop} (h : QR none σ) (h1 : k ≤ R.cells) (h2 : n ≤ R.slots) : Aw Ω M_Dw_move R (MF Ω R QR QX) k n 52 L [] σ := Aw.vret rfl h h1 h2 d_Dw_move_52
theorem e_Dw_movedTo {Ω : Om} {R : Room} {QR : Option PV → Sto → Prop} {QX : String → Sto → Prop} {σ : Sto} {a0 : Nat} {v1 : Int} (h : Aw Ω M_Dw_movedTo R (MF Ω R QR QX) 0 0 0 [xr (some a0), xi v1] [] σ) : MC Ω M_Dw_movedTo R QR QX σ [xr (some a0), xi v1] := MC.body (by decide +kernel) rfl (Nat.le_of_ble_eq_true rfl) rfl h
theorem b_Dw_movedTo_0 {Ω : Om} {R : Room} {F : QF} {k n : Nat} {σ : Sto} {a0 : Nat} {v1 : Int} (h : sK σ a0 = 1 ∧ (Q32 (fI σ 11 a0) → (((fI σ 11 a0) = (0 : Int) → Aw Ω M_Dw_movedTo R F k n 20 [xr (some a0), xi v1] [xi 0, xi v1, xr (some a0)] σ) ∧ (¬ (fI σ 11 a0) = (0 : Int) → (∃ b3 : Nat, fR σ 5 a0 = some b3 ∧ Aw Ω M_Dw_movedTo R F k n 13 [xr (some a0), xi v1] [xr (some b3), xi v1, xr (some a0)] σ))))) : Aw Ω M_Dw_movedTo R F k n 0 [xr (some a0), xi v1] [] σ := by
  refine Aw.aload_n rfl d_Dw_movedTo_0 ?_
  refine Aw.iload_n rfl d_Dw_movedTo_1 ?_
  refine Aw.aload_n rfl d_Dw_movedTo_2 ?_
  obtain ⟨o1, h⟩ := h
  refine Aw.getI (f := 11) 0 11 fl_Dw_69 (by decide) (by decide) rfl rfl o1 d_Dw_movedTo_3 (fun r2 => ?_)
  have h := h r2
  obtain ⟨ht, hf⟩ := h
  refine Aw.if_eq (tgt := 19) r2 (by decide) d_Dw_movedTo_6 (fun c5 => ?_) (fun c5 => ?_)
  · have h := ht c5
    refine Aw.iconst d_Dw_movedTo_19 ?_
    exact h
  · have h := hf c5
    refine Aw.aload_n rfl d_Dw_movedTo_9 ?_
    obtain ⟨b3, e4, h⟩ := h
    refine Aw.getRs (f := 5) 0 5 fl_Dw_41 (by decide) (by decide) rfl rfl o1 e4 d_Dw_movedTo_10 ?_
    exact h
theorem b_Dw_movedTo_16 {Ω : Om} {R : Room} {F : QF} {k n : Nat} {σ : Sto} {a0 : Nat} {v1 : Int} {s0 : Nat} {s1 : Int} {s2 : Int} (h : Aw Ω M_Dw_movedTo R F k n 20 [xr (some a0), xi v1] [xi s2, xi s1, xr (some s0)] σ) : Aw Ω M_Dw_movedTo R F k n 16 [xr (some a0), xi v1] [xi s2, xi s1, xr (some s0)] σ := by
  refine Aw.goto (tgt := 20) (by decide) d_Dw_movedTo_16 ?_
  exact h
theorem b_Dw_movedTo_23 {Ω : Om} {R : Room} {F : QF} {k n : Nat} {σ : Sto} {a0 : Nat} {v1 : Int} (h : sK σ a0 = 1 ∧ (∃ b2 : Nat, fR σ 5 a0 = some b2 ∧ Aw Ω M_Dw_movedTo R F k n 28 [xr (some a0), xi v1] [xi v1, xr (some b2)] σ)) : Aw Ω M_Dw_movedTo R F k n 23 [xr (some a0), xi v1] [] σ := by
  refine Aw.aload_n rfl d_Dw_movedTo_23 ?_
  obtain ⟨o1, h⟩ := h
  obtain ⟨b2, e3, h⟩ := h
  refine Aw.getRs (f := 5) 0 5 fl_Dw_41 (by decide) (by decide) rfl rfl o1 e3 d_Dw_movedTo_24 ?_
  refine Aw.iload_n rfl d_Dw_movedTo_27 ?_
  exact h
theorem c_Dw_movedTo_13 {Ω : Om} {R R' : Room} {F : QF} {k n : Nat} {L st : List PV} {σ : Sto} {QX' : String → Sto → Prop} {Q : Int → Sto → Prop} {a : Nat} (hc : MC Ω M_Cmp_size R' (RI Q) QX' σ [xr (some a)]) (hk : sK σ a = 2) (hr1 : R'.frames + 1 ≤ R.frames) (hr2 : 8 + (1 + 11) + R'.locals ≤ R.locals) (hb1 : k + R'.cells ≤ R.cells) (hb2 : n + R'.slots ≤ R.slots) (hst : (st.map catP).sum ≤ 8) (kk : ∀ x σ', Q x σ' → Aw Ω M_Dw_movedTo R F (k + R'.cells) (n + R'.slots) 16 L (xi x :: st) σ') (kx : ∀ E σ', QX' E σ' → Ax Ω M_Dw_movedTo R F (k + R'.cells) (n + R'.slots) 13 L st σ' E) : Aw Ω M_Dw_movedTo R F k n 13 L (xr (some a) :: st) σ :=
  Aw.callV (As := []) (stk := xr (some a) :: st) (nn := 0) 1 M_Cmp_size hc ok_Cmp_size rfl (by decide) rfl hk ml_Dw_226 im_Cmp_size se_Cmp_size ⟨hr1, hr2⟩ rfl ⟨hb1, hb2⟩ hst rfl d_Dw_movedTo_13 (fun r σ' h => by obtain ⟨x, rfl, h⟩ := h; exact kk x σ' h) kx
theorem c_Dw_movedTo_20 {Ω : Om} {R R' : Room} {F : QF} {k n : Nat} {L st : List PV} {σ : Sto} {QX' : String → Sto → Prop} {Q : Sto → Prop} {a : Nat} {x0 : Int} {x1 : Int} (hc : MC Ω M_Dw_checkPlace R' (RV Q) QX' σ [xr (some a), xi x0, xi x1]) (hk : sK σ a = 1) (hr1 : R'.frames + 1 ≤ R.frames) (hr2 : 8 + (3 + 11) + R'.locals ≤ R.locals) (hb1 : k + R'.cells ≤ R.cells) (hb2 : n + R'.slots ≤ R.slots) (hst : (st.map catP).sum ≤ 8) (kk : ∀ σ', Q σ' → Aw Ω M_Dw_movedTo R F (k + R'.cells) (n + R'.slots) 23 L st σ') (kx : ∀ E σ', QX' E σ' → Ax Ω M_Dw_movedTo R F (k + R'.cells) (n + R'.slots) 20 L st σ' E) : Aw Ω M_Dw_movedTo R F k n 20 L (xi x1 :: xi x0 :: xr (some a) :: st) σ :=
  Aw.callV (As := [xi x0, xi x1]) (stk := xi x1 :: xi x0 :: xr (some a) :: st) (nn := 2) 0 M_Dw_checkPlace hc ok_Dw_checkPlace rfl (by decide) rfl hk ml_Dw_121 im_Dw_checkPlace se_Dw_checkPlace ⟨hr1, hr2⟩ rfl ⟨hb1, hb2⟩ hst rfl d_Dw_movedTo_20 (fun r σ' h => by obtain ⟨rfl, h⟩ := h; exact kk σ' h) kx
theorem c_Dw_movedTo_28 {Ω : Om} {R R' : Room} {F : QF} {k n : Nat} {L st : List PV} {σ : Sto} {QX' : String → Sto → Prop} {Q : Int → Sto → Prop} {a : Nat} {x0 : Int} (hc : MC Ω M_Cmp_moveAt R' (RI Q) QX' σ [xr (some a), xi x0]) (hk : sK σ a = 2) (hr1 : R'.frames + 1 ≤ R.frames) (hr2 : 8 + (2 + 11) + R'.locals ≤ R.locals) (hb1 : k + R'.cells ≤ R.cells) (hb2 : n + R'.slots ≤ R.slots) (hst : (st.map catP).sum ≤ 8) (kk : ∀ x σ', Q x σ' → Aw Ω M_Dw_movedTo R F (k + R'.cells) (n + R'.slots) 31 L (xi x :: st) σ') (kx : ∀ E σ', QX' E σ' → Ax Ω M_Dw_movedTo R F (k + R'.cells) (n + R'.slots) 28 L st σ' E) : Aw Ω M_Dw_movedTo R F k n 28 L (xi x0 :: xr (some a) :: st) σ :=
  Aw.callV (As := [xi x0]) (stk := xi x0 :: xr (some a) :: st) (nn := 1) 1 M_Cmp_moveAt hc ok_Cmp_moveAt rfl (by decide) rfl hk ml_Dw_230 im_Cmp_moveAt se_Cmp_moveAt ⟨hr1, hr2⟩ rfl ⟨hb1, hb2⟩ hst rfl d_Dw_movedTo_28 (fun r σ' h => by obtain ⟨x, rfl, h⟩ := h; exact kk x σ' h) kx
theorem r_Dw_movedTo_31 {Ω : Om} {R : Room} {k n : Nat} {L : List PV} {σ : Sto} {QR : Option PV → Sto → Prop} {QX : String → Sto → Prop} {x : Int} (h : QR (some (xi x)) σ) (h1 : k ≤ R.cells) (h2 : n ≤ R.slots) : Aw Ω M_Dw_movedTo R (MF Ω R QR QX) k n 31 L [xi x] σ := Aw.iret rfl h h1 h2 d_Dw_movedTo_31
theorem e_Dw_note {Ω : Om} {R : Room} {QR : Option PV → Sto → Prop} {QX : String → Sto → Prop} {σ : Sto} {a0 : Nat} {v1 : Int} {v2 : Int} (h : Aw Ω M_Dw_note R (MF Ω R QR QX) 0 0 0 [xr (some a0), xi v1, xi v2, xu] [] σ) : MC Ω M_Dw_note R QR QX σ [xr (some a0), xi v1, xi v2] := MC.body (by decide +kernel) rfl (Nat.le_of_ble_eq_true rfl) rfl h
theorem b_Dw_note_0 {Ω : Om} {R : Room} {F : QF} {k n : Nat} {σ : Sto} {a0 : Nat} {v1 : Int} {v2 : Int} (h : Aw Ω M_Dw_note R F k n 2 [xr (some a0), xi v1, xi v2, xu] [xi v1, xr (some a0)] σ) : Aw Ω M_Dw_note R F k n 0 [xr (some a0), xi v1, xi v2, xu] [] σ := by
  refine Aw.aload_n rfl d_Dw_note_0 ?_
  refine Aw.iload_n rfl d_Dw_note_1 ?_
  exact h
theorem b_Dw_note_5 {Ω : Om} {R : Room} {F : QF} {k n : Nat} {σ : Sto} {a0 : Nat} {v1 : Int} {v2 : Int} {s0 : Nat} (h : sK σ s0 = 12 ∧ (∃ b2 : Nat, fR σ 704 s0 = some b2 ∧ Aw Ω M_Dw_note R F k n 12 [xr (some a0), xi v1, xi v2, xr (some b2)] [xr (some b2), xi v2, xr (some a0)] σ)) : Aw Ω M_Dw_note R F k n 5 [xr (some a0), xi v1, xi v2, xu] [xr (some s0)] σ := by
  obtain ⟨o1, h⟩ := h
  obtain ⟨b2, e3, h⟩ := h
  refine Aw.getRs (f := 704) 11 0 fl_Dw_99 (by decide) (by decide) rfl rfl o1 e3 d_Dw_note_5 ?_
  refine Aw.astore_n (by decide) d_Dw_note_8 ?_
  refine Aw.toL (L' := [xr (some a0), xi v1, xi v2, xr (some b2)]) rfl ?_
  refine Aw.aload_n rfl d_Dw_note_9 ?_
  refine Aw.iload_n rfl d_Dw_note_10 ?_
  refine Aw.aload_n rfl d_Dw_note_11 ?_
  exact h
theorem b_Dw_note_18 {Ω : Om} {R : Room} {F : QF} {k n : Nat} {σ : Sto} {a0 : Nat} {v1 : Int} {v2 : Int} {a3 : Nat} (h : sK σ a0 = 1 ∧ (Q32 (fI σ 15 a0) → (((fI σ 15 a0) < (20 : Int) → (∃ b3 : Nat, fR σ 3 a0 = some b3 ∧ (Q32 (fI σ 15 a0) → Aw Ω M_Dw_note R F k n 48 [xr (some a0), xi v1, xi v2, xr (some a3)] [xi v2, xr (some a3), xi (fI σ 15 a0), xr (some b3)] σ))) ∧ (¬ (fI σ 15 a0) < (20 : Int) → Aw Ω M_Dw_note R F k n 27 [xr (some a0), xi v1, xi v2, xr (some a3)] [] σ)))) : Aw Ω M_Dw_note R F k n 18 [xr (some a0), xi v1, xi v2, xr (some a3)] [] σ := by
  refine Aw.aload_n rfl d_Dw_note_18 ?_
  obtain ⟨o1, h⟩ := h
  refine Aw.getI (f := 15) 0 15 fl_Dw_82 (by decide) (by decide) rfl rfl o1 d_Dw_note_19 (fun r2 => ?_)
  have h := h r2
  refine Aw.bipush (by decide) d_Dw_note_22 ?_
  obtain ⟨ht, hf⟩ := h
  refine Aw.icmp_lt (tgt := 38) r2 ⟨by decide, by decide⟩ (by decide) d_Dw_note_24 (fun c6 => ?_) (fun c6 => ?_)
  · have h := ht c6
    refine Aw.aload_n rfl d_Dw_note_38 ?_
    obtain ⟨b3, e4, h⟩ := h
    refine Aw.getRs (f := 3) 0 3 fl_Dw_27 (by decide) (by decide) rfl rfl o1 e4 d_Dw_note_39 ?_
    refine Aw.aload_n rfl d_Dw_note_42 ?_
    refine Aw.getI (f := 15) 0 15 fl_Dw_82 (by decide) (by decide) rfl rfl o1 d_Dw_note_43 (fun r5 => ?_)
    have h := h r5
    refine Aw.aload_n rfl d_Dw_note_46 ?_
    refine Aw.iload_n rfl d_Dw_note_47 ?_
    exact h
  · have h := hf c6
    exact h
theorem b_Dw_note_51 {Ω : Om} {R : Room} {F : QF} {k n : Nat} {σ : Sto} {a0 : Nat} {v1 : Int} {v2 : Int} {a3 : Nat} {s0 : Nat} {s1 : Int} {s2 : Int} (h : sK σ s0 = 50 ∧ 0 ≤ s1 ∧ s1 < sZ σ s0 ∧ Q32 s2 ∧ sK σ a0 = 1 ∧ (Q32 (fI σ 15 a0) → Q32 ((fI σ 15 a0) + 1) ∧ (Q32 (fI (uI σ 15 a0 ((fI σ 15 a0) + 1)) 15 a0) → Aw Ω M_Dw_note R F k n 68 [xr (some a0), xi v1, xi v2, xr (some a3)] [xi ((fI (uI σ 15 a0 ((fI σ 15 a0) + 1)) 15 a0) - 1)] (uI (vI σ s0 (s1).toNat s2) 15 a0 ((fI σ 15 a0) + 1))))) : Aw Ω M_Dw_note R F k n 51 [xr (some a0), xi v1, xi v2, xr (some a3)] [xi s2, xi s1, xr (some s0)] σ := by
  obtain ⟨o1, h⟩ := h
  obtain ⟨o2, o3, h⟩ := h
  obtain ⟨o4, h⟩ := h
  refine Aw.iast o1 o2 o3 o4 d_Dw_note_51 ?_
  refine Aw.aload_n rfl d_Dw_note_52 ?_
  refine Aw.dup rfl d_Dw_note_53 ?_
  obtain ⟨o5, h⟩ := h
  refine Aw.getI (f := 15) 0 15 fl_Dw_82 (by decide) (by decide) rfl rfl o5 d_Dw_note_54 (fun r6 => ?_)
  have h := h r6
  refine Aw.iconst d_Dw_note_57 ?_
  refine Aw.iadd d_Dw_note_58 ?_
  obtain ⟨o7, h⟩ := h
  refine Aw.putI (f := 15) 0 15 fl_Dw_82 (by decide) (by decide) rfl rfl o5 rfl o7 (Or.inl rfl) d_Dw_note_59 ?_
  refine Aw.aload_n rfl d_Dw_note_62 ?_
  refine Aw.getI (f := 15) 0 15 fl_Dw_82 (by decide) (by decide) rfl rfl o5 d_Dw_note_63 (fun r8 => ?_)
  have h := h r8
  refine Aw.iconst d_Dw_note_66 ?_
  refine Aw.isub d_Dw_note_67 ?_
  exact h
theorem c_Dw_note_2 {Ω : Om} {R R' : Room} {F : QF} {k n : Nat} {L st : List PV} {σ : Sto} {QX' : String → Sto → Prop} {Q : Option Nat → Sto → Prop} {a : Nat} {x0 : Int} (hc : MC Ω M_Dw_versionAt R' (RR Q) QX' σ [xr (some a), xi x0]) (hk : sK σ a = 1) (hr1 : R'.frames + 1 ≤ R.frames) (hr2 : 8 + (2 + 11) + R'.locals ≤ R.locals) (hb1 : k + R'.cells ≤ R.cells) (hb2 : n + R'.slots ≤ R.slots) (hst : (st.map catP).sum ≤ 8) (kk : ∀ x σ', Q x σ' → Aw Ω M_Dw_note R F (k + R'.cells) (n + R'.slots) 5 L (xr x :: st) σ') (kx : ∀ E σ', QX' E σ' → Ax Ω M_Dw_note R F (k + R'.cells) (n + R'.slots) 2 L st σ' E) : Aw Ω M_Dw_note R F k n 2 L (xi x0 :: xr (some a) :: st) σ :=
  Aw.callV (As := [xi x0]) (stk := xi x0 :: xr (some a) :: st) (nn := 1) 0 M_Dw_versionAt hc ok_Dw_versionAt rfl (by decide) rfl hk ml_Dw_91 im_Dw_versionAt se_Dw_versionAt ⟨hr1, hr2⟩ rfl ⟨hb1, hb2⟩ hst rfl d_Dw_note_2 (fun r σ' h => by obtain ⟨x, rfl, h⟩ := h; exact kk x σ' h) kx
theorem c_Dw_note_12 {Ω : Om} {R R' : Room} {F : QF} {k n : Nat} {L st : List PV} {σ : Sto} {QX' : String → Sto → Prop} {Q : Int → Sto → Prop} {a : Nat} (hc : MC Ω M_Txt_size R' (RI Q) QX' σ [xr (some a)]) (hk : sK σ a = 10) (hr1 : R'.frames + 1 ≤ R.frames) (hr2 : 8 + (1 + 11) + R'.locals ≤ R.locals) (hb1 : k + R'.cells ≤ R.cells) (hb2 : n + R'.slots ≤ R.slots) (hst : (st.map catP).sum ≤ 8) (kk : ∀ x σ', Q x σ' → Aw Ω M_Dw_note R F (k + R'.cells) (n + R'.slots) 15 L (xi x :: st) σ') (kx : ∀ E σ', QX' E σ' → Ax Ω M_Dw_note R F (k + R'.cells) (n + R'.slots) 12 L st σ' E) : Aw Ω M_Dw_note R F k n 12 L (xr (some a) :: st) σ :=
  Aw.callV (As := []) (stk := xr (some a) :: st) (nn := 0) 9 M_Txt_size hc ok_Txt_size rfl (by decide) rfl hk ml_Dw_112 im_Txt_size se_Txt_size ⟨hr1, hr2⟩ rfl ⟨hb1, hb2⟩ hst rfl d_Dw_note_12 (fun r σ' h => by obtain ⟨x, rfl, h⟩ := h; exact kk x σ' h) kx
theorem c_Dw_note_15 {Ω : Om} {R R' : Room} {F : QF} {k n : Nat} {L st : List PV} {σ : Sto} {QX' : String → Sto → Prop} {Q : Sto → Prop} {a : Nat} {x0 : Int} {x1 : Int} (hc : MC Ω M_Dw_checkPlace R' (RV Q) QX' σ [xr (some a), xi x0, xi x1]) (hk : sK σ a = 1) (hr1 : R'.frames + 1 ≤ R.frames) (hr2 : 8 + (3 + 11) + R'.locals ≤ R.locals) (hb1 : k + R'.cells ≤ R.cells) (hb2 : n + R'.slots ≤ R.slots) (hst : (st.map catP).sum ≤ 8) (kk : ∀ σ', Q σ' → Aw Ω M_Dw_note R F (k + R'.cells) (n + R'.slots) 18 L st σ') (kx : ∀ E σ', QX' E σ' → Ax Ω M_Dw_note R F (k + R'.cells) (n + R'.slots) 15 L st σ' E) : Aw Ω M_Dw_note R F k n 15 L (xi x1 :: xi x0 :: xr (some a) :: st) σ :=
  Aw.callV (As := [xi x0, xi x1]) (stk := xi x1 :: xi x0 :: xr (some a) :: st) (nn := 2) 0 M_Dw_checkPlace hc ok_Dw_checkPlace rfl (by decide) rfl hk ml_Dw_121 im_Dw_checkPlace se_Dw_checkPlace ⟨hr1, hr2⟩ rfl ⟨hb1, hb2⟩ hst rfl d_Dw_note_15 (fun r σ' h => by obtain ⟨rfl, h⟩ := h; exact kk σ' h) kx
theorem t_Dw_note_27 {Ω : Om} {R : Room} {k n : Nat} {L : List PV} {σ : Sto} {QR : Option PV → Sto → Prop} {QX : String → Sto → Prop} {st : List PV} (hRf : 5 < R.frames) (hRl : (st.map catP).sum + 82 ≤ R.locals) (hc : k + 1 ≤ R.cells) (hs : n + 6 ≤ R.slots) (hx : ∀ n', sN σ ≤ n' → QX "java/lang/IllegalStateException" (nX σ n')) : Aw Ω M_Dw_note R (MF Ω R QR QX) k n 27 L st σ := Aw.throwSW (text := "there are 20 notes") rfl (by decide +kernel) exn_f cl_Dw_132 exi_IllegalStateException (List.mem_of_getElem? (i := 1377) (by decide +kernel)) exa_Dw_136 exg_Dw_136 d_Dw_note_27 d_Dw_note_30 d_Dw_note_31 d_Dw_note_34 d_Dw_note_37 hRf hRl hc hs hx
theorem c_Dw_note_48 {Ω : Om} {R R' : Room} {F : QF} {k n : Nat} {L st : List PV} {σ : Sto} {QX' : String → Sto → Prop} {Q : Int → Sto → Prop} {a : Nat} {x0 : Int} (hc : MC Ω M_Txt_nameAt R' (RI Q) QX' σ [xr (some a), xi x0]) (hk : sK σ a = 10) (hr1 : R'.frames + 1 ≤ R.frames) (hr2 : 8 + (2 + 11) + R'.locals ≤ R.locals) (hb1 : k + R'.cells ≤ R.cells) (hb2 : n + R'.slots ≤ R.slots) (hst : (st.map catP).sum ≤ 8) (kk : ∀ x σ', Q x σ' → Aw Ω M_Dw_note R F (k + R'.cells) (n + R'.slots) 51 L (xi x :: st) σ') (kx : ∀ E σ', QX' E σ' → Ax Ω M_Dw_note R F (k + R'.cells) (n + R'.slots) 48 L st σ' E) : Aw Ω M_Dw_note R F k n 48 L (xi x0 :: xr (some a) :: st) σ :=
  Aw.callV (As := [xi x0]) (stk := xi x0 :: xr (some a) :: st) (nn := 1) 9 M_Txt_nameAt hc ok_Txt_nameAt rfl (by decide) rfl hk ml_Dw_156 im_Txt_nameAt se_Txt_nameAt ⟨hr1, hr2⟩ rfl ⟨hb1, hb2⟩ hst rfl d_Dw_note_48 (fun r σ' h => by obtain ⟨x, rfl, h⟩ := h; exact kk x σ' h) kx
theorem r_Dw_note_68 {Ω : Om} {R : Room} {k n : Nat} {L : List PV} {σ : Sto} {QR : Option PV → Sto → Prop} {QX : String → Sto → Prop} {x : Int} (h : QR (some (xi x)) σ) (h1 : k ≤ R.cells) (h2 : n ≤ R.slots) : Aw Ω M_Dw_note R (MF Ω R QR QX) k n 68 L [xi x] σ := Aw.iret rfl h h1 h2 d_Dw_note_68
theorem e_Dw_noteAt {Ω : Om} {R : Room} {QR : Option PV → Sto → Prop} {QX : String → Sto → Prop} {σ : Sto} {a0 : Nat} {v1 : Int} {v2 : Int} (h : Aw Ω M_Dw_noteAt R (MF Ω R QR QX) 0 0 0 [xr (some a0), xi v1, xi v2, xu, xu] [] σ) : MC Ω M_Dw_noteAt R QR QX σ [xr (some a0), xi v1, xi v2] := MC.body (by decide +kernel) rfl (Nat.le_of_ble_eq_true rfl) rfl h
theorem b_Dw_noteAt_0 {Ω : Om} {R : Room} {F : QF} {k n : Nat} {σ : Sto} {a0 : Nat} {v1 : Int} {v2 : Int} (h : Q32 v1 ∧ ((v1 < (0 : Int) → Aw Ω M_Dw_noteAt R F k n 12 [xr (some a0), xi v1, xi v2, xu, xu] [] σ) ∧ (¬ v1 < (0 : Int) → sK σ a0 = 1 ∧ (Q32 (fI σ 15 a0) → ((v1 < (fI σ 15 a0) → Aw Ω M_Dw_noteAt R F k n 25 [xr (some a0), xi v1, xi v2, xu, xu] [xi v2, xr (some a0)] σ) ∧ (¬ v1 < (fI σ 15 a0) → Aw Ω M_Dw_noteAt R F k n 12 [xr (some a0), xi v1, xi v2, xu, xu] [] σ)))))) : Aw Ω M_Dw_noteAt R F k n 0 [xr (some a0), xi v1, xi v2, xu, xu] [] σ := by
  refine Aw.iload_n rfl d_Dw_noteAt_0 ?_
  obtain ⟨o1, h⟩ := h
  obtain ⟨ht, hf⟩ := h
  refine Aw.if_lt (tgt := 12) o1 (by decide) d_Dw_noteAt_1 (fun c5 => ?_) (fun c5 => ?_)
  · have h := ht c5
    exact h
  · have h := hf c5
    refine Aw.iload_n rfl d_Dw_noteAt_4 ?_
    refine Aw.aload_n rfl d_Dw_noteAt_5 ?_
    obtain ⟨o2, h⟩ := h
    refine Aw.getI (f := 15) 0 15 fl_Dw_82 (by decide) (by decide) rfl rfl o2 d_Dw_noteAt_6 (fun r3 => ?_)
    have h := h r3
    obtain ⟨ht, hf⟩ := h
    refine Aw.icmp_lt (tgt := 23) o1 r3 (by decide) d_Dw_noteAt_9 (fun c4 => ?_) (fun c4 => ?_)
    · have h := ht c4
      refine Aw.aload_n rfl d_Dw_noteAt_23 ?_
      refine Aw.iload_n rfl d_Dw_noteAt_24 ?_
      exact h
    · have h := hf c4
      exact h
theorem b_Dw_noteAt_28 {Ω : Om} {R : Room} {F : QF} {k n : Nat} {σ : Sto} {a0 : Nat} {v1 : Int} {v2 : Int} {s0 : Nat} (h : sK σ s0 = 12 ∧ (∃ b2 : Nat, fR σ 704 s0 = some b2 ∧ Aw Ω M_Dw_noteAt R F k n 35 [xr (some a0), xi v1, xi v2, xr (some b2), xi 0] [] σ)) : Aw Ω M_Dw_noteAt R F k n 28 [xr (some a0), xi v1, xi v2, xu, xu] [xr (some s0)] σ := by
  obtain ⟨o1, h⟩ := h
  obtain ⟨b2, e3, h⟩ := h
  refine Aw.getRs (f := 704) 11 0 fl_Dw_99 (by decide) (by decide) rfl rfl o1 e3 d_Dw_noteAt_28 ?_
  refine Aw.astore_n (by decide) d_Dw_noteAt_31 ?_
  refine Aw.toL (L' := [xr (some a0), xi v1, xi v2, xr (some b2), xu]) rfl ?_
  refine Aw.iconst d_Dw_noteAt_32 ?_
  refine Aw.istore (by decide) d_Dw_noteAt_33 ?_
  refine Aw.toL (L' := [xr (some a0), xi v1, xi v2, xr (some b2), xi 0]) rfl ?_
  exact h
theorem b_Dw_noteAt_35 {Ω : Om} {R : Room} {F : QF} {k n : Nat} {σ : Sto} {a0 : Nat} {v1 : Int} {v2 : Int} {a3 : Nat} {v4 : Int} (h : Aw Ω M_Dw_noteAt R F k n 38 [xr (some a0), xi v1, xi v2, xr (some a3), xi v4] [xr (some a3), xi v4] σ) : Aw Ω M_Dw_noteAt R F k n 35 [xr (some a0), xi v1, xi v2, xr (some a3), xi v4] [] σ := by
  refine Aw.iload rfl d_Dw_noteAt_35 ?_
  refine Aw.aload_n rfl d_Dw_noteAt_37 ?_
  exact h
theorem b_Dw_noteAt_41 {Ω : Om} {R : Room} {F : QF} {k n : Nat} {σ : Sto} {a0 : Nat} {v1 : Int} {v2 : Int} {a3 : Nat} {v4 : Int} {s0 : Int} {s1 : Int} (h : Q32 s0 ∧ Q32 s1 ∧ ((s1 ≤ s0 → Aw Ω M_Dw_noteAt R F k n 76 [xr (some a0), xi v1, xi v2, xr (some a3), xi v4] [xi (-1)] σ) ∧ (¬ s1 ≤ s0 → sK σ a0 = 1 ∧ (∃ b4 : Nat, fR σ 4 a0 = some b4 ∧ Aw Ω M_Dw_noteAt R F k n 51 [xr (some a0), xi v1, xi v2, xr (some a3), xi v4] [xi v4, xr (some a3), xr (some b4)] σ)))) : Aw Ω M_Dw_noteAt R F k n 41 [xr (some a0), xi v1, xi v2, xr (some a3), xi v4] [xi s1, xi s0] σ := by
  obtain ⟨o1, h⟩ := h
  obtain ⟨o2, h⟩ := h
  obtain ⟨ht, hf⟩ := h
  refine Aw.icmp_ge (tgt := 75) o1 o2 (by decide) d_Dw_noteAt_41 (fun c6 => ?_) (fun c6 => ?_)
  · have h := ht c6
    refine Aw.iconst d_Dw_noteAt_75 ?_
    exact h
  · have h := hf c6
    refine Aw.aload_n rfl d_Dw_noteAt_44 ?_
    obtain ⟨o3, h⟩ := h
    obtain ⟨b4, e5, h⟩ := h
    refine Aw.getRs (f := 4) 0 4 fl_Dw_34 (by decide) (by decide) rfl rfl o3 e5 d_Dw_noteAt_45 ?_
    refine Aw.aload_n rfl d_Dw_noteAt_48 ?_
    refine Aw.iload rfl d_Dw_noteAt_49 ?_
    exact h
theorem b_Dw_noteAt_54 {Ω : Om} {R : Room} {F : QF} {k n : Nat} {σ : Sto} {a0 : Nat} {v1 : Int} {v2 : Int} {a3 : Nat} {v4 : Int} {s0 : Nat} {s1 : Int} (h : sK σ a0 = 1 ∧ (∃ b2 : Nat, fR σ 3 a0 = some b2 ∧ sK σ b2 = 50 ∧ 0 ≤ v1 ∧ v1 < sZ σ b2 ∧ (Q32 (aI σ b2 (v1).toNat) → Aw Ω M_Dw_noteAt R F k n 60 [xr (some a0), xi v1, xi v2, xr (some a3), xi v4] [xi (aI σ b2 (v1).toNat), xi s1, xr (some s0)] σ))) : Aw Ω M_Dw_noteAt R F k n 54 [xr (some a0), xi v1, xi v2, xr (some a3), xi v4] [xi s1, xr (some s0)] σ := by
  refine Aw.aload_n rfl d_Dw_noteAt_54 ?_
  obtain ⟨o1, h⟩ := h
  obtain ⟨b2, e3, h⟩ := h
  refine Aw.getRs (f := 3) 0 3 fl_Dw_27 (by decide) (by decide) rfl rfl o1 e3 d_Dw_noteAt_55 ?_
  refine Aw.iload_n rfl d_Dw_noteAt_58 ?_
  obtain ⟨o4, h⟩ := h
  obtain ⟨o5, o6, h⟩ := h
  refine Aw.iald o4 o5 o6 d_Dw_noteAt_59 (fun r7 => ?_)
  have h := h r7
  exact h
theorem b_Dw_noteAt_63 {Ω : Om} {R : Room} {F : QF} {k n : Nat} {σ : Sto} {a0 : Nat} {v1 : Int} {v2 : Int} {a3 : Nat} {v4 : Int} {s0 : Int} (h : Q32 s0 ∧ ((s0 = (0 : Int) → Aw Ω M_Dw_noteAt R F k n 35 [xr (some a0), xi v1, xi v2, xr (some a3), xi (v4 + 1)] [] σ) ∧ (¬ s0 = (0 : Int) → Aw Ω M_Dw_noteAt R F k n 68 [xr (some a0), xi v1, xi v2, xr (some a3), xi v4] [xi v4] σ))) : Aw Ω M_Dw_noteAt R F k n 63 [xr (some a0), xi v1, xi v2, xr (some a3), xi v4] [xi s0] σ := by
  obtain ⟨o1, h⟩ := h
  obtain ⟨ht, hf⟩ := h
  refine Aw.if_eq (tgt := 69) o1 (by decide) d_Dw_noteAt_63 (fun c2 => ?_) (fun c2 => ?_)
  · have h := ht c2
    refine Aw.iinc rfl d_Dw_noteAt_69 ?_
    refine Aw.toL (L' := [xr (some a0), xi v1, xi v2, xr (some a3), xi (v4 + 1)]) rfl ?_
    refine Aw.goto (tgt := 35) (by decide) d_Dw_noteAt_72 ?_
    exact h
  · have h := hf c2
    refine Aw.iload rfl d_Dw_noteAt_66 ?_
    exact h
theorem t_Dw_noteAt_12 {Ω : Om} {R : Room} {k n : Nat} {L : List PV} {σ : Sto} {QR : Option PV → Sto → Prop} {QX : String → Sto → Prop} {st : List PV} (hRf : 5 < R.frames) (hRl : (st.map catP).sum + 82 ≤ R.locals) (hc : k + 1 ≤ R.cells) (hs : n + 6 ≤ R.slots) (hx : ∀ n', sN σ ≤ n' → QX "java/lang/IndexOutOfBoundsException" (nX σ n')) : Aw Ω M_Dw_noteAt R (MF Ω R QR QX) k n 12 L st σ := Aw.throwSW (text := "there is no such note") rfl (by decide +kernel) exn_f cl_Dw_294 exi_IndexOutOfBoundsException (List.mem_of_getElem? (i := 1385) (by decide +kernel)) exa_Dw_298 exg_Dw_298 d_Dw_noteAt_12 d_Dw_noteAt_15 d_Dw_noteAt_16 d_Dw_noteAt_19 d_Dw_noteAt_22 hRf hRl hc hs hx
theorem c_Dw_noteAt_25 {Ω : Om} {R R' : Room} {F : QF} {k n : Nat} {L st : List PV} {σ : Sto} {QX' : String → Sto → Prop} {Q : Option Nat → Sto → Prop} {a : Nat} {x0 : Int} (hc : MC Ω M_Dw_versionAt R' (RR Q) QX' σ [xr (some a), xi x0]) (hk : sK σ a = 1) (hr1 : R'.frames + 1 ≤ R.frames) (hr2 : 8 + (2 + 11) + R'.locals ≤ R.locals) (hb1 : k + R'.cells ≤ R.cells) (hb2 : n + R'.slots ≤ R.slots) (hst : (st.map catP).sum ≤ 8) (kk : ∀ x σ', Q x σ' → Aw Ω M_Dw_noteAt R F (k + R'.cells) (n + R'.slots) 28 L (xr x :: st) σ') (kx : ∀ E σ', QX' E σ' → Ax Ω M_Dw_noteAt R F (k + R'.cells) (n + R'.slots) 25 L st σ' E) : Aw Ω M_Dw_noteAt R F k n 25 L (xi x0 :: xr (some a) :: st) σ :=
  Aw.callV (As := [xi x0]) (stk := xi x0 :: xr (some a) :: st) (nn := 1) 0 M_Dw_versionAt hc ok_Dw_versionAt rfl (by decide) rfl hk ml_Dw_91 im_Dw_versionAt se_Dw_versionAt ⟨hr1, hr2⟩ rfl ⟨hb1, hb2⟩ hst rfl d_Dw_noteAt_25 (fun r σ' h => by obtain ⟨x, rfl, h⟩ := h; exact kk x σ' h) kx
theorem c_Dw_noteAt_38 {Ω : Om} {R R' : Room} {F : QF} {k n : Nat} {L st : List PV} {σ : Sto} {QX' : String → Sto → Prop} {Q : Int → Sto → Prop} {a : Nat} (hc : MC Ω M_Txt_size R' (RI Q) QX' σ [xr (some a)]) (hk : sK σ a = 10) (hr1 : R'.frames + 1 ≤ R.frames) (hr2 : 8 + (1 + 11) + R'.locals ≤ R.locals) (hb1 : k + R'.cells ≤ R.cells) (hb2 : n + R'.slots ≤ R.slots) (hst : (st.map catP).sum ≤ 8) (kk : ∀ x σ', Q x σ' → Aw Ω M_Dw_noteAt R F (k + R'.cells) (n + R'.slots) 41 L (xi x :: st) σ') (kx : ∀ E σ', QX' E σ' → Ax Ω M_Dw_noteAt R F (k + R'.cells) (n + R'.slots) 38 L st σ' E) : Aw Ω M_Dw_noteAt R F k n 38 L (xr (some a) :: st) σ :=
  Aw.callV (As := []) (stk := xr (some a) :: st) (nn := 0) 9 M_Txt_size hc ok_Txt_size rfl (by decide) rfl hk ml_Dw_112 im_Txt_size se_Txt_size ⟨hr1, hr2⟩ rfl ⟨hb1, hb2⟩ hst rfl d_Dw_noteAt_38 (fun r σ' h => by obtain ⟨x, rfl, h⟩ := h; exact kk x σ' h) kx
theorem c_Dw_noteAt_51 {Ω : Om} {R R' : Room} {F : QF} {k n : Nat} {L st : List PV} {σ : Sto} {QX' : String → Sto → Prop} {Q : Int → Sto → Prop} {a : Nat} {x0 : Int} (hc : MC Ω M_Txt_nameAt R' (RI Q) QX' σ [xr (some a), xi x0]) (hk : sK σ a = 10) (hr1 : R'.frames + 1 ≤ R.frames) (hr2 : 8 + (2 + 11) + R'.locals ≤ R.locals) (hb1 : k + R'.cells ≤ R.cells) (hb2 : n + R'.slots ≤ R.slots) (hst : (st.map catP).sum ≤ 8) (kk : ∀ x σ', Q x σ' → Aw Ω M_Dw_noteAt R F (k + R'.cells) (n + R'.slots) 54 L (xi x :: st) σ') (kx : ∀ E σ', QX' E σ' → Ax Ω M_Dw_noteAt R F (k + R'.cells) (n + R'.slots) 51 L st σ' E) : Aw Ω M_Dw_noteAt R F k n 51 L (xi x0 :: xr (some a) :: st) σ :=
  Aw.callV (As := [xi x0]) (stk := xi x0 :: xr (some a) :: st) (nn := 1) 9 M_Txt_nameAt hc ok_Txt_nameAt rfl (by decide) rfl hk ml_Dw_156 im_Txt_nameAt se_Txt_nameAt ⟨hr1, hr2⟩ rfl ⟨hb1, hb2⟩ hst rfl d_Dw_noteAt_51 (fun r σ' h => by obtain ⟨x, rfl, h⟩ := h; exact kk x σ' h) kx
theorem c_Dw_noteAt_60 {Ω : Om} {R R' : Room} {F : QF} {k n : Nat} {L st : List PV} {σ : Sto} {QX' : String → Sto → Prop} {Q : Int → Sto → Prop} {a : Nat} {x0 : Int} {x1 : Int} (hc : MC Ω M_Lbk_isOrComesFrom R' (RI Q) QX' σ [xr (some a), xi x0, xi x1]) (hk : sK σ a = 7) (hr1 : R'.frames + 1 ≤ R.frames) (hr2 : 8 + (5 + 11) + R'.locals ≤ R.locals) (hb1 : k + R'.cells ≤ R.cells) (hb2 : n + R'.slots ≤ R.slots) (hst : (st.map catP).sum ≤ 8) (kk : ∀ x σ', Q x σ' → Aw Ω M_Dw_noteAt R F (k + R'.cells) (n + R'.slots) 63 L (xi x :: st) σ') (kx : ∀ E σ', QX' E σ' → Ax Ω M_Dw_noteAt R F (k + R'.cells) (n + R'.slots) 60 L st σ' E) : Aw Ω M_Dw_noteAt R F k n 60 L (xi x1 :: xi x0 :: xr (some a) :: st) σ :=
  Aw.callV (As := [xi x0, xi x1]) (stk := xi x1 :: xi x0 :: xr (some a) :: st) (nn := 2) 6 M_Lbk_isOrComesFrom hc ok_Lbk_isOrComesFrom rfl (by decide) rfl hk ml_Dw_312 im_Lbk_isOrComesFrom se_Lbk_isOrComesFrom ⟨hr1, hr2⟩ rfl ⟨hb1, hb2⟩ hst rfl d_Dw_noteAt_60 (fun r σ' h => by obtain ⟨x, rfl, h⟩ := h; exact kk x σ' h) kx
theorem r_Dw_noteAt_68 {Ω : Om} {R : Room} {k n : Nat} {L : List PV} {σ : Sto} {QR : Option PV → Sto → Prop} {QX : String → Sto → Prop} {x : Int} (h : QR (some (xi x)) σ) (h1 : k ≤ R.cells) (h2 : n ≤ R.slots) : Aw Ω M_Dw_noteAt R (MF Ω R QR QX) k n 68 L [xi x] σ := Aw.iret rfl h h1 h2 d_Dw_noteAt_68
theorem r_Dw_noteAt_76 {Ω : Om} {R : Room} {k n : Nat} {L : List PV} {σ : Sto} {QR : Option PV → Sto → Prop} {QX : String → Sto → Prop} {x : Int} (h : QR (some (xi x)) σ) (h1 : k ≤ R.cells) (h2 : n ≤ R.slots) : Aw Ω M_Dw_noteAt R (MF Ω R QR QX) k n 76 L [xi x] σ := Aw.iret rfl h h1 h2 d_Dw_noteAt_76
theorem e_Dw_pairOf {Ω : Om} {R : Room} {QR : Option PV → Sto → Prop} {QX : String → Sto → Prop} {σ : Sto} {a0 : Nat} {v1 : Int} (h : Aw Ω M_Dw_pairOf R (MF Ω R QR QX) 0 0 0 [xr (some a0), xi v1] [] σ) : MC Ω M_Dw_pairOf R QR QX σ [xr (some a0), xi v1] := MC.body (by decide +kernel) rfl (Nat.le_of_ble_eq_true rfl) rfl h
theorem b_Dw_pairOf_0 {Ω : Om} {R : Room} {F : QF} {k n : Nat} {σ : Sto} {a0 : Nat} {v1 : Int} (h : sK σ a0 = 1 ∧ (Q32 (fI σ 11 a0) → (((fI σ 11 a0) = (0 : Int) → Aw Ω M_Dw_pairOf R F k n 20 [xr (some a0), xi v1] [xi 0, xi v1, xr (some a0)] σ) ∧ (¬ (fI σ 11 a0) = (0 : Int) → (∃ b3 : Nat, fR σ 5 a0 = some b3 ∧ Aw Ω M_Dw_pairOf R F k n 13 [xr (some a0), xi v1] [xr (some b3), xi v1, xr (some a0)] σ))))) : Aw Ω M_Dw_pairOf R F k n 0 [xr (some a0), xi v1] [] σ := by
  refine Aw.aload_n rfl d_Dw_pairOf_0 ?_
  refine Aw.iload_n rfl d_Dw_pairOf_1 ?_
  refine Aw.aload_n rfl d_Dw_pairOf_2 ?_
  obtain ⟨o1, h⟩ := h
  refine Aw.getI (f := 11) 0 11 fl_Dw_69 (by decide) (by decide) rfl rfl o1 d_Dw_pairOf_3 (fun r2 => ?_)
  have h := h r2
  obtain ⟨ht, hf⟩ := h
  refine Aw.if_eq (tgt := 19) r2 (by decide) d_Dw_pairOf_6 (fun c5 => ?_) (fun c5 => ?_)
  · have h := ht c5
    refine Aw.iconst d_Dw_pairOf_19 ?_
    exact h
  · have h := hf c5
    refine Aw.aload_n rfl d_Dw_pairOf_9 ?_
    obtain ⟨b3, e4, h⟩ := h
    refine Aw.getRs (f := 5) 0 5 fl_Dw_41 (by decide) (by decide) rfl rfl o1 e4 d_Dw_pairOf_10 ?_
    exact h
theorem b_Dw_pairOf_16 {Ω : Om} {R : Room} {F : QF} {k n : Nat} {σ : Sto} {a0 : Nat} {v1 : Int} {s0 : Nat} {s1 : Int} {s2 : Int} (h : Aw Ω M_Dw_pairOf R F k n 20 [xr (some a0), xi v1] [xi s2, xi s1, xr (some s0)] σ) : Aw Ω M_Dw_pairOf R F k n 16 [xr (some a0), xi v1] [xi s2, xi s1, xr (some s0)] σ := by
  refine Aw.goto (tgt := 20) (by decide) d_Dw_pairOf_16 ?_
  exact h
theorem b_Dw_pairOf_23 {Ω : Om} {R : Room} {F : QF} {k n : Nat} {σ : Sto} {a0 : Nat} {v1 : Int} (h : sK σ a0 = 1 ∧ (∃ b2 : Nat, fR σ 5 a0 = some b2 ∧ Aw Ω M_Dw_pairOf R F k n 28 [xr (some a0), xi v1] [xi v1, xr (some b2)] σ)) : Aw Ω M_Dw_pairOf R F k n 23 [xr (some a0), xi v1] [] σ := by
  refine Aw.aload_n rfl d_Dw_pairOf_23 ?_
  obtain ⟨o1, h⟩ := h
  obtain ⟨b2, e3, h⟩ := h
  refine Aw.getRs (f := 5) 0 5 fl_Dw_41 (by decide) (by decide) rfl rfl o1 e3 d_Dw_pairOf_24 ?_
  refine Aw.iload_n rfl d_Dw_pairOf_27 ?_
  exact h
theorem c_Dw_pairOf_13 {Ω : Om} {R R' : Room} {F : QF} {k n : Nat} {L st : List PV} {σ : Sto} {QX' : String → Sto → Prop} {Q : Int → Sto → Prop} {a : Nat} (hc : MC Ω M_Cmp_size R' (RI Q) QX' σ [xr (some a)]) (hk : sK σ a = 2) (hr1 : R'.frames + 1 ≤ R.frames) (hr2 : 8 + (1 + 11) + R'.locals ≤ R.locals) (hb1 : k + R'.cells ≤ R.cells) (hb2 : n + R'.slots ≤ R.slots) (hst : (st.map catP).sum ≤ 8) (kk : ∀ x σ', Q x σ' → Aw Ω M_Dw_pairOf R F (k + R'.cells) (n + R'.slots) 16 L (xi x :: st) σ') (kx : ∀ E σ', QX' E σ' → Ax Ω M_Dw_pairOf R F (k + R'.cells) (n + R'.slots) 13 L st σ' E) : Aw Ω M_Dw_pairOf R F k n 13 L (xr (some a) :: st) σ :=
  Aw.callV (As := []) (stk := xr (some a) :: st) (nn := 0) 1 M_Cmp_size hc ok_Cmp_size rfl (by decide) rfl hk ml_Dw_226 im_Cmp_size se_Cmp_size ⟨hr1, hr2⟩ rfl ⟨hb1, hb2⟩ hst rfl d_Dw_pairOf_13 (fun r σ' h => by obtain ⟨x, rfl, h⟩ := h; exact kk x σ' h) kx
theorem c_Dw_pairOf_20 {Ω : Om} {R R' : Room} {F : QF} {k n : Nat} {L st : List PV} {σ : Sto} {QX' : String → Sto → Prop} {Q : Sto → Prop} {a : Nat} {x0 : Int} {x1 : Int} (hc : MC Ω M_Dw_checkPlace R' (RV Q) QX' σ [xr (some a), xi x0, xi x1]) (hk : sK σ a = 1) (hr1 : R'.frames + 1 ≤ R.frames) (hr2 : 8 + (3 + 11) + R'.locals ≤ R.locals) (hb1 : k + R'.cells ≤ R.cells) (hb2 : n + R'.slots ≤ R.slots) (hst : (st.map catP).sum ≤ 8) (kk : ∀ σ', Q σ' → Aw Ω M_Dw_pairOf R F (k + R'.cells) (n + R'.slots) 23 L st σ') (kx : ∀ E σ', QX' E σ' → Ax Ω M_Dw_pairOf R F (k + R'.cells) (n + R'.slots) 20 L st σ' E) : Aw Ω M_Dw_pairOf R F k n 20 L (xi x1 :: xi x0 :: xr (some a) :: st) σ :=
  Aw.callV (As := [xi x0, xi x1]) (stk := xi x1 :: xi x0 :: xr (some a) :: st) (nn := 2) 0 M_Dw_checkPlace hc ok_Dw_checkPlace rfl (by decide) rfl hk ml_Dw_121 im_Dw_checkPlace se_Dw_checkPlace ⟨hr1, hr2⟩ rfl ⟨hb1, hb2⟩ hst rfl d_Dw_pairOf_20 (fun r σ' h => by obtain ⟨rfl, h⟩ := h; exact kk σ' h) kx
theorem c_Dw_pairOf_28 {Ω : Om} {R R' : Room} {F : QF} {k n : Nat} {L st : List PV} {σ : Sto} {QX' : String → Sto → Prop} {Q : Int → Sto → Prop} {a : Nat} {x0 : Int} (hc : MC Ω M_Cmp_pairAt R' (RI Q) QX' σ [xr (some a), xi x0]) (hk : sK σ a = 2) (hr1 : R'.frames + 1 ≤ R.frames) (hr2 : 8 + (2 + 11) + R'.locals ≤ R.locals) (hb1 : k + R'.cells ≤ R.cells) (hb2 : n + R'.slots ≤ R.slots) (hst : (st.map catP).sum ≤ 8) (kk : ∀ x σ', Q x σ' → Aw Ω M_Dw_pairOf R F (k + R'.cells) (n + R'.slots) 31 L (xi x :: st) σ') (kx : ∀ E σ', QX' E σ' → Ax Ω M_Dw_pairOf R F (k + R'.cells) (n + R'.slots) 28 L st σ' E) : Aw Ω M_Dw_pairOf R F k n 28 L (xi x0 :: xr (some a) :: st) σ :=
  Aw.callV (As := [xi x0]) (stk := xi x0 :: xr (some a) :: st) (nn := 1) 1 M_Cmp_pairAt hc ok_Cmp_pairAt rfl (by decide) rfl hk ml_Dw_227 im_Cmp_pairAt se_Cmp_pairAt ⟨hr1, hr2⟩ rfl ⟨hb1, hb2⟩ hst rfl d_Dw_pairOf_28 (fun r σ' h => by obtain ⟨x, rfl, h⟩ := h; exact kk x σ' h) kx
theorem r_Dw_pairOf_31 {Ω : Om} {R : Room} {k n : Nat} {L : List PV} {σ : Sto} {QR : Option PV → Sto → Prop} {QX : String → Sto → Prop} {x : Int} (h : QR (some (xi x)) σ) (h1 : k ≤ R.cells) (h2 : n ≤ R.slots) : Aw Ω M_Dw_pairOf R (MF Ω R QR QX) k n 31 L [xi x] σ := Aw.iret rfl h h1 h2 d_Dw_pairOf_31
theorem e_Dw_patch {Ω : Om} {R : Room} {QR : Option PV → Sto → Prop} {QX : String → Sto → Prop} {σ : Sto} {a0 : Nat} {v1 : Int} {v2 : Int} {v3 : Int} (h : Aw Ω M_Dw_patch R (MF Ω R QR QX) 0 0 0 [xr (some a0), xi v1, xi v2, xi v3, xu, xu] [] σ) : MC Ω M_Dw_patch R QR QX σ [xr (some a0), xi v1, xi v2, xi v3] := MC.body (by decide +kernel) rfl (Nat.le_of_ble_eq_true rfl) rfl h
theorem b_Dw_patch_0 {Ω : Om} {R : Room} {F : QF} {k n : Nat} {σ : Sto} {a0 : Nat} {v1 : Int} {v2 : Int} {v3 : Int} (h : Aw Ω M_Dw_patch R F k n 2 [xr (some a0), xi v1, xi v2, xi v3, xu, xu] [xi v1, xr (some a0)] σ) : Aw Ω M_Dw_patch R F k n 0 [xr (some a0), xi v1, xi v2, xi v3, xu, xu] [] σ := by
  refine Aw.aload_n rfl d_Dw_patch_0 ?_
  refine Aw.iload_n rfl d_Dw_patch_1 ?_
  exact h
theorem b_Dw_patch_5 {Ω : Om} {R : Room} {F : QF} {k n : Nat} {σ : Sto} {a0 : Nat} {v1 : Int} {v2 : Int} {v3 : Int} {s0 : Nat} (h : sK σ s0 = 12 ∧ (∃ b2 : Nat, fR σ 704 s0 = some b2 ∧ Aw Ω M_Dw_patch R F k n 12 [xr (some a0), xi v1, xi v2, xi v3, xr (some b2), xu] [xi v2, xr (some a0)] σ)) : Aw Ω M_Dw_patch R F k n 5 [xr (some a0), xi v1, xi v2, xi v3, xu, xu] [xr (some s0)] σ := by
  obtain ⟨o1, h⟩ := h
  obtain ⟨b2, e3, h⟩ := h
  refine Aw.getRs (f := 704) 11 0 fl_Dw_99 (by decide) (by decide) rfl rfl o1 e3 d_Dw_patch_5 ?_
  refine Aw.astore (by decide) d_Dw_patch_8 ?_
  refine Aw.toL (L' := [xr (some a0), xi v1, xi v2, xi v3, xr (some b2), xu]) rfl ?_
  refine Aw.aload_n rfl d_Dw_patch_10 ?_
  refine Aw.iload_n rfl d_Dw_patch_11 ?_
  exact h
theorem b_Dw_patch_15 {Ω : Om} {R : Room} {F : QF} {k n : Nat} {σ : Sto} {a0 : Nat} {v1 : Int} {v2 : Int} {v3 : Int} {a4 : Nat} {s0 : Nat} (h : sK σ s0 = 12 ∧ (∃ b2 : Nat, fR σ 704 s0 = some b2 ∧ Q32 v3 ∧ ((v3 < (0 : Int) → Aw Ω M_Dw_patch R F k n 29 [xr (some a0), xi v1, xi v2, xi v3, xr (some a4), xr (some b2)] [] σ) ∧ (¬ v3 < (0 : Int) → ((v3 ≤ (3 : Int) → Aw Ω M_Dw_patch R F k n 41 [xr (some a0), xi v1, xi v2, xi v3, xr (some a4), xr (some b2)] [xr (some a0)] σ) ∧ (¬ v3 ≤ (3 : Int) → Aw Ω M_Dw_patch R F k n 29 [xr (some a0), xi v1, xi v2, xi v3, xr (some a4), xr (some b2)] [] σ)))))) : Aw Ω M_Dw_patch R F k n 15 [xr (some a0), xi v1, xi v2, xi v3, xr (some a4), xu] [xr (some s0)] σ := by
  obtain ⟨o1, h⟩ := h
  obtain ⟨b2, e3, h⟩ := h
  refine Aw.getRs (f := 704) 11 0 fl_Dw_99 (by decide) (by decide) rfl rfl o1 e3 d_Dw_patch_15 ?_
  refine Aw.astore (by decide) d_Dw_patch_18 ?_
  refine Aw.toL (L' := [xr (some a0), xi v1, xi v2, xi v3, xr (some a4), xr (some b2)]) rfl ?_
  refine Aw.iload_n rfl d_Dw_patch_20 ?_
  obtain ⟨o4, h⟩ := h
  obtain ⟨ht, hf⟩ := h
  refine Aw.if_lt (tgt := 29) o4 (by decide) d_Dw_patch_21 (fun c6 => ?_) (fun c6 => ?_)
  · have h := ht c6
    exact h
  · have h := hf c6
    refine Aw.iload_n rfl d_Dw_patch_24 ?_
    refine Aw.iconst d_Dw_patch_25 ?_
    obtain ⟨ht, hf⟩ := h
    refine Aw.icmp_le (tgt := 40) o4 ⟨by decide, by decide⟩ (by decide) d_Dw_patch_26 (fun c5 => ?_) (fun c5 => ?_)
    · have h := ht c5
      refine Aw.aload_n rfl d_Dw_patch_40 ?_
      exact h
    · have h := hf c5
      exact h
theorem b_Dw_patch_44 {Ω : Om} {R : Room} {F : QF} {k n : Nat} {σ : Sto} {a0 : Nat} {v1 : Int} {v2 : Int} {v3 : Int} {a4 : Nat} {a5 : Nat} (h : sK σ a0 = 1 ∧ (∃ b2 : Nat, fR σ 6 a0 = some b2 ∧ Aw Ω M_Dw_patch R F k n 53 [xr (some a0), xi v1, xi v2, xi v3, xr (some a4), xr (some a5)] [xi 0, xr (some a5), xr (some a4), xr (some b2)] σ)) : Aw Ω M_Dw_patch R F k n 44 [xr (some a0), xi v1, xi v2, xi v3, xr (some a4), xr (some a5)] [] σ := by
  refine Aw.aload_n rfl d_Dw_patch_44 ?_
  obtain ⟨o1, h⟩ := h
  obtain ⟨b2, e3, h⟩ := h
  refine Aw.getRs (f := 6) 0 6 fl_Dw_45 (by decide) (by decide) rfl rfl o1 e3 d_Dw_patch_45 ?_
  refine Aw.aload rfl d_Dw_patch_48 ?_
  refine Aw.aload rfl d_Dw_patch_50 ?_
  refine Aw.iconst d_Dw_patch_52 ?_
  exact h
theorem b_Dw_patch_56 {Ω : Om} {R : Room} {F : QF} {k n : Nat} {σ : Sto} {a0 : Nat} {v1 : Int} {v2 : Int} {v3 : Int} {a4 : Nat} {a5 : Nat} (h : sK σ a0 = 1 ∧ (∃ b2 : Nat, fR σ 1 a0 = some b2 ∧ (Q32 (fI σ 13 a0) → sK σ b2 = 56 ∧ 0 ≤ (fI σ 13 a0) ∧ (fI σ 13 a0) < sZ σ b2 ∧ (∃ b8 : Nat, fR σ 6 a0 = some b8 ∧ Aw Ω M_Dw_patch R F k n 74 [xr (some a0), xi v1, xi v2, xi v3, xr (some a4), xr (some a5)] [xi v3, xr (some b8), xr (some a5), xr (some a4), xr (aR σ b2 (fI σ 13 a0).toNat)] σ)))) : Aw Ω M_Dw_patch R F k n 56 [xr (some a0), xi v1, xi v2, xi v3, xr (some a4), xr (some a5)] [] σ := by
  refine Aw.aload_n rfl d_Dw_patch_56 ?_
  obtain ⟨o1, h⟩ := h
  obtain ⟨b2, e3, h⟩ := h
  refine Aw.getRs (f := 1) 0 1 fl_Dw_17 (by decide) (by decide) rfl rfl o1 e3 d_Dw_patch_57 ?_
  refine Aw.aload_n rfl d_Dw_patch_60 ?_
  refine Aw.getI (f := 13) 0 13 fl_Dw_76 (by decide) (by decide) rfl rfl o1 d_Dw_patch_61 (fun r4 => ?_)
  have h := h r4
  obtain ⟨o5, h⟩ := h
  obtain ⟨o6, o7, h⟩ := h
  refine Aw.aald 6 (by decide) (by decide) o5 o6 o7 d_Dw_patch_64 ?_
  refine Aw.aload rfl d_Dw_patch_65 ?_
  refine Aw.aload rfl d_Dw_patch_67 ?_
  refine Aw.aload_n rfl d_Dw_patch_69 ?_
  obtain ⟨b8, e9, h⟩ := h
  refine Aw.getRs (f := 6) 0 6 fl_Dw_45 (by decide) (by decide) rfl rfl o1 e9 d_Dw_patch_70 ?_
  refine Aw.iload_n rfl d_Dw_patch_73 ?_
  exact h
theorem b_Dw_patch_77 {Ω : Om} {R : Room} {F : QF} {k n : Nat} {σ : Sto} {a0 : Nat} {v1 : Int} {v2 : Int} {v3 : Int} {a4 : Nat} {a5 : Nat} (h : sK σ a0 = 1 ∧ (Q32 (fI σ 13 a0) → Q32 ((fI σ 13 a0) + 1) ∧ (Q32 (fI (uI σ 13 a0 ((fI σ 13 a0) + 1)) 13 a0) → Aw Ω M_Dw_patch R F k n 93 [xr (some a0), xi v1, xi v2, xi v3, xr (some a4), xr (some a5)] [xi ((fI (uI σ 13 a0 ((fI σ 13 a0) + 1)) 13 a0) - 1)] (uI σ 13 a0 ((fI σ 13 a0) + 1))))) : Aw Ω M_Dw_patch R F k n 77 [xr (some a0), xi v1, xi v2, xi v3, xr (some a4), xr (some a5)] [] σ := by
  refine Aw.aload_n rfl d_Dw_patch_77 ?_
  refine Aw.dup rfl d_Dw_patch_78 ?_
  obtain ⟨o1, h⟩ := h
  refine Aw.getI (f := 13) 0 13 fl_Dw_76 (by decide) (by decide) rfl rfl o1 d_Dw_patch_79 (fun r2 => ?_)
  have h := h r2
  refine Aw.iconst d_Dw_patch_82 ?_
  refine Aw.iadd d_Dw_patch_83 ?_
  obtain ⟨o3, h⟩ := h
  refine Aw.putI (f := 13) 0 13 fl_Dw_76 (by decide) (by decide) rfl rfl o1 rfl o3 (Or.inl rfl) d_Dw_patch_84 ?_
  refine Aw.aload_n rfl d_Dw_patch_87 ?_
  refine Aw.getI (f := 13) 0 13 fl_Dw_76 (by decide) (by decide) rfl rfl o1 d_Dw_patch_88 (fun r4 => ?_)
  have h := h r4
  refine Aw.iconst d_Dw_patch_91 ?_
  refine Aw.isub d_Dw_patch_92 ?_
  exact h
theorem c_Dw_patch_2 {Ω : Om} {R R' : Room} {F : QF} {k n : Nat} {L st : List PV} {σ : Sto} {QX' : String → Sto → Prop} {Q : Option Nat → Sto → Prop} {a : Nat} {x0 : Int} (hc : MC Ω M_Dw_versionAt R' (RR Q) QX' σ [xr (some a), xi x0]) (hk : sK σ a = 1) (hr1 : R'.frames + 1 ≤ R.frames) (hr2 : 8 + (2 + 11) + R'.locals ≤ R.locals) (hb1 : k + R'.cells ≤ R.cells) (hb2 : n + R'.slots ≤ R.slots) (hst : (st.map catP).sum ≤ 8) (kk : ∀ x σ', Q x σ' → Aw Ω M_Dw_patch R F (k + R'.cells) (n + R'.slots) 5 L (xr x :: st) σ') (kx : ∀ E σ', QX' E σ' → Ax Ω M_Dw_patch R F (k + R'.cells) (n + R'.slots) 2 L st σ' E) : Aw Ω M_Dw_patch R F k n 2 L (xi x0 :: xr (some a) :: st) σ :=
  Aw.callV (As := [xi x0]) (stk := xi x0 :: xr (some a) :: st) (nn := 1) 0 M_Dw_versionAt hc ok_Dw_versionAt rfl (by decide) rfl hk ml_Dw_91 im_Dw_versionAt se_Dw_versionAt ⟨hr1, hr2⟩ rfl ⟨hb1, hb2⟩ hst rfl d_Dw_patch_2 (fun r σ' h => by obtain ⟨x, rfl, h⟩ := h; exact kk x σ' h) kx
theorem c_Dw_patch_12 {Ω : Om} {R R' : Room} {F : QF} {k n : Nat} {L st : List PV} {σ : Sto} {QX' : String → Sto → Prop} {Q : Option Nat → Sto → Prop} {a : Nat} {x0 : Int} (hc : MC Ω M_Dw_versionAt R' (RR Q) QX' σ [xr (some a), xi x0]) (hk : sK σ a = 1) (hr1 : R'.frames + 1 ≤ R.frames) (hr2 : 8 + (2 + 11) + R'.locals ≤ R.locals) (hb1 : k + R'.cells ≤ R.cells) (hb2 : n + R'.slots ≤ R.slots) (hst : (st.map catP).sum ≤ 8) (kk : ∀ x σ', Q x σ' → Aw Ω M_Dw_patch R F (k + R'.cells) (n + R'.slots) 15 L (xr x :: st) σ') (kx : ∀ E σ', QX' E σ' → Ax Ω M_Dw_patch R F (k + R'.cells) (n + R'.slots) 12 L st σ' E) : Aw Ω M_Dw_patch R F k n 12 L (xi x0 :: xr (some a) :: st) σ :=
  Aw.callV (As := [xi x0]) (stk := xi x0 :: xr (some a) :: st) (nn := 1) 0 M_Dw_versionAt hc ok_Dw_versionAt rfl (by decide) rfl hk ml_Dw_91 im_Dw_versionAt se_Dw_versionAt ⟨hr1, hr2⟩ rfl ⟨hb1, hb2⟩ hst rfl d_Dw_patch_12 (fun r σ' h => by obtain ⟨x, rfl, h⟩ := h; exact kk x σ' h) kx
theorem t_Dw_patch_29 {Ω : Om} {R : Room} {k n : Nat} {L : List PV} {σ : Sto} {QR : Option PV → Sto → Prop} {QX : String → Sto → Prop} {st : List PV} (hRf : 5 < R.frames) (hRl : (st.map catP).sum + 82 ≤ R.locals) (hc : k + 1 ≤ R.cells) (hs : n + 6 ≤ R.slots) (hx : ∀ n', sN σ ≤ n' → QX "java/lang/IllegalArgumentException" (nX σ n')) : Aw Ω M_Dw_patch R (MF Ω R QR QX) k n 29 L st σ := Aw.throwSW (text := "the context is out of range") rfl (by decide +kernel) exn_f cl_Dw_241 exi_IllegalArgumentException (List.mem_of_getElem? (i := 1272) (by decide +kernel)) exa_Dw_245 exg_Dw_245 d_Dw_patch_29 d_Dw_patch_32 d_Dw_patch_33 d_Dw_patch_36 d_Dw_patch_39 hRf hRl hc hs hx
theorem c_Dw_patch_41 {Ω : Om} {R R' : Room} {F : QF} {k n : Nat} {L st : List PV} {σ : Sto} {QX' : String → Sto → Prop} {Q : Sto → Prop} {a : Nat} (hc : MC Ω M_Dw_checkPatchRoom R' (RV Q) QX' σ [xr (some a)]) (hk : sK σ a = 1) (hr1 : R'.frames + 1 ≤ R.frames) (hr2 : 8 + (1 + 11) + R'.locals ≤ R.locals) (hb1 : k + R'.cells ≤ R.cells) (hb2 : n + R'.slots ≤ R.slots) (hst : (st.map catP).sum ≤ 8) (kk : ∀ σ', Q σ' → Aw Ω M_Dw_patch R F (k + R'.cells) (n + R'.slots) 44 L st σ') (kx : ∀ E σ', QX' E σ' → Ax Ω M_Dw_patch R F (k + R'.cells) (n + R'.slots) 41 L st σ' E) : Aw Ω M_Dw_patch R F k n 41 L (xr (some a) :: st) σ :=
  Aw.callV (As := []) (stk := xr (some a) :: st) (nn := 0) 0 M_Dw_checkPatchRoom hc ok_Dw_checkPatchRoom rfl (by decide) rfl hk ml_Dw_275 im_Dw_checkPatchRoom se_Dw_checkPatchRoom ⟨hr1, hr2⟩ rfl ⟨hb1, hb2⟩ hst rfl d_Dw_patch_41 (fun r σ' h => by obtain ⟨rfl, h⟩ := h; exact kk σ' h) kx
theorem c_Dw_patch_53 {Ω : Om} {R R' : Room} {F : QF} {k n : Nat} {L st : List PV} {σ : Sto} {QX' : String → Sto → Prop} {Q : Sto → Prop} {a : Nat} {x0 : Option Nat} {x1 : Option Nat} {x2 : Int} (hc : MC Ω M_Cmp_pairUp R' (RV Q) QX' σ [xr (some a), xr x0, xr x1, xi x2]) (hk : sK σ a = 2) (hr1 : R'.frames + 1 ≤ R.frames) (hr2 : 8 + (4 + 11) + R'.locals ≤ R.locals) (hb1 : k + R'.cells ≤ R.cells) (hb2 : n + R'.slots ≤ R.slots) (hst : (st.map catP).sum ≤ 8) (kk : ∀ σ', Q σ' → Aw Ω M_Dw_patch R F (k + R'.cells) (n + R'.slots) 56 L st σ') (kx : ∀ E σ', QX' E σ' → Ax Ω M_Dw_patch R F (k + R'.cells) (n + R'.slots) 53 L st σ' E) : Aw Ω M_Dw_patch R F k n 53 L (xi x2 :: xr x1 :: xr x0 :: xr (some a) :: st) σ :=
  Aw.callV (As := [xr x0, xr x1, xi x2]) (stk := xi x2 :: xr x1 :: xr x0 :: xr (some a) :: st) (nn := 3) 1 M_Cmp_pairUp hc ok_Cmp_pairUp rfl (by decide) rfl hk ml_Dw_216 im_Cmp_pairUp se_Cmp_pairUp ⟨hr1, hr2⟩ rfl ⟨hb1, hb2⟩ hst rfl d_Dw_patch_53 (fun r σ' h => by obtain ⟨rfl, h⟩ := h; exact kk σ' h) kx
theorem c_Dw_patch_74 {Ω : Om} {R R' : Room} {F : QF} {k n : Nat} {L st : List PV} {σ : Sto} {QX' : String → Sto → Prop} {Q : Sto → Prop} {a : Nat} {x0 : Option Nat} {x1 : Option Nat} {x2 : Option Nat} {x3 : Int} (hc : MC Ω M_Pat_fill R' (RV Q) QX' σ [xr (some a), xr x0, xr x1, xr x2, xi x3]) (hk : sK σ a = 8) (hr1 : R'.frames + 1 ≤ R.frames) (hr2 : 8 + (11 + 11) + R'.locals ≤ R.locals) (hb1 : k + R'.cells ≤ R.cells) (hb2 : n + R'.slots ≤ R.slots) (hst : (st.map catP).sum ≤ 8) (kk : ∀ σ', Q σ' → Aw Ω M_Dw_patch R F (k + R'.cells) (n + R'.slots) 77 L st σ') (kx : ∀ E σ', QX' E σ' → Ax Ω M_Dw_patch R F (k + R'.cells) (n + R'.slots) 74 L st σ' E) : Aw Ω M_Dw_patch R F k n 74 L (xi x3 :: xr x2 :: xr x1 :: xr x0 :: xr (some a) :: st) σ :=
  Aw.callV (As := [xr x0, xr x1, xr x2, xi x3]) (stk := xi x3 :: xr x2 :: xr x1 :: xr x0 :: xr (some a) :: st) (nn := 4) 7 M_Pat_fill hc ok_Pat_fill rfl (by decide) rfl hk ml_Dw_278 im_Pat_fill se_Pat_fill ⟨hr1, hr2⟩ rfl ⟨hb1, hb2⟩ hst rfl d_Dw_patch_74 (fun r σ' h => by obtain ⟨rfl, h⟩ := h; exact kk σ' h) kx
theorem r_Dw_patch_93 {Ω : Om} {R : Room} {k n : Nat} {L : List PV} {σ : Sto} {QR : Option PV → Sto → Prop} {QX : String → Sto → Prop} {x : Int} (h : QR (some (xi x)) σ) (h1 : k ≤ R.cells) (h2 : n ≤ R.slots) : Aw Ω M_Dw_patch R (MF Ω R QR QX) k n 93 L [xi x] σ := Aw.iret rfl h h1 h2 d_Dw_patch_93
theorem e_Dw_patchAt {Ω : Om} {R : Room} {QR : Option PV → Sto → Prop} {QX : String → Sto → Prop} {σ : Sto} {a0 : Nat} {v1 : Int} (h : Aw Ω M_Dw_patchAt R (MF Ω R QR QX) 0 0 0 [xr (some a0), xi v1] [] σ) : MC Ω M_Dw_patchAt R QR QX σ [xr (some a0), xi v1] := MC.body (by decide +kernel) rfl (Nat.le_of_ble_eq_true rfl) rfl h
theorem b_Dw_patchAt_0 {Ω : Om} {R : Room} {F : QF} {k n : Nat} {σ : Sto} {a0 : Nat} {v1 : Int} (h : Q32 v1 ∧ ((v1 < (0 : Int) → Aw Ω M_Dw_patchAt R F k n 12 [xr (some a0), xi v1] [] σ) ∧ (¬ v1 < (0 : Int) → sK σ a0 = 1 ∧ (Q32 (fI σ 13 a0) → ((v1 < (fI σ 13 a0) → (∃ b4 : Nat, fR σ 1 a0 = some b4 ∧ sK σ b4 = 56 ∧ 0 ≤ v1 ∧ v1 < sZ σ b4 ∧ Aw Ω M_Dw_patchAt R F k n 29 [xr (some a0), xi v1] [xr (aR σ b4 (v1).toNat)] σ)) ∧ (¬ v1 < (fI σ 13 a0) → Aw Ω M_Dw_patchAt R F k n 12 [xr (some a0), xi v1] [] σ)))))) : Aw Ω M_Dw_patchAt R F k n 0 [xr (some a0), xi v1] [] σ := by
  refine Aw.iload_n rfl d_Dw_patchAt_0 ?_
  obtain ⟨o1, h⟩ := h
  obtain ⟨ht, hf⟩ := h
  refine Aw.if_lt (tgt := 12) o1 (by decide) d_Dw_patchAt_1 (fun c10 => ?_) (fun c10 => ?_)
  · have h := ht c10
    exact h
  · have h := hf c10
    refine Aw.iload_n rfl d_Dw_patchAt_4 ?_
    refine Aw.aload_n rfl d_Dw_patchAt_5 ?_
    obtain ⟨o2, h⟩ := h
    refine Aw.getI (f := 13) 0 13 fl_Dw_76 (by decide) (by decide) rfl rfl o2 d_Dw_patchAt_6 (fun r3 => ?_)
    have h := h r3
    obtain ⟨ht, hf⟩ := h
    refine Aw.icmp_lt (tgt := 23) o1 r3 (by decide) d_Dw_patchAt_9 (fun c9 => ?_) (fun c9 => ?_)
    · have h := ht c9
      refine Aw.aload_n rfl d_Dw_patchAt_23 ?_
      obtain ⟨b4, e5, h⟩ := h
      refine Aw.getRs (f := 1) 0 1 fl_Dw_17 (by decide) (by decide) rfl rfl o2 e5 d_Dw_patchAt_24 ?_
      refine Aw.iload_n rfl d_Dw_patchAt_27 ?_
      obtain ⟨o6, h⟩ := h
      obtain ⟨o7, o8, h⟩ := h
      refine Aw.aald 6 (by decide) (by decide) o6 o7 o8 d_Dw_patchAt_28 ?_
      exact h
    · have h := hf c9
      exact h
theorem t_Dw_patchAt_12 {Ω : Om} {R : Room} {k n : Nat} {L : List PV} {σ : Sto} {QR : Option PV → Sto → Prop} {QX : String → Sto → Prop} {st : List PV} (hRf : 5 < R.frames) (hRl : (st.map catP).sum + 82 ≤ R.locals) (hc : k + 1 ≤ R.cells) (hs : n + 6 ≤ R.slots) (hx : ∀ n', sN σ ≤ n' → QX "java/lang/IndexOutOfBoundsException" (nX σ n')) : Aw Ω M_Dw_patchAt R (MF Ω R QR QX) k n 12 L st σ := Aw.throwSW (text := "there is no such patch") rfl (by decide +kernel) exn_f cl_Dw_294 exi_IndexOutOfBoundsException (List.mem_of_getElem? (i := 1337) (by decide +kernel)) exa_Dw_298 exg_Dw_298 d_Dw_patchAt_12 d_Dw_patchAt_15 d_Dw_patchAt_16 d_Dw_patchAt_19 d_Dw_patchAt_22 hRf hRl hc hs hx
theorem r_Dw_patchAt_29 {Ω : Om} {R : Room} {k n : Nat} {L : List PV} {σ : Sto} {QR : Option PV → Sto → Prop} {QX : String → Sto → Prop} {x : Option Nat} (h : QR (some (xr x)) σ) (h1 : k ≤ R.cells) (h2 : n ≤ R.slots) : Aw Ω M_Dw_patchAt R (MF Ω R QR QX) k n 29 L [xr x] σ := Aw.aret rfl (by first | exact Or.inl ⟨_, rfl⟩ | exact Or.inr ⟨_, rfl⟩) h h1 h2 d_Dw_patchAt_29
theorem e_Dw_pieceOf {Ω : Om} {R : Room} {QR : Option PV → Sto → Prop} {QX : String → Sto → Prop} {σ : Sto} {a0 : Nat} {v1 : Int} {v2 : Int} (h : Aw Ω M_Dw_pieceOf R (MF Ω R QR QX) 0 0 0 [xr (some a0), xi v1, xi v2] [] σ) : MC Ω M_Dw_pieceOf R QR QX σ [xr (some a0), xi v1, xi v2] := MC.body (by decide +kernel) rfl (Nat.le_of_ble_eq_true rfl) rfl h
theorem b_Dw_pieceOf_0 {Ω : Om} {R : Room} {F : QF} {k n : Nat} {σ : Sto} {a0 : Nat} {v1 : Int} {v2 : Int} (h : Aw Ω M_Dw_pieceOf R F k n 2 [xr (some a0), xi v1, xi v2] [xi v1, xr (some a0)] σ) : Aw Ω M_Dw_pieceOf R F k n 0 [xr (some a0), xi v1, xi v2] [] σ := by
  refine Aw.aload_n rfl d_Dw_pieceOf_0 ?_
  refine Aw.iload_n rfl d_Dw_pieceOf_1 ?_
  exact h
theorem b_Dw_pieceOf_5 {Ω : Om} {R : Room} {F : QF} {k n : Nat} {σ : Sto} {a0 : Nat} {v1 : Int} {v2 : Int} (h : Q32 v2 ∧ ((v2 < (0 : Int) → Aw Ω M_Dw_pieceOf R F k n 14 [xr (some a0), xi v1, xi v2] [] σ) ∧ (¬ v2 < (0 : Int) → ((v2 ≤ (2 : Int) → sK σ a0 = 1 ∧ (∃ b3 : Nat, fR σ 8 a0 = some b3 ∧ Aw Ω M_Dw_pieceOf R F k n 31 [xr (some a0), xi v1, xi v2] [xi v2, xi v1, xr (some b3)] σ)) ∧ (¬ v2 ≤ (2 : Int) → Aw Ω M_Dw_pieceOf R F k n 14 [xr (some a0), xi v1, xi v2] [] σ))))) : Aw Ω M_Dw_pieceOf R F k n 5 [xr (some a0), xi v1, xi v2] [] σ := by
  refine Aw.iload_n rfl d_Dw_pieceOf_5 ?_
  obtain ⟨o1, h⟩ := h
  obtain ⟨ht, hf⟩ := h
  refine Aw.if_lt (tgt := 14) o1 (by decide) d_Dw_pieceOf_6 (fun c6 => ?_) (fun c6 => ?_)
  · have h := ht c6
    exact h
  · have h := hf c6
    refine Aw.iload_n rfl d_Dw_pieceOf_9 ?_
    refine Aw.iconst d_Dw_pieceOf_10 ?_
    obtain ⟨ht, hf⟩ := h
    refine Aw.icmp_le (tgt := 25) o1 ⟨by decide, by decide⟩ (by decide) d_Dw_pieceOf_11 (fun c5 => ?_) (fun c5 => ?_)
    · have h := ht c5
      refine Aw.aload_n rfl d_Dw_pieceOf_25 ?_
      obtain ⟨o2, h⟩ := h
      obtain ⟨b3, e4, h⟩ := h
      refine Aw.getRs (f := 8) 0 8 fl_Dw_58 (by decide) (by decide) rfl rfl o2 e4 d_Dw_pieceOf_26 ?_
      refine Aw.iload_n rfl d_Dw_pieceOf_29 ?_
      refine Aw.iload_n rfl d_Dw_pieceOf_30 ?_
      exact h
    · have h := hf c5
      exact h
theorem c_Dw_pieceOf_2 {Ω : Om} {R R' : Room} {F : QF} {k n : Nat} {L st : List PV} {σ : Sto} {QX' : String → Sto → Prop} {Q : Sto → Prop} {a : Nat} {x0 : Int} (hc : MC Ω M_Dw_checkConflict R' (RV Q) QX' σ [xr (some a), xi x0]) (hk : sK σ a = 1) (hr1 : R'.frames + 1 ≤ R.frames) (hr2 : 8 + (2 + 11) + R'.locals ≤ R.locals) (hb1 : k + R'.cells ≤ R.cells) (hb2 : n + R'.slots ≤ R.slots) (hst : (st.map catP).sum ≤ 8) (kk : ∀ σ', Q σ' → Aw Ω M_Dw_pieceOf R F (k + R'.cells) (n + R'.slots) 5 L st σ') (kx : ∀ E σ', QX' E σ' → Ax Ω M_Dw_pieceOf R F (k + R'.cells) (n + R'.slots) 2 L st σ' E) : Aw Ω M_Dw_pieceOf R F k n 2 L (xi x0 :: xr (some a) :: st) σ :=
  Aw.callV (As := [xi x0]) (stk := xi x0 :: xr (some a) :: st) (nn := 1) 0 M_Dw_checkConflict hc ok_Dw_checkConflict rfl (by decide) rfl hk ml_Dw_255 im_Dw_checkConflict se_Dw_checkConflict ⟨hr1, hr2⟩ rfl ⟨hb1, hb2⟩ hst rfl d_Dw_pieceOf_2 (fun r σ' h => by obtain ⟨rfl, h⟩ := h; exact kk σ' h) kx
theorem t_Dw_pieceOf_14 {Ω : Om} {R : Room} {k n : Nat} {L : List PV} {σ : Sto} {QR : Option PV → Sto → Prop} {QX : String → Sto → Prop} {st : List PV} (hRf : 5 < R.frames) (hRl : (st.map catP).sum + 82 ≤ R.locals) (hc : k + 1 ≤ R.cells) (hs : n + 6 ≤ R.slots) (hx : ∀ n', sN σ ≤ n' → QX "java/lang/IllegalArgumentException" (nX σ n')) : Aw Ω M_Dw_pieceOf R (MF Ω R QR QX) k n 14 L st σ := Aw.throwSW (text := "there is no such piece") rfl (by decide +kernel) exn_f cl_Dw_241 exi_IllegalArgumentException (List.mem_of_getElem? (i := 1253) (by decide +kernel)) exa_Dw_245 exg_Dw_245 d_Dw_pieceOf_14 d_Dw_pieceOf_17 d_Dw_pieceOf_18 d_Dw_pieceOf_21 d_Dw_pieceOf_24 hRf hRl hc hs hx
theorem c_Dw_pieceOf_31 {Ω : Om} {R R' : Room} {F : QF} {k n : Nat} {L st : List PV} {σ : Sto} {QX' : String → Sto → Prop} {Q : Int → Sto → Prop} {a : Nat} {x0 : Int} {x1 : Int} (hc : MC Ω M_Drf_linesPut R' (RI Q) QX' σ [xr (some a), xi x0, xi x1]) (hk : sK σ a = 4) (hr1 : R'.frames + 1 ≤ R.frames) (hr2 : 8 + (4 + 11) + R'.locals ≤ R.locals) (hb1 : k + R'.cells ≤ R.cells) (hb2 : n + R'.slots ≤ R.slots) (hst : (st.map catP).sum ≤ 8) (kk : ∀ x σ', Q x σ' → Aw Ω M_Dw_pieceOf R F (k + R'.cells) (n + R'.slots) 34 L (xi x :: st) σ') (kx : ∀ E σ', QX' E σ' → Ax Ω M_Dw_pieceOf R F (k + R'.cells) (n + R'.slots) 31 L st σ' E) : Aw Ω M_Dw_pieceOf R F k n 31 L (xi x1 :: xi x0 :: xr (some a) :: st) σ :=
  Aw.callV (As := [xi x0, xi x1]) (stk := xi x1 :: xi x0 :: xr (some a) :: st) (nn := 2) 3 M_Drf_linesPut hc ok_Drf_linesPut rfl (by decide) rfl hk ml_Dw_260 im_Drf_linesPut se_Drf_linesPut ⟨hr1, hr2⟩ rfl ⟨hb1, hb2⟩ hst rfl d_Dw_pieceOf_31 (fun r σ' h => by obtain ⟨x, rfl, h⟩ := h; exact kk x σ' h) kx
theorem r_Dw_pieceOf_34 {Ω : Om} {R : Room} {k n : Nat} {L : List PV} {σ : Sto} {QR : Option PV → Sto → Prop} {QX : String → Sto → Prop} {x : Int} (h : QR (some (xi x)) σ) (h1 : k ≤ R.cells) (h2 : n ≤ R.slots) : Aw Ω M_Dw_pieceOf R (MF Ω R QR QX) k n 34 L [xi x] σ := Aw.iret rfl h h1 h2 d_Dw_pieceOf_34
theorem e_Dw_remove {Ω : Om} {R : Room} {QR : Option PV → Sto → Prop} {QX : String → Sto → Prop} {σ : Sto} {a0 : Nat} {v1 : Int} (h : Aw Ω M_Dw_remove R (MF Ω R QR QX) 0 0 0 [xr (some a0), xi v1] [] σ) : MC Ω M_Dw_remove R QR QX σ [xr (some a0), xi v1] := MC.body (by decide +kernel) rfl (Nat.le_of_ble_eq_true rfl) rfl h
theorem b_Dw_remove_0 {Ω : Om} {R : Room} {F : QF} {k n : Nat} {σ : Sto} {a0 : Nat} {v1 : Int} (h : Aw Ω M_Dw_remove R F k n 3 [xr (some a0), xi v1] [xr (some a0), xi v1, xr (some a0)] σ) : Aw Ω M_Dw_remove R F k n 0 [xr (some a0), xi v1] [] σ := by
  refine Aw.aload_n rfl d_Dw_remove_0 ?_
  refine Aw.iload_n rfl d_Dw_remove_1 ?_
  refine Aw.aload_n rfl d_Dw_remove_2 ?_
  exact h
theorem b_Dw_remove_9 {Ω : Om} {R : Room} {F : QF} {k n : Nat} {σ : Sto} {a0 : Nat} {v1 : Int} (h : Aw Ω M_Dw_remove R F k n 10 [xr (some a0), xi v1] [xr (some a0)] σ) : Aw Ω M_Dw_remove R F k n 9 [xr (some a0), xi v1] [] σ := by
  refine Aw.aload_n rfl d_Dw_remove_9 ?_
  exact h
theorem b_Dw_remove_13 {Ω : Om} {R : Room} {F : QF} {k n : Nat} {σ : Sto} {a0 : Nat} {v1 : Int} (h : sK σ a0 = 1 ∧ (∃ b2 : Nat, fR σ 8 a0 = some b2 ∧ k + 1 ≤ R.cells ∧ n + 6 ≤ R.slots ∧ (∀ σ6 : Sto, σ6 = (nO σ 5 0) → Aw Ω M_Dw_remove R F (k + 1) (n + 6) 26 [xr (some a0), xi v1] [xr none, xl 0, xi (-1), xi v1, xi 1, xr (some (sN σ)), xr (some (sN σ)), xr (some b2)] σ6))) : Aw Ω M_Dw_remove R F k n 13 [xr (some a0), xi v1] [] σ := by
  refine Aw.aload_n rfl d_Dw_remove_13 ?_
  obtain ⟨o1, h⟩ := h
  obtain ⟨b2, e3, h⟩ := h
  refine Aw.getRs (f := 8) 0 8 fl_Dw_58 (by decide) (by decide) rfl rfl o1 e3 d_Dw_remove_14 ?_
  obtain ⟨o4, o5, h⟩ := h
  refine Aw.new 4 (by decide) cl_Dw_139 ins_4 ini_4 o4 o5 d_Dw_remove_17 ?_
  obtain ⟨σ6, hσ6⟩ : ∃ z, z = (nO σ 5 0) := ⟨_, rfl⟩
  refine Aw.toS (σ' := σ6) hσ6 ?_
  have h := h σ6 hσ6
  refine Aw.dup rfl d_Dw_remove_20 ?_
  refine Aw.iconst d_Dw_remove_21 ?_
  refine Aw.iload_n rfl d_Dw_remove_22 ?_
  refine Aw.iconst d_Dw_remove_23 ?_
  refine Aw.lconst (w := 0) (by decide) d_Dw_remove_24 ?_
  refine Aw.null d_Dw_remove_25 ?_
  exact h
theorem b_Dw_remove_32 {Ω : Om} {R : Room} {F : QF} {k n : Nat} {σ : Sto} {a0 : Nat} {v1 : Int} {s0 : Int} (h : sK σ a0 = 1 ∧ (Q32 (fI σ 16 a0) → Q32 ((fI σ 16 a0) + 1) ∧ (∃ b4 : Nat, fR σ 8 a0 = some b4 ∧ sK σ b4 = 4 ∧ (∃ b7 : Nat, fR σ 192 b4 = some b7 ∧ Aw Ω M_Dw_remove R F k n 50 [xr (some a0), xi v1] [xr (some b7)] (uI σ 16 a0 ((fI σ 16 a0) + 1)))))) : Aw Ω M_Dw_remove R F k n 32 [xr (some a0), xi v1] [xi s0] σ := by
  refine Aw.pop rfl d_Dw_remove_32 ?_
  refine Aw.aload_n rfl d_Dw_remove_33 ?_
  refine Aw.dup rfl d_Dw_remove_34 ?_
  obtain ⟨o1, h⟩ := h
  refine Aw.getI (f := 16) 0 16 fl_Dw_85 (by decide) (by decide) rfl rfl o1 d_Dw_remove_35 (fun r2 => ?_)
  have h := h r2
  refine Aw.iconst d_Dw_remove_38 ?_
  refine Aw.iadd d_Dw_remove_39 ?_
  obtain ⟨o3, h⟩ := h
  refine Aw.putI (f := 16) 0 16 fl_Dw_85 (by decide) (by decide) rfl rfl o1 rfl o3 (Or.inl rfl) d_Dw_remove_40 ?_
  refine Aw.aload_n rfl d_Dw_remove_43 ?_
  obtain ⟨b4, e5, h⟩ := h
  refine Aw.getRs (f := 8) 0 8 fl_Dw_58 (by decide) (by decide) rfl rfl o1 e5 d_Dw_remove_44 ?_
  obtain ⟨o6, h⟩ := h
  obtain ⟨b7, e8, h⟩ := h
  refine Aw.getRs (f := 192) 3 0 fl_Dw_111 (by decide) (by decide) rfl rfl o6 e8 d_Dw_remove_47 ?_
  exact h
theorem c_Dw_remove_3 {Ω : Om} {R R' : Room} {F : QF} {k n : Nat} {L st : List PV} {σ : Sto} {QX' : String → Sto → Prop} {Q : Int → Sto → Prop} {a : Nat} (hc : MC Ω M_Dw_draftSize R' (RI Q) QX' σ [xr (some a)]) (hk : sK σ a = 1) (hr1 : R'.frames + 1 ≤ R.frames) (hr2 : 8 + (1 + 11) + R'.locals ≤ R.locals) (hb1 : k + R'.cells ≤ R.cells) (hb2 : n + R'.slots ≤ R.slots) (hst : (st.map catP).sum ≤ 8) (kk : ∀ x σ', Q x σ' → Aw Ω M_Dw_remove R F (k + R'.cells) (n + R'.slots) 6 L (xi x :: st) σ') (kx : ∀ E σ', QX' E σ' → Ax Ω M_Dw_remove R F (k + R'.cells) (n + R'.slots) 3 L st σ' E) : Aw Ω M_Dw_remove R F k n 3 L (xr (some a) :: st) σ :=
  Aw.callV (As := []) (stk := xr (some a) :: st) (nn := 0) 0 M_Dw_draftSize hc ok_Dw_draftSize rfl (by decide) rfl hk ml_Dw_118 im_Dw_draftSize se_Dw_draftSize ⟨hr1, hr2⟩ rfl ⟨hb1, hb2⟩ hst rfl d_Dw_remove_3 (fun r σ' h => by obtain ⟨x, rfl, h⟩ := h; exact kk x σ' h) kx
theorem c_Dw_remove_6 {Ω : Om} {R R' : Room} {F : QF} {k n : Nat} {L st : List PV} {σ : Sto} {QX' : String → Sto → Prop} {Q : Sto → Prop} {a : Nat} {x0 : Int} {x1 : Int} (hc : MC Ω M_Dw_checkPlace R' (RV Q) QX' σ [xr (some a), xi x0, xi x1]) (hk : sK σ a = 1) (hr1 : R'.frames + 1 ≤ R.frames) (hr2 : 8 + (3 + 11) + R'.locals ≤ R.locals) (hb1 : k + R'.cells ≤ R.cells) (hb2 : n + R'.slots ≤ R.slots) (hst : (st.map catP).sum ≤ 8) (kk : ∀ σ', Q σ' → Aw Ω M_Dw_remove R F (k + R'.cells) (n + R'.slots) 9 L st σ') (kx : ∀ E σ', QX' E σ' → Ax Ω M_Dw_remove R F (k + R'.cells) (n + R'.slots) 6 L st σ' E) : Aw Ω M_Dw_remove R F k n 6 L (xi x1 :: xi x0 :: xr (some a) :: st) σ :=
  Aw.callV (As := [xi x0, xi x1]) (stk := xi x1 :: xi x0 :: xr (some a) :: st) (nn := 2) 0 M_Dw_checkPlace hc ok_Dw_checkPlace rfl (by decide) rfl hk ml_Dw_121 im_Dw_checkPlace se_Dw_checkPlace ⟨hr1, hr2⟩ rfl ⟨hb1, hb2⟩ hst rfl d_Dw_remove_6 (fun r σ' h => by obtain ⟨rfl, h⟩ := h; exact kk σ' h) kx
theorem c_Dw_remove_10 {Ω : Om} {R R' : Room} {F : QF} {k n : Nat} {L st : List PV} {σ : Sto} {QX' : String → Sto → Prop} {Q : Sto → Prop} {a : Nat} (hc : MC Ω M_Dw_checkEditable R' (RV Q) QX' σ [xr (some a)]) (hk : sK σ a = 1) (hr1 : R'.frames + 1 ≤ R.frames) (hr2 : 8 + (1 + 11) + R'.locals ≤ R.locals) (hb1 : k + R'.cells ≤ R.cells) (hb2 : n + R'.slots ≤ R.slots) (hst : (st.map catP).sum ≤ 8) (kk : ∀ σ', Q σ' → Aw Ω M_Dw_remove R F (k + R'.cells) (n + R'.slots) 13 L st σ') (kx : ∀ E σ', QX' E σ' → Ax Ω M_Dw_remove R F (k + R'.cells) (n + R'.slots) 10 L st σ' E) : Aw Ω M_Dw_remove R F k n 10 L (xr (some a) :: st) σ :=
  Aw.callV (As := []) (stk := xr (some a) :: st) (nn := 0) 0 M_Dw_checkEditable hc ok_Dw_checkEditable rfl (by decide) rfl hk ml_Dw_129 im_Dw_checkEditable se_Dw_checkEditable ⟨hr1, hr2⟩ rfl ⟨hb1, hb2⟩ hst rfl d_Dw_remove_10 (fun r σ' h => by obtain ⟨rfl, h⟩ := h; exact kk σ' h) kx
theorem c_Dw_remove_26 {Ω : Om} {R R' : Room} {F : QF} {k n : Nat} {L st : List PV} {σ : Sto} {QX' : String → Sto → Prop} {Q : Sto → Prop} {a : Nat} {x0 : Int} {x1 : Int} {x2 : Int} {x3 : Int64} {x4 : Option Nat} (hc : MC Ω M_Edt_init R' (RV Q) QX' σ [xr (some a), xi x0, xi x1, xi x2, xl x3, xr x4]) (hr1 : R'.frames + 1 ≤ R.frames) (hr2 : 8 + (7 + 11) + R'.locals ≤ R.locals) (hb1 : k + R'.cells ≤ R.cells) (hb2 : n + R'.slots ≤ R.slots) (hst : (st.map catP).sum ≤ 8) (kk : ∀ σ', Q σ' → Aw Ω M_Dw_remove R F (k + R'.cells) (n + R'.slots) 29 L st σ') (kx : ∀ E σ', QX' E σ' → Ax Ω M_Dw_remove R F (k + R'.cells) (n + R'.slots) 26 L st σ' E) : Aw Ω M_Dw_remove R F k n 26 L (xr x4 :: xl x3 :: xi x2 :: xi x1 :: xi x0 :: xr (some a) :: st) σ :=
  Aw.callI (As := [xi x0, xi x1, xi x2, xl x3, xr x4]) (stk := xr x4 :: xl x3 :: xi x2 :: xi x1 :: xi x0 :: xr (some a) :: st) (nn := 5) M_Edt_init hc ok_Edt_init rfl rfl rfl im_Edt_init (Or.inl ml_Dw_141) ⟨hr1, hr2⟩ rfl ⟨hb1, hb2⟩ hst rfl d_Dw_remove_26 (fun r σ' h => by obtain ⟨rfl, h⟩ := h; exact kk σ' h) kx
theorem c_Dw_remove_29 {Ω : Om} {R R' : Room} {F : QF} {k n : Nat} {L st : List PV} {σ : Sto} {QX' : String → Sto → Prop} {Q : Int → Sto → Prop} {a : Nat} {x0 : Option Nat} (hc : MC Ω M_Drf_make R' (RI Q) QX' σ [xr (some a), xr x0]) (hk : sK σ a = 4) (hr1 : R'.frames + 1 ≤ R.frames) (hr2 : 8 + (2 + 11) + R'.locals ≤ R.locals) (hb1 : k + R'.cells ≤ R.cells) (hb2 : n + R'.slots ≤ R.slots) (hst : (st.map catP).sum ≤ 8) (kk : ∀ x σ', Q x σ' → Aw Ω M_Dw_remove R F (k + R'.cells) (n + R'.slots) 32 L (xi x :: st) σ') (kx : ∀ E σ', QX' E σ' → Ax Ω M_Dw_remove R F (k + R'.cells) (n + R'.slots) 29 L st σ' E) : Aw Ω M_Dw_remove R F k n 29 L (xr x0 :: xr (some a) :: st) σ :=
  Aw.callV (As := [xr x0]) (stk := xr x0 :: xr (some a) :: st) (nn := 1) 3 M_Drf_make hc ok_Drf_make rfl (by decide) rfl hk ml_Dw_144 im_Drf_make se_Drf_make ⟨hr1, hr2⟩ rfl ⟨hb1, hb2⟩ hst rfl d_Dw_remove_29 (fun r σ' h => by obtain ⟨x, rfl, h⟩ := h; exact kk x σ' h) kx
theorem c_Dw_remove_50 {Ω : Om} {R R' : Room} {F : QF} {k n : Nat} {L st : List PV} {σ : Sto} {QX' : String → Sto → Prop} {Q : Int → Sto → Prop} {a : Nat} (hc : MC Ω M_Txt_size R' (RI Q) QX' σ [xr (some a)]) (hk : sK σ a = 10) (hr1 : R'.frames + 1 ≤ R.frames) (hr2 : 8 + (1 + 11) + R'.locals ≤ R.locals) (hb1 : k + R'.cells ≤ R.cells) (hb2 : n + R'.slots ≤ R.slots) (hst : (st.map catP).sum ≤ 8) (kk : ∀ x σ', Q x σ' → Aw Ω M_Dw_remove R F (k + R'.cells) (n + R'.slots) 53 L (xi x :: st) σ') (kx : ∀ E σ', QX' E σ' → Ax Ω M_Dw_remove R F (k + R'.cells) (n + R'.slots) 50 L st σ' E) : Aw Ω M_Dw_remove R F k n 50 L (xr (some a) :: st) σ :=
  Aw.callV (As := []) (stk := xr (some a) :: st) (nn := 0) 9 M_Txt_size hc ok_Txt_size rfl (by decide) rfl hk ml_Dw_112 im_Txt_size se_Txt_size ⟨hr1, hr2⟩ rfl ⟨hb1, hb2⟩ hst rfl d_Dw_remove_50 (fun r σ' h => by obtain ⟨x, rfl, h⟩ := h; exact kk x σ' h) kx
theorem r_Dw_remove_53 {Ω : Om} {R : Room} {k n : Nat} {L : List PV} {σ : Sto} {QR : Option PV → Sto → Prop} {QX : String → Sto → Prop} {x : Int} (h : QR (some (xi x)) σ) (h1 : k ≤ R.cells) (h2 : n ≤ R.slots) : Aw Ω M_Dw_remove R (MF Ω R QR QX) k n 53 L [xi x] σ := Aw.iret rfl h h1 h2 d_Dw_remove_53
theorem e_Dw_renew {Ω : Om} {R : Room} {QR : Option PV → Sto → Prop} {QX : String → Sto → Prop} {σ : Sto} {a0 : Nat} {v1 : Int} {v2 : Int} (h : Aw Ω M_Dw_renew R (MF Ω R QR QX) 0 0 0 [xr (some a0), xi v1, xi v2, xu, xu, xu] [] σ) : MC Ω M_Dw_renew R QR QX σ [xr (some a0), xi v1, xi v2] := MC.body (by decide +kernel) rfl (Nat.le_of_ble_eq_true rfl) rfl h
theorem b_Dw_renew_0 {Ω : Om} {R : Room} {F : QF} {k n : Nat} {σ : Sto} {a0 : Nat} {v1 : Int} {v2 : Int} (h : Aw Ω M_Dw_renew R F k n 2 [xr (some a0), xi v1, xi v2, xu, xu, xu] [xi v1, xr (some a0)] σ) : Aw Ω M_Dw_renew R F k n 0 [xr (some a0), xi v1, xi v2, xu, xu, xu] [] σ := by
  refine Aw.aload_n rfl d_Dw_renew_0 ?_
  refine Aw.iload_n rfl d_Dw_renew_1 ?_
  exact h
theorem b_Dw_renew_5 {Ω : Om} {R : Room} {F : QF} {k n : Nat} {σ : Sto} {a0 : Nat} {v1 : Int} {v2 : Int} {s0 : Nat} (h : Aw Ω M_Dw_renew R F k n 8 [xr (some a0), xi v1, xi v2, xr (some s0), xu, xu] [xi v2, xr (some a0)] σ) : Aw Ω M_Dw_renew R F k n 5 [xr (some a0), xi v1, xi v2, xu, xu, xu] [xr (some s0)] σ := by
  refine Aw.astore_n (by decide) d_Dw_renew_5 ?_
  refine Aw.toL (L' := [xr (some a0), xi v1, xi v2, xr (some s0), xu, xu]) rfl ?_
  refine Aw.aload_n rfl d_Dw_renew_6 ?_
  refine Aw.iload_n rfl d_Dw_renew_7 ?_
  exact h
theorem b_Dw_renew_11 {Ω : Om} {R : Room} {F : QF} {k n : Nat} {σ : Sto} {a0 : Nat} {v1 : Int} {v2 : Int} {a3 : Nat} {s0 : Nat} (h : Aw Ω M_Dw_renew R F k n 15 [xr (some a0), xi v1, xi v2, xr (some a3), xr (some s0), xu] [xr (some a3), xr (some a0)] σ) : Aw Ω M_Dw_renew R F k n 11 [xr (some a0), xi v1, xi v2, xr (some a3), xu, xu] [xr (some s0)] σ := by
  refine Aw.astore (by decide) d_Dw_renew_11 ?_
  refine Aw.toL (L' := [xr (some a0), xi v1, xi v2, xr (some a3), xr (some s0), xu]) rfl ?_
  refine Aw.aload_n rfl d_Dw_renew_13 ?_
  refine Aw.aload_n rfl d_Dw_renew_14 ?_
  exact h
theorem b_Dw_renew_18 {Ω : Om} {R : Room} {F : QF} {k n : Nat} {σ : Sto} {a0 : Nat} {v1 : Int} {v2 : Int} {a3 : Nat} {a4 : Nat} (h : sK σ a3 = 9 ∧ (Q32 (fI σ 513 a3) → Aw Ω M_Dw_renew R F k n 24 [xr (some a0), xi v1, xi v2, xr (some a3), xr (some a4), xu] [xi (fI σ 513 a3), xr (some a4)] σ)) : Aw Ω M_Dw_renew R F k n 18 [xr (some a0), xi v1, xi v2, xr (some a3), xr (some a4), xu] [] σ := by
  refine Aw.aload rfl d_Dw_renew_18 ?_
  refine Aw.aload_n rfl d_Dw_renew_20 ?_
  obtain ⟨o1, h⟩ := h
  refine Aw.getI (f := 513) 8 1 fl_Dw_331 (by decide) (by decide) rfl rfl o1 d_Dw_renew_21 (fun r2 => ?_)
  have h := h r2
  exact h
theorem b_Dw_renew_27 {Ω : Om} {R : Room} {F : QF} {k n : Nat} {σ : Sto} {a0 : Nat} {v1 : Int} {v2 : Int} {a3 : Nat} {a4 : Nat} {s0 : Int} (h : Q32 s0 ∧ ((¬ s0 = (0 : Int) → sK σ a4 = 12 ∧ (∃ b3 : Nat, fR σ 704 a4 = some b3 ∧ sK σ a3 = 9 ∧ (Q32 (fI σ 513 a3) → Aw Ω M_Dw_renew R F k n 51 [xr (some a0), xi v1, xi v2, xr (some a3), xr (some a4), xu] [xi (fI σ 513 a3), xr (some a0), xr (some b3)] σ))) ∧ (s0 = (0 : Int) → Aw Ω M_Dw_renew R F k n 30 [xr (some a0), xi v1, xi v2, xr (some a3), xr (some a4), xu] [] σ))) : Aw Ω M_Dw_renew R F k n 27 [xr (some a0), xi v1, xi v2, xr (some a3), xr (some a4), xu] [xi s0] σ := by
  obtain ⟨o1, h⟩ := h
  obtain ⟨ht, hf⟩ := h
  refine Aw.if_ne (tgt := 41) o1 (by decide) d_Dw_renew_27 (fun c7 => ?_) (fun c7 => ?_)
  · have h := ht c7
    refine Aw.aload rfl d_Dw_renew_41 ?_
    obtain ⟨o2, h⟩ := h
    obtain ⟨b3, e4, h⟩ := h
    refine Aw.getRs (f := 704) 11 0 fl_Dw_99 (by decide) (by decide) rfl rfl o2 e4 d_Dw_renew_43 ?_
    refine Aw.aload_n rfl d_Dw_renew_46 ?_
    refine Aw.aload_n rfl d_Dw_renew_47 ?_
    obtain ⟨o5, h⟩ := h
    refine Aw.getI (f := 513) 8 1 fl_Dw_331 (by decide) (by decide) rfl rfl o5 d_Dw_renew_48 (fun r6 => ?_)
    have h := h r6
    exact h
  · have h := hf c7
    exact h
theorem b_Dw_renew_54 {Ω : Om} {R : Room} {F : QF} {k n : Nat} {σ : Sto} {a0 : Nat} {v1 : Int} {v2 : Int} {a3 : Nat} {a4 : Nat} {s0 : Nat} {s1 : Nat} (h : sK σ s1 = 12 ∧ (∃ b2 : Nat, fR σ 704 s1 = some b2 ∧ Aw Ω M_Dw_renew R F k n 57 [xr (some a0), xi v1, xi v2, xr (some a3), xr (some a4), xu] [xr (some b2), xr (some s0)] σ)) : Aw Ω M_Dw_renew R F k n 54 [xr (some a0), xi v1, xi v2, xr (some a3), xr (some a4), xu] [xr (some s1), xr (some s0)] σ := by
  obtain ⟨o1, h⟩ := h
  obtain ⟨b2, e3, h⟩ := h
  refine Aw.getRs (f := 704) 11 0 fl_Dw_99 (by decide) (by decide) rfl rfl o1 e3 d_Dw_renew_54 ?_
  exact h
theorem b_Dw_renew_60 {Ω : Om} {R : Room} {F : QF} {k n : Nat} {σ : Sto} {a0 : Nat} {v1 : Int} {v2 : Int} {a3 : Nat} {a4 : Nat} {s0 : Int} (h : sK σ a3 = 9 ∧ Q32 v2 ∧ Q32 s0 ∧ ((s0 = (0 : Int) → Aw Ω M_Dw_renew R F k n 85 [xr (some a0), xi v1, xi v2, xr (some a3), xr (some a4), xi s0] [xr (some a3)] (uI σ 513 a3 v2)) ∧ (¬ s0 = (0 : Int) → sK σ a4 = 12 ∧ (Q32 (fI (uI σ 513 a3 v2) 707 a4) → Aw Ω M_Dw_renew R F k n 78 [xr (some a0), xi v1, xi v2, xr (some a3), xr (some a4), xi s0] [xi (fI (uI σ 513 a3 v2) 707 a4), xr (some a3)] (uI σ 513 a3 v2))))) : Aw Ω M_Dw_renew R F k n 60 [xr (some a0), xi v1, xi v2, xr (some a3), xr (some a4), xu] [xi s0] σ := by
  refine Aw.istore (by decide) d_Dw_renew_60 ?_
  refine Aw.toL (L' := [xr (some a0), xi v1, xi v2, xr (some a3), xr (some a4), xi s0]) rfl ?_
  refine Aw.aload_n rfl d_Dw_renew_62 ?_
  refine Aw.iload_n rfl d_Dw_renew_63 ?_
  obtain ⟨o1, h⟩ := h
  obtain ⟨o2, h⟩ := h
  refine Aw.putI (f := 513) 8 1 fl_Dw_331 (by decide) (by decide) rfl rfl o1 rfl o2 (Or.inl rfl) d_Dw_renew_64 ?_
  refine Aw.iload rfl d_Dw_renew_67 ?_
  obtain ⟨o3, h⟩ := h
  obtain ⟨ht, hf⟩ := h
  refine Aw.if_eq (tgt := 84) o3 (by decide) d_Dw_renew_69 (fun c6 => ?_) (fun c6 => ?_)
  · have h := ht c6
    refine Aw.aload_n rfl d_Dw_renew_84 ?_
    exact h
  · have h := hf c6
    refine Aw.aload_n rfl d_Dw_renew_72 ?_
    refine Aw.aload rfl d_Dw_renew_73 ?_
    obtain ⟨o4, h⟩ := h
    refine Aw.getI (f := 707) 11 3 fl_Dw_334 (by decide) (by decide) rfl rfl o4 d_Dw_renew_75 (fun r5 => ?_)
    have h := h r5
    exact h
theorem b_Dw_renew_81 {Ω : Om} {R : Room} {F : QF} {k n : Nat} {σ : Sto} {a0 : Nat} {v1 : Int} {v2 : Int} {a3 : Nat} {a4 : Nat} {v5 : Int} {s0 : Int} (h : Aw Ω M_Dw_renew R F k n 88 [xr (some a0), xi v1, xi v2, xr (some a3), xr (some a4), xi v5] [xi s0] σ) : Aw Ω M_Dw_renew R F k n 81 [xr (some a0), xi v1, xi v2, xr (some a3), xr (some a4), xi v5] [xi s0] σ := by
  refine Aw.goto (tgt := 88) (by decide) d_Dw_renew_81 ?_
  exact h
theorem c_Dw_renew_2 {Ω : Om} {R R' : Room} {F : QF} {k n : Nat} {L st : List PV} {σ : Sto} {QX' : String → Sto → Prop} {Q : Option Nat → Sto → Prop} {a : Nat} {x0 : Int} (hc : MC Ω M_Dw_reviewAt R' (RR Q) QX' σ [xr (some a), xi x0]) (hk : sK σ a = 1) (hr1 : R'.frames + 1 ≤ R.frames) (hr2 : 8 + (2 + 11) + R'.locals ≤ R.locals) (hb1 : k + R'.cells ≤ R.cells) (hb2 : n + R'.slots ≤ R.slots) (hst : (st.map catP).sum ≤ 8) (kk : ∀ x σ', Q x σ' → Aw Ω M_Dw_renew R F (k + R'.cells) (n + R'.slots) 5 L (xr x :: st) σ') (kx : ∀ E σ', QX' E σ' → Ax Ω M_Dw_renew R F (k + R'.cells) (n + R'.slots) 2 L st σ' E) : Aw Ω M_Dw_renew R F k n 2 L (xi x0 :: xr (some a) :: st) σ :=
  Aw.callV (As := [xi x0]) (stk := xi x0 :: xr (some a) :: st) (nn := 1) 0 M_Dw_reviewAt hc ok_Dw_reviewAt rfl (by decide) rfl hk ml_Dw_318 im_Dw_reviewAt se_Dw_reviewAt ⟨hr1, hr2⟩ rfl ⟨hb1, hb2⟩ hst rfl d_Dw_renew_2 (fun r σ' h => by obtain ⟨x, rfl, h⟩ := h; exact kk x σ' h) kx
theorem c_Dw_renew_8 {Ω : Om} {R R' : Room} {F : QF} {k n : Nat} {L st : List PV} {σ : Sto} {QX' : String → Sto → Prop} {Q : Option Nat → Sto → Prop} {a : Nat} {x0 : Int} (hc : MC Ω M_Dw_versionAt R' (RR Q) QX' σ [xr (some a), xi x0]) (hk : sK σ a = 1) (hr1 : R'.frames + 1 ≤ R.frames) (hr2 : 8 + (2 + 11) + R'.locals ≤ R.locals) (hb1 : k + R'.cells ≤ R.cells) (hb2 : n + R'.slots ≤ R.slots) (hst : (st.map catP).sum ≤ 8) (kk : ∀ x σ', Q x σ' → Aw Ω M_Dw_renew R F (k + R'.cells) (n + R'.slots) 11 L (xr x :: st) σ') (kx : ∀ E σ', QX' E σ' → Ax Ω M_Dw_renew R F (k + R'.cells) (n + R'.slots) 8 L st σ' E) : Aw Ω M_Dw_renew R F k n 8 L (xi x0 :: xr (some a) :: st) σ :=
  Aw.callV (As := [xi x0]) (stk := xi x0 :: xr (some a) :: st) (nn := 1) 0 M_Dw_versionAt hc ok_Dw_versionAt rfl (by decide) rfl hk ml_Dw_91 im_Dw_versionAt se_Dw_versionAt ⟨hr1, hr2⟩ rfl ⟨hb1, hb2⟩ hst rfl d_Dw_renew_8 (fun r σ' h => by obtain ⟨x, rfl, h⟩ := h; exact kk x σ' h) kx
theorem c_Dw_renew_15 {Ω : Om} {R R' : Room} {F : QF} {k n : Nat} {L st : List PV} {σ : Sto} {QX' : String → Sto → Prop} {Q : Sto → Prop} {a : Nat} {x0 : Option Nat} (hc : MC Ω M_Dw_checkNotLanded R' (RV Q) QX' σ [xr (some a), xr x0]) (hk : sK σ a = 1) (hr1 : R'.frames + 1 ≤ R.frames) (hr2 : 8 + (2 + 11) + R'.locals ≤ R.locals) (hb1 : k + R'.cells ≤ R.cells) (hb2 : n + R'.slots ≤ R.slots) (hst : (st.map catP).sum ≤ 8) (kk : ∀ σ', Q σ' → Aw Ω M_Dw_renew R F (k + R'.cells) (n + R'.slots) 18 L st σ') (kx : ∀ E σ', QX' E σ' → Ax Ω M_Dw_renew R F (k + R'.cells) (n + R'.slots) 15 L st σ' E) : Aw Ω M_Dw_renew R F k n 15 L (xr x0 :: xr (some a) :: st) σ :=
  Aw.callV (As := [xr x0]) (stk := xr x0 :: xr (some a) :: st) (nn := 1) 0 M_Dw_checkNotLanded hc ok_Dw_checkNotLanded rfl (by decide) rfl hk ml_Dw_327 im_Dw_checkNotLanded se_Dw_checkNotLanded ⟨hr1, hr2⟩ rfl ⟨hb1, hb2⟩ hst rfl d_Dw_renew_15 (fun r σ' h => by obtain ⟨rfl, h⟩ := h; exact kk σ' h) kx
theorem c_Dw_renew_24 {Ω : Om} {R R' : Room} {F : QF} {k n : Nat} {L st : List PV} {σ : Sto} {QX' : String → Sto → Prop} {Q : Int → Sto → Prop} {a : Nat} {x0 : Int} (hc : MC Ω M_Ver_isOver R' (RI Q) QX' σ [xr (some a), xi x0]) (hk : sK σ a = 12) (hr1 : R'.frames + 1 ≤ R.frames) (hr2 : 8 + (2 + 11) + R'.locals ≤ R.locals) (hb1 : k + R'.cells ≤ R.cells) (hb2 : n + R'.slots ≤ R.slots) (hst : (st.map catP).sum ≤ 8) (kk : ∀ x σ', Q x σ' → Aw Ω M_Dw_renew R F (k + R'.cells) (n + R'.slots) 27 L (xi x :: st) σ') (kx : ∀ E σ', QX' E σ' → Ax Ω M_Dw_renew R F (k + R'.cells) (n + R'.slots) 24 L st σ' E) : Aw Ω M_Dw_renew R F k n 24 L (xi x0 :: xr (some a) :: st) σ :=
  Aw.callV (As := [xi x0]) (stk := xi x0 :: xr (some a) :: st) (nn := 1) 11 M_Ver_isOver hc ok_Ver_isOver rfl (by decide) rfl hk ml_Dw_199 im_Ver_isOver se_Ver_isOver ⟨hr1, hr2⟩ rfl ⟨hb1, hb2⟩ hst rfl d_Dw_renew_24 (fun r σ' h => by obtain ⟨x, rfl, h⟩ := h; exact kk x σ' h) kx
theorem t_Dw_renew_30 {Ω : Om} {R : Room} {k n : Nat} {L : List PV} {σ : Sto} {QR : Option PV → Sto → Prop} {QX : String → Sto → Prop} {st : List PV} (hRf : 5 < R.frames) (hRl : (st.map catP).sum + 82 ≤ R.locals) (hc : k + 1 ≤ R.cells) (hs : n + 6 ≤ R.slots) (hx : ∀ n', sN σ ≤ n' → QX "java/lang/IllegalStateException" (nX σ n')) : Aw Ω M_Dw_renew R (MF Ω R QR QX) k n 30 L st σ := Aw.throwSW (text := "the version is not above that of the review") rfl (by decide +kernel) exn_f cl_Dw_132 exi_IllegalStateException (List.mem_of_getElem? (i := 1436) (by decide +kernel)) exa_Dw_136 exg_Dw_136 d_Dw_renew_30 d_Dw_renew_33 d_Dw_renew_34 d_Dw_renew_37 d_Dw_renew_40 hRf hRl hc hs hx
theorem c_Dw_renew_51 {Ω : Om} {R R' : Room} {F : QF} {k n : Nat} {L st : List PV} {σ : Sto} {QX' : String → Sto → Prop} {Q : Option Nat → Sto → Prop} {a : Nat} {x0 : Int} (hc : MC Ω M_Dw_versionAt R' (RR Q) QX' σ [xr (some a), xi x0]) (hk : sK σ a = 1) (hr1 : R'.frames + 1 ≤ R.frames) (hr2 : 8 + (2 + 11) + R'.locals ≤ R.locals) (hb1 : k + R'.cells ≤ R.cells) (hb2 : n + R'.slots ≤ R.slots) (hst : (st.map catP).sum ≤ 8) (kk : ∀ x σ', Q x σ' → Aw Ω M_Dw_renew R F (k + R'.cells) (n + R'.slots) 54 L (xr x :: st) σ') (kx : ∀ E σ', QX' E σ' → Ax Ω M_Dw_renew R F (k + R'.cells) (n + R'.slots) 51 L st σ' E) : Aw Ω M_Dw_renew R F k n 51 L (xi x0 :: xr (some a) :: st) σ :=
  Aw.callV (As := [xi x0]) (stk := xi x0 :: xr (some a) :: st) (nn := 1) 0 M_Dw_versionAt hc ok_Dw_versionAt rfl (by decide) rfl hk ml_Dw_91 im_Dw_versionAt se_Dw_versionAt ⟨hr1, hr2⟩ rfl ⟨hb1, hb2⟩ hst rfl d_Dw_renew_51 (fun r σ' h => by obtain ⟨x, rfl, h⟩ := h; exact kk x σ' h) kx
theorem c_Dw_renew_57 {Ω : Om} {R R' : Room} {F : QF} {k n : Nat} {L st : List PV} {σ : Sto} {QX' : String → Sto → Prop} {Q : Int → Sto → Prop} {a : Nat} {x0 : Option Nat} (hc : MC Ω M_Txt_isLike R' (RI Q) QX' σ [xr (some a), xr x0]) (hk : sK σ a = 10) (hr1 : R'.frames + 1 ≤ R.frames) (hr2 : 8 + (2 + 11) + R'.locals ≤ R.locals) (hb1 : k + R'.cells ≤ R.cells) (hb2 : n + R'.slots ≤ R.slots) (hst : (st.map catP).sum ≤ 8) (kk : ∀ x σ', Q x σ' → Aw Ω M_Dw_renew R F (k + R'.cells) (n + R'.slots) 60 L (xi x :: st) σ') (kx : ∀ E σ', QX' E σ' → Ax Ω M_Dw_renew R F (k + R'.cells) (n + R'.slots) 57 L st σ' E) : Aw Ω M_Dw_renew R F k n 57 L (xr x0 :: xr (some a) :: st) σ :=
  Aw.callV (As := [xr x0]) (stk := xr x0 :: xr (some a) :: st) (nn := 1) 9 M_Txt_isLike hc ok_Txt_isLike rfl (by decide) rfl hk ml_Dw_348 im_Txt_isLike se_Txt_isLike ⟨hr1, hr2⟩ rfl ⟨hb1, hb2⟩ hst rfl d_Dw_renew_57 (fun r σ' h => by obtain ⟨x, rfl, h⟩ := h; exact kk x σ' h) kx
theorem c_Dw_renew_78 {Ω : Om} {R R' : Room} {F : QF} {k n : Nat} {L st : List PV} {σ : Sto} {QX' : String → Sto → Prop} {Q : Int → Sto → Prop} {a : Nat} {x0 : Int} (hc : MC Ω M_Rev_drop R' (RI Q) QX' σ [xr (some a), xi x0]) (hk : sK σ a = 9) (hr1 : R'.frames + 1 ≤ R.frames) (hr2 : 8 + (2 + 11) + R'.locals ≤ R.locals) (hb1 : k + R'.cells ≤ R.cells) (hb2 : n + R'.slots ≤ R.slots) (hst : (st.map catP).sum ≤ 8) (kk : ∀ x σ', Q x σ' → Aw Ω M_Dw_renew R F (k + R'.cells) (n + R'.slots) 81 L (xi x :: st) σ') (kx : ∀ E σ', QX' E σ' → Ax Ω M_Dw_renew R F (k + R'.cells) (n + R'.slots) 78 L st σ' E) : Aw Ω M_Dw_renew R F k n 78 L (xi x0 :: xr (some a) :: st) σ :=
  Aw.callV (As := [xi x0]) (stk := xi x0 :: xr (some a) :: st) (nn := 1) 8 M_Rev_drop hc ok_Rev_drop rfl (by decide) rfl hk ml_Dw_352 im_Rev_drop se_Rev_drop ⟨hr1, hr2⟩ rfl ⟨hb1, hb2⟩ hst rfl d_Dw_renew_78 (fun r σ' h => by obtain ⟨x, rfl, h⟩ := h; exact kk x σ' h) kx
theorem c_Dw_renew_85 {Ω : Om} {R R' : Room} {F : QF} {k n : Nat} {L st : List PV} {σ : Sto} {QX' : String → Sto → Prop} {Q : Int → Sto → Prop} {a : Nat} (hc : MC Ω M_Rev_dropAll R' (RI Q) QX' σ [xr (some a)]) (hk : sK σ a = 9) (hr1 : R'.frames + 1 ≤ R.frames) (hr2 : 8 + (3 + 11) + R'.locals ≤ R.locals) (hb1 : k + R'.cells ≤ R.cells) (hb2 : n + R'.slots ≤ R.slots) (hst : (st.map catP).sum ≤ 8) (kk : ∀ x σ', Q x σ' → Aw Ω M_Dw_renew R F (k + R'.cells) (n + R'.slots) 88 L (xi x :: st) σ') (kx : ∀ E σ', QX' E σ' → Ax Ω M_Dw_renew R F (k + R'.cells) (n + R'.slots) 85 L st σ' E) : Aw Ω M_Dw_renew R F k n 85 L (xr (some a) :: st) σ :=
  Aw.callV (As := []) (stk := xr (some a) :: st) (nn := 0) 8 M_Rev_dropAll hc ok_Rev_dropAll rfl (by decide) rfl hk ml_Dw_355 im_Rev_dropAll se_Rev_dropAll ⟨hr1, hr2⟩ rfl ⟨hb1, hb2⟩ hst rfl d_Dw_renew_85 (fun r σ' h => by obtain ⟨x, rfl, h⟩ := h; exact kk x σ' h) kx
theorem r_Dw_renew_88 {Ω : Om} {R : Room} {k n : Nat} {L : List PV} {σ : Sto} {QR : Option PV → Sto → Prop} {QX : String → Sto → Prop} {x : Int} (h : QR (some (xi x)) σ) (h1 : k ≤ R.cells) (h2 : n ≤ R.slots) : Aw Ω M_Dw_renew R (MF Ω R QR QX) k n 88 L [xi x] σ := Aw.iret rfl h h1 h2 d_Dw_renew_88
theorem e_Dw_review {Ω : Om} {R : Room} {QR : Option PV → Sto → Prop} {QX : String → Sto → Prop} {σ : Sto} {a0 : Nat} {v1 : Int} {v2 : Int} (h : Aw Ω M_Dw_review R (MF Ω R QR QX) 0 0 0 [xr (some a0), xi v1, xi v2] [] σ) : MC Ω M_Dw_review R QR QX σ [xr (some a0), xi v1, xi v2] := MC.body (by decide +kernel) rfl (Nat.le_of_ble_eq_true rfl) rfl h
theorem b_Dw_review_0 {Ω : Om} {R : Room} {F : QF} {k n : Nat} {σ : Sto} {a0 : Nat} {v1 : Int} {v2 : Int} (h : Aw Ω M_Dw_review R F k n 2 [xr (some a0), xi v1, xi v2] [xi v1, xr (some a0)] σ) : Aw Ω M_Dw_review R F k n 0 [xr (some a0), xi v1, xi v2] [] σ := by
  refine Aw.aload_n rfl d_Dw_review_0 ?_
  refine Aw.iload_n rfl d_Dw_review_1 ?_
  exact h
theorem b_Dw_review_5 {Ω : Om} {R : Room} {F : QF} {k n : Nat} {σ : Sto} {a0 : Nat} {v1 : Int} {v2 : Int} {s0 : Nat} (h : Q32 v1 ∧ ((¬ v1 = (0 : Int) → Q32 v2 ∧ ((v2 = (-1 : Int) → sK σ a0 = 1 ∧ (Q32 (fI σ 14 a0) → (((fI σ 14 a0) < (20 : Int) → (∃ b5 : Nat, fR σ 2 a0 = some b5 ∧ (Q32 (fI σ 14 a0) → sK σ b5 = 57 ∧ 0 ≤ (fI σ 14 a0) ∧ (fI σ 14 a0) < sZ σ b5 ∧ Aw Ω M_Dw_review R F k n 63 [xr (some a0), xi v1, xi v2] [xi v2, xi v1, xr (aR σ b5 (fI σ 14 a0).toNat)] σ))) ∧ (¬ (fI σ 14 a0) < (20 : Int) → Aw Ω M_Dw_review R F k n 41 [xr (some a0), xi v1, xi v2] [] σ)))) ∧ (¬ v2 = (-1 : Int) → Aw Ω M_Dw_review R F k n 28 [xr (some a0), xi v1, xi v2] [xi v2, xr (some a0)] σ))) ∧ (v1 = (0 : Int) → Aw Ω M_Dw_review R F k n 10 [xr (some a0), xi v1, xi v2] [] σ))) : Aw Ω M_Dw_review R F k n 5 [xr (some a0), xi v1, xi v2] [xr (some s0)] σ := by
  refine Aw.pop rfl d_Dw_review_5 ?_
  refine Aw.iload_n rfl d_Dw_review_6 ?_
  obtain ⟨o1, h⟩ := h
  obtain ⟨ht, hf⟩ := h
  refine Aw.if_ne (tgt := 21) o1 (by decide) d_Dw_review_7 (fun c13 => ?_) (fun c13 => ?_)
  · have h := ht c13
    refine Aw.iload_n rfl d_Dw_review_21 ?_
    refine Aw.iconst d_Dw_review_22 ?_
    obtain ⟨o2, h⟩ := h
    obtain ⟨ht, hf⟩ := h
    refine Aw.icmp_eq (tgt := 32) o2 ⟨by decide, by decide⟩ (by decide) d_Dw_review_23 (fun c12 => ?_) (fun c12 => ?_)
    · have h := ht c12
      refine Aw.aload_n rfl d_Dw_review_32 ?_
      obtain ⟨o3, h⟩ := h
      refine Aw.getI (f := 14) 0 14 fl_Dw_79 (by decide) (by decide) rfl rfl o3 d_Dw_review_33 (fun r4 => ?_)
      have h := h r4
      refine Aw.bipush (by decide) d_Dw_review_36 ?_
      obtain ⟨ht, hf⟩ := h
      refine Aw.icmp_lt (tgt := 52) r4 ⟨by decide, by decide⟩ (by decide) d_Dw_review_38 (fun c11 => ?_) (fun c11 => ?_)
      · have h := ht c11
        refine Aw.aload_n rfl d_Dw_review_52 ?_
        obtain ⟨b5, e6, h⟩ := h
        refine Aw.getRs (f := 2) 0 2 fl_Dw_23 (by decide) (by decide) rfl rfl o3 e6 d_Dw_review_53 ?_
        refine Aw.aload_n rfl d_Dw_review_56 ?_
        refine Aw.getI (f := 14) 0 14 fl_Dw_79 (by decide) (by decide) rfl rfl o3 d_Dw_review_57 (fun r7 => ?_)
        have h := h r7
        obtain ⟨o8, h⟩ := h
        obtain ⟨o9, o10, h⟩ := h
        refine Aw.aald 7 (by decide) (by decide) o8 o9 o10 d_Dw_review_60 ?_
        refine Aw.iload_n rfl d_Dw_review_61 ?_
        refine Aw.iload_n rfl d_Dw_review_62 ?_
        exact h
      · have h := hf c11
        exact h
    · have h := hf c12
      refine Aw.aload_n rfl d_Dw_review_26 ?_
      refine Aw.iload_n rfl d_Dw_review_27 ?_
      exact h
  · have h := hf c13
    exact h
theorem b_Dw_review_31 {Ω : Om} {R : Room} {F : QF} {k n : Nat} {σ : Sto} {a0 : Nat} {v1 : Int} {v2 : Int} {s0 : Nat} (h : sK σ a0 = 1 ∧ (Q32 (fI σ 14 a0) → (((fI σ 14 a0) < (20 : Int) → (∃ b3 : Nat, fR σ 2 a0 = some b3 ∧ (Q32 (fI σ 14 a0) → sK σ b3 = 57 ∧ 0 ≤ (fI σ 14 a0) ∧ (fI σ 14 a0) < sZ σ b3 ∧ Aw Ω M_Dw_review R F k n 63 [xr (some a0), xi v1, xi v2] [xi v2, xi v1, xr (aR σ b3 (fI σ 14 a0).toNat)] σ))) ∧ (¬ (fI σ 14 a0) < (20 : Int) → Aw Ω M_Dw_review R F k n 41 [xr (some a0), xi v1, xi v2] [] σ)))) : Aw Ω M_Dw_review R F k n 31 [xr (some a0), xi v1, xi v2] [xr (some s0)] σ := by
  refine Aw.pop rfl d_Dw_review_31 ?_
  refine Aw.aload_n rfl d_Dw_review_32 ?_
  obtain ⟨o1, h⟩ := h
  refine Aw.getI (f := 14) 0 14 fl_Dw_79 (by decide) (by decide) rfl rfl o1 d_Dw_review_33 (fun r2 => ?_)
  have h := h r2
  refine Aw.bipush (by decide) d_Dw_review_36 ?_
  obtain ⟨ht, hf⟩ := h
  refine Aw.icmp_lt (tgt := 52) r2 ⟨by decide, by decide⟩ (by decide) d_Dw_review_38 (fun c9 => ?_) (fun c9 => ?_)
  · have h := ht c9
    refine Aw.aload_n rfl d_Dw_review_52 ?_
    obtain ⟨b3, e4, h⟩ := h
    refine Aw.getRs (f := 2) 0 2 fl_Dw_23 (by decide) (by decide) rfl rfl o1 e4 d_Dw_review_53 ?_
    refine Aw.aload_n rfl d_Dw_review_56 ?_
    refine Aw.getI (f := 14) 0 14 fl_Dw_79 (by decide) (by decide) rfl rfl o1 d_Dw_review_57 (fun r5 => ?_)
    have h := h r5
    obtain ⟨o6, h⟩ := h
    obtain ⟨o7, o8, h⟩ := h
    refine Aw.aald 7 (by decide) (by decide) o6 o7 o8 d_Dw_review_60 ?_
    refine Aw.iload_n rfl d_Dw_review_61 ?_
    refine Aw.iload_n rfl d_Dw_review_62 ?_
    exact h
  · have h := hf c9
    exact h
theorem b_Dw_review_66 {Ω : Om} {R : Room} {F : QF} {k n : Nat} {σ : Sto} {a0 : Nat} {v1 : Int} {v2 : Int} (h : sK σ a0 = 1 ∧ (Q32 (fI σ 14 a0) → Q32 ((fI σ 14 a0) + 1) ∧ (Q32 (fI (uI σ 14 a0 ((fI σ 14 a0) + 1)) 14 a0) → Aw Ω M_Dw_review R F k n 82 [xr (some a0), xi v1, xi v2] [xi ((fI (uI σ 14 a0 ((fI σ 14 a0) + 1)) 14 a0) - 1)] (uI σ 14 a0 ((fI σ 14 a0) + 1))))) : Aw Ω M_Dw_review R F k n 66 [xr (some a0), xi v1, xi v2] [] σ := by
  refine Aw.aload_n rfl d_Dw_review_66 ?_
  refine Aw.dup rfl d_Dw_review_67 ?_
  obtain ⟨o1, h⟩ := h
  refine Aw.getI (f := 14) 0 14 fl_Dw_79 (by decide) (by decide) rfl rfl o1 d_Dw_review_68 (fun r2 => ?_)
  have h := h r2
  refine Aw.iconst d_Dw_review_71 ?_
  refine Aw.iadd d_Dw_review_72 ?_
  obtain ⟨o3, h⟩ := h
  refine Aw.putI (f := 14) 0 14 fl_Dw_79 (by decide) (by decide) rfl rfl o1 rfl o3 (Or.inl rfl) d_Dw_review_73 ?_
  refine Aw.aload_n rfl d_Dw_review_76 ?_
  refine Aw.getI (f := 14) 0 14 fl_Dw_79 (by decide) (by decide) rfl rfl o1 d_Dw_review_77 (fun r4 => ?_)
  have h := h r4
  refine Aw.iconst d_Dw_review_80 ?_
  refine Aw.isub d_Dw_review_81 ?_
  exact h
theorem c_Dw_review_2 {Ω : Om} {R R' : Room} {F : QF} {k n : Nat} {L st : List PV} {σ : Sto} {QX' : String → Sto → Prop} {Q : Option Nat → Sto → Prop} {a : Nat} {x0 : Int} (hc : MC Ω M_Dw_versionAt R' (RR Q) QX' σ [xr (some a), xi x0]) (hk : sK σ a = 1) (hr1 : R'.frames + 1 ≤ R.frames) (hr2 : 8 + (2 + 11) + R'.locals ≤ R.locals) (hb1 : k + R'.cells ≤ R.cells) (hb2 : n + R'.slots ≤ R.slots) (hst : (st.map catP).sum ≤ 8) (kk : ∀ x σ', Q x σ' → Aw Ω M_Dw_review R F (k + R'.cells) (n + R'.slots) 5 L (xr x :: st) σ') (kx : ∀ E σ', QX' E σ' → Ax Ω M_Dw_review R F (k + R'.cells) (n + R'.slots) 2 L st σ' E) : Aw Ω M_Dw_review R F k n 2 L (xi x0 :: xr (some a) :: st) σ :=
  Aw.callV (As := [xi x0]) (stk := xi x0 :: xr (some a) :: st) (nn := 1) 0 M_Dw_versionAt hc ok_Dw_versionAt rfl (by decide) rfl hk ml_Dw_91 im_Dw_versionAt se_Dw_versionAt ⟨hr1, hr2⟩ rfl ⟨hb1, hb2⟩ hst rfl d_Dw_review_2 (fun r σ' h => by obtain ⟨x, rfl, h⟩ := h; exact kk x σ' h) kx
theorem t_Dw_review_10 {Ω : Om} {R : Room} {k n : Nat} {L : List PV} {σ : Sto} {QR : Option PV → Sto → Prop} {QX : String → Sto → Prop} {st : List PV} (hRf : 5 < R.frames) (hRl : (st.map catP).sum + 82 ≤ R.locals) (hc : k + 1 ≤ R.cells) (hs : n + 6 ≤ R.slots) (hx : ∀ n', sN σ ≤ n' → QX "java/lang/IndexOutOfBoundsException" (nX σ n')) : Aw Ω M_Dw_review R (MF Ω R QR QX) k n 10 L st σ := Aw.throwSW (text := "the version 0 has no review") rfl (by decide +kernel) exn_f cl_Dw_294 exi_IndexOutOfBoundsException (List.mem_of_getElem? (i := 1397) (by decide +kernel)) exa_Dw_298 exg_Dw_298 d_Dw_review_10 d_Dw_review_13 d_Dw_review_14 d_Dw_review_17 d_Dw_review_20 hRf hRl hc hs hx
theorem c_Dw_review_28 {Ω : Om} {R R' : Room} {F : QF} {k n : Nat} {L st : List PV} {σ : Sto} {QX' : String → Sto → Prop} {Q : Option Nat → Sto → Prop} {a : Nat} {x0 : Int} (hc : MC Ω M_Dw_reviewAt R' (RR Q) QX' σ [xr (some a), xi x0]) (hk : sK σ a = 1) (hr1 : R'.frames + 1 ≤ R.frames) (hr2 : 8 + (2 + 11) + R'.locals ≤ R.locals) (hb1 : k + R'.cells ≤ R.cells) (hb2 : n + R'.slots ≤ R.slots) (hst : (st.map catP).sum ≤ 8) (kk : ∀ x σ', Q x σ' → Aw Ω M_Dw_review R F (k + R'.cells) (n + R'.slots) 31 L (xr x :: st) σ') (kx : ∀ E σ', QX' E σ' → Ax Ω M_Dw_review R F (k + R'.cells) (n + R'.slots) 28 L st σ' E) : Aw Ω M_Dw_review R F k n 28 L (xi x0 :: xr (some a) :: st) σ :=
  Aw.callV (As := [xi x0]) (stk := xi x0 :: xr (some a) :: st) (nn := 1) 0 M_Dw_reviewAt hc ok_Dw_reviewAt rfl (by decide) rfl hk ml_Dw_318 im_Dw_reviewAt se_Dw_reviewAt ⟨hr1, hr2⟩ rfl ⟨hb1, hb2⟩ hst rfl d_Dw_review_28 (fun r σ' h => by obtain ⟨x, rfl, h⟩ := h; exact kk x σ' h) kx
theorem t_Dw_review_41 {Ω : Om} {R : Room} {k n : Nat} {L : List PV} {σ : Sto} {QR : Option PV → Sto → Prop} {QX : String → Sto → Prop} {st : List PV} (hRf : 5 < R.frames) (hRl : (st.map catP).sum + 82 ≤ R.locals) (hc : k + 1 ≤ R.cells) (hs : n + 6 ≤ R.slots) (hx : ∀ n', sN σ ≤ n' → QX "java/lang/IllegalStateException" (nX σ n')) : Aw Ω M_Dw_review R (MF Ω R QR QX) k n 41 L st σ := Aw.throwSW (text := "there are 20 reviews") rfl (by decide +kernel) exn_f cl_Dw_132 exi_IllegalStateException (List.mem_of_getElem? (i := 1403) (by decide +kernel)) exa_Dw_136 exg_Dw_136 d_Dw_review_41 d_Dw_review_44 d_Dw_review_45 d_Dw_review_48 d_Dw_review_51 hRf hRl hc hs hx
theorem c_Dw_review_63 {Ω : Om} {R R' : Room} {F : QF} {k n : Nat} {L st : List PV} {σ : Sto} {QX' : String → Sto → Prop} {Q : Sto → Prop} {a : Nat} {x0 : Int} {x1 : Int} (hc : MC Ω M_Rev_startOn R' (RV Q) QX' σ [xr (some a), xi x0, xi x1]) (hk : sK σ a = 9) (hr1 : R'.frames + 1 ≤ R.frames) (hr2 : 8 + (3 + 11) + R'.locals ≤ R.locals) (hb1 : k + R'.cells ≤ R.cells) (hb2 : n + R'.slots ≤ R.slots) (hst : (st.map catP).sum ≤ 8) (kk : ∀ σ', Q σ' → Aw Ω M_Dw_review R F (k + R'.cells) (n + R'.slots) 66 L st σ') (kx : ∀ E σ', QX' E σ' → Ax Ω M_Dw_review R F (k + R'.cells) (n + R'.slots) 63 L st σ' E) : Aw Ω M_Dw_review R F k n 63 L (xi x1 :: xi x0 :: xr (some a) :: st) σ :=
  Aw.callV (As := [xi x0, xi x1]) (stk := xi x1 :: xi x0 :: xr (some a) :: st) (nn := 2) 8 M_Rev_startOn hc ok_Rev_startOn rfl (by decide) rfl hk ml_Dw_324 im_Rev_startOn se_Rev_startOn ⟨hr1, hr2⟩ rfl ⟨hb1, hb2⟩ hst rfl d_Dw_review_63 (fun r σ' h => by obtain ⟨rfl, h⟩ := h; exact kk σ' h) kx
theorem r_Dw_review_82 {Ω : Om} {R : Room} {k n : Nat} {L : List PV} {σ : Sto} {QR : Option PV → Sto → Prop} {QX : String → Sto → Prop} {x : Int} (h : QR (some (xi x)) σ) (h1 : k ≤ R.cells) (h2 : n ≤ R.slots) : Aw Ω M_Dw_review R (MF Ω R QR QX) k n 82 L [xi x] σ := Aw.iret rfl h h1 h2 d_Dw_review_82
theorem e_Dw_reviewAt {Ω : Om} {R : Room} {QR : Option PV → Sto → Prop} {QX : String → Sto → Prop} {σ : Sto} {a0 : Nat} {v1 : Int} (h : Aw Ω M_Dw_reviewAt R (MF Ω R QR QX) 0 0 0 [xr (some a0), xi v1] [] σ) : MC Ω M_Dw_reviewAt R QR QX σ [xr (some a0), xi v1] := MC.body (by decide +kernel) rfl (Nat.le_of_ble_eq_true rfl) rfl h
theorem b_Dw_reviewAt_0 {Ω : Om} {R : Room} {F : QF} {k n : Nat} {σ : Sto} {a0 : Nat} {v1 : Int} (h : Q32 v1 ∧ ((v1 < (0 : Int) → Aw Ω M_Dw_reviewAt R F k n 12 [xr (some a0), xi v1] [] σ) ∧ (¬ v1 < (0 : Int) → sK σ a0 = 1 ∧ (Q32 (fI σ 14 a0) → ((v1 < (fI σ 14 a0) → (∃ b4 : Nat, fR σ 2 a0 = some b4 ∧ sK σ b4 = 57 ∧ 0 ≤ v1 ∧ v1 < sZ σ b4 ∧ Aw Ω M_Dw_reviewAt R F k n 29 [xr (some a0), xi v1] [xr (aR σ b4 (v1).toNat)] σ)) ∧ (¬ v1 < (fI σ 14 a0) → Aw Ω M_Dw_reviewAt R F k n 12 [xr (some a0), xi v1] [] σ)))))) : Aw Ω M_Dw_reviewAt R F k n 0 [xr (some a0), xi v1] [] σ := by
  refine Aw.iload_n rfl d_Dw_reviewAt_0 ?_
  obtain ⟨o1, h⟩ := h
  obtain ⟨ht, hf⟩ := h
  refine Aw.if_lt (tgt := 12) o1 (by decide) d_Dw_reviewAt_1 (fun c10 => ?_) (fun c10 => ?_)
  · have h := ht c10
    exact h
  · have h := hf c10
    refine Aw.iload_n rfl d_Dw_reviewAt_4 ?_
    refine Aw.aload_n rfl d_Dw_reviewAt_5 ?_
    obtain ⟨o2, h⟩ := h
    refine Aw.getI (f := 14) 0 14 fl_Dw_79 (by decide) (by decide) rfl rfl o2 d_Dw_reviewAt_6 (fun r3 => ?_)
    have h := h r3
    obtain ⟨ht, hf⟩ := h
    refine Aw.icmp_lt (tgt := 23) o1 r3 (by decide) d_Dw_reviewAt_9 (fun c9 => ?_) (fun c9 => ?_)
    · have h := ht c9
      refine Aw.aload_n rfl d_Dw_reviewAt_23 ?_
      obtain ⟨b4, e5, h⟩ := h
      refine Aw.getRs (f := 2) 0 2 fl_Dw_23 (by decide) (by decide) rfl rfl o2 e5 d_Dw_reviewAt_24 ?_
      refine Aw.iload_n rfl d_Dw_reviewAt_27 ?_
      obtain ⟨o6, h⟩ := h
      obtain ⟨o7, o8, h⟩ := h
      refine Aw.aald 7 (by decide) (by decide) o6 o7 o8 d_Dw_reviewAt_28 ?_
      exact h
    · have h := hf c9
      exact h
theorem t_Dw_reviewAt_12 {Ω : Om} {R : Room} {k n : Nat} {L : List PV} {σ : Sto} {QR : Option PV → Sto → Prop} {QX : String → Sto → Prop} {st : List PV} (hRf : 5 < R.frames) (hRl : (st.map catP).sum + 82 ≤ R.locals) (hc : k + 1 ≤ R.cells) (hs : n + 6 ≤ R.slots) (hx : ∀ n', sN σ ≤ n' → QX "java/lang/IndexOutOfBoundsException" (nX σ n')) : Aw Ω M_Dw_reviewAt R (MF Ω R QR QX) k n 12 L st σ := Aw.throwSW (text := "there is no such review") rfl (by decide +kernel) exn_f cl_Dw_294 exi_IndexOutOfBoundsException (List.mem_of_getElem? (i := 1402) (by decide +kernel)) exa_Dw_298 exg_Dw_298 d_Dw_reviewAt_12 d_Dw_reviewAt_15 d_Dw_reviewAt_16 d_Dw_reviewAt_19 d_Dw_reviewAt_22 hRf hRl hc hs hx
theorem r_Dw_reviewAt_29 {Ω : Om} {R : Room} {k n : Nat} {L : List PV} {σ : Sto} {QR : Option PV → Sto → Prop} {QX : String → Sto → Prop} {x : Option Nat} (h : QR (some (xr x)) σ) (h1 : k ≤ R.cells) (h2 : n ≤ R.slots) : Aw Ω M_Dw_reviewAt R (MF Ω R QR QX) k n 29 L [xr x] σ := Aw.aret rfl (by first | exact Or.inl ⟨_, rfl⟩ | exact Or.inr ⟨_, rfl⟩) h h1 h2 d_Dw_reviewAt_29
theorem e_Dw_reviewState {Ω : Om} {R : Room} {QR : Option PV → Sto → Prop} {QX : String → Sto → Prop} {σ : Sto} {a0 : Nat} {v1 : Int} (h : Aw Ω M_Dw_reviewState R (MF Ω R QR QX) 0 0 0 [xr (some a0), xi v1] [] σ) : MC Ω M_Dw_reviewState R QR QX σ [xr (some a0), xi v1] := MC.body (by decide +kernel) rfl (Nat.le_of_ble_eq_true rfl) rfl h
theorem b_Dw_reviewState_0 {Ω : Om} {R : Room} {F : QF} {k n : Nat} {σ : Sto} {a0 : Nat} {v1 : Int} (h : Aw Ω M_Dw_reviewState R F k n 2 [xr (some a0), xi v1] [xi v1, xr (some a0)] σ) : Aw Ω M_Dw_reviewState R F k n 0 [xr (some a0), xi v1] [] σ := by
  refine Aw.aload_n rfl d_Dw_reviewState_0 ?_
  refine Aw.iload_n rfl d_Dw_reviewState_1 ?_
  exact h
theorem c_Dw_reviewState_2 {Ω : Om} {R R' : Room} {F : QF} {k n : Nat} {L st : List PV} {σ : Sto} {QX' : String → Sto → Prop} {Q : Option Nat → Sto → Prop} {a : Nat} {x0 : Int} (hc : MC Ω M_Dw_reviewAt R' (RR Q) QX' σ [xr (some a), xi x0]) (hk : sK σ a = 1) (hr1 : R'.frames + 1 ≤ R.frames) (hr2 : 8 + (2 + 11) + R'.locals ≤ R.locals) (hb1 : k + R'.cells ≤ R.cells) (hb2 : n + R'.slots ≤ R.slots) (hst : (st.map catP).sum ≤ 8) (kk : ∀ x σ', Q x σ' → Aw Ω M_Dw_reviewState R F (k + R'.cells) (n + R'.slots) 5 L (xr x :: st) σ') (kx : ∀ E σ', QX' E σ' → Ax Ω M_Dw_reviewState R F (k + R'.cells) (n + R'.slots) 2 L st σ' E) : Aw Ω M_Dw_reviewState R F k n 2 L (xi x0 :: xr (some a) :: st) σ :=
  Aw.callV (As := [xi x0]) (stk := xi x0 :: xr (some a) :: st) (nn := 1) 0 M_Dw_reviewAt hc ok_Dw_reviewAt rfl (by decide) rfl hk ml_Dw_318 im_Dw_reviewAt se_Dw_reviewAt ⟨hr1, hr2⟩ rfl ⟨hb1, hb2⟩ hst rfl d_Dw_reviewState_2 (fun r σ' h => by obtain ⟨x, rfl, h⟩ := h; exact kk x σ' h) kx
theorem c_Dw_reviewState_5 {Ω : Om} {R R' : Room} {F : QF} {k n : Nat} {L st : List PV} {σ : Sto} {QX' : String → Sto → Prop} {Q : Int → Sto → Prop} {a : Nat} (hc : MC Ω M_Rev_state R' (RI Q) QX' σ [xr (some a)]) (hk : sK σ a = 9) (hr1 : R'.frames + 1 ≤ R.frames) (hr2 : 8 + (3 + 11) + R'.locals ≤ R.locals) (hb1 : k + R'.cells ≤ R.cells) (hb2 : n + R'.slots ≤ R.slots) (hst : (st.map catP).sum ≤ 8) (kk : ∀ x σ', Q x σ' → Aw Ω M_Dw_reviewState R F (k + R'.cells) (n + R'.slots) 8 L (xi x :: st) σ') (kx : ∀ E σ', QX' E σ' → Ax Ω M_Dw_reviewState R F (k + R'.cells) (n + R'.slots) 5 L st σ' E) : Aw Ω M_Dw_reviewState R F k n 5 L (xr (some a) :: st) σ :=
  Aw.callV (As := []) (stk := xr (some a) :: st) (nn := 0) 8 M_Rev_state hc ok_Rev_state rfl (by decide) rfl hk ml_Dw_343 im_Rev_state se_Rev_state ⟨hr1, hr2⟩ rfl ⟨hb1, hb2⟩ hst rfl d_Dw_reviewState_5 (fun r σ' h => by obtain ⟨x, rfl, h⟩ := h; exact kk x σ' h) kx
theorem r_Dw_reviewState_8 {Ω : Om} {R : Room} {k n : Nat} {L : List PV} {σ : Sto} {QR : Option PV → Sto → Prop} {QX : String → Sto → Prop} {x : Int} (h : QR (some (xi x)) σ) (h1 : k ≤ R.cells) (h2 : n ≤ R.slots) : Aw Ω M_Dw_reviewState R (MF Ω R QR QX) k n 8 L [xi x] σ := Aw.iret rfl h h1 h2 d_Dw_reviewState_8
theorem e_Dw_settle {Ω : Om} {R : Room} {QR : Option PV → Sto → Prop} {QX : String → Sto → Prop} {σ : Sto} {a0 : Nat} {v1 : Int} {v2 : Int} (h : Aw Ω M_Dw_settle R (MF Ω R QR QX) 0 0 0 [xr (some a0), xi v1, xi v2] [] σ) : MC Ω M_Dw_settle R QR QX σ [xr (some a0), xi v1, xi v2] := MC.body (by decide +kernel) rfl (Nat.le_of_ble_eq_true rfl) rfl h
theorem b_Dw_settle_0 {Ω : Om} {R : Room} {F : QF} {k n : Nat} {σ : Sto} {a0 : Nat} {v1 : Int} {v2 : Int} (h : Aw Ω M_Dw_settle R F k n 2 [xr (some a0), xi v1, xi v2] [xi v1, xr (some a0)] σ) : Aw Ω M_Dw_settle R F k n 0 [xr (some a0), xi v1, xi v2] [] σ := by
  refine Aw.aload_n rfl d_Dw_settle_0 ?_
  refine Aw.iload_n rfl d_Dw_settle_1 ?_
  exact h
theorem b_Dw_settle_5 {Ω : Om} {R : Room} {F : QF} {k n : Nat} {σ : Sto} {a0 : Nat} {v1 : Int} {v2 : Int} (h : Q32 v2 ∧ ((v2 < (0 : Int) → Aw Ω M_Dw_settle R F k n 14 [xr (some a0), xi v1, xi v2] [] σ) ∧ (¬ v2 < (0 : Int) → ((v2 ≤ (4 : Int) → sK σ a0 = 1 ∧ (∃ b3 : Nat, fR σ 8 a0 = some b3 ∧ Aw Ω M_Dw_settle R F k n 30 [xr (some a0), xi v1, xi v2] [xi v1, xr (some b3)] σ)) ∧ (¬ v2 ≤ (4 : Int) → Aw Ω M_Dw_settle R F k n 14 [xr (some a0), xi v1, xi v2] [] σ))))) : Aw Ω M_Dw_settle R F k n 5 [xr (some a0), xi v1, xi v2] [] σ := by
  refine Aw.iload_n rfl d_Dw_settle_5 ?_
  obtain ⟨o1, h⟩ := h
  obtain ⟨ht, hf⟩ := h
  refine Aw.if_lt (tgt := 14) o1 (by decide) d_Dw_settle_6 (fun c6 => ?_) (fun c6 => ?_)
  · have h := ht c6
    exact h
  · have h := hf c6
    refine Aw.iload_n rfl d_Dw_settle_9 ?_
    refine Aw.iconst d_Dw_settle_10 ?_
    obtain ⟨ht, hf⟩ := h
    refine Aw.icmp_le (tgt := 25) o1 ⟨by decide, by decide⟩ (by decide) d_Dw_settle_11 (fun c5 => ?_) (fun c5 => ?_)
    · have h := ht c5
      refine Aw.aload_n rfl d_Dw_settle_25 ?_
      obtain ⟨o2, h⟩ := h
      obtain ⟨b3, e4, h⟩ := h
      refine Aw.getRs (f := 8) 0 8 fl_Dw_58 (by decide) (by decide) rfl rfl o2 e4 d_Dw_settle_26 ?_
      refine Aw.iload_n rfl d_Dw_settle_29 ?_
      exact h
    · have h := hf c5
      exact h
theorem b_Dw_settle_33 {Ω : Om} {R : Room} {F : QF} {k n : Nat} {σ : Sto} {a0 : Nat} {v1 : Int} {v2 : Int} {s0 : Int} (h : Q32 s0 ∧ ((s0 = (0 : Int) → sK σ a0 = 1 ∧ (∃ b3 : Nat, fR σ 8 a0 = some b3 ∧ sK σ b3 = 4 ∧ (∃ b6 : Nat, fR σ 192 b3 = some b6 ∧ Aw Ω M_Dw_settle R F k n 54 [xr (some a0), xi v1, xi v2] [xr (some b6)] σ))) ∧ (¬ s0 = (0 : Int) → Aw Ω M_Dw_settle R F k n 36 [xr (some a0), xi v1, xi v2] [] σ))) : Aw Ω M_Dw_settle R F k n 33 [xr (some a0), xi v1, xi v2] [xi s0] σ := by
  obtain ⟨o1, h⟩ := h
  obtain ⟨ht, hf⟩ := h
  refine Aw.if_eq (tgt := 47) o1 (by decide) d_Dw_settle_33 (fun c8 => ?_) (fun c8 => ?_)
  · have h := ht c8
    refine Aw.aload_n rfl d_Dw_settle_47 ?_
    obtain ⟨o2, h⟩ := h
    obtain ⟨b3, e4, h⟩ := h
    refine Aw.getRs (f := 8) 0 8 fl_Dw_58 (by decide) (by decide) rfl rfl o2 e4 d_Dw_settle_48 ?_
    obtain ⟨o5, h⟩ := h
    obtain ⟨b6, e7, h⟩ := h
    refine Aw.getRs (f := 192) 3 0 fl_Dw_111 (by decide) (by decide) rfl rfl o5 e7 d_Dw_settle_51 ?_
    exact h
  · have h := hf c8
    exact h
theorem b_Dw_settle_57 {Ω : Om} {R : Room} {F : QF} {k n : Nat} {σ : Sto} {a0 : Nat} {v1 : Int} {v2 : Int} {s0 : Int} (h : sK σ a0 = 1 ∧ (∃ b2 : Nat, fR σ 8 a0 = some b2 ∧ Aw Ω M_Dw_settle R F k n 63 [xr (some a0), xi v1, xi v2] [xi v2, xi v1, xr (some b2), xi s0] σ)) : Aw Ω M_Dw_settle R F k n 57 [xr (some a0), xi v1, xi v2] [xi s0] σ := by
  refine Aw.aload_n rfl d_Dw_settle_57 ?_
  obtain ⟨o1, h⟩ := h
  obtain ⟨b2, e3, h⟩ := h
  refine Aw.getRs (f := 8) 0 8 fl_Dw_58 (by decide) (by decide) rfl rfl o1 e3 d_Dw_settle_58 ?_
  refine Aw.iload_n rfl d_Dw_settle_61 ?_
  refine Aw.iload_n rfl d_Dw_settle_62 ?_
  exact h
theorem b_Dw_settle_66 {Ω : Om} {R : Room} {F : QF} {k n : Nat} {σ : Sto} {a0 : Nat} {v1 : Int} {v2 : Int} {s0 : Int} {s1 : Int} (h : Q32 (s0 + s1) ∧ (((s0 + s1) ≤ (20 : Int) → Aw Ω M_Dw_settle R F k n 83 [xr (some a0), xi v1, xi v2] [xr (some a0)] σ) ∧ (¬ (s0 + s1) ≤ (20 : Int) → Aw Ω M_Dw_settle R F k n 72 [xr (some a0), xi v1, xi v2] [] σ))) : Aw Ω M_Dw_settle R F k n 66 [xr (some a0), xi v1, xi v2] [xi s1, xi s0] σ := by
  refine Aw.iadd d_Dw_settle_66 ?_
  refine Aw.bipush (by decide) d_Dw_settle_67 ?_
  obtain ⟨o1, h⟩ := h
  obtain ⟨ht, hf⟩ := h
  refine Aw.icmp_le (tgt := 82) o1 ⟨by decide, by decide⟩ (by decide) d_Dw_settle_69 (fun c2 => ?_) (fun c2 => ?_)
  · have h := ht c2
    refine Aw.aload_n rfl d_Dw_settle_82 ?_
    exact h
  · have h := hf c2
    exact h
theorem b_Dw_settle_86 {Ω : Om} {R : Room} {F : QF} {k n : Nat} {σ : Sto} {a0 : Nat} {v1 : Int} {v2 : Int} (h : sK σ a0 = 1 ∧ (∃ b2 : Nat, fR σ 8 a0 = some b2 ∧ k + 1 ≤ R.cells ∧ n + 6 ≤ R.slots ∧ (∀ σ6 : Sto, σ6 = (nO σ 5 0) → Aw Ω M_Dw_settle R F (k + 1) (n + 6) 99 [xr (some a0), xi v1, xi v2] [xr none, xl 0, xi v2, xi v1, xi 4, xr (some (sN σ)), xr (some (sN σ)), xr (some b2)] σ6))) : Aw Ω M_Dw_settle R F k n 86 [xr (some a0), xi v1, xi v2] [] σ := by
  refine Aw.aload_n rfl d_Dw_settle_86 ?_
  obtain ⟨o1, h⟩ := h
  obtain ⟨b2, e3, h⟩ := h
  refine Aw.getRs (f := 8) 0 8 fl_Dw_58 (by decide) (by decide) rfl rfl o1 e3 d_Dw_settle_87 ?_
  obtain ⟨o4, o5, h⟩ := h
  refine Aw.new 4 (by decide) cl_Dw_139 ins_4 ini_4 o4 o5 d_Dw_settle_90 ?_
  obtain ⟨σ6, hσ6⟩ : ∃ z, z = (nO σ 5 0) := ⟨_, rfl⟩
  refine Aw.toS (σ' := σ6) hσ6 ?_
  have h := h σ6 hσ6
  refine Aw.dup rfl d_Dw_settle_93 ?_
  refine Aw.iconst d_Dw_settle_94 ?_
  refine Aw.iload_n rfl d_Dw_settle_95 ?_
  refine Aw.iload_n rfl d_Dw_settle_96 ?_
  refine Aw.lconst (w := 0) (by decide) d_Dw_settle_97 ?_
  refine Aw.null d_Dw_settle_98 ?_
  exact h
theorem b_Dw_settle_105 {Ω : Om} {R : Room} {F : QF} {k n : Nat} {σ : Sto} {a0 : Nat} {v1 : Int} {v2 : Int} {s0 : Int} (h : sK σ a0 = 1 ∧ (Q32 (fI σ 16 a0) → Q32 ((fI σ 16 a0) + 1) ∧ (∃ b4 : Nat, fR σ 8 a0 = some b4 ∧ Aw Ω M_Dw_settle R F k n 120 [xr (some a0), xi v1, xi v2] [xr (some b4)] (uI σ 16 a0 ((fI σ 16 a0) + 1))))) : Aw Ω M_Dw_settle R F k n 105 [xr (some a0), xi v1, xi v2] [xi s0] σ := by
  refine Aw.pop rfl d_Dw_settle_105 ?_
  refine Aw.aload_n rfl d_Dw_settle_106 ?_
  refine Aw.dup rfl d_Dw_settle_107 ?_
  obtain ⟨o1, h⟩ := h
  refine Aw.getI (f := 16) 0 16 fl_Dw_85 (by decide) (by decide) rfl rfl o1 d_Dw_settle_108 (fun r2 => ?_)
  have h := h r2
  refine Aw.iconst d_Dw_settle_111 ?_
  refine Aw.iadd d_Dw_settle_112 ?_
  obtain ⟨o3, h⟩ := h
  refine Aw.putI (f := 16) 0 16 fl_Dw_85 (by decide) (by decide) rfl rfl o1 rfl o3 (Or.inl rfl) d_Dw_settle_113 ?_
  refine Aw.aload_n rfl d_Dw_settle_116 ?_
  obtain ⟨b4, e5, h⟩ := h
  refine Aw.getRs (f := 8) 0 8 fl_Dw_58 (by decide) (by decide) rfl rfl o1 e5 d_Dw_settle_117 ?_
  exact h
theorem c_Dw_settle_2 {Ω : Om} {R R' : Room} {F : QF} {k n : Nat} {L st : List PV} {σ : Sto} {QX' : String → Sto → Prop} {Q : Sto → Prop} {a : Nat} {x0 : Int} (hc : MC Ω M_Dw_checkConflict R' (RV Q) QX' σ [xr (some a), xi x0]) (hk : sK σ a = 1) (hr1 : R'.frames + 1 ≤ R.frames) (hr2 : 8 + (2 + 11) + R'.locals ≤ R.locals) (hb1 : k + R'.cells ≤ R.cells) (hb2 : n + R'.slots ≤ R.slots) (hst : (st.map catP).sum ≤ 8) (kk : ∀ σ', Q σ' → Aw Ω M_Dw_settle R F (k + R'.cells) (n + R'.slots) 5 L st σ') (kx : ∀ E σ', QX' E σ' → Ax Ω M_Dw_settle R F (k + R'.cells) (n + R'.slots) 2 L st σ' E) : Aw Ω M_Dw_settle R F k n 2 L (xi x0 :: xr (some a) :: st) σ :=
  Aw.callV (As := [xi x0]) (stk := xi x0 :: xr (some a) :: st) (nn := 1) 0 M_Dw_checkConflict hc ok_Dw_checkConflict rfl (by decide) rfl hk ml_Dw_255 im_Dw_checkConflict se_Dw_checkConflict ⟨hr1, hr2⟩ rfl ⟨hb1, hb2⟩ hst rfl d_Dw_settle_2 (fun r σ' h => by obtain ⟨rfl, h⟩ := h; exact kk σ' h) kx
theorem t_Dw_settle_14 {Ω : Om} {R : Room} {k n : Nat} {L : List PV} {σ : Sto} {QR : Option PV → Sto → Prop} {QX : String → Sto → Prop} {st : List PV} (hRf : 5 < R.frames) (hRl : (st.map catP).sum + 82 ≤ R.locals) (hc : k + 1 ≤ R.cells) (hs : n + 6 ≤ R.slots) (hx : ∀ n', sN σ ≤ n' → QX "java/lang/IllegalArgumentException" (nX σ n')) : Aw Ω M_Dw_settle R (MF Ω R QR QX) k n 14 L st σ := Aw.throwSW (text := "there is no such way to settle") rfl (by decide +kernel) exn_f cl_Dw_241 exi_IllegalArgumentException (List.mem_of_getElem? (i := 1262) (by decide +kernel)) exa_Dw_245 exg_Dw_245 d_Dw_settle_14 d_Dw_settle_17 d_Dw_settle_18 d_Dw_settle_21 d_Dw_settle_24 hRf hRl hc hs hx
theorem c_Dw_settle_30 {Ω : Om} {R R' : Room} {F : QF} {k n : Nat} {L st : List PV} {σ : Sto} {QX' : String → Sto → Prop} {Q : Int → Sto → Prop} {a : Nat} {x0 : Int} (hc : MC Ω M_Drf_isSettled R' (RI Q) QX' σ [xr (some a), xi x0]) (hk : sK σ a = 4) (hr1 : R'.frames + 1 ≤ R.frames) (hr2 : 8 + (2 + 11) + R'.locals ≤ R.locals) (hb1 : k + R'.cells ≤ R.cells) (hb2 : n + R'.slots ≤ R.slots) (hst : (st.map catP).sum ≤ 8) (kk : ∀ x σ', Q x σ' → Aw Ω M_Dw_settle R F (k + R'.cells) (n + R'.slots) 33 L (xi x :: st) σ') (kx : ∀ E σ', QX' E σ' → Ax Ω M_Dw_settle R F (k + R'.cells) (n + R'.slots) 30 L st σ' E) : Aw Ω M_Dw_settle R F k n 30 L (xi x0 :: xr (some a) :: st) σ :=
  Aw.callV (As := [xi x0]) (stk := xi x0 :: xr (some a) :: st) (nn := 1) 3 M_Drf_isSettled hc ok_Drf_isSettled rfl (by decide) rfl hk ml_Dw_265 im_Drf_isSettled se_Drf_isSettled ⟨hr1, hr2⟩ rfl ⟨hb1, hb2⟩ hst rfl d_Dw_settle_30 (fun r σ' h => by obtain ⟨x, rfl, h⟩ := h; exact kk x σ' h) kx
theorem t_Dw_settle_36 {Ω : Om} {R : Room} {k n : Nat} {L : List PV} {σ : Sto} {QR : Option PV → Sto → Prop} {QX : String → Sto → Prop} {st : List PV} (hRf : 5 < R.frames) (hRl : (st.map catP).sum + 82 ≤ R.locals) (hc : k + 1 ≤ R.cells) (hs : n + 6 ≤ R.slots) (hx : ∀ n', sN σ ≤ n' → QX "java/lang/IllegalStateException" (nX σ n')) : Aw Ω M_Dw_settle R (MF Ω R QR QX) k n 36 L st σ := Aw.throwSW (text := "the conflict is settled") rfl (by decide +kernel) exn_f cl_Dw_132 exi_IllegalStateException (List.mem_of_getElem? (i := 1264) (by decide +kernel)) exa_Dw_136 exg_Dw_136 d_Dw_settle_36 d_Dw_settle_39 d_Dw_settle_40 d_Dw_settle_43 d_Dw_settle_46 hRf hRl hc hs hx
theorem c_Dw_settle_54 {Ω : Om} {R R' : Room} {F : QF} {k n : Nat} {L st : List PV} {σ : Sto} {QX' : String → Sto → Prop} {Q : Int → Sto → Prop} {a : Nat} (hc : MC Ω M_Txt_size R' (RI Q) QX' σ [xr (some a)]) (hk : sK σ a = 10) (hr1 : R'.frames + 1 ≤ R.frames) (hr2 : 8 + (1 + 11) + R'.locals ≤ R.locals) (hb1 : k + R'.cells ≤ R.cells) (hb2 : n + R'.slots ≤ R.slots) (hst : (st.map catP).sum ≤ 8) (kk : ∀ x σ', Q x σ' → Aw Ω M_Dw_settle R F (k + R'.cells) (n + R'.slots) 57 L (xi x :: st) σ') (kx : ∀ E σ', QX' E σ' → Ax Ω M_Dw_settle R F (k + R'.cells) (n + R'.slots) 54 L st σ' E) : Aw Ω M_Dw_settle R F k n 54 L (xr (some a) :: st) σ :=
  Aw.callV (As := []) (stk := xr (some a) :: st) (nn := 0) 9 M_Txt_size hc ok_Txt_size rfl (by decide) rfl hk ml_Dw_112 im_Txt_size se_Txt_size ⟨hr1, hr2⟩ rfl ⟨hb1, hb2⟩ hst rfl d_Dw_settle_54 (fun r σ' h => by obtain ⟨x, rfl, h⟩ := h; exact kk x σ' h) kx
theorem c_Dw_settle_63 {Ω : Om} {R R' : Room} {F : QF} {k n : Nat} {L st : List PV} {σ : Sto} {QX' : String → Sto → Prop} {Q : Int → Sto → Prop} {a : Nat} {x0 : Int} {x1 : Int} (hc : MC Ω M_Drf_linesPut R' (RI Q) QX' σ [xr (some a), xi x0, xi x1]) (hk : sK σ a = 4) (hr1 : R'.frames + 1 ≤ R.frames) (hr2 : 8 + (4 + 11) + R'.locals ≤ R.locals) (hb1 : k + R'.cells ≤ R.cells) (hb2 : n + R'.slots ≤ R.slots) (hst : (st.map catP).sum ≤ 8) (kk : ∀ x σ', Q x σ' → Aw Ω M_Dw_settle R F (k + R'.cells) (n + R'.slots) 66 L (xi x :: st) σ') (kx : ∀ E σ', QX' E σ' → Ax Ω M_Dw_settle R F (k + R'.cells) (n + R'.slots) 63 L st σ' E) : Aw Ω M_Dw_settle R F k n 63 L (xi x1 :: xi x0 :: xr (some a) :: st) σ :=
  Aw.callV (As := [xi x0, xi x1]) (stk := xi x1 :: xi x0 :: xr (some a) :: st) (nn := 2) 3 M_Drf_linesPut hc ok_Drf_linesPut rfl (by decide) rfl hk ml_Dw_260 im_Drf_linesPut se_Drf_linesPut ⟨hr1, hr2⟩ rfl ⟨hb1, hb2⟩ hst rfl d_Dw_settle_63 (fun r σ' h => by obtain ⟨x, rfl, h⟩ := h; exact kk x σ' h) kx
theorem t_Dw_settle_72 {Ω : Om} {R : Room} {k n : Nat} {L : List PV} {σ : Sto} {QR : Option PV → Sto → Prop} {QX : String → Sto → Prop} {st : List PV} (hRf : 5 < R.frames) (hRl : (st.map catP).sum + 82 ≤ R.locals) (hc : k + 1 ≤ R.cells) (hs : n + 6 ≤ R.slots) (hx : ∀ n', sN σ ≤ n' → QX "java/lang/IllegalStateException" (nX σ n')) : Aw Ω M_Dw_settle R (MF Ω R QR QX) k n 72 L st σ := Aw.throwS (text := "the text would have more than 20 lines") rfl (by decide +kernel) exn_f cl_Dw_132 exi_IllegalStateException (List.mem_of_getElem? (i := 1236) (by decide +kernel)) exa_Dw_136 exg_Dw_136 d_Dw_settle_72 d_Dw_settle_75 d_Dw_settle_76 d_Dw_settle_78 d_Dw_settle_81 hRf hRl hc hs hx
theorem c_Dw_settle_83 {Ω : Om} {R R' : Room} {F : QF} {k n : Nat} {L st : List PV} {σ : Sto} {QX' : String → Sto → Prop} {Q : Sto → Prop} {a : Nat} (hc : MC Ω M_Dw_checkUses R' (RV Q) QX' σ [xr (some a)]) (hk : sK σ a = 1) (hr1 : R'.frames + 1 ≤ R.frames) (hr2 : 8 + (1 + 11) + R'.locals ≤ R.locals) (hb1 : k + R'.cells ≤ R.cells) (hb2 : n + R'.slots ≤ R.slots) (hst : (st.map catP).sum ≤ 8) (kk : ∀ σ', Q σ' → Aw Ω M_Dw_settle R F (k + R'.cells) (n + R'.slots) 86 L st σ') (kx : ∀ E σ', QX' E σ' → Ax Ω M_Dw_settle R F (k + R'.cells) (n + R'.slots) 83 L st σ' E) : Aw Ω M_Dw_settle R F k n 83 L (xr (some a) :: st) σ :=
  Aw.callV (As := []) (stk := xr (some a) :: st) (nn := 0) 0 M_Dw_checkUses hc ok_Dw_checkUses rfl (by decide) rfl hk ml_Dw_270 im_Dw_checkUses se_Dw_checkUses ⟨hr1, hr2⟩ rfl ⟨hb1, hb2⟩ hst rfl d_Dw_settle_83 (fun r σ' h => by obtain ⟨rfl, h⟩ := h; exact kk σ' h) kx
theorem c_Dw_settle_99 {Ω : Om} {R R' : Room} {F : QF} {k n : Nat} {L st : List PV} {σ : Sto} {QX' : String → Sto → Prop} {Q : Sto → Prop} {a : Nat} {x0 : Int} {x1 : Int} {x2 : Int} {x3 : Int64} {x4 : Option Nat} (hc : MC Ω M_Edt_init R' (RV Q) QX' σ [xr (some a), xi x0, xi x1, xi x2, xl x3, xr x4]) (hr1 : R'.frames + 1 ≤ R.frames) (hr2 : 8 + (7 + 11) + R'.locals ≤ R.locals) (hb1 : k + R'.cells ≤ R.cells) (hb2 : n + R'.slots ≤ R.slots) (hst : (st.map catP).sum ≤ 8) (kk : ∀ σ', Q σ' → Aw Ω M_Dw_settle R F (k + R'.cells) (n + R'.slots) 102 L st σ') (kx : ∀ E σ', QX' E σ' → Ax Ω M_Dw_settle R F (k + R'.cells) (n + R'.slots) 99 L st σ' E) : Aw Ω M_Dw_settle R F k n 99 L (xr x4 :: xl x3 :: xi x2 :: xi x1 :: xi x0 :: xr (some a) :: st) σ :=
  Aw.callI (As := [xi x0, xi x1, xi x2, xl x3, xr x4]) (stk := xr x4 :: xl x3 :: xi x2 :: xi x1 :: xi x0 :: xr (some a) :: st) (nn := 5) M_Edt_init hc ok_Edt_init rfl rfl rfl im_Edt_init (Or.inl ml_Dw_141) ⟨hr1, hr2⟩ rfl ⟨hb1, hb2⟩ hst rfl d_Dw_settle_99 (fun r σ' h => by obtain ⟨rfl, h⟩ := h; exact kk σ' h) kx
theorem c_Dw_settle_102 {Ω : Om} {R R' : Room} {F : QF} {k n : Nat} {L st : List PV} {σ : Sto} {QX' : String → Sto → Prop} {Q : Int → Sto → Prop} {a : Nat} {x0 : Option Nat} (hc : MC Ω M_Drf_make R' (RI Q) QX' σ [xr (some a), xr x0]) (hk : sK σ a = 4) (hr1 : R'.frames + 1 ≤ R.frames) (hr2 : 8 + (2 + 11) + R'.locals ≤ R.locals) (hb1 : k + R'.cells ≤ R.cells) (hb2 : n + R'.slots ≤ R.slots) (hst : (st.map catP).sum ≤ 8) (kk : ∀ x σ', Q x σ' → Aw Ω M_Dw_settle R F (k + R'.cells) (n + R'.slots) 105 L (xi x :: st) σ') (kx : ∀ E σ', QX' E σ' → Ax Ω M_Dw_settle R F (k + R'.cells) (n + R'.slots) 102 L st σ' E) : Aw Ω M_Dw_settle R F k n 102 L (xr x0 :: xr (some a) :: st) σ :=
  Aw.callV (As := [xr x0]) (stk := xr x0 :: xr (some a) :: st) (nn := 1) 3 M_Drf_make hc ok_Drf_make rfl (by decide) rfl hk ml_Dw_144 im_Drf_make se_Drf_make ⟨hr1, hr2⟩ rfl ⟨hb1, hb2⟩ hst rfl d_Dw_settle_102 (fun r σ' h => by obtain ⟨x, rfl, h⟩ := h; exact kk x σ' h) kx
theorem c_Dw_settle_120 {Ω : Om} {R R' : Room} {F : QF} {k n : Nat} {L st : List PV} {σ : Sto} {QX' : String → Sto → Prop} {Q : Int → Sto → Prop} {a : Nat} (hc : MC Ω M_Drf_unsettled R' (RI Q) QX' σ [xr (some a)]) (hk : sK σ a = 4) (hr1 : R'.frames + 1 ≤ R.frames) (hr2 : 8 + (1 + 11) + R'.locals ≤ R.locals) (hb1 : k + R'.cells ≤ R.cells) (hb2 : n + R'.slots ≤ R.slots) (hst : (st.map catP).sum ≤ 8) (kk : ∀ x σ', Q x σ' → Aw Ω M_Dw_settle R F (k + R'.cells) (n + R'.slots) 123 L (xi x :: st) σ') (kx : ∀ E σ', QX' E σ' → Ax Ω M_Dw_settle R F (k + R'.cells) (n + R'.slots) 120 L st σ' E) : Aw Ω M_Dw_settle R F k n 120 L (xr (some a) :: st) σ :=
  Aw.callV (As := []) (stk := xr (some a) :: st) (nn := 0) 3 M_Drf_unsettled hc ok_Drf_unsettled rfl (by decide) rfl hk ml_Dw_252 im_Drf_unsettled se_Drf_unsettled ⟨hr1, hr2⟩ rfl ⟨hb1, hb2⟩ hst rfl d_Dw_settle_120 (fun r σ' h => by obtain ⟨x, rfl, h⟩ := h; exact kk x σ' h) kx
theorem r_Dw_settle_123 {Ω : Om} {R : Room} {k n : Nat} {L : List PV} {σ : Sto} {QR : Option PV → Sto → Prop} {QX : String → Sto → Prop} {x : Int} (h : QR (some (xi x)) σ) (h1 : k ≤ R.cells) (h2 : n ≤ R.slots) : Aw Ω M_Dw_settle R (MF Ω R QR QX) k n 123 L [xi x] σ := Aw.iret rfl h h1 h2 d_Dw_settle_123
theorem e_Dw_since {Ω : Om} {R : Room} {QR : Option PV → Sto → Prop} {QX : String → Sto → Prop} {σ : Sto} {a0 : Nat} {v1 : Int} {v2 : Int} (h : Aw Ω M_Dw_since R (MF Ω R QR QX) 0 0 0 [xr (some a0), xi v1, xi v2, xu, xu, xu] [] σ) : MC Ω M_Dw_since R QR QX σ [xr (some a0), xi v1, xi v2] := MC.body (by decide +kernel) rfl (Nat.le_of_ble_eq_true rfl) rfl h
theorem b_Dw_since_0 {Ω : Om} {R : Room} {F : QF} {k n : Nat} {σ : Sto} {a0 : Nat} {v1 : Int} {v2 : Int} (h : Aw Ω M_Dw_since R F k n 2 [xr (some a0), xi v1, xi v2, xu, xu, xu] [xi v1, xr (some a0)] σ) : Aw Ω M_Dw_since R F k n 0 [xr (some a0), xi v1, xi v2, xu, xu, xu] [] σ := by
  refine Aw.aload_n rfl d_Dw_since_0 ?_
  refine Aw.iload_n rfl d_Dw_since_1 ?_
  exact h
theorem b_Dw_since_5 {Ω : Om} {R : Room} {F : QF} {k n : Nat} {σ : Sto} {a0 : Nat} {v1 : Int} {v2 : Int} {s0 : Nat} (h : sK σ s0 = 12 ∧ (∃ b2 : Nat, fR σ 704 s0 = some b2 ∧ Aw Ω M_Dw_since R F k n 12 [xr (some a0), xi v1, xi v2, xr (some b2), xu, xu] [xr (some b2), xi v2, xr (some a0)] σ)) : Aw Ω M_Dw_since R F k n 5 [xr (some a0), xi v1, xi v2, xu, xu, xu] [xr (some s0)] σ := by
  obtain ⟨o1, h⟩ := h
  obtain ⟨b2, e3, h⟩ := h
  refine Aw.getRs (f := 704) 11 0 fl_Dw_99 (by decide) (by decide) rfl rfl o1 e3 d_Dw_since_5 ?_
  refine Aw.astore_n (by decide) d_Dw_since_8 ?_
  refine Aw.toL (L' := [xr (some a0), xi v1, xi v2, xr (some b2), xu, xu]) rfl ?_
  refine Aw.aload_n rfl d_Dw_since_9 ?_
  refine Aw.iload_n rfl d_Dw_since_10 ?_
  refine Aw.aload_n rfl d_Dw_since_11 ?_
  exact h
theorem b_Dw_since_18 {Ω : Om} {R : Room} {F : QF} {k n : Nat} {σ : Sto} {a0 : Nat} {v1 : Int} {v2 : Int} {a3 : Nat} (h : Aw Ω M_Dw_since R F k n 20 [xr (some a0), xi v1, xi v2, xr (some a3), xu, xu] [xi v2, xr (some a3)] σ) : Aw Ω M_Dw_since R F k n 18 [xr (some a0), xi v1, xi v2, xr (some a3), xu, xu] [] σ := by
  refine Aw.aload_n rfl d_Dw_since_18 ?_
  refine Aw.iload_n rfl d_Dw_since_19 ?_
  exact h
theorem b_Dw_since_23 {Ω : Om} {R : Room} {F : QF} {k n : Nat} {σ : Sto} {a0 : Nat} {v1 : Int} {v2 : Int} {a3 : Nat} {s0 : Int} (h : Aw Ω M_Dw_since R F k n 28 [xr (some a0), xi v1, xi v2, xr (some a3), xi s0, xi 0] [] σ) : Aw Ω M_Dw_since R F k n 23 [xr (some a0), xi v1, xi v2, xr (some a3), xu, xu] [xi s0] σ := by
  refine Aw.istore (by decide) d_Dw_since_23 ?_
  refine Aw.toL (L' := [xr (some a0), xi v1, xi v2, xr (some a3), xi s0, xu]) rfl ?_
  refine Aw.iconst d_Dw_since_25 ?_
  refine Aw.istore (by decide) d_Dw_since_26 ?_
  refine Aw.toL (L' := [xr (some a0), xi v1, xi v2, xr (some a3), xi s0, xi 0]) rfl ?_
  exact h
theorem b_Dw_since_28 {Ω : Om} {R : Room} {F : QF} {k n : Nat} {σ : Sto} {a0 : Nat} {v1 : Int} {v2 : Int} {a3 : Nat} {v4 : Int} {v5 : Int} (h : Q32 v5 ∧ Q32 v1 ∧ ((v1 ≤ v5 → Aw Ω M_Dw_since R F k n 62 [xr (some a0), xi v1, xi v2, xr (some a3), xi v4, xi v5] [xi v1] σ) ∧ (¬ v1 ≤ v5 → sK σ a0 = 1 ∧ (∃ b4 : Nat, fR σ 0 a0 = some b4 ∧ sK σ b4 = 55 ∧ 0 ≤ v5 ∧ v5 < sZ σ b4 ∧ ∃ b9 : Nat, aR σ b4 (v5).toNat = some b9 ∧ sK σ b9 = 12 ∧ (∃ b12 : Nat, fR σ 704 b9 = some b12 ∧ Aw Ω M_Dw_since R F k n 46 [xr (some a0), xi v1, xi v2, xr (some a3), xi v4, xi v5] [xi v4, xr (some b12)] σ))))) : Aw Ω M_Dw_since R F k n 28 [xr (some a0), xi v1, xi v2, xr (some a3), xi v4, xi v5] [] σ := by
  refine Aw.iload rfl d_Dw_since_28 ?_
  refine Aw.iload_n rfl d_Dw_since_30 ?_
  obtain ⟨o1, h⟩ := h
  obtain ⟨o2, h⟩ := h
  obtain ⟨ht, hf⟩ := h
  refine Aw.icmp_ge (tgt := 61) o1 o2 (by decide) d_Dw_since_31 (fun c14 => ?_) (fun c14 => ?_)
  · have h := ht c14
    refine Aw.iload_n rfl d_Dw_since_61 ?_
    exact h
  · have h := hf c14
    refine Aw.aload_n rfl d_Dw_since_34 ?_
    obtain ⟨o3, h⟩ := h
    obtain ⟨b4, e5, h⟩ := h
    refine Aw.getRs (f := 0) 0 0 fl_Dw_11 (by decide) (by decide) rfl rfl o3 e5 d_Dw_since_35 ?_
    refine Aw.iload rfl d_Dw_since_38 ?_
    obtain ⟨o6, h⟩ := h
    obtain ⟨o7, o8, h⟩ := h
    refine Aw.aald 5 (by decide) (by decide) o6 o7 o8 d_Dw_since_40 ?_
    obtain ⟨b9, e10, h⟩ := h
    refine Aw.der0 e10 ?_
    obtain ⟨o11, h⟩ := h
    obtain ⟨b12, e13, h⟩ := h
    refine Aw.getRs (f := 704) 11 0 fl_Dw_99 (by decide) (by decide) rfl rfl o11 e13 d_Dw_since_41 ?_
    refine Aw.iload rfl d_Dw_since_44 ?_
    exact h
theorem b_Dw_since_49 {Ω : Om} {R : Room} {F : QF} {k n : Nat} {σ : Sto} {a0 : Nat} {v1 : Int} {v2 : Int} {a3 : Nat} {v4 : Int} {v5 : Int} {s0 : Int} (h : Q32 s0 ∧ ((s0 = (0 : Int) → Aw Ω M_Dw_since R F k n 28 [xr (some a0), xi v1, xi v2, xr (some a3), xi v4, xi (v5 + 1)] [] σ) ∧ (¬ s0 = (0 : Int) → Aw Ω M_Dw_since R F k n 54 [xr (some a0), xi v1, xi v2, xr (some a3), xi v4, xi v5] [xi v5] σ))) : Aw Ω M_Dw_since R F k n 49 [xr (some a0), xi v1, xi v2, xr (some a3), xi v4, xi v5] [xi s0] σ := by
  obtain ⟨o1, h⟩ := h
  obtain ⟨ht, hf⟩ := h
  refine Aw.if_eq (tgt := 55) o1 (by decide) d_Dw_since_49 (fun c2 => ?_) (fun c2 => ?_)
  · have h := ht c2
    refine Aw.iinc rfl d_Dw_since_55 ?_
    refine Aw.toL (L' := [xr (some a0), xi v1, xi v2, xr (some a3), xi v4, xi (v5 + 1)]) rfl ?_
    refine Aw.goto (tgt := 28) (by decide) d_Dw_since_58 ?_
    exact h
  · have h := hf c2
    refine Aw.iload rfl d_Dw_since_52 ?_
    exact h
theorem c_Dw_since_2 {Ω : Om} {R R' : Room} {F : QF} {k n : Nat} {L st : List PV} {σ : Sto} {QX' : String → Sto → Prop} {Q : Option Nat → Sto → Prop} {a : Nat} {x0 : Int} (hc : MC Ω M_Dw_versionAt R' (RR Q) QX' σ [xr (some a), xi x0]) (hk : sK σ a = 1) (hr1 : R'.frames + 1 ≤ R.frames) (hr2 : 8 + (2 + 11) + R'.locals ≤ R.locals) (hb1 : k + R'.cells ≤ R.cells) (hb2 : n + R'.slots ≤ R.slots) (hst : (st.map catP).sum ≤ 8) (kk : ∀ x σ', Q x σ' → Aw Ω M_Dw_since R F (k + R'.cells) (n + R'.slots) 5 L (xr x :: st) σ') (kx : ∀ E σ', QX' E σ' → Ax Ω M_Dw_since R F (k + R'.cells) (n + R'.slots) 2 L st σ' E) : Aw Ω M_Dw_since R F k n 2 L (xi x0 :: xr (some a) :: st) σ :=
  Aw.callV (As := [xi x0]) (stk := xi x0 :: xr (some a) :: st) (nn := 1) 0 M_Dw_versionAt hc ok_Dw_versionAt rfl (by decide) rfl hk ml_Dw_91 im_Dw_versionAt se_Dw_versionAt ⟨hr1, hr2⟩ rfl ⟨hb1, hb2⟩ hst rfl d_Dw_since_2 (fun r σ' h => by obtain ⟨x, rfl, h⟩ := h; exact kk x σ' h) kx
theorem c_Dw_since_12 {Ω : Om} {R R' : Room} {F : QF} {k n : Nat} {L st : List PV} {σ : Sto} {QX' : String → Sto → Prop} {Q : Int → Sto → Prop} {a : Nat} (hc : MC Ω M_Txt_size R' (RI Q) QX' σ [xr (some a)]) (hk : sK σ a = 10) (hr1 : R'.frames + 1 ≤ R.frames) (hr2 : 8 + (1 + 11) + R'.locals ≤ R.locals) (hb1 : k + R'.cells ≤ R.cells) (hb2 : n + R'.slots ≤ R.slots) (hst : (st.map catP).sum ≤ 8) (kk : ∀ x σ', Q x σ' → Aw Ω M_Dw_since R F (k + R'.cells) (n + R'.slots) 15 L (xi x :: st) σ') (kx : ∀ E σ', QX' E σ' → Ax Ω M_Dw_since R F (k + R'.cells) (n + R'.slots) 12 L st σ' E) : Aw Ω M_Dw_since R F k n 12 L (xr (some a) :: st) σ :=
  Aw.callV (As := []) (stk := xr (some a) :: st) (nn := 0) 9 M_Txt_size hc ok_Txt_size rfl (by decide) rfl hk ml_Dw_112 im_Txt_size se_Txt_size ⟨hr1, hr2⟩ rfl ⟨hb1, hb2⟩ hst rfl d_Dw_since_12 (fun r σ' h => by obtain ⟨x, rfl, h⟩ := h; exact kk x σ' h) kx
theorem c_Dw_since_15 {Ω : Om} {R R' : Room} {F : QF} {k n : Nat} {L st : List PV} {σ : Sto} {QX' : String → Sto → Prop} {Q : Sto → Prop} {a : Nat} {x0 : Int} {x1 : Int} (hc : MC Ω M_Dw_checkPlace R' (RV Q) QX' σ [xr (some a), xi x0, xi x1]) (hk : sK σ a = 1) (hr1 : R'.frames + 1 ≤ R.frames) (hr2 : 8 + (3 + 11) + R'.locals ≤ R.locals) (hb1 : k + R'.cells ≤ R.cells) (hb2 : n + R'.slots ≤ R.slots) (hst : (st.map catP).sum ≤ 8) (kk : ∀ σ', Q σ' → Aw Ω M_Dw_since R F (k + R'.cells) (n + R'.slots) 18 L st σ') (kx : ∀ E σ', QX' E σ' → Ax Ω M_Dw_since R F (k + R'.cells) (n + R'.slots) 15 L st σ' E) : Aw Ω M_Dw_since R F k n 15 L (xi x1 :: xi x0 :: xr (some a) :: st) σ :=
  Aw.callV (As := [xi x0, xi x1]) (stk := xi x1 :: xi x0 :: xr (some a) :: st) (nn := 2) 0 M_Dw_checkPlace hc ok_Dw_checkPlace rfl (by decide) rfl hk ml_Dw_121 im_Dw_checkPlace se_Dw_checkPlace ⟨hr1, hr2⟩ rfl ⟨hb1, hb2⟩ hst rfl d_Dw_since_15 (fun r σ' h => by obtain ⟨rfl, h⟩ := h; exact kk σ' h) kx
theorem c_Dw_since_20 {Ω : Om} {R R' : Room} {F : QF} {k n : Nat} {L st : List PV} {σ : Sto} {QX' : String → Sto → Prop} {Q : Int → Sto → Prop} {a : Nat} {x0 : Int} (hc : MC Ω M_Txt_nameAt R' (RI Q) QX' σ [xr (some a), xi x0]) (hk : sK σ a = 10) (hr1 : R'.frames + 1 ≤ R.frames) (hr2 : 8 + (2 + 11) + R'.locals ≤ R.locals) (hb1 : k + R'.cells ≤ R.cells) (hb2 : n + R'.slots ≤ R.slots) (hst : (st.map catP).sum ≤ 8) (kk : ∀ x σ', Q x σ' → Aw Ω M_Dw_since R F (k + R'.cells) (n + R'.slots) 23 L (xi x :: st) σ') (kx : ∀ E σ', QX' E σ' → Ax Ω M_Dw_since R F (k + R'.cells) (n + R'.slots) 20 L st σ' E) : Aw Ω M_Dw_since R F k n 20 L (xi x0 :: xr (some a) :: st) σ :=
  Aw.callV (As := [xi x0]) (stk := xi x0 :: xr (some a) :: st) (nn := 1) 9 M_Txt_nameAt hc ok_Txt_nameAt rfl (by decide) rfl hk ml_Dw_156 im_Txt_nameAt se_Txt_nameAt ⟨hr1, hr2⟩ rfl ⟨hb1, hb2⟩ hst rfl d_Dw_since_20 (fun r σ' h => by obtain ⟨x, rfl, h⟩ := h; exact kk x σ' h) kx
theorem c_Dw_since_46 {Ω : Om} {R R' : Room} {F : QF} {k n : Nat} {L st : List PV} {σ : Sto} {QX' : String → Sto → Prop} {Q : Int → Sto → Prop} {a : Nat} {x0 : Int} (hc : MC Ω M_Txt_holds R' (RI Q) QX' σ [xr (some a), xi x0]) (hk : sK σ a = 10) (hr1 : R'.frames + 1 ≤ R.frames) (hr2 : 8 + (3 + 11) + R'.locals ≤ R.locals) (hb1 : k + R'.cells ≤ R.cells) (hb2 : n + R'.slots ≤ R.slots) (hst : (st.map catP).sum ≤ 8) (kk : ∀ x σ', Q x σ' → Aw Ω M_Dw_since R F (k + R'.cells) (n + R'.slots) 49 L (xi x :: st) σ') (kx : ∀ E σ', QX' E σ' → Ax Ω M_Dw_since R F (k + R'.cells) (n + R'.slots) 46 L st σ' E) : Aw Ω M_Dw_since R F k n 46 L (xi x0 :: xr (some a) :: st) σ :=
  Aw.callV (As := [xi x0]) (stk := xi x0 :: xr (some a) :: st) (nn := 1) 9 M_Txt_holds hc ok_Txt_holds rfl (by decide) rfl hk ml_Dw_213 im_Txt_holds se_Txt_holds ⟨hr1, hr2⟩ rfl ⟨hb1, hb2⟩ hst rfl d_Dw_since_46 (fun r σ' h => by obtain ⟨x, rfl, h⟩ := h; exact kk x σ' h) kx
theorem r_Dw_since_54 {Ω : Om} {R : Room} {k n : Nat} {L : List PV} {σ : Sto} {QR : Option PV → Sto → Prop} {QX : String → Sto → Prop} {x : Int} (h : QR (some (xi x)) σ) (h1 : k ≤ R.cells) (h2 : n ≤ R.slots) : Aw Ω M_Dw_since R (MF Ω R QR QX) k n 54 L [xi x] σ := Aw.iret rfl h h1 h2 d_Dw_since_54
theorem r_Dw_since_62 {Ω : Om} {R : Room} {k n : Nat} {L : List PV} {σ : Sto} {QR : Option PV → Sto → Prop} {QX : String → Sto → Prop} {x : Int} (h : QR (some (xi x)) σ) (h1 : k ≤ R.cells) (h2 : n ≤ R.slots) : Aw Ω M_Dw_since R (MF Ω R QR QX) k n 62 L [xi x] σ := Aw.iret rfl h h1 h2 d_Dw_since_62
theorem e_Dw_treeCost {Ω : Om} {R : Room} {QR : Option PV → Sto → Prop} {QX : String → Sto → Prop} {σ : Sto} {a0 : Nat} {v1 : Int} {v2 : Int} (h : Aw Ω M_Dw_treeCost R (MF Ω R QR QX) 0 0 0 [xr (some a0), xi v1, xi v2, xu, xu] [] σ) : MC Ω M_Dw_treeCost R QR QX σ [xr (some a0), xi v1, xi v2] := MC.body (by decide +kernel) rfl (Nat.le_of_ble_eq_true rfl) rfl h
theorem b_Dw_treeCost_0 {Ω : Om} {R : Room} {F : QF} {k n : Nat} {σ : Sto} {a0 : Nat} {v1 : Int} {v2 : Int} (h : Aw Ω M_Dw_treeCost R F k n 2 [xr (some a0), xi v1, xi v2, xu, xu] [xi v1, xr (some a0)] σ) : Aw Ω M_Dw_treeCost R F k n 0 [xr (some a0), xi v1, xi v2, xu, xu] [] σ := by
  refine Aw.aload_n rfl d_Dw_treeCost_0 ?_
  refine Aw.iload_n rfl d_Dw_treeCost_1 ?_
  exact h
theorem b_Dw_treeCost_5 {Ω : Om} {R : Room} {F : QF} {k n : Nat} {σ : Sto} {a0 : Nat} {v1 : Int} {v2 : Int} {s0 : Nat} (h : sK σ s0 = 12 ∧ (∃ b2 : Nat, fR σ 704 s0 = some b2 ∧ Aw Ω M_Dw_treeCost R F k n 11 [xr (some a0), xi v1, xi v2, xr (some b2), xu] [xi v2, xr (some a0)] σ)) : Aw Ω M_Dw_treeCost R F k n 5 [xr (some a0), xi v1, xi v2, xu, xu] [xr (some s0)] σ := by
  obtain ⟨o1, h⟩ := h
  obtain ⟨b2, e3, h⟩ := h
  refine Aw.getRs (f := 704) 11 0 fl_Dw_99 (by decide) (by decide) rfl rfl o1 e3 d_Dw_treeCost_5 ?_
  refine Aw.astore_n (by decide) d_Dw_treeCost_8 ?_
  refine Aw.toL (L' := [xr (some a0), xi v1, xi v2, xr (some b2), xu]) rfl ?_
  refine Aw.aload_n rfl d_Dw_treeCost_9 ?_
  refine Aw.iload_n rfl d_Dw_treeCost_10 ?_
  exact h
theorem b_Dw_treeCost_14 {Ω : Om} {R : Room} {F : QF} {k n : Nat} {σ : Sto} {a0 : Nat} {v1 : Int} {v2 : Int} {a3 : Nat} {s0 : Nat} (h : sK σ s0 = 12 ∧ (∃ b2 : Nat, fR σ 704 s0 = some b2 ∧ sK σ a0 = 1 ∧ (∃ b5 : Nat, fR σ 7 a0 = some b5 ∧ Aw Ω M_Dw_treeCost R F k n 26 [xr (some a0), xi v1, xi v2, xr (some a3), xr (some b2)] [xr (some b2), xr (some a3), xr (some b5)] σ))) : Aw Ω M_Dw_treeCost R F k n 14 [xr (some a0), xi v1, xi v2, xr (some a3), xu] [xr (some s0)] σ := by
  obtain ⟨o1, h⟩ := h
  obtain ⟨b2, e3, h⟩ := h
  refine Aw.getRs (f := 704) 11 0 fl_Dw_99 (by decide) (by decide) rfl rfl o1 e3 d_Dw_treeCost_14 ?_
  refine Aw.astore (by decide) d_Dw_treeCost_17 ?_
  refine Aw.toL (L' := [xr (some a0), xi v1, xi v2, xr (some a3), xr (some b2)]) rfl ?_
  refine Aw.aload_n rfl d_Dw_treeCost_19 ?_
  obtain ⟨o4, h⟩ := h
  obtain ⟨b5, e6, h⟩ := h
  refine Aw.getRs (f := 7) 0 7 fl_Dw_51 (by decide) (by decide) rfl rfl o4 e6 d_Dw_treeCost_20 ?_
  refine Aw.aload_n rfl d_Dw_treeCost_23 ?_
  refine Aw.aload rfl d_Dw_treeCost_24 ?_
  exact h
theorem c_Dw_treeCost_2 {Ω : Om} {R R' : Room} {F : QF} {k n : Nat} {L st : List PV} {σ : Sto} {QX' : String → Sto → Prop} {Q : Option Nat → Sto → Prop} {a : Nat} {x0 : Int} (hc : MC Ω M_Dw_versionAt R' (RR Q) QX' σ [xr (some a), xi x0]) (hk : sK σ a = 1) (hr1 : R'.frames + 1 ≤ R.frames) (hr2 : 8 + (2 + 11) + R'.locals ≤ R.locals) (hb1 : k + R'.cells ≤ R.cells) (hb2 : n + R'.slots ≤ R.slots) (hst : (st.map catP).sum ≤ 8) (kk : ∀ x σ', Q x σ' → Aw Ω M_Dw_treeCost R F (k + R'.cells) (n + R'.slots) 5 L (xr x :: st) σ') (kx : ∀ E σ', QX' E σ' → Ax Ω M_Dw_treeCost R F (k + R'.cells) (n + R'.slots) 2 L st σ' E) : Aw Ω M_Dw_treeCost R F k n 2 L (xi x0 :: xr (some a) :: st) σ :=
  Aw.callV (As := [xi x0]) (stk := xi x0 :: xr (some a) :: st) (nn := 1) 0 M_Dw_versionAt hc ok_Dw_versionAt rfl (by decide) rfl hk ml_Dw_91 im_Dw_versionAt se_Dw_versionAt ⟨hr1, hr2⟩ rfl ⟨hb1, hb2⟩ hst rfl d_Dw_treeCost_2 (fun r σ' h => by obtain ⟨x, rfl, h⟩ := h; exact kk x σ' h) kx
theorem c_Dw_treeCost_11 {Ω : Om} {R R' : Room} {F : QF} {k n : Nat} {L st : List PV} {σ : Sto} {QX' : String → Sto → Prop} {Q : Option Nat → Sto → Prop} {a : Nat} {x0 : Int} (hc : MC Ω M_Dw_versionAt R' (RR Q) QX' σ [xr (some a), xi x0]) (hk : sK σ a = 1) (hr1 : R'.frames + 1 ≤ R.frames) (hr2 : 8 + (2 + 11) + R'.locals ≤ R.locals) (hb1 : k + R'.cells ≤ R.cells) (hb2 : n + R'.slots ≤ R.slots) (hst : (st.map catP).sum ≤ 8) (kk : ∀ x σ', Q x σ' → Aw Ω M_Dw_treeCost R F (k + R'.cells) (n + R'.slots) 14 L (xr x :: st) σ') (kx : ∀ E σ', QX' E σ' → Ax Ω M_Dw_treeCost R F (k + R'.cells) (n + R'.slots) 11 L st σ' E) : Aw Ω M_Dw_treeCost R F k n 11 L (xi x0 :: xr (some a) :: st) σ :=
  Aw.callV (As := [xi x0]) (stk := xi x0 :: xr (some a) :: st) (nn := 1) 0 M_Dw_versionAt hc ok_Dw_versionAt rfl (by decide) rfl hk ml_Dw_91 im_Dw_versionAt se_Dw_versionAt ⟨hr1, hr2⟩ rfl ⟨hb1, hb2⟩ hst rfl d_Dw_treeCost_11 (fun r σ' h => by obtain ⟨x, rfl, h⟩ := h; exact kk x σ' h) kx
theorem c_Dw_treeCost_26 {Ω : Om} {R R' : Room} {F : QF} {k n : Nat} {L st : List PV} {σ : Sto} {QX' : String → Sto → Prop} {Q : Int → Sto → Prop} {a : Nat} {x0 : Option Nat} {x1 : Option Nat} (hc : MC Ω M_Trm_costOf R' (RI Q) QX' σ [xr (some a), xr x0, xr x1]) (hk : sK σ a = 11) (hr1 : R'.frames + 1 ≤ R.frames) (hr2 : 8 + (7 + 11) + R'.locals ≤ R.locals) (hb1 : k + R'.cells ≤ R.cells) (hb2 : n + R'.slots ≤ R.slots) (hst : (st.map catP).sum ≤ 8) (kk : ∀ x σ', Q x σ' → Aw Ω M_Dw_treeCost R F (k + R'.cells) (n + R'.slots) 29 L (xi x :: st) σ') (kx : ∀ E σ', QX' E σ' → Ax Ω M_Dw_treeCost R F (k + R'.cells) (n + R'.slots) 26 L st σ' E) : Aw Ω M_Dw_treeCost R F k n 26 L (xr x1 :: xr x0 :: xr (some a) :: st) σ :=
  Aw.callV (As := [xr x0, xr x1]) (stk := xr x1 :: xr x0 :: xr (some a) :: st) (nn := 2) 10 M_Trm_costOf hc ok_Trm_costOf rfl (by decide) rfl hk ml_Dw_233 im_Trm_costOf se_Trm_costOf ⟨hr1, hr2⟩ rfl ⟨hb1, hb2⟩ hst rfl d_Dw_treeCost_26 (fun r σ' h => by obtain ⟨x, rfl, h⟩ := h; exact kk x σ' h) kx
theorem r_Dw_treeCost_29 {Ω : Om} {R : Room} {k n : Nat} {L : List PV} {σ : Sto} {QR : Option PV → Sto → Prop} {QX : String → Sto → Prop} {x : Int} (h : QR (some (xi x)) σ) (h1 : k ≤ R.cells) (h2 : n ≤ R.slots) : Aw Ω M_Dw_treeCost R (MF Ω R QR QX) k n 29 L [xi x] σ := Aw.iret rfl h h1 h2 d_Dw_treeCost_29
theorem e_Dw_turn {Ω : Om} {R : Room} {QR : Option PV → Sto → Prop} {QX : String → Sto → Prop} {σ : Sto} {a0 : Nat} {v1 : Int} (h : Aw Ω M_Dw_turn R (MF Ω R QR QX) 0 0 0 [xr (some a0), xi v1, xu] [] σ) : MC Ω M_Dw_turn R QR QX σ [xr (some a0), xi v1] := MC.body (by decide +kernel) rfl (Nat.le_of_ble_eq_true rfl) rfl h
theorem b_Dw_turn_0 {Ω : Om} {R : Room} {F : QF} {k n : Nat} {σ : Sto} {a0 : Nat} {v1 : Int} (h : Aw Ω M_Dw_turn R F k n 2 [xr (some a0), xi v1, xu] [xi v1, xr (some a0)] σ) : Aw Ω M_Dw_turn R F k n 0 [xr (some a0), xi v1, xu] [] σ := by
  refine Aw.aload_n rfl d_Dw_turn_0 ?_
  refine Aw.iload_n rfl d_Dw_turn_1 ?_
  exact h
theorem b_Dw_turn_5 {Ω : Om} {R : Room} {F : QF} {k n : Nat} {σ : Sto} {a0 : Nat} {v1 : Int} {s0 : Nat} (h : Aw Ω M_Dw_turn R F k n 7 [xr (some a0), xi v1, xr (some s0)] [xr (some a0)] σ) : Aw Ω M_Dw_turn R F k n 5 [xr (some a0), xi v1, xu] [xr (some s0)] σ := by
  refine Aw.astore_n (by decide) d_Dw_turn_5 ?_
  refine Aw.toL (L' := [xr (some a0), xi v1, xr (some s0)]) rfl ?_
  refine Aw.aload_n rfl d_Dw_turn_6 ?_
  exact h
theorem b_Dw_turn_10 {Ω : Om} {R : Room} {F : QF} {k n : Nat} {σ : Sto} {a0 : Nat} {v1 : Int} {a2 : Nat} (h : sK σ a0 = 1 ∧ (∃ b2 : Nat, fR σ 1 a0 = some b2 ∧ (Q32 (fI σ 13 a0) → sK σ b2 = 56 ∧ 0 ≤ (fI σ 13 a0) ∧ (fI σ 13 a0) < sZ σ b2 ∧ Aw Ω M_Dw_turn R F k n 20 [xr (some a0), xi v1, xr (some a2)] [xr (some a2), xr (aR σ b2 (fI σ 13 a0).toNat)] σ))) : Aw Ω M_Dw_turn R F k n 10 [xr (some a0), xi v1, xr (some a2)] [] σ := by
  refine Aw.aload_n rfl d_Dw_turn_10 ?_
  obtain ⟨o1, h⟩ := h
  obtain ⟨b2, e3, h⟩ := h
  refine Aw.getRs (f := 1) 0 1 fl_Dw_17 (by decide) (by decide) rfl rfl o1 e3 d_Dw_turn_11 ?_
  refine Aw.aload_n rfl d_Dw_turn_14 ?_
  refine Aw.getI (f := 13) 0 13 fl_Dw_76 (by decide) (by decide) rfl rfl o1 d_Dw_turn_15 (fun r4 => ?_)
  have h := h r4
  obtain ⟨o5, h⟩ := h
  obtain ⟨o6, o7, h⟩ := h
  refine Aw.aald 6 (by decide) (by decide) o5 o6 o7 d_Dw_turn_18 ?_
  refine Aw.aload_n rfl d_Dw_turn_19 ?_
  exact h
theorem b_Dw_turn_23 {Ω : Om} {R : Room} {F : QF} {k n : Nat} {σ : Sto} {a0 : Nat} {v1 : Int} {a2 : Nat} (h : sK σ a0 = 1 ∧ (Q32 (fI σ 13 a0) → Q32 ((fI σ 13 a0) + 1) ∧ (Q32 (fI (uI σ 13 a0 ((fI σ 13 a0) + 1)) 13 a0) → Aw Ω M_Dw_turn R F k n 39 [xr (some a0), xi v1, xr (some a2)] [xi ((fI (uI σ 13 a0 ((fI σ 13 a0) + 1)) 13 a0) - 1)] (uI σ 13 a0 ((fI σ 13 a0) + 1))))) : Aw Ω M_Dw_turn R F k n 23 [xr (some a0), xi v1, xr (some a2)] [] σ := by
  refine Aw.aload_n rfl d_Dw_turn_23 ?_
  refine Aw.dup rfl d_Dw_turn_24 ?_
  obtain ⟨o1, h⟩ := h
  refine Aw.getI (f := 13) 0 13 fl_Dw_76 (by decide) (by decide) rfl rfl o1 d_Dw_turn_25 (fun r2 => ?_)
  have h := h r2
  refine Aw.iconst d_Dw_turn_28 ?_
  refine Aw.iadd d_Dw_turn_29 ?_
  obtain ⟨o3, h⟩ := h
  refine Aw.putI (f := 13) 0 13 fl_Dw_76 (by decide) (by decide) rfl rfl o1 rfl o3 (Or.inl rfl) d_Dw_turn_30 ?_
  refine Aw.aload_n rfl d_Dw_turn_33 ?_
  refine Aw.getI (f := 13) 0 13 fl_Dw_76 (by decide) (by decide) rfl rfl o1 d_Dw_turn_34 (fun r4 => ?_)
  have h := h r4
  refine Aw.iconst d_Dw_turn_37 ?_
  refine Aw.isub d_Dw_turn_38 ?_
  exact h
theorem c_Dw_turn_2 {Ω : Om} {R R' : Room} {F : QF} {k n : Nat} {L st : List PV} {σ : Sto} {QX' : String → Sto → Prop} {Q : Option Nat → Sto → Prop} {a : Nat} {x0 : Int} (hc : MC Ω M_Dw_patchAt R' (RR Q) QX' σ [xr (some a), xi x0]) (hk : sK σ a = 1) (hr1 : R'.frames + 1 ≤ R.frames) (hr2 : 8 + (2 + 11) + R'.locals ≤ R.locals) (hb1 : k + R'.cells ≤ R.cells) (hb2 : n + R'.slots ≤ R.slots) (hst : (st.map catP).sum ≤ 8) (kk : ∀ x σ', Q x σ' → Aw Ω M_Dw_turn R F (k + R'.cells) (n + R'.slots) 5 L (xr x :: st) σ') (kx : ∀ E σ', QX' E σ' → Ax Ω M_Dw_turn R F (k + R'.cells) (n + R'.slots) 2 L st σ' E) : Aw Ω M_Dw_turn R F k n 2 L (xi x0 :: xr (some a) :: st) σ :=
  Aw.callV (As := [xi x0]) (stk := xi x0 :: xr (some a) :: st) (nn := 1) 0 M_Dw_patchAt hc ok_Dw_patchAt rfl (by decide) rfl hk ml_Dw_282 im_Dw_patchAt se_Dw_patchAt ⟨hr1, hr2⟩ rfl ⟨hb1, hb2⟩ hst rfl d_Dw_turn_2 (fun r σ' h => by obtain ⟨x, rfl, h⟩ := h; exact kk x σ' h) kx
theorem c_Dw_turn_7 {Ω : Om} {R R' : Room} {F : QF} {k n : Nat} {L st : List PV} {σ : Sto} {QX' : String → Sto → Prop} {Q : Sto → Prop} {a : Nat} (hc : MC Ω M_Dw_checkPatchRoom R' (RV Q) QX' σ [xr (some a)]) (hk : sK σ a = 1) (hr1 : R'.frames + 1 ≤ R.frames) (hr2 : 8 + (1 + 11) + R'.locals ≤ R.locals) (hb1 : k + R'.cells ≤ R.cells) (hb2 : n + R'.slots ≤ R.slots) (hst : (st.map catP).sum ≤ 8) (kk : ∀ σ', Q σ' → Aw Ω M_Dw_turn R F (k + R'.cells) (n + R'.slots) 10 L st σ') (kx : ∀ E σ', QX' E σ' → Ax Ω M_Dw_turn R F (k + R'.cells) (n + R'.slots) 7 L st σ' E) : Aw Ω M_Dw_turn R F k n 7 L (xr (some a) :: st) σ :=
  Aw.callV (As := []) (stk := xr (some a) :: st) (nn := 0) 0 M_Dw_checkPatchRoom hc ok_Dw_checkPatchRoom rfl (by decide) rfl hk ml_Dw_275 im_Dw_checkPatchRoom se_Dw_checkPatchRoom ⟨hr1, hr2⟩ rfl ⟨hb1, hb2⟩ hst rfl d_Dw_turn_7 (fun r σ' h => by obtain ⟨rfl, h⟩ := h; exact kk σ' h) kx
theorem c_Dw_turn_20 {Ω : Om} {R R' : Room} {F : QF} {k n : Nat} {L st : List PV} {σ : Sto} {QX' : String → Sto → Prop} {Q : Sto → Prop} {a : Nat} {x0 : Option Nat} (hc : MC Ω M_Pat_fillTurned R' (RV Q) QX' σ [xr (some a), xr x0]) (hk : sK σ a = 8) (hr1 : R'.frames + 1 ≤ R.frames) (hr2 : 8 + (4 + 11) + R'.locals ≤ R.locals) (hb1 : k + R'.cells ≤ R.cells) (hb2 : n + R'.slots ≤ R.slots) (hst : (st.map catP).sum ≤ 8) (kk : ∀ σ', Q σ' → Aw Ω M_Dw_turn R F (k + R'.cells) (n + R'.slots) 23 L st σ') (kx : ∀ E σ', QX' E σ' → Ax Ω M_Dw_turn R F (k + R'.cells) (n + R'.slots) 20 L st σ' E) : Aw Ω M_Dw_turn R F k n 20 L (xr x0 :: xr (some a) :: st) σ :=
  Aw.callV (As := [xr x0]) (stk := xr x0 :: xr (some a) :: st) (nn := 1) 7 M_Pat_fillTurned hc ok_Pat_fillTurned rfl (by decide) rfl hk ml_Dw_286 im_Pat_fillTurned se_Pat_fillTurned ⟨hr1, hr2⟩ rfl ⟨hb1, hb2⟩ hst rfl d_Dw_turn_20 (fun r σ' h => by obtain ⟨rfl, h⟩ := h; exact kk σ' h) kx
theorem r_Dw_turn_39 {Ω : Om} {R : Room} {k n : Nat} {L : List PV} {σ : Sto} {QR : Option PV → Sto → Prop} {QX : String → Sto → Prop} {x : Int} (h : QR (some (xi x)) σ) (h1 : k ≤ R.cells) (h2 : n ≤ R.slots) : Aw Ω M_Dw_turn R (MF Ω R QR QX) k n 39 L [xi x] σ := Aw.iret rfl h h1 h2 d_Dw_turn_39
theorem e_Dw_undo {Ω : Om} {R : Room} {QR : Option PV → Sto → Prop} {QX : String → Sto → Prop} {σ : Sto} {a0 : Nat} (h : Aw Ω M_Dw_undo R (MF Ω R QR QX) 0 0 0 [xr (some a0)] [] σ) : MC Ω M_Dw_undo R QR QX σ [xr (some a0)] := MC.body (by decide +kernel) rfl (Nat.le_of_ble_eq_true rfl) rfl h
theorem b_Dw_undo_0 {Ω : Om} {R : Room} {F : QF} {k n : Nat} {σ : Sto} {a0 : Nat} (h : Aw Ω M_Dw_undo R F k n 1 [xr (some a0)] [xr (some a0)] σ) : Aw Ω M_Dw_undo R F k n 0 [xr (some a0)] [] σ := by
  refine Aw.aload_n rfl d_Dw_undo_0 ?_
  exact h
theorem b_Dw_undo_4 {Ω : Om} {R : Room} {F : QF} {k n : Nat} {σ : Sto} {a0 : Nat} (h : sK σ a0 = 1 ∧ (∃ b2 : Nat, fR σ 8 a0 = some b2 ∧ Aw Ω M_Dw_undo R F k n 8 [xr (some a0)] [xr (some b2)] σ)) : Aw Ω M_Dw_undo R F k n 4 [xr (some a0)] [] σ := by
  refine Aw.aload_n rfl d_Dw_undo_4 ?_
  obtain ⟨o1, h⟩ := h
  obtain ⟨b2, e3, h⟩ := h
  refine Aw.getRs (f := 8) 0 8 fl_Dw_58 (by decide) (by decide) rfl rfl o1 e3 d_Dw_undo_5 ?_
  exact h
theorem b_Dw_undo_11 {Ω : Om} {R : Room} {F : QF} {k n : Nat} {σ : Sto} {a0 : Nat} {s0 : Int} (h : Q32 s0 ∧ ((¬ s0 = (0 : Int) → sK σ a0 = 1 ∧ (∃ b3 : Nat, fR σ 8 a0 = some b3 ∧ Aw Ω M_Dw_undo R F k n 28 [xr (some a0)] [xr (some b3)] σ)) ∧ (s0 = (0 : Int) → Aw Ω M_Dw_undo R F k n 14 [xr (some a0)] [] σ))) : Aw Ω M_Dw_undo R F k n 11 [xr (some a0)] [xi s0] σ := by
  obtain ⟨o1, h⟩ := h
  obtain ⟨ht, hf⟩ := h
  refine Aw.if_ne (tgt := 24) o1 (by decide) d_Dw_undo_11 (fun c5 => ?_) (fun c5 => ?_)
  · have h := ht c5
    refine Aw.aload_n rfl d_Dw_undo_24 ?_
    obtain ⟨o2, h⟩ := h
    obtain ⟨b3, e4, h⟩ := h
    refine Aw.getRs (f := 8) 0 8 fl_Dw_58 (by decide) (by decide) rfl rfl o2 e4 d_Dw_undo_25 ?_
    exact h
  · have h := hf c5
    exact h
theorem b_Dw_undo_31 {Ω : Om} {R : Room} {F : QF} {k n : Nat} {σ : Sto} {a0 : Nat} (h : sK σ a0 = 1 ∧ (∃ b2 : Nat, fR σ 8 a0 = some b2 ∧ sK σ b2 = 4 ∧ (∃ b5 : Nat, fR σ 192 b2 = some b5 ∧ Aw Ω M_Dw_undo R F k n 38 [xr (some a0)] [xr (some b5)] σ))) : Aw Ω M_Dw_undo R F k n 31 [xr (some a0)] [] σ := by
  refine Aw.aload_n rfl d_Dw_undo_31 ?_
  obtain ⟨o1, h⟩ := h
  obtain ⟨b2, e3, h⟩ := h
  refine Aw.getRs (f := 8) 0 8 fl_Dw_58 (by decide) (by decide) rfl rfl o1 e3 d_Dw_undo_32 ?_
  obtain ⟨o4, h⟩ := h
  obtain ⟨b5, e6, h⟩ := h
  refine Aw.getRs (f := 192) 3 0 fl_Dw_111 (by decide) (by decide) rfl rfl o4 e6 d_Dw_undo_35 ?_
  exact h
theorem c_Dw_undo_1 {Ω : Om} {R R' : Room} {F : QF} {k n : Nat} {L st : List PV} {σ : Sto} {QX' : String → Sto → Prop} {Q : Sto → Prop} {a : Nat} (hc : MC Ω M_Dw_checkWhole R' (RV Q) QX' σ [xr (some a)]) (hk : sK σ a = 1) (hr1 : R'.frames + 1 ≤ R.frames) (hr2 : 8 + (1 + 11) + R'.locals ≤ R.locals) (hb1 : k + R'.cells ≤ R.cells) (hb2 : n + R'.slots ≤ R.slots) (hst : (st.map catP).sum ≤ 8) (kk : ∀ σ', Q σ' → Aw Ω M_Dw_undo R F (k + R'.cells) (n + R'.slots) 4 L st σ') (kx : ∀ E σ', QX' E σ' → Ax Ω M_Dw_undo R F (k + R'.cells) (n + R'.slots) 1 L st σ' E) : Aw Ω M_Dw_undo R F k n 1 L (xr (some a) :: st) σ :=
  Aw.callV (As := []) (stk := xr (some a) :: st) (nn := 0) 0 M_Dw_checkWhole hc ok_Dw_checkWhole rfl (by decide) rfl hk ml_Dw_168 im_Dw_checkWhole se_Dw_checkWhole ⟨hr1, hr2⟩ rfl ⟨hb1, hb2⟩ hst rfl d_Dw_undo_1 (fun r σ' h => by obtain ⟨rfl, h⟩ := h; exact kk σ' h) kx
theorem c_Dw_undo_8 {Ω : Om} {R R' : Room} {F : QF} {k n : Nat} {L st : List PV} {σ : Sto} {QX' : String → Sto → Prop} {Q : Int → Sto → Prop} {a : Nat} (hc : MC Ω M_Drf_hasEdits R' (RI Q) QX' σ [xr (some a)]) (hk : sK σ a = 4) (hr1 : R'.frames + 1 ≤ R.frames) (hr2 : 8 + (1 + 11) + R'.locals ≤ R.locals) (hb1 : k + R'.cells ≤ R.cells) (hb2 : n + R'.slots ≤ R.slots) (hst : (st.map catP).sum ≤ 8) (kk : ∀ x σ', Q x σ' → Aw Ω M_Dw_undo R F (k + R'.cells) (n + R'.slots) 11 L (xi x :: st) σ') (kx : ∀ E σ', QX' E σ' → Ax Ω M_Dw_undo R F (k + R'.cells) (n + R'.slots) 8 L st σ' E) : Aw Ω M_Dw_undo R F k n 8 L (xr (some a) :: st) σ :=
  Aw.callV (As := []) (stk := xr (some a) :: st) (nn := 0) 3 M_Drf_hasEdits hc ok_Drf_hasEdits rfl (by decide) rfl hk ml_Dw_171 im_Drf_hasEdits se_Drf_hasEdits ⟨hr1, hr2⟩ rfl ⟨hb1, hb2⟩ hst rfl d_Dw_undo_8 (fun r σ' h => by obtain ⟨x, rfl, h⟩ := h; exact kk x σ' h) kx
theorem t_Dw_undo_14 {Ω : Om} {R : Room} {k n : Nat} {L : List PV} {σ : Sto} {QR : Option PV → Sto → Prop} {QX : String → Sto → Prop} {st : List PV} (hRf : 5 < R.frames) (hRl : (st.map catP).sum + 82 ≤ R.locals) (hc : k + 1 ≤ R.cells) (hs : n + 6 ≤ R.slots) (hx : ∀ n', sN σ ≤ n' → QX "java/lang/IllegalStateException" (nX σ n')) : Aw Ω M_Dw_undo R (MF Ω R QR QX) k n 14 L st σ := Aw.throwS (text := "there is nothing to undo") rfl (by decide +kernel) exn_f cl_Dw_132 exi_IllegalStateException (List.mem_of_getElem? (i := 949) (by decide +kernel)) exa_Dw_136 exg_Dw_136 d_Dw_undo_14 d_Dw_undo_17 d_Dw_undo_18 d_Dw_undo_20 d_Dw_undo_23 hRf hRl hc hs hx
theorem c_Dw_undo_28 {Ω : Om} {R R' : Room} {F : QF} {k n : Nat} {L st : List PV} {σ : Sto} {QX' : String → Sto → Prop} {Q : Sto → Prop} {a : Nat} (hc : MC Ω M_Drf_takeBack R' (RV Q) QX' σ [xr (some a)]) (hk : sK σ a = 4) (hr1 : R'.frames + 1 ≤ R.frames) (hr2 : 8 + (2 + 11) + R'.locals ≤ R.locals) (hb1 : k + R'.cells ≤ R.cells) (hb2 : n + R'.slots ≤ R.slots) (hst : (st.map catP).sum ≤ 8) (kk : ∀ σ', Q σ' → Aw Ω M_Dw_undo R F (k + R'.cells) (n + R'.slots) 31 L st σ') (kx : ∀ E σ', QX' E σ' → Ax Ω M_Dw_undo R F (k + R'.cells) (n + R'.slots) 28 L st σ' E) : Aw Ω M_Dw_undo R F k n 28 L (xr (some a) :: st) σ :=
  Aw.callV (As := []) (stk := xr (some a) :: st) (nn := 0) 3 M_Drf_takeBack hc ok_Drf_takeBack rfl (by decide) rfl hk ml_Dw_177 im_Drf_takeBack se_Drf_takeBack ⟨hr1, hr2⟩ rfl ⟨hb1, hb2⟩ hst rfl d_Dw_undo_28 (fun r σ' h => by obtain ⟨rfl, h⟩ := h; exact kk σ' h) kx
theorem c_Dw_undo_38 {Ω : Om} {R R' : Room} {F : QF} {k n : Nat} {L st : List PV} {σ : Sto} {QX' : String → Sto → Prop} {Q : Int → Sto → Prop} {a : Nat} (hc : MC Ω M_Txt_size R' (RI Q) QX' σ [xr (some a)]) (hk : sK σ a = 10) (hr1 : R'.frames + 1 ≤ R.frames) (hr2 : 8 + (1 + 11) + R'.locals ≤ R.locals) (hb1 : k + R'.cells ≤ R.cells) (hb2 : n + R'.slots ≤ R.slots) (hst : (st.map catP).sum ≤ 8) (kk : ∀ x σ', Q x σ' → Aw Ω M_Dw_undo R F (k + R'.cells) (n + R'.slots) 41 L (xi x :: st) σ') (kx : ∀ E σ', QX' E σ' → Ax Ω M_Dw_undo R F (k + R'.cells) (n + R'.slots) 38 L st σ' E) : Aw Ω M_Dw_undo R F k n 38 L (xr (some a) :: st) σ :=
  Aw.callV (As := []) (stk := xr (some a) :: st) (nn := 0) 9 M_Txt_size hc ok_Txt_size rfl (by decide) rfl hk ml_Dw_112 im_Txt_size se_Txt_size ⟨hr1, hr2⟩ rfl ⟨hb1, hb2⟩ hst rfl d_Dw_undo_38 (fun r σ' h => by obtain ⟨x, rfl, h⟩ := h; exact kk x σ' h) kx
theorem r_Dw_undo_41 {Ω : Om} {R : Room} {k n : Nat} {L : List PV} {σ : Sto} {QR : Option PV → Sto → Prop} {QX : String → Sto → Prop} {x : Int} (h : QR (some (xi x)) σ) (h1 : k ≤ R.cells) (h2 : n ≤ R.slots) : Aw Ω M_Dw_undo R (MF Ω R QR QX) k n 41 L [xi x] σ := Aw.iret rfl h h1 h2 d_Dw_undo_41
theorem e_Dw_verdict {Ω : Om} {R : Room} {QR : Option PV → Sto → Prop} {QX : String → Sto → Prop} {σ : Sto} {a0 : Nat} {v1 : Int} {v2 : Int} {v3 : Int} (h : Aw Ω M_Dw_verdict R (MF Ω R QR QX) 0 0 0 [xr (some a0), xi v1, xi v2, xi v3, xu] [] σ) : MC Ω M_Dw_verdict R QR QX σ [xr (some a0), xi v1, xi v2, xi v3] := MC.body (by decide +kernel) rfl (Nat.le_of_ble_eq_true rfl) rfl h
theorem b_Dw_verdict_0 {Ω : Om} {R : Room} {F : QF} {k n : Nat} {σ : Sto} {a0 : Nat} {v1 : Int} {v2 : Int} {v3 : Int} (h : Aw Ω M_Dw_verdict R F k n 2 [xr (some a0), xi v1, xi v2, xi v3, xu] [xi v1, xr (some a0)] σ) : Aw Ω M_Dw_verdict R F k n 0 [xr (some a0), xi v1, xi v2, xi v3, xu] [] σ := by
  refine Aw.aload_n rfl d_Dw_verdict_0 ?_
  refine Aw.iload_n rfl d_Dw_verdict_1 ?_
  exact h
theorem b_Dw_verdict_5 {Ω : Om} {R : Room} {F : QF} {k n : Nat} {σ : Sto} {a0 : Nat} {v1 : Int} {v2 : Int} {v3 : Int} {s0 : Nat} (h : Aw Ω M_Dw_verdict R F k n 9 [xr (some a0), xi v1, xi v2, xi v3, xr (some s0)] [xi v2, xr (some a0)] σ) : Aw Ω M_Dw_verdict R F k n 5 [xr (some a0), xi v1, xi v2, xi v3, xu] [xr (some s0)] σ := by
  refine Aw.astore (by decide) d_Dw_verdict_5 ?_
  refine Aw.toL (L' := [xr (some a0), xi v1, xi v2, xi v3, xr (some s0)]) rfl ?_
  refine Aw.aload_n rfl d_Dw_verdict_7 ?_
  refine Aw.iload_n rfl d_Dw_verdict_8 ?_
  exact h
theorem b_Dw_verdict_12 {Ω : Om} {R : Room} {F : QF} {k n : Nat} {σ : Sto} {a0 : Nat} {v1 : Int} {v2 : Int} {v3 : Int} {a4 : Nat} (h : Aw Ω M_Dw_verdict R F k n 15 [xr (some a0), xi v1, xi v2, xi v3, xr (some a4)] [xr (some a4), xr (some a0)] σ) : Aw Ω M_Dw_verdict R F k n 12 [xr (some a0), xi v1, xi v2, xi v3, xr (some a4)] [] σ := by
  refine Aw.aload_n rfl d_Dw_verdict_12 ?_
  refine Aw.aload rfl d_Dw_verdict_13 ?_
  exact h
theorem b_Dw_verdict_18 {Ω : Om} {R : Room} {F : QF} {k n : Nat} {σ : Sto} {a0 : Nat} {v1 : Int} {v2 : Int} {v3 : Int} {a4 : Nat} (h : sK σ a4 = 9 ∧ (Q32 (fI σ 513 a4) → Aw Ω M_Dw_verdict R F k n 24 [xr (some a0), xi v1, xi v2, xi v3, xr (some a4)] [xi (fI σ 513 a4), xr (some a0)] σ)) : Aw Ω M_Dw_verdict R F k n 18 [xr (some a0), xi v1, xi v2, xi v3, xr (some a4)] [] σ := by
  refine Aw.aload_n rfl d_Dw_verdict_18 ?_
  refine Aw.aload rfl d_Dw_verdict_19 ?_
  obtain ⟨o1, h⟩ := h
  refine Aw.getI (f := 513) 8 1 fl_Dw_331 (by decide) (by decide) rfl rfl o1 d_Dw_verdict_21 (fun r2 => ?_)
  have h := h r2
  exact h
theorem b_Dw_verdict_27 {Ω : Om} {R : Room} {F : QF} {k n : Nat} {σ : Sto} {a0 : Nat} {v1 : Int} {v2 : Int} {v3 : Int} {a4 : Nat} {s0 : Nat} (h : sK σ s0 = 12 ∧ (Q32 (fI σ 707 s0) → Q32 v2 ∧ ((¬ (fI σ 707 s0) = v2 → Aw Ω M_Dw_verdict R F k n 49 [xr (some a0), xi v1, xi v2, xi v3, xr (some a4)] [xi v3, xi v2, xr (some a4)] σ) ∧ ((fI σ 707 s0) = v2 → Aw Ω M_Dw_verdict R F k n 34 [xr (some a0), xi v1, xi v2, xi v3, xr (some a4)] [] σ)))) : Aw Ω M_Dw_verdict R F k n 27 [xr (some a0), xi v1, xi v2, xi v3, xr (some a4)] [xr (some s0)] σ := by
  obtain ⟨o1, h⟩ := h
  refine Aw.getI (f := 707) 11 3 fl_Dw_334 (by decide) (by decide) rfl rfl o1 d_Dw_verdict_27 (fun r2 => ?_)
  have h := h r2
  refine Aw.iload_n rfl d_Dw_verdict_30 ?_
  obtain ⟨o3, h⟩ := h
  obtain ⟨ht, hf⟩ := h
  refine Aw.icmp_ne (tgt := 45) r2 o3 (by decide) d_Dw_verdict_31 (fun c4 => ?_) (fun c4 => ?_)
  · have h := ht c4
    refine Aw.aload rfl d_Dw_verdict_45 ?_
    refine Aw.iload_n rfl d_Dw_verdict_47 ?_
    refine Aw.iload_n rfl d_Dw_verdict_48 ?_
    exact h
  · have h := hf c4
    exact h
theorem b_Dw_verdict_52 {Ω : Om} {R : Room} {F : QF} {k n : Nat} {σ : Sto} {a0 : Nat} {v1 : Int} {v2 : Int} {v3 : Int} {a4 : Nat} (h : Aw Ω M_Dw_verdict R F k n 54 [xr (some a0), xi v1, xi v2, xi v3, xr (some a4)] [xr (some a4)] σ) : Aw Ω M_Dw_verdict R F k n 52 [xr (some a0), xi v1, xi v2, xi v3, xr (some a4)] [] σ := by
  refine Aw.aload rfl d_Dw_verdict_52 ?_
  exact h
theorem c_Dw_verdict_2 {Ω : Om} {R R' : Room} {F : QF} {k n : Nat} {L st : List PV} {σ : Sto} {QX' : String → Sto → Prop} {Q : Option Nat → Sto → Prop} {a : Nat} {x0 : Int} (hc : MC Ω M_Dw_reviewAt R' (RR Q) QX' σ [xr (some a), xi x0]) (hk : sK σ a = 1) (hr1 : R'.frames + 1 ≤ R.frames) (hr2 : 8 + (2 + 11) + R'.locals ≤ R.locals) (hb1 : k + R'.cells ≤ R.cells) (hb2 : n + R'.slots ≤ R.slots) (hst : (st.map catP).sum ≤ 8) (kk : ∀ x σ', Q x σ' → Aw Ω M_Dw_verdict R F (k + R'.cells) (n + R'.slots) 5 L (xr x :: st) σ') (kx : ∀ E σ', QX' E σ' → Ax Ω M_Dw_verdict R F (k + R'.cells) (n + R'.slots) 2 L st σ' E) : Aw Ω M_Dw_verdict R F k n 2 L (xi x0 :: xr (some a) :: st) σ :=
  Aw.callV (As := [xi x0]) (stk := xi x0 :: xr (some a) :: st) (nn := 1) 0 M_Dw_reviewAt hc ok_Dw_reviewAt rfl (by decide) rfl hk ml_Dw_318 im_Dw_reviewAt se_Dw_reviewAt ⟨hr1, hr2⟩ rfl ⟨hb1, hb2⟩ hst rfl d_Dw_verdict_2 (fun r σ' h => by obtain ⟨x, rfl, h⟩ := h; exact kk x σ' h) kx
theorem c_Dw_verdict_9 {Ω : Om} {R R' : Room} {F : QF} {k n : Nat} {L st : List PV} {σ : Sto} {QX' : String → Sto → Prop} {Q : Sto → Prop} {a : Nat} {x0 : Int} (hc : MC Ω M_Dw_checkPerson R' (RV Q) QX' σ [xr (some a), xi x0]) (hk : sK σ a = 1) (hr1 : R'.frames + 1 ≤ R.frames) (hr2 : 8 + (2 + 11) + R'.locals ≤ R.locals) (hb1 : k + R'.cells ≤ R.cells) (hb2 : n + R'.slots ≤ R.slots) (hst : (st.map catP).sum ≤ 8) (kk : ∀ σ', Q σ' → Aw Ω M_Dw_verdict R F (k + R'.cells) (n + R'.slots) 12 L st σ') (kx : ∀ E σ', QX' E σ' → Ax Ω M_Dw_verdict R F (k + R'.cells) (n + R'.slots) 9 L st σ' E) : Aw Ω M_Dw_verdict R F k n 9 L (xi x0 :: xr (some a) :: st) σ :=
  Aw.callV (As := [xi x0]) (stk := xi x0 :: xr (some a) :: st) (nn := 1) 0 M_Dw_checkPerson hc ok_Dw_checkPerson rfl (by decide) rfl hk ml_Dw_95 im_Dw_checkPerson se_Dw_checkPerson ⟨hr1, hr2⟩ rfl ⟨hb1, hb2⟩ hst rfl d_Dw_verdict_9 (fun r σ' h => by obtain ⟨rfl, h⟩ := h; exact kk σ' h) kx
theorem c_Dw_verdict_15 {Ω : Om} {R R' : Room} {F : QF} {k n : Nat} {L st : List PV} {σ : Sto} {QX' : String → Sto → Prop} {Q : Sto → Prop} {a : Nat} {x0 : Option Nat} (hc : MC Ω M_Dw_checkNotLanded R' (RV Q) QX' σ [xr (some a), xr x0]) (hk : sK σ a = 1) (hr1 : R'.frames + 1 ≤ R.frames) (hr2 : 8 + (2 + 11) + R'.locals ≤ R.locals) (hb1 : k + R'.cells ≤ R.cells) (hb2 : n + R'.slots ≤ R.slots) (hst : (st.map catP).sum ≤ 8) (kk : ∀ σ', Q σ' → Aw Ω M_Dw_verdict R F (k + R'.cells) (n + R'.slots) 18 L st σ') (kx : ∀ E σ', QX' E σ' → Ax Ω M_Dw_verdict R F (k + R'.cells) (n + R'.slots) 15 L st σ' E) : Aw Ω M_Dw_verdict R F k n 15 L (xr x0 :: xr (some a) :: st) σ :=
  Aw.callV (As := [xr x0]) (stk := xr x0 :: xr (some a) :: st) (nn := 1) 0 M_Dw_checkNotLanded hc ok_Dw_checkNotLanded rfl (by decide) rfl hk ml_Dw_327 im_Dw_checkNotLanded se_Dw_checkNotLanded ⟨hr1, hr2⟩ rfl ⟨hb1, hb2⟩ hst rfl d_Dw_verdict_15 (fun r σ' h => by obtain ⟨rfl, h⟩ := h; exact kk σ' h) kx
theorem c_Dw_verdict_24 {Ω : Om} {R R' : Room} {F : QF} {k n : Nat} {L st : List PV} {σ : Sto} {QX' : String → Sto → Prop} {Q : Option Nat → Sto → Prop} {a : Nat} {x0 : Int} (hc : MC Ω M_Dw_versionAt R' (RR Q) QX' σ [xr (some a), xi x0]) (hk : sK σ a = 1) (hr1 : R'.frames + 1 ≤ R.frames) (hr2 : 8 + (2 + 11) + R'.locals ≤ R.locals) (hb1 : k + R'.cells ≤ R.cells) (hb2 : n + R'.slots ≤ R.slots) (hst : (st.map catP).sum ≤ 8) (kk : ∀ x σ', Q x σ' → Aw Ω M_Dw_verdict R F (k + R'.cells) (n + R'.slots) 27 L (xr x :: st) σ') (kx : ∀ E σ', QX' E σ' → Ax Ω M_Dw_verdict R F (k + R'.cells) (n + R'.slots) 24 L st σ' E) : Aw Ω M_Dw_verdict R F k n 24 L (xi x0 :: xr (some a) :: st) σ :=
  Aw.callV (As := [xi x0]) (stk := xi x0 :: xr (some a) :: st) (nn := 1) 0 M_Dw_versionAt hc ok_Dw_versionAt rfl (by decide) rfl hk ml_Dw_91 im_Dw_versionAt se_Dw_versionAt ⟨hr1, hr2⟩ rfl ⟨hb1, hb2⟩ hst rfl d_Dw_verdict_24 (fun r σ' h => by obtain ⟨x, rfl, h⟩ := h; exact kk x σ' h) kx
theorem t_Dw_verdict_34 {Ω : Om} {R : Room} {k n : Nat} {L : List PV} {σ : Sto} {QR : Option PV → Sto → Prop} {QX : String → Sto → Prop} {st : List PV} (hRf : 5 < R.frames) (hRl : (st.map catP).sum + 82 ≤ R.locals) (hc : k + 1 ≤ R.cells) (hs : n + 6 ≤ R.slots) (hx : ∀ n', sN σ ≤ n' → QX "java/lang/IllegalStateException" (nX σ n')) : Aw Ω M_Dw_verdict R (MF Ω R QR QX) k n 34 L st σ := Aw.throwSW (text := "the author has no verdict") rfl (by decide +kernel) exn_f cl_Dw_132 exi_IllegalStateException (List.mem_of_getElem? (i := 1420) (by decide +kernel)) exa_Dw_136 exg_Dw_136 d_Dw_verdict_34 d_Dw_verdict_37 d_Dw_verdict_38 d_Dw_verdict_41 d_Dw_verdict_44 hRf hRl hc hs hx
theorem c_Dw_verdict_49 {Ω : Om} {R R' : Room} {F : QF} {k n : Nat} {L st : List PV} {σ : Sto} {QX' : String → Sto → Prop} {Q : Sto → Prop} {a : Nat} {x0 : Int} {x1 : Int} (hc : MC Ω M_Rev_hear R' (RV Q) QX' σ [xr (some a), xi x0, xi x1]) (hk : sK σ a = 9) (hr1 : R'.frames + 1 ≤ R.frames) (hr2 : 8 + (3 + 11) + R'.locals ≤ R.locals) (hb1 : k + R'.cells ≤ R.cells) (hb2 : n + R'.slots ≤ R.slots) (hst : (st.map catP).sum ≤ 8) (kk : ∀ σ', Q σ' → Aw Ω M_Dw_verdict R F (k + R'.cells) (n + R'.slots) 52 L st σ') (kx : ∀ E σ', QX' E σ' → Ax Ω M_Dw_verdict R F (k + R'.cells) (n + R'.slots) 49 L st σ' E) : Aw Ω M_Dw_verdict R F k n 49 L (xi x1 :: xi x0 :: xr (some a) :: st) σ :=
  Aw.callV (As := [xi x0, xi x1]) (stk := xi x1 :: xi x0 :: xr (some a) :: st) (nn := 2) 8 M_Rev_hear hc ok_Rev_hear rfl (by decide) rfl hk ml_Dw_339 im_Rev_hear se_Rev_hear ⟨hr1, hr2⟩ rfl ⟨hb1, hb2⟩ hst rfl d_Dw_verdict_49 (fun r σ' h => by obtain ⟨rfl, h⟩ := h; exact kk σ' h) kx
theorem c_Dw_verdict_54 {Ω : Om} {R R' : Room} {F : QF} {k n : Nat} {L st : List PV} {σ : Sto} {QX' : String → Sto → Prop} {Q : Int → Sto → Prop} {a : Nat} (hc : MC Ω M_Rev_state R' (RI Q) QX' σ [xr (some a)]) (hk : sK σ a = 9) (hr1 : R'.frames + 1 ≤ R.frames) (hr2 : 8 + (3 + 11) + R'.locals ≤ R.locals) (hb1 : k + R'.cells ≤ R.cells) (hb2 : n + R'.slots ≤ R.slots) (hst : (st.map catP).sum ≤ 8) (kk : ∀ x σ', Q x σ' → Aw Ω M_Dw_verdict R F (k + R'.cells) (n + R'.slots) 57 L (xi x :: st) σ') (kx : ∀ E σ', QX' E σ' → Ax Ω M_Dw_verdict R F (k + R'.cells) (n + R'.slots) 54 L st σ' E) : Aw Ω M_Dw_verdict R F k n 54 L (xr (some a) :: st) σ :=
  Aw.callV (As := []) (stk := xr (some a) :: st) (nn := 0) 8 M_Rev_state hc ok_Rev_state rfl (by decide) rfl hk ml_Dw_343 im_Rev_state se_Rev_state ⟨hr1, hr2⟩ rfl ⟨hb1, hb2⟩ hst rfl d_Dw_verdict_54 (fun r σ' h => by obtain ⟨x, rfl, h⟩ := h; exact kk x σ' h) kx
theorem r_Dw_verdict_57 {Ω : Om} {R : Room} {k n : Nat} {L : List PV} {σ : Sto} {QR : Option PV → Sto → Prop} {QX : String → Sto → Prop} {x : Int} (h : QR (some (xi x)) σ) (h1 : k ≤ R.cells) (h2 : n ≤ R.slots) : Aw Ω M_Dw_verdict R (MF Ω R QR QX) k n 57 L [xi x] σ := Aw.iret rfl h h1 h2 d_Dw_verdict_57
theorem e_Dw_versionAt {Ω : Om} {R : Room} {QR : Option PV → Sto → Prop} {QX : String → Sto → Prop} {σ : Sto} {a0 : Nat} {v1 : Int} (h : Aw Ω M_Dw_versionAt R (MF Ω R QR QX) 0 0 0 [xr (some a0), xi v1] [] σ) : MC Ω M_Dw_versionAt R QR QX σ [xr (some a0), xi v1] := MC.body (by decide +kernel) rfl (Nat.le_of_ble_eq_true rfl) rfl h
theorem b_Dw_versionAt_0 {Ω : Om} {R : Room} {F : QF} {k n : Nat} {σ : Sto} {a0 : Nat} {v1 : Int} (h : Q32 v1 ∧ ((v1 < (0 : Int) → Aw Ω M_Dw_versionAt R F k n 12 [xr (some a0), xi v1] [] σ) ∧ (¬ v1 < (0 : Int) → sK σ a0 = 1 ∧ (Q32 (fI σ 12 a0) → ((v1 < (fI σ 12 a0) → (∃ b4 : Nat, fR σ 0 a0 = some b4 ∧ sK σ b4 = 55 ∧ 0 ≤ v1 ∧ v1 < sZ σ b4 ∧ Aw Ω M_Dw_versionAt R F k n 29 [xr (some a0), xi v1] [xr (aR σ b4 (v1).toNat)] σ)) ∧ (¬ v1 < (fI σ 12 a0) → Aw Ω M_Dw_versionAt R F k n 12 [xr (some a0), xi v1] [] σ)))))) : Aw Ω M_Dw_versionAt R F k n 0 [xr (some a0), xi v1] [] σ := by
  refine Aw.iload_n rfl d_Dw_versionAt_0 ?_
  obtain ⟨o1, h⟩ := h
  obtain ⟨ht, hf⟩ := h
  refine Aw.if_lt (tgt := 12) o1 (by decide) d_Dw_versionAt_1 (fun c10 => ?_) (fun c10 => ?_)
  · have h := ht c10
    exact h
  · have h := hf c10
    refine Aw.iload_n rfl d_Dw_versionAt_4 ?_
    refine Aw.aload_n rfl d_Dw_versionAt_5 ?_
    obtain ⟨o2, h⟩ := h
    refine Aw.getI (f := 12) 0 12 fl_Dw_72 (by decide) (by decide) rfl rfl o2 d_Dw_versionAt_6 (fun r3 => ?_)
    have h := h r3
    obtain ⟨ht, hf⟩ := h
    refine Aw.icmp_lt (tgt := 23) o1 r3 (by decide) d_Dw_versionAt_9 (fun c9 => ?_) (fun c9 => ?_)
    · have h := ht c9
      refine Aw.aload_n rfl d_Dw_versionAt_23 ?_
      obtain ⟨b4, e5, h⟩ := h
      refine Aw.getRs (f := 0) 0 0 fl_Dw_11 (by decide) (by decide) rfl rfl o2 e5 d_Dw_versionAt_24 ?_
      refine Aw.iload_n rfl d_Dw_versionAt_27 ?_
      obtain ⟨o6, h⟩ := h
      obtain ⟨o7, o8, h⟩ := h
      refine Aw.aald 5 (by decide) (by decide) o6 o7 o8 d_Dw_versionAt_28 ?_
      exact h
    · have h := hf c9
      exact h
theorem t_Dw_versionAt_12 {Ω : Om} {R : Room} {k n : Nat} {L : List PV} {σ : Sto} {QR : Option PV → Sto → Prop} {QX : String → Sto → Prop} {st : List PV} (hRf : 5 < R.frames) (hRl : (st.map catP).sum + 82 ≤ R.locals) (hc : k + 1 ≤ R.cells) (hs : n + 6 ≤ R.slots) (hx : ∀ n', sN σ ≤ n' → QX "java/lang/IndexOutOfBoundsException" (nX σ n')) : Aw Ω M_Dw_versionAt R (MF Ω R QR QX) k n 12 L st σ := Aw.throwSW (text := "there is no such version") rfl (by decide +kernel) exn_f cl_Dw_294 exi_IndexOutOfBoundsException (List.mem_of_getElem? (i := 544) (by decide +kernel)) exa_Dw_298 exg_Dw_298 d_Dw_versionAt_12 d_Dw_versionAt_15 d_Dw_versionAt_16 d_Dw_versionAt_19 d_Dw_versionAt_22 hRf hRl hc hs hx
theorem r_Dw_versionAt_29 {Ω : Om} {R : Room} {k n : Nat} {L : List PV} {σ : Sto} {QR : Option PV → Sto → Prop} {QX : String → Sto → Prop} {x : Option Nat} (h : QR (some (xr x)) σ) (h1 : k ≤ R.cells) (h2 : n ≤ R.slots) : Aw Ω M_Dw_versionAt R (MF Ω R QR QX) k n 29 L [xr x] σ := Aw.aret rfl (by first | exact Or.inl ⟨_, rfl⟩ | exact Or.inr ⟨_, rfl⟩) h h1 h2 d_Dw_versionAt_29
theorem e_Dw_versions {Ω : Om} {R : Room} {QR : Option PV → Sto → Prop} {QX : String → Sto → Prop} {σ : Sto} {a0 : Nat} (h : Aw Ω M_Dw_versions R (MF Ω R QR QX) 0 0 0 [xr (some a0)] [] σ) : MC Ω M_Dw_versions R QR QX σ [xr (some a0)] := MC.body (by decide +kernel) rfl (Nat.le_of_ble_eq_true rfl) rfl h
theorem b_Dw_versions_0 {Ω : Om} {R : Room} {F : QF} {k n : Nat} {σ : Sto} {a0 : Nat} (h : sK σ a0 = 1 ∧ (Q32 (fI σ 12 a0) → Aw Ω M_Dw_versions R F k n 4 [xr (some a0)] [xi (fI σ 12 a0)] σ)) : Aw Ω M_Dw_versions R F k n 0 [xr (some a0)] [] σ := by
  refine Aw.aload_n rfl d_Dw_versions_0 ?_
  obtain ⟨o1, h⟩ := h
  refine Aw.getI (f := 12) 0 12 fl_Dw_72 (by decide) (by decide) rfl rfl o1 d_Dw_versions_1 (fun r2 => ?_)
  have h := h r2
  exact h
theorem r_Dw_versions_4 {Ω : Om} {R : Room} {k n : Nat} {L : List PV} {σ : Sto} {QR : Option PV → Sto → Prop} {QX : String → Sto → Prop} {x : Int} (h : QR (some (xi x)) σ) (h1 : k ≤ R.cells) (h2 : n ≤ R.slots) : Aw Ω M_Dw_versions R (MF Ω R QR QX) k n 4 L [xi x] σ := Aw.iret rfl h h1 h2 d_Dw_versions_4
