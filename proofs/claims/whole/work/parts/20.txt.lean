/-! walks of DiffWeaver$Text (by program) -/
theorem e_Txt_copy {Ω : Om} {R : Room} {QR : Option PV → Sto → Prop} {QX : String → Sto → Prop} {σ : Sto} {a0 : Nat} {a1 : Nat} (h : Aw Ω M_Txt_copy R (MF Ω R QR QX) 0 0 0 [xr (some a0), xr (some a1), xu] [] σ) : MC Ω M_Txt_copy R QR QX σ [xr (some a0), xr (some a1)] := MC.body (by decide +kernel) rfl (Nat.le_of_ble_eq_true rfl) rfl h
theorem b_Txt_copy_0 {Ω : Om} {R : Room} {F : QF} {k n : Nat} {σ : Sto} {a0 : Nat} {a1 : Nat} (h : sK σ a1 = 10 ∧ (Q32 (fI σ 578 a1) → Q32 (fI σ 578 a1) ∧ Q32 40 ∧ 1 ≤ R.frames ∧ ([xr (some a0)].map catP).sum + 13 ≤ R.locals ∧ k ≤ R.cells ∧ n ≤ R.slots ∧ sK σ a0 = 10 ∧ Q32 (minI (fI σ 578 a1) 40) ∧ Aw Ω M_Txt_copy R F k n 15 [xr (some a0), xr (some a1), xi 0] [] (uI σ 578 a0 (minI (fI σ 578 a1) 40)))) : Aw Ω M_Txt_copy R F k n 0 [xr (some a0), xr (some a1), xu] [] σ := by
  refine Aw.aload_n rfl d_Txt_copy_0 ?_
  refine Aw.aload_n rfl d_Txt_copy_1 ?_
  obtain ⟨o1, h⟩ := h
  refine Aw.getI (f := 578) 9 2 fl_Txt_19 (by decide) (by decide) rfl rfl o1 d_Txt_copy_2 (fun r2 => ?_)
  have h := h r2
  refine Aw.bipush (by decide) d_Txt_copy_5 ?_
  obtain ⟨o3, o4, o5, o6, o7, o8, h⟩ := h
  refine Aw.mmin o3 o4 ml_Txt_43 mth_min_1 mth_ini mth_min_2 o5 o6 o7 o8 d_Txt_copy_7 ?_
  obtain ⟨o9, h⟩ := h
  obtain ⟨o10, h⟩ := h
  refine Aw.putI (f := 578) 9 2 fl_Txt_19 (by decide) (by decide) rfl rfl o9 rfl o10 (Or.inl rfl) d_Txt_copy_10 ?_
  refine Aw.iconst d_Txt_copy_13 ?_
  refine Aw.istore_n (by decide) d_Txt_copy_14 ?_
  refine Aw.toL (L' := [xr (some a0), xr (some a1), xi 0]) rfl ?_
  exact h
theorem b_Txt_copy_15 {Ω : Om} {R : Room} {F : QF} {k n : Nat} {σ : Sto} {a0 : Nat} {a1 : Nat} {v2 : Int} (h : sK σ a0 = 10 ∧ (Q32 (fI σ 578 a0) → Q32 v2 ∧ (((fI σ 578 a0) ≤ v2 → Aw Ω M_Txt_copy R F k n 53 [xr (some a0), xr (some a1), xi v2] [] σ) ∧ (¬ (fI σ 578 a0) ≤ v2 → (∃ b4 : Nat, fR σ 576 a0 = some b4 ∧ sK σ a1 = 10 ∧ (∃ b7 : Nat, fR σ 576 a1 = some b7 ∧ sK σ b7 = 51 ∧ 0 ≤ v2 ∧ v2 < sZ σ b7 ∧ sK σ b4 = 51 ∧ 0 ≤ v2 ∧ v2 < sZ σ b4 ∧ (∃ b15 : Nat, fR σ 577 a0 = some b15 ∧ (∃ b17 : Nat, fR σ 577 a1 = some b17 ∧ sK σ b17 = 50 ∧ 0 ≤ v2 ∧ v2 < sZ σ b17 ∧ (Q32 (aI σ b17 (v2).toNat) → sK σ b15 = 50 ∧ 0 ≤ v2 ∧ v2 < sZ σ b15 ∧ Aw Ω M_Txt_copy R F k n 15 [xr (some a0), xr (some a1), xi (v2 + 1)] [] (vI (vL σ b4 (v2).toNat (aL σ b7 (v2).toNat)) b15 (v2).toNat (aI σ b17 (v2).toNat))))))))))) : Aw Ω M_Txt_copy R F k n 15 [xr (some a0), xr (some a1), xi v2] [] σ := by
  refine Aw.iload_n rfl d_Txt_copy_15 ?_
  refine Aw.aload_n rfl d_Txt_copy_16 ?_
  obtain ⟨o1, h⟩ := h
  refine Aw.getI (f := 578) 9 2 fl_Txt_19 (by decide) (by decide) rfl rfl o1 d_Txt_copy_17 (fun r2 => ?_)
  have h := h r2
  obtain ⟨o3, h⟩ := h
  obtain ⟨ht, hf⟩ := h
  refine Aw.icmp_ge (tgt := 53) o3 r2 (by decide) d_Txt_copy_20 (fun c26 => ?_) (fun c26 => ?_)
  · have h := ht c26
    exact h
  · have h := hf c26
    refine Aw.aload_n rfl d_Txt_copy_23 ?_
    obtain ⟨b4, e5, h⟩ := h
    refine Aw.getRs (f := 576) 9 0 fl_Txt_9 (by decide) (by decide) rfl rfl o1 e5 d_Txt_copy_24 ?_
    refine Aw.iload_n rfl d_Txt_copy_27 ?_
    refine Aw.aload_n rfl d_Txt_copy_28 ?_
    obtain ⟨o6, h⟩ := h
    obtain ⟨b7, e8, h⟩ := h
    refine Aw.getRs (f := 576) 9 0 fl_Txt_9 (by decide) (by decide) rfl rfl o6 e8 d_Txt_copy_29 ?_
    refine Aw.iload_n rfl d_Txt_copy_32 ?_
    obtain ⟨o9, h⟩ := h
    obtain ⟨o10, o11, h⟩ := h
    refine Aw.lald o9 o10 o11 d_Txt_copy_33 ?_
    obtain ⟨o12, h⟩ := h
    obtain ⟨o13, o14, h⟩ := h
    refine Aw.last o12 o13 o14 d_Txt_copy_34 ?_
    refine Aw.aload_n rfl d_Txt_copy_35 ?_
    obtain ⟨b15, e16, h⟩ := h
    refine Aw.getRs (f := 577) 9 1 fl_Txt_15 (by decide) (by decide) rfl rfl o1 e16 d_Txt_copy_36 ?_
    refine Aw.iload_n rfl d_Txt_copy_39 ?_
    refine Aw.aload_n rfl d_Txt_copy_40 ?_
    obtain ⟨b17, e18, h⟩ := h
    refine Aw.getRs (f := 577) 9 1 fl_Txt_15 (by decide) (by decide) rfl rfl o6 e18 d_Txt_copy_41 ?_
    refine Aw.iload_n rfl d_Txt_copy_44 ?_
    obtain ⟨o19, h⟩ := h
    obtain ⟨o20, o21, h⟩ := h
    refine Aw.iald o19 o20 o21 d_Txt_copy_45 (fun r22 => ?_)
    have h := h r22
    obtain ⟨o23, h⟩ := h
    obtain ⟨o24, o25, h⟩ := h
    refine Aw.iast o23 o24 o25 r22 d_Txt_copy_46 ?_
    refine Aw.iinc rfl d_Txt_copy_47 ?_
    refine Aw.toL (L' := [xr (some a0), xr (some a1), xi (v2 + 1)]) rfl ?_
    refine Aw.goto (tgt := 15) (by decide) d_Txt_copy_50 ?_
    exact h
theorem r_Txt_copy_53 {Ω : Om} {R : Room} {k n : Nat} {L : List PV} {σ : Sto} {QR : Option PV → Sto → Prop} {QX : String → Sto → Prop} (h : QR none σ) (h1 : k ≤ R.cells) (h2 : n ≤ R.slots) : Aw Ω M_Txt_copy R (MF Ω R QR QX) k n 53 L [] σ := Aw.vret rfl h h1 h2 d_Txt_copy_53
theorem e_Txt_empty {Ω : Om} {R : Room} {QR : Option PV → Sto → Prop} {QX : String → Sto → Prop} {σ : Sto} {a0 : Nat} (h : Aw Ω M_Txt_empty R (MF Ω R QR QX) 0 0 0 [xr (some a0)] [] σ) : MC Ω M_Txt_empty R QR QX σ [xr (some a0)] := MC.body (by decide +kernel) rfl (Nat.le_of_ble_eq_true rfl) rfl h
theorem b_Txt_empty_0 {Ω : Om} {R : Room} {F : QF} {k n : Nat} {σ : Sto} {a0 : Nat} (h : sK σ a0 = 10 ∧ Aw Ω M_Txt_empty R F k n 5 [xr (some a0)] [] (uI σ 578 a0 0)) : Aw Ω M_Txt_empty R F k n 0 [xr (some a0)] [] σ := by
  refine Aw.aload_n rfl d_Txt_empty_0 ?_
  refine Aw.iconst d_Txt_empty_1 ?_
  obtain ⟨o1, h⟩ := h
  refine Aw.putI (f := 578) 9 2 fl_Txt_19 (by decide) (by decide) rfl rfl o1 rfl ⟨by decide, by decide⟩ (Or.inl rfl) d_Txt_empty_2 ?_
  exact h
theorem r_Txt_empty_5 {Ω : Om} {R : Room} {k n : Nat} {L : List PV} {σ : Sto} {QR : Option PV → Sto → Prop} {QX : String → Sto → Prop} (h : QR none σ) (h1 : k ≤ R.cells) (h2 : n ≤ R.slots) : Aw Ω M_Txt_empty R (MF Ω R QR QX) k n 5 L [] σ := Aw.vret rfl h h1 h2 d_Txt_empty_5
theorem e_Txt_giveName {Ω : Om} {R : Room} {QR : Option PV → Sto → Prop} {QX : String → Sto → Prop} {σ : Sto} {a0 : Nat} {v1 : Int} {v2 : Int} (h : Aw Ω M_Txt_giveName R (MF Ω R QR QX) 0 0 0 [xr (some a0), xi v1, xi v2] [] σ) : MC Ω M_Txt_giveName R QR QX σ [xr (some a0), xi v1, xi v2] := MC.body (by decide +kernel) rfl (Nat.le_of_ble_eq_true rfl) rfl h
theorem b_Txt_giveName_0 {Ω : Om} {R : Room} {F : QF} {k n : Nat} {σ : Sto} {a0 : Nat} {v1 : Int} {v2 : Int} (h : Aw Ω M_Txt_giveName R F k n 2 [xr (some a0), xi v1, xi v2] [xi v1, xr (some a0)] σ) : Aw Ω M_Txt_giveName R F k n 0 [xr (some a0), xi v1, xi v2] [] σ := by
  refine Aw.aload_n rfl d_Txt_giveName_0 ?_
  refine Aw.iload_n rfl d_Txt_giveName_1 ?_
  exact h
theorem b_Txt_giveName_5 {Ω : Om} {R : Room} {F : QF} {k n : Nat} {σ : Sto} {a0 : Nat} {v1 : Int} {v2 : Int} {s0 : Int} (h : Q32 s0 ∧ ((s0 = (0 : Int) → Aw Ω M_Txt_giveName R F k n 15 [xr (some a0), xi v1, xi v2] [] σ) ∧ (¬ s0 = (0 : Int) → sK σ a0 = 10 ∧ (∃ b3 : Nat, fR σ 577 a0 = some b3 ∧ sK σ b3 = 50 ∧ 0 ≤ v1 ∧ v1 < sZ σ b3 ∧ Q32 v2 ∧ Aw Ω M_Txt_giveName R F k n 15 [xr (some a0), xi v1, xi v2] [] (vI σ b3 (v1).toNat v2))))) : Aw Ω M_Txt_giveName R F k n 5 [xr (some a0), xi v1, xi v2] [xi s0] σ := by
  obtain ⟨o1, h⟩ := h
  obtain ⟨ht, hf⟩ := h
  refine Aw.if_eq (tgt := 15) o1 (by decide) d_Txt_giveName_5 (fun c9 => ?_) (fun c9 => ?_)
  · have h := ht c9
    exact h
  · have h := hf c9
    refine Aw.aload_n rfl d_Txt_giveName_8 ?_
    obtain ⟨o2, h⟩ := h
    obtain ⟨b3, e4, h⟩ := h
    refine Aw.getRs (f := 577) 9 1 fl_Txt_15 (by decide) (by decide) rfl rfl o2 e4 d_Txt_giveName_9 ?_
    refine Aw.iload_n rfl d_Txt_giveName_12 ?_
    refine Aw.iload_n rfl d_Txt_giveName_13 ?_
    obtain ⟨o5, h⟩ := h
    obtain ⟨o6, o7, h⟩ := h
    obtain ⟨o8, h⟩ := h
    refine Aw.iast o5 o6 o7 o8 d_Txt_giveName_14 ?_
    exact h
theorem c_Txt_giveName_2 {Ω : Om} {R R' : Room} {F : QF} {k n : Nat} {L st : List PV} {σ : Sto} {QX' : String → Sto → Prop} {Q : Int → Sto → Prop} {a : Nat} {x0 : Int} (hc : MC Ω M_Txt_hasPlace R' (RI Q) QX' σ [xr (some a), xi x0]) (hk : sK σ a = 10) (hr1 : R'.frames + 1 ≤ R.frames) (hr2 : 8 + (2 + 11) + R'.locals ≤ R.locals) (hb1 : k + R'.cells ≤ R.cells) (hb2 : n + R'.slots ≤ R.slots) (hst : (st.map catP).sum ≤ 8) (kk : ∀ x σ', Q x σ' → Aw Ω M_Txt_giveName R F (k + R'.cells) (n + R'.slots) 5 L (xi x :: st) σ') (kx : ∀ E σ', QX' E σ' → Ax Ω M_Txt_giveName R F (k + R'.cells) (n + R'.slots) 2 L st σ' E) : Aw Ω M_Txt_giveName R F k n 2 L (xi x0 :: xr (some a) :: st) σ :=
  Aw.callV (As := [xi x0]) (stk := xi x0 :: xr (some a) :: st) (nn := 1) 9 M_Txt_hasPlace hc ok_Txt_hasPlace rfl (by decide) rfl hk ml_Txt_23 im_Txt_hasPlace se_Txt_hasPlace ⟨hr1, hr2⟩ rfl ⟨hb1, hb2⟩ hst rfl d_Txt_giveName_2 (fun r σ' h => by obtain ⟨x, rfl, h⟩ := h; exact kk x σ' h) kx
theorem r_Txt_giveName_15 {Ω : Om} {R : Room} {k n : Nat} {L : List PV} {σ : Sto} {QR : Option PV → Sto → Prop} {QX : String → Sto → Prop} (h : QR none σ) (h1 : k ≤ R.cells) (h2 : n ≤ R.slots) : Aw Ω M_Txt_giveName R (MF Ω R QR QX) k n 15 L [] σ := Aw.vret rfl h h1 h2 d_Txt_giveName_15
theorem e_Txt_hasPlace {Ω : Om} {R : Room} {QR : Option PV → Sto → Prop} {QX : String → Sto → Prop} {σ : Sto} {a0 : Nat} {v1 : Int} (h : Aw Ω M_Txt_hasPlace R (MF Ω R QR QX) 0 0 0 [xr (some a0), xi v1] [] σ) : MC Ω M_Txt_hasPlace R QR QX σ [xr (some a0), xi v1] := MC.body (by decide +kernel) rfl (Nat.le_of_ble_eq_true rfl) rfl h
theorem b_Txt_hasPlace_0 {Ω : Om} {R : Room} {F : QF} {k n : Nat} {σ : Sto} {a0 : Nat} {v1 : Int} (h : Q32 v1 ∧ ((v1 < (0 : Int) → Aw Ω M_Txt_hasPlace R F k n 17 [xr (some a0), xi v1] [xi 0] σ) ∧ (¬ v1 < (0 : Int) → sK σ a0 = 10 ∧ (Q32 (fI σ 578 a0) → (((fI σ 578 a0) ≤ v1 → Aw Ω M_Txt_hasPlace R F k n 17 [xr (some a0), xi v1] [xi 0] σ) ∧ (¬ (fI σ 578 a0) ≤ v1 → Aw Ω M_Txt_hasPlace R F k n 17 [xr (some a0), xi v1] [xi 1] σ)))))) : Aw Ω M_Txt_hasPlace R F k n 0 [xr (some a0), xi v1] [] σ := by
  refine Aw.iload_n rfl d_Txt_hasPlace_0 ?_
  obtain ⟨o1, h⟩ := h
  obtain ⟨ht, hf⟩ := h
  refine Aw.if_lt (tgt := 16) o1 (by decide) d_Txt_hasPlace_1 (fun c5 => ?_) (fun c5 => ?_)
  · have h := ht c5
    refine Aw.iconst d_Txt_hasPlace_16 ?_
    exact h
  · have h := hf c5
    refine Aw.iload_n rfl d_Txt_hasPlace_4 ?_
    refine Aw.aload_n rfl d_Txt_hasPlace_5 ?_
    obtain ⟨o2, h⟩ := h
    refine Aw.getI (f := 578) 9 2 fl_Txt_19 (by decide) (by decide) rfl rfl o2 d_Txt_hasPlace_6 (fun r3 => ?_)
    have h := h r3
    obtain ⟨ht, hf⟩ := h
    refine Aw.icmp_ge (tgt := 16) o1 r3 (by decide) d_Txt_hasPlace_9 (fun c4 => ?_) (fun c4 => ?_)
    · have h := ht c4
      refine Aw.iconst d_Txt_hasPlace_16 ?_
      exact h
    · have h := hf c4
      refine Aw.iconst d_Txt_hasPlace_12 ?_
      refine Aw.goto (tgt := 17) (by decide) d_Txt_hasPlace_13 ?_
      exact h
theorem r_Txt_hasPlace_17 {Ω : Om} {R : Room} {k n : Nat} {L : List PV} {σ : Sto} {QR : Option PV → Sto → Prop} {QX : String → Sto → Prop} {x : Int} (hx : x = 0 ∨ x = 1) (h : QR (some (xi x)) σ) (h1 : k ≤ R.cells) (h2 : n ≤ R.slots) : Aw Ω M_Txt_hasPlace R (MF Ω R QR QX) k n 17 L [xi x] σ := Aw.zret rfl hx h h1 h2 d_Txt_hasPlace_17
theorem e_Txt_holds {Ω : Om} {R : Room} {QR : Option PV → Sto → Prop} {QX : String → Sto → Prop} {σ : Sto} {a0 : Nat} {v1 : Int} (h : Aw Ω M_Txt_holds R (MF Ω R QR QX) 0 0 0 [xr (some a0), xi v1, xu] [] σ) : MC Ω M_Txt_holds R QR QX σ [xr (some a0), xi v1] := MC.body (by decide +kernel) rfl (Nat.le_of_ble_eq_true rfl) rfl h
theorem b_Txt_holds_0 {Ω : Om} {R : Room} {F : QF} {k n : Nat} {σ : Sto} {a0 : Nat} {v1 : Int} (h : Aw Ω M_Txt_holds R F k n 2 [xr (some a0), xi v1, xi 0] [] σ) : Aw Ω M_Txt_holds R F k n 0 [xr (some a0), xi v1, xu] [] σ := by
  refine Aw.iconst d_Txt_holds_0 ?_
  refine Aw.istore_n (by decide) d_Txt_holds_1 ?_
  refine Aw.toL (L' := [xr (some a0), xi v1, xi 0]) rfl ?_
  exact h
theorem b_Txt_holds_2 {Ω : Om} {R : Room} {F : QF} {k n : Nat} {σ : Sto} {a0 : Nat} {v1 : Int} {v2 : Int} (h : sK σ a0 = 10 ∧ (Q32 (fI σ 578 a0) → Q32 v2 ∧ (((fI σ 578 a0) ≤ v2 → Aw Ω M_Txt_holds R F k n 29 [xr (some a0), xi v1, xi v2] [xi 0] σ) ∧ (¬ (fI σ 578 a0) ≤ v2 → (∃ b4 : Nat, fR σ 577 a0 = some b4 ∧ sK σ b4 = 50 ∧ 0 ≤ v2 ∧ v2 < sZ σ b4 ∧ (Q32 (aI σ b4 (v2).toNat) → Q32 v1 ∧ ((¬ (aI σ b4 (v2).toNat) = v1 → Aw Ω M_Txt_holds R F k n 2 [xr (some a0), xi v1, xi (v2 + 1)] [] σ) ∧ ((aI σ b4 (v2).toNat) = v1 → Aw Ω M_Txt_holds R F k n 21 [xr (some a0), xi v1, xi v2] [xi 1] σ)))))))) : Aw Ω M_Txt_holds R F k n 2 [xr (some a0), xi v1, xi v2] [] σ := by
  refine Aw.iload_n rfl d_Txt_holds_2 ?_
  refine Aw.aload_n rfl d_Txt_holds_3 ?_
  obtain ⟨o1, h⟩ := h
  refine Aw.getI (f := 578) 9 2 fl_Txt_19 (by decide) (by decide) rfl rfl o1 d_Txt_holds_4 (fun r2 => ?_)
  have h := h r2
  obtain ⟨o3, h⟩ := h
  obtain ⟨ht, hf⟩ := h
  refine Aw.icmp_ge (tgt := 28) o3 r2 (by decide) d_Txt_holds_7 (fun c12 => ?_) (fun c12 => ?_)
  · have h := ht c12
    refine Aw.iconst d_Txt_holds_28 ?_
    exact h
  · have h := hf c12
    refine Aw.aload_n rfl d_Txt_holds_10 ?_
    obtain ⟨b4, e5, h⟩ := h
    refine Aw.getRs (f := 577) 9 1 fl_Txt_15 (by decide) (by decide) rfl rfl o1 e5 d_Txt_holds_11 ?_
    refine Aw.iload_n rfl d_Txt_holds_14 ?_
    obtain ⟨o6, h⟩ := h
    obtain ⟨o7, o8, h⟩ := h
    refine Aw.iald o6 o7 o8 d_Txt_holds_15 (fun r9 => ?_)
    have h := h r9
    refine Aw.iload_n rfl d_Txt_holds_16 ?_
    obtain ⟨o10, h⟩ := h
    obtain ⟨ht, hf⟩ := h
    refine Aw.icmp_ne (tgt := 22) r9 o10 (by decide) d_Txt_holds_17 (fun c11 => ?_) (fun c11 => ?_)
    · have h := ht c11
      refine Aw.iinc rfl d_Txt_holds_22 ?_
      refine Aw.toL (L' := [xr (some a0), xi v1, xi (v2 + 1)]) rfl ?_
      refine Aw.goto (tgt := 2) (by decide) d_Txt_holds_25 ?_
      exact h
    · have h := hf c11
      refine Aw.iconst d_Txt_holds_20 ?_
      exact h
theorem r_Txt_holds_21 {Ω : Om} {R : Room} {k n : Nat} {L : List PV} {σ : Sto} {QR : Option PV → Sto → Prop} {QX : String → Sto → Prop} {x : Int} (hx : x = 0 ∨ x = 1) (h : QR (some (xi x)) σ) (h1 : k ≤ R.cells) (h2 : n ≤ R.slots) : Aw Ω M_Txt_holds R (MF Ω R QR QX) k n 21 L [xi x] σ := Aw.zret rfl hx h h1 h2 d_Txt_holds_21
theorem r_Txt_holds_29 {Ω : Om} {R : Room} {k n : Nat} {L : List PV} {σ : Sto} {QR : Option PV → Sto → Prop} {QX : String → Sto → Prop} {x : Int} (hx : x = 0 ∨ x = 1) (h : QR (some (xi x)) σ) (h1 : k ≤ R.cells) (h2 : n ≤ R.slots) : Aw Ω M_Txt_holds R (MF Ω R QR QX) k n 29 L [xi x] σ := Aw.zret rfl hx h h1 h2 d_Txt_holds_29
theorem e_Txt_init {Ω : Om} {R : Room} {QR : Option PV → Sto → Prop} {QX : String → Sto → Prop} {σ : Sto} {a0 : Nat} (h : Aw Ω M_Txt_init R (MF Ω R QR QX) 0 0 0 [xr (some a0)] [] σ) : MC Ω M_Txt_init R QR QX σ [xr (some a0)] := MC.body (by decide +kernel) rfl (Nat.le_of_ble_eq_true rfl) rfl h
theorem b_Txt_init_0 {Ω : Om} {R : Room} {F : QF} {k n : Nat} {σ : Sto} {a0 : Nat} (h : 1 ≤ R.frames ∧ ([].map catP).sum + 12 ≤ R.locals ∧ k + 1 ≤ R.cells ∧ n + 40 ≤ R.slots ∧ (∀ σ7 : Sto, σ7 = (nO σ 51 40) → sK σ7 a0 = 10 ∧ k + 1 + 1 ≤ R.cells ∧ n + 40 + 40 ≤ R.slots ∧ (∀ σ13 : Sto, σ13 = (nO (uR σ7 576 a0 (some (sN σ))) 50 40) → sK σ13 a0 = 10 ∧ Aw Ω M_Txt_init R F (k + 1 + 1) (n + 40 + 40) 25 [xr (some a0)] [] (uI (uR σ13 577 a0 (some (sN σ7))) 578 a0 0)))) : Aw Ω M_Txt_init R F k n 0 [xr (some a0)] [] σ := by
  refine Aw.aload_n rfl d_Txt_init_0 ?_
  obtain ⟨o1, o2, h⟩ := h
  refine Aw.objInit ml_Txt_3 oi_1 oi_2 o1 o2 d_Txt_init_1 ?_
  refine Aw.aload_n rfl d_Txt_init_4 ?_
  refine Aw.bipush (by decide) d_Txt_init_5 ?_
  obtain ⟨o5, o6, h⟩ := h
  refine Aw.newarr 1 (by decide) rfl arc_1 (by decide) (by decide) o5 o6 d_Txt_init_7 ?_
  obtain ⟨σ7, hσ7⟩ : ∃ z, z = (nO σ 51 40) := ⟨_, rfl⟩
  refine Aw.toS (σ' := σ7) hσ7 ?_
  have h := h σ7 hσ7
  obtain ⟨o8, h⟩ := h
  refine Aw.putRF (f := 576) 9 0 fm_Txt_9 (by decide) (by decide) rfl rfl o8 rfl rfl rfl rfl d_Txt_init_9 ?_
  refine Aw.aload_n rfl d_Txt_init_12 ?_
  refine Aw.bipush (by decide) d_Txt_init_13 ?_
  obtain ⟨o11, o12, h⟩ := h
  refine Aw.newarr 0 (by decide) rfl arc_0 (by decide) (by decide) o11 o12 d_Txt_init_15 ?_
  obtain ⟨σ13, hσ13⟩ : ∃ z, z = (nO (uR σ7 576 a0 (some (sN σ))) 50 40) := ⟨_, rfl⟩
  refine Aw.toS (σ' := σ13) hσ13 ?_
  have h := h σ13 hσ13
  obtain ⟨o14, h⟩ := h
  refine Aw.putRF (f := 577) 9 1 fm_Txt_15 (by decide) (by decide) rfl rfl o14 rfl rfl rfl rfl d_Txt_init_17 ?_
  refine Aw.aload_n rfl d_Txt_init_20 ?_
  refine Aw.iconst d_Txt_init_21 ?_
  refine Aw.putI (f := 578) 9 2 fl_Txt_19 (by decide) (by decide) rfl rfl o14 rfl ⟨by decide, by decide⟩ (Or.inl rfl) d_Txt_init_22 ?_
  exact h
theorem r_Txt_init_25 {Ω : Om} {R : Room} {k n : Nat} {L : List PV} {σ : Sto} {QR : Option PV → Sto → Prop} {QX : String → Sto → Prop} (h : QR none σ) (h1 : k ≤ R.cells) (h2 : n ≤ R.slots) : Aw Ω M_Txt_init R (MF Ω R QR QX) k n 25 L [] σ := Aw.vret rfl h h1 h2 d_Txt_init_25
theorem e_Txt_isLike {Ω : Om} {R : Room} {QR : Option PV → Sto → Prop} {QX : String → Sto → Prop} {σ : Sto} {a0 : Nat} {a1 : Nat} (h : Aw Ω M_Txt_isLike R (MF Ω R QR QX) 0 0 0 [xr (some a0), xr (some a1)] [] σ) : MC Ω M_Txt_isLike R QR QX σ [xr (some a0), xr (some a1)] := MC.body (by decide +kernel) rfl (Nat.le_of_ble_eq_true rfl) rfl h
theorem b_Txt_isLike_0 {Ω : Om} {R : Room} {F : QF} {k n : Nat} {σ : Sto} {a0 : Nat} {a1 : Nat} (h : sK σ a0 = 10 ∧ (Q32 (fI σ 578 a0) → sK σ a1 = 10 ∧ (Q32 (fI σ 578 a1) → Aw Ω M_Txt_isLike R F k n 12 [xr (some a0), xr (some a1)] [xi (fI σ 578 a1), xi 0, xr (some a1), xi (fI σ 578 a0), xi 0, xr (some a0)] σ))) : Aw Ω M_Txt_isLike R F k n 0 [xr (some a0), xr (some a1)] [] σ := by
  refine Aw.aload_n rfl d_Txt_isLike_0 ?_
  refine Aw.iconst d_Txt_isLike_1 ?_
  refine Aw.aload_n rfl d_Txt_isLike_2 ?_
  obtain ⟨o1, h⟩ := h
  refine Aw.getI (f := 578) 9 2 fl_Txt_19 (by decide) (by decide) rfl rfl o1 d_Txt_isLike_3 (fun r2 => ?_)
  have h := h r2
  refine Aw.aload_n rfl d_Txt_isLike_6 ?_
  refine Aw.iconst d_Txt_isLike_7 ?_
  refine Aw.aload_n rfl d_Txt_isLike_8 ?_
  obtain ⟨o3, h⟩ := h
  refine Aw.getI (f := 578) 9 2 fl_Txt_19 (by decide) (by decide) rfl rfl o3 d_Txt_isLike_9 (fun r4 => ?_)
  have h := h r4
  exact h
theorem c_Txt_isLike_12 {Ω : Om} {R R' : Room} {F : QF} {k n : Nat} {L st : List PV} {σ : Sto} {QX' : String → Sto → Prop} {Q : Int → Sto → Prop} {a : Nat} {x0 : Int} {x1 : Int} {x2 : Option Nat} {x3 : Int} {x4 : Int} (hc : MC Ω M_Txt_isRowLike R' (RI Q) QX' σ [xr (some a), xi x0, xi x1, xr x2, xi x3, xi x4]) (hk : sK σ a = 10) (hr1 : R'.frames + 1 ≤ R.frames) (hr2 : 8 + (7 + 11) + R'.locals ≤ R.locals) (hb1 : k + R'.cells ≤ R.cells) (hb2 : n + R'.slots ≤ R.slots) (hst : (st.map catP).sum ≤ 8) (kk : ∀ x σ', Q x σ' → Aw Ω M_Txt_isLike R F (k + R'.cells) (n + R'.slots) 15 L (xi x :: st) σ') (kx : ∀ E σ', QX' E σ' → Ax Ω M_Txt_isLike R F (k + R'.cells) (n + R'.slots) 12 L st σ' E) : Aw Ω M_Txt_isLike R F k n 12 L (xi x4 :: xi x3 :: xr x2 :: xi x1 :: xi x0 :: xr (some a) :: st) σ :=
  Aw.callV (As := [xi x0, xi x1, xr x2, xi x3, xi x4]) (stk := xi x4 :: xi x3 :: xr x2 :: xi x1 :: xi x0 :: xr (some a) :: st) (nn := 5) 9 M_Txt_isRowLike hc ok_Txt_isRowLike rfl (by decide) rfl hk ml_Txt_49 im_Txt_isRowLike se_Txt_isRowLike ⟨hr1, hr2⟩ rfl ⟨hb1, hb2⟩ hst rfl d_Txt_isLike_12 (fun r σ' h => by obtain ⟨x, rfl, h⟩ := h; exact kk x σ' h) kx
theorem r_Txt_isLike_15 {Ω : Om} {R : Room} {k n : Nat} {L : List PV} {σ : Sto} {QR : Option PV → Sto → Prop} {QX : String → Sto → Prop} {x : Int} (hx : x = 0 ∨ x = 1) (h : QR (some (xi x)) σ) (h1 : k ≤ R.cells) (h2 : n ≤ R.slots) : Aw Ω M_Txt_isLike R (MF Ω R QR QX) k n 15 L [xi x] σ := Aw.zret rfl hx h h1 h2 d_Txt_isLike_15
theorem e_Txt_isRowLike {Ω : Om} {R : Room} {QR : Option PV → Sto → Prop} {QX : String → Sto → Prop} {σ : Sto} {a0 : Nat} {v1 : Int} {v2 : Int} {a3 : Nat} {v4 : Int} {v5 : Int} (h : Aw Ω M_Txt_isRowLike R (MF Ω R QR QX) 0 0 0 [xr (some a0), xi v1, xi v2, xr (some a3), xi v4, xi v5, xu] [] σ) : MC Ω M_Txt_isRowLike R QR QX σ [xr (some a0), xi v1, xi v2, xr (some a3), xi v4, xi v5] := MC.body (by decide +kernel) rfl (Nat.le_of_ble_eq_true rfl) rfl h
theorem b_Txt_isRowLike_0 {Ω : Om} {R : Room} {F : QF} {k n : Nat} {σ : Sto} {a0 : Nat} {v1 : Int} {v2 : Int} {a3 : Nat} {v4 : Int} {v5 : Int} (h : Q32 (v2 - v1) ∧ Q32 (v5 - v4) ∧ (((v2 - v1) = (v5 - v4) → Aw Ω M_Txt_isRowLike R F k n 16 [xr (some a0), xi v1, xi v2, xr (some a3), xi v4, xi v5, xi 0] [] σ) ∧ (¬ (v2 - v1) = (v5 - v4) → Aw Ω M_Txt_isRowLike R F k n 12 [xr (some a0), xi v1, xi v2, xr (some a3), xi v4, xi v5, xu] [xi 0] σ))) : Aw Ω M_Txt_isRowLike R F k n 0 [xr (some a0), xi v1, xi v2, xr (some a3), xi v4, xi v5, xu] [] σ := by
  refine Aw.iload_n rfl d_Txt_isRowLike_0 ?_
  refine Aw.iload_n rfl d_Txt_isRowLike_1 ?_
  refine Aw.isub d_Txt_isRowLike_2 ?_
  refine Aw.iload rfl d_Txt_isRowLike_3 ?_
  refine Aw.iload rfl d_Txt_isRowLike_5 ?_
  refine Aw.isub d_Txt_isRowLike_7 ?_
  obtain ⟨o1, h⟩ := h
  obtain ⟨o2, h⟩ := h
  obtain ⟨ht, hf⟩ := h
  refine Aw.icmp_eq (tgt := 13) o1 o2 (by decide) d_Txt_isRowLike_8 (fun c3 => ?_) (fun c3 => ?_)
  · have h := ht c3
    refine Aw.iconst d_Txt_isRowLike_13 ?_
    refine Aw.istore (by decide) d_Txt_isRowLike_14 ?_
    refine Aw.toL (L' := [xr (some a0), xi v1, xi v2, xr (some a3), xi v4, xi v5, xi 0]) rfl ?_
    exact h
  · have h := hf c3
    refine Aw.iconst d_Txt_isRowLike_11 ?_
    exact h
theorem b_Txt_isRowLike_16 {Ω : Om} {R : Room} {F : QF} {k n : Nat} {σ : Sto} {a0 : Nat} {v1 : Int} {v2 : Int} {a3 : Nat} {v4 : Int} {v5 : Int} {v6 : Int} (h : Q32 v6 ∧ Q32 (v2 - v1) ∧ (((v2 - v1) ≤ v6 → Aw Ω M_Txt_isRowLike R F k n 54 [xr (some a0), xi v1, xi v2, xr (some a3), xi v4, xi v5, xi v6] [xi 1] σ) ∧ (¬ (v2 - v1) ≤ v6 → Aw Ω M_Txt_isRowLike R F k n 29 [xr (some a0), xi v1, xi v2, xr (some a3), xi v4, xi v5, xi v6] [xi (v1 + v6), xr (some a0)] σ))) : Aw Ω M_Txt_isRowLike R F k n 16 [xr (some a0), xi v1, xi v2, xr (some a3), xi v4, xi v5, xi v6] [] σ := by
  refine Aw.iload rfl d_Txt_isRowLike_16 ?_
  refine Aw.iload_n rfl d_Txt_isRowLike_18 ?_
  refine Aw.iload_n rfl d_Txt_isRowLike_19 ?_
  refine Aw.isub d_Txt_isRowLike_20 ?_
  obtain ⟨o1, h⟩ := h
  obtain ⟨o2, h⟩ := h
  obtain ⟨ht, hf⟩ := h
  refine Aw.icmp_ge (tgt := 53) o1 o2 (by decide) d_Txt_isRowLike_21 (fun c3 => ?_) (fun c3 => ?_)
  · have h := ht c3
    refine Aw.iconst d_Txt_isRowLike_53 ?_
    exact h
  · have h := hf c3
    refine Aw.aload_n rfl d_Txt_isRowLike_24 ?_
    refine Aw.iload_n rfl d_Txt_isRowLike_25 ?_
    refine Aw.iload rfl d_Txt_isRowLike_26 ?_
    refine Aw.iadd d_Txt_isRowLike_28 ?_
    exact h
theorem b_Txt_isRowLike_32 {Ω : Om} {R : Room} {F : QF} {k n : Nat} {σ : Sto} {a0 : Nat} {v1 : Int} {v2 : Int} {a3 : Nat} {v4 : Int} {v5 : Int} {v6 : Int} {s0 : Int64} (h : Aw Ω M_Txt_isRowLike R F k n 38 [xr (some a0), xi v1, xi v2, xr (some a3), xi v4, xi v5, xi v6] [xi (v4 + v6), xr (some a3), xl s0] σ) : Aw Ω M_Txt_isRowLike R F k n 32 [xr (some a0), xi v1, xi v2, xr (some a3), xi v4, xi v5, xi v6] [xl s0] σ := by
  refine Aw.aload_n rfl d_Txt_isRowLike_32 ?_
  refine Aw.iload rfl d_Txt_isRowLike_33 ?_
  refine Aw.iload rfl d_Txt_isRowLike_35 ?_
  refine Aw.iadd d_Txt_isRowLike_37 ?_
  exact h
theorem b_Txt_isRowLike_41 {Ω : Om} {R : Room} {F : QF} {k n : Nat} {σ : Sto} {a0 : Nat} {v1 : Int} {v2 : Int} {a3 : Nat} {v4 : Int} {v5 : Int} {v6 : Int} {s0 : Int64} {s1 : Int64} (h : Q32 (cmpL s0 s1) ∧ (((cmpL s0 s1) = (0 : Int) → Aw Ω M_Txt_isRowLike R F k n 16 [xr (some a0), xi v1, xi v2, xr (some a3), xi v4, xi v5, xi (v6 + 1)] [] σ) ∧ (¬ (cmpL s0 s1) = (0 : Int) → Aw Ω M_Txt_isRowLike R F k n 46 [xr (some a0), xi v1, xi v2, xr (some a3), xi v4, xi v5, xi v6] [xi 0] σ))) : Aw Ω M_Txt_isRowLike R F k n 41 [xr (some a0), xi v1, xi v2, xr (some a3), xi v4, xi v5, xi v6] [xl s1, xl s0] σ := by
  refine Aw.lcmp d_Txt_isRowLike_41 ?_
  obtain ⟨o1, h⟩ := h
  obtain ⟨ht, hf⟩ := h
  refine Aw.if_eq (tgt := 47) o1 (by decide) d_Txt_isRowLike_42 (fun c2 => ?_) (fun c2 => ?_)
  · have h := ht c2
    refine Aw.iinc rfl d_Txt_isRowLike_47 ?_
    refine Aw.toL (L' := [xr (some a0), xi v1, xi v2, xr (some a3), xi v4, xi v5, xi (v6 + 1)]) rfl ?_
    refine Aw.goto (tgt := 16) (by decide) d_Txt_isRowLike_50 ?_
    exact h
  · have h := hf c2
    refine Aw.iconst d_Txt_isRowLike_45 ?_
    exact h
theorem r_Txt_isRowLike_12 {Ω : Om} {R : Room} {k n : Nat} {L : List PV} {σ : Sto} {QR : Option PV → Sto → Prop} {QX : String → Sto → Prop} {x : Int} (hx : x = 0 ∨ x = 1) (h : QR (some (xi x)) σ) (h1 : k ≤ R.cells) (h2 : n ≤ R.slots) : Aw Ω M_Txt_isRowLike R (MF Ω R QR QX) k n 12 L [xi x] σ := Aw.zret rfl hx h h1 h2 d_Txt_isRowLike_12
theorem c_Txt_isRowLike_29 {Ω : Om} {R R' : Room} {F : QF} {k n : Nat} {L st : List PV} {σ : Sto} {QX' : String → Sto → Prop} {Q : Int64 → Sto → Prop} {a : Nat} {x0 : Int} (hc : MC Ω M_Txt_lineAt R' (RL Q) QX' σ [xr (some a), xi x0]) (hk : sK σ a = 10) (hr1 : R'.frames + 1 ≤ R.frames) (hr2 : 8 + (2 + 11) + R'.locals ≤ R.locals) (hb1 : k + R'.cells ≤ R.cells) (hb2 : n + R'.slots ≤ R.slots) (hst : (st.map catP).sum ≤ 8) (kk : ∀ x σ', Q x σ' → Aw Ω M_Txt_isRowLike R F (k + R'.cells) (n + R'.slots) 32 L (xl x :: st) σ') (kx : ∀ E σ', QX' E σ' → Ax Ω M_Txt_isRowLike R F (k + R'.cells) (n + R'.slots) 29 L st σ' E) : Aw Ω M_Txt_isRowLike R F k n 29 L (xi x0 :: xr (some a) :: st) σ :=
  Aw.callV (As := [xi x0]) (stk := xi x0 :: xr (some a) :: st) (nn := 1) 9 M_Txt_lineAt hc ok_Txt_lineAt rfl (by decide) rfl hk ml_Txt_27 im_Txt_lineAt se_Txt_lineAt ⟨hr1, hr2⟩ rfl ⟨hb1, hb2⟩ hst rfl d_Txt_isRowLike_29 (fun r σ' h => by obtain ⟨x, rfl, h⟩ := h; exact kk x σ' h) kx
theorem c_Txt_isRowLike_38 {Ω : Om} {R R' : Room} {F : QF} {k n : Nat} {L st : List PV} {σ : Sto} {QX' : String → Sto → Prop} {Q : Int64 → Sto → Prop} {a : Nat} {x0 : Int} (hc : MC Ω M_Txt_lineAt R' (RL Q) QX' σ [xr (some a), xi x0]) (hk : sK σ a = 10) (hr1 : R'.frames + 1 ≤ R.frames) (hr2 : 8 + (2 + 11) + R'.locals ≤ R.locals) (hb1 : k + R'.cells ≤ R.cells) (hb2 : n + R'.slots ≤ R.slots) (hst : (st.map catP).sum ≤ 8) (kk : ∀ x σ', Q x σ' → Aw Ω M_Txt_isRowLike R F (k + R'.cells) (n + R'.slots) 41 L (xl x :: st) σ') (kx : ∀ E σ', QX' E σ' → Ax Ω M_Txt_isRowLike R F (k + R'.cells) (n + R'.slots) 38 L st σ' E) : Aw Ω M_Txt_isRowLike R F k n 38 L (xi x0 :: xr (some a) :: st) σ :=
  Aw.callV (As := [xi x0]) (stk := xi x0 :: xr (some a) :: st) (nn := 1) 9 M_Txt_lineAt hc ok_Txt_lineAt rfl (by decide) rfl hk ml_Txt_27 im_Txt_lineAt se_Txt_lineAt ⟨hr1, hr2⟩ rfl ⟨hb1, hb2⟩ hst rfl d_Txt_isRowLike_38 (fun r σ' h => by obtain ⟨x, rfl, h⟩ := h; exact kk x σ' h) kx
theorem r_Txt_isRowLike_46 {Ω : Om} {R : Room} {k n : Nat} {L : List PV} {σ : Sto} {QR : Option PV → Sto → Prop} {QX : String → Sto → Prop} {x : Int} (hx : x = 0 ∨ x = 1) (h : QR (some (xi x)) σ) (h1 : k ≤ R.cells) (h2 : n ≤ R.slots) : Aw Ω M_Txt_isRowLike R (MF Ω R QR QX) k n 46 L [xi x] σ := Aw.zret rfl hx h h1 h2 d_Txt_isRowLike_46
theorem r_Txt_isRowLike_54 {Ω : Om} {R : Room} {k n : Nat} {L : List PV} {σ : Sto} {QR : Option PV → Sto → Prop} {QX : String → Sto → Prop} {x : Int} (hx : x = 0 ∨ x = 1) (h : QR (some (xi x)) σ) (h1 : k ≤ R.cells) (h2 : n ≤ R.slots) : Aw Ω M_Txt_isRowLike R (MF Ω R QR QX) k n 54 L [xi x] σ := Aw.zret rfl hx h h1 h2 d_Txt_isRowLike_54
theorem e_Txt_lineAt {Ω : Om} {R : Room} {QR : Option PV → Sto → Prop} {QX : String → Sto → Prop} {σ : Sto} {a0 : Nat} {v1 : Int} (h : Aw Ω M_Txt_lineAt R (MF Ω R QR QX) 0 0 0 [xr (some a0), xi v1] [] σ) : MC Ω M_Txt_lineAt R QR QX σ [xr (some a0), xi v1] := MC.body (by decide +kernel) rfl (Nat.le_of_ble_eq_true rfl) rfl h
theorem b_Txt_lineAt_0 {Ω : Om} {R : Room} {F : QF} {k n : Nat} {σ : Sto} {a0 : Nat} {v1 : Int} (h : Q32 v1 ∧ ((v1 < (0 : Int) → Aw Ω M_Txt_lineAt R F k n 22 [xr (some a0), xi v1] [xl 0] σ) ∧ (¬ v1 < (0 : Int) → sK σ a0 = 10 ∧ (Q32 (fI σ 578 a0) → ((v1 < (fI σ 578 a0) → (∃ b4 : Nat, fR σ 576 a0 = some b4 ∧ sK σ b4 = 51 ∧ 0 ≤ v1 ∧ v1 < sZ σ b4 ∧ Aw Ω M_Txt_lineAt R F k n 22 [xr (some a0), xi v1] [xl (aL σ b4 (v1).toNat)] σ)) ∧ (¬ v1 < (fI σ 578 a0) → Aw Ω M_Txt_lineAt R F k n 22 [xr (some a0), xi v1] [xl 0] σ)))))) : Aw Ω M_Txt_lineAt R F k n 0 [xr (some a0), xi v1] [] σ := by
  refine Aw.iload_n rfl d_Txt_lineAt_0 ?_
  obtain ⟨o1, h⟩ := h
  obtain ⟨ht, hf⟩ := h
  refine Aw.if_lt (tgt := 12) o1 (by decide) d_Txt_lineAt_1 (fun c10 => ?_) (fun c10 => ?_)
  · have h := ht c10
    refine Aw.lconst (w := 0) (by decide) d_Txt_lineAt_12 ?_
    refine Aw.goto (tgt := 22) (by decide) d_Txt_lineAt_13 ?_
    exact h
  · have h := hf c10
    refine Aw.iload_n rfl d_Txt_lineAt_4 ?_
    refine Aw.aload_n rfl d_Txt_lineAt_5 ?_
    obtain ⟨o2, h⟩ := h
    refine Aw.getI (f := 578) 9 2 fl_Txt_19 (by decide) (by decide) rfl rfl o2 d_Txt_lineAt_6 (fun r3 => ?_)
    have h := h r3
    obtain ⟨ht, hf⟩ := h
    refine Aw.icmp_lt (tgt := 16) o1 r3 (by decide) d_Txt_lineAt_9 (fun c9 => ?_) (fun c9 => ?_)
    · have h := ht c9
      refine Aw.aload_n rfl d_Txt_lineAt_16 ?_
      obtain ⟨b4, e5, h⟩ := h
      refine Aw.getRs (f := 576) 9 0 fl_Txt_9 (by decide) (by decide) rfl rfl o2 e5 d_Txt_lineAt_17 ?_
      refine Aw.iload_n rfl d_Txt_lineAt_20 ?_
      obtain ⟨o6, h⟩ := h
      obtain ⟨o7, o8, h⟩ := h
      refine Aw.lald o6 o7 o8 d_Txt_lineAt_21 ?_
      exact h
    · have h := hf c9
      refine Aw.lconst (w := 0) (by decide) d_Txt_lineAt_12 ?_
      refine Aw.goto (tgt := 22) (by decide) d_Txt_lineAt_13 ?_
      exact h
theorem r_Txt_lineAt_22 {Ω : Om} {R : Room} {k n : Nat} {L : List PV} {σ : Sto} {QR : Option PV → Sto → Prop} {QX : String → Sto → Prop} {x : Int64} (h : QR (some (xl x)) σ) (h1 : k ≤ R.cells) (h2 : n ≤ R.slots) : Aw Ω M_Txt_lineAt R (MF Ω R QR QX) k n 22 L [xl x] σ := Aw.lret rfl h h1 h2 d_Txt_lineAt_22
theorem e_Txt_nameAt {Ω : Om} {R : Room} {QR : Option PV → Sto → Prop} {QX : String → Sto → Prop} {σ : Sto} {a0 : Nat} {v1 : Int} (h : Aw Ω M_Txt_nameAt R (MF Ω R QR QX) 0 0 0 [xr (some a0), xi v1] [] σ) : MC Ω M_Txt_nameAt R QR QX σ [xr (some a0), xi v1] := MC.body (by decide +kernel) rfl (Nat.le_of_ble_eq_true rfl) rfl h
theorem b_Txt_nameAt_0 {Ω : Om} {R : Room} {F : QF} {k n : Nat} {σ : Sto} {a0 : Nat} {v1 : Int} (h : Q32 v1 ∧ ((v1 < (0 : Int) → Aw Ω M_Txt_nameAt R F k n 22 [xr (some a0), xi v1] [xi (-1)] σ) ∧ (¬ v1 < (0 : Int) → sK σ a0 = 10 ∧ (Q32 (fI σ 578 a0) → ((v1 < (fI σ 578 a0) → (∃ b4 : Nat, fR σ 577 a0 = some b4 ∧ sK σ b4 = 50 ∧ 0 ≤ v1 ∧ v1 < sZ σ b4 ∧ (Q32 (aI σ b4 (v1).toNat) → Aw Ω M_Txt_nameAt R F k n 22 [xr (some a0), xi v1] [xi (aI σ b4 (v1).toNat)] σ))) ∧ (¬ v1 < (fI σ 578 a0) → Aw Ω M_Txt_nameAt R F k n 22 [xr (some a0), xi v1] [xi (-1)] σ)))))) : Aw Ω M_Txt_nameAt R F k n 0 [xr (some a0), xi v1] [] σ := by
  refine Aw.iload_n rfl d_Txt_nameAt_0 ?_
  obtain ⟨o1, h⟩ := h
  obtain ⟨ht, hf⟩ := h
  refine Aw.if_lt (tgt := 12) o1 (by decide) d_Txt_nameAt_1 (fun c11 => ?_) (fun c11 => ?_)
  · have h := ht c11
    refine Aw.iconst d_Txt_nameAt_12 ?_
    refine Aw.goto (tgt := 22) (by decide) d_Txt_nameAt_13 ?_
    exact h
  · have h := hf c11
    refine Aw.iload_n rfl d_Txt_nameAt_4 ?_
    refine Aw.aload_n rfl d_Txt_nameAt_5 ?_
    obtain ⟨o2, h⟩ := h
    refine Aw.getI (f := 578) 9 2 fl_Txt_19 (by decide) (by decide) rfl rfl o2 d_Txt_nameAt_6 (fun r3 => ?_)
    have h := h r3
    obtain ⟨ht, hf⟩ := h
    refine Aw.icmp_lt (tgt := 16) o1 r3 (by decide) d_Txt_nameAt_9 (fun c10 => ?_) (fun c10 => ?_)
    · have h := ht c10
      refine Aw.aload_n rfl d_Txt_nameAt_16 ?_
      obtain ⟨b4, e5, h⟩ := h
      refine Aw.getRs (f := 577) 9 1 fl_Txt_15 (by decide) (by decide) rfl rfl o2 e5 d_Txt_nameAt_17 ?_
      refine Aw.iload_n rfl d_Txt_nameAt_20 ?_
      obtain ⟨o6, h⟩ := h
      obtain ⟨o7, o8, h⟩ := h
      refine Aw.iald o6 o7 o8 d_Txt_nameAt_21 (fun r9 => ?_)
      have h := h r9
      exact h
    · have h := hf c10
      refine Aw.iconst d_Txt_nameAt_12 ?_
      refine Aw.goto (tgt := 22) (by decide) d_Txt_nameAt_13 ?_
      exact h
theorem r_Txt_nameAt_22 {Ω : Om} {R : Room} {k n : Nat} {L : List PV} {σ : Sto} {QR : Option PV → Sto → Prop} {QX : String → Sto → Prop} {x : Int} (h : QR (some (xi x)) σ) (h1 : k ≤ R.cells) (h2 : n ≤ R.slots) : Aw Ω M_Txt_nameAt R (MF Ω R QR QX) k n 22 L [xi x] σ := Aw.iret rfl h h1 h2 d_Txt_nameAt_22
theorem e_Txt_put {Ω : Om} {R : Room} {QR : Option PV → Sto → Prop} {QX : String → Sto → Prop} {σ : Sto} {a0 : Nat} {v1 : Int} {v2 : Int64} {v4 : Int} (h : Aw Ω M_Txt_put R (MF Ω R QR QX) 0 0 0 [xr (some a0), xi v1, xl v2, xu, xi v4, xu] [] σ) : MC Ω M_Txt_put R QR QX σ [xr (some a0), xi v1, xl v2, xi v4] := MC.body (by decide +kernel) rfl (Nat.le_of_ble_eq_true rfl) rfl h
theorem b_Txt_put_0 {Ω : Om} {R : Room} {F : QF} {k n : Nat} {σ : Sto} {a0 : Nat} {v1 : Int} {v2 : Int64} {v4 : Int} (h : Q32 v1 ∧ ((v1 < (0 : Int) → Aw Ω M_Txt_put R F k n 21 [xr (some a0), xi v1, xl v2, xu, xi v4, xu] [] σ) ∧ (¬ v1 < (0 : Int) → sK σ a0 = 10 ∧ (Q32 (fI σ 578 a0) → (((fI σ 578 a0) < v1 → Aw Ω M_Txt_put R F k n 21 [xr (some a0), xi v1, xl v2, xu, xi v4, xu] [] σ) ∧ (¬ (fI σ 578 a0) < v1 → (Q32 (fI σ 578 a0) → (((fI σ 578 a0) < (40 : Int) → (Q32 (fI σ 578 a0) → Aw Ω M_Txt_put R F k n 28 [xr (some a0), xi v1, xl v2, xu, xi v4, xi (fI σ 578 a0)] [] σ)) ∧ (¬ (fI σ 578 a0) < (40 : Int) → Aw Ω M_Txt_put R F k n 21 [xr (some a0), xi v1, xl v2, xu, xi v4, xu] [] σ))))))))) : Aw Ω M_Txt_put R F k n 0 [xr (some a0), xi v1, xl v2, xu, xi v4, xu] [] σ := by
  refine Aw.iload_n rfl d_Txt_put_0 ?_
  obtain ⟨o1, h⟩ := h
  obtain ⟨ht, hf⟩ := h
  refine Aw.if_lt (tgt := 21) o1 (by decide) d_Txt_put_1 (fun c8 => ?_) (fun c8 => ?_)
  · have h := ht c8
    exact h
  · have h := hf c8
    refine Aw.iload_n rfl d_Txt_put_4 ?_
    refine Aw.aload_n rfl d_Txt_put_5 ?_
    obtain ⟨o2, h⟩ := h
    refine Aw.getI (f := 578) 9 2 fl_Txt_19 (by decide) (by decide) rfl rfl o2 d_Txt_put_6 (fun r3 => ?_)
    have h := h r3
    obtain ⟨ht, hf⟩ := h
    refine Aw.icmp_gt (tgt := 21) o1 r3 (by decide) d_Txt_put_9 (fun c7 => ?_) (fun c7 => ?_)
    · have h := ht c7
      exact h
    · have h := hf c7
      refine Aw.aload_n rfl d_Txt_put_12 ?_
      refine Aw.getI (f := 578) 9 2 fl_Txt_19 (by decide) (by decide) rfl rfl o2 d_Txt_put_13 (fun r4 => ?_)
      have h := h r4
      refine Aw.bipush (by decide) d_Txt_put_16 ?_
      obtain ⟨ht, hf⟩ := h
      refine Aw.icmp_lt (tgt := 22) r4 ⟨by decide, by decide⟩ (by decide) d_Txt_put_18 (fun c6 => ?_) (fun c6 => ?_)
      · have h := ht c6
        refine Aw.aload_n rfl d_Txt_put_22 ?_
        refine Aw.getI (f := 578) 9 2 fl_Txt_19 (by decide) (by decide) rfl rfl o2 d_Txt_put_23 (fun r5 => ?_)
        have h := h r5
        refine Aw.istore (by decide) d_Txt_put_26 ?_
        refine Aw.toL (L' := [xr (some a0), xi v1, xl v2, xu, xi v4, xi (fI σ 578 a0)]) rfl ?_
        exact h
      · have h := hf c6
        exact h
theorem b_Txt_put_28 {Ω : Om} {R : Room} {F : QF} {k n : Nat} {σ : Sto} {a0 : Nat} {v1 : Int} {v2 : Int64} {v4 : Int} {v5 : Int} (h : Q32 v5 ∧ Q32 v1 ∧ ((v5 ≤ v1 → sK σ a0 = 10 ∧ (∃ b4 : Nat, fR σ 576 a0 = some b4 ∧ sK σ b4 = 51 ∧ 0 ≤ v1 ∧ v1 < sZ σ b4 ∧ (∃ b9 : Nat, fR σ 577 a0 = some b9 ∧ sK σ b9 = 50 ∧ 0 ≤ v1 ∧ v1 < sZ σ b9 ∧ Q32 v4 ∧ (Q32 (fI σ 578 a0) → Q32 ((fI σ 578 a0) + 1) ∧ Aw Ω M_Txt_put R F k n 97 [xr (some a0), xi v1, xl v2, xu, xi v4, xi v5] [] (uI (vI (vL σ b4 (v1).toNat v2) b9 (v1).toNat v4) 578 a0 ((fI σ 578 a0) + 1)))))) ∧ (¬ v5 ≤ v1 → sK σ a0 = 10 ∧ (∃ b18 : Nat, fR σ 576 a0 = some b18 ∧ sK σ b18 = 51 ∧ 0 ≤ (v5 - 1) ∧ (v5 - 1) < sZ σ b18 ∧ 0 ≤ v5 ∧ v5 < sZ σ b18 ∧ (∃ b25 : Nat, fR σ 577 a0 = some b25 ∧ sK σ b25 = 50 ∧ 0 ≤ (v5 - 1) ∧ (v5 - 1) < sZ σ b25 ∧ (Q32 (aI σ b25 (v5 - 1).toNat) → 0 ≤ v5 ∧ v5 < sZ σ b25 ∧ Aw Ω M_Txt_put R F k n 28 [xr (some a0), xi v1, xl v2, xu, xi v4, xi (v5 + (-1))] [] (vI (vL σ b18 (v5).toNat (aL σ b18 (v5 - 1).toNat)) b25 (v5).toNat (aI σ b25 (v5 - 1).toNat)))))))) : Aw Ω M_Txt_put R F k n 28 [xr (some a0), xi v1, xl v2, xu, xi v4, xi v5] [] σ := by
  refine Aw.iload rfl d_Txt_put_28 ?_
  refine Aw.iload_n rfl d_Txt_put_30 ?_
  obtain ⟨o1, h⟩ := h
  obtain ⟨o2, h⟩ := h
  obtain ⟨ht, hf⟩ := h
  refine Aw.icmp_le (tgt := 72) o1 o2 (by decide) d_Txt_put_31 (fun c33 => ?_) (fun c33 => ?_)
  · have h := ht c33
    refine Aw.aload_n rfl d_Txt_put_72 ?_
    obtain ⟨o3, h⟩ := h
    obtain ⟨b4, e5, h⟩ := h
    refine Aw.getRs (f := 576) 9 0 fl_Txt_9 (by decide) (by decide) rfl rfl o3 e5 d_Txt_put_73 ?_
    refine Aw.iload_n rfl d_Txt_put_76 ?_
    refine Aw.lload_n rfl d_Txt_put_77 ?_
    obtain ⟨o6, h⟩ := h
    obtain ⟨o7, o8, h⟩ := h
    refine Aw.last o6 o7 o8 d_Txt_put_78 ?_
    refine Aw.aload_n rfl d_Txt_put_79 ?_
    obtain ⟨b9, e10, h⟩ := h
    refine Aw.getRs (f := 577) 9 1 fl_Txt_15 (by decide) (by decide) rfl rfl o3 e10 d_Txt_put_80 ?_
    refine Aw.iload_n rfl d_Txt_put_83 ?_
    refine Aw.iload rfl d_Txt_put_84 ?_
    obtain ⟨o11, h⟩ := h
    obtain ⟨o12, o13, h⟩ := h
    obtain ⟨o14, h⟩ := h
    refine Aw.iast o11 o12 o13 o14 d_Txt_put_86 ?_
    refine Aw.aload_n rfl d_Txt_put_87 ?_
    refine Aw.dup rfl d_Txt_put_88 ?_
    refine Aw.getI (f := 578) 9 2 fl_Txt_19 (by decide) (by decide) rfl rfl o3 d_Txt_put_89 (fun r15 => ?_)
    have h := h r15
    refine Aw.iconst d_Txt_put_92 ?_
    refine Aw.iadd d_Txt_put_93 ?_
    obtain ⟨o16, h⟩ := h
    refine Aw.putI (f := 578) 9 2 fl_Txt_19 (by decide) (by decide) rfl rfl o3 rfl o16 (Or.inl rfl) d_Txt_put_94 ?_
    exact h
  · have h := hf c33
    refine Aw.aload_n rfl d_Txt_put_34 ?_
    obtain ⟨o17, h⟩ := h
    obtain ⟨b18, e19, h⟩ := h
    refine Aw.getRs (f := 576) 9 0 fl_Txt_9 (by decide) (by decide) rfl rfl o17 e19 d_Txt_put_35 ?_
    refine Aw.iload rfl d_Txt_put_38 ?_
    refine Aw.aload_n rfl d_Txt_put_40 ?_
    refine Aw.getRs (f := 576) 9 0 fl_Txt_9 (by decide) (by decide) rfl rfl o17 e19 d_Txt_put_41 ?_
    refine Aw.iload rfl d_Txt_put_44 ?_
    refine Aw.iconst d_Txt_put_46 ?_
    refine Aw.isub d_Txt_put_47 ?_
    obtain ⟨o20, h⟩ := h
    obtain ⟨o21, o22, h⟩ := h
    refine Aw.lald o20 o21 o22 d_Txt_put_48 ?_
    obtain ⟨o23, o24, h⟩ := h
    refine Aw.last o20 o23 o24 d_Txt_put_49 ?_
    refine Aw.aload_n rfl d_Txt_put_50 ?_
    obtain ⟨b25, e26, h⟩ := h
    refine Aw.getRs (f := 577) 9 1 fl_Txt_15 (by decide) (by decide) rfl rfl o17 e26 d_Txt_put_51 ?_
    refine Aw.iload rfl d_Txt_put_54 ?_
    refine Aw.aload_n rfl d_Txt_put_56 ?_
    refine Aw.getRs (f := 577) 9 1 fl_Txt_15 (by decide) (by decide) rfl rfl o17 e26 d_Txt_put_57 ?_
    refine Aw.iload rfl d_Txt_put_60 ?_
    refine Aw.iconst d_Txt_put_62 ?_
    refine Aw.isub d_Txt_put_63 ?_
    obtain ⟨o27, h⟩ := h
    obtain ⟨o28, o29, h⟩ := h
    refine Aw.iald o27 o28 o29 d_Txt_put_64 (fun r30 => ?_)
    have h := h r30
    obtain ⟨o31, o32, h⟩ := h
    refine Aw.iast o27 o31 o32 r30 d_Txt_put_65 ?_
    refine Aw.iinc rfl d_Txt_put_66 ?_
    refine Aw.toL (L' := [xr (some a0), xi v1, xl v2, xu, xi v4, xi (v5 + (-1))]) rfl ?_
    refine Aw.goto (tgt := 28) (by decide) d_Txt_put_69 ?_
    exact h
theorem r_Txt_put_21 {Ω : Om} {R : Room} {k n : Nat} {L : List PV} {σ : Sto} {QR : Option PV → Sto → Prop} {QX : String → Sto → Prop} (h : QR none σ) (h1 : k ≤ R.cells) (h2 : n ≤ R.slots) : Aw Ω M_Txt_put R (MF Ω R QR QX) k n 21 L [] σ := Aw.vret rfl h h1 h2 d_Txt_put_21
theorem r_Txt_put_97 {Ω : Om} {R : Room} {k n : Nat} {L : List PV} {σ : Sto} {QR : Option PV → Sto → Prop} {QX : String → Sto → Prop} (h : QR none σ) (h1 : k ≤ R.cells) (h2 : n ≤ R.slots) : Aw Ω M_Txt_put R (MF Ω R QR QX) k n 97 L [] σ := Aw.vret rfl h h1 h2 d_Txt_put_97
theorem e_Txt_putRow {Ω : Om} {R : Room} {QR : Option PV → Sto → Prop} {QX : String → Sto → Prop} {σ : Sto} {a0 : Nat} {v1 : Int} {a2 : Nat} {v3 : Int} {v4 : Int} (h : Aw Ω M_Txt_putRow R (MF Ω R QR QX) 0 0 0 [xr (some a0), xi v1, xr (some a2), xi v3, xi v4, xu, xu] [] σ) : MC Ω M_Txt_putRow R QR QX σ [xr (some a0), xi v1, xr (some a2), xi v3, xi v4] := MC.body (by decide +kernel) rfl (Nat.le_of_ble_eq_true rfl) rfl h
theorem b_Txt_putRow_0 {Ω : Om} {R : Room} {F : QF} {k n : Nat} {σ : Sto} {a0 : Nat} {v1 : Int} {a2 : Nat} {v3 : Int} {v4 : Int} (h : Aw Ω M_Txt_putRow R F k n 6 [xr (some a0), xi v1, xr (some a2), xi v3, xi v4, xi v1, xi v3] [] σ) : Aw Ω M_Txt_putRow R F k n 0 [xr (some a0), xi v1, xr (some a2), xi v3, xi v4, xu, xu] [] σ := by
  refine Aw.iload_n rfl d_Txt_putRow_0 ?_
  refine Aw.istore (by decide) d_Txt_putRow_1 ?_
  refine Aw.toL (L' := [xr (some a0), xi v1, xr (some a2), xi v3, xi v4, xi v1, xu]) rfl ?_
  refine Aw.iload_n rfl d_Txt_putRow_3 ?_
  refine Aw.istore (by decide) d_Txt_putRow_4 ?_
  refine Aw.toL (L' := [xr (some a0), xi v1, xr (some a2), xi v3, xi v4, xi v1, xi v3]) rfl ?_
  exact h
theorem b_Txt_putRow_6 {Ω : Om} {R : Room} {F : QF} {k n : Nat} {σ : Sto} {a0 : Nat} {v1 : Int} {a2 : Nat} {v3 : Int} {v4 : Int} {v5 : Int} {v6 : Int} (h : Q32 v6 ∧ Q32 v4 ∧ ((v4 ≤ v6 → Aw Ω M_Txt_putRow R F k n 42 [xr (some a0), xi v1, xr (some a2), xi v3, xi v4, xi v5, xi v6] [xi v5] σ) ∧ (¬ v4 ≤ v6 → Aw Ω M_Txt_putRow R F k n 19 [xr (some a0), xi v1, xr (some a2), xi v3, xi v4, xi v5, xi v6] [xi v6, xr (some a2), xi v5, xr (some a0)] σ))) : Aw Ω M_Txt_putRow R F k n 6 [xr (some a0), xi v1, xr (some a2), xi v3, xi v4, xi v5, xi v6] [] σ := by
  refine Aw.iload rfl d_Txt_putRow_6 ?_
  refine Aw.iload rfl d_Txt_putRow_8 ?_
  obtain ⟨o1, h⟩ := h
  obtain ⟨o2, h⟩ := h
  obtain ⟨ht, hf⟩ := h
  refine Aw.icmp_ge (tgt := 40) o1 o2 (by decide) d_Txt_putRow_10 (fun c3 => ?_) (fun c3 => ?_)
  · have h := ht c3
    refine Aw.iload rfl d_Txt_putRow_40 ?_
    exact h
  · have h := hf c3
    refine Aw.aload_n rfl d_Txt_putRow_13 ?_
    refine Aw.iload rfl d_Txt_putRow_14 ?_
    refine Aw.aload_n rfl d_Txt_putRow_16 ?_
    refine Aw.iload rfl d_Txt_putRow_17 ?_
    exact h
theorem b_Txt_putRow_22 {Ω : Om} {R : Room} {F : QF} {k n : Nat} {σ : Sto} {a0 : Nat} {v1 : Int} {a2 : Nat} {v3 : Int} {v4 : Int} {v5 : Int} {v6 : Int} {s0 : Nat} {s1 : Int} {s2 : Int64} (h : Aw Ω M_Txt_putRow R F k n 25 [xr (some a0), xi v1, xr (some a2), xi v3, xi v4, xi v5, xi v6] [xi v6, xr (some a2), xl s2, xi s1, xr (some s0)] σ) : Aw Ω M_Txt_putRow R F k n 22 [xr (some a0), xi v1, xr (some a2), xi v3, xi v4, xi v5, xi v6] [xl s2, xi s1, xr (some s0)] σ := by
  refine Aw.aload_n rfl d_Txt_putRow_22 ?_
  refine Aw.iload rfl d_Txt_putRow_23 ?_
  exact h
theorem b_Txt_putRow_31 {Ω : Om} {R : Room} {F : QF} {k n : Nat} {σ : Sto} {a0 : Nat} {v1 : Int} {a2 : Nat} {v3 : Int} {v4 : Int} {v5 : Int} {v6 : Int} (h : Aw Ω M_Txt_putRow R F k n 6 [xr (some a0), xi v1, xr (some a2), xi v3, xi v4, xi (v5 + 1), xi (v6 + 1)] [] σ) : Aw Ω M_Txt_putRow R F k n 31 [xr (some a0), xi v1, xr (some a2), xi v3, xi v4, xi v5, xi v6] [] σ := by
  refine Aw.iinc rfl d_Txt_putRow_31 ?_
  refine Aw.toL (L' := [xr (some a0), xi v1, xr (some a2), xi v3, xi v4, xi (v5 + 1), xi v6]) rfl ?_
  refine Aw.iinc rfl d_Txt_putRow_34 ?_
  refine Aw.toL (L' := [xr (some a0), xi v1, xr (some a2), xi v3, xi v4, xi (v5 + 1), xi (v6 + 1)]) rfl ?_
  refine Aw.goto (tgt := 6) (by decide) d_Txt_putRow_37 ?_
  exact h
theorem c_Txt_putRow_19 {Ω : Om} {R R' : Room} {F : QF} {k n : Nat} {L st : List PV} {σ : Sto} {QX' : String → Sto → Prop} {Q : Int64 → Sto → Prop} {a : Nat} {x0 : Int} (hc : MC Ω M_Txt_lineAt R' (RL Q) QX' σ [xr (some a), xi x0]) (hk : sK σ a = 10) (hr1 : R'.frames + 1 ≤ R.frames) (hr2 : 8 + (2 + 11) + R'.locals ≤ R.locals) (hb1 : k + R'.cells ≤ R.cells) (hb2 : n + R'.slots ≤ R.slots) (hst : (st.map catP).sum ≤ 8) (kk : ∀ x σ', Q x σ' → Aw Ω M_Txt_putRow R F (k + R'.cells) (n + R'.slots) 22 L (xl x :: st) σ') (kx : ∀ E σ', QX' E σ' → Ax Ω M_Txt_putRow R F (k + R'.cells) (n + R'.slots) 19 L st σ' E) : Aw Ω M_Txt_putRow R F k n 19 L (xi x0 :: xr (some a) :: st) σ :=
  Aw.callV (As := [xi x0]) (stk := xi x0 :: xr (some a) :: st) (nn := 1) 9 M_Txt_lineAt hc ok_Txt_lineAt rfl (by decide) rfl hk ml_Txt_27 im_Txt_lineAt se_Txt_lineAt ⟨hr1, hr2⟩ rfl ⟨hb1, hb2⟩ hst rfl d_Txt_putRow_19 (fun r σ' h => by obtain ⟨x, rfl, h⟩ := h; exact kk x σ' h) kx
theorem c_Txt_putRow_25 {Ω : Om} {R R' : Room} {F : QF} {k n : Nat} {L st : List PV} {σ : Sto} {QX' : String → Sto → Prop} {Q : Int → Sto → Prop} {a : Nat} {x0 : Int} (hc : MC Ω M_Txt_nameAt R' (RI Q) QX' σ [xr (some a), xi x0]) (hk : sK σ a = 10) (hr1 : R'.frames + 1 ≤ R.frames) (hr2 : 8 + (2 + 11) + R'.locals ≤ R.locals) (hb1 : k + R'.cells ≤ R.cells) (hb2 : n + R'.slots ≤ R.slots) (hst : (st.map catP).sum ≤ 8) (kk : ∀ x σ', Q x σ' → Aw Ω M_Txt_putRow R F (k + R'.cells) (n + R'.slots) 28 L (xi x :: st) σ') (kx : ∀ E σ', QX' E σ' → Ax Ω M_Txt_putRow R F (k + R'.cells) (n + R'.slots) 25 L st σ' E) : Aw Ω M_Txt_putRow R F k n 25 L (xi x0 :: xr (some a) :: st) σ :=
  Aw.callV (As := [xi x0]) (stk := xi x0 :: xr (some a) :: st) (nn := 1) 9 M_Txt_nameAt hc ok_Txt_nameAt rfl (by decide) rfl hk ml_Txt_31 im_Txt_nameAt se_Txt_nameAt ⟨hr1, hr2⟩ rfl ⟨hb1, hb2⟩ hst rfl d_Txt_putRow_25 (fun r σ' h => by obtain ⟨x, rfl, h⟩ := h; exact kk x σ' h) kx
theorem c_Txt_putRow_28 {Ω : Om} {R R' : Room} {F : QF} {k n : Nat} {L st : List PV} {σ : Sto} {QX' : String → Sto → Prop} {Q : Sto → Prop} {a : Nat} {x0 : Int} {x1 : Int64} {x2 : Int} (hc : MC Ω M_Txt_put R' (RV Q) QX' σ [xr (some a), xi x0, xl x1, xi x2]) (hk : sK σ a = 10) (hr1 : R'.frames + 1 ≤ R.frames) (hr2 : 8 + (6 + 11) + R'.locals ≤ R.locals) (hb1 : k + R'.cells ≤ R.cells) (hb2 : n + R'.slots ≤ R.slots) (hst : (st.map catP).sum ≤ 8) (kk : ∀ σ', Q σ' → Aw Ω M_Txt_putRow R F (k + R'.cells) (n + R'.slots) 31 L st σ') (kx : ∀ E σ', QX' E σ' → Ax Ω M_Txt_putRow R F (k + R'.cells) (n + R'.slots) 28 L st σ' E) : Aw Ω M_Txt_putRow R F k n 28 L (xi x2 :: xl x1 :: xi x0 :: xr (some a) :: st) σ :=
  Aw.callV (As := [xi x0, xl x1, xi x2]) (stk := xi x2 :: xl x1 :: xi x0 :: xr (some a) :: st) (nn := 3) 9 M_Txt_put hc ok_Txt_put rfl (by decide) rfl hk ml_Txt_35 im_Txt_put se_Txt_put ⟨hr1, hr2⟩ rfl ⟨hb1, hb2⟩ hst rfl d_Txt_putRow_28 (fun r σ' h => by obtain ⟨rfl, h⟩ := h; exact kk σ' h) kx
theorem r_Txt_putRow_42 {Ω : Om} {R : Room} {k n : Nat} {L : List PV} {σ : Sto} {QR : Option PV → Sto → Prop} {QX : String → Sto → Prop} {x : Int} (h : QR (some (xi x)) σ) (h1 : k ≤ R.cells) (h2 : n ≤ R.slots) : Aw Ω M_Txt_putRow R (MF Ω R QR QX) k n 42 L [xi x] σ := Aw.iret rfl h h1 h2 d_Txt_putRow_42
theorem e_Txt_rewrite {Ω : Om} {R : Room} {QR : Option PV → Sto → Prop} {QX : String → Sto → Prop} {σ : Sto} {a0 : Nat} {v1 : Int} {v2 : Int64} (h : Aw Ω M_Txt_rewrite R (MF Ω R QR QX) 0 0 0 [xr (some a0), xi v1, xl v2, xu] [] σ) : MC Ω M_Txt_rewrite R QR QX σ [xr (some a0), xi v1, xl v2] := MC.body (by decide +kernel) rfl (Nat.le_of_ble_eq_true rfl) rfl h
theorem b_Txt_rewrite_0 {Ω : Om} {R : Room} {F : QF} {k n : Nat} {σ : Sto} {a0 : Nat} {v1 : Int} {v2 : Int64} (h : Aw Ω M_Txt_rewrite R F k n 2 [xr (some a0), xi v1, xl v2, xu] [xi v1, xr (some a0)] σ) : Aw Ω M_Txt_rewrite R F k n 0 [xr (some a0), xi v1, xl v2, xu] [] σ := by
  refine Aw.aload_n rfl d_Txt_rewrite_0 ?_
  refine Aw.iload_n rfl d_Txt_rewrite_1 ?_
  exact h
theorem b_Txt_rewrite_5 {Ω : Om} {R : Room} {F : QF} {k n : Nat} {σ : Sto} {a0 : Nat} {v1 : Int} {v2 : Int64} {s0 : Int} (h : Q32 s0 ∧ ((s0 = (0 : Int) → Aw Ω M_Txt_rewrite R F k n 33 [xr (some a0), xi v1, xl v2, xu] [] σ) ∧ (¬ s0 = (0 : Int) → sK σ a0 = 10 ∧ (∃ b3 : Nat, fR σ 576 a0 = some b3 ∧ sK σ b3 = 51 ∧ 0 ≤ v1 ∧ v1 < sZ σ b3 ∧ Q32 (cmpL (aL σ b3 (v1).toNat) v2) ∧ (((cmpL (aL σ b3 (v1).toNat) v2) = (0 : Int) → Aw Ω M_Txt_rewrite R F k n 33 [xr (some a0), xi v1, xl v2, xu] [] σ) ∧ (¬ (cmpL (aL σ b3 (v1).toNat) v2) = (0 : Int) → (∃ b9 : Nat, fR σ 577 a0 = some b9 ∧ sK σ b9 = 50 ∧ 0 ≤ v1 ∧ v1 < sZ σ b9 ∧ Aw Ω M_Txt_rewrite R F k n 33 [xr (some a0), xi v1, xl v2, xu] [] (vI (vL σ b3 (v1).toNat v2) b9 (v1).toNat (-1))))))))) : Aw Ω M_Txt_rewrite R F k n 5 [xr (some a0), xi v1, xl v2, xu] [xi s0] σ := by
  obtain ⟨o1, h⟩ := h
  obtain ⟨ht, hf⟩ := h
  refine Aw.if_eq (tgt := 33) o1 (by decide) d_Txt_rewrite_5 (fun c15 => ?_) (fun c15 => ?_)
  · have h := ht c15
    exact h
  · have h := hf c15
    refine Aw.aload_n rfl d_Txt_rewrite_8 ?_
    obtain ⟨o2, h⟩ := h
    obtain ⟨b3, e4, h⟩ := h
    refine Aw.getRs (f := 576) 9 0 fl_Txt_9 (by decide) (by decide) rfl rfl o2 e4 d_Txt_rewrite_9 ?_
    refine Aw.iload_n rfl d_Txt_rewrite_12 ?_
    obtain ⟨o5, h⟩ := h
    obtain ⟨o6, o7, h⟩ := h
    refine Aw.lald o5 o6 o7 d_Txt_rewrite_13 ?_
    refine Aw.lload_n rfl d_Txt_rewrite_14 ?_
    refine Aw.lcmp d_Txt_rewrite_15 ?_
    obtain ⟨o8, h⟩ := h
    obtain ⟨ht, hf⟩ := h
    refine Aw.if_eq (tgt := 33) o8 (by decide) d_Txt_rewrite_16 (fun c14 => ?_) (fun c14 => ?_)
    · have h := ht c14
      exact h
    · have h := hf c14
      refine Aw.aload_n rfl d_Txt_rewrite_19 ?_
      refine Aw.getRs (f := 576) 9 0 fl_Txt_9 (by decide) (by decide) rfl rfl o2 e4 d_Txt_rewrite_20 ?_
      refine Aw.iload_n rfl d_Txt_rewrite_23 ?_
      refine Aw.lload_n rfl d_Txt_rewrite_24 ?_
      refine Aw.last o5 o6 o7 d_Txt_rewrite_25 ?_
      refine Aw.aload_n rfl d_Txt_rewrite_26 ?_
      obtain ⟨b9, e10, h⟩ := h
      refine Aw.getRs (f := 577) 9 1 fl_Txt_15 (by decide) (by decide) rfl rfl o2 e10 d_Txt_rewrite_27 ?_
      refine Aw.iload_n rfl d_Txt_rewrite_30 ?_
      refine Aw.iconst d_Txt_rewrite_31 ?_
      obtain ⟨o11, h⟩ := h
      obtain ⟨o12, o13, h⟩ := h
      refine Aw.iast o11 o12 o13 ⟨by decide, by decide⟩ d_Txt_rewrite_32 ?_
      exact h
theorem c_Txt_rewrite_2 {Ω : Om} {R R' : Room} {F : QF} {k n : Nat} {L st : List PV} {σ : Sto} {QX' : String → Sto → Prop} {Q : Int → Sto → Prop} {a : Nat} {x0 : Int} (hc : MC Ω M_Txt_hasPlace R' (RI Q) QX' σ [xr (some a), xi x0]) (hk : sK σ a = 10) (hr1 : R'.frames + 1 ≤ R.frames) (hr2 : 8 + (2 + 11) + R'.locals ≤ R.locals) (hb1 : k + R'.cells ≤ R.cells) (hb2 : n + R'.slots ≤ R.slots) (hst : (st.map catP).sum ≤ 8) (kk : ∀ x σ', Q x σ' → Aw Ω M_Txt_rewrite R F (k + R'.cells) (n + R'.slots) 5 L (xi x :: st) σ') (kx : ∀ E σ', QX' E σ' → Ax Ω M_Txt_rewrite R F (k + R'.cells) (n + R'.slots) 2 L st σ' E) : Aw Ω M_Txt_rewrite R F k n 2 L (xi x0 :: xr (some a) :: st) σ :=
  Aw.callV (As := [xi x0]) (stk := xi x0 :: xr (some a) :: st) (nn := 1) 9 M_Txt_hasPlace hc ok_Txt_hasPlace rfl (by decide) rfl hk ml_Txt_23 im_Txt_hasPlace se_Txt_hasPlace ⟨hr1, hr2⟩ rfl ⟨hb1, hb2⟩ hst rfl d_Txt_rewrite_2 (fun r σ' h => by obtain ⟨x, rfl, h⟩ := h; exact kk x σ' h) kx
theorem r_Txt_rewrite_33 {Ω : Om} {R : Room} {k n : Nat} {L : List PV} {σ : Sto} {QR : Option PV → Sto → Prop} {QX : String → Sto → Prop} (h : QR none σ) (h1 : k ≤ R.cells) (h2 : n ≤ R.slots) : Aw Ω M_Txt_rewrite R (MF Ω R QR QX) k n 33 L [] σ := Aw.vret rfl h h1 h2 d_Txt_rewrite_33
theorem e_Txt_shift {Ω : Om} {R : Room} {QR : Option PV → Sto → Prop} {QX : String → Sto → Prop} {σ : Sto} {a0 : Nat} {v1 : Int} {v2 : Int} (h : Aw Ω M_Txt_shift R (MF Ω R QR QX) 0 0 0 [xr (some a0), xi v1, xi v2, xu, xu, xu] [] σ) : MC Ω M_Txt_shift R QR QX σ [xr (some a0), xi v1, xi v2] := MC.body (by decide +kernel) rfl (Nat.le_of_ble_eq_true rfl) rfl h
theorem b_Txt_shift_0 {Ω : Om} {R : Room} {F : QF} {k n : Nat} {σ : Sto} {a0 : Nat} {v1 : Int} {v2 : Int} (h : Aw Ω M_Txt_shift R F k n 2 [xr (some a0), xi v1, xi v2, xu, xu, xu] [xi v1, xr (some a0)] σ) : Aw Ω M_Txt_shift R F k n 0 [xr (some a0), xi v1, xi v2, xu, xu, xu] [] σ := by
  refine Aw.aload_n rfl d_Txt_shift_0 ?_
  refine Aw.iload_n rfl d_Txt_shift_1 ?_
  exact h
theorem b_Txt_shift_5 {Ω : Om} {R : Room} {F : QF} {k n : Nat} {σ : Sto} {a0 : Nat} {v1 : Int} {v2 : Int} {s0 : Int} (h : Q32 s0 ∧ ((s0 = (0 : Int) → Aw Ω M_Txt_shift R F k n 44 [xr (some a0), xi v1, xi v2, xu, xu, xu] [] σ) ∧ (¬ s0 = (0 : Int) → Aw Ω M_Txt_shift R F k n 10 [xr (some a0), xi v1, xi v2, xu, xu, xu] [xi v2, xr (some a0)] σ))) : Aw Ω M_Txt_shift R F k n 5 [xr (some a0), xi v1, xi v2, xu, xu, xu] [xi s0] σ := by
  obtain ⟨o1, h⟩ := h
  obtain ⟨ht, hf⟩ := h
  refine Aw.if_eq (tgt := 44) o1 (by decide) d_Txt_shift_5 (fun c2 => ?_) (fun c2 => ?_)
  · have h := ht c2
    exact h
  · have h := hf c2
    refine Aw.aload_n rfl d_Txt_shift_8 ?_
    refine Aw.iload_n rfl d_Txt_shift_9 ?_
    exact h
theorem b_Txt_shift_13 {Ω : Om} {R : Room} {F : QF} {k n : Nat} {σ : Sto} {a0 : Nat} {v1 : Int} {v2 : Int} {s0 : Int} (h : Q32 s0 ∧ ((s0 = (0 : Int) → Aw Ω M_Txt_shift R F k n 44 [xr (some a0), xi v1, xi v2, xu, xu, xu] [] σ) ∧ (¬ s0 = (0 : Int) → sK σ a0 = 10 ∧ (∃ b3 : Nat, fR σ 576 a0 = some b3 ∧ sK σ b3 = 51 ∧ 0 ≤ v1 ∧ v1 < sZ σ b3 ∧ (∃ b8 : Nat, fR σ 577 a0 = some b8 ∧ sK σ b8 = 50 ∧ 0 ≤ v1 ∧ v1 < sZ σ b8 ∧ (Q32 (aI σ b8 (v1).toNat) → Aw Ω M_Txt_shift R F k n 33 [xr (some a0), xi v1, xi v2, xl (aL σ b3 (v1).toNat), xu, xi (aI σ b8 (v1).toNat)] [xi v1, xr (some a0)] σ)))))) : Aw Ω M_Txt_shift R F k n 13 [xr (some a0), xi v1, xi v2, xu, xu, xu] [xi s0] σ := by
  obtain ⟨o1, h⟩ := h
  obtain ⟨ht, hf⟩ := h
  refine Aw.if_eq (tgt := 44) o1 (by decide) d_Txt_shift_13 (fun c14 => ?_) (fun c14 => ?_)
  · have h := ht c14
    exact h
  · have h := hf c14
    refine Aw.aload_n rfl d_Txt_shift_16 ?_
    obtain ⟨o2, h⟩ := h
    obtain ⟨b3, e4, h⟩ := h
    refine Aw.getRs (f := 576) 9 0 fl_Txt_9 (by decide) (by decide) rfl rfl o2 e4 d_Txt_shift_17 ?_
    refine Aw.iload_n rfl d_Txt_shift_20 ?_
    obtain ⟨o5, h⟩ := h
    obtain ⟨o6, o7, h⟩ := h
    refine Aw.lald o5 o6 o7 d_Txt_shift_21 ?_
    refine Aw.lstore_n (by decide) d_Txt_shift_22 ?_
    refine Aw.toL (L' := [xr (some a0), xi v1, xi v2, xl (aL σ b3 (v1).toNat), xu, xu]) rfl ?_
    refine Aw.aload_n rfl d_Txt_shift_23 ?_
    obtain ⟨b8, e9, h⟩ := h
    refine Aw.getRs (f := 577) 9 1 fl_Txt_15 (by decide) (by decide) rfl rfl o2 e9 d_Txt_shift_24 ?_
    refine Aw.iload_n rfl d_Txt_shift_27 ?_
    obtain ⟨o10, h⟩ := h
    obtain ⟨o11, o12, h⟩ := h
    refine Aw.iald o10 o11 o12 d_Txt_shift_28 (fun r13 => ?_)
    have h := h r13
    refine Aw.istore (by decide) d_Txt_shift_29 ?_
    refine Aw.toL (L' := [xr (some a0), xi v1, xi v2, xl (aL σ b3 (v1).toNat), xu, xi (aI σ b8 (v1).toNat)]) rfl ?_
    refine Aw.aload_n rfl d_Txt_shift_31 ?_
    refine Aw.iload_n rfl d_Txt_shift_32 ?_
    exact h
theorem b_Txt_shift_36 {Ω : Om} {R : Room} {F : QF} {k n : Nat} {σ : Sto} {a0 : Nat} {v1 : Int} {v2 : Int} {v3 : Int64} {v5 : Int} (h : Aw Ω M_Txt_shift R F k n 41 [xr (some a0), xi v1, xi v2, xl v3, xu, xi v5] [xi v5, xl v3, xi v2, xr (some a0)] σ) : Aw Ω M_Txt_shift R F k n 36 [xr (some a0), xi v1, xi v2, xl v3, xu, xi v5] [] σ := by
  refine Aw.aload_n rfl d_Txt_shift_36 ?_
  refine Aw.iload_n rfl d_Txt_shift_37 ?_
  refine Aw.lload_n rfl d_Txt_shift_38 ?_
  refine Aw.iload rfl d_Txt_shift_39 ?_
  exact h
theorem c_Txt_shift_2 {Ω : Om} {R R' : Room} {F : QF} {k n : Nat} {L st : List PV} {σ : Sto} {QX' : String → Sto → Prop} {Q : Int → Sto → Prop} {a : Nat} {x0 : Int} (hc : MC Ω M_Txt_hasPlace R' (RI Q) QX' σ [xr (some a), xi x0]) (hk : sK σ a = 10) (hr1 : R'.frames + 1 ≤ R.frames) (hr2 : 8 + (2 + 11) + R'.locals ≤ R.locals) (hb1 : k + R'.cells ≤ R.cells) (hb2 : n + R'.slots ≤ R.slots) (hst : (st.map catP).sum ≤ 8) (kk : ∀ x σ', Q x σ' → Aw Ω M_Txt_shift R F (k + R'.cells) (n + R'.slots) 5 L (xi x :: st) σ') (kx : ∀ E σ', QX' E σ' → Ax Ω M_Txt_shift R F (k + R'.cells) (n + R'.slots) 2 L st σ' E) : Aw Ω M_Txt_shift R F k n 2 L (xi x0 :: xr (some a) :: st) σ :=
  Aw.callV (As := [xi x0]) (stk := xi x0 :: xr (some a) :: st) (nn := 1) 9 M_Txt_hasPlace hc ok_Txt_hasPlace rfl (by decide) rfl hk ml_Txt_23 im_Txt_hasPlace se_Txt_hasPlace ⟨hr1, hr2⟩ rfl ⟨hb1, hb2⟩ hst rfl d_Txt_shift_2 (fun r σ' h => by obtain ⟨x, rfl, h⟩ := h; exact kk x σ' h) kx
theorem c_Txt_shift_10 {Ω : Om} {R R' : Room} {F : QF} {k n : Nat} {L st : List PV} {σ : Sto} {QX' : String → Sto → Prop} {Q : Int → Sto → Prop} {a : Nat} {x0 : Int} (hc : MC Ω M_Txt_hasPlace R' (RI Q) QX' σ [xr (some a), xi x0]) (hk : sK σ a = 10) (hr1 : R'.frames + 1 ≤ R.frames) (hr2 : 8 + (2 + 11) + R'.locals ≤ R.locals) (hb1 : k + R'.cells ≤ R.cells) (hb2 : n + R'.slots ≤ R.slots) (hst : (st.map catP).sum ≤ 8) (kk : ∀ x σ', Q x σ' → Aw Ω M_Txt_shift R F (k + R'.cells) (n + R'.slots) 13 L (xi x :: st) σ') (kx : ∀ E σ', QX' E σ' → Ax Ω M_Txt_shift R F (k + R'.cells) (n + R'.slots) 10 L st σ' E) : Aw Ω M_Txt_shift R F k n 10 L (xi x0 :: xr (some a) :: st) σ :=
  Aw.callV (As := [xi x0]) (stk := xi x0 :: xr (some a) :: st) (nn := 1) 9 M_Txt_hasPlace hc ok_Txt_hasPlace rfl (by decide) rfl hk ml_Txt_23 im_Txt_hasPlace se_Txt_hasPlace ⟨hr1, hr2⟩ rfl ⟨hb1, hb2⟩ hst rfl d_Txt_shift_10 (fun r σ' h => by obtain ⟨x, rfl, h⟩ := h; exact kk x σ' h) kx
theorem c_Txt_shift_33 {Ω : Om} {R R' : Room} {F : QF} {k n : Nat} {L st : List PV} {σ : Sto} {QX' : String → Sto → Prop} {Q : Sto → Prop} {a : Nat} {x0 : Int} (hc : MC Ω M_Txt_takeOut R' (RV Q) QX' σ [xr (some a), xi x0]) (hk : sK σ a = 10) (hr1 : R'.frames + 1 ≤ R.frames) (hr2 : 8 + (3 + 11) + R'.locals ≤ R.locals) (hb1 : k + R'.cells ≤ R.cells) (hb2 : n + R'.slots ≤ R.slots) (hst : (st.map catP).sum ≤ 8) (kk : ∀ σ', Q σ' → Aw Ω M_Txt_shift R F (k + R'.cells) (n + R'.slots) 36 L st σ') (kx : ∀ E σ', QX' E σ' → Ax Ω M_Txt_shift R F (k + R'.cells) (n + R'.slots) 33 L st σ' E) : Aw Ω M_Txt_shift R F k n 33 L (xi x0 :: xr (some a) :: st) σ :=
  Aw.callV (As := [xi x0]) (stk := xi x0 :: xr (some a) :: st) (nn := 1) 9 M_Txt_takeOut hc ok_Txt_takeOut rfl (by decide) rfl hk ml_Txt_39 im_Txt_takeOut se_Txt_takeOut ⟨hr1, hr2⟩ rfl ⟨hb1, hb2⟩ hst rfl d_Txt_shift_33 (fun r σ' h => by obtain ⟨rfl, h⟩ := h; exact kk σ' h) kx
theorem c_Txt_shift_41 {Ω : Om} {R R' : Room} {F : QF} {k n : Nat} {L st : List PV} {σ : Sto} {QX' : String → Sto → Prop} {Q : Sto → Prop} {a : Nat} {x0 : Int} {x1 : Int64} {x2 : Int} (hc : MC Ω M_Txt_put R' (RV Q) QX' σ [xr (some a), xi x0, xl x1, xi x2]) (hk : sK σ a = 10) (hr1 : R'.frames + 1 ≤ R.frames) (hr2 : 8 + (6 + 11) + R'.locals ≤ R.locals) (hb1 : k + R'.cells ≤ R.cells) (hb2 : n + R'.slots ≤ R.slots) (hst : (st.map catP).sum ≤ 8) (kk : ∀ σ', Q σ' → Aw Ω M_Txt_shift R F (k + R'.cells) (n + R'.slots) 44 L st σ') (kx : ∀ E σ', QX' E σ' → Ax Ω M_Txt_shift R F (k + R'.cells) (n + R'.slots) 41 L st σ' E) : Aw Ω M_Txt_shift R F k n 41 L (xi x2 :: xl x1 :: xi x0 :: xr (some a) :: st) σ :=
  Aw.callV (As := [xi x0, xl x1, xi x2]) (stk := xi x2 :: xl x1 :: xi x0 :: xr (some a) :: st) (nn := 3) 9 M_Txt_put hc ok_Txt_put rfl (by decide) rfl hk ml_Txt_35 im_Txt_put se_Txt_put ⟨hr1, hr2⟩ rfl ⟨hb1, hb2⟩ hst rfl d_Txt_shift_41 (fun r σ' h => by obtain ⟨rfl, h⟩ := h; exact kk σ' h) kx
theorem r_Txt_shift_44 {Ω : Om} {R : Room} {k n : Nat} {L : List PV} {σ : Sto} {QR : Option PV → Sto → Prop} {QX : String → Sto → Prop} (h : QR none σ) (h1 : k ≤ R.cells) (h2 : n ≤ R.slots) : Aw Ω M_Txt_shift R (MF Ω R QR QX) k n 44 L [] σ := Aw.vret rfl h h1 h2 d_Txt_shift_44
theorem e_Txt_signsOf {Ω : Om} {R : Room} {QR : Option PV → Sto → Prop} {QX : String → Sto → Prop} {σ : Sto} {a0 : Nat} {v1 : Int} {v2 : Int} (h : Aw Ω M_Txt_signsOf R (MF Ω R QR QX) 0 0 0 [xr (some a0), xi v1, xi v2, xu, xu] [] σ) : MC Ω M_Txt_signsOf R QR QX σ [xr (some a0), xi v1, xi v2] := MC.body (by decide +kernel) rfl (Nat.le_of_ble_eq_true rfl) rfl h
theorem b_Txt_signsOf_0 {Ω : Om} {R : Room} {F : QF} {k n : Nat} {σ : Sto} {a0 : Nat} {v1 : Int} {v2 : Int} (h : Q32 0 ∧ Q32 (v2 - v1) ∧ 1 ≤ R.frames ∧ ([].map catP).sum + 13 ≤ R.locals ∧ k ≤ R.cells ∧ n ≤ R.slots ∧ 0 ≤ (maxI 0 (v2 - v1)) ∧ (maxI 0 (v2 - v1)) ≤ 60000000 ∧ k + 1 ≤ R.cells ∧ n + (maxI 0 (v2 - v1)).toNat ≤ R.slots ∧ (∀ σ11 : Sto, σ11 = (nO σ 51 (maxI 0 (v2 - v1)).toNat) → Aw Ω M_Txt_signsOf R F (k + 1) (n + (maxI 0 (v2 - v1)).toNat) 13 [xr (some a0), xi v1, xi v2, xr (some (sN σ)), xi 0] [] σ11)) : Aw Ω M_Txt_signsOf R F k n 0 [xr (some a0), xi v1, xi v2, xu, xu] [] σ := by
  refine Aw.iconst d_Txt_signsOf_0 ?_
  refine Aw.iload_n rfl d_Txt_signsOf_1 ?_
  refine Aw.iload_n rfl d_Txt_signsOf_2 ?_
  refine Aw.isub d_Txt_signsOf_3 ?_
  obtain ⟨o1, o2, o3, o4, o5, o6, h⟩ := h
  refine Aw.mmax o1 o2 ml_Txt_53 mth_max_1 mth_ini mth_max_2 o3 o4 o5 o6 d_Txt_signsOf_4 ?_
  obtain ⟨o7, o8, o9, o10, h⟩ := h
  refine Aw.newarr 1 (by decide) rfl arc_1 o7 o8 o9 o10 d_Txt_signsOf_7 ?_
  obtain ⟨σ11, hσ11⟩ : ∃ z, z = (nO σ 51 (maxI 0 (v2 - v1)).toNat) := ⟨_, rfl⟩
  refine Aw.toS (σ' := σ11) hσ11 ?_
  have h := h σ11 hσ11
  refine Aw.astore_n (by decide) d_Txt_signsOf_9 ?_
  refine Aw.toL (L' := [xr (some a0), xi v1, xi v2, xr (some (sN σ)), xu]) rfl ?_
  refine Aw.iconst d_Txt_signsOf_10 ?_
  refine Aw.istore (by decide) d_Txt_signsOf_11 ?_
  refine Aw.toL (L' := [xr (some a0), xi v1, xi v2, xr (some (sN σ)), xi 0]) rfl ?_
  exact h
theorem b_Txt_signsOf_13 {Ω : Om} {R : Room} {F : QF} {k n : Nat} {σ : Sto} {a0 : Nat} {v1 : Int} {v2 : Int} {a3 : Nat} {v4 : Int} (h : sK σ a3 = 51 ∧ ((sZ σ a3 : Int) < 2147483648 → Q32 v4 ∧ Q32 (sZ σ a3 : Int) ∧ (((sZ σ a3 : Int) ≤ v4 → Aw Ω M_Txt_signsOf R F k n 39 [xr (some a0), xi v1, xi v2, xr (some a3), xi v4] [xr (some a3)] σ) ∧ (¬ (sZ σ a3 : Int) ≤ v4 → Aw Ω M_Txt_signsOf R F k n 28 [xr (some a0), xi v1, xi v2, xr (some a3), xi v4] [xi (v1 + v4), xr (some a0), xi v4, xr (some a3)] σ)))) : Aw Ω M_Txt_signsOf R F k n 13 [xr (some a0), xi v1, xi v2, xr (some a3), xi v4] [] σ := by
  refine Aw.iload rfl d_Txt_signsOf_13 ?_
  refine Aw.aload_n rfl d_Txt_signsOf_15 ?_
  obtain ⟨o1, h⟩ := h
  refine Aw.alen 1 (by decide) o1 d_Txt_signsOf_16 (fun r2 => ?_)
  have h := h r2
  obtain ⟨o3, h⟩ := h
  obtain ⟨o4, h⟩ := h
  obtain ⟨ht, hf⟩ := h
  refine Aw.icmp_ge (tgt := 38) o3 o4 (by decide) d_Txt_signsOf_17 (fun c5 => ?_) (fun c5 => ?_)
  · have h := ht c5
    refine Aw.aload_n rfl d_Txt_signsOf_38 ?_
    exact h
  · have h := hf c5
    refine Aw.aload_n rfl d_Txt_signsOf_20 ?_
    refine Aw.iload rfl d_Txt_signsOf_21 ?_
    refine Aw.aload_n rfl d_Txt_signsOf_23 ?_
    refine Aw.iload_n rfl d_Txt_signsOf_24 ?_
    refine Aw.iload rfl d_Txt_signsOf_25 ?_
    refine Aw.iadd d_Txt_signsOf_27 ?_
    exact h
theorem b_Txt_signsOf_31 {Ω : Om} {R : Room} {F : QF} {k n : Nat} {σ : Sto} {a0 : Nat} {v1 : Int} {v2 : Int} {a3 : Nat} {v4 : Int} {s0 : Nat} {s1 : Int} {s2 : Int64} (h : sK σ s0 = 51 ∧ 0 ≤ s1 ∧ s1 < sZ σ s0 ∧ Aw Ω M_Txt_signsOf R F k n 13 [xr (some a0), xi v1, xi v2, xr (some a3), xi (v4 + 1)] [] (vL σ s0 (s1).toNat s2)) : Aw Ω M_Txt_signsOf R F k n 31 [xr (some a0), xi v1, xi v2, xr (some a3), xi v4] [xl s2, xi s1, xr (some s0)] σ := by
  obtain ⟨o1, h⟩ := h
  obtain ⟨o2, o3, h⟩ := h
  refine Aw.last o1 o2 o3 d_Txt_signsOf_31 ?_
  refine Aw.iinc rfl d_Txt_signsOf_32 ?_
  refine Aw.toL (L' := [xr (some a0), xi v1, xi v2, xr (some a3), xi (v4 + 1)]) rfl ?_
  refine Aw.goto (tgt := 13) (by decide) d_Txt_signsOf_35 ?_
  exact h
theorem c_Txt_signsOf_28 {Ω : Om} {R R' : Room} {F : QF} {k n : Nat} {L st : List PV} {σ : Sto} {QX' : String → Sto → Prop} {Q : Int64 → Sto → Prop} {a : Nat} {x0 : Int} (hc : MC Ω M_Txt_lineAt R' (RL Q) QX' σ [xr (some a), xi x0]) (hk : sK σ a = 10) (hr1 : R'.frames + 1 ≤ R.frames) (hr2 : 8 + (2 + 11) + R'.locals ≤ R.locals) (hb1 : k + R'.cells ≤ R.cells) (hb2 : n + R'.slots ≤ R.slots) (hst : (st.map catP).sum ≤ 8) (kk : ∀ x σ', Q x σ' → Aw Ω M_Txt_signsOf R F (k + R'.cells) (n + R'.slots) 31 L (xl x :: st) σ') (kx : ∀ E σ', QX' E σ' → Ax Ω M_Txt_signsOf R F (k + R'.cells) (n + R'.slots) 28 L st σ' E) : Aw Ω M_Txt_signsOf R F k n 28 L (xi x0 :: xr (some a) :: st) σ :=
  Aw.callV (As := [xi x0]) (stk := xi x0 :: xr (some a) :: st) (nn := 1) 9 M_Txt_lineAt hc ok_Txt_lineAt rfl (by decide) rfl hk ml_Txt_27 im_Txt_lineAt se_Txt_lineAt ⟨hr1, hr2⟩ rfl ⟨hb1, hb2⟩ hst rfl d_Txt_signsOf_28 (fun r σ' h => by obtain ⟨x, rfl, h⟩ := h; exact kk x σ' h) kx
theorem r_Txt_signsOf_39 {Ω : Om} {R : Room} {k n : Nat} {L : List PV} {σ : Sto} {QR : Option PV → Sto → Prop} {QX : String → Sto → Prop} {x : Option Nat} (h : QR (some (xr x)) σ) (h1 : k ≤ R.cells) (h2 : n ≤ R.slots) : Aw Ω M_Txt_signsOf R (MF Ω R QR QX) k n 39 L [xr x] σ := Aw.aret rfl (by first | exact Or.inl ⟨_, rfl⟩ | exact Or.inr ⟨_, rfl⟩) h h1 h2 d_Txt_signsOf_39
theorem e_Txt_size {Ω : Om} {R : Room} {QR : Option PV → Sto → Prop} {QX : String → Sto → Prop} {σ : Sto} {a0 : Nat} (h : Aw Ω M_Txt_size R (MF Ω R QR QX) 0 0 0 [xr (some a0)] [] σ) : MC Ω M_Txt_size R QR QX σ [xr (some a0)] := MC.body (by decide +kernel) rfl (Nat.le_of_ble_eq_true rfl) rfl h
theorem b_Txt_size_0 {Ω : Om} {R : Room} {F : QF} {k n : Nat} {σ : Sto} {a0 : Nat} (h : sK σ a0 = 10 ∧ (Q32 (fI σ 578 a0) → Aw Ω M_Txt_size R F k n 4 [xr (some a0)] [xi (fI σ 578 a0)] σ)) : Aw Ω M_Txt_size R F k n 0 [xr (some a0)] [] σ := by
  refine Aw.aload_n rfl d_Txt_size_0 ?_
  obtain ⟨o1, h⟩ := h
  refine Aw.getI (f := 578) 9 2 fl_Txt_19 (by decide) (by decide) rfl rfl o1 d_Txt_size_1 (fun r2 => ?_)
  have h := h r2
  exact h
theorem r_Txt_size_4 {Ω : Om} {R : Room} {k n : Nat} {L : List PV} {σ : Sto} {QR : Option PV → Sto → Prop} {QX : String → Sto → Prop} {x : Int} (h : QR (some (xi x)) σ) (h1 : k ≤ R.cells) (h2 : n ≤ R.slots) : Aw Ω M_Txt_size R (MF Ω R QR QX) k n 4 L [xi x] σ := Aw.iret rfl h h1 h2 d_Txt_size_4
theorem e_Txt_stands {Ω : Om} {R : Room} {QR : Option PV → Sto → Prop} {QX : String → Sto → Prop} {σ : Sto} {a0 : Nat} {v1 : Int} {a2 : Nat} {v3 : Int} {v4 : Int} (h : Aw Ω M_Txt_stands R (MF Ω R QR QX) 0 0 0 [xr (some a0), xi v1, xr (some a2), xi v3, xi v4, xu] [] σ) : MC Ω M_Txt_stands R QR QX σ [xr (some a0), xi v1, xr (some a2), xi v3, xi v4] := MC.body (by decide +kernel) rfl (Nat.le_of_ble_eq_true rfl) rfl h
theorem b_Txt_stands_0 {Ω : Om} {R : Room} {F : QF} {k n : Nat} {σ : Sto} {a0 : Nat} {v1 : Int} {a2 : Nat} {v3 : Int} {v4 : Int} (h : Q32 v1 ∧ ((v1 < (0 : Int) → Aw Ω M_Txt_stands R F k n 29 [xr (some a0), xi v1, xr (some a2), xi v3, xi v4, xu] [xi 0] σ) ∧ (¬ v1 < (0 : Int) → Q32 v3 ∧ ((v3 < (0 : Int) → Aw Ω M_Txt_stands R F k n 29 [xr (some a0), xi v1, xr (some a2), xi v3, xi v4, xu] [xi 0] σ) ∧ (¬ v3 < (0 : Int) → sK σ a2 = 51 ∧ ((sZ σ a2 : Int) < 2147483648 → Q32 v4 ∧ Q32 (sZ σ a2 : Int) ∧ (((sZ σ a2 : Int) < v4 → Aw Ω M_Txt_stands R F k n 29 [xr (some a0), xi v1, xr (some a2), xi v3, xi v4, xu] [xi 0] σ) ∧ (¬ (sZ σ a2 : Int) < v4 → sK σ a0 = 10 ∧ (Q32 (fI σ 578 a0) → Q32 ((v1 + v4) - v3) ∧ ((((v1 + v4) - v3) ≤ (fI σ 578 a0) → Aw Ω M_Txt_stands R F k n 33 [xr (some a0), xi v1, xr (some a2), xi v3, xi v4, xi v3] [] σ) ∧ (¬ ((v1 + v4) - v3) ≤ (fI σ 578 a0) → Aw Ω M_Txt_stands R F k n 29 [xr (some a0), xi v1, xr (some a2), xi v3, xi v4, xu] [xi 0] σ))))))))))) : Aw Ω M_Txt_stands R F k n 0 [xr (some a0), xi v1, xr (some a2), xi v3, xi v4, xu] [] σ := by
  refine Aw.iload_n rfl d_Txt_stands_0 ?_
  obtain ⟨o1, h⟩ := h
  obtain ⟨ht, hf⟩ := h
  refine Aw.if_lt (tgt := 28) o1 (by decide) d_Txt_stands_1 (fun c13 => ?_) (fun c13 => ?_)
  · have h := ht c13
    refine Aw.iconst d_Txt_stands_28 ?_
    exact h
  · have h := hf c13
    refine Aw.iload_n rfl d_Txt_stands_4 ?_
    obtain ⟨o2, h⟩ := h
    obtain ⟨ht, hf⟩ := h
    refine Aw.if_lt (tgt := 28) o2 (by decide) d_Txt_stands_5 (fun c12 => ?_) (fun c12 => ?_)
    · have h := ht c12
      refine Aw.iconst d_Txt_stands_28 ?_
      exact h
    · have h := hf c12
      refine Aw.iload rfl d_Txt_stands_8 ?_
      refine Aw.aload_n rfl d_Txt_stands_10 ?_
      obtain ⟨o3, h⟩ := h
      refine Aw.alen 1 (by decide) o3 d_Txt_stands_11 (fun r4 => ?_)
      have h := h r4
      obtain ⟨o5, h⟩ := h
      obtain ⟨o6, h⟩ := h
      obtain ⟨ht, hf⟩ := h
      refine Aw.icmp_gt (tgt := 28) o5 o6 (by decide) d_Txt_stands_12 (fun c11 => ?_) (fun c11 => ?_)
      · have h := ht c11
        refine Aw.iconst d_Txt_stands_28 ?_
        exact h
      · have h := hf c11
        refine Aw.iload_n rfl d_Txt_stands_15 ?_
        refine Aw.iload rfl d_Txt_stands_16 ?_
        refine Aw.iadd d_Txt_stands_18 ?_
        refine Aw.iload_n rfl d_Txt_stands_19 ?_
        refine Aw.isub d_Txt_stands_20 ?_
        refine Aw.aload_n rfl d_Txt_stands_21 ?_
        obtain ⟨o7, h⟩ := h
        refine Aw.getI (f := 578) 9 2 fl_Txt_19 (by decide) (by decide) rfl rfl o7 d_Txt_stands_22 (fun r8 => ?_)
        have h := h r8
        obtain ⟨o9, h⟩ := h
        obtain ⟨ht, hf⟩ := h
        refine Aw.icmp_le (tgt := 30) o9 r8 (by decide) d_Txt_stands_25 (fun c10 => ?_) (fun c10 => ?_)
        · have h := ht c10
          refine Aw.iload_n rfl d_Txt_stands_30 ?_
          refine Aw.istore (by decide) d_Txt_stands_31 ?_
          refine Aw.toL (L' := [xr (some a0), xi v1, xr (some a2), xi v3, xi v4, xi v3]) rfl ?_
          exact h
        · have h := hf c10
          refine Aw.iconst d_Txt_stands_28 ?_
          exact h
theorem b_Txt_stands_33 {Ω : Om} {R : Room} {F : QF} {k n : Nat} {σ : Sto} {a0 : Nat} {v1 : Int} {a2 : Nat} {v3 : Int} {v4 : Int} {v5 : Int} (h : Q32 v5 ∧ Q32 v4 ∧ ((v4 ≤ v5 → Aw Ω M_Txt_stands R F k n 68 [xr (some a0), xi v1, xr (some a2), xi v3, xi v4, xi v5] [xi 1] σ) ∧ (¬ v4 ≤ v5 → sK σ a0 = 10 ∧ (∃ b4 : Nat, fR σ 576 a0 = some b4 ∧ sK σ b4 = 51 ∧ 0 ≤ ((v1 + v5) - v3) ∧ ((v1 + v5) - v3) < sZ σ b4 ∧ sK σ a2 = 51 ∧ 0 ≤ v5 ∧ v5 < sZ σ a2 ∧ Q32 (cmpL (aL σ b4 ((v1 + v5) - v3).toNat) (aL σ a2 (v5).toNat)) ∧ (((cmpL (aL σ b4 ((v1 + v5) - v3).toNat) (aL σ a2 (v5).toNat)) = (0 : Int) → Aw Ω M_Txt_stands R F k n 33 [xr (some a0), xi v1, xr (some a2), xi v3, xi v4, xi (v5 + 1)] [] σ) ∧ (¬ (cmpL (aL σ b4 ((v1 + v5) - v3).toNat) (aL σ a2 (v5).toNat)) = (0 : Int) → Aw Ω M_Txt_stands R F k n 60 [xr (some a0), xi v1, xr (some a2), xi v3, xi v4, xi v5] [xi 0] σ)))))) : Aw Ω M_Txt_stands R F k n 33 [xr (some a0), xi v1, xr (some a2), xi v3, xi v4, xi v5] [] σ := by
  refine Aw.iload rfl d_Txt_stands_33 ?_
  refine Aw.iload rfl d_Txt_stands_35 ?_
  obtain ⟨o1, h⟩ := h
  obtain ⟨o2, h⟩ := h
  obtain ⟨ht, hf⟩ := h
  refine Aw.icmp_ge (tgt := 67) o1 o2 (by decide) d_Txt_stands_37 (fun c14 => ?_) (fun c14 => ?_)
  · have h := ht c14
    refine Aw.iconst d_Txt_stands_67 ?_
    exact h
  · have h := hf c14
    refine Aw.aload_n rfl d_Txt_stands_40 ?_
    obtain ⟨o3, h⟩ := h
    obtain ⟨b4, e5, h⟩ := h
    refine Aw.getRs (f := 576) 9 0 fl_Txt_9 (by decide) (by decide) rfl rfl o3 e5 d_Txt_stands_41 ?_
    refine Aw.iload_n rfl d_Txt_stands_44 ?_
    refine Aw.iload rfl d_Txt_stands_45 ?_
    refine Aw.iadd d_Txt_stands_47 ?_
    refine Aw.iload_n rfl d_Txt_stands_48 ?_
    refine Aw.isub d_Txt_stands_49 ?_
    obtain ⟨o6, h⟩ := h
    obtain ⟨o7, o8, h⟩ := h
    refine Aw.lald o6 o7 o8 d_Txt_stands_50 ?_
    refine Aw.aload_n rfl d_Txt_stands_51 ?_
    refine Aw.iload rfl d_Txt_stands_52 ?_
    obtain ⟨o9, h⟩ := h
    obtain ⟨o10, o11, h⟩ := h
    refine Aw.lald o9 o10 o11 d_Txt_stands_54 ?_
    refine Aw.lcmp d_Txt_stands_55 ?_
    obtain ⟨o12, h⟩ := h
    obtain ⟨ht, hf⟩ := h
    refine Aw.if_eq (tgt := 61) o12 (by decide) d_Txt_stands_56 (fun c13 => ?_) (fun c13 => ?_)
    · have h := ht c13
      refine Aw.iinc rfl d_Txt_stands_61 ?_
      refine Aw.toL (L' := [xr (some a0), xi v1, xr (some a2), xi v3, xi v4, xi (v5 + 1)]) rfl ?_
      refine Aw.goto (tgt := 33) (by decide) d_Txt_stands_64 ?_
      exact h
    · have h := hf c13
      refine Aw.iconst d_Txt_stands_59 ?_
      exact h
theorem r_Txt_stands_29 {Ω : Om} {R : Room} {k n : Nat} {L : List PV} {σ : Sto} {QR : Option PV → Sto → Prop} {QX : String → Sto → Prop} {x : Int} (hx : x = 0 ∨ x = 1) (h : QR (some (xi x)) σ) (h1 : k ≤ R.cells) (h2 : n ≤ R.slots) : Aw Ω M_Txt_stands R (MF Ω R QR QX) k n 29 L [xi x] σ := Aw.zret rfl hx h h1 h2 d_Txt_stands_29
theorem r_Txt_stands_60 {Ω : Om} {R : Room} {k n : Nat} {L : List PV} {σ : Sto} {QR : Option PV → Sto → Prop} {QX : String → Sto → Prop} {x : Int} (hx : x = 0 ∨ x = 1) (h : QR (some (xi x)) σ) (h1 : k ≤ R.cells) (h2 : n ≤ R.slots) : Aw Ω M_Txt_stands R (MF Ω R QR QX) k n 60 L [xi x] σ := Aw.zret rfl hx h h1 h2 d_Txt_stands_60
theorem r_Txt_stands_68 {Ω : Om} {R : Room} {k n : Nat} {L : List PV} {σ : Sto} {QR : Option PV → Sto → Prop} {QX : String → Sto → Prop} {x : Int} (hx : x = 0 ∨ x = 1) (h : QR (some (xi x)) σ) (h1 : k ≤ R.cells) (h2 : n ≤ R.slots) : Aw Ω M_Txt_stands R (MF Ω R QR QX) k n 68 L [xi x] σ := Aw.zret rfl hx h h1 h2 d_Txt_stands_68
theorem e_Txt_takeOut {Ω : Om} {R : Room} {QR : Option PV → Sto → Prop} {QX : String → Sto → Prop} {σ : Sto} {a0 : Nat} {v1 : Int} (h : Aw Ω M_Txt_takeOut R (MF Ω R QR QX) 0 0 0 [xr (some a0), xi v1, xu] [] σ) : MC Ω M_Txt_takeOut R QR QX σ [xr (some a0), xi v1] := MC.body (by decide +kernel) rfl (Nat.le_of_ble_eq_true rfl) rfl h
theorem b_Txt_takeOut_0 {Ω : Om} {R : Room} {F : QF} {k n : Nat} {σ : Sto} {a0 : Nat} {v1 : Int} (h : Aw Ω M_Txt_takeOut R F k n 2 [xr (some a0), xi v1, xu] [xi v1, xr (some a0)] σ) : Aw Ω M_Txt_takeOut R F k n 0 [xr (some a0), xi v1, xu] [] σ := by
  refine Aw.aload_n rfl d_Txt_takeOut_0 ?_
  refine Aw.iload_n rfl d_Txt_takeOut_1 ?_
  exact h
theorem b_Txt_takeOut_5 {Ω : Om} {R : Room} {F : QF} {k n : Nat} {σ : Sto} {a0 : Nat} {v1 : Int} {s0 : Int} (h : Q32 s0 ∧ ((¬ s0 = (0 : Int) → Aw Ω M_Txt_takeOut R F k n 11 [xr (some a0), xi v1, xi v1] [] σ) ∧ (s0 = (0 : Int) → Aw Ω M_Txt_takeOut R F k n 8 [xr (some a0), xi v1, xu] [] σ))) : Aw Ω M_Txt_takeOut R F k n 5 [xr (some a0), xi v1, xu] [xi s0] σ := by
  obtain ⟨o1, h⟩ := h
  obtain ⟨ht, hf⟩ := h
  refine Aw.if_ne (tgt := 9) o1 (by decide) d_Txt_takeOut_5 (fun c2 => ?_) (fun c2 => ?_)
  · have h := ht c2
    refine Aw.iload_n rfl d_Txt_takeOut_9 ?_
    refine Aw.istore_n (by decide) d_Txt_takeOut_10 ?_
    refine Aw.toL (L' := [xr (some a0), xi v1, xi v1]) rfl ?_
    exact h
  · have h := hf c2
    exact h
theorem b_Txt_takeOut_11 {Ω : Om} {R : Room} {F : QF} {k n : Nat} {σ : Sto} {a0 : Nat} {v1 : Int} {v2 : Int} (h : sK σ a0 = 10 ∧ (Q32 (fI σ 578 a0) → Q32 (v2 + 1) ∧ (((fI σ 578 a0) ≤ (v2 + 1) → (Q32 (fI σ 578 a0) → Q32 ((fI σ 578 a0) - 1) ∧ Aw Ω M_Txt_takeOut R F k n 65 [xr (some a0), xi v1, xi v2] [] (uI σ 578 a0 ((fI σ 578 a0) - 1)))) ∧ (¬ (fI σ 578 a0) ≤ (v2 + 1) → (∃ b6 : Nat, fR σ 576 a0 = some b6 ∧ sK σ b6 = 51 ∧ 0 ≤ (v2 + 1) ∧ (v2 + 1) < sZ σ b6 ∧ 0 ≤ v2 ∧ v2 < sZ σ b6 ∧ (∃ b13 : Nat, fR σ 577 a0 = some b13 ∧ sK σ b13 = 50 ∧ 0 ≤ (v2 + 1) ∧ (v2 + 1) < sZ σ b13 ∧ (Q32 (aI σ b13 (v2 + 1).toNat) → 0 ≤ v2 ∧ v2 < sZ σ b13 ∧ Aw Ω M_Txt_takeOut R F k n 11 [xr (some a0), xi v1, xi (v2 + 1)] [] (vI (vL σ b6 (v2).toNat (aL σ b6 (v2 + 1).toNat)) b13 (v2).toNat (aI σ b13 (v2 + 1).toNat))))))))) : Aw Ω M_Txt_takeOut R F k n 11 [xr (some a0), xi v1, xi v2] [] σ := by
  refine Aw.iload_n rfl d_Txt_takeOut_11 ?_
  refine Aw.iconst d_Txt_takeOut_12 ?_
  refine Aw.iadd d_Txt_takeOut_13 ?_
  refine Aw.aload_n rfl d_Txt_takeOut_14 ?_
  obtain ⟨o1, h⟩ := h
  refine Aw.getI (f := 578) 9 2 fl_Txt_19 (by decide) (by decide) rfl rfl o1 d_Txt_takeOut_15 (fun r2 => ?_)
  have h := h r2
  obtain ⟨o3, h⟩ := h
  obtain ⟨ht, hf⟩ := h
  refine Aw.icmp_ge (tgt := 55) o3 r2 (by decide) d_Txt_takeOut_18 (fun c21 => ?_) (fun c21 => ?_)
  · have h := ht c21
    refine Aw.aload_n rfl d_Txt_takeOut_55 ?_
    refine Aw.dup rfl d_Txt_takeOut_56 ?_
    refine Aw.getI (f := 578) 9 2 fl_Txt_19 (by decide) (by decide) rfl rfl o1 d_Txt_takeOut_57 (fun r4 => ?_)
    have h := h r4
    refine Aw.iconst d_Txt_takeOut_60 ?_
    refine Aw.isub d_Txt_takeOut_61 ?_
    obtain ⟨o5, h⟩ := h
    refine Aw.putI (f := 578) 9 2 fl_Txt_19 (by decide) (by decide) rfl rfl o1 rfl o5 (Or.inl rfl) d_Txt_takeOut_62 ?_
    exact h
  · have h := hf c21
    refine Aw.aload_n rfl d_Txt_takeOut_21 ?_
    obtain ⟨b6, e7, h⟩ := h
    refine Aw.getRs (f := 576) 9 0 fl_Txt_9 (by decide) (by decide) rfl rfl o1 e7 d_Txt_takeOut_22 ?_
    refine Aw.iload_n rfl d_Txt_takeOut_25 ?_
    refine Aw.aload_n rfl d_Txt_takeOut_26 ?_
    refine Aw.getRs (f := 576) 9 0 fl_Txt_9 (by decide) (by decide) rfl rfl o1 e7 d_Txt_takeOut_27 ?_
    refine Aw.iload_n rfl d_Txt_takeOut_30 ?_
    refine Aw.iconst d_Txt_takeOut_31 ?_
    refine Aw.iadd d_Txt_takeOut_32 ?_
    obtain ⟨o8, h⟩ := h
    obtain ⟨o9, o10, h⟩ := h
    refine Aw.lald o8 o9 o10 d_Txt_takeOut_33 ?_
    obtain ⟨o11, o12, h⟩ := h
    refine Aw.last o8 o11 o12 d_Txt_takeOut_34 ?_
    refine Aw.aload_n rfl d_Txt_takeOut_35 ?_
    obtain ⟨b13, e14, h⟩ := h
    refine Aw.getRs (f := 577) 9 1 fl_Txt_15 (by decide) (by decide) rfl rfl o1 e14 d_Txt_takeOut_36 ?_
    refine Aw.iload_n rfl d_Txt_takeOut_39 ?_
    refine Aw.aload_n rfl d_Txt_takeOut_40 ?_
    refine Aw.getRs (f := 577) 9 1 fl_Txt_15 (by decide) (by decide) rfl rfl o1 e14 d_Txt_takeOut_41 ?_
    refine Aw.iload_n rfl d_Txt_takeOut_44 ?_
    refine Aw.iconst d_Txt_takeOut_45 ?_
    refine Aw.iadd d_Txt_takeOut_46 ?_
    obtain ⟨o15, h⟩ := h
    obtain ⟨o16, o17, h⟩ := h
    refine Aw.iald o15 o16 o17 d_Txt_takeOut_47 (fun r18 => ?_)
    have h := h r18
    obtain ⟨o19, o20, h⟩ := h
    refine Aw.iast o15 o19 o20 r18 d_Txt_takeOut_48 ?_
    refine Aw.iinc rfl d_Txt_takeOut_49 ?_
    refine Aw.toL (L' := [xr (some a0), xi v1, xi (v2 + 1)]) rfl ?_
    refine Aw.goto (tgt := 11) (by decide) d_Txt_takeOut_52 ?_
    exact h
theorem c_Txt_takeOut_2 {Ω : Om} {R R' : Room} {F : QF} {k n : Nat} {L st : List PV} {σ : Sto} {QX' : String → Sto → Prop} {Q : Int → Sto → Prop} {a : Nat} {x0 : Int} (hc : MC Ω M_Txt_hasPlace R' (RI Q) QX' σ [xr (some a), xi x0]) (hk : sK σ a = 10) (hr1 : R'.frames + 1 ≤ R.frames) (hr2 : 8 + (2 + 11) + R'.locals ≤ R.locals) (hb1 : k + R'.cells ≤ R.cells) (hb2 : n + R'.slots ≤ R.slots) (hst : (st.map catP).sum ≤ 8) (kk : ∀ x σ', Q x σ' → Aw Ω M_Txt_takeOut R F (k + R'.cells) (n + R'.slots) 5 L (xi x :: st) σ') (kx : ∀ E σ', QX' E σ' → Ax Ω M_Txt_takeOut R F (k + R'.cells) (n + R'.slots) 2 L st σ' E) : Aw Ω M_Txt_takeOut R F k n 2 L (xi x0 :: xr (some a) :: st) σ :=
  Aw.callV (As := [xi x0]) (stk := xi x0 :: xr (some a) :: st) (nn := 1) 9 M_Txt_hasPlace hc ok_Txt_hasPlace rfl (by decide) rfl hk ml_Txt_23 im_Txt_hasPlace se_Txt_hasPlace ⟨hr1, hr2⟩ rfl ⟨hb1, hb2⟩ hst rfl d_Txt_takeOut_2 (fun r σ' h => by obtain ⟨x, rfl, h⟩ := h; exact kk x σ' h) kx
theorem r_Txt_takeOut_8 {Ω : Om} {R : Room} {k n : Nat} {L : List PV} {σ : Sto} {QR : Option PV → Sto → Prop} {QX : String → Sto → Prop} (h : QR none σ) (h1 : k ≤ R.cells) (h2 : n ≤ R.slots) : Aw Ω M_Txt_takeOut R (MF Ω R QR QX) k n 8 L [] σ := Aw.vret rfl h h1 h2 d_Txt_takeOut_8
theorem r_Txt_takeOut_65 {Ω : Om} {R : Room} {k n : Nat} {L : List PV} {σ : Sto} {QR : Option PV → Sto → Prop} {QX : String → Sto → Prop} (h : QR none σ) (h1 : k ≤ R.cells) (h2 : n ≤ R.slots) : Aw Ω M_Txt_takeOut R (MF Ω R QR QX) k n 65 L [] σ := Aw.vret rfl h h1 h2 d_Txt_takeOut_65
