/-! walks of DiffWeaver$TreeMeter (by program) -/
theorem e_Trm_closeTo {Ω : Om} {R : Room} {QR : Option PV → Sto → Prop} {QX : String → Sto → Prop} {σ : Sto} {a0 : Nat} {v1 : Int} {a2 : Nat} {a3 : Nat} (h : Aw Ω M_Trm_closeTo R (MF Ω R QR QX) 0 0 0 [xr (some a0), xi v1, xr (some a2), xr (some a3)] [] σ) : MC Ω M_Trm_closeTo R QR QX σ [xr (some a0), xi v1, xr (some a2), xr (some a3)] := MC.body (by decide +kernel) rfl (Nat.le_of_ble_eq_true rfl) rfl h
theorem b_Trm_closeTo_0 {Ω : Om} {R : Room} {F : QF} {k n : Nat} {σ : Sto} {a0 : Nat} {v1 : Int} {a2 : Nat} {a3 : Nat} (h : sK σ a0 = 11 ∧ (Q32 (fI σ 649 a0) → (((fI σ 649 a0) ≤ (0 : Int) → Aw Ω M_Trm_closeTo R F k n 86 [xr (some a0), xi v1, xr (some a2), xr (some a3)] [] σ) ∧ (¬ (fI σ 649 a0) ≤ (0 : Int) → (∃ b3 : Nat, fR σ 646 a0 = some b3 ∧ (Q32 (fI σ 649 a0) → sK σ b3 = 50 ∧ 0 ≤ ((fI σ 649 a0) - 1) ∧ ((fI σ 649 a0) - 1) < sZ σ b3 ∧ (Q32 (aI σ b3 ((fI σ 649 a0) - 1).toNat) → Q32 v1 ∧ (((aI σ b3 ((fI σ 649 a0) - 1).toNat) < v1 → Aw Ω M_Trm_closeTo R F k n 86 [xr (some a0), xi v1, xr (some a2), xr (some a3)] [] σ) ∧ (¬ (aI σ b3 ((fI σ 649 a0) - 1).toNat) < v1 → (Q32 (fI σ 650 a0) → Q32 ((fI σ 650 a0) + 1) ∧ (((22 : Int) ≤ ((fI σ 650 a0) + 1) → Aw Ω M_Trm_closeTo R F k n 86 [xr (some a0), xi v1, xr (some a2), xr (some a3)] [] σ) ∧ (¬ (22 : Int) ≤ ((fI σ 650 a0) + 1) → (Q32 (fI σ 649 a0) → Q32 ((fI σ 649 a0) - 1) ∧ (Q32 (fI (uI σ 649 a0 ((fI σ 649 a0) - 1)) 650 a0) → Q32 ((fI (uI σ 649 a0 ((fI σ 649 a0) - 1)) 650 a0) + 1) ∧ (Q32 (fI (uI (uI σ 649 a0 ((fI σ 649 a0) - 1)) 650 a0 ((fI (uI σ 649 a0 ((fI σ 649 a0) - 1)) 650 a0) + 1)) 650 a0) → (∃ b18 : Nat, fR σ 647 a0 = some b18 ∧ (Q32 (fI (uI (uI σ 649 a0 ((fI σ 649 a0) - 1)) 650 a0 ((fI (uI σ 649 a0 ((fI σ 649 a0) - 1)) 650 a0) + 1)) 649 a0) → sK σ b18 = 51 ∧ 0 ≤ (fI (uI (uI σ 649 a0 ((fI σ 649 a0) - 1)) 650 a0 ((fI (uI σ 649 a0 ((fI σ 649 a0) - 1)) 650 a0) + 1)) 649 a0) ∧ (fI (uI (uI σ 649 a0 ((fI σ 649 a0) - 1)) 650 a0 ((fI (uI σ 649 a0 ((fI σ 649 a0) - 1)) 650 a0) + 1)) 649 a0) < sZ σ b18 ∧ sK σ a2 = 51 ∧ 0 ≤ (fI (uI (uI σ 649 a0 ((fI σ 649 a0) - 1)) 650 a0 ((fI (uI σ 649 a0 ((fI σ 649 a0) - 1)) 650 a0) + 1)) 650 a0) ∧ (fI (uI (uI σ 649 a0 ((fI σ 649 a0) - 1)) 650 a0 ((fI (uI σ 649 a0 ((fI σ 649 a0) - 1)) 650 a0) + 1)) 650 a0) < sZ σ a2 ∧ (Q32 (fI (uI (uI σ 649 a0 ((fI σ 649 a0) - 1)) 650 a0 ((fI (uI σ 649 a0 ((fI σ 649 a0) - 1)) 650 a0) + 1)) 650 a0) → (∃ b28 : Nat, fR σ 648 a0 = some b28 ∧ (Q32 (fI (uI (uI σ 649 a0 ((fI σ 649 a0) - 1)) 650 a0 ((fI (uI σ 649 a0 ((fI σ 649 a0) - 1)) 650 a0) + 1)) 649 a0) → sK σ b28 = 50 ∧ 0 ≤ (fI (uI (uI σ 649 a0 ((fI σ 649 a0) - 1)) 650 a0 ((fI (uI σ 649 a0 ((fI σ 649 a0) - 1)) 650 a0) + 1)) 649 a0) ∧ (fI (uI (uI σ 649 a0 ((fI σ 649 a0) - 1)) 650 a0 ((fI (uI σ 649 a0 ((fI σ 649 a0) - 1)) 650 a0) + 1)) 649 a0) < sZ σ b28 ∧ (Q32 (aI σ b28 (fI (uI (uI σ 649 a0 ((fI σ 649 a0) - 1)) 650 a0 ((fI (uI σ 649 a0 ((fI σ 649 a0) - 1)) 650 a0) + 1)) 649 a0).toNat) → sK σ a3 = 50 ∧ 0 ≤ (fI (uI (uI σ 649 a0 ((fI σ 649 a0) - 1)) 650 a0 ((fI (uI σ 649 a0 ((fI σ 649 a0) - 1)) 650 a0) + 1)) 650 a0) ∧ (fI (uI (uI σ 649 a0 ((fI σ 649 a0) - 1)) 650 a0 ((fI (uI σ 649 a0 ((fI σ 649 a0) - 1)) 650 a0) + 1)) 650 a0) < sZ σ a3 ∧ Aw Ω M_Trm_closeTo R F k n 0 [xr (some a0), xi v1, xr (some a2), xr (some a3)] [] (vI (vL (uI (uI σ 649 a0 ((fI σ 649 a0) - 1)) 650 a0 ((fI (uI σ 649 a0 ((fI σ 649 a0) - 1)) 650 a0) + 1)) a2 (fI (uI (uI σ 649 a0 ((fI σ 649 a0) - 1)) 650 a0 ((fI (uI σ 649 a0 ((fI σ 649 a0) - 1)) 650 a0) + 1)) 650 a0).toNat (aL σ b18 (fI (uI (uI σ 649 a0 ((fI σ 649 a0) - 1)) 650 a0 ((fI (uI σ 649 a0 ((fI σ 649 a0) - 1)) 650 a0) + 1)) 649 a0).toNat)) a3 (fI (uI (uI σ 649 a0 ((fI σ 649 a0) - 1)) 650 a0 ((fI (uI σ 649 a0 ((fI σ 649 a0) - 1)) 650 a0) + 1)) 650 a0).toNat (aI σ b28 (fI (uI (uI σ 649 a0 ((fI σ 649 a0) - 1)) 650 a0 ((fI (uI σ 649 a0 ((fI σ 649 a0) - 1)) 650 a0) + 1)) 649 a0).toNat))))))))))))))))))))))) : Aw Ω M_Trm_closeTo R F k n 0 [xr (some a0), xi v1, xr (some a2), xr (some a3)] [] σ := by
  refine Aw.aload_n rfl d_Trm_closeTo_0 ?_
  obtain ⟨o1, h⟩ := h
  refine Aw.getI (f := 649) 10 9 fl_Trm_42 (by decide) (by decide) rfl rfl o1 d_Trm_closeTo_1 (fun r2 => ?_)
  have h := h r2
  obtain ⟨ht, hf⟩ := h
  refine Aw.if_le (tgt := 86) r2 (by decide) d_Trm_closeTo_4 (fun c40 => ?_) (fun c40 => ?_)
  · have h := ht c40
    exact h
  · have h := hf c40
    refine Aw.aload_n rfl d_Trm_closeTo_7 ?_
    obtain ⟨b3, e4, h⟩ := h
    refine Aw.getRs (f := 646) 10 6 fl_Trm_33 (by decide) (by decide) rfl rfl o1 e4 d_Trm_closeTo_8 ?_
    refine Aw.aload_n rfl d_Trm_closeTo_11 ?_
    refine Aw.getI (f := 649) 10 9 fl_Trm_42 (by decide) (by decide) rfl rfl o1 d_Trm_closeTo_12 (fun r5 => ?_)
    have h := h r5
    refine Aw.iconst d_Trm_closeTo_15 ?_
    refine Aw.isub d_Trm_closeTo_16 ?_
    obtain ⟨o6, h⟩ := h
    obtain ⟨o7, o8, h⟩ := h
    refine Aw.iald o6 o7 o8 d_Trm_closeTo_17 (fun r9 => ?_)
    have h := h r9
    refine Aw.iload_n rfl d_Trm_closeTo_18 ?_
    obtain ⟨o10, h⟩ := h
    obtain ⟨ht, hf⟩ := h
    refine Aw.icmp_lt (tgt := 86) r9 o10 (by decide) d_Trm_closeTo_19 (fun c39 => ?_) (fun c39 => ?_)
    · have h := ht c39
      exact h
    · have h := hf c39
      refine Aw.aload_n rfl d_Trm_closeTo_22 ?_
      refine Aw.getI (f := 650) 10 10 fl_Trm_46 (by decide) (by decide) rfl rfl o1 d_Trm_closeTo_23 (fun r11 => ?_)
      have h := h r11
      refine Aw.iconst d_Trm_closeTo_26 ?_
      refine Aw.iadd d_Trm_closeTo_27 ?_
      refine Aw.bipush (by decide) d_Trm_closeTo_28 ?_
      obtain ⟨o12, h⟩ := h
      obtain ⟨ht, hf⟩ := h
      refine Aw.icmp_ge (tgt := 86) o12 ⟨by decide, by decide⟩ (by decide) d_Trm_closeTo_30 (fun c38 => ?_) (fun c38 => ?_)
      · have h := ht c38
        exact h
      · have h := hf c38
        refine Aw.aload_n rfl d_Trm_closeTo_33 ?_
        refine Aw.dup rfl d_Trm_closeTo_34 ?_
        refine Aw.getI (f := 649) 10 9 fl_Trm_42 (by decide) (by decide) rfl rfl o1 d_Trm_closeTo_35 (fun r13 => ?_)
        have h := h r13
        refine Aw.iconst d_Trm_closeTo_38 ?_
        refine Aw.isub d_Trm_closeTo_39 ?_
        obtain ⟨o14, h⟩ := h
        refine Aw.putI (f := 649) 10 9 fl_Trm_42 (by decide) (by decide) rfl rfl o1 rfl o14 (Or.inl rfl) d_Trm_closeTo_40 ?_
        refine Aw.aload_n rfl d_Trm_closeTo_43 ?_
        refine Aw.dup rfl d_Trm_closeTo_44 ?_
        refine Aw.getI (f := 650) 10 10 fl_Trm_46 (by decide) (by decide) rfl rfl o1 d_Trm_closeTo_45 (fun r15 => ?_)
        have h := h r15
        refine Aw.iconst d_Trm_closeTo_48 ?_
        refine Aw.iadd d_Trm_closeTo_49 ?_
        obtain ⟨o16, h⟩ := h
        refine Aw.putI (f := 650) 10 10 fl_Trm_46 (by decide) (by decide) rfl rfl o1 rfl o16 (Or.inl rfl) d_Trm_closeTo_50 ?_
        refine Aw.aload_n rfl d_Trm_closeTo_53 ?_
        refine Aw.aload_n rfl d_Trm_closeTo_54 ?_
        refine Aw.getI (f := 650) 10 10 fl_Trm_46 (by decide) (by decide) rfl rfl o1 d_Trm_closeTo_55 (fun r17 => ?_)
        have h := h r17
        refine Aw.aload_n rfl d_Trm_closeTo_58 ?_
        obtain ⟨b18, e19, h⟩ := h
        refine Aw.getRs (f := 647) 10 7 fl_Trm_36 (by decide) (by decide) rfl rfl o1 e19 d_Trm_closeTo_59 ?_
        refine Aw.aload_n rfl d_Trm_closeTo_62 ?_
        refine Aw.getI (f := 649) 10 9 fl_Trm_42 (by decide) (by decide) rfl rfl o1 d_Trm_closeTo_63 (fun r20 => ?_)
        have h := h r20
        obtain ⟨o21, h⟩ := h
        obtain ⟨o22, o23, h⟩ := h
        refine Aw.lald o21 o22 o23 d_Trm_closeTo_66 ?_
        obtain ⟨o24, h⟩ := h
        obtain ⟨o25, o26, h⟩ := h
        refine Aw.last o24 o25 o26 d_Trm_closeTo_67 ?_
        refine Aw.aload_n rfl d_Trm_closeTo_68 ?_
        refine Aw.aload_n rfl d_Trm_closeTo_69 ?_
        refine Aw.getI (f := 650) 10 10 fl_Trm_46 (by decide) (by decide) rfl rfl o1 d_Trm_closeTo_70 (fun r27 => ?_)
        have h := h r27
        refine Aw.aload_n rfl d_Trm_closeTo_73 ?_
        obtain ⟨b28, e29, h⟩ := h
        refine Aw.getRs (f := 648) 10 8 fl_Trm_39 (by decide) (by decide) rfl rfl o1 e29 d_Trm_closeTo_74 ?_
        refine Aw.aload_n rfl d_Trm_closeTo_77 ?_
        refine Aw.getI (f := 649) 10 9 fl_Trm_42 (by decide) (by decide) rfl rfl o1 d_Trm_closeTo_78 (fun r30 => ?_)
        have h := h r30
        obtain ⟨o31, h⟩ := h
        obtain ⟨o32, o33, h⟩ := h
        refine Aw.iald o31 o32 o33 d_Trm_closeTo_81 (fun r34 => ?_)
        have h := h r34
        obtain ⟨o35, h⟩ := h
        obtain ⟨o36, o37, h⟩ := h
        refine Aw.iast o35 o36 o37 r34 d_Trm_closeTo_82 ?_
        refine Aw.goto (tgt := 0) (by decide) d_Trm_closeTo_83 ?_
        exact h
theorem r_Trm_closeTo_86 {Ω : Om} {R : Room} {k n : Nat} {L : List PV} {σ : Sto} {QR : Option PV → Sto → Prop} {QX : String → Sto → Prop} (h : QR none σ) (h1 : k ≤ R.cells) (h2 : n ≤ R.slots) : Aw Ω M_Trm_closeTo R (MF Ω R QR QX) k n 86 L [] σ := Aw.vret rfl h h1 h2 d_Trm_closeTo_86
theorem e_Trm_costOf {Ω : Om} {R : Room} {QR : Option PV → Sto → Prop} {QX : String → Sto → Prop} {σ : Sto} {a0 : Nat} {a1 : Nat} {a2 : Nat} (h : Aw Ω M_Trm_costOf R (MF Ω R QR QX) 0 0 0 [xr (some a0), xr (some a1), xr (some a2), xu, xu, xu, xu] [] σ) : MC Ω M_Trm_costOf R QR QX σ [xr (some a0), xr (some a1), xr (some a2)] := MC.body (by decide +kernel) rfl (Nat.le_of_ble_eq_true rfl) rfl h
theorem b_Trm_costOf_0 {Ω : Om} {R : Room} {F : QF} {k n : Nat} {σ : Sto} {a0 : Nat} {a1 : Nat} {a2 : Nat} (h : sK σ a0 = 11 ∧ (∃ b2 : Nat, fR σ 640 a0 = some b2 ∧ (∃ b4 : Nat, fR σ 642 a0 = some b4 ∧ Aw Ω M_Trm_costOf R F k n 10 [xr (some a0), xr (some a1), xr (some a2), xu, xu, xu, xu] [xr (some b4), xr (some b2), xr (some a1), xr (some a0)] σ))) : Aw Ω M_Trm_costOf R F k n 0 [xr (some a0), xr (some a1), xr (some a2), xu, xu, xu, xu] [] σ := by
  refine Aw.aload_n rfl d_Trm_costOf_0 ?_
  refine Aw.aload_n rfl d_Trm_costOf_1 ?_
  refine Aw.aload_n rfl d_Trm_costOf_2 ?_
  obtain ⟨o1, h⟩ := h
  obtain ⟨b2, e3, h⟩ := h
  refine Aw.getRs (f := 640) 10 0 fl_Trm_11 (by decide) (by decide) rfl rfl o1 e3 d_Trm_costOf_3 ?_
  refine Aw.aload_n rfl d_Trm_costOf_6 ?_
  obtain ⟨b4, e5, h⟩ := h
  refine Aw.getRs (f := 642) 10 2 fl_Trm_18 (by decide) (by decide) rfl rfl o1 e5 d_Trm_costOf_7 ?_
  exact h
theorem b_Trm_costOf_13 {Ω : Om} {R : Room} {F : QF} {k n : Nat} {σ : Sto} {a0 : Nat} {a1 : Nat} {a2 : Nat} {s0 : Int} (h : sK σ a0 = 11 ∧ (∃ b2 : Nat, fR σ 641 a0 = some b2 ∧ (∃ b4 : Nat, fR σ 643 a0 = some b4 ∧ Aw Ω M_Trm_costOf R F k n 24 [xr (some a0), xr (some a1), xr (some a2), xi s0, xu, xu, xu] [xr (some b4), xr (some b2), xr (some a2), xr (some a0)] σ))) : Aw Ω M_Trm_costOf R F k n 13 [xr (some a0), xr (some a1), xr (some a2), xu, xu, xu, xu] [xi s0] σ := by
  refine Aw.istore_n (by decide) d_Trm_costOf_13 ?_
  refine Aw.toL (L' := [xr (some a0), xr (some a1), xr (some a2), xi s0, xu, xu, xu]) rfl ?_
  refine Aw.aload_n rfl d_Trm_costOf_14 ?_
  refine Aw.aload_n rfl d_Trm_costOf_15 ?_
  refine Aw.aload_n rfl d_Trm_costOf_16 ?_
  obtain ⟨o1, h⟩ := h
  obtain ⟨b2, e3, h⟩ := h
  refine Aw.getRs (f := 641) 10 1 fl_Trm_15 (by decide) (by decide) rfl rfl o1 e3 d_Trm_costOf_17 ?_
  refine Aw.aload_n rfl d_Trm_costOf_20 ?_
  obtain ⟨b4, e5, h⟩ := h
  refine Aw.getRs (f := 643) 10 3 fl_Trm_22 (by decide) (by decide) rfl rfl o1 e5 d_Trm_costOf_21 ?_
  exact h
theorem b_Trm_costOf_27 {Ω : Om} {R : Room} {F : QF} {k n : Nat} {σ : Sto} {a0 : Nat} {a1 : Nat} {a2 : Nat} {v3 : Int} {s0 : Int} (h : Aw Ω M_Trm_costOf R F k n 32 [xr (some a0), xr (some a1), xr (some a2), xi v3, xi s0, xi 1, xu] [] σ) : Aw Ω M_Trm_costOf R F k n 27 [xr (some a0), xr (some a1), xr (some a2), xi v3, xu, xu, xu] [xi s0] σ := by
  refine Aw.istore (by decide) d_Trm_costOf_27 ?_
  refine Aw.toL (L' := [xr (some a0), xr (some a1), xr (some a2), xi v3, xi s0, xu, xu]) rfl ?_
  refine Aw.iconst d_Trm_costOf_29 ?_
  refine Aw.istore (by decide) d_Trm_costOf_30 ?_
  refine Aw.toL (L' := [xr (some a0), xr (some a1), xr (some a2), xi v3, xi s0, xi 1, xu]) rfl ?_
  exact h
theorem b_Trm_costOf_32 {Ω : Om} {R : Room} {F : QF} {k n : Nat} {σ : Sto} {a0 : Nat} {a1 : Nat} {a2 : Nat} {v3 : Int} {v4 : Int} {v5 : Int} (h : Q32 v5 ∧ Q32 v3 ∧ ((v3 < v5 → sK σ a0 = 11 ∧ (∃ b4 : Nat, fR σ 644 a0 = some b4 ∧ sK σ b4 = 53 ∧ 0 ≤ v3 ∧ v3 < sZ σ b4 ∧ ∃ b9 : Nat, aR σ b4 (v3).toNat = some b9 ∧ sK σ b9 = 50 ∧ 0 ≤ v4 ∧ v4 < sZ σ b9 ∧ (Q32 (aI σ b9 (v4).toNat) → Aw Ω M_Trm_costOf R F k n 104 [xr (some a0), xr (some a1), xr (some a2), xi v3, xi v4, xi v5, xu] [xi (aI σ b9 (v4).toNat)] σ))) ∧ (¬ v3 < v5 → Aw Ω M_Trm_costOf R F k n 41 [xr (some a0), xr (some a1), xr (some a2), xi v3, xi v4, xi v5, xi 1] [] σ))) : Aw Ω M_Trm_costOf R F k n 32 [xr (some a0), xr (some a1), xr (some a2), xi v3, xi v4, xi v5, xu] [] σ := by
  refine Aw.iload rfl d_Trm_costOf_32 ?_
  refine Aw.iload_n rfl d_Trm_costOf_34 ?_
  obtain ⟨o1, h⟩ := h
  obtain ⟨o2, h⟩ := h
  obtain ⟨ht, hf⟩ := h
  refine Aw.icmp_gt (tgt := 95) o1 o2 (by decide) d_Trm_costOf_35 (fun c15 => ?_) (fun c15 => ?_)
  · have h := ht c15
    refine Aw.aload_n rfl d_Trm_costOf_95 ?_
    obtain ⟨o3, h⟩ := h
    obtain ⟨b4, e5, h⟩ := h
    refine Aw.getRs (f := 644) 10 4 fl_Trm_27 (by decide) (by decide) rfl rfl o3 e5 d_Trm_costOf_96 ?_
    refine Aw.iload_n rfl d_Trm_costOf_99 ?_
    obtain ⟨o6, h⟩ := h
    obtain ⟨o7, o8, h⟩ := h
    refine Aw.aald 3 (by decide) (by decide) o6 o7 o8 d_Trm_costOf_100 ?_
    refine Aw.iload rfl d_Trm_costOf_101 ?_
    obtain ⟨b9, e10, h⟩ := h
    refine Aw.der1 e10 ?_
    obtain ⟨o11, h⟩ := h
    obtain ⟨o12, o13, h⟩ := h
    refine Aw.iald o11 o12 o13 d_Trm_costOf_103 (fun r14 => ?_)
    have h := h r14
    exact h
  · have h := hf c15
    refine Aw.iconst d_Trm_costOf_38 ?_
    refine Aw.istore (by decide) d_Trm_costOf_39 ?_
    refine Aw.toL (L' := [xr (some a0), xr (some a1), xr (some a2), xi v3, xi v4, xi v5, xi 1]) rfl ?_
    exact h
theorem b_Trm_costOf_41 {Ω : Om} {R : Room} {F : QF} {k n : Nat} {σ : Sto} {a0 : Nat} {a1 : Nat} {a2 : Nat} {v3 : Int} {v4 : Int} {v5 : Int} {v6 : Int} (h : Q32 v6 ∧ Q32 v4 ∧ ((v4 < v6 → Aw Ω M_Trm_costOf R F k n 32 [xr (some a0), xr (some a1), xr (some a2), xi v3, xi v4, xi (v5 + 1), xu] [] σ) ∧ (¬ v4 < v6 → sK σ a0 = 11 ∧ (∃ b4 : Nat, fR σ 642 a0 = some b4 ∧ Aw Ω M_Trm_costOf R F k n 55 [xr (some a0), xr (some a1), xr (some a2), xi v3, xi v4, xi v5, xi v6] [xi v3, xi v5, xr (some b4)] σ)))) : Aw Ω M_Trm_costOf R F k n 41 [xr (some a0), xr (some a1), xr (some a2), xi v3, xi v4, xi v5, xi v6] [] σ := by
  refine Aw.iload rfl d_Trm_costOf_41 ?_
  refine Aw.iload rfl d_Trm_costOf_43 ?_
  obtain ⟨o1, h⟩ := h
  obtain ⟨o2, h⟩ := h
  obtain ⟨ht, hf⟩ := h
  refine Aw.icmp_gt (tgt := 89) o1 o2 (by decide) d_Trm_costOf_45 (fun c6 => ?_) (fun c6 => ?_)
  · have h := ht c6
    refine Aw.iinc rfl d_Trm_costOf_89 ?_
    refine Aw.toL (L' := [xr (some a0), xr (some a1), xr (some a2), xi v3, xi v4, xi (v5 + 1), xi v6]) rfl ?_
    refine Aw.goto (tgt := 32) (by decide) d_Trm_costOf_92 ?_
    exact Aw.toW (L' := [xr (some a0), xr (some a1), xr (some a2), xi v3, xi v4, xi (v5 + 1), xu]) ⟨Or.inr rfl, Or.inr rfl, Or.inr rfl, Or.inr rfl, Or.inr rfl, Or.inr rfl, Or.inl rfl, trivial⟩ h
  · have h := hf c6
    refine Aw.aload_n rfl d_Trm_costOf_48 ?_
    obtain ⟨o3, h⟩ := h
    obtain ⟨b4, e5, h⟩ := h
    refine Aw.getRs (f := 642) 10 2 fl_Trm_18 (by decide) (by decide) rfl rfl o3 e5 d_Trm_costOf_49 ?_
    refine Aw.iload rfl d_Trm_costOf_52 ?_
    refine Aw.iload_n rfl d_Trm_costOf_54 ?_
    exact h
theorem b_Trm_costOf_58 {Ω : Om} {R : Room} {F : QF} {k n : Nat} {σ : Sto} {a0 : Nat} {a1 : Nat} {a2 : Nat} {v3 : Int} {v4 : Int} {v5 : Int} {v6 : Int} {s0 : Int} (h : Q32 s0 ∧ ((s0 = (0 : Int) → Aw Ω M_Trm_costOf R F k n 41 [xr (some a0), xr (some a1), xr (some a2), xi v3, xi v4, xi v5, xi (v6 + 1)] [] σ) ∧ (¬ s0 = (0 : Int) → sK σ a0 = 11 ∧ (∃ b3 : Nat, fR σ 643 a0 = some b3 ∧ Aw Ω M_Trm_costOf R F k n 69 [xr (some a0), xr (some a1), xr (some a2), xi v3, xi v4, xi v5, xi v6] [xi v4, xi v6, xr (some b3)] σ)))) : Aw Ω M_Trm_costOf R F k n 58 [xr (some a0), xr (some a1), xr (some a2), xi v3, xi v4, xi v5, xi v6] [xi s0] σ := by
  obtain ⟨o1, h⟩ := h
  obtain ⟨ht, hf⟩ := h
  refine Aw.if_eq (tgt := 83) o1 (by decide) d_Trm_costOf_58 (fun c5 => ?_) (fun c5 => ?_)
  · have h := ht c5
    refine Aw.iinc rfl d_Trm_costOf_83 ?_
    refine Aw.toL (L' := [xr (some a0), xr (some a1), xr (some a2), xi v3, xi v4, xi v5, xi (v6 + 1)]) rfl ?_
    refine Aw.goto (tgt := 41) (by decide) d_Trm_costOf_86 ?_
    exact h
  · have h := hf c5
    refine Aw.aload_n rfl d_Trm_costOf_61 ?_
    obtain ⟨o2, h⟩ := h
    obtain ⟨b3, e4, h⟩ := h
    refine Aw.getRs (f := 643) 10 3 fl_Trm_22 (by decide) (by decide) rfl rfl o2 e4 d_Trm_costOf_62 ?_
    refine Aw.iload rfl d_Trm_costOf_65 ?_
    refine Aw.iload rfl d_Trm_costOf_67 ?_
    exact h
theorem b_Trm_costOf_72 {Ω : Om} {R : Room} {F : QF} {k n : Nat} {σ : Sto} {a0 : Nat} {a1 : Nat} {a2 : Nat} {v3 : Int} {v4 : Int} {v5 : Int} {v6 : Int} {s0 : Int} (h : Q32 s0 ∧ ((s0 = (0 : Int) → Aw Ω M_Trm_costOf R F k n 41 [xr (some a0), xr (some a1), xr (some a2), xi v3, xi v4, xi v5, xi (v6 + 1)] [] σ) ∧ (¬ s0 = (0 : Int) → Aw Ω M_Trm_costOf R F k n 80 [xr (some a0), xr (some a1), xr (some a2), xi v3, xi v4, xi v5, xi v6] [xi v6, xi v5, xr (some a0)] σ))) : Aw Ω M_Trm_costOf R F k n 72 [xr (some a0), xr (some a1), xr (some a2), xi v3, xi v4, xi v5, xi v6] [xi s0] σ := by
  obtain ⟨o1, h⟩ := h
  obtain ⟨ht, hf⟩ := h
  refine Aw.if_eq (tgt := 83) o1 (by decide) d_Trm_costOf_72 (fun c2 => ?_) (fun c2 => ?_)
  · have h := ht c2
    refine Aw.iinc rfl d_Trm_costOf_83 ?_
    refine Aw.toL (L' := [xr (some a0), xr (some a1), xr (some a2), xi v3, xi v4, xi v5, xi (v6 + 1)]) rfl ?_
    refine Aw.goto (tgt := 41) (by decide) d_Trm_costOf_86 ?_
    exact h
  · have h := hf c2
    refine Aw.aload_n rfl d_Trm_costOf_75 ?_
    refine Aw.iload rfl d_Trm_costOf_76 ?_
    refine Aw.iload rfl d_Trm_costOf_78 ?_
    exact h
theorem b_Trm_costOf_83 {Ω : Om} {R : Room} {F : QF} {k n : Nat} {σ : Sto} {a0 : Nat} {a1 : Nat} {a2 : Nat} {v3 : Int} {v4 : Int} {v5 : Int} {v6 : Int} (h : Aw Ω M_Trm_costOf R F k n 41 [xr (some a0), xr (some a1), xr (some a2), xi v3, xi v4, xi v5, xi (v6 + 1)] [] σ) : Aw Ω M_Trm_costOf R F k n 83 [xr (some a0), xr (some a1), xr (some a2), xi v3, xi v4, xi v5, xi v6] [] σ := by
  refine Aw.iinc rfl d_Trm_costOf_83 ?_
  refine Aw.toL (L' := [xr (some a0), xr (some a1), xr (some a2), xi v3, xi v4, xi v5, xi (v6 + 1)]) rfl ?_
  refine Aw.goto (tgt := 41) (by decide) d_Trm_costOf_86 ?_
  exact h
theorem c_Trm_costOf_10 {Ω : Om} {R R' : Room} {F : QF} {k n : Nat} {L st : List PV} {σ : Sto} {QX' : String → Sto → Prop} {Q : Int → Sto → Prop} {a : Nat} {x0 : Option Nat} {x1 : Option Nat} {x2 : Option Nat} (hc : MC Ω M_Trm_grow R' (RI Q) QX' σ [xr (some a), xr x0, xr x1, xr x2]) (hk : sK σ a = 11) (hr1 : R'.frames + 1 ≤ R.frames) (hr2 : 8 + (9 + 11) + R'.locals ≤ R.locals) (hb1 : k + R'.cells ≤ R.cells) (hb2 : n + R'.slots ≤ R.slots) (hst : (st.map catP).sum ≤ 8) (kk : ∀ x σ', Q x σ' → Aw Ω M_Trm_costOf R F (k + R'.cells) (n + R'.slots) 13 L (xi x :: st) σ') (kx : ∀ E σ', QX' E σ' → Ax Ω M_Trm_costOf R F (k + R'.cells) (n + R'.slots) 10 L st σ' E) : Aw Ω M_Trm_costOf R F k n 10 L (xr x2 :: xr x1 :: xr x0 :: xr (some a) :: st) σ :=
  Aw.callV (As := [xr x0, xr x1, xr x2]) (stk := xr x2 :: xr x1 :: xr x0 :: xr (some a) :: st) (nn := 3) 10 M_Trm_grow hc ok_Trm_grow rfl (by decide) rfl hk ml_Trm_49 im_Trm_grow se_Trm_grow ⟨hr1, hr2⟩ rfl ⟨hb1, hb2⟩ hst rfl d_Trm_costOf_10 (fun r σ' h => by obtain ⟨x, rfl, h⟩ := h; exact kk x σ' h) kx
theorem c_Trm_costOf_24 {Ω : Om} {R R' : Room} {F : QF} {k n : Nat} {L st : List PV} {σ : Sto} {QX' : String → Sto → Prop} {Q : Int → Sto → Prop} {a : Nat} {x0 : Option Nat} {x1 : Option Nat} {x2 : Option Nat} (hc : MC Ω M_Trm_grow R' (RI Q) QX' σ [xr (some a), xr x0, xr x1, xr x2]) (hk : sK σ a = 11) (hr1 : R'.frames + 1 ≤ R.frames) (hr2 : 8 + (9 + 11) + R'.locals ≤ R.locals) (hb1 : k + R'.cells ≤ R.cells) (hb2 : n + R'.slots ≤ R.slots) (hst : (st.map catP).sum ≤ 8) (kk : ∀ x σ', Q x σ' → Aw Ω M_Trm_costOf R F (k + R'.cells) (n + R'.slots) 27 L (xi x :: st) σ') (kx : ∀ E σ', QX' E σ' → Ax Ω M_Trm_costOf R F (k + R'.cells) (n + R'.slots) 24 L st σ' E) : Aw Ω M_Trm_costOf R F k n 24 L (xr x2 :: xr x1 :: xr x0 :: xr (some a) :: st) σ :=
  Aw.callV (As := [xr x0, xr x1, xr x2]) (stk := xr x2 :: xr x1 :: xr x0 :: xr (some a) :: st) (nn := 3) 10 M_Trm_grow hc ok_Trm_grow rfl (by decide) rfl hk ml_Trm_49 im_Trm_grow se_Trm_grow ⟨hr1, hr2⟩ rfl ⟨hb1, hb2⟩ hst rfl d_Trm_costOf_24 (fun r σ' h => by obtain ⟨x, rfl, h⟩ := h; exact kk x σ' h) kx
theorem c_Trm_costOf_55 {Ω : Om} {R R' : Room} {F : QF} {k n : Nat} {L st : List PV} {σ : Sto} {QX' : String → Sto → Prop} {Q : Int → Sto → Prop} {x0 : Option Nat} {x1 : Int} {x2 : Int} (hc : MC Ω M_Trm_isLastOf R' (RI Q) QX' σ [xr x0, xi x1, xi x2]) (hr1 : R'.frames + 1 ≤ R.frames) (hr2 : 8 + (4 + 11) + R'.locals ≤ R.locals) (hb1 : k + R'.cells ≤ R.cells) (hb2 : n + R'.slots ≤ R.slots) (hst : (st.map catP).sum ≤ 8) (kk : ∀ x σ', Q x σ' → Aw Ω M_Trm_costOf R F (k + R'.cells) (n + R'.slots) 58 L (xi x :: st) σ') (kx : ∀ E σ', QX' E σ' → Ax Ω M_Trm_costOf R F (k + R'.cells) (n + R'.slots) 55 L st σ' E) : Aw Ω M_Trm_costOf R F k n 55 L (xi x2 :: xi x1 :: xr x0 :: st) σ :=
  Aw.callS (As := [xr x0, xi x1, xi x2]) (stk := xi x2 :: xi x1 :: xr x0 :: st) (nn := 3) M_Trm_isLastOf hc ok_Trm_isLastOf rfl ml_Trm_53 sta_Trm_isLastOf ⟨hr1, hr2⟩ rfl ⟨hb1, hb2⟩ hst rfl d_Trm_costOf_55 (fun r σ' h => by obtain ⟨x, rfl, h⟩ := h; exact kk x σ' h) kx
theorem c_Trm_costOf_69 {Ω : Om} {R R' : Room} {F : QF} {k n : Nat} {L st : List PV} {σ : Sto} {QX' : String → Sto → Prop} {Q : Int → Sto → Prop} {x0 : Option Nat} {x1 : Int} {x2 : Int} (hc : MC Ω M_Trm_isLastOf R' (RI Q) QX' σ [xr x0, xi x1, xi x2]) (hr1 : R'.frames + 1 ≤ R.frames) (hr2 : 8 + (4 + 11) + R'.locals ≤ R.locals) (hb1 : k + R'.cells ≤ R.cells) (hb2 : n + R'.slots ≤ R.slots) (hst : (st.map catP).sum ≤ 8) (kk : ∀ x σ', Q x σ' → Aw Ω M_Trm_costOf R F (k + R'.cells) (n + R'.slots) 72 L (xi x :: st) σ') (kx : ∀ E σ', QX' E σ' → Ax Ω M_Trm_costOf R F (k + R'.cells) (n + R'.slots) 69 L st σ' E) : Aw Ω M_Trm_costOf R F k n 69 L (xi x2 :: xi x1 :: xr x0 :: st) σ :=
  Aw.callS (As := [xr x0, xi x1, xi x2]) (stk := xi x2 :: xi x1 :: xr x0 :: st) (nn := 3) M_Trm_isLastOf hc ok_Trm_isLastOf rfl ml_Trm_53 sta_Trm_isLastOf ⟨hr1, hr2⟩ rfl ⟨hb1, hb2⟩ hst rfl d_Trm_costOf_69 (fun r σ' h => by obtain ⟨x, rfl, h⟩ := h; exact kk x σ' h) kx
theorem c_Trm_costOf_80 {Ω : Om} {R R' : Room} {F : QF} {k n : Nat} {L st : List PV} {σ : Sto} {QX' : String → Sto → Prop} {Q : Sto → Prop} {a : Nat} {x0 : Int} {x1 : Int} (hc : MC Ω M_Trm_weigh R' (RV Q) QX' σ [xr (some a), xi x0, xi x1]) (hk : sK σ a = 11) (hr1 : R'.frames + 1 ≤ R.frames) (hr2 : 8 + (7 + 11) + R'.locals ≤ R.locals) (hb1 : k + R'.cells ≤ R.cells) (hb2 : n + R'.slots ≤ R.slots) (hst : (st.map catP).sum ≤ 8) (kk : ∀ σ', Q σ' → Aw Ω M_Trm_costOf R F (k + R'.cells) (n + R'.slots) 83 L st σ') (kx : ∀ E σ', QX' E σ' → Ax Ω M_Trm_costOf R F (k + R'.cells) (n + R'.slots) 80 L st σ' E) : Aw Ω M_Trm_costOf R F k n 80 L (xi x1 :: xi x0 :: xr (some a) :: st) σ :=
  Aw.callV (As := [xi x0, xi x1]) (stk := xi x1 :: xi x0 :: xr (some a) :: st) (nn := 2) 10 M_Trm_weigh hc ok_Trm_weigh rfl (by decide) rfl hk ml_Trm_57 im_Trm_weigh se_Trm_weigh ⟨hr1, hr2⟩ rfl ⟨hb1, hb2⟩ hst rfl d_Trm_costOf_80 (fun r σ' h => by obtain ⟨rfl, h⟩ := h; exact kk σ' h) kx
theorem r_Trm_costOf_104 {Ω : Om} {R : Room} {k n : Nat} {L : List PV} {σ : Sto} {QR : Option PV → Sto → Prop} {QX : String → Sto → Prop} {x : Int} (h : QR (some (xi x)) σ) (h1 : k ≤ R.cells) (h2 : n ≤ R.slots) : Aw Ω M_Trm_costOf R (MF Ω R QR QX) k n 104 L [xi x] σ := Aw.iret rfl h h1 h2 d_Trm_costOf_104
theorem e_Trm_grow {Ω : Om} {R : Room} {QR : Option PV → Sto → Prop} {QX : String → Sto → Prop} {σ : Sto} {a0 : Nat} {a1 : Nat} {a2 : Nat} {a3 : Nat} (h : Aw Ω M_Trm_grow R (MF Ω R QR QX) 0 0 0 [xr (some a0), xr (some a1), xr (some a2), xr (some a3), xu, xu, xu, xu, xu] [] σ) : MC Ω M_Trm_grow R QR QX σ [xr (some a0), xr (some a1), xr (some a2), xr (some a3)] := MC.body (by decide +kernel) rfl (Nat.le_of_ble_eq_true rfl) rfl h
theorem b_Trm_grow_0 {Ω : Om} {R : Room} {F : QF} {k n : Nat} {σ : Sto} {a0 : Nat} {a1 : Nat} {a2 : Nat} {a3 : Nat} (h : sK σ a0 = 11 ∧ Aw Ω M_Trm_grow R F k n 13 [xr (some a0), xr (some a1), xr (some a2), xr (some a3), xu, xu, xu, xu, xu] [xl 0, xi (-1), xr (some a0)] (uI (uI σ 649 a0 0) 650 a0 0)) : Aw Ω M_Trm_grow R F k n 0 [xr (some a0), xr (some a1), xr (some a2), xr (some a3), xu, xu, xu, xu, xu] [] σ := by
  refine Aw.aload_n rfl d_Trm_grow_0 ?_
  refine Aw.iconst d_Trm_grow_1 ?_
  obtain ⟨o1, h⟩ := h
  refine Aw.putI (f := 649) 10 9 fl_Trm_42 (by decide) (by decide) rfl rfl o1 rfl ⟨by decide, by decide⟩ (Or.inl rfl) d_Trm_grow_2 ?_
  refine Aw.aload_n rfl d_Trm_grow_5 ?_
  refine Aw.iconst d_Trm_grow_6 ?_
  refine Aw.putI (f := 650) 10 10 fl_Trm_46 (by decide) (by decide) rfl rfl o1 rfl ⟨by decide, by decide⟩ (Or.inl rfl) d_Trm_grow_7 ?_
  refine Aw.aload_n rfl d_Trm_grow_10 ?_
  refine Aw.iconst d_Trm_grow_11 ?_
  refine Aw.lconst (w := 0) (by decide) d_Trm_grow_12 ?_
  exact h
theorem b_Trm_grow_16 {Ω : Om} {R : Room} {F : QF} {k n : Nat} {σ : Sto} {a0 : Nat} {a1 : Nat} {a2 : Nat} {a3 : Nat} (h : Aw Ω M_Trm_grow R F k n 17 [xr (some a0), xr (some a1), xr (some a2), xr (some a3), xu, xu, xu, xu, xu] [xr (some a1)] σ) : Aw Ω M_Trm_grow R F k n 16 [xr (some a0), xr (some a1), xr (some a2), xr (some a3), xu, xu, xu, xu, xu] [] σ := by
  refine Aw.aload_n rfl d_Trm_grow_16 ?_
  exact h
theorem b_Trm_grow_20 {Ω : Om} {R : Room} {F : QF} {k n : Nat} {σ : Sto} {a0 : Nat} {a1 : Nat} {a2 : Nat} {a3 : Nat} {s0 : Int} (h : Q32 s0 ∧ Q32 20 ∧ 1 ≤ R.frames ∧ ([].map catP).sum + 13 ≤ R.locals ∧ k ≤ R.cells ∧ n ≤ R.slots ∧ Aw Ω M_Trm_grow R F k n 30 [xr (some a0), xr (some a1), xr (some a2), xr (some a3), xi (minI s0 20), xi 0, xu, xu, xu] [] σ) : Aw Ω M_Trm_grow R F k n 20 [xr (some a0), xr (some a1), xr (some a2), xr (some a3), xu, xu, xu, xu, xu] [xi s0] σ := by
  refine Aw.bipush (by decide) d_Trm_grow_20 ?_
  obtain ⟨o1, o2, o3, o4, o5, o6, h⟩ := h
  refine Aw.mmin o1 o2 ml_Trm_71 mth_min_1 mth_ini mth_min_2 o3 o4 o5 o6 d_Trm_grow_22 ?_
  refine Aw.istore (by decide) d_Trm_grow_25 ?_
  refine Aw.toL (L' := [xr (some a0), xr (some a1), xr (some a2), xr (some a3), xi (minI s0 20), xu, xu, xu, xu]) rfl ?_
  refine Aw.iconst d_Trm_grow_27 ?_
  refine Aw.istore (by decide) d_Trm_grow_28 ?_
  refine Aw.toL (L' := [xr (some a0), xr (some a1), xr (some a2), xr (some a3), xi (minI s0 20), xi 0, xu, xu, xu]) rfl ?_
  exact h
theorem b_Trm_grow_30 {Ω : Om} {R : Room} {F : QF} {k n : Nat} {σ : Sto} {a0 : Nat} {a1 : Nat} {a2 : Nat} {a3 : Nat} {v4 : Int} {v5 : Int} (h : Q32 v5 ∧ Q32 v4 ∧ ((v4 ≤ v5 → Aw Ω M_Trm_grow R F k n 84 [xr (some a0), xr (some a1), xr (some a2), xr (some a3), xi v4, xi v5, xu, xu, xu] [xr (some a3), xr (some a2), xi (-1), xr (some a0)] σ) ∧ (¬ v4 ≤ v5 → Aw Ω M_Trm_grow R F k n 40 [xr (some a0), xr (some a1), xr (some a2), xr (some a3), xi v4, xi v5, xu, xu, xu] [xi v5, xr (some a1)] σ))) : Aw Ω M_Trm_grow R F k n 30 [xr (some a0), xr (some a1), xr (some a2), xr (some a3), xi v4, xi v5, xu, xu, xu] [] σ := by
  refine Aw.iload rfl d_Trm_grow_30 ?_
  refine Aw.iload rfl d_Trm_grow_32 ?_
  obtain ⟨o1, h⟩ := h
  obtain ⟨o2, h⟩ := h
  obtain ⟨ht, hf⟩ := h
  refine Aw.icmp_ge (tgt := 80) o1 o2 (by decide) d_Trm_grow_34 (fun c3 => ?_) (fun c3 => ?_)
  · have h := ht c3
    refine Aw.aload_n rfl d_Trm_grow_80 ?_
    refine Aw.iconst d_Trm_grow_81 ?_
    refine Aw.aload_n rfl d_Trm_grow_82 ?_
    refine Aw.aload_n rfl d_Trm_grow_83 ?_
    exact h
  · have h := hf c3
    refine Aw.aload_n rfl d_Trm_grow_37 ?_
    refine Aw.iload rfl d_Trm_grow_38 ?_
    exact h
theorem b_Trm_grow_43 {Ω : Om} {R : Room} {F : QF} {k n : Nat} {σ : Sto} {a0 : Nat} {a1 : Nat} {a2 : Nat} {a3 : Nat} {v4 : Int} {v5 : Int} {s0 : Int64} (h : Aw Ω M_Trm_grow R F k n 47 [xr (some a0), xr (some a1), xr (some a2), xr (some a3), xi v4, xi v5, xl s0, xu, xu] [xl s0] σ) : Aw Ω M_Trm_grow R F k n 43 [xr (some a0), xr (some a1), xr (some a2), xr (some a3), xi v4, xi v5, xu, xu, xu] [xl s0] σ := by
  refine Aw.lstore (by decide) d_Trm_grow_43 ?_
  refine Aw.toL (L' := [xr (some a0), xr (some a1), xr (some a2), xr (some a3), xi v4, xi v5, xl s0, xu, xu]) rfl ?_
  refine Aw.lload rfl d_Trm_grow_45 ?_
  exact h
theorem b_Trm_grow_50 {Ω : Om} {R : Room} {F : QF} {k n : Nat} {σ : Sto} {a0 : Nat} {a1 : Nat} {a2 : Nat} {a3 : Nat} {v4 : Int} {v5 : Int} {v6 : Int64} {s0 : Int} (h : Aw Ω M_Trm_grow R F k n 57 [xr (some a0), xr (some a1), xr (some a2), xr (some a3), xi v4, xi v5, xl v6, xu, xi s0] [xr (some a3), xr (some a2), xi s0, xr (some a0)] σ) : Aw Ω M_Trm_grow R F k n 50 [xr (some a0), xr (some a1), xr (some a2), xr (some a3), xi v4, xi v5, xl v6, xu, xu] [xi s0] σ := by
  refine Aw.istore (by decide) d_Trm_grow_50 ?_
  refine Aw.toL (L' := [xr (some a0), xr (some a1), xr (some a2), xr (some a3), xi v4, xi v5, xl v6, xu, xi s0]) rfl ?_
  refine Aw.aload_n rfl d_Trm_grow_52 ?_
  refine Aw.iload rfl d_Trm_grow_53 ?_
  refine Aw.aload_n rfl d_Trm_grow_55 ?_
  refine Aw.aload_n rfl d_Trm_grow_56 ?_
  exact h
theorem b_Trm_grow_60 {Ω : Om} {R : Room} {F : QF} {k n : Nat} {σ : Sto} {a0 : Nat} {a1 : Nat} {a2 : Nat} {a3 : Nat} {v4 : Int} {v5 : Int} {v6 : Int64} {v8 : Int} (h : Aw Ω M_Trm_grow R F k n 71 [xr (some a0), xr (some a1), xr (some a2), xr (some a3), xi v4, xi v5, xl v6, xu, xi v8] [xl (lUsh v6 (8 * v8)), xi v8, xr (some a0)] σ) : Aw Ω M_Trm_grow R F k n 60 [xr (some a0), xr (some a1), xr (some a2), xr (some a3), xi v4, xi v5, xl v6, xu, xi v8] [] σ := by
  refine Aw.aload_n rfl d_Trm_grow_60 ?_
  refine Aw.iload rfl d_Trm_grow_61 ?_
  refine Aw.lload rfl d_Trm_grow_63 ?_
  refine Aw.bipush (by decide) d_Trm_grow_65 ?_
  refine Aw.iload rfl d_Trm_grow_67 ?_
  refine Aw.imul d_Trm_grow_69 ?_
  refine Aw.lushr d_Trm_grow_70 ?_
  exact h
theorem b_Trm_grow_74 {Ω : Om} {R : Room} {F : QF} {k n : Nat} {σ : Sto} {a0 : Nat} {a1 : Nat} {a2 : Nat} {a3 : Nat} {v4 : Int} {v5 : Int} {v6 : Int64} {v8 : Int} (h : Aw Ω M_Trm_grow R F k n 30 [xr (some a0), xr (some a1), xr (some a2), xr (some a3), xi v4, xi (v5 + 1), xu, xu, xu] [] σ) : Aw Ω M_Trm_grow R F k n 74 [xr (some a0), xr (some a1), xr (some a2), xr (some a3), xi v4, xi v5, xl v6, xu, xi v8] [] σ := by
  refine Aw.iinc rfl d_Trm_grow_74 ?_
  refine Aw.toL (L' := [xr (some a0), xr (some a1), xr (some a2), xr (some a3), xi v4, xi (v5 + 1), xl v6, xu, xi v8]) rfl ?_
  refine Aw.goto (tgt := 30) (by decide) d_Trm_grow_77 ?_
  exact Aw.toW (L' := [xr (some a0), xr (some a1), xr (some a2), xr (some a3), xi v4, xi (v5 + 1), xu, xu, xu]) ⟨Or.inr rfl, Or.inr rfl, Or.inr rfl, Or.inr rfl, Or.inr rfl, Or.inr rfl, Or.inl rfl, Or.inr rfl, Or.inl rfl, trivial⟩ h
theorem b_Trm_grow_87 {Ω : Om} {R : Room} {F : QF} {k n : Nat} {σ : Sto} {a0 : Nat} {a1 : Nat} {a2 : Nat} {a3 : Nat} {v4 : Int} {v5 : Int} (h : sK σ a0 = 11 ∧ (Q32 (fI σ 650 a0) → Aw Ω M_Trm_grow R F k n 91 [xr (some a0), xr (some a1), xr (some a2), xr (some a3), xi v4, xi v5, xu, xu, xu] [xi (fI σ 650 a0)] σ)) : Aw Ω M_Trm_grow R F k n 87 [xr (some a0), xr (some a1), xr (some a2), xr (some a3), xi v4, xi v5, xu, xu, xu] [] σ := by
  refine Aw.aload_n rfl d_Trm_grow_87 ?_
  obtain ⟨o1, h⟩ := h
  refine Aw.getI (f := 650) 10 10 fl_Trm_46 (by decide) (by decide) rfl rfl o1 d_Trm_grow_88 (fun r2 => ?_)
  have h := h r2
  exact h
theorem c_Trm_grow_13 {Ω : Om} {R R' : Room} {F : QF} {k n : Nat} {L st : List PV} {σ : Sto} {QX' : String → Sto → Prop} {Q : Sto → Prop} {a : Nat} {x0 : Int} {x1 : Int64} (hc : MC Ω M_Trm_openNode R' (RV Q) QX' σ [xr (some a), xi x0, xl x1]) (hk : sK σ a = 11) (hr1 : R'.frames + 1 ≤ R.frames) (hr2 : 8 + (4 + 11) + R'.locals ≤ R.locals) (hb1 : k + R'.cells ≤ R.cells) (hb2 : n + R'.slots ≤ R.slots) (hst : (st.map catP).sum ≤ 8) (kk : ∀ σ', Q σ' → Aw Ω M_Trm_grow R F (k + R'.cells) (n + R'.slots) 16 L st σ') (kx : ∀ E σ', QX' E σ' → Ax Ω M_Trm_grow R F (k + R'.cells) (n + R'.slots) 13 L st σ' E) : Aw Ω M_Trm_grow R F k n 13 L (xl x1 :: xi x0 :: xr (some a) :: st) σ :=
  Aw.callV (As := [xi x0, xl x1]) (stk := xl x1 :: xi x0 :: xr (some a) :: st) (nn := 2) 10 M_Trm_openNode hc ok_Trm_openNode rfl (by decide) rfl hk ml_Trm_61 im_Trm_openNode se_Trm_openNode ⟨hr1, hr2⟩ rfl ⟨hb1, hb2⟩ hst rfl d_Trm_grow_13 (fun r σ' h => by obtain ⟨rfl, h⟩ := h; exact kk σ' h) kx
theorem c_Trm_grow_17 {Ω : Om} {R R' : Room} {F : QF} {k n : Nat} {L st : List PV} {σ : Sto} {QX' : String → Sto → Prop} {Q : Int → Sto → Prop} {a : Nat} (hc : MC Ω M_Txt_size R' (RI Q) QX' σ [xr (some a)]) (hk : sK σ a = 10) (hr1 : R'.frames + 1 ≤ R.frames) (hr2 : 8 + (1 + 11) + R'.locals ≤ R.locals) (hb1 : k + R'.cells ≤ R.cells) (hb2 : n + R'.slots ≤ R.slots) (hst : (st.map catP).sum ≤ 8) (kk : ∀ x σ', Q x σ' → Aw Ω M_Trm_grow R F (k + R'.cells) (n + R'.slots) 20 L (xi x :: st) σ') (kx : ∀ E σ', QX' E σ' → Ax Ω M_Trm_grow R F (k + R'.cells) (n + R'.slots) 17 L st σ' E) : Aw Ω M_Trm_grow R F k n 17 L (xr (some a) :: st) σ :=
  Aw.callV (As := []) (stk := xr (some a) :: st) (nn := 0) 9 M_Txt_size hc ok_Txt_size rfl (by decide) rfl hk ml_Trm_65 im_Txt_size se_Txt_size ⟨hr1, hr2⟩ rfl ⟨hb1, hb2⟩ hst rfl d_Trm_grow_17 (fun r σ' h => by obtain ⟨x, rfl, h⟩ := h; exact kk x σ' h) kx
theorem c_Trm_grow_40 {Ω : Om} {R R' : Room} {F : QF} {k n : Nat} {L st : List PV} {σ : Sto} {QX' : String → Sto → Prop} {Q : Int64 → Sto → Prop} {a : Nat} {x0 : Int} (hc : MC Ω M_Txt_lineAt R' (RL Q) QX' σ [xr (some a), xi x0]) (hk : sK σ a = 10) (hr1 : R'.frames + 1 ≤ R.frames) (hr2 : 8 + (2 + 11) + R'.locals ≤ R.locals) (hb1 : k + R'.cells ≤ R.cells) (hb2 : n + R'.slots ≤ R.slots) (hst : (st.map catP).sum ≤ 8) (kk : ∀ x σ', Q x σ' → Aw Ω M_Trm_grow R F (k + R'.cells) (n + R'.slots) 43 L (xl x :: st) σ') (kx : ∀ E σ', QX' E σ' → Ax Ω M_Trm_grow R F (k + R'.cells) (n + R'.slots) 40 L st σ' E) : Aw Ω M_Trm_grow R F k n 40 L (xi x0 :: xr (some a) :: st) σ :=
  Aw.callV (As := [xi x0]) (stk := xi x0 :: xr (some a) :: st) (nn := 1) 9 M_Txt_lineAt hc ok_Txt_lineAt rfl (by decide) rfl hk ml_Trm_77 im_Txt_lineAt se_Txt_lineAt ⟨hr1, hr2⟩ rfl ⟨hb1, hb2⟩ hst rfl d_Trm_grow_40 (fun r σ' h => by obtain ⟨x, rfl, h⟩ := h; exact kk x σ' h) kx
theorem c_Trm_grow_47 {Ω : Om} {R R' : Room} {F : QF} {k n : Nat} {L st : List PV} {σ : Sto} {QX' : String → Sto → Prop} {Q : Int → Sto → Prop} {x0 : Int64} (hc : MC Ω M_Lbk_depthOf R' (RI Q) QX' σ [xl x0]) (hr1 : R'.frames + 1 ≤ R.frames) (hr2 : 8 + (3 + 11) + R'.locals ≤ R.locals) (hb1 : k + R'.cells ≤ R.cells) (hb2 : n + R'.slots ≤ R.slots) (hst : (st.map catP).sum ≤ 8) (kk : ∀ x σ', Q x σ' → Aw Ω M_Trm_grow R F (k + R'.cells) (n + R'.slots) 50 L (xi x :: st) σ') (kx : ∀ E σ', QX' E σ' → Ax Ω M_Trm_grow R F (k + R'.cells) (n + R'.slots) 47 L st σ' E) : Aw Ω M_Trm_grow R F k n 47 L (xl x0 :: st) σ :=
  Aw.callS (As := [xl x0]) (stk := xl x0 :: st) (nn := 1) M_Lbk_depthOf hc ok_Lbk_depthOf rfl ml_Trm_81 sta_Lbk_depthOf ⟨hr1, hr2⟩ rfl ⟨hb1, hb2⟩ hst rfl d_Trm_grow_47 (fun r σ' h => by obtain ⟨x, rfl, h⟩ := h; exact kk x σ' h) kx
theorem c_Trm_grow_57 {Ω : Om} {R R' : Room} {F : QF} {k n : Nat} {L st : List PV} {σ : Sto} {QX' : String → Sto → Prop} {Q : Sto → Prop} {a : Nat} {x0 : Int} {x1 : Option Nat} {x2 : Option Nat} (hc : MC Ω M_Trm_closeTo R' (RV Q) QX' σ [xr (some a), xi x0, xr x1, xr x2]) (hk : sK σ a = 11) (hr1 : R'.frames + 1 ≤ R.frames) (hr2 : 8 + (4 + 11) + R'.locals ≤ R.locals) (hb1 : k + R'.cells ≤ R.cells) (hb2 : n + R'.slots ≤ R.slots) (hst : (st.map catP).sum ≤ 8) (kk : ∀ σ', Q σ' → Aw Ω M_Trm_grow R F (k + R'.cells) (n + R'.slots) 60 L st σ') (kx : ∀ E σ', QX' E σ' → Ax Ω M_Trm_grow R F (k + R'.cells) (n + R'.slots) 57 L st σ' E) : Aw Ω M_Trm_grow R F k n 57 L (xr x2 :: xr x1 :: xi x0 :: xr (some a) :: st) σ :=
  Aw.callV (As := [xi x0, xr x1, xr x2]) (stk := xr x2 :: xr x1 :: xi x0 :: xr (some a) :: st) (nn := 3) 10 M_Trm_closeTo hc ok_Trm_closeTo rfl (by decide) rfl hk ml_Trm_87 im_Trm_closeTo se_Trm_closeTo ⟨hr1, hr2⟩ rfl ⟨hb1, hb2⟩ hst rfl d_Trm_grow_57 (fun r σ' h => by obtain ⟨rfl, h⟩ := h; exact kk σ' h) kx
theorem c_Trm_grow_71 {Ω : Om} {R R' : Room} {F : QF} {k n : Nat} {L st : List PV} {σ : Sto} {QX' : String → Sto → Prop} {Q : Sto → Prop} {a : Nat} {x0 : Int} {x1 : Int64} (hc : MC Ω M_Trm_openNode R' (RV Q) QX' σ [xr (some a), xi x0, xl x1]) (hk : sK σ a = 11) (hr1 : R'.frames + 1 ≤ R.frames) (hr2 : 8 + (4 + 11) + R'.locals ≤ R.locals) (hb1 : k + R'.cells ≤ R.cells) (hb2 : n + R'.slots ≤ R.slots) (hst : (st.map catP).sum ≤ 8) (kk : ∀ σ', Q σ' → Aw Ω M_Trm_grow R F (k + R'.cells) (n + R'.slots) 74 L st σ') (kx : ∀ E σ', QX' E σ' → Ax Ω M_Trm_grow R F (k + R'.cells) (n + R'.slots) 71 L st σ' E) : Aw Ω M_Trm_grow R F k n 71 L (xl x1 :: xi x0 :: xr (some a) :: st) σ :=
  Aw.callV (As := [xi x0, xl x1]) (stk := xl x1 :: xi x0 :: xr (some a) :: st) (nn := 2) 10 M_Trm_openNode hc ok_Trm_openNode rfl (by decide) rfl hk ml_Trm_61 im_Trm_openNode se_Trm_openNode ⟨hr1, hr2⟩ rfl ⟨hb1, hb2⟩ hst rfl d_Trm_grow_71 (fun r σ' h => by obtain ⟨rfl, h⟩ := h; exact kk σ' h) kx
theorem c_Trm_grow_84 {Ω : Om} {R R' : Room} {F : QF} {k n : Nat} {L st : List PV} {σ : Sto} {QX' : String → Sto → Prop} {Q : Sto → Prop} {a : Nat} {x0 : Int} {x1 : Option Nat} {x2 : Option Nat} (hc : MC Ω M_Trm_closeTo R' (RV Q) QX' σ [xr (some a), xi x0, xr x1, xr x2]) (hk : sK σ a = 11) (hr1 : R'.frames + 1 ≤ R.frames) (hr2 : 8 + (4 + 11) + R'.locals ≤ R.locals) (hb1 : k + R'.cells ≤ R.cells) (hb2 : n + R'.slots ≤ R.slots) (hst : (st.map catP).sum ≤ 8) (kk : ∀ σ', Q σ' → Aw Ω M_Trm_grow R F (k + R'.cells) (n + R'.slots) 87 L st σ') (kx : ∀ E σ', QX' E σ' → Ax Ω M_Trm_grow R F (k + R'.cells) (n + R'.slots) 84 L st σ' E) : Aw Ω M_Trm_grow R F k n 84 L (xr x2 :: xr x1 :: xi x0 :: xr (some a) :: st) σ :=
  Aw.callV (As := [xi x0, xr x1, xr x2]) (stk := xr x2 :: xr x1 :: xi x0 :: xr (some a) :: st) (nn := 3) 10 M_Trm_closeTo hc ok_Trm_closeTo rfl (by decide) rfl hk ml_Trm_87 im_Trm_closeTo se_Trm_closeTo ⟨hr1, hr2⟩ rfl ⟨hb1, hb2⟩ hst rfl d_Trm_grow_84 (fun r σ' h => by obtain ⟨rfl, h⟩ := h; exact kk σ' h) kx
theorem r_Trm_grow_91 {Ω : Om} {R : Room} {k n : Nat} {L : List PV} {σ : Sto} {QR : Option PV → Sto → Prop} {QX : String → Sto → Prop} {x : Int} (h : QR (some (xi x)) σ) (h1 : k ≤ R.cells) (h2 : n ≤ R.slots) : Aw Ω M_Trm_grow R (MF Ω R QR QX) k n 91 L [xi x] σ := Aw.iret rfl h h1 h2 d_Trm_grow_91
theorem e_Trm_init {Ω : Om} {R : Room} {QR : Option PV → Sto → Prop} {QX : String → Sto → Prop} {σ : Sto} {a0 : Nat} (h : Aw Ω M_Trm_init R (MF Ω R QR QX) 0 0 0 [xr (some a0)] [] σ) : MC Ω M_Trm_init R QR QX σ [xr (some a0)] := MC.body (by decide +kernel) rfl (Nat.le_of_ble_eq_true rfl) rfl h
theorem b_Trm_init_0 {Ω : Om} {R : Room} {F : QF} {k n : Nat} {σ : Sto} {a0 : Nat} (h : 1 ≤ R.frames ∧ ([].map catP).sum + 12 ≤ R.locals ∧ k + 1 ≤ R.cells ∧ n + 22 ≤ R.slots ∧ (∀ σ7 : Sto, σ7 = (nO σ 51 22) → sK σ7 a0 = 11 ∧ k + 1 + 1 ≤ R.cells ∧ n + 22 + 22 ≤ R.slots ∧ (∀ σ13 : Sto, σ13 = (nO (uR σ7 640 a0 (some (sN σ))) 51 22) → sK σ13 a0 = 11 ∧ k + 1 + 1 + 1 ≤ R.cells ∧ n + 22 + 22 + 22 ≤ R.slots ∧ (∀ σ19 : Sto, σ19 = (nO (uR σ13 641 a0 (some (sN σ7))) 50 22) → sK σ19 a0 = 11 ∧ k + 1 + 1 + 1 + 1 ≤ R.cells ∧ n + 22 + 22 + 22 + 22 ≤ R.slots ∧ (∀ σ25 : Sto, σ25 = (nO (uR σ19 642 a0 (some (sN σ13))) 50 22) → sK σ25 a0 = 11 ∧ Aw Ω M_Trm_init R F (k + 1 + 1 + 1 + 1) (n + 22 + 22 + 22 + 22) 41 [xr (some a0)] [xi 22, xi 22, xr (some a0)] (uR σ25 643 a0 (some (sN σ19)))))))) : Aw Ω M_Trm_init R F k n 0 [xr (some a0)] [] σ := by
  refine Aw.aload_n rfl d_Trm_init_0 ?_
  obtain ⟨o1, o2, h⟩ := h
  refine Aw.objInit ml_Trm_3 oi_1 oi_2 o1 o2 d_Trm_init_1 ?_
  refine Aw.aload_n rfl d_Trm_init_4 ?_
  refine Aw.bipush (by decide) d_Trm_init_5 ?_
  obtain ⟨o5, o6, h⟩ := h
  refine Aw.newarr 1 (by decide) rfl arc_1 (by decide) (by decide) o5 o6 d_Trm_init_7 ?_
  obtain ⟨σ7, hσ7⟩ : ∃ z, z = (nO σ 51 22) := ⟨_, rfl⟩
  refine Aw.toS (σ' := σ7) hσ7 ?_
  have h := h σ7 hσ7
  obtain ⟨o8, h⟩ := h
  refine Aw.putRF (f := 640) 10 0 fm_Trm_11 (by decide) (by decide) rfl rfl o8 rfl rfl rfl rfl d_Trm_init_9 ?_
  refine Aw.aload_n rfl d_Trm_init_12 ?_
  refine Aw.bipush (by decide) d_Trm_init_13 ?_
  obtain ⟨o11, o12, h⟩ := h
  refine Aw.newarr 1 (by decide) rfl arc_1 (by decide) (by decide) o11 o12 d_Trm_init_15 ?_
  obtain ⟨σ13, hσ13⟩ : ∃ z, z = (nO (uR σ7 640 a0 (some (sN σ))) 51 22) := ⟨_, rfl⟩
  refine Aw.toS (σ' := σ13) hσ13 ?_
  have h := h σ13 hσ13
  obtain ⟨o14, h⟩ := h
  refine Aw.putRF (f := 641) 10 1 fm_Trm_15 (by decide) (by decide) rfl rfl o14 rfl rfl rfl rfl d_Trm_init_17 ?_
  refine Aw.aload_n rfl d_Trm_init_20 ?_
  refine Aw.bipush (by decide) d_Trm_init_21 ?_
  obtain ⟨o17, o18, h⟩ := h
  refine Aw.newarr 0 (by decide) rfl arc_0 (by decide) (by decide) o17 o18 d_Trm_init_23 ?_
  obtain ⟨σ19, hσ19⟩ : ∃ z, z = (nO (uR σ13 641 a0 (some (sN σ7))) 50 22) := ⟨_, rfl⟩
  refine Aw.toS (σ' := σ19) hσ19 ?_
  have h := h σ19 hσ19
  obtain ⟨o20, h⟩ := h
  refine Aw.putRF (f := 642) 10 2 fm_Trm_18 (by decide) (by decide) rfl rfl o20 rfl rfl rfl rfl d_Trm_init_25 ?_
  refine Aw.aload_n rfl d_Trm_init_28 ?_
  refine Aw.bipush (by decide) d_Trm_init_29 ?_
  obtain ⟨o23, o24, h⟩ := h
  refine Aw.newarr 0 (by decide) rfl arc_0 (by decide) (by decide) o23 o24 d_Trm_init_31 ?_
  obtain ⟨σ25, hσ25⟩ : ∃ z, z = (nO (uR σ19 642 a0 (some (sN σ13))) 50 22) := ⟨_, rfl⟩
  refine Aw.toS (σ' := σ25) hσ25 ?_
  have h := h σ25 hσ25
  obtain ⟨o26, h⟩ := h
  refine Aw.putRF (f := 643) 10 3 fm_Trm_22 (by decide) (by decide) rfl rfl o26 rfl rfl rfl rfl d_Trm_init_33 ?_
  refine Aw.aload_n rfl d_Trm_init_36 ?_
  refine Aw.bipush (by decide) d_Trm_init_37 ?_
  refine Aw.bipush (by decide) d_Trm_init_39 ?_
  exact h
theorem b_Trm_init_45 {Ω : Om} {R : Room} {F : QF} {k n : Nat} {σ : Sto} {a0 : Nat} {s0 : Nat} {s1 : Nat} (h : sK σ s0 = 11 ∧ Aw Ω M_Trm_init R F k n 53 [xr (some a0)] [xi 22, xi 22, xr (some a0)] (uR σ 644 s0 (some s1))) : Aw Ω M_Trm_init R F k n 45 [xr (some a0)] [xr (some s1), xr (some s0)] σ := by
  obtain ⟨o1, h⟩ := h
  refine Aw.putRF (f := 644) 10 4 fm_Trm_27 (by decide) (by decide) rfl rfl o1 rfl rfl rfl rfl d_Trm_init_45 ?_
  refine Aw.aload_n rfl d_Trm_init_48 ?_
  refine Aw.bipush (by decide) d_Trm_init_49 ?_
  refine Aw.bipush (by decide) d_Trm_init_51 ?_
  exact h
theorem b_Trm_init_57 {Ω : Om} {R : Room} {F : QF} {k n : Nat} {σ : Sto} {a0 : Nat} {s0 : Nat} {s1 : Nat} (h : sK σ s0 = 11 ∧ k + 1 ≤ R.cells ∧ n + 22 ≤ R.slots ∧ (∀ σ6 : Sto, σ6 = (nO (uR σ 645 s0 (some s1)) 50 22) → sK σ6 a0 = 11 ∧ k + 1 + 1 ≤ R.cells ∧ n + 22 + 22 ≤ R.slots ∧ (∀ σ12 : Sto, σ12 = (nO (uR σ6 646 a0 (some (sN σ))) 51 22) → sK σ12 a0 = 11 ∧ k + 1 + 1 + 1 ≤ R.cells ∧ n + 22 + 22 + 22 ≤ R.slots ∧ (∀ σ18 : Sto, σ18 = (nO (uR σ12 647 a0 (some (sN σ6))) 50 22) → sK σ18 a0 = 11 ∧ Aw Ω M_Trm_init R F (k + 1 + 1 + 1) (n + 22 + 22 + 22) 94 [xr (some a0)] [] (uI (uI (uR σ18 648 a0 (some (sN σ12))) 649 a0 0) 650 a0 0))))) : Aw Ω M_Trm_init R F k n 57 [xr (some a0)] [xr (some s1), xr (some s0)] σ := by
  obtain ⟨o1, h⟩ := h
  refine Aw.putRF (f := 645) 10 5 fm_Trm_30 (by decide) (by decide) rfl rfl o1 rfl rfl rfl rfl d_Trm_init_57 ?_
  refine Aw.aload_n rfl d_Trm_init_60 ?_
  refine Aw.bipush (by decide) d_Trm_init_61 ?_
  obtain ⟨o4, o5, h⟩ := h
  refine Aw.newarr 0 (by decide) rfl arc_0 (by decide) (by decide) o4 o5 d_Trm_init_63 ?_
  obtain ⟨σ6, hσ6⟩ : ∃ z, z = (nO (uR σ 645 s0 (some s1)) 50 22) := ⟨_, rfl⟩
  refine Aw.toS (σ' := σ6) hσ6 ?_
  have h := h σ6 hσ6
  obtain ⟨o7, h⟩ := h
  refine Aw.putRF (f := 646) 10 6 fm_Trm_33 (by decide) (by decide) rfl rfl o7 rfl rfl rfl rfl d_Trm_init_65 ?_
  refine Aw.aload_n rfl d_Trm_init_68 ?_
  refine Aw.bipush (by decide) d_Trm_init_69 ?_
  obtain ⟨o10, o11, h⟩ := h
  refine Aw.newarr 1 (by decide) rfl arc_1 (by decide) (by decide) o10 o11 d_Trm_init_71 ?_
  obtain ⟨σ12, hσ12⟩ : ∃ z, z = (nO (uR σ6 646 a0 (some (sN σ))) 51 22) := ⟨_, rfl⟩
  refine Aw.toS (σ' := σ12) hσ12 ?_
  have h := h σ12 hσ12
  obtain ⟨o13, h⟩ := h
  refine Aw.putRF (f := 647) 10 7 fm_Trm_36 (by decide) (by decide) rfl rfl o13 rfl rfl rfl rfl d_Trm_init_73 ?_
  refine Aw.aload_n rfl d_Trm_init_76 ?_
  refine Aw.bipush (by decide) d_Trm_init_77 ?_
  obtain ⟨o16, o17, h⟩ := h
  refine Aw.newarr 0 (by decide) rfl arc_0 (by decide) (by decide) o16 o17 d_Trm_init_79 ?_
  obtain ⟨σ18, hσ18⟩ : ∃ z, z = (nO (uR σ12 647 a0 (some (sN σ6))) 50 22) := ⟨_, rfl⟩
  refine Aw.toS (σ' := σ18) hσ18 ?_
  have h := h σ18 hσ18
  obtain ⟨o19, h⟩ := h
  refine Aw.putRF (f := 648) 10 8 fm_Trm_39 (by decide) (by decide) rfl rfl o19 rfl rfl rfl rfl d_Trm_init_81 ?_
  refine Aw.aload_n rfl d_Trm_init_84 ?_
  refine Aw.iconst d_Trm_init_85 ?_
  refine Aw.putI (f := 649) 10 9 fl_Trm_42 (by decide) (by decide) rfl rfl o19 rfl ⟨by decide, by decide⟩ (Or.inl rfl) d_Trm_init_86 ?_
  refine Aw.aload_n rfl d_Trm_init_89 ?_
  refine Aw.iconst d_Trm_init_90 ?_
  refine Aw.putI (f := 650) 10 10 fl_Trm_46 (by decide) (by decide) rfl rfl o19 rfl ⟨by decide, by decide⟩ (Or.inl rfl) d_Trm_init_91 ?_
  exact h
theorem r_Trm_init_94 {Ω : Om} {R : Room} {k n : Nat} {L : List PV} {σ : Sto} {QR : Option PV → Sto → Prop} {QX : String → Sto → Prop} (h : QR none σ) (h1 : k ≤ R.cells) (h2 : n ≤ R.slots) : Aw Ω M_Trm_init R (MF Ω R QR QX) k n 94 L [] σ := Aw.vret rfl h h1 h2 d_Trm_init_94
theorem e_Trm_isLastOf {Ω : Om} {R : Room} {QR : Option PV → Sto → Prop} {QX : String → Sto → Prop} {σ : Sto} {a0 : Nat} {v1 : Int} {v2 : Int} (h : Aw Ω M_Trm_isLastOf R (MF Ω R QR QX) 0 0 0 [xr (some a0), xi v1, xi v2, xu] [] σ) : MC Ω M_Trm_isLastOf R QR QX σ [xr (some a0), xi v1, xi v2] := MC.body (by decide +kernel) rfl (Nat.le_of_ble_eq_true rfl) rfl h
theorem b_Trm_isLastOf_0 {Ω : Om} {R : Room} {F : QF} {k n : Nat} {σ : Sto} {a0 : Nat} {v1 : Int} {v2 : Int} (h : Aw Ω M_Trm_isLastOf R F k n 4 [xr (some a0), xi v1, xi v2, xi (v1 + 1)] [] σ) : Aw Ω M_Trm_isLastOf R F k n 0 [xr (some a0), xi v1, xi v2, xu] [] σ := by
  refine Aw.iload_n rfl d_Trm_isLastOf_0 ?_
  refine Aw.iconst d_Trm_isLastOf_1 ?_
  refine Aw.iadd d_Trm_isLastOf_2 ?_
  refine Aw.istore_n (by decide) d_Trm_isLastOf_3 ?_
  refine Aw.toL (L' := [xr (some a0), xi v1, xi v2, xi (v1 + 1)]) rfl ?_
  exact h
theorem b_Trm_isLastOf_4 {Ω : Om} {R : Room} {F : QF} {k n : Nat} {σ : Sto} {a0 : Nat} {v1 : Int} {v2 : Int} {v3 : Int} (h : Q32 v3 ∧ Q32 v2 ∧ ((v2 < v3 → Aw Ω M_Trm_isLastOf R F k n 27 [xr (some a0), xi v1, xi v2, xi v3] [xi 1] σ) ∧ (¬ v2 < v3 → sK σ a0 = 50 ∧ 0 ≤ v3 ∧ v3 < sZ σ a0 ∧ (Q32 (aI σ a0 (v3).toNat) → 0 ≤ v1 ∧ v1 < sZ σ a0 ∧ (Q32 (aI σ a0 (v1).toNat) → ((¬ (aI σ a0 (v3).toNat) = (aI σ a0 (v1).toNat) → Aw Ω M_Trm_isLastOf R F k n 4 [xr (some a0), xi v1, xi v2, xi (v3 + 1)] [] σ) ∧ ((aI σ a0 (v3).toNat) = (aI σ a0 (v1).toNat) → Aw Ω M_Trm_isLastOf R F k n 19 [xr (some a0), xi v1, xi v2, xi v3] [xi 0] σ))))))) : Aw Ω M_Trm_isLastOf R F k n 4 [xr (some a0), xi v1, xi v2, xi v3] [] σ := by
  refine Aw.iload_n rfl d_Trm_isLastOf_4 ?_
  refine Aw.iload_n rfl d_Trm_isLastOf_5 ?_
  obtain ⟨o1, h⟩ := h
  obtain ⟨o2, h⟩ := h
  obtain ⟨ht, hf⟩ := h
  refine Aw.icmp_gt (tgt := 26) o1 o2 (by decide) d_Trm_isLastOf_6 (fun c11 => ?_) (fun c11 => ?_)
  · have h := ht c11
    refine Aw.iconst d_Trm_isLastOf_26 ?_
    exact h
  · have h := hf c11
    refine Aw.aload_n rfl d_Trm_isLastOf_9 ?_
    refine Aw.iload_n rfl d_Trm_isLastOf_10 ?_
    obtain ⟨o3, h⟩ := h
    obtain ⟨o4, o5, h⟩ := h
    refine Aw.iald o3 o4 o5 d_Trm_isLastOf_11 (fun r6 => ?_)
    have h := h r6
    refine Aw.aload_n rfl d_Trm_isLastOf_12 ?_
    refine Aw.iload_n rfl d_Trm_isLastOf_13 ?_
    obtain ⟨o7, o8, h⟩ := h
    refine Aw.iald o3 o7 o8 d_Trm_isLastOf_14 (fun r9 => ?_)
    have h := h r9
    obtain ⟨ht, hf⟩ := h
    refine Aw.icmp_ne (tgt := 20) r6 r9 (by decide) d_Trm_isLastOf_15 (fun c10 => ?_) (fun c10 => ?_)
    · have h := ht c10
      refine Aw.iinc rfl d_Trm_isLastOf_20 ?_
      refine Aw.toL (L' := [xr (some a0), xi v1, xi v2, xi (v3 + 1)]) rfl ?_
      refine Aw.goto (tgt := 4) (by decide) d_Trm_isLastOf_23 ?_
      exact h
    · have h := hf c10
      refine Aw.iconst d_Trm_isLastOf_18 ?_
      exact h
theorem r_Trm_isLastOf_19 {Ω : Om} {R : Room} {k n : Nat} {L : List PV} {σ : Sto} {QR : Option PV → Sto → Prop} {QX : String → Sto → Prop} {x : Int} (hx : x = 0 ∨ x = 1) (h : QR (some (xi x)) σ) (h1 : k ≤ R.cells) (h2 : n ≤ R.slots) : Aw Ω M_Trm_isLastOf R (MF Ω R QR QX) k n 19 L [xi x] σ := Aw.zret rfl hx h h1 h2 d_Trm_isLastOf_19
theorem r_Trm_isLastOf_27 {Ω : Om} {R : Room} {k n : Nat} {L : List PV} {σ : Sto} {QR : Option PV → Sto → Prop} {QX : String → Sto → Prop} {x : Int} (hx : x = 0 ∨ x = 1) (h : QR (some (xi x)) σ) (h1 : k ≤ R.cells) (h2 : n ≤ R.slots) : Aw Ω M_Trm_isLastOf R (MF Ω R QR QX) k n 27 L [xi x] σ := Aw.zret rfl hx h h1 h2 d_Trm_isLastOf_27
theorem e_Trm_leastCost {Ω : Om} {R : Room} {QR : Option PV → Sto → Prop} {QX : String → Sto → Prop} {σ : Sto} {a0 : Nat} {v1 : Int} {v2 : Int} {v3 : Int} {v4 : Int} (h : Aw Ω M_Trm_leastCost R (MF Ω R QR QX) 0 0 0 [xr (some a0), xi v1, xi v2, xi v3, xi v4, xu, xu] [] σ) : MC Ω M_Trm_leastCost R QR QX σ [xr (some a0), xi v1, xi v2, xi v3, xi v4] := MC.body (by decide +kernel) rfl (Nat.le_of_ble_eq_true rfl) rfl h
theorem b_Trm_leastCost_0 {Ω : Om} {R : Room} {F : QF} {k n : Nat} {σ : Sto} {a0 : Nat} {v1 : Int} {v2 : Int} {v3 : Int} {v4 : Int} (h : sK σ a0 = 11 ∧ (∃ b2 : Nat, fR σ 645 a0 = some b2 ∧ sK σ b2 = 53 ∧ 0 ≤ (v1 - 1) ∧ (v1 - 1) < sZ σ b2 ∧ ∃ b7 : Nat, aR σ b2 (v1 - 1).toNat = some b7 ∧ sK σ b7 = 50 ∧ 0 ≤ v2 ∧ v2 < sZ σ b7 ∧ (Q32 (aI σ b7 (v2).toNat) → 0 ≤ v1 ∧ v1 < sZ σ b2 ∧ ∃ b15 : Nat, aR σ b2 (v1).toNat = some b15 ∧ sK σ b15 = 50 ∧ 0 ≤ (v2 - 1) ∧ (v2 - 1) < sZ σ b15 ∧ (Q32 (aI σ b15 (v2 - 1).toNat) → Q32 (aI σ b7 (v2).toNat) ∧ Q32 (aI σ b15 (v2 - 1).toNat) ∧ 1 ≤ R.frames ∧ ([].map catP).sum + 13 ≤ R.locals ∧ k ≤ R.cells ∧ n ≤ R.slots ∧ (∃ b27 : Nat, fR σ 642 a0 = some b27 ∧ sK σ b27 = 50 ∧ 0 ≤ v1 ∧ v1 < sZ σ b27 ∧ (Q32 (aI σ b27 (v1).toNat) → Q32 v3 ∧ ((¬ (aI σ b27 (v1).toNat) = v3 → (Q32 (aI σ b27 (v1).toNat) → 0 ≤ ((aI σ b27 (v1).toNat) - 1) ∧ ((aI σ b27 (v1).toNat) - 1) < sZ σ b2 ∧ (∃ b37 : Nat, fR σ 643 a0 = some b37 ∧ sK σ b37 = 50 ∧ 0 ≤ v2 ∧ v2 < sZ σ b37 ∧ (Q32 (aI σ b37 (v2).toNat) → ∃ b43 : Nat, aR σ b2 ((aI σ b27 (v1).toNat) - 1).toNat = some b43 ∧ sK σ b43 = 50 ∧ 0 ≤ ((aI σ b37 (v2).toNat) - 1) ∧ ((aI σ b37 (v2).toNat) - 1) < sZ σ b43 ∧ (Q32 (aI σ b43 ((aI σ b37 (v2).toNat) - 1).toNat) → (∃ b49 : Nat, fR σ 644 a0 = some b49 ∧ sK σ b49 = 53 ∧ 0 ≤ v1 ∧ v1 < sZ σ b49 ∧ ∃ b54 : Nat, aR σ b49 (v1).toNat = some b54 ∧ sK σ b54 = 50 ∧ 0 ≤ v2 ∧ v2 < sZ σ b54 ∧ (Q32 (aI σ b54 (v2).toNat) → Q32 ((minI (aI σ b7 (v2).toNat) (aI σ b15 (v2 - 1).toNat)) + 1) ∧ Q32 ((aI σ b43 ((aI σ b37 (v2).toNat) - 1).toNat) + (aI σ b54 (v2).toNat)) ∧ 1 ≤ R.frames ∧ ([].map catP).sum + 13 ≤ R.locals ∧ k ≤ R.cells ∧ n ≤ R.slots ∧ Aw Ω M_Trm_leastCost R F k n 144 [xr (some a0), xi v1, xi v2, xi v3, xi v4, xi ((minI (aI σ b7 (v2).toNat) (aI σ b15 (v2 - 1).toNat)) + 1), xu] [xi (minI ((minI (aI σ b7 (v2).toNat) (aI σ b15 (v2 - 1).toNat)) + 1) ((aI σ b43 ((aI σ b37 (v2).toNat) - 1).toNat) + (aI σ b54 (v2).toNat)))] σ))))))) ∧ ((aI σ b27 (v1).toNat) = v3 → (∃ b66 : Nat, fR σ 643 a0 = some b66 ∧ sK σ b66 = 50 ∧ 0 ≤ v2 ∧ v2 < sZ σ b66 ∧ (Q32 (aI σ b66 (v2).toNat) → Q32 v4 ∧ ((¬ (aI σ b66 (v2).toNat) = v4 → (Q32 (aI σ b27 (v1).toNat) → 0 ≤ ((aI σ b27 (v1).toNat) - 1) ∧ ((aI σ b27 (v1).toNat) - 1) < sZ σ b2 ∧ (Q32 (aI σ b66 (v2).toNat) → ∃ b77 : Nat, aR σ b2 ((aI σ b27 (v1).toNat) - 1).toNat = some b77 ∧ sK σ b77 = 50 ∧ 0 ≤ ((aI σ b66 (v2).toNat) - 1) ∧ ((aI σ b66 (v2).toNat) - 1) < sZ σ b77 ∧ (Q32 (aI σ b77 ((aI σ b66 (v2).toNat) - 1).toNat) → (∃ b83 : Nat, fR σ 644 a0 = some b83 ∧ sK σ b83 = 53 ∧ 0 ≤ v1 ∧ v1 < sZ σ b83 ∧ ∃ b88 : Nat, aR σ b83 (v1).toNat = some b88 ∧ sK σ b88 = 50 ∧ 0 ≤ v2 ∧ v2 < sZ σ b88 ∧ (Q32 (aI σ b88 (v2).toNat) → Q32 ((minI (aI σ b7 (v2).toNat) (aI σ b15 (v2 - 1).toNat)) + 1) ∧ Q32 ((aI σ b77 ((aI σ b66 (v2).toNat) - 1).toNat) + (aI σ b88 (v2).toNat)) ∧ 1 ≤ R.frames ∧ ([].map catP).sum + 13 ≤ R.locals ∧ k ≤ R.cells ∧ n ≤ R.slots ∧ Aw Ω M_Trm_leastCost R F k n 144 [xr (some a0), xi v1, xi v2, xi v3, xi v4, xi ((minI (aI σ b7 (v2).toNat) (aI σ b15 (v2 - 1).toNat)) + 1), xu] [xi (minI ((minI (aI σ b7 (v2).toNat) (aI σ b15 (v2 - 1).toNat)) + 1) ((aI σ b77 ((aI σ b66 (v2).toNat) - 1).toNat) + (aI σ b88 (v2).toNat)))] σ)))))) ∧ ((aI σ b66 (v2).toNat) = v4 → (∃ b100 : Nat, fR σ 640 a0 = some b100 ∧ sK σ b100 = 51 ∧ 0 ≤ v1 ∧ v1 < sZ σ b100 ∧ (∃ b105 : Nat, fR σ 641 a0 = some b105 ∧ sK σ b105 = 51 ∧ 0 ≤ v2 ∧ v2 < sZ σ b105 ∧ Q32 (cmpL (aL σ b100 (v1).toNat) (aL σ b105 (v2).toNat)) ∧ ((¬ (cmpL (aL σ b100 (v1).toNat) (aL σ b105 (v2).toNat)) = (0 : Int) → (∃ b111 : Nat, fR σ 644 a0 = some b111 ∧ sK σ b111 = 53 ∧ 0 ≤ v1 ∧ v1 < sZ σ b111 ∧ ∃ b116 : Nat, aR σ b2 (v1 - 1).toNat = some b116 ∧ sK σ b116 = 50 ∧ 0 ≤ (v2 - 1) ∧ (v2 - 1) < sZ σ b116 ∧ (Q32 (aI σ b116 (v2 - 1).toNat) → Q32 ((minI (aI σ b7 (v2).toNat) (aI σ b15 (v2 - 1).toNat)) + 1) ∧ Q32 ((aI σ b116 (v2 - 1).toNat) + 1) ∧ 1 ≤ R.frames ∧ ([xi v2, xr (aR σ b111 (v1).toNat)].map catP).sum + 13 ≤ R.locals ∧ k ≤ R.cells ∧ n ≤ R.slots ∧ ∃ b128 : Nat, aR σ b111 (v1).toNat = some b128 ∧ sK σ b128 = 50 ∧ 0 ≤ v2 ∧ v2 < sZ σ b128 ∧ Q32 (minI ((minI (aI σ b7 (v2).toNat) (aI σ b15 (v2 - 1).toNat)) + 1) ((aI σ b116 (v2 - 1).toNat) + 1)) ∧ ∃ b134 : Nat, aR σ b111 (v1).toNat = some b134 ∧ sK σ b134 = 50 ∧ 0 ≤ v2 ∧ v2 < sZ σ b134 ∧ (Q32 (aI (vI σ b128 (v2).toNat (minI ((minI (aI σ b7 (v2).toNat) (aI σ b15 (v2 - 1).toNat)) + 1) ((aI σ b116 (v2 - 1).toNat) + 1))) b134 (v2).toNat) → Aw Ω M_Trm_leastCost R F k n 107 [xr (some a0), xi v1, xi v2, xi v3, xi v4, xi ((minI (aI σ b7 (v2).toNat) (aI σ b15 (v2 - 1).toNat)) + 1), xi 1] [xi (aI (vI σ b128 (v2).toNat (minI ((minI (aI σ b7 (v2).toNat) (aI σ b15 (v2 - 1).toNat)) + 1) ((aI σ b116 (v2 - 1).toNat) + 1))) b134 (v2).toNat)] (vI σ b128 (v2).toNat (minI ((minI (aI σ b7 (v2).toNat) (aI σ b15 (v2 - 1).toNat)) + 1) ((aI σ b116 (v2 - 1).toNat) + 1))))))) ∧ ((cmpL (aL σ b100 (v1).toNat) (aL σ b105 (v2).toNat)) = (0 : Int) → (∃ b140 : Nat, fR σ 644 a0 = some b140 ∧ sK σ b140 = 53 ∧ 0 ≤ v1 ∧ v1 < sZ σ b140 ∧ ∃ b145 : Nat, aR σ b2 (v1 - 1).toNat = some b145 ∧ sK σ b145 = 50 ∧ 0 ≤ (v2 - 1) ∧ (v2 - 1) < sZ σ b145 ∧ (Q32 (aI σ b145 (v2 - 1).toNat) → Q32 ((minI (aI σ b7 (v2).toNat) (aI σ b15 (v2 - 1).toNat)) + 1) ∧ Q32 ((aI σ b145 (v2 - 1).toNat) + 0) ∧ 1 ≤ R.frames ∧ ([xi v2, xr (aR σ b140 (v1).toNat)].map catP).sum + 13 ≤ R.locals ∧ k ≤ R.cells ∧ n ≤ R.slots ∧ ∃ b157 : Nat, aR σ b140 (v1).toNat = some b157 ∧ sK σ b157 = 50 ∧ 0 ≤ v2 ∧ v2 < sZ σ b157 ∧ Q32 (minI ((minI (aI σ b7 (v2).toNat) (aI σ b15 (v2 - 1).toNat)) + 1) ((aI σ b145 (v2 - 1).toNat) + 0)) ∧ ∃ b163 : Nat, aR σ b140 (v1).toNat = some b163 ∧ sK σ b163 = 50 ∧ 0 ≤ v2 ∧ v2 < sZ σ b163 ∧ (Q32 (aI (vI σ b157 (v2).toNat (minI ((minI (aI σ b7 (v2).toNat) (aI σ b15 (v2 - 1).toNat)) + 1) ((aI σ b145 (v2 - 1).toNat) + 0))) b163 (v2).toNat) → Aw Ω M_Trm_leastCost R F k n 107 [xr (some a0), xi v1, xi v2, xi v3, xi v4, xi ((minI (aI σ b7 (v2).toNat) (aI σ b15 (v2 - 1).toNat)) + 1), xi 0] [xi (aI (vI σ b157 (v2).toNat (minI ((minI (aI σ b7 (v2).toNat) (aI σ b15 (v2 - 1).toNat)) + 1) ((aI σ b145 (v2 - 1).toNat) + 0))) b163 (v2).toNat)] (vI σ b157 (v2).toNat (minI ((minI (aI σ b7 (v2).toNat) (aI σ b15 (v2 - 1).toNat)) + 1) ((aI σ b145 (v2 - 1).toNat) + 0)))))))))))))))))))))) : Aw Ω M_Trm_leastCost R F k n 0 [xr (some a0), xi v1, xi v2, xi v3, xi v4, xu, xu] [] σ := by
  refine Aw.aload_n rfl d_Trm_leastCost_0 ?_
  obtain ⟨o1, h⟩ := h
  obtain ⟨b2, e3, h⟩ := h
  refine Aw.getRs (f := 645) 10 5 fl_Trm_30 (by decide) (by decide) rfl rfl o1 e3 d_Trm_leastCost_1 ?_
  refine Aw.iload_n rfl d_Trm_leastCost_4 ?_
  refine Aw.iconst d_Trm_leastCost_5 ?_
  refine Aw.isub d_Trm_leastCost_6 ?_
  obtain ⟨o4, h⟩ := h
  obtain ⟨o5, o6, h⟩ := h
  refine Aw.aald 3 (by decide) (by decide) o4 o5 o6 d_Trm_leastCost_7 ?_
  refine Aw.iload_n rfl d_Trm_leastCost_8 ?_
  obtain ⟨b7, e8, h⟩ := h
  refine Aw.der1 e8 ?_
  obtain ⟨o9, h⟩ := h
  obtain ⟨o10, o11, h⟩ := h
  refine Aw.iald o9 o10 o11 d_Trm_leastCost_9 (fun r12 => ?_)
  have h := h r12
  refine Aw.aload_n rfl d_Trm_leastCost_10 ?_
  refine Aw.getRs (f := 645) 10 5 fl_Trm_30 (by decide) (by decide) rfl rfl o1 e3 d_Trm_leastCost_11 ?_
  refine Aw.iload_n rfl d_Trm_leastCost_14 ?_
  obtain ⟨o13, o14, h⟩ := h
  refine Aw.aald 3 (by decide) (by decide) o4 o13 o14 d_Trm_leastCost_15 ?_
  refine Aw.iload_n rfl d_Trm_leastCost_16 ?_
  refine Aw.iconst d_Trm_leastCost_17 ?_
  refine Aw.isub d_Trm_leastCost_18 ?_
  obtain ⟨b15, e16, h⟩ := h
  refine Aw.der1 e16 ?_
  obtain ⟨o17, h⟩ := h
  obtain ⟨o18, o19, h⟩ := h
  refine Aw.iald o17 o18 o19 d_Trm_leastCost_19 (fun r20 => ?_)
  have h := h r20
  obtain ⟨o21, o22, o23, o24, o25, o26, h⟩ := h
  refine Aw.mmin o21 o22 ml_Trm_71 mth_min_1 mth_ini mth_min_2 o23 o24 o25 o26 d_Trm_leastCost_20 ?_
  refine Aw.iconst d_Trm_leastCost_23 ?_
  refine Aw.iadd d_Trm_leastCost_24 ?_
  refine Aw.istore (by decide) d_Trm_leastCost_25 ?_
  refine Aw.toL (L' := [xr (some a0), xi v1, xi v2, xi v3, xi v4, xi ((minI (aI σ b7 (v2).toNat) (aI σ b15 (v2 - 1).toNat)) + 1), xu]) rfl ?_
  refine Aw.aload_n rfl d_Trm_leastCost_27 ?_
  obtain ⟨b27, e28, h⟩ := h
  refine Aw.getRs (f := 642) 10 2 fl_Trm_18 (by decide) (by decide) rfl rfl o1 e28 d_Trm_leastCost_28 ?_
  refine Aw.iload_n rfl d_Trm_leastCost_31 ?_
  obtain ⟨o29, h⟩ := h
  obtain ⟨o30, o31, h⟩ := h
  refine Aw.iald o29 o30 o31 d_Trm_leastCost_32 (fun r32 => ?_)
  have h := h r32
  refine Aw.iload_n rfl d_Trm_leastCost_33 ?_
  obtain ⟨o33, h⟩ := h
  obtain ⟨ht, hf⟩ := h
  refine Aw.icmp_ne (tgt := 108) r32 o33 (by decide) d_Trm_leastCost_34 (fun c171 => ?_) (fun c171 => ?_)
  · have h := ht c171
    refine Aw.iload rfl d_Trm_leastCost_108 ?_
    refine Aw.aload_n rfl d_Trm_leastCost_110 ?_
    refine Aw.getRs (f := 645) 10 5 fl_Trm_30 (by decide) (by decide) rfl rfl o1 e3 d_Trm_leastCost_111 ?_
    refine Aw.aload_n rfl d_Trm_leastCost_114 ?_
    refine Aw.getRs (f := 642) 10 2 fl_Trm_18 (by decide) (by decide) rfl rfl o1 e28 d_Trm_leastCost_115 ?_
    refine Aw.iload_n rfl d_Trm_leastCost_118 ?_
    refine Aw.iald o29 o30 o31 d_Trm_leastCost_119 (fun r34 => ?_)
    have h := h r34
    refine Aw.iconst d_Trm_leastCost_120 ?_
    refine Aw.isub d_Trm_leastCost_121 ?_
    obtain ⟨o35, o36, h⟩ := h
    refine Aw.aald 3 (by decide) (by decide) o4 o35 o36 d_Trm_leastCost_122 ?_
    refine Aw.aload_n rfl d_Trm_leastCost_123 ?_
    obtain ⟨b37, e38, h⟩ := h
    refine Aw.getRs (f := 643) 10 3 fl_Trm_22 (by decide) (by decide) rfl rfl o1 e38 d_Trm_leastCost_124 ?_
    refine Aw.iload_n rfl d_Trm_leastCost_127 ?_
    obtain ⟨o39, h⟩ := h
    obtain ⟨o40, o41, h⟩ := h
    refine Aw.iald o39 o40 o41 d_Trm_leastCost_128 (fun r42 => ?_)
    have h := h r42
    refine Aw.iconst d_Trm_leastCost_129 ?_
    refine Aw.isub d_Trm_leastCost_130 ?_
    obtain ⟨b43, e44, h⟩ := h
    refine Aw.der1 e44 ?_
    obtain ⟨o45, h⟩ := h
    obtain ⟨o46, o47, h⟩ := h
    refine Aw.iald o45 o46 o47 d_Trm_leastCost_131 (fun r48 => ?_)
    have h := h r48
    refine Aw.aload_n rfl d_Trm_leastCost_132 ?_
    obtain ⟨b49, e50, h⟩ := h
    refine Aw.getRs (f := 644) 10 4 fl_Trm_27 (by decide) (by decide) rfl rfl o1 e50 d_Trm_leastCost_133 ?_
    refine Aw.iload_n rfl d_Trm_leastCost_136 ?_
    obtain ⟨o51, h⟩ := h
    obtain ⟨o52, o53, h⟩ := h
    refine Aw.aald 3 (by decide) (by decide) o51 o52 o53 d_Trm_leastCost_137 ?_
    refine Aw.iload_n rfl d_Trm_leastCost_138 ?_
    obtain ⟨b54, e55, h⟩ := h
    refine Aw.der1 e55 ?_
    obtain ⟨o56, h⟩ := h
    obtain ⟨o57, o58, h⟩ := h
    refine Aw.iald o56 o57 o58 d_Trm_leastCost_139 (fun r59 => ?_)
    have h := h r59
    refine Aw.iadd d_Trm_leastCost_140 ?_
    obtain ⟨o60, o61, o62, o63, o64, o65, h⟩ := h
    refine Aw.mmin o60 o61 ml_Trm_71 mth_min_1 mth_ini mth_min_2 o62 o63 o64 o65 d_Trm_leastCost_141 ?_
    exact h
  · have h := hf c171
    refine Aw.aload_n rfl d_Trm_leastCost_37 ?_
    obtain ⟨b66, e67, h⟩ := h
    refine Aw.getRs (f := 643) 10 3 fl_Trm_22 (by decide) (by decide) rfl rfl o1 e67 d_Trm_leastCost_38 ?_
    refine Aw.iload_n rfl d_Trm_leastCost_41 ?_
    obtain ⟨o68, h⟩ := h
    obtain ⟨o69, o70, h⟩ := h
    refine Aw.iald o68 o69 o70 d_Trm_leastCost_42 (fun r71 => ?_)
    have h := h r71
    refine Aw.iload rfl d_Trm_leastCost_43 ?_
    obtain ⟨o72, h⟩ := h
    obtain ⟨ht, hf⟩ := h
    refine Aw.icmp_ne (tgt := 108) r71 o72 (by decide) d_Trm_leastCost_45 (fun c170 => ?_) (fun c170 => ?_)
    · have h := ht c170
      refine Aw.iload rfl d_Trm_leastCost_108 ?_
      refine Aw.aload_n rfl d_Trm_leastCost_110 ?_
      refine Aw.getRs (f := 645) 10 5 fl_Trm_30 (by decide) (by decide) rfl rfl o1 e3 d_Trm_leastCost_111 ?_
      refine Aw.aload_n rfl d_Trm_leastCost_114 ?_
      refine Aw.getRs (f := 642) 10 2 fl_Trm_18 (by decide) (by decide) rfl rfl o1 e28 d_Trm_leastCost_115 ?_
      refine Aw.iload_n rfl d_Trm_leastCost_118 ?_
      refine Aw.iald o29 o30 o31 d_Trm_leastCost_119 (fun r73 => ?_)
      have h := h r73
      refine Aw.iconst d_Trm_leastCost_120 ?_
      refine Aw.isub d_Trm_leastCost_121 ?_
      obtain ⟨o74, o75, h⟩ := h
      refine Aw.aald 3 (by decide) (by decide) o4 o74 o75 d_Trm_leastCost_122 ?_
      refine Aw.aload_n rfl d_Trm_leastCost_123 ?_
      refine Aw.getRs (f := 643) 10 3 fl_Trm_22 (by decide) (by decide) rfl rfl o1 e67 d_Trm_leastCost_124 ?_
      refine Aw.iload_n rfl d_Trm_leastCost_127 ?_
      refine Aw.iald o68 o69 o70 d_Trm_leastCost_128 (fun r76 => ?_)
      have h := h r76
      refine Aw.iconst d_Trm_leastCost_129 ?_
      refine Aw.isub d_Trm_leastCost_130 ?_
      obtain ⟨b77, e78, h⟩ := h
      refine Aw.der1 e78 ?_
      obtain ⟨o79, h⟩ := h
      obtain ⟨o80, o81, h⟩ := h
      refine Aw.iald o79 o80 o81 d_Trm_leastCost_131 (fun r82 => ?_)
      have h := h r82
      refine Aw.aload_n rfl d_Trm_leastCost_132 ?_
      obtain ⟨b83, e84, h⟩ := h
      refine Aw.getRs (f := 644) 10 4 fl_Trm_27 (by decide) (by decide) rfl rfl o1 e84 d_Trm_leastCost_133 ?_
      refine Aw.iload_n rfl d_Trm_leastCost_136 ?_
      obtain ⟨o85, h⟩ := h
      obtain ⟨o86, o87, h⟩ := h
      refine Aw.aald 3 (by decide) (by decide) o85 o86 o87 d_Trm_leastCost_137 ?_
      refine Aw.iload_n rfl d_Trm_leastCost_138 ?_
      obtain ⟨b88, e89, h⟩ := h
      refine Aw.der1 e89 ?_
      obtain ⟨o90, h⟩ := h
      obtain ⟨o91, o92, h⟩ := h
      refine Aw.iald o90 o91 o92 d_Trm_leastCost_139 (fun r93 => ?_)
      have h := h r93
      refine Aw.iadd d_Trm_leastCost_140 ?_
      obtain ⟨o94, o95, o96, o97, o98, o99, h⟩ := h
      refine Aw.mmin o94 o95 ml_Trm_71 mth_min_1 mth_ini mth_min_2 o96 o97 o98 o99 d_Trm_leastCost_141 ?_
      exact h
    · have h := hf c170
      refine Aw.aload_n rfl d_Trm_leastCost_48 ?_
      obtain ⟨b100, e101, h⟩ := h
      refine Aw.getRs (f := 640) 10 0 fl_Trm_11 (by decide) (by decide) rfl rfl o1 e101 d_Trm_leastCost_49 ?_
      refine Aw.iload_n rfl d_Trm_leastCost_52 ?_
      obtain ⟨o102, h⟩ := h
      obtain ⟨o103, o104, h⟩ := h
      refine Aw.lald o102 o103 o104 d_Trm_leastCost_53 ?_
      refine Aw.aload_n rfl d_Trm_leastCost_54 ?_
      obtain ⟨b105, e106, h⟩ := h
      refine Aw.getRs (f := 641) 10 1 fl_Trm_15 (by decide) (by decide) rfl rfl o1 e106 d_Trm_leastCost_55 ?_
      refine Aw.iload_n rfl d_Trm_leastCost_58 ?_
      obtain ⟨o107, h⟩ := h
      obtain ⟨o108, o109, h⟩ := h
      refine Aw.lald o107 o108 o109 d_Trm_leastCost_59 ?_
      refine Aw.lcmp d_Trm_leastCost_60 ?_
      obtain ⟨o110, h⟩ := h
      obtain ⟨ht, hf⟩ := h
      refine Aw.if_ne (tgt := 68) o110 (by decide) d_Trm_leastCost_61 (fun c169 => ?_) (fun c169 => ?_)
      · have h := ht c169
        refine Aw.iconst d_Trm_leastCost_68 ?_
        refine Aw.istore (by decide) d_Trm_leastCost_69 ?_
        refine Aw.toL (L' := [xr (some a0), xi v1, xi v2, xi v3, xi v4, xi ((minI (aI σ b7 (v2).toNat) (aI σ b15 (v2 - 1).toNat)) + 1), xi 1]) rfl ?_
        refine Aw.aload_n rfl d_Trm_leastCost_71 ?_
        obtain ⟨b111, e112, h⟩ := h
        refine Aw.getRs (f := 644) 10 4 fl_Trm_27 (by decide) (by decide) rfl rfl o1 e112 d_Trm_leastCost_72 ?_
        refine Aw.iload_n rfl d_Trm_leastCost_75 ?_
        obtain ⟨o113, h⟩ := h
        obtain ⟨o114, o115, h⟩ := h
        refine Aw.aald 3 (by decide) (by decide) o113 o114 o115 d_Trm_leastCost_76 ?_
        refine Aw.iload_n rfl d_Trm_leastCost_77 ?_
        refine Aw.iload rfl d_Trm_leastCost_78 ?_
        refine Aw.aload_n rfl d_Trm_leastCost_80 ?_
        refine Aw.getRs (f := 645) 10 5 fl_Trm_30 (by decide) (by decide) rfl rfl o1 e3 d_Trm_leastCost_81 ?_
        refine Aw.iload_n rfl d_Trm_leastCost_84 ?_
        refine Aw.iconst d_Trm_leastCost_85 ?_
        refine Aw.isub d_Trm_leastCost_86 ?_
        refine Aw.aald 3 (by decide) (by decide) o4 o5 o6 d_Trm_leastCost_87 ?_
        refine Aw.iload_n rfl d_Trm_leastCost_88 ?_
        refine Aw.iconst d_Trm_leastCost_89 ?_
        refine Aw.isub d_Trm_leastCost_90 ?_
        obtain ⟨b116, e117, h⟩ := h
        refine Aw.der1 e117 ?_
        obtain ⟨o118, h⟩ := h
        obtain ⟨o119, o120, h⟩ := h
        refine Aw.iald o118 o119 o120 d_Trm_leastCost_91 (fun r121 => ?_)
        have h := h r121
        refine Aw.iload rfl d_Trm_leastCost_92 ?_
        refine Aw.iadd d_Trm_leastCost_94 ?_
        obtain ⟨o122, o123, o124, o125, o126, o127, h⟩ := h
        refine Aw.mmin o122 o123 ml_Trm_71 mth_min_1 mth_ini mth_min_2 o124 o125 o126 o127 d_Trm_leastCost_95 ?_
        obtain ⟨b128, e129, h⟩ := h
        refine Aw.der2 e129 ?_
        obtain ⟨o130, h⟩ := h
        obtain ⟨o131, o132, h⟩ := h
        obtain ⟨o133, h⟩ := h
        refine Aw.iast o130 o131 o132 o133 d_Trm_leastCost_98 ?_
        refine Aw.aload_n rfl d_Trm_leastCost_99 ?_
        refine Aw.getRs (f := 644) 10 4 fl_Trm_27 (by decide) (by decide) rfl rfl o1 e112 d_Trm_leastCost_100 ?_
        refine Aw.iload_n rfl d_Trm_leastCost_103 ?_
        refine Aw.aald 3 (by decide) (by decide) o113 o114 o115 d_Trm_leastCost_104 ?_
        refine Aw.iload_n rfl d_Trm_leastCost_105 ?_
        obtain ⟨b134, e135, h⟩ := h
        refine Aw.der1 e135 ?_
        obtain ⟨o136, h⟩ := h
        obtain ⟨o137, o138, h⟩ := h
        refine Aw.iald o136 o137 o138 d_Trm_leastCost_106 (fun r139 => ?_)
        have h := h r139
        exact h
      · have h := hf c169
        refine Aw.iconst d_Trm_leastCost_64 ?_
        refine Aw.goto (tgt := 69) (by decide) d_Trm_leastCost_65 ?_
        refine Aw.istore (by decide) d_Trm_leastCost_69 ?_
        refine Aw.toL (L' := [xr (some a0), xi v1, xi v2, xi v3, xi v4, xi ((minI (aI σ b7 (v2).toNat) (aI σ b15 (v2 - 1).toNat)) + 1), xi 0]) rfl ?_
        refine Aw.aload_n rfl d_Trm_leastCost_71 ?_
        obtain ⟨b140, e141, h⟩ := h
        refine Aw.getRs (f := 644) 10 4 fl_Trm_27 (by decide) (by decide) rfl rfl o1 e141 d_Trm_leastCost_72 ?_
        refine Aw.iload_n rfl d_Trm_leastCost_75 ?_
        obtain ⟨o142, h⟩ := h
        obtain ⟨o143, o144, h⟩ := h
        refine Aw.aald 3 (by decide) (by decide) o142 o143 o144 d_Trm_leastCost_76 ?_
        refine Aw.iload_n rfl d_Trm_leastCost_77 ?_
        refine Aw.iload rfl d_Trm_leastCost_78 ?_
        refine Aw.aload_n rfl d_Trm_leastCost_80 ?_
        refine Aw.getRs (f := 645) 10 5 fl_Trm_30 (by decide) (by decide) rfl rfl o1 e3 d_Trm_leastCost_81 ?_
        refine Aw.iload_n rfl d_Trm_leastCost_84 ?_
        refine Aw.iconst d_Trm_leastCost_85 ?_
        refine Aw.isub d_Trm_leastCost_86 ?_
        refine Aw.aald 3 (by decide) (by decide) o4 o5 o6 d_Trm_leastCost_87 ?_
        refine Aw.iload_n rfl d_Trm_leastCost_88 ?_
        refine Aw.iconst d_Trm_leastCost_89 ?_
        refine Aw.isub d_Trm_leastCost_90 ?_
        obtain ⟨b145, e146, h⟩ := h
        refine Aw.der1 e146 ?_
        obtain ⟨o147, h⟩ := h
        obtain ⟨o148, o149, h⟩ := h
        refine Aw.iald o147 o148 o149 d_Trm_leastCost_91 (fun r150 => ?_)
        have h := h r150
        refine Aw.iload rfl d_Trm_leastCost_92 ?_
        refine Aw.iadd d_Trm_leastCost_94 ?_
        obtain ⟨o151, o152, o153, o154, o155, o156, h⟩ := h
        refine Aw.mmin o151 o152 ml_Trm_71 mth_min_1 mth_ini mth_min_2 o153 o154 o155 o156 d_Trm_leastCost_95 ?_
        obtain ⟨b157, e158, h⟩ := h
        refine Aw.der2 e158 ?_
        obtain ⟨o159, h⟩ := h
        obtain ⟨o160, o161, h⟩ := h
        obtain ⟨o162, h⟩ := h
        refine Aw.iast o159 o160 o161 o162 d_Trm_leastCost_98 ?_
        refine Aw.aload_n rfl d_Trm_leastCost_99 ?_
        refine Aw.getRs (f := 644) 10 4 fl_Trm_27 (by decide) (by decide) rfl rfl o1 e141 d_Trm_leastCost_100 ?_
        refine Aw.iload_n rfl d_Trm_leastCost_103 ?_
        refine Aw.aald 3 (by decide) (by decide) o142 o143 o144 d_Trm_leastCost_104 ?_
        refine Aw.iload_n rfl d_Trm_leastCost_105 ?_
        obtain ⟨b163, e164, h⟩ := h
        refine Aw.der1 e164 ?_
        obtain ⟨o165, h⟩ := h
        obtain ⟨o166, o167, h⟩ := h
        refine Aw.iald o165 o166 o167 d_Trm_leastCost_106 (fun r168 => ?_)
        have h := h r168
        exact h
theorem r_Trm_leastCost_107 {Ω : Om} {R : Room} {k n : Nat} {L : List PV} {σ : Sto} {QR : Option PV → Sto → Prop} {QX : String → Sto → Prop} {x : Int} (h : QR (some (xi x)) σ) (h1 : k ≤ R.cells) (h2 : n ≤ R.slots) : Aw Ω M_Trm_leastCost R (MF Ω R QR QX) k n 107 L [xi x] σ := Aw.iret rfl h h1 h2 d_Trm_leastCost_107
theorem r_Trm_leastCost_144 {Ω : Om} {R : Room} {k n : Nat} {L : List PV} {σ : Sto} {QR : Option PV → Sto → Prop} {QX : String → Sto → Prop} {x : Int} (h : QR (some (xi x)) σ) (h1 : k ≤ R.cells) (h2 : n ≤ R.slots) : Aw Ω M_Trm_leastCost R (MF Ω R QR QX) k n 144 L [xi x] σ := Aw.iret rfl h h1 h2 d_Trm_leastCost_144
theorem e_Trm_openNode {Ω : Om} {R : Room} {QR : Option PV → Sto → Prop} {QX : String → Sto → Prop} {σ : Sto} {a0 : Nat} {v1 : Int} {v2 : Int64} (h : Aw Ω M_Trm_openNode R (MF Ω R QR QX) 0 0 0 [xr (some a0), xi v1, xl v2, xu] [] σ) : MC Ω M_Trm_openNode R QR QX σ [xr (some a0), xi v1, xl v2] := MC.body (by decide +kernel) rfl (Nat.le_of_ble_eq_true rfl) rfl h
theorem b_Trm_openNode_0 {Ω : Om} {R : Room} {F : QF} {k n : Nat} {σ : Sto} {a0 : Nat} {v1 : Int} {v2 : Int64} (h : sK σ a0 = 11 ∧ (Q32 (fI σ 649 a0) → (((22 : Int) ≤ (fI σ 649 a0) → Aw Ω M_Trm_openNode R F k n 54 [xr (some a0), xi v1, xl v2, xu] [] σ) ∧ (¬ (22 : Int) ≤ (fI σ 649 a0) → (∃ b3 : Nat, fR σ 646 a0 = some b3 ∧ (Q32 (fI σ 649 a0) → sK σ b3 = 50 ∧ 0 ≤ (fI σ 649 a0) ∧ (fI σ 649 a0) < sZ σ b3 ∧ Q32 v1 ∧ (∃ b10 : Nat, fR σ 647 a0 = some b10 ∧ (Q32 (fI σ 649 a0) → sK σ b10 = 51 ∧ 0 ≤ (fI σ 649 a0) ∧ (fI σ 649 a0) < sZ σ b10 ∧ (∃ b16 : Nat, fR σ 648 a0 = some b16 ∧ (Q32 (fI σ 649 a0) → (Q32 (fI σ 650 a0) → sK σ b16 = 50 ∧ 0 ≤ (fI σ 649 a0) ∧ (fI σ 649 a0) < sZ σ b16 ∧ Q32 ((fI σ 650 a0) + 1) ∧ (Q32 (fI σ 649 a0) → Q32 ((fI σ 649 a0) + 1) ∧ Aw Ω M_Trm_openNode R F k n 54 [xr (some a0), xi v1, xl v2, xu] [] (uI (vI (vL (vI σ b3 (fI σ 649 a0).toNat v1) b10 (fI σ 649 a0).toNat v2) b16 (fI σ 649 a0).toNat ((fI σ 650 a0) + 1)) 649 a0 ((fI σ 649 a0) + 1)))))))))))))) : Aw Ω M_Trm_openNode R F k n 0 [xr (some a0), xi v1, xl v2, xu] [] σ := by
  refine Aw.aload_n rfl d_Trm_openNode_0 ?_
  obtain ⟨o1, h⟩ := h
  refine Aw.getI (f := 649) 10 9 fl_Trm_42 (by decide) (by decide) rfl rfl o1 d_Trm_openNode_1 (fun r2 => ?_)
  have h := h r2
  refine Aw.bipush (by decide) d_Trm_openNode_4 ?_
  obtain ⟨ht, hf⟩ := h
  refine Aw.icmp_ge (tgt := 54) r2 ⟨by decide, by decide⟩ (by decide) d_Trm_openNode_6 (fun c26 => ?_) (fun c26 => ?_)
  · have h := ht c26
    exact h
  · have h := hf c26
    refine Aw.aload_n rfl d_Trm_openNode_9 ?_
    obtain ⟨b3, e4, h⟩ := h
    refine Aw.getRs (f := 646) 10 6 fl_Trm_33 (by decide) (by decide) rfl rfl o1 e4 d_Trm_openNode_10 ?_
    refine Aw.aload_n rfl d_Trm_openNode_13 ?_
    refine Aw.getI (f := 649) 10 9 fl_Trm_42 (by decide) (by decide) rfl rfl o1 d_Trm_openNode_14 (fun r5 => ?_)
    have h := h r5
    refine Aw.iload_n rfl d_Trm_openNode_17 ?_
    obtain ⟨o6, h⟩ := h
    obtain ⟨o7, o8, h⟩ := h
    obtain ⟨o9, h⟩ := h
    refine Aw.iast o6 o7 o8 o9 d_Trm_openNode_18 ?_
    refine Aw.aload_n rfl d_Trm_openNode_19 ?_
    obtain ⟨b10, e11, h⟩ := h
    refine Aw.getRs (f := 647) 10 7 fl_Trm_36 (by decide) (by decide) rfl rfl o1 e11 d_Trm_openNode_20 ?_
    refine Aw.aload_n rfl d_Trm_openNode_23 ?_
    refine Aw.getI (f := 649) 10 9 fl_Trm_42 (by decide) (by decide) rfl rfl o1 d_Trm_openNode_24 (fun r12 => ?_)
    have h := h r12
    refine Aw.lload_n rfl d_Trm_openNode_27 ?_
    obtain ⟨o13, h⟩ := h
    obtain ⟨o14, o15, h⟩ := h
    refine Aw.last o13 o14 o15 d_Trm_openNode_28 ?_
    refine Aw.aload_n rfl d_Trm_openNode_29 ?_
    obtain ⟨b16, e17, h⟩ := h
    refine Aw.getRs (f := 648) 10 8 fl_Trm_39 (by decide) (by decide) rfl rfl o1 e17 d_Trm_openNode_30 ?_
    refine Aw.aload_n rfl d_Trm_openNode_33 ?_
    refine Aw.getI (f := 649) 10 9 fl_Trm_42 (by decide) (by decide) rfl rfl o1 d_Trm_openNode_34 (fun r18 => ?_)
    have h := h r18
    refine Aw.aload_n rfl d_Trm_openNode_37 ?_
    refine Aw.getI (f := 650) 10 10 fl_Trm_46 (by decide) (by decide) rfl rfl o1 d_Trm_openNode_38 (fun r19 => ?_)
    have h := h r19
    refine Aw.iconst d_Trm_openNode_41 ?_
    refine Aw.iadd d_Trm_openNode_42 ?_
    obtain ⟨o20, h⟩ := h
    obtain ⟨o21, o22, h⟩ := h
    obtain ⟨o23, h⟩ := h
    refine Aw.iast o20 o21 o22 o23 d_Trm_openNode_43 ?_
    refine Aw.aload_n rfl d_Trm_openNode_44 ?_
    refine Aw.dup rfl d_Trm_openNode_45 ?_
    refine Aw.getI (f := 649) 10 9 fl_Trm_42 (by decide) (by decide) rfl rfl o1 d_Trm_openNode_46 (fun r24 => ?_)
    have h := h r24
    refine Aw.iconst d_Trm_openNode_49 ?_
    refine Aw.iadd d_Trm_openNode_50 ?_
    obtain ⟨o25, h⟩ := h
    refine Aw.putI (f := 649) 10 9 fl_Trm_42 (by decide) (by decide) rfl rfl o1 rfl o25 (Or.inl rfl) d_Trm_openNode_51 ?_
    exact h
theorem r_Trm_openNode_54 {Ω : Om} {R : Room} {k n : Nat} {L : List PV} {σ : Sto} {QR : Option PV → Sto → Prop} {QX : String → Sto → Prop} (h : QR none σ) (h1 : k ≤ R.cells) (h2 : n ≤ R.slots) : Aw Ω M_Trm_openNode R (MF Ω R QR QX) k n 54 L [] σ := Aw.vret rfl h h1 h2 d_Trm_openNode_54
theorem e_Trm_weigh {Ω : Om} {R : Room} {QR : Option PV → Sto → Prop} {QX : String → Sto → Prop} {σ : Sto} {a0 : Nat} {v1 : Int} {v2 : Int} (h : Aw Ω M_Trm_weigh R (MF Ω R QR QX) 0 0 0 [xr (some a0), xi v1, xi v2, xu, xu, xu, xu] [] σ) : MC Ω M_Trm_weigh R QR QX σ [xr (some a0), xi v1, xi v2] := MC.body (by decide +kernel) rfl (Nat.le_of_ble_eq_true rfl) rfl h
theorem b_Trm_weigh_0 {Ω : Om} {R : Room} {F : QF} {k n : Nat} {σ : Sto} {a0 : Nat} {v1 : Int} {v2 : Int} (h : sK σ a0 = 11 ∧ (∃ b2 : Nat, fR σ 642 a0 = some b2 ∧ sK σ b2 = 50 ∧ 0 ≤ v1 ∧ v1 < sZ σ b2 ∧ (Q32 (aI σ b2 (v1).toNat) → (∃ b8 : Nat, fR σ 643 a0 = some b8 ∧ sK σ b8 = 50 ∧ 0 ≤ v2 ∧ v2 < sZ σ b8 ∧ (Q32 (aI σ b8 (v2).toNat) → (∃ b14 : Nat, fR σ 645 a0 = some b14 ∧ sK σ b14 = 53 ∧ 0 ≤ ((aI σ b2 (v1).toNat) - 1) ∧ ((aI σ b2 (v1).toNat) - 1) < sZ σ b14 ∧ ∃ b19 : Nat, aR σ b14 ((aI σ b2 (v1).toNat) - 1).toNat = some b19 ∧ sK σ b19 = 50 ∧ 0 ≤ ((aI σ b8 (v2).toNat) - 1) ∧ ((aI σ b8 (v2).toNat) - 1) < sZ σ b19 ∧ Aw Ω M_Trm_weigh R F k n 32 [xr (some a0), xi v1, xi v2, xi (aI σ b2 (v1).toNat), xi (aI σ b8 (v2).toNat), xi (aI σ b2 (v1).toNat), xu] [] (vI σ b19 ((aI σ b8 (v2).toNat) - 1).toNat 0))))))) : Aw Ω M_Trm_weigh R F k n 0 [xr (some a0), xi v1, xi v2, xu, xu, xu, xu] [] σ := by
  refine Aw.aload_n rfl d_Trm_weigh_0 ?_
  obtain ⟨o1, h⟩ := h
  obtain ⟨b2, e3, h⟩ := h
  refine Aw.getRs (f := 642) 10 2 fl_Trm_18 (by decide) (by decide) rfl rfl o1 e3 d_Trm_weigh_1 ?_
  refine Aw.iload_n rfl d_Trm_weigh_4 ?_
  obtain ⟨o4, h⟩ := h
  obtain ⟨o5, o6, h⟩ := h
  refine Aw.iald o4 o5 o6 d_Trm_weigh_5 (fun r7 => ?_)
  have h := h r7
  refine Aw.istore_n (by decide) d_Trm_weigh_6 ?_
  refine Aw.toL (L' := [xr (some a0), xi v1, xi v2, xi (aI σ b2 (v1).toNat), xu, xu, xu]) rfl ?_
  refine Aw.aload_n rfl d_Trm_weigh_7 ?_
  obtain ⟨b8, e9, h⟩ := h
  refine Aw.getRs (f := 643) 10 3 fl_Trm_22 (by decide) (by decide) rfl rfl o1 e9 d_Trm_weigh_8 ?_
  refine Aw.iload_n rfl d_Trm_weigh_11 ?_
  obtain ⟨o10, h⟩ := h
  obtain ⟨o11, o12, h⟩ := h
  refine Aw.iald o10 o11 o12 d_Trm_weigh_12 (fun r13 => ?_)
  have h := h r13
  refine Aw.istore (by decide) d_Trm_weigh_13 ?_
  refine Aw.toL (L' := [xr (some a0), xi v1, xi v2, xi (aI σ b2 (v1).toNat), xi (aI σ b8 (v2).toNat), xu, xu]) rfl ?_
  refine Aw.aload_n rfl d_Trm_weigh_15 ?_
  obtain ⟨b14, e15, h⟩ := h
  refine Aw.getRs (f := 645) 10 5 fl_Trm_30 (by decide) (by decide) rfl rfl o1 e15 d_Trm_weigh_16 ?_
  refine Aw.iload_n rfl d_Trm_weigh_19 ?_
  refine Aw.iconst d_Trm_weigh_20 ?_
  refine Aw.isub d_Trm_weigh_21 ?_
  obtain ⟨o16, h⟩ := h
  obtain ⟨o17, o18, h⟩ := h
  refine Aw.aald 3 (by decide) (by decide) o16 o17 o18 d_Trm_weigh_22 ?_
  refine Aw.iload rfl d_Trm_weigh_23 ?_
  refine Aw.iconst d_Trm_weigh_25 ?_
  refine Aw.isub d_Trm_weigh_26 ?_
  refine Aw.iconst d_Trm_weigh_27 ?_
  obtain ⟨b19, e20, h⟩ := h
  refine Aw.der2 e20 ?_
  obtain ⟨o21, h⟩ := h
  obtain ⟨o22, o23, h⟩ := h
  refine Aw.iast o21 o22 o23 ⟨by decide, by decide⟩ d_Trm_weigh_28 ?_
  refine Aw.iload_n rfl d_Trm_weigh_29 ?_
  refine Aw.istore (by decide) d_Trm_weigh_30 ?_
  refine Aw.toL (L' := [xr (some a0), xi v1, xi v2, xi (aI σ b2 (v1).toNat), xi (aI σ b8 (v2).toNat), xi (aI σ b2 (v1).toNat), xu]) rfl ?_
  exact h
theorem b_Trm_weigh_32 {Ω : Om} {R : Room} {F : QF} {k n : Nat} {σ : Sto} {a0 : Nat} {v1 : Int} {v2 : Int} {v3 : Int} {v4 : Int} {v5 : Int} (h : Q32 v5 ∧ Q32 v1 ∧ ((v1 < v5 → Aw Ω M_Trm_weigh R F k n 76 [xr (some a0), xi v1, xi v2, xi v3, xi v4, xi v4, xu] [] σ) ∧ (¬ v1 < v5 → sK σ a0 = 11 ∧ (∃ b4 : Nat, fR σ 645 a0 = some b4 ∧ sK σ b4 = 53 ∧ 0 ≤ v5 ∧ v5 < sZ σ b4 ∧ 0 ≤ (v5 - 1) ∧ (v5 - 1) < sZ σ b4 ∧ ∃ b11 : Nat, aR σ b4 (v5 - 1).toNat = some b11 ∧ sK σ b11 = 50 ∧ 0 ≤ (v4 - 1) ∧ (v4 - 1) < sZ σ b11 ∧ (Q32 (aI σ b11 (v4 - 1).toNat) → ∃ b17 : Nat, aR σ b4 (v5).toNat = some b17 ∧ sK σ b17 = 50 ∧ 0 ≤ (v4 - 1) ∧ (v4 - 1) < sZ σ b17 ∧ Q32 ((aI σ b11 (v4 - 1).toNat) + 1) ∧ Aw Ω M_Trm_weigh R F k n 32 [xr (some a0), xi v1, xi v2, xi v3, xi v4, xi (v5 + 1), xu] [] (vI σ b17 (v4 - 1).toNat ((aI σ b11 (v4 - 1).toNat) + 1))))))) : Aw Ω M_Trm_weigh R F k n 32 [xr (some a0), xi v1, xi v2, xi v3, xi v4, xi v5, xu] [] σ := by
  refine Aw.iload rfl d_Trm_weigh_32 ?_
  refine Aw.iload_n rfl d_Trm_weigh_34 ?_
  obtain ⟨o1, h⟩ := h
  obtain ⟨o2, h⟩ := h
  obtain ⟨ht, hf⟩ := h
  refine Aw.icmp_gt (tgt := 72) o1 o2 (by decide) d_Trm_weigh_35 (fun c23 => ?_) (fun c23 => ?_)
  · have h := ht c23
    refine Aw.iload rfl d_Trm_weigh_72 ?_
    refine Aw.istore (by decide) d_Trm_weigh_74 ?_
    refine Aw.toL (L' := [xr (some a0), xi v1, xi v2, xi v3, xi v4, xi v4, xu]) rfl ?_
    exact h
  · have h := hf c23
    refine Aw.aload_n rfl d_Trm_weigh_38 ?_
    obtain ⟨o3, h⟩ := h
    obtain ⟨b4, e5, h⟩ := h
    refine Aw.getRs (f := 645) 10 5 fl_Trm_30 (by decide) (by decide) rfl rfl o3 e5 d_Trm_weigh_39 ?_
    refine Aw.iload rfl d_Trm_weigh_42 ?_
    obtain ⟨o6, h⟩ := h
    obtain ⟨o7, o8, h⟩ := h
    refine Aw.aald 3 (by decide) (by decide) o6 o7 o8 d_Trm_weigh_44 ?_
    refine Aw.iload rfl d_Trm_weigh_45 ?_
    refine Aw.iconst d_Trm_weigh_47 ?_
    refine Aw.isub d_Trm_weigh_48 ?_
    refine Aw.aload_n rfl d_Trm_weigh_49 ?_
    refine Aw.getRs (f := 645) 10 5 fl_Trm_30 (by decide) (by decide) rfl rfl o3 e5 d_Trm_weigh_50 ?_
    refine Aw.iload rfl d_Trm_weigh_53 ?_
    refine Aw.iconst d_Trm_weigh_55 ?_
    refine Aw.isub d_Trm_weigh_56 ?_
    obtain ⟨o9, o10, h⟩ := h
    refine Aw.aald 3 (by decide) (by decide) o6 o9 o10 d_Trm_weigh_57 ?_
    refine Aw.iload rfl d_Trm_weigh_58 ?_
    refine Aw.iconst d_Trm_weigh_60 ?_
    refine Aw.isub d_Trm_weigh_61 ?_
    obtain ⟨b11, e12, h⟩ := h
    refine Aw.der1 e12 ?_
    obtain ⟨o13, h⟩ := h
    obtain ⟨o14, o15, h⟩ := h
    refine Aw.iald o13 o14 o15 d_Trm_weigh_62 (fun r16 => ?_)
    have h := h r16
    refine Aw.iconst d_Trm_weigh_63 ?_
    refine Aw.iadd d_Trm_weigh_64 ?_
    obtain ⟨b17, e18, h⟩ := h
    refine Aw.der2 e18 ?_
    obtain ⟨o19, h⟩ := h
    obtain ⟨o20, o21, h⟩ := h
    obtain ⟨o22, h⟩ := h
    refine Aw.iast o19 o20 o21 o22 d_Trm_weigh_65 ?_
    refine Aw.iinc rfl d_Trm_weigh_66 ?_
    refine Aw.toL (L' := [xr (some a0), xi v1, xi v2, xi v3, xi v4, xi (v5 + 1), xu]) rfl ?_
    refine Aw.goto (tgt := 32) (by decide) d_Trm_weigh_69 ?_
    exact h
theorem b_Trm_weigh_76 {Ω : Om} {R : Room} {F : QF} {k n : Nat} {σ : Sto} {a0 : Nat} {v1 : Int} {v2 : Int} {v3 : Int} {v4 : Int} {v5 : Int} (h : Q32 v5 ∧ Q32 v2 ∧ ((v2 < v5 → Aw Ω M_Trm_weigh R F k n 117 [xr (some a0), xi v1, xi v2, xi v3, xi v4, xi v3, xu] [] σ) ∧ (¬ v2 < v5 → sK σ a0 = 11 ∧ (∃ b4 : Nat, fR σ 645 a0 = some b4 ∧ sK σ b4 = 53 ∧ 0 ≤ (v3 - 1) ∧ (v3 - 1) < sZ σ b4 ∧ ∃ b9 : Nat, aR σ b4 (v3 - 1).toNat = some b9 ∧ sK σ b9 = 50 ∧ 0 ≤ (v5 - 1) ∧ (v5 - 1) < sZ σ b9 ∧ (Q32 (aI σ b9 (v5 - 1).toNat) → ∃ b15 : Nat, aR σ b4 (v3 - 1).toNat = some b15 ∧ sK σ b15 = 50 ∧ 0 ≤ v5 ∧ v5 < sZ σ b15 ∧ Q32 ((aI σ b9 (v5 - 1).toNat) + 1) ∧ Aw Ω M_Trm_weigh R F k n 76 [xr (some a0), xi v1, xi v2, xi v3, xi v4, xi (v5 + 1), xu] [] (vI σ b15 (v5).toNat ((aI σ b9 (v5 - 1).toNat) + 1))))))) : Aw Ω M_Trm_weigh R F k n 76 [xr (some a0), xi v1, xi v2, xi v3, xi v4, xi v5, xu] [] σ := by
  refine Aw.iload rfl d_Trm_weigh_76 ?_
  refine Aw.iload_n rfl d_Trm_weigh_78 ?_
  obtain ⟨o1, h⟩ := h
  obtain ⟨o2, h⟩ := h
  obtain ⟨ht, hf⟩ := h
  refine Aw.icmp_gt (tgt := 114) o1 o2 (by decide) d_Trm_weigh_79 (fun c21 => ?_) (fun c21 => ?_)
  · have h := ht c21
    refine Aw.iload_n rfl d_Trm_weigh_114 ?_
    refine Aw.istore (by decide) d_Trm_weigh_115 ?_
    refine Aw.toL (L' := [xr (some a0), xi v1, xi v2, xi v3, xi v4, xi v3, xu]) rfl ?_
    exact h
  · have h := hf c21
    refine Aw.aload_n rfl d_Trm_weigh_82 ?_
    obtain ⟨o3, h⟩ := h
    obtain ⟨b4, e5, h⟩ := h
    refine Aw.getRs (f := 645) 10 5 fl_Trm_30 (by decide) (by decide) rfl rfl o3 e5 d_Trm_weigh_83 ?_
    refine Aw.iload_n rfl d_Trm_weigh_86 ?_
    refine Aw.iconst d_Trm_weigh_87 ?_
    refine Aw.isub d_Trm_weigh_88 ?_
    obtain ⟨o6, h⟩ := h
    obtain ⟨o7, o8, h⟩ := h
    refine Aw.aald 3 (by decide) (by decide) o6 o7 o8 d_Trm_weigh_89 ?_
    refine Aw.iload rfl d_Trm_weigh_90 ?_
    refine Aw.aload_n rfl d_Trm_weigh_92 ?_
    refine Aw.getRs (f := 645) 10 5 fl_Trm_30 (by decide) (by decide) rfl rfl o3 e5 d_Trm_weigh_93 ?_
    refine Aw.iload_n rfl d_Trm_weigh_96 ?_
    refine Aw.iconst d_Trm_weigh_97 ?_
    refine Aw.isub d_Trm_weigh_98 ?_
    refine Aw.aald 3 (by decide) (by decide) o6 o7 o8 d_Trm_weigh_99 ?_
    refine Aw.iload rfl d_Trm_weigh_100 ?_
    refine Aw.iconst d_Trm_weigh_102 ?_
    refine Aw.isub d_Trm_weigh_103 ?_
    obtain ⟨b9, e10, h⟩ := h
    refine Aw.der1 e10 ?_
    obtain ⟨o11, h⟩ := h
    obtain ⟨o12, o13, h⟩ := h
    refine Aw.iald o11 o12 o13 d_Trm_weigh_104 (fun r14 => ?_)
    have h := h r14
    refine Aw.iconst d_Trm_weigh_105 ?_
    refine Aw.iadd d_Trm_weigh_106 ?_
    obtain ⟨b15, e16, h⟩ := h
    refine Aw.der2 e16 ?_
    obtain ⟨o17, h⟩ := h
    obtain ⟨o18, o19, h⟩ := h
    obtain ⟨o20, h⟩ := h
    refine Aw.iast o17 o18 o19 o20 d_Trm_weigh_107 ?_
    refine Aw.iinc rfl d_Trm_weigh_108 ?_
    refine Aw.toL (L' := [xr (some a0), xi v1, xi v2, xi v3, xi v4, xi (v5 + 1), xu]) rfl ?_
    refine Aw.goto (tgt := 76) (by decide) d_Trm_weigh_111 ?_
    exact h
theorem b_Trm_weigh_117 {Ω : Om} {R : Room} {F : QF} {k n : Nat} {σ : Sto} {a0 : Nat} {v1 : Int} {v2 : Int} {v3 : Int} {v4 : Int} {v5 : Int} (h : Q32 v5 ∧ Q32 v1 ∧ ((v1 < v5 → Aw Ω M_Trm_weigh R F k n 166 [xr (some a0), xi v1, xi v2, xi v3, xi v4, xi v5, xu] [] σ) ∧ (¬ v1 < v5 → Aw Ω M_Trm_weigh R F k n 127 [xr (some a0), xi v1, xi v2, xi v3, xi v4, xi v5, xi v4] [] σ))) : Aw Ω M_Trm_weigh R F k n 117 [xr (some a0), xi v1, xi v2, xi v3, xi v4, xi v5, xu] [] σ := by
  refine Aw.iload rfl d_Trm_weigh_117 ?_
  refine Aw.iload_n rfl d_Trm_weigh_119 ?_
  obtain ⟨o1, h⟩ := h
  obtain ⟨o2, h⟩ := h
  obtain ⟨ht, hf⟩ := h
  refine Aw.icmp_gt (tgt := 166) o1 o2 (by decide) d_Trm_weigh_120 (fun c3 => ?_) (fun c3 => ?_)
  · have h := ht c3
    exact h
  · have h := hf c3
    refine Aw.iload rfl d_Trm_weigh_123 ?_
    refine Aw.istore (by decide) d_Trm_weigh_125 ?_
    refine Aw.toL (L' := [xr (some a0), xi v1, xi v2, xi v3, xi v4, xi v5, xi v4]) rfl ?_
    exact h
theorem b_Trm_weigh_127 {Ω : Om} {R : Room} {F : QF} {k n : Nat} {σ : Sto} {a0 : Nat} {v1 : Int} {v2 : Int} {v3 : Int} {v4 : Int} {v5 : Int} {v6 : Int} (h : Q32 v6 ∧ Q32 v2 ∧ ((v2 < v6 → Aw Ω M_Trm_weigh R F k n 117 [xr (some a0), xi v1, xi v2, xi v3, xi v4, xi (v5 + 1), xu] [] σ) ∧ (¬ v2 < v6 → sK σ a0 = 11 ∧ (∃ b4 : Nat, fR σ 645 a0 = some b4 ∧ sK σ b4 = 53 ∧ 0 ≤ v5 ∧ v5 < sZ σ b4 ∧ Aw Ω M_Trm_weigh R F k n 150 [xr (some a0), xi v1, xi v2, xi v3, xi v4, xi v5, xi v6] [xi v4, xi v3, xi v6, xi v5, xr (some a0), xi v6, xr (aR σ b4 (v5).toNat)] σ)))) : Aw Ω M_Trm_weigh R F k n 127 [xr (some a0), xi v1, xi v2, xi v3, xi v4, xi v5, xi v6] [] σ := by
  refine Aw.iload rfl d_Trm_weigh_127 ?_
  refine Aw.iload_n rfl d_Trm_weigh_129 ?_
  obtain ⟨o1, h⟩ := h
  obtain ⟨o2, h⟩ := h
  obtain ⟨ht, hf⟩ := h
  refine Aw.icmp_gt (tgt := 160) o1 o2 (by decide) d_Trm_weigh_130 (fun c9 => ?_) (fun c9 => ?_)
  · have h := ht c9
    refine Aw.iinc rfl d_Trm_weigh_160 ?_
    refine Aw.toL (L' := [xr (some a0), xi v1, xi v2, xi v3, xi v4, xi (v5 + 1), xi v6]) rfl ?_
    refine Aw.goto (tgt := 117) (by decide) d_Trm_weigh_163 ?_
    exact Aw.toW (L' := [xr (some a0), xi v1, xi v2, xi v3, xi v4, xi (v5 + 1), xu]) ⟨Or.inr rfl, Or.inr rfl, Or.inr rfl, Or.inr rfl, Or.inr rfl, Or.inr rfl, Or.inl rfl, trivial⟩ h
  · have h := hf c9
    refine Aw.aload_n rfl d_Trm_weigh_133 ?_
    obtain ⟨o3, h⟩ := h
    obtain ⟨b4, e5, h⟩ := h
    refine Aw.getRs (f := 645) 10 5 fl_Trm_30 (by decide) (by decide) rfl rfl o3 e5 d_Trm_weigh_134 ?_
    refine Aw.iload rfl d_Trm_weigh_137 ?_
    obtain ⟨o6, h⟩ := h
    obtain ⟨o7, o8, h⟩ := h
    refine Aw.aald 3 (by decide) (by decide) o6 o7 o8 d_Trm_weigh_139 ?_
    refine Aw.iload rfl d_Trm_weigh_140 ?_
    refine Aw.aload_n rfl d_Trm_weigh_142 ?_
    refine Aw.iload rfl d_Trm_weigh_143 ?_
    refine Aw.iload rfl d_Trm_weigh_145 ?_
    refine Aw.iload_n rfl d_Trm_weigh_147 ?_
    refine Aw.iload rfl d_Trm_weigh_148 ?_
    exact h
theorem b_Trm_weigh_153 {Ω : Om} {R : Room} {F : QF} {k n : Nat} {σ : Sto} {a0 : Nat} {v1 : Int} {v2 : Int} {v3 : Int} {v4 : Int} {v5 : Int} {v6 : Int} {s0 : Nat} {s1 : Int} {s2 : Int} (h : sK σ s0 = 50 ∧ 0 ≤ s1 ∧ s1 < sZ σ s0 ∧ Q32 s2 ∧ Aw Ω M_Trm_weigh R F k n 127 [xr (some a0), xi v1, xi v2, xi v3, xi v4, xi v5, xi (v6 + 1)] [] (vI σ s0 (s1).toNat s2)) : Aw Ω M_Trm_weigh R F k n 153 [xr (some a0), xi v1, xi v2, xi v3, xi v4, xi v5, xi v6] [xi s2, xi s1, xr (some s0)] σ := by
  obtain ⟨o1, h⟩ := h
  obtain ⟨o2, o3, h⟩ := h
  obtain ⟨o4, h⟩ := h
  refine Aw.iast o1 o2 o3 o4 d_Trm_weigh_153 ?_
  refine Aw.iinc rfl d_Trm_weigh_154 ?_
  refine Aw.toL (L' := [xr (some a0), xi v1, xi v2, xi v3, xi v4, xi v5, xi (v6 + 1)]) rfl ?_
  refine Aw.goto (tgt := 127) (by decide) d_Trm_weigh_157 ?_
  exact h
theorem c_Trm_weigh_150 {Ω : Om} {R R' : Room} {F : QF} {k n : Nat} {L st : List PV} {σ : Sto} {QX' : String → Sto → Prop} {Q : Int → Sto → Prop} {a : Nat} {x0 : Int} {x1 : Int} {x2 : Int} {x3 : Int} (hc : MC Ω M_Trm_leastCost R' (RI Q) QX' σ [xr (some a), xi x0, xi x1, xi x2, xi x3]) (hk : sK σ a = 11) (hr1 : R'.frames + 1 ≤ R.frames) (hr2 : 8 + (7 + 11) + R'.locals ≤ R.locals) (hb1 : k + R'.cells ≤ R.cells) (hb2 : n + R'.slots ≤ R.slots) (hst : (st.map catP).sum ≤ 8) (kk : ∀ x σ', Q x σ' → Aw Ω M_Trm_weigh R F (k + R'.cells) (n + R'.slots) 153 L (xi x :: st) σ') (kx : ∀ E σ', QX' E σ' → Ax Ω M_Trm_weigh R F (k + R'.cells) (n + R'.slots) 150 L st σ' E) : Aw Ω M_Trm_weigh R F k n 150 L (xi x3 :: xi x2 :: xi x1 :: xi x0 :: xr (some a) :: st) σ :=
  Aw.callV (As := [xi x0, xi x1, xi x2, xi x3]) (stk := xi x3 :: xi x2 :: xi x1 :: xi x0 :: xr (some a) :: st) (nn := 4) 10 M_Trm_leastCost hc ok_Trm_leastCost rfl (by decide) rfl hk ml_Trm_91 im_Trm_leastCost se_Trm_leastCost ⟨hr1, hr2⟩ rfl ⟨hb1, hb2⟩ hst rfl d_Trm_weigh_150 (fun r σ' h => by obtain ⟨x, rfl, h⟩ := h; exact kk x σ' h) kx
theorem r_Trm_weigh_166 {Ω : Om} {R : Room} {k n : Nat} {L : List PV} {σ : Sto} {QR : Option PV → Sto → Prop} {QX : String → Sto → Prop} (h : QR none σ) (h1 : k ≤ R.cells) (h2 : n ≤ R.slots) : Aw Ω M_Trm_weigh R (MF Ω R QR QX) k n 166 L [] σ := Aw.vret rfl h h1 h2 d_Trm_weigh_166
