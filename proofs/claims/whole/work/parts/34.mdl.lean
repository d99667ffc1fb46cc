/-! walks of the reference, 4 (by program) -/
theorem e_Mdl_turn {Ω : Om} {R : Room} {QR : Option PV → Sto → Prop} {QX : String → Sto → Prop} {σ : Sto} {a0 : Nat} {v1 : Int} (h : Aw Ω M_Mdl_turn R (MF Ω R QR QX) 0 0 0 [xr (some a0), xi v1, xu, xu, xu, xu] [] σ) : MC Ω M_Mdl_turn R QR QX σ [xr (some a0), xi v1] := MC.body (by decide +kernel) rfl (Nat.le_of_ble_eq_true rfl) rfl h
theorem b_Mdl_turn_0 {Ω : Om} {R : Room} {F : QF} {k n : Nat} {σ : Sto} {a0 : Nat} {v1 : Int} (h : Aw Ω M_Mdl_turn R F k n 3 [xr (some a0), xi v1, xu, xu, xu, xu] [xi v1, xr (some a0), xr (some a0)] σ) : Aw Ω M_Mdl_turn R F k n 0 [xr (some a0), xi v1, xu, xu, xu, xu] [] σ := by
  refine Aw.aload_n rfl d_Mdl_turn_0 ?_
  refine Aw.aload_n rfl d_Mdl_turn_1 ?_
  refine Aw.iload_n rfl d_Mdl_turn_2 ?_
  exact h
theorem b_Mdl_turn_6 {Ω : Om} {R : Room} {F : QF} {k n : Nat} {σ : Sto} {a0 : Nat} {v1 : Int} {s0 : Nat} {s1 : Int} (h : Q32 s1 ∧ ((¬ s1 = (0 : Int) → sK σ a0 = 13 ∧ (Q32 (fI σ 797 a0) → ((¬ (fI σ 797 a0) = (10 : Int) → Aw Ω M_Mdl_turn R F k n 27 [xr (some a0), xi v1, xu, xu, xu, xu] [xi 0, xr (some s0)] σ) ∧ ((fI σ 797 a0) = (10 : Int) → Aw Ω M_Mdl_turn R F k n 27 [xr (some a0), xi v1, xu, xu, xu, xu] [xi 2, xr (some s0)] σ)))) ∧ (s1 = (0 : Int) → Aw Ω M_Mdl_turn R F k n 27 [xr (some a0), xi v1, xu, xu, xu, xu] [xi 1, xr (some s0)] σ))) : Aw Ω M_Mdl_turn R F k n 6 [xr (some a0), xi v1, xu, xu, xu, xu] [xi s1, xr (some s0)] σ := by
  obtain ⟨o1, h⟩ := h
  obtain ⟨ht, hf⟩ := h
  refine Aw.if_ne (tgt := 13) o1 (by decide) d_Mdl_turn_6 (fun c5 => ?_) (fun c5 => ?_)
  · have h := ht c5
    refine Aw.aload_n rfl d_Mdl_turn_13 ?_
    obtain ⟨o2, h⟩ := h
    refine Aw.getI (f := 797) 12 29 fl_Mdl_317 (by decide) (by decide) rfl rfl o2 d_Mdl_turn_14 (fun r3 => ?_)
    have h := h r3
    refine Aw.bipush (by decide) d_Mdl_turn_17 ?_
    obtain ⟨ht, hf⟩ := h
    refine Aw.icmp_ne (tgt := 26) r3 ⟨by decide, by decide⟩ (by decide) d_Mdl_turn_19 (fun c4 => ?_) (fun c4 => ?_)
    · have h := ht c4
      refine Aw.iconst d_Mdl_turn_26 ?_
      exact h
    · have h := hf c4
      refine Aw.iconst d_Mdl_turn_22 ?_
      refine Aw.goto (tgt := 27) (by decide) d_Mdl_turn_23 ?_
      exact h
  · have h := hf c5
    refine Aw.iconst d_Mdl_turn_9 ?_
    refine Aw.goto (tgt := 27) (by decide) d_Mdl_turn_10 ?_
    exact h
theorem b_Mdl_turn_30 {Ω : Om} {R : Room} {F : QF} {k n : Nat} {σ : Sto} {a0 : Nat} {v1 : Int} {s0 : Int} (h : Q32 s0 ∧ ((s0 = (0 : Int) → sK σ a0 = 13 ∧ (∃ b3 : Nat, fR σ 798 a0 = some b3 ∧ (Q32 (fI σ 797 a0) → sK σ b3 = 50 ∧ 0 ≤ v1 ∧ v1 < sZ σ b3 ∧ (Q32 (aI σ b3 (v1).toNat) → 0 ≤ (fI σ 797 a0) ∧ (fI σ 797 a0) < sZ σ b3 ∧ Aw Ω M_Mdl_turn R F k n 52 [xr (some a0), xi v1, xi 0, xu, xu, xu] [] (vI σ b3 (fI σ 797 a0).toNat (aI σ b3 (v1).toNat)))))) ∧ (¬ s0 = (0 : Int) → Aw Ω M_Mdl_turn R F k n 34 [xr (some a0), xi v1, xu, xu, xu, xu] [xi 0] σ))) : Aw Ω M_Mdl_turn R F k n 30 [xr (some a0), xi v1, xu, xu, xu, xu] [xi s0] σ := by
  obtain ⟨o1, h⟩ := h
  obtain ⟨ht, hf⟩ := h
  refine Aw.if_eq (tgt := 35) o1 (by decide) d_Mdl_turn_30 (fun c12 => ?_) (fun c12 => ?_)
  · have h := ht c12
    refine Aw.aload_n rfl d_Mdl_turn_35 ?_
    obtain ⟨o2, h⟩ := h
    obtain ⟨b3, e4, h⟩ := h
    refine Aw.getRs (f := 798) 12 30 fl_Mdl_59 (by decide) (by decide) rfl rfl o2 e4 d_Mdl_turn_36 ?_
    refine Aw.aload_n rfl d_Mdl_turn_39 ?_
    refine Aw.getI (f := 797) 12 29 fl_Mdl_317 (by decide) (by decide) rfl rfl o2 d_Mdl_turn_40 (fun r5 => ?_)
    have h := h r5
    refine Aw.aload_n rfl d_Mdl_turn_43 ?_
    refine Aw.getRs (f := 798) 12 30 fl_Mdl_59 (by decide) (by decide) rfl rfl o2 e4 d_Mdl_turn_44 ?_
    refine Aw.iload_n rfl d_Mdl_turn_47 ?_
    obtain ⟨o6, h⟩ := h
    obtain ⟨o7, o8, h⟩ := h
    refine Aw.iald o6 o7 o8 d_Mdl_turn_48 (fun r9 => ?_)
    have h := h r9
    obtain ⟨o10, o11, h⟩ := h
    refine Aw.iast o6 o10 o11 r9 d_Mdl_turn_49 ?_
    refine Aw.iconst d_Mdl_turn_50 ?_
    refine Aw.istore_n (by decide) d_Mdl_turn_51 ?_
    refine Aw.toL (L' := [xr (some a0), xi v1, xi 0, xu, xu, xu]) rfl ?_
    exact h
  · have h := hf c12
    refine Aw.iconst d_Mdl_turn_33 ?_
    exact h
theorem b_Mdl_turn_52 {Ω : Om} {R : Room} {F : QF} {k n : Nat} {σ : Sto} {a0 : Nat} {v1 : Int} {v2 : Int} (h : sK σ a0 = 13 ∧ (∃ b2 : Nat, fR σ 798 a0 = some b2 ∧ sK σ b2 = 50 ∧ 0 ≤ v1 ∧ v1 < sZ σ b2 ∧ (Q32 (aI σ b2 (v1).toNat) → Q32 v2 ∧ (((aI σ b2 (v1).toNat) ≤ v2 → (Q32 (fI σ 797 a0) → Q32 ((fI σ 797 a0) + 1) ∧ Aw Ω M_Mdl_turn R F k n 315 [xr (some a0), xi v1, xi v2, xu, xu, xu] [] (uI σ 797 a0 ((fI σ 797 a0) + 1)))) ∧ (¬ (aI σ b2 (v1).toNat) ≤ v2 → (Q32 (fI σ 797 a0) → (∃ b12 : Nat, fR σ 799 a0 = some b12 ∧ (∃ b14 : Nat, fR σ 800 a0 = some b14 ∧ sK σ b14 = 50 ∧ 0 ≤ ((21 * v1) + v2) ∧ ((21 * v1) + v2) < sZ σ b14 ∧ (Q32 (aI σ b14 ((21 * v1) + v2).toNat) → sK σ b12 = 50 ∧ 0 ≤ ((21 * (fI σ 797 a0)) + v2) ∧ ((21 * (fI σ 797 a0)) + v2) < sZ σ b12 ∧ Aw Ω M_Mdl_turn R F k n 93 [xr (some a0), xi v1, xi v2, xi ((21 * v1) + v2), xi ((21 * (fI σ 797 a0)) + v2), xu] [] (vI σ b12 ((21 * (fI σ 797 a0)) + v2).toNat (aI σ b14 ((21 * v1) + v2).toNat))))))))))) : Aw Ω M_Mdl_turn R F k n 52 [xr (some a0), xi v1, xi v2, xu, xu, xu] [] σ := by
  refine Aw.iload_n rfl d_Mdl_turn_52 ?_
  refine Aw.aload_n rfl d_Mdl_turn_53 ?_
  obtain ⟨o1, h⟩ := h
  obtain ⟨b2, e3, h⟩ := h
  refine Aw.getRs (f := 798) 12 30 fl_Mdl_59 (by decide) (by decide) rfl rfl o1 e3 d_Mdl_turn_54 ?_
  refine Aw.iload_n rfl d_Mdl_turn_57 ?_
  obtain ⟨o4, h⟩ := h
  obtain ⟨o5, o6, h⟩ := h
  refine Aw.iald o4 o5 o6 d_Mdl_turn_58 (fun r7 => ?_)
  have h := h r7
  obtain ⟨o8, h⟩ := h
  obtain ⟨ht, hf⟩ := h
  refine Aw.icmp_ge (tgt := 305) o8 r7 (by decide) d_Mdl_turn_59 (fun c23 => ?_) (fun c23 => ?_)
  · have h := ht c23
    refine Aw.aload_n rfl d_Mdl_turn_305 ?_
    refine Aw.dup rfl d_Mdl_turn_306 ?_
    refine Aw.getI (f := 797) 12 29 fl_Mdl_317 (by decide) (by decide) rfl rfl o1 d_Mdl_turn_307 (fun r9 => ?_)
    have h := h r9
    refine Aw.iconst d_Mdl_turn_310 ?_
    refine Aw.iadd d_Mdl_turn_311 ?_
    obtain ⟨o10, h⟩ := h
    refine Aw.putI (f := 797) 12 29 fl_Mdl_317 (by decide) (by decide) rfl rfl o1 rfl o10 (Or.inl rfl) d_Mdl_turn_312 ?_
    exact h
  · have h := hf c23
    refine Aw.bipush (by decide) d_Mdl_turn_62 ?_
    refine Aw.iload_n rfl d_Mdl_turn_64 ?_
    refine Aw.imul d_Mdl_turn_65 ?_
    refine Aw.iload_n rfl d_Mdl_turn_66 ?_
    refine Aw.iadd d_Mdl_turn_67 ?_
    refine Aw.istore_n (by decide) d_Mdl_turn_68 ?_
    refine Aw.toL (L' := [xr (some a0), xi v1, xi v2, xi ((21 * v1) + v2), xu, xu]) rfl ?_
    refine Aw.bipush (by decide) d_Mdl_turn_69 ?_
    refine Aw.aload_n rfl d_Mdl_turn_71 ?_
    refine Aw.getI (f := 797) 12 29 fl_Mdl_317 (by decide) (by decide) rfl rfl o1 d_Mdl_turn_72 (fun r11 => ?_)
    have h := h r11
    refine Aw.imul d_Mdl_turn_75 ?_
    refine Aw.iload_n rfl d_Mdl_turn_76 ?_
    refine Aw.iadd d_Mdl_turn_77 ?_
    refine Aw.istore (by decide) d_Mdl_turn_78 ?_
    refine Aw.toL (L' := [xr (some a0), xi v1, xi v2, xi ((21 * v1) + v2), xi ((21 * (fI σ 797 a0)) + v2), xu]) rfl ?_
    refine Aw.aload_n rfl d_Mdl_turn_80 ?_
    obtain ⟨b12, e13, h⟩ := h
    refine Aw.getRs (f := 799) 12 31 fl_Mdl_62 (by decide) (by decide) rfl rfl o1 e13 d_Mdl_turn_81 ?_
    refine Aw.iload rfl d_Mdl_turn_84 ?_
    refine Aw.aload_n rfl d_Mdl_turn_86 ?_
    obtain ⟨b14, e15, h⟩ := h
    refine Aw.getRs (f := 800) 12 32 fl_Mdl_65 (by decide) (by decide) rfl rfl o1 e15 d_Mdl_turn_87 ?_
    refine Aw.iload_n rfl d_Mdl_turn_90 ?_
    obtain ⟨o16, h⟩ := h
    obtain ⟨o17, o18, h⟩ := h
    refine Aw.iald o16 o17 o18 d_Mdl_turn_91 (fun r19 => ?_)
    have h := h r19
    obtain ⟨o20, h⟩ := h
    obtain ⟨o21, o22, h⟩ := h
    refine Aw.iast o20 o21 o22 r19 d_Mdl_turn_92 ?_
    exact h
theorem b_Mdl_turn_93 {Ω : Om} {R : Room} {F : QF} {k n : Nat} {σ : Sto} {a0 : Nat} {v1 : Int} {v2 : Int} {v3 : Int} {v4 : Int} (h : sK σ a0 = 13 ∧ (∃ b2 : Nat, fR σ 800 a0 = some b2 ∧ (∃ b4 : Nat, fR σ 799 a0 = some b4 ∧ sK σ b4 = 50 ∧ 0 ≤ v3 ∧ v3 < sZ σ b4 ∧ (Q32 (aI σ b4 (v3).toNat) → sK σ b2 = 50 ∧ 0 ≤ v4 ∧ v4 < sZ σ b2 ∧ Aw Ω M_Mdl_turn R F k n 106 [xr (some a0), xi v1, xi v2, xi v3, xi v4, xu] [] (vI σ b2 (v4).toNat (aI σ b4 (v3).toNat)))))) : Aw Ω M_Mdl_turn R F k n 93 [xr (some a0), xi v1, xi v2, xi v3, xi v4, xu] [] σ := by
  refine Aw.aload_n rfl d_Mdl_turn_93 ?_
  obtain ⟨o1, h⟩ := h
  obtain ⟨b2, e3, h⟩ := h
  refine Aw.getRs (f := 800) 12 32 fl_Mdl_65 (by decide) (by decide) rfl rfl o1 e3 d_Mdl_turn_94 ?_
  refine Aw.iload rfl d_Mdl_turn_97 ?_
  refine Aw.aload_n rfl d_Mdl_turn_99 ?_
  obtain ⟨b4, e5, h⟩ := h
  refine Aw.getRs (f := 799) 12 31 fl_Mdl_62 (by decide) (by decide) rfl rfl o1 e5 d_Mdl_turn_100 ?_
  refine Aw.iload_n rfl d_Mdl_turn_103 ?_
  obtain ⟨o6, h⟩ := h
  obtain ⟨o7, o8, h⟩ := h
  refine Aw.iald o6 o7 o8 d_Mdl_turn_104 (fun r9 => ?_)
  have h := h r9
  obtain ⟨o10, h⟩ := h
  obtain ⟨o11, o12, h⟩ := h
  refine Aw.iast o10 o11 o12 r9 d_Mdl_turn_105 ?_
  exact h
theorem b_Mdl_turn_106 {Ω : Om} {R : Room} {F : QF} {k n : Nat} {σ : Sto} {a0 : Nat} {v1 : Int} {v2 : Int} {v3 : Int} {v4 : Int} (h : sK σ a0 = 13 ∧ (∃ b2 : Nat, fR σ 801 a0 = some b2 ∧ sK σ b2 = 50 ∧ 0 ≤ ((4 * v3) + 1) ∧ ((4 * v3) + 1) < sZ σ b2 ∧ (Q32 (aI σ b2 ((4 * v3) + 1).toNat) → 0 ≤ (4 * v4) ∧ (4 * v4) < sZ σ b2 ∧ Aw Ω M_Mdl_turn R F k n 125 [xr (some a0), xi v1, xi v2, xi v3, xi v4, xu] [] (vI σ b2 (4 * v4).toNat (aI σ b2 ((4 * v3) + 1).toNat))))) : Aw Ω M_Mdl_turn R F k n 106 [xr (some a0), xi v1, xi v2, xi v3, xi v4, xu] [] σ := by
  refine Aw.aload_n rfl d_Mdl_turn_106 ?_
  obtain ⟨o1, h⟩ := h
  obtain ⟨b2, e3, h⟩ := h
  refine Aw.getRs (f := 801) 12 33 fl_Mdl_68 (by decide) (by decide) rfl rfl o1 e3 d_Mdl_turn_107 ?_
  refine Aw.iconst d_Mdl_turn_110 ?_
  refine Aw.iload rfl d_Mdl_turn_111 ?_
  refine Aw.imul d_Mdl_turn_113 ?_
  refine Aw.aload_n rfl d_Mdl_turn_114 ?_
  refine Aw.getRs (f := 801) 12 33 fl_Mdl_68 (by decide) (by decide) rfl rfl o1 e3 d_Mdl_turn_115 ?_
  refine Aw.iconst d_Mdl_turn_118 ?_
  refine Aw.iload_n rfl d_Mdl_turn_119 ?_
  refine Aw.imul d_Mdl_turn_120 ?_
  refine Aw.iconst d_Mdl_turn_121 ?_
  refine Aw.iadd d_Mdl_turn_122 ?_
  obtain ⟨o4, h⟩ := h
  obtain ⟨o5, o6, h⟩ := h
  refine Aw.iald o4 o5 o6 d_Mdl_turn_123 (fun r7 => ?_)
  have h := h r7
  obtain ⟨o8, o9, h⟩ := h
  refine Aw.iast o4 o8 o9 r7 d_Mdl_turn_124 ?_
  exact h
theorem b_Mdl_turn_125 {Ω : Om} {R : Room} {F : QF} {k n : Nat} {σ : Sto} {a0 : Nat} {v1 : Int} {v2 : Int} {v3 : Int} {v4 : Int} (h : sK σ a0 = 13 ∧ (∃ b2 : Nat, fR σ 801 a0 = some b2 ∧ sK σ b2 = 50 ∧ 0 ≤ (4 * v3) ∧ (4 * v3) < sZ σ b2 ∧ (Q32 (aI σ b2 (4 * v3).toNat) → 0 ≤ ((4 * v4) + 1) ∧ ((4 * v4) + 1) < sZ σ b2 ∧ Aw Ω M_Mdl_turn R F k n 144 [xr (some a0), xi v1, xi v2, xi v3, xi v4, xu] [] (vI σ b2 ((4 * v4) + 1).toNat (aI σ b2 (4 * v3).toNat))))) : Aw Ω M_Mdl_turn R F k n 125 [xr (some a0), xi v1, xi v2, xi v3, xi v4, xu] [] σ := by
  refine Aw.aload_n rfl d_Mdl_turn_125 ?_
  obtain ⟨o1, h⟩ := h
  obtain ⟨b2, e3, h⟩ := h
  refine Aw.getRs (f := 801) 12 33 fl_Mdl_68 (by decide) (by decide) rfl rfl o1 e3 d_Mdl_turn_126 ?_
  refine Aw.iconst d_Mdl_turn_129 ?_
  refine Aw.iload rfl d_Mdl_turn_130 ?_
  refine Aw.imul d_Mdl_turn_132 ?_
  refine Aw.iconst d_Mdl_turn_133 ?_
  refine Aw.iadd d_Mdl_turn_134 ?_
  refine Aw.aload_n rfl d_Mdl_turn_135 ?_
  refine Aw.getRs (f := 801) 12 33 fl_Mdl_68 (by decide) (by decide) rfl rfl o1 e3 d_Mdl_turn_136 ?_
  refine Aw.iconst d_Mdl_turn_139 ?_
  refine Aw.iload_n rfl d_Mdl_turn_140 ?_
  refine Aw.imul d_Mdl_turn_141 ?_
  obtain ⟨o4, h⟩ := h
  obtain ⟨o5, o6, h⟩ := h
  refine Aw.iald o4 o5 o6 d_Mdl_turn_142 (fun r7 => ?_)
  have h := h r7
  obtain ⟨o8, o9, h⟩ := h
  refine Aw.iast o4 o8 o9 r7 d_Mdl_turn_143 ?_
  exact h
theorem b_Mdl_turn_144 {Ω : Om} {R : Room} {F : QF} {k n : Nat} {σ : Sto} {a0 : Nat} {v1 : Int} {v2 : Int} {v3 : Int} {v4 : Int} (h : sK σ a0 = 13 ∧ (∃ b2 : Nat, fR σ 801 a0 = some b2 ∧ sK σ b2 = 50 ∧ 0 ≤ ((4 * v3) + 2) ∧ ((4 * v3) + 2) < sZ σ b2 ∧ (Q32 (aI σ b2 ((4 * v3) + 2).toNat) → 0 ≤ ((4 * v4) + 2) ∧ ((4 * v4) + 2) < sZ σ b2 ∧ Aw Ω M_Mdl_turn R F k n 165 [xr (some a0), xi v1, xi v2, xi v3, xi v4, xu] [] (vI σ b2 ((4 * v4) + 2).toNat (aI σ b2 ((4 * v3) + 2).toNat))))) : Aw Ω M_Mdl_turn R F k n 144 [xr (some a0), xi v1, xi v2, xi v3, xi v4, xu] [] σ := by
  refine Aw.aload_n rfl d_Mdl_turn_144 ?_
  obtain ⟨o1, h⟩ := h
  obtain ⟨b2, e3, h⟩ := h
  refine Aw.getRs (f := 801) 12 33 fl_Mdl_68 (by decide) (by decide) rfl rfl o1 e3 d_Mdl_turn_145 ?_
  refine Aw.iconst d_Mdl_turn_148 ?_
  refine Aw.iload rfl d_Mdl_turn_149 ?_
  refine Aw.imul d_Mdl_turn_151 ?_
  refine Aw.iconst d_Mdl_turn_152 ?_
  refine Aw.iadd d_Mdl_turn_153 ?_
  refine Aw.aload_n rfl d_Mdl_turn_154 ?_
  refine Aw.getRs (f := 801) 12 33 fl_Mdl_68 (by decide) (by decide) rfl rfl o1 e3 d_Mdl_turn_155 ?_
  refine Aw.iconst d_Mdl_turn_158 ?_
  refine Aw.iload_n rfl d_Mdl_turn_159 ?_
  refine Aw.imul d_Mdl_turn_160 ?_
  refine Aw.iconst d_Mdl_turn_161 ?_
  refine Aw.iadd d_Mdl_turn_162 ?_
  obtain ⟨o4, h⟩ := h
  obtain ⟨o5, o6, h⟩ := h
  refine Aw.iald o4 o5 o6 d_Mdl_turn_163 (fun r7 => ?_)
  have h := h r7
  obtain ⟨o8, o9, h⟩ := h
  refine Aw.iast o4 o8 o9 r7 d_Mdl_turn_164 ?_
  exact h
theorem b_Mdl_turn_165 {Ω : Om} {R : Room} {F : QF} {k n : Nat} {σ : Sto} {a0 : Nat} {v1 : Int} {v2 : Int} {v3 : Int} {v4 : Int} (h : sK σ a0 = 13 ∧ (∃ b2 : Nat, fR σ 801 a0 = some b2 ∧ sK σ b2 = 50 ∧ 0 ≤ ((4 * v3) + 3) ∧ ((4 * v3) + 3) < sZ σ b2 ∧ (Q32 (aI σ b2 ((4 * v3) + 3).toNat) → 0 ≤ ((4 * v4) + 3) ∧ ((4 * v4) + 3) < sZ σ b2 ∧ Aw Ω M_Mdl_turn R F k n 189 [xr (some a0), xi v1, xi v2, xi v3, xi v4, xi 0] [] (vI σ b2 ((4 * v4) + 3).toNat (aI σ b2 ((4 * v3) + 3).toNat))))) : Aw Ω M_Mdl_turn R F k n 165 [xr (some a0), xi v1, xi v2, xi v3, xi v4, xu] [] σ := by
  refine Aw.aload_n rfl d_Mdl_turn_165 ?_
  obtain ⟨o1, h⟩ := h
  obtain ⟨b2, e3, h⟩ := h
  refine Aw.getRs (f := 801) 12 33 fl_Mdl_68 (by decide) (by decide) rfl rfl o1 e3 d_Mdl_turn_166 ?_
  refine Aw.iconst d_Mdl_turn_169 ?_
  refine Aw.iload rfl d_Mdl_turn_170 ?_
  refine Aw.imul d_Mdl_turn_172 ?_
  refine Aw.iconst d_Mdl_turn_173 ?_
  refine Aw.iadd d_Mdl_turn_174 ?_
  refine Aw.aload_n rfl d_Mdl_turn_175 ?_
  refine Aw.getRs (f := 801) 12 33 fl_Mdl_68 (by decide) (by decide) rfl rfl o1 e3 d_Mdl_turn_176 ?_
  refine Aw.iconst d_Mdl_turn_179 ?_
  refine Aw.iload_n rfl d_Mdl_turn_180 ?_
  refine Aw.imul d_Mdl_turn_181 ?_
  refine Aw.iconst d_Mdl_turn_182 ?_
  refine Aw.iadd d_Mdl_turn_183 ?_
  obtain ⟨o4, h⟩ := h
  obtain ⟨o5, o6, h⟩ := h
  refine Aw.iald o4 o5 o6 d_Mdl_turn_184 (fun r7 => ?_)
  have h := h r7
  obtain ⟨o8, o9, h⟩ := h
  refine Aw.iast o4 o8 o9 r7 d_Mdl_turn_185 ?_
  refine Aw.iconst d_Mdl_turn_186 ?_
  refine Aw.istore (by decide) d_Mdl_turn_187 ?_
  refine Aw.toL (L' := [xr (some a0), xi v1, xi v2, xi v3, xi v4, xi 0]) rfl ?_
  exact h
theorem b_Mdl_turn_189 {Ω : Om} {R : Room} {F : QF} {k n : Nat} {σ : Sto} {a0 : Nat} {v1 : Int} {v2 : Int} {v3 : Int} {v4 : Int} {v5 : Int} (h : Q32 v5 ∧ (((20 : Int) ≤ v5 → Aw Ω M_Mdl_turn R F k n 261 [xr (some a0), xi v1, xi v2, xi v3, xi v4, xi 0] [] σ) ∧ (¬ (20 : Int) ≤ v5 → sK σ a0 = 13 ∧ (∃ b3 : Nat, fR σ 802 a0 = some b3 ∧ sK σ b3 = 51 ∧ 0 ≤ (((40 * v3) + 20) + v5) ∧ (((40 * v3) + 20) + v5) < sZ σ b3 ∧ 0 ≤ ((40 * v4) + v5) ∧ ((40 * v4) + v5) < sZ σ b3 ∧ Aw Ω M_Mdl_turn R F k n 224 [xr (some a0), xi v1, xi v2, xi v3, xi v4, xi v5] [] (vL σ b3 ((40 * v4) + v5).toNat (aL σ b3 (((40 * v3) + 20) + v5).toNat)))))) : Aw Ω M_Mdl_turn R F k n 189 [xr (some a0), xi v1, xi v2, xi v3, xi v4, xi v5] [] σ := by
  refine Aw.iload rfl d_Mdl_turn_189 ?_
  refine Aw.bipush (by decide) d_Mdl_turn_191 ?_
  obtain ⟨o1, h⟩ := h
  obtain ⟨ht, hf⟩ := h
  refine Aw.icmp_ge (tgt := 258) o1 ⟨by decide, by decide⟩ (by decide) d_Mdl_turn_193 (fun c10 => ?_) (fun c10 => ?_)
  · have h := ht c10
    refine Aw.iconst d_Mdl_turn_258 ?_
    refine Aw.istore (by decide) d_Mdl_turn_259 ?_
    refine Aw.toL (L' := [xr (some a0), xi v1, xi v2, xi v3, xi v4, xi 0]) rfl ?_
    exact h
  · have h := hf c10
    refine Aw.aload_n rfl d_Mdl_turn_196 ?_
    obtain ⟨o2, h⟩ := h
    obtain ⟨b3, e4, h⟩ := h
    refine Aw.getRs (f := 802) 12 34 fl_Mdl_71 (by decide) (by decide) rfl rfl o2 e4 d_Mdl_turn_197 ?_
    refine Aw.bipush (by decide) d_Mdl_turn_200 ?_
    refine Aw.iload rfl d_Mdl_turn_202 ?_
    refine Aw.imul d_Mdl_turn_204 ?_
    refine Aw.iload rfl d_Mdl_turn_205 ?_
    refine Aw.iadd d_Mdl_turn_207 ?_
    refine Aw.aload_n rfl d_Mdl_turn_208 ?_
    refine Aw.getRs (f := 802) 12 34 fl_Mdl_71 (by decide) (by decide) rfl rfl o2 e4 d_Mdl_turn_209 ?_
    refine Aw.bipush (by decide) d_Mdl_turn_212 ?_
    refine Aw.iload_n rfl d_Mdl_turn_214 ?_
    refine Aw.imul d_Mdl_turn_215 ?_
    refine Aw.bipush (by decide) d_Mdl_turn_216 ?_
    refine Aw.iadd d_Mdl_turn_218 ?_
    refine Aw.iload rfl d_Mdl_turn_219 ?_
    refine Aw.iadd d_Mdl_turn_221 ?_
    obtain ⟨o5, h⟩ := h
    obtain ⟨o6, o7, h⟩ := h
    refine Aw.lald o5 o6 o7 d_Mdl_turn_222 ?_
    obtain ⟨o8, o9, h⟩ := h
    refine Aw.last o5 o8 o9 d_Mdl_turn_223 ?_
    exact h
theorem b_Mdl_turn_224 {Ω : Om} {R : Room} {F : QF} {k n : Nat} {σ : Sto} {a0 : Nat} {v1 : Int} {v2 : Int} {v3 : Int} {v4 : Int} {v5 : Int} (h : sK σ a0 = 13 ∧ (∃ b2 : Nat, fR σ 802 a0 = some b2 ∧ sK σ b2 = 51 ∧ 0 ≤ ((40 * v3) + v5) ∧ ((40 * v3) + v5) < sZ σ b2 ∧ 0 ≤ (((40 * v4) + 20) + v5) ∧ (((40 * v4) + 20) + v5) < sZ σ b2 ∧ Aw Ω M_Mdl_turn R F k n 189 [xr (some a0), xi v1, xi v2, xi v3, xi v4, xi (v5 + 1)] [] (vL σ b2 (((40 * v4) + 20) + v5).toNat (aL σ b2 ((40 * v3) + v5).toNat)))) : Aw Ω M_Mdl_turn R F k n 224 [xr (some a0), xi v1, xi v2, xi v3, xi v4, xi v5] [] σ := by
  refine Aw.aload_n rfl d_Mdl_turn_224 ?_
  obtain ⟨o1, h⟩ := h
  obtain ⟨b2, e3, h⟩ := h
  refine Aw.getRs (f := 802) 12 34 fl_Mdl_71 (by decide) (by decide) rfl rfl o1 e3 d_Mdl_turn_225 ?_
  refine Aw.bipush (by decide) d_Mdl_turn_228 ?_
  refine Aw.iload rfl d_Mdl_turn_230 ?_
  refine Aw.imul d_Mdl_turn_232 ?_
  refine Aw.bipush (by decide) d_Mdl_turn_233 ?_
  refine Aw.iadd d_Mdl_turn_235 ?_
  refine Aw.iload rfl d_Mdl_turn_236 ?_
  refine Aw.iadd d_Mdl_turn_238 ?_
  refine Aw.aload_n rfl d_Mdl_turn_239 ?_
  refine Aw.getRs (f := 802) 12 34 fl_Mdl_71 (by decide) (by decide) rfl rfl o1 e3 d_Mdl_turn_240 ?_
  refine Aw.bipush (by decide) d_Mdl_turn_243 ?_
  refine Aw.iload_n rfl d_Mdl_turn_245 ?_
  refine Aw.imul d_Mdl_turn_246 ?_
  refine Aw.iload rfl d_Mdl_turn_247 ?_
  refine Aw.iadd d_Mdl_turn_249 ?_
  obtain ⟨o4, h⟩ := h
  obtain ⟨o5, o6, h⟩ := h
  refine Aw.lald o4 o5 o6 d_Mdl_turn_250 ?_
  obtain ⟨o7, o8, h⟩ := h
  refine Aw.last o4 o7 o8 d_Mdl_turn_251 ?_
  refine Aw.iinc rfl d_Mdl_turn_252 ?_
  refine Aw.toL (L' := [xr (some a0), xi v1, xi v2, xi v3, xi v4, xi (v5 + 1)]) rfl ?_
  refine Aw.goto (tgt := 189) (by decide) d_Mdl_turn_255 ?_
  exact h
theorem b_Mdl_turn_261 {Ω : Om} {R : Room} {F : QF} {k n : Nat} {σ : Sto} {a0 : Nat} {v1 : Int} {v2 : Int} {v3 : Int} {v4 : Int} {v5 : Int} (h : Q32 v5 ∧ (((6 : Int) ≤ v5 → Aw Ω M_Mdl_turn R F k n 52 [xr (some a0), xi v1, xi (v2 + 1), xu, xu, xu] [] σ) ∧ (¬ (6 : Int) ≤ v5 → sK σ a0 = 13 ∧ (∃ b3 : Nat, fR σ 803 a0 = some b3 ∧ sK σ b3 = 51 ∧ 0 ≤ ((6 * v3) + v5) ∧ ((6 * v3) + v5) < sZ σ b3 ∧ 0 ≤ ((6 * v4) + v5) ∧ ((6 * v4) + v5) < sZ σ b3 ∧ Aw Ω M_Mdl_turn R F k n 261 [xr (some a0), xi v1, xi v2, xi v3, xi v4, xi (v5 + 1)] [] (vL σ b3 ((6 * v4) + v5).toNat (aL σ b3 ((6 * v3) + v5).toNat)))))) : Aw Ω M_Mdl_turn R F k n 261 [xr (some a0), xi v1, xi v2, xi v3, xi v4, xi v5] [] σ := by
  refine Aw.iload rfl d_Mdl_turn_261 ?_
  refine Aw.bipush (by decide) d_Mdl_turn_263 ?_
  obtain ⟨o1, h⟩ := h
  obtain ⟨ht, hf⟩ := h
  refine Aw.icmp_ge (tgt := 299) o1 ⟨by decide, by decide⟩ (by decide) d_Mdl_turn_265 (fun c10 => ?_) (fun c10 => ?_)
  · have h := ht c10
    refine Aw.iinc rfl d_Mdl_turn_299 ?_
    refine Aw.toL (L' := [xr (some a0), xi v1, xi (v2 + 1), xi v3, xi v4, xi v5]) rfl ?_
    refine Aw.goto (tgt := 52) (by decide) d_Mdl_turn_302 ?_
    exact Aw.toW (L' := [xr (some a0), xi v1, xi (v2 + 1), xu, xu, xu]) ⟨Or.inr rfl, Or.inr rfl, Or.inr rfl, Or.inl rfl, Or.inl rfl, Or.inl rfl, trivial⟩ h
  · have h := hf c10
    refine Aw.aload_n rfl d_Mdl_turn_268 ?_
    obtain ⟨o2, h⟩ := h
    obtain ⟨b3, e4, h⟩ := h
    refine Aw.getRs (f := 803) 12 35 fl_Mdl_74 (by decide) (by decide) rfl rfl o2 e4 d_Mdl_turn_269 ?_
    refine Aw.bipush (by decide) d_Mdl_turn_272 ?_
    refine Aw.iload rfl d_Mdl_turn_274 ?_
    refine Aw.imul d_Mdl_turn_276 ?_
    refine Aw.iload rfl d_Mdl_turn_277 ?_
    refine Aw.iadd d_Mdl_turn_279 ?_
    refine Aw.aload_n rfl d_Mdl_turn_280 ?_
    refine Aw.getRs (f := 803) 12 35 fl_Mdl_74 (by decide) (by decide) rfl rfl o2 e4 d_Mdl_turn_281 ?_
    refine Aw.bipush (by decide) d_Mdl_turn_284 ?_
    refine Aw.iload_n rfl d_Mdl_turn_286 ?_
    refine Aw.imul d_Mdl_turn_287 ?_
    refine Aw.iload rfl d_Mdl_turn_288 ?_
    refine Aw.iadd d_Mdl_turn_290 ?_
    obtain ⟨o5, h⟩ := h
    obtain ⟨o6, o7, h⟩ := h
    refine Aw.lald o5 o6 o7 d_Mdl_turn_291 ?_
    obtain ⟨o8, o9, h⟩ := h
    refine Aw.last o5 o8 o9 d_Mdl_turn_292 ?_
    refine Aw.iinc rfl d_Mdl_turn_293 ?_
    refine Aw.toL (L' := [xr (some a0), xi v1, xi v2, xi v3, xi v4, xi (v5 + 1)]) rfl ?_
    refine Aw.goto (tgt := 261) (by decide) d_Mdl_turn_296 ?_
    exact h
theorem b_Mdl_turn_315 {Ω : Om} {R : Room} {F : QF} {k n : Nat} {σ : Sto} {a0 : Nat} {v1 : Int} {v2 : Int} (h : sK σ a0 = 13 ∧ (Q32 (fI σ 797 a0) → Aw Ω M_Mdl_turn R F k n 321 [xr (some a0), xi v1, xi v2, xu, xu, xu] [xi ((fI σ 797 a0) - 1)] σ)) : Aw Ω M_Mdl_turn R F k n 315 [xr (some a0), xi v1, xi v2, xu, xu, xu] [] σ := by
  refine Aw.aload_n rfl d_Mdl_turn_315 ?_
  obtain ⟨o1, h⟩ := h
  refine Aw.getI (f := 797) 12 29 fl_Mdl_317 (by decide) (by decide) rfl rfl o1 d_Mdl_turn_316 (fun r2 => ?_)
  have h := h r2
  refine Aw.iconst d_Mdl_turn_319 ?_
  refine Aw.isub d_Mdl_turn_320 ?_
  exact h
theorem c_Mdl_turn_3 {Ω : Om} {R R' : Room} {F : QF} {k n : Nat} {L st : List PV} {σ : Sto} {QX' : String → Sto → Prop} {Q : Int → Sto → Prop} {a : Nat} {x0 : Int} (hc : MC Ω M_Mdl_isPatch R' (RI Q) QX' σ [xr (some a), xi x0]) (hk : sK σ a = 13) (hr1 : R'.frames + 1 ≤ R.frames) (hr2 : 8 + (2 + 11) + R'.locals ≤ R.locals) (hb1 : k + R'.cells ≤ R.cells) (hb2 : n + R'.slots ≤ R.slots) (hst : (st.map catP).sum ≤ 8) (kk : ∀ x σ', Q x σ' → Aw Ω M_Mdl_turn R F (k + R'.cells) (n + R'.slots) 6 L (xi x :: st) σ') (kx : ∀ E σ', QX' E σ' → Ax Ω M_Mdl_turn R F (k + R'.cells) (n + R'.slots) 3 L st σ' E) : Aw Ω M_Mdl_turn R F k n 3 L (xi x0 :: xr (some a) :: st) σ :=
  Aw.callV (As := [xi x0]) (stk := xi x0 :: xr (some a) :: st) (nn := 1) 12 M_Mdl_isPatch hc ok_Mdl_isPatch rfl (by decide) rfl hk ml_Mdl_324 im_Mdl_isPatch se_Mdl_isPatch ⟨hr1, hr2⟩ rfl ⟨hb1, hb2⟩ hst rfl d_Mdl_turn_3 (fun r σ' h => by obtain ⟨x, rfl, h⟩ := h; exact kk x σ' h) kx
theorem c_Mdl_turn_27 {Ω : Om} {R R' : Room} {F : QF} {k n : Nat} {L st : List PV} {σ : Sto} {QX' : String → Sto → Prop} {Q : Int → Sto → Prop} {a : Nat} {x0 : Int} (hc : MC Ω M_Mdl_refused R' (RI Q) QX' σ [xr (some a), xi x0]) (hk : sK σ a = 13) (hr1 : R'.frames + 1 ≤ R.frames) (hr2 : 8 + (2 + 11) + R'.locals ≤ R.locals) (hb1 : k + R'.cells ≤ R.cells) (hb2 : n + R'.slots ≤ R.slots) (hst : (st.map catP).sum ≤ 8) (kk : ∀ x σ', Q x σ' → Aw Ω M_Mdl_turn R F (k + R'.cells) (n + R'.slots) 30 L (xi x :: st) σ') (kx : ∀ E σ', QX' E σ' → Ax Ω M_Mdl_turn R F (k + R'.cells) (n + R'.slots) 27 L st σ' E) : Aw Ω M_Mdl_turn R F k n 27 L (xi x0 :: xr (some a) :: st) σ :=
  Aw.callV (As := [xi x0]) (stk := xi x0 :: xr (some a) :: st) (nn := 1) 12 M_Mdl_refused hc ok_Mdl_refused rfl (by decide) rfl hk ml_Mdl_151 im_Mdl_refused se_Mdl_refused ⟨hr1, hr2⟩ rfl ⟨hb1, hb2⟩ hst rfl d_Mdl_turn_27 (fun r σ' h => by obtain ⟨x, rfl, h⟩ := h; exact kk x σ' h) kx
theorem r_Mdl_turn_34 {Ω : Om} {R : Room} {k n : Nat} {L : List PV} {σ : Sto} {QR : Option PV → Sto → Prop} {QX : String → Sto → Prop} {x : Int} (h : QR (some (xi x)) σ) (h1 : k ≤ R.cells) (h2 : n ≤ R.slots) : Aw Ω M_Mdl_turn R (MF Ω R QR QX) k n 34 L [xi x] σ := Aw.iret rfl h h1 h2 d_Mdl_turn_34
theorem r_Mdl_turn_321 {Ω : Om} {R : Room} {k n : Nat} {L : List PV} {σ : Sto} {QR : Option PV → Sto → Prop} {QX : String → Sto → Prop} {x : Int} (h : QR (some (xi x)) σ) (h1 : k ≤ R.cells) (h2 : n ≤ R.slots) : Aw Ω M_Mdl_turn R (MF Ω R QR QX) k n 321 L [xi x] σ := Aw.iret rfl h h1 h2 d_Mdl_turn_321
theorem e_Mdl_fits {Ω : Om} {R : Room} {QR : Option PV → Sto → Prop} {QX : String → Sto → Prop} {σ : Sto} {a0 : Nat} {v1 : Int} {v2 : Int} {v3 : Int} {v4 : Int} (h : Aw Ω M_Mdl_fits R (MF Ω R QR QX) 0 0 0 [xr (some a0), xi v1, xi v2, xi v3, xi v4, xu, xu, xu, xu, xu] [] σ) : MC Ω M_Mdl_fits R QR QX σ [xr (some a0), xi v1, xi v2, xi v3, xi v4] := MC.body (by decide +kernel) rfl (Nat.le_of_ble_eq_true rfl) rfl h
theorem b_Mdl_fits_0 {Ω : Om} {R : Room} {F : QF} {k n : Nat} {σ : Sto} {a0 : Nat} {v1 : Int} {v2 : Int} {v3 : Int} {v4 : Int} (h : sK σ a0 = 13 ∧ (∃ b2 : Nat, fR σ 801 a0 = some b2 ∧ sK σ b2 = 50 ∧ 0 ≤ ((4 * v1) + 2) ∧ ((4 * v1) + 2) < sZ σ b2 ∧ (Q32 (aI σ b2 ((4 * v1) + 2).toNat) → Q32 v3 ∧ (((aI σ b2 ((4 * v1) + 2).toNat) ≤ v3 → Aw Ω M_Mdl_fits R F k n 30 [xr (some a0), xi v1, xi v2, xi v3, xi v4, xu, xu, xu, xu, xu] [xi 0] σ) ∧ (¬ (aI σ b2 ((4 * v1) + 2).toNat) ≤ v3 → (Q32 (aI σ b2 ((4 * v1) + 2).toNat) → Aw Ω M_Mdl_fits R F k n 30 [xr (some a0), xi v1, xi v2, xi v3, xi v4, xu, xu, xu, xu, xu] [xi ((aI σ b2 ((4 * v1) + 2).toNat) - v3)] σ)))))) : Aw Ω M_Mdl_fits R F k n 0 [xr (some a0), xi v1, xi v2, xi v3, xi v4, xu, xu, xu, xu, xu] [] σ := by
  refine Aw.aload_n rfl d_Mdl_fits_0 ?_
  obtain ⟨o1, h⟩ := h
  obtain ⟨b2, e3, h⟩ := h
  refine Aw.getRs (f := 801) 12 33 fl_Mdl_68 (by decide) (by decide) rfl rfl o1 e3 d_Mdl_fits_1 ?_
  refine Aw.iconst d_Mdl_fits_4 ?_
  refine Aw.iload_n rfl d_Mdl_fits_5 ?_
  refine Aw.imul d_Mdl_fits_6 ?_
  refine Aw.iconst d_Mdl_fits_7 ?_
  refine Aw.iadd d_Mdl_fits_8 ?_
  obtain ⟨o4, h⟩ := h
  obtain ⟨o5, o6, h⟩ := h
  refine Aw.iald o4 o5 o6 d_Mdl_fits_9 (fun r7 => ?_)
  have h := h r7
  refine Aw.iload_n rfl d_Mdl_fits_10 ?_
  obtain ⟨o8, h⟩ := h
  obtain ⟨ht, hf⟩ := h
  refine Aw.icmp_le (tgt := 29) r7 o8 (by decide) d_Mdl_fits_11 (fun c10 => ?_) (fun c10 => ?_)
  · have h := ht c10
    refine Aw.iconst d_Mdl_fits_29 ?_
    exact h
  · have h := hf c10
    refine Aw.aload_n rfl d_Mdl_fits_14 ?_
    refine Aw.getRs (f := 801) 12 33 fl_Mdl_68 (by decide) (by decide) rfl rfl o1 e3 d_Mdl_fits_15 ?_
    refine Aw.iconst d_Mdl_fits_18 ?_
    refine Aw.iload_n rfl d_Mdl_fits_19 ?_
    refine Aw.imul d_Mdl_fits_20 ?_
    refine Aw.iconst d_Mdl_fits_21 ?_
    refine Aw.iadd d_Mdl_fits_22 ?_
    refine Aw.iald o4 o5 o6 d_Mdl_fits_23 (fun r9 => ?_)
    have h := h r9
    refine Aw.iload_n rfl d_Mdl_fits_24 ?_
    refine Aw.isub d_Mdl_fits_25 ?_
    refine Aw.goto (tgt := 30) (by decide) d_Mdl_fits_26 ?_
    exact h
theorem b_Mdl_fits_30 {Ω : Om} {R : Room} {F : QF} {k n : Nat} {σ : Sto} {a0 : Nat} {v1 : Int} {v2 : Int} {v3 : Int} {v4 : Int} {s0 : Int} (h : sK σ a0 = 13 ∧ (∃ b2 : Nat, fR σ 801 a0 = some b2 ∧ sK σ b2 = 50 ∧ 0 ≤ ((4 * v1) + 3) ∧ ((4 * v1) + 3) < sZ σ b2 ∧ (Q32 (aI σ b2 ((4 * v1) + 3).toNat) → Q32 v3 ∧ (((aI σ b2 ((4 * v1) + 3).toNat) ≤ v3 → 0 ≤ (4 * v1) ∧ (4 * v1) < sZ σ b2 ∧ (Q32 (aI σ b2 (4 * v1).toNat) → Q32 (v2 - s0) ∧ Q32 v4 ∧ (((v2 - s0) < v4 → Aw Ω M_Mdl_fits R F k n 107 [xr (some a0), xi v1, xi v2, xi v3, xi v4, xi s0, xi 0, xi (aI σ b2 (4 * v1).toNat), xi 0, xi 0] [] σ) ∧ (¬ (v2 - s0) < v4 → (Q32 (fI σ 821 a0) → Q32 ((v2 + (aI σ b2 (4 * v1).toNat)) + 0) ∧ (((fI σ 821 a0) < ((v2 + (aI σ b2 (4 * v1).toNat)) + 0) → Aw Ω M_Mdl_fits R F k n 107 [xr (some a0), xi v1, xi v2, xi v3, xi v4, xi s0, xi 0, xi (aI σ b2 (4 * v1).toNat), xi 0, xi 0] [] σ) ∧ (¬ (fI σ 821 a0) < ((v2 + (aI σ b2 (4 * v1).toNat)) + 0) → Aw Ω M_Mdl_fits R F k n 107 [xr (some a0), xi v1, xi v2, xi v3, xi v4, xi s0, xi 0, xi (aI σ b2 (4 * v1).toNat), xi 1, xi 0] [] σ))))))) ∧ (¬ (aI σ b2 ((4 * v1) + 3).toNat) ≤ v3 → (Q32 (aI σ b2 ((4 * v1) + 3).toNat) → 0 ≤ (4 * v1) ∧ (4 * v1) < sZ σ b2 ∧ (Q32 (aI σ b2 (4 * v1).toNat) → Q32 (v2 - s0) ∧ Q32 v4 ∧ (((v2 - s0) < v4 → Aw Ω M_Mdl_fits R F k n 107 [xr (some a0), xi v1, xi v2, xi v3, xi v4, xi s0, xi ((aI σ b2 ((4 * v1) + 3).toNat) - v3), xi (aI σ b2 (4 * v1).toNat), xi 0, xi 0] [] σ) ∧ (¬ (v2 - s0) < v4 → (Q32 (fI σ 821 a0) → Q32 ((v2 + (aI σ b2 (4 * v1).toNat)) + ((aI σ b2 ((4 * v1) + 3).toNat) - v3)) ∧ (((fI σ 821 a0) < ((v2 + (aI σ b2 (4 * v1).toNat)) + ((aI σ b2 ((4 * v1) + 3).toNat) - v3)) → Aw Ω M_Mdl_fits R F k n 107 [xr (some a0), xi v1, xi v2, xi v3, xi v4, xi s0, xi ((aI σ b2 ((4 * v1) + 3).toNat) - v3), xi (aI σ b2 (4 * v1).toNat), xi 0, xi 0] [] σ) ∧ (¬ (fI σ 821 a0) < ((v2 + (aI σ b2 (4 * v1).toNat)) + ((aI σ b2 ((4 * v1) + 3).toNat) - v3)) → Aw Ω M_Mdl_fits R F k n 107 [xr (some a0), xi v1, xi v2, xi v3, xi v4, xi s0, xi ((aI σ b2 ((4 * v1) + 3).toNat) - v3), xi (aI σ b2 (4 * v1).toNat), xi 1, xi 0] [] σ)))))))))))) : Aw Ω M_Mdl_fits R F k n 30 [xr (some a0), xi v1, xi v2, xi v3, xi v4, xu, xu, xu, xu, xu] [xi s0] σ := by
  refine Aw.istore (by decide) d_Mdl_fits_30 ?_
  refine Aw.toL (L' := [xr (some a0), xi v1, xi v2, xi v3, xi v4, xi s0, xu, xu, xu, xu]) rfl ?_
  refine Aw.aload_n rfl d_Mdl_fits_32 ?_
  obtain ⟨o1, h⟩ := h
  obtain ⟨b2, e3, h⟩ := h
  refine Aw.getRs (f := 801) 12 33 fl_Mdl_68 (by decide) (by decide) rfl rfl o1 e3 d_Mdl_fits_33 ?_
  refine Aw.iconst d_Mdl_fits_36 ?_
  refine Aw.iload_n rfl d_Mdl_fits_37 ?_
  refine Aw.imul d_Mdl_fits_38 ?_
  refine Aw.iconst d_Mdl_fits_39 ?_
  refine Aw.iadd d_Mdl_fits_40 ?_
  obtain ⟨o4, h⟩ := h
  obtain ⟨o5, o6, h⟩ := h
  refine Aw.iald o4 o5 o6 d_Mdl_fits_41 (fun r7 => ?_)
  have h := h r7
  refine Aw.iload_n rfl d_Mdl_fits_42 ?_
  obtain ⟨o8, h⟩ := h
  obtain ⟨ht, hf⟩ := h
  refine Aw.icmp_le (tgt := 61) r7 o8 (by decide) d_Mdl_fits_43 (fun c28 => ?_) (fun c28 => ?_)
  · have h := ht c28
    refine Aw.iconst d_Mdl_fits_61 ?_
    refine Aw.istore (by decide) d_Mdl_fits_62 ?_
    refine Aw.toL (L' := [xr (some a0), xi v1, xi v2, xi v3, xi v4, xi s0, xi 0, xu, xu, xu]) rfl ?_
    refine Aw.aload_n rfl d_Mdl_fits_64 ?_
    refine Aw.getRs (f := 801) 12 33 fl_Mdl_68 (by decide) (by decide) rfl rfl o1 e3 d_Mdl_fits_65 ?_
    refine Aw.iconst d_Mdl_fits_68 ?_
    refine Aw.iload_n rfl d_Mdl_fits_69 ?_
    refine Aw.imul d_Mdl_fits_70 ?_
    obtain ⟨o9, o10, h⟩ := h
    refine Aw.iald o4 o9 o10 d_Mdl_fits_71 (fun r11 => ?_)
    have h := h r11
    refine Aw.istore (by decide) d_Mdl_fits_72 ?_
    refine Aw.toL (L' := [xr (some a0), xi v1, xi v2, xi v3, xi v4, xi s0, xi 0, xi (aI σ b2 (4 * v1).toNat), xu, xu]) rfl ?_
    refine Aw.iload_n rfl d_Mdl_fits_74 ?_
    refine Aw.iload rfl d_Mdl_fits_75 ?_
    refine Aw.isub d_Mdl_fits_77 ?_
    refine Aw.iload rfl d_Mdl_fits_78 ?_
    obtain ⟨o12, h⟩ := h
    obtain ⟨o13, h⟩ := h
    obtain ⟨ht, hf⟩ := h
    refine Aw.icmp_lt (tgt := 101) o12 o13 (by decide) d_Mdl_fits_80 (fun c17 => ?_) (fun c17 => ?_)
    · have h := ht c17
      refine Aw.iconst d_Mdl_fits_101 ?_
      refine Aw.istore (by decide) d_Mdl_fits_102 ?_
      refine Aw.toL (L' := [xr (some a0), xi v1, xi v2, xi v3, xi v4, xi s0, xi 0, xi (aI σ b2 (4 * v1).toNat), xi 0, xu]) rfl ?_
      refine Aw.iconst d_Mdl_fits_104 ?_
      refine Aw.istore (by decide) d_Mdl_fits_105 ?_
      refine Aw.toL (L' := [xr (some a0), xi v1, xi v2, xi v3, xi v4, xi s0, xi 0, xi (aI σ b2 (4 * v1).toNat), xi 0, xi 0]) rfl ?_
      exact h
    · have h := hf c17
      refine Aw.iload_n rfl d_Mdl_fits_83 ?_
      refine Aw.iload rfl d_Mdl_fits_84 ?_
      refine Aw.iadd d_Mdl_fits_86 ?_
      refine Aw.iload rfl d_Mdl_fits_87 ?_
      refine Aw.iadd d_Mdl_fits_89 ?_
      refine Aw.aload_n rfl d_Mdl_fits_90 ?_
      refine Aw.getI (f := 821) 12 53 fl_Mdl_327 (by decide) (by decide) rfl rfl o1 d_Mdl_fits_91 (fun r14 => ?_)
      have h := h r14
      obtain ⟨o15, h⟩ := h
      obtain ⟨ht, hf⟩ := h
      refine Aw.icmp_gt (tgt := 101) o15 r14 (by decide) d_Mdl_fits_94 (fun c16 => ?_) (fun c16 => ?_)
      · have h := ht c16
        refine Aw.iconst d_Mdl_fits_101 ?_
        refine Aw.istore (by decide) d_Mdl_fits_102 ?_
        refine Aw.toL (L' := [xr (some a0), xi v1, xi v2, xi v3, xi v4, xi s0, xi 0, xi (aI σ b2 (4 * v1).toNat), xi 0, xu]) rfl ?_
        refine Aw.iconst d_Mdl_fits_104 ?_
        refine Aw.istore (by decide) d_Mdl_fits_105 ?_
        refine Aw.toL (L' := [xr (some a0), xi v1, xi v2, xi v3, xi v4, xi s0, xi 0, xi (aI σ b2 (4 * v1).toNat), xi 0, xi 0]) rfl ?_
        exact h
      · have h := hf c16
        refine Aw.iconst d_Mdl_fits_97 ?_
        refine Aw.goto (tgt := 102) (by decide) d_Mdl_fits_98 ?_
        refine Aw.istore (by decide) d_Mdl_fits_102 ?_
        refine Aw.toL (L' := [xr (some a0), xi v1, xi v2, xi v3, xi v4, xi s0, xi 0, xi (aI σ b2 (4 * v1).toNat), xi 1, xu]) rfl ?_
        refine Aw.iconst d_Mdl_fits_104 ?_
        refine Aw.istore (by decide) d_Mdl_fits_105 ?_
        refine Aw.toL (L' := [xr (some a0), xi v1, xi v2, xi v3, xi v4, xi s0, xi 0, xi (aI σ b2 (4 * v1).toNat), xi 1, xi 0]) rfl ?_
        exact h
  · have h := hf c28
    refine Aw.aload_n rfl d_Mdl_fits_46 ?_
    refine Aw.getRs (f := 801) 12 33 fl_Mdl_68 (by decide) (by decide) rfl rfl o1 e3 d_Mdl_fits_47 ?_
    refine Aw.iconst d_Mdl_fits_50 ?_
    refine Aw.iload_n rfl d_Mdl_fits_51 ?_
    refine Aw.imul d_Mdl_fits_52 ?_
    refine Aw.iconst d_Mdl_fits_53 ?_
    refine Aw.iadd d_Mdl_fits_54 ?_
    refine Aw.iald o4 o5 o6 d_Mdl_fits_55 (fun r18 => ?_)
    have h := h r18
    refine Aw.iload_n rfl d_Mdl_fits_56 ?_
    refine Aw.isub d_Mdl_fits_57 ?_
    refine Aw.goto (tgt := 62) (by decide) d_Mdl_fits_58 ?_
    refine Aw.istore (by decide) d_Mdl_fits_62 ?_
    refine Aw.toL (L' := [xr (some a0), xi v1, xi v2, xi v3, xi v4, xi s0, xi ((aI σ b2 ((4 * v1) + 3).toNat) - v3), xu, xu, xu]) rfl ?_
    refine Aw.aload_n rfl d_Mdl_fits_64 ?_
    refine Aw.getRs (f := 801) 12 33 fl_Mdl_68 (by decide) (by decide) rfl rfl o1 e3 d_Mdl_fits_65 ?_
    refine Aw.iconst d_Mdl_fits_68 ?_
    refine Aw.iload_n rfl d_Mdl_fits_69 ?_
    refine Aw.imul d_Mdl_fits_70 ?_
    obtain ⟨o19, o20, h⟩ := h
    refine Aw.iald o4 o19 o20 d_Mdl_fits_71 (fun r21 => ?_)
    have h := h r21
    refine Aw.istore (by decide) d_Mdl_fits_72 ?_
    refine Aw.toL (L' := [xr (some a0), xi v1, xi v2, xi v3, xi v4, xi s0, xi ((aI σ b2 ((4 * v1) + 3).toNat) - v3), xi (aI σ b2 (4 * v1).toNat), xu, xu]) rfl ?_
    refine Aw.iload_n rfl d_Mdl_fits_74 ?_
    refine Aw.iload rfl d_Mdl_fits_75 ?_
    refine Aw.isub d_Mdl_fits_77 ?_
    refine Aw.iload rfl d_Mdl_fits_78 ?_
    obtain ⟨o22, h⟩ := h
    obtain ⟨o23, h⟩ := h
    obtain ⟨ht, hf⟩ := h
    refine Aw.icmp_lt (tgt := 101) o22 o23 (by decide) d_Mdl_fits_80 (fun c27 => ?_) (fun c27 => ?_)
    · have h := ht c27
      refine Aw.iconst d_Mdl_fits_101 ?_
      refine Aw.istore (by decide) d_Mdl_fits_102 ?_
      refine Aw.toL (L' := [xr (some a0), xi v1, xi v2, xi v3, xi v4, xi s0, xi ((aI σ b2 ((4 * v1) + 3).toNat) - v3), xi (aI σ b2 (4 * v1).toNat), xi 0, xu]) rfl ?_
      refine Aw.iconst d_Mdl_fits_104 ?_
      refine Aw.istore (by decide) d_Mdl_fits_105 ?_
      refine Aw.toL (L' := [xr (some a0), xi v1, xi v2, xi v3, xi v4, xi s0, xi ((aI σ b2 ((4 * v1) + 3).toNat) - v3), xi (aI σ b2 (4 * v1).toNat), xi 0, xi 0]) rfl ?_
      exact h
    · have h := hf c27
      refine Aw.iload_n rfl d_Mdl_fits_83 ?_
      refine Aw.iload rfl d_Mdl_fits_84 ?_
      refine Aw.iadd d_Mdl_fits_86 ?_
      refine Aw.iload rfl d_Mdl_fits_87 ?_
      refine Aw.iadd d_Mdl_fits_89 ?_
      refine Aw.aload_n rfl d_Mdl_fits_90 ?_
      refine Aw.getI (f := 821) 12 53 fl_Mdl_327 (by decide) (by decide) rfl rfl o1 d_Mdl_fits_91 (fun r24 => ?_)
      have h := h r24
      obtain ⟨o25, h⟩ := h
      obtain ⟨ht, hf⟩ := h
      refine Aw.icmp_gt (tgt := 101) o25 r24 (by decide) d_Mdl_fits_94 (fun c26 => ?_) (fun c26 => ?_)
      · have h := ht c26
        refine Aw.iconst d_Mdl_fits_101 ?_
        refine Aw.istore (by decide) d_Mdl_fits_102 ?_
        refine Aw.toL (L' := [xr (some a0), xi v1, xi v2, xi v3, xi v4, xi s0, xi ((aI σ b2 ((4 * v1) + 3).toNat) - v3), xi (aI σ b2 (4 * v1).toNat), xi 0, xu]) rfl ?_
        refine Aw.iconst d_Mdl_fits_104 ?_
        refine Aw.istore (by decide) d_Mdl_fits_105 ?_
        refine Aw.toL (L' := [xr (some a0), xi v1, xi v2, xi v3, xi v4, xi s0, xi ((aI σ b2 ((4 * v1) + 3).toNat) - v3), xi (aI σ b2 (4 * v1).toNat), xi 0, xi 0]) rfl ?_
        exact h
      · have h := hf c26
        refine Aw.iconst d_Mdl_fits_97 ?_
        refine Aw.goto (tgt := 102) (by decide) d_Mdl_fits_98 ?_
        refine Aw.istore (by decide) d_Mdl_fits_102 ?_
        refine Aw.toL (L' := [xr (some a0), xi v1, xi v2, xi v3, xi v4, xi s0, xi ((aI σ b2 ((4 * v1) + 3).toNat) - v3), xi (aI σ b2 (4 * v1).toNat), xi 1, xu]) rfl ?_
        refine Aw.iconst d_Mdl_fits_104 ?_
        refine Aw.istore (by decide) d_Mdl_fits_105 ?_
        refine Aw.toL (L' := [xr (some a0), xi v1, xi v2, xi v3, xi v4, xi s0, xi ((aI σ b2 ((4 * v1) + 3).toNat) - v3), xi (aI σ b2 (4 * v1).toNat), xi 1, xi 0]) rfl ?_
        exact h
theorem b_Mdl_fits_107 {Ω : Om} {R : Room} {F : QF} {k n : Nat} {σ : Sto} {a0 : Nat} {v1 : Int} {v2 : Int} {v3 : Int} {v4 : Int} {v5 : Int} {v6 : Int} {v7 : Int} {v8 : Int} {v9 : Int} (h : Q32 v9 ∧ Q32 v5 ∧ ((v5 ≤ v9 → Aw Ω M_Mdl_fits R F k n 182 [xr (some a0), xi v1, xi v2, xi v3, xi v4, xi v5, xi v6, xi v7, xi v8, xi 0] [] σ) ∧ (¬ v5 ≤ v9 → Q32 v8 ∧ ((v8 = (0 : Int) → Aw Ω M_Mdl_fits R F k n 182 [xr (some a0), xi v1, xi v2, xi v3, xi v4, xi v5, xi v6, xi v7, xi v8, xi 0] [] σ) ∧ (¬ v8 = (0 : Int) → sK σ a0 = 13 ∧ (∃ b5 : Nat, fR σ 770 a0 = some b5 ∧ (∃ b7 : Nat, fR σ 820 a0 = some b7 ∧ sK σ b7 = 50 ∧ 0 ≤ ((v2 - v5) + v9) ∧ ((v2 - v5) + v9) < sZ σ b7 ∧ (Q32 (aI σ b7 ((v2 - v5) + v9).toNat) → sK σ b5 = 51 ∧ 0 ≤ (aI σ b7 ((v2 - v5) + v9).toNat) ∧ (aI σ b7 ((v2 - v5) + v9).toNat) < sZ σ b5 ∧ (∃ b16 : Nat, fR σ 803 a0 = some b16 ∧ (∃ b18 : Nat, fR σ 801 a0 = some b18 ∧ sK σ b18 = 50 ∧ 0 ≤ ((4 * v1) + 2) ∧ ((4 * v1) + 2) < sZ σ b18 ∧ (Q32 (aI σ b18 ((4 * v1) + 2).toNat) → sK σ b16 = 51 ∧ 0 ≤ ((((6 * v1) + (aI σ b18 ((4 * v1) + 2).toNat)) - v5) + v9) ∧ ((((6 * v1) + (aI σ b18 ((4 * v1) + 2).toNat)) - v5) + v9) < sZ σ b16 ∧ Q32 (cmpL (aL σ b5 (aI σ b7 ((v2 - v5) + v9).toNat).toNat) (aL σ b16 ((((6 * v1) + (aI σ b18 ((4 * v1) + 2).toNat)) - v5) + v9).toNat)) ∧ ((¬ (cmpL (aL σ b5 (aI σ b7 ((v2 - v5) + v9).toNat).toNat) (aL σ b16 ((((6 * v1) + (aI σ b18 ((4 * v1) + 2).toNat)) - v5) + v9).toNat)) = (0 : Int) → Aw Ω M_Mdl_fits R F k n 107 [xr (some a0), xi v1, xi v2, xi v3, xi v4, xi v5, xi v6, xi v7, xi 0, xi (v9 + 1)] [] σ) ∧ ((cmpL (aL σ b5 (aI σ b7 ((v2 - v5) + v9).toNat).toNat) (aL σ b16 ((((6 * v1) + (aI σ b18 ((4 * v1) + 2).toNat)) - v5) + v9).toNat)) = (0 : Int) → Aw Ω M_Mdl_fits R F k n 107 [xr (some a0), xi v1, xi v2, xi v3, xi v4, xi v5, xi v6, xi v7, xi 1, xi (v9 + 1)] [] σ))))))))))))) : Aw Ω M_Mdl_fits R F k n 107 [xr (some a0), xi v1, xi v2, xi v3, xi v4, xi v5, xi v6, xi v7, xi v8, xi v9] [] σ := by
  refine Aw.iload rfl d_Mdl_fits_107 ?_
  refine Aw.iload rfl d_Mdl_fits_109 ?_
  obtain ⟨o1, h⟩ := h
  obtain ⟨o2, h⟩ := h
  obtain ⟨ht, hf⟩ := h
  refine Aw.icmp_ge (tgt := 179) o1 o2 (by decide) d_Mdl_fits_111 (fun c30 => ?_) (fun c30 => ?_)
  · have h := ht c30
    refine Aw.iconst d_Mdl_fits_179 ?_
    refine Aw.istore (by decide) d_Mdl_fits_180 ?_
    refine Aw.toL (L' := [xr (some a0), xi v1, xi v2, xi v3, xi v4, xi v5, xi v6, xi v7, xi v8, xi 0]) rfl ?_
    exact h
  · have h := hf c30
    refine Aw.iload rfl d_Mdl_fits_114 ?_
    obtain ⟨o3, h⟩ := h
    obtain ⟨ht, hf⟩ := h
    refine Aw.if_eq (tgt := 179) o3 (by decide) d_Mdl_fits_116 (fun c29 => ?_) (fun c29 => ?_)
    · have h := ht c29
      refine Aw.iconst d_Mdl_fits_179 ?_
      refine Aw.istore (by decide) d_Mdl_fits_180 ?_
      refine Aw.toL (L' := [xr (some a0), xi v1, xi v2, xi v3, xi v4, xi v5, xi v6, xi v7, xi v8, xi 0]) rfl ?_
      exact h
    · have h := hf c29
      refine Aw.aload_n rfl d_Mdl_fits_119 ?_
      obtain ⟨o4, h⟩ := h
      obtain ⟨b5, e6, h⟩ := h
      refine Aw.getRs (f := 770) 12 2 fl_Mdl_7 (by decide) (by decide) rfl rfl o4 e6 d_Mdl_fits_120 ?_
      refine Aw.aload_n rfl d_Mdl_fits_123 ?_
      obtain ⟨b7, e8, h⟩ := h
      refine Aw.getRs (f := 820) 12 52 fl_Mdl_120 (by decide) (by decide) rfl rfl o4 e8 d_Mdl_fits_124 ?_
      refine Aw.iload_n rfl d_Mdl_fits_127 ?_
      refine Aw.iload rfl d_Mdl_fits_128 ?_
      refine Aw.isub d_Mdl_fits_130 ?_
      refine Aw.iload rfl d_Mdl_fits_131 ?_
      refine Aw.iadd d_Mdl_fits_133 ?_
      obtain ⟨o9, h⟩ := h
      obtain ⟨o10, o11, h⟩ := h
      refine Aw.iald o9 o10 o11 d_Mdl_fits_134 (fun r12 => ?_)
      have h := h r12
      obtain ⟨o13, h⟩ := h
      obtain ⟨o14, o15, h⟩ := h
      refine Aw.lald o13 o14 o15 d_Mdl_fits_135 ?_
      refine Aw.aload_n rfl d_Mdl_fits_136 ?_
      obtain ⟨b16, e17, h⟩ := h
      refine Aw.getRs (f := 803) 12 35 fl_Mdl_74 (by decide) (by decide) rfl rfl o4 e17 d_Mdl_fits_137 ?_
      refine Aw.bipush (by decide) d_Mdl_fits_140 ?_
      refine Aw.iload_n rfl d_Mdl_fits_142 ?_
      refine Aw.imul d_Mdl_fits_143 ?_
      refine Aw.aload_n rfl d_Mdl_fits_144 ?_
      obtain ⟨b18, e19, h⟩ := h
      refine Aw.getRs (f := 801) 12 33 fl_Mdl_68 (by decide) (by decide) rfl rfl o4 e19 d_Mdl_fits_145 ?_
      refine Aw.iconst d_Mdl_fits_148 ?_
      refine Aw.iload_n rfl d_Mdl_fits_149 ?_
      refine Aw.imul d_Mdl_fits_150 ?_
      refine Aw.iconst d_Mdl_fits_151 ?_
      refine Aw.iadd d_Mdl_fits_152 ?_
      obtain ⟨o20, h⟩ := h
      obtain ⟨o21, o22, h⟩ := h
      refine Aw.iald o20 o21 o22 d_Mdl_fits_153 (fun r23 => ?_)
      have h := h r23
      refine Aw.iadd d_Mdl_fits_154 ?_
      refine Aw.iload rfl d_Mdl_fits_155 ?_
      refine Aw.isub d_Mdl_fits_157 ?_
      refine Aw.iload rfl d_Mdl_fits_158 ?_
      refine Aw.iadd d_Mdl_fits_160 ?_
      obtain ⟨o24, h⟩ := h
      obtain ⟨o25, o26, h⟩ := h
      refine Aw.lald o24 o25 o26 d_Mdl_fits_161 ?_
      refine Aw.lcmp d_Mdl_fits_162 ?_
      obtain ⟨o27, h⟩ := h
      obtain ⟨ht, hf⟩ := h
      refine Aw.if_ne (tgt := 170) o27 (by decide) d_Mdl_fits_163 (fun c28 => ?_) (fun c28 => ?_)
      · have h := ht c28
        refine Aw.iconst d_Mdl_fits_170 ?_
        refine Aw.istore (by decide) d_Mdl_fits_171 ?_
        refine Aw.toL (L' := [xr (some a0), xi v1, xi v2, xi v3, xi v4, xi v5, xi v6, xi v7, xi 0, xi v9]) rfl ?_
        refine Aw.iinc rfl d_Mdl_fits_173 ?_
        refine Aw.toL (L' := [xr (some a0), xi v1, xi v2, xi v3, xi v4, xi v5, xi v6, xi v7, xi 0, xi (v9 + 1)]) rfl ?_
        refine Aw.goto (tgt := 107) (by decide) d_Mdl_fits_176 ?_
        exact h
      · have h := hf c28
        refine Aw.iconst d_Mdl_fits_166 ?_
        refine Aw.goto (tgt := 171) (by decide) d_Mdl_fits_167 ?_
        refine Aw.istore (by decide) d_Mdl_fits_171 ?_
        refine Aw.toL (L' := [xr (some a0), xi v1, xi v2, xi v3, xi v4, xi v5, xi v6, xi v7, xi 1, xi v9]) rfl ?_
        refine Aw.iinc rfl d_Mdl_fits_173 ?_
        refine Aw.toL (L' := [xr (some a0), xi v1, xi v2, xi v3, xi v4, xi v5, xi v6, xi v7, xi 1, xi (v9 + 1)]) rfl ?_
        refine Aw.goto (tgt := 107) (by decide) d_Mdl_fits_176 ?_
        exact h
theorem b_Mdl_fits_182 {Ω : Om} {R : Room} {F : QF} {k n : Nat} {σ : Sto} {a0 : Nat} {v1 : Int} {v2 : Int} {v3 : Int} {v4 : Int} {v5 : Int} {v6 : Int} {v7 : Int} {v8 : Int} {v9 : Int} (h : Q32 v9 ∧ Q32 v7 ∧ ((v7 ≤ v9 → Aw Ω M_Mdl_fits R F k n 240 [xr (some a0), xi v1, xi v2, xi v3, xi v4, xi v5, xi v6, xi v7, xi v8, xi 0] [] σ) ∧ (¬ v7 ≤ v9 → Q32 v8 ∧ ((v8 = (0 : Int) → Aw Ω M_Mdl_fits R F k n 240 [xr (some a0), xi v1, xi v2, xi v3, xi v4, xi v5, xi v6, xi v7, xi v8, xi 0] [] σ) ∧ (¬ v8 = (0 : Int) → sK σ a0 = 13 ∧ (∃ b5 : Nat, fR σ 770 a0 = some b5 ∧ (∃ b7 : Nat, fR σ 820 a0 = some b7 ∧ sK σ b7 = 50 ∧ 0 ≤ (v2 + v9) ∧ (v2 + v9) < sZ σ b7 ∧ (Q32 (aI σ b7 (v2 + v9).toNat) → sK σ b5 = 51 ∧ 0 ≤ (aI σ b7 (v2 + v9).toNat) ∧ (aI σ b7 (v2 + v9).toNat) < sZ σ b5 ∧ (∃ b16 : Nat, fR σ 802 a0 = some b16 ∧ sK σ b16 = 51 ∧ 0 ≤ ((40 * v1) + v9) ∧ ((40 * v1) + v9) < sZ σ b16 ∧ Q32 (cmpL (aL σ b5 (aI σ b7 (v2 + v9).toNat).toNat) (aL σ b16 ((40 * v1) + v9).toNat)) ∧ ((¬ (cmpL (aL σ b5 (aI σ b7 (v2 + v9).toNat).toNat) (aL σ b16 ((40 * v1) + v9).toNat)) = (0 : Int) → Aw Ω M_Mdl_fits R F k n 182 [xr (some a0), xi v1, xi v2, xi v3, xi v4, xi v5, xi v6, xi v7, xi 0, xi (v9 + 1)] [] σ) ∧ ((cmpL (aL σ b5 (aI σ b7 (v2 + v9).toNat).toNat) (aL σ b16 ((40 * v1) + v9).toNat)) = (0 : Int) → Aw Ω M_Mdl_fits R F k n 182 [xr (some a0), xi v1, xi v2, xi v3, xi v4, xi v5, xi v6, xi v7, xi 1, xi (v9 + 1)] [] σ))))))))))) : Aw Ω M_Mdl_fits R F k n 182 [xr (some a0), xi v1, xi v2, xi v3, xi v4, xi v5, xi v6, xi v7, xi v8, xi v9] [] σ := by
  refine Aw.iload rfl d_Mdl_fits_182 ?_
  refine Aw.iload rfl d_Mdl_fits_184 ?_
  obtain ⟨o1, h⟩ := h
  obtain ⟨o2, h⟩ := h
  obtain ⟨ht, hf⟩ := h
  refine Aw.icmp_ge (tgt := 237) o1 o2 (by decide) d_Mdl_fits_186 (fun c24 => ?_) (fun c24 => ?_)
  · have h := ht c24
    refine Aw.iconst d_Mdl_fits_237 ?_
    refine Aw.istore (by decide) d_Mdl_fits_238 ?_
    refine Aw.toL (L' := [xr (some a0), xi v1, xi v2, xi v3, xi v4, xi v5, xi v6, xi v7, xi v8, xi 0]) rfl ?_
    exact h
  · have h := hf c24
    refine Aw.iload rfl d_Mdl_fits_189 ?_
    obtain ⟨o3, h⟩ := h
    obtain ⟨ht, hf⟩ := h
    refine Aw.if_eq (tgt := 237) o3 (by decide) d_Mdl_fits_191 (fun c23 => ?_) (fun c23 => ?_)
    · have h := ht c23
      refine Aw.iconst d_Mdl_fits_237 ?_
      refine Aw.istore (by decide) d_Mdl_fits_238 ?_
      refine Aw.toL (L' := [xr (some a0), xi v1, xi v2, xi v3, xi v4, xi v5, xi v6, xi v7, xi v8, xi 0]) rfl ?_
      exact h
    · have h := hf c23
      refine Aw.aload_n rfl d_Mdl_fits_194 ?_
      obtain ⟨o4, h⟩ := h
      obtain ⟨b5, e6, h⟩ := h
      refine Aw.getRs (f := 770) 12 2 fl_Mdl_7 (by decide) (by decide) rfl rfl o4 e6 d_Mdl_fits_195 ?_
      refine Aw.aload_n rfl d_Mdl_fits_198 ?_
      obtain ⟨b7, e8, h⟩ := h
      refine Aw.getRs (f := 820) 12 52 fl_Mdl_120 (by decide) (by decide) rfl rfl o4 e8 d_Mdl_fits_199 ?_
      refine Aw.iload_n rfl d_Mdl_fits_202 ?_
      refine Aw.iload rfl d_Mdl_fits_203 ?_
      refine Aw.iadd d_Mdl_fits_205 ?_
      obtain ⟨o9, h⟩ := h
      obtain ⟨o10, o11, h⟩ := h
      refine Aw.iald o9 o10 o11 d_Mdl_fits_206 (fun r12 => ?_)
      have h := h r12
      obtain ⟨o13, h⟩ := h
      obtain ⟨o14, o15, h⟩ := h
      refine Aw.lald o13 o14 o15 d_Mdl_fits_207 ?_
      refine Aw.aload_n rfl d_Mdl_fits_208 ?_
      obtain ⟨b16, e17, h⟩ := h
      refine Aw.getRs (f := 802) 12 34 fl_Mdl_71 (by decide) (by decide) rfl rfl o4 e17 d_Mdl_fits_209 ?_
      refine Aw.bipush (by decide) d_Mdl_fits_212 ?_
      refine Aw.iload_n rfl d_Mdl_fits_214 ?_
      refine Aw.imul d_Mdl_fits_215 ?_
      refine Aw.iload rfl d_Mdl_fits_216 ?_
      refine Aw.iadd d_Mdl_fits_218 ?_
      obtain ⟨o18, h⟩ := h
      obtain ⟨o19, o20, h⟩ := h
      refine Aw.lald o18 o19 o20 d_Mdl_fits_219 ?_
      refine Aw.lcmp d_Mdl_fits_220 ?_
      obtain ⟨o21, h⟩ := h
      obtain ⟨ht, hf⟩ := h
      refine Aw.if_ne (tgt := 228) o21 (by decide) d_Mdl_fits_221 (fun c22 => ?_) (fun c22 => ?_)
      · have h := ht c22
        refine Aw.iconst d_Mdl_fits_228 ?_
        refine Aw.istore (by decide) d_Mdl_fits_229 ?_
        refine Aw.toL (L' := [xr (some a0), xi v1, xi v2, xi v3, xi v4, xi v5, xi v6, xi v7, xi 0, xi v9]) rfl ?_
        refine Aw.iinc rfl d_Mdl_fits_231 ?_
        refine Aw.toL (L' := [xr (some a0), xi v1, xi v2, xi v3, xi v4, xi v5, xi v6, xi v7, xi 0, xi (v9 + 1)]) rfl ?_
        refine Aw.goto (tgt := 182) (by decide) d_Mdl_fits_234 ?_
        exact h
      · have h := hf c22
        refine Aw.iconst d_Mdl_fits_224 ?_
        refine Aw.goto (tgt := 229) (by decide) d_Mdl_fits_225 ?_
        refine Aw.istore (by decide) d_Mdl_fits_229 ?_
        refine Aw.toL (L' := [xr (some a0), xi v1, xi v2, xi v3, xi v4, xi v5, xi v6, xi v7, xi 1, xi v9]) rfl ?_
        refine Aw.iinc rfl d_Mdl_fits_231 ?_
        refine Aw.toL (L' := [xr (some a0), xi v1, xi v2, xi v3, xi v4, xi v5, xi v6, xi v7, xi 1, xi (v9 + 1)]) rfl ?_
        refine Aw.goto (tgt := 182) (by decide) d_Mdl_fits_234 ?_
        exact h
theorem b_Mdl_fits_240 {Ω : Om} {R : Room} {F : QF} {k n : Nat} {σ : Sto} {a0 : Nat} {v1 : Int} {v2 : Int} {v3 : Int} {v4 : Int} {v5 : Int} {v6 : Int} {v7 : Int} {v8 : Int} {v9 : Int} (h : Q32 v9 ∧ Q32 v6 ∧ ((v6 ≤ v9 → Aw Ω M_Mdl_fits R F k n 302 [xr (some a0), xi v1, xi v2, xi v3, xi v4, xi v5, xi v6, xi v7, xi v8, xi v9] [xi v8] σ) ∧ (¬ v6 ≤ v9 → Q32 v8 ∧ ((v8 = (0 : Int) → Aw Ω M_Mdl_fits R F k n 302 [xr (some a0), xi v1, xi v2, xi v3, xi v4, xi v5, xi v6, xi v7, xi v8, xi v9] [xi v8] σ) ∧ (¬ v8 = (0 : Int) → sK σ a0 = 13 ∧ (∃ b5 : Nat, fR σ 770 a0 = some b5 ∧ (∃ b7 : Nat, fR σ 820 a0 = some b7 ∧ sK σ b7 = 50 ∧ 0 ≤ ((v2 + v7) + v9) ∧ ((v2 + v7) + v9) < sZ σ b7 ∧ (Q32 (aI σ b7 ((v2 + v7) + v9).toNat) → sK σ b5 = 51 ∧ 0 ≤ (aI σ b7 ((v2 + v7) + v9).toNat) ∧ (aI σ b7 ((v2 + v7) + v9).toNat) < sZ σ b5 ∧ (∃ b16 : Nat, fR σ 803 a0 = some b16 ∧ sK σ b16 = 51 ∧ 0 ≤ (((6 * v1) + 3) + v9) ∧ (((6 * v1) + 3) + v9) < sZ σ b16 ∧ Q32 (cmpL (aL σ b5 (aI σ b7 ((v2 + v7) + v9).toNat).toNat) (aL σ b16 (((6 * v1) + 3) + v9).toNat)) ∧ ((¬ (cmpL (aL σ b5 (aI σ b7 ((v2 + v7) + v9).toNat).toNat) (aL σ b16 (((6 * v1) + 3) + v9).toNat)) = (0 : Int) → Aw Ω M_Mdl_fits R F k n 240 [xr (some a0), xi v1, xi v2, xi v3, xi v4, xi v5, xi v6, xi v7, xi 0, xi (v9 + 1)] [] σ) ∧ ((cmpL (aL σ b5 (aI σ b7 ((v2 + v7) + v9).toNat).toNat) (aL σ b16 (((6 * v1) + 3) + v9).toNat)) = (0 : Int) → Aw Ω M_Mdl_fits R F k n 240 [xr (some a0), xi v1, xi v2, xi v3, xi v4, xi v5, xi v6, xi v7, xi 1, xi (v9 + 1)] [] σ))))))))))) : Aw Ω M_Mdl_fits R F k n 240 [xr (some a0), xi v1, xi v2, xi v3, xi v4, xi v5, xi v6, xi v7, xi v8, xi v9] [] σ := by
  refine Aw.iload rfl d_Mdl_fits_240 ?_
  refine Aw.iload rfl d_Mdl_fits_242 ?_
  obtain ⟨o1, h⟩ := h
  obtain ⟨o2, h⟩ := h
  obtain ⟨ht, hf⟩ := h
  refine Aw.icmp_ge (tgt := 300) o1 o2 (by decide) d_Mdl_fits_244 (fun c24 => ?_) (fun c24 => ?_)
  · have h := ht c24
    refine Aw.iload rfl d_Mdl_fits_300 ?_
    exact h
  · have h := hf c24
    refine Aw.iload rfl d_Mdl_fits_247 ?_
    obtain ⟨o3, h⟩ := h
    obtain ⟨ht, hf⟩ := h
    refine Aw.if_eq (tgt := 300) o3 (by decide) d_Mdl_fits_249 (fun c23 => ?_) (fun c23 => ?_)
    · have h := ht c23
      refine Aw.iload rfl d_Mdl_fits_300 ?_
      exact h
    · have h := hf c23
      refine Aw.aload_n rfl d_Mdl_fits_252 ?_
      obtain ⟨o4, h⟩ := h
      obtain ⟨b5, e6, h⟩ := h
      refine Aw.getRs (f := 770) 12 2 fl_Mdl_7 (by decide) (by decide) rfl rfl o4 e6 d_Mdl_fits_253 ?_
      refine Aw.aload_n rfl d_Mdl_fits_256 ?_
      obtain ⟨b7, e8, h⟩ := h
      refine Aw.getRs (f := 820) 12 52 fl_Mdl_120 (by decide) (by decide) rfl rfl o4 e8 d_Mdl_fits_257 ?_
      refine Aw.iload_n rfl d_Mdl_fits_260 ?_
      refine Aw.iload rfl d_Mdl_fits_261 ?_
      refine Aw.iadd d_Mdl_fits_263 ?_
      refine Aw.iload rfl d_Mdl_fits_264 ?_
      refine Aw.iadd d_Mdl_fits_266 ?_
      obtain ⟨o9, h⟩ := h
      obtain ⟨o10, o11, h⟩ := h
      refine Aw.iald o9 o10 o11 d_Mdl_fits_267 (fun r12 => ?_)
      have h := h r12
      obtain ⟨o13, h⟩ := h
      obtain ⟨o14, o15, h⟩ := h
      refine Aw.lald o13 o14 o15 d_Mdl_fits_268 ?_
      refine Aw.aload_n rfl d_Mdl_fits_269 ?_
      obtain ⟨b16, e17, h⟩ := h
      refine Aw.getRs (f := 803) 12 35 fl_Mdl_74 (by decide) (by decide) rfl rfl o4 e17 d_Mdl_fits_270 ?_
      refine Aw.bipush (by decide) d_Mdl_fits_273 ?_
      refine Aw.iload_n rfl d_Mdl_fits_275 ?_
      refine Aw.imul d_Mdl_fits_276 ?_
      refine Aw.iconst d_Mdl_fits_277 ?_
      refine Aw.iadd d_Mdl_fits_278 ?_
      refine Aw.iload rfl d_Mdl_fits_279 ?_
      refine Aw.iadd d_Mdl_fits_281 ?_
      obtain ⟨o18, h⟩ := h
      obtain ⟨o19, o20, h⟩ := h
      refine Aw.lald o18 o19 o20 d_Mdl_fits_282 ?_
      refine Aw.lcmp d_Mdl_fits_283 ?_
      obtain ⟨o21, h⟩ := h
      obtain ⟨ht, hf⟩ := h
      refine Aw.if_ne (tgt := 291) o21 (by decide) d_Mdl_fits_284 (fun c22 => ?_) (fun c22 => ?_)
      · have h := ht c22
        refine Aw.iconst d_Mdl_fits_291 ?_
        refine Aw.istore (by decide) d_Mdl_fits_292 ?_
        refine Aw.toL (L' := [xr (some a0), xi v1, xi v2, xi v3, xi v4, xi v5, xi v6, xi v7, xi 0, xi v9]) rfl ?_
        refine Aw.iinc rfl d_Mdl_fits_294 ?_
        refine Aw.toL (L' := [xr (some a0), xi v1, xi v2, xi v3, xi v4, xi v5, xi v6, xi v7, xi 0, xi (v9 + 1)]) rfl ?_
        refine Aw.goto (tgt := 240) (by decide) d_Mdl_fits_297 ?_
        exact h
      · have h := hf c22
        refine Aw.iconst d_Mdl_fits_287 ?_
        refine Aw.goto (tgt := 292) (by decide) d_Mdl_fits_288 ?_
        refine Aw.istore (by decide) d_Mdl_fits_292 ?_
        refine Aw.toL (L' := [xr (some a0), xi v1, xi v2, xi v3, xi v4, xi v5, xi v6, xi v7, xi 1, xi v9]) rfl ?_
        refine Aw.iinc rfl d_Mdl_fits_294 ?_
        refine Aw.toL (L' := [xr (some a0), xi v1, xi v2, xi v3, xi v4, xi v5, xi v6, xi v7, xi 1, xi (v9 + 1)]) rfl ?_
        refine Aw.goto (tgt := 240) (by decide) d_Mdl_fits_297 ?_
        exact h
theorem r_Mdl_fits_302 {Ω : Om} {R : Room} {k n : Nat} {L : List PV} {σ : Sto} {QR : Option PV → Sto → Prop} {QX : String → Sto → Prop} {x : Int} (hx : x = 0 ∨ x = 1) (h : QR (some (xi x)) σ) (h1 : k ≤ R.cells) (h2 : n ≤ R.slots) : Aw Ω M_Mdl_fits R (MF Ω R QR QX) k n 302 L [xi x] σ := Aw.zret rfl hx h h1 h2 d_Mdl_fits_302
theorem e_Mdl_layAll {Ω : Om} {R : Room} {QR : Option PV → Sto → Prop} {QX : String → Sto → Prop} {σ : Sto} {a0 : Nat} {v1 : Int} {v2 : Int} (h : Aw Ω M_Mdl_layAll R (MF Ω R QR QX) 0 0 0 [xr (some a0), xi v1, xi v2, xu, xu, xu, xu, xu, xu, xu, xu] [] σ) : MC Ω M_Mdl_layAll R QR QX σ [xr (some a0), xi v1, xi v2] := MC.body (by decide +kernel) rfl (Nat.le_of_ble_eq_true rfl) rfl h
theorem b_Mdl_layAll_0 {Ω : Om} {R : Room} {F : QF} {k n : Nat} {σ : Sto} {a0 : Nat} {v1 : Int} {v2 : Int} (h : sK σ a0 = 13 ∧ (Q32 (fI σ 783 a0) → Aw Ω M_Mdl_layAll R F k n 10 [xr (some a0), xi v1, xi v2, xi 0, xu, xu, xu, xu, xu, xu, xu] [] (uI σ 821 a0 (fI σ 783 a0)))) : Aw Ω M_Mdl_layAll R F k n 0 [xr (some a0), xi v1, xi v2, xu, xu, xu, xu, xu, xu, xu, xu] [] σ := by
  refine Aw.aload_n rfl d_Mdl_layAll_0 ?_
  refine Aw.aload_n rfl d_Mdl_layAll_1 ?_
  obtain ⟨o1, h⟩ := h
  refine Aw.getI (f := 783) 12 15 fl_Mdl_194 (by decide) (by decide) rfl rfl o1 d_Mdl_layAll_2 (fun r2 => ?_)
  have h := h r2
  refine Aw.putI (f := 821) 12 53 fl_Mdl_327 (by decide) (by decide) rfl rfl o1 rfl r2 (Or.inl rfl) d_Mdl_layAll_5 ?_
  refine Aw.iconst d_Mdl_layAll_8 ?_
  refine Aw.istore_n (by decide) d_Mdl_layAll_9 ?_
  refine Aw.toL (L' := [xr (some a0), xi v1, xi v2, xi 0, xu, xu, xu, xu, xu, xu, xu]) rfl ?_
  exact h
theorem b_Mdl_layAll_10 {Ω : Om} {R : Room} {F : QF} {k n : Nat} {σ : Sto} {a0 : Nat} {v1 : Int} {v2 : Int} {v3 : Int} (h : sK σ a0 = 13 ∧ (Q32 (fI σ 783 a0) → Q32 v3 ∧ (((fI σ 783 a0) ≤ v3 → Aw Ω M_Mdl_layAll R F k n 47 [xr (some a0), xi v1, xi v2, xi 0, xi 0, xi 0, xi 0, xu, xu, xu, xu] [] σ) ∧ (¬ (fI σ 783 a0) ≤ v3 → (∃ b4 : Nat, fR σ 820 a0 = some b4 ∧ (∃ b6 : Nat, fR σ 784 a0 = some b6 ∧ sK σ b6 = 50 ∧ 0 ≤ v3 ∧ v3 < sZ σ b6 ∧ (Q32 (aI σ b6 (v3).toNat) → sK σ b4 = 50 ∧ 0 ≤ v3 ∧ v3 < sZ σ b4 ∧ Aw Ω M_Mdl_layAll R F k n 10 [xr (some a0), xi v1, xi v2, xi (v3 + 1), xu, xu, xu, xu, xu, xu, xu] [] (vI σ b4 (v3).toNat (aI σ b6 (v3).toNat))))))))) : Aw Ω M_Mdl_layAll R F k n 10 [xr (some a0), xi v1, xi v2, xi v3, xu, xu, xu, xu, xu, xu, xu] [] σ := by
  refine Aw.iload_n rfl d_Mdl_layAll_10 ?_
  refine Aw.aload_n rfl d_Mdl_layAll_11 ?_
  obtain ⟨o1, h⟩ := h
  refine Aw.getI (f := 783) 12 15 fl_Mdl_194 (by decide) (by decide) rfl rfl o1 d_Mdl_layAll_12 (fun r2 => ?_)
  have h := h r2
  obtain ⟨o3, h⟩ := h
  obtain ⟨ht, hf⟩ := h
  refine Aw.icmp_ge (tgt := 36) o3 r2 (by decide) d_Mdl_layAll_15 (fun c15 => ?_) (fun c15 => ?_)
  · have h := ht c15
    refine Aw.iconst d_Mdl_layAll_36 ?_
    refine Aw.istore_n (by decide) d_Mdl_layAll_37 ?_
    refine Aw.toL (L' := [xr (some a0), xi v1, xi v2, xi 0, xu, xu, xu, xu, xu, xu, xu]) rfl ?_
    refine Aw.iconst d_Mdl_layAll_38 ?_
    refine Aw.istore (by decide) d_Mdl_layAll_39 ?_
    refine Aw.toL (L' := [xr (some a0), xi v1, xi v2, xi 0, xi 0, xu, xu, xu, xu, xu, xu]) rfl ?_
    refine Aw.iconst d_Mdl_layAll_41 ?_
    refine Aw.istore (by decide) d_Mdl_layAll_42 ?_
    refine Aw.toL (L' := [xr (some a0), xi v1, xi v2, xi 0, xi 0, xi 0, xu, xu, xu, xu, xu]) rfl ?_
    refine Aw.iconst d_Mdl_layAll_44 ?_
    refine Aw.istore (by decide) d_Mdl_layAll_45 ?_
    refine Aw.toL (L' := [xr (some a0), xi v1, xi v2, xi 0, xi 0, xi 0, xi 0, xu, xu, xu, xu]) rfl ?_
    exact h
  · have h := hf c15
    refine Aw.aload_n rfl d_Mdl_layAll_18 ?_
    obtain ⟨b4, e5, h⟩ := h
    refine Aw.getRs (f := 820) 12 52 fl_Mdl_120 (by decide) (by decide) rfl rfl o1 e5 d_Mdl_layAll_19 ?_
    refine Aw.iload_n rfl d_Mdl_layAll_22 ?_
    refine Aw.aload_n rfl d_Mdl_layAll_23 ?_
    obtain ⟨b6, e7, h⟩ := h
    refine Aw.getRs (f := 784) 12 16 fl_Mdl_35 (by decide) (by decide) rfl rfl o1 e7 d_Mdl_layAll_24 ?_
    refine Aw.iload_n rfl d_Mdl_layAll_27 ?_
    obtain ⟨o8, h⟩ := h
    obtain ⟨o9, o10, h⟩ := h
    refine Aw.iald o8 o9 o10 d_Mdl_layAll_28 (fun r11 => ?_)
    have h := h r11
    obtain ⟨o12, h⟩ := h
    obtain ⟨o13, o14, h⟩ := h
    refine Aw.iast o12 o13 o14 r11 d_Mdl_layAll_29 ?_
    refine Aw.iinc rfl d_Mdl_layAll_30 ?_
    refine Aw.toL (L' := [xr (some a0), xi v1, xi v2, xi (v3 + 1), xu, xu, xu, xu, xu, xu, xu]) rfl ?_
    refine Aw.goto (tgt := 10) (by decide) d_Mdl_layAll_33 ?_
    exact h
theorem b_Mdl_layAll_47 {Ω : Om} {R : Room} {F : QF} {k n : Nat} {σ : Sto} {a0 : Nat} {v1 : Int} {v2 : Int} {v3 : Int} {v4 : Int} {v5 : Int} {v6 : Int} (h : sK σ a0 = 13 ∧ (∃ b2 : Nat, fR σ 798 a0 = some b2 ∧ sK σ b2 = 50 ∧ 0 ≤ v1 ∧ v1 < sZ σ b2 ∧ (Q32 (aI σ b2 (v1).toNat) → Q32 v6 ∧ (((aI σ b2 (v1).toNat) ≤ v6 → Aw Ω M_Mdl_layAll R F k n 173 [xr (some a0), xi v1, xi v2, xi v3, xi v4, xi v5, xi v6, xu, xu, xu, xu] [xi v3] σ) ∧ (¬ (aI σ b2 (v1).toNat) ≤ v6 → (∃ b9 : Nat, fR σ 799 a0 = some b9 ∧ sK σ b9 = 50 ∧ 0 ≤ ((21 * v1) + v6) ∧ ((21 * v1) + v6) < sZ σ b9 ∧ (Q32 (aI σ b9 ((21 * v1) + v6).toNat) → Aw Ω M_Mdl_layAll R F k n 87 [xr (some a0), xi v1, xi v2, xi v3, xi v4, xi v5, xi v6, xi ((21 * v1) + v6), xi ((aI σ b9 ((21 * v1) + v6).toNat) + v4), xu, xu] [xi v5, xi v2, xi ((aI σ b9 ((21 * v1) + v6).toNat) + v4), xi ((21 * v1) + v6), xr (some a0)] σ))))))) : Aw Ω M_Mdl_layAll R F k n 47 [xr (some a0), xi v1, xi v2, xi v3, xi v4, xi v5, xi v6, xu, xu, xu, xu] [] σ := by
  refine Aw.iload rfl d_Mdl_layAll_47 ?_
  refine Aw.aload_n rfl d_Mdl_layAll_49 ?_
  obtain ⟨o1, h⟩ := h
  obtain ⟨b2, e3, h⟩ := h
  refine Aw.getRs (f := 798) 12 30 fl_Mdl_59 (by decide) (by decide) rfl rfl o1 e3 d_Mdl_layAll_50 ?_
  refine Aw.iload_n rfl d_Mdl_layAll_53 ?_
  obtain ⟨o4, h⟩ := h
  obtain ⟨o5, o6, h⟩ := h
  refine Aw.iald o4 o5 o6 d_Mdl_layAll_54 (fun r7 => ?_)
  have h := h r7
  obtain ⟨o8, h⟩ := h
  obtain ⟨ht, hf⟩ := h
  refine Aw.icmp_ge (tgt := 172) o8 r7 (by decide) d_Mdl_layAll_55 (fun c15 => ?_) (fun c15 => ?_)
  · have h := ht c15
    refine Aw.iload_n rfl d_Mdl_layAll_172 ?_
    exact h
  · have h := hf c15
    refine Aw.bipush (by decide) d_Mdl_layAll_58 ?_
    refine Aw.iload_n rfl d_Mdl_layAll_60 ?_
    refine Aw.imul d_Mdl_layAll_61 ?_
    refine Aw.iload rfl d_Mdl_layAll_62 ?_
    refine Aw.iadd d_Mdl_layAll_64 ?_
    refine Aw.istore (by decide) d_Mdl_layAll_65 ?_
    refine Aw.toL (L' := [xr (some a0), xi v1, xi v2, xi v3, xi v4, xi v5, xi v6, xi ((21 * v1) + v6), xu, xu, xu]) rfl ?_
    refine Aw.aload_n rfl d_Mdl_layAll_67 ?_
    obtain ⟨b9, e10, h⟩ := h
    refine Aw.getRs (f := 799) 12 31 fl_Mdl_62 (by decide) (by decide) rfl rfl o1 e10 d_Mdl_layAll_68 ?_
    refine Aw.iload rfl d_Mdl_layAll_71 ?_
    obtain ⟨o11, h⟩ := h
    obtain ⟨o12, o13, h⟩ := h
    refine Aw.iald o11 o12 o13 d_Mdl_layAll_73 (fun r14 => ?_)
    have h := h r14
    refine Aw.iload rfl d_Mdl_layAll_74 ?_
    refine Aw.iadd d_Mdl_layAll_76 ?_
    refine Aw.istore (by decide) d_Mdl_layAll_77 ?_
    refine Aw.toL (L' := [xr (some a0), xi v1, xi v2, xi v3, xi v4, xi v5, xi v6, xi ((21 * v1) + v6), xi ((aI σ b9 ((21 * v1) + v6).toNat) + v4), xu, xu]) rfl ?_
    refine Aw.aload_n rfl d_Mdl_layAll_79 ?_
    refine Aw.iload rfl d_Mdl_layAll_80 ?_
    refine Aw.iload rfl d_Mdl_layAll_82 ?_
    refine Aw.iload_n rfl d_Mdl_layAll_84 ?_
    refine Aw.iload rfl d_Mdl_layAll_85 ?_
    exact h
theorem b_Mdl_layAll_90 {Ω : Om} {R : Room} {F : QF} {k n : Nat} {σ : Sto} {a0 : Nat} {v1 : Int} {v2 : Int} {v3 : Int} {v4 : Int} {v5 : Int} {v6 : Int} {v7 : Int} {v8 : Int} {s0 : Int} (h : Q32 s0 ∧ ((¬ s0 = (-1 : Int) → sK σ a0 = 13 ∧ (∃ b3 : Nat, fR σ 801 a0 = some b3 ∧ sK σ b3 = 50 ∧ 0 ≤ ((4 * v7) + 1) ∧ ((4 * v7) + 1) < sZ σ b3 ∧ (Q32 (aI σ b3 ((4 * v7) + 1).toNat) → 0 ≤ (4 * v7) ∧ (4 * v7) < sZ σ b3 ∧ (Q32 (aI σ b3 (4 * v7).toNat) → Aw Ω M_Mdl_layAll R F k n 134 [xr (some a0), xi v1, xi v2, xi v3, xi v4, xi v5, xi v6, xi v7, xi v8, xi s0, xi ((aI σ b3 ((4 * v7) + 1).toNat) - (aI σ b3 (4 * v7).toNat))] [xi ((aI σ b3 ((4 * v7) + 1).toNat) - (aI σ b3 (4 * v7).toNat)), xi s0, xi v7, xr (some a0)] σ)))) ∧ (s0 = (-1 : Int) → Aw Ω M_Mdl_layAll R F k n 47 [xr (some a0), xi v1, xi v2, xi (v3 + 1), xi v4, xi v5, xi (v6 + 1), xu, xu, xu, xu] [] σ))) : Aw Ω M_Mdl_layAll R F k n 90 [xr (some a0), xi v1, xi v2, xi v3, xi v4, xi v5, xi v6, xi v7, xi v8, xu, xu] [xi s0] σ := by
  refine Aw.istore (by decide) d_Mdl_layAll_90 ?_
  refine Aw.toL (L' := [xr (some a0), xi v1, xi v2, xi v3, xi v4, xi v5, xi v6, xi v7, xi v8, xi s0, xu]) rfl ?_
  refine Aw.iload rfl d_Mdl_layAll_92 ?_
  refine Aw.iconst d_Mdl_layAll_94 ?_
  obtain ⟨o1, h⟩ := h
  obtain ⟨ht, hf⟩ := h
  refine Aw.icmp_ne (tgt := 104) o1 ⟨by decide, by decide⟩ (by decide) d_Mdl_layAll_95 (fun c12 => ?_) (fun c12 => ?_)
  · have h := ht c12
    refine Aw.aload_n rfl d_Mdl_layAll_104 ?_
    obtain ⟨o2, h⟩ := h
    obtain ⟨b3, e4, h⟩ := h
    refine Aw.getRs (f := 801) 12 33 fl_Mdl_68 (by decide) (by decide) rfl rfl o2 e4 d_Mdl_layAll_105 ?_
    refine Aw.iconst d_Mdl_layAll_108 ?_
    refine Aw.iload rfl d_Mdl_layAll_109 ?_
    refine Aw.imul d_Mdl_layAll_111 ?_
    refine Aw.iconst d_Mdl_layAll_112 ?_
    refine Aw.iadd d_Mdl_layAll_113 ?_
    obtain ⟨o5, h⟩ := h
    obtain ⟨o6, o7, h⟩ := h
    refine Aw.iald o5 o6 o7 d_Mdl_layAll_114 (fun r8 => ?_)
    have h := h r8
    refine Aw.aload_n rfl d_Mdl_layAll_115 ?_
    refine Aw.getRs (f := 801) 12 33 fl_Mdl_68 (by decide) (by decide) rfl rfl o2 e4 d_Mdl_layAll_116 ?_
    refine Aw.iconst d_Mdl_layAll_119 ?_
    refine Aw.iload rfl d_Mdl_layAll_120 ?_
    refine Aw.imul d_Mdl_layAll_122 ?_
    obtain ⟨o9, o10, h⟩ := h
    refine Aw.iald o5 o9 o10 d_Mdl_layAll_123 (fun r11 => ?_)
    have h := h r11
    refine Aw.isub d_Mdl_layAll_124 ?_
    refine Aw.istore (by decide) d_Mdl_layAll_125 ?_
    refine Aw.toL (L' := [xr (some a0), xi v1, xi v2, xi v3, xi v4, xi v5, xi v6, xi v7, xi v8, xi s0, xi ((aI σ b3 ((4 * v7) + 1).toNat) - (aI σ b3 (4 * v7).toNat))]) rfl ?_
    refine Aw.aload_n rfl d_Mdl_layAll_127 ?_
    refine Aw.iload rfl d_Mdl_layAll_128 ?_
    refine Aw.iload rfl d_Mdl_layAll_130 ?_
    refine Aw.iload rfl d_Mdl_layAll_132 ?_
    exact h
  · have h := hf c12
    refine Aw.iinc rfl d_Mdl_layAll_98 ?_
    refine Aw.toL (L' := [xr (some a0), xi v1, xi v2, xi (v3 + 1), xi v4, xi v5, xi v6, xi v7, xi v8, xi s0, xu]) rfl ?_
    refine Aw.goto (tgt := 166) (by decide) d_Mdl_layAll_101 ?_
    refine Aw.iinc rfl d_Mdl_layAll_166 ?_
    refine Aw.toL (L' := [xr (some a0), xi v1, xi v2, xi (v3 + 1), xi v4, xi v5, xi (v6 + 1), xi v7, xi v8, xi s0, xu]) rfl ?_
    refine Aw.goto (tgt := 47) (by decide) d_Mdl_layAll_169 ?_
    exact Aw.toW (L' := [xr (some a0), xi v1, xi v2, xi (v3 + 1), xi v4, xi v5, xi (v6 + 1), xu, xu, xu, xu]) ⟨Or.inr rfl, Or.inr rfl, Or.inr rfl, Or.inr rfl, Or.inr rfl, Or.inr rfl, Or.inr rfl, Or.inl rfl, Or.inl rfl, Or.inl rfl, Or.inr rfl, trivial⟩ h
theorem b_Mdl_layAll_137 {Ω : Om} {R : Room} {F : QF} {k n : Nat} {σ : Sto} {a0 : Nat} {v1 : Int} {v2 : Int} {v3 : Int} {v4 : Int} {v5 : Int} {v6 : Int} {v7 : Int} {v8 : Int} {v9 : Int} {v10 : Int} (h : sK σ a0 = 13 ∧ (∃ b2 : Nat, fR σ 801 a0 = some b2 ∧ sK σ b2 = 50 ∧ 0 ≤ ((4 * v7) + 1) ∧ ((4 * v7) + 1) < sZ σ b2 ∧ (Q32 (aI σ b2 ((4 * v7) + 1).toNat) → Aw Ω M_Mdl_layAll R F k n 47 [xr (some a0), xi v1, xi v2, xi v3, xi (v4 + ((v10 + v9) - v8)), xi (v9 + (aI σ b2 ((4 * v7) + 1).toNat)), xi (v6 + 1), xu, xu, xu, xu] [] σ))) : Aw Ω M_Mdl_layAll R F k n 137 [xr (some a0), xi v1, xi v2, xi v3, xi v4, xi v5, xi v6, xi v7, xi v8, xi v9, xi v10] [] σ := by
  refine Aw.iload rfl d_Mdl_layAll_137 ?_
  refine Aw.iload rfl d_Mdl_layAll_139 ?_
  refine Aw.iload rfl d_Mdl_layAll_141 ?_
  refine Aw.iadd d_Mdl_layAll_143 ?_
  refine Aw.iload rfl d_Mdl_layAll_144 ?_
  refine Aw.isub d_Mdl_layAll_146 ?_
  refine Aw.iadd d_Mdl_layAll_147 ?_
  refine Aw.istore (by decide) d_Mdl_layAll_148 ?_
  refine Aw.toL (L' := [xr (some a0), xi v1, xi v2, xi v3, xi (v4 + ((v10 + v9) - v8)), xi v5, xi v6, xi v7, xi v8, xi v9, xi v10]) rfl ?_
  refine Aw.iload rfl d_Mdl_layAll_150 ?_
  refine Aw.aload_n rfl d_Mdl_layAll_152 ?_
  obtain ⟨o1, h⟩ := h
  obtain ⟨b2, e3, h⟩ := h
  refine Aw.getRs (f := 801) 12 33 fl_Mdl_68 (by decide) (by decide) rfl rfl o1 e3 d_Mdl_layAll_153 ?_
  refine Aw.iconst d_Mdl_layAll_156 ?_
  refine Aw.iload rfl d_Mdl_layAll_157 ?_
  refine Aw.imul d_Mdl_layAll_159 ?_
  refine Aw.iconst d_Mdl_layAll_160 ?_
  refine Aw.iadd d_Mdl_layAll_161 ?_
  obtain ⟨o4, h⟩ := h
  obtain ⟨o5, o6, h⟩ := h
  refine Aw.iald o4 o5 o6 d_Mdl_layAll_162 (fun r7 => ?_)
  have h := h r7
  refine Aw.iadd d_Mdl_layAll_163 ?_
  refine Aw.istore (by decide) d_Mdl_layAll_164 ?_
  refine Aw.toL (L' := [xr (some a0), xi v1, xi v2, xi v3, xi (v4 + ((v10 + v9) - v8)), xi (v9 + (aI σ b2 ((4 * v7) + 1).toNat)), xi v6, xi v7, xi v8, xi v9, xi v10]) rfl ?_
  refine Aw.iinc rfl d_Mdl_layAll_166 ?_
  refine Aw.toL (L' := [xr (some a0), xi v1, xi v2, xi v3, xi (v4 + ((v10 + v9) - v8)), xi (v9 + (aI σ b2 ((4 * v7) + 1).toNat)), xi (v6 + 1), xi v7, xi v8, xi v9, xi v10]) rfl ?_
  refine Aw.goto (tgt := 47) (by decide) d_Mdl_layAll_169 ?_
  exact Aw.toW (L' := [xr (some a0), xi v1, xi v2, xi v3, xi (v4 + ((v10 + v9) - v8)), xi (v9 + (aI σ b2 ((4 * v7) + 1).toNat)), xi (v6 + 1), xu, xu, xu, xu]) ⟨Or.inr rfl, Or.inr rfl, Or.inr rfl, Or.inr rfl, Or.inr rfl, Or.inr rfl, Or.inr rfl, Or.inl rfl, Or.inl rfl, Or.inl rfl, Or.inl rfl, trivial⟩ h
theorem c_Mdl_layAll_87 {Ω : Om} {R R' : Room} {F : QF} {k n : Nat} {L st : List PV} {σ : Sto} {QX' : String → Sto → Prop} {Q : Int → Sto → Prop} {a : Nat} {x0 : Int} {x1 : Int} {x2 : Int} {x3 : Int} (hc : MC Ω M_Mdl_find R' (RI Q) QX' σ [xr (some a), xi x0, xi x1, xi x2, xi x3]) (hk : sK σ a = 13) (hr1 : R'.frames + 1 ≤ R.frames) (hr2 : 8 + (7 + 11) + R'.locals ≤ R.locals) (hb1 : k + R'.cells ≤ R.cells) (hb2 : n + R'.slots ≤ R.slots) (hst : (st.map catP).sum ≤ 8) (kk : ∀ x σ', Q x σ' → Aw Ω M_Mdl_layAll R F (k + R'.cells) (n + R'.slots) 90 L (xi x :: st) σ') (kx : ∀ E σ', QX' E σ' → Ax Ω M_Mdl_layAll R F (k + R'.cells) (n + R'.slots) 87 L st σ' E) : Aw Ω M_Mdl_layAll R F k n 87 L (xi x3 :: xi x2 :: xi x1 :: xi x0 :: xr (some a) :: st) σ :=
  Aw.callV (As := [xi x0, xi x1, xi x2, xi x3]) (stk := xi x3 :: xi x2 :: xi x1 :: xi x0 :: xr (some a) :: st) (nn := 4) 12 M_Mdl_find hc ok_Mdl_find rfl (by decide) rfl hk ml_Mdl_334 im_Mdl_find se_Mdl_find ⟨hr1, hr2⟩ rfl ⟨hb1, hb2⟩ hst rfl d_Mdl_layAll_87 (fun r σ' h => by obtain ⟨x, rfl, h⟩ := h; exact kk x σ' h) kx
theorem c_Mdl_layAll_134 {Ω : Om} {R R' : Room} {F : QF} {k n : Nat} {L st : List PV} {σ : Sto} {QX' : String → Sto → Prop} {Q : Sto → Prop} {a : Nat} {x0 : Int} {x1 : Int} {x2 : Int} (hc : MC Ω M_Mdl_exchange R' (RV Q) QX' σ [xr (some a), xi x0, xi x1, xi x2]) (hk : sK σ a = 13) (hr1 : R'.frames + 1 ≤ R.frames) (hr2 : 8 + (6 + 11) + R'.locals ≤ R.locals) (hb1 : k + R'.cells ≤ R.cells) (hb2 : n + R'.slots ≤ R.slots) (hst : (st.map catP).sum ≤ 8) (kk : ∀ σ', Q σ' → Aw Ω M_Mdl_layAll R F (k + R'.cells) (n + R'.slots) 137 L st σ') (kx : ∀ E σ', QX' E σ' → Ax Ω M_Mdl_layAll R F (k + R'.cells) (n + R'.slots) 134 L st σ' E) : Aw Ω M_Mdl_layAll R F k n 134 L (xi x2 :: xi x1 :: xi x0 :: xr (some a) :: st) σ :=
  Aw.callV (As := [xi x0, xi x1, xi x2]) (stk := xi x2 :: xi x1 :: xi x0 :: xr (some a) :: st) (nn := 3) 12 M_Mdl_exchange hc ok_Mdl_exchange rfl (by decide) rfl hk ml_Mdl_338 im_Mdl_exchange se_Mdl_exchange ⟨hr1, hr2⟩ rfl ⟨hb1, hb2⟩ hst rfl d_Mdl_layAll_134 (fun r σ' h => by obtain ⟨rfl, h⟩ := h; exact kk σ' h) kx
theorem r_Mdl_layAll_173 {Ω : Om} {R : Room} {k n : Nat} {L : List PV} {σ : Sto} {QR : Option PV → Sto → Prop} {QX : String → Sto → Prop} {x : Int} (h : QR (some (xi x)) σ) (h1 : k ≤ R.cells) (h2 : n ≤ R.slots) : Aw Ω M_Mdl_layAll R (MF Ω R QR QX) k n 173 L [xi x] σ := Aw.iret rfl h h1 h2 d_Mdl_layAll_173
theorem e_Mdl_merge {Ω : Om} {R : Room} {QR : Option PV → Sto → Prop} {QX : String → Sto → Prop} {σ : Sto} {a0 : Nat} {v1 : Int} {v2 : Int} {v3 : Int} (h : Aw Ω M_Mdl_merge R (MF Ω R QR QX) 0 0 0 [xr (some a0), xi v1, xi v2, xi v3, xu, xu, xu] [] σ) : MC Ω M_Mdl_merge R QR QX σ [xr (some a0), xi v1, xi v2, xi v3] := MC.body (by decide +kernel) rfl (Nat.le_of_ble_eq_true rfl) rfl h
theorem b_Mdl_merge_0 {Ω : Om} {R : Room} {F : QF} {k n : Nat} {σ : Sto} {a0 : Nat} {v1 : Int} {v2 : Int} {v3 : Int} (h : Aw Ω M_Mdl_merge R F k n 2 [xr (some a0), xi v1, xi v2, xi v3, xu, xu, xu] [xi v1, xr (some a0)] σ) : Aw Ω M_Mdl_merge R F k n 0 [xr (some a0), xi v1, xi v2, xi v3, xu, xu, xu] [] σ := by
  refine Aw.aload_n rfl d_Mdl_merge_0 ?_
  refine Aw.iload_n rfl d_Mdl_merge_1 ?_
  exact h
theorem b_Mdl_merge_5 {Ω : Om} {R : Room} {F : QF} {k n : Nat} {σ : Sto} {a0 : Nat} {v1 : Int} {v2 : Int} {v3 : Int} {s0 : Int} (h : Q32 s0 ∧ ((s0 = (0 : Int) → Aw Ω M_Mdl_merge R F k n 27 [xr (some a0), xi v1, xi v2, xi v3, xu, xu, xu] [] σ) ∧ (¬ s0 = (0 : Int) → Aw Ω M_Mdl_merge R F k n 10 [xr (some a0), xi v1, xi v2, xi v3, xu, xu, xu] [xi v2, xr (some a0)] σ))) : Aw Ω M_Mdl_merge R F k n 5 [xr (some a0), xi v1, xi v2, xi v3, xu, xu, xu] [xi s0] σ := by
  obtain ⟨o1, h⟩ := h
  obtain ⟨ht, hf⟩ := h
  refine Aw.if_eq (tgt := 27) o1 (by decide) d_Mdl_merge_5 (fun c2 => ?_) (fun c2 => ?_)
  · have h := ht c2
    exact h
  · have h := hf c2
    refine Aw.aload_n rfl d_Mdl_merge_8 ?_
    refine Aw.iload_n rfl d_Mdl_merge_9 ?_
    exact h
theorem b_Mdl_merge_13 {Ω : Om} {R : Room} {F : QF} {k n : Nat} {σ : Sto} {a0 : Nat} {v1 : Int} {v2 : Int} {v3 : Int} {s0 : Int} (h : Q32 s0 ∧ ((s0 = (0 : Int) → Aw Ω M_Mdl_merge R F k n 27 [xr (some a0), xi v1, xi v2, xi v3, xu, xu, xu] [] σ) ∧ (¬ s0 = (0 : Int) → Aw Ω M_Mdl_merge R F k n 17 [xr (some a0), xi v1, xi v2, xi v3, xu, xu, xu] [xi v3] σ))) : Aw Ω M_Mdl_merge R F k n 13 [xr (some a0), xi v1, xi v2, xi v3, xu, xu, xu] [xi s0] σ := by
  obtain ⟨o1, h⟩ := h
  obtain ⟨ht, hf⟩ := h
  refine Aw.if_eq (tgt := 27) o1 (by decide) d_Mdl_merge_13 (fun c2 => ?_) (fun c2 => ?_)
  · have h := ht c2
    exact h
  · have h := hf c2
    refine Aw.iload_n rfl d_Mdl_merge_16 ?_
    exact h
theorem b_Mdl_merge_20 {Ω : Om} {R : Room} {F : QF} {k n : Nat} {σ : Sto} {a0 : Nat} {v1 : Int} {v2 : Int} {v3 : Int} {s0 : Int} (h : Q32 s0 ∧ ((s0 = (0 : Int) → Aw Ω M_Mdl_merge R F k n 27 [xr (some a0), xi v1, xi v2, xi v3, xu, xu, xu] [] σ) ∧ (¬ s0 = (0 : Int) → Aw Ω M_Mdl_merge R F k n 28 [xr (some a0), xi v1, xi v2, xi v3, xu, xu, xu] [xi 1] σ))) : Aw Ω M_Mdl_merge R F k n 20 [xr (some a0), xi v1, xi v2, xi v3, xu, xu, xu] [xi s0] σ := by
  obtain ⟨o1, h⟩ := h
  obtain ⟨ht, hf⟩ := h
  refine Aw.if_eq (tgt := 27) o1 (by decide) d_Mdl_merge_20 (fun c2 => ?_) (fun c2 => ?_)
  · have h := ht c2
    exact h
  · have h := hf c2
    refine Aw.iconst d_Mdl_merge_23 ?_
    refine Aw.goto (tgt := 28) (by decide) d_Mdl_merge_24 ?_
    exact h
theorem b_Mdl_merge_28 {Ω : Om} {R : Room} {F : QF} {k n : Nat} {σ : Sto} {a0 : Nat} {v1 : Int} {v2 : Int} {v3 : Int} {s0 : Int} (h : Q32 s0 ∧ ((s0 = (0 : Int) → ((s0 = (0 : Int) → ((¬ s0 = (0 : Int) → Q32 v1 ∧ Q32 v2 ∧ ((¬ v1 = v2 → Aw Ω M_Mdl_merge R F k n 103 [xr (some a0), xi v1, xi v2, xi v3, xi s0, xi 0, xi 0] [xi 0, xr (some a0)] σ) ∧ (v1 = v2 → Aw Ω M_Mdl_merge R F k n 103 [xr (some a0), xi v1, xi v2, xi v3, xi s0, xi 0, xi 0] [xi 2, xr (some a0)] σ))) ∧ (s0 = (0 : Int) → Aw Ω M_Mdl_merge R F k n 103 [xr (some a0), xi v1, xi v2, xi v3, xi s0, xi 0, xi 0] [xi 1, xr (some a0)] σ))) ∧ (¬ s0 = (0 : Int) → Q32 v1 ∧ Q32 v2 ∧ ((v1 = v2 → ((¬ s0 = (0 : Int) → ((¬ v1 = v2 → Aw Ω M_Mdl_merge R F k n 103 [xr (some a0), xi v1, xi v2, xi v3, xi s0, xi 0, xi 0] [xi 0, xr (some a0)] σ) ∧ (v1 = v2 → Aw Ω M_Mdl_merge R F k n 103 [xr (some a0), xi v1, xi v2, xi v3, xi s0, xi 0, xi 0] [xi 2, xr (some a0)] σ))) ∧ (s0 = (0 : Int) → Aw Ω M_Mdl_merge R F k n 103 [xr (some a0), xi v1, xi v2, xi v3, xi s0, xi 0, xi 0] [xi 1, xr (some a0)] σ))) ∧ (¬ v1 = v2 → Aw Ω M_Mdl_merge R F k n 63 [xr (some a0), xi v1, xi v2, xi v3, xi s0, xi 0, xu] [xi 0, xi 0, xi v2, xi v1, xr (some a0)] σ))))) ∧ (¬ s0 = (0 : Int) → Aw Ω M_Mdl_merge R F k n 38 [xr (some a0), xi v1, xi v2, xi v3, xi s0, xu, xu] [xi v2, xi v1, xr (some a0)] σ))) : Aw Ω M_Mdl_merge R F k n 28 [xr (some a0), xi v1, xi v2, xi v3, xu, xu, xu] [xi s0] σ := by
  refine Aw.istore (by decide) d_Mdl_merge_28 ?_
  refine Aw.toL (L' := [xr (some a0), xi v1, xi v2, xi v3, xi s0, xu, xu]) rfl ?_
  refine Aw.iload rfl d_Mdl_merge_30 ?_
  obtain ⟨o1, h⟩ := h
  obtain ⟨ht, hf⟩ := h
  refine Aw.if_eq (tgt := 44) o1 (by decide) d_Mdl_merge_32 (fun c14 => ?_) (fun c14 => ?_)
  · have h := ht c14
    refine Aw.iconst d_Mdl_merge_44 ?_
    refine Aw.istore (by decide) d_Mdl_merge_45 ?_
    refine Aw.toL (L' := [xr (some a0), xi v1, xi v2, xi v3, xi s0, xi 0, xu]) rfl ?_
    refine Aw.iload rfl d_Mdl_merge_47 ?_
    obtain ⟨ht, hf⟩ := h
    refine Aw.if_eq (tgt := 69) o1 (by decide) d_Mdl_merge_49 (fun c13 => ?_) (fun c13 => ?_)
    · have h := ht c13
      refine Aw.iconst d_Mdl_merge_69 ?_
      refine Aw.istore (by decide) d_Mdl_merge_70 ?_
      refine Aw.toL (L' := [xr (some a0), xi v1, xi v2, xi v3, xi s0, xi 0, xi 0]) rfl ?_
      refine Aw.aload_n rfl d_Mdl_merge_72 ?_
      refine Aw.iload rfl d_Mdl_merge_73 ?_
      obtain ⟨ht, hf⟩ := h
      refine Aw.if_ne (tgt := 82) o1 (by decide) d_Mdl_merge_75 (fun c6 => ?_) (fun c6 => ?_)
      · have h := ht c6
        refine Aw.iload_n rfl d_Mdl_merge_82 ?_
        refine Aw.iload_n rfl d_Mdl_merge_83 ?_
        obtain ⟨o2, h⟩ := h
        obtain ⟨o3, h⟩ := h
        obtain ⟨ht, hf⟩ := h
        refine Aw.icmp_ne (tgt := 91) o2 o3 (by decide) d_Mdl_merge_84 (fun c5 => ?_) (fun c5 => ?_)
        · have h := ht c5
          refine Aw.iload rfl d_Mdl_merge_91 ?_
          refine Aw.bipush (by decide) d_Mdl_merge_93 ?_
          refine Aw.icmp_le (tgt := 102) ⟨by decide, by decide⟩ ⟨by decide, by decide⟩ (by decide) d_Mdl_merge_95 (fun c4 => ?_) (fun c4 => absurd c4 (by decide))
          refine Aw.iconst d_Mdl_merge_102 ?_
          exact h
        · have h := hf c5
          refine Aw.iconst d_Mdl_merge_87 ?_
          refine Aw.goto (tgt := 103) (by decide) d_Mdl_merge_88 ?_
          exact h
      · have h := hf c6
        refine Aw.iconst d_Mdl_merge_78 ?_
        refine Aw.goto (tgt := 103) (by decide) d_Mdl_merge_79 ?_
        exact h
    · have h := hf c13
      refine Aw.iload_n rfl d_Mdl_merge_52 ?_
      refine Aw.iload_n rfl d_Mdl_merge_53 ?_
      obtain ⟨o7, h⟩ := h
      obtain ⟨o8, h⟩ := h
      obtain ⟨ht, hf⟩ := h
      refine Aw.icmp_eq (tgt := 69) o7 o8 (by decide) d_Mdl_merge_54 (fun c12 => ?_) (fun c12 => ?_)
      · have h := ht c12
        refine Aw.iconst d_Mdl_merge_69 ?_
        refine Aw.istore (by decide) d_Mdl_merge_70 ?_
        refine Aw.toL (L' := [xr (some a0), xi v1, xi v2, xi v3, xi s0, xi 0, xi 0]) rfl ?_
        refine Aw.aload_n rfl d_Mdl_merge_72 ?_
        refine Aw.iload rfl d_Mdl_merge_73 ?_
        obtain ⟨ht, hf⟩ := h
        refine Aw.if_ne (tgt := 82) o1 (by decide) d_Mdl_merge_75 (fun c11 => ?_) (fun c11 => ?_)
        · have h := ht c11
          refine Aw.iload_n rfl d_Mdl_merge_82 ?_
          refine Aw.iload_n rfl d_Mdl_merge_83 ?_
          obtain ⟨ht, hf⟩ := h
          refine Aw.icmp_ne (tgt := 91) o7 o8 (by decide) d_Mdl_merge_84 (fun c10 => ?_) (fun c10 => ?_)
          · have h := ht c10
            refine Aw.iload rfl d_Mdl_merge_91 ?_
            refine Aw.bipush (by decide) d_Mdl_merge_93 ?_
            refine Aw.icmp_le (tgt := 102) ⟨by decide, by decide⟩ ⟨by decide, by decide⟩ (by decide) d_Mdl_merge_95 (fun c9 => ?_) (fun c9 => absurd c9 (by decide))
            refine Aw.iconst d_Mdl_merge_102 ?_
            exact h
          · have h := hf c10
            refine Aw.iconst d_Mdl_merge_87 ?_
            refine Aw.goto (tgt := 103) (by decide) d_Mdl_merge_88 ?_
            exact h
        · have h := hf c11
          refine Aw.iconst d_Mdl_merge_78 ?_
          refine Aw.goto (tgt := 103) (by decide) d_Mdl_merge_79 ?_
          exact h
      · have h := hf c12
        refine Aw.aload_n rfl d_Mdl_merge_57 ?_
        refine Aw.iload_n rfl d_Mdl_merge_58 ?_
        refine Aw.iload_n rfl d_Mdl_merge_59 ?_
        refine Aw.iload rfl d_Mdl_merge_60 ?_
        refine Aw.iconst d_Mdl_merge_62 ?_
        exact h
  · have h := hf c14
    refine Aw.aload_n rfl d_Mdl_merge_35 ?_
    refine Aw.iload_n rfl d_Mdl_merge_36 ?_
    refine Aw.iload_n rfl d_Mdl_merge_37 ?_
    exact h
theorem b_Mdl_merge_41 {Ω : Om} {R : Room} {F : QF} {k n : Nat} {σ : Sto} {a0 : Nat} {v1 : Int} {v2 : Int} {v3 : Int} {v4 : Int} {s0 : Int} (h : Q32 v4 ∧ ((v4 = (0 : Int) → ((¬ v4 = (0 : Int) → Q32 v1 ∧ Q32 v2 ∧ ((¬ v1 = v2 → Aw Ω M_Mdl_merge R F k n 103 [xr (some a0), xi v1, xi v2, xi v3, xi v4, xi s0, xi 0] [xi 0, xr (some a0)] σ) ∧ (v1 = v2 → Aw Ω M_Mdl_merge R F k n 103 [xr (some a0), xi v1, xi v2, xi v3, xi v4, xi s0, xi 0] [xi 2, xr (some a0)] σ))) ∧ (v4 = (0 : Int) → Aw Ω M_Mdl_merge R F k n 103 [xr (some a0), xi v1, xi v2, xi v3, xi v4, xi s0, xi 0] [xi 1, xr (some a0)] σ))) ∧ (¬ v4 = (0 : Int) → Q32 v1 ∧ Q32 v2 ∧ ((v1 = v2 → ((¬ v4 = (0 : Int) → ((¬ v1 = v2 → Aw Ω M_Mdl_merge R F k n 103 [xr (some a0), xi v1, xi v2, xi v3, xi v4, xi s0, xi 0] [xi 0, xr (some a0)] σ) ∧ (v1 = v2 → Aw Ω M_Mdl_merge R F k n 103 [xr (some a0), xi v1, xi v2, xi v3, xi v4, xi s0, xi 0] [xi 2, xr (some a0)] σ))) ∧ (v4 = (0 : Int) → Aw Ω M_Mdl_merge R F k n 103 [xr (some a0), xi v1, xi v2, xi v3, xi v4, xi s0, xi 0] [xi 1, xr (some a0)] σ))) ∧ (¬ v1 = v2 → Aw Ω M_Mdl_merge R F k n 63 [xr (some a0), xi v1, xi v2, xi v3, xi v4, xi s0, xu] [xi 0, xi s0, xi v2, xi v1, xr (some a0)] σ))))) : Aw Ω M_Mdl_merge R F k n 41 [xr (some a0), xi v1, xi v2, xi v3, xi v4, xu, xu] [xi s0] σ := by
  refine Aw.goto (tgt := 45) (by decide) d_Mdl_merge_41 ?_
  refine Aw.istore (by decide) d_Mdl_merge_45 ?_
  refine Aw.toL (L' := [xr (some a0), xi v1, xi v2, xi v3, xi v4, xi s0, xu]) rfl ?_
  refine Aw.iload rfl d_Mdl_merge_47 ?_
  obtain ⟨o1, h⟩ := h
  obtain ⟨ht, hf⟩ := h
  refine Aw.if_eq (tgt := 69) o1 (by decide) d_Mdl_merge_49 (fun c13 => ?_) (fun c13 => ?_)
  · have h := ht c13
    refine Aw.iconst d_Mdl_merge_69 ?_
    refine Aw.istore (by decide) d_Mdl_merge_70 ?_
    refine Aw.toL (L' := [xr (some a0), xi v1, xi v2, xi v3, xi v4, xi s0, xi 0]) rfl ?_
    refine Aw.aload_n rfl d_Mdl_merge_72 ?_
    refine Aw.iload rfl d_Mdl_merge_73 ?_
    obtain ⟨ht, hf⟩ := h
    refine Aw.if_ne (tgt := 82) o1 (by decide) d_Mdl_merge_75 (fun c6 => ?_) (fun c6 => ?_)
    · have h := ht c6
      refine Aw.iload_n rfl d_Mdl_merge_82 ?_
      refine Aw.iload_n rfl d_Mdl_merge_83 ?_
      obtain ⟨o2, h⟩ := h
      obtain ⟨o3, h⟩ := h
      obtain ⟨ht, hf⟩ := h
      refine Aw.icmp_ne (tgt := 91) o2 o3 (by decide) d_Mdl_merge_84 (fun c5 => ?_) (fun c5 => ?_)
      · have h := ht c5
        refine Aw.iload rfl d_Mdl_merge_91 ?_
        refine Aw.bipush (by decide) d_Mdl_merge_93 ?_
        refine Aw.icmp_le (tgt := 102) ⟨by decide, by decide⟩ ⟨by decide, by decide⟩ (by decide) d_Mdl_merge_95 (fun c4 => ?_) (fun c4 => absurd c4 (by decide))
        refine Aw.iconst d_Mdl_merge_102 ?_
        exact h
      · have h := hf c5
        refine Aw.iconst d_Mdl_merge_87 ?_
        refine Aw.goto (tgt := 103) (by decide) d_Mdl_merge_88 ?_
        exact h
    · have h := hf c6
      refine Aw.iconst d_Mdl_merge_78 ?_
      refine Aw.goto (tgt := 103) (by decide) d_Mdl_merge_79 ?_
      exact h
  · have h := hf c13
    refine Aw.iload_n rfl d_Mdl_merge_52 ?_
    refine Aw.iload_n rfl d_Mdl_merge_53 ?_
    obtain ⟨o7, h⟩ := h
    obtain ⟨o8, h⟩ := h
    obtain ⟨ht, hf⟩ := h
    refine Aw.icmp_eq (tgt := 69) o7 o8 (by decide) d_Mdl_merge_54 (fun c12 => ?_) (fun c12 => ?_)
    · have h := ht c12
      refine Aw.iconst d_Mdl_merge_69 ?_
      refine Aw.istore (by decide) d_Mdl_merge_70 ?_
      refine Aw.toL (L' := [xr (some a0), xi v1, xi v2, xi v3, xi v4, xi s0, xi 0]) rfl ?_
      refine Aw.aload_n rfl d_Mdl_merge_72 ?_
      refine Aw.iload rfl d_Mdl_merge_73 ?_
      obtain ⟨ht, hf⟩ := h
      refine Aw.if_ne (tgt := 82) o1 (by decide) d_Mdl_merge_75 (fun c11 => ?_) (fun c11 => ?_)
      · have h := ht c11
        refine Aw.iload_n rfl d_Mdl_merge_82 ?_
        refine Aw.iload_n rfl d_Mdl_merge_83 ?_
        obtain ⟨ht, hf⟩ := h
        refine Aw.icmp_ne (tgt := 91) o7 o8 (by decide) d_Mdl_merge_84 (fun c10 => ?_) (fun c10 => ?_)
        · have h := ht c10
          refine Aw.iload rfl d_Mdl_merge_91 ?_
          refine Aw.bipush (by decide) d_Mdl_merge_93 ?_
          refine Aw.icmp_le (tgt := 102) ⟨by decide, by decide⟩ ⟨by decide, by decide⟩ (by decide) d_Mdl_merge_95 (fun c9 => ?_) (fun c9 => absurd c9 (by decide))
          refine Aw.iconst d_Mdl_merge_102 ?_
          exact h
        · have h := hf c10
          refine Aw.iconst d_Mdl_merge_87 ?_
          refine Aw.goto (tgt := 103) (by decide) d_Mdl_merge_88 ?_
          exact h
      · have h := hf c11
        refine Aw.iconst d_Mdl_merge_78 ?_
        refine Aw.goto (tgt := 103) (by decide) d_Mdl_merge_79 ?_
        exact h
    · have h := hf c12
      refine Aw.aload_n rfl d_Mdl_merge_57 ?_
      refine Aw.iload_n rfl d_Mdl_merge_58 ?_
      refine Aw.iload_n rfl d_Mdl_merge_59 ?_
      refine Aw.iload rfl d_Mdl_merge_60 ?_
      refine Aw.iconst d_Mdl_merge_62 ?_
      exact h
theorem b_Mdl_merge_66 {Ω : Om} {R : Room} {F : QF} {k n : Nat} {σ : Sto} {a0 : Nat} {v1 : Int} {v2 : Int} {v3 : Int} {v4 : Int} {v5 : Int} {s0 : Int} (h : Q32 v4 ∧ ((¬ v4 = (0 : Int) → Q32 v1 ∧ Q32 v2 ∧ ((¬ v1 = v2 → Q32 s0 ∧ ((s0 ≤ (20 : Int) → Aw Ω M_Mdl_merge R F k n 103 [xr (some a0), xi v1, xi v2, xi v3, xi v4, xi v5, xi s0] [xi 0, xr (some a0)] σ) ∧ (¬ s0 ≤ (20 : Int) → Aw Ω M_Mdl_merge R F k n 103 [xr (some a0), xi v1, xi v2, xi v3, xi v4, xi v5, xi s0] [xi 3, xr (some a0)] σ))) ∧ (v1 = v2 → Aw Ω M_Mdl_merge R F k n 103 [xr (some a0), xi v1, xi v2, xi v3, xi v4, xi v5, xi s0] [xi 2, xr (some a0)] σ))) ∧ (v4 = (0 : Int) → Aw Ω M_Mdl_merge R F k n 103 [xr (some a0), xi v1, xi v2, xi v3, xi v4, xi v5, xi s0] [xi 1, xr (some a0)] σ))) : Aw Ω M_Mdl_merge R F k n 66 [xr (some a0), xi v1, xi v2, xi v3, xi v4, xi v5, xu] [xi s0] σ := by
  refine Aw.goto (tgt := 70) (by decide) d_Mdl_merge_66 ?_
  refine Aw.istore (by decide) d_Mdl_merge_70 ?_
  refine Aw.toL (L' := [xr (some a0), xi v1, xi v2, xi v3, xi v4, xi v5, xi s0]) rfl ?_
  refine Aw.aload_n rfl d_Mdl_merge_72 ?_
  refine Aw.iload rfl d_Mdl_merge_73 ?_
  obtain ⟨o1, h⟩ := h
  obtain ⟨ht, hf⟩ := h
  refine Aw.if_ne (tgt := 82) o1 (by decide) d_Mdl_merge_75 (fun c7 => ?_) (fun c7 => ?_)
  · have h := ht c7
    refine Aw.iload_n rfl d_Mdl_merge_82 ?_
    refine Aw.iload_n rfl d_Mdl_merge_83 ?_
    obtain ⟨o2, h⟩ := h
    obtain ⟨o3, h⟩ := h
    obtain ⟨ht, hf⟩ := h
    refine Aw.icmp_ne (tgt := 91) o2 o3 (by decide) d_Mdl_merge_84 (fun c6 => ?_) (fun c6 => ?_)
    · have h := ht c6
      refine Aw.iload rfl d_Mdl_merge_91 ?_
      refine Aw.bipush (by decide) d_Mdl_merge_93 ?_
      obtain ⟨o4, h⟩ := h
      obtain ⟨ht, hf⟩ := h
      refine Aw.icmp_le (tgt := 102) o4 ⟨by decide, by decide⟩ (by decide) d_Mdl_merge_95 (fun c5 => ?_) (fun c5 => ?_)
      · have h := ht c5
        refine Aw.iconst d_Mdl_merge_102 ?_
        exact h
      · have h := hf c5
        refine Aw.iconst d_Mdl_merge_98 ?_
        refine Aw.goto (tgt := 103) (by decide) d_Mdl_merge_99 ?_
        exact h
    · have h := hf c6
      refine Aw.iconst d_Mdl_merge_87 ?_
      refine Aw.goto (tgt := 103) (by decide) d_Mdl_merge_88 ?_
      exact h
  · have h := hf c7
    refine Aw.iconst d_Mdl_merge_78 ?_
    refine Aw.goto (tgt := 103) (by decide) d_Mdl_merge_79 ?_
    exact h
theorem b_Mdl_merge_106 {Ω : Om} {R : Room} {F : QF} {k n : Nat} {σ : Sto} {a0 : Nat} {v1 : Int} {v2 : Int} {v3 : Int} {v4 : Int} {v5 : Int} {v6 : Int} {s0 : Int} (h : Q32 s0 ∧ ((s0 = (0 : Int) → sK σ a0 = 13 ∧ Q32 v1 ∧ Q32 v2 ∧ Q32 v3 ∧ Aw Ω M_Mdl_merge R F k n 157 [xr (some a0), xi v1, xi v2, xi v3, xi v4, xi v5, xi v6] [xi 1, xi v5, xi v2, xi v1, xr (some a0)] (uI (uI (uI (uI (uI (uI (uI (uI σ 779 a0 1) 780 a0 v1) 781 a0 v2) 782 a0 v3) 785 a0 0) 786 a0 0) 789 a0 0) 783 a0 0)) ∧ (¬ s0 = (0 : Int) → Aw Ω M_Mdl_merge R F k n 110 [xr (some a0), xi v1, xi v2, xi v3, xi v4, xi v5, xi v6] [xi 0] σ))) : Aw Ω M_Mdl_merge R F k n 106 [xr (some a0), xi v1, xi v2, xi v3, xi v4, xi v5, xi v6] [xi s0] σ := by
  obtain ⟨o1, h⟩ := h
  obtain ⟨ht, hf⟩ := h
  refine Aw.if_eq (tgt := 111) o1 (by decide) d_Mdl_merge_106 (fun c6 => ?_) (fun c6 => ?_)
  · have h := ht c6
    refine Aw.aload_n rfl d_Mdl_merge_111 ?_
    refine Aw.iconst d_Mdl_merge_112 ?_
    obtain ⟨o2, h⟩ := h
    refine Aw.putI (f := 779) 12 11 fl_Mdl_178 (by decide) (by decide) rfl rfl o2 rfl ⟨by decide, by decide⟩ (Or.inr ⟨rfl, by decide⟩) d_Mdl_merge_113 ?_
    refine Aw.aload_n rfl d_Mdl_merge_116 ?_
    refine Aw.iload_n rfl d_Mdl_merge_117 ?_
    obtain ⟨o3, h⟩ := h
    refine Aw.putI (f := 780) 12 12 fl_Mdl_165 (by decide) (by decide) rfl rfl o2 rfl o3 (Or.inl rfl) d_Mdl_merge_118 ?_
    refine Aw.aload_n rfl d_Mdl_merge_121 ?_
    refine Aw.iload_n rfl d_Mdl_merge_122 ?_
    obtain ⟨o4, h⟩ := h
    refine Aw.putI (f := 781) 12 13 fl_Mdl_182 (by decide) (by decide) rfl rfl o2 rfl o4 (Or.inl rfl) d_Mdl_merge_123 ?_
    refine Aw.aload_n rfl d_Mdl_merge_126 ?_
    refine Aw.iload_n rfl d_Mdl_merge_127 ?_
    obtain ⟨o5, h⟩ := h
    refine Aw.putI (f := 782) 12 14 fl_Mdl_162 (by decide) (by decide) rfl rfl o2 rfl o5 (Or.inl rfl) d_Mdl_merge_128 ?_
    refine Aw.aload_n rfl d_Mdl_merge_131 ?_
    refine Aw.iconst d_Mdl_merge_132 ?_
    refine Aw.putI (f := 785) 12 17 fl_Mdl_185 (by decide) (by decide) rfl rfl o2 rfl ⟨by decide, by decide⟩ (Or.inl rfl) d_Mdl_merge_133 ?_
    refine Aw.aload_n rfl d_Mdl_merge_136 ?_
    refine Aw.iconst d_Mdl_merge_137 ?_
    refine Aw.putI (f := 786) 12 18 fl_Mdl_188 (by decide) (by decide) rfl rfl o2 rfl ⟨by decide, by decide⟩ (Or.inl rfl) d_Mdl_merge_138 ?_
    refine Aw.aload_n rfl d_Mdl_merge_141 ?_
    refine Aw.iconst d_Mdl_merge_142 ?_
    refine Aw.putI (f := 789) 12 21 fl_Mdl_191 (by decide) (by decide) rfl rfl o2 rfl ⟨by decide, by decide⟩ (Or.inl rfl) d_Mdl_merge_143 ?_
    refine Aw.aload_n rfl d_Mdl_merge_146 ?_
    refine Aw.iconst d_Mdl_merge_147 ?_
    refine Aw.putI (f := 783) 12 15 fl_Mdl_194 (by decide) (by decide) rfl rfl o2 rfl ⟨by decide, by decide⟩ (Or.inl rfl) d_Mdl_merge_148 ?_
    refine Aw.aload_n rfl d_Mdl_merge_151 ?_
    refine Aw.iload_n rfl d_Mdl_merge_152 ?_
    refine Aw.iload_n rfl d_Mdl_merge_153 ?_
    refine Aw.iload rfl d_Mdl_merge_154 ?_
    refine Aw.iconst d_Mdl_merge_156 ?_
    exact h
  · have h := hf c6
    refine Aw.iconst d_Mdl_merge_109 ?_
    exact h
theorem b_Mdl_merge_160 {Ω : Om} {R : Room} {F : QF} {k n : Nat} {σ : Sto} {a0 : Nat} {v1 : Int} {v2 : Int} {v3 : Int} {v4 : Int} {v5 : Int} {v6 : Int} {s0 : Int} (h : sK σ a0 = 13 ∧ (Q32 (fI σ 785 a0) → Aw Ω M_Mdl_merge R F k n 165 [xr (some a0), xi v1, xi v2, xi v3, xi v4, xi v5, xi v6] [xi (fI σ 785 a0)] σ)) : Aw Ω M_Mdl_merge R F k n 160 [xr (some a0), xi v1, xi v2, xi v3, xi v4, xi v5, xi v6] [xi s0] σ := by
  refine Aw.pop rfl d_Mdl_merge_160 ?_
  refine Aw.aload_n rfl d_Mdl_merge_161 ?_
  obtain ⟨o1, h⟩ := h
  refine Aw.getI (f := 785) 12 17 fl_Mdl_185 (by decide) (by decide) rfl rfl o1 d_Mdl_merge_162 (fun r2 => ?_)
  have h := h r2
  exact h
theorem b_Mdl_merge_27 {Ω : Om} {R : Room} {F : QF} {k n : Nat} {σ : Sto} {a0 : Nat} {v1 : Int} {v2 : Int} {v3 : Int} (h : Aw Ω M_Mdl_merge R F k n 103 [xr (some a0), xi v1, xi v2, xi v3, xi 0, xi 0, xi 0] [xi 1, xr (some a0)] σ) : Aw Ω M_Mdl_merge R F k n 27 [xr (some a0), xi v1, xi v2, xi v3, xu, xu, xu] [] σ := by
  refine Aw.iconst d_Mdl_merge_27 ?_
  refine Aw.istore (by decide) d_Mdl_merge_28 ?_
  refine Aw.toL (L' := [xr (some a0), xi v1, xi v2, xi v3, xi 0, xu, xu]) rfl ?_
  refine Aw.iload rfl d_Mdl_merge_30 ?_
  refine Aw.if_eq (tgt := 44) ⟨by decide, by decide⟩ (by decide) d_Mdl_merge_32 (fun c3 => ?_) (fun c3 => absurd c3 (by decide))
  refine Aw.iconst d_Mdl_merge_44 ?_
  refine Aw.istore (by decide) d_Mdl_merge_45 ?_
  refine Aw.toL (L' := [xr (some a0), xi v1, xi v2, xi v3, xi 0, xi 0, xu]) rfl ?_
  refine Aw.iload rfl d_Mdl_merge_47 ?_
  refine Aw.if_eq (tgt := 69) ⟨by decide, by decide⟩ (by decide) d_Mdl_merge_49 (fun c2 => ?_) (fun c2 => absurd c2 (by decide))
  refine Aw.iconst d_Mdl_merge_69 ?_
  refine Aw.istore (by decide) d_Mdl_merge_70 ?_
  refine Aw.toL (L' := [xr (some a0), xi v1, xi v2, xi v3, xi 0, xi 0, xi 0]) rfl ?_
  refine Aw.aload_n rfl d_Mdl_merge_72 ?_
  refine Aw.iload rfl d_Mdl_merge_73 ?_
  refine Aw.if_ne (tgt := 82) ⟨by decide, by decide⟩ (by decide) d_Mdl_merge_75 (fun c1 => absurd c1 (by decide)) (fun c1 => ?_)
  refine Aw.iconst d_Mdl_merge_78 ?_
  refine Aw.goto (tgt := 103) (by decide) d_Mdl_merge_79 ?_
  exact h
theorem c_Mdl_merge_2 {Ω : Om} {R R' : Room} {F : QF} {k n : Nat} {L st : List PV} {σ : Sto} {QX' : String → Sto → Prop} {Q : Int → Sto → Prop} {a : Nat} {x0 : Int} (hc : MC Ω M_Mdl_isVersion R' (RI Q) QX' σ [xr (some a), xi x0]) (hk : sK σ a = 13) (hr1 : R'.frames + 1 ≤ R.frames) (hr2 : 8 + (2 + 11) + R'.locals ≤ R.locals) (hb1 : k + R'.cells ≤ R.cells) (hb2 : n + R'.slots ≤ R.slots) (hst : (st.map catP).sum ≤ 8) (kk : ∀ x σ', Q x σ' → Aw Ω M_Mdl_merge R F (k + R'.cells) (n + R'.slots) 5 L (xi x :: st) σ') (kx : ∀ E σ', QX' E σ' → Ax Ω M_Mdl_merge R F (k + R'.cells) (n + R'.slots) 2 L st σ' E) : Aw Ω M_Mdl_merge R F k n 2 L (xi x0 :: xr (some a) :: st) σ :=
  Aw.callV (As := [xi x0]) (stk := xi x0 :: xr (some a) :: st) (nn := 1) 12 M_Mdl_isVersion hc ok_Mdl_isVersion rfl (by decide) rfl hk ml_Mdl_172 im_Mdl_isVersion se_Mdl_isVersion ⟨hr1, hr2⟩ rfl ⟨hb1, hb2⟩ hst rfl d_Mdl_merge_2 (fun r σ' h => by obtain ⟨x, rfl, h⟩ := h; exact kk x σ' h) kx
theorem c_Mdl_merge_10 {Ω : Om} {R R' : Room} {F : QF} {k n : Nat} {L st : List PV} {σ : Sto} {QX' : String → Sto → Prop} {Q : Int → Sto → Prop} {a : Nat} {x0 : Int} (hc : MC Ω M_Mdl_isVersion R' (RI Q) QX' σ [xr (some a), xi x0]) (hk : sK σ a = 13) (hr1 : R'.frames + 1 ≤ R.frames) (hr2 : 8 + (2 + 11) + R'.locals ≤ R.locals) (hb1 : k + R'.cells ≤ R.cells) (hb2 : n + R'.slots ≤ R.slots) (hst : (st.map catP).sum ≤ 8) (kk : ∀ x σ', Q x σ' → Aw Ω M_Mdl_merge R F (k + R'.cells) (n + R'.slots) 13 L (xi x :: st) σ') (kx : ∀ E σ', QX' E σ' → Ax Ω M_Mdl_merge R F (k + R'.cells) (n + R'.slots) 10 L st σ' E) : Aw Ω M_Mdl_merge R F k n 10 L (xi x0 :: xr (some a) :: st) σ :=
  Aw.callV (As := [xi x0]) (stk := xi x0 :: xr (some a) :: st) (nn := 1) 12 M_Mdl_isVersion hc ok_Mdl_isVersion rfl (by decide) rfl hk ml_Mdl_172 im_Mdl_isVersion se_Mdl_isVersion ⟨hr1, hr2⟩ rfl ⟨hb1, hb2⟩ hst rfl d_Mdl_merge_10 (fun r σ' h => by obtain ⟨x, rfl, h⟩ := h; exact kk x σ' h) kx
theorem c_Mdl_merge_17 {Ω : Om} {R R' : Room} {F : QF} {k n : Nat} {L st : List PV} {σ : Sto} {QX' : String → Sto → Prop} {Q : Int → Sto → Prop} {x0 : Int} (hc : MC Ω M_Mdl_isPerson R' (RI Q) QX' σ [xi x0]) (hr1 : R'.frames + 1 ≤ R.frames) (hr2 : 8 + (1 + 11) + R'.locals ≤ R.locals) (hb1 : k + R'.cells ≤ R.cells) (hb2 : n + R'.slots ≤ R.slots) (hst : (st.map catP).sum ≤ 8) (kk : ∀ x σ', Q x σ' → Aw Ω M_Mdl_merge R F (k + R'.cells) (n + R'.slots) 20 L (xi x :: st) σ') (kx : ∀ E σ', QX' E σ' → Ax Ω M_Mdl_merge R F (k + R'.cells) (n + R'.slots) 17 L st σ' E) : Aw Ω M_Mdl_merge R F k n 17 L (xi x0 :: st) σ :=
  Aw.callS (As := [xi x0]) (stk := xi x0 :: st) (nn := 1) M_Mdl_isPerson hc ok_Mdl_isPerson rfl ml_Mdl_175 sta_Mdl_isPerson ⟨hr1, hr2⟩ rfl ⟨hb1, hb2⟩ hst rfl d_Mdl_merge_17 (fun r σ' h => by obtain ⟨x, rfl, h⟩ := h; exact kk x σ' h) kx
theorem c_Mdl_merge_38 {Ω : Om} {R R' : Room} {F : QF} {k n : Nat} {L st : List PV} {σ : Sto} {QX' : String → Sto → Prop} {Q : Int → Sto → Prop} {a : Nat} {x0 : Int} {x1 : Int} (hc : MC Ω M_Mdl_baseOf R' (RI Q) QX' σ [xr (some a), xi x0, xi x1]) (hk : sK σ a = 13) (hr1 : R'.frames + 1 ≤ R.frames) (hr2 : 8 + (7 + 11) + R'.locals ≤ R.locals) (hb1 : k + R'.cells ≤ R.cells) (hb2 : n + R'.slots ≤ R.slots) (hst : (st.map catP).sum ≤ 8) (kk : ∀ x σ', Q x σ' → Aw Ω M_Mdl_merge R F (k + R'.cells) (n + R'.slots) 41 L (xi x :: st) σ') (kx : ∀ E σ', QX' E σ' → Ax Ω M_Mdl_merge R F (k + R'.cells) (n + R'.slots) 38 L st σ' E) : Aw Ω M_Mdl_merge R F k n 38 L (xi x1 :: xi x0 :: xr (some a) :: st) σ :=
  Aw.callV (As := [xi x0, xi x1]) (stk := xi x1 :: xi x0 :: xr (some a) :: st) (nn := 2) 12 M_Mdl_baseOf hc ok_Mdl_baseOf rfl (by decide) rfl hk ml_Mdl_291 im_Mdl_baseOf se_Mdl_baseOf ⟨hr1, hr2⟩ rfl ⟨hb1, hb2⟩ hst rfl d_Mdl_merge_38 (fun r σ' h => by obtain ⟨x, rfl, h⟩ := h; exact kk x σ' h) kx
theorem c_Mdl_merge_63 {Ω : Om} {R R' : Room} {F : QF} {k n : Nat} {L st : List PV} {σ : Sto} {QX' : String → Sto → Prop} {Q : Int → Sto → Prop} {a : Nat} {x0 : Int} {x1 : Int} {x2 : Int} {x3 : Int} (hc : MC Ω M_Mdl_weave R' (RI Q) QX' σ [xr (some a), xi x0, xi x1, xi x2, xi x3]) (hk : sK σ a = 13) (hr1 : R'.frames + 1 ≤ R.frames) (hr2 : 8 + (15 + 11) + R'.locals ≤ R.locals) (hb1 : k + R'.cells ≤ R.cells) (hb2 : n + R'.slots ≤ R.slots) (hst : (st.map catP).sum ≤ 8) (kk : ∀ x σ', Q x σ' → Aw Ω M_Mdl_merge R F (k + R'.cells) (n + R'.slots) 66 L (xi x :: st) σ') (kx : ∀ E σ', QX' E σ' → Ax Ω M_Mdl_merge R F (k + R'.cells) (n + R'.slots) 63 L st σ' E) : Aw Ω M_Mdl_merge R F k n 63 L (xi x3 :: xi x2 :: xi x1 :: xi x0 :: xr (some a) :: st) σ :=
  Aw.callV (As := [xi x0, xi x1, xi x2, xi x3]) (stk := xi x3 :: xi x2 :: xi x1 :: xi x0 :: xr (some a) :: st) (nn := 4) 12 M_Mdl_weave hc ok_Mdl_weave rfl (by decide) rfl hk ml_Mdl_306 im_Mdl_weave se_Mdl_weave ⟨hr1, hr2⟩ rfl ⟨hb1, hb2⟩ hst rfl d_Mdl_merge_63 (fun r σ' h => by obtain ⟨x, rfl, h⟩ := h; exact kk x σ' h) kx
theorem c_Mdl_merge_103 {Ω : Om} {R R' : Room} {F : QF} {k n : Nat} {L st : List PV} {σ : Sto} {QX' : String → Sto → Prop} {Q : Int → Sto → Prop} {a : Nat} {x0 : Int} (hc : MC Ω M_Mdl_refused R' (RI Q) QX' σ [xr (some a), xi x0]) (hk : sK σ a = 13) (hr1 : R'.frames + 1 ≤ R.frames) (hr2 : 8 + (2 + 11) + R'.locals ≤ R.locals) (hb1 : k + R'.cells ≤ R.cells) (hb2 : n + R'.slots ≤ R.slots) (hst : (st.map catP).sum ≤ 8) (kk : ∀ x σ', Q x σ' → Aw Ω M_Mdl_merge R F (k + R'.cells) (n + R'.slots) 106 L (xi x :: st) σ') (kx : ∀ E σ', QX' E σ' → Ax Ω M_Mdl_merge R F (k + R'.cells) (n + R'.slots) 103 L st σ' E) : Aw Ω M_Mdl_merge R F k n 103 L (xi x0 :: xr (some a) :: st) σ :=
  Aw.callV (As := [xi x0]) (stk := xi x0 :: xr (some a) :: st) (nn := 1) 12 M_Mdl_refused hc ok_Mdl_refused rfl (by decide) rfl hk ml_Mdl_151 im_Mdl_refused se_Mdl_refused ⟨hr1, hr2⟩ rfl ⟨hb1, hb2⟩ hst rfl d_Mdl_merge_103 (fun r σ' h => by obtain ⟨x, rfl, h⟩ := h; exact kk x σ' h) kx
theorem r_Mdl_merge_110 {Ω : Om} {R : Room} {k n : Nat} {L : List PV} {σ : Sto} {QR : Option PV → Sto → Prop} {QX : String → Sto → Prop} {x : Int} (h : QR (some (xi x)) σ) (h1 : k ≤ R.cells) (h2 : n ≤ R.slots) : Aw Ω M_Mdl_merge R (MF Ω R QR QX) k n 110 L [xi x] σ := Aw.iret rfl h h1 h2 d_Mdl_merge_110
theorem c_Mdl_merge_157 {Ω : Om} {R R' : Room} {F : QF} {k n : Nat} {L st : List PV} {σ : Sto} {QX' : String → Sto → Prop} {Q : Int → Sto → Prop} {a : Nat} {x0 : Int} {x1 : Int} {x2 : Int} {x3 : Int} (hc : MC Ω M_Mdl_weave R' (RI Q) QX' σ [xr (some a), xi x0, xi x1, xi x2, xi x3]) (hk : sK σ a = 13) (hr1 : R'.frames + 1 ≤ R.frames) (hr2 : 8 + (15 + 11) + R'.locals ≤ R.locals) (hb1 : k + R'.cells ≤ R.cells) (hb2 : n + R'.slots ≤ R.slots) (hst : (st.map catP).sum ≤ 8) (kk : ∀ x σ', Q x σ' → Aw Ω M_Mdl_merge R F (k + R'.cells) (n + R'.slots) 160 L (xi x :: st) σ') (kx : ∀ E σ', QX' E σ' → Ax Ω M_Mdl_merge R F (k + R'.cells) (n + R'.slots) 157 L st σ' E) : Aw Ω M_Mdl_merge R F k n 157 L (xi x3 :: xi x2 :: xi x1 :: xi x0 :: xr (some a) :: st) σ :=
  Aw.callV (As := [xi x0, xi x1, xi x2, xi x3]) (stk := xi x3 :: xi x2 :: xi x1 :: xi x0 :: xr (some a) :: st) (nn := 4) 12 M_Mdl_weave hc ok_Mdl_weave rfl (by decide) rfl hk ml_Mdl_306 im_Mdl_weave se_Mdl_weave ⟨hr1, hr2⟩ rfl ⟨hb1, hb2⟩ hst rfl d_Mdl_merge_157 (fun r σ' h => by obtain ⟨x, rfl, h⟩ := h; exact kk x σ' h) kx
theorem r_Mdl_merge_165 {Ω : Om} {R : Room} {k n : Nat} {L : List PV} {σ : Sto} {QR : Option PV → Sto → Prop} {QX : String → Sto → Prop} {x : Int} (h : QR (some (xi x)) σ) (h1 : k ≤ R.cells) (h2 : n ≤ R.slots) : Aw Ω M_Mdl_merge R (MF Ω R QR QX) k n 165 L [xi x] σ := Aw.iret rfl h h1 h2 d_Mdl_merge_165
theorem e_Mdl_compare {Ω : Om} {R : Room} {QR : Option PV → Sto → Prop} {QX : String → Sto → Prop} {σ : Sto} {a0 : Nat} {v1 : Int} {v2 : Int} {v3 : Int} (h : Aw Ω M_Mdl_compare R (MF Ω R QR QX) 0 0 0 [xr (some a0), xi v1, xi v2, xi v3, xu, xu] [] σ) : MC Ω M_Mdl_compare R QR QX σ [xr (some a0), xi v1, xi v2, xi v3] := MC.body (by decide +kernel) rfl (Nat.le_of_ble_eq_true rfl) rfl h
theorem b_Mdl_compare_0 {Ω : Om} {R : Room} {F : QF} {k n : Nat} {σ : Sto} {a0 : Nat} {v1 : Int} {v2 : Int} {v3 : Int} (h : Aw Ω M_Mdl_compare R F k n 3 [xr (some a0), xi v1, xi v2, xi v3, xu, xu] [xi v1, xr (some a0), xr (some a0)] σ) : Aw Ω M_Mdl_compare R F k n 0 [xr (some a0), xi v1, xi v2, xi v3, xu, xu] [] σ := by
  refine Aw.aload_n rfl d_Mdl_compare_0 ?_
  refine Aw.aload_n rfl d_Mdl_compare_1 ?_
  refine Aw.iload_n rfl d_Mdl_compare_2 ?_
  exact h
theorem b_Mdl_compare_6 {Ω : Om} {R : Room} {F : QF} {k n : Nat} {σ : Sto} {a0 : Nat} {v1 : Int} {v2 : Int} {v3 : Int} {s0 : Nat} {s1 : Int} (h : Q32 s1 ∧ ((s1 = (0 : Int) → Aw Ω M_Mdl_compare R F k n 22 [xr (some a0), xi v1, xi v2, xi v3, xu, xu] [xi 1, xr (some s0)] σ) ∧ (¬ s1 = (0 : Int) → Aw Ω M_Mdl_compare R F k n 11 [xr (some a0), xi v1, xi v2, xi v3, xu, xu] [xi v2, xr (some a0), xr (some s0)] σ))) : Aw Ω M_Mdl_compare R F k n 6 [xr (some a0), xi v1, xi v2, xi v3, xu, xu] [xi s1, xr (some s0)] σ := by
  obtain ⟨o1, h⟩ := h
  obtain ⟨ht, hf⟩ := h
  refine Aw.if_eq (tgt := 21) o1 (by decide) d_Mdl_compare_6 (fun c2 => ?_) (fun c2 => ?_)
  · have h := ht c2
    refine Aw.iconst d_Mdl_compare_21 ?_
    exact h
  · have h := hf c2
    refine Aw.aload_n rfl d_Mdl_compare_9 ?_
    refine Aw.iload_n rfl d_Mdl_compare_10 ?_
    exact h
theorem b_Mdl_compare_14 {Ω : Om} {R : Room} {F : QF} {k n : Nat} {σ : Sto} {a0 : Nat} {v1 : Int} {v2 : Int} {v3 : Int} {s0 : Nat} {s1 : Int} (h : Q32 s1 ∧ ((s1 = (0 : Int) → Aw Ω M_Mdl_compare R F k n 22 [xr (some a0), xi v1, xi v2, xi v3, xu, xu] [xi 1, xr (some s0)] σ) ∧ (¬ s1 = (0 : Int) → Aw Ω M_Mdl_compare R F k n 22 [xr (some a0), xi v1, xi v2, xi v3, xu, xu] [xi 0, xr (some s0)] σ))) : Aw Ω M_Mdl_compare R F k n 14 [xr (some a0), xi v1, xi v2, xi v3, xu, xu] [xi s1, xr (some s0)] σ := by
  obtain ⟨o1, h⟩ := h
  obtain ⟨ht, hf⟩ := h
  refine Aw.if_eq (tgt := 21) o1 (by decide) d_Mdl_compare_14 (fun c2 => ?_) (fun c2 => ?_)
  · have h := ht c2
    refine Aw.iconst d_Mdl_compare_21 ?_
    exact h
  · have h := hf c2
    refine Aw.iconst d_Mdl_compare_17 ?_
    refine Aw.goto (tgt := 22) (by decide) d_Mdl_compare_18 ?_
    exact h
theorem b_Mdl_compare_25 {Ω : Om} {R : Room} {F : QF} {k n : Nat} {σ : Sto} {a0 : Nat} {v1 : Int} {v2 : Int} {v3 : Int} {s0 : Int} (h : Q32 s0 ∧ ((s0 = (0 : Int) → Aw Ω M_Mdl_compare R F k n 34 [xr (some a0), xi v1, xi v2, xi v3, xu, xu] [xi v3, xi v2, xi v1, xr (some a0)] σ) ∧ (¬ s0 = (0 : Int) → Aw Ω M_Mdl_compare R F k n 29 [xr (some a0), xi v1, xi v2, xi v3, xu, xu] [xi 0] σ))) : Aw Ω M_Mdl_compare R F k n 25 [xr (some a0), xi v1, xi v2, xi v3, xu, xu] [xi s0] σ := by
  obtain ⟨o1, h⟩ := h
  obtain ⟨ht, hf⟩ := h
  refine Aw.if_eq (tgt := 30) o1 (by decide) d_Mdl_compare_25 (fun c2 => ?_) (fun c2 => ?_)
  · have h := ht c2
    refine Aw.aload_n rfl d_Mdl_compare_30 ?_
    refine Aw.iload_n rfl d_Mdl_compare_31 ?_
    refine Aw.iload_n rfl d_Mdl_compare_32 ?_
    refine Aw.iload_n rfl d_Mdl_compare_33 ?_
    exact h
  · have h := hf c2
    refine Aw.iconst d_Mdl_compare_28 ?_
    exact h
theorem b_Mdl_compare_37 {Ω : Om} {R : Room} {F : QF} {k n : Nat} {σ : Sto} {a0 : Nat} {v1 : Int} {v2 : Int} {v3 : Int} {s0 : Int} (h : sK σ a0 = 13 ∧ (∃ b2 : Nat, fR σ 774 a0 = some b2 ∧ sK σ b2 = 50 ∧ 0 ≤ v1 ∧ v1 < sZ σ b2 ∧ (Q32 (aI σ b2 (v1).toNat) → Aw Ω M_Mdl_compare R F k n 57 [xr (some a0), xi v1, xi v2, xi v3, xi s0, xi 0] [] (uI (uI σ 793 a0 1) 794 a0 (aI σ b2 (v1).toNat))))) : Aw Ω M_Mdl_compare R F k n 37 [xr (some a0), xi v1, xi v2, xi v3, xu, xu] [xi s0] σ := by
  refine Aw.istore (by decide) d_Mdl_compare_37 ?_
  refine Aw.toL (L' := [xr (some a0), xi v1, xi v2, xi v3, xi s0, xu]) rfl ?_
  refine Aw.aload_n rfl d_Mdl_compare_39 ?_
  refine Aw.iconst d_Mdl_compare_40 ?_
  obtain ⟨o1, h⟩ := h
  refine Aw.putI (f := 793) 12 25 fl_Mdl_253 (by decide) (by decide) rfl rfl o1 rfl ⟨by decide, by decide⟩ (Or.inr ⟨rfl, by decide⟩) d_Mdl_compare_41 ?_
  refine Aw.aload_n rfl d_Mdl_compare_44 ?_
  refine Aw.aload_n rfl d_Mdl_compare_45 ?_
  obtain ⟨b2, e3, h⟩ := h
  refine Aw.getRs (f := 774) 12 6 fl_Mdl_20 (by decide) (by decide) rfl rfl o1 e3 d_Mdl_compare_46 ?_
  refine Aw.iload_n rfl d_Mdl_compare_49 ?_
  obtain ⟨o4, h⟩ := h
  obtain ⟨o5, o6, h⟩ := h
  refine Aw.iald o4 o5 o6 d_Mdl_compare_50 (fun r7 => ?_)
  have h := h r7
  refine Aw.putI (f := 794) 12 26 fl_Mdl_256 (by decide) (by decide) rfl rfl o1 rfl r7 (Or.inl rfl) d_Mdl_compare_51 ?_
  refine Aw.iconst d_Mdl_compare_54 ?_
  refine Aw.istore (by decide) d_Mdl_compare_55 ?_
  refine Aw.toL (L' := [xr (some a0), xi v1, xi v2, xi v3, xi s0, xi 0]) rfl ?_
  exact h
theorem b_Mdl_compare_57 {Ω : Om} {R : Room} {F : QF} {k n : Nat} {σ : Sto} {a0 : Nat} {v1 : Int} {v2 : Int} {v3 : Int} {v4 : Int} {v5 : Int} (h : sK σ a0 = 13 ∧ (Q32 (fI σ 794 a0) → Q32 v5 ∧ (((fI σ 794 a0) ≤ v5 → Aw Ω M_Mdl_compare R F k n 97 [xr (some a0), xi v1, xi v2, xi v3, xi v4, xi 1] [] σ) ∧ (¬ (fI σ 794 a0) ≤ v5 → (∃ b4 : Nat, fR σ 795 a0 = some b4 ∧ (∃ b6 : Nat, fR σ 813 a0 = some b6 ∧ sK σ b6 = 50 ∧ 0 ≤ v5 ∧ v5 < sZ σ b6 ∧ (Q32 (aI σ b6 (v5).toNat) → sK σ b4 = 50 ∧ 0 ≤ v5 ∧ v5 < sZ σ b4 ∧ (∃ b15 : Nat, fR σ 796 a0 = some b15 ∧ sK σ b15 = 50 ∧ 0 ≤ v5 ∧ v5 < sZ σ b15 ∧ Aw Ω M_Mdl_compare R F k n 57 [xr (some a0), xi v1, xi v2, xi v3, xi v4, xi (v5 + 1)] [] (vI (vI σ b4 (v5).toNat (aI σ b6 (v5).toNat)) b15 (v5).toNat (-1)))))))))) : Aw Ω M_Mdl_compare R F k n 57 [xr (some a0), xi v1, xi v2, xi v3, xi v4, xi v5] [] σ := by
  refine Aw.iload rfl d_Mdl_compare_57 ?_
  refine Aw.aload_n rfl d_Mdl_compare_59 ?_
  obtain ⟨o1, h⟩ := h
  refine Aw.getI (f := 794) 12 26 fl_Mdl_256 (by decide) (by decide) rfl rfl o1 d_Mdl_compare_60 (fun r2 => ?_)
  have h := h r2
  obtain ⟨o3, h⟩ := h
  obtain ⟨ht, hf⟩ := h
  refine Aw.icmp_ge (tgt := 94) o3 r2 (by decide) d_Mdl_compare_63 (fun c20 => ?_) (fun c20 => ?_)
  · have h := ht c20
    refine Aw.iconst d_Mdl_compare_94 ?_
    refine Aw.istore (by decide) d_Mdl_compare_95 ?_
    refine Aw.toL (L' := [xr (some a0), xi v1, xi v2, xi v3, xi v4, xi 1]) rfl ?_
    exact h
  · have h := hf c20
    refine Aw.aload_n rfl d_Mdl_compare_66 ?_
    obtain ⟨b4, e5, h⟩ := h
    refine Aw.getRs (f := 795) 12 27 fl_Mdl_53 (by decide) (by decide) rfl rfl o1 e5 d_Mdl_compare_67 ?_
    refine Aw.iload rfl d_Mdl_compare_70 ?_
    refine Aw.aload_n rfl d_Mdl_compare_72 ?_
    obtain ⟨b6, e7, h⟩ := h
    refine Aw.getRs (f := 813) 12 45 fl_Mdl_99 (by decide) (by decide) rfl rfl o1 e7 d_Mdl_compare_73 ?_
    refine Aw.iload rfl d_Mdl_compare_76 ?_
    obtain ⟨o8, h⟩ := h
    obtain ⟨o9, o10, h⟩ := h
    refine Aw.iald o8 o9 o10 d_Mdl_compare_78 (fun r11 => ?_)
    have h := h r11
    obtain ⟨o12, h⟩ := h
    obtain ⟨o13, o14, h⟩ := h
    refine Aw.iast o12 o13 o14 r11 d_Mdl_compare_79 ?_
    refine Aw.aload_n rfl d_Mdl_compare_80 ?_
    obtain ⟨b15, e16, h⟩ := h
    refine Aw.getRs (f := 796) 12 28 fl_Mdl_56 (by decide) (by decide) rfl rfl o1 e16 d_Mdl_compare_81 ?_
    refine Aw.iload rfl d_Mdl_compare_84 ?_
    refine Aw.iconst d_Mdl_compare_86 ?_
    obtain ⟨o17, h⟩ := h
    obtain ⟨o18, o19, h⟩ := h
    refine Aw.iast o17 o18 o19 ⟨by decide, by decide⟩ d_Mdl_compare_87 ?_
    refine Aw.iinc rfl d_Mdl_compare_88 ?_
    refine Aw.toL (L' := [xr (some a0), xi v1, xi v2, xi v3, xi v4, xi (v5 + 1)]) rfl ?_
    refine Aw.goto (tgt := 57) (by decide) d_Mdl_compare_91 ?_
    exact h
theorem b_Mdl_compare_97 {Ω : Om} {R : Room} {F : QF} {k n : Nat} {σ : Sto} {a0 : Nat} {v1 : Int} {v2 : Int} {v3 : Int} {v4 : Int} {v5 : Int} (h : Q32 v5 ∧ ((v5 = (0 : Int) → Aw Ω M_Mdl_compare R F k n 116 [xr (some a0), xi v1, xi v2, xi v3, xi v4, xi v5] [xi v4] σ) ∧ (¬ v5 = (0 : Int) → Aw Ω M_Mdl_compare R F k n 106 [xr (some a0), xi v1, xi v2, xi v3, xi v4, xi v5] [xi v3, xi v2, xi v1, xr (some a0)] σ))) : Aw Ω M_Mdl_compare R F k n 97 [xr (some a0), xi v1, xi v2, xi v3, xi v4, xi v5] [] σ := by
  refine Aw.iload rfl d_Mdl_compare_97 ?_
  obtain ⟨o1, h⟩ := h
  obtain ⟨ht, hf⟩ := h
  refine Aw.if_eq (tgt := 114) o1 (by decide) d_Mdl_compare_99 (fun c2 => ?_) (fun c2 => ?_)
  · have h := ht c2
    refine Aw.iload rfl d_Mdl_compare_114 ?_
    exact h
  · have h := hf c2
    refine Aw.aload_n rfl d_Mdl_compare_102 ?_
    refine Aw.iload_n rfl d_Mdl_compare_103 ?_
    refine Aw.iload_n rfl d_Mdl_compare_104 ?_
    refine Aw.iload_n rfl d_Mdl_compare_105 ?_
    exact h
theorem b_Mdl_compare_109 {Ω : Om} {R : Room} {F : QF} {k n : Nat} {σ : Sto} {a0 : Nat} {v1 : Int} {v2 : Int} {v3 : Int} {v4 : Int} {v5 : Int} {s0 : Int} (h : Aw Ω M_Mdl_compare R F k n 97 [xr (some a0), xi v1, xi v2, xi v3, xi v4, xi s0] [] σ) : Aw Ω M_Mdl_compare R F k n 109 [xr (some a0), xi v1, xi v2, xi v3, xi v4, xi v5] [xi s0] σ := by
  refine Aw.istore (by decide) d_Mdl_compare_109 ?_
  refine Aw.toL (L' := [xr (some a0), xi v1, xi v2, xi v3, xi v4, xi s0]) rfl ?_
  refine Aw.goto (tgt := 97) (by decide) d_Mdl_compare_111 ?_
  exact h
theorem c_Mdl_compare_3 {Ω : Om} {R R' : Room} {F : QF} {k n : Nat} {L st : List PV} {σ : Sto} {QX' : String → Sto → Prop} {Q : Int → Sto → Prop} {a : Nat} {x0 : Int} (hc : MC Ω M_Mdl_isVersion R' (RI Q) QX' σ [xr (some a), xi x0]) (hk : sK σ a = 13) (hr1 : R'.frames + 1 ≤ R.frames) (hr2 : 8 + (2 + 11) + R'.locals ≤ R.locals) (hb1 : k + R'.cells ≤ R.cells) (hb2 : n + R'.slots ≤ R.slots) (hst : (st.map catP).sum ≤ 8) (kk : ∀ x σ', Q x σ' → Aw Ω M_Mdl_compare R F (k + R'.cells) (n + R'.slots) 6 L (xi x :: st) σ') (kx : ∀ E σ', QX' E σ' → Ax Ω M_Mdl_compare R F (k + R'.cells) (n + R'.slots) 3 L st σ' E) : Aw Ω M_Mdl_compare R F k n 3 L (xi x0 :: xr (some a) :: st) σ :=
  Aw.callV (As := [xi x0]) (stk := xi x0 :: xr (some a) :: st) (nn := 1) 12 M_Mdl_isVersion hc ok_Mdl_isVersion rfl (by decide) rfl hk ml_Mdl_172 im_Mdl_isVersion se_Mdl_isVersion ⟨hr1, hr2⟩ rfl ⟨hb1, hb2⟩ hst rfl d_Mdl_compare_3 (fun r σ' h => by obtain ⟨x, rfl, h⟩ := h; exact kk x σ' h) kx
theorem c_Mdl_compare_11 {Ω : Om} {R R' : Room} {F : QF} {k n : Nat} {L st : List PV} {σ : Sto} {QX' : String → Sto → Prop} {Q : Int → Sto → Prop} {a : Nat} {x0 : Int} (hc : MC Ω M_Mdl_isVersion R' (RI Q) QX' σ [xr (some a), xi x0]) (hk : sK σ a = 13) (hr1 : R'.frames + 1 ≤ R.frames) (hr2 : 8 + (2 + 11) + R'.locals ≤ R.locals) (hb1 : k + R'.cells ≤ R.cells) (hb2 : n + R'.slots ≤ R.slots) (hst : (st.map catP).sum ≤ 8) (kk : ∀ x σ', Q x σ' → Aw Ω M_Mdl_compare R F (k + R'.cells) (n + R'.slots) 14 L (xi x :: st) σ') (kx : ∀ E σ', QX' E σ' → Ax Ω M_Mdl_compare R F (k + R'.cells) (n + R'.slots) 11 L st σ' E) : Aw Ω M_Mdl_compare R F k n 11 L (xi x0 :: xr (some a) :: st) σ :=
  Aw.callV (As := [xi x0]) (stk := xi x0 :: xr (some a) :: st) (nn := 1) 12 M_Mdl_isVersion hc ok_Mdl_isVersion rfl (by decide) rfl hk ml_Mdl_172 im_Mdl_isVersion se_Mdl_isVersion ⟨hr1, hr2⟩ rfl ⟨hb1, hb2⟩ hst rfl d_Mdl_compare_11 (fun r σ' h => by obtain ⟨x, rfl, h⟩ := h; exact kk x σ' h) kx
theorem c_Mdl_compare_22 {Ω : Om} {R R' : Room} {F : QF} {k n : Nat} {L st : List PV} {σ : Sto} {QX' : String → Sto → Prop} {Q : Int → Sto → Prop} {a : Nat} {x0 : Int} (hc : MC Ω M_Mdl_refused R' (RI Q) QX' σ [xr (some a), xi x0]) (hk : sK σ a = 13) (hr1 : R'.frames + 1 ≤ R.frames) (hr2 : 8 + (2 + 11) + R'.locals ≤ R.locals) (hb1 : k + R'.cells ≤ R.cells) (hb2 : n + R'.slots ≤ R.slots) (hst : (st.map catP).sum ≤ 8) (kk : ∀ x σ', Q x σ' → Aw Ω M_Mdl_compare R F (k + R'.cells) (n + R'.slots) 25 L (xi x :: st) σ') (kx : ∀ E σ', QX' E σ' → Ax Ω M_Mdl_compare R F (k + R'.cells) (n + R'.slots) 22 L st σ' E) : Aw Ω M_Mdl_compare R F k n 22 L (xi x0 :: xr (some a) :: st) σ :=
  Aw.callV (As := [xi x0]) (stk := xi x0 :: xr (some a) :: st) (nn := 1) 12 M_Mdl_refused hc ok_Mdl_refused rfl (by decide) rfl hk ml_Mdl_151 im_Mdl_refused se_Mdl_refused ⟨hr1, hr2⟩ rfl ⟨hb1, hb2⟩ hst rfl d_Mdl_compare_22 (fun r σ' h => by obtain ⟨x, rfl, h⟩ := h; exact kk x σ' h) kx
theorem r_Mdl_compare_29 {Ω : Om} {R : Room} {k n : Nat} {L : List PV} {σ : Sto} {QR : Option PV → Sto → Prop} {QX : String → Sto → Prop} {x : Int} (h : QR (some (xi x)) σ) (h1 : k ≤ R.cells) (h2 : n ≤ R.slots) : Aw Ω M_Mdl_compare R (MF Ω R QR QX) k n 29 L [xi x] σ := Aw.iret rfl h h1 h2 d_Mdl_compare_29
theorem c_Mdl_compare_34 {Ω : Om} {R R' : Room} {F : QF} {k n : Nat} {L st : List PV} {σ : Sto} {QX' : String → Sto → Prop} {Q : Int → Sto → Prop} {a : Nat} {x0 : Int} {x1 : Int} {x2 : Int} (hc : MC Ω M_Mdl_pair R' (RI Q) QX' σ [xr (some a), xi x0, xi x1, xi x2]) (hk : sK σ a = 13) (hr1 : R'.frames + 1 ≤ R.frames) (hr2 : 8 + (11 + 11) + R'.locals ≤ R.locals) (hb1 : k + R'.cells ≤ R.cells) (hb2 : n + R'.slots ≤ R.slots) (hst : (st.map catP).sum ≤ 8) (kk : ∀ x σ', Q x σ' → Aw Ω M_Mdl_compare R F (k + R'.cells) (n + R'.slots) 37 L (xi x :: st) σ') (kx : ∀ E σ', QX' E σ' → Ax Ω M_Mdl_compare R F (k + R'.cells) (n + R'.slots) 34 L st σ' E) : Aw Ω M_Mdl_compare R F k n 34 L (xi x2 :: xi x1 :: xi x0 :: xr (some a) :: st) σ :=
  Aw.callV (As := [xi x0, xi x1, xi x2]) (stk := xi x2 :: xi x1 :: xi x0 :: xr (some a) :: st) (nn := 3) 12 M_Mdl_pair hc ok_Mdl_pair rfl (by decide) rfl hk ml_Mdl_249 im_Mdl_pair se_Mdl_pair ⟨hr1, hr2⟩ rfl ⟨hb1, hb2⟩ hst rfl d_Mdl_compare_34 (fun r σ' h => by obtain ⟨x, rfl, h⟩ := h; exact kk x σ' h) kx
theorem c_Mdl_compare_106 {Ω : Om} {R R' : Room} {F : QF} {k n : Nat} {L st : List PV} {σ : Sto} {QX' : String → Sto → Prop} {Q : Int → Sto → Prop} {a : Nat} {x0 : Int} {x1 : Int} {x2 : Int} (hc : MC Ω M_Mdl_findMove R' (RI Q) QX' σ [xr (some a), xi x0, xi x1, xi x2]) (hk : sK σ a = 13) (hr1 : R'.frames + 1 ≤ R.frames) (hr2 : 8 + (11 + 11) + R'.locals ≤ R.locals) (hb1 : k + R'.cells ≤ R.cells) (hb2 : n + R'.slots ≤ R.slots) (hst : (st.map catP).sum ≤ 8) (kk : ∀ x σ', Q x σ' → Aw Ω M_Mdl_compare R F (k + R'.cells) (n + R'.slots) 109 L (xi x :: st) σ') (kx : ∀ E σ', QX' E σ' → Ax Ω M_Mdl_compare R F (k + R'.cells) (n + R'.slots) 106 L st σ' E) : Aw Ω M_Mdl_compare R F k n 106 L (xi x2 :: xi x1 :: xi x0 :: xr (some a) :: st) σ :=
  Aw.callV (As := [xi x0, xi x1, xi x2]) (stk := xi x2 :: xi x1 :: xi x0 :: xr (some a) :: st) (nn := 3) 12 M_Mdl_findMove hc ok_Mdl_findMove rfl (by decide) rfl hk ml_Mdl_259 im_Mdl_findMove se_Mdl_findMove ⟨hr1, hr2⟩ rfl ⟨hb1, hb2⟩ hst rfl d_Mdl_compare_106 (fun r σ' h => by obtain ⟨x, rfl, h⟩ := h; exact kk x σ' h) kx
theorem r_Mdl_compare_116 {Ω : Om} {R : Room} {k n : Nat} {L : List PV} {σ : Sto} {QR : Option PV → Sto → Prop} {QX : String → Sto → Prop} {x : Int} (h : QR (some (xi x)) σ) (h1 : k ≤ R.cells) (h2 : n ≤ R.slots) : Aw Ω M_Mdl_compare R (MF Ω R QR QX) k n 116 L [xi x] σ := Aw.iret rfl h h1 h2 d_Mdl_compare_116
theorem e_Mdl_stateOf {Ω : Om} {R : Room} {QR : Option PV → Sto → Prop} {QX : String → Sto → Prop} {σ : Sto} {a0 : Nat} {v1 : Int} (h : Aw Ω M_Mdl_stateOf R (MF Ω R QR QX) 0 0 0 [xr (some a0), xi v1, xu, xu, xu] [] σ) : MC Ω M_Mdl_stateOf R QR QX σ [xr (some a0), xi v1] := MC.body (by decide +kernel) rfl (Nat.le_of_ble_eq_true rfl) rfl h
theorem b_Mdl_stateOf_0 {Ω : Om} {R : Room} {F : QF} {k n : Nat} {σ : Sto} {a0 : Nat} {v1 : Int} (h : Aw Ω M_Mdl_stateOf R F k n 7 [xr (some a0), xi v1, xi 0, xi 0, xi 0] [] σ) : Aw Ω M_Mdl_stateOf R F k n 0 [xr (some a0), xi v1, xu, xu, xu] [] σ := by
  refine Aw.iconst d_Mdl_stateOf_0 ?_
  refine Aw.istore_n (by decide) d_Mdl_stateOf_1 ?_
  refine Aw.toL (L' := [xr (some a0), xi v1, xi 0, xu, xu]) rfl ?_
  refine Aw.iconst d_Mdl_stateOf_2 ?_
  refine Aw.istore_n (by decide) d_Mdl_stateOf_3 ?_
  refine Aw.toL (L' := [xr (some a0), xi v1, xi 0, xi 0, xu]) rfl ?_
  refine Aw.iconst d_Mdl_stateOf_4 ?_
  refine Aw.istore (by decide) d_Mdl_stateOf_5 ?_
  refine Aw.toL (L' := [xr (some a0), xi v1, xi 0, xi 0, xi 0]) rfl ?_
  exact h
theorem b_Mdl_stateOf_7 {Ω : Om} {R : Room} {F : QF} {k n : Nat} {σ : Sto} {a0 : Nat} {v1 : Int} {v2 : Int} {v3 : Int} {v4 : Int} (h : Q32 v4 ∧ (((6 : Int) ≤ v4 → sK σ a0 = 13 ∧ (∃ b3 : Nat, fR σ 809 a0 = some b3 ∧ sK σ b3 = 52 ∧ 0 ≤ v1 ∧ v1 < sZ σ b3 ∧ (Q32 (aI σ b3 (v1).toNat) → (((aI σ b3 (v1).toNat) = (0 : Int) → Q32 v2 ∧ ((v2 ≤ (1 : Int) → Aw Ω M_Mdl_stateOf R F k n 95 [xr (some a0), xi v1, xi v2, xi v3, xi v4] [xi 0] σ) ∧ (¬ v2 ≤ (1 : Int) → Q32 v3 ∧ ((¬ v3 = (0 : Int) → Aw Ω M_Mdl_stateOf R F k n 95 [xr (some a0), xi v1, xi v2, xi v3, xi v4] [xi 0] σ) ∧ (v3 = (0 : Int) → Aw Ω M_Mdl_stateOf R F k n 95 [xr (some a0), xi v1, xi v2, xi v3, xi v4] [xi 1] σ))))) ∧ (¬ (aI σ b3 (v1).toNat) = (0 : Int) → Aw Ω M_Mdl_stateOf R F k n 95 [xr (some a0), xi v1, xi v2, xi v3, xi v4] [xi 2] σ))))) ∧ (¬ (6 : Int) ≤ v4 → sK σ a0 = 13 ∧ (∃ b15 : Nat, fR σ 810 a0 = some b15 ∧ sK σ b15 = 50 ∧ 0 ≤ ((6 * v1) + v4) ∧ ((6 * v1) + v4) < sZ σ b15 ∧ (Q32 (aI σ b15 ((6 * v1) + v4).toNat) → ((¬ (aI σ b15 ((6 * v1) + v4).toNat) = (1 : Int) → (Q32 (aI σ b15 ((6 * v1) + v4).toNat) → ((¬ (aI σ b15 ((6 * v1) + v4).toNat) = (2 : Int) → Aw Ω M_Mdl_stateOf R F k n 7 [xr (some a0), xi v1, xi (v2 + 0), xi (v3 + 0), xi (v4 + 1)] [] σ) ∧ ((aI σ b15 ((6 * v1) + v4).toNat) = (2 : Int) → Aw Ω M_Mdl_stateOf R F k n 7 [xr (some a0), xi v1, xi (v2 + 0), xi (v3 + 1), xi (v4 + 1)] [] σ)))) ∧ ((aI σ b15 ((6 * v1) + v4).toNat) = (1 : Int) → (Q32 (aI σ b15 ((6 * v1) + v4).toNat) → ((¬ (aI σ b15 ((6 * v1) + v4).toNat) = (2 : Int) → Aw Ω M_Mdl_stateOf R F k n 7 [xr (some a0), xi v1, xi (v2 + 1), xi (v3 + 0), xi (v4 + 1)] [] σ) ∧ ((aI σ b15 ((6 * v1) + v4).toNat) = (2 : Int) → Aw Ω M_Mdl_stateOf R F k n 7 [xr (some a0), xi v1, xi (v2 + 1), xi (v3 + 1), xi (v4 + 1)] [] σ)))))))))) : Aw Ω M_Mdl_stateOf R F k n 7 [xr (some a0), xi v1, xi v2, xi v3, xi v4] [] σ := by
  refine Aw.iload rfl d_Mdl_stateOf_7 ?_
  refine Aw.bipush (by decide) d_Mdl_stateOf_9 ?_
  obtain ⟨o1, h⟩ := h
  obtain ⟨ht, hf⟩ := h
  refine Aw.icmp_ge (tgt := 68) o1 ⟨by decide, by decide⟩ (by decide) d_Mdl_stateOf_11 (fun c26 => ?_) (fun c26 => ?_)
  · have h := ht c26
    refine Aw.aload_n rfl d_Mdl_stateOf_68 ?_
    obtain ⟨o2, h⟩ := h
    obtain ⟨b3, e4, h⟩ := h
    refine Aw.getRs (f := 809) 12 41 fl_Mdl_86 (by decide) (by decide) rfl rfl o2 e4 d_Mdl_stateOf_69 ?_
    refine Aw.iload_n rfl d_Mdl_stateOf_72 ?_
    obtain ⟨o5, h⟩ := h
    obtain ⟨o6, o7, h⟩ := h
    refine Aw.zald o5 o6 o7 d_Mdl_stateOf_73 (fun r8 => ?_)
    have h := h r8
    obtain ⟨ht, hf⟩ := h
    refine Aw.if_eq (tgt := 81) r8 (by decide) d_Mdl_stateOf_74 (fun c13 => ?_) (fun c13 => ?_)
    · have h := ht c13
      refine Aw.iload_n rfl d_Mdl_stateOf_81 ?_
      refine Aw.iconst d_Mdl_stateOf_82 ?_
      obtain ⟨o9, h⟩ := h
      obtain ⟨ht, hf⟩ := h
      refine Aw.icmp_le (tgt := 94) o9 ⟨by decide, by decide⟩ (by decide) d_Mdl_stateOf_83 (fun c12 => ?_) (fun c12 => ?_)
      · have h := ht c12
        refine Aw.iconst d_Mdl_stateOf_94 ?_
        exact h
      · have h := hf c12
        refine Aw.iload_n rfl d_Mdl_stateOf_86 ?_
        obtain ⟨o10, h⟩ := h
        obtain ⟨ht, hf⟩ := h
        refine Aw.if_ne (tgt := 94) o10 (by decide) d_Mdl_stateOf_87 (fun c11 => ?_) (fun c11 => ?_)
        · have h := ht c11
          refine Aw.iconst d_Mdl_stateOf_94 ?_
          exact h
        · have h := hf c11
          refine Aw.iconst d_Mdl_stateOf_90 ?_
          refine Aw.goto (tgt := 95) (by decide) d_Mdl_stateOf_91 ?_
          exact h
    · have h := hf c13
      refine Aw.iconst d_Mdl_stateOf_77 ?_
      refine Aw.goto (tgt := 95) (by decide) d_Mdl_stateOf_78 ?_
      exact h
  · have h := hf c26
    refine Aw.iload_n rfl d_Mdl_stateOf_14 ?_
    refine Aw.aload_n rfl d_Mdl_stateOf_15 ?_
    obtain ⟨o14, h⟩ := h
    obtain ⟨b15, e16, h⟩ := h
    refine Aw.getRs (f := 810) 12 42 fl_Mdl_90 (by decide) (by decide) rfl rfl o14 e16 d_Mdl_stateOf_16 ?_
    refine Aw.bipush (by decide) d_Mdl_stateOf_19 ?_
    refine Aw.iload_n rfl d_Mdl_stateOf_21 ?_
    refine Aw.imul d_Mdl_stateOf_22 ?_
    refine Aw.iload rfl d_Mdl_stateOf_23 ?_
    refine Aw.iadd d_Mdl_stateOf_25 ?_
    obtain ⟨o17, h⟩ := h
    obtain ⟨o18, o19, h⟩ := h
    refine Aw.iald o17 o18 o19 d_Mdl_stateOf_26 (fun r20 => ?_)
    have h := h r20
    refine Aw.iconst d_Mdl_stateOf_27 ?_
    obtain ⟨ht, hf⟩ := h
    refine Aw.icmp_ne (tgt := 35) r20 ⟨by decide, by decide⟩ (by decide) d_Mdl_stateOf_28 (fun c25 => ?_) (fun c25 => ?_)
    · have h := ht c25
      refine Aw.iconst d_Mdl_stateOf_35 ?_
      refine Aw.iadd d_Mdl_stateOf_36 ?_
      refine Aw.istore_n (by decide) d_Mdl_stateOf_37 ?_
      refine Aw.toL (L' := [xr (some a0), xi v1, xi (v2 + 0), xi v3, xi v4]) rfl ?_
      refine Aw.iload_n rfl d_Mdl_stateOf_38 ?_
      refine Aw.aload_n rfl d_Mdl_stateOf_39 ?_
      refine Aw.getRs (f := 810) 12 42 fl_Mdl_90 (by decide) (by decide) rfl rfl o14 e16 d_Mdl_stateOf_40 ?_
      refine Aw.bipush (by decide) d_Mdl_stateOf_43 ?_
      refine Aw.iload_n rfl d_Mdl_stateOf_45 ?_
      refine Aw.imul d_Mdl_stateOf_46 ?_
      refine Aw.iload rfl d_Mdl_stateOf_47 ?_
      refine Aw.iadd d_Mdl_stateOf_49 ?_
      refine Aw.iald o17 o18 o19 d_Mdl_stateOf_50 (fun r21 => ?_)
      have h := h r21
      refine Aw.iconst d_Mdl_stateOf_51 ?_
      obtain ⟨ht, hf⟩ := h
      refine Aw.icmp_ne (tgt := 59) r20 ⟨by decide, by decide⟩ (by decide) d_Mdl_stateOf_52 (fun c22 => ?_) (fun c22 => ?_)
      · have h := ht c22
        refine Aw.iconst d_Mdl_stateOf_59 ?_
        refine Aw.iadd d_Mdl_stateOf_60 ?_
        refine Aw.istore_n (by decide) d_Mdl_stateOf_61 ?_
        refine Aw.toL (L' := [xr (some a0), xi v1, xi (v2 + 0), xi (v3 + 0), xi v4]) rfl ?_
        refine Aw.iinc rfl d_Mdl_stateOf_62 ?_
        refine Aw.toL (L' := [xr (some a0), xi v1, xi (v2 + 0), xi (v3 + 0), xi (v4 + 1)]) rfl ?_
        refine Aw.goto (tgt := 7) (by decide) d_Mdl_stateOf_65 ?_
        exact h
      · have h := hf c22
        refine Aw.iconst d_Mdl_stateOf_55 ?_
        refine Aw.goto (tgt := 60) (by decide) d_Mdl_stateOf_56 ?_
        refine Aw.iadd d_Mdl_stateOf_60 ?_
        refine Aw.istore_n (by decide) d_Mdl_stateOf_61 ?_
        refine Aw.toL (L' := [xr (some a0), xi v1, xi (v2 + 0), xi (v3 + 1), xi v4]) rfl ?_
        refine Aw.iinc rfl d_Mdl_stateOf_62 ?_
        refine Aw.toL (L' := [xr (some a0), xi v1, xi (v2 + 0), xi (v3 + 1), xi (v4 + 1)]) rfl ?_
        refine Aw.goto (tgt := 7) (by decide) d_Mdl_stateOf_65 ?_
        exact h
    · have h := hf c25
      refine Aw.iconst d_Mdl_stateOf_31 ?_
      refine Aw.goto (tgt := 36) (by decide) d_Mdl_stateOf_32 ?_
      refine Aw.iadd d_Mdl_stateOf_36 ?_
      refine Aw.istore_n (by decide) d_Mdl_stateOf_37 ?_
      refine Aw.toL (L' := [xr (some a0), xi v1, xi (v2 + 1), xi v3, xi v4]) rfl ?_
      refine Aw.iload_n rfl d_Mdl_stateOf_38 ?_
      refine Aw.aload_n rfl d_Mdl_stateOf_39 ?_
      refine Aw.getRs (f := 810) 12 42 fl_Mdl_90 (by decide) (by decide) rfl rfl o14 e16 d_Mdl_stateOf_40 ?_
      refine Aw.bipush (by decide) d_Mdl_stateOf_43 ?_
      refine Aw.iload_n rfl d_Mdl_stateOf_45 ?_
      refine Aw.imul d_Mdl_stateOf_46 ?_
      refine Aw.iload rfl d_Mdl_stateOf_47 ?_
      refine Aw.iadd d_Mdl_stateOf_49 ?_
      refine Aw.iald o17 o18 o19 d_Mdl_stateOf_50 (fun r23 => ?_)
      have h := h r23
      refine Aw.iconst d_Mdl_stateOf_51 ?_
      obtain ⟨ht, hf⟩ := h
      refine Aw.icmp_ne (tgt := 59) r20 ⟨by decide, by decide⟩ (by decide) d_Mdl_stateOf_52 (fun c24 => ?_) (fun c24 => ?_)
      · have h := ht c24
        refine Aw.iconst d_Mdl_stateOf_59 ?_
        refine Aw.iadd d_Mdl_stateOf_60 ?_
        refine Aw.istore_n (by decide) d_Mdl_stateOf_61 ?_
        refine Aw.toL (L' := [xr (some a0), xi v1, xi (v2 + 1), xi (v3 + 0), xi v4]) rfl ?_
        refine Aw.iinc rfl d_Mdl_stateOf_62 ?_
        refine Aw.toL (L' := [xr (some a0), xi v1, xi (v2 + 1), xi (v3 + 0), xi (v4 + 1)]) rfl ?_
        refine Aw.goto (tgt := 7) (by decide) d_Mdl_stateOf_65 ?_
        exact h
      · have h := hf c24
        refine Aw.iconst d_Mdl_stateOf_55 ?_
        refine Aw.goto (tgt := 60) (by decide) d_Mdl_stateOf_56 ?_
        refine Aw.iadd d_Mdl_stateOf_60 ?_
        refine Aw.istore_n (by decide) d_Mdl_stateOf_61 ?_
        refine Aw.toL (L' := [xr (some a0), xi v1, xi (v2 + 1), xi (v3 + 1), xi v4]) rfl ?_
        refine Aw.iinc rfl d_Mdl_stateOf_62 ?_
        refine Aw.toL (L' := [xr (some a0), xi v1, xi (v2 + 1), xi (v3 + 1), xi (v4 + 1)]) rfl ?_
        refine Aw.goto (tgt := 7) (by decide) d_Mdl_stateOf_65 ?_
        exact h
theorem r_Mdl_stateOf_95 {Ω : Om} {R : Room} {k n : Nat} {L : List PV} {σ : Sto} {QR : Option PV → Sto → Prop} {QX : String → Sto → Prop} {x : Int} (h : QR (some (xi x)) σ) (h1 : k ≤ R.cells) (h2 : n ≤ R.slots) : Aw Ω M_Mdl_stateOf R (MF Ω R QR QX) k n 95 L [xi x] σ := Aw.iret rfl h h1 h2 d_Mdl_stateOf_95
theorem e_Mdl_putIn {Ω : Om} {R : Room} {QR : Option PV → Sto → Prop} {QX : String → Sto → Prop} {σ : Sto} {a0 : Nat} {v1 : Int64} (h : Aw Ω M_Mdl_putIn R (MF Ω R QR QX) 0 0 0 [xr (some a0), xl v1, xu, xu, xu] [] σ) : MC Ω M_Mdl_putIn R QR QX σ [xr (some a0), xl v1] := MC.body (by decide +kernel) rfl (Nat.le_of_ble_eq_true rfl) rfl h
theorem b_Mdl_putIn_0 {Ω : Om} {R : Room} {F : QF} {k n : Nat} {σ : Sto} {a0 : Nat} {v1 : Int64} (h : sK σ a0 = 13 ∧ (Q32 (fI σ 782 a0) → (∃ b3 : Nat, fR σ 774 a0 = some b3 ∧ (Q32 (fI σ 780 a0) → sK σ b3 = 50 ∧ 0 ≤ (fI σ 780 a0) ∧ (fI σ 780 a0) < sZ σ b3 ∧ (Q32 (aI σ b3 (fI σ 780 a0).toNat) → Aw Ω M_Mdl_putIn R F k n 18 [xr (some a0), xl v1, xu, xi (fI σ 782 a0), xi ((aI σ b3 (fI σ 780 a0).toNat) - 1)] [] σ))))) : Aw Ω M_Mdl_putIn R F k n 0 [xr (some a0), xl v1, xu, xu, xu] [] σ := by
  refine Aw.aload_n rfl d_Mdl_putIn_0 ?_
  obtain ⟨o1, h⟩ := h
  refine Aw.getI (f := 782) 12 14 fl_Mdl_162 (by decide) (by decide) rfl rfl o1 d_Mdl_putIn_1 (fun r2 => ?_)
  have h := h r2
  refine Aw.istore_n (by decide) d_Mdl_putIn_4 ?_
  refine Aw.toL (L' := [xr (some a0), xl v1, xu, xi (fI σ 782 a0), xu]) rfl ?_
  refine Aw.aload_n rfl d_Mdl_putIn_5 ?_
  obtain ⟨b3, e4, h⟩ := h
  refine Aw.getRs (f := 774) 12 6 fl_Mdl_20 (by decide) (by decide) rfl rfl o1 e4 d_Mdl_putIn_6 ?_
  refine Aw.aload_n rfl d_Mdl_putIn_9 ?_
  refine Aw.getI (f := 780) 12 12 fl_Mdl_165 (by decide) (by decide) rfl rfl o1 d_Mdl_putIn_10 (fun r5 => ?_)
  have h := h r5
  obtain ⟨o6, h⟩ := h
  obtain ⟨o7, o8, h⟩ := h
  refine Aw.iald o6 o7 o8 d_Mdl_putIn_13 (fun r9 => ?_)
  have h := h r9
  refine Aw.iconst d_Mdl_putIn_14 ?_
  refine Aw.isub d_Mdl_putIn_15 ?_
  refine Aw.istore (by decide) d_Mdl_putIn_16 ?_
  refine Aw.toL (L' := [xr (some a0), xl v1, xu, xi (fI σ 782 a0), xi ((aI σ b3 (fI σ 780 a0).toNat) - 1)]) rfl ?_
  exact h
theorem b_Mdl_putIn_18 {Ω : Om} {R : Room} {F : QF} {k n : Nat} {σ : Sto} {a0 : Nat} {v1 : Int64} {v3 : Int} {v4 : Int} (h : Q32 v4 ∧ ((v4 < (0 : Int) → Aw Ω M_Mdl_putIn R F k n 91 [xr (some a0), xl v1, xu, xi v3, xi v4] [xi (-1), xi v3, xl v1, xr (some a0)] σ) ∧ (¬ v4 < (0 : Int) → Aw Ω M_Mdl_putIn R F k n 24 [xr (some a0), xl v1, xu, xi v3, xi v4] [xl v1] σ))) : Aw Ω M_Mdl_putIn R F k n 18 [xr (some a0), xl v1, xu, xi v3, xi v4] [] σ := by
  refine Aw.iload rfl d_Mdl_putIn_18 ?_
  obtain ⟨o1, h⟩ := h
  obtain ⟨ht, hf⟩ := h
  refine Aw.if_lt (tgt := 87) o1 (by decide) d_Mdl_putIn_20 (fun c2 => ?_) (fun c2 => ?_)
  · have h := ht c2
    refine Aw.aload_n rfl d_Mdl_putIn_87 ?_
    refine Aw.lload_n rfl d_Mdl_putIn_88 ?_
    refine Aw.iload_n rfl d_Mdl_putIn_89 ?_
    refine Aw.iconst d_Mdl_putIn_90 ?_
    exact h
  · have h := hf c2
    refine Aw.lload_n rfl d_Mdl_putIn_23 ?_
    exact h
theorem b_Mdl_putIn_27 {Ω : Om} {R : Room} {F : QF} {k n : Nat} {σ : Sto} {a0 : Nat} {v1 : Int64} {v3 : Int} {v4 : Int} {s0 : Int} (h : Q32 s0 ∧ ((s0 < (4 : Int) → Aw Ω M_Mdl_putIn R F k n 91 [xr (some a0), xl v1, xu, xi v3, xi v4] [xi (-1), xi v3, xl v1, xr (some a0)] σ) ∧ (¬ s0 < (4 : Int) → sK σ a0 = 13 ∧ (∃ b3 : Nat, fR σ 770 a0 = some b3 ∧ (∃ b5 : Nat, fR σ 775 a0 = some b5 ∧ (Q32 (fI σ 780 a0) → sK σ b5 = 50 ∧ 0 ≤ ((20 * (fI σ 780 a0)) + v4) ∧ ((20 * (fI σ 780 a0)) + v4) < sZ σ b5 ∧ (Q32 (aI σ b5 ((20 * (fI σ 780 a0)) + v4).toNat) → sK σ b3 = 51 ∧ 0 ≤ (aI σ b5 ((20 * (fI σ 780 a0)) + v4).toNat) ∧ (aI σ b5 ((20 * (fI σ 780 a0)) + v4).toNat) < sZ σ b3 ∧ Q32 (cmpL (aL σ b3 (aI σ b5 ((20 * (fI σ 780 a0)) + v4).toNat).toNat) v1) ∧ ((¬ (cmpL (aL σ b3 (aI σ b5 ((20 * (fI σ 780 a0)) + v4).toNat).toNat) v1) = (0 : Int) → Aw Ω M_Mdl_putIn R F k n 18 [xr (some a0), xl v1, xu, xi v3, xi (v4 + (-1))] [] σ) ∧ ((cmpL (aL σ b3 (aI σ b5 ((20 * (fI σ 780 a0)) + v4).toNat).toNat) v1) = (0 : Int) → (∃ b16 : Nat, fR σ 771 a0 = some b16 ∧ (Q32 (fI σ 780 a0) → (Q32 (aI σ b5 ((20 * (fI σ 780 a0)) + v4).toNat) → sK σ b16 = 50 ∧ 0 ≤ (aI σ b5 ((20 * (fI σ 780 a0)) + v4).toNat) ∧ (aI σ b5 ((20 * (fI σ 780 a0)) + v4).toNat) < sZ σ b16 ∧ (Q32 (aI σ b16 (aI σ b5 ((20 * (fI σ 780 a0)) + v4).toNat).toNat) → Aw Ω M_Mdl_putIn R F k n 18 [xr (some a0), xl v1, xu, xi (aI σ b16 (aI σ b5 ((20 * (fI σ 780 a0)) + v4).toNat).toNat), xi (v4 + (-1))] [] σ))))))))))))) : Aw Ω M_Mdl_putIn R F k n 27 [xr (some a0), xl v1, xu, xi v3, xi v4] [xi s0] σ := by
  refine Aw.iconst d_Mdl_putIn_27 ?_
  obtain ⟨o1, h⟩ := h
  obtain ⟨ht, hf⟩ := h
  refine Aw.icmp_lt (tgt := 87) o1 ⟨by decide, by decide⟩ (by decide) d_Mdl_putIn_28 (fun c25 => ?_) (fun c25 => ?_)
  · have h := ht c25
    refine Aw.aload_n rfl d_Mdl_putIn_87 ?_
    refine Aw.lload_n rfl d_Mdl_putIn_88 ?_
    refine Aw.iload_n rfl d_Mdl_putIn_89 ?_
    refine Aw.iconst d_Mdl_putIn_90 ?_
    exact h
  · have h := hf c25
    refine Aw.aload_n rfl d_Mdl_putIn_31 ?_
    obtain ⟨o2, h⟩ := h
    obtain ⟨b3, e4, h⟩ := h
    refine Aw.getRs (f := 770) 12 2 fl_Mdl_7 (by decide) (by decide) rfl rfl o2 e4 d_Mdl_putIn_32 ?_
    refine Aw.aload_n rfl d_Mdl_putIn_35 ?_
    obtain ⟨b5, e6, h⟩ := h
    refine Aw.getRs (f := 775) 12 7 fl_Mdl_23 (by decide) (by decide) rfl rfl o2 e6 d_Mdl_putIn_36 ?_
    refine Aw.bipush (by decide) d_Mdl_putIn_39 ?_
    refine Aw.aload_n rfl d_Mdl_putIn_41 ?_
    refine Aw.getI (f := 780) 12 12 fl_Mdl_165 (by decide) (by decide) rfl rfl o2 d_Mdl_putIn_42 (fun r7 => ?_)
    have h := h r7
    refine Aw.imul d_Mdl_putIn_45 ?_
    refine Aw.iload rfl d_Mdl_putIn_46 ?_
    refine Aw.iadd d_Mdl_putIn_48 ?_
    obtain ⟨o8, h⟩ := h
    obtain ⟨o9, o10, h⟩ := h
    refine Aw.iald o8 o9 o10 d_Mdl_putIn_49 (fun r11 => ?_)
    have h := h r11
    obtain ⟨o12, h⟩ := h
    obtain ⟨o13, o14, h⟩ := h
    refine Aw.lald o12 o13 o14 d_Mdl_putIn_50 ?_
    refine Aw.lload_n rfl d_Mdl_putIn_51 ?_
    refine Aw.lcmp d_Mdl_putIn_52 ?_
    obtain ⟨o15, h⟩ := h
    obtain ⟨ht, hf⟩ := h
    refine Aw.if_ne (tgt := 79) o15 (by decide) d_Mdl_putIn_53 (fun c24 => ?_) (fun c24 => ?_)
    · have h := ht c24
      refine Aw.iload_n rfl d_Mdl_putIn_79 ?_
      refine Aw.istore_n (by decide) d_Mdl_putIn_80 ?_
      refine Aw.toL (L' := [xr (some a0), xl v1, xu, xi v3, xi v4]) rfl ?_
      refine Aw.iinc rfl d_Mdl_putIn_81 ?_
      refine Aw.toL (L' := [xr (some a0), xl v1, xu, xi v3, xi (v4 + (-1))]) rfl ?_
      refine Aw.goto (tgt := 18) (by decide) d_Mdl_putIn_84 ?_
      exact h
    · have h := hf c24
      refine Aw.aload_n rfl d_Mdl_putIn_56 ?_
      obtain ⟨b16, e17, h⟩ := h
      refine Aw.getRs (f := 771) 12 3 fl_Mdl_13 (by decide) (by decide) rfl rfl o2 e17 d_Mdl_putIn_57 ?_
      refine Aw.aload_n rfl d_Mdl_putIn_60 ?_
      refine Aw.getRs (f := 775) 12 7 fl_Mdl_23 (by decide) (by decide) rfl rfl o2 e6 d_Mdl_putIn_61 ?_
      refine Aw.bipush (by decide) d_Mdl_putIn_64 ?_
      refine Aw.aload_n rfl d_Mdl_putIn_66 ?_
      refine Aw.getI (f := 780) 12 12 fl_Mdl_165 (by decide) (by decide) rfl rfl o2 d_Mdl_putIn_67 (fun r18 => ?_)
      have h := h r18
      refine Aw.imul d_Mdl_putIn_70 ?_
      refine Aw.iload rfl d_Mdl_putIn_71 ?_
      refine Aw.iadd d_Mdl_putIn_73 ?_
      refine Aw.iald o8 o9 o10 d_Mdl_putIn_74 (fun r19 => ?_)
      have h := h r19
      obtain ⟨o20, h⟩ := h
      obtain ⟨o21, o22, h⟩ := h
      refine Aw.iald o20 o21 o22 d_Mdl_putIn_75 (fun r23 => ?_)
      have h := h r23
      refine Aw.goto (tgt := 80) (by decide) d_Mdl_putIn_76 ?_
      refine Aw.istore_n (by decide) d_Mdl_putIn_80 ?_
      refine Aw.toL (L' := [xr (some a0), xl v1, xu, xi (aI σ b16 (aI σ b5 ((20 * (fI σ 780 a0)) + v4).toNat).toNat), xi v4]) rfl ?_
      refine Aw.iinc rfl d_Mdl_putIn_81 ?_
      refine Aw.toL (L' := [xr (some a0), xl v1, xu, xi (aI σ b16 (aI σ b5 ((20 * (fI σ 780 a0)) + v4).toNat).toNat), xi (v4 + (-1))]) rfl ?_
      refine Aw.goto (tgt := 18) (by decide) d_Mdl_putIn_84 ?_
      exact h
theorem c_Mdl_putIn_24 {Ω : Om} {R R' : Room} {F : QF} {k n : Nat} {L st : List PV} {σ : Sto} {QX' : String → Sto → Prop} {Q : Int → Sto → Prop} {x0 : Int64} (hc : MC Ω M_Mdl_letters R' (RI Q) QX' σ [xl x0]) (hr1 : R'.frames + 1 ≤ R.frames) (hr2 : 8 + (4 + 11) + R'.locals ≤ R.locals) (hb1 : k + R'.cells ≤ R.cells) (hb2 : n + R'.slots ≤ R.slots) (hst : (st.map catP).sum ≤ 8) (kk : ∀ x σ', Q x σ' → Aw Ω M_Mdl_putIn R F (k + R'.cells) (n + R'.slots) 27 L (xi x :: st) σ') (kx : ∀ E σ', QX' E σ' → Ax Ω M_Mdl_putIn R F (k + R'.cells) (n + R'.slots) 24 L st σ' E) : Aw Ω M_Mdl_putIn R F k n 24 L (xl x0 :: st) σ :=
  Aw.callS (As := [xl x0]) (stk := xl x0 :: st) (nn := 1) M_Mdl_letters hc ok_Mdl_letters rfl ml_Mdl_144 sta_Mdl_letters ⟨hr1, hr2⟩ rfl ⟨hb1, hb2⟩ hst rfl d_Mdl_putIn_24 (fun r σ' h => by obtain ⟨x, rfl, h⟩ := h; exact kk x σ' h) kx
theorem c_Mdl_putIn_91 {Ω : Om} {R R' : Room} {F : QF} {k n : Nat} {L st : List PV} {σ : Sto} {QX' : String → Sto → Prop} {Q : Int → Sto → Prop} {a : Nat} {x0 : Int64} {x1 : Int} {x2 : Int} (hc : MC Ω M_Mdl_id R' (RI Q) QX' σ [xr (some a), xl x0, xi x1, xi x2]) (hk : sK σ a = 13) (hr1 : R'.frames + 1 ≤ R.frames) (hr2 : 8 + (5 + 11) + R'.locals ≤ R.locals) (hb1 : k + R'.cells ≤ R.cells) (hb2 : n + R'.slots ≤ R.slots) (hst : (st.map catP).sum ≤ 8) (kk : ∀ x σ', Q x σ' → Aw Ω M_Mdl_putIn R F (k + R'.cells) (n + R'.slots) 94 L (xi x :: st) σ') (kx : ∀ E σ', QX' E σ' → Ax Ω M_Mdl_putIn R F (k + R'.cells) (n + R'.slots) 91 L st σ' E) : Aw Ω M_Mdl_putIn R F k n 91 L (xi x2 :: xi x1 :: xl x0 :: xr (some a) :: st) σ :=
  Aw.callV (As := [xl x0, xi x1, xi x2]) (stk := xi x2 :: xi x1 :: xl x0 :: xr (some a) :: st) (nn := 3) 12 M_Mdl_id hc ok_Mdl_id rfl (by decide) rfl hk ml_Mdl_168 im_Mdl_id se_Mdl_id ⟨hr1, hr2⟩ rfl ⟨hb1, hb2⟩ hst rfl d_Mdl_putIn_91 (fun r σ' h => by obtain ⟨x, rfl, h⟩ := h; exact kk x σ' h) kx
theorem r_Mdl_putIn_94 {Ω : Om} {R : Room} {k n : Nat} {L : List PV} {σ : Sto} {QR : Option PV → Sto → Prop} {QX : String → Sto → Prop} {x : Int} (h : QR (some (xi x)) σ) (h1 : k ≤ R.cells) (h2 : n ≤ R.slots) : Aw Ω M_Mdl_putIn R (MF Ω R QR QX) k n 94 L [xi x] σ := Aw.iret rfl h h1 h2 d_Mdl_putIn_94
theorem e_Mdl_find {Ω : Om} {R : Room} {QR : Option PV → Sto → Prop} {QX : String → Sto → Prop} {σ : Sto} {a0 : Nat} {v1 : Int} {v2 : Int} {v3 : Int} {v4 : Int} (h : Aw Ω M_Mdl_find R (MF Ω R QR QX) 0 0 0 [xr (some a0), xi v1, xi v2, xi v3, xi v4, xu, xu] [] σ) : MC Ω M_Mdl_find R QR QX σ [xr (some a0), xi v1, xi v2, xi v3, xi v4] := MC.body (by decide +kernel) rfl (Nat.le_of_ble_eq_true rfl) rfl h
theorem b_Mdl_find_0 {Ω : Om} {R : Room} {F : QF} {k n : Nat} {σ : Sto} {a0 : Nat} {v1 : Int} {v2 : Int} {v3 : Int} {v4 : Int} (h : Aw Ω M_Mdl_find R F k n 3 [xr (some a0), xi v1, xi v2, xi v3, xi v4, xi 0, xu] [] σ) : Aw Ω M_Mdl_find R F k n 0 [xr (some a0), xi v1, xi v2, xi v3, xi v4, xu, xu] [] σ := by
  refine Aw.iconst d_Mdl_find_0 ?_
  refine Aw.istore (by decide) d_Mdl_find_1 ?_
  refine Aw.toL (L' := [xr (some a0), xi v1, xi v2, xi v3, xi v4, xi 0, xu]) rfl ?_
  exact h
theorem b_Mdl_find_3 {Ω : Om} {R : Room} {F : QF} {k n : Nat} {σ : Sto} {a0 : Nat} {v1 : Int} {v2 : Int} {v3 : Int} {v4 : Int} {v5 : Int} (h : Q32 v5 ∧ Q32 v3 ∧ ((v3 < v5 → Aw Ω M_Mdl_find R F k n 75 [xr (some a0), xi v1, xi v2, xi v3, xi v4, xi v5, xu] [xi (-1)] σ) ∧ (¬ v3 < v5 → Aw Ω M_Mdl_find R F k n 12 [xr (some a0), xi v1, xi v2, xi v3, xi v4, xi v5, xi 0] [] σ))) : Aw Ω M_Mdl_find R F k n 3 [xr (some a0), xi v1, xi v2, xi v3, xi v4, xi v5, xu] [] σ := by
  refine Aw.iload rfl d_Mdl_find_3 ?_
  refine Aw.iload_n rfl d_Mdl_find_5 ?_
  obtain ⟨o1, h⟩ := h
  obtain ⟨o2, h⟩ := h
  obtain ⟨ht, hf⟩ := h
  refine Aw.icmp_gt (tgt := 74) o1 o2 (by decide) d_Mdl_find_6 (fun c3 => ?_) (fun c3 => ?_)
  · have h := ht c3
    refine Aw.iconst d_Mdl_find_74 ?_
    exact h
  · have h := hf c3
    refine Aw.iconst d_Mdl_find_9 ?_
    refine Aw.istore (by decide) d_Mdl_find_10 ?_
    refine Aw.toL (L' := [xr (some a0), xi v1, xi v2, xi v3, xi v4, xi v5, xi 0]) rfl ?_
    exact h
theorem b_Mdl_find_12 {Ω : Om} {R : Room} {F : QF} {k n : Nat} {σ : Sto} {a0 : Nat} {v1 : Int} {v2 : Int} {v3 : Int} {v4 : Int} {v5 : Int} {v6 : Int} (h : Q32 v6 ∧ (((128 : Int) ≤ v6 → Aw Ω M_Mdl_find R F k n 3 [xr (some a0), xi v1, xi v2, xi v3, xi v4, xi (v5 + 1), xu] [] σ) ∧ (¬ (128 : Int) ≤ v6 → Aw Ω M_Mdl_find R F k n 30 [xr (some a0), xi v1, xi v2, xi v3, xi v4, xi v5, xi v6] [xi v4, xi v5, xi (v2 - v6), xi v1, xr (some a0)] σ))) : Aw Ω M_Mdl_find R F k n 12 [xr (some a0), xi v1, xi v2, xi v3, xi v4, xi v5, xi v6] [] σ := by
  refine Aw.iload rfl d_Mdl_find_12 ?_
  refine Aw.sipush (by decide) d_Mdl_find_14 ?_
  obtain ⟨o1, h⟩ := h
  obtain ⟨ht, hf⟩ := h
  refine Aw.icmp_ge (tgt := 68) o1 ⟨by decide, by decide⟩ (by decide) d_Mdl_find_17 (fun c2 => ?_) (fun c2 => ?_)
  · have h := ht c2
    refine Aw.iinc rfl d_Mdl_find_68 ?_
    refine Aw.toL (L' := [xr (some a0), xi v1, xi v2, xi v3, xi v4, xi (v5 + 1), xi v6]) rfl ?_
    refine Aw.goto (tgt := 3) (by decide) d_Mdl_find_71 ?_
    exact Aw.toW (L' := [xr (some a0), xi v1, xi v2, xi v3, xi v4, xi (v5 + 1), xu]) ⟨Or.inr rfl, Or.inr rfl, Or.inr rfl, Or.inr rfl, Or.inr rfl, Or.inr rfl, Or.inl rfl, trivial⟩ h
  · have h := hf c2
    refine Aw.aload_n rfl d_Mdl_find_20 ?_
    refine Aw.iload_n rfl d_Mdl_find_21 ?_
    refine Aw.iload_n rfl d_Mdl_find_22 ?_
    refine Aw.iload rfl d_Mdl_find_23 ?_
    refine Aw.isub d_Mdl_find_25 ?_
    refine Aw.iload rfl d_Mdl_find_26 ?_
    refine Aw.iload rfl d_Mdl_find_28 ?_
    exact h
theorem b_Mdl_find_33 {Ω : Om} {R : Room} {F : QF} {k n : Nat} {σ : Sto} {a0 : Nat} {v1 : Int} {v2 : Int} {v3 : Int} {v4 : Int} {v5 : Int} {v6 : Int} {s0 : Int} (h : Q32 s0 ∧ ((s0 = (0 : Int) → Aw Ω M_Mdl_find R F k n 51 [xr (some a0), xi v1, xi v2, xi v3, xi v4, xi v5, xi v6] [xi v4, xi v5, xi (v2 + v6), xi v1, xr (some a0)] σ) ∧ (¬ s0 = (0 : Int) → Aw Ω M_Mdl_find R F k n 40 [xr (some a0), xi v1, xi v2, xi v3, xi v4, xi v5, xi v6] [xi (v2 - v6)] σ))) : Aw Ω M_Mdl_find R F k n 33 [xr (some a0), xi v1, xi v2, xi v3, xi v4, xi v5, xi v6] [xi s0] σ := by
  obtain ⟨o1, h⟩ := h
  obtain ⟨ht, hf⟩ := h
  refine Aw.if_eq (tgt := 41) o1 (by decide) d_Mdl_find_33 (fun c2 => ?_) (fun c2 => ?_)
  · have h := ht c2
    refine Aw.aload_n rfl d_Mdl_find_41 ?_
    refine Aw.iload_n rfl d_Mdl_find_42 ?_
    refine Aw.iload_n rfl d_Mdl_find_43 ?_
    refine Aw.iload rfl d_Mdl_find_44 ?_
    refine Aw.iadd d_Mdl_find_46 ?_
    refine Aw.iload rfl d_Mdl_find_47 ?_
    refine Aw.iload rfl d_Mdl_find_49 ?_
    exact h
  · have h := hf c2
    refine Aw.iload_n rfl d_Mdl_find_36 ?_
    refine Aw.iload rfl d_Mdl_find_37 ?_
    refine Aw.isub d_Mdl_find_39 ?_
    exact h
theorem b_Mdl_find_54 {Ω : Om} {R : Room} {F : QF} {k n : Nat} {σ : Sto} {a0 : Nat} {v1 : Int} {v2 : Int} {v3 : Int} {v4 : Int} {v5 : Int} {v6 : Int} {s0 : Int} (h : Q32 s0 ∧ ((s0 = (0 : Int) → Aw Ω M_Mdl_find R F k n 12 [xr (some a0), xi v1, xi v2, xi v3, xi v4, xi v5, xi (v6 + 1)] [] σ) ∧ (¬ s0 = (0 : Int) → Aw Ω M_Mdl_find R F k n 61 [xr (some a0), xi v1, xi v2, xi v3, xi v4, xi v5, xi v6] [xi (v2 + v6)] σ))) : Aw Ω M_Mdl_find R F k n 54 [xr (some a0), xi v1, xi v2, xi v3, xi v4, xi v5, xi v6] [xi s0] σ := by
  obtain ⟨o1, h⟩ := h
  obtain ⟨ht, hf⟩ := h
  refine Aw.if_eq (tgt := 62) o1 (by decide) d_Mdl_find_54 (fun c2 => ?_) (fun c2 => ?_)
  · have h := ht c2
    refine Aw.iinc rfl d_Mdl_find_62 ?_
    refine Aw.toL (L' := [xr (some a0), xi v1, xi v2, xi v3, xi v4, xi v5, xi (v6 + 1)]) rfl ?_
    refine Aw.goto (tgt := 12) (by decide) d_Mdl_find_65 ?_
    exact h
  · have h := hf c2
    refine Aw.iload_n rfl d_Mdl_find_57 ?_
    refine Aw.iload rfl d_Mdl_find_58 ?_
    refine Aw.iadd d_Mdl_find_60 ?_
    exact h
theorem c_Mdl_find_30 {Ω : Om} {R R' : Room} {F : QF} {k n : Nat} {L st : List PV} {σ : Sto} {QX' : String → Sto → Prop} {Q : Int → Sto → Prop} {a : Nat} {x0 : Int} {x1 : Int} {x2 : Int} {x3 : Int} (hc : MC Ω M_Mdl_fits R' (RI Q) QX' σ [xr (some a), xi x0, xi x1, xi x2, xi x3]) (hk : sK σ a = 13) (hr1 : R'.frames + 1 ≤ R.frames) (hr2 : 8 + (10 + 11) + R'.locals ≤ R.locals) (hb1 : k + R'.cells ≤ R.cells) (hb2 : n + R'.slots ≤ R.slots) (hst : (st.map catP).sum ≤ 8) (kk : ∀ x σ', Q x σ' → Aw Ω M_Mdl_find R F (k + R'.cells) (n + R'.slots) 33 L (xi x :: st) σ') (kx : ∀ E σ', QX' E σ' → Ax Ω M_Mdl_find R F (k + R'.cells) (n + R'.slots) 30 L st σ' E) : Aw Ω M_Mdl_find R F k n 30 L (xi x3 :: xi x2 :: xi x1 :: xi x0 :: xr (some a) :: st) σ :=
  Aw.callV (As := [xi x0, xi x1, xi x2, xi x3]) (stk := xi x3 :: xi x2 :: xi x1 :: xi x0 :: xr (some a) :: st) (nn := 4) 12 M_Mdl_fits hc ok_Mdl_fits rfl (by decide) rfl hk ml_Mdl_330 im_Mdl_fits se_Mdl_fits ⟨hr1, hr2⟩ rfl ⟨hb1, hb2⟩ hst rfl d_Mdl_find_30 (fun r σ' h => by obtain ⟨x, rfl, h⟩ := h; exact kk x σ' h) kx
theorem r_Mdl_find_40 {Ω : Om} {R : Room} {k n : Nat} {L : List PV} {σ : Sto} {QR : Option PV → Sto → Prop} {QX : String → Sto → Prop} {x : Int} (h : QR (some (xi x)) σ) (h1 : k ≤ R.cells) (h2 : n ≤ R.slots) : Aw Ω M_Mdl_find R (MF Ω R QR QX) k n 40 L [xi x] σ := Aw.iret rfl h h1 h2 d_Mdl_find_40
theorem c_Mdl_find_51 {Ω : Om} {R R' : Room} {F : QF} {k n : Nat} {L st : List PV} {σ : Sto} {QX' : String → Sto → Prop} {Q : Int → Sto → Prop} {a : Nat} {x0 : Int} {x1 : Int} {x2 : Int} {x3 : Int} (hc : MC Ω M_Mdl_fits R' (RI Q) QX' σ [xr (some a), xi x0, xi x1, xi x2, xi x3]) (hk : sK σ a = 13) (hr1 : R'.frames + 1 ≤ R.frames) (hr2 : 8 + (10 + 11) + R'.locals ≤ R.locals) (hb1 : k + R'.cells ≤ R.cells) (hb2 : n + R'.slots ≤ R.slots) (hst : (st.map catP).sum ≤ 8) (kk : ∀ x σ', Q x σ' → Aw Ω M_Mdl_find R F (k + R'.cells) (n + R'.slots) 54 L (xi x :: st) σ') (kx : ∀ E σ', QX' E σ' → Ax Ω M_Mdl_find R F (k + R'.cells) (n + R'.slots) 51 L st σ' E) : Aw Ω M_Mdl_find R F k n 51 L (xi x3 :: xi x2 :: xi x1 :: xi x0 :: xr (some a) :: st) σ :=
  Aw.callV (As := [xi x0, xi x1, xi x2, xi x3]) (stk := xi x3 :: xi x2 :: xi x1 :: xi x0 :: xr (some a) :: st) (nn := 4) 12 M_Mdl_fits hc ok_Mdl_fits rfl (by decide) rfl hk ml_Mdl_330 im_Mdl_fits se_Mdl_fits ⟨hr1, hr2⟩ rfl ⟨hb1, hb2⟩ hst rfl d_Mdl_find_51 (fun r σ' h => by obtain ⟨x, rfl, h⟩ := h; exact kk x σ' h) kx
theorem r_Mdl_find_61 {Ω : Om} {R : Room} {k n : Nat} {L : List PV} {σ : Sto} {QR : Option PV → Sto → Prop} {QX : String → Sto → Prop} {x : Int} (h : QR (some (xi x)) σ) (h1 : k ≤ R.cells) (h2 : n ≤ R.slots) : Aw Ω M_Mdl_find R (MF Ω R QR QX) k n 61 L [xi x] σ := Aw.iret rfl h h1 h2 d_Mdl_find_61
theorem r_Mdl_find_75 {Ω : Om} {R : Room} {k n : Nat} {L : List PV} {σ : Sto} {QR : Option PV → Sto → Prop} {QX : String → Sto → Prop} {x : Int} (h : QR (some (xi x)) σ) (h1 : k ≤ R.cells) (h2 : n ≤ R.slots) : Aw Ω M_Mdl_find R (MF Ω R QR QX) k n 75 L [xi x] σ := Aw.iret rfl h h1 h2 d_Mdl_find_75
theorem e_Mdl_move {Ω : Om} {R : Room} {QR : Option PV → Sto → Prop} {QX : String → Sto → Prop} {σ : Sto} {a0 : Nat} {v1 : Int} {v2 : Int} (h : Aw Ω M_Mdl_move R (MF Ω R QR QX) 0 0 0 [xr (some a0), xi v1, xi v2, xu] [] σ) : MC Ω M_Mdl_move R QR QX σ [xr (some a0), xi v1, xi v2] := MC.body (by decide +kernel) rfl (Nat.le_of_ble_eq_true rfl) rfl h
theorem b_Mdl_move_0 {Ω : Om} {R : Room} {F : QF} {k n : Nat} {σ : Sto} {a0 : Nat} {v1 : Int} {v2 : Int} (h : Aw Ω M_Mdl_move R F k n 3 [xr (some a0), xi v1, xi v2, xu] [xi v1, xr (some a0), xr (some a0)] σ) : Aw Ω M_Mdl_move R F k n 0 [xr (some a0), xi v1, xi v2, xu] [] σ := by
  refine Aw.aload_n rfl d_Mdl_move_0 ?_
  refine Aw.aload_n rfl d_Mdl_move_1 ?_
  refine Aw.iload_n rfl d_Mdl_move_2 ?_
  exact h
theorem b_Mdl_move_6 {Ω : Om} {R : Room} {F : QF} {k n : Nat} {σ : Sto} {a0 : Nat} {v1 : Int} {v2 : Int} {s0 : Nat} {s1 : Int} (h : Q32 s1 ∧ ((s1 = (0 : Int) → Aw Ω M_Mdl_move R F k n 33 [xr (some a0), xi v1, xi v2, xu] [xi 1, xr (some s0)] σ) ∧ (¬ s1 = (0 : Int) → Aw Ω M_Mdl_move R F k n 11 [xr (some a0), xi v1, xi v2, xu] [xi v2, xr (some a0), xr (some s0)] σ))) : Aw Ω M_Mdl_move R F k n 6 [xr (some a0), xi v1, xi v2, xu] [xi s1, xr (some s0)] σ := by
  obtain ⟨o1, h⟩ := h
  obtain ⟨ht, hf⟩ := h
  refine Aw.if_eq (tgt := 17) o1 (by decide) d_Mdl_move_6 (fun c2 => ?_) (fun c2 => ?_)
  · have h := ht c2
    refine Aw.iconst d_Mdl_move_17 ?_
    refine Aw.goto (tgt := 33) (by decide) d_Mdl_move_18 ?_
    exact h
  · have h := hf c2
    refine Aw.aload_n rfl d_Mdl_move_9 ?_
    refine Aw.iload_n rfl d_Mdl_move_10 ?_
    exact h
theorem b_Mdl_move_14 {Ω : Om} {R : Room} {F : QF} {k n : Nat} {σ : Sto} {a0 : Nat} {v1 : Int} {v2 : Int} {s0 : Nat} {s1 : Int} (h : Q32 s1 ∧ ((¬ s1 = (0 : Int) → Aw Ω M_Mdl_move R F k n 22 [xr (some a0), xi v1, xi v2, xu] [xr (some a0), xr (some s0)] σ) ∧ (s1 = (0 : Int) → Aw Ω M_Mdl_move R F k n 33 [xr (some a0), xi v1, xi v2, xu] [xi 1, xr (some s0)] σ))) : Aw Ω M_Mdl_move R F k n 14 [xr (some a0), xi v1, xi v2, xu] [xi s1, xr (some s0)] σ := by
  obtain ⟨o1, h⟩ := h
  obtain ⟨ht, hf⟩ := h
  refine Aw.if_ne (tgt := 21) o1 (by decide) d_Mdl_move_14 (fun c2 => ?_) (fun c2 => ?_)
  · have h := ht c2
    refine Aw.aload_n rfl d_Mdl_move_21 ?_
    exact h
  · have h := hf c2
    refine Aw.iconst d_Mdl_move_17 ?_
    refine Aw.goto (tgt := 33) (by decide) d_Mdl_move_18 ?_
    exact h
theorem b_Mdl_move_36 {Ω : Om} {R : Room} {F : QF} {k n : Nat} {σ : Sto} {a0 : Nat} {v1 : Int} {v2 : Int} {s0 : Int} (h : Q32 s0 ∧ ((¬ s0 = (0 : Int) → Aw Ω M_Mdl_move R F k n 61 [xr (some a0), xi v1, xi v2, xu] [] σ) ∧ (s0 = (0 : Int) → Aw Ω M_Mdl_move R F k n 40 [xr (some a0), xi v1, xi v2, xu] [xr (some a0)] σ))) : Aw Ω M_Mdl_move R F k n 36 [xr (some a0), xi v1, xi v2, xu] [xi s0] σ := by
  obtain ⟨o1, h⟩ := h
  obtain ⟨ht, hf⟩ := h
  refine Aw.if_ne (tgt := 61) o1 (by decide) d_Mdl_move_36 (fun c2 => ?_) (fun c2 => ?_)
  · have h := ht c2
    exact h
  · have h := hf c2
    refine Aw.aload_n rfl d_Mdl_move_39 ?_
    exact h
theorem b_Mdl_move_43 {Ω : Om} {R : Room} {F : QF} {k n : Nat} {σ : Sto} {a0 : Nat} {v1 : Int} {v2 : Int} (h : sK σ a0 = 13 ∧ (∃ b2 : Nat, fR σ 784 a0 = some b2 ∧ sK σ b2 = 50 ∧ 0 ≤ v1 ∧ v1 < sZ σ b2 ∧ (Q32 (aI σ b2 (v1).toNat) → Aw Ω M_Mdl_move R F k n 52 [xr (some a0), xi v1, xi v2, xi (aI σ b2 (v1).toNat)] [xi v1, xr (some a0)] σ))) : Aw Ω M_Mdl_move R F k n 43 [xr (some a0), xi v1, xi v2, xu] [] σ := by
  refine Aw.aload_n rfl d_Mdl_move_43 ?_
  obtain ⟨o1, h⟩ := h
  obtain ⟨b2, e3, h⟩ := h
  refine Aw.getRs (f := 784) 12 16 fl_Mdl_35 (by decide) (by decide) rfl rfl o1 e3 d_Mdl_move_44 ?_
  refine Aw.iload_n rfl d_Mdl_move_47 ?_
  obtain ⟨o4, h⟩ := h
  obtain ⟨o5, o6, h⟩ := h
  refine Aw.iald o4 o5 o6 d_Mdl_move_48 (fun r7 => ?_)
  have h := h r7
  refine Aw.istore_n (by decide) d_Mdl_move_49 ?_
  refine Aw.toL (L' := [xr (some a0), xi v1, xi v2, xi (aI σ b2 (v1).toNat)]) rfl ?_
  refine Aw.aload_n rfl d_Mdl_move_50 ?_
  refine Aw.iload_n rfl d_Mdl_move_51 ?_
  exact h
theorem b_Mdl_move_55 {Ω : Om} {R : Room} {F : QF} {k n : Nat} {σ : Sto} {a0 : Nat} {v1 : Int} {v2 : Int} {v3 : Int} (h : Aw Ω M_Mdl_move R F k n 58 [xr (some a0), xi v1, xi v2, xi v3] [xi v3, xi v2, xr (some a0)] σ) : Aw Ω M_Mdl_move R F k n 55 [xr (some a0), xi v1, xi v2, xi v3] [] σ := by
  refine Aw.aload_n rfl d_Mdl_move_55 ?_
  refine Aw.iload_n rfl d_Mdl_move_56 ?_
  refine Aw.iload_n rfl d_Mdl_move_57 ?_
  exact h
theorem b_Mdl_move_25 {Ω : Om} {R : Room} {F : QF} {k n : Nat} {σ : Sto} {a0 : Nat} {v1 : Int} {v2 : Int} {s0 : Nat} {s1 : Int} (h : Q32 s1 ∧ ((s1 = (0 : Int) → Aw Ω M_Mdl_move R F k n 33 [xr (some a0), xi v1, xi v2, xu] [xi 2, xr (some s0)] σ) ∧ (¬ s1 = (0 : Int) → Aw Ω M_Mdl_move R F k n 33 [xr (some a0), xi v1, xi v2, xu] [xi 0, xr (some s0)] σ))) : Aw Ω M_Mdl_move R F k n 25 [xr (some a0), xi v1, xi v2, xu] [xi s1, xr (some s0)] σ := by
  obtain ⟨o1, h⟩ := h
  obtain ⟨ht, hf⟩ := h
  refine Aw.if_eq (tgt := 32) o1 (by decide) d_Mdl_move_25 (fun c2 => ?_) (fun c2 => ?_)
  · have h := ht c2
    refine Aw.iconst d_Mdl_move_32 ?_
    exact h
  · have h := hf c2
    refine Aw.iconst d_Mdl_move_28 ?_
    refine Aw.goto (tgt := 33) (by decide) d_Mdl_move_29 ?_
    exact h
theorem c_Mdl_move_3 {Ω : Om} {R R' : Room} {F : QF} {k n : Nat} {L st : List PV} {σ : Sto} {QX' : String → Sto → Prop} {Q : Int → Sto → Prop} {a : Nat} {x0 : Int} (hc : MC Ω M_Mdl_isPlace R' (RI Q) QX' σ [xr (some a), xi x0]) (hk : sK σ a = 13) (hr1 : R'.frames + 1 ≤ R.frames) (hr2 : 8 + (2 + 11) + R'.locals ≤ R.locals) (hb1 : k + R'.cells ≤ R.cells) (hb2 : n + R'.slots ≤ R.slots) (hst : (st.map catP).sum ≤ 8) (kk : ∀ x σ', Q x σ' → Aw Ω M_Mdl_move R F (k + R'.cells) (n + R'.slots) 6 L (xi x :: st) σ') (kx : ∀ E σ', QX' E σ' → Ax Ω M_Mdl_move R F (k + R'.cells) (n + R'.slots) 3 L st σ' E) : Aw Ω M_Mdl_move R F k n 3 L (xi x0 :: xr (some a) :: st) σ :=
  Aw.callV (As := [xi x0]) (stk := xi x0 :: xr (some a) :: st) (nn := 1) 12 M_Mdl_isPlace hc ok_Mdl_isPlace rfl (by decide) rfl hk ml_Mdl_215 im_Mdl_isPlace se_Mdl_isPlace ⟨hr1, hr2⟩ rfl ⟨hb1, hb2⟩ hst rfl d_Mdl_move_3 (fun r σ' h => by obtain ⟨x, rfl, h⟩ := h; exact kk x σ' h) kx
theorem c_Mdl_move_11 {Ω : Om} {R R' : Room} {F : QF} {k n : Nat} {L st : List PV} {σ : Sto} {QX' : String → Sto → Prop} {Q : Int → Sto → Prop} {a : Nat} {x0 : Int} (hc : MC Ω M_Mdl_isPlace R' (RI Q) QX' σ [xr (some a), xi x0]) (hk : sK σ a = 13) (hr1 : R'.frames + 1 ≤ R.frames) (hr2 : 8 + (2 + 11) + R'.locals ≤ R.locals) (hb1 : k + R'.cells ≤ R.cells) (hb2 : n + R'.slots ≤ R.slots) (hst : (st.map catP).sum ≤ 8) (kk : ∀ x σ', Q x σ' → Aw Ω M_Mdl_move R F (k + R'.cells) (n + R'.slots) 14 L (xi x :: st) σ') (kx : ∀ E σ', QX' E σ' → Ax Ω M_Mdl_move R F (k + R'.cells) (n + R'.slots) 11 L st σ' E) : Aw Ω M_Mdl_move R F k n 11 L (xi x0 :: xr (some a) :: st) σ :=
  Aw.callV (As := [xi x0]) (stk := xi x0 :: xr (some a) :: st) (nn := 1) 12 M_Mdl_isPlace hc ok_Mdl_isPlace rfl (by decide) rfl hk ml_Mdl_215 im_Mdl_isPlace se_Mdl_isPlace ⟨hr1, hr2⟩ rfl ⟨hb1, hb2⟩ hst rfl d_Mdl_move_11 (fun r σ' h => by obtain ⟨x, rfl, h⟩ := h; exact kk x σ' h) kx
theorem c_Mdl_move_22 {Ω : Om} {R R' : Room} {F : QF} {k n : Nat} {L st : List PV} {σ : Sto} {QX' : String → Sto → Prop} {Q : Int → Sto → Prop} {a : Nat} (hc : MC Ω M_Mdl_isSettled R' (RI Q) QX' σ [xr (some a)]) (hk : sK σ a = 13) (hr1 : R'.frames + 1 ≤ R.frames) (hr2 : 8 + (1 + 11) + R'.locals ≤ R.locals) (hb1 : k + R'.cells ≤ R.cells) (hb2 : n + R'.slots ≤ R.slots) (hst : (st.map catP).sum ≤ 8) (kk : ∀ x σ', Q x σ' → Aw Ω M_Mdl_move R F (k + R'.cells) (n + R'.slots) 25 L (xi x :: st) σ') (kx : ∀ E σ', QX' E σ' → Ax Ω M_Mdl_move R F (k + R'.cells) (n + R'.slots) 22 L st σ' E) : Aw Ω M_Mdl_move R F k n 22 L (xr (some a) :: st) σ :=
  Aw.callV (As := []) (stk := xr (some a) :: st) (nn := 0) 12 M_Mdl_isSettled hc ok_Mdl_isSettled rfl (by decide) rfl hk ml_Mdl_201 im_Mdl_isSettled se_Mdl_isSettled ⟨hr1, hr2⟩ rfl ⟨hb1, hb2⟩ hst rfl d_Mdl_move_22 (fun r σ' h => by obtain ⟨x, rfl, h⟩ := h; exact kk x σ' h) kx
theorem c_Mdl_move_33 {Ω : Om} {R R' : Room} {F : QF} {k n : Nat} {L st : List PV} {σ : Sto} {QX' : String → Sto → Prop} {Q : Int → Sto → Prop} {a : Nat} {x0 : Int} (hc : MC Ω M_Mdl_refused R' (RI Q) QX' σ [xr (some a), xi x0]) (hk : sK σ a = 13) (hr1 : R'.frames + 1 ≤ R.frames) (hr2 : 8 + (2 + 11) + R'.locals ≤ R.locals) (hb1 : k + R'.cells ≤ R.cells) (hb2 : n + R'.slots ≤ R.slots) (hst : (st.map catP).sum ≤ 8) (kk : ∀ x σ', Q x σ' → Aw Ω M_Mdl_move R F (k + R'.cells) (n + R'.slots) 36 L (xi x :: st) σ') (kx : ∀ E σ', QX' E σ' → Ax Ω M_Mdl_move R F (k + R'.cells) (n + R'.slots) 33 L st σ' E) : Aw Ω M_Mdl_move R F k n 33 L (xi x0 :: xr (some a) :: st) σ :=
  Aw.callV (As := [xi x0]) (stk := xi x0 :: xr (some a) :: st) (nn := 1) 12 M_Mdl_refused hc ok_Mdl_refused rfl (by decide) rfl hk ml_Mdl_151 im_Mdl_refused se_Mdl_refused ⟨hr1, hr2⟩ rfl ⟨hb1, hb2⟩ hst rfl d_Mdl_move_33 (fun r σ' h => by obtain ⟨x, rfl, h⟩ := h; exact kk x σ' h) kx
theorem c_Mdl_move_40 {Ω : Om} {R R' : Room} {F : QF} {k n : Nat} {L st : List PV} {σ : Sto} {QX' : String → Sto → Prop} {Q : Sto → Prop} {a : Nat} (hc : MC Ω M_Mdl_remember R' (RV Q) QX' σ [xr (some a)]) (hk : sK σ a = 13) (hr1 : R'.frames + 1 ≤ R.frames) (hr2 : 8 + (2 + 11) + R'.locals ≤ R.locals) (hb1 : k + R'.cells ≤ R.cells) (hb2 : n + R'.slots ≤ R.slots) (hst : (st.map catP).sum ≤ 8) (kk : ∀ σ', Q σ' → Aw Ω M_Mdl_move R F (k + R'.cells) (n + R'.slots) 43 L st σ') (kx : ∀ E σ', QX' E σ' → Ax Ω M_Mdl_move R F (k + R'.cells) (n + R'.slots) 40 L st σ' E) : Aw Ω M_Mdl_move R F k n 40 L (xr (some a) :: st) σ :=
  Aw.callV (As := []) (stk := xr (some a) :: st) (nn := 0) 12 M_Mdl_remember hc ok_Mdl_remember rfl (by decide) rfl hk ml_Mdl_205 im_Mdl_remember se_Mdl_remember ⟨hr1, hr2⟩ rfl ⟨hb1, hb2⟩ hst rfl d_Mdl_move_40 (fun r σ' h => by obtain ⟨rfl, h⟩ := h; exact kk σ' h) kx
theorem c_Mdl_move_52 {Ω : Om} {R R' : Room} {F : QF} {k n : Nat} {L st : List PV} {σ : Sto} {QX' : String → Sto → Prop} {Q : Sto → Prop} {a : Nat} {x0 : Int} (hc : MC Ω M_Mdl_takeAt R' (RV Q) QX' σ [xr (some a), xi x0]) (hk : sK σ a = 13) (hr1 : R'.frames + 1 ≤ R.frames) (hr2 : 8 + (3 + 11) + R'.locals ≤ R.locals) (hb1 : k + R'.cells ≤ R.cells) (hb2 : n + R'.slots ≤ R.slots) (hst : (st.map catP).sum ≤ 8) (kk : ∀ σ', Q σ' → Aw Ω M_Mdl_move R F (k + R'.cells) (n + R'.slots) 55 L st σ') (kx : ∀ E σ', QX' E σ' → Ax Ω M_Mdl_move R F (k + R'.cells) (n + R'.slots) 52 L st σ' E) : Aw Ω M_Mdl_move R F k n 52 L (xi x0 :: xr (some a) :: st) σ :=
  Aw.callV (As := [xi x0]) (stk := xi x0 :: xr (some a) :: st) (nn := 1) 12 M_Mdl_takeAt hc ok_Mdl_takeAt rfl (by decide) rfl hk ml_Mdl_218 im_Mdl_takeAt se_Mdl_takeAt ⟨hr1, hr2⟩ rfl ⟨hb1, hb2⟩ hst rfl d_Mdl_move_52 (fun r σ' h => by obtain ⟨rfl, h⟩ := h; exact kk σ' h) kx
theorem c_Mdl_move_58 {Ω : Om} {R R' : Room} {F : QF} {k n : Nat} {L st : List PV} {σ : Sto} {QX' : String → Sto → Prop} {Q : Sto → Prop} {a : Nat} {x0 : Int} {x1 : Int} (hc : MC Ω M_Mdl_putAt R' (RV Q) QX' σ [xr (some a), xi x0, xi x1]) (hk : sK σ a = 13) (hr1 : R'.frames + 1 ≤ R.frames) (hr2 : 8 + (4 + 11) + R'.locals ≤ R.locals) (hb1 : k + R'.cells ≤ R.cells) (hb2 : n + R'.slots ≤ R.slots) (hst : (st.map catP).sum ≤ 8) (kk : ∀ σ', Q σ' → Aw Ω M_Mdl_move R F (k + R'.cells) (n + R'.slots) 61 L st σ') (kx : ∀ E σ', QX' E σ' → Ax Ω M_Mdl_move R F (k + R'.cells) (n + R'.slots) 58 L st σ' E) : Aw Ω M_Mdl_move R F k n 58 L (xi x1 :: xi x0 :: xr (some a) :: st) σ :=
  Aw.callV (As := [xi x0, xi x1]) (stk := xi x1 :: xi x0 :: xr (some a) :: st) (nn := 2) 12 M_Mdl_putAt hc ok_Mdl_putAt rfl (by decide) rfl hk ml_Mdl_211 im_Mdl_putAt se_Mdl_putAt ⟨hr1, hr2⟩ rfl ⟨hb1, hb2⟩ hst rfl d_Mdl_move_58 (fun r σ' h => by obtain ⟨rfl, h⟩ := h; exact kk σ' h) kx
theorem r_Mdl_move_61 {Ω : Om} {R : Room} {k n : Nat} {L : List PV} {σ : Sto} {QR : Option PV → Sto → Prop} {QX : String → Sto → Prop} (h : QR none σ) (h1 : k ≤ R.cells) (h2 : n ≤ R.slots) : Aw Ω M_Mdl_move R (MF Ω R QR QX) k n 61 L [] σ := Aw.vret rfl h h1 h2 d_Mdl_move_61
theorem e_Mdl_baseOf {Ω : Om} {R : Room} {QR : Option PV → Sto → Prop} {QX : String → Sto → Prop} {σ : Sto} {a0 : Nat} {v1 : Int} {v2 : Int} (h : Aw Ω M_Mdl_baseOf R (MF Ω R QR QX) 0 0 0 [xr (some a0), xi v1, xi v2, xu, xu, xu, xu] [] σ) : MC Ω M_Mdl_baseOf R QR QX σ [xr (some a0), xi v1, xi v2] := MC.body (by decide +kernel) rfl (Nat.le_of_ble_eq_true rfl) rfl h
theorem b_Mdl_baseOf_0 {Ω : Om} {R : Room} {F : QF} {k n : Nat} {σ : Sto} {a0 : Nat} {v1 : Int} {v2 : Int} (h : Aw Ω M_Mdl_baseOf R F k n 2 [xr (some a0), xi v1, xi v2, xu, xu, xu, xu] [xi v1, xr (some a0)] σ) : Aw Ω M_Mdl_baseOf R F k n 0 [xr (some a0), xi v1, xi v2, xu, xu, xu, xu] [] σ := by
  refine Aw.aload_n rfl d_Mdl_baseOf_0 ?_
  refine Aw.iload_n rfl d_Mdl_baseOf_1 ?_
  exact h
theorem b_Mdl_baseOf_5 {Ω : Om} {R : Room} {F : QF} {k n : Nat} {σ : Sto} {a0 : Nat} {v1 : Int} {v2 : Int} {s0 : Int64} (h : Aw Ω M_Mdl_baseOf R F k n 7 [xr (some a0), xi v1, xi v2, xu, xu, xu, xu] [xi v2, xr (some a0), xl s0] σ) : Aw Ω M_Mdl_baseOf R F k n 5 [xr (some a0), xi v1, xi v2, xu, xu, xu, xu] [xl s0] σ := by
  refine Aw.aload_n rfl d_Mdl_baseOf_5 ?_
  refine Aw.iload_n rfl d_Mdl_baseOf_6 ?_
  exact h
theorem b_Mdl_baseOf_10 {Ω : Om} {R : Room} {F : QF} {k n : Nat} {σ : Sto} {a0 : Nat} {v1 : Int} {v2 : Int} {s0 : Int64} {s1 : Int64} (h : Aw Ω M_Mdl_baseOf R F k n 18 [xr (some a0), xi v1, xi v2, xl (s0 &&& s1), xu, xi 0, xi 0] [] σ) : Aw Ω M_Mdl_baseOf R F k n 10 [xr (some a0), xi v1, xi v2, xu, xu, xu, xu] [xl s1, xl s0] σ := by
  refine Aw.land d_Mdl_baseOf_10 ?_
  refine Aw.lstore_n (by decide) d_Mdl_baseOf_11 ?_
  refine Aw.toL (L' := [xr (some a0), xi v1, xi v2, xl (s0 &&& s1), xu, xu, xu]) rfl ?_
  refine Aw.iconst d_Mdl_baseOf_12 ?_
  refine Aw.istore (by decide) d_Mdl_baseOf_13 ?_
  refine Aw.toL (L' := [xr (some a0), xi v1, xi v2, xl (s0 &&& s1), xu, xi 0, xu]) rfl ?_
  refine Aw.iconst d_Mdl_baseOf_15 ?_
  refine Aw.istore (by decide) d_Mdl_baseOf_16 ?_
  refine Aw.toL (L' := [xr (some a0), xi v1, xi v2, xl (s0 &&& s1), xu, xi 0, xi 0]) rfl ?_
  exact h
theorem b_Mdl_baseOf_18 {Ω : Om} {R : Room} {F : QF} {k n : Nat} {σ : Sto} {a0 : Nat} {v1 : Int} {v2 : Int} {v3 : Int64} {v5 : Int} {v6 : Int} (h : sK σ a0 = 13 ∧ (Q32 (fI σ 773 a0) → Q32 v6 ∧ (((fI σ 773 a0) ≤ v6 → Aw Ω M_Mdl_baseOf R F k n 55 [xr (some a0), xi v1, xi v2, xl v3, xu, xi v5, xi v6] [xi v5] σ) ∧ (¬ (fI σ 773 a0) ≤ v6 → Q32 (cmpL ((lShr v3 v6) &&& 1) 1) ∧ ((¬ (cmpL ((lShr v3 v6) &&& 1) 1) = (0 : Int) → Aw Ω M_Mdl_baseOf R F k n 18 [xr (some a0), xi v1, xi v2, xl v3, xu, xi v5, xi (v6 + 1)] [] σ) ∧ ((cmpL ((lShr v3 v6) &&& 1) 1) = (0 : Int) → Aw Ω M_Mdl_baseOf R F k n 18 [xr (some a0), xi v1, xi v2, xl v3, xu, xi v6, xi (v6 + 1)] [] σ)))))) : Aw Ω M_Mdl_baseOf R F k n 18 [xr (some a0), xi v1, xi v2, xl v3, xu, xi v5, xi v6] [] σ := by
  refine Aw.iload rfl d_Mdl_baseOf_18 ?_
  refine Aw.aload_n rfl d_Mdl_baseOf_20 ?_
  obtain ⟨o1, h⟩ := h
  refine Aw.getI (f := 773) 12 5 fl_Mdl_123 (by decide) (by decide) rfl rfl o1 d_Mdl_baseOf_21 (fun r2 => ?_)
  have h := h r2
  obtain ⟨o3, h⟩ := h
  obtain ⟨ht, hf⟩ := h
  refine Aw.icmp_ge (tgt := 53) o3 r2 (by decide) d_Mdl_baseOf_24 (fun c6 => ?_) (fun c6 => ?_)
  · have h := ht c6
    refine Aw.iload rfl d_Mdl_baseOf_53 ?_
    exact h
  · have h := hf c6
    refine Aw.lload_n rfl d_Mdl_baseOf_27 ?_
    refine Aw.iload rfl d_Mdl_baseOf_28 ?_
    refine Aw.lshr d_Mdl_baseOf_30 ?_
    refine Aw.lconst (w := 1) (by decide) d_Mdl_baseOf_31 ?_
    refine Aw.land d_Mdl_baseOf_32 ?_
    refine Aw.lconst (w := 1) (by decide) d_Mdl_baseOf_33 ?_
    refine Aw.lcmp d_Mdl_baseOf_34 ?_
    obtain ⟨o4, h⟩ := h
    obtain ⟨ht, hf⟩ := h
    refine Aw.if_ne (tgt := 43) o4 (by decide) d_Mdl_baseOf_35 (fun c5 => ?_) (fun c5 => ?_)
    · have h := ht c5
      refine Aw.iload rfl d_Mdl_baseOf_43 ?_
      refine Aw.istore (by decide) d_Mdl_baseOf_45 ?_
      refine Aw.toL (L' := [xr (some a0), xi v1, xi v2, xl v3, xu, xi v5, xi v6]) rfl ?_
      refine Aw.iinc rfl d_Mdl_baseOf_47 ?_
      refine Aw.toL (L' := [xr (some a0), xi v1, xi v2, xl v3, xu, xi v5, xi (v6 + 1)]) rfl ?_
      refine Aw.goto (tgt := 18) (by decide) d_Mdl_baseOf_50 ?_
      exact h
    · have h := hf c5
      refine Aw.iload rfl d_Mdl_baseOf_38 ?_
      refine Aw.goto (tgt := 45) (by decide) d_Mdl_baseOf_40 ?_
      refine Aw.istore (by decide) d_Mdl_baseOf_45 ?_
      refine Aw.toL (L' := [xr (some a0), xi v1, xi v2, xl v3, xu, xi v6, xi v6]) rfl ?_
      refine Aw.iinc rfl d_Mdl_baseOf_47 ?_
      refine Aw.toL (L' := [xr (some a0), xi v1, xi v2, xl v3, xu, xi v6, xi (v6 + 1)]) rfl ?_
      refine Aw.goto (tgt := 18) (by decide) d_Mdl_baseOf_50 ?_
      exact h
theorem c_Mdl_baseOf_2 {Ω : Om} {R R' : Room} {F : QF} {k n : Nat} {L st : List PV} {σ : Sto} {QX' : String → Sto → Prop} {Q : Int64 → Sto → Prop} {a : Nat} {x0 : Int} (hc : MC Ω M_Mdl_family R' (RL Q) QX' σ [xr (some a), xi x0]) (hk : sK σ a = 13) (hr1 : R'.frames + 1 ≤ R.frames) (hr2 : 8 + (5 + 11) + R'.locals ≤ R.locals) (hb1 : k + R'.cells ≤ R.cells) (hb2 : n + R'.slots ≤ R.slots) (hst : (st.map catP).sum ≤ 8) (kk : ∀ x σ', Q x σ' → Aw Ω M_Mdl_baseOf R F (k + R'.cells) (n + R'.slots) 5 L (xl x :: st) σ') (kx : ∀ E σ', QX' E σ' → Ax Ω M_Mdl_baseOf R F (k + R'.cells) (n + R'.slots) 2 L st σ' E) : Aw Ω M_Mdl_baseOf R F k n 2 L (xi x0 :: xr (some a) :: st) σ :=
  Aw.callV (As := [xi x0]) (stk := xi x0 :: xr (some a) :: st) (nn := 1) 12 M_Mdl_family hc ok_Mdl_family rfl (by decide) rfl hk ml_Mdl_234 im_Mdl_family se_Mdl_family ⟨hr1, hr2⟩ rfl ⟨hb1, hb2⟩ hst rfl d_Mdl_baseOf_2 (fun r σ' h => by obtain ⟨x, rfl, h⟩ := h; exact kk x σ' h) kx
theorem c_Mdl_baseOf_7 {Ω : Om} {R R' : Room} {F : QF} {k n : Nat} {L st : List PV} {σ : Sto} {QX' : String → Sto → Prop} {Q : Int64 → Sto → Prop} {a : Nat} {x0 : Int} (hc : MC Ω M_Mdl_family R' (RL Q) QX' σ [xr (some a), xi x0]) (hk : sK σ a = 13) (hr1 : R'.frames + 1 ≤ R.frames) (hr2 : 8 + (5 + 11) + R'.locals ≤ R.locals) (hb1 : k + R'.cells ≤ R.cells) (hb2 : n + R'.slots ≤ R.slots) (hst : (st.map catP).sum ≤ 8) (kk : ∀ x σ', Q x σ' → Aw Ω M_Mdl_baseOf R F (k + R'.cells) (n + R'.slots) 10 L (xl x :: st) σ') (kx : ∀ E σ', QX' E σ' → Ax Ω M_Mdl_baseOf R F (k + R'.cells) (n + R'.slots) 7 L st σ' E) : Aw Ω M_Mdl_baseOf R F k n 7 L (xi x0 :: xr (some a) :: st) σ :=
  Aw.callV (As := [xi x0]) (stk := xi x0 :: xr (some a) :: st) (nn := 1) 12 M_Mdl_family hc ok_Mdl_family rfl (by decide) rfl hk ml_Mdl_234 im_Mdl_family se_Mdl_family ⟨hr1, hr2⟩ rfl ⟨hb1, hb2⟩ hst rfl d_Mdl_baseOf_7 (fun r σ' h => by obtain ⟨x, rfl, h⟩ := h; exact kk x σ' h) kx
theorem r_Mdl_baseOf_55 {Ω : Om} {R : Room} {k n : Nat} {L : List PV} {σ : Sto} {QR : Option PV → Sto → Prop} {QX : String → Sto → Prop} {x : Int} (h : QR (some (xi x)) σ) (h1 : k ≤ R.cells) (h2 : n ≤ R.slots) : Aw Ω M_Mdl_baseOf R (MF Ω R QR QX) k n 55 L [xi x] σ := Aw.iret rfl h h1 h2 d_Mdl_baseOf_55
theorem e_Mdl_id {Ω : Om} {R : Room} {QR : Option PV → Sto → Prop} {QX : String → Sto → Prop} {σ : Sto} {a0 : Nat} {v1 : Int64} {v3 : Int} {v4 : Int} (h : Aw Ω M_Mdl_id R (MF Ω R QR QX) 0 0 0 [xr (some a0), xl v1, xu, xi v3, xi v4] [] σ) : MC Ω M_Mdl_id R QR QX σ [xr (some a0), xl v1, xi v3, xi v4] := MC.body (by decide +kernel) rfl (Nat.le_of_ble_eq_true rfl) rfl h
theorem b_Mdl_id_0 {Ω : Om} {R : Room} {F : QF} {k n : Nat} {σ : Sto} {a0 : Nat} {v1 : Int64} {v3 : Int} {v4 : Int} (h : sK σ a0 = 13 ∧ (∃ b2 : Nat, fR σ 770 a0 = some b2 ∧ (Q32 (fI σ 769 a0) → sK σ b2 = 51 ∧ 0 ≤ (fI σ 769 a0) ∧ (fI σ 769 a0) < sZ σ b2 ∧ (∃ b8 : Nat, fR σ 771 a0 = some b8 ∧ (Q32 (fI σ 769 a0) → sK σ b8 = 50 ∧ 0 ≤ (fI σ 769 a0) ∧ (fI σ 769 a0) < sZ σ b8 ∧ Q32 v3 ∧ (∃ b15 : Nat, fR σ 772 a0 = some b15 ∧ (Q32 (fI σ 769 a0) → sK σ b15 = 50 ∧ 0 ≤ (fI σ 769 a0) ∧ (fI σ 769 a0) < sZ σ b15 ∧ Q32 v4 ∧ (Q32 (fI σ 769 a0) → Q32 ((fI σ 769 a0) + 1) ∧ Aw Ω M_Mdl_id R F k n 41 [xr (some a0), xl v1, xu, xi v3, xi v4] [] (uI (vI (vI (vL σ b2 (fI σ 769 a0).toNat v1) b8 (fI σ 769 a0).toNat v3) b15 (fI σ 769 a0).toNat v4) 769 a0 ((fI σ 769 a0) + 1)))))))))) : Aw Ω M_Mdl_id R F k n 0 [xr (some a0), xl v1, xu, xi v3, xi v4] [] σ := by
  refine Aw.aload_n rfl d_Mdl_id_0 ?_
  obtain ⟨o1, h⟩ := h
  obtain ⟨b2, e3, h⟩ := h
  refine Aw.getRs (f := 770) 12 2 fl_Mdl_7 (by decide) (by decide) rfl rfl o1 e3 d_Mdl_id_1 ?_
  refine Aw.aload_n rfl d_Mdl_id_4 ?_
  refine Aw.getI (f := 769) 12 1 fl_Mdl_159 (by decide) (by decide) rfl rfl o1 d_Mdl_id_5 (fun r4 => ?_)
  have h := h r4
  refine Aw.lload_n rfl d_Mdl_id_8 ?_
  obtain ⟨o5, h⟩ := h
  obtain ⟨o6, o7, h⟩ := h
  refine Aw.last o5 o6 o7 d_Mdl_id_9 ?_
  refine Aw.aload_n rfl d_Mdl_id_10 ?_
  obtain ⟨b8, e9, h⟩ := h
  refine Aw.getRs (f := 771) 12 3 fl_Mdl_13 (by decide) (by decide) rfl rfl o1 e9 d_Mdl_id_11 ?_
  refine Aw.aload_n rfl d_Mdl_id_14 ?_
  refine Aw.getI (f := 769) 12 1 fl_Mdl_159 (by decide) (by decide) rfl rfl o1 d_Mdl_id_15 (fun r10 => ?_)
  have h := h r10
  refine Aw.iload_n rfl d_Mdl_id_18 ?_
  obtain ⟨o11, h⟩ := h
  obtain ⟨o12, o13, h⟩ := h
  obtain ⟨o14, h⟩ := h
  refine Aw.iast o11 o12 o13 o14 d_Mdl_id_19 ?_
  refine Aw.aload_n rfl d_Mdl_id_20 ?_
  obtain ⟨b15, e16, h⟩ := h
  refine Aw.getRs (f := 772) 12 4 fl_Mdl_17 (by decide) (by decide) rfl rfl o1 e16 d_Mdl_id_21 ?_
  refine Aw.aload_n rfl d_Mdl_id_24 ?_
  refine Aw.getI (f := 769) 12 1 fl_Mdl_159 (by decide) (by decide) rfl rfl o1 d_Mdl_id_25 (fun r17 => ?_)
  have h := h r17
  refine Aw.iload rfl d_Mdl_id_28 ?_
  obtain ⟨o18, h⟩ := h
  obtain ⟨o19, o20, h⟩ := h
  obtain ⟨o21, h⟩ := h
  refine Aw.iast o18 o19 o20 o21 d_Mdl_id_30 ?_
  refine Aw.aload_n rfl d_Mdl_id_31 ?_
  refine Aw.dup rfl d_Mdl_id_32 ?_
  refine Aw.getI (f := 769) 12 1 fl_Mdl_159 (by decide) (by decide) rfl rfl o1 d_Mdl_id_33 (fun r22 => ?_)
  have h := h r22
  refine Aw.iconst d_Mdl_id_36 ?_
  refine Aw.iadd d_Mdl_id_37 ?_
  obtain ⟨o23, h⟩ := h
  refine Aw.putI (f := 769) 12 1 fl_Mdl_159 (by decide) (by decide) rfl rfl o1 rfl o23 (Or.inl rfl) d_Mdl_id_38 ?_
  exact h
theorem b_Mdl_id_41 {Ω : Om} {R : Room} {F : QF} {k n : Nat} {σ : Sto} {a0 : Nat} {v1 : Int64} {v3 : Int} {v4 : Int} (h : sK σ a0 = 13 ∧ (Q32 (fI σ 769 a0) → Aw Ω M_Mdl_id R F k n 47 [xr (some a0), xl v1, xu, xi v3, xi v4] [xi ((fI σ 769 a0) - 1)] σ)) : Aw Ω M_Mdl_id R F k n 41 [xr (some a0), xl v1, xu, xi v3, xi v4] [] σ := by
  refine Aw.aload_n rfl d_Mdl_id_41 ?_
  obtain ⟨o1, h⟩ := h
  refine Aw.getI (f := 769) 12 1 fl_Mdl_159 (by decide) (by decide) rfl rfl o1 d_Mdl_id_42 (fun r2 => ?_)
  have h := h r2
  refine Aw.iconst d_Mdl_id_45 ?_
  refine Aw.isub d_Mdl_id_46 ?_
  exact h
theorem r_Mdl_id_47 {Ω : Om} {R : Room} {k n : Nat} {L : List PV} {σ : Sto} {QR : Option PV → Sto → Prop} {QX : String → Sto → Prop} {x : Int} (h : QR (some (xi x)) σ) (h1 : k ≤ R.cells) (h2 : n ≤ R.slots) : Aw Ω M_Mdl_id R (MF Ω R QR QX) k n 47 L [xi x] σ := Aw.iret rfl h h1 h2 d_Mdl_id_47
theorem e_Mdl_lineOf {Ω : Om} {R : Room} {QR : Option PV → Sto → Prop} {QX : String → Sto → Prop} {σ : Sto} {a0 : Nat} {v1 : Int} {v2 : Int} (h : Aw Ω M_Mdl_lineOf R (MF Ω R QR QX) 0 0 0 [xr (some a0), xi v1, xi v2] [] σ) : MC Ω M_Mdl_lineOf R QR QX σ [xr (some a0), xi v1, xi v2] := MC.body (by decide +kernel) rfl (Nat.le_of_ble_eq_true rfl) rfl h
theorem b_Mdl_lineOf_0 {Ω : Om} {R : Room} {F : QF} {k n : Nat} {σ : Sto} {a0 : Nat} {v1 : Int} {v2 : Int} (h : Aw Ω M_Mdl_lineOf R F k n 4 [xr (some a0), xi v1, xi v2] [xi v2, xi v1, xr (some a0), xr (some a0)] σ) : Aw Ω M_Mdl_lineOf R F k n 0 [xr (some a0), xi v1, xi v2] [] σ := by
  refine Aw.aload_n rfl d_Mdl_lineOf_0 ?_
  refine Aw.aload_n rfl d_Mdl_lineOf_1 ?_
  refine Aw.iload_n rfl d_Mdl_lineOf_2 ?_
  refine Aw.iload_n rfl d_Mdl_lineOf_3 ?_
  exact h
theorem b_Mdl_lineOf_7 {Ω : Om} {R : Room} {F : QF} {k n : Nat} {σ : Sto} {a0 : Nat} {v1 : Int} {v2 : Int} {s0 : Nat} {s1 : Int} (h : Q32 s1 ∧ ((s1 = (0 : Int) → Aw Ω M_Mdl_lineOf R F k n 15 [xr (some a0), xi v1, xi v2] [xi 1, xr (some s0)] σ) ∧ (¬ s1 = (0 : Int) → Aw Ω M_Mdl_lineOf R F k n 15 [xr (some a0), xi v1, xi v2] [xi 0, xr (some s0)] σ))) : Aw Ω M_Mdl_lineOf R F k n 7 [xr (some a0), xi v1, xi v2] [xi s1, xr (some s0)] σ := by
  obtain ⟨o1, h⟩ := h
  obtain ⟨ht, hf⟩ := h
  refine Aw.if_eq (tgt := 14) o1 (by decide) d_Mdl_lineOf_7 (fun c2 => ?_) (fun c2 => ?_)
  · have h := ht c2
    refine Aw.iconst d_Mdl_lineOf_14 ?_
    exact h
  · have h := hf c2
    refine Aw.iconst d_Mdl_lineOf_10 ?_
    refine Aw.goto (tgt := 15) (by decide) d_Mdl_lineOf_11 ?_
    exact h
theorem b_Mdl_lineOf_18 {Ω : Om} {R : Room} {F : QF} {k n : Nat} {σ : Sto} {a0 : Nat} {v1 : Int} {v2 : Int} {s0 : Int} (h : Q32 s0 ∧ ((s0 = (0 : Int) → sK σ a0 = 13 ∧ (∃ b3 : Nat, fR σ 770 a0 = some b3 ∧ (∃ b5 : Nat, fR σ 775 a0 = some b5 ∧ sK σ b5 = 50 ∧ 0 ≤ ((20 * v1) + v2) ∧ ((20 * v1) + v2) < sZ σ b5 ∧ (Q32 (aI σ b5 ((20 * v1) + v2).toNat) → sK σ b3 = 51 ∧ 0 ≤ (aI σ b5 ((20 * v1) + v2).toNat) ∧ (aI σ b5 ((20 * v1) + v2).toNat) < sZ σ b3 ∧ Aw Ω M_Mdl_lineOf R F k n 41 [xr (some a0), xi v1, xi v2] [xl (aL σ b3 (aI σ b5 ((20 * v1) + v2).toNat).toNat)] σ)))) ∧ (¬ s0 = (0 : Int) → Aw Ω M_Mdl_lineOf R F k n 41 [xr (some a0), xi v1, xi v2] [xl 0] σ))) : Aw Ω M_Mdl_lineOf R F k n 18 [xr (some a0), xi v1, xi v2] [xi s0] σ := by
  obtain ⟨o1, h⟩ := h
  obtain ⟨ht, hf⟩ := h
  refine Aw.if_eq (tgt := 25) o1 (by decide) d_Mdl_lineOf_18 (fun c14 => ?_) (fun c14 => ?_)
  · have h := ht c14
    refine Aw.aload_n rfl d_Mdl_lineOf_25 ?_
    obtain ⟨o2, h⟩ := h
    obtain ⟨b3, e4, h⟩ := h
    refine Aw.getRs (f := 770) 12 2 fl_Mdl_7 (by decide) (by decide) rfl rfl o2 e4 d_Mdl_lineOf_26 ?_
    refine Aw.aload_n rfl d_Mdl_lineOf_29 ?_
    obtain ⟨b5, e6, h⟩ := h
    refine Aw.getRs (f := 775) 12 7 fl_Mdl_23 (by decide) (by decide) rfl rfl o2 e6 d_Mdl_lineOf_30 ?_
    refine Aw.bipush (by decide) d_Mdl_lineOf_33 ?_
    refine Aw.iload_n rfl d_Mdl_lineOf_35 ?_
    refine Aw.imul d_Mdl_lineOf_36 ?_
    refine Aw.iload_n rfl d_Mdl_lineOf_37 ?_
    refine Aw.iadd d_Mdl_lineOf_38 ?_
    obtain ⟨o7, h⟩ := h
    obtain ⟨o8, o9, h⟩ := h
    refine Aw.iald o7 o8 o9 d_Mdl_lineOf_39 (fun r10 => ?_)
    have h := h r10
    obtain ⟨o11, h⟩ := h
    obtain ⟨o12, o13, h⟩ := h
    refine Aw.lald o11 o12 o13 d_Mdl_lineOf_40 ?_
    exact h
  · have h := hf c14
    refine Aw.lconst (w := 0) (by decide) d_Mdl_lineOf_21 ?_
    refine Aw.goto (tgt := 41) (by decide) d_Mdl_lineOf_22 ?_
    exact h
theorem c_Mdl_lineOf_4 {Ω : Om} {R R' : Room} {F : QF} {k n : Nat} {L st : List PV} {σ : Sto} {QX' : String → Sto → Prop} {Q : Int → Sto → Prop} {a : Nat} {x0 : Int} {x1 : Int} (hc : MC Ω M_Mdl_isLineOf R' (RI Q) QX' σ [xr (some a), xi x0, xi x1]) (hk : sK σ a = 13) (hr1 : R'.frames + 1 ≤ R.frames) (hr2 : 8 + (3 + 11) + R'.locals ≤ R.locals) (hb1 : k + R'.cells ≤ R.cells) (hb2 : n + R'.slots ≤ R.slots) (hst : (st.map catP).sum ≤ 8) (kk : ∀ x σ', Q x σ' → Aw Ω M_Mdl_lineOf R F (k + R'.cells) (n + R'.slots) 7 L (xi x :: st) σ') (kx : ∀ E σ', QX' E σ' → Ax Ω M_Mdl_lineOf R F (k + R'.cells) (n + R'.slots) 4 L st σ' E) : Aw Ω M_Mdl_lineOf R F k n 4 L (xi x1 :: xi x0 :: xr (some a) :: st) σ :=
  Aw.callV (As := [xi x0, xi x1]) (stk := xi x1 :: xi x0 :: xr (some a) :: st) (nn := 2) 12 M_Mdl_isLineOf hc ok_Mdl_isLineOf rfl (by decide) rfl hk ml_Mdl_226 im_Mdl_isLineOf se_Mdl_isLineOf ⟨hr1, hr2⟩ rfl ⟨hb1, hb2⟩ hst rfl d_Mdl_lineOf_4 (fun r σ' h => by obtain ⟨x, rfl, h⟩ := h; exact kk x σ' h) kx
theorem c_Mdl_lineOf_15 {Ω : Om} {R R' : Room} {F : QF} {k n : Nat} {L st : List PV} {σ : Sto} {QX' : String → Sto → Prop} {Q : Int → Sto → Prop} {a : Nat} {x0 : Int} (hc : MC Ω M_Mdl_refused R' (RI Q) QX' σ [xr (some a), xi x0]) (hk : sK σ a = 13) (hr1 : R'.frames + 1 ≤ R.frames) (hr2 : 8 + (2 + 11) + R'.locals ≤ R.locals) (hb1 : k + R'.cells ≤ R.cells) (hb2 : n + R'.slots ≤ R.slots) (hst : (st.map catP).sum ≤ 8) (kk : ∀ x σ', Q x σ' → Aw Ω M_Mdl_lineOf R F (k + R'.cells) (n + R'.slots) 18 L (xi x :: st) σ') (kx : ∀ E σ', QX' E σ' → Ax Ω M_Mdl_lineOf R F (k + R'.cells) (n + R'.slots) 15 L st σ' E) : Aw Ω M_Mdl_lineOf R F k n 15 L (xi x0 :: xr (some a) :: st) σ :=
  Aw.callV (As := [xi x0]) (stk := xi x0 :: xr (some a) :: st) (nn := 1) 12 M_Mdl_refused hc ok_Mdl_refused rfl (by decide) rfl hk ml_Mdl_151 im_Mdl_refused se_Mdl_refused ⟨hr1, hr2⟩ rfl ⟨hb1, hb2⟩ hst rfl d_Mdl_lineOf_15 (fun r σ' h => by obtain ⟨x, rfl, h⟩ := h; exact kk x σ' h) kx
theorem r_Mdl_lineOf_41 {Ω : Om} {R : Room} {k n : Nat} {L : List PV} {σ : Sto} {QR : Option PV → Sto → Prop} {QX : String → Sto → Prop} {x : Int64} (h : QR (some (xl x)) σ) (h1 : k ≤ R.cells) (h2 : n ≤ R.slots) : Aw Ω M_Mdl_lineOf R (MF Ω R QR QX) k n 41 L [xl x] σ := Aw.lret rfl h h1 h2 d_Mdl_lineOf_41
theorem e_Mdl_likeness {Ω : Om} {R : Room} {QR : Option PV → Sto → Prop} {QX : String → Sto → Prop} {σ : Sto} {a0 : Nat} {v1 : Int64} {v3 : Int64} (h : Aw Ω M_Mdl_likeness R (MF Ω R QR QX) 0 0 0 [xr (some a0), xl v1, xu, xl v3, xu] [] σ) : MC Ω M_Mdl_likeness R QR QX σ [xr (some a0), xl v1, xl v3] := MC.body (by decide +kernel) rfl (Nat.le_of_ble_eq_true rfl) rfl h
theorem b_Mdl_likeness_0 {Ω : Om} {R : Room} {F : QF} {k n : Nat} {σ : Sto} {a0 : Nat} {v1 : Int64} {v3 : Int64} (h : Aw Ω M_Mdl_likeness R F k n 2 [xr (some a0), xl v1, xu, xl v3, xu] [xl v1, xr (some a0)] σ) : Aw Ω M_Mdl_likeness R F k n 0 [xr (some a0), xl v1, xu, xl v3, xu] [] σ := by
  refine Aw.aload_n rfl d_Mdl_likeness_0 ?_
  refine Aw.lload_n rfl d_Mdl_likeness_1 ?_
  exact h
theorem b_Mdl_likeness_5 {Ω : Om} {R : Room} {F : QF} {k n : Nat} {σ : Sto} {a0 : Nat} {v1 : Int64} {v3 : Int64} {s0 : Nat} {s1 : Int} (h : Q32 s1 ∧ ((s1 = (0 : Int) → Aw Ω M_Mdl_likeness R F k n 20 [xr (some a0), xl v1, xu, xl v3, xu] [xi 1, xr (some s0)] σ) ∧ (¬ s1 = (0 : Int) → Aw Ω M_Mdl_likeness R F k n 9 [xr (some a0), xl v1, xu, xl v3, xu] [xl v3, xr (some s0)] σ))) : Aw Ω M_Mdl_likeness R F k n 5 [xr (some a0), xl v1, xu, xl v3, xu] [xi s1, xr (some s0)] σ := by
  obtain ⟨o1, h⟩ := h
  obtain ⟨ht, hf⟩ := h
  refine Aw.if_eq (tgt := 19) o1 (by decide) d_Mdl_likeness_5 (fun c2 => ?_) (fun c2 => ?_)
  · have h := ht c2
    refine Aw.iconst d_Mdl_likeness_19 ?_
    exact h
  · have h := hf c2
    refine Aw.lload_n rfl d_Mdl_likeness_8 ?_
    exact h
theorem b_Mdl_likeness_12 {Ω : Om} {R : Room} {F : QF} {k n : Nat} {σ : Sto} {a0 : Nat} {v1 : Int64} {v3 : Int64} {s0 : Nat} {s1 : Int} (h : Q32 s1 ∧ ((s1 = (0 : Int) → Aw Ω M_Mdl_likeness R F k n 20 [xr (some a0), xl v1, xu, xl v3, xu] [xi 1, xr (some s0)] σ) ∧ (¬ s1 = (0 : Int) → Aw Ω M_Mdl_likeness R F k n 20 [xr (some a0), xl v1, xu, xl v3, xu] [xi 0, xr (some s0)] σ))) : Aw Ω M_Mdl_likeness R F k n 12 [xr (some a0), xl v1, xu, xl v3, xu] [xi s1, xr (some s0)] σ := by
  obtain ⟨o1, h⟩ := h
  obtain ⟨ht, hf⟩ := h
  refine Aw.if_eq (tgt := 19) o1 (by decide) d_Mdl_likeness_12 (fun c2 => ?_) (fun c2 => ?_)
  · have h := ht c2
    refine Aw.iconst d_Mdl_likeness_19 ?_
    exact h
  · have h := hf c2
    refine Aw.iconst d_Mdl_likeness_15 ?_
    refine Aw.goto (tgt := 20) (by decide) d_Mdl_likeness_16 ?_
    exact h
theorem b_Mdl_likeness_23 {Ω : Om} {R : Room} {F : QF} {k n : Nat} {σ : Sto} {a0 : Nat} {v1 : Int64} {v3 : Int64} {s0 : Int} (h : Q32 s0 ∧ ((s0 = (0 : Int) → Aw Ω M_Mdl_likeness R F k n 33 [xr (some a0), xl v1, xu, xl v3, xu] [xl v3, xl v1, xr (some a0)] σ) ∧ (¬ s0 = (0 : Int) → Aw Ω M_Mdl_likeness R F k n 36 [xr (some a0), xl v1, xu, xl v3, xu] [xi 0] σ))) : Aw Ω M_Mdl_likeness R F k n 23 [xr (some a0), xl v1, xu, xl v3, xu] [xi s0] σ := by
  obtain ⟨o1, h⟩ := h
  obtain ⟨ht, hf⟩ := h
  refine Aw.if_eq (tgt := 30) o1 (by decide) d_Mdl_likeness_23 (fun c2 => ?_) (fun c2 => ?_)
  · have h := ht c2
    refine Aw.aload_n rfl d_Mdl_likeness_30 ?_
    refine Aw.lload_n rfl d_Mdl_likeness_31 ?_
    refine Aw.lload_n rfl d_Mdl_likeness_32 ?_
    exact h
  · have h := hf c2
    refine Aw.iconst d_Mdl_likeness_26 ?_
    refine Aw.goto (tgt := 36) (by decide) d_Mdl_likeness_27 ?_
    exact h
theorem c_Mdl_likeness_2 {Ω : Om} {R R' : Room} {F : QF} {k n : Nat} {L st : List PV} {σ : Sto} {QX' : String → Sto → Prop} {Q : Int → Sto → Prop} {x0 : Int64} (hc : MC Ω M_Mdl_isLine R' (RI Q) QX' σ [xl x0]) (hr1 : R'.frames + 1 ≤ R.frames) (hr2 : 8 + (6 + 11) + R'.locals ≤ R.locals) (hb1 : k + R'.cells ≤ R.cells) (hb2 : n + R'.slots ≤ R.slots) (hst : (st.map catP).sum ≤ 8) (kk : ∀ x σ', Q x σ' → Aw Ω M_Mdl_likeness R F (k + R'.cells) (n + R'.slots) 5 L (xi x :: st) σ') (kx : ∀ E σ', QX' E σ' → Ax Ω M_Mdl_likeness R F (k + R'.cells) (n + R'.slots) 2 L st σ' E) : Aw Ω M_Mdl_likeness R F k n 2 L (xl x0 :: st) σ :=
  Aw.callS (As := [xl x0]) (stk := xl x0 :: st) (nn := 1) M_Mdl_isLine hc ok_Mdl_isLine rfl ml_Mdl_147 sta_Mdl_isLine ⟨hr1, hr2⟩ rfl ⟨hb1, hb2⟩ hst rfl d_Mdl_likeness_2 (fun r σ' h => by obtain ⟨x, rfl, h⟩ := h; exact kk x σ' h) kx
theorem c_Mdl_likeness_9 {Ω : Om} {R R' : Room} {F : QF} {k n : Nat} {L st : List PV} {σ : Sto} {QX' : String → Sto → Prop} {Q : Int → Sto → Prop} {x0 : Int64} (hc : MC Ω M_Mdl_isLine R' (RI Q) QX' σ [xl x0]) (hr1 : R'.frames + 1 ≤ R.frames) (hr2 : 8 + (6 + 11) + R'.locals ≤ R.locals) (hb1 : k + R'.cells ≤ R.cells) (hb2 : n + R'.slots ≤ R.slots) (hst : (st.map catP).sum ≤ 8) (kk : ∀ x σ', Q x σ' → Aw Ω M_Mdl_likeness R F (k + R'.cells) (n + R'.slots) 12 L (xi x :: st) σ') (kx : ∀ E σ', QX' E σ' → Ax Ω M_Mdl_likeness R F (k + R'.cells) (n + R'.slots) 9 L st σ' E) : Aw Ω M_Mdl_likeness R F k n 9 L (xl x0 :: st) σ :=
  Aw.callS (As := [xl x0]) (stk := xl x0 :: st) (nn := 1) M_Mdl_isLine hc ok_Mdl_isLine rfl ml_Mdl_147 sta_Mdl_isLine ⟨hr1, hr2⟩ rfl ⟨hb1, hb2⟩ hst rfl d_Mdl_likeness_9 (fun r σ' h => by obtain ⟨x, rfl, h⟩ := h; exact kk x σ' h) kx
theorem c_Mdl_likeness_20 {Ω : Om} {R R' : Room} {F : QF} {k n : Nat} {L st : List PV} {σ : Sto} {QX' : String → Sto → Prop} {Q : Int → Sto → Prop} {a : Nat} {x0 : Int} (hc : MC Ω M_Mdl_refused R' (RI Q) QX' σ [xr (some a), xi x0]) (hk : sK σ a = 13) (hr1 : R'.frames + 1 ≤ R.frames) (hr2 : 8 + (2 + 11) + R'.locals ≤ R.locals) (hb1 : k + R'.cells ≤ R.cells) (hb2 : n + R'.slots ≤ R.slots) (hst : (st.map catP).sum ≤ 8) (kk : ∀ x σ', Q x σ' → Aw Ω M_Mdl_likeness R F (k + R'.cells) (n + R'.slots) 23 L (xi x :: st) σ') (kx : ∀ E σ', QX' E σ' → Ax Ω M_Mdl_likeness R F (k + R'.cells) (n + R'.slots) 20 L st σ' E) : Aw Ω M_Mdl_likeness R F k n 20 L (xi x0 :: xr (some a) :: st) σ :=
  Aw.callV (As := [xi x0]) (stk := xi x0 :: xr (some a) :: st) (nn := 1) 12 M_Mdl_refused hc ok_Mdl_refused rfl (by decide) rfl hk ml_Mdl_151 im_Mdl_refused se_Mdl_refused ⟨hr1, hr2⟩ rfl ⟨hb1, hb2⟩ hst rfl d_Mdl_likeness_20 (fun r σ' h => by obtain ⟨x, rfl, h⟩ := h; exact kk x σ' h) kx
theorem c_Mdl_likeness_33 {Ω : Om} {R R' : Room} {F : QF} {k n : Nat} {L st : List PV} {σ : Sto} {QX' : String → Sto → Prop} {Q : Int → Sto → Prop} {a : Nat} {x0 : Int64} {x1 : Int64} (hc : MC Ω M_Mdl_likenessOf R' (RI Q) QX' σ [xr (some a), xl x0, xl x1]) (hk : sK σ a = 13) (hr1 : R'.frames + 1 ≤ R.frames) (hr2 : 8 + (12 + 11) + R'.locals ≤ R.locals) (hb1 : k + R'.cells ≤ R.cells) (hb2 : n + R'.slots ≤ R.slots) (hst : (st.map catP).sum ≤ 8) (kk : ∀ x σ', Q x σ' → Aw Ω M_Mdl_likeness R F (k + R'.cells) (n + R'.slots) 36 L (xi x :: st) σ') (kx : ∀ E σ', QX' E σ' → Ax Ω M_Mdl_likeness R F (k + R'.cells) (n + R'.slots) 33 L st σ' E) : Aw Ω M_Mdl_likeness R F k n 33 L (xl x1 :: xl x0 :: xr (some a) :: st) σ :=
  Aw.callV (As := [xl x0, xl x1]) (stk := xl x1 :: xl x0 :: xr (some a) :: st) (nn := 2) 12 M_Mdl_likenessOf hc ok_Mdl_likenessOf rfl (by decide) rfl hk ml_Mdl_155 im_Mdl_likenessOf se_Mdl_likenessOf ⟨hr1, hr2⟩ rfl ⟨hb1, hb2⟩ hst rfl d_Mdl_likeness_33 (fun r σ' h => by obtain ⟨x, rfl, h⟩ := h; exact kk x σ' h) kx
theorem r_Mdl_likeness_36 {Ω : Om} {R : Room} {k n : Nat} {L : List PV} {σ : Sto} {QR : Option PV → Sto → Prop} {QX : String → Sto → Prop} {x : Int} (h : QR (some (xi x)) σ) (h1 : k ≤ R.cells) (h2 : n ≤ R.slots) : Aw Ω M_Mdl_likeness R (MF Ω R QR QX) k n 36 L [xi x] σ := Aw.iret rfl h h1 h2 d_Mdl_likeness_36
theorem e_Mdl_movedTo {Ω : Om} {R : Room} {QR : Option PV → Sto → Prop} {QX : String → Sto → Prop} {σ : Sto} {a0 : Nat} {v1 : Int} (h : Aw Ω M_Mdl_movedTo R (MF Ω R QR QX) 0 0 0 [xr (some a0), xi v1] [] σ) : MC Ω M_Mdl_movedTo R QR QX σ [xr (some a0), xi v1] := MC.body (by decide +kernel) rfl (Nat.le_of_ble_eq_true rfl) rfl h
theorem b_Mdl_movedTo_0 {Ω : Om} {R : Room} {F : QF} {k n : Nat} {σ : Sto} {a0 : Nat} {v1 : Int} (h : Aw Ω M_Mdl_movedTo R F k n 3 [xr (some a0), xi v1] [xi v1, xr (some a0), xr (some a0)] σ) : Aw Ω M_Mdl_movedTo R F k n 0 [xr (some a0), xi v1] [] σ := by
  refine Aw.aload_n rfl d_Mdl_movedTo_0 ?_
  refine Aw.aload_n rfl d_Mdl_movedTo_1 ?_
  refine Aw.iload_n rfl d_Mdl_movedTo_2 ?_
  exact h
theorem b_Mdl_movedTo_6 {Ω : Om} {R : Room} {F : QF} {k n : Nat} {σ : Sto} {a0 : Nat} {v1 : Int} {s0 : Nat} {s1 : Int} (h : Q32 s1 ∧ ((s1 = (0 : Int) → Aw Ω M_Mdl_movedTo R F k n 14 [xr (some a0), xi v1] [xi 1, xr (some s0)] σ) ∧ (¬ s1 = (0 : Int) → Aw Ω M_Mdl_movedTo R F k n 14 [xr (some a0), xi v1] [xi 0, xr (some s0)] σ))) : Aw Ω M_Mdl_movedTo R F k n 6 [xr (some a0), xi v1] [xi s1, xr (some s0)] σ := by
  obtain ⟨o1, h⟩ := h
  obtain ⟨ht, hf⟩ := h
  refine Aw.if_eq (tgt := 13) o1 (by decide) d_Mdl_movedTo_6 (fun c2 => ?_) (fun c2 => ?_)
  · have h := ht c2
    refine Aw.iconst d_Mdl_movedTo_13 ?_
    exact h
  · have h := hf c2
    refine Aw.iconst d_Mdl_movedTo_9 ?_
    refine Aw.goto (tgt := 14) (by decide) d_Mdl_movedTo_10 ?_
    exact h
theorem b_Mdl_movedTo_17 {Ω : Om} {R : Room} {F : QF} {k n : Nat} {σ : Sto} {a0 : Nat} {v1 : Int} {s0 : Int} (h : Q32 s0 ∧ ((s0 = (0 : Int) → sK σ a0 = 13 ∧ (∃ b3 : Nat, fR σ 796 a0 = some b3 ∧ sK σ b3 = 50 ∧ 0 ≤ v1 ∧ v1 < sZ σ b3 ∧ (Q32 (aI σ b3 (v1).toNat) → Aw Ω M_Mdl_movedTo R F k n 30 [xr (some a0), xi v1] [xi (aI σ b3 (v1).toNat)] σ))) ∧ (¬ s0 = (0 : Int) → Aw Ω M_Mdl_movedTo R F k n 30 [xr (some a0), xi v1] [xi 0] σ))) : Aw Ω M_Mdl_movedTo R F k n 17 [xr (some a0), xi v1] [xi s0] σ := by
  obtain ⟨o1, h⟩ := h
  obtain ⟨ht, hf⟩ := h
  refine Aw.if_eq (tgt := 24) o1 (by decide) d_Mdl_movedTo_17 (fun c9 => ?_) (fun c9 => ?_)
  · have h := ht c9
    refine Aw.aload_n rfl d_Mdl_movedTo_24 ?_
    obtain ⟨o2, h⟩ := h
    obtain ⟨b3, e4, h⟩ := h
    refine Aw.getRs (f := 796) 12 28 fl_Mdl_56 (by decide) (by decide) rfl rfl o2 e4 d_Mdl_movedTo_25 ?_
    refine Aw.iload_n rfl d_Mdl_movedTo_28 ?_
    obtain ⟨o5, h⟩ := h
    obtain ⟨o6, o7, h⟩ := h
    refine Aw.iald o5 o6 o7 d_Mdl_movedTo_29 (fun r8 => ?_)
    have h := h r8
    exact h
  · have h := hf c9
    refine Aw.iconst d_Mdl_movedTo_20 ?_
    refine Aw.goto (tgt := 30) (by decide) d_Mdl_movedTo_21 ?_
    exact h
theorem c_Mdl_movedTo_3 {Ω : Om} {R R' : Room} {F : QF} {k n : Nat} {L st : List PV} {σ : Sto} {QX' : String → Sto → Prop} {Q : Int → Sto → Prop} {a : Nat} {x0 : Int} (hc : MC Ω M_Mdl_isCompared R' (RI Q) QX' σ [xr (some a), xi x0]) (hk : sK σ a = 13) (hr1 : R'.frames + 1 ≤ R.frames) (hr2 : 8 + (2 + 11) + R'.locals ≤ R.locals) (hb1 : k + R'.cells ≤ R.cells) (hb2 : n + R'.slots ≤ R.slots) (hst : (st.map catP).sum ≤ 8) (kk : ∀ x σ', Q x σ' → Aw Ω M_Mdl_movedTo R F (k + R'.cells) (n + R'.slots) 6 L (xi x :: st) σ') (kx : ∀ E σ', QX' E σ' → Ax Ω M_Mdl_movedTo R F (k + R'.cells) (n + R'.slots) 3 L st σ' E) : Aw Ω M_Mdl_movedTo R F k n 3 L (xi x0 :: xr (some a) :: st) σ :=
  Aw.callV (As := [xi x0]) (stk := xi x0 :: xr (some a) :: st) (nn := 1) 12 M_Mdl_isCompared hc ok_Mdl_isCompared rfl (by decide) rfl hk ml_Mdl_265 im_Mdl_isCompared se_Mdl_isCompared ⟨hr1, hr2⟩ rfl ⟨hb1, hb2⟩ hst rfl d_Mdl_movedTo_3 (fun r σ' h => by obtain ⟨x, rfl, h⟩ := h; exact kk x σ' h) kx
theorem c_Mdl_movedTo_14 {Ω : Om} {R R' : Room} {F : QF} {k n : Nat} {L st : List PV} {σ : Sto} {QX' : String → Sto → Prop} {Q : Int → Sto → Prop} {a : Nat} {x0 : Int} (hc : MC Ω M_Mdl_refused R' (RI Q) QX' σ [xr (some a), xi x0]) (hk : sK σ a = 13) (hr1 : R'.frames + 1 ≤ R.frames) (hr2 : 8 + (2 + 11) + R'.locals ≤ R.locals) (hb1 : k + R'.cells ≤ R.cells) (hb2 : n + R'.slots ≤ R.slots) (hst : (st.map catP).sum ≤ 8) (kk : ∀ x σ', Q x σ' → Aw Ω M_Mdl_movedTo R F (k + R'.cells) (n + R'.slots) 17 L (xi x :: st) σ') (kx : ∀ E σ', QX' E σ' → Ax Ω M_Mdl_movedTo R F (k + R'.cells) (n + R'.slots) 14 L st σ' E) : Aw Ω M_Mdl_movedTo R F k n 14 L (xi x0 :: xr (some a) :: st) σ :=
  Aw.callV (As := [xi x0]) (stk := xi x0 :: xr (some a) :: st) (nn := 1) 12 M_Mdl_refused hc ok_Mdl_refused rfl (by decide) rfl hk ml_Mdl_151 im_Mdl_refused se_Mdl_refused ⟨hr1, hr2⟩ rfl ⟨hb1, hb2⟩ hst rfl d_Mdl_movedTo_14 (fun r σ' h => by obtain ⟨x, rfl, h⟩ := h; exact kk x σ' h) kx
theorem r_Mdl_movedTo_30 {Ω : Om} {R : Room} {k n : Nat} {L : List PV} {σ : Sto} {QR : Option PV → Sto → Prop} {QX : String → Sto → Prop} {x : Int} (h : QR (some (xi x)) σ) (h1 : k ≤ R.cells) (h2 : n ≤ R.slots) : Aw Ω M_Mdl_movedTo R (MF Ω R QR QX) k n 30 L [xi x] σ := Aw.iret rfl h h1 h2 d_Mdl_movedTo_30
theorem e_Mdl_isPlace {Ω : Om} {R : Room} {QR : Option PV → Sto → Prop} {QX : String → Sto → Prop} {σ : Sto} {a0 : Nat} {v1 : Int} (h : Aw Ω M_Mdl_isPlace R (MF Ω R QR QX) 0 0 0 [xr (some a0), xi v1] [] σ) : MC Ω M_Mdl_isPlace R QR QX σ [xr (some a0), xi v1] := MC.body (by decide +kernel) rfl (Nat.le_of_ble_eq_true rfl) rfl h
theorem b_Mdl_isPlace_0 {Ω : Om} {R : Room} {F : QF} {k n : Nat} {σ : Sto} {a0 : Nat} {v1 : Int} (h : sK σ a0 = 13 ∧ (Q32 (fI σ 779 a0) → (((fI σ 779 a0) = (0 : Int) → Aw Ω M_Mdl_isPlace R F k n 26 [xr (some a0), xi v1] [xi 0] σ) ∧ (¬ (fI σ 779 a0) = (0 : Int) → Aw Ω M_Mdl_isPlace R F k n 10 [xr (some a0), xi v1] [xr (some a0), xi 0, xi v1] σ)))) : Aw Ω M_Mdl_isPlace R F k n 0 [xr (some a0), xi v1] [] σ := by
  refine Aw.aload_n rfl d_Mdl_isPlace_0 ?_
  obtain ⟨o1, h⟩ := h
  refine Aw.getI (f := 779) 12 11 fl_Mdl_178 (by decide) (by decide) rfl rfl o1 d_Mdl_isPlace_1 (fun r2 => ?_)
  have h := h r2
  obtain ⟨ht, hf⟩ := h
  refine Aw.if_eq (tgt := 25) r2 (by decide) d_Mdl_isPlace_4 (fun c3 => ?_) (fun c3 => ?_)
  · have h := ht c3
    refine Aw.iconst d_Mdl_isPlace_25 ?_
    exact h
  · have h := hf c3
    refine Aw.iload_n rfl d_Mdl_isPlace_7 ?_
    refine Aw.iconst d_Mdl_isPlace_8 ?_
    refine Aw.aload_n rfl d_Mdl_isPlace_9 ?_
    exact h
theorem b_Mdl_isPlace_13 {Ω : Om} {R : Room} {F : QF} {k n : Nat} {σ : Sto} {a0 : Nat} {v1 : Int} {s0 : Int} {s1 : Int} {s2 : Int} (h : Aw Ω M_Mdl_isPlace R F k n 15 [xr (some a0), xi v1] [xi (s2 - 1), xi s1, xi s0] σ) : Aw Ω M_Mdl_isPlace R F k n 13 [xr (some a0), xi v1] [xi s2, xi s1, xi s0] σ := by
  refine Aw.iconst d_Mdl_isPlace_13 ?_
  refine Aw.isub d_Mdl_isPlace_14 ?_
  exact h
theorem b_Mdl_isPlace_18 {Ω : Om} {R : Room} {F : QF} {k n : Nat} {σ : Sto} {a0 : Nat} {v1 : Int} {s0 : Int} (h : Q32 s0 ∧ ((s0 = (0 : Int) → Aw Ω M_Mdl_isPlace R F k n 26 [xr (some a0), xi v1] [xi 0] σ) ∧ (¬ s0 = (0 : Int) → Aw Ω M_Mdl_isPlace R F k n 26 [xr (some a0), xi v1] [xi 1] σ))) : Aw Ω M_Mdl_isPlace R F k n 18 [xr (some a0), xi v1] [xi s0] σ := by
  obtain ⟨o1, h⟩ := h
  obtain ⟨ht, hf⟩ := h
  refine Aw.if_eq (tgt := 25) o1 (by decide) d_Mdl_isPlace_18 (fun c2 => ?_) (fun c2 => ?_)
  · have h := ht c2
    refine Aw.iconst d_Mdl_isPlace_25 ?_
    exact h
  · have h := hf c2
    refine Aw.iconst d_Mdl_isPlace_21 ?_
    refine Aw.goto (tgt := 26) (by decide) d_Mdl_isPlace_22 ?_
    exact h
theorem c_Mdl_isPlace_10 {Ω : Om} {R R' : Room} {F : QF} {k n : Nat} {L st : List PV} {σ : Sto} {QX' : String → Sto → Prop} {Q : Int → Sto → Prop} {a : Nat} (hc : MC Ω M_Mdl_lineCount R' (RI Q) QX' σ [xr (some a)]) (hk : sK σ a = 13) (hr1 : R'.frames + 1 ≤ R.frames) (hr2 : 8 + (3 + 11) + R'.locals ≤ R.locals) (hb1 : k + R'.cells ≤ R.cells) (hb2 : n + R'.slots ≤ R.slots) (hst : (st.map catP).sum ≤ 8) (kk : ∀ x σ', Q x σ' → Aw Ω M_Mdl_isPlace R F (k + R'.cells) (n + R'.slots) 13 L (xi x :: st) σ') (kx : ∀ E σ', QX' E σ' → Ax Ω M_Mdl_isPlace R F (k + R'.cells) (n + R'.slots) 10 L st σ' E) : Aw Ω M_Mdl_isPlace R F k n 10 L (xr (some a) :: st) σ :=
  Aw.callV (As := []) (stk := xr (some a) :: st) (nn := 0) 12 M_Mdl_lineCount hc ok_Mdl_lineCount rfl (by decide) rfl hk ml_Mdl_197 im_Mdl_lineCount se_Mdl_lineCount ⟨hr1, hr2⟩ rfl ⟨hb1, hb2⟩ hst rfl d_Mdl_isPlace_10 (fun r σ' h => by obtain ⟨x, rfl, h⟩ := h; exact kk x σ' h) kx
theorem c_Mdl_isPlace_15 {Ω : Om} {R R' : Room} {F : QF} {k n : Nat} {L st : List PV} {σ : Sto} {QX' : String → Sto → Prop} {Q : Int → Sto → Prop} {x0 : Int} {x1 : Int} {x2 : Int} (hc : MC Ω M_Mdl_in R' (RI Q) QX' σ [xi x0, xi x1, xi x2]) (hr1 : R'.frames + 1 ≤ R.frames) (hr2 : 8 + (3 + 11) + R'.locals ≤ R.locals) (hb1 : k + R'.cells ≤ R.cells) (hb2 : n + R'.slots ≤ R.slots) (hst : (st.map catP).sum ≤ 8) (kk : ∀ x σ', Q x σ' → Aw Ω M_Mdl_isPlace R F (k + R'.cells) (n + R'.slots) 18 L (xi x :: st) σ') (kx : ∀ E σ', QX' E σ' → Ax Ω M_Mdl_isPlace R F (k + R'.cells) (n + R'.slots) 15 L st σ' E) : Aw Ω M_Mdl_isPlace R F k n 15 L (xi x2 :: xi x1 :: xi x0 :: st) σ :=
  Aw.callS (As := [xi x0, xi x1, xi x2]) (stk := xi x2 :: xi x1 :: xi x0 :: st) (nn := 3) M_Mdl_in hc ok_Mdl_in rfl ml_Mdl_130 sta_Mdl_in ⟨hr1, hr2⟩ rfl ⟨hb1, hb2⟩ hst rfl d_Mdl_isPlace_15 (fun r σ' h => by obtain ⟨x, rfl, h⟩ := h; exact kk x σ' h) kx
theorem r_Mdl_isPlace_26 {Ω : Om} {R : Room} {k n : Nat} {L : List PV} {σ : Sto} {QR : Option PV → Sto → Prop} {QX : String → Sto → Prop} {x : Int} (hx : x = 0 ∨ x = 1) (h : QR (some (xi x)) σ) (h1 : k ≤ R.cells) (h2 : n ≤ R.slots) : Aw Ω M_Mdl_isPlace R (MF Ω R QR QX) k n 26 L [xi x] σ := Aw.zret rfl hx h h1 h2 d_Mdl_isPlace_26
theorem e_Mdl_depth {Ω : Om} {R : Room} {QR : Option PV → Sto → Prop} {QX : String → Sto → Prop} {σ : Sto} {v0 : Int64} (h : Aw Ω M_Mdl_depth R (MF Ω R QR QX) 0 0 0 [xl v0, xu, xu] [] σ) : MC Ω M_Mdl_depth R QR QX σ [xl v0] := MC.body (by decide +kernel) rfl (Nat.le_of_ble_eq_true rfl) rfl h
theorem b_Mdl_depth_0 {Ω : Om} {R : Room} {F : QF} {k n : Nat} {σ : Sto} {v0 : Int64} (h : Aw Ω M_Mdl_depth R F k n 2 [xl v0, xu, xi 0] [] σ) : Aw Ω M_Mdl_depth R F k n 0 [xl v0, xu, xu] [] σ := by
  refine Aw.iconst d_Mdl_depth_0 ?_
  refine Aw.istore_n (by decide) d_Mdl_depth_1 ?_
  refine Aw.toL (L' := [xl v0, xu, xi 0]) rfl ?_
  exact h
theorem b_Mdl_depth_2 {Ω : Om} {R : Room} {F : QF} {k n : Nat} {σ : Sto} {v0 : Int64} {v2 : Int} (h : Aw Ω M_Mdl_depth R F k n 4 [xl v0, xu, xi v2] [xi v2, xl v0] σ) : Aw Ω M_Mdl_depth R F k n 2 [xl v0, xu, xi v2] [] σ := by
  refine Aw.lload_n rfl d_Mdl_depth_2 ?_
  refine Aw.iload_n rfl d_Mdl_depth_3 ?_
  exact h
theorem b_Mdl_depth_7 {Ω : Om} {R : Room} {F : QF} {k n : Nat} {σ : Sto} {v0 : Int64} {v2 : Int} {s0 : Int} (h : Q32 s0 ∧ ((¬ s0 = (32 : Int) → Aw Ω M_Mdl_depth R F k n 19 [xl v0, xu, xi v2] [xi v2] σ) ∧ (s0 = (32 : Int) → Aw Ω M_Mdl_depth R F k n 2 [xl v0, xu, xi (v2 + 1)] [] σ))) : Aw Ω M_Mdl_depth R F k n 7 [xl v0, xu, xi v2] [xi s0] σ := by
  refine Aw.bipush (by decide) d_Mdl_depth_7 ?_
  obtain ⟨o1, h⟩ := h
  obtain ⟨ht, hf⟩ := h
  refine Aw.icmp_ne (tgt := 18) o1 ⟨by decide, by decide⟩ (by decide) d_Mdl_depth_9 (fun c2 => ?_) (fun c2 => ?_)
  · have h := ht c2
    refine Aw.iload_n rfl d_Mdl_depth_18 ?_
    exact h
  · have h := hf c2
    refine Aw.iinc rfl d_Mdl_depth_12 ?_
    refine Aw.toL (L' := [xl v0, xu, xi (v2 + 1)]) rfl ?_
    refine Aw.goto (tgt := 2) (by decide) d_Mdl_depth_15 ?_
    exact h
theorem c_Mdl_depth_4 {Ω : Om} {R R' : Room} {F : QF} {k n : Nat} {L st : List PV} {σ : Sto} {QX' : String → Sto → Prop} {Q : Int → Sto → Prop} {x0 : Int64} {x1 : Int} (hc : MC Ω M_Mdl_signAt R' (RI Q) QX' σ [xl x0, xi x1]) (hr1 : R'.frames + 1 ≤ R.frames) (hr2 : 8 + (3 + 11) + R'.locals ≤ R.locals) (hb1 : k + R'.cells ≤ R.cells) (hb2 : n + R'.slots ≤ R.slots) (hst : (st.map catP).sum ≤ 8) (kk : ∀ x σ', Q x σ' → Aw Ω M_Mdl_depth R F (k + R'.cells) (n + R'.slots) 7 L (xi x :: st) σ') (kx : ∀ E σ', QX' E σ' → Ax Ω M_Mdl_depth R F (k + R'.cells) (n + R'.slots) 4 L st σ' E) : Aw Ω M_Mdl_depth R F k n 4 L (xi x1 :: xl x0 :: st) σ :=
  Aw.callS (As := [xl x0, xi x1]) (stk := xi x1 :: xl x0 :: st) (nn := 2) M_Mdl_signAt hc ok_Mdl_signAt rfl ml_Mdl_136 sta_Mdl_signAt ⟨hr1, hr2⟩ rfl ⟨hb1, hb2⟩ hst rfl d_Mdl_depth_4 (fun r σ' h => by obtain ⟨x, rfl, h⟩ := h; exact kk x σ' h) kx
theorem r_Mdl_depth_19 {Ω : Om} {R : Room} {k n : Nat} {L : List PV} {σ : Sto} {QR : Option PV → Sto → Prop} {QX : String → Sto → Prop} {x : Int} (h : QR (some (xi x)) σ) (h1 : k ≤ R.cells) (h2 : n ≤ R.slots) : Aw Ω M_Mdl_depth R (MF Ω R QR QX) k n 19 L [xi x] σ := Aw.iret rfl h h1 h2 d_Mdl_depth_19
theorem e_Mdl_isReview {Ω : Om} {R : Room} {QR : Option PV → Sto → Prop} {QX : String → Sto → Prop} {σ : Sto} {a0 : Nat} {v1 : Int} (h : Aw Ω M_Mdl_isReview R (MF Ω R QR QX) 0 0 0 [xr (some a0), xi v1] [] σ) : MC Ω M_Mdl_isReview R QR QX σ [xr (some a0), xi v1] := MC.body (by decide +kernel) rfl (Nat.le_of_ble_eq_true rfl) rfl h
theorem b_Mdl_isReview_0 {Ω : Om} {R : Room} {F : QF} {k n : Nat} {σ : Sto} {a0 : Nat} {v1 : Int} (h : sK σ a0 = 13 ∧ (Q32 (fI σ 806 a0) → Aw Ω M_Mdl_isReview R F k n 8 [xr (some a0), xi v1] [xi ((fI σ 806 a0) - 1), xi 0, xi v1] σ)) : Aw Ω M_Mdl_isReview R F k n 0 [xr (some a0), xi v1] [] σ := by
  refine Aw.iload_n rfl d_Mdl_isReview_0 ?_
  refine Aw.iconst d_Mdl_isReview_1 ?_
  refine Aw.aload_n rfl d_Mdl_isReview_2 ?_
  obtain ⟨o1, h⟩ := h
  refine Aw.getI (f := 806) 12 38 fl_Mdl_348 (by decide) (by decide) rfl rfl o1 d_Mdl_isReview_3 (fun r2 => ?_)
  have h := h r2
  refine Aw.iconst d_Mdl_isReview_6 ?_
  refine Aw.isub d_Mdl_isReview_7 ?_
  exact h
theorem c_Mdl_isReview_8 {Ω : Om} {R R' : Room} {F : QF} {k n : Nat} {L st : List PV} {σ : Sto} {QX' : String → Sto → Prop} {Q : Int → Sto → Prop} {x0 : Int} {x1 : Int} {x2 : Int} (hc : MC Ω M_Mdl_in R' (RI Q) QX' σ [xi x0, xi x1, xi x2]) (hr1 : R'.frames + 1 ≤ R.frames) (hr2 : 8 + (3 + 11) + R'.locals ≤ R.locals) (hb1 : k + R'.cells ≤ R.cells) (hb2 : n + R'.slots ≤ R.slots) (hst : (st.map catP).sum ≤ 8) (kk : ∀ x σ', Q x σ' → Aw Ω M_Mdl_isReview R F (k + R'.cells) (n + R'.slots) 11 L (xi x :: st) σ') (kx : ∀ E σ', QX' E σ' → Ax Ω M_Mdl_isReview R F (k + R'.cells) (n + R'.slots) 8 L st σ' E) : Aw Ω M_Mdl_isReview R F k n 8 L (xi x2 :: xi x1 :: xi x0 :: st) σ :=
  Aw.callS (As := [xi x0, xi x1, xi x2]) (stk := xi x2 :: xi x1 :: xi x0 :: st) (nn := 3) M_Mdl_in hc ok_Mdl_in rfl ml_Mdl_130 sta_Mdl_in ⟨hr1, hr2⟩ rfl ⟨hb1, hb2⟩ hst rfl d_Mdl_isReview_8 (fun r σ' h => by obtain ⟨x, rfl, h⟩ := h; exact kk x σ' h) kx
theorem r_Mdl_isReview_11 {Ω : Om} {R : Room} {k n : Nat} {L : List PV} {σ : Sto} {QR : Option PV → Sto → Prop} {QX : String → Sto → Prop} {x : Int} (hx : x = 0 ∨ x = 1) (h : QR (some (xi x)) σ) (h1 : k ≤ R.cells) (h2 : n ≤ R.slots) : Aw Ω M_Mdl_isReview R (MF Ω R QR QX) k n 11 L [xi x] σ := Aw.zret rfl hx h h1 h2 d_Mdl_isReview_11
theorem e_Mdl_thrown {Ω : Om} {R : Room} {QR : Option PV → Sto → Prop} {QX : String → Sto → Prop} {σ : Sto} {a0 : Nat} (h : Aw Ω M_Mdl_thrown R (MF Ω R QR QX) 0 0 0 [xr (some a0)] [] σ) : MC Ω M_Mdl_thrown R QR QX σ [xr (some a0)] := MC.body (by decide +kernel) rfl (Nat.le_of_ble_eq_true rfl) rfl h
theorem b_Mdl_thrown_0 {Ω : Om} {R : Room} {F : QF} {k n : Nat} {σ : Sto} {a0 : Nat} (h : sK σ a0 = 13 ∧ (Q32 (fI σ 768 a0) → Aw Ω M_Mdl_thrown R F k n 4 [xr (some a0)] [xi (fI σ 768 a0)] σ)) : Aw Ω M_Mdl_thrown R F k n 0 [xr (some a0)] [] σ := by
  refine Aw.aload_n rfl d_Mdl_thrown_0 ?_
  obtain ⟨o1, h⟩ := h
  refine Aw.getI (f := 768) 12 0 fl_Mdl_127 (by decide) (by decide) rfl rfl o1 d_Mdl_thrown_1 (fun r2 => ?_)
  have h := h r2
  exact h
theorem r_Mdl_thrown_4 {Ω : Om} {R : Room} {k n : Nat} {L : List PV} {σ : Sto} {QR : Option PV → Sto → Prop} {QX : String → Sto → Prop} {x : Int} (h : QR (some (xi x)) σ) (h1 : k ≤ R.cells) (h2 : n ≤ R.slots) : Aw Ω M_Mdl_thrown R (MF Ω R QR QX) k n 4 L [xi x] σ := Aw.iret rfl h h1 h2 d_Mdl_thrown_4
