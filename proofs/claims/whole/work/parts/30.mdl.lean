/-! walks of the reference, 0 (by program) -/
theorem e_Mdl_patch {Ω : Om} {R : Room} {QR : Option PV → Sto → Prop} {QX : String → Sto → Prop} {σ : Sto} {a0 : Nat} {v1 : Int} {v2 : Int} {v3 : Int} (h : Aw Ω M_Mdl_patch R (MF Ω R QR QX) 0 0 0 [xr (some a0), xi v1, xi v2, xi v3, xu, xu, xu, xu, xu, xu, xu, xu, xu, xu, xu, xu] [] σ) : MC Ω M_Mdl_patch R QR QX σ [xr (some a0), xi v1, xi v2, xi v3] := MC.body (by decide +kernel) rfl (Nat.le_of_ble_eq_true rfl) rfl h
theorem b_Mdl_patch_0 {Ω : Om} {R : Room} {F : QF} {k n : Nat} {σ : Sto} {a0 : Nat} {v1 : Int} {v2 : Int} {v3 : Int} (h : Aw Ω M_Mdl_patch R F k n 2 [xr (some a0), xi v1, xi v2, xi v3, xu, xu, xu, xu, xu, xu, xu, xu, xu, xu, xu, xu] [xi v1, xr (some a0)] σ) : Aw Ω M_Mdl_patch R F k n 0 [xr (some a0), xi v1, xi v2, xi v3, xu, xu, xu, xu, xu, xu, xu, xu, xu, xu, xu, xu] [] σ := by
  refine Aw.aload_n rfl d_Mdl_patch_0 ?_
  refine Aw.iload_n rfl d_Mdl_patch_1 ?_
  exact h
theorem b_Mdl_patch_5 {Ω : Om} {R : Room} {F : QF} {k n : Nat} {σ : Sto} {a0 : Nat} {v1 : Int} {v2 : Int} {v3 : Int} {s0 : Int} (h : Q32 s0 ∧ ((s0 = (0 : Int) → Aw Ω M_Mdl_patch R F k n 60 [xr (some a0), xi v1, xi v2, xi v3, xi 0, xu, xu, xu, xu, xu, xu, xu, xu, xu, xu, xu] [xi 1, xr (some a0)] σ) ∧ (¬ s0 = (0 : Int) → Aw Ω M_Mdl_patch R F k n 10 [xr (some a0), xi v1, xi v2, xi v3, xu, xu, xu, xu, xu, xu, xu, xu, xu, xu, xu, xu] [xi v2, xr (some a0)] σ))) : Aw Ω M_Mdl_patch R F k n 5 [xr (some a0), xi v1, xi v2, xi v3, xu, xu, xu, xu, xu, xu, xu, xu, xu, xu, xu, xu] [xi s0] σ := by
  obtain ⟨o1, h⟩ := h
  obtain ⟨ht, hf⟩ := h
  refine Aw.if_eq (tgt := 20) o1 (by decide) d_Mdl_patch_5 (fun c3 => ?_) (fun c3 => ?_)
  · have h := ht c3
    refine Aw.iconst d_Mdl_patch_20 ?_
    refine Aw.istore (by decide) d_Mdl_patch_21 ?_
    refine Aw.toL (L' := [xr (some a0), xi v1, xi v2, xi v3, xi 0, xu, xu, xu, xu, xu, xu, xu, xu, xu, xu, xu]) rfl ?_
    refine Aw.aload_n rfl d_Mdl_patch_23 ?_
    refine Aw.iload rfl d_Mdl_patch_24 ?_
    refine Aw.if_ne (tgt := 33) ⟨by decide, by decide⟩ (by decide) d_Mdl_patch_26 (fun c2 => absurd c2 (by decide)) (fun c2 => ?_)
    refine Aw.iconst d_Mdl_patch_29 ?_
    refine Aw.goto (tgt := 60) (by decide) d_Mdl_patch_30 ?_
    exact h
  · have h := hf c3
    refine Aw.aload_n rfl d_Mdl_patch_8 ?_
    refine Aw.iload_n rfl d_Mdl_patch_9 ?_
    exact h
theorem b_Mdl_patch_13 {Ω : Om} {R : Room} {F : QF} {k n : Nat} {σ : Sto} {a0 : Nat} {v1 : Int} {v2 : Int} {v3 : Int} {s0 : Int} (h : Q32 s0 ∧ ((s0 = (0 : Int) → Aw Ω M_Mdl_patch R F k n 60 [xr (some a0), xi v1, xi v2, xi v3, xi 0, xu, xu, xu, xu, xu, xu, xu, xu, xu, xu, xu] [xi 1, xr (some a0)] σ) ∧ (¬ s0 = (0 : Int) → Aw Ω M_Mdl_patch R F k n 36 [xr (some a0), xi v1, xi v2, xi v3, xi 1, xu, xu, xu, xu, xu, xu, xu, xu, xu, xu, xu] [xi 3, xi 0, xi v3, xr (some a0)] σ))) : Aw Ω M_Mdl_patch R F k n 13 [xr (some a0), xi v1, xi v2, xi v3, xu, xu, xu, xu, xu, xu, xu, xu, xu, xu, xu, xu] [xi s0] σ := by
  obtain ⟨o1, h⟩ := h
  obtain ⟨ht, hf⟩ := h
  refine Aw.if_eq (tgt := 20) o1 (by decide) d_Mdl_patch_13 (fun c4 => ?_) (fun c4 => ?_)
  · have h := ht c4
    refine Aw.iconst d_Mdl_patch_20 ?_
    refine Aw.istore (by decide) d_Mdl_patch_21 ?_
    refine Aw.toL (L' := [xr (some a0), xi v1, xi v2, xi v3, xi 0, xu, xu, xu, xu, xu, xu, xu, xu, xu, xu, xu]) rfl ?_
    refine Aw.aload_n rfl d_Mdl_patch_23 ?_
    refine Aw.iload rfl d_Mdl_patch_24 ?_
    refine Aw.if_ne (tgt := 33) ⟨by decide, by decide⟩ (by decide) d_Mdl_patch_26 (fun c2 => absurd c2 (by decide)) (fun c2 => ?_)
    refine Aw.iconst d_Mdl_patch_29 ?_
    refine Aw.goto (tgt := 60) (by decide) d_Mdl_patch_30 ?_
    exact h
  · have h := hf c4
    refine Aw.iconst d_Mdl_patch_16 ?_
    refine Aw.goto (tgt := 21) (by decide) d_Mdl_patch_17 ?_
    refine Aw.istore (by decide) d_Mdl_patch_21 ?_
    refine Aw.toL (L' := [xr (some a0), xi v1, xi v2, xi v3, xi 1, xu, xu, xu, xu, xu, xu, xu, xu, xu, xu, xu]) rfl ?_
    refine Aw.aload_n rfl d_Mdl_patch_23 ?_
    refine Aw.iload rfl d_Mdl_patch_24 ?_
    refine Aw.if_ne (tgt := 33) ⟨by decide, by decide⟩ (by decide) d_Mdl_patch_26 (fun c3 => ?_) (fun c3 => absurd c3 (by decide))
    refine Aw.iload_n rfl d_Mdl_patch_33 ?_
    refine Aw.iconst d_Mdl_patch_34 ?_
    refine Aw.iconst d_Mdl_patch_35 ?_
    exact h
theorem b_Mdl_patch_39 {Ω : Om} {R : Room} {F : QF} {k n : Nat} {σ : Sto} {a0 : Nat} {v1 : Int} {v2 : Int} {v3 : Int} {v4 : Int} {s0 : Nat} {s1 : Int} (h : Q32 s1 ∧ ((¬ s1 = (0 : Int) → sK σ a0 = 13 ∧ (Q32 (fI σ 797 a0) → ((¬ (fI σ 797 a0) = (10 : Int) → Aw Ω M_Mdl_patch R F k n 60 [xr (some a0), xi v1, xi v2, xi v3, xi v4, xu, xu, xu, xu, xu, xu, xu, xu, xu, xu, xu] [xi 0, xr (some s0)] σ) ∧ ((fI σ 797 a0) = (10 : Int) → Aw Ω M_Mdl_patch R F k n 60 [xr (some a0), xi v1, xi v2, xi v3, xi v4, xu, xu, xu, xu, xu, xu, xu, xu, xu, xu, xu] [xi 3, xr (some s0)] σ)))) ∧ (s1 = (0 : Int) → Aw Ω M_Mdl_patch R F k n 60 [xr (some a0), xi v1, xi v2, xi v3, xi v4, xu, xu, xu, xu, xu, xu, xu, xu, xu, xu, xu] [xi 2, xr (some s0)] σ))) : Aw Ω M_Mdl_patch R F k n 39 [xr (some a0), xi v1, xi v2, xi v3, xi v4, xu, xu, xu, xu, xu, xu, xu, xu, xu, xu, xu] [xi s1, xr (some s0)] σ := by
  obtain ⟨o1, h⟩ := h
  obtain ⟨ht, hf⟩ := h
  refine Aw.if_ne (tgt := 46) o1 (by decide) d_Mdl_patch_39 (fun c5 => ?_) (fun c5 => ?_)
  · have h := ht c5
    refine Aw.aload_n rfl d_Mdl_patch_46 ?_
    obtain ⟨o2, h⟩ := h
    refine Aw.getI (f := 797) 12 29 fl_Mdl_317 (by decide) (by decide) rfl rfl o2 d_Mdl_patch_47 (fun r3 => ?_)
    have h := h r3
    refine Aw.bipush (by decide) d_Mdl_patch_50 ?_
    obtain ⟨ht, hf⟩ := h
    refine Aw.icmp_ne (tgt := 59) r3 ⟨by decide, by decide⟩ (by decide) d_Mdl_patch_52 (fun c4 => ?_) (fun c4 => ?_)
    · have h := ht c4
      refine Aw.iconst d_Mdl_patch_59 ?_
      exact h
    · have h := hf c4
      refine Aw.iconst d_Mdl_patch_55 ?_
      refine Aw.goto (tgt := 60) (by decide) d_Mdl_patch_56 ?_
      exact h
  · have h := hf c5
    refine Aw.iconst d_Mdl_patch_42 ?_
    refine Aw.goto (tgt := 60) (by decide) d_Mdl_patch_43 ?_
    exact h
theorem b_Mdl_patch_63 {Ω : Om} {R : Room} {F : QF} {k n : Nat} {σ : Sto} {a0 : Nat} {v1 : Int} {v2 : Int} {v3 : Int} {v4 : Int} {s0 : Int} (h : Q32 s0 ∧ ((s0 = (0 : Int) → Aw Ω M_Mdl_patch R F k n 72 [xr (some a0), xi v1, xi v2, xi v3, xi v4, xu, xu, xu, xu, xu, xu, xu, xu, xu, xu, xu] [xi 0, xi v2, xi v1, xr (some a0)] σ) ∧ (¬ s0 = (0 : Int) → Aw Ω M_Mdl_patch R F k n 67 [xr (some a0), xi v1, xi v2, xi v3, xi v4, xu, xu, xu, xu, xu, xu, xu, xu, xu, xu, xu] [xi 0] σ))) : Aw Ω M_Mdl_patch R F k n 63 [xr (some a0), xi v1, xi v2, xi v3, xi v4, xu, xu, xu, xu, xu, xu, xu, xu, xu, xu, xu] [xi s0] σ := by
  obtain ⟨o1, h⟩ := h
  obtain ⟨ht, hf⟩ := h
  refine Aw.if_eq (tgt := 68) o1 (by decide) d_Mdl_patch_63 (fun c2 => ?_) (fun c2 => ?_)
  · have h := ht c2
    refine Aw.aload_n rfl d_Mdl_patch_68 ?_
    refine Aw.iload_n rfl d_Mdl_patch_69 ?_
    refine Aw.iload_n rfl d_Mdl_patch_70 ?_
    refine Aw.iconst d_Mdl_patch_71 ?_
    exact h
  · have h := hf c2
    refine Aw.iconst d_Mdl_patch_66 ?_
    exact h
theorem b_Mdl_patch_75 {Ω : Om} {R : Room} {F : QF} {k n : Nat} {σ : Sto} {a0 : Nat} {v1 : Int} {v2 : Int} {v3 : Int} {v4 : Int} {s0 : Int} (h : Aw Ω M_Mdl_patch R F k n 88 [xr (some a0), xi v1, xi v2, xi v3, xi v4, xi 0, xi 0, xi 0, xi 0, xu, xu, xu, xu, xu, xu, xu] [] σ) : Aw Ω M_Mdl_patch R F k n 75 [xr (some a0), xi v1, xi v2, xi v3, xi v4, xu, xu, xu, xu, xu, xu, xu, xu, xu, xu, xu] [xi s0] σ := by
  refine Aw.pop rfl d_Mdl_patch_75 ?_
  refine Aw.iconst d_Mdl_patch_76 ?_
  refine Aw.istore (by decide) d_Mdl_patch_77 ?_
  refine Aw.toL (L' := [xr (some a0), xi v1, xi v2, xi v3, xi v4, xi 0, xu, xu, xu, xu, xu, xu, xu, xu, xu, xu]) rfl ?_
  refine Aw.iconst d_Mdl_patch_79 ?_
  refine Aw.istore (by decide) d_Mdl_patch_80 ?_
  refine Aw.toL (L' := [xr (some a0), xi v1, xi v2, xi v3, xi v4, xi 0, xi 0, xu, xu, xu, xu, xu, xu, xu, xu, xu]) rfl ?_
  refine Aw.iconst d_Mdl_patch_82 ?_
  refine Aw.istore (by decide) d_Mdl_patch_83 ?_
  refine Aw.toL (L' := [xr (some a0), xi v1, xi v2, xi v3, xi v4, xi 0, xi 0, xi 0, xu, xu, xu, xu, xu, xu, xu, xu]) rfl ?_
  refine Aw.iconst d_Mdl_patch_85 ?_
  refine Aw.istore (by decide) d_Mdl_patch_86 ?_
  refine Aw.toL (L' := [xr (some a0), xi v1, xi v2, xi v3, xi v4, xi 0, xi 0, xi 0, xi 0, xu, xu, xu, xu, xu, xu, xu]) rfl ?_
  exact h
theorem b_Mdl_patch_88 {Ω : Om} {R : Room} {F : QF} {k n : Nat} {σ : Sto} {a0 : Nat} {v1 : Int} {v2 : Int} {v3 : Int} {v4 : Int} {v5 : Int} {v6 : Int} {v7 : Int} {v8 : Int} (h : sK σ a0 = 13 ∧ (∃ b2 : Nat, fR σ 774 a0 = some b2 ∧ sK σ b2 = 50 ∧ 0 ≤ v1 ∧ v1 < sZ σ b2 ∧ (Q32 (aI σ b2 (v1).toNat) → Q32 v8 ∧ (((aI σ b2 (v1).toNat) < v8 → (∃ b9 : Nat, fR σ 798 a0 = some b9 ∧ (Q32 (fI σ 797 a0) → sK σ b9 = 50 ∧ 0 ≤ (fI σ 797 a0) ∧ (fI σ 797 a0) < sZ σ b9 ∧ Q32 v5 ∧ Aw Ω M_Mdl_patch R F k n 221 [xr (some a0), xi v1, xi v2, xi v3, xi v4, xi v5, xi v6, xi v7, xi 0, xu, xu, xu, xu, xu, xu, xu] [] (vI σ b9 (fI σ 797 a0).toNat v5)))) ∧ (¬ (aI σ b2 (v1).toNat) < v8 → (Q32 (aI σ b2 (v1).toNat) → ((¬ v8 = (aI σ b2 (v1).toNat) → Aw Ω M_Mdl_patch R F k n 115 [xr (some a0), xi v1, xi v2, xi v3, xi v4, xi v5, xi v6, xi v7, xi v8, xu, xu, xu, xu, xu, xu, xu] [xi 0] σ) ∧ (v8 = (aI σ b2 (v1).toNat) → Aw Ω M_Mdl_patch R F k n 115 [xr (some a0), xi v1, xi v2, xi v3, xi v4, xi v5, xi v6, xi v7, xi v8, xu, xu, xu, xu, xu, xu, xu] [xi 1] σ)))))))) : Aw Ω M_Mdl_patch R F k n 88 [xr (some a0), xi v1, xi v2, xi v3, xi v4, xi v5, xi v6, xi v7, xi v8, xu, xu, xu, xu, xu, xu, xu] [] σ := by
  refine Aw.iload rfl d_Mdl_patch_88 ?_
  refine Aw.aload_n rfl d_Mdl_patch_90 ?_
  obtain ⟨o1, h⟩ := h
  obtain ⟨b2, e3, h⟩ := h
  refine Aw.getRs (f := 774) 12 6 fl_Mdl_20 (by decide) (by decide) rfl rfl o1 e3 d_Mdl_patch_91 ?_
  refine Aw.iload_n rfl d_Mdl_patch_94 ?_
  obtain ⟨o4, h⟩ := h
  obtain ⟨o5, o6, h⟩ := h
  refine Aw.iald o4 o5 o6 d_Mdl_patch_95 (fun r7 => ?_)
  have h := h r7
  obtain ⟨o8, h⟩ := h
  obtain ⟨ht, hf⟩ := h
  refine Aw.icmp_gt (tgt := 207) o8 r7 (by decide) d_Mdl_patch_96 (fun c18 => ?_) (fun c18 => ?_)
  · have h := ht c18
    refine Aw.aload_n rfl d_Mdl_patch_207 ?_
    obtain ⟨b9, e10, h⟩ := h
    refine Aw.getRs (f := 798) 12 30 fl_Mdl_59 (by decide) (by decide) rfl rfl o1 e10 d_Mdl_patch_208 ?_
    refine Aw.aload_n rfl d_Mdl_patch_211 ?_
    refine Aw.getI (f := 797) 12 29 fl_Mdl_317 (by decide) (by decide) rfl rfl o1 d_Mdl_patch_212 (fun r11 => ?_)
    have h := h r11
    refine Aw.iload rfl d_Mdl_patch_215 ?_
    obtain ⟨o12, h⟩ := h
    obtain ⟨o13, o14, h⟩ := h
    obtain ⟨o15, h⟩ := h
    refine Aw.iast o12 o13 o14 o15 d_Mdl_patch_217 ?_
    refine Aw.iconst d_Mdl_patch_218 ?_
    refine Aw.istore (by decide) d_Mdl_patch_219 ?_
    refine Aw.toL (L' := [xr (some a0), xi v1, xi v2, xi v3, xi v4, xi v5, xi v6, xi v7, xi 0, xu, xu, xu, xu, xu, xu, xu]) rfl ?_
    exact h
  · have h := hf c18
    refine Aw.iload rfl d_Mdl_patch_99 ?_
    refine Aw.aload_n rfl d_Mdl_patch_101 ?_
    refine Aw.getRs (f := 774) 12 6 fl_Mdl_20 (by decide) (by decide) rfl rfl o1 e3 d_Mdl_patch_102 ?_
    refine Aw.iload_n rfl d_Mdl_patch_105 ?_
    refine Aw.iald o4 o5 o6 d_Mdl_patch_106 (fun r16 => ?_)
    have h := h r16
    obtain ⟨ht, hf⟩ := h
    refine Aw.icmp_ne (tgt := 114) o8 r16 (by decide) d_Mdl_patch_107 (fun c17 => ?_) (fun c17 => ?_)
    · have h := ht c17
      refine Aw.iconst d_Mdl_patch_114 ?_
      exact h
    · have h := hf c17
      refine Aw.iconst d_Mdl_patch_110 ?_
      refine Aw.goto (tgt := 115) (by decide) d_Mdl_patch_111 ?_
      exact h
theorem b_Mdl_patch_115 {Ω : Om} {R : Room} {F : QF} {k n : Nat} {σ : Sto} {a0 : Nat} {v1 : Int} {v2 : Int} {v3 : Int} {v4 : Int} {v5 : Int} {v6 : Int} {v7 : Int} {v8 : Int} {s0 : Int} (h : Q32 s0 ∧ ((¬ s0 = (0 : Int) → Aw Ω M_Mdl_patch R F k n 133 [xr (some a0), xi v1, xi v2, xi v3, xi v4, xi v5, xi v6, xi v7, xi v8, xi s0, xu, xu, xu, xu, xu, xu] [] σ) ∧ (s0 = (0 : Int) → sK σ a0 = 13 ∧ (∃ b3 : Nat, fR σ 813 a0 = some b3 ∧ sK σ b3 = 50 ∧ 0 ≤ v8 ∧ v8 < sZ σ b3 ∧ (Q32 (aI σ b3 (v8).toNat) → (((aI σ b3 (v8).toNat) = (-1 : Int) → Aw Ω M_Mdl_patch R F k n 201 [xr (some a0), xi v1, xi v2, xi v3, xi v4, xi v5, xi v6, xi v7, xi v8, xi s0, xu, xu, xu, xu, xu, xu] [] σ) ∧ (¬ (aI σ b3 (v8).toNat) = (-1 : Int) → Aw Ω M_Mdl_patch R F k n 133 [xr (some a0), xi v1, xi v2, xi v3, xi v4, xi v5, xi v6, xi v7, xi v8, xi s0, xu, xu, xu, xu, xu, xu] [] σ))))))) : Aw Ω M_Mdl_patch R F k n 115 [xr (some a0), xi v1, xi v2, xi v3, xi v4, xi v5, xi v6, xi v7, xi v8, xu, xu, xu, xu, xu, xu, xu] [xi s0] σ := by
  refine Aw.istore (by decide) d_Mdl_patch_115 ?_
  refine Aw.toL (L' := [xr (some a0), xi v1, xi v2, xi v3, xi v4, xi v5, xi v6, xi v7, xi v8, xi s0, xu, xu, xu, xu, xu, xu]) rfl ?_
  refine Aw.iload rfl d_Mdl_patch_117 ?_
  obtain ⟨o1, h⟩ := h
  obtain ⟨ht, hf⟩ := h
  refine Aw.if_ne (tgt := 133) o1 (by decide) d_Mdl_patch_119 (fun c10 => ?_) (fun c10 => ?_)
  · have h := ht c10
    exact h
  · have h := hf c10
    refine Aw.aload_n rfl d_Mdl_patch_122 ?_
    obtain ⟨o2, h⟩ := h
    obtain ⟨b3, e4, h⟩ := h
    refine Aw.getRs (f := 813) 12 45 fl_Mdl_99 (by decide) (by decide) rfl rfl o2 e4 d_Mdl_patch_123 ?_
    refine Aw.iload rfl d_Mdl_patch_126 ?_
    obtain ⟨o5, h⟩ := h
    obtain ⟨o6, o7, h⟩ := h
    refine Aw.iald o5 o6 o7 d_Mdl_patch_128 (fun r8 => ?_)
    have h := h r8
    refine Aw.iconst d_Mdl_patch_129 ?_
    obtain ⟨ht, hf⟩ := h
    refine Aw.icmp_eq (tgt := 201) r8 ⟨by decide, by decide⟩ (by decide) d_Mdl_patch_130 (fun c9 => ?_) (fun c9 => ?_)
    · have h := ht c9
      exact h
    · have h := hf c9
      exact h
theorem b_Mdl_patch_133 {Ω : Om} {R : Room} {F : QF} {k n : Nat} {σ : Sto} {a0 : Nat} {v1 : Int} {v2 : Int} {v3 : Int} {v4 : Int} {v5 : Int} {v6 : Int} {v7 : Int} {v8 : Int} {v9 : Int} (h : Q32 v9 ∧ ((v9 = (0 : Int) → sK σ a0 = 13 ∧ (∃ b3 : Nat, fR σ 813 a0 = some b3 ∧ sK σ b3 = 50 ∧ 0 ≤ v8 ∧ v8 < sZ σ b3 ∧ (Q32 (aI σ b3 (v8).toNat) → Q32 v8 ∧ Q32 v6 ∧ ((v6 < v8 → Aw Ω M_Mdl_patch R F k n 183 [xr (some a0), xi v1, xi v2, xi v3, xi v4, xi v5, xi v6, xi v7, xi v8, xi v9, xi (aI σ b3 (v8).toNat), xu, xu, xu, xu, xu] [xi (aI σ b3 (v8).toNat), xi v7, xi v2, xi v8, xi v6, xi v1, xi v5, xr (some a0)] σ) ∧ (¬ v6 < v8 → Q32 v7 ∧ (((aI σ b3 (v8).toNat) ≤ v7 → Aw Ω M_Mdl_patch R F k n 88 [xr (some a0), xi v1, xi v2, xi v3, xi v4, xi v5, xi (v8 + 1), xi ((aI σ b3 (v8).toNat) + 1), xi (v8 + 1), xu, xu, xu, xu, xu, xu, xu] [] σ) ∧ (¬ (aI σ b3 (v8).toNat) ≤ v7 → Aw Ω M_Mdl_patch R F k n 183 [xr (some a0), xi v1, xi v2, xi v3, xi v4, xi v5, xi v6, xi v7, xi v8, xi v9, xi (aI σ b3 (v8).toNat), xu, xu, xu, xu, xu] [xi (aI σ b3 (v8).toNat), xi v7, xi v2, xi v8, xi v6, xi v1, xi v5, xr (some a0)] σ))))))) ∧ (¬ v9 = (0 : Int) → sK σ a0 = 13 ∧ (∃ b15 : Nat, fR σ 774 a0 = some b15 ∧ sK σ b15 = 50 ∧ 0 ≤ v2 ∧ v2 < sZ σ b15 ∧ (Q32 (aI σ b15 (v2).toNat) → Q32 v8 ∧ Q32 v6 ∧ ((v6 < v8 → Aw Ω M_Mdl_patch R F k n 183 [xr (some a0), xi v1, xi v2, xi v3, xi v4, xi v5, xi v6, xi v7, xi v8, xi v9, xi (aI σ b15 (v2).toNat), xu, xu, xu, xu, xu] [xi (aI σ b15 (v2).toNat), xi v7, xi v2, xi v8, xi v6, xi v1, xi v5, xr (some a0)] σ) ∧ (¬ v6 < v8 → Q32 v7 ∧ (((aI σ b15 (v2).toNat) ≤ v7 → Aw Ω M_Mdl_patch R F k n 88 [xr (some a0), xi v1, xi v2, xi v3, xi v4, xi v5, xi (v8 + 1), xi ((aI σ b15 (v2).toNat) + 1), xi (v8 + 1), xu, xu, xu, xu, xu, xu, xu] [] σ) ∧ (¬ (aI σ b15 (v2).toNat) ≤ v7 → Aw Ω M_Mdl_patch R F k n 183 [xr (some a0), xi v1, xi v2, xi v3, xi v4, xi v5, xi v6, xi v7, xi v8, xi v9, xi (aI σ b15 (v2).toNat), xu, xu, xu, xu, xu] [xi (aI σ b15 (v2).toNat), xi v7, xi v2, xi v8, xi v6, xi v1, xi v5, xr (some a0)] σ))))))))) : Aw Ω M_Mdl_patch R F k n 133 [xr (some a0), xi v1, xi v2, xi v3, xi v4, xi v5, xi v6, xi v7, xi v8, xi v9, xu, xu, xu, xu, xu, xu] [] σ := by
  refine Aw.iload rfl d_Mdl_patch_133 ?_
  obtain ⟨o1, h⟩ := h
  obtain ⟨ht, hf⟩ := h
  refine Aw.if_eq (tgt := 147) o1 (by decide) d_Mdl_patch_135 (fun c26 => ?_) (fun c26 => ?_)
  · have h := ht c26
    refine Aw.aload_n rfl d_Mdl_patch_147 ?_
    obtain ⟨o2, h⟩ := h
    obtain ⟨b3, e4, h⟩ := h
    refine Aw.getRs (f := 813) 12 45 fl_Mdl_99 (by decide) (by decide) rfl rfl o2 e4 d_Mdl_patch_148 ?_
    refine Aw.iload rfl d_Mdl_patch_151 ?_
    obtain ⟨o5, h⟩ := h
    obtain ⟨o6, o7, h⟩ := h
    refine Aw.iald o5 o6 o7 d_Mdl_patch_153 (fun r8 => ?_)
    have h := h r8
    refine Aw.istore (by decide) d_Mdl_patch_154 ?_
    refine Aw.toL (L' := [xr (some a0), xi v1, xi v2, xi v3, xi v4, xi v5, xi v6, xi v7, xi v8, xi v9, xi (aI σ b3 (v8).toNat), xu, xu, xu, xu, xu]) rfl ?_
    refine Aw.iload rfl d_Mdl_patch_156 ?_
    refine Aw.iload rfl d_Mdl_patch_158 ?_
    obtain ⟨o9, h⟩ := h
    obtain ⟨o10, h⟩ := h
    obtain ⟨ht, hf⟩ := h
    refine Aw.icmp_gt (tgt := 170) o9 o10 (by decide) d_Mdl_patch_160 (fun c13 => ?_) (fun c13 => ?_)
    · have h := ht c13
      refine Aw.aload_n rfl d_Mdl_patch_170 ?_
      refine Aw.iload rfl d_Mdl_patch_171 ?_
      refine Aw.iload_n rfl d_Mdl_patch_173 ?_
      refine Aw.iload rfl d_Mdl_patch_174 ?_
      refine Aw.iload rfl d_Mdl_patch_176 ?_
      refine Aw.iload_n rfl d_Mdl_patch_178 ?_
      refine Aw.iload rfl d_Mdl_patch_179 ?_
      refine Aw.iload rfl d_Mdl_patch_181 ?_
      exact h
    · have h := hf c13
      refine Aw.iload rfl d_Mdl_patch_163 ?_
      refine Aw.iload rfl d_Mdl_patch_165 ?_
      obtain ⟨o11, h⟩ := h
      obtain ⟨ht, hf⟩ := h
      refine Aw.icmp_le (tgt := 189) r8 o11 (by decide) d_Mdl_patch_167 (fun c12 => ?_) (fun c12 => ?_)
      · have h := ht c12
        refine Aw.iload rfl d_Mdl_patch_189 ?_
        refine Aw.iconst d_Mdl_patch_191 ?_
        refine Aw.iadd d_Mdl_patch_192 ?_
        refine Aw.istore (by decide) d_Mdl_patch_193 ?_
        refine Aw.toL (L' := [xr (some a0), xi v1, xi v2, xi v3, xi v4, xi v5, xi (v8 + 1), xi v7, xi v8, xi v9, xi (aI σ b3 (v8).toNat), xu, xu, xu, xu, xu]) rfl ?_
        refine Aw.iload rfl d_Mdl_patch_195 ?_
        refine Aw.iconst d_Mdl_patch_197 ?_
        refine Aw.iadd d_Mdl_patch_198 ?_
        refine Aw.istore (by decide) d_Mdl_patch_199 ?_
        refine Aw.toL (L' := [xr (some a0), xi v1, xi v2, xi v3, xi v4, xi v5, xi (v8 + 1), xi ((aI σ b3 (v8).toNat) + 1), xi v8, xi v9, xi (aI σ b3 (v8).toNat), xu, xu, xu, xu, xu]) rfl ?_
        refine Aw.iinc rfl d_Mdl_patch_201 ?_
        refine Aw.toL (L' := [xr (some a0), xi v1, xi v2, xi v3, xi v4, xi v5, xi (v8 + 1), xi ((aI σ b3 (v8).toNat) + 1), xi (v8 + 1), xi v9, xi (aI σ b3 (v8).toNat), xu, xu, xu, xu, xu]) rfl ?_
        refine Aw.goto (tgt := 88) (by decide) d_Mdl_patch_204 ?_
        exact Aw.toW (L' := [xr (some a0), xi v1, xi v2, xi v3, xi v4, xi v5, xi (v8 + 1), xi ((aI σ b3 (v8).toNat) + 1), xi (v8 + 1), xu, xu, xu, xu, xu, xu, xu]) ⟨Or.inr rfl, Or.inr rfl, Or.inr rfl, Or.inr rfl, Or.inr rfl, Or.inr rfl, Or.inr rfl, Or.inr rfl, Or.inr rfl, Or.inl rfl, Or.inl rfl, Or.inr rfl, Or.inr rfl, Or.inr rfl, Or.inr rfl, Or.inr rfl, trivial⟩ h
      · have h := hf c12
        refine Aw.aload_n rfl d_Mdl_patch_170 ?_
        refine Aw.iload rfl d_Mdl_patch_171 ?_
        refine Aw.iload_n rfl d_Mdl_patch_173 ?_
        refine Aw.iload rfl d_Mdl_patch_174 ?_
        refine Aw.iload rfl d_Mdl_patch_176 ?_
        refine Aw.iload_n rfl d_Mdl_patch_178 ?_
        refine Aw.iload rfl d_Mdl_patch_179 ?_
        refine Aw.iload rfl d_Mdl_patch_181 ?_
        exact h
  · have h := hf c26
    refine Aw.aload_n rfl d_Mdl_patch_138 ?_
    obtain ⟨o14, h⟩ := h
    obtain ⟨b15, e16, h⟩ := h
    refine Aw.getRs (f := 774) 12 6 fl_Mdl_20 (by decide) (by decide) rfl rfl o14 e16 d_Mdl_patch_139 ?_
    refine Aw.iload_n rfl d_Mdl_patch_142 ?_
    obtain ⟨o17, h⟩ := h
    obtain ⟨o18, o19, h⟩ := h
    refine Aw.iald o17 o18 o19 d_Mdl_patch_143 (fun r20 => ?_)
    have h := h r20
    refine Aw.goto (tgt := 154) (by decide) d_Mdl_patch_144 ?_
    refine Aw.istore (by decide) d_Mdl_patch_154 ?_
    refine Aw.toL (L' := [xr (some a0), xi v1, xi v2, xi v3, xi v4, xi v5, xi v6, xi v7, xi v8, xi v9, xi (aI σ b15 (v2).toNat), xu, xu, xu, xu, xu]) rfl ?_
    refine Aw.iload rfl d_Mdl_patch_156 ?_
    refine Aw.iload rfl d_Mdl_patch_158 ?_
    obtain ⟨o21, h⟩ := h
    obtain ⟨o22, h⟩ := h
    obtain ⟨ht, hf⟩ := h
    refine Aw.icmp_gt (tgt := 170) o21 o22 (by decide) d_Mdl_patch_160 (fun c25 => ?_) (fun c25 => ?_)
    · have h := ht c25
      refine Aw.aload_n rfl d_Mdl_patch_170 ?_
      refine Aw.iload rfl d_Mdl_patch_171 ?_
      refine Aw.iload_n rfl d_Mdl_patch_173 ?_
      refine Aw.iload rfl d_Mdl_patch_174 ?_
      refine Aw.iload rfl d_Mdl_patch_176 ?_
      refine Aw.iload_n rfl d_Mdl_patch_178 ?_
      refine Aw.iload rfl d_Mdl_patch_179 ?_
      refine Aw.iload rfl d_Mdl_patch_181 ?_
      exact h
    · have h := hf c25
      refine Aw.iload rfl d_Mdl_patch_163 ?_
      refine Aw.iload rfl d_Mdl_patch_165 ?_
      obtain ⟨o23, h⟩ := h
      obtain ⟨ht, hf⟩ := h
      refine Aw.icmp_le (tgt := 189) r20 o23 (by decide) d_Mdl_patch_167 (fun c24 => ?_) (fun c24 => ?_)
      · have h := ht c24
        refine Aw.iload rfl d_Mdl_patch_189 ?_
        refine Aw.iconst d_Mdl_patch_191 ?_
        refine Aw.iadd d_Mdl_patch_192 ?_
        refine Aw.istore (by decide) d_Mdl_patch_193 ?_
        refine Aw.toL (L' := [xr (some a0), xi v1, xi v2, xi v3, xi v4, xi v5, xi (v8 + 1), xi v7, xi v8, xi v9, xi (aI σ b15 (v2).toNat), xu, xu, xu, xu, xu]) rfl ?_
        refine Aw.iload rfl d_Mdl_patch_195 ?_
        refine Aw.iconst d_Mdl_patch_197 ?_
        refine Aw.iadd d_Mdl_patch_198 ?_
        refine Aw.istore (by decide) d_Mdl_patch_199 ?_
        refine Aw.toL (L' := [xr (some a0), xi v1, xi v2, xi v3, xi v4, xi v5, xi (v8 + 1), xi ((aI σ b15 (v2).toNat) + 1), xi v8, xi v9, xi (aI σ b15 (v2).toNat), xu, xu, xu, xu, xu]) rfl ?_
        refine Aw.iinc rfl d_Mdl_patch_201 ?_
        refine Aw.toL (L' := [xr (some a0), xi v1, xi v2, xi v3, xi v4, xi v5, xi (v8 + 1), xi ((aI σ b15 (v2).toNat) + 1), xi (v8 + 1), xi v9, xi (aI σ b15 (v2).toNat), xu, xu, xu, xu, xu]) rfl ?_
        refine Aw.goto (tgt := 88) (by decide) d_Mdl_patch_204 ?_
        exact Aw.toW (L' := [xr (some a0), xi v1, xi v2, xi v3, xi v4, xi v5, xi (v8 + 1), xi ((aI σ b15 (v2).toNat) + 1), xi (v8 + 1), xu, xu, xu, xu, xu, xu, xu]) ⟨Or.inr rfl, Or.inr rfl, Or.inr rfl, Or.inr rfl, Or.inr rfl, Or.inr rfl, Or.inr rfl, Or.inr rfl, Or.inr rfl, Or.inl rfl, Or.inl rfl, Or.inr rfl, Or.inr rfl, Or.inr rfl, Or.inr rfl, Or.inr rfl, trivial⟩ h
      · have h := hf c24
        refine Aw.aload_n rfl d_Mdl_patch_170 ?_
        refine Aw.iload rfl d_Mdl_patch_171 ?_
        refine Aw.iload_n rfl d_Mdl_patch_173 ?_
        refine Aw.iload rfl d_Mdl_patch_174 ?_
        refine Aw.iload rfl d_Mdl_patch_176 ?_
        refine Aw.iload_n rfl d_Mdl_patch_178 ?_
        refine Aw.iload rfl d_Mdl_patch_179 ?_
        refine Aw.iload rfl d_Mdl_patch_181 ?_
        exact h
theorem b_Mdl_patch_186 {Ω : Om} {R : Room} {F : QF} {k n : Nat} {σ : Sto} {a0 : Nat} {v1 : Int} {v2 : Int} {v3 : Int} {v4 : Int} {v5 : Int} {v6 : Int} {v7 : Int} {v8 : Int} {v9 : Int} {v10 : Int} (h : Aw Ω M_Mdl_patch R F k n 88 [xr (some a0), xi v1, xi v2, xi v3, xi v4, xi (v5 + 1), xi (v8 + 1), xi (v10 + 1), xi (v8 + 1), xu, xu, xu, xu, xu, xu, xu] [] σ) : Aw Ω M_Mdl_patch R F k n 186 [xr (some a0), xi v1, xi v2, xi v3, xi v4, xi v5, xi v6, xi v7, xi v8, xi v9, xi v10, xu, xu, xu, xu, xu] [] σ := by
  refine Aw.iinc rfl d_Mdl_patch_186 ?_
  refine Aw.toL (L' := [xr (some a0), xi v1, xi v2, xi v3, xi v4, xi (v5 + 1), xi v6, xi v7, xi v8, xi v9, xi v10, xu, xu, xu, xu, xu]) rfl ?_
  refine Aw.iload rfl d_Mdl_patch_189 ?_
  refine Aw.iconst d_Mdl_patch_191 ?_
  refine Aw.iadd d_Mdl_patch_192 ?_
  refine Aw.istore (by decide) d_Mdl_patch_193 ?_
  refine Aw.toL (L' := [xr (some a0), xi v1, xi v2, xi v3, xi v4, xi (v5 + 1), xi (v8 + 1), xi v7, xi v8, xi v9, xi v10, xu, xu, xu, xu, xu]) rfl ?_
  refine Aw.iload rfl d_Mdl_patch_195 ?_
  refine Aw.iconst d_Mdl_patch_197 ?_
  refine Aw.iadd d_Mdl_patch_198 ?_
  refine Aw.istore (by decide) d_Mdl_patch_199 ?_
  refine Aw.toL (L' := [xr (some a0), xi v1, xi v2, xi v3, xi v4, xi (v5 + 1), xi (v8 + 1), xi (v10 + 1), xi v8, xi v9, xi v10, xu, xu, xu, xu, xu]) rfl ?_
  refine Aw.iinc rfl d_Mdl_patch_201 ?_
  refine Aw.toL (L' := [xr (some a0), xi v1, xi v2, xi v3, xi v4, xi (v5 + 1), xi (v8 + 1), xi (v10 + 1), xi (v8 + 1), xi v9, xi v10, xu, xu, xu, xu, xu]) rfl ?_
  refine Aw.goto (tgt := 88) (by decide) d_Mdl_patch_204 ?_
  exact Aw.toW (L' := [xr (some a0), xi v1, xi v2, xi v3, xi v4, xi (v5 + 1), xi (v8 + 1), xi (v10 + 1), xi (v8 + 1), xu, xu, xu, xu, xu, xu, xu]) ⟨Or.inr rfl, Or.inr rfl, Or.inr rfl, Or.inr rfl, Or.inr rfl, Or.inr rfl, Or.inr rfl, Or.inr rfl, Or.inr rfl, Or.inl rfl, Or.inl rfl, Or.inr rfl, Or.inr rfl, Or.inr rfl, Or.inr rfl, Or.inr rfl, trivial⟩ h
theorem b_Mdl_patch_201 {Ω : Om} {R : Room} {F : QF} {k n : Nat} {σ : Sto} {a0 : Nat} {v1 : Int} {v2 : Int} {v3 : Int} {v4 : Int} {v5 : Int} {v6 : Int} {v7 : Int} {v8 : Int} {v9 : Int} (h : Aw Ω M_Mdl_patch R F k n 88 [xr (some a0), xi v1, xi v2, xi v3, xi v4, xi v5, xi v6, xi v7, xi (v8 + 1), xu, xu, xu, xu, xu, xu, xu] [] σ) : Aw Ω M_Mdl_patch R F k n 201 [xr (some a0), xi v1, xi v2, xi v3, xi v4, xi v5, xi v6, xi v7, xi v8, xi v9, xu, xu, xu, xu, xu, xu] [] σ := by
  refine Aw.iinc rfl d_Mdl_patch_201 ?_
  refine Aw.toL (L' := [xr (some a0), xi v1, xi v2, xi v3, xi v4, xi v5, xi v6, xi v7, xi (v8 + 1), xi v9, xu, xu, xu, xu, xu, xu]) rfl ?_
  refine Aw.goto (tgt := 88) (by decide) d_Mdl_patch_204 ?_
  exact Aw.toW (L' := [xr (some a0), xi v1, xi v2, xi v3, xi v4, xi v5, xi v6, xi v7, xi (v8 + 1), xu, xu, xu, xu, xu, xu, xu]) ⟨Or.inr rfl, Or.inr rfl, Or.inr rfl, Or.inr rfl, Or.inr rfl, Or.inr rfl, Or.inr rfl, Or.inr rfl, Or.inr rfl, Or.inl rfl, Or.inr rfl, Or.inr rfl, Or.inr rfl, Or.inr rfl, Or.inr rfl, Or.inr rfl, trivial⟩ h
theorem b_Mdl_patch_221 {Ω : Om} {R : Room} {F : QF} {k n : Nat} {σ : Sto} {a0 : Nat} {v1 : Int} {v2 : Int} {v3 : Int} {v4 : Int} {v5 : Int} {v6 : Int} {v7 : Int} {v8 : Int} (h : Q32 v8 ∧ Q32 v5 ∧ ((v5 ≤ v8 → sK σ a0 = 13 ∧ (Q32 (fI σ 797 a0) → Q32 ((fI σ 797 a0) + 1) ∧ Aw Ω M_Mdl_patch R F k n 525 [xr (some a0), xi v1, xi v2, xi v3, xi v4, xi v5, xi v6, xi v7, xi v8, xu, xu, xu, xu, xu, xu, xu] [] (uI σ 797 a0 ((fI σ 797 a0) + 1)))) ∧ (¬ v5 ≤ v8 → sK σ a0 = 13 ∧ (Q32 (fI σ 797 a0) → ((¬ v8 = (0 : Int) → (∃ b8 : Nat, fR σ 799 a0 = some b8 ∧ sK σ b8 = 50 ∧ 0 ≤ (((21 * (fI σ 797 a0)) + v8) - 1) ∧ (((21 * (fI σ 797 a0)) + v8) - 1) < sZ σ b8 ∧ (Q32 (aI σ b8 (((21 * (fI σ 797 a0)) + v8) - 1).toNat) → (∃ b14 : Nat, fR σ 801 a0 = some b14 ∧ sK σ b14 = 50 ∧ 0 ≤ (4 * (((21 * (fI σ 797 a0)) + v8) - 1)) ∧ (4 * (((21 * (fI σ 797 a0)) + v8) - 1)) < sZ σ b14 ∧ (Q32 (aI σ b14 (4 * (((21 * (fI σ 797 a0)) + v8) - 1)).toNat) → Aw Ω M_Mdl_patch R F k n 270 [xr (some a0), xi v1, xi v2, xi v3, xi v4, xi v5, xi v6, xi v7, xi v8, xi ((21 * (fI σ 797 a0)) + v8), xu, xu, xu, xu, xu, xu] [xi ((aI σ b8 (((21 * (fI σ 797 a0)) + v8) - 1).toNat) + (aI σ b14 (4 * (((21 * (fI σ 797 a0)) + v8) - 1)).toNat))] σ))))) ∧ (v8 = (0 : Int) → Aw Ω M_Mdl_patch R F k n 270 [xr (some a0), xi v1, xi v2, xi v3, xi v4, xi v5, xi v6, xi v7, xi v8, xi ((21 * (fI σ 797 a0)) + v8), xu, xu, xu, xu, xu, xu] [xi 0] σ)))))) : Aw Ω M_Mdl_patch R F k n 221 [xr (some a0), xi v1, xi v2, xi v3, xi v4, xi v5, xi v6, xi v7, xi v8, xu, xu, xu, xu, xu, xu, xu] [] σ := by
  refine Aw.iload rfl d_Mdl_patch_221 ?_
  refine Aw.iload rfl d_Mdl_patch_223 ?_
  obtain ⟨o1, h⟩ := h
  obtain ⟨o2, h⟩ := h
  obtain ⟨ht, hf⟩ := h
  refine Aw.icmp_ge (tgt := 515) o1 o2 (by decide) d_Mdl_patch_225 (fun c21 => ?_) (fun c21 => ?_)
  · have h := ht c21
    refine Aw.aload_n rfl d_Mdl_patch_515 ?_
    refine Aw.dup rfl d_Mdl_patch_516 ?_
    obtain ⟨o3, h⟩ := h
    refine Aw.getI (f := 797) 12 29 fl_Mdl_317 (by decide) (by decide) rfl rfl o3 d_Mdl_patch_517 (fun r4 => ?_)
    have h := h r4
    refine Aw.iconst d_Mdl_patch_520 ?_
    refine Aw.iadd d_Mdl_patch_521 ?_
    obtain ⟨o5, h⟩ := h
    refine Aw.putI (f := 797) 12 29 fl_Mdl_317 (by decide) (by decide) rfl rfl o3 rfl o5 (Or.inl rfl) d_Mdl_patch_522 ?_
    exact h
  · have h := hf c21
    refine Aw.bipush (by decide) d_Mdl_patch_228 ?_
    refine Aw.aload_n rfl d_Mdl_patch_230 ?_
    obtain ⟨o6, h⟩ := h
    refine Aw.getI (f := 797) 12 29 fl_Mdl_317 (by decide) (by decide) rfl rfl o6 d_Mdl_patch_231 (fun r7 => ?_)
    have h := h r7
    refine Aw.imul d_Mdl_patch_234 ?_
    refine Aw.iload rfl d_Mdl_patch_235 ?_
    refine Aw.iadd d_Mdl_patch_237 ?_
    refine Aw.istore (by decide) d_Mdl_patch_238 ?_
    refine Aw.toL (L' := [xr (some a0), xi v1, xi v2, xi v3, xi v4, xi v5, xi v6, xi v7, xi v8, xi ((21 * (fI σ 797 a0)) + v8), xu, xu, xu, xu, xu, xu]) rfl ?_
    refine Aw.iload rfl d_Mdl_patch_240 ?_
    obtain ⟨ht, hf⟩ := h
    refine Aw.if_ne (tgt := 249) o1 (by decide) d_Mdl_patch_242 (fun c20 => ?_) (fun c20 => ?_)
    · have h := ht c20
      refine Aw.aload_n rfl d_Mdl_patch_249 ?_
      obtain ⟨b8, e9, h⟩ := h
      refine Aw.getRs (f := 799) 12 31 fl_Mdl_62 (by decide) (by decide) rfl rfl o6 e9 d_Mdl_patch_250 ?_
      refine Aw.iload rfl d_Mdl_patch_253 ?_
      refine Aw.iconst d_Mdl_patch_255 ?_
      refine Aw.isub d_Mdl_patch_256 ?_
      obtain ⟨o10, h⟩ := h
      obtain ⟨o11, o12, h⟩ := h
      refine Aw.iald o10 o11 o12 d_Mdl_patch_257 (fun r13 => ?_)
      have h := h r13
      refine Aw.aload_n rfl d_Mdl_patch_258 ?_
      obtain ⟨b14, e15, h⟩ := h
      refine Aw.getRs (f := 801) 12 33 fl_Mdl_68 (by decide) (by decide) rfl rfl o6 e15 d_Mdl_patch_259 ?_
      refine Aw.iconst d_Mdl_patch_262 ?_
      refine Aw.iload rfl d_Mdl_patch_263 ?_
      refine Aw.iconst d_Mdl_patch_265 ?_
      refine Aw.isub d_Mdl_patch_266 ?_
      refine Aw.imul d_Mdl_patch_267 ?_
      obtain ⟨o16, h⟩ := h
      obtain ⟨o17, o18, h⟩ := h
      refine Aw.iald o16 o17 o18 d_Mdl_patch_268 (fun r19 => ?_)
      have h := h r19
      refine Aw.iadd d_Mdl_patch_269 ?_
      exact h
    · have h := hf c20
      refine Aw.iconst d_Mdl_patch_245 ?_
      refine Aw.goto (tgt := 270) (by decide) d_Mdl_patch_246 ?_
      exact h
theorem b_Mdl_patch_270 {Ω : Om} {R : Room} {F : QF} {k n : Nat} {σ : Sto} {a0 : Nat} {v1 : Int} {v2 : Int} {v3 : Int} {v4 : Int} {v5 : Int} {v6 : Int} {v7 : Int} {v8 : Int} {v9 : Int} {s0 : Int} (h : sK σ a0 = 13 ∧ (∃ b2 : Nat, fR σ 799 a0 = some b2 ∧ sK σ b2 = 50 ∧ 0 ≤ v9 ∧ v9 < sZ σ b2 ∧ (Q32 (aI σ b2 (v9).toNat) → (∃ b8 : Nat, fR σ 801 a0 = some b8 ∧ sK σ b8 = 50 ∧ 0 ≤ (4 * v9) ∧ (4 * v9) < sZ σ b8 ∧ (Q32 (aI σ b8 (4 * v9).toNat) → Q32 v8 ∧ Q32 (v5 - 1) ∧ ((¬ v8 = (v5 - 1) → 0 ≤ (v9 + 1) ∧ (v9 + 1) < sZ σ b2 ∧ (Q32 (aI σ b2 (v9 + 1).toNat) → (Q32 (aI σ b2 (v9).toNat) → Q32 ((aI σ b2 (v9).toNat) - s0) ∧ Q32 v3 ∧ ((v3 ≤ ((aI σ b2 (v9).toNat) - s0) → Q32 ((aI σ b2 (v9 + 1).toNat) - ((aI σ b2 (v9).toNat) + (aI σ b8 (4 * v9).toNat))) ∧ ((v3 ≤ ((aI σ b2 (v9 + 1).toNat) - ((aI σ b2 (v9).toNat) + (aI σ b8 (4 * v9).toNat))) → 0 ≤ ((4 * v9) + 2) ∧ ((4 * v9) + 2) < sZ σ b8 ∧ 0 ≤ ((4 * v9) + 3) ∧ ((4 * v9) + 3) < sZ σ b8 ∧ Aw Ω M_Mdl_patch R F k n 399 [xr (some a0), xi v1, xi v2, xi v3, xi v4, xi v5, xi v6, xi v7, xi v8, xi v9, xi s0, xi ((aI σ b2 (v9).toNat) + (aI σ b8 (4 * v9).toNat)), xi (aI σ b2 (v9 + 1).toNat), xi v3, xi v3, xi 0] [] (vI (vI σ b8 ((4 * v9) + 2).toNat v3) b8 ((4 * v9) + 3).toNat v3)) ∧ (¬ v3 ≤ ((aI σ b2 (v9 + 1).toNat) - ((aI σ b2 (v9).toNat) + (aI σ b8 (4 * v9).toNat))) → 0 ≤ ((4 * v9) + 2) ∧ ((4 * v9) + 2) < sZ σ b8 ∧ 0 ≤ ((4 * v9) + 3) ∧ ((4 * v9) + 3) < sZ σ b8 ∧ Aw Ω M_Mdl_patch R F k n 399 [xr (some a0), xi v1, xi v2, xi v3, xi v4, xi v5, xi v6, xi v7, xi v8, xi v9, xi s0, xi ((aI σ b2 (v9).toNat) + (aI σ b8 (4 * v9).toNat)), xi (aI σ b2 (v9 + 1).toNat), xi v3, xi ((aI σ b2 (v9 + 1).toNat) - ((aI σ b2 (v9).toNat) + (aI σ b8 (4 * v9).toNat))), xi 0] [] (vI (vI σ b8 ((4 * v9) + 2).toNat v3) b8 ((4 * v9) + 3).toNat ((aI σ b2 (v9 + 1).toNat) - ((aI σ b2 (v9).toNat) + (aI σ b8 (4 * v9).toNat))))))) ∧ (¬ v3 ≤ ((aI σ b2 (v9).toNat) - s0) → (Q32 (aI σ b2 (v9).toNat) → Q32 ((aI σ b2 (v9 + 1).toNat) - ((aI σ b2 (v9).toNat) + (aI σ b8 (4 * v9).toNat))) ∧ ((v3 ≤ ((aI σ b2 (v9 + 1).toNat) - ((aI σ b2 (v9).toNat) + (aI σ b8 (4 * v9).toNat))) → 0 ≤ ((4 * v9) + 2) ∧ ((4 * v9) + 2) < sZ σ b8 ∧ 0 ≤ ((4 * v9) + 3) ∧ ((4 * v9) + 3) < sZ σ b8 ∧ Aw Ω M_Mdl_patch R F k n 399 [xr (some a0), xi v1, xi v2, xi v3, xi v4, xi v5, xi v6, xi v7, xi v8, xi v9, xi s0, xi ((aI σ b2 (v9).toNat) + (aI σ b8 (4 * v9).toNat)), xi (aI σ b2 (v9 + 1).toNat), xi ((aI σ b2 (v9).toNat) - s0), xi v3, xi 0] [] (vI (vI σ b8 ((4 * v9) + 2).toNat ((aI σ b2 (v9).toNat) - s0)) b8 ((4 * v9) + 3).toNat v3)) ∧ (¬ v3 ≤ ((aI σ b2 (v9 + 1).toNat) - ((aI σ b2 (v9).toNat) + (aI σ b8 (4 * v9).toNat))) → 0 ≤ ((4 * v9) + 2) ∧ ((4 * v9) + 2) < sZ σ b8 ∧ 0 ≤ ((4 * v9) + 3) ∧ ((4 * v9) + 3) < sZ σ b8 ∧ Aw Ω M_Mdl_patch R F k n 399 [xr (some a0), xi v1, xi v2, xi v3, xi v4, xi v5, xi v6, xi v7, xi v8, xi v9, xi s0, xi ((aI σ b2 (v9).toNat) + (aI σ b8 (4 * v9).toNat)), xi (aI σ b2 (v9 + 1).toNat), xi ((aI σ b2 (v9).toNat) - s0), xi ((aI σ b2 (v9 + 1).toNat) - ((aI σ b2 (v9).toNat) + (aI σ b8 (4 * v9).toNat))), xi 0] [] (vI (vI σ b8 ((4 * v9) + 2).toNat ((aI σ b2 (v9).toNat) - s0)) b8 ((4 * v9) + 3).toNat ((aI σ b2 (v9 + 1).toNat) - ((aI σ b2 (v9).toNat) + (aI σ b8 (4 * v9).toNat)))))))))))) ∧ (v8 = (v5 - 1) → (∃ b44 : Nat, fR σ 774 a0 = some b44 ∧ sK σ b44 = 50 ∧ 0 ≤ v1 ∧ v1 < sZ σ b44 ∧ (Q32 (aI σ b44 (v1).toNat) → (Q32 (aI σ b2 (v9).toNat) → Q32 ((aI σ b2 (v9).toNat) - s0) ∧ Q32 v3 ∧ ((v3 ≤ ((aI σ b2 (v9).toNat) - s0) → Q32 ((aI σ b44 (v1).toNat) - ((aI σ b2 (v9).toNat) + (aI σ b8 (4 * v9).toNat))) ∧ ((v3 ≤ ((aI σ b44 (v1).toNat) - ((aI σ b2 (v9).toNat) + (aI σ b8 (4 * v9).toNat))) → 0 ≤ ((4 * v9) + 2) ∧ ((4 * v9) + 2) < sZ σ b8 ∧ 0 ≤ ((4 * v9) + 3) ∧ ((4 * v9) + 3) < sZ σ b8 ∧ Aw Ω M_Mdl_patch R F k n 399 [xr (some a0), xi v1, xi v2, xi v3, xi v4, xi v5, xi v6, xi v7, xi v8, xi v9, xi s0, xi ((aI σ b2 (v9).toNat) + (aI σ b8 (4 * v9).toNat)), xi (aI σ b44 (v1).toNat), xi v3, xi v3, xi 0] [] (vI (vI σ b8 ((4 * v9) + 2).toNat v3) b8 ((4 * v9) + 3).toNat v3)) ∧ (¬ v3 ≤ ((aI σ b44 (v1).toNat) - ((aI σ b2 (v9).toNat) + (aI σ b8 (4 * v9).toNat))) → 0 ≤ ((4 * v9) + 2) ∧ ((4 * v9) + 2) < sZ σ b8 ∧ 0 ≤ ((4 * v9) + 3) ∧ ((4 * v9) + 3) < sZ σ b8 ∧ Aw Ω M_Mdl_patch R F k n 399 [xr (some a0), xi v1, xi v2, xi v3, xi v4, xi v5, xi v6, xi v7, xi v8, xi v9, xi s0, xi ((aI σ b2 (v9).toNat) + (aI σ b8 (4 * v9).toNat)), xi (aI σ b44 (v1).toNat), xi v3, xi ((aI σ b44 (v1).toNat) - ((aI σ b2 (v9).toNat) + (aI σ b8 (4 * v9).toNat))), xi 0] [] (vI (vI σ b8 ((4 * v9) + 2).toNat v3) b8 ((4 * v9) + 3).toNat ((aI σ b44 (v1).toNat) - ((aI σ b2 (v9).toNat) + (aI σ b8 (4 * v9).toNat))))))) ∧ (¬ v3 ≤ ((aI σ b2 (v9).toNat) - s0) → (Q32 (aI σ b2 (v9).toNat) → Q32 ((aI σ b44 (v1).toNat) - ((aI σ b2 (v9).toNat) + (aI σ b8 (4 * v9).toNat))) ∧ ((v3 ≤ ((aI σ b44 (v1).toNat) - ((aI σ b2 (v9).toNat) + (aI σ b8 (4 * v9).toNat))) → 0 ≤ ((4 * v9) + 2) ∧ ((4 * v9) + 2) < sZ σ b8 ∧ 0 ≤ ((4 * v9) + 3) ∧ ((4 * v9) + 3) < sZ σ b8 ∧ Aw Ω M_Mdl_patch R F k n 399 [xr (some a0), xi v1, xi v2, xi v3, xi v4, xi v5, xi v6, xi v7, xi v8, xi v9, xi s0, xi ((aI σ b2 (v9).toNat) + (aI σ b8 (4 * v9).toNat)), xi (aI σ b44 (v1).toNat), xi ((aI σ b2 (v9).toNat) - s0), xi v3, xi 0] [] (vI (vI σ b8 ((4 * v9) + 2).toNat ((aI σ b2 (v9).toNat) - s0)) b8 ((4 * v9) + 3).toNat v3)) ∧ (¬ v3 ≤ ((aI σ b44 (v1).toNat) - ((aI σ b2 (v9).toNat) + (aI σ b8 (4 * v9).toNat))) → 0 ≤ ((4 * v9) + 2) ∧ ((4 * v9) + 2) < sZ σ b8 ∧ 0 ≤ ((4 * v9) + 3) ∧ ((4 * v9) + 3) < sZ σ b8 ∧ Aw Ω M_Mdl_patch R F k n 399 [xr (some a0), xi v1, xi v2, xi v3, xi v4, xi v5, xi v6, xi v7, xi v8, xi v9, xi s0, xi ((aI σ b2 (v9).toNat) + (aI σ b8 (4 * v9).toNat)), xi (aI σ b44 (v1).toNat), xi ((aI σ b2 (v9).toNat) - s0), xi ((aI σ b44 (v1).toNat) - ((aI σ b2 (v9).toNat) + (aI σ b8 (4 * v9).toNat))), xi 0] [] (vI (vI σ b8 ((4 * v9) + 2).toNat ((aI σ b2 (v9).toNat) - s0)) b8 ((4 * v9) + 3).toNat ((aI σ b44 (v1).toNat) - ((aI σ b2 (v9).toNat) + (aI σ b8 (4 * v9).toNat))))))))))))))))))) : Aw Ω M_Mdl_patch R F k n 270 [xr (some a0), xi v1, xi v2, xi v3, xi v4, xi v5, xi v6, xi v7, xi v8, xi v9, xu, xu, xu, xu, xu, xu] [xi s0] σ := by
  refine Aw.istore (by decide) d_Mdl_patch_270 ?_
  refine Aw.toL (L' := [xr (some a0), xi v1, xi v2, xi v3, xi v4, xi v5, xi v6, xi v7, xi v8, xi v9, xi s0, xu, xu, xu, xu, xu]) rfl ?_
  refine Aw.aload_n rfl d_Mdl_patch_272 ?_
  obtain ⟨o1, h⟩ := h
  obtain ⟨b2, e3, h⟩ := h
  refine Aw.getRs (f := 799) 12 31 fl_Mdl_62 (by decide) (by decide) rfl rfl o1 e3 d_Mdl_patch_273 ?_
  refine Aw.iload rfl d_Mdl_patch_276 ?_
  obtain ⟨o4, h⟩ := h
  obtain ⟨o5, o6, h⟩ := h
  refine Aw.iald o4 o5 o6 d_Mdl_patch_278 (fun r7 => ?_)
  have h := h r7
  refine Aw.aload_n rfl d_Mdl_patch_279 ?_
  obtain ⟨b8, e9, h⟩ := h
  refine Aw.getRs (f := 801) 12 33 fl_Mdl_68 (by decide) (by decide) rfl rfl o1 e9 d_Mdl_patch_280 ?_
  refine Aw.iconst d_Mdl_patch_283 ?_
  refine Aw.iload rfl d_Mdl_patch_284 ?_
  refine Aw.imul d_Mdl_patch_286 ?_
  obtain ⟨o10, h⟩ := h
  obtain ⟨o11, o12, h⟩ := h
  refine Aw.iald o10 o11 o12 d_Mdl_patch_287 (fun r13 => ?_)
  have h := h r13
  refine Aw.iadd d_Mdl_patch_288 ?_
  refine Aw.istore (by decide) d_Mdl_patch_289 ?_
  refine Aw.toL (L' := [xr (some a0), xi v1, xi v2, xi v3, xi v4, xi v5, xi v6, xi v7, xi v8, xi v9, xi s0, xi ((aI σ b2 (v9).toNat) + (aI σ b8 (4 * v9).toNat)), xu, xu, xu, xu]) rfl ?_
  refine Aw.iload rfl d_Mdl_patch_291 ?_
  refine Aw.iload rfl d_Mdl_patch_293 ?_
  refine Aw.iconst d_Mdl_patch_295 ?_
  refine Aw.isub d_Mdl_patch_296 ?_
  obtain ⟨o14, h⟩ := h
  obtain ⟨o15, h⟩ := h
  obtain ⟨ht, hf⟩ := h
  refine Aw.icmp_ne (tgt := 309) o14 o15 (by decide) d_Mdl_patch_297 (fun c75 => ?_) (fun c75 => ?_)
  · have h := ht c75
    refine Aw.aload_n rfl d_Mdl_patch_309 ?_
    refine Aw.getRs (f := 799) 12 31 fl_Mdl_62 (by decide) (by decide) rfl rfl o1 e3 d_Mdl_patch_310 ?_
    refine Aw.iload rfl d_Mdl_patch_313 ?_
    refine Aw.iconst d_Mdl_patch_315 ?_
    refine Aw.iadd d_Mdl_patch_316 ?_
    obtain ⟨o16, o17, h⟩ := h
    refine Aw.iald o4 o16 o17 d_Mdl_patch_317 (fun r18 => ?_)
    have h := h r18
    refine Aw.istore (by decide) d_Mdl_patch_318 ?_
    refine Aw.toL (L' := [xr (some a0), xi v1, xi v2, xi v3, xi v4, xi v5, xi v6, xi v7, xi v8, xi v9, xi s0, xi ((aI σ b2 (v9).toNat) + (aI σ b8 (4 * v9).toNat)), xi (aI σ b2 (v9 + 1).toNat), xu, xu, xu]) rfl ?_
    refine Aw.aload_n rfl d_Mdl_patch_320 ?_
    refine Aw.getRs (f := 799) 12 31 fl_Mdl_62 (by decide) (by decide) rfl rfl o1 e3 d_Mdl_patch_321 ?_
    refine Aw.iload rfl d_Mdl_patch_324 ?_
    refine Aw.iald o4 o5 o6 d_Mdl_patch_326 (fun r19 => ?_)
    have h := h r19
    refine Aw.iload rfl d_Mdl_patch_327 ?_
    refine Aw.isub d_Mdl_patch_329 ?_
    refine Aw.iload_n rfl d_Mdl_patch_330 ?_
    obtain ⟨o20, h⟩ := h
    obtain ⟨o21, h⟩ := h
    obtain ⟨ht, hf⟩ := h
    refine Aw.icmp_ge (tgt := 347) o20 o21 (by decide) d_Mdl_patch_331 (fun c43 => ?_) (fun c43 => ?_)
    · have h := ht c43
      refine Aw.iload_n rfl d_Mdl_patch_347 ?_
      refine Aw.istore (by decide) d_Mdl_patch_348 ?_
      refine Aw.toL (L' := [xr (some a0), xi v1, xi v2, xi v3, xi v4, xi v5, xi v6, xi v7, xi v8, xi v9, xi s0, xi ((aI σ b2 (v9).toNat) + (aI σ b8 (4 * v9).toNat)), xi (aI σ b2 (v9 + 1).toNat), xi v3, xu, xu]) rfl ?_
      refine Aw.iload rfl d_Mdl_patch_350 ?_
      refine Aw.iload rfl d_Mdl_patch_352 ?_
      refine Aw.isub d_Mdl_patch_354 ?_
      refine Aw.iload_n rfl d_Mdl_patch_355 ?_
      obtain ⟨o22, h⟩ := h
      obtain ⟨ht, hf⟩ := h
      refine Aw.icmp_ge (tgt := 367) o22 o21 (by decide) d_Mdl_patch_356 (fun c31 => ?_) (fun c31 => ?_)
      · have h := ht c31
        refine Aw.iload_n rfl d_Mdl_patch_367 ?_
        refine Aw.istore (by decide) d_Mdl_patch_368 ?_
        refine Aw.toL (L' := [xr (some a0), xi v1, xi v2, xi v3, xi v4, xi v5, xi v6, xi v7, xi v8, xi v9, xi s0, xi ((aI σ b2 (v9).toNat) + (aI σ b8 (4 * v9).toNat)), xi (aI σ b2 (v9 + 1).toNat), xi v3, xi v3, xu]) rfl ?_
        refine Aw.aload_n rfl d_Mdl_patch_370 ?_
        refine Aw.getRs (f := 801) 12 33 fl_Mdl_68 (by decide) (by decide) rfl rfl o1 e9 d_Mdl_patch_371 ?_
        refine Aw.iconst d_Mdl_patch_374 ?_
        refine Aw.iload rfl d_Mdl_patch_375 ?_
        refine Aw.imul d_Mdl_patch_377 ?_
        refine Aw.iconst d_Mdl_patch_378 ?_
        refine Aw.iadd d_Mdl_patch_379 ?_
        refine Aw.iload rfl d_Mdl_patch_380 ?_
        obtain ⟨o23, o24, h⟩ := h
        refine Aw.iast o10 o23 o24 o21 d_Mdl_patch_382 ?_
        refine Aw.aload_n rfl d_Mdl_patch_383 ?_
        refine Aw.getRs (f := 801) 12 33 fl_Mdl_68 (by decide) (by decide) rfl rfl o1 e9 d_Mdl_patch_384 ?_
        refine Aw.iconst d_Mdl_patch_387 ?_
        refine Aw.iload rfl d_Mdl_patch_388 ?_
        refine Aw.imul d_Mdl_patch_390 ?_
        refine Aw.iconst d_Mdl_patch_391 ?_
        refine Aw.iadd d_Mdl_patch_392 ?_
        refine Aw.iload rfl d_Mdl_patch_393 ?_
        obtain ⟨o25, o26, h⟩ := h
        refine Aw.iast o10 o25 o26 o21 d_Mdl_patch_395 ?_
        refine Aw.iconst d_Mdl_patch_396 ?_
        refine Aw.istore (by decide) d_Mdl_patch_397 ?_
        refine Aw.toL (L' := [xr (some a0), xi v1, xi v2, xi v3, xi v4, xi v5, xi v6, xi v7, xi v8, xi v9, xi s0, xi ((aI σ b2 (v9).toNat) + (aI σ b8 (4 * v9).toNat)), xi (aI σ b2 (v9 + 1).toNat), xi v3, xi v3, xi 0]) rfl ?_
        exact h
      · have h := hf c31
        refine Aw.iload rfl d_Mdl_patch_359 ?_
        refine Aw.iload rfl d_Mdl_patch_361 ?_
        refine Aw.isub d_Mdl_patch_363 ?_
        refine Aw.goto (tgt := 368) (by decide) d_Mdl_patch_364 ?_
        refine Aw.istore (by decide) d_Mdl_patch_368 ?_
        refine Aw.toL (L' := [xr (some a0), xi v1, xi v2, xi v3, xi v4, xi v5, xi v6, xi v7, xi v8, xi v9, xi s0, xi ((aI σ b2 (v9).toNat) + (aI σ b8 (4 * v9).toNat)), xi (aI σ b2 (v9 + 1).toNat), xi v3, xi ((aI σ b2 (v9 + 1).toNat) - ((aI σ b2 (v9).toNat) + (aI σ b8 (4 * v9).toNat))), xu]) rfl ?_
        refine Aw.aload_n rfl d_Mdl_patch_370 ?_
        refine Aw.getRs (f := 801) 12 33 fl_Mdl_68 (by decide) (by decide) rfl rfl o1 e9 d_Mdl_patch_371 ?_
        refine Aw.iconst d_Mdl_patch_374 ?_
        refine Aw.iload rfl d_Mdl_patch_375 ?_
        refine Aw.imul d_Mdl_patch_377 ?_
        refine Aw.iconst d_Mdl_patch_378 ?_
        refine Aw.iadd d_Mdl_patch_379 ?_
        refine Aw.iload rfl d_Mdl_patch_380 ?_
        obtain ⟨o27, o28, h⟩ := h
        refine Aw.iast o10 o27 o28 o21 d_Mdl_patch_382 ?_
        refine Aw.aload_n rfl d_Mdl_patch_383 ?_
        refine Aw.getRs (f := 801) 12 33 fl_Mdl_68 (by decide) (by decide) rfl rfl o1 e9 d_Mdl_patch_384 ?_
        refine Aw.iconst d_Mdl_patch_387 ?_
        refine Aw.iload rfl d_Mdl_patch_388 ?_
        refine Aw.imul d_Mdl_patch_390 ?_
        refine Aw.iconst d_Mdl_patch_391 ?_
        refine Aw.iadd d_Mdl_patch_392 ?_
        refine Aw.iload rfl d_Mdl_patch_393 ?_
        obtain ⟨o29, o30, h⟩ := h
        refine Aw.iast o10 o29 o30 o22 d_Mdl_patch_395 ?_
        refine Aw.iconst d_Mdl_patch_396 ?_
        refine Aw.istore (by decide) d_Mdl_patch_397 ?_
        refine Aw.toL (L' := [xr (some a0), xi v1, xi v2, xi v3, xi v4, xi v5, xi v6, xi v7, xi v8, xi v9, xi s0, xi ((aI σ b2 (v9).toNat) + (aI σ b8 (4 * v9).toNat)), xi (aI σ b2 (v9 + 1).toNat), xi v3, xi ((aI σ b2 (v9 + 1).toNat) - ((aI σ b2 (v9).toNat) + (aI σ b8 (4 * v9).toNat))), xi 0]) rfl ?_
        exact h
    · have h := hf c43
      refine Aw.aload_n rfl d_Mdl_patch_334 ?_
      refine Aw.getRs (f := 799) 12 31 fl_Mdl_62 (by decide) (by decide) rfl rfl o1 e3 d_Mdl_patch_335 ?_
      refine Aw.iload rfl d_Mdl_patch_338 ?_
      refine Aw.iald o4 o5 o6 d_Mdl_patch_340 (fun r32 => ?_)
      have h := h r32
      refine Aw.iload rfl d_Mdl_patch_341 ?_
      refine Aw.isub d_Mdl_patch_343 ?_
      refine Aw.goto (tgt := 348) (by decide) d_Mdl_patch_344 ?_
      refine Aw.istore (by decide) d_Mdl_patch_348 ?_
      refine Aw.toL (L' := [xr (some a0), xi v1, xi v2, xi v3, xi v4, xi v5, xi v6, xi v7, xi v8, xi v9, xi s0, xi ((aI σ b2 (v9).toNat) + (aI σ b8 (4 * v9).toNat)), xi (aI σ b2 (v9 + 1).toNat), xi ((aI σ b2 (v9).toNat) - s0), xu, xu]) rfl ?_
      refine Aw.iload rfl d_Mdl_patch_350 ?_
      refine Aw.iload rfl d_Mdl_patch_352 ?_
      refine Aw.isub d_Mdl_patch_354 ?_
      refine Aw.iload_n rfl d_Mdl_patch_355 ?_
      obtain ⟨o33, h⟩ := h
      obtain ⟨ht, hf⟩ := h
      refine Aw.icmp_ge (tgt := 367) o33 o21 (by decide) d_Mdl_patch_356 (fun c42 => ?_) (fun c42 => ?_)
      · have h := ht c42
        refine Aw.iload_n rfl d_Mdl_patch_367 ?_
        refine Aw.istore (by decide) d_Mdl_patch_368 ?_
        refine Aw.toL (L' := [xr (some a0), xi v1, xi v2, xi v3, xi v4, xi v5, xi v6, xi v7, xi v8, xi v9, xi s0, xi ((aI σ b2 (v9).toNat) + (aI σ b8 (4 * v9).toNat)), xi (aI σ b2 (v9 + 1).toNat), xi ((aI σ b2 (v9).toNat) - s0), xi v3, xu]) rfl ?_
        refine Aw.aload_n rfl d_Mdl_patch_370 ?_
        refine Aw.getRs (f := 801) 12 33 fl_Mdl_68 (by decide) (by decide) rfl rfl o1 e9 d_Mdl_patch_371 ?_
        refine Aw.iconst d_Mdl_patch_374 ?_
        refine Aw.iload rfl d_Mdl_patch_375 ?_
        refine Aw.imul d_Mdl_patch_377 ?_
        refine Aw.iconst d_Mdl_patch_378 ?_
        refine Aw.iadd d_Mdl_patch_379 ?_
        refine Aw.iload rfl d_Mdl_patch_380 ?_
        obtain ⟨o34, o35, h⟩ := h
        refine Aw.iast o10 o34 o35 o20 d_Mdl_patch_382 ?_
        refine Aw.aload_n rfl d_Mdl_patch_383 ?_
        refine Aw.getRs (f := 801) 12 33 fl_Mdl_68 (by decide) (by decide) rfl rfl o1 e9 d_Mdl_patch_384 ?_
        refine Aw.iconst d_Mdl_patch_387 ?_
        refine Aw.iload rfl d_Mdl_patch_388 ?_
        refine Aw.imul d_Mdl_patch_390 ?_
        refine Aw.iconst d_Mdl_patch_391 ?_
        refine Aw.iadd d_Mdl_patch_392 ?_
        refine Aw.iload rfl d_Mdl_patch_393 ?_
        obtain ⟨o36, o37, h⟩ := h
        refine Aw.iast o10 o36 o37 o21 d_Mdl_patch_395 ?_
        refine Aw.iconst d_Mdl_patch_396 ?_
        refine Aw.istore (by decide) d_Mdl_patch_397 ?_
        refine Aw.toL (L' := [xr (some a0), xi v1, xi v2, xi v3, xi v4, xi v5, xi v6, xi v7, xi v8, xi v9, xi s0, xi ((aI σ b2 (v9).toNat) + (aI σ b8 (4 * v9).toNat)), xi (aI σ b2 (v9 + 1).toNat), xi ((aI σ b2 (v9).toNat) - s0), xi v3, xi 0]) rfl ?_
        exact h
      · have h := hf c42
        refine Aw.iload rfl d_Mdl_patch_359 ?_
        refine Aw.iload rfl d_Mdl_patch_361 ?_
        refine Aw.isub d_Mdl_patch_363 ?_
        refine Aw.goto (tgt := 368) (by decide) d_Mdl_patch_364 ?_
        refine Aw.istore (by decide) d_Mdl_patch_368 ?_
        refine Aw.toL (L' := [xr (some a0), xi v1, xi v2, xi v3, xi v4, xi v5, xi v6, xi v7, xi v8, xi v9, xi s0, xi ((aI σ b2 (v9).toNat) + (aI σ b8 (4 * v9).toNat)), xi (aI σ b2 (v9 + 1).toNat), xi ((aI σ b2 (v9).toNat) - s0), xi ((aI σ b2 (v9 + 1).toNat) - ((aI σ b2 (v9).toNat) + (aI σ b8 (4 * v9).toNat))), xu]) rfl ?_
        refine Aw.aload_n rfl d_Mdl_patch_370 ?_
        refine Aw.getRs (f := 801) 12 33 fl_Mdl_68 (by decide) (by decide) rfl rfl o1 e9 d_Mdl_patch_371 ?_
        refine Aw.iconst d_Mdl_patch_374 ?_
        refine Aw.iload rfl d_Mdl_patch_375 ?_
        refine Aw.imul d_Mdl_patch_377 ?_
        refine Aw.iconst d_Mdl_patch_378 ?_
        refine Aw.iadd d_Mdl_patch_379 ?_
        refine Aw.iload rfl d_Mdl_patch_380 ?_
        obtain ⟨o38, o39, h⟩ := h
        refine Aw.iast o10 o38 o39 o20 d_Mdl_patch_382 ?_
        refine Aw.aload_n rfl d_Mdl_patch_383 ?_
        refine Aw.getRs (f := 801) 12 33 fl_Mdl_68 (by decide) (by decide) rfl rfl o1 e9 d_Mdl_patch_384 ?_
        refine Aw.iconst d_Mdl_patch_387 ?_
        refine Aw.iload rfl d_Mdl_patch_388 ?_
        refine Aw.imul d_Mdl_patch_390 ?_
        refine Aw.iconst d_Mdl_patch_391 ?_
        refine Aw.iadd d_Mdl_patch_392 ?_
        refine Aw.iload rfl d_Mdl_patch_393 ?_
        obtain ⟨o40, o41, h⟩ := h
        refine Aw.iast o10 o40 o41 o33 d_Mdl_patch_395 ?_
        refine Aw.iconst d_Mdl_patch_396 ?_
        refine Aw.istore (by decide) d_Mdl_patch_397 ?_
        refine Aw.toL (L' := [xr (some a0), xi v1, xi v2, xi v3, xi v4, xi v5, xi v6, xi v7, xi v8, xi v9, xi s0, xi ((aI σ b2 (v9).toNat) + (aI σ b8 (4 * v9).toNat)), xi (aI σ b2 (v9 + 1).toNat), xi ((aI σ b2 (v9).toNat) - s0), xi ((aI σ b2 (v9 + 1).toNat) - ((aI σ b2 (v9).toNat) + (aI σ b8 (4 * v9).toNat))), xi 0]) rfl ?_
        exact h
  · have h := hf c75
    refine Aw.aload_n rfl d_Mdl_patch_300 ?_
    obtain ⟨b44, e45, h⟩ := h
    refine Aw.getRs (f := 774) 12 6 fl_Mdl_20 (by decide) (by decide) rfl rfl o1 e45 d_Mdl_patch_301 ?_
    refine Aw.iload_n rfl d_Mdl_patch_304 ?_
    obtain ⟨o46, h⟩ := h
    obtain ⟨o47, o48, h⟩ := h
    refine Aw.iald o46 o47 o48 d_Mdl_patch_305 (fun r49 => ?_)
    have h := h r49
    refine Aw.goto (tgt := 318) (by decide) d_Mdl_patch_306 ?_
    refine Aw.istore (by decide) d_Mdl_patch_318 ?_
    refine Aw.toL (L' := [xr (some a0), xi v1, xi v2, xi v3, xi v4, xi v5, xi v6, xi v7, xi v8, xi v9, xi s0, xi ((aI σ b2 (v9).toNat) + (aI σ b8 (4 * v9).toNat)), xi (aI σ b44 (v1).toNat), xu, xu, xu]) rfl ?_
    refine Aw.aload_n rfl d_Mdl_patch_320 ?_
    refine Aw.getRs (f := 799) 12 31 fl_Mdl_62 (by decide) (by decide) rfl rfl o1 e3 d_Mdl_patch_321 ?_
    refine Aw.iload rfl d_Mdl_patch_324 ?_
    refine Aw.iald o4 o5 o6 d_Mdl_patch_326 (fun r50 => ?_)
    have h := h r50
    refine Aw.iload rfl d_Mdl_patch_327 ?_
    refine Aw.isub d_Mdl_patch_329 ?_
    refine Aw.iload_n rfl d_Mdl_patch_330 ?_
    obtain ⟨o51, h⟩ := h
    obtain ⟨o52, h⟩ := h
    obtain ⟨ht, hf⟩ := h
    refine Aw.icmp_ge (tgt := 347) o51 o52 (by decide) d_Mdl_patch_331 (fun c74 => ?_) (fun c74 => ?_)
    · have h := ht c74
      refine Aw.iload_n rfl d_Mdl_patch_347 ?_
      refine Aw.istore (by decide) d_Mdl_patch_348 ?_
      refine Aw.toL (L' := [xr (some a0), xi v1, xi v2, xi v3, xi v4, xi v5, xi v6, xi v7, xi v8, xi v9, xi s0, xi ((aI σ b2 (v9).toNat) + (aI σ b8 (4 * v9).toNat)), xi (aI σ b44 (v1).toNat), xi v3, xu, xu]) rfl ?_
      refine Aw.iload rfl d_Mdl_patch_350 ?_
      refine Aw.iload rfl d_Mdl_patch_352 ?_
      refine Aw.isub d_Mdl_patch_354 ?_
      refine Aw.iload_n rfl d_Mdl_patch_355 ?_
      obtain ⟨o53, h⟩ := h
      obtain ⟨ht, hf⟩ := h
      refine Aw.icmp_ge (tgt := 367) o53 o52 (by decide) d_Mdl_patch_356 (fun c62 => ?_) (fun c62 => ?_)
      · have h := ht c62
        refine Aw.iload_n rfl d_Mdl_patch_367 ?_
        refine Aw.istore (by decide) d_Mdl_patch_368 ?_
        refine Aw.toL (L' := [xr (some a0), xi v1, xi v2, xi v3, xi v4, xi v5, xi v6, xi v7, xi v8, xi v9, xi s0, xi ((aI σ b2 (v9).toNat) + (aI σ b8 (4 * v9).toNat)), xi (aI σ b44 (v1).toNat), xi v3, xi v3, xu]) rfl ?_
        refine Aw.aload_n rfl d_Mdl_patch_370 ?_
        refine Aw.getRs (f := 801) 12 33 fl_Mdl_68 (by decide) (by decide) rfl rfl o1 e9 d_Mdl_patch_371 ?_
        refine Aw.iconst d_Mdl_patch_374 ?_
        refine Aw.iload rfl d_Mdl_patch_375 ?_
        refine Aw.imul d_Mdl_patch_377 ?_
        refine Aw.iconst d_Mdl_patch_378 ?_
        refine Aw.iadd d_Mdl_patch_379 ?_
        refine Aw.iload rfl d_Mdl_patch_380 ?_
        obtain ⟨o54, o55, h⟩ := h
        refine Aw.iast o10 o54 o55 o52 d_Mdl_patch_382 ?_
        refine Aw.aload_n rfl d_Mdl_patch_383 ?_
        refine Aw.getRs (f := 801) 12 33 fl_Mdl_68 (by decide) (by decide) rfl rfl o1 e9 d_Mdl_patch_384 ?_
        refine Aw.iconst d_Mdl_patch_387 ?_
        refine Aw.iload rfl d_Mdl_patch_388 ?_
        refine Aw.imul d_Mdl_patch_390 ?_
        refine Aw.iconst d_Mdl_patch_391 ?_
        refine Aw.iadd d_Mdl_patch_392 ?_
        refine Aw.iload rfl d_Mdl_patch_393 ?_
        obtain ⟨o56, o57, h⟩ := h
        refine Aw.iast o10 o56 o57 o52 d_Mdl_patch_395 ?_
        refine Aw.iconst d_Mdl_patch_396 ?_
        refine Aw.istore (by decide) d_Mdl_patch_397 ?_
        refine Aw.toL (L' := [xr (some a0), xi v1, xi v2, xi v3, xi v4, xi v5, xi v6, xi v7, xi v8, xi v9, xi s0, xi ((aI σ b2 (v9).toNat) + (aI σ b8 (4 * v9).toNat)), xi (aI σ b44 (v1).toNat), xi v3, xi v3, xi 0]) rfl ?_
        exact h
      · have h := hf c62
        refine Aw.iload rfl d_Mdl_patch_359 ?_
        refine Aw.iload rfl d_Mdl_patch_361 ?_
        refine Aw.isub d_Mdl_patch_363 ?_
        refine Aw.goto (tgt := 368) (by decide) d_Mdl_patch_364 ?_
        refine Aw.istore (by decide) d_Mdl_patch_368 ?_
        refine Aw.toL (L' := [xr (some a0), xi v1, xi v2, xi v3, xi v4, xi v5, xi v6, xi v7, xi v8, xi v9, xi s0, xi ((aI σ b2 (v9).toNat) + (aI σ b8 (4 * v9).toNat)), xi (aI σ b44 (v1).toNat), xi v3, xi ((aI σ b44 (v1).toNat) - ((aI σ b2 (v9).toNat) + (aI σ b8 (4 * v9).toNat))), xu]) rfl ?_
        refine Aw.aload_n rfl d_Mdl_patch_370 ?_
        refine Aw.getRs (f := 801) 12 33 fl_Mdl_68 (by decide) (by decide) rfl rfl o1 e9 d_Mdl_patch_371 ?_
        refine Aw.iconst d_Mdl_patch_374 ?_
        refine Aw.iload rfl d_Mdl_patch_375 ?_
        refine Aw.imul d_Mdl_patch_377 ?_
        refine Aw.iconst d_Mdl_patch_378 ?_
        refine Aw.iadd d_Mdl_patch_379 ?_
        refine Aw.iload rfl d_Mdl_patch_380 ?_
        obtain ⟨o58, o59, h⟩ := h
        refine Aw.iast o10 o58 o59 o52 d_Mdl_patch_382 ?_
        refine Aw.aload_n rfl d_Mdl_patch_383 ?_
        refine Aw.getRs (f := 801) 12 33 fl_Mdl_68 (by decide) (by decide) rfl rfl o1 e9 d_Mdl_patch_384 ?_
        refine Aw.iconst d_Mdl_patch_387 ?_
        refine Aw.iload rfl d_Mdl_patch_388 ?_
        refine Aw.imul d_Mdl_patch_390 ?_
        refine Aw.iconst d_Mdl_patch_391 ?_
        refine Aw.iadd d_Mdl_patch_392 ?_
        refine Aw.iload rfl d_Mdl_patch_393 ?_
        obtain ⟨o60, o61, h⟩ := h
        refine Aw.iast o10 o60 o61 o53 d_Mdl_patch_395 ?_
        refine Aw.iconst d_Mdl_patch_396 ?_
        refine Aw.istore (by decide) d_Mdl_patch_397 ?_
        refine Aw.toL (L' := [xr (some a0), xi v1, xi v2, xi v3, xi v4, xi v5, xi v6, xi v7, xi v8, xi v9, xi s0, xi ((aI σ b2 (v9).toNat) + (aI σ b8 (4 * v9).toNat)), xi (aI σ b44 (v1).toNat), xi v3, xi ((aI σ b44 (v1).toNat) - ((aI σ b2 (v9).toNat) + (aI σ b8 (4 * v9).toNat))), xi 0]) rfl ?_
        exact h
    · have h := hf c74
      refine Aw.aload_n rfl d_Mdl_patch_334 ?_
      refine Aw.getRs (f := 799) 12 31 fl_Mdl_62 (by decide) (by decide) rfl rfl o1 e3 d_Mdl_patch_335 ?_
      refine Aw.iload rfl d_Mdl_patch_338 ?_
      refine Aw.iald o4 o5 o6 d_Mdl_patch_340 (fun r63 => ?_)
      have h := h r63
      refine Aw.iload rfl d_Mdl_patch_341 ?_
      refine Aw.isub d_Mdl_patch_343 ?_
      refine Aw.goto (tgt := 348) (by decide) d_Mdl_patch_344 ?_
      refine Aw.istore (by decide) d_Mdl_patch_348 ?_
      refine Aw.toL (L' := [xr (some a0), xi v1, xi v2, xi v3, xi v4, xi v5, xi v6, xi v7, xi v8, xi v9, xi s0, xi ((aI σ b2 (v9).toNat) + (aI σ b8 (4 * v9).toNat)), xi (aI σ b44 (v1).toNat), xi ((aI σ b2 (v9).toNat) - s0), xu, xu]) rfl ?_
      refine Aw.iload rfl d_Mdl_patch_350 ?_
      refine Aw.iload rfl d_Mdl_patch_352 ?_
      refine Aw.isub d_Mdl_patch_354 ?_
      refine Aw.iload_n rfl d_Mdl_patch_355 ?_
      obtain ⟨o64, h⟩ := h
      obtain ⟨ht, hf⟩ := h
      refine Aw.icmp_ge (tgt := 367) o64 o52 (by decide) d_Mdl_patch_356 (fun c73 => ?_) (fun c73 => ?_)
      · have h := ht c73
        refine Aw.iload_n rfl d_Mdl_patch_367 ?_
        refine Aw.istore (by decide) d_Mdl_patch_368 ?_
        refine Aw.toL (L' := [xr (some a0), xi v1, xi v2, xi v3, xi v4, xi v5, xi v6, xi v7, xi v8, xi v9, xi s0, xi ((aI σ b2 (v9).toNat) + (aI σ b8 (4 * v9).toNat)), xi (aI σ b44 (v1).toNat), xi ((aI σ b2 (v9).toNat) - s0), xi v3, xu]) rfl ?_
        refine Aw.aload_n rfl d_Mdl_patch_370 ?_
        refine Aw.getRs (f := 801) 12 33 fl_Mdl_68 (by decide) (by decide) rfl rfl o1 e9 d_Mdl_patch_371 ?_
        refine Aw.iconst d_Mdl_patch_374 ?_
        refine Aw.iload rfl d_Mdl_patch_375 ?_
        refine Aw.imul d_Mdl_patch_377 ?_
        refine Aw.iconst d_Mdl_patch_378 ?_
        refine Aw.iadd d_Mdl_patch_379 ?_
        refine Aw.iload rfl d_Mdl_patch_380 ?_
        obtain ⟨o65, o66, h⟩ := h
        refine Aw.iast o10 o65 o66 o51 d_Mdl_patch_382 ?_
        refine Aw.aload_n rfl d_Mdl_patch_383 ?_
        refine Aw.getRs (f := 801) 12 33 fl_Mdl_68 (by decide) (by decide) rfl rfl o1 e9 d_Mdl_patch_384 ?_
        refine Aw.iconst d_Mdl_patch_387 ?_
        refine Aw.iload rfl d_Mdl_patch_388 ?_
        refine Aw.imul d_Mdl_patch_390 ?_
        refine Aw.iconst d_Mdl_patch_391 ?_
        refine Aw.iadd d_Mdl_patch_392 ?_
        refine Aw.iload rfl d_Mdl_patch_393 ?_
        obtain ⟨o67, o68, h⟩ := h
        refine Aw.iast o10 o67 o68 o52 d_Mdl_patch_395 ?_
        refine Aw.iconst d_Mdl_patch_396 ?_
        refine Aw.istore (by decide) d_Mdl_patch_397 ?_
        refine Aw.toL (L' := [xr (some a0), xi v1, xi v2, xi v3, xi v4, xi v5, xi v6, xi v7, xi v8, xi v9, xi s0, xi ((aI σ b2 (v9).toNat) + (aI σ b8 (4 * v9).toNat)), xi (aI σ b44 (v1).toNat), xi ((aI σ b2 (v9).toNat) - s0), xi v3, xi 0]) rfl ?_
        exact h
      · have h := hf c73
        refine Aw.iload rfl d_Mdl_patch_359 ?_
        refine Aw.iload rfl d_Mdl_patch_361 ?_
        refine Aw.isub d_Mdl_patch_363 ?_
        refine Aw.goto (tgt := 368) (by decide) d_Mdl_patch_364 ?_
        refine Aw.istore (by decide) d_Mdl_patch_368 ?_
        refine Aw.toL (L' := [xr (some a0), xi v1, xi v2, xi v3, xi v4, xi v5, xi v6, xi v7, xi v8, xi v9, xi s0, xi ((aI σ b2 (v9).toNat) + (aI σ b8 (4 * v9).toNat)), xi (aI σ b44 (v1).toNat), xi ((aI σ b2 (v9).toNat) - s0), xi ((aI σ b44 (v1).toNat) - ((aI σ b2 (v9).toNat) + (aI σ b8 (4 * v9).toNat))), xu]) rfl ?_
        refine Aw.aload_n rfl d_Mdl_patch_370 ?_
        refine Aw.getRs (f := 801) 12 33 fl_Mdl_68 (by decide) (by decide) rfl rfl o1 e9 d_Mdl_patch_371 ?_
        refine Aw.iconst d_Mdl_patch_374 ?_
        refine Aw.iload rfl d_Mdl_patch_375 ?_
        refine Aw.imul d_Mdl_patch_377 ?_
        refine Aw.iconst d_Mdl_patch_378 ?_
        refine Aw.iadd d_Mdl_patch_379 ?_
        refine Aw.iload rfl d_Mdl_patch_380 ?_
        obtain ⟨o69, o70, h⟩ := h
        refine Aw.iast o10 o69 o70 o51 d_Mdl_patch_382 ?_
        refine Aw.aload_n rfl d_Mdl_patch_383 ?_
        refine Aw.getRs (f := 801) 12 33 fl_Mdl_68 (by decide) (by decide) rfl rfl o1 e9 d_Mdl_patch_384 ?_
        refine Aw.iconst d_Mdl_patch_387 ?_
        refine Aw.iload rfl d_Mdl_patch_388 ?_
        refine Aw.imul d_Mdl_patch_390 ?_
        refine Aw.iconst d_Mdl_patch_391 ?_
        refine Aw.iadd d_Mdl_patch_392 ?_
        refine Aw.iload rfl d_Mdl_patch_393 ?_
        obtain ⟨o71, o72, h⟩ := h
        refine Aw.iast o10 o71 o72 o64 d_Mdl_patch_395 ?_
        refine Aw.iconst d_Mdl_patch_396 ?_
        refine Aw.istore (by decide) d_Mdl_patch_397 ?_
        refine Aw.toL (L' := [xr (some a0), xi v1, xi v2, xi v3, xi v4, xi v5, xi v6, xi v7, xi v8, xi v9, xi s0, xi ((aI σ b2 (v9).toNat) + (aI σ b8 (4 * v9).toNat)), xi (aI σ b44 (v1).toNat), xi ((aI σ b2 (v9).toNat) - s0), xi ((aI σ b44 (v1).toNat) - ((aI σ b2 (v9).toNat) + (aI σ b8 (4 * v9).toNat))), xi 0]) rfl ?_
        exact h
theorem b_Mdl_patch_399 {Ω : Om} {R : Room} {F : QF} {k n : Nat} {σ : Sto} {a0 : Nat} {v1 : Int} {v2 : Int} {v3 : Int} {v4 : Int} {v5 : Int} {v6 : Int} {v7 : Int} {v8 : Int} {v9 : Int} {v10 : Int} {v11 : Int} {v12 : Int} {v13 : Int} {v14 : Int} {v15 : Int} (h : Q32 v15 ∧ (((3 : Int) ≤ v15 → Aw Ω M_Mdl_patch R F k n 221 [xr (some a0), xi v1, xi v2, xi v3, xi v4, xi v5, xi v6, xi v7, xi (v8 + 1), xu, xu, xu, xu, xu, xu, xu] [] σ) ∧ (¬ (3 : Int) ≤ v15 → sK σ a0 = 13 ∧ (∃ b3 : Nat, fR σ 803 a0 = some b3 ∧ Q32 v13 ∧ ((v13 ≤ v15 → sK σ b3 = 51 ∧ 0 ≤ ((6 * v9) + v15) ∧ ((6 * v9) + v15) < sZ σ b3 ∧ Aw Ω M_Mdl_patch R F k n 457 [xr (some a0), xi v1, xi v2, xi v3, xi v4, xi v5, xi v6, xi v7, xi v8, xi v9, xi v10, xi v11, xi v12, xi v13, xi v14, xi v15] [] (vL σ b3 ((6 * v9) + v15).toNat 0)) ∧ (¬ v13 ≤ v15 → (∃ b9 : Nat, fR σ 770 a0 = some b9 ∧ (∃ b11 : Nat, fR σ 775 a0 = some b11 ∧ (∃ b13 : Nat, fR σ 799 a0 = some b13 ∧ sK σ b13 = 50 ∧ 0 ≤ v9 ∧ v9 < sZ σ b13 ∧ (Q32 (aI σ b13 (v9).toNat) → sK σ b11 = 50 ∧ 0 ≤ ((((20 * v1) + (aI σ b13 (v9).toNat)) - v13) + v15) ∧ ((((20 * v1) + (aI σ b13 (v9).toNat)) - v13) + v15) < sZ σ b11 ∧ (Q32 (aI σ b11 ((((20 * v1) + (aI σ b13 (v9).toNat)) - v13) + v15).toNat) → sK σ b9 = 51 ∧ 0 ≤ (aI σ b11 ((((20 * v1) + (aI σ b13 (v9).toNat)) - v13) + v15).toNat) ∧ (aI σ b11 ((((20 * v1) + (aI σ b13 (v9).toNat)) - v13) + v15).toNat) < sZ σ b9 ∧ sK σ b3 = 51 ∧ 0 ≤ ((6 * v9) + v15) ∧ ((6 * v9) + v15) < sZ σ b3 ∧ Aw Ω M_Mdl_patch R F k n 457 [xr (some a0), xi v1, xi v2, xi v3, xi v4, xi v5, xi v6, xi v7, xi v8, xi v9, xi v10, xi v11, xi v12, xi v13, xi v14, xi v15] [] (vL σ b3 ((6 * v9) + v15).toNat (aL σ b9 (aI σ b11 ((((20 * v1) + (aI σ b13 (v9).toNat)) - v13) + v15).toNat).toNat))))))))))))) : Aw Ω M_Mdl_patch R F k n 399 [xr (some a0), xi v1, xi v2, xi v3, xi v4, xi v5, xi v6, xi v7, xi v8, xi v9, xi v10, xi v11, xi v12, xi v13, xi v14, xi v15] [] σ := by
  refine Aw.iload rfl d_Mdl_patch_399 ?_
  refine Aw.iconst d_Mdl_patch_401 ?_
  obtain ⟨o1, h⟩ := h
  obtain ⟨ht, hf⟩ := h
  refine Aw.icmp_ge (tgt := 509) o1 ⟨by decide, by decide⟩ (by decide) d_Mdl_patch_402 (fun c30 => ?_) (fun c30 => ?_)
  · have h := ht c30
    refine Aw.iinc rfl d_Mdl_patch_509 ?_
    refine Aw.toL (L' := [xr (some a0), xi v1, xi v2, xi v3, xi v4, xi v5, xi v6, xi v7, xi (v8 + 1), xi v9, xi v10, xi v11, xi v12, xi v13, xi v14, xi v15]) rfl ?_
    refine Aw.goto (tgt := 221) (by decide) d_Mdl_patch_512 ?_
    exact Aw.toW (L' := [xr (some a0), xi v1, xi v2, xi v3, xi v4, xi v5, xi v6, xi v7, xi (v8 + 1), xu, xu, xu, xu, xu, xu, xu]) ⟨Or.inr rfl, Or.inr rfl, Or.inr rfl, Or.inr rfl, Or.inr rfl, Or.inr rfl, Or.inr rfl, Or.inr rfl, Or.inr rfl, Or.inl rfl, Or.inl rfl, Or.inl rfl, Or.inl rfl, Or.inl rfl, Or.inl rfl, Or.inl rfl, trivial⟩ h
  · have h := hf c30
    refine Aw.aload_n rfl d_Mdl_patch_405 ?_
    obtain ⟨o2, h⟩ := h
    obtain ⟨b3, e4, h⟩ := h
    refine Aw.getRs (f := 803) 12 35 fl_Mdl_74 (by decide) (by decide) rfl rfl o2 e4 d_Mdl_patch_406 ?_
    refine Aw.bipush (by decide) d_Mdl_patch_409 ?_
    refine Aw.iload rfl d_Mdl_patch_411 ?_
    refine Aw.imul d_Mdl_patch_413 ?_
    refine Aw.iload rfl d_Mdl_patch_414 ?_
    refine Aw.iadd d_Mdl_patch_416 ?_
    refine Aw.iload rfl d_Mdl_patch_417 ?_
    refine Aw.iload rfl d_Mdl_patch_419 ?_
    obtain ⟨o5, h⟩ := h
    obtain ⟨ht, hf⟩ := h
    refine Aw.icmp_ge (tgt := 455) o1 o5 (by decide) d_Mdl_patch_421 (fun c29 => ?_) (fun c29 => ?_)
    · have h := ht c29
      refine Aw.lconst (w := 0) (by decide) d_Mdl_patch_455 ?_
      obtain ⟨o6, h⟩ := h
      obtain ⟨o7, o8, h⟩ := h
      refine Aw.last o6 o7 o8 d_Mdl_patch_456 ?_
      exact h
    · have h := hf c29
      refine Aw.aload_n rfl d_Mdl_patch_424 ?_
      obtain ⟨b9, e10, h⟩ := h
      refine Aw.getRs (f := 770) 12 2 fl_Mdl_7 (by decide) (by decide) rfl rfl o2 e10 d_Mdl_patch_425 ?_
      refine Aw.aload_n rfl d_Mdl_patch_428 ?_
      obtain ⟨b11, e12, h⟩ := h
      refine Aw.getRs (f := 775) 12 7 fl_Mdl_23 (by decide) (by decide) rfl rfl o2 e12 d_Mdl_patch_429 ?_
      refine Aw.bipush (by decide) d_Mdl_patch_432 ?_
      refine Aw.iload_n rfl d_Mdl_patch_434 ?_
      refine Aw.imul d_Mdl_patch_435 ?_
      refine Aw.aload_n rfl d_Mdl_patch_436 ?_
      obtain ⟨b13, e14, h⟩ := h
      refine Aw.getRs (f := 799) 12 31 fl_Mdl_62 (by decide) (by decide) rfl rfl o2 e14 d_Mdl_patch_437 ?_
      refine Aw.iload rfl d_Mdl_patch_440 ?_
      obtain ⟨o15, h⟩ := h
      obtain ⟨o16, o17, h⟩ := h
      refine Aw.iald o15 o16 o17 d_Mdl_patch_442 (fun r18 => ?_)
      have h := h r18
      refine Aw.iadd d_Mdl_patch_443 ?_
      refine Aw.iload rfl d_Mdl_patch_444 ?_
      refine Aw.isub d_Mdl_patch_446 ?_
      refine Aw.iload rfl d_Mdl_patch_447 ?_
      refine Aw.iadd d_Mdl_patch_449 ?_
      obtain ⟨o19, h⟩ := h
      obtain ⟨o20, o21, h⟩ := h
      refine Aw.iald o19 o20 o21 d_Mdl_patch_450 (fun r22 => ?_)
      have h := h r22
      obtain ⟨o23, h⟩ := h
      obtain ⟨o24, o25, h⟩ := h
      refine Aw.lald o23 o24 o25 d_Mdl_patch_451 ?_
      refine Aw.goto (tgt := 456) (by decide) d_Mdl_patch_452 ?_
      obtain ⟨o26, h⟩ := h
      obtain ⟨o27, o28, h⟩ := h
      refine Aw.last o26 o27 o28 d_Mdl_patch_456 ?_
      exact h
theorem b_Mdl_patch_457 {Ω : Om} {R : Room} {F : QF} {k n : Nat} {σ : Sto} {a0 : Nat} {v1 : Int} {v2 : Int} {v3 : Int} {v4 : Int} {v5 : Int} {v6 : Int} {v7 : Int} {v8 : Int} {v9 : Int} {v10 : Int} {v11 : Int} {v12 : Int} {v13 : Int} {v14 : Int} {v15 : Int} (h : sK σ a0 = 13 ∧ (∃ b2 : Nat, fR σ 803 a0 = some b2 ∧ Q32 v15 ∧ Q32 v14 ∧ ((v14 ≤ v15 → sK σ b2 = 51 ∧ 0 ≤ (((6 * v9) + 3) + v15) ∧ (((6 * v9) + 3) + v15) < sZ σ b2 ∧ Aw Ω M_Mdl_patch R F k n 399 [xr (some a0), xi v1, xi v2, xi v3, xi v4, xi v5, xi v6, xi v7, xi v8, xi v9, xi v10, xi v11, xi v12, xi v13, xi v14, xi (v15 + 1)] [] (vL σ b2 (((6 * v9) + 3) + v15).toNat 0)) ∧ (¬ v14 ≤ v15 → (∃ b9 : Nat, fR σ 770 a0 = some b9 ∧ (∃ b11 : Nat, fR σ 775 a0 = some b11 ∧ sK σ b11 = 50 ∧ 0 ≤ (((20 * v1) + v11) + v15) ∧ (((20 * v1) + v11) + v15) < sZ σ b11 ∧ (Q32 (aI σ b11 (((20 * v1) + v11) + v15).toNat) → sK σ b9 = 51 ∧ 0 ≤ (aI σ b11 (((20 * v1) + v11) + v15).toNat) ∧ (aI σ b11 (((20 * v1) + v11) + v15).toNat) < sZ σ b9 ∧ sK σ b2 = 51 ∧ 0 ≤ (((6 * v9) + 3) + v15) ∧ (((6 * v9) + 3) + v15) < sZ σ b2 ∧ Aw Ω M_Mdl_patch R F k n 399 [xr (some a0), xi v1, xi v2, xi v3, xi v4, xi v5, xi v6, xi v7, xi v8, xi v9, xi v10, xi v11, xi v12, xi v13, xi v14, xi (v15 + 1)] [] (vL σ b2 (((6 * v9) + 3) + v15).toNat (aL σ b9 (aI σ b11 (((20 * v1) + v11) + v15).toNat).toNat))))))))) : Aw Ω M_Mdl_patch R F k n 457 [xr (some a0), xi v1, xi v2, xi v3, xi v4, xi v5, xi v6, xi v7, xi v8, xi v9, xi v10, xi v11, xi v12, xi v13, xi v14, xi v15] [] σ := by
  refine Aw.aload_n rfl d_Mdl_patch_457 ?_
  obtain ⟨o1, h⟩ := h
  obtain ⟨b2, e3, h⟩ := h
  refine Aw.getRs (f := 803) 12 35 fl_Mdl_74 (by decide) (by decide) rfl rfl o1 e3 d_Mdl_patch_458 ?_
  refine Aw.bipush (by decide) d_Mdl_patch_461 ?_
  refine Aw.iload rfl d_Mdl_patch_463 ?_
  refine Aw.imul d_Mdl_patch_465 ?_
  refine Aw.iconst d_Mdl_patch_466 ?_
  refine Aw.iadd d_Mdl_patch_467 ?_
  refine Aw.iload rfl d_Mdl_patch_468 ?_
  refine Aw.iadd d_Mdl_patch_470 ?_
  refine Aw.iload rfl d_Mdl_patch_471 ?_
  refine Aw.iload rfl d_Mdl_patch_473 ?_
  obtain ⟨o4, h⟩ := h
  obtain ⟨o5, h⟩ := h
  obtain ⟨ht, hf⟩ := h
  refine Aw.icmp_ge (tgt := 501) o4 o5 (by decide) d_Mdl_patch_475 (fun c23 => ?_) (fun c23 => ?_)
  · have h := ht c23
    refine Aw.lconst (w := 0) (by decide) d_Mdl_patch_501 ?_
    obtain ⟨o6, h⟩ := h
    obtain ⟨o7, o8, h⟩ := h
    refine Aw.last o6 o7 o8 d_Mdl_patch_502 ?_
    refine Aw.iinc rfl d_Mdl_patch_503 ?_
    refine Aw.toL (L' := [xr (some a0), xi v1, xi v2, xi v3, xi v4, xi v5, xi v6, xi v7, xi v8, xi v9, xi v10, xi v11, xi v12, xi v13, xi v14, xi (v15 + 1)]) rfl ?_
    refine Aw.goto (tgt := 399) (by decide) d_Mdl_patch_506 ?_
    exact h
  · have h := hf c23
    refine Aw.aload_n rfl d_Mdl_patch_478 ?_
    obtain ⟨b9, e10, h⟩ := h
    refine Aw.getRs (f := 770) 12 2 fl_Mdl_7 (by decide) (by decide) rfl rfl o1 e10 d_Mdl_patch_479 ?_
    refine Aw.aload_n rfl d_Mdl_patch_482 ?_
    obtain ⟨b11, e12, h⟩ := h
    refine Aw.getRs (f := 775) 12 7 fl_Mdl_23 (by decide) (by decide) rfl rfl o1 e12 d_Mdl_patch_483 ?_
    refine Aw.bipush (by decide) d_Mdl_patch_486 ?_
    refine Aw.iload_n rfl d_Mdl_patch_488 ?_
    refine Aw.imul d_Mdl_patch_489 ?_
    refine Aw.iload rfl d_Mdl_patch_490 ?_
    refine Aw.iadd d_Mdl_patch_492 ?_
    refine Aw.iload rfl d_Mdl_patch_493 ?_
    refine Aw.iadd d_Mdl_patch_495 ?_
    obtain ⟨o13, h⟩ := h
    obtain ⟨o14, o15, h⟩ := h
    refine Aw.iald o13 o14 o15 d_Mdl_patch_496 (fun r16 => ?_)
    have h := h r16
    obtain ⟨o17, h⟩ := h
    obtain ⟨o18, o19, h⟩ := h
    refine Aw.lald o17 o18 o19 d_Mdl_patch_497 ?_
    refine Aw.goto (tgt := 502) (by decide) d_Mdl_patch_498 ?_
    obtain ⟨o20, h⟩ := h
    obtain ⟨o21, o22, h⟩ := h
    refine Aw.last o20 o21 o22 d_Mdl_patch_502 ?_
    refine Aw.iinc rfl d_Mdl_patch_503 ?_
    refine Aw.toL (L' := [xr (some a0), xi v1, xi v2, xi v3, xi v4, xi v5, xi v6, xi v7, xi v8, xi v9, xi v10, xi v11, xi v12, xi v13, xi v14, xi (v15 + 1)]) rfl ?_
    refine Aw.goto (tgt := 399) (by decide) d_Mdl_patch_506 ?_
    exact h
theorem b_Mdl_patch_525 {Ω : Om} {R : Room} {F : QF} {k n : Nat} {σ : Sto} {a0 : Nat} {v1 : Int} {v2 : Int} {v3 : Int} {v4 : Int} {v5 : Int} {v6 : Int} {v7 : Int} {v8 : Int} (h : sK σ a0 = 13 ∧ (Q32 (fI σ 797 a0) → Aw Ω M_Mdl_patch R F k n 531 [xr (some a0), xi v1, xi v2, xi v3, xi v4, xi v5, xi v6, xi v7, xi v8, xu, xu, xu, xu, xu, xu, xu] [xi ((fI σ 797 a0) - 1)] σ)) : Aw Ω M_Mdl_patch R F k n 525 [xr (some a0), xi v1, xi v2, xi v3, xi v4, xi v5, xi v6, xi v7, xi v8, xu, xu, xu, xu, xu, xu, xu] [] σ := by
  refine Aw.aload_n rfl d_Mdl_patch_525 ?_
  obtain ⟨o1, h⟩ := h
  refine Aw.getI (f := 797) 12 29 fl_Mdl_317 (by decide) (by decide) rfl rfl o1 d_Mdl_patch_526 (fun r2 => ?_)
  have h := h r2
  refine Aw.iconst d_Mdl_patch_529 ?_
  refine Aw.isub d_Mdl_patch_530 ?_
  exact h
theorem c_Mdl_patch_2 {Ω : Om} {R R' : Room} {F : QF} {k n : Nat} {L st : List PV} {σ : Sto} {QX' : String → Sto → Prop} {Q : Int → Sto → Prop} {a : Nat} {x0 : Int} (hc : MC Ω M_Mdl_isVersion R' (RI Q) QX' σ [xr (some a), xi x0]) (hk : sK σ a = 13) (hr1 : R'.frames + 1 ≤ R.frames) (hr2 : 8 + (2 + 11) + R'.locals ≤ R.locals) (hb1 : k + R'.cells ≤ R.cells) (hb2 : n + R'.slots ≤ R.slots) (hst : (st.map catP).sum ≤ 8) (kk : ∀ x σ', Q x σ' → Aw Ω M_Mdl_patch R F (k + R'.cells) (n + R'.slots) 5 L (xi x :: st) σ') (kx : ∀ E σ', QX' E σ' → Ax Ω M_Mdl_patch R F (k + R'.cells) (n + R'.slots) 2 L st σ' E) : Aw Ω M_Mdl_patch R F k n 2 L (xi x0 :: xr (some a) :: st) σ :=
  Aw.callV (As := [xi x0]) (stk := xi x0 :: xr (some a) :: st) (nn := 1) 12 M_Mdl_isVersion hc ok_Mdl_isVersion rfl (by decide) rfl hk ml_Mdl_172 im_Mdl_isVersion se_Mdl_isVersion ⟨hr1, hr2⟩ rfl ⟨hb1, hb2⟩ hst rfl d_Mdl_patch_2 (fun r σ' h => by obtain ⟨x, rfl, h⟩ := h; exact kk x σ' h) kx
theorem c_Mdl_patch_10 {Ω : Om} {R R' : Room} {F : QF} {k n : Nat} {L st : List PV} {σ : Sto} {QX' : String → Sto → Prop} {Q : Int → Sto → Prop} {a : Nat} {x0 : Int} (hc : MC Ω M_Mdl_isVersion R' (RI Q) QX' σ [xr (some a), xi x0]) (hk : sK σ a = 13) (hr1 : R'.frames + 1 ≤ R.frames) (hr2 : 8 + (2 + 11) + R'.locals ≤ R.locals) (hb1 : k + R'.cells ≤ R.cells) (hb2 : n + R'.slots ≤ R.slots) (hst : (st.map catP).sum ≤ 8) (kk : ∀ x σ', Q x σ' → Aw Ω M_Mdl_patch R F (k + R'.cells) (n + R'.slots) 13 L (xi x :: st) σ') (kx : ∀ E σ', QX' E σ' → Ax Ω M_Mdl_patch R F (k + R'.cells) (n + R'.slots) 10 L st σ' E) : Aw Ω M_Mdl_patch R F k n 10 L (xi x0 :: xr (some a) :: st) σ :=
  Aw.callV (As := [xi x0]) (stk := xi x0 :: xr (some a) :: st) (nn := 1) 12 M_Mdl_isVersion hc ok_Mdl_isVersion rfl (by decide) rfl hk ml_Mdl_172 im_Mdl_isVersion se_Mdl_isVersion ⟨hr1, hr2⟩ rfl ⟨hb1, hb2⟩ hst rfl d_Mdl_patch_10 (fun r σ' h => by obtain ⟨x, rfl, h⟩ := h; exact kk x σ' h) kx
theorem c_Mdl_patch_36 {Ω : Om} {R R' : Room} {F : QF} {k n : Nat} {L st : List PV} {σ : Sto} {QX' : String → Sto → Prop} {Q : Int → Sto → Prop} {x0 : Int} {x1 : Int} {x2 : Int} (hc : MC Ω M_Mdl_in R' (RI Q) QX' σ [xi x0, xi x1, xi x2]) (hr1 : R'.frames + 1 ≤ R.frames) (hr2 : 8 + (3 + 11) + R'.locals ≤ R.locals) (hb1 : k + R'.cells ≤ R.cells) (hb2 : n + R'.slots ≤ R.slots) (hst : (st.map catP).sum ≤ 8) (kk : ∀ x σ', Q x σ' → Aw Ω M_Mdl_patch R F (k + R'.cells) (n + R'.slots) 39 L (xi x :: st) σ') (kx : ∀ E σ', QX' E σ' → Ax Ω M_Mdl_patch R F (k + R'.cells) (n + R'.slots) 36 L st σ' E) : Aw Ω M_Mdl_patch R F k n 36 L (xi x2 :: xi x1 :: xi x0 :: st) σ :=
  Aw.callS (As := [xi x0, xi x1, xi x2]) (stk := xi x2 :: xi x1 :: xi x0 :: st) (nn := 3) M_Mdl_in hc ok_Mdl_in rfl ml_Mdl_130 sta_Mdl_in ⟨hr1, hr2⟩ rfl ⟨hb1, hb2⟩ hst rfl d_Mdl_patch_36 (fun r σ' h => by obtain ⟨x, rfl, h⟩ := h; exact kk x σ' h) kx
theorem c_Mdl_patch_60 {Ω : Om} {R R' : Room} {F : QF} {k n : Nat} {L st : List PV} {σ : Sto} {QX' : String → Sto → Prop} {Q : Int → Sto → Prop} {a : Nat} {x0 : Int} (hc : MC Ω M_Mdl_refused R' (RI Q) QX' σ [xr (some a), xi x0]) (hk : sK σ a = 13) (hr1 : R'.frames + 1 ≤ R.frames) (hr2 : 8 + (2 + 11) + R'.locals ≤ R.locals) (hb1 : k + R'.cells ≤ R.cells) (hb2 : n + R'.slots ≤ R.slots) (hst : (st.map catP).sum ≤ 8) (kk : ∀ x σ', Q x σ' → Aw Ω M_Mdl_patch R F (k + R'.cells) (n + R'.slots) 63 L (xi x :: st) σ') (kx : ∀ E σ', QX' E σ' → Ax Ω M_Mdl_patch R F (k + R'.cells) (n + R'.slots) 60 L st σ' E) : Aw Ω M_Mdl_patch R F k n 60 L (xi x0 :: xr (some a) :: st) σ :=
  Aw.callV (As := [xi x0]) (stk := xi x0 :: xr (some a) :: st) (nn := 1) 12 M_Mdl_refused hc ok_Mdl_refused rfl (by decide) rfl hk ml_Mdl_151 im_Mdl_refused se_Mdl_refused ⟨hr1, hr2⟩ rfl ⟨hb1, hb2⟩ hst rfl d_Mdl_patch_60 (fun r σ' h => by obtain ⟨x, rfl, h⟩ := h; exact kk x σ' h) kx
theorem r_Mdl_patch_67 {Ω : Om} {R : Room} {k n : Nat} {L : List PV} {σ : Sto} {QR : Option PV → Sto → Prop} {QX : String → Sto → Prop} {x : Int} (h : QR (some (xi x)) σ) (h1 : k ≤ R.cells) (h2 : n ≤ R.slots) : Aw Ω M_Mdl_patch R (MF Ω R QR QX) k n 67 L [xi x] σ := Aw.iret rfl h h1 h2 d_Mdl_patch_67
theorem c_Mdl_patch_72 {Ω : Om} {R R' : Room} {F : QF} {k n : Nat} {L st : List PV} {σ : Sto} {QX' : String → Sto → Prop} {Q : Int → Sto → Prop} {a : Nat} {x0 : Int} {x1 : Int} {x2 : Int} (hc : MC Ω M_Mdl_pair R' (RI Q) QX' σ [xr (some a), xi x0, xi x1, xi x2]) (hk : sK σ a = 13) (hr1 : R'.frames + 1 ≤ R.frames) (hr2 : 8 + (11 + 11) + R'.locals ≤ R.locals) (hb1 : k + R'.cells ≤ R.cells) (hb2 : n + R'.slots ≤ R.slots) (hst : (st.map catP).sum ≤ 8) (kk : ∀ x σ', Q x σ' → Aw Ω M_Mdl_patch R F (k + R'.cells) (n + R'.slots) 75 L (xi x :: st) σ') (kx : ∀ E σ', QX' E σ' → Ax Ω M_Mdl_patch R F (k + R'.cells) (n + R'.slots) 72 L st σ' E) : Aw Ω M_Mdl_patch R F k n 72 L (xi x2 :: xi x1 :: xi x0 :: xr (some a) :: st) σ :=
  Aw.callV (As := [xi x0, xi x1, xi x2]) (stk := xi x2 :: xi x1 :: xi x0 :: xr (some a) :: st) (nn := 3) 12 M_Mdl_pair hc ok_Mdl_pair rfl (by decide) rfl hk ml_Mdl_249 im_Mdl_pair se_Mdl_pair ⟨hr1, hr2⟩ rfl ⟨hb1, hb2⟩ hst rfl d_Mdl_patch_72 (fun r σ' h => by obtain ⟨x, rfl, h⟩ := h; exact kk x σ' h) kx
theorem c_Mdl_patch_183 {Ω : Om} {R R' : Room} {F : QF} {k n : Nat} {L st : List PV} {σ : Sto} {QX' : String → Sto → Prop} {Q : Sto → Prop} {a : Nat} {x0 : Int} {x1 : Int} {x2 : Int} {x3 : Int} {x4 : Int} {x5 : Int} {x6 : Int} (hc : MC Ω M_Mdl_layHunk R' (RV Q) QX' σ [xr (some a), xi x0, xi x1, xi x2, xi x3, xi x4, xi x5, xi x6]) (hk : sK σ a = 13) (hr1 : R'.frames + 1 ≤ R.frames) (hr2 : 8 + (10 + 11) + R'.locals ≤ R.locals) (hb1 : k + R'.cells ≤ R.cells) (hb2 : n + R'.slots ≤ R.slots) (hst : (st.map catP).sum ≤ 8) (kk : ∀ σ', Q σ' → Aw Ω M_Mdl_patch R F (k + R'.cells) (n + R'.slots) 186 L st σ') (kx : ∀ E σ', QX' E σ' → Ax Ω M_Mdl_patch R F (k + R'.cells) (n + R'.slots) 183 L st σ' E) : Aw Ω M_Mdl_patch R F k n 183 L (xi x6 :: xi x5 :: xi x4 :: xi x3 :: xi x2 :: xi x1 :: xi x0 :: xr (some a) :: st) σ :=
  Aw.callV (As := [xi x0, xi x1, xi x2, xi x3, xi x4, xi x5, xi x6]) (stk := xi x6 :: xi x5 :: xi x4 :: xi x3 :: xi x2 :: xi x1 :: xi x0 :: xr (some a) :: st) (nn := 7) 12 M_Mdl_layHunk hc ok_Mdl_layHunk rfl (by decide) rfl hk ml_Mdl_320 im_Mdl_layHunk se_Mdl_layHunk ⟨hr1, hr2⟩ rfl ⟨hb1, hb2⟩ hst rfl d_Mdl_patch_183 (fun r σ' h => by obtain ⟨rfl, h⟩ := h; exact kk σ' h) kx
theorem r_Mdl_patch_531 {Ω : Om} {R : Room} {k n : Nat} {L : List PV} {σ : Sto} {QR : Option PV → Sto → Prop} {QX : String → Sto → Prop} {x : Int} (h : QR (some (xi x)) σ) (h1 : k ≤ R.cells) (h2 : n ≤ R.slots) : Aw Ω M_Mdl_patch R (MF Ω R QR QX) k n 531 L [xi x] σ := Aw.iret rfl h h1 h2 d_Mdl_patch_531
theorem e_Mdl_settle {Ω : Om} {R : Room} {QR : Option PV → Sto → Prop} {QX : String → Sto → Prop} {σ : Sto} {a0 : Nat} {v1 : Int} {v2 : Int} (h : Aw Ω M_Mdl_settle R (MF Ω R QR QX) 0 0 0 [xr (some a0), xi v1, xi v2, xu, xu, xu, xu, xu, xu, xu] [] σ) : MC Ω M_Mdl_settle R QR QX σ [xr (some a0), xi v1, xi v2] := MC.body (by decide +kernel) rfl (Nat.le_of_ble_eq_true rfl) rfl h
theorem b_Mdl_settle_0 {Ω : Om} {R : Room} {F : QF} {k n : Nat} {σ : Sto} {a0 : Nat} {v1 : Int} {v2 : Int} (h : Aw Ω M_Mdl_settle R F k n 2 [xr (some a0), xi v1, xi v2, xu, xu, xu, xu, xu, xu, xu] [xi v1, xr (some a0)] σ) : Aw Ω M_Mdl_settle R F k n 0 [xr (some a0), xi v1, xi v2, xu, xu, xu, xu, xu, xu, xu] [] σ := by
  refine Aw.aload_n rfl d_Mdl_settle_0 ?_
  refine Aw.iload_n rfl d_Mdl_settle_1 ?_
  exact h
theorem b_Mdl_settle_5 {Ω : Om} {R : Room} {F : QF} {k n : Nat} {σ : Sto} {a0 : Nat} {v1 : Int} {v2 : Int} {s0 : Int} (h : Aw Ω M_Mdl_settle R F k n 9 [xr (some a0), xi v1, xi v2, xi s0, xu, xu, xu, xu, xu, xu] [xi 4, xi 0, xi v2] σ) : Aw Ω M_Mdl_settle R F k n 5 [xr (some a0), xi v1, xi v2, xu, xu, xu, xu, xu, xu, xu] [xi s0] σ := by
  refine Aw.istore_n (by decide) d_Mdl_settle_5 ?_
  refine Aw.toL (L' := [xr (some a0), xi v1, xi v2, xi s0, xu, xu, xu, xu, xu, xu]) rfl ?_
  refine Aw.iload_n rfl d_Mdl_settle_6 ?_
  refine Aw.iconst d_Mdl_settle_7 ?_
  refine Aw.iconst d_Mdl_settle_8 ?_
  exact h
theorem b_Mdl_settle_12 {Ω : Om} {R : Room} {F : QF} {k n : Nat} {σ : Sto} {a0 : Nat} {v1 : Int} {v2 : Int} {v3 : Int} {s0 : Int} (h : Q32 v2 ∧ ((¬ v2 = (4 : Int) → ((¬ v2 = (3 : Int) → Aw Ω M_Mdl_settle R F k n 33 [xr (some a0), xi v1, xi v2, xi v3, xi s0, xu, xu, xu, xu, xu] [xi v2] σ) ∧ (v2 = (3 : Int) → Aw Ω M_Mdl_settle R F k n 33 [xr (some a0), xi v1, xi v2, xi v3, xi s0, xu, xu, xu, xu, xu] [xi 0] σ))) ∧ (v2 = (4 : Int) → Aw Ω M_Mdl_settle R F k n 33 [xr (some a0), xi v1, xi v2, xi v3, xi s0, xu, xu, xu, xu, xu] [xi 1] σ))) : Aw Ω M_Mdl_settle R F k n 12 [xr (some a0), xi v1, xi v2, xi v3, xu, xu, xu, xu, xu, xu] [xi s0] σ := by
  refine Aw.istore (by decide) d_Mdl_settle_12 ?_
  refine Aw.toL (L' := [xr (some a0), xi v1, xi v2, xi v3, xi s0, xu, xu, xu, xu, xu]) rfl ?_
  refine Aw.iload_n rfl d_Mdl_settle_14 ?_
  refine Aw.iconst d_Mdl_settle_15 ?_
  obtain ⟨o1, h⟩ := h
  obtain ⟨ht, hf⟩ := h
  refine Aw.icmp_ne (tgt := 23) o1 ⟨by decide, by decide⟩ (by decide) d_Mdl_settle_16 (fun c3 => ?_) (fun c3 => ?_)
  · have h := ht c3
    refine Aw.iload_n rfl d_Mdl_settle_23 ?_
    refine Aw.iconst d_Mdl_settle_24 ?_
    obtain ⟨ht, hf⟩ := h
    refine Aw.icmp_ne (tgt := 32) o1 ⟨by decide, by decide⟩ (by decide) d_Mdl_settle_25 (fun c2 => ?_) (fun c2 => ?_)
    · have h := ht c2
      refine Aw.iload_n rfl d_Mdl_settle_32 ?_
      exact h
    · have h := hf c2
      refine Aw.iconst d_Mdl_settle_28 ?_
      refine Aw.goto (tgt := 33) (by decide) d_Mdl_settle_29 ?_
      exact h
  · have h := hf c3
    refine Aw.iconst d_Mdl_settle_19 ?_
    refine Aw.goto (tgt := 33) (by decide) d_Mdl_settle_20 ?_
    exact h
theorem b_Mdl_settle_33 {Ω : Om} {R : Room} {F : QF} {k n : Nat} {σ : Sto} {a0 : Nat} {v1 : Int} {v2 : Int} {v3 : Int} {v4 : Int} {s0 : Int} (h : Q32 v2 ∧ ((¬ v2 = (4 : Int) → ((¬ v2 = (3 : Int) → Aw Ω M_Mdl_settle R F k n 54 [xr (some a0), xi v1, xi v2, xi v3, xi v4, xi s0, xu, xu, xu, xu] [xi (-1)] σ) ∧ (v2 = (3 : Int) → Aw Ω M_Mdl_settle R F k n 54 [xr (some a0), xi v1, xi v2, xi v3, xi v4, xi s0, xu, xu, xu, xu] [xi 1] σ))) ∧ (v2 = (4 : Int) → Aw Ω M_Mdl_settle R F k n 54 [xr (some a0), xi v1, xi v2, xi v3, xi v4, xi s0, xu, xu, xu, xu] [xi 0] σ))) : Aw Ω M_Mdl_settle R F k n 33 [xr (some a0), xi v1, xi v2, xi v3, xi v4, xu, xu, xu, xu, xu] [xi s0] σ := by
  refine Aw.istore (by decide) d_Mdl_settle_33 ?_
  refine Aw.toL (L' := [xr (some a0), xi v1, xi v2, xi v3, xi v4, xi s0, xu, xu, xu, xu]) rfl ?_
  refine Aw.iload_n rfl d_Mdl_settle_35 ?_
  refine Aw.iconst d_Mdl_settle_36 ?_
  obtain ⟨o1, h⟩ := h
  obtain ⟨ht, hf⟩ := h
  refine Aw.icmp_ne (tgt := 44) o1 ⟨by decide, by decide⟩ (by decide) d_Mdl_settle_37 (fun c3 => ?_) (fun c3 => ?_)
  · have h := ht c3
    refine Aw.iload_n rfl d_Mdl_settle_44 ?_
    refine Aw.iconst d_Mdl_settle_45 ?_
    obtain ⟨ht, hf⟩ := h
    refine Aw.icmp_ne (tgt := 53) o1 ⟨by decide, by decide⟩ (by decide) d_Mdl_settle_46 (fun c2 => ?_) (fun c2 => ?_)
    · have h := ht c2
      refine Aw.iconst d_Mdl_settle_53 ?_
      exact h
    · have h := hf c2
      refine Aw.iconst d_Mdl_settle_49 ?_
      refine Aw.goto (tgt := 54) (by decide) d_Mdl_settle_50 ?_
      exact h
  · have h := hf c3
    refine Aw.iconst d_Mdl_settle_40 ?_
    refine Aw.goto (tgt := 54) (by decide) d_Mdl_settle_41 ?_
    exact h
theorem b_Mdl_settle_54 {Ω : Om} {R : Room} {F : QF} {k n : Nat} {σ : Sto} {a0 : Nat} {v1 : Int} {v2 : Int} {v3 : Int} {v4 : Int} {v5 : Int} {s0 : Int} (h : Q32 v3 ∧ ((v3 = (0 : Int) → Aw Ω M_Mdl_settle R F k n 101 [xr (some a0), xi v1, xi v2, xi v3, xi v4, xi v5, xi s0, xu, xu, xu] [] σ) ∧ (¬ v3 = (0 : Int) → Q32 v4 ∧ ((v4 = (0 : Int) → Aw Ω M_Mdl_settle R F k n 101 [xr (some a0), xi v1, xi v2, xi v3, xi v4, xi v5, xi s0, xu, xu, xu] [] σ) ∧ (¬ v4 = (0 : Int) → sK σ a0 = 13 ∧ (∃ b4 : Nat, fR σ 787 a0 = some b4 ∧ sK σ b4 = 50 ∧ 0 ≤ ((3 * v1) + v5) ∧ ((3 * v1) + v5) < sZ σ b4 ∧ (Q32 (aI σ b4 ((3 * v1) + v5).toNat) → Q32 s0 ∧ ((¬ s0 = (-1 : Int) → 0 ≤ ((3 * v1) + s0) ∧ ((3 * v1) + s0) < sZ σ b4 ∧ (Q32 (aI σ b4 ((3 * v1) + s0).toNat) → Aw Ω M_Mdl_settle R F k n 97 [xr (some a0), xi v1, xi v2, xi v3, xi v4, xi v5, xi s0, xu, xu, xu] [xi (aI σ b4 ((3 * v1) + s0).toNat), xi (aI σ b4 ((3 * v1) + v5).toNat)] σ)) ∧ (s0 = (-1 : Int) → Aw Ω M_Mdl_settle R F k n 97 [xr (some a0), xi v1, xi v2, xi v3, xi v4, xi v5, xi s0, xu, xu, xu] [xi 0, xi (aI σ b4 ((3 * v1) + v5).toNat)] σ))))))))) : Aw Ω M_Mdl_settle R F k n 54 [xr (some a0), xi v1, xi v2, xi v3, xi v4, xi v5, xu, xu, xu, xu] [xi s0] σ := by
  refine Aw.istore (by decide) d_Mdl_settle_54 ?_
  refine Aw.toL (L' := [xr (some a0), xi v1, xi v2, xi v3, xi v4, xi v5, xi s0, xu, xu, xu]) rfl ?_
  refine Aw.iload_n rfl d_Mdl_settle_56 ?_
  obtain ⟨o1, h⟩ := h
  obtain ⟨ht, hf⟩ := h
  refine Aw.if_eq (tgt := 101) o1 (by decide) d_Mdl_settle_57 (fun c16 => ?_) (fun c16 => ?_)
  · have h := ht c16
    exact h
  · have h := hf c16
    refine Aw.iload rfl d_Mdl_settle_60 ?_
    obtain ⟨o2, h⟩ := h
    obtain ⟨ht, hf⟩ := h
    refine Aw.if_eq (tgt := 101) o2 (by decide) d_Mdl_settle_62 (fun c15 => ?_) (fun c15 => ?_)
    · have h := ht c15
      exact h
    · have h := hf c15
      refine Aw.aload_n rfl d_Mdl_settle_65 ?_
      obtain ⟨o3, h⟩ := h
      obtain ⟨b4, e5, h⟩ := h
      refine Aw.getRs (f := 787) 12 19 fl_Mdl_38 (by decide) (by decide) rfl rfl o3 e5 d_Mdl_settle_66 ?_
      refine Aw.iconst d_Mdl_settle_69 ?_
      refine Aw.iload_n rfl d_Mdl_settle_70 ?_
      refine Aw.imul d_Mdl_settle_71 ?_
      refine Aw.iload rfl d_Mdl_settle_72 ?_
      refine Aw.iadd d_Mdl_settle_74 ?_
      obtain ⟨o6, h⟩ := h
      obtain ⟨o7, o8, h⟩ := h
      refine Aw.iald o6 o7 o8 d_Mdl_settle_75 (fun r9 => ?_)
      have h := h r9
      refine Aw.iload rfl d_Mdl_settle_76 ?_
      refine Aw.iconst d_Mdl_settle_78 ?_
      obtain ⟨o10, h⟩ := h
      obtain ⟨ht, hf⟩ := h
      refine Aw.icmp_ne (tgt := 86) o10 ⟨by decide, by decide⟩ (by decide) d_Mdl_settle_79 (fun c14 => ?_) (fun c14 => ?_)
      · have h := ht c14
        refine Aw.aload_n rfl d_Mdl_settle_86 ?_
        refine Aw.getRs (f := 787) 12 19 fl_Mdl_38 (by decide) (by decide) rfl rfl o3 e5 d_Mdl_settle_87 ?_
        refine Aw.iconst d_Mdl_settle_90 ?_
        refine Aw.iload_n rfl d_Mdl_settle_91 ?_
        refine Aw.imul d_Mdl_settle_92 ?_
        refine Aw.iload rfl d_Mdl_settle_93 ?_
        refine Aw.iadd d_Mdl_settle_95 ?_
        obtain ⟨o11, o12, h⟩ := h
        refine Aw.iald o6 o11 o12 d_Mdl_settle_96 (fun r13 => ?_)
        have h := h r13
        exact h
      · have h := hf c14
        refine Aw.iconst d_Mdl_settle_82 ?_
        refine Aw.goto (tgt := 97) (by decide) d_Mdl_settle_83 ?_
        exact h
theorem b_Mdl_settle_97 {Ω : Om} {R : Room} {F : QF} {k n : Nat} {σ : Sto} {a0 : Nat} {v1 : Int} {v2 : Int} {v3 : Int} {v4 : Int} {v5 : Int} {v6 : Int} {s0 : Int} {s1 : Int} (h : Q32 v3 ∧ ((v3 = (0 : Int) → ((¬ v3 = (0 : Int) → Q32 v4 ∧ ((¬ v4 = (0 : Int) → Aw Ω M_Mdl_settle R F k n 166 [xr (some a0), xi v1, xi v2, xi v3, xi v4, xi v5, xi v6, xi (s0 + s1), xi 0, xu] [xi 3, xr (some a0)] σ) ∧ (v4 = (0 : Int) → Aw Ω M_Mdl_settle R F k n 166 [xr (some a0), xi v1, xi v2, xi v3, xi v4, xi v5, xi v6, xi (s0 + s1), xi 0, xu] [xi 2, xr (some a0)] σ))) ∧ (v3 = (0 : Int) → Aw Ω M_Mdl_settle R F k n 166 [xr (some a0), xi v1, xi v2, xi v3, xi v4, xi v5, xi v6, xi (s0 + s1), xi 0, xu] [xi 1, xr (some a0)] σ))) ∧ (¬ v3 = (0 : Int) → sK σ a0 = 13 ∧ (Q32 (fI σ 786 a0) → Q32 (bAnd (bShr (fI σ 786 a0) v1) 1) ∧ ((¬ (bAnd (bShr (fI σ 786 a0) v1) 1) = (0 : Int) → ((¬ v3 = (0 : Int) → Q32 v4 ∧ ((¬ v4 = (0 : Int) → Aw Ω M_Mdl_settle R F k n 166 [xr (some a0), xi v1, xi v2, xi v3, xi v4, xi v5, xi v6, xi (s0 + s1), xi 0, xu] [xi 3, xr (some a0)] σ) ∧ (v4 = (0 : Int) → Aw Ω M_Mdl_settle R F k n 166 [xr (some a0), xi v1, xi v2, xi v3, xi v4, xi v5, xi v6, xi (s0 + s1), xi 0, xu] [xi 2, xr (some a0)] σ))) ∧ (v3 = (0 : Int) → Aw Ω M_Mdl_settle R F k n 166 [xr (some a0), xi v1, xi v2, xi v3, xi v4, xi v5, xi v6, xi (s0 + s1), xi 0, xu] [xi 1, xr (some a0)] σ))) ∧ ((bAnd (bShr (fI σ 786 a0) v1) 1) = (0 : Int) → Aw Ω M_Mdl_settle R F k n 120 [xr (some a0), xi v1, xi v2, xi v3, xi v4, xi v5, xi v6, xi (s0 + s1), xu, xu] [xr (some a0)] σ)))))) : Aw Ω M_Mdl_settle R F k n 97 [xr (some a0), xi v1, xi v2, xi v3, xi v4, xi v5, xi v6, xu, xu, xu] [xi s1, xi s0] σ := by
  refine Aw.iadd d_Mdl_settle_97 ?_
  refine Aw.goto (tgt := 102) (by decide) d_Mdl_settle_98 ?_
  refine Aw.istore (by decide) d_Mdl_settle_102 ?_
  refine Aw.toL (L' := [xr (some a0), xi v1, xi v2, xi v3, xi v4, xi v5, xi v6, xi (s0 + s1), xu, xu]) rfl ?_
  refine Aw.iload_n rfl d_Mdl_settle_104 ?_
  obtain ⟨o1, h⟩ := h
  obtain ⟨ht, hf⟩ := h
  refine Aw.if_eq (tgt := 135) o1 (by decide) d_Mdl_settle_105 (fun c14 => ?_) (fun c14 => ?_)
  · have h := ht c14
    refine Aw.iconst d_Mdl_settle_135 ?_
    refine Aw.istore (by decide) d_Mdl_settle_136 ?_
    refine Aw.toL (L' := [xr (some a0), xi v1, xi v2, xi v3, xi v4, xi v5, xi v6, xi (s0 + s1), xi 0, xu]) rfl ?_
    refine Aw.aload_n rfl d_Mdl_settle_138 ?_
    refine Aw.iload_n rfl d_Mdl_settle_139 ?_
    obtain ⟨ht, hf⟩ := h
    refine Aw.if_ne (tgt := 147) o1 (by decide) d_Mdl_settle_140 (fun c5 => ?_) (fun c5 => ?_)
    · have h := ht c5
      refine Aw.iload rfl d_Mdl_settle_147 ?_
      obtain ⟨o2, h⟩ := h
      obtain ⟨ht, hf⟩ := h
      refine Aw.if_ne (tgt := 156) o2 (by decide) d_Mdl_settle_149 (fun c4 => ?_) (fun c4 => ?_)
      · have h := ht c4
        refine Aw.iload rfl d_Mdl_settle_156 ?_
        refine Aw.if_eq (tgt := 165) ⟨by decide, by decide⟩ (by decide) d_Mdl_settle_158 (fun c3 => ?_) (fun c3 => absurd c3 (by decide))
        refine Aw.iconst d_Mdl_settle_165 ?_
        exact h
      · have h := hf c4
        refine Aw.iconst d_Mdl_settle_152 ?_
        refine Aw.goto (tgt := 166) (by decide) d_Mdl_settle_153 ?_
        exact h
    · have h := hf c5
      refine Aw.iconst d_Mdl_settle_143 ?_
      refine Aw.goto (tgt := 166) (by decide) d_Mdl_settle_144 ?_
      exact h
  · have h := hf c14
    refine Aw.aload_n rfl d_Mdl_settle_108 ?_
    obtain ⟨o6, h⟩ := h
    refine Aw.getI (f := 786) 12 18 fl_Mdl_188 (by decide) (by decide) rfl rfl o6 d_Mdl_settle_109 (fun r7 => ?_)
    have h := h r7
    refine Aw.iload_n rfl d_Mdl_settle_112 ?_
    refine Aw.ishr d_Mdl_settle_113 ?_
    refine Aw.iconst d_Mdl_settle_114 ?_
    refine Aw.iand d_Mdl_settle_115 ?_
    obtain ⟨o8, h⟩ := h
    obtain ⟨ht, hf⟩ := h
    refine Aw.if_ne (tgt := 135) o8 (by decide) d_Mdl_settle_116 (fun c13 => ?_) (fun c13 => ?_)
    · have h := ht c13
      refine Aw.iconst d_Mdl_settle_135 ?_
      refine Aw.istore (by decide) d_Mdl_settle_136 ?_
      refine Aw.toL (L' := [xr (some a0), xi v1, xi v2, xi v3, xi v4, xi v5, xi v6, xi (s0 + s1), xi 0, xu]) rfl ?_
      refine Aw.aload_n rfl d_Mdl_settle_138 ?_
      refine Aw.iload_n rfl d_Mdl_settle_139 ?_
      obtain ⟨ht, hf⟩ := h
      refine Aw.if_ne (tgt := 147) o1 (by decide) d_Mdl_settle_140 (fun c12 => ?_) (fun c12 => ?_)
      · have h := ht c12
        refine Aw.iload rfl d_Mdl_settle_147 ?_
        obtain ⟨o9, h⟩ := h
        obtain ⟨ht, hf⟩ := h
        refine Aw.if_ne (tgt := 156) o9 (by decide) d_Mdl_settle_149 (fun c11 => ?_) (fun c11 => ?_)
        · have h := ht c11
          refine Aw.iload rfl d_Mdl_settle_156 ?_
          refine Aw.if_eq (tgt := 165) ⟨by decide, by decide⟩ (by decide) d_Mdl_settle_158 (fun c10 => ?_) (fun c10 => absurd c10 (by decide))
          refine Aw.iconst d_Mdl_settle_165 ?_
          exact h
        · have h := hf c11
          refine Aw.iconst d_Mdl_settle_152 ?_
          refine Aw.goto (tgt := 166) (by decide) d_Mdl_settle_153 ?_
          exact h
      · have h := hf c12
        refine Aw.iconst d_Mdl_settle_143 ?_
        refine Aw.goto (tgt := 166) (by decide) d_Mdl_settle_144 ?_
        exact h
    · have h := hf c13
      refine Aw.aload_n rfl d_Mdl_settle_119 ?_
      exact h
theorem b_Mdl_settle_123 {Ω : Om} {R : Room} {F : QF} {k n : Nat} {σ : Sto} {a0 : Nat} {v1 : Int} {v2 : Int} {v3 : Int} {v4 : Int} {v5 : Int} {v6 : Int} {v7 : Int} {s0 : Int} (h : Q32 (s0 + v7) ∧ (((20 : Int) < (s0 + v7) → Q32 v3 ∧ ((¬ v3 = (0 : Int) → Q32 v4 ∧ ((¬ v4 = (0 : Int) → Aw Ω M_Mdl_settle R F k n 166 [xr (some a0), xi v1, xi v2, xi v3, xi v4, xi v5, xi v6, xi v7, xi 0, xu] [xi 3, xr (some a0)] σ) ∧ (v4 = (0 : Int) → Aw Ω M_Mdl_settle R F k n 166 [xr (some a0), xi v1, xi v2, xi v3, xi v4, xi v5, xi v6, xi v7, xi 0, xu] [xi 2, xr (some a0)] σ))) ∧ (v3 = (0 : Int) → Aw Ω M_Mdl_settle R F k n 166 [xr (some a0), xi v1, xi v2, xi v3, xi v4, xi v5, xi v6, xi v7, xi 0, xu] [xi 1, xr (some a0)] σ))) ∧ (¬ (20 : Int) < (s0 + v7) → Q32 v3 ∧ ((¬ v3 = (0 : Int) → Q32 v4 ∧ ((¬ v4 = (0 : Int) → Aw Ω M_Mdl_settle R F k n 166 [xr (some a0), xi v1, xi v2, xi v3, xi v4, xi v5, xi v6, xi v7, xi 1, xu] [xi 0, xr (some a0)] σ) ∧ (v4 = (0 : Int) → Aw Ω M_Mdl_settle R F k n 166 [xr (some a0), xi v1, xi v2, xi v3, xi v4, xi v5, xi v6, xi v7, xi 1, xu] [xi 2, xr (some a0)] σ))) ∧ (v3 = (0 : Int) → Aw Ω M_Mdl_settle R F k n 166 [xr (some a0), xi v1, xi v2, xi v3, xi v4, xi v5, xi v6, xi v7, xi 1, xu] [xi 1, xr (some a0)] σ))))) : Aw Ω M_Mdl_settle R F k n 123 [xr (some a0), xi v1, xi v2, xi v3, xi v4, xi v5, xi v6, xi v7, xu, xu] [xi s0] σ := by
  refine Aw.iload rfl d_Mdl_settle_123 ?_
  refine Aw.iadd d_Mdl_settle_125 ?_
  refine Aw.bipush (by decide) d_Mdl_settle_126 ?_
  obtain ⟨o1, h⟩ := h
  obtain ⟨ht, hf⟩ := h
  refine Aw.icmp_gt (tgt := 135) o1 ⟨by decide, by decide⟩ (by decide) d_Mdl_settle_128 (fun c12 => ?_) (fun c12 => ?_)
  · have h := ht c12
    refine Aw.iconst d_Mdl_settle_135 ?_
    refine Aw.istore (by decide) d_Mdl_settle_136 ?_
    refine Aw.toL (L' := [xr (some a0), xi v1, xi v2, xi v3, xi v4, xi v5, xi v6, xi v7, xi 0, xu]) rfl ?_
    refine Aw.aload_n rfl d_Mdl_settle_138 ?_
    refine Aw.iload_n rfl d_Mdl_settle_139 ?_
    obtain ⟨o2, h⟩ := h
    obtain ⟨ht, hf⟩ := h
    refine Aw.if_ne (tgt := 147) o2 (by decide) d_Mdl_settle_140 (fun c6 => ?_) (fun c6 => ?_)
    · have h := ht c6
      refine Aw.iload rfl d_Mdl_settle_147 ?_
      obtain ⟨o3, h⟩ := h
      obtain ⟨ht, hf⟩ := h
      refine Aw.if_ne (tgt := 156) o3 (by decide) d_Mdl_settle_149 (fun c5 => ?_) (fun c5 => ?_)
      · have h := ht c5
        refine Aw.iload rfl d_Mdl_settle_156 ?_
        refine Aw.if_eq (tgt := 165) ⟨by decide, by decide⟩ (by decide) d_Mdl_settle_158 (fun c4 => ?_) (fun c4 => absurd c4 (by decide))
        refine Aw.iconst d_Mdl_settle_165 ?_
        exact h
      · have h := hf c5
        refine Aw.iconst d_Mdl_settle_152 ?_
        refine Aw.goto (tgt := 166) (by decide) d_Mdl_settle_153 ?_
        exact h
    · have h := hf c6
      refine Aw.iconst d_Mdl_settle_143 ?_
      refine Aw.goto (tgt := 166) (by decide) d_Mdl_settle_144 ?_
      exact h
  · have h := hf c12
    refine Aw.iconst d_Mdl_settle_131 ?_
    refine Aw.goto (tgt := 136) (by decide) d_Mdl_settle_132 ?_
    refine Aw.istore (by decide) d_Mdl_settle_136 ?_
    refine Aw.toL (L' := [xr (some a0), xi v1, xi v2, xi v3, xi v4, xi v5, xi v6, xi v7, xi 1, xu]) rfl ?_
    refine Aw.aload_n rfl d_Mdl_settle_138 ?_
    refine Aw.iload_n rfl d_Mdl_settle_139 ?_
    obtain ⟨o7, h⟩ := h
    obtain ⟨ht, hf⟩ := h
    refine Aw.if_ne (tgt := 147) o7 (by decide) d_Mdl_settle_140 (fun c11 => ?_) (fun c11 => ?_)
    · have h := ht c11
      refine Aw.iload rfl d_Mdl_settle_147 ?_
      obtain ⟨o8, h⟩ := h
      obtain ⟨ht, hf⟩ := h
      refine Aw.if_ne (tgt := 156) o8 (by decide) d_Mdl_settle_149 (fun c10 => ?_) (fun c10 => ?_)
      · have h := ht c10
        refine Aw.iload rfl d_Mdl_settle_156 ?_
        refine Aw.if_eq (tgt := 165) ⟨by decide, by decide⟩ (by decide) d_Mdl_settle_158 (fun c9 => absurd c9 (by decide)) (fun c9 => ?_)
        refine Aw.iconst d_Mdl_settle_161 ?_
        refine Aw.goto (tgt := 166) (by decide) d_Mdl_settle_162 ?_
        exact h
      · have h := hf c10
        refine Aw.iconst d_Mdl_settle_152 ?_
        refine Aw.goto (tgt := 166) (by decide) d_Mdl_settle_153 ?_
        exact h
    · have h := hf c11
      refine Aw.iconst d_Mdl_settle_143 ?_
      refine Aw.goto (tgt := 166) (by decide) d_Mdl_settle_144 ?_
      exact h
theorem b_Mdl_settle_169 {Ω : Om} {R : Room} {F : QF} {k n : Nat} {σ : Sto} {a0 : Nat} {v1 : Int} {v2 : Int} {v3 : Int} {v4 : Int} {v5 : Int} {v6 : Int} {v7 : Int} {v8 : Int} {s0 : Int} (h : Q32 s0 ∧ ((s0 = (0 : Int) → Aw Ω M_Mdl_settle R F k n 175 [xr (some a0), xi v1, xi v2, xi v3, xi v4, xi v5, xi v6, xi v7, xi v8, xu] [xr (some a0)] σ) ∧ (¬ s0 = (0 : Int) → Aw Ω M_Mdl_settle R F k n 173 [xr (some a0), xi v1, xi v2, xi v3, xi v4, xi v5, xi v6, xi v7, xi v8, xu] [xi 0] σ))) : Aw Ω M_Mdl_settle R F k n 169 [xr (some a0), xi v1, xi v2, xi v3, xi v4, xi v5, xi v6, xi v7, xi v8, xu] [xi s0] σ := by
  obtain ⟨o1, h⟩ := h
  obtain ⟨ht, hf⟩ := h
  refine Aw.if_eq (tgt := 174) o1 (by decide) d_Mdl_settle_169 (fun c2 => ?_) (fun c2 => ?_)
  · have h := ht c2
    refine Aw.aload_n rfl d_Mdl_settle_174 ?_
    exact h
  · have h := hf c2
    refine Aw.iconst d_Mdl_settle_172 ?_
    exact h
theorem b_Mdl_settle_178 {Ω : Om} {R : Room} {F : QF} {k n : Nat} {σ : Sto} {a0 : Nat} {v1 : Int} {v2 : Int} {v3 : Int} {v4 : Int} {v5 : Int} {v6 : Int} {v7 : Int} {v8 : Int} (h : Aw Ω M_Mdl_settle R F k n 181 [xr (some a0), xi v1, xi v2, xi v3, xi v4, xi v5, xi v6, xi v7, xi v8, xi 0] [] σ) : Aw Ω M_Mdl_settle R F k n 178 [xr (some a0), xi v1, xi v2, xi v3, xi v4, xi v5, xi v6, xi v7, xi v8, xu] [] σ := by
  refine Aw.iconst d_Mdl_settle_178 ?_
  refine Aw.istore (by decide) d_Mdl_settle_179 ?_
  refine Aw.toL (L' := [xr (some a0), xi v1, xi v2, xi v3, xi v4, xi v5, xi v6, xi v7, xi v8, xi 0]) rfl ?_
  exact h
theorem b_Mdl_settle_181 {Ω : Om} {R : Room} {F : QF} {k n : Nat} {σ : Sto} {a0 : Nat} {v1 : Int} {v2 : Int} {v3 : Int} {v4 : Int} {v5 : Int} {v6 : Int} {v7 : Int} {v8 : Int} {v9 : Int} (h : sK σ a0 = 13 ∧ (∃ b2 : Nat, fR σ 784 a0 = some b2 ∧ sK σ b2 = 50 ∧ 0 ≤ v9 ∧ v9 < sZ σ b2 ∧ (Q32 (aI σ b2 (v9).toNat) → Q32 ((-1) - v1) ∧ (((aI σ b2 (v9).toNat) = ((-1) - v1) → Aw Ω M_Mdl_settle R F k n 203 [xr (some a0), xi v1, xi v2, xi v3, xi v4, xi v5, xi v6, xi v7, xi v8, xi v9] [xi v9, xr (some a0)] σ) ∧ (¬ (aI σ b2 (v9).toNat) = ((-1) - v1) → Aw Ω M_Mdl_settle R F k n 181 [xr (some a0), xi v1, xi v2, xi v3, xi v4, xi v5, xi v6, xi v7, xi v8, xi (v9 + 1)] [] σ))))) : Aw Ω M_Mdl_settle R F k n 181 [xr (some a0), xi v1, xi v2, xi v3, xi v4, xi v5, xi v6, xi v7, xi v8, xi v9] [] σ := by
  refine Aw.aload_n rfl d_Mdl_settle_181 ?_
  obtain ⟨o1, h⟩ := h
  obtain ⟨b2, e3, h⟩ := h
  refine Aw.getRs (f := 784) 12 16 fl_Mdl_35 (by decide) (by decide) rfl rfl o1 e3 d_Mdl_settle_182 ?_
  refine Aw.iload rfl d_Mdl_settle_185 ?_
  obtain ⟨o4, h⟩ := h
  obtain ⟨o5, o6, h⟩ := h
  refine Aw.iald o4 o5 o6 d_Mdl_settle_187 (fun r7 => ?_)
  have h := h r7
  refine Aw.iconst d_Mdl_settle_188 ?_
  refine Aw.iload_n rfl d_Mdl_settle_189 ?_
  refine Aw.isub d_Mdl_settle_190 ?_
  obtain ⟨o8, h⟩ := h
  obtain ⟨ht, hf⟩ := h
  refine Aw.icmp_eq (tgt := 200) r7 o8 (by decide) d_Mdl_settle_191 (fun c9 => ?_) (fun c9 => ?_)
  · have h := ht c9
    refine Aw.aload_n rfl d_Mdl_settle_200 ?_
    refine Aw.iload rfl d_Mdl_settle_201 ?_
    exact h
  · have h := hf c9
    refine Aw.iinc rfl d_Mdl_settle_194 ?_
    refine Aw.toL (L' := [xr (some a0), xi v1, xi v2, xi v3, xi v4, xi v5, xi v6, xi v7, xi v8, xi (v9 + 1)]) rfl ?_
    refine Aw.goto (tgt := 181) (by decide) d_Mdl_settle_197 ?_
    exact h
theorem b_Mdl_settle_206 {Ω : Om} {R : Room} {F : QF} {k n : Nat} {σ : Sto} {a0 : Nat} {v1 : Int} {v2 : Int} {v3 : Int} {v4 : Int} {v5 : Int} {v6 : Int} {v7 : Int} {v8 : Int} {v9 : Int} (h : Aw Ω M_Mdl_settle R F k n 215 [xr (some a0), xi v1, xi v2, xi v3, xi v4, xi v5, xi v6, xi v7, xi v8, xi v9] [xi ((3 * v1) + v5), xi v9, xr (some a0)] σ) : Aw Ω M_Mdl_settle R F k n 206 [xr (some a0), xi v1, xi v2, xi v3, xi v4, xi v5, xi v6, xi v7, xi v8, xi v9] [] σ := by
  refine Aw.aload_n rfl d_Mdl_settle_206 ?_
  refine Aw.iload rfl d_Mdl_settle_207 ?_
  refine Aw.iconst d_Mdl_settle_209 ?_
  refine Aw.iload_n rfl d_Mdl_settle_210 ?_
  refine Aw.imul d_Mdl_settle_211 ?_
  refine Aw.iload rfl d_Mdl_settle_212 ?_
  refine Aw.iadd d_Mdl_settle_214 ?_
  exact h
theorem b_Mdl_settle_218 {Ω : Om} {R : Room} {F : QF} {k n : Nat} {σ : Sto} {a0 : Nat} {v1 : Int} {v2 : Int} {v3 : Int} {v4 : Int} {v5 : Int} {v6 : Int} {v7 : Int} {v8 : Int} {v9 : Int} {s0 : Int} (h : Q32 v6 ∧ ((v6 = (-1 : Int) → sK σ a0 = 13 ∧ (Q32 (fI σ 786 a0) → Q32 (bOr (fI σ 786 a0) (bShl 1 v1)) ∧ Aw Ω M_Mdl_settle R F k n 252 [xr (some a0), xi v1, xi v2, xi v3, xi v4, xi v5, xi v6, xi v7, xi v8, xi s0] [xr (some a0)] (uI σ 786 a0 (bOr (fI σ 786 a0) (bShl 1 v1))))) ∧ (¬ v6 = (-1 : Int) → Aw Ω M_Mdl_settle R F k n 235 [xr (some a0), xi v1, xi v2, xi v3, xi v4, xi v5, xi v6, xi v7, xi v8, xi s0] [xi ((3 * v1) + v6), xi s0, xr (some a0)] σ))) : Aw Ω M_Mdl_settle R F k n 218 [xr (some a0), xi v1, xi v2, xi v3, xi v4, xi v5, xi v6, xi v7, xi v8, xi v9] [xi s0] σ := by
  refine Aw.istore (by decide) d_Mdl_settle_218 ?_
  refine Aw.toL (L' := [xr (some a0), xi v1, xi v2, xi v3, xi v4, xi v5, xi v6, xi v7, xi v8, xi s0]) rfl ?_
  refine Aw.iload rfl d_Mdl_settle_220 ?_
  refine Aw.iconst d_Mdl_settle_222 ?_
  obtain ⟨o1, h⟩ := h
  obtain ⟨ht, hf⟩ := h
  refine Aw.icmp_eq (tgt := 239) o1 ⟨by decide, by decide⟩ (by decide) d_Mdl_settle_223 (fun c5 => ?_) (fun c5 => ?_)
  · have h := ht c5
    refine Aw.aload_n rfl d_Mdl_settle_239 ?_
    refine Aw.dup rfl d_Mdl_settle_240 ?_
    obtain ⟨o2, h⟩ := h
    refine Aw.getI (f := 786) 12 18 fl_Mdl_188 (by decide) (by decide) rfl rfl o2 d_Mdl_settle_241 (fun r3 => ?_)
    have h := h r3
    refine Aw.iconst d_Mdl_settle_244 ?_
    refine Aw.iload_n rfl d_Mdl_settle_245 ?_
    refine Aw.ishl d_Mdl_settle_246 ?_
    refine Aw.ior d_Mdl_settle_247 ?_
    obtain ⟨o4, h⟩ := h
    refine Aw.putI (f := 786) 12 18 fl_Mdl_188 (by decide) (by decide) rfl rfl o2 rfl o4 (Or.inl rfl) d_Mdl_settle_248 ?_
    refine Aw.aload_n rfl d_Mdl_settle_251 ?_
    exact h
  · have h := hf c5
    refine Aw.aload_n rfl d_Mdl_settle_226 ?_
    refine Aw.iload rfl d_Mdl_settle_227 ?_
    refine Aw.iconst d_Mdl_settle_229 ?_
    refine Aw.iload_n rfl d_Mdl_settle_230 ?_
    refine Aw.imul d_Mdl_settle_231 ?_
    refine Aw.iload rfl d_Mdl_settle_232 ?_
    refine Aw.iadd d_Mdl_settle_234 ?_
    exact h
theorem b_Mdl_settle_238 {Ω : Om} {R : Room} {F : QF} {k n : Nat} {σ : Sto} {a0 : Nat} {v1 : Int} {v2 : Int} {v3 : Int} {v4 : Int} {v5 : Int} {v6 : Int} {v7 : Int} {v8 : Int} {v9 : Int} {s0 : Int} (h : sK σ a0 = 13 ∧ (Q32 (fI σ 786 a0) → Q32 (bOr (fI σ 786 a0) (bShl 1 v1)) ∧ Aw Ω M_Mdl_settle R F k n 252 [xr (some a0), xi v1, xi v2, xi v3, xi v4, xi v5, xi v6, xi v7, xi v8, xi v9] [xr (some a0)] (uI σ 786 a0 (bOr (fI σ 786 a0) (bShl 1 v1))))) : Aw Ω M_Mdl_settle R F k n 238 [xr (some a0), xi v1, xi v2, xi v3, xi v4, xi v5, xi v6, xi v7, xi v8, xi v9] [xi s0] σ := by
  refine Aw.pop rfl d_Mdl_settle_238 ?_
  refine Aw.aload_n rfl d_Mdl_settle_239 ?_
  refine Aw.dup rfl d_Mdl_settle_240 ?_
  obtain ⟨o1, h⟩ := h
  refine Aw.getI (f := 786) 12 18 fl_Mdl_188 (by decide) (by decide) rfl rfl o1 d_Mdl_settle_241 (fun r2 => ?_)
  have h := h r2
  refine Aw.iconst d_Mdl_settle_244 ?_
  refine Aw.iload_n rfl d_Mdl_settle_245 ?_
  refine Aw.ishl d_Mdl_settle_246 ?_
  refine Aw.ior d_Mdl_settle_247 ?_
  obtain ⟨o3, h⟩ := h
  refine Aw.putI (f := 786) 12 18 fl_Mdl_188 (by decide) (by decide) rfl rfl o1 rfl o3 (Or.inl rfl) d_Mdl_settle_248 ?_
  refine Aw.aload_n rfl d_Mdl_settle_251 ?_
  exact h
theorem b_Mdl_settle_101 {Ω : Om} {R : Room} {F : QF} {k n : Nat} {σ : Sto} {a0 : Nat} {v1 : Int} {v2 : Int} {v3 : Int} {v4 : Int} {v5 : Int} {v6 : Int} (h : Q32 v3 ∧ ((v3 = (0 : Int) → ((¬ v3 = (0 : Int) → Q32 v4 ∧ ((¬ v4 = (0 : Int) → Aw Ω M_Mdl_settle R F k n 166 [xr (some a0), xi v1, xi v2, xi v3, xi v4, xi v5, xi v6, xi 0, xi 0, xu] [xi 3, xr (some a0)] σ) ∧ (v4 = (0 : Int) → Aw Ω M_Mdl_settle R F k n 166 [xr (some a0), xi v1, xi v2, xi v3, xi v4, xi v5, xi v6, xi 0, xi 0, xu] [xi 2, xr (some a0)] σ))) ∧ (v3 = (0 : Int) → Aw Ω M_Mdl_settle R F k n 166 [xr (some a0), xi v1, xi v2, xi v3, xi v4, xi v5, xi v6, xi 0, xi 0, xu] [xi 1, xr (some a0)] σ))) ∧ (¬ v3 = (0 : Int) → sK σ a0 = 13 ∧ (Q32 (fI σ 786 a0) → Q32 (bAnd (bShr (fI σ 786 a0) v1) 1) ∧ ((¬ (bAnd (bShr (fI σ 786 a0) v1) 1) = (0 : Int) → ((¬ v3 = (0 : Int) → Q32 v4 ∧ ((¬ v4 = (0 : Int) → Aw Ω M_Mdl_settle R F k n 166 [xr (some a0), xi v1, xi v2, xi v3, xi v4, xi v5, xi v6, xi 0, xi 0, xu] [xi 3, xr (some a0)] σ) ∧ (v4 = (0 : Int) → Aw Ω M_Mdl_settle R F k n 166 [xr (some a0), xi v1, xi v2, xi v3, xi v4, xi v5, xi v6, xi 0, xi 0, xu] [xi 2, xr (some a0)] σ))) ∧ (v3 = (0 : Int) → Aw Ω M_Mdl_settle R F k n 166 [xr (some a0), xi v1, xi v2, xi v3, xi v4, xi v5, xi v6, xi 0, xi 0, xu] [xi 1, xr (some a0)] σ))) ∧ ((bAnd (bShr (fI σ 786 a0) v1) 1) = (0 : Int) → Aw Ω M_Mdl_settle R F k n 120 [xr (some a0), xi v1, xi v2, xi v3, xi v4, xi v5, xi v6, xi 0, xu, xu] [xr (some a0)] σ)))))) : Aw Ω M_Mdl_settle R F k n 101 [xr (some a0), xi v1, xi v2, xi v3, xi v4, xi v5, xi v6, xu, xu, xu] [] σ := by
  refine Aw.iconst d_Mdl_settle_101 ?_
  refine Aw.istore (by decide) d_Mdl_settle_102 ?_
  refine Aw.toL (L' := [xr (some a0), xi v1, xi v2, xi v3, xi v4, xi v5, xi v6, xi 0, xu, xu]) rfl ?_
  refine Aw.iload_n rfl d_Mdl_settle_104 ?_
  obtain ⟨o1, h⟩ := h
  obtain ⟨ht, hf⟩ := h
  refine Aw.if_eq (tgt := 135) o1 (by decide) d_Mdl_settle_105 (fun c14 => ?_) (fun c14 => ?_)
  · have h := ht c14
    refine Aw.iconst d_Mdl_settle_135 ?_
    refine Aw.istore (by decide) d_Mdl_settle_136 ?_
    refine Aw.toL (L' := [xr (some a0), xi v1, xi v2, xi v3, xi v4, xi v5, xi v6, xi 0, xi 0, xu]) rfl ?_
    refine Aw.aload_n rfl d_Mdl_settle_138 ?_
    refine Aw.iload_n rfl d_Mdl_settle_139 ?_
    obtain ⟨ht, hf⟩ := h
    refine Aw.if_ne (tgt := 147) o1 (by decide) d_Mdl_settle_140 (fun c5 => ?_) (fun c5 => ?_)
    · have h := ht c5
      refine Aw.iload rfl d_Mdl_settle_147 ?_
      obtain ⟨o2, h⟩ := h
      obtain ⟨ht, hf⟩ := h
      refine Aw.if_ne (tgt := 156) o2 (by decide) d_Mdl_settle_149 (fun c4 => ?_) (fun c4 => ?_)
      · have h := ht c4
        refine Aw.iload rfl d_Mdl_settle_156 ?_
        refine Aw.if_eq (tgt := 165) ⟨by decide, by decide⟩ (by decide) d_Mdl_settle_158 (fun c3 => ?_) (fun c3 => absurd c3 (by decide))
        refine Aw.iconst d_Mdl_settle_165 ?_
        exact h
      · have h := hf c4
        refine Aw.iconst d_Mdl_settle_152 ?_
        refine Aw.goto (tgt := 166) (by decide) d_Mdl_settle_153 ?_
        exact h
    · have h := hf c5
      refine Aw.iconst d_Mdl_settle_143 ?_
      refine Aw.goto (tgt := 166) (by decide) d_Mdl_settle_144 ?_
      exact h
  · have h := hf c14
    refine Aw.aload_n rfl d_Mdl_settle_108 ?_
    obtain ⟨o6, h⟩ := h
    refine Aw.getI (f := 786) 12 18 fl_Mdl_188 (by decide) (by decide) rfl rfl o6 d_Mdl_settle_109 (fun r7 => ?_)
    have h := h r7
    refine Aw.iload_n rfl d_Mdl_settle_112 ?_
    refine Aw.ishr d_Mdl_settle_113 ?_
    refine Aw.iconst d_Mdl_settle_114 ?_
    refine Aw.iand d_Mdl_settle_115 ?_
    obtain ⟨o8, h⟩ := h
    obtain ⟨ht, hf⟩ := h
    refine Aw.if_ne (tgt := 135) o8 (by decide) d_Mdl_settle_116 (fun c13 => ?_) (fun c13 => ?_)
    · have h := ht c13
      refine Aw.iconst d_Mdl_settle_135 ?_
      refine Aw.istore (by decide) d_Mdl_settle_136 ?_
      refine Aw.toL (L' := [xr (some a0), xi v1, xi v2, xi v3, xi v4, xi v5, xi v6, xi 0, xi 0, xu]) rfl ?_
      refine Aw.aload_n rfl d_Mdl_settle_138 ?_
      refine Aw.iload_n rfl d_Mdl_settle_139 ?_
      obtain ⟨ht, hf⟩ := h
      refine Aw.if_ne (tgt := 147) o1 (by decide) d_Mdl_settle_140 (fun c12 => ?_) (fun c12 => ?_)
      · have h := ht c12
        refine Aw.iload rfl d_Mdl_settle_147 ?_
        obtain ⟨o9, h⟩ := h
        obtain ⟨ht, hf⟩ := h
        refine Aw.if_ne (tgt := 156) o9 (by decide) d_Mdl_settle_149 (fun c11 => ?_) (fun c11 => ?_)
        · have h := ht c11
          refine Aw.iload rfl d_Mdl_settle_156 ?_
          refine Aw.if_eq (tgt := 165) ⟨by decide, by decide⟩ (by decide) d_Mdl_settle_158 (fun c10 => ?_) (fun c10 => absurd c10 (by decide))
          refine Aw.iconst d_Mdl_settle_165 ?_
          exact h
        · have h := hf c11
          refine Aw.iconst d_Mdl_settle_152 ?_
          refine Aw.goto (tgt := 166) (by decide) d_Mdl_settle_153 ?_
          exact h
      · have h := hf c12
        refine Aw.iconst d_Mdl_settle_143 ?_
        refine Aw.goto (tgt := 166) (by decide) d_Mdl_settle_144 ?_
        exact h
    · have h := hf c13
      refine Aw.aload_n rfl d_Mdl_settle_119 ?_
      exact h
theorem c_Mdl_settle_2 {Ω : Om} {R R' : Room} {F : QF} {k n : Nat} {L st : List PV} {σ : Sto} {QX' : String → Sto → Prop} {Q : Int → Sto → Prop} {a : Nat} {x0 : Int} (hc : MC Ω M_Mdl_isConflict R' (RI Q) QX' σ [xr (some a), xi x0]) (hk : sK σ a = 13) (hr1 : R'.frames + 1 ≤ R.frames) (hr2 : 8 + (2 + 11) + R'.locals ≤ R.locals) (hb1 : k + R'.cells ≤ R.cells) (hb2 : n + R'.slots ≤ R.slots) (hst : (st.map catP).sum ≤ 8) (kk : ∀ x σ', Q x σ' → Aw Ω M_Mdl_settle R F (k + R'.cells) (n + R'.slots) 5 L (xi x :: st) σ') (kx : ∀ E σ', QX' E σ' → Ax Ω M_Mdl_settle R F (k + R'.cells) (n + R'.slots) 2 L st σ' E) : Aw Ω M_Mdl_settle R F k n 2 L (xi x0 :: xr (some a) :: st) σ :=
  Aw.callV (As := [xi x0]) (stk := xi x0 :: xr (some a) :: st) (nn := 1) 12 M_Mdl_isConflict hc ok_Mdl_isConflict rfl (by decide) rfl hk ml_Mdl_309 im_Mdl_isConflict se_Mdl_isConflict ⟨hr1, hr2⟩ rfl ⟨hb1, hb2⟩ hst rfl d_Mdl_settle_2 (fun r σ' h => by obtain ⟨x, rfl, h⟩ := h; exact kk x σ' h) kx
theorem c_Mdl_settle_9 {Ω : Om} {R R' : Room} {F : QF} {k n : Nat} {L st : List PV} {σ : Sto} {QX' : String → Sto → Prop} {Q : Int → Sto → Prop} {x0 : Int} {x1 : Int} {x2 : Int} (hc : MC Ω M_Mdl_in R' (RI Q) QX' σ [xi x0, xi x1, xi x2]) (hr1 : R'.frames + 1 ≤ R.frames) (hr2 : 8 + (3 + 11) + R'.locals ≤ R.locals) (hb1 : k + R'.cells ≤ R.cells) (hb2 : n + R'.slots ≤ R.slots) (hst : (st.map catP).sum ≤ 8) (kk : ∀ x σ', Q x σ' → Aw Ω M_Mdl_settle R F (k + R'.cells) (n + R'.slots) 12 L (xi x :: st) σ') (kx : ∀ E σ', QX' E σ' → Ax Ω M_Mdl_settle R F (k + R'.cells) (n + R'.slots) 9 L st σ' E) : Aw Ω M_Mdl_settle R F k n 9 L (xi x2 :: xi x1 :: xi x0 :: st) σ :=
  Aw.callS (As := [xi x0, xi x1, xi x2]) (stk := xi x2 :: xi x1 :: xi x0 :: st) (nn := 3) M_Mdl_in hc ok_Mdl_in rfl ml_Mdl_130 sta_Mdl_in ⟨hr1, hr2⟩ rfl ⟨hb1, hb2⟩ hst rfl d_Mdl_settle_9 (fun r σ' h => by obtain ⟨x, rfl, h⟩ := h; exact kk x σ' h) kx
theorem c_Mdl_settle_120 {Ω : Om} {R R' : Room} {F : QF} {k n : Nat} {L st : List PV} {σ : Sto} {QX' : String → Sto → Prop} {Q : Int → Sto → Prop} {a : Nat} (hc : MC Ω M_Mdl_lineCount R' (RI Q) QX' σ [xr (some a)]) (hk : sK σ a = 13) (hr1 : R'.frames + 1 ≤ R.frames) (hr2 : 8 + (3 + 11) + R'.locals ≤ R.locals) (hb1 : k + R'.cells ≤ R.cells) (hb2 : n + R'.slots ≤ R.slots) (hst : (st.map catP).sum ≤ 8) (kk : ∀ x σ', Q x σ' → Aw Ω M_Mdl_settle R F (k + R'.cells) (n + R'.slots) 123 L (xi x :: st) σ') (kx : ∀ E σ', QX' E σ' → Ax Ω M_Mdl_settle R F (k + R'.cells) (n + R'.slots) 120 L st σ' E) : Aw Ω M_Mdl_settle R F k n 120 L (xr (some a) :: st) σ :=
  Aw.callV (As := []) (stk := xr (some a) :: st) (nn := 0) 12 M_Mdl_lineCount hc ok_Mdl_lineCount rfl (by decide) rfl hk ml_Mdl_197 im_Mdl_lineCount se_Mdl_lineCount ⟨hr1, hr2⟩ rfl ⟨hb1, hb2⟩ hst rfl d_Mdl_settle_120 (fun r σ' h => by obtain ⟨x, rfl, h⟩ := h; exact kk x σ' h) kx
theorem c_Mdl_settle_166 {Ω : Om} {R R' : Room} {F : QF} {k n : Nat} {L st : List PV} {σ : Sto} {QX' : String → Sto → Prop} {Q : Int → Sto → Prop} {a : Nat} {x0 : Int} (hc : MC Ω M_Mdl_refused R' (RI Q) QX' σ [xr (some a), xi x0]) (hk : sK σ a = 13) (hr1 : R'.frames + 1 ≤ R.frames) (hr2 : 8 + (2 + 11) + R'.locals ≤ R.locals) (hb1 : k + R'.cells ≤ R.cells) (hb2 : n + R'.slots ≤ R.slots) (hst : (st.map catP).sum ≤ 8) (kk : ∀ x σ', Q x σ' → Aw Ω M_Mdl_settle R F (k + R'.cells) (n + R'.slots) 169 L (xi x :: st) σ') (kx : ∀ E σ', QX' E σ' → Ax Ω M_Mdl_settle R F (k + R'.cells) (n + R'.slots) 166 L st σ' E) : Aw Ω M_Mdl_settle R F k n 166 L (xi x0 :: xr (some a) :: st) σ :=
  Aw.callV (As := [xi x0]) (stk := xi x0 :: xr (some a) :: st) (nn := 1) 12 M_Mdl_refused hc ok_Mdl_refused rfl (by decide) rfl hk ml_Mdl_151 im_Mdl_refused se_Mdl_refused ⟨hr1, hr2⟩ rfl ⟨hb1, hb2⟩ hst rfl d_Mdl_settle_166 (fun r σ' h => by obtain ⟨x, rfl, h⟩ := h; exact kk x σ' h) kx
theorem r_Mdl_settle_173 {Ω : Om} {R : Room} {k n : Nat} {L : List PV} {σ : Sto} {QR : Option PV → Sto → Prop} {QX : String → Sto → Prop} {x : Int} (h : QR (some (xi x)) σ) (h1 : k ≤ R.cells) (h2 : n ≤ R.slots) : Aw Ω M_Mdl_settle R (MF Ω R QR QX) k n 173 L [xi x] σ := Aw.iret rfl h h1 h2 d_Mdl_settle_173
theorem c_Mdl_settle_175 {Ω : Om} {R R' : Room} {F : QF} {k n : Nat} {L st : List PV} {σ : Sto} {QX' : String → Sto → Prop} {Q : Sto → Prop} {a : Nat} (hc : MC Ω M_Mdl_remember R' (RV Q) QX' σ [xr (some a)]) (hk : sK σ a = 13) (hr1 : R'.frames + 1 ≤ R.frames) (hr2 : 8 + (2 + 11) + R'.locals ≤ R.locals) (hb1 : k + R'.cells ≤ R.cells) (hb2 : n + R'.slots ≤ R.slots) (hst : (st.map catP).sum ≤ 8) (kk : ∀ σ', Q σ' → Aw Ω M_Mdl_settle R F (k + R'.cells) (n + R'.slots) 178 L st σ') (kx : ∀ E σ', QX' E σ' → Ax Ω M_Mdl_settle R F (k + R'.cells) (n + R'.slots) 175 L st σ' E) : Aw Ω M_Mdl_settle R F k n 175 L (xr (some a) :: st) σ :=
  Aw.callV (As := []) (stk := xr (some a) :: st) (nn := 0) 12 M_Mdl_remember hc ok_Mdl_remember rfl (by decide) rfl hk ml_Mdl_205 im_Mdl_remember se_Mdl_remember ⟨hr1, hr2⟩ rfl ⟨hb1, hb2⟩ hst rfl d_Mdl_settle_175 (fun r σ' h => by obtain ⟨rfl, h⟩ := h; exact kk σ' h) kx
theorem c_Mdl_settle_203 {Ω : Om} {R R' : Room} {F : QF} {k n : Nat} {L st : List PV} {σ : Sto} {QX' : String → Sto → Prop} {Q : Sto → Prop} {a : Nat} {x0 : Int} (hc : MC Ω M_Mdl_takeAt R' (RV Q) QX' σ [xr (some a), xi x0]) (hk : sK σ a = 13) (hr1 : R'.frames + 1 ≤ R.frames) (hr2 : 8 + (3 + 11) + R'.locals ≤ R.locals) (hb1 : k + R'.cells ≤ R.cells) (hb2 : n + R'.slots ≤ R.slots) (hst : (st.map catP).sum ≤ 8) (kk : ∀ σ', Q σ' → Aw Ω M_Mdl_settle R F (k + R'.cells) (n + R'.slots) 206 L st σ') (kx : ∀ E σ', QX' E σ' → Ax Ω M_Mdl_settle R F (k + R'.cells) (n + R'.slots) 203 L st σ' E) : Aw Ω M_Mdl_settle R F k n 203 L (xi x0 :: xr (some a) :: st) σ :=
  Aw.callV (As := [xi x0]) (stk := xi x0 :: xr (some a) :: st) (nn := 1) 12 M_Mdl_takeAt hc ok_Mdl_takeAt rfl (by decide) rfl hk ml_Mdl_218 im_Mdl_takeAt se_Mdl_takeAt ⟨hr1, hr2⟩ rfl ⟨hb1, hb2⟩ hst rfl d_Mdl_settle_203 (fun r σ' h => by obtain ⟨rfl, h⟩ := h; exact kk σ' h) kx
theorem c_Mdl_settle_215 {Ω : Om} {R R' : Room} {F : QF} {k n : Nat} {L st : List PV} {σ : Sto} {QX' : String → Sto → Prop} {Q : Int → Sto → Prop} {a : Nat} {x0 : Int} {x1 : Int} (hc : MC Ω M_Mdl_putPiece R' (RI Q) QX' σ [xr (some a), xi x0, xi x1]) (hk : sK σ a = 13) (hr1 : R'.frames + 1 ≤ R.frames) (hr2 : 8 + (4 + 11) + R'.locals ≤ R.locals) (hb1 : k + R'.cells ≤ R.cells) (hb2 : n + R'.slots ≤ R.slots) (hst : (st.map catP).sum ≤ 8) (kk : ∀ x σ', Q x σ' → Aw Ω M_Mdl_settle R F (k + R'.cells) (n + R'.slots) 218 L (xi x :: st) σ') (kx : ∀ E σ', QX' E σ' → Ax Ω M_Mdl_settle R F (k + R'.cells) (n + R'.slots) 215 L st σ' E) : Aw Ω M_Mdl_settle R F k n 215 L (xi x1 :: xi x0 :: xr (some a) :: st) σ :=
  Aw.callV (As := [xi x0, xi x1]) (stk := xi x1 :: xi x0 :: xr (some a) :: st) (nn := 2) 12 M_Mdl_putPiece hc ok_Mdl_putPiece rfl (by decide) rfl hk ml_Mdl_312 im_Mdl_putPiece se_Mdl_putPiece ⟨hr1, hr2⟩ rfl ⟨hb1, hb2⟩ hst rfl d_Mdl_settle_215 (fun r σ' h => by obtain ⟨x, rfl, h⟩ := h; exact kk x σ' h) kx
theorem c_Mdl_settle_235 {Ω : Om} {R R' : Room} {F : QF} {k n : Nat} {L st : List PV} {σ : Sto} {QX' : String → Sto → Prop} {Q : Int → Sto → Prop} {a : Nat} {x0 : Int} {x1 : Int} (hc : MC Ω M_Mdl_putPiece R' (RI Q) QX' σ [xr (some a), xi x0, xi x1]) (hk : sK σ a = 13) (hr1 : R'.frames + 1 ≤ R.frames) (hr2 : 8 + (4 + 11) + R'.locals ≤ R.locals) (hb1 : k + R'.cells ≤ R.cells) (hb2 : n + R'.slots ≤ R.slots) (hst : (st.map catP).sum ≤ 8) (kk : ∀ x σ', Q x σ' → Aw Ω M_Mdl_settle R F (k + R'.cells) (n + R'.slots) 238 L (xi x :: st) σ') (kx : ∀ E σ', QX' E σ' → Ax Ω M_Mdl_settle R F (k + R'.cells) (n + R'.slots) 235 L st σ' E) : Aw Ω M_Mdl_settle R F k n 235 L (xi x1 :: xi x0 :: xr (some a) :: st) σ :=
  Aw.callV (As := [xi x0, xi x1]) (stk := xi x1 :: xi x0 :: xr (some a) :: st) (nn := 2) 12 M_Mdl_putPiece hc ok_Mdl_putPiece rfl (by decide) rfl hk ml_Mdl_312 im_Mdl_putPiece se_Mdl_putPiece ⟨hr1, hr2⟩ rfl ⟨hb1, hb2⟩ hst rfl d_Mdl_settle_235 (fun r σ' h => by obtain ⟨x, rfl, h⟩ := h; exact kk x σ' h) kx
theorem c_Mdl_settle_252 {Ω : Om} {R R' : Room} {F : QF} {k n : Nat} {L st : List PV} {σ : Sto} {QX' : String → Sto → Prop} {Q : Int → Sto → Prop} {a : Nat} (hc : MC Ω M_Mdl_conflicts R' (RI Q) QX' σ [xr (some a)]) (hk : sK σ a = 13) (hr1 : R'.frames + 1 ≤ R.frames) (hr2 : 8 + (3 + 11) + R'.locals ≤ R.locals) (hb1 : k + R'.cells ≤ R.cells) (hb2 : n + R'.slots ≤ R.slots) (hst : (st.map catP).sum ≤ 8) (kk : ∀ x σ', Q x σ' → Aw Ω M_Mdl_settle R F (k + R'.cells) (n + R'.slots) 255 L (xi x :: st) σ') (kx : ∀ E σ', QX' E σ' → Ax Ω M_Mdl_settle R F (k + R'.cells) (n + R'.slots) 252 L st σ' E) : Aw Ω M_Mdl_settle R F k n 252 L (xr (some a) :: st) σ :=
  Aw.callV (As := []) (stk := xr (some a) :: st) (nn := 0) 12 M_Mdl_conflicts hc ok_Mdl_conflicts rfl (by decide) rfl hk ml_Mdl_315 im_Mdl_conflicts se_Mdl_conflicts ⟨hr1, hr2⟩ rfl ⟨hb1, hb2⟩ hst rfl d_Mdl_settle_252 (fun r σ' h => by obtain ⟨x, rfl, h⟩ := h; exact kk x σ' h) kx
theorem r_Mdl_settle_255 {Ω : Om} {R : Room} {k n : Nat} {L : List PV} {σ : Sto} {QR : Option PV → Sto → Prop} {QX : String → Sto → Prop} {x : Int} (h : QR (some (xi x)) σ) (h1 : k ≤ R.cells) (h2 : n ≤ R.slots) : Aw Ω M_Mdl_settle R (MF Ω R QR QX) k n 255 L [xi x] σ := Aw.iret rfl h h1 h2 d_Mdl_settle_255
theorem e_Mdl_lay {Ω : Om} {R : Room} {QR : Option PV → Sto → Prop} {QX : String → Sto → Prop} {σ : Sto} {a0 : Nat} {v1 : Int} {v2 : Int} (h : Aw Ω M_Mdl_lay R (MF Ω R QR QX) 0 0 0 [xr (some a0), xi v1, xi v2, xu, xu, xu, xu, xu, xu] [] σ) : MC Ω M_Mdl_lay R QR QX σ [xr (some a0), xi v1, xi v2] := MC.body (by decide +kernel) rfl (Nat.le_of_ble_eq_true rfl) rfl h
theorem b_Mdl_lay_0 {Ω : Om} {R : Room} {F : QF} {k n : Nat} {σ : Sto} {a0 : Nat} {v1 : Int} {v2 : Int} (h : Aw Ω M_Mdl_lay R F k n 2 [xr (some a0), xi v1, xi v2, xu, xu, xu, xu, xu, xu] [xi v1, xr (some a0)] σ) : Aw Ω M_Mdl_lay R F k n 0 [xr (some a0), xi v1, xi v2, xu, xu, xu, xu, xu, xu] [] σ := by
  refine Aw.aload_n rfl d_Mdl_lay_0 ?_
  refine Aw.iload_n rfl d_Mdl_lay_1 ?_
  exact h
theorem b_Mdl_lay_5 {Ω : Om} {R : Room} {F : QF} {k n : Nat} {σ : Sto} {a0 : Nat} {v1 : Int} {v2 : Int} {s0 : Int} (h : Aw Ω M_Mdl_lay R F k n 9 [xr (some a0), xi v1, xi v2, xi s0, xu, xu, xu, xu, xu] [xi 2, xi 0, xi v2] σ) : Aw Ω M_Mdl_lay R F k n 5 [xr (some a0), xi v1, xi v2, xu, xu, xu, xu, xu, xu] [xi s0] σ := by
  refine Aw.istore_n (by decide) d_Mdl_lay_5 ?_
  refine Aw.toL (L' := [xr (some a0), xi v1, xi v2, xi s0, xu, xu, xu, xu, xu]) rfl ?_
  refine Aw.iload_n rfl d_Mdl_lay_6 ?_
  refine Aw.iconst d_Mdl_lay_7 ?_
  refine Aw.iconst d_Mdl_lay_8 ?_
  exact h
theorem b_Mdl_lay_12 {Ω : Om} {R : Room} {F : QF} {k n : Nat} {σ : Sto} {a0 : Nat} {v1 : Int} {v2 : Int} {v3 : Int} {s0 : Int} (h : Q32 v3 ∧ ((v3 = (0 : Int) → Aw Ω M_Mdl_lay R F k n 41 [xr (some a0), xi v1, xi v2, xi v3, xi s0, xu, xu, xu, xu] [] σ) ∧ (¬ v3 = (0 : Int) → Q32 s0 ∧ ((s0 = (0 : Int) → Aw Ω M_Mdl_lay R F k n 41 [xr (some a0), xi v1, xi v2, xi v3, xi s0, xu, xu, xu, xu] [] σ) ∧ (¬ s0 = (0 : Int) → sK σ a0 = 13 ∧ (Q32 (fI σ 779 a0) → (((fI σ 779 a0) = (0 : Int) → Aw Ω M_Mdl_lay R F k n 41 [xr (some a0), xi v1, xi v2, xi v3, xi s0, xu, xu, xu, xu] [] σ) ∧ (¬ (fI σ 779 a0) = (0 : Int) → Aw Ω M_Mdl_lay R F k n 31 [xr (some a0), xi v1, xi v2, xi v3, xi s0, xu, xu, xu, xu] [xr (some a0)] σ)))))))) : Aw Ω M_Mdl_lay R F k n 12 [xr (some a0), xi v1, xi v2, xi v3, xu, xu, xu, xu, xu] [xi s0] σ := by
  refine Aw.istore (by decide) d_Mdl_lay_12 ?_
  refine Aw.toL (L' := [xr (some a0), xi v1, xi v2, xi v3, xi s0, xu, xu, xu, xu]) rfl ?_
  refine Aw.iload_n rfl d_Mdl_lay_14 ?_
  obtain ⟨o1, h⟩ := h
  obtain ⟨ht, hf⟩ := h
  refine Aw.if_eq (tgt := 41) o1 (by decide) d_Mdl_lay_15 (fun c7 => ?_) (fun c7 => ?_)
  · have h := ht c7
    exact h
  · have h := hf c7
    refine Aw.iload rfl d_Mdl_lay_18 ?_
    obtain ⟨o2, h⟩ := h
    obtain ⟨ht, hf⟩ := h
    refine Aw.if_eq (tgt := 41) o2 (by decide) d_Mdl_lay_20 (fun c6 => ?_) (fun c6 => ?_)
    · have h := ht c6
      exact h
    · have h := hf c6
      refine Aw.aload_n rfl d_Mdl_lay_23 ?_
      obtain ⟨o3, h⟩ := h
      refine Aw.getI (f := 779) 12 11 fl_Mdl_178 (by decide) (by decide) rfl rfl o3 d_Mdl_lay_24 (fun r4 => ?_)
      have h := h r4
      obtain ⟨ht, hf⟩ := h
      refine Aw.if_eq (tgt := 41) r4 (by decide) d_Mdl_lay_27 (fun c5 => ?_) (fun c5 => ?_)
      · have h := ht c5
        exact h
      · have h := hf c5
        refine Aw.aload_n rfl d_Mdl_lay_30 ?_
        exact h
theorem b_Mdl_lay_34 {Ω : Om} {R : Room} {F : QF} {k n : Nat} {σ : Sto} {a0 : Nat} {v1 : Int} {v2 : Int} {v3 : Int} {v4 : Int} {s0 : Int} (h : Q32 s0 ∧ ((s0 = (0 : Int) → Aw Ω M_Mdl_lay R F k n 41 [xr (some a0), xi v1, xi v2, xi v3, xi v4, xu, xu, xu, xu] [] σ) ∧ (¬ s0 = (0 : Int) → Aw Ω M_Mdl_lay R F k n 42 [xr (some a0), xi v1, xi v2, xi v3, xi v4, xu, xu, xu, xu] [xi 1] σ))) : Aw Ω M_Mdl_lay R F k n 34 [xr (some a0), xi v1, xi v2, xi v3, xi v4, xu, xu, xu, xu] [xi s0] σ := by
  obtain ⟨o1, h⟩ := h
  obtain ⟨ht, hf⟩ := h
  refine Aw.if_eq (tgt := 41) o1 (by decide) d_Mdl_lay_34 (fun c2 => ?_) (fun c2 => ?_)
  · have h := ht c2
    exact h
  · have h := hf c2
    refine Aw.iconst d_Mdl_lay_37 ?_
    refine Aw.goto (tgt := 42) (by decide) d_Mdl_lay_38 ?_
    exact h
theorem b_Mdl_lay_42 {Ω : Om} {R : Room} {F : QF} {k n : Nat} {σ : Sto} {a0 : Nat} {v1 : Int} {v2 : Int} {v3 : Int} {v4 : Int} {s0 : Int} (h : sK σ a0 = 13 ∧ (Q32 (fI σ 769 a0) → Q32 s0 ∧ ((s0 = (0 : Int) → Aw Ω M_Mdl_lay R F k n 65 [xr (some a0), xi v1, xi v2, xi v3, xi v4, xi s0, xi (fI σ 769 a0), xu, xu] [xi 0] σ) ∧ (¬ s0 = (0 : Int) → Aw Ω M_Mdl_lay R F k n 58 [xr (some a0), xi v1, xi v2, xi v3, xi v4, xi s0, xi (fI σ 769 a0), xu, xu] [xi v2, xi v1, xr (some a0)] σ)))) : Aw Ω M_Mdl_lay R F k n 42 [xr (some a0), xi v1, xi v2, xi v3, xi v4, xu, xu, xu, xu] [xi s0] σ := by
  refine Aw.istore (by decide) d_Mdl_lay_42 ?_
  refine Aw.toL (L' := [xr (some a0), xi v1, xi v2, xi v3, xi v4, xi s0, xu, xu, xu]) rfl ?_
  refine Aw.aload_n rfl d_Mdl_lay_44 ?_
  obtain ⟨o1, h⟩ := h
  refine Aw.getI (f := 769) 12 1 fl_Mdl_159 (by decide) (by decide) rfl rfl o1 d_Mdl_lay_45 (fun r2 => ?_)
  have h := h r2
  refine Aw.istore (by decide) d_Mdl_lay_48 ?_
  refine Aw.toL (L' := [xr (some a0), xi v1, xi v2, xi v3, xi v4, xi s0, xi (fI σ 769 a0), xu, xu]) rfl ?_
  refine Aw.iload rfl d_Mdl_lay_50 ?_
  obtain ⟨o3, h⟩ := h
  obtain ⟨ht, hf⟩ := h
  refine Aw.if_eq (tgt := 64) o3 (by decide) d_Mdl_lay_52 (fun c4 => ?_) (fun c4 => ?_)
  · have h := ht c4
    refine Aw.iconst d_Mdl_lay_64 ?_
    exact h
  · have h := hf c4
    refine Aw.aload_n rfl d_Mdl_lay_55 ?_
    refine Aw.iload_n rfl d_Mdl_lay_56 ?_
    refine Aw.iload_n rfl d_Mdl_lay_57 ?_
    exact h
theorem b_Mdl_lay_61 {Ω : Om} {R : Room} {F : QF} {k n : Nat} {σ : Sto} {a0 : Nat} {v1 : Int} {v2 : Int} {v3 : Int} {v4 : Int} {v5 : Int} {v6 : Int} {s0 : Int} (h : Aw Ω M_Mdl_lay R F k n 65 [xr (some a0), xi v1, xi v2, xi v3, xi v4, xi v5, xi v6, xu, xu] [xi s0] σ) : Aw Ω M_Mdl_lay R F k n 61 [xr (some a0), xi v1, xi v2, xi v3, xi v4, xi v5, xi v6, xu, xu] [xi s0] σ := by
  refine Aw.goto (tgt := 65) (by decide) d_Mdl_lay_61 ?_
  exact h
theorem b_Mdl_lay_65 {Ω : Om} {R : Room} {F : QF} {k n : Nat} {σ : Sto} {a0 : Nat} {v1 : Int} {v2 : Int} {v3 : Int} {v4 : Int} {v5 : Int} {v6 : Int} {s0 : Int} (h : Q32 v5 ∧ ((v5 = (0 : Int) → Aw Ω M_Mdl_lay R F k n 85 [xr (some a0), xi v1, xi v2, xi v3, xi v4, xi v5, xi v6, xi s0, xu] [] σ) ∧ (¬ v5 = (0 : Int) → sK σ a0 = 13 ∧ (Q32 (fI σ 821 a0) → (((20 : Int) < (fI σ 821 a0) → Aw Ω M_Mdl_lay R F k n 85 [xr (some a0), xi v1, xi v2, xi v3, xi v4, xi v5, xi v6, xi s0, xu] [] σ) ∧ (¬ (20 : Int) < (fI σ 821 a0) → Aw Ω M_Mdl_lay R F k n 86 [xr (some a0), xi v1, xi v2, xi v3, xi v4, xi v5, xi v6, xi s0, xu] [xi 1] σ)))))) : Aw Ω M_Mdl_lay R F k n 65 [xr (some a0), xi v1, xi v2, xi v3, xi v4, xi v5, xi v6, xu, xu] [xi s0] σ := by
  refine Aw.istore (by decide) d_Mdl_lay_65 ?_
  refine Aw.toL (L' := [xr (some a0), xi v1, xi v2, xi v3, xi v4, xi v5, xi v6, xi s0, xu]) rfl ?_
  refine Aw.iload rfl d_Mdl_lay_67 ?_
  obtain ⟨o1, h⟩ := h
  obtain ⟨ht, hf⟩ := h
  refine Aw.if_eq (tgt := 85) o1 (by decide) d_Mdl_lay_69 (fun c5 => ?_) (fun c5 => ?_)
  · have h := ht c5
    exact h
  · have h := hf c5
    refine Aw.aload_n rfl d_Mdl_lay_72 ?_
    obtain ⟨o2, h⟩ := h
    refine Aw.getI (f := 821) 12 53 fl_Mdl_327 (by decide) (by decide) rfl rfl o2 d_Mdl_lay_73 (fun r3 => ?_)
    have h := h r3
    refine Aw.bipush (by decide) d_Mdl_lay_76 ?_
    obtain ⟨ht, hf⟩ := h
    refine Aw.icmp_gt (tgt := 85) r3 ⟨by decide, by decide⟩ (by decide) d_Mdl_lay_78 (fun c4 => ?_) (fun c4 => ?_)
    · have h := ht c4
      exact h
    · have h := hf c4
      refine Aw.iconst d_Mdl_lay_81 ?_
      refine Aw.goto (tgt := 86) (by decide) d_Mdl_lay_82 ?_
      exact h
theorem b_Mdl_lay_86 {Ω : Om} {R : Room} {F : QF} {k n : Nat} {σ : Sto} {a0 : Nat} {v1 : Int} {v2 : Int} {v3 : Int} {v4 : Int} {v5 : Int} {v6 : Int} {v7 : Int} {s0 : Int} (h : Q32 s0 ∧ ((s0 = (0 : Int) → sK σ a0 = 13 ∧ Q32 v6 ∧ Q32 v3 ∧ ((¬ v3 = (0 : Int) → Q32 v4 ∧ ((¬ v4 = (0 : Int) → ((s0 = (0 : Int) → Aw Ω M_Mdl_lay R F k n 134 [xr (some a0), xi v1, xi v2, xi v3, xi v4, xi s0, xi v6, xi v7, xu] [xi 3, xr (some a0)] (uI σ 769 a0 v6)) ∧ (¬ s0 = (0 : Int) → Aw Ω M_Mdl_lay R F k n 134 [xr (some a0), xi v1, xi v2, xi v3, xi v4, xi s0, xi v6, xi v7, xu] [xi 0, xr (some a0)] (uI σ 769 a0 v6)))) ∧ (v4 = (0 : Int) → Aw Ω M_Mdl_lay R F k n 134 [xr (some a0), xi v1, xi v2, xi v3, xi v4, xi s0, xi v6, xi v7, xu] [xi 2, xr (some a0)] (uI σ 769 a0 v6)))) ∧ (v3 = (0 : Int) → Aw Ω M_Mdl_lay R F k n 134 [xr (some a0), xi v1, xi v2, xi v3, xi v4, xi s0, xi v6, xi v7, xu] [xi 1, xr (some a0)] (uI σ 769 a0 v6)))) ∧ (¬ s0 = (0 : Int) → sK σ a0 = 13 ∧ (Q32 (fI σ 769 a0) → Q32 v3 ∧ ((¬ v3 = (0 : Int) → Q32 v4 ∧ ((¬ v4 = (0 : Int) → ((s0 = (0 : Int) → Aw Ω M_Mdl_lay R F k n 134 [xr (some a0), xi v1, xi v2, xi v3, xi v4, xi s0, xi v6, xi v7, xu] [xi 3, xr (some a0)] (uI σ 769 a0 (fI σ 769 a0))) ∧ (¬ s0 = (0 : Int) → Aw Ω M_Mdl_lay R F k n 134 [xr (some a0), xi v1, xi v2, xi v3, xi v4, xi s0, xi v6, xi v7, xu] [xi 0, xr (some a0)] (uI σ 769 a0 (fI σ 769 a0))))) ∧ (v4 = (0 : Int) → Aw Ω M_Mdl_lay R F k n 134 [xr (some a0), xi v1, xi v2, xi v3, xi v4, xi s0, xi v6, xi v7, xu] [xi 2, xr (some a0)] (uI σ 769 a0 (fI σ 769 a0))))) ∧ (v3 = (0 : Int) → Aw Ω M_Mdl_lay R F k n 134 [xr (some a0), xi v1, xi v2, xi v3, xi v4, xi s0, xi v6, xi v7, xu] [xi 1, xr (some a0)] (uI σ 769 a0 (fI σ 769 a0)))))))) : Aw Ω M_Mdl_lay R F k n 86 [xr (some a0), xi v1, xi v2, xi v3, xi v4, xi v5, xi v6, xi v7, xu] [xi s0] σ := by
  refine Aw.istore (by decide) d_Mdl_lay_86 ?_
  refine Aw.toL (L' := [xr (some a0), xi v1, xi v2, xi v3, xi v4, xi s0, xi v6, xi v7, xu]) rfl ?_
  refine Aw.aload_n rfl d_Mdl_lay_88 ?_
  refine Aw.iload rfl d_Mdl_lay_89 ?_
  obtain ⟨o1, h⟩ := h
  obtain ⟨ht, hf⟩ := h
  refine Aw.if_eq (tgt := 101) o1 (by decide) d_Mdl_lay_91 (fun c16 => ?_) (fun c16 => ?_)
  · have h := ht c16
    refine Aw.iload rfl d_Mdl_lay_101 ?_
    obtain ⟨o2, h⟩ := h
    obtain ⟨o3, h⟩ := h
    refine Aw.putI (f := 769) 12 1 fl_Mdl_159 (by decide) (by decide) rfl rfl o2 rfl o3 (Or.inl rfl) d_Mdl_lay_103 ?_
    refine Aw.aload_n rfl d_Mdl_lay_106 ?_
    refine Aw.iload_n rfl d_Mdl_lay_107 ?_
    obtain ⟨o4, h⟩ := h
    obtain ⟨ht, hf⟩ := h
    refine Aw.if_ne (tgt := 115) o4 (by decide) d_Mdl_lay_108 (fun c8 => ?_) (fun c8 => ?_)
    · have h := ht c8
      refine Aw.iload rfl d_Mdl_lay_115 ?_
      obtain ⟨o5, h⟩ := h
      obtain ⟨ht, hf⟩ := h
      refine Aw.if_ne (tgt := 124) o5 (by decide) d_Mdl_lay_117 (fun c7 => ?_) (fun c7 => ?_)
      · have h := ht c7
        refine Aw.iload rfl d_Mdl_lay_124 ?_
        obtain ⟨ht, hf⟩ := h
        refine Aw.if_eq (tgt := 133) o1 (by decide) d_Mdl_lay_126 (fun c6 => ?_) (fun c6 => ?_)
        · have h := ht c6
          refine Aw.iconst d_Mdl_lay_133 ?_
          exact h
        · have h := hf c6
          refine Aw.iconst d_Mdl_lay_129 ?_
          refine Aw.goto (tgt := 134) (by decide) d_Mdl_lay_130 ?_
          exact h
      · have h := hf c7
        refine Aw.iconst d_Mdl_lay_120 ?_
        refine Aw.goto (tgt := 134) (by decide) d_Mdl_lay_121 ?_
        exact h
    · have h := hf c8
      refine Aw.iconst d_Mdl_lay_111 ?_
      refine Aw.goto (tgt := 134) (by decide) d_Mdl_lay_112 ?_
      exact h
  · have h := hf c16
    refine Aw.aload_n rfl d_Mdl_lay_94 ?_
    obtain ⟨o9, h⟩ := h
    refine Aw.getI (f := 769) 12 1 fl_Mdl_159 (by decide) (by decide) rfl rfl o9 d_Mdl_lay_95 (fun r10 => ?_)
    have h := h r10
    refine Aw.goto (tgt := 103) (by decide) d_Mdl_lay_98 ?_
    refine Aw.putI (f := 769) 12 1 fl_Mdl_159 (by decide) (by decide) rfl rfl o9 rfl r10 (Or.inl rfl) d_Mdl_lay_103 ?_
    refine Aw.aload_n rfl d_Mdl_lay_106 ?_
    refine Aw.iload_n rfl d_Mdl_lay_107 ?_
    obtain ⟨o11, h⟩ := h
    obtain ⟨ht, hf⟩ := h
    refine Aw.if_ne (tgt := 115) o11 (by decide) d_Mdl_lay_108 (fun c15 => ?_) (fun c15 => ?_)
    · have h := ht c15
      refine Aw.iload rfl d_Mdl_lay_115 ?_
      obtain ⟨o12, h⟩ := h
      obtain ⟨ht, hf⟩ := h
      refine Aw.if_ne (tgt := 124) o12 (by decide) d_Mdl_lay_117 (fun c14 => ?_) (fun c14 => ?_)
      · have h := ht c14
        refine Aw.iload rfl d_Mdl_lay_124 ?_
        obtain ⟨ht, hf⟩ := h
        refine Aw.if_eq (tgt := 133) o1 (by decide) d_Mdl_lay_126 (fun c13 => ?_) (fun c13 => ?_)
        · have h := ht c13
          refine Aw.iconst d_Mdl_lay_133 ?_
          exact h
        · have h := hf c13
          refine Aw.iconst d_Mdl_lay_129 ?_
          refine Aw.goto (tgt := 134) (by decide) d_Mdl_lay_130 ?_
          exact h
      · have h := hf c14
        refine Aw.iconst d_Mdl_lay_120 ?_
        refine Aw.goto (tgt := 134) (by decide) d_Mdl_lay_121 ?_
        exact h
    · have h := hf c15
      refine Aw.iconst d_Mdl_lay_111 ?_
      refine Aw.goto (tgt := 134) (by decide) d_Mdl_lay_112 ?_
      exact h
theorem b_Mdl_lay_137 {Ω : Om} {R : Room} {F : QF} {k n : Nat} {σ : Sto} {a0 : Nat} {v1 : Int} {v2 : Int} {v3 : Int} {v4 : Int} {v5 : Int} {v6 : Int} {v7 : Int} {s0 : Int} (h : Q32 s0 ∧ ((s0 = (0 : Int) → Aw Ω M_Mdl_lay R F k n 143 [xr (some a0), xi v1, xi v2, xi v3, xi v4, xi v5, xi v6, xi v7, xu] [xr (some a0)] σ) ∧ (¬ s0 = (0 : Int) → Aw Ω M_Mdl_lay R F k n 141 [xr (some a0), xi v1, xi v2, xi v3, xi v4, xi v5, xi v6, xi v7, xu] [xi 0] σ))) : Aw Ω M_Mdl_lay R F k n 137 [xr (some a0), xi v1, xi v2, xi v3, xi v4, xi v5, xi v6, xi v7, xu] [xi s0] σ := by
  obtain ⟨o1, h⟩ := h
  obtain ⟨ht, hf⟩ := h
  refine Aw.if_eq (tgt := 142) o1 (by decide) d_Mdl_lay_137 (fun c2 => ?_) (fun c2 => ?_)
  · have h := ht c2
    refine Aw.aload_n rfl d_Mdl_lay_142 ?_
    exact h
  · have h := hf c2
    refine Aw.iconst d_Mdl_lay_140 ?_
    exact h
theorem b_Mdl_lay_146 {Ω : Om} {R : Room} {F : QF} {k n : Nat} {σ : Sto} {a0 : Nat} {v1 : Int} {v2 : Int} {v3 : Int} {v4 : Int} {v5 : Int} {v6 : Int} {v7 : Int} (h : sK σ a0 = 13 ∧ (Q32 (fI σ 821 a0) → Aw Ω M_Mdl_lay R F k n 157 [xr (some a0), xi v1, xi v2, xi v3, xi v4, xi v5, xi v6, xi v7, xi 0] [] (uI σ 783 a0 (fI σ 821 a0)))) : Aw Ω M_Mdl_lay R F k n 146 [xr (some a0), xi v1, xi v2, xi v3, xi v4, xi v5, xi v6, xi v7, xu] [] σ := by
  refine Aw.aload_n rfl d_Mdl_lay_146 ?_
  refine Aw.aload_n rfl d_Mdl_lay_147 ?_
  obtain ⟨o1, h⟩ := h
  refine Aw.getI (f := 821) 12 53 fl_Mdl_327 (by decide) (by decide) rfl rfl o1 d_Mdl_lay_148 (fun r2 => ?_)
  have h := h r2
  refine Aw.putI (f := 783) 12 15 fl_Mdl_194 (by decide) (by decide) rfl rfl o1 rfl r2 (Or.inl rfl) d_Mdl_lay_151 ?_
  refine Aw.iconst d_Mdl_lay_154 ?_
  refine Aw.istore (by decide) d_Mdl_lay_155 ?_
  refine Aw.toL (L' := [xr (some a0), xi v1, xi v2, xi v3, xi v4, xi v5, xi v6, xi v7, xi 0]) rfl ?_
  exact h
theorem b_Mdl_lay_157 {Ω : Om} {R : Room} {F : QF} {k n : Nat} {σ : Sto} {a0 : Nat} {v1 : Int} {v2 : Int} {v3 : Int} {v4 : Int} {v5 : Int} {v6 : Int} {v7 : Int} {v8 : Int} (h : sK σ a0 = 13 ∧ (Q32 (fI σ 783 a0) → Q32 v8 ∧ (((fI σ 783 a0) ≤ v8 → Aw Ω M_Mdl_lay R F k n 188 [xr (some a0), xi v1, xi v2, xi v3, xi v4, xi v5, xi v6, xi v7, xi v8] [xi v7] σ) ∧ (¬ (fI σ 783 a0) ≤ v8 → (∃ b4 : Nat, fR σ 784 a0 = some b4 ∧ (∃ b6 : Nat, fR σ 820 a0 = some b6 ∧ sK σ b6 = 50 ∧ 0 ≤ v8 ∧ v8 < sZ σ b6 ∧ (Q32 (aI σ b6 (v8).toNat) → sK σ b4 = 50 ∧ 0 ≤ v8 ∧ v8 < sZ σ b4 ∧ Aw Ω M_Mdl_lay R F k n 157 [xr (some a0), xi v1, xi v2, xi v3, xi v4, xi v5, xi v6, xi v7, xi (v8 + 1)] [] (vI σ b4 (v8).toNat (aI σ b6 (v8).toNat))))))))) : Aw Ω M_Mdl_lay R F k n 157 [xr (some a0), xi v1, xi v2, xi v3, xi v4, xi v5, xi v6, xi v7, xi v8] [] σ := by
  refine Aw.iload rfl d_Mdl_lay_157 ?_
  refine Aw.aload_n rfl d_Mdl_lay_159 ?_
  obtain ⟨o1, h⟩ := h
  refine Aw.getI (f := 783) 12 15 fl_Mdl_194 (by decide) (by decide) rfl rfl o1 d_Mdl_lay_160 (fun r2 => ?_)
  have h := h r2
  obtain ⟨o3, h⟩ := h
  obtain ⟨ht, hf⟩ := h
  refine Aw.icmp_ge (tgt := 186) o3 r2 (by decide) d_Mdl_lay_163 (fun c15 => ?_) (fun c15 => ?_)
  · have h := ht c15
    refine Aw.iload rfl d_Mdl_lay_186 ?_
    exact h
  · have h := hf c15
    refine Aw.aload_n rfl d_Mdl_lay_166 ?_
    obtain ⟨b4, e5, h⟩ := h
    refine Aw.getRs (f := 784) 12 16 fl_Mdl_35 (by decide) (by decide) rfl rfl o1 e5 d_Mdl_lay_167 ?_
    refine Aw.iload rfl d_Mdl_lay_170 ?_
    refine Aw.aload_n rfl d_Mdl_lay_172 ?_
    obtain ⟨b6, e7, h⟩ := h
    refine Aw.getRs (f := 820) 12 52 fl_Mdl_120 (by decide) (by decide) rfl rfl o1 e7 d_Mdl_lay_173 ?_
    refine Aw.iload rfl d_Mdl_lay_176 ?_
    obtain ⟨o8, h⟩ := h
    obtain ⟨o9, o10, h⟩ := h
    refine Aw.iald o8 o9 o10 d_Mdl_lay_178 (fun r11 => ?_)
    have h := h r11
    obtain ⟨o12, h⟩ := h
    obtain ⟨o13, o14, h⟩ := h
    refine Aw.iast o12 o13 o14 r11 d_Mdl_lay_179 ?_
    refine Aw.iinc rfl d_Mdl_lay_180 ?_
    refine Aw.toL (L' := [xr (some a0), xi v1, xi v2, xi v3, xi v4, xi v5, xi v6, xi v7, xi (v8 + 1)]) rfl ?_
    refine Aw.goto (tgt := 157) (by decide) d_Mdl_lay_183 ?_
    exact h
theorem b_Mdl_lay_85 {Ω : Om} {R : Room} {F : QF} {k n : Nat} {σ : Sto} {a0 : Nat} {v1 : Int} {v2 : Int} {v3 : Int} {v4 : Int} {v5 : Int} {v6 : Int} {v7 : Int} (h : sK σ a0 = 13 ∧ Q32 v6 ∧ Q32 v3 ∧ ((¬ v3 = (0 : Int) → Q32 v4 ∧ ((¬ v4 = (0 : Int) → Aw Ω M_Mdl_lay R F k n 134 [xr (some a0), xi v1, xi v2, xi v3, xi v4, xi 0, xi v6, xi v7, xu] [xi 3, xr (some a0)] (uI σ 769 a0 v6)) ∧ (v4 = (0 : Int) → Aw Ω M_Mdl_lay R F k n 134 [xr (some a0), xi v1, xi v2, xi v3, xi v4, xi 0, xi v6, xi v7, xu] [xi 2, xr (some a0)] (uI σ 769 a0 v6)))) ∧ (v3 = (0 : Int) → Aw Ω M_Mdl_lay R F k n 134 [xr (some a0), xi v1, xi v2, xi v3, xi v4, xi 0, xi v6, xi v7, xu] [xi 1, xr (some a0)] (uI σ 769 a0 v6)))) : Aw Ω M_Mdl_lay R F k n 85 [xr (some a0), xi v1, xi v2, xi v3, xi v4, xi v5, xi v6, xi v7, xu] [] σ := by
  refine Aw.iconst d_Mdl_lay_85 ?_
  refine Aw.istore (by decide) d_Mdl_lay_86 ?_
  refine Aw.toL (L' := [xr (some a0), xi v1, xi v2, xi v3, xi v4, xi 0, xi v6, xi v7, xu]) rfl ?_
  refine Aw.aload_n rfl d_Mdl_lay_88 ?_
  refine Aw.iload rfl d_Mdl_lay_89 ?_
  refine Aw.if_eq (tgt := 101) ⟨by decide, by decide⟩ (by decide) d_Mdl_lay_91 (fun c8 => ?_) (fun c8 => absurd c8 (by decide))
  refine Aw.iload rfl d_Mdl_lay_101 ?_
  obtain ⟨o1, h⟩ := h
  obtain ⟨o2, h⟩ := h
  refine Aw.putI (f := 769) 12 1 fl_Mdl_159 (by decide) (by decide) rfl rfl o1 rfl o2 (Or.inl rfl) d_Mdl_lay_103 ?_
  refine Aw.aload_n rfl d_Mdl_lay_106 ?_
  refine Aw.iload_n rfl d_Mdl_lay_107 ?_
  obtain ⟨o3, h⟩ := h
  obtain ⟨ht, hf⟩ := h
  refine Aw.if_ne (tgt := 115) o3 (by decide) d_Mdl_lay_108 (fun c7 => ?_) (fun c7 => ?_)
  · have h := ht c7
    refine Aw.iload rfl d_Mdl_lay_115 ?_
    obtain ⟨o4, h⟩ := h
    obtain ⟨ht, hf⟩ := h
    refine Aw.if_ne (tgt := 124) o4 (by decide) d_Mdl_lay_117 (fun c6 => ?_) (fun c6 => ?_)
    · have h := ht c6
      refine Aw.iload rfl d_Mdl_lay_124 ?_
      refine Aw.if_eq (tgt := 133) ⟨by decide, by decide⟩ (by decide) d_Mdl_lay_126 (fun c5 => ?_) (fun c5 => absurd c5 (by decide))
      refine Aw.iconst d_Mdl_lay_133 ?_
      exact h
    · have h := hf c6
      refine Aw.iconst d_Mdl_lay_120 ?_
      refine Aw.goto (tgt := 134) (by decide) d_Mdl_lay_121 ?_
      exact h
  · have h := hf c7
    refine Aw.iconst d_Mdl_lay_111 ?_
    refine Aw.goto (tgt := 134) (by decide) d_Mdl_lay_112 ?_
    exact h
theorem b_Mdl_lay_41 {Ω : Om} {R : Room} {F : QF} {k n : Nat} {σ : Sto} {a0 : Nat} {v1 : Int} {v2 : Int} {v3 : Int} {v4 : Int} (h : Aw Ω M_Mdl_lay R F k n 42 [xr (some a0), xi v1, xi v2, xi v3, xi v4, xu, xu, xu, xu] [xi 0] σ) : Aw Ω M_Mdl_lay R F k n 41 [xr (some a0), xi v1, xi v2, xi v3, xi v4, xu, xu, xu, xu] [] σ := by
  refine Aw.iconst d_Mdl_lay_41 ?_
  exact h
theorem c_Mdl_lay_2 {Ω : Om} {R R' : Room} {F : QF} {k n : Nat} {L st : List PV} {σ : Sto} {QX' : String → Sto → Prop} {Q : Int → Sto → Prop} {a : Nat} {x0 : Int} (hc : MC Ω M_Mdl_isPatch R' (RI Q) QX' σ [xr (some a), xi x0]) (hk : sK σ a = 13) (hr1 : R'.frames + 1 ≤ R.frames) (hr2 : 8 + (2 + 11) + R'.locals ≤ R.locals) (hb1 : k + R'.cells ≤ R.cells) (hb2 : n + R'.slots ≤ R.slots) (hst : (st.map catP).sum ≤ 8) (kk : ∀ x σ', Q x σ' → Aw Ω M_Mdl_lay R F (k + R'.cells) (n + R'.slots) 5 L (xi x :: st) σ') (kx : ∀ E σ', QX' E σ' → Ax Ω M_Mdl_lay R F (k + R'.cells) (n + R'.slots) 2 L st σ' E) : Aw Ω M_Mdl_lay R F k n 2 L (xi x0 :: xr (some a) :: st) σ :=
  Aw.callV (As := [xi x0]) (stk := xi x0 :: xr (some a) :: st) (nn := 1) 12 M_Mdl_isPatch hc ok_Mdl_isPatch rfl (by decide) rfl hk ml_Mdl_324 im_Mdl_isPatch se_Mdl_isPatch ⟨hr1, hr2⟩ rfl ⟨hb1, hb2⟩ hst rfl d_Mdl_lay_2 (fun r σ' h => by obtain ⟨x, rfl, h⟩ := h; exact kk x σ' h) kx
theorem c_Mdl_lay_9 {Ω : Om} {R R' : Room} {F : QF} {k n : Nat} {L st : List PV} {σ : Sto} {QX' : String → Sto → Prop} {Q : Int → Sto → Prop} {x0 : Int} {x1 : Int} {x2 : Int} (hc : MC Ω M_Mdl_in R' (RI Q) QX' σ [xi x0, xi x1, xi x2]) (hr1 : R'.frames + 1 ≤ R.frames) (hr2 : 8 + (3 + 11) + R'.locals ≤ R.locals) (hb1 : k + R'.cells ≤ R.cells) (hb2 : n + R'.slots ≤ R.slots) (hst : (st.map catP).sum ≤ 8) (kk : ∀ x σ', Q x σ' → Aw Ω M_Mdl_lay R F (k + R'.cells) (n + R'.slots) 12 L (xi x :: st) σ') (kx : ∀ E σ', QX' E σ' → Ax Ω M_Mdl_lay R F (k + R'.cells) (n + R'.slots) 9 L st σ' E) : Aw Ω M_Mdl_lay R F k n 9 L (xi x2 :: xi x1 :: xi x0 :: st) σ :=
  Aw.callS (As := [xi x0, xi x1, xi x2]) (stk := xi x2 :: xi x1 :: xi x0 :: st) (nn := 3) M_Mdl_in hc ok_Mdl_in rfl ml_Mdl_130 sta_Mdl_in ⟨hr1, hr2⟩ rfl ⟨hb1, hb2⟩ hst rfl d_Mdl_lay_9 (fun r σ' h => by obtain ⟨x, rfl, h⟩ := h; exact kk x σ' h) kx
theorem c_Mdl_lay_31 {Ω : Om} {R R' : Room} {F : QF} {k n : Nat} {L st : List PV} {σ : Sto} {QX' : String → Sto → Prop} {Q : Int → Sto → Prop} {a : Nat} (hc : MC Ω M_Mdl_isSettled R' (RI Q) QX' σ [xr (some a)]) (hk : sK σ a = 13) (hr1 : R'.frames + 1 ≤ R.frames) (hr2 : 8 + (1 + 11) + R'.locals ≤ R.locals) (hb1 : k + R'.cells ≤ R.cells) (hb2 : n + R'.slots ≤ R.slots) (hst : (st.map catP).sum ≤ 8) (kk : ∀ x σ', Q x σ' → Aw Ω M_Mdl_lay R F (k + R'.cells) (n + R'.slots) 34 L (xi x :: st) σ') (kx : ∀ E σ', QX' E σ' → Ax Ω M_Mdl_lay R F (k + R'.cells) (n + R'.slots) 31 L st σ' E) : Aw Ω M_Mdl_lay R F k n 31 L (xr (some a) :: st) σ :=
  Aw.callV (As := []) (stk := xr (some a) :: st) (nn := 0) 12 M_Mdl_isSettled hc ok_Mdl_isSettled rfl (by decide) rfl hk ml_Mdl_201 im_Mdl_isSettled se_Mdl_isSettled ⟨hr1, hr2⟩ rfl ⟨hb1, hb2⟩ hst rfl d_Mdl_lay_31 (fun r σ' h => by obtain ⟨x, rfl, h⟩ := h; exact kk x σ' h) kx
theorem c_Mdl_lay_58 {Ω : Om} {R R' : Room} {F : QF} {k n : Nat} {L st : List PV} {σ : Sto} {QX' : String → Sto → Prop} {Q : Int → Sto → Prop} {a : Nat} {x0 : Int} {x1 : Int} (hc : MC Ω M_Mdl_layAll R' (RI Q) QX' σ [xr (some a), xi x0, xi x1]) (hk : sK σ a = 13) (hr1 : R'.frames + 1 ≤ R.frames) (hr2 : 8 + (11 + 11) + R'.locals ≤ R.locals) (hb1 : k + R'.cells ≤ R.cells) (hb2 : n + R'.slots ≤ R.slots) (hst : (st.map catP).sum ≤ 8) (kk : ∀ x σ', Q x σ' → Aw Ω M_Mdl_lay R F (k + R'.cells) (n + R'.slots) 61 L (xi x :: st) σ') (kx : ∀ E σ', QX' E σ' → Ax Ω M_Mdl_lay R F (k + R'.cells) (n + R'.slots) 58 L st σ' E) : Aw Ω M_Mdl_lay R F k n 58 L (xi x1 :: xi x0 :: xr (some a) :: st) σ :=
  Aw.callV (As := [xi x0, xi x1]) (stk := xi x1 :: xi x0 :: xr (some a) :: st) (nn := 2) 12 M_Mdl_layAll hc ok_Mdl_layAll rfl (by decide) rfl hk ml_Mdl_342 im_Mdl_layAll se_Mdl_layAll ⟨hr1, hr2⟩ rfl ⟨hb1, hb2⟩ hst rfl d_Mdl_lay_58 (fun r σ' h => by obtain ⟨x, rfl, h⟩ := h; exact kk x σ' h) kx
theorem c_Mdl_lay_134 {Ω : Om} {R R' : Room} {F : QF} {k n : Nat} {L st : List PV} {σ : Sto} {QX' : String → Sto → Prop} {Q : Int → Sto → Prop} {a : Nat} {x0 : Int} (hc : MC Ω M_Mdl_refused R' (RI Q) QX' σ [xr (some a), xi x0]) (hk : sK σ a = 13) (hr1 : R'.frames + 1 ≤ R.frames) (hr2 : 8 + (2 + 11) + R'.locals ≤ R.locals) (hb1 : k + R'.cells ≤ R.cells) (hb2 : n + R'.slots ≤ R.slots) (hst : (st.map catP).sum ≤ 8) (kk : ∀ x σ', Q x σ' → Aw Ω M_Mdl_lay R F (k + R'.cells) (n + R'.slots) 137 L (xi x :: st) σ') (kx : ∀ E σ', QX' E σ' → Ax Ω M_Mdl_lay R F (k + R'.cells) (n + R'.slots) 134 L st σ' E) : Aw Ω M_Mdl_lay R F k n 134 L (xi x0 :: xr (some a) :: st) σ :=
  Aw.callV (As := [xi x0]) (stk := xi x0 :: xr (some a) :: st) (nn := 1) 12 M_Mdl_refused hc ok_Mdl_refused rfl (by decide) rfl hk ml_Mdl_151 im_Mdl_refused se_Mdl_refused ⟨hr1, hr2⟩ rfl ⟨hb1, hb2⟩ hst rfl d_Mdl_lay_134 (fun r σ' h => by obtain ⟨x, rfl, h⟩ := h; exact kk x σ' h) kx
theorem r_Mdl_lay_141 {Ω : Om} {R : Room} {k n : Nat} {L : List PV} {σ : Sto} {QR : Option PV → Sto → Prop} {QX : String → Sto → Prop} {x : Int} (h : QR (some (xi x)) σ) (h1 : k ≤ R.cells) (h2 : n ≤ R.slots) : Aw Ω M_Mdl_lay R (MF Ω R QR QX) k n 141 L [xi x] σ := Aw.iret rfl h h1 h2 d_Mdl_lay_141
theorem c_Mdl_lay_143 {Ω : Om} {R R' : Room} {F : QF} {k n : Nat} {L st : List PV} {σ : Sto} {QX' : String → Sto → Prop} {Q : Sto → Prop} {a : Nat} (hc : MC Ω M_Mdl_remember R' (RV Q) QX' σ [xr (some a)]) (hk : sK σ a = 13) (hr1 : R'.frames + 1 ≤ R.frames) (hr2 : 8 + (2 + 11) + R'.locals ≤ R.locals) (hb1 : k + R'.cells ≤ R.cells) (hb2 : n + R'.slots ≤ R.slots) (hst : (st.map catP).sum ≤ 8) (kk : ∀ σ', Q σ' → Aw Ω M_Mdl_lay R F (k + R'.cells) (n + R'.slots) 146 L st σ') (kx : ∀ E σ', QX' E σ' → Ax Ω M_Mdl_lay R F (k + R'.cells) (n + R'.slots) 143 L st σ' E) : Aw Ω M_Mdl_lay R F k n 143 L (xr (some a) :: st) σ :=
  Aw.callV (As := []) (stk := xr (some a) :: st) (nn := 0) 12 M_Mdl_remember hc ok_Mdl_remember rfl (by decide) rfl hk ml_Mdl_205 im_Mdl_remember se_Mdl_remember ⟨hr1, hr2⟩ rfl ⟨hb1, hb2⟩ hst rfl d_Mdl_lay_143 (fun r σ' h => by obtain ⟨rfl, h⟩ := h; exact kk σ' h) kx
theorem r_Mdl_lay_188 {Ω : Om} {R : Room} {k n : Nat} {L : List PV} {σ : Sto} {QR : Option PV → Sto → Prop} {QX : String → Sto → Prop} {x : Int} (h : QR (some (xi x)) σ) (h1 : k ≤ R.cells) (h2 : n ≤ R.slots) : Aw Ω M_Mdl_lay R (MF Ω R QR QX) k n 188 L [xi x] σ := Aw.iret rfl h h1 h2 d_Mdl_lay_188
theorem e_Mdl_treeCost {Ω : Om} {R : Room} {QR : Option PV → Sto → Prop} {QX : String → Sto → Prop} {σ : Sto} {a0 : Nat} {v1 : Int} {v2 : Int} (h : Aw Ω M_Mdl_treeCost R (MF Ω R QR QX) 0 0 0 [xr (some a0), xi v1, xi v2, xu, xu, xu, xu] [] σ) : MC Ω M_Mdl_treeCost R QR QX σ [xr (some a0), xi v1, xi v2] := MC.body (by decide +kernel) rfl (Nat.le_of_ble_eq_true rfl) rfl h
theorem b_Mdl_treeCost_0 {Ω : Om} {R : Room} {F : QF} {k n : Nat} {σ : Sto} {a0 : Nat} {v1 : Int} {v2 : Int} (h : Aw Ω M_Mdl_treeCost R F k n 3 [xr (some a0), xi v1, xi v2, xu, xu, xu, xu] [xi v1, xr (some a0), xr (some a0)] σ) : Aw Ω M_Mdl_treeCost R F k n 0 [xr (some a0), xi v1, xi v2, xu, xu, xu, xu] [] σ := by
  refine Aw.aload_n rfl d_Mdl_treeCost_0 ?_
  refine Aw.aload_n rfl d_Mdl_treeCost_1 ?_
  refine Aw.iload_n rfl d_Mdl_treeCost_2 ?_
  exact h
theorem b_Mdl_treeCost_6 {Ω : Om} {R : Room} {F : QF} {k n : Nat} {σ : Sto} {a0 : Nat} {v1 : Int} {v2 : Int} {s0 : Nat} {s1 : Int} (h : Q32 s1 ∧ ((s1 = (0 : Int) → Aw Ω M_Mdl_treeCost R F k n 22 [xr (some a0), xi v1, xi v2, xu, xu, xu, xu] [xi 1, xr (some s0)] σ) ∧ (¬ s1 = (0 : Int) → Aw Ω M_Mdl_treeCost R F k n 11 [xr (some a0), xi v1, xi v2, xu, xu, xu, xu] [xi v2, xr (some a0), xr (some s0)] σ))) : Aw Ω M_Mdl_treeCost R F k n 6 [xr (some a0), xi v1, xi v2, xu, xu, xu, xu] [xi s1, xr (some s0)] σ := by
  obtain ⟨o1, h⟩ := h
  obtain ⟨ht, hf⟩ := h
  refine Aw.if_eq (tgt := 21) o1 (by decide) d_Mdl_treeCost_6 (fun c2 => ?_) (fun c2 => ?_)
  · have h := ht c2
    refine Aw.iconst d_Mdl_treeCost_21 ?_
    exact h
  · have h := hf c2
    refine Aw.aload_n rfl d_Mdl_treeCost_9 ?_
    refine Aw.iload_n rfl d_Mdl_treeCost_10 ?_
    exact h
theorem b_Mdl_treeCost_14 {Ω : Om} {R : Room} {F : QF} {k n : Nat} {σ : Sto} {a0 : Nat} {v1 : Int} {v2 : Int} {s0 : Nat} {s1 : Int} (h : Q32 s1 ∧ ((s1 = (0 : Int) → Aw Ω M_Mdl_treeCost R F k n 22 [xr (some a0), xi v1, xi v2, xu, xu, xu, xu] [xi 1, xr (some s0)] σ) ∧ (¬ s1 = (0 : Int) → Aw Ω M_Mdl_treeCost R F k n 22 [xr (some a0), xi v1, xi v2, xu, xu, xu, xu] [xi 0, xr (some s0)] σ))) : Aw Ω M_Mdl_treeCost R F k n 14 [xr (some a0), xi v1, xi v2, xu, xu, xu, xu] [xi s1, xr (some s0)] σ := by
  obtain ⟨o1, h⟩ := h
  obtain ⟨ht, hf⟩ := h
  refine Aw.if_eq (tgt := 21) o1 (by decide) d_Mdl_treeCost_14 (fun c2 => ?_) (fun c2 => ?_)
  · have h := ht c2
    refine Aw.iconst d_Mdl_treeCost_21 ?_
    exact h
  · have h := hf c2
    refine Aw.iconst d_Mdl_treeCost_17 ?_
    refine Aw.goto (tgt := 22) (by decide) d_Mdl_treeCost_18 ?_
    exact h
theorem b_Mdl_treeCost_25 {Ω : Om} {R : Room} {F : QF} {k n : Nat} {σ : Sto} {a0 : Nat} {v1 : Int} {v2 : Int} {s0 : Int} (h : Q32 s0 ∧ ((s0 = (0 : Int) → Aw Ω M_Mdl_treeCost R F k n 33 [xr (some a0), xi v1, xi v2, xu, xu, xu, xu] [xi v1, xi 0, xr (some a0)] σ) ∧ (¬ s0 = (0 : Int) → Aw Ω M_Mdl_treeCost R F k n 29 [xr (some a0), xi v1, xi v2, xu, xu, xu, xu] [xi 0] σ))) : Aw Ω M_Mdl_treeCost R F k n 25 [xr (some a0), xi v1, xi v2, xu, xu, xu, xu] [xi s0] σ := by
  obtain ⟨o1, h⟩ := h
  obtain ⟨ht, hf⟩ := h
  refine Aw.if_eq (tgt := 30) o1 (by decide) d_Mdl_treeCost_25 (fun c2 => ?_) (fun c2 => ?_)
  · have h := ht c2
    refine Aw.aload_n rfl d_Mdl_treeCost_30 ?_
    refine Aw.iconst d_Mdl_treeCost_31 ?_
    refine Aw.iload_n rfl d_Mdl_treeCost_32 ?_
    exact h
  · have h := hf c2
    refine Aw.iconst d_Mdl_treeCost_28 ?_
    exact h
theorem b_Mdl_treeCost_36 {Ω : Om} {R : Room} {F : QF} {k n : Nat} {σ : Sto} {a0 : Nat} {v1 : Int} {v2 : Int} (h : Aw Ω M_Mdl_treeCost R F k n 39 [xr (some a0), xi v1, xi v2, xu, xu, xu, xu] [xi v2, xi 1, xr (some a0)] σ) : Aw Ω M_Mdl_treeCost R F k n 36 [xr (some a0), xi v1, xi v2, xu, xu, xu, xu] [] σ := by
  refine Aw.aload_n rfl d_Mdl_treeCost_36 ?_
  refine Aw.iconst d_Mdl_treeCost_37 ?_
  refine Aw.iload_n rfl d_Mdl_treeCost_38 ?_
  exact h
theorem b_Mdl_treeCost_42 {Ω : Om} {R : Room} {F : QF} {k n : Nat} {σ : Sto} {a0 : Nat} {v1 : Int} {v2 : Int} (h : sK σ a0 = 13 ∧ (∃ b2 : Nat, fR σ 774 a0 = some b2 ∧ sK σ b2 = 50 ∧ 0 ≤ v1 ∧ v1 < sZ σ b2 ∧ (Q32 (aI σ b2 (v1).toNat) → 0 ≤ v2 ∧ v2 < sZ σ b2 ∧ (Q32 (aI σ b2 (v2).toNat) → Aw Ω M_Mdl_treeCost R F k n 64 [xr (some a0), xi v1, xi v2, xi ((aI σ b2 (v1).toNat) + 1), xi ((aI σ b2 (v2).toNat) + 1), xi 1, xu] [] σ)))) : Aw Ω M_Mdl_treeCost R F k n 42 [xr (some a0), xi v1, xi v2, xu, xu, xu, xu] [] σ := by
  refine Aw.aload_n rfl d_Mdl_treeCost_42 ?_
  obtain ⟨o1, h⟩ := h
  obtain ⟨b2, e3, h⟩ := h
  refine Aw.getRs (f := 774) 12 6 fl_Mdl_20 (by decide) (by decide) rfl rfl o1 e3 d_Mdl_treeCost_43 ?_
  refine Aw.iload_n rfl d_Mdl_treeCost_46 ?_
  obtain ⟨o4, h⟩ := h
  obtain ⟨o5, o6, h⟩ := h
  refine Aw.iald o4 o5 o6 d_Mdl_treeCost_47 (fun r7 => ?_)
  have h := h r7
  refine Aw.iconst d_Mdl_treeCost_48 ?_
  refine Aw.iadd d_Mdl_treeCost_49 ?_
  refine Aw.istore_n (by decide) d_Mdl_treeCost_50 ?_
  refine Aw.toL (L' := [xr (some a0), xi v1, xi v2, xi ((aI σ b2 (v1).toNat) + 1), xu, xu, xu]) rfl ?_
  refine Aw.aload_n rfl d_Mdl_treeCost_51 ?_
  refine Aw.getRs (f := 774) 12 6 fl_Mdl_20 (by decide) (by decide) rfl rfl o1 e3 d_Mdl_treeCost_52 ?_
  refine Aw.iload_n rfl d_Mdl_treeCost_55 ?_
  obtain ⟨o8, o9, h⟩ := h
  refine Aw.iald o4 o8 o9 d_Mdl_treeCost_56 (fun r10 => ?_)
  have h := h r10
  refine Aw.iconst d_Mdl_treeCost_57 ?_
  refine Aw.iadd d_Mdl_treeCost_58 ?_
  refine Aw.istore (by decide) d_Mdl_treeCost_59 ?_
  refine Aw.toL (L' := [xr (some a0), xi v1, xi v2, xi ((aI σ b2 (v1).toNat) + 1), xi ((aI σ b2 (v2).toNat) + 1), xu, xu]) rfl ?_
  refine Aw.iconst d_Mdl_treeCost_61 ?_
  refine Aw.istore (by decide) d_Mdl_treeCost_62 ?_
  refine Aw.toL (L' := [xr (some a0), xi v1, xi v2, xi ((aI σ b2 (v1).toNat) + 1), xi ((aI σ b2 (v2).toNat) + 1), xi 1, xu]) rfl ?_
  exact h
theorem b_Mdl_treeCost_64 {Ω : Om} {R : Room} {F : QF} {k n : Nat} {σ : Sto} {a0 : Nat} {v1 : Int} {v2 : Int} {v3 : Int} {v4 : Int} {v5 : Int} (h : Q32 v5 ∧ Q32 v3 ∧ ((v3 < v5 → sK σ a0 = 13 ∧ (∃ b4 : Nat, fR σ 818 a0 = some b4 ∧ sK σ b4 = 50 ∧ 0 ≤ ((22 * v3) + v4) ∧ ((22 * v3) + v4) < sZ σ b4 ∧ (Q32 (aI σ b4 ((22 * v3) + v4).toNat) → Aw Ω M_Mdl_treeCost R F k n 135 [xr (some a0), xi v1, xi v2, xi v3, xi v4, xi v5, xu] [xi (aI σ b4 ((22 * v3) + v4).toNat)] σ))) ∧ (¬ v3 < v5 → Aw Ω M_Mdl_treeCost R F k n 73 [xr (some a0), xi v1, xi v2, xi v3, xi v4, xi v5, xi 1] [] σ))) : Aw Ω M_Mdl_treeCost R F k n 64 [xr (some a0), xi v1, xi v2, xi v3, xi v4, xi v5, xu] [] σ := by
  refine Aw.iload rfl d_Mdl_treeCost_64 ?_
  refine Aw.iload_n rfl d_Mdl_treeCost_66 ?_
  obtain ⟨o1, h⟩ := h
  obtain ⟨o2, h⟩ := h
  obtain ⟨ht, hf⟩ := h
  refine Aw.icmp_gt (tgt := 123) o1 o2 (by decide) d_Mdl_treeCost_67 (fun c10 => ?_) (fun c10 => ?_)
  · have h := ht c10
    refine Aw.aload_n rfl d_Mdl_treeCost_123 ?_
    obtain ⟨o3, h⟩ := h
    obtain ⟨b4, e5, h⟩ := h
    refine Aw.getRs (f := 818) 12 50 fl_Mdl_114 (by decide) (by decide) rfl rfl o3 e5 d_Mdl_treeCost_124 ?_
    refine Aw.bipush (by decide) d_Mdl_treeCost_127 ?_
    refine Aw.iload_n rfl d_Mdl_treeCost_129 ?_
    refine Aw.imul d_Mdl_treeCost_130 ?_
    refine Aw.iload rfl d_Mdl_treeCost_131 ?_
    refine Aw.iadd d_Mdl_treeCost_133 ?_
    obtain ⟨o6, h⟩ := h
    obtain ⟨o7, o8, h⟩ := h
    refine Aw.iald o6 o7 o8 d_Mdl_treeCost_134 (fun r9 => ?_)
    have h := h r9
    exact h
  · have h := hf c10
    refine Aw.iconst d_Mdl_treeCost_70 ?_
    refine Aw.istore (by decide) d_Mdl_treeCost_71 ?_
    refine Aw.toL (L' := [xr (some a0), xi v1, xi v2, xi v3, xi v4, xi v5, xi 1]) rfl ?_
    exact h
theorem b_Mdl_treeCost_73 {Ω : Om} {R : Room} {F : QF} {k n : Nat} {σ : Sto} {a0 : Nat} {v1 : Int} {v2 : Int} {v3 : Int} {v4 : Int} {v5 : Int} {v6 : Int} (h : Q32 v6 ∧ Q32 v4 ∧ ((v4 < v6 → Aw Ω M_Mdl_treeCost R F k n 64 [xr (some a0), xi v1, xi v2, xi v3, xi v4, xi (v5 + 1), xu] [] σ) ∧ (¬ v4 < v6 → Aw Ω M_Mdl_treeCost R F k n 85 [xr (some a0), xi v1, xi v2, xi v3, xi v4, xi v5, xi v6] [xi v3, xi v5, xi 0, xr (some a0)] σ))) : Aw Ω M_Mdl_treeCost R F k n 73 [xr (some a0), xi v1, xi v2, xi v3, xi v4, xi v5, xi v6] [] σ := by
  refine Aw.iload rfl d_Mdl_treeCost_73 ?_
  refine Aw.iload rfl d_Mdl_treeCost_75 ?_
  obtain ⟨o1, h⟩ := h
  obtain ⟨o2, h⟩ := h
  obtain ⟨ht, hf⟩ := h
  refine Aw.icmp_gt (tgt := 117) o1 o2 (by decide) d_Mdl_treeCost_77 (fun c3 => ?_) (fun c3 => ?_)
  · have h := ht c3
    refine Aw.iinc rfl d_Mdl_treeCost_117 ?_
    refine Aw.toL (L' := [xr (some a0), xi v1, xi v2, xi v3, xi v4, xi (v5 + 1), xi v6]) rfl ?_
    refine Aw.goto (tgt := 64) (by decide) d_Mdl_treeCost_120 ?_
    exact Aw.toW (L' := [xr (some a0), xi v1, xi v2, xi v3, xi v4, xi (v5 + 1), xu]) ⟨Or.inr rfl, Or.inr rfl, Or.inr rfl, Or.inr rfl, Or.inr rfl, Or.inr rfl, Or.inl rfl, trivial⟩ h
  · have h := hf c3
    refine Aw.aload_n rfl d_Mdl_treeCost_80 ?_
    refine Aw.iconst d_Mdl_treeCost_81 ?_
    refine Aw.iload rfl d_Mdl_treeCost_82 ?_
    refine Aw.iload_n rfl d_Mdl_treeCost_84 ?_
    exact h
theorem b_Mdl_treeCost_88 {Ω : Om} {R : Room} {F : QF} {k n : Nat} {σ : Sto} {a0 : Nat} {v1 : Int} {v2 : Int} {v3 : Int} {v4 : Int} {v5 : Int} {v6 : Int} {s0 : Int} (h : Q32 s0 ∧ ((s0 = (0 : Int) → Aw Ω M_Mdl_treeCost R F k n 73 [xr (some a0), xi v1, xi v2, xi v3, xi v4, xi v5, xi (v6 + 1)] [] σ) ∧ (¬ s0 = (0 : Int) → Aw Ω M_Mdl_treeCost R F k n 97 [xr (some a0), xi v1, xi v2, xi v3, xi v4, xi v5, xi v6] [xi v4, xi v6, xi 1, xr (some a0)] σ))) : Aw Ω M_Mdl_treeCost R F k n 88 [xr (some a0), xi v1, xi v2, xi v3, xi v4, xi v5, xi v6] [xi s0] σ := by
  obtain ⟨o1, h⟩ := h
  obtain ⟨ht, hf⟩ := h
  refine Aw.if_eq (tgt := 111) o1 (by decide) d_Mdl_treeCost_88 (fun c2 => ?_) (fun c2 => ?_)
  · have h := ht c2
    refine Aw.iinc rfl d_Mdl_treeCost_111 ?_
    refine Aw.toL (L' := [xr (some a0), xi v1, xi v2, xi v3, xi v4, xi v5, xi (v6 + 1)]) rfl ?_
    refine Aw.goto (tgt := 73) (by decide) d_Mdl_treeCost_114 ?_
    exact h
  · have h := hf c2
    refine Aw.aload_n rfl d_Mdl_treeCost_91 ?_
    refine Aw.iconst d_Mdl_treeCost_92 ?_
    refine Aw.iload rfl d_Mdl_treeCost_93 ?_
    refine Aw.iload rfl d_Mdl_treeCost_95 ?_
    exact h
theorem b_Mdl_treeCost_100 {Ω : Om} {R : Room} {F : QF} {k n : Nat} {σ : Sto} {a0 : Nat} {v1 : Int} {v2 : Int} {v3 : Int} {v4 : Int} {v5 : Int} {v6 : Int} {s0 : Int} (h : Q32 s0 ∧ ((s0 = (0 : Int) → Aw Ω M_Mdl_treeCost R F k n 73 [xr (some a0), xi v1, xi v2, xi v3, xi v4, xi v5, xi (v6 + 1)] [] σ) ∧ (¬ s0 = (0 : Int) → Aw Ω M_Mdl_treeCost R F k n 108 [xr (some a0), xi v1, xi v2, xi v3, xi v4, xi v5, xi v6] [xi v6, xi v5, xr (some a0)] σ))) : Aw Ω M_Mdl_treeCost R F k n 100 [xr (some a0), xi v1, xi v2, xi v3, xi v4, xi v5, xi v6] [xi s0] σ := by
  obtain ⟨o1, h⟩ := h
  obtain ⟨ht, hf⟩ := h
  refine Aw.if_eq (tgt := 111) o1 (by decide) d_Mdl_treeCost_100 (fun c2 => ?_) (fun c2 => ?_)
  · have h := ht c2
    refine Aw.iinc rfl d_Mdl_treeCost_111 ?_
    refine Aw.toL (L' := [xr (some a0), xi v1, xi v2, xi v3, xi v4, xi v5, xi (v6 + 1)]) rfl ?_
    refine Aw.goto (tgt := 73) (by decide) d_Mdl_treeCost_114 ?_
    exact h
  · have h := hf c2
    refine Aw.aload_n rfl d_Mdl_treeCost_103 ?_
    refine Aw.iload rfl d_Mdl_treeCost_104 ?_
    refine Aw.iload rfl d_Mdl_treeCost_106 ?_
    exact h
theorem b_Mdl_treeCost_111 {Ω : Om} {R : Room} {F : QF} {k n : Nat} {σ : Sto} {a0 : Nat} {v1 : Int} {v2 : Int} {v3 : Int} {v4 : Int} {v5 : Int} {v6 : Int} (h : Aw Ω M_Mdl_treeCost R F k n 73 [xr (some a0), xi v1, xi v2, xi v3, xi v4, xi v5, xi (v6 + 1)] [] σ) : Aw Ω M_Mdl_treeCost R F k n 111 [xr (some a0), xi v1, xi v2, xi v3, xi v4, xi v5, xi v6] [] σ := by
  refine Aw.iinc rfl d_Mdl_treeCost_111 ?_
  refine Aw.toL (L' := [xr (some a0), xi v1, xi v2, xi v3, xi v4, xi v5, xi (v6 + 1)]) rfl ?_
  refine Aw.goto (tgt := 73) (by decide) d_Mdl_treeCost_114 ?_
  exact h
theorem c_Mdl_treeCost_3 {Ω : Om} {R R' : Room} {F : QF} {k n : Nat} {L st : List PV} {σ : Sto} {QX' : String → Sto → Prop} {Q : Int → Sto → Prop} {a : Nat} {x0 : Int} (hc : MC Ω M_Mdl_isVersion R' (RI Q) QX' σ [xr (some a), xi x0]) (hk : sK σ a = 13) (hr1 : R'.frames + 1 ≤ R.frames) (hr2 : 8 + (2 + 11) + R'.locals ≤ R.locals) (hb1 : k + R'.cells ≤ R.cells) (hb2 : n + R'.slots ≤ R.slots) (hst : (st.map catP).sum ≤ 8) (kk : ∀ x σ', Q x σ' → Aw Ω M_Mdl_treeCost R F (k + R'.cells) (n + R'.slots) 6 L (xi x :: st) σ') (kx : ∀ E σ', QX' E σ' → Ax Ω M_Mdl_treeCost R F (k + R'.cells) (n + R'.slots) 3 L st σ' E) : Aw Ω M_Mdl_treeCost R F k n 3 L (xi x0 :: xr (some a) :: st) σ :=
  Aw.callV (As := [xi x0]) (stk := xi x0 :: xr (some a) :: st) (nn := 1) 12 M_Mdl_isVersion hc ok_Mdl_isVersion rfl (by decide) rfl hk ml_Mdl_172 im_Mdl_isVersion se_Mdl_isVersion ⟨hr1, hr2⟩ rfl ⟨hb1, hb2⟩ hst rfl d_Mdl_treeCost_3 (fun r σ' h => by obtain ⟨x, rfl, h⟩ := h; exact kk x σ' h) kx
theorem c_Mdl_treeCost_11 {Ω : Om} {R R' : Room} {F : QF} {k n : Nat} {L st : List PV} {σ : Sto} {QX' : String → Sto → Prop} {Q : Int → Sto → Prop} {a : Nat} {x0 : Int} (hc : MC Ω M_Mdl_isVersion R' (RI Q) QX' σ [xr (some a), xi x0]) (hk : sK σ a = 13) (hr1 : R'.frames + 1 ≤ R.frames) (hr2 : 8 + (2 + 11) + R'.locals ≤ R.locals) (hb1 : k + R'.cells ≤ R.cells) (hb2 : n + R'.slots ≤ R.slots) (hst : (st.map catP).sum ≤ 8) (kk : ∀ x σ', Q x σ' → Aw Ω M_Mdl_treeCost R F (k + R'.cells) (n + R'.slots) 14 L (xi x :: st) σ') (kx : ∀ E σ', QX' E σ' → Ax Ω M_Mdl_treeCost R F (k + R'.cells) (n + R'.slots) 11 L st σ' E) : Aw Ω M_Mdl_treeCost R F k n 11 L (xi x0 :: xr (some a) :: st) σ :=
  Aw.callV (As := [xi x0]) (stk := xi x0 :: xr (some a) :: st) (nn := 1) 12 M_Mdl_isVersion hc ok_Mdl_isVersion rfl (by decide) rfl hk ml_Mdl_172 im_Mdl_isVersion se_Mdl_isVersion ⟨hr1, hr2⟩ rfl ⟨hb1, hb2⟩ hst rfl d_Mdl_treeCost_11 (fun r σ' h => by obtain ⟨x, rfl, h⟩ := h; exact kk x σ' h) kx
theorem c_Mdl_treeCost_22 {Ω : Om} {R R' : Room} {F : QF} {k n : Nat} {L st : List PV} {σ : Sto} {QX' : String → Sto → Prop} {Q : Int → Sto → Prop} {a : Nat} {x0 : Int} (hc : MC Ω M_Mdl_refused R' (RI Q) QX' σ [xr (some a), xi x0]) (hk : sK σ a = 13) (hr1 : R'.frames + 1 ≤ R.frames) (hr2 : 8 + (2 + 11) + R'.locals ≤ R.locals) (hb1 : k + R'.cells ≤ R.cells) (hb2 : n + R'.slots ≤ R.slots) (hst : (st.map catP).sum ≤ 8) (kk : ∀ x σ', Q x σ' → Aw Ω M_Mdl_treeCost R F (k + R'.cells) (n + R'.slots) 25 L (xi x :: st) σ') (kx : ∀ E σ', QX' E σ' → Ax Ω M_Mdl_treeCost R F (k + R'.cells) (n + R'.slots) 22 L st σ' E) : Aw Ω M_Mdl_treeCost R F k n 22 L (xi x0 :: xr (some a) :: st) σ :=
  Aw.callV (As := [xi x0]) (stk := xi x0 :: xr (some a) :: st) (nn := 1) 12 M_Mdl_refused hc ok_Mdl_refused rfl (by decide) rfl hk ml_Mdl_151 im_Mdl_refused se_Mdl_refused ⟨hr1, hr2⟩ rfl ⟨hb1, hb2⟩ hst rfl d_Mdl_treeCost_22 (fun r σ' h => by obtain ⟨x, rfl, h⟩ := h; exact kk x σ' h) kx
theorem r_Mdl_treeCost_29 {Ω : Om} {R : Room} {k n : Nat} {L : List PV} {σ : Sto} {QR : Option PV → Sto → Prop} {QX : String → Sto → Prop} {x : Int} (h : QR (some (xi x)) σ) (h1 : k ≤ R.cells) (h2 : n ≤ R.slots) : Aw Ω M_Mdl_treeCost R (MF Ω R QR QX) k n 29 L [xi x] σ := Aw.iret rfl h h1 h2 d_Mdl_treeCost_29
theorem c_Mdl_treeCost_33 {Ω : Om} {R R' : Room} {F : QF} {k n : Nat} {L st : List PV} {σ : Sto} {QX' : String → Sto → Prop} {Q : Sto → Prop} {a : Nat} {x0 : Int} {x1 : Int} (hc : MC Ω M_Mdl_plant R' (RV Q) QX' σ [xr (some a), xi x0, xi x1]) (hk : sK σ a = 13) (hr1 : R'.frames + 1 ≤ R.frames) (hr2 : 8 + (8 + 11) + R'.locals ≤ R.locals) (hb1 : k + R'.cells ≤ R.cells) (hb2 : n + R'.slots ≤ R.slots) (hst : (st.map catP).sum ≤ 8) (kk : ∀ σ', Q σ' → Aw Ω M_Mdl_treeCost R F (k + R'.cells) (n + R'.slots) 36 L st σ') (kx : ∀ E σ', QX' E σ' → Ax Ω M_Mdl_treeCost R F (k + R'.cells) (n + R'.slots) 33 L st σ' E) : Aw Ω M_Mdl_treeCost R F k n 33 L (xi x1 :: xi x0 :: xr (some a) :: st) σ :=
  Aw.callV (As := [xi x0, xi x1]) (stk := xi x1 :: xi x0 :: xr (some a) :: st) (nn := 2) 12 M_Mdl_plant hc ok_Mdl_plant rfl (by decide) rfl hk ml_Mdl_282 im_Mdl_plant se_Mdl_plant ⟨hr1, hr2⟩ rfl ⟨hb1, hb2⟩ hst rfl d_Mdl_treeCost_33 (fun r σ' h => by obtain ⟨rfl, h⟩ := h; exact kk σ' h) kx
theorem c_Mdl_treeCost_39 {Ω : Om} {R R' : Room} {F : QF} {k n : Nat} {L st : List PV} {σ : Sto} {QX' : String → Sto → Prop} {Q : Sto → Prop} {a : Nat} {x0 : Int} {x1 : Int} (hc : MC Ω M_Mdl_plant R' (RV Q) QX' σ [xr (some a), xi x0, xi x1]) (hk : sK σ a = 13) (hr1 : R'.frames + 1 ≤ R.frames) (hr2 : 8 + (8 + 11) + R'.locals ≤ R.locals) (hb1 : k + R'.cells ≤ R.cells) (hb2 : n + R'.slots ≤ R.slots) (hst : (st.map catP).sum ≤ 8) (kk : ∀ σ', Q σ' → Aw Ω M_Mdl_treeCost R F (k + R'.cells) (n + R'.slots) 42 L st σ') (kx : ∀ E σ', QX' E σ' → Ax Ω M_Mdl_treeCost R F (k + R'.cells) (n + R'.slots) 39 L st σ' E) : Aw Ω M_Mdl_treeCost R F k n 39 L (xi x1 :: xi x0 :: xr (some a) :: st) σ :=
  Aw.callV (As := [xi x0, xi x1]) (stk := xi x1 :: xi x0 :: xr (some a) :: st) (nn := 2) 12 M_Mdl_plant hc ok_Mdl_plant rfl (by decide) rfl hk ml_Mdl_282 im_Mdl_plant se_Mdl_plant ⟨hr1, hr2⟩ rfl ⟨hb1, hb2⟩ hst rfl d_Mdl_treeCost_39 (fun r σ' h => by obtain ⟨rfl, h⟩ := h; exact kk σ' h) kx
theorem c_Mdl_treeCost_85 {Ω : Om} {R R' : Room} {F : QF} {k n : Nat} {L st : List PV} {σ : Sto} {QX' : String → Sto → Prop} {Q : Int → Sto → Prop} {a : Nat} {x0 : Int} {x1 : Int} {x2 : Int} (hc : MC Ω M_Mdl_isKey R' (RI Q) QX' σ [xr (some a), xi x0, xi x1, xi x2]) (hk : sK σ a = 13) (hr1 : R'.frames + 1 ≤ R.frames) (hr2 : 8 + (6 + 11) + R'.locals ≤ R.locals) (hb1 : k + R'.cells ≤ R.cells) (hb2 : n + R'.slots ≤ R.slots) (hst : (st.map catP).sum ≤ 8) (kk : ∀ x σ', Q x σ' → Aw Ω M_Mdl_treeCost R F (k + R'.cells) (n + R'.slots) 88 L (xi x :: st) σ') (kx : ∀ E σ', QX' E σ' → Ax Ω M_Mdl_treeCost R F (k + R'.cells) (n + R'.slots) 85 L st σ' E) : Aw Ω M_Mdl_treeCost R F k n 85 L (xi x2 :: xi x1 :: xi x0 :: xr (some a) :: st) σ :=
  Aw.callV (As := [xi x0, xi x1, xi x2]) (stk := xi x2 :: xi x1 :: xi x0 :: xr (some a) :: st) (nn := 3) 12 M_Mdl_isKey hc ok_Mdl_isKey rfl (by decide) rfl hk ml_Mdl_285 im_Mdl_isKey se_Mdl_isKey ⟨hr1, hr2⟩ rfl ⟨hb1, hb2⟩ hst rfl d_Mdl_treeCost_85 (fun r σ' h => by obtain ⟨x, rfl, h⟩ := h; exact kk x σ' h) kx
theorem c_Mdl_treeCost_97 {Ω : Om} {R R' : Room} {F : QF} {k n : Nat} {L st : List PV} {σ : Sto} {QX' : String → Sto → Prop} {Q : Int → Sto → Prop} {a : Nat} {x0 : Int} {x1 : Int} {x2 : Int} (hc : MC Ω M_Mdl_isKey R' (RI Q) QX' σ [xr (some a), xi x0, xi x1, xi x2]) (hk : sK σ a = 13) (hr1 : R'.frames + 1 ≤ R.frames) (hr2 : 8 + (6 + 11) + R'.locals ≤ R.locals) (hb1 : k + R'.cells ≤ R.cells) (hb2 : n + R'.slots ≤ R.slots) (hst : (st.map catP).sum ≤ 8) (kk : ∀ x σ', Q x σ' → Aw Ω M_Mdl_treeCost R F (k + R'.cells) (n + R'.slots) 100 L (xi x :: st) σ') (kx : ∀ E σ', QX' E σ' → Ax Ω M_Mdl_treeCost R F (k + R'.cells) (n + R'.slots) 97 L st σ' E) : Aw Ω M_Mdl_treeCost R F k n 97 L (xi x2 :: xi x1 :: xi x0 :: xr (some a) :: st) σ :=
  Aw.callV (As := [xi x0, xi x1, xi x2]) (stk := xi x2 :: xi x1 :: xi x0 :: xr (some a) :: st) (nn := 3) 12 M_Mdl_isKey hc ok_Mdl_isKey rfl (by decide) rfl hk ml_Mdl_285 im_Mdl_isKey se_Mdl_isKey ⟨hr1, hr2⟩ rfl ⟨hb1, hb2⟩ hst rfl d_Mdl_treeCost_97 (fun r σ' h => by obtain ⟨x, rfl, h⟩ := h; exact kk x σ' h) kx
theorem c_Mdl_treeCost_108 {Ω : Om} {R R' : Room} {F : QF} {k n : Nat} {L st : List PV} {σ : Sto} {QX' : String → Sto → Prop} {Q : Sto → Prop} {a : Nat} {x0 : Int} {x1 : Int} (hc : MC Ω M_Mdl_compareTrees R' (RV Q) QX' σ [xr (some a), xi x0, xi x1]) (hk : sK σ a = 13) (hr1 : R'.frames + 1 ≤ R.frames) (hr2 : 8 + (9 + 11) + R'.locals ≤ R.locals) (hb1 : k + R'.cells ≤ R.cells) (hb2 : n + R'.slots ≤ R.slots) (hst : (st.map catP).sum ≤ 8) (kk : ∀ σ', Q σ' → Aw Ω M_Mdl_treeCost R F (k + R'.cells) (n + R'.slots) 111 L st σ') (kx : ∀ E σ', QX' E σ' → Ax Ω M_Mdl_treeCost R F (k + R'.cells) (n + R'.slots) 108 L st σ' E) : Aw Ω M_Mdl_treeCost R F k n 108 L (xi x1 :: xi x0 :: xr (some a) :: st) σ :=
  Aw.callV (As := [xi x0, xi x1]) (stk := xi x1 :: xi x0 :: xr (some a) :: st) (nn := 2) 12 M_Mdl_compareTrees hc ok_Mdl_compareTrees rfl (by decide) rfl hk ml_Mdl_288 im_Mdl_compareTrees se_Mdl_compareTrees ⟨hr1, hr2⟩ rfl ⟨hb1, hb2⟩ hst rfl d_Mdl_treeCost_108 (fun r σ' h => by obtain ⟨rfl, h⟩ := h; exact kk σ' h) kx
theorem r_Mdl_treeCost_135 {Ω : Om} {R : Room} {k n : Nat} {L : List PV} {σ : Sto} {QR : Option PV → Sto → Prop} {QX : String → Sto → Prop} {x : Int} (h : QR (some (xi x)) σ) (h1 : k ≤ R.cells) (h2 : n ≤ R.slots) : Aw Ω M_Mdl_treeCost R (MF Ω R QR QX) k n 135 L [xi x] σ := Aw.iret rfl h h1 h2 d_Mdl_treeCost_135
theorem e_Mdl_undo {Ω : Om} {R : Room} {QR : Option PV → Sto → Prop} {QX : String → Sto → Prop} {σ : Sto} {a0 : Nat} (h : Aw Ω M_Mdl_undo R (MF Ω R QR QX) 0 0 0 [xr (some a0), xu] [] σ) : MC Ω M_Mdl_undo R QR QX σ [xr (some a0)] := MC.body (by decide +kernel) rfl (Nat.le_of_ble_eq_true rfl) rfl h
theorem b_Mdl_undo_0 {Ω : Om} {R : Room} {F : QF} {k n : Nat} {σ : Sto} {a0 : Nat} (h : sK σ a0 = 13 ∧ (Q32 (fI σ 779 a0) → (((fI σ 779 a0) = (0 : Int) → Aw Ω M_Mdl_undo R F k n 27 [xr (some a0), xu] [xi 1, xr (some a0)] σ) ∧ (¬ (fI σ 779 a0) = (0 : Int) → (Q32 (fI σ 789 a0) → (((fI σ 789 a0) ≤ (0 : Int) → Aw Ω M_Mdl_undo R F k n 27 [xr (some a0), xu] [xi 1, xr (some a0)] σ) ∧ (¬ (fI σ 789 a0) ≤ (0 : Int) → Aw Ω M_Mdl_undo R F k n 16 [xr (some a0), xu] [xr (some a0), xr (some a0)] σ))))))) : Aw Ω M_Mdl_undo R F k n 0 [xr (some a0), xu] [] σ := by
  refine Aw.aload_n rfl d_Mdl_undo_0 ?_
  refine Aw.aload_n rfl d_Mdl_undo_1 ?_
  obtain ⟨o1, h⟩ := h
  refine Aw.getI (f := 779) 12 11 fl_Mdl_178 (by decide) (by decide) rfl rfl o1 d_Mdl_undo_2 (fun r2 => ?_)
  have h := h r2
  obtain ⟨ht, hf⟩ := h
  refine Aw.if_eq (tgt := 26) r2 (by decide) d_Mdl_undo_5 (fun c5 => ?_) (fun c5 => ?_)
  · have h := ht c5
    refine Aw.iconst d_Mdl_undo_26 ?_
    exact h
  · have h := hf c5
    refine Aw.aload_n rfl d_Mdl_undo_8 ?_
    refine Aw.getI (f := 789) 12 21 fl_Mdl_191 (by decide) (by decide) rfl rfl o1 d_Mdl_undo_9 (fun r3 => ?_)
    have h := h r3
    obtain ⟨ht, hf⟩ := h
    refine Aw.if_le (tgt := 26) r3 (by decide) d_Mdl_undo_12 (fun c4 => ?_) (fun c4 => ?_)
    · have h := ht c4
      refine Aw.iconst d_Mdl_undo_26 ?_
      exact h
    · have h := hf c4
      refine Aw.aload_n rfl d_Mdl_undo_15 ?_
      exact h
theorem b_Mdl_undo_19 {Ω : Om} {R : Room} {F : QF} {k n : Nat} {σ : Sto} {a0 : Nat} {s0 : Nat} {s1 : Int} (h : Q32 s1 ∧ ((s1 = (0 : Int) → Aw Ω M_Mdl_undo R F k n 27 [xr (some a0), xu] [xi 1, xr (some s0)] σ) ∧ (¬ s1 = (0 : Int) → Aw Ω M_Mdl_undo R F k n 27 [xr (some a0), xu] [xi 0, xr (some s0)] σ))) : Aw Ω M_Mdl_undo R F k n 19 [xr (some a0), xu] [xi s1, xr (some s0)] σ := by
  obtain ⟨o1, h⟩ := h
  obtain ⟨ht, hf⟩ := h
  refine Aw.if_eq (tgt := 26) o1 (by decide) d_Mdl_undo_19 (fun c2 => ?_) (fun c2 => ?_)
  · have h := ht c2
    refine Aw.iconst d_Mdl_undo_26 ?_
    exact h
  · have h := hf c2
    refine Aw.iconst d_Mdl_undo_22 ?_
    refine Aw.goto (tgt := 27) (by decide) d_Mdl_undo_23 ?_
    exact h
theorem b_Mdl_undo_30 {Ω : Om} {R : Room} {F : QF} {k n : Nat} {σ : Sto} {a0 : Nat} {s0 : Int} (h : Q32 s0 ∧ ((s0 = (0 : Int) → sK σ a0 = 13 ∧ (Q32 (fI σ 789 a0) → Q32 ((fI σ 789 a0) - 1) ∧ Aw Ω M_Mdl_undo R F k n 45 [xr (some a0), xu] [] (uI σ 789 a0 ((fI σ 789 a0) - 1)))) ∧ (¬ s0 = (0 : Int) → Aw Ω M_Mdl_undo R F k n 34 [xr (some a0), xu] [xi 0] σ))) : Aw Ω M_Mdl_undo R F k n 30 [xr (some a0), xu] [xi s0] σ := by
  obtain ⟨o1, h⟩ := h
  obtain ⟨ht, hf⟩ := h
  refine Aw.if_eq (tgt := 35) o1 (by decide) d_Mdl_undo_30 (fun c5 => ?_) (fun c5 => ?_)
  · have h := ht c5
    refine Aw.aload_n rfl d_Mdl_undo_35 ?_
    refine Aw.dup rfl d_Mdl_undo_36 ?_
    obtain ⟨o2, h⟩ := h
    refine Aw.getI (f := 789) 12 21 fl_Mdl_191 (by decide) (by decide) rfl rfl o2 d_Mdl_undo_37 (fun r3 => ?_)
    have h := h r3
    refine Aw.iconst d_Mdl_undo_40 ?_
    refine Aw.isub d_Mdl_undo_41 ?_
    obtain ⟨o4, h⟩ := h
    refine Aw.putI (f := 789) 12 21 fl_Mdl_191 (by decide) (by decide) rfl rfl o2 rfl o4 (Or.inl rfl) d_Mdl_undo_42 ?_
    exact h
  · have h := hf c5
    refine Aw.iconst d_Mdl_undo_33 ?_
    exact h
theorem b_Mdl_undo_45 {Ω : Om} {R : Room} {F : QF} {k n : Nat} {σ : Sto} {a0 : Nat} (h : sK σ a0 = 13 ∧ (∃ b2 : Nat, fR σ 790 a0 = some b2 ∧ (Q32 (fI σ 789 a0) → sK σ b2 = 50 ∧ 0 ≤ (fI σ 789 a0) ∧ (fI σ 789 a0) < sZ σ b2 ∧ (Q32 (aI σ b2 (fI σ 789 a0).toNat) → Aw Ω M_Mdl_undo R F k n 58 [xr (some a0), xu] [] (uI σ 783 a0 (aI σ b2 (fI σ 789 a0).toNat)))))) : Aw Ω M_Mdl_undo R F k n 45 [xr (some a0), xu] [] σ := by
  refine Aw.aload_n rfl d_Mdl_undo_45 ?_
  refine Aw.aload_n rfl d_Mdl_undo_46 ?_
  obtain ⟨o1, h⟩ := h
  obtain ⟨b2, e3, h⟩ := h
  refine Aw.getRs (f := 790) 12 22 fl_Mdl_44 (by decide) (by decide) rfl rfl o1 e3 d_Mdl_undo_47 ?_
  refine Aw.aload_n rfl d_Mdl_undo_50 ?_
  refine Aw.getI (f := 789) 12 21 fl_Mdl_191 (by decide) (by decide) rfl rfl o1 d_Mdl_undo_51 (fun r4 => ?_)
  have h := h r4
  obtain ⟨o5, h⟩ := h
  obtain ⟨o6, o7, h⟩ := h
  refine Aw.iald o5 o6 o7 d_Mdl_undo_54 (fun r8 => ?_)
  have h := h r8
  refine Aw.putI (f := 783) 12 15 fl_Mdl_194 (by decide) (by decide) rfl rfl o1 rfl r8 (Or.inl rfl) d_Mdl_undo_55 ?_
  exact h
theorem b_Mdl_undo_58 {Ω : Om} {R : Room} {F : QF} {k n : Nat} {σ : Sto} {a0 : Nat} (h : sK σ a0 = 13 ∧ (∃ b2 : Nat, fR σ 791 a0 = some b2 ∧ (Q32 (fI σ 789 a0) → sK σ b2 = 50 ∧ 0 ≤ (fI σ 789 a0) ∧ (fI σ 789 a0) < sZ σ b2 ∧ (Q32 (aI σ b2 (fI σ 789 a0).toNat) → Aw Ω M_Mdl_undo R F k n 73 [xr (some a0), xi 0] [] (uI σ 786 a0 (aI σ b2 (fI σ 789 a0).toNat)))))) : Aw Ω M_Mdl_undo R F k n 58 [xr (some a0), xu] [] σ := by
  refine Aw.aload_n rfl d_Mdl_undo_58 ?_
  refine Aw.aload_n rfl d_Mdl_undo_59 ?_
  obtain ⟨o1, h⟩ := h
  obtain ⟨b2, e3, h⟩ := h
  refine Aw.getRs (f := 791) 12 23 fl_Mdl_47 (by decide) (by decide) rfl rfl o1 e3 d_Mdl_undo_60 ?_
  refine Aw.aload_n rfl d_Mdl_undo_63 ?_
  refine Aw.getI (f := 789) 12 21 fl_Mdl_191 (by decide) (by decide) rfl rfl o1 d_Mdl_undo_64 (fun r4 => ?_)
  have h := h r4
  obtain ⟨o5, h⟩ := h
  obtain ⟨o6, o7, h⟩ := h
  refine Aw.iald o5 o6 o7 d_Mdl_undo_67 (fun r8 => ?_)
  have h := h r8
  refine Aw.putI (f := 786) 12 18 fl_Mdl_188 (by decide) (by decide) rfl rfl o1 rfl r8 (Or.inl rfl) d_Mdl_undo_68 ?_
  refine Aw.iconst d_Mdl_undo_71 ?_
  refine Aw.istore_n (by decide) d_Mdl_undo_72 ?_
  refine Aw.toL (L' := [xr (some a0), xi 0]) rfl ?_
  exact h
theorem b_Mdl_undo_73 {Ω : Om} {R : Room} {F : QF} {k n : Nat} {σ : Sto} {a0 : Nat} {v1 : Int} (h : sK σ a0 = 13 ∧ (Q32 (fI σ 783 a0) → Q32 v1 ∧ (((fI σ 783 a0) ≤ v1 → Aw Ω M_Mdl_undo R F k n 108 [xr (some a0), xi v1] [xr (some a0)] σ) ∧ (¬ (fI σ 783 a0) ≤ v1 → (∃ b4 : Nat, fR σ 784 a0 = some b4 ∧ (∃ b6 : Nat, fR σ 792 a0 = some b6 ∧ (Q32 (fI σ 789 a0) → sK σ b6 = 50 ∧ 0 ≤ ((48 * (fI σ 789 a0)) + v1) ∧ ((48 * (fI σ 789 a0)) + v1) < sZ σ b6 ∧ (Q32 (aI σ b6 ((48 * (fI σ 789 a0)) + v1).toNat) → sK σ b4 = 50 ∧ 0 ≤ v1 ∧ v1 < sZ σ b4 ∧ Aw Ω M_Mdl_undo R F k n 73 [xr (some a0), xi (v1 + 1)] [] (vI σ b4 (v1).toNat (aI σ b6 ((48 * (fI σ 789 a0)) + v1).toNat)))))))))) : Aw Ω M_Mdl_undo R F k n 73 [xr (some a0), xi v1] [] σ := by
  refine Aw.iload_n rfl d_Mdl_undo_73 ?_
  refine Aw.aload_n rfl d_Mdl_undo_74 ?_
  obtain ⟨o1, h⟩ := h
  refine Aw.getI (f := 783) 12 15 fl_Mdl_194 (by decide) (by decide) rfl rfl o1 d_Mdl_undo_75 (fun r2 => ?_)
  have h := h r2
  obtain ⟨o3, h⟩ := h
  obtain ⟨ht, hf⟩ := h
  refine Aw.icmp_ge (tgt := 107) o3 r2 (by decide) d_Mdl_undo_78 (fun c16 => ?_) (fun c16 => ?_)
  · have h := ht c16
    refine Aw.aload_n rfl d_Mdl_undo_107 ?_
    exact h
  · have h := hf c16
    refine Aw.aload_n rfl d_Mdl_undo_81 ?_
    obtain ⟨b4, e5, h⟩ := h
    refine Aw.getRs (f := 784) 12 16 fl_Mdl_35 (by decide) (by decide) rfl rfl o1 e5 d_Mdl_undo_82 ?_
    refine Aw.iload_n rfl d_Mdl_undo_85 ?_
    refine Aw.aload_n rfl d_Mdl_undo_86 ?_
    obtain ⟨b6, e7, h⟩ := h
    refine Aw.getRs (f := 792) 12 24 fl_Mdl_50 (by decide) (by decide) rfl rfl o1 e7 d_Mdl_undo_87 ?_
    refine Aw.bipush (by decide) d_Mdl_undo_90 ?_
    refine Aw.aload_n rfl d_Mdl_undo_92 ?_
    refine Aw.getI (f := 789) 12 21 fl_Mdl_191 (by decide) (by decide) rfl rfl o1 d_Mdl_undo_93 (fun r8 => ?_)
    have h := h r8
    refine Aw.imul d_Mdl_undo_96 ?_
    refine Aw.iload_n rfl d_Mdl_undo_97 ?_
    refine Aw.iadd d_Mdl_undo_98 ?_
    obtain ⟨o9, h⟩ := h
    obtain ⟨o10, o11, h⟩ := h
    refine Aw.iald o9 o10 o11 d_Mdl_undo_99 (fun r12 => ?_)
    have h := h r12
    obtain ⟨o13, h⟩ := h
    obtain ⟨o14, o15, h⟩ := h
    refine Aw.iast o13 o14 o15 r12 d_Mdl_undo_100 ?_
    refine Aw.iinc rfl d_Mdl_undo_101 ?_
    refine Aw.toL (L' := [xr (some a0), xi (v1 + 1)]) rfl ?_
    refine Aw.goto (tgt := 73) (by decide) d_Mdl_undo_104 ?_
    exact h
theorem c_Mdl_undo_16 {Ω : Om} {R R' : Room} {F : QF} {k n : Nat} {L st : List PV} {σ : Sto} {QX' : String → Sto → Prop} {Q : Int → Sto → Prop} {a : Nat} (hc : MC Ω M_Mdl_isSettled R' (RI Q) QX' σ [xr (some a)]) (hk : sK σ a = 13) (hr1 : R'.frames + 1 ≤ R.frames) (hr2 : 8 + (1 + 11) + R'.locals ≤ R.locals) (hb1 : k + R'.cells ≤ R.cells) (hb2 : n + R'.slots ≤ R.slots) (hst : (st.map catP).sum ≤ 8) (kk : ∀ x σ', Q x σ' → Aw Ω M_Mdl_undo R F (k + R'.cells) (n + R'.slots) 19 L (xi x :: st) σ') (kx : ∀ E σ', QX' E σ' → Ax Ω M_Mdl_undo R F (k + R'.cells) (n + R'.slots) 16 L st σ' E) : Aw Ω M_Mdl_undo R F k n 16 L (xr (some a) :: st) σ :=
  Aw.callV (As := []) (stk := xr (some a) :: st) (nn := 0) 12 M_Mdl_isSettled hc ok_Mdl_isSettled rfl (by decide) rfl hk ml_Mdl_201 im_Mdl_isSettled se_Mdl_isSettled ⟨hr1, hr2⟩ rfl ⟨hb1, hb2⟩ hst rfl d_Mdl_undo_16 (fun r σ' h => by obtain ⟨x, rfl, h⟩ := h; exact kk x σ' h) kx
theorem c_Mdl_undo_27 {Ω : Om} {R R' : Room} {F : QF} {k n : Nat} {L st : List PV} {σ : Sto} {QX' : String → Sto → Prop} {Q : Int → Sto → Prop} {a : Nat} {x0 : Int} (hc : MC Ω M_Mdl_refused R' (RI Q) QX' σ [xr (some a), xi x0]) (hk : sK σ a = 13) (hr1 : R'.frames + 1 ≤ R.frames) (hr2 : 8 + (2 + 11) + R'.locals ≤ R.locals) (hb1 : k + R'.cells ≤ R.cells) (hb2 : n + R'.slots ≤ R.slots) (hst : (st.map catP).sum ≤ 8) (kk : ∀ x σ', Q x σ' → Aw Ω M_Mdl_undo R F (k + R'.cells) (n + R'.slots) 30 L (xi x :: st) σ') (kx : ∀ E σ', QX' E σ' → Ax Ω M_Mdl_undo R F (k + R'.cells) (n + R'.slots) 27 L st σ' E) : Aw Ω M_Mdl_undo R F k n 27 L (xi x0 :: xr (some a) :: st) σ :=
  Aw.callV (As := [xi x0]) (stk := xi x0 :: xr (some a) :: st) (nn := 1) 12 M_Mdl_refused hc ok_Mdl_refused rfl (by decide) rfl hk ml_Mdl_151 im_Mdl_refused se_Mdl_refused ⟨hr1, hr2⟩ rfl ⟨hb1, hb2⟩ hst rfl d_Mdl_undo_27 (fun r σ' h => by obtain ⟨x, rfl, h⟩ := h; exact kk x σ' h) kx
theorem r_Mdl_undo_34 {Ω : Om} {R : Room} {k n : Nat} {L : List PV} {σ : Sto} {QR : Option PV → Sto → Prop} {QX : String → Sto → Prop} {x : Int} (h : QR (some (xi x)) σ) (h1 : k ≤ R.cells) (h2 : n ≤ R.slots) : Aw Ω M_Mdl_undo R (MF Ω R QR QX) k n 34 L [xi x] σ := Aw.iret rfl h h1 h2 d_Mdl_undo_34
theorem c_Mdl_undo_108 {Ω : Om} {R R' : Room} {F : QF} {k n : Nat} {L st : List PV} {σ : Sto} {QX' : String → Sto → Prop} {Q : Int → Sto → Prop} {a : Nat} (hc : MC Ω M_Mdl_lineCount R' (RI Q) QX' σ [xr (some a)]) (hk : sK σ a = 13) (hr1 : R'.frames + 1 ≤ R.frames) (hr2 : 8 + (3 + 11) + R'.locals ≤ R.locals) (hb1 : k + R'.cells ≤ R.cells) (hb2 : n + R'.slots ≤ R.slots) (hst : (st.map catP).sum ≤ 8) (kk : ∀ x σ', Q x σ' → Aw Ω M_Mdl_undo R F (k + R'.cells) (n + R'.slots) 111 L (xi x :: st) σ') (kx : ∀ E σ', QX' E σ' → Ax Ω M_Mdl_undo R F (k + R'.cells) (n + R'.slots) 108 L st σ' E) : Aw Ω M_Mdl_undo R F k n 108 L (xr (some a) :: st) σ :=
  Aw.callV (As := []) (stk := xr (some a) :: st) (nn := 0) 12 M_Mdl_lineCount hc ok_Mdl_lineCount rfl (by decide) rfl hk ml_Mdl_197 im_Mdl_lineCount se_Mdl_lineCount ⟨hr1, hr2⟩ rfl ⟨hb1, hb2⟩ hst rfl d_Mdl_undo_108 (fun r σ' h => by obtain ⟨x, rfl, h⟩ := h; exact kk x σ' h) kx
theorem r_Mdl_undo_111 {Ω : Om} {R : Room} {k n : Nat} {L : List PV} {σ : Sto} {QR : Option PV → Sto → Prop} {QX : String → Sto → Prop} {x : Int} (h : QR (some (xi x)) σ) (h1 : k ≤ R.cells) (h2 : n ≤ R.slots) : Aw Ω M_Mdl_undo R (MF Ω R QR QX) k n 111 L [xi x] σ := Aw.iret rfl h h1 h2 d_Mdl_undo_111
theorem e_Mdl_review {Ω : Om} {R : Room} {QR : Option PV → Sto → Prop} {QX : String → Sto → Prop} {σ : Sto} {a0 : Nat} {v1 : Int} {v2 : Int} (h : Aw Ω M_Mdl_review R (MF Ω R QR QX) 0 0 0 [xr (some a0), xi v1, xi v2, xu] [] σ) : MC Ω M_Mdl_review R QR QX σ [xr (some a0), xi v1, xi v2] := MC.body (by decide +kernel) rfl (Nat.le_of_ble_eq_true rfl) rfl h
theorem b_Mdl_review_0 {Ω : Om} {R : Room} {F : QF} {k n : Nat} {σ : Sto} {a0 : Nat} {v1 : Int} {v2 : Int} (h : Aw Ω M_Mdl_review R F k n 2 [xr (some a0), xi v1, xi v2, xu] [xi v1, xr (some a0)] σ) : Aw Ω M_Mdl_review R F k n 0 [xr (some a0), xi v1, xi v2, xu] [] σ := by
  refine Aw.aload_n rfl d_Mdl_review_0 ?_
  refine Aw.iload_n rfl d_Mdl_review_1 ?_
  exact h
theorem b_Mdl_review_5 {Ω : Om} {R : Room} {F : QF} {k n : Nat} {σ : Sto} {a0 : Nat} {v1 : Int} {v2 : Int} {s0 : Int} (h : Q32 s0 ∧ ((s0 = (0 : Int) → Aw Ω M_Mdl_review R F k n 54 [xr (some a0), xi v1, xi v2, xi 0] [xi 1, xr (some a0)] σ) ∧ (¬ s0 = (0 : Int) → Q32 v1 ∧ ((v1 = (0 : Int) → Aw Ω M_Mdl_review R F k n 54 [xr (some a0), xi v1, xi v2, xi 0] [xi 1, xr (some a0)] σ) ∧ (¬ v1 = (0 : Int) → Q32 v2 ∧ ((v2 = (-1 : Int) → sK σ a0 = 13 ∧ (Q32 (fI σ 806 a0) → ((¬ (fI σ 806 a0) = (20 : Int) → Aw Ω M_Mdl_review R F k n 54 [xr (some a0), xi v1, xi v2, xi 1] [xi 0, xr (some a0)] σ) ∧ ((fI σ 806 a0) = (20 : Int) → Aw Ω M_Mdl_review R F k n 54 [xr (some a0), xi v1, xi v2, xi 1] [xi 2, xr (some a0)] σ)))) ∧ (¬ v2 = (-1 : Int) → Aw Ω M_Mdl_review R F k n 19 [xr (some a0), xi v1, xi v2, xu] [xi v2, xr (some a0)] σ))))))) : Aw Ω M_Mdl_review R F k n 5 [xr (some a0), xi v1, xi v2, xu] [xi s0] σ := by
  obtain ⟨o1, h⟩ := h
  obtain ⟨ht, hf⟩ := h
  refine Aw.if_eq (tgt := 29) o1 (by decide) d_Mdl_review_5 (fun c12 => ?_) (fun c12 => ?_)
  · have h := ht c12
    refine Aw.iconst d_Mdl_review_29 ?_
    refine Aw.istore_n (by decide) d_Mdl_review_30 ?_
    refine Aw.toL (L' := [xr (some a0), xi v1, xi v2, xi 0]) rfl ?_
    refine Aw.aload_n rfl d_Mdl_review_31 ?_
    refine Aw.iload_n rfl d_Mdl_review_32 ?_
    refine Aw.if_ne (tgt := 40) ⟨by decide, by decide⟩ (by decide) d_Mdl_review_33 (fun c2 => absurd c2 (by decide)) (fun c2 => ?_)
    refine Aw.iconst d_Mdl_review_36 ?_
    refine Aw.goto (tgt := 54) (by decide) d_Mdl_review_37 ?_
    exact h
  · have h := hf c12
    refine Aw.iload_n rfl d_Mdl_review_8 ?_
    obtain ⟨o3, h⟩ := h
    obtain ⟨ht, hf⟩ := h
    refine Aw.if_eq (tgt := 29) o3 (by decide) d_Mdl_review_9 (fun c11 => ?_) (fun c11 => ?_)
    · have h := ht c11
      refine Aw.iconst d_Mdl_review_29 ?_
      refine Aw.istore_n (by decide) d_Mdl_review_30 ?_
      refine Aw.toL (L' := [xr (some a0), xi v1, xi v2, xi 0]) rfl ?_
      refine Aw.aload_n rfl d_Mdl_review_31 ?_
      refine Aw.iload_n rfl d_Mdl_review_32 ?_
      refine Aw.if_ne (tgt := 40) ⟨by decide, by decide⟩ (by decide) d_Mdl_review_33 (fun c4 => absurd c4 (by decide)) (fun c4 => ?_)
      refine Aw.iconst d_Mdl_review_36 ?_
      refine Aw.goto (tgt := 54) (by decide) d_Mdl_review_37 ?_
      exact h
    · have h := hf c11
      refine Aw.iload_n rfl d_Mdl_review_12 ?_
      refine Aw.iconst d_Mdl_review_13 ?_
      obtain ⟨o5, h⟩ := h
      obtain ⟨ht, hf⟩ := h
      refine Aw.icmp_eq (tgt := 25) o5 ⟨by decide, by decide⟩ (by decide) d_Mdl_review_14 (fun c10 => ?_) (fun c10 => ?_)
      · have h := ht c10
        refine Aw.iconst d_Mdl_review_25 ?_
        refine Aw.goto (tgt := 30) (by decide) d_Mdl_review_26 ?_
        refine Aw.istore_n (by decide) d_Mdl_review_30 ?_
        refine Aw.toL (L' := [xr (some a0), xi v1, xi v2, xi 1]) rfl ?_
        refine Aw.aload_n rfl d_Mdl_review_31 ?_
        refine Aw.iload_n rfl d_Mdl_review_32 ?_
        refine Aw.if_ne (tgt := 40) ⟨by decide, by decide⟩ (by decide) d_Mdl_review_33 (fun c9 => ?_) (fun c9 => absurd c9 (by decide))
        refine Aw.aload_n rfl d_Mdl_review_40 ?_
        obtain ⟨o6, h⟩ := h
        refine Aw.getI (f := 806) 12 38 fl_Mdl_348 (by decide) (by decide) rfl rfl o6 d_Mdl_review_41 (fun r7 => ?_)
        have h := h r7
        refine Aw.bipush (by decide) d_Mdl_review_44 ?_
        obtain ⟨ht, hf⟩ := h
        refine Aw.icmp_ne (tgt := 53) r7 ⟨by decide, by decide⟩ (by decide) d_Mdl_review_46 (fun c8 => ?_) (fun c8 => ?_)
        · have h := ht c8
          refine Aw.iconst d_Mdl_review_53 ?_
          exact h
        · have h := hf c8
          refine Aw.iconst d_Mdl_review_49 ?_
          refine Aw.goto (tgt := 54) (by decide) d_Mdl_review_50 ?_
          exact h
      · have h := hf c10
        refine Aw.aload_n rfl d_Mdl_review_17 ?_
        refine Aw.iload_n rfl d_Mdl_review_18 ?_
        exact h
theorem b_Mdl_review_22 {Ω : Om} {R : Room} {F : QF} {k n : Nat} {σ : Sto} {a0 : Nat} {v1 : Int} {v2 : Int} {s0 : Int} (h : Q32 s0 ∧ ((s0 = (0 : Int) → Aw Ω M_Mdl_review R F k n 54 [xr (some a0), xi v1, xi v2, xi 0] [xi 1, xr (some a0)] σ) ∧ (¬ s0 = (0 : Int) → sK σ a0 = 13 ∧ (Q32 (fI σ 806 a0) → ((¬ (fI σ 806 a0) = (20 : Int) → Aw Ω M_Mdl_review R F k n 54 [xr (some a0), xi v1, xi v2, xi 1] [xi 0, xr (some a0)] σ) ∧ ((fI σ 806 a0) = (20 : Int) → Aw Ω M_Mdl_review R F k n 54 [xr (some a0), xi v1, xi v2, xi 1] [xi 2, xr (some a0)] σ)))))) : Aw Ω M_Mdl_review R F k n 22 [xr (some a0), xi v1, xi v2, xu] [xi s0] σ := by
  obtain ⟨o1, h⟩ := h
  obtain ⟨ht, hf⟩ := h
  refine Aw.if_eq (tgt := 29) o1 (by decide) d_Mdl_review_22 (fun c7 => ?_) (fun c7 => ?_)
  · have h := ht c7
    refine Aw.iconst d_Mdl_review_29 ?_
    refine Aw.istore_n (by decide) d_Mdl_review_30 ?_
    refine Aw.toL (L' := [xr (some a0), xi v1, xi v2, xi 0]) rfl ?_
    refine Aw.aload_n rfl d_Mdl_review_31 ?_
    refine Aw.iload_n rfl d_Mdl_review_32 ?_
    refine Aw.if_ne (tgt := 40) ⟨by decide, by decide⟩ (by decide) d_Mdl_review_33 (fun c2 => absurd c2 (by decide)) (fun c2 => ?_)
    refine Aw.iconst d_Mdl_review_36 ?_
    refine Aw.goto (tgt := 54) (by decide) d_Mdl_review_37 ?_
    exact h
  · have h := hf c7
    refine Aw.iconst d_Mdl_review_25 ?_
    refine Aw.goto (tgt := 30) (by decide) d_Mdl_review_26 ?_
    refine Aw.istore_n (by decide) d_Mdl_review_30 ?_
    refine Aw.toL (L' := [xr (some a0), xi v1, xi v2, xi 1]) rfl ?_
    refine Aw.aload_n rfl d_Mdl_review_31 ?_
    refine Aw.iload_n rfl d_Mdl_review_32 ?_
    refine Aw.if_ne (tgt := 40) ⟨by decide, by decide⟩ (by decide) d_Mdl_review_33 (fun c6 => ?_) (fun c6 => absurd c6 (by decide))
    refine Aw.aload_n rfl d_Mdl_review_40 ?_
    obtain ⟨o3, h⟩ := h
    refine Aw.getI (f := 806) 12 38 fl_Mdl_348 (by decide) (by decide) rfl rfl o3 d_Mdl_review_41 (fun r4 => ?_)
    have h := h r4
    refine Aw.bipush (by decide) d_Mdl_review_44 ?_
    obtain ⟨ht, hf⟩ := h
    refine Aw.icmp_ne (tgt := 53) r4 ⟨by decide, by decide⟩ (by decide) d_Mdl_review_46 (fun c5 => ?_) (fun c5 => ?_)
    · have h := ht c5
      refine Aw.iconst d_Mdl_review_53 ?_
      exact h
    · have h := hf c5
      refine Aw.iconst d_Mdl_review_49 ?_
      refine Aw.goto (tgt := 54) (by decide) d_Mdl_review_50 ?_
      exact h
theorem b_Mdl_review_57 {Ω : Om} {R : Room} {F : QF} {k n : Nat} {σ : Sto} {a0 : Nat} {v1 : Int} {v2 : Int} {v3 : Int} {s0 : Int} (h : Q32 s0 ∧ ((s0 = (0 : Int) → sK σ a0 = 13 ∧ (∃ b3 : Nat, fR σ 807 a0 = some b3 ∧ (Q32 (fI σ 806 a0) → sK σ b3 = 50 ∧ 0 ≤ (fI σ 806 a0) ∧ (fI σ 806 a0) < sZ σ b3 ∧ Q32 v1 ∧ (∃ b10 : Nat, fR σ 808 a0 = some b10 ∧ (Q32 (fI σ 806 a0) → sK σ b10 = 50 ∧ 0 ≤ (fI σ 806 a0) ∧ (fI σ 806 a0) < sZ σ b10 ∧ Q32 v2 ∧ (Q32 (fI σ 806 a0) → Q32 ((fI σ 806 a0) + 1) ∧ Aw Ω M_Mdl_review R F k n 92 [xr (some a0), xi v1, xi v2, xi v3] [] (uI (vI (vI σ b3 (fI σ 806 a0).toNat v1) b10 (fI σ 806 a0).toNat v2) 806 a0 ((fI σ 806 a0) + 1)))))))) ∧ (¬ s0 = (0 : Int) → Aw Ω M_Mdl_review R F k n 61 [xr (some a0), xi v1, xi v2, xi v3] [xi 0] σ))) : Aw Ω M_Mdl_review R F k n 57 [xr (some a0), xi v1, xi v2, xi v3] [xi s0] σ := by
  obtain ⟨o1, h⟩ := h
  obtain ⟨ht, hf⟩ := h
  refine Aw.if_eq (tgt := 62) o1 (by decide) d_Mdl_review_57 (fun c19 => ?_) (fun c19 => ?_)
  · have h := ht c19
    refine Aw.aload_n rfl d_Mdl_review_62 ?_
    obtain ⟨o2, h⟩ := h
    obtain ⟨b3, e4, h⟩ := h
    refine Aw.getRs (f := 807) 12 39 fl_Mdl_80 (by decide) (by decide) rfl rfl o2 e4 d_Mdl_review_63 ?_
    refine Aw.aload_n rfl d_Mdl_review_66 ?_
    refine Aw.getI (f := 806) 12 38 fl_Mdl_348 (by decide) (by decide) rfl rfl o2 d_Mdl_review_67 (fun r5 => ?_)
    have h := h r5
    refine Aw.iload_n rfl d_Mdl_review_70 ?_
    obtain ⟨o6, h⟩ := h
    obtain ⟨o7, o8, h⟩ := h
    obtain ⟨o9, h⟩ := h
    refine Aw.iast o6 o7 o8 o9 d_Mdl_review_71 ?_
    refine Aw.aload_n rfl d_Mdl_review_72 ?_
    obtain ⟨b10, e11, h⟩ := h
    refine Aw.getRs (f := 808) 12 40 fl_Mdl_83 (by decide) (by decide) rfl rfl o2 e11 d_Mdl_review_73 ?_
    refine Aw.aload_n rfl d_Mdl_review_76 ?_
    refine Aw.getI (f := 806) 12 38 fl_Mdl_348 (by decide) (by decide) rfl rfl o2 d_Mdl_review_77 (fun r12 => ?_)
    have h := h r12
    refine Aw.iload_n rfl d_Mdl_review_80 ?_
    obtain ⟨o13, h⟩ := h
    obtain ⟨o14, o15, h⟩ := h
    obtain ⟨o16, h⟩ := h
    refine Aw.iast o13 o14 o15 o16 d_Mdl_review_81 ?_
    refine Aw.aload_n rfl d_Mdl_review_82 ?_
    refine Aw.dup rfl d_Mdl_review_83 ?_
    refine Aw.getI (f := 806) 12 38 fl_Mdl_348 (by decide) (by decide) rfl rfl o2 d_Mdl_review_84 (fun r17 => ?_)
    have h := h r17
    refine Aw.iconst d_Mdl_review_87 ?_
    refine Aw.iadd d_Mdl_review_88 ?_
    obtain ⟨o18, h⟩ := h
    refine Aw.putI (f := 806) 12 38 fl_Mdl_348 (by decide) (by decide) rfl rfl o2 rfl o18 (Or.inl rfl) d_Mdl_review_89 ?_
    exact h
  · have h := hf c19
    refine Aw.iconst d_Mdl_review_60 ?_
    exact h
theorem b_Mdl_review_92 {Ω : Om} {R : Room} {F : QF} {k n : Nat} {σ : Sto} {a0 : Nat} {v1 : Int} {v2 : Int} {v3 : Int} (h : sK σ a0 = 13 ∧ (Q32 (fI σ 806 a0) → Aw Ω M_Mdl_review R F k n 98 [xr (some a0), xi v1, xi v2, xi v3] [xi ((fI σ 806 a0) - 1)] σ)) : Aw Ω M_Mdl_review R F k n 92 [xr (some a0), xi v1, xi v2, xi v3] [] σ := by
  refine Aw.aload_n rfl d_Mdl_review_92 ?_
  obtain ⟨o1, h⟩ := h
  refine Aw.getI (f := 806) 12 38 fl_Mdl_348 (by decide) (by decide) rfl rfl o1 d_Mdl_review_93 (fun r2 => ?_)
  have h := h r2
  refine Aw.iconst d_Mdl_review_96 ?_
  refine Aw.isub d_Mdl_review_97 ?_
  exact h
theorem c_Mdl_review_2 {Ω : Om} {R R' : Room} {F : QF} {k n : Nat} {L st : List PV} {σ : Sto} {QX' : String → Sto → Prop} {Q : Int → Sto → Prop} {a : Nat} {x0 : Int} (hc : MC Ω M_Mdl_isVersion R' (RI Q) QX' σ [xr (some a), xi x0]) (hk : sK σ a = 13) (hr1 : R'.frames + 1 ≤ R.frames) (hr2 : 8 + (2 + 11) + R'.locals ≤ R.locals) (hb1 : k + R'.cells ≤ R.cells) (hb2 : n + R'.slots ≤ R.slots) (hst : (st.map catP).sum ≤ 8) (kk : ∀ x σ', Q x σ' → Aw Ω M_Mdl_review R F (k + R'.cells) (n + R'.slots) 5 L (xi x :: st) σ') (kx : ∀ E σ', QX' E σ' → Ax Ω M_Mdl_review R F (k + R'.cells) (n + R'.slots) 2 L st σ' E) : Aw Ω M_Mdl_review R F k n 2 L (xi x0 :: xr (some a) :: st) σ :=
  Aw.callV (As := [xi x0]) (stk := xi x0 :: xr (some a) :: st) (nn := 1) 12 M_Mdl_isVersion hc ok_Mdl_isVersion rfl (by decide) rfl hk ml_Mdl_172 im_Mdl_isVersion se_Mdl_isVersion ⟨hr1, hr2⟩ rfl ⟨hb1, hb2⟩ hst rfl d_Mdl_review_2 (fun r σ' h => by obtain ⟨x, rfl, h⟩ := h; exact kk x σ' h) kx
theorem c_Mdl_review_19 {Ω : Om} {R R' : Room} {F : QF} {k n : Nat} {L st : List PV} {σ : Sto} {QX' : String → Sto → Prop} {Q : Int → Sto → Prop} {a : Nat} {x0 : Int} (hc : MC Ω M_Mdl_isReview R' (RI Q) QX' σ [xr (some a), xi x0]) (hk : sK σ a = 13) (hr1 : R'.frames + 1 ≤ R.frames) (hr2 : 8 + (2 + 11) + R'.locals ≤ R.locals) (hb1 : k + R'.cells ≤ R.cells) (hb2 : n + R'.slots ≤ R.slots) (hst : (st.map catP).sum ≤ 8) (kk : ∀ x σ', Q x σ' → Aw Ω M_Mdl_review R F (k + R'.cells) (n + R'.slots) 22 L (xi x :: st) σ') (kx : ∀ E σ', QX' E σ' → Ax Ω M_Mdl_review R F (k + R'.cells) (n + R'.slots) 19 L st σ' E) : Aw Ω M_Mdl_review R F k n 19 L (xi x0 :: xr (some a) :: st) σ :=
  Aw.callV (As := [xi x0]) (stk := xi x0 :: xr (some a) :: st) (nn := 1) 12 M_Mdl_isReview hc ok_Mdl_isReview rfl (by decide) rfl hk ml_Mdl_351 im_Mdl_isReview se_Mdl_isReview ⟨hr1, hr2⟩ rfl ⟨hb1, hb2⟩ hst rfl d_Mdl_review_19 (fun r σ' h => by obtain ⟨x, rfl, h⟩ := h; exact kk x σ' h) kx
theorem c_Mdl_review_54 {Ω : Om} {R R' : Room} {F : QF} {k n : Nat} {L st : List PV} {σ : Sto} {QX' : String → Sto → Prop} {Q : Int → Sto → Prop} {a : Nat} {x0 : Int} (hc : MC Ω M_Mdl_refused R' (RI Q) QX' σ [xr (some a), xi x0]) (hk : sK σ a = 13) (hr1 : R'.frames + 1 ≤ R.frames) (hr2 : 8 + (2 + 11) + R'.locals ≤ R.locals) (hb1 : k + R'.cells ≤ R.cells) (hb2 : n + R'.slots ≤ R.slots) (hst : (st.map catP).sum ≤ 8) (kk : ∀ x σ', Q x σ' → Aw Ω M_Mdl_review R F (k + R'.cells) (n + R'.slots) 57 L (xi x :: st) σ') (kx : ∀ E σ', QX' E σ' → Ax Ω M_Mdl_review R F (k + R'.cells) (n + R'.slots) 54 L st σ' E) : Aw Ω M_Mdl_review R F k n 54 L (xi x0 :: xr (some a) :: st) σ :=
  Aw.callV (As := [xi x0]) (stk := xi x0 :: xr (some a) :: st) (nn := 1) 12 M_Mdl_refused hc ok_Mdl_refused rfl (by decide) rfl hk ml_Mdl_151 im_Mdl_refused se_Mdl_refused ⟨hr1, hr2⟩ rfl ⟨hb1, hb2⟩ hst rfl d_Mdl_review_54 (fun r σ' h => by obtain ⟨x, rfl, h⟩ := h; exact kk x σ' h) kx
theorem r_Mdl_review_61 {Ω : Om} {R : Room} {k n : Nat} {L : List PV} {σ : Sto} {QR : Option PV → Sto → Prop} {QX : String → Sto → Prop} {x : Int} (h : QR (some (xi x)) σ) (h1 : k ≤ R.cells) (h2 : n ≤ R.slots) : Aw Ω M_Mdl_review R (MF Ω R QR QX) k n 61 L [xi x] σ := Aw.iret rfl h h1 h2 d_Mdl_review_61
theorem r_Mdl_review_98 {Ω : Om} {R : Room} {k n : Nat} {L : List PV} {σ : Sto} {QR : Option PV → Sto → Prop} {QX : String → Sto → Prop} {x : Int} (h : QR (some (xi x)) σ) (h1 : k ≤ R.cells) (h2 : n ≤ R.slots) : Aw Ω M_Mdl_review R (MF Ω R QR QX) k n 98 L [xi x] σ := Aw.iret rfl h h1 h2 d_Mdl_review_98
theorem e_Mdl_family {Ω : Om} {R : Room} {QR : Option PV → Sto → Prop} {QX : String → Sto → Prop} {σ : Sto} {a0 : Nat} {v1 : Int} (h : Aw Ω M_Mdl_family R (MF Ω R QR QX) 0 0 0 [xr (some a0), xi v1, xu, xu, xu] [] σ) : MC Ω M_Mdl_family R QR QX σ [xr (some a0), xi v1] := MC.body (by decide +kernel) rfl (Nat.le_of_ble_eq_true rfl) rfl h
theorem b_Mdl_family_0 {Ω : Om} {R : Room} {F : QF} {k n : Nat} {σ : Sto} {a0 : Nat} {v1 : Int} (h : Aw Ω M_Mdl_family R F k n 7 [xr (some a0), xi v1, xl (lShl 1 v1), xu, xi v1] [] σ) : Aw Ω M_Mdl_family R F k n 0 [xr (some a0), xi v1, xu, xu, xu] [] σ := by
  refine Aw.lconst (w := 1) (by decide) d_Mdl_family_0 ?_
  refine Aw.iload_n rfl d_Mdl_family_1 ?_
  refine Aw.lshl d_Mdl_family_2 ?_
  refine Aw.lstore_n (by decide) d_Mdl_family_3 ?_
  refine Aw.toL (L' := [xr (some a0), xi v1, xl (lShl 1 v1), xu, xu]) rfl ?_
  refine Aw.iload_n rfl d_Mdl_family_4 ?_
  refine Aw.istore (by decide) d_Mdl_family_5 ?_
  refine Aw.toL (L' := [xr (some a0), xi v1, xl (lShl 1 v1), xu, xi v1]) rfl ?_
  exact h
theorem b_Mdl_family_7 {Ω : Om} {R : Room} {F : QF} {k n : Nat} {σ : Sto} {a0 : Nat} {v1 : Int} {v2 : Int64} {v4 : Int} (h : Q32 v4 ∧ ((v4 ≤ (0 : Int) → Aw Ω M_Mdl_family R F k n 69 [xr (some a0), xi v1, xl v2, xu, xi v4] [xl v2] σ) ∧ (¬ v4 ≤ (0 : Int) → Q32 (cmpL ((lShr v2 v4) &&& 1) 1) ∧ ((¬ (cmpL ((lShr v2 v4) &&& 1) 1) = (0 : Int) → Aw Ω M_Mdl_family R F k n 7 [xr (some a0), xi v1, xl v2, xu, xi (v4 + (-1))] [] σ) ∧ ((cmpL ((lShr v2 v4) &&& 1) 1) = (0 : Int) → sK σ a0 = 13 ∧ (∃ b4 : Nat, fR σ 777 a0 = some b4 ∧ sK σ b4 = 50 ∧ 0 ≤ v4 ∧ v4 < sZ σ b4 ∧ (Q32 (aI σ b4 (v4).toNat) → (∃ b10 : Nat, fR σ 778 a0 = some b10 ∧ sK σ b10 = 50 ∧ 0 ≤ v4 ∧ v4 < sZ σ b10 ∧ (Q32 (aI σ b10 (v4).toNat) → ((¬ (aI σ b10 (v4).toNat) = (-1 : Int) → (Q32 (aI σ b10 (v4).toNat) → Aw Ω M_Mdl_family R F k n 7 [xr (some a0), xi v1, xl ((v2 ||| (lShl 1 (aI σ b4 (v4).toNat))) ||| (lShl 1 (aI σ b10 (v4).toNat))), xu, xi (v4 + (-1))] [] σ)) ∧ ((aI σ b10 (v4).toNat) = (-1 : Int) → Aw Ω M_Mdl_family R F k n 7 [xr (some a0), xi v1, xl ((v2 ||| (lShl 1 (aI σ b4 (v4).toNat))) ||| 0), xu, xi (v4 + (-1))] [] σ))))))))))) : Aw Ω M_Mdl_family R F k n 7 [xr (some a0), xi v1, xl v2, xu, xi v4] [] σ := by
  refine Aw.iload rfl d_Mdl_family_7 ?_
  obtain ⟨o1, h⟩ := h
  obtain ⟨ht, hf⟩ := h
  refine Aw.if_le (tgt := 68) o1 (by decide) d_Mdl_family_9 (fun c19 => ?_) (fun c19 => ?_)
  · have h := ht c19
    refine Aw.lload_n rfl d_Mdl_family_68 ?_
    exact h
  · have h := hf c19
    refine Aw.lload_n rfl d_Mdl_family_12 ?_
    refine Aw.iload rfl d_Mdl_family_13 ?_
    refine Aw.lshr d_Mdl_family_15 ?_
    refine Aw.lconst (w := 1) (by decide) d_Mdl_family_16 ?_
    refine Aw.land d_Mdl_family_17 ?_
    refine Aw.lconst (w := 1) (by decide) d_Mdl_family_18 ?_
    refine Aw.lcmp d_Mdl_family_19 ?_
    obtain ⟨o2, h⟩ := h
    obtain ⟨ht, hf⟩ := h
    refine Aw.if_ne (tgt := 62) o2 (by decide) d_Mdl_family_20 (fun c18 => ?_) (fun c18 => ?_)
    · have h := ht c18
      refine Aw.iinc rfl d_Mdl_family_62 ?_
      refine Aw.toL (L' := [xr (some a0), xi v1, xl v2, xu, xi (v4 + (-1))]) rfl ?_
      refine Aw.goto (tgt := 7) (by decide) d_Mdl_family_65 ?_
      exact h
    · have h := hf c18
      refine Aw.lload_n rfl d_Mdl_family_23 ?_
      refine Aw.lconst (w := 1) (by decide) d_Mdl_family_24 ?_
      refine Aw.aload_n rfl d_Mdl_family_25 ?_
      obtain ⟨o3, h⟩ := h
      obtain ⟨b4, e5, h⟩ := h
      refine Aw.getRs (f := 777) 12 9 fl_Mdl_29 (by decide) (by decide) rfl rfl o3 e5 d_Mdl_family_26 ?_
      refine Aw.iload rfl d_Mdl_family_29 ?_
      obtain ⟨o6, h⟩ := h
      obtain ⟨o7, o8, h⟩ := h
      refine Aw.iald o6 o7 o8 d_Mdl_family_31 (fun r9 => ?_)
      have h := h r9
      refine Aw.lshl d_Mdl_family_32 ?_
      refine Aw.lor d_Mdl_family_33 ?_
      refine Aw.lstore_n (by decide) d_Mdl_family_34 ?_
      refine Aw.toL (L' := [xr (some a0), xi v1, xl (v2 ||| (lShl 1 (aI σ b4 (v4).toNat))), xu, xi v4]) rfl ?_
      refine Aw.lload_n rfl d_Mdl_family_35 ?_
      refine Aw.aload_n rfl d_Mdl_family_36 ?_
      obtain ⟨b10, e11, h⟩ := h
      refine Aw.getRs (f := 778) 12 10 fl_Mdl_32 (by decide) (by decide) rfl rfl o3 e11 d_Mdl_family_37 ?_
      refine Aw.iload rfl d_Mdl_family_40 ?_
      obtain ⟨o12, h⟩ := h
      obtain ⟨o13, o14, h⟩ := h
      refine Aw.iald o12 o13 o14 d_Mdl_family_42 (fun r15 => ?_)
      have h := h r15
      refine Aw.iconst d_Mdl_family_43 ?_
      obtain ⟨ht, hf⟩ := h
      refine Aw.icmp_ne (tgt := 51) r15 ⟨by decide, by decide⟩ (by decide) d_Mdl_family_44 (fun c17 => ?_) (fun c17 => ?_)
      · have h := ht c17
        refine Aw.lconst (w := 1) (by decide) d_Mdl_family_51 ?_
        refine Aw.aload_n rfl d_Mdl_family_52 ?_
        refine Aw.getRs (f := 778) 12 10 fl_Mdl_32 (by decide) (by decide) rfl rfl o3 e11 d_Mdl_family_53 ?_
        refine Aw.iload rfl d_Mdl_family_56 ?_
        refine Aw.iald o12 o13 o14 d_Mdl_family_58 (fun r16 => ?_)
        have h := h r16
        refine Aw.lshl d_Mdl_family_59 ?_
        refine Aw.lor d_Mdl_family_60 ?_
        refine Aw.lstore_n (by decide) d_Mdl_family_61 ?_
        refine Aw.toL (L' := [xr (some a0), xi v1, xl ((v2 ||| (lShl 1 (aI σ b4 (v4).toNat))) ||| (lShl 1 (aI σ b10 (v4).toNat))), xu, xi v4]) rfl ?_
        refine Aw.iinc rfl d_Mdl_family_62 ?_
        refine Aw.toL (L' := [xr (some a0), xi v1, xl ((v2 ||| (lShl 1 (aI σ b4 (v4).toNat))) ||| (lShl 1 (aI σ b10 (v4).toNat))), xu, xi (v4 + (-1))]) rfl ?_
        refine Aw.goto (tgt := 7) (by decide) d_Mdl_family_65 ?_
        exact h
      · have h := hf c17
        refine Aw.lconst (w := 0) (by decide) d_Mdl_family_47 ?_
        refine Aw.goto (tgt := 60) (by decide) d_Mdl_family_48 ?_
        refine Aw.lor d_Mdl_family_60 ?_
        refine Aw.lstore_n (by decide) d_Mdl_family_61 ?_
        refine Aw.toL (L' := [xr (some a0), xi v1, xl ((v2 ||| (lShl 1 (aI σ b4 (v4).toNat))) ||| 0), xu, xi v4]) rfl ?_
        refine Aw.iinc rfl d_Mdl_family_62 ?_
        refine Aw.toL (L' := [xr (some a0), xi v1, xl ((v2 ||| (lShl 1 (aI σ b4 (v4).toNat))) ||| 0), xu, xi (v4 + (-1))]) rfl ?_
        refine Aw.goto (tgt := 7) (by decide) d_Mdl_family_65 ?_
        exact h
theorem r_Mdl_family_69 {Ω : Om} {R : Room} {k n : Nat} {L : List PV} {σ : Sto} {QR : Option PV → Sto → Prop} {QX : String → Sto → Prop} {x : Int64} (h : QR (some (xl x)) σ) (h1 : k ≤ R.cells) (h2 : n ≤ R.slots) : Aw Ω M_Mdl_family R (MF Ω R QR QX) k n 69 L [xl x] σ := Aw.lret rfl h h1 h2 d_Mdl_family_69
theorem e_Mdl_changes {Ω : Om} {R : Room} {QR : Option PV → Sto → Prop} {QX : String → Sto → Prop} {σ : Sto} {a0 : Nat} {v1 : Int} {v2 : Int} (h : Aw Ω M_Mdl_changes R (MF Ω R QR QX) 0 0 0 [xr (some a0), xi v1, xi v2, xu, xu, xu, xu] [] σ) : MC Ω M_Mdl_changes R QR QX σ [xr (some a0), xi v1, xi v2] := MC.body (by decide +kernel) rfl (Nat.le_of_ble_eq_true rfl) rfl h
theorem b_Mdl_changes_0 {Ω : Om} {R : Room} {F : QF} {k n : Nat} {σ : Sto} {a0 : Nat} {v1 : Int} {v2 : Int} (h : Q32 v1 ∧ ((v1 = (-1 : Int) → Q32 v2 ∧ ((¬ v1 = v2 → Aw Ω M_Mdl_changes R F k n 21 [xr (some a0), xi v1, xi v2, xu, xu, xu, xu] [xi 99] σ) ∧ (v1 = v2 → Aw Ω M_Mdl_changes R F k n 21 [xr (some a0), xi v1, xi v2, xu, xu, xu, xu] [xi 0] σ))) ∧ (¬ v1 = (-1 : Int) → Q32 v2 ∧ ((¬ v2 = (-1 : Int) → sK σ a0 = 13 ∧ (∃ b6 : Nat, fR σ 770 a0 = some b6 ∧ sK σ b6 = 51 ∧ 0 ≤ v1 ∧ v1 < sZ σ b6 ∧ 0 ≤ v2 ∧ v2 < sZ σ b6 ∧ Aw Ω M_Mdl_changes R F k n 41 [xr (some a0), xi v1, xi v2, xl (aL σ b6 (v1).toNat), xu, xl (aL σ b6 (v2).toNat), xu] [xl (aL σ b6 (v1).toNat), xi 8, xl (aL σ b6 (v1).toNat)] σ)) ∧ (v2 = (-1 : Int) → ((¬ v1 = v2 → Aw Ω M_Mdl_changes R F k n 21 [xr (some a0), xi v1, xi v2, xu, xu, xu, xu] [xi 99] σ) ∧ (v1 = v2 → Aw Ω M_Mdl_changes R F k n 21 [xr (some a0), xi v1, xi v2, xu, xu, xu, xu] [xi 0] σ))))))) : Aw Ω M_Mdl_changes R F k n 0 [xr (some a0), xi v1, xi v2, xu, xu, xu, xu] [] σ := by
  refine Aw.iload_n rfl d_Mdl_changes_0 ?_
  refine Aw.iconst d_Mdl_changes_1 ?_
  obtain ⟨o1, h⟩ := h
  obtain ⟨ht, hf⟩ := h
  refine Aw.icmp_eq (tgt := 10) o1 ⟨by decide, by decide⟩ (by decide) d_Mdl_changes_2 (fun c15 => ?_) (fun c15 => ?_)
  · have h := ht c15
    refine Aw.iload_n rfl d_Mdl_changes_10 ?_
    refine Aw.iload_n rfl d_Mdl_changes_11 ?_
    obtain ⟨o2, h⟩ := h
    obtain ⟨ht, hf⟩ := h
    refine Aw.icmp_ne (tgt := 19) o1 o2 (by decide) d_Mdl_changes_12 (fun c3 => ?_) (fun c3 => ?_)
    · have h := ht c3
      refine Aw.bipush (by decide) d_Mdl_changes_19 ?_
      exact h
    · have h := hf c3
      refine Aw.iconst d_Mdl_changes_15 ?_
      refine Aw.goto (tgt := 21) (by decide) d_Mdl_changes_16 ?_
      exact h
  · have h := hf c15
    refine Aw.iload_n rfl d_Mdl_changes_5 ?_
    refine Aw.iconst d_Mdl_changes_6 ?_
    obtain ⟨o4, h⟩ := h
    obtain ⟨ht, hf⟩ := h
    refine Aw.icmp_ne (tgt := 22) o4 ⟨by decide, by decide⟩ (by decide) d_Mdl_changes_7 (fun c14 => ?_) (fun c14 => ?_)
    · have h := ht c14
      refine Aw.aload_n rfl d_Mdl_changes_22 ?_
      obtain ⟨o5, h⟩ := h
      obtain ⟨b6, e7, h⟩ := h
      refine Aw.getRs (f := 770) 12 2 fl_Mdl_7 (by decide) (by decide) rfl rfl o5 e7 d_Mdl_changes_23 ?_
      refine Aw.iload_n rfl d_Mdl_changes_26 ?_
      obtain ⟨o8, h⟩ := h
      obtain ⟨o9, o10, h⟩ := h
      refine Aw.lald o8 o9 o10 d_Mdl_changes_27 ?_
      refine Aw.lstore_n (by decide) d_Mdl_changes_28 ?_
      refine Aw.toL (L' := [xr (some a0), xi v1, xi v2, xl (aL σ b6 (v1).toNat), xu, xu, xu]) rfl ?_
      refine Aw.aload_n rfl d_Mdl_changes_29 ?_
      refine Aw.getRs (f := 770) 12 2 fl_Mdl_7 (by decide) (by decide) rfl rfl o5 e7 d_Mdl_changes_30 ?_
      refine Aw.iload_n rfl d_Mdl_changes_33 ?_
      obtain ⟨o11, o12, h⟩ := h
      refine Aw.lald o8 o11 o12 d_Mdl_changes_34 ?_
      refine Aw.lstore (by decide) d_Mdl_changes_35 ?_
      refine Aw.toL (L' := [xr (some a0), xi v1, xi v2, xl (aL σ b6 (v1).toNat), xu, xl (aL σ b6 (v2).toNat), xu]) rfl ?_
      refine Aw.lload_n rfl d_Mdl_changes_37 ?_
      refine Aw.bipush (by decide) d_Mdl_changes_38 ?_
      refine Aw.lload_n rfl d_Mdl_changes_40 ?_
      exact h
    · have h := hf c14
      refine Aw.iload_n rfl d_Mdl_changes_10 ?_
      refine Aw.iload_n rfl d_Mdl_changes_11 ?_
      obtain ⟨ht, hf⟩ := h
      refine Aw.icmp_ne (tgt := 19) o1 o4 (by decide) d_Mdl_changes_12 (fun c13 => ?_) (fun c13 => ?_)
      · have h := ht c13
        refine Aw.bipush (by decide) d_Mdl_changes_19 ?_
        exact h
      · have h := hf c13
        refine Aw.iconst d_Mdl_changes_15 ?_
        refine Aw.goto (tgt := 21) (by decide) d_Mdl_changes_16 ?_
        exact h
theorem b_Mdl_changes_44 {Ω : Om} {R : Room} {F : QF} {k n : Nat} {σ : Sto} {a0 : Nat} {v1 : Int} {v2 : Int} {v3 : Int64} {v5 : Int64} {s0 : Int64} {s1 : Int} {s2 : Int} (h : Aw Ω M_Mdl_changes R F k n 52 [xr (some a0), xi v1, xi v2, xl v3, xu, xl v5, xu] [xl v5, xi 8, xl v5, xl (lUsh s0 (s1 * s2))] σ) : Aw Ω M_Mdl_changes R F k n 44 [xr (some a0), xi v1, xi v2, xl v3, xu, xl v5, xu] [xi s2, xi s1, xl s0] σ := by
  refine Aw.imul d_Mdl_changes_44 ?_
  refine Aw.lushr d_Mdl_changes_45 ?_
  refine Aw.lload rfl d_Mdl_changes_46 ?_
  refine Aw.bipush (by decide) d_Mdl_changes_48 ?_
  refine Aw.lload rfl d_Mdl_changes_50 ?_
  exact h
theorem b_Mdl_changes_55 {Ω : Om} {R : Room} {F : QF} {k n : Nat} {σ : Sto} {a0 : Nat} {v1 : Int} {v2 : Int} {v3 : Int64} {v5 : Int64} {s0 : Int64} {s1 : Int64} {s2 : Int} {s3 : Int} (h : Q32 (cmpL s0 (lUsh s1 (s2 * s3))) ∧ ((¬ (cmpL s0 (lUsh s1 (s2 * s3))) = (0 : Int) → Aw Ω M_Mdl_changes R F k n 66 [xr (some a0), xi v1, xi v2, xl v3, xu, xl v5, xu] [xi 1] σ) ∧ ((cmpL s0 (lUsh s1 (s2 * s3))) = (0 : Int) → Aw Ω M_Mdl_changes R F k n 66 [xr (some a0), xi v1, xi v2, xl v3, xu, xl v5, xu] [xi 0] σ))) : Aw Ω M_Mdl_changes R F k n 55 [xr (some a0), xi v1, xi v2, xl v3, xu, xl v5, xu] [xi s3, xi s2, xl s1, xl s0] σ := by
  refine Aw.imul d_Mdl_changes_55 ?_
  refine Aw.lushr d_Mdl_changes_56 ?_
  refine Aw.lcmp d_Mdl_changes_57 ?_
  obtain ⟨o1, h⟩ := h
  obtain ⟨ht, hf⟩ := h
  refine Aw.if_ne (tgt := 65) o1 (by decide) d_Mdl_changes_58 (fun c2 => ?_) (fun c2 => ?_)
  · have h := ht c2
    refine Aw.iconst d_Mdl_changes_65 ?_
    exact h
  · have h := hf c2
    refine Aw.iconst d_Mdl_changes_61 ?_
    refine Aw.goto (tgt := 66) (by decide) d_Mdl_changes_62 ?_
    exact h
theorem r_Mdl_changes_21 {Ω : Om} {R : Room} {k n : Nat} {L : List PV} {σ : Sto} {QR : Option PV → Sto → Prop} {QX : String → Sto → Prop} {x : Int} (h : QR (some (xi x)) σ) (h1 : k ≤ R.cells) (h2 : n ≤ R.slots) : Aw Ω M_Mdl_changes R (MF Ω R QR QX) k n 21 L [xi x] σ := Aw.iret rfl h h1 h2 d_Mdl_changes_21
theorem c_Mdl_changes_41 {Ω : Om} {R R' : Room} {F : QF} {k n : Nat} {L st : List PV} {σ : Sto} {QX' : String → Sto → Prop} {Q : Int → Sto → Prop} {x0 : Int64} (hc : MC Ω M_Mdl_depth R' (RI Q) QX' σ [xl x0]) (hr1 : R'.frames + 1 ≤ R.frames) (hr2 : 8 + (3 + 11) + R'.locals ≤ R.locals) (hb1 : k + R'.cells ≤ R.cells) (hb2 : n + R'.slots ≤ R.slots) (hst : (st.map catP).sum ≤ 8) (kk : ∀ x σ', Q x σ' → Aw Ω M_Mdl_changes R F (k + R'.cells) (n + R'.slots) 44 L (xi x :: st) σ') (kx : ∀ E σ', QX' E σ' → Ax Ω M_Mdl_changes R F (k + R'.cells) (n + R'.slots) 41 L st σ' E) : Aw Ω M_Mdl_changes R F k n 41 L (xl x0 :: st) σ :=
  Aw.callS (As := [xl x0]) (stk := xl x0 :: st) (nn := 1) M_Mdl_depth hc ok_Mdl_depth rfl ml_Mdl_268 sta_Mdl_depth ⟨hr1, hr2⟩ rfl ⟨hb1, hb2⟩ hst rfl d_Mdl_changes_41 (fun r σ' h => by obtain ⟨x, rfl, h⟩ := h; exact kk x σ' h) kx
theorem c_Mdl_changes_52 {Ω : Om} {R R' : Room} {F : QF} {k n : Nat} {L st : List PV} {σ : Sto} {QX' : String → Sto → Prop} {Q : Int → Sto → Prop} {x0 : Int64} (hc : MC Ω M_Mdl_depth R' (RI Q) QX' σ [xl x0]) (hr1 : R'.frames + 1 ≤ R.frames) (hr2 : 8 + (3 + 11) + R'.locals ≤ R.locals) (hb1 : k + R'.cells ≤ R.cells) (hb2 : n + R'.slots ≤ R.slots) (hst : (st.map catP).sum ≤ 8) (kk : ∀ x σ', Q x σ' → Aw Ω M_Mdl_changes R F (k + R'.cells) (n + R'.slots) 55 L (xi x :: st) σ') (kx : ∀ E σ', QX' E σ' → Ax Ω M_Mdl_changes R F (k + R'.cells) (n + R'.slots) 52 L st σ' E) : Aw Ω M_Mdl_changes R F k n 52 L (xl x0 :: st) σ :=
  Aw.callS (As := [xl x0]) (stk := xl x0 :: st) (nn := 1) M_Mdl_depth hc ok_Mdl_depth rfl ml_Mdl_268 sta_Mdl_depth ⟨hr1, hr2⟩ rfl ⟨hb1, hb2⟩ hst rfl d_Mdl_changes_52 (fun r σ' h => by obtain ⟨x, rfl, h⟩ := h; exact kk x σ' h) kx
theorem r_Mdl_changes_66 {Ω : Om} {R : Room} {k n : Nat} {L : List PV} {σ : Sto} {QR : Option PV → Sto → Prop} {QX : String → Sto → Prop} {x : Int} (h : QR (some (xi x)) σ) (h1 : k ≤ R.cells) (h2 : n ≤ R.slots) : Aw Ω M_Mdl_changes R (MF Ω R QR QX) k n 66 L [xi x] σ := Aw.iret rfl h h1 h2 d_Mdl_changes_66
theorem e_Mdl_bare {Ω : Om} {R : Room} {QR : Option PV → Sto → Prop} {QX : String → Sto → Prop} {σ : Sto} {v0 : Int64} (h : Aw Ω M_Mdl_bare R (MF Ω R QR QX) 0 0 0 [xl v0, xu, xu, xu, xu, xu] [] σ) : MC Ω M_Mdl_bare R QR QX σ [xl v0] := MC.body (by decide +kernel) rfl (Nat.le_of_ble_eq_true rfl) rfl h
theorem b_Mdl_bare_0 {Ω : Om} {R : Room} {F : QF} {k n : Nat} {σ : Sto} {v0 : Int64} (h : Aw Ω M_Mdl_bare R F k n 8 [xl v0, xu, xl 0, xu, xi 0, xi 0] [] σ) : Aw Ω M_Mdl_bare R F k n 0 [xl v0, xu, xu, xu, xu, xu] [] σ := by
  refine Aw.lconst (w := 0) (by decide) d_Mdl_bare_0 ?_
  refine Aw.lstore_n (by decide) d_Mdl_bare_1 ?_
  refine Aw.toL (L' := [xl v0, xu, xl 0, xu, xu, xu]) rfl ?_
  refine Aw.iconst d_Mdl_bare_2 ?_
  refine Aw.istore (by decide) d_Mdl_bare_3 ?_
  refine Aw.toL (L' := [xl v0, xu, xl 0, xu, xi 0, xu]) rfl ?_
  refine Aw.iconst d_Mdl_bare_5 ?_
  refine Aw.istore (by decide) d_Mdl_bare_6 ?_
  refine Aw.toL (L' := [xl v0, xu, xl 0, xu, xi 0, xi 0]) rfl ?_
  exact h
theorem b_Mdl_bare_8 {Ω : Om} {R : Room} {F : QF} {k n : Nat} {σ : Sto} {v0 : Int64} {v2 : Int64} {v4 : Int} {v5 : Int} (h : Q32 v5 ∧ (((8 : Int) ≤ v5 → Aw Ω M_Mdl_bare R F k n 57 [xl v0, xu, xl v2, xu, xi v4, xi v5] [xl v2] σ) ∧ (¬ (8 : Int) ≤ v5 → Aw Ω M_Mdl_bare R F k n 18 [xl v0, xu, xl v2, xu, xi v4, xi v5] [xi v5, xl v0] σ))) : Aw Ω M_Mdl_bare R F k n 8 [xl v0, xu, xl v2, xu, xi v4, xi v5] [] σ := by
  refine Aw.iload rfl d_Mdl_bare_8 ?_
  refine Aw.bipush (by decide) d_Mdl_bare_10 ?_
  obtain ⟨o1, h⟩ := h
  obtain ⟨ht, hf⟩ := h
  refine Aw.icmp_ge (tgt := 56) o1 ⟨by decide, by decide⟩ (by decide) d_Mdl_bare_12 (fun c2 => ?_) (fun c2 => ?_)
  · have h := ht c2
    refine Aw.lload_n rfl d_Mdl_bare_56 ?_
    exact h
  · have h := hf c2
    refine Aw.lload_n rfl d_Mdl_bare_15 ?_
    refine Aw.iload rfl d_Mdl_bare_16 ?_
    exact h
theorem b_Mdl_bare_21 {Ω : Om} {R : Room} {F : QF} {k n : Nat} {σ : Sto} {v0 : Int64} {v2 : Int64} {v4 : Int} {v5 : Int} {s0 : Int} (h : Aw Ω M_Mdl_bare R F k n 25 [xl v0, xu, xl v2, xu, xi v4, xi v5] [xi 122, xi 97, xi s0] σ) : Aw Ω M_Mdl_bare R F k n 21 [xl v0, xu, xl v2, xu, xi v4, xi v5] [xi s0] σ := by
  refine Aw.bipush (by decide) d_Mdl_bare_21 ?_
  refine Aw.bipush (by decide) d_Mdl_bare_23 ?_
  exact h
theorem b_Mdl_bare_28 {Ω : Om} {R : Room} {F : QF} {k n : Nat} {σ : Sto} {v0 : Int64} {v2 : Int64} {v4 : Int} {v5 : Int} {s0 : Int} (h : Q32 s0 ∧ ((s0 = (0 : Int) → Aw Ω M_Mdl_bare R F k n 8 [xl v0, xu, xl v2, xu, xi v4, xi (v5 + 1)] [] σ) ∧ (¬ s0 = (0 : Int) → Aw Ω M_Mdl_bare R F k n 35 [xl v0, xu, xl v2, xu, xi v4, xi v5] [xi v5, xl v0, xl v2] σ))) : Aw Ω M_Mdl_bare R F k n 28 [xl v0, xu, xl v2, xu, xi v4, xi v5] [xi s0] σ := by
  obtain ⟨o1, h⟩ := h
  obtain ⟨ht, hf⟩ := h
  refine Aw.if_eq (tgt := 50) o1 (by decide) d_Mdl_bare_28 (fun c2 => ?_) (fun c2 => ?_)
  · have h := ht c2
    refine Aw.iinc rfl d_Mdl_bare_50 ?_
    refine Aw.toL (L' := [xl v0, xu, xl v2, xu, xi v4, xi (v5 + 1)]) rfl ?_
    refine Aw.goto (tgt := 8) (by decide) d_Mdl_bare_53 ?_
    exact h
  · have h := hf c2
    refine Aw.lload_n rfl d_Mdl_bare_31 ?_
    refine Aw.lload_n rfl d_Mdl_bare_32 ?_
    refine Aw.iload rfl d_Mdl_bare_33 ?_
    exact h
theorem b_Mdl_bare_38 {Ω : Om} {R : Room} {F : QF} {k n : Nat} {σ : Sto} {v0 : Int64} {v2 : Int64} {v4 : Int} {v5 : Int} {s0 : Int64} {s1 : Int} (h : Aw Ω M_Mdl_bare R F k n 8 [xl v0, xu, xl (s0 ||| (lShl (lOf s1) (8 * v4))), xu, xi (v4 + 1), xi (v5 + 1)] [] σ) : Aw Ω M_Mdl_bare R F k n 38 [xl v0, xu, xl v2, xu, xi v4, xi v5] [xi s1, xl s0] σ := by
  refine Aw.i2l d_Mdl_bare_38 ?_
  refine Aw.bipush (by decide) d_Mdl_bare_39 ?_
  refine Aw.iload rfl d_Mdl_bare_41 ?_
  refine Aw.imul d_Mdl_bare_43 ?_
  refine Aw.lshl d_Mdl_bare_44 ?_
  refine Aw.lor d_Mdl_bare_45 ?_
  refine Aw.lstore_n (by decide) d_Mdl_bare_46 ?_
  refine Aw.toL (L' := [xl v0, xu, xl (s0 ||| (lShl (lOf s1) (8 * v4))), xu, xi v4, xi v5]) rfl ?_
  refine Aw.iinc rfl d_Mdl_bare_47 ?_
  refine Aw.toL (L' := [xl v0, xu, xl (s0 ||| (lShl (lOf s1) (8 * v4))), xu, xi (v4 + 1), xi v5]) rfl ?_
  refine Aw.iinc rfl d_Mdl_bare_50 ?_
  refine Aw.toL (L' := [xl v0, xu, xl (s0 ||| (lShl (lOf s1) (8 * v4))), xu, xi (v4 + 1), xi (v5 + 1)]) rfl ?_
  refine Aw.goto (tgt := 8) (by decide) d_Mdl_bare_53 ?_
  exact h
theorem c_Mdl_bare_18 {Ω : Om} {R R' : Room} {F : QF} {k n : Nat} {L st : List PV} {σ : Sto} {QX' : String → Sto → Prop} {Q : Int → Sto → Prop} {x0 : Int64} {x1 : Int} (hc : MC Ω M_Mdl_signAt R' (RI Q) QX' σ [xl x0, xi x1]) (hr1 : R'.frames + 1 ≤ R.frames) (hr2 : 8 + (3 + 11) + R'.locals ≤ R.locals) (hb1 : k + R'.cells ≤ R.cells) (hb2 : n + R'.slots ≤ R.slots) (hst : (st.map catP).sum ≤ 8) (kk : ∀ x σ', Q x σ' → Aw Ω M_Mdl_bare R F (k + R'.cells) (n + R'.slots) 21 L (xi x :: st) σ') (kx : ∀ E σ', QX' E σ' → Ax Ω M_Mdl_bare R F (k + R'.cells) (n + R'.slots) 18 L st σ' E) : Aw Ω M_Mdl_bare R F k n 18 L (xi x1 :: xl x0 :: st) σ :=
  Aw.callS (As := [xl x0, xi x1]) (stk := xi x1 :: xl x0 :: st) (nn := 2) M_Mdl_signAt hc ok_Mdl_signAt rfl ml_Mdl_136 sta_Mdl_signAt ⟨hr1, hr2⟩ rfl ⟨hb1, hb2⟩ hst rfl d_Mdl_bare_18 (fun r σ' h => by obtain ⟨x, rfl, h⟩ := h; exact kk x σ' h) kx
theorem c_Mdl_bare_25 {Ω : Om} {R R' : Room} {F : QF} {k n : Nat} {L st : List PV} {σ : Sto} {QX' : String → Sto → Prop} {Q : Int → Sto → Prop} {x0 : Int} {x1 : Int} {x2 : Int} (hc : MC Ω M_Mdl_in R' (RI Q) QX' σ [xi x0, xi x1, xi x2]) (hr1 : R'.frames + 1 ≤ R.frames) (hr2 : 8 + (3 + 11) + R'.locals ≤ R.locals) (hb1 : k + R'.cells ≤ R.cells) (hb2 : n + R'.slots ≤ R.slots) (hst : (st.map catP).sum ≤ 8) (kk : ∀ x σ', Q x σ' → Aw Ω M_Mdl_bare R F (k + R'.cells) (n + R'.slots) 28 L (xi x :: st) σ') (kx : ∀ E σ', QX' E σ' → Ax Ω M_Mdl_bare R F (k + R'.cells) (n + R'.slots) 25 L st σ' E) : Aw Ω M_Mdl_bare R F k n 25 L (xi x2 :: xi x1 :: xi x0 :: st) σ :=
  Aw.callS (As := [xi x0, xi x1, xi x2]) (stk := xi x2 :: xi x1 :: xi x0 :: st) (nn := 3) M_Mdl_in hc ok_Mdl_in rfl ml_Mdl_130 sta_Mdl_in ⟨hr1, hr2⟩ rfl ⟨hb1, hb2⟩ hst rfl d_Mdl_bare_25 (fun r σ' h => by obtain ⟨x, rfl, h⟩ := h; exact kk x σ' h) kx
theorem c_Mdl_bare_35 {Ω : Om} {R R' : Room} {F : QF} {k n : Nat} {L st : List PV} {σ : Sto} {QX' : String → Sto → Prop} {Q : Int → Sto → Prop} {x0 : Int64} {x1 : Int} (hc : MC Ω M_Mdl_signAt R' (RI Q) QX' σ [xl x0, xi x1]) (hr1 : R'.frames + 1 ≤ R.frames) (hr2 : 8 + (3 + 11) + R'.locals ≤ R.locals) (hb1 : k + R'.cells ≤ R.cells) (hb2 : n + R'.slots ≤ R.slots) (hst : (st.map catP).sum ≤ 8) (kk : ∀ x σ', Q x σ' → Aw Ω M_Mdl_bare R F (k + R'.cells) (n + R'.slots) 38 L (xi x :: st) σ') (kx : ∀ E σ', QX' E σ' → Ax Ω M_Mdl_bare R F (k + R'.cells) (n + R'.slots) 35 L st σ' E) : Aw Ω M_Mdl_bare R F k n 35 L (xi x1 :: xl x0 :: st) σ :=
  Aw.callS (As := [xl x0, xi x1]) (stk := xi x1 :: xl x0 :: st) (nn := 2) M_Mdl_signAt hc ok_Mdl_signAt rfl ml_Mdl_136 sta_Mdl_signAt ⟨hr1, hr2⟩ rfl ⟨hb1, hb2⟩ hst rfl d_Mdl_bare_35 (fun r σ' h => by obtain ⟨x, rfl, h⟩ := h; exact kk x σ' h) kx
theorem r_Mdl_bare_57 {Ω : Om} {R : Room} {k n : Nat} {L : List PV} {σ : Sto} {QR : Option PV → Sto → Prop} {QX : String → Sto → Prop} {x : Int64} (h : QR (some (xl x)) σ) (h1 : k ≤ R.cells) (h2 : n ≤ R.slots) : Aw Ω M_Mdl_bare R (MF Ω R QR QX) k n 57 L [xl x] σ := Aw.lret rfl h h1 h2 d_Mdl_bare_57
theorem e_Mdl_putAt {Ω : Om} {R : Room} {QR : Option PV → Sto → Prop} {QX : String → Sto → Prop} {σ : Sto} {a0 : Nat} {v1 : Int} {v2 : Int} (h : Aw Ω M_Mdl_putAt R (MF Ω R QR QX) 0 0 0 [xr (some a0), xi v1, xi v2, xu] [] σ) : MC Ω M_Mdl_putAt R QR QX σ [xr (some a0), xi v1, xi v2] := MC.body (by decide +kernel) rfl (Nat.le_of_ble_eq_true rfl) rfl h
theorem b_Mdl_putAt_0 {Ω : Om} {R : Room} {F : QF} {k n : Nat} {σ : Sto} {a0 : Nat} {v1 : Int} {v2 : Int} (h : sK σ a0 = 13 ∧ (Q32 (fI σ 783 a0) → Aw Ω M_Mdl_putAt R F k n 5 [xr (some a0), xi v1, xi v2, xi (fI σ 783 a0)] [] σ)) : Aw Ω M_Mdl_putAt R F k n 0 [xr (some a0), xi v1, xi v2, xu] [] σ := by
  refine Aw.aload_n rfl d_Mdl_putAt_0 ?_
  obtain ⟨o1, h⟩ := h
  refine Aw.getI (f := 783) 12 15 fl_Mdl_194 (by decide) (by decide) rfl rfl o1 d_Mdl_putAt_1 (fun r2 => ?_)
  have h := h r2
  refine Aw.istore_n (by decide) d_Mdl_putAt_4 ?_
  refine Aw.toL (L' := [xr (some a0), xi v1, xi v2, xi (fI σ 783 a0)]) rfl ?_
  exact h
theorem b_Mdl_putAt_5 {Ω : Om} {R : Room} {F : QF} {k n : Nat} {σ : Sto} {a0 : Nat} {v1 : Int} {v2 : Int} {v3 : Int} (h : Q32 v3 ∧ Q32 v1 ∧ ((v3 ≤ v1 → sK σ a0 = 13 ∧ (∃ b4 : Nat, fR σ 784 a0 = some b4 ∧ sK σ b4 = 50 ∧ 0 ≤ v1 ∧ v1 < sZ σ b4 ∧ Q32 v2 ∧ (Q32 (fI σ 783 a0) → Q32 ((fI σ 783 a0) + 1) ∧ Aw Ω M_Mdl_putAt R F k n 47 [xr (some a0), xi v1, xi v2, xi v3] [] (uI (vI σ b4 (v1).toNat v2) 783 a0 ((fI σ 783 a0) + 1))))) ∧ (¬ v3 ≤ v1 → sK σ a0 = 13 ∧ (∃ b13 : Nat, fR σ 784 a0 = some b13 ∧ sK σ b13 = 50 ∧ 0 ≤ (v3 - 1) ∧ (v3 - 1) < sZ σ b13 ∧ (Q32 (aI σ b13 (v3 - 1).toNat) → 0 ≤ v3 ∧ v3 < sZ σ b13 ∧ Aw Ω M_Mdl_putAt R F k n 5 [xr (some a0), xi v1, xi v2, xi (v3 + (-1))] [] (vI σ b13 (v3).toNat (aI σ b13 (v3 - 1).toNat))))))) : Aw Ω M_Mdl_putAt R F k n 5 [xr (some a0), xi v1, xi v2, xi v3] [] σ := by
  refine Aw.iload_n rfl d_Mdl_putAt_5 ?_
  refine Aw.iload_n rfl d_Mdl_putAt_6 ?_
  obtain ⟨o1, h⟩ := h
  obtain ⟨o2, h⟩ := h
  obtain ⟨ht, hf⟩ := h
  refine Aw.icmp_le (tgt := 30) o1 o2 (by decide) d_Mdl_putAt_7 (fun c21 => ?_) (fun c21 => ?_)
  · have h := ht c21
    refine Aw.aload_n rfl d_Mdl_putAt_30 ?_
    obtain ⟨o3, h⟩ := h
    obtain ⟨b4, e5, h⟩ := h
    refine Aw.getRs (f := 784) 12 16 fl_Mdl_35 (by decide) (by decide) rfl rfl o3 e5 d_Mdl_putAt_31 ?_
    refine Aw.iload_n rfl d_Mdl_putAt_34 ?_
    refine Aw.iload_n rfl d_Mdl_putAt_35 ?_
    obtain ⟨o6, h⟩ := h
    obtain ⟨o7, o8, h⟩ := h
    obtain ⟨o9, h⟩ := h
    refine Aw.iast o6 o7 o8 o9 d_Mdl_putAt_36 ?_
    refine Aw.aload_n rfl d_Mdl_putAt_37 ?_
    refine Aw.dup rfl d_Mdl_putAt_38 ?_
    refine Aw.getI (f := 783) 12 15 fl_Mdl_194 (by decide) (by decide) rfl rfl o3 d_Mdl_putAt_39 (fun r10 => ?_)
    have h := h r10
    refine Aw.iconst d_Mdl_putAt_42 ?_
    refine Aw.iadd d_Mdl_putAt_43 ?_
    obtain ⟨o11, h⟩ := h
    refine Aw.putI (f := 783) 12 15 fl_Mdl_194 (by decide) (by decide) rfl rfl o3 rfl o11 (Or.inl rfl) d_Mdl_putAt_44 ?_
    exact h
  · have h := hf c21
    refine Aw.aload_n rfl d_Mdl_putAt_10 ?_
    obtain ⟨o12, h⟩ := h
    obtain ⟨b13, e14, h⟩ := h
    refine Aw.getRs (f := 784) 12 16 fl_Mdl_35 (by decide) (by decide) rfl rfl o12 e14 d_Mdl_putAt_11 ?_
    refine Aw.iload_n rfl d_Mdl_putAt_14 ?_
    refine Aw.aload_n rfl d_Mdl_putAt_15 ?_
    refine Aw.getRs (f := 784) 12 16 fl_Mdl_35 (by decide) (by decide) rfl rfl o12 e14 d_Mdl_putAt_16 ?_
    refine Aw.iload_n rfl d_Mdl_putAt_19 ?_
    refine Aw.iconst d_Mdl_putAt_20 ?_
    refine Aw.isub d_Mdl_putAt_21 ?_
    obtain ⟨o15, h⟩ := h
    obtain ⟨o16, o17, h⟩ := h
    refine Aw.iald o15 o16 o17 d_Mdl_putAt_22 (fun r18 => ?_)
    have h := h r18
    obtain ⟨o19, o20, h⟩ := h
    refine Aw.iast o15 o19 o20 r18 d_Mdl_putAt_23 ?_
    refine Aw.iinc rfl d_Mdl_putAt_24 ?_
    refine Aw.toL (L' := [xr (some a0), xi v1, xi v2, xi (v3 + (-1))]) rfl ?_
    refine Aw.goto (tgt := 5) (by decide) d_Mdl_putAt_27 ?_
    exact h
theorem r_Mdl_putAt_47 {Ω : Om} {R : Room} {k n : Nat} {L : List PV} {σ : Sto} {QR : Option PV → Sto → Prop} {QX : String → Sto → Prop} (h : QR none σ) (h1 : k ≤ R.cells) (h2 : n ≤ R.slots) : Aw Ω M_Mdl_putAt R (MF Ω R QR QX) k n 47 L [] σ := Aw.vret rfl h h1 h2 d_Mdl_putAt_47
theorem e_Mdl_blame {Ω : Om} {R : Room} {QR : Option PV → Sto → Prop} {QX : String → Sto → Prop} {σ : Sto} {a0 : Nat} {v1 : Int} {v2 : Int} (h : Aw Ω M_Mdl_blame R (MF Ω R QR QX) 0 0 0 [xr (some a0), xi v1, xi v2] [] σ) : MC Ω M_Mdl_blame R QR QX σ [xr (some a0), xi v1, xi v2] := MC.body (by decide +kernel) rfl (Nat.le_of_ble_eq_true rfl) rfl h
theorem b_Mdl_blame_0 {Ω : Om} {R : Room} {F : QF} {k n : Nat} {σ : Sto} {a0 : Nat} {v1 : Int} {v2 : Int} (h : Aw Ω M_Mdl_blame R F k n 4 [xr (some a0), xi v1, xi v2] [xi v2, xi v1, xr (some a0), xr (some a0)] σ) : Aw Ω M_Mdl_blame R F k n 0 [xr (some a0), xi v1, xi v2] [] σ := by
  refine Aw.aload_n rfl d_Mdl_blame_0 ?_
  refine Aw.aload_n rfl d_Mdl_blame_1 ?_
  refine Aw.iload_n rfl d_Mdl_blame_2 ?_
  refine Aw.iload_n rfl d_Mdl_blame_3 ?_
  exact h
theorem b_Mdl_blame_7 {Ω : Om} {R : Room} {F : QF} {k n : Nat} {σ : Sto} {a0 : Nat} {v1 : Int} {v2 : Int} {s0 : Nat} {s1 : Int} (h : Q32 s1 ∧ ((s1 = (0 : Int) → Aw Ω M_Mdl_blame R F k n 15 [xr (some a0), xi v1, xi v2] [xi 1, xr (some s0)] σ) ∧ (¬ s1 = (0 : Int) → Aw Ω M_Mdl_blame R F k n 15 [xr (some a0), xi v1, xi v2] [xi 0, xr (some s0)] σ))) : Aw Ω M_Mdl_blame R F k n 7 [xr (some a0), xi v1, xi v2] [xi s1, xr (some s0)] σ := by
  obtain ⟨o1, h⟩ := h
  obtain ⟨ht, hf⟩ := h
  refine Aw.if_eq (tgt := 14) o1 (by decide) d_Mdl_blame_7 (fun c2 => ?_) (fun c2 => ?_)
  · have h := ht c2
    refine Aw.iconst d_Mdl_blame_14 ?_
    exact h
  · have h := hf c2
    refine Aw.iconst d_Mdl_blame_10 ?_
    refine Aw.goto (tgt := 15) (by decide) d_Mdl_blame_11 ?_
    exact h
theorem b_Mdl_blame_18 {Ω : Om} {R : Room} {F : QF} {k n : Nat} {σ : Sto} {a0 : Nat} {v1 : Int} {v2 : Int} {s0 : Int} (h : Q32 s0 ∧ ((s0 = (0 : Int) → sK σ a0 = 13 ∧ (∃ b3 : Nat, fR σ 771 a0 = some b3 ∧ (∃ b5 : Nat, fR σ 775 a0 = some b5 ∧ sK σ b5 = 50 ∧ 0 ≤ ((20 * v1) + v2) ∧ ((20 * v1) + v2) < sZ σ b5 ∧ (Q32 (aI σ b5 ((20 * v1) + v2).toNat) → sK σ b3 = 50 ∧ 0 ≤ (aI σ b5 ((20 * v1) + v2).toNat) ∧ (aI σ b5 ((20 * v1) + v2).toNat) < sZ σ b3 ∧ (Q32 (aI σ b3 (aI σ b5 ((20 * v1) + v2).toNat).toNat) → Aw Ω M_Mdl_blame R F k n 41 [xr (some a0), xi v1, xi v2] [xi (aI σ b3 (aI σ b5 ((20 * v1) + v2).toNat).toNat)] σ))))) ∧ (¬ s0 = (0 : Int) → Aw Ω M_Mdl_blame R F k n 41 [xr (some a0), xi v1, xi v2] [xi 0] σ))) : Aw Ω M_Mdl_blame R F k n 18 [xr (some a0), xi v1, xi v2] [xi s0] σ := by
  obtain ⟨o1, h⟩ := h
  obtain ⟨ht, hf⟩ := h
  refine Aw.if_eq (tgt := 25) o1 (by decide) d_Mdl_blame_18 (fun c15 => ?_) (fun c15 => ?_)
  · have h := ht c15
    refine Aw.aload_n rfl d_Mdl_blame_25 ?_
    obtain ⟨o2, h⟩ := h
    obtain ⟨b3, e4, h⟩ := h
    refine Aw.getRs (f := 771) 12 3 fl_Mdl_13 (by decide) (by decide) rfl rfl o2 e4 d_Mdl_blame_26 ?_
    refine Aw.aload_n rfl d_Mdl_blame_29 ?_
    obtain ⟨b5, e6, h⟩ := h
    refine Aw.getRs (f := 775) 12 7 fl_Mdl_23 (by decide) (by decide) rfl rfl o2 e6 d_Mdl_blame_30 ?_
    refine Aw.bipush (by decide) d_Mdl_blame_33 ?_
    refine Aw.iload_n rfl d_Mdl_blame_35 ?_
    refine Aw.imul d_Mdl_blame_36 ?_
    refine Aw.iload_n rfl d_Mdl_blame_37 ?_
    refine Aw.iadd d_Mdl_blame_38 ?_
    obtain ⟨o7, h⟩ := h
    obtain ⟨o8, o9, h⟩ := h
    refine Aw.iald o7 o8 o9 d_Mdl_blame_39 (fun r10 => ?_)
    have h := h r10
    obtain ⟨o11, h⟩ := h
    obtain ⟨o12, o13, h⟩ := h
    refine Aw.iald o11 o12 o13 d_Mdl_blame_40 (fun r14 => ?_)
    have h := h r14
    exact h
  · have h := hf c15
    refine Aw.iconst d_Mdl_blame_21 ?_
    refine Aw.goto (tgt := 41) (by decide) d_Mdl_blame_22 ?_
    exact h
theorem c_Mdl_blame_4 {Ω : Om} {R R' : Room} {F : QF} {k n : Nat} {L st : List PV} {σ : Sto} {QX' : String → Sto → Prop} {Q : Int → Sto → Prop} {a : Nat} {x0 : Int} {x1 : Int} (hc : MC Ω M_Mdl_isLineOf R' (RI Q) QX' σ [xr (some a), xi x0, xi x1]) (hk : sK σ a = 13) (hr1 : R'.frames + 1 ≤ R.frames) (hr2 : 8 + (3 + 11) + R'.locals ≤ R.locals) (hb1 : k + R'.cells ≤ R.cells) (hb2 : n + R'.slots ≤ R.slots) (hst : (st.map catP).sum ≤ 8) (kk : ∀ x σ', Q x σ' → Aw Ω M_Mdl_blame R F (k + R'.cells) (n + R'.slots) 7 L (xi x :: st) σ') (kx : ∀ E σ', QX' E σ' → Ax Ω M_Mdl_blame R F (k + R'.cells) (n + R'.slots) 4 L st σ' E) : Aw Ω M_Mdl_blame R F k n 4 L (xi x1 :: xi x0 :: xr (some a) :: st) σ :=
  Aw.callV (As := [xi x0, xi x1]) (stk := xi x1 :: xi x0 :: xr (some a) :: st) (nn := 2) 12 M_Mdl_isLineOf hc ok_Mdl_isLineOf rfl (by decide) rfl hk ml_Mdl_226 im_Mdl_isLineOf se_Mdl_isLineOf ⟨hr1, hr2⟩ rfl ⟨hb1, hb2⟩ hst rfl d_Mdl_blame_4 (fun r σ' h => by obtain ⟨x, rfl, h⟩ := h; exact kk x σ' h) kx
theorem c_Mdl_blame_15 {Ω : Om} {R R' : Room} {F : QF} {k n : Nat} {L st : List PV} {σ : Sto} {QX' : String → Sto → Prop} {Q : Int → Sto → Prop} {a : Nat} {x0 : Int} (hc : MC Ω M_Mdl_refused R' (RI Q) QX' σ [xr (some a), xi x0]) (hk : sK σ a = 13) (hr1 : R'.frames + 1 ≤ R.frames) (hr2 : 8 + (2 + 11) + R'.locals ≤ R.locals) (hb1 : k + R'.cells ≤ R.cells) (hb2 : n + R'.slots ≤ R.slots) (hst : (st.map catP).sum ≤ 8) (kk : ∀ x σ', Q x σ' → Aw Ω M_Mdl_blame R F (k + R'.cells) (n + R'.slots) 18 L (xi x :: st) σ') (kx : ∀ E σ', QX' E σ' → Ax Ω M_Mdl_blame R F (k + R'.cells) (n + R'.slots) 15 L st σ' E) : Aw Ω M_Mdl_blame R F k n 15 L (xi x0 :: xr (some a) :: st) σ :=
  Aw.callV (As := [xi x0]) (stk := xi x0 :: xr (some a) :: st) (nn := 1) 12 M_Mdl_refused hc ok_Mdl_refused rfl (by decide) rfl hk ml_Mdl_151 im_Mdl_refused se_Mdl_refused ⟨hr1, hr2⟩ rfl ⟨hb1, hb2⟩ hst rfl d_Mdl_blame_15 (fun r σ' h => by obtain ⟨x, rfl, h⟩ := h; exact kk x σ' h) kx
theorem r_Mdl_blame_41 {Ω : Om} {R : Room} {k n : Nat} {L : List PV} {σ : Sto} {QR : Option PV → Sto → Prop} {QX : String → Sto → Prop} {x : Int} (h : QR (some (xi x)) σ) (h1 : k ≤ R.cells) (h2 : n ≤ R.slots) : Aw Ω M_Mdl_blame R (MF Ω R QR QX) k n 41 L [xi x] σ := Aw.iret rfl h h1 h2 d_Mdl_blame_41
theorem e_Mdl_isAbove {Ω : Om} {R : Room} {QR : Option PV → Sto → Prop} {QX : String → Sto → Prop} {σ : Sto} {a0 : Nat} {v1 : Int} {v2 : Int} (h : Aw Ω M_Mdl_isAbove R (MF Ω R QR QX) 0 0 0 [xr (some a0), xi v1, xi v2] [] σ) : MC Ω M_Mdl_isAbove R QR QX σ [xr (some a0), xi v1, xi v2] := MC.body (by decide +kernel) rfl (Nat.le_of_ble_eq_true rfl) rfl h
theorem b_Mdl_isAbove_0 {Ω : Om} {R : Room} {F : QF} {k n : Nat} {σ : Sto} {a0 : Nat} {v1 : Int} {v2 : Int} (h : Aw Ω M_Mdl_isAbove R F k n 3 [xr (some a0), xi v1, xi v2] [xi v1, xr (some a0), xr (some a0)] σ) : Aw Ω M_Mdl_isAbove R F k n 0 [xr (some a0), xi v1, xi v2] [] σ := by
  refine Aw.aload_n rfl d_Mdl_isAbove_0 ?_
  refine Aw.aload_n rfl d_Mdl_isAbove_1 ?_
  refine Aw.iload_n rfl d_Mdl_isAbove_2 ?_
  exact h
theorem b_Mdl_isAbove_6 {Ω : Om} {R : Room} {F : QF} {k n : Nat} {σ : Sto} {a0 : Nat} {v1 : Int} {v2 : Int} {s0 : Nat} {s1 : Int} (h : Q32 s1 ∧ ((s1 = (0 : Int) → Aw Ω M_Mdl_isAbove R F k n 22 [xr (some a0), xi v1, xi v2] [xi 1, xr (some s0)] σ) ∧ (¬ s1 = (0 : Int) → Aw Ω M_Mdl_isAbove R F k n 11 [xr (some a0), xi v1, xi v2] [xi v2, xr (some a0), xr (some s0)] σ))) : Aw Ω M_Mdl_isAbove R F k n 6 [xr (some a0), xi v1, xi v2] [xi s1, xr (some s0)] σ := by
  obtain ⟨o1, h⟩ := h
  obtain ⟨ht, hf⟩ := h
  refine Aw.if_eq (tgt := 21) o1 (by decide) d_Mdl_isAbove_6 (fun c2 => ?_) (fun c2 => ?_)
  · have h := ht c2
    refine Aw.iconst d_Mdl_isAbove_21 ?_
    exact h
  · have h := hf c2
    refine Aw.aload_n rfl d_Mdl_isAbove_9 ?_
    refine Aw.iload_n rfl d_Mdl_isAbove_10 ?_
    exact h
theorem b_Mdl_isAbove_14 {Ω : Om} {R : Room} {F : QF} {k n : Nat} {σ : Sto} {a0 : Nat} {v1 : Int} {v2 : Int} {s0 : Nat} {s1 : Int} (h : Q32 s1 ∧ ((s1 = (0 : Int) → Aw Ω M_Mdl_isAbove R F k n 22 [xr (some a0), xi v1, xi v2] [xi 1, xr (some s0)] σ) ∧ (¬ s1 = (0 : Int) → Aw Ω M_Mdl_isAbove R F k n 22 [xr (some a0), xi v1, xi v2] [xi 0, xr (some s0)] σ))) : Aw Ω M_Mdl_isAbove R F k n 14 [xr (some a0), xi v1, xi v2] [xi s1, xr (some s0)] σ := by
  obtain ⟨o1, h⟩ := h
  obtain ⟨ht, hf⟩ := h
  refine Aw.if_eq (tgt := 21) o1 (by decide) d_Mdl_isAbove_14 (fun c2 => ?_) (fun c2 => ?_)
  · have h := ht c2
    refine Aw.iconst d_Mdl_isAbove_21 ?_
    exact h
  · have h := hf c2
    refine Aw.iconst d_Mdl_isAbove_17 ?_
    refine Aw.goto (tgt := 22) (by decide) d_Mdl_isAbove_18 ?_
    exact h
theorem b_Mdl_isAbove_25 {Ω : Om} {R : Room} {F : QF} {k n : Nat} {σ : Sto} {a0 : Nat} {v1 : Int} {v2 : Int} {s0 : Int} (h : Q32 s0 ∧ ((¬ s0 = (0 : Int) → Aw Ω M_Mdl_isAbove R F k n 42 [xr (some a0), xi v1, xi v2] [xi 0] σ) ∧ (s0 = (0 : Int) → Aw Ω M_Mdl_isAbove R F k n 31 [xr (some a0), xi v1, xi v2] [xi v2, xi v1, xr (some a0)] σ))) : Aw Ω M_Mdl_isAbove R F k n 25 [xr (some a0), xi v1, xi v2] [xi s0] σ := by
  obtain ⟨o1, h⟩ := h
  obtain ⟨ht, hf⟩ := h
  refine Aw.if_ne (tgt := 41) o1 (by decide) d_Mdl_isAbove_25 (fun c2 => ?_) (fun c2 => ?_)
  · have h := ht c2
    refine Aw.iconst d_Mdl_isAbove_41 ?_
    exact h
  · have h := hf c2
    refine Aw.aload_n rfl d_Mdl_isAbove_28 ?_
    refine Aw.iload_n rfl d_Mdl_isAbove_29 ?_
    refine Aw.iload_n rfl d_Mdl_isAbove_30 ?_
    exact h
theorem b_Mdl_isAbove_34 {Ω : Om} {R : Room} {F : QF} {k n : Nat} {σ : Sto} {a0 : Nat} {v1 : Int} {v2 : Int} {s0 : Int} (h : Q32 s0 ∧ ((s0 = (0 : Int) → Aw Ω M_Mdl_isAbove R F k n 42 [xr (some a0), xi v1, xi v2] [xi 0] σ) ∧ (¬ s0 = (0 : Int) → Aw Ω M_Mdl_isAbove R F k n 42 [xr (some a0), xi v1, xi v2] [xi 1] σ))) : Aw Ω M_Mdl_isAbove R F k n 34 [xr (some a0), xi v1, xi v2] [xi s0] σ := by
  obtain ⟨o1, h⟩ := h
  obtain ⟨ht, hf⟩ := h
  refine Aw.if_eq (tgt := 41) o1 (by decide) d_Mdl_isAbove_34 (fun c2 => ?_) (fun c2 => ?_)
  · have h := ht c2
    refine Aw.iconst d_Mdl_isAbove_41 ?_
    exact h
  · have h := hf c2
    refine Aw.iconst d_Mdl_isAbove_37 ?_
    refine Aw.goto (tgt := 42) (by decide) d_Mdl_isAbove_38 ?_
    exact h
theorem c_Mdl_isAbove_3 {Ω : Om} {R R' : Room} {F : QF} {k n : Nat} {L st : List PV} {σ : Sto} {QX' : String → Sto → Prop} {Q : Int → Sto → Prop} {a : Nat} {x0 : Int} (hc : MC Ω M_Mdl_isVersion R' (RI Q) QX' σ [xr (some a), xi x0]) (hk : sK σ a = 13) (hr1 : R'.frames + 1 ≤ R.frames) (hr2 : 8 + (2 + 11) + R'.locals ≤ R.locals) (hb1 : k + R'.cells ≤ R.cells) (hb2 : n + R'.slots ≤ R.slots) (hst : (st.map catP).sum ≤ 8) (kk : ∀ x σ', Q x σ' → Aw Ω M_Mdl_isAbove R F (k + R'.cells) (n + R'.slots) 6 L (xi x :: st) σ') (kx : ∀ E σ', QX' E σ' → Ax Ω M_Mdl_isAbove R F (k + R'.cells) (n + R'.slots) 3 L st σ' E) : Aw Ω M_Mdl_isAbove R F k n 3 L (xi x0 :: xr (some a) :: st) σ :=
  Aw.callV (As := [xi x0]) (stk := xi x0 :: xr (some a) :: st) (nn := 1) 12 M_Mdl_isVersion hc ok_Mdl_isVersion rfl (by decide) rfl hk ml_Mdl_172 im_Mdl_isVersion se_Mdl_isVersion ⟨hr1, hr2⟩ rfl ⟨hb1, hb2⟩ hst rfl d_Mdl_isAbove_3 (fun r σ' h => by obtain ⟨x, rfl, h⟩ := h; exact kk x σ' h) kx
theorem c_Mdl_isAbove_11 {Ω : Om} {R R' : Room} {F : QF} {k n : Nat} {L st : List PV} {σ : Sto} {QX' : String → Sto → Prop} {Q : Int → Sto → Prop} {a : Nat} {x0 : Int} (hc : MC Ω M_Mdl_isVersion R' (RI Q) QX' σ [xr (some a), xi x0]) (hk : sK σ a = 13) (hr1 : R'.frames + 1 ≤ R.frames) (hr2 : 8 + (2 + 11) + R'.locals ≤ R.locals) (hb1 : k + R'.cells ≤ R.cells) (hb2 : n + R'.slots ≤ R.slots) (hst : (st.map catP).sum ≤ 8) (kk : ∀ x σ', Q x σ' → Aw Ω M_Mdl_isAbove R F (k + R'.cells) (n + R'.slots) 14 L (xi x :: st) σ') (kx : ∀ E σ', QX' E σ' → Ax Ω M_Mdl_isAbove R F (k + R'.cells) (n + R'.slots) 11 L st σ' E) : Aw Ω M_Mdl_isAbove R F k n 11 L (xi x0 :: xr (some a) :: st) σ :=
  Aw.callV (As := [xi x0]) (stk := xi x0 :: xr (some a) :: st) (nn := 1) 12 M_Mdl_isVersion hc ok_Mdl_isVersion rfl (by decide) rfl hk ml_Mdl_172 im_Mdl_isVersion se_Mdl_isVersion ⟨hr1, hr2⟩ rfl ⟨hb1, hb2⟩ hst rfl d_Mdl_isAbove_11 (fun r σ' h => by obtain ⟨x, rfl, h⟩ := h; exact kk x σ' h) kx
theorem c_Mdl_isAbove_22 {Ω : Om} {R R' : Room} {F : QF} {k n : Nat} {L st : List PV} {σ : Sto} {QX' : String → Sto → Prop} {Q : Int → Sto → Prop} {a : Nat} {x0 : Int} (hc : MC Ω M_Mdl_refused R' (RI Q) QX' σ [xr (some a), xi x0]) (hk : sK σ a = 13) (hr1 : R'.frames + 1 ≤ R.frames) (hr2 : 8 + (2 + 11) + R'.locals ≤ R.locals) (hb1 : k + R'.cells ≤ R.cells) (hb2 : n + R'.slots ≤ R.slots) (hst : (st.map catP).sum ≤ 8) (kk : ∀ x σ', Q x σ' → Aw Ω M_Mdl_isAbove R F (k + R'.cells) (n + R'.slots) 25 L (xi x :: st) σ') (kx : ∀ E σ', QX' E σ' → Ax Ω M_Mdl_isAbove R F (k + R'.cells) (n + R'.slots) 22 L st σ' E) : Aw Ω M_Mdl_isAbove R F k n 22 L (xi x0 :: xr (some a) :: st) σ :=
  Aw.callV (As := [xi x0]) (stk := xi x0 :: xr (some a) :: st) (nn := 1) 12 M_Mdl_refused hc ok_Mdl_refused rfl (by decide) rfl hk ml_Mdl_151 im_Mdl_refused se_Mdl_refused ⟨hr1, hr2⟩ rfl ⟨hb1, hb2⟩ hst rfl d_Mdl_isAbove_22 (fun r σ' h => by obtain ⟨x, rfl, h⟩ := h; exact kk x σ' h) kx
theorem c_Mdl_isAbove_31 {Ω : Om} {R R' : Room} {F : QF} {k n : Nat} {L st : List PV} {σ : Sto} {QX' : String → Sto → Prop} {Q : Int → Sto → Prop} {a : Nat} {x0 : Int} {x1 : Int} (hc : MC Ω M_Mdl_isOver R' (RI Q) QX' σ [xr (some a), xi x0, xi x1]) (hk : sK σ a = 13) (hr1 : R'.frames + 1 ≤ R.frames) (hr2 : 8 + (3 + 11) + R'.locals ≤ R.locals) (hb1 : k + R'.cells ≤ R.cells) (hb2 : n + R'.slots ≤ R.slots) (hst : (st.map catP).sum ≤ 8) (kk : ∀ x σ', Q x σ' → Aw Ω M_Mdl_isAbove R F (k + R'.cells) (n + R'.slots) 34 L (xi x :: st) σ') (kx : ∀ E σ', QX' E σ' → Ax Ω M_Mdl_isAbove R F (k + R'.cells) (n + R'.slots) 31 L st σ' E) : Aw Ω M_Mdl_isAbove R F k n 31 L (xi x1 :: xi x0 :: xr (some a) :: st) σ :=
  Aw.callV (As := [xi x0, xi x1]) (stk := xi x1 :: xi x0 :: xr (some a) :: st) (nn := 2) 12 M_Mdl_isOver hc ok_Mdl_isOver rfl (by decide) rfl hk ml_Mdl_238 im_Mdl_isOver se_Mdl_isOver ⟨hr1, hr2⟩ rfl ⟨hb1, hb2⟩ hst rfl d_Mdl_isAbove_31 (fun r σ' h => by obtain ⟨x, rfl, h⟩ := h; exact kk x σ' h) kx
theorem r_Mdl_isAbove_42 {Ω : Om} {R : Room} {k n : Nat} {L : List PV} {σ : Sto} {QR : Option PV → Sto → Prop} {QX : String → Sto → Prop} {x : Int} (hx : x = 0 ∨ x = 1) (h : QR (some (xi x)) σ) (h1 : k ≤ R.cells) (h2 : n ≤ R.slots) : Aw Ω M_Mdl_isAbove R (MF Ω R QR QX) k n 42 L [xi x] σ := Aw.zret rfl hx h h1 h2 d_Mdl_isAbove_42
theorem e_Mdl_isOver {Ω : Om} {R : Room} {QR : Option PV → Sto → Prop} {QX : String → Sto → Prop} {σ : Sto} {a0 : Nat} {v1 : Int} {v2 : Int} (h : Aw Ω M_Mdl_isOver R (MF Ω R QR QX) 0 0 0 [xr (some a0), xi v1, xi v2] [] σ) : MC Ω M_Mdl_isOver R QR QX σ [xr (some a0), xi v1, xi v2] := MC.body (by decide +kernel) rfl (Nat.le_of_ble_eq_true rfl) rfl h
theorem b_Mdl_isOver_0 {Ω : Om} {R : Room} {F : QF} {k n : Nat} {σ : Sto} {a0 : Nat} {v1 : Int} {v2 : Int} (h : Q32 v1 ∧ Q32 v2 ∧ ((v1 = v2 → Aw Ω M_Mdl_isOver R F k n 24 [xr (some a0), xi v1, xi v2] [xi 0] σ) ∧ (¬ v1 = v2 → Aw Ω M_Mdl_isOver R F k n 7 [xr (some a0), xi v1, xi v2] [xi v1, xr (some a0)] σ))) : Aw Ω M_Mdl_isOver R F k n 0 [xr (some a0), xi v1, xi v2] [] σ := by
  refine Aw.iload_n rfl d_Mdl_isOver_0 ?_
  refine Aw.iload_n rfl d_Mdl_isOver_1 ?_
  obtain ⟨o1, h⟩ := h
  obtain ⟨o2, h⟩ := h
  obtain ⟨ht, hf⟩ := h
  refine Aw.icmp_eq (tgt := 23) o1 o2 (by decide) d_Mdl_isOver_2 (fun c3 => ?_) (fun c3 => ?_)
  · have h := ht c3
    refine Aw.iconst d_Mdl_isOver_23 ?_
    exact h
  · have h := hf c3
    refine Aw.aload_n rfl d_Mdl_isOver_5 ?_
    refine Aw.iload_n rfl d_Mdl_isOver_6 ?_
    exact h
theorem b_Mdl_isOver_10 {Ω : Om} {R : Room} {F : QF} {k n : Nat} {σ : Sto} {a0 : Nat} {v1 : Int} {v2 : Int} {s0 : Int64} (h : Q32 (cmpL ((lShr s0 v2) &&& 1) 1) ∧ ((¬ (cmpL ((lShr s0 v2) &&& 1) 1) = (0 : Int) → Aw Ω M_Mdl_isOver R F k n 24 [xr (some a0), xi v1, xi v2] [xi 0] σ) ∧ ((cmpL ((lShr s0 v2) &&& 1) 1) = (0 : Int) → Aw Ω M_Mdl_isOver R F k n 24 [xr (some a0), xi v1, xi v2] [xi 1] σ))) : Aw Ω M_Mdl_isOver R F k n 10 [xr (some a0), xi v1, xi v2] [xl s0] σ := by
  refine Aw.iload_n rfl d_Mdl_isOver_10 ?_
  refine Aw.lshr d_Mdl_isOver_11 ?_
  refine Aw.lconst (w := 1) (by decide) d_Mdl_isOver_12 ?_
  refine Aw.land d_Mdl_isOver_13 ?_
  refine Aw.lconst (w := 1) (by decide) d_Mdl_isOver_14 ?_
  refine Aw.lcmp d_Mdl_isOver_15 ?_
  obtain ⟨o1, h⟩ := h
  obtain ⟨ht, hf⟩ := h
  refine Aw.if_ne (tgt := 23) o1 (by decide) d_Mdl_isOver_16 (fun c2 => ?_) (fun c2 => ?_)
  · have h := ht c2
    refine Aw.iconst d_Mdl_isOver_23 ?_
    exact h
  · have h := hf c2
    refine Aw.iconst d_Mdl_isOver_19 ?_
    refine Aw.goto (tgt := 24) (by decide) d_Mdl_isOver_20 ?_
    exact h
theorem c_Mdl_isOver_7 {Ω : Om} {R R' : Room} {F : QF} {k n : Nat} {L st : List PV} {σ : Sto} {QX' : String → Sto → Prop} {Q : Int64 → Sto → Prop} {a : Nat} {x0 : Int} (hc : MC Ω M_Mdl_family R' (RL Q) QX' σ [xr (some a), xi x0]) (hk : sK σ a = 13) (hr1 : R'.frames + 1 ≤ R.frames) (hr2 : 8 + (5 + 11) + R'.locals ≤ R.locals) (hb1 : k + R'.cells ≤ R.cells) (hb2 : n + R'.slots ≤ R.slots) (hst : (st.map catP).sum ≤ 8) (kk : ∀ x σ', Q x σ' → Aw Ω M_Mdl_isOver R F (k + R'.cells) (n + R'.slots) 10 L (xl x :: st) σ') (kx : ∀ E σ', QX' E σ' → Ax Ω M_Mdl_isOver R F (k + R'.cells) (n + R'.slots) 7 L st σ' E) : Aw Ω M_Mdl_isOver R F k n 7 L (xi x0 :: xr (some a) :: st) σ :=
  Aw.callV (As := [xi x0]) (stk := xi x0 :: xr (some a) :: st) (nn := 1) 12 M_Mdl_family hc ok_Mdl_family rfl (by decide) rfl hk ml_Mdl_234 im_Mdl_family se_Mdl_family ⟨hr1, hr2⟩ rfl ⟨hb1, hb2⟩ hst rfl d_Mdl_isOver_7 (fun r σ' h => by obtain ⟨x, rfl, h⟩ := h; exact kk x σ' h) kx
theorem r_Mdl_isOver_24 {Ω : Om} {R : Room} {k n : Nat} {L : List PV} {σ : Sto} {QR : Option PV → Sto → Prop} {QX : String → Sto → Prop} {x : Int} (hx : x = 0 ∨ x = 1) (h : QR (some (xi x)) σ) (h1 : k ≤ R.cells) (h2 : n ≤ R.slots) : Aw Ω M_Mdl_isOver R (MF Ω R QR QX) k n 24 L [xi x] σ := Aw.zret rfl hx h h1 h2 d_Mdl_isOver_24
theorem e_Mdl_isCompared {Ω : Om} {R : Room} {QR : Option PV → Sto → Prop} {QX : String → Sto → Prop} {σ : Sto} {a0 : Nat} {v1 : Int} (h : Aw Ω M_Mdl_isCompared R (MF Ω R QR QX) 0 0 0 [xr (some a0), xi v1] [] σ) : MC Ω M_Mdl_isCompared R QR QX σ [xr (some a0), xi v1] := MC.body (by decide +kernel) rfl (Nat.le_of_ble_eq_true rfl) rfl h
theorem b_Mdl_isCompared_0 {Ω : Om} {R : Room} {F : QF} {k n : Nat} {σ : Sto} {a0 : Nat} {v1 : Int} (h : sK σ a0 = 13 ∧ (Q32 (fI σ 793 a0) → (((fI σ 793 a0) = (0 : Int) → Aw Ω M_Mdl_isCompared R F k n 26 [xr (some a0), xi v1] [xi 0] σ) ∧ (¬ (fI σ 793 a0) = (0 : Int) → (Q32 (fI σ 794 a0) → Aw Ω M_Mdl_isCompared R F k n 15 [xr (some a0), xi v1] [xi ((fI σ 794 a0) - 1), xi 0, xi v1] σ))))) : Aw Ω M_Mdl_isCompared R F k n 0 [xr (some a0), xi v1] [] σ := by
  refine Aw.aload_n rfl d_Mdl_isCompared_0 ?_
  obtain ⟨o1, h⟩ := h
  refine Aw.getI (f := 793) 12 25 fl_Mdl_253 (by decide) (by decide) rfl rfl o1 d_Mdl_isCompared_1 (fun r2 => ?_)
  have h := h r2
  obtain ⟨ht, hf⟩ := h
  refine Aw.if_eq (tgt := 25) r2 (by decide) d_Mdl_isCompared_4 (fun c4 => ?_) (fun c4 => ?_)
  · have h := ht c4
    refine Aw.iconst d_Mdl_isCompared_25 ?_
    exact h
  · have h := hf c4
    refine Aw.iload_n rfl d_Mdl_isCompared_7 ?_
    refine Aw.iconst d_Mdl_isCompared_8 ?_
    refine Aw.aload_n rfl d_Mdl_isCompared_9 ?_
    refine Aw.getI (f := 794) 12 26 fl_Mdl_256 (by decide) (by decide) rfl rfl o1 d_Mdl_isCompared_10 (fun r3 => ?_)
    have h := h r3
    refine Aw.iconst d_Mdl_isCompared_13 ?_
    refine Aw.isub d_Mdl_isCompared_14 ?_
    exact h
theorem b_Mdl_isCompared_18 {Ω : Om} {R : Room} {F : QF} {k n : Nat} {σ : Sto} {a0 : Nat} {v1 : Int} {s0 : Int} (h : Q32 s0 ∧ ((s0 = (0 : Int) → Aw Ω M_Mdl_isCompared R F k n 26 [xr (some a0), xi v1] [xi 0] σ) ∧ (¬ s0 = (0 : Int) → Aw Ω M_Mdl_isCompared R F k n 26 [xr (some a0), xi v1] [xi 1] σ))) : Aw Ω M_Mdl_isCompared R F k n 18 [xr (some a0), xi v1] [xi s0] σ := by
  obtain ⟨o1, h⟩ := h
  obtain ⟨ht, hf⟩ := h
  refine Aw.if_eq (tgt := 25) o1 (by decide) d_Mdl_isCompared_18 (fun c2 => ?_) (fun c2 => ?_)
  · have h := ht c2
    refine Aw.iconst d_Mdl_isCompared_25 ?_
    exact h
  · have h := hf c2
    refine Aw.iconst d_Mdl_isCompared_21 ?_
    refine Aw.goto (tgt := 26) (by decide) d_Mdl_isCompared_22 ?_
    exact h
theorem c_Mdl_isCompared_15 {Ω : Om} {R R' : Room} {F : QF} {k n : Nat} {L st : List PV} {σ : Sto} {QX' : String → Sto → Prop} {Q : Int → Sto → Prop} {x0 : Int} {x1 : Int} {x2 : Int} (hc : MC Ω M_Mdl_in R' (RI Q) QX' σ [xi x0, xi x1, xi x2]) (hr1 : R'.frames + 1 ≤ R.frames) (hr2 : 8 + (3 + 11) + R'.locals ≤ R.locals) (hb1 : k + R'.cells ≤ R.cells) (hb2 : n + R'.slots ≤ R.slots) (hst : (st.map catP).sum ≤ 8) (kk : ∀ x σ', Q x σ' → Aw Ω M_Mdl_isCompared R F (k + R'.cells) (n + R'.slots) 18 L (xi x :: st) σ') (kx : ∀ E σ', QX' E σ' → Ax Ω M_Mdl_isCompared R F (k + R'.cells) (n + R'.slots) 15 L st σ' E) : Aw Ω M_Mdl_isCompared R F k n 15 L (xi x2 :: xi x1 :: xi x0 :: st) σ :=
  Aw.callS (As := [xi x0, xi x1, xi x2]) (stk := xi x2 :: xi x1 :: xi x0 :: st) (nn := 3) M_Mdl_in hc ok_Mdl_in rfl ml_Mdl_130 sta_Mdl_in ⟨hr1, hr2⟩ rfl ⟨hb1, hb2⟩ hst rfl d_Mdl_isCompared_15 (fun r σ' h => by obtain ⟨x, rfl, h⟩ := h; exact kk x σ' h) kx
theorem r_Mdl_isCompared_26 {Ω : Om} {R : Room} {k n : Nat} {L : List PV} {σ : Sto} {QR : Option PV → Sto → Prop} {QX : String → Sto → Prop} {x : Int} (hx : x = 0 ∨ x = 1) (h : QR (some (xi x)) σ) (h1 : k ≤ R.cells) (h2 : n ≤ R.slots) : Aw Ω M_Mdl_isCompared R (MF Ω R QR QX) k n 26 L [xi x] σ := Aw.zret rfl hx h h1 h2 d_Mdl_isCompared_26
theorem e_Mdl_isSettled {Ω : Om} {R : Room} {QR : Option PV → Sto → Prop} {QX : String → Sto → Prop} {σ : Sto} {a0 : Nat} (h : Aw Ω M_Mdl_isSettled R (MF Ω R QR QX) 0 0 0 [xr (some a0)] [] σ) : MC Ω M_Mdl_isSettled R QR QX σ [xr (some a0)] := MC.body (by decide +kernel) rfl (Nat.le_of_ble_eq_true rfl) rfl h
theorem b_Mdl_isSettled_0 {Ω : Om} {R : Room} {F : QF} {k n : Nat} {σ : Sto} {a0 : Nat} (h : sK σ a0 = 13 ∧ (Q32 (fI σ 786 a0) → (Q32 (fI σ 785 a0) → Q32 ((bShl 1 (fI σ 785 a0)) - 1) ∧ ((¬ (fI σ 786 a0) = ((bShl 1 (fI σ 785 a0)) - 1) → Aw Ω M_Mdl_isSettled R F k n 20 [xr (some a0)] [xi 0] σ) ∧ ((fI σ 786 a0) = ((bShl 1 (fI σ 785 a0)) - 1) → Aw Ω M_Mdl_isSettled R F k n 20 [xr (some a0)] [xi 1] σ))))) : Aw Ω M_Mdl_isSettled R F k n 0 [xr (some a0)] [] σ := by
  refine Aw.aload_n rfl d_Mdl_isSettled_0 ?_
  obtain ⟨o1, h⟩ := h
  refine Aw.getI (f := 786) 12 18 fl_Mdl_188 (by decide) (by decide) rfl rfl o1 d_Mdl_isSettled_1 (fun r2 => ?_)
  have h := h r2
  refine Aw.iconst d_Mdl_isSettled_4 ?_
  refine Aw.aload_n rfl d_Mdl_isSettled_5 ?_
  refine Aw.getI (f := 785) 12 17 fl_Mdl_185 (by decide) (by decide) rfl rfl o1 d_Mdl_isSettled_6 (fun r3 => ?_)
  have h := h r3
  refine Aw.ishl d_Mdl_isSettled_9 ?_
  refine Aw.iconst d_Mdl_isSettled_10 ?_
  refine Aw.isub d_Mdl_isSettled_11 ?_
  obtain ⟨o4, h⟩ := h
  obtain ⟨ht, hf⟩ := h
  refine Aw.icmp_ne (tgt := 19) r2 o4 (by decide) d_Mdl_isSettled_12 (fun c5 => ?_) (fun c5 => ?_)
  · have h := ht c5
    refine Aw.iconst d_Mdl_isSettled_19 ?_
    exact h
  · have h := hf c5
    refine Aw.iconst d_Mdl_isSettled_15 ?_
    refine Aw.goto (tgt := 20) (by decide) d_Mdl_isSettled_16 ?_
    exact h
theorem r_Mdl_isSettled_20 {Ω : Om} {R : Room} {k n : Nat} {L : List PV} {σ : Sto} {QR : Option PV → Sto → Prop} {QX : String → Sto → Prop} {x : Int} (hx : x = 0 ∨ x = 1) (h : QR (some (xi x)) σ) (h1 : k ≤ R.cells) (h2 : n ≤ R.slots) : Aw Ω M_Mdl_isSettled R (MF Ω R QR QX) k n 20 L [xi x] σ := Aw.zret rfl hx h h1 h2 d_Mdl_isSettled_20
theorem e_Mdl_refused {Ω : Om} {R : Room} {QR : Option PV → Sto → Prop} {QX : String → Sto → Prop} {σ : Sto} {a0 : Nat} {v1 : Int} (h : Aw Ω M_Mdl_refused R (MF Ω R QR QX) 0 0 0 [xr (some a0), xi v1] [] σ) : MC Ω M_Mdl_refused R QR QX σ [xr (some a0), xi v1] := MC.body (by decide +kernel) rfl (Nat.le_of_ble_eq_true rfl) rfl h
theorem b_Mdl_refused_0 {Ω : Om} {R : Room} {F : QF} {k n : Nat} {σ : Sto} {a0 : Nat} {v1 : Int} (h : sK σ a0 = 13 ∧ Q32 v1 ∧ ((v1 = (0 : Int) → Aw Ω M_Mdl_refused R F k n 14 [xr (some a0), xi v1] [xi 0] (uI σ 768 a0 v1)) ∧ (¬ v1 = (0 : Int) → Aw Ω M_Mdl_refused R F k n 14 [xr (some a0), xi v1] [xi 1] (uI σ 768 a0 v1)))) : Aw Ω M_Mdl_refused R F k n 0 [xr (some a0), xi v1] [] σ := by
  refine Aw.aload_n rfl d_Mdl_refused_0 ?_
  refine Aw.iload_n rfl d_Mdl_refused_1 ?_
  obtain ⟨o1, h⟩ := h
  obtain ⟨o2, h⟩ := h
  refine Aw.putI (f := 768) 12 0 fl_Mdl_127 (by decide) (by decide) rfl rfl o1 rfl o2 (Or.inl rfl) d_Mdl_refused_2 ?_
  refine Aw.iload_n rfl d_Mdl_refused_5 ?_
  obtain ⟨ht, hf⟩ := h
  refine Aw.if_eq (tgt := 13) o2 (by decide) d_Mdl_refused_6 (fun c3 => ?_) (fun c3 => ?_)
  · have h := ht c3
    refine Aw.iconst d_Mdl_refused_13 ?_
    exact h
  · have h := hf c3
    refine Aw.iconst d_Mdl_refused_9 ?_
    refine Aw.goto (tgt := 14) (by decide) d_Mdl_refused_10 ?_
    exact h
theorem r_Mdl_refused_14 {Ω : Om} {R : Room} {k n : Nat} {L : List PV} {σ : Sto} {QR : Option PV → Sto → Prop} {QX : String → Sto → Prop} {x : Int} (hx : x = 0 ∨ x = 1) (h : QR (some (xi x)) σ) (h1 : k ≤ R.cells) (h2 : n ≤ R.slots) : Aw Ω M_Mdl_refused R (MF Ω R QR QX) k n 14 L [xi x] σ := Aw.zret rfl hx h h1 h2 d_Mdl_refused_14
theorem e_Mdl_isPerson {Ω : Om} {R : Room} {QR : Option PV → Sto → Prop} {QX : String → Sto → Prop} {σ : Sto} {v0 : Int} (h : Aw Ω M_Mdl_isPerson R (MF Ω R QR QX) 0 0 0 [xi v0] [] σ) : MC Ω M_Mdl_isPerson R QR QX σ [xi v0] := MC.body (by decide +kernel) rfl (Nat.le_of_ble_eq_true rfl) rfl h
theorem b_Mdl_isPerson_0 {Ω : Om} {R : Room} {F : QF} {k n : Nat} {σ : Sto} {v0 : Int} (h : Aw Ω M_Mdl_isPerson R F k n 3 [xi v0] [xi 5, xi 0, xi v0] σ) : Aw Ω M_Mdl_isPerson R F k n 0 [xi v0] [] σ := by
  refine Aw.iload_n rfl d_Mdl_isPerson_0 ?_
  refine Aw.iconst d_Mdl_isPerson_1 ?_
  refine Aw.iconst d_Mdl_isPerson_2 ?_
  exact h
theorem c_Mdl_isPerson_3 {Ω : Om} {R R' : Room} {F : QF} {k n : Nat} {L st : List PV} {σ : Sto} {QX' : String → Sto → Prop} {Q : Int → Sto → Prop} {x0 : Int} {x1 : Int} {x2 : Int} (hc : MC Ω M_Mdl_in R' (RI Q) QX' σ [xi x0, xi x1, xi x2]) (hr1 : R'.frames + 1 ≤ R.frames) (hr2 : 8 + (3 + 11) + R'.locals ≤ R.locals) (hb1 : k + R'.cells ≤ R.cells) (hb2 : n + R'.slots ≤ R.slots) (hst : (st.map catP).sum ≤ 8) (kk : ∀ x σ', Q x σ' → Aw Ω M_Mdl_isPerson R F (k + R'.cells) (n + R'.slots) 6 L (xi x :: st) σ') (kx : ∀ E σ', QX' E σ' → Ax Ω M_Mdl_isPerson R F (k + R'.cells) (n + R'.slots) 3 L st σ' E) : Aw Ω M_Mdl_isPerson R F k n 3 L (xi x2 :: xi x1 :: xi x0 :: st) σ :=
  Aw.callS (As := [xi x0, xi x1, xi x2]) (stk := xi x2 :: xi x1 :: xi x0 :: st) (nn := 3) M_Mdl_in hc ok_Mdl_in rfl ml_Mdl_130 sta_Mdl_in ⟨hr1, hr2⟩ rfl ⟨hb1, hb2⟩ hst rfl d_Mdl_isPerson_3 (fun r σ' h => by obtain ⟨x, rfl, h⟩ := h; exact kk x σ' h) kx
theorem r_Mdl_isPerson_6 {Ω : Om} {R : Room} {k n : Nat} {L : List PV} {σ : Sto} {QR : Option PV → Sto → Prop} {QX : String → Sto → Prop} {x : Int} (hx : x = 0 ∨ x = 1) (h : QR (some (xi x)) σ) (h1 : k ≤ R.cells) (h2 : n ≤ R.slots) : Aw Ω M_Mdl_isPerson R (MF Ω R QR QX) k n 6 L [xi x] σ := Aw.zret rfl hx h h1 h2 d_Mdl_isPerson_6
