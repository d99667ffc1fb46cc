/-! walks of the reference, 3 (by program) -/
theorem e_Mdl_weave {Ω : Om} {R : Room} {QR : Option PV → Sto → Prop} {QX : String → Sto → Prop} {σ : Sto} {a0 : Nat} {v1 : Int} {v2 : Int} {v3 : Int} {v4 : Int} (h : Aw Ω M_Mdl_weave R (MF Ω R QR QX) 0 0 0 [xr (some a0), xi v1, xi v2, xi v3, xi v4, xu, xu, xu, xu, xu, xu, xu, xu, xu, xu] [] σ) : MC Ω M_Mdl_weave R QR QX σ [xr (some a0), xi v1, xi v2, xi v3, xi v4] := MC.body (by decide +kernel) rfl (Nat.le_of_ble_eq_true rfl) rfl h
theorem b_Mdl_weave_0 {Ω : Om} {R : Room} {F : QF} {k n : Nat} {σ : Sto} {a0 : Nat} {v1 : Int} {v2 : Int} {v3 : Int} {v4 : Int} (h : Aw Ω M_Mdl_weave R F k n 4 [xr (some a0), xi v1, xi v2, xi v3, xi v4, xu, xu, xu, xu, xu, xu, xu, xu, xu, xu] [xi 0, xi v1, xi v3, xr (some a0)] σ) : Aw Ω M_Mdl_weave R F k n 0 [xr (some a0), xi v1, xi v2, xi v3, xi v4, xu, xu, xu, xu, xu, xu, xu, xu, xu, xu] [] σ := by
  refine Aw.aload_n rfl d_Mdl_weave_0 ?_
  refine Aw.iload_n rfl d_Mdl_weave_1 ?_
  refine Aw.iload_n rfl d_Mdl_weave_2 ?_
  refine Aw.iconst d_Mdl_weave_3 ?_
  exact h
theorem b_Mdl_weave_7 {Ω : Om} {R : Room} {F : QF} {k n : Nat} {σ : Sto} {a0 : Nat} {v1 : Int} {v2 : Int} {v3 : Int} {v4 : Int} {s0 : Int} (h : Aw Ω M_Mdl_weave R F k n 11 [xr (some a0), xi v1, xi v2, xi v3, xi v4, xi 0, xu, xu, xu, xu, xu, xu, xu, xu, xu] [] σ) : Aw Ω M_Mdl_weave R F k n 7 [xr (some a0), xi v1, xi v2, xi v3, xi v4, xu, xu, xu, xu, xu, xu, xu, xu, xu, xu] [xi s0] σ := by
  refine Aw.pop rfl d_Mdl_weave_7 ?_
  refine Aw.iconst d_Mdl_weave_8 ?_
  refine Aw.istore (by decide) d_Mdl_weave_9 ?_
  refine Aw.toL (L' := [xr (some a0), xi v1, xi v2, xi v3, xi v4, xi 0, xu, xu, xu, xu, xu, xu, xu, xu, xu]) rfl ?_
  exact h
theorem b_Mdl_weave_11 {Ω : Om} {R : Room} {F : QF} {k n : Nat} {σ : Sto} {a0 : Nat} {v1 : Int} {v2 : Int} {v3 : Int} {v4 : Int} {v5 : Int} (h : sK σ a0 = 13 ∧ (∃ b2 : Nat, fR σ 774 a0 = some b2 ∧ sK σ b2 = 50 ∧ 0 ≤ v3 ∧ v3 < sZ σ b2 ∧ (Q32 (aI σ b2 (v3).toNat) → Q32 v5 ∧ (((aI σ b2 (v3).toNat) ≤ v5 → Aw Ω M_Mdl_weave R F k n 46 [xr (some a0), xi v1, xi v2, xi v3, xi v4, xi v5, xu, xu, xu, xu, xu, xu, xu, xu, xu] [xi 0, xi v2, xi v3, xr (some a0)] σ) ∧ (¬ (aI σ b2 (v3).toNat) ≤ v5 → (∃ b9 : Nat, fR σ 814 a0 = some b9 ∧ (∃ b11 : Nat, fR σ 813 a0 = some b11 ∧ sK σ b11 = 50 ∧ 0 ≤ v5 ∧ v5 < sZ σ b11 ∧ (Q32 (aI σ b11 (v5).toNat) → sK σ b9 = 50 ∧ 0 ≤ v5 ∧ v5 < sZ σ b9 ∧ Aw Ω M_Mdl_weave R F k n 11 [xr (some a0), xi v1, xi v2, xi v3, xi v4, xi (v5 + 1), xu, xu, xu, xu, xu, xu, xu, xu, xu] [] (vI σ b9 (v5).toNat (aI σ b11 (v5).toNat)))))))))) : Aw Ω M_Mdl_weave R F k n 11 [xr (some a0), xi v1, xi v2, xi v3, xi v4, xi v5, xu, xu, xu, xu, xu, xu, xu, xu, xu] [] σ := by
  refine Aw.iload rfl d_Mdl_weave_11 ?_
  refine Aw.aload_n rfl d_Mdl_weave_13 ?_
  obtain ⟨o1, h⟩ := h
  obtain ⟨b2, e3, h⟩ := h
  refine Aw.getRs (f := 774) 12 6 fl_Mdl_20 (by decide) (by decide) rfl rfl o1 e3 d_Mdl_weave_14 ?_
  refine Aw.iload_n rfl d_Mdl_weave_17 ?_
  obtain ⟨o4, h⟩ := h
  obtain ⟨o5, o6, h⟩ := h
  refine Aw.iald o4 o5 o6 d_Mdl_weave_18 (fun r7 => ?_)
  have h := h r7
  obtain ⟨o8, h⟩ := h
  obtain ⟨ht, hf⟩ := h
  refine Aw.icmp_ge (tgt := 42) o8 r7 (by decide) d_Mdl_weave_19 (fun c20 => ?_) (fun c20 => ?_)
  · have h := ht c20
    refine Aw.aload_n rfl d_Mdl_weave_42 ?_
    refine Aw.iload_n rfl d_Mdl_weave_43 ?_
    refine Aw.iload_n rfl d_Mdl_weave_44 ?_
    refine Aw.iconst d_Mdl_weave_45 ?_
    exact h
  · have h := hf c20
    refine Aw.aload_n rfl d_Mdl_weave_22 ?_
    obtain ⟨b9, e10, h⟩ := h
    refine Aw.getRs (f := 814) 12 46 fl_Mdl_102 (by decide) (by decide) rfl rfl o1 e10 d_Mdl_weave_23 ?_
    refine Aw.iload rfl d_Mdl_weave_26 ?_
    refine Aw.aload_n rfl d_Mdl_weave_28 ?_
    obtain ⟨b11, e12, h⟩ := h
    refine Aw.getRs (f := 813) 12 45 fl_Mdl_99 (by decide) (by decide) rfl rfl o1 e12 d_Mdl_weave_29 ?_
    refine Aw.iload rfl d_Mdl_weave_32 ?_
    obtain ⟨o13, h⟩ := h
    obtain ⟨o14, o15, h⟩ := h
    refine Aw.iald o13 o14 o15 d_Mdl_weave_34 (fun r16 => ?_)
    have h := h r16
    obtain ⟨o17, h⟩ := h
    obtain ⟨o18, o19, h⟩ := h
    refine Aw.iast o17 o18 o19 r16 d_Mdl_weave_35 ?_
    refine Aw.iinc rfl d_Mdl_weave_36 ?_
    refine Aw.toL (L' := [xr (some a0), xi v1, xi v2, xi v3, xi v4, xi (v5 + 1), xu, xu, xu, xu, xu, xu, xu, xu, xu]) rfl ?_
    refine Aw.goto (tgt := 11) (by decide) d_Mdl_weave_39 ?_
    exact h
theorem b_Mdl_weave_49 {Ω : Om} {R : Room} {F : QF} {k n : Nat} {σ : Sto} {a0 : Nat} {v1 : Int} {v2 : Int} {v3 : Int} {v4 : Int} {v5 : Int} {s0 : Int} (h : Aw Ω M_Mdl_weave R F k n 65 [xr (some a0), xi v1, xi v2, xi v3, xi v4, xi 0, xi 0, xi 0, xi 0, xi 0, xu, xu, xu, xu, xu] [] σ) : Aw Ω M_Mdl_weave R F k n 49 [xr (some a0), xi v1, xi v2, xi v3, xi v4, xi v5, xu, xu, xu, xu, xu, xu, xu, xu, xu] [xi s0] σ := by
  refine Aw.pop rfl d_Mdl_weave_49 ?_
  refine Aw.iconst d_Mdl_weave_50 ?_
  refine Aw.istore (by decide) d_Mdl_weave_51 ?_
  refine Aw.toL (L' := [xr (some a0), xi v1, xi v2, xi v3, xi v4, xi 0, xu, xu, xu, xu, xu, xu, xu, xu, xu]) rfl ?_
  refine Aw.iconst d_Mdl_weave_53 ?_
  refine Aw.istore (by decide) d_Mdl_weave_54 ?_
  refine Aw.toL (L' := [xr (some a0), xi v1, xi v2, xi v3, xi v4, xi 0, xi 0, xu, xu, xu, xu, xu, xu, xu, xu]) rfl ?_
  refine Aw.iconst d_Mdl_weave_56 ?_
  refine Aw.istore (by decide) d_Mdl_weave_57 ?_
  refine Aw.toL (L' := [xr (some a0), xi v1, xi v2, xi v3, xi v4, xi 0, xi 0, xi 0, xu, xu, xu, xu, xu, xu, xu]) rfl ?_
  refine Aw.iconst d_Mdl_weave_59 ?_
  refine Aw.istore (by decide) d_Mdl_weave_60 ?_
  refine Aw.toL (L' := [xr (some a0), xi v1, xi v2, xi v3, xi v4, xi 0, xi 0, xi 0, xi 0, xu, xu, xu, xu, xu, xu]) rfl ?_
  refine Aw.iconst d_Mdl_weave_62 ?_
  refine Aw.istore (by decide) d_Mdl_weave_63 ?_
  refine Aw.toL (L' := [xr (some a0), xi v1, xi v2, xi v3, xi v4, xi 0, xi 0, xi 0, xi 0, xi 0, xu, xu, xu, xu, xu]) rfl ?_
  exact h
theorem b_Mdl_weave_65 {Ω : Om} {R : Room} {F : QF} {k n : Nat} {σ : Sto} {a0 : Nat} {v1 : Int} {v2 : Int} {v3 : Int} {v4 : Int} {v5 : Int} {v6 : Int} {v7 : Int} {v8 : Int} {v9 : Int} (h : sK σ a0 = 13 ∧ (∃ b2 : Nat, fR σ 774 a0 = some b2 ∧ sK σ b2 = 50 ∧ 0 ≤ v3 ∧ v3 < sZ σ b2 ∧ (Q32 (aI σ b2 (v3).toNat) → Q32 v9 ∧ (((aI σ b2 (v3).toNat) < v9 → Aw Ω M_Mdl_weave R F k n 395 [xr (some a0), xi v1, xi v2, xi v3, xi v4, xi v5, xi v6, xi v7, xi v8, xi v9, xu, xu, xu, xu, xu] [xi v8] σ) ∧ (¬ (aI σ b2 (v3).toNat) < v9 → (Q32 (aI σ b2 (v3).toNat) → ((¬ v9 = (aI σ b2 (v3).toNat) → Aw Ω M_Mdl_weave R F k n 92 [xr (some a0), xi v1, xi v2, xi v3, xi v4, xi v5, xi v6, xi v7, xi v8, xi v9, xu, xu, xu, xu, xu] [xi 0] σ) ∧ (v9 = (aI σ b2 (v3).toNat) → Aw Ω M_Mdl_weave R F k n 92 [xr (some a0), xi v1, xi v2, xi v3, xi v4, xi v5, xi v6, xi v7, xi v8, xi v9, xu, xu, xu, xu, xu] [xi 1] σ)))))))) : Aw Ω M_Mdl_weave R F k n 65 [xr (some a0), xi v1, xi v2, xi v3, xi v4, xi v5, xi v6, xi v7, xi v8, xi v9, xu, xu, xu, xu, xu] [] σ := by
  refine Aw.iload rfl d_Mdl_weave_65 ?_
  refine Aw.aload_n rfl d_Mdl_weave_67 ?_
  obtain ⟨o1, h⟩ := h
  obtain ⟨b2, e3, h⟩ := h
  refine Aw.getRs (f := 774) 12 6 fl_Mdl_20 (by decide) (by decide) rfl rfl o1 e3 d_Mdl_weave_68 ?_
  refine Aw.iload_n rfl d_Mdl_weave_71 ?_
  obtain ⟨o4, h⟩ := h
  obtain ⟨o5, o6, h⟩ := h
  refine Aw.iald o4 o5 o6 d_Mdl_weave_72 (fun r7 => ?_)
  have h := h r7
  obtain ⟨o8, h⟩ := h
  obtain ⟨ht, hf⟩ := h
  refine Aw.icmp_gt (tgt := 393) o8 r7 (by decide) d_Mdl_weave_73 (fun c11 => ?_) (fun c11 => ?_)
  · have h := ht c11
    refine Aw.iload rfl d_Mdl_weave_393 ?_
    exact h
  · have h := hf c11
    refine Aw.iload rfl d_Mdl_weave_76 ?_
    refine Aw.aload_n rfl d_Mdl_weave_78 ?_
    refine Aw.getRs (f := 774) 12 6 fl_Mdl_20 (by decide) (by decide) rfl rfl o1 e3 d_Mdl_weave_79 ?_
    refine Aw.iload_n rfl d_Mdl_weave_82 ?_
    refine Aw.iald o4 o5 o6 d_Mdl_weave_83 (fun r9 => ?_)
    have h := h r9
    obtain ⟨ht, hf⟩ := h
    refine Aw.icmp_ne (tgt := 91) o8 r9 (by decide) d_Mdl_weave_84 (fun c10 => ?_) (fun c10 => ?_)
    · have h := ht c10
      refine Aw.iconst d_Mdl_weave_91 ?_
      exact h
    · have h := hf c10
      refine Aw.iconst d_Mdl_weave_87 ?_
      refine Aw.goto (tgt := 92) (by decide) d_Mdl_weave_88 ?_
      exact h
theorem b_Mdl_weave_92 {Ω : Om} {R : Room} {F : QF} {k n : Nat} {σ : Sto} {a0 : Nat} {v1 : Int} {v2 : Int} {v3 : Int} {v4 : Int} {v5 : Int} {v6 : Int} {v7 : Int} {v8 : Int} {v9 : Int} {s0 : Int} (h : Q32 s0 ∧ ((¬ s0 = (0 : Int) → ((s0 = (0 : Int) → sK σ a0 = 13 ∧ (∃ b3 : Nat, fR σ 814 a0 = some b3 ∧ sK σ b3 = 50 ∧ 0 ≤ v9 ∧ v9 < sZ σ b3 ∧ (Q32 (aI σ b3 (v9).toNat) → ((s0 = (0 : Int) → (∃ b9 : Nat, fR σ 813 a0 = some b9 ∧ sK σ b9 = 50 ∧ 0 ≤ v9 ∧ v9 < sZ σ b9 ∧ (Q32 (aI σ b9 (v9).toNat) → Aw Ω M_Mdl_weave R F k n 178 [xr (some a0), xi v1, xi v2, xi v3, xi v4, xi v5, xi v6, xi v7, xi v8, xi v9, xi s0, xi (aI σ b3 (v9).toNat), xi (aI σ b9 (v9).toNat), xu, xu] [xi v9, xi v5, xi v3, xi (aI σ b3 (v9).toNat), xi v6, xi v1, xr (some a0)] σ))) ∧ (¬ s0 = (0 : Int) → (∃ b15 : Nat, fR σ 774 a0 = some b15 ∧ sK σ b15 = 50 ∧ 0 ≤ v2 ∧ v2 < sZ σ b15 ∧ (Q32 (aI σ b15 (v2).toNat) → Aw Ω M_Mdl_weave R F k n 178 [xr (some a0), xi v1, xi v2, xi v3, xi v4, xi v5, xi v6, xi v7, xi v8, xi v9, xi s0, xi (aI σ b3 (v9).toNat), xi (aI σ b15 (v2).toNat), xu, xu] [xi v9, xi v5, xi v3, xi (aI σ b3 (v9).toNat), xi v6, xi v1, xr (some a0)] σ))))))) ∧ (¬ s0 = (0 : Int) → sK σ a0 = 13 ∧ (∃ b23 : Nat, fR σ 774 a0 = some b23 ∧ sK σ b23 = 50 ∧ 0 ≤ v1 ∧ v1 < sZ σ b23 ∧ (Q32 (aI σ b23 (v1).toNat) → ((s0 = (0 : Int) → (∃ b29 : Nat, fR σ 813 a0 = some b29 ∧ sK σ b29 = 50 ∧ 0 ≤ v9 ∧ v9 < sZ σ b29 ∧ (Q32 (aI σ b29 (v9).toNat) → Aw Ω M_Mdl_weave R F k n 178 [xr (some a0), xi v1, xi v2, xi v3, xi v4, xi v5, xi v6, xi v7, xi v8, xi v9, xi s0, xi (aI σ b23 (v1).toNat), xi (aI σ b29 (v9).toNat), xu, xu] [xi v9, xi v5, xi v3, xi (aI σ b23 (v1).toNat), xi v6, xi v1, xr (some a0)] σ))) ∧ (¬ s0 = (0 : Int) → 0 ≤ v2 ∧ v2 < sZ σ b23 ∧ (Q32 (aI σ b23 (v2).toNat) → Aw Ω M_Mdl_weave R F k n 178 [xr (some a0), xi v1, xi v2, xi v3, xi v4, xi v5, xi v6, xi v7, xi v8, xi v9, xi s0, xi (aI σ b23 (v1).toNat), xi (aI σ b23 (v2).toNat), xu, xu] [xi v9, xi v5, xi v3, xi (aI σ b23 (v1).toNat), xi v6, xi v1, xr (some a0)] σ)))))))) ∧ (s0 = (0 : Int) → sK σ a0 = 13 ∧ (∃ b41 : Nat, fR σ 814 a0 = some b41 ∧ sK σ b41 = 50 ∧ 0 ≤ v9 ∧ v9 < sZ σ b41 ∧ (Q32 (aI σ b41 (v9).toNat) → (((aI σ b41 (v9).toNat) = (-1 : Int) → Aw Ω M_Mdl_weave R F k n 65 [xr (some a0), xi v1, xi v2, xi v3, xi v4, xi v5, xi v6, xi v7, xi v8, xi (v9 + 1), xu, xu, xu, xu, xu] [] σ) ∧ (¬ (aI σ b41 (v9).toNat) = (-1 : Int) → (∃ b47 : Nat, fR σ 813 a0 = some b47 ∧ sK σ b47 = 50 ∧ 0 ≤ v9 ∧ v9 < sZ σ b47 ∧ (Q32 (aI σ b47 (v9).toNat) → (((aI σ b47 (v9).toNat) = (-1 : Int) → Aw Ω M_Mdl_weave R F k n 65 [xr (some a0), xi v1, xi v2, xi v3, xi v4, xi v5, xi v6, xi v7, xi v8, xi (v9 + 1), xu, xu, xu, xu, xu] [] σ) ∧ (¬ (aI σ b47 (v9).toNat) = (-1 : Int) → ((s0 = (0 : Int) → (Q32 (aI σ b41 (v9).toNat) → ((s0 = (0 : Int) → (Q32 (aI σ b47 (v9).toNat) → Aw Ω M_Mdl_weave R F k n 178 [xr (some a0), xi v1, xi v2, xi v3, xi v4, xi v5, xi v6, xi v7, xi v8, xi v9, xi s0, xi (aI σ b41 (v9).toNat), xi (aI σ b47 (v9).toNat), xu, xu] [xi v9, xi v5, xi v3, xi (aI σ b41 (v9).toNat), xi v6, xi v1, xr (some a0)] σ)) ∧ (¬ s0 = (0 : Int) → (∃ b55 : Nat, fR σ 774 a0 = some b55 ∧ sK σ b55 = 50 ∧ 0 ≤ v2 ∧ v2 < sZ σ b55 ∧ (Q32 (aI σ b55 (v2).toNat) → Aw Ω M_Mdl_weave R F k n 178 [xr (some a0), xi v1, xi v2, xi v3, xi v4, xi v5, xi v6, xi v7, xi v8, xi v9, xi s0, xi (aI σ b41 (v9).toNat), xi (aI σ b55 (v2).toNat), xu, xu] [xi v9, xi v5, xi v3, xi (aI σ b41 (v9).toNat), xi v6, xi v1, xr (some a0)] σ)))))) ∧ (¬ s0 = (0 : Int) → (∃ b62 : Nat, fR σ 774 a0 = some b62 ∧ sK σ b62 = 50 ∧ 0 ≤ v1 ∧ v1 < sZ σ b62 ∧ (Q32 (aI σ b62 (v1).toNat) → ((s0 = (0 : Int) → (Q32 (aI σ b47 (v9).toNat) → Aw Ω M_Mdl_weave R F k n 178 [xr (some a0), xi v1, xi v2, xi v3, xi v4, xi v5, xi v6, xi v7, xi v8, xi v9, xi s0, xi (aI σ b62 (v1).toNat), xi (aI σ b47 (v9).toNat), xu, xu] [xi v9, xi v5, xi v3, xi (aI σ b62 (v1).toNat), xi v6, xi v1, xr (some a0)] σ)) ∧ (¬ s0 = (0 : Int) → 0 ≤ v2 ∧ v2 < sZ σ b62 ∧ (Q32 (aI σ b62 (v2).toNat) → Aw Ω M_Mdl_weave R F k n 178 [xr (some a0), xi v1, xi v2, xi v3, xi v4, xi v5, xi v6, xi v7, xi v8, xi v9, xi s0, xi (aI σ b62 (v1).toNat), xi (aI σ b62 (v2).toNat), xu, xu] [xi v9, xi v5, xi v3, xi (aI σ b62 (v1).toNat), xi v6, xi v1, xr (some a0)] σ)))))))))))))))))) : Aw Ω M_Mdl_weave R F k n 92 [xr (some a0), xi v1, xi v2, xi v3, xi v4, xi v5, xi v6, xi v7, xi v8, xi v9, xu, xu, xu, xu, xu] [xi s0] σ := by
  refine Aw.istore (by decide) d_Mdl_weave_92 ?_
  refine Aw.toL (L' := [xr (some a0), xi v1, xi v2, xi v3, xi v4, xi v5, xi v6, xi v7, xi v8, xi v9, xi s0, xu, xu, xu, xu]) rfl ?_
  refine Aw.iload rfl d_Mdl_weave_94 ?_
  obtain ⟨o1, h⟩ := h
  obtain ⟨ht, hf⟩ := h
  refine Aw.if_ne (tgt := 121) o1 (by decide) d_Mdl_weave_96 (fun c76 => ?_) (fun c76 => ?_)
  · have h := ht c76
    refine Aw.iload rfl d_Mdl_weave_121 ?_
    obtain ⟨ht, hf⟩ := h
    refine Aw.if_eq (tgt := 135) o1 (by decide) d_Mdl_weave_123 (fun c39 => ?_) (fun c39 => ?_)
    · have h := ht c39
      refine Aw.aload_n rfl d_Mdl_weave_135 ?_
      obtain ⟨o2, h⟩ := h
      obtain ⟨b3, e4, h⟩ := h
      refine Aw.getRs (f := 814) 12 46 fl_Mdl_102 (by decide) (by decide) rfl rfl o2 e4 d_Mdl_weave_136 ?_
      refine Aw.iload rfl d_Mdl_weave_139 ?_
      obtain ⟨o5, h⟩ := h
      obtain ⟨o6, o7, h⟩ := h
      refine Aw.iald o5 o6 o7 d_Mdl_weave_141 (fun r8 => ?_)
      have h := h r8
      refine Aw.istore (by decide) d_Mdl_weave_142 ?_
      refine Aw.toL (L' := [xr (some a0), xi v1, xi v2, xi v3, xi v4, xi v5, xi v6, xi v7, xi v8, xi v9, xi s0, xi (aI σ b3 (v9).toNat), xu, xu, xu]) rfl ?_
      refine Aw.iload rfl d_Mdl_weave_144 ?_
      obtain ⟨ht, hf⟩ := h
      refine Aw.if_eq (tgt := 158) o1 (by decide) d_Mdl_weave_146 (fun c21 => ?_) (fun c21 => ?_)
      · have h := ht c21
        refine Aw.aload_n rfl d_Mdl_weave_158 ?_
        obtain ⟨b9, e10, h⟩ := h
        refine Aw.getRs (f := 813) 12 45 fl_Mdl_99 (by decide) (by decide) rfl rfl o2 e10 d_Mdl_weave_159 ?_
        refine Aw.iload rfl d_Mdl_weave_162 ?_
        obtain ⟨o11, h⟩ := h
        obtain ⟨o12, o13, h⟩ := h
        refine Aw.iald o11 o12 o13 d_Mdl_weave_164 (fun r14 => ?_)
        have h := h r14
        refine Aw.istore (by decide) d_Mdl_weave_165 ?_
        refine Aw.toL (L' := [xr (some a0), xi v1, xi v2, xi v3, xi v4, xi v5, xi v6, xi v7, xi v8, xi v9, xi s0, xi (aI σ b3 (v9).toNat), xi (aI σ b9 (v9).toNat), xu, xu]) rfl ?_
        refine Aw.aload_n rfl d_Mdl_weave_167 ?_
        refine Aw.iload_n rfl d_Mdl_weave_168 ?_
        refine Aw.iload rfl d_Mdl_weave_169 ?_
        refine Aw.iload rfl d_Mdl_weave_171 ?_
        refine Aw.iload_n rfl d_Mdl_weave_173 ?_
        refine Aw.iload rfl d_Mdl_weave_174 ?_
        refine Aw.iload rfl d_Mdl_weave_176 ?_
        exact h
      · have h := hf c21
        refine Aw.aload_n rfl d_Mdl_weave_149 ?_
        obtain ⟨b15, e16, h⟩ := h
        refine Aw.getRs (f := 774) 12 6 fl_Mdl_20 (by decide) (by decide) rfl rfl o2 e16 d_Mdl_weave_150 ?_
        refine Aw.iload_n rfl d_Mdl_weave_153 ?_
        obtain ⟨o17, h⟩ := h
        obtain ⟨o18, o19, h⟩ := h
        refine Aw.iald o17 o18 o19 d_Mdl_weave_154 (fun r20 => ?_)
        have h := h r20
        refine Aw.goto (tgt := 165) (by decide) d_Mdl_weave_155 ?_
        refine Aw.istore (by decide) d_Mdl_weave_165 ?_
        refine Aw.toL (L' := [xr (some a0), xi v1, xi v2, xi v3, xi v4, xi v5, xi v6, xi v7, xi v8, xi v9, xi s0, xi (aI σ b3 (v9).toNat), xi (aI σ b15 (v2).toNat), xu, xu]) rfl ?_
        refine Aw.aload_n rfl d_Mdl_weave_167 ?_
        refine Aw.iload_n rfl d_Mdl_weave_168 ?_
        refine Aw.iload rfl d_Mdl_weave_169 ?_
        refine Aw.iload rfl d_Mdl_weave_171 ?_
        refine Aw.iload_n rfl d_Mdl_weave_173 ?_
        refine Aw.iload rfl d_Mdl_weave_174 ?_
        refine Aw.iload rfl d_Mdl_weave_176 ?_
        exact h
    · have h := hf c39
      refine Aw.aload_n rfl d_Mdl_weave_126 ?_
      obtain ⟨o22, h⟩ := h
      obtain ⟨b23, e24, h⟩ := h
      refine Aw.getRs (f := 774) 12 6 fl_Mdl_20 (by decide) (by decide) rfl rfl o22 e24 d_Mdl_weave_127 ?_
      refine Aw.iload_n rfl d_Mdl_weave_130 ?_
      obtain ⟨o25, h⟩ := h
      obtain ⟨o26, o27, h⟩ := h
      refine Aw.iald o25 o26 o27 d_Mdl_weave_131 (fun r28 => ?_)
      have h := h r28
      refine Aw.goto (tgt := 142) (by decide) d_Mdl_weave_132 ?_
      refine Aw.istore (by decide) d_Mdl_weave_142 ?_
      refine Aw.toL (L' := [xr (some a0), xi v1, xi v2, xi v3, xi v4, xi v5, xi v6, xi v7, xi v8, xi v9, xi s0, xi (aI σ b23 (v1).toNat), xu, xu, xu]) rfl ?_
      refine Aw.iload rfl d_Mdl_weave_144 ?_
      obtain ⟨ht, hf⟩ := h
      refine Aw.if_eq (tgt := 158) o1 (by decide) d_Mdl_weave_146 (fun c38 => ?_) (fun c38 => ?_)
      · have h := ht c38
        refine Aw.aload_n rfl d_Mdl_weave_158 ?_
        obtain ⟨b29, e30, h⟩ := h
        refine Aw.getRs (f := 813) 12 45 fl_Mdl_99 (by decide) (by decide) rfl rfl o22 e30 d_Mdl_weave_159 ?_
        refine Aw.iload rfl d_Mdl_weave_162 ?_
        obtain ⟨o31, h⟩ := h
        obtain ⟨o32, o33, h⟩ := h
        refine Aw.iald o31 o32 o33 d_Mdl_weave_164 (fun r34 => ?_)
        have h := h r34
        refine Aw.istore (by decide) d_Mdl_weave_165 ?_
        refine Aw.toL (L' := [xr (some a0), xi v1, xi v2, xi v3, xi v4, xi v5, xi v6, xi v7, xi v8, xi v9, xi s0, xi (aI σ b23 (v1).toNat), xi (aI σ b29 (v9).toNat), xu, xu]) rfl ?_
        refine Aw.aload_n rfl d_Mdl_weave_167 ?_
        refine Aw.iload_n rfl d_Mdl_weave_168 ?_
        refine Aw.iload rfl d_Mdl_weave_169 ?_
        refine Aw.iload rfl d_Mdl_weave_171 ?_
        refine Aw.iload_n rfl d_Mdl_weave_173 ?_
        refine Aw.iload rfl d_Mdl_weave_174 ?_
        refine Aw.iload rfl d_Mdl_weave_176 ?_
        exact h
      · have h := hf c38
        refine Aw.aload_n rfl d_Mdl_weave_149 ?_
        refine Aw.getRs (f := 774) 12 6 fl_Mdl_20 (by decide) (by decide) rfl rfl o22 e24 d_Mdl_weave_150 ?_
        refine Aw.iload_n rfl d_Mdl_weave_153 ?_
        obtain ⟨o35, o36, h⟩ := h
        refine Aw.iald o25 o35 o36 d_Mdl_weave_154 (fun r37 => ?_)
        have h := h r37
        refine Aw.goto (tgt := 165) (by decide) d_Mdl_weave_155 ?_
        refine Aw.istore (by decide) d_Mdl_weave_165 ?_
        refine Aw.toL (L' := [xr (some a0), xi v1, xi v2, xi v3, xi v4, xi v5, xi v6, xi v7, xi v8, xi v9, xi s0, xi (aI σ b23 (v1).toNat), xi (aI σ b23 (v2).toNat), xu, xu]) rfl ?_
        refine Aw.aload_n rfl d_Mdl_weave_167 ?_
        refine Aw.iload_n rfl d_Mdl_weave_168 ?_
        refine Aw.iload rfl d_Mdl_weave_169 ?_
        refine Aw.iload rfl d_Mdl_weave_171 ?_
        refine Aw.iload_n rfl d_Mdl_weave_173 ?_
        refine Aw.iload rfl d_Mdl_weave_174 ?_
        refine Aw.iload rfl d_Mdl_weave_176 ?_
        exact h
  · have h := hf c76
    refine Aw.aload_n rfl d_Mdl_weave_99 ?_
    obtain ⟨o40, h⟩ := h
    obtain ⟨b41, e42, h⟩ := h
    refine Aw.getRs (f := 814) 12 46 fl_Mdl_102 (by decide) (by decide) rfl rfl o40 e42 d_Mdl_weave_100 ?_
    refine Aw.iload rfl d_Mdl_weave_103 ?_
    obtain ⟨o43, h⟩ := h
    obtain ⟨o44, o45, h⟩ := h
    refine Aw.iald o43 o44 o45 d_Mdl_weave_105 (fun r46 => ?_)
    have h := h r46
    refine Aw.iconst d_Mdl_weave_106 ?_
    obtain ⟨ht, hf⟩ := h
    refine Aw.icmp_eq (tgt := 387) r46 ⟨by decide, by decide⟩ (by decide) d_Mdl_weave_107 (fun c75 => ?_) (fun c75 => ?_)
    · have h := ht c75
      refine Aw.iinc rfl d_Mdl_weave_387 ?_
      refine Aw.toL (L' := [xr (some a0), xi v1, xi v2, xi v3, xi v4, xi v5, xi v6, xi v7, xi v8, xi (v9 + 1), xi s0, xu, xu, xu, xu]) rfl ?_
      refine Aw.goto (tgt := 65) (by decide) d_Mdl_weave_390 ?_
      exact Aw.toW (L' := [xr (some a0), xi v1, xi v2, xi v3, xi v4, xi v5, xi v6, xi v7, xi v8, xi (v9 + 1), xu, xu, xu, xu, xu]) ⟨Or.inr rfl, Or.inr rfl, Or.inr rfl, Or.inr rfl, Or.inr rfl, Or.inr rfl, Or.inr rfl, Or.inr rfl, Or.inr rfl, Or.inr rfl, Or.inl rfl, Or.inr rfl, Or.inr rfl, Or.inr rfl, Or.inr rfl, trivial⟩ h
    · have h := hf c75
      refine Aw.aload_n rfl d_Mdl_weave_110 ?_
      obtain ⟨b47, e48, h⟩ := h
      refine Aw.getRs (f := 813) 12 45 fl_Mdl_99 (by decide) (by decide) rfl rfl o40 e48 d_Mdl_weave_111 ?_
      refine Aw.iload rfl d_Mdl_weave_114 ?_
      obtain ⟨o49, h⟩ := h
      obtain ⟨o50, o51, h⟩ := h
      refine Aw.iald o49 o50 o51 d_Mdl_weave_116 (fun r52 => ?_)
      have h := h r52
      refine Aw.iconst d_Mdl_weave_117 ?_
      obtain ⟨ht, hf⟩ := h
      refine Aw.icmp_eq (tgt := 387) r52 ⟨by decide, by decide⟩ (by decide) d_Mdl_weave_118 (fun c74 => ?_) (fun c74 => ?_)
      · have h := ht c74
        refine Aw.iinc rfl d_Mdl_weave_387 ?_
        refine Aw.toL (L' := [xr (some a0), xi v1, xi v2, xi v3, xi v4, xi v5, xi v6, xi v7, xi v8, xi (v9 + 1), xi s0, xu, xu, xu, xu]) rfl ?_
        refine Aw.goto (tgt := 65) (by decide) d_Mdl_weave_390 ?_
        exact Aw.toW (L' := [xr (some a0), xi v1, xi v2, xi v3, xi v4, xi v5, xi v6, xi v7, xi v8, xi (v9 + 1), xu, xu, xu, xu, xu]) ⟨Or.inr rfl, Or.inr rfl, Or.inr rfl, Or.inr rfl, Or.inr rfl, Or.inr rfl, Or.inr rfl, Or.inr rfl, Or.inr rfl, Or.inr rfl, Or.inl rfl, Or.inr rfl, Or.inr rfl, Or.inr rfl, Or.inr rfl, trivial⟩ h
      · have h := hf c74
        refine Aw.iload rfl d_Mdl_weave_121 ?_
        obtain ⟨ht, hf⟩ := h
        refine Aw.if_eq (tgt := 135) o1 (by decide) d_Mdl_weave_123 (fun c73 => ?_) (fun c73 => ?_)
        · have h := ht c73
          refine Aw.aload_n rfl d_Mdl_weave_135 ?_
          refine Aw.getRs (f := 814) 12 46 fl_Mdl_102 (by decide) (by decide) rfl rfl o40 e42 d_Mdl_weave_136 ?_
          refine Aw.iload rfl d_Mdl_weave_139 ?_
          refine Aw.iald o43 o44 o45 d_Mdl_weave_141 (fun r53 => ?_)
          have h := h r53
          refine Aw.istore (by decide) d_Mdl_weave_142 ?_
          refine Aw.toL (L' := [xr (some a0), xi v1, xi v2, xi v3, xi v4, xi v5, xi v6, xi v7, xi v8, xi v9, xi s0, xi (aI σ b41 (v9).toNat), xu, xu, xu]) rfl ?_
          refine Aw.iload rfl d_Mdl_weave_144 ?_
          obtain ⟨ht, hf⟩ := h
          refine Aw.if_eq (tgt := 158) o1 (by decide) d_Mdl_weave_146 (fun c61 => ?_) (fun c61 => ?_)
          · have h := ht c61
            refine Aw.aload_n rfl d_Mdl_weave_158 ?_
            refine Aw.getRs (f := 813) 12 45 fl_Mdl_99 (by decide) (by decide) rfl rfl o40 e48 d_Mdl_weave_159 ?_
            refine Aw.iload rfl d_Mdl_weave_162 ?_
            refine Aw.iald o49 o50 o51 d_Mdl_weave_164 (fun r54 => ?_)
            have h := h r54
            refine Aw.istore (by decide) d_Mdl_weave_165 ?_
            refine Aw.toL (L' := [xr (some a0), xi v1, xi v2, xi v3, xi v4, xi v5, xi v6, xi v7, xi v8, xi v9, xi s0, xi (aI σ b41 (v9).toNat), xi (aI σ b47 (v9).toNat), xu, xu]) rfl ?_
            refine Aw.aload_n rfl d_Mdl_weave_167 ?_
            refine Aw.iload_n rfl d_Mdl_weave_168 ?_
            refine Aw.iload rfl d_Mdl_weave_169 ?_
            refine Aw.iload rfl d_Mdl_weave_171 ?_
            refine Aw.iload_n rfl d_Mdl_weave_173 ?_
            refine Aw.iload rfl d_Mdl_weave_174 ?_
            refine Aw.iload rfl d_Mdl_weave_176 ?_
            exact h
          · have h := hf c61
            refine Aw.aload_n rfl d_Mdl_weave_149 ?_
            obtain ⟨b55, e56, h⟩ := h
            refine Aw.getRs (f := 774) 12 6 fl_Mdl_20 (by decide) (by decide) rfl rfl o40 e56 d_Mdl_weave_150 ?_
            refine Aw.iload_n rfl d_Mdl_weave_153 ?_
            obtain ⟨o57, h⟩ := h
            obtain ⟨o58, o59, h⟩ := h
            refine Aw.iald o57 o58 o59 d_Mdl_weave_154 (fun r60 => ?_)
            have h := h r60
            refine Aw.goto (tgt := 165) (by decide) d_Mdl_weave_155 ?_
            refine Aw.istore (by decide) d_Mdl_weave_165 ?_
            refine Aw.toL (L' := [xr (some a0), xi v1, xi v2, xi v3, xi v4, xi v5, xi v6, xi v7, xi v8, xi v9, xi s0, xi (aI σ b41 (v9).toNat), xi (aI σ b55 (v2).toNat), xu, xu]) rfl ?_
            refine Aw.aload_n rfl d_Mdl_weave_167 ?_
            refine Aw.iload_n rfl d_Mdl_weave_168 ?_
            refine Aw.iload rfl d_Mdl_weave_169 ?_
            refine Aw.iload rfl d_Mdl_weave_171 ?_
            refine Aw.iload_n rfl d_Mdl_weave_173 ?_
            refine Aw.iload rfl d_Mdl_weave_174 ?_
            refine Aw.iload rfl d_Mdl_weave_176 ?_
            exact h
        · have h := hf c73
          refine Aw.aload_n rfl d_Mdl_weave_126 ?_
          obtain ⟨b62, e63, h⟩ := h
          refine Aw.getRs (f := 774) 12 6 fl_Mdl_20 (by decide) (by decide) rfl rfl o40 e63 d_Mdl_weave_127 ?_
          refine Aw.iload_n rfl d_Mdl_weave_130 ?_
          obtain ⟨o64, h⟩ := h
          obtain ⟨o65, o66, h⟩ := h
          refine Aw.iald o64 o65 o66 d_Mdl_weave_131 (fun r67 => ?_)
          have h := h r67
          refine Aw.goto (tgt := 142) (by decide) d_Mdl_weave_132 ?_
          refine Aw.istore (by decide) d_Mdl_weave_142 ?_
          refine Aw.toL (L' := [xr (some a0), xi v1, xi v2, xi v3, xi v4, xi v5, xi v6, xi v7, xi v8, xi v9, xi s0, xi (aI σ b62 (v1).toNat), xu, xu, xu]) rfl ?_
          refine Aw.iload rfl d_Mdl_weave_144 ?_
          obtain ⟨ht, hf⟩ := h
          refine Aw.if_eq (tgt := 158) o1 (by decide) d_Mdl_weave_146 (fun c72 => ?_) (fun c72 => ?_)
          · have h := ht c72
            refine Aw.aload_n rfl d_Mdl_weave_158 ?_
            refine Aw.getRs (f := 813) 12 45 fl_Mdl_99 (by decide) (by decide) rfl rfl o40 e48 d_Mdl_weave_159 ?_
            refine Aw.iload rfl d_Mdl_weave_162 ?_
            refine Aw.iald o49 o50 o51 d_Mdl_weave_164 (fun r68 => ?_)
            have h := h r68
            refine Aw.istore (by decide) d_Mdl_weave_165 ?_
            refine Aw.toL (L' := [xr (some a0), xi v1, xi v2, xi v3, xi v4, xi v5, xi v6, xi v7, xi v8, xi v9, xi s0, xi (aI σ b62 (v1).toNat), xi (aI σ b47 (v9).toNat), xu, xu]) rfl ?_
            refine Aw.aload_n rfl d_Mdl_weave_167 ?_
            refine Aw.iload_n rfl d_Mdl_weave_168 ?_
            refine Aw.iload rfl d_Mdl_weave_169 ?_
            refine Aw.iload rfl d_Mdl_weave_171 ?_
            refine Aw.iload_n rfl d_Mdl_weave_173 ?_
            refine Aw.iload rfl d_Mdl_weave_174 ?_
            refine Aw.iload rfl d_Mdl_weave_176 ?_
            exact h
          · have h := hf c72
            refine Aw.aload_n rfl d_Mdl_weave_149 ?_
            refine Aw.getRs (f := 774) 12 6 fl_Mdl_20 (by decide) (by decide) rfl rfl o40 e63 d_Mdl_weave_150 ?_
            refine Aw.iload_n rfl d_Mdl_weave_153 ?_
            obtain ⟨o69, o70, h⟩ := h
            refine Aw.iald o64 o69 o70 d_Mdl_weave_154 (fun r71 => ?_)
            have h := h r71
            refine Aw.goto (tgt := 165) (by decide) d_Mdl_weave_155 ?_
            refine Aw.istore (by decide) d_Mdl_weave_165 ?_
            refine Aw.toL (L' := [xr (some a0), xi v1, xi v2, xi v3, xi v4, xi v5, xi v6, xi v7, xi v8, xi v9, xi s0, xi (aI σ b62 (v1).toNat), xi (aI σ b62 (v2).toNat), xu, xu]) rfl ?_
            refine Aw.aload_n rfl d_Mdl_weave_167 ?_
            refine Aw.iload_n rfl d_Mdl_weave_168 ?_
            refine Aw.iload rfl d_Mdl_weave_169 ?_
            refine Aw.iload rfl d_Mdl_weave_171 ?_
            refine Aw.iload_n rfl d_Mdl_weave_173 ?_
            refine Aw.iload rfl d_Mdl_weave_174 ?_
            refine Aw.iload rfl d_Mdl_weave_176 ?_
            exact h
theorem b_Mdl_weave_181 {Ω : Om} {R : Room} {F : QF} {k n : Nat} {σ : Sto} {a0 : Nat} {v1 : Int} {v2 : Int} {v3 : Int} {v4 : Int} {v5 : Int} {v6 : Int} {v7 : Int} {v8 : Int} {v9 : Int} {v10 : Int} {v11 : Int} {v12 : Int} {s0 : Int} (h : Aw Ω M_Mdl_weave R F k n 194 [xr (some a0), xi v1, xi v2, xi v3, xi v4, xi v5, xi v6, xi v7, xi v8, xi v9, xi v10, xi v11, xi v12, xi s0, xu] [xi v9, xi v5, xi v3, xi v12, xi v7, xi v2, xr (some a0)] σ) : Aw Ω M_Mdl_weave R F k n 181 [xr (some a0), xi v1, xi v2, xi v3, xi v4, xi v5, xi v6, xi v7, xi v8, xi v9, xi v10, xi v11, xi v12, xu, xu] [xi s0] σ := by
  refine Aw.istore (by decide) d_Mdl_weave_181 ?_
  refine Aw.toL (L' := [xr (some a0), xi v1, xi v2, xi v3, xi v4, xi v5, xi v6, xi v7, xi v8, xi v9, xi v10, xi v11, xi v12, xi s0, xu]) rfl ?_
  refine Aw.aload_n rfl d_Mdl_weave_183 ?_
  refine Aw.iload_n rfl d_Mdl_weave_184 ?_
  refine Aw.iload rfl d_Mdl_weave_185 ?_
  refine Aw.iload rfl d_Mdl_weave_187 ?_
  refine Aw.iload_n rfl d_Mdl_weave_189 ?_
  refine Aw.iload rfl d_Mdl_weave_190 ?_
  refine Aw.iload rfl d_Mdl_weave_192 ?_
  exact h
theorem b_Mdl_weave_197 {Ω : Om} {R : Room} {F : QF} {k n : Nat} {σ : Sto} {a0 : Nat} {v1 : Int} {v2 : Int} {v3 : Int} {v4 : Int} {v5 : Int} {v6 : Int} {v7 : Int} {v8 : Int} {v9 : Int} {v10 : Int} {v11 : Int} {v12 : Int} {v13 : Int} {s0 : Int} (h : Q32 s0 ∧ ((¬ s0 = (0 : Int) → Q32 v13 ∧ ((v13 = (0 : Int) → Aw Ω M_Mdl_weave R F k n 263 [xr (some a0), xi v1, xi v2, xi v3, xi v4, xi v5, xi v6, xi v7, xi v8, xi v9, xi v10, xi v11, xi v12, xi v13, xi 1] [xi v4, xi v11, xi v6, xi v1, xr (some a0), xi v8] σ) ∧ (¬ v13 = (0 : Int) → Aw Ω M_Mdl_weave R F k n 239 [xr (some a0), xi v1, xi v2, xi v3, xi v4, xi v5, xi v6, xi v7, xi v8, xi v9, xi v10, xi v11, xi v12, xi v13, xi 1] [xi v4, xi v12, xi v7, xi v2, xr (some a0), xi v8] σ))) ∧ (s0 = (0 : Int) → Aw Ω M_Mdl_weave R F k n 211 [xr (some a0), xi v1, xi v2, xi v3, xi v4, xi v5, xi v6, xi v7, xi v8, xi v9, xi v10, xi v11, xi v12, xi v13, xu] [xi v11, xi v6, xi v1, xi v12, xi v7, xi v2, xr (some a0)] σ))) : Aw Ω M_Mdl_weave R F k n 197 [xr (some a0), xi v1, xi v2, xi v3, xi v4, xi v5, xi v6, xi v7, xi v8, xi v9, xi v10, xi v11, xi v12, xi v13, xu] [xi s0] σ := by
  obtain ⟨o1, h⟩ := h
  obtain ⟨ht, hf⟩ := h
  refine Aw.if_ne (tgt := 217) o1 (by decide) d_Mdl_weave_197 (fun c5 => ?_) (fun c5 => ?_)
  · have h := ht c5
    refine Aw.iconst d_Mdl_weave_217 ?_
    refine Aw.goto (tgt := 222) (by decide) d_Mdl_weave_218 ?_
    refine Aw.istore (by decide) d_Mdl_weave_222 ?_
    refine Aw.toL (L' := [xr (some a0), xi v1, xi v2, xi v3, xi v4, xi v5, xi v6, xi v7, xi v8, xi v9, xi v10, xi v11, xi v12, xi v13, xi 1]) rfl ?_
    refine Aw.iload rfl d_Mdl_weave_224 ?_
    obtain ⟨o2, h⟩ := h
    obtain ⟨ht, hf⟩ := h
    refine Aw.if_eq (tgt := 248) o2 (by decide) d_Mdl_weave_226 (fun c4 => ?_) (fun c4 => ?_)
    · have h := ht c4
      refine Aw.iload rfl d_Mdl_weave_248 ?_
      refine Aw.if_eq (tgt := 272) ⟨by decide, by decide⟩ (by decide) d_Mdl_weave_250 (fun c3 => absurd c3 (by decide)) (fun c3 => ?_)
      refine Aw.iload rfl d_Mdl_weave_253 ?_
      refine Aw.aload_n rfl d_Mdl_weave_255 ?_
      refine Aw.iload_n rfl d_Mdl_weave_256 ?_
      refine Aw.iload rfl d_Mdl_weave_257 ?_
      refine Aw.iload rfl d_Mdl_weave_259 ?_
      refine Aw.iload rfl d_Mdl_weave_261 ?_
      exact h
    · have h := hf c4
      refine Aw.iload rfl d_Mdl_weave_229 ?_
      refine Aw.aload_n rfl d_Mdl_weave_231 ?_
      refine Aw.iload_n rfl d_Mdl_weave_232 ?_
      refine Aw.iload rfl d_Mdl_weave_233 ?_
      refine Aw.iload rfl d_Mdl_weave_235 ?_
      refine Aw.iload rfl d_Mdl_weave_237 ?_
      exact h
  · have h := hf c5
    refine Aw.aload_n rfl d_Mdl_weave_200 ?_
    refine Aw.iload_n rfl d_Mdl_weave_201 ?_
    refine Aw.iload rfl d_Mdl_weave_202 ?_
    refine Aw.iload rfl d_Mdl_weave_204 ?_
    refine Aw.iload_n rfl d_Mdl_weave_206 ?_
    refine Aw.iload rfl d_Mdl_weave_207 ?_
    refine Aw.iload rfl d_Mdl_weave_209 ?_
    exact h
theorem b_Mdl_weave_214 {Ω : Om} {R : Room} {F : QF} {k n : Nat} {σ : Sto} {a0 : Nat} {v1 : Int} {v2 : Int} {v3 : Int} {v4 : Int} {v5 : Int} {v6 : Int} {v7 : Int} {v8 : Int} {v9 : Int} {v10 : Int} {v11 : Int} {v12 : Int} {v13 : Int} {s0 : Int} (h : Q32 s0 ∧ ((s0 = (0 : Int) → Q32 v13 ∧ ((v13 = (0 : Int) → Q32 v4 ∧ ((v4 = (0 : Int) → Q32 v10 ∧ ((v10 = (0 : Int) → Aw Ω M_Mdl_weave R F k n 363 [xr (some a0), xi v1, xi v2, xi v3, xi v4, xi v5, xi v6, xi v7, xi v8, xi v9, xi v10, xi v11, xi v12, xi v13, xi 0] [xi v4, xi (v11 + 1), xi v11, xi v1, xr (some a0), xi v8] σ) ∧ (¬ v10 = (0 : Int) → Aw Ω M_Mdl_weave R F k n 65 [xr (some a0), xi v1, xi v2, xi v3, xi v4, xi (v9 + 1), xi (v11 + 1), xi (v12 + 1), xi (v8 + 0), xi (v9 + 1), xu, xu, xu, xu, xu] [] σ))) ∧ (¬ v4 = (0 : Int) → Aw Ω M_Mdl_weave R F k n 284 [xr (some a0), xi v1, xi v2, xi v3, xi v4, xi v5, xi v6, xi v7, xi v8, xi v9, xi v10, xi v11, xi v12, xi v13, xi 0] [xi v11, xi v6, xi v1, xi 0, xr (some a0)] σ))) ∧ (¬ v13 = (0 : Int) → Aw Ω M_Mdl_weave R F k n 239 [xr (some a0), xi v1, xi v2, xi v3, xi v4, xi v5, xi v6, xi v7, xi v8, xi v9, xi v10, xi v11, xi v12, xi v13, xi 0] [xi v4, xi v12, xi v7, xi v2, xr (some a0), xi v8] σ))) ∧ (¬ s0 = (0 : Int) → Q32 v13 ∧ ((v13 = (0 : Int) → Aw Ω M_Mdl_weave R F k n 263 [xr (some a0), xi v1, xi v2, xi v3, xi v4, xi v5, xi v6, xi v7, xi v8, xi v9, xi v10, xi v11, xi v12, xi v13, xi 1] [xi v4, xi v11, xi v6, xi v1, xr (some a0), xi v8] σ) ∧ (¬ v13 = (0 : Int) → Aw Ω M_Mdl_weave R F k n 239 [xr (some a0), xi v1, xi v2, xi v3, xi v4, xi v5, xi v6, xi v7, xi v8, xi v9, xi v10, xi v11, xi v12, xi v13, xi 1] [xi v4, xi v12, xi v7, xi v2, xr (some a0), xi v8] σ))))) : Aw Ω M_Mdl_weave R F k n 214 [xr (some a0), xi v1, xi v2, xi v3, xi v4, xi v5, xi v6, xi v7, xi v8, xi v9, xi v10, xi v11, xi v12, xi v13, xu] [xi s0] σ := by
  obtain ⟨o1, h⟩ := h
  obtain ⟨ht, hf⟩ := h
  refine Aw.if_eq (tgt := 221) o1 (by decide) d_Mdl_weave_214 (fun c12 => ?_) (fun c12 => ?_)
  · have h := ht c12
    refine Aw.iconst d_Mdl_weave_221 ?_
    refine Aw.istore (by decide) d_Mdl_weave_222 ?_
    refine Aw.toL (L' := [xr (some a0), xi v1, xi v2, xi v3, xi v4, xi v5, xi v6, xi v7, xi v8, xi v9, xi v10, xi v11, xi v12, xi v13, xi 0]) rfl ?_
    refine Aw.iload rfl d_Mdl_weave_224 ?_
    obtain ⟨o2, h⟩ := h
    obtain ⟨ht, hf⟩ := h
    refine Aw.if_eq (tgt := 248) o2 (by decide) d_Mdl_weave_226 (fun c8 => ?_) (fun c8 => ?_)
    · have h := ht c8
      refine Aw.iload rfl d_Mdl_weave_248 ?_
      refine Aw.if_eq (tgt := 272) ⟨by decide, by decide⟩ (by decide) d_Mdl_weave_250 (fun c7 => ?_) (fun c7 => absurd c7 (by decide))
      refine Aw.iload rfl d_Mdl_weave_272 ?_
      obtain ⟨o3, h⟩ := h
      obtain ⟨ht, hf⟩ := h
      refine Aw.if_eq (tgt := 342) o3 (by decide) d_Mdl_weave_274 (fun c6 => ?_) (fun c6 => ?_)
      · have h := ht c6
        refine Aw.iload rfl d_Mdl_weave_342 ?_
        refine Aw.iload rfl d_Mdl_weave_344 ?_
        obtain ⟨o4, h⟩ := h
        obtain ⟨ht, hf⟩ := h
        refine Aw.if_eq (tgt := 353) o4 (by decide) d_Mdl_weave_346 (fun c5 => ?_) (fun c5 => ?_)
        · have h := ht c5
          refine Aw.aload_n rfl d_Mdl_weave_353 ?_
          refine Aw.iload_n rfl d_Mdl_weave_354 ?_
          refine Aw.iload rfl d_Mdl_weave_355 ?_
          refine Aw.iload rfl d_Mdl_weave_357 ?_
          refine Aw.iconst d_Mdl_weave_359 ?_
          refine Aw.iadd d_Mdl_weave_360 ?_
          refine Aw.iload rfl d_Mdl_weave_361 ?_
          exact h
        · have h := hf c5
          refine Aw.iconst d_Mdl_weave_349 ?_
          refine Aw.goto (tgt := 366) (by decide) d_Mdl_weave_350 ?_
          refine Aw.iadd d_Mdl_weave_366 ?_
          refine Aw.istore (by decide) d_Mdl_weave_367 ?_
          refine Aw.toL (L' := [xr (some a0), xi v1, xi v2, xi v3, xi v4, xi v5, xi v6, xi v7, xi (v8 + 0), xi v9, xi v10, xi v11, xi v12, xi v13, xi 0]) rfl ?_
          refine Aw.iload rfl d_Mdl_weave_369 ?_
          refine Aw.iconst d_Mdl_weave_371 ?_
          refine Aw.iadd d_Mdl_weave_372 ?_
          refine Aw.istore (by decide) d_Mdl_weave_373 ?_
          refine Aw.toL (L' := [xr (some a0), xi v1, xi v2, xi v3, xi v4, xi (v9 + 1), xi v6, xi v7, xi (v8 + 0), xi v9, xi v10, xi v11, xi v12, xi v13, xi 0]) rfl ?_
          refine Aw.iload rfl d_Mdl_weave_375 ?_
          refine Aw.iconst d_Mdl_weave_377 ?_
          refine Aw.iadd d_Mdl_weave_378 ?_
          refine Aw.istore (by decide) d_Mdl_weave_379 ?_
          refine Aw.toL (L' := [xr (some a0), xi v1, xi v2, xi v3, xi v4, xi (v9 + 1), xi (v11 + 1), xi v7, xi (v8 + 0), xi v9, xi v10, xi v11, xi v12, xi v13, xi 0]) rfl ?_
          refine Aw.iload rfl d_Mdl_weave_381 ?_
          refine Aw.iconst d_Mdl_weave_383 ?_
          refine Aw.iadd d_Mdl_weave_384 ?_
          refine Aw.istore (by decide) d_Mdl_weave_385 ?_
          refine Aw.toL (L' := [xr (some a0), xi v1, xi v2, xi v3, xi v4, xi (v9 + 1), xi (v11 + 1), xi (v12 + 1), xi (v8 + 0), xi v9, xi v10, xi v11, xi v12, xi v13, xi 0]) rfl ?_
          refine Aw.iinc rfl d_Mdl_weave_387 ?_
          refine Aw.toL (L' := [xr (some a0), xi v1, xi v2, xi v3, xi v4, xi (v9 + 1), xi (v11 + 1), xi (v12 + 1), xi (v8 + 0), xi (v9 + 1), xi v10, xi v11, xi v12, xi v13, xi 0]) rfl ?_
          refine Aw.goto (tgt := 65) (by decide) d_Mdl_weave_390 ?_
          exact Aw.toW (L' := [xr (some a0), xi v1, xi v2, xi v3, xi v4, xi (v9 + 1), xi (v11 + 1), xi (v12 + 1), xi (v8 + 0), xi (v9 + 1), xu, xu, xu, xu, xu]) ⟨Or.inr rfl, Or.inr rfl, Or.inr rfl, Or.inr rfl, Or.inr rfl, Or.inr rfl, Or.inr rfl, Or.inr rfl, Or.inr rfl, Or.inr rfl, Or.inl rfl, Or.inl rfl, Or.inl rfl, Or.inl rfl, Or.inl rfl, trivial⟩ h
      · have h := hf c6
        refine Aw.aload_n rfl d_Mdl_weave_277 ?_
        refine Aw.iconst d_Mdl_weave_278 ?_
        refine Aw.iload_n rfl d_Mdl_weave_279 ?_
        refine Aw.iload rfl d_Mdl_weave_280 ?_
        refine Aw.iload rfl d_Mdl_weave_282 ?_
        exact h
    · have h := hf c8
      refine Aw.iload rfl d_Mdl_weave_229 ?_
      refine Aw.aload_n rfl d_Mdl_weave_231 ?_
      refine Aw.iload_n rfl d_Mdl_weave_232 ?_
      refine Aw.iload rfl d_Mdl_weave_233 ?_
      refine Aw.iload rfl d_Mdl_weave_235 ?_
      refine Aw.iload rfl d_Mdl_weave_237 ?_
      exact h
  · have h := hf c12
    refine Aw.iconst d_Mdl_weave_217 ?_
    refine Aw.goto (tgt := 222) (by decide) d_Mdl_weave_218 ?_
    refine Aw.istore (by decide) d_Mdl_weave_222 ?_
    refine Aw.toL (L' := [xr (some a0), xi v1, xi v2, xi v3, xi v4, xi v5, xi v6, xi v7, xi v8, xi v9, xi v10, xi v11, xi v12, xi v13, xi 1]) rfl ?_
    refine Aw.iload rfl d_Mdl_weave_224 ?_
    obtain ⟨o9, h⟩ := h
    obtain ⟨ht, hf⟩ := h
    refine Aw.if_eq (tgt := 248) o9 (by decide) d_Mdl_weave_226 (fun c11 => ?_) (fun c11 => ?_)
    · have h := ht c11
      refine Aw.iload rfl d_Mdl_weave_248 ?_
      refine Aw.if_eq (tgt := 272) ⟨by decide, by decide⟩ (by decide) d_Mdl_weave_250 (fun c10 => absurd c10 (by decide)) (fun c10 => ?_)
      refine Aw.iload rfl d_Mdl_weave_253 ?_
      refine Aw.aload_n rfl d_Mdl_weave_255 ?_
      refine Aw.iload_n rfl d_Mdl_weave_256 ?_
      refine Aw.iload rfl d_Mdl_weave_257 ?_
      refine Aw.iload rfl d_Mdl_weave_259 ?_
      refine Aw.iload rfl d_Mdl_weave_261 ?_
      exact h
    · have h := hf c11
      refine Aw.iload rfl d_Mdl_weave_229 ?_
      refine Aw.aload_n rfl d_Mdl_weave_231 ?_
      refine Aw.iload_n rfl d_Mdl_weave_232 ?_
      refine Aw.iload rfl d_Mdl_weave_233 ?_
      refine Aw.iload rfl d_Mdl_weave_235 ?_
      refine Aw.iload rfl d_Mdl_weave_237 ?_
      exact h
theorem b_Mdl_weave_242 {Ω : Om} {R : Room} {F : QF} {k n : Nat} {σ : Sto} {a0 : Nat} {v1 : Int} {v2 : Int} {v3 : Int} {v4 : Int} {v5 : Int} {v6 : Int} {v7 : Int} {v8 : Int} {v9 : Int} {v10 : Int} {v11 : Int} {v12 : Int} {v13 : Int} {v14 : Int} {s0 : Int} {s1 : Int} (h : Q32 v10 ∧ ((v10 = (0 : Int) → Aw Ω M_Mdl_weave R F k n 363 [xr (some a0), xi v1, xi v2, xi v3, xi v4, xi v5, xi v6, xi v7, xi (s0 + s1), xi v9, xi v10, xi v11, xi v12, xi v13, xi v14] [xi v4, xi (v11 + 1), xi v11, xi v1, xr (some a0), xi (s0 + s1)] σ) ∧ (¬ v10 = (0 : Int) → Aw Ω M_Mdl_weave R F k n 65 [xr (some a0), xi v1, xi v2, xi v3, xi v4, xi (v9 + 1), xi (v11 + 1), xi (v12 + 1), xi ((s0 + s1) + 0), xi (v9 + 1), xu, xu, xu, xu, xu] [] σ))) : Aw Ω M_Mdl_weave R F k n 242 [xr (some a0), xi v1, xi v2, xi v3, xi v4, xi v5, xi v6, xi v7, xi v8, xi v9, xi v10, xi v11, xi v12, xi v13, xi v14] [xi s1, xi s0] σ := by
  refine Aw.iadd d_Mdl_weave_242 ?_
  refine Aw.istore (by decide) d_Mdl_weave_243 ?_
  refine Aw.toL (L' := [xr (some a0), xi v1, xi v2, xi v3, xi v4, xi v5, xi v6, xi v7, xi (s0 + s1), xi v9, xi v10, xi v11, xi v12, xi v13, xi v14]) rfl ?_
  refine Aw.goto (tgt := 342) (by decide) d_Mdl_weave_245 ?_
  refine Aw.iload rfl d_Mdl_weave_342 ?_
  refine Aw.iload rfl d_Mdl_weave_344 ?_
  obtain ⟨o1, h⟩ := h
  obtain ⟨ht, hf⟩ := h
  refine Aw.if_eq (tgt := 353) o1 (by decide) d_Mdl_weave_346 (fun c2 => ?_) (fun c2 => ?_)
  · have h := ht c2
    refine Aw.aload_n rfl d_Mdl_weave_353 ?_
    refine Aw.iload_n rfl d_Mdl_weave_354 ?_
    refine Aw.iload rfl d_Mdl_weave_355 ?_
    refine Aw.iload rfl d_Mdl_weave_357 ?_
    refine Aw.iconst d_Mdl_weave_359 ?_
    refine Aw.iadd d_Mdl_weave_360 ?_
    refine Aw.iload rfl d_Mdl_weave_361 ?_
    exact h
  · have h := hf c2
    refine Aw.iconst d_Mdl_weave_349 ?_
    refine Aw.goto (tgt := 366) (by decide) d_Mdl_weave_350 ?_
    refine Aw.iadd d_Mdl_weave_366 ?_
    refine Aw.istore (by decide) d_Mdl_weave_367 ?_
    refine Aw.toL (L' := [xr (some a0), xi v1, xi v2, xi v3, xi v4, xi v5, xi v6, xi v7, xi ((s0 + s1) + 0), xi v9, xi v10, xi v11, xi v12, xi v13, xi v14]) rfl ?_
    refine Aw.iload rfl d_Mdl_weave_369 ?_
    refine Aw.iconst d_Mdl_weave_371 ?_
    refine Aw.iadd d_Mdl_weave_372 ?_
    refine Aw.istore (by decide) d_Mdl_weave_373 ?_
    refine Aw.toL (L' := [xr (some a0), xi v1, xi v2, xi v3, xi v4, xi (v9 + 1), xi v6, xi v7, xi ((s0 + s1) + 0), xi v9, xi v10, xi v11, xi v12, xi v13, xi v14]) rfl ?_
    refine Aw.iload rfl d_Mdl_weave_375 ?_
    refine Aw.iconst d_Mdl_weave_377 ?_
    refine Aw.iadd d_Mdl_weave_378 ?_
    refine Aw.istore (by decide) d_Mdl_weave_379 ?_
    refine Aw.toL (L' := [xr (some a0), xi v1, xi v2, xi v3, xi v4, xi (v9 + 1), xi (v11 + 1), xi v7, xi ((s0 + s1) + 0), xi v9, xi v10, xi v11, xi v12, xi v13, xi v14]) rfl ?_
    refine Aw.iload rfl d_Mdl_weave_381 ?_
    refine Aw.iconst d_Mdl_weave_383 ?_
    refine Aw.iadd d_Mdl_weave_384 ?_
    refine Aw.istore (by decide) d_Mdl_weave_385 ?_
    refine Aw.toL (L' := [xr (some a0), xi v1, xi v2, xi v3, xi v4, xi (v9 + 1), xi (v11 + 1), xi (v12 + 1), xi ((s0 + s1) + 0), xi v9, xi v10, xi v11, xi v12, xi v13, xi v14]) rfl ?_
    refine Aw.iinc rfl d_Mdl_weave_387 ?_
    refine Aw.toL (L' := [xr (some a0), xi v1, xi v2, xi v3, xi v4, xi (v9 + 1), xi (v11 + 1), xi (v12 + 1), xi ((s0 + s1) + 0), xi (v9 + 1), xi v10, xi v11, xi v12, xi v13, xi v14]) rfl ?_
    refine Aw.goto (tgt := 65) (by decide) d_Mdl_weave_390 ?_
    exact Aw.toW (L' := [xr (some a0), xi v1, xi v2, xi v3, xi v4, xi (v9 + 1), xi (v11 + 1), xi (v12 + 1), xi ((s0 + s1) + 0), xi (v9 + 1), xu, xu, xu, xu, xu]) ⟨Or.inr rfl, Or.inr rfl, Or.inr rfl, Or.inr rfl, Or.inr rfl, Or.inr rfl, Or.inr rfl, Or.inr rfl, Or.inr rfl, Or.inr rfl, Or.inl rfl, Or.inl rfl, Or.inl rfl, Or.inl rfl, Or.inl rfl, trivial⟩ h
theorem b_Mdl_weave_366 {Ω : Om} {R : Room} {F : QF} {k n : Nat} {σ : Sto} {a0 : Nat} {v1 : Int} {v2 : Int} {v3 : Int} {v4 : Int} {v5 : Int} {v6 : Int} {v7 : Int} {v8 : Int} {v9 : Int} {v10 : Int} {v11 : Int} {v12 : Int} {v13 : Int} {v14 : Int} {s0 : Int} {s1 : Int} (h : Aw Ω M_Mdl_weave R F k n 65 [xr (some a0), xi v1, xi v2, xi v3, xi v4, xi (v9 + 1), xi (v11 + 1), xi (v12 + 1), xi (s0 + s1), xi (v9 + 1), xu, xu, xu, xu, xu] [] σ) : Aw Ω M_Mdl_weave R F k n 366 [xr (some a0), xi v1, xi v2, xi v3, xi v4, xi v5, xi v6, xi v7, xi v8, xi v9, xi v10, xi v11, xi v12, xi v13, xi v14] [xi s1, xi s0] σ := by
  refine Aw.iadd d_Mdl_weave_366 ?_
  refine Aw.istore (by decide) d_Mdl_weave_367 ?_
  refine Aw.toL (L' := [xr (some a0), xi v1, xi v2, xi v3, xi v4, xi v5, xi v6, xi v7, xi (s0 + s1), xi v9, xi v10, xi v11, xi v12, xi v13, xi v14]) rfl ?_
  refine Aw.iload rfl d_Mdl_weave_369 ?_
  refine Aw.iconst d_Mdl_weave_371 ?_
  refine Aw.iadd d_Mdl_weave_372 ?_
  refine Aw.istore (by decide) d_Mdl_weave_373 ?_
  refine Aw.toL (L' := [xr (some a0), xi v1, xi v2, xi v3, xi v4, xi (v9 + 1), xi v6, xi v7, xi (s0 + s1), xi v9, xi v10, xi v11, xi v12, xi v13, xi v14]) rfl ?_
  refine Aw.iload rfl d_Mdl_weave_375 ?_
  refine Aw.iconst d_Mdl_weave_377 ?_
  refine Aw.iadd d_Mdl_weave_378 ?_
  refine Aw.istore (by decide) d_Mdl_weave_379 ?_
  refine Aw.toL (L' := [xr (some a0), xi v1, xi v2, xi v3, xi v4, xi (v9 + 1), xi (v11 + 1), xi v7, xi (s0 + s1), xi v9, xi v10, xi v11, xi v12, xi v13, xi v14]) rfl ?_
  refine Aw.iload rfl d_Mdl_weave_381 ?_
  refine Aw.iconst d_Mdl_weave_383 ?_
  refine Aw.iadd d_Mdl_weave_384 ?_
  refine Aw.istore (by decide) d_Mdl_weave_385 ?_
  refine Aw.toL (L' := [xr (some a0), xi v1, xi v2, xi v3, xi v4, xi (v9 + 1), xi (v11 + 1), xi (v12 + 1), xi (s0 + s1), xi v9, xi v10, xi v11, xi v12, xi v13, xi v14]) rfl ?_
  refine Aw.iinc rfl d_Mdl_weave_387 ?_
  refine Aw.toL (L' := [xr (some a0), xi v1, xi v2, xi v3, xi v4, xi (v9 + 1), xi (v11 + 1), xi (v12 + 1), xi (s0 + s1), xi (v9 + 1), xi v10, xi v11, xi v12, xi v13, xi v14]) rfl ?_
  refine Aw.goto (tgt := 65) (by decide) d_Mdl_weave_390 ?_
  exact Aw.toW (L' := [xr (some a0), xi v1, xi v2, xi v3, xi v4, xi (v9 + 1), xi (v11 + 1), xi (v12 + 1), xi (s0 + s1), xi (v9 + 1), xu, xu, xu, xu, xu]) ⟨Or.inr rfl, Or.inr rfl, Or.inr rfl, Or.inr rfl, Or.inr rfl, Or.inr rfl, Or.inr rfl, Or.inr rfl, Or.inr rfl, Or.inr rfl, Or.inl rfl, Or.inl rfl, Or.inl rfl, Or.inl rfl, Or.inl rfl, trivial⟩ h
theorem b_Mdl_weave_266 {Ω : Om} {R : Room} {F : QF} {k n : Nat} {σ : Sto} {a0 : Nat} {v1 : Int} {v2 : Int} {v3 : Int} {v4 : Int} {v5 : Int} {v6 : Int} {v7 : Int} {v8 : Int} {v9 : Int} {v10 : Int} {v11 : Int} {v12 : Int} {v13 : Int} {v14 : Int} {s0 : Int} {s1 : Int} (h : Q32 v10 ∧ ((v10 = (0 : Int) → Aw Ω M_Mdl_weave R F k n 363 [xr (some a0), xi v1, xi v2, xi v3, xi v4, xi v5, xi v6, xi v7, xi (s0 + s1), xi v9, xi v10, xi v11, xi v12, xi v13, xi v14] [xi v4, xi (v11 + 1), xi v11, xi v1, xr (some a0), xi (s0 + s1)] σ) ∧ (¬ v10 = (0 : Int) → Aw Ω M_Mdl_weave R F k n 65 [xr (some a0), xi v1, xi v2, xi v3, xi v4, xi (v9 + 1), xi (v11 + 1), xi (v12 + 1), xi ((s0 + s1) + 0), xi (v9 + 1), xu, xu, xu, xu, xu] [] σ))) : Aw Ω M_Mdl_weave R F k n 266 [xr (some a0), xi v1, xi v2, xi v3, xi v4, xi v5, xi v6, xi v7, xi v8, xi v9, xi v10, xi v11, xi v12, xi v13, xi v14] [xi s1, xi s0] σ := by
  refine Aw.iadd d_Mdl_weave_266 ?_
  refine Aw.istore (by decide) d_Mdl_weave_267 ?_
  refine Aw.toL (L' := [xr (some a0), xi v1, xi v2, xi v3, xi v4, xi v5, xi v6, xi v7, xi (s0 + s1), xi v9, xi v10, xi v11, xi v12, xi v13, xi v14]) rfl ?_
  refine Aw.goto (tgt := 342) (by decide) d_Mdl_weave_269 ?_
  refine Aw.iload rfl d_Mdl_weave_342 ?_
  refine Aw.iload rfl d_Mdl_weave_344 ?_
  obtain ⟨o1, h⟩ := h
  obtain ⟨ht, hf⟩ := h
  refine Aw.if_eq (tgt := 353) o1 (by decide) d_Mdl_weave_346 (fun c2 => ?_) (fun c2 => ?_)
  · have h := ht c2
    refine Aw.aload_n rfl d_Mdl_weave_353 ?_
    refine Aw.iload_n rfl d_Mdl_weave_354 ?_
    refine Aw.iload rfl d_Mdl_weave_355 ?_
    refine Aw.iload rfl d_Mdl_weave_357 ?_
    refine Aw.iconst d_Mdl_weave_359 ?_
    refine Aw.iadd d_Mdl_weave_360 ?_
    refine Aw.iload rfl d_Mdl_weave_361 ?_
    exact h
  · have h := hf c2
    refine Aw.iconst d_Mdl_weave_349 ?_
    refine Aw.goto (tgt := 366) (by decide) d_Mdl_weave_350 ?_
    refine Aw.iadd d_Mdl_weave_366 ?_
    refine Aw.istore (by decide) d_Mdl_weave_367 ?_
    refine Aw.toL (L' := [xr (some a0), xi v1, xi v2, xi v3, xi v4, xi v5, xi v6, xi v7, xi ((s0 + s1) + 0), xi v9, xi v10, xi v11, xi v12, xi v13, xi v14]) rfl ?_
    refine Aw.iload rfl d_Mdl_weave_369 ?_
    refine Aw.iconst d_Mdl_weave_371 ?_
    refine Aw.iadd d_Mdl_weave_372 ?_
    refine Aw.istore (by decide) d_Mdl_weave_373 ?_
    refine Aw.toL (L' := [xr (some a0), xi v1, xi v2, xi v3, xi v4, xi (v9 + 1), xi v6, xi v7, xi ((s0 + s1) + 0), xi v9, xi v10, xi v11, xi v12, xi v13, xi v14]) rfl ?_
    refine Aw.iload rfl d_Mdl_weave_375 ?_
    refine Aw.iconst d_Mdl_weave_377 ?_
    refine Aw.iadd d_Mdl_weave_378 ?_
    refine Aw.istore (by decide) d_Mdl_weave_379 ?_
    refine Aw.toL (L' := [xr (some a0), xi v1, xi v2, xi v3, xi v4, xi (v9 + 1), xi (v11 + 1), xi v7, xi ((s0 + s1) + 0), xi v9, xi v10, xi v11, xi v12, xi v13, xi v14]) rfl ?_
    refine Aw.iload rfl d_Mdl_weave_381 ?_
    refine Aw.iconst d_Mdl_weave_383 ?_
    refine Aw.iadd d_Mdl_weave_384 ?_
    refine Aw.istore (by decide) d_Mdl_weave_385 ?_
    refine Aw.toL (L' := [xr (some a0), xi v1, xi v2, xi v3, xi v4, xi (v9 + 1), xi (v11 + 1), xi (v12 + 1), xi ((s0 + s1) + 0), xi v9, xi v10, xi v11, xi v12, xi v13, xi v14]) rfl ?_
    refine Aw.iinc rfl d_Mdl_weave_387 ?_
    refine Aw.toL (L' := [xr (some a0), xi v1, xi v2, xi v3, xi v4, xi (v9 + 1), xi (v11 + 1), xi (v12 + 1), xi ((s0 + s1) + 0), xi (v9 + 1), xi v10, xi v11, xi v12, xi v13, xi v14]) rfl ?_
    refine Aw.goto (tgt := 65) (by decide) d_Mdl_weave_390 ?_
    exact Aw.toW (L' := [xr (some a0), xi v1, xi v2, xi v3, xi v4, xi (v9 + 1), xi (v11 + 1), xi (v12 + 1), xi ((s0 + s1) + 0), xi (v9 + 1), xu, xu, xu, xu, xu]) ⟨Or.inr rfl, Or.inr rfl, Or.inr rfl, Or.inr rfl, Or.inr rfl, Or.inr rfl, Or.inr rfl, Or.inr rfl, Or.inr rfl, Or.inr rfl, Or.inl rfl, Or.inl rfl, Or.inl rfl, Or.inl rfl, Or.inl rfl, trivial⟩ h
theorem b_Mdl_weave_287 {Ω : Om} {R : Room} {F : QF} {k n : Nat} {σ : Sto} {a0 : Nat} {v1 : Int} {v2 : Int} {v3 : Int} {v4 : Int} {v5 : Int} {v6 : Int} {v7 : Int} {v8 : Int} {v9 : Int} {v10 : Int} {v11 : Int} {v12 : Int} {v13 : Int} {v14 : Int} (h : Aw Ω M_Mdl_weave R F k n 294 [xr (some a0), xi v1, xi v2, xi v3, xi v4, xi v5, xi v6, xi v7, xi v8, xi v9, xi v10, xi v11, xi v12, xi v13, xi v14] [xi v12, xi v7, xi v2, xi 1, xr (some a0)] σ) : Aw Ω M_Mdl_weave R F k n 287 [xr (some a0), xi v1, xi v2, xi v3, xi v4, xi v5, xi v6, xi v7, xi v8, xi v9, xi v10, xi v11, xi v12, xi v13, xi v14] [] σ := by
  refine Aw.aload_n rfl d_Mdl_weave_287 ?_
  refine Aw.iconst d_Mdl_weave_288 ?_
  refine Aw.iload_n rfl d_Mdl_weave_289 ?_
  refine Aw.iload rfl d_Mdl_weave_290 ?_
  refine Aw.iload rfl d_Mdl_weave_292 ?_
  exact h
theorem b_Mdl_weave_297 {Ω : Om} {R : Room} {F : QF} {k n : Nat} {σ : Sto} {a0 : Nat} {v1 : Int} {v2 : Int} {v3 : Int} {v4 : Int} {v5 : Int} {v6 : Int} {v7 : Int} {v8 : Int} {v9 : Int} {v10 : Int} {v11 : Int} {v12 : Int} {v13 : Int} {v14 : Int} (h : Aw Ω M_Mdl_weave R F k n 304 [xr (some a0), xi v1, xi v2, xi v3, xi v4, xi v5, xi v6, xi v7, xi v8, xi v9, xi v10, xi v11, xi v12, xi v13, xi v14] [xi v9, xi v5, xi v3, xi 2, xr (some a0)] σ) : Aw Ω M_Mdl_weave R F k n 297 [xr (some a0), xi v1, xi v2, xi v3, xi v4, xi v5, xi v6, xi v7, xi v8, xi v9, xi v10, xi v11, xi v12, xi v13, xi v14] [] σ := by
  refine Aw.aload_n rfl d_Mdl_weave_297 ?_
  refine Aw.iconst d_Mdl_weave_298 ?_
  refine Aw.iload_n rfl d_Mdl_weave_299 ?_
  refine Aw.iload rfl d_Mdl_weave_300 ?_
  refine Aw.iload rfl d_Mdl_weave_302 ?_
  exact h
theorem b_Mdl_weave_307 {Ω : Om} {R : Room} {F : QF} {k n : Nat} {σ : Sto} {a0 : Nat} {v1 : Int} {v2 : Int} {v3 : Int} {v4 : Int} {v5 : Int} {v6 : Int} {v7 : Int} {v8 : Int} {v9 : Int} {v10 : Int} {v11 : Int} {v12 : Int} {v13 : Int} {v14 : Int} (h : sK σ a0 = 13 ∧ (∃ b2 : Nat, fR σ 784 a0 = some b2 ∧ (Q32 (fI σ 783 a0) → (Q32 (fI σ 785 a0) → sK σ b2 = 50 ∧ 0 ≤ (fI σ 783 a0) ∧ (fI σ 783 a0) < sZ σ b2 ∧ Q32 ((-1) - (fI σ 785 a0)) ∧ (Q32 (fI σ 783 a0) → Q32 ((fI σ 783 a0) + 1) ∧ Aw Ω M_Mdl_weave R F k n 332 [xr (some a0), xi v1, xi v2, xi v3, xi v4, xi v5, xi v6, xi v7, xi v8, xi v9, xi v10, xi v11, xi v12, xi v13, xi v14] [] (uI (vI σ b2 (fI σ 783 a0).toNat ((-1) - (fI σ 785 a0))) 783 a0 ((fI σ 783 a0) + 1))))))) : Aw Ω M_Mdl_weave R F k n 307 [xr (some a0), xi v1, xi v2, xi v3, xi v4, xi v5, xi v6, xi v7, xi v8, xi v9, xi v10, xi v11, xi v12, xi v13, xi v14] [] σ := by
  refine Aw.aload_n rfl d_Mdl_weave_307 ?_
  obtain ⟨o1, h⟩ := h
  obtain ⟨b2, e3, h⟩ := h
  refine Aw.getRs (f := 784) 12 16 fl_Mdl_35 (by decide) (by decide) rfl rfl o1 e3 d_Mdl_weave_308 ?_
  refine Aw.aload_n rfl d_Mdl_weave_311 ?_
  refine Aw.getI (f := 783) 12 15 fl_Mdl_194 (by decide) (by decide) rfl rfl o1 d_Mdl_weave_312 (fun r4 => ?_)
  have h := h r4
  refine Aw.iconst d_Mdl_weave_315 ?_
  refine Aw.aload_n rfl d_Mdl_weave_316 ?_
  refine Aw.getI (f := 785) 12 17 fl_Mdl_185 (by decide) (by decide) rfl rfl o1 d_Mdl_weave_317 (fun r5 => ?_)
  have h := h r5
  refine Aw.isub d_Mdl_weave_320 ?_
  obtain ⟨o6, h⟩ := h
  obtain ⟨o7, o8, h⟩ := h
  obtain ⟨o9, h⟩ := h
  refine Aw.iast o6 o7 o8 o9 d_Mdl_weave_321 ?_
  refine Aw.aload_n rfl d_Mdl_weave_322 ?_
  refine Aw.dup rfl d_Mdl_weave_323 ?_
  refine Aw.getI (f := 783) 12 15 fl_Mdl_194 (by decide) (by decide) rfl rfl o1 d_Mdl_weave_324 (fun r10 => ?_)
  have h := h r10
  refine Aw.iconst d_Mdl_weave_327 ?_
  refine Aw.iadd d_Mdl_weave_328 ?_
  obtain ⟨o11, h⟩ := h
  refine Aw.putI (f := 783) 12 15 fl_Mdl_194 (by decide) (by decide) rfl rfl o1 rfl o11 (Or.inl rfl) d_Mdl_weave_329 ?_
  exact h
theorem b_Mdl_weave_332 {Ω : Om} {R : Room} {F : QF} {k n : Nat} {σ : Sto} {a0 : Nat} {v1 : Int} {v2 : Int} {v3 : Int} {v4 : Int} {v5 : Int} {v6 : Int} {v7 : Int} {v8 : Int} {v9 : Int} {v10 : Int} {v11 : Int} {v12 : Int} {v13 : Int} {v14 : Int} (h : sK σ a0 = 13 ∧ (Q32 (fI σ 785 a0) → Q32 ((fI σ 785 a0) + 1) ∧ Q32 v10 ∧ ((v10 = (0 : Int) → Aw Ω M_Mdl_weave R F k n 363 [xr (some a0), xi v1, xi v2, xi v3, xi v4, xi v5, xi v6, xi v7, xi v8, xi v9, xi v10, xi v11, xi v12, xi v13, xi v14] [xi v4, xi (v11 + 1), xi v11, xi v1, xr (some a0), xi v8] (uI σ 785 a0 ((fI σ 785 a0) + 1))) ∧ (¬ v10 = (0 : Int) → Aw Ω M_Mdl_weave R F k n 65 [xr (some a0), xi v1, xi v2, xi v3, xi v4, xi (v9 + 1), xi (v11 + 1), xi (v12 + 1), xi (v8 + 0), xi (v9 + 1), xu, xu, xu, xu, xu] [] (uI σ 785 a0 ((fI σ 785 a0) + 1)))))) : Aw Ω M_Mdl_weave R F k n 332 [xr (some a0), xi v1, xi v2, xi v3, xi v4, xi v5, xi v6, xi v7, xi v8, xi v9, xi v10, xi v11, xi v12, xi v13, xi v14] [] σ := by
  refine Aw.aload_n rfl d_Mdl_weave_332 ?_
  refine Aw.dup rfl d_Mdl_weave_333 ?_
  obtain ⟨o1, h⟩ := h
  refine Aw.getI (f := 785) 12 17 fl_Mdl_185 (by decide) (by decide) rfl rfl o1 d_Mdl_weave_334 (fun r2 => ?_)
  have h := h r2
  refine Aw.iconst d_Mdl_weave_337 ?_
  refine Aw.iadd d_Mdl_weave_338 ?_
  obtain ⟨o3, h⟩ := h
  refine Aw.putI (f := 785) 12 17 fl_Mdl_185 (by decide) (by decide) rfl rfl o1 rfl o3 (Or.inl rfl) d_Mdl_weave_339 ?_
  refine Aw.iload rfl d_Mdl_weave_342 ?_
  refine Aw.iload rfl d_Mdl_weave_344 ?_
  obtain ⟨o4, h⟩ := h
  obtain ⟨ht, hf⟩ := h
  refine Aw.if_eq (tgt := 353) o4 (by decide) d_Mdl_weave_346 (fun c5 => ?_) (fun c5 => ?_)
  · have h := ht c5
    refine Aw.aload_n rfl d_Mdl_weave_353 ?_
    refine Aw.iload_n rfl d_Mdl_weave_354 ?_
    refine Aw.iload rfl d_Mdl_weave_355 ?_
    refine Aw.iload rfl d_Mdl_weave_357 ?_
    refine Aw.iconst d_Mdl_weave_359 ?_
    refine Aw.iadd d_Mdl_weave_360 ?_
    refine Aw.iload rfl d_Mdl_weave_361 ?_
    exact h
  · have h := hf c5
    refine Aw.iconst d_Mdl_weave_349 ?_
    refine Aw.goto (tgt := 366) (by decide) d_Mdl_weave_350 ?_
    refine Aw.iadd d_Mdl_weave_366 ?_
    refine Aw.istore (by decide) d_Mdl_weave_367 ?_
    refine Aw.toL (L' := [xr (some a0), xi v1, xi v2, xi v3, xi v4, xi v5, xi v6, xi v7, xi (v8 + 0), xi v9, xi v10, xi v11, xi v12, xi v13, xi v14]) rfl ?_
    refine Aw.iload rfl d_Mdl_weave_369 ?_
    refine Aw.iconst d_Mdl_weave_371 ?_
    refine Aw.iadd d_Mdl_weave_372 ?_
    refine Aw.istore (by decide) d_Mdl_weave_373 ?_
    refine Aw.toL (L' := [xr (some a0), xi v1, xi v2, xi v3, xi v4, xi (v9 + 1), xi v6, xi v7, xi (v8 + 0), xi v9, xi v10, xi v11, xi v12, xi v13, xi v14]) rfl ?_
    refine Aw.iload rfl d_Mdl_weave_375 ?_
    refine Aw.iconst d_Mdl_weave_377 ?_
    refine Aw.iadd d_Mdl_weave_378 ?_
    refine Aw.istore (by decide) d_Mdl_weave_379 ?_
    refine Aw.toL (L' := [xr (some a0), xi v1, xi v2, xi v3, xi v4, xi (v9 + 1), xi (v11 + 1), xi v7, xi (v8 + 0), xi v9, xi v10, xi v11, xi v12, xi v13, xi v14]) rfl ?_
    refine Aw.iload rfl d_Mdl_weave_381 ?_
    refine Aw.iconst d_Mdl_weave_383 ?_
    refine Aw.iadd d_Mdl_weave_384 ?_
    refine Aw.istore (by decide) d_Mdl_weave_385 ?_
    refine Aw.toL (L' := [xr (some a0), xi v1, xi v2, xi v3, xi v4, xi (v9 + 1), xi (v11 + 1), xi (v12 + 1), xi (v8 + 0), xi v9, xi v10, xi v11, xi v12, xi v13, xi v14]) rfl ?_
    refine Aw.iinc rfl d_Mdl_weave_387 ?_
    refine Aw.toL (L' := [xr (some a0), xi v1, xi v2, xi v3, xi v4, xi (v9 + 1), xi (v11 + 1), xi (v12 + 1), xi (v8 + 0), xi (v9 + 1), xi v10, xi v11, xi v12, xi v13, xi v14]) rfl ?_
    refine Aw.goto (tgt := 65) (by decide) d_Mdl_weave_390 ?_
    exact Aw.toW (L' := [xr (some a0), xi v1, xi v2, xi v3, xi v4, xi (v9 + 1), xi (v11 + 1), xi (v12 + 1), xi (v8 + 0), xi (v9 + 1), xu, xu, xu, xu, xu]) ⟨Or.inr rfl, Or.inr rfl, Or.inr rfl, Or.inr rfl, Or.inr rfl, Or.inr rfl, Or.inr rfl, Or.inr rfl, Or.inr rfl, Or.inr rfl, Or.inl rfl, Or.inl rfl, Or.inl rfl, Or.inl rfl, Or.inl rfl, trivial⟩ h
theorem c_Mdl_weave_4 {Ω : Om} {R R' : Room} {F : QF} {k n : Nat} {L st : List PV} {σ : Sto} {QX' : String → Sto → Prop} {Q : Int → Sto → Prop} {a : Nat} {x0 : Int} {x1 : Int} {x2 : Int} (hc : MC Ω M_Mdl_pair R' (RI Q) QX' σ [xr (some a), xi x0, xi x1, xi x2]) (hk : sK σ a = 13) (hr1 : R'.frames + 1 ≤ R.frames) (hr2 : 8 + (11 + 11) + R'.locals ≤ R.locals) (hb1 : k + R'.cells ≤ R.cells) (hb2 : n + R'.slots ≤ R.slots) (hst : (st.map catP).sum ≤ 8) (kk : ∀ x σ', Q x σ' → Aw Ω M_Mdl_weave R F (k + R'.cells) (n + R'.slots) 7 L (xi x :: st) σ') (kx : ∀ E σ', QX' E σ' → Ax Ω M_Mdl_weave R F (k + R'.cells) (n + R'.slots) 4 L st σ' E) : Aw Ω M_Mdl_weave R F k n 4 L (xi x2 :: xi x1 :: xi x0 :: xr (some a) :: st) σ :=
  Aw.callV (As := [xi x0, xi x1, xi x2]) (stk := xi x2 :: xi x1 :: xi x0 :: xr (some a) :: st) (nn := 3) 12 M_Mdl_pair hc ok_Mdl_pair rfl (by decide) rfl hk ml_Mdl_249 im_Mdl_pair se_Mdl_pair ⟨hr1, hr2⟩ rfl ⟨hb1, hb2⟩ hst rfl d_Mdl_weave_4 (fun r σ' h => by obtain ⟨x, rfl, h⟩ := h; exact kk x σ' h) kx
theorem c_Mdl_weave_46 {Ω : Om} {R R' : Room} {F : QF} {k n : Nat} {L st : List PV} {σ : Sto} {QX' : String → Sto → Prop} {Q : Int → Sto → Prop} {a : Nat} {x0 : Int} {x1 : Int} {x2 : Int} (hc : MC Ω M_Mdl_pair R' (RI Q) QX' σ [xr (some a), xi x0, xi x1, xi x2]) (hk : sK σ a = 13) (hr1 : R'.frames + 1 ≤ R.frames) (hr2 : 8 + (11 + 11) + R'.locals ≤ R.locals) (hb1 : k + R'.cells ≤ R.cells) (hb2 : n + R'.slots ≤ R.slots) (hst : (st.map catP).sum ≤ 8) (kk : ∀ x σ', Q x σ' → Aw Ω M_Mdl_weave R F (k + R'.cells) (n + R'.slots) 49 L (xi x :: st) σ') (kx : ∀ E σ', QX' E σ' → Ax Ω M_Mdl_weave R F (k + R'.cells) (n + R'.slots) 46 L st σ' E) : Aw Ω M_Mdl_weave R F k n 46 L (xi x2 :: xi x1 :: xi x0 :: xr (some a) :: st) σ :=
  Aw.callV (As := [xi x0, xi x1, xi x2]) (stk := xi x2 :: xi x1 :: xi x0 :: xr (some a) :: st) (nn := 3) 12 M_Mdl_pair hc ok_Mdl_pair rfl (by decide) rfl hk ml_Mdl_249 im_Mdl_pair se_Mdl_pair ⟨hr1, hr2⟩ rfl ⟨hb1, hb2⟩ hst rfl d_Mdl_weave_46 (fun r σ' h => by obtain ⟨x, rfl, h⟩ := h; exact kk x σ' h) kx
theorem c_Mdl_weave_178 {Ω : Om} {R R' : Room} {F : QF} {k n : Nat} {L st : List PV} {σ : Sto} {QX' : String → Sto → Prop} {Q : Int → Sto → Prop} {a : Nat} {x0 : Int} {x1 : Int} {x2 : Int} {x3 : Int} {x4 : Int} {x5 : Int} (hc : MC Ω M_Mdl_areAlike R' (RI Q) QX' σ [xr (some a), xi x0, xi x1, xi x2, xi x3, xi x4, xi x5]) (hk : sK σ a = 13) (hr1 : R'.frames + 1 ≤ R.frames) (hr2 : 8 + (9 + 11) + R'.locals ≤ R.locals) (hb1 : k + R'.cells ≤ R.cells) (hb2 : n + R'.slots ≤ R.slots) (hst : (st.map catP).sum ≤ 8) (kk : ∀ x σ', Q x σ' → Aw Ω M_Mdl_weave R F (k + R'.cells) (n + R'.slots) 181 L (xi x :: st) σ') (kx : ∀ E σ', QX' E σ' → Ax Ω M_Mdl_weave R F (k + R'.cells) (n + R'.slots) 178 L st σ' E) : Aw Ω M_Mdl_weave R F k n 178 L (xi x5 :: xi x4 :: xi x3 :: xi x2 :: xi x1 :: xi x0 :: xr (some a) :: st) σ :=
  Aw.callV (As := [xi x0, xi x1, xi x2, xi x3, xi x4, xi x5]) (stk := xi x5 :: xi x4 :: xi x3 :: xi x2 :: xi x1 :: xi x0 :: xr (some a) :: st) (nn := 6) 12 M_Mdl_areAlike hc ok_Mdl_areAlike rfl (by decide) rfl hk ml_Mdl_294 im_Mdl_areAlike se_Mdl_areAlike ⟨hr1, hr2⟩ rfl ⟨hb1, hb2⟩ hst rfl d_Mdl_weave_178 (fun r σ' h => by obtain ⟨x, rfl, h⟩ := h; exact kk x σ' h) kx
theorem c_Mdl_weave_194 {Ω : Om} {R R' : Room} {F : QF} {k n : Nat} {L st : List PV} {σ : Sto} {QX' : String → Sto → Prop} {Q : Int → Sto → Prop} {a : Nat} {x0 : Int} {x1 : Int} {x2 : Int} {x3 : Int} {x4 : Int} {x5 : Int} (hc : MC Ω M_Mdl_areAlike R' (RI Q) QX' σ [xr (some a), xi x0, xi x1, xi x2, xi x3, xi x4, xi x5]) (hk : sK σ a = 13) (hr1 : R'.frames + 1 ≤ R.frames) (hr2 : 8 + (9 + 11) + R'.locals ≤ R.locals) (hb1 : k + R'.cells ≤ R.cells) (hb2 : n + R'.slots ≤ R.slots) (hst : (st.map catP).sum ≤ 8) (kk : ∀ x σ', Q x σ' → Aw Ω M_Mdl_weave R F (k + R'.cells) (n + R'.slots) 197 L (xi x :: st) σ') (kx : ∀ E σ', QX' E σ' → Ax Ω M_Mdl_weave R F (k + R'.cells) (n + R'.slots) 194 L st σ' E) : Aw Ω M_Mdl_weave R F k n 194 L (xi x5 :: xi x4 :: xi x3 :: xi x2 :: xi x1 :: xi x0 :: xr (some a) :: st) σ :=
  Aw.callV (As := [xi x0, xi x1, xi x2, xi x3, xi x4, xi x5]) (stk := xi x5 :: xi x4 :: xi x3 :: xi x2 :: xi x1 :: xi x0 :: xr (some a) :: st) (nn := 6) 12 M_Mdl_areAlike hc ok_Mdl_areAlike rfl (by decide) rfl hk ml_Mdl_294 im_Mdl_areAlike se_Mdl_areAlike ⟨hr1, hr2⟩ rfl ⟨hb1, hb2⟩ hst rfl d_Mdl_weave_194 (fun r σ' h => by obtain ⟨x, rfl, h⟩ := h; exact kk x σ' h) kx
theorem c_Mdl_weave_211 {Ω : Om} {R R' : Room} {F : QF} {k n : Nat} {L st : List PV} {σ : Sto} {QX' : String → Sto → Prop} {Q : Int → Sto → Prop} {a : Nat} {x0 : Int} {x1 : Int} {x2 : Int} {x3 : Int} {x4 : Int} {x5 : Int} (hc : MC Ω M_Mdl_areAlike R' (RI Q) QX' σ [xr (some a), xi x0, xi x1, xi x2, xi x3, xi x4, xi x5]) (hk : sK σ a = 13) (hr1 : R'.frames + 1 ≤ R.frames) (hr2 : 8 + (9 + 11) + R'.locals ≤ R.locals) (hb1 : k + R'.cells ≤ R.cells) (hb2 : n + R'.slots ≤ R.slots) (hst : (st.map catP).sum ≤ 8) (kk : ∀ x σ', Q x σ' → Aw Ω M_Mdl_weave R F (k + R'.cells) (n + R'.slots) 214 L (xi x :: st) σ') (kx : ∀ E σ', QX' E σ' → Ax Ω M_Mdl_weave R F (k + R'.cells) (n + R'.slots) 211 L st σ' E) : Aw Ω M_Mdl_weave R F k n 211 L (xi x5 :: xi x4 :: xi x3 :: xi x2 :: xi x1 :: xi x0 :: xr (some a) :: st) σ :=
  Aw.callV (As := [xi x0, xi x1, xi x2, xi x3, xi x4, xi x5]) (stk := xi x5 :: xi x4 :: xi x3 :: xi x2 :: xi x1 :: xi x0 :: xr (some a) :: st) (nn := 6) 12 M_Mdl_areAlike hc ok_Mdl_areAlike rfl (by decide) rfl hk ml_Mdl_294 im_Mdl_areAlike se_Mdl_areAlike ⟨hr1, hr2⟩ rfl ⟨hb1, hb2⟩ hst rfl d_Mdl_weave_211 (fun r σ' h => by obtain ⟨x, rfl, h⟩ := h; exact kk x σ' h) kx
theorem c_Mdl_weave_239 {Ω : Om} {R R' : Room} {F : QF} {k n : Nat} {L st : List PV} {σ : Sto} {QX' : String → Sto → Prop} {Q : Int → Sto → Prop} {a : Nat} {x0 : Int} {x1 : Int} {x2 : Int} {x3 : Int} (hc : MC Ω M_Mdl_layLines R' (RI Q) QX' σ [xr (some a), xi x0, xi x1, xi x2, xi x3]) (hk : sK σ a = 13) (hr1 : R'.frames + 1 ≤ R.frames) (hr2 : 8 + (6 + 11) + R'.locals ≤ R.locals) (hb1 : k + R'.cells ≤ R.cells) (hb2 : n + R'.slots ≤ R.slots) (hst : (st.map catP).sum ≤ 8) (kk : ∀ x σ', Q x σ' → Aw Ω M_Mdl_weave R F (k + R'.cells) (n + R'.slots) 242 L (xi x :: st) σ') (kx : ∀ E σ', QX' E σ' → Ax Ω M_Mdl_weave R F (k + R'.cells) (n + R'.slots) 239 L st σ' E) : Aw Ω M_Mdl_weave R F k n 239 L (xi x3 :: xi x2 :: xi x1 :: xi x0 :: xr (some a) :: st) σ :=
  Aw.callV (As := [xi x0, xi x1, xi x2, xi x3]) (stk := xi x3 :: xi x2 :: xi x1 :: xi x0 :: xr (some a) :: st) (nn := 4) 12 M_Mdl_layLines hc ok_Mdl_layLines rfl (by decide) rfl hk ml_Mdl_298 im_Mdl_layLines se_Mdl_layLines ⟨hr1, hr2⟩ rfl ⟨hb1, hb2⟩ hst rfl d_Mdl_weave_239 (fun r σ' h => by obtain ⟨x, rfl, h⟩ := h; exact kk x σ' h) kx
theorem c_Mdl_weave_263 {Ω : Om} {R R' : Room} {F : QF} {k n : Nat} {L st : List PV} {σ : Sto} {QX' : String → Sto → Prop} {Q : Int → Sto → Prop} {a : Nat} {x0 : Int} {x1 : Int} {x2 : Int} {x3 : Int} (hc : MC Ω M_Mdl_layLines R' (RI Q) QX' σ [xr (some a), xi x0, xi x1, xi x2, xi x3]) (hk : sK σ a = 13) (hr1 : R'.frames + 1 ≤ R.frames) (hr2 : 8 + (6 + 11) + R'.locals ≤ R.locals) (hb1 : k + R'.cells ≤ R.cells) (hb2 : n + R'.slots ≤ R.slots) (hst : (st.map catP).sum ≤ 8) (kk : ∀ x σ', Q x σ' → Aw Ω M_Mdl_weave R F (k + R'.cells) (n + R'.slots) 266 L (xi x :: st) σ') (kx : ∀ E σ', QX' E σ' → Ax Ω M_Mdl_weave R F (k + R'.cells) (n + R'.slots) 263 L st σ' E) : Aw Ω M_Mdl_weave R F k n 263 L (xi x3 :: xi x2 :: xi x1 :: xi x0 :: xr (some a) :: st) σ :=
  Aw.callV (As := [xi x0, xi x1, xi x2, xi x3]) (stk := xi x3 :: xi x2 :: xi x1 :: xi x0 :: xr (some a) :: st) (nn := 4) 12 M_Mdl_layLines hc ok_Mdl_layLines rfl (by decide) rfl hk ml_Mdl_298 im_Mdl_layLines se_Mdl_layLines ⟨hr1, hr2⟩ rfl ⟨hb1, hb2⟩ hst rfl d_Mdl_weave_263 (fun r σ' h => by obtain ⟨x, rfl, h⟩ := h; exact kk x σ' h) kx
theorem c_Mdl_weave_284 {Ω : Om} {R R' : Room} {F : QF} {k n : Nat} {L st : List PV} {σ : Sto} {QX' : String → Sto → Prop} {Q : Sto → Prop} {a : Nat} {x0 : Int} {x1 : Int} {x2 : Int} {x3 : Int} (hc : MC Ω M_Mdl_layPiece R' (RV Q) QX' σ [xr (some a), xi x0, xi x1, xi x2, xi x3]) (hk : sK σ a = 13) (hr1 : R'.frames + 1 ≤ R.frames) (hr2 : 8 + (7 + 11) + R'.locals ≤ R.locals) (hb1 : k + R'.cells ≤ R.cells) (hb2 : n + R'.slots ≤ R.slots) (hst : (st.map catP).sum ≤ 8) (kk : ∀ σ', Q σ' → Aw Ω M_Mdl_weave R F (k + R'.cells) (n + R'.slots) 287 L st σ') (kx : ∀ E σ', QX' E σ' → Ax Ω M_Mdl_weave R F (k + R'.cells) (n + R'.slots) 284 L st σ' E) : Aw Ω M_Mdl_weave R F k n 284 L (xi x3 :: xi x2 :: xi x1 :: xi x0 :: xr (some a) :: st) σ :=
  Aw.callV (As := [xi x0, xi x1, xi x2, xi x3]) (stk := xi x3 :: xi x2 :: xi x1 :: xi x0 :: xr (some a) :: st) (nn := 4) 12 M_Mdl_layPiece hc ok_Mdl_layPiece rfl (by decide) rfl hk ml_Mdl_302 im_Mdl_layPiece se_Mdl_layPiece ⟨hr1, hr2⟩ rfl ⟨hb1, hb2⟩ hst rfl d_Mdl_weave_284 (fun r σ' h => by obtain ⟨rfl, h⟩ := h; exact kk σ' h) kx
theorem c_Mdl_weave_294 {Ω : Om} {R R' : Room} {F : QF} {k n : Nat} {L st : List PV} {σ : Sto} {QX' : String → Sto → Prop} {Q : Sto → Prop} {a : Nat} {x0 : Int} {x1 : Int} {x2 : Int} {x3 : Int} (hc : MC Ω M_Mdl_layPiece R' (RV Q) QX' σ [xr (some a), xi x0, xi x1, xi x2, xi x3]) (hk : sK σ a = 13) (hr1 : R'.frames + 1 ≤ R.frames) (hr2 : 8 + (7 + 11) + R'.locals ≤ R.locals) (hb1 : k + R'.cells ≤ R.cells) (hb2 : n + R'.slots ≤ R.slots) (hst : (st.map catP).sum ≤ 8) (kk : ∀ σ', Q σ' → Aw Ω M_Mdl_weave R F (k + R'.cells) (n + R'.slots) 297 L st σ') (kx : ∀ E σ', QX' E σ' → Ax Ω M_Mdl_weave R F (k + R'.cells) (n + R'.slots) 294 L st σ' E) : Aw Ω M_Mdl_weave R F k n 294 L (xi x3 :: xi x2 :: xi x1 :: xi x0 :: xr (some a) :: st) σ :=
  Aw.callV (As := [xi x0, xi x1, xi x2, xi x3]) (stk := xi x3 :: xi x2 :: xi x1 :: xi x0 :: xr (some a) :: st) (nn := 4) 12 M_Mdl_layPiece hc ok_Mdl_layPiece rfl (by decide) rfl hk ml_Mdl_302 im_Mdl_layPiece se_Mdl_layPiece ⟨hr1, hr2⟩ rfl ⟨hb1, hb2⟩ hst rfl d_Mdl_weave_294 (fun r σ' h => by obtain ⟨rfl, h⟩ := h; exact kk σ' h) kx
theorem c_Mdl_weave_304 {Ω : Om} {R R' : Room} {F : QF} {k n : Nat} {L st : List PV} {σ : Sto} {QX' : String → Sto → Prop} {Q : Sto → Prop} {a : Nat} {x0 : Int} {x1 : Int} {x2 : Int} {x3 : Int} (hc : MC Ω M_Mdl_layPiece R' (RV Q) QX' σ [xr (some a), xi x0, xi x1, xi x2, xi x3]) (hk : sK σ a = 13) (hr1 : R'.frames + 1 ≤ R.frames) (hr2 : 8 + (7 + 11) + R'.locals ≤ R.locals) (hb1 : k + R'.cells ≤ R.cells) (hb2 : n + R'.slots ≤ R.slots) (hst : (st.map catP).sum ≤ 8) (kk : ∀ σ', Q σ' → Aw Ω M_Mdl_weave R F (k + R'.cells) (n + R'.slots) 307 L st σ') (kx : ∀ E σ', QX' E σ' → Ax Ω M_Mdl_weave R F (k + R'.cells) (n + R'.slots) 304 L st σ' E) : Aw Ω M_Mdl_weave R F k n 304 L (xi x3 :: xi x2 :: xi x1 :: xi x0 :: xr (some a) :: st) σ :=
  Aw.callV (As := [xi x0, xi x1, xi x2, xi x3]) (stk := xi x3 :: xi x2 :: xi x1 :: xi x0 :: xr (some a) :: st) (nn := 4) 12 M_Mdl_layPiece hc ok_Mdl_layPiece rfl (by decide) rfl hk ml_Mdl_302 im_Mdl_layPiece se_Mdl_layPiece ⟨hr1, hr2⟩ rfl ⟨hb1, hb2⟩ hst rfl d_Mdl_weave_304 (fun r σ' h => by obtain ⟨rfl, h⟩ := h; exact kk σ' h) kx
theorem c_Mdl_weave_363 {Ω : Om} {R R' : Room} {F : QF} {k n : Nat} {L st : List PV} {σ : Sto} {QX' : String → Sto → Prop} {Q : Int → Sto → Prop} {a : Nat} {x0 : Int} {x1 : Int} {x2 : Int} {x3 : Int} (hc : MC Ω M_Mdl_layLines R' (RI Q) QX' σ [xr (some a), xi x0, xi x1, xi x2, xi x3]) (hk : sK σ a = 13) (hr1 : R'.frames + 1 ≤ R.frames) (hr2 : 8 + (6 + 11) + R'.locals ≤ R.locals) (hb1 : k + R'.cells ≤ R.cells) (hb2 : n + R'.slots ≤ R.slots) (hst : (st.map catP).sum ≤ 8) (kk : ∀ x σ', Q x σ' → Aw Ω M_Mdl_weave R F (k + R'.cells) (n + R'.slots) 366 L (xi x :: st) σ') (kx : ∀ E σ', QX' E σ' → Ax Ω M_Mdl_weave R F (k + R'.cells) (n + R'.slots) 363 L st σ' E) : Aw Ω M_Mdl_weave R F k n 363 L (xi x3 :: xi x2 :: xi x1 :: xi x0 :: xr (some a) :: st) σ :=
  Aw.callV (As := [xi x0, xi x1, xi x2, xi x3]) (stk := xi x3 :: xi x2 :: xi x1 :: xi x0 :: xr (some a) :: st) (nn := 4) 12 M_Mdl_layLines hc ok_Mdl_layLines rfl (by decide) rfl hk ml_Mdl_298 im_Mdl_layLines se_Mdl_layLines ⟨hr1, hr2⟩ rfl ⟨hb1, hb2⟩ hst rfl d_Mdl_weave_363 (fun r σ' h => by obtain ⟨x, rfl, h⟩ := h; exact kk x σ' h) kx
theorem r_Mdl_weave_395 {Ω : Om} {R : Room} {k n : Nat} {L : List PV} {σ : Sto} {QR : Option PV → Sto → Prop} {QX : String → Sto → Prop} {x : Int} (h : QR (some (xi x)) σ) (h1 : k ≤ R.cells) (h2 : n ≤ R.slots) : Aw Ω M_Mdl_weave R (MF Ω R QR QX) k n 395 L [xi x] σ := Aw.iret rfl h h1 h2 d_Mdl_weave_395
theorem e_Mdl_init {Ω : Om} {R : Room} {QR : Option PV → Sto → Prop} {QX : String → Sto → Prop} {σ : Sto} {a0 : Nat} (h : Aw Ω M_Mdl_init R (MF Ω R QR QX) 0 0 0 [xr (some a0)] [] σ) : MC Ω M_Mdl_init R QR QX σ [xr (some a0)] := MC.body (by decide +kernel) rfl (Nat.le_of_ble_eq_true rfl) rfl h
theorem b_Mdl_init_0 {Ω : Om} {R : Room} {F : QF} {k n : Nat} {σ : Sto} {a0 : Nat} (h : 1 ≤ R.frames ∧ ([].map catP).sum + 12 ≤ R.locals ∧ k + 1 ≤ R.cells ∧ n + 16384 ≤ R.slots ∧ (∀ σ7 : Sto, σ7 = (nO σ 51 16384) → sK σ7 a0 = 13 ∧ k + 1 + 1 ≤ R.cells ∧ n + 16384 + 16384 ≤ R.slots ∧ (∀ σ13 : Sto, σ13 = (nO (uR σ7 770 a0 (some (sN σ))) 50 16384) → sK σ13 a0 = 13 ∧ k + 1 + 1 + 1 ≤ R.cells ∧ n + 16384 + 16384 + 16384 ≤ R.slots ∧ (∀ σ19 : Sto, σ19 = (nO (uR σ13 771 a0 (some (sN σ7))) 50 16384) → sK σ19 a0 = 13 ∧ k + 1 + 1 + 1 + 1 ≤ R.cells ∧ n + 16384 + 16384 + 16384 + 40 ≤ R.slots ∧ (∀ σ25 : Sto, σ25 = (nO (uR σ19 772 a0 (some (sN σ13))) 50 40) → sK σ25 a0 = 13 ∧ k + 1 + 1 + 1 + 1 + 1 ≤ R.cells ∧ n + 16384 + 16384 + 16384 + 40 + 800 ≤ R.slots ∧ (∀ σ31 : Sto, σ31 = (nO (uR σ25 774 a0 (some (sN σ19))) 50 800) → sK σ31 a0 = 13 ∧ k + 1 + 1 + 1 + 1 + 1 + 1 ≤ R.cells ∧ n + 16384 + 16384 + 16384 + 40 + 800 + 40 ≤ R.slots ∧ (∀ σ37 : Sto, σ37 = (nO (uR σ31 775 a0 (some (sN σ25))) 50 40) → sK σ37 a0 = 13 ∧ k + 1 + 1 + 1 + 1 + 1 + 1 + 1 ≤ R.cells ∧ n + 16384 + 16384 + 16384 + 40 + 800 + 40 + 40 ≤ R.slots ∧ (∀ σ43 : Sto, σ43 = (nO (uR σ37 776 a0 (some (sN σ31))) 50 40) → sK σ43 a0 = 13 ∧ k + 1 + 1 + 1 + 1 + 1 + 1 + 1 + 1 ≤ R.cells ∧ n + 16384 + 16384 + 16384 + 40 + 800 + 40 + 40 + 40 ≤ R.slots ∧ (∀ σ49 : Sto, σ49 = (nO (uR σ43 777 a0 (some (sN σ37))) 50 40) → sK σ49 a0 = 13 ∧ k + 1 + 1 + 1 + 1 + 1 + 1 + 1 + 1 + 1 ≤ R.cells ∧ n + 16384 + 16384 + 16384 + 40 + 800 + 40 + 40 + 40 + 64 ≤ R.slots ∧ (∀ σ55 : Sto, σ55 = (nO (uR σ49 778 a0 (some (sN σ43))) 50 64) → sK σ55 a0 = 13 ∧ k + 1 + 1 + 1 + 1 + 1 + 1 + 1 + 1 + 1 + 1 ≤ R.cells ∧ n + 16384 + 16384 + 16384 + 40 + 800 + 40 + 40 + 40 + 64 + 63 ≤ R.slots ∧ (∀ σ61 : Sto, σ61 = (nO (uR σ55 784 a0 (some (sN σ49))) 50 63) → sK σ61 a0 = 13 ∧ k + 1 + 1 + 1 + 1 + 1 + 1 + 1 + 1 + 1 + 1 + 1 ≤ R.cells ∧ n + 16384 + 16384 + 16384 + 40 + 800 + 40 + 40 + 40 + 64 + 63 + 1260 ≤ R.slots ∧ (∀ σ67 : Sto, σ67 = (nO (uR σ61 787 a0 (some (sN σ55))) 50 1260) → sK σ67 a0 = 13 ∧ k + 1 + 1 + 1 + 1 + 1 + 1 + 1 + 1 + 1 + 1 + 1 + 1 ≤ R.cells ∧ n + 16384 + 16384 + 16384 + 40 + 800 + 40 + 40 + 40 + 64 + 63 + 1260 + 640 ≤ R.slots ∧ (∀ σ73 : Sto, σ73 = (nO (uR σ67 788 a0 (some (sN σ61))) 50 640) → sK σ73 a0 = 13 ∧ k + 1 + 1 + 1 + 1 + 1 + 1 + 1 + 1 + 1 + 1 + 1 + 1 + 1 ≤ R.cells ∧ n + 16384 + 16384 + 16384 + 40 + 800 + 40 + 40 + 40 + 64 + 63 + 1260 + 640 + 640 ≤ R.slots ∧ (∀ σ79 : Sto, σ79 = (nO (uR σ73 790 a0 (some (sN σ67))) 50 640) → sK σ79 a0 = 13 ∧ k + 1 + 1 + 1 + 1 + 1 + 1 + 1 + 1 + 1 + 1 + 1 + 1 + 1 + 1 ≤ R.cells ∧ n + 16384 + 16384 + 16384 + 40 + 800 + 40 + 40 + 40 + 64 + 63 + 1260 + 640 + 640 + 30720 ≤ R.slots ∧ (∀ σ85 : Sto, σ85 = (nO (uR σ79 791 a0 (some (sN σ73))) 50 30720) → sK σ85 a0 = 13 ∧ k + 1 + 1 + 1 + 1 + 1 + 1 + 1 + 1 + 1 + 1 + 1 + 1 + 1 + 1 + 1 ≤ R.cells ∧ n + 16384 + 16384 + 16384 + 40 + 800 + 40 + 40 + 40 + 64 + 63 + 1260 + 640 + 640 + 30720 + 20 ≤ R.slots ∧ (∀ σ91 : Sto, σ91 = (nO (uR σ85 792 a0 (some (sN σ79))) 50 20) → sK σ91 a0 = 13 ∧ k + 1 + 1 + 1 + 1 + 1 + 1 + 1 + 1 + 1 + 1 + 1 + 1 + 1 + 1 + 1 + 1 ≤ R.cells ∧ n + 16384 + 16384 + 16384 + 40 + 800 + 40 + 40 + 40 + 64 + 63 + 1260 + 640 + 640 + 30720 + 20 + 20 ≤ R.slots ∧ (∀ σ97 : Sto, σ97 = (nO (uR σ91 795 a0 (some (sN σ85))) 50 20) → sK σ97 a0 = 13 ∧ k + 1 + 1 + 1 + 1 + 1 + 1 + 1 + 1 + 1 + 1 + 1 + 1 + 1 + 1 + 1 + 1 + 1 ≤ R.cells ∧ n + 16384 + 16384 + 16384 + 40 + 800 + 40 + 40 + 40 + 64 + 63 + 1260 + 640 + 640 + 30720 + 20 + 20 + 10 ≤ R.slots ∧ (∀ σ103 : Sto, σ103 = (nO (uR σ97 796 a0 (some (sN σ91))) 50 10) → sK σ103 a0 = 13 ∧ k + 1 + 1 + 1 + 1 + 1 + 1 + 1 + 1 + 1 + 1 + 1 + 1 + 1 + 1 + 1 + 1 + 1 + 1 ≤ R.cells ∧ n + 16384 + 16384 + 16384 + 40 + 800 + 40 + 40 + 40 + 64 + 63 + 1260 + 640 + 640 + 30720 + 20 + 20 + 10 + 210 ≤ R.slots ∧ (∀ σ109 : Sto, σ109 = (nO (uR σ103 798 a0 (some (sN σ97))) 50 210) → sK σ109 a0 = 13 ∧ k + 1 + 1 + 1 + 1 + 1 + 1 + 1 + 1 + 1 + 1 + 1 + 1 + 1 + 1 + 1 + 1 + 1 + 1 + 1 ≤ R.cells ∧ n + 16384 + 16384 + 16384 + 40 + 800 + 40 + 40 + 40 + 64 + 63 + 1260 + 640 + 640 + 30720 + 20 + 20 + 10 + 210 + 210 ≤ R.slots ∧ (∀ σ115 : Sto, σ115 = (nO (uR σ109 799 a0 (some (sN σ103))) 50 210) → sK σ115 a0 = 13 ∧ k + 1 + 1 + 1 + 1 + 1 + 1 + 1 + 1 + 1 + 1 + 1 + 1 + 1 + 1 + 1 + 1 + 1 + 1 + 1 + 1 ≤ R.cells ∧ n + 16384 + 16384 + 16384 + 40 + 800 + 40 + 40 + 40 + 64 + 63 + 1260 + 640 + 640 + 30720 + 20 + 20 + 10 + 210 + 210 + 840 ≤ R.slots ∧ (∀ σ121 : Sto, σ121 = (nO (uR σ115 800 a0 (some (sN σ109))) 50 840) → sK σ121 a0 = 13 ∧ k + 1 + 1 + 1 + 1 + 1 + 1 + 1 + 1 + 1 + 1 + 1 + 1 + 1 + 1 + 1 + 1 + 1 + 1 + 1 + 1 + 1 ≤ R.cells ∧ n + 16384 + 16384 + 16384 + 40 + 800 + 40 + 40 + 40 + 64 + 63 + 1260 + 640 + 640 + 30720 + 20 + 20 + 10 + 210 + 210 + 840 + 8400 ≤ R.slots ∧ (∀ σ127 : Sto, σ127 = (nO (uR σ121 801 a0 (some (sN σ115))) 51 8400) → sK σ127 a0 = 13 ∧ k + 1 + 1 + 1 + 1 + 1 + 1 + 1 + 1 + 1 + 1 + 1 + 1 + 1 + 1 + 1 + 1 + 1 + 1 + 1 + 1 + 1 + 1 ≤ R.cells ∧ n + 16384 + 16384 + 16384 + 40 + 800 + 40 + 40 + 40 + 64 + 63 + 1260 + 640 + 640 + 30720 + 20 + 20 + 10 + 210 + 210 + 840 + 8400 + 1260 ≤ R.slots ∧ (∀ σ133 : Sto, σ133 = (nO (uR σ127 802 a0 (some (sN σ121))) 51 1260) → sK σ133 a0 = 13 ∧ k + 1 + 1 + 1 + 1 + 1 + 1 + 1 + 1 + 1 + 1 + 1 + 1 + 1 + 1 + 1 + 1 + 1 + 1 + 1 + 1 + 1 + 1 + 1 ≤ R.cells ∧ n + 16384 + 16384 + 16384 + 40 + 800 + 40 + 40 + 40 + 64 + 63 + 1260 + 640 + 640 + 30720 + 20 + 20 + 10 + 210 + 210 + 840 + 8400 + 1260 + 20 ≤ R.slots ∧ (∀ σ139 : Sto, σ139 = (nO (uR σ133 803 a0 (some (sN σ127))) 50 20) → sK σ139 a0 = 13 ∧ k + 1 + 1 + 1 + 1 + 1 + 1 + 1 + 1 + 1 + 1 + 1 + 1 + 1 + 1 + 1 + 1 + 1 + 1 + 1 + 1 + 1 + 1 + 1 + 1 ≤ R.cells ∧ n + 16384 + 16384 + 16384 + 40 + 800 + 40 + 40 + 40 + 64 + 63 + 1260 + 640 + 640 + 30720 + 20 + 20 + 10 + 210 + 210 + 840 + 8400 + 1260 + 20 + 20 ≤ R.slots ∧ (∀ σ145 : Sto, σ145 = (nO (uR σ139 805 a0 (some (sN σ133))) 50 20) → sK σ145 a0 = 13 ∧ k + 1 + 1 + 1 + 1 + 1 + 1 + 1 + 1 + 1 + 1 + 1 + 1 + 1 + 1 + 1 + 1 + 1 + 1 + 1 + 1 + 1 + 1 + 1 + 1 + 1 ≤ R.cells ∧ n + 16384 + 16384 + 16384 + 40 + 800 + 40 + 40 + 40 + 64 + 63 + 1260 + 640 + 640 + 30720 + 20 + 20 + 10 + 210 + 210 + 840 + 8400 + 1260 + 20 + 20 + 20 ≤ R.slots ∧ (∀ σ151 : Sto, σ151 = (nO (uR σ145 807 a0 (some (sN σ139))) 50 20) → sK σ151 a0 = 13 ∧ k + 1 + 1 + 1 + 1 + 1 + 1 + 1 + 1 + 1 + 1 + 1 + 1 + 1 + 1 + 1 + 1 + 1 + 1 + 1 + 1 + 1 + 1 + 1 + 1 + 1 + 1 ≤ R.cells ∧ n + 16384 + 16384 + 16384 + 40 + 800 + 40 + 40 + 40 + 64 + 63 + 1260 + 640 + 640 + 30720 + 20 + 20 + 10 + 210 + 210 + 840 + 8400 + 1260 + 20 + 20 + 20 + 20 ≤ R.slots ∧ (∀ σ157 : Sto, σ157 = (nO (uR σ151 808 a0 (some (sN σ145))) 52 20) → sK σ157 a0 = 13 ∧ k + 1 + 1 + 1 + 1 + 1 + 1 + 1 + 1 + 1 + 1 + 1 + 1 + 1 + 1 + 1 + 1 + 1 + 1 + 1 + 1 + 1 + 1 + 1 + 1 + 1 + 1 + 1 ≤ R.cells ∧ n + 16384 + 16384 + 16384 + 40 + 800 + 40 + 40 + 40 + 64 + 63 + 1260 + 640 + 640 + 30720 + 20 + 20 + 10 + 210 + 210 + 840 + 8400 + 1260 + 20 + 20 + 20 + 20 + 120 ≤ R.slots ∧ (∀ σ163 : Sto, σ163 = (nO (uR σ157 809 a0 (some (sN σ151))) 50 120) → sK σ163 a0 = 13 ∧ k + 1 + 1 + 1 + 1 + 1 + 1 + 1 + 1 + 1 + 1 + 1 + 1 + 1 + 1 + 1 + 1 + 1 + 1 + 1 + 1 + 1 + 1 + 1 + 1 + 1 + 1 + 1 + 1 ≤ R.cells ∧ n + 16384 + 16384 + 16384 + 40 + 800 + 40 + 40 + 40 + 64 + 63 + 1260 + 640 + 640 + 30720 + 20 + 20 + 10 + 210 + 210 + 840 + 8400 + 1260 + 20 + 20 + 20 + 20 + 120 + 81 ≤ R.slots ∧ (∀ σ169 : Sto, σ169 = (nO (uR σ163 810 a0 (some (sN σ157))) 50 81) → sK σ169 a0 = 13 ∧ k + 1 + 1 + 1 + 1 + 1 + 1 + 1 + 1 + 1 + 1 + 1 + 1 + 1 + 1 + 1 + 1 + 1 + 1 + 1 + 1 + 1 + 1 + 1 + 1 + 1 + 1 + 1 + 1 + 1 ≤ R.cells ∧ n + 16384 + 16384 + 16384 + 40 + 800 + 40 + 40 + 40 + 64 + 63 + 1260 + 640 + 640 + 30720 + 20 + 20 + 10 + 210 + 210 + 840 + 8400 + 1260 + 20 + 20 + 20 + 20 + 120 + 81 + 441 ≤ R.slots ∧ (∀ σ175 : Sto, σ175 = (nO (uR σ169 811 a0 (some (sN σ163))) 50 441) → sK σ175 a0 = 13 ∧ k + 1 + 1 + 1 + 1 + 1 + 1 + 1 + 1 + 1 + 1 + 1 + 1 + 1 + 1 + 1 + 1 + 1 + 1 + 1 + 1 + 1 + 1 + 1 + 1 + 1 + 1 + 1 + 1 + 1 + 1 ≤ R.cells ∧ n + 16384 + 16384 + 16384 + 40 + 800 + 40 + 40 + 40 + 64 + 63 + 1260 + 640 + 640 + 30720 + 20 + 20 + 10 + 210 + 210 + 840 + 8400 + 1260 + 20 + 20 + 20 + 20 + 120 + 81 + 441 + 20 ≤ R.slots ∧ (∀ σ181 : Sto, σ181 = (nO (uR σ175 812 a0 (some (sN σ169))) 50 20) → sK σ181 a0 = 13 ∧ k + 1 + 1 + 1 + 1 + 1 + 1 + 1 + 1 + 1 + 1 + 1 + 1 + 1 + 1 + 1 + 1 + 1 + 1 + 1 + 1 + 1 + 1 + 1 + 1 + 1 + 1 + 1 + 1 + 1 + 1 + 1 ≤ R.cells ∧ n + 16384 + 16384 + 16384 + 40 + 800 + 40 + 40 + 40 + 64 + 63 + 1260 + 640 + 640 + 30720 + 20 + 20 + 10 + 210 + 210 + 840 + 8400 + 1260 + 20 + 20 + 20 + 20 + 120 + 81 + 441 + 20 + 20 ≤ R.slots ∧ (∀ σ187 : Sto, σ187 = (nO (uR σ181 813 a0 (some (sN σ175))) 50 20) → sK σ187 a0 = 13 ∧ k + 1 + 1 + 1 + 1 + 1 + 1 + 1 + 1 + 1 + 1 + 1 + 1 + 1 + 1 + 1 + 1 + 1 + 1 + 1 + 1 + 1 + 1 + 1 + 1 + 1 + 1 + 1 + 1 + 1 + 1 + 1 + 1 ≤ R.cells ∧ n + 16384 + 16384 + 16384 + 40 + 800 + 40 + 40 + 40 + 64 + 63 + 1260 + 640 + 640 + 30720 + 20 + 20 + 10 + 210 + 210 + 840 + 8400 + 1260 + 20 + 20 + 20 + 20 + 120 + 81 + 441 + 20 + 20 + 44 ≤ R.slots ∧ (∀ σ193 : Sto, σ193 = (nO (uR σ187 814 a0 (some (sN σ181))) 50 44) → sK σ193 a0 = 13 ∧ k + 1 + 1 + 1 + 1 + 1 + 1 + 1 + 1 + 1 + 1 + 1 + 1 + 1 + 1 + 1 + 1 + 1 + 1 + 1 + 1 + 1 + 1 + 1 + 1 + 1 + 1 + 1 + 1 + 1 + 1 + 1 + 1 + 1 ≤ R.cells ∧ n + 16384 + 16384 + 16384 + 40 + 800 + 40 + 40 + 40 + 64 + 63 + 1260 + 640 + 640 + 30720 + 20 + 20 + 10 + 210 + 210 + 840 + 8400 + 1260 + 20 + 20 + 20 + 20 + 120 + 81 + 441 + 20 + 20 + 44 + 44 ≤ R.slots ∧ (∀ σ199 : Sto, σ199 = (nO (uR σ193 815 a0 (some (sN σ187))) 50 44) → sK σ199 a0 = 13 ∧ k + 1 + 1 + 1 + 1 + 1 + 1 + 1 + 1 + 1 + 1 + 1 + 1 + 1 + 1 + 1 + 1 + 1 + 1 + 1 + 1 + 1 + 1 + 1 + 1 + 1 + 1 + 1 + 1 + 1 + 1 + 1 + 1 + 1 + 1 ≤ R.cells ∧ n + 16384 + 16384 + 16384 + 40 + 800 + 40 + 40 + 40 + 64 + 63 + 1260 + 640 + 640 + 30720 + 20 + 20 + 10 + 210 + 210 + 840 + 8400 + 1260 + 20 + 20 + 20 + 20 + 120 + 81 + 441 + 20 + 20 + 44 + 44 + 20 ≤ R.slots ∧ (∀ σ205 : Sto, σ205 = (nO (uR σ199 816 a0 (some (sN σ193))) 50 20) → sK σ205 a0 = 13 ∧ k + 1 + 1 + 1 + 1 + 1 + 1 + 1 + 1 + 1 + 1 + 1 + 1 + 1 + 1 + 1 + 1 + 1 + 1 + 1 + 1 + 1 + 1 + 1 + 1 + 1 + 1 + 1 + 1 + 1 + 1 + 1 + 1 + 1 + 1 + 1 ≤ R.cells ∧ n + 16384 + 16384 + 16384 + 40 + 800 + 40 + 40 + 40 + 64 + 63 + 1260 + 640 + 640 + 30720 + 20 + 20 + 10 + 210 + 210 + 840 + 8400 + 1260 + 20 + 20 + 20 + 20 + 120 + 81 + 441 + 20 + 20 + 44 + 44 + 20 + 484 ≤ R.slots ∧ (∀ σ211 : Sto, σ211 = (nO (uR σ205 817 a0 (some (sN σ199))) 50 484) → sK σ211 a0 = 13 ∧ k + 1 + 1 + 1 + 1 + 1 + 1 + 1 + 1 + 1 + 1 + 1 + 1 + 1 + 1 + 1 + 1 + 1 + 1 + 1 + 1 + 1 + 1 + 1 + 1 + 1 + 1 + 1 + 1 + 1 + 1 + 1 + 1 + 1 + 1 + 1 + 1 ≤ R.cells ∧ n + 16384 + 16384 + 16384 + 40 + 800 + 40 + 40 + 40 + 64 + 63 + 1260 + 640 + 640 + 30720 + 20 + 20 + 10 + 210 + 210 + 840 + 8400 + 1260 + 20 + 20 + 20 + 20 + 120 + 81 + 441 + 20 + 20 + 44 + 44 + 20 + 484 + 484 ≤ R.slots ∧ (∀ σ217 : Sto, σ217 = (nO (uR σ211 818 a0 (some (sN σ205))) 50 484) → sK σ217 a0 = 13 ∧ k + 1 + 1 + 1 + 1 + 1 + 1 + 1 + 1 + 1 + 1 + 1 + 1 + 1 + 1 + 1 + 1 + 1 + 1 + 1 + 1 + 1 + 1 + 1 + 1 + 1 + 1 + 1 + 1 + 1 + 1 + 1 + 1 + 1 + 1 + 1 + 1 + 1 ≤ R.cells ∧ n + 16384 + 16384 + 16384 + 40 + 800 + 40 + 40 + 40 + 64 + 63 + 1260 + 640 + 640 + 30720 + 20 + 20 + 10 + 210 + 210 + 840 + 8400 + 1260 + 20 + 20 + 20 + 20 + 120 + 81 + 441 + 20 + 20 + 44 + 44 + 20 + 484 + 484 + 128 ≤ R.slots ∧ (∀ σ223 : Sto, σ223 = (nO (uR σ217 819 a0 (some (sN σ211))) 50 128) → sK σ223 a0 = 13 ∧ (∃ b225 : Nat, fR (uR σ223 820 a0 (some (sN σ217))) 776 a0 = some b225 ∧ sK σ223 b225 = 50 ∧ 0 ≤ (0 : Int) ∧ (0 : Int) < sZ σ223 b225 ∧ (∃ b230 : Nat, fR (uR σ223 820 a0 (some (sN σ217))) 777 a0 = some b230 ∧ sK σ223 b230 = 50 ∧ 0 ≤ (0 : Int) ∧ (0 : Int) < sZ σ223 b230 ∧ (∃ b235 : Nat, fR (uR σ223 820 a0 (some (sN σ217))) 778 a0 = some b235 ∧ sK σ223 b235 = 50 ∧ 0 ≤ (0 : Int) ∧ (0 : Int) < sZ σ223 b235 ∧ Aw Ω M_Mdl_init R F (k + 1 + 1 + 1 + 1 + 1 + 1 + 1 + 1 + 1 + 1 + 1 + 1 + 1 + 1 + 1 + 1 + 1 + 1 + 1 + 1 + 1 + 1 + 1 + 1 + 1 + 1 + 1 + 1 + 1 + 1 + 1 + 1 + 1 + 1 + 1 + 1 + 1) (n + 16384 + 16384 + 16384 + 40 + 800 + 40 + 40 + 40 + 64 + 63 + 1260 + 640 + 640 + 30720 + 20 + 20 + 10 + 210 + 210 + 840 + 8400 + 1260 + 20 + 20 + 20 + 20 + 120 + 81 + 441 + 20 + 20 + 44 + 44 + 20 + 484 + 484 + 128) 343 [xr (some a0)] [] (vI (vI (vI (uI (uR σ223 820 a0 (some (sN σ217))) 773 a0 1) b225 0 (-1)) b230 0 (-1)) b235 0 (-1))))))))))))))))))))))))))))))))))))))))))) : Aw Ω M_Mdl_init R F k n 0 [xr (some a0)] [] σ := by
  refine Aw.aload_n rfl d_Mdl_init_0 ?_
  obtain ⟨o1, o2, h⟩ := h
  refine Aw.objInit ml_Mdl_1 oi_1 oi_2 o1 o2 d_Mdl_init_1 ?_
  refine Aw.aload_n rfl d_Mdl_init_4 ?_
  refine Aw.sipush (by decide) d_Mdl_init_5 ?_
  obtain ⟨o5, o6, h⟩ := h
  refine Aw.newarr 1 (by decide) rfl arc_1 (by decide) (by decide) o5 o6 d_Mdl_init_8 ?_
  obtain ⟨σ7, hσ7⟩ : ∃ z, z = (nO σ 51 16384) := ⟨_, rfl⟩
  refine Aw.toS (σ' := σ7) hσ7 ?_
  have h := h σ7 hσ7
  obtain ⟨o8, h⟩ := h
  refine Aw.putRF (f := 770) 12 2 fm_Mdl_7 (by decide) (by decide) rfl rfl o8 rfl rfl rfl rfl d_Mdl_init_10 ?_
  refine Aw.aload_n rfl d_Mdl_init_13 ?_
  refine Aw.sipush (by decide) d_Mdl_init_14 ?_
  obtain ⟨o11, o12, h⟩ := h
  refine Aw.newarr 0 (by decide) rfl arc_0 (by decide) (by decide) o11 o12 d_Mdl_init_17 ?_
  obtain ⟨σ13, hσ13⟩ : ∃ z, z = (nO (uR σ7 770 a0 (some (sN σ))) 50 16384) := ⟨_, rfl⟩
  refine Aw.toS (σ' := σ13) hσ13 ?_
  have h := h σ13 hσ13
  obtain ⟨o14, h⟩ := h
  refine Aw.putRF (f := 771) 12 3 fm_Mdl_13 (by decide) (by decide) rfl rfl o14 rfl rfl rfl rfl d_Mdl_init_19 ?_
  refine Aw.aload_n rfl d_Mdl_init_22 ?_
  refine Aw.sipush (by decide) d_Mdl_init_23 ?_
  obtain ⟨o17, o18, h⟩ := h
  refine Aw.newarr 0 (by decide) rfl arc_0 (by decide) (by decide) o17 o18 d_Mdl_init_26 ?_
  obtain ⟨σ19, hσ19⟩ : ∃ z, z = (nO (uR σ13 771 a0 (some (sN σ7))) 50 16384) := ⟨_, rfl⟩
  refine Aw.toS (σ' := σ19) hσ19 ?_
  have h := h σ19 hσ19
  obtain ⟨o20, h⟩ := h
  refine Aw.putRF (f := 772) 12 4 fm_Mdl_17 (by decide) (by decide) rfl rfl o20 rfl rfl rfl rfl d_Mdl_init_28 ?_
  refine Aw.aload_n rfl d_Mdl_init_31 ?_
  refine Aw.bipush (by decide) d_Mdl_init_32 ?_
  obtain ⟨o23, o24, h⟩ := h
  refine Aw.newarr 0 (by decide) rfl arc_0 (by decide) (by decide) o23 o24 d_Mdl_init_34 ?_
  obtain ⟨σ25, hσ25⟩ : ∃ z, z = (nO (uR σ19 772 a0 (some (sN σ13))) 50 40) := ⟨_, rfl⟩
  refine Aw.toS (σ' := σ25) hσ25 ?_
  have h := h σ25 hσ25
  obtain ⟨o26, h⟩ := h
  refine Aw.putRF (f := 774) 12 6 fm_Mdl_20 (by decide) (by decide) rfl rfl o26 rfl rfl rfl rfl d_Mdl_init_36 ?_
  refine Aw.aload_n rfl d_Mdl_init_39 ?_
  refine Aw.sipush (by decide) d_Mdl_init_40 ?_
  obtain ⟨o29, o30, h⟩ := h
  refine Aw.newarr 0 (by decide) rfl arc_0 (by decide) (by decide) o29 o30 d_Mdl_init_43 ?_
  obtain ⟨σ31, hσ31⟩ : ∃ z, z = (nO (uR σ25 774 a0 (some (sN σ19))) 50 800) := ⟨_, rfl⟩
  refine Aw.toS (σ' := σ31) hσ31 ?_
  have h := h σ31 hσ31
  obtain ⟨o32, h⟩ := h
  refine Aw.putRF (f := 775) 12 7 fm_Mdl_23 (by decide) (by decide) rfl rfl o32 rfl rfl rfl rfl d_Mdl_init_45 ?_
  refine Aw.aload_n rfl d_Mdl_init_48 ?_
  refine Aw.bipush (by decide) d_Mdl_init_49 ?_
  obtain ⟨o35, o36, h⟩ := h
  refine Aw.newarr 0 (by decide) rfl arc_0 (by decide) (by decide) o35 o36 d_Mdl_init_51 ?_
  obtain ⟨σ37, hσ37⟩ : ∃ z, z = (nO (uR σ31 775 a0 (some (sN σ25))) 50 40) := ⟨_, rfl⟩
  refine Aw.toS (σ' := σ37) hσ37 ?_
  have h := h σ37 hσ37
  obtain ⟨o38, h⟩ := h
  refine Aw.putRF (f := 776) 12 8 fm_Mdl_26 (by decide) (by decide) rfl rfl o38 rfl rfl rfl rfl d_Mdl_init_53 ?_
  refine Aw.aload_n rfl d_Mdl_init_56 ?_
  refine Aw.bipush (by decide) d_Mdl_init_57 ?_
  obtain ⟨o41, o42, h⟩ := h
  refine Aw.newarr 0 (by decide) rfl arc_0 (by decide) (by decide) o41 o42 d_Mdl_init_59 ?_
  obtain ⟨σ43, hσ43⟩ : ∃ z, z = (nO (uR σ37 776 a0 (some (sN σ31))) 50 40) := ⟨_, rfl⟩
  refine Aw.toS (σ' := σ43) hσ43 ?_
  have h := h σ43 hσ43
  obtain ⟨o44, h⟩ := h
  refine Aw.putRF (f := 777) 12 9 fm_Mdl_29 (by decide) (by decide) rfl rfl o44 rfl rfl rfl rfl d_Mdl_init_61 ?_
  refine Aw.aload_n rfl d_Mdl_init_64 ?_
  refine Aw.bipush (by decide) d_Mdl_init_65 ?_
  obtain ⟨o47, o48, h⟩ := h
  refine Aw.newarr 0 (by decide) rfl arc_0 (by decide) (by decide) o47 o48 d_Mdl_init_67 ?_
  obtain ⟨σ49, hσ49⟩ : ∃ z, z = (nO (uR σ43 777 a0 (some (sN σ37))) 50 40) := ⟨_, rfl⟩
  refine Aw.toS (σ' := σ49) hσ49 ?_
  have h := h σ49 hσ49
  obtain ⟨o50, h⟩ := h
  refine Aw.putRF (f := 778) 12 10 fm_Mdl_32 (by decide) (by decide) rfl rfl o50 rfl rfl rfl rfl d_Mdl_init_69 ?_
  refine Aw.aload_n rfl d_Mdl_init_72 ?_
  refine Aw.bipush (by decide) d_Mdl_init_73 ?_
  obtain ⟨o53, o54, h⟩ := h
  refine Aw.newarr 0 (by decide) rfl arc_0 (by decide) (by decide) o53 o54 d_Mdl_init_75 ?_
  obtain ⟨σ55, hσ55⟩ : ∃ z, z = (nO (uR σ49 778 a0 (some (sN σ43))) 50 64) := ⟨_, rfl⟩
  refine Aw.toS (σ' := σ55) hσ55 ?_
  have h := h σ55 hσ55
  obtain ⟨o56, h⟩ := h
  refine Aw.putRF (f := 784) 12 16 fm_Mdl_35 (by decide) (by decide) rfl rfl o56 rfl rfl rfl rfl d_Mdl_init_77 ?_
  refine Aw.aload_n rfl d_Mdl_init_80 ?_
  refine Aw.bipush (by decide) d_Mdl_init_81 ?_
  obtain ⟨o59, o60, h⟩ := h
  refine Aw.newarr 0 (by decide) rfl arc_0 (by decide) (by decide) o59 o60 d_Mdl_init_83 ?_
  obtain ⟨σ61, hσ61⟩ : ∃ z, z = (nO (uR σ55 784 a0 (some (sN σ49))) 50 63) := ⟨_, rfl⟩
  refine Aw.toS (σ' := σ61) hσ61 ?_
  have h := h σ61 hσ61
  obtain ⟨o62, h⟩ := h
  refine Aw.putRF (f := 787) 12 19 fm_Mdl_38 (by decide) (by decide) rfl rfl o62 rfl rfl rfl rfl d_Mdl_init_85 ?_
  refine Aw.aload_n rfl d_Mdl_init_88 ?_
  refine Aw.sipush (by decide) d_Mdl_init_89 ?_
  obtain ⟨o65, o66, h⟩ := h
  refine Aw.newarr 0 (by decide) rfl arc_0 (by decide) (by decide) o65 o66 d_Mdl_init_92 ?_
  obtain ⟨σ67, hσ67⟩ : ∃ z, z = (nO (uR σ61 787 a0 (some (sN σ55))) 50 1260) := ⟨_, rfl⟩
  refine Aw.toS (σ' := σ67) hσ67 ?_
  have h := h σ67 hσ67
  obtain ⟨o68, h⟩ := h
  refine Aw.putRF (f := 788) 12 20 fm_Mdl_41 (by decide) (by decide) rfl rfl o68 rfl rfl rfl rfl d_Mdl_init_94 ?_
  refine Aw.aload_n rfl d_Mdl_init_97 ?_
  refine Aw.sipush (by decide) d_Mdl_init_98 ?_
  obtain ⟨o71, o72, h⟩ := h
  refine Aw.newarr 0 (by decide) rfl arc_0 (by decide) (by decide) o71 o72 d_Mdl_init_101 ?_
  obtain ⟨σ73, hσ73⟩ : ∃ z, z = (nO (uR σ67 788 a0 (some (sN σ61))) 50 640) := ⟨_, rfl⟩
  refine Aw.toS (σ' := σ73) hσ73 ?_
  have h := h σ73 hσ73
  obtain ⟨o74, h⟩ := h
  refine Aw.putRF (f := 790) 12 22 fm_Mdl_44 (by decide) (by decide) rfl rfl o74 rfl rfl rfl rfl d_Mdl_init_103 ?_
  refine Aw.aload_n rfl d_Mdl_init_106 ?_
  refine Aw.sipush (by decide) d_Mdl_init_107 ?_
  obtain ⟨o77, o78, h⟩ := h
  refine Aw.newarr 0 (by decide) rfl arc_0 (by decide) (by decide) o77 o78 d_Mdl_init_110 ?_
  obtain ⟨σ79, hσ79⟩ : ∃ z, z = (nO (uR σ73 790 a0 (some (sN σ67))) 50 640) := ⟨_, rfl⟩
  refine Aw.toS (σ' := σ79) hσ79 ?_
  have h := h σ79 hσ79
  obtain ⟨o80, h⟩ := h
  refine Aw.putRF (f := 791) 12 23 fm_Mdl_47 (by decide) (by decide) rfl rfl o80 rfl rfl rfl rfl d_Mdl_init_112 ?_
  refine Aw.aload_n rfl d_Mdl_init_115 ?_
  refine Aw.sipush (by decide) d_Mdl_init_116 ?_
  obtain ⟨o83, o84, h⟩ := h
  refine Aw.newarr 0 (by decide) rfl arc_0 (by decide) (by decide) o83 o84 d_Mdl_init_119 ?_
  obtain ⟨σ85, hσ85⟩ : ∃ z, z = (nO (uR σ79 791 a0 (some (sN σ73))) 50 30720) := ⟨_, rfl⟩
  refine Aw.toS (σ' := σ85) hσ85 ?_
  have h := h σ85 hσ85
  obtain ⟨o86, h⟩ := h
  refine Aw.putRF (f := 792) 12 24 fm_Mdl_50 (by decide) (by decide) rfl rfl o86 rfl rfl rfl rfl d_Mdl_init_121 ?_
  refine Aw.aload_n rfl d_Mdl_init_124 ?_
  refine Aw.bipush (by decide) d_Mdl_init_125 ?_
  obtain ⟨o89, o90, h⟩ := h
  refine Aw.newarr 0 (by decide) rfl arc_0 (by decide) (by decide) o89 o90 d_Mdl_init_127 ?_
  obtain ⟨σ91, hσ91⟩ : ∃ z, z = (nO (uR σ85 792 a0 (some (sN σ79))) 50 20) := ⟨_, rfl⟩
  refine Aw.toS (σ' := σ91) hσ91 ?_
  have h := h σ91 hσ91
  obtain ⟨o92, h⟩ := h
  refine Aw.putRF (f := 795) 12 27 fm_Mdl_53 (by decide) (by decide) rfl rfl o92 rfl rfl rfl rfl d_Mdl_init_129 ?_
  refine Aw.aload_n rfl d_Mdl_init_132 ?_
  refine Aw.bipush (by decide) d_Mdl_init_133 ?_
  obtain ⟨o95, o96, h⟩ := h
  refine Aw.newarr 0 (by decide) rfl arc_0 (by decide) (by decide) o95 o96 d_Mdl_init_135 ?_
  obtain ⟨σ97, hσ97⟩ : ∃ z, z = (nO (uR σ91 795 a0 (some (sN σ85))) 50 20) := ⟨_, rfl⟩
  refine Aw.toS (σ' := σ97) hσ97 ?_
  have h := h σ97 hσ97
  obtain ⟨o98, h⟩ := h
  refine Aw.putRF (f := 796) 12 28 fm_Mdl_56 (by decide) (by decide) rfl rfl o98 rfl rfl rfl rfl d_Mdl_init_137 ?_
  refine Aw.aload_n rfl d_Mdl_init_140 ?_
  refine Aw.bipush (by decide) d_Mdl_init_141 ?_
  obtain ⟨o101, o102, h⟩ := h
  refine Aw.newarr 0 (by decide) rfl arc_0 (by decide) (by decide) o101 o102 d_Mdl_init_143 ?_
  obtain ⟨σ103, hσ103⟩ : ∃ z, z = (nO (uR σ97 796 a0 (some (sN σ91))) 50 10) := ⟨_, rfl⟩
  refine Aw.toS (σ' := σ103) hσ103 ?_
  have h := h σ103 hσ103
  obtain ⟨o104, h⟩ := h
  refine Aw.putRF (f := 798) 12 30 fm_Mdl_59 (by decide) (by decide) rfl rfl o104 rfl rfl rfl rfl d_Mdl_init_145 ?_
  refine Aw.aload_n rfl d_Mdl_init_148 ?_
  refine Aw.sipush (by decide) d_Mdl_init_149 ?_
  obtain ⟨o107, o108, h⟩ := h
  refine Aw.newarr 0 (by decide) rfl arc_0 (by decide) (by decide) o107 o108 d_Mdl_init_152 ?_
  obtain ⟨σ109, hσ109⟩ : ∃ z, z = (nO (uR σ103 798 a0 (some (sN σ97))) 50 210) := ⟨_, rfl⟩
  refine Aw.toS (σ' := σ109) hσ109 ?_
  have h := h σ109 hσ109
  obtain ⟨o110, h⟩ := h
  refine Aw.putRF (f := 799) 12 31 fm_Mdl_62 (by decide) (by decide) rfl rfl o110 rfl rfl rfl rfl d_Mdl_init_154 ?_
  refine Aw.aload_n rfl d_Mdl_init_157 ?_
  refine Aw.sipush (by decide) d_Mdl_init_158 ?_
  obtain ⟨o113, o114, h⟩ := h
  refine Aw.newarr 0 (by decide) rfl arc_0 (by decide) (by decide) o113 o114 d_Mdl_init_161 ?_
  obtain ⟨σ115, hσ115⟩ : ∃ z, z = (nO (uR σ109 799 a0 (some (sN σ103))) 50 210) := ⟨_, rfl⟩
  refine Aw.toS (σ' := σ115) hσ115 ?_
  have h := h σ115 hσ115
  obtain ⟨o116, h⟩ := h
  refine Aw.putRF (f := 800) 12 32 fm_Mdl_65 (by decide) (by decide) rfl rfl o116 rfl rfl rfl rfl d_Mdl_init_163 ?_
  refine Aw.aload_n rfl d_Mdl_init_166 ?_
  refine Aw.sipush (by decide) d_Mdl_init_167 ?_
  obtain ⟨o119, o120, h⟩ := h
  refine Aw.newarr 0 (by decide) rfl arc_0 (by decide) (by decide) o119 o120 d_Mdl_init_170 ?_
  obtain ⟨σ121, hσ121⟩ : ∃ z, z = (nO (uR σ115 800 a0 (some (sN σ109))) 50 840) := ⟨_, rfl⟩
  refine Aw.toS (σ' := σ121) hσ121 ?_
  have h := h σ121 hσ121
  obtain ⟨o122, h⟩ := h
  refine Aw.putRF (f := 801) 12 33 fm_Mdl_68 (by decide) (by decide) rfl rfl o122 rfl rfl rfl rfl d_Mdl_init_172 ?_
  refine Aw.aload_n rfl d_Mdl_init_175 ?_
  refine Aw.sipush (by decide) d_Mdl_init_176 ?_
  obtain ⟨o125, o126, h⟩ := h
  refine Aw.newarr 1 (by decide) rfl arc_1 (by decide) (by decide) o125 o126 d_Mdl_init_179 ?_
  obtain ⟨σ127, hσ127⟩ : ∃ z, z = (nO (uR σ121 801 a0 (some (sN σ115))) 51 8400) := ⟨_, rfl⟩
  refine Aw.toS (σ' := σ127) hσ127 ?_
  have h := h σ127 hσ127
  obtain ⟨o128, h⟩ := h
  refine Aw.putRF (f := 802) 12 34 fm_Mdl_71 (by decide) (by decide) rfl rfl o128 rfl rfl rfl rfl d_Mdl_init_181 ?_
  refine Aw.aload_n rfl d_Mdl_init_184 ?_
  refine Aw.sipush (by decide) d_Mdl_init_185 ?_
  obtain ⟨o131, o132, h⟩ := h
  refine Aw.newarr 1 (by decide) rfl arc_1 (by decide) (by decide) o131 o132 d_Mdl_init_188 ?_
  obtain ⟨σ133, hσ133⟩ : ∃ z, z = (nO (uR σ127 802 a0 (some (sN σ121))) 51 1260) := ⟨_, rfl⟩
  refine Aw.toS (σ' := σ133) hσ133 ?_
  have h := h σ133 hσ133
  obtain ⟨o134, h⟩ := h
  refine Aw.putRF (f := 803) 12 35 fm_Mdl_74 (by decide) (by decide) rfl rfl o134 rfl rfl rfl rfl d_Mdl_init_190 ?_
  refine Aw.aload_n rfl d_Mdl_init_193 ?_
  refine Aw.bipush (by decide) d_Mdl_init_194 ?_
  obtain ⟨o137, o138, h⟩ := h
  refine Aw.newarr 0 (by decide) rfl arc_0 (by decide) (by decide) o137 o138 d_Mdl_init_196 ?_
  obtain ⟨σ139, hσ139⟩ : ∃ z, z = (nO (uR σ133 803 a0 (some (sN σ127))) 50 20) := ⟨_, rfl⟩
  refine Aw.toS (σ' := σ139) hσ139 ?_
  have h := h σ139 hσ139
  obtain ⟨o140, h⟩ := h
  refine Aw.putRF (f := 805) 12 37 fm_Mdl_77 (by decide) (by decide) rfl rfl o140 rfl rfl rfl rfl d_Mdl_init_198 ?_
  refine Aw.aload_n rfl d_Mdl_init_201 ?_
  refine Aw.bipush (by decide) d_Mdl_init_202 ?_
  obtain ⟨o143, o144, h⟩ := h
  refine Aw.newarr 0 (by decide) rfl arc_0 (by decide) (by decide) o143 o144 d_Mdl_init_204 ?_
  obtain ⟨σ145, hσ145⟩ : ∃ z, z = (nO (uR σ139 805 a0 (some (sN σ133))) 50 20) := ⟨_, rfl⟩
  refine Aw.toS (σ' := σ145) hσ145 ?_
  have h := h σ145 hσ145
  obtain ⟨o146, h⟩ := h
  refine Aw.putRF (f := 807) 12 39 fm_Mdl_80 (by decide) (by decide) rfl rfl o146 rfl rfl rfl rfl d_Mdl_init_206 ?_
  refine Aw.aload_n rfl d_Mdl_init_209 ?_
  refine Aw.bipush (by decide) d_Mdl_init_210 ?_
  obtain ⟨o149, o150, h⟩ := h
  refine Aw.newarr 0 (by decide) rfl arc_0 (by decide) (by decide) o149 o150 d_Mdl_init_212 ?_
  obtain ⟨σ151, hσ151⟩ : ∃ z, z = (nO (uR σ145 807 a0 (some (sN σ139))) 50 20) := ⟨_, rfl⟩
  refine Aw.toS (σ' := σ151) hσ151 ?_
  have h := h σ151 hσ151
  obtain ⟨o152, h⟩ := h
  refine Aw.putRF (f := 808) 12 40 fm_Mdl_83 (by decide) (by decide) rfl rfl o152 rfl rfl rfl rfl d_Mdl_init_214 ?_
  refine Aw.aload_n rfl d_Mdl_init_217 ?_
  refine Aw.bipush (by decide) d_Mdl_init_218 ?_
  obtain ⟨o155, o156, h⟩ := h
  refine Aw.newarr 2 (by decide) rfl arc_2 (by decide) (by decide) o155 o156 d_Mdl_init_220 ?_
  obtain ⟨σ157, hσ157⟩ : ∃ z, z = (nO (uR σ151 808 a0 (some (sN σ145))) 52 20) := ⟨_, rfl⟩
  refine Aw.toS (σ' := σ157) hσ157 ?_
  have h := h σ157 hσ157
  obtain ⟨o158, h⟩ := h
  refine Aw.putRF (f := 809) 12 41 fm_Mdl_86 (by decide) (by decide) rfl rfl o158 rfl rfl rfl rfl d_Mdl_init_222 ?_
  refine Aw.aload_n rfl d_Mdl_init_225 ?_
  refine Aw.bipush (by decide) d_Mdl_init_226 ?_
  obtain ⟨o161, o162, h⟩ := h
  refine Aw.newarr 0 (by decide) rfl arc_0 (by decide) (by decide) o161 o162 d_Mdl_init_228 ?_
  obtain ⟨σ163, hσ163⟩ : ∃ z, z = (nO (uR σ157 809 a0 (some (sN σ151))) 50 120) := ⟨_, rfl⟩
  refine Aw.toS (σ' := σ163) hσ163 ?_
  have h := h σ163 hσ163
  obtain ⟨o164, h⟩ := h
  refine Aw.putRF (f := 810) 12 42 fm_Mdl_90 (by decide) (by decide) rfl rfl o164 rfl rfl rfl rfl d_Mdl_init_230 ?_
  refine Aw.aload_n rfl d_Mdl_init_233 ?_
  refine Aw.bipush (by decide) d_Mdl_init_234 ?_
  obtain ⟨o167, o168, h⟩ := h
  refine Aw.newarr 0 (by decide) rfl arc_0 (by decide) (by decide) o167 o168 d_Mdl_init_236 ?_
  obtain ⟨σ169, hσ169⟩ : ∃ z, z = (nO (uR σ163 810 a0 (some (sN σ157))) 50 81) := ⟨_, rfl⟩
  refine Aw.toS (σ' := σ169) hσ169 ?_
  have h := h σ169 hσ169
  obtain ⟨o170, h⟩ := h
  refine Aw.putRF (f := 811) 12 43 fm_Mdl_93 (by decide) (by decide) rfl rfl o170 rfl rfl rfl rfl d_Mdl_init_238 ?_
  refine Aw.aload_n rfl d_Mdl_init_241 ?_
  refine Aw.sipush (by decide) d_Mdl_init_242 ?_
  obtain ⟨o173, o174, h⟩ := h
  refine Aw.newarr 0 (by decide) rfl arc_0 (by decide) (by decide) o173 o174 d_Mdl_init_245 ?_
  obtain ⟨σ175, hσ175⟩ : ∃ z, z = (nO (uR σ169 811 a0 (some (sN σ163))) 50 441) := ⟨_, rfl⟩
  refine Aw.toS (σ' := σ175) hσ175 ?_
  have h := h σ175 hσ175
  obtain ⟨o176, h⟩ := h
  refine Aw.putRF (f := 812) 12 44 fm_Mdl_96 (by decide) (by decide) rfl rfl o176 rfl rfl rfl rfl d_Mdl_init_247 ?_
  refine Aw.aload_n rfl d_Mdl_init_250 ?_
  refine Aw.bipush (by decide) d_Mdl_init_251 ?_
  obtain ⟨o179, o180, h⟩ := h
  refine Aw.newarr 0 (by decide) rfl arc_0 (by decide) (by decide) o179 o180 d_Mdl_init_253 ?_
  obtain ⟨σ181, hσ181⟩ : ∃ z, z = (nO (uR σ175 812 a0 (some (sN σ169))) 50 20) := ⟨_, rfl⟩
  refine Aw.toS (σ' := σ181) hσ181 ?_
  have h := h σ181 hσ181
  obtain ⟨o182, h⟩ := h
  refine Aw.putRF (f := 813) 12 45 fm_Mdl_99 (by decide) (by decide) rfl rfl o182 rfl rfl rfl rfl d_Mdl_init_255 ?_
  refine Aw.aload_n rfl d_Mdl_init_258 ?_
  refine Aw.bipush (by decide) d_Mdl_init_259 ?_
  obtain ⟨o185, o186, h⟩ := h
  refine Aw.newarr 0 (by decide) rfl arc_0 (by decide) (by decide) o185 o186 d_Mdl_init_261 ?_
  obtain ⟨σ187, hσ187⟩ : ∃ z, z = (nO (uR σ181 813 a0 (some (sN σ175))) 50 20) := ⟨_, rfl⟩
  refine Aw.toS (σ' := σ187) hσ187 ?_
  have h := h σ187 hσ187
  obtain ⟨o188, h⟩ := h
  refine Aw.putRF (f := 814) 12 46 fm_Mdl_102 (by decide) (by decide) rfl rfl o188 rfl rfl rfl rfl d_Mdl_init_263 ?_
  refine Aw.aload_n rfl d_Mdl_init_266 ?_
  refine Aw.bipush (by decide) d_Mdl_init_267 ?_
  obtain ⟨o191, o192, h⟩ := h
  refine Aw.newarr 0 (by decide) rfl arc_0 (by decide) (by decide) o191 o192 d_Mdl_init_269 ?_
  obtain ⟨σ193, hσ193⟩ : ∃ z, z = (nO (uR σ187 814 a0 (some (sN σ181))) 50 44) := ⟨_, rfl⟩
  refine Aw.toS (σ' := σ193) hσ193 ?_
  have h := h σ193 hσ193
  obtain ⟨o194, h⟩ := h
  refine Aw.putRF (f := 815) 12 47 fm_Mdl_105 (by decide) (by decide) rfl rfl o194 rfl rfl rfl rfl d_Mdl_init_271 ?_
  refine Aw.aload_n rfl d_Mdl_init_274 ?_
  refine Aw.bipush (by decide) d_Mdl_init_275 ?_
  obtain ⟨o197, o198, h⟩ := h
  refine Aw.newarr 0 (by decide) rfl arc_0 (by decide) (by decide) o197 o198 d_Mdl_init_277 ?_
  obtain ⟨σ199, hσ199⟩ : ∃ z, z = (nO (uR σ193 815 a0 (some (sN σ187))) 50 44) := ⟨_, rfl⟩
  refine Aw.toS (σ' := σ199) hσ199 ?_
  have h := h σ199 hσ199
  obtain ⟨o200, h⟩ := h
  refine Aw.putRF (f := 816) 12 48 fm_Mdl_108 (by decide) (by decide) rfl rfl o200 rfl rfl rfl rfl d_Mdl_init_279 ?_
  refine Aw.aload_n rfl d_Mdl_init_282 ?_
  refine Aw.bipush (by decide) d_Mdl_init_283 ?_
  obtain ⟨o203, o204, h⟩ := h
  refine Aw.newarr 0 (by decide) rfl arc_0 (by decide) (by decide) o203 o204 d_Mdl_init_285 ?_
  obtain ⟨σ205, hσ205⟩ : ∃ z, z = (nO (uR σ199 816 a0 (some (sN σ193))) 50 20) := ⟨_, rfl⟩
  refine Aw.toS (σ' := σ205) hσ205 ?_
  have h := h σ205 hσ205
  obtain ⟨o206, h⟩ := h
  refine Aw.putRF (f := 817) 12 49 fm_Mdl_111 (by decide) (by decide) rfl rfl o206 rfl rfl rfl rfl d_Mdl_init_287 ?_
  refine Aw.aload_n rfl d_Mdl_init_290 ?_
  refine Aw.sipush (by decide) d_Mdl_init_291 ?_
  obtain ⟨o209, o210, h⟩ := h
  refine Aw.newarr 0 (by decide) rfl arc_0 (by decide) (by decide) o209 o210 d_Mdl_init_294 ?_
  obtain ⟨σ211, hσ211⟩ : ∃ z, z = (nO (uR σ205 817 a0 (some (sN σ199))) 50 484) := ⟨_, rfl⟩
  refine Aw.toS (σ' := σ211) hσ211 ?_
  have h := h σ211 hσ211
  obtain ⟨o212, h⟩ := h
  refine Aw.putRF (f := 818) 12 50 fm_Mdl_114 (by decide) (by decide) rfl rfl o212 rfl rfl rfl rfl d_Mdl_init_296 ?_
  refine Aw.aload_n rfl d_Mdl_init_299 ?_
  refine Aw.sipush (by decide) d_Mdl_init_300 ?_
  obtain ⟨o215, o216, h⟩ := h
  refine Aw.newarr 0 (by decide) rfl arc_0 (by decide) (by decide) o215 o216 d_Mdl_init_303 ?_
  obtain ⟨σ217, hσ217⟩ : ∃ z, z = (nO (uR σ211 818 a0 (some (sN σ205))) 50 484) := ⟨_, rfl⟩
  refine Aw.toS (σ' := σ217) hσ217 ?_
  have h := h σ217 hσ217
  obtain ⟨o218, h⟩ := h
  refine Aw.putRF (f := 819) 12 51 fm_Mdl_117 (by decide) (by decide) rfl rfl o218 rfl rfl rfl rfl d_Mdl_init_305 ?_
  refine Aw.aload_n rfl d_Mdl_init_308 ?_
  refine Aw.sipush (by decide) d_Mdl_init_309 ?_
  obtain ⟨o221, o222, h⟩ := h
  refine Aw.newarr 0 (by decide) rfl arc_0 (by decide) (by decide) o221 o222 d_Mdl_init_312 ?_
  obtain ⟨σ223, hσ223⟩ : ∃ z, z = (nO (uR σ217 819 a0 (some (sN σ211))) 50 128) := ⟨_, rfl⟩
  refine Aw.toS (σ' := σ223) hσ223 ?_
  have h := h σ223 hσ223
  obtain ⟨o224, h⟩ := h
  refine Aw.putRF (f := 820) 12 52 fm_Mdl_120 (by decide) (by decide) rfl rfl o224 rfl rfl rfl rfl d_Mdl_init_314 ?_
  refine Aw.aload_n rfl d_Mdl_init_317 ?_
  refine Aw.iconst d_Mdl_init_318 ?_
  refine Aw.putI (f := 773) 12 5 fl_Mdl_123 (by decide) (by decide) rfl rfl o224 rfl ⟨by decide, by decide⟩ (Or.inl rfl) d_Mdl_init_319 ?_
  refine Aw.aload_n rfl d_Mdl_init_322 ?_
  obtain ⟨b225, e226, h⟩ := h
  refine Aw.getRs (f := 776) 12 8 fl_Mdl_26 (by decide) (by decide) rfl rfl o224 e226 d_Mdl_init_323 ?_
  refine Aw.iconst d_Mdl_init_326 ?_
  refine Aw.iconst d_Mdl_init_327 ?_
  obtain ⟨o227, h⟩ := h
  obtain ⟨o228, o229, h⟩ := h
  refine Aw.iast o227 o228 o229 ⟨by decide, by decide⟩ d_Mdl_init_328 ?_
  refine Aw.aload_n rfl d_Mdl_init_329 ?_
  obtain ⟨b230, e231, h⟩ := h
  refine Aw.getRs (f := 777) 12 9 fl_Mdl_29 (by decide) (by decide) rfl rfl o224 e231 d_Mdl_init_330 ?_
  refine Aw.iconst d_Mdl_init_333 ?_
  refine Aw.iconst d_Mdl_init_334 ?_
  obtain ⟨o232, h⟩ := h
  obtain ⟨o233, o234, h⟩ := h
  refine Aw.iast o232 o233 o234 ⟨by decide, by decide⟩ d_Mdl_init_335 ?_
  refine Aw.aload_n rfl d_Mdl_init_336 ?_
  obtain ⟨b235, e236, h⟩ := h
  refine Aw.getRs (f := 778) 12 10 fl_Mdl_32 (by decide) (by decide) rfl rfl o224 e236 d_Mdl_init_337 ?_
  refine Aw.iconst d_Mdl_init_340 ?_
  refine Aw.iconst d_Mdl_init_341 ?_
  obtain ⟨o237, h⟩ := h
  obtain ⟨o238, o239, h⟩ := h
  refine Aw.iast o237 o238 o239 ⟨by decide, by decide⟩ d_Mdl_init_342 ?_
  exact h
theorem r_Mdl_init_343 {Ω : Om} {R : Room} {k n : Nat} {L : List PV} {σ : Sto} {QR : Option PV → Sto → Prop} {QX : String → Sto → Prop} (h : QR none σ) (h1 : k ≤ R.cells) (h2 : n ≤ R.slots) : Aw Ω M_Mdl_init R (MF Ω R QR QX) k n 343 L [] σ := Aw.vret rfl h h1 h2 d_Mdl_init_343
theorem e_Mdl_layHunk {Ω : Om} {R : Room} {QR : Option PV → Sto → Prop} {QX : String → Sto → Prop} {σ : Sto} {a0 : Nat} {v1 : Int} {v2 : Int} {v3 : Int} {v4 : Int} {v5 : Int} {v6 : Int} {v7 : Int} (h : Aw Ω M_Mdl_layHunk R (MF Ω R QR QX) 0 0 0 [xr (some a0), xi v1, xi v2, xi v3, xi v4, xi v5, xi v6, xi v7, xu, xu] [] σ) : MC Ω M_Mdl_layHunk R QR QX σ [xr (some a0), xi v1, xi v2, xi v3, xi v4, xi v5, xi v6, xi v7] := MC.body (by decide +kernel) rfl (Nat.le_of_ble_eq_true rfl) rfl h
theorem b_Mdl_layHunk_0 {Ω : Om} {R : Room} {F : QF} {k n : Nat} {σ : Sto} {a0 : Nat} {v1 : Int} {v2 : Int} {v3 : Int} {v4 : Int} {v5 : Int} {v6 : Int} {v7 : Int} (h : sK σ a0 = 13 ∧ (Q32 (fI σ 797 a0) → (∃ b3 : Nat, fR σ 799 a0 = some b3 ∧ sK σ b3 = 50 ∧ 0 ≤ ((21 * (fI σ 797 a0)) + v1) ∧ ((21 * (fI σ 797 a0)) + v1) < sZ σ b3 ∧ Q32 v3 ∧ (∃ b9 : Nat, fR σ 800 a0 = some b9 ∧ sK σ b9 = 50 ∧ 0 ≤ ((21 * (fI σ 797 a0)) + v1) ∧ ((21 * (fI σ 797 a0)) + v1) < sZ σ b9 ∧ Q32 v6 ∧ (∃ b15 : Nat, fR σ 801 a0 = some b15 ∧ sK σ b15 = 50 ∧ 0 ≤ (4 * ((21 * (fI σ 797 a0)) + v1)) ∧ (4 * ((21 * (fI σ 797 a0)) + v1)) < sZ σ b15 ∧ Q32 (v4 - v3) ∧ 0 ≤ ((4 * ((21 * (fI σ 797 a0)) + v1)) + 1) ∧ ((4 * ((21 * (fI σ 797 a0)) + v1)) + 1) < sZ σ b15 ∧ Q32 (v7 - v6) ∧ Aw Ω M_Mdl_layHunk R F k n 60 [xr (some a0), xi v1, xi v2, xi v3, xi v4, xi v5, xi v6, xi v7, xi ((21 * (fI σ 797 a0)) + v1), xi 0] [] (vI (vI (vI (vI σ b3 ((21 * (fI σ 797 a0)) + v1).toNat v3) b9 ((21 * (fI σ 797 a0)) + v1).toNat v6) b15 (4 * ((21 * (fI σ 797 a0)) + v1)).toNat (v4 - v3)) b15 ((4 * ((21 * (fI σ 797 a0)) + v1)) + 1).toNat (v7 - v6))))))) : Aw Ω M_Mdl_layHunk R F k n 0 [xr (some a0), xi v1, xi v2, xi v3, xi v4, xi v5, xi v6, xi v7, xu, xu] [] σ := by
  refine Aw.bipush (by decide) d_Mdl_layHunk_0 ?_
  refine Aw.aload_n rfl d_Mdl_layHunk_2 ?_
  obtain ⟨o1, h⟩ := h
  refine Aw.getI (f := 797) 12 29 fl_Mdl_317 (by decide) (by decide) rfl rfl o1 d_Mdl_layHunk_3 (fun r2 => ?_)
  have h := h r2
  refine Aw.imul d_Mdl_layHunk_6 ?_
  refine Aw.iload_n rfl d_Mdl_layHunk_7 ?_
  refine Aw.iadd d_Mdl_layHunk_8 ?_
  refine Aw.istore (by decide) d_Mdl_layHunk_9 ?_
  refine Aw.toL (L' := [xr (some a0), xi v1, xi v2, xi v3, xi v4, xi v5, xi v6, xi v7, xi ((21 * (fI σ 797 a0)) + v1), xu]) rfl ?_
  refine Aw.aload_n rfl d_Mdl_layHunk_11 ?_
  obtain ⟨b3, e4, h⟩ := h
  refine Aw.getRs (f := 799) 12 31 fl_Mdl_62 (by decide) (by decide) rfl rfl o1 e4 d_Mdl_layHunk_12 ?_
  refine Aw.iload rfl d_Mdl_layHunk_15 ?_
  refine Aw.iload_n rfl d_Mdl_layHunk_17 ?_
  obtain ⟨o5, h⟩ := h
  obtain ⟨o6, o7, h⟩ := h
  obtain ⟨o8, h⟩ := h
  refine Aw.iast o5 o6 o7 o8 d_Mdl_layHunk_18 ?_
  refine Aw.aload_n rfl d_Mdl_layHunk_19 ?_
  obtain ⟨b9, e10, h⟩ := h
  refine Aw.getRs (f := 800) 12 32 fl_Mdl_65 (by decide) (by decide) rfl rfl o1 e10 d_Mdl_layHunk_20 ?_
  refine Aw.iload rfl d_Mdl_layHunk_23 ?_
  refine Aw.iload rfl d_Mdl_layHunk_25 ?_
  obtain ⟨o11, h⟩ := h
  obtain ⟨o12, o13, h⟩ := h
  obtain ⟨o14, h⟩ := h
  refine Aw.iast o11 o12 o13 o14 d_Mdl_layHunk_27 ?_
  refine Aw.aload_n rfl d_Mdl_layHunk_28 ?_
  obtain ⟨b15, e16, h⟩ := h
  refine Aw.getRs (f := 801) 12 33 fl_Mdl_68 (by decide) (by decide) rfl rfl o1 e16 d_Mdl_layHunk_29 ?_
  refine Aw.iconst d_Mdl_layHunk_32 ?_
  refine Aw.iload rfl d_Mdl_layHunk_33 ?_
  refine Aw.imul d_Mdl_layHunk_35 ?_
  refine Aw.iload rfl d_Mdl_layHunk_36 ?_
  refine Aw.iload_n rfl d_Mdl_layHunk_38 ?_
  refine Aw.isub d_Mdl_layHunk_39 ?_
  obtain ⟨o17, h⟩ := h
  obtain ⟨o18, o19, h⟩ := h
  obtain ⟨o20, h⟩ := h
  refine Aw.iast o17 o18 o19 o20 d_Mdl_layHunk_40 ?_
  refine Aw.aload_n rfl d_Mdl_layHunk_41 ?_
  refine Aw.getRs (f := 801) 12 33 fl_Mdl_68 (by decide) (by decide) rfl rfl o1 e16 d_Mdl_layHunk_42 ?_
  refine Aw.iconst d_Mdl_layHunk_45 ?_
  refine Aw.iload rfl d_Mdl_layHunk_46 ?_
  refine Aw.imul d_Mdl_layHunk_48 ?_
  refine Aw.iconst d_Mdl_layHunk_49 ?_
  refine Aw.iadd d_Mdl_layHunk_50 ?_
  refine Aw.iload rfl d_Mdl_layHunk_51 ?_
  refine Aw.iload rfl d_Mdl_layHunk_53 ?_
  refine Aw.isub d_Mdl_layHunk_55 ?_
  obtain ⟨o21, o22, h⟩ := h
  obtain ⟨o23, h⟩ := h
  refine Aw.iast o17 o21 o22 o23 d_Mdl_layHunk_56 ?_
  refine Aw.iconst d_Mdl_layHunk_57 ?_
  refine Aw.istore (by decide) d_Mdl_layHunk_58 ?_
  refine Aw.toL (L' := [xr (some a0), xi v1, xi v2, xi v3, xi v4, xi v5, xi v6, xi v7, xi ((21 * (fI σ 797 a0)) + v1), xi 0]) rfl ?_
  exact h
theorem b_Mdl_layHunk_60 {Ω : Om} {R : Room} {F : QF} {k n : Nat} {σ : Sto} {a0 : Nat} {v1 : Int} {v2 : Int} {v3 : Int} {v4 : Int} {v5 : Int} {v6 : Int} {v7 : Int} {v8 : Int} {v9 : Int} (h : Q32 v9 ∧ (((20 : Int) ≤ v9 → Aw Ω M_Mdl_layHunk R F k n 169 [xr (some a0), xi v1, xi v2, xi v3, xi v4, xi v5, xi v6, xi v7, xi v8, xi v9] [] σ) ∧ (¬ (20 : Int) ≤ v9 → sK σ a0 = 13 ∧ (∃ b3 : Nat, fR σ 802 a0 = some b3 ∧ Q32 (v3 + v9) ∧ Q32 v4 ∧ ((v4 ≤ (v3 + v9) → sK σ b3 = 51 ∧ 0 ≤ ((40 * v8) + v9) ∧ ((40 * v8) + v9) < sZ σ b3 ∧ Aw Ω M_Mdl_layHunk R F k n 112 [xr (some a0), xi v1, xi v2, xi v3, xi v4, xi v5, xi v6, xi v7, xi v8, xi v9] [] (vL σ b3 ((40 * v8) + v9).toNat 0)) ∧ (¬ v4 ≤ (v3 + v9) → (∃ b10 : Nat, fR σ 770 a0 = some b10 ∧ (∃ b12 : Nat, fR σ 775 a0 = some b12 ∧ sK σ b12 = 50 ∧ 0 ≤ (((20 * v2) + v3) + v9) ∧ (((20 * v2) + v3) + v9) < sZ σ b12 ∧ (Q32 (aI σ b12 (((20 * v2) + v3) + v9).toNat) → sK σ b10 = 51 ∧ 0 ≤ (aI σ b12 (((20 * v2) + v3) + v9).toNat) ∧ (aI σ b12 (((20 * v2) + v3) + v9).toNat) < sZ σ b10 ∧ sK σ b3 = 51 ∧ 0 ≤ ((40 * v8) + v9) ∧ ((40 * v8) + v9) < sZ σ b3 ∧ Aw Ω M_Mdl_layHunk R F k n 112 [xr (some a0), xi v1, xi v2, xi v3, xi v4, xi v5, xi v6, xi v7, xi v8, xi v9] [] (vL σ b3 ((40 * v8) + v9).toNat (aL σ b10 (aI σ b12 (((20 * v2) + v3) + v9).toNat).toNat))))))))))) : Aw Ω M_Mdl_layHunk R F k n 60 [xr (some a0), xi v1, xi v2, xi v3, xi v4, xi v5, xi v6, xi v7, xi v8, xi v9] [] σ := by
  refine Aw.iload rfl d_Mdl_layHunk_60 ?_
  refine Aw.bipush (by decide) d_Mdl_layHunk_62 ?_
  obtain ⟨o1, h⟩ := h
  obtain ⟨ht, hf⟩ := h
  refine Aw.icmp_ge (tgt := 169) o1 ⟨by decide, by decide⟩ (by decide) d_Mdl_layHunk_64 (fun c25 => ?_) (fun c25 => ?_)
  · have h := ht c25
    exact h
  · have h := hf c25
    refine Aw.aload_n rfl d_Mdl_layHunk_67 ?_
    obtain ⟨o2, h⟩ := h
    obtain ⟨b3, e4, h⟩ := h
    refine Aw.getRs (f := 802) 12 34 fl_Mdl_71 (by decide) (by decide) rfl rfl o2 e4 d_Mdl_layHunk_68 ?_
    refine Aw.bipush (by decide) d_Mdl_layHunk_71 ?_
    refine Aw.iload rfl d_Mdl_layHunk_73 ?_
    refine Aw.imul d_Mdl_layHunk_75 ?_
    refine Aw.iload rfl d_Mdl_layHunk_76 ?_
    refine Aw.iadd d_Mdl_layHunk_78 ?_
    refine Aw.iload_n rfl d_Mdl_layHunk_79 ?_
    refine Aw.iload rfl d_Mdl_layHunk_80 ?_
    refine Aw.iadd d_Mdl_layHunk_82 ?_
    refine Aw.iload rfl d_Mdl_layHunk_83 ?_
    obtain ⟨o5, h⟩ := h
    obtain ⟨o6, h⟩ := h
    obtain ⟨ht, hf⟩ := h
    refine Aw.icmp_ge (tgt := 110) o5 o6 (by decide) d_Mdl_layHunk_85 (fun c24 => ?_) (fun c24 => ?_)
    · have h := ht c24
      refine Aw.lconst (w := 0) (by decide) d_Mdl_layHunk_110 ?_
      obtain ⟨o7, h⟩ := h
      obtain ⟨o8, o9, h⟩ := h
      refine Aw.last o7 o8 o9 d_Mdl_layHunk_111 ?_
      exact h
    · have h := hf c24
      refine Aw.aload_n rfl d_Mdl_layHunk_88 ?_
      obtain ⟨b10, e11, h⟩ := h
      refine Aw.getRs (f := 770) 12 2 fl_Mdl_7 (by decide) (by decide) rfl rfl o2 e11 d_Mdl_layHunk_89 ?_
      refine Aw.aload_n rfl d_Mdl_layHunk_92 ?_
      obtain ⟨b12, e13, h⟩ := h
      refine Aw.getRs (f := 775) 12 7 fl_Mdl_23 (by decide) (by decide) rfl rfl o2 e13 d_Mdl_layHunk_93 ?_
      refine Aw.bipush (by decide) d_Mdl_layHunk_96 ?_
      refine Aw.iload_n rfl d_Mdl_layHunk_98 ?_
      refine Aw.imul d_Mdl_layHunk_99 ?_
      refine Aw.iload_n rfl d_Mdl_layHunk_100 ?_
      refine Aw.iadd d_Mdl_layHunk_101 ?_
      refine Aw.iload rfl d_Mdl_layHunk_102 ?_
      refine Aw.iadd d_Mdl_layHunk_104 ?_
      obtain ⟨o14, h⟩ := h
      obtain ⟨o15, o16, h⟩ := h
      refine Aw.iald o14 o15 o16 d_Mdl_layHunk_105 (fun r17 => ?_)
      have h := h r17
      obtain ⟨o18, h⟩ := h
      obtain ⟨o19, o20, h⟩ := h
      refine Aw.lald o18 o19 o20 d_Mdl_layHunk_106 ?_
      refine Aw.goto (tgt := 111) (by decide) d_Mdl_layHunk_107 ?_
      obtain ⟨o21, h⟩ := h
      obtain ⟨o22, o23, h⟩ := h
      refine Aw.last o21 o22 o23 d_Mdl_layHunk_111 ?_
      exact h
theorem b_Mdl_layHunk_112 {Ω : Om} {R : Room} {F : QF} {k n : Nat} {σ : Sto} {a0 : Nat} {v1 : Int} {v2 : Int} {v3 : Int} {v4 : Int} {v5 : Int} {v6 : Int} {v7 : Int} {v8 : Int} {v9 : Int} (h : sK σ a0 = 13 ∧ (∃ b2 : Nat, fR σ 802 a0 = some b2 ∧ Q32 (v6 + v9) ∧ Q32 v7 ∧ ((v7 ≤ (v6 + v9) → sK σ b2 = 51 ∧ 0 ≤ (((40 * v8) + 20) + v9) ∧ (((40 * v8) + 20) + v9) < sZ σ b2 ∧ Aw Ω M_Mdl_layHunk R F k n 60 [xr (some a0), xi v1, xi v2, xi v3, xi v4, xi v5, xi v6, xi v7, xi v8, xi (v9 + 1)] [] (vL σ b2 (((40 * v8) + 20) + v9).toNat 0)) ∧ (¬ v7 ≤ (v6 + v9) → (∃ b9 : Nat, fR σ 770 a0 = some b9 ∧ (∃ b11 : Nat, fR σ 775 a0 = some b11 ∧ sK σ b11 = 50 ∧ 0 ≤ (((20 * v5) + v6) + v9) ∧ (((20 * v5) + v6) + v9) < sZ σ b11 ∧ (Q32 (aI σ b11 (((20 * v5) + v6) + v9).toNat) → sK σ b9 = 51 ∧ 0 ≤ (aI σ b11 (((20 * v5) + v6) + v9).toNat) ∧ (aI σ b11 (((20 * v5) + v6) + v9).toNat) < sZ σ b9 ∧ sK σ b2 = 51 ∧ 0 ≤ (((40 * v8) + 20) + v9) ∧ (((40 * v8) + 20) + v9) < sZ σ b2 ∧ Aw Ω M_Mdl_layHunk R F k n 60 [xr (some a0), xi v1, xi v2, xi v3, xi v4, xi v5, xi v6, xi v7, xi v8, xi (v9 + 1)] [] (vL σ b2 (((40 * v8) + 20) + v9).toNat (aL σ b9 (aI σ b11 (((20 * v5) + v6) + v9).toNat).toNat))))))))) : Aw Ω M_Mdl_layHunk R F k n 112 [xr (some a0), xi v1, xi v2, xi v3, xi v4, xi v5, xi v6, xi v7, xi v8, xi v9] [] σ := by
  refine Aw.aload_n rfl d_Mdl_layHunk_112 ?_
  obtain ⟨o1, h⟩ := h
  obtain ⟨b2, e3, h⟩ := h
  refine Aw.getRs (f := 802) 12 34 fl_Mdl_71 (by decide) (by decide) rfl rfl o1 e3 d_Mdl_layHunk_113 ?_
  refine Aw.bipush (by decide) d_Mdl_layHunk_116 ?_
  refine Aw.iload rfl d_Mdl_layHunk_118 ?_
  refine Aw.imul d_Mdl_layHunk_120 ?_
  refine Aw.bipush (by decide) d_Mdl_layHunk_121 ?_
  refine Aw.iadd d_Mdl_layHunk_123 ?_
  refine Aw.iload rfl d_Mdl_layHunk_124 ?_
  refine Aw.iadd d_Mdl_layHunk_126 ?_
  refine Aw.iload rfl d_Mdl_layHunk_127 ?_
  refine Aw.iload rfl d_Mdl_layHunk_129 ?_
  refine Aw.iadd d_Mdl_layHunk_131 ?_
  refine Aw.iload rfl d_Mdl_layHunk_132 ?_
  obtain ⟨o4, h⟩ := h
  obtain ⟨o5, h⟩ := h
  obtain ⟨ht, hf⟩ := h
  refine Aw.icmp_ge (tgt := 161) o4 o5 (by decide) d_Mdl_layHunk_134 (fun c23 => ?_) (fun c23 => ?_)
  · have h := ht c23
    refine Aw.lconst (w := 0) (by decide) d_Mdl_layHunk_161 ?_
    obtain ⟨o6, h⟩ := h
    obtain ⟨o7, o8, h⟩ := h
    refine Aw.last o6 o7 o8 d_Mdl_layHunk_162 ?_
    refine Aw.iinc rfl d_Mdl_layHunk_163 ?_
    refine Aw.toL (L' := [xr (some a0), xi v1, xi v2, xi v3, xi v4, xi v5, xi v6, xi v7, xi v8, xi (v9 + 1)]) rfl ?_
    refine Aw.goto (tgt := 60) (by decide) d_Mdl_layHunk_166 ?_
    exact h
  · have h := hf c23
    refine Aw.aload_n rfl d_Mdl_layHunk_137 ?_
    obtain ⟨b9, e10, h⟩ := h
    refine Aw.getRs (f := 770) 12 2 fl_Mdl_7 (by decide) (by decide) rfl rfl o1 e10 d_Mdl_layHunk_138 ?_
    refine Aw.aload_n rfl d_Mdl_layHunk_141 ?_
    obtain ⟨b11, e12, h⟩ := h
    refine Aw.getRs (f := 775) 12 7 fl_Mdl_23 (by decide) (by decide) rfl rfl o1 e12 d_Mdl_layHunk_142 ?_
    refine Aw.bipush (by decide) d_Mdl_layHunk_145 ?_
    refine Aw.iload rfl d_Mdl_layHunk_147 ?_
    refine Aw.imul d_Mdl_layHunk_149 ?_
    refine Aw.iload rfl d_Mdl_layHunk_150 ?_
    refine Aw.iadd d_Mdl_layHunk_152 ?_
    refine Aw.iload rfl d_Mdl_layHunk_153 ?_
    refine Aw.iadd d_Mdl_layHunk_155 ?_
    obtain ⟨o13, h⟩ := h
    obtain ⟨o14, o15, h⟩ := h
    refine Aw.iald o13 o14 o15 d_Mdl_layHunk_156 (fun r16 => ?_)
    have h := h r16
    obtain ⟨o17, h⟩ := h
    obtain ⟨o18, o19, h⟩ := h
    refine Aw.lald o17 o18 o19 d_Mdl_layHunk_157 ?_
    refine Aw.goto (tgt := 162) (by decide) d_Mdl_layHunk_158 ?_
    obtain ⟨o20, h⟩ := h
    obtain ⟨o21, o22, h⟩ := h
    refine Aw.last o20 o21 o22 d_Mdl_layHunk_162 ?_
    refine Aw.iinc rfl d_Mdl_layHunk_163 ?_
    refine Aw.toL (L' := [xr (some a0), xi v1, xi v2, xi v3, xi v4, xi v5, xi v6, xi v7, xi v8, xi (v9 + 1)]) rfl ?_
    refine Aw.goto (tgt := 60) (by decide) d_Mdl_layHunk_166 ?_
    exact h
theorem r_Mdl_layHunk_169 {Ω : Om} {R : Room} {k n : Nat} {L : List PV} {σ : Sto} {QR : Option PV → Sto → Prop} {QX : String → Sto → Prop} (h : QR none σ) (h1 : k ≤ R.cells) (h2 : n ≤ R.slots) : Aw Ω M_Mdl_layHunk R (MF Ω R QR QX) k n 169 L [] σ := Aw.vret rfl h h1 h2 d_Mdl_layHunk_169
theorem e_Mdl_exchange {Ω : Om} {R : Room} {QR : Option PV → Sto → Prop} {QX : String → Sto → Prop} {σ : Sto} {a0 : Nat} {v1 : Int} {v2 : Int} {v3 : Int} (h : Aw Ω M_Mdl_exchange R (MF Ω R QR QX) 0 0 0 [xr (some a0), xi v1, xi v2, xi v3, xu, xu] [] σ) : MC Ω M_Mdl_exchange R QR QX σ [xr (some a0), xi v1, xi v2, xi v3] := MC.body (by decide +kernel) rfl (Nat.le_of_ble_eq_true rfl) rfl h
theorem b_Mdl_exchange_0 {Ω : Om} {R : Room} {F : QF} {k n : Nat} {σ : Sto} {a0 : Nat} {v1 : Int} {v2 : Int} {v3 : Int} (h : sK σ a0 = 13 ∧ (∃ b2 : Nat, fR σ 801 a0 = some b2 ∧ sK σ b2 = 50 ∧ 0 ≤ (4 * v1) ∧ (4 * v1) < sZ σ b2 ∧ (Q32 (aI σ b2 (4 * v1).toNat) → Q32 v3 ∧ ((v3 ≤ (0 : Int) → Aw Ω M_Mdl_exchange R F k n 60 [xr (some a0), xi v1, xi v2, xi v3, xi (v2 + (aI σ b2 (4 * v1).toNat)), xi (v2 + (aI σ b2 (4 * v1).toNat))] [] σ) ∧ (¬ v3 ≤ (0 : Int) → (Q32 (fI σ 821 a0) → Aw Ω M_Mdl_exchange R F k n 24 [xr (some a0), xi v1, xi v2, xi v3, xi (v2 + (aI σ b2 (4 * v1).toNat)), xi ((fI σ 821 a0) - 1)] [] σ)))))) : Aw Ω M_Mdl_exchange R F k n 0 [xr (some a0), xi v1, xi v2, xi v3, xu, xu] [] σ := by
  refine Aw.iload_n rfl d_Mdl_exchange_0 ?_
  refine Aw.aload_n rfl d_Mdl_exchange_1 ?_
  obtain ⟨o1, h⟩ := h
  obtain ⟨b2, e3, h⟩ := h
  refine Aw.getRs (f := 801) 12 33 fl_Mdl_68 (by decide) (by decide) rfl rfl o1 e3 d_Mdl_exchange_2 ?_
  refine Aw.iconst d_Mdl_exchange_5 ?_
  refine Aw.iload_n rfl d_Mdl_exchange_6 ?_
  refine Aw.imul d_Mdl_exchange_7 ?_
  obtain ⟨o4, h⟩ := h
  obtain ⟨o5, o6, h⟩ := h
  refine Aw.iald o4 o5 o6 d_Mdl_exchange_8 (fun r7 => ?_)
  have h := h r7
  refine Aw.iadd d_Mdl_exchange_9 ?_
  refine Aw.istore (by decide) d_Mdl_exchange_10 ?_
  refine Aw.toL (L' := [xr (some a0), xi v1, xi v2, xi v3, xi (v2 + (aI σ b2 (4 * v1).toNat)), xu]) rfl ?_
  refine Aw.iload_n rfl d_Mdl_exchange_12 ?_
  obtain ⟨o8, h⟩ := h
  obtain ⟨ht, hf⟩ := h
  refine Aw.if_le (tgt := 56) o8 (by decide) d_Mdl_exchange_13 (fun c10 => ?_) (fun c10 => ?_)
  · have h := ht c10
    refine Aw.iload rfl d_Mdl_exchange_56 ?_
    refine Aw.istore (by decide) d_Mdl_exchange_58 ?_
    refine Aw.toL (L' := [xr (some a0), xi v1, xi v2, xi v3, xi (v2 + (aI σ b2 (4 * v1).toNat)), xi (v2 + (aI σ b2 (4 * v1).toNat))]) rfl ?_
    exact h
  · have h := hf c10
    refine Aw.aload_n rfl d_Mdl_exchange_16 ?_
    refine Aw.getI (f := 821) 12 53 fl_Mdl_327 (by decide) (by decide) rfl rfl o1 d_Mdl_exchange_17 (fun r9 => ?_)
    have h := h r9
    refine Aw.iconst d_Mdl_exchange_20 ?_
    refine Aw.isub d_Mdl_exchange_21 ?_
    refine Aw.istore (by decide) d_Mdl_exchange_22 ?_
    refine Aw.toL (L' := [xr (some a0), xi v1, xi v2, xi v3, xi (v2 + (aI σ b2 (4 * v1).toNat)), xi ((fI σ 821 a0) - 1)]) rfl ?_
    exact h
theorem b_Mdl_exchange_24 {Ω : Om} {R : Room} {F : QF} {k n : Nat} {σ : Sto} {a0 : Nat} {v1 : Int} {v2 : Int} {v3 : Int} {v4 : Int} {v5 : Int} (h : Q32 v5 ∧ Q32 v4 ∧ ((v5 < v4 → sK σ a0 = 13 ∧ (Q32 (fI σ 821 a0) → Q32 ((fI σ 821 a0) + v3) ∧ Aw Ω M_Mdl_exchange R F k n 104 [xr (some a0), xi v1, xi v2, xi v3, xi v4, xi 0] [] (uI σ 821 a0 ((fI σ 821 a0) + v3)))) ∧ (¬ v5 < v4 → sK σ a0 = 13 ∧ (∃ b7 : Nat, fR σ 820 a0 = some b7 ∧ sK σ b7 = 50 ∧ 0 ≤ v5 ∧ v5 < sZ σ b7 ∧ (Q32 (aI σ b7 (v5).toNat) → 0 ≤ (v5 + v3) ∧ (v5 + v3) < sZ σ b7 ∧ Aw Ω M_Mdl_exchange R F k n 24 [xr (some a0), xi v1, xi v2, xi v3, xi v4, xi (v5 + (-1))] [] (vI σ b7 (v5 + v3).toNat (aI σ b7 (v5).toNat))))))) : Aw Ω M_Mdl_exchange R F k n 24 [xr (some a0), xi v1, xi v2, xi v3, xi v4, xi v5] [] σ := by
  refine Aw.iload rfl d_Mdl_exchange_24 ?_
  refine Aw.iload rfl d_Mdl_exchange_26 ?_
  obtain ⟨o1, h⟩ := h
  obtain ⟨o2, h⟩ := h
  obtain ⟨ht, hf⟩ := h
  refine Aw.icmp_lt (tgt := 53) o1 o2 (by decide) d_Mdl_exchange_28 (fun c15 => ?_) (fun c15 => ?_)
  · have h := ht c15
    refine Aw.goto (tgt := 91) (by decide) d_Mdl_exchange_53 ?_
    refine Aw.aload_n rfl d_Mdl_exchange_91 ?_
    refine Aw.dup rfl d_Mdl_exchange_92 ?_
    obtain ⟨o3, h⟩ := h
    refine Aw.getI (f := 821) 12 53 fl_Mdl_327 (by decide) (by decide) rfl rfl o3 d_Mdl_exchange_93 (fun r4 => ?_)
    have h := h r4
    refine Aw.iload_n rfl d_Mdl_exchange_96 ?_
    refine Aw.iadd d_Mdl_exchange_97 ?_
    obtain ⟨o5, h⟩ := h
    refine Aw.putI (f := 821) 12 53 fl_Mdl_327 (by decide) (by decide) rfl rfl o3 rfl o5 (Or.inl rfl) d_Mdl_exchange_98 ?_
    refine Aw.iconst d_Mdl_exchange_101 ?_
    refine Aw.istore (by decide) d_Mdl_exchange_102 ?_
    refine Aw.toL (L' := [xr (some a0), xi v1, xi v2, xi v3, xi v4, xi 0]) rfl ?_
    exact h
  · have h := hf c15
    refine Aw.aload_n rfl d_Mdl_exchange_31 ?_
    obtain ⟨o6, h⟩ := h
    obtain ⟨b7, e8, h⟩ := h
    refine Aw.getRs (f := 820) 12 52 fl_Mdl_120 (by decide) (by decide) rfl rfl o6 e8 d_Mdl_exchange_32 ?_
    refine Aw.iload rfl d_Mdl_exchange_35 ?_
    refine Aw.iload_n rfl d_Mdl_exchange_37 ?_
    refine Aw.iadd d_Mdl_exchange_38 ?_
    refine Aw.aload_n rfl d_Mdl_exchange_39 ?_
    refine Aw.getRs (f := 820) 12 52 fl_Mdl_120 (by decide) (by decide) rfl rfl o6 e8 d_Mdl_exchange_40 ?_
    refine Aw.iload rfl d_Mdl_exchange_43 ?_
    obtain ⟨o9, h⟩ := h
    obtain ⟨o10, o11, h⟩ := h
    refine Aw.iald o9 o10 o11 d_Mdl_exchange_45 (fun r12 => ?_)
    have h := h r12
    obtain ⟨o13, o14, h⟩ := h
    refine Aw.iast o9 o13 o14 r12 d_Mdl_exchange_46 ?_
    refine Aw.iinc rfl d_Mdl_exchange_47 ?_
    refine Aw.toL (L' := [xr (some a0), xi v1, xi v2, xi v3, xi v4, xi (v5 + (-1))]) rfl ?_
    refine Aw.goto (tgt := 24) (by decide) d_Mdl_exchange_50 ?_
    exact h
theorem b_Mdl_exchange_104 {Ω : Om} {R : Room} {F : QF} {k n : Nat} {σ : Sto} {a0 : Nat} {v1 : Int} {v2 : Int} {v3 : Int} {v4 : Int} {v5 : Int} (h : sK σ a0 = 13 ∧ (∃ b2 : Nat, fR σ 801 a0 = some b2 ∧ sK σ b2 = 50 ∧ 0 ≤ ((4 * v1) + 1) ∧ ((4 * v1) + 1) < sZ σ b2 ∧ (Q32 (aI σ b2 ((4 * v1) + 1).toNat) → Q32 v5 ∧ (((aI σ b2 ((4 * v1) + 1).toNat) ≤ v5 → Aw Ω M_Mdl_exchange R F k n 153 [xr (some a0), xi v1, xi v2, xi v3, xi v4, xi v5] [] σ) ∧ (¬ (aI σ b2 ((4 * v1) + 1).toNat) ≤ v5 → (∃ b9 : Nat, fR σ 820 a0 = some b9 ∧ (∃ b11 : Nat, fR σ 802 a0 = some b11 ∧ sK σ b11 = 51 ∧ 0 ≤ (((40 * v1) + 20) + v5) ∧ (((40 * v1) + 20) + v5) < sZ σ b11 ∧ Aw Ω M_Mdl_exchange R F k n 143 [xr (some a0), xi v1, xi v2, xi v3, xi v4, xi v5] [xl (aL σ b11 (((40 * v1) + 20) + v5).toNat), xr (some a0), xi (v2 + v5), xr (some b9)] σ))))))) : Aw Ω M_Mdl_exchange R F k n 104 [xr (some a0), xi v1, xi v2, xi v3, xi v4, xi v5] [] σ := by
  refine Aw.iload rfl d_Mdl_exchange_104 ?_
  refine Aw.aload_n rfl d_Mdl_exchange_106 ?_
  obtain ⟨o1, h⟩ := h
  obtain ⟨b2, e3, h⟩ := h
  refine Aw.getRs (f := 801) 12 33 fl_Mdl_68 (by decide) (by decide) rfl rfl o1 e3 d_Mdl_exchange_107 ?_
  refine Aw.iconst d_Mdl_exchange_110 ?_
  refine Aw.iload_n rfl d_Mdl_exchange_111 ?_
  refine Aw.imul d_Mdl_exchange_112 ?_
  refine Aw.iconst d_Mdl_exchange_113 ?_
  refine Aw.iadd d_Mdl_exchange_114 ?_
  obtain ⟨o4, h⟩ := h
  obtain ⟨o5, o6, h⟩ := h
  refine Aw.iald o4 o5 o6 d_Mdl_exchange_115 (fun r7 => ?_)
  have h := h r7
  obtain ⟨o8, h⟩ := h
  obtain ⟨ht, hf⟩ := h
  refine Aw.icmp_ge (tgt := 153) o8 r7 (by decide) d_Mdl_exchange_116 (fun c16 => ?_) (fun c16 => ?_)
  · have h := ht c16
    exact h
  · have h := hf c16
    refine Aw.aload_n rfl d_Mdl_exchange_119 ?_
    obtain ⟨b9, e10, h⟩ := h
    refine Aw.getRs (f := 820) 12 52 fl_Mdl_120 (by decide) (by decide) rfl rfl o1 e10 d_Mdl_exchange_120 ?_
    refine Aw.iload_n rfl d_Mdl_exchange_123 ?_
    refine Aw.iload rfl d_Mdl_exchange_124 ?_
    refine Aw.iadd d_Mdl_exchange_126 ?_
    refine Aw.aload_n rfl d_Mdl_exchange_127 ?_
    refine Aw.aload_n rfl d_Mdl_exchange_128 ?_
    obtain ⟨b11, e12, h⟩ := h
    refine Aw.getRs (f := 802) 12 34 fl_Mdl_71 (by decide) (by decide) rfl rfl o1 e12 d_Mdl_exchange_129 ?_
    refine Aw.bipush (by decide) d_Mdl_exchange_132 ?_
    refine Aw.iload_n rfl d_Mdl_exchange_134 ?_
    refine Aw.imul d_Mdl_exchange_135 ?_
    refine Aw.bipush (by decide) d_Mdl_exchange_136 ?_
    refine Aw.iadd d_Mdl_exchange_138 ?_
    refine Aw.iload rfl d_Mdl_exchange_139 ?_
    refine Aw.iadd d_Mdl_exchange_141 ?_
    obtain ⟨o13, h⟩ := h
    obtain ⟨o14, o15, h⟩ := h
    refine Aw.lald o13 o14 o15 d_Mdl_exchange_142 ?_
    exact h
theorem b_Mdl_exchange_146 {Ω : Om} {R : Room} {F : QF} {k n : Nat} {σ : Sto} {a0 : Nat} {v1 : Int} {v2 : Int} {v3 : Int} {v4 : Int} {v5 : Int} {s0 : Nat} {s1 : Int} {s2 : Int} (h : sK σ s0 = 50 ∧ 0 ≤ s1 ∧ s1 < sZ σ s0 ∧ Q32 s2 ∧ Aw Ω M_Mdl_exchange R F k n 104 [xr (some a0), xi v1, xi v2, xi v3, xi v4, xi (v5 + 1)] [] (vI σ s0 (s1).toNat s2)) : Aw Ω M_Mdl_exchange R F k n 146 [xr (some a0), xi v1, xi v2, xi v3, xi v4, xi v5] [xi s2, xi s1, xr (some s0)] σ := by
  obtain ⟨o1, h⟩ := h
  obtain ⟨o2, o3, h⟩ := h
  obtain ⟨o4, h⟩ := h
  refine Aw.iast o1 o2 o3 o4 d_Mdl_exchange_146 ?_
  refine Aw.iinc rfl d_Mdl_exchange_147 ?_
  refine Aw.toL (L' := [xr (some a0), xi v1, xi v2, xi v3, xi v4, xi (v5 + 1)]) rfl ?_
  refine Aw.goto (tgt := 104) (by decide) d_Mdl_exchange_150 ?_
  exact h
theorem b_Mdl_exchange_60 {Ω : Om} {R : Room} {F : QF} {k n : Nat} {σ : Sto} {a0 : Nat} {v1 : Int} {v2 : Int} {v3 : Int} {v4 : Int} {v5 : Int} (h : sK σ a0 = 13 ∧ (Q32 (fI σ 821 a0) → Q32 v5 ∧ (((fI σ 821 a0) ≤ v5 → (Q32 (fI σ 821 a0) → Q32 ((fI σ 821 a0) + v3) ∧ Aw Ω M_Mdl_exchange R F k n 104 [xr (some a0), xi v1, xi v2, xi v3, xi v4, xi 0] [] (uI σ 821 a0 ((fI σ 821 a0) + v3)))) ∧ (¬ (fI σ 821 a0) ≤ v5 → (∃ b6 : Nat, fR σ 820 a0 = some b6 ∧ sK σ b6 = 50 ∧ 0 ≤ v5 ∧ v5 < sZ σ b6 ∧ (Q32 (aI σ b6 (v5).toNat) → 0 ≤ (v5 + v3) ∧ (v5 + v3) < sZ σ b6 ∧ Aw Ω M_Mdl_exchange R F k n 60 [xr (some a0), xi v1, xi v2, xi v3, xi v4, xi (v5 + 1)] [] (vI σ b6 (v5 + v3).toNat (aI σ b6 (v5).toNat)))))))) : Aw Ω M_Mdl_exchange R F k n 60 [xr (some a0), xi v1, xi v2, xi v3, xi v4, xi v5] [] σ := by
  refine Aw.iload rfl d_Mdl_exchange_60 ?_
  refine Aw.aload_n rfl d_Mdl_exchange_62 ?_
  obtain ⟨o1, h⟩ := h
  refine Aw.getI (f := 821) 12 53 fl_Mdl_327 (by decide) (by decide) rfl rfl o1 d_Mdl_exchange_63 (fun r2 => ?_)
  have h := h r2
  obtain ⟨o3, h⟩ := h
  obtain ⟨ht, hf⟩ := h
  refine Aw.icmp_ge (tgt := 91) o3 r2 (by decide) d_Mdl_exchange_66 (fun c14 => ?_) (fun c14 => ?_)
  · have h := ht c14
    refine Aw.aload_n rfl d_Mdl_exchange_91 ?_
    refine Aw.dup rfl d_Mdl_exchange_92 ?_
    refine Aw.getI (f := 821) 12 53 fl_Mdl_327 (by decide) (by decide) rfl rfl o1 d_Mdl_exchange_93 (fun r4 => ?_)
    have h := h r4
    refine Aw.iload_n rfl d_Mdl_exchange_96 ?_
    refine Aw.iadd d_Mdl_exchange_97 ?_
    obtain ⟨o5, h⟩ := h
    refine Aw.putI (f := 821) 12 53 fl_Mdl_327 (by decide) (by decide) rfl rfl o1 rfl o5 (Or.inl rfl) d_Mdl_exchange_98 ?_
    refine Aw.iconst d_Mdl_exchange_101 ?_
    refine Aw.istore (by decide) d_Mdl_exchange_102 ?_
    refine Aw.toL (L' := [xr (some a0), xi v1, xi v2, xi v3, xi v4, xi 0]) rfl ?_
    exact h
  · have h := hf c14
    refine Aw.aload_n rfl d_Mdl_exchange_69 ?_
    obtain ⟨b6, e7, h⟩ := h
    refine Aw.getRs (f := 820) 12 52 fl_Mdl_120 (by decide) (by decide) rfl rfl o1 e7 d_Mdl_exchange_70 ?_
    refine Aw.iload rfl d_Mdl_exchange_73 ?_
    refine Aw.iload_n rfl d_Mdl_exchange_75 ?_
    refine Aw.iadd d_Mdl_exchange_76 ?_
    refine Aw.aload_n rfl d_Mdl_exchange_77 ?_
    refine Aw.getRs (f := 820) 12 52 fl_Mdl_120 (by decide) (by decide) rfl rfl o1 e7 d_Mdl_exchange_78 ?_
    refine Aw.iload rfl d_Mdl_exchange_81 ?_
    obtain ⟨o8, h⟩ := h
    obtain ⟨o9, o10, h⟩ := h
    refine Aw.iald o8 o9 o10 d_Mdl_exchange_83 (fun r11 => ?_)
    have h := h r11
    obtain ⟨o12, o13, h⟩ := h
    refine Aw.iast o8 o12 o13 r11 d_Mdl_exchange_84 ?_
    refine Aw.iinc rfl d_Mdl_exchange_85 ?_
    refine Aw.toL (L' := [xr (some a0), xi v1, xi v2, xi v3, xi v4, xi (v5 + 1)]) rfl ?_
    refine Aw.goto (tgt := 60) (by decide) d_Mdl_exchange_88 ?_
    exact h
theorem c_Mdl_exchange_143 {Ω : Om} {R R' : Room} {F : QF} {k n : Nat} {L st : List PV} {σ : Sto} {QX' : String → Sto → Prop} {Q : Int → Sto → Prop} {a : Nat} {x0 : Int64} (hc : MC Ω M_Mdl_putIn R' (RI Q) QX' σ [xr (some a), xl x0]) (hk : sK σ a = 13) (hr1 : R'.frames + 1 ≤ R.frames) (hr2 : 8 + (5 + 11) + R'.locals ≤ R.locals) (hb1 : k + R'.cells ≤ R.cells) (hb2 : n + R'.slots ≤ R.slots) (hst : (st.map catP).sum ≤ 8) (kk : ∀ x σ', Q x σ' → Aw Ω M_Mdl_exchange R F (k + R'.cells) (n + R'.slots) 146 L (xi x :: st) σ') (kx : ∀ E σ', QX' E σ' → Ax Ω M_Mdl_exchange R F (k + R'.cells) (n + R'.slots) 143 L st σ' E) : Aw Ω M_Mdl_exchange R F k n 143 L (xl x0 :: xr (some a) :: st) σ :=
  Aw.callV (As := [xl x0]) (stk := xl x0 :: xr (some a) :: st) (nn := 1) 12 M_Mdl_putIn hc ok_Mdl_putIn rfl (by decide) rfl hk ml_Mdl_208 im_Mdl_putIn se_Mdl_putIn ⟨hr1, hr2⟩ rfl ⟨hb1, hb2⟩ hst rfl d_Mdl_exchange_143 (fun r σ' h => by obtain ⟨x, rfl, h⟩ := h; exact kk x σ' h) kx
theorem r_Mdl_exchange_153 {Ω : Om} {R : Room} {k n : Nat} {L : List PV} {σ : Sto} {QR : Option PV → Sto → Prop} {QX : String → Sto → Prop} (h : QR none σ) (h1 : k ≤ R.cells) (h2 : n ≤ R.slots) : Aw Ω M_Mdl_exchange R (MF Ω R QR QX) k n 153 L [] σ := Aw.vret rfl h h1 h2 d_Mdl_exchange_153
theorem e_Mdl_begin {Ω : Om} {R : Room} {QR : Option PV → Sto → Prop} {QX : String → Sto → Prop} {σ : Sto} {a0 : Nat} {v1 : Int} {v2 : Int} (h : Aw Ω M_Mdl_begin R (MF Ω R QR QX) 0 0 0 [xr (some a0), xi v1, xi v2, xu] [] σ) : MC Ω M_Mdl_begin R QR QX σ [xr (some a0), xi v1, xi v2] := MC.body (by decide +kernel) rfl (Nat.le_of_ble_eq_true rfl) rfl h
theorem b_Mdl_begin_0 {Ω : Om} {R : Room} {F : QF} {k n : Nat} {σ : Sto} {a0 : Nat} {v1 : Int} {v2 : Int} (h : Aw Ω M_Mdl_begin R F k n 3 [xr (some a0), xi v1, xi v2, xu] [xi v1, xr (some a0), xr (some a0)] σ) : Aw Ω M_Mdl_begin R F k n 0 [xr (some a0), xi v1, xi v2, xu] [] σ := by
  refine Aw.aload_n rfl d_Mdl_begin_0 ?_
  refine Aw.aload_n rfl d_Mdl_begin_1 ?_
  refine Aw.iload_n rfl d_Mdl_begin_2 ?_
  exact h
theorem b_Mdl_begin_6 {Ω : Om} {R : Room} {F : QF} {k n : Nat} {σ : Sto} {a0 : Nat} {v1 : Int} {v2 : Int} {s0 : Nat} {s1 : Int} (h : Q32 s1 ∧ ((s1 = (0 : Int) → Aw Ω M_Mdl_begin R F k n 21 [xr (some a0), xi v1, xi v2, xu] [xi 1, xr (some s0)] σ) ∧ (¬ s1 = (0 : Int) → Aw Ω M_Mdl_begin R F k n 10 [xr (some a0), xi v1, xi v2, xu] [xi v2, xr (some s0)] σ))) : Aw Ω M_Mdl_begin R F k n 6 [xr (some a0), xi v1, xi v2, xu] [xi s1, xr (some s0)] σ := by
  obtain ⟨o1, h⟩ := h
  obtain ⟨ht, hf⟩ := h
  refine Aw.if_eq (tgt := 20) o1 (by decide) d_Mdl_begin_6 (fun c2 => ?_) (fun c2 => ?_)
  · have h := ht c2
    refine Aw.iconst d_Mdl_begin_20 ?_
    exact h
  · have h := hf c2
    refine Aw.iload_n rfl d_Mdl_begin_9 ?_
    exact h
theorem b_Mdl_begin_13 {Ω : Om} {R : Room} {F : QF} {k n : Nat} {σ : Sto} {a0 : Nat} {v1 : Int} {v2 : Int} {s0 : Nat} {s1 : Int} (h : Q32 s1 ∧ ((s1 = (0 : Int) → Aw Ω M_Mdl_begin R F k n 21 [xr (some a0), xi v1, xi v2, xu] [xi 1, xr (some s0)] σ) ∧ (¬ s1 = (0 : Int) → Aw Ω M_Mdl_begin R F k n 21 [xr (some a0), xi v1, xi v2, xu] [xi 0, xr (some s0)] σ))) : Aw Ω M_Mdl_begin R F k n 13 [xr (some a0), xi v1, xi v2, xu] [xi s1, xr (some s0)] σ := by
  obtain ⟨o1, h⟩ := h
  obtain ⟨ht, hf⟩ := h
  refine Aw.if_eq (tgt := 20) o1 (by decide) d_Mdl_begin_13 (fun c2 => ?_) (fun c2 => ?_)
  · have h := ht c2
    refine Aw.iconst d_Mdl_begin_20 ?_
    exact h
  · have h := hf c2
    refine Aw.iconst d_Mdl_begin_16 ?_
    refine Aw.goto (tgt := 21) (by decide) d_Mdl_begin_17 ?_
    exact h
theorem b_Mdl_begin_24 {Ω : Om} {R : Room} {F : QF} {k n : Nat} {σ : Sto} {a0 : Nat} {v1 : Int} {v2 : Int} {s0 : Int} (h : Q32 s0 ∧ ((s0 = (0 : Int) → sK σ a0 = 13 ∧ Q32 v1 ∧ Q32 v2 ∧ (∃ b5 : Nat, fR σ 774 a0 = some b5 ∧ sK σ b5 = 50 ∧ 0 ≤ v1 ∧ v1 < sZ σ b5 ∧ (Q32 (aI σ b5 (v1).toNat) → Aw Ω M_Mdl_begin R F k n 76 [xr (some a0), xi v1, xi v2, xi 0] [] (uI (uI (uI (uI (uI (uI (uI (uI σ 779 a0 1) 780 a0 v1) 781 a0 (-1)) 782 a0 v2) 785 a0 0) 786 a0 0) 789 a0 0) 783 a0 (aI σ b5 (v1).toNat))))) ∧ (¬ s0 = (0 : Int) → Aw Ω M_Mdl_begin R F k n 28 [xr (some a0), xi v1, xi v2, xu] [xi 0] σ))) : Aw Ω M_Mdl_begin R F k n 24 [xr (some a0), xi v1, xi v2, xu] [xi s0] σ := by
  obtain ⟨o1, h⟩ := h
  obtain ⟨ht, hf⟩ := h
  refine Aw.if_eq (tgt := 29) o1 (by decide) d_Mdl_begin_24 (fun c11 => ?_) (fun c11 => ?_)
  · have h := ht c11
    refine Aw.aload_n rfl d_Mdl_begin_29 ?_
    refine Aw.iconst d_Mdl_begin_30 ?_
    obtain ⟨o2, h⟩ := h
    refine Aw.putI (f := 779) 12 11 fl_Mdl_178 (by decide) (by decide) rfl rfl o2 rfl ⟨by decide, by decide⟩ (Or.inr ⟨rfl, by decide⟩) d_Mdl_begin_31 ?_
    refine Aw.aload_n rfl d_Mdl_begin_34 ?_
    refine Aw.iload_n rfl d_Mdl_begin_35 ?_
    obtain ⟨o3, h⟩ := h
    refine Aw.putI (f := 780) 12 12 fl_Mdl_165 (by decide) (by decide) rfl rfl o2 rfl o3 (Or.inl rfl) d_Mdl_begin_36 ?_
    refine Aw.aload_n rfl d_Mdl_begin_39 ?_
    refine Aw.iconst d_Mdl_begin_40 ?_
    refine Aw.putI (f := 781) 12 13 fl_Mdl_182 (by decide) (by decide) rfl rfl o2 rfl ⟨by decide, by decide⟩ (Or.inl rfl) d_Mdl_begin_41 ?_
    refine Aw.aload_n rfl d_Mdl_begin_44 ?_
    refine Aw.iload_n rfl d_Mdl_begin_45 ?_
    obtain ⟨o4, h⟩ := h
    refine Aw.putI (f := 782) 12 14 fl_Mdl_162 (by decide) (by decide) rfl rfl o2 rfl o4 (Or.inl rfl) d_Mdl_begin_46 ?_
    refine Aw.aload_n rfl d_Mdl_begin_49 ?_
    refine Aw.iconst d_Mdl_begin_50 ?_
    refine Aw.putI (f := 785) 12 17 fl_Mdl_185 (by decide) (by decide) rfl rfl o2 rfl ⟨by decide, by decide⟩ (Or.inl rfl) d_Mdl_begin_51 ?_
    refine Aw.aload_n rfl d_Mdl_begin_54 ?_
    refine Aw.iconst d_Mdl_begin_55 ?_
    refine Aw.putI (f := 786) 12 18 fl_Mdl_188 (by decide) (by decide) rfl rfl o2 rfl ⟨by decide, by decide⟩ (Or.inl rfl) d_Mdl_begin_56 ?_
    refine Aw.aload_n rfl d_Mdl_begin_59 ?_
    refine Aw.iconst d_Mdl_begin_60 ?_
    refine Aw.putI (f := 789) 12 21 fl_Mdl_191 (by decide) (by decide) rfl rfl o2 rfl ⟨by decide, by decide⟩ (Or.inl rfl) d_Mdl_begin_61 ?_
    refine Aw.aload_n rfl d_Mdl_begin_64 ?_
    refine Aw.aload_n rfl d_Mdl_begin_65 ?_
    obtain ⟨b5, e6, h⟩ := h
    refine Aw.getRs (f := 774) 12 6 fl_Mdl_20 (by decide) (by decide) rfl rfl o2 e6 d_Mdl_begin_66 ?_
    refine Aw.iload_n rfl d_Mdl_begin_69 ?_
    obtain ⟨o7, h⟩ := h
    obtain ⟨o8, o9, h⟩ := h
    refine Aw.iald o7 o8 o9 d_Mdl_begin_70 (fun r10 => ?_)
    have h := h r10
    refine Aw.putI (f := 783) 12 15 fl_Mdl_194 (by decide) (by decide) rfl rfl o2 rfl r10 (Or.inl rfl) d_Mdl_begin_71 ?_
    refine Aw.iconst d_Mdl_begin_74 ?_
    refine Aw.istore_n (by decide) d_Mdl_begin_75 ?_
    refine Aw.toL (L' := [xr (some a0), xi v1, xi v2, xi 0]) rfl ?_
    exact h
  · have h := hf c11
    refine Aw.iconst d_Mdl_begin_27 ?_
    exact h
theorem b_Mdl_begin_76 {Ω : Om} {R : Room} {F : QF} {k n : Nat} {σ : Sto} {a0 : Nat} {v1 : Int} {v2 : Int} {v3 : Int} (h : sK σ a0 = 13 ∧ (Q32 (fI σ 783 a0) → Q32 v3 ∧ (((fI σ 783 a0) ≤ v3 → (Q32 (fI σ 783 a0) → Aw Ω M_Mdl_begin R F k n 111 [xr (some a0), xi v1, xi v2, xi v3] [xi (fI σ 783 a0)] σ)) ∧ (¬ (fI σ 783 a0) ≤ v3 → (∃ b5 : Nat, fR σ 784 a0 = some b5 ∧ (∃ b7 : Nat, fR σ 775 a0 = some b7 ∧ sK σ b7 = 50 ∧ 0 ≤ ((20 * v1) + v3) ∧ ((20 * v1) + v3) < sZ σ b7 ∧ (Q32 (aI σ b7 ((20 * v1) + v3).toNat) → sK σ b5 = 50 ∧ 0 ≤ v3 ∧ v3 < sZ σ b5 ∧ Aw Ω M_Mdl_begin R F k n 76 [xr (some a0), xi v1, xi v2, xi (v3 + 1)] [] (vI σ b5 (v3).toNat (aI σ b7 ((20 * v1) + v3).toNat))))))))) : Aw Ω M_Mdl_begin R F k n 76 [xr (some a0), xi v1, xi v2, xi v3] [] σ := by
  refine Aw.iload_n rfl d_Mdl_begin_76 ?_
  refine Aw.aload_n rfl d_Mdl_begin_77 ?_
  obtain ⟨o1, h⟩ := h
  refine Aw.getI (f := 783) 12 15 fl_Mdl_194 (by decide) (by decide) rfl rfl o1 d_Mdl_begin_78 (fun r2 => ?_)
  have h := h r2
  obtain ⟨o3, h⟩ := h
  obtain ⟨ht, hf⟩ := h
  refine Aw.icmp_ge (tgt := 107) o3 r2 (by decide) d_Mdl_begin_81 (fun c16 => ?_) (fun c16 => ?_)
  · have h := ht c16
    refine Aw.aload_n rfl d_Mdl_begin_107 ?_
    refine Aw.getI (f := 783) 12 15 fl_Mdl_194 (by decide) (by decide) rfl rfl o1 d_Mdl_begin_108 (fun r4 => ?_)
    have h := h r4
    exact h
  · have h := hf c16
    refine Aw.aload_n rfl d_Mdl_begin_84 ?_
    obtain ⟨b5, e6, h⟩ := h
    refine Aw.getRs (f := 784) 12 16 fl_Mdl_35 (by decide) (by decide) rfl rfl o1 e6 d_Mdl_begin_85 ?_
    refine Aw.iload_n rfl d_Mdl_begin_88 ?_
    refine Aw.aload_n rfl d_Mdl_begin_89 ?_
    obtain ⟨b7, e8, h⟩ := h
    refine Aw.getRs (f := 775) 12 7 fl_Mdl_23 (by decide) (by decide) rfl rfl o1 e8 d_Mdl_begin_90 ?_
    refine Aw.bipush (by decide) d_Mdl_begin_93 ?_
    refine Aw.iload_n rfl d_Mdl_begin_95 ?_
    refine Aw.imul d_Mdl_begin_96 ?_
    refine Aw.iload_n rfl d_Mdl_begin_97 ?_
    refine Aw.iadd d_Mdl_begin_98 ?_
    obtain ⟨o9, h⟩ := h
    obtain ⟨o10, o11, h⟩ := h
    refine Aw.iald o9 o10 o11 d_Mdl_begin_99 (fun r12 => ?_)
    have h := h r12
    obtain ⟨o13, h⟩ := h
    obtain ⟨o14, o15, h⟩ := h
    refine Aw.iast o13 o14 o15 r12 d_Mdl_begin_100 ?_
    refine Aw.iinc rfl d_Mdl_begin_101 ?_
    refine Aw.toL (L' := [xr (some a0), xi v1, xi v2, xi (v3 + 1)]) rfl ?_
    refine Aw.goto (tgt := 76) (by decide) d_Mdl_begin_104 ?_
    exact h
theorem c_Mdl_begin_3 {Ω : Om} {R R' : Room} {F : QF} {k n : Nat} {L st : List PV} {σ : Sto} {QX' : String → Sto → Prop} {Q : Int → Sto → Prop} {a : Nat} {x0 : Int} (hc : MC Ω M_Mdl_isVersion R' (RI Q) QX' σ [xr (some a), xi x0]) (hk : sK σ a = 13) (hr1 : R'.frames + 1 ≤ R.frames) (hr2 : 8 + (2 + 11) + R'.locals ≤ R.locals) (hb1 : k + R'.cells ≤ R.cells) (hb2 : n + R'.slots ≤ R.slots) (hst : (st.map catP).sum ≤ 8) (kk : ∀ x σ', Q x σ' → Aw Ω M_Mdl_begin R F (k + R'.cells) (n + R'.slots) 6 L (xi x :: st) σ') (kx : ∀ E σ', QX' E σ' → Ax Ω M_Mdl_begin R F (k + R'.cells) (n + R'.slots) 3 L st σ' E) : Aw Ω M_Mdl_begin R F k n 3 L (xi x0 :: xr (some a) :: st) σ :=
  Aw.callV (As := [xi x0]) (stk := xi x0 :: xr (some a) :: st) (nn := 1) 12 M_Mdl_isVersion hc ok_Mdl_isVersion rfl (by decide) rfl hk ml_Mdl_172 im_Mdl_isVersion se_Mdl_isVersion ⟨hr1, hr2⟩ rfl ⟨hb1, hb2⟩ hst rfl d_Mdl_begin_3 (fun r σ' h => by obtain ⟨x, rfl, h⟩ := h; exact kk x σ' h) kx
theorem c_Mdl_begin_10 {Ω : Om} {R R' : Room} {F : QF} {k n : Nat} {L st : List PV} {σ : Sto} {QX' : String → Sto → Prop} {Q : Int → Sto → Prop} {x0 : Int} (hc : MC Ω M_Mdl_isPerson R' (RI Q) QX' σ [xi x0]) (hr1 : R'.frames + 1 ≤ R.frames) (hr2 : 8 + (1 + 11) + R'.locals ≤ R.locals) (hb1 : k + R'.cells ≤ R.cells) (hb2 : n + R'.slots ≤ R.slots) (hst : (st.map catP).sum ≤ 8) (kk : ∀ x σ', Q x σ' → Aw Ω M_Mdl_begin R F (k + R'.cells) (n + R'.slots) 13 L (xi x :: st) σ') (kx : ∀ E σ', QX' E σ' → Ax Ω M_Mdl_begin R F (k + R'.cells) (n + R'.slots) 10 L st σ' E) : Aw Ω M_Mdl_begin R F k n 10 L (xi x0 :: st) σ :=
  Aw.callS (As := [xi x0]) (stk := xi x0 :: st) (nn := 1) M_Mdl_isPerson hc ok_Mdl_isPerson rfl ml_Mdl_175 sta_Mdl_isPerson ⟨hr1, hr2⟩ rfl ⟨hb1, hb2⟩ hst rfl d_Mdl_begin_10 (fun r σ' h => by obtain ⟨x, rfl, h⟩ := h; exact kk x σ' h) kx
theorem c_Mdl_begin_21 {Ω : Om} {R R' : Room} {F : QF} {k n : Nat} {L st : List PV} {σ : Sto} {QX' : String → Sto → Prop} {Q : Int → Sto → Prop} {a : Nat} {x0 : Int} (hc : MC Ω M_Mdl_refused R' (RI Q) QX' σ [xr (some a), xi x0]) (hk : sK σ a = 13) (hr1 : R'.frames + 1 ≤ R.frames) (hr2 : 8 + (2 + 11) + R'.locals ≤ R.locals) (hb1 : k + R'.cells ≤ R.cells) (hb2 : n + R'.slots ≤ R.slots) (hst : (st.map catP).sum ≤ 8) (kk : ∀ x σ', Q x σ' → Aw Ω M_Mdl_begin R F (k + R'.cells) (n + R'.slots) 24 L (xi x :: st) σ') (kx : ∀ E σ', QX' E σ' → Ax Ω M_Mdl_begin R F (k + R'.cells) (n + R'.slots) 21 L st σ' E) : Aw Ω M_Mdl_begin R F k n 21 L (xi x0 :: xr (some a) :: st) σ :=
  Aw.callV (As := [xi x0]) (stk := xi x0 :: xr (some a) :: st) (nn := 1) 12 M_Mdl_refused hc ok_Mdl_refused rfl (by decide) rfl hk ml_Mdl_151 im_Mdl_refused se_Mdl_refused ⟨hr1, hr2⟩ rfl ⟨hb1, hb2⟩ hst rfl d_Mdl_begin_21 (fun r σ' h => by obtain ⟨x, rfl, h⟩ := h; exact kk x σ' h) kx
theorem r_Mdl_begin_28 {Ω : Om} {R : Room} {k n : Nat} {L : List PV} {σ : Sto} {QR : Option PV → Sto → Prop} {QX : String → Sto → Prop} {x : Int} (h : QR (some (xi x)) σ) (h1 : k ≤ R.cells) (h2 : n ≤ R.slots) : Aw Ω M_Mdl_begin R (MF Ω R QR QX) k n 28 L [xi x] σ := Aw.iret rfl h h1 h2 d_Mdl_begin_28
theorem r_Mdl_begin_111 {Ω : Om} {R : Room} {k n : Nat} {L : List PV} {σ : Sto} {QR : Option PV → Sto → Prop} {QX : String → Sto → Prop} {x : Int} (h : QR (some (xi x)) σ) (h1 : k ≤ R.cells) (h2 : n ≤ R.slots) : Aw Ω M_Mdl_begin R (MF Ω R QR QX) k n 111 L [xi x] σ := Aw.iret rfl h h1 h2 d_Mdl_begin_111
theorem e_Mdl_hunk {Ω : Om} {R : Room} {QR : Option PV → Sto → Prop} {QX : String → Sto → Prop} {σ : Sto} {a0 : Nat} {v1 : Int} {v2 : Int} {v3 : Int} (h : Aw Ω M_Mdl_hunk R (MF Ω R QR QX) 0 0 0 [xr (some a0), xi v1, xi v2, xi v3, xu, xu] [] σ) : MC Ω M_Mdl_hunk R QR QX σ [xr (some a0), xi v1, xi v2, xi v3] := MC.body (by decide +kernel) rfl (Nat.le_of_ble_eq_true rfl) rfl h
theorem b_Mdl_hunk_0 {Ω : Om} {R : Room} {F : QF} {k n : Nat} {σ : Sto} {a0 : Nat} {v1 : Int} {v2 : Int} {v3 : Int} (h : Aw Ω M_Mdl_hunk R F k n 2 [xr (some a0), xi v1, xi v2, xi v3, xu, xu] [xi v1, xr (some a0)] σ) : Aw Ω M_Mdl_hunk R F k n 0 [xr (some a0), xi v1, xi v2, xi v3, xu, xu] [] σ := by
  refine Aw.aload_n rfl d_Mdl_hunk_0 ?_
  refine Aw.iload_n rfl d_Mdl_hunk_1 ?_
  exact h
theorem b_Mdl_hunk_5 {Ω : Om} {R : Room} {F : QF} {k n : Nat} {σ : Sto} {a0 : Nat} {v1 : Int} {v2 : Int} {v3 : Int} {s0 : Int} (h : Q32 s0 ∧ ((s0 = (0 : Int) → Aw Ω M_Mdl_hunk R F k n 55 [xr (some a0), xi v1, xi v2, xi v3, xi 0, xu] [xi 1, xr (some a0)] σ) ∧ (¬ s0 = (0 : Int) → sK σ a0 = 13 ∧ (∃ b4 : Nat, fR σ 798 a0 = some b4 ∧ sK σ b4 = 50 ∧ 0 ≤ v1 ∧ v1 < sZ σ b4 ∧ (Q32 (aI σ b4 (v1).toNat) → Aw Ω M_Mdl_hunk R F k n 18 [xr (some a0), xi v1, xi v2, xi v3, xu, xu] [xi ((aI σ b4 (v1).toNat) - 1), xi 0, xi v2] σ))))) : Aw Ω M_Mdl_hunk R F k n 5 [xr (some a0), xi v1, xi v2, xi v3, xu, xu] [xi s0] σ := by
  obtain ⟨o1, h⟩ := h
  obtain ⟨ht, hf⟩ := h
  refine Aw.if_eq (tgt := 28) o1 (by decide) d_Mdl_hunk_5 (fun c10 => ?_) (fun c10 => ?_)
  · have h := ht c10
    refine Aw.iconst d_Mdl_hunk_28 ?_
    refine Aw.istore (by decide) d_Mdl_hunk_29 ?_
    refine Aw.toL (L' := [xr (some a0), xi v1, xi v2, xi v3, xi 0, xu]) rfl ?_
    refine Aw.aload_n rfl d_Mdl_hunk_31 ?_
    refine Aw.iload rfl d_Mdl_hunk_32 ?_
    refine Aw.if_ne (tgt := 41) ⟨by decide, by decide⟩ (by decide) d_Mdl_hunk_34 (fun c2 => absurd c2 (by decide)) (fun c2 => ?_)
    refine Aw.iconst d_Mdl_hunk_37 ?_
    refine Aw.goto (tgt := 55) (by decide) d_Mdl_hunk_38 ?_
    exact h
  · have h := hf c10
    refine Aw.iload_n rfl d_Mdl_hunk_8 ?_
    refine Aw.iconst d_Mdl_hunk_9 ?_
    refine Aw.aload_n rfl d_Mdl_hunk_10 ?_
    obtain ⟨o3, h⟩ := h
    obtain ⟨b4, e5, h⟩ := h
    refine Aw.getRs (f := 798) 12 30 fl_Mdl_59 (by decide) (by decide) rfl rfl o3 e5 d_Mdl_hunk_11 ?_
    refine Aw.iload_n rfl d_Mdl_hunk_14 ?_
    obtain ⟨o6, h⟩ := h
    obtain ⟨o7, o8, h⟩ := h
    refine Aw.iald o6 o7 o8 d_Mdl_hunk_15 (fun r9 => ?_)
    have h := h r9
    refine Aw.iconst d_Mdl_hunk_16 ?_
    refine Aw.isub d_Mdl_hunk_17 ?_
    exact h
theorem b_Mdl_hunk_21 {Ω : Om} {R : Room} {F : QF} {k n : Nat} {σ : Sto} {a0 : Nat} {v1 : Int} {v2 : Int} {v3 : Int} {s0 : Int} (h : Q32 s0 ∧ ((s0 = (0 : Int) → Aw Ω M_Mdl_hunk R F k n 55 [xr (some a0), xi v1, xi v2, xi v3, xi 0, xu] [xi 1, xr (some a0)] σ) ∧ (¬ s0 = (0 : Int) → Aw Ω M_Mdl_hunk R F k n 44 [xr (some a0), xi v1, xi v2, xi v3, xi 1, xu] [xi 4, xi 0, xi v3, xr (some a0)] σ))) : Aw Ω M_Mdl_hunk R F k n 21 [xr (some a0), xi v1, xi v2, xi v3, xu, xu] [xi s0] σ := by
  obtain ⟨o1, h⟩ := h
  obtain ⟨ht, hf⟩ := h
  refine Aw.if_eq (tgt := 28) o1 (by decide) d_Mdl_hunk_21 (fun c4 => ?_) (fun c4 => ?_)
  · have h := ht c4
    refine Aw.iconst d_Mdl_hunk_28 ?_
    refine Aw.istore (by decide) d_Mdl_hunk_29 ?_
    refine Aw.toL (L' := [xr (some a0), xi v1, xi v2, xi v3, xi 0, xu]) rfl ?_
    refine Aw.aload_n rfl d_Mdl_hunk_31 ?_
    refine Aw.iload rfl d_Mdl_hunk_32 ?_
    refine Aw.if_ne (tgt := 41) ⟨by decide, by decide⟩ (by decide) d_Mdl_hunk_34 (fun c2 => absurd c2 (by decide)) (fun c2 => ?_)
    refine Aw.iconst d_Mdl_hunk_37 ?_
    refine Aw.goto (tgt := 55) (by decide) d_Mdl_hunk_38 ?_
    exact h
  · have h := hf c4
    refine Aw.iconst d_Mdl_hunk_24 ?_
    refine Aw.goto (tgt := 29) (by decide) d_Mdl_hunk_25 ?_
    refine Aw.istore (by decide) d_Mdl_hunk_29 ?_
    refine Aw.toL (L' := [xr (some a0), xi v1, xi v2, xi v3, xi 1, xu]) rfl ?_
    refine Aw.aload_n rfl d_Mdl_hunk_31 ?_
    refine Aw.iload rfl d_Mdl_hunk_32 ?_
    refine Aw.if_ne (tgt := 41) ⟨by decide, by decide⟩ (by decide) d_Mdl_hunk_34 (fun c3 => ?_) (fun c3 => absurd c3 (by decide))
    refine Aw.iload_n rfl d_Mdl_hunk_41 ?_
    refine Aw.iconst d_Mdl_hunk_42 ?_
    refine Aw.iconst d_Mdl_hunk_43 ?_
    exact h
theorem b_Mdl_hunk_47 {Ω : Om} {R : Room} {F : QF} {k n : Nat} {σ : Sto} {a0 : Nat} {v1 : Int} {v2 : Int} {v3 : Int} {v4 : Int} {s0 : Nat} {s1 : Int} (h : Q32 s1 ∧ ((s1 = (0 : Int) → Aw Ω M_Mdl_hunk R F k n 55 [xr (some a0), xi v1, xi v2, xi v3, xi v4, xu] [xi 2, xr (some s0)] σ) ∧ (¬ s1 = (0 : Int) → Aw Ω M_Mdl_hunk R F k n 55 [xr (some a0), xi v1, xi v2, xi v3, xi v4, xu] [xi 0, xr (some s0)] σ))) : Aw Ω M_Mdl_hunk R F k n 47 [xr (some a0), xi v1, xi v2, xi v3, xi v4, xu] [xi s1, xr (some s0)] σ := by
  obtain ⟨o1, h⟩ := h
  obtain ⟨ht, hf⟩ := h
  refine Aw.if_eq (tgt := 54) o1 (by decide) d_Mdl_hunk_47 (fun c2 => ?_) (fun c2 => ?_)
  · have h := ht c2
    refine Aw.iconst d_Mdl_hunk_54 ?_
    exact h
  · have h := hf c2
    refine Aw.iconst d_Mdl_hunk_50 ?_
    refine Aw.goto (tgt := 55) (by decide) d_Mdl_hunk_51 ?_
    exact h
theorem b_Mdl_hunk_58 {Ω : Om} {R : Room} {F : QF} {k n : Nat} {σ : Sto} {a0 : Nat} {v1 : Int} {v2 : Int} {v3 : Int} {v4 : Int} {s0 : Int} (h : Q32 s0 ∧ ((s0 = (0 : Int) → Q32 v3 ∧ ((¬ v3 = (0 : Int) → sK σ a0 = 13 ∧ (∃ b4 : Nat, fR σ 801 a0 = some b4 ∧ sK σ b4 = 50 ∧ 0 ≤ (((4 * ((21 * v1) + v2)) + v3) - 1) ∧ (((4 * ((21 * v1) + v2)) + v3) - 1) < sZ σ b4 ∧ (Q32 (aI σ b4 (((4 * ((21 * v1) + v2)) + v3) - 1).toNat) → Aw Ω M_Mdl_hunk R F k n 98 [xr (some a0), xi v1, xi v2, xi v3, xi v4, xi ((21 * v1) + v2)] [xi (aI σ b4 (((4 * ((21 * v1) + v2)) + v3) - 1).toNat)] σ))) ∧ (v3 = (0 : Int) → sK σ a0 = 13 ∧ (∃ b11 : Nat, fR σ 799 a0 = some b11 ∧ sK σ b11 = 50 ∧ 0 ≤ ((21 * v1) + v2) ∧ ((21 * v1) + v2) < sZ σ b11 ∧ (Q32 (aI σ b11 ((21 * v1) + v2).toNat) → Aw Ω M_Mdl_hunk R F k n 98 [xr (some a0), xi v1, xi v2, xi v3, xi v4, xi ((21 * v1) + v2)] [xi (aI σ b11 ((21 * v1) + v2).toNat)] σ))))) ∧ (¬ s0 = (0 : Int) → Aw Ω M_Mdl_hunk R F k n 62 [xr (some a0), xi v1, xi v2, xi v3, xi v4, xu] [xi 0] σ))) : Aw Ω M_Mdl_hunk R F k n 58 [xr (some a0), xi v1, xi v2, xi v3, xi v4, xu] [xi s0] σ := by
  obtain ⟨o1, h⟩ := h
  obtain ⟨ht, hf⟩ := h
  refine Aw.if_eq (tgt := 63) o1 (by decide) d_Mdl_hunk_58 (fun c18 => ?_) (fun c18 => ?_)
  · have h := ht c18
    refine Aw.bipush (by decide) d_Mdl_hunk_63 ?_
    refine Aw.iload_n rfl d_Mdl_hunk_65 ?_
    refine Aw.imul d_Mdl_hunk_66 ?_
    refine Aw.iload_n rfl d_Mdl_hunk_67 ?_
    refine Aw.iadd d_Mdl_hunk_68 ?_
    refine Aw.istore (by decide) d_Mdl_hunk_69 ?_
    refine Aw.toL (L' := [xr (some a0), xi v1, xi v2, xi v3, xi v4, xi ((21 * v1) + v2)]) rfl ?_
    refine Aw.iload_n rfl d_Mdl_hunk_71 ?_
    obtain ⟨o2, h⟩ := h
    obtain ⟨ht, hf⟩ := h
    refine Aw.if_ne (tgt := 85) o2 (by decide) d_Mdl_hunk_72 (fun c17 => ?_) (fun c17 => ?_)
    · have h := ht c17
      refine Aw.aload_n rfl d_Mdl_hunk_85 ?_
      obtain ⟨o3, h⟩ := h
      obtain ⟨b4, e5, h⟩ := h
      refine Aw.getRs (f := 801) 12 33 fl_Mdl_68 (by decide) (by decide) rfl rfl o3 e5 d_Mdl_hunk_86 ?_
      refine Aw.iconst d_Mdl_hunk_89 ?_
      refine Aw.iload rfl d_Mdl_hunk_90 ?_
      refine Aw.imul d_Mdl_hunk_92 ?_
      refine Aw.iload_n rfl d_Mdl_hunk_93 ?_
      refine Aw.iadd d_Mdl_hunk_94 ?_
      refine Aw.iconst d_Mdl_hunk_95 ?_
      refine Aw.isub d_Mdl_hunk_96 ?_
      obtain ⟨o6, h⟩ := h
      obtain ⟨o7, o8, h⟩ := h
      refine Aw.iald o6 o7 o8 d_Mdl_hunk_97 (fun r9 => ?_)
      have h := h r9
      exact h
    · have h := hf c17
      refine Aw.aload_n rfl d_Mdl_hunk_75 ?_
      obtain ⟨o10, h⟩ := h
      obtain ⟨b11, e12, h⟩ := h
      refine Aw.getRs (f := 799) 12 31 fl_Mdl_62 (by decide) (by decide) rfl rfl o10 e12 d_Mdl_hunk_76 ?_
      refine Aw.iload rfl d_Mdl_hunk_79 ?_
      obtain ⟨o13, h⟩ := h
      obtain ⟨o14, o15, h⟩ := h
      refine Aw.iald o13 o14 o15 d_Mdl_hunk_81 (fun r16 => ?_)
      have h := h r16
      refine Aw.goto (tgt := 98) (by decide) d_Mdl_hunk_82 ?_
      exact h
  · have h := hf c18
    refine Aw.iconst d_Mdl_hunk_61 ?_
    exact h
theorem c_Mdl_hunk_2 {Ω : Om} {R R' : Room} {F : QF} {k n : Nat} {L st : List PV} {σ : Sto} {QX' : String → Sto → Prop} {Q : Int → Sto → Prop} {a : Nat} {x0 : Int} (hc : MC Ω M_Mdl_isPatch R' (RI Q) QX' σ [xr (some a), xi x0]) (hk : sK σ a = 13) (hr1 : R'.frames + 1 ≤ R.frames) (hr2 : 8 + (2 + 11) + R'.locals ≤ R.locals) (hb1 : k + R'.cells ≤ R.cells) (hb2 : n + R'.slots ≤ R.slots) (hst : (st.map catP).sum ≤ 8) (kk : ∀ x σ', Q x σ' → Aw Ω M_Mdl_hunk R F (k + R'.cells) (n + R'.slots) 5 L (xi x :: st) σ') (kx : ∀ E σ', QX' E σ' → Ax Ω M_Mdl_hunk R F (k + R'.cells) (n + R'.slots) 2 L st σ' E) : Aw Ω M_Mdl_hunk R F k n 2 L (xi x0 :: xr (some a) :: st) σ :=
  Aw.callV (As := [xi x0]) (stk := xi x0 :: xr (some a) :: st) (nn := 1) 12 M_Mdl_isPatch hc ok_Mdl_isPatch rfl (by decide) rfl hk ml_Mdl_324 im_Mdl_isPatch se_Mdl_isPatch ⟨hr1, hr2⟩ rfl ⟨hb1, hb2⟩ hst rfl d_Mdl_hunk_2 (fun r σ' h => by obtain ⟨x, rfl, h⟩ := h; exact kk x σ' h) kx
theorem c_Mdl_hunk_18 {Ω : Om} {R R' : Room} {F : QF} {k n : Nat} {L st : List PV} {σ : Sto} {QX' : String → Sto → Prop} {Q : Int → Sto → Prop} {x0 : Int} {x1 : Int} {x2 : Int} (hc : MC Ω M_Mdl_in R' (RI Q) QX' σ [xi x0, xi x1, xi x2]) (hr1 : R'.frames + 1 ≤ R.frames) (hr2 : 8 + (3 + 11) + R'.locals ≤ R.locals) (hb1 : k + R'.cells ≤ R.cells) (hb2 : n + R'.slots ≤ R.slots) (hst : (st.map catP).sum ≤ 8) (kk : ∀ x σ', Q x σ' → Aw Ω M_Mdl_hunk R F (k + R'.cells) (n + R'.slots) 21 L (xi x :: st) σ') (kx : ∀ E σ', QX' E σ' → Ax Ω M_Mdl_hunk R F (k + R'.cells) (n + R'.slots) 18 L st σ' E) : Aw Ω M_Mdl_hunk R F k n 18 L (xi x2 :: xi x1 :: xi x0 :: st) σ :=
  Aw.callS (As := [xi x0, xi x1, xi x2]) (stk := xi x2 :: xi x1 :: xi x0 :: st) (nn := 3) M_Mdl_in hc ok_Mdl_in rfl ml_Mdl_130 sta_Mdl_in ⟨hr1, hr2⟩ rfl ⟨hb1, hb2⟩ hst rfl d_Mdl_hunk_18 (fun r σ' h => by obtain ⟨x, rfl, h⟩ := h; exact kk x σ' h) kx
theorem c_Mdl_hunk_44 {Ω : Om} {R R' : Room} {F : QF} {k n : Nat} {L st : List PV} {σ : Sto} {QX' : String → Sto → Prop} {Q : Int → Sto → Prop} {x0 : Int} {x1 : Int} {x2 : Int} (hc : MC Ω M_Mdl_in R' (RI Q) QX' σ [xi x0, xi x1, xi x2]) (hr1 : R'.frames + 1 ≤ R.frames) (hr2 : 8 + (3 + 11) + R'.locals ≤ R.locals) (hb1 : k + R'.cells ≤ R.cells) (hb2 : n + R'.slots ≤ R.slots) (hst : (st.map catP).sum ≤ 8) (kk : ∀ x σ', Q x σ' → Aw Ω M_Mdl_hunk R F (k + R'.cells) (n + R'.slots) 47 L (xi x :: st) σ') (kx : ∀ E σ', QX' E σ' → Ax Ω M_Mdl_hunk R F (k + R'.cells) (n + R'.slots) 44 L st σ' E) : Aw Ω M_Mdl_hunk R F k n 44 L (xi x2 :: xi x1 :: xi x0 :: st) σ :=
  Aw.callS (As := [xi x0, xi x1, xi x2]) (stk := xi x2 :: xi x1 :: xi x0 :: st) (nn := 3) M_Mdl_in hc ok_Mdl_in rfl ml_Mdl_130 sta_Mdl_in ⟨hr1, hr2⟩ rfl ⟨hb1, hb2⟩ hst rfl d_Mdl_hunk_44 (fun r σ' h => by obtain ⟨x, rfl, h⟩ := h; exact kk x σ' h) kx
theorem c_Mdl_hunk_55 {Ω : Om} {R R' : Room} {F : QF} {k n : Nat} {L st : List PV} {σ : Sto} {QX' : String → Sto → Prop} {Q : Int → Sto → Prop} {a : Nat} {x0 : Int} (hc : MC Ω M_Mdl_refused R' (RI Q) QX' σ [xr (some a), xi x0]) (hk : sK σ a = 13) (hr1 : R'.frames + 1 ≤ R.frames) (hr2 : 8 + (2 + 11) + R'.locals ≤ R.locals) (hb1 : k + R'.cells ≤ R.cells) (hb2 : n + R'.slots ≤ R.slots) (hst : (st.map catP).sum ≤ 8) (kk : ∀ x σ', Q x σ' → Aw Ω M_Mdl_hunk R F (k + R'.cells) (n + R'.slots) 58 L (xi x :: st) σ') (kx : ∀ E σ', QX' E σ' → Ax Ω M_Mdl_hunk R F (k + R'.cells) (n + R'.slots) 55 L st σ' E) : Aw Ω M_Mdl_hunk R F k n 55 L (xi x0 :: xr (some a) :: st) σ :=
  Aw.callV (As := [xi x0]) (stk := xi x0 :: xr (some a) :: st) (nn := 1) 12 M_Mdl_refused hc ok_Mdl_refused rfl (by decide) rfl hk ml_Mdl_151 im_Mdl_refused se_Mdl_refused ⟨hr1, hr2⟩ rfl ⟨hb1, hb2⟩ hst rfl d_Mdl_hunk_55 (fun r σ' h => by obtain ⟨x, rfl, h⟩ := h; exact kk x σ' h) kx
theorem r_Mdl_hunk_62 {Ω : Om} {R : Room} {k n : Nat} {L : List PV} {σ : Sto} {QR : Option PV → Sto → Prop} {QX : String → Sto → Prop} {x : Int} (h : QR (some (xi x)) σ) (h1 : k ≤ R.cells) (h2 : n ≤ R.slots) : Aw Ω M_Mdl_hunk R (MF Ω R QR QX) k n 62 L [xi x] σ := Aw.iret rfl h h1 h2 d_Mdl_hunk_62
theorem r_Mdl_hunk_98 {Ω : Om} {R : Room} {k n : Nat} {L : List PV} {σ : Sto} {QR : Option PV → Sto → Prop} {QX : String → Sto → Prop} {x : Int} (h : QR (some (xi x)) σ) (h1 : k ≤ R.cells) (h2 : n ≤ R.slots) : Aw Ω M_Mdl_hunk R (MF Ω R QR QX) k n 98 L [xi x] σ := Aw.iret rfl h h1 h2 d_Mdl_hunk_98
theorem e_Mdl_draftLine {Ω : Om} {R : Room} {QR : Option PV → Sto → Prop} {QX : String → Sto → Prop} {σ : Sto} {a0 : Nat} {v1 : Int} (h : Aw Ω M_Mdl_draftLine R (MF Ω R QR QX) 0 0 0 [xr (some a0), xi v1, xu, xu, xu, xu] [] σ) : MC Ω M_Mdl_draftLine R QR QX σ [xr (some a0), xi v1] := MC.body (by decide +kernel) rfl (Nat.le_of_ble_eq_true rfl) rfl h
theorem b_Mdl_draftLine_0 {Ω : Om} {R : Room} {F : QF} {k n : Nat} {σ : Sto} {a0 : Nat} {v1 : Int} (h : Aw Ω M_Mdl_draftLine R F k n 3 [xr (some a0), xi v1, xu, xu, xu, xu] [xi v1, xr (some a0), xr (some a0)] σ) : Aw Ω M_Mdl_draftLine R F k n 0 [xr (some a0), xi v1, xu, xu, xu, xu] [] σ := by
  refine Aw.aload_n rfl d_Mdl_draftLine_0 ?_
  refine Aw.aload_n rfl d_Mdl_draftLine_1 ?_
  refine Aw.iload_n rfl d_Mdl_draftLine_2 ?_
  exact h
theorem b_Mdl_draftLine_6 {Ω : Om} {R : Room} {F : QF} {k n : Nat} {σ : Sto} {a0 : Nat} {v1 : Int} {s0 : Nat} {s1 : Int} (h : Q32 s1 ∧ ((s1 = (0 : Int) → Aw Ω M_Mdl_draftLine R F k n 14 [xr (some a0), xi v1, xu, xu, xu, xu] [xi 1, xr (some s0)] σ) ∧ (¬ s1 = (0 : Int) → Aw Ω M_Mdl_draftLine R F k n 14 [xr (some a0), xi v1, xu, xu, xu, xu] [xi 0, xr (some s0)] σ))) : Aw Ω M_Mdl_draftLine R F k n 6 [xr (some a0), xi v1, xu, xu, xu, xu] [xi s1, xr (some s0)] σ := by
  obtain ⟨o1, h⟩ := h
  obtain ⟨ht, hf⟩ := h
  refine Aw.if_eq (tgt := 13) o1 (by decide) d_Mdl_draftLine_6 (fun c2 => ?_) (fun c2 => ?_)
  · have h := ht c2
    refine Aw.iconst d_Mdl_draftLine_13 ?_
    exact h
  · have h := hf c2
    refine Aw.iconst d_Mdl_draftLine_9 ?_
    refine Aw.goto (tgt := 14) (by decide) d_Mdl_draftLine_10 ?_
    exact h
theorem b_Mdl_draftLine_17 {Ω : Om} {R : Room} {F : QF} {k n : Nat} {σ : Sto} {a0 : Nat} {v1 : Int} {s0 : Int} (h : Q32 s0 ∧ ((s0 = (0 : Int) → Aw Ω M_Mdl_draftLine R F k n 29 [xr (some a0), xi v1, xi 0, xl 0, xu, xi 0] [] σ) ∧ (¬ s0 = (0 : Int) → Aw Ω M_Mdl_draftLine R F k n 21 [xr (some a0), xi v1, xu, xu, xu, xu] [xl 0] σ))) : Aw Ω M_Mdl_draftLine R F k n 17 [xr (some a0), xi v1, xu, xu, xu, xu] [xi s0] σ := by
  obtain ⟨o1, h⟩ := h
  obtain ⟨ht, hf⟩ := h
  refine Aw.if_eq (tgt := 22) o1 (by decide) d_Mdl_draftLine_17 (fun c2 => ?_) (fun c2 => ?_)
  · have h := ht c2
    refine Aw.iconst d_Mdl_draftLine_22 ?_
    refine Aw.istore_n (by decide) d_Mdl_draftLine_23 ?_
    refine Aw.toL (L' := [xr (some a0), xi v1, xi 0, xu, xu, xu]) rfl ?_
    refine Aw.lconst (w := 0) (by decide) d_Mdl_draftLine_24 ?_
    refine Aw.lstore_n (by decide) d_Mdl_draftLine_25 ?_
    refine Aw.toL (L' := [xr (some a0), xi v1, xi 0, xl 0, xu, xu]) rfl ?_
    refine Aw.iconst d_Mdl_draftLine_26 ?_
    refine Aw.istore (by decide) d_Mdl_draftLine_27 ?_
    refine Aw.toL (L' := [xr (some a0), xi v1, xi 0, xl 0, xu, xi 0]) rfl ?_
    exact h
  · have h := hf c2
    refine Aw.lconst (w := 0) (by decide) d_Mdl_draftLine_20 ?_
    exact h
theorem b_Mdl_draftLine_29 {Ω : Om} {R : Room} {F : QF} {k n : Nat} {σ : Sto} {a0 : Nat} {v1 : Int} {v2 : Int} {v3 : Int64} {v5 : Int} (h : sK σ a0 = 13 ∧ (Q32 (fI σ 783 a0) → Q32 v5 ∧ (((fI σ 783 a0) ≤ v5 → Aw Ω M_Mdl_draftLine R F k n 95 [xr (some a0), xi v1, xi v2, xl v3, xu, xi v5] [xl v3] σ) ∧ (¬ (fI σ 783 a0) ≤ v5 → (∃ b4 : Nat, fR σ 784 a0 = some b4 ∧ sK σ b4 = 50 ∧ 0 ≤ v5 ∧ v5 < sZ σ b4 ∧ (Q32 (aI σ b4 (v5).toNat) → (((aI σ b4 (v5).toNat) < (0 : Int) → (Q32 (aI σ b4 (v5).toNat) → (((aI σ b4 (v5).toNat) < (0 : Int) → Aw Ω M_Mdl_draftLine R F k n 29 [xr (some a0), xi v1, xi (v2 + 0), xl v3, xu, xi (v5 + 1)] [] σ) ∧ (¬ (aI σ b4 (v5).toNat) < (0 : Int) → Aw Ω M_Mdl_draftLine R F k n 29 [xr (some a0), xi v1, xi (v2 + 1), xl v3, xu, xi (v5 + 1)] [] σ)))) ∧ (¬ (aI σ b4 (v5).toNat) < (0 : Int) → Q32 v2 ∧ Q32 v1 ∧ ((¬ v2 = v1 → (Q32 (aI σ b4 (v5).toNat) → (((aI σ b4 (v5).toNat) < (0 : Int) → Aw Ω M_Mdl_draftLine R F k n 29 [xr (some a0), xi v1, xi (v2 + 0), xl v3, xu, xi (v5 + 1)] [] σ) ∧ (¬ (aI σ b4 (v5).toNat) < (0 : Int) → Aw Ω M_Mdl_draftLine R F k n 29 [xr (some a0), xi v1, xi (v2 + 1), xl v3, xu, xi (v5 + 1)] [] σ)))) ∧ (v2 = v1 → (∃ b16 : Nat, fR σ 770 a0 = some b16 ∧ (Q32 (aI σ b4 (v5).toNat) → sK σ b16 = 51 ∧ 0 ≤ (aI σ b4 (v5).toNat) ∧ (aI σ b4 (v5).toNat) < sZ σ b16 ∧ (Q32 (aI σ b4 (v5).toNat) → (((aI σ b4 (v5).toNat) < (0 : Int) → Aw Ω M_Mdl_draftLine R F k n 29 [xr (some a0), xi v1, xi (v2 + 0), xl (aL σ b16 (aI σ b4 (v5).toNat).toNat), xu, xi (v5 + 1)] [] σ) ∧ (¬ (aI σ b4 (v5).toNat) < (0 : Int) → Aw Ω M_Mdl_draftLine R F k n 29 [xr (some a0), xi v1, xi (v2 + 1), xl (aL σ b16 (aI σ b4 (v5).toNat).toNat), xu, xi (v5 + 1)] [] σ))))))))))))))) : Aw Ω M_Mdl_draftLine R F k n 29 [xr (some a0), xi v1, xi v2, xl v3, xu, xi v5] [] σ := by
  refine Aw.iload rfl d_Mdl_draftLine_29 ?_
  refine Aw.aload_n rfl d_Mdl_draftLine_31 ?_
  obtain ⟨o1, h⟩ := h
  refine Aw.getI (f := 783) 12 15 fl_Mdl_194 (by decide) (by decide) rfl rfl o1 d_Mdl_draftLine_32 (fun r2 => ?_)
  have h := h r2
  obtain ⟨o3, h⟩ := h
  obtain ⟨ht, hf⟩ := h
  refine Aw.icmp_ge (tgt := 94) o3 r2 (by decide) d_Mdl_draftLine_35 (fun c26 => ?_) (fun c26 => ?_)
  · have h := ht c26
    refine Aw.lload_n rfl d_Mdl_draftLine_94 ?_
    exact h
  · have h := hf c26
    refine Aw.aload_n rfl d_Mdl_draftLine_38 ?_
    obtain ⟨b4, e5, h⟩ := h
    refine Aw.getRs (f := 784) 12 16 fl_Mdl_35 (by decide) (by decide) rfl rfl o1 e5 d_Mdl_draftLine_39 ?_
    refine Aw.iload rfl d_Mdl_draftLine_42 ?_
    obtain ⟨o6, h⟩ := h
    obtain ⟨o7, o8, h⟩ := h
    refine Aw.iald o6 o7 o8 d_Mdl_draftLine_44 (fun r9 => ?_)
    have h := h r9
    obtain ⟨ht, hf⟩ := h
    refine Aw.if_lt (tgt := 68) r9 (by decide) d_Mdl_draftLine_45 (fun c25 => ?_) (fun c25 => ?_)
    · have h := ht c25
      refine Aw.lload_n rfl d_Mdl_draftLine_68 ?_
      refine Aw.lstore_n (by decide) d_Mdl_draftLine_69 ?_
      refine Aw.toL (L' := [xr (some a0), xi v1, xi v2, xl v3, xu, xi v5]) rfl ?_
      refine Aw.iload_n rfl d_Mdl_draftLine_70 ?_
      refine Aw.aload_n rfl d_Mdl_draftLine_71 ?_
      refine Aw.getRs (f := 784) 12 16 fl_Mdl_35 (by decide) (by decide) rfl rfl o1 e5 d_Mdl_draftLine_72 ?_
      refine Aw.iload rfl d_Mdl_draftLine_75 ?_
      refine Aw.iald o6 o7 o8 d_Mdl_draftLine_77 (fun r10 => ?_)
      have h := h r10
      obtain ⟨ht, hf⟩ := h
      refine Aw.if_lt (tgt := 85) r10 (by decide) d_Mdl_draftLine_78 (fun c11 => ?_) (fun c11 => ?_)
      · have h := ht c11
        refine Aw.iconst d_Mdl_draftLine_85 ?_
        refine Aw.iadd d_Mdl_draftLine_86 ?_
        refine Aw.istore_n (by decide) d_Mdl_draftLine_87 ?_
        refine Aw.toL (L' := [xr (some a0), xi v1, xi (v2 + 0), xl v3, xu, xi v5]) rfl ?_
        refine Aw.iinc rfl d_Mdl_draftLine_88 ?_
        refine Aw.toL (L' := [xr (some a0), xi v1, xi (v2 + 0), xl v3, xu, xi (v5 + 1)]) rfl ?_
        refine Aw.goto (tgt := 29) (by decide) d_Mdl_draftLine_91 ?_
        exact h
      · have h := hf c11
        refine Aw.iconst d_Mdl_draftLine_81 ?_
        refine Aw.goto (tgt := 86) (by decide) d_Mdl_draftLine_82 ?_
        refine Aw.iadd d_Mdl_draftLine_86 ?_
        refine Aw.istore_n (by decide) d_Mdl_draftLine_87 ?_
        refine Aw.toL (L' := [xr (some a0), xi v1, xi (v2 + 1), xl v3, xu, xi v5]) rfl ?_
        refine Aw.iinc rfl d_Mdl_draftLine_88 ?_
        refine Aw.toL (L' := [xr (some a0), xi v1, xi (v2 + 1), xl v3, xu, xi (v5 + 1)]) rfl ?_
        refine Aw.goto (tgt := 29) (by decide) d_Mdl_draftLine_91 ?_
        exact h
    · have h := hf c25
      refine Aw.iload_n rfl d_Mdl_draftLine_48 ?_
      refine Aw.iload_n rfl d_Mdl_draftLine_49 ?_
      obtain ⟨o12, h⟩ := h
      obtain ⟨o13, h⟩ := h
      obtain ⟨ht, hf⟩ := h
      refine Aw.icmp_ne (tgt := 68) o12 o13 (by decide) d_Mdl_draftLine_50 (fun c24 => ?_) (fun c24 => ?_)
      · have h := ht c24
        refine Aw.lload_n rfl d_Mdl_draftLine_68 ?_
        refine Aw.lstore_n (by decide) d_Mdl_draftLine_69 ?_
        refine Aw.toL (L' := [xr (some a0), xi v1, xi v2, xl v3, xu, xi v5]) rfl ?_
        refine Aw.iload_n rfl d_Mdl_draftLine_70 ?_
        refine Aw.aload_n rfl d_Mdl_draftLine_71 ?_
        refine Aw.getRs (f := 784) 12 16 fl_Mdl_35 (by decide) (by decide) rfl rfl o1 e5 d_Mdl_draftLine_72 ?_
        refine Aw.iload rfl d_Mdl_draftLine_75 ?_
        refine Aw.iald o6 o7 o8 d_Mdl_draftLine_77 (fun r14 => ?_)
        have h := h r14
        obtain ⟨ht, hf⟩ := h
        refine Aw.if_lt (tgt := 85) r9 (by decide) d_Mdl_draftLine_78 (fun c15 => ?_) (fun c15 => ?_)
        · have h := ht c15
          refine Aw.iconst d_Mdl_draftLine_85 ?_
          refine Aw.iadd d_Mdl_draftLine_86 ?_
          refine Aw.istore_n (by decide) d_Mdl_draftLine_87 ?_
          refine Aw.toL (L' := [xr (some a0), xi v1, xi (v2 + 0), xl v3, xu, xi v5]) rfl ?_
          refine Aw.iinc rfl d_Mdl_draftLine_88 ?_
          refine Aw.toL (L' := [xr (some a0), xi v1, xi (v2 + 0), xl v3, xu, xi (v5 + 1)]) rfl ?_
          refine Aw.goto (tgt := 29) (by decide) d_Mdl_draftLine_91 ?_
          exact h
        · have h := hf c15
          refine Aw.iconst d_Mdl_draftLine_81 ?_
          refine Aw.goto (tgt := 86) (by decide) d_Mdl_draftLine_82 ?_
          refine Aw.iadd d_Mdl_draftLine_86 ?_
          refine Aw.istore_n (by decide) d_Mdl_draftLine_87 ?_
          refine Aw.toL (L' := [xr (some a0), xi v1, xi (v2 + 1), xl v3, xu, xi v5]) rfl ?_
          refine Aw.iinc rfl d_Mdl_draftLine_88 ?_
          refine Aw.toL (L' := [xr (some a0), xi v1, xi (v2 + 1), xl v3, xu, xi (v5 + 1)]) rfl ?_
          refine Aw.goto (tgt := 29) (by decide) d_Mdl_draftLine_91 ?_
          exact h
      · have h := hf c24
        refine Aw.aload_n rfl d_Mdl_draftLine_53 ?_
        obtain ⟨b16, e17, h⟩ := h
        refine Aw.getRs (f := 770) 12 2 fl_Mdl_7 (by decide) (by decide) rfl rfl o1 e17 d_Mdl_draftLine_54 ?_
        refine Aw.aload_n rfl d_Mdl_draftLine_57 ?_
        refine Aw.getRs (f := 784) 12 16 fl_Mdl_35 (by decide) (by decide) rfl rfl o1 e5 d_Mdl_draftLine_58 ?_
        refine Aw.iload rfl d_Mdl_draftLine_61 ?_
        refine Aw.iald o6 o7 o8 d_Mdl_draftLine_63 (fun r18 => ?_)
        have h := h r18
        obtain ⟨o19, h⟩ := h
        obtain ⟨o20, o21, h⟩ := h
        refine Aw.lald o19 o20 o21 d_Mdl_draftLine_64 ?_
        refine Aw.goto (tgt := 69) (by decide) d_Mdl_draftLine_65 ?_
        refine Aw.lstore_n (by decide) d_Mdl_draftLine_69 ?_
        refine Aw.toL (L' := [xr (some a0), xi v1, xi v2, xl (aL σ b16 (aI σ b4 (v5).toNat).toNat), xu, xi v5]) rfl ?_
        refine Aw.iload_n rfl d_Mdl_draftLine_70 ?_
        refine Aw.aload_n rfl d_Mdl_draftLine_71 ?_
        refine Aw.getRs (f := 784) 12 16 fl_Mdl_35 (by decide) (by decide) rfl rfl o1 e5 d_Mdl_draftLine_72 ?_
        refine Aw.iload rfl d_Mdl_draftLine_75 ?_
        refine Aw.iald o6 o7 o8 d_Mdl_draftLine_77 (fun r22 => ?_)
        have h := h r22
        obtain ⟨ht, hf⟩ := h
        refine Aw.if_lt (tgt := 85) r9 (by decide) d_Mdl_draftLine_78 (fun c23 => ?_) (fun c23 => ?_)
        · have h := ht c23
          refine Aw.iconst d_Mdl_draftLine_85 ?_
          refine Aw.iadd d_Mdl_draftLine_86 ?_
          refine Aw.istore_n (by decide) d_Mdl_draftLine_87 ?_
          refine Aw.toL (L' := [xr (some a0), xi v1, xi (v2 + 0), xl (aL σ b16 (aI σ b4 (v5).toNat).toNat), xu, xi v5]) rfl ?_
          refine Aw.iinc rfl d_Mdl_draftLine_88 ?_
          refine Aw.toL (L' := [xr (some a0), xi v1, xi (v2 + 0), xl (aL σ b16 (aI σ b4 (v5).toNat).toNat), xu, xi (v5 + 1)]) rfl ?_
          refine Aw.goto (tgt := 29) (by decide) d_Mdl_draftLine_91 ?_
          exact h
        · have h := hf c23
          refine Aw.iconst d_Mdl_draftLine_81 ?_
          refine Aw.goto (tgt := 86) (by decide) d_Mdl_draftLine_82 ?_
          refine Aw.iadd d_Mdl_draftLine_86 ?_
          refine Aw.istore_n (by decide) d_Mdl_draftLine_87 ?_
          refine Aw.toL (L' := [xr (some a0), xi v1, xi (v2 + 1), xl (aL σ b16 (aI σ b4 (v5).toNat).toNat), xu, xi v5]) rfl ?_
          refine Aw.iinc rfl d_Mdl_draftLine_88 ?_
          refine Aw.toL (L' := [xr (some a0), xi v1, xi (v2 + 1), xl (aL σ b16 (aI σ b4 (v5).toNat).toNat), xu, xi (v5 + 1)]) rfl ?_
          refine Aw.goto (tgt := 29) (by decide) d_Mdl_draftLine_91 ?_
          exact h
theorem c_Mdl_draftLine_3 {Ω : Om} {R R' : Room} {F : QF} {k n : Nat} {L st : List PV} {σ : Sto} {QX' : String → Sto → Prop} {Q : Int → Sto → Prop} {a : Nat} {x0 : Int} (hc : MC Ω M_Mdl_isPlace R' (RI Q) QX' σ [xr (some a), xi x0]) (hk : sK σ a = 13) (hr1 : R'.frames + 1 ≤ R.frames) (hr2 : 8 + (2 + 11) + R'.locals ≤ R.locals) (hb1 : k + R'.cells ≤ R.cells) (hb2 : n + R'.slots ≤ R.slots) (hst : (st.map catP).sum ≤ 8) (kk : ∀ x σ', Q x σ' → Aw Ω M_Mdl_draftLine R F (k + R'.cells) (n + R'.slots) 6 L (xi x :: st) σ') (kx : ∀ E σ', QX' E σ' → Ax Ω M_Mdl_draftLine R F (k + R'.cells) (n + R'.slots) 3 L st σ' E) : Aw Ω M_Mdl_draftLine R F k n 3 L (xi x0 :: xr (some a) :: st) σ :=
  Aw.callV (As := [xi x0]) (stk := xi x0 :: xr (some a) :: st) (nn := 1) 12 M_Mdl_isPlace hc ok_Mdl_isPlace rfl (by decide) rfl hk ml_Mdl_215 im_Mdl_isPlace se_Mdl_isPlace ⟨hr1, hr2⟩ rfl ⟨hb1, hb2⟩ hst rfl d_Mdl_draftLine_3 (fun r σ' h => by obtain ⟨x, rfl, h⟩ := h; exact kk x σ' h) kx
theorem c_Mdl_draftLine_14 {Ω : Om} {R R' : Room} {F : QF} {k n : Nat} {L st : List PV} {σ : Sto} {QX' : String → Sto → Prop} {Q : Int → Sto → Prop} {a : Nat} {x0 : Int} (hc : MC Ω M_Mdl_refused R' (RI Q) QX' σ [xr (some a), xi x0]) (hk : sK σ a = 13) (hr1 : R'.frames + 1 ≤ R.frames) (hr2 : 8 + (2 + 11) + R'.locals ≤ R.locals) (hb1 : k + R'.cells ≤ R.cells) (hb2 : n + R'.slots ≤ R.slots) (hst : (st.map catP).sum ≤ 8) (kk : ∀ x σ', Q x σ' → Aw Ω M_Mdl_draftLine R F (k + R'.cells) (n + R'.slots) 17 L (xi x :: st) σ') (kx : ∀ E σ', QX' E σ' → Ax Ω M_Mdl_draftLine R F (k + R'.cells) (n + R'.slots) 14 L st σ' E) : Aw Ω M_Mdl_draftLine R F k n 14 L (xi x0 :: xr (some a) :: st) σ :=
  Aw.callV (As := [xi x0]) (stk := xi x0 :: xr (some a) :: st) (nn := 1) 12 M_Mdl_refused hc ok_Mdl_refused rfl (by decide) rfl hk ml_Mdl_151 im_Mdl_refused se_Mdl_refused ⟨hr1, hr2⟩ rfl ⟨hb1, hb2⟩ hst rfl d_Mdl_draftLine_14 (fun r σ' h => by obtain ⟨x, rfl, h⟩ := h; exact kk x σ' h) kx
theorem r_Mdl_draftLine_21 {Ω : Om} {R : Room} {k n : Nat} {L : List PV} {σ : Sto} {QR : Option PV → Sto → Prop} {QX : String → Sto → Prop} {x : Int64} (h : QR (some (xl x)) σ) (h1 : k ≤ R.cells) (h2 : n ≤ R.slots) : Aw Ω M_Mdl_draftLine R (MF Ω R QR QX) k n 21 L [xl x] σ := Aw.lret rfl h h1 h2 d_Mdl_draftLine_21
theorem r_Mdl_draftLine_95 {Ω : Om} {R : Room} {k n : Nat} {L : List PV} {σ : Sto} {QR : Option PV → Sto → Prop} {QX : String → Sto → Prop} {x : Int64} (h : QR (some (xl x)) σ) (h1 : k ≤ R.cells) (h2 : n ≤ R.slots) : Aw Ω M_Mdl_draftLine R (MF Ω R QR QX) k n 95 L [xl x] σ := Aw.lret rfl h h1 h2 d_Mdl_draftLine_95
theorem e_Mdl_note {Ω : Om} {R : Room} {QR : Option PV → Sto → Prop} {QX : String → Sto → Prop} {σ : Sto} {a0 : Nat} {v1 : Int} {v2 : Int} (h : Aw Ω M_Mdl_note R (MF Ω R QR QX) 0 0 0 [xr (some a0), xi v1, xi v2] [] σ) : MC Ω M_Mdl_note R QR QX σ [xr (some a0), xi v1, xi v2] := MC.body (by decide +kernel) rfl (Nat.le_of_ble_eq_true rfl) rfl h
theorem b_Mdl_note_0 {Ω : Om} {R : Room} {F : QF} {k n : Nat} {σ : Sto} {a0 : Nat} {v1 : Int} {v2 : Int} (h : Aw Ω M_Mdl_note R F k n 4 [xr (some a0), xi v1, xi v2] [xi v2, xi v1, xr (some a0), xr (some a0)] σ) : Aw Ω M_Mdl_note R F k n 0 [xr (some a0), xi v1, xi v2] [] σ := by
  refine Aw.aload_n rfl d_Mdl_note_0 ?_
  refine Aw.aload_n rfl d_Mdl_note_1 ?_
  refine Aw.iload_n rfl d_Mdl_note_2 ?_
  refine Aw.iload_n rfl d_Mdl_note_3 ?_
  exact h
theorem b_Mdl_note_7 {Ω : Om} {R : Room} {F : QF} {k n : Nat} {σ : Sto} {a0 : Nat} {v1 : Int} {v2 : Int} {s0 : Nat} {s1 : Int} (h : Q32 s1 ∧ ((¬ s1 = (0 : Int) → sK σ a0 = 13 ∧ (Q32 (fI σ 804 a0) → ((¬ (fI σ 804 a0) = (20 : Int) → Aw Ω M_Mdl_note R F k n 28 [xr (some a0), xi v1, xi v2] [xi 0, xr (some s0)] σ) ∧ ((fI σ 804 a0) = (20 : Int) → Aw Ω M_Mdl_note R F k n 28 [xr (some a0), xi v1, xi v2] [xi 2, xr (some s0)] σ)))) ∧ (s1 = (0 : Int) → Aw Ω M_Mdl_note R F k n 28 [xr (some a0), xi v1, xi v2] [xi 1, xr (some s0)] σ))) : Aw Ω M_Mdl_note R F k n 7 [xr (some a0), xi v1, xi v2] [xi s1, xr (some s0)] σ := by
  obtain ⟨o1, h⟩ := h
  obtain ⟨ht, hf⟩ := h
  refine Aw.if_ne (tgt := 14) o1 (by decide) d_Mdl_note_7 (fun c5 => ?_) (fun c5 => ?_)
  · have h := ht c5
    refine Aw.aload_n rfl d_Mdl_note_14 ?_
    obtain ⟨o2, h⟩ := h
    refine Aw.getI (f := 804) 12 36 fl_Mdl_345 (by decide) (by decide) rfl rfl o2 d_Mdl_note_15 (fun r3 => ?_)
    have h := h r3
    refine Aw.bipush (by decide) d_Mdl_note_18 ?_
    obtain ⟨ht, hf⟩ := h
    refine Aw.icmp_ne (tgt := 27) r3 ⟨by decide, by decide⟩ (by decide) d_Mdl_note_20 (fun c4 => ?_) (fun c4 => ?_)
    · have h := ht c4
      refine Aw.iconst d_Mdl_note_27 ?_
      exact h
    · have h := hf c4
      refine Aw.iconst d_Mdl_note_23 ?_
      refine Aw.goto (tgt := 28) (by decide) d_Mdl_note_24 ?_
      exact h
  · have h := hf c5
    refine Aw.iconst d_Mdl_note_10 ?_
    refine Aw.goto (tgt := 28) (by decide) d_Mdl_note_11 ?_
    exact h
theorem b_Mdl_note_31 {Ω : Om} {R : Room} {F : QF} {k n : Nat} {σ : Sto} {a0 : Nat} {v1 : Int} {v2 : Int} {s0 : Int} (h : Q32 s0 ∧ ((s0 = (0 : Int) → sK σ a0 = 13 ∧ (∃ b3 : Nat, fR σ 805 a0 = some b3 ∧ (Q32 (fI σ 804 a0) → (∃ b6 : Nat, fR σ 775 a0 = some b6 ∧ sK σ b6 = 50 ∧ 0 ≤ ((20 * v1) + v2) ∧ ((20 * v1) + v2) < sZ σ b6 ∧ (Q32 (aI σ b6 ((20 * v1) + v2).toNat) → sK σ b3 = 50 ∧ 0 ≤ (fI σ 804 a0) ∧ (fI σ 804 a0) < sZ σ b3 ∧ (Q32 (fI σ 804 a0) → Q32 ((fI σ 804 a0) + 1) ∧ Aw Ω M_Mdl_note R F k n 66 [xr (some a0), xi v1, xi v2] [] (uI (vI σ b3 (fI σ 804 a0).toNat (aI σ b6 ((20 * v1) + v2).toNat)) 804 a0 ((fI σ 804 a0) + 1)))))))) ∧ (¬ s0 = (0 : Int) → Aw Ω M_Mdl_note R F k n 35 [xr (some a0), xi v1, xi v2] [xi 0] σ))) : Aw Ω M_Mdl_note R F k n 31 [xr (some a0), xi v1, xi v2] [xi s0] σ := by
  obtain ⟨o1, h⟩ := h
  obtain ⟨ht, hf⟩ := h
  refine Aw.if_eq (tgt := 36) o1 (by decide) d_Mdl_note_31 (fun c17 => ?_) (fun c17 => ?_)
  · have h := ht c17
    refine Aw.aload_n rfl d_Mdl_note_36 ?_
    obtain ⟨o2, h⟩ := h
    obtain ⟨b3, e4, h⟩ := h
    refine Aw.getRs (f := 805) 12 37 fl_Mdl_77 (by decide) (by decide) rfl rfl o2 e4 d_Mdl_note_37 ?_
    refine Aw.aload_n rfl d_Mdl_note_40 ?_
    refine Aw.getI (f := 804) 12 36 fl_Mdl_345 (by decide) (by decide) rfl rfl o2 d_Mdl_note_41 (fun r5 => ?_)
    have h := h r5
    refine Aw.aload_n rfl d_Mdl_note_44 ?_
    obtain ⟨b6, e7, h⟩ := h
    refine Aw.getRs (f := 775) 12 7 fl_Mdl_23 (by decide) (by decide) rfl rfl o2 e7 d_Mdl_note_45 ?_
    refine Aw.bipush (by decide) d_Mdl_note_48 ?_
    refine Aw.iload_n rfl d_Mdl_note_50 ?_
    refine Aw.imul d_Mdl_note_51 ?_
    refine Aw.iload_n rfl d_Mdl_note_52 ?_
    refine Aw.iadd d_Mdl_note_53 ?_
    obtain ⟨o8, h⟩ := h
    obtain ⟨o9, o10, h⟩ := h
    refine Aw.iald o8 o9 o10 d_Mdl_note_54 (fun r11 => ?_)
    have h := h r11
    obtain ⟨o12, h⟩ := h
    obtain ⟨o13, o14, h⟩ := h
    refine Aw.iast o12 o13 o14 r11 d_Mdl_note_55 ?_
    refine Aw.aload_n rfl d_Mdl_note_56 ?_
    refine Aw.dup rfl d_Mdl_note_57 ?_
    refine Aw.getI (f := 804) 12 36 fl_Mdl_345 (by decide) (by decide) rfl rfl o2 d_Mdl_note_58 (fun r15 => ?_)
    have h := h r15
    refine Aw.iconst d_Mdl_note_61 ?_
    refine Aw.iadd d_Mdl_note_62 ?_
    obtain ⟨o16, h⟩ := h
    refine Aw.putI (f := 804) 12 36 fl_Mdl_345 (by decide) (by decide) rfl rfl o2 rfl o16 (Or.inl rfl) d_Mdl_note_63 ?_
    exact h
  · have h := hf c17
    refine Aw.iconst d_Mdl_note_34 ?_
    exact h
theorem b_Mdl_note_66 {Ω : Om} {R : Room} {F : QF} {k n : Nat} {σ : Sto} {a0 : Nat} {v1 : Int} {v2 : Int} (h : sK σ a0 = 13 ∧ (Q32 (fI σ 804 a0) → Aw Ω M_Mdl_note R F k n 72 [xr (some a0), xi v1, xi v2] [xi ((fI σ 804 a0) - 1)] σ)) : Aw Ω M_Mdl_note R F k n 66 [xr (some a0), xi v1, xi v2] [] σ := by
  refine Aw.aload_n rfl d_Mdl_note_66 ?_
  obtain ⟨o1, h⟩ := h
  refine Aw.getI (f := 804) 12 36 fl_Mdl_345 (by decide) (by decide) rfl rfl o1 d_Mdl_note_67 (fun r2 => ?_)
  have h := h r2
  refine Aw.iconst d_Mdl_note_70 ?_
  refine Aw.isub d_Mdl_note_71 ?_
  exact h
theorem c_Mdl_note_4 {Ω : Om} {R R' : Room} {F : QF} {k n : Nat} {L st : List PV} {σ : Sto} {QX' : String → Sto → Prop} {Q : Int → Sto → Prop} {a : Nat} {x0 : Int} {x1 : Int} (hc : MC Ω M_Mdl_isLineOf R' (RI Q) QX' σ [xr (some a), xi x0, xi x1]) (hk : sK σ a = 13) (hr1 : R'.frames + 1 ≤ R.frames) (hr2 : 8 + (3 + 11) + R'.locals ≤ R.locals) (hb1 : k + R'.cells ≤ R.cells) (hb2 : n + R'.slots ≤ R.slots) (hst : (st.map catP).sum ≤ 8) (kk : ∀ x σ', Q x σ' → Aw Ω M_Mdl_note R F (k + R'.cells) (n + R'.slots) 7 L (xi x :: st) σ') (kx : ∀ E σ', QX' E σ' → Ax Ω M_Mdl_note R F (k + R'.cells) (n + R'.slots) 4 L st σ' E) : Aw Ω M_Mdl_note R F k n 4 L (xi x1 :: xi x0 :: xr (some a) :: st) σ :=
  Aw.callV (As := [xi x0, xi x1]) (stk := xi x1 :: xi x0 :: xr (some a) :: st) (nn := 2) 12 M_Mdl_isLineOf hc ok_Mdl_isLineOf rfl (by decide) rfl hk ml_Mdl_226 im_Mdl_isLineOf se_Mdl_isLineOf ⟨hr1, hr2⟩ rfl ⟨hb1, hb2⟩ hst rfl d_Mdl_note_4 (fun r σ' h => by obtain ⟨x, rfl, h⟩ := h; exact kk x σ' h) kx
theorem c_Mdl_note_28 {Ω : Om} {R R' : Room} {F : QF} {k n : Nat} {L st : List PV} {σ : Sto} {QX' : String → Sto → Prop} {Q : Int → Sto → Prop} {a : Nat} {x0 : Int} (hc : MC Ω M_Mdl_refused R' (RI Q) QX' σ [xr (some a), xi x0]) (hk : sK σ a = 13) (hr1 : R'.frames + 1 ≤ R.frames) (hr2 : 8 + (2 + 11) + R'.locals ≤ R.locals) (hb1 : k + R'.cells ≤ R.cells) (hb2 : n + R'.slots ≤ R.slots) (hst : (st.map catP).sum ≤ 8) (kk : ∀ x σ', Q x σ' → Aw Ω M_Mdl_note R F (k + R'.cells) (n + R'.slots) 31 L (xi x :: st) σ') (kx : ∀ E σ', QX' E σ' → Ax Ω M_Mdl_note R F (k + R'.cells) (n + R'.slots) 28 L st σ' E) : Aw Ω M_Mdl_note R F k n 28 L (xi x0 :: xr (some a) :: st) σ :=
  Aw.callV (As := [xi x0]) (stk := xi x0 :: xr (some a) :: st) (nn := 1) 12 M_Mdl_refused hc ok_Mdl_refused rfl (by decide) rfl hk ml_Mdl_151 im_Mdl_refused se_Mdl_refused ⟨hr1, hr2⟩ rfl ⟨hb1, hb2⟩ hst rfl d_Mdl_note_28 (fun r σ' h => by obtain ⟨x, rfl, h⟩ := h; exact kk x σ' h) kx
theorem r_Mdl_note_35 {Ω : Om} {R : Room} {k n : Nat} {L : List PV} {σ : Sto} {QR : Option PV → Sto → Prop} {QX : String → Sto → Prop} {x : Int} (h : QR (some (xi x)) σ) (h1 : k ≤ R.cells) (h2 : n ≤ R.slots) : Aw Ω M_Mdl_note R (MF Ω R QR QX) k n 35 L [xi x] σ := Aw.iret rfl h h1 h2 d_Mdl_note_35
theorem r_Mdl_note_72 {Ω : Om} {R : Room} {k n : Nat} {L : List PV} {σ : Sto} {QR : Option PV → Sto → Prop} {QX : String → Sto → Prop} {x : Int} (h : QR (some (xi x)) σ) (h1 : k ≤ R.cells) (h2 : n ≤ R.slots) : Aw Ω M_Mdl_note R (MF Ω R QR QX) k n 72 L [xi x] σ := Aw.iret rfl h h1 h2 d_Mdl_note_72
theorem e_Mdl_isKey {Ω : Om} {R : Room} {QR : Option PV → Sto → Prop} {QX : String → Sto → Prop} {σ : Sto} {a0 : Nat} {v1 : Int} {v2 : Int} {v3 : Int} (h : Aw Ω M_Mdl_isKey R (MF Ω R QR QX) 0 0 0 [xr (some a0), xi v1, xi v2, xi v3, xu, xu] [] σ) : MC Ω M_Mdl_isKey R QR QX σ [xr (some a0), xi v1, xi v2, xi v3] := MC.body (by decide +kernel) rfl (Nat.le_of_ble_eq_true rfl) rfl h
theorem b_Mdl_isKey_0 {Ω : Om} {R : Room} {F : QF} {k n : Nat} {σ : Sto} {a0 : Nat} {v1 : Int} {v2 : Int} {v3 : Int} (h : Aw Ω M_Mdl_isKey R F k n 8 [xr (some a0), xi v1, xi v2, xi v3, xi 1, xi (v2 + 1)] [] σ) : Aw Ω M_Mdl_isKey R F k n 0 [xr (some a0), xi v1, xi v2, xi v3, xu, xu] [] σ := by
  refine Aw.iconst d_Mdl_isKey_0 ?_
  refine Aw.istore (by decide) d_Mdl_isKey_1 ?_
  refine Aw.toL (L' := [xr (some a0), xi v1, xi v2, xi v3, xi 1, xu]) rfl ?_
  refine Aw.iload_n rfl d_Mdl_isKey_3 ?_
  refine Aw.iconst d_Mdl_isKey_4 ?_
  refine Aw.iadd d_Mdl_isKey_5 ?_
  refine Aw.istore (by decide) d_Mdl_isKey_6 ?_
  refine Aw.toL (L' := [xr (some a0), xi v1, xi v2, xi v3, xi 1, xi (v2 + 1)]) rfl ?_
  exact h
theorem b_Mdl_isKey_8 {Ω : Om} {R : Room} {F : QF} {k n : Nat} {σ : Sto} {a0 : Nat} {v1 : Int} {v2 : Int} {v3 : Int} {v4 : Int} {v5 : Int} (h : Q32 v5 ∧ Q32 v3 ∧ ((v3 < v5 → Aw Ω M_Mdl_isKey R F k n 60 [xr (some a0), xi v1, xi v2, xi v3, xi v4, xi v5] [xi v4] σ) ∧ (¬ v3 < v5 → Q32 v4 ∧ ((v4 = (0 : Int) → Aw Ω M_Mdl_isKey R F k n 8 [xr (some a0), xi v1, xi v2, xi v3, xi 0, xi (v5 + 1)] [] σ) ∧ (¬ v4 = (0 : Int) → sK σ a0 = 13 ∧ (∃ b5 : Nat, fR σ 816 a0 = some b5 ∧ sK σ b5 = 50 ∧ 0 ≤ ((22 * v1) + v5) ∧ ((22 * v1) + v5) < sZ σ b5 ∧ (Q32 (aI σ b5 ((22 * v1) + v5).toNat) → 0 ≤ ((22 * v1) + v2) ∧ ((22 * v1) + v2) < sZ σ b5 ∧ (Q32 (aI σ b5 ((22 * v1) + v2).toNat) → (((aI σ b5 ((22 * v1) + v5).toNat) = (aI σ b5 ((22 * v1) + v2).toNat) → Aw Ω M_Mdl_isKey R F k n 8 [xr (some a0), xi v1, xi v2, xi v3, xi 0, xi (v5 + 1)] [] σ) ∧ (¬ (aI σ b5 ((22 * v1) + v5).toNat) = (aI σ b5 ((22 * v1) + v2).toNat) → Aw Ω M_Mdl_isKey R F k n 8 [xr (some a0), xi v1, xi v2, xi v3, xi 1, xi (v5 + 1)] [] σ)))))))))) : Aw Ω M_Mdl_isKey R F k n 8 [xr (some a0), xi v1, xi v2, xi v3, xi v4, xi v5] [] σ := by
  refine Aw.iload rfl d_Mdl_isKey_8 ?_
  refine Aw.iload_n rfl d_Mdl_isKey_10 ?_
  obtain ⟨o1, h⟩ := h
  obtain ⟨o2, h⟩ := h
  obtain ⟨ht, hf⟩ := h
  refine Aw.icmp_gt (tgt := 58) o1 o2 (by decide) d_Mdl_isKey_11 (fun c16 => ?_) (fun c16 => ?_)
  · have h := ht c16
    refine Aw.iload rfl d_Mdl_isKey_58 ?_
    exact h
  · have h := hf c16
    refine Aw.iload rfl d_Mdl_isKey_14 ?_
    obtain ⟨o3, h⟩ := h
    obtain ⟨ht, hf⟩ := h
    refine Aw.if_eq (tgt := 49) o3 (by decide) d_Mdl_isKey_16 (fun c15 => ?_) (fun c15 => ?_)
    · have h := ht c15
      refine Aw.iconst d_Mdl_isKey_49 ?_
      refine Aw.istore (by decide) d_Mdl_isKey_50 ?_
      refine Aw.toL (L' := [xr (some a0), xi v1, xi v2, xi v3, xi 0, xi v5]) rfl ?_
      refine Aw.iinc rfl d_Mdl_isKey_52 ?_
      refine Aw.toL (L' := [xr (some a0), xi v1, xi v2, xi v3, xi 0, xi (v5 + 1)]) rfl ?_
      refine Aw.goto (tgt := 8) (by decide) d_Mdl_isKey_55 ?_
      exact h
    · have h := hf c15
      refine Aw.aload_n rfl d_Mdl_isKey_19 ?_
      obtain ⟨o4, h⟩ := h
      obtain ⟨b5, e6, h⟩ := h
      refine Aw.getRs (f := 816) 12 48 fl_Mdl_108 (by decide) (by decide) rfl rfl o4 e6 d_Mdl_isKey_20 ?_
      refine Aw.bipush (by decide) d_Mdl_isKey_23 ?_
      refine Aw.iload_n rfl d_Mdl_isKey_25 ?_
      refine Aw.imul d_Mdl_isKey_26 ?_
      refine Aw.iload rfl d_Mdl_isKey_27 ?_
      refine Aw.iadd d_Mdl_isKey_29 ?_
      obtain ⟨o7, h⟩ := h
      obtain ⟨o8, o9, h⟩ := h
      refine Aw.iald o7 o8 o9 d_Mdl_isKey_30 (fun r10 => ?_)
      have h := h r10
      refine Aw.aload_n rfl d_Mdl_isKey_31 ?_
      refine Aw.getRs (f := 816) 12 48 fl_Mdl_108 (by decide) (by decide) rfl rfl o4 e6 d_Mdl_isKey_32 ?_
      refine Aw.bipush (by decide) d_Mdl_isKey_35 ?_
      refine Aw.iload_n rfl d_Mdl_isKey_37 ?_
      refine Aw.imul d_Mdl_isKey_38 ?_
      refine Aw.iload_n rfl d_Mdl_isKey_39 ?_
      refine Aw.iadd d_Mdl_isKey_40 ?_
      obtain ⟨o11, o12, h⟩ := h
      refine Aw.iald o7 o11 o12 d_Mdl_isKey_41 (fun r13 => ?_)
      have h := h r13
      obtain ⟨ht, hf⟩ := h
      refine Aw.icmp_eq (tgt := 49) r10 r13 (by decide) d_Mdl_isKey_42 (fun c14 => ?_) (fun c14 => ?_)
      · have h := ht c14
        refine Aw.iconst d_Mdl_isKey_49 ?_
        refine Aw.istore (by decide) d_Mdl_isKey_50 ?_
        refine Aw.toL (L' := [xr (some a0), xi v1, xi v2, xi v3, xi 0, xi v5]) rfl ?_
        refine Aw.iinc rfl d_Mdl_isKey_52 ?_
        refine Aw.toL (L' := [xr (some a0), xi v1, xi v2, xi v3, xi 0, xi (v5 + 1)]) rfl ?_
        refine Aw.goto (tgt := 8) (by decide) d_Mdl_isKey_55 ?_
        exact h
      · have h := hf c14
        refine Aw.iconst d_Mdl_isKey_45 ?_
        refine Aw.goto (tgt := 50) (by decide) d_Mdl_isKey_46 ?_
        refine Aw.istore (by decide) d_Mdl_isKey_50 ?_
        refine Aw.toL (L' := [xr (some a0), xi v1, xi v2, xi v3, xi 1, xi v5]) rfl ?_
        refine Aw.iinc rfl d_Mdl_isKey_52 ?_
        refine Aw.toL (L' := [xr (some a0), xi v1, xi v2, xi v3, xi 1, xi (v5 + 1)]) rfl ?_
        refine Aw.goto (tgt := 8) (by decide) d_Mdl_isKey_55 ?_
        exact h
theorem r_Mdl_isKey_60 {Ω : Om} {R : Room} {k n : Nat} {L : List PV} {σ : Sto} {QR : Option PV → Sto → Prop} {QX : String → Sto → Prop} {x : Int} (hx : x = 0 ∨ x = 1) (h : QR (some (xi x)) σ) (h1 : k ≤ R.cells) (h2 : n ≤ R.slots) : Aw Ω M_Mdl_isKey R (MF Ω R QR QX) k n 60 L [xi x] σ := Aw.zret rfl hx h h1 h2 d_Mdl_isKey_60
theorem e_Mdl_conflicts {Ω : Om} {R : Room} {QR : Option PV → Sto → Prop} {QX : String → Sto → Prop} {σ : Sto} {a0 : Nat} (h : Aw Ω M_Mdl_conflicts R (MF Ω R QR QX) 0 0 0 [xr (some a0), xu, xu] [] σ) : MC Ω M_Mdl_conflicts R QR QX σ [xr (some a0)] := MC.body (by decide +kernel) rfl (Nat.le_of_ble_eq_true rfl) rfl h
theorem b_Mdl_conflicts_0 {Ω : Om} {R : Room} {F : QF} {k n : Nat} {σ : Sto} {a0 : Nat} (h : Aw Ω M_Mdl_conflicts R F k n 4 [xr (some a0), xi 0, xi 0] [] σ) : Aw Ω M_Mdl_conflicts R F k n 0 [xr (some a0), xu, xu] [] σ := by
  refine Aw.iconst d_Mdl_conflicts_0 ?_
  refine Aw.istore_n (by decide) d_Mdl_conflicts_1 ?_
  refine Aw.toL (L' := [xr (some a0), xi 0, xu]) rfl ?_
  refine Aw.iconst d_Mdl_conflicts_2 ?_
  refine Aw.istore_n (by decide) d_Mdl_conflicts_3 ?_
  refine Aw.toL (L' := [xr (some a0), xi 0, xi 0]) rfl ?_
  exact h
theorem b_Mdl_conflicts_4 {Ω : Om} {R : Room} {F : QF} {k n : Nat} {σ : Sto} {a0 : Nat} {v1 : Int} {v2 : Int} (h : sK σ a0 = 13 ∧ (Q32 (fI σ 785 a0) → Q32 v2 ∧ (((fI σ 785 a0) ≤ v2 → Aw Ω M_Mdl_conflicts R F k n 46 [xr (some a0), xi v1, xi v2] [xi v1, xr (some a0)] σ) ∧ (¬ (fI σ 785 a0) ≤ v2 → (Q32 (fI σ 779 a0) → (((fI σ 779 a0) = (0 : Int) → Aw Ω M_Mdl_conflicts R F k n 46 [xr (some a0), xi v1, xi v2] [xi v1, xr (some a0)] σ) ∧ (¬ (fI σ 779 a0) = (0 : Int) → (Q32 (fI σ 786 a0) → Q32 (bAnd (bShr (fI σ 786 a0) v2) 1) ∧ ((¬ (bAnd (bShr (fI σ 786 a0) v2) 1) = (0 : Int) → Aw Ω M_Mdl_conflicts R F k n 4 [xr (some a0), xi (v1 + 0), xi (v2 + 1)] [] σ) ∧ ((bAnd (bShr (fI σ 786 a0) v2) 1) = (0 : Int) → Aw Ω M_Mdl_conflicts R F k n 4 [xr (some a0), xi (v1 + 1), xi (v2 + 1)] [] σ)))))))))) : Aw Ω M_Mdl_conflicts R F k n 4 [xr (some a0), xi v1, xi v2] [] σ := by
  refine Aw.iload_n rfl d_Mdl_conflicts_4 ?_
  refine Aw.aload_n rfl d_Mdl_conflicts_5 ?_
  obtain ⟨o1, h⟩ := h
  refine Aw.getI (f := 785) 12 17 fl_Mdl_185 (by decide) (by decide) rfl rfl o1 d_Mdl_conflicts_6 (fun r2 => ?_)
  have h := h r2
  obtain ⟨o3, h⟩ := h
  obtain ⟨ht, hf⟩ := h
  refine Aw.icmp_ge (tgt := 44) o3 r2 (by decide) d_Mdl_conflicts_9 (fun c9 => ?_) (fun c9 => ?_)
  · have h := ht c9
    refine Aw.aload_n rfl d_Mdl_conflicts_44 ?_
    refine Aw.iload_n rfl d_Mdl_conflicts_45 ?_
    exact h
  · have h := hf c9
    refine Aw.aload_n rfl d_Mdl_conflicts_12 ?_
    refine Aw.getI (f := 779) 12 11 fl_Mdl_178 (by decide) (by decide) rfl rfl o1 d_Mdl_conflicts_13 (fun r4 => ?_)
    have h := h r4
    obtain ⟨ht, hf⟩ := h
    refine Aw.if_eq (tgt := 44) r4 (by decide) d_Mdl_conflicts_16 (fun c8 => ?_) (fun c8 => ?_)
    · have h := ht c8
      refine Aw.aload_n rfl d_Mdl_conflicts_44 ?_
      refine Aw.iload_n rfl d_Mdl_conflicts_45 ?_
      exact h
    · have h := hf c8
      refine Aw.iload_n rfl d_Mdl_conflicts_19 ?_
      refine Aw.aload_n rfl d_Mdl_conflicts_20 ?_
      refine Aw.getI (f := 786) 12 18 fl_Mdl_188 (by decide) (by decide) rfl rfl o1 d_Mdl_conflicts_21 (fun r5 => ?_)
      have h := h r5
      refine Aw.iload_n rfl d_Mdl_conflicts_24 ?_
      refine Aw.ishr d_Mdl_conflicts_25 ?_
      refine Aw.iconst d_Mdl_conflicts_26 ?_
      refine Aw.iand d_Mdl_conflicts_27 ?_
      obtain ⟨o6, h⟩ := h
      obtain ⟨ht, hf⟩ := h
      refine Aw.if_ne (tgt := 35) o6 (by decide) d_Mdl_conflicts_28 (fun c7 => ?_) (fun c7 => ?_)
      · have h := ht c7
        refine Aw.iconst d_Mdl_conflicts_35 ?_
        refine Aw.iadd d_Mdl_conflicts_36 ?_
        refine Aw.istore_n (by decide) d_Mdl_conflicts_37 ?_
        refine Aw.toL (L' := [xr (some a0), xi (v1 + 0), xi v2]) rfl ?_
        refine Aw.iinc rfl d_Mdl_conflicts_38 ?_
        refine Aw.toL (L' := [xr (some a0), xi (v1 + 0), xi (v2 + 1)]) rfl ?_
        refine Aw.goto (tgt := 4) (by decide) d_Mdl_conflicts_41 ?_
        exact h
      · have h := hf c7
        refine Aw.iconst d_Mdl_conflicts_31 ?_
        refine Aw.goto (tgt := 36) (by decide) d_Mdl_conflicts_32 ?_
        refine Aw.iadd d_Mdl_conflicts_36 ?_
        refine Aw.istore_n (by decide) d_Mdl_conflicts_37 ?_
        refine Aw.toL (L' := [xr (some a0), xi (v1 + 1), xi v2]) rfl ?_
        refine Aw.iinc rfl d_Mdl_conflicts_38 ?_
        refine Aw.toL (L' := [xr (some a0), xi (v1 + 1), xi (v2 + 1)]) rfl ?_
        refine Aw.goto (tgt := 4) (by decide) d_Mdl_conflicts_41 ?_
        exact h
theorem c_Mdl_conflicts_46 {Ω : Om} {R R' : Room} {F : QF} {k n : Nat} {L st : List PV} {σ : Sto} {QX' : String → Sto → Prop} {Q : Int → Sto → Prop} {a : Nat} {x0 : Int} (hc : MC Ω M_Mdl_fine R' (RI Q) QX' σ [xr (some a), xi x0]) (hk : sK σ a = 13) (hr1 : R'.frames + 1 ≤ R.frames) (hr2 : 8 + (2 + 11) + R'.locals ≤ R.locals) (hb1 : k + R'.cells ≤ R.cells) (hb2 : n + R'.slots ≤ R.slots) (hst : (st.map catP).sum ≤ 8) (kk : ∀ x σ', Q x σ' → Aw Ω M_Mdl_conflicts R F (k + R'.cells) (n + R'.slots) 49 L (xi x :: st) σ') (kx : ∀ E σ', QX' E σ' → Ax Ω M_Mdl_conflicts R F (k + R'.cells) (n + R'.slots) 46 L st σ' E) : Aw Ω M_Mdl_conflicts R F k n 46 L (xi x0 :: xr (some a) :: st) σ :=
  Aw.callV (As := [xi x0]) (stk := xi x0 :: xr (some a) :: st) (nn := 1) 12 M_Mdl_fine hc ok_Mdl_fine rfl (by decide) rfl hk ml_Mdl_222 im_Mdl_fine se_Mdl_fine ⟨hr1, hr2⟩ rfl ⟨hb1, hb2⟩ hst rfl d_Mdl_conflicts_46 (fun r σ' h => by obtain ⟨x, rfl, h⟩ := h; exact kk x σ' h) kx
theorem r_Mdl_conflicts_49 {Ω : Om} {R : Room} {k n : Nat} {L : List PV} {σ : Sto} {QR : Option PV → Sto → Prop} {QX : String → Sto → Prop} {x : Int} (h : QR (some (xi x)) σ) (h1 : k ≤ R.cells) (h2 : n ≤ R.slots) : Aw Ω M_Mdl_conflicts R (MF Ω R QR QX) k n 49 L [xi x] σ := Aw.iret rfl h h1 h2 d_Mdl_conflicts_49
theorem e_Mdl_putPiece {Ω : Om} {R : Room} {QR : Option PV → Sto → Prop} {QX : String → Sto → Prop} {σ : Sto} {a0 : Nat} {v1 : Int} {v2 : Int} (h : Aw Ω M_Mdl_putPiece R (MF Ω R QR QX) 0 0 0 [xr (some a0), xi v1, xi v2, xu] [] σ) : MC Ω M_Mdl_putPiece R QR QX σ [xr (some a0), xi v1, xi v2] := MC.body (by decide +kernel) rfl (Nat.le_of_ble_eq_true rfl) rfl h
theorem b_Mdl_putPiece_0 {Ω : Om} {R : Room} {F : QF} {k n : Nat} {σ : Sto} {a0 : Nat} {v1 : Int} {v2 : Int} (h : Aw Ω M_Mdl_putPiece R F k n 2 [xr (some a0), xi v1, xi v2, xi 0] [] σ) : Aw Ω M_Mdl_putPiece R F k n 0 [xr (some a0), xi v1, xi v2, xu] [] σ := by
  refine Aw.iconst d_Mdl_putPiece_0 ?_
  refine Aw.istore_n (by decide) d_Mdl_putPiece_1 ?_
  refine Aw.toL (L' := [xr (some a0), xi v1, xi v2, xi 0]) rfl ?_
  exact h
theorem b_Mdl_putPiece_2 {Ω : Om} {R : Room} {F : QF} {k n : Nat} {σ : Sto} {a0 : Nat} {v1 : Int} {v2 : Int} {v3 : Int} (h : sK σ a0 = 13 ∧ (∃ b2 : Nat, fR σ 787 a0 = some b2 ∧ sK σ b2 = 50 ∧ 0 ≤ v2 ∧ v2 < sZ σ b2 ∧ (Q32 (aI σ b2 (v2).toNat) → Q32 v3 ∧ (((aI σ b2 (v2).toNat) ≤ v3 → (Q32 (aI σ b2 (v2).toNat) → Aw Ω M_Mdl_putPiece R F k n 44 [xr (some a0), xi v1, xi v2, xi v3] [xi (v1 + (aI σ b2 (v2).toNat))] σ)) ∧ (¬ (aI σ b2 (v2).toNat) ≤ v3 → (∃ b10 : Nat, fR σ 788 a0 = some b10 ∧ sK σ b10 = 50 ∧ 0 ≤ ((20 * v2) + v3) ∧ ((20 * v2) + v3) < sZ σ b10 ∧ (Q32 (aI σ b10 ((20 * v2) + v3).toNat) → Aw Ω M_Mdl_putPiece R F k n 27 [xr (some a0), xi v1, xi v2, xi v3] [xi (aI σ b10 ((20 * v2) + v3).toNat), xi (v1 + v3), xr (some a0)] σ))))))) : Aw Ω M_Mdl_putPiece R F k n 2 [xr (some a0), xi v1, xi v2, xi v3] [] σ := by
  refine Aw.iload_n rfl d_Mdl_putPiece_2 ?_
  refine Aw.aload_n rfl d_Mdl_putPiece_3 ?_
  obtain ⟨o1, h⟩ := h
  obtain ⟨b2, e3, h⟩ := h
  refine Aw.getRs (f := 787) 12 19 fl_Mdl_38 (by decide) (by decide) rfl rfl o1 e3 d_Mdl_putPiece_4 ?_
  refine Aw.iload_n rfl d_Mdl_putPiece_7 ?_
  obtain ⟨o4, h⟩ := h
  obtain ⟨o5, o6, h⟩ := h
  refine Aw.iald o4 o5 o6 d_Mdl_putPiece_8 (fun r7 => ?_)
  have h := h r7
  obtain ⟨o8, h⟩ := h
  obtain ⟨ht, hf⟩ := h
  refine Aw.icmp_ge (tgt := 36) o8 r7 (by decide) d_Mdl_putPiece_9 (fun c16 => ?_) (fun c16 => ?_)
  · have h := ht c16
    refine Aw.iload_n rfl d_Mdl_putPiece_36 ?_
    refine Aw.aload_n rfl d_Mdl_putPiece_37 ?_
    refine Aw.getRs (f := 787) 12 19 fl_Mdl_38 (by decide) (by decide) rfl rfl o1 e3 d_Mdl_putPiece_38 ?_
    refine Aw.iload_n rfl d_Mdl_putPiece_41 ?_
    refine Aw.iald o4 o5 o6 d_Mdl_putPiece_42 (fun r9 => ?_)
    have h := h r9
    refine Aw.iadd d_Mdl_putPiece_43 ?_
    exact h
  · have h := hf c16
    refine Aw.aload_n rfl d_Mdl_putPiece_12 ?_
    refine Aw.iload_n rfl d_Mdl_putPiece_13 ?_
    refine Aw.iload_n rfl d_Mdl_putPiece_14 ?_
    refine Aw.iadd d_Mdl_putPiece_15 ?_
    refine Aw.aload_n rfl d_Mdl_putPiece_16 ?_
    obtain ⟨b10, e11, h⟩ := h
    refine Aw.getRs (f := 788) 12 20 fl_Mdl_41 (by decide) (by decide) rfl rfl o1 e11 d_Mdl_putPiece_17 ?_
    refine Aw.bipush (by decide) d_Mdl_putPiece_20 ?_
    refine Aw.iload_n rfl d_Mdl_putPiece_22 ?_
    refine Aw.imul d_Mdl_putPiece_23 ?_
    refine Aw.iload_n rfl d_Mdl_putPiece_24 ?_
    refine Aw.iadd d_Mdl_putPiece_25 ?_
    obtain ⟨o12, h⟩ := h
    obtain ⟨o13, o14, h⟩ := h
    refine Aw.iald o12 o13 o14 d_Mdl_putPiece_26 (fun r15 => ?_)
    have h := h r15
    exact h
theorem b_Mdl_putPiece_30 {Ω : Om} {R : Room} {F : QF} {k n : Nat} {σ : Sto} {a0 : Nat} {v1 : Int} {v2 : Int} {v3 : Int} (h : Aw Ω M_Mdl_putPiece R F k n 2 [xr (some a0), xi v1, xi v2, xi (v3 + 1)] [] σ) : Aw Ω M_Mdl_putPiece R F k n 30 [xr (some a0), xi v1, xi v2, xi v3] [] σ := by
  refine Aw.iinc rfl d_Mdl_putPiece_30 ?_
  refine Aw.toL (L' := [xr (some a0), xi v1, xi v2, xi (v3 + 1)]) rfl ?_
  refine Aw.goto (tgt := 2) (by decide) d_Mdl_putPiece_33 ?_
  exact h
theorem c_Mdl_putPiece_27 {Ω : Om} {R R' : Room} {F : QF} {k n : Nat} {L st : List PV} {σ : Sto} {QX' : String → Sto → Prop} {Q : Sto → Prop} {a : Nat} {x0 : Int} {x1 : Int} (hc : MC Ω M_Mdl_putAt R' (RV Q) QX' σ [xr (some a), xi x0, xi x1]) (hk : sK σ a = 13) (hr1 : R'.frames + 1 ≤ R.frames) (hr2 : 8 + (4 + 11) + R'.locals ≤ R.locals) (hb1 : k + R'.cells ≤ R.cells) (hb2 : n + R'.slots ≤ R.slots) (hst : (st.map catP).sum ≤ 8) (kk : ∀ σ', Q σ' → Aw Ω M_Mdl_putPiece R F (k + R'.cells) (n + R'.slots) 30 L st σ') (kx : ∀ E σ', QX' E σ' → Ax Ω M_Mdl_putPiece R F (k + R'.cells) (n + R'.slots) 27 L st σ' E) : Aw Ω M_Mdl_putPiece R F k n 27 L (xi x1 :: xi x0 :: xr (some a) :: st) σ :=
  Aw.callV (As := [xi x0, xi x1]) (stk := xi x1 :: xi x0 :: xr (some a) :: st) (nn := 2) 12 M_Mdl_putAt hc ok_Mdl_putAt rfl (by decide) rfl hk ml_Mdl_211 im_Mdl_putAt se_Mdl_putAt ⟨hr1, hr2⟩ rfl ⟨hb1, hb2⟩ hst rfl d_Mdl_putPiece_27 (fun r σ' h => by obtain ⟨rfl, h⟩ := h; exact kk σ' h) kx
theorem r_Mdl_putPiece_44 {Ω : Om} {R : Room} {k n : Nat} {L : List PV} {σ : Sto} {QR : Option PV → Sto → Prop} {QX : String → Sto → Prop} {x : Int} (h : QR (some (xi x)) σ) (h1 : k ≤ R.cells) (h2 : n ≤ R.slots) : Aw Ω M_Mdl_putPiece R (MF Ω R QR QX) k n 44 L [xi x] σ := Aw.iret rfl h h1 h2 d_Mdl_putPiece_44
theorem e_Mdl_letters {Ω : Om} {R : Room} {QR : Option PV → Sto → Prop} {QX : String → Sto → Prop} {σ : Sto} {v0 : Int64} (h : Aw Ω M_Mdl_letters R (MF Ω R QR QX) 0 0 0 [xl v0, xu, xu, xu] [] σ) : MC Ω M_Mdl_letters R QR QX σ [xl v0] := MC.body (by decide +kernel) rfl (Nat.le_of_ble_eq_true rfl) rfl h
theorem b_Mdl_letters_0 {Ω : Om} {R : Room} {F : QF} {k n : Nat} {σ : Sto} {v0 : Int64} (h : Aw Ω M_Mdl_letters R F k n 4 [xl v0, xu, xi 0, xi 0] [] σ) : Aw Ω M_Mdl_letters R F k n 0 [xl v0, xu, xu, xu] [] σ := by
  refine Aw.iconst d_Mdl_letters_0 ?_
  refine Aw.istore_n (by decide) d_Mdl_letters_1 ?_
  refine Aw.toL (L' := [xl v0, xu, xi 0, xu]) rfl ?_
  refine Aw.iconst d_Mdl_letters_2 ?_
  refine Aw.istore_n (by decide) d_Mdl_letters_3 ?_
  refine Aw.toL (L' := [xl v0, xu, xi 0, xi 0]) rfl ?_
  exact h
theorem b_Mdl_letters_4 {Ω : Om} {R : Room} {F : QF} {k n : Nat} {σ : Sto} {v0 : Int64} {v2 : Int} {v3 : Int} (h : Q32 v3 ∧ (((8 : Int) ≤ v3 → Aw Ω M_Mdl_letters R F k n 40 [xl v0, xu, xi v2, xi v3] [xi v2] σ) ∧ (¬ (8 : Int) ≤ v3 → Aw Ω M_Mdl_letters R F k n 13 [xl v0, xu, xi v2, xi v3] [xi v3, xl v0, xi v2] σ))) : Aw Ω M_Mdl_letters R F k n 4 [xl v0, xu, xi v2, xi v3] [] σ := by
  refine Aw.iload_n rfl d_Mdl_letters_4 ?_
  refine Aw.bipush (by decide) d_Mdl_letters_5 ?_
  obtain ⟨o1, h⟩ := h
  obtain ⟨ht, hf⟩ := h
  refine Aw.icmp_ge (tgt := 39) o1 ⟨by decide, by decide⟩ (by decide) d_Mdl_letters_7 (fun c2 => ?_) (fun c2 => ?_)
  · have h := ht c2
    refine Aw.iload_n rfl d_Mdl_letters_39 ?_
    exact h
  · have h := hf c2
    refine Aw.iload_n rfl d_Mdl_letters_10 ?_
    refine Aw.lload_n rfl d_Mdl_letters_11 ?_
    refine Aw.iload_n rfl d_Mdl_letters_12 ?_
    exact h
theorem b_Mdl_letters_16 {Ω : Om} {R : Room} {F : QF} {k n : Nat} {σ : Sto} {v0 : Int64} {v2 : Int} {v3 : Int} {s0 : Int} {s1 : Int} (h : Aw Ω M_Mdl_letters R F k n 20 [xl v0, xu, xi v2, xi v3] [xi 122, xi 97, xi s1, xi s0] σ) : Aw Ω M_Mdl_letters R F k n 16 [xl v0, xu, xi v2, xi v3] [xi s1, xi s0] σ := by
  refine Aw.bipush (by decide) d_Mdl_letters_16 ?_
  refine Aw.bipush (by decide) d_Mdl_letters_18 ?_
  exact h
theorem b_Mdl_letters_23 {Ω : Om} {R : Room} {F : QF} {k n : Nat} {σ : Sto} {v0 : Int64} {v2 : Int} {v3 : Int} {s0 : Int} {s1 : Int} (h : Q32 s1 ∧ ((s1 = (0 : Int) → Aw Ω M_Mdl_letters R F k n 4 [xl v0, xu, xi (s0 + 0), xi (v3 + 1)] [] σ) ∧ (¬ s1 = (0 : Int) → Aw Ω M_Mdl_letters R F k n 4 [xl v0, xu, xi (s0 + 1), xi (v3 + 1)] [] σ))) : Aw Ω M_Mdl_letters R F k n 23 [xl v0, xu, xi v2, xi v3] [xi s1, xi s0] σ := by
  obtain ⟨o1, h⟩ := h
  obtain ⟨ht, hf⟩ := h
  refine Aw.if_eq (tgt := 30) o1 (by decide) d_Mdl_letters_23 (fun c2 => ?_) (fun c2 => ?_)
  · have h := ht c2
    refine Aw.iconst d_Mdl_letters_30 ?_
    refine Aw.iadd d_Mdl_letters_31 ?_
    refine Aw.istore_n (by decide) d_Mdl_letters_32 ?_
    refine Aw.toL (L' := [xl v0, xu, xi (s0 + 0), xi v3]) rfl ?_
    refine Aw.iinc rfl d_Mdl_letters_33 ?_
    refine Aw.toL (L' := [xl v0, xu, xi (s0 + 0), xi (v3 + 1)]) rfl ?_
    refine Aw.goto (tgt := 4) (by decide) d_Mdl_letters_36 ?_
    exact h
  · have h := hf c2
    refine Aw.iconst d_Mdl_letters_26 ?_
    refine Aw.goto (tgt := 31) (by decide) d_Mdl_letters_27 ?_
    refine Aw.iadd d_Mdl_letters_31 ?_
    refine Aw.istore_n (by decide) d_Mdl_letters_32 ?_
    refine Aw.toL (L' := [xl v0, xu, xi (s0 + 1), xi v3]) rfl ?_
    refine Aw.iinc rfl d_Mdl_letters_33 ?_
    refine Aw.toL (L' := [xl v0, xu, xi (s0 + 1), xi (v3 + 1)]) rfl ?_
    refine Aw.goto (tgt := 4) (by decide) d_Mdl_letters_36 ?_
    exact h
theorem c_Mdl_letters_13 {Ω : Om} {R R' : Room} {F : QF} {k n : Nat} {L st : List PV} {σ : Sto} {QX' : String → Sto → Prop} {Q : Int → Sto → Prop} {x0 : Int64} {x1 : Int} (hc : MC Ω M_Mdl_signAt R' (RI Q) QX' σ [xl x0, xi x1]) (hr1 : R'.frames + 1 ≤ R.frames) (hr2 : 8 + (3 + 11) + R'.locals ≤ R.locals) (hb1 : k + R'.cells ≤ R.cells) (hb2 : n + R'.slots ≤ R.slots) (hst : (st.map catP).sum ≤ 8) (kk : ∀ x σ', Q x σ' → Aw Ω M_Mdl_letters R F (k + R'.cells) (n + R'.slots) 16 L (xi x :: st) σ') (kx : ∀ E σ', QX' E σ' → Ax Ω M_Mdl_letters R F (k + R'.cells) (n + R'.slots) 13 L st σ' E) : Aw Ω M_Mdl_letters R F k n 13 L (xi x1 :: xl x0 :: st) σ :=
  Aw.callS (As := [xl x0, xi x1]) (stk := xi x1 :: xl x0 :: st) (nn := 2) M_Mdl_signAt hc ok_Mdl_signAt rfl ml_Mdl_136 sta_Mdl_signAt ⟨hr1, hr2⟩ rfl ⟨hb1, hb2⟩ hst rfl d_Mdl_letters_13 (fun r σ' h => by obtain ⟨x, rfl, h⟩ := h; exact kk x σ' h) kx
theorem c_Mdl_letters_20 {Ω : Om} {R R' : Room} {F : QF} {k n : Nat} {L st : List PV} {σ : Sto} {QX' : String → Sto → Prop} {Q : Int → Sto → Prop} {x0 : Int} {x1 : Int} {x2 : Int} (hc : MC Ω M_Mdl_in R' (RI Q) QX' σ [xi x0, xi x1, xi x2]) (hr1 : R'.frames + 1 ≤ R.frames) (hr2 : 8 + (3 + 11) + R'.locals ≤ R.locals) (hb1 : k + R'.cells ≤ R.cells) (hb2 : n + R'.slots ≤ R.slots) (hst : (st.map catP).sum ≤ 8) (kk : ∀ x σ', Q x σ' → Aw Ω M_Mdl_letters R F (k + R'.cells) (n + R'.slots) 23 L (xi x :: st) σ') (kx : ∀ E σ', QX' E σ' → Ax Ω M_Mdl_letters R F (k + R'.cells) (n + R'.slots) 20 L st σ' E) : Aw Ω M_Mdl_letters R F k n 20 L (xi x2 :: xi x1 :: xi x0 :: st) σ :=
  Aw.callS (As := [xi x0, xi x1, xi x2]) (stk := xi x2 :: xi x1 :: xi x0 :: st) (nn := 3) M_Mdl_in hc ok_Mdl_in rfl ml_Mdl_130 sta_Mdl_in ⟨hr1, hr2⟩ rfl ⟨hb1, hb2⟩ hst rfl d_Mdl_letters_20 (fun r σ' h => by obtain ⟨x, rfl, h⟩ := h; exact kk x σ' h) kx
theorem r_Mdl_letters_40 {Ω : Om} {R : Room} {k n : Nat} {L : List PV} {σ : Sto} {QR : Option PV → Sto → Prop} {QX : String → Sto → Prop} {x : Int} (h : QR (some (xi x)) σ) (h1 : k ≤ R.cells) (h2 : n ≤ R.slots) : Aw Ω M_Mdl_letters R (MF Ω R QR QX) k n 40 L [xi x] σ := Aw.iret rfl h h1 h2 d_Mdl_letters_40
theorem e_Mdl_base {Ω : Om} {R : Room} {QR : Option PV → Sto → Prop} {QX : String → Sto → Prop} {σ : Sto} {a0 : Nat} {v1 : Int} {v2 : Int} (h : Aw Ω M_Mdl_base R (MF Ω R QR QX) 0 0 0 [xr (some a0), xi v1, xi v2] [] σ) : MC Ω M_Mdl_base R QR QX σ [xr (some a0), xi v1, xi v2] := MC.body (by decide +kernel) rfl (Nat.le_of_ble_eq_true rfl) rfl h
theorem b_Mdl_base_0 {Ω : Om} {R : Room} {F : QF} {k n : Nat} {σ : Sto} {a0 : Nat} {v1 : Int} {v2 : Int} (h : Aw Ω M_Mdl_base R F k n 3 [xr (some a0), xi v1, xi v2] [xi v1, xr (some a0), xr (some a0)] σ) : Aw Ω M_Mdl_base R F k n 0 [xr (some a0), xi v1, xi v2] [] σ := by
  refine Aw.aload_n rfl d_Mdl_base_0 ?_
  refine Aw.aload_n rfl d_Mdl_base_1 ?_
  refine Aw.iload_n rfl d_Mdl_base_2 ?_
  exact h
theorem b_Mdl_base_6 {Ω : Om} {R : Room} {F : QF} {k n : Nat} {σ : Sto} {a0 : Nat} {v1 : Int} {v2 : Int} {s0 : Nat} {s1 : Int} (h : Q32 s1 ∧ ((s1 = (0 : Int) → Aw Ω M_Mdl_base R F k n 22 [xr (some a0), xi v1, xi v2] [xi 1, xr (some s0)] σ) ∧ (¬ s1 = (0 : Int) → Aw Ω M_Mdl_base R F k n 11 [xr (some a0), xi v1, xi v2] [xi v2, xr (some a0), xr (some s0)] σ))) : Aw Ω M_Mdl_base R F k n 6 [xr (some a0), xi v1, xi v2] [xi s1, xr (some s0)] σ := by
  obtain ⟨o1, h⟩ := h
  obtain ⟨ht, hf⟩ := h
  refine Aw.if_eq (tgt := 21) o1 (by decide) d_Mdl_base_6 (fun c2 => ?_) (fun c2 => ?_)
  · have h := ht c2
    refine Aw.iconst d_Mdl_base_21 ?_
    exact h
  · have h := hf c2
    refine Aw.aload_n rfl d_Mdl_base_9 ?_
    refine Aw.iload_n rfl d_Mdl_base_10 ?_
    exact h
theorem b_Mdl_base_14 {Ω : Om} {R : Room} {F : QF} {k n : Nat} {σ : Sto} {a0 : Nat} {v1 : Int} {v2 : Int} {s0 : Nat} {s1 : Int} (h : Q32 s1 ∧ ((s1 = (0 : Int) → Aw Ω M_Mdl_base R F k n 22 [xr (some a0), xi v1, xi v2] [xi 1, xr (some s0)] σ) ∧ (¬ s1 = (0 : Int) → Aw Ω M_Mdl_base R F k n 22 [xr (some a0), xi v1, xi v2] [xi 0, xr (some s0)] σ))) : Aw Ω M_Mdl_base R F k n 14 [xr (some a0), xi v1, xi v2] [xi s1, xr (some s0)] σ := by
  obtain ⟨o1, h⟩ := h
  obtain ⟨ht, hf⟩ := h
  refine Aw.if_eq (tgt := 21) o1 (by decide) d_Mdl_base_14 (fun c2 => ?_) (fun c2 => ?_)
  · have h := ht c2
    refine Aw.iconst d_Mdl_base_21 ?_
    exact h
  · have h := hf c2
    refine Aw.iconst d_Mdl_base_17 ?_
    refine Aw.goto (tgt := 22) (by decide) d_Mdl_base_18 ?_
    exact h
theorem b_Mdl_base_25 {Ω : Om} {R : Room} {F : QF} {k n : Nat} {σ : Sto} {a0 : Nat} {v1 : Int} {v2 : Int} {s0 : Int} (h : Q32 s0 ∧ ((s0 = (0 : Int) → Aw Ω M_Mdl_base R F k n 35 [xr (some a0), xi v1, xi v2] [xi v2, xi v1, xr (some a0)] σ) ∧ (¬ s0 = (0 : Int) → Aw Ω M_Mdl_base R F k n 38 [xr (some a0), xi v1, xi v2] [xi 0] σ))) : Aw Ω M_Mdl_base R F k n 25 [xr (some a0), xi v1, xi v2] [xi s0] σ := by
  obtain ⟨o1, h⟩ := h
  obtain ⟨ht, hf⟩ := h
  refine Aw.if_eq (tgt := 32) o1 (by decide) d_Mdl_base_25 (fun c2 => ?_) (fun c2 => ?_)
  · have h := ht c2
    refine Aw.aload_n rfl d_Mdl_base_32 ?_
    refine Aw.iload_n rfl d_Mdl_base_33 ?_
    refine Aw.iload_n rfl d_Mdl_base_34 ?_
    exact h
  · have h := hf c2
    refine Aw.iconst d_Mdl_base_28 ?_
    refine Aw.goto (tgt := 38) (by decide) d_Mdl_base_29 ?_
    exact h
theorem c_Mdl_base_3 {Ω : Om} {R R' : Room} {F : QF} {k n : Nat} {L st : List PV} {σ : Sto} {QX' : String → Sto → Prop} {Q : Int → Sto → Prop} {a : Nat} {x0 : Int} (hc : MC Ω M_Mdl_isVersion R' (RI Q) QX' σ [xr (some a), xi x0]) (hk : sK σ a = 13) (hr1 : R'.frames + 1 ≤ R.frames) (hr2 : 8 + (2 + 11) + R'.locals ≤ R.locals) (hb1 : k + R'.cells ≤ R.cells) (hb2 : n + R'.slots ≤ R.slots) (hst : (st.map catP).sum ≤ 8) (kk : ∀ x σ', Q x σ' → Aw Ω M_Mdl_base R F (k + R'.cells) (n + R'.slots) 6 L (xi x :: st) σ') (kx : ∀ E σ', QX' E σ' → Ax Ω M_Mdl_base R F (k + R'.cells) (n + R'.slots) 3 L st σ' E) : Aw Ω M_Mdl_base R F k n 3 L (xi x0 :: xr (some a) :: st) σ :=
  Aw.callV (As := [xi x0]) (stk := xi x0 :: xr (some a) :: st) (nn := 1) 12 M_Mdl_isVersion hc ok_Mdl_isVersion rfl (by decide) rfl hk ml_Mdl_172 im_Mdl_isVersion se_Mdl_isVersion ⟨hr1, hr2⟩ rfl ⟨hb1, hb2⟩ hst rfl d_Mdl_base_3 (fun r σ' h => by obtain ⟨x, rfl, h⟩ := h; exact kk x σ' h) kx
theorem c_Mdl_base_11 {Ω : Om} {R R' : Room} {F : QF} {k n : Nat} {L st : List PV} {σ : Sto} {QX' : String → Sto → Prop} {Q : Int → Sto → Prop} {a : Nat} {x0 : Int} (hc : MC Ω M_Mdl_isVersion R' (RI Q) QX' σ [xr (some a), xi x0]) (hk : sK σ a = 13) (hr1 : R'.frames + 1 ≤ R.frames) (hr2 : 8 + (2 + 11) + R'.locals ≤ R.locals) (hb1 : k + R'.cells ≤ R.cells) (hb2 : n + R'.slots ≤ R.slots) (hst : (st.map catP).sum ≤ 8) (kk : ∀ x σ', Q x σ' → Aw Ω M_Mdl_base R F (k + R'.cells) (n + R'.slots) 14 L (xi x :: st) σ') (kx : ∀ E σ', QX' E σ' → Ax Ω M_Mdl_base R F (k + R'.cells) (n + R'.slots) 11 L st σ' E) : Aw Ω M_Mdl_base R F k n 11 L (xi x0 :: xr (some a) :: st) σ :=
  Aw.callV (As := [xi x0]) (stk := xi x0 :: xr (some a) :: st) (nn := 1) 12 M_Mdl_isVersion hc ok_Mdl_isVersion rfl (by decide) rfl hk ml_Mdl_172 im_Mdl_isVersion se_Mdl_isVersion ⟨hr1, hr2⟩ rfl ⟨hb1, hb2⟩ hst rfl d_Mdl_base_11 (fun r σ' h => by obtain ⟨x, rfl, h⟩ := h; exact kk x σ' h) kx
theorem c_Mdl_base_22 {Ω : Om} {R R' : Room} {F : QF} {k n : Nat} {L st : List PV} {σ : Sto} {QX' : String → Sto → Prop} {Q : Int → Sto → Prop} {a : Nat} {x0 : Int} (hc : MC Ω M_Mdl_refused R' (RI Q) QX' σ [xr (some a), xi x0]) (hk : sK σ a = 13) (hr1 : R'.frames + 1 ≤ R.frames) (hr2 : 8 + (2 + 11) + R'.locals ≤ R.locals) (hb1 : k + R'.cells ≤ R.cells) (hb2 : n + R'.slots ≤ R.slots) (hst : (st.map catP).sum ≤ 8) (kk : ∀ x σ', Q x σ' → Aw Ω M_Mdl_base R F (k + R'.cells) (n + R'.slots) 25 L (xi x :: st) σ') (kx : ∀ E σ', QX' E σ' → Ax Ω M_Mdl_base R F (k + R'.cells) (n + R'.slots) 22 L st σ' E) : Aw Ω M_Mdl_base R F k n 22 L (xi x0 :: xr (some a) :: st) σ :=
  Aw.callV (As := [xi x0]) (stk := xi x0 :: xr (some a) :: st) (nn := 1) 12 M_Mdl_refused hc ok_Mdl_refused rfl (by decide) rfl hk ml_Mdl_151 im_Mdl_refused se_Mdl_refused ⟨hr1, hr2⟩ rfl ⟨hb1, hb2⟩ hst rfl d_Mdl_base_22 (fun r σ' h => by obtain ⟨x, rfl, h⟩ := h; exact kk x σ' h) kx
theorem c_Mdl_base_35 {Ω : Om} {R R' : Room} {F : QF} {k n : Nat} {L st : List PV} {σ : Sto} {QX' : String → Sto → Prop} {Q : Int → Sto → Prop} {a : Nat} {x0 : Int} {x1 : Int} (hc : MC Ω M_Mdl_baseOf R' (RI Q) QX' σ [xr (some a), xi x0, xi x1]) (hk : sK σ a = 13) (hr1 : R'.frames + 1 ≤ R.frames) (hr2 : 8 + (7 + 11) + R'.locals ≤ R.locals) (hb1 : k + R'.cells ≤ R.cells) (hb2 : n + R'.slots ≤ R.slots) (hst : (st.map catP).sum ≤ 8) (kk : ∀ x σ', Q x σ' → Aw Ω M_Mdl_base R F (k + R'.cells) (n + R'.slots) 38 L (xi x :: st) σ') (kx : ∀ E σ', QX' E σ' → Ax Ω M_Mdl_base R F (k + R'.cells) (n + R'.slots) 35 L st σ' E) : Aw Ω M_Mdl_base R F k n 35 L (xi x1 :: xi x0 :: xr (some a) :: st) σ :=
  Aw.callV (As := [xi x0, xi x1]) (stk := xi x1 :: xi x0 :: xr (some a) :: st) (nn := 2) 12 M_Mdl_baseOf hc ok_Mdl_baseOf rfl (by decide) rfl hk ml_Mdl_291 im_Mdl_baseOf se_Mdl_baseOf ⟨hr1, hr2⟩ rfl ⟨hb1, hb2⟩ hst rfl d_Mdl_base_35 (fun r σ' h => by obtain ⟨x, rfl, h⟩ := h; exact kk x σ' h) kx
theorem r_Mdl_base_38 {Ω : Om} {R : Room} {k n : Nat} {L : List PV} {σ : Sto} {QR : Option PV → Sto → Prop} {QX : String → Sto → Prop} {x : Int} (h : QR (some (xi x)) σ) (h1 : k ≤ R.cells) (h2 : n ≤ R.slots) : Aw Ω M_Mdl_base R (MF Ω R QR QX) k n 38 L [xi x] σ := Aw.iret rfl h h1 h2 d_Mdl_base_38
theorem e_Mdl_pairOf {Ω : Om} {R : Room} {QR : Option PV → Sto → Prop} {QX : String → Sto → Prop} {σ : Sto} {a0 : Nat} {v1 : Int} (h : Aw Ω M_Mdl_pairOf R (MF Ω R QR QX) 0 0 0 [xr (some a0), xi v1] [] σ) : MC Ω M_Mdl_pairOf R QR QX σ [xr (some a0), xi v1] := MC.body (by decide +kernel) rfl (Nat.le_of_ble_eq_true rfl) rfl h
theorem b_Mdl_pairOf_0 {Ω : Om} {R : Room} {F : QF} {k n : Nat} {σ : Sto} {a0 : Nat} {v1 : Int} (h : Aw Ω M_Mdl_pairOf R F k n 3 [xr (some a0), xi v1] [xi v1, xr (some a0), xr (some a0)] σ) : Aw Ω M_Mdl_pairOf R F k n 0 [xr (some a0), xi v1] [] σ := by
  refine Aw.aload_n rfl d_Mdl_pairOf_0 ?_
  refine Aw.aload_n rfl d_Mdl_pairOf_1 ?_
  refine Aw.iload_n rfl d_Mdl_pairOf_2 ?_
  exact h
theorem b_Mdl_pairOf_6 {Ω : Om} {R : Room} {F : QF} {k n : Nat} {σ : Sto} {a0 : Nat} {v1 : Int} {s0 : Nat} {s1 : Int} (h : Q32 s1 ∧ ((s1 = (0 : Int) → Aw Ω M_Mdl_pairOf R F k n 14 [xr (some a0), xi v1] [xi 1, xr (some s0)] σ) ∧ (¬ s1 = (0 : Int) → Aw Ω M_Mdl_pairOf R F k n 14 [xr (some a0), xi v1] [xi 0, xr (some s0)] σ))) : Aw Ω M_Mdl_pairOf R F k n 6 [xr (some a0), xi v1] [xi s1, xr (some s0)] σ := by
  obtain ⟨o1, h⟩ := h
  obtain ⟨ht, hf⟩ := h
  refine Aw.if_eq (tgt := 13) o1 (by decide) d_Mdl_pairOf_6 (fun c2 => ?_) (fun c2 => ?_)
  · have h := ht c2
    refine Aw.iconst d_Mdl_pairOf_13 ?_
    exact h
  · have h := hf c2
    refine Aw.iconst d_Mdl_pairOf_9 ?_
    refine Aw.goto (tgt := 14) (by decide) d_Mdl_pairOf_10 ?_
    exact h
theorem b_Mdl_pairOf_17 {Ω : Om} {R : Room} {F : QF} {k n : Nat} {σ : Sto} {a0 : Nat} {v1 : Int} {s0 : Int} (h : Q32 s0 ∧ ((s0 = (0 : Int) → sK σ a0 = 13 ∧ (∃ b3 : Nat, fR σ 795 a0 = some b3 ∧ sK σ b3 = 50 ∧ 0 ≤ v1 ∧ v1 < sZ σ b3 ∧ (Q32 (aI σ b3 (v1).toNat) → Aw Ω M_Mdl_pairOf R F k n 30 [xr (some a0), xi v1] [xi (aI σ b3 (v1).toNat)] σ))) ∧ (¬ s0 = (0 : Int) → Aw Ω M_Mdl_pairOf R F k n 30 [xr (some a0), xi v1] [xi 0] σ))) : Aw Ω M_Mdl_pairOf R F k n 17 [xr (some a0), xi v1] [xi s0] σ := by
  obtain ⟨o1, h⟩ := h
  obtain ⟨ht, hf⟩ := h
  refine Aw.if_eq (tgt := 24) o1 (by decide) d_Mdl_pairOf_17 (fun c9 => ?_) (fun c9 => ?_)
  · have h := ht c9
    refine Aw.aload_n rfl d_Mdl_pairOf_24 ?_
    obtain ⟨o2, h⟩ := h
    obtain ⟨b3, e4, h⟩ := h
    refine Aw.getRs (f := 795) 12 27 fl_Mdl_53 (by decide) (by decide) rfl rfl o2 e4 d_Mdl_pairOf_25 ?_
    refine Aw.iload_n rfl d_Mdl_pairOf_28 ?_
    obtain ⟨o5, h⟩ := h
    obtain ⟨o6, o7, h⟩ := h
    refine Aw.iald o5 o6 o7 d_Mdl_pairOf_29 (fun r8 => ?_)
    have h := h r8
    exact h
  · have h := hf c9
    refine Aw.iconst d_Mdl_pairOf_20 ?_
    refine Aw.goto (tgt := 30) (by decide) d_Mdl_pairOf_21 ?_
    exact h
theorem c_Mdl_pairOf_3 {Ω : Om} {R R' : Room} {F : QF} {k n : Nat} {L st : List PV} {σ : Sto} {QX' : String → Sto → Prop} {Q : Int → Sto → Prop} {a : Nat} {x0 : Int} (hc : MC Ω M_Mdl_isCompared R' (RI Q) QX' σ [xr (some a), xi x0]) (hk : sK σ a = 13) (hr1 : R'.frames + 1 ≤ R.frames) (hr2 : 8 + (2 + 11) + R'.locals ≤ R.locals) (hb1 : k + R'.cells ≤ R.cells) (hb2 : n + R'.slots ≤ R.slots) (hst : (st.map catP).sum ≤ 8) (kk : ∀ x σ', Q x σ' → Aw Ω M_Mdl_pairOf R F (k + R'.cells) (n + R'.slots) 6 L (xi x :: st) σ') (kx : ∀ E σ', QX' E σ' → Ax Ω M_Mdl_pairOf R F (k + R'.cells) (n + R'.slots) 3 L st σ' E) : Aw Ω M_Mdl_pairOf R F k n 3 L (xi x0 :: xr (some a) :: st) σ :=
  Aw.callV (As := [xi x0]) (stk := xi x0 :: xr (some a) :: st) (nn := 1) 12 M_Mdl_isCompared hc ok_Mdl_isCompared rfl (by decide) rfl hk ml_Mdl_265 im_Mdl_isCompared se_Mdl_isCompared ⟨hr1, hr2⟩ rfl ⟨hb1, hb2⟩ hst rfl d_Mdl_pairOf_3 (fun r σ' h => by obtain ⟨x, rfl, h⟩ := h; exact kk x σ' h) kx
theorem c_Mdl_pairOf_14 {Ω : Om} {R R' : Room} {F : QF} {k n : Nat} {L st : List PV} {σ : Sto} {QX' : String → Sto → Prop} {Q : Int → Sto → Prop} {a : Nat} {x0 : Int} (hc : MC Ω M_Mdl_refused R' (RI Q) QX' σ [xr (some a), xi x0]) (hk : sK σ a = 13) (hr1 : R'.frames + 1 ≤ R.frames) (hr2 : 8 + (2 + 11) + R'.locals ≤ R.locals) (hb1 : k + R'.cells ≤ R.cells) (hb2 : n + R'.slots ≤ R.slots) (hst : (st.map catP).sum ≤ 8) (kk : ∀ x σ', Q x σ' → Aw Ω M_Mdl_pairOf R F (k + R'.cells) (n + R'.slots) 17 L (xi x :: st) σ') (kx : ∀ E σ', QX' E σ' → Ax Ω M_Mdl_pairOf R F (k + R'.cells) (n + R'.slots) 14 L st σ' E) : Aw Ω M_Mdl_pairOf R F k n 14 L (xi x0 :: xr (some a) :: st) σ :=
  Aw.callV (As := [xi x0]) (stk := xi x0 :: xr (some a) :: st) (nn := 1) 12 M_Mdl_refused hc ok_Mdl_refused rfl (by decide) rfl hk ml_Mdl_151 im_Mdl_refused se_Mdl_refused ⟨hr1, hr2⟩ rfl ⟨hb1, hb2⟩ hst rfl d_Mdl_pairOf_14 (fun r σ' h => by obtain ⟨x, rfl, h⟩ := h; exact kk x σ' h) kx
theorem r_Mdl_pairOf_30 {Ω : Om} {R : Room} {k n : Nat} {L : List PV} {σ : Sto} {QR : Option PV → Sto → Prop} {QX : String → Sto → Prop} {x : Int} (h : QR (some (xi x)) σ) (h1 : k ≤ R.cells) (h2 : n ≤ R.slots) : Aw Ω M_Mdl_pairOf R (MF Ω R QR QX) k n 30 L [xi x] σ := Aw.iret rfl h h1 h2 d_Mdl_pairOf_30
theorem e_Mdl_least {Ω : Om} {R : Room} {QR : Option PV → Sto → Prop} {QX : String → Sto → Prop} {σ : Sto} {v0 : Int} {v1 : Int} {v2 : Int} (h : Aw Ω M_Mdl_least R (MF Ω R QR QX) 0 0 0 [xi v0, xi v1, xi v2, xu] [] σ) : MC Ω M_Mdl_least R QR QX σ [xi v0, xi v1, xi v2] := MC.body (by decide +kernel) rfl (Nat.le_of_ble_eq_true rfl) rfl h
theorem b_Mdl_least_0 {Ω : Om} {R : Room} {F : QF} {k n : Nat} {σ : Sto} {v0 : Int} {v1 : Int} {v2 : Int} (h : Q32 v0 ∧ Q32 v1 ∧ ((v1 ≤ v0 → Q32 v2 ∧ ((v2 ≤ v1 → Aw Ω M_Mdl_least R F k n 21 [xi v0, xi v1, xi v2, xi v1] [xi v2] σ) ∧ (¬ v2 ≤ v1 → Aw Ω M_Mdl_least R F k n 21 [xi v0, xi v1, xi v2, xi v1] [xi v1] σ))) ∧ (¬ v1 ≤ v0 → Q32 v2 ∧ ((v2 ≤ v0 → Aw Ω M_Mdl_least R F k n 21 [xi v0, xi v1, xi v2, xi v0] [xi v2] σ) ∧ (¬ v2 ≤ v0 → Aw Ω M_Mdl_least R F k n 21 [xi v0, xi v1, xi v2, xi v0] [xi v0] σ))))) : Aw Ω M_Mdl_least R F k n 0 [xi v0, xi v1, xi v2, xu] [] σ := by
  refine Aw.iload_n rfl d_Mdl_least_0 ?_
  refine Aw.iload_n rfl d_Mdl_least_1 ?_
  obtain ⟨o1, h⟩ := h
  obtain ⟨o2, h⟩ := h
  obtain ⟨ht, hf⟩ := h
  refine Aw.icmp_ge (tgt := 9) o1 o2 (by decide) d_Mdl_least_2 (fun c7 => ?_) (fun c7 => ?_)
  · have h := ht c7
    refine Aw.iload_n rfl d_Mdl_least_9 ?_
    refine Aw.istore_n (by decide) d_Mdl_least_10 ?_
    refine Aw.toL (L' := [xi v0, xi v1, xi v2, xi v1]) rfl ?_
    refine Aw.iload_n rfl d_Mdl_least_11 ?_
    refine Aw.iload_n rfl d_Mdl_least_12 ?_
    obtain ⟨o3, h⟩ := h
    obtain ⟨ht, hf⟩ := h
    refine Aw.icmp_ge (tgt := 20) o2 o3 (by decide) d_Mdl_least_13 (fun c4 => ?_) (fun c4 => ?_)
    · have h := ht c4
      refine Aw.iload_n rfl d_Mdl_least_20 ?_
      exact h
    · have h := hf c4
      refine Aw.iload_n rfl d_Mdl_least_16 ?_
      refine Aw.goto (tgt := 21) (by decide) d_Mdl_least_17 ?_
      exact h
  · have h := hf c7
    refine Aw.iload_n rfl d_Mdl_least_5 ?_
    refine Aw.goto (tgt := 10) (by decide) d_Mdl_least_6 ?_
    refine Aw.istore_n (by decide) d_Mdl_least_10 ?_
    refine Aw.toL (L' := [xi v0, xi v1, xi v2, xi v0]) rfl ?_
    refine Aw.iload_n rfl d_Mdl_least_11 ?_
    refine Aw.iload_n rfl d_Mdl_least_12 ?_
    obtain ⟨o5, h⟩ := h
    obtain ⟨ht, hf⟩ := h
    refine Aw.icmp_ge (tgt := 20) o1 o5 (by decide) d_Mdl_least_13 (fun c6 => ?_) (fun c6 => ?_)
    · have h := ht c6
      refine Aw.iload_n rfl d_Mdl_least_20 ?_
      exact h
    · have h := hf c6
      refine Aw.iload_n rfl d_Mdl_least_16 ?_
      refine Aw.goto (tgt := 21) (by decide) d_Mdl_least_17 ?_
      exact h
theorem r_Mdl_least_21 {Ω : Om} {R : Room} {k n : Nat} {L : List PV} {σ : Sto} {QR : Option PV → Sto → Prop} {QX : String → Sto → Prop} {x : Int} (h : QR (some (xi x)) σ) (h1 : k ≤ R.cells) (h2 : n ≤ R.slots) : Aw Ω M_Mdl_least R (MF Ω R QR QX) k n 21 L [xi x] σ := Aw.iret rfl h h1 h2 d_Mdl_least_21
theorem e_Mdl_draftLines {Ω : Om} {R : Room} {QR : Option PV → Sto → Prop} {QX : String → Sto → Prop} {σ : Sto} {a0 : Nat} (h : Aw Ω M_Mdl_draftLines R (MF Ω R QR QX) 0 0 0 [xr (some a0)] [] σ) : MC Ω M_Mdl_draftLines R QR QX σ [xr (some a0)] := MC.body (by decide +kernel) rfl (Nat.le_of_ble_eq_true rfl) rfl h
theorem b_Mdl_draftLines_0 {Ω : Om} {R : Room} {F : QF} {k n : Nat} {σ : Sto} {a0 : Nat} (h : sK σ a0 = 13 ∧ (Q32 (fI σ 779 a0) → (((fI σ 779 a0) = (0 : Int) → Aw Ω M_Mdl_draftLines R F k n 16 [xr (some a0)] [xi (-1), xr (some a0)] σ) ∧ (¬ (fI σ 779 a0) = (0 : Int) → Aw Ω M_Mdl_draftLines R F k n 9 [xr (some a0)] [xr (some a0), xr (some a0)] σ)))) : Aw Ω M_Mdl_draftLines R F k n 0 [xr (some a0)] [] σ := by
  refine Aw.aload_n rfl d_Mdl_draftLines_0 ?_
  refine Aw.aload_n rfl d_Mdl_draftLines_1 ?_
  obtain ⟨o1, h⟩ := h
  refine Aw.getI (f := 779) 12 11 fl_Mdl_178 (by decide) (by decide) rfl rfl o1 d_Mdl_draftLines_2 (fun r2 => ?_)
  have h := h r2
  obtain ⟨ht, hf⟩ := h
  refine Aw.if_eq (tgt := 15) r2 (by decide) d_Mdl_draftLines_5 (fun c3 => ?_) (fun c3 => ?_)
  · have h := ht c3
    refine Aw.iconst d_Mdl_draftLines_15 ?_
    exact h
  · have h := hf c3
    refine Aw.aload_n rfl d_Mdl_draftLines_8 ?_
    exact h
theorem b_Mdl_draftLines_12 {Ω : Om} {R : Room} {F : QF} {k n : Nat} {σ : Sto} {a0 : Nat} {s0 : Nat} {s1 : Int} (h : Aw Ω M_Mdl_draftLines R F k n 16 [xr (some a0)] [xi s1, xr (some s0)] σ) : Aw Ω M_Mdl_draftLines R F k n 12 [xr (some a0)] [xi s1, xr (some s0)] σ := by
  refine Aw.goto (tgt := 16) (by decide) d_Mdl_draftLines_12 ?_
  exact h
theorem c_Mdl_draftLines_9 {Ω : Om} {R R' : Room} {F : QF} {k n : Nat} {L st : List PV} {σ : Sto} {QX' : String → Sto → Prop} {Q : Int → Sto → Prop} {a : Nat} (hc : MC Ω M_Mdl_lineCount R' (RI Q) QX' σ [xr (some a)]) (hk : sK σ a = 13) (hr1 : R'.frames + 1 ≤ R.frames) (hr2 : 8 + (3 + 11) + R'.locals ≤ R.locals) (hb1 : k + R'.cells ≤ R.cells) (hb2 : n + R'.slots ≤ R.slots) (hst : (st.map catP).sum ≤ 8) (kk : ∀ x σ', Q x σ' → Aw Ω M_Mdl_draftLines R F (k + R'.cells) (n + R'.slots) 12 L (xi x :: st) σ') (kx : ∀ E σ', QX' E σ' → Ax Ω M_Mdl_draftLines R F (k + R'.cells) (n + R'.slots) 9 L st σ' E) : Aw Ω M_Mdl_draftLines R F k n 9 L (xr (some a) :: st) σ :=
  Aw.callV (As := []) (stk := xr (some a) :: st) (nn := 0) 12 M_Mdl_lineCount hc ok_Mdl_lineCount rfl (by decide) rfl hk ml_Mdl_197 im_Mdl_lineCount se_Mdl_lineCount ⟨hr1, hr2⟩ rfl ⟨hb1, hb2⟩ hst rfl d_Mdl_draftLines_9 (fun r σ' h => by obtain ⟨x, rfl, h⟩ := h; exact kk x σ' h) kx
theorem c_Mdl_draftLines_16 {Ω : Om} {R R' : Room} {F : QF} {k n : Nat} {L st : List PV} {σ : Sto} {QX' : String → Sto → Prop} {Q : Int → Sto → Prop} {a : Nat} {x0 : Int} (hc : MC Ω M_Mdl_fine R' (RI Q) QX' σ [xr (some a), xi x0]) (hk : sK σ a = 13) (hr1 : R'.frames + 1 ≤ R.frames) (hr2 : 8 + (2 + 11) + R'.locals ≤ R.locals) (hb1 : k + R'.cells ≤ R.cells) (hb2 : n + R'.slots ≤ R.slots) (hst : (st.map catP).sum ≤ 8) (kk : ∀ x σ', Q x σ' → Aw Ω M_Mdl_draftLines R F (k + R'.cells) (n + R'.slots) 19 L (xi x :: st) σ') (kx : ∀ E σ', QX' E σ' → Ax Ω M_Mdl_draftLines R F (k + R'.cells) (n + R'.slots) 16 L st σ' E) : Aw Ω M_Mdl_draftLines R F k n 16 L (xi x0 :: xr (some a) :: st) σ :=
  Aw.callV (As := [xi x0]) (stk := xi x0 :: xr (some a) :: st) (nn := 1) 12 M_Mdl_fine hc ok_Mdl_fine rfl (by decide) rfl hk ml_Mdl_222 im_Mdl_fine se_Mdl_fine ⟨hr1, hr2⟩ rfl ⟨hb1, hb2⟩ hst rfl d_Mdl_draftLines_16 (fun r σ' h => by obtain ⟨x, rfl, h⟩ := h; exact kk x σ' h) kx
theorem r_Mdl_draftLines_19 {Ω : Om} {R : Room} {k n : Nat} {L : List PV} {σ : Sto} {QR : Option PV → Sto → Prop} {QX : String → Sto → Prop} {x : Int} (h : QR (some (xi x)) σ) (h1 : k ≤ R.cells) (h2 : n ≤ R.slots) : Aw Ω M_Mdl_draftLines R (MF Ω R QR QX) k n 19 L [xi x] σ := Aw.iret rfl h h1 h2 d_Mdl_draftLines_19
theorem e_Mdl_isPatch {Ω : Om} {R : Room} {QR : Option PV → Sto → Prop} {QX : String → Sto → Prop} {σ : Sto} {a0 : Nat} {v1 : Int} (h : Aw Ω M_Mdl_isPatch R (MF Ω R QR QX) 0 0 0 [xr (some a0), xi v1] [] σ) : MC Ω M_Mdl_isPatch R QR QX σ [xr (some a0), xi v1] := MC.body (by decide +kernel) rfl (Nat.le_of_ble_eq_true rfl) rfl h
theorem b_Mdl_isPatch_0 {Ω : Om} {R : Room} {F : QF} {k n : Nat} {σ : Sto} {a0 : Nat} {v1 : Int} (h : sK σ a0 = 13 ∧ (Q32 (fI σ 797 a0) → Aw Ω M_Mdl_isPatch R F k n 8 [xr (some a0), xi v1] [xi ((fI σ 797 a0) - 1), xi 0, xi v1] σ)) : Aw Ω M_Mdl_isPatch R F k n 0 [xr (some a0), xi v1] [] σ := by
  refine Aw.iload_n rfl d_Mdl_isPatch_0 ?_
  refine Aw.iconst d_Mdl_isPatch_1 ?_
  refine Aw.aload_n rfl d_Mdl_isPatch_2 ?_
  obtain ⟨o1, h⟩ := h
  refine Aw.getI (f := 797) 12 29 fl_Mdl_317 (by decide) (by decide) rfl rfl o1 d_Mdl_isPatch_3 (fun r2 => ?_)
  have h := h r2
  refine Aw.iconst d_Mdl_isPatch_6 ?_
  refine Aw.isub d_Mdl_isPatch_7 ?_
  exact h
theorem c_Mdl_isPatch_8 {Ω : Om} {R R' : Room} {F : QF} {k n : Nat} {L st : List PV} {σ : Sto} {QX' : String → Sto → Prop} {Q : Int → Sto → Prop} {x0 : Int} {x1 : Int} {x2 : Int} (hc : MC Ω M_Mdl_in R' (RI Q) QX' σ [xi x0, xi x1, xi x2]) (hr1 : R'.frames + 1 ≤ R.frames) (hr2 : 8 + (3 + 11) + R'.locals ≤ R.locals) (hb1 : k + R'.cells ≤ R.cells) (hb2 : n + R'.slots ≤ R.slots) (hst : (st.map catP).sum ≤ 8) (kk : ∀ x σ', Q x σ' → Aw Ω M_Mdl_isPatch R F (k + R'.cells) (n + R'.slots) 11 L (xi x :: st) σ') (kx : ∀ E σ', QX' E σ' → Ax Ω M_Mdl_isPatch R F (k + R'.cells) (n + R'.slots) 8 L st σ' E) : Aw Ω M_Mdl_isPatch R F k n 8 L (xi x2 :: xi x1 :: xi x0 :: st) σ :=
  Aw.callS (As := [xi x0, xi x1, xi x2]) (stk := xi x2 :: xi x1 :: xi x0 :: st) (nn := 3) M_Mdl_in hc ok_Mdl_in rfl ml_Mdl_130 sta_Mdl_in ⟨hr1, hr2⟩ rfl ⟨hb1, hb2⟩ hst rfl d_Mdl_isPatch_8 (fun r σ' h => by obtain ⟨x, rfl, h⟩ := h; exact kk x σ' h) kx
theorem r_Mdl_isPatch_11 {Ω : Om} {R : Room} {k n : Nat} {L : List PV} {σ : Sto} {QR : Option PV → Sto → Prop} {QX : String → Sto → Prop} {x : Int} (hx : x = 0 ∨ x = 1) (h : QR (some (xi x)) σ) (h1 : k ≤ R.cells) (h2 : n ≤ R.slots) : Aw Ω M_Mdl_isPatch R (MF Ω R QR QX) k n 11 L [xi x] σ := Aw.zret rfl hx h h1 h2 d_Mdl_isPatch_11
theorem e_Mdl_versions {Ω : Om} {R : Room} {QR : Option PV → Sto → Prop} {QX : String → Sto → Prop} {σ : Sto} {a0 : Nat} (h : Aw Ω M_Mdl_versions R (MF Ω R QR QX) 0 0 0 [xr (some a0)] [] σ) : MC Ω M_Mdl_versions R QR QX σ [xr (some a0)] := MC.body (by decide +kernel) rfl (Nat.le_of_ble_eq_true rfl) rfl h
theorem b_Mdl_versions_0 {Ω : Om} {R : Room} {F : QF} {k n : Nat} {σ : Sto} {a0 : Nat} (h : sK σ a0 = 13 ∧ (Q32 (fI σ 773 a0) → Aw Ω M_Mdl_versions R F k n 5 [xr (some a0)] [xi (fI σ 773 a0), xr (some a0)] σ)) : Aw Ω M_Mdl_versions R F k n 0 [xr (some a0)] [] σ := by
  refine Aw.aload_n rfl d_Mdl_versions_0 ?_
  refine Aw.aload_n rfl d_Mdl_versions_1 ?_
  obtain ⟨o1, h⟩ := h
  refine Aw.getI (f := 773) 12 5 fl_Mdl_123 (by decide) (by decide) rfl rfl o1 d_Mdl_versions_2 (fun r2 => ?_)
  have h := h r2
  exact h
theorem c_Mdl_versions_5 {Ω : Om} {R R' : Room} {F : QF} {k n : Nat} {L st : List PV} {σ : Sto} {QX' : String → Sto → Prop} {Q : Int → Sto → Prop} {a : Nat} {x0 : Int} (hc : MC Ω M_Mdl_fine R' (RI Q) QX' σ [xr (some a), xi x0]) (hk : sK σ a = 13) (hr1 : R'.frames + 1 ≤ R.frames) (hr2 : 8 + (2 + 11) + R'.locals ≤ R.locals) (hb1 : k + R'.cells ≤ R.cells) (hb2 : n + R'.slots ≤ R.slots) (hst : (st.map catP).sum ≤ 8) (kk : ∀ x σ', Q x σ' → Aw Ω M_Mdl_versions R F (k + R'.cells) (n + R'.slots) 8 L (xi x :: st) σ') (kx : ∀ E σ', QX' E σ' → Ax Ω M_Mdl_versions R F (k + R'.cells) (n + R'.slots) 5 L st σ' E) : Aw Ω M_Mdl_versions R F k n 5 L (xi x0 :: xr (some a) :: st) σ :=
  Aw.callV (As := [xi x0]) (stk := xi x0 :: xr (some a) :: st) (nn := 1) 12 M_Mdl_fine hc ok_Mdl_fine rfl (by decide) rfl hk ml_Mdl_222 im_Mdl_fine se_Mdl_fine ⟨hr1, hr2⟩ rfl ⟨hb1, hb2⟩ hst rfl d_Mdl_versions_5 (fun r σ' h => by obtain ⟨x, rfl, h⟩ := h; exact kk x σ' h) kx
theorem r_Mdl_versions_8 {Ω : Om} {R : Room} {k n : Nat} {L : List PV} {σ : Sto} {QR : Option PV → Sto → Prop} {QX : String → Sto → Prop} {x : Int} (h : QR (some (xi x)) σ) (h1 : k ≤ R.cells) (h2 : n ≤ R.slots) : Aw Ω M_Mdl_versions R (MF Ω R QR QX) k n 8 L [xi x] σ := Aw.iret rfl h h1 h2 d_Mdl_versions_8
