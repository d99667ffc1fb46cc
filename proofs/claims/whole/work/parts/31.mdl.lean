/-! walks of the reference, 1 (by program) -/
theorem e_Mdl_compareTrees {Ω : Om} {R : Room} {QR : Option PV → Sto → Prop} {QX : String → Sto → Prop} {σ : Sto} {a0 : Nat} {v1 : Int} {v2 : Int} (h : Aw Ω M_Mdl_compareTrees R (MF Ω R QR QX) 0 0 0 [xr (some a0), xi v1, xi v2, xu, xu, xu, xu, xu, xu] [] σ) : MC Ω M_Mdl_compareTrees R QR QX σ [xr (some a0), xi v1, xi v2] := MC.body (by decide +kernel) rfl (Nat.le_of_ble_eq_true rfl) rfl h
theorem b_Mdl_compareTrees_0 {Ω : Om} {R : Room} {F : QF} {k n : Nat} {σ : Sto} {a0 : Nat} {v1 : Int} {v2 : Int} (h : sK σ a0 = 13 ∧ (∃ b2 : Nat, fR σ 816 a0 = some b2 ∧ sK σ b2 = 50 ∧ 0 ≤ v1 ∧ v1 < sZ σ b2 ∧ (Q32 (aI σ b2 (v1).toNat) → 0 ≤ (22 + v2) ∧ (22 + v2) < sZ σ b2 ∧ (Q32 (aI σ b2 (22 + v2).toNat) → (∃ b11 : Nat, fR σ 819 a0 = some b11 ∧ sK σ b11 = 50 ∧ 0 ≤ (((22 * ((aI σ b2 (v1).toNat) - 1)) + (aI σ b2 (22 + v2).toNat)) - 1) ∧ (((22 * ((aI σ b2 (v1).toNat) - 1)) + (aI σ b2 (22 + v2).toNat)) - 1) < sZ σ b11 ∧ Aw Ω M_Mdl_compareTrees R F k n 38 [xr (some a0), xi v1, xi v2, xi (aI σ b2 (v1).toNat), xi (aI σ b2 (22 + v2).toNat), xi (aI σ b2 (v1).toNat), xu, xu, xu] [] (vI σ b11 (((22 * ((aI σ b2 (v1).toNat) - 1)) + (aI σ b2 (22 + v2).toNat)) - 1).toNat 0)))))) : Aw Ω M_Mdl_compareTrees R F k n 0 [xr (some a0), xi v1, xi v2, xu, xu, xu, xu, xu, xu] [] σ := by
  refine Aw.aload_n rfl d_Mdl_compareTrees_0 ?_
  obtain ⟨o1, h⟩ := h
  obtain ⟨b2, e3, h⟩ := h
  refine Aw.getRs (f := 816) 12 48 fl_Mdl_108 (by decide) (by decide) rfl rfl o1 e3 d_Mdl_compareTrees_1 ?_
  refine Aw.iload_n rfl d_Mdl_compareTrees_4 ?_
  obtain ⟨o4, h⟩ := h
  obtain ⟨o5, o6, h⟩ := h
  refine Aw.iald o4 o5 o6 d_Mdl_compareTrees_5 (fun r7 => ?_)
  have h := h r7
  refine Aw.istore_n (by decide) d_Mdl_compareTrees_6 ?_
  refine Aw.toL (L' := [xr (some a0), xi v1, xi v2, xi (aI σ b2 (v1).toNat), xu, xu, xu, xu, xu]) rfl ?_
  refine Aw.aload_n rfl d_Mdl_compareTrees_7 ?_
  refine Aw.getRs (f := 816) 12 48 fl_Mdl_108 (by decide) (by decide) rfl rfl o1 e3 d_Mdl_compareTrees_8 ?_
  refine Aw.bipush (by decide) d_Mdl_compareTrees_11 ?_
  refine Aw.iload_n rfl d_Mdl_compareTrees_13 ?_
  refine Aw.iadd d_Mdl_compareTrees_14 ?_
  obtain ⟨o8, o9, h⟩ := h
  refine Aw.iald o4 o8 o9 d_Mdl_compareTrees_15 (fun r10 => ?_)
  have h := h r10
  refine Aw.istore (by decide) d_Mdl_compareTrees_16 ?_
  refine Aw.toL (L' := [xr (some a0), xi v1, xi v2, xi (aI σ b2 (v1).toNat), xi (aI σ b2 (22 + v2).toNat), xu, xu, xu, xu]) rfl ?_
  refine Aw.aload_n rfl d_Mdl_compareTrees_18 ?_
  obtain ⟨b11, e12, h⟩ := h
  refine Aw.getRs (f := 819) 12 51 fl_Mdl_117 (by decide) (by decide) rfl rfl o1 e12 d_Mdl_compareTrees_19 ?_
  refine Aw.bipush (by decide) d_Mdl_compareTrees_22 ?_
  refine Aw.iload_n rfl d_Mdl_compareTrees_24 ?_
  refine Aw.iconst d_Mdl_compareTrees_25 ?_
  refine Aw.isub d_Mdl_compareTrees_26 ?_
  refine Aw.imul d_Mdl_compareTrees_27 ?_
  refine Aw.iload rfl d_Mdl_compareTrees_28 ?_
  refine Aw.iadd d_Mdl_compareTrees_30 ?_
  refine Aw.iconst d_Mdl_compareTrees_31 ?_
  refine Aw.isub d_Mdl_compareTrees_32 ?_
  refine Aw.iconst d_Mdl_compareTrees_33 ?_
  obtain ⟨o13, h⟩ := h
  obtain ⟨o14, o15, h⟩ := h
  refine Aw.iast o13 o14 o15 ⟨by decide, by decide⟩ d_Mdl_compareTrees_34 ?_
  refine Aw.iload_n rfl d_Mdl_compareTrees_35 ?_
  refine Aw.istore (by decide) d_Mdl_compareTrees_36 ?_
  refine Aw.toL (L' := [xr (some a0), xi v1, xi v2, xi (aI σ b2 (v1).toNat), xi (aI σ b2 (22 + v2).toNat), xi (aI σ b2 (v1).toNat), xu, xu, xu]) rfl ?_
  exact h
theorem b_Mdl_compareTrees_38 {Ω : Om} {R : Room} {F : QF} {k n : Nat} {σ : Sto} {a0 : Nat} {v1 : Int} {v2 : Int} {v3 : Int} {v4 : Int} {v5 : Int} (h : Q32 v5 ∧ Q32 v1 ∧ ((v1 < v5 → Aw Ω M_Mdl_compareTrees R F k n 88 [xr (some a0), xi v1, xi v2, xi v3, xi v4, xi v4, xu, xu, xu] [] σ) ∧ (¬ v1 < v5 → sK σ a0 = 13 ∧ (∃ b4 : Nat, fR σ 819 a0 = some b4 ∧ sK σ b4 = 50 ∧ 0 ≤ (((22 * (v5 - 1)) + v4) - 1) ∧ (((22 * (v5 - 1)) + v4) - 1) < sZ σ b4 ∧ (Q32 (aI σ b4 (((22 * (v5 - 1)) + v4) - 1).toNat) → 0 ≤ (((22 * v5) + v4) - 1) ∧ (((22 * v5) + v4) - 1) < sZ σ b4 ∧ Q32 ((aI σ b4 (((22 * (v5 - 1)) + v4) - 1).toNat) + 1) ∧ Aw Ω M_Mdl_compareTrees R F k n 38 [xr (some a0), xi v1, xi v2, xi v3, xi v4, xi (v5 + 1), xu, xu, xu] [] (vI σ b4 (((22 * v5) + v4) - 1).toNat ((aI σ b4 (((22 * (v5 - 1)) + v4) - 1).toNat) + 1))))))) : Aw Ω M_Mdl_compareTrees R F k n 38 [xr (some a0), xi v1, xi v2, xi v3, xi v4, xi v5, xu, xu, xu] [] σ := by
  refine Aw.iload rfl d_Mdl_compareTrees_38 ?_
  refine Aw.iload_n rfl d_Mdl_compareTrees_40 ?_
  obtain ⟨o1, h⟩ := h
  obtain ⟨o2, h⟩ := h
  obtain ⟨ht, hf⟩ := h
  refine Aw.icmp_gt (tgt := 84) o1 o2 (by decide) d_Mdl_compareTrees_41 (fun c13 => ?_) (fun c13 => ?_)
  · have h := ht c13
    refine Aw.iload rfl d_Mdl_compareTrees_84 ?_
    refine Aw.istore (by decide) d_Mdl_compareTrees_86 ?_
    refine Aw.toL (L' := [xr (some a0), xi v1, xi v2, xi v3, xi v4, xi v4, xu, xu, xu]) rfl ?_
    exact h
  · have h := hf c13
    refine Aw.aload_n rfl d_Mdl_compareTrees_44 ?_
    obtain ⟨o3, h⟩ := h
    obtain ⟨b4, e5, h⟩ := h
    refine Aw.getRs (f := 819) 12 51 fl_Mdl_117 (by decide) (by decide) rfl rfl o3 e5 d_Mdl_compareTrees_45 ?_
    refine Aw.bipush (by decide) d_Mdl_compareTrees_48 ?_
    refine Aw.iload rfl d_Mdl_compareTrees_50 ?_
    refine Aw.imul d_Mdl_compareTrees_52 ?_
    refine Aw.iload rfl d_Mdl_compareTrees_53 ?_
    refine Aw.iadd d_Mdl_compareTrees_55 ?_
    refine Aw.iconst d_Mdl_compareTrees_56 ?_
    refine Aw.isub d_Mdl_compareTrees_57 ?_
    refine Aw.aload_n rfl d_Mdl_compareTrees_58 ?_
    refine Aw.getRs (f := 819) 12 51 fl_Mdl_117 (by decide) (by decide) rfl rfl o3 e5 d_Mdl_compareTrees_59 ?_
    refine Aw.bipush (by decide) d_Mdl_compareTrees_62 ?_
    refine Aw.iload rfl d_Mdl_compareTrees_64 ?_
    refine Aw.iconst d_Mdl_compareTrees_66 ?_
    refine Aw.isub d_Mdl_compareTrees_67 ?_
    refine Aw.imul d_Mdl_compareTrees_68 ?_
    refine Aw.iload rfl d_Mdl_compareTrees_69 ?_
    refine Aw.iadd d_Mdl_compareTrees_71 ?_
    refine Aw.iconst d_Mdl_compareTrees_72 ?_
    refine Aw.isub d_Mdl_compareTrees_73 ?_
    obtain ⟨o6, h⟩ := h
    obtain ⟨o7, o8, h⟩ := h
    refine Aw.iald o6 o7 o8 d_Mdl_compareTrees_74 (fun r9 => ?_)
    have h := h r9
    refine Aw.iconst d_Mdl_compareTrees_75 ?_
    refine Aw.iadd d_Mdl_compareTrees_76 ?_
    obtain ⟨o10, o11, h⟩ := h
    obtain ⟨o12, h⟩ := h
    refine Aw.iast o6 o10 o11 o12 d_Mdl_compareTrees_77 ?_
    refine Aw.iinc rfl d_Mdl_compareTrees_78 ?_
    refine Aw.toL (L' := [xr (some a0), xi v1, xi v2, xi v3, xi v4, xi (v5 + 1), xu, xu, xu]) rfl ?_
    refine Aw.goto (tgt := 38) (by decide) d_Mdl_compareTrees_81 ?_
    exact h
theorem b_Mdl_compareTrees_88 {Ω : Om} {R : Room} {F : QF} {k n : Nat} {σ : Sto} {a0 : Nat} {v1 : Int} {v2 : Int} {v3 : Int} {v4 : Int} {v5 : Int} (h : Q32 v5 ∧ Q32 v2 ∧ ((v2 < v5 → Aw Ω M_Mdl_compareTrees R F k n 135 [xr (some a0), xi v1, xi v2, xi v3, xi v4, xi v3, xu, xu, xu] [] σ) ∧ (¬ v2 < v5 → sK σ a0 = 13 ∧ (∃ b4 : Nat, fR σ 819 a0 = some b4 ∧ sK σ b4 = 50 ∧ 0 ≤ (((22 * (v3 - 1)) + v5) - 1) ∧ (((22 * (v3 - 1)) + v5) - 1) < sZ σ b4 ∧ (Q32 (aI σ b4 (((22 * (v3 - 1)) + v5) - 1).toNat) → 0 ≤ ((22 * (v3 - 1)) + v5) ∧ ((22 * (v3 - 1)) + v5) < sZ σ b4 ∧ Q32 ((aI σ b4 (((22 * (v3 - 1)) + v5) - 1).toNat) + 1) ∧ Aw Ω M_Mdl_compareTrees R F k n 88 [xr (some a0), xi v1, xi v2, xi v3, xi v4, xi (v5 + 1), xu, xu, xu] [] (vI σ b4 ((22 * (v3 - 1)) + v5).toNat ((aI σ b4 (((22 * (v3 - 1)) + v5) - 1).toNat) + 1))))))) : Aw Ω M_Mdl_compareTrees R F k n 88 [xr (some a0), xi v1, xi v2, xi v3, xi v4, xi v5, xu, xu, xu] [] σ := by
  refine Aw.iload rfl d_Mdl_compareTrees_88 ?_
  refine Aw.iload_n rfl d_Mdl_compareTrees_90 ?_
  obtain ⟨o1, h⟩ := h
  obtain ⟨o2, h⟩ := h
  obtain ⟨ht, hf⟩ := h
  refine Aw.icmp_gt (tgt := 132) o1 o2 (by decide) d_Mdl_compareTrees_91 (fun c13 => ?_) (fun c13 => ?_)
  · have h := ht c13
    refine Aw.iload_n rfl d_Mdl_compareTrees_132 ?_
    refine Aw.istore (by decide) d_Mdl_compareTrees_133 ?_
    refine Aw.toL (L' := [xr (some a0), xi v1, xi v2, xi v3, xi v4, xi v3, xu, xu, xu]) rfl ?_
    exact h
  · have h := hf c13
    refine Aw.aload_n rfl d_Mdl_compareTrees_94 ?_
    obtain ⟨o3, h⟩ := h
    obtain ⟨b4, e5, h⟩ := h
    refine Aw.getRs (f := 819) 12 51 fl_Mdl_117 (by decide) (by decide) rfl rfl o3 e5 d_Mdl_compareTrees_95 ?_
    refine Aw.bipush (by decide) d_Mdl_compareTrees_98 ?_
    refine Aw.iload_n rfl d_Mdl_compareTrees_100 ?_
    refine Aw.iconst d_Mdl_compareTrees_101 ?_
    refine Aw.isub d_Mdl_compareTrees_102 ?_
    refine Aw.imul d_Mdl_compareTrees_103 ?_
    refine Aw.iload rfl d_Mdl_compareTrees_104 ?_
    refine Aw.iadd d_Mdl_compareTrees_106 ?_
    refine Aw.aload_n rfl d_Mdl_compareTrees_107 ?_
    refine Aw.getRs (f := 819) 12 51 fl_Mdl_117 (by decide) (by decide) rfl rfl o3 e5 d_Mdl_compareTrees_108 ?_
    refine Aw.bipush (by decide) d_Mdl_compareTrees_111 ?_
    refine Aw.iload_n rfl d_Mdl_compareTrees_113 ?_
    refine Aw.iconst d_Mdl_compareTrees_114 ?_
    refine Aw.isub d_Mdl_compareTrees_115 ?_
    refine Aw.imul d_Mdl_compareTrees_116 ?_
    refine Aw.iload rfl d_Mdl_compareTrees_117 ?_
    refine Aw.iadd d_Mdl_compareTrees_119 ?_
    refine Aw.iconst d_Mdl_compareTrees_120 ?_
    refine Aw.isub d_Mdl_compareTrees_121 ?_
    obtain ⟨o6, h⟩ := h
    obtain ⟨o7, o8, h⟩ := h
    refine Aw.iald o6 o7 o8 d_Mdl_compareTrees_122 (fun r9 => ?_)
    have h := h r9
    refine Aw.iconst d_Mdl_compareTrees_123 ?_
    refine Aw.iadd d_Mdl_compareTrees_124 ?_
    obtain ⟨o10, o11, h⟩ := h
    obtain ⟨o12, h⟩ := h
    refine Aw.iast o6 o10 o11 o12 d_Mdl_compareTrees_125 ?_
    refine Aw.iinc rfl d_Mdl_compareTrees_126 ?_
    refine Aw.toL (L' := [xr (some a0), xi v1, xi v2, xi v3, xi v4, xi (v5 + 1), xu, xu, xu]) rfl ?_
    refine Aw.goto (tgt := 88) (by decide) d_Mdl_compareTrees_129 ?_
    exact h
theorem b_Mdl_compareTrees_135 {Ω : Om} {R : Room} {F : QF} {k n : Nat} {σ : Sto} {a0 : Nat} {v1 : Int} {v2 : Int} {v3 : Int} {v4 : Int} {v5 : Int} (h : Q32 v5 ∧ Q32 v1 ∧ ((v1 < v5 → Aw Ω M_Mdl_compareTrees R F k n 388 [xr (some a0), xi v1, xi v2, xi v3, xi v4, xi v5, xu, xu, xu] [] σ) ∧ (¬ v1 < v5 → Aw Ω M_Mdl_compareTrees R F k n 145 [xr (some a0), xi v1, xi v2, xi v3, xi v4, xi v5, xi v4, xu, xu] [] σ))) : Aw Ω M_Mdl_compareTrees R F k n 135 [xr (some a0), xi v1, xi v2, xi v3, xi v4, xi v5, xu, xu, xu] [] σ := by
  refine Aw.iload rfl d_Mdl_compareTrees_135 ?_
  refine Aw.iload_n rfl d_Mdl_compareTrees_137 ?_
  obtain ⟨o1, h⟩ := h
  obtain ⟨o2, h⟩ := h
  obtain ⟨ht, hf⟩ := h
  refine Aw.icmp_gt (tgt := 388) o1 o2 (by decide) d_Mdl_compareTrees_138 (fun c3 => ?_) (fun c3 => ?_)
  · have h := ht c3
    exact h
  · have h := hf c3
    refine Aw.iload rfl d_Mdl_compareTrees_141 ?_
    refine Aw.istore (by decide) d_Mdl_compareTrees_143 ?_
    refine Aw.toL (L' := [xr (some a0), xi v1, xi v2, xi v3, xi v4, xi v5, xi v4, xu, xu]) rfl ?_
    exact h
theorem b_Mdl_compareTrees_145 {Ω : Om} {R : Room} {F : QF} {k n : Nat} {σ : Sto} {a0 : Nat} {v1 : Int} {v2 : Int} {v3 : Int} {v4 : Int} {v5 : Int} {v6 : Int} (h : Q32 v6 ∧ Q32 v2 ∧ ((v2 < v6 → Aw Ω M_Mdl_compareTrees R F k n 135 [xr (some a0), xi v1, xi v2, xi v3, xi v4, xi (v5 + 1), xu, xu, xu] [] σ) ∧ (¬ v2 < v6 → sK σ a0 = 13 ∧ (∃ b4 : Nat, fR σ 816 a0 = some b4 ∧ sK σ b4 = 50 ∧ 0 ≤ v5 ∧ v5 < sZ σ b4 ∧ (Q32 (aI σ b4 (v5).toNat) → Q32 v3 ∧ ((¬ (aI σ b4 (v5).toNat) = v3 → (∃ b11 : Nat, fR σ 819 a0 = some b11 ∧ (Q32 (aI σ b4 (v5).toNat) → 0 ≤ (22 + v6) ∧ (22 + v6) < sZ σ b4 ∧ (Q32 (aI σ b4 (22 + v6).toNat) → sK σ b11 = 50 ∧ 0 ≤ (((22 * ((aI σ b4 (v5).toNat) - 1)) + (aI σ b4 (22 + v6).toNat)) - 1) ∧ (((22 * ((aI σ b4 (v5).toNat) - 1)) + (aI σ b4 (22 + v6).toNat)) - 1) < sZ σ b11 ∧ (Q32 (aI σ b11 (((22 * ((aI σ b4 (v5).toNat) - 1)) + (aI σ b4 (22 + v6).toNat)) - 1).toNat) → (∃ b21 : Nat, fR σ 818 a0 = some b21 ∧ sK σ b21 = 50 ∧ 0 ≤ ((22 * v5) + v6) ∧ ((22 * v5) + v6) < sZ σ b21 ∧ (Q32 (aI σ b21 ((22 * v5) + v6).toNat) → 0 ≤ ((22 * (v5 - 1)) + v6) ∧ ((22 * (v5 - 1)) + v6) < sZ σ b11 ∧ (Q32 (aI σ b11 ((22 * (v5 - 1)) + v6).toNat) → 0 ≤ (((22 * v5) + v6) - 1) ∧ (((22 * v5) + v6) - 1) < sZ σ b11 ∧ (Q32 (aI σ b11 (((22 * v5) + v6) - 1).toNat) → Aw Ω M_Mdl_compareTrees R F k n 325 [xr (some a0), xi v1, xi v2, xi v3, xi v4, xi v5, xi v6, xi 0, xi ((aI σ b11 (((22 * ((aI σ b4 (v5).toNat) - 1)) + (aI σ b4 (22 + v6).toNat)) - 1).toNat) + (aI σ b21 ((22 * v5) + v6).toNat))] [xi ((aI σ b11 (((22 * ((aI σ b4 (v5).toNat) - 1)) + (aI σ b4 (22 + v6).toNat)) - 1).toNat) + (aI σ b21 ((22 * v5) + v6).toNat)), xi ((aI σ b11 (((22 * v5) + v6) - 1).toNat) + 1), xi ((aI σ b11 ((22 * (v5 - 1)) + v6).toNat) + 1), xi ((22 * v5) + v6), xr (some b11)] σ))))))))) ∧ ((aI σ b4 (v5).toNat) = v3 → 0 ≤ (22 + v6) ∧ (22 + v6) < sZ σ b4 ∧ (Q32 (aI σ b4 (22 + v6).toNat) → Q32 v4 ∧ ((¬ (aI σ b4 (22 + v6).toNat) = v4 → (∃ b38 : Nat, fR σ 819 a0 = some b38 ∧ (Q32 (aI σ b4 (v5).toNat) → (Q32 (aI σ b4 (22 + v6).toNat) → sK σ b38 = 50 ∧ 0 ≤ (((22 * ((aI σ b4 (v5).toNat) - 1)) + (aI σ b4 (22 + v6).toNat)) - 1) ∧ (((22 * ((aI σ b4 (v5).toNat) - 1)) + (aI σ b4 (22 + v6).toNat)) - 1) < sZ σ b38 ∧ (Q32 (aI σ b38 (((22 * ((aI σ b4 (v5).toNat) - 1)) + (aI σ b4 (22 + v6).toNat)) - 1).toNat) → (∃ b46 : Nat, fR σ 818 a0 = some b46 ∧ sK σ b46 = 50 ∧ 0 ≤ ((22 * v5) + v6) ∧ ((22 * v5) + v6) < sZ σ b46 ∧ (Q32 (aI σ b46 ((22 * v5) + v6).toNat) → 0 ≤ ((22 * (v5 - 1)) + v6) ∧ ((22 * (v5 - 1)) + v6) < sZ σ b38 ∧ (Q32 (aI σ b38 ((22 * (v5 - 1)) + v6).toNat) → 0 ≤ (((22 * v5) + v6) - 1) ∧ (((22 * v5) + v6) - 1) < sZ σ b38 ∧ (Q32 (aI σ b38 (((22 * v5) + v6) - 1).toNat) → Aw Ω M_Mdl_compareTrees R F k n 325 [xr (some a0), xi v1, xi v2, xi v3, xi v4, xi v5, xi v6, xi 0, xi ((aI σ b38 (((22 * ((aI σ b4 (v5).toNat) - 1)) + (aI σ b4 (22 + v6).toNat)) - 1).toNat) + (aI σ b46 ((22 * v5) + v6).toNat))] [xi ((aI σ b38 (((22 * ((aI σ b4 (v5).toNat) - 1)) + (aI σ b4 (22 + v6).toNat)) - 1).toNat) + (aI σ b46 ((22 * v5) + v6).toNat)), xi ((aI σ b38 (((22 * v5) + v6) - 1).toNat) + 1), xi ((aI σ b38 ((22 * (v5 - 1)) + v6).toNat) + 1), xi ((22 * v5) + v6), xr (some b38)] σ))))))))) ∧ ((aI σ b4 (22 + v6).toNat) = v4 → (∃ b59 : Nat, fR σ 819 a0 = some b59 ∧ sK σ b59 = 50 ∧ 0 ≤ (((22 * (v5 - 1)) + v6) - 1) ∧ (((22 * (v5 - 1)) + v6) - 1) < sZ σ b59 ∧ (Q32 (aI σ b59 (((22 * (v5 - 1)) + v6) - 1).toNat) → (∃ b65 : Nat, fR σ 815 a0 = some b65 ∧ sK σ b65 = 50 ∧ 0 ≤ v5 ∧ v5 < sZ σ b65 ∧ (Q32 (aI σ b65 (v5).toNat) → 0 ≤ (22 + v6) ∧ (22 + v6) < sZ σ b65 ∧ (Q32 (aI σ b65 (22 + v6).toNat) → Aw Ω M_Mdl_compareTrees R F k n 224 [xr (some a0), xi v1, xi v2, xi v3, xi v4, xi v5, xi v6, xi 1, xu] [xi (aI σ b65 (22 + v6).toNat), xi (aI σ b65 (v5).toNat), xr (some a0), xi (aI σ b59 (((22 * (v5 - 1)) + v6) - 1).toNat)] σ))))))))))))))) : Aw Ω M_Mdl_compareTrees R F k n 145 [xr (some a0), xi v1, xi v2, xi v3, xi v4, xi v5, xi v6, xu, xu] [] σ := by
  refine Aw.iload rfl d_Mdl_compareTrees_145 ?_
  refine Aw.iload_n rfl d_Mdl_compareTrees_147 ?_
  obtain ⟨o1, h⟩ := h
  obtain ⟨o2, h⟩ := h
  obtain ⟨ht, hf⟩ := h
  refine Aw.icmp_gt (tgt := 382) o1 o2 (by decide) d_Mdl_compareTrees_148 (fun c77 => ?_) (fun c77 => ?_)
  · have h := ht c77
    refine Aw.iinc rfl d_Mdl_compareTrees_382 ?_
    refine Aw.toL (L' := [xr (some a0), xi v1, xi v2, xi v3, xi v4, xi (v5 + 1), xi v6, xu, xu]) rfl ?_
    refine Aw.goto (tgt := 135) (by decide) d_Mdl_compareTrees_385 ?_
    exact Aw.toW (L' := [xr (some a0), xi v1, xi v2, xi v3, xi v4, xi (v5 + 1), xu, xu, xu]) ⟨Or.inr rfl, Or.inr rfl, Or.inr rfl, Or.inr rfl, Or.inr rfl, Or.inr rfl, Or.inl rfl, Or.inr rfl, Or.inr rfl, trivial⟩ h
  · have h := hf c77
    refine Aw.aload_n rfl d_Mdl_compareTrees_151 ?_
    obtain ⟨o3, h⟩ := h
    obtain ⟨b4, e5, h⟩ := h
    refine Aw.getRs (f := 816) 12 48 fl_Mdl_108 (by decide) (by decide) rfl rfl o3 e5 d_Mdl_compareTrees_152 ?_
    refine Aw.iload rfl d_Mdl_compareTrees_155 ?_
    obtain ⟨o6, h⟩ := h
    obtain ⟨o7, o8, h⟩ := h
    refine Aw.iald o6 o7 o8 d_Mdl_compareTrees_157 (fun r9 => ?_)
    have h := h r9
    refine Aw.iload_n rfl d_Mdl_compareTrees_158 ?_
    obtain ⟨o10, h⟩ := h
    obtain ⟨ht, hf⟩ := h
    refine Aw.icmp_ne (tgt := 181) r9 o10 (by decide) d_Mdl_compareTrees_159 (fun c76 => ?_) (fun c76 => ?_)
    · have h := ht c76
      refine Aw.iconst d_Mdl_compareTrees_181 ?_
      refine Aw.istore (by decide) d_Mdl_compareTrees_182 ?_
      refine Aw.toL (L' := [xr (some a0), xi v1, xi v2, xi v3, xi v4, xi v5, xi v6, xi 0, xu]) rfl ?_
      refine Aw.iload rfl d_Mdl_compareTrees_184 ?_
      refine Aw.if_eq (tgt := 231) ⟨by decide, by decide⟩ (by decide) d_Mdl_compareTrees_186 (fun c33 => ?_) (fun c33 => absurd c33 (by decide))
      refine Aw.aload_n rfl d_Mdl_compareTrees_231 ?_
      obtain ⟨b11, e12, h⟩ := h
      refine Aw.getRs (f := 819) 12 51 fl_Mdl_117 (by decide) (by decide) rfl rfl o3 e12 d_Mdl_compareTrees_232 ?_
      refine Aw.bipush (by decide) d_Mdl_compareTrees_235 ?_
      refine Aw.aload_n rfl d_Mdl_compareTrees_237 ?_
      refine Aw.getRs (f := 816) 12 48 fl_Mdl_108 (by decide) (by decide) rfl rfl o3 e5 d_Mdl_compareTrees_238 ?_
      refine Aw.iload rfl d_Mdl_compareTrees_241 ?_
      refine Aw.iald o6 o7 o8 d_Mdl_compareTrees_243 (fun r13 => ?_)
      have h := h r13
      refine Aw.iconst d_Mdl_compareTrees_244 ?_
      refine Aw.isub d_Mdl_compareTrees_245 ?_
      refine Aw.imul d_Mdl_compareTrees_246 ?_
      refine Aw.aload_n rfl d_Mdl_compareTrees_247 ?_
      refine Aw.getRs (f := 816) 12 48 fl_Mdl_108 (by decide) (by decide) rfl rfl o3 e5 d_Mdl_compareTrees_248 ?_
      refine Aw.bipush (by decide) d_Mdl_compareTrees_251 ?_
      refine Aw.iload rfl d_Mdl_compareTrees_253 ?_
      refine Aw.iadd d_Mdl_compareTrees_255 ?_
      obtain ⟨o14, o15, h⟩ := h
      refine Aw.iald o6 o14 o15 d_Mdl_compareTrees_256 (fun r16 => ?_)
      have h := h r16
      refine Aw.iadd d_Mdl_compareTrees_257 ?_
      refine Aw.iconst d_Mdl_compareTrees_258 ?_
      refine Aw.isub d_Mdl_compareTrees_259 ?_
      obtain ⟨o17, h⟩ := h
      obtain ⟨o18, o19, h⟩ := h
      refine Aw.iald o17 o18 o19 d_Mdl_compareTrees_260 (fun r20 => ?_)
      have h := h r20
      refine Aw.aload_n rfl d_Mdl_compareTrees_261 ?_
      obtain ⟨b21, e22, h⟩ := h
      refine Aw.getRs (f := 818) 12 50 fl_Mdl_114 (by decide) (by decide) rfl rfl o3 e22 d_Mdl_compareTrees_262 ?_
      refine Aw.bipush (by decide) d_Mdl_compareTrees_265 ?_
      refine Aw.iload rfl d_Mdl_compareTrees_267 ?_
      refine Aw.imul d_Mdl_compareTrees_269 ?_
      refine Aw.iload rfl d_Mdl_compareTrees_270 ?_
      refine Aw.iadd d_Mdl_compareTrees_272 ?_
      obtain ⟨o23, h⟩ := h
      obtain ⟨o24, o25, h⟩ := h
      refine Aw.iald o23 o24 o25 d_Mdl_compareTrees_273 (fun r26 => ?_)
      have h := h r26
      refine Aw.iadd d_Mdl_compareTrees_274 ?_
      refine Aw.istore (by decide) d_Mdl_compareTrees_275 ?_
      refine Aw.toL (L' := [xr (some a0), xi v1, xi v2, xi v3, xi v4, xi v5, xi v6, xi 0, xi ((aI σ b11 (((22 * ((aI σ b4 (v5).toNat) - 1)) + (aI σ b4 (22 + v6).toNat)) - 1).toNat) + (aI σ b21 ((22 * v5) + v6).toNat))]) rfl ?_
      refine Aw.aload_n rfl d_Mdl_compareTrees_277 ?_
      refine Aw.getRs (f := 819) 12 51 fl_Mdl_117 (by decide) (by decide) rfl rfl o3 e12 d_Mdl_compareTrees_278 ?_
      refine Aw.bipush (by decide) d_Mdl_compareTrees_281 ?_
      refine Aw.iload rfl d_Mdl_compareTrees_283 ?_
      refine Aw.imul d_Mdl_compareTrees_285 ?_
      refine Aw.iload rfl d_Mdl_compareTrees_286 ?_
      refine Aw.iadd d_Mdl_compareTrees_288 ?_
      refine Aw.aload_n rfl d_Mdl_compareTrees_289 ?_
      refine Aw.getRs (f := 819) 12 51 fl_Mdl_117 (by decide) (by decide) rfl rfl o3 e12 d_Mdl_compareTrees_290 ?_
      refine Aw.bipush (by decide) d_Mdl_compareTrees_293 ?_
      refine Aw.iload rfl d_Mdl_compareTrees_295 ?_
      refine Aw.iconst d_Mdl_compareTrees_297 ?_
      refine Aw.isub d_Mdl_compareTrees_298 ?_
      refine Aw.imul d_Mdl_compareTrees_299 ?_
      refine Aw.iload rfl d_Mdl_compareTrees_300 ?_
      refine Aw.iadd d_Mdl_compareTrees_302 ?_
      obtain ⟨o27, o28, h⟩ := h
      refine Aw.iald o17 o27 o28 d_Mdl_compareTrees_303 (fun r29 => ?_)
      have h := h r29
      refine Aw.iconst d_Mdl_compareTrees_304 ?_
      refine Aw.iadd d_Mdl_compareTrees_305 ?_
      refine Aw.aload_n rfl d_Mdl_compareTrees_306 ?_
      refine Aw.getRs (f := 819) 12 51 fl_Mdl_117 (by decide) (by decide) rfl rfl o3 e12 d_Mdl_compareTrees_307 ?_
      refine Aw.bipush (by decide) d_Mdl_compareTrees_310 ?_
      refine Aw.iload rfl d_Mdl_compareTrees_312 ?_
      refine Aw.imul d_Mdl_compareTrees_314 ?_
      refine Aw.iload rfl d_Mdl_compareTrees_315 ?_
      refine Aw.iadd d_Mdl_compareTrees_317 ?_
      refine Aw.iconst d_Mdl_compareTrees_318 ?_
      refine Aw.isub d_Mdl_compareTrees_319 ?_
      obtain ⟨o30, o31, h⟩ := h
      refine Aw.iald o17 o30 o31 d_Mdl_compareTrees_320 (fun r32 => ?_)
      have h := h r32
      refine Aw.iconst d_Mdl_compareTrees_321 ?_
      refine Aw.iadd d_Mdl_compareTrees_322 ?_
      refine Aw.iload rfl d_Mdl_compareTrees_323 ?_
      exact h
    · have h := hf c76
      refine Aw.aload_n rfl d_Mdl_compareTrees_162 ?_
      refine Aw.getRs (f := 816) 12 48 fl_Mdl_108 (by decide) (by decide) rfl rfl o3 e5 d_Mdl_compareTrees_163 ?_
      refine Aw.bipush (by decide) d_Mdl_compareTrees_166 ?_
      refine Aw.iload rfl d_Mdl_compareTrees_168 ?_
      refine Aw.iadd d_Mdl_compareTrees_170 ?_
      obtain ⟨o34, o35, h⟩ := h
      refine Aw.iald o6 o34 o35 d_Mdl_compareTrees_171 (fun r36 => ?_)
      have h := h r36
      refine Aw.iload rfl d_Mdl_compareTrees_172 ?_
      obtain ⟨o37, h⟩ := h
      obtain ⟨ht, hf⟩ := h
      refine Aw.icmp_ne (tgt := 181) r36 o37 (by decide) d_Mdl_compareTrees_174 (fun c75 => ?_) (fun c75 => ?_)
      · have h := ht c75
        refine Aw.iconst d_Mdl_compareTrees_181 ?_
        refine Aw.istore (by decide) d_Mdl_compareTrees_182 ?_
        refine Aw.toL (L' := [xr (some a0), xi v1, xi v2, xi v3, xi v4, xi v5, xi v6, xi 0, xu]) rfl ?_
        refine Aw.iload rfl d_Mdl_compareTrees_184 ?_
        refine Aw.if_eq (tgt := 231) ⟨by decide, by decide⟩ (by decide) d_Mdl_compareTrees_186 (fun c58 => ?_) (fun c58 => absurd c58 (by decide))
        refine Aw.aload_n rfl d_Mdl_compareTrees_231 ?_
        obtain ⟨b38, e39, h⟩ := h
        refine Aw.getRs (f := 819) 12 51 fl_Mdl_117 (by decide) (by decide) rfl rfl o3 e39 d_Mdl_compareTrees_232 ?_
        refine Aw.bipush (by decide) d_Mdl_compareTrees_235 ?_
        refine Aw.aload_n rfl d_Mdl_compareTrees_237 ?_
        refine Aw.getRs (f := 816) 12 48 fl_Mdl_108 (by decide) (by decide) rfl rfl o3 e5 d_Mdl_compareTrees_238 ?_
        refine Aw.iload rfl d_Mdl_compareTrees_241 ?_
        refine Aw.iald o6 o7 o8 d_Mdl_compareTrees_243 (fun r40 => ?_)
        have h := h r40
        refine Aw.iconst d_Mdl_compareTrees_244 ?_
        refine Aw.isub d_Mdl_compareTrees_245 ?_
        refine Aw.imul d_Mdl_compareTrees_246 ?_
        refine Aw.aload_n rfl d_Mdl_compareTrees_247 ?_
        refine Aw.getRs (f := 816) 12 48 fl_Mdl_108 (by decide) (by decide) rfl rfl o3 e5 d_Mdl_compareTrees_248 ?_
        refine Aw.bipush (by decide) d_Mdl_compareTrees_251 ?_
        refine Aw.iload rfl d_Mdl_compareTrees_253 ?_
        refine Aw.iadd d_Mdl_compareTrees_255 ?_
        refine Aw.iald o6 o34 o35 d_Mdl_compareTrees_256 (fun r41 => ?_)
        have h := h r41
        refine Aw.iadd d_Mdl_compareTrees_257 ?_
        refine Aw.iconst d_Mdl_compareTrees_258 ?_
        refine Aw.isub d_Mdl_compareTrees_259 ?_
        obtain ⟨o42, h⟩ := h
        obtain ⟨o43, o44, h⟩ := h
        refine Aw.iald o42 o43 o44 d_Mdl_compareTrees_260 (fun r45 => ?_)
        have h := h r45
        refine Aw.aload_n rfl d_Mdl_compareTrees_261 ?_
        obtain ⟨b46, e47, h⟩ := h
        refine Aw.getRs (f := 818) 12 50 fl_Mdl_114 (by decide) (by decide) rfl rfl o3 e47 d_Mdl_compareTrees_262 ?_
        refine Aw.bipush (by decide) d_Mdl_compareTrees_265 ?_
        refine Aw.iload rfl d_Mdl_compareTrees_267 ?_
        refine Aw.imul d_Mdl_compareTrees_269 ?_
        refine Aw.iload rfl d_Mdl_compareTrees_270 ?_
        refine Aw.iadd d_Mdl_compareTrees_272 ?_
        obtain ⟨o48, h⟩ := h
        obtain ⟨o49, o50, h⟩ := h
        refine Aw.iald o48 o49 o50 d_Mdl_compareTrees_273 (fun r51 => ?_)
        have h := h r51
        refine Aw.iadd d_Mdl_compareTrees_274 ?_
        refine Aw.istore (by decide) d_Mdl_compareTrees_275 ?_
        refine Aw.toL (L' := [xr (some a0), xi v1, xi v2, xi v3, xi v4, xi v5, xi v6, xi 0, xi ((aI σ b38 (((22 * ((aI σ b4 (v5).toNat) - 1)) + (aI σ b4 (22 + v6).toNat)) - 1).toNat) + (aI σ b46 ((22 * v5) + v6).toNat))]) rfl ?_
        refine Aw.aload_n rfl d_Mdl_compareTrees_277 ?_
        refine Aw.getRs (f := 819) 12 51 fl_Mdl_117 (by decide) (by decide) rfl rfl o3 e39 d_Mdl_compareTrees_278 ?_
        refine Aw.bipush (by decide) d_Mdl_compareTrees_281 ?_
        refine Aw.iload rfl d_Mdl_compareTrees_283 ?_
        refine Aw.imul d_Mdl_compareTrees_285 ?_
        refine Aw.iload rfl d_Mdl_compareTrees_286 ?_
        refine Aw.iadd d_Mdl_compareTrees_288 ?_
        refine Aw.aload_n rfl d_Mdl_compareTrees_289 ?_
        refine Aw.getRs (f := 819) 12 51 fl_Mdl_117 (by decide) (by decide) rfl rfl o3 e39 d_Mdl_compareTrees_290 ?_
        refine Aw.bipush (by decide) d_Mdl_compareTrees_293 ?_
        refine Aw.iload rfl d_Mdl_compareTrees_295 ?_
        refine Aw.iconst d_Mdl_compareTrees_297 ?_
        refine Aw.isub d_Mdl_compareTrees_298 ?_
        refine Aw.imul d_Mdl_compareTrees_299 ?_
        refine Aw.iload rfl d_Mdl_compareTrees_300 ?_
        refine Aw.iadd d_Mdl_compareTrees_302 ?_
        obtain ⟨o52, o53, h⟩ := h
        refine Aw.iald o42 o52 o53 d_Mdl_compareTrees_303 (fun r54 => ?_)
        have h := h r54
        refine Aw.iconst d_Mdl_compareTrees_304 ?_
        refine Aw.iadd d_Mdl_compareTrees_305 ?_
        refine Aw.aload_n rfl d_Mdl_compareTrees_306 ?_
        refine Aw.getRs (f := 819) 12 51 fl_Mdl_117 (by decide) (by decide) rfl rfl o3 e39 d_Mdl_compareTrees_307 ?_
        refine Aw.bipush (by decide) d_Mdl_compareTrees_310 ?_
        refine Aw.iload rfl d_Mdl_compareTrees_312 ?_
        refine Aw.imul d_Mdl_compareTrees_314 ?_
        refine Aw.iload rfl d_Mdl_compareTrees_315 ?_
        refine Aw.iadd d_Mdl_compareTrees_317 ?_
        refine Aw.iconst d_Mdl_compareTrees_318 ?_
        refine Aw.isub d_Mdl_compareTrees_319 ?_
        obtain ⟨o55, o56, h⟩ := h
        refine Aw.iald o42 o55 o56 d_Mdl_compareTrees_320 (fun r57 => ?_)
        have h := h r57
        refine Aw.iconst d_Mdl_compareTrees_321 ?_
        refine Aw.iadd d_Mdl_compareTrees_322 ?_
        refine Aw.iload rfl d_Mdl_compareTrees_323 ?_
        exact h
      · have h := hf c75
        refine Aw.iconst d_Mdl_compareTrees_177 ?_
        refine Aw.goto (tgt := 182) (by decide) d_Mdl_compareTrees_178 ?_
        refine Aw.istore (by decide) d_Mdl_compareTrees_182 ?_
        refine Aw.toL (L' := [xr (some a0), xi v1, xi v2, xi v3, xi v4, xi v5, xi v6, xi 1, xu]) rfl ?_
        refine Aw.iload rfl d_Mdl_compareTrees_184 ?_
        refine Aw.if_eq (tgt := 231) ⟨by decide, by decide⟩ (by decide) d_Mdl_compareTrees_186 (fun c74 => absurd c74 (by decide)) (fun c74 => ?_)
        refine Aw.aload_n rfl d_Mdl_compareTrees_189 ?_
        obtain ⟨b59, e60, h⟩ := h
        refine Aw.getRs (f := 819) 12 51 fl_Mdl_117 (by decide) (by decide) rfl rfl o3 e60 d_Mdl_compareTrees_190 ?_
        refine Aw.bipush (by decide) d_Mdl_compareTrees_193 ?_
        refine Aw.iload rfl d_Mdl_compareTrees_195 ?_
        refine Aw.iconst d_Mdl_compareTrees_197 ?_
        refine Aw.isub d_Mdl_compareTrees_198 ?_
        refine Aw.imul d_Mdl_compareTrees_199 ?_
        refine Aw.iload rfl d_Mdl_compareTrees_200 ?_
        refine Aw.iadd d_Mdl_compareTrees_202 ?_
        refine Aw.iconst d_Mdl_compareTrees_203 ?_
        refine Aw.isub d_Mdl_compareTrees_204 ?_
        obtain ⟨o61, h⟩ := h
        obtain ⟨o62, o63, h⟩ := h
        refine Aw.iald o61 o62 o63 d_Mdl_compareTrees_205 (fun r64 => ?_)
        have h := h r64
        refine Aw.aload_n rfl d_Mdl_compareTrees_206 ?_
        refine Aw.aload_n rfl d_Mdl_compareTrees_207 ?_
        obtain ⟨b65, e66, h⟩ := h
        refine Aw.getRs (f := 815) 12 47 fl_Mdl_105 (by decide) (by decide) rfl rfl o3 e66 d_Mdl_compareTrees_208 ?_
        refine Aw.iload rfl d_Mdl_compareTrees_211 ?_
        obtain ⟨o67, h⟩ := h
        obtain ⟨o68, o69, h⟩ := h
        refine Aw.iald o67 o68 o69 d_Mdl_compareTrees_213 (fun r70 => ?_)
        have h := h r70
        refine Aw.aload_n rfl d_Mdl_compareTrees_214 ?_
        refine Aw.getRs (f := 815) 12 47 fl_Mdl_105 (by decide) (by decide) rfl rfl o3 e66 d_Mdl_compareTrees_215 ?_
        refine Aw.bipush (by decide) d_Mdl_compareTrees_218 ?_
        refine Aw.iload rfl d_Mdl_compareTrees_220 ?_
        refine Aw.iadd d_Mdl_compareTrees_222 ?_
        obtain ⟨o71, o72, h⟩ := h
        refine Aw.iald o67 o71 o72 d_Mdl_compareTrees_223 (fun r73 => ?_)
        have h := h r73
        exact h
theorem b_Mdl_compareTrees_227 {Ω : Om} {R : Room} {F : QF} {k n : Nat} {σ : Sto} {a0 : Nat} {v1 : Int} {v2 : Int} {v3 : Int} {v4 : Int} {v5 : Int} {v6 : Int} {v7 : Int} {s0 : Int} {s1 : Int} (h : sK σ a0 = 13 ∧ (∃ b2 : Nat, fR σ 819 a0 = some b2 ∧ sK σ b2 = 50 ∧ 0 ≤ ((22 * (v5 - 1)) + v6) ∧ ((22 * (v5 - 1)) + v6) < sZ σ b2 ∧ (Q32 (aI σ b2 ((22 * (v5 - 1)) + v6).toNat) → 0 ≤ (((22 * v5) + v6) - 1) ∧ (((22 * v5) + v6) - 1) < sZ σ b2 ∧ (Q32 (aI σ b2 (((22 * v5) + v6) - 1).toNat) → Aw Ω M_Mdl_compareTrees R F k n 325 [xr (some a0), xi v1, xi v2, xi v3, xi v4, xi v5, xi v6, xi v7, xi (s0 + s1)] [xi (s0 + s1), xi ((aI σ b2 (((22 * v5) + v6) - 1).toNat) + 1), xi ((aI σ b2 ((22 * (v5 - 1)) + v6).toNat) + 1), xi ((22 * v5) + v6), xr (some b2)] σ)))) : Aw Ω M_Mdl_compareTrees R F k n 227 [xr (some a0), xi v1, xi v2, xi v3, xi v4, xi v5, xi v6, xi v7, xu] [xi s1, xi s0] σ := by
  refine Aw.iadd d_Mdl_compareTrees_227 ?_
  refine Aw.goto (tgt := 275) (by decide) d_Mdl_compareTrees_228 ?_
  refine Aw.istore (by decide) d_Mdl_compareTrees_275 ?_
  refine Aw.toL (L' := [xr (some a0), xi v1, xi v2, xi v3, xi v4, xi v5, xi v6, xi v7, xi (s0 + s1)]) rfl ?_
  refine Aw.aload_n rfl d_Mdl_compareTrees_277 ?_
  obtain ⟨o1, h⟩ := h
  obtain ⟨b2, e3, h⟩ := h
  refine Aw.getRs (f := 819) 12 51 fl_Mdl_117 (by decide) (by decide) rfl rfl o1 e3 d_Mdl_compareTrees_278 ?_
  refine Aw.bipush (by decide) d_Mdl_compareTrees_281 ?_
  refine Aw.iload rfl d_Mdl_compareTrees_283 ?_
  refine Aw.imul d_Mdl_compareTrees_285 ?_
  refine Aw.iload rfl d_Mdl_compareTrees_286 ?_
  refine Aw.iadd d_Mdl_compareTrees_288 ?_
  refine Aw.aload_n rfl d_Mdl_compareTrees_289 ?_
  refine Aw.getRs (f := 819) 12 51 fl_Mdl_117 (by decide) (by decide) rfl rfl o1 e3 d_Mdl_compareTrees_290 ?_
  refine Aw.bipush (by decide) d_Mdl_compareTrees_293 ?_
  refine Aw.iload rfl d_Mdl_compareTrees_295 ?_
  refine Aw.iconst d_Mdl_compareTrees_297 ?_
  refine Aw.isub d_Mdl_compareTrees_298 ?_
  refine Aw.imul d_Mdl_compareTrees_299 ?_
  refine Aw.iload rfl d_Mdl_compareTrees_300 ?_
  refine Aw.iadd d_Mdl_compareTrees_302 ?_
  obtain ⟨o4, h⟩ := h
  obtain ⟨o5, o6, h⟩ := h
  refine Aw.iald o4 o5 o6 d_Mdl_compareTrees_303 (fun r7 => ?_)
  have h := h r7
  refine Aw.iconst d_Mdl_compareTrees_304 ?_
  refine Aw.iadd d_Mdl_compareTrees_305 ?_
  refine Aw.aload_n rfl d_Mdl_compareTrees_306 ?_
  refine Aw.getRs (f := 819) 12 51 fl_Mdl_117 (by decide) (by decide) rfl rfl o1 e3 d_Mdl_compareTrees_307 ?_
  refine Aw.bipush (by decide) d_Mdl_compareTrees_310 ?_
  refine Aw.iload rfl d_Mdl_compareTrees_312 ?_
  refine Aw.imul d_Mdl_compareTrees_314 ?_
  refine Aw.iload rfl d_Mdl_compareTrees_315 ?_
  refine Aw.iadd d_Mdl_compareTrees_317 ?_
  refine Aw.iconst d_Mdl_compareTrees_318 ?_
  refine Aw.isub d_Mdl_compareTrees_319 ?_
  obtain ⟨o8, o9, h⟩ := h
  refine Aw.iald o4 o8 o9 d_Mdl_compareTrees_320 (fun r10 => ?_)
  have h := h r10
  refine Aw.iconst d_Mdl_compareTrees_321 ?_
  refine Aw.iadd d_Mdl_compareTrees_322 ?_
  refine Aw.iload rfl d_Mdl_compareTrees_323 ?_
  exact h
theorem b_Mdl_compareTrees_328 {Ω : Om} {R : Room} {F : QF} {k n : Nat} {σ : Sto} {a0 : Nat} {v1 : Int} {v2 : Int} {v3 : Int} {v4 : Int} {v5 : Int} {v6 : Int} {v7 : Int} {v8 : Int} {s0 : Nat} {s1 : Int} {s2 : Int} (h : sK σ s0 = 50 ∧ 0 ≤ s1 ∧ s1 < sZ σ s0 ∧ Q32 s2 ∧ Aw Ω M_Mdl_compareTrees R F k n 329 [xr (some a0), xi v1, xi v2, xi v3, xi v4, xi v5, xi v6, xi v7, xi v8] [] (vI σ s0 (s1).toNat s2)) : Aw Ω M_Mdl_compareTrees R F k n 328 [xr (some a0), xi v1, xi v2, xi v3, xi v4, xi v5, xi v6, xi v7, xi v8] [xi s2, xi s1, xr (some s0)] σ := by
  obtain ⟨o1, h⟩ := h
  obtain ⟨o2, o3, h⟩ := h
  obtain ⟨o4, h⟩ := h
  refine Aw.iast o1 o2 o3 o4 d_Mdl_compareTrees_328 ?_
  exact h
theorem b_Mdl_compareTrees_329 {Ω : Om} {R : Room} {F : QF} {k n : Nat} {σ : Sto} {a0 : Nat} {v1 : Int} {v2 : Int} {v3 : Int} {v4 : Int} {v5 : Int} {v6 : Int} {v7 : Int} {v8 : Int} (h : sK σ a0 = 13 ∧ (∃ b2 : Nat, fR σ 818 a0 = some b2 ∧ Q32 v7 ∧ ((v7 = (0 : Int) → sK σ b2 = 50 ∧ 0 ≤ ((22 * v5) + v6) ∧ ((22 * v5) + v6) < sZ σ b2 ∧ (Q32 (aI σ b2 ((22 * v5) + v6).toNat) → Aw Ω M_Mdl_compareTrees R F k n 145 [xr (some a0), xi v1, xi v2, xi v3, xi v4, xi v5, xi (v6 + 1), xu, xu] [] (vI σ b2 ((22 * v5) + v6).toNat (aI σ b2 ((22 * v5) + v6).toNat)))) ∧ (¬ v7 = (0 : Int) → (∃ b9 : Nat, fR σ 819 a0 = some b9 ∧ sK σ b9 = 50 ∧ 0 ≤ ((22 * v5) + v6) ∧ ((22 * v5) + v6) < sZ σ b9 ∧ (Q32 (aI σ b9 ((22 * v5) + v6).toNat) → sK σ b2 = 50 ∧ 0 ≤ ((22 * v5) + v6) ∧ ((22 * v5) + v6) < sZ σ b2 ∧ Aw Ω M_Mdl_compareTrees R F k n 145 [xr (some a0), xi v1, xi v2, xi v3, xi v4, xi v5, xi (v6 + 1), xu, xu] [] (vI σ b2 ((22 * v5) + v6).toNat (aI σ b9 ((22 * v5) + v6).toNat)))))))) : Aw Ω M_Mdl_compareTrees R F k n 329 [xr (some a0), xi v1, xi v2, xi v3, xi v4, xi v5, xi v6, xi v7, xi v8] [] σ := by
  refine Aw.aload_n rfl d_Mdl_compareTrees_329 ?_
  obtain ⟨o1, h⟩ := h
  obtain ⟨b2, e3, h⟩ := h
  refine Aw.getRs (f := 818) 12 50 fl_Mdl_114 (by decide) (by decide) rfl rfl o1 e3 d_Mdl_compareTrees_330 ?_
  refine Aw.bipush (by decide) d_Mdl_compareTrees_333 ?_
  refine Aw.iload rfl d_Mdl_compareTrees_335 ?_
  refine Aw.imul d_Mdl_compareTrees_337 ?_
  refine Aw.iload rfl d_Mdl_compareTrees_338 ?_
  refine Aw.iadd d_Mdl_compareTrees_340 ?_
  refine Aw.iload rfl d_Mdl_compareTrees_341 ?_
  obtain ⟨o4, h⟩ := h
  obtain ⟨ht, hf⟩ := h
  refine Aw.if_eq (tgt := 362) o4 (by decide) d_Mdl_compareTrees_343 (fun c18 => ?_) (fun c18 => ?_)
  · have h := ht c18
    refine Aw.aload_n rfl d_Mdl_compareTrees_362 ?_
    refine Aw.getRs (f := 818) 12 50 fl_Mdl_114 (by decide) (by decide) rfl rfl o1 e3 d_Mdl_compareTrees_363 ?_
    refine Aw.bipush (by decide) d_Mdl_compareTrees_366 ?_
    refine Aw.iload rfl d_Mdl_compareTrees_368 ?_
    refine Aw.imul d_Mdl_compareTrees_370 ?_
    refine Aw.iload rfl d_Mdl_compareTrees_371 ?_
    refine Aw.iadd d_Mdl_compareTrees_373 ?_
    obtain ⟨o5, h⟩ := h
    obtain ⟨o6, o7, h⟩ := h
    refine Aw.iald o5 o6 o7 d_Mdl_compareTrees_374 (fun r8 => ?_)
    have h := h r8
    refine Aw.iast o5 o6 o7 r8 d_Mdl_compareTrees_375 ?_
    refine Aw.iinc rfl d_Mdl_compareTrees_376 ?_
    refine Aw.toL (L' := [xr (some a0), xi v1, xi v2, xi v3, xi v4, xi v5, xi (v6 + 1), xi v7, xi v8]) rfl ?_
    refine Aw.goto (tgt := 145) (by decide) d_Mdl_compareTrees_379 ?_
    exact Aw.toW (L' := [xr (some a0), xi v1, xi v2, xi v3, xi v4, xi v5, xi (v6 + 1), xu, xu]) ⟨Or.inr rfl, Or.inr rfl, Or.inr rfl, Or.inr rfl, Or.inr rfl, Or.inr rfl, Or.inr rfl, Or.inl rfl, Or.inl rfl, trivial⟩ h
  · have h := hf c18
    refine Aw.aload_n rfl d_Mdl_compareTrees_346 ?_
    obtain ⟨b9, e10, h⟩ := h
    refine Aw.getRs (f := 819) 12 51 fl_Mdl_117 (by decide) (by decide) rfl rfl o1 e10 d_Mdl_compareTrees_347 ?_
    refine Aw.bipush (by decide) d_Mdl_compareTrees_350 ?_
    refine Aw.iload rfl d_Mdl_compareTrees_352 ?_
    refine Aw.imul d_Mdl_compareTrees_354 ?_
    refine Aw.iload rfl d_Mdl_compareTrees_355 ?_
    refine Aw.iadd d_Mdl_compareTrees_357 ?_
    obtain ⟨o11, h⟩ := h
    obtain ⟨o12, o13, h⟩ := h
    refine Aw.iald o11 o12 o13 d_Mdl_compareTrees_358 (fun r14 => ?_)
    have h := h r14
    refine Aw.goto (tgt := 375) (by decide) d_Mdl_compareTrees_359 ?_
    obtain ⟨o15, h⟩ := h
    obtain ⟨o16, o17, h⟩ := h
    refine Aw.iast o15 o16 o17 r14 d_Mdl_compareTrees_375 ?_
    refine Aw.iinc rfl d_Mdl_compareTrees_376 ?_
    refine Aw.toL (L' := [xr (some a0), xi v1, xi v2, xi v3, xi v4, xi v5, xi (v6 + 1), xi v7, xi v8]) rfl ?_
    refine Aw.goto (tgt := 145) (by decide) d_Mdl_compareTrees_379 ?_
    exact Aw.toW (L' := [xr (some a0), xi v1, xi v2, xi v3, xi v4, xi v5, xi (v6 + 1), xu, xu]) ⟨Or.inr rfl, Or.inr rfl, Or.inr rfl, Or.inr rfl, Or.inr rfl, Or.inr rfl, Or.inr rfl, Or.inl rfl, Or.inl rfl, trivial⟩ h
theorem c_Mdl_compareTrees_224 {Ω : Om} {R R' : Room} {F : QF} {k n : Nat} {L st : List PV} {σ : Sto} {QX' : String → Sto → Prop} {Q : Int → Sto → Prop} {a : Nat} {x0 : Int} {x1 : Int} (hc : MC Ω M_Mdl_changes R' (RI Q) QX' σ [xr (some a), xi x0, xi x1]) (hk : sK σ a = 13) (hr1 : R'.frames + 1 ≤ R.frames) (hr2 : 8 + (7 + 11) + R'.locals ≤ R.locals) (hb1 : k + R'.cells ≤ R.cells) (hb2 : n + R'.slots ≤ R.slots) (hst : (st.map catP).sum ≤ 8) (kk : ∀ x σ', Q x σ' → Aw Ω M_Mdl_compareTrees R F (k + R'.cells) (n + R'.slots) 227 L (xi x :: st) σ') (kx : ∀ E σ', QX' E σ' → Ax Ω M_Mdl_compareTrees R F (k + R'.cells) (n + R'.slots) 224 L st σ' E) : Aw Ω M_Mdl_compareTrees R F k n 224 L (xi x1 :: xi x0 :: xr (some a) :: st) σ :=
  Aw.callV (As := [xi x0, xi x1]) (stk := xi x1 :: xi x0 :: xr (some a) :: st) (nn := 2) 12 M_Mdl_changes hc ok_Mdl_changes rfl (by decide) rfl hk ml_Mdl_274 im_Mdl_changes se_Mdl_changes ⟨hr1, hr2⟩ rfl ⟨hb1, hb2⟩ hst rfl d_Mdl_compareTrees_224 (fun r σ' h => by obtain ⟨x, rfl, h⟩ := h; exact kk x σ' h) kx
theorem c_Mdl_compareTrees_325 {Ω : Om} {R R' : Room} {F : QF} {k n : Nat} {L st : List PV} {σ : Sto} {QX' : String → Sto → Prop} {Q : Int → Sto → Prop} {x0 : Int} {x1 : Int} {x2 : Int} (hc : MC Ω M_Mdl_least R' (RI Q) QX' σ [xi x0, xi x1, xi x2]) (hr1 : R'.frames + 1 ≤ R.frames) (hr2 : 8 + (4 + 11) + R'.locals ≤ R.locals) (hb1 : k + R'.cells ≤ R.cells) (hb2 : n + R'.slots ≤ R.slots) (hst : (st.map catP).sum ≤ 8) (kk : ∀ x σ', Q x σ' → Aw Ω M_Mdl_compareTrees R F (k + R'.cells) (n + R'.slots) 328 L (xi x :: st) σ') (kx : ∀ E σ', QX' E σ' → Ax Ω M_Mdl_compareTrees R F (k + R'.cells) (n + R'.slots) 325 L st σ' E) : Aw Ω M_Mdl_compareTrees R F k n 325 L (xi x2 :: xi x1 :: xi x0 :: st) σ :=
  Aw.callS (As := [xi x0, xi x1, xi x2]) (stk := xi x2 :: xi x1 :: xi x0 :: st) (nn := 3) M_Mdl_least hc ok_Mdl_least rfl ml_Mdl_278 sta_Mdl_least ⟨hr1, hr2⟩ rfl ⟨hb1, hb2⟩ hst rfl d_Mdl_compareTrees_325 (fun r σ' h => by obtain ⟨x, rfl, h⟩ := h; exact kk x σ' h) kx
theorem r_Mdl_compareTrees_388 {Ω : Om} {R : Room} {k n : Nat} {L : List PV} {σ : Sto} {QR : Option PV → Sto → Prop} {QX : String → Sto → Prop} (h : QR none σ) (h1 : k ≤ R.cells) (h2 : n ≤ R.slots) : Aw Ω M_Mdl_compareTrees R (MF Ω R QR QX) k n 388 L [] σ := Aw.vret rfl h h1 h2 d_Mdl_compareTrees_388
theorem e_Mdl_findMove {Ω : Om} {R : Room} {QR : Option PV → Sto → Prop} {QX : String → Sto → Prop} {σ : Sto} {a0 : Nat} {v1 : Int} {v2 : Int} {v3 : Int} (h : Aw Ω M_Mdl_findMove R (MF Ω R QR QX) 0 0 0 [xr (some a0), xi v1, xi v2, xi v3, xu, xu, xu, xu, xu, xu, xu] [] σ) : MC Ω M_Mdl_findMove R QR QX σ [xr (some a0), xi v1, xi v2, xi v3] := MC.body (by decide +kernel) rfl (Nat.le_of_ble_eq_true rfl) rfl h
theorem b_Mdl_findMove_0 {Ω : Om} {R : Room} {F : QF} {k n : Nat} {σ : Sto} {a0 : Nat} {v1 : Int} {v2 : Int} {v3 : Int} (h : Aw Ω M_Mdl_findMove R F k n 12 [xr (some a0), xi v1, xi v2, xi v3, xi 0, xi 0, xi 0, xi 0, xu, xu, xu] [] σ) : Aw Ω M_Mdl_findMove R F k n 0 [xr (some a0), xi v1, xi v2, xi v3, xu, xu, xu, xu, xu, xu, xu] [] σ := by
  refine Aw.iconst d_Mdl_findMove_0 ?_
  refine Aw.istore (by decide) d_Mdl_findMove_1 ?_
  refine Aw.toL (L' := [xr (some a0), xi v1, xi v2, xi v3, xi 0, xu, xu, xu, xu, xu, xu]) rfl ?_
  refine Aw.iconst d_Mdl_findMove_3 ?_
  refine Aw.istore (by decide) d_Mdl_findMove_4 ?_
  refine Aw.toL (L' := [xr (some a0), xi v1, xi v2, xi v3, xi 0, xi 0, xu, xu, xu, xu, xu]) rfl ?_
  refine Aw.iconst d_Mdl_findMove_6 ?_
  refine Aw.istore (by decide) d_Mdl_findMove_7 ?_
  refine Aw.toL (L' := [xr (some a0), xi v1, xi v2, xi v3, xi 0, xi 0, xi 0, xu, xu, xu, xu]) rfl ?_
  refine Aw.iconst d_Mdl_findMove_9 ?_
  refine Aw.istore (by decide) d_Mdl_findMove_10 ?_
  refine Aw.toL (L' := [xr (some a0), xi v1, xi v2, xi v3, xi 0, xi 0, xi 0, xi 0, xu, xu, xu]) rfl ?_
  exact h
theorem b_Mdl_findMove_12 {Ω : Om} {R : Room} {F : QF} {k n : Nat} {σ : Sto} {a0 : Nat} {v1 : Int} {v2 : Int} {v3 : Int} {v4 : Int} {v5 : Int} {v6 : Int} {v7 : Int} (h : sK σ a0 = 13 ∧ (∃ b2 : Nat, fR σ 774 a0 = some b2 ∧ sK σ b2 = 50 ∧ 0 ≤ v1 ∧ v1 < sZ σ b2 ∧ (Q32 (aI σ b2 (v1).toNat) → Q32 v7 ∧ (((aI σ b2 (v1).toNat) ≤ v7 → Aw Ω M_Mdl_findMove R F k n 234 [xr (some a0), xi v1, xi v2, xi v3, xi v4, xi v5, xi v6, xi 0, xu, xu, xu] [] σ) ∧ (¬ (aI σ b2 (v1).toNat) ≤ v7 → Aw Ω M_Mdl_findMove R F k n 26 [xr (some a0), xi v1, xi v2, xi v3, xi v4, xi v5, xi v6, xi v7, xi 0, xu, xu] [] σ))))) : Aw Ω M_Mdl_findMove R F k n 12 [xr (some a0), xi v1, xi v2, xi v3, xi v4, xi v5, xi v6, xi v7, xu, xu, xu] [] σ := by
  refine Aw.iload rfl d_Mdl_findMove_12 ?_
  refine Aw.aload_n rfl d_Mdl_findMove_14 ?_
  obtain ⟨o1, h⟩ := h
  obtain ⟨b2, e3, h⟩ := h
  refine Aw.getRs (f := 774) 12 6 fl_Mdl_20 (by decide) (by decide) rfl rfl o1 e3 d_Mdl_findMove_15 ?_
  refine Aw.iload_n rfl d_Mdl_findMove_18 ?_
  obtain ⟨o4, h⟩ := h
  obtain ⟨o5, o6, h⟩ := h
  refine Aw.iald o4 o5 o6 d_Mdl_findMove_19 (fun r7 => ?_)
  have h := h r7
  obtain ⟨o8, h⟩ := h
  obtain ⟨ht, hf⟩ := h
  refine Aw.icmp_ge (tgt := 231) o8 r7 (by decide) d_Mdl_findMove_20 (fun c9 => ?_) (fun c9 => ?_)
  · have h := ht c9
    refine Aw.iconst d_Mdl_findMove_231 ?_
    refine Aw.istore (by decide) d_Mdl_findMove_232 ?_
    refine Aw.toL (L' := [xr (some a0), xi v1, xi v2, xi v3, xi v4, xi v5, xi v6, xi 0, xu, xu, xu]) rfl ?_
    exact h
  · have h := hf c9
    refine Aw.iconst d_Mdl_findMove_23 ?_
    refine Aw.istore (by decide) d_Mdl_findMove_24 ?_
    refine Aw.toL (L' := [xr (some a0), xi v1, xi v2, xi v3, xi v4, xi v5, xi v6, xi v7, xi 0, xu, xu]) rfl ?_
    exact h
theorem b_Mdl_findMove_26 {Ω : Om} {R : Room} {F : QF} {k n : Nat} {σ : Sto} {a0 : Nat} {v1 : Int} {v2 : Int} {v3 : Int} {v4 : Int} {v5 : Int} {v6 : Int} {v7 : Int} {v8 : Int} (h : sK σ a0 = 13 ∧ (∃ b2 : Nat, fR σ 774 a0 = some b2 ∧ sK σ b2 = 50 ∧ 0 ≤ v2 ∧ v2 < sZ σ b2 ∧ (Q32 (aI σ b2 (v2).toNat) → Q32 v8 ∧ (((aI σ b2 (v2).toNat) ≤ v8 → Aw Ω M_Mdl_findMove R F k n 12 [xr (some a0), xi v1, xi v2, xi v3, xi v4, xi v5, xi v6, xi (v7 + 1), xu, xu, xu] [] σ) ∧ (¬ (aI σ b2 (v2).toNat) ≤ v8 → Aw Ω M_Mdl_findMove R F k n 40 [xr (some a0), xi v1, xi v2, xi v3, xi v4, xi v5, xi v6, xi v7, xi v8, xi 0, xu] [] σ))))) : Aw Ω M_Mdl_findMove R F k n 26 [xr (some a0), xi v1, xi v2, xi v3, xi v4, xi v5, xi v6, xi v7, xi v8, xu, xu] [] σ := by
  refine Aw.iload rfl d_Mdl_findMove_26 ?_
  refine Aw.aload_n rfl d_Mdl_findMove_28 ?_
  obtain ⟨o1, h⟩ := h
  obtain ⟨b2, e3, h⟩ := h
  refine Aw.getRs (f := 774) 12 6 fl_Mdl_20 (by decide) (by decide) rfl rfl o1 e3 d_Mdl_findMove_29 ?_
  refine Aw.iload_n rfl d_Mdl_findMove_32 ?_
  obtain ⟨o4, h⟩ := h
  obtain ⟨o5, o6, h⟩ := h
  refine Aw.iald o4 o5 o6 d_Mdl_findMove_33 (fun r7 => ?_)
  have h := h r7
  obtain ⟨o8, h⟩ := h
  obtain ⟨ht, hf⟩ := h
  refine Aw.icmp_ge (tgt := 225) o8 r7 (by decide) d_Mdl_findMove_34 (fun c9 => ?_) (fun c9 => ?_)
  · have h := ht c9
    refine Aw.iinc rfl d_Mdl_findMove_225 ?_
    refine Aw.toL (L' := [xr (some a0), xi v1, xi v2, xi v3, xi v4, xi v5, xi v6, xi (v7 + 1), xi v8, xu, xu]) rfl ?_
    refine Aw.goto (tgt := 12) (by decide) d_Mdl_findMove_228 ?_
    exact Aw.toW (L' := [xr (some a0), xi v1, xi v2, xi v3, xi v4, xi v5, xi v6, xi (v7 + 1), xu, xu, xu]) ⟨Or.inr rfl, Or.inr rfl, Or.inr rfl, Or.inr rfl, Or.inr rfl, Or.inr rfl, Or.inr rfl, Or.inr rfl, Or.inl rfl, Or.inr rfl, Or.inr rfl, trivial⟩ h
  · have h := hf c9
    refine Aw.iconst d_Mdl_findMove_37 ?_
    refine Aw.istore (by decide) d_Mdl_findMove_38 ?_
    refine Aw.toL (L' := [xr (some a0), xi v1, xi v2, xi v3, xi v4, xi v5, xi v6, xi v7, xi v8, xi 0, xu]) rfl ?_
    exact h
theorem b_Mdl_findMove_40 {Ω : Om} {R : Room} {F : QF} {k n : Nat} {σ : Sto} {a0 : Nat} {v1 : Int} {v2 : Int} {v3 : Int} {v4 : Int} {v5 : Int} {v6 : Int} {v7 : Int} {v8 : Int} {v9 : Int} (h : sK σ a0 = 13 ∧ (∃ b2 : Nat, fR σ 774 a0 = some b2 ∧ sK σ b2 = 50 ∧ 0 ≤ v1 ∧ v1 < sZ σ b2 ∧ (Q32 (aI σ b2 (v1).toNat) → Q32 (v7 + v9) ∧ (((aI σ b2 (v1).toNat) ≤ (v7 + v9) → Aw Ω M_Mdl_findMove R F k n 152 [xr (some a0), xi v1, xi v2, xi v3, xi v4, xi v5, xi v6, xi v7, xi v8, xi v9, xu] [] σ) ∧ (¬ (aI σ b2 (v1).toNat) ≤ (v7 + v9) → 0 ≤ v2 ∧ v2 < sZ σ b2 ∧ (Q32 (aI σ b2 (v2).toNat) → Q32 (v8 + v9) ∧ (((aI σ b2 (v2).toNat) ≤ (v8 + v9) → Aw Ω M_Mdl_findMove R F k n 152 [xr (some a0), xi v1, xi v2, xi v3, xi v4, xi v5, xi v6, xi v7, xi v8, xi v9, xu] [] σ) ∧ (¬ (aI σ b2 (v2).toNat) ≤ (v8 + v9) → (∃ b13 : Nat, fR σ 795 a0 = some b13 ∧ sK σ b13 = 50 ∧ 0 ≤ (v7 + v9) ∧ (v7 + v9) < sZ σ b13 ∧ (Q32 (aI σ b13 (v7 + v9).toNat) → ((¬ (aI σ b13 (v7 + v9).toNat) = (-1 : Int) → Aw Ω M_Mdl_findMove R F k n 152 [xr (some a0), xi v1, xi v2, xi v3, xi v4, xi v5, xi v6, xi v7, xi v8, xi v9, xu] [] σ) ∧ ((aI σ b13 (v7 + v9).toNat) = (-1 : Int) → (∃ b19 : Nat, fR σ 796 a0 = some b19 ∧ sK σ b19 = 50 ∧ 0 ≤ (v7 + v9) ∧ (v7 + v9) < sZ σ b19 ∧ (Q32 (aI σ b19 (v7 + v9).toNat) → ((¬ (aI σ b19 (v7 + v9).toNat) = (-1 : Int) → Aw Ω M_Mdl_findMove R F k n 152 [xr (some a0), xi v1, xi v2, xi v3, xi v4, xi v5, xi v6, xi v7, xi v8, xi v9, xu] [] σ) ∧ ((aI σ b19 (v7 + v9).toNat) = (-1 : Int) → Aw Ω M_Mdl_findMove R F k n 102 [xr (some a0), xi v1, xi v2, xi v3, xi v4, xi v5, xi v6, xi v7, xi v8, xi v9, xu] [xi (v8 + v9), xr (some a0)] σ)))))))))))))))) : Aw Ω M_Mdl_findMove R F k n 40 [xr (some a0), xi v1, xi v2, xi v3, xi v4, xi v5, xi v6, xi v7, xi v8, xi v9, xu] [] σ := by
  refine Aw.iload rfl d_Mdl_findMove_40 ?_
  refine Aw.iload rfl d_Mdl_findMove_42 ?_
  refine Aw.iadd d_Mdl_findMove_44 ?_
  refine Aw.aload_n rfl d_Mdl_findMove_45 ?_
  obtain ⟨o1, h⟩ := h
  obtain ⟨b2, e3, h⟩ := h
  refine Aw.getRs (f := 774) 12 6 fl_Mdl_20 (by decide) (by decide) rfl rfl o1 e3 d_Mdl_findMove_46 ?_
  refine Aw.iload_n rfl d_Mdl_findMove_49 ?_
  obtain ⟨o4, h⟩ := h
  obtain ⟨o5, o6, h⟩ := h
  refine Aw.iald o4 o5 o6 d_Mdl_findMove_50 (fun r7 => ?_)
  have h := h r7
  obtain ⟨o8, h⟩ := h
  obtain ⟨ht, hf⟩ := h
  refine Aw.icmp_ge (tgt := 152) o8 r7 (by decide) d_Mdl_findMove_51 (fun c28 => ?_) (fun c28 => ?_)
  · have h := ht c28
    exact h
  · have h := hf c28
    refine Aw.iload rfl d_Mdl_findMove_54 ?_
    refine Aw.iload rfl d_Mdl_findMove_56 ?_
    refine Aw.iadd d_Mdl_findMove_58 ?_
    refine Aw.aload_n rfl d_Mdl_findMove_59 ?_
    refine Aw.getRs (f := 774) 12 6 fl_Mdl_20 (by decide) (by decide) rfl rfl o1 e3 d_Mdl_findMove_60 ?_
    refine Aw.iload_n rfl d_Mdl_findMove_63 ?_
    obtain ⟨o9, o10, h⟩ := h
    refine Aw.iald o4 o9 o10 d_Mdl_findMove_64 (fun r11 => ?_)
    have h := h r11
    obtain ⟨o12, h⟩ := h
    obtain ⟨ht, hf⟩ := h
    refine Aw.icmp_ge (tgt := 152) o12 r11 (by decide) d_Mdl_findMove_65 (fun c27 => ?_) (fun c27 => ?_)
    · have h := ht c27
      exact h
    · have h := hf c27
      refine Aw.aload_n rfl d_Mdl_findMove_68 ?_
      obtain ⟨b13, e14, h⟩ := h
      refine Aw.getRs (f := 795) 12 27 fl_Mdl_53 (by decide) (by decide) rfl rfl o1 e14 d_Mdl_findMove_69 ?_
      refine Aw.iload rfl d_Mdl_findMove_72 ?_
      refine Aw.iload rfl d_Mdl_findMove_74 ?_
      refine Aw.iadd d_Mdl_findMove_76 ?_
      obtain ⟨o15, h⟩ := h
      obtain ⟨o16, o17, h⟩ := h
      refine Aw.iald o15 o16 o17 d_Mdl_findMove_77 (fun r18 => ?_)
      have h := h r18
      refine Aw.iconst d_Mdl_findMove_78 ?_
      obtain ⟨ht, hf⟩ := h
      refine Aw.icmp_ne (tgt := 152) r18 ⟨by decide, by decide⟩ (by decide) d_Mdl_findMove_79 (fun c26 => ?_) (fun c26 => ?_)
      · have h := ht c26
        exact h
      · have h := hf c26
        refine Aw.aload_n rfl d_Mdl_findMove_82 ?_
        obtain ⟨b19, e20, h⟩ := h
        refine Aw.getRs (f := 796) 12 28 fl_Mdl_56 (by decide) (by decide) rfl rfl o1 e20 d_Mdl_findMove_83 ?_
        refine Aw.iload rfl d_Mdl_findMove_86 ?_
        refine Aw.iload rfl d_Mdl_findMove_88 ?_
        refine Aw.iadd d_Mdl_findMove_90 ?_
        obtain ⟨o21, h⟩ := h
        obtain ⟨o22, o23, h⟩ := h
        refine Aw.iald o21 o22 o23 d_Mdl_findMove_91 (fun r24 => ?_)
        have h := h r24
        refine Aw.iconst d_Mdl_findMove_92 ?_
        obtain ⟨ht, hf⟩ := h
        refine Aw.icmp_ne (tgt := 152) r24 ⟨by decide, by decide⟩ (by decide) d_Mdl_findMove_93 (fun c25 => ?_) (fun c25 => ?_)
        · have h := ht c25
          exact h
        · have h := hf c25
          refine Aw.aload_n rfl d_Mdl_findMove_96 ?_
          refine Aw.iload rfl d_Mdl_findMove_97 ?_
          refine Aw.iload rfl d_Mdl_findMove_99 ?_
          refine Aw.iadd d_Mdl_findMove_101 ?_
          exact h
theorem b_Mdl_findMove_105 {Ω : Om} {R : Room} {F : QF} {k n : Nat} {σ : Sto} {a0 : Nat} {v1 : Int} {v2 : Int} {v3 : Int} {v4 : Int} {v5 : Int} {v6 : Int} {v7 : Int} {v8 : Int} {v9 : Int} {s0 : Int} (h : Q32 s0 ∧ ((¬ s0 = (0 : Int) → Q32 v9 ∧ (((1 : Int) < v9 → Q32 v4 ∧ ((v9 ≤ v4 → Aw Ω M_Mdl_findMove R F k n 26 [xr (some a0), xi v1, xi v2, xi v3, xi v4, xi v5, xi v6, xi v7, xi (v8 + 1), xu, xu] [] σ) ∧ (¬ v9 ≤ v4 → Aw Ω M_Mdl_findMove R F k n 26 [xr (some a0), xi v1, xi v2, xi v3, xi v9, xi v7, xi v8, xi v7, xi (v8 + 1), xu, xu] [] σ))) ∧ (¬ (1 : Int) < v9 → ((¬ v9 = (1 : Int) → Aw Ω M_Mdl_findMove R F k n 26 [xr (some a0), xi v1, xi v2, xi v3, xi v4, xi v5, xi v6, xi v7, xi (v8 + 1), xu, xu] [] σ) ∧ (v9 = (1 : Int) → sK σ a0 = 13 ∧ (∃ b8 : Nat, fR σ 770 a0 = some b8 ∧ (∃ b10 : Nat, fR σ 775 a0 = some b10 ∧ sK σ b10 = 50 ∧ 0 ≤ ((20 * v1) + v7) ∧ ((20 * v1) + v7) < sZ σ b10 ∧ (Q32 (aI σ b10 ((20 * v1) + v7).toNat) → sK σ b8 = 51 ∧ 0 ≤ (aI σ b10 ((20 * v1) + v7).toNat) ∧ (aI σ b10 ((20 * v1) + v7).toNat) < sZ σ b8 ∧ Aw Ω M_Mdl_findMove R F k n 181 [xr (some a0), xi v1, xi v2, xi v3, xi v4, xi v5, xi v6, xi v7, xi v8, xi v9, xu] [xl (aL σ b8 (aI σ b10 ((20 * v1) + v7).toNat).toNat)] σ)))))))) ∧ (s0 = (0 : Int) → sK σ a0 = 13 ∧ (∃ b22 : Nat, fR σ 775 a0 = some b22 ∧ sK σ b22 = 50 ∧ 0 ≤ (((20 * v1) + v7) + v9) ∧ (((20 * v1) + v7) + v9) < sZ σ b22 ∧ (Q32 (aI σ b22 (((20 * v1) + v7) + v9).toNat) → 0 ≤ (((20 * v2) + v8) + v9) ∧ (((20 * v2) + v8) + v9) < sZ σ b22 ∧ (Q32 (aI σ b22 (((20 * v2) + v8) + v9).toNat) → Aw Ω M_Mdl_findMove R F k n 140 [xr (some a0), xi v1, xi v2, xi v3, xi v4, xi v5, xi v6, xi v7, xi v8, xi v9, xu] [xi v3, xi (aI σ b22 (((20 * v2) + v8) + v9).toNat), xi (aI σ b22 (((20 * v1) + v7) + v9).toNat), xr (some a0)] σ)))))) : Aw Ω M_Mdl_findMove R F k n 105 [xr (some a0), xi v1, xi v2, xi v3, xi v4, xi v5, xi v6, xi v7, xi v8, xi v9, xu] [xi s0] σ := by
  obtain ⟨o1, h⟩ := h
  obtain ⟨ht, hf⟩ := h
  refine Aw.if_ne (tgt := 152) o1 (by decide) d_Mdl_findMove_105 (fun c31 => ?_) (fun c31 => ?_)
  · have h := ht c31
    refine Aw.iload rfl d_Mdl_findMove_152 ?_
    refine Aw.iconst d_Mdl_findMove_154 ?_
    obtain ⟨o2, h⟩ := h
    obtain ⟨ht, hf⟩ := h
    refine Aw.icmp_gt (tgt := 188) o2 ⟨by decide, by decide⟩ (by decide) d_Mdl_findMove_155 (fun c20 => ?_) (fun c20 => ?_)
    · have h := ht c20
      refine Aw.iconst d_Mdl_findMove_188 ?_
      refine Aw.goto (tgt := 193) (by decide) d_Mdl_findMove_189 ?_
      refine Aw.istore (by decide) d_Mdl_findMove_193 ?_
      refine Aw.toL (L' := [xr (some a0), xi v1, xi v2, xi v3, xi v4, xi v5, xi v6, xi v7, xi v8, xi v9, xi 1]) rfl ?_
      refine Aw.iload rfl d_Mdl_findMove_195 ?_
      refine Aw.if_eq (tgt := 219) ⟨by decide, by decide⟩ (by decide) d_Mdl_findMove_197 (fun c5 => absurd c5 (by decide)) (fun c5 => ?_)
      refine Aw.iload rfl d_Mdl_findMove_200 ?_
      refine Aw.iload rfl d_Mdl_findMove_202 ?_
      obtain ⟨o3, h⟩ := h
      obtain ⟨ht, hf⟩ := h
      refine Aw.icmp_le (tgt := 219) o2 o3 (by decide) d_Mdl_findMove_204 (fun c4 => ?_) (fun c4 => ?_)
      · have h := ht c4
        refine Aw.iinc rfl d_Mdl_findMove_219 ?_
        refine Aw.toL (L' := [xr (some a0), xi v1, xi v2, xi v3, xi v4, xi v5, xi v6, xi v7, xi (v8 + 1), xi v9, xi 1]) rfl ?_
        refine Aw.goto (tgt := 26) (by decide) d_Mdl_findMove_222 ?_
        exact Aw.toW (L' := [xr (some a0), xi v1, xi v2, xi v3, xi v4, xi v5, xi v6, xi v7, xi (v8 + 1), xu, xu]) ⟨Or.inr rfl, Or.inr rfl, Or.inr rfl, Or.inr rfl, Or.inr rfl, Or.inr rfl, Or.inr rfl, Or.inr rfl, Or.inr rfl, Or.inl rfl, Or.inl rfl, trivial⟩ h
      · have h := hf c4
        refine Aw.iload rfl d_Mdl_findMove_207 ?_
        refine Aw.istore (by decide) d_Mdl_findMove_209 ?_
        refine Aw.toL (L' := [xr (some a0), xi v1, xi v2, xi v3, xi v9, xi v5, xi v6, xi v7, xi v8, xi v9, xi 1]) rfl ?_
        refine Aw.iload rfl d_Mdl_findMove_211 ?_
        refine Aw.istore (by decide) d_Mdl_findMove_213 ?_
        refine Aw.toL (L' := [xr (some a0), xi v1, xi v2, xi v3, xi v9, xi v7, xi v6, xi v7, xi v8, xi v9, xi 1]) rfl ?_
        refine Aw.iload rfl d_Mdl_findMove_215 ?_
        refine Aw.istore (by decide) d_Mdl_findMove_217 ?_
        refine Aw.toL (L' := [xr (some a0), xi v1, xi v2, xi v3, xi v9, xi v7, xi v8, xi v7, xi v8, xi v9, xi 1]) rfl ?_
        refine Aw.iinc rfl d_Mdl_findMove_219 ?_
        refine Aw.toL (L' := [xr (some a0), xi v1, xi v2, xi v3, xi v9, xi v7, xi v8, xi v7, xi (v8 + 1), xi v9, xi 1]) rfl ?_
        refine Aw.goto (tgt := 26) (by decide) d_Mdl_findMove_222 ?_
        exact Aw.toW (L' := [xr (some a0), xi v1, xi v2, xi v3, xi v9, xi v7, xi v8, xi v7, xi (v8 + 1), xu, xu]) ⟨Or.inr rfl, Or.inr rfl, Or.inr rfl, Or.inr rfl, Or.inr rfl, Or.inr rfl, Or.inr rfl, Or.inr rfl, Or.inr rfl, Or.inl rfl, Or.inl rfl, trivial⟩ h
    · have h := hf c20
      refine Aw.iload rfl d_Mdl_findMove_158 ?_
      refine Aw.iconst d_Mdl_findMove_160 ?_
      obtain ⟨ht, hf⟩ := h
      refine Aw.icmp_ne (tgt := 192) o2 ⟨by decide, by decide⟩ (by decide) d_Mdl_findMove_161 (fun c19 => ?_) (fun c19 => ?_)
      · have h := ht c19
        refine Aw.iconst d_Mdl_findMove_192 ?_
        refine Aw.istore (by decide) d_Mdl_findMove_193 ?_
        refine Aw.toL (L' := [xr (some a0), xi v1, xi v2, xi v3, xi v4, xi v5, xi v6, xi v7, xi v8, xi v9, xi 0]) rfl ?_
        refine Aw.iload rfl d_Mdl_findMove_195 ?_
        refine Aw.if_eq (tgt := 219) ⟨by decide, by decide⟩ (by decide) d_Mdl_findMove_197 (fun c6 => ?_) (fun c6 => absurd c6 (by decide))
        refine Aw.iinc rfl d_Mdl_findMove_219 ?_
        refine Aw.toL (L' := [xr (some a0), xi v1, xi v2, xi v3, xi v4, xi v5, xi v6, xi v7, xi (v8 + 1), xi v9, xi 0]) rfl ?_
        refine Aw.goto (tgt := 26) (by decide) d_Mdl_findMove_222 ?_
        exact Aw.toW (L' := [xr (some a0), xi v1, xi v2, xi v3, xi v4, xi v5, xi v6, xi v7, xi (v8 + 1), xu, xu]) ⟨Or.inr rfl, Or.inr rfl, Or.inr rfl, Or.inr rfl, Or.inr rfl, Or.inr rfl, Or.inr rfl, Or.inr rfl, Or.inr rfl, Or.inl rfl, Or.inl rfl, trivial⟩ h
      · have h := hf c19
        refine Aw.aload_n rfl d_Mdl_findMove_164 ?_
        obtain ⟨o7, h⟩ := h
        obtain ⟨b8, e9, h⟩ := h
        refine Aw.getRs (f := 770) 12 2 fl_Mdl_7 (by decide) (by decide) rfl rfl o7 e9 d_Mdl_findMove_165 ?_
        refine Aw.aload_n rfl d_Mdl_findMove_168 ?_
        obtain ⟨b10, e11, h⟩ := h
        refine Aw.getRs (f := 775) 12 7 fl_Mdl_23 (by decide) (by decide) rfl rfl o7 e11 d_Mdl_findMove_169 ?_
        refine Aw.bipush (by decide) d_Mdl_findMove_172 ?_
        refine Aw.iload_n rfl d_Mdl_findMove_174 ?_
        refine Aw.imul d_Mdl_findMove_175 ?_
        refine Aw.iload rfl d_Mdl_findMove_176 ?_
        refine Aw.iadd d_Mdl_findMove_178 ?_
        obtain ⟨o12, h⟩ := h
        obtain ⟨o13, o14, h⟩ := h
        refine Aw.iald o12 o13 o14 d_Mdl_findMove_179 (fun r15 => ?_)
        have h := h r15
        obtain ⟨o16, h⟩ := h
        obtain ⟨o17, o18, h⟩ := h
        refine Aw.lald o16 o17 o18 d_Mdl_findMove_180 ?_
        exact h
  · have h := hf c31
    refine Aw.aload_n rfl d_Mdl_findMove_108 ?_
    refine Aw.aload_n rfl d_Mdl_findMove_109 ?_
    obtain ⟨o21, h⟩ := h
    obtain ⟨b22, e23, h⟩ := h
    refine Aw.getRs (f := 775) 12 7 fl_Mdl_23 (by decide) (by decide) rfl rfl o21 e23 d_Mdl_findMove_110 ?_
    refine Aw.bipush (by decide) d_Mdl_findMove_113 ?_
    refine Aw.iload_n rfl d_Mdl_findMove_115 ?_
    refine Aw.imul d_Mdl_findMove_116 ?_
    refine Aw.iload rfl d_Mdl_findMove_117 ?_
    refine Aw.iadd d_Mdl_findMove_119 ?_
    refine Aw.iload rfl d_Mdl_findMove_120 ?_
    refine Aw.iadd d_Mdl_findMove_122 ?_
    obtain ⟨o24, h⟩ := h
    obtain ⟨o25, o26, h⟩ := h
    refine Aw.iald o24 o25 o26 d_Mdl_findMove_123 (fun r27 => ?_)
    have h := h r27
    refine Aw.aload_n rfl d_Mdl_findMove_124 ?_
    refine Aw.getRs (f := 775) 12 7 fl_Mdl_23 (by decide) (by decide) rfl rfl o21 e23 d_Mdl_findMove_125 ?_
    refine Aw.bipush (by decide) d_Mdl_findMove_128 ?_
    refine Aw.iload_n rfl d_Mdl_findMove_130 ?_
    refine Aw.imul d_Mdl_findMove_131 ?_
    refine Aw.iload rfl d_Mdl_findMove_132 ?_
    refine Aw.iadd d_Mdl_findMove_134 ?_
    refine Aw.iload rfl d_Mdl_findMove_135 ?_
    refine Aw.iadd d_Mdl_findMove_137 ?_
    obtain ⟨o28, o29, h⟩ := h
    refine Aw.iald o24 o28 o29 d_Mdl_findMove_138 (fun r30 => ?_)
    have h := h r30
    refine Aw.iload_n rfl d_Mdl_findMove_139 ?_
    exact h
theorem b_Mdl_findMove_143 {Ω : Om} {R : Room} {F : QF} {k n : Nat} {σ : Sto} {a0 : Nat} {v1 : Int} {v2 : Int} {v3 : Int} {v4 : Int} {v5 : Int} {v6 : Int} {v7 : Int} {v8 : Int} {v9 : Int} {s0 : Int} (h : Q32 s0 ∧ ((s0 = (0 : Int) → Q32 v9 ∧ (((1 : Int) < v9 → Q32 v4 ∧ ((v9 ≤ v4 → Aw Ω M_Mdl_findMove R F k n 26 [xr (some a0), xi v1, xi v2, xi v3, xi v4, xi v5, xi v6, xi v7, xi (v8 + 1), xu, xu] [] σ) ∧ (¬ v9 ≤ v4 → Aw Ω M_Mdl_findMove R F k n 26 [xr (some a0), xi v1, xi v2, xi v3, xi v9, xi v7, xi v8, xi v7, xi (v8 + 1), xu, xu] [] σ))) ∧ (¬ (1 : Int) < v9 → ((¬ v9 = (1 : Int) → Aw Ω M_Mdl_findMove R F k n 26 [xr (some a0), xi v1, xi v2, xi v3, xi v4, xi v5, xi v6, xi v7, xi (v8 + 1), xu, xu] [] σ) ∧ (v9 = (1 : Int) → sK σ a0 = 13 ∧ (∃ b8 : Nat, fR σ 770 a0 = some b8 ∧ (∃ b10 : Nat, fR σ 775 a0 = some b10 ∧ sK σ b10 = 50 ∧ 0 ≤ ((20 * v1) + v7) ∧ ((20 * v1) + v7) < sZ σ b10 ∧ (Q32 (aI σ b10 ((20 * v1) + v7).toNat) → sK σ b8 = 51 ∧ 0 ≤ (aI σ b10 ((20 * v1) + v7).toNat) ∧ (aI σ b10 ((20 * v1) + v7).toNat) < sZ σ b8 ∧ Aw Ω M_Mdl_findMove R F k n 181 [xr (some a0), xi v1, xi v2, xi v3, xi v4, xi v5, xi v6, xi v7, xi v8, xi v9, xu] [xl (aL σ b8 (aI σ b10 ((20 * v1) + v7).toNat).toNat)] σ)))))))) ∧ (¬ s0 = (0 : Int) → Aw Ω M_Mdl_findMove R F k n 40 [xr (some a0), xi v1, xi v2, xi v3, xi v4, xi v5, xi v6, xi v7, xi v8, xi (v9 + 1), xu] [] σ))) : Aw Ω M_Mdl_findMove R F k n 143 [xr (some a0), xi v1, xi v2, xi v3, xi v4, xi v5, xi v6, xi v7, xi v8, xi v9, xu] [xi s0] σ := by
  obtain ⟨o1, h⟩ := h
  obtain ⟨ht, hf⟩ := h
  refine Aw.if_eq (tgt := 152) o1 (by decide) d_Mdl_findMove_143 (fun c21 => ?_) (fun c21 => ?_)
  · have h := ht c21
    refine Aw.iload rfl d_Mdl_findMove_152 ?_
    refine Aw.iconst d_Mdl_findMove_154 ?_
    obtain ⟨o2, h⟩ := h
    obtain ⟨ht, hf⟩ := h
    refine Aw.icmp_gt (tgt := 188) o2 ⟨by decide, by decide⟩ (by decide) d_Mdl_findMove_155 (fun c20 => ?_) (fun c20 => ?_)
    · have h := ht c20
      refine Aw.iconst d_Mdl_findMove_188 ?_
      refine Aw.goto (tgt := 193) (by decide) d_Mdl_findMove_189 ?_
      refine Aw.istore (by decide) d_Mdl_findMove_193 ?_
      refine Aw.toL (L' := [xr (some a0), xi v1, xi v2, xi v3, xi v4, xi v5, xi v6, xi v7, xi v8, xi v9, xi 1]) rfl ?_
      refine Aw.iload rfl d_Mdl_findMove_195 ?_
      refine Aw.if_eq (tgt := 219) ⟨by decide, by decide⟩ (by decide) d_Mdl_findMove_197 (fun c5 => absurd c5 (by decide)) (fun c5 => ?_)
      refine Aw.iload rfl d_Mdl_findMove_200 ?_
      refine Aw.iload rfl d_Mdl_findMove_202 ?_
      obtain ⟨o3, h⟩ := h
      obtain ⟨ht, hf⟩ := h
      refine Aw.icmp_le (tgt := 219) o2 o3 (by decide) d_Mdl_findMove_204 (fun c4 => ?_) (fun c4 => ?_)
      · have h := ht c4
        refine Aw.iinc rfl d_Mdl_findMove_219 ?_
        refine Aw.toL (L' := [xr (some a0), xi v1, xi v2, xi v3, xi v4, xi v5, xi v6, xi v7, xi (v8 + 1), xi v9, xi 1]) rfl ?_
        refine Aw.goto (tgt := 26) (by decide) d_Mdl_findMove_222 ?_
        exact Aw.toW (L' := [xr (some a0), xi v1, xi v2, xi v3, xi v4, xi v5, xi v6, xi v7, xi (v8 + 1), xu, xu]) ⟨Or.inr rfl, Or.inr rfl, Or.inr rfl, Or.inr rfl, Or.inr rfl, Or.inr rfl, Or.inr rfl, Or.inr rfl, Or.inr rfl, Or.inl rfl, Or.inl rfl, trivial⟩ h
      · have h := hf c4
        refine Aw.iload rfl d_Mdl_findMove_207 ?_
        refine Aw.istore (by decide) d_Mdl_findMove_209 ?_
        refine Aw.toL (L' := [xr (some a0), xi v1, xi v2, xi v3, xi v9, xi v5, xi v6, xi v7, xi v8, xi v9, xi 1]) rfl ?_
        refine Aw.iload rfl d_Mdl_findMove_211 ?_
        refine Aw.istore (by decide) d_Mdl_findMove_213 ?_
        refine Aw.toL (L' := [xr (some a0), xi v1, xi v2, xi v3, xi v9, xi v7, xi v6, xi v7, xi v8, xi v9, xi 1]) rfl ?_
        refine Aw.iload rfl d_Mdl_findMove_215 ?_
        refine Aw.istore (by decide) d_Mdl_findMove_217 ?_
        refine Aw.toL (L' := [xr (some a0), xi v1, xi v2, xi v3, xi v9, xi v7, xi v8, xi v7, xi v8, xi v9, xi 1]) rfl ?_
        refine Aw.iinc rfl d_Mdl_findMove_219 ?_
        refine Aw.toL (L' := [xr (some a0), xi v1, xi v2, xi v3, xi v9, xi v7, xi v8, xi v7, xi (v8 + 1), xi v9, xi 1]) rfl ?_
        refine Aw.goto (tgt := 26) (by decide) d_Mdl_findMove_222 ?_
        exact Aw.toW (L' := [xr (some a0), xi v1, xi v2, xi v3, xi v9, xi v7, xi v8, xi v7, xi (v8 + 1), xu, xu]) ⟨Or.inr rfl, Or.inr rfl, Or.inr rfl, Or.inr rfl, Or.inr rfl, Or.inr rfl, Or.inr rfl, Or.inr rfl, Or.inr rfl, Or.inl rfl, Or.inl rfl, trivial⟩ h
    · have h := hf c20
      refine Aw.iload rfl d_Mdl_findMove_158 ?_
      refine Aw.iconst d_Mdl_findMove_160 ?_
      obtain ⟨ht, hf⟩ := h
      refine Aw.icmp_ne (tgt := 192) o2 ⟨by decide, by decide⟩ (by decide) d_Mdl_findMove_161 (fun c19 => ?_) (fun c19 => ?_)
      · have h := ht c19
        refine Aw.iconst d_Mdl_findMove_192 ?_
        refine Aw.istore (by decide) d_Mdl_findMove_193 ?_
        refine Aw.toL (L' := [xr (some a0), xi v1, xi v2, xi v3, xi v4, xi v5, xi v6, xi v7, xi v8, xi v9, xi 0]) rfl ?_
        refine Aw.iload rfl d_Mdl_findMove_195 ?_
        refine Aw.if_eq (tgt := 219) ⟨by decide, by decide⟩ (by decide) d_Mdl_findMove_197 (fun c6 => ?_) (fun c6 => absurd c6 (by decide))
        refine Aw.iinc rfl d_Mdl_findMove_219 ?_
        refine Aw.toL (L' := [xr (some a0), xi v1, xi v2, xi v3, xi v4, xi v5, xi v6, xi v7, xi (v8 + 1), xi v9, xi 0]) rfl ?_
        refine Aw.goto (tgt := 26) (by decide) d_Mdl_findMove_222 ?_
        exact Aw.toW (L' := [xr (some a0), xi v1, xi v2, xi v3, xi v4, xi v5, xi v6, xi v7, xi (v8 + 1), xu, xu]) ⟨Or.inr rfl, Or.inr rfl, Or.inr rfl, Or.inr rfl, Or.inr rfl, Or.inr rfl, Or.inr rfl, Or.inr rfl, Or.inr rfl, Or.inl rfl, Or.inl rfl, trivial⟩ h
      · have h := hf c19
        refine Aw.aload_n rfl d_Mdl_findMove_164 ?_
        obtain ⟨o7, h⟩ := h
        obtain ⟨b8, e9, h⟩ := h
        refine Aw.getRs (f := 770) 12 2 fl_Mdl_7 (by decide) (by decide) rfl rfl o7 e9 d_Mdl_findMove_165 ?_
        refine Aw.aload_n rfl d_Mdl_findMove_168 ?_
        obtain ⟨b10, e11, h⟩ := h
        refine Aw.getRs (f := 775) 12 7 fl_Mdl_23 (by decide) (by decide) rfl rfl o7 e11 d_Mdl_findMove_169 ?_
        refine Aw.bipush (by decide) d_Mdl_findMove_172 ?_
        refine Aw.iload_n rfl d_Mdl_findMove_174 ?_
        refine Aw.imul d_Mdl_findMove_175 ?_
        refine Aw.iload rfl d_Mdl_findMove_176 ?_
        refine Aw.iadd d_Mdl_findMove_178 ?_
        obtain ⟨o12, h⟩ := h
        obtain ⟨o13, o14, h⟩ := h
        refine Aw.iald o12 o13 o14 d_Mdl_findMove_179 (fun r15 => ?_)
        have h := h r15
        obtain ⟨o16, h⟩ := h
        obtain ⟨o17, o18, h⟩ := h
        refine Aw.lald o16 o17 o18 d_Mdl_findMove_180 ?_
        exact h
  · have h := hf c21
    refine Aw.iinc rfl d_Mdl_findMove_146 ?_
    refine Aw.toL (L' := [xr (some a0), xi v1, xi v2, xi v3, xi v4, xi v5, xi v6, xi v7, xi v8, xi (v9 + 1), xu]) rfl ?_
    refine Aw.goto (tgt := 40) (by decide) d_Mdl_findMove_149 ?_
    exact h
theorem b_Mdl_findMove_184 {Ω : Om} {R : Room} {F : QF} {k n : Nat} {σ : Sto} {a0 : Nat} {v1 : Int} {v2 : Int} {v3 : Int} {v4 : Int} {v5 : Int} {v6 : Int} {v7 : Int} {v8 : Int} {v9 : Int} {s0 : Int} (h : Q32 s0 ∧ ((s0 < (4 : Int) → Aw Ω M_Mdl_findMove R F k n 26 [xr (some a0), xi v1, xi v2, xi v3, xi v4, xi v5, xi v6, xi v7, xi (v8 + 1), xu, xu] [] σ) ∧ (¬ s0 < (4 : Int) → Q32 v9 ∧ Q32 v4 ∧ ((v9 ≤ v4 → Aw Ω M_Mdl_findMove R F k n 26 [xr (some a0), xi v1, xi v2, xi v3, xi v4, xi v5, xi v6, xi v7, xi (v8 + 1), xu, xu] [] σ) ∧ (¬ v9 ≤ v4 → Aw Ω M_Mdl_findMove R F k n 26 [xr (some a0), xi v1, xi v2, xi v3, xi v9, xi v7, xi v8, xi v7, xi (v8 + 1), xu, xu] [] σ))))) : Aw Ω M_Mdl_findMove R F k n 184 [xr (some a0), xi v1, xi v2, xi v3, xi v4, xi v5, xi v6, xi v7, xi v8, xi v9, xu] [xi s0] σ := by
  refine Aw.iconst d_Mdl_findMove_184 ?_
  obtain ⟨o1, h⟩ := h
  obtain ⟨ht, hf⟩ := h
  refine Aw.icmp_lt (tgt := 192) o1 ⟨by decide, by decide⟩ (by decide) d_Mdl_findMove_185 (fun c7 => ?_) (fun c7 => ?_)
  · have h := ht c7
    refine Aw.iconst d_Mdl_findMove_192 ?_
    refine Aw.istore (by decide) d_Mdl_findMove_193 ?_
    refine Aw.toL (L' := [xr (some a0), xi v1, xi v2, xi v3, xi v4, xi v5, xi v6, xi v7, xi v8, xi v9, xi 0]) rfl ?_
    refine Aw.iload rfl d_Mdl_findMove_195 ?_
    refine Aw.if_eq (tgt := 219) ⟨by decide, by decide⟩ (by decide) d_Mdl_findMove_197 (fun c2 => ?_) (fun c2 => absurd c2 (by decide))
    refine Aw.iinc rfl d_Mdl_findMove_219 ?_
    refine Aw.toL (L' := [xr (some a0), xi v1, xi v2, xi v3, xi v4, xi v5, xi v6, xi v7, xi (v8 + 1), xi v9, xi 0]) rfl ?_
    refine Aw.goto (tgt := 26) (by decide) d_Mdl_findMove_222 ?_
    exact Aw.toW (L' := [xr (some a0), xi v1, xi v2, xi v3, xi v4, xi v5, xi v6, xi v7, xi (v8 + 1), xu, xu]) ⟨Or.inr rfl, Or.inr rfl, Or.inr rfl, Or.inr rfl, Or.inr rfl, Or.inr rfl, Or.inr rfl, Or.inr rfl, Or.inr rfl, Or.inl rfl, Or.inl rfl, trivial⟩ h
  · have h := hf c7
    refine Aw.iconst d_Mdl_findMove_188 ?_
    refine Aw.goto (tgt := 193) (by decide) d_Mdl_findMove_189 ?_
    refine Aw.istore (by decide) d_Mdl_findMove_193 ?_
    refine Aw.toL (L' := [xr (some a0), xi v1, xi v2, xi v3, xi v4, xi v5, xi v6, xi v7, xi v8, xi v9, xi 1]) rfl ?_
    refine Aw.iload rfl d_Mdl_findMove_195 ?_
    refine Aw.if_eq (tgt := 219) ⟨by decide, by decide⟩ (by decide) d_Mdl_findMove_197 (fun c6 => absurd c6 (by decide)) (fun c6 => ?_)
    refine Aw.iload rfl d_Mdl_findMove_200 ?_
    refine Aw.iload rfl d_Mdl_findMove_202 ?_
    obtain ⟨o3, h⟩ := h
    obtain ⟨o4, h⟩ := h
    obtain ⟨ht, hf⟩ := h
    refine Aw.icmp_le (tgt := 219) o3 o4 (by decide) d_Mdl_findMove_204 (fun c5 => ?_) (fun c5 => ?_)
    · have h := ht c5
      refine Aw.iinc rfl d_Mdl_findMove_219 ?_
      refine Aw.toL (L' := [xr (some a0), xi v1, xi v2, xi v3, xi v4, xi v5, xi v6, xi v7, xi (v8 + 1), xi v9, xi 1]) rfl ?_
      refine Aw.goto (tgt := 26) (by decide) d_Mdl_findMove_222 ?_
      exact Aw.toW (L' := [xr (some a0), xi v1, xi v2, xi v3, xi v4, xi v5, xi v6, xi v7, xi (v8 + 1), xu, xu]) ⟨Or.inr rfl, Or.inr rfl, Or.inr rfl, Or.inr rfl, Or.inr rfl, Or.inr rfl, Or.inr rfl, Or.inr rfl, Or.inr rfl, Or.inl rfl, Or.inl rfl, trivial⟩ h
    · have h := hf c5
      refine Aw.iload rfl d_Mdl_findMove_207 ?_
      refine Aw.istore (by decide) d_Mdl_findMove_209 ?_
      refine Aw.toL (L' := [xr (some a0), xi v1, xi v2, xi v3, xi v9, xi v5, xi v6, xi v7, xi v8, xi v9, xi 1]) rfl ?_
      refine Aw.iload rfl d_Mdl_findMove_211 ?_
      refine Aw.istore (by decide) d_Mdl_findMove_213 ?_
      refine Aw.toL (L' := [xr (some a0), xi v1, xi v2, xi v3, xi v9, xi v7, xi v6, xi v7, xi v8, xi v9, xi 1]) rfl ?_
      refine Aw.iload rfl d_Mdl_findMove_215 ?_
      refine Aw.istore (by decide) d_Mdl_findMove_217 ?_
      refine Aw.toL (L' := [xr (some a0), xi v1, xi v2, xi v3, xi v9, xi v7, xi v8, xi v7, xi v8, xi v9, xi 1]) rfl ?_
      refine Aw.iinc rfl d_Mdl_findMove_219 ?_
      refine Aw.toL (L' := [xr (some a0), xi v1, xi v2, xi v3, xi v9, xi v7, xi v8, xi v7, xi (v8 + 1), xi v9, xi 1]) rfl ?_
      refine Aw.goto (tgt := 26) (by decide) d_Mdl_findMove_222 ?_
      exact Aw.toW (L' := [xr (some a0), xi v1, xi v2, xi v3, xi v9, xi v7, xi v8, xi v7, xi (v8 + 1), xu, xu]) ⟨Or.inr rfl, Or.inr rfl, Or.inr rfl, Or.inr rfl, Or.inr rfl, Or.inr rfl, Or.inr rfl, Or.inr rfl, Or.inr rfl, Or.inl rfl, Or.inl rfl, trivial⟩ h
theorem b_Mdl_findMove_152 {Ω : Om} {R : Room} {F : QF} {k n : Nat} {σ : Sto} {a0 : Nat} {v1 : Int} {v2 : Int} {v3 : Int} {v4 : Int} {v5 : Int} {v6 : Int} {v7 : Int} {v8 : Int} {v9 : Int} (h : Q32 v9 ∧ (((1 : Int) < v9 → Q32 v4 ∧ ((v9 ≤ v4 → Aw Ω M_Mdl_findMove R F k n 26 [xr (some a0), xi v1, xi v2, xi v3, xi v4, xi v5, xi v6, xi v7, xi (v8 + 1), xu, xu] [] σ) ∧ (¬ v9 ≤ v4 → Aw Ω M_Mdl_findMove R F k n 26 [xr (some a0), xi v1, xi v2, xi v3, xi v9, xi v7, xi v8, xi v7, xi (v8 + 1), xu, xu] [] σ))) ∧ (¬ (1 : Int) < v9 → ((¬ v9 = (1 : Int) → Aw Ω M_Mdl_findMove R F k n 26 [xr (some a0), xi v1, xi v2, xi v3, xi v4, xi v5, xi v6, xi v7, xi (v8 + 1), xu, xu] [] σ) ∧ (v9 = (1 : Int) → sK σ a0 = 13 ∧ (∃ b7 : Nat, fR σ 770 a0 = some b7 ∧ (∃ b9 : Nat, fR σ 775 a0 = some b9 ∧ sK σ b9 = 50 ∧ 0 ≤ ((20 * v1) + v7) ∧ ((20 * v1) + v7) < sZ σ b9 ∧ (Q32 (aI σ b9 ((20 * v1) + v7).toNat) → sK σ b7 = 51 ∧ 0 ≤ (aI σ b9 ((20 * v1) + v7).toNat) ∧ (aI σ b9 ((20 * v1) + v7).toNat) < sZ σ b7 ∧ Aw Ω M_Mdl_findMove R F k n 181 [xr (some a0), xi v1, xi v2, xi v3, xi v4, xi v5, xi v6, xi v7, xi v8, xi v9, xu] [xl (aL σ b7 (aI σ b9 ((20 * v1) + v7).toNat).toNat)] σ)))))))) : Aw Ω M_Mdl_findMove R F k n 152 [xr (some a0), xi v1, xi v2, xi v3, xi v4, xi v5, xi v6, xi v7, xi v8, xi v9, xu] [] σ := by
  refine Aw.iload rfl d_Mdl_findMove_152 ?_
  refine Aw.iconst d_Mdl_findMove_154 ?_
  obtain ⟨o1, h⟩ := h
  obtain ⟨ht, hf⟩ := h
  refine Aw.icmp_gt (tgt := 188) o1 ⟨by decide, by decide⟩ (by decide) d_Mdl_findMove_155 (fun c19 => ?_) (fun c19 => ?_)
  · have h := ht c19
    refine Aw.iconst d_Mdl_findMove_188 ?_
    refine Aw.goto (tgt := 193) (by decide) d_Mdl_findMove_189 ?_
    refine Aw.istore (by decide) d_Mdl_findMove_193 ?_
    refine Aw.toL (L' := [xr (some a0), xi v1, xi v2, xi v3, xi v4, xi v5, xi v6, xi v7, xi v8, xi v9, xi 1]) rfl ?_
    refine Aw.iload rfl d_Mdl_findMove_195 ?_
    refine Aw.if_eq (tgt := 219) ⟨by decide, by decide⟩ (by decide) d_Mdl_findMove_197 (fun c4 => absurd c4 (by decide)) (fun c4 => ?_)
    refine Aw.iload rfl d_Mdl_findMove_200 ?_
    refine Aw.iload rfl d_Mdl_findMove_202 ?_
    obtain ⟨o2, h⟩ := h
    obtain ⟨ht, hf⟩ := h
    refine Aw.icmp_le (tgt := 219) o1 o2 (by decide) d_Mdl_findMove_204 (fun c3 => ?_) (fun c3 => ?_)
    · have h := ht c3
      refine Aw.iinc rfl d_Mdl_findMove_219 ?_
      refine Aw.toL (L' := [xr (some a0), xi v1, xi v2, xi v3, xi v4, xi v5, xi v6, xi v7, xi (v8 + 1), xi v9, xi 1]) rfl ?_
      refine Aw.goto (tgt := 26) (by decide) d_Mdl_findMove_222 ?_
      exact Aw.toW (L' := [xr (some a0), xi v1, xi v2, xi v3, xi v4, xi v5, xi v6, xi v7, xi (v8 + 1), xu, xu]) ⟨Or.inr rfl, Or.inr rfl, Or.inr rfl, Or.inr rfl, Or.inr rfl, Or.inr rfl, Or.inr rfl, Or.inr rfl, Or.inr rfl, Or.inl rfl, Or.inl rfl, trivial⟩ h
    · have h := hf c3
      refine Aw.iload rfl d_Mdl_findMove_207 ?_
      refine Aw.istore (by decide) d_Mdl_findMove_209 ?_
      refine Aw.toL (L' := [xr (some a0), xi v1, xi v2, xi v3, xi v9, xi v5, xi v6, xi v7, xi v8, xi v9, xi 1]) rfl ?_
      refine Aw.iload rfl d_Mdl_findMove_211 ?_
      refine Aw.istore (by decide) d_Mdl_findMove_213 ?_
      refine Aw.toL (L' := [xr (some a0), xi v1, xi v2, xi v3, xi v9, xi v7, xi v6, xi v7, xi v8, xi v9, xi 1]) rfl ?_
      refine Aw.iload rfl d_Mdl_findMove_215 ?_
      refine Aw.istore (by decide) d_Mdl_findMove_217 ?_
      refine Aw.toL (L' := [xr (some a0), xi v1, xi v2, xi v3, xi v9, xi v7, xi v8, xi v7, xi v8, xi v9, xi 1]) rfl ?_
      refine Aw.iinc rfl d_Mdl_findMove_219 ?_
      refine Aw.toL (L' := [xr (some a0), xi v1, xi v2, xi v3, xi v9, xi v7, xi v8, xi v7, xi (v8 + 1), xi v9, xi 1]) rfl ?_
      refine Aw.goto (tgt := 26) (by decide) d_Mdl_findMove_222 ?_
      exact Aw.toW (L' := [xr (some a0), xi v1, xi v2, xi v3, xi v9, xi v7, xi v8, xi v7, xi (v8 + 1), xu, xu]) ⟨Or.inr rfl, Or.inr rfl, Or.inr rfl, Or.inr rfl, Or.inr rfl, Or.inr rfl, Or.inr rfl, Or.inr rfl, Or.inr rfl, Or.inl rfl, Or.inl rfl, trivial⟩ h
  · have h := hf c19
    refine Aw.iload rfl d_Mdl_findMove_158 ?_
    refine Aw.iconst d_Mdl_findMove_160 ?_
    obtain ⟨ht, hf⟩ := h
    refine Aw.icmp_ne (tgt := 192) o1 ⟨by decide, by decide⟩ (by decide) d_Mdl_findMove_161 (fun c18 => ?_) (fun c18 => ?_)
    · have h := ht c18
      refine Aw.iconst d_Mdl_findMove_192 ?_
      refine Aw.istore (by decide) d_Mdl_findMove_193 ?_
      refine Aw.toL (L' := [xr (some a0), xi v1, xi v2, xi v3, xi v4, xi v5, xi v6, xi v7, xi v8, xi v9, xi 0]) rfl ?_
      refine Aw.iload rfl d_Mdl_findMove_195 ?_
      refine Aw.if_eq (tgt := 219) ⟨by decide, by decide⟩ (by decide) d_Mdl_findMove_197 (fun c5 => ?_) (fun c5 => absurd c5 (by decide))
      refine Aw.iinc rfl d_Mdl_findMove_219 ?_
      refine Aw.toL (L' := [xr (some a0), xi v1, xi v2, xi v3, xi v4, xi v5, xi v6, xi v7, xi (v8 + 1), xi v9, xi 0]) rfl ?_
      refine Aw.goto (tgt := 26) (by decide) d_Mdl_findMove_222 ?_
      exact Aw.toW (L' := [xr (some a0), xi v1, xi v2, xi v3, xi v4, xi v5, xi v6, xi v7, xi (v8 + 1), xu, xu]) ⟨Or.inr rfl, Or.inr rfl, Or.inr rfl, Or.inr rfl, Or.inr rfl, Or.inr rfl, Or.inr rfl, Or.inr rfl, Or.inr rfl, Or.inl rfl, Or.inl rfl, trivial⟩ h
    · have h := hf c18
      refine Aw.aload_n rfl d_Mdl_findMove_164 ?_
      obtain ⟨o6, h⟩ := h
      obtain ⟨b7, e8, h⟩ := h
      refine Aw.getRs (f := 770) 12 2 fl_Mdl_7 (by decide) (by decide) rfl rfl o6 e8 d_Mdl_findMove_165 ?_
      refine Aw.aload_n rfl d_Mdl_findMove_168 ?_
      obtain ⟨b9, e10, h⟩ := h
      refine Aw.getRs (f := 775) 12 7 fl_Mdl_23 (by decide) (by decide) rfl rfl o6 e10 d_Mdl_findMove_169 ?_
      refine Aw.bipush (by decide) d_Mdl_findMove_172 ?_
      refine Aw.iload_n rfl d_Mdl_findMove_174 ?_
      refine Aw.imul d_Mdl_findMove_175 ?_
      refine Aw.iload rfl d_Mdl_findMove_176 ?_
      refine Aw.iadd d_Mdl_findMove_178 ?_
      obtain ⟨o11, h⟩ := h
      obtain ⟨o12, o13, h⟩ := h
      refine Aw.iald o11 o12 o13 d_Mdl_findMove_179 (fun r14 => ?_)
      have h := h r14
      obtain ⟨o15, h⟩ := h
      obtain ⟨o16, o17, h⟩ := h
      refine Aw.lald o15 o16 o17 d_Mdl_findMove_180 ?_
      exact h
theorem b_Mdl_findMove_234 {Ω : Om} {R : Room} {F : QF} {k n : Nat} {σ : Sto} {a0 : Nat} {v1 : Int} {v2 : Int} {v3 : Int} {v4 : Int} {v5 : Int} {v6 : Int} {v7 : Int} (h : Q32 v7 ∧ Q32 v4 ∧ ((v4 ≤ v7 → ((v4 ≤ (0 : Int) → Aw Ω M_Mdl_findMove R F k n 272 [xr (some a0), xi v1, xi v2, xi v3, xi v4, xi v5, xi v6, xi v7, xu, xu, xu] [xi 0] σ) ∧ (¬ v4 ≤ (0 : Int) → Aw Ω M_Mdl_findMove R F k n 272 [xr (some a0), xi v1, xi v2, xi v3, xi v4, xi v5, xi v6, xi v7, xu, xu, xu] [xi 1] σ))) ∧ (¬ v4 ≤ v7 → sK σ a0 = 13 ∧ (∃ b5 : Nat, fR σ 796 a0 = some b5 ∧ sK σ b5 = 50 ∧ 0 ≤ (v5 + v7) ∧ (v5 + v7) < sZ σ b5 ∧ Q32 (v6 + v7) ∧ Aw Ω M_Mdl_findMove R F k n 234 [xr (some a0), xi v1, xi v2, xi v3, xi v4, xi v5, xi v6, xi (v7 + 1), xu, xu, xu] [] (vI σ b5 (v5 + v7).toNat (v6 + v7)))))) : Aw Ω M_Mdl_findMove R F k n 234 [xr (some a0), xi v1, xi v2, xi v3, xi v4, xi v5, xi v6, xi v7, xu, xu, xu] [] σ := by
  refine Aw.iload rfl d_Mdl_findMove_234 ?_
  refine Aw.iload rfl d_Mdl_findMove_236 ?_
  obtain ⟨o1, h⟩ := h
  obtain ⟨o2, h⟩ := h
  obtain ⟨ht, hf⟩ := h
  refine Aw.icmp_ge (tgt := 262) o1 o2 (by decide) d_Mdl_findMove_238 (fun c11 => ?_) (fun c11 => ?_)
  · have h := ht c11
    refine Aw.iload rfl d_Mdl_findMove_262 ?_
    obtain ⟨ht, hf⟩ := h
    refine Aw.if_le (tgt := 271) o2 (by decide) d_Mdl_findMove_264 (fun c3 => ?_) (fun c3 => ?_)
    · have h := ht c3
      refine Aw.iconst d_Mdl_findMove_271 ?_
      exact h
    · have h := hf c3
      refine Aw.iconst d_Mdl_findMove_267 ?_
      refine Aw.goto (tgt := 272) (by decide) d_Mdl_findMove_268 ?_
      exact h
  · have h := hf c11
    refine Aw.aload_n rfl d_Mdl_findMove_241 ?_
    obtain ⟨o4, h⟩ := h
    obtain ⟨b5, e6, h⟩ := h
    refine Aw.getRs (f := 796) 12 28 fl_Mdl_56 (by decide) (by decide) rfl rfl o4 e6 d_Mdl_findMove_242 ?_
    refine Aw.iload rfl d_Mdl_findMove_245 ?_
    refine Aw.iload rfl d_Mdl_findMove_247 ?_
    refine Aw.iadd d_Mdl_findMove_249 ?_
    refine Aw.iload rfl d_Mdl_findMove_250 ?_
    refine Aw.iload rfl d_Mdl_findMove_252 ?_
    refine Aw.iadd d_Mdl_findMove_254 ?_
    obtain ⟨o7, h⟩ := h
    obtain ⟨o8, o9, h⟩ := h
    obtain ⟨o10, h⟩ := h
    refine Aw.iast o7 o8 o9 o10 d_Mdl_findMove_255 ?_
    refine Aw.iinc rfl d_Mdl_findMove_256 ?_
    refine Aw.toL (L' := [xr (some a0), xi v1, xi v2, xi v3, xi v4, xi v5, xi v6, xi (v7 + 1), xu, xu, xu]) rfl ?_
    refine Aw.goto (tgt := 234) (by decide) d_Mdl_findMove_259 ?_
    exact h
theorem c_Mdl_findMove_102 {Ω : Om} {R R' : Room} {F : QF} {k n : Nat} {L st : List PV} {σ : Sto} {QX' : String → Sto → Prop} {Q : Int → Sto → Prop} {a : Nat} {x0 : Int} (hc : MC Ω M_Mdl_isTaken R' (RI Q) QX' σ [xr (some a), xi x0]) (hk : sK σ a = 13) (hr1 : R'.frames + 1 ≤ R.frames) (hr2 : 8 + (4 + 11) + R'.locals ≤ R.locals) (hb1 : k + R'.cells ≤ R.cells) (hb2 : n + R'.slots ≤ R.slots) (hst : (st.map catP).sum ≤ 8) (kk : ∀ x σ', Q x σ' → Aw Ω M_Mdl_findMove R F (k + R'.cells) (n + R'.slots) 105 L (xi x :: st) σ') (kx : ∀ E σ', QX' E σ' → Ax Ω M_Mdl_findMove R F (k + R'.cells) (n + R'.slots) 102 L st σ' E) : Aw Ω M_Mdl_findMove R F k n 102 L (xi x0 :: xr (some a) :: st) σ :=
  Aw.callV (As := [xi x0]) (stk := xi x0 :: xr (some a) :: st) (nn := 1) 12 M_Mdl_isTaken hc ok_Mdl_isTaken rfl (by decide) rfl hk ml_Mdl_262 im_Mdl_isTaken se_Mdl_isTaken ⟨hr1, hr2⟩ rfl ⟨hb1, hb2⟩ hst rfl d_Mdl_findMove_102 (fun r σ' h => by obtain ⟨x, rfl, h⟩ := h; exact kk x σ' h) kx
theorem c_Mdl_findMove_140 {Ω : Om} {R R' : Room} {F : QF} {k n : Nat} {L st : List PV} {σ : Sto} {QX' : String → Sto → Prop} {Q : Int → Sto → Prop} {a : Nat} {x0 : Int} {x1 : Int} {x2 : Int} (hc : MC Ω M_Mdl_areSame R' (RI Q) QX' σ [xr (some a), xi x0, xi x1, xi x2]) (hk : sK σ a = 13) (hr1 : R'.frames + 1 ≤ R.frames) (hr2 : 8 + (4 + 11) + R'.locals ≤ R.locals) (hb1 : k + R'.cells ≤ R.cells) (hb2 : n + R'.slots ≤ R.slots) (hst : (st.map catP).sum ≤ 8) (kk : ∀ x σ', Q x σ' → Aw Ω M_Mdl_findMove R F (k + R'.cells) (n + R'.slots) 143 L (xi x :: st) σ') (kx : ∀ E σ', QX' E σ' → Ax Ω M_Mdl_findMove R F (k + R'.cells) (n + R'.slots) 140 L st σ' E) : Aw Ω M_Mdl_findMove R F k n 140 L (xi x2 :: xi x1 :: xi x0 :: xr (some a) :: st) σ :=
  Aw.callV (As := [xi x0, xi x1, xi x2]) (stk := xi x2 :: xi x1 :: xi x0 :: xr (some a) :: st) (nn := 3) 12 M_Mdl_areSame hc ok_Mdl_areSame rfl (by decide) rfl hk ml_Mdl_245 im_Mdl_areSame se_Mdl_areSame ⟨hr1, hr2⟩ rfl ⟨hb1, hb2⟩ hst rfl d_Mdl_findMove_140 (fun r σ' h => by obtain ⟨x, rfl, h⟩ := h; exact kk x σ' h) kx
theorem c_Mdl_findMove_181 {Ω : Om} {R R' : Room} {F : QF} {k n : Nat} {L st : List PV} {σ : Sto} {QX' : String → Sto → Prop} {Q : Int → Sto → Prop} {x0 : Int64} (hc : MC Ω M_Mdl_letters R' (RI Q) QX' σ [xl x0]) (hr1 : R'.frames + 1 ≤ R.frames) (hr2 : 8 + (4 + 11) + R'.locals ≤ R.locals) (hb1 : k + R'.cells ≤ R.cells) (hb2 : n + R'.slots ≤ R.slots) (hst : (st.map catP).sum ≤ 8) (kk : ∀ x σ', Q x σ' → Aw Ω M_Mdl_findMove R F (k + R'.cells) (n + R'.slots) 184 L (xi x :: st) σ') (kx : ∀ E σ', QX' E σ' → Ax Ω M_Mdl_findMove R F (k + R'.cells) (n + R'.slots) 181 L st σ' E) : Aw Ω M_Mdl_findMove R F k n 181 L (xl x0 :: st) σ :=
  Aw.callS (As := [xl x0]) (stk := xl x0 :: st) (nn := 1) M_Mdl_letters hc ok_Mdl_letters rfl ml_Mdl_144 sta_Mdl_letters ⟨hr1, hr2⟩ rfl ⟨hb1, hb2⟩ hst rfl d_Mdl_findMove_181 (fun r σ' h => by obtain ⟨x, rfl, h⟩ := h; exact kk x σ' h) kx
theorem r_Mdl_findMove_272 {Ω : Om} {R : Room} {k n : Nat} {L : List PV} {σ : Sto} {QR : Option PV → Sto → Prop} {QX : String → Sto → Prop} {x : Int} (hx : x = 0 ∨ x = 1) (h : QR (some (xi x)) σ) (h1 : k ≤ R.cells) (h2 : n ≤ R.slots) : Aw Ω M_Mdl_findMove R (MF Ω R QR QX) k n 272 L [xi x] σ := Aw.zret rfl hx h h1 h2 d_Mdl_findMove_272
theorem e_Mdl_likenessOf {Ω : Om} {R : Room} {QR : Option PV → Sto → Prop} {QX : String → Sto → Prop} {σ : Sto} {a0 : Nat} {v1 : Int64} {v3 : Int64} (h : Aw Ω M_Mdl_likenessOf R (MF Ω R QR QX) 0 0 0 [xr (some a0), xl v1, xu, xl v3, xu, xu, xu, xu, xu, xu, xu, xu] [] σ) : MC Ω M_Mdl_likenessOf R QR QX σ [xr (some a0), xl v1, xl v3] := MC.body (by decide +kernel) rfl (Nat.le_of_ble_eq_true rfl) rfl h
theorem b_Mdl_likenessOf_0 {Ω : Om} {R : Room} {F : QF} {k n : Nat} {σ : Sto} {a0 : Nat} {v1 : Int64} {v3 : Int64} (h : Aw Ω M_Mdl_likenessOf R F k n 1 [xr (some a0), xl v1, xu, xl v3, xu, xu, xu, xu, xu, xu, xu, xu] [xl v1] σ) : Aw Ω M_Mdl_likenessOf R F k n 0 [xr (some a0), xl v1, xu, xl v3, xu, xu, xu, xu, xu, xu, xu, xu] [] σ := by
  refine Aw.lload_n rfl d_Mdl_likenessOf_0 ?_
  exact h
theorem b_Mdl_likenessOf_4 {Ω : Om} {R : Room} {F : QF} {k n : Nat} {σ : Sto} {a0 : Nat} {v1 : Int64} {v3 : Int64} {s0 : Int} (h : Aw Ω M_Mdl_likenessOf R F k n 7 [xr (some a0), xl v1, xu, xl v3, xu, xi s0, xu, xu, xu, xu, xu, xu] [xl v3] σ) : Aw Ω M_Mdl_likenessOf R F k n 4 [xr (some a0), xl v1, xu, xl v3, xu, xu, xu, xu, xu, xu, xu, xu] [xi s0] σ := by
  refine Aw.istore (by decide) d_Mdl_likenessOf_4 ?_
  refine Aw.toL (L' := [xr (some a0), xl v1, xu, xl v3, xu, xi s0, xu, xu, xu, xu, xu, xu]) rfl ?_
  refine Aw.lload_n rfl d_Mdl_likenessOf_6 ?_
  exact h
theorem b_Mdl_likenessOf_10 {Ω : Om} {R : Room} {F : QF} {k n : Nat} {σ : Sto} {a0 : Nat} {v1 : Int64} {v3 : Int64} {v5 : Int} {s0 : Int} (h : Aw Ω M_Mdl_likenessOf R F k n 16 [xr (some a0), xl v1, xu, xl v3, xu, xi v5, xi s0, xi v5, xu, xu, xu, xu] [] σ) : Aw Ω M_Mdl_likenessOf R F k n 10 [xr (some a0), xl v1, xu, xl v3, xu, xi v5, xu, xu, xu, xu, xu, xu] [xi s0] σ := by
  refine Aw.istore (by decide) d_Mdl_likenessOf_10 ?_
  refine Aw.toL (L' := [xr (some a0), xl v1, xu, xl v3, xu, xi v5, xi s0, xu, xu, xu, xu, xu]) rfl ?_
  refine Aw.iload rfl d_Mdl_likenessOf_12 ?_
  refine Aw.istore (by decide) d_Mdl_likenessOf_14 ?_
  refine Aw.toL (L' := [xr (some a0), xl v1, xu, xl v3, xu, xi v5, xi s0, xi v5, xu, xu, xu, xu]) rfl ?_
  exact h
theorem b_Mdl_likenessOf_16 {Ω : Om} {R : Room} {F : QF} {k n : Nat} {σ : Sto} {a0 : Nat} {v1 : Int64} {v3 : Int64} {v5 : Int} {v6 : Int} {v7 : Int} (h : Q32 v7 ∧ ((v7 < (0 : Int) → sK σ a0 = 13 ∧ (∃ b3 : Nat, fR σ 811 a0 = some b3 ∧ sK σ b3 = 50 ∧ 0 ≤ (0 : Int) ∧ (0 : Int) < sZ σ b3 ∧ (Q32 (aI σ b3 0) → Q32 (v5 + v6) ∧ (v5 + v6) ≠ 0 ∧ Aw Ω M_Mdl_likenessOf R F k n 225 [xr (some a0), xl v1, xu, xl v3, xu, xi v5, xi v6, xi v7, xu, xu, xu, xu] [xi (bDiv (200 * (aI σ b3 0)) (v5 + v6))] σ))) ∧ (¬ v7 < (0 : Int) → Aw Ω M_Mdl_likenessOf R F k n 25 [xr (some a0), xl v1, xu, xl v3, xu, xi v5, xi v6, xi v7, xi v6, xu, xu, xu] [] σ))) : Aw Ω M_Mdl_likenessOf R F k n 16 [xr (some a0), xl v1, xu, xl v3, xu, xi v5, xi v6, xi v7, xu, xu, xu, xu] [] σ := by
  refine Aw.iload rfl d_Mdl_likenessOf_16 ?_
  obtain ⟨o1, h⟩ := h
  obtain ⟨ht, hf⟩ := h
  refine Aw.if_lt (tgt := 209) o1 (by decide) d_Mdl_likenessOf_18 (fun c11 => ?_) (fun c11 => ?_)
  · have h := ht c11
    refine Aw.sipush (by decide) d_Mdl_likenessOf_209 ?_
    refine Aw.aload_n rfl d_Mdl_likenessOf_212 ?_
    obtain ⟨o2, h⟩ := h
    obtain ⟨b3, e4, h⟩ := h
    refine Aw.getRs (f := 811) 12 43 fl_Mdl_93 (by decide) (by decide) rfl rfl o2 e4 d_Mdl_likenessOf_213 ?_
    refine Aw.iconst d_Mdl_likenessOf_216 ?_
    obtain ⟨o5, h⟩ := h
    obtain ⟨o6, o7, h⟩ := h
    refine Aw.iald o5 o6 o7 d_Mdl_likenessOf_217 (fun r8 => ?_)
    have h := h r8
    refine Aw.imul d_Mdl_likenessOf_218 ?_
    refine Aw.iload rfl d_Mdl_likenessOf_219 ?_
    refine Aw.iload rfl d_Mdl_likenessOf_221 ?_
    refine Aw.iadd d_Mdl_likenessOf_223 ?_
    obtain ⟨o9, o10, h⟩ := h
    refine Aw.idiv o9 o10 d_Mdl_likenessOf_224 ?_
    exact h
  · have h := hf c11
    refine Aw.iload rfl d_Mdl_likenessOf_21 ?_
    refine Aw.istore (by decide) d_Mdl_likenessOf_23 ?_
    refine Aw.toL (L' := [xr (some a0), xl v1, xu, xl v3, xu, xi v5, xi v6, xi v7, xi v6, xu, xu, xu]) rfl ?_
    exact h
theorem b_Mdl_likenessOf_25 {Ω : Om} {R : Room} {F : QF} {k n : Nat} {σ : Sto} {a0 : Nat} {v1 : Int64} {v3 : Int64} {v5 : Int} {v6 : Int} {v7 : Int} {v8 : Int} (h : Q32 v8 ∧ ((v8 < (0 : Int) → Aw Ω M_Mdl_likenessOf R F k n 16 [xr (some a0), xl v1, xu, xl v3, xu, xi v5, xi v6, xi (v7 + (-1)), xu, xu, xu, xu] [] σ) ∧ (¬ v8 < (0 : Int) → Q32 v7 ∧ Q32 v5 ∧ ((v7 = v5 → Aw Ω M_Mdl_likenessOf R F k n 44 [xr (some a0), xl v1, xu, xl v3, xu, xi v5, xi v6, xi v7, xi v8, xu, xu, xu] [] σ) ∧ (¬ v7 = v5 → Q32 v6 ∧ ((¬ v8 = v6 → Aw Ω M_Mdl_likenessOf R F k n 49 [xr (some a0), xl v1, xu, xl v3, xu, xi v5, xi v6, xi v7, xi v8, xu, xu, xu] [xi 0] σ) ∧ (v8 = v6 → Aw Ω M_Mdl_likenessOf R F k n 44 [xr (some a0), xl v1, xu, xl v3, xu, xi v5, xi v6, xi v7, xi v8, xu, xu, xu] [] σ))))))) : Aw Ω M_Mdl_likenessOf R F k n 25 [xr (some a0), xl v1, xu, xl v3, xu, xi v5, xi v6, xi v7, xi v8, xu, xu, xu] [] σ := by
  refine Aw.iload rfl d_Mdl_likenessOf_25 ?_
  obtain ⟨o1, h⟩ := h
  obtain ⟨ht, hf⟩ := h
  refine Aw.if_lt (tgt := 203) o1 (by decide) d_Mdl_likenessOf_27 (fun c7 => ?_) (fun c7 => ?_)
  · have h := ht c7
    refine Aw.iinc rfl d_Mdl_likenessOf_203 ?_
    refine Aw.toL (L' := [xr (some a0), xl v1, xu, xl v3, xu, xi v5, xi v6, xi (v7 + (-1)), xi v8, xu, xu, xu]) rfl ?_
    refine Aw.goto (tgt := 16) (by decide) d_Mdl_likenessOf_206 ?_
    exact Aw.toW (L' := [xr (some a0), xl v1, xu, xl v3, xu, xi v5, xi v6, xi (v7 + (-1)), xu, xu, xu, xu]) ⟨Or.inr rfl, Or.inr rfl, Or.inr rfl, Or.inr rfl, Or.inr rfl, Or.inr rfl, Or.inr rfl, Or.inr rfl, Or.inl rfl, Or.inr rfl, Or.inr rfl, Or.inr rfl, trivial⟩ h
  · have h := hf c7
    refine Aw.iload rfl d_Mdl_likenessOf_30 ?_
    refine Aw.iload rfl d_Mdl_likenessOf_32 ?_
    obtain ⟨o2, h⟩ := h
    obtain ⟨o3, h⟩ := h
    obtain ⟨ht, hf⟩ := h
    refine Aw.icmp_eq (tgt := 44) o2 o3 (by decide) d_Mdl_likenessOf_34 (fun c6 => ?_) (fun c6 => ?_)
    · have h := ht c6
      exact h
    · have h := hf c6
      refine Aw.iload rfl d_Mdl_likenessOf_37 ?_
      refine Aw.iload rfl d_Mdl_likenessOf_39 ?_
      obtain ⟨o4, h⟩ := h
      obtain ⟨ht, hf⟩ := h
      refine Aw.icmp_ne (tgt := 48) o1 o4 (by decide) d_Mdl_likenessOf_41 (fun c5 => ?_) (fun c5 => ?_)
      · have h := ht c5
        refine Aw.iconst d_Mdl_likenessOf_48 ?_
        exact h
      · have h := hf c5
        exact h
theorem b_Mdl_likenessOf_44 {Ω : Om} {R : Room} {F : QF} {k n : Nat} {σ : Sto} {a0 : Nat} {v1 : Int64} {v3 : Int64} {v5 : Int} {v6 : Int} {v7 : Int} {v8 : Int} (h : sK σ a0 = 13 ∧ (∃ b2 : Nat, fR σ 811 a0 = some b2 ∧ sK σ b2 = 50 ∧ 0 ≤ ((9 * v7) + v8) ∧ ((9 * v7) + v8) < sZ σ b2 ∧ Aw Ω M_Mdl_likenessOf R F k n 25 [xr (some a0), xl v1, xu, xl v3, xu, xi v5, xi v6, xi v7, xi (v8 + (-1)), xu, xu, xu] [] (vI σ b2 ((9 * v7) + v8).toNat 0))) : Aw Ω M_Mdl_likenessOf R F k n 44 [xr (some a0), xl v1, xu, xl v3, xu, xi v5, xi v6, xi v7, xi v8, xu, xu, xu] [] σ := by
  refine Aw.iconst d_Mdl_likenessOf_44 ?_
  refine Aw.goto (tgt := 49) (by decide) d_Mdl_likenessOf_45 ?_
  refine Aw.istore (by decide) d_Mdl_likenessOf_49 ?_
  refine Aw.toL (L' := [xr (some a0), xl v1, xu, xl v3, xu, xi v5, xi v6, xi v7, xi v8, xi 1, xu, xu]) rfl ?_
  refine Aw.iload rfl d_Mdl_likenessOf_51 ?_
  refine Aw.if_eq (tgt := 60) ⟨by decide, by decide⟩ (by decide) d_Mdl_likenessOf_53 (fun c9 => absurd c9 (by decide)) (fun c9 => ?_)
  refine Aw.iconst d_Mdl_likenessOf_56 ?_
  refine Aw.goto (tgt := 126) (by decide) d_Mdl_likenessOf_57 ?_
  refine Aw.istore (by decide) d_Mdl_likenessOf_126 ?_
  refine Aw.toL (L' := [xr (some a0), xl v1, xu, xl v3, xu, xi v5, xi v6, xi v7, xi v8, xi 1, xi 0, xu]) rfl ?_
  refine Aw.iload rfl d_Mdl_likenessOf_128 ?_
  refine Aw.if_ne (tgt := 152) ⟨by decide, by decide⟩ (by decide) d_Mdl_likenessOf_130 (fun c8 => ?_) (fun c8 => absurd c8 (by decide))
  refine Aw.iconst d_Mdl_likenessOf_152 ?_
  refine Aw.istore (by decide) d_Mdl_likenessOf_153 ?_
  refine Aw.toL (L' := [xr (some a0), xl v1, xu, xl v3, xu, xi v5, xi v6, xi v7, xi v8, xi 1, xi 0, xi 0]) rfl ?_
  refine Aw.aload_n rfl d_Mdl_likenessOf_155 ?_
  obtain ⟨o1, h⟩ := h
  obtain ⟨b2, e3, h⟩ := h
  refine Aw.getRs (f := 811) 12 43 fl_Mdl_93 (by decide) (by decide) rfl rfl o1 e3 d_Mdl_likenessOf_156 ?_
  refine Aw.bipush (by decide) d_Mdl_likenessOf_159 ?_
  refine Aw.iload rfl d_Mdl_likenessOf_161 ?_
  refine Aw.imul d_Mdl_likenessOf_163 ?_
  refine Aw.iload rfl d_Mdl_likenessOf_164 ?_
  refine Aw.iadd d_Mdl_likenessOf_166 ?_
  refine Aw.iload rfl d_Mdl_likenessOf_167 ?_
  refine Aw.if_eq (tgt := 194) ⟨by decide, by decide⟩ (by decide) d_Mdl_likenessOf_169 (fun c7 => ?_) (fun c7 => absurd c7 (by decide))
  refine Aw.iload rfl d_Mdl_likenessOf_194 ?_
  obtain ⟨o4, h⟩ := h
  obtain ⟨o5, o6, h⟩ := h
  refine Aw.iast o4 o5 o6 ⟨by decide, by decide⟩ d_Mdl_likenessOf_196 ?_
  refine Aw.iinc rfl d_Mdl_likenessOf_197 ?_
  refine Aw.toL (L' := [xr (some a0), xl v1, xu, xl v3, xu, xi v5, xi v6, xi v7, xi (v8 + (-1)), xi 1, xi 0, xi 0]) rfl ?_
  refine Aw.goto (tgt := 25) (by decide) d_Mdl_likenessOf_200 ?_
  exact Aw.toW (L' := [xr (some a0), xl v1, xu, xl v3, xu, xi v5, xi v6, xi v7, xi (v8 + (-1)), xu, xu, xu]) ⟨Or.inr rfl, Or.inr rfl, Or.inr rfl, Or.inr rfl, Or.inr rfl, Or.inr rfl, Or.inr rfl, Or.inr rfl, Or.inr rfl, Or.inl rfl, Or.inl rfl, Or.inl rfl, trivial⟩ h
theorem b_Mdl_likenessOf_49 {Ω : Om} {R : Room} {F : QF} {k n : Nat} {σ : Sto} {a0 : Nat} {v1 : Int64} {v3 : Int64} {v5 : Int} {v6 : Int} {v7 : Int} {v8 : Int} {s0 : Int} (h : Q32 s0 ∧ ((s0 = (0 : Int) → sK σ a0 = 13 ∧ (∃ b3 : Nat, fR σ 811 a0 = some b3 ∧ sK σ b3 = 50 ∧ 0 ≤ ((9 * (v7 + 1)) + v8) ∧ ((9 * (v7 + 1)) + v8) < sZ σ b3 ∧ (Q32 (aI σ b3 ((9 * (v7 + 1)) + v8).toNat) → 0 ≤ (((9 * v7) + v8) + 1) ∧ (((9 * v7) + v8) + 1) < sZ σ b3 ∧ (Q32 (aI σ b3 (((9 * v7) + v8) + 1).toNat) → (((aI σ b3 ((9 * (v7 + 1)) + v8).toNat) ≤ (aI σ b3 (((9 * v7) + v8) + 1).toNat) → (Q32 (aI σ b3 (((9 * v7) + v8) + 1).toNat) → ((¬ s0 = (0 : Int) → 0 ≤ ((9 * v7) + v8) ∧ ((9 * v7) + v8) < sZ σ b3 ∧ Aw Ω M_Mdl_likenessOf R F k n 25 [xr (some a0), xl v1, xu, xl v3, xu, xi v5, xi v6, xi v7, xi (v8 + (-1)), xu, xu, xu] [] (vI σ b3 ((9 * v7) + v8).toNat (aI σ b3 (((9 * v7) + v8) + 1).toNat))) ∧ (s0 = (0 : Int) → Aw Ω M_Mdl_likenessOf R F k n 136 [xr (some a0), xl v1, xu, xl v3, xu, xi v5, xi v6, xi v7, xi v8, xi s0, xi (aI σ b3 (((9 * v7) + v8) + 1).toNat), xu] [xi v7, xl v1] σ)))) ∧ (¬ (aI σ b3 ((9 * (v7 + 1)) + v8).toNat) ≤ (aI σ b3 (((9 * v7) + v8) + 1).toNat) → (Q32 (aI σ b3 ((9 * (v7 + 1)) + v8).toNat) → ((¬ s0 = (0 : Int) → 0 ≤ ((9 * v7) + v8) ∧ ((9 * v7) + v8) < sZ σ b3 ∧ Aw Ω M_Mdl_likenessOf R F k n 25 [xr (some a0), xl v1, xu, xl v3, xu, xi v5, xi v6, xi v7, xi (v8 + (-1)), xu, xu, xu] [] (vI σ b3 ((9 * v7) + v8).toNat (aI σ b3 ((9 * (v7 + 1)) + v8).toNat))) ∧ (s0 = (0 : Int) → Aw Ω M_Mdl_likenessOf R F k n 136 [xr (some a0), xl v1, xu, xl v3, xu, xi v5, xi v6, xi v7, xi v8, xi s0, xi (aI σ b3 ((9 * (v7 + 1)) + v8).toNat), xu] [xi v7, xl v1] σ))))))))) ∧ (¬ s0 = (0 : Int) → ((¬ s0 = (0 : Int) → sK σ a0 = 13 ∧ (∃ b24 : Nat, fR σ 811 a0 = some b24 ∧ sK σ b24 = 50 ∧ 0 ≤ ((9 * v7) + v8) ∧ ((9 * v7) + v8) < sZ σ b24 ∧ Aw Ω M_Mdl_likenessOf R F k n 25 [xr (some a0), xl v1, xu, xl v3, xu, xi v5, xi v6, xi v7, xi (v8 + (-1)), xu, xu, xu] [] (vI σ b24 ((9 * v7) + v8).toNat 0))) ∧ (s0 = (0 : Int) → Aw Ω M_Mdl_likenessOf R F k n 136 [xr (some a0), xl v1, xu, xl v3, xu, xi v5, xi v6, xi v7, xi v8, xi s0, xi 0, xu] [xi v7, xl v1] σ))))) : Aw Ω M_Mdl_likenessOf R F k n 49 [xr (some a0), xl v1, xu, xl v3, xu, xi v5, xi v6, xi v7, xi v8, xu, xu, xu] [xi s0] σ := by
  refine Aw.istore (by decide) d_Mdl_likenessOf_49 ?_
  refine Aw.toL (L' := [xr (some a0), xl v1, xu, xl v3, xu, xi v5, xi v6, xi v7, xi v8, xi s0, xu, xu]) rfl ?_
  refine Aw.iload rfl d_Mdl_likenessOf_51 ?_
  obtain ⟨o1, h⟩ := h
  obtain ⟨ht, hf⟩ := h
  refine Aw.if_eq (tgt := 60) o1 (by decide) d_Mdl_likenessOf_53 (fun c31 => ?_) (fun c31 => ?_)
  · have h := ht c31
    refine Aw.aload_n rfl d_Mdl_likenessOf_60 ?_
    obtain ⟨o2, h⟩ := h
    obtain ⟨b3, e4, h⟩ := h
    refine Aw.getRs (f := 811) 12 43 fl_Mdl_93 (by decide) (by decide) rfl rfl o2 e4 d_Mdl_likenessOf_61 ?_
    refine Aw.bipush (by decide) d_Mdl_likenessOf_64 ?_
    refine Aw.iload rfl d_Mdl_likenessOf_66 ?_
    refine Aw.iconst d_Mdl_likenessOf_68 ?_
    refine Aw.iadd d_Mdl_likenessOf_69 ?_
    refine Aw.imul d_Mdl_likenessOf_70 ?_
    refine Aw.iload rfl d_Mdl_likenessOf_71 ?_
    refine Aw.iadd d_Mdl_likenessOf_73 ?_
    obtain ⟨o5, h⟩ := h
    obtain ⟨o6, o7, h⟩ := h
    refine Aw.iald o5 o6 o7 d_Mdl_likenessOf_74 (fun r8 => ?_)
    have h := h r8
    refine Aw.aload_n rfl d_Mdl_likenessOf_75 ?_
    refine Aw.getRs (f := 811) 12 43 fl_Mdl_93 (by decide) (by decide) rfl rfl o2 e4 d_Mdl_likenessOf_76 ?_
    refine Aw.bipush (by decide) d_Mdl_likenessOf_79 ?_
    refine Aw.iload rfl d_Mdl_likenessOf_81 ?_
    refine Aw.imul d_Mdl_likenessOf_83 ?_
    refine Aw.iload rfl d_Mdl_likenessOf_84 ?_
    refine Aw.iadd d_Mdl_likenessOf_86 ?_
    refine Aw.iconst d_Mdl_likenessOf_87 ?_
    refine Aw.iadd d_Mdl_likenessOf_88 ?_
    obtain ⟨o9, o10, h⟩ := h
    refine Aw.iald o5 o9 o10 d_Mdl_likenessOf_89 (fun r11 => ?_)
    have h := h r11
    obtain ⟨ht, hf⟩ := h
    refine Aw.icmp_le (tgt := 111) r8 r11 (by decide) d_Mdl_likenessOf_90 (fun c22 => ?_) (fun c22 => ?_)
    · have h := ht c22
      refine Aw.aload_n rfl d_Mdl_likenessOf_111 ?_
      refine Aw.getRs (f := 811) 12 43 fl_Mdl_93 (by decide) (by decide) rfl rfl o2 e4 d_Mdl_likenessOf_112 ?_
      refine Aw.bipush (by decide) d_Mdl_likenessOf_115 ?_
      refine Aw.iload rfl d_Mdl_likenessOf_117 ?_
      refine Aw.imul d_Mdl_likenessOf_119 ?_
      refine Aw.iload rfl d_Mdl_likenessOf_120 ?_
      refine Aw.iadd d_Mdl_likenessOf_122 ?_
      refine Aw.iconst d_Mdl_likenessOf_123 ?_
      refine Aw.iadd d_Mdl_likenessOf_124 ?_
      refine Aw.iald o5 o9 o10 d_Mdl_likenessOf_125 (fun r12 => ?_)
      have h := h r12
      refine Aw.istore (by decide) d_Mdl_likenessOf_126 ?_
      refine Aw.toL (L' := [xr (some a0), xl v1, xu, xl v3, xu, xi v5, xi v6, xi v7, xi v8, xi s0, xi (aI σ b3 (((9 * v7) + v8) + 1).toNat), xu]) rfl ?_
      refine Aw.iload rfl d_Mdl_likenessOf_128 ?_
      obtain ⟨ht, hf⟩ := h
      refine Aw.if_ne (tgt := 152) o1 (by decide) d_Mdl_likenessOf_130 (fun c16 => ?_) (fun c16 => ?_)
      · have h := ht c16
        refine Aw.iconst d_Mdl_likenessOf_152 ?_
        refine Aw.istore (by decide) d_Mdl_likenessOf_153 ?_
        refine Aw.toL (L' := [xr (some a0), xl v1, xu, xl v3, xu, xi v5, xi v6, xi v7, xi v8, xi s0, xi (aI σ b3 (((9 * v7) + v8) + 1).toNat), xi 0]) rfl ?_
        refine Aw.aload_n rfl d_Mdl_likenessOf_155 ?_
        refine Aw.getRs (f := 811) 12 43 fl_Mdl_93 (by decide) (by decide) rfl rfl o2 e4 d_Mdl_likenessOf_156 ?_
        refine Aw.bipush (by decide) d_Mdl_likenessOf_159 ?_
        refine Aw.iload rfl d_Mdl_likenessOf_161 ?_
        refine Aw.imul d_Mdl_likenessOf_163 ?_
        refine Aw.iload rfl d_Mdl_likenessOf_164 ?_
        refine Aw.iadd d_Mdl_likenessOf_166 ?_
        refine Aw.iload rfl d_Mdl_likenessOf_167 ?_
        refine Aw.if_eq (tgt := 194) ⟨by decide, by decide⟩ (by decide) d_Mdl_likenessOf_169 (fun c15 => ?_) (fun c15 => absurd c15 (by decide))
        refine Aw.iload rfl d_Mdl_likenessOf_194 ?_
        obtain ⟨o13, o14, h⟩ := h
        refine Aw.iast o5 o13 o14 r11 d_Mdl_likenessOf_196 ?_
        refine Aw.iinc rfl d_Mdl_likenessOf_197 ?_
        refine Aw.toL (L' := [xr (some a0), xl v1, xu, xl v3, xu, xi v5, xi v6, xi v7, xi (v8 + (-1)), xi s0, xi (aI σ b3 (((9 * v7) + v8) + 1).toNat), xi 0]) rfl ?_
        refine Aw.goto (tgt := 25) (by decide) d_Mdl_likenessOf_200 ?_
        exact Aw.toW (L' := [xr (some a0), xl v1, xu, xl v3, xu, xi v5, xi v6, xi v7, xi (v8 + (-1)), xu, xu, xu]) ⟨Or.inr rfl, Or.inr rfl, Or.inr rfl, Or.inr rfl, Or.inr rfl, Or.inr rfl, Or.inr rfl, Or.inr rfl, Or.inr rfl, Or.inl rfl, Or.inl rfl, Or.inl rfl, trivial⟩ h
      · have h := hf c16
        refine Aw.lload_n rfl d_Mdl_likenessOf_133 ?_
        refine Aw.iload rfl d_Mdl_likenessOf_134 ?_
        exact h
    · have h := hf c22
      refine Aw.aload_n rfl d_Mdl_likenessOf_93 ?_
      refine Aw.getRs (f := 811) 12 43 fl_Mdl_93 (by decide) (by decide) rfl rfl o2 e4 d_Mdl_likenessOf_94 ?_
      refine Aw.bipush (by decide) d_Mdl_likenessOf_97 ?_
      refine Aw.iload rfl d_Mdl_likenessOf_99 ?_
      refine Aw.iconst d_Mdl_likenessOf_101 ?_
      refine Aw.iadd d_Mdl_likenessOf_102 ?_
      refine Aw.imul d_Mdl_likenessOf_103 ?_
      refine Aw.iload rfl d_Mdl_likenessOf_104 ?_
      refine Aw.iadd d_Mdl_likenessOf_106 ?_
      refine Aw.iald o5 o6 o7 d_Mdl_likenessOf_107 (fun r17 => ?_)
      have h := h r17
      refine Aw.goto (tgt := 126) (by decide) d_Mdl_likenessOf_108 ?_
      refine Aw.istore (by decide) d_Mdl_likenessOf_126 ?_
      refine Aw.toL (L' := [xr (some a0), xl v1, xu, xl v3, xu, xi v5, xi v6, xi v7, xi v8, xi s0, xi (aI σ b3 ((9 * (v7 + 1)) + v8).toNat), xu]) rfl ?_
      refine Aw.iload rfl d_Mdl_likenessOf_128 ?_
      obtain ⟨ht, hf⟩ := h
      refine Aw.if_ne (tgt := 152) o1 (by decide) d_Mdl_likenessOf_130 (fun c21 => ?_) (fun c21 => ?_)
      · have h := ht c21
        refine Aw.iconst d_Mdl_likenessOf_152 ?_
        refine Aw.istore (by decide) d_Mdl_likenessOf_153 ?_
        refine Aw.toL (L' := [xr (some a0), xl v1, xu, xl v3, xu, xi v5, xi v6, xi v7, xi v8, xi s0, xi (aI σ b3 ((9 * (v7 + 1)) + v8).toNat), xi 0]) rfl ?_
        refine Aw.aload_n rfl d_Mdl_likenessOf_155 ?_
        refine Aw.getRs (f := 811) 12 43 fl_Mdl_93 (by decide) (by decide) rfl rfl o2 e4 d_Mdl_likenessOf_156 ?_
        refine Aw.bipush (by decide) d_Mdl_likenessOf_159 ?_
        refine Aw.iload rfl d_Mdl_likenessOf_161 ?_
        refine Aw.imul d_Mdl_likenessOf_163 ?_
        refine Aw.iload rfl d_Mdl_likenessOf_164 ?_
        refine Aw.iadd d_Mdl_likenessOf_166 ?_
        refine Aw.iload rfl d_Mdl_likenessOf_167 ?_
        refine Aw.if_eq (tgt := 194) ⟨by decide, by decide⟩ (by decide) d_Mdl_likenessOf_169 (fun c20 => ?_) (fun c20 => absurd c20 (by decide))
        refine Aw.iload rfl d_Mdl_likenessOf_194 ?_
        obtain ⟨o18, o19, h⟩ := h
        refine Aw.iast o5 o18 o19 r8 d_Mdl_likenessOf_196 ?_
        refine Aw.iinc rfl d_Mdl_likenessOf_197 ?_
        refine Aw.toL (L' := [xr (some a0), xl v1, xu, xl v3, xu, xi v5, xi v6, xi v7, xi (v8 + (-1)), xi s0, xi (aI σ b3 ((9 * (v7 + 1)) + v8).toNat), xi 0]) rfl ?_
        refine Aw.goto (tgt := 25) (by decide) d_Mdl_likenessOf_200 ?_
        exact Aw.toW (L' := [xr (some a0), xl v1, xu, xl v3, xu, xi v5, xi v6, xi v7, xi (v8 + (-1)), xu, xu, xu]) ⟨Or.inr rfl, Or.inr rfl, Or.inr rfl, Or.inr rfl, Or.inr rfl, Or.inr rfl, Or.inr rfl, Or.inr rfl, Or.inr rfl, Or.inl rfl, Or.inl rfl, Or.inl rfl, trivial⟩ h
      · have h := hf c21
        refine Aw.lload_n rfl d_Mdl_likenessOf_133 ?_
        refine Aw.iload rfl d_Mdl_likenessOf_134 ?_
        exact h
  · have h := hf c31
    refine Aw.iconst d_Mdl_likenessOf_56 ?_
    refine Aw.goto (tgt := 126) (by decide) d_Mdl_likenessOf_57 ?_
    refine Aw.istore (by decide) d_Mdl_likenessOf_126 ?_
    refine Aw.toL (L' := [xr (some a0), xl v1, xu, xl v3, xu, xi v5, xi v6, xi v7, xi v8, xi s0, xi 0, xu]) rfl ?_
    refine Aw.iload rfl d_Mdl_likenessOf_128 ?_
    obtain ⟨ht, hf⟩ := h
    refine Aw.if_ne (tgt := 152) o1 (by decide) d_Mdl_likenessOf_130 (fun c30 => ?_) (fun c30 => ?_)
    · have h := ht c30
      refine Aw.iconst d_Mdl_likenessOf_152 ?_
      refine Aw.istore (by decide) d_Mdl_likenessOf_153 ?_
      refine Aw.toL (L' := [xr (some a0), xl v1, xu, xl v3, xu, xi v5, xi v6, xi v7, xi v8, xi s0, xi 0, xi 0]) rfl ?_
      refine Aw.aload_n rfl d_Mdl_likenessOf_155 ?_
      obtain ⟨o23, h⟩ := h
      obtain ⟨b24, e25, h⟩ := h
      refine Aw.getRs (f := 811) 12 43 fl_Mdl_93 (by decide) (by decide) rfl rfl o23 e25 d_Mdl_likenessOf_156 ?_
      refine Aw.bipush (by decide) d_Mdl_likenessOf_159 ?_
      refine Aw.iload rfl d_Mdl_likenessOf_161 ?_
      refine Aw.imul d_Mdl_likenessOf_163 ?_
      refine Aw.iload rfl d_Mdl_likenessOf_164 ?_
      refine Aw.iadd d_Mdl_likenessOf_166 ?_
      refine Aw.iload rfl d_Mdl_likenessOf_167 ?_
      refine Aw.if_eq (tgt := 194) ⟨by decide, by decide⟩ (by decide) d_Mdl_likenessOf_169 (fun c29 => ?_) (fun c29 => absurd c29 (by decide))
      refine Aw.iload rfl d_Mdl_likenessOf_194 ?_
      obtain ⟨o26, h⟩ := h
      obtain ⟨o27, o28, h⟩ := h
      refine Aw.iast o26 o27 o28 ⟨by decide, by decide⟩ d_Mdl_likenessOf_196 ?_
      refine Aw.iinc rfl d_Mdl_likenessOf_197 ?_
      refine Aw.toL (L' := [xr (some a0), xl v1, xu, xl v3, xu, xi v5, xi v6, xi v7, xi (v8 + (-1)), xi s0, xi 0, xi 0]) rfl ?_
      refine Aw.goto (tgt := 25) (by decide) d_Mdl_likenessOf_200 ?_
      exact Aw.toW (L' := [xr (some a0), xl v1, xu, xl v3, xu, xi v5, xi v6, xi v7, xi (v8 + (-1)), xu, xu, xu]) ⟨Or.inr rfl, Or.inr rfl, Or.inr rfl, Or.inr rfl, Or.inr rfl, Or.inr rfl, Or.inr rfl, Or.inr rfl, Or.inr rfl, Or.inl rfl, Or.inl rfl, Or.inl rfl, trivial⟩ h
    · have h := hf c30
      refine Aw.lload_n rfl d_Mdl_likenessOf_133 ?_
      refine Aw.iload rfl d_Mdl_likenessOf_134 ?_
      exact h
theorem b_Mdl_likenessOf_139 {Ω : Om} {R : Room} {F : QF} {k n : Nat} {σ : Sto} {a0 : Nat} {v1 : Int64} {v3 : Int64} {v5 : Int} {v6 : Int} {v7 : Int} {v8 : Int} {v9 : Int} {v10 : Int} {s0 : Int} (h : Aw Ω M_Mdl_likenessOf R F k n 142 [xr (some a0), xl v1, xu, xl v3, xu, xi v5, xi v6, xi v7, xi v8, xi v9, xi v10, xu] [xi v8, xl v3, xi s0] σ) : Aw Ω M_Mdl_likenessOf R F k n 139 [xr (some a0), xl v1, xu, xl v3, xu, xi v5, xi v6, xi v7, xi v8, xi v9, xi v10, xu] [xi s0] σ := by
  refine Aw.lload_n rfl d_Mdl_likenessOf_139 ?_
  refine Aw.iload rfl d_Mdl_likenessOf_140 ?_
  exact h
theorem b_Mdl_likenessOf_145 {Ω : Om} {R : Room} {F : QF} {k n : Nat} {σ : Sto} {a0 : Nat} {v1 : Int64} {v3 : Int64} {v5 : Int} {v6 : Int} {v7 : Int} {v8 : Int} {v9 : Int} {v10 : Int} {s0 : Int} {s1 : Int} (h : Q32 s0 ∧ Q32 s1 ∧ ((¬ s0 = s1 → sK σ a0 = 13 ∧ (∃ b4 : Nat, fR σ 811 a0 = some b4 ∧ sK σ b4 = 50 ∧ 0 ≤ ((9 * v7) + v8) ∧ ((9 * v7) + v8) < sZ σ b4 ∧ Q32 v10 ∧ Aw Ω M_Mdl_likenessOf R F k n 25 [xr (some a0), xl v1, xu, xl v3, xu, xi v5, xi v6, xi v7, xi (v8 + (-1)), xu, xu, xu] [] (vI σ b4 ((9 * v7) + v8).toNat v10))) ∧ (s0 = s1 → sK σ a0 = 13 ∧ (∃ b12 : Nat, fR σ 811 a0 = some b12 ∧ sK σ b12 = 50 ∧ 0 ≤ (((9 * (v7 + 1)) + v8) + 1) ∧ (((9 * (v7 + 1)) + v8) + 1) < sZ σ b12 ∧ (Q32 (aI σ b12 (((9 * (v7 + 1)) + v8) + 1).toNat) → 0 ≤ ((9 * v7) + v8) ∧ ((9 * v7) + v8) < sZ σ b12 ∧ Q32 ((aI σ b12 (((9 * (v7 + 1)) + v8) + 1).toNat) + 1) ∧ Aw Ω M_Mdl_likenessOf R F k n 25 [xr (some a0), xl v1, xu, xl v3, xu, xi v5, xi v6, xi v7, xi (v8 + (-1)), xu, xu, xu] [] (vI σ b12 ((9 * v7) + v8).toNat ((aI σ b12 (((9 * (v7 + 1)) + v8) + 1).toNat) + 1))))))) : Aw Ω M_Mdl_likenessOf R F k n 145 [xr (some a0), xl v1, xu, xl v3, xu, xi v5, xi v6, xi v7, xi v8, xi v9, xi v10, xu] [xi s1, xi s0] σ := by
  obtain ⟨o1, h⟩ := h
  obtain ⟨o2, h⟩ := h
  obtain ⟨ht, hf⟩ := h
  refine Aw.icmp_ne (tgt := 152) o1 o2 (by decide) d_Mdl_likenessOf_145 (fun c22 => ?_) (fun c22 => ?_)
  · have h := ht c22
    refine Aw.iconst d_Mdl_likenessOf_152 ?_
    refine Aw.istore (by decide) d_Mdl_likenessOf_153 ?_
    refine Aw.toL (L' := [xr (some a0), xl v1, xu, xl v3, xu, xi v5, xi v6, xi v7, xi v8, xi v9, xi v10, xi 0]) rfl ?_
    refine Aw.aload_n rfl d_Mdl_likenessOf_155 ?_
    obtain ⟨o3, h⟩ := h
    obtain ⟨b4, e5, h⟩ := h
    refine Aw.getRs (f := 811) 12 43 fl_Mdl_93 (by decide) (by decide) rfl rfl o3 e5 d_Mdl_likenessOf_156 ?_
    refine Aw.bipush (by decide) d_Mdl_likenessOf_159 ?_
    refine Aw.iload rfl d_Mdl_likenessOf_161 ?_
    refine Aw.imul d_Mdl_likenessOf_163 ?_
    refine Aw.iload rfl d_Mdl_likenessOf_164 ?_
    refine Aw.iadd d_Mdl_likenessOf_166 ?_
    refine Aw.iload rfl d_Mdl_likenessOf_167 ?_
    refine Aw.if_eq (tgt := 194) ⟨by decide, by decide⟩ (by decide) d_Mdl_likenessOf_169 (fun c10 => ?_) (fun c10 => absurd c10 (by decide))
    refine Aw.iload rfl d_Mdl_likenessOf_194 ?_
    obtain ⟨o6, h⟩ := h
    obtain ⟨o7, o8, h⟩ := h
    obtain ⟨o9, h⟩ := h
    refine Aw.iast o6 o7 o8 o9 d_Mdl_likenessOf_196 ?_
    refine Aw.iinc rfl d_Mdl_likenessOf_197 ?_
    refine Aw.toL (L' := [xr (some a0), xl v1, xu, xl v3, xu, xi v5, xi v6, xi v7, xi (v8 + (-1)), xi v9, xi v10, xi 0]) rfl ?_
    refine Aw.goto (tgt := 25) (by decide) d_Mdl_likenessOf_200 ?_
    exact Aw.toW (L' := [xr (some a0), xl v1, xu, xl v3, xu, xi v5, xi v6, xi v7, xi (v8 + (-1)), xu, xu, xu]) ⟨Or.inr rfl, Or.inr rfl, Or.inr rfl, Or.inr rfl, Or.inr rfl, Or.inr rfl, Or.inr rfl, Or.inr rfl, Or.inr rfl, Or.inl rfl, Or.inl rfl, Or.inl rfl, trivial⟩ h
  · have h := hf c22
    refine Aw.iconst d_Mdl_likenessOf_148 ?_
    refine Aw.goto (tgt := 153) (by decide) d_Mdl_likenessOf_149 ?_
    refine Aw.istore (by decide) d_Mdl_likenessOf_153 ?_
    refine Aw.toL (L' := [xr (some a0), xl v1, xu, xl v3, xu, xi v5, xi v6, xi v7, xi v8, xi v9, xi v10, xi 1]) rfl ?_
    refine Aw.aload_n rfl d_Mdl_likenessOf_155 ?_
    obtain ⟨o11, h⟩ := h
    obtain ⟨b12, e13, h⟩ := h
    refine Aw.getRs (f := 811) 12 43 fl_Mdl_93 (by decide) (by decide) rfl rfl o11 e13 d_Mdl_likenessOf_156 ?_
    refine Aw.bipush (by decide) d_Mdl_likenessOf_159 ?_
    refine Aw.iload rfl d_Mdl_likenessOf_161 ?_
    refine Aw.imul d_Mdl_likenessOf_163 ?_
    refine Aw.iload rfl d_Mdl_likenessOf_164 ?_
    refine Aw.iadd d_Mdl_likenessOf_166 ?_
    refine Aw.iload rfl d_Mdl_likenessOf_167 ?_
    refine Aw.if_eq (tgt := 194) ⟨by decide, by decide⟩ (by decide) d_Mdl_likenessOf_169 (fun c21 => absurd c21 (by decide)) (fun c21 => ?_)
    refine Aw.aload_n rfl d_Mdl_likenessOf_172 ?_
    refine Aw.getRs (f := 811) 12 43 fl_Mdl_93 (by decide) (by decide) rfl rfl o11 e13 d_Mdl_likenessOf_173 ?_
    refine Aw.bipush (by decide) d_Mdl_likenessOf_176 ?_
    refine Aw.iload rfl d_Mdl_likenessOf_178 ?_
    refine Aw.iconst d_Mdl_likenessOf_180 ?_
    refine Aw.iadd d_Mdl_likenessOf_181 ?_
    refine Aw.imul d_Mdl_likenessOf_182 ?_
    refine Aw.iload rfl d_Mdl_likenessOf_183 ?_
    refine Aw.iadd d_Mdl_likenessOf_185 ?_
    refine Aw.iconst d_Mdl_likenessOf_186 ?_
    refine Aw.iadd d_Mdl_likenessOf_187 ?_
    obtain ⟨o14, h⟩ := h
    obtain ⟨o15, o16, h⟩ := h
    refine Aw.iald o14 o15 o16 d_Mdl_likenessOf_188 (fun r17 => ?_)
    have h := h r17
    refine Aw.iconst d_Mdl_likenessOf_189 ?_
    refine Aw.iadd d_Mdl_likenessOf_190 ?_
    refine Aw.goto (tgt := 196) (by decide) d_Mdl_likenessOf_191 ?_
    obtain ⟨o18, o19, h⟩ := h
    obtain ⟨o20, h⟩ := h
    refine Aw.iast o14 o18 o19 o20 d_Mdl_likenessOf_196 ?_
    refine Aw.iinc rfl d_Mdl_likenessOf_197 ?_
    refine Aw.toL (L' := [xr (some a0), xl v1, xu, xl v3, xu, xi v5, xi v6, xi v7, xi (v8 + (-1)), xi v9, xi v10, xi 1]) rfl ?_
    refine Aw.goto (tgt := 25) (by decide) d_Mdl_likenessOf_200 ?_
    exact Aw.toW (L' := [xr (some a0), xl v1, xu, xl v3, xu, xi v5, xi v6, xi v7, xi (v8 + (-1)), xu, xu, xu]) ⟨Or.inr rfl, Or.inr rfl, Or.inr rfl, Or.inr rfl, Or.inr rfl, Or.inr rfl, Or.inr rfl, Or.inr rfl, Or.inr rfl, Or.inl rfl, Or.inl rfl, Or.inl rfl, trivial⟩ h
theorem c_Mdl_likenessOf_1 {Ω : Om} {R R' : Room} {F : QF} {k n : Nat} {L st : List PV} {σ : Sto} {QX' : String → Sto → Prop} {Q : Int → Sto → Prop} {x0 : Int64} (hc : MC Ω M_Mdl_length R' (RI Q) QX' σ [xl x0]) (hr1 : R'.frames + 1 ≤ R.frames) (hr2 : 8 + (3 + 11) + R'.locals ≤ R.locals) (hb1 : k + R'.cells ≤ R.cells) (hb2 : n + R'.slots ≤ R.slots) (hst : (st.map catP).sum ≤ 8) (kk : ∀ x σ', Q x σ' → Aw Ω M_Mdl_likenessOf R F (k + R'.cells) (n + R'.slots) 4 L (xi x :: st) σ') (kx : ∀ E σ', QX' E σ' → Ax Ω M_Mdl_likenessOf R F (k + R'.cells) (n + R'.slots) 1 L st σ' E) : Aw Ω M_Mdl_likenessOf R F k n 1 L (xl x0 :: st) σ :=
  Aw.callS (As := [xl x0]) (stk := xl x0 :: st) (nn := 1) M_Mdl_length hc ok_Mdl_length rfl ml_Mdl_140 sta_Mdl_length ⟨hr1, hr2⟩ rfl ⟨hb1, hb2⟩ hst rfl d_Mdl_likenessOf_1 (fun r σ' h => by obtain ⟨x, rfl, h⟩ := h; exact kk x σ' h) kx
theorem c_Mdl_likenessOf_7 {Ω : Om} {R R' : Room} {F : QF} {k n : Nat} {L st : List PV} {σ : Sto} {QX' : String → Sto → Prop} {Q : Int → Sto → Prop} {x0 : Int64} (hc : MC Ω M_Mdl_length R' (RI Q) QX' σ [xl x0]) (hr1 : R'.frames + 1 ≤ R.frames) (hr2 : 8 + (3 + 11) + R'.locals ≤ R.locals) (hb1 : k + R'.cells ≤ R.cells) (hb2 : n + R'.slots ≤ R.slots) (hst : (st.map catP).sum ≤ 8) (kk : ∀ x σ', Q x σ' → Aw Ω M_Mdl_likenessOf R F (k + R'.cells) (n + R'.slots) 10 L (xi x :: st) σ') (kx : ∀ E σ', QX' E σ' → Ax Ω M_Mdl_likenessOf R F (k + R'.cells) (n + R'.slots) 7 L st σ' E) : Aw Ω M_Mdl_likenessOf R F k n 7 L (xl x0 :: st) σ :=
  Aw.callS (As := [xl x0]) (stk := xl x0 :: st) (nn := 1) M_Mdl_length hc ok_Mdl_length rfl ml_Mdl_140 sta_Mdl_length ⟨hr1, hr2⟩ rfl ⟨hb1, hb2⟩ hst rfl d_Mdl_likenessOf_7 (fun r σ' h => by obtain ⟨x, rfl, h⟩ := h; exact kk x σ' h) kx
theorem c_Mdl_likenessOf_136 {Ω : Om} {R R' : Room} {F : QF} {k n : Nat} {L st : List PV} {σ : Sto} {QX' : String → Sto → Prop} {Q : Int → Sto → Prop} {x0 : Int64} {x1 : Int} (hc : MC Ω M_Mdl_signAt R' (RI Q) QX' σ [xl x0, xi x1]) (hr1 : R'.frames + 1 ≤ R.frames) (hr2 : 8 + (3 + 11) + R'.locals ≤ R.locals) (hb1 : k + R'.cells ≤ R.cells) (hb2 : n + R'.slots ≤ R.slots) (hst : (st.map catP).sum ≤ 8) (kk : ∀ x σ', Q x σ' → Aw Ω M_Mdl_likenessOf R F (k + R'.cells) (n + R'.slots) 139 L (xi x :: st) σ') (kx : ∀ E σ', QX' E σ' → Ax Ω M_Mdl_likenessOf R F (k + R'.cells) (n + R'.slots) 136 L st σ' E) : Aw Ω M_Mdl_likenessOf R F k n 136 L (xi x1 :: xl x0 :: st) σ :=
  Aw.callS (As := [xl x0, xi x1]) (stk := xi x1 :: xl x0 :: st) (nn := 2) M_Mdl_signAt hc ok_Mdl_signAt rfl ml_Mdl_136 sta_Mdl_signAt ⟨hr1, hr2⟩ rfl ⟨hb1, hb2⟩ hst rfl d_Mdl_likenessOf_136 (fun r σ' h => by obtain ⟨x, rfl, h⟩ := h; exact kk x σ' h) kx
theorem c_Mdl_likenessOf_142 {Ω : Om} {R R' : Room} {F : QF} {k n : Nat} {L st : List PV} {σ : Sto} {QX' : String → Sto → Prop} {Q : Int → Sto → Prop} {x0 : Int64} {x1 : Int} (hc : MC Ω M_Mdl_signAt R' (RI Q) QX' σ [xl x0, xi x1]) (hr1 : R'.frames + 1 ≤ R.frames) (hr2 : 8 + (3 + 11) + R'.locals ≤ R.locals) (hb1 : k + R'.cells ≤ R.cells) (hb2 : n + R'.slots ≤ R.slots) (hst : (st.map catP).sum ≤ 8) (kk : ∀ x σ', Q x σ' → Aw Ω M_Mdl_likenessOf R F (k + R'.cells) (n + R'.slots) 145 L (xi x :: st) σ') (kx : ∀ E σ', QX' E σ' → Ax Ω M_Mdl_likenessOf R F (k + R'.cells) (n + R'.slots) 142 L st σ' E) : Aw Ω M_Mdl_likenessOf R F k n 142 L (xi x1 :: xl x0 :: st) σ :=
  Aw.callS (As := [xl x0, xi x1]) (stk := xi x1 :: xl x0 :: st) (nn := 2) M_Mdl_signAt hc ok_Mdl_signAt rfl ml_Mdl_136 sta_Mdl_signAt ⟨hr1, hr2⟩ rfl ⟨hb1, hb2⟩ hst rfl d_Mdl_likenessOf_142 (fun r σ' h => by obtain ⟨x, rfl, h⟩ := h; exact kk x σ' h) kx
theorem r_Mdl_likenessOf_225 {Ω : Om} {R : Room} {k n : Nat} {L : List PV} {σ : Sto} {QR : Option PV → Sto → Prop} {QX : String → Sto → Prop} {x : Int} (h : QR (some (xi x)) σ) (h1 : k ≤ R.cells) (h2 : n ≤ R.slots) : Aw Ω M_Mdl_likenessOf R (MF Ω R QR QX) k n 225 L [xi x] σ := Aw.iret rfl h h1 h2 d_Mdl_likenessOf_225
theorem e_Mdl_commit {Ω : Om} {R : Room} {QR : Option PV → Sto → Prop} {QX : String → Sto → Prop} {σ : Sto} {a0 : Nat} (h : Aw Ω M_Mdl_commit R (MF Ω R QR QX) 0 0 0 [xr (some a0), xu] [] σ) : MC Ω M_Mdl_commit R QR QX σ [xr (some a0)] := MC.body (by decide +kernel) rfl (Nat.le_of_ble_eq_true rfl) rfl h
theorem b_Mdl_commit_0 {Ω : Om} {R : Room} {F : QF} {k n : Nat} {σ : Sto} {a0 : Nat} (h : sK σ a0 = 13 ∧ (Q32 (fI σ 779 a0) → (((fI σ 779 a0) = (0 : Int) → Aw Ω M_Mdl_commit R F k n 29 [xr (some a0), xu] [xi 1, xr (some a0)] σ) ∧ (¬ (fI σ 779 a0) = (0 : Int) → Aw Ω M_Mdl_commit R F k n 9 [xr (some a0), xu] [xr (some a0), xr (some a0)] σ)))) : Aw Ω M_Mdl_commit R F k n 0 [xr (some a0), xu] [] σ := by
  refine Aw.aload_n rfl d_Mdl_commit_0 ?_
  refine Aw.aload_n rfl d_Mdl_commit_1 ?_
  obtain ⟨o1, h⟩ := h
  refine Aw.getI (f := 779) 12 11 fl_Mdl_178 (by decide) (by decide) rfl rfl o1 d_Mdl_commit_2 (fun r2 => ?_)
  have h := h r2
  obtain ⟨ht, hf⟩ := h
  refine Aw.if_eq (tgt := 28) r2 (by decide) d_Mdl_commit_5 (fun c3 => ?_) (fun c3 => ?_)
  · have h := ht c3
    refine Aw.iconst d_Mdl_commit_28 ?_
    exact h
  · have h := hf c3
    refine Aw.aload_n rfl d_Mdl_commit_8 ?_
    exact h
theorem b_Mdl_commit_12 {Ω : Om} {R : Room} {F : QF} {k n : Nat} {σ : Sto} {a0 : Nat} {s0 : Nat} {s1 : Int} (h : Q32 s1 ∧ ((s1 = (0 : Int) → Aw Ω M_Mdl_commit R F k n 29 [xr (some a0), xu] [xi 1, xr (some s0)] σ) ∧ (¬ s1 = (0 : Int) → sK σ a0 = 13 ∧ (Q32 (fI σ 773 a0) → (((40 : Int) ≤ (fI σ 773 a0) → Aw Ω M_Mdl_commit R F k n 29 [xr (some a0), xu] [xi 1, xr (some s0)] σ) ∧ (¬ (40 : Int) ≤ (fI σ 773 a0) → Aw Ω M_Mdl_commit R F k n 29 [xr (some a0), xu] [xi 0, xr (some s0)] σ)))))) : Aw Ω M_Mdl_commit R F k n 12 [xr (some a0), xu] [xi s1, xr (some s0)] σ := by
  obtain ⟨o1, h⟩ := h
  obtain ⟨ht, hf⟩ := h
  refine Aw.if_eq (tgt := 28) o1 (by decide) d_Mdl_commit_12 (fun c5 => ?_) (fun c5 => ?_)
  · have h := ht c5
    refine Aw.iconst d_Mdl_commit_28 ?_
    exact h
  · have h := hf c5
    refine Aw.aload_n rfl d_Mdl_commit_15 ?_
    obtain ⟨o2, h⟩ := h
    refine Aw.getI (f := 773) 12 5 fl_Mdl_123 (by decide) (by decide) rfl rfl o2 d_Mdl_commit_16 (fun r3 => ?_)
    have h := h r3
    refine Aw.bipush (by decide) d_Mdl_commit_19 ?_
    obtain ⟨ht, hf⟩ := h
    refine Aw.icmp_ge (tgt := 28) r3 ⟨by decide, by decide⟩ (by decide) d_Mdl_commit_21 (fun c4 => ?_) (fun c4 => ?_)
    · have h := ht c4
      refine Aw.iconst d_Mdl_commit_28 ?_
      exact h
    · have h := hf c4
      refine Aw.iconst d_Mdl_commit_24 ?_
      refine Aw.goto (tgt := 29) (by decide) d_Mdl_commit_25 ?_
      exact h
theorem b_Mdl_commit_32 {Ω : Om} {R : Room} {F : QF} {k n : Nat} {σ : Sto} {a0 : Nat} {s0 : Int} (h : Q32 s0 ∧ ((s0 = (0 : Int) → sK σ a0 = 13 ∧ (∃ b3 : Nat, fR σ 774 a0 = some b3 ∧ (Q32 (fI σ 773 a0) → (Q32 (fI σ 783 a0) → sK σ b3 = 50 ∧ 0 ≤ (fI σ 773 a0) ∧ (fI σ 773 a0) < sZ σ b3 ∧ Aw Ω M_Mdl_commit R F k n 52 [xr (some a0), xi 0] [] (vI σ b3 (fI σ 773 a0).toNat (fI σ 783 a0)))))) ∧ (¬ s0 = (0 : Int) → Aw Ω M_Mdl_commit R F k n 36 [xr (some a0), xu] [xi 0] σ))) : Aw Ω M_Mdl_commit R F k n 32 [xr (some a0), xu] [xi s0] σ := by
  obtain ⟨o1, h⟩ := h
  obtain ⟨ht, hf⟩ := h
  refine Aw.if_eq (tgt := 37) o1 (by decide) d_Mdl_commit_32 (fun c10 => ?_) (fun c10 => ?_)
  · have h := ht c10
    refine Aw.aload_n rfl d_Mdl_commit_37 ?_
    obtain ⟨o2, h⟩ := h
    obtain ⟨b3, e4, h⟩ := h
    refine Aw.getRs (f := 774) 12 6 fl_Mdl_20 (by decide) (by decide) rfl rfl o2 e4 d_Mdl_commit_38 ?_
    refine Aw.aload_n rfl d_Mdl_commit_41 ?_
    refine Aw.getI (f := 773) 12 5 fl_Mdl_123 (by decide) (by decide) rfl rfl o2 d_Mdl_commit_42 (fun r5 => ?_)
    have h := h r5
    refine Aw.aload_n rfl d_Mdl_commit_45 ?_
    refine Aw.getI (f := 783) 12 15 fl_Mdl_194 (by decide) (by decide) rfl rfl o2 d_Mdl_commit_46 (fun r6 => ?_)
    have h := h r6
    obtain ⟨o7, h⟩ := h
    obtain ⟨o8, o9, h⟩ := h
    refine Aw.iast o7 o8 o9 r6 d_Mdl_commit_49 ?_
    refine Aw.iconst d_Mdl_commit_50 ?_
    refine Aw.istore_n (by decide) d_Mdl_commit_51 ?_
    refine Aw.toL (L' := [xr (some a0), xi 0]) rfl ?_
    exact h
  · have h := hf c10
    refine Aw.iconst d_Mdl_commit_35 ?_
    exact h
theorem b_Mdl_commit_52 {Ω : Om} {R : Room} {F : QF} {k n : Nat} {σ : Sto} {a0 : Nat} {v1 : Int} (h : sK σ a0 = 13 ∧ (Q32 (fI σ 783 a0) → Q32 v1 ∧ (((fI σ 783 a0) ≤ v1 → (∃ b4 : Nat, fR σ 776 a0 = some b4 ∧ (Q32 (fI σ 773 a0) → (Q32 (fI σ 782 a0) → sK σ b4 = 50 ∧ 0 ≤ (fI σ 773 a0) ∧ (fI σ 773 a0) < sZ σ b4 ∧ (∃ b11 : Nat, fR σ 777 a0 = some b11 ∧ (Q32 (fI σ 773 a0) → (Q32 (fI σ 780 a0) → sK σ b11 = 50 ∧ 0 ≤ (fI σ 773 a0) ∧ (fI σ 773 a0) < sZ σ b11 ∧ (∃ b18 : Nat, fR σ 778 a0 = some b18 ∧ (Q32 (fI σ 773 a0) → (Q32 (fI σ 781 a0) → sK σ b18 = 50 ∧ 0 ≤ (fI σ 773 a0) ∧ (fI σ 773 a0) < sZ σ b18 ∧ (Q32 (fI σ 773 a0) → Q32 ((fI σ 773 a0) + 1) ∧ Aw Ω M_Mdl_commit R F k n 140 [xr (some a0), xi v1] [] (uI (uI (vI (vI (vI σ b4 (fI σ 773 a0).toNat (fI σ 782 a0)) b11 (fI σ 773 a0).toNat (fI σ 780 a0)) b18 (fI σ 773 a0).toNat (fI σ 781 a0)) 773 a0 ((fI σ 773 a0) + 1)) 779 a0 0)))))))))))) ∧ (¬ (fI σ 783 a0) ≤ v1 → (∃ b27 : Nat, fR σ 775 a0 = some b27 ∧ (Q32 (fI σ 773 a0) → (∃ b30 : Nat, fR σ 784 a0 = some b30 ∧ sK σ b30 = 50 ∧ 0 ≤ v1 ∧ v1 < sZ σ b30 ∧ (Q32 (aI σ b30 (v1).toNat) → sK σ b27 = 50 ∧ 0 ≤ ((20 * (fI σ 773 a0)) + v1) ∧ ((20 * (fI σ 773 a0)) + v1) < sZ σ b27 ∧ Aw Ω M_Mdl_commit R F k n 52 [xr (some a0), xi (v1 + 1)] [] (vI σ b27 ((20 * (fI σ 773 a0)) + v1).toNat (aI σ b30 (v1).toNat)))))))))) : Aw Ω M_Mdl_commit R F k n 52 [xr (some a0), xi v1] [] σ := by
  refine Aw.iload_n rfl d_Mdl_commit_52 ?_
  refine Aw.aload_n rfl d_Mdl_commit_53 ?_
  obtain ⟨o1, h⟩ := h
  refine Aw.getI (f := 783) 12 15 fl_Mdl_194 (by decide) (by decide) rfl rfl o1 d_Mdl_commit_54 (fun r2 => ?_)
  have h := h r2
  obtain ⟨o3, h⟩ := h
  obtain ⟨ht, hf⟩ := h
  refine Aw.icmp_ge (tgt := 86) o3 r2 (by decide) d_Mdl_commit_57 (fun c39 => ?_) (fun c39 => ?_)
  · have h := ht c39
    refine Aw.aload_n rfl d_Mdl_commit_86 ?_
    obtain ⟨b4, e5, h⟩ := h
    refine Aw.getRs (f := 776) 12 8 fl_Mdl_26 (by decide) (by decide) rfl rfl o1 e5 d_Mdl_commit_87 ?_
    refine Aw.aload_n rfl d_Mdl_commit_90 ?_
    refine Aw.getI (f := 773) 12 5 fl_Mdl_123 (by decide) (by decide) rfl rfl o1 d_Mdl_commit_91 (fun r6 => ?_)
    have h := h r6
    refine Aw.aload_n rfl d_Mdl_commit_94 ?_
    refine Aw.getI (f := 782) 12 14 fl_Mdl_162 (by decide) (by decide) rfl rfl o1 d_Mdl_commit_95 (fun r7 => ?_)
    have h := h r7
    obtain ⟨o8, h⟩ := h
    obtain ⟨o9, o10, h⟩ := h
    refine Aw.iast o8 o9 o10 r7 d_Mdl_commit_98 ?_
    refine Aw.aload_n rfl d_Mdl_commit_99 ?_
    obtain ⟨b11, e12, h⟩ := h
    refine Aw.getRs (f := 777) 12 9 fl_Mdl_29 (by decide) (by decide) rfl rfl o1 e12 d_Mdl_commit_100 ?_
    refine Aw.aload_n rfl d_Mdl_commit_103 ?_
    refine Aw.getI (f := 773) 12 5 fl_Mdl_123 (by decide) (by decide) rfl rfl o1 d_Mdl_commit_104 (fun r13 => ?_)
    have h := h r13
    refine Aw.aload_n rfl d_Mdl_commit_107 ?_
    refine Aw.getI (f := 780) 12 12 fl_Mdl_165 (by decide) (by decide) rfl rfl o1 d_Mdl_commit_108 (fun r14 => ?_)
    have h := h r14
    obtain ⟨o15, h⟩ := h
    obtain ⟨o16, o17, h⟩ := h
    refine Aw.iast o15 o16 o17 r14 d_Mdl_commit_111 ?_
    refine Aw.aload_n rfl d_Mdl_commit_112 ?_
    obtain ⟨b18, e19, h⟩ := h
    refine Aw.getRs (f := 778) 12 10 fl_Mdl_32 (by decide) (by decide) rfl rfl o1 e19 d_Mdl_commit_113 ?_
    refine Aw.aload_n rfl d_Mdl_commit_116 ?_
    refine Aw.getI (f := 773) 12 5 fl_Mdl_123 (by decide) (by decide) rfl rfl o1 d_Mdl_commit_117 (fun r20 => ?_)
    have h := h r20
    refine Aw.aload_n rfl d_Mdl_commit_120 ?_
    refine Aw.getI (f := 781) 12 13 fl_Mdl_182 (by decide) (by decide) rfl rfl o1 d_Mdl_commit_121 (fun r21 => ?_)
    have h := h r21
    obtain ⟨o22, h⟩ := h
    obtain ⟨o23, o24, h⟩ := h
    refine Aw.iast o22 o23 o24 r21 d_Mdl_commit_124 ?_
    refine Aw.aload_n rfl d_Mdl_commit_125 ?_
    refine Aw.dup rfl d_Mdl_commit_126 ?_
    refine Aw.getI (f := 773) 12 5 fl_Mdl_123 (by decide) (by decide) rfl rfl o1 d_Mdl_commit_127 (fun r25 => ?_)
    have h := h r25
    refine Aw.iconst d_Mdl_commit_130 ?_
    refine Aw.iadd d_Mdl_commit_131 ?_
    obtain ⟨o26, h⟩ := h
    refine Aw.putI (f := 773) 12 5 fl_Mdl_123 (by decide) (by decide) rfl rfl o1 rfl o26 (Or.inl rfl) d_Mdl_commit_132 ?_
    refine Aw.aload_n rfl d_Mdl_commit_135 ?_
    refine Aw.iconst d_Mdl_commit_136 ?_
    refine Aw.putI (f := 779) 12 11 fl_Mdl_178 (by decide) (by decide) rfl rfl o1 rfl ⟨by decide, by decide⟩ (Or.inr ⟨rfl, by decide⟩) d_Mdl_commit_137 ?_
    exact h
  · have h := hf c39
    refine Aw.aload_n rfl d_Mdl_commit_60 ?_
    obtain ⟨b27, e28, h⟩ := h
    refine Aw.getRs (f := 775) 12 7 fl_Mdl_23 (by decide) (by decide) rfl rfl o1 e28 d_Mdl_commit_61 ?_
    refine Aw.bipush (by decide) d_Mdl_commit_64 ?_
    refine Aw.aload_n rfl d_Mdl_commit_66 ?_
    refine Aw.getI (f := 773) 12 5 fl_Mdl_123 (by decide) (by decide) rfl rfl o1 d_Mdl_commit_67 (fun r29 => ?_)
    have h := h r29
    refine Aw.imul d_Mdl_commit_70 ?_
    refine Aw.iload_n rfl d_Mdl_commit_71 ?_
    refine Aw.iadd d_Mdl_commit_72 ?_
    refine Aw.aload_n rfl d_Mdl_commit_73 ?_
    obtain ⟨b30, e31, h⟩ := h
    refine Aw.getRs (f := 784) 12 16 fl_Mdl_35 (by decide) (by decide) rfl rfl o1 e31 d_Mdl_commit_74 ?_
    refine Aw.iload_n rfl d_Mdl_commit_77 ?_
    obtain ⟨o32, h⟩ := h
    obtain ⟨o33, o34, h⟩ := h
    refine Aw.iald o32 o33 o34 d_Mdl_commit_78 (fun r35 => ?_)
    have h := h r35
    obtain ⟨o36, h⟩ := h
    obtain ⟨o37, o38, h⟩ := h
    refine Aw.iast o36 o37 o38 r35 d_Mdl_commit_79 ?_
    refine Aw.iinc rfl d_Mdl_commit_80 ?_
    refine Aw.toL (L' := [xr (some a0), xi (v1 + 1)]) rfl ?_
    refine Aw.goto (tgt := 52) (by decide) d_Mdl_commit_83 ?_
    exact h
theorem b_Mdl_commit_140 {Ω : Om} {R : Room} {F : QF} {k n : Nat} {σ : Sto} {a0 : Nat} {v1 : Int} (h : sK σ a0 = 13 ∧ (Q32 (fI σ 773 a0) → Aw Ω M_Mdl_commit R F k n 146 [xr (some a0), xi v1] [xi ((fI σ 773 a0) - 1)] σ)) : Aw Ω M_Mdl_commit R F k n 140 [xr (some a0), xi v1] [] σ := by
  refine Aw.aload_n rfl d_Mdl_commit_140 ?_
  obtain ⟨o1, h⟩ := h
  refine Aw.getI (f := 773) 12 5 fl_Mdl_123 (by decide) (by decide) rfl rfl o1 d_Mdl_commit_141 (fun r2 => ?_)
  have h := h r2
  refine Aw.iconst d_Mdl_commit_144 ?_
  refine Aw.isub d_Mdl_commit_145 ?_
  exact h
theorem c_Mdl_commit_9 {Ω : Om} {R R' : Room} {F : QF} {k n : Nat} {L st : List PV} {σ : Sto} {QX' : String → Sto → Prop} {Q : Int → Sto → Prop} {a : Nat} (hc : MC Ω M_Mdl_isSettled R' (RI Q) QX' σ [xr (some a)]) (hk : sK σ a = 13) (hr1 : R'.frames + 1 ≤ R.frames) (hr2 : 8 + (1 + 11) + R'.locals ≤ R.locals) (hb1 : k + R'.cells ≤ R.cells) (hb2 : n + R'.slots ≤ R.slots) (hst : (st.map catP).sum ≤ 8) (kk : ∀ x σ', Q x σ' → Aw Ω M_Mdl_commit R F (k + R'.cells) (n + R'.slots) 12 L (xi x :: st) σ') (kx : ∀ E σ', QX' E σ' → Ax Ω M_Mdl_commit R F (k + R'.cells) (n + R'.slots) 9 L st σ' E) : Aw Ω M_Mdl_commit R F k n 9 L (xr (some a) :: st) σ :=
  Aw.callV (As := []) (stk := xr (some a) :: st) (nn := 0) 12 M_Mdl_isSettled hc ok_Mdl_isSettled rfl (by decide) rfl hk ml_Mdl_201 im_Mdl_isSettled se_Mdl_isSettled ⟨hr1, hr2⟩ rfl ⟨hb1, hb2⟩ hst rfl d_Mdl_commit_9 (fun r σ' h => by obtain ⟨x, rfl, h⟩ := h; exact kk x σ' h) kx
theorem c_Mdl_commit_29 {Ω : Om} {R R' : Room} {F : QF} {k n : Nat} {L st : List PV} {σ : Sto} {QX' : String → Sto → Prop} {Q : Int → Sto → Prop} {a : Nat} {x0 : Int} (hc : MC Ω M_Mdl_refused R' (RI Q) QX' σ [xr (some a), xi x0]) (hk : sK σ a = 13) (hr1 : R'.frames + 1 ≤ R.frames) (hr2 : 8 + (2 + 11) + R'.locals ≤ R.locals) (hb1 : k + R'.cells ≤ R.cells) (hb2 : n + R'.slots ≤ R.slots) (hst : (st.map catP).sum ≤ 8) (kk : ∀ x σ', Q x σ' → Aw Ω M_Mdl_commit R F (k + R'.cells) (n + R'.slots) 32 L (xi x :: st) σ') (kx : ∀ E σ', QX' E σ' → Ax Ω M_Mdl_commit R F (k + R'.cells) (n + R'.slots) 29 L st σ' E) : Aw Ω M_Mdl_commit R F k n 29 L (xi x0 :: xr (some a) :: st) σ :=
  Aw.callV (As := [xi x0]) (stk := xi x0 :: xr (some a) :: st) (nn := 1) 12 M_Mdl_refused hc ok_Mdl_refused rfl (by decide) rfl hk ml_Mdl_151 im_Mdl_refused se_Mdl_refused ⟨hr1, hr2⟩ rfl ⟨hb1, hb2⟩ hst rfl d_Mdl_commit_29 (fun r σ' h => by obtain ⟨x, rfl, h⟩ := h; exact kk x σ' h) kx
theorem r_Mdl_commit_36 {Ω : Om} {R : Room} {k n : Nat} {L : List PV} {σ : Sto} {QR : Option PV → Sto → Prop} {QX : String → Sto → Prop} {x : Int} (h : QR (some (xi x)) σ) (h1 : k ≤ R.cells) (h2 : n ≤ R.slots) : Aw Ω M_Mdl_commit R (MF Ω R QR QX) k n 36 L [xi x] σ := Aw.iret rfl h h1 h2 d_Mdl_commit_36
theorem r_Mdl_commit_146 {Ω : Om} {R : Room} {k n : Nat} {L : List PV} {σ : Sto} {QR : Option PV → Sto → Prop} {QX : String → Sto → Prop} {x : Int} (h : QR (some (xi x)) σ) (h1 : k ≤ R.cells) (h2 : n ≤ R.slots) : Aw Ω M_Mdl_commit R (MF Ω R QR QX) k n 146 L [xi x] σ := Aw.iret rfl h h1 h2 d_Mdl_commit_146
theorem e_Mdl_verdict {Ω : Om} {R : Room} {QR : Option PV → Sto → Prop} {QX : String → Sto → Prop} {σ : Sto} {a0 : Nat} {v1 : Int} {v2 : Int} {v3 : Int} (h : Aw Ω M_Mdl_verdict R (MF Ω R QR QX) 0 0 0 [xr (some a0), xi v1, xi v2, xi v3, xu, xu] [] σ) : MC Ω M_Mdl_verdict R QR QX σ [xr (some a0), xi v1, xi v2, xi v3] := MC.body (by decide +kernel) rfl (Nat.le_of_ble_eq_true rfl) rfl h
theorem b_Mdl_verdict_0 {Ω : Om} {R : Room} {F : QF} {k n : Nat} {σ : Sto} {a0 : Nat} {v1 : Int} {v2 : Int} {v3 : Int} (h : Aw Ω M_Mdl_verdict R F k n 2 [xr (some a0), xi v1, xi v2, xi v3, xu, xu] [xi v1, xr (some a0)] σ) : Aw Ω M_Mdl_verdict R F k n 0 [xr (some a0), xi v1, xi v2, xi v3, xu, xu] [] σ := by
  refine Aw.aload_n rfl d_Mdl_verdict_0 ?_
  refine Aw.iload_n rfl d_Mdl_verdict_1 ?_
  exact h
theorem b_Mdl_verdict_5 {Ω : Om} {R : Room} {F : QF} {k n : Nat} {σ : Sto} {a0 : Nat} {v1 : Int} {v2 : Int} {v3 : Int} {s0 : Int} (h : Q32 s0 ∧ ((s0 = (0 : Int) → Aw Ω M_Mdl_verdict R F k n 19 [xr (some a0), xi v1, xi v2, xi v3, xu, xu] [] σ) ∧ (¬ s0 = (0 : Int) → Aw Ω M_Mdl_verdict R F k n 9 [xr (some a0), xi v1, xi v2, xi v3, xu, xu] [xi v2] σ))) : Aw Ω M_Mdl_verdict R F k n 5 [xr (some a0), xi v1, xi v2, xi v3, xu, xu] [xi s0] σ := by
  obtain ⟨o1, h⟩ := h
  obtain ⟨ht, hf⟩ := h
  refine Aw.if_eq (tgt := 19) o1 (by decide) d_Mdl_verdict_5 (fun c2 => ?_) (fun c2 => ?_)
  · have h := ht c2
    exact h
  · have h := hf c2
    refine Aw.iload_n rfl d_Mdl_verdict_8 ?_
    exact h
theorem b_Mdl_verdict_12 {Ω : Om} {R : Room} {F : QF} {k n : Nat} {σ : Sto} {a0 : Nat} {v1 : Int} {v2 : Int} {v3 : Int} {s0 : Int} (h : Q32 s0 ∧ ((s0 = (0 : Int) → Aw Ω M_Mdl_verdict R F k n 19 [xr (some a0), xi v1, xi v2, xi v3, xu, xu] [] σ) ∧ (¬ s0 = (0 : Int) → Aw Ω M_Mdl_verdict R F k n 20 [xr (some a0), xi v1, xi v2, xi v3, xu, xu] [xi 1] σ))) : Aw Ω M_Mdl_verdict R F k n 12 [xr (some a0), xi v1, xi v2, xi v3, xu, xu] [xi s0] σ := by
  obtain ⟨o1, h⟩ := h
  obtain ⟨ht, hf⟩ := h
  refine Aw.if_eq (tgt := 19) o1 (by decide) d_Mdl_verdict_12 (fun c2 => ?_) (fun c2 => ?_)
  · have h := ht c2
    exact h
  · have h := hf c2
    refine Aw.iconst d_Mdl_verdict_15 ?_
    refine Aw.goto (tgt := 20) (by decide) d_Mdl_verdict_16 ?_
    exact h
theorem b_Mdl_verdict_20 {Ω : Om} {R : Room} {F : QF} {k n : Nat} {σ : Sto} {a0 : Nat} {v1 : Int} {v2 : Int} {v3 : Int} {s0 : Int} (h : Q32 s0 ∧ ((s0 = (0 : Int) → Aw Ω M_Mdl_verdict R F k n 55 [xr (some a0), xi v1, xi v2, xi v3, xi s0, xu] [] σ) ∧ (¬ s0 = (0 : Int) → sK σ a0 = 13 ∧ (∃ b3 : Nat, fR σ 809 a0 = some b3 ∧ sK σ b3 = 52 ∧ 0 ≤ v1 ∧ v1 < sZ σ b3 ∧ (Q32 (aI σ b3 (v1).toNat) → ((¬ (aI σ b3 (v1).toNat) = (0 : Int) → Aw Ω M_Mdl_verdict R F k n 55 [xr (some a0), xi v1, xi v2, xi v3, xi s0, xu] [] σ) ∧ ((aI σ b3 (v1).toNat) = (0 : Int) → (∃ b9 : Nat, fR σ 776 a0 = some b9 ∧ (∃ b11 : Nat, fR σ 807 a0 = some b11 ∧ sK σ b11 = 50 ∧ 0 ≤ v1 ∧ v1 < sZ σ b11 ∧ (Q32 (aI σ b11 (v1).toNat) → sK σ b9 = 50 ∧ 0 ≤ (aI σ b11 (v1).toNat) ∧ (aI σ b11 (v1).toNat) < sZ σ b9 ∧ (Q32 (aI σ b9 (aI σ b11 (v1).toNat).toNat) → Q32 v2 ∧ (((aI σ b9 (aI σ b11 (v1).toNat).toNat) = v2 → Aw Ω M_Mdl_verdict R F k n 55 [xr (some a0), xi v1, xi v2, xi v3, xi s0, xu] [] σ) ∧ (¬ (aI σ b9 (aI σ b11 (v1).toNat).toNat) = v2 → Aw Ω M_Mdl_verdict R F k n 56 [xr (some a0), xi v1, xi v2, xi v3, xi s0, xu] [xi 1] σ))))))))))))) : Aw Ω M_Mdl_verdict R F k n 20 [xr (some a0), xi v1, xi v2, xi v3, xu, xu] [xi s0] σ := by
  refine Aw.istore (by decide) d_Mdl_verdict_20 ?_
  refine Aw.toL (L' := [xr (some a0), xi v1, xi v2, xi v3, xi s0, xu]) rfl ?_
  refine Aw.iload rfl d_Mdl_verdict_22 ?_
  obtain ⟨o1, h⟩ := h
  obtain ⟨ht, hf⟩ := h
  refine Aw.if_eq (tgt := 55) o1 (by decide) d_Mdl_verdict_24 (fun c24 => ?_) (fun c24 => ?_)
  · have h := ht c24
    exact h
  · have h := hf c24
    refine Aw.aload_n rfl d_Mdl_verdict_27 ?_
    obtain ⟨o2, h⟩ := h
    obtain ⟨b3, e4, h⟩ := h
    refine Aw.getRs (f := 809) 12 41 fl_Mdl_86 (by decide) (by decide) rfl rfl o2 e4 d_Mdl_verdict_28 ?_
    refine Aw.iload_n rfl d_Mdl_verdict_31 ?_
    obtain ⟨o5, h⟩ := h
    obtain ⟨o6, o7, h⟩ := h
    refine Aw.zald o5 o6 o7 d_Mdl_verdict_32 (fun r8 => ?_)
    have h := h r8
    obtain ⟨ht, hf⟩ := h
    refine Aw.if_ne (tgt := 55) r8 (by decide) d_Mdl_verdict_33 (fun c23 => ?_) (fun c23 => ?_)
    · have h := ht c23
      exact h
    · have h := hf c23
      refine Aw.aload_n rfl d_Mdl_verdict_36 ?_
      obtain ⟨b9, e10, h⟩ := h
      refine Aw.getRs (f := 776) 12 8 fl_Mdl_26 (by decide) (by decide) rfl rfl o2 e10 d_Mdl_verdict_37 ?_
      refine Aw.aload_n rfl d_Mdl_verdict_40 ?_
      obtain ⟨b11, e12, h⟩ := h
      refine Aw.getRs (f := 807) 12 39 fl_Mdl_80 (by decide) (by decide) rfl rfl o2 e12 d_Mdl_verdict_41 ?_
      refine Aw.iload_n rfl d_Mdl_verdict_44 ?_
      obtain ⟨o13, h⟩ := h
      obtain ⟨o14, o15, h⟩ := h
      refine Aw.iald o13 o14 o15 d_Mdl_verdict_45 (fun r16 => ?_)
      have h := h r16
      obtain ⟨o17, h⟩ := h
      obtain ⟨o18, o19, h⟩ := h
      refine Aw.iald o17 o18 o19 d_Mdl_verdict_46 (fun r20 => ?_)
      have h := h r20
      refine Aw.iload_n rfl d_Mdl_verdict_47 ?_
      obtain ⟨o21, h⟩ := h
      obtain ⟨ht, hf⟩ := h
      refine Aw.icmp_eq (tgt := 55) r20 o21 (by decide) d_Mdl_verdict_48 (fun c22 => ?_) (fun c22 => ?_)
      · have h := ht c22
        exact h
      · have h := hf c22
        refine Aw.iconst d_Mdl_verdict_51 ?_
        refine Aw.goto (tgt := 56) (by decide) d_Mdl_verdict_52 ?_
        exact h
theorem b_Mdl_verdict_56 {Ω : Om} {R : Room} {F : QF} {k n : Nat} {σ : Sto} {a0 : Nat} {v1 : Int} {v2 : Int} {v3 : Int} {v4 : Int} {s0 : Int} (h : Q32 v4 ∧ ((¬ v4 = (0 : Int) → Q32 s0 ∧ ((s0 = (0 : Int) → Aw Ω M_Mdl_verdict R F k n 78 [xr (some a0), xi v1, xi v2, xi v3, xi v4, xi s0] [xi 2, xr (some a0)] σ) ∧ (¬ s0 = (0 : Int) → Aw Ω M_Mdl_verdict R F k n 78 [xr (some a0), xi v1, xi v2, xi v3, xi v4, xi s0] [xi 0, xr (some a0)] σ))) ∧ (v4 = (0 : Int) → Aw Ω M_Mdl_verdict R F k n 78 [xr (some a0), xi v1, xi v2, xi v3, xi v4, xi s0] [xi 1, xr (some a0)] σ))) : Aw Ω M_Mdl_verdict R F k n 56 [xr (some a0), xi v1, xi v2, xi v3, xi v4, xu] [xi s0] σ := by
  refine Aw.istore (by decide) d_Mdl_verdict_56 ?_
  refine Aw.toL (L' := [xr (some a0), xi v1, xi v2, xi v3, xi v4, xi s0]) rfl ?_
  refine Aw.aload_n rfl d_Mdl_verdict_58 ?_
  refine Aw.iload rfl d_Mdl_verdict_59 ?_
  obtain ⟨o1, h⟩ := h
  obtain ⟨ht, hf⟩ := h
  refine Aw.if_ne (tgt := 68) o1 (by decide) d_Mdl_verdict_61 (fun c4 => ?_) (fun c4 => ?_)
  · have h := ht c4
    refine Aw.iload rfl d_Mdl_verdict_68 ?_
    obtain ⟨o2, h⟩ := h
    obtain ⟨ht, hf⟩ := h
    refine Aw.if_eq (tgt := 77) o2 (by decide) d_Mdl_verdict_70 (fun c3 => ?_) (fun c3 => ?_)
    · have h := ht c3
      refine Aw.iconst d_Mdl_verdict_77 ?_
      exact h
    · have h := hf c3
      refine Aw.iconst d_Mdl_verdict_73 ?_
      refine Aw.goto (tgt := 78) (by decide) d_Mdl_verdict_74 ?_
      exact h
  · have h := hf c4
    refine Aw.iconst d_Mdl_verdict_64 ?_
    refine Aw.goto (tgt := 78) (by decide) d_Mdl_verdict_65 ?_
    exact h
theorem b_Mdl_verdict_81 {Ω : Om} {R : Room} {F : QF} {k n : Nat} {σ : Sto} {a0 : Nat} {v1 : Int} {v2 : Int} {v3 : Int} {v4 : Int} {v5 : Int} {s0 : Int} (h : Q32 s0 ∧ ((s0 = (0 : Int) → sK σ a0 = 13 ∧ (∃ b3 : Nat, fR σ 810 a0 = some b3 ∧ Q32 v3 ∧ ((v3 = (0 : Int) → sK σ b3 = 50 ∧ 0 ≤ ((6 * v1) + v2) ∧ ((6 * v1) + v2) < sZ σ b3 ∧ Aw Ω M_Mdl_verdict R F k n 108 [xr (some a0), xi v1, xi v2, xi v3, xi v4, xi v5] [xi v1, xr (some a0)] (vI σ b3 ((6 * v1) + v2).toNat 2)) ∧ (¬ v3 = (0 : Int) → sK σ b3 = 50 ∧ 0 ≤ ((6 * v1) + v2) ∧ ((6 * v1) + v2) < sZ σ b3 ∧ Aw Ω M_Mdl_verdict R F k n 108 [xr (some a0), xi v1, xi v2, xi v3, xi v4, xi v5] [xi v1, xr (some a0)] (vI σ b3 ((6 * v1) + v2).toNat 1))))) ∧ (¬ s0 = (0 : Int) → Aw Ω M_Mdl_verdict R F k n 85 [xr (some a0), xi v1, xi v2, xi v3, xi v4, xi v5] [xi 0] σ))) : Aw Ω M_Mdl_verdict R F k n 81 [xr (some a0), xi v1, xi v2, xi v3, xi v4, xi v5] [xi s0] σ := by
  obtain ⟨o1, h⟩ := h
  obtain ⟨ht, hf⟩ := h
  refine Aw.if_eq (tgt := 86) o1 (by decide) d_Mdl_verdict_81 (fun c13 => ?_) (fun c13 => ?_)
  · have h := ht c13
    refine Aw.aload_n rfl d_Mdl_verdict_86 ?_
    obtain ⟨o2, h⟩ := h
    obtain ⟨b3, e4, h⟩ := h
    refine Aw.getRs (f := 810) 12 42 fl_Mdl_90 (by decide) (by decide) rfl rfl o2 e4 d_Mdl_verdict_87 ?_
    refine Aw.bipush (by decide) d_Mdl_verdict_90 ?_
    refine Aw.iload_n rfl d_Mdl_verdict_92 ?_
    refine Aw.imul d_Mdl_verdict_93 ?_
    refine Aw.iload_n rfl d_Mdl_verdict_94 ?_
    refine Aw.iadd d_Mdl_verdict_95 ?_
    refine Aw.iload_n rfl d_Mdl_verdict_96 ?_
    obtain ⟨o5, h⟩ := h
    obtain ⟨ht, hf⟩ := h
    refine Aw.if_eq (tgt := 104) o5 (by decide) d_Mdl_verdict_97 (fun c12 => ?_) (fun c12 => ?_)
    · have h := ht c12
      refine Aw.iconst d_Mdl_verdict_104 ?_
      obtain ⟨o6, h⟩ := h
      obtain ⟨o7, o8, h⟩ := h
      refine Aw.iast o6 o7 o8 ⟨by decide, by decide⟩ d_Mdl_verdict_105 ?_
      refine Aw.aload_n rfl d_Mdl_verdict_106 ?_
      refine Aw.iload_n rfl d_Mdl_verdict_107 ?_
      exact h
    · have h := hf c12
      refine Aw.iconst d_Mdl_verdict_100 ?_
      refine Aw.goto (tgt := 105) (by decide) d_Mdl_verdict_101 ?_
      obtain ⟨o9, h⟩ := h
      obtain ⟨o10, o11, h⟩ := h
      refine Aw.iast o9 o10 o11 ⟨by decide, by decide⟩ d_Mdl_verdict_105 ?_
      refine Aw.aload_n rfl d_Mdl_verdict_106 ?_
      refine Aw.iload_n rfl d_Mdl_verdict_107 ?_
      exact h
  · have h := hf c13
    refine Aw.iconst d_Mdl_verdict_84 ?_
    exact h
theorem b_Mdl_verdict_55 {Ω : Om} {R : Room} {F : QF} {k n : Nat} {σ : Sto} {a0 : Nat} {v1 : Int} {v2 : Int} {v3 : Int} {v4 : Int} (h : Q32 v4 ∧ ((¬ v4 = (0 : Int) → Aw Ω M_Mdl_verdict R F k n 78 [xr (some a0), xi v1, xi v2, xi v3, xi v4, xi 0] [xi 2, xr (some a0)] σ) ∧ (v4 = (0 : Int) → Aw Ω M_Mdl_verdict R F k n 78 [xr (some a0), xi v1, xi v2, xi v3, xi v4, xi 0] [xi 1, xr (some a0)] σ))) : Aw Ω M_Mdl_verdict R F k n 55 [xr (some a0), xi v1, xi v2, xi v3, xi v4, xu] [] σ := by
  refine Aw.iconst d_Mdl_verdict_55 ?_
  refine Aw.istore (by decide) d_Mdl_verdict_56 ?_
  refine Aw.toL (L' := [xr (some a0), xi v1, xi v2, xi v3, xi v4, xi 0]) rfl ?_
  refine Aw.aload_n rfl d_Mdl_verdict_58 ?_
  refine Aw.iload rfl d_Mdl_verdict_59 ?_
  obtain ⟨o1, h⟩ := h
  obtain ⟨ht, hf⟩ := h
  refine Aw.if_ne (tgt := 68) o1 (by decide) d_Mdl_verdict_61 (fun c3 => ?_) (fun c3 => ?_)
  · have h := ht c3
    refine Aw.iload rfl d_Mdl_verdict_68 ?_
    refine Aw.if_eq (tgt := 77) ⟨by decide, by decide⟩ (by decide) d_Mdl_verdict_70 (fun c2 => ?_) (fun c2 => absurd c2 (by decide))
    refine Aw.iconst d_Mdl_verdict_77 ?_
    exact h
  · have h := hf c3
    refine Aw.iconst d_Mdl_verdict_64 ?_
    refine Aw.goto (tgt := 78) (by decide) d_Mdl_verdict_65 ?_
    exact h
theorem b_Mdl_verdict_19 {Ω : Om} {R : Room} {F : QF} {k n : Nat} {σ : Sto} {a0 : Nat} {v1 : Int} {v2 : Int} {v3 : Int} (h : Aw Ω M_Mdl_verdict R F k n 20 [xr (some a0), xi v1, xi v2, xi v3, xu, xu] [xi 0] σ) : Aw Ω M_Mdl_verdict R F k n 19 [xr (some a0), xi v1, xi v2, xi v3, xu, xu] [] σ := by
  refine Aw.iconst d_Mdl_verdict_19 ?_
  exact h
theorem c_Mdl_verdict_2 {Ω : Om} {R R' : Room} {F : QF} {k n : Nat} {L st : List PV} {σ : Sto} {QX' : String → Sto → Prop} {Q : Int → Sto → Prop} {a : Nat} {x0 : Int} (hc : MC Ω M_Mdl_isReview R' (RI Q) QX' σ [xr (some a), xi x0]) (hk : sK σ a = 13) (hr1 : R'.frames + 1 ≤ R.frames) (hr2 : 8 + (2 + 11) + R'.locals ≤ R.locals) (hb1 : k + R'.cells ≤ R.cells) (hb2 : n + R'.slots ≤ R.slots) (hst : (st.map catP).sum ≤ 8) (kk : ∀ x σ', Q x σ' → Aw Ω M_Mdl_verdict R F (k + R'.cells) (n + R'.slots) 5 L (xi x :: st) σ') (kx : ∀ E σ', QX' E σ' → Ax Ω M_Mdl_verdict R F (k + R'.cells) (n + R'.slots) 2 L st σ' E) : Aw Ω M_Mdl_verdict R F k n 2 L (xi x0 :: xr (some a) :: st) σ :=
  Aw.callV (As := [xi x0]) (stk := xi x0 :: xr (some a) :: st) (nn := 1) 12 M_Mdl_isReview hc ok_Mdl_isReview rfl (by decide) rfl hk ml_Mdl_351 im_Mdl_isReview se_Mdl_isReview ⟨hr1, hr2⟩ rfl ⟨hb1, hb2⟩ hst rfl d_Mdl_verdict_2 (fun r σ' h => by obtain ⟨x, rfl, h⟩ := h; exact kk x σ' h) kx
theorem c_Mdl_verdict_9 {Ω : Om} {R R' : Room} {F : QF} {k n : Nat} {L st : List PV} {σ : Sto} {QX' : String → Sto → Prop} {Q : Int → Sto → Prop} {x0 : Int} (hc : MC Ω M_Mdl_isPerson R' (RI Q) QX' σ [xi x0]) (hr1 : R'.frames + 1 ≤ R.frames) (hr2 : 8 + (1 + 11) + R'.locals ≤ R.locals) (hb1 : k + R'.cells ≤ R.cells) (hb2 : n + R'.slots ≤ R.slots) (hst : (st.map catP).sum ≤ 8) (kk : ∀ x σ', Q x σ' → Aw Ω M_Mdl_verdict R F (k + R'.cells) (n + R'.slots) 12 L (xi x :: st) σ') (kx : ∀ E σ', QX' E σ' → Ax Ω M_Mdl_verdict R F (k + R'.cells) (n + R'.slots) 9 L st σ' E) : Aw Ω M_Mdl_verdict R F k n 9 L (xi x0 :: st) σ :=
  Aw.callS (As := [xi x0]) (stk := xi x0 :: st) (nn := 1) M_Mdl_isPerson hc ok_Mdl_isPerson rfl ml_Mdl_175 sta_Mdl_isPerson ⟨hr1, hr2⟩ rfl ⟨hb1, hb2⟩ hst rfl d_Mdl_verdict_9 (fun r σ' h => by obtain ⟨x, rfl, h⟩ := h; exact kk x σ' h) kx
theorem c_Mdl_verdict_78 {Ω : Om} {R R' : Room} {F : QF} {k n : Nat} {L st : List PV} {σ : Sto} {QX' : String → Sto → Prop} {Q : Int → Sto → Prop} {a : Nat} {x0 : Int} (hc : MC Ω M_Mdl_refused R' (RI Q) QX' σ [xr (some a), xi x0]) (hk : sK σ a = 13) (hr1 : R'.frames + 1 ≤ R.frames) (hr2 : 8 + (2 + 11) + R'.locals ≤ R.locals) (hb1 : k + R'.cells ≤ R.cells) (hb2 : n + R'.slots ≤ R.slots) (hst : (st.map catP).sum ≤ 8) (kk : ∀ x σ', Q x σ' → Aw Ω M_Mdl_verdict R F (k + R'.cells) (n + R'.slots) 81 L (xi x :: st) σ') (kx : ∀ E σ', QX' E σ' → Ax Ω M_Mdl_verdict R F (k + R'.cells) (n + R'.slots) 78 L st σ' E) : Aw Ω M_Mdl_verdict R F k n 78 L (xi x0 :: xr (some a) :: st) σ :=
  Aw.callV (As := [xi x0]) (stk := xi x0 :: xr (some a) :: st) (nn := 1) 12 M_Mdl_refused hc ok_Mdl_refused rfl (by decide) rfl hk ml_Mdl_151 im_Mdl_refused se_Mdl_refused ⟨hr1, hr2⟩ rfl ⟨hb1, hb2⟩ hst rfl d_Mdl_verdict_78 (fun r σ' h => by obtain ⟨x, rfl, h⟩ := h; exact kk x σ' h) kx
theorem r_Mdl_verdict_85 {Ω : Om} {R : Room} {k n : Nat} {L : List PV} {σ : Sto} {QR : Option PV → Sto → Prop} {QX : String → Sto → Prop} {x : Int} (h : QR (some (xi x)) σ) (h1 : k ≤ R.cells) (h2 : n ≤ R.slots) : Aw Ω M_Mdl_verdict R (MF Ω R QR QX) k n 85 L [xi x] σ := Aw.iret rfl h h1 h2 d_Mdl_verdict_85
theorem c_Mdl_verdict_108 {Ω : Om} {R R' : Room} {F : QF} {k n : Nat} {L st : List PV} {σ : Sto} {QX' : String → Sto → Prop} {Q : Int → Sto → Prop} {a : Nat} {x0 : Int} (hc : MC Ω M_Mdl_stateOf R' (RI Q) QX' σ [xr (some a), xi x0]) (hk : sK σ a = 13) (hr1 : R'.frames + 1 ≤ R.frames) (hr2 : 8 + (5 + 11) + R'.locals ≤ R.locals) (hb1 : k + R'.cells ≤ R.cells) (hb2 : n + R'.slots ≤ R.slots) (hst : (st.map catP).sum ≤ 8) (kk : ∀ x σ', Q x σ' → Aw Ω M_Mdl_verdict R F (k + R'.cells) (n + R'.slots) 111 L (xi x :: st) σ') (kx : ∀ E σ', QX' E σ' → Ax Ω M_Mdl_verdict R F (k + R'.cells) (n + R'.slots) 108 L st σ' E) : Aw Ω M_Mdl_verdict R F k n 108 L (xi x0 :: xr (some a) :: st) σ :=
  Aw.callV (As := [xi x0]) (stk := xi x0 :: xr (some a) :: st) (nn := 1) 12 M_Mdl_stateOf hc ok_Mdl_stateOf rfl (by decide) rfl hk ml_Mdl_354 im_Mdl_stateOf se_Mdl_stateOf ⟨hr1, hr2⟩ rfl ⟨hb1, hb2⟩ hst rfl d_Mdl_verdict_108 (fun r σ' h => by obtain ⟨x, rfl, h⟩ := h; exact kk x σ' h) kx
theorem r_Mdl_verdict_111 {Ω : Om} {R : Room} {k n : Nat} {L : List PV} {σ : Sto} {QR : Option PV → Sto → Prop} {QX : String → Sto → Prop} {x : Int} (h : QR (some (xi x)) σ) (h1 : k ≤ R.cells) (h2 : n ≤ R.slots) : Aw Ω M_Mdl_verdict R (MF Ω R QR QX) k n 111 L [xi x] σ := Aw.iret rfl h h1 h2 d_Mdl_verdict_111
theorem e_Mdl_areAlike {Ω : Om} {R : Room} {QR : Option PV → Sto → Prop} {QX : String → Sto → Prop} {σ : Sto} {a0 : Nat} {v1 : Int} {v2 : Int} {v3 : Int} {v4 : Int} {v5 : Int} {v6 : Int} (h : Aw Ω M_Mdl_areAlike R (MF Ω R QR QX) 0 0 0 [xr (some a0), xi v1, xi v2, xi v3, xi v4, xi v5, xi v6, xu, xu] [] σ) : MC Ω M_Mdl_areAlike R QR QX σ [xr (some a0), xi v1, xi v2, xi v3, xi v4, xi v5, xi v6] := MC.body (by decide +kernel) rfl (Nat.le_of_ble_eq_true rfl) rfl h
theorem b_Mdl_areAlike_0 {Ω : Om} {R : Room} {F : QF} {k n : Nat} {σ : Sto} {a0 : Nat} {v1 : Int} {v2 : Int} {v3 : Int} {v4 : Int} {v5 : Int} {v6 : Int} (h : Q32 (v3 - v2) ∧ Q32 (v6 - v5) ∧ ((¬ (v3 - v2) = (v6 - v5) → Aw Ω M_Mdl_areAlike R F k n 21 [xr (some a0), xi v1, xi v2, xi v3, xi v4, xi v5, xi v6, xi 0, xi 0] [] σ) ∧ ((v3 - v2) = (v6 - v5) → Aw Ω M_Mdl_areAlike R F k n 21 [xr (some a0), xi v1, xi v2, xi v3, xi v4, xi v5, xi v6, xi 1, xi 0] [] σ))) : Aw Ω M_Mdl_areAlike R F k n 0 [xr (some a0), xi v1, xi v2, xi v3, xi v4, xi v5, xi v6, xu, xu] [] σ := by
  refine Aw.iload_n rfl d_Mdl_areAlike_0 ?_
  refine Aw.iload_n rfl d_Mdl_areAlike_1 ?_
  refine Aw.isub d_Mdl_areAlike_2 ?_
  refine Aw.iload rfl d_Mdl_areAlike_3 ?_
  refine Aw.iload rfl d_Mdl_areAlike_5 ?_
  refine Aw.isub d_Mdl_areAlike_7 ?_
  obtain ⟨o1, h⟩ := h
  obtain ⟨o2, h⟩ := h
  obtain ⟨ht, hf⟩ := h
  refine Aw.icmp_ne (tgt := 15) o1 o2 (by decide) d_Mdl_areAlike_8 (fun c3 => ?_) (fun c3 => ?_)
  · have h := ht c3
    refine Aw.iconst d_Mdl_areAlike_15 ?_
    refine Aw.istore (by decide) d_Mdl_areAlike_16 ?_
    refine Aw.toL (L' := [xr (some a0), xi v1, xi v2, xi v3, xi v4, xi v5, xi v6, xi 0, xu]) rfl ?_
    refine Aw.iconst d_Mdl_areAlike_18 ?_
    refine Aw.istore (by decide) d_Mdl_areAlike_19 ?_
    refine Aw.toL (L' := [xr (some a0), xi v1, xi v2, xi v3, xi v4, xi v5, xi v6, xi 0, xi 0]) rfl ?_
    exact h
  · have h := hf c3
    refine Aw.iconst d_Mdl_areAlike_11 ?_
    refine Aw.goto (tgt := 16) (by decide) d_Mdl_areAlike_12 ?_
    refine Aw.istore (by decide) d_Mdl_areAlike_16 ?_
    refine Aw.toL (L' := [xr (some a0), xi v1, xi v2, xi v3, xi v4, xi v5, xi v6, xi 1, xu]) rfl ?_
    refine Aw.iconst d_Mdl_areAlike_18 ?_
    refine Aw.istore (by decide) d_Mdl_areAlike_19 ?_
    refine Aw.toL (L' := [xr (some a0), xi v1, xi v2, xi v3, xi v4, xi v5, xi v6, xi 1, xi 0]) rfl ?_
    exact h
theorem b_Mdl_areAlike_21 {Ω : Om} {R : Room} {F : QF} {k n : Nat} {σ : Sto} {a0 : Nat} {v1 : Int} {v2 : Int} {v3 : Int} {v4 : Int} {v5 : Int} {v6 : Int} {v7 : Int} {v8 : Int} (h : Q32 v8 ∧ Q32 (v3 - v2) ∧ (((v3 - v2) ≤ v8 → Aw Ω M_Mdl_areAlike R F k n 93 [xr (some a0), xi v1, xi v2, xi v3, xi v4, xi v5, xi v6, xi v7, xi v8] [xi v7] σ) ∧ (¬ (v3 - v2) ≤ v8 → Q32 v7 ∧ ((v7 = (0 : Int) → Aw Ω M_Mdl_areAlike R F k n 93 [xr (some a0), xi v1, xi v2, xi v3, xi v4, xi v5, xi v6, xi v7, xi v8] [xi v7] σ) ∧ (¬ v7 = (0 : Int) → sK σ a0 = 13 ∧ (∃ b5 : Nat, fR σ 770 a0 = some b5 ∧ (∃ b7 : Nat, fR σ 775 a0 = some b7 ∧ sK σ b7 = 50 ∧ 0 ≤ (((20 * v1) + v2) + v8) ∧ (((20 * v1) + v2) + v8) < sZ σ b7 ∧ (Q32 (aI σ b7 (((20 * v1) + v2) + v8).toNat) → sK σ b5 = 51 ∧ 0 ≤ (aI σ b7 (((20 * v1) + v2) + v8).toNat) ∧ (aI σ b7 (((20 * v1) + v2) + v8).toNat) < sZ σ b5 ∧ 0 ≤ (((20 * v4) + v5) + v8) ∧ (((20 * v4) + v5) + v8) < sZ σ b7 ∧ (Q32 (aI σ b7 (((20 * v4) + v5) + v8).toNat) → 0 ≤ (aI σ b7 (((20 * v4) + v5) + v8).toNat) ∧ (aI σ b7 (((20 * v4) + v5) + v8).toNat) < sZ σ b5 ∧ Q32 (cmpL (aL σ b5 (aI σ b7 (((20 * v1) + v2) + v8).toNat).toNat) (aL σ b5 (aI σ b7 (((20 * v4) + v5) + v8).toNat).toNat)) ∧ ((¬ (cmpL (aL σ b5 (aI σ b7 (((20 * v1) + v2) + v8).toNat).toNat) (aL σ b5 (aI σ b7 (((20 * v4) + v5) + v8).toNat).toNat)) = (0 : Int) → Aw Ω M_Mdl_areAlike R F k n 21 [xr (some a0), xi v1, xi v2, xi v3, xi v4, xi v5, xi v6, xi 0, xi (v8 + 1)] [] σ) ∧ ((cmpL (aL σ b5 (aI σ b7 (((20 * v1) + v2) + v8).toNat).toNat) (aL σ b5 (aI σ b7 (((20 * v4) + v5) + v8).toNat).toNat)) = (0 : Int) → Aw Ω M_Mdl_areAlike R F k n 21 [xr (some a0), xi v1, xi v2, xi v3, xi v4, xi v5, xi v6, xi 1, xi (v8 + 1)] [] σ))))))))))) : Aw Ω M_Mdl_areAlike R F k n 21 [xr (some a0), xi v1, xi v2, xi v3, xi v4, xi v5, xi v6, xi v7, xi v8] [] σ := by
  refine Aw.iload rfl d_Mdl_areAlike_21 ?_
  refine Aw.iload_n rfl d_Mdl_areAlike_23 ?_
  refine Aw.iload_n rfl d_Mdl_areAlike_24 ?_
  refine Aw.isub d_Mdl_areAlike_25 ?_
  obtain ⟨o1, h⟩ := h
  obtain ⟨o2, h⟩ := h
  obtain ⟨ht, hf⟩ := h
  refine Aw.icmp_ge (tgt := 91) o1 o2 (by decide) d_Mdl_areAlike_26 (fun c24 => ?_) (fun c24 => ?_)
  · have h := ht c24
    refine Aw.iload rfl d_Mdl_areAlike_91 ?_
    exact h
  · have h := hf c24
    refine Aw.iload rfl d_Mdl_areAlike_29 ?_
    obtain ⟨o3, h⟩ := h
    obtain ⟨ht, hf⟩ := h
    refine Aw.if_eq (tgt := 91) o3 (by decide) d_Mdl_areAlike_31 (fun c23 => ?_) (fun c23 => ?_)
    · have h := ht c23
      refine Aw.iload rfl d_Mdl_areAlike_91 ?_
      exact h
    · have h := hf c23
      refine Aw.aload_n rfl d_Mdl_areAlike_34 ?_
      obtain ⟨o4, h⟩ := h
      obtain ⟨b5, e6, h⟩ := h
      refine Aw.getRs (f := 770) 12 2 fl_Mdl_7 (by decide) (by decide) rfl rfl o4 e6 d_Mdl_areAlike_35 ?_
      refine Aw.aload_n rfl d_Mdl_areAlike_38 ?_
      obtain ⟨b7, e8, h⟩ := h
      refine Aw.getRs (f := 775) 12 7 fl_Mdl_23 (by decide) (by decide) rfl rfl o4 e8 d_Mdl_areAlike_39 ?_
      refine Aw.bipush (by decide) d_Mdl_areAlike_42 ?_
      refine Aw.iload_n rfl d_Mdl_areAlike_44 ?_
      refine Aw.imul d_Mdl_areAlike_45 ?_
      refine Aw.iload_n rfl d_Mdl_areAlike_46 ?_
      refine Aw.iadd d_Mdl_areAlike_47 ?_
      refine Aw.iload rfl d_Mdl_areAlike_48 ?_
      refine Aw.iadd d_Mdl_areAlike_50 ?_
      obtain ⟨o9, h⟩ := h
      obtain ⟨o10, o11, h⟩ := h
      refine Aw.iald o9 o10 o11 d_Mdl_areAlike_51 (fun r12 => ?_)
      have h := h r12
      obtain ⟨o13, h⟩ := h
      obtain ⟨o14, o15, h⟩ := h
      refine Aw.lald o13 o14 o15 d_Mdl_areAlike_52 ?_
      refine Aw.aload_n rfl d_Mdl_areAlike_53 ?_
      refine Aw.getRs (f := 770) 12 2 fl_Mdl_7 (by decide) (by decide) rfl rfl o4 e6 d_Mdl_areAlike_54 ?_
      refine Aw.aload_n rfl d_Mdl_areAlike_57 ?_
      refine Aw.getRs (f := 775) 12 7 fl_Mdl_23 (by decide) (by decide) rfl rfl o4 e8 d_Mdl_areAlike_58 ?_
      refine Aw.bipush (by decide) d_Mdl_areAlike_61 ?_
      refine Aw.iload rfl d_Mdl_areAlike_63 ?_
      refine Aw.imul d_Mdl_areAlike_65 ?_
      refine Aw.iload rfl d_Mdl_areAlike_66 ?_
      refine Aw.iadd d_Mdl_areAlike_68 ?_
      refine Aw.iload rfl d_Mdl_areAlike_69 ?_
      refine Aw.iadd d_Mdl_areAlike_71 ?_
      obtain ⟨o16, o17, h⟩ := h
      refine Aw.iald o9 o16 o17 d_Mdl_areAlike_72 (fun r18 => ?_)
      have h := h r18
      obtain ⟨o19, o20, h⟩ := h
      refine Aw.lald o13 o19 o20 d_Mdl_areAlike_73 ?_
      refine Aw.lcmp d_Mdl_areAlike_74 ?_
      obtain ⟨o21, h⟩ := h
      obtain ⟨ht, hf⟩ := h
      refine Aw.if_ne (tgt := 82) o21 (by decide) d_Mdl_areAlike_75 (fun c22 => ?_) (fun c22 => ?_)
      · have h := ht c22
        refine Aw.iconst d_Mdl_areAlike_82 ?_
        refine Aw.istore (by decide) d_Mdl_areAlike_83 ?_
        refine Aw.toL (L' := [xr (some a0), xi v1, xi v2, xi v3, xi v4, xi v5, xi v6, xi 0, xi v8]) rfl ?_
        refine Aw.iinc rfl d_Mdl_areAlike_85 ?_
        refine Aw.toL (L' := [xr (some a0), xi v1, xi v2, xi v3, xi v4, xi v5, xi v6, xi 0, xi (v8 + 1)]) rfl ?_
        refine Aw.goto (tgt := 21) (by decide) d_Mdl_areAlike_88 ?_
        exact h
      · have h := hf c22
        refine Aw.iconst d_Mdl_areAlike_78 ?_
        refine Aw.goto (tgt := 83) (by decide) d_Mdl_areAlike_79 ?_
        refine Aw.istore (by decide) d_Mdl_areAlike_83 ?_
        refine Aw.toL (L' := [xr (some a0), xi v1, xi v2, xi v3, xi v4, xi v5, xi v6, xi 1, xi v8]) rfl ?_
        refine Aw.iinc rfl d_Mdl_areAlike_85 ?_
        refine Aw.toL (L' := [xr (some a0), xi v1, xi v2, xi v3, xi v4, xi v5, xi v6, xi 1, xi (v8 + 1)]) rfl ?_
        refine Aw.goto (tgt := 21) (by decide) d_Mdl_areAlike_88 ?_
        exact h
theorem r_Mdl_areAlike_93 {Ω : Om} {R : Room} {k n : Nat} {L : List PV} {σ : Sto} {QR : Option PV → Sto → Prop} {QX : String → Sto → Prop} {x : Int} (hx : x = 0 ∨ x = 1) (h : QR (some (xi x)) σ) (h1 : k ≤ R.cells) (h2 : n ≤ R.slots) : Aw Ω M_Mdl_areAlike R (MF Ω R QR QX) k n 93 L [xi x] σ := Aw.zret rfl hx h h1 h2 d_Mdl_areAlike_93
theorem e_Mdl_change {Ω : Om} {R : Room} {QR : Option PV → Sto → Prop} {QX : String → Sto → Prop} {σ : Sto} {a0 : Nat} {v1 : Int} {v2 : Int64} (h : Aw Ω M_Mdl_change R (MF Ω R QR QX) 0 0 0 [xr (some a0), xi v1, xl v2, xu, xu] [] σ) : MC Ω M_Mdl_change R QR QX σ [xr (some a0), xi v1, xl v2] := MC.body (by decide +kernel) rfl (Nat.le_of_ble_eq_true rfl) rfl h
theorem b_Mdl_change_0 {Ω : Om} {R : Room} {F : QF} {k n : Nat} {σ : Sto} {a0 : Nat} {v1 : Int} {v2 : Int64} (h : Aw Ω M_Mdl_change R F k n 3 [xr (some a0), xi v1, xl v2, xu, xu] [xi v1, xr (some a0), xr (some a0)] σ) : Aw Ω M_Mdl_change R F k n 0 [xr (some a0), xi v1, xl v2, xu, xu] [] σ := by
  refine Aw.aload_n rfl d_Mdl_change_0 ?_
  refine Aw.aload_n rfl d_Mdl_change_1 ?_
  refine Aw.iload_n rfl d_Mdl_change_2 ?_
  exact h
theorem b_Mdl_change_6 {Ω : Om} {R : Room} {F : QF} {k n : Nat} {σ : Sto} {a0 : Nat} {v1 : Int} {v2 : Int64} {s0 : Nat} {s1 : Int} (h : Q32 s1 ∧ ((¬ s1 = (0 : Int) → Aw Ω M_Mdl_change R F k n 14 [xr (some a0), xi v1, xl v2, xu, xu] [xl v2, xr (some s0)] σ) ∧ (s1 = (0 : Int) → Aw Ω M_Mdl_change R F k n 36 [xr (some a0), xi v1, xl v2, xu, xu] [xi 1, xr (some s0)] σ))) : Aw Ω M_Mdl_change R F k n 6 [xr (some a0), xi v1, xl v2, xu, xu] [xi s1, xr (some s0)] σ := by
  obtain ⟨o1, h⟩ := h
  obtain ⟨ht, hf⟩ := h
  refine Aw.if_ne (tgt := 13) o1 (by decide) d_Mdl_change_6 (fun c2 => ?_) (fun c2 => ?_)
  · have h := ht c2
    refine Aw.lload_n rfl d_Mdl_change_13 ?_
    exact h
  · have h := hf c2
    refine Aw.iconst d_Mdl_change_9 ?_
    refine Aw.goto (tgt := 36) (by decide) d_Mdl_change_10 ?_
    exact h
theorem b_Mdl_change_39 {Ω : Om} {R : Room} {F : QF} {k n : Nat} {σ : Sto} {a0 : Nat} {v1 : Int} {v2 : Int64} {s0 : Int} (h : Q32 s0 ∧ ((s0 = (0 : Int) → Aw Ω M_Mdl_change R F k n 45 [xr (some a0), xi v1, xl v2, xu, xu] [xr (some a0)] σ) ∧ (¬ s0 = (0 : Int) → Aw Ω M_Mdl_change R F k n 43 [xr (some a0), xi v1, xl v2, xu, xu] [xi 0] σ))) : Aw Ω M_Mdl_change R F k n 39 [xr (some a0), xi v1, xl v2, xu, xu] [xi s0] σ := by
  obtain ⟨o1, h⟩ := h
  obtain ⟨ht, hf⟩ := h
  refine Aw.if_eq (tgt := 44) o1 (by decide) d_Mdl_change_39 (fun c2 => ?_) (fun c2 => ?_)
  · have h := ht c2
    refine Aw.aload_n rfl d_Mdl_change_44 ?_
    exact h
  · have h := hf c2
    refine Aw.iconst d_Mdl_change_42 ?_
    exact h
theorem b_Mdl_change_48 {Ω : Om} {R : Room} {F : QF} {k n : Nat} {σ : Sto} {a0 : Nat} {v1 : Int} {v2 : Int64} (h : sK σ a0 = 13 ∧ (∃ b2 : Nat, fR σ 784 a0 = some b2 ∧ sK σ b2 = 50 ∧ 0 ≤ v1 ∧ v1 < sZ σ b2 ∧ (Q32 (aI σ b2 (v1).toNat) → (∃ b8 : Nat, fR σ 770 a0 = some b8 ∧ sK σ b8 = 51 ∧ 0 ≤ (aI σ b2 (v1).toNat) ∧ (aI σ b2 (v1).toNat) < sZ σ b8 ∧ Q32 (cmpL (aL σ b8 (aI σ b2 (v1).toNat).toNat) v2) ∧ (((cmpL (aL σ b8 (aI σ b2 (v1).toNat).toNat) v2) = (0 : Int) → Aw Ω M_Mdl_change R F k n 94 [xr (some a0), xi v1, xl v2, xu, xi (aI σ b2 (v1).toNat)] [xl v2, xl (aL σ b8 (aI σ b2 (v1).toNat).toNat), xr (some a0)] σ) ∧ (¬ (cmpL (aL σ b8 (aI σ b2 (v1).toNat).toNat) v2) = (0 : Int) → (Q32 (fI σ 782 a0) → Aw Ω M_Mdl_change R F k n 81 [xr (some a0), xi v1, xl v2, xu, xi (aI σ b2 (v1).toNat)] [xi (aI σ b2 (v1).toNat), xi (fI σ 782 a0), xl v2, xr (some a0), xi v1, xr (some b2)] σ))))))) : Aw Ω M_Mdl_change R F k n 48 [xr (some a0), xi v1, xl v2, xu, xu] [] σ := by
  refine Aw.aload_n rfl d_Mdl_change_48 ?_
  obtain ⟨o1, h⟩ := h
  obtain ⟨b2, e3, h⟩ := h
  refine Aw.getRs (f := 784) 12 16 fl_Mdl_35 (by decide) (by decide) rfl rfl o1 e3 d_Mdl_change_49 ?_
  refine Aw.iload_n rfl d_Mdl_change_52 ?_
  obtain ⟨o4, h⟩ := h
  obtain ⟨o5, o6, h⟩ := h
  refine Aw.iald o4 o5 o6 d_Mdl_change_53 (fun r7 => ?_)
  have h := h r7
  refine Aw.istore (by decide) d_Mdl_change_54 ?_
  refine Aw.toL (L' := [xr (some a0), xi v1, xl v2, xu, xi (aI σ b2 (v1).toNat)]) rfl ?_
  refine Aw.aload_n rfl d_Mdl_change_56 ?_
  obtain ⟨b8, e9, h⟩ := h
  refine Aw.getRs (f := 770) 12 2 fl_Mdl_7 (by decide) (by decide) rfl rfl o1 e9 d_Mdl_change_57 ?_
  refine Aw.iload rfl d_Mdl_change_60 ?_
  obtain ⟨o10, h⟩ := h
  obtain ⟨o11, o12, h⟩ := h
  refine Aw.lald o10 o11 o12 d_Mdl_change_62 ?_
  refine Aw.lload_n rfl d_Mdl_change_63 ?_
  refine Aw.lcmp d_Mdl_change_64 ?_
  obtain ⟨o13, h⟩ := h
  obtain ⟨ht, hf⟩ := h
  refine Aw.if_eq (tgt := 85) o13 (by decide) d_Mdl_change_65 (fun c15 => ?_) (fun c15 => ?_)
  · have h := ht c15
    refine Aw.aload_n rfl d_Mdl_change_85 ?_
    refine Aw.aload_n rfl d_Mdl_change_86 ?_
    refine Aw.getRs (f := 770) 12 2 fl_Mdl_7 (by decide) (by decide) rfl rfl o1 e9 d_Mdl_change_87 ?_
    refine Aw.iload rfl d_Mdl_change_90 ?_
    refine Aw.lald o10 o11 o12 d_Mdl_change_92 ?_
    refine Aw.lload_n rfl d_Mdl_change_93 ?_
    exact h
  · have h := hf c15
    refine Aw.aload_n rfl d_Mdl_change_68 ?_
    refine Aw.getRs (f := 784) 12 16 fl_Mdl_35 (by decide) (by decide) rfl rfl o1 e3 d_Mdl_change_69 ?_
    refine Aw.iload_n rfl d_Mdl_change_72 ?_
    refine Aw.aload_n rfl d_Mdl_change_73 ?_
    refine Aw.lload_n rfl d_Mdl_change_74 ?_
    refine Aw.aload_n rfl d_Mdl_change_75 ?_
    refine Aw.getI (f := 782) 12 14 fl_Mdl_162 (by decide) (by decide) rfl rfl o1 d_Mdl_change_76 (fun r14 => ?_)
    have h := h r14
    refine Aw.iload rfl d_Mdl_change_79 ?_
    exact h
theorem b_Mdl_change_84 {Ω : Om} {R : Room} {F : QF} {k n : Nat} {σ : Sto} {a0 : Nat} {v1 : Int} {v2 : Int64} {v4 : Int} {s0 : Nat} {s1 : Int} {s2 : Int} (h : sK σ s0 = 50 ∧ 0 ≤ s1 ∧ s1 < sZ σ s0 ∧ Q32 s2 ∧ sK σ a0 = 13 ∧ (∃ b6 : Nat, fR σ 770 a0 = some b6 ∧ sK σ b6 = 51 ∧ 0 ≤ v4 ∧ v4 < sZ σ b6 ∧ Aw Ω M_Mdl_change R F k n 94 [xr (some a0), xi v1, xl v2, xu, xi v4] [xl v2, xl (aL σ b6 (v4).toNat), xr (some a0)] (vI σ s0 (s1).toNat s2))) : Aw Ω M_Mdl_change R F k n 84 [xr (some a0), xi v1, xl v2, xu, xi v4] [xi s2, xi s1, xr (some s0)] σ := by
  obtain ⟨o1, h⟩ := h
  obtain ⟨o2, o3, h⟩ := h
  obtain ⟨o4, h⟩ := h
  refine Aw.iast o1 o2 o3 o4 d_Mdl_change_84 ?_
  refine Aw.aload_n rfl d_Mdl_change_85 ?_
  refine Aw.aload_n rfl d_Mdl_change_86 ?_
  obtain ⟨o5, h⟩ := h
  obtain ⟨b6, e7, h⟩ := h
  refine Aw.getRs (f := 770) 12 2 fl_Mdl_7 (by decide) (by decide) rfl rfl o5 e7 d_Mdl_change_87 ?_
  refine Aw.iload rfl d_Mdl_change_90 ?_
  obtain ⟨o8, h⟩ := h
  obtain ⟨o9, o10, h⟩ := h
  refine Aw.lald o8 o9 o10 d_Mdl_change_92 ?_
  refine Aw.lload_n rfl d_Mdl_change_93 ?_
  exact h
theorem b_Mdl_change_17 {Ω : Om} {R : Room} {F : QF} {k n : Nat} {σ : Sto} {a0 : Nat} {v1 : Int} {v2 : Int64} {s0 : Nat} {s1 : Int} (h : Q32 s1 ∧ ((¬ s1 = (0 : Int) → Aw Ω M_Mdl_change R F k n 25 [xr (some a0), xi v1, xl v2, xu, xu] [xr (some a0), xr (some s0)] σ) ∧ (s1 = (0 : Int) → Aw Ω M_Mdl_change R F k n 36 [xr (some a0), xi v1, xl v2, xu, xu] [xi 2, xr (some s0)] σ))) : Aw Ω M_Mdl_change R F k n 17 [xr (some a0), xi v1, xl v2, xu, xu] [xi s1, xr (some s0)] σ := by
  obtain ⟨o1, h⟩ := h
  obtain ⟨ht, hf⟩ := h
  refine Aw.if_ne (tgt := 24) o1 (by decide) d_Mdl_change_17 (fun c2 => ?_) (fun c2 => ?_)
  · have h := ht c2
    refine Aw.aload_n rfl d_Mdl_change_24 ?_
    exact h
  · have h := hf c2
    refine Aw.iconst d_Mdl_change_20 ?_
    refine Aw.goto (tgt := 36) (by decide) d_Mdl_change_21 ?_
    exact h
theorem b_Mdl_change_28 {Ω : Om} {R : Room} {F : QF} {k n : Nat} {σ : Sto} {a0 : Nat} {v1 : Int} {v2 : Int64} {s0 : Nat} {s1 : Int} (h : Q32 s1 ∧ ((s1 = (0 : Int) → Aw Ω M_Mdl_change R F k n 36 [xr (some a0), xi v1, xl v2, xu, xu] [xi 3, xr (some s0)] σ) ∧ (¬ s1 = (0 : Int) → Aw Ω M_Mdl_change R F k n 36 [xr (some a0), xi v1, xl v2, xu, xu] [xi 0, xr (some s0)] σ))) : Aw Ω M_Mdl_change R F k n 28 [xr (some a0), xi v1, xl v2, xu, xu] [xi s1, xr (some s0)] σ := by
  obtain ⟨o1, h⟩ := h
  obtain ⟨ht, hf⟩ := h
  refine Aw.if_eq (tgt := 35) o1 (by decide) d_Mdl_change_28 (fun c2 => ?_) (fun c2 => ?_)
  · have h := ht c2
    refine Aw.iconst d_Mdl_change_35 ?_
    exact h
  · have h := hf c2
    refine Aw.iconst d_Mdl_change_31 ?_
    refine Aw.goto (tgt := 36) (by decide) d_Mdl_change_32 ?_
    exact h
theorem c_Mdl_change_3 {Ω : Om} {R R' : Room} {F : QF} {k n : Nat} {L st : List PV} {σ : Sto} {QX' : String → Sto → Prop} {Q : Int → Sto → Prop} {a : Nat} {x0 : Int} (hc : MC Ω M_Mdl_isPlace R' (RI Q) QX' σ [xr (some a), xi x0]) (hk : sK σ a = 13) (hr1 : R'.frames + 1 ≤ R.frames) (hr2 : 8 + (2 + 11) + R'.locals ≤ R.locals) (hb1 : k + R'.cells ≤ R.cells) (hb2 : n + R'.slots ≤ R.slots) (hst : (st.map catP).sum ≤ 8) (kk : ∀ x σ', Q x σ' → Aw Ω M_Mdl_change R F (k + R'.cells) (n + R'.slots) 6 L (xi x :: st) σ') (kx : ∀ E σ', QX' E σ' → Ax Ω M_Mdl_change R F (k + R'.cells) (n + R'.slots) 3 L st σ' E) : Aw Ω M_Mdl_change R F k n 3 L (xi x0 :: xr (some a) :: st) σ :=
  Aw.callV (As := [xi x0]) (stk := xi x0 :: xr (some a) :: st) (nn := 1) 12 M_Mdl_isPlace hc ok_Mdl_isPlace rfl (by decide) rfl hk ml_Mdl_215 im_Mdl_isPlace se_Mdl_isPlace ⟨hr1, hr2⟩ rfl ⟨hb1, hb2⟩ hst rfl d_Mdl_change_3 (fun r σ' h => by obtain ⟨x, rfl, h⟩ := h; exact kk x σ' h) kx
theorem c_Mdl_change_14 {Ω : Om} {R R' : Room} {F : QF} {k n : Nat} {L st : List PV} {σ : Sto} {QX' : String → Sto → Prop} {Q : Int → Sto → Prop} {x0 : Int64} (hc : MC Ω M_Mdl_isLine R' (RI Q) QX' σ [xl x0]) (hr1 : R'.frames + 1 ≤ R.frames) (hr2 : 8 + (6 + 11) + R'.locals ≤ R.locals) (hb1 : k + R'.cells ≤ R.cells) (hb2 : n + R'.slots ≤ R.slots) (hst : (st.map catP).sum ≤ 8) (kk : ∀ x σ', Q x σ' → Aw Ω M_Mdl_change R F (k + R'.cells) (n + R'.slots) 17 L (xi x :: st) σ') (kx : ∀ E σ', QX' E σ' → Ax Ω M_Mdl_change R F (k + R'.cells) (n + R'.slots) 14 L st σ' E) : Aw Ω M_Mdl_change R F k n 14 L (xl x0 :: st) σ :=
  Aw.callS (As := [xl x0]) (stk := xl x0 :: st) (nn := 1) M_Mdl_isLine hc ok_Mdl_isLine rfl ml_Mdl_147 sta_Mdl_isLine ⟨hr1, hr2⟩ rfl ⟨hb1, hb2⟩ hst rfl d_Mdl_change_14 (fun r σ' h => by obtain ⟨x, rfl, h⟩ := h; exact kk x σ' h) kx
theorem c_Mdl_change_25 {Ω : Om} {R R' : Room} {F : QF} {k n : Nat} {L st : List PV} {σ : Sto} {QX' : String → Sto → Prop} {Q : Int → Sto → Prop} {a : Nat} (hc : MC Ω M_Mdl_isSettled R' (RI Q) QX' σ [xr (some a)]) (hk : sK σ a = 13) (hr1 : R'.frames + 1 ≤ R.frames) (hr2 : 8 + (1 + 11) + R'.locals ≤ R.locals) (hb1 : k + R'.cells ≤ R.cells) (hb2 : n + R'.slots ≤ R.slots) (hst : (st.map catP).sum ≤ 8) (kk : ∀ x σ', Q x σ' → Aw Ω M_Mdl_change R F (k + R'.cells) (n + R'.slots) 28 L (xi x :: st) σ') (kx : ∀ E σ', QX' E σ' → Ax Ω M_Mdl_change R F (k + R'.cells) (n + R'.slots) 25 L st σ' E) : Aw Ω M_Mdl_change R F k n 25 L (xr (some a) :: st) σ :=
  Aw.callV (As := []) (stk := xr (some a) :: st) (nn := 0) 12 M_Mdl_isSettled hc ok_Mdl_isSettled rfl (by decide) rfl hk ml_Mdl_201 im_Mdl_isSettled se_Mdl_isSettled ⟨hr1, hr2⟩ rfl ⟨hb1, hb2⟩ hst rfl d_Mdl_change_25 (fun r σ' h => by obtain ⟨x, rfl, h⟩ := h; exact kk x σ' h) kx
theorem c_Mdl_change_36 {Ω : Om} {R R' : Room} {F : QF} {k n : Nat} {L st : List PV} {σ : Sto} {QX' : String → Sto → Prop} {Q : Int → Sto → Prop} {a : Nat} {x0 : Int} (hc : MC Ω M_Mdl_refused R' (RI Q) QX' σ [xr (some a), xi x0]) (hk : sK σ a = 13) (hr1 : R'.frames + 1 ≤ R.frames) (hr2 : 8 + (2 + 11) + R'.locals ≤ R.locals) (hb1 : k + R'.cells ≤ R.cells) (hb2 : n + R'.slots ≤ R.slots) (hst : (st.map catP).sum ≤ 8) (kk : ∀ x σ', Q x σ' → Aw Ω M_Mdl_change R F (k + R'.cells) (n + R'.slots) 39 L (xi x :: st) σ') (kx : ∀ E σ', QX' E σ' → Ax Ω M_Mdl_change R F (k + R'.cells) (n + R'.slots) 36 L st σ' E) : Aw Ω M_Mdl_change R F k n 36 L (xi x0 :: xr (some a) :: st) σ :=
  Aw.callV (As := [xi x0]) (stk := xi x0 :: xr (some a) :: st) (nn := 1) 12 M_Mdl_refused hc ok_Mdl_refused rfl (by decide) rfl hk ml_Mdl_151 im_Mdl_refused se_Mdl_refused ⟨hr1, hr2⟩ rfl ⟨hb1, hb2⟩ hst rfl d_Mdl_change_36 (fun r σ' h => by obtain ⟨x, rfl, h⟩ := h; exact kk x σ' h) kx
theorem r_Mdl_change_43 {Ω : Om} {R : Room} {k n : Nat} {L : List PV} {σ : Sto} {QR : Option PV → Sto → Prop} {QX : String → Sto → Prop} {x : Int} (h : QR (some (xi x)) σ) (h1 : k ≤ R.cells) (h2 : n ≤ R.slots) : Aw Ω M_Mdl_change R (MF Ω R QR QX) k n 43 L [xi x] σ := Aw.iret rfl h h1 h2 d_Mdl_change_43
theorem c_Mdl_change_45 {Ω : Om} {R R' : Room} {F : QF} {k n : Nat} {L st : List PV} {σ : Sto} {QX' : String → Sto → Prop} {Q : Sto → Prop} {a : Nat} (hc : MC Ω M_Mdl_remember R' (RV Q) QX' σ [xr (some a)]) (hk : sK σ a = 13) (hr1 : R'.frames + 1 ≤ R.frames) (hr2 : 8 + (2 + 11) + R'.locals ≤ R.locals) (hb1 : k + R'.cells ≤ R.cells) (hb2 : n + R'.slots ≤ R.slots) (hst : (st.map catP).sum ≤ 8) (kk : ∀ σ', Q σ' → Aw Ω M_Mdl_change R F (k + R'.cells) (n + R'.slots) 48 L st σ') (kx : ∀ E σ', QX' E σ' → Ax Ω M_Mdl_change R F (k + R'.cells) (n + R'.slots) 45 L st σ' E) : Aw Ω M_Mdl_change R F k n 45 L (xr (some a) :: st) σ :=
  Aw.callV (As := []) (stk := xr (some a) :: st) (nn := 0) 12 M_Mdl_remember hc ok_Mdl_remember rfl (by decide) rfl hk ml_Mdl_205 im_Mdl_remember se_Mdl_remember ⟨hr1, hr2⟩ rfl ⟨hb1, hb2⟩ hst rfl d_Mdl_change_45 (fun r σ' h => by obtain ⟨rfl, h⟩ := h; exact kk σ' h) kx
theorem c_Mdl_change_81 {Ω : Om} {R R' : Room} {F : QF} {k n : Nat} {L st : List PV} {σ : Sto} {QX' : String → Sto → Prop} {Q : Int → Sto → Prop} {a : Nat} {x0 : Int64} {x1 : Int} {x2 : Int} (hc : MC Ω M_Mdl_id R' (RI Q) QX' σ [xr (some a), xl x0, xi x1, xi x2]) (hk : sK σ a = 13) (hr1 : R'.frames + 1 ≤ R.frames) (hr2 : 8 + (5 + 11) + R'.locals ≤ R.locals) (hb1 : k + R'.cells ≤ R.cells) (hb2 : n + R'.slots ≤ R.slots) (hst : (st.map catP).sum ≤ 8) (kk : ∀ x σ', Q x σ' → Aw Ω M_Mdl_change R F (k + R'.cells) (n + R'.slots) 84 L (xi x :: st) σ') (kx : ∀ E σ', QX' E σ' → Ax Ω M_Mdl_change R F (k + R'.cells) (n + R'.slots) 81 L st σ' E) : Aw Ω M_Mdl_change R F k n 81 L (xi x2 :: xi x1 :: xl x0 :: xr (some a) :: st) σ :=
  Aw.callV (As := [xl x0, xi x1, xi x2]) (stk := xi x2 :: xi x1 :: xl x0 :: xr (some a) :: st) (nn := 3) 12 M_Mdl_id hc ok_Mdl_id rfl (by decide) rfl hk ml_Mdl_168 im_Mdl_id se_Mdl_id ⟨hr1, hr2⟩ rfl ⟨hb1, hb2⟩ hst rfl d_Mdl_change_81 (fun r σ' h => by obtain ⟨x, rfl, h⟩ := h; exact kk x σ' h) kx
theorem c_Mdl_change_94 {Ω : Om} {R R' : Room} {F : QF} {k n : Nat} {L st : List PV} {σ : Sto} {QX' : String → Sto → Prop} {Q : Int → Sto → Prop} {a : Nat} {x0 : Int64} {x1 : Int64} (hc : MC Ω M_Mdl_likenessOf R' (RI Q) QX' σ [xr (some a), xl x0, xl x1]) (hk : sK σ a = 13) (hr1 : R'.frames + 1 ≤ R.frames) (hr2 : 8 + (12 + 11) + R'.locals ≤ R.locals) (hb1 : k + R'.cells ≤ R.cells) (hb2 : n + R'.slots ≤ R.slots) (hst : (st.map catP).sum ≤ 8) (kk : ∀ x σ', Q x σ' → Aw Ω M_Mdl_change R F (k + R'.cells) (n + R'.slots) 97 L (xi x :: st) σ') (kx : ∀ E σ', QX' E σ' → Ax Ω M_Mdl_change R F (k + R'.cells) (n + R'.slots) 94 L st σ' E) : Aw Ω M_Mdl_change R F k n 94 L (xl x1 :: xl x0 :: xr (some a) :: st) σ :=
  Aw.callV (As := [xl x0, xl x1]) (stk := xl x1 :: xl x0 :: xr (some a) :: st) (nn := 2) 12 M_Mdl_likenessOf hc ok_Mdl_likenessOf rfl (by decide) rfl hk ml_Mdl_155 im_Mdl_likenessOf se_Mdl_likenessOf ⟨hr1, hr2⟩ rfl ⟨hb1, hb2⟩ hst rfl d_Mdl_change_94 (fun r σ' h => by obtain ⟨x, rfl, h⟩ := h; exact kk x σ' h) kx
theorem r_Mdl_change_97 {Ω : Om} {R : Room} {k n : Nat} {L : List PV} {σ : Sto} {QR : Option PV → Sto → Prop} {QX : String → Sto → Prop} {x : Int} (h : QR (some (xi x)) σ) (h1 : k ≤ R.cells) (h2 : n ≤ R.slots) : Aw Ω M_Mdl_change R (MF Ω R QR QX) k n 97 L [xi x] σ := Aw.iret rfl h h1 h2 d_Mdl_change_97
theorem e_Mdl_remember {Ω : Om} {R : Room} {QR : Option PV → Sto → Prop} {QX : String → Sto → Prop} {σ : Sto} {a0 : Nat} (h : Aw Ω M_Mdl_remember R (MF Ω R QR QX) 0 0 0 [xr (some a0), xu] [] σ) : MC Ω M_Mdl_remember R QR QX σ [xr (some a0)] := MC.body (by decide +kernel) rfl (Nat.le_of_ble_eq_true rfl) rfl h
theorem b_Mdl_remember_0 {Ω : Om} {R : Room} {F : QF} {k n : Nat} {σ : Sto} {a0 : Nat} (h : sK σ a0 = 13 ∧ (∃ b2 : Nat, fR σ 790 a0 = some b2 ∧ (Q32 (fI σ 789 a0) → (Q32 (fI σ 783 a0) → sK σ b2 = 50 ∧ 0 ≤ (fI σ 789 a0) ∧ (fI σ 789 a0) < sZ σ b2 ∧ (∃ b9 : Nat, fR σ 791 a0 = some b9 ∧ (Q32 (fI σ 789 a0) → (Q32 (fI σ 786 a0) → sK σ b9 = 50 ∧ 0 ≤ (fI σ 789 a0) ∧ (fI σ 789 a0) < sZ σ b9 ∧ Aw Ω M_Mdl_remember R F k n 28 [xr (some a0), xi 0] [] (vI (vI σ b2 (fI σ 789 a0).toNat (fI σ 783 a0)) b9 (fI σ 789 a0).toNat (fI σ 786 a0))))))))) : Aw Ω M_Mdl_remember R F k n 0 [xr (some a0), xu] [] σ := by
  refine Aw.aload_n rfl d_Mdl_remember_0 ?_
  obtain ⟨o1, h⟩ := h
  obtain ⟨b2, e3, h⟩ := h
  refine Aw.getRs (f := 790) 12 22 fl_Mdl_44 (by decide) (by decide) rfl rfl o1 e3 d_Mdl_remember_1 ?_
  refine Aw.aload_n rfl d_Mdl_remember_4 ?_
  refine Aw.getI (f := 789) 12 21 fl_Mdl_191 (by decide) (by decide) rfl rfl o1 d_Mdl_remember_5 (fun r4 => ?_)
  have h := h r4
  refine Aw.aload_n rfl d_Mdl_remember_8 ?_
  refine Aw.getI (f := 783) 12 15 fl_Mdl_194 (by decide) (by decide) rfl rfl o1 d_Mdl_remember_9 (fun r5 => ?_)
  have h := h r5
  obtain ⟨o6, h⟩ := h
  obtain ⟨o7, o8, h⟩ := h
  refine Aw.iast o6 o7 o8 r5 d_Mdl_remember_12 ?_
  refine Aw.aload_n rfl d_Mdl_remember_13 ?_
  obtain ⟨b9, e10, h⟩ := h
  refine Aw.getRs (f := 791) 12 23 fl_Mdl_47 (by decide) (by decide) rfl rfl o1 e10 d_Mdl_remember_14 ?_
  refine Aw.aload_n rfl d_Mdl_remember_17 ?_
  refine Aw.getI (f := 789) 12 21 fl_Mdl_191 (by decide) (by decide) rfl rfl o1 d_Mdl_remember_18 (fun r11 => ?_)
  have h := h r11
  refine Aw.aload_n rfl d_Mdl_remember_21 ?_
  refine Aw.getI (f := 786) 12 18 fl_Mdl_188 (by decide) (by decide) rfl rfl o1 d_Mdl_remember_22 (fun r12 => ?_)
  have h := h r12
  obtain ⟨o13, h⟩ := h
  obtain ⟨o14, o15, h⟩ := h
  refine Aw.iast o13 o14 o15 r12 d_Mdl_remember_25 ?_
  refine Aw.iconst d_Mdl_remember_26 ?_
  refine Aw.istore_n (by decide) d_Mdl_remember_27 ?_
  refine Aw.toL (L' := [xr (some a0), xi 0]) rfl ?_
  exact h
theorem b_Mdl_remember_28 {Ω : Om} {R : Room} {F : QF} {k n : Nat} {σ : Sto} {a0 : Nat} {v1 : Int} (h : sK σ a0 = 13 ∧ (Q32 (fI σ 783 a0) → Q32 v1 ∧ (((fI σ 783 a0) ≤ v1 → (Q32 (fI σ 789 a0) → Q32 ((fI σ 789 a0) + 1) ∧ Aw Ω M_Mdl_remember R F k n 72 [xr (some a0), xi v1] [] (uI σ 789 a0 ((fI σ 789 a0) + 1)))) ∧ (¬ (fI σ 783 a0) ≤ v1 → (∃ b6 : Nat, fR σ 792 a0 = some b6 ∧ (Q32 (fI σ 789 a0) → (∃ b9 : Nat, fR σ 784 a0 = some b9 ∧ sK σ b9 = 50 ∧ 0 ≤ v1 ∧ v1 < sZ σ b9 ∧ (Q32 (aI σ b9 (v1).toNat) → sK σ b6 = 50 ∧ 0 ≤ ((48 * (fI σ 789 a0)) + v1) ∧ ((48 * (fI σ 789 a0)) + v1) < sZ σ b6 ∧ Aw Ω M_Mdl_remember R F k n 28 [xr (some a0), xi (v1 + 1)] [] (vI σ b6 ((48 * (fI σ 789 a0)) + v1).toNat (aI σ b9 (v1).toNat)))))))))) : Aw Ω M_Mdl_remember R F k n 28 [xr (some a0), xi v1] [] σ := by
  refine Aw.iload_n rfl d_Mdl_remember_28 ?_
  refine Aw.aload_n rfl d_Mdl_remember_29 ?_
  obtain ⟨o1, h⟩ := h
  refine Aw.getI (f := 783) 12 15 fl_Mdl_194 (by decide) (by decide) rfl rfl o1 d_Mdl_remember_30 (fun r2 => ?_)
  have h := h r2
  obtain ⟨o3, h⟩ := h
  obtain ⟨ht, hf⟩ := h
  refine Aw.icmp_ge (tgt := 62) o3 r2 (by decide) d_Mdl_remember_33 (fun c18 => ?_) (fun c18 => ?_)
  · have h := ht c18
    refine Aw.aload_n rfl d_Mdl_remember_62 ?_
    refine Aw.dup rfl d_Mdl_remember_63 ?_
    refine Aw.getI (f := 789) 12 21 fl_Mdl_191 (by decide) (by decide) rfl rfl o1 d_Mdl_remember_64 (fun r4 => ?_)
    have h := h r4
    refine Aw.iconst d_Mdl_remember_67 ?_
    refine Aw.iadd d_Mdl_remember_68 ?_
    obtain ⟨o5, h⟩ := h
    refine Aw.putI (f := 789) 12 21 fl_Mdl_191 (by decide) (by decide) rfl rfl o1 rfl o5 (Or.inl rfl) d_Mdl_remember_69 ?_
    exact h
  · have h := hf c18
    refine Aw.aload_n rfl d_Mdl_remember_36 ?_
    obtain ⟨b6, e7, h⟩ := h
    refine Aw.getRs (f := 792) 12 24 fl_Mdl_50 (by decide) (by decide) rfl rfl o1 e7 d_Mdl_remember_37 ?_
    refine Aw.bipush (by decide) d_Mdl_remember_40 ?_
    refine Aw.aload_n rfl d_Mdl_remember_42 ?_
    refine Aw.getI (f := 789) 12 21 fl_Mdl_191 (by decide) (by decide) rfl rfl o1 d_Mdl_remember_43 (fun r8 => ?_)
    have h := h r8
    refine Aw.imul d_Mdl_remember_46 ?_
    refine Aw.iload_n rfl d_Mdl_remember_47 ?_
    refine Aw.iadd d_Mdl_remember_48 ?_
    refine Aw.aload_n rfl d_Mdl_remember_49 ?_
    obtain ⟨b9, e10, h⟩ := h
    refine Aw.getRs (f := 784) 12 16 fl_Mdl_35 (by decide) (by decide) rfl rfl o1 e10 d_Mdl_remember_50 ?_
    refine Aw.iload_n rfl d_Mdl_remember_53 ?_
    obtain ⟨o11, h⟩ := h
    obtain ⟨o12, o13, h⟩ := h
    refine Aw.iald o11 o12 o13 d_Mdl_remember_54 (fun r14 => ?_)
    have h := h r14
    obtain ⟨o15, h⟩ := h
    obtain ⟨o16, o17, h⟩ := h
    refine Aw.iast o15 o16 o17 r14 d_Mdl_remember_55 ?_
    refine Aw.iinc rfl d_Mdl_remember_56 ?_
    refine Aw.toL (L' := [xr (some a0), xi (v1 + 1)]) rfl ?_
    refine Aw.goto (tgt := 28) (by decide) d_Mdl_remember_59 ?_
    exact h
theorem r_Mdl_remember_72 {Ω : Om} {R : Room} {k n : Nat} {L : List PV} {σ : Sto} {QR : Option PV → Sto → Prop} {QX : String → Sto → Prop} (h : QR none σ) (h1 : k ≤ R.cells) (h2 : n ≤ R.slots) : Aw Ω M_Mdl_remember R (MF Ω R QR QX) k n 72 L [] σ := Aw.vret rfl h h1 h2 d_Mdl_remember_72
theorem e_Mdl_areSame {Ω : Om} {R : Room} {QR : Option PV → Sto → Prop} {QX : String → Sto → Prop} {σ : Sto} {a0 : Nat} {v1 : Int} {v2 : Int} {v3 : Int} (h : Aw Ω M_Mdl_areSame R (MF Ω R QR QX) 0 0 0 [xr (some a0), xi v1, xi v2, xi v3] [] σ) : MC Ω M_Mdl_areSame R QR QX σ [xr (some a0), xi v1, xi v2, xi v3] := MC.body (by decide +kernel) rfl (Nat.le_of_ble_eq_true rfl) rfl h
theorem b_Mdl_areSame_0 {Ω : Om} {R : Room} {F : QF} {k n : Nat} {σ : Sto} {a0 : Nat} {v1 : Int} {v2 : Int} {v3 : Int} (h : Q32 v3 ∧ ((v3 = (0 : Int) → sK σ a0 = 13 ∧ (∃ b3 : Nat, fR σ 770 a0 = some b3 ∧ sK σ b3 = 51 ∧ 0 ≤ v1 ∧ v1 < sZ σ b3 ∧ 0 ≤ v2 ∧ v2 < sZ σ b3 ∧ Q32 (cmpL (aL σ b3 (v1).toNat) (aL σ b3 (v2).toNat)) ∧ ((¬ (cmpL (aL σ b3 (v1).toNat) (aL σ b3 (v2).toNat)) = (0 : Int) → Aw Ω M_Mdl_areSame R F k n 55 [xr (some a0), xi v1, xi v2, xi v3] [xi 0] σ) ∧ ((cmpL (aL σ b3 (v1).toNat) (aL σ b3 (v2).toNat)) = (0 : Int) → Aw Ω M_Mdl_areSame R F k n 55 [xr (some a0), xi v1, xi v2, xi v3] [xi 1] σ)))) ∧ (¬ v3 = (0 : Int) → sK σ a0 = 13 ∧ (∃ b13 : Nat, fR σ 770 a0 = some b13 ∧ sK σ b13 = 51 ∧ 0 ≤ v1 ∧ v1 < sZ σ b13 ∧ Aw Ω M_Mdl_areSame R F k n 10 [xr (some a0), xi v1, xi v2, xi v3] [xl (aL σ b13 (v1).toNat)] σ)))) : Aw Ω M_Mdl_areSame R F k n 0 [xr (some a0), xi v1, xi v2, xi v3] [] σ := by
  refine Aw.iload_n rfl d_Mdl_areSame_0 ?_
  obtain ⟨o1, h⟩ := h
  obtain ⟨ht, hf⟩ := h
  refine Aw.if_eq (tgt := 34) o1 (by decide) d_Mdl_areSame_1 (fun c18 => ?_) (fun c18 => ?_)
  · have h := ht c18
    refine Aw.aload_n rfl d_Mdl_areSame_34 ?_
    obtain ⟨o2, h⟩ := h
    obtain ⟨b3, e4, h⟩ := h
    refine Aw.getRs (f := 770) 12 2 fl_Mdl_7 (by decide) (by decide) rfl rfl o2 e4 d_Mdl_areSame_35 ?_
    refine Aw.iload_n rfl d_Mdl_areSame_38 ?_
    obtain ⟨o5, h⟩ := h
    obtain ⟨o6, o7, h⟩ := h
    refine Aw.lald o5 o6 o7 d_Mdl_areSame_39 ?_
    refine Aw.aload_n rfl d_Mdl_areSame_40 ?_
    refine Aw.getRs (f := 770) 12 2 fl_Mdl_7 (by decide) (by decide) rfl rfl o2 e4 d_Mdl_areSame_41 ?_
    refine Aw.iload_n rfl d_Mdl_areSame_44 ?_
    obtain ⟨o8, o9, h⟩ := h
    refine Aw.lald o5 o8 o9 d_Mdl_areSame_45 ?_
    refine Aw.lcmp d_Mdl_areSame_46 ?_
    obtain ⟨o10, h⟩ := h
    obtain ⟨ht, hf⟩ := h
    refine Aw.if_ne (tgt := 54) o10 (by decide) d_Mdl_areSame_47 (fun c11 => ?_) (fun c11 => ?_)
    · have h := ht c11
      refine Aw.iconst d_Mdl_areSame_54 ?_
      exact h
    · have h := hf c11
      refine Aw.iconst d_Mdl_areSame_50 ?_
      refine Aw.goto (tgt := 55) (by decide) d_Mdl_areSame_51 ?_
      exact h
  · have h := hf c18
    refine Aw.aload_n rfl d_Mdl_areSame_4 ?_
    obtain ⟨o12, h⟩ := h
    obtain ⟨b13, e14, h⟩ := h
    refine Aw.getRs (f := 770) 12 2 fl_Mdl_7 (by decide) (by decide) rfl rfl o12 e14 d_Mdl_areSame_5 ?_
    refine Aw.iload_n rfl d_Mdl_areSame_8 ?_
    obtain ⟨o15, h⟩ := h
    obtain ⟨o16, o17, h⟩ := h
    refine Aw.lald o15 o16 o17 d_Mdl_areSame_9 ?_
    exact h
theorem b_Mdl_areSame_13 {Ω : Om} {R : Room} {F : QF} {k n : Nat} {σ : Sto} {a0 : Nat} {v1 : Int} {v2 : Int} {v3 : Int} {s0 : Int64} (h : sK σ a0 = 13 ∧ (∃ b2 : Nat, fR σ 770 a0 = some b2 ∧ sK σ b2 = 51 ∧ 0 ≤ v2 ∧ v2 < sZ σ b2 ∧ Aw Ω M_Mdl_areSame R F k n 19 [xr (some a0), xi v1, xi v2, xi v3] [xl (aL σ b2 (v2).toNat), xl s0] σ)) : Aw Ω M_Mdl_areSame R F k n 13 [xr (some a0), xi v1, xi v2, xi v3] [xl s0] σ := by
  refine Aw.aload_n rfl d_Mdl_areSame_13 ?_
  obtain ⟨o1, h⟩ := h
  obtain ⟨b2, e3, h⟩ := h
  refine Aw.getRs (f := 770) 12 2 fl_Mdl_7 (by decide) (by decide) rfl rfl o1 e3 d_Mdl_areSame_14 ?_
  refine Aw.iload_n rfl d_Mdl_areSame_17 ?_
  obtain ⟨o4, h⟩ := h
  obtain ⟨o5, o6, h⟩ := h
  refine Aw.lald o4 o5 o6 d_Mdl_areSame_18 ?_
  exact h
theorem b_Mdl_areSame_22 {Ω : Om} {R : Room} {F : QF} {k n : Nat} {σ : Sto} {a0 : Nat} {v1 : Int} {v2 : Int} {v3 : Int} {s0 : Int64} {s1 : Int64} (h : Q32 (cmpL s0 s1) ∧ ((¬ (cmpL s0 s1) = (0 : Int) → Aw Ω M_Mdl_areSame R F k n 55 [xr (some a0), xi v1, xi v2, xi v3] [xi 0] σ) ∧ ((cmpL s0 s1) = (0 : Int) → Aw Ω M_Mdl_areSame R F k n 55 [xr (some a0), xi v1, xi v2, xi v3] [xi 1] σ))) : Aw Ω M_Mdl_areSame R F k n 22 [xr (some a0), xi v1, xi v2, xi v3] [xl s1, xl s0] σ := by
  refine Aw.lcmp d_Mdl_areSame_22 ?_
  obtain ⟨o1, h⟩ := h
  obtain ⟨ht, hf⟩ := h
  refine Aw.if_ne (tgt := 30) o1 (by decide) d_Mdl_areSame_23 (fun c2 => ?_) (fun c2 => ?_)
  · have h := ht c2
    refine Aw.iconst d_Mdl_areSame_30 ?_
    refine Aw.goto (tgt := 55) (by decide) d_Mdl_areSame_31 ?_
    exact h
  · have h := hf c2
    refine Aw.iconst d_Mdl_areSame_26 ?_
    refine Aw.goto (tgt := 55) (by decide) d_Mdl_areSame_27 ?_
    exact h
theorem c_Mdl_areSame_10 {Ω : Om} {R R' : Room} {F : QF} {k n : Nat} {L st : List PV} {σ : Sto} {QX' : String → Sto → Prop} {Q : Int64 → Sto → Prop} {x0 : Int64} (hc : MC Ω M_Mdl_bare R' (RL Q) QX' σ [xl x0]) (hr1 : R'.frames + 1 ≤ R.frames) (hr2 : 8 + (6 + 11) + R'.locals ≤ R.locals) (hb1 : k + R'.cells ≤ R.cells) (hb2 : n + R'.slots ≤ R.slots) (hst : (st.map catP).sum ≤ 8) (kk : ∀ x σ', Q x σ' → Aw Ω M_Mdl_areSame R F (k + R'.cells) (n + R'.slots) 13 L (xl x :: st) σ') (kx : ∀ E σ', QX' E σ' → Ax Ω M_Mdl_areSame R F (k + R'.cells) (n + R'.slots) 10 L st σ' E) : Aw Ω M_Mdl_areSame R F k n 10 L (xl x0 :: st) σ :=
  Aw.callS (As := [xl x0]) (stk := xl x0 :: st) (nn := 1) M_Mdl_bare hc ok_Mdl_bare rfl ml_Mdl_241 sta_Mdl_bare ⟨hr1, hr2⟩ rfl ⟨hb1, hb2⟩ hst rfl d_Mdl_areSame_10 (fun r σ' h => by obtain ⟨x, rfl, h⟩ := h; exact kk x σ' h) kx
theorem c_Mdl_areSame_19 {Ω : Om} {R R' : Room} {F : QF} {k n : Nat} {L st : List PV} {σ : Sto} {QX' : String → Sto → Prop} {Q : Int64 → Sto → Prop} {x0 : Int64} (hc : MC Ω M_Mdl_bare R' (RL Q) QX' σ [xl x0]) (hr1 : R'.frames + 1 ≤ R.frames) (hr2 : 8 + (6 + 11) + R'.locals ≤ R.locals) (hb1 : k + R'.cells ≤ R.cells) (hb2 : n + R'.slots ≤ R.slots) (hst : (st.map catP).sum ≤ 8) (kk : ∀ x σ', Q x σ' → Aw Ω M_Mdl_areSame R F (k + R'.cells) (n + R'.slots) 22 L (xl x :: st) σ') (kx : ∀ E σ', QX' E σ' → Ax Ω M_Mdl_areSame R F (k + R'.cells) (n + R'.slots) 19 L st σ' E) : Aw Ω M_Mdl_areSame R F k n 19 L (xl x0 :: st) σ :=
  Aw.callS (As := [xl x0]) (stk := xl x0 :: st) (nn := 1) M_Mdl_bare hc ok_Mdl_bare rfl ml_Mdl_241 sta_Mdl_bare ⟨hr1, hr2⟩ rfl ⟨hb1, hb2⟩ hst rfl d_Mdl_areSame_19 (fun r σ' h => by obtain ⟨x, rfl, h⟩ := h; exact kk x σ' h) kx
theorem r_Mdl_areSame_55 {Ω : Om} {R : Room} {k n : Nat} {L : List PV} {σ : Sto} {QR : Option PV → Sto → Prop} {QX : String → Sto → Prop} {x : Int} (hx : x = 0 ∨ x = 1) (h : QR (some (xi x)) σ) (h1 : k ≤ R.cells) (h2 : n ≤ R.slots) : Aw Ω M_Mdl_areSame R (MF Ω R QR QX) k n 55 L [xi x] σ := Aw.zret rfl hx h h1 h2 d_Mdl_areSame_55
theorem e_Mdl_layLines {Ω : Om} {R : Room} {QR : Option PV → Sto → Prop} {QX : String → Sto → Prop} {σ : Sto} {a0 : Nat} {v1 : Int} {v2 : Int} {v3 : Int} {v4 : Int} (h : Aw Ω M_Mdl_layLines R (MF Ω R QR QX) 0 0 0 [xr (some a0), xi v1, xi v2, xi v3, xi v4, xu] [] σ) : MC Ω M_Mdl_layLines R QR QX σ [xr (some a0), xi v1, xi v2, xi v3, xi v4] := MC.body (by decide +kernel) rfl (Nat.le_of_ble_eq_true rfl) rfl h
theorem b_Mdl_layLines_0 {Ω : Om} {R : Room} {F : QF} {k n : Nat} {σ : Sto} {a0 : Nat} {v1 : Int} {v2 : Int} {v3 : Int} {v4 : Int} (h : Aw Ω M_Mdl_layLines R F k n 3 [xr (some a0), xi v1, xi v2, xi v3, xi v4, xi v2] [] σ) : Aw Ω M_Mdl_layLines R F k n 0 [xr (some a0), xi v1, xi v2, xi v3, xi v4, xu] [] σ := by
  refine Aw.iload_n rfl d_Mdl_layLines_0 ?_
  refine Aw.istore (by decide) d_Mdl_layLines_1 ?_
  refine Aw.toL (L' := [xr (some a0), xi v1, xi v2, xi v3, xi v4, xi v2]) rfl ?_
  exact h
theorem b_Mdl_layLines_3 {Ω : Om} {R : Room} {F : QF} {k n : Nat} {σ : Sto} {a0 : Nat} {v1 : Int} {v2 : Int} {v3 : Int} {v4 : Int} {v5 : Int} (h : Q32 v5 ∧ Q32 v3 ∧ ((v3 ≤ v5 → Aw Ω M_Mdl_layLines R F k n 54 [xr (some a0), xi v1, xi v2, xi v3, xi v4, xi v5] [xi (v3 - v2)] σ) ∧ (¬ v3 ≤ v5 → Q32 v4 ∧ ((v4 = (0 : Int) → Aw Ω M_Mdl_layLines R F k n 54 [xr (some a0), xi v1, xi v2, xi v3, xi v4, xi v5] [xi (v3 - v2)] σ) ∧ (¬ v4 = (0 : Int) → sK σ a0 = 13 ∧ (∃ b5 : Nat, fR σ 784 a0 = some b5 ∧ (Q32 (fI σ 783 a0) → (∃ b8 : Nat, fR σ 775 a0 = some b8 ∧ sK σ b8 = 50 ∧ 0 ≤ ((20 * v1) + v5) ∧ ((20 * v1) + v5) < sZ σ b8 ∧ (Q32 (aI σ b8 ((20 * v1) + v5).toNat) → sK σ b5 = 50 ∧ 0 ≤ (fI σ 783 a0) ∧ (fI σ 783 a0) < sZ σ b5 ∧ (Q32 (fI σ 783 a0) → Q32 ((fI σ 783 a0) + 1) ∧ Aw Ω M_Mdl_layLines R F k n 3 [xr (some a0), xi v1, xi v2, xi v3, xi v4, xi (v5 + 1)] [] (uI (vI σ b5 (fI σ 783 a0).toNat (aI σ b8 ((20 * v1) + v5).toNat)) 783 a0 ((fI σ 783 a0) + 1)))))))))))) : Aw Ω M_Mdl_layLines R F k n 3 [xr (some a0), xi v1, xi v2, xi v3, xi v4, xi v5] [] σ := by
  refine Aw.iload rfl d_Mdl_layLines_3 ?_
  refine Aw.iload_n rfl d_Mdl_layLines_5 ?_
  obtain ⟨o1, h⟩ := h
  obtain ⟨o2, h⟩ := h
  obtain ⟨ht, hf⟩ := h
  refine Aw.icmp_ge (tgt := 51) o1 o2 (by decide) d_Mdl_layLines_6 (fun c20 => ?_) (fun c20 => ?_)
  · have h := ht c20
    refine Aw.iload_n rfl d_Mdl_layLines_51 ?_
    refine Aw.iload_n rfl d_Mdl_layLines_52 ?_
    refine Aw.isub d_Mdl_layLines_53 ?_
    exact h
  · have h := hf c20
    refine Aw.iload rfl d_Mdl_layLines_9 ?_
    obtain ⟨o3, h⟩ := h
    obtain ⟨ht, hf⟩ := h
    refine Aw.if_eq (tgt := 51) o3 (by decide) d_Mdl_layLines_11 (fun c19 => ?_) (fun c19 => ?_)
    · have h := ht c19
      refine Aw.iload_n rfl d_Mdl_layLines_51 ?_
      refine Aw.iload_n rfl d_Mdl_layLines_52 ?_
      refine Aw.isub d_Mdl_layLines_53 ?_
      exact h
    · have h := hf c19
      refine Aw.aload_n rfl d_Mdl_layLines_14 ?_
      obtain ⟨o4, h⟩ := h
      obtain ⟨b5, e6, h⟩ := h
      refine Aw.getRs (f := 784) 12 16 fl_Mdl_35 (by decide) (by decide) rfl rfl o4 e6 d_Mdl_layLines_15 ?_
      refine Aw.aload_n rfl d_Mdl_layLines_18 ?_
      refine Aw.getI (f := 783) 12 15 fl_Mdl_194 (by decide) (by decide) rfl rfl o4 d_Mdl_layLines_19 (fun r7 => ?_)
      have h := h r7
      refine Aw.aload_n rfl d_Mdl_layLines_22 ?_
      obtain ⟨b8, e9, h⟩ := h
      refine Aw.getRs (f := 775) 12 7 fl_Mdl_23 (by decide) (by decide) rfl rfl o4 e9 d_Mdl_layLines_23 ?_
      refine Aw.bipush (by decide) d_Mdl_layLines_26 ?_
      refine Aw.iload_n rfl d_Mdl_layLines_28 ?_
      refine Aw.imul d_Mdl_layLines_29 ?_
      refine Aw.iload rfl d_Mdl_layLines_30 ?_
      refine Aw.iadd d_Mdl_layLines_32 ?_
      obtain ⟨o10, h⟩ := h
      obtain ⟨o11, o12, h⟩ := h
      refine Aw.iald o10 o11 o12 d_Mdl_layLines_33 (fun r13 => ?_)
      have h := h r13
      obtain ⟨o14, h⟩ := h
      obtain ⟨o15, o16, h⟩ := h
      refine Aw.iast o14 o15 o16 r13 d_Mdl_layLines_34 ?_
      refine Aw.aload_n rfl d_Mdl_layLines_35 ?_
      refine Aw.dup rfl d_Mdl_layLines_36 ?_
      refine Aw.getI (f := 783) 12 15 fl_Mdl_194 (by decide) (by decide) rfl rfl o4 d_Mdl_layLines_37 (fun r17 => ?_)
      have h := h r17
      refine Aw.iconst d_Mdl_layLines_40 ?_
      refine Aw.iadd d_Mdl_layLines_41 ?_
      obtain ⟨o18, h⟩ := h
      refine Aw.putI (f := 783) 12 15 fl_Mdl_194 (by decide) (by decide) rfl rfl o4 rfl o18 (Or.inl rfl) d_Mdl_layLines_42 ?_
      refine Aw.iinc rfl d_Mdl_layLines_45 ?_
      refine Aw.toL (L' := [xr (some a0), xi v1, xi v2, xi v3, xi v4, xi (v5 + 1)]) rfl ?_
      refine Aw.goto (tgt := 3) (by decide) d_Mdl_layLines_48 ?_
      exact h
theorem r_Mdl_layLines_54 {Ω : Om} {R : Room} {k n : Nat} {L : List PV} {σ : Sto} {QR : Option PV → Sto → Prop} {QX : String → Sto → Prop} {x : Int} (h : QR (some (xi x)) σ) (h1 : k ≤ R.cells) (h2 : n ≤ R.slots) : Aw Ω M_Mdl_layLines R (MF Ω R QR QX) k n 54 L [xi x] σ := Aw.iret rfl h h1 h2 d_Mdl_layLines_54
theorem e_Mdl_pieceOf {Ω : Om} {R : Room} {QR : Option PV → Sto → Prop} {QX : String → Sto → Prop} {σ : Sto} {a0 : Nat} {v1 : Int} {v2 : Int} (h : Aw Ω M_Mdl_pieceOf R (MF Ω R QR QX) 0 0 0 [xr (some a0), xi v1, xi v2] [] σ) : MC Ω M_Mdl_pieceOf R QR QX σ [xr (some a0), xi v1, xi v2] := MC.body (by decide +kernel) rfl (Nat.le_of_ble_eq_true rfl) rfl h
theorem b_Mdl_pieceOf_0 {Ω : Om} {R : Room} {F : QF} {k n : Nat} {σ : Sto} {a0 : Nat} {v1 : Int} {v2 : Int} (h : Aw Ω M_Mdl_pieceOf R F k n 3 [xr (some a0), xi v1, xi v2] [xi v1, xr (some a0), xr (some a0)] σ) : Aw Ω M_Mdl_pieceOf R F k n 0 [xr (some a0), xi v1, xi v2] [] σ := by
  refine Aw.aload_n rfl d_Mdl_pieceOf_0 ?_
  refine Aw.aload_n rfl d_Mdl_pieceOf_1 ?_
  refine Aw.iload_n rfl d_Mdl_pieceOf_2 ?_
  exact h
theorem b_Mdl_pieceOf_6 {Ω : Om} {R : Room} {F : QF} {k n : Nat} {σ : Sto} {a0 : Nat} {v1 : Int} {v2 : Int} {s0 : Nat} {s1 : Int} (h : Q32 s1 ∧ ((¬ s1 = (0 : Int) → Aw Ω M_Mdl_pieceOf R F k n 16 [xr (some a0), xi v1, xi v2] [xi 2, xi 0, xi v2, xr (some s0)] σ) ∧ (s1 = (0 : Int) → Aw Ω M_Mdl_pieceOf R F k n 27 [xr (some a0), xi v1, xi v2] [xi 1, xr (some s0)] σ))) : Aw Ω M_Mdl_pieceOf R F k n 6 [xr (some a0), xi v1, xi v2] [xi s1, xr (some s0)] σ := by
  obtain ⟨o1, h⟩ := h
  obtain ⟨ht, hf⟩ := h
  refine Aw.if_ne (tgt := 13) o1 (by decide) d_Mdl_pieceOf_6 (fun c2 => ?_) (fun c2 => ?_)
  · have h := ht c2
    refine Aw.iload_n rfl d_Mdl_pieceOf_13 ?_
    refine Aw.iconst d_Mdl_pieceOf_14 ?_
    refine Aw.iconst d_Mdl_pieceOf_15 ?_
    exact h
  · have h := hf c2
    refine Aw.iconst d_Mdl_pieceOf_9 ?_
    refine Aw.goto (tgt := 27) (by decide) d_Mdl_pieceOf_10 ?_
    exact h
theorem b_Mdl_pieceOf_30 {Ω : Om} {R : Room} {F : QF} {k n : Nat} {σ : Sto} {a0 : Nat} {v1 : Int} {v2 : Int} {s0 : Int} (h : Q32 s0 ∧ ((s0 = (0 : Int) → sK σ a0 = 13 ∧ (∃ b3 : Nat, fR σ 787 a0 = some b3 ∧ sK σ b3 = 50 ∧ 0 ≤ ((3 * v1) + v2) ∧ ((3 * v1) + v2) < sZ σ b3 ∧ (Q32 (aI σ b3 ((3 * v1) + v2).toNat) → Aw Ω M_Mdl_pieceOf R F k n 47 [xr (some a0), xi v1, xi v2] [xi (aI σ b3 ((3 * v1) + v2).toNat)] σ))) ∧ (¬ s0 = (0 : Int) → Aw Ω M_Mdl_pieceOf R F k n 47 [xr (some a0), xi v1, xi v2] [xi 0] σ))) : Aw Ω M_Mdl_pieceOf R F k n 30 [xr (some a0), xi v1, xi v2] [xi s0] σ := by
  obtain ⟨o1, h⟩ := h
  obtain ⟨ht, hf⟩ := h
  refine Aw.if_eq (tgt := 37) o1 (by decide) d_Mdl_pieceOf_30 (fun c9 => ?_) (fun c9 => ?_)
  · have h := ht c9
    refine Aw.aload_n rfl d_Mdl_pieceOf_37 ?_
    obtain ⟨o2, h⟩ := h
    obtain ⟨b3, e4, h⟩ := h
    refine Aw.getRs (f := 787) 12 19 fl_Mdl_38 (by decide) (by decide) rfl rfl o2 e4 d_Mdl_pieceOf_38 ?_
    refine Aw.iconst d_Mdl_pieceOf_41 ?_
    refine Aw.iload_n rfl d_Mdl_pieceOf_42 ?_
    refine Aw.imul d_Mdl_pieceOf_43 ?_
    refine Aw.iload_n rfl d_Mdl_pieceOf_44 ?_
    refine Aw.iadd d_Mdl_pieceOf_45 ?_
    obtain ⟨o5, h⟩ := h
    obtain ⟨o6, o7, h⟩ := h
    refine Aw.iald o5 o6 o7 d_Mdl_pieceOf_46 (fun r8 => ?_)
    have h := h r8
    exact h
  · have h := hf c9
    refine Aw.iconst d_Mdl_pieceOf_33 ?_
    refine Aw.goto (tgt := 47) (by decide) d_Mdl_pieceOf_34 ?_
    exact h
theorem b_Mdl_pieceOf_19 {Ω : Om} {R : Room} {F : QF} {k n : Nat} {σ : Sto} {a0 : Nat} {v1 : Int} {v2 : Int} {s0 : Nat} {s1 : Int} (h : Q32 s1 ∧ ((s1 = (0 : Int) → Aw Ω M_Mdl_pieceOf R F k n 27 [xr (some a0), xi v1, xi v2] [xi 2, xr (some s0)] σ) ∧ (¬ s1 = (0 : Int) → Aw Ω M_Mdl_pieceOf R F k n 27 [xr (some a0), xi v1, xi v2] [xi 0, xr (some s0)] σ))) : Aw Ω M_Mdl_pieceOf R F k n 19 [xr (some a0), xi v1, xi v2] [xi s1, xr (some s0)] σ := by
  obtain ⟨o1, h⟩ := h
  obtain ⟨ht, hf⟩ := h
  refine Aw.if_eq (tgt := 26) o1 (by decide) d_Mdl_pieceOf_19 (fun c2 => ?_) (fun c2 => ?_)
  · have h := ht c2
    refine Aw.iconst d_Mdl_pieceOf_26 ?_
    exact h
  · have h := hf c2
    refine Aw.iconst d_Mdl_pieceOf_22 ?_
    refine Aw.goto (tgt := 27) (by decide) d_Mdl_pieceOf_23 ?_
    exact h
theorem c_Mdl_pieceOf_3 {Ω : Om} {R R' : Room} {F : QF} {k n : Nat} {L st : List PV} {σ : Sto} {QX' : String → Sto → Prop} {Q : Int → Sto → Prop} {a : Nat} {x0 : Int} (hc : MC Ω M_Mdl_isConflict R' (RI Q) QX' σ [xr (some a), xi x0]) (hk : sK σ a = 13) (hr1 : R'.frames + 1 ≤ R.frames) (hr2 : 8 + (2 + 11) + R'.locals ≤ R.locals) (hb1 : k + R'.cells ≤ R.cells) (hb2 : n + R'.slots ≤ R.slots) (hst : (st.map catP).sum ≤ 8) (kk : ∀ x σ', Q x σ' → Aw Ω M_Mdl_pieceOf R F (k + R'.cells) (n + R'.slots) 6 L (xi x :: st) σ') (kx : ∀ E σ', QX' E σ' → Ax Ω M_Mdl_pieceOf R F (k + R'.cells) (n + R'.slots) 3 L st σ' E) : Aw Ω M_Mdl_pieceOf R F k n 3 L (xi x0 :: xr (some a) :: st) σ :=
  Aw.callV (As := [xi x0]) (stk := xi x0 :: xr (some a) :: st) (nn := 1) 12 M_Mdl_isConflict hc ok_Mdl_isConflict rfl (by decide) rfl hk ml_Mdl_309 im_Mdl_isConflict se_Mdl_isConflict ⟨hr1, hr2⟩ rfl ⟨hb1, hb2⟩ hst rfl d_Mdl_pieceOf_3 (fun r σ' h => by obtain ⟨x, rfl, h⟩ := h; exact kk x σ' h) kx
theorem c_Mdl_pieceOf_16 {Ω : Om} {R R' : Room} {F : QF} {k n : Nat} {L st : List PV} {σ : Sto} {QX' : String → Sto → Prop} {Q : Int → Sto → Prop} {x0 : Int} {x1 : Int} {x2 : Int} (hc : MC Ω M_Mdl_in R' (RI Q) QX' σ [xi x0, xi x1, xi x2]) (hr1 : R'.frames + 1 ≤ R.frames) (hr2 : 8 + (3 + 11) + R'.locals ≤ R.locals) (hb1 : k + R'.cells ≤ R.cells) (hb2 : n + R'.slots ≤ R.slots) (hst : (st.map catP).sum ≤ 8) (kk : ∀ x σ', Q x σ' → Aw Ω M_Mdl_pieceOf R F (k + R'.cells) (n + R'.slots) 19 L (xi x :: st) σ') (kx : ∀ E σ', QX' E σ' → Ax Ω M_Mdl_pieceOf R F (k + R'.cells) (n + R'.slots) 16 L st σ' E) : Aw Ω M_Mdl_pieceOf R F k n 16 L (xi x2 :: xi x1 :: xi x0 :: st) σ :=
  Aw.callS (As := [xi x0, xi x1, xi x2]) (stk := xi x2 :: xi x1 :: xi x0 :: st) (nn := 3) M_Mdl_in hc ok_Mdl_in rfl ml_Mdl_130 sta_Mdl_in ⟨hr1, hr2⟩ rfl ⟨hb1, hb2⟩ hst rfl d_Mdl_pieceOf_16 (fun r σ' h => by obtain ⟨x, rfl, h⟩ := h; exact kk x σ' h) kx
theorem c_Mdl_pieceOf_27 {Ω : Om} {R R' : Room} {F : QF} {k n : Nat} {L st : List PV} {σ : Sto} {QX' : String → Sto → Prop} {Q : Int → Sto → Prop} {a : Nat} {x0 : Int} (hc : MC Ω M_Mdl_refused R' (RI Q) QX' σ [xr (some a), xi x0]) (hk : sK σ a = 13) (hr1 : R'.frames + 1 ≤ R.frames) (hr2 : 8 + (2 + 11) + R'.locals ≤ R.locals) (hb1 : k + R'.cells ≤ R.cells) (hb2 : n + R'.slots ≤ R.slots) (hst : (st.map catP).sum ≤ 8) (kk : ∀ x σ', Q x σ' → Aw Ω M_Mdl_pieceOf R F (k + R'.cells) (n + R'.slots) 30 L (xi x :: st) σ') (kx : ∀ E σ', QX' E σ' → Ax Ω M_Mdl_pieceOf R F (k + R'.cells) (n + R'.slots) 27 L st σ' E) : Aw Ω M_Mdl_pieceOf R F k n 27 L (xi x0 :: xr (some a) :: st) σ :=
  Aw.callV (As := [xi x0]) (stk := xi x0 :: xr (some a) :: st) (nn := 1) 12 M_Mdl_refused hc ok_Mdl_refused rfl (by decide) rfl hk ml_Mdl_151 im_Mdl_refused se_Mdl_refused ⟨hr1, hr2⟩ rfl ⟨hb1, hb2⟩ hst rfl d_Mdl_pieceOf_27 (fun r σ' h => by obtain ⟨x, rfl, h⟩ := h; exact kk x σ' h) kx
theorem r_Mdl_pieceOf_47 {Ω : Om} {R : Room} {k n : Nat} {L : List PV} {σ : Sto} {QR : Option PV → Sto → Prop} {QX : String → Sto → Prop} {x : Int} (h : QR (some (xi x)) σ) (h1 : k ≤ R.cells) (h2 : n ≤ R.slots) : Aw Ω M_Mdl_pieceOf R (MF Ω R QR QX) k n 47 L [xi x] σ := Aw.iret rfl h h1 h2 d_Mdl_pieceOf_47
theorem e_Mdl_remove {Ω : Om} {R : Room} {QR : Option PV → Sto → Prop} {QX : String → Sto → Prop} {σ : Sto} {a0 : Nat} {v1 : Int} (h : Aw Ω M_Mdl_remove R (MF Ω R QR QX) 0 0 0 [xr (some a0), xi v1] [] σ) : MC Ω M_Mdl_remove R QR QX σ [xr (some a0), xi v1] := MC.body (by decide +kernel) rfl (Nat.le_of_ble_eq_true rfl) rfl h
theorem b_Mdl_remove_0 {Ω : Om} {R : Room} {F : QF} {k n : Nat} {σ : Sto} {a0 : Nat} {v1 : Int} (h : Aw Ω M_Mdl_remove R F k n 3 [xr (some a0), xi v1] [xi v1, xr (some a0), xr (some a0)] σ) : Aw Ω M_Mdl_remove R F k n 0 [xr (some a0), xi v1] [] σ := by
  refine Aw.aload_n rfl d_Mdl_remove_0 ?_
  refine Aw.aload_n rfl d_Mdl_remove_1 ?_
  refine Aw.iload_n rfl d_Mdl_remove_2 ?_
  exact h
theorem b_Mdl_remove_6 {Ω : Om} {R : Room} {F : QF} {k n : Nat} {σ : Sto} {a0 : Nat} {v1 : Int} {s0 : Nat} {s1 : Int} (h : Q32 s1 ∧ ((¬ s1 = (0 : Int) → Aw Ω M_Mdl_remove R F k n 14 [xr (some a0), xi v1] [xr (some a0), xr (some s0)] σ) ∧ (s1 = (0 : Int) → Aw Ω M_Mdl_remove R F k n 25 [xr (some a0), xi v1] [xi 1, xr (some s0)] σ))) : Aw Ω M_Mdl_remove R F k n 6 [xr (some a0), xi v1] [xi s1, xr (some s0)] σ := by
  obtain ⟨o1, h⟩ := h
  obtain ⟨ht, hf⟩ := h
  refine Aw.if_ne (tgt := 13) o1 (by decide) d_Mdl_remove_6 (fun c2 => ?_) (fun c2 => ?_)
  · have h := ht c2
    refine Aw.aload_n rfl d_Mdl_remove_13 ?_
    exact h
  · have h := hf c2
    refine Aw.iconst d_Mdl_remove_9 ?_
    refine Aw.goto (tgt := 25) (by decide) d_Mdl_remove_10 ?_
    exact h
theorem b_Mdl_remove_28 {Ω : Om} {R : Room} {F : QF} {k n : Nat} {σ : Sto} {a0 : Nat} {v1 : Int} {s0 : Int} (h : Q32 s0 ∧ ((s0 = (0 : Int) → Aw Ω M_Mdl_remove R F k n 34 [xr (some a0), xi v1] [xr (some a0)] σ) ∧ (¬ s0 = (0 : Int) → Aw Ω M_Mdl_remove R F k n 32 [xr (some a0), xi v1] [xi 0] σ))) : Aw Ω M_Mdl_remove R F k n 28 [xr (some a0), xi v1] [xi s0] σ := by
  obtain ⟨o1, h⟩ := h
  obtain ⟨ht, hf⟩ := h
  refine Aw.if_eq (tgt := 33) o1 (by decide) d_Mdl_remove_28 (fun c2 => ?_) (fun c2 => ?_)
  · have h := ht c2
    refine Aw.aload_n rfl d_Mdl_remove_33 ?_
    exact h
  · have h := hf c2
    refine Aw.iconst d_Mdl_remove_31 ?_
    exact h
theorem b_Mdl_remove_37 {Ω : Om} {R : Room} {F : QF} {k n : Nat} {σ : Sto} {a0 : Nat} {v1 : Int} (h : Aw Ω M_Mdl_remove R F k n 39 [xr (some a0), xi v1] [xi v1, xr (some a0)] σ) : Aw Ω M_Mdl_remove R F k n 37 [xr (some a0), xi v1] [] σ := by
  refine Aw.aload_n rfl d_Mdl_remove_37 ?_
  refine Aw.iload_n rfl d_Mdl_remove_38 ?_
  exact h
theorem b_Mdl_remove_42 {Ω : Om} {R : Room} {F : QF} {k n : Nat} {σ : Sto} {a0 : Nat} {v1 : Int} (h : sK σ a0 = 13 ∧ (Q32 (fI σ 783 a0) → Aw Ω M_Mdl_remove R F k n 46 [xr (some a0), xi v1] [xi (fI σ 783 a0)] σ)) : Aw Ω M_Mdl_remove R F k n 42 [xr (some a0), xi v1] [] σ := by
  refine Aw.aload_n rfl d_Mdl_remove_42 ?_
  obtain ⟨o1, h⟩ := h
  refine Aw.getI (f := 783) 12 15 fl_Mdl_194 (by decide) (by decide) rfl rfl o1 d_Mdl_remove_43 (fun r2 => ?_)
  have h := h r2
  exact h
theorem b_Mdl_remove_17 {Ω : Om} {R : Room} {F : QF} {k n : Nat} {σ : Sto} {a0 : Nat} {v1 : Int} {s0 : Nat} {s1 : Int} (h : Q32 s1 ∧ ((s1 = (0 : Int) → Aw Ω M_Mdl_remove R F k n 25 [xr (some a0), xi v1] [xi 2, xr (some s0)] σ) ∧ (¬ s1 = (0 : Int) → Aw Ω M_Mdl_remove R F k n 25 [xr (some a0), xi v1] [xi 0, xr (some s0)] σ))) : Aw Ω M_Mdl_remove R F k n 17 [xr (some a0), xi v1] [xi s1, xr (some s0)] σ := by
  obtain ⟨o1, h⟩ := h
  obtain ⟨ht, hf⟩ := h
  refine Aw.if_eq (tgt := 24) o1 (by decide) d_Mdl_remove_17 (fun c2 => ?_) (fun c2 => ?_)
  · have h := ht c2
    refine Aw.iconst d_Mdl_remove_24 ?_
    exact h
  · have h := hf c2
    refine Aw.iconst d_Mdl_remove_20 ?_
    refine Aw.goto (tgt := 25) (by decide) d_Mdl_remove_21 ?_
    exact h
theorem c_Mdl_remove_3 {Ω : Om} {R R' : Room} {F : QF} {k n : Nat} {L st : List PV} {σ : Sto} {QX' : String → Sto → Prop} {Q : Int → Sto → Prop} {a : Nat} {x0 : Int} (hc : MC Ω M_Mdl_isPlace R' (RI Q) QX' σ [xr (some a), xi x0]) (hk : sK σ a = 13) (hr1 : R'.frames + 1 ≤ R.frames) (hr2 : 8 + (2 + 11) + R'.locals ≤ R.locals) (hb1 : k + R'.cells ≤ R.cells) (hb2 : n + R'.slots ≤ R.slots) (hst : (st.map catP).sum ≤ 8) (kk : ∀ x σ', Q x σ' → Aw Ω M_Mdl_remove R F (k + R'.cells) (n + R'.slots) 6 L (xi x :: st) σ') (kx : ∀ E σ', QX' E σ' → Ax Ω M_Mdl_remove R F (k + R'.cells) (n + R'.slots) 3 L st σ' E) : Aw Ω M_Mdl_remove R F k n 3 L (xi x0 :: xr (some a) :: st) σ :=
  Aw.callV (As := [xi x0]) (stk := xi x0 :: xr (some a) :: st) (nn := 1) 12 M_Mdl_isPlace hc ok_Mdl_isPlace rfl (by decide) rfl hk ml_Mdl_215 im_Mdl_isPlace se_Mdl_isPlace ⟨hr1, hr2⟩ rfl ⟨hb1, hb2⟩ hst rfl d_Mdl_remove_3 (fun r σ' h => by obtain ⟨x, rfl, h⟩ := h; exact kk x σ' h) kx
theorem c_Mdl_remove_14 {Ω : Om} {R R' : Room} {F : QF} {k n : Nat} {L st : List PV} {σ : Sto} {QX' : String → Sto → Prop} {Q : Int → Sto → Prop} {a : Nat} (hc : MC Ω M_Mdl_isSettled R' (RI Q) QX' σ [xr (some a)]) (hk : sK σ a = 13) (hr1 : R'.frames + 1 ≤ R.frames) (hr2 : 8 + (1 + 11) + R'.locals ≤ R.locals) (hb1 : k + R'.cells ≤ R.cells) (hb2 : n + R'.slots ≤ R.slots) (hst : (st.map catP).sum ≤ 8) (kk : ∀ x σ', Q x σ' → Aw Ω M_Mdl_remove R F (k + R'.cells) (n + R'.slots) 17 L (xi x :: st) σ') (kx : ∀ E σ', QX' E σ' → Ax Ω M_Mdl_remove R F (k + R'.cells) (n + R'.slots) 14 L st σ' E) : Aw Ω M_Mdl_remove R F k n 14 L (xr (some a) :: st) σ :=
  Aw.callV (As := []) (stk := xr (some a) :: st) (nn := 0) 12 M_Mdl_isSettled hc ok_Mdl_isSettled rfl (by decide) rfl hk ml_Mdl_201 im_Mdl_isSettled se_Mdl_isSettled ⟨hr1, hr2⟩ rfl ⟨hb1, hb2⟩ hst rfl d_Mdl_remove_14 (fun r σ' h => by obtain ⟨x, rfl, h⟩ := h; exact kk x σ' h) kx
theorem c_Mdl_remove_25 {Ω : Om} {R R' : Room} {F : QF} {k n : Nat} {L st : List PV} {σ : Sto} {QX' : String → Sto → Prop} {Q : Int → Sto → Prop} {a : Nat} {x0 : Int} (hc : MC Ω M_Mdl_refused R' (RI Q) QX' σ [xr (some a), xi x0]) (hk : sK σ a = 13) (hr1 : R'.frames + 1 ≤ R.frames) (hr2 : 8 + (2 + 11) + R'.locals ≤ R.locals) (hb1 : k + R'.cells ≤ R.cells) (hb2 : n + R'.slots ≤ R.slots) (hst : (st.map catP).sum ≤ 8) (kk : ∀ x σ', Q x σ' → Aw Ω M_Mdl_remove R F (k + R'.cells) (n + R'.slots) 28 L (xi x :: st) σ') (kx : ∀ E σ', QX' E σ' → Ax Ω M_Mdl_remove R F (k + R'.cells) (n + R'.slots) 25 L st σ' E) : Aw Ω M_Mdl_remove R F k n 25 L (xi x0 :: xr (some a) :: st) σ :=
  Aw.callV (As := [xi x0]) (stk := xi x0 :: xr (some a) :: st) (nn := 1) 12 M_Mdl_refused hc ok_Mdl_refused rfl (by decide) rfl hk ml_Mdl_151 im_Mdl_refused se_Mdl_refused ⟨hr1, hr2⟩ rfl ⟨hb1, hb2⟩ hst rfl d_Mdl_remove_25 (fun r σ' h => by obtain ⟨x, rfl, h⟩ := h; exact kk x σ' h) kx
theorem r_Mdl_remove_32 {Ω : Om} {R : Room} {k n : Nat} {L : List PV} {σ : Sto} {QR : Option PV → Sto → Prop} {QX : String → Sto → Prop} {x : Int} (h : QR (some (xi x)) σ) (h1 : k ≤ R.cells) (h2 : n ≤ R.slots) : Aw Ω M_Mdl_remove R (MF Ω R QR QX) k n 32 L [xi x] σ := Aw.iret rfl h h1 h2 d_Mdl_remove_32
theorem c_Mdl_remove_34 {Ω : Om} {R R' : Room} {F : QF} {k n : Nat} {L st : List PV} {σ : Sto} {QX' : String → Sto → Prop} {Q : Sto → Prop} {a : Nat} (hc : MC Ω M_Mdl_remember R' (RV Q) QX' σ [xr (some a)]) (hk : sK σ a = 13) (hr1 : R'.frames + 1 ≤ R.frames) (hr2 : 8 + (2 + 11) + R'.locals ≤ R.locals) (hb1 : k + R'.cells ≤ R.cells) (hb2 : n + R'.slots ≤ R.slots) (hst : (st.map catP).sum ≤ 8) (kk : ∀ σ', Q σ' → Aw Ω M_Mdl_remove R F (k + R'.cells) (n + R'.slots) 37 L st σ') (kx : ∀ E σ', QX' E σ' → Ax Ω M_Mdl_remove R F (k + R'.cells) (n + R'.slots) 34 L st σ' E) : Aw Ω M_Mdl_remove R F k n 34 L (xr (some a) :: st) σ :=
  Aw.callV (As := []) (stk := xr (some a) :: st) (nn := 0) 12 M_Mdl_remember hc ok_Mdl_remember rfl (by decide) rfl hk ml_Mdl_205 im_Mdl_remember se_Mdl_remember ⟨hr1, hr2⟩ rfl ⟨hb1, hb2⟩ hst rfl d_Mdl_remove_34 (fun r σ' h => by obtain ⟨rfl, h⟩ := h; exact kk σ' h) kx
theorem c_Mdl_remove_39 {Ω : Om} {R R' : Room} {F : QF} {k n : Nat} {L st : List PV} {σ : Sto} {QX' : String → Sto → Prop} {Q : Sto → Prop} {a : Nat} {x0 : Int} (hc : MC Ω M_Mdl_takeAt R' (RV Q) QX' σ [xr (some a), xi x0]) (hk : sK σ a = 13) (hr1 : R'.frames + 1 ≤ R.frames) (hr2 : 8 + (3 + 11) + R'.locals ≤ R.locals) (hb1 : k + R'.cells ≤ R.cells) (hb2 : n + R'.slots ≤ R.slots) (hst : (st.map catP).sum ≤ 8) (kk : ∀ σ', Q σ' → Aw Ω M_Mdl_remove R F (k + R'.cells) (n + R'.slots) 42 L st σ') (kx : ∀ E σ', QX' E σ' → Ax Ω M_Mdl_remove R F (k + R'.cells) (n + R'.slots) 39 L st σ' E) : Aw Ω M_Mdl_remove R F k n 39 L (xi x0 :: xr (some a) :: st) σ :=
  Aw.callV (As := [xi x0]) (stk := xi x0 :: xr (some a) :: st) (nn := 1) 12 M_Mdl_takeAt hc ok_Mdl_takeAt rfl (by decide) rfl hk ml_Mdl_218 im_Mdl_takeAt se_Mdl_takeAt ⟨hr1, hr2⟩ rfl ⟨hb1, hb2⟩ hst rfl d_Mdl_remove_39 (fun r σ' h => by obtain ⟨rfl, h⟩ := h; exact kk σ' h) kx
theorem r_Mdl_remove_46 {Ω : Om} {R : Room} {k n : Nat} {L : List PV} {σ : Sto} {QR : Option PV → Sto → Prop} {QX : String → Sto → Prop} {x : Int} (h : QR (some (xi x)) σ) (h1 : k ≤ R.cells) (h2 : n ≤ R.slots) : Aw Ω M_Mdl_remove R (MF Ω R QR QX) k n 46 L [xi x] σ := Aw.iret rfl h h1 h2 d_Mdl_remove_46
theorem e_Mdl_isLineOf {Ω : Om} {R : Room} {QR : Option PV → Sto → Prop} {QX : String → Sto → Prop} {σ : Sto} {a0 : Nat} {v1 : Int} {v2 : Int} (h : Aw Ω M_Mdl_isLineOf R (MF Ω R QR QX) 0 0 0 [xr (some a0), xi v1, xi v2] [] σ) : MC Ω M_Mdl_isLineOf R QR QX σ [xr (some a0), xi v1, xi v2] := MC.body (by decide +kernel) rfl (Nat.le_of_ble_eq_true rfl) rfl h
theorem b_Mdl_isLineOf_0 {Ω : Om} {R : Room} {F : QF} {k n : Nat} {σ : Sto} {a0 : Nat} {v1 : Int} {v2 : Int} (h : Aw Ω M_Mdl_isLineOf R F k n 2 [xr (some a0), xi v1, xi v2] [xi v1, xr (some a0)] σ) : Aw Ω M_Mdl_isLineOf R F k n 0 [xr (some a0), xi v1, xi v2] [] σ := by
  refine Aw.aload_n rfl d_Mdl_isLineOf_0 ?_
  refine Aw.iload_n rfl d_Mdl_isLineOf_1 ?_
  exact h
theorem b_Mdl_isLineOf_5 {Ω : Om} {R : Room} {F : QF} {k n : Nat} {σ : Sto} {a0 : Nat} {v1 : Int} {v2 : Int} {s0 : Int} (h : Q32 s0 ∧ ((s0 = (0 : Int) → Aw Ω M_Mdl_isLineOf R F k n 29 [xr (some a0), xi v1, xi v2] [xi 0] σ) ∧ (¬ s0 = (0 : Int) → sK σ a0 = 13 ∧ (∃ b3 : Nat, fR σ 774 a0 = some b3 ∧ sK σ b3 = 50 ∧ 0 ≤ v1 ∧ v1 < sZ σ b3 ∧ (Q32 (aI σ b3 (v1).toNat) → Aw Ω M_Mdl_isLineOf R F k n 18 [xr (some a0), xi v1, xi v2] [xi ((aI σ b3 (v1).toNat) - 1), xi 0, xi v2] σ))))) : Aw Ω M_Mdl_isLineOf R F k n 5 [xr (some a0), xi v1, xi v2] [xi s0] σ := by
  obtain ⟨o1, h⟩ := h
  obtain ⟨ht, hf⟩ := h
  refine Aw.if_eq (tgt := 28) o1 (by decide) d_Mdl_isLineOf_5 (fun c9 => ?_) (fun c9 => ?_)
  · have h := ht c9
    refine Aw.iconst d_Mdl_isLineOf_28 ?_
    exact h
  · have h := hf c9
    refine Aw.iload_n rfl d_Mdl_isLineOf_8 ?_
    refine Aw.iconst d_Mdl_isLineOf_9 ?_
    refine Aw.aload_n rfl d_Mdl_isLineOf_10 ?_
    obtain ⟨o2, h⟩ := h
    obtain ⟨b3, e4, h⟩ := h
    refine Aw.getRs (f := 774) 12 6 fl_Mdl_20 (by decide) (by decide) rfl rfl o2 e4 d_Mdl_isLineOf_11 ?_
    refine Aw.iload_n rfl d_Mdl_isLineOf_14 ?_
    obtain ⟨o5, h⟩ := h
    obtain ⟨o6, o7, h⟩ := h
    refine Aw.iald o5 o6 o7 d_Mdl_isLineOf_15 (fun r8 => ?_)
    have h := h r8
    refine Aw.iconst d_Mdl_isLineOf_16 ?_
    refine Aw.isub d_Mdl_isLineOf_17 ?_
    exact h
theorem b_Mdl_isLineOf_21 {Ω : Om} {R : Room} {F : QF} {k n : Nat} {σ : Sto} {a0 : Nat} {v1 : Int} {v2 : Int} {s0 : Int} (h : Q32 s0 ∧ ((s0 = (0 : Int) → Aw Ω M_Mdl_isLineOf R F k n 29 [xr (some a0), xi v1, xi v2] [xi 0] σ) ∧ (¬ s0 = (0 : Int) → Aw Ω M_Mdl_isLineOf R F k n 29 [xr (some a0), xi v1, xi v2] [xi 1] σ))) : Aw Ω M_Mdl_isLineOf R F k n 21 [xr (some a0), xi v1, xi v2] [xi s0] σ := by
  obtain ⟨o1, h⟩ := h
  obtain ⟨ht, hf⟩ := h
  refine Aw.if_eq (tgt := 28) o1 (by decide) d_Mdl_isLineOf_21 (fun c2 => ?_) (fun c2 => ?_)
  · have h := ht c2
    refine Aw.iconst d_Mdl_isLineOf_28 ?_
    exact h
  · have h := hf c2
    refine Aw.iconst d_Mdl_isLineOf_24 ?_
    refine Aw.goto (tgt := 29) (by decide) d_Mdl_isLineOf_25 ?_
    exact h
theorem c_Mdl_isLineOf_2 {Ω : Om} {R R' : Room} {F : QF} {k n : Nat} {L st : List PV} {σ : Sto} {QX' : String → Sto → Prop} {Q : Int → Sto → Prop} {a : Nat} {x0 : Int} (hc : MC Ω M_Mdl_isVersion R' (RI Q) QX' σ [xr (some a), xi x0]) (hk : sK σ a = 13) (hr1 : R'.frames + 1 ≤ R.frames) (hr2 : 8 + (2 + 11) + R'.locals ≤ R.locals) (hb1 : k + R'.cells ≤ R.cells) (hb2 : n + R'.slots ≤ R.slots) (hst : (st.map catP).sum ≤ 8) (kk : ∀ x σ', Q x σ' → Aw Ω M_Mdl_isLineOf R F (k + R'.cells) (n + R'.slots) 5 L (xi x :: st) σ') (kx : ∀ E σ', QX' E σ' → Ax Ω M_Mdl_isLineOf R F (k + R'.cells) (n + R'.slots) 2 L st σ' E) : Aw Ω M_Mdl_isLineOf R F k n 2 L (xi x0 :: xr (some a) :: st) σ :=
  Aw.callV (As := [xi x0]) (stk := xi x0 :: xr (some a) :: st) (nn := 1) 12 M_Mdl_isVersion hc ok_Mdl_isVersion rfl (by decide) rfl hk ml_Mdl_172 im_Mdl_isVersion se_Mdl_isVersion ⟨hr1, hr2⟩ rfl ⟨hb1, hb2⟩ hst rfl d_Mdl_isLineOf_2 (fun r σ' h => by obtain ⟨x, rfl, h⟩ := h; exact kk x σ' h) kx
theorem c_Mdl_isLineOf_18 {Ω : Om} {R R' : Room} {F : QF} {k n : Nat} {L st : List PV} {σ : Sto} {QX' : String → Sto → Prop} {Q : Int → Sto → Prop} {x0 : Int} {x1 : Int} {x2 : Int} (hc : MC Ω M_Mdl_in R' (RI Q) QX' σ [xi x0, xi x1, xi x2]) (hr1 : R'.frames + 1 ≤ R.frames) (hr2 : 8 + (3 + 11) + R'.locals ≤ R.locals) (hb1 : k + R'.cells ≤ R.cells) (hb2 : n + R'.slots ≤ R.slots) (hst : (st.map catP).sum ≤ 8) (kk : ∀ x σ', Q x σ' → Aw Ω M_Mdl_isLineOf R F (k + R'.cells) (n + R'.slots) 21 L (xi x :: st) σ') (kx : ∀ E σ', QX' E σ' → Ax Ω M_Mdl_isLineOf R F (k + R'.cells) (n + R'.slots) 18 L st σ' E) : Aw Ω M_Mdl_isLineOf R F k n 18 L (xi x2 :: xi x1 :: xi x0 :: st) σ :=
  Aw.callS (As := [xi x0, xi x1, xi x2]) (stk := xi x2 :: xi x1 :: xi x0 :: st) (nn := 3) M_Mdl_in hc ok_Mdl_in rfl ml_Mdl_130 sta_Mdl_in ⟨hr1, hr2⟩ rfl ⟨hb1, hb2⟩ hst rfl d_Mdl_isLineOf_18 (fun r σ' h => by obtain ⟨x, rfl, h⟩ := h; exact kk x σ' h) kx
theorem r_Mdl_isLineOf_29 {Ω : Om} {R : Room} {k n : Nat} {L : List PV} {σ : Sto} {QR : Option PV → Sto → Prop} {QX : String → Sto → Prop} {x : Int} (hx : x = 0 ∨ x = 1) (h : QR (some (xi x)) σ) (h1 : k ≤ R.cells) (h2 : n ≤ R.slots) : Aw Ω M_Mdl_isLineOf R (MF Ω R QR QX) k n 29 L [xi x] σ := Aw.zret rfl hx h h1 h2 d_Mdl_isLineOf_29
theorem e_Mdl_lines {Ω : Om} {R : Room} {QR : Option PV → Sto → Prop} {QX : String → Sto → Prop} {σ : Sto} {a0 : Nat} {v1 : Int} (h : Aw Ω M_Mdl_lines R (MF Ω R QR QX) 0 0 0 [xr (some a0), xi v1] [] σ) : MC Ω M_Mdl_lines R QR QX σ [xr (some a0), xi v1] := MC.body (by decide +kernel) rfl (Nat.le_of_ble_eq_true rfl) rfl h
theorem b_Mdl_lines_0 {Ω : Om} {R : Room} {F : QF} {k n : Nat} {σ : Sto} {a0 : Nat} {v1 : Int} (h : Aw Ω M_Mdl_lines R F k n 3 [xr (some a0), xi v1] [xi v1, xr (some a0), xr (some a0)] σ) : Aw Ω M_Mdl_lines R F k n 0 [xr (some a0), xi v1] [] σ := by
  refine Aw.aload_n rfl d_Mdl_lines_0 ?_
  refine Aw.aload_n rfl d_Mdl_lines_1 ?_
  refine Aw.iload_n rfl d_Mdl_lines_2 ?_
  exact h
theorem b_Mdl_lines_6 {Ω : Om} {R : Room} {F : QF} {k n : Nat} {σ : Sto} {a0 : Nat} {v1 : Int} {s0 : Nat} {s1 : Int} (h : Q32 s1 ∧ ((s1 = (0 : Int) → Aw Ω M_Mdl_lines R F k n 14 [xr (some a0), xi v1] [xi 1, xr (some s0)] σ) ∧ (¬ s1 = (0 : Int) → Aw Ω M_Mdl_lines R F k n 14 [xr (some a0), xi v1] [xi 0, xr (some s0)] σ))) : Aw Ω M_Mdl_lines R F k n 6 [xr (some a0), xi v1] [xi s1, xr (some s0)] σ := by
  obtain ⟨o1, h⟩ := h
  obtain ⟨ht, hf⟩ := h
  refine Aw.if_eq (tgt := 13) o1 (by decide) d_Mdl_lines_6 (fun c2 => ?_) (fun c2 => ?_)
  · have h := ht c2
    refine Aw.iconst d_Mdl_lines_13 ?_
    exact h
  · have h := hf c2
    refine Aw.iconst d_Mdl_lines_9 ?_
    refine Aw.goto (tgt := 14) (by decide) d_Mdl_lines_10 ?_
    exact h
theorem b_Mdl_lines_17 {Ω : Om} {R : Room} {F : QF} {k n : Nat} {σ : Sto} {a0 : Nat} {v1 : Int} {s0 : Int} (h : Q32 s0 ∧ ((s0 = (0 : Int) → sK σ a0 = 13 ∧ (∃ b3 : Nat, fR σ 774 a0 = some b3 ∧ sK σ b3 = 50 ∧ 0 ≤ v1 ∧ v1 < sZ σ b3 ∧ (Q32 (aI σ b3 (v1).toNat) → Aw Ω M_Mdl_lines R F k n 30 [xr (some a0), xi v1] [xi (aI σ b3 (v1).toNat)] σ))) ∧ (¬ s0 = (0 : Int) → Aw Ω M_Mdl_lines R F k n 30 [xr (some a0), xi v1] [xi 0] σ))) : Aw Ω M_Mdl_lines R F k n 17 [xr (some a0), xi v1] [xi s0] σ := by
  obtain ⟨o1, h⟩ := h
  obtain ⟨ht, hf⟩ := h
  refine Aw.if_eq (tgt := 24) o1 (by decide) d_Mdl_lines_17 (fun c9 => ?_) (fun c9 => ?_)
  · have h := ht c9
    refine Aw.aload_n rfl d_Mdl_lines_24 ?_
    obtain ⟨o2, h⟩ := h
    obtain ⟨b3, e4, h⟩ := h
    refine Aw.getRs (f := 774) 12 6 fl_Mdl_20 (by decide) (by decide) rfl rfl o2 e4 d_Mdl_lines_25 ?_
    refine Aw.iload_n rfl d_Mdl_lines_28 ?_
    obtain ⟨o5, h⟩ := h
    obtain ⟨o6, o7, h⟩ := h
    refine Aw.iald o5 o6 o7 d_Mdl_lines_29 (fun r8 => ?_)
    have h := h r8
    exact h
  · have h := hf c9
    refine Aw.iconst d_Mdl_lines_20 ?_
    refine Aw.goto (tgt := 30) (by decide) d_Mdl_lines_21 ?_
    exact h
theorem c_Mdl_lines_3 {Ω : Om} {R R' : Room} {F : QF} {k n : Nat} {L st : List PV} {σ : Sto} {QX' : String → Sto → Prop} {Q : Int → Sto → Prop} {a : Nat} {x0 : Int} (hc : MC Ω M_Mdl_isVersion R' (RI Q) QX' σ [xr (some a), xi x0]) (hk : sK σ a = 13) (hr1 : R'.frames + 1 ≤ R.frames) (hr2 : 8 + (2 + 11) + R'.locals ≤ R.locals) (hb1 : k + R'.cells ≤ R.cells) (hb2 : n + R'.slots ≤ R.slots) (hst : (st.map catP).sum ≤ 8) (kk : ∀ x σ', Q x σ' → Aw Ω M_Mdl_lines R F (k + R'.cells) (n + R'.slots) 6 L (xi x :: st) σ') (kx : ∀ E σ', QX' E σ' → Ax Ω M_Mdl_lines R F (k + R'.cells) (n + R'.slots) 3 L st σ' E) : Aw Ω M_Mdl_lines R F k n 3 L (xi x0 :: xr (some a) :: st) σ :=
  Aw.callV (As := [xi x0]) (stk := xi x0 :: xr (some a) :: st) (nn := 1) 12 M_Mdl_isVersion hc ok_Mdl_isVersion rfl (by decide) rfl hk ml_Mdl_172 im_Mdl_isVersion se_Mdl_isVersion ⟨hr1, hr2⟩ rfl ⟨hb1, hb2⟩ hst rfl d_Mdl_lines_3 (fun r σ' h => by obtain ⟨x, rfl, h⟩ := h; exact kk x σ' h) kx
theorem c_Mdl_lines_14 {Ω : Om} {R R' : Room} {F : QF} {k n : Nat} {L st : List PV} {σ : Sto} {QX' : String → Sto → Prop} {Q : Int → Sto → Prop} {a : Nat} {x0 : Int} (hc : MC Ω M_Mdl_refused R' (RI Q) QX' σ [xr (some a), xi x0]) (hk : sK σ a = 13) (hr1 : R'.frames + 1 ≤ R.frames) (hr2 : 8 + (2 + 11) + R'.locals ≤ R.locals) (hb1 : k + R'.cells ≤ R.cells) (hb2 : n + R'.slots ≤ R.slots) (hst : (st.map catP).sum ≤ 8) (kk : ∀ x σ', Q x σ' → Aw Ω M_Mdl_lines R F (k + R'.cells) (n + R'.slots) 17 L (xi x :: st) σ') (kx : ∀ E σ', QX' E σ' → Ax Ω M_Mdl_lines R F (k + R'.cells) (n + R'.slots) 14 L st σ' E) : Aw Ω M_Mdl_lines R F k n 14 L (xi x0 :: xr (some a) :: st) σ :=
  Aw.callV (As := [xi x0]) (stk := xi x0 :: xr (some a) :: st) (nn := 1) 12 M_Mdl_refused hc ok_Mdl_refused rfl (by decide) rfl hk ml_Mdl_151 im_Mdl_refused se_Mdl_refused ⟨hr1, hr2⟩ rfl ⟨hb1, hb2⟩ hst rfl d_Mdl_lines_14 (fun r σ' h => by obtain ⟨x, rfl, h⟩ := h; exact kk x σ' h) kx
theorem r_Mdl_lines_30 {Ω : Om} {R : Room} {k n : Nat} {L : List PV} {σ : Sto} {QR : Option PV → Sto → Prop} {QX : String → Sto → Prop} {x : Int} (h : QR (some (xi x)) σ) (h1 : k ≤ R.cells) (h2 : n ≤ R.slots) : Aw Ω M_Mdl_lines R (MF Ω R QR QX) k n 30 L [xi x] σ := Aw.iret rfl h h1 h2 d_Mdl_lines_30
theorem e_Mdl_isConflict {Ω : Om} {R : Room} {QR : Option PV → Sto → Prop} {QX : String → Sto → Prop} {σ : Sto} {a0 : Nat} {v1 : Int} (h : Aw Ω M_Mdl_isConflict R (MF Ω R QR QX) 0 0 0 [xr (some a0), xi v1] [] σ) : MC Ω M_Mdl_isConflict R QR QX σ [xr (some a0), xi v1] := MC.body (by decide +kernel) rfl (Nat.le_of_ble_eq_true rfl) rfl h
theorem b_Mdl_isConflict_0 {Ω : Om} {R : Room} {F : QF} {k n : Nat} {σ : Sto} {a0 : Nat} {v1 : Int} (h : sK σ a0 = 13 ∧ (Q32 (fI σ 779 a0) → (((fI σ 779 a0) = (0 : Int) → Aw Ω M_Mdl_isConflict R F k n 26 [xr (some a0), xi v1] [xi 0] σ) ∧ (¬ (fI σ 779 a0) = (0 : Int) → (Q32 (fI σ 785 a0) → Aw Ω M_Mdl_isConflict R F k n 15 [xr (some a0), xi v1] [xi ((fI σ 785 a0) - 1), xi 0, xi v1] σ))))) : Aw Ω M_Mdl_isConflict R F k n 0 [xr (some a0), xi v1] [] σ := by
  refine Aw.aload_n rfl d_Mdl_isConflict_0 ?_
  obtain ⟨o1, h⟩ := h
  refine Aw.getI (f := 779) 12 11 fl_Mdl_178 (by decide) (by decide) rfl rfl o1 d_Mdl_isConflict_1 (fun r2 => ?_)
  have h := h r2
  obtain ⟨ht, hf⟩ := h
  refine Aw.if_eq (tgt := 25) r2 (by decide) d_Mdl_isConflict_4 (fun c4 => ?_) (fun c4 => ?_)
  · have h := ht c4
    refine Aw.iconst d_Mdl_isConflict_25 ?_
    exact h
  · have h := hf c4
    refine Aw.iload_n rfl d_Mdl_isConflict_7 ?_
    refine Aw.iconst d_Mdl_isConflict_8 ?_
    refine Aw.aload_n rfl d_Mdl_isConflict_9 ?_
    refine Aw.getI (f := 785) 12 17 fl_Mdl_185 (by decide) (by decide) rfl rfl o1 d_Mdl_isConflict_10 (fun r3 => ?_)
    have h := h r3
    refine Aw.iconst d_Mdl_isConflict_13 ?_
    refine Aw.isub d_Mdl_isConflict_14 ?_
    exact h
theorem b_Mdl_isConflict_18 {Ω : Om} {R : Room} {F : QF} {k n : Nat} {σ : Sto} {a0 : Nat} {v1 : Int} {s0 : Int} (h : Q32 s0 ∧ ((s0 = (0 : Int) → Aw Ω M_Mdl_isConflict R F k n 26 [xr (some a0), xi v1] [xi 0] σ) ∧ (¬ s0 = (0 : Int) → Aw Ω M_Mdl_isConflict R F k n 26 [xr (some a0), xi v1] [xi 1] σ))) : Aw Ω M_Mdl_isConflict R F k n 18 [xr (some a0), xi v1] [xi s0] σ := by
  obtain ⟨o1, h⟩ := h
  obtain ⟨ht, hf⟩ := h
  refine Aw.if_eq (tgt := 25) o1 (by decide) d_Mdl_isConflict_18 (fun c2 => ?_) (fun c2 => ?_)
  · have h := ht c2
    refine Aw.iconst d_Mdl_isConflict_25 ?_
    exact h
  · have h := hf c2
    refine Aw.iconst d_Mdl_isConflict_21 ?_
    refine Aw.goto (tgt := 26) (by decide) d_Mdl_isConflict_22 ?_
    exact h
theorem c_Mdl_isConflict_15 {Ω : Om} {R R' : Room} {F : QF} {k n : Nat} {L st : List PV} {σ : Sto} {QX' : String → Sto → Prop} {Q : Int → Sto → Prop} {x0 : Int} {x1 : Int} {x2 : Int} (hc : MC Ω M_Mdl_in R' (RI Q) QX' σ [xi x0, xi x1, xi x2]) (hr1 : R'.frames + 1 ≤ R.frames) (hr2 : 8 + (3 + 11) + R'.locals ≤ R.locals) (hb1 : k + R'.cells ≤ R.cells) (hb2 : n + R'.slots ≤ R.slots) (hst : (st.map catP).sum ≤ 8) (kk : ∀ x σ', Q x σ' → Aw Ω M_Mdl_isConflict R F (k + R'.cells) (n + R'.slots) 18 L (xi x :: st) σ') (kx : ∀ E σ', QX' E σ' → Ax Ω M_Mdl_isConflict R F (k + R'.cells) (n + R'.slots) 15 L st σ' E) : Aw Ω M_Mdl_isConflict R F k n 15 L (xi x2 :: xi x1 :: xi x0 :: st) σ :=
  Aw.callS (As := [xi x0, xi x1, xi x2]) (stk := xi x2 :: xi x1 :: xi x0 :: st) (nn := 3) M_Mdl_in hc ok_Mdl_in rfl ml_Mdl_130 sta_Mdl_in ⟨hr1, hr2⟩ rfl ⟨hb1, hb2⟩ hst rfl d_Mdl_isConflict_15 (fun r σ' h => by obtain ⟨x, rfl, h⟩ := h; exact kk x σ' h) kx
theorem r_Mdl_isConflict_26 {Ω : Om} {R : Room} {k n : Nat} {L : List PV} {σ : Sto} {QR : Option PV → Sto → Prop} {QX : String → Sto → Prop} {x : Int} (hx : x = 0 ∨ x = 1) (h : QR (some (xi x)) σ) (h1 : k ≤ R.cells) (h2 : n ≤ R.slots) : Aw Ω M_Mdl_isConflict R (MF Ω R QR QX) k n 26 L [xi x] σ := Aw.zret rfl hx h h1 h2 d_Mdl_isConflict_26
theorem e_Mdl_length {Ω : Om} {R : Room} {QR : Option PV → Sto → Prop} {QX : String → Sto → Prop} {σ : Sto} {v0 : Int64} (h : Aw Ω M_Mdl_length R (MF Ω R QR QX) 0 0 0 [xl v0, xu, xu] [] σ) : MC Ω M_Mdl_length R QR QX σ [xl v0] := MC.body (by decide +kernel) rfl (Nat.le_of_ble_eq_true rfl) rfl h
theorem b_Mdl_length_0 {Ω : Om} {R : Room} {F : QF} {k n : Nat} {σ : Sto} {v0 : Int64} (h : Aw Ω M_Mdl_length R F k n 2 [xl v0, xu, xi 0] [] σ) : Aw Ω M_Mdl_length R F k n 0 [xl v0, xu, xu] [] σ := by
  refine Aw.iconst d_Mdl_length_0 ?_
  refine Aw.istore_n (by decide) d_Mdl_length_1 ?_
  refine Aw.toL (L' := [xl v0, xu, xi 0]) rfl ?_
  exact h
theorem b_Mdl_length_2 {Ω : Om} {R : Room} {F : QF} {k n : Nat} {σ : Sto} {v0 : Int64} {v2 : Int} (h : Q32 v2 ∧ (((8 : Int) ≤ v2 → Aw Ω M_Mdl_length R F k n 23 [xl v0, xu, xi v2] [xi v2] σ) ∧ (¬ (8 : Int) ≤ v2 → Aw Ω M_Mdl_length R F k n 10 [xl v0, xu, xi v2] [xi v2, xl v0] σ))) : Aw Ω M_Mdl_length R F k n 2 [xl v0, xu, xi v2] [] σ := by
  refine Aw.iload_n rfl d_Mdl_length_2 ?_
  refine Aw.bipush (by decide) d_Mdl_length_3 ?_
  obtain ⟨o1, h⟩ := h
  obtain ⟨ht, hf⟩ := h
  refine Aw.icmp_ge (tgt := 22) o1 ⟨by decide, by decide⟩ (by decide) d_Mdl_length_5 (fun c2 => ?_) (fun c2 => ?_)
  · have h := ht c2
    refine Aw.iload_n rfl d_Mdl_length_22 ?_
    exact h
  · have h := hf c2
    refine Aw.lload_n rfl d_Mdl_length_8 ?_
    refine Aw.iload_n rfl d_Mdl_length_9 ?_
    exact h
theorem b_Mdl_length_13 {Ω : Om} {R : Room} {F : QF} {k n : Nat} {σ : Sto} {v0 : Int64} {v2 : Int} {s0 : Int} (h : Q32 s0 ∧ ((s0 = (0 : Int) → Aw Ω M_Mdl_length R F k n 23 [xl v0, xu, xi v2] [xi v2] σ) ∧ (¬ s0 = (0 : Int) → Aw Ω M_Mdl_length R F k n 2 [xl v0, xu, xi (v2 + 1)] [] σ))) : Aw Ω M_Mdl_length R F k n 13 [xl v0, xu, xi v2] [xi s0] σ := by
  obtain ⟨o1, h⟩ := h
  obtain ⟨ht, hf⟩ := h
  refine Aw.if_eq (tgt := 22) o1 (by decide) d_Mdl_length_13 (fun c2 => ?_) (fun c2 => ?_)
  · have h := ht c2
    refine Aw.iload_n rfl d_Mdl_length_22 ?_
    exact h
  · have h := hf c2
    refine Aw.iinc rfl d_Mdl_length_16 ?_
    refine Aw.toL (L' := [xl v0, xu, xi (v2 + 1)]) rfl ?_
    refine Aw.goto (tgt := 2) (by decide) d_Mdl_length_19 ?_
    exact h
theorem c_Mdl_length_10 {Ω : Om} {R R' : Room} {F : QF} {k n : Nat} {L st : List PV} {σ : Sto} {QX' : String → Sto → Prop} {Q : Int → Sto → Prop} {x0 : Int64} {x1 : Int} (hc : MC Ω M_Mdl_signAt R' (RI Q) QX' σ [xl x0, xi x1]) (hr1 : R'.frames + 1 ≤ R.frames) (hr2 : 8 + (3 + 11) + R'.locals ≤ R.locals) (hb1 : k + R'.cells ≤ R.cells) (hb2 : n + R'.slots ≤ R.slots) (hst : (st.map catP).sum ≤ 8) (kk : ∀ x σ', Q x σ' → Aw Ω M_Mdl_length R F (k + R'.cells) (n + R'.slots) 13 L (xi x :: st) σ') (kx : ∀ E σ', QX' E σ' → Ax Ω M_Mdl_length R F (k + R'.cells) (n + R'.slots) 10 L st σ' E) : Aw Ω M_Mdl_length R F k n 10 L (xi x1 :: xl x0 :: st) σ :=
  Aw.callS (As := [xl x0, xi x1]) (stk := xi x1 :: xl x0 :: st) (nn := 2) M_Mdl_signAt hc ok_Mdl_signAt rfl ml_Mdl_136 sta_Mdl_signAt ⟨hr1, hr2⟩ rfl ⟨hb1, hb2⟩ hst rfl d_Mdl_length_10 (fun r σ' h => by obtain ⟨x, rfl, h⟩ := h; exact kk x σ' h) kx
theorem r_Mdl_length_23 {Ω : Om} {R : Room} {k n : Nat} {L : List PV} {σ : Sto} {QR : Option PV → Sto → Prop} {QX : String → Sto → Prop} {x : Int} (h : QR (some (xi x)) σ) (h1 : k ≤ R.cells) (h2 : n ≤ R.slots) : Aw Ω M_Mdl_length R (MF Ω R QR QX) k n 23 L [xi x] σ := Aw.iret rfl h h1 h2 d_Mdl_length_23
theorem e_Mdl_fine {Ω : Om} {R : Room} {QR : Option PV → Sto → Prop} {QX : String → Sto → Prop} {σ : Sto} {a0 : Nat} {v1 : Int} (h : Aw Ω M_Mdl_fine R (MF Ω R QR QX) 0 0 0 [xr (some a0), xi v1] [] σ) : MC Ω M_Mdl_fine R QR QX σ [xr (some a0), xi v1] := MC.body (by decide +kernel) rfl (Nat.le_of_ble_eq_true rfl) rfl h
theorem b_Mdl_fine_0 {Ω : Om} {R : Room} {F : QF} {k n : Nat} {σ : Sto} {a0 : Nat} {v1 : Int} (h : sK σ a0 = 13 ∧ Aw Ω M_Mdl_fine R F k n 6 [xr (some a0), xi v1] [xi v1] (uI σ 768 a0 0)) : Aw Ω M_Mdl_fine R F k n 0 [xr (some a0), xi v1] [] σ := by
  refine Aw.aload_n rfl d_Mdl_fine_0 ?_
  refine Aw.iconst d_Mdl_fine_1 ?_
  obtain ⟨o1, h⟩ := h
  refine Aw.putI (f := 768) 12 0 fl_Mdl_127 (by decide) (by decide) rfl rfl o1 rfl ⟨by decide, by decide⟩ (Or.inl rfl) d_Mdl_fine_2 ?_
  refine Aw.iload_n rfl d_Mdl_fine_5 ?_
  exact h
theorem r_Mdl_fine_6 {Ω : Om} {R : Room} {k n : Nat} {L : List PV} {σ : Sto} {QR : Option PV → Sto → Prop} {QX : String → Sto → Prop} {x : Int} (h : QR (some (xi x)) σ) (h1 : k ≤ R.cells) (h2 : n ≤ R.slots) : Aw Ω M_Mdl_fine R (MF Ω R QR QX) k n 6 L [xi x] σ := Aw.iret rfl h h1 h2 d_Mdl_fine_6
theorem e_Mdl_lineAnew {Ω : Om} {R : Room} {QR : Option PV → Sto → Prop} {QX : String → Sto → Prop} {σ : Sto} {a0 : Nat} {v1 : Int} {v2 : Int} (h : Aw Ω M_Mdl_lineAnew R (MF Ω R QR QX) 0 0 0 [xr (some a0), xi v1, xi v2] [] σ) : MC Ω M_Mdl_lineAnew R QR QX σ [xr (some a0), xi v1, xi v2] := MC.body (by decide +kernel) rfl (Nat.le_of_ble_eq_true rfl) rfl h
theorem b_Mdl_lineAnew_0 {Ω : Om} {R : Room} {F : QF} {k n : Nat} {σ : Sto} {a0 : Nat} {v1 : Int} {v2 : Int} (h : Aw Ω M_Mdl_lineAnew R F k n 3 [xr (some a0), xi v1, xi v2] [xi v2, xi v1, xr (some a0)] σ) : Aw Ω M_Mdl_lineAnew R F k n 0 [xr (some a0), xi v1, xi v2] [] σ := by
  refine Aw.aload_n rfl d_Mdl_lineAnew_0 ?_
  refine Aw.iload_n rfl d_Mdl_lineAnew_1 ?_
  refine Aw.iload_n rfl d_Mdl_lineAnew_2 ?_
  exact h
theorem c_Mdl_lineAnew_3 {Ω : Om} {R R' : Room} {F : QF} {k n : Nat} {L st : List PV} {σ : Sto} {QX' : String → Sto → Prop} {Q : Int64 → Sto → Prop} {a : Nat} {x0 : Int} {x1 : Int} (hc : MC Ω M_Mdl_lineOf R' (RL Q) QX' σ [xr (some a), xi x0, xi x1]) (hk : sK σ a = 13) (hr1 : R'.frames + 1 ≤ R.frames) (hr2 : 8 + (3 + 11) + R'.locals ≤ R.locals) (hb1 : k + R'.cells ≤ R.cells) (hb2 : n + R'.slots ≤ R.slots) (hst : (st.map catP).sum ≤ 8) (kk : ∀ x σ', Q x σ' → Aw Ω M_Mdl_lineAnew R F (k + R'.cells) (n + R'.slots) 6 L (xl x :: st) σ') (kx : ∀ E σ', QX' E σ' → Ax Ω M_Mdl_lineAnew R F (k + R'.cells) (n + R'.slots) 3 L st σ' E) : Aw Ω M_Mdl_lineAnew R F k n 3 L (xi x1 :: xi x0 :: xr (some a) :: st) σ :=
  Aw.callV (As := [xi x0, xi x1]) (stk := xi x1 :: xi x0 :: xr (some a) :: st) (nn := 2) 12 M_Mdl_lineOf hc ok_Mdl_lineOf rfl (by decide) rfl hk ml_Mdl_230 im_Mdl_lineOf se_Mdl_lineOf ⟨hr1, hr2⟩ rfl ⟨hb1, hb2⟩ hst rfl d_Mdl_lineAnew_3 (fun r σ' h => by obtain ⟨x, rfl, h⟩ := h; exact kk x σ' h) kx
theorem r_Mdl_lineAnew_6 {Ω : Om} {R : Room} {k n : Nat} {L : List PV} {σ : Sto} {QR : Option PV → Sto → Prop} {QX : String → Sto → Prop} {x : Int64} (h : QR (some (xl x)) σ) (h1 : k ≤ R.cells) (h2 : n ≤ R.slots) : Aw Ω M_Mdl_lineAnew R (MF Ω R QR QX) k n 6 L [xl x] σ := Aw.lret rfl h h1 h2 d_Mdl_lineAnew_6
