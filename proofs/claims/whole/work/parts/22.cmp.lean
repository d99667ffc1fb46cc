/-! walks of DiffWeaver$Comparison (by program) -/
theorem e_Cmp_countPairs {Ω : Om} {R : Room} {QR : Option PV → Sto → Prop} {QX : String → Sto → Prop} {σ : Sto} {a0 : Nat} (h : Aw Ω M_Cmp_countPairs R (MF Ω R QR QX) 0 0 0 [xr (some a0), xu, xu] [] σ) : MC Ω M_Cmp_countPairs R QR QX σ [xr (some a0)] := MC.body (by decide +kernel) rfl (Nat.le_of_ble_eq_true rfl) rfl h
theorem b_Cmp_countPairs_0 {Ω : Om} {R : Room} {F : QF} {k n : Nat} {σ : Sto} {a0 : Nat} (h : sK σ a0 = 2 ∧ (Q32 (fI σ 70 a0) → Aw Ω M_Cmp_countPairs R F k n 5 [xr (some a0), xi (fI σ 70 a0), xu] [] σ)) : Aw Ω M_Cmp_countPairs R F k n 0 [xr (some a0), xu, xu] [] σ := by
  refine Aw.aload_n rfl d_Cmp_countPairs_0 ?_
  obtain ⟨o1, h⟩ := h
  refine Aw.getI (f := 70) 1 6 fl_Cmp_34 (by decide) (by decide) rfl rfl o1 d_Cmp_countPairs_1 (fun r2 => ?_)
  have h := h r2
  refine Aw.istore_n (by decide) d_Cmp_countPairs_4 ?_
  refine Aw.toL (L' := [xr (some a0), xi (fI σ 70 a0), xu]) rfl ?_
  exact h
theorem b_Cmp_countPairs_5 {Ω : Om} {R : Room} {F : QF} {k n : Nat} {σ : Sto} {a0 : Nat} {v1 : Int} (h : Q32 v1 ∧ ((v1 < (0 : Int) → Aw Ω M_Cmp_countPairs R F k n 130 [xr (some a0), xi v1, xu] [] σ) ∧ (¬ v1 < (0 : Int) → sK σ a0 = 2 ∧ (Q32 (fI σ 71 a0) → Aw Ω M_Cmp_countPairs R F k n 14 [xr (some a0), xi v1, xi (fI σ 71 a0)] [] σ)))) : Aw Ω M_Cmp_countPairs R F k n 5 [xr (some a0), xi v1, xu] [] σ := by
  refine Aw.iload_n rfl d_Cmp_countPairs_5 ?_
  obtain ⟨o1, h⟩ := h
  obtain ⟨ht, hf⟩ := h
  refine Aw.if_lt (tgt := 130) o1 (by decide) d_Cmp_countPairs_6 (fun c4 => ?_) (fun c4 => ?_)
  · have h := ht c4
    exact h
  · have h := hf c4
    refine Aw.aload_n rfl d_Cmp_countPairs_9 ?_
    obtain ⟨o2, h⟩ := h
    refine Aw.getI (f := 71) 1 7 fl_Cmp_38 (by decide) (by decide) rfl rfl o2 d_Cmp_countPairs_10 (fun r3 => ?_)
    have h := h r3
    refine Aw.istore_n (by decide) d_Cmp_countPairs_13 ?_
    refine Aw.toL (L' := [xr (some a0), xi v1, xi (fI σ 71 a0)]) rfl ?_
    exact h
theorem b_Cmp_countPairs_14 {Ω : Om} {R : Room} {F : QF} {k n : Nat} {σ : Sto} {a0 : Nat} {v1 : Int} {v2 : Int} (h : Q32 v2 ∧ ((v2 < (0 : Int) → Aw Ω M_Cmp_countPairs R F k n 5 [xr (some a0), xi (v1 + (-1)), xu] [] σ) ∧ (¬ v2 < (0 : Int) → sK σ a0 = 2 ∧ (Q32 (fI σ 70 a0) → Q32 v1 ∧ ((v1 = (fI σ 70 a0) → (∃ b5 : Nat, fR σ 69 a0 = some b5 ∧ sK σ b5 = 53 ∧ 0 ≤ v1 ∧ v1 < sZ σ b5 ∧ ∃ b10 : Nat, aR σ b5 (v1).toNat = some b10 ∧ sK σ b10 = 50 ∧ 0 ≤ v2 ∧ v2 < sZ σ b10 ∧ Aw Ω M_Cmp_countPairs R F k n 14 [xr (some a0), xi v1, xi (v2 + (-1))] [] (vI σ b10 (v2).toNat 0))) ∧ (¬ v1 = (fI σ 70 a0) → (Q32 (fI σ 71 a0) → ((¬ v2 = (fI σ 71 a0) → (∃ b16 : Nat, fR σ 64 a0 = some b16 ∧ sK σ b16 = 51 ∧ 0 ≤ v1 ∧ v1 < sZ σ b16 ∧ (∃ b21 : Nat, fR σ 65 a0 = some b21 ∧ sK σ b21 = 51 ∧ 0 ≤ v2 ∧ v2 < sZ σ b21 ∧ Q32 (cmpL (aL σ b16 (v1).toNat) (aL σ b21 (v2).toNat)) ∧ ((¬ (cmpL (aL σ b16 (v1).toNat) (aL σ b21 (v2).toNat)) = (0 : Int) → (∃ b27 : Nat, fR σ 69 a0 = some b27 ∧ sK σ b27 = 53 ∧ 0 ≤ v1 ∧ v1 < sZ σ b27 ∧ 0 ≤ (v1 + 1) ∧ (v1 + 1) < sZ σ b27 ∧ ∃ b34 : Nat, aR σ b27 (v1 + 1).toNat = some b34 ∧ sK σ b34 = 50 ∧ 0 ≤ v2 ∧ v2 < sZ σ b34 ∧ (Q32 (aI σ b34 (v2).toNat) → ∃ b40 : Nat, aR σ b27 (v1).toNat = some b40 ∧ sK σ b40 = 50 ∧ 0 ≤ (v2 + 1) ∧ (v2 + 1) < sZ σ b40 ∧ (Q32 (aI σ b40 (v2 + 1).toNat) → Q32 (aI σ b34 (v2).toNat) ∧ Q32 (aI σ b40 (v2 + 1).toNat) ∧ 1 ≤ R.frames ∧ ([xi v2, xr (aR σ b27 (v1).toNat)].map catP).sum + 13 ≤ R.locals ∧ k ≤ R.cells ∧ n ≤ R.slots ∧ ∃ b52 : Nat, aR σ b27 (v1).toNat = some b52 ∧ sK σ b52 = 50 ∧ 0 ≤ v2 ∧ v2 < sZ σ b52 ∧ Q32 (maxI (aI σ b34 (v2).toNat) (aI σ b40 (v2 + 1).toNat)) ∧ Aw Ω M_Cmp_countPairs R F k n 14 [xr (some a0), xi v1, xi (v2 + (-1))] [] (vI σ b52 (v2).toNat (maxI (aI σ b34 (v2).toNat) (aI σ b40 (v2 + 1).toNat))))))) ∧ ((cmpL (aL σ b16 (v1).toNat) (aL σ b21 (v2).toNat)) = (0 : Int) → (∃ b58 : Nat, fR σ 69 a0 = some b58 ∧ sK σ b58 = 53 ∧ 0 ≤ v1 ∧ v1 < sZ σ b58 ∧ 0 ≤ (v1 + 1) ∧ (v1 + 1) < sZ σ b58 ∧ ∃ b65 : Nat, aR σ b58 (v1 + 1).toNat = some b65 ∧ sK σ b65 = 50 ∧ 0 ≤ (v2 + 1) ∧ (v2 + 1) < sZ σ b65 ∧ (Q32 (aI σ b65 (v2 + 1).toNat) → ∃ b71 : Nat, aR σ b58 (v1).toNat = some b71 ∧ sK σ b71 = 50 ∧ 0 ≤ v2 ∧ v2 < sZ σ b71 ∧ Q32 ((aI σ b65 (v2 + 1).toNat) + 1) ∧ Aw Ω M_Cmp_countPairs R F k n 14 [xr (some a0), xi v1, xi (v2 + (-1))] [] (vI σ b71 (v2).toNat ((aI σ b65 (v2 + 1).toNat) + 1))))))))) ∧ (v2 = (fI σ 71 a0) → (∃ b78 : Nat, fR σ 69 a0 = some b78 ∧ sK σ b78 = 53 ∧ 0 ≤ v1 ∧ v1 < sZ σ b78 ∧ ∃ b83 : Nat, aR σ b78 (v1).toNat = some b83 ∧ sK σ b83 = 50 ∧ 0 ≤ v2 ∧ v2 < sZ σ b83 ∧ Aw Ω M_Cmp_countPairs R F k n 14 [xr (some a0), xi v1, xi (v2 + (-1))] [] (vI σ b83 (v2).toNat 0))))))))))) : Aw Ω M_Cmp_countPairs R F k n 14 [xr (some a0), xi v1, xi v2] [] σ := by
  refine Aw.iload_n rfl d_Cmp_countPairs_14 ?_
  obtain ⟨o1, h⟩ := h
  obtain ⟨ht, hf⟩ := h
  refine Aw.if_lt (tgt := 124) o1 (by decide) d_Cmp_countPairs_15 (fun c90 => ?_) (fun c90 => ?_)
  · have h := ht c90
    refine Aw.iinc rfl d_Cmp_countPairs_124 ?_
    refine Aw.toL (L' := [xr (some a0), xi (v1 + (-1)), xi v2]) rfl ?_
    refine Aw.goto (tgt := 5) (by decide) d_Cmp_countPairs_127 ?_
    exact Aw.toW (L' := [xr (some a0), xi (v1 + (-1)), xu]) ⟨Or.inr rfl, Or.inr rfl, Or.inl rfl, trivial⟩ h
  · have h := hf c90
    refine Aw.iload_n rfl d_Cmp_countPairs_18 ?_
    refine Aw.aload_n rfl d_Cmp_countPairs_19 ?_
    obtain ⟨o2, h⟩ := h
    refine Aw.getI (f := 70) 1 6 fl_Cmp_34 (by decide) (by decide) rfl rfl o2 d_Cmp_countPairs_20 (fun r3 => ?_)
    have h := h r3
    obtain ⟨o4, h⟩ := h
    obtain ⟨ht, hf⟩ := h
    refine Aw.icmp_eq (tgt := 34) o4 r3 (by decide) d_Cmp_countPairs_23 (fun c89 => ?_) (fun c89 => ?_)
    · have h := ht c89
      refine Aw.aload_n rfl d_Cmp_countPairs_34 ?_
      obtain ⟨b5, e6, h⟩ := h
      refine Aw.getRs (f := 69) 1 5 fl_Cmp_31 (by decide) (by decide) rfl rfl o2 e6 d_Cmp_countPairs_35 ?_
      refine Aw.iload_n rfl d_Cmp_countPairs_38 ?_
      obtain ⟨o7, h⟩ := h
      obtain ⟨o8, o9, h⟩ := h
      refine Aw.aald 3 (by decide) (by decide) o7 o8 o9 d_Cmp_countPairs_39 ?_
      refine Aw.iload_n rfl d_Cmp_countPairs_40 ?_
      refine Aw.iconst d_Cmp_countPairs_41 ?_
      obtain ⟨b10, e11, h⟩ := h
      refine Aw.der2 e11 ?_
      obtain ⟨o12, h⟩ := h
      obtain ⟨o13, o14, h⟩ := h
      refine Aw.iast o12 o13 o14 ⟨by decide, by decide⟩ d_Cmp_countPairs_42 ?_
      refine Aw.goto (tgt := 118) (by decide) d_Cmp_countPairs_43 ?_
      refine Aw.iinc rfl d_Cmp_countPairs_118 ?_
      refine Aw.toL (L' := [xr (some a0), xi v1, xi (v2 + (-1))]) rfl ?_
      refine Aw.goto (tgt := 14) (by decide) d_Cmp_countPairs_121 ?_
      exact h
    · have h := hf c89
      refine Aw.iload_n rfl d_Cmp_countPairs_26 ?_
      refine Aw.aload_n rfl d_Cmp_countPairs_27 ?_
      refine Aw.getI (f := 71) 1 7 fl_Cmp_38 (by decide) (by decide) rfl rfl o2 d_Cmp_countPairs_28 (fun r15 => ?_)
      have h := h r15
      obtain ⟨ht, hf⟩ := h
      refine Aw.icmp_ne (tgt := 46) o1 r15 (by decide) d_Cmp_countPairs_31 (fun c88 => ?_) (fun c88 => ?_)
      · have h := ht c88
        refine Aw.aload_n rfl d_Cmp_countPairs_46 ?_
        obtain ⟨b16, e17, h⟩ := h
        refine Aw.getRs (f := 64) 1 0 fl_Cmp_9 (by decide) (by decide) rfl rfl o2 e17 d_Cmp_countPairs_47 ?_
        refine Aw.iload_n rfl d_Cmp_countPairs_50 ?_
        obtain ⟨o18, h⟩ := h
        obtain ⟨o19, o20, h⟩ := h
        refine Aw.lald o18 o19 o20 d_Cmp_countPairs_51 ?_
        refine Aw.aload_n rfl d_Cmp_countPairs_52 ?_
        obtain ⟨b21, e22, h⟩ := h
        refine Aw.getRs (f := 65) 1 1 fl_Cmp_15 (by decide) (by decide) rfl rfl o2 e22 d_Cmp_countPairs_53 ?_
        refine Aw.iload_n rfl d_Cmp_countPairs_56 ?_
        obtain ⟨o23, h⟩ := h
        obtain ⟨o24, o25, h⟩ := h
        refine Aw.lald o23 o24 o25 d_Cmp_countPairs_57 ?_
        refine Aw.lcmp d_Cmp_countPairs_58 ?_
        obtain ⟨o26, h⟩ := h
        obtain ⟨ht, hf⟩ := h
        refine Aw.if_ne (tgt := 87) o26 (by decide) d_Cmp_countPairs_59 (fun c77 => ?_) (fun c77 => ?_)
        · have h := ht c77
          refine Aw.aload_n rfl d_Cmp_countPairs_87 ?_
          obtain ⟨b27, e28, h⟩ := h
          refine Aw.getRs (f := 69) 1 5 fl_Cmp_31 (by decide) (by decide) rfl rfl o2 e28 d_Cmp_countPairs_88 ?_
          refine Aw.iload_n rfl d_Cmp_countPairs_91 ?_
          obtain ⟨o29, h⟩ := h
          obtain ⟨o30, o31, h⟩ := h
          refine Aw.aald 3 (by decide) (by decide) o29 o30 o31 d_Cmp_countPairs_92 ?_
          refine Aw.iload_n rfl d_Cmp_countPairs_93 ?_
          refine Aw.aload_n rfl d_Cmp_countPairs_94 ?_
          refine Aw.getRs (f := 69) 1 5 fl_Cmp_31 (by decide) (by decide) rfl rfl o2 e28 d_Cmp_countPairs_95 ?_
          refine Aw.iload_n rfl d_Cmp_countPairs_98 ?_
          refine Aw.iconst d_Cmp_countPairs_99 ?_
          refine Aw.iadd d_Cmp_countPairs_100 ?_
          obtain ⟨o32, o33, h⟩ := h
          refine Aw.aald 3 (by decide) (by decide) o29 o32 o33 d_Cmp_countPairs_101 ?_
          refine Aw.iload_n rfl d_Cmp_countPairs_102 ?_
          obtain ⟨b34, e35, h⟩ := h
          refine Aw.der1 e35 ?_
          obtain ⟨o36, h⟩ := h
          obtain ⟨o37, o38, h⟩ := h
          refine Aw.iald o36 o37 o38 d_Cmp_countPairs_103 (fun r39 => ?_)
          have h := h r39
          refine Aw.aload_n rfl d_Cmp_countPairs_104 ?_
          refine Aw.getRs (f := 69) 1 5 fl_Cmp_31 (by decide) (by decide) rfl rfl o2 e28 d_Cmp_countPairs_105 ?_
          refine Aw.iload_n rfl d_Cmp_countPairs_108 ?_
          refine Aw.aald 3 (by decide) (by decide) o29 o30 o31 d_Cmp_countPairs_109 ?_
          refine Aw.iload_n rfl d_Cmp_countPairs_110 ?_
          refine Aw.iconst d_Cmp_countPairs_111 ?_
          refine Aw.iadd d_Cmp_countPairs_112 ?_
          obtain ⟨b40, e41, h⟩ := h
          refine Aw.der1 e41 ?_
          obtain ⟨o42, h⟩ := h
          obtain ⟨o43, o44, h⟩ := h
          refine Aw.iald o42 o43 o44 d_Cmp_countPairs_113 (fun r45 => ?_)
          have h := h r45
          obtain ⟨o46, o47, o48, o49, o50, o51, h⟩ := h
          refine Aw.mmax o46 o47 ml_Cmp_76 mth_max_1 mth_ini mth_max_2 o48 o49 o50 o51 d_Cmp_countPairs_114 ?_
          obtain ⟨b52, e53, h⟩ := h
          refine Aw.der2 e53 ?_
          obtain ⟨o54, h⟩ := h
          obtain ⟨o55, o56, h⟩ := h
          obtain ⟨o57, h⟩ := h
          refine Aw.iast o54 o55 o56 o57 d_Cmp_countPairs_117 ?_
          refine Aw.iinc rfl d_Cmp_countPairs_118 ?_
          refine Aw.toL (L' := [xr (some a0), xi v1, xi (v2 + (-1))]) rfl ?_
          refine Aw.goto (tgt := 14) (by decide) d_Cmp_countPairs_121 ?_
          exact h
        · have h := hf c77
          refine Aw.aload_n rfl d_Cmp_countPairs_62 ?_
          obtain ⟨b58, e59, h⟩ := h
          refine Aw.getRs (f := 69) 1 5 fl_Cmp_31 (by decide) (by decide) rfl rfl o2 e59 d_Cmp_countPairs_63 ?_
          refine Aw.iload_n rfl d_Cmp_countPairs_66 ?_
          obtain ⟨o60, h⟩ := h
          obtain ⟨o61, o62, h⟩ := h
          refine Aw.aald 3 (by decide) (by decide) o60 o61 o62 d_Cmp_countPairs_67 ?_
          refine Aw.iload_n rfl d_Cmp_countPairs_68 ?_
          refine Aw.aload_n rfl d_Cmp_countPairs_69 ?_
          refine Aw.getRs (f := 69) 1 5 fl_Cmp_31 (by decide) (by decide) rfl rfl o2 e59 d_Cmp_countPairs_70 ?_
          refine Aw.iload_n rfl d_Cmp_countPairs_73 ?_
          refine Aw.iconst d_Cmp_countPairs_74 ?_
          refine Aw.iadd d_Cmp_countPairs_75 ?_
          obtain ⟨o63, o64, h⟩ := h
          refine Aw.aald 3 (by decide) (by decide) o60 o63 o64 d_Cmp_countPairs_76 ?_
          refine Aw.iload_n rfl d_Cmp_countPairs_77 ?_
          refine Aw.iconst d_Cmp_countPairs_78 ?_
          refine Aw.iadd d_Cmp_countPairs_79 ?_
          obtain ⟨b65, e66, h⟩ := h
          refine Aw.der1 e66 ?_
          obtain ⟨o67, h⟩ := h
          obtain ⟨o68, o69, h⟩ := h
          refine Aw.iald o67 o68 o69 d_Cmp_countPairs_80 (fun r70 => ?_)
          have h := h r70
          refine Aw.iconst d_Cmp_countPairs_81 ?_
          refine Aw.iadd d_Cmp_countPairs_82 ?_
          obtain ⟨b71, e72, h⟩ := h
          refine Aw.der2 e72 ?_
          obtain ⟨o73, h⟩ := h
          obtain ⟨o74, o75, h⟩ := h
          obtain ⟨o76, h⟩ := h
          refine Aw.iast o73 o74 o75 o76 d_Cmp_countPairs_83 ?_
          refine Aw.goto (tgt := 118) (by decide) d_Cmp_countPairs_84 ?_
          refine Aw.iinc rfl d_Cmp_countPairs_118 ?_
          refine Aw.toL (L' := [xr (some a0), xi v1, xi (v2 + (-1))]) rfl ?_
          refine Aw.goto (tgt := 14) (by decide) d_Cmp_countPairs_121 ?_
          exact h
      · have h := hf c88
        refine Aw.aload_n rfl d_Cmp_countPairs_34 ?_
        obtain ⟨b78, e79, h⟩ := h
        refine Aw.getRs (f := 69) 1 5 fl_Cmp_31 (by decide) (by decide) rfl rfl o2 e79 d_Cmp_countPairs_35 ?_
        refine Aw.iload_n rfl d_Cmp_countPairs_38 ?_
        obtain ⟨o80, h⟩ := h
        obtain ⟨o81, o82, h⟩ := h
        refine Aw.aald 3 (by decide) (by decide) o80 o81 o82 d_Cmp_countPairs_39 ?_
        refine Aw.iload_n rfl d_Cmp_countPairs_40 ?_
        refine Aw.iconst d_Cmp_countPairs_41 ?_
        obtain ⟨b83, e84, h⟩ := h
        refine Aw.der2 e84 ?_
        obtain ⟨o85, h⟩ := h
        obtain ⟨o86, o87, h⟩ := h
        refine Aw.iast o85 o86 o87 ⟨by decide, by decide⟩ d_Cmp_countPairs_42 ?_
        refine Aw.goto (tgt := 118) (by decide) d_Cmp_countPairs_43 ?_
        refine Aw.iinc rfl d_Cmp_countPairs_118 ?_
        refine Aw.toL (L' := [xr (some a0), xi v1, xi (v2 + (-1))]) rfl ?_
        refine Aw.goto (tgt := 14) (by decide) d_Cmp_countPairs_121 ?_
        exact h
theorem r_Cmp_countPairs_130 {Ω : Om} {R : Room} {k n : Nat} {L : List PV} {σ : Sto} {QR : Option PV → Sto → Prop} {QX : String → Sto → Prop} (h : QR none σ) (h1 : k ≤ R.cells) (h2 : n ≤ R.slots) : Aw Ω M_Cmp_countPairs R (MF Ω R QR QX) k n 130 L [] σ := Aw.vret rfl h h1 h2 d_Cmp_countPairs_130
theorem e_Cmp_findMoves {Ω : Om} {R : Room} {QR : Option PV → Sto → Prop} {QX : String → Sto → Prop} {σ : Sto} {a0 : Nat} (h : Aw Ω M_Cmp_findMoves R (MF Ω R QR QX) 0 0 0 [xr (some a0), xu] [] σ) : MC Ω M_Cmp_findMoves R QR QX σ [xr (some a0)] := MC.body (by decide +kernel) rfl (Nat.le_of_ble_eq_true rfl) rfl h
theorem b_Cmp_findMoves_0 {Ω : Om} {R : Room} {F : QF} {k n : Nat} {σ : Sto} {a0 : Nat} (h : Aw Ω M_Cmp_findMoves R F k n 2 [xr (some a0), xi 0] [] σ) : Aw Ω M_Cmp_findMoves R F k n 0 [xr (some a0), xu] [] σ := by
  refine Aw.iconst d_Cmp_findMoves_0 ?_
  refine Aw.istore_n (by decide) d_Cmp_findMoves_1 ?_
  refine Aw.toL (L' := [xr (some a0), xi 0]) rfl ?_
  exact h
theorem b_Cmp_findMoves_2 {Ω : Om} {R : Room} {F : QF} {k n : Nat} {σ : Sto} {a0 : Nat} {v1 : Int} (h : Q32 v1 ∧ (((20 : Int) ≤ v1 → Aw Ω M_Cmp_findMoves R F k n 22 [xr (some a0), xi v1] [] σ) ∧ (¬ (20 : Int) ≤ v1 → Aw Ω M_Cmp_findMoves R F k n 9 [xr (some a0), xi v1] [xr (some a0)] σ))) : Aw Ω M_Cmp_findMoves R F k n 2 [xr (some a0), xi v1] [] σ := by
  refine Aw.iload_n rfl d_Cmp_findMoves_2 ?_
  refine Aw.bipush (by decide) d_Cmp_findMoves_3 ?_
  obtain ⟨o1, h⟩ := h
  obtain ⟨ht, hf⟩ := h
  refine Aw.icmp_ge (tgt := 22) o1 ⟨by decide, by decide⟩ (by decide) d_Cmp_findMoves_5 (fun c2 => ?_) (fun c2 => ?_)
  · have h := ht c2
    exact h
  · have h := hf c2
    refine Aw.aload_n rfl d_Cmp_findMoves_8 ?_
    exact h
theorem b_Cmp_findMoves_12 {Ω : Om} {R : Room} {F : QF} {k n : Nat} {σ : Sto} {a0 : Nat} {v1 : Int} {s0 : Int} (h : Q32 s0 ∧ ((¬ s0 = (0 : Int) → Aw Ω M_Cmp_findMoves R F k n 2 [xr (some a0), xi (v1 + 1)] [] σ) ∧ (s0 = (0 : Int) → Aw Ω M_Cmp_findMoves R F k n 15 [xr (some a0), xi v1] [] σ))) : Aw Ω M_Cmp_findMoves R F k n 12 [xr (some a0), xi v1] [xi s0] σ := by
  obtain ⟨o1, h⟩ := h
  obtain ⟨ht, hf⟩ := h
  refine Aw.if_ne (tgt := 16) o1 (by decide) d_Cmp_findMoves_12 (fun c2 => ?_) (fun c2 => ?_)
  · have h := ht c2
    refine Aw.iinc rfl d_Cmp_findMoves_16 ?_
    refine Aw.toL (L' := [xr (some a0), xi (v1 + 1)]) rfl ?_
    refine Aw.goto (tgt := 2) (by decide) d_Cmp_findMoves_19 ?_
    exact h
  · have h := hf c2
    exact h
theorem c_Cmp_findMoves_9 {Ω : Om} {R R' : Room} {F : QF} {k n : Nat} {L st : List PV} {σ : Sto} {QX' : String → Sto → Prop} {Q : Int → Sto → Prop} {a : Nat} (hc : MC Ω M_Cmp_takeLongestMove R' (RI Q) QX' σ [xr (some a)]) (hk : sK σ a = 2) (hr1 : R'.frames + 1 ≤ R.frames) (hr2 : 8 + (7 + 11) + R'.locals ≤ R.locals) (hb1 : k + R'.cells ≤ R.cells) (hb2 : n + R'.slots ≤ R.slots) (hst : (st.map catP).sum ≤ 8) (kk : ∀ x σ', Q x σ' → Aw Ω M_Cmp_findMoves R F (k + R'.cells) (n + R'.slots) 12 L (xi x :: st) σ') (kx : ∀ E σ', QX' E σ' → Ax Ω M_Cmp_findMoves R F (k + R'.cells) (n + R'.slots) 9 L st σ' E) : Aw Ω M_Cmp_findMoves R F k n 9 L (xr (some a) :: st) σ :=
  Aw.callV (As := []) (stk := xr (some a) :: st) (nn := 0) 1 M_Cmp_takeLongestMove hc ok_Cmp_takeLongestMove rfl (by decide) rfl hk ml_Cmp_79 im_Cmp_takeLongestMove se_Cmp_takeLongestMove ⟨hr1, hr2⟩ rfl ⟨hb1, hb2⟩ hst rfl d_Cmp_findMoves_9 (fun r σ' h => by obtain ⟨x, rfl, h⟩ := h; exact kk x σ' h) kx
theorem r_Cmp_findMoves_15 {Ω : Om} {R : Room} {k n : Nat} {L : List PV} {σ : Sto} {QR : Option PV → Sto → Prop} {QX : String → Sto → Prop} (h : QR none σ) (h1 : k ≤ R.cells) (h2 : n ≤ R.slots) : Aw Ω M_Cmp_findMoves R (MF Ω R QR QX) k n 15 L [] σ := Aw.vret rfl h h1 h2 d_Cmp_findMoves_15
theorem r_Cmp_findMoves_22 {Ω : Om} {R : Room} {k n : Nat} {L : List PV} {σ : Sto} {QR : Option PV → Sto → Prop} {QX : String → Sto → Prop} (h : QR none σ) (h1 : k ≤ R.cells) (h2 : n ≤ R.slots) : Aw Ω M_Cmp_findMoves R (MF Ω R QR QX) k n 22 L [] σ := Aw.vret rfl h h1 h2 d_Cmp_findMoves_22
theorem e_Cmp_init {Ω : Om} {R : Room} {QR : Option PV → Sto → Prop} {QX : String → Sto → Prop} {σ : Sto} {a0 : Nat} (h : Aw Ω M_Cmp_init R (MF Ω R QR QX) 0 0 0 [xr (some a0)] [] σ) : MC Ω M_Cmp_init R QR QX σ [xr (some a0)] := MC.body (by decide +kernel) rfl (Nat.le_of_ble_eq_true rfl) rfl h
theorem b_Cmp_init_0 {Ω : Om} {R : Room} {F : QF} {k n : Nat} {σ : Sto} {a0 : Nat} (h : 1 ≤ R.frames ∧ ([].map catP).sum + 12 ≤ R.locals ∧ k + 1 ≤ R.cells ∧ n + 20 ≤ R.slots ∧ (∀ σ7 : Sto, σ7 = (nO σ 51 20) → sK σ7 a0 = 2 ∧ k + 1 + 1 ≤ R.cells ∧ n + 20 + 20 ≤ R.slots ∧ (∀ σ13 : Sto, σ13 = (nO (uR σ7 64 a0 (some (sN σ))) 51 20) → sK σ13 a0 = 2 ∧ k + 1 + 1 + 1 ≤ R.cells ∧ n + 20 + 20 + 20 ≤ R.slots ∧ (∀ σ19 : Sto, σ19 = (nO (uR σ13 65 a0 (some (sN σ7))) 50 20) → sK σ19 a0 = 2 ∧ k + 1 + 1 + 1 + 1 ≤ R.cells ∧ n + 20 + 20 + 20 + 20 ≤ R.slots ∧ (∀ σ25 : Sto, σ25 = (nO (uR σ19 66 a0 (some (sN σ13))) 50 20) → sK σ25 a0 = 2 ∧ k + 1 + 1 + 1 + 1 + 1 ≤ R.cells ∧ n + 20 + 20 + 20 + 20 + 20 ≤ R.slots ∧ (∀ σ31 : Sto, σ31 = (nO (uR σ25 67 a0 (some (sN σ19))) 52 20) → sK σ31 a0 = 2 ∧ Aw Ω M_Cmp_init R F (k + 1 + 1 + 1 + 1 + 1) (n + 20 + 20 + 20 + 20 + 20) 49 [xr (some a0)] [xi 21, xi 21, xr (some a0)] (uR σ31 68 a0 (some (sN σ25))))))))) : Aw Ω M_Cmp_init R F k n 0 [xr (some a0)] [] σ := by
  refine Aw.aload_n rfl d_Cmp_init_0 ?_
  obtain ⟨o1, o2, h⟩ := h
  refine Aw.objInit ml_Cmp_3 oi_1 oi_2 o1 o2 d_Cmp_init_1 ?_
  refine Aw.aload_n rfl d_Cmp_init_4 ?_
  refine Aw.bipush (by decide) d_Cmp_init_5 ?_
  obtain ⟨o5, o6, h⟩ := h
  refine Aw.newarr 1 (by decide) rfl arc_1 (by decide) (by decide) o5 o6 d_Cmp_init_7 ?_
  obtain ⟨σ7, hσ7⟩ : ∃ z, z = (nO σ 51 20) := ⟨_, rfl⟩
  refine Aw.toS (σ' := σ7) hσ7 ?_
  have h := h σ7 hσ7
  obtain ⟨o8, h⟩ := h
  refine Aw.putRF (f := 64) 1 0 fm_Cmp_9 (by decide) (by decide) rfl rfl o8 rfl rfl rfl rfl d_Cmp_init_9 ?_
  refine Aw.aload_n rfl d_Cmp_init_12 ?_
  refine Aw.bipush (by decide) d_Cmp_init_13 ?_
  obtain ⟨o11, o12, h⟩ := h
  refine Aw.newarr 1 (by decide) rfl arc_1 (by decide) (by decide) o11 o12 d_Cmp_init_15 ?_
  obtain ⟨σ13, hσ13⟩ : ∃ z, z = (nO (uR σ7 64 a0 (some (sN σ))) 51 20) := ⟨_, rfl⟩
  refine Aw.toS (σ' := σ13) hσ13 ?_
  have h := h σ13 hσ13
  obtain ⟨o14, h⟩ := h
  refine Aw.putRF (f := 65) 1 1 fm_Cmp_15 (by decide) (by decide) rfl rfl o14 rfl rfl rfl rfl d_Cmp_init_17 ?_
  refine Aw.aload_n rfl d_Cmp_init_20 ?_
  refine Aw.bipush (by decide) d_Cmp_init_21 ?_
  obtain ⟨o17, o18, h⟩ := h
  refine Aw.newarr 0 (by decide) rfl arc_0 (by decide) (by decide) o17 o18 d_Cmp_init_23 ?_
  obtain ⟨σ19, hσ19⟩ : ∃ z, z = (nO (uR σ13 65 a0 (some (sN σ7))) 50 20) := ⟨_, rfl⟩
  refine Aw.toS (σ' := σ19) hσ19 ?_
  have h := h σ19 hσ19
  obtain ⟨o20, h⟩ := h
  refine Aw.putRF (f := 66) 1 2 fm_Cmp_18 (by decide) (by decide) rfl rfl o20 rfl rfl rfl rfl d_Cmp_init_25 ?_
  refine Aw.aload_n rfl d_Cmp_init_28 ?_
  refine Aw.bipush (by decide) d_Cmp_init_29 ?_
  obtain ⟨o23, o24, h⟩ := h
  refine Aw.newarr 0 (by decide) rfl arc_0 (by decide) (by decide) o23 o24 d_Cmp_init_31 ?_
  obtain ⟨σ25, hσ25⟩ : ∃ z, z = (nO (uR σ19 66 a0 (some (sN σ13))) 50 20) := ⟨_, rfl⟩
  refine Aw.toS (σ' := σ25) hσ25 ?_
  have h := h σ25 hσ25
  obtain ⟨o26, h⟩ := h
  refine Aw.putRF (f := 67) 1 3 fm_Cmp_22 (by decide) (by decide) rfl rfl o26 rfl rfl rfl rfl d_Cmp_init_33 ?_
  refine Aw.aload_n rfl d_Cmp_init_36 ?_
  refine Aw.bipush (by decide) d_Cmp_init_37 ?_
  obtain ⟨o29, o30, h⟩ := h
  refine Aw.newarr 2 (by decide) rfl arc_2 (by decide) (by decide) o29 o30 d_Cmp_init_39 ?_
  obtain ⟨σ31, hσ31⟩ : ∃ z, z = (nO (uR σ25 67 a0 (some (sN σ19))) 52 20) := ⟨_, rfl⟩
  refine Aw.toS (σ' := σ31) hσ31 ?_
  have h := h σ31 hσ31
  obtain ⟨o32, h⟩ := h
  refine Aw.putRF (f := 68) 1 4 fm_Cmp_25 (by decide) (by decide) rfl rfl o32 rfl rfl rfl rfl d_Cmp_init_41 ?_
  refine Aw.aload_n rfl d_Cmp_init_44 ?_
  refine Aw.bipush (by decide) d_Cmp_init_45 ?_
  refine Aw.bipush (by decide) d_Cmp_init_47 ?_
  exact h
theorem b_Cmp_init_53 {Ω : Om} {R : Room} {F : QF} {k n : Nat} {σ : Sto} {a0 : Nat} {s0 : Nat} {s1 : Nat} (h : sK σ s0 = 2 ∧ sK σ a0 = 2 ∧ Aw Ω M_Cmp_init R F k n 71 [xr (some a0)] [] (uI (uI (uI (uR σ 69 s0 (some s1)) 70 a0 0) 71 a0 0) 72 a0 0)) : Aw Ω M_Cmp_init R F k n 53 [xr (some a0)] [xr (some s1), xr (some s0)] σ := by
  obtain ⟨o1, h⟩ := h
  refine Aw.putRF (f := 69) 1 5 fm_Cmp_31 (by decide) (by decide) rfl rfl o1 rfl rfl rfl rfl d_Cmp_init_53 ?_
  refine Aw.aload_n rfl d_Cmp_init_56 ?_
  refine Aw.iconst d_Cmp_init_57 ?_
  obtain ⟨o2, h⟩ := h
  refine Aw.putI (f := 70) 1 6 fl_Cmp_34 (by decide) (by decide) rfl rfl o2 rfl ⟨by decide, by decide⟩ (Or.inl rfl) d_Cmp_init_58 ?_
  refine Aw.aload_n rfl d_Cmp_init_61 ?_
  refine Aw.iconst d_Cmp_init_62 ?_
  refine Aw.putI (f := 71) 1 7 fl_Cmp_38 (by decide) (by decide) rfl rfl o2 rfl ⟨by decide, by decide⟩ (Or.inl rfl) d_Cmp_init_63 ?_
  refine Aw.aload_n rfl d_Cmp_init_66 ?_
  refine Aw.iconst d_Cmp_init_67 ?_
  refine Aw.putI (f := 72) 1 8 fl_Cmp_41 (by decide) (by decide) rfl rfl o2 rfl ⟨by decide, by decide⟩ (Or.inl rfl) d_Cmp_init_68 ?_
  exact h
theorem r_Cmp_init_71 {Ω : Om} {R : Room} {k n : Nat} {L : List PV} {σ : Sto} {QR : Option PV → Sto → Prop} {QX : String → Sto → Prop} (h : QR none σ) (h1 : k ≤ R.cells) (h2 : n ≤ R.slots) : Aw Ω M_Cmp_init R (MF Ω R QR QX) k n 71 L [] σ := Aw.vret rfl h h1 h2 d_Cmp_init_71
theorem e_Cmp_moveAt {Ω : Om} {R : Room} {QR : Option PV → Sto → Prop} {QX : String → Sto → Prop} {σ : Sto} {a0 : Nat} {v1 : Int} (h : Aw Ω M_Cmp_moveAt R (MF Ω R QR QX) 0 0 0 [xr (some a0), xi v1] [] σ) : MC Ω M_Cmp_moveAt R QR QX σ [xr (some a0), xi v1] := MC.body (by decide +kernel) rfl (Nat.le_of_ble_eq_true rfl) rfl h
theorem b_Cmp_moveAt_0 {Ω : Om} {R : Room} {F : QF} {k n : Nat} {σ : Sto} {a0 : Nat} {v1 : Int} (h : Q32 v1 ∧ ((v1 < (0 : Int) → Aw Ω M_Cmp_moveAt R F k n 22 [xr (some a0), xi v1] [xi (-1)] σ) ∧ (¬ v1 < (0 : Int) → sK σ a0 = 2 ∧ (Q32 (fI σ 70 a0) → ((v1 < (fI σ 70 a0) → (∃ b4 : Nat, fR σ 67 a0 = some b4 ∧ sK σ b4 = 50 ∧ 0 ≤ v1 ∧ v1 < sZ σ b4 ∧ (Q32 (aI σ b4 (v1).toNat) → Aw Ω M_Cmp_moveAt R F k n 22 [xr (some a0), xi v1] [xi (aI σ b4 (v1).toNat)] σ))) ∧ (¬ v1 < (fI σ 70 a0) → Aw Ω M_Cmp_moveAt R F k n 22 [xr (some a0), xi v1] [xi (-1)] σ)))))) : Aw Ω M_Cmp_moveAt R F k n 0 [xr (some a0), xi v1] [] σ := by
  refine Aw.iload_n rfl d_Cmp_moveAt_0 ?_
  obtain ⟨o1, h⟩ := h
  obtain ⟨ht, hf⟩ := h
  refine Aw.if_lt (tgt := 12) o1 (by decide) d_Cmp_moveAt_1 (fun c11 => ?_) (fun c11 => ?_)
  · have h := ht c11
    refine Aw.iconst d_Cmp_moveAt_12 ?_
    refine Aw.goto (tgt := 22) (by decide) d_Cmp_moveAt_13 ?_
    exact h
  · have h := hf c11
    refine Aw.iload_n rfl d_Cmp_moveAt_4 ?_
    refine Aw.aload_n rfl d_Cmp_moveAt_5 ?_
    obtain ⟨o2, h⟩ := h
    refine Aw.getI (f := 70) 1 6 fl_Cmp_34 (by decide) (by decide) rfl rfl o2 d_Cmp_moveAt_6 (fun r3 => ?_)
    have h := h r3
    obtain ⟨ht, hf⟩ := h
    refine Aw.icmp_lt (tgt := 16) o1 r3 (by decide) d_Cmp_moveAt_9 (fun c10 => ?_) (fun c10 => ?_)
    · have h := ht c10
      refine Aw.aload_n rfl d_Cmp_moveAt_16 ?_
      obtain ⟨b4, e5, h⟩ := h
      refine Aw.getRs (f := 67) 1 3 fl_Cmp_22 (by decide) (by decide) rfl rfl o2 e5 d_Cmp_moveAt_17 ?_
      refine Aw.iload_n rfl d_Cmp_moveAt_20 ?_
      obtain ⟨o6, h⟩ := h
      obtain ⟨o7, o8, h⟩ := h
      refine Aw.iald o6 o7 o8 d_Cmp_moveAt_21 (fun r9 => ?_)
      have h := h r9
      exact h
    · have h := hf c10
      refine Aw.iconst d_Cmp_moveAt_12 ?_
      refine Aw.goto (tgt := 22) (by decide) d_Cmp_moveAt_13 ?_
      exact h
theorem r_Cmp_moveAt_22 {Ω : Om} {R : Room} {k n : Nat} {L : List PV} {σ : Sto} {QR : Option PV → Sto → Prop} {QX : String → Sto → Prop} {x : Int} (h : QR (some (xi x)) σ) (h1 : k ≤ R.cells) (h2 : n ≤ R.slots) : Aw Ω M_Cmp_moveAt R (MF Ω R QR QX) k n 22 L [xi x] σ := Aw.iret rfl h h1 h2 d_Cmp_moveAt_22
theorem e_Cmp_moveLength {Ω : Om} {R : Room} {QR : Option PV → Sto → Prop} {QX : String → Sto → Prop} {σ : Sto} {a0 : Nat} {v1 : Int} {v2 : Int} (h : Aw Ω M_Cmp_moveLength R (MF Ω R QR QX) 0 0 0 [xr (some a0), xi v1, xi v2, xu, xu, xu] [] σ) : MC Ω M_Cmp_moveLength R QR QX σ [xr (some a0), xi v1, xi v2] := MC.body (by decide +kernel) rfl (Nat.le_of_ble_eq_true rfl) rfl h
theorem b_Cmp_moveLength_0 {Ω : Om} {R : Room} {F : QF} {k n : Nat} {σ : Sto} {a0 : Nat} {v1 : Int} {v2 : Int} (h : Aw Ω M_Cmp_moveLength R F k n 8 [xr (some a0), xi v1, xi v2, xi 0, xi v1, xi v2] [] σ) : Aw Ω M_Cmp_moveLength R F k n 0 [xr (some a0), xi v1, xi v2, xu, xu, xu] [] σ := by
  refine Aw.iconst d_Cmp_moveLength_0 ?_
  refine Aw.istore_n (by decide) d_Cmp_moveLength_1 ?_
  refine Aw.toL (L' := [xr (some a0), xi v1, xi v2, xi 0, xu, xu]) rfl ?_
  refine Aw.iload_n rfl d_Cmp_moveLength_2 ?_
  refine Aw.istore (by decide) d_Cmp_moveLength_3 ?_
  refine Aw.toL (L' := [xr (some a0), xi v1, xi v2, xi 0, xi v1, xu]) rfl ?_
  refine Aw.iload_n rfl d_Cmp_moveLength_5 ?_
  refine Aw.istore (by decide) d_Cmp_moveLength_6 ?_
  refine Aw.toL (L' := [xr (some a0), xi v1, xi v2, xi 0, xi v1, xi v2]) rfl ?_
  exact h
theorem b_Cmp_moveLength_8 {Ω : Om} {R : Room} {F : QF} {k n : Nat} {σ : Sto} {a0 : Nat} {v1 : Int} {v2 : Int} {v3 : Int} {v4 : Int} {v5 : Int} (h : sK σ a0 = 2 ∧ (Q32 (fI σ 70 a0) → Q32 v4 ∧ (((fI σ 70 a0) ≤ v4 → Aw Ω M_Cmp_moveLength R F k n 88 [xr (some a0), xi v1, xi v2, xi v3, xi v4, xi v5] [] σ) ∧ (¬ (fI σ 70 a0) ≤ v4 → (Q32 (fI σ 71 a0) → Q32 v5 ∧ (((fI σ 71 a0) ≤ v5 → Aw Ω M_Cmp_moveLength R F k n 88 [xr (some a0), xi v1, xi v2, xi v3, xi v4, xi v5] [] σ) ∧ (¬ (fI σ 71 a0) ≤ v5 → (∃ b6 : Nat, fR σ 66 a0 = some b6 ∧ sK σ b6 = 50 ∧ 0 ≤ v4 ∧ v4 < sZ σ b6 ∧ (Q32 (aI σ b6 (v4).toNat) → ((¬ (aI σ b6 (v4).toNat) = (-1 : Int) → Aw Ω M_Cmp_moveLength R F k n 88 [xr (some a0), xi v1, xi v2, xi v3, xi v4, xi v5] [] σ) ∧ ((aI σ b6 (v4).toNat) = (-1 : Int) → (∃ b12 : Nat, fR σ 67 a0 = some b12 ∧ sK σ b12 = 50 ∧ 0 ≤ v4 ∧ v4 < sZ σ b12 ∧ (Q32 (aI σ b12 (v4).toNat) → ((¬ (aI σ b12 (v4).toNat) = (-1 : Int) → Aw Ω M_Cmp_moveLength R F k n 88 [xr (some a0), xi v1, xi v2, xi v3, xi v4, xi v5] [] σ) ∧ ((aI σ b12 (v4).toNat) = (-1 : Int) → (∃ b18 : Nat, fR σ 68 a0 = some b18 ∧ sK σ b18 = 52 ∧ 0 ≤ v5 ∧ v5 < sZ σ b18 ∧ (Q32 (aI σ b18 (v5).toNat) → (((aI σ b18 (v5).toNat) = (0 : Int) → Aw Ω M_Cmp_moveLength R F k n 88 [xr (some a0), xi v1, xi v2, xi v3, xi v4, xi v5] [] σ) ∧ (¬ (aI σ b18 (v5).toNat) = (0 : Int) → (∃ b24 : Nat, fR σ 64 a0 = some b24 ∧ sK σ b24 = 51 ∧ 0 ≤ v4 ∧ v4 < sZ σ b24 ∧ (∃ b29 : Nat, fR σ 65 a0 = some b29 ∧ sK σ b29 = 51 ∧ 0 ≤ v5 ∧ v5 < sZ σ b29 ∧ Q32 (cmpL (aL σ b24 (v4).toNat) (aL σ b29 (v5).toNat)) ∧ ((¬ (cmpL (aL σ b24 (v4).toNat) (aL σ b29 (v5).toNat)) = (0 : Int) → Aw Ω M_Cmp_moveLength R F k n 88 [xr (some a0), xi v1, xi v2, xi v3, xi v4, xi v5] [] σ) ∧ ((cmpL (aL σ b24 (v4).toNat) (aL σ b29 (v5).toNat)) = (0 : Int) → Aw Ω M_Cmp_moveLength R F k n 8 [xr (some a0), xi v1, xi v2, xi (v3 + 1), xi (v4 + 1), xi (v5 + 1)] [] σ))))))))))))))))))))))) : Aw Ω M_Cmp_moveLength R F k n 8 [xr (some a0), xi v1, xi v2, xi v3, xi v4, xi v5] [] σ := by
  refine Aw.iload rfl d_Cmp_moveLength_8 ?_
  refine Aw.aload_n rfl d_Cmp_moveLength_10 ?_
  obtain ⟨o1, h⟩ := h
  refine Aw.getI (f := 70) 1 6 fl_Cmp_34 (by decide) (by decide) rfl rfl o1 d_Cmp_moveLength_11 (fun r2 => ?_)
  have h := h r2
  obtain ⟨o3, h⟩ := h
  obtain ⟨ht, hf⟩ := h
  refine Aw.icmp_ge (tgt := 88) o3 r2 (by decide) d_Cmp_moveLength_14 (fun c40 => ?_) (fun c40 => ?_)
  · have h := ht c40
    exact h
  · have h := hf c40
    refine Aw.iload rfl d_Cmp_moveLength_17 ?_
    refine Aw.aload_n rfl d_Cmp_moveLength_19 ?_
    refine Aw.getI (f := 71) 1 7 fl_Cmp_38 (by decide) (by decide) rfl rfl o1 d_Cmp_moveLength_20 (fun r4 => ?_)
    have h := h r4
    obtain ⟨o5, h⟩ := h
    obtain ⟨ht, hf⟩ := h
    refine Aw.icmp_ge (tgt := 88) o5 r4 (by decide) d_Cmp_moveLength_23 (fun c39 => ?_) (fun c39 => ?_)
    · have h := ht c39
      exact h
    · have h := hf c39
      refine Aw.aload_n rfl d_Cmp_moveLength_26 ?_
      obtain ⟨b6, e7, h⟩ := h
      refine Aw.getRs (f := 66) 1 2 fl_Cmp_18 (by decide) (by decide) rfl rfl o1 e7 d_Cmp_moveLength_27 ?_
      refine Aw.iload rfl d_Cmp_moveLength_30 ?_
      obtain ⟨o8, h⟩ := h
      obtain ⟨o9, o10, h⟩ := h
      refine Aw.iald o8 o9 o10 d_Cmp_moveLength_32 (fun r11 => ?_)
      have h := h r11
      refine Aw.iconst d_Cmp_moveLength_33 ?_
      obtain ⟨ht, hf⟩ := h
      refine Aw.icmp_ne (tgt := 88) r11 ⟨by decide, by decide⟩ (by decide) d_Cmp_moveLength_34 (fun c38 => ?_) (fun c38 => ?_)
      · have h := ht c38
        exact h
      · have h := hf c38
        refine Aw.aload_n rfl d_Cmp_moveLength_37 ?_
        obtain ⟨b12, e13, h⟩ := h
        refine Aw.getRs (f := 67) 1 3 fl_Cmp_22 (by decide) (by decide) rfl rfl o1 e13 d_Cmp_moveLength_38 ?_
        refine Aw.iload rfl d_Cmp_moveLength_41 ?_
        obtain ⟨o14, h⟩ := h
        obtain ⟨o15, o16, h⟩ := h
        refine Aw.iald o14 o15 o16 d_Cmp_moveLength_43 (fun r17 => ?_)
        have h := h r17
        refine Aw.iconst d_Cmp_moveLength_44 ?_
        obtain ⟨ht, hf⟩ := h
        refine Aw.icmp_ne (tgt := 88) r17 ⟨by decide, by decide⟩ (by decide) d_Cmp_moveLength_45 (fun c37 => ?_) (fun c37 => ?_)
        · have h := ht c37
          exact h
        · have h := hf c37
          refine Aw.aload_n rfl d_Cmp_moveLength_48 ?_
          obtain ⟨b18, e19, h⟩ := h
          refine Aw.getRs (f := 68) 1 4 fl_Cmp_25 (by decide) (by decide) rfl rfl o1 e19 d_Cmp_moveLength_49 ?_
          refine Aw.iload rfl d_Cmp_moveLength_52 ?_
          obtain ⟨o20, h⟩ := h
          obtain ⟨o21, o22, h⟩ := h
          refine Aw.zald o20 o21 o22 d_Cmp_moveLength_54 (fun r23 => ?_)
          have h := h r23
          obtain ⟨ht, hf⟩ := h
          refine Aw.if_eq (tgt := 88) r23 (by decide) d_Cmp_moveLength_55 (fun c36 => ?_) (fun c36 => ?_)
          · have h := ht c36
            exact h
          · have h := hf c36
            refine Aw.aload_n rfl d_Cmp_moveLength_58 ?_
            obtain ⟨b24, e25, h⟩ := h
            refine Aw.getRs (f := 64) 1 0 fl_Cmp_9 (by decide) (by decide) rfl rfl o1 e25 d_Cmp_moveLength_59 ?_
            refine Aw.iload rfl d_Cmp_moveLength_62 ?_
            obtain ⟨o26, h⟩ := h
            obtain ⟨o27, o28, h⟩ := h
            refine Aw.lald o26 o27 o28 d_Cmp_moveLength_64 ?_
            refine Aw.aload_n rfl d_Cmp_moveLength_65 ?_
            obtain ⟨b29, e30, h⟩ := h
            refine Aw.getRs (f := 65) 1 1 fl_Cmp_15 (by decide) (by decide) rfl rfl o1 e30 d_Cmp_moveLength_66 ?_
            refine Aw.iload rfl d_Cmp_moveLength_69 ?_
            obtain ⟨o31, h⟩ := h
            obtain ⟨o32, o33, h⟩ := h
            refine Aw.lald o31 o32 o33 d_Cmp_moveLength_71 ?_
            refine Aw.lcmp d_Cmp_moveLength_72 ?_
            obtain ⟨o34, h⟩ := h
            obtain ⟨ht, hf⟩ := h
            refine Aw.if_ne (tgt := 88) o34 (by decide) d_Cmp_moveLength_73 (fun c35 => ?_) (fun c35 => ?_)
            · have h := ht c35
              exact h
            · have h := hf c35
              refine Aw.iinc rfl d_Cmp_moveLength_76 ?_
              refine Aw.toL (L' := [xr (some a0), xi v1, xi v2, xi (v3 + 1), xi v4, xi v5]) rfl ?_
              refine Aw.iinc rfl d_Cmp_moveLength_79 ?_
              refine Aw.toL (L' := [xr (some a0), xi v1, xi v2, xi (v3 + 1), xi (v4 + 1), xi v5]) rfl ?_
              refine Aw.iinc rfl d_Cmp_moveLength_82 ?_
              refine Aw.toL (L' := [xr (some a0), xi v1, xi v2, xi (v3 + 1), xi (v4 + 1), xi (v5 + 1)]) rfl ?_
              refine Aw.goto (tgt := 8) (by decide) d_Cmp_moveLength_85 ?_
              exact h
theorem b_Cmp_moveLength_88 {Ω : Om} {R : Room} {F : QF} {k n : Nat} {σ : Sto} {a0 : Nat} {v1 : Int} {v2 : Int} {v3 : Int} {v4 : Int} {v5 : Int} (h : Q32 v3 ∧ ((¬ v3 = (1 : Int) → Aw Ω M_Cmp_moveLength R F k n 112 [xr (some a0), xi v1, xi v2, xi v3, xi v4, xi v5] [xi v3] σ) ∧ (v3 = (1 : Int) → sK σ a0 = 2 ∧ (∃ b3 : Nat, fR σ 64 a0 = some b3 ∧ sK σ b3 = 51 ∧ 0 ≤ v1 ∧ v1 < sZ σ b3 ∧ Aw Ω M_Cmp_moveLength R F k n 99 [xr (some a0), xi v1, xi v2, xi v3, xi v4, xi v5] [xl (aL σ b3 (v1).toNat)] σ)))) : Aw Ω M_Cmp_moveLength R F k n 88 [xr (some a0), xi v1, xi v2, xi v3, xi v4, xi v5] [] σ := by
  refine Aw.iload_n rfl d_Cmp_moveLength_88 ?_
  refine Aw.iconst d_Cmp_moveLength_89 ?_
  obtain ⟨o1, h⟩ := h
  obtain ⟨ht, hf⟩ := h
  refine Aw.icmp_ne (tgt := 111) o1 ⟨by decide, by decide⟩ (by decide) d_Cmp_moveLength_90 (fun c8 => ?_) (fun c8 => ?_)
  · have h := ht c8
    refine Aw.iload_n rfl d_Cmp_moveLength_111 ?_
    exact h
  · have h := hf c8
    refine Aw.aload_n rfl d_Cmp_moveLength_93 ?_
    obtain ⟨o2, h⟩ := h
    obtain ⟨b3, e4, h⟩ := h
    refine Aw.getRs (f := 64) 1 0 fl_Cmp_9 (by decide) (by decide) rfl rfl o2 e4 d_Cmp_moveLength_94 ?_
    refine Aw.iload_n rfl d_Cmp_moveLength_97 ?_
    obtain ⟨o5, h⟩ := h
    obtain ⟨o6, o7, h⟩ := h
    refine Aw.lald o5 o6 o7 d_Cmp_moveLength_98 ?_
    exact h
theorem b_Cmp_moveLength_105 {Ω : Om} {R : Room} {F : QF} {k n : Nat} {σ : Sto} {a0 : Nat} {v1 : Int} {v2 : Int} {v3 : Int} {v4 : Int} {v5 : Int} {s0 : Int} (h : Q32 s0 ∧ (((4 : Int) ≤ s0 → Aw Ω M_Cmp_moveLength R F k n 112 [xr (some a0), xi v1, xi v2, xi v3, xi v4, xi v5] [xi v3] σ) ∧ (¬ (4 : Int) ≤ s0 → Aw Ω M_Cmp_moveLength R F k n 110 [xr (some a0), xi v1, xi v2, xi v3, xi v4, xi v5] [xi 0] σ))) : Aw Ω M_Cmp_moveLength R F k n 105 [xr (some a0), xi v1, xi v2, xi v3, xi v4, xi v5] [xi s0] σ := by
  refine Aw.iconst d_Cmp_moveLength_105 ?_
  obtain ⟨o1, h⟩ := h
  obtain ⟨ht, hf⟩ := h
  refine Aw.icmp_ge (tgt := 111) o1 ⟨by decide, by decide⟩ (by decide) d_Cmp_moveLength_106 (fun c2 => ?_) (fun c2 => ?_)
  · have h := ht c2
    refine Aw.iload_n rfl d_Cmp_moveLength_111 ?_
    exact h
  · have h := hf c2
    refine Aw.iconst d_Cmp_moveLength_109 ?_
    exact h
theorem c_Cmp_moveLength_99 {Ω : Om} {R R' : Room} {F : QF} {k n : Nat} {L st : List PV} {σ : Sto} {QX' : String → Sto → Prop} {Q : Int64 → Sto → Prop} {x0 : Int64} (hc : MC Ω M_Lbk_lettersOf R' (RL Q) QX' σ [xl x0]) (hr1 : R'.frames + 1 ≤ R.frames) (hr2 : 8 + (8 + 11) + R'.locals ≤ R.locals) (hb1 : k + R'.cells ≤ R.cells) (hb2 : n + R'.slots ≤ R.slots) (hst : (st.map catP).sum ≤ 8) (kk : ∀ x σ', Q x σ' → Aw Ω M_Cmp_moveLength R F (k + R'.cells) (n + R'.slots) 102 L (xl x :: st) σ') (kx : ∀ E σ', QX' E σ' → Ax Ω M_Cmp_moveLength R F (k + R'.cells) (n + R'.slots) 99 L st σ' E) : Aw Ω M_Cmp_moveLength R F k n 99 L (xl x0 :: st) σ :=
  Aw.callS (As := [xl x0]) (stk := xl x0 :: st) (nn := 1) M_Lbk_lettersOf hc ok_Lbk_lettersOf rfl ml_Cmp_70 sta_Lbk_lettersOf ⟨hr1, hr2⟩ rfl ⟨hb1, hb2⟩ hst rfl d_Cmp_moveLength_99 (fun r σ' h => by obtain ⟨x, rfl, h⟩ := h; exact kk x σ' h) kx
theorem c_Cmp_moveLength_102 {Ω : Om} {R R' : Room} {F : QF} {k n : Nat} {L st : List PV} {σ : Sto} {QX' : String → Sto → Prop} {Q : Int → Sto → Prop} {x0 : Int64} (hc : MC Ω M_Lbk_lengthOf R' (RI Q) QX' σ [xl x0]) (hr1 : R'.frames + 1 ≤ R.frames) (hr2 : 8 + (3 + 11) + R'.locals ≤ R.locals) (hb1 : k + R'.cells ≤ R.cells) (hb2 : n + R'.slots ≤ R.slots) (hst : (st.map catP).sum ≤ 8) (kk : ∀ x σ', Q x σ' → Aw Ω M_Cmp_moveLength R F (k + R'.cells) (n + R'.slots) 105 L (xi x :: st) σ') (kx : ∀ E σ', QX' E σ' → Ax Ω M_Cmp_moveLength R F (k + R'.cells) (n + R'.slots) 102 L st σ' E) : Aw Ω M_Cmp_moveLength R F k n 102 L (xl x0 :: st) σ :=
  Aw.callS (As := [xl x0]) (stk := xl x0 :: st) (nn := 1) M_Lbk_lengthOf hc ok_Lbk_lengthOf rfl ml_Cmp_86 sta_Lbk_lengthOf ⟨hr1, hr2⟩ rfl ⟨hb1, hb2⟩ hst rfl d_Cmp_moveLength_102 (fun r σ' h => by obtain ⟨x, rfl, h⟩ := h; exact kk x σ' h) kx
theorem r_Cmp_moveLength_110 {Ω : Om} {R : Room} {k n : Nat} {L : List PV} {σ : Sto} {QR : Option PV → Sto → Prop} {QX : String → Sto → Prop} {x : Int} (h : QR (some (xi x)) σ) (h1 : k ≤ R.cells) (h2 : n ≤ R.slots) : Aw Ω M_Cmp_moveLength R (MF Ω R QR QX) k n 110 L [xi x] σ := Aw.iret rfl h h1 h2 d_Cmp_moveLength_110
theorem r_Cmp_moveLength_112 {Ω : Om} {R : Room} {k n : Nat} {L : List PV} {σ : Sto} {QR : Option PV → Sto → Prop} {QX : String → Sto → Prop} {x : Int} (h : QR (some (xi x)) σ) (h1 : k ≤ R.cells) (h2 : n ≤ R.slots) : Aw Ω M_Cmp_moveLength R (MF Ω R QR QX) k n 112 L [xi x] σ := Aw.iret rfl h h1 h2 d_Cmp_moveLength_112
theorem e_Cmp_pairAt {Ω : Om} {R : Room} {QR : Option PV → Sto → Prop} {QX : String → Sto → Prop} {σ : Sto} {a0 : Nat} {v1 : Int} (h : Aw Ω M_Cmp_pairAt R (MF Ω R QR QX) 0 0 0 [xr (some a0), xi v1] [] σ) : MC Ω M_Cmp_pairAt R QR QX σ [xr (some a0), xi v1] := MC.body (by decide +kernel) rfl (Nat.le_of_ble_eq_true rfl) rfl h
theorem b_Cmp_pairAt_0 {Ω : Om} {R : Room} {F : QF} {k n : Nat} {σ : Sto} {a0 : Nat} {v1 : Int} (h : Q32 v1 ∧ ((v1 < (0 : Int) → Aw Ω M_Cmp_pairAt R F k n 22 [xr (some a0), xi v1] [xi (-1)] σ) ∧ (¬ v1 < (0 : Int) → sK σ a0 = 2 ∧ (Q32 (fI σ 70 a0) → ((v1 < (fI σ 70 a0) → (∃ b4 : Nat, fR σ 66 a0 = some b4 ∧ sK σ b4 = 50 ∧ 0 ≤ v1 ∧ v1 < sZ σ b4 ∧ (Q32 (aI σ b4 (v1).toNat) → Aw Ω M_Cmp_pairAt R F k n 22 [xr (some a0), xi v1] [xi (aI σ b4 (v1).toNat)] σ))) ∧ (¬ v1 < (fI σ 70 a0) → Aw Ω M_Cmp_pairAt R F k n 22 [xr (some a0), xi v1] [xi (-1)] σ)))))) : Aw Ω M_Cmp_pairAt R F k n 0 [xr (some a0), xi v1] [] σ := by
  refine Aw.iload_n rfl d_Cmp_pairAt_0 ?_
  obtain ⟨o1, h⟩ := h
  obtain ⟨ht, hf⟩ := h
  refine Aw.if_lt (tgt := 12) o1 (by decide) d_Cmp_pairAt_1 (fun c11 => ?_) (fun c11 => ?_)
  · have h := ht c11
    refine Aw.iconst d_Cmp_pairAt_12 ?_
    refine Aw.goto (tgt := 22) (by decide) d_Cmp_pairAt_13 ?_
    exact h
  · have h := hf c11
    refine Aw.iload_n rfl d_Cmp_pairAt_4 ?_
    refine Aw.aload_n rfl d_Cmp_pairAt_5 ?_
    obtain ⟨o2, h⟩ := h
    refine Aw.getI (f := 70) 1 6 fl_Cmp_34 (by decide) (by decide) rfl rfl o2 d_Cmp_pairAt_6 (fun r3 => ?_)
    have h := h r3
    obtain ⟨ht, hf⟩ := h
    refine Aw.icmp_lt (tgt := 16) o1 r3 (by decide) d_Cmp_pairAt_9 (fun c10 => ?_) (fun c10 => ?_)
    · have h := ht c10
      refine Aw.aload_n rfl d_Cmp_pairAt_16 ?_
      obtain ⟨b4, e5, h⟩ := h
      refine Aw.getRs (f := 66) 1 2 fl_Cmp_18 (by decide) (by decide) rfl rfl o2 e5 d_Cmp_pairAt_17 ?_
      refine Aw.iload_n rfl d_Cmp_pairAt_20 ?_
      obtain ⟨o6, h⟩ := h
      obtain ⟨o7, o8, h⟩ := h
      refine Aw.iald o6 o7 o8 d_Cmp_pairAt_21 (fun r9 => ?_)
      have h := h r9
      exact h
    · have h := hf c10
      refine Aw.iconst d_Cmp_pairAt_12 ?_
      refine Aw.goto (tgt := 22) (by decide) d_Cmp_pairAt_13 ?_
      exact h
theorem r_Cmp_pairAt_22 {Ω : Om} {R : Room} {k n : Nat} {L : List PV} {σ : Sto} {QR : Option PV → Sto → Prop} {QX : String → Sto → Prop} {x : Int} (h : QR (some (xi x)) σ) (h1 : k ≤ R.cells) (h2 : n ≤ R.slots) : Aw Ω M_Cmp_pairAt R (MF Ω R QR QX) k n 22 L [xi x] σ := Aw.iret rfl h h1 h2 d_Cmp_pairAt_22
theorem e_Cmp_pairCount {Ω : Om} {R : Room} {QR : Option PV → Sto → Prop} {QX : String → Sto → Prop} {σ : Sto} {a0 : Nat} (h : Aw Ω M_Cmp_pairCount R (MF Ω R QR QX) 0 0 0 [xr (some a0)] [] σ) : MC Ω M_Cmp_pairCount R QR QX σ [xr (some a0)] := MC.body (by decide +kernel) rfl (Nat.le_of_ble_eq_true rfl) rfl h
theorem b_Cmp_pairCount_0 {Ω : Om} {R : Room} {F : QF} {k n : Nat} {σ : Sto} {a0 : Nat} (h : sK σ a0 = 2 ∧ (Q32 (fI σ 72 a0) → Aw Ω M_Cmp_pairCount R F k n 4 [xr (some a0)] [xi (fI σ 72 a0)] σ)) : Aw Ω M_Cmp_pairCount R F k n 0 [xr (some a0)] [] σ := by
  refine Aw.aload_n rfl d_Cmp_pairCount_0 ?_
  obtain ⟨o1, h⟩ := h
  refine Aw.getI (f := 72) 1 8 fl_Cmp_41 (by decide) (by decide) rfl rfl o1 d_Cmp_pairCount_1 (fun r2 => ?_)
  have h := h r2
  exact h
theorem r_Cmp_pairCount_4 {Ω : Om} {R : Room} {k n : Nat} {L : List PV} {σ : Sto} {QR : Option PV → Sto → Prop} {QX : String → Sto → Prop} {x : Int} (h : QR (some (xi x)) σ) (h1 : k ≤ R.cells) (h2 : n ≤ R.slots) : Aw Ω M_Cmp_pairCount R (MF Ω R QR QX) k n 4 L [xi x] σ := Aw.iret rfl h h1 h2 d_Cmp_pairCount_4
theorem e_Cmp_pairUp {Ω : Om} {R : Room} {QR : Option PV → Sto → Prop} {QX : String → Sto → Prop} {σ : Sto} {a0 : Nat} {a1 : Nat} {a2 : Nat} {v3 : Int} (h : Aw Ω M_Cmp_pairUp R (MF Ω R QR QX) 0 0 0 [xr (some a0), xr (some a1), xr (some a2), xi v3] [] σ) : MC Ω M_Cmp_pairUp R QR QX σ [xr (some a0), xr (some a1), xr (some a2), xi v3] := MC.body (by decide +kernel) rfl (Nat.le_of_ble_eq_true rfl) rfl h
theorem b_Cmp_pairUp_0 {Ω : Om} {R : Room} {F : QF} {k n : Nat} {σ : Sto} {a0 : Nat} {a1 : Nat} {a2 : Nat} {v3 : Int} (h : sK σ a0 = 2 ∧ (∃ b2 : Nat, fR σ 64 a0 = some b2 ∧ Aw Ω M_Cmp_pairUp R F k n 7 [xr (some a0), xr (some a1), xr (some a2), xi v3] [xi v3, xr (some b2), xr (some a1), xr (some a0)] σ)) : Aw Ω M_Cmp_pairUp R F k n 0 [xr (some a0), xr (some a1), xr (some a2), xi v3] [] σ := by
  refine Aw.aload_n rfl d_Cmp_pairUp_0 ?_
  refine Aw.aload_n rfl d_Cmp_pairUp_1 ?_
  refine Aw.aload_n rfl d_Cmp_pairUp_2 ?_
  obtain ⟨o1, h⟩ := h
  obtain ⟨b2, e3, h⟩ := h
  refine Aw.getRs (f := 64) 1 0 fl_Cmp_9 (by decide) (by decide) rfl rfl o1 e3 d_Cmp_pairUp_3 ?_
  refine Aw.iload_n rfl d_Cmp_pairUp_6 ?_
  exact h
theorem b_Cmp_pairUp_10 {Ω : Om} {R : Room} {F : QF} {k n : Nat} {σ : Sto} {a0 : Nat} {a1 : Nat} {a2 : Nat} {v3 : Int} {s0 : Nat} {s1 : Int} (h : sK σ s0 = 2 ∧ Q32 s1 ∧ sK σ a0 = 2 ∧ (∃ b4 : Nat, fR σ 65 a0 = some b4 ∧ Aw Ω M_Cmp_pairUp R F k n 20 [xr (some a0), xr (some a1), xr (some a2), xi v3] [xi v3, xr (some b4), xr (some a2), xr (some a0)] (uI σ 70 s0 s1))) : Aw Ω M_Cmp_pairUp R F k n 10 [xr (some a0), xr (some a1), xr (some a2), xi v3] [xi s1, xr (some s0)] σ := by
  obtain ⟨o1, h⟩ := h
  obtain ⟨o2, h⟩ := h
  refine Aw.putI (f := 70) 1 6 fl_Cmp_34 (by decide) (by decide) rfl rfl o1 rfl o2 (Or.inl rfl) d_Cmp_pairUp_10 ?_
  refine Aw.aload_n rfl d_Cmp_pairUp_13 ?_
  refine Aw.aload_n rfl d_Cmp_pairUp_14 ?_
  refine Aw.aload_n rfl d_Cmp_pairUp_15 ?_
  obtain ⟨o3, h⟩ := h
  obtain ⟨b4, e5, h⟩ := h
  refine Aw.getRs (f := 65) 1 1 fl_Cmp_15 (by decide) (by decide) rfl rfl o3 e5 d_Cmp_pairUp_16 ?_
  refine Aw.iload_n rfl d_Cmp_pairUp_19 ?_
  exact h
theorem b_Cmp_pairUp_23 {Ω : Om} {R : Room} {F : QF} {k n : Nat} {σ : Sto} {a0 : Nat} {a1 : Nat} {a2 : Nat} {v3 : Int} {s0 : Nat} {s1 : Int} (h : sK σ s0 = 2 ∧ Q32 s1 ∧ Aw Ω M_Cmp_pairUp R F k n 27 [xr (some a0), xr (some a1), xr (some a2), xi v3] [xr (some a0)] (uI σ 71 s0 s1)) : Aw Ω M_Cmp_pairUp R F k n 23 [xr (some a0), xr (some a1), xr (some a2), xi v3] [xi s1, xr (some s0)] σ := by
  obtain ⟨o1, h⟩ := h
  obtain ⟨o2, h⟩ := h
  refine Aw.putI (f := 71) 1 7 fl_Cmp_38 (by decide) (by decide) rfl rfl o1 rfl o2 (Or.inl rfl) d_Cmp_pairUp_23 ?_
  refine Aw.aload_n rfl d_Cmp_pairUp_26 ?_
  exact h
theorem b_Cmp_pairUp_30 {Ω : Om} {R : Room} {F : QF} {k n : Nat} {σ : Sto} {a0 : Nat} {a1 : Nat} {a2 : Nat} {v3 : Int} (h : Aw Ω M_Cmp_pairUp R F k n 31 [xr (some a0), xr (some a1), xr (some a2), xi v3] [xr (some a0)] σ) : Aw Ω M_Cmp_pairUp R F k n 30 [xr (some a0), xr (some a1), xr (some a2), xi v3] [] σ := by
  refine Aw.aload_n rfl d_Cmp_pairUp_30 ?_
  exact h
theorem c_Cmp_pairUp_7 {Ω : Om} {R R' : Room} {F : QF} {k n : Nat} {L st : List PV} {σ : Sto} {QX' : String → Sto → Prop} {Q : Int → Sto → Prop} {x0 : Option Nat} {x1 : Option Nat} {x2 : Int} (hc : MC Ω M_Cmp_read R' (RI Q) QX' σ [xr x0, xr x1, xi x2]) (hr1 : R'.frames + 1 ≤ R.frames) (hr2 : 8 + (7 + 11) + R'.locals ≤ R.locals) (hb1 : k + R'.cells ≤ R.cells) (hb2 : n + R'.slots ≤ R.slots) (hst : (st.map catP).sum ≤ 8) (kk : ∀ x σ', Q x σ' → Aw Ω M_Cmp_pairUp R F (k + R'.cells) (n + R'.slots) 10 L (xi x :: st) σ') (kx : ∀ E σ', QX' E σ' → Ax Ω M_Cmp_pairUp R F (k + R'.cells) (n + R'.slots) 7 L st σ' E) : Aw Ω M_Cmp_pairUp R F k n 7 L (xi x2 :: xr x1 :: xr x0 :: st) σ :=
  Aw.callS (As := [xr x0, xr x1, xi x2]) (stk := xi x2 :: xr x1 :: xr x0 :: st) (nn := 3) M_Cmp_read hc ok_Cmp_read rfl ml_Cmp_44 sta_Cmp_read ⟨hr1, hr2⟩ rfl ⟨hb1, hb2⟩ hst rfl d_Cmp_pairUp_7 (fun r σ' h => by obtain ⟨x, rfl, h⟩ := h; exact kk x σ' h) kx
theorem c_Cmp_pairUp_20 {Ω : Om} {R R' : Room} {F : QF} {k n : Nat} {L st : List PV} {σ : Sto} {QX' : String → Sto → Prop} {Q : Int → Sto → Prop} {x0 : Option Nat} {x1 : Option Nat} {x2 : Int} (hc : MC Ω M_Cmp_read R' (RI Q) QX' σ [xr x0, xr x1, xi x2]) (hr1 : R'.frames + 1 ≤ R.frames) (hr2 : 8 + (7 + 11) + R'.locals ≤ R.locals) (hb1 : k + R'.cells ≤ R.cells) (hb2 : n + R'.slots ≤ R.slots) (hst : (st.map catP).sum ≤ 8) (kk : ∀ x σ', Q x σ' → Aw Ω M_Cmp_pairUp R F (k + R'.cells) (n + R'.slots) 23 L (xi x :: st) σ') (kx : ∀ E σ', QX' E σ' → Ax Ω M_Cmp_pairUp R F (k + R'.cells) (n + R'.slots) 20 L st σ' E) : Aw Ω M_Cmp_pairUp R F k n 20 L (xi x2 :: xr x1 :: xr x0 :: st) σ :=
  Aw.callS (As := [xr x0, xr x1, xi x2]) (stk := xi x2 :: xr x1 :: xr x0 :: st) (nn := 3) M_Cmp_read hc ok_Cmp_read rfl ml_Cmp_44 sta_Cmp_read ⟨hr1, hr2⟩ rfl ⟨hb1, hb2⟩ hst rfl d_Cmp_pairUp_20 (fun r σ' h => by obtain ⟨x, rfl, h⟩ := h; exact kk x σ' h) kx
theorem c_Cmp_pairUp_27 {Ω : Om} {R R' : Room} {F : QF} {k n : Nat} {L st : List PV} {σ : Sto} {QX' : String → Sto → Prop} {Q : Sto → Prop} {a : Nat} (hc : MC Ω M_Cmp_countPairs R' (RV Q) QX' σ [xr (some a)]) (hk : sK σ a = 2) (hr1 : R'.frames + 1 ≤ R.frames) (hr2 : 8 + (3 + 11) + R'.locals ≤ R.locals) (hb1 : k + R'.cells ≤ R.cells) (hb2 : n + R'.slots ≤ R.slots) (hst : (st.map catP).sum ≤ 8) (kk : ∀ σ', Q σ' → Aw Ω M_Cmp_pairUp R F (k + R'.cells) (n + R'.slots) 30 L st σ') (kx : ∀ E σ', QX' E σ' → Ax Ω M_Cmp_pairUp R F (k + R'.cells) (n + R'.slots) 27 L st σ' E) : Aw Ω M_Cmp_pairUp R F k n 27 L (xr (some a) :: st) σ :=
  Aw.callV (As := []) (stk := xr (some a) :: st) (nn := 0) 1 M_Cmp_countPairs hc ok_Cmp_countPairs rfl (by decide) rfl hk ml_Cmp_48 im_Cmp_countPairs se_Cmp_countPairs ⟨hr1, hr2⟩ rfl ⟨hb1, hb2⟩ hst rfl d_Cmp_pairUp_27 (fun r σ' h => by obtain ⟨rfl, h⟩ := h; exact kk σ' h) kx
theorem c_Cmp_pairUp_31 {Ω : Om} {R R' : Room} {F : QF} {k n : Nat} {L st : List PV} {σ : Sto} {QX' : String → Sto → Prop} {Q : Sto → Prop} {a : Nat} (hc : MC Ω M_Cmp_walk R' (RV Q) QX' σ [xr (some a)]) (hk : sK σ a = 2) (hr1 : R'.frames + 1 ≤ R.frames) (hr2 : 8 + (3 + 11) + R'.locals ≤ R.locals) (hb1 : k + R'.cells ≤ R.cells) (hb2 : n + R'.slots ≤ R.slots) (hst : (st.map catP).sum ≤ 8) (kk : ∀ σ', Q σ' → Aw Ω M_Cmp_pairUp R F (k + R'.cells) (n + R'.slots) 34 L st σ') (kx : ∀ E σ', QX' E σ' → Ax Ω M_Cmp_pairUp R F (k + R'.cells) (n + R'.slots) 31 L st σ' E) : Aw Ω M_Cmp_pairUp R F k n 31 L (xr (some a) :: st) σ :=
  Aw.callV (As := []) (stk := xr (some a) :: st) (nn := 0) 1 M_Cmp_walk hc ok_Cmp_walk rfl (by decide) rfl hk ml_Cmp_51 im_Cmp_walk se_Cmp_walk ⟨hr1, hr2⟩ rfl ⟨hb1, hb2⟩ hst rfl d_Cmp_pairUp_31 (fun r σ' h => by obtain ⟨rfl, h⟩ := h; exact kk σ' h) kx
theorem r_Cmp_pairUp_34 {Ω : Om} {R : Room} {k n : Nat} {L : List PV} {σ : Sto} {QR : Option PV → Sto → Prop} {QX : String → Sto → Prop} (h : QR none σ) (h1 : k ≤ R.cells) (h2 : n ≤ R.slots) : Aw Ω M_Cmp_pairUp R (MF Ω R QR QX) k n 34 L [] σ := Aw.vret rfl h h1 h2 d_Cmp_pairUp_34
theorem e_Cmp_read {Ω : Om} {R : Room} {QR : Option PV → Sto → Prop} {QX : String → Sto → Prop} {σ : Sto} {a0 : Nat} {a1 : Nat} {v2 : Int} (h : Aw Ω M_Cmp_read R (MF Ω R QR QX) 0 0 0 [xr (some a0), xr (some a1), xi v2, xu, xu, xu, xu] [] σ) : MC Ω M_Cmp_read R QR QX σ [xr (some a0), xr (some a1), xi v2] := MC.body (by decide +kernel) rfl (Nat.le_of_ble_eq_true rfl) rfl h
theorem b_Cmp_read_0 {Ω : Om} {R : Room} {F : QF} {k n : Nat} {σ : Sto} {a0 : Nat} {a1 : Nat} {v2 : Int} (h : Aw Ω M_Cmp_read R F k n 1 [xr (some a0), xr (some a1), xi v2, xu, xu, xu, xu] [xr (some a0)] σ) : Aw Ω M_Cmp_read R F k n 0 [xr (some a0), xr (some a1), xi v2, xu, xu, xu, xu] [] σ := by
  refine Aw.aload_n rfl d_Cmp_read_0 ?_
  exact h
theorem b_Cmp_read_4 {Ω : Om} {R : Room} {F : QF} {k n : Nat} {σ : Sto} {a0 : Nat} {a1 : Nat} {v2 : Int} {s0 : Int} (h : sK σ a1 = 51 ∧ ((sZ σ a1 : Int) < 2147483648 → Q32 s0 ∧ Q32 (sZ σ a1 : Int) ∧ 1 ≤ R.frames ∧ ([].map catP).sum + 13 ≤ R.locals ∧ k ≤ R.cells ∧ n ≤ R.slots ∧ Aw Ω M_Cmp_read R F k n 13 [xr (some a0), xr (some a1), xi v2, xi (minI s0 (sZ σ a1 : Int)), xi 0, xu, xu] [] σ)) : Aw Ω M_Cmp_read R F k n 4 [xr (some a0), xr (some a1), xi v2, xu, xu, xu, xu] [xi s0] σ := by
  refine Aw.aload_n rfl d_Cmp_read_4 ?_
  obtain ⟨o1, h⟩ := h
  refine Aw.alen 1 (by decide) o1 d_Cmp_read_5 (fun r2 => ?_)
  have h := h r2
  obtain ⟨o3, o4, o5, o6, o7, o8, h⟩ := h
  refine Aw.mmin o3 o4 ml_Cmp_60 mth_min_1 mth_ini mth_min_2 o5 o6 o7 o8 d_Cmp_read_6 ?_
  refine Aw.istore_n (by decide) d_Cmp_read_9 ?_
  refine Aw.toL (L' := [xr (some a0), xr (some a1), xi v2, xi (minI s0 (sZ σ a1 : Int)), xu, xu, xu]) rfl ?_
  refine Aw.iconst d_Cmp_read_10 ?_
  refine Aw.istore (by decide) d_Cmp_read_11 ?_
  refine Aw.toL (L' := [xr (some a0), xr (some a1), xi v2, xi (minI s0 (sZ σ a1 : Int)), xi 0, xu, xu]) rfl ?_
  exact h
theorem b_Cmp_read_13 {Ω : Om} {R : Room} {F : QF} {k n : Nat} {σ : Sto} {a0 : Nat} {a1 : Nat} {v2 : Int} {v3 : Int} {v4 : Int} (h : Q32 v4 ∧ Q32 v3 ∧ ((v3 ≤ v4 → Aw Ω M_Cmp_read R F k n 52 [xr (some a0), xr (some a1), xi v2, xi v3, xi v4, xu, xu] [xi v3] σ) ∧ (¬ v3 ≤ v4 → Aw Ω M_Cmp_read R F k n 22 [xr (some a0), xr (some a1), xi v2, xi v3, xi v4, xu, xu] [xi v4, xr (some a0)] σ))) : Aw Ω M_Cmp_read R F k n 13 [xr (some a0), xr (some a1), xi v2, xi v3, xi v4, xu, xu] [] σ := by
  refine Aw.iload rfl d_Cmp_read_13 ?_
  refine Aw.iload_n rfl d_Cmp_read_15 ?_
  obtain ⟨o1, h⟩ := h
  obtain ⟨o2, h⟩ := h
  obtain ⟨ht, hf⟩ := h
  refine Aw.icmp_ge (tgt := 51) o1 o2 (by decide) d_Cmp_read_16 (fun c3 => ?_) (fun c3 => ?_)
  · have h := ht c3
    refine Aw.iload_n rfl d_Cmp_read_51 ?_
    exact h
  · have h := hf c3
    refine Aw.aload_n rfl d_Cmp_read_19 ?_
    refine Aw.iload rfl d_Cmp_read_20 ?_
    exact h
theorem b_Cmp_read_25 {Ω : Om} {R : Room} {F : QF} {k n : Nat} {σ : Sto} {a0 : Nat} {a1 : Nat} {v2 : Int} {v3 : Int} {v4 : Int} {s0 : Int64} (h : Q32 v2 ∧ ((v2 = (0 : Int) → sK σ a1 = 51 ∧ 0 ≤ v4 ∧ v4 < sZ σ a1 ∧ Aw Ω M_Cmp_read R F k n 13 [xr (some a0), xr (some a1), xi v2, xi v3, xi (v4 + 1), xu, xu] [] (vL σ a1 (v4).toNat s0)) ∧ (¬ v2 = (0 : Int) → Aw Ω M_Cmp_read R F k n 36 [xr (some a0), xr (some a1), xi v2, xi v3, xi v4, xl s0, xu] [xl s0, xi v4, xr (some a1)] σ))) : Aw Ω M_Cmp_read R F k n 25 [xr (some a0), xr (some a1), xi v2, xi v3, xi v4, xu, xu] [xl s0] σ := by
  refine Aw.lstore (by decide) d_Cmp_read_25 ?_
  refine Aw.toL (L' := [xr (some a0), xr (some a1), xi v2, xi v3, xi v4, xl s0, xu]) rfl ?_
  refine Aw.aload_n rfl d_Cmp_read_27 ?_
  refine Aw.iload rfl d_Cmp_read_28 ?_
  refine Aw.iload_n rfl d_Cmp_read_30 ?_
  obtain ⟨o1, h⟩ := h
  obtain ⟨ht, hf⟩ := h
  refine Aw.if_eq (tgt := 42) o1 (by decide) d_Cmp_read_31 (fun c5 => ?_) (fun c5 => ?_)
  · have h := ht c5
    refine Aw.lload rfl d_Cmp_read_42 ?_
    obtain ⟨o2, h⟩ := h
    obtain ⟨o3, o4, h⟩ := h
    refine Aw.last o2 o3 o4 d_Cmp_read_44 ?_
    refine Aw.iinc rfl d_Cmp_read_45 ?_
    refine Aw.toL (L' := [xr (some a0), xr (some a1), xi v2, xi v3, xi (v4 + 1), xl s0, xu]) rfl ?_
    refine Aw.goto (tgt := 13) (by decide) d_Cmp_read_48 ?_
    exact Aw.toW (L' := [xr (some a0), xr (some a1), xi v2, xi v3, xi (v4 + 1), xu, xu]) ⟨Or.inr rfl, Or.inr rfl, Or.inr rfl, Or.inr rfl, Or.inr rfl, Or.inl rfl, Or.inr rfl, trivial⟩ h
  · have h := hf c5
    refine Aw.lload rfl d_Cmp_read_34 ?_
    exact h
theorem b_Cmp_read_39 {Ω : Om} {R : Room} {F : QF} {k n : Nat} {σ : Sto} {a0 : Nat} {a1 : Nat} {v2 : Int} {v3 : Int} {v4 : Int} {v5 : Int64} {s0 : Nat} {s1 : Int} {s2 : Int64} (h : sK σ s0 = 51 ∧ 0 ≤ s1 ∧ s1 < sZ σ s0 ∧ Aw Ω M_Cmp_read R F k n 13 [xr (some a0), xr (some a1), xi v2, xi v3, xi (v4 + 1), xu, xu] [] (vL σ s0 (s1).toNat s2)) : Aw Ω M_Cmp_read R F k n 39 [xr (some a0), xr (some a1), xi v2, xi v3, xi v4, xl v5, xu] [xl s2, xi s1, xr (some s0)] σ := by
  refine Aw.goto (tgt := 44) (by decide) d_Cmp_read_39 ?_
  obtain ⟨o1, h⟩ := h
  obtain ⟨o2, o3, h⟩ := h
  refine Aw.last o1 o2 o3 d_Cmp_read_44 ?_
  refine Aw.iinc rfl d_Cmp_read_45 ?_
  refine Aw.toL (L' := [xr (some a0), xr (some a1), xi v2, xi v3, xi (v4 + 1), xl v5, xu]) rfl ?_
  refine Aw.goto (tgt := 13) (by decide) d_Cmp_read_48 ?_
  exact Aw.toW (L' := [xr (some a0), xr (some a1), xi v2, xi v3, xi (v4 + 1), xu, xu]) ⟨Or.inr rfl, Or.inr rfl, Or.inr rfl, Or.inr rfl, Or.inr rfl, Or.inl rfl, Or.inr rfl, trivial⟩ h
theorem c_Cmp_read_1 {Ω : Om} {R R' : Room} {F : QF} {k n : Nat} {L st : List PV} {σ : Sto} {QX' : String → Sto → Prop} {Q : Int → Sto → Prop} {a : Nat} (hc : MC Ω M_Txt_size R' (RI Q) QX' σ [xr (some a)]) (hk : sK σ a = 10) (hr1 : R'.frames + 1 ≤ R.frames) (hr2 : 8 + (1 + 11) + R'.locals ≤ R.locals) (hb1 : k + R'.cells ≤ R.cells) (hb2 : n + R'.slots ≤ R.slots) (hst : (st.map catP).sum ≤ 8) (kk : ∀ x σ', Q x σ' → Aw Ω M_Cmp_read R F (k + R'.cells) (n + R'.slots) 4 L (xi x :: st) σ') (kx : ∀ E σ', QX' E σ' → Ax Ω M_Cmp_read R F (k + R'.cells) (n + R'.slots) 1 L st σ' E) : Aw Ω M_Cmp_read R F k n 1 L (xr (some a) :: st) σ :=
  Aw.callV (As := []) (stk := xr (some a) :: st) (nn := 0) 9 M_Txt_size hc ok_Txt_size rfl (by decide) rfl hk ml_Cmp_54 im_Txt_size se_Txt_size ⟨hr1, hr2⟩ rfl ⟨hb1, hb2⟩ hst rfl d_Cmp_read_1 (fun r σ' h => by obtain ⟨x, rfl, h⟩ := h; exact kk x σ' h) kx
theorem c_Cmp_read_22 {Ω : Om} {R R' : Room} {F : QF} {k n : Nat} {L st : List PV} {σ : Sto} {QX' : String → Sto → Prop} {Q : Int64 → Sto → Prop} {a : Nat} {x0 : Int} (hc : MC Ω M_Txt_lineAt R' (RL Q) QX' σ [xr (some a), xi x0]) (hk : sK σ a = 10) (hr1 : R'.frames + 1 ≤ R.frames) (hr2 : 8 + (2 + 11) + R'.locals ≤ R.locals) (hb1 : k + R'.cells ≤ R.cells) (hb2 : n + R'.slots ≤ R.slots) (hst : (st.map catP).sum ≤ 8) (kk : ∀ x σ', Q x σ' → Aw Ω M_Cmp_read R F (k + R'.cells) (n + R'.slots) 25 L (xl x :: st) σ') (kx : ∀ E σ', QX' E σ' → Ax Ω M_Cmp_read R F (k + R'.cells) (n + R'.slots) 22 L st σ' E) : Aw Ω M_Cmp_read R F k n 22 L (xi x0 :: xr (some a) :: st) σ :=
  Aw.callV (As := [xi x0]) (stk := xi x0 :: xr (some a) :: st) (nn := 1) 9 M_Txt_lineAt hc ok_Txt_lineAt rfl (by decide) rfl hk ml_Cmp_66 im_Txt_lineAt se_Txt_lineAt ⟨hr1, hr2⟩ rfl ⟨hb1, hb2⟩ hst rfl d_Cmp_read_22 (fun r σ' h => by obtain ⟨x, rfl, h⟩ := h; exact kk x σ' h) kx
theorem c_Cmp_read_36 {Ω : Om} {R R' : Room} {F : QF} {k n : Nat} {L st : List PV} {σ : Sto} {QX' : String → Sto → Prop} {Q : Int64 → Sto → Prop} {x0 : Int64} (hc : MC Ω M_Lbk_lettersOf R' (RL Q) QX' σ [xl x0]) (hr1 : R'.frames + 1 ≤ R.frames) (hr2 : 8 + (8 + 11) + R'.locals ≤ R.locals) (hb1 : k + R'.cells ≤ R.cells) (hb2 : n + R'.slots ≤ R.slots) (hst : (st.map catP).sum ≤ 8) (kk : ∀ x σ', Q x σ' → Aw Ω M_Cmp_read R F (k + R'.cells) (n + R'.slots) 39 L (xl x :: st) σ') (kx : ∀ E σ', QX' E σ' → Ax Ω M_Cmp_read R F (k + R'.cells) (n + R'.slots) 36 L st σ' E) : Aw Ω M_Cmp_read R F k n 36 L (xl x0 :: st) σ :=
  Aw.callS (As := [xl x0]) (stk := xl x0 :: st) (nn := 1) M_Lbk_lettersOf hc ok_Lbk_lettersOf rfl ml_Cmp_70 sta_Lbk_lettersOf ⟨hr1, hr2⟩ rfl ⟨hb1, hb2⟩ hst rfl d_Cmp_read_36 (fun r σ' h => by obtain ⟨x, rfl, h⟩ := h; exact kk x σ' h) kx
theorem r_Cmp_read_52 {Ω : Om} {R : Room} {k n : Nat} {L : List PV} {σ : Sto} {QR : Option PV → Sto → Prop} {QX : String → Sto → Prop} {x : Int} (h : QR (some (xi x)) σ) (h1 : k ≤ R.cells) (h2 : n ≤ R.slots) : Aw Ω M_Cmp_read R (MF Ω R QR QX) k n 52 L [xi x] σ := Aw.iret rfl h h1 h2 d_Cmp_read_52
theorem e_Cmp_size {Ω : Om} {R : Room} {QR : Option PV → Sto → Prop} {QX : String → Sto → Prop} {σ : Sto} {a0 : Nat} (h : Aw Ω M_Cmp_size R (MF Ω R QR QX) 0 0 0 [xr (some a0)] [] σ) : MC Ω M_Cmp_size R QR QX σ [xr (some a0)] := MC.body (by decide +kernel) rfl (Nat.le_of_ble_eq_true rfl) rfl h
theorem b_Cmp_size_0 {Ω : Om} {R : Room} {F : QF} {k n : Nat} {σ : Sto} {a0 : Nat} (h : sK σ a0 = 2 ∧ (Q32 (fI σ 70 a0) → Aw Ω M_Cmp_size R F k n 4 [xr (some a0)] [xi (fI σ 70 a0)] σ)) : Aw Ω M_Cmp_size R F k n 0 [xr (some a0)] [] σ := by
  refine Aw.aload_n rfl d_Cmp_size_0 ?_
  obtain ⟨o1, h⟩ := h
  refine Aw.getI (f := 70) 1 6 fl_Cmp_34 (by decide) (by decide) rfl rfl o1 d_Cmp_size_1 (fun r2 => ?_)
  have h := h r2
  exact h
theorem r_Cmp_size_4 {Ω : Om} {R : Room} {k n : Nat} {L : List PV} {σ : Sto} {QR : Option PV → Sto → Prop} {QX : String → Sto → Prop} {x : Int} (h : QR (some (xi x)) σ) (h1 : k ≤ R.cells) (h2 : n ≤ R.slots) : Aw Ω M_Cmp_size R (MF Ω R QR QX) k n 4 L [xi x] σ := Aw.iret rfl h h1 h2 d_Cmp_size_4
theorem e_Cmp_takeLongestMove {Ω : Om} {R : Room} {QR : Option PV → Sto → Prop} {QX : String → Sto → Prop} {σ : Sto} {a0 : Nat} (h : Aw Ω M_Cmp_takeLongestMove R (MF Ω R QR QX) 0 0 0 [xr (some a0), xu, xu, xu, xu, xu, xu] [] σ) : MC Ω M_Cmp_takeLongestMove R QR QX σ [xr (some a0)] := MC.body (by decide +kernel) rfl (Nat.le_of_ble_eq_true rfl) rfl h
theorem b_Cmp_takeLongestMove_0 {Ω : Om} {R : Room} {F : QF} {k n : Nat} {σ : Sto} {a0 : Nat} (h : Aw Ω M_Cmp_takeLongestMove R F k n 9 [xr (some a0), xi 0, xi 0, xi 0, xi 0, xu, xu] [] σ) : Aw Ω M_Cmp_takeLongestMove R F k n 0 [xr (some a0), xu, xu, xu, xu, xu, xu] [] σ := by
  refine Aw.iconst d_Cmp_takeLongestMove_0 ?_
  refine Aw.istore_n (by decide) d_Cmp_takeLongestMove_1 ?_
  refine Aw.toL (L' := [xr (some a0), xi 0, xu, xu, xu, xu, xu]) rfl ?_
  refine Aw.iconst d_Cmp_takeLongestMove_2 ?_
  refine Aw.istore_n (by decide) d_Cmp_takeLongestMove_3 ?_
  refine Aw.toL (L' := [xr (some a0), xi 0, xi 0, xu, xu, xu, xu]) rfl ?_
  refine Aw.iconst d_Cmp_takeLongestMove_4 ?_
  refine Aw.istore_n (by decide) d_Cmp_takeLongestMove_5 ?_
  refine Aw.toL (L' := [xr (some a0), xi 0, xi 0, xi 0, xu, xu, xu]) rfl ?_
  refine Aw.iconst d_Cmp_takeLongestMove_6 ?_
  refine Aw.istore (by decide) d_Cmp_takeLongestMove_7 ?_
  refine Aw.toL (L' := [xr (some a0), xi 0, xi 0, xi 0, xi 0, xu, xu]) rfl ?_
  exact h
theorem b_Cmp_takeLongestMove_9 {Ω : Om} {R : Room} {F : QF} {k n : Nat} {σ : Sto} {a0 : Nat} {v1 : Int} {v2 : Int} {v3 : Int} {v4 : Int} (h : sK σ a0 = 2 ∧ (Q32 (fI σ 70 a0) → Q32 v4 ∧ (((fI σ 70 a0) ≤ v4 → Aw Ω M_Cmp_takeLongestMove R F k n 70 [xr (some a0), xi v1, xi v2, xi v3, xi 0, xu, xu] [] σ) ∧ (¬ (fI σ 70 a0) ≤ v4 → Aw Ω M_Cmp_takeLongestMove R F k n 21 [xr (some a0), xi v1, xi v2, xi v3, xi v4, xi 0, xu] [] σ)))) : Aw Ω M_Cmp_takeLongestMove R F k n 9 [xr (some a0), xi v1, xi v2, xi v3, xi v4, xu, xu] [] σ := by
  refine Aw.iload rfl d_Cmp_takeLongestMove_9 ?_
  refine Aw.aload_n rfl d_Cmp_takeLongestMove_11 ?_
  obtain ⟨o1, h⟩ := h
  refine Aw.getI (f := 70) 1 6 fl_Cmp_34 (by decide) (by decide) rfl rfl o1 d_Cmp_takeLongestMove_12 (fun r2 => ?_)
  have h := h r2
  obtain ⟨o3, h⟩ := h
  obtain ⟨ht, hf⟩ := h
  refine Aw.icmp_ge (tgt := 67) o3 r2 (by decide) d_Cmp_takeLongestMove_15 (fun c4 => ?_) (fun c4 => ?_)
  · have h := ht c4
    refine Aw.iconst d_Cmp_takeLongestMove_67 ?_
    refine Aw.istore (by decide) d_Cmp_takeLongestMove_68 ?_
    refine Aw.toL (L' := [xr (some a0), xi v1, xi v2, xi v3, xi 0, xu, xu]) rfl ?_
    exact h
  · have h := hf c4
    refine Aw.iconst d_Cmp_takeLongestMove_18 ?_
    refine Aw.istore (by decide) d_Cmp_takeLongestMove_19 ?_
    refine Aw.toL (L' := [xr (some a0), xi v1, xi v2, xi v3, xi v4, xi 0, xu]) rfl ?_
    exact h
theorem b_Cmp_takeLongestMove_21 {Ω : Om} {R : Room} {F : QF} {k n : Nat} {σ : Sto} {a0 : Nat} {v1 : Int} {v2 : Int} {v3 : Int} {v4 : Int} {v5 : Int} (h : sK σ a0 = 2 ∧ (Q32 (fI σ 71 a0) → Q32 v5 ∧ (((fI σ 71 a0) ≤ v5 → Aw Ω M_Cmp_takeLongestMove R F k n 9 [xr (some a0), xi v1, xi v2, xi v3, xi (v4 + 1), xu, xu] [] σ) ∧ (¬ (fI σ 71 a0) ≤ v5 → Aw Ω M_Cmp_takeLongestMove R F k n 35 [xr (some a0), xi v1, xi v2, xi v3, xi v4, xi v5, xu] [xi v5, xi v4, xr (some a0)] σ)))) : Aw Ω M_Cmp_takeLongestMove R F k n 21 [xr (some a0), xi v1, xi v2, xi v3, xi v4, xi v5, xu] [] σ := by
  refine Aw.iload rfl d_Cmp_takeLongestMove_21 ?_
  refine Aw.aload_n rfl d_Cmp_takeLongestMove_23 ?_
  obtain ⟨o1, h⟩ := h
  refine Aw.getI (f := 71) 1 7 fl_Cmp_38 (by decide) (by decide) rfl rfl o1 d_Cmp_takeLongestMove_24 (fun r2 => ?_)
  have h := h r2
  obtain ⟨o3, h⟩ := h
  obtain ⟨ht, hf⟩ := h
  refine Aw.icmp_ge (tgt := 61) o3 r2 (by decide) d_Cmp_takeLongestMove_27 (fun c4 => ?_) (fun c4 => ?_)
  · have h := ht c4
    refine Aw.iinc rfl d_Cmp_takeLongestMove_61 ?_
    refine Aw.toL (L' := [xr (some a0), xi v1, xi v2, xi v3, xi (v4 + 1), xi v5, xu]) rfl ?_
    refine Aw.goto (tgt := 9) (by decide) d_Cmp_takeLongestMove_64 ?_
    exact Aw.toW (L' := [xr (some a0), xi v1, xi v2, xi v3, xi (v4 + 1), xu, xu]) ⟨Or.inr rfl, Or.inr rfl, Or.inr rfl, Or.inr rfl, Or.inr rfl, Or.inl rfl, Or.inr rfl, trivial⟩ h
  · have h := hf c4
    refine Aw.aload_n rfl d_Cmp_takeLongestMove_30 ?_
    refine Aw.iload rfl d_Cmp_takeLongestMove_31 ?_
    refine Aw.iload rfl d_Cmp_takeLongestMove_33 ?_
    exact h
theorem b_Cmp_takeLongestMove_38 {Ω : Om} {R : Room} {F : QF} {k n : Nat} {σ : Sto} {a0 : Nat} {v1 : Int} {v2 : Int} {v3 : Int} {v4 : Int} {v5 : Int} {s0 : Int} (h : Q32 s0 ∧ Q32 v1 ∧ ((s0 ≤ v1 → Aw Ω M_Cmp_takeLongestMove R F k n 21 [xr (some a0), xi v1, xi v2, xi v3, xi v4, xi (v5 + 1), xu] [] σ) ∧ (¬ s0 ≤ v1 → Aw Ω M_Cmp_takeLongestMove R F k n 21 [xr (some a0), xi s0, xi v4, xi v5, xi v4, xi (v5 + 1), xu] [] σ))) : Aw Ω M_Cmp_takeLongestMove R F k n 38 [xr (some a0), xi v1, xi v2, xi v3, xi v4, xi v5, xu] [xi s0] σ := by
  refine Aw.istore (by decide) d_Cmp_takeLongestMove_38 ?_
  refine Aw.toL (L' := [xr (some a0), xi v1, xi v2, xi v3, xi v4, xi v5, xi s0]) rfl ?_
  refine Aw.iload rfl d_Cmp_takeLongestMove_40 ?_
  refine Aw.iload_n rfl d_Cmp_takeLongestMove_42 ?_
  obtain ⟨o1, h⟩ := h
  obtain ⟨o2, h⟩ := h
  obtain ⟨ht, hf⟩ := h
  refine Aw.icmp_le (tgt := 55) o1 o2 (by decide) d_Cmp_takeLongestMove_43 (fun c3 => ?_) (fun c3 => ?_)
  · have h := ht c3
    refine Aw.iinc rfl d_Cmp_takeLongestMove_55 ?_
    refine Aw.toL (L' := [xr (some a0), xi v1, xi v2, xi v3, xi v4, xi (v5 + 1), xi s0]) rfl ?_
    refine Aw.goto (tgt := 21) (by decide) d_Cmp_takeLongestMove_58 ?_
    exact Aw.toW (L' := [xr (some a0), xi v1, xi v2, xi v3, xi v4, xi (v5 + 1), xu]) ⟨Or.inr rfl, Or.inr rfl, Or.inr rfl, Or.inr rfl, Or.inr rfl, Or.inr rfl, Or.inl rfl, trivial⟩ h
  · have h := hf c3
    refine Aw.iload rfl d_Cmp_takeLongestMove_46 ?_
    refine Aw.istore_n (by decide) d_Cmp_takeLongestMove_48 ?_
    refine Aw.toL (L' := [xr (some a0), xi s0, xi v2, xi v3, xi v4, xi v5, xi s0]) rfl ?_
    refine Aw.iload rfl d_Cmp_takeLongestMove_49 ?_
    refine Aw.istore_n (by decide) d_Cmp_takeLongestMove_51 ?_
    refine Aw.toL (L' := [xr (some a0), xi s0, xi v4, xi v3, xi v4, xi v5, xi s0]) rfl ?_
    refine Aw.iload rfl d_Cmp_takeLongestMove_52 ?_
    refine Aw.istore_n (by decide) d_Cmp_takeLongestMove_54 ?_
    refine Aw.toL (L' := [xr (some a0), xi s0, xi v4, xi v5, xi v4, xi v5, xi s0]) rfl ?_
    refine Aw.iinc rfl d_Cmp_takeLongestMove_55 ?_
    refine Aw.toL (L' := [xr (some a0), xi s0, xi v4, xi v5, xi v4, xi (v5 + 1), xi s0]) rfl ?_
    refine Aw.goto (tgt := 21) (by decide) d_Cmp_takeLongestMove_58 ?_
    exact Aw.toW (L' := [xr (some a0), xi s0, xi v4, xi v5, xi v4, xi (v5 + 1), xu]) ⟨Or.inr rfl, Or.inr rfl, Or.inr rfl, Or.inr rfl, Or.inr rfl, Or.inr rfl, Or.inl rfl, trivial⟩ h
theorem b_Cmp_takeLongestMove_70 {Ω : Om} {R : Room} {F : QF} {k n : Nat} {σ : Sto} {a0 : Nat} {v1 : Int} {v2 : Int} {v3 : Int} {v4 : Int} (h : Q32 v4 ∧ Q32 v1 ∧ ((v1 ≤ v4 → ((v1 ≤ (0 : Int) → Aw Ω M_Cmp_takeLongestMove R F k n 114 [xr (some a0), xi v1, xi v2, xi v3, xi v4, xu, xu] [xi 0] σ) ∧ (¬ v1 ≤ (0 : Int) → Aw Ω M_Cmp_takeLongestMove R F k n 114 [xr (some a0), xi v1, xi v2, xi v3, xi v4, xu, xu] [xi 1] σ))) ∧ (¬ v1 ≤ v4 → sK σ a0 = 2 ∧ (∃ b5 : Nat, fR σ 67 a0 = some b5 ∧ sK σ b5 = 50 ∧ 0 ≤ (v2 + v4) ∧ (v2 + v4) < sZ σ b5 ∧ Q32 (v3 + v4) ∧ (∃ b11 : Nat, fR σ 68 a0 = some b11 ∧ sK σ b11 = 52 ∧ 0 ≤ (v3 + v4) ∧ (v3 + v4) < sZ σ b11 ∧ Aw Ω M_Cmp_takeLongestMove R F k n 70 [xr (some a0), xi v1, xi v2, xi v3, xi (v4 + 1), xu, xu] [] (vI (vI σ b5 (v2 + v4).toNat (v3 + v4)) b11 (v3 + v4).toNat 0)))))) : Aw Ω M_Cmp_takeLongestMove R F k n 70 [xr (some a0), xi v1, xi v2, xi v3, xi v4, xu, xu] [] σ := by
  refine Aw.iload rfl d_Cmp_takeLongestMove_70 ?_
  refine Aw.iload_n rfl d_Cmp_takeLongestMove_72 ?_
  obtain ⟨o1, h⟩ := h
  obtain ⟨o2, h⟩ := h
  obtain ⟨ht, hf⟩ := h
  refine Aw.icmp_ge (tgt := 105) o1 o2 (by decide) d_Cmp_takeLongestMove_73 (fun c16 => ?_) (fun c16 => ?_)
  · have h := ht c16
    refine Aw.iload_n rfl d_Cmp_takeLongestMove_105 ?_
    obtain ⟨ht, hf⟩ := h
    refine Aw.if_le (tgt := 113) o2 (by decide) d_Cmp_takeLongestMove_106 (fun c3 => ?_) (fun c3 => ?_)
    · have h := ht c3
      refine Aw.iconst d_Cmp_takeLongestMove_113 ?_
      exact h
    · have h := hf c3
      refine Aw.iconst d_Cmp_takeLongestMove_109 ?_
      refine Aw.goto (tgt := 114) (by decide) d_Cmp_takeLongestMove_110 ?_
      exact h
  · have h := hf c16
    refine Aw.aload_n rfl d_Cmp_takeLongestMove_76 ?_
    obtain ⟨o4, h⟩ := h
    obtain ⟨b5, e6, h⟩ := h
    refine Aw.getRs (f := 67) 1 3 fl_Cmp_22 (by decide) (by decide) rfl rfl o4 e6 d_Cmp_takeLongestMove_77 ?_
    refine Aw.iload_n rfl d_Cmp_takeLongestMove_80 ?_
    refine Aw.iload rfl d_Cmp_takeLongestMove_81 ?_
    refine Aw.iadd d_Cmp_takeLongestMove_83 ?_
    refine Aw.iload_n rfl d_Cmp_takeLongestMove_84 ?_
    refine Aw.iload rfl d_Cmp_takeLongestMove_85 ?_
    refine Aw.iadd d_Cmp_takeLongestMove_87 ?_
    obtain ⟨o7, h⟩ := h
    obtain ⟨o8, o9, h⟩ := h
    obtain ⟨o10, h⟩ := h
    refine Aw.iast o7 o8 o9 o10 d_Cmp_takeLongestMove_88 ?_
    refine Aw.aload_n rfl d_Cmp_takeLongestMove_89 ?_
    obtain ⟨b11, e12, h⟩ := h
    refine Aw.getRs (f := 68) 1 4 fl_Cmp_25 (by decide) (by decide) rfl rfl o4 e12 d_Cmp_takeLongestMove_90 ?_
    refine Aw.iload_n rfl d_Cmp_takeLongestMove_93 ?_
    refine Aw.iload rfl d_Cmp_takeLongestMove_94 ?_
    refine Aw.iadd d_Cmp_takeLongestMove_96 ?_
    refine Aw.iconst d_Cmp_takeLongestMove_97 ?_
    obtain ⟨o13, h⟩ := h
    obtain ⟨o14, o15, h⟩ := h
    refine Aw.zast o13 o14 o15 (by decide) d_Cmp_takeLongestMove_98 ?_
    refine Aw.iinc rfl d_Cmp_takeLongestMove_99 ?_
    refine Aw.toL (L' := [xr (some a0), xi v1, xi v2, xi v3, xi (v4 + 1), xu, xu]) rfl ?_
    refine Aw.goto (tgt := 70) (by decide) d_Cmp_takeLongestMove_102 ?_
    exact h
theorem c_Cmp_takeLongestMove_35 {Ω : Om} {R R' : Room} {F : QF} {k n : Nat} {L st : List PV} {σ : Sto} {QX' : String → Sto → Prop} {Q : Int → Sto → Prop} {a : Nat} {x0 : Int} {x1 : Int} (hc : MC Ω M_Cmp_moveLength R' (RI Q) QX' σ [xr (some a), xi x0, xi x1]) (hk : sK σ a = 2) (hr1 : R'.frames + 1 ≤ R.frames) (hr2 : 8 + (6 + 11) + R'.locals ≤ R.locals) (hb1 : k + R'.cells ≤ R.cells) (hb2 : n + R'.slots ≤ R.slots) (hst : (st.map catP).sum ≤ 8) (kk : ∀ x σ', Q x σ' → Aw Ω M_Cmp_takeLongestMove R F (k + R'.cells) (n + R'.slots) 38 L (xi x :: st) σ') (kx : ∀ E σ', QX' E σ' → Ax Ω M_Cmp_takeLongestMove R F (k + R'.cells) (n + R'.slots) 35 L st σ' E) : Aw Ω M_Cmp_takeLongestMove R F k n 35 L (xi x1 :: xi x0 :: xr (some a) :: st) σ :=
  Aw.callV (As := [xi x0, xi x1]) (stk := xi x1 :: xi x0 :: xr (some a) :: st) (nn := 2) 1 M_Cmp_moveLength hc ok_Cmp_moveLength rfl (by decide) rfl hk ml_Cmp_83 im_Cmp_moveLength se_Cmp_moveLength ⟨hr1, hr2⟩ rfl ⟨hb1, hb2⟩ hst rfl d_Cmp_takeLongestMove_35 (fun r σ' h => by obtain ⟨x, rfl, h⟩ := h; exact kk x σ' h) kx
theorem r_Cmp_takeLongestMove_114 {Ω : Om} {R : Room} {k n : Nat} {L : List PV} {σ : Sto} {QR : Option PV → Sto → Prop} {QX : String → Sto → Prop} {x : Int} (hx : x = 0 ∨ x = 1) (h : QR (some (xi x)) σ) (h1 : k ≤ R.cells) (h2 : n ≤ R.slots) : Aw Ω M_Cmp_takeLongestMove R (MF Ω R QR QX) k n 114 L [xi x] σ := Aw.zret rfl hx h h1 h2 d_Cmp_takeLongestMove_114
theorem e_Cmp_walk {Ω : Om} {R : Room} {QR : Option PV → Sto → Prop} {QX : String → Sto → Prop} {σ : Sto} {a0 : Nat} (h : Aw Ω M_Cmp_walk R (MF Ω R QR QX) 0 0 0 [xr (some a0), xu, xu] [] σ) : MC Ω M_Cmp_walk R QR QX σ [xr (some a0)] := MC.body (by decide +kernel) rfl (Nat.le_of_ble_eq_true rfl) rfl h
theorem b_Cmp_walk_0 {Ω : Om} {R : Room} {F : QF} {k n : Nat} {σ : Sto} {a0 : Nat} (h : Aw Ω M_Cmp_walk R F k n 2 [xr (some a0), xi 0, xu] [] σ) : Aw Ω M_Cmp_walk R F k n 0 [xr (some a0), xu, xu] [] σ := by
  refine Aw.iconst d_Cmp_walk_0 ?_
  refine Aw.istore_n (by decide) d_Cmp_walk_1 ?_
  refine Aw.toL (L' := [xr (some a0), xi 0, xu]) rfl ?_
  exact h
theorem b_Cmp_walk_2 {Ω : Om} {R : Room} {F : QF} {k n : Nat} {σ : Sto} {a0 : Nat} {v1 : Int} (h : Q32 v1 ∧ (((20 : Int) ≤ v1 → sK σ a0 = 2 ∧ Aw Ω M_Cmp_walk R F k n 56 [xr (some a0), xi 0, xi 0] [] (uI σ 72 a0 0)) ∧ (¬ (20 : Int) ≤ v1 → sK σ a0 = 2 ∧ (∃ b4 : Nat, fR σ 66 a0 = some b4 ∧ sK σ b4 = 50 ∧ 0 ≤ v1 ∧ v1 < sZ σ b4 ∧ (∃ b9 : Nat, fR σ 67 a0 = some b9 ∧ sK σ b9 = 50 ∧ 0 ≤ v1 ∧ v1 < sZ σ b9 ∧ (∃ b14 : Nat, fR σ 68 a0 = some b14 ∧ (Q32 (fI σ 71 a0) → (((fI σ 71 a0) ≤ v1 → sK σ b14 = 52 ∧ 0 ≤ v1 ∧ v1 < sZ σ b14 ∧ Aw Ω M_Cmp_walk R F k n 2 [xr (some a0), xi (v1 + 1), xu] [] (vI (vI (vI σ b4 (v1).toNat (-1)) b9 (v1).toNat (-1)) b14 (v1).toNat 0)) ∧ (¬ (fI σ 71 a0) ≤ v1 → sK σ b14 = 52 ∧ 0 ≤ v1 ∧ v1 < sZ σ b14 ∧ Aw Ω M_Cmp_walk R F k n 2 [xr (some a0), xi (v1 + 1), xu] [] (vI (vI (vI σ b4 (v1).toNat (-1)) b9 (v1).toNat (-1)) b14 (v1).toNat 1)))))))))) : Aw Ω M_Cmp_walk R F k n 2 [xr (some a0), xi v1, xu] [] σ := by
  refine Aw.iload_n rfl d_Cmp_walk_2 ?_
  refine Aw.bipush (by decide) d_Cmp_walk_3 ?_
  obtain ⟨o1, h⟩ := h
  obtain ⟨ht, hf⟩ := h
  refine Aw.icmp_ge (tgt := 47) o1 ⟨by decide, by decide⟩ (by decide) d_Cmp_walk_5 (fun c24 => ?_) (fun c24 => ?_)
  · have h := ht c24
    refine Aw.aload_n rfl d_Cmp_walk_47 ?_
    refine Aw.iconst d_Cmp_walk_48 ?_
    obtain ⟨o2, h⟩ := h
    refine Aw.putI (f := 72) 1 8 fl_Cmp_41 (by decide) (by decide) rfl rfl o2 rfl ⟨by decide, by decide⟩ (Or.inl rfl) d_Cmp_walk_49 ?_
    refine Aw.iconst d_Cmp_walk_52 ?_
    refine Aw.istore_n (by decide) d_Cmp_walk_53 ?_
    refine Aw.toL (L' := [xr (some a0), xi 0, xu]) rfl ?_
    refine Aw.iconst d_Cmp_walk_54 ?_
    refine Aw.istore_n (by decide) d_Cmp_walk_55 ?_
    refine Aw.toL (L' := [xr (some a0), xi 0, xi 0]) rfl ?_
    exact h
  · have h := hf c24
    refine Aw.aload_n rfl d_Cmp_walk_8 ?_
    obtain ⟨o3, h⟩ := h
    obtain ⟨b4, e5, h⟩ := h
    refine Aw.getRs (f := 66) 1 2 fl_Cmp_18 (by decide) (by decide) rfl rfl o3 e5 d_Cmp_walk_9 ?_
    refine Aw.iload_n rfl d_Cmp_walk_12 ?_
    refine Aw.iconst d_Cmp_walk_13 ?_
    obtain ⟨o6, h⟩ := h
    obtain ⟨o7, o8, h⟩ := h
    refine Aw.iast o6 o7 o8 ⟨by decide, by decide⟩ d_Cmp_walk_14 ?_
    refine Aw.aload_n rfl d_Cmp_walk_15 ?_
    obtain ⟨b9, e10, h⟩ := h
    refine Aw.getRs (f := 67) 1 3 fl_Cmp_22 (by decide) (by decide) rfl rfl o3 e10 d_Cmp_walk_16 ?_
    refine Aw.iload_n rfl d_Cmp_walk_19 ?_
    refine Aw.iconst d_Cmp_walk_20 ?_
    obtain ⟨o11, h⟩ := h
    obtain ⟨o12, o13, h⟩ := h
    refine Aw.iast o11 o12 o13 ⟨by decide, by decide⟩ d_Cmp_walk_21 ?_
    refine Aw.aload_n rfl d_Cmp_walk_22 ?_
    obtain ⟨b14, e15, h⟩ := h
    refine Aw.getRs (f := 68) 1 4 fl_Cmp_25 (by decide) (by decide) rfl rfl o3 e15 d_Cmp_walk_23 ?_
    refine Aw.iload_n rfl d_Cmp_walk_26 ?_
    refine Aw.iload_n rfl d_Cmp_walk_27 ?_
    refine Aw.aload_n rfl d_Cmp_walk_28 ?_
    refine Aw.getI (f := 71) 1 7 fl_Cmp_38 (by decide) (by decide) rfl rfl o3 d_Cmp_walk_29 (fun r16 => ?_)
    have h := h r16
    obtain ⟨ht, hf⟩ := h
    refine Aw.icmp_ge (tgt := 39) o1 r16 (by decide) d_Cmp_walk_32 (fun c23 => ?_) (fun c23 => ?_)
    · have h := ht c23
      refine Aw.iconst d_Cmp_walk_39 ?_
      obtain ⟨o17, h⟩ := h
      obtain ⟨o18, o19, h⟩ := h
      refine Aw.zast o17 o18 o19 (by decide) d_Cmp_walk_40 ?_
      refine Aw.iinc rfl d_Cmp_walk_41 ?_
      refine Aw.toL (L' := [xr (some a0), xi (v1 + 1), xu]) rfl ?_
      refine Aw.goto (tgt := 2) (by decide) d_Cmp_walk_44 ?_
      exact h
    · have h := hf c23
      refine Aw.iconst d_Cmp_walk_35 ?_
      refine Aw.goto (tgt := 40) (by decide) d_Cmp_walk_36 ?_
      obtain ⟨o20, h⟩ := h
      obtain ⟨o21, o22, h⟩ := h
      refine Aw.zast o20 o21 o22 (by decide) d_Cmp_walk_40 ?_
      refine Aw.iinc rfl d_Cmp_walk_41 ?_
      refine Aw.toL (L' := [xr (some a0), xi (v1 + 1), xu]) rfl ?_
      refine Aw.goto (tgt := 2) (by decide) d_Cmp_walk_44 ?_
      exact h
theorem b_Cmp_walk_56 {Ω : Om} {R : Room} {F : QF} {k n : Nat} {σ : Sto} {a0 : Nat} {v1 : Int} {v2 : Int} (h : sK σ a0 = 2 ∧ (Q32 (fI σ 70 a0) → Q32 v1 ∧ (((fI σ 70 a0) ≤ v1 → Aw Ω M_Cmp_walk R F k n 154 [xr (some a0), xi v1, xi v2] [] σ) ∧ (¬ (fI σ 70 a0) ≤ v1 → (Q32 (fI σ 71 a0) → Q32 v2 ∧ (((fI σ 71 a0) ≤ v2 → Aw Ω M_Cmp_walk R F k n 154 [xr (some a0), xi v1, xi v2] [] σ) ∧ (¬ (fI σ 71 a0) ≤ v2 → (∃ b6 : Nat, fR σ 64 a0 = some b6 ∧ sK σ b6 = 51 ∧ 0 ≤ v1 ∧ v1 < sZ σ b6 ∧ (∃ b11 : Nat, fR σ 65 a0 = some b11 ∧ sK σ b11 = 51 ∧ 0 ≤ v2 ∧ v2 < sZ σ b11 ∧ Q32 (cmpL (aL σ b6 (v1).toNat) (aL σ b11 (v2).toNat)) ∧ ((¬ (cmpL (aL σ b6 (v1).toNat) (aL σ b11 (v2).toNat)) = (0 : Int) → (∃ b17 : Nat, fR σ 69 a0 = some b17 ∧ sK σ b17 = 53 ∧ 0 ≤ (v1 + 1) ∧ (v1 + 1) < sZ σ b17 ∧ ∃ b22 : Nat, aR σ b17 (v1 + 1).toNat = some b22 ∧ sK σ b22 = 50 ∧ 0 ≤ v2 ∧ v2 < sZ σ b22 ∧ (Q32 (aI σ b22 (v2).toNat) → 0 ≤ v1 ∧ v1 < sZ σ b17 ∧ ∃ b30 : Nat, aR σ b17 (v1).toNat = some b30 ∧ sK σ b30 = 50 ∧ 0 ≤ v2 ∧ v2 < sZ σ b30 ∧ (Q32 (aI σ b30 (v2).toNat) → (((aI σ b22 (v2).toNat) < (aI σ b30 (v2).toNat) → Aw Ω M_Cmp_walk R F k n 56 [xr (some a0), xi v1, xi (v2 + 1)] [] σ) ∧ (¬ (aI σ b22 (v2).toNat) < (aI σ b30 (v2).toNat) → Aw Ω M_Cmp_walk R F k n 56 [xr (some a0), xi (v1 + 1), xi v2] [] σ)))))) ∧ ((cmpL (aL σ b6 (v1).toNat) (aL σ b11 (v2).toNat)) = (0 : Int) → (∃ b37 : Nat, fR σ 66 a0 = some b37 ∧ sK σ b37 = 50 ∧ 0 ≤ v1 ∧ v1 < sZ σ b37 ∧ (∃ b42 : Nat, fR σ 68 a0 = some b42 ∧ sK σ b42 = 52 ∧ 0 ≤ v2 ∧ v2 < sZ σ b42 ∧ (Q32 (fI σ 72 a0) → Q32 ((fI σ 72 a0) + 1) ∧ Aw Ω M_Cmp_walk R F k n 56 [xr (some a0), xi (v1 + 1), xi (v2 + 1)] [] (uI (vI (vI σ b37 (v1).toNat v2) b42 (v2).toNat 0) 72 a0 ((fI σ 72 a0) + 1)))))))))))))))) : Aw Ω M_Cmp_walk R F k n 56 [xr (some a0), xi v1, xi v2] [] σ := by
  refine Aw.iload_n rfl d_Cmp_walk_56 ?_
  refine Aw.aload_n rfl d_Cmp_walk_57 ?_
  obtain ⟨o1, h⟩ := h
  refine Aw.getI (f := 70) 1 6 fl_Cmp_34 (by decide) (by decide) rfl rfl o1 d_Cmp_walk_58 (fun r2 => ?_)
  have h := h r2
  obtain ⟨o3, h⟩ := h
  obtain ⟨ht, hf⟩ := h
  refine Aw.icmp_ge (tgt := 154) o3 r2 (by decide) d_Cmp_walk_61 (fun c51 => ?_) (fun c51 => ?_)
  · have h := ht c51
    exact h
  · have h := hf c51
    refine Aw.iload_n rfl d_Cmp_walk_64 ?_
    refine Aw.aload_n rfl d_Cmp_walk_65 ?_
    refine Aw.getI (f := 71) 1 7 fl_Cmp_38 (by decide) (by decide) rfl rfl o1 d_Cmp_walk_66 (fun r4 => ?_)
    have h := h r4
    obtain ⟨o5, h⟩ := h
    obtain ⟨ht, hf⟩ := h
    refine Aw.icmp_ge (tgt := 154) o5 r4 (by decide) d_Cmp_walk_69 (fun c50 => ?_) (fun c50 => ?_)
    · have h := ht c50
      exact h
    · have h := hf c50
      refine Aw.aload_n rfl d_Cmp_walk_72 ?_
      obtain ⟨b6, e7, h⟩ := h
      refine Aw.getRs (f := 64) 1 0 fl_Cmp_9 (by decide) (by decide) rfl rfl o1 e7 d_Cmp_walk_73 ?_
      refine Aw.iload_n rfl d_Cmp_walk_76 ?_
      obtain ⟨o8, h⟩ := h
      obtain ⟨o9, o10, h⟩ := h
      refine Aw.lald o8 o9 o10 d_Cmp_walk_77 ?_
      refine Aw.aload_n rfl d_Cmp_walk_78 ?_
      obtain ⟨b11, e12, h⟩ := h
      refine Aw.getRs (f := 65) 1 1 fl_Cmp_15 (by decide) (by decide) rfl rfl o1 e12 d_Cmp_walk_79 ?_
      refine Aw.iload_n rfl d_Cmp_walk_82 ?_
      obtain ⟨o13, h⟩ := h
      obtain ⟨o14, o15, h⟩ := h
      refine Aw.lald o13 o14 o15 d_Cmp_walk_83 ?_
      refine Aw.lcmp d_Cmp_walk_84 ?_
      obtain ⟨o16, h⟩ := h
      obtain ⟨ht, hf⟩ := h
      refine Aw.if_ne (tgt := 121) o16 (by decide) d_Cmp_walk_85 (fun c49 => ?_) (fun c49 => ?_)
      · have h := ht c49
        refine Aw.aload_n rfl d_Cmp_walk_121 ?_
        obtain ⟨b17, e18, h⟩ := h
        refine Aw.getRs (f := 69) 1 5 fl_Cmp_31 (by decide) (by decide) rfl rfl o1 e18 d_Cmp_walk_122 ?_
        refine Aw.iload_n rfl d_Cmp_walk_125 ?_
        refine Aw.iconst d_Cmp_walk_126 ?_
        refine Aw.iadd d_Cmp_walk_127 ?_
        obtain ⟨o19, h⟩ := h
        obtain ⟨o20, o21, h⟩ := h
        refine Aw.aald 3 (by decide) (by decide) o19 o20 o21 d_Cmp_walk_128 ?_
        refine Aw.iload_n rfl d_Cmp_walk_129 ?_
        obtain ⟨b22, e23, h⟩ := h
        refine Aw.der1 e23 ?_
        obtain ⟨o24, h⟩ := h
        obtain ⟨o25, o26, h⟩ := h
        refine Aw.iald o24 o25 o26 d_Cmp_walk_130 (fun r27 => ?_)
        have h := h r27
        refine Aw.aload_n rfl d_Cmp_walk_131 ?_
        refine Aw.getRs (f := 69) 1 5 fl_Cmp_31 (by decide) (by decide) rfl rfl o1 e18 d_Cmp_walk_132 ?_
        refine Aw.iload_n rfl d_Cmp_walk_135 ?_
        obtain ⟨o28, o29, h⟩ := h
        refine Aw.aald 3 (by decide) (by decide) o19 o28 o29 d_Cmp_walk_136 ?_
        refine Aw.iload_n rfl d_Cmp_walk_137 ?_
        obtain ⟨b30, e31, h⟩ := h
        refine Aw.der1 e31 ?_
        obtain ⟨o32, h⟩ := h
        obtain ⟨o33, o34, h⟩ := h
        refine Aw.iald o32 o33 o34 d_Cmp_walk_138 (fun r35 => ?_)
        have h := h r35
        obtain ⟨ht, hf⟩ := h
        refine Aw.icmp_lt (tgt := 148) r27 r35 (by decide) d_Cmp_walk_139 (fun c36 => ?_) (fun c36 => ?_)
        · have h := ht c36
          refine Aw.iinc rfl d_Cmp_walk_148 ?_
          refine Aw.toL (L' := [xr (some a0), xi v1, xi (v2 + 1)]) rfl ?_
          refine Aw.goto (tgt := 56) (by decide) d_Cmp_walk_151 ?_
          exact h
        · have h := hf c36
          refine Aw.iinc rfl d_Cmp_walk_142 ?_
          refine Aw.toL (L' := [xr (some a0), xi (v1 + 1), xi v2]) rfl ?_
          refine Aw.goto (tgt := 56) (by decide) d_Cmp_walk_145 ?_
          exact h
      · have h := hf c49
        refine Aw.aload_n rfl d_Cmp_walk_88 ?_
        obtain ⟨b37, e38, h⟩ := h
        refine Aw.getRs (f := 66) 1 2 fl_Cmp_18 (by decide) (by decide) rfl rfl o1 e38 d_Cmp_walk_89 ?_
        refine Aw.iload_n rfl d_Cmp_walk_92 ?_
        refine Aw.iload_n rfl d_Cmp_walk_93 ?_
        obtain ⟨o39, h⟩ := h
        obtain ⟨o40, o41, h⟩ := h
        refine Aw.iast o39 o40 o41 o5 d_Cmp_walk_94 ?_
        refine Aw.aload_n rfl d_Cmp_walk_95 ?_
        obtain ⟨b42, e43, h⟩ := h
        refine Aw.getRs (f := 68) 1 4 fl_Cmp_25 (by decide) (by decide) rfl rfl o1 e43 d_Cmp_walk_96 ?_
        refine Aw.iload_n rfl d_Cmp_walk_99 ?_
        refine Aw.iconst d_Cmp_walk_100 ?_
        obtain ⟨o44, h⟩ := h
        obtain ⟨o45, o46, h⟩ := h
        refine Aw.zast o44 o45 o46 (by decide) d_Cmp_walk_101 ?_
        refine Aw.aload_n rfl d_Cmp_walk_102 ?_
        refine Aw.dup rfl d_Cmp_walk_103 ?_
        refine Aw.getI (f := 72) 1 8 fl_Cmp_41 (by decide) (by decide) rfl rfl o1 d_Cmp_walk_104 (fun r47 => ?_)
        have h := h r47
        refine Aw.iconst d_Cmp_walk_107 ?_
        refine Aw.iadd d_Cmp_walk_108 ?_
        obtain ⟨o48, h⟩ := h
        refine Aw.putI (f := 72) 1 8 fl_Cmp_41 (by decide) (by decide) rfl rfl o1 rfl o48 (Or.inl rfl) d_Cmp_walk_109 ?_
        refine Aw.iinc rfl d_Cmp_walk_112 ?_
        refine Aw.toL (L' := [xr (some a0), xi (v1 + 1), xi v2]) rfl ?_
        refine Aw.iinc rfl d_Cmp_walk_115 ?_
        refine Aw.toL (L' := [xr (some a0), xi (v1 + 1), xi (v2 + 1)]) rfl ?_
        refine Aw.goto (tgt := 56) (by decide) d_Cmp_walk_118 ?_
        exact h
theorem r_Cmp_walk_154 {Ω : Om} {R : Room} {k n : Nat} {L : List PV} {σ : Sto} {QR : Option PV → Sto → Prop} {QX : String → Sto → Prop} (h : QR none σ) (h1 : k ≤ R.cells) (h2 : n ≤ R.slots) : Aw Ω M_Cmp_walk R (MF Ω R QR QX) k n 154 L [] σ := Aw.vret rfl h h1 h2 d_Cmp_walk_154
