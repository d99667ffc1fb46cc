/-! walks of the reference, 2 (by program) -/
theorem e_Mdl_pair {Ω : Om} {R : Room} {QR : Option PV → Sto → Prop} {QX : String → Sto → Prop} {σ : Sto} {a0 : Nat} {v1 : Int} {v2 : Int} {v3 : Int} (h : Aw Ω M_Mdl_pair R (MF Ω R QR QX) 0 0 0 [xr (some a0), xi v1, xi v2, xi v3, xu, xu, xu, xu, xu, xu, xu] [] σ) : MC Ω M_Mdl_pair R QR QX σ [xr (some a0), xi v1, xi v2, xi v3] := MC.body (by decide +kernel) rfl (Nat.le_of_ble_eq_true rfl) rfl h
theorem b_Mdl_pair_0 {Ω : Om} {R : Room} {F : QF} {k n : Nat} {σ : Sto} {a0 : Nat} {v1 : Int} {v2 : Int} {v3 : Int} (h : sK σ a0 = 13 ∧ (∃ b2 : Nat, fR σ 774 a0 = some b2 ∧ sK σ b2 = 50 ∧ 0 ≤ v1 ∧ v1 < sZ σ b2 ∧ (Q32 (aI σ b2 (v1).toNat) → 0 ≤ v2 ∧ v2 < sZ σ b2 ∧ (Q32 (aI σ b2 (v2).toNat) → Aw Ω M_Mdl_pair R F k n 20 [xr (some a0), xi v1, xi v2, xi v3, xi (aI σ b2 (v1).toNat), xi (aI σ b2 (v2).toNat), xi (aI σ b2 (v1).toNat), xu, xu, xu, xu] [] σ)))) : Aw Ω M_Mdl_pair R F k n 0 [xr (some a0), xi v1, xi v2, xi v3, xu, xu, xu, xu, xu, xu, xu] [] σ := by
  refine Aw.aload_n rfl d_Mdl_pair_0 ?_
  obtain ⟨o1, h⟩ := h
  obtain ⟨b2, e3, h⟩ := h
  refine Aw.getRs (f := 774) 12 6 fl_Mdl_20 (by decide) (by decide) rfl rfl o1 e3 d_Mdl_pair_1 ?_
  refine Aw.iload_n rfl d_Mdl_pair_4 ?_
  obtain ⟨o4, h⟩ := h
  obtain ⟨o5, o6, h⟩ := h
  refine Aw.iald o4 o5 o6 d_Mdl_pair_5 (fun r7 => ?_)
  have h := h r7
  refine Aw.istore (by decide) d_Mdl_pair_6 ?_
  refine Aw.toL (L' := [xr (some a0), xi v1, xi v2, xi v3, xi (aI σ b2 (v1).toNat), xu, xu, xu, xu, xu, xu]) rfl ?_
  refine Aw.aload_n rfl d_Mdl_pair_8 ?_
  refine Aw.getRs (f := 774) 12 6 fl_Mdl_20 (by decide) (by decide) rfl rfl o1 e3 d_Mdl_pair_9 ?_
  refine Aw.iload_n rfl d_Mdl_pair_12 ?_
  obtain ⟨o8, o9, h⟩ := h
  refine Aw.iald o4 o8 o9 d_Mdl_pair_13 (fun r10 => ?_)
  have h := h r10
  refine Aw.istore (by decide) d_Mdl_pair_14 ?_
  refine Aw.toL (L' := [xr (some a0), xi v1, xi v2, xi v3, xi (aI σ b2 (v1).toNat), xi (aI σ b2 (v2).toNat), xu, xu, xu, xu, xu]) rfl ?_
  refine Aw.iload rfl d_Mdl_pair_16 ?_
  refine Aw.istore (by decide) d_Mdl_pair_18 ?_
  refine Aw.toL (L' := [xr (some a0), xi v1, xi v2, xi v3, xi (aI σ b2 (v1).toNat), xi (aI σ b2 (v2).toNat), xi (aI σ b2 (v1).toNat), xu, xu, xu, xu]) rfl ?_
  exact h
theorem b_Mdl_pair_20 {Ω : Om} {R : Room} {F : QF} {k n : Nat} {σ : Sto} {a0 : Nat} {v1 : Int} {v2 : Int} {v3 : Int} {v4 : Int} {v5 : Int} {v6 : Int} (h : Q32 v6 ∧ ((v6 < (0 : Int) → Aw Ω M_Mdl_pair R F k n 239 [xr (some a0), xi v1, xi v2, xi v3, xi v4, xi v5, xi 0, xi 0, xi 0, xu, xu] [] σ) ∧ (¬ v6 < (0 : Int) → Aw Ω M_Mdl_pair R F k n 29 [xr (some a0), xi v1, xi v2, xi v3, xi v4, xi v5, xi v6, xi v5, xu, xu, xu] [] σ))) : Aw Ω M_Mdl_pair R F k n 20 [xr (some a0), xi v1, xi v2, xi v3, xi v4, xi v5, xi v6, xu, xu, xu, xu] [] σ := by
  refine Aw.iload rfl d_Mdl_pair_20 ?_
  obtain ⟨o1, h⟩ := h
  obtain ⟨ht, hf⟩ := h
  refine Aw.if_lt (tgt := 230) o1 (by decide) d_Mdl_pair_22 (fun c2 => ?_) (fun c2 => ?_)
  · have h := ht c2
    refine Aw.iconst d_Mdl_pair_230 ?_
    refine Aw.istore (by decide) d_Mdl_pair_231 ?_
    refine Aw.toL (L' := [xr (some a0), xi v1, xi v2, xi v3, xi v4, xi v5, xi 0, xu, xu, xu, xu]) rfl ?_
    refine Aw.iconst d_Mdl_pair_233 ?_
    refine Aw.istore (by decide) d_Mdl_pair_234 ?_
    refine Aw.toL (L' := [xr (some a0), xi v1, xi v2, xi v3, xi v4, xi v5, xi 0, xi 0, xu, xu, xu]) rfl ?_
    refine Aw.iconst d_Mdl_pair_236 ?_
    refine Aw.istore (by decide) d_Mdl_pair_237 ?_
    refine Aw.toL (L' := [xr (some a0), xi v1, xi v2, xi v3, xi v4, xi v5, xi 0, xi 0, xi 0, xu, xu]) rfl ?_
    exact h
  · have h := hf c2
    refine Aw.iload rfl d_Mdl_pair_25 ?_
    refine Aw.istore (by decide) d_Mdl_pair_27 ?_
    refine Aw.toL (L' := [xr (some a0), xi v1, xi v2, xi v3, xi v4, xi v5, xi v6, xi v5, xu, xu, xu]) rfl ?_
    exact h
theorem b_Mdl_pair_29 {Ω : Om} {R : Room} {F : QF} {k n : Nat} {σ : Sto} {a0 : Nat} {v1 : Int} {v2 : Int} {v3 : Int} {v4 : Int} {v5 : Int} {v6 : Int} {v7 : Int} (h : Q32 v7 ∧ ((v7 < (0 : Int) → Aw Ω M_Mdl_pair R F k n 20 [xr (some a0), xi v1, xi v2, xi v3, xi v4, xi v5, xi (v6 + (-1)), xu, xu, xu, xu] [] σ) ∧ (¬ v7 < (0 : Int) → Q32 v6 ∧ Q32 v4 ∧ ((v6 = v4 → Aw Ω M_Mdl_pair R F k n 48 [xr (some a0), xi v1, xi v2, xi v3, xi v4, xi v5, xi v6, xi v7, xu, xu, xu] [] σ) ∧ (¬ v6 = v4 → Q32 v5 ∧ ((¬ v7 = v5 → Aw Ω M_Mdl_pair R F k n 53 [xr (some a0), xi v1, xi v2, xi v3, xi v4, xi v5, xi v6, xi v7, xu, xu, xu] [xi 0] σ) ∧ (v7 = v5 → Aw Ω M_Mdl_pair R F k n 48 [xr (some a0), xi v1, xi v2, xi v3, xi v4, xi v5, xi v6, xi v7, xu, xu, xu] [] σ))))))) : Aw Ω M_Mdl_pair R F k n 29 [xr (some a0), xi v1, xi v2, xi v3, xi v4, xi v5, xi v6, xi v7, xu, xu, xu] [] σ := by
  refine Aw.iload rfl d_Mdl_pair_29 ?_
  obtain ⟨o1, h⟩ := h
  obtain ⟨ht, hf⟩ := h
  refine Aw.if_lt (tgt := 224) o1 (by decide) d_Mdl_pair_31 (fun c7 => ?_) (fun c7 => ?_)
  · have h := ht c7
    refine Aw.iinc rfl d_Mdl_pair_224 ?_
    refine Aw.toL (L' := [xr (some a0), xi v1, xi v2, xi v3, xi v4, xi v5, xi (v6 + (-1)), xi v7, xu, xu, xu]) rfl ?_
    refine Aw.goto (tgt := 20) (by decide) d_Mdl_pair_227 ?_
    exact Aw.toW (L' := [xr (some a0), xi v1, xi v2, xi v3, xi v4, xi v5, xi (v6 + (-1)), xu, xu, xu, xu]) ⟨Or.inr rfl, Or.inr rfl, Or.inr rfl, Or.inr rfl, Or.inr rfl, Or.inr rfl, Or.inr rfl, Or.inl rfl, Or.inr rfl, Or.inr rfl, Or.inr rfl, trivial⟩ h
  · have h := hf c7
    refine Aw.iload rfl d_Mdl_pair_34 ?_
    refine Aw.iload rfl d_Mdl_pair_36 ?_
    obtain ⟨o2, h⟩ := h
    obtain ⟨o3, h⟩ := h
    obtain ⟨ht, hf⟩ := h
    refine Aw.icmp_eq (tgt := 48) o2 o3 (by decide) d_Mdl_pair_38 (fun c6 => ?_) (fun c6 => ?_)
    · have h := ht c6
      exact h
    · have h := hf c6
      refine Aw.iload rfl d_Mdl_pair_41 ?_
      refine Aw.iload rfl d_Mdl_pair_43 ?_
      obtain ⟨o4, h⟩ := h
      obtain ⟨ht, hf⟩ := h
      refine Aw.icmp_ne (tgt := 52) o1 o4 (by decide) d_Mdl_pair_45 (fun c5 => ?_) (fun c5 => ?_)
      · have h := ht c5
        refine Aw.iconst d_Mdl_pair_52 ?_
        exact h
      · have h := hf c5
        exact h
theorem b_Mdl_pair_48 {Ω : Om} {R : Room} {F : QF} {k n : Nat} {σ : Sto} {a0 : Nat} {v1 : Int} {v2 : Int} {v3 : Int} {v4 : Int} {v5 : Int} {v6 : Int} {v7 : Int} (h : sK σ a0 = 13 ∧ (∃ b2 : Nat, fR σ 812 a0 = some b2 ∧ sK σ b2 = 50 ∧ 0 ≤ ((21 * v6) + v7) ∧ ((21 * v6) + v7) < sZ σ b2 ∧ Aw Ω M_Mdl_pair R F k n 29 [xr (some a0), xi v1, xi v2, xi v3, xi v4, xi v5, xi v6, xi (v7 + (-1)), xu, xu, xu] [] (vI σ b2 ((21 * v6) + v7).toNat 0))) : Aw Ω M_Mdl_pair R F k n 48 [xr (some a0), xi v1, xi v2, xi v3, xi v4, xi v5, xi v6, xi v7, xu, xu, xu] [] σ := by
  refine Aw.iconst d_Mdl_pair_48 ?_
  refine Aw.goto (tgt := 53) (by decide) d_Mdl_pair_49 ?_
  refine Aw.istore (by decide) d_Mdl_pair_53 ?_
  refine Aw.toL (L' := [xr (some a0), xi v1, xi v2, xi v3, xi v4, xi v5, xi v6, xi v7, xi 1, xu, xu]) rfl ?_
  refine Aw.iload rfl d_Mdl_pair_55 ?_
  refine Aw.if_eq (tgt := 64) ⟨by decide, by decide⟩ (by decide) d_Mdl_pair_57 (fun c9 => absurd c9 (by decide)) (fun c9 => ?_)
  refine Aw.iconst d_Mdl_pair_60 ?_
  refine Aw.goto (tgt := 130) (by decide) d_Mdl_pair_61 ?_
  refine Aw.istore (by decide) d_Mdl_pair_130 ?_
  refine Aw.toL (L' := [xr (some a0), xi v1, xi v2, xi v3, xi v4, xi v5, xi v6, xi v7, xi 1, xi 0, xu]) rfl ?_
  refine Aw.iload rfl d_Mdl_pair_132 ?_
  refine Aw.if_ne (tgt := 173) ⟨by decide, by decide⟩ (by decide) d_Mdl_pair_134 (fun c8 => ?_) (fun c8 => absurd c8 (by decide))
  refine Aw.iconst d_Mdl_pair_173 ?_
  refine Aw.istore (by decide) d_Mdl_pair_174 ?_
  refine Aw.toL (L' := [xr (some a0), xi v1, xi v2, xi v3, xi v4, xi v5, xi v6, xi v7, xi 1, xi 0, xi 0]) rfl ?_
  refine Aw.aload_n rfl d_Mdl_pair_176 ?_
  obtain ⟨o1, h⟩ := h
  obtain ⟨b2, e3, h⟩ := h
  refine Aw.getRs (f := 812) 12 44 fl_Mdl_96 (by decide) (by decide) rfl rfl o1 e3 d_Mdl_pair_177 ?_
  refine Aw.bipush (by decide) d_Mdl_pair_180 ?_
  refine Aw.iload rfl d_Mdl_pair_182 ?_
  refine Aw.imul d_Mdl_pair_184 ?_
  refine Aw.iload rfl d_Mdl_pair_185 ?_
  refine Aw.iadd d_Mdl_pair_187 ?_
  refine Aw.iload rfl d_Mdl_pair_188 ?_
  refine Aw.if_eq (tgt := 215) ⟨by decide, by decide⟩ (by decide) d_Mdl_pair_190 (fun c7 => ?_) (fun c7 => absurd c7 (by decide))
  refine Aw.iload rfl d_Mdl_pair_215 ?_
  obtain ⟨o4, h⟩ := h
  obtain ⟨o5, o6, h⟩ := h
  refine Aw.iast o4 o5 o6 ⟨by decide, by decide⟩ d_Mdl_pair_217 ?_
  refine Aw.iinc rfl d_Mdl_pair_218 ?_
  refine Aw.toL (L' := [xr (some a0), xi v1, xi v2, xi v3, xi v4, xi v5, xi v6, xi (v7 + (-1)), xi 1, xi 0, xi 0]) rfl ?_
  refine Aw.goto (tgt := 29) (by decide) d_Mdl_pair_221 ?_
  exact Aw.toW (L' := [xr (some a0), xi v1, xi v2, xi v3, xi v4, xi v5, xi v6, xi (v7 + (-1)), xu, xu, xu]) ⟨Or.inr rfl, Or.inr rfl, Or.inr rfl, Or.inr rfl, Or.inr rfl, Or.inr rfl, Or.inr rfl, Or.inr rfl, Or.inl rfl, Or.inl rfl, Or.inl rfl, trivial⟩ h
theorem b_Mdl_pair_53 {Ω : Om} {R : Room} {F : QF} {k n : Nat} {σ : Sto} {a0 : Nat} {v1 : Int} {v2 : Int} {v3 : Int} {v4 : Int} {v5 : Int} {v6 : Int} {v7 : Int} {s0 : Int} (h : Q32 s0 ∧ ((s0 = (0 : Int) → sK σ a0 = 13 ∧ (∃ b3 : Nat, fR σ 812 a0 = some b3 ∧ sK σ b3 = 50 ∧ 0 ≤ ((21 * (v6 + 1)) + v7) ∧ ((21 * (v6 + 1)) + v7) < sZ σ b3 ∧ (Q32 (aI σ b3 ((21 * (v6 + 1)) + v7).toNat) → 0 ≤ (((21 * v6) + v7) + 1) ∧ (((21 * v6) + v7) + 1) < sZ σ b3 ∧ (Q32 (aI σ b3 (((21 * v6) + v7) + 1).toNat) → (((aI σ b3 ((21 * (v6 + 1)) + v7).toNat) ≤ (aI σ b3 (((21 * v6) + v7) + 1).toNat) → (Q32 (aI σ b3 (((21 * v6) + v7) + 1).toNat) → ((¬ s0 = (0 : Int) → 0 ≤ ((21 * v6) + v7) ∧ ((21 * v6) + v7) < sZ σ b3 ∧ Aw Ω M_Mdl_pair R F k n 29 [xr (some a0), xi v1, xi v2, xi v3, xi v4, xi v5, xi v6, xi (v7 + (-1)), xu, xu, xu] [] (vI σ b3 ((21 * v6) + v7).toNat (aI σ b3 (((21 * v6) + v7) + 1).toNat))) ∧ (s0 = (0 : Int) → (∃ b16 : Nat, fR σ 775 a0 = some b16 ∧ sK σ b16 = 50 ∧ 0 ≤ ((20 * v1) + v6) ∧ ((20 * v1) + v6) < sZ σ b16 ∧ (Q32 (aI σ b16 ((20 * v1) + v6).toNat) → 0 ≤ ((20 * v2) + v7) ∧ ((20 * v2) + v7) < sZ σ b16 ∧ (Q32 (aI σ b16 ((20 * v2) + v7).toNat) → Aw Ω M_Mdl_pair R F k n 163 [xr (some a0), xi v1, xi v2, xi v3, xi v4, xi v5, xi v6, xi v7, xi s0, xi (aI σ b3 (((21 * v6) + v7) + 1).toNat), xu] [xi v3, xi (aI σ b16 ((20 * v2) + v7).toNat), xi (aI σ b16 ((20 * v1) + v6).toNat), xr (some a0)] σ))))))) ∧ (¬ (aI σ b3 ((21 * (v6 + 1)) + v7).toNat) ≤ (aI σ b3 (((21 * v6) + v7) + 1).toNat) → (Q32 (aI σ b3 ((21 * (v6 + 1)) + v7).toNat) → ((¬ s0 = (0 : Int) → 0 ≤ ((21 * v6) + v7) ∧ ((21 * v6) + v7) < sZ σ b3 ∧ Aw Ω M_Mdl_pair R F k n 29 [xr (some a0), xi v1, xi v2, xi v3, xi v4, xi v5, xi v6, xi (v7 + (-1)), xu, xu, xu] [] (vI σ b3 ((21 * v6) + v7).toNat (aI σ b3 ((21 * (v6 + 1)) + v7).toNat))) ∧ (s0 = (0 : Int) → (∃ b30 : Nat, fR σ 775 a0 = some b30 ∧ sK σ b30 = 50 ∧ 0 ≤ ((20 * v1) + v6) ∧ ((20 * v1) + v6) < sZ σ b30 ∧ (Q32 (aI σ b30 ((20 * v1) + v6).toNat) → 0 ≤ ((20 * v2) + v7) ∧ ((20 * v2) + v7) < sZ σ b30 ∧ (Q32 (aI σ b30 ((20 * v2) + v7).toNat) → Aw Ω M_Mdl_pair R F k n 163 [xr (some a0), xi v1, xi v2, xi v3, xi v4, xi v5, xi v6, xi v7, xi s0, xi (aI σ b3 ((21 * (v6 + 1)) + v7).toNat), xu] [xi v3, xi (aI σ b30 ((20 * v2) + v7).toNat), xi (aI σ b30 ((20 * v1) + v6).toNat), xr (some a0)] σ)))))))))))) ∧ (¬ s0 = (0 : Int) → ((¬ s0 = (0 : Int) → sK σ a0 = 13 ∧ (∃ b42 : Nat, fR σ 812 a0 = some b42 ∧ sK σ b42 = 50 ∧ 0 ≤ ((21 * v6) + v7) ∧ ((21 * v6) + v7) < sZ σ b42 ∧ Aw Ω M_Mdl_pair R F k n 29 [xr (some a0), xi v1, xi v2, xi v3, xi v4, xi v5, xi v6, xi (v7 + (-1)), xu, xu, xu] [] (vI σ b42 ((21 * v6) + v7).toNat 0))) ∧ (s0 = (0 : Int) → sK σ a0 = 13 ∧ (∃ b49 : Nat, fR σ 775 a0 = some b49 ∧ sK σ b49 = 50 ∧ 0 ≤ ((20 * v1) + v6) ∧ ((20 * v1) + v6) < sZ σ b49 ∧ (Q32 (aI σ b49 ((20 * v1) + v6).toNat) → 0 ≤ ((20 * v2) + v7) ∧ ((20 * v2) + v7) < sZ σ b49 ∧ (Q32 (aI σ b49 ((20 * v2) + v7).toNat) → Aw Ω M_Mdl_pair R F k n 163 [xr (some a0), xi v1, xi v2, xi v3, xi v4, xi v5, xi v6, xi v7, xi s0, xi 0, xu] [xi v3, xi (aI σ b49 ((20 * v2) + v7).toNat), xi (aI σ b49 ((20 * v1) + v6).toNat), xr (some a0)] σ)))))))) : Aw Ω M_Mdl_pair R F k n 53 [xr (some a0), xi v1, xi v2, xi v3, xi v4, xi v5, xi v6, xi v7, xu, xu, xu] [xi s0] σ := by
  refine Aw.istore (by decide) d_Mdl_pair_53 ?_
  refine Aw.toL (L' := [xr (some a0), xi v1, xi v2, xi v3, xi v4, xi v5, xi v6, xi v7, xi s0, xu, xu]) rfl ?_
  refine Aw.iload rfl d_Mdl_pair_55 ?_
  obtain ⟨o1, h⟩ := h
  obtain ⟨ht, hf⟩ := h
  refine Aw.if_eq (tgt := 64) o1 (by decide) d_Mdl_pair_57 (fun c59 => ?_) (fun c59 => ?_)
  · have h := ht c59
    refine Aw.aload_n rfl d_Mdl_pair_64 ?_
    obtain ⟨o2, h⟩ := h
    obtain ⟨b3, e4, h⟩ := h
    refine Aw.getRs (f := 812) 12 44 fl_Mdl_96 (by decide) (by decide) rfl rfl o2 e4 d_Mdl_pair_65 ?_
    refine Aw.bipush (by decide) d_Mdl_pair_68 ?_
    refine Aw.iload rfl d_Mdl_pair_70 ?_
    refine Aw.iconst d_Mdl_pair_72 ?_
    refine Aw.iadd d_Mdl_pair_73 ?_
    refine Aw.imul d_Mdl_pair_74 ?_
    refine Aw.iload rfl d_Mdl_pair_75 ?_
    refine Aw.iadd d_Mdl_pair_77 ?_
    obtain ⟨o5, h⟩ := h
    obtain ⟨o6, o7, h⟩ := h
    refine Aw.iald o5 o6 o7 d_Mdl_pair_78 (fun r8 => ?_)
    have h := h r8
    refine Aw.aload_n rfl d_Mdl_pair_79 ?_
    refine Aw.getRs (f := 812) 12 44 fl_Mdl_96 (by decide) (by decide) rfl rfl o2 e4 d_Mdl_pair_80 ?_
    refine Aw.bipush (by decide) d_Mdl_pair_83 ?_
    refine Aw.iload rfl d_Mdl_pair_85 ?_
    refine Aw.imul d_Mdl_pair_87 ?_
    refine Aw.iload rfl d_Mdl_pair_88 ?_
    refine Aw.iadd d_Mdl_pair_90 ?_
    refine Aw.iconst d_Mdl_pair_91 ?_
    refine Aw.iadd d_Mdl_pair_92 ?_
    obtain ⟨o9, o10, h⟩ := h
    refine Aw.iald o5 o9 o10 d_Mdl_pair_93 (fun r11 => ?_)
    have h := h r11
    obtain ⟨ht, hf⟩ := h
    refine Aw.icmp_le (tgt := 115) r8 r11 (by decide) d_Mdl_pair_94 (fun c40 => ?_) (fun c40 => ?_)
    · have h := ht c40
      refine Aw.aload_n rfl d_Mdl_pair_115 ?_
      refine Aw.getRs (f := 812) 12 44 fl_Mdl_96 (by decide) (by decide) rfl rfl o2 e4 d_Mdl_pair_116 ?_
      refine Aw.bipush (by decide) d_Mdl_pair_119 ?_
      refine Aw.iload rfl d_Mdl_pair_121 ?_
      refine Aw.imul d_Mdl_pair_123 ?_
      refine Aw.iload rfl d_Mdl_pair_124 ?_
      refine Aw.iadd d_Mdl_pair_126 ?_
      refine Aw.iconst d_Mdl_pair_127 ?_
      refine Aw.iadd d_Mdl_pair_128 ?_
      refine Aw.iald o5 o9 o10 d_Mdl_pair_129 (fun r12 => ?_)
      have h := h r12
      refine Aw.istore (by decide) d_Mdl_pair_130 ?_
      refine Aw.toL (L' := [xr (some a0), xi v1, xi v2, xi v3, xi v4, xi v5, xi v6, xi v7, xi s0, xi (aI σ b3 (((21 * v6) + v7) + 1).toNat), xu]) rfl ?_
      refine Aw.iload rfl d_Mdl_pair_132 ?_
      obtain ⟨ht, hf⟩ := h
      refine Aw.if_ne (tgt := 173) o1 (by decide) d_Mdl_pair_134 (fun c25 => ?_) (fun c25 => ?_)
      · have h := ht c25
        refine Aw.iconst d_Mdl_pair_173 ?_
        refine Aw.istore (by decide) d_Mdl_pair_174 ?_
        refine Aw.toL (L' := [xr (some a0), xi v1, xi v2, xi v3, xi v4, xi v5, xi v6, xi v7, xi s0, xi (aI σ b3 (((21 * v6) + v7) + 1).toNat), xi 0]) rfl ?_
        refine Aw.aload_n rfl d_Mdl_pair_176 ?_
        refine Aw.getRs (f := 812) 12 44 fl_Mdl_96 (by decide) (by decide) rfl rfl o2 e4 d_Mdl_pair_177 ?_
        refine Aw.bipush (by decide) d_Mdl_pair_180 ?_
        refine Aw.iload rfl d_Mdl_pair_182 ?_
        refine Aw.imul d_Mdl_pair_184 ?_
        refine Aw.iload rfl d_Mdl_pair_185 ?_
        refine Aw.iadd d_Mdl_pair_187 ?_
        refine Aw.iload rfl d_Mdl_pair_188 ?_
        refine Aw.if_eq (tgt := 215) ⟨by decide, by decide⟩ (by decide) d_Mdl_pair_190 (fun c15 => ?_) (fun c15 => absurd c15 (by decide))
        refine Aw.iload rfl d_Mdl_pair_215 ?_
        obtain ⟨o13, o14, h⟩ := h
        refine Aw.iast o5 o13 o14 r11 d_Mdl_pair_217 ?_
        refine Aw.iinc rfl d_Mdl_pair_218 ?_
        refine Aw.toL (L' := [xr (some a0), xi v1, xi v2, xi v3, xi v4, xi v5, xi v6, xi (v7 + (-1)), xi s0, xi (aI σ b3 (((21 * v6) + v7) + 1).toNat), xi 0]) rfl ?_
        refine Aw.goto (tgt := 29) (by decide) d_Mdl_pair_221 ?_
        exact Aw.toW (L' := [xr (some a0), xi v1, xi v2, xi v3, xi v4, xi v5, xi v6, xi (v7 + (-1)), xu, xu, xu]) ⟨Or.inr rfl, Or.inr rfl, Or.inr rfl, Or.inr rfl, Or.inr rfl, Or.inr rfl, Or.inr rfl, Or.inr rfl, Or.inl rfl, Or.inl rfl, Or.inl rfl, trivial⟩ h
      · have h := hf c25
        refine Aw.aload_n rfl d_Mdl_pair_137 ?_
        refine Aw.aload_n rfl d_Mdl_pair_138 ?_
        obtain ⟨b16, e17, h⟩ := h
        refine Aw.getRs (f := 775) 12 7 fl_Mdl_23 (by decide) (by decide) rfl rfl o2 e17 d_Mdl_pair_139 ?_
        refine Aw.bipush (by decide) d_Mdl_pair_142 ?_
        refine Aw.iload_n rfl d_Mdl_pair_144 ?_
        refine Aw.imul d_Mdl_pair_145 ?_
        refine Aw.iload rfl d_Mdl_pair_146 ?_
        refine Aw.iadd d_Mdl_pair_148 ?_
        obtain ⟨o18, h⟩ := h
        obtain ⟨o19, o20, h⟩ := h
        refine Aw.iald o18 o19 o20 d_Mdl_pair_149 (fun r21 => ?_)
        have h := h r21
        refine Aw.aload_n rfl d_Mdl_pair_150 ?_
        refine Aw.getRs (f := 775) 12 7 fl_Mdl_23 (by decide) (by decide) rfl rfl o2 e17 d_Mdl_pair_151 ?_
        refine Aw.bipush (by decide) d_Mdl_pair_154 ?_
        refine Aw.iload_n rfl d_Mdl_pair_156 ?_
        refine Aw.imul d_Mdl_pair_157 ?_
        refine Aw.iload rfl d_Mdl_pair_158 ?_
        refine Aw.iadd d_Mdl_pair_160 ?_
        obtain ⟨o22, o23, h⟩ := h
        refine Aw.iald o18 o22 o23 d_Mdl_pair_161 (fun r24 => ?_)
        have h := h r24
        refine Aw.iload_n rfl d_Mdl_pair_162 ?_
        exact h
    · have h := hf c40
      refine Aw.aload_n rfl d_Mdl_pair_97 ?_
      refine Aw.getRs (f := 812) 12 44 fl_Mdl_96 (by decide) (by decide) rfl rfl o2 e4 d_Mdl_pair_98 ?_
      refine Aw.bipush (by decide) d_Mdl_pair_101 ?_
      refine Aw.iload rfl d_Mdl_pair_103 ?_
      refine Aw.iconst d_Mdl_pair_105 ?_
      refine Aw.iadd d_Mdl_pair_106 ?_
      refine Aw.imul d_Mdl_pair_107 ?_
      refine Aw.iload rfl d_Mdl_pair_108 ?_
      refine Aw.iadd d_Mdl_pair_110 ?_
      refine Aw.iald o5 o6 o7 d_Mdl_pair_111 (fun r26 => ?_)
      have h := h r26
      refine Aw.goto (tgt := 130) (by decide) d_Mdl_pair_112 ?_
      refine Aw.istore (by decide) d_Mdl_pair_130 ?_
      refine Aw.toL (L' := [xr (some a0), xi v1, xi v2, xi v3, xi v4, xi v5, xi v6, xi v7, xi s0, xi (aI σ b3 ((21 * (v6 + 1)) + v7).toNat), xu]) rfl ?_
      refine Aw.iload rfl d_Mdl_pair_132 ?_
      obtain ⟨ht, hf⟩ := h
      refine Aw.if_ne (tgt := 173) o1 (by decide) d_Mdl_pair_134 (fun c39 => ?_) (fun c39 => ?_)
      · have h := ht c39
        refine Aw.iconst d_Mdl_pair_173 ?_
        refine Aw.istore (by decide) d_Mdl_pair_174 ?_
        refine Aw.toL (L' := [xr (some a0), xi v1, xi v2, xi v3, xi v4, xi v5, xi v6, xi v7, xi s0, xi (aI σ b3 ((21 * (v6 + 1)) + v7).toNat), xi 0]) rfl ?_
        refine Aw.aload_n rfl d_Mdl_pair_176 ?_
        refine Aw.getRs (f := 812) 12 44 fl_Mdl_96 (by decide) (by decide) rfl rfl o2 e4 d_Mdl_pair_177 ?_
        refine Aw.bipush (by decide) d_Mdl_pair_180 ?_
        refine Aw.iload rfl d_Mdl_pair_182 ?_
        refine Aw.imul d_Mdl_pair_184 ?_
        refine Aw.iload rfl d_Mdl_pair_185 ?_
        refine Aw.iadd d_Mdl_pair_187 ?_
        refine Aw.iload rfl d_Mdl_pair_188 ?_
        refine Aw.if_eq (tgt := 215) ⟨by decide, by decide⟩ (by decide) d_Mdl_pair_190 (fun c29 => ?_) (fun c29 => absurd c29 (by decide))
        refine Aw.iload rfl d_Mdl_pair_215 ?_
        obtain ⟨o27, o28, h⟩ := h
        refine Aw.iast o5 o27 o28 r26 d_Mdl_pair_217 ?_
        refine Aw.iinc rfl d_Mdl_pair_218 ?_
        refine Aw.toL (L' := [xr (some a0), xi v1, xi v2, xi v3, xi v4, xi v5, xi v6, xi (v7 + (-1)), xi s0, xi (aI σ b3 ((21 * (v6 + 1)) + v7).toNat), xi 0]) rfl ?_
        refine Aw.goto (tgt := 29) (by decide) d_Mdl_pair_221 ?_
        exact Aw.toW (L' := [xr (some a0), xi v1, xi v2, xi v3, xi v4, xi v5, xi v6, xi (v7 + (-1)), xu, xu, xu]) ⟨Or.inr rfl, Or.inr rfl, Or.inr rfl, Or.inr rfl, Or.inr rfl, Or.inr rfl, Or.inr rfl, Or.inr rfl, Or.inl rfl, Or.inl rfl, Or.inl rfl, trivial⟩ h
      · have h := hf c39
        refine Aw.aload_n rfl d_Mdl_pair_137 ?_
        refine Aw.aload_n rfl d_Mdl_pair_138 ?_
        obtain ⟨b30, e31, h⟩ := h
        refine Aw.getRs (f := 775) 12 7 fl_Mdl_23 (by decide) (by decide) rfl rfl o2 e31 d_Mdl_pair_139 ?_
        refine Aw.bipush (by decide) d_Mdl_pair_142 ?_
        refine Aw.iload_n rfl d_Mdl_pair_144 ?_
        refine Aw.imul d_Mdl_pair_145 ?_
        refine Aw.iload rfl d_Mdl_pair_146 ?_
        refine Aw.iadd d_Mdl_pair_148 ?_
        obtain ⟨o32, h⟩ := h
        obtain ⟨o33, o34, h⟩ := h
        refine Aw.iald o32 o33 o34 d_Mdl_pair_149 (fun r35 => ?_)
        have h := h r35
        refine Aw.aload_n rfl d_Mdl_pair_150 ?_
        refine Aw.getRs (f := 775) 12 7 fl_Mdl_23 (by decide) (by decide) rfl rfl o2 e31 d_Mdl_pair_151 ?_
        refine Aw.bipush (by decide) d_Mdl_pair_154 ?_
        refine Aw.iload_n rfl d_Mdl_pair_156 ?_
        refine Aw.imul d_Mdl_pair_157 ?_
        refine Aw.iload rfl d_Mdl_pair_158 ?_
        refine Aw.iadd d_Mdl_pair_160 ?_
        obtain ⟨o36, o37, h⟩ := h
        refine Aw.iald o32 o36 o37 d_Mdl_pair_161 (fun r38 => ?_)
        have h := h r38
        refine Aw.iload_n rfl d_Mdl_pair_162 ?_
        exact h
  · have h := hf c59
    refine Aw.iconst d_Mdl_pair_60 ?_
    refine Aw.goto (tgt := 130) (by decide) d_Mdl_pair_61 ?_
    refine Aw.istore (by decide) d_Mdl_pair_130 ?_
    refine Aw.toL (L' := [xr (some a0), xi v1, xi v2, xi v3, xi v4, xi v5, xi v6, xi v7, xi s0, xi 0, xu]) rfl ?_
    refine Aw.iload rfl d_Mdl_pair_132 ?_
    obtain ⟨ht, hf⟩ := h
    refine Aw.if_ne (tgt := 173) o1 (by decide) d_Mdl_pair_134 (fun c58 => ?_) (fun c58 => ?_)
    · have h := ht c58
      refine Aw.iconst d_Mdl_pair_173 ?_
      refine Aw.istore (by decide) d_Mdl_pair_174 ?_
      refine Aw.toL (L' := [xr (some a0), xi v1, xi v2, xi v3, xi v4, xi v5, xi v6, xi v7, xi s0, xi 0, xi 0]) rfl ?_
      refine Aw.aload_n rfl d_Mdl_pair_176 ?_
      obtain ⟨o41, h⟩ := h
      obtain ⟨b42, e43, h⟩ := h
      refine Aw.getRs (f := 812) 12 44 fl_Mdl_96 (by decide) (by decide) rfl rfl o41 e43 d_Mdl_pair_177 ?_
      refine Aw.bipush (by decide) d_Mdl_pair_180 ?_
      refine Aw.iload rfl d_Mdl_pair_182 ?_
      refine Aw.imul d_Mdl_pair_184 ?_
      refine Aw.iload rfl d_Mdl_pair_185 ?_
      refine Aw.iadd d_Mdl_pair_187 ?_
      refine Aw.iload rfl d_Mdl_pair_188 ?_
      refine Aw.if_eq (tgt := 215) ⟨by decide, by decide⟩ (by decide) d_Mdl_pair_190 (fun c47 => ?_) (fun c47 => absurd c47 (by decide))
      refine Aw.iload rfl d_Mdl_pair_215 ?_
      obtain ⟨o44, h⟩ := h
      obtain ⟨o45, o46, h⟩ := h
      refine Aw.iast o44 o45 o46 ⟨by decide, by decide⟩ d_Mdl_pair_217 ?_
      refine Aw.iinc rfl d_Mdl_pair_218 ?_
      refine Aw.toL (L' := [xr (some a0), xi v1, xi v2, xi v3, xi v4, xi v5, xi v6, xi (v7 + (-1)), xi s0, xi 0, xi 0]) rfl ?_
      refine Aw.goto (tgt := 29) (by decide) d_Mdl_pair_221 ?_
      exact Aw.toW (L' := [xr (some a0), xi v1, xi v2, xi v3, xi v4, xi v5, xi v6, xi (v7 + (-1)), xu, xu, xu]) ⟨Or.inr rfl, Or.inr rfl, Or.inr rfl, Or.inr rfl, Or.inr rfl, Or.inr rfl, Or.inr rfl, Or.inr rfl, Or.inl rfl, Or.inl rfl, Or.inl rfl, trivial⟩ h
    · have h := hf c58
      refine Aw.aload_n rfl d_Mdl_pair_137 ?_
      refine Aw.aload_n rfl d_Mdl_pair_138 ?_
      obtain ⟨o48, h⟩ := h
      obtain ⟨b49, e50, h⟩ := h
      refine Aw.getRs (f := 775) 12 7 fl_Mdl_23 (by decide) (by decide) rfl rfl o48 e50 d_Mdl_pair_139 ?_
      refine Aw.bipush (by decide) d_Mdl_pair_142 ?_
      refine Aw.iload_n rfl d_Mdl_pair_144 ?_
      refine Aw.imul d_Mdl_pair_145 ?_
      refine Aw.iload rfl d_Mdl_pair_146 ?_
      refine Aw.iadd d_Mdl_pair_148 ?_
      obtain ⟨o51, h⟩ := h
      obtain ⟨o52, o53, h⟩ := h
      refine Aw.iald o51 o52 o53 d_Mdl_pair_149 (fun r54 => ?_)
      have h := h r54
      refine Aw.aload_n rfl d_Mdl_pair_150 ?_
      refine Aw.getRs (f := 775) 12 7 fl_Mdl_23 (by decide) (by decide) rfl rfl o48 e50 d_Mdl_pair_151 ?_
      refine Aw.bipush (by decide) d_Mdl_pair_154 ?_
      refine Aw.iload_n rfl d_Mdl_pair_156 ?_
      refine Aw.imul d_Mdl_pair_157 ?_
      refine Aw.iload rfl d_Mdl_pair_158 ?_
      refine Aw.iadd d_Mdl_pair_160 ?_
      obtain ⟨o55, o56, h⟩ := h
      refine Aw.iald o51 o55 o56 d_Mdl_pair_161 (fun r57 => ?_)
      have h := h r57
      refine Aw.iload_n rfl d_Mdl_pair_162 ?_
      exact h
theorem b_Mdl_pair_166 {Ω : Om} {R : Room} {F : QF} {k n : Nat} {σ : Sto} {a0 : Nat} {v1 : Int} {v2 : Int} {v3 : Int} {v4 : Int} {v5 : Int} {v6 : Int} {v7 : Int} {v8 : Int} {v9 : Int} {s0 : Int} (h : Q32 s0 ∧ ((s0 = (0 : Int) → sK σ a0 = 13 ∧ (∃ b3 : Nat, fR σ 812 a0 = some b3 ∧ sK σ b3 = 50 ∧ 0 ≤ ((21 * v6) + v7) ∧ ((21 * v6) + v7) < sZ σ b3 ∧ Q32 v9 ∧ Aw Ω M_Mdl_pair R F k n 29 [xr (some a0), xi v1, xi v2, xi v3, xi v4, xi v5, xi v6, xi (v7 + (-1)), xu, xu, xu] [] (vI σ b3 ((21 * v6) + v7).toNat v9))) ∧ (¬ s0 = (0 : Int) → sK σ a0 = 13 ∧ (∃ b11 : Nat, fR σ 812 a0 = some b11 ∧ sK σ b11 = 50 ∧ 0 ≤ (((21 * (v6 + 1)) + v7) + 1) ∧ (((21 * (v6 + 1)) + v7) + 1) < sZ σ b11 ∧ (Q32 (aI σ b11 (((21 * (v6 + 1)) + v7) + 1).toNat) → 0 ≤ ((21 * v6) + v7) ∧ ((21 * v6) + v7) < sZ σ b11 ∧ Q32 ((aI σ b11 (((21 * (v6 + 1)) + v7) + 1).toNat) + 1) ∧ Aw Ω M_Mdl_pair R F k n 29 [xr (some a0), xi v1, xi v2, xi v3, xi v4, xi v5, xi v6, xi (v7 + (-1)), xu, xu, xu] [] (vI σ b11 ((21 * v6) + v7).toNat ((aI σ b11 (((21 * (v6 + 1)) + v7) + 1).toNat) + 1))))))) : Aw Ω M_Mdl_pair R F k n 166 [xr (some a0), xi v1, xi v2, xi v3, xi v4, xi v5, xi v6, xi v7, xi v8, xi v9, xu] [xi s0] σ := by
  obtain ⟨o1, h⟩ := h
  obtain ⟨ht, hf⟩ := h
  refine Aw.if_eq (tgt := 173) o1 (by decide) d_Mdl_pair_166 (fun c21 => ?_) (fun c21 => ?_)
  · have h := ht c21
    refine Aw.iconst d_Mdl_pair_173 ?_
    refine Aw.istore (by decide) d_Mdl_pair_174 ?_
    refine Aw.toL (L' := [xr (some a0), xi v1, xi v2, xi v3, xi v4, xi v5, xi v6, xi v7, xi v8, xi v9, xi 0]) rfl ?_
    refine Aw.aload_n rfl d_Mdl_pair_176 ?_
    obtain ⟨o2, h⟩ := h
    obtain ⟨b3, e4, h⟩ := h
    refine Aw.getRs (f := 812) 12 44 fl_Mdl_96 (by decide) (by decide) rfl rfl o2 e4 d_Mdl_pair_177 ?_
    refine Aw.bipush (by decide) d_Mdl_pair_180 ?_
    refine Aw.iload rfl d_Mdl_pair_182 ?_
    refine Aw.imul d_Mdl_pair_184 ?_
    refine Aw.iload rfl d_Mdl_pair_185 ?_
    refine Aw.iadd d_Mdl_pair_187 ?_
    refine Aw.iload rfl d_Mdl_pair_188 ?_
    refine Aw.if_eq (tgt := 215) ⟨by decide, by decide⟩ (by decide) d_Mdl_pair_190 (fun c9 => ?_) (fun c9 => absurd c9 (by decide))
    refine Aw.iload rfl d_Mdl_pair_215 ?_
    obtain ⟨o5, h⟩ := h
    obtain ⟨o6, o7, h⟩ := h
    obtain ⟨o8, h⟩ := h
    refine Aw.iast o5 o6 o7 o8 d_Mdl_pair_217 ?_
    refine Aw.iinc rfl d_Mdl_pair_218 ?_
    refine Aw.toL (L' := [xr (some a0), xi v1, xi v2, xi v3, xi v4, xi v5, xi v6, xi (v7 + (-1)), xi v8, xi v9, xi 0]) rfl ?_
    refine Aw.goto (tgt := 29) (by decide) d_Mdl_pair_221 ?_
    exact Aw.toW (L' := [xr (some a0), xi v1, xi v2, xi v3, xi v4, xi v5, xi v6, xi (v7 + (-1)), xu, xu, xu]) ⟨Or.inr rfl, Or.inr rfl, Or.inr rfl, Or.inr rfl, Or.inr rfl, Or.inr rfl, Or.inr rfl, Or.inr rfl, Or.inl rfl, Or.inl rfl, Or.inl rfl, trivial⟩ h
  · have h := hf c21
    refine Aw.iconst d_Mdl_pair_169 ?_
    refine Aw.goto (tgt := 174) (by decide) d_Mdl_pair_170 ?_
    refine Aw.istore (by decide) d_Mdl_pair_174 ?_
    refine Aw.toL (L' := [xr (some a0), xi v1, xi v2, xi v3, xi v4, xi v5, xi v6, xi v7, xi v8, xi v9, xi 1]) rfl ?_
    refine Aw.aload_n rfl d_Mdl_pair_176 ?_
    obtain ⟨o10, h⟩ := h
    obtain ⟨b11, e12, h⟩ := h
    refine Aw.getRs (f := 812) 12 44 fl_Mdl_96 (by decide) (by decide) rfl rfl o10 e12 d_Mdl_pair_177 ?_
    refine Aw.bipush (by decide) d_Mdl_pair_180 ?_
    refine Aw.iload rfl d_Mdl_pair_182 ?_
    refine Aw.imul d_Mdl_pair_184 ?_
    refine Aw.iload rfl d_Mdl_pair_185 ?_
    refine Aw.iadd d_Mdl_pair_187 ?_
    refine Aw.iload rfl d_Mdl_pair_188 ?_
    refine Aw.if_eq (tgt := 215) ⟨by decide, by decide⟩ (by decide) d_Mdl_pair_190 (fun c20 => absurd c20 (by decide)) (fun c20 => ?_)
    refine Aw.aload_n rfl d_Mdl_pair_193 ?_
    refine Aw.getRs (f := 812) 12 44 fl_Mdl_96 (by decide) (by decide) rfl rfl o10 e12 d_Mdl_pair_194 ?_
    refine Aw.bipush (by decide) d_Mdl_pair_197 ?_
    refine Aw.iload rfl d_Mdl_pair_199 ?_
    refine Aw.iconst d_Mdl_pair_201 ?_
    refine Aw.iadd d_Mdl_pair_202 ?_
    refine Aw.imul d_Mdl_pair_203 ?_
    refine Aw.iload rfl d_Mdl_pair_204 ?_
    refine Aw.iadd d_Mdl_pair_206 ?_
    refine Aw.iconst d_Mdl_pair_207 ?_
    refine Aw.iadd d_Mdl_pair_208 ?_
    obtain ⟨o13, h⟩ := h
    obtain ⟨o14, o15, h⟩ := h
    refine Aw.iald o13 o14 o15 d_Mdl_pair_209 (fun r16 => ?_)
    have h := h r16
    refine Aw.iconst d_Mdl_pair_210 ?_
    refine Aw.iadd d_Mdl_pair_211 ?_
    refine Aw.goto (tgt := 217) (by decide) d_Mdl_pair_212 ?_
    obtain ⟨o17, o18, h⟩ := h
    obtain ⟨o19, h⟩ := h
    refine Aw.iast o13 o17 o18 o19 d_Mdl_pair_217 ?_
    refine Aw.iinc rfl d_Mdl_pair_218 ?_
    refine Aw.toL (L' := [xr (some a0), xi v1, xi v2, xi v3, xi v4, xi v5, xi v6, xi (v7 + (-1)), xi v8, xi v9, xi 1]) rfl ?_
    refine Aw.goto (tgt := 29) (by decide) d_Mdl_pair_221 ?_
    exact Aw.toW (L' := [xr (some a0), xi v1, xi v2, xi v3, xi v4, xi v5, xi v6, xi (v7 + (-1)), xu, xu, xu]) ⟨Or.inr rfl, Or.inr rfl, Or.inr rfl, Or.inr rfl, Or.inr rfl, Or.inr rfl, Or.inr rfl, Or.inr rfl, Or.inl rfl, Or.inl rfl, Or.inl rfl, trivial⟩ h
theorem b_Mdl_pair_239 {Ω : Om} {R : Room} {F : QF} {k n : Nat} {σ : Sto} {a0 : Nat} {v1 : Int} {v2 : Int} {v3 : Int} {v4 : Int} {v5 : Int} {v6 : Int} {v7 : Int} {v8 : Int} (h : Q32 v6 ∧ Q32 v4 ∧ ((v4 ≤ v6 → Aw Ω M_Mdl_pair R F k n 415 [xr (some a0), xi v1, xi v2, xi v3, xi v4, xi v5, xi v6, xi v7, xi v8, xu, xu] [xi v8] σ) ∧ (¬ v4 ≤ v6 → Q32 v7 ∧ Q32 v5 ∧ ((v5 ≤ v7 → Aw Ω M_Mdl_pair R F k n 289 [xr (some a0), xi v1, xi v2, xi v3, xi v4, xi v5, xi v6, xi v7, xi v8, xu, xu] [] σ) ∧ (¬ v5 ≤ v7 → sK σ a0 = 13 ∧ (∃ b6 : Nat, fR σ 775 a0 = some b6 ∧ sK σ b6 = 50 ∧ 0 ≤ ((20 * v1) + v6) ∧ ((20 * v1) + v6) < sZ σ b6 ∧ (Q32 (aI σ b6 ((20 * v1) + v6).toNat) → 0 ≤ ((20 * v2) + v7) ∧ ((20 * v2) + v7) < sZ σ b6 ∧ (Q32 (aI σ b6 ((20 * v2) + v7).toNat) → Aw Ω M_Mdl_pair R F k n 279 [xr (some a0), xi v1, xi v2, xi v3, xi v4, xi v5, xi v6, xi v7, xi v8, xu, xu] [xi v3, xi (aI σ b6 ((20 * v2) + v7).toNat), xi (aI σ b6 ((20 * v1) + v6).toNat), xr (some a0)] σ)))))))) : Aw Ω M_Mdl_pair R F k n 239 [xr (some a0), xi v1, xi v2, xi v3, xi v4, xi v5, xi v6, xi v7, xi v8, xu, xu] [] σ := by
  refine Aw.iload rfl d_Mdl_pair_239 ?_
  refine Aw.iload rfl d_Mdl_pair_241 ?_
  obtain ⟨o1, h⟩ := h
  obtain ⟨o2, h⟩ := h
  obtain ⟨ht, hf⟩ := h
  refine Aw.icmp_ge (tgt := 413) o1 o2 (by decide) d_Mdl_pair_243 (fun c16 => ?_) (fun c16 => ?_)
  · have h := ht c16
    refine Aw.iload rfl d_Mdl_pair_413 ?_
    exact h
  · have h := hf c16
    refine Aw.iload rfl d_Mdl_pair_246 ?_
    refine Aw.iload rfl d_Mdl_pair_248 ?_
    obtain ⟨o3, h⟩ := h
    obtain ⟨o4, h⟩ := h
    obtain ⟨ht, hf⟩ := h
    refine Aw.icmp_ge (tgt := 289) o3 o4 (by decide) d_Mdl_pair_250 (fun c15 => ?_) (fun c15 => ?_)
    · have h := ht c15
      exact h
    · have h := hf c15
      refine Aw.aload_n rfl d_Mdl_pair_253 ?_
      refine Aw.aload_n rfl d_Mdl_pair_254 ?_
      obtain ⟨o5, h⟩ := h
      obtain ⟨b6, e7, h⟩ := h
      refine Aw.getRs (f := 775) 12 7 fl_Mdl_23 (by decide) (by decide) rfl rfl o5 e7 d_Mdl_pair_255 ?_
      refine Aw.bipush (by decide) d_Mdl_pair_258 ?_
      refine Aw.iload_n rfl d_Mdl_pair_260 ?_
      refine Aw.imul d_Mdl_pair_261 ?_
      refine Aw.iload rfl d_Mdl_pair_262 ?_
      refine Aw.iadd d_Mdl_pair_264 ?_
      obtain ⟨o8, h⟩ := h
      obtain ⟨o9, o10, h⟩ := h
      refine Aw.iald o8 o9 o10 d_Mdl_pair_265 (fun r11 => ?_)
      have h := h r11
      refine Aw.aload_n rfl d_Mdl_pair_266 ?_
      refine Aw.getRs (f := 775) 12 7 fl_Mdl_23 (by decide) (by decide) rfl rfl o5 e7 d_Mdl_pair_267 ?_
      refine Aw.bipush (by decide) d_Mdl_pair_270 ?_
      refine Aw.iload_n rfl d_Mdl_pair_272 ?_
      refine Aw.imul d_Mdl_pair_273 ?_
      refine Aw.iload rfl d_Mdl_pair_274 ?_
      refine Aw.iadd d_Mdl_pair_276 ?_
      obtain ⟨o12, o13, h⟩ := h
      refine Aw.iald o8 o12 o13 d_Mdl_pair_277 (fun r14 => ?_)
      have h := h r14
      refine Aw.iload_n rfl d_Mdl_pair_278 ?_
      exact h
theorem b_Mdl_pair_282 {Ω : Om} {R : Room} {F : QF} {k n : Nat} {σ : Sto} {a0 : Nat} {v1 : Int} {v2 : Int} {v3 : Int} {v4 : Int} {v5 : Int} {v6 : Int} {v7 : Int} {v8 : Int} {s0 : Int} (h : Q32 s0 ∧ ((s0 = (0 : Int) → Aw Ω M_Mdl_pair R F k n 289 [xr (some a0), xi v1, xi v2, xi v3, xi v4, xi v5, xi v6, xi v7, xi v8, xu, xu] [] σ) ∧ (¬ s0 = (0 : Int) → Aw Ω M_Mdl_pair R F k n 290 [xr (some a0), xi v1, xi v2, xi v3, xi v4, xi v5, xi v6, xi v7, xi v8, xu, xu] [xi 1] σ))) : Aw Ω M_Mdl_pair R F k n 282 [xr (some a0), xi v1, xi v2, xi v3, xi v4, xi v5, xi v6, xi v7, xi v8, xu, xu] [xi s0] σ := by
  obtain ⟨o1, h⟩ := h
  obtain ⟨ht, hf⟩ := h
  refine Aw.if_eq (tgt := 289) o1 (by decide) d_Mdl_pair_282 (fun c2 => ?_) (fun c2 => ?_)
  · have h := ht c2
    exact h
  · have h := hf c2
    refine Aw.iconst d_Mdl_pair_285 ?_
    refine Aw.goto (tgt := 290) (by decide) d_Mdl_pair_286 ?_
    exact h
theorem b_Mdl_pair_290 {Ω : Om} {R : Room} {F : QF} {k n : Nat} {σ : Sto} {a0 : Nat} {v1 : Int} {v2 : Int} {v3 : Int} {v4 : Int} {v5 : Int} {v6 : Int} {v7 : Int} {v8 : Int} {s0 : Int} (h : Q32 v7 ∧ Q32 v5 ∧ ((v7 = v5 → Aw Ω M_Mdl_pair R F k n 335 [xr (some a0), xi v1, xi v2, xi v3, xi v4, xi v5, xi v6, xi v7, xi v8, xi s0, xu] [] σ) ∧ (¬ v7 = v5 → Q32 s0 ∧ ((¬ s0 = (0 : Int) → Aw Ω M_Mdl_pair R F k n 339 [xr (some a0), xi v1, xi v2, xi v3, xi v4, xi v5, xi v6, xi v7, xi v8, xi s0, xu] [] σ) ∧ (s0 = (0 : Int) → sK σ a0 = 13 ∧ (∃ b5 : Nat, fR σ 812 a0 = some b5 ∧ sK σ b5 = 50 ∧ 0 ≤ ((21 * (v6 + 1)) + v7) ∧ ((21 * (v6 + 1)) + v7) < sZ σ b5 ∧ (Q32 (aI σ b5 ((21 * (v6 + 1)) + v7).toNat) → 0 ≤ ((21 * v6) + v7) ∧ ((21 * v6) + v7) < sZ σ b5 ∧ (Q32 (aI σ b5 ((21 * v6) + v7).toNat) → ((¬ (aI σ b5 ((21 * (v6 + 1)) + v7).toNat) = (aI σ b5 ((21 * v6) + v7).toNat) → Aw Ω M_Mdl_pair R F k n 339 [xr (some a0), xi v1, xi v2, xi v3, xi v4, xi v5, xi v6, xi v7, xi v8, xi s0, xu] [] σ) ∧ ((aI σ b5 ((21 * (v6 + 1)) + v7).toNat) = (aI σ b5 ((21 * v6) + v7).toNat) → Aw Ω M_Mdl_pair R F k n 335 [xr (some a0), xi v1, xi v2, xi v3, xi v4, xi v5, xi v6, xi v7, xi v8, xi s0, xu] [] σ)))))))))) : Aw Ω M_Mdl_pair R F k n 290 [xr (some a0), xi v1, xi v2, xi v3, xi v4, xi v5, xi v6, xi v7, xi v8, xu, xu] [xi s0] σ := by
  refine Aw.istore (by decide) d_Mdl_pair_290 ?_
  refine Aw.toL (L' := [xr (some a0), xi v1, xi v2, xi v3, xi v4, xi v5, xi v6, xi v7, xi v8, xi s0, xu]) rfl ?_
  refine Aw.iload rfl d_Mdl_pair_292 ?_
  refine Aw.iload rfl d_Mdl_pair_294 ?_
  obtain ⟨o1, h⟩ := h
  obtain ⟨o2, h⟩ := h
  obtain ⟨ht, hf⟩ := h
  refine Aw.icmp_eq (tgt := 335) o1 o2 (by decide) d_Mdl_pair_296 (fun c16 => ?_) (fun c16 => ?_)
  · have h := ht c16
    exact h
  · have h := hf c16
    refine Aw.iload rfl d_Mdl_pair_299 ?_
    obtain ⟨o3, h⟩ := h
    obtain ⟨ht, hf⟩ := h
    refine Aw.if_ne (tgt := 339) o3 (by decide) d_Mdl_pair_301 (fun c15 => ?_) (fun c15 => ?_)
    · have h := ht c15
      exact h
    · have h := hf c15
      refine Aw.aload_n rfl d_Mdl_pair_304 ?_
      obtain ⟨o4, h⟩ := h
      obtain ⟨b5, e6, h⟩ := h
      refine Aw.getRs (f := 812) 12 44 fl_Mdl_96 (by decide) (by decide) rfl rfl o4 e6 d_Mdl_pair_305 ?_
      refine Aw.bipush (by decide) d_Mdl_pair_308 ?_
      refine Aw.iload rfl d_Mdl_pair_310 ?_
      refine Aw.iconst d_Mdl_pair_312 ?_
      refine Aw.iadd d_Mdl_pair_313 ?_
      refine Aw.imul d_Mdl_pair_314 ?_
      refine Aw.iload rfl d_Mdl_pair_315 ?_
      refine Aw.iadd d_Mdl_pair_317 ?_
      obtain ⟨o7, h⟩ := h
      obtain ⟨o8, o9, h⟩ := h
      refine Aw.iald o7 o8 o9 d_Mdl_pair_318 (fun r10 => ?_)
      have h := h r10
      refine Aw.aload_n rfl d_Mdl_pair_319 ?_
      refine Aw.getRs (f := 812) 12 44 fl_Mdl_96 (by decide) (by decide) rfl rfl o4 e6 d_Mdl_pair_320 ?_
      refine Aw.bipush (by decide) d_Mdl_pair_323 ?_
      refine Aw.iload rfl d_Mdl_pair_325 ?_
      refine Aw.imul d_Mdl_pair_327 ?_
      refine Aw.iload rfl d_Mdl_pair_328 ?_
      refine Aw.iadd d_Mdl_pair_330 ?_
      obtain ⟨o11, o12, h⟩ := h
      refine Aw.iald o7 o11 o12 d_Mdl_pair_331 (fun r13 => ?_)
      have h := h r13
      obtain ⟨ht, hf⟩ := h
      refine Aw.icmp_ne (tgt := 339) r10 r13 (by decide) d_Mdl_pair_332 (fun c14 => ?_) (fun c14 => ?_)
      · have h := ht c14
        exact h
      · have h := hf c14
        exact h
theorem b_Mdl_pair_335 {Ω : Om} {R : Room} {F : QF} {k n : Nat} {σ : Sto} {a0 : Nat} {v1 : Int} {v2 : Int} {v3 : Int} {v4 : Int} {v5 : Int} {v6 : Int} {v7 : Int} {v8 : Int} {v9 : Int} (h : Aw Ω M_Mdl_pair R F k n 340 [xr (some a0), xi v1, xi v2, xi v3, xi v4, xi v5, xi v6, xi v7, xi v8, xi v9, xu] [xi 1] σ) : Aw Ω M_Mdl_pair R F k n 335 [xr (some a0), xi v1, xi v2, xi v3, xi v4, xi v5, xi v6, xi v7, xi v8, xi v9, xu] [] σ := by
  refine Aw.iconst d_Mdl_pair_335 ?_
  refine Aw.goto (tgt := 340) (by decide) d_Mdl_pair_336 ?_
  exact h
theorem b_Mdl_pair_340 {Ω : Om} {R : Room} {F : QF} {k n : Nat} {σ : Sto} {a0 : Nat} {v1 : Int} {v2 : Int} {v3 : Int} {v4 : Int} {v5 : Int} {v6 : Int} {v7 : Int} {v8 : Int} {v9 : Int} {s0 : Int} (h : sK σ a0 = 13 ∧ (∃ b2 : Nat, fR σ 813 a0 = some b2 ∧ Q32 v9 ∧ ((v9 = (0 : Int) → Aw Ω M_Mdl_pair R F k n 359 [xr (some a0), xi v1, xi v2, xi v3, xi v4, xi v5, xi v6, xi v7, xi v8, xi v9, xi s0] [xi (-1), xi v6, xr (some b2)] σ) ∧ (¬ v9 = (0 : Int) → Aw Ω M_Mdl_pair R F k n 359 [xr (some a0), xi v1, xi v2, xi v3, xi v4, xi v5, xi v6, xi v7, xi v8, xi v9, xi s0] [xi v7, xi v6, xr (some b2)] σ)))) : Aw Ω M_Mdl_pair R F k n 340 [xr (some a0), xi v1, xi v2, xi v3, xi v4, xi v5, xi v6, xi v7, xi v8, xi v9, xu] [xi s0] σ := by
  refine Aw.istore (by decide) d_Mdl_pair_340 ?_
  refine Aw.toL (L' := [xr (some a0), xi v1, xi v2, xi v3, xi v4, xi v5, xi v6, xi v7, xi v8, xi v9, xi s0]) rfl ?_
  refine Aw.aload_n rfl d_Mdl_pair_342 ?_
  obtain ⟨o1, h⟩ := h
  obtain ⟨b2, e3, h⟩ := h
  refine Aw.getRs (f := 813) 12 45 fl_Mdl_99 (by decide) (by decide) rfl rfl o1 e3 d_Mdl_pair_343 ?_
  refine Aw.iload rfl d_Mdl_pair_346 ?_
  refine Aw.iload rfl d_Mdl_pair_348 ?_
  obtain ⟨o4, h⟩ := h
  obtain ⟨ht, hf⟩ := h
  refine Aw.if_eq (tgt := 358) o4 (by decide) d_Mdl_pair_350 (fun c5 => ?_) (fun c5 => ?_)
  · have h := ht c5
    refine Aw.iconst d_Mdl_pair_358 ?_
    exact h
  · have h := hf c5
    refine Aw.iload rfl d_Mdl_pair_353 ?_
    refine Aw.goto (tgt := 359) (by decide) d_Mdl_pair_355 ?_
    exact h
theorem b_Mdl_pair_359 {Ω : Om} {R : Room} {F : QF} {k n : Nat} {σ : Sto} {a0 : Nat} {v1 : Int} {v2 : Int} {v3 : Int} {v4 : Int} {v5 : Int} {v6 : Int} {v7 : Int} {v8 : Int} {v9 : Int} {v10 : Int} {s0 : Nat} {s1 : Int} {s2 : Int} (h : sK σ s0 = 50 ∧ 0 ≤ s1 ∧ s1 < sZ σ s0 ∧ Q32 s2 ∧ Q32 v9 ∧ ((v9 = (0 : Int) → Aw Ω M_Mdl_pair R F k n 372 [xr (some a0), xi v1, xi v2, xi v3, xi v4, xi v5, xi v6, xi v7, xi v8, xi v9, xi v10] [xi 0, xi v8] (vI σ s0 (s1).toNat s2)) ∧ (¬ v9 = (0 : Int) → Aw Ω M_Mdl_pair R F k n 372 [xr (some a0), xi v1, xi v2, xi v3, xi v4, xi v5, xi v6, xi v7, xi v8, xi v9, xi v10] [xi 1, xi v8] (vI σ s0 (s1).toNat s2)))) : Aw Ω M_Mdl_pair R F k n 359 [xr (some a0), xi v1, xi v2, xi v3, xi v4, xi v5, xi v6, xi v7, xi v8, xi v9, xi v10] [xi s2, xi s1, xr (some s0)] σ := by
  obtain ⟨o1, h⟩ := h
  obtain ⟨o2, o3, h⟩ := h
  obtain ⟨o4, h⟩ := h
  refine Aw.iast o1 o2 o3 o4 d_Mdl_pair_359 ?_
  refine Aw.iload rfl d_Mdl_pair_360 ?_
  refine Aw.iload rfl d_Mdl_pair_362 ?_
  obtain ⟨o5, h⟩ := h
  obtain ⟨ht, hf⟩ := h
  refine Aw.if_eq (tgt := 371) o5 (by decide) d_Mdl_pair_364 (fun c6 => ?_) (fun c6 => ?_)
  · have h := ht c6
    refine Aw.iconst d_Mdl_pair_371 ?_
    exact h
  · have h := hf c6
    refine Aw.iconst d_Mdl_pair_367 ?_
    refine Aw.goto (tgt := 372) (by decide) d_Mdl_pair_368 ?_
    exact h
theorem b_Mdl_pair_372 {Ω : Om} {R : Room} {F : QF} {k n : Nat} {σ : Sto} {a0 : Nat} {v1 : Int} {v2 : Int} {v3 : Int} {v4 : Int} {v5 : Int} {v6 : Int} {v7 : Int} {v8 : Int} {v9 : Int} {v10 : Int} {s0 : Int} {s1 : Int} (h : Q32 v9 ∧ ((¬ v9 = (0 : Int) → Q32 v10 ∧ ((v10 = (0 : Int) → Aw Ω M_Mdl_pair R F k n 239 [xr (some a0), xi v1, xi v2, xi v3, xi v4, xi v5, xi (v6 + 1), xi (v7 + 1), xi (s0 + s1), xu, xu] [] σ) ∧ (¬ v10 = (0 : Int) → Aw Ω M_Mdl_pair R F k n 239 [xr (some a0), xi v1, xi v2, xi v3, xi v4, xi v5, xi (v6 + 1), xi (v7 + 0), xi (s0 + s1), xu, xu] [] σ))) ∧ (v9 = (0 : Int) → Q32 v10 ∧ ((v10 = (0 : Int) → ((v10 = (0 : Int) → Aw Ω M_Mdl_pair R F k n 239 [xr (some a0), xi v1, xi v2, xi v3, xi v4, xi v5, xi (v6 + 0), xi (v7 + 1), xi (s0 + s1), xu, xu] [] σ) ∧ (¬ v10 = (0 : Int) → Aw Ω M_Mdl_pair R F k n 239 [xr (some a0), xi v1, xi v2, xi v3, xi v4, xi v5, xi (v6 + 0), xi (v7 + 0), xi (s0 + s1), xu, xu] [] σ))) ∧ (¬ v10 = (0 : Int) → ((v10 = (0 : Int) → Aw Ω M_Mdl_pair R F k n 239 [xr (some a0), xi v1, xi v2, xi v3, xi v4, xi v5, xi (v6 + 1), xi (v7 + 1), xi (s0 + s1), xu, xu] [] σ) ∧ (¬ v10 = (0 : Int) → Aw Ω M_Mdl_pair R F k n 239 [xr (some a0), xi v1, xi v2, xi v3, xi v4, xi v5, xi (v6 + 1), xi (v7 + 0), xi (s0 + s1), xu, xu] [] σ))))))) : Aw Ω M_Mdl_pair R F k n 372 [xr (some a0), xi v1, xi v2, xi v3, xi v4, xi v5, xi v6, xi v7, xi v8, xi v9, xi v10] [xi s1, xi s0] σ := by
  refine Aw.iadd d_Mdl_pair_372 ?_
  refine Aw.istore (by decide) d_Mdl_pair_373 ?_
  refine Aw.toL (L' := [xr (some a0), xi v1, xi v2, xi v3, xi v4, xi v5, xi v6, xi v7, xi (s0 + s1), xi v9, xi v10]) rfl ?_
  refine Aw.iload rfl d_Mdl_pair_375 ?_
  refine Aw.iload rfl d_Mdl_pair_377 ?_
  obtain ⟨o1, h⟩ := h
  obtain ⟨ht, hf⟩ := h
  refine Aw.if_ne (tgt := 387) o1 (by decide) d_Mdl_pair_379 (fun c8 => ?_) (fun c8 => ?_)
  · have h := ht c8
    refine Aw.iconst d_Mdl_pair_387 ?_
    refine Aw.goto (tgt := 392) (by decide) d_Mdl_pair_388 ?_
    refine Aw.iadd d_Mdl_pair_392 ?_
    refine Aw.istore (by decide) d_Mdl_pair_393 ?_
    refine Aw.toL (L' := [xr (some a0), xi v1, xi v2, xi v3, xi v4, xi v5, xi (v6 + 1), xi v7, xi (s0 + s1), xi v9, xi v10]) rfl ?_
    refine Aw.iload rfl d_Mdl_pair_395 ?_
    refine Aw.iload rfl d_Mdl_pair_397 ?_
    obtain ⟨o2, h⟩ := h
    obtain ⟨ht, hf⟩ := h
    refine Aw.if_eq (tgt := 406) o2 (by decide) d_Mdl_pair_399 (fun c3 => ?_) (fun c3 => ?_)
    · have h := ht c3
      refine Aw.iconst d_Mdl_pair_406 ?_
      refine Aw.iadd d_Mdl_pair_407 ?_
      refine Aw.istore (by decide) d_Mdl_pair_408 ?_
      refine Aw.toL (L' := [xr (some a0), xi v1, xi v2, xi v3, xi v4, xi v5, xi (v6 + 1), xi (v7 + 1), xi (s0 + s1), xi v9, xi v10]) rfl ?_
      refine Aw.goto (tgt := 239) (by decide) d_Mdl_pair_410 ?_
      exact Aw.toW (L' := [xr (some a0), xi v1, xi v2, xi v3, xi v4, xi v5, xi (v6 + 1), xi (v7 + 1), xi (s0 + s1), xu, xu]) ⟨Or.inr rfl, Or.inr rfl, Or.inr rfl, Or.inr rfl, Or.inr rfl, Or.inr rfl, Or.inr rfl, Or.inr rfl, Or.inr rfl, Or.inl rfl, Or.inl rfl, trivial⟩ h
    · have h := hf c3
      refine Aw.iconst d_Mdl_pair_402 ?_
      refine Aw.goto (tgt := 407) (by decide) d_Mdl_pair_403 ?_
      refine Aw.iadd d_Mdl_pair_407 ?_
      refine Aw.istore (by decide) d_Mdl_pair_408 ?_
      refine Aw.toL (L' := [xr (some a0), xi v1, xi v2, xi v3, xi v4, xi v5, xi (v6 + 1), xi (v7 + 0), xi (s0 + s1), xi v9, xi v10]) rfl ?_
      refine Aw.goto (tgt := 239) (by decide) d_Mdl_pair_410 ?_
      exact Aw.toW (L' := [xr (some a0), xi v1, xi v2, xi v3, xi v4, xi v5, xi (v6 + 1), xi (v7 + 0), xi (s0 + s1), xu, xu]) ⟨Or.inr rfl, Or.inr rfl, Or.inr rfl, Or.inr rfl, Or.inr rfl, Or.inr rfl, Or.inr rfl, Or.inr rfl, Or.inr rfl, Or.inl rfl, Or.inl rfl, trivial⟩ h
  · have h := hf c8
    refine Aw.iload rfl d_Mdl_pair_382 ?_
    obtain ⟨o4, h⟩ := h
    obtain ⟨ht, hf⟩ := h
    refine Aw.if_eq (tgt := 391) o4 (by decide) d_Mdl_pair_384 (fun c7 => ?_) (fun c7 => ?_)
    · have h := ht c7
      refine Aw.iconst d_Mdl_pair_391 ?_
      refine Aw.iadd d_Mdl_pair_392 ?_
      refine Aw.istore (by decide) d_Mdl_pair_393 ?_
      refine Aw.toL (L' := [xr (some a0), xi v1, xi v2, xi v3, xi v4, xi v5, xi (v6 + 0), xi v7, xi (s0 + s1), xi v9, xi v10]) rfl ?_
      refine Aw.iload rfl d_Mdl_pair_395 ?_
      refine Aw.iload rfl d_Mdl_pair_397 ?_
      obtain ⟨ht, hf⟩ := h
      refine Aw.if_eq (tgt := 406) o4 (by decide) d_Mdl_pair_399 (fun c5 => ?_) (fun c5 => ?_)
      · have h := ht c5
        refine Aw.iconst d_Mdl_pair_406 ?_
        refine Aw.iadd d_Mdl_pair_407 ?_
        refine Aw.istore (by decide) d_Mdl_pair_408 ?_
        refine Aw.toL (L' := [xr (some a0), xi v1, xi v2, xi v3, xi v4, xi v5, xi (v6 + 0), xi (v7 + 1), xi (s0 + s1), xi v9, xi v10]) rfl ?_
        refine Aw.goto (tgt := 239) (by decide) d_Mdl_pair_410 ?_
        exact Aw.toW (L' := [xr (some a0), xi v1, xi v2, xi v3, xi v4, xi v5, xi (v6 + 0), xi (v7 + 1), xi (s0 + s1), xu, xu]) ⟨Or.inr rfl, Or.inr rfl, Or.inr rfl, Or.inr rfl, Or.inr rfl, Or.inr rfl, Or.inr rfl, Or.inr rfl, Or.inr rfl, Or.inl rfl, Or.inl rfl, trivial⟩ h
      · have h := hf c5
        refine Aw.iconst d_Mdl_pair_402 ?_
        refine Aw.goto (tgt := 407) (by decide) d_Mdl_pair_403 ?_
        refine Aw.iadd d_Mdl_pair_407 ?_
        refine Aw.istore (by decide) d_Mdl_pair_408 ?_
        refine Aw.toL (L' := [xr (some a0), xi v1, xi v2, xi v3, xi v4, xi v5, xi (v6 + 0), xi (v7 + 0), xi (s0 + s1), xi v9, xi v10]) rfl ?_
        refine Aw.goto (tgt := 239) (by decide) d_Mdl_pair_410 ?_
        exact Aw.toW (L' := [xr (some a0), xi v1, xi v2, xi v3, xi v4, xi v5, xi (v6 + 0), xi (v7 + 0), xi (s0 + s1), xu, xu]) ⟨Or.inr rfl, Or.inr rfl, Or.inr rfl, Or.inr rfl, Or.inr rfl, Or.inr rfl, Or.inr rfl, Or.inr rfl, Or.inr rfl, Or.inl rfl, Or.inl rfl, trivial⟩ h
    · have h := hf c7
      refine Aw.iconst d_Mdl_pair_387 ?_
      refine Aw.goto (tgt := 392) (by decide) d_Mdl_pair_388 ?_
      refine Aw.iadd d_Mdl_pair_392 ?_
      refine Aw.istore (by decide) d_Mdl_pair_393 ?_
      refine Aw.toL (L' := [xr (some a0), xi v1, xi v2, xi v3, xi v4, xi v5, xi (v6 + 1), xi v7, xi (s0 + s1), xi v9, xi v10]) rfl ?_
      refine Aw.iload rfl d_Mdl_pair_395 ?_
      refine Aw.iload rfl d_Mdl_pair_397 ?_
      obtain ⟨ht, hf⟩ := h
      refine Aw.if_eq (tgt := 406) o4 (by decide) d_Mdl_pair_399 (fun c6 => ?_) (fun c6 => ?_)
      · have h := ht c6
        refine Aw.iconst d_Mdl_pair_406 ?_
        refine Aw.iadd d_Mdl_pair_407 ?_
        refine Aw.istore (by decide) d_Mdl_pair_408 ?_
        refine Aw.toL (L' := [xr (some a0), xi v1, xi v2, xi v3, xi v4, xi v5, xi (v6 + 1), xi (v7 + 1), xi (s0 + s1), xi v9, xi v10]) rfl ?_
        refine Aw.goto (tgt := 239) (by decide) d_Mdl_pair_410 ?_
        exact Aw.toW (L' := [xr (some a0), xi v1, xi v2, xi v3, xi v4, xi v5, xi (v6 + 1), xi (v7 + 1), xi (s0 + s1), xu, xu]) ⟨Or.inr rfl, Or.inr rfl, Or.inr rfl, Or.inr rfl, Or.inr rfl, Or.inr rfl, Or.inr rfl, Or.inr rfl, Or.inr rfl, Or.inl rfl, Or.inl rfl, trivial⟩ h
      · have h := hf c6
        refine Aw.iconst d_Mdl_pair_402 ?_
        refine Aw.goto (tgt := 407) (by decide) d_Mdl_pair_403 ?_
        refine Aw.iadd d_Mdl_pair_407 ?_
        refine Aw.istore (by decide) d_Mdl_pair_408 ?_
        refine Aw.toL (L' := [xr (some a0), xi v1, xi v2, xi v3, xi v4, xi v5, xi (v6 + 1), xi (v7 + 0), xi (s0 + s1), xi v9, xi v10]) rfl ?_
        refine Aw.goto (tgt := 239) (by decide) d_Mdl_pair_410 ?_
        exact Aw.toW (L' := [xr (some a0), xi v1, xi v2, xi v3, xi v4, xi v5, xi (v6 + 1), xi (v7 + 0), xi (s0 + s1), xu, xu]) ⟨Or.inr rfl, Or.inr rfl, Or.inr rfl, Or.inr rfl, Or.inr rfl, Or.inr rfl, Or.inr rfl, Or.inr rfl, Or.inr rfl, Or.inl rfl, Or.inl rfl, trivial⟩ h
theorem b_Mdl_pair_339 {Ω : Om} {R : Room} {F : QF} {k n : Nat} {σ : Sto} {a0 : Nat} {v1 : Int} {v2 : Int} {v3 : Int} {v4 : Int} {v5 : Int} {v6 : Int} {v7 : Int} {v8 : Int} {v9 : Int} (h : Aw Ω M_Mdl_pair R F k n 340 [xr (some a0), xi v1, xi v2, xi v3, xi v4, xi v5, xi v6, xi v7, xi v8, xi v9, xu] [xi 0] σ) : Aw Ω M_Mdl_pair R F k n 339 [xr (some a0), xi v1, xi v2, xi v3, xi v4, xi v5, xi v6, xi v7, xi v8, xi v9, xu] [] σ := by
  refine Aw.iconst d_Mdl_pair_339 ?_
  exact h
theorem b_Mdl_pair_289 {Ω : Om} {R : Room} {F : QF} {k n : Nat} {σ : Sto} {a0 : Nat} {v1 : Int} {v2 : Int} {v3 : Int} {v4 : Int} {v5 : Int} {v6 : Int} {v7 : Int} {v8 : Int} (h : Aw Ω M_Mdl_pair R F k n 290 [xr (some a0), xi v1, xi v2, xi v3, xi v4, xi v5, xi v6, xi v7, xi v8, xu, xu] [xi 0] σ) : Aw Ω M_Mdl_pair R F k n 289 [xr (some a0), xi v1, xi v2, xi v3, xi v4, xi v5, xi v6, xi v7, xi v8, xu, xu] [] σ := by
  refine Aw.iconst d_Mdl_pair_289 ?_
  exact h
theorem c_Mdl_pair_163 {Ω : Om} {R R' : Room} {F : QF} {k n : Nat} {L st : List PV} {σ : Sto} {QX' : String → Sto → Prop} {Q : Int → Sto → Prop} {a : Nat} {x0 : Int} {x1 : Int} {x2 : Int} (hc : MC Ω M_Mdl_areSame R' (RI Q) QX' σ [xr (some a), xi x0, xi x1, xi x2]) (hk : sK σ a = 13) (hr1 : R'.frames + 1 ≤ R.frames) (hr2 : 8 + (4 + 11) + R'.locals ≤ R.locals) (hb1 : k + R'.cells ≤ R.cells) (hb2 : n + R'.slots ≤ R.slots) (hst : (st.map catP).sum ≤ 8) (kk : ∀ x σ', Q x σ' → Aw Ω M_Mdl_pair R F (k + R'.cells) (n + R'.slots) 166 L (xi x :: st) σ') (kx : ∀ E σ', QX' E σ' → Ax Ω M_Mdl_pair R F (k + R'.cells) (n + R'.slots) 163 L st σ' E) : Aw Ω M_Mdl_pair R F k n 163 L (xi x2 :: xi x1 :: xi x0 :: xr (some a) :: st) σ :=
  Aw.callV (As := [xi x0, xi x1, xi x2]) (stk := xi x2 :: xi x1 :: xi x0 :: xr (some a) :: st) (nn := 3) 12 M_Mdl_areSame hc ok_Mdl_areSame rfl (by decide) rfl hk ml_Mdl_245 im_Mdl_areSame se_Mdl_areSame ⟨hr1, hr2⟩ rfl ⟨hb1, hb2⟩ hst rfl d_Mdl_pair_163 (fun r σ' h => by obtain ⟨x, rfl, h⟩ := h; exact kk x σ' h) kx
theorem c_Mdl_pair_279 {Ω : Om} {R R' : Room} {F : QF} {k n : Nat} {L st : List PV} {σ : Sto} {QX' : String → Sto → Prop} {Q : Int → Sto → Prop} {a : Nat} {x0 : Int} {x1 : Int} {x2 : Int} (hc : MC Ω M_Mdl_areSame R' (RI Q) QX' σ [xr (some a), xi x0, xi x1, xi x2]) (hk : sK σ a = 13) (hr1 : R'.frames + 1 ≤ R.frames) (hr2 : 8 + (4 + 11) + R'.locals ≤ R.locals) (hb1 : k + R'.cells ≤ R.cells) (hb2 : n + R'.slots ≤ R.slots) (hst : (st.map catP).sum ≤ 8) (kk : ∀ x σ', Q x σ' → Aw Ω M_Mdl_pair R F (k + R'.cells) (n + R'.slots) 282 L (xi x :: st) σ') (kx : ∀ E σ', QX' E σ' → Ax Ω M_Mdl_pair R F (k + R'.cells) (n + R'.slots) 279 L st σ' E) : Aw Ω M_Mdl_pair R F k n 279 L (xi x2 :: xi x1 :: xi x0 :: xr (some a) :: st) σ :=
  Aw.callV (As := [xi x0, xi x1, xi x2]) (stk := xi x2 :: xi x1 :: xi x0 :: xr (some a) :: st) (nn := 3) 12 M_Mdl_areSame hc ok_Mdl_areSame rfl (by decide) rfl hk ml_Mdl_245 im_Mdl_areSame se_Mdl_areSame ⟨hr1, hr2⟩ rfl ⟨hb1, hb2⟩ hst rfl d_Mdl_pair_279 (fun r σ' h => by obtain ⟨x, rfl, h⟩ := h; exact kk x σ' h) kx
theorem r_Mdl_pair_415 {Ω : Om} {R : Room} {k n : Nat} {L : List PV} {σ : Sto} {QR : Option PV → Sto → Prop} {QX : String → Sto → Prop} {x : Int} (h : QR (some (xi x)) σ) (h1 : k ≤ R.cells) (h2 : n ≤ R.slots) : Aw Ω M_Mdl_pair R (MF Ω R QR QX) k n 415 L [xi x] σ := Aw.iret rfl h h1 h2 d_Mdl_pair_415
theorem e_Mdl_plant {Ω : Om} {R : Room} {QR : Option PV → Sto → Prop} {QX : String → Sto → Prop} {σ : Sto} {a0 : Nat} {v1 : Int} {v2 : Int} (h : Aw Ω M_Mdl_plant R (MF Ω R QR QX) 0 0 0 [xr (some a0), xi v1, xi v2, xu, xu, xu, xu, xu] [] σ) : MC Ω M_Mdl_plant R QR QX σ [xr (some a0), xi v1, xi v2] := MC.body (by decide +kernel) rfl (Nat.le_of_ble_eq_true rfl) rfl h
theorem b_Mdl_plant_0 {Ω : Om} {R : Room} {F : QF} {k n : Nat} {σ : Sto} {a0 : Nat} {v1 : Int} {v2 : Int} (h : sK σ a0 = 13 ∧ (∃ b2 : Nat, fR σ 774 a0 = some b2 ∧ sK σ b2 = 50 ∧ 0 ≤ v2 ∧ v2 < sZ σ b2 ∧ (Q32 (aI σ b2 (v2).toNat) → Aw Ω M_Mdl_plant R F k n 10 [xr (some a0), xi v1, xi v2, xi (aI σ b2 (v2).toNat), xi 0, xu, xu, xu] [] σ))) : Aw Ω M_Mdl_plant R F k n 0 [xr (some a0), xi v1, xi v2, xu, xu, xu, xu, xu] [] σ := by
  refine Aw.aload_n rfl d_Mdl_plant_0 ?_
  obtain ⟨o1, h⟩ := h
  obtain ⟨b2, e3, h⟩ := h
  refine Aw.getRs (f := 774) 12 6 fl_Mdl_20 (by decide) (by decide) rfl rfl o1 e3 d_Mdl_plant_1 ?_
  refine Aw.iload_n rfl d_Mdl_plant_4 ?_
  obtain ⟨o4, h⟩ := h
  obtain ⟨o5, o6, h⟩ := h
  refine Aw.iald o4 o5 o6 d_Mdl_plant_5 (fun r7 => ?_)
  have h := h r7
  refine Aw.istore_n (by decide) d_Mdl_plant_6 ?_
  refine Aw.toL (L' := [xr (some a0), xi v1, xi v2, xi (aI σ b2 (v2).toNat), xu, xu, xu, xu]) rfl ?_
  refine Aw.iconst d_Mdl_plant_7 ?_
  refine Aw.istore (by decide) d_Mdl_plant_8 ?_
  refine Aw.toL (L' := [xr (some a0), xi v1, xi v2, xi (aI σ b2 (v2).toNat), xi 0, xu, xu, xu]) rfl ?_
  exact h
theorem b_Mdl_plant_10 {Ω : Om} {R : Room} {F : QF} {k n : Nat} {σ : Sto} {a0 : Nat} {v1 : Int} {v2 : Int} {v3 : Int} {v4 : Int} (h : Q32 v4 ∧ Q32 v3 ∧ ((v3 ≤ v4 → Aw Ω M_Mdl_plant R F k n 105 [xr (some a0), xi v1, xi v2, xi v3, xi 0, xu, xu, xu] [] σ) ∧ (¬ v3 ≤ v4 → Aw Ω M_Mdl_plant R F k n 22 [xr (some a0), xi v1, xi v2, xi v3, xi v4, xi (-1), xi 0, xu] [] σ))) : Aw Ω M_Mdl_plant R F k n 10 [xr (some a0), xi v1, xi v2, xi v3, xi v4, xu, xu, xu] [] σ := by
  refine Aw.iload rfl d_Mdl_plant_10 ?_
  refine Aw.iload_n rfl d_Mdl_plant_12 ?_
  obtain ⟨o1, h⟩ := h
  obtain ⟨o2, h⟩ := h
  obtain ⟨ht, hf⟩ := h
  refine Aw.icmp_ge (tgt := 102) o1 o2 (by decide) d_Mdl_plant_13 (fun c3 => ?_) (fun c3 => ?_)
  · have h := ht c3
    refine Aw.iconst d_Mdl_plant_102 ?_
    refine Aw.istore (by decide) d_Mdl_plant_103 ?_
    refine Aw.toL (L' := [xr (some a0), xi v1, xi v2, xi v3, xi 0, xu, xu, xu]) rfl ?_
    exact h
  · have h := hf c3
    refine Aw.iconst d_Mdl_plant_16 ?_
    refine Aw.istore (by decide) d_Mdl_plant_17 ?_
    refine Aw.toL (L' := [xr (some a0), xi v1, xi v2, xi v3, xi v4, xi (-1), xu, xu]) rfl ?_
    refine Aw.iconst d_Mdl_plant_19 ?_
    refine Aw.istore (by decide) d_Mdl_plant_20 ?_
    refine Aw.toL (L' := [xr (some a0), xi v1, xi v2, xi v3, xi v4, xi (-1), xi 0, xu]) rfl ?_
    exact h
theorem b_Mdl_plant_22 {Ω : Om} {R : Room} {F : QF} {k n : Nat} {σ : Sto} {a0 : Nat} {v1 : Int} {v2 : Int} {v3 : Int} {v4 : Int} {v5 : Int} {v6 : Int} (h : Q32 v6 ∧ Q32 v4 ∧ ((v4 ≤ v6 → sK σ a0 = 13 ∧ (∃ b4 : Nat, fR σ 817 a0 = some b4 ∧ sK σ b4 = 50 ∧ 0 ≤ v4 ∧ v4 < sZ σ b4 ∧ Q32 v5 ∧ Aw Ω M_Mdl_plant R F k n 10 [xr (some a0), xi v1, xi v2, xi v3, xi (v4 + 1), xu, xu, xu] [] (vI σ b4 (v4).toNat v5))) ∧ (¬ v4 ≤ v6 → sK σ a0 = 13 ∧ (∃ b11 : Nat, fR σ 770 a0 = some b11 ∧ (∃ b13 : Nat, fR σ 775 a0 = some b13 ∧ sK σ b13 = 50 ∧ 0 ≤ ((20 * v2) + v6) ∧ ((20 * v2) + v6) < sZ σ b13 ∧ (Q32 (aI σ b13 ((20 * v2) + v6).toNat) → sK σ b11 = 51 ∧ 0 ≤ (aI σ b13 ((20 * v2) + v6).toNat) ∧ (aI σ b13 ((20 * v2) + v6).toNat) < sZ σ b11 ∧ Aw Ω M_Mdl_plant R F k n 46 [xr (some a0), xi v1, xi v2, xi v3, xi v4, xi v5, xi v6, xu] [xl (aL σ b11 (aI σ b13 ((20 * v2) + v6).toNat).toNat)] σ)))))) : Aw Ω M_Mdl_plant R F k n 22 [xr (some a0), xi v1, xi v2, xi v3, xi v4, xi v5, xi v6, xu] [] σ := by
  refine Aw.iload rfl d_Mdl_plant_22 ?_
  refine Aw.iload rfl d_Mdl_plant_24 ?_
  obtain ⟨o1, h⟩ := h
  obtain ⟨o2, h⟩ := h
  obtain ⟨ht, hf⟩ := h
  refine Aw.icmp_ge (tgt := 87) o1 o2 (by decide) d_Mdl_plant_26 (fun c22 => ?_) (fun c22 => ?_)
  · have h := ht c22
    refine Aw.aload_n rfl d_Mdl_plant_87 ?_
    obtain ⟨o3, h⟩ := h
    obtain ⟨b4, e5, h⟩ := h
    refine Aw.getRs (f := 817) 12 49 fl_Mdl_111 (by decide) (by decide) rfl rfl o3 e5 d_Mdl_plant_88 ?_
    refine Aw.iload rfl d_Mdl_plant_91 ?_
    refine Aw.iload rfl d_Mdl_plant_93 ?_
    obtain ⟨o6, h⟩ := h
    obtain ⟨o7, o8, h⟩ := h
    obtain ⟨o9, h⟩ := h
    refine Aw.iast o6 o7 o8 o9 d_Mdl_plant_95 ?_
    refine Aw.iinc rfl d_Mdl_plant_96 ?_
    refine Aw.toL (L' := [xr (some a0), xi v1, xi v2, xi v3, xi (v4 + 1), xi v5, xi v6, xu]) rfl ?_
    refine Aw.goto (tgt := 10) (by decide) d_Mdl_plant_99 ?_
    exact Aw.toW (L' := [xr (some a0), xi v1, xi v2, xi v3, xi (v4 + 1), xu, xu, xu]) ⟨Or.inr rfl, Or.inr rfl, Or.inr rfl, Or.inr rfl, Or.inr rfl, Or.inl rfl, Or.inl rfl, Or.inr rfl, trivial⟩ h
  · have h := hf c22
    refine Aw.aload_n rfl d_Mdl_plant_29 ?_
    obtain ⟨o10, h⟩ := h
    obtain ⟨b11, e12, h⟩ := h
    refine Aw.getRs (f := 770) 12 2 fl_Mdl_7 (by decide) (by decide) rfl rfl o10 e12 d_Mdl_plant_30 ?_
    refine Aw.aload_n rfl d_Mdl_plant_33 ?_
    obtain ⟨b13, e14, h⟩ := h
    refine Aw.getRs (f := 775) 12 7 fl_Mdl_23 (by decide) (by decide) rfl rfl o10 e14 d_Mdl_plant_34 ?_
    refine Aw.bipush (by decide) d_Mdl_plant_37 ?_
    refine Aw.iload_n rfl d_Mdl_plant_39 ?_
    refine Aw.imul d_Mdl_plant_40 ?_
    refine Aw.iload rfl d_Mdl_plant_41 ?_
    refine Aw.iadd d_Mdl_plant_43 ?_
    obtain ⟨o15, h⟩ := h
    obtain ⟨o16, o17, h⟩ := h
    refine Aw.iald o15 o16 o17 d_Mdl_plant_44 (fun r18 => ?_)
    have h := h r18
    obtain ⟨o19, h⟩ := h
    obtain ⟨o20, o21, h⟩ := h
    refine Aw.lald o19 o20 o21 d_Mdl_plant_45 ?_
    exact h
theorem b_Mdl_plant_49 {Ω : Om} {R : Room} {F : QF} {k n : Nat} {σ : Sto} {a0 : Nat} {v1 : Int} {v2 : Int} {v3 : Int} {v4 : Int} {v5 : Int} {v6 : Int} {s0 : Int} (h : sK σ a0 = 13 ∧ (∃ b2 : Nat, fR σ 770 a0 = some b2 ∧ (∃ b4 : Nat, fR σ 775 a0 = some b4 ∧ sK σ b4 = 50 ∧ 0 ≤ ((20 * v2) + v4) ∧ ((20 * v2) + v4) < sZ σ b4 ∧ (Q32 (aI σ b4 ((20 * v2) + v4).toNat) → sK σ b2 = 51 ∧ 0 ≤ (aI σ b4 ((20 * v2) + v4).toNat) ∧ (aI σ b4 ((20 * v2) + v4).toNat) < sZ σ b2 ∧ Aw Ω M_Mdl_plant R F k n 66 [xr (some a0), xi v1, xi v2, xi v3, xi v4, xi v5, xi v6, xu] [xl (aL σ b2 (aI σ b4 ((20 * v2) + v4).toNat).toNat), xi s0] σ)))) : Aw Ω M_Mdl_plant R F k n 49 [xr (some a0), xi v1, xi v2, xi v3, xi v4, xi v5, xi v6, xu] [xi s0] σ := by
  refine Aw.aload_n rfl d_Mdl_plant_49 ?_
  obtain ⟨o1, h⟩ := h
  obtain ⟨b2, e3, h⟩ := h
  refine Aw.getRs (f := 770) 12 2 fl_Mdl_7 (by decide) (by decide) rfl rfl o1 e3 d_Mdl_plant_50 ?_
  refine Aw.aload_n rfl d_Mdl_plant_53 ?_
  obtain ⟨b4, e5, h⟩ := h
  refine Aw.getRs (f := 775) 12 7 fl_Mdl_23 (by decide) (by decide) rfl rfl o1 e5 d_Mdl_plant_54 ?_
  refine Aw.bipush (by decide) d_Mdl_plant_57 ?_
  refine Aw.iload_n rfl d_Mdl_plant_59 ?_
  refine Aw.imul d_Mdl_plant_60 ?_
  refine Aw.iload rfl d_Mdl_plant_61 ?_
  refine Aw.iadd d_Mdl_plant_63 ?_
  obtain ⟨o6, h⟩ := h
  obtain ⟨o7, o8, h⟩ := h
  refine Aw.iald o6 o7 o8 d_Mdl_plant_64 (fun r9 => ?_)
  have h := h r9
  obtain ⟨o10, h⟩ := h
  obtain ⟨o11, o12, h⟩ := h
  refine Aw.lald o10 o11 o12 d_Mdl_plant_65 ?_
  exact h
theorem b_Mdl_plant_69 {Ω : Om} {R : Room} {F : QF} {k n : Nat} {σ : Sto} {a0 : Nat} {v1 : Int} {v2 : Int} {v3 : Int} {v4 : Int} {v5 : Int} {v6 : Int} {s0 : Int} {s1 : Int} (h : Q32 s0 ∧ Q32 s1 ∧ ((s1 ≤ s0 → Aw Ω M_Mdl_plant R F k n 22 [xr (some a0), xi v1, xi v2, xi v3, xi v4, xi v5, xi (v6 + 1), xu] [] σ) ∧ (¬ s1 ≤ s0 → Aw Ω M_Mdl_plant R F k n 22 [xr (some a0), xi v1, xi v2, xi v3, xi v4, xi v6, xi (v6 + 1), xu] [] σ))) : Aw Ω M_Mdl_plant R F k n 69 [xr (some a0), xi v1, xi v2, xi v3, xi v4, xi v5, xi v6, xu] [xi s1, xi s0] σ := by
  obtain ⟨o1, h⟩ := h
  obtain ⟨o2, h⟩ := h
  obtain ⟨ht, hf⟩ := h
  refine Aw.icmp_ge (tgt := 77) o1 o2 (by decide) d_Mdl_plant_69 (fun c3 => ?_) (fun c3 => ?_)
  · have h := ht c3
    refine Aw.iload rfl d_Mdl_plant_77 ?_
    refine Aw.istore (by decide) d_Mdl_plant_79 ?_
    refine Aw.toL (L' := [xr (some a0), xi v1, xi v2, xi v3, xi v4, xi v5, xi v6, xu]) rfl ?_
    refine Aw.iinc rfl d_Mdl_plant_81 ?_
    refine Aw.toL (L' := [xr (some a0), xi v1, xi v2, xi v3, xi v4, xi v5, xi (v6 + 1), xu]) rfl ?_
    refine Aw.goto (tgt := 22) (by decide) d_Mdl_plant_84 ?_
    exact h
  · have h := hf c3
    refine Aw.iload rfl d_Mdl_plant_72 ?_
    refine Aw.goto (tgt := 79) (by decide) d_Mdl_plant_74 ?_
    refine Aw.istore (by decide) d_Mdl_plant_79 ?_
    refine Aw.toL (L' := [xr (some a0), xi v1, xi v2, xi v3, xi v4, xi v6, xi v6, xu]) rfl ?_
    refine Aw.iinc rfl d_Mdl_plant_81 ?_
    refine Aw.toL (L' := [xr (some a0), xi v1, xi v2, xi v3, xi v4, xi v6, xi (v6 + 1), xu]) rfl ?_
    refine Aw.goto (tgt := 22) (by decide) d_Mdl_plant_84 ?_
    exact h
theorem b_Mdl_plant_105 {Ω : Om} {R : Room} {F : QF} {k n : Nat} {σ : Sto} {a0 : Nat} {v1 : Int} {v2 : Int} {v3 : Int} {v4 : Int} (h : Q32 v4 ∧ Q32 v3 ∧ ((v3 ≤ v4 → sK σ a0 = 13 ∧ (∃ b4 : Nat, fR σ 815 a0 = some b4 ∧ sK σ b4 = 50 ∧ 0 ≤ (((22 * v1) + v3) + 1) ∧ (((22 * v1) + v3) + 1) < sZ σ b4 ∧ (∃ b9 : Nat, fR σ 816 a0 = some b9 ∧ sK σ b9 = 50 ∧ 0 ≤ (((22 * v1) + v3) + 1) ∧ (((22 * v1) + v3) + 1) < sZ σ b9 ∧ Aw Ω M_Mdl_plant R F k n 266 [xr (some a0), xi v1, xi v2, xi v3, xi v4, xu, xu, xu] [] (vI (vI σ b4 (((22 * v1) + v3) + 1).toNat (-1)) b9 (((22 * v1) + v3) + 1).toNat 1)))) ∧ (¬ v3 ≤ v4 → Aw Ω M_Mdl_plant R F k n 120 [xr (some a0), xi v1, xi v2, xi v3, xi v4, xi 0, xi (v4 + 1), xu] [] σ))) : Aw Ω M_Mdl_plant R F k n 105 [xr (some a0), xi v1, xi v2, xi v3, xi v4, xu, xu, xu] [] σ := by
  refine Aw.iload rfl d_Mdl_plant_105 ?_
  refine Aw.iload_n rfl d_Mdl_plant_107 ?_
  obtain ⟨o1, h⟩ := h
  obtain ⟨o2, h⟩ := h
  obtain ⟨ht, hf⟩ := h
  refine Aw.icmp_ge (tgt := 238) o1 o2 (by decide) d_Mdl_plant_108 (fun c14 => ?_) (fun c14 => ?_)
  · have h := ht c14
    refine Aw.aload_n rfl d_Mdl_plant_238 ?_
    obtain ⟨o3, h⟩ := h
    obtain ⟨b4, e5, h⟩ := h
    refine Aw.getRs (f := 815) 12 47 fl_Mdl_105 (by decide) (by decide) rfl rfl o3 e5 d_Mdl_plant_239 ?_
    refine Aw.bipush (by decide) d_Mdl_plant_242 ?_
    refine Aw.iload_n rfl d_Mdl_plant_244 ?_
    refine Aw.imul d_Mdl_plant_245 ?_
    refine Aw.iload_n rfl d_Mdl_plant_246 ?_
    refine Aw.iadd d_Mdl_plant_247 ?_
    refine Aw.iconst d_Mdl_plant_248 ?_
    refine Aw.iadd d_Mdl_plant_249 ?_
    refine Aw.iconst d_Mdl_plant_250 ?_
    obtain ⟨o6, h⟩ := h
    obtain ⟨o7, o8, h⟩ := h
    refine Aw.iast o6 o7 o8 ⟨by decide, by decide⟩ d_Mdl_plant_251 ?_
    refine Aw.aload_n rfl d_Mdl_plant_252 ?_
    obtain ⟨b9, e10, h⟩ := h
    refine Aw.getRs (f := 816) 12 48 fl_Mdl_108 (by decide) (by decide) rfl rfl o3 e10 d_Mdl_plant_253 ?_
    refine Aw.bipush (by decide) d_Mdl_plant_256 ?_
    refine Aw.iload_n rfl d_Mdl_plant_258 ?_
    refine Aw.imul d_Mdl_plant_259 ?_
    refine Aw.iload_n rfl d_Mdl_plant_260 ?_
    refine Aw.iadd d_Mdl_plant_261 ?_
    refine Aw.iconst d_Mdl_plant_262 ?_
    refine Aw.iadd d_Mdl_plant_263 ?_
    refine Aw.iconst d_Mdl_plant_264 ?_
    obtain ⟨o11, h⟩ := h
    obtain ⟨o12, o13, h⟩ := h
    refine Aw.iast o11 o12 o13 ⟨by decide, by decide⟩ d_Mdl_plant_265 ?_
    exact h
  · have h := hf c14
    refine Aw.iconst d_Mdl_plant_111 ?_
    refine Aw.istore (by decide) d_Mdl_plant_112 ?_
    refine Aw.toL (L' := [xr (some a0), xi v1, xi v2, xi v3, xi v4, xi 0, xu, xu]) rfl ?_
    refine Aw.iload rfl d_Mdl_plant_114 ?_
    refine Aw.iconst d_Mdl_plant_116 ?_
    refine Aw.iadd d_Mdl_plant_117 ?_
    refine Aw.istore (by decide) d_Mdl_plant_118 ?_
    refine Aw.toL (L' := [xr (some a0), xi v1, xi v2, xi v3, xi v4, xi 0, xi (v4 + 1), xu]) rfl ?_
    exact h
theorem b_Mdl_plant_120 {Ω : Om} {R : Room} {F : QF} {k n : Nat} {σ : Sto} {a0 : Nat} {v1 : Int} {v2 : Int} {v3 : Int} {v4 : Int} {v5 : Int} {v6 : Int} (h : Q32 v6 ∧ Q32 v3 ∧ ((v3 ≤ v6 → sK σ a0 = 13 ∧ (∃ b4 : Nat, fR σ 817 a0 = some b4 ∧ sK σ b4 = 50 ∧ 0 ≤ v4 ∧ v4 < sZ σ b4 ∧ (Q32 (aI σ b4 (v4).toNat) → Aw Ω M_Mdl_plant R F k n 158 [xr (some a0), xi v1, xi v2, xi v3, xi v4, xi v5, xi 0, xi (aI σ b4 (v4).toNat)] [] σ))) ∧ (¬ v3 ≤ v6 → Aw Ω M_Mdl_plant R F k n 131 [xr (some a0), xi v1, xi v2, xi v3, xi v4, xi v5, xi v6, xu] [xi v4, xi v6, xr (some a0)] σ))) : Aw Ω M_Mdl_plant R F k n 120 [xr (some a0), xi v1, xi v2, xi v3, xi v4, xi v5, xi v6, xu] [] σ := by
  refine Aw.iload rfl d_Mdl_plant_120 ?_
  refine Aw.iload_n rfl d_Mdl_plant_122 ?_
  obtain ⟨o1, h⟩ := h
  obtain ⟨o2, h⟩ := h
  obtain ⟨ht, hf⟩ := h
  refine Aw.icmp_ge (tgt := 146) o1 o2 (by decide) d_Mdl_plant_123 (fun c10 => ?_) (fun c10 => ?_)
  · have h := ht c10
    refine Aw.iconst d_Mdl_plant_146 ?_
    refine Aw.istore (by decide) d_Mdl_plant_147 ?_
    refine Aw.toL (L' := [xr (some a0), xi v1, xi v2, xi v3, xi v4, xi v5, xi 0, xu]) rfl ?_
    refine Aw.aload_n rfl d_Mdl_plant_149 ?_
    obtain ⟨o3, h⟩ := h
    obtain ⟨b4, e5, h⟩ := h
    refine Aw.getRs (f := 817) 12 49 fl_Mdl_111 (by decide) (by decide) rfl rfl o3 e5 d_Mdl_plant_150 ?_
    refine Aw.iload rfl d_Mdl_plant_153 ?_
    obtain ⟨o6, h⟩ := h
    obtain ⟨o7, o8, h⟩ := h
    refine Aw.iald o6 o7 o8 d_Mdl_plant_155 (fun r9 => ?_)
    have h := h r9
    refine Aw.istore (by decide) d_Mdl_plant_156 ?_
    refine Aw.toL (L' := [xr (some a0), xi v1, xi v2, xi v3, xi v4, xi v5, xi 0, xi (aI σ b4 (v4).toNat)]) rfl ?_
    exact h
  · have h := hf c10
    refine Aw.aload_n rfl d_Mdl_plant_126 ?_
    refine Aw.iload rfl d_Mdl_plant_127 ?_
    refine Aw.iload rfl d_Mdl_plant_129 ?_
    exact h
theorem b_Mdl_plant_134 {Ω : Om} {R : Room} {F : QF} {k n : Nat} {σ : Sto} {a0 : Nat} {v1 : Int} {v2 : Int} {v3 : Int} {v4 : Int} {v5 : Int} {v6 : Int} {s0 : Int} (h : Q32 s0 ∧ ((s0 = (0 : Int) → sK σ a0 = 13 ∧ (∃ b3 : Nat, fR σ 817 a0 = some b3 ∧ sK σ b3 = 50 ∧ 0 ≤ v4 ∧ v4 < sZ σ b3 ∧ (Q32 (aI σ b3 (v4).toNat) → Aw Ω M_Mdl_plant R F k n 158 [xr (some a0), xi v1, xi v2, xi v3, xi v4, xi v5, xi 0, xi (aI σ b3 (v4).toNat)] [] σ))) ∧ (¬ s0 = (0 : Int) → Aw Ω M_Mdl_plant R F k n 120 [xr (some a0), xi v1, xi v2, xi v3, xi v4, xi (v5 + 1), xi (v6 + 1), xu] [] σ))) : Aw Ω M_Mdl_plant R F k n 134 [xr (some a0), xi v1, xi v2, xi v3, xi v4, xi v5, xi v6, xu] [xi s0] σ := by
  obtain ⟨o1, h⟩ := h
  obtain ⟨ht, hf⟩ := h
  refine Aw.if_eq (tgt := 146) o1 (by decide) d_Mdl_plant_134 (fun c9 => ?_) (fun c9 => ?_)
  · have h := ht c9
    refine Aw.iconst d_Mdl_plant_146 ?_
    refine Aw.istore (by decide) d_Mdl_plant_147 ?_
    refine Aw.toL (L' := [xr (some a0), xi v1, xi v2, xi v3, xi v4, xi v5, xi 0, xu]) rfl ?_
    refine Aw.aload_n rfl d_Mdl_plant_149 ?_
    obtain ⟨o2, h⟩ := h
    obtain ⟨b3, e4, h⟩ := h
    refine Aw.getRs (f := 817) 12 49 fl_Mdl_111 (by decide) (by decide) rfl rfl o2 e4 d_Mdl_plant_150 ?_
    refine Aw.iload rfl d_Mdl_plant_153 ?_
    obtain ⟨o5, h⟩ := h
    obtain ⟨o6, o7, h⟩ := h
    refine Aw.iald o5 o6 o7 d_Mdl_plant_155 (fun r8 => ?_)
    have h := h r8
    refine Aw.istore (by decide) d_Mdl_plant_156 ?_
    refine Aw.toL (L' := [xr (some a0), xi v1, xi v2, xi v3, xi v4, xi v5, xi 0, xi (aI σ b3 (v4).toNat)]) rfl ?_
    exact h
  · have h := hf c9
    refine Aw.iinc rfl d_Mdl_plant_137 ?_
    refine Aw.toL (L' := [xr (some a0), xi v1, xi v2, xi v3, xi v4, xi (v5 + 1), xi v6, xu]) rfl ?_
    refine Aw.iinc rfl d_Mdl_plant_140 ?_
    refine Aw.toL (L' := [xr (some a0), xi v1, xi v2, xi v3, xi v4, xi (v5 + 1), xi (v6 + 1), xu]) rfl ?_
    refine Aw.goto (tgt := 120) (by decide) d_Mdl_plant_143 ?_
    exact h
theorem b_Mdl_plant_158 {Ω : Om} {R : Room} {F : QF} {k n : Nat} {σ : Sto} {a0 : Nat} {v1 : Int} {v2 : Int} {v3 : Int} {v4 : Int} {v5 : Int} {v6 : Int} {v7 : Int} (h : Q32 v7 ∧ ((v7 = (-1 : Int) → sK σ a0 = 13 ∧ (∃ b3 : Nat, fR σ 815 a0 = some b3 ∧ (∃ b5 : Nat, fR σ 775 a0 = some b5 ∧ sK σ b5 = 50 ∧ 0 ≤ ((20 * v2) + v4) ∧ ((20 * v2) + v4) < sZ σ b5 ∧ (Q32 (aI σ b5 ((20 * v2) + v4).toNat) → sK σ b3 = 50 ∧ 0 ≤ ((22 * v1) + (((v4 - v6) + v5) + 1)) ∧ ((22 * v1) + (((v4 - v6) + v5) + 1)) < sZ σ b3 ∧ (∃ b14 : Nat, fR σ 816 a0 = some b14 ∧ sK σ b14 = 50 ∧ 0 ≤ ((22 * v1) + (((v4 - v6) + v5) + 1)) ∧ ((22 * v1) + (((v4 - v6) + v5) + 1)) < sZ σ b14 ∧ Q32 ((((v4 - v6) + v5) + 1) - v5) ∧ Aw Ω M_Mdl_plant R F k n 105 [xr (some a0), xi v1, xi v2, xi v3, xi (v4 + 1), xu, xu, xu] [] (vI (vI σ b3 ((22 * v1) + (((v4 - v6) + v5) + 1)).toNat (aI σ b5 ((20 * v2) + v4).toNat)) b14 ((22 * v1) + (((v4 - v6) + v5) + 1)).toNat ((((v4 - v6) + v5) + 1) - v5))))))) ∧ (¬ v7 = (-1 : Int) → sK σ a0 = 13 ∧ (∃ b21 : Nat, fR σ 817 a0 = some b21 ∧ sK σ b21 = 50 ∧ 0 ≤ v7 ∧ v7 < sZ σ b21 ∧ (Q32 (aI σ b21 (v7).toNat) → Aw Ω M_Mdl_plant R F k n 158 [xr (some a0), xi v1, xi v2, xi v3, xi v4, xi v5, xi (v6 + 1), xi (aI σ b21 (v7).toNat)] [] σ))))) : Aw Ω M_Mdl_plant R F k n 158 [xr (some a0), xi v1, xi v2, xi v3, xi v4, xi v5, xi v6, xi v7] [] σ := by
  refine Aw.iload rfl d_Mdl_plant_158 ?_
  refine Aw.iconst d_Mdl_plant_160 ?_
  obtain ⟨o1, h⟩ := h
  obtain ⟨ht, hf⟩ := h
  refine Aw.icmp_eq (tgt := 179) o1 ⟨by decide, by decide⟩ (by decide) d_Mdl_plant_161 (fun c27 => ?_) (fun c27 => ?_)
  · have h := ht c27
    refine Aw.iload rfl d_Mdl_plant_179 ?_
    refine Aw.iload rfl d_Mdl_plant_181 ?_
    refine Aw.isub d_Mdl_plant_183 ?_
    refine Aw.iload rfl d_Mdl_plant_184 ?_
    refine Aw.iadd d_Mdl_plant_186 ?_
    refine Aw.iconst d_Mdl_plant_187 ?_
    refine Aw.iadd d_Mdl_plant_188 ?_
    refine Aw.istore (by decide) d_Mdl_plant_189 ?_
    refine Aw.toL (L' := [xr (some a0), xi v1, xi v2, xi v3, xi v4, xi v5, xi v6, xi (((v4 - v6) + v5) + 1)]) rfl ?_
    refine Aw.aload_n rfl d_Mdl_plant_191 ?_
    obtain ⟨o2, h⟩ := h
    obtain ⟨b3, e4, h⟩ := h
    refine Aw.getRs (f := 815) 12 47 fl_Mdl_105 (by decide) (by decide) rfl rfl o2 e4 d_Mdl_plant_192 ?_
    refine Aw.bipush (by decide) d_Mdl_plant_195 ?_
    refine Aw.iload_n rfl d_Mdl_plant_197 ?_
    refine Aw.imul d_Mdl_plant_198 ?_
    refine Aw.iload rfl d_Mdl_plant_199 ?_
    refine Aw.iadd d_Mdl_plant_201 ?_
    refine Aw.aload_n rfl d_Mdl_plant_202 ?_
    obtain ⟨b5, e6, h⟩ := h
    refine Aw.getRs (f := 775) 12 7 fl_Mdl_23 (by decide) (by decide) rfl rfl o2 e6 d_Mdl_plant_203 ?_
    refine Aw.bipush (by decide) d_Mdl_plant_206 ?_
    refine Aw.iload_n rfl d_Mdl_plant_208 ?_
    refine Aw.imul d_Mdl_plant_209 ?_
    refine Aw.iload rfl d_Mdl_plant_210 ?_
    refine Aw.iadd d_Mdl_plant_212 ?_
    obtain ⟨o7, h⟩ := h
    obtain ⟨o8, o9, h⟩ := h
    refine Aw.iald o7 o8 o9 d_Mdl_plant_213 (fun r10 => ?_)
    have h := h r10
    obtain ⟨o11, h⟩ := h
    obtain ⟨o12, o13, h⟩ := h
    refine Aw.iast o11 o12 o13 r10 d_Mdl_plant_214 ?_
    refine Aw.aload_n rfl d_Mdl_plant_215 ?_
    obtain ⟨b14, e15, h⟩ := h
    refine Aw.getRs (f := 816) 12 48 fl_Mdl_108 (by decide) (by decide) rfl rfl o2 e15 d_Mdl_plant_216 ?_
    refine Aw.bipush (by decide) d_Mdl_plant_219 ?_
    refine Aw.iload_n rfl d_Mdl_plant_221 ?_
    refine Aw.imul d_Mdl_plant_222 ?_
    refine Aw.iload rfl d_Mdl_plant_223 ?_
    refine Aw.iadd d_Mdl_plant_225 ?_
    refine Aw.iload rfl d_Mdl_plant_226 ?_
    refine Aw.iload rfl d_Mdl_plant_228 ?_
    refine Aw.isub d_Mdl_plant_230 ?_
    obtain ⟨o16, h⟩ := h
    obtain ⟨o17, o18, h⟩ := h
    obtain ⟨o19, h⟩ := h
    refine Aw.iast o16 o17 o18 o19 d_Mdl_plant_231 ?_
    refine Aw.iinc rfl d_Mdl_plant_232 ?_
    refine Aw.toL (L' := [xr (some a0), xi v1, xi v2, xi v3, xi (v4 + 1), xi v5, xi v6, xi (((v4 - v6) + v5) + 1)]) rfl ?_
    refine Aw.goto (tgt := 105) (by decide) d_Mdl_plant_235 ?_
    exact Aw.toW (L' := [xr (some a0), xi v1, xi v2, xi v3, xi (v4 + 1), xu, xu, xu]) ⟨Or.inr rfl, Or.inr rfl, Or.inr rfl, Or.inr rfl, Or.inr rfl, Or.inl rfl, Or.inl rfl, Or.inl rfl, trivial⟩ h
  · have h := hf c27
    refine Aw.iinc rfl d_Mdl_plant_164 ?_
    refine Aw.toL (L' := [xr (some a0), xi v1, xi v2, xi v3, xi v4, xi v5, xi (v6 + 1), xi v7]) rfl ?_
    refine Aw.aload_n rfl d_Mdl_plant_167 ?_
    obtain ⟨o20, h⟩ := h
    obtain ⟨b21, e22, h⟩ := h
    refine Aw.getRs (f := 817) 12 49 fl_Mdl_111 (by decide) (by decide) rfl rfl o20 e22 d_Mdl_plant_168 ?_
    refine Aw.iload rfl d_Mdl_plant_171 ?_
    obtain ⟨o23, h⟩ := h
    obtain ⟨o24, o25, h⟩ := h
    refine Aw.iald o23 o24 o25 d_Mdl_plant_173 (fun r26 => ?_)
    have h := h r26
    refine Aw.istore (by decide) d_Mdl_plant_174 ?_
    refine Aw.toL (L' := [xr (some a0), xi v1, xi v2, xi v3, xi v4, xi v5, xi (v6 + 1), xi (aI σ b21 (v7).toNat)]) rfl ?_
    refine Aw.goto (tgt := 158) (by decide) d_Mdl_plant_176 ?_
    exact h
theorem c_Mdl_plant_46 {Ω : Om} {R R' : Room} {F : QF} {k n : Nat} {L st : List PV} {σ : Sto} {QX' : String → Sto → Prop} {Q : Int → Sto → Prop} {x0 : Int64} (hc : MC Ω M_Mdl_depth R' (RI Q) QX' σ [xl x0]) (hr1 : R'.frames + 1 ≤ R.frames) (hr2 : 8 + (3 + 11) + R'.locals ≤ R.locals) (hb1 : k + R'.cells ≤ R.cells) (hb2 : n + R'.slots ≤ R.slots) (hst : (st.map catP).sum ≤ 8) (kk : ∀ x σ', Q x σ' → Aw Ω M_Mdl_plant R F (k + R'.cells) (n + R'.slots) 49 L (xi x :: st) σ') (kx : ∀ E σ', QX' E σ' → Ax Ω M_Mdl_plant R F (k + R'.cells) (n + R'.slots) 46 L st σ' E) : Aw Ω M_Mdl_plant R F k n 46 L (xl x0 :: st) σ :=
  Aw.callS (As := [xl x0]) (stk := xl x0 :: st) (nn := 1) M_Mdl_depth hc ok_Mdl_depth rfl ml_Mdl_268 sta_Mdl_depth ⟨hr1, hr2⟩ rfl ⟨hb1, hb2⟩ hst rfl d_Mdl_plant_46 (fun r σ' h => by obtain ⟨x, rfl, h⟩ := h; exact kk x σ' h) kx
theorem c_Mdl_plant_66 {Ω : Om} {R R' : Room} {F : QF} {k n : Nat} {L st : List PV} {σ : Sto} {QX' : String → Sto → Prop} {Q : Int → Sto → Prop} {x0 : Int64} (hc : MC Ω M_Mdl_depth R' (RI Q) QX' σ [xl x0]) (hr1 : R'.frames + 1 ≤ R.frames) (hr2 : 8 + (3 + 11) + R'.locals ≤ R.locals) (hb1 : k + R'.cells ≤ R.cells) (hb2 : n + R'.slots ≤ R.slots) (hst : (st.map catP).sum ≤ 8) (kk : ∀ x σ', Q x σ' → Aw Ω M_Mdl_plant R F (k + R'.cells) (n + R'.slots) 69 L (xi x :: st) σ') (kx : ∀ E σ', QX' E σ' → Ax Ω M_Mdl_plant R F (k + R'.cells) (n + R'.slots) 66 L st σ' E) : Aw Ω M_Mdl_plant R F k n 66 L (xl x0 :: st) σ :=
  Aw.callS (As := [xl x0]) (stk := xl x0 :: st) (nn := 1) M_Mdl_depth hc ok_Mdl_depth rfl ml_Mdl_268 sta_Mdl_depth ⟨hr1, hr2⟩ rfl ⟨hb1, hb2⟩ hst rfl d_Mdl_plant_66 (fun r σ' h => by obtain ⟨x, rfl, h⟩ := h; exact kk x σ' h) kx
theorem c_Mdl_plant_131 {Ω : Om} {R R' : Room} {F : QF} {k n : Nat} {L st : List PV} {σ : Sto} {QX' : String → Sto → Prop} {Q : Int → Sto → Prop} {a : Nat} {x0 : Int} {x1 : Int} (hc : MC Ω M_Mdl_isBelow R' (RI Q) QX' σ [xr (some a), xi x0, xi x1]) (hk : sK σ a = 13) (hr1 : R'.frames + 1 ≤ R.frames) (hr2 : 8 + (4 + 11) + R'.locals ≤ R.locals) (hb1 : k + R'.cells ≤ R.cells) (hb2 : n + R'.slots ≤ R.slots) (hst : (st.map catP).sum ≤ 8) (kk : ∀ x σ', Q x σ' → Aw Ω M_Mdl_plant R F (k + R'.cells) (n + R'.slots) 134 L (xi x :: st) σ') (kx : ∀ E σ', QX' E σ' → Ax Ω M_Mdl_plant R F (k + R'.cells) (n + R'.slots) 131 L st σ' E) : Aw Ω M_Mdl_plant R F k n 131 L (xi x1 :: xi x0 :: xr (some a) :: st) σ :=
  Aw.callV (As := [xi x0, xi x1]) (stk := xi x1 :: xi x0 :: xr (some a) :: st) (nn := 2) 12 M_Mdl_isBelow hc ok_Mdl_isBelow rfl (by decide) rfl hk ml_Mdl_271 im_Mdl_isBelow se_Mdl_isBelow ⟨hr1, hr2⟩ rfl ⟨hb1, hb2⟩ hst rfl d_Mdl_plant_131 (fun r σ' h => by obtain ⟨x, rfl, h⟩ := h; exact kk x σ' h) kx
theorem r_Mdl_plant_266 {Ω : Om} {R : Room} {k n : Nat} {L : List PV} {σ : Sto} {QR : Option PV → Sto → Prop} {QX : String → Sto → Prop} (h : QR none σ) (h1 : k ≤ R.cells) (h2 : n ≤ R.slots) : Aw Ω M_Mdl_plant R (MF Ω R QR QX) k n 266 L [] σ := Aw.vret rfl h h1 h2 d_Mdl_plant_266
theorem e_Mdl_renew {Ω : Om} {R : Room} {QR : Option PV → Sto → Prop} {QX : String → Sto → Prop} {σ : Sto} {a0 : Nat} {v1 : Int} {v2 : Int} (h : Aw Ω M_Mdl_renew R (MF Ω R QR QX) 0 0 0 [xr (some a0), xi v1, xi v2, xu, xu, xu, xu, xu, xu, xu] [] σ) : MC Ω M_Mdl_renew R QR QX σ [xr (some a0), xi v1, xi v2] := MC.body (by decide +kernel) rfl (Nat.le_of_ble_eq_true rfl) rfl h
theorem b_Mdl_renew_0 {Ω : Om} {R : Room} {F : QF} {k n : Nat} {σ : Sto} {a0 : Nat} {v1 : Int} {v2 : Int} (h : Aw Ω M_Mdl_renew R F k n 2 [xr (some a0), xi v1, xi v2, xu, xu, xu, xu, xu, xu, xu] [xi v1, xr (some a0)] σ) : Aw Ω M_Mdl_renew R F k n 0 [xr (some a0), xi v1, xi v2, xu, xu, xu, xu, xu, xu, xu] [] σ := by
  refine Aw.aload_n rfl d_Mdl_renew_0 ?_
  refine Aw.iload_n rfl d_Mdl_renew_1 ?_
  exact h
theorem b_Mdl_renew_5 {Ω : Om} {R : Room} {F : QF} {k n : Nat} {σ : Sto} {a0 : Nat} {v1 : Int} {v2 : Int} {s0 : Int} (h : Q32 s0 ∧ ((s0 = (0 : Int) → Aw Ω M_Mdl_renew R F k n 75 [xr (some a0), xi v1, xi v2, xi 0, xi 0, xu, xu, xu, xu, xu] [xi 1, xr (some a0)] σ) ∧ (¬ s0 = (0 : Int) → Aw Ω M_Mdl_renew R F k n 10 [xr (some a0), xi v1, xi v2, xu, xu, xu, xu, xu, xu, xu] [xi v2, xr (some a0)] σ))) : Aw Ω M_Mdl_renew R F k n 5 [xr (some a0), xi v1, xi v2, xu, xu, xu, xu, xu, xu, xu] [xi s0] σ := by
  obtain ⟨o1, h⟩ := h
  obtain ⟨ht, hf⟩ := h
  refine Aw.if_eq (tgt := 20) o1 (by decide) d_Mdl_renew_5 (fun c4 => ?_) (fun c4 => ?_)
  · have h := ht c4
    refine Aw.iconst d_Mdl_renew_20 ?_
    refine Aw.istore_n (by decide) d_Mdl_renew_21 ?_
    refine Aw.toL (L' := [xr (some a0), xi v1, xi v2, xi 0, xu, xu, xu, xu, xu, xu]) rfl ?_
    refine Aw.iload_n rfl d_Mdl_renew_22 ?_
    refine Aw.if_eq (tgt := 53) ⟨by decide, by decide⟩ (by decide) d_Mdl_renew_23 (fun c3 => ?_) (fun c3 => absurd c3 (by decide))
    refine Aw.iconst d_Mdl_renew_53 ?_
    refine Aw.istore (by decide) d_Mdl_renew_54 ?_
    refine Aw.toL (L' := [xr (some a0), xi v1, xi v2, xi 0, xi 0, xu, xu, xu, xu, xu]) rfl ?_
    refine Aw.aload_n rfl d_Mdl_renew_56 ?_
    refine Aw.iload_n rfl d_Mdl_renew_57 ?_
    refine Aw.if_ne (tgt := 65) ⟨by decide, by decide⟩ (by decide) d_Mdl_renew_58 (fun c2 => absurd c2 (by decide)) (fun c2 => ?_)
    refine Aw.iconst d_Mdl_renew_61 ?_
    refine Aw.goto (tgt := 75) (by decide) d_Mdl_renew_62 ?_
    exact h
  · have h := hf c4
    refine Aw.aload_n rfl d_Mdl_renew_8 ?_
    refine Aw.iload_n rfl d_Mdl_renew_9 ?_
    exact h
theorem b_Mdl_renew_13 {Ω : Om} {R : Room} {F : QF} {k n : Nat} {σ : Sto} {a0 : Nat} {v1 : Int} {v2 : Int} {s0 : Int} (h : Q32 s0 ∧ ((s0 = (0 : Int) → Aw Ω M_Mdl_renew R F k n 20 [xr (some a0), xi v1, xi v2, xu, xu, xu, xu, xu, xu, xu] [] σ) ∧ (¬ s0 = (0 : Int) → Aw Ω M_Mdl_renew R F k n 21 [xr (some a0), xi v1, xi v2, xu, xu, xu, xu, xu, xu, xu] [xi 1] σ))) : Aw Ω M_Mdl_renew R F k n 13 [xr (some a0), xi v1, xi v2, xu, xu, xu, xu, xu, xu, xu] [xi s0] σ := by
  obtain ⟨o1, h⟩ := h
  obtain ⟨ht, hf⟩ := h
  refine Aw.if_eq (tgt := 20) o1 (by decide) d_Mdl_renew_13 (fun c2 => ?_) (fun c2 => ?_)
  · have h := ht c2
    exact h
  · have h := hf c2
    refine Aw.iconst d_Mdl_renew_16 ?_
    refine Aw.goto (tgt := 21) (by decide) d_Mdl_renew_17 ?_
    exact h
theorem b_Mdl_renew_21 {Ω : Om} {R : Room} {F : QF} {k n : Nat} {σ : Sto} {a0 : Nat} {v1 : Int} {v2 : Int} {s0 : Int} (h : Q32 s0 ∧ ((s0 = (0 : Int) → ((¬ s0 = (0 : Int) → Aw Ω M_Mdl_renew R F k n 75 [xr (some a0), xi v1, xi v2, xi s0, xi 0, xu, xu, xu, xu, xu] [xi 2, xr (some a0)] σ) ∧ (s0 = (0 : Int) → Aw Ω M_Mdl_renew R F k n 75 [xr (some a0), xi v1, xi v2, xi s0, xi 0, xu, xu, xu, xu, xu] [xi 1, xr (some a0)] σ))) ∧ (¬ s0 = (0 : Int) → sK σ a0 = 13 ∧ (∃ b5 : Nat, fR σ 809 a0 = some b5 ∧ sK σ b5 = 52 ∧ 0 ≤ v1 ∧ v1 < sZ σ b5 ∧ (Q32 (aI σ b5 (v1).toNat) → ((¬ (aI σ b5 (v1).toNat) = (0 : Int) → ((¬ s0 = (0 : Int) → Aw Ω M_Mdl_renew R F k n 75 [xr (some a0), xi v1, xi v2, xi s0, xi 0, xu, xu, xu, xu, xu] [xi 2, xr (some a0)] σ) ∧ (s0 = (0 : Int) → Aw Ω M_Mdl_renew R F k n 75 [xr (some a0), xi v1, xi v2, xi s0, xi 0, xu, xu, xu, xu, xu] [xi 1, xr (some a0)] σ))) ∧ ((aI σ b5 (v1).toNat) = (0 : Int) → (∃ b13 : Nat, fR σ 807 a0 = some b13 ∧ sK σ b13 = 50 ∧ 0 ≤ v1 ∧ v1 < sZ σ b13 ∧ (Q32 (aI σ b13 (v1).toNat) → Aw Ω M_Mdl_renew R F k n 43 [xr (some a0), xi v1, xi v2, xi s0, xu, xu, xu, xu, xu, xu] [xi (aI σ b13 (v1).toNat), xi v2, xr (some a0)] σ))))))))) : Aw Ω M_Mdl_renew R F k n 21 [xr (some a0), xi v1, xi v2, xu, xu, xu, xu, xu, xu, xu] [xi s0] σ := by
  refine Aw.istore_n (by decide) d_Mdl_renew_21 ?_
  refine Aw.toL (L' := [xr (some a0), xi v1, xi v2, xi s0, xu, xu, xu, xu, xu, xu]) rfl ?_
  refine Aw.iload_n rfl d_Mdl_renew_22 ?_
  obtain ⟨o1, h⟩ := h
  obtain ⟨ht, hf⟩ := h
  refine Aw.if_eq (tgt := 53) o1 (by decide) d_Mdl_renew_23 (fun c20 => ?_) (fun c20 => ?_)
  · have h := ht c20
    refine Aw.iconst d_Mdl_renew_53 ?_
    refine Aw.istore (by decide) d_Mdl_renew_54 ?_
    refine Aw.toL (L' := [xr (some a0), xi v1, xi v2, xi s0, xi 0, xu, xu, xu, xu, xu]) rfl ?_
    refine Aw.aload_n rfl d_Mdl_renew_56 ?_
    refine Aw.iload_n rfl d_Mdl_renew_57 ?_
    obtain ⟨ht, hf⟩ := h
    refine Aw.if_ne (tgt := 65) o1 (by decide) d_Mdl_renew_58 (fun c3 => ?_) (fun c3 => ?_)
    · have h := ht c3
      refine Aw.iload rfl d_Mdl_renew_65 ?_
      refine Aw.if_eq (tgt := 74) ⟨by decide, by decide⟩ (by decide) d_Mdl_renew_67 (fun c2 => ?_) (fun c2 => absurd c2 (by decide))
      refine Aw.iconst d_Mdl_renew_74 ?_
      exact h
    · have h := hf c3
      refine Aw.iconst d_Mdl_renew_61 ?_
      refine Aw.goto (tgt := 75) (by decide) d_Mdl_renew_62 ?_
      exact h
  · have h := hf c20
    refine Aw.aload_n rfl d_Mdl_renew_26 ?_
    obtain ⟨o4, h⟩ := h
    obtain ⟨b5, e6, h⟩ := h
    refine Aw.getRs (f := 809) 12 41 fl_Mdl_86 (by decide) (by decide) rfl rfl o4 e6 d_Mdl_renew_27 ?_
    refine Aw.iload_n rfl d_Mdl_renew_30 ?_
    obtain ⟨o7, h⟩ := h
    obtain ⟨o8, o9, h⟩ := h
    refine Aw.zald o7 o8 o9 d_Mdl_renew_31 (fun r10 => ?_)
    have h := h r10
    obtain ⟨ht, hf⟩ := h
    refine Aw.if_ne (tgt := 53) r10 (by decide) d_Mdl_renew_32 (fun c19 => ?_) (fun c19 => ?_)
    · have h := ht c19
      refine Aw.iconst d_Mdl_renew_53 ?_
      refine Aw.istore (by decide) d_Mdl_renew_54 ?_
      refine Aw.toL (L' := [xr (some a0), xi v1, xi v2, xi s0, xi 0, xu, xu, xu, xu, xu]) rfl ?_
      refine Aw.aload_n rfl d_Mdl_renew_56 ?_
      refine Aw.iload_n rfl d_Mdl_renew_57 ?_
      obtain ⟨ht, hf⟩ := h
      refine Aw.if_ne (tgt := 65) o1 (by decide) d_Mdl_renew_58 (fun c12 => ?_) (fun c12 => ?_)
      · have h := ht c12
        refine Aw.iload rfl d_Mdl_renew_65 ?_
        refine Aw.if_eq (tgt := 74) ⟨by decide, by decide⟩ (by decide) d_Mdl_renew_67 (fun c11 => ?_) (fun c11 => absurd c11 (by decide))
        refine Aw.iconst d_Mdl_renew_74 ?_
        exact h
      · have h := hf c12
        refine Aw.iconst d_Mdl_renew_61 ?_
        refine Aw.goto (tgt := 75) (by decide) d_Mdl_renew_62 ?_
        exact h
    · have h := hf c19
      refine Aw.aload_n rfl d_Mdl_renew_35 ?_
      refine Aw.iload_n rfl d_Mdl_renew_36 ?_
      refine Aw.aload_n rfl d_Mdl_renew_37 ?_
      obtain ⟨b13, e14, h⟩ := h
      refine Aw.getRs (f := 807) 12 39 fl_Mdl_80 (by decide) (by decide) rfl rfl o4 e14 d_Mdl_renew_38 ?_
      refine Aw.iload_n rfl d_Mdl_renew_41 ?_
      obtain ⟨o15, h⟩ := h
      obtain ⟨o16, o17, h⟩ := h
      refine Aw.iald o15 o16 o17 d_Mdl_renew_42 (fun r18 => ?_)
      have h := h r18
      exact h
theorem b_Mdl_renew_46 {Ω : Om} {R : Room} {F : QF} {k n : Nat} {σ : Sto} {a0 : Nat} {v1 : Int} {v2 : Int} {v3 : Int} {s0 : Int} (h : Q32 s0 ∧ ((s0 = (0 : Int) → Q32 v3 ∧ ((¬ v3 = (0 : Int) → Aw Ω M_Mdl_renew R F k n 75 [xr (some a0), xi v1, xi v2, xi v3, xi 0, xu, xu, xu, xu, xu] [xi 2, xr (some a0)] σ) ∧ (v3 = (0 : Int) → Aw Ω M_Mdl_renew R F k n 75 [xr (some a0), xi v1, xi v2, xi v3, xi 0, xu, xu, xu, xu, xu] [xi 1, xr (some a0)] σ))) ∧ (¬ s0 = (0 : Int) → Q32 v3 ∧ ((¬ v3 = (0 : Int) → Aw Ω M_Mdl_renew R F k n 75 [xr (some a0), xi v1, xi v2, xi v3, xi 1, xu, xu, xu, xu, xu] [xi 0, xr (some a0)] σ) ∧ (v3 = (0 : Int) → Aw Ω M_Mdl_renew R F k n 75 [xr (some a0), xi v1, xi v2, xi v3, xi 1, xu, xu, xu, xu, xu] [xi 1, xr (some a0)] σ))))) : Aw Ω M_Mdl_renew R F k n 46 [xr (some a0), xi v1, xi v2, xi v3, xu, xu, xu, xu, xu, xu] [xi s0] σ := by
  obtain ⟨o1, h⟩ := h
  obtain ⟨ht, hf⟩ := h
  refine Aw.if_eq (tgt := 53) o1 (by decide) d_Mdl_renew_46 (fun c8 => ?_) (fun c8 => ?_)
  · have h := ht c8
    refine Aw.iconst d_Mdl_renew_53 ?_
    refine Aw.istore (by decide) d_Mdl_renew_54 ?_
    refine Aw.toL (L' := [xr (some a0), xi v1, xi v2, xi v3, xi 0, xu, xu, xu, xu, xu]) rfl ?_
    refine Aw.aload_n rfl d_Mdl_renew_56 ?_
    refine Aw.iload_n rfl d_Mdl_renew_57 ?_
    obtain ⟨o2, h⟩ := h
    obtain ⟨ht, hf⟩ := h
    refine Aw.if_ne (tgt := 65) o2 (by decide) d_Mdl_renew_58 (fun c4 => ?_) (fun c4 => ?_)
    · have h := ht c4
      refine Aw.iload rfl d_Mdl_renew_65 ?_
      refine Aw.if_eq (tgt := 74) ⟨by decide, by decide⟩ (by decide) d_Mdl_renew_67 (fun c3 => ?_) (fun c3 => absurd c3 (by decide))
      refine Aw.iconst d_Mdl_renew_74 ?_
      exact h
    · have h := hf c4
      refine Aw.iconst d_Mdl_renew_61 ?_
      refine Aw.goto (tgt := 75) (by decide) d_Mdl_renew_62 ?_
      exact h
  · have h := hf c8
    refine Aw.iconst d_Mdl_renew_49 ?_
    refine Aw.goto (tgt := 54) (by decide) d_Mdl_renew_50 ?_
    refine Aw.istore (by decide) d_Mdl_renew_54 ?_
    refine Aw.toL (L' := [xr (some a0), xi v1, xi v2, xi v3, xi 1, xu, xu, xu, xu, xu]) rfl ?_
    refine Aw.aload_n rfl d_Mdl_renew_56 ?_
    refine Aw.iload_n rfl d_Mdl_renew_57 ?_
    obtain ⟨o5, h⟩ := h
    obtain ⟨ht, hf⟩ := h
    refine Aw.if_ne (tgt := 65) o5 (by decide) d_Mdl_renew_58 (fun c7 => ?_) (fun c7 => ?_)
    · have h := ht c7
      refine Aw.iload rfl d_Mdl_renew_65 ?_
      refine Aw.if_eq (tgt := 74) ⟨by decide, by decide⟩ (by decide) d_Mdl_renew_67 (fun c6 => absurd c6 (by decide)) (fun c6 => ?_)
      refine Aw.iconst d_Mdl_renew_70 ?_
      refine Aw.goto (tgt := 75) (by decide) d_Mdl_renew_71 ?_
      exact h
    · have h := hf c7
      refine Aw.iconst d_Mdl_renew_61 ?_
      refine Aw.goto (tgt := 75) (by decide) d_Mdl_renew_62 ?_
      exact h
theorem b_Mdl_renew_78 {Ω : Om} {R : Room} {F : QF} {k n : Nat} {σ : Sto} {a0 : Nat} {v1 : Int} {v2 : Int} {v3 : Int} {v4 : Int} {s0 : Int} (h : Q32 s0 ∧ ((s0 = (0 : Int) → sK σ a0 = 13 ∧ (∃ b3 : Nat, fR σ 807 a0 = some b3 ∧ sK σ b3 = 50 ∧ 0 ≤ v1 ∧ v1 < sZ σ b3 ∧ (Q32 (aI σ b3 (v1).toNat) → (∃ b9 : Nat, fR σ 774 a0 = some b9 ∧ sK σ b9 = 50 ∧ 0 ≤ (aI σ b3 (v1).toNat) ∧ (aI σ b3 (v1).toNat) < sZ σ b9 ∧ (Q32 (aI σ b9 (aI σ b3 (v1).toNat).toNat) → 0 ≤ v2 ∧ v2 < sZ σ b9 ∧ (Q32 (aI σ b9 (v2).toNat) → Aw Ω M_Mdl_renew R F k n 110 [xr (some a0), xi v1, xi v2, xi v3, xi v4, xi (aI σ b3 (v1).toNat), xu, xu, xu, xu] [xi (aI σ b9 (v2).toNat), xi 0, xi v2, xi (aI σ b9 (aI σ b3 (v1).toNat).toNat), xi 0, xi (aI σ b3 (v1).toNat), xr (some a0)] σ)))))) ∧ (¬ s0 = (0 : Int) → Aw Ω M_Mdl_renew R F k n 82 [xr (some a0), xi v1, xi v2, xi v3, xi v4, xu, xu, xu, xu, xu] [xi 0] σ))) : Aw Ω M_Mdl_renew R F k n 78 [xr (some a0), xi v1, xi v2, xi v3, xi v4, xu, xu, xu, xu, xu] [xi s0] σ := by
  obtain ⟨o1, h⟩ := h
  obtain ⟨ht, hf⟩ := h
  refine Aw.if_eq (tgt := 83) o1 (by decide) d_Mdl_renew_78 (fun c18 => ?_) (fun c18 => ?_)
  · have h := ht c18
    refine Aw.aload_n rfl d_Mdl_renew_83 ?_
    obtain ⟨o2, h⟩ := h
    obtain ⟨b3, e4, h⟩ := h
    refine Aw.getRs (f := 807) 12 39 fl_Mdl_80 (by decide) (by decide) rfl rfl o2 e4 d_Mdl_renew_84 ?_
    refine Aw.iload_n rfl d_Mdl_renew_87 ?_
    obtain ⟨o5, h⟩ := h
    obtain ⟨o6, o7, h⟩ := h
    refine Aw.iald o5 o6 o7 d_Mdl_renew_88 (fun r8 => ?_)
    have h := h r8
    refine Aw.istore (by decide) d_Mdl_renew_89 ?_
    refine Aw.toL (L' := [xr (some a0), xi v1, xi v2, xi v3, xi v4, xi (aI σ b3 (v1).toNat), xu, xu, xu, xu]) rfl ?_
    refine Aw.aload_n rfl d_Mdl_renew_91 ?_
    refine Aw.iload rfl d_Mdl_renew_92 ?_
    refine Aw.iconst d_Mdl_renew_94 ?_
    refine Aw.aload_n rfl d_Mdl_renew_95 ?_
    obtain ⟨b9, e10, h⟩ := h
    refine Aw.getRs (f := 774) 12 6 fl_Mdl_20 (by decide) (by decide) rfl rfl o2 e10 d_Mdl_renew_96 ?_
    refine Aw.iload rfl d_Mdl_renew_99 ?_
    obtain ⟨o11, h⟩ := h
    obtain ⟨o12, o13, h⟩ := h
    refine Aw.iald o11 o12 o13 d_Mdl_renew_101 (fun r14 => ?_)
    have h := h r14
    refine Aw.iload_n rfl d_Mdl_renew_102 ?_
    refine Aw.iconst d_Mdl_renew_103 ?_
    refine Aw.aload_n rfl d_Mdl_renew_104 ?_
    refine Aw.getRs (f := 774) 12 6 fl_Mdl_20 (by decide) (by decide) rfl rfl o2 e10 d_Mdl_renew_105 ?_
    refine Aw.iload_n rfl d_Mdl_renew_108 ?_
    obtain ⟨o15, o16, h⟩ := h
    refine Aw.iald o11 o15 o16 d_Mdl_renew_109 (fun r17 => ?_)
    have h := h r17
    exact h
  · have h := hf c18
    refine Aw.iconst d_Mdl_renew_81 ?_
    exact h
theorem b_Mdl_renew_113 {Ω : Om} {R : Room} {F : QF} {k n : Nat} {σ : Sto} {a0 : Nat} {v1 : Int} {v2 : Int} {v3 : Int} {v4 : Int} {v5 : Int} {s0 : Int} (h : Aw Ω M_Mdl_renew R F k n 121 [xr (some a0), xi v1, xi v2, xi v3, xi v4, xi v5, xi s0, xi 0, xi 0, xu] [] σ) : Aw Ω M_Mdl_renew R F k n 113 [xr (some a0), xi v1, xi v2, xi v3, xi v4, xi v5, xu, xu, xu, xu] [xi s0] σ := by
  refine Aw.istore (by decide) d_Mdl_renew_113 ?_
  refine Aw.toL (L' := [xr (some a0), xi v1, xi v2, xi v3, xi v4, xi v5, xi s0, xu, xu, xu]) rfl ?_
  refine Aw.iconst d_Mdl_renew_115 ?_
  refine Aw.istore (by decide) d_Mdl_renew_116 ?_
  refine Aw.toL (L' := [xr (some a0), xi v1, xi v2, xi v3, xi v4, xi v5, xi s0, xi 0, xu, xu]) rfl ?_
  refine Aw.iconst d_Mdl_renew_118 ?_
  refine Aw.istore (by decide) d_Mdl_renew_119 ?_
  refine Aw.toL (L' := [xr (some a0), xi v1, xi v2, xi v3, xi v4, xi v5, xi s0, xi 0, xi 0, xu]) rfl ?_
  exact h
theorem b_Mdl_renew_121 {Ω : Om} {R : Room} {F : QF} {k n : Nat} {σ : Sto} {a0 : Nat} {v1 : Int} {v2 : Int} {v3 : Int} {v4 : Int} {v5 : Int} {v6 : Int} {v7 : Int} {v8 : Int} (h : Q32 v8 ∧ (((6 : Int) ≤ v8 → sK σ a0 = 13 ∧ (∃ b3 : Nat, fR σ 807 a0 = some b3 ∧ sK σ b3 = 50 ∧ 0 ≤ v1 ∧ v1 < sZ σ b3 ∧ Q32 v2 ∧ Aw Ω M_Mdl_renew R F k n 229 [xr (some a0), xi v1, xi v2, xi v3, xi v4, xi v5, xi v6, xi v7, xi v8, xu] [xi v7] (vI σ b3 (v1).toNat v2))) ∧ (¬ (6 : Int) ≤ v8 → sK σ a0 = 13 ∧ (∃ b10 : Nat, fR σ 810 a0 = some b10 ∧ sK σ b10 = 50 ∧ 0 ≤ ((6 * v1) + v8) ∧ ((6 * v1) + v8) < sZ σ b10 ∧ (Q32 (aI σ b10 ((6 * v1) + v8).toNat) → (((aI σ b10 ((6 * v1) + v8).toNat) = (0 : Int) → Aw Ω M_Mdl_renew R F k n 163 [xr (some a0), xi v1, xi v2, xi v3, xi v4, xi v5, xi v6, xi v7, xi v8, xu] [] σ) ∧ (¬ (aI σ b10 ((6 * v1) + v8).toNat) = (0 : Int) → Q32 v6 ∧ ((v6 = (0 : Int) → Aw Ω M_Mdl_renew R F k n 159 [xr (some a0), xi v1, xi v2, xi v3, xi v4, xi v5, xi v6, xi v7, xi v8, xu] [] σ) ∧ (¬ v6 = (0 : Int) → (∃ b17 : Nat, fR σ 776 a0 = some b17 ∧ sK σ b17 = 50 ∧ 0 ≤ v2 ∧ v2 < sZ σ b17 ∧ (Q32 (aI σ b17 (v2).toNat) → ((¬ v8 = (aI σ b17 (v2).toNat) → Aw Ω M_Mdl_renew R F k n 163 [xr (some a0), xi v1, xi v2, xi v3, xi v4, xi v5, xi v6, xi v7, xi v8, xu] [] σ) ∧ (v8 = (aI σ b17 (v2).toNat) → Aw Ω M_Mdl_renew R F k n 159 [xr (some a0), xi v1, xi v2, xi v3, xi v4, xi v5, xi v6, xi v7, xi v8, xu] [] σ))))))))))))) : Aw Ω M_Mdl_renew R F k n 121 [xr (some a0), xi v1, xi v2, xi v3, xi v4, xi v5, xi v6, xi v7, xi v8, xu] [] σ := by
  refine Aw.iload rfl d_Mdl_renew_121 ?_
  refine Aw.bipush (by decide) d_Mdl_renew_123 ?_
  obtain ⟨o1, h⟩ := h
  obtain ⟨ht, hf⟩ := h
  refine Aw.icmp_ge (tgt := 220) o1 ⟨by decide, by decide⟩ (by decide) d_Mdl_renew_125 (fun c26 => ?_) (fun c26 => ?_)
  · have h := ht c26
    refine Aw.aload_n rfl d_Mdl_renew_220 ?_
    obtain ⟨o2, h⟩ := h
    obtain ⟨b3, e4, h⟩ := h
    refine Aw.getRs (f := 807) 12 39 fl_Mdl_80 (by decide) (by decide) rfl rfl o2 e4 d_Mdl_renew_221 ?_
    refine Aw.iload_n rfl d_Mdl_renew_224 ?_
    refine Aw.iload_n rfl d_Mdl_renew_225 ?_
    obtain ⟨o5, h⟩ := h
    obtain ⟨o6, o7, h⟩ := h
    obtain ⟨o8, h⟩ := h
    refine Aw.iast o5 o6 o7 o8 d_Mdl_renew_226 ?_
    refine Aw.iload rfl d_Mdl_renew_227 ?_
    exact h
  · have h := hf c26
    refine Aw.aload_n rfl d_Mdl_renew_128 ?_
    obtain ⟨o9, h⟩ := h
    obtain ⟨b10, e11, h⟩ := h
    refine Aw.getRs (f := 810) 12 42 fl_Mdl_90 (by decide) (by decide) rfl rfl o9 e11 d_Mdl_renew_129 ?_
    refine Aw.bipush (by decide) d_Mdl_renew_132 ?_
    refine Aw.iload_n rfl d_Mdl_renew_134 ?_
    refine Aw.imul d_Mdl_renew_135 ?_
    refine Aw.iload rfl d_Mdl_renew_136 ?_
    refine Aw.iadd d_Mdl_renew_138 ?_
    obtain ⟨o12, h⟩ := h
    obtain ⟨o13, o14, h⟩ := h
    refine Aw.iald o12 o13 o14 d_Mdl_renew_139 (fun r15 => ?_)
    have h := h r15
    obtain ⟨ht, hf⟩ := h
    refine Aw.if_eq (tgt := 163) r15 (by decide) d_Mdl_renew_140 (fun c25 => ?_) (fun c25 => ?_)
    · have h := ht c25
      exact h
    · have h := hf c25
      refine Aw.iload rfl d_Mdl_renew_143 ?_
      obtain ⟨o16, h⟩ := h
      obtain ⟨ht, hf⟩ := h
      refine Aw.if_eq (tgt := 159) o16 (by decide) d_Mdl_renew_145 (fun c24 => ?_) (fun c24 => ?_)
      · have h := ht c24
        exact h
      · have h := hf c24
        refine Aw.iload rfl d_Mdl_renew_148 ?_
        refine Aw.aload_n rfl d_Mdl_renew_150 ?_
        obtain ⟨b17, e18, h⟩ := h
        refine Aw.getRs (f := 776) 12 8 fl_Mdl_26 (by decide) (by decide) rfl rfl o9 e18 d_Mdl_renew_151 ?_
        refine Aw.iload_n rfl d_Mdl_renew_154 ?_
        obtain ⟨o19, h⟩ := h
        obtain ⟨o20, o21, h⟩ := h
        refine Aw.iald o19 o20 o21 d_Mdl_renew_155 (fun r22 => ?_)
        have h := h r22
        obtain ⟨ht, hf⟩ := h
        refine Aw.icmp_ne (tgt := 163) o1 r22 (by decide) d_Mdl_renew_156 (fun c23 => ?_) (fun c23 => ?_)
        · have h := ht c23
          exact h
        · have h := hf c23
          exact h
theorem b_Mdl_renew_159 {Ω : Om} {R : Room} {F : QF} {k n : Nat} {σ : Sto} {a0 : Nat} {v1 : Int} {v2 : Int} {v3 : Int} {v4 : Int} {v5 : Int} {v6 : Int} {v7 : Int} {v8 : Int} (h : sK σ a0 = 13 ∧ (∃ b2 : Nat, fR σ 810 a0 = some b2 ∧ sK σ b2 = 50 ∧ 0 ≤ ((6 * v1) + v8) ∧ ((6 * v1) + v8) < sZ σ b2 ∧ Aw Ω M_Mdl_renew R F k n 121 [xr (some a0), xi v1, xi v2, xi v3, xi v4, xi v5, xi v6, xi (v7 + 1), xi (v8 + 1), xu] [] (vI σ b2 ((6 * v1) + v8).toNat 0))) : Aw Ω M_Mdl_renew R F k n 159 [xr (some a0), xi v1, xi v2, xi v3, xi v4, xi v5, xi v6, xi v7, xi v8, xu] [] σ := by
  refine Aw.iconst d_Mdl_renew_159 ?_
  refine Aw.goto (tgt := 164) (by decide) d_Mdl_renew_160 ?_
  refine Aw.istore (by decide) d_Mdl_renew_164 ?_
  refine Aw.toL (L' := [xr (some a0), xi v1, xi v2, xi v3, xi v4, xi v5, xi v6, xi v7, xi v8, xi 1]) rfl ?_
  refine Aw.aload_n rfl d_Mdl_renew_166 ?_
  obtain ⟨o1, h⟩ := h
  obtain ⟨b2, e3, h⟩ := h
  refine Aw.getRs (f := 810) 12 42 fl_Mdl_90 (by decide) (by decide) rfl rfl o1 e3 d_Mdl_renew_167 ?_
  refine Aw.bipush (by decide) d_Mdl_renew_170 ?_
  refine Aw.iload_n rfl d_Mdl_renew_172 ?_
  refine Aw.imul d_Mdl_renew_173 ?_
  refine Aw.iload rfl d_Mdl_renew_174 ?_
  refine Aw.iadd d_Mdl_renew_176 ?_
  refine Aw.iload rfl d_Mdl_renew_177 ?_
  refine Aw.if_eq (tgt := 186) ⟨by decide, by decide⟩ (by decide) d_Mdl_renew_179 (fun c8 => absurd c8 (by decide)) (fun c8 => ?_)
  refine Aw.iconst d_Mdl_renew_182 ?_
  refine Aw.goto (tgt := 198) (by decide) d_Mdl_renew_183 ?_
  obtain ⟨o4, h⟩ := h
  obtain ⟨o5, o6, h⟩ := h
  refine Aw.iast o4 o5 o6 ⟨by decide, by decide⟩ d_Mdl_renew_198 ?_
  refine Aw.iload rfl d_Mdl_renew_199 ?_
  refine Aw.iload rfl d_Mdl_renew_201 ?_
  refine Aw.if_eq (tgt := 210) ⟨by decide, by decide⟩ (by decide) d_Mdl_renew_203 (fun c7 => absurd c7 (by decide)) (fun c7 => ?_)
  refine Aw.iconst d_Mdl_renew_206 ?_
  refine Aw.goto (tgt := 211) (by decide) d_Mdl_renew_207 ?_
  refine Aw.iadd d_Mdl_renew_211 ?_
  refine Aw.istore (by decide) d_Mdl_renew_212 ?_
  refine Aw.toL (L' := [xr (some a0), xi v1, xi v2, xi v3, xi v4, xi v5, xi v6, xi (v7 + 1), xi v8, xi 1]) rfl ?_
  refine Aw.iinc rfl d_Mdl_renew_214 ?_
  refine Aw.toL (L' := [xr (some a0), xi v1, xi v2, xi v3, xi v4, xi v5, xi v6, xi (v7 + 1), xi (v8 + 1), xi 1]) rfl ?_
  refine Aw.goto (tgt := 121) (by decide) d_Mdl_renew_217 ?_
  exact Aw.toW (L' := [xr (some a0), xi v1, xi v2, xi v3, xi v4, xi v5, xi v6, xi (v7 + 1), xi (v8 + 1), xu]) ⟨Or.inr rfl, Or.inr rfl, Or.inr rfl, Or.inr rfl, Or.inr rfl, Or.inr rfl, Or.inr rfl, Or.inr rfl, Or.inr rfl, Or.inl rfl, trivial⟩ h
theorem b_Mdl_renew_163 {Ω : Om} {R : Room} {F : QF} {k n : Nat} {σ : Sto} {a0 : Nat} {v1 : Int} {v2 : Int} {v3 : Int} {v4 : Int} {v5 : Int} {v6 : Int} {v7 : Int} {v8 : Int} (h : sK σ a0 = 13 ∧ (∃ b2 : Nat, fR σ 810 a0 = some b2 ∧ sK σ b2 = 50 ∧ 0 ≤ ((6 * v1) + v8) ∧ ((6 * v1) + v8) < sZ σ b2 ∧ (Q32 (aI σ b2 ((6 * v1) + v8).toNat) → Aw Ω M_Mdl_renew R F k n 121 [xr (some a0), xi v1, xi v2, xi v3, xi v4, xi v5, xi v6, xi (v7 + 0), xi (v8 + 1), xu] [] (vI σ b2 ((6 * v1) + v8).toNat (aI σ b2 ((6 * v1) + v8).toNat))))) : Aw Ω M_Mdl_renew R F k n 163 [xr (some a0), xi v1, xi v2, xi v3, xi v4, xi v5, xi v6, xi v7, xi v8, xu] [] σ := by
  refine Aw.iconst d_Mdl_renew_163 ?_
  refine Aw.istore (by decide) d_Mdl_renew_164 ?_
  refine Aw.toL (L' := [xr (some a0), xi v1, xi v2, xi v3, xi v4, xi v5, xi v6, xi v7, xi v8, xi 0]) rfl ?_
  refine Aw.aload_n rfl d_Mdl_renew_166 ?_
  obtain ⟨o1, h⟩ := h
  obtain ⟨b2, e3, h⟩ := h
  refine Aw.getRs (f := 810) 12 42 fl_Mdl_90 (by decide) (by decide) rfl rfl o1 e3 d_Mdl_renew_167 ?_
  refine Aw.bipush (by decide) d_Mdl_renew_170 ?_
  refine Aw.iload_n rfl d_Mdl_renew_172 ?_
  refine Aw.imul d_Mdl_renew_173 ?_
  refine Aw.iload rfl d_Mdl_renew_174 ?_
  refine Aw.iadd d_Mdl_renew_176 ?_
  refine Aw.iload rfl d_Mdl_renew_177 ?_
  refine Aw.if_eq (tgt := 186) ⟨by decide, by decide⟩ (by decide) d_Mdl_renew_179 (fun c9 => ?_) (fun c9 => absurd c9 (by decide))
  refine Aw.aload_n rfl d_Mdl_renew_186 ?_
  refine Aw.getRs (f := 810) 12 42 fl_Mdl_90 (by decide) (by decide) rfl rfl o1 e3 d_Mdl_renew_187 ?_
  refine Aw.bipush (by decide) d_Mdl_renew_190 ?_
  refine Aw.iload_n rfl d_Mdl_renew_192 ?_
  refine Aw.imul d_Mdl_renew_193 ?_
  refine Aw.iload rfl d_Mdl_renew_194 ?_
  refine Aw.iadd d_Mdl_renew_196 ?_
  obtain ⟨o4, h⟩ := h
  obtain ⟨o5, o6, h⟩ := h
  refine Aw.iald o4 o5 o6 d_Mdl_renew_197 (fun r7 => ?_)
  have h := h r7
  refine Aw.iast o4 o5 o6 r7 d_Mdl_renew_198 ?_
  refine Aw.iload rfl d_Mdl_renew_199 ?_
  refine Aw.iload rfl d_Mdl_renew_201 ?_
  refine Aw.if_eq (tgt := 210) ⟨by decide, by decide⟩ (by decide) d_Mdl_renew_203 (fun c8 => ?_) (fun c8 => absurd c8 (by decide))
  refine Aw.iconst d_Mdl_renew_210 ?_
  refine Aw.iadd d_Mdl_renew_211 ?_
  refine Aw.istore (by decide) d_Mdl_renew_212 ?_
  refine Aw.toL (L' := [xr (some a0), xi v1, xi v2, xi v3, xi v4, xi v5, xi v6, xi (v7 + 0), xi v8, xi 0]) rfl ?_
  refine Aw.iinc rfl d_Mdl_renew_214 ?_
  refine Aw.toL (L' := [xr (some a0), xi v1, xi v2, xi v3, xi v4, xi v5, xi v6, xi (v7 + 0), xi (v8 + 1), xi 0]) rfl ?_
  refine Aw.goto (tgt := 121) (by decide) d_Mdl_renew_217 ?_
  exact Aw.toW (L' := [xr (some a0), xi v1, xi v2, xi v3, xi v4, xi v5, xi v6, xi (v7 + 0), xi (v8 + 1), xu]) ⟨Or.inr rfl, Or.inr rfl, Or.inr rfl, Or.inr rfl, Or.inr rfl, Or.inr rfl, Or.inr rfl, Or.inr rfl, Or.inr rfl, Or.inl rfl, trivial⟩ h
theorem b_Mdl_renew_20 {Ω : Om} {R : Room} {F : QF} {k n : Nat} {σ : Sto} {a0 : Nat} {v1 : Int} {v2 : Int} (h : Aw Ω M_Mdl_renew R F k n 75 [xr (some a0), xi v1, xi v2, xi 0, xi 0, xu, xu, xu, xu, xu] [xi 1, xr (some a0)] σ) : Aw Ω M_Mdl_renew R F k n 20 [xr (some a0), xi v1, xi v2, xu, xu, xu, xu, xu, xu, xu] [] σ := by
  refine Aw.iconst d_Mdl_renew_20 ?_
  refine Aw.istore_n (by decide) d_Mdl_renew_21 ?_
  refine Aw.toL (L' := [xr (some a0), xi v1, xi v2, xi 0, xu, xu, xu, xu, xu, xu]) rfl ?_
  refine Aw.iload_n rfl d_Mdl_renew_22 ?_
  refine Aw.if_eq (tgt := 53) ⟨by decide, by decide⟩ (by decide) d_Mdl_renew_23 (fun c2 => ?_) (fun c2 => absurd c2 (by decide))
  refine Aw.iconst d_Mdl_renew_53 ?_
  refine Aw.istore (by decide) d_Mdl_renew_54 ?_
  refine Aw.toL (L' := [xr (some a0), xi v1, xi v2, xi 0, xi 0, xu, xu, xu, xu, xu]) rfl ?_
  refine Aw.aload_n rfl d_Mdl_renew_56 ?_
  refine Aw.iload_n rfl d_Mdl_renew_57 ?_
  refine Aw.if_ne (tgt := 65) ⟨by decide, by decide⟩ (by decide) d_Mdl_renew_58 (fun c1 => absurd c1 (by decide)) (fun c1 => ?_)
  refine Aw.iconst d_Mdl_renew_61 ?_
  refine Aw.goto (tgt := 75) (by decide) d_Mdl_renew_62 ?_
  exact h
theorem c_Mdl_renew_2 {Ω : Om} {R R' : Room} {F : QF} {k n : Nat} {L st : List PV} {σ : Sto} {QX' : String → Sto → Prop} {Q : Int → Sto → Prop} {a : Nat} {x0 : Int} (hc : MC Ω M_Mdl_isReview R' (RI Q) QX' σ [xr (some a), xi x0]) (hk : sK σ a = 13) (hr1 : R'.frames + 1 ≤ R.frames) (hr2 : 8 + (2 + 11) + R'.locals ≤ R.locals) (hb1 : k + R'.cells ≤ R.cells) (hb2 : n + R'.slots ≤ R.slots) (hst : (st.map catP).sum ≤ 8) (kk : ∀ x σ', Q x σ' → Aw Ω M_Mdl_renew R F (k + R'.cells) (n + R'.slots) 5 L (xi x :: st) σ') (kx : ∀ E σ', QX' E σ' → Ax Ω M_Mdl_renew R F (k + R'.cells) (n + R'.slots) 2 L st σ' E) : Aw Ω M_Mdl_renew R F k n 2 L (xi x0 :: xr (some a) :: st) σ :=
  Aw.callV (As := [xi x0]) (stk := xi x0 :: xr (some a) :: st) (nn := 1) 12 M_Mdl_isReview hc ok_Mdl_isReview rfl (by decide) rfl hk ml_Mdl_351 im_Mdl_isReview se_Mdl_isReview ⟨hr1, hr2⟩ rfl ⟨hb1, hb2⟩ hst rfl d_Mdl_renew_2 (fun r σ' h => by obtain ⟨x, rfl, h⟩ := h; exact kk x σ' h) kx
theorem c_Mdl_renew_10 {Ω : Om} {R R' : Room} {F : QF} {k n : Nat} {L st : List PV} {σ : Sto} {QX' : String → Sto → Prop} {Q : Int → Sto → Prop} {a : Nat} {x0 : Int} (hc : MC Ω M_Mdl_isVersion R' (RI Q) QX' σ [xr (some a), xi x0]) (hk : sK σ a = 13) (hr1 : R'.frames + 1 ≤ R.frames) (hr2 : 8 + (2 + 11) + R'.locals ≤ R.locals) (hb1 : k + R'.cells ≤ R.cells) (hb2 : n + R'.slots ≤ R.slots) (hst : (st.map catP).sum ≤ 8) (kk : ∀ x σ', Q x σ' → Aw Ω M_Mdl_renew R F (k + R'.cells) (n + R'.slots) 13 L (xi x :: st) σ') (kx : ∀ E σ', QX' E σ' → Ax Ω M_Mdl_renew R F (k + R'.cells) (n + R'.slots) 10 L st σ' E) : Aw Ω M_Mdl_renew R F k n 10 L (xi x0 :: xr (some a) :: st) σ :=
  Aw.callV (As := [xi x0]) (stk := xi x0 :: xr (some a) :: st) (nn := 1) 12 M_Mdl_isVersion hc ok_Mdl_isVersion rfl (by decide) rfl hk ml_Mdl_172 im_Mdl_isVersion se_Mdl_isVersion ⟨hr1, hr2⟩ rfl ⟨hb1, hb2⟩ hst rfl d_Mdl_renew_10 (fun r σ' h => by obtain ⟨x, rfl, h⟩ := h; exact kk x σ' h) kx
theorem c_Mdl_renew_43 {Ω : Om} {R R' : Room} {F : QF} {k n : Nat} {L st : List PV} {σ : Sto} {QX' : String → Sto → Prop} {Q : Int → Sto → Prop} {a : Nat} {x0 : Int} {x1 : Int} (hc : MC Ω M_Mdl_isOver R' (RI Q) QX' σ [xr (some a), xi x0, xi x1]) (hk : sK σ a = 13) (hr1 : R'.frames + 1 ≤ R.frames) (hr2 : 8 + (3 + 11) + R'.locals ≤ R.locals) (hb1 : k + R'.cells ≤ R.cells) (hb2 : n + R'.slots ≤ R.slots) (hst : (st.map catP).sum ≤ 8) (kk : ∀ x σ', Q x σ' → Aw Ω M_Mdl_renew R F (k + R'.cells) (n + R'.slots) 46 L (xi x :: st) σ') (kx : ∀ E σ', QX' E σ' → Ax Ω M_Mdl_renew R F (k + R'.cells) (n + R'.slots) 43 L st σ' E) : Aw Ω M_Mdl_renew R F k n 43 L (xi x1 :: xi x0 :: xr (some a) :: st) σ :=
  Aw.callV (As := [xi x0, xi x1]) (stk := xi x1 :: xi x0 :: xr (some a) :: st) (nn := 2) 12 M_Mdl_isOver hc ok_Mdl_isOver rfl (by decide) rfl hk ml_Mdl_238 im_Mdl_isOver se_Mdl_isOver ⟨hr1, hr2⟩ rfl ⟨hb1, hb2⟩ hst rfl d_Mdl_renew_43 (fun r σ' h => by obtain ⟨x, rfl, h⟩ := h; exact kk x σ' h) kx
theorem c_Mdl_renew_75 {Ω : Om} {R R' : Room} {F : QF} {k n : Nat} {L st : List PV} {σ : Sto} {QX' : String → Sto → Prop} {Q : Int → Sto → Prop} {a : Nat} {x0 : Int} (hc : MC Ω M_Mdl_refused R' (RI Q) QX' σ [xr (some a), xi x0]) (hk : sK σ a = 13) (hr1 : R'.frames + 1 ≤ R.frames) (hr2 : 8 + (2 + 11) + R'.locals ≤ R.locals) (hb1 : k + R'.cells ≤ R.cells) (hb2 : n + R'.slots ≤ R.slots) (hst : (st.map catP).sum ≤ 8) (kk : ∀ x σ', Q x σ' → Aw Ω M_Mdl_renew R F (k + R'.cells) (n + R'.slots) 78 L (xi x :: st) σ') (kx : ∀ E σ', QX' E σ' → Ax Ω M_Mdl_renew R F (k + R'.cells) (n + R'.slots) 75 L st σ' E) : Aw Ω M_Mdl_renew R F k n 75 L (xi x0 :: xr (some a) :: st) σ :=
  Aw.callV (As := [xi x0]) (stk := xi x0 :: xr (some a) :: st) (nn := 1) 12 M_Mdl_refused hc ok_Mdl_refused rfl (by decide) rfl hk ml_Mdl_151 im_Mdl_refused se_Mdl_refused ⟨hr1, hr2⟩ rfl ⟨hb1, hb2⟩ hst rfl d_Mdl_renew_75 (fun r σ' h => by obtain ⟨x, rfl, h⟩ := h; exact kk x σ' h) kx
theorem r_Mdl_renew_82 {Ω : Om} {R : Room} {k n : Nat} {L : List PV} {σ : Sto} {QR : Option PV → Sto → Prop} {QX : String → Sto → Prop} {x : Int} (h : QR (some (xi x)) σ) (h1 : k ≤ R.cells) (h2 : n ≤ R.slots) : Aw Ω M_Mdl_renew R (MF Ω R QR QX) k n 82 L [xi x] σ := Aw.iret rfl h h1 h2 d_Mdl_renew_82
theorem c_Mdl_renew_110 {Ω : Om} {R R' : Room} {F : QF} {k n : Nat} {L st : List PV} {σ : Sto} {QX' : String → Sto → Prop} {Q : Int → Sto → Prop} {a : Nat} {x0 : Int} {x1 : Int} {x2 : Int} {x3 : Int} {x4 : Int} {x5 : Int} (hc : MC Ω M_Mdl_areAlike R' (RI Q) QX' σ [xr (some a), xi x0, xi x1, xi x2, xi x3, xi x4, xi x5]) (hk : sK σ a = 13) (hr1 : R'.frames + 1 ≤ R.frames) (hr2 : 8 + (9 + 11) + R'.locals ≤ R.locals) (hb1 : k + R'.cells ≤ R.cells) (hb2 : n + R'.slots ≤ R.slots) (hst : (st.map catP).sum ≤ 8) (kk : ∀ x σ', Q x σ' → Aw Ω M_Mdl_renew R F (k + R'.cells) (n + R'.slots) 113 L (xi x :: st) σ') (kx : ∀ E σ', QX' E σ' → Ax Ω M_Mdl_renew R F (k + R'.cells) (n + R'.slots) 110 L st σ' E) : Aw Ω M_Mdl_renew R F k n 110 L (xi x5 :: xi x4 :: xi x3 :: xi x2 :: xi x1 :: xi x0 :: xr (some a) :: st) σ :=
  Aw.callV (As := [xi x0, xi x1, xi x2, xi x3, xi x4, xi x5]) (stk := xi x5 :: xi x4 :: xi x3 :: xi x2 :: xi x1 :: xi x0 :: xr (some a) :: st) (nn := 6) 12 M_Mdl_areAlike hc ok_Mdl_areAlike rfl (by decide) rfl hk ml_Mdl_294 im_Mdl_areAlike se_Mdl_areAlike ⟨hr1, hr2⟩ rfl ⟨hb1, hb2⟩ hst rfl d_Mdl_renew_110 (fun r σ' h => by obtain ⟨x, rfl, h⟩ := h; exact kk x σ' h) kx
theorem r_Mdl_renew_229 {Ω : Om} {R : Room} {k n : Nat} {L : List PV} {σ : Sto} {QR : Option PV → Sto → Prop} {QX : String → Sto → Prop} {x : Int} (h : QR (some (xi x)) σ) (h1 : k ≤ R.cells) (h2 : n ≤ R.slots) : Aw Ω M_Mdl_renew R (MF Ω R QR QX) k n 229 L [xi x] σ := Aw.iret rfl h h1 h2 d_Mdl_renew_229
theorem e_Mdl_land {Ω : Om} {R : Room} {QR : Option PV → Sto → Prop} {QX : String → Sto → Prop} {σ : Sto} {a0 : Nat} {v1 : Int} (h : Aw Ω M_Mdl_land R (MF Ω R QR QX) 0 0 0 [xr (some a0), xi v1, xu, xu, xu, xu] [] σ) : MC Ω M_Mdl_land R QR QX σ [xr (some a0), xi v1] := MC.body (by decide +kernel) rfl (Nat.le_of_ble_eq_true rfl) rfl h
theorem b_Mdl_land_0 {Ω : Om} {R : Room} {F : QF} {k n : Nat} {σ : Sto} {a0 : Nat} {v1 : Int} (h : Aw Ω M_Mdl_land R F k n 2 [xr (some a0), xi v1, xu, xu, xu, xu] [xi v1, xr (some a0)] σ) : Aw Ω M_Mdl_land R F k n 0 [xr (some a0), xi v1, xu, xu, xu, xu] [] σ := by
  refine Aw.aload_n rfl d_Mdl_land_0 ?_
  refine Aw.iload_n rfl d_Mdl_land_1 ?_
  exact h
theorem b_Mdl_land_5 {Ω : Om} {R : Room} {F : QF} {k n : Nat} {σ : Sto} {a0 : Nat} {v1 : Int} {s0 : Int} (h : Q32 s0 ∧ ((s0 = (0 : Int) → ((¬ s0 = (0 : Int) → Aw Ω M_Mdl_land R F k n 67 [xr (some a0), xi v1, xi s0, xi 0, xu, xu] [xi 2, xr (some a0)] σ) ∧ (s0 = (0 : Int) → Aw Ω M_Mdl_land R F k n 67 [xr (some a0), xi v1, xi s0, xi 0, xu, xu] [xi 1, xr (some a0)] σ))) ∧ (¬ s0 = (0 : Int) → Aw Ω M_Mdl_land R F k n 12 [xr (some a0), xi v1, xi s0, xu, xu, xu] [xi v1, xr (some a0)] σ))) : Aw Ω M_Mdl_land R F k n 5 [xr (some a0), xi v1, xu, xu, xu, xu] [xi s0] σ := by
  refine Aw.istore_n (by decide) d_Mdl_land_5 ?_
  refine Aw.toL (L' := [xr (some a0), xi v1, xi s0, xu, xu, xu]) rfl ?_
  refine Aw.iload_n rfl d_Mdl_land_6 ?_
  obtain ⟨o1, h⟩ := h
  obtain ⟨ht, hf⟩ := h
  refine Aw.if_eq (tgt := 47) o1 (by decide) d_Mdl_land_7 (fun c4 => ?_) (fun c4 => ?_)
  · have h := ht c4
    refine Aw.iconst d_Mdl_land_47 ?_
    refine Aw.istore_n (by decide) d_Mdl_land_48 ?_
    refine Aw.toL (L' := [xr (some a0), xi v1, xi s0, xi 0, xu, xu]) rfl ?_
    refine Aw.aload_n rfl d_Mdl_land_49 ?_
    refine Aw.iload_n rfl d_Mdl_land_50 ?_
    obtain ⟨ht, hf⟩ := h
    refine Aw.if_ne (tgt := 58) o1 (by decide) d_Mdl_land_51 (fun c3 => ?_) (fun c3 => ?_)
    · have h := ht c3
      refine Aw.iload_n rfl d_Mdl_land_58 ?_
      refine Aw.if_eq (tgt := 66) ⟨by decide, by decide⟩ (by decide) d_Mdl_land_59 (fun c2 => ?_) (fun c2 => absurd c2 (by decide))
      refine Aw.iconst d_Mdl_land_66 ?_
      exact h
    · have h := hf c3
      refine Aw.iconst d_Mdl_land_54 ?_
      refine Aw.goto (tgt := 67) (by decide) d_Mdl_land_55 ?_
      exact h
  · have h := hf c4
    refine Aw.aload_n rfl d_Mdl_land_10 ?_
    refine Aw.iload_n rfl d_Mdl_land_11 ?_
    exact h
theorem b_Mdl_land_15 {Ω : Om} {R : Room} {F : QF} {k n : Nat} {σ : Sto} {a0 : Nat} {v1 : Int} {v2 : Int} {s0 : Int} (h : Q32 s0 ∧ ((¬ s0 = (1 : Int) → Aw Ω M_Mdl_land R F k n 47 [xr (some a0), xi v1, xi v2, xu, xu, xu] [] σ) ∧ (s0 = (1 : Int) → sK σ a0 = 13 ∧ (∃ b3 : Nat, fR σ 808 a0 = some b3 ∧ sK σ b3 = 50 ∧ 0 ≤ v1 ∧ v1 < sZ σ b3 ∧ (Q32 (aI σ b3 (v1).toNat) → (((aI σ b3 (v1).toNat) = (-1 : Int) → Aw Ω M_Mdl_land R F k n 43 [xr (some a0), xi v1, xi v2, xu, xu, xu] [] σ) ∧ (¬ (aI σ b3 (v1).toNat) = (-1 : Int) → (∃ b9 : Nat, fR σ 809 a0 = some b9 ∧ (Q32 (aI σ b3 (v1).toNat) → sK σ b9 = 52 ∧ 0 ≤ (aI σ b3 (v1).toNat) ∧ (aI σ b3 (v1).toNat) < sZ σ b9 ∧ (Q32 (aI σ b9 (aI σ b3 (v1).toNat).toNat) → (((aI σ b9 (aI σ b3 (v1).toNat).toNat) = (0 : Int) → Aw Ω M_Mdl_land R F k n 47 [xr (some a0), xi v1, xi v2, xu, xu, xu] [] σ) ∧ (¬ (aI σ b9 (aI σ b3 (v1).toNat).toNat) = (0 : Int) → Aw Ω M_Mdl_land R F k n 43 [xr (some a0), xi v1, xi v2, xu, xu, xu] [] σ)))))))))))) : Aw Ω M_Mdl_land R F k n 15 [xr (some a0), xi v1, xi v2, xu, xu, xu] [xi s0] σ := by
  refine Aw.iconst d_Mdl_land_15 ?_
  obtain ⟨o1, h⟩ := h
  obtain ⟨ht, hf⟩ := h
  refine Aw.icmp_ne (tgt := 47) o1 ⟨by decide, by decide⟩ (by decide) d_Mdl_land_16 (fun c18 => ?_) (fun c18 => ?_)
  · have h := ht c18
    exact h
  · have h := hf c18
    refine Aw.aload_n rfl d_Mdl_land_19 ?_
    obtain ⟨o2, h⟩ := h
    obtain ⟨b3, e4, h⟩ := h
    refine Aw.getRs (f := 808) 12 40 fl_Mdl_83 (by decide) (by decide) rfl rfl o2 e4 d_Mdl_land_20 ?_
    refine Aw.iload_n rfl d_Mdl_land_23 ?_
    obtain ⟨o5, h⟩ := h
    obtain ⟨o6, o7, h⟩ := h
    refine Aw.iald o5 o6 o7 d_Mdl_land_24 (fun r8 => ?_)
    have h := h r8
    refine Aw.iconst d_Mdl_land_25 ?_
    obtain ⟨ht, hf⟩ := h
    refine Aw.icmp_eq (tgt := 43) r8 ⟨by decide, by decide⟩ (by decide) d_Mdl_land_26 (fun c17 => ?_) (fun c17 => ?_)
    · have h := ht c17
      exact h
    · have h := hf c17
      refine Aw.aload_n rfl d_Mdl_land_29 ?_
      obtain ⟨b9, e10, h⟩ := h
      refine Aw.getRs (f := 809) 12 41 fl_Mdl_86 (by decide) (by decide) rfl rfl o2 e10 d_Mdl_land_30 ?_
      refine Aw.aload_n rfl d_Mdl_land_33 ?_
      refine Aw.getRs (f := 808) 12 40 fl_Mdl_83 (by decide) (by decide) rfl rfl o2 e4 d_Mdl_land_34 ?_
      refine Aw.iload_n rfl d_Mdl_land_37 ?_
      refine Aw.iald o5 o6 o7 d_Mdl_land_38 (fun r11 => ?_)
      have h := h r11
      obtain ⟨o12, h⟩ := h
      obtain ⟨o13, o14, h⟩ := h
      refine Aw.zald o12 o13 o14 d_Mdl_land_39 (fun r15 => ?_)
      have h := h r15
      obtain ⟨ht, hf⟩ := h
      refine Aw.if_eq (tgt := 47) r15 (by decide) d_Mdl_land_40 (fun c16 => ?_) (fun c16 => ?_)
      · have h := ht c16
        exact h
      · have h := hf c16
        exact h
theorem b_Mdl_land_43 {Ω : Om} {R : Room} {F : QF} {k n : Nat} {σ : Sto} {a0 : Nat} {v1 : Int} {v2 : Int} (h : Q32 v2 ∧ ((¬ v2 = (0 : Int) → Aw Ω M_Mdl_land R F k n 67 [xr (some a0), xi v1, xi v2, xi 1, xu, xu] [xi 0, xr (some a0)] σ) ∧ (v2 = (0 : Int) → Aw Ω M_Mdl_land R F k n 67 [xr (some a0), xi v1, xi v2, xi 1, xu, xu] [xi 1, xr (some a0)] σ))) : Aw Ω M_Mdl_land R F k n 43 [xr (some a0), xi v1, xi v2, xu, xu, xu] [] σ := by
  refine Aw.iconst d_Mdl_land_43 ?_
  refine Aw.goto (tgt := 48) (by decide) d_Mdl_land_44 ?_
  refine Aw.istore_n (by decide) d_Mdl_land_48 ?_
  refine Aw.toL (L' := [xr (some a0), xi v1, xi v2, xi 1, xu, xu]) rfl ?_
  refine Aw.aload_n rfl d_Mdl_land_49 ?_
  refine Aw.iload_n rfl d_Mdl_land_50 ?_
  obtain ⟨o1, h⟩ := h
  obtain ⟨ht, hf⟩ := h
  refine Aw.if_ne (tgt := 58) o1 (by decide) d_Mdl_land_51 (fun c3 => ?_) (fun c3 => ?_)
  · have h := ht c3
    refine Aw.iload_n rfl d_Mdl_land_58 ?_
    refine Aw.if_eq (tgt := 66) ⟨by decide, by decide⟩ (by decide) d_Mdl_land_59 (fun c2 => absurd c2 (by decide)) (fun c2 => ?_)
    refine Aw.iconst d_Mdl_land_62 ?_
    refine Aw.goto (tgt := 67) (by decide) d_Mdl_land_63 ?_
    exact h
  · have h := hf c3
    refine Aw.iconst d_Mdl_land_54 ?_
    refine Aw.goto (tgt := 67) (by decide) d_Mdl_land_55 ?_
    exact h
theorem b_Mdl_land_70 {Ω : Om} {R : Room} {F : QF} {k n : Nat} {σ : Sto} {a0 : Nat} {v1 : Int} {v2 : Int} {v3 : Int} {s0 : Int} (h : Q32 s0 ∧ ((s0 = (0 : Int) → sK σ a0 = 13 ∧ (∃ b3 : Nat, fR σ 809 a0 = some b3 ∧ sK σ b3 = 52 ∧ 0 ≤ v1 ∧ v1 < sZ σ b3 ∧ Aw Ω M_Mdl_land R F k n 88 [xr (some a0), xi v1, xi v2, xi v3, xi 0, xi 0] [] (vI σ b3 (v1).toNat 1))) ∧ (¬ s0 = (0 : Int) → Aw Ω M_Mdl_land R F k n 74 [xr (some a0), xi v1, xi v2, xi v3, xu, xu] [xi 0] σ))) : Aw Ω M_Mdl_land R F k n 70 [xr (some a0), xi v1, xi v2, xi v3, xu, xu] [xi s0] σ := by
  obtain ⟨o1, h⟩ := h
  obtain ⟨ht, hf⟩ := h
  refine Aw.if_eq (tgt := 75) o1 (by decide) d_Mdl_land_70 (fun c8 => ?_) (fun c8 => ?_)
  · have h := ht c8
    refine Aw.aload_n rfl d_Mdl_land_75 ?_
    obtain ⟨o2, h⟩ := h
    obtain ⟨b3, e4, h⟩ := h
    refine Aw.getRs (f := 809) 12 41 fl_Mdl_86 (by decide) (by decide) rfl rfl o2 e4 d_Mdl_land_76 ?_
    refine Aw.iload_n rfl d_Mdl_land_79 ?_
    refine Aw.iconst d_Mdl_land_80 ?_
    obtain ⟨o5, h⟩ := h
    obtain ⟨o6, o7, h⟩ := h
    refine Aw.zast o5 o6 o7 (by decide) d_Mdl_land_81 ?_
    refine Aw.iconst d_Mdl_land_82 ?_
    refine Aw.istore (by decide) d_Mdl_land_83 ?_
    refine Aw.toL (L' := [xr (some a0), xi v1, xi v2, xi v3, xi 0, xu]) rfl ?_
    refine Aw.iconst d_Mdl_land_85 ?_
    refine Aw.istore (by decide) d_Mdl_land_86 ?_
    refine Aw.toL (L' := [xr (some a0), xi v1, xi v2, xi v3, xi 0, xi 0]) rfl ?_
    exact h
  · have h := hf c8
    refine Aw.iconst d_Mdl_land_73 ?_
    exact h
theorem b_Mdl_land_88 {Ω : Om} {R : Room} {F : QF} {k n : Nat} {σ : Sto} {a0 : Nat} {v1 : Int} {v2 : Int} {v3 : Int} {v4 : Int} {v5 : Int} (h : sK σ a0 = 13 ∧ (Q32 (fI σ 806 a0) → Q32 v5 ∧ (((fI σ 806 a0) ≤ v5 → Aw Ω M_Mdl_land R F k n 136 [xr (some a0), xi v1, xi v2, xi v3, xi v4, xi v5] [xi v4] σ) ∧ (¬ (fI σ 806 a0) ≤ v5 → (∃ b4 : Nat, fR σ 808 a0 = some b4 ∧ sK σ b4 = 50 ∧ 0 ≤ v5 ∧ v5 < sZ σ b4 ∧ (Q32 (aI σ b4 (v5).toNat) → Q32 v1 ∧ ((¬ (aI σ b4 (v5).toNat) = v1 → Aw Ω M_Mdl_land R F k n 88 [xr (some a0), xi v1, xi v2, xi v3, xi (v4 + 0), xi (v5 + 1)] [] σ) ∧ ((aI σ b4 (v5).toNat) = v1 → (∃ b11 : Nat, fR σ 809 a0 = some b11 ∧ sK σ b11 = 52 ∧ 0 ≤ v5 ∧ v5 < sZ σ b11 ∧ (Q32 (aI σ b11 (v5).toNat) → ((¬ (aI σ b11 (v5).toNat) = (0 : Int) → Aw Ω M_Mdl_land R F k n 88 [xr (some a0), xi v1, xi v2, xi v3, xi (v4 + 0), xi (v5 + 1)] [] σ) ∧ ((aI σ b11 (v5).toNat) = (0 : Int) → Aw Ω M_Mdl_land R F k n 88 [xr (some a0), xi v1, xi v2, xi v3, xi (v4 + 1), xi (v5 + 1)] [] σ)))))))))))) : Aw Ω M_Mdl_land R F k n 88 [xr (some a0), xi v1, xi v2, xi v3, xi v4, xi v5] [] σ := by
  refine Aw.iload rfl d_Mdl_land_88 ?_
  refine Aw.aload_n rfl d_Mdl_land_90 ?_
  obtain ⟨o1, h⟩ := h
  refine Aw.getI (f := 806) 12 38 fl_Mdl_348 (by decide) (by decide) rfl rfl o1 d_Mdl_land_91 (fun r2 => ?_)
  have h := h r2
  obtain ⟨o3, h⟩ := h
  obtain ⟨ht, hf⟩ := h
  refine Aw.icmp_ge (tgt := 134) o3 r2 (by decide) d_Mdl_land_94 (fun c19 => ?_) (fun c19 => ?_)
  · have h := ht c19
    refine Aw.iload rfl d_Mdl_land_134 ?_
    exact h
  · have h := hf c19
    refine Aw.iload rfl d_Mdl_land_97 ?_
    refine Aw.aload_n rfl d_Mdl_land_99 ?_
    obtain ⟨b4, e5, h⟩ := h
    refine Aw.getRs (f := 808) 12 40 fl_Mdl_83 (by decide) (by decide) rfl rfl o1 e5 d_Mdl_land_100 ?_
    refine Aw.iload rfl d_Mdl_land_103 ?_
    obtain ⟨o6, h⟩ := h
    obtain ⟨o7, o8, h⟩ := h
    refine Aw.iald o6 o7 o8 d_Mdl_land_105 (fun r9 => ?_)
    have h := h r9
    refine Aw.iload_n rfl d_Mdl_land_106 ?_
    obtain ⟨o10, h⟩ := h
    obtain ⟨ht, hf⟩ := h
    refine Aw.icmp_ne (tgt := 124) r9 o10 (by decide) d_Mdl_land_107 (fun c18 => ?_) (fun c18 => ?_)
    · have h := ht c18
      refine Aw.iconst d_Mdl_land_124 ?_
      refine Aw.iadd d_Mdl_land_125 ?_
      refine Aw.istore (by decide) d_Mdl_land_126 ?_
      refine Aw.toL (L' := [xr (some a0), xi v1, xi v2, xi v3, xi (v4 + 0), xi v5]) rfl ?_
      refine Aw.iinc rfl d_Mdl_land_128 ?_
      refine Aw.toL (L' := [xr (some a0), xi v1, xi v2, xi v3, xi (v4 + 0), xi (v5 + 1)]) rfl ?_
      refine Aw.goto (tgt := 88) (by decide) d_Mdl_land_131 ?_
      exact h
    · have h := hf c18
      refine Aw.aload_n rfl d_Mdl_land_110 ?_
      obtain ⟨b11, e12, h⟩ := h
      refine Aw.getRs (f := 809) 12 41 fl_Mdl_86 (by decide) (by decide) rfl rfl o1 e12 d_Mdl_land_111 ?_
      refine Aw.iload rfl d_Mdl_land_114 ?_
      obtain ⟨o13, h⟩ := h
      obtain ⟨o14, o15, h⟩ := h
      refine Aw.zald o13 o14 o15 d_Mdl_land_116 (fun r16 => ?_)
      have h := h r16
      obtain ⟨ht, hf⟩ := h
      refine Aw.if_ne (tgt := 124) r16 (by decide) d_Mdl_land_117 (fun c17 => ?_) (fun c17 => ?_)
      · have h := ht c17
        refine Aw.iconst d_Mdl_land_124 ?_
        refine Aw.iadd d_Mdl_land_125 ?_
        refine Aw.istore (by decide) d_Mdl_land_126 ?_
        refine Aw.toL (L' := [xr (some a0), xi v1, xi v2, xi v3, xi (v4 + 0), xi v5]) rfl ?_
        refine Aw.iinc rfl d_Mdl_land_128 ?_
        refine Aw.toL (L' := [xr (some a0), xi v1, xi v2, xi v3, xi (v4 + 0), xi (v5 + 1)]) rfl ?_
        refine Aw.goto (tgt := 88) (by decide) d_Mdl_land_131 ?_
        exact h
      · have h := hf c17
        refine Aw.iconst d_Mdl_land_120 ?_
        refine Aw.goto (tgt := 125) (by decide) d_Mdl_land_121 ?_
        refine Aw.iadd d_Mdl_land_125 ?_
        refine Aw.istore (by decide) d_Mdl_land_126 ?_
        refine Aw.toL (L' := [xr (some a0), xi v1, xi v2, xi v3, xi (v4 + 1), xi v5]) rfl ?_
        refine Aw.iinc rfl d_Mdl_land_128 ?_
        refine Aw.toL (L' := [xr (some a0), xi v1, xi v2, xi v3, xi (v4 + 1), xi (v5 + 1)]) rfl ?_
        refine Aw.goto (tgt := 88) (by decide) d_Mdl_land_131 ?_
        exact h
theorem b_Mdl_land_47 {Ω : Om} {R : Room} {F : QF} {k n : Nat} {σ : Sto} {a0 : Nat} {v1 : Int} {v2 : Int} (h : Q32 v2 ∧ ((¬ v2 = (0 : Int) → Aw Ω M_Mdl_land R F k n 67 [xr (some a0), xi v1, xi v2, xi 0, xu, xu] [xi 2, xr (some a0)] σ) ∧ (v2 = (0 : Int) → Aw Ω M_Mdl_land R F k n 67 [xr (some a0), xi v1, xi v2, xi 0, xu, xu] [xi 1, xr (some a0)] σ))) : Aw Ω M_Mdl_land R F k n 47 [xr (some a0), xi v1, xi v2, xu, xu, xu] [] σ := by
  refine Aw.iconst d_Mdl_land_47 ?_
  refine Aw.istore_n (by decide) d_Mdl_land_48 ?_
  refine Aw.toL (L' := [xr (some a0), xi v1, xi v2, xi 0, xu, xu]) rfl ?_
  refine Aw.aload_n rfl d_Mdl_land_49 ?_
  refine Aw.iload_n rfl d_Mdl_land_50 ?_
  obtain ⟨o1, h⟩ := h
  obtain ⟨ht, hf⟩ := h
  refine Aw.if_ne (tgt := 58) o1 (by decide) d_Mdl_land_51 (fun c3 => ?_) (fun c3 => ?_)
  · have h := ht c3
    refine Aw.iload_n rfl d_Mdl_land_58 ?_
    refine Aw.if_eq (tgt := 66) ⟨by decide, by decide⟩ (by decide) d_Mdl_land_59 (fun c2 => ?_) (fun c2 => absurd c2 (by decide))
    refine Aw.iconst d_Mdl_land_66 ?_
    exact h
  · have h := hf c3
    refine Aw.iconst d_Mdl_land_54 ?_
    refine Aw.goto (tgt := 67) (by decide) d_Mdl_land_55 ?_
    exact h
theorem c_Mdl_land_2 {Ω : Om} {R R' : Room} {F : QF} {k n : Nat} {L st : List PV} {σ : Sto} {QX' : String → Sto → Prop} {Q : Int → Sto → Prop} {a : Nat} {x0 : Int} (hc : MC Ω M_Mdl_isReview R' (RI Q) QX' σ [xr (some a), xi x0]) (hk : sK σ a = 13) (hr1 : R'.frames + 1 ≤ R.frames) (hr2 : 8 + (2 + 11) + R'.locals ≤ R.locals) (hb1 : k + R'.cells ≤ R.cells) (hb2 : n + R'.slots ≤ R.slots) (hst : (st.map catP).sum ≤ 8) (kk : ∀ x σ', Q x σ' → Aw Ω M_Mdl_land R F (k + R'.cells) (n + R'.slots) 5 L (xi x :: st) σ') (kx : ∀ E σ', QX' E σ' → Ax Ω M_Mdl_land R F (k + R'.cells) (n + R'.slots) 2 L st σ' E) : Aw Ω M_Mdl_land R F k n 2 L (xi x0 :: xr (some a) :: st) σ :=
  Aw.callV (As := [xi x0]) (stk := xi x0 :: xr (some a) :: st) (nn := 1) 12 M_Mdl_isReview hc ok_Mdl_isReview rfl (by decide) rfl hk ml_Mdl_351 im_Mdl_isReview se_Mdl_isReview ⟨hr1, hr2⟩ rfl ⟨hb1, hb2⟩ hst rfl d_Mdl_land_2 (fun r σ' h => by obtain ⟨x, rfl, h⟩ := h; exact kk x σ' h) kx
theorem c_Mdl_land_12 {Ω : Om} {R R' : Room} {F : QF} {k n : Nat} {L st : List PV} {σ : Sto} {QX' : String → Sto → Prop} {Q : Int → Sto → Prop} {a : Nat} {x0 : Int} (hc : MC Ω M_Mdl_stateOf R' (RI Q) QX' σ [xr (some a), xi x0]) (hk : sK σ a = 13) (hr1 : R'.frames + 1 ≤ R.frames) (hr2 : 8 + (5 + 11) + R'.locals ≤ R.locals) (hb1 : k + R'.cells ≤ R.cells) (hb2 : n + R'.slots ≤ R.slots) (hst : (st.map catP).sum ≤ 8) (kk : ∀ x σ', Q x σ' → Aw Ω M_Mdl_land R F (k + R'.cells) (n + R'.slots) 15 L (xi x :: st) σ') (kx : ∀ E σ', QX' E σ' → Ax Ω M_Mdl_land R F (k + R'.cells) (n + R'.slots) 12 L st σ' E) : Aw Ω M_Mdl_land R F k n 12 L (xi x0 :: xr (some a) :: st) σ :=
  Aw.callV (As := [xi x0]) (stk := xi x0 :: xr (some a) :: st) (nn := 1) 12 M_Mdl_stateOf hc ok_Mdl_stateOf rfl (by decide) rfl hk ml_Mdl_354 im_Mdl_stateOf se_Mdl_stateOf ⟨hr1, hr2⟩ rfl ⟨hb1, hb2⟩ hst rfl d_Mdl_land_12 (fun r σ' h => by obtain ⟨x, rfl, h⟩ := h; exact kk x σ' h) kx
theorem c_Mdl_land_67 {Ω : Om} {R R' : Room} {F : QF} {k n : Nat} {L st : List PV} {σ : Sto} {QX' : String → Sto → Prop} {Q : Int → Sto → Prop} {a : Nat} {x0 : Int} (hc : MC Ω M_Mdl_refused R' (RI Q) QX' σ [xr (some a), xi x0]) (hk : sK σ a = 13) (hr1 : R'.frames + 1 ≤ R.frames) (hr2 : 8 + (2 + 11) + R'.locals ≤ R.locals) (hb1 : k + R'.cells ≤ R.cells) (hb2 : n + R'.slots ≤ R.slots) (hst : (st.map catP).sum ≤ 8) (kk : ∀ x σ', Q x σ' → Aw Ω M_Mdl_land R F (k + R'.cells) (n + R'.slots) 70 L (xi x :: st) σ') (kx : ∀ E σ', QX' E σ' → Ax Ω M_Mdl_land R F (k + R'.cells) (n + R'.slots) 67 L st σ' E) : Aw Ω M_Mdl_land R F k n 67 L (xi x0 :: xr (some a) :: st) σ :=
  Aw.callV (As := [xi x0]) (stk := xi x0 :: xr (some a) :: st) (nn := 1) 12 M_Mdl_refused hc ok_Mdl_refused rfl (by decide) rfl hk ml_Mdl_151 im_Mdl_refused se_Mdl_refused ⟨hr1, hr2⟩ rfl ⟨hb1, hb2⟩ hst rfl d_Mdl_land_67 (fun r σ' h => by obtain ⟨x, rfl, h⟩ := h; exact kk x σ' h) kx
theorem r_Mdl_land_74 {Ω : Om} {R : Room} {k n : Nat} {L : List PV} {σ : Sto} {QR : Option PV → Sto → Prop} {QX : String → Sto → Prop} {x : Int} (h : QR (some (xi x)) σ) (h1 : k ≤ R.cells) (h2 : n ≤ R.slots) : Aw Ω M_Mdl_land R (MF Ω R QR QX) k n 74 L [xi x] σ := Aw.iret rfl h h1 h2 d_Mdl_land_74
theorem r_Mdl_land_136 {Ω : Om} {R : Room} {k n : Nat} {L : List PV} {σ : Sto} {QR : Option PV → Sto → Prop} {QX : String → Sto → Prop} {x : Int} (h : QR (some (xi x)) σ) (h1 : k ≤ R.cells) (h2 : n ≤ R.slots) : Aw Ω M_Mdl_land R (MF Ω R QR QX) k n 136 L [xi x] σ := Aw.iret rfl h h1 h2 d_Mdl_land_136
theorem e_Mdl_noteAt {Ω : Om} {R : Room} {QR : Option PV → Sto → Prop} {QX : String → Sto → Prop} {σ : Sto} {a0 : Nat} {v1 : Int} {v2 : Int} (h : Aw Ω M_Mdl_noteAt R (MF Ω R QR QX) 0 0 0 [xr (some a0), xi v1, xi v2, xu, xu] [] σ) : MC Ω M_Mdl_noteAt R QR QX σ [xr (some a0), xi v1, xi v2] := MC.body (by decide +kernel) rfl (Nat.le_of_ble_eq_true rfl) rfl h
theorem b_Mdl_noteAt_0 {Ω : Om} {R : Room} {F : QF} {k n : Nat} {σ : Sto} {a0 : Nat} {v1 : Int} {v2 : Int} (h : sK σ a0 = 13 ∧ (Q32 (fI σ 804 a0) → Aw Ω M_Mdl_noteAt R F k n 9 [xr (some a0), xi v1, xi v2, xu, xu] [xi ((fI σ 804 a0) - 1), xi 0, xi v1, xr (some a0)] σ)) : Aw Ω M_Mdl_noteAt R F k n 0 [xr (some a0), xi v1, xi v2, xu, xu] [] σ := by
  refine Aw.aload_n rfl d_Mdl_noteAt_0 ?_
  refine Aw.iload_n rfl d_Mdl_noteAt_1 ?_
  refine Aw.iconst d_Mdl_noteAt_2 ?_
  refine Aw.aload_n rfl d_Mdl_noteAt_3 ?_
  obtain ⟨o1, h⟩ := h
  refine Aw.getI (f := 804) 12 36 fl_Mdl_345 (by decide) (by decide) rfl rfl o1 d_Mdl_noteAt_4 (fun r2 => ?_)
  have h := h r2
  refine Aw.iconst d_Mdl_noteAt_7 ?_
  refine Aw.isub d_Mdl_noteAt_8 ?_
  exact h
theorem b_Mdl_noteAt_12 {Ω : Om} {R : Room} {F : QF} {k n : Nat} {σ : Sto} {a0 : Nat} {v1 : Int} {v2 : Int} {s0 : Nat} {s1 : Int} (h : Q32 s1 ∧ ((s1 = (0 : Int) → Aw Ω M_Mdl_noteAt R F k n 28 [xr (some a0), xi v1, xi v2, xu, xu] [xi 1, xr (some s0)] σ) ∧ (¬ s1 = (0 : Int) → Aw Ω M_Mdl_noteAt R F k n 17 [xr (some a0), xi v1, xi v2, xu, xu] [xi v2, xr (some a0), xr (some s0)] σ))) : Aw Ω M_Mdl_noteAt R F k n 12 [xr (some a0), xi v1, xi v2, xu, xu] [xi s1, xr (some s0)] σ := by
  obtain ⟨o1, h⟩ := h
  obtain ⟨ht, hf⟩ := h
  refine Aw.if_eq (tgt := 27) o1 (by decide) d_Mdl_noteAt_12 (fun c2 => ?_) (fun c2 => ?_)
  · have h := ht c2
    refine Aw.iconst d_Mdl_noteAt_27 ?_
    exact h
  · have h := hf c2
    refine Aw.aload_n rfl d_Mdl_noteAt_15 ?_
    refine Aw.iload_n rfl d_Mdl_noteAt_16 ?_
    exact h
theorem b_Mdl_noteAt_20 {Ω : Om} {R : Room} {F : QF} {k n : Nat} {σ : Sto} {a0 : Nat} {v1 : Int} {v2 : Int} {s0 : Nat} {s1 : Int} (h : Q32 s1 ∧ ((s1 = (0 : Int) → Aw Ω M_Mdl_noteAt R F k n 28 [xr (some a0), xi v1, xi v2, xu, xu] [xi 1, xr (some s0)] σ) ∧ (¬ s1 = (0 : Int) → Aw Ω M_Mdl_noteAt R F k n 28 [xr (some a0), xi v1, xi v2, xu, xu] [xi 0, xr (some s0)] σ))) : Aw Ω M_Mdl_noteAt R F k n 20 [xr (some a0), xi v1, xi v2, xu, xu] [xi s1, xr (some s0)] σ := by
  obtain ⟨o1, h⟩ := h
  obtain ⟨ht, hf⟩ := h
  refine Aw.if_eq (tgt := 27) o1 (by decide) d_Mdl_noteAt_20 (fun c2 => ?_) (fun c2 => ?_)
  · have h := ht c2
    refine Aw.iconst d_Mdl_noteAt_27 ?_
    exact h
  · have h := hf c2
    refine Aw.iconst d_Mdl_noteAt_23 ?_
    refine Aw.goto (tgt := 28) (by decide) d_Mdl_noteAt_24 ?_
    exact h
theorem b_Mdl_noteAt_31 {Ω : Om} {R : Room} {F : QF} {k n : Nat} {σ : Sto} {a0 : Nat} {v1 : Int} {v2 : Int} {s0 : Int} (h : Q32 s0 ∧ ((s0 = (0 : Int) → Aw Ω M_Mdl_noteAt R F k n 38 [xr (some a0), xi v1, xi v2, xi 0, xu] [] σ) ∧ (¬ s0 = (0 : Int) → Aw Ω M_Mdl_noteAt R F k n 35 [xr (some a0), xi v1, xi v2, xu, xu] [xi 0] σ))) : Aw Ω M_Mdl_noteAt R F k n 31 [xr (some a0), xi v1, xi v2, xu, xu] [xi s0] σ := by
  obtain ⟨o1, h⟩ := h
  obtain ⟨ht, hf⟩ := h
  refine Aw.if_eq (tgt := 36) o1 (by decide) d_Mdl_noteAt_31 (fun c2 => ?_) (fun c2 => ?_)
  · have h := ht c2
    refine Aw.iconst d_Mdl_noteAt_36 ?_
    refine Aw.istore_n (by decide) d_Mdl_noteAt_37 ?_
    refine Aw.toL (L' := [xr (some a0), xi v1, xi v2, xi 0, xu]) rfl ?_
    exact h
  · have h := hf c2
    refine Aw.iconst d_Mdl_noteAt_34 ?_
    exact h
theorem b_Mdl_noteAt_38 {Ω : Om} {R : Room} {F : QF} {k n : Nat} {σ : Sto} {a0 : Nat} {v1 : Int} {v2 : Int} {v3 : Int} (h : sK σ a0 = 13 ∧ (∃ b2 : Nat, fR σ 774 a0 = some b2 ∧ sK σ b2 = 50 ∧ 0 ≤ v2 ∧ v2 < sZ σ b2 ∧ (Q32 (aI σ b2 (v2).toNat) → Q32 v3 ∧ (((aI σ b2 (v2).toNat) ≤ v3 → Aw Ω M_Mdl_noteAt R F k n 105 [xr (some a0), xi v1, xi v2, xi v3, xu] [xi (-1)] σ) ∧ (¬ (aI σ b2 (v2).toNat) ≤ v3 → (∃ b9 : Nat, fR σ 775 a0 = some b9 ∧ sK σ b9 = 50 ∧ 0 ≤ ((20 * v2) + v3) ∧ ((20 * v2) + v3) < sZ σ b9 ∧ (Q32 (aI σ b9 ((20 * v2) + v3).toNat) → Aw Ω M_Mdl_noteAt R F k n 61 [xr (some a0), xi v1, xi v2, xi v3, xi (aI σ b9 ((20 * v2) + v3).toNat)] [] σ))))))) : Aw Ω M_Mdl_noteAt R F k n 38 [xr (some a0), xi v1, xi v2, xi v3, xu] [] σ := by
  refine Aw.iload_n rfl d_Mdl_noteAt_38 ?_
  refine Aw.aload_n rfl d_Mdl_noteAt_39 ?_
  obtain ⟨o1, h⟩ := h
  obtain ⟨b2, e3, h⟩ := h
  refine Aw.getRs (f := 774) 12 6 fl_Mdl_20 (by decide) (by decide) rfl rfl o1 e3 d_Mdl_noteAt_40 ?_
  refine Aw.iload_n rfl d_Mdl_noteAt_43 ?_
  obtain ⟨o4, h⟩ := h
  obtain ⟨o5, o6, h⟩ := h
  refine Aw.iald o4 o5 o6 d_Mdl_noteAt_44 (fun r7 => ?_)
  have h := h r7
  obtain ⟨o8, h⟩ := h
  obtain ⟨ht, hf⟩ := h
  refine Aw.icmp_ge (tgt := 104) o8 r7 (by decide) d_Mdl_noteAt_45 (fun c15 => ?_) (fun c15 => ?_)
  · have h := ht c15
    refine Aw.iconst d_Mdl_noteAt_104 ?_
    exact h
  · have h := hf c15
    refine Aw.aload_n rfl d_Mdl_noteAt_48 ?_
    obtain ⟨b9, e10, h⟩ := h
    refine Aw.getRs (f := 775) 12 7 fl_Mdl_23 (by decide) (by decide) rfl rfl o1 e10 d_Mdl_noteAt_49 ?_
    refine Aw.bipush (by decide) d_Mdl_noteAt_52 ?_
    refine Aw.iload_n rfl d_Mdl_noteAt_54 ?_
    refine Aw.imul d_Mdl_noteAt_55 ?_
    refine Aw.iload_n rfl d_Mdl_noteAt_56 ?_
    refine Aw.iadd d_Mdl_noteAt_57 ?_
    obtain ⟨o11, h⟩ := h
    obtain ⟨o12, o13, h⟩ := h
    refine Aw.iald o11 o12 o13 d_Mdl_noteAt_58 (fun r14 => ?_)
    have h := h r14
    refine Aw.istore (by decide) d_Mdl_noteAt_59 ?_
    refine Aw.toL (L' := [xr (some a0), xi v1, xi v2, xi v3, xi (aI σ b9 ((20 * v2) + v3).toNat)]) rfl ?_
    exact h
theorem b_Mdl_noteAt_61 {Ω : Om} {R : Room} {F : QF} {k n : Nat} {σ : Sto} {a0 : Nat} {v1 : Int} {v2 : Int} {v3 : Int} {v4 : Int} (h : Q32 v4 ∧ ((v4 = (-1 : Int) → ((v4 = (-1 : Int) → Aw Ω M_Mdl_noteAt R F k n 38 [xr (some a0), xi v1, xi v2, xi (v3 + 1), xu] [] σ) ∧ (¬ v4 = (-1 : Int) → Aw Ω M_Mdl_noteAt R F k n 97 [xr (some a0), xi v1, xi v2, xi v3, xi v4] [xi v3] σ))) ∧ (¬ v4 = (-1 : Int) → sK σ a0 = 13 ∧ (∃ b4 : Nat, fR σ 805 a0 = some b4 ∧ sK σ b4 = 50 ∧ 0 ≤ v1 ∧ v1 < sZ σ b4 ∧ (Q32 (aI σ b4 (v1).toNat) → ((v4 = (aI σ b4 (v1).toNat) → ((v4 = (-1 : Int) → Aw Ω M_Mdl_noteAt R F k n 38 [xr (some a0), xi v1, xi v2, xi (v3 + 1), xu] [] σ) ∧ (¬ v4 = (-1 : Int) → Aw Ω M_Mdl_noteAt R F k n 97 [xr (some a0), xi v1, xi v2, xi v3, xi v4] [xi v3] σ))) ∧ (¬ v4 = (aI σ b4 (v1).toNat) → (∃ b11 : Nat, fR σ 772 a0 = some b11 ∧ sK σ b11 = 50 ∧ 0 ≤ v4 ∧ v4 < sZ σ b11 ∧ (Q32 (aI σ b11 (v4).toNat) → Aw Ω M_Mdl_noteAt R F k n 61 [xr (some a0), xi v1, xi v2, xi v3, xi (aI σ b11 (v4).toNat)] [] σ))))))))) : Aw Ω M_Mdl_noteAt R F k n 61 [xr (some a0), xi v1, xi v2, xi v3, xi v4] [] σ := by
  refine Aw.iload rfl d_Mdl_noteAt_61 ?_
  refine Aw.iconst d_Mdl_noteAt_63 ?_
  obtain ⟨o1, h⟩ := h
  obtain ⟨ht, hf⟩ := h
  refine Aw.icmp_eq (tgt := 90) o1 ⟨by decide, by decide⟩ (by decide) d_Mdl_noteAt_64 (fun c18 => ?_) (fun c18 => ?_)
  · have h := ht c18
    refine Aw.iload rfl d_Mdl_noteAt_90 ?_
    refine Aw.iconst d_Mdl_noteAt_92 ?_
    obtain ⟨ht, hf⟩ := h
    refine Aw.icmp_eq (tgt := 98) o1 ⟨by decide, by decide⟩ (by decide) d_Mdl_noteAt_93 (fun c2 => ?_) (fun c2 => ?_)
    · have h := ht c2
      refine Aw.iinc rfl d_Mdl_noteAt_98 ?_
      refine Aw.toL (L' := [xr (some a0), xi v1, xi v2, xi (v3 + 1), xi v4]) rfl ?_
      refine Aw.goto (tgt := 38) (by decide) d_Mdl_noteAt_101 ?_
      exact Aw.toW (L' := [xr (some a0), xi v1, xi v2, xi (v3 + 1), xu]) ⟨Or.inr rfl, Or.inr rfl, Or.inr rfl, Or.inr rfl, Or.inl rfl, trivial⟩ h
    · have h := hf c2
      refine Aw.iload_n rfl d_Mdl_noteAt_96 ?_
      exact h
  · have h := hf c18
    refine Aw.iload rfl d_Mdl_noteAt_67 ?_
    refine Aw.aload_n rfl d_Mdl_noteAt_69 ?_
    obtain ⟨o3, h⟩ := h
    obtain ⟨b4, e5, h⟩ := h
    refine Aw.getRs (f := 805) 12 37 fl_Mdl_77 (by decide) (by decide) rfl rfl o3 e5 d_Mdl_noteAt_70 ?_
    refine Aw.iload_n rfl d_Mdl_noteAt_73 ?_
    obtain ⟨o6, h⟩ := h
    obtain ⟨o7, o8, h⟩ := h
    refine Aw.iald o6 o7 o8 d_Mdl_noteAt_74 (fun r9 => ?_)
    have h := h r9
    obtain ⟨ht, hf⟩ := h
    refine Aw.icmp_eq (tgt := 90) o1 r9 (by decide) d_Mdl_noteAt_75 (fun c17 => ?_) (fun c17 => ?_)
    · have h := ht c17
      refine Aw.iload rfl d_Mdl_noteAt_90 ?_
      refine Aw.iconst d_Mdl_noteAt_92 ?_
      obtain ⟨ht, hf⟩ := h
      refine Aw.icmp_eq (tgt := 98) o1 ⟨by decide, by decide⟩ (by decide) d_Mdl_noteAt_93 (fun c10 => ?_) (fun c10 => ?_)
      · have h := ht c10
        refine Aw.iinc rfl d_Mdl_noteAt_98 ?_
        refine Aw.toL (L' := [xr (some a0), xi v1, xi v2, xi (v3 + 1), xi v4]) rfl ?_
        refine Aw.goto (tgt := 38) (by decide) d_Mdl_noteAt_101 ?_
        exact Aw.toW (L' := [xr (some a0), xi v1, xi v2, xi (v3 + 1), xu]) ⟨Or.inr rfl, Or.inr rfl, Or.inr rfl, Or.inr rfl, Or.inl rfl, trivial⟩ h
      · have h := hf c10
        refine Aw.iload_n rfl d_Mdl_noteAt_96 ?_
        exact h
    · have h := hf c17
      refine Aw.aload_n rfl d_Mdl_noteAt_78 ?_
      obtain ⟨b11, e12, h⟩ := h
      refine Aw.getRs (f := 772) 12 4 fl_Mdl_17 (by decide) (by decide) rfl rfl o3 e12 d_Mdl_noteAt_79 ?_
      refine Aw.iload rfl d_Mdl_noteAt_82 ?_
      obtain ⟨o13, h⟩ := h
      obtain ⟨o14, o15, h⟩ := h
      refine Aw.iald o13 o14 o15 d_Mdl_noteAt_84 (fun r16 => ?_)
      have h := h r16
      refine Aw.istore (by decide) d_Mdl_noteAt_85 ?_
      refine Aw.toL (L' := [xr (some a0), xi v1, xi v2, xi v3, xi (aI σ b11 (v4).toNat)]) rfl ?_
      refine Aw.goto (tgt := 61) (by decide) d_Mdl_noteAt_87 ?_
      exact h
theorem c_Mdl_noteAt_9 {Ω : Om} {R R' : Room} {F : QF} {k n : Nat} {L st : List PV} {σ : Sto} {QX' : String → Sto → Prop} {Q : Int → Sto → Prop} {x0 : Int} {x1 : Int} {x2 : Int} (hc : MC Ω M_Mdl_in R' (RI Q) QX' σ [xi x0, xi x1, xi x2]) (hr1 : R'.frames + 1 ≤ R.frames) (hr2 : 8 + (3 + 11) + R'.locals ≤ R.locals) (hb1 : k + R'.cells ≤ R.cells) (hb2 : n + R'.slots ≤ R.slots) (hst : (st.map catP).sum ≤ 8) (kk : ∀ x σ', Q x σ' → Aw Ω M_Mdl_noteAt R F (k + R'.cells) (n + R'.slots) 12 L (xi x :: st) σ') (kx : ∀ E σ', QX' E σ' → Ax Ω M_Mdl_noteAt R F (k + R'.cells) (n + R'.slots) 9 L st σ' E) : Aw Ω M_Mdl_noteAt R F k n 9 L (xi x2 :: xi x1 :: xi x0 :: st) σ :=
  Aw.callS (As := [xi x0, xi x1, xi x2]) (stk := xi x2 :: xi x1 :: xi x0 :: st) (nn := 3) M_Mdl_in hc ok_Mdl_in rfl ml_Mdl_130 sta_Mdl_in ⟨hr1, hr2⟩ rfl ⟨hb1, hb2⟩ hst rfl d_Mdl_noteAt_9 (fun r σ' h => by obtain ⟨x, rfl, h⟩ := h; exact kk x σ' h) kx
theorem c_Mdl_noteAt_17 {Ω : Om} {R R' : Room} {F : QF} {k n : Nat} {L st : List PV} {σ : Sto} {QX' : String → Sto → Prop} {Q : Int → Sto → Prop} {a : Nat} {x0 : Int} (hc : MC Ω M_Mdl_isVersion R' (RI Q) QX' σ [xr (some a), xi x0]) (hk : sK σ a = 13) (hr1 : R'.frames + 1 ≤ R.frames) (hr2 : 8 + (2 + 11) + R'.locals ≤ R.locals) (hb1 : k + R'.cells ≤ R.cells) (hb2 : n + R'.slots ≤ R.slots) (hst : (st.map catP).sum ≤ 8) (kk : ∀ x σ', Q x σ' → Aw Ω M_Mdl_noteAt R F (k + R'.cells) (n + R'.slots) 20 L (xi x :: st) σ') (kx : ∀ E σ', QX' E σ' → Ax Ω M_Mdl_noteAt R F (k + R'.cells) (n + R'.slots) 17 L st σ' E) : Aw Ω M_Mdl_noteAt R F k n 17 L (xi x0 :: xr (some a) :: st) σ :=
  Aw.callV (As := [xi x0]) (stk := xi x0 :: xr (some a) :: st) (nn := 1) 12 M_Mdl_isVersion hc ok_Mdl_isVersion rfl (by decide) rfl hk ml_Mdl_172 im_Mdl_isVersion se_Mdl_isVersion ⟨hr1, hr2⟩ rfl ⟨hb1, hb2⟩ hst rfl d_Mdl_noteAt_17 (fun r σ' h => by obtain ⟨x, rfl, h⟩ := h; exact kk x σ' h) kx
theorem c_Mdl_noteAt_28 {Ω : Om} {R R' : Room} {F : QF} {k n : Nat} {L st : List PV} {σ : Sto} {QX' : String → Sto → Prop} {Q : Int → Sto → Prop} {a : Nat} {x0 : Int} (hc : MC Ω M_Mdl_refused R' (RI Q) QX' σ [xr (some a), xi x0]) (hk : sK σ a = 13) (hr1 : R'.frames + 1 ≤ R.frames) (hr2 : 8 + (2 + 11) + R'.locals ≤ R.locals) (hb1 : k + R'.cells ≤ R.cells) (hb2 : n + R'.slots ≤ R.slots) (hst : (st.map catP).sum ≤ 8) (kk : ∀ x σ', Q x σ' → Aw Ω M_Mdl_noteAt R F (k + R'.cells) (n + R'.slots) 31 L (xi x :: st) σ') (kx : ∀ E σ', QX' E σ' → Ax Ω M_Mdl_noteAt R F (k + R'.cells) (n + R'.slots) 28 L st σ' E) : Aw Ω M_Mdl_noteAt R F k n 28 L (xi x0 :: xr (some a) :: st) σ :=
  Aw.callV (As := [xi x0]) (stk := xi x0 :: xr (some a) :: st) (nn := 1) 12 M_Mdl_refused hc ok_Mdl_refused rfl (by decide) rfl hk ml_Mdl_151 im_Mdl_refused se_Mdl_refused ⟨hr1, hr2⟩ rfl ⟨hb1, hb2⟩ hst rfl d_Mdl_noteAt_28 (fun r σ' h => by obtain ⟨x, rfl, h⟩ := h; exact kk x σ' h) kx
theorem r_Mdl_noteAt_35 {Ω : Om} {R : Room} {k n : Nat} {L : List PV} {σ : Sto} {QR : Option PV → Sto → Prop} {QX : String → Sto → Prop} {x : Int} (h : QR (some (xi x)) σ) (h1 : k ≤ R.cells) (h2 : n ≤ R.slots) : Aw Ω M_Mdl_noteAt R (MF Ω R QR QX) k n 35 L [xi x] σ := Aw.iret rfl h h1 h2 d_Mdl_noteAt_35
theorem r_Mdl_noteAt_97 {Ω : Om} {R : Room} {k n : Nat} {L : List PV} {σ : Sto} {QR : Option PV → Sto → Prop} {QX : String → Sto → Prop} {x : Int} (h : QR (some (xi x)) σ) (h1 : k ≤ R.cells) (h2 : n ≤ R.slots) : Aw Ω M_Mdl_noteAt R (MF Ω R QR QX) k n 97 L [xi x] σ := Aw.iret rfl h h1 h2 d_Mdl_noteAt_97
theorem r_Mdl_noteAt_105 {Ω : Om} {R : Room} {k n : Nat} {L : List PV} {σ : Sto} {QR : Option PV → Sto → Prop} {QX : String → Sto → Prop} {x : Int} (h : QR (some (xi x)) σ) (h1 : k ≤ R.cells) (h2 : n ≤ R.slots) : Aw Ω M_Mdl_noteAt R (MF Ω R QR QX) k n 105 L [xi x] σ := Aw.iret rfl h h1 h2 d_Mdl_noteAt_105
theorem e_Mdl_since {Ω : Om} {R : Room} {QR : Option PV → Sto → Prop} {QX : String → Sto → Prop} {σ : Sto} {a0 : Nat} {v1 : Int} {v2 : Int} (h : Aw Ω M_Mdl_since R (MF Ω R QR QX) 0 0 0 [xr (some a0), xi v1, xi v2, xu, xu, xu] [] σ) : MC Ω M_Mdl_since R QR QX σ [xr (some a0), xi v1, xi v2] := MC.body (by decide +kernel) rfl (Nat.le_of_ble_eq_true rfl) rfl h
theorem b_Mdl_since_0 {Ω : Om} {R : Room} {F : QF} {k n : Nat} {σ : Sto} {a0 : Nat} {v1 : Int} {v2 : Int} (h : Aw Ω M_Mdl_since R F k n 4 [xr (some a0), xi v1, xi v2, xu, xu, xu] [xi v2, xi v1, xr (some a0), xr (some a0)] σ) : Aw Ω M_Mdl_since R F k n 0 [xr (some a0), xi v1, xi v2, xu, xu, xu] [] σ := by
  refine Aw.aload_n rfl d_Mdl_since_0 ?_
  refine Aw.aload_n rfl d_Mdl_since_1 ?_
  refine Aw.iload_n rfl d_Mdl_since_2 ?_
  refine Aw.iload_n rfl d_Mdl_since_3 ?_
  exact h
theorem b_Mdl_since_7 {Ω : Om} {R : Room} {F : QF} {k n : Nat} {σ : Sto} {a0 : Nat} {v1 : Int} {v2 : Int} {s0 : Nat} {s1 : Int} (h : Q32 s1 ∧ ((s1 = (0 : Int) → Aw Ω M_Mdl_since R F k n 15 [xr (some a0), xi v1, xi v2, xu, xu, xu] [xi 1, xr (some s0)] σ) ∧ (¬ s1 = (0 : Int) → Aw Ω M_Mdl_since R F k n 15 [xr (some a0), xi v1, xi v2, xu, xu, xu] [xi 0, xr (some s0)] σ))) : Aw Ω M_Mdl_since R F k n 7 [xr (some a0), xi v1, xi v2, xu, xu, xu] [xi s1, xr (some s0)] σ := by
  obtain ⟨o1, h⟩ := h
  obtain ⟨ht, hf⟩ := h
  refine Aw.if_eq (tgt := 14) o1 (by decide) d_Mdl_since_7 (fun c2 => ?_) (fun c2 => ?_)
  · have h := ht c2
    refine Aw.iconst d_Mdl_since_14 ?_
    exact h
  · have h := hf c2
    refine Aw.iconst d_Mdl_since_10 ?_
    refine Aw.goto (tgt := 15) (by decide) d_Mdl_since_11 ?_
    exact h
theorem b_Mdl_since_18 {Ω : Om} {R : Room} {F : QF} {k n : Nat} {σ : Sto} {a0 : Nat} {v1 : Int} {v2 : Int} {s0 : Int} (h : Q32 s0 ∧ ((s0 = (0 : Int) → sK σ a0 = 13 ∧ (Q32 (fI σ 773 a0) → Aw Ω M_Mdl_since R F k n 33 [xr (some a0), xi v1, xi v2, xi v1, xi ((fI σ 773 a0) - 1), xu] [] σ)) ∧ (¬ s0 = (0 : Int) → Aw Ω M_Mdl_since R F k n 22 [xr (some a0), xi v1, xi v2, xu, xu, xu] [xi 0] σ))) : Aw Ω M_Mdl_since R F k n 18 [xr (some a0), xi v1, xi v2, xu, xu, xu] [xi s0] σ := by
  obtain ⟨o1, h⟩ := h
  obtain ⟨ht, hf⟩ := h
  refine Aw.if_eq (tgt := 23) o1 (by decide) d_Mdl_since_18 (fun c4 => ?_) (fun c4 => ?_)
  · have h := ht c4
    refine Aw.iload_n rfl d_Mdl_since_23 ?_
    refine Aw.istore_n (by decide) d_Mdl_since_24 ?_
    refine Aw.toL (L' := [xr (some a0), xi v1, xi v2, xi v1, xu, xu]) rfl ?_
    refine Aw.aload_n rfl d_Mdl_since_25 ?_
    obtain ⟨o2, h⟩ := h
    refine Aw.getI (f := 773) 12 5 fl_Mdl_123 (by decide) (by decide) rfl rfl o2 d_Mdl_since_26 (fun r3 => ?_)
    have h := h r3
    refine Aw.iconst d_Mdl_since_29 ?_
    refine Aw.isub d_Mdl_since_30 ?_
    refine Aw.istore (by decide) d_Mdl_since_31 ?_
    refine Aw.toL (L' := [xr (some a0), xi v1, xi v2, xi v1, xi ((fI σ 773 a0) - 1), xu]) rfl ?_
    exact h
  · have h := hf c4
    refine Aw.iconst d_Mdl_since_21 ?_
    exact h
theorem b_Mdl_since_33 {Ω : Om} {R : Room} {F : QF} {k n : Nat} {σ : Sto} {a0 : Nat} {v1 : Int} {v2 : Int} {v3 : Int} {v4 : Int} (h : Q32 v4 ∧ ((v4 < (0 : Int) → Aw Ω M_Mdl_since R F k n 100 [xr (some a0), xi v1, xi v2, xi v3, xi v4, xu] [xi v3] σ) ∧ (¬ v4 < (0 : Int) → Aw Ω M_Mdl_since R F k n 41 [xr (some a0), xi v1, xi v2, xi v3, xi v4, xi 0] [] σ))) : Aw Ω M_Mdl_since R F k n 33 [xr (some a0), xi v1, xi v2, xi v3, xi v4, xu] [] σ := by
  refine Aw.iload rfl d_Mdl_since_33 ?_
  obtain ⟨o1, h⟩ := h
  obtain ⟨ht, hf⟩ := h
  refine Aw.if_lt (tgt := 99) o1 (by decide) d_Mdl_since_35 (fun c2 => ?_) (fun c2 => ?_)
  · have h := ht c2
    refine Aw.iload_n rfl d_Mdl_since_99 ?_
    exact h
  · have h := hf c2
    refine Aw.iconst d_Mdl_since_38 ?_
    refine Aw.istore (by decide) d_Mdl_since_39 ?_
    refine Aw.toL (L' := [xr (some a0), xi v1, xi v2, xi v3, xi v4, xi 0]) rfl ?_
    exact h
theorem b_Mdl_since_41 {Ω : Om} {R : Room} {F : QF} {k n : Nat} {σ : Sto} {a0 : Nat} {v1 : Int} {v2 : Int} {v3 : Int} {v4 : Int} {v5 : Int} (h : sK σ a0 = 13 ∧ (∃ b2 : Nat, fR σ 774 a0 = some b2 ∧ sK σ b2 = 50 ∧ 0 ≤ v4 ∧ v4 < sZ σ b2 ∧ (Q32 (aI σ b2 (v4).toNat) → Q32 v5 ∧ (((aI σ b2 (v4).toNat) ≤ v5 → Aw Ω M_Mdl_since R F k n 33 [xr (some a0), xi v1, xi v2, xi v3, xi (v4 + (-1)), xu] [] σ) ∧ (¬ (aI σ b2 (v4).toNat) ≤ v5 → (∃ b9 : Nat, fR σ 775 a0 = some b9 ∧ sK σ b9 = 50 ∧ 0 ≤ ((20 * v4) + v5) ∧ ((20 * v4) + v5) < sZ σ b9 ∧ (Q32 (aI σ b9 ((20 * v4) + v5).toNat) → 0 ≤ ((20 * v1) + v2) ∧ ((20 * v1) + v2) < sZ σ b9 ∧ (Q32 (aI σ b9 ((20 * v1) + v2).toNat) → ((¬ (aI σ b9 ((20 * v4) + v5).toNat) = (aI σ b9 ((20 * v1) + v2).toNat) → Aw Ω M_Mdl_since R F k n 41 [xr (some a0), xi v1, xi v2, xi v3, xi v4, xi (v5 + 1)] [] σ) ∧ ((aI σ b9 ((20 * v4) + v5).toNat) = (aI σ b9 ((20 * v1) + v2).toNat) → Aw Ω M_Mdl_since R F k n 41 [xr (some a0), xi v1, xi v2, xi v4, xi v4, xi (v5 + 1)] [] σ)))))))))) : Aw Ω M_Mdl_since R F k n 41 [xr (some a0), xi v1, xi v2, xi v3, xi v4, xi v5] [] σ := by
  refine Aw.iload rfl d_Mdl_since_41 ?_
  refine Aw.aload_n rfl d_Mdl_since_43 ?_
  obtain ⟨o1, h⟩ := h
  obtain ⟨b2, e3, h⟩ := h
  refine Aw.getRs (f := 774) 12 6 fl_Mdl_20 (by decide) (by decide) rfl rfl o1 e3 d_Mdl_since_44 ?_
  refine Aw.iload rfl d_Mdl_since_47 ?_
  obtain ⟨o4, h⟩ := h
  obtain ⟨o5, o6, h⟩ := h
  refine Aw.iald o4 o5 o6 d_Mdl_since_49 (fun r7 => ?_)
  have h := h r7
  obtain ⟨o8, h⟩ := h
  obtain ⟨ht, hf⟩ := h
  refine Aw.icmp_ge (tgt := 93) o8 r7 (by decide) d_Mdl_since_50 (fun c19 => ?_) (fun c19 => ?_)
  · have h := ht c19
    refine Aw.iinc rfl d_Mdl_since_93 ?_
    refine Aw.toL (L' := [xr (some a0), xi v1, xi v2, xi v3, xi (v4 + (-1)), xi v5]) rfl ?_
    refine Aw.goto (tgt := 33) (by decide) d_Mdl_since_96 ?_
    exact Aw.toW (L' := [xr (some a0), xi v1, xi v2, xi v3, xi (v4 + (-1)), xu]) ⟨Or.inr rfl, Or.inr rfl, Or.inr rfl, Or.inr rfl, Or.inr rfl, Or.inl rfl, trivial⟩ h
  · have h := hf c19
    refine Aw.aload_n rfl d_Mdl_since_53 ?_
    obtain ⟨b9, e10, h⟩ := h
    refine Aw.getRs (f := 775) 12 7 fl_Mdl_23 (by decide) (by decide) rfl rfl o1 e10 d_Mdl_since_54 ?_
    refine Aw.bipush (by decide) d_Mdl_since_57 ?_
    refine Aw.iload rfl d_Mdl_since_59 ?_
    refine Aw.imul d_Mdl_since_61 ?_
    refine Aw.iload rfl d_Mdl_since_62 ?_
    refine Aw.iadd d_Mdl_since_64 ?_
    obtain ⟨o11, h⟩ := h
    obtain ⟨o12, o13, h⟩ := h
    refine Aw.iald o11 o12 o13 d_Mdl_since_65 (fun r14 => ?_)
    have h := h r14
    refine Aw.aload_n rfl d_Mdl_since_66 ?_
    refine Aw.getRs (f := 775) 12 7 fl_Mdl_23 (by decide) (by decide) rfl rfl o1 e10 d_Mdl_since_67 ?_
    refine Aw.bipush (by decide) d_Mdl_since_70 ?_
    refine Aw.iload_n rfl d_Mdl_since_72 ?_
    refine Aw.imul d_Mdl_since_73 ?_
    refine Aw.iload_n rfl d_Mdl_since_74 ?_
    refine Aw.iadd d_Mdl_since_75 ?_
    obtain ⟨o15, o16, h⟩ := h
    refine Aw.iald o11 o15 o16 d_Mdl_since_76 (fun r17 => ?_)
    have h := h r17
    obtain ⟨ht, hf⟩ := h
    refine Aw.icmp_ne (tgt := 85) r14 r17 (by decide) d_Mdl_since_77 (fun c18 => ?_) (fun c18 => ?_)
    · have h := ht c18
      refine Aw.iload_n rfl d_Mdl_since_85 ?_
      refine Aw.istore_n (by decide) d_Mdl_since_86 ?_
      refine Aw.toL (L' := [xr (some a0), xi v1, xi v2, xi v3, xi v4, xi v5]) rfl ?_
      refine Aw.iinc rfl d_Mdl_since_87 ?_
      refine Aw.toL (L' := [xr (some a0), xi v1, xi v2, xi v3, xi v4, xi (v5 + 1)]) rfl ?_
      refine Aw.goto (tgt := 41) (by decide) d_Mdl_since_90 ?_
      exact h
    · have h := hf c18
      refine Aw.iload rfl d_Mdl_since_80 ?_
      refine Aw.goto (tgt := 86) (by decide) d_Mdl_since_82 ?_
      refine Aw.istore_n (by decide) d_Mdl_since_86 ?_
      refine Aw.toL (L' := [xr (some a0), xi v1, xi v2, xi v4, xi v4, xi v5]) rfl ?_
      refine Aw.iinc rfl d_Mdl_since_87 ?_
      refine Aw.toL (L' := [xr (some a0), xi v1, xi v2, xi v4, xi v4, xi (v5 + 1)]) rfl ?_
      refine Aw.goto (tgt := 41) (by decide) d_Mdl_since_90 ?_
      exact h
theorem c_Mdl_since_4 {Ω : Om} {R R' : Room} {F : QF} {k n : Nat} {L st : List PV} {σ : Sto} {QX' : String → Sto → Prop} {Q : Int → Sto → Prop} {a : Nat} {x0 : Int} {x1 : Int} (hc : MC Ω M_Mdl_isLineOf R' (RI Q) QX' σ [xr (some a), xi x0, xi x1]) (hk : sK σ a = 13) (hr1 : R'.frames + 1 ≤ R.frames) (hr2 : 8 + (3 + 11) + R'.locals ≤ R.locals) (hb1 : k + R'.cells ≤ R.cells) (hb2 : n + R'.slots ≤ R.slots) (hst : (st.map catP).sum ≤ 8) (kk : ∀ x σ', Q x σ' → Aw Ω M_Mdl_since R F (k + R'.cells) (n + R'.slots) 7 L (xi x :: st) σ') (kx : ∀ E σ', QX' E σ' → Ax Ω M_Mdl_since R F (k + R'.cells) (n + R'.slots) 4 L st σ' E) : Aw Ω M_Mdl_since R F k n 4 L (xi x1 :: xi x0 :: xr (some a) :: st) σ :=
  Aw.callV (As := [xi x0, xi x1]) (stk := xi x1 :: xi x0 :: xr (some a) :: st) (nn := 2) 12 M_Mdl_isLineOf hc ok_Mdl_isLineOf rfl (by decide) rfl hk ml_Mdl_226 im_Mdl_isLineOf se_Mdl_isLineOf ⟨hr1, hr2⟩ rfl ⟨hb1, hb2⟩ hst rfl d_Mdl_since_4 (fun r σ' h => by obtain ⟨x, rfl, h⟩ := h; exact kk x σ' h) kx
theorem c_Mdl_since_15 {Ω : Om} {R R' : Room} {F : QF} {k n : Nat} {L st : List PV} {σ : Sto} {QX' : String → Sto → Prop} {Q : Int → Sto → Prop} {a : Nat} {x0 : Int} (hc : MC Ω M_Mdl_refused R' (RI Q) QX' σ [xr (some a), xi x0]) (hk : sK σ a = 13) (hr1 : R'.frames + 1 ≤ R.frames) (hr2 : 8 + (2 + 11) + R'.locals ≤ R.locals) (hb1 : k + R'.cells ≤ R.cells) (hb2 : n + R'.slots ≤ R.slots) (hst : (st.map catP).sum ≤ 8) (kk : ∀ x σ', Q x σ' → Aw Ω M_Mdl_since R F (k + R'.cells) (n + R'.slots) 18 L (xi x :: st) σ') (kx : ∀ E σ', QX' E σ' → Ax Ω M_Mdl_since R F (k + R'.cells) (n + R'.slots) 15 L st σ' E) : Aw Ω M_Mdl_since R F k n 15 L (xi x0 :: xr (some a) :: st) σ :=
  Aw.callV (As := [xi x0]) (stk := xi x0 :: xr (some a) :: st) (nn := 1) 12 M_Mdl_refused hc ok_Mdl_refused rfl (by decide) rfl hk ml_Mdl_151 im_Mdl_refused se_Mdl_refused ⟨hr1, hr2⟩ rfl ⟨hb1, hb2⟩ hst rfl d_Mdl_since_15 (fun r σ' h => by obtain ⟨x, rfl, h⟩ := h; exact kk x σ' h) kx
theorem r_Mdl_since_22 {Ω : Om} {R : Room} {k n : Nat} {L : List PV} {σ : Sto} {QR : Option PV → Sto → Prop} {QX : String → Sto → Prop} {x : Int} (h : QR (some (xi x)) σ) (h1 : k ≤ R.cells) (h2 : n ≤ R.slots) : Aw Ω M_Mdl_since R (MF Ω R QR QX) k n 22 L [xi x] σ := Aw.iret rfl h h1 h2 d_Mdl_since_22
theorem r_Mdl_since_100 {Ω : Om} {R : Room} {k n : Nat} {L : List PV} {σ : Sto} {QR : Option PV → Sto → Prop} {QX : String → Sto → Prop} {x : Int} (h : QR (some (xi x)) σ) (h1 : k ≤ R.cells) (h2 : n ≤ R.slots) : Aw Ω M_Mdl_since R (MF Ω R QR QX) k n 100 L [xi x] σ := Aw.iret rfl h h1 h2 d_Mdl_since_100
theorem e_Mdl_insert {Ω : Om} {R : Room} {QR : Option PV → Sto → Prop} {QX : String → Sto → Prop} {σ : Sto} {a0 : Nat} {v1 : Int} {v2 : Int64} (h : Aw Ω M_Mdl_insert R (MF Ω R QR QX) 0 0 0 [xr (some a0), xi v1, xl v2, xu, xu] [] σ) : MC Ω M_Mdl_insert R QR QX σ [xr (some a0), xi v1, xl v2] := MC.body (by decide +kernel) rfl (Nat.le_of_ble_eq_true rfl) rfl h
theorem b_Mdl_insert_0 {Ω : Om} {R : Room} {F : QF} {k n : Nat} {σ : Sto} {a0 : Nat} {v1 : Int} {v2 : Int64} (h : sK σ a0 = 13 ∧ (Q32 (fI σ 779 a0) → (((fI σ 779 a0) = (0 : Int) → Aw Ω M_Mdl_insert R F k n 68 [xr (some a0), xi v1, xl v2, xu, xi 0] [xi 1, xr (some a0)] σ) ∧ (¬ (fI σ 779 a0) = (0 : Int) → Aw Ω M_Mdl_insert R F k n 10 [xr (some a0), xi v1, xl v2, xu, xu] [xr (some a0), xi 0, xi v1] σ)))) : Aw Ω M_Mdl_insert R F k n 0 [xr (some a0), xi v1, xl v2, xu, xu] [] σ := by
  refine Aw.aload_n rfl d_Mdl_insert_0 ?_
  obtain ⟨o1, h⟩ := h
  refine Aw.getI (f := 779) 12 11 fl_Mdl_178 (by decide) (by decide) rfl rfl o1 d_Mdl_insert_1 (fun r2 => ?_)
  have h := h r2
  obtain ⟨ht, hf⟩ := h
  refine Aw.if_eq (tgt := 23) r2 (by decide) d_Mdl_insert_4 (fun c4 => ?_) (fun c4 => ?_)
  · have h := ht c4
    refine Aw.iconst d_Mdl_insert_23 ?_
    refine Aw.istore (by decide) d_Mdl_insert_24 ?_
    refine Aw.toL (L' := [xr (some a0), xi v1, xl v2, xu, xi 0]) rfl ?_
    refine Aw.aload_n rfl d_Mdl_insert_26 ?_
    refine Aw.iload rfl d_Mdl_insert_27 ?_
    refine Aw.if_ne (tgt := 36) ⟨by decide, by decide⟩ (by decide) d_Mdl_insert_29 (fun c3 => absurd c3 (by decide)) (fun c3 => ?_)
    refine Aw.iconst d_Mdl_insert_32 ?_
    refine Aw.goto (tgt := 68) (by decide) d_Mdl_insert_33 ?_
    exact h
  · have h := hf c4
    refine Aw.iload_n rfl d_Mdl_insert_7 ?_
    refine Aw.iconst d_Mdl_insert_8 ?_
    refine Aw.aload_n rfl d_Mdl_insert_9 ?_
    exact h
theorem b_Mdl_insert_16 {Ω : Om} {R : Room} {F : QF} {k n : Nat} {σ : Sto} {a0 : Nat} {v1 : Int} {v2 : Int64} {s0 : Int} (h : Q32 s0 ∧ ((s0 = (0 : Int) → Aw Ω M_Mdl_insert R F k n 68 [xr (some a0), xi v1, xl v2, xu, xi 0] [xi 1, xr (some a0)] σ) ∧ (¬ s0 = (0 : Int) → Aw Ω M_Mdl_insert R F k n 37 [xr (some a0), xi v1, xl v2, xu, xi 1] [xl v2, xr (some a0)] σ))) : Aw Ω M_Mdl_insert R F k n 16 [xr (some a0), xi v1, xl v2, xu, xu] [xi s0] σ := by
  obtain ⟨o1, h⟩ := h
  obtain ⟨ht, hf⟩ := h
  refine Aw.if_eq (tgt := 23) o1 (by decide) d_Mdl_insert_16 (fun c4 => ?_) (fun c4 => ?_)
  · have h := ht c4
    refine Aw.iconst d_Mdl_insert_23 ?_
    refine Aw.istore (by decide) d_Mdl_insert_24 ?_
    refine Aw.toL (L' := [xr (some a0), xi v1, xl v2, xu, xi 0]) rfl ?_
    refine Aw.aload_n rfl d_Mdl_insert_26 ?_
    refine Aw.iload rfl d_Mdl_insert_27 ?_
    refine Aw.if_ne (tgt := 36) ⟨by decide, by decide⟩ (by decide) d_Mdl_insert_29 (fun c2 => absurd c2 (by decide)) (fun c2 => ?_)
    refine Aw.iconst d_Mdl_insert_32 ?_
    refine Aw.goto (tgt := 68) (by decide) d_Mdl_insert_33 ?_
    exact h
  · have h := hf c4
    refine Aw.iconst d_Mdl_insert_19 ?_
    refine Aw.goto (tgt := 24) (by decide) d_Mdl_insert_20 ?_
    refine Aw.istore (by decide) d_Mdl_insert_24 ?_
    refine Aw.toL (L' := [xr (some a0), xi v1, xl v2, xu, xi 1]) rfl ?_
    refine Aw.aload_n rfl d_Mdl_insert_26 ?_
    refine Aw.iload rfl d_Mdl_insert_27 ?_
    refine Aw.if_ne (tgt := 36) ⟨by decide, by decide⟩ (by decide) d_Mdl_insert_29 (fun c3 => ?_) (fun c3 => absurd c3 (by decide))
    refine Aw.lload_n rfl d_Mdl_insert_36 ?_
    exact h
theorem b_Mdl_insert_40 {Ω : Om} {R : Room} {F : QF} {k n : Nat} {σ : Sto} {a0 : Nat} {v1 : Int} {v2 : Int64} {v4 : Int} {s0 : Nat} {s1 : Int} (h : Q32 s1 ∧ ((¬ s1 = (0 : Int) → Aw Ω M_Mdl_insert R F k n 48 [xr (some a0), xi v1, xl v2, xu, xi v4] [xr (some a0), xr (some s0)] σ) ∧ (s1 = (0 : Int) → Aw Ω M_Mdl_insert R F k n 68 [xr (some a0), xi v1, xl v2, xu, xi v4] [xi 2, xr (some s0)] σ))) : Aw Ω M_Mdl_insert R F k n 40 [xr (some a0), xi v1, xl v2, xu, xi v4] [xi s1, xr (some s0)] σ := by
  obtain ⟨o1, h⟩ := h
  obtain ⟨ht, hf⟩ := h
  refine Aw.if_ne (tgt := 47) o1 (by decide) d_Mdl_insert_40 (fun c2 => ?_) (fun c2 => ?_)
  · have h := ht c2
    refine Aw.aload_n rfl d_Mdl_insert_47 ?_
    exact h
  · have h := hf c2
    refine Aw.iconst d_Mdl_insert_43 ?_
    refine Aw.goto (tgt := 68) (by decide) d_Mdl_insert_44 ?_
    exact h
theorem b_Mdl_insert_71 {Ω : Om} {R : Room} {F : QF} {k n : Nat} {σ : Sto} {a0 : Nat} {v1 : Int} {v2 : Int64} {v4 : Int} {s0 : Int} (h : Q32 s0 ∧ ((s0 = (0 : Int) → Aw Ω M_Mdl_insert R F k n 77 [xr (some a0), xi v1, xl v2, xu, xi v4] [xr (some a0)] σ) ∧ (¬ s0 = (0 : Int) → Aw Ω M_Mdl_insert R F k n 75 [xr (some a0), xi v1, xl v2, xu, xi v4] [xi 0] σ))) : Aw Ω M_Mdl_insert R F k n 71 [xr (some a0), xi v1, xl v2, xu, xi v4] [xi s0] σ := by
  obtain ⟨o1, h⟩ := h
  obtain ⟨ht, hf⟩ := h
  refine Aw.if_eq (tgt := 76) o1 (by decide) d_Mdl_insert_71 (fun c2 => ?_) (fun c2 => ?_)
  · have h := ht c2
    refine Aw.aload_n rfl d_Mdl_insert_76 ?_
    exact h
  · have h := hf c2
    refine Aw.iconst d_Mdl_insert_74 ?_
    exact h
theorem b_Mdl_insert_80 {Ω : Om} {R : Room} {F : QF} {k n : Nat} {σ : Sto} {a0 : Nat} {v1 : Int} {v2 : Int64} {v4 : Int} (h : Aw Ω M_Mdl_insert R F k n 84 [xr (some a0), xi v1, xl v2, xu, xi v4] [xl v2, xr (some a0), xi v1, xr (some a0)] σ) : Aw Ω M_Mdl_insert R F k n 80 [xr (some a0), xi v1, xl v2, xu, xi v4] [] σ := by
  refine Aw.aload_n rfl d_Mdl_insert_80 ?_
  refine Aw.iload_n rfl d_Mdl_insert_81 ?_
  refine Aw.aload_n rfl d_Mdl_insert_82 ?_
  refine Aw.lload_n rfl d_Mdl_insert_83 ?_
  exact h
theorem b_Mdl_insert_90 {Ω : Om} {R : Room} {F : QF} {k n : Nat} {σ : Sto} {a0 : Nat} {v1 : Int} {v2 : Int64} {v4 : Int} (h : sK σ a0 = 13 ∧ (Q32 (fI σ 783 a0) → Aw Ω M_Mdl_insert R F k n 94 [xr (some a0), xi v1, xl v2, xu, xi v4] [xi (fI σ 783 a0)] σ)) : Aw Ω M_Mdl_insert R F k n 90 [xr (some a0), xi v1, xl v2, xu, xi v4] [] σ := by
  refine Aw.aload_n rfl d_Mdl_insert_90 ?_
  obtain ⟨o1, h⟩ := h
  refine Aw.getI (f := 783) 12 15 fl_Mdl_194 (by decide) (by decide) rfl rfl o1 d_Mdl_insert_91 (fun r2 => ?_)
  have h := h r2
  exact h
theorem b_Mdl_insert_51 {Ω : Om} {R : Room} {F : QF} {k n : Nat} {σ : Sto} {a0 : Nat} {v1 : Int} {v2 : Int64} {v4 : Int} {s0 : Nat} {s1 : Int} (h : Q32 s1 ∧ ((s1 = (0 : Int) → Aw Ω M_Mdl_insert R F k n 68 [xr (some a0), xi v1, xl v2, xu, xi v4] [xi 3, xr (some s0)] σ) ∧ (¬ s1 = (0 : Int) → sK σ a0 = 13 ∧ (Q32 (fI σ 783 a0) → ((¬ (fI σ 783 a0) = (20 : Int) → Aw Ω M_Mdl_insert R F k n 68 [xr (some a0), xi v1, xl v2, xu, xi v4] [xi 0, xr (some s0)] σ) ∧ ((fI σ 783 a0) = (20 : Int) → Aw Ω M_Mdl_insert R F k n 68 [xr (some a0), xi v1, xl v2, xu, xi v4] [xi 3, xr (some s0)] σ)))))) : Aw Ω M_Mdl_insert R F k n 51 [xr (some a0), xi v1, xl v2, xu, xi v4] [xi s1, xr (some s0)] σ := by
  obtain ⟨o1, h⟩ := h
  obtain ⟨ht, hf⟩ := h
  refine Aw.if_eq (tgt := 63) o1 (by decide) d_Mdl_insert_51 (fun c5 => ?_) (fun c5 => ?_)
  · have h := ht c5
    refine Aw.iconst d_Mdl_insert_63 ?_
    refine Aw.goto (tgt := 68) (by decide) d_Mdl_insert_64 ?_
    exact h
  · have h := hf c5
    refine Aw.aload_n rfl d_Mdl_insert_54 ?_
    obtain ⟨o2, h⟩ := h
    refine Aw.getI (f := 783) 12 15 fl_Mdl_194 (by decide) (by decide) rfl rfl o2 d_Mdl_insert_55 (fun r3 => ?_)
    have h := h r3
    refine Aw.bipush (by decide) d_Mdl_insert_58 ?_
    obtain ⟨ht, hf⟩ := h
    refine Aw.icmp_ne (tgt := 67) r3 ⟨by decide, by decide⟩ (by decide) d_Mdl_insert_60 (fun c4 => ?_) (fun c4 => ?_)
    · have h := ht c4
      refine Aw.iconst d_Mdl_insert_67 ?_
      exact h
    · have h := hf c4
      refine Aw.iconst d_Mdl_insert_63 ?_
      refine Aw.goto (tgt := 68) (by decide) d_Mdl_insert_64 ?_
      exact h
theorem c_Mdl_insert_10 {Ω : Om} {R R' : Room} {F : QF} {k n : Nat} {L st : List PV} {σ : Sto} {QX' : String → Sto → Prop} {Q : Int → Sto → Prop} {a : Nat} (hc : MC Ω M_Mdl_lineCount R' (RI Q) QX' σ [xr (some a)]) (hk : sK σ a = 13) (hr1 : R'.frames + 1 ≤ R.frames) (hr2 : 8 + (3 + 11) + R'.locals ≤ R.locals) (hb1 : k + R'.cells ≤ R.cells) (hb2 : n + R'.slots ≤ R.slots) (hst : (st.map catP).sum ≤ 8) (kk : ∀ x σ', Q x σ' → Aw Ω M_Mdl_insert R F (k + R'.cells) (n + R'.slots) 13 L (xi x :: st) σ') (kx : ∀ E σ', QX' E σ' → Ax Ω M_Mdl_insert R F (k + R'.cells) (n + R'.slots) 10 L st σ' E) : Aw Ω M_Mdl_insert R F k n 10 L (xr (some a) :: st) σ :=
  Aw.callV (As := []) (stk := xr (some a) :: st) (nn := 0) 12 M_Mdl_lineCount hc ok_Mdl_lineCount rfl (by decide) rfl hk ml_Mdl_197 im_Mdl_lineCount se_Mdl_lineCount ⟨hr1, hr2⟩ rfl ⟨hb1, hb2⟩ hst rfl d_Mdl_insert_10 (fun r σ' h => by obtain ⟨x, rfl, h⟩ := h; exact kk x σ' h) kx
theorem c_Mdl_insert_13 {Ω : Om} {R R' : Room} {F : QF} {k n : Nat} {L st : List PV} {σ : Sto} {QX' : String → Sto → Prop} {Q : Int → Sto → Prop} {x0 : Int} {x1 : Int} {x2 : Int} (hc : MC Ω M_Mdl_in R' (RI Q) QX' σ [xi x0, xi x1, xi x2]) (hr1 : R'.frames + 1 ≤ R.frames) (hr2 : 8 + (3 + 11) + R'.locals ≤ R.locals) (hb1 : k + R'.cells ≤ R.cells) (hb2 : n + R'.slots ≤ R.slots) (hst : (st.map catP).sum ≤ 8) (kk : ∀ x σ', Q x σ' → Aw Ω M_Mdl_insert R F (k + R'.cells) (n + R'.slots) 16 L (xi x :: st) σ') (kx : ∀ E σ', QX' E σ' → Ax Ω M_Mdl_insert R F (k + R'.cells) (n + R'.slots) 13 L st σ' E) : Aw Ω M_Mdl_insert R F k n 13 L (xi x2 :: xi x1 :: xi x0 :: st) σ :=
  Aw.callS (As := [xi x0, xi x1, xi x2]) (stk := xi x2 :: xi x1 :: xi x0 :: st) (nn := 3) M_Mdl_in hc ok_Mdl_in rfl ml_Mdl_130 sta_Mdl_in ⟨hr1, hr2⟩ rfl ⟨hb1, hb2⟩ hst rfl d_Mdl_insert_13 (fun r σ' h => by obtain ⟨x, rfl, h⟩ := h; exact kk x σ' h) kx
theorem c_Mdl_insert_37 {Ω : Om} {R R' : Room} {F : QF} {k n : Nat} {L st : List PV} {σ : Sto} {QX' : String → Sto → Prop} {Q : Int → Sto → Prop} {x0 : Int64} (hc : MC Ω M_Mdl_isLine R' (RI Q) QX' σ [xl x0]) (hr1 : R'.frames + 1 ≤ R.frames) (hr2 : 8 + (6 + 11) + R'.locals ≤ R.locals) (hb1 : k + R'.cells ≤ R.cells) (hb2 : n + R'.slots ≤ R.slots) (hst : (st.map catP).sum ≤ 8) (kk : ∀ x σ', Q x σ' → Aw Ω M_Mdl_insert R F (k + R'.cells) (n + R'.slots) 40 L (xi x :: st) σ') (kx : ∀ E σ', QX' E σ' → Ax Ω M_Mdl_insert R F (k + R'.cells) (n + R'.slots) 37 L st σ' E) : Aw Ω M_Mdl_insert R F k n 37 L (xl x0 :: st) σ :=
  Aw.callS (As := [xl x0]) (stk := xl x0 :: st) (nn := 1) M_Mdl_isLine hc ok_Mdl_isLine rfl ml_Mdl_147 sta_Mdl_isLine ⟨hr1, hr2⟩ rfl ⟨hb1, hb2⟩ hst rfl d_Mdl_insert_37 (fun r σ' h => by obtain ⟨x, rfl, h⟩ := h; exact kk x σ' h) kx
theorem c_Mdl_insert_48 {Ω : Om} {R R' : Room} {F : QF} {k n : Nat} {L st : List PV} {σ : Sto} {QX' : String → Sto → Prop} {Q : Int → Sto → Prop} {a : Nat} (hc : MC Ω M_Mdl_isSettled R' (RI Q) QX' σ [xr (some a)]) (hk : sK σ a = 13) (hr1 : R'.frames + 1 ≤ R.frames) (hr2 : 8 + (1 + 11) + R'.locals ≤ R.locals) (hb1 : k + R'.cells ≤ R.cells) (hb2 : n + R'.slots ≤ R.slots) (hst : (st.map catP).sum ≤ 8) (kk : ∀ x σ', Q x σ' → Aw Ω M_Mdl_insert R F (k + R'.cells) (n + R'.slots) 51 L (xi x :: st) σ') (kx : ∀ E σ', QX' E σ' → Ax Ω M_Mdl_insert R F (k + R'.cells) (n + R'.slots) 48 L st σ' E) : Aw Ω M_Mdl_insert R F k n 48 L (xr (some a) :: st) σ :=
  Aw.callV (As := []) (stk := xr (some a) :: st) (nn := 0) 12 M_Mdl_isSettled hc ok_Mdl_isSettled rfl (by decide) rfl hk ml_Mdl_201 im_Mdl_isSettled se_Mdl_isSettled ⟨hr1, hr2⟩ rfl ⟨hb1, hb2⟩ hst rfl d_Mdl_insert_48 (fun r σ' h => by obtain ⟨x, rfl, h⟩ := h; exact kk x σ' h) kx
theorem c_Mdl_insert_68 {Ω : Om} {R R' : Room} {F : QF} {k n : Nat} {L st : List PV} {σ : Sto} {QX' : String → Sto → Prop} {Q : Int → Sto → Prop} {a : Nat} {x0 : Int} (hc : MC Ω M_Mdl_refused R' (RI Q) QX' σ [xr (some a), xi x0]) (hk : sK σ a = 13) (hr1 : R'.frames + 1 ≤ R.frames) (hr2 : 8 + (2 + 11) + R'.locals ≤ R.locals) (hb1 : k + R'.cells ≤ R.cells) (hb2 : n + R'.slots ≤ R.slots) (hst : (st.map catP).sum ≤ 8) (kk : ∀ x σ', Q x σ' → Aw Ω M_Mdl_insert R F (k + R'.cells) (n + R'.slots) 71 L (xi x :: st) σ') (kx : ∀ E σ', QX' E σ' → Ax Ω M_Mdl_insert R F (k + R'.cells) (n + R'.slots) 68 L st σ' E) : Aw Ω M_Mdl_insert R F k n 68 L (xi x0 :: xr (some a) :: st) σ :=
  Aw.callV (As := [xi x0]) (stk := xi x0 :: xr (some a) :: st) (nn := 1) 12 M_Mdl_refused hc ok_Mdl_refused rfl (by decide) rfl hk ml_Mdl_151 im_Mdl_refused se_Mdl_refused ⟨hr1, hr2⟩ rfl ⟨hb1, hb2⟩ hst rfl d_Mdl_insert_68 (fun r σ' h => by obtain ⟨x, rfl, h⟩ := h; exact kk x σ' h) kx
theorem r_Mdl_insert_75 {Ω : Om} {R : Room} {k n : Nat} {L : List PV} {σ : Sto} {QR : Option PV → Sto → Prop} {QX : String → Sto → Prop} {x : Int} (h : QR (some (xi x)) σ) (h1 : k ≤ R.cells) (h2 : n ≤ R.slots) : Aw Ω M_Mdl_insert R (MF Ω R QR QX) k n 75 L [xi x] σ := Aw.iret rfl h h1 h2 d_Mdl_insert_75
theorem c_Mdl_insert_77 {Ω : Om} {R R' : Room} {F : QF} {k n : Nat} {L st : List PV} {σ : Sto} {QX' : String → Sto → Prop} {Q : Sto → Prop} {a : Nat} (hc : MC Ω M_Mdl_remember R' (RV Q) QX' σ [xr (some a)]) (hk : sK σ a = 13) (hr1 : R'.frames + 1 ≤ R.frames) (hr2 : 8 + (2 + 11) + R'.locals ≤ R.locals) (hb1 : k + R'.cells ≤ R.cells) (hb2 : n + R'.slots ≤ R.slots) (hst : (st.map catP).sum ≤ 8) (kk : ∀ σ', Q σ' → Aw Ω M_Mdl_insert R F (k + R'.cells) (n + R'.slots) 80 L st σ') (kx : ∀ E σ', QX' E σ' → Ax Ω M_Mdl_insert R F (k + R'.cells) (n + R'.slots) 77 L st σ' E) : Aw Ω M_Mdl_insert R F k n 77 L (xr (some a) :: st) σ :=
  Aw.callV (As := []) (stk := xr (some a) :: st) (nn := 0) 12 M_Mdl_remember hc ok_Mdl_remember rfl (by decide) rfl hk ml_Mdl_205 im_Mdl_remember se_Mdl_remember ⟨hr1, hr2⟩ rfl ⟨hb1, hb2⟩ hst rfl d_Mdl_insert_77 (fun r σ' h => by obtain ⟨rfl, h⟩ := h; exact kk σ' h) kx
theorem c_Mdl_insert_84 {Ω : Om} {R R' : Room} {F : QF} {k n : Nat} {L st : List PV} {σ : Sto} {QX' : String → Sto → Prop} {Q : Int → Sto → Prop} {a : Nat} {x0 : Int64} (hc : MC Ω M_Mdl_putIn R' (RI Q) QX' σ [xr (some a), xl x0]) (hk : sK σ a = 13) (hr1 : R'.frames + 1 ≤ R.frames) (hr2 : 8 + (5 + 11) + R'.locals ≤ R.locals) (hb1 : k + R'.cells ≤ R.cells) (hb2 : n + R'.slots ≤ R.slots) (hst : (st.map catP).sum ≤ 8) (kk : ∀ x σ', Q x σ' → Aw Ω M_Mdl_insert R F (k + R'.cells) (n + R'.slots) 87 L (xi x :: st) σ') (kx : ∀ E σ', QX' E σ' → Ax Ω M_Mdl_insert R F (k + R'.cells) (n + R'.slots) 84 L st σ' E) : Aw Ω M_Mdl_insert R F k n 84 L (xl x0 :: xr (some a) :: st) σ :=
  Aw.callV (As := [xl x0]) (stk := xl x0 :: xr (some a) :: st) (nn := 1) 12 M_Mdl_putIn hc ok_Mdl_putIn rfl (by decide) rfl hk ml_Mdl_208 im_Mdl_putIn se_Mdl_putIn ⟨hr1, hr2⟩ rfl ⟨hb1, hb2⟩ hst rfl d_Mdl_insert_84 (fun r σ' h => by obtain ⟨x, rfl, h⟩ := h; exact kk x σ' h) kx
theorem c_Mdl_insert_87 {Ω : Om} {R R' : Room} {F : QF} {k n : Nat} {L st : List PV} {σ : Sto} {QX' : String → Sto → Prop} {Q : Sto → Prop} {a : Nat} {x0 : Int} {x1 : Int} (hc : MC Ω M_Mdl_putAt R' (RV Q) QX' σ [xr (some a), xi x0, xi x1]) (hk : sK σ a = 13) (hr1 : R'.frames + 1 ≤ R.frames) (hr2 : 8 + (4 + 11) + R'.locals ≤ R.locals) (hb1 : k + R'.cells ≤ R.cells) (hb2 : n + R'.slots ≤ R.slots) (hst : (st.map catP).sum ≤ 8) (kk : ∀ σ', Q σ' → Aw Ω M_Mdl_insert R F (k + R'.cells) (n + R'.slots) 90 L st σ') (kx : ∀ E σ', QX' E σ' → Ax Ω M_Mdl_insert R F (k + R'.cells) (n + R'.slots) 87 L st σ' E) : Aw Ω M_Mdl_insert R F k n 87 L (xi x1 :: xi x0 :: xr (some a) :: st) σ :=
  Aw.callV (As := [xi x0, xi x1]) (stk := xi x1 :: xi x0 :: xr (some a) :: st) (nn := 2) 12 M_Mdl_putAt hc ok_Mdl_putAt rfl (by decide) rfl hk ml_Mdl_211 im_Mdl_putAt se_Mdl_putAt ⟨hr1, hr2⟩ rfl ⟨hb1, hb2⟩ hst rfl d_Mdl_insert_87 (fun r σ' h => by obtain ⟨rfl, h⟩ := h; exact kk σ' h) kx
theorem r_Mdl_insert_94 {Ω : Om} {R : Room} {k n : Nat} {L : List PV} {σ : Sto} {QR : Option PV → Sto → Prop} {QX : String → Sto → Prop} {x : Int} (h : QR (some (xi x)) σ) (h1 : k ≤ R.cells) (h2 : n ≤ R.slots) : Aw Ω M_Mdl_insert R (MF Ω R QR QX) k n 94 L [xi x] σ := Aw.iret rfl h h1 h2 d_Mdl_insert_94
theorem e_Mdl_isLine {Ω : Om} {R : Room} {QR : Option PV → Sto → Prop} {QX : String → Sto → Prop} {σ : Sto} {v0 : Int64} (h : Aw Ω M_Mdl_isLine R (MF Ω R QR QX) 0 0 0 [xl v0, xu, xu, xu, xu, xu] [] σ) : MC Ω M_Mdl_isLine R QR QX σ [xl v0] := MC.body (by decide +kernel) rfl (Nat.le_of_ble_eq_true rfl) rfl h
theorem b_Mdl_isLine_0 {Ω : Om} {R : Room} {F : QF} {k n : Nat} {σ : Sto} {v0 : Int64} (h : Aw Ω M_Mdl_isLine R F k n 1 [xl v0, xu, xu, xu, xu, xu] [xl v0] σ) : Aw Ω M_Mdl_isLine R F k n 0 [xl v0, xu, xu, xu, xu, xu] [] σ := by
  refine Aw.lload_n rfl d_Mdl_isLine_0 ?_
  exact h
theorem b_Mdl_isLine_4 {Ω : Om} {R : Room} {F : QF} {k n : Nat} {σ : Sto} {v0 : Int64} {s0 : Int} (h : Aw Ω M_Mdl_isLine R F k n 6 [xl v0, xu, xi s0, xu, xu, xu] [xl v0] σ) : Aw Ω M_Mdl_isLine R F k n 4 [xl v0, xu, xu, xu, xu, xu] [xi s0] σ := by
  refine Aw.istore_n (by decide) d_Mdl_isLine_4 ?_
  refine Aw.toL (L' := [xl v0, xu, xi s0, xu, xu, xu]) rfl ?_
  refine Aw.lload_n rfl d_Mdl_isLine_5 ?_
  exact h
theorem b_Mdl_isLine_9 {Ω : Om} {R : Room} {F : QF} {k n : Nat} {σ : Sto} {v0 : Int64} {v2 : Int} {s0 : Int} (h : Q32 s0 ∧ ((s0 ≤ (0 : Int) → Aw Ω M_Mdl_isLine R F k n 21 [xl v0, xu, xi v2, xi 0, xi 0, xu] [] σ) ∧ (¬ s0 ≤ (0 : Int) → Aw Ω M_Mdl_isLine R F k n 21 [xl v0, xu, xi v2, xi 1, xi 0, xu] [] σ))) : Aw Ω M_Mdl_isLine R F k n 9 [xl v0, xu, xi v2, xu, xu, xu] [xi s0] σ := by
  obtain ⟨o1, h⟩ := h
  obtain ⟨ht, hf⟩ := h
  refine Aw.if_le (tgt := 16) o1 (by decide) d_Mdl_isLine_9 (fun c2 => ?_) (fun c2 => ?_)
  · have h := ht c2
    refine Aw.iconst d_Mdl_isLine_16 ?_
    refine Aw.istore_n (by decide) d_Mdl_isLine_17 ?_
    refine Aw.toL (L' := [xl v0, xu, xi v2, xi 0, xu, xu]) rfl ?_
    refine Aw.iconst d_Mdl_isLine_18 ?_
    refine Aw.istore (by decide) d_Mdl_isLine_19 ?_
    refine Aw.toL (L' := [xl v0, xu, xi v2, xi 0, xi 0, xu]) rfl ?_
    exact h
  · have h := hf c2
    refine Aw.iconst d_Mdl_isLine_12 ?_
    refine Aw.goto (tgt := 17) (by decide) d_Mdl_isLine_13 ?_
    refine Aw.istore_n (by decide) d_Mdl_isLine_17 ?_
    refine Aw.toL (L' := [xl v0, xu, xi v2, xi 1, xu, xu]) rfl ?_
    refine Aw.iconst d_Mdl_isLine_18 ?_
    refine Aw.istore (by decide) d_Mdl_isLine_19 ?_
    refine Aw.toL (L' := [xl v0, xu, xi v2, xi 1, xi 0, xu]) rfl ?_
    exact h
theorem b_Mdl_isLine_21 {Ω : Om} {R : Room} {F : QF} {k n : Nat} {σ : Sto} {v0 : Int64} {v2 : Int} {v3 : Int} {v4 : Int} (h : Q32 v4 ∧ (((8 : Int) ≤ v4 → Aw Ω M_Mdl_isLine R F k n 86 [xl v0, xu, xi v2, xi v3, xi v4, xu] [xi v3] σ) ∧ (¬ (8 : Int) ≤ v4 → Aw Ω M_Mdl_isLine R F k n 31 [xl v0, xu, xi v2, xi v3, xi v4, xu] [xi v4, xl v0] σ))) : Aw Ω M_Mdl_isLine R F k n 21 [xl v0, xu, xi v2, xi v3, xi v4, xu] [] σ := by
  refine Aw.iload rfl d_Mdl_isLine_21 ?_
  refine Aw.bipush (by decide) d_Mdl_isLine_23 ?_
  obtain ⟨o1, h⟩ := h
  obtain ⟨ht, hf⟩ := h
  refine Aw.icmp_ge (tgt := 85) o1 ⟨by decide, by decide⟩ (by decide) d_Mdl_isLine_25 (fun c2 => ?_) (fun c2 => ?_)
  · have h := ht c2
    refine Aw.iload_n rfl d_Mdl_isLine_85 ?_
    exact h
  · have h := hf c2
    refine Aw.lload_n rfl d_Mdl_isLine_28 ?_
    refine Aw.iload rfl d_Mdl_isLine_29 ?_
    exact h
theorem b_Mdl_isLine_34 {Ω : Om} {R : Room} {F : QF} {k n : Nat} {σ : Sto} {v0 : Int64} {v2 : Int} {v3 : Int} {v4 : Int} {s0 : Int} (h : Q32 v3 ∧ ((v3 = (0 : Int) → Aw Ω M_Mdl_isLine R F k n 21 [xl v0, xu, xi v2, xi 0, xi (v4 + 1), xu] [] σ) ∧ (¬ v3 = (0 : Int) → Q32 v4 ∧ Q32 v2 ∧ ((v2 ≤ v4 → Q32 s0 ∧ ((¬ s0 = (0 : Int) → Aw Ω M_Mdl_isLine R F k n 21 [xl v0, xu, xi v2, xi 0, xi (v4 + 1), xu] [] σ) ∧ (s0 = (0 : Int) → Aw Ω M_Mdl_isLine R F k n 21 [xl v0, xu, xi v2, xi 1, xi (v4 + 1), xu] [] σ))) ∧ (¬ v2 ≤ v4 → Q32 s0 ∧ ((s0 = (32 : Int) → Aw Ω M_Mdl_isLine R F k n 21 [xl v0, xu, xi v2, xi 1, xi (v4 + 1), xu] [] σ) ∧ (¬ s0 = (32 : Int) → Aw Ω M_Mdl_isLine R F k n 59 [xl v0, xu, xi v2, xi v3, xi v4, xi s0] [xi 122, xi 97, xi s0] σ))))))) : Aw Ω M_Mdl_isLine R F k n 34 [xl v0, xu, xi v2, xi v3, xi v4, xu] [xi s0] σ := by
  refine Aw.istore (by decide) d_Mdl_isLine_34 ?_
  refine Aw.toL (L' := [xl v0, xu, xi v2, xi v3, xi v4, xi s0]) rfl ?_
  refine Aw.iload_n rfl d_Mdl_isLine_36 ?_
  obtain ⟨o1, h⟩ := h
  obtain ⟨ht, hf⟩ := h
  refine Aw.if_eq (tgt := 77) o1 (by decide) d_Mdl_isLine_37 (fun c9 => ?_) (fun c9 => ?_)
  · have h := ht c9
    refine Aw.iconst d_Mdl_isLine_77 ?_
    refine Aw.istore_n (by decide) d_Mdl_isLine_78 ?_
    refine Aw.toL (L' := [xl v0, xu, xi v2, xi 0, xi v4, xi s0]) rfl ?_
    refine Aw.iinc rfl d_Mdl_isLine_79 ?_
    refine Aw.toL (L' := [xl v0, xu, xi v2, xi 0, xi (v4 + 1), xi s0]) rfl ?_
    refine Aw.goto (tgt := 21) (by decide) d_Mdl_isLine_82 ?_
    exact Aw.toW (L' := [xl v0, xu, xi v2, xi 0, xi (v4 + 1), xu]) ⟨Or.inr rfl, Or.inr rfl, Or.inr rfl, Or.inr rfl, Or.inr rfl, Or.inl rfl, trivial⟩ h
  · have h := hf c9
    refine Aw.iload rfl d_Mdl_isLine_40 ?_
    refine Aw.iload_n rfl d_Mdl_isLine_42 ?_
    obtain ⟨o2, h⟩ := h
    obtain ⟨o3, h⟩ := h
    obtain ⟨ht, hf⟩ := h
    refine Aw.icmp_ge (tgt := 68) o2 o3 (by decide) d_Mdl_isLine_43 (fun c8 => ?_) (fun c8 => ?_)
    · have h := ht c8
      refine Aw.iload rfl d_Mdl_isLine_68 ?_
      obtain ⟨o4, h⟩ := h
      obtain ⟨ht, hf⟩ := h
      refine Aw.if_ne (tgt := 77) o4 (by decide) d_Mdl_isLine_70 (fun c5 => ?_) (fun c5 => ?_)
      · have h := ht c5
        refine Aw.iconst d_Mdl_isLine_77 ?_
        refine Aw.istore_n (by decide) d_Mdl_isLine_78 ?_
        refine Aw.toL (L' := [xl v0, xu, xi v2, xi 0, xi v4, xi s0]) rfl ?_
        refine Aw.iinc rfl d_Mdl_isLine_79 ?_
        refine Aw.toL (L' := [xl v0, xu, xi v2, xi 0, xi (v4 + 1), xi s0]) rfl ?_
        refine Aw.goto (tgt := 21) (by decide) d_Mdl_isLine_82 ?_
        exact Aw.toW (L' := [xl v0, xu, xi v2, xi 0, xi (v4 + 1), xu]) ⟨Or.inr rfl, Or.inr rfl, Or.inr rfl, Or.inr rfl, Or.inr rfl, Or.inl rfl, trivial⟩ h
      · have h := hf c5
        refine Aw.iconst d_Mdl_isLine_73 ?_
        refine Aw.goto (tgt := 78) (by decide) d_Mdl_isLine_74 ?_
        refine Aw.istore_n (by decide) d_Mdl_isLine_78 ?_
        refine Aw.toL (L' := [xl v0, xu, xi v2, xi 1, xi v4, xi s0]) rfl ?_
        refine Aw.iinc rfl d_Mdl_isLine_79 ?_
        refine Aw.toL (L' := [xl v0, xu, xi v2, xi 1, xi (v4 + 1), xi s0]) rfl ?_
        refine Aw.goto (tgt := 21) (by decide) d_Mdl_isLine_82 ?_
        exact Aw.toW (L' := [xl v0, xu, xi v2, xi 1, xi (v4 + 1), xu]) ⟨Or.inr rfl, Or.inr rfl, Or.inr rfl, Or.inr rfl, Or.inr rfl, Or.inl rfl, trivial⟩ h
    · have h := hf c8
      refine Aw.iload rfl d_Mdl_isLine_46 ?_
      refine Aw.bipush (by decide) d_Mdl_isLine_48 ?_
      obtain ⟨o6, h⟩ := h
      obtain ⟨ht, hf⟩ := h
      refine Aw.icmp_eq (tgt := 73) o6 ⟨by decide, by decide⟩ (by decide) d_Mdl_isLine_50 (fun c7 => ?_) (fun c7 => ?_)
      · have h := ht c7
        refine Aw.iconst d_Mdl_isLine_73 ?_
        refine Aw.goto (tgt := 78) (by decide) d_Mdl_isLine_74 ?_
        refine Aw.istore_n (by decide) d_Mdl_isLine_78 ?_
        refine Aw.toL (L' := [xl v0, xu, xi v2, xi 1, xi v4, xi s0]) rfl ?_
        refine Aw.iinc rfl d_Mdl_isLine_79 ?_
        refine Aw.toL (L' := [xl v0, xu, xi v2, xi 1, xi (v4 + 1), xi s0]) rfl ?_
        refine Aw.goto (tgt := 21) (by decide) d_Mdl_isLine_82 ?_
        exact Aw.toW (L' := [xl v0, xu, xi v2, xi 1, xi (v4 + 1), xu]) ⟨Or.inr rfl, Or.inr rfl, Or.inr rfl, Or.inr rfl, Or.inr rfl, Or.inl rfl, trivial⟩ h
      · have h := hf c7
        refine Aw.iload rfl d_Mdl_isLine_53 ?_
        refine Aw.bipush (by decide) d_Mdl_isLine_55 ?_
        refine Aw.bipush (by decide) d_Mdl_isLine_57 ?_
        exact h
theorem b_Mdl_isLine_62 {Ω : Om} {R : Room} {F : QF} {k n : Nat} {σ : Sto} {v0 : Int64} {v2 : Int} {v3 : Int} {v4 : Int} {v5 : Int} {s0 : Int} (h : Q32 s0 ∧ ((s0 = (0 : Int) → Aw Ω M_Mdl_isLine R F k n 21 [xl v0, xu, xi v2, xi 0, xi (v4 + 1), xu] [] σ) ∧ (¬ s0 = (0 : Int) → Aw Ω M_Mdl_isLine R F k n 21 [xl v0, xu, xi v2, xi 1, xi (v4 + 1), xu] [] σ))) : Aw Ω M_Mdl_isLine R F k n 62 [xl v0, xu, xi v2, xi v3, xi v4, xi v5] [xi s0] σ := by
  obtain ⟨o1, h⟩ := h
  obtain ⟨ht, hf⟩ := h
  refine Aw.if_eq (tgt := 77) o1 (by decide) d_Mdl_isLine_62 (fun c2 => ?_) (fun c2 => ?_)
  · have h := ht c2
    refine Aw.iconst d_Mdl_isLine_77 ?_
    refine Aw.istore_n (by decide) d_Mdl_isLine_78 ?_
    refine Aw.toL (L' := [xl v0, xu, xi v2, xi 0, xi v4, xi v5]) rfl ?_
    refine Aw.iinc rfl d_Mdl_isLine_79 ?_
    refine Aw.toL (L' := [xl v0, xu, xi v2, xi 0, xi (v4 + 1), xi v5]) rfl ?_
    refine Aw.goto (tgt := 21) (by decide) d_Mdl_isLine_82 ?_
    exact Aw.toW (L' := [xl v0, xu, xi v2, xi 0, xi (v4 + 1), xu]) ⟨Or.inr rfl, Or.inr rfl, Or.inr rfl, Or.inr rfl, Or.inr rfl, Or.inl rfl, trivial⟩ h
  · have h := hf c2
    refine Aw.goto (tgt := 73) (by decide) d_Mdl_isLine_65 ?_
    refine Aw.iconst d_Mdl_isLine_73 ?_
    refine Aw.goto (tgt := 78) (by decide) d_Mdl_isLine_74 ?_
    refine Aw.istore_n (by decide) d_Mdl_isLine_78 ?_
    refine Aw.toL (L' := [xl v0, xu, xi v2, xi 1, xi v4, xi v5]) rfl ?_
    refine Aw.iinc rfl d_Mdl_isLine_79 ?_
    refine Aw.toL (L' := [xl v0, xu, xi v2, xi 1, xi (v4 + 1), xi v5]) rfl ?_
    refine Aw.goto (tgt := 21) (by decide) d_Mdl_isLine_82 ?_
    exact Aw.toW (L' := [xl v0, xu, xi v2, xi 1, xi (v4 + 1), xu]) ⟨Or.inr rfl, Or.inr rfl, Or.inr rfl, Or.inr rfl, Or.inr rfl, Or.inl rfl, trivial⟩ h
theorem c_Mdl_isLine_1 {Ω : Om} {R R' : Room} {F : QF} {k n : Nat} {L st : List PV} {σ : Sto} {QX' : String → Sto → Prop} {Q : Int → Sto → Prop} {x0 : Int64} (hc : MC Ω M_Mdl_length R' (RI Q) QX' σ [xl x0]) (hr1 : R'.frames + 1 ≤ R.frames) (hr2 : 8 + (3 + 11) + R'.locals ≤ R.locals) (hb1 : k + R'.cells ≤ R.cells) (hb2 : n + R'.slots ≤ R.slots) (hst : (st.map catP).sum ≤ 8) (kk : ∀ x σ', Q x σ' → Aw Ω M_Mdl_isLine R F (k + R'.cells) (n + R'.slots) 4 L (xi x :: st) σ') (kx : ∀ E σ', QX' E σ' → Ax Ω M_Mdl_isLine R F (k + R'.cells) (n + R'.slots) 1 L st σ' E) : Aw Ω M_Mdl_isLine R F k n 1 L (xl x0 :: st) σ :=
  Aw.callS (As := [xl x0]) (stk := xl x0 :: st) (nn := 1) M_Mdl_length hc ok_Mdl_length rfl ml_Mdl_140 sta_Mdl_length ⟨hr1, hr2⟩ rfl ⟨hb1, hb2⟩ hst rfl d_Mdl_isLine_1 (fun r σ' h => by obtain ⟨x, rfl, h⟩ := h; exact kk x σ' h) kx
theorem c_Mdl_isLine_6 {Ω : Om} {R R' : Room} {F : QF} {k n : Nat} {L st : List PV} {σ : Sto} {QX' : String → Sto → Prop} {Q : Int → Sto → Prop} {x0 : Int64} (hc : MC Ω M_Mdl_letters R' (RI Q) QX' σ [xl x0]) (hr1 : R'.frames + 1 ≤ R.frames) (hr2 : 8 + (4 + 11) + R'.locals ≤ R.locals) (hb1 : k + R'.cells ≤ R.cells) (hb2 : n + R'.slots ≤ R.slots) (hst : (st.map catP).sum ≤ 8) (kk : ∀ x σ', Q x σ' → Aw Ω M_Mdl_isLine R F (k + R'.cells) (n + R'.slots) 9 L (xi x :: st) σ') (kx : ∀ E σ', QX' E σ' → Ax Ω M_Mdl_isLine R F (k + R'.cells) (n + R'.slots) 6 L st σ' E) : Aw Ω M_Mdl_isLine R F k n 6 L (xl x0 :: st) σ :=
  Aw.callS (As := [xl x0]) (stk := xl x0 :: st) (nn := 1) M_Mdl_letters hc ok_Mdl_letters rfl ml_Mdl_144 sta_Mdl_letters ⟨hr1, hr2⟩ rfl ⟨hb1, hb2⟩ hst rfl d_Mdl_isLine_6 (fun r σ' h => by obtain ⟨x, rfl, h⟩ := h; exact kk x σ' h) kx
theorem c_Mdl_isLine_31 {Ω : Om} {R R' : Room} {F : QF} {k n : Nat} {L st : List PV} {σ : Sto} {QX' : String → Sto → Prop} {Q : Int → Sto → Prop} {x0 : Int64} {x1 : Int} (hc : MC Ω M_Mdl_signAt R' (RI Q) QX' σ [xl x0, xi x1]) (hr1 : R'.frames + 1 ≤ R.frames) (hr2 : 8 + (3 + 11) + R'.locals ≤ R.locals) (hb1 : k + R'.cells ≤ R.cells) (hb2 : n + R'.slots ≤ R.slots) (hst : (st.map catP).sum ≤ 8) (kk : ∀ x σ', Q x σ' → Aw Ω M_Mdl_isLine R F (k + R'.cells) (n + R'.slots) 34 L (xi x :: st) σ') (kx : ∀ E σ', QX' E σ' → Ax Ω M_Mdl_isLine R F (k + R'.cells) (n + R'.slots) 31 L st σ' E) : Aw Ω M_Mdl_isLine R F k n 31 L (xi x1 :: xl x0 :: st) σ :=
  Aw.callS (As := [xl x0, xi x1]) (stk := xi x1 :: xl x0 :: st) (nn := 2) M_Mdl_signAt hc ok_Mdl_signAt rfl ml_Mdl_136 sta_Mdl_signAt ⟨hr1, hr2⟩ rfl ⟨hb1, hb2⟩ hst rfl d_Mdl_isLine_31 (fun r σ' h => by obtain ⟨x, rfl, h⟩ := h; exact kk x σ' h) kx
theorem c_Mdl_isLine_59 {Ω : Om} {R R' : Room} {F : QF} {k n : Nat} {L st : List PV} {σ : Sto} {QX' : String → Sto → Prop} {Q : Int → Sto → Prop} {x0 : Int} {x1 : Int} {x2 : Int} (hc : MC Ω M_Mdl_in R' (RI Q) QX' σ [xi x0, xi x1, xi x2]) (hr1 : R'.frames + 1 ≤ R.frames) (hr2 : 8 + (3 + 11) + R'.locals ≤ R.locals) (hb1 : k + R'.cells ≤ R.cells) (hb2 : n + R'.slots ≤ R.slots) (hst : (st.map catP).sum ≤ 8) (kk : ∀ x σ', Q x σ' → Aw Ω M_Mdl_isLine R F (k + R'.cells) (n + R'.slots) 62 L (xi x :: st) σ') (kx : ∀ E σ', QX' E σ' → Ax Ω M_Mdl_isLine R F (k + R'.cells) (n + R'.slots) 59 L st σ' E) : Aw Ω M_Mdl_isLine R F k n 59 L (xi x2 :: xi x1 :: xi x0 :: st) σ :=
  Aw.callS (As := [xi x0, xi x1, xi x2]) (stk := xi x2 :: xi x1 :: xi x0 :: st) (nn := 3) M_Mdl_in hc ok_Mdl_in rfl ml_Mdl_130 sta_Mdl_in ⟨hr1, hr2⟩ rfl ⟨hb1, hb2⟩ hst rfl d_Mdl_isLine_59 (fun r σ' h => by obtain ⟨x, rfl, h⟩ := h; exact kk x σ' h) kx
theorem r_Mdl_isLine_86 {Ω : Om} {R : Room} {k n : Nat} {L : List PV} {σ : Sto} {QR : Option PV → Sto → Prop} {QX : String → Sto → Prop} {x : Int} (hx : x = 0 ∨ x = 1) (h : QR (some (xi x)) σ) (h1 : k ≤ R.cells) (h2 : n ≤ R.slots) : Aw Ω M_Mdl_isLine R (MF Ω R QR QX) k n 86 L [xi x] σ := Aw.zret rfl hx h h1 h2 d_Mdl_isLine_86
theorem e_Mdl_layPiece {Ω : Om} {R : Room} {QR : Option PV → Sto → Prop} {QX : String → Sto → Prop} {σ : Sto} {a0 : Nat} {v1 : Int} {v2 : Int} {v3 : Int} {v4 : Int} (h : Aw Ω M_Mdl_layPiece R (MF Ω R QR QX) 0 0 0 [xr (some a0), xi v1, xi v2, xi v3, xi v4, xu, xu] [] σ) : MC Ω M_Mdl_layPiece R QR QX σ [xr (some a0), xi v1, xi v2, xi v3, xi v4] := MC.body (by decide +kernel) rfl (Nat.le_of_ble_eq_true rfl) rfl h
theorem b_Mdl_layPiece_0 {Ω : Om} {R : Room} {F : QF} {k n : Nat} {σ : Sto} {a0 : Nat} {v1 : Int} {v2 : Int} {v3 : Int} {v4 : Int} (h : sK σ a0 = 13 ∧ (Q32 (fI σ 785 a0) → (∃ b3 : Nat, fR σ 787 a0 = some b3 ∧ sK σ b3 = 50 ∧ 0 ≤ ((3 * (fI σ 785 a0)) + v1) ∧ ((3 * (fI σ 785 a0)) + v1) < sZ σ b3 ∧ Q32 (v4 - v3) ∧ Aw Ω M_Mdl_layPiece R F k n 24 [xr (some a0), xi v1, xi v2, xi v3, xi v4, xi ((3 * (fI σ 785 a0)) + v1), xi v3] [] (vI σ b3 ((3 * (fI σ 785 a0)) + v1).toNat (v4 - v3))))) : Aw Ω M_Mdl_layPiece R F k n 0 [xr (some a0), xi v1, xi v2, xi v3, xi v4, xu, xu] [] σ := by
  refine Aw.iconst d_Mdl_layPiece_0 ?_
  refine Aw.aload_n rfl d_Mdl_layPiece_1 ?_
  obtain ⟨o1, h⟩ := h
  refine Aw.getI (f := 785) 12 17 fl_Mdl_185 (by decide) (by decide) rfl rfl o1 d_Mdl_layPiece_2 (fun r2 => ?_)
  have h := h r2
  refine Aw.imul d_Mdl_layPiece_5 ?_
  refine Aw.iload_n rfl d_Mdl_layPiece_6 ?_
  refine Aw.iadd d_Mdl_layPiece_7 ?_
  refine Aw.istore (by decide) d_Mdl_layPiece_8 ?_
  refine Aw.toL (L' := [xr (some a0), xi v1, xi v2, xi v3, xi v4, xi ((3 * (fI σ 785 a0)) + v1), xu]) rfl ?_
  refine Aw.aload_n rfl d_Mdl_layPiece_10 ?_
  obtain ⟨b3, e4, h⟩ := h
  refine Aw.getRs (f := 787) 12 19 fl_Mdl_38 (by decide) (by decide) rfl rfl o1 e4 d_Mdl_layPiece_11 ?_
  refine Aw.iload rfl d_Mdl_layPiece_14 ?_
  refine Aw.iload rfl d_Mdl_layPiece_16 ?_
  refine Aw.iload_n rfl d_Mdl_layPiece_18 ?_
  refine Aw.isub d_Mdl_layPiece_19 ?_
  obtain ⟨o5, h⟩ := h
  obtain ⟨o6, o7, h⟩ := h
  obtain ⟨o8, h⟩ := h
  refine Aw.iast o5 o6 o7 o8 d_Mdl_layPiece_20 ?_
  refine Aw.iload_n rfl d_Mdl_layPiece_21 ?_
  refine Aw.istore (by decide) d_Mdl_layPiece_22 ?_
  refine Aw.toL (L' := [xr (some a0), xi v1, xi v2, xi v3, xi v4, xi ((3 * (fI σ 785 a0)) + v1), xi v3]) rfl ?_
  exact h
theorem b_Mdl_layPiece_24 {Ω : Om} {R : Room} {F : QF} {k n : Nat} {σ : Sto} {a0 : Nat} {v1 : Int} {v2 : Int} {v3 : Int} {v4 : Int} {v5 : Int} {v6 : Int} (h : Q32 v6 ∧ Q32 v4 ∧ ((v4 ≤ v6 → Aw Ω M_Mdl_layPiece R F k n 64 [xr (some a0), xi v1, xi v2, xi v3, xi v4, xi v5, xi v6] [] σ) ∧ (¬ v4 ≤ v6 → sK σ a0 = 13 ∧ (∃ b4 : Nat, fR σ 788 a0 = some b4 ∧ (∃ b6 : Nat, fR σ 775 a0 = some b6 ∧ sK σ b6 = 50 ∧ 0 ≤ ((20 * v2) + v6) ∧ ((20 * v2) + v6) < sZ σ b6 ∧ (Q32 (aI σ b6 ((20 * v2) + v6).toNat) → sK σ b4 = 50 ∧ 0 ≤ (((20 * v5) + v6) - v3) ∧ (((20 * v5) + v6) - v3) < sZ σ b4 ∧ Aw Ω M_Mdl_layPiece R F k n 24 [xr (some a0), xi v1, xi v2, xi v3, xi v4, xi v5, xi (v6 + 1)] [] (vI σ b4 (((20 * v5) + v6) - v3).toNat (aI σ b6 ((20 * v2) + v6).toNat)))))))) : Aw Ω M_Mdl_layPiece R F k n 24 [xr (some a0), xi v1, xi v2, xi v3, xi v4, xi v5, xi v6] [] σ := by
  refine Aw.iload rfl d_Mdl_layPiece_24 ?_
  refine Aw.iload rfl d_Mdl_layPiece_26 ?_
  obtain ⟨o1, h⟩ := h
  obtain ⟨o2, h⟩ := h
  obtain ⟨ht, hf⟩ := h
  refine Aw.icmp_ge (tgt := 64) o1 o2 (by decide) d_Mdl_layPiece_28 (fun c15 => ?_) (fun c15 => ?_)
  · have h := ht c15
    exact h
  · have h := hf c15
    refine Aw.aload_n rfl d_Mdl_layPiece_31 ?_
    obtain ⟨o3, h⟩ := h
    obtain ⟨b4, e5, h⟩ := h
    refine Aw.getRs (f := 788) 12 20 fl_Mdl_41 (by decide) (by decide) rfl rfl o3 e5 d_Mdl_layPiece_32 ?_
    refine Aw.bipush (by decide) d_Mdl_layPiece_35 ?_
    refine Aw.iload rfl d_Mdl_layPiece_37 ?_
    refine Aw.imul d_Mdl_layPiece_39 ?_
    refine Aw.iload rfl d_Mdl_layPiece_40 ?_
    refine Aw.iadd d_Mdl_layPiece_42 ?_
    refine Aw.iload_n rfl d_Mdl_layPiece_43 ?_
    refine Aw.isub d_Mdl_layPiece_44 ?_
    refine Aw.aload_n rfl d_Mdl_layPiece_45 ?_
    obtain ⟨b6, e7, h⟩ := h
    refine Aw.getRs (f := 775) 12 7 fl_Mdl_23 (by decide) (by decide) rfl rfl o3 e7 d_Mdl_layPiece_46 ?_
    refine Aw.bipush (by decide) d_Mdl_layPiece_49 ?_
    refine Aw.iload_n rfl d_Mdl_layPiece_51 ?_
    refine Aw.imul d_Mdl_layPiece_52 ?_
    refine Aw.iload rfl d_Mdl_layPiece_53 ?_
    refine Aw.iadd d_Mdl_layPiece_55 ?_
    obtain ⟨o8, h⟩ := h
    obtain ⟨o9, o10, h⟩ := h
    refine Aw.iald o8 o9 o10 d_Mdl_layPiece_56 (fun r11 => ?_)
    have h := h r11
    obtain ⟨o12, h⟩ := h
    obtain ⟨o13, o14, h⟩ := h
    refine Aw.iast o12 o13 o14 r11 d_Mdl_layPiece_57 ?_
    refine Aw.iinc rfl d_Mdl_layPiece_58 ?_
    refine Aw.toL (L' := [xr (some a0), xi v1, xi v2, xi v3, xi v4, xi v5, xi (v6 + 1)]) rfl ?_
    refine Aw.goto (tgt := 24) (by decide) d_Mdl_layPiece_61 ?_
    exact h
theorem r_Mdl_layPiece_64 {Ω : Om} {R : Room} {k n : Nat} {L : List PV} {σ : Sto} {QR : Option PV → Sto → Prop} {QX : String → Sto → Prop} (h : QR none σ) (h1 : k ≤ R.cells) (h2 : n ≤ R.slots) : Aw Ω M_Mdl_layPiece R (MF Ω R QR QX) k n 64 L [] σ := Aw.vret rfl h h1 h2 d_Mdl_layPiece_64
theorem e_Mdl_isTaken {Ω : Om} {R : Room} {QR : Option PV → Sto → Prop} {QX : String → Sto → Prop} {σ : Sto} {a0 : Nat} {v1 : Int} (h : Aw Ω M_Mdl_isTaken R (MF Ω R QR QX) 0 0 0 [xr (some a0), xi v1, xu, xu] [] σ) : MC Ω M_Mdl_isTaken R QR QX σ [xr (some a0), xi v1] := MC.body (by decide +kernel) rfl (Nat.le_of_ble_eq_true rfl) rfl h
theorem b_Mdl_isTaken_0 {Ω : Om} {R : Room} {F : QF} {k n : Nat} {σ : Sto} {a0 : Nat} {v1 : Int} (h : Aw Ω M_Mdl_isTaken R F k n 4 [xr (some a0), xi v1, xi 0, xi 0] [] σ) : Aw Ω M_Mdl_isTaken R F k n 0 [xr (some a0), xi v1, xu, xu] [] σ := by
  refine Aw.iconst d_Mdl_isTaken_0 ?_
  refine Aw.istore_n (by decide) d_Mdl_isTaken_1 ?_
  refine Aw.toL (L' := [xr (some a0), xi v1, xi 0, xu]) rfl ?_
  refine Aw.iconst d_Mdl_isTaken_2 ?_
  refine Aw.istore_n (by decide) d_Mdl_isTaken_3 ?_
  refine Aw.toL (L' := [xr (some a0), xi v1, xi 0, xi 0]) rfl ?_
  exact h
theorem b_Mdl_isTaken_4 {Ω : Om} {R : Room} {F : QF} {k n : Nat} {σ : Sto} {a0 : Nat} {v1 : Int} {v2 : Int} {v3 : Int} (h : sK σ a0 = 13 ∧ (Q32 (fI σ 794 a0) → Q32 v3 ∧ (((fI σ 794 a0) ≤ v3 → Aw Ω M_Mdl_isTaken R F k n 49 [xr (some a0), xi v1, xi v2, xi v3] [xi v2] σ) ∧ (¬ (fI σ 794 a0) ≤ v3 → Q32 v2 ∧ ((¬ v2 = (0 : Int) → Aw Ω M_Mdl_isTaken R F k n 4 [xr (some a0), xi v1, xi 1, xi (v3 + 1)] [] σ) ∧ (v2 = (0 : Int) → (∃ b5 : Nat, fR σ 795 a0 = some b5 ∧ sK σ b5 = 50 ∧ 0 ≤ v3 ∧ v3 < sZ σ b5 ∧ (Q32 (aI σ b5 (v3).toNat) → Q32 v1 ∧ (((aI σ b5 (v3).toNat) = v1 → Aw Ω M_Mdl_isTaken R F k n 4 [xr (some a0), xi v1, xi 1, xi (v3 + 1)] [] σ) ∧ (¬ (aI σ b5 (v3).toNat) = v1 → (∃ b12 : Nat, fR σ 796 a0 = some b12 ∧ sK σ b12 = 50 ∧ 0 ≤ v3 ∧ v3 < sZ σ b12 ∧ (Q32 (aI σ b12 (v3).toNat) → ((¬ (aI σ b12 (v3).toNat) = v1 → Aw Ω M_Mdl_isTaken R F k n 4 [xr (some a0), xi v1, xi 0, xi (v3 + 1)] [] σ) ∧ ((aI σ b12 (v3).toNat) = v1 → Aw Ω M_Mdl_isTaken R F k n 4 [xr (some a0), xi v1, xi 1, xi (v3 + 1)] [] σ)))))))))))))) : Aw Ω M_Mdl_isTaken R F k n 4 [xr (some a0), xi v1, xi v2, xi v3] [] σ := by
  refine Aw.iload_n rfl d_Mdl_isTaken_4 ?_
  refine Aw.aload_n rfl d_Mdl_isTaken_5 ?_
  obtain ⟨o1, h⟩ := h
  refine Aw.getI (f := 794) 12 26 fl_Mdl_256 (by decide) (by decide) rfl rfl o1 d_Mdl_isTaken_6 (fun r2 => ?_)
  have h := h r2
  obtain ⟨o3, h⟩ := h
  obtain ⟨ht, hf⟩ := h
  refine Aw.icmp_ge (tgt := 48) o3 r2 (by decide) d_Mdl_isTaken_9 (fun c21 => ?_) (fun c21 => ?_)
  · have h := ht c21
    refine Aw.iload_n rfl d_Mdl_isTaken_48 ?_
    exact h
  · have h := hf c21
    refine Aw.iload_n rfl d_Mdl_isTaken_12 ?_
    obtain ⟨o4, h⟩ := h
    obtain ⟨ht, hf⟩ := h
    refine Aw.if_ne (tgt := 36) o4 (by decide) d_Mdl_isTaken_13 (fun c20 => ?_) (fun c20 => ?_)
    · have h := ht c20
      refine Aw.iconst d_Mdl_isTaken_36 ?_
      refine Aw.goto (tgt := 41) (by decide) d_Mdl_isTaken_37 ?_
      refine Aw.istore_n (by decide) d_Mdl_isTaken_41 ?_
      refine Aw.toL (L' := [xr (some a0), xi v1, xi 1, xi v3]) rfl ?_
      refine Aw.iinc rfl d_Mdl_isTaken_42 ?_
      refine Aw.toL (L' := [xr (some a0), xi v1, xi 1, xi (v3 + 1)]) rfl ?_
      refine Aw.goto (tgt := 4) (by decide) d_Mdl_isTaken_45 ?_
      exact h
    · have h := hf c20
      refine Aw.aload_n rfl d_Mdl_isTaken_16 ?_
      obtain ⟨b5, e6, h⟩ := h
      refine Aw.getRs (f := 795) 12 27 fl_Mdl_53 (by decide) (by decide) rfl rfl o1 e6 d_Mdl_isTaken_17 ?_
      refine Aw.iload_n rfl d_Mdl_isTaken_20 ?_
      obtain ⟨o7, h⟩ := h
      obtain ⟨o8, o9, h⟩ := h
      refine Aw.iald o7 o8 o9 d_Mdl_isTaken_21 (fun r10 => ?_)
      have h := h r10
      refine Aw.iload_n rfl d_Mdl_isTaken_22 ?_
      obtain ⟨o11, h⟩ := h
      obtain ⟨ht, hf⟩ := h
      refine Aw.icmp_eq (tgt := 36) r10 o11 (by decide) d_Mdl_isTaken_23 (fun c19 => ?_) (fun c19 => ?_)
      · have h := ht c19
        refine Aw.iconst d_Mdl_isTaken_36 ?_
        refine Aw.goto (tgt := 41) (by decide) d_Mdl_isTaken_37 ?_
        refine Aw.istore_n (by decide) d_Mdl_isTaken_41 ?_
        refine Aw.toL (L' := [xr (some a0), xi v1, xi 1, xi v3]) rfl ?_
        refine Aw.iinc rfl d_Mdl_isTaken_42 ?_
        refine Aw.toL (L' := [xr (some a0), xi v1, xi 1, xi (v3 + 1)]) rfl ?_
        refine Aw.goto (tgt := 4) (by decide) d_Mdl_isTaken_45 ?_
        exact h
      · have h := hf c19
        refine Aw.aload_n rfl d_Mdl_isTaken_26 ?_
        obtain ⟨b12, e13, h⟩ := h
        refine Aw.getRs (f := 796) 12 28 fl_Mdl_56 (by decide) (by decide) rfl rfl o1 e13 d_Mdl_isTaken_27 ?_
        refine Aw.iload_n rfl d_Mdl_isTaken_30 ?_
        obtain ⟨o14, h⟩ := h
        obtain ⟨o15, o16, h⟩ := h
        refine Aw.iald o14 o15 o16 d_Mdl_isTaken_31 (fun r17 => ?_)
        have h := h r17
        refine Aw.iload_n rfl d_Mdl_isTaken_32 ?_
        obtain ⟨ht, hf⟩ := h
        refine Aw.icmp_ne (tgt := 40) r17 o11 (by decide) d_Mdl_isTaken_33 (fun c18 => ?_) (fun c18 => ?_)
        · have h := ht c18
          refine Aw.iconst d_Mdl_isTaken_40 ?_
          refine Aw.istore_n (by decide) d_Mdl_isTaken_41 ?_
          refine Aw.toL (L' := [xr (some a0), xi v1, xi 0, xi v3]) rfl ?_
          refine Aw.iinc rfl d_Mdl_isTaken_42 ?_
          refine Aw.toL (L' := [xr (some a0), xi v1, xi 0, xi (v3 + 1)]) rfl ?_
          refine Aw.goto (tgt := 4) (by decide) d_Mdl_isTaken_45 ?_
          exact h
        · have h := hf c18
          refine Aw.iconst d_Mdl_isTaken_36 ?_
          refine Aw.goto (tgt := 41) (by decide) d_Mdl_isTaken_37 ?_
          refine Aw.istore_n (by decide) d_Mdl_isTaken_41 ?_
          refine Aw.toL (L' := [xr (some a0), xi v1, xi 1, xi v3]) rfl ?_
          refine Aw.iinc rfl d_Mdl_isTaken_42 ?_
          refine Aw.toL (L' := [xr (some a0), xi v1, xi 1, xi (v3 + 1)]) rfl ?_
          refine Aw.goto (tgt := 4) (by decide) d_Mdl_isTaken_45 ?_
          exact h
theorem r_Mdl_isTaken_49 {Ω : Om} {R : Room} {k n : Nat} {L : List PV} {σ : Sto} {QR : Option PV → Sto → Prop} {QX : String → Sto → Prop} {x : Int} (hx : x = 0 ∨ x = 1) (h : QR (some (xi x)) σ) (h1 : k ≤ R.cells) (h2 : n ≤ R.slots) : Aw Ω M_Mdl_isTaken R (MF Ω R QR QX) k n 49 L [xi x] σ := Aw.zret rfl hx h h1 h2 d_Mdl_isTaken_49
theorem e_Mdl_takeAt {Ω : Om} {R : Room} {QR : Option PV → Sto → Prop} {QX : String → Sto → Prop} {σ : Sto} {a0 : Nat} {v1 : Int} (h : Aw Ω M_Mdl_takeAt R (MF Ω R QR QX) 0 0 0 [xr (some a0), xi v1, xu] [] σ) : MC Ω M_Mdl_takeAt R QR QX σ [xr (some a0), xi v1] := MC.body (by decide +kernel) rfl (Nat.le_of_ble_eq_true rfl) rfl h
theorem b_Mdl_takeAt_0 {Ω : Om} {R : Room} {F : QF} {k n : Nat} {σ : Sto} {a0 : Nat} {v1 : Int} (h : Aw Ω M_Mdl_takeAt R F k n 2 [xr (some a0), xi v1, xi v1] [] σ) : Aw Ω M_Mdl_takeAt R F k n 0 [xr (some a0), xi v1, xu] [] σ := by
  refine Aw.iload_n rfl d_Mdl_takeAt_0 ?_
  refine Aw.istore_n (by decide) d_Mdl_takeAt_1 ?_
  refine Aw.toL (L' := [xr (some a0), xi v1, xi v1]) rfl ?_
  exact h
theorem b_Mdl_takeAt_2 {Ω : Om} {R : Room} {F : QF} {k n : Nat} {σ : Sto} {a0 : Nat} {v1 : Int} {v2 : Int} (h : sK σ a0 = 13 ∧ (Q32 (fI σ 783 a0) → Q32 v2 ∧ Q32 ((fI σ 783 a0) - 1) ∧ ((((fI σ 783 a0) - 1) ≤ v2 → (Q32 (fI σ 783 a0) → Aw Ω M_Mdl_takeAt R F k n 42 [xr (some a0), xi v1, xi v2] [] (uI σ 783 a0 ((fI σ 783 a0) - 1)))) ∧ (¬ ((fI σ 783 a0) - 1) ≤ v2 → (∃ b6 : Nat, fR σ 784 a0 = some b6 ∧ sK σ b6 = 50 ∧ 0 ≤ (v2 + 1) ∧ (v2 + 1) < sZ σ b6 ∧ (Q32 (aI σ b6 (v2 + 1).toNat) → 0 ≤ v2 ∧ v2 < sZ σ b6 ∧ Aw Ω M_Mdl_takeAt R F k n 2 [xr (some a0), xi v1, xi (v2 + 1)] [] (vI σ b6 (v2).toNat (aI σ b6 (v2 + 1).toNat)))))))) : Aw Ω M_Mdl_takeAt R F k n 2 [xr (some a0), xi v1, xi v2] [] σ := by
  refine Aw.iload_n rfl d_Mdl_takeAt_2 ?_
  refine Aw.aload_n rfl d_Mdl_takeAt_3 ?_
  obtain ⟨o1, h⟩ := h
  refine Aw.getI (f := 783) 12 15 fl_Mdl_194 (by decide) (by decide) rfl rfl o1 d_Mdl_takeAt_4 (fun r2 => ?_)
  have h := h r2
  refine Aw.iconst d_Mdl_takeAt_7 ?_
  refine Aw.isub d_Mdl_takeAt_8 ?_
  obtain ⟨o3, h⟩ := h
  obtain ⟨o4, h⟩ := h
  obtain ⟨ht, hf⟩ := h
  refine Aw.icmp_ge (tgt := 32) o3 o4 (by decide) d_Mdl_takeAt_9 (fun c14 => ?_) (fun c14 => ?_)
  · have h := ht c14
    refine Aw.aload_n rfl d_Mdl_takeAt_32 ?_
    refine Aw.dup rfl d_Mdl_takeAt_33 ?_
    refine Aw.getI (f := 783) 12 15 fl_Mdl_194 (by decide) (by decide) rfl rfl o1 d_Mdl_takeAt_34 (fun r5 => ?_)
    have h := h r5
    refine Aw.iconst d_Mdl_takeAt_37 ?_
    refine Aw.isub d_Mdl_takeAt_38 ?_
    refine Aw.putI (f := 783) 12 15 fl_Mdl_194 (by decide) (by decide) rfl rfl o1 rfl o4 (Or.inl rfl) d_Mdl_takeAt_39 ?_
    exact h
  · have h := hf c14
    refine Aw.aload_n rfl d_Mdl_takeAt_12 ?_
    obtain ⟨b6, e7, h⟩ := h
    refine Aw.getRs (f := 784) 12 16 fl_Mdl_35 (by decide) (by decide) rfl rfl o1 e7 d_Mdl_takeAt_13 ?_
    refine Aw.iload_n rfl d_Mdl_takeAt_16 ?_
    refine Aw.aload_n rfl d_Mdl_takeAt_17 ?_
    refine Aw.getRs (f := 784) 12 16 fl_Mdl_35 (by decide) (by decide) rfl rfl o1 e7 d_Mdl_takeAt_18 ?_
    refine Aw.iload_n rfl d_Mdl_takeAt_21 ?_
    refine Aw.iconst d_Mdl_takeAt_22 ?_
    refine Aw.iadd d_Mdl_takeAt_23 ?_
    obtain ⟨o8, h⟩ := h
    obtain ⟨o9, o10, h⟩ := h
    refine Aw.iald o8 o9 o10 d_Mdl_takeAt_24 (fun r11 => ?_)
    have h := h r11
    obtain ⟨o12, o13, h⟩ := h
    refine Aw.iast o8 o12 o13 r11 d_Mdl_takeAt_25 ?_
    refine Aw.iinc rfl d_Mdl_takeAt_26 ?_
    refine Aw.toL (L' := [xr (some a0), xi v1, xi (v2 + 1)]) rfl ?_
    refine Aw.goto (tgt := 2) (by decide) d_Mdl_takeAt_29 ?_
    exact h
theorem r_Mdl_takeAt_42 {Ω : Om} {R : Room} {k n : Nat} {L : List PV} {σ : Sto} {QR : Option PV → Sto → Prop} {QX : String → Sto → Prop} (h : QR none σ) (h1 : k ≤ R.cells) (h2 : n ≤ R.slots) : Aw Ω M_Mdl_takeAt R (MF Ω R QR QX) k n 42 L [] σ := Aw.vret rfl h h1 h2 d_Mdl_takeAt_42
theorem e_Mdl_isBelow {Ω : Om} {R : Room} {QR : Option PV → Sto → Prop} {QX : String → Sto → Prop} {σ : Sto} {a0 : Nat} {v1 : Int} {v2 : Int} (h : Aw Ω M_Mdl_isBelow R (MF Ω R QR QX) 0 0 0 [xr (some a0), xi v1, xi v2, xu] [] σ) : MC Ω M_Mdl_isBelow R QR QX σ [xr (some a0), xi v1, xi v2] := MC.body (by decide +kernel) rfl (Nat.le_of_ble_eq_true rfl) rfl h
theorem b_Mdl_isBelow_0 {Ω : Om} {R : Room} {F : QF} {k n : Nat} {σ : Sto} {a0 : Nat} {v1 : Int} {v2 : Int} (h : sK σ a0 = 13 ∧ (∃ b2 : Nat, fR σ 817 a0 = some b2 ∧ sK σ b2 = 50 ∧ 0 ≤ v1 ∧ v1 < sZ σ b2 ∧ (Q32 (aI σ b2 (v1).toNat) → Aw Ω M_Mdl_isBelow R F k n 7 [xr (some a0), xi v1, xi v2, xi (aI σ b2 (v1).toNat)] [] σ))) : Aw Ω M_Mdl_isBelow R F k n 0 [xr (some a0), xi v1, xi v2, xu] [] σ := by
  refine Aw.aload_n rfl d_Mdl_isBelow_0 ?_
  obtain ⟨o1, h⟩ := h
  obtain ⟨b2, e3, h⟩ := h
  refine Aw.getRs (f := 817) 12 49 fl_Mdl_111 (by decide) (by decide) rfl rfl o1 e3 d_Mdl_isBelow_1 ?_
  refine Aw.iload_n rfl d_Mdl_isBelow_4 ?_
  obtain ⟨o4, h⟩ := h
  obtain ⟨o5, o6, h⟩ := h
  refine Aw.iald o4 o5 o6 d_Mdl_isBelow_5 (fun r7 => ?_)
  have h := h r7
  refine Aw.istore_n (by decide) d_Mdl_isBelow_6 ?_
  refine Aw.toL (L' := [xr (some a0), xi v1, xi v2, xi (aI σ b2 (v1).toNat)]) rfl ?_
  exact h
theorem b_Mdl_isBelow_7 {Ω : Om} {R : Room} {F : QF} {k n : Nat} {σ : Sto} {a0 : Nat} {v1 : Int} {v2 : Int} {v3 : Int} (h : Q32 v3 ∧ ((v3 = (-1 : Int) → ((v3 = (-1 : Int) → Aw Ω M_Mdl_isBelow R F k n 37 [xr (some a0), xi v1, xi v2, xi v3] [xi 0] σ) ∧ (¬ v3 = (-1 : Int) → Aw Ω M_Mdl_isBelow R F k n 37 [xr (some a0), xi v1, xi v2, xi v3] [xi 1] σ))) ∧ (¬ v3 = (-1 : Int) → Q32 v2 ∧ ((v3 = v2 → ((v3 = (-1 : Int) → Aw Ω M_Mdl_isBelow R F k n 37 [xr (some a0), xi v1, xi v2, xi v3] [xi 0] σ) ∧ (¬ v3 = (-1 : Int) → Aw Ω M_Mdl_isBelow R F k n 37 [xr (some a0), xi v1, xi v2, xi v3] [xi 1] σ))) ∧ (¬ v3 = v2 → sK σ a0 = 13 ∧ (∃ b6 : Nat, fR σ 817 a0 = some b6 ∧ sK σ b6 = 50 ∧ 0 ≤ v3 ∧ v3 < sZ σ b6 ∧ (Q32 (aI σ b6 (v3).toNat) → Aw Ω M_Mdl_isBelow R F k n 7 [xr (some a0), xi v1, xi v2, xi (aI σ b6 (v3).toNat)] [] σ))))))) : Aw Ω M_Mdl_isBelow R F k n 7 [xr (some a0), xi v1, xi v2, xi v3] [] σ := by
  refine Aw.iload_n rfl d_Mdl_isBelow_7 ?_
  refine Aw.iconst d_Mdl_isBelow_8 ?_
  obtain ⟨o1, h⟩ := h
  obtain ⟨ht, hf⟩ := h
  refine Aw.icmp_eq (tgt := 27) o1 ⟨by decide, by decide⟩ (by decide) d_Mdl_isBelow_9 (fun c13 => ?_) (fun c13 => ?_)
  · have h := ht c13
    refine Aw.iload_n rfl d_Mdl_isBelow_27 ?_
    refine Aw.iconst d_Mdl_isBelow_28 ?_
    obtain ⟨ht, hf⟩ := h
    refine Aw.icmp_eq (tgt := 36) o1 ⟨by decide, by decide⟩ (by decide) d_Mdl_isBelow_29 (fun c2 => ?_) (fun c2 => ?_)
    · have h := ht c2
      refine Aw.iconst d_Mdl_isBelow_36 ?_
      exact h
    · have h := hf c2
      refine Aw.iconst d_Mdl_isBelow_32 ?_
      refine Aw.goto (tgt := 37) (by decide) d_Mdl_isBelow_33 ?_
      exact h
  · have h := hf c13
    refine Aw.iload_n rfl d_Mdl_isBelow_12 ?_
    refine Aw.iload_n rfl d_Mdl_isBelow_13 ?_
    obtain ⟨o3, h⟩ := h
    obtain ⟨ht, hf⟩ := h
    refine Aw.icmp_eq (tgt := 27) o1 o3 (by decide) d_Mdl_isBelow_14 (fun c12 => ?_) (fun c12 => ?_)
    · have h := ht c12
      refine Aw.iload_n rfl d_Mdl_isBelow_27 ?_
      refine Aw.iconst d_Mdl_isBelow_28 ?_
      obtain ⟨ht, hf⟩ := h
      refine Aw.icmp_eq (tgt := 36) o1 ⟨by decide, by decide⟩ (by decide) d_Mdl_isBelow_29 (fun c4 => ?_) (fun c4 => ?_)
      · have h := ht c4
        refine Aw.iconst d_Mdl_isBelow_36 ?_
        exact h
      · have h := hf c4
        refine Aw.iconst d_Mdl_isBelow_32 ?_
        refine Aw.goto (tgt := 37) (by decide) d_Mdl_isBelow_33 ?_
        exact h
    · have h := hf c12
      refine Aw.aload_n rfl d_Mdl_isBelow_17 ?_
      obtain ⟨o5, h⟩ := h
      obtain ⟨b6, e7, h⟩ := h
      refine Aw.getRs (f := 817) 12 49 fl_Mdl_111 (by decide) (by decide) rfl rfl o5 e7 d_Mdl_isBelow_18 ?_
      refine Aw.iload_n rfl d_Mdl_isBelow_21 ?_
      obtain ⟨o8, h⟩ := h
      obtain ⟨o9, o10, h⟩ := h
      refine Aw.iald o8 o9 o10 d_Mdl_isBelow_22 (fun r11 => ?_)
      have h := h r11
      refine Aw.istore_n (by decide) d_Mdl_isBelow_23 ?_
      refine Aw.toL (L' := [xr (some a0), xi v1, xi v2, xi (aI σ b6 (v3).toNat)]) rfl ?_
      refine Aw.goto (tgt := 7) (by decide) d_Mdl_isBelow_24 ?_
      exact h
theorem r_Mdl_isBelow_37 {Ω : Om} {R : Room} {k n : Nat} {L : List PV} {σ : Sto} {QR : Option PV → Sto → Prop} {QX : String → Sto → Prop} {x : Int} (hx : x = 0 ∨ x = 1) (h : QR (some (xi x)) σ) (h1 : k ≤ R.cells) (h2 : n ≤ R.slots) : Aw Ω M_Mdl_isBelow R (MF Ω R QR QX) k n 37 L [xi x] σ := Aw.zret rfl hx h h1 h2 d_Mdl_isBelow_37
theorem e_Mdl_lineCount {Ω : Om} {R : Room} {QR : Option PV → Sto → Prop} {QX : String → Sto → Prop} {σ : Sto} {a0 : Nat} (h : Aw Ω M_Mdl_lineCount R (MF Ω R QR QX) 0 0 0 [xr (some a0), xu, xu] [] σ) : MC Ω M_Mdl_lineCount R QR QX σ [xr (some a0)] := MC.body (by decide +kernel) rfl (Nat.le_of_ble_eq_true rfl) rfl h
theorem b_Mdl_lineCount_0 {Ω : Om} {R : Room} {F : QF} {k n : Nat} {σ : Sto} {a0 : Nat} (h : Aw Ω M_Mdl_lineCount R F k n 4 [xr (some a0), xi 0, xi 0] [] σ) : Aw Ω M_Mdl_lineCount R F k n 0 [xr (some a0), xu, xu] [] σ := by
  refine Aw.iconst d_Mdl_lineCount_0 ?_
  refine Aw.istore_n (by decide) d_Mdl_lineCount_1 ?_
  refine Aw.toL (L' := [xr (some a0), xi 0, xu]) rfl ?_
  refine Aw.iconst d_Mdl_lineCount_2 ?_
  refine Aw.istore_n (by decide) d_Mdl_lineCount_3 ?_
  refine Aw.toL (L' := [xr (some a0), xi 0, xi 0]) rfl ?_
  exact h
theorem b_Mdl_lineCount_4 {Ω : Om} {R : Room} {F : QF} {k n : Nat} {σ : Sto} {a0 : Nat} {v1 : Int} {v2 : Int} (h : sK σ a0 = 13 ∧ (Q32 (fI σ 783 a0) → Q32 v2 ∧ (((fI σ 783 a0) ≤ v2 → Aw Ω M_Mdl_lineCount R F k n 36 [xr (some a0), xi v1, xi v2] [xi v1] σ) ∧ (¬ (fI σ 783 a0) ≤ v2 → (∃ b4 : Nat, fR σ 784 a0 = some b4 ∧ sK σ b4 = 50 ∧ 0 ≤ v2 ∧ v2 < sZ σ b4 ∧ (Q32 (aI σ b4 (v2).toNat) → (((aI σ b4 (v2).toNat) < (0 : Int) → Aw Ω M_Mdl_lineCount R F k n 4 [xr (some a0), xi (v1 + 0), xi (v2 + 1)] [] σ) ∧ (¬ (aI σ b4 (v2).toNat) < (0 : Int) → Aw Ω M_Mdl_lineCount R F k n 4 [xr (some a0), xi (v1 + 1), xi (v2 + 1)] [] σ)))))))) : Aw Ω M_Mdl_lineCount R F k n 4 [xr (some a0), xi v1, xi v2] [] σ := by
  refine Aw.iload_n rfl d_Mdl_lineCount_4 ?_
  refine Aw.aload_n rfl d_Mdl_lineCount_5 ?_
  obtain ⟨o1, h⟩ := h
  refine Aw.getI (f := 783) 12 15 fl_Mdl_194 (by decide) (by decide) rfl rfl o1 d_Mdl_lineCount_6 (fun r2 => ?_)
  have h := h r2
  obtain ⟨o3, h⟩ := h
  obtain ⟨ht, hf⟩ := h
  refine Aw.icmp_ge (tgt := 35) o3 r2 (by decide) d_Mdl_lineCount_9 (fun c11 => ?_) (fun c11 => ?_)
  · have h := ht c11
    refine Aw.iload_n rfl d_Mdl_lineCount_35 ?_
    exact h
  · have h := hf c11
    refine Aw.iload_n rfl d_Mdl_lineCount_12 ?_
    refine Aw.aload_n rfl d_Mdl_lineCount_13 ?_
    obtain ⟨b4, e5, h⟩ := h
    refine Aw.getRs (f := 784) 12 16 fl_Mdl_35 (by decide) (by decide) rfl rfl o1 e5 d_Mdl_lineCount_14 ?_
    refine Aw.iload_n rfl d_Mdl_lineCount_17 ?_
    obtain ⟨o6, h⟩ := h
    obtain ⟨o7, o8, h⟩ := h
    refine Aw.iald o6 o7 o8 d_Mdl_lineCount_18 (fun r9 => ?_)
    have h := h r9
    obtain ⟨ht, hf⟩ := h
    refine Aw.if_lt (tgt := 26) r9 (by decide) d_Mdl_lineCount_19 (fun c10 => ?_) (fun c10 => ?_)
    · have h := ht c10
      refine Aw.iconst d_Mdl_lineCount_26 ?_
      refine Aw.iadd d_Mdl_lineCount_27 ?_
      refine Aw.istore_n (by decide) d_Mdl_lineCount_28 ?_
      refine Aw.toL (L' := [xr (some a0), xi (v1 + 0), xi v2]) rfl ?_
      refine Aw.iinc rfl d_Mdl_lineCount_29 ?_
      refine Aw.toL (L' := [xr (some a0), xi (v1 + 0), xi (v2 + 1)]) rfl ?_
      refine Aw.goto (tgt := 4) (by decide) d_Mdl_lineCount_32 ?_
      exact h
    · have h := hf c10
      refine Aw.iconst d_Mdl_lineCount_22 ?_
      refine Aw.goto (tgt := 27) (by decide) d_Mdl_lineCount_23 ?_
      refine Aw.iadd d_Mdl_lineCount_27 ?_
      refine Aw.istore_n (by decide) d_Mdl_lineCount_28 ?_
      refine Aw.toL (L' := [xr (some a0), xi (v1 + 1), xi v2]) rfl ?_
      refine Aw.iinc rfl d_Mdl_lineCount_29 ?_
      refine Aw.toL (L' := [xr (some a0), xi (v1 + 1), xi (v2 + 1)]) rfl ?_
      refine Aw.goto (tgt := 4) (by decide) d_Mdl_lineCount_32 ?_
      exact h
theorem r_Mdl_lineCount_36 {Ω : Om} {R : Room} {k n : Nat} {L : List PV} {σ : Sto} {QR : Option PV → Sto → Prop} {QX : String → Sto → Prop} {x : Int} (h : QR (some (xi x)) σ) (h1 : k ≤ R.cells) (h2 : n ≤ R.slots) : Aw Ω M_Mdl_lineCount R (MF Ω R QR QX) k n 36 L [xi x] σ := Aw.iret rfl h h1 h2 d_Mdl_lineCount_36
theorem e_Mdl_reviewState {Ω : Om} {R : Room} {QR : Option PV → Sto → Prop} {QX : String → Sto → Prop} {σ : Sto} {a0 : Nat} {v1 : Int} (h : Aw Ω M_Mdl_reviewState R (MF Ω R QR QX) 0 0 0 [xr (some a0), xi v1] [] σ) : MC Ω M_Mdl_reviewState R QR QX σ [xr (some a0), xi v1] := MC.body (by decide +kernel) rfl (Nat.le_of_ble_eq_true rfl) rfl h
theorem b_Mdl_reviewState_0 {Ω : Om} {R : Room} {F : QF} {k n : Nat} {σ : Sto} {a0 : Nat} {v1 : Int} (h : Aw Ω M_Mdl_reviewState R F k n 3 [xr (some a0), xi v1] [xi v1, xr (some a0), xr (some a0)] σ) : Aw Ω M_Mdl_reviewState R F k n 0 [xr (some a0), xi v1] [] σ := by
  refine Aw.aload_n rfl d_Mdl_reviewState_0 ?_
  refine Aw.aload_n rfl d_Mdl_reviewState_1 ?_
  refine Aw.iload_n rfl d_Mdl_reviewState_2 ?_
  exact h
theorem b_Mdl_reviewState_6 {Ω : Om} {R : Room} {F : QF} {k n : Nat} {σ : Sto} {a0 : Nat} {v1 : Int} {s0 : Nat} {s1 : Int} (h : Q32 s1 ∧ ((s1 = (0 : Int) → Aw Ω M_Mdl_reviewState R F k n 14 [xr (some a0), xi v1] [xi 1, xr (some s0)] σ) ∧ (¬ s1 = (0 : Int) → Aw Ω M_Mdl_reviewState R F k n 14 [xr (some a0), xi v1] [xi 0, xr (some s0)] σ))) : Aw Ω M_Mdl_reviewState R F k n 6 [xr (some a0), xi v1] [xi s1, xr (some s0)] σ := by
  obtain ⟨o1, h⟩ := h
  obtain ⟨ht, hf⟩ := h
  refine Aw.if_eq (tgt := 13) o1 (by decide) d_Mdl_reviewState_6 (fun c2 => ?_) (fun c2 => ?_)
  · have h := ht c2
    refine Aw.iconst d_Mdl_reviewState_13 ?_
    exact h
  · have h := hf c2
    refine Aw.iconst d_Mdl_reviewState_9 ?_
    refine Aw.goto (tgt := 14) (by decide) d_Mdl_reviewState_10 ?_
    exact h
theorem b_Mdl_reviewState_17 {Ω : Om} {R : Room} {F : QF} {k n : Nat} {σ : Sto} {a0 : Nat} {v1 : Int} {s0 : Int} (h : Q32 s0 ∧ ((s0 = (0 : Int) → Aw Ω M_Mdl_reviewState R F k n 26 [xr (some a0), xi v1] [xi v1, xr (some a0)] σ) ∧ (¬ s0 = (0 : Int) → Aw Ω M_Mdl_reviewState R F k n 29 [xr (some a0), xi v1] [xi 0] σ))) : Aw Ω M_Mdl_reviewState R F k n 17 [xr (some a0), xi v1] [xi s0] σ := by
  obtain ⟨o1, h⟩ := h
  obtain ⟨ht, hf⟩ := h
  refine Aw.if_eq (tgt := 24) o1 (by decide) d_Mdl_reviewState_17 (fun c2 => ?_) (fun c2 => ?_)
  · have h := ht c2
    refine Aw.aload_n rfl d_Mdl_reviewState_24 ?_
    refine Aw.iload_n rfl d_Mdl_reviewState_25 ?_
    exact h
  · have h := hf c2
    refine Aw.iconst d_Mdl_reviewState_20 ?_
    refine Aw.goto (tgt := 29) (by decide) d_Mdl_reviewState_21 ?_
    exact h
theorem c_Mdl_reviewState_3 {Ω : Om} {R R' : Room} {F : QF} {k n : Nat} {L st : List PV} {σ : Sto} {QX' : String → Sto → Prop} {Q : Int → Sto → Prop} {a : Nat} {x0 : Int} (hc : MC Ω M_Mdl_isReview R' (RI Q) QX' σ [xr (some a), xi x0]) (hk : sK σ a = 13) (hr1 : R'.frames + 1 ≤ R.frames) (hr2 : 8 + (2 + 11) + R'.locals ≤ R.locals) (hb1 : k + R'.cells ≤ R.cells) (hb2 : n + R'.slots ≤ R.slots) (hst : (st.map catP).sum ≤ 8) (kk : ∀ x σ', Q x σ' → Aw Ω M_Mdl_reviewState R F (k + R'.cells) (n + R'.slots) 6 L (xi x :: st) σ') (kx : ∀ E σ', QX' E σ' → Ax Ω M_Mdl_reviewState R F (k + R'.cells) (n + R'.slots) 3 L st σ' E) : Aw Ω M_Mdl_reviewState R F k n 3 L (xi x0 :: xr (some a) :: st) σ :=
  Aw.callV (As := [xi x0]) (stk := xi x0 :: xr (some a) :: st) (nn := 1) 12 M_Mdl_isReview hc ok_Mdl_isReview rfl (by decide) rfl hk ml_Mdl_351 im_Mdl_isReview se_Mdl_isReview ⟨hr1, hr2⟩ rfl ⟨hb1, hb2⟩ hst rfl d_Mdl_reviewState_3 (fun r σ' h => by obtain ⟨x, rfl, h⟩ := h; exact kk x σ' h) kx
theorem c_Mdl_reviewState_14 {Ω : Om} {R R' : Room} {F : QF} {k n : Nat} {L st : List PV} {σ : Sto} {QX' : String → Sto → Prop} {Q : Int → Sto → Prop} {a : Nat} {x0 : Int} (hc : MC Ω M_Mdl_refused R' (RI Q) QX' σ [xr (some a), xi x0]) (hk : sK σ a = 13) (hr1 : R'.frames + 1 ≤ R.frames) (hr2 : 8 + (2 + 11) + R'.locals ≤ R.locals) (hb1 : k + R'.cells ≤ R.cells) (hb2 : n + R'.slots ≤ R.slots) (hst : (st.map catP).sum ≤ 8) (kk : ∀ x σ', Q x σ' → Aw Ω M_Mdl_reviewState R F (k + R'.cells) (n + R'.slots) 17 L (xi x :: st) σ') (kx : ∀ E σ', QX' E σ' → Ax Ω M_Mdl_reviewState R F (k + R'.cells) (n + R'.slots) 14 L st σ' E) : Aw Ω M_Mdl_reviewState R F k n 14 L (xi x0 :: xr (some a) :: st) σ :=
  Aw.callV (As := [xi x0]) (stk := xi x0 :: xr (some a) :: st) (nn := 1) 12 M_Mdl_refused hc ok_Mdl_refused rfl (by decide) rfl hk ml_Mdl_151 im_Mdl_refused se_Mdl_refused ⟨hr1, hr2⟩ rfl ⟨hb1, hb2⟩ hst rfl d_Mdl_reviewState_14 (fun r σ' h => by obtain ⟨x, rfl, h⟩ := h; exact kk x σ' h) kx
theorem c_Mdl_reviewState_26 {Ω : Om} {R R' : Room} {F : QF} {k n : Nat} {L st : List PV} {σ : Sto} {QX' : String → Sto → Prop} {Q : Int → Sto → Prop} {a : Nat} {x0 : Int} (hc : MC Ω M_Mdl_stateOf R' (RI Q) QX' σ [xr (some a), xi x0]) (hk : sK σ a = 13) (hr1 : R'.frames + 1 ≤ R.frames) (hr2 : 8 + (5 + 11) + R'.locals ≤ R.locals) (hb1 : k + R'.cells ≤ R.cells) (hb2 : n + R'.slots ≤ R.slots) (hst : (st.map catP).sum ≤ 8) (kk : ∀ x σ', Q x σ' → Aw Ω M_Mdl_reviewState R F (k + R'.cells) (n + R'.slots) 29 L (xi x :: st) σ') (kx : ∀ E σ', QX' E σ' → Ax Ω M_Mdl_reviewState R F (k + R'.cells) (n + R'.slots) 26 L st σ' E) : Aw Ω M_Mdl_reviewState R F k n 26 L (xi x0 :: xr (some a) :: st) σ :=
  Aw.callV (As := [xi x0]) (stk := xi x0 :: xr (some a) :: st) (nn := 1) 12 M_Mdl_stateOf hc ok_Mdl_stateOf rfl (by decide) rfl hk ml_Mdl_354 im_Mdl_stateOf se_Mdl_stateOf ⟨hr1, hr2⟩ rfl ⟨hb1, hb2⟩ hst rfl d_Mdl_reviewState_26 (fun r σ' h => by obtain ⟨x, rfl, h⟩ := h; exact kk x σ' h) kx
theorem r_Mdl_reviewState_29 {Ω : Om} {R : Room} {k n : Nat} {L : List PV} {σ : Sto} {QR : Option PV → Sto → Prop} {QX : String → Sto → Prop} {x : Int} (h : QR (some (xi x)) σ) (h1 : k ≤ R.cells) (h2 : n ≤ R.slots) : Aw Ω M_Mdl_reviewState R (MF Ω R QR QX) k n 29 L [xi x] σ := Aw.iret rfl h h1 h2 d_Mdl_reviewState_29
theorem e_Mdl_signAt {Ω : Om} {R : Room} {QR : Option PV → Sto → Prop} {QX : String → Sto → Prop} {σ : Sto} {v0 : Int64} {v2 : Int} (h : Aw Ω M_Mdl_signAt R (MF Ω R QR QX) 0 0 0 [xl v0, xu, xi v2] [] σ) : MC Ω M_Mdl_signAt R QR QX σ [xl v0, xi v2] := MC.body (by decide +kernel) rfl (Nat.le_of_ble_eq_true rfl) rfl h
theorem b_Mdl_signAt_0 {Ω : Om} {R : Room} {F : QF} {k n : Nat} {σ : Sto} {v0 : Int64} {v2 : Int} (h : Q32 v2 ∧ ((v2 ≤ (7 : Int) → Aw Ω M_Mdl_signAt R F k n 21 [xl v0, xu, xi v2] [xi (iOf ((lUsh v0 (8 * v2)) &&& 255))] σ) ∧ (¬ v2 ≤ (7 : Int) → Aw Ω M_Mdl_signAt R F k n 21 [xl v0, xu, xi v2] [xi 0] σ))) : Aw Ω M_Mdl_signAt R F k n 0 [xl v0, xu, xi v2] [] σ := by
  refine Aw.iload_n rfl d_Mdl_signAt_0 ?_
  refine Aw.bipush (by decide) d_Mdl_signAt_1 ?_
  obtain ⟨o1, h⟩ := h
  obtain ⟨ht, hf⟩ := h
  refine Aw.icmp_le (tgt := 10) o1 ⟨by decide, by decide⟩ (by decide) d_Mdl_signAt_3 (fun c2 => ?_) (fun c2 => ?_)
  · have h := ht c2
    refine Aw.lload_n rfl d_Mdl_signAt_10 ?_
    refine Aw.bipush (by decide) d_Mdl_signAt_11 ?_
    refine Aw.iload_n rfl d_Mdl_signAt_13 ?_
    refine Aw.imul d_Mdl_signAt_14 ?_
    refine Aw.lushr d_Mdl_signAt_15 ?_
    refine Aw.ldc2 (v := 255) lg_Mdl_134 d_Mdl_signAt_16 ?_
    refine Aw.land d_Mdl_signAt_19 ?_
    refine Aw.l2i d_Mdl_signAt_20 ?_
    exact h
  · have h := hf c2
    refine Aw.iconst d_Mdl_signAt_6 ?_
    refine Aw.goto (tgt := 21) (by decide) d_Mdl_signAt_7 ?_
    exact h
theorem r_Mdl_signAt_21 {Ω : Om} {R : Room} {k n : Nat} {L : List PV} {σ : Sto} {QR : Option PV → Sto → Prop} {QX : String → Sto → Prop} {x : Int} (h : QR (some (xi x)) σ) (h1 : k ≤ R.cells) (h2 : n ≤ R.slots) : Aw Ω M_Mdl_signAt R (MF Ω R QR QX) k n 21 L [xi x] σ := Aw.iret rfl h h1 h2 d_Mdl_signAt_21
theorem e_Mdl_in {Ω : Om} {R : Room} {QR : Option PV → Sto → Prop} {QX : String → Sto → Prop} {σ : Sto} {v0 : Int} {v1 : Int} {v2 : Int} (h : Aw Ω M_Mdl_in R (MF Ω R QR QX) 0 0 0 [xi v0, xi v1, xi v2] [] σ) : MC Ω M_Mdl_in R QR QX σ [xi v0, xi v1, xi v2] := MC.body (by decide +kernel) rfl (Nat.le_of_ble_eq_true rfl) rfl h
theorem b_Mdl_in_0 {Ω : Om} {R : Room} {F : QF} {k n : Nat} {σ : Sto} {v0 : Int} {v1 : Int} {v2 : Int} (h : Q32 v0 ∧ Q32 v1 ∧ ((v0 < v1 → Aw Ω M_Mdl_in R F k n 15 [xi v0, xi v1, xi v2] [xi 0] σ) ∧ (¬ v0 < v1 → Q32 v2 ∧ ((v2 < v0 → Aw Ω M_Mdl_in R F k n 15 [xi v0, xi v1, xi v2] [xi 0] σ) ∧ (¬ v2 < v0 → Aw Ω M_Mdl_in R F k n 15 [xi v0, xi v1, xi v2] [xi 1] σ))))) : Aw Ω M_Mdl_in R F k n 0 [xi v0, xi v1, xi v2] [] σ := by
  refine Aw.iload_n rfl d_Mdl_in_0 ?_
  refine Aw.iload_n rfl d_Mdl_in_1 ?_
  obtain ⟨o1, h⟩ := h
  obtain ⟨o2, h⟩ := h
  obtain ⟨ht, hf⟩ := h
  refine Aw.icmp_lt (tgt := 14) o1 o2 (by decide) d_Mdl_in_2 (fun c5 => ?_) (fun c5 => ?_)
  · have h := ht c5
    refine Aw.iconst d_Mdl_in_14 ?_
    exact h
  · have h := hf c5
    refine Aw.iload_n rfl d_Mdl_in_5 ?_
    refine Aw.iload_n rfl d_Mdl_in_6 ?_
    obtain ⟨o3, h⟩ := h
    obtain ⟨ht, hf⟩ := h
    refine Aw.icmp_gt (tgt := 14) o1 o3 (by decide) d_Mdl_in_7 (fun c4 => ?_) (fun c4 => ?_)
    · have h := ht c4
      refine Aw.iconst d_Mdl_in_14 ?_
      exact h
    · have h := hf c4
      refine Aw.iconst d_Mdl_in_10 ?_
      refine Aw.goto (tgt := 15) (by decide) d_Mdl_in_11 ?_
      exact h
theorem r_Mdl_in_15 {Ω : Om} {R : Room} {k n : Nat} {L : List PV} {σ : Sto} {QR : Option PV → Sto → Prop} {QX : String → Sto → Prop} {x : Int} (hx : x = 0 ∨ x = 1) (h : QR (some (xi x)) σ) (h1 : k ≤ R.cells) (h2 : n ≤ R.slots) : Aw Ω M_Mdl_in R (MF Ω R QR QX) k n 15 L [xi x] σ := Aw.zret rfl hx h h1 h2 d_Mdl_in_15
theorem e_Mdl_isVersion {Ω : Om} {R : Room} {QR : Option PV → Sto → Prop} {QX : String → Sto → Prop} {σ : Sto} {a0 : Nat} {v1 : Int} (h : Aw Ω M_Mdl_isVersion R (MF Ω R QR QX) 0 0 0 [xr (some a0), xi v1] [] σ) : MC Ω M_Mdl_isVersion R QR QX σ [xr (some a0), xi v1] := MC.body (by decide +kernel) rfl (Nat.le_of_ble_eq_true rfl) rfl h
theorem b_Mdl_isVersion_0 {Ω : Om} {R : Room} {F : QF} {k n : Nat} {σ : Sto} {a0 : Nat} {v1 : Int} (h : sK σ a0 = 13 ∧ (Q32 (fI σ 773 a0) → Aw Ω M_Mdl_isVersion R F k n 8 [xr (some a0), xi v1] [xi ((fI σ 773 a0) - 1), xi 0, xi v1] σ)) : Aw Ω M_Mdl_isVersion R F k n 0 [xr (some a0), xi v1] [] σ := by
  refine Aw.iload_n rfl d_Mdl_isVersion_0 ?_
  refine Aw.iconst d_Mdl_isVersion_1 ?_
  refine Aw.aload_n rfl d_Mdl_isVersion_2 ?_
  obtain ⟨o1, h⟩ := h
  refine Aw.getI (f := 773) 12 5 fl_Mdl_123 (by decide) (by decide) rfl rfl o1 d_Mdl_isVersion_3 (fun r2 => ?_)
  have h := h r2
  refine Aw.iconst d_Mdl_isVersion_6 ?_
  refine Aw.isub d_Mdl_isVersion_7 ?_
  exact h
theorem c_Mdl_isVersion_8 {Ω : Om} {R R' : Room} {F : QF} {k n : Nat} {L st : List PV} {σ : Sto} {QX' : String → Sto → Prop} {Q : Int → Sto → Prop} {x0 : Int} {x1 : Int} {x2 : Int} (hc : MC Ω M_Mdl_in R' (RI Q) QX' σ [xi x0, xi x1, xi x2]) (hr1 : R'.frames + 1 ≤ R.frames) (hr2 : 8 + (3 + 11) + R'.locals ≤ R.locals) (hb1 : k + R'.cells ≤ R.cells) (hb2 : n + R'.slots ≤ R.slots) (hst : (st.map catP).sum ≤ 8) (kk : ∀ x σ', Q x σ' → Aw Ω M_Mdl_isVersion R F (k + R'.cells) (n + R'.slots) 11 L (xi x :: st) σ') (kx : ∀ E σ', QX' E σ' → Ax Ω M_Mdl_isVersion R F (k + R'.cells) (n + R'.slots) 8 L st σ' E) : Aw Ω M_Mdl_isVersion R F k n 8 L (xi x2 :: xi x1 :: xi x0 :: st) σ :=
  Aw.callS (As := [xi x0, xi x1, xi x2]) (stk := xi x2 :: xi x1 :: xi x0 :: st) (nn := 3) M_Mdl_in hc ok_Mdl_in rfl ml_Mdl_130 sta_Mdl_in ⟨hr1, hr2⟩ rfl ⟨hb1, hb2⟩ hst rfl d_Mdl_isVersion_8 (fun r σ' h => by obtain ⟨x, rfl, h⟩ := h; exact kk x σ' h) kx
theorem r_Mdl_isVersion_11 {Ω : Om} {R : Room} {k n : Nat} {L : List PV} {σ : Sto} {QR : Option PV → Sto → Prop} {QX : String → Sto → Prop} {x : Int} (hx : x = 0 ∨ x = 1) (h : QR (some (xi x)) σ) (h1 : k ≤ R.cells) (h2 : n ≤ R.slots) : Aw Ω M_Mdl_isVersion R (MF Ω R QR QX) k n 11 L [xi x] σ := Aw.zret rfl hx h h1 h2 d_Mdl_isVersion_11
