/-! walks of DiffWeaver$LineBook, DiffWeaver$Conflict, DiffWeaver$Review (by program) -/
theorem e_Cnf_init {Ω : Om} {R : Room} {QR : Option PV → Sto → Prop} {QX : String → Sto → Prop} {σ : Sto} {a0 : Nat} (h : Aw Ω M_Cnf_init R (MF Ω R QR QX) 0 0 0 [xr (some a0)] [] σ) : MC Ω M_Cnf_init R QR QX σ [xr (some a0)] := MC.body (by decide +kernel) rfl (Nat.le_of_ble_eq_true rfl) rfl h
theorem b_Cnf_init_0 {Ω : Om} {R : Room} {F : QF} {k n : Nat} {σ : Sto} {a0 : Nat} (h : 1 ≤ R.frames ∧ ([].map catP).sum + 12 ≤ R.locals ∧ k + 1 ≤ R.cells ∧ n + 3 ≤ R.slots ∧ (∀ σ7 : Sto, σ7 = (nO σ 50 3) → sK σ7 a0 = 3 ∧ k + 1 + 1 ≤ R.cells ∧ n + 3 + 3 ≤ R.slots ∧ (∀ σ13 : Sto, σ13 = (nO (uR σ7 128 a0 (some (sN σ))) 50 3) → sK σ13 a0 = 3 ∧ Aw Ω M_Cnf_init R F (k + 1 + 1) (n + 3 + 3) 28 [xr (some a0)] [] (uI (uI (uR σ13 129 a0 (some (sN σ7))) 130 a0 0) 131 a0 0)))) : Aw Ω M_Cnf_init R F k n 0 [xr (some a0)] [] σ := by
  refine Aw.aload_n rfl d_Cnf_init_0 ?_
  obtain ⟨o1, o2, h⟩ := h
  refine Aw.objInit ml_Cnf_3 oi_1 oi_2 o1 o2 d_Cnf_init_1 ?_
  refine Aw.aload_n rfl d_Cnf_init_4 ?_
  refine Aw.iconst d_Cnf_init_5 ?_
  obtain ⟨o5, o6, h⟩ := h
  refine Aw.newarr 0 (by decide) rfl arc_0 (by decide) (by decide) o5 o6 d_Cnf_init_6 ?_
  obtain ⟨σ7, hσ7⟩ : ∃ z, z = (nO σ 50 3) := ⟨_, rfl⟩
  refine Aw.toS (σ' := σ7) hσ7 ?_
  have h := h σ7 hσ7
  obtain ⟨o8, h⟩ := h
  refine Aw.putRF (f := 128) 2 0 fm_Cnf_9 (by decide) (by decide) rfl rfl o8 rfl rfl rfl rfl d_Cnf_init_8 ?_
  refine Aw.aload_n rfl d_Cnf_init_11 ?_
  refine Aw.iconst d_Cnf_init_12 ?_
  obtain ⟨o11, o12, h⟩ := h
  refine Aw.newarr 0 (by decide) rfl arc_0 (by decide) (by decide) o11 o12 d_Cnf_init_13 ?_
  obtain ⟨σ13, hσ13⟩ : ∃ z, z = (nO (uR σ7 128 a0 (some (sN σ))) 50 3) := ⟨_, rfl⟩
  refine Aw.toS (σ' := σ13) hσ13 ?_
  have h := h σ13 hσ13
  obtain ⟨o14, h⟩ := h
  refine Aw.putRF (f := 129) 2 1 fm_Cnf_15 (by decide) (by decide) rfl rfl o14 rfl rfl rfl rfl d_Cnf_init_15 ?_
  refine Aw.aload_n rfl d_Cnf_init_18 ?_
  refine Aw.iconst d_Cnf_init_19 ?_
  refine Aw.putI (f := 130) 2 2 fl_Cnf_18 (by decide) (by decide) rfl rfl o14 rfl ⟨by decide, by decide⟩ (Or.inl rfl) d_Cnf_init_20 ?_
  refine Aw.aload_n rfl d_Cnf_init_23 ?_
  refine Aw.iconst d_Cnf_init_24 ?_
  refine Aw.putI (f := 131) 2 3 fl_Cnf_22 (by decide) (by decide) rfl rfl o14 rfl ⟨by decide, by decide⟩ (Or.inr ⟨rfl, by decide⟩) d_Cnf_init_25 ?_
  exact h
theorem r_Cnf_init_28 {Ω : Om} {R : Room} {k n : Nat} {L : List PV} {σ : Sto} {QR : Option PV → Sto → Prop} {QX : String → Sto → Prop} (h : QR none σ) (h1 : k ≤ R.cells) (h2 : n ≤ R.slots) : Aw Ω M_Cnf_init R (MF Ω R QR QX) k n 28 L [] σ := Aw.vret rfl h h1 h2 d_Cnf_init_28
theorem e_Cnf_pieceSize {Ω : Om} {R : Room} {QR : Option PV → Sto → Prop} {QX : String → Sto → Prop} {σ : Sto} {a0 : Nat} {v1 : Int} (h : Aw Ω M_Cnf_pieceSize R (MF Ω R QR QX) 0 0 0 [xr (some a0), xi v1] [] σ) : MC Ω M_Cnf_pieceSize R QR QX σ [xr (some a0), xi v1] := MC.body (by decide +kernel) rfl (Nat.le_of_ble_eq_true rfl) rfl h
theorem b_Cnf_pieceSize_0 {Ω : Om} {R : Room} {F : QF} {k n : Nat} {σ : Sto} {a0 : Nat} {v1 : Int} (h : Q32 v1 ∧ ((v1 < (0 : Int) → Aw Ω M_Cnf_pieceSize R F k n 26 [xr (some a0), xi v1] [xi 0] σ) ∧ (¬ v1 < (0 : Int) → ((v1 ≤ (2 : Int) → sK σ a0 = 3 ∧ (∃ b3 : Nat, fR σ 129 a0 = some b3 ∧ sK σ b3 = 50 ∧ 0 ≤ v1 ∧ v1 < sZ σ b3 ∧ (Q32 (aI σ b3 (v1).toNat) → (∃ b9 : Nat, fR σ 128 a0 = some b9 ∧ sK σ b9 = 50 ∧ 0 ≤ v1 ∧ v1 < sZ σ b9 ∧ (Q32 (aI σ b9 (v1).toNat) → Aw Ω M_Cnf_pieceSize R F k n 26 [xr (some a0), xi v1] [xi ((aI σ b3 (v1).toNat) - (aI σ b9 (v1).toNat))] σ))))) ∧ (¬ v1 ≤ (2 : Int) → Aw Ω M_Cnf_pieceSize R F k n 26 [xr (some a0), xi v1] [xi 0] σ))))) : Aw Ω M_Cnf_pieceSize R F k n 0 [xr (some a0), xi v1] [] σ := by
  refine Aw.iload_n rfl d_Cnf_pieceSize_0 ?_
  obtain ⟨o1, h⟩ := h
  obtain ⟨ht, hf⟩ := h
  refine Aw.if_lt (tgt := 9) o1 (by decide) d_Cnf_pieceSize_1 (fun c16 => ?_) (fun c16 => ?_)
  · have h := ht c16
    refine Aw.iconst d_Cnf_pieceSize_9 ?_
    refine Aw.goto (tgt := 26) (by decide) d_Cnf_pieceSize_10 ?_
    exact h
  · have h := hf c16
    refine Aw.iload_n rfl d_Cnf_pieceSize_4 ?_
    refine Aw.iconst d_Cnf_pieceSize_5 ?_
    obtain ⟨ht, hf⟩ := h
    refine Aw.icmp_le (tgt := 13) o1 ⟨by decide, by decide⟩ (by decide) d_Cnf_pieceSize_6 (fun c15 => ?_) (fun c15 => ?_)
    · have h := ht c15
      refine Aw.aload_n rfl d_Cnf_pieceSize_13 ?_
      obtain ⟨o2, h⟩ := h
      obtain ⟨b3, e4, h⟩ := h
      refine Aw.getRs (f := 129) 2 1 fl_Cnf_15 (by decide) (by decide) rfl rfl o2 e4 d_Cnf_pieceSize_14 ?_
      refine Aw.iload_n rfl d_Cnf_pieceSize_17 ?_
      obtain ⟨o5, h⟩ := h
      obtain ⟨o6, o7, h⟩ := h
      refine Aw.iald o5 o6 o7 d_Cnf_pieceSize_18 (fun r8 => ?_)
      have h := h r8
      refine Aw.aload_n rfl d_Cnf_pieceSize_19 ?_
      obtain ⟨b9, e10, h⟩ := h
      refine Aw.getRs (f := 128) 2 0 fl_Cnf_9 (by decide) (by decide) rfl rfl o2 e10 d_Cnf_pieceSize_20 ?_
      refine Aw.iload_n rfl d_Cnf_pieceSize_23 ?_
      obtain ⟨o11, h⟩ := h
      obtain ⟨o12, o13, h⟩ := h
      refine Aw.iald o11 o12 o13 d_Cnf_pieceSize_24 (fun r14 => ?_)
      have h := h r14
      refine Aw.isub d_Cnf_pieceSize_25 ?_
      exact h
    · have h := hf c15
      refine Aw.iconst d_Cnf_pieceSize_9 ?_
      refine Aw.goto (tgt := 26) (by decide) d_Cnf_pieceSize_10 ?_
      exact h
theorem r_Cnf_pieceSize_26 {Ω : Om} {R : Room} {k n : Nat} {L : List PV} {σ : Sto} {QR : Option PV → Sto → Prop} {QX : String → Sto → Prop} {x : Int} (h : QR (some (xi x)) σ) (h1 : k ≤ R.cells) (h2 : n ≤ R.slots) : Aw Ω M_Cnf_pieceSize R (MF Ω R QR QX) k n 26 L [xi x] σ := Aw.iret rfl h h1 h2 d_Cnf_pieceSize_26
theorem e_Lbk_authorOf {Ω : Om} {R : Room} {QR : Option PV → Sto → Prop} {QX : String → Sto → Prop} {σ : Sto} {a0 : Nat} {v1 : Int} (h : Aw Ω M_Lbk_authorOf R (MF Ω R QR QX) 0 0 0 [xr (some a0), xi v1] [] σ) : MC Ω M_Lbk_authorOf R QR QX σ [xr (some a0), xi v1] := MC.body (by decide +kernel) rfl (Nat.le_of_ble_eq_true rfl) rfl h
theorem b_Lbk_authorOf_0 {Ω : Om} {R : Room} {F : QF} {k n : Nat} {σ : Sto} {a0 : Nat} {v1 : Int} (h : Q32 v1 ∧ ((v1 < (0 : Int) → Aw Ω M_Lbk_authorOf R F k n 22 [xr (some a0), xi v1] [xi (-1)] σ) ∧ (¬ v1 < (0 : Int) → sK σ a0 = 7 ∧ (Q32 (fI σ 386 a0) → ((v1 < (fI σ 386 a0) → (∃ b4 : Nat, fR σ 384 a0 = some b4 ∧ sK σ b4 = 50 ∧ 0 ≤ v1 ∧ v1 < sZ σ b4 ∧ (Q32 (aI σ b4 (v1).toNat) → Aw Ω M_Lbk_authorOf R F k n 22 [xr (some a0), xi v1] [xi (aI σ b4 (v1).toNat)] σ))) ∧ (¬ v1 < (fI σ 386 a0) → Aw Ω M_Lbk_authorOf R F k n 22 [xr (some a0), xi v1] [xi (-1)] σ)))))) : Aw Ω M_Lbk_authorOf R F k n 0 [xr (some a0), xi v1] [] σ := by
  refine Aw.iload_n rfl d_Lbk_authorOf_0 ?_
  obtain ⟨o1, h⟩ := h
  obtain ⟨ht, hf⟩ := h
  refine Aw.if_lt (tgt := 12) o1 (by decide) d_Lbk_authorOf_1 (fun c11 => ?_) (fun c11 => ?_)
  · have h := ht c11
    refine Aw.iconst d_Lbk_authorOf_12 ?_
    refine Aw.goto (tgt := 22) (by decide) d_Lbk_authorOf_13 ?_
    exact h
  · have h := hf c11
    refine Aw.iload_n rfl d_Lbk_authorOf_4 ?_
    refine Aw.aload_n rfl d_Lbk_authorOf_5 ?_
    obtain ⟨o2, h⟩ := h
    refine Aw.getI (f := 386) 6 2 fl_Lbk_18 (by decide) (by decide) rfl rfl o2 d_Lbk_authorOf_6 (fun r3 => ?_)
    have h := h r3
    obtain ⟨ht, hf⟩ := h
    refine Aw.icmp_lt (tgt := 16) o1 r3 (by decide) d_Lbk_authorOf_9 (fun c10 => ?_) (fun c10 => ?_)
    · have h := ht c10
      refine Aw.aload_n rfl d_Lbk_authorOf_16 ?_
      obtain ⟨b4, e5, h⟩ := h
      refine Aw.getRs (f := 384) 6 0 fl_Lbk_9 (by decide) (by decide) rfl rfl o2 e5 d_Lbk_authorOf_17 ?_
      refine Aw.iload_n rfl d_Lbk_authorOf_20 ?_
      obtain ⟨o6, h⟩ := h
      obtain ⟨o7, o8, h⟩ := h
      refine Aw.iald o6 o7 o8 d_Lbk_authorOf_21 (fun r9 => ?_)
      have h := h r9
      exact h
    · have h := hf c10
      refine Aw.iconst d_Lbk_authorOf_12 ?_
      refine Aw.goto (tgt := 22) (by decide) d_Lbk_authorOf_13 ?_
      exact h
theorem r_Lbk_authorOf_22 {Ω : Om} {R : Room} {k n : Nat} {L : List PV} {σ : Sto} {QR : Option PV → Sto → Prop} {QX : String → Sto → Prop} {x : Int} (h : QR (some (xi x)) σ) (h1 : k ≤ R.cells) (h2 : n ≤ R.slots) : Aw Ω M_Lbk_authorOf R (MF Ω R QR QX) k n 22 L [xi x] σ := Aw.iret rfl h h1 h2 d_Lbk_authorOf_22
theorem e_Lbk_commonSigns {Ω : Om} {R : Room} {QR : Option PV → Sto → Prop} {QX : String → Sto → Prop} {σ : Sto} {v0 : Int64} {v2 : Int64} (h : Aw Ω M_Lbk_commonSigns R (MF Ω R QR QX) 0 0 0 [xl v0, xu, xl v2, xu, xu, xu, xu, xu, xu, xu, xu, xu] [] σ) : MC Ω M_Lbk_commonSigns R QR QX σ [xl v0, xl v2] := MC.body (by decide +kernel) rfl (Nat.le_of_ble_eq_true rfl) rfl h
theorem b_Lbk_commonSigns_0 {Ω : Om} {R : Room} {F : QF} {k n : Nat} {σ : Sto} {v0 : Int64} {v2 : Int64} (h : Aw Ω M_Lbk_commonSigns R F k n 1 [xl v0, xu, xl v2, xu, xu, xu, xu, xu, xu, xu, xu, xu] [xl v0] σ) : Aw Ω M_Lbk_commonSigns R F k n 0 [xl v0, xu, xl v2, xu, xu, xu, xu, xu, xu, xu, xu, xu] [] σ := by
  refine Aw.lload_n rfl d_Lbk_commonSigns_0 ?_
  exact h
theorem b_Lbk_commonSigns_4 {Ω : Om} {R : Room} {F : QF} {k n : Nat} {σ : Sto} {v0 : Int64} {v2 : Int64} {s0 : Int} (h : Aw Ω M_Lbk_commonSigns R F k n 7 [xl v0, xu, xl v2, xu, xi s0, xu, xu, xu, xu, xu, xu, xu] [xl v2] σ) : Aw Ω M_Lbk_commonSigns R F k n 4 [xl v0, xu, xl v2, xu, xu, xu, xu, xu, xu, xu, xu, xu] [xi s0] σ := by
  refine Aw.istore (by decide) d_Lbk_commonSigns_4 ?_
  refine Aw.toL (L' := [xl v0, xu, xl v2, xu, xi s0, xu, xu, xu, xu, xu, xu, xu]) rfl ?_
  refine Aw.lload_n rfl d_Lbk_commonSigns_6 ?_
  exact h
theorem b_Lbk_commonSigns_10 {Ω : Om} {R : Room} {F : QF} {k n : Nat} {σ : Sto} {v0 : Int64} {v2 : Int64} {v4 : Int} {s0 : Int} (h : k + 1 ≤ R.cells ∧ n + 9 ≤ R.slots ∧ (∀ σ5 : Sto, σ5 = (nO σ 50 9) → Aw Ω M_Lbk_commonSigns R F (k + 1) (n + 9) 21 [xl v0, xu, xl v2, xu, xi v4, xi s0, xr (some (sN σ)), xi 0, xu, xu, xu, xu] [] σ5)) : Aw Ω M_Lbk_commonSigns R F k n 10 [xl v0, xu, xl v2, xu, xi v4, xu, xu, xu, xu, xu, xu, xu] [xi s0] σ := by
  refine Aw.istore (by decide) d_Lbk_commonSigns_10 ?_
  refine Aw.toL (L' := [xl v0, xu, xl v2, xu, xi v4, xi s0, xu, xu, xu, xu, xu, xu]) rfl ?_
  refine Aw.bipush (by decide) d_Lbk_commonSigns_12 ?_
  obtain ⟨o3, o4, h⟩ := h
  refine Aw.newarr 0 (by decide) rfl arc_0 (by decide) (by decide) o3 o4 d_Lbk_commonSigns_14 ?_
  obtain ⟨σ5, hσ5⟩ : ∃ z, z = (nO σ 50 9) := ⟨_, rfl⟩
  refine Aw.toS (σ' := σ5) hσ5 ?_
  have h := h σ5 hσ5
  refine Aw.astore (by decide) d_Lbk_commonSigns_16 ?_
  refine Aw.toL (L' := [xl v0, xu, xl v2, xu, xi v4, xi s0, xr (some (sN σ)), xu, xu, xu, xu, xu]) rfl ?_
  refine Aw.iconst d_Lbk_commonSigns_18 ?_
  refine Aw.istore (by decide) d_Lbk_commonSigns_19 ?_
  refine Aw.toL (L' := [xl v0, xu, xl v2, xu, xi v4, xi s0, xr (some (sN σ)), xi 0, xu, xu, xu, xu]) rfl ?_
  exact h
theorem b_Lbk_commonSigns_21 {Ω : Om} {R : Room} {F : QF} {k n : Nat} {σ : Sto} {v0 : Int64} {v2 : Int64} {v4 : Int} {v5 : Int} {a6 : Nat} {v7 : Int} (h : Q32 v7 ∧ Q32 v4 ∧ ((v4 ≤ v7 → sK σ a6 = 50 ∧ 0 ≤ v5 ∧ v5 < sZ σ a6 ∧ (Q32 (aI σ a6 (v5).toNat) → Aw Ω M_Lbk_commonSigns R F k n 122 [xl v0, xu, xl v2, xu, xi v4, xi v5, xr (some a6), xi v7, xu, xu, xu, xu] [xi (aI σ a6 (v5).toNat)] σ)) ∧ (¬ v4 ≤ v7 → Aw Ω M_Lbk_commonSigns R F k n 34 [xl v0, xu, xl v2, xu, xi v4, xi v5, xr (some a6), xi v7, xi 0, xi 1, xu, xu] [] σ))) : Aw Ω M_Lbk_commonSigns R F k n 21 [xl v0, xu, xl v2, xu, xi v4, xi v5, xr (some a6), xi v7, xu, xu, xu, xu] [] σ := by
  refine Aw.iload rfl d_Lbk_commonSigns_21 ?_
  refine Aw.iload rfl d_Lbk_commonSigns_23 ?_
  obtain ⟨o1, h⟩ := h
  obtain ⟨o2, h⟩ := h
  obtain ⟨ht, hf⟩ := h
  refine Aw.icmp_ge (tgt := 117) o1 o2 (by decide) d_Lbk_commonSigns_25 (fun c7 => ?_) (fun c7 => ?_)
  · have h := ht c7
    refine Aw.aload rfl d_Lbk_commonSigns_117 ?_
    refine Aw.iload rfl d_Lbk_commonSigns_119 ?_
    obtain ⟨o3, h⟩ := h
    obtain ⟨o4, o5, h⟩ := h
    refine Aw.iald o3 o4 o5 d_Lbk_commonSigns_121 (fun r6 => ?_)
    have h := h r6
    exact h
  · have h := hf c7
    refine Aw.iconst d_Lbk_commonSigns_28 ?_
    refine Aw.istore (by decide) d_Lbk_commonSigns_29 ?_
    refine Aw.toL (L' := [xl v0, xu, xl v2, xu, xi v4, xi v5, xr (some a6), xi v7, xi 0, xu, xu, xu]) rfl ?_
    refine Aw.iconst d_Lbk_commonSigns_31 ?_
    refine Aw.istore (by decide) d_Lbk_commonSigns_32 ?_
    refine Aw.toL (L' := [xl v0, xu, xl v2, xu, xi v4, xi v5, xr (some a6), xi v7, xi 0, xi 1, xu, xu]) rfl ?_
    exact h
theorem b_Lbk_commonSigns_34 {Ω : Om} {R : Room} {F : QF} {k n : Nat} {σ : Sto} {v0 : Int64} {v2 : Int64} {v4 : Int} {v5 : Int} {a6 : Nat} {v7 : Int} {v8 : Int} {v9 : Int} (h : Q32 v9 ∧ Q32 v5 ∧ ((v5 < v9 → Aw Ω M_Lbk_commonSigns R F k n 21 [xl v0, xu, xl v2, xu, xi v4, xi v5, xr (some a6), xi (v7 + 1), xu, xu, xu, xu] [] σ) ∧ (¬ v5 < v9 → sK σ a6 = 50 ∧ 0 ≤ v9 ∧ v9 < sZ σ a6 ∧ (Q32 (aI σ a6 (v9).toNat) → Aw Ω M_Lbk_commonSigns R F k n 51 [xl v0, xu, xl v2, xu, xi v4, xi v5, xr (some a6), xi v7, xi v8, xi v9, xi (aI σ a6 (v9).toNat), xu] [xi v7, xl v0] σ)))) : Aw Ω M_Lbk_commonSigns R F k n 34 [xl v0, xu, xl v2, xu, xi v4, xi v5, xr (some a6), xi v7, xi v8, xi v9, xu, xu] [] σ := by
  refine Aw.iload rfl d_Lbk_commonSigns_34 ?_
  refine Aw.iload rfl d_Lbk_commonSigns_36 ?_
  obtain ⟨o1, h⟩ := h
  obtain ⟨o2, h⟩ := h
  obtain ⟨ht, hf⟩ := h
  refine Aw.icmp_gt (tgt := 111) o1 o2 (by decide) d_Lbk_commonSigns_38 (fun c7 => ?_) (fun c7 => ?_)
  · have h := ht c7
    refine Aw.iinc rfl d_Lbk_commonSigns_111 ?_
    refine Aw.toL (L' := [xl v0, xu, xl v2, xu, xi v4, xi v5, xr (some a6), xi (v7 + 1), xi v8, xi v9, xu, xu]) rfl ?_
    refine Aw.goto (tgt := 21) (by decide) d_Lbk_commonSigns_114 ?_
    exact Aw.toW (L' := [xl v0, xu, xl v2, xu, xi v4, xi v5, xr (some a6), xi (v7 + 1), xu, xu, xu, xu]) ⟨Or.inr rfl, Or.inr rfl, Or.inr rfl, Or.inr rfl, Or.inr rfl, Or.inr rfl, Or.inr rfl, Or.inr rfl, Or.inl rfl, Or.inl rfl, Or.inr rfl, Or.inr rfl, trivial⟩ h
  · have h := hf c7
    refine Aw.aload rfl d_Lbk_commonSigns_41 ?_
    refine Aw.iload rfl d_Lbk_commonSigns_43 ?_
    obtain ⟨o3, h⟩ := h
    obtain ⟨o4, o5, h⟩ := h
    refine Aw.iald o3 o4 o5 d_Lbk_commonSigns_45 (fun r6 => ?_)
    have h := h r6
    refine Aw.istore (by decide) d_Lbk_commonSigns_46 ?_
    refine Aw.toL (L' := [xl v0, xu, xl v2, xu, xi v4, xi v5, xr (some a6), xi v7, xi v8, xi v9, xi (aI σ a6 (v9).toNat), xu]) rfl ?_
    refine Aw.lload_n rfl d_Lbk_commonSigns_48 ?_
    refine Aw.iload rfl d_Lbk_commonSigns_49 ?_
    exact h
theorem b_Lbk_commonSigns_54 {Ω : Om} {R : Room} {F : QF} {k n : Nat} {σ : Sto} {v0 : Int64} {v2 : Int64} {v4 : Int} {v5 : Int} {a6 : Nat} {v7 : Int} {v8 : Int} {v9 : Int} {v10 : Int} {s0 : Int} (h : Aw Ω M_Lbk_commonSigns R F k n 59 [xl v0, xu, xl v2, xu, xi v4, xi v5, xr (some a6), xi v7, xi v8, xi v9, xi v10, xu] [xi (v9 - 1), xl v2, xi s0] σ) : Aw Ω M_Lbk_commonSigns R F k n 54 [xl v0, xu, xl v2, xu, xi v4, xi v5, xr (some a6), xi v7, xi v8, xi v9, xi v10, xu] [xi s0] σ := by
  refine Aw.lload_n rfl d_Lbk_commonSigns_54 ?_
  refine Aw.iload rfl d_Lbk_commonSigns_55 ?_
  refine Aw.iconst d_Lbk_commonSigns_57 ?_
  refine Aw.isub d_Lbk_commonSigns_58 ?_
  exact h
theorem b_Lbk_commonSigns_62 {Ω : Om} {R : Room} {F : QF} {k n : Nat} {σ : Sto} {v0 : Int64} {v2 : Int64} {v4 : Int} {v5 : Int} {a6 : Nat} {v7 : Int} {v8 : Int} {v9 : Int} {v10 : Int} {s0 : Int} {s1 : Int} (h : Q32 s0 ∧ Q32 s1 ∧ ((¬ s0 = s1 → sK σ a6 = 50 ∧ 0 ≤ (v9 - 1) ∧ (v9 - 1) < sZ σ a6 ∧ (Q32 (aI σ a6 (v9 - 1).toNat) → Q32 v10 ∧ Q32 (aI σ a6 (v9 - 1).toNat) ∧ 1 ≤ R.frames ∧ ([xi v9, xr (some a6)].map catP).sum + 13 ≤ R.locals ∧ k ≤ R.cells ∧ n ≤ R.slots ∧ 0 ≤ v9 ∧ v9 < sZ σ a6 ∧ Q32 (maxI v10 (aI σ a6 (v9 - 1).toNat)) ∧ Aw Ω M_Lbk_commonSigns R F k n 34 [xl v0, xu, xl v2, xu, xi v4, xi v5, xr (some a6), xi v7, xi v10, xi (v9 + 1), xu, xu] [] (vI σ a6 (v9).toNat (maxI v10 (aI σ a6 (v9 - 1).toNat))))) ∧ (s0 = s1 → sK σ a6 = 50 ∧ 0 ≤ v9 ∧ v9 < sZ σ a6 ∧ Q32 (v8 + 1) ∧ Aw Ω M_Lbk_commonSigns R F k n 34 [xl v0, xu, xl v2, xu, xi v4, xi v5, xr (some a6), xi v7, xi v10, xi (v9 + 1), xu, xu] [] (vI σ a6 (v9).toNat (v8 + 1))))) : Aw Ω M_Lbk_commonSigns R F k n 62 [xl v0, xu, xl v2, xu, xi v4, xi v5, xr (some a6), xi v7, xi v8, xi v9, xi v10, xu] [xi s1, xi s0] σ := by
  obtain ⟨o1, h⟩ := h
  obtain ⟨o2, h⟩ := h
  obtain ⟨ht, hf⟩ := h
  refine Aw.icmp_ne (tgt := 69) o1 o2 (by decide) d_Lbk_commonSigns_62 (fun c22 => ?_) (fun c22 => ?_)
  · have h := ht c22
    refine Aw.iconst d_Lbk_commonSigns_69 ?_
    refine Aw.istore (by decide) d_Lbk_commonSigns_70 ?_
    refine Aw.toL (L' := [xl v0, xu, xl v2, xu, xi v4, xi v5, xr (some a6), xi v7, xi v8, xi v9, xi v10, xi 0]) rfl ?_
    refine Aw.aload rfl d_Lbk_commonSigns_72 ?_
    refine Aw.iload rfl d_Lbk_commonSigns_74 ?_
    refine Aw.iload rfl d_Lbk_commonSigns_76 ?_
    refine Aw.if_eq (tgt := 88) ⟨by decide, by decide⟩ (by decide) d_Lbk_commonSigns_78 (fun c16 => ?_) (fun c16 => absurd c16 (by decide))
    refine Aw.iload rfl d_Lbk_commonSigns_88 ?_
    refine Aw.aload rfl d_Lbk_commonSigns_90 ?_
    refine Aw.iload rfl d_Lbk_commonSigns_92 ?_
    refine Aw.iconst d_Lbk_commonSigns_94 ?_
    refine Aw.isub d_Lbk_commonSigns_95 ?_
    obtain ⟨o3, h⟩ := h
    obtain ⟨o4, o5, h⟩ := h
    refine Aw.iald o3 o4 o5 d_Lbk_commonSigns_96 (fun r6 => ?_)
    have h := h r6
    obtain ⟨o7, o8, o9, o10, o11, o12, h⟩ := h
    refine Aw.mmax o7 o8 ml_Lbk_36 mth_max_1 mth_ini mth_max_2 o9 o10 o11 o12 d_Lbk_commonSigns_97 ?_
    obtain ⟨o13, o14, h⟩ := h
    obtain ⟨o15, h⟩ := h
    refine Aw.iast o3 o13 o14 o15 d_Lbk_commonSigns_100 ?_
    refine Aw.iload rfl d_Lbk_commonSigns_101 ?_
    refine Aw.istore (by decide) d_Lbk_commonSigns_103 ?_
    refine Aw.toL (L' := [xl v0, xu, xl v2, xu, xi v4, xi v5, xr (some a6), xi v7, xi v10, xi v9, xi v10, xi 0]) rfl ?_
    refine Aw.iinc rfl d_Lbk_commonSigns_105 ?_
    refine Aw.toL (L' := [xl v0, xu, xl v2, xu, xi v4, xi v5, xr (some a6), xi v7, xi v10, xi (v9 + 1), xi v10, xi 0]) rfl ?_
    refine Aw.goto (tgt := 34) (by decide) d_Lbk_commonSigns_108 ?_
    exact Aw.toW (L' := [xl v0, xu, xl v2, xu, xi v4, xi v5, xr (some a6), xi v7, xi v10, xi (v9 + 1), xu, xu]) ⟨Or.inr rfl, Or.inr rfl, Or.inr rfl, Or.inr rfl, Or.inr rfl, Or.inr rfl, Or.inr rfl, Or.inr rfl, Or.inr rfl, Or.inr rfl, Or.inl rfl, Or.inl rfl, trivial⟩ h
  · have h := hf c22
    refine Aw.iconst d_Lbk_commonSigns_65 ?_
    refine Aw.goto (tgt := 70) (by decide) d_Lbk_commonSigns_66 ?_
    refine Aw.istore (by decide) d_Lbk_commonSigns_70 ?_
    refine Aw.toL (L' := [xl v0, xu, xl v2, xu, xi v4, xi v5, xr (some a6), xi v7, xi v8, xi v9, xi v10, xi 1]) rfl ?_
    refine Aw.aload rfl d_Lbk_commonSigns_72 ?_
    refine Aw.iload rfl d_Lbk_commonSigns_74 ?_
    refine Aw.iload rfl d_Lbk_commonSigns_76 ?_
    refine Aw.if_eq (tgt := 88) ⟨by decide, by decide⟩ (by decide) d_Lbk_commonSigns_78 (fun c21 => absurd c21 (by decide)) (fun c21 => ?_)
    refine Aw.iload rfl d_Lbk_commonSigns_81 ?_
    refine Aw.iconst d_Lbk_commonSigns_83 ?_
    refine Aw.iadd d_Lbk_commonSigns_84 ?_
    refine Aw.goto (tgt := 100) (by decide) d_Lbk_commonSigns_85 ?_
    obtain ⟨o17, h⟩ := h
    obtain ⟨o18, o19, h⟩ := h
    obtain ⟨o20, h⟩ := h
    refine Aw.iast o17 o18 o19 o20 d_Lbk_commonSigns_100 ?_
    refine Aw.iload rfl d_Lbk_commonSigns_101 ?_
    refine Aw.istore (by decide) d_Lbk_commonSigns_103 ?_
    refine Aw.toL (L' := [xl v0, xu, xl v2, xu, xi v4, xi v5, xr (some a6), xi v7, xi v10, xi v9, xi v10, xi 1]) rfl ?_
    refine Aw.iinc rfl d_Lbk_commonSigns_105 ?_
    refine Aw.toL (L' := [xl v0, xu, xl v2, xu, xi v4, xi v5, xr (some a6), xi v7, xi v10, xi (v9 + 1), xi v10, xi 1]) rfl ?_
    refine Aw.goto (tgt := 34) (by decide) d_Lbk_commonSigns_108 ?_
    exact Aw.toW (L' := [xl v0, xu, xl v2, xu, xi v4, xi v5, xr (some a6), xi v7, xi v10, xi (v9 + 1), xu, xu]) ⟨Or.inr rfl, Or.inr rfl, Or.inr rfl, Or.inr rfl, Or.inr rfl, Or.inr rfl, Or.inr rfl, Or.inr rfl, Or.inr rfl, Or.inr rfl, Or.inl rfl, Or.inl rfl, trivial⟩ h
theorem c_Lbk_commonSigns_1 {Ω : Om} {R R' : Room} {F : QF} {k n : Nat} {L st : List PV} {σ : Sto} {QX' : String → Sto → Prop} {Q : Int → Sto → Prop} {x0 : Int64} (hc : MC Ω M_Lbk_lengthOf R' (RI Q) QX' σ [xl x0]) (hr1 : R'.frames + 1 ≤ R.frames) (hr2 : 8 + (3 + 11) + R'.locals ≤ R.locals) (hb1 : k + R'.cells ≤ R.cells) (hb2 : n + R'.slots ≤ R.slots) (hst : (st.map catP).sum ≤ 8) (kk : ∀ x σ', Q x σ' → Aw Ω M_Lbk_commonSigns R F (k + R'.cells) (n + R'.slots) 4 L (xi x :: st) σ') (kx : ∀ E σ', QX' E σ' → Ax Ω M_Lbk_commonSigns R F (k + R'.cells) (n + R'.slots) 1 L st σ' E) : Aw Ω M_Lbk_commonSigns R F k n 1 L (xl x0 :: st) σ :=
  Aw.callS (As := [xl x0]) (stk := xl x0 :: st) (nn := 1) M_Lbk_lengthOf hc ok_Lbk_lengthOf rfl ml_Lbk_28 sta_Lbk_lengthOf ⟨hr1, hr2⟩ rfl ⟨hb1, hb2⟩ hst rfl d_Lbk_commonSigns_1 (fun r σ' h => by obtain ⟨x, rfl, h⟩ := h; exact kk x σ' h) kx
theorem c_Lbk_commonSigns_7 {Ω : Om} {R R' : Room} {F : QF} {k n : Nat} {L st : List PV} {σ : Sto} {QX' : String → Sto → Prop} {Q : Int → Sto → Prop} {x0 : Int64} (hc : MC Ω M_Lbk_lengthOf R' (RI Q) QX' σ [xl x0]) (hr1 : R'.frames + 1 ≤ R.frames) (hr2 : 8 + (3 + 11) + R'.locals ≤ R.locals) (hb1 : k + R'.cells ≤ R.cells) (hb2 : n + R'.slots ≤ R.slots) (hst : (st.map catP).sum ≤ 8) (kk : ∀ x σ', Q x σ' → Aw Ω M_Lbk_commonSigns R F (k + R'.cells) (n + R'.slots) 10 L (xi x :: st) σ') (kx : ∀ E σ', QX' E σ' → Ax Ω M_Lbk_commonSigns R F (k + R'.cells) (n + R'.slots) 7 L st σ' E) : Aw Ω M_Lbk_commonSigns R F k n 7 L (xl x0 :: st) σ :=
  Aw.callS (As := [xl x0]) (stk := xl x0 :: st) (nn := 1) M_Lbk_lengthOf hc ok_Lbk_lengthOf rfl ml_Lbk_28 sta_Lbk_lengthOf ⟨hr1, hr2⟩ rfl ⟨hb1, hb2⟩ hst rfl d_Lbk_commonSigns_7 (fun r σ' h => by obtain ⟨x, rfl, h⟩ := h; exact kk x σ' h) kx
theorem c_Lbk_commonSigns_51 {Ω : Om} {R R' : Room} {F : QF} {k n : Nat} {L st : List PV} {σ : Sto} {QX' : String → Sto → Prop} {Q : Int → Sto → Prop} {x0 : Int64} {x1 : Int} (hc : MC Ω M_Lbk_signAt R' (RI Q) QX' σ [xl x0, xi x1]) (hr1 : R'.frames + 1 ≤ R.frames) (hr2 : 8 + (3 + 11) + R'.locals ≤ R.locals) (hb1 : k + R'.cells ≤ R.cells) (hb2 : n + R'.slots ≤ R.slots) (hst : (st.map catP).sum ≤ 8) (kk : ∀ x σ', Q x σ' → Aw Ω M_Lbk_commonSigns R F (k + R'.cells) (n + R'.slots) 54 L (xi x :: st) σ') (kx : ∀ E σ', QX' E σ' → Ax Ω M_Lbk_commonSigns R F (k + R'.cells) (n + R'.slots) 51 L st σ' E) : Aw Ω M_Lbk_commonSigns R F k n 51 L (xi x1 :: xl x0 :: st) σ :=
  Aw.callS (As := [xl x0, xi x1]) (stk := xi x1 :: xl x0 :: st) (nn := 2) M_Lbk_signAt hc ok_Lbk_signAt rfl ml_Lbk_22 sta_Lbk_signAt ⟨hr1, hr2⟩ rfl ⟨hb1, hb2⟩ hst rfl d_Lbk_commonSigns_51 (fun r σ' h => by obtain ⟨x, rfl, h⟩ := h; exact kk x σ' h) kx
theorem c_Lbk_commonSigns_59 {Ω : Om} {R R' : Room} {F : QF} {k n : Nat} {L st : List PV} {σ : Sto} {QX' : String → Sto → Prop} {Q : Int → Sto → Prop} {x0 : Int64} {x1 : Int} (hc : MC Ω M_Lbk_signAt R' (RI Q) QX' σ [xl x0, xi x1]) (hr1 : R'.frames + 1 ≤ R.frames) (hr2 : 8 + (3 + 11) + R'.locals ≤ R.locals) (hb1 : k + R'.cells ≤ R.cells) (hb2 : n + R'.slots ≤ R.slots) (hst : (st.map catP).sum ≤ 8) (kk : ∀ x σ', Q x σ' → Aw Ω M_Lbk_commonSigns R F (k + R'.cells) (n + R'.slots) 62 L (xi x :: st) σ') (kx : ∀ E σ', QX' E σ' → Ax Ω M_Lbk_commonSigns R F (k + R'.cells) (n + R'.slots) 59 L st σ' E) : Aw Ω M_Lbk_commonSigns R F k n 59 L (xi x1 :: xl x0 :: st) σ :=
  Aw.callS (As := [xl x0, xi x1]) (stk := xi x1 :: xl x0 :: st) (nn := 2) M_Lbk_signAt hc ok_Lbk_signAt rfl ml_Lbk_22 sta_Lbk_signAt ⟨hr1, hr2⟩ rfl ⟨hb1, hb2⟩ hst rfl d_Lbk_commonSigns_59 (fun r σ' h => by obtain ⟨x, rfl, h⟩ := h; exact kk x σ' h) kx
theorem r_Lbk_commonSigns_122 {Ω : Om} {R : Room} {k n : Nat} {L : List PV} {σ : Sto} {QR : Option PV → Sto → Prop} {QX : String → Sto → Prop} {x : Int} (h : QR (some (xi x)) σ) (h1 : k ≤ R.cells) (h2 : n ≤ R.slots) : Aw Ω M_Lbk_commonSigns R (MF Ω R QR QX) k n 122 L [xi x] σ := Aw.iret rfl h h1 h2 d_Lbk_commonSigns_122
theorem e_Lbk_depthOf {Ω : Om} {R : Room} {QR : Option PV → Sto → Prop} {QX : String → Sto → Prop} {σ : Sto} {v0 : Int64} (h : Aw Ω M_Lbk_depthOf R (MF Ω R QR QX) 0 0 0 [xl v0, xu, xu] [] σ) : MC Ω M_Lbk_depthOf R QR QX σ [xl v0] := MC.body (by decide +kernel) rfl (Nat.le_of_ble_eq_true rfl) rfl h
theorem b_Lbk_depthOf_0 {Ω : Om} {R : Room} {F : QF} {k n : Nat} {σ : Sto} {v0 : Int64} (h : Aw Ω M_Lbk_depthOf R F k n 2 [xl v0, xu, xi 0] [] σ) : Aw Ω M_Lbk_depthOf R F k n 0 [xl v0, xu, xu] [] σ := by
  refine Aw.iconst d_Lbk_depthOf_0 ?_
  refine Aw.istore_n (by decide) d_Lbk_depthOf_1 ?_
  refine Aw.toL (L' := [xl v0, xu, xi 0]) rfl ?_
  exact h
theorem b_Lbk_depthOf_2 {Ω : Om} {R : Room} {F : QF} {k n : Nat} {σ : Sto} {v0 : Int64} {v2 : Int} (h : Q32 v2 ∧ (((7 : Int) ≤ v2 → Aw Ω M_Lbk_depthOf R F k n 25 [xl v0, xu, xi v2] [xi v2] σ) ∧ (¬ (7 : Int) ≤ v2 → Aw Ω M_Lbk_depthOf R F k n 10 [xl v0, xu, xi v2] [xi v2, xl v0] σ))) : Aw Ω M_Lbk_depthOf R F k n 2 [xl v0, xu, xi v2] [] σ := by
  refine Aw.iload_n rfl d_Lbk_depthOf_2 ?_
  refine Aw.bipush (by decide) d_Lbk_depthOf_3 ?_
  obtain ⟨o1, h⟩ := h
  obtain ⟨ht, hf⟩ := h
  refine Aw.icmp_ge (tgt := 24) o1 ⟨by decide, by decide⟩ (by decide) d_Lbk_depthOf_5 (fun c2 => ?_) (fun c2 => ?_)
  · have h := ht c2
    refine Aw.iload_n rfl d_Lbk_depthOf_24 ?_
    exact h
  · have h := hf c2
    refine Aw.lload_n rfl d_Lbk_depthOf_8 ?_
    refine Aw.iload_n rfl d_Lbk_depthOf_9 ?_
    exact h
theorem b_Lbk_depthOf_13 {Ω : Om} {R : Room} {F : QF} {k n : Nat} {σ : Sto} {v0 : Int64} {v2 : Int} {s0 : Int} (h : Q32 s0 ∧ ((¬ s0 = (32 : Int) → Aw Ω M_Lbk_depthOf R F k n 25 [xl v0, xu, xi v2] [xi v2] σ) ∧ (s0 = (32 : Int) → Aw Ω M_Lbk_depthOf R F k n 2 [xl v0, xu, xi (v2 + 1)] [] σ))) : Aw Ω M_Lbk_depthOf R F k n 13 [xl v0, xu, xi v2] [xi s0] σ := by
  refine Aw.bipush (by decide) d_Lbk_depthOf_13 ?_
  obtain ⟨o1, h⟩ := h
  obtain ⟨ht, hf⟩ := h
  refine Aw.icmp_ne (tgt := 24) o1 ⟨by decide, by decide⟩ (by decide) d_Lbk_depthOf_15 (fun c2 => ?_) (fun c2 => ?_)
  · have h := ht c2
    refine Aw.iload_n rfl d_Lbk_depthOf_24 ?_
    exact h
  · have h := hf c2
    refine Aw.iinc rfl d_Lbk_depthOf_18 ?_
    refine Aw.toL (L' := [xl v0, xu, xi (v2 + 1)]) rfl ?_
    refine Aw.goto (tgt := 2) (by decide) d_Lbk_depthOf_21 ?_
    exact h
theorem c_Lbk_depthOf_10 {Ω : Om} {R R' : Room} {F : QF} {k n : Nat} {L st : List PV} {σ : Sto} {QX' : String → Sto → Prop} {Q : Int → Sto → Prop} {x0 : Int64} {x1 : Int} (hc : MC Ω M_Lbk_signAt R' (RI Q) QX' σ [xl x0, xi x1]) (hr1 : R'.frames + 1 ≤ R.frames) (hr2 : 8 + (3 + 11) + R'.locals ≤ R.locals) (hb1 : k + R'.cells ≤ R.cells) (hb2 : n + R'.slots ≤ R.slots) (hst : (st.map catP).sum ≤ 8) (kk : ∀ x σ', Q x σ' → Aw Ω M_Lbk_depthOf R F (k + R'.cells) (n + R'.slots) 13 L (xi x :: st) σ') (kx : ∀ E σ', QX' E σ' → Ax Ω M_Lbk_depthOf R F (k + R'.cells) (n + R'.slots) 10 L st σ' E) : Aw Ω M_Lbk_depthOf R F k n 10 L (xi x1 :: xl x0 :: st) σ :=
  Aw.callS (As := [xl x0, xi x1]) (stk := xi x1 :: xl x0 :: st) (nn := 2) M_Lbk_signAt hc ok_Lbk_signAt rfl ml_Lbk_22 sta_Lbk_signAt ⟨hr1, hr2⟩ rfl ⟨hb1, hb2⟩ hst rfl d_Lbk_depthOf_10 (fun r σ' h => by obtain ⟨x, rfl, h⟩ := h; exact kk x σ' h) kx
theorem r_Lbk_depthOf_25 {Ω : Om} {R : Room} {k n : Nat} {L : List PV} {σ : Sto} {QR : Option PV → Sto → Prop} {QX : String → Sto → Prop} {x : Int} (h : QR (some (xi x)) σ) (h1 : k ≤ R.cells) (h2 : n ≤ R.slots) : Aw Ω M_Lbk_depthOf R (MF Ω R QR QX) k n 25 L [xi x] σ := Aw.iret rfl h h1 h2 d_Lbk_depthOf_25
theorem e_Lbk_enter {Ω : Om} {R : Room} {QR : Option PV → Sto → Prop} {QX : String → Sto → Prop} {σ : Sto} {a0 : Nat} {v1 : Int} {v2 : Int} (h : Aw Ω M_Lbk_enter R (MF Ω R QR QX) 0 0 0 [xr (some a0), xi v1, xi v2] [] σ) : MC Ω M_Lbk_enter R QR QX σ [xr (some a0), xi v1, xi v2] := MC.body (by decide +kernel) rfl (Nat.le_of_ble_eq_true rfl) rfl h
theorem b_Lbk_enter_0 {Ω : Om} {R : Room} {F : QF} {k n : Nat} {σ : Sto} {a0 : Nat} {v1 : Int} {v2 : Int} (h : sK σ a0 = 7 ∧ (Q32 (fI σ 386 a0) → (∃ b3 : Nat, fR σ 384 a0 = some b3 ∧ sK σ b3 = 50 ∧ ((sZ σ b3 : Int) < 2147483648 → Q32 (sZ σ b3 : Int) ∧ (((fI σ 386 a0) < (sZ σ b3 : Int) → (Q32 (fI σ 386 a0) → 0 ≤ (fI σ 386 a0) ∧ (fI σ 386 a0) < sZ σ b3 ∧ Q32 v1 ∧ (∃ b12 : Nat, fR σ 385 a0 = some b12 ∧ (Q32 (fI σ 386 a0) → sK σ b12 = 50 ∧ 0 ≤ (fI σ 386 a0) ∧ (fI σ 386 a0) < sZ σ b12 ∧ Q32 v2 ∧ (Q32 (fI σ 386 a0) → Q32 ((fI σ 386 a0) + 1) ∧ (Q32 (fI (uI σ 386 a0 ((fI σ 386 a0) + 1)) 386 a0) → Aw Ω M_Lbk_enter R F k n 50 [xr (some a0), xi v1, xi v2] [xi ((fI (uI σ 386 a0 ((fI σ 386 a0) + 1)) 386 a0) - 1)] (uI (vI (vI σ b3 (fI σ 386 a0).toNat v1) b12 (fI σ 386 a0).toNat v2) 386 a0 ((fI σ 386 a0) + 1)))))))) ∧ (¬ (fI σ 386 a0) < (sZ σ b3 : Int) → Aw Ω M_Lbk_enter R F k n 13 [xr (some a0), xi v1, xi v2] [xi (-1)] σ)))))) : Aw Ω M_Lbk_enter R F k n 0 [xr (some a0), xi v1, xi v2] [] σ := by
  refine Aw.aload_n rfl d_Lbk_enter_0 ?_
  obtain ⟨o1, h⟩ := h
  refine Aw.getI (f := 386) 6 2 fl_Lbk_18 (by decide) (by decide) rfl rfl o1 d_Lbk_enter_1 (fun r2 => ?_)
  have h := h r2
  refine Aw.aload_n rfl d_Lbk_enter_4 ?_
  obtain ⟨b3, e4, h⟩ := h
  refine Aw.getRs (f := 384) 6 0 fl_Lbk_9 (by decide) (by decide) rfl rfl o1 e4 d_Lbk_enter_5 ?_
  obtain ⟨o5, h⟩ := h
  refine Aw.alen 0 (by decide) o5 d_Lbk_enter_8 (fun r6 => ?_)
  have h := h r6
  obtain ⟨o7, h⟩ := h
  obtain ⟨ht, hf⟩ := h
  refine Aw.icmp_lt (tgt := 14) r2 o7 (by decide) d_Lbk_enter_9 (fun c22 => ?_) (fun c22 => ?_)
  · have h := ht c22
    refine Aw.aload_n rfl d_Lbk_enter_14 ?_
    refine Aw.getRs (f := 384) 6 0 fl_Lbk_9 (by decide) (by decide) rfl rfl o1 e4 d_Lbk_enter_15 ?_
    refine Aw.aload_n rfl d_Lbk_enter_18 ?_
    refine Aw.getI (f := 386) 6 2 fl_Lbk_18 (by decide) (by decide) rfl rfl o1 d_Lbk_enter_19 (fun r8 => ?_)
    have h := h r8
    refine Aw.iload_n rfl d_Lbk_enter_22 ?_
    obtain ⟨o9, o10, h⟩ := h
    obtain ⟨o11, h⟩ := h
    refine Aw.iast o5 o9 o10 o11 d_Lbk_enter_23 ?_
    refine Aw.aload_n rfl d_Lbk_enter_24 ?_
    obtain ⟨b12, e13, h⟩ := h
    refine Aw.getRs (f := 385) 6 1 fl_Lbk_15 (by decide) (by decide) rfl rfl o1 e13 d_Lbk_enter_25 ?_
    refine Aw.aload_n rfl d_Lbk_enter_28 ?_
    refine Aw.getI (f := 386) 6 2 fl_Lbk_18 (by decide) (by decide) rfl rfl o1 d_Lbk_enter_29 (fun r14 => ?_)
    have h := h r14
    refine Aw.iload_n rfl d_Lbk_enter_32 ?_
    obtain ⟨o15, h⟩ := h
    obtain ⟨o16, o17, h⟩ := h
    obtain ⟨o18, h⟩ := h
    refine Aw.iast o15 o16 o17 o18 d_Lbk_enter_33 ?_
    refine Aw.aload_n rfl d_Lbk_enter_34 ?_
    refine Aw.dup rfl d_Lbk_enter_35 ?_
    refine Aw.getI (f := 386) 6 2 fl_Lbk_18 (by decide) (by decide) rfl rfl o1 d_Lbk_enter_36 (fun r19 => ?_)
    have h := h r19
    refine Aw.iconst d_Lbk_enter_39 ?_
    refine Aw.iadd d_Lbk_enter_40 ?_
    obtain ⟨o20, h⟩ := h
    refine Aw.putI (f := 386) 6 2 fl_Lbk_18 (by decide) (by decide) rfl rfl o1 rfl o20 (Or.inl rfl) d_Lbk_enter_41 ?_
    refine Aw.aload_n rfl d_Lbk_enter_44 ?_
    refine Aw.getI (f := 386) 6 2 fl_Lbk_18 (by decide) (by decide) rfl rfl o1 d_Lbk_enter_45 (fun r21 => ?_)
    have h := h r21
    refine Aw.iconst d_Lbk_enter_48 ?_
    refine Aw.isub d_Lbk_enter_49 ?_
    exact h
  · have h := hf c22
    refine Aw.iconst d_Lbk_enter_12 ?_
    exact h
theorem r_Lbk_enter_13 {Ω : Om} {R : Room} {k n : Nat} {L : List PV} {σ : Sto} {QR : Option PV → Sto → Prop} {QX : String → Sto → Prop} {x : Int} (h : QR (some (xi x)) σ) (h1 : k ≤ R.cells) (h2 : n ≤ R.slots) : Aw Ω M_Lbk_enter R (MF Ω R QR QX) k n 13 L [xi x] σ := Aw.iret rfl h h1 h2 d_Lbk_enter_13
theorem r_Lbk_enter_50 {Ω : Om} {R : Room} {k n : Nat} {L : List PV} {σ : Sto} {QR : Option PV → Sto → Prop} {QX : String → Sto → Prop} {x : Int} (h : QR (some (xi x)) σ) (h1 : k ≤ R.cells) (h2 : n ≤ R.slots) : Aw Ω M_Lbk_enter R (MF Ω R QR QX) k n 50 L [xi x] σ := Aw.iret rfl h h1 h2 d_Lbk_enter_50
theorem e_Lbk_init {Ω : Om} {R : Room} {QR : Option PV → Sto → Prop} {QX : String → Sto → Prop} {σ : Sto} {a0 : Nat} (h : Aw Ω M_Lbk_init R (MF Ω R QR QX) 0 0 0 [xr (some a0)] [] σ) : MC Ω M_Lbk_init R QR QX σ [xr (some a0)] := MC.body (by decide +kernel) rfl (Nat.le_of_ble_eq_true rfl) rfl h
theorem b_Lbk_init_0 {Ω : Om} {R : Room} {F : QF} {k n : Nat} {σ : Sto} {a0 : Nat} (h : 1 ≤ R.frames ∧ ([].map catP).sum + 12 ≤ R.locals ∧ k + 1 ≤ R.cells ∧ n + 10240 ≤ R.slots ∧ (∀ σ7 : Sto, σ7 = (nO σ 50 10240) → sK σ7 a0 = 7 ∧ k + 1 + 1 ≤ R.cells ∧ n + 10240 + 10240 ≤ R.slots ∧ (∀ σ13 : Sto, σ13 = (nO (uR σ7 384 a0 (some (sN σ))) 50 10240) → sK σ13 a0 = 7 ∧ Aw Ω M_Lbk_init R F (k + 1 + 1) (n + 10240 + 10240) 27 [xr (some a0)] [] (uI (uR σ13 385 a0 (some (sN σ7))) 386 a0 0)))) : Aw Ω M_Lbk_init R F k n 0 [xr (some a0)] [] σ := by
  refine Aw.aload_n rfl d_Lbk_init_0 ?_
  obtain ⟨o1, o2, h⟩ := h
  refine Aw.objInit ml_Lbk_3 oi_1 oi_2 o1 o2 d_Lbk_init_1 ?_
  refine Aw.aload_n rfl d_Lbk_init_4 ?_
  refine Aw.sipush (by decide) d_Lbk_init_5 ?_
  obtain ⟨o5, o6, h⟩ := h
  refine Aw.newarr 0 (by decide) rfl arc_0 (by decide) (by decide) o5 o6 d_Lbk_init_8 ?_
  obtain ⟨σ7, hσ7⟩ : ∃ z, z = (nO σ 50 10240) := ⟨_, rfl⟩
  refine Aw.toS (σ' := σ7) hσ7 ?_
  have h := h σ7 hσ7
  obtain ⟨o8, h⟩ := h
  refine Aw.putRF (f := 384) 6 0 fm_Lbk_9 (by decide) (by decide) rfl rfl o8 rfl rfl rfl rfl d_Lbk_init_10 ?_
  refine Aw.aload_n rfl d_Lbk_init_13 ?_
  refine Aw.sipush (by decide) d_Lbk_init_14 ?_
  obtain ⟨o11, o12, h⟩ := h
  refine Aw.newarr 0 (by decide) rfl arc_0 (by decide) (by decide) o11 o12 d_Lbk_init_17 ?_
  obtain ⟨σ13, hσ13⟩ : ∃ z, z = (nO (uR σ7 384 a0 (some (sN σ))) 50 10240) := ⟨_, rfl⟩
  refine Aw.toS (σ' := σ13) hσ13 ?_
  have h := h σ13 hσ13
  obtain ⟨o14, h⟩ := h
  refine Aw.putRF (f := 385) 6 1 fm_Lbk_15 (by decide) (by decide) rfl rfl o14 rfl rfl rfl rfl d_Lbk_init_19 ?_
  refine Aw.aload_n rfl d_Lbk_init_22 ?_
  refine Aw.iconst d_Lbk_init_23 ?_
  refine Aw.putI (f := 386) 6 2 fl_Lbk_18 (by decide) (by decide) rfl rfl o14 rfl ⟨by decide, by decide⟩ (Or.inl rfl) d_Lbk_init_24 ?_
  exact h
theorem r_Lbk_init_27 {Ω : Om} {R : Room} {k n : Nat} {L : List PV} {σ : Sto} {QR : Option PV → Sto → Prop} {QX : String → Sto → Prop} (h : QR none σ) (h1 : k ≤ R.cells) (h2 : n ≤ R.slots) : Aw Ω M_Lbk_init R (MF Ω R QR QX) k n 27 L [] σ := Aw.vret rfl h h1 h2 d_Lbk_init_27
theorem e_Lbk_isLine {Ω : Om} {R : Room} {QR : Option PV → Sto → Prop} {QX : String → Sto → Prop} {σ : Sto} {v0 : Int64} (h : Aw Ω M_Lbk_isLine R (MF Ω R QR QX) 0 0 0 [xl v0, xu, xu, xu, xu, xu, xu] [] σ) : MC Ω M_Lbk_isLine R QR QX σ [xl v0] := MC.body (by decide +kernel) rfl (Nat.le_of_ble_eq_true rfl) rfl h
theorem b_Lbk_isLine_0 {Ω : Om} {R : Room} {F : QF} {k n : Nat} {σ : Sto} {v0 : Int64} (h : Aw Ω M_Lbk_isLine R F k n 7 [xl v0, xu, xi 0, xi 0, xi 0, xu, xu] [] σ) : Aw Ω M_Lbk_isLine R F k n 0 [xl v0, xu, xu, xu, xu, xu, xu] [] σ := by
  refine Aw.iconst d_Lbk_isLine_0 ?_
  refine Aw.istore_n (by decide) d_Lbk_isLine_1 ?_
  refine Aw.toL (L' := [xl v0, xu, xi 0, xu, xu, xu, xu]) rfl ?_
  refine Aw.iconst d_Lbk_isLine_2 ?_
  refine Aw.istore_n (by decide) d_Lbk_isLine_3 ?_
  refine Aw.toL (L' := [xl v0, xu, xi 0, xi 0, xu, xu, xu]) rfl ?_
  refine Aw.iconst d_Lbk_isLine_4 ?_
  refine Aw.istore (by decide) d_Lbk_isLine_5 ?_
  refine Aw.toL (L' := [xl v0, xu, xi 0, xi 0, xi 0, xu, xu]) rfl ?_
  exact h
theorem b_Lbk_isLine_7 {Ω : Om} {R : Room} {F : QF} {k n : Nat} {σ : Sto} {v0 : Int64} {v2 : Int} {v3 : Int} {v4 : Int} (h : Q32 v4 ∧ (((8 : Int) ≤ v4 → Q32 v2 ∧ ((v2 ≤ (0 : Int) → Aw Ω M_Lbk_isLine R F k n 99 [xl v0, xu, xi v2, xi v3, xi v4, xu, xu] [xi 0] σ) ∧ (¬ v2 ≤ (0 : Int) → Aw Ω M_Lbk_isLine R F k n 99 [xl v0, xu, xi v2, xi v3, xi v4, xu, xu] [xi 1] σ))) ∧ (¬ (8 : Int) ≤ v4 → Aw Ω M_Lbk_isLine R F k n 17 [xl v0, xu, xi v2, xi v3, xi v4, xu, xu] [xi v4, xl v0] σ))) : Aw Ω M_Lbk_isLine R F k n 7 [xl v0, xu, xi v2, xi v3, xi v4, xu, xu] [] σ := by
  refine Aw.iload rfl d_Lbk_isLine_7 ?_
  refine Aw.bipush (by decide) d_Lbk_isLine_9 ?_
  obtain ⟨o1, h⟩ := h
  obtain ⟨ht, hf⟩ := h
  refine Aw.icmp_ge (tgt := 90) o1 ⟨by decide, by decide⟩ (by decide) d_Lbk_isLine_11 (fun c4 => ?_) (fun c4 => ?_)
  · have h := ht c4
    refine Aw.iload_n rfl d_Lbk_isLine_90 ?_
    obtain ⟨o2, h⟩ := h
    obtain ⟨ht, hf⟩ := h
    refine Aw.if_le (tgt := 98) o2 (by decide) d_Lbk_isLine_91 (fun c3 => ?_) (fun c3 => ?_)
    · have h := ht c3
      refine Aw.iconst d_Lbk_isLine_98 ?_
      exact h
    · have h := hf c3
      refine Aw.iconst d_Lbk_isLine_94 ?_
      refine Aw.goto (tgt := 99) (by decide) d_Lbk_isLine_95 ?_
      exact h
  · have h := hf c4
    refine Aw.lload_n rfl d_Lbk_isLine_14 ?_
    refine Aw.iload rfl d_Lbk_isLine_15 ?_
    exact h
theorem b_Lbk_isLine_20 {Ω : Om} {R : Room} {F : QF} {k n : Nat} {σ : Sto} {v0 : Int64} {v2 : Int} {v3 : Int} {v4 : Int} {s0 : Int} (h : Q32 s0 ∧ ((s0 < (97 : Int) → Aw Ω M_Lbk_isLine R F k n 40 [xl v0, xu, xi v2, xi v3, xi v4, xi s0, xu] [] σ) ∧ (¬ s0 < (97 : Int) → (((122 : Int) < s0 → Aw Ω M_Lbk_isLine R F k n 40 [xl v0, xu, xi v2, xi v3, xi v4, xi s0, xu] [] σ) ∧ (¬ (122 : Int) < s0 → Aw Ω M_Lbk_isLine R F k n 41 [xl v0, xu, xi v2, xi v3, xi v4, xi s0, xu] [xi 1] σ))))) : Aw Ω M_Lbk_isLine R F k n 20 [xl v0, xu, xi v2, xi v3, xi v4, xu, xu] [xi s0] σ := by
  refine Aw.istore (by decide) d_Lbk_isLine_20 ?_
  refine Aw.toL (L' := [xl v0, xu, xi v2, xi v3, xi v4, xi s0, xu]) rfl ?_
  refine Aw.iload rfl d_Lbk_isLine_22 ?_
  refine Aw.bipush (by decide) d_Lbk_isLine_24 ?_
  obtain ⟨o1, h⟩ := h
  obtain ⟨ht, hf⟩ := h
  refine Aw.icmp_lt (tgt := 40) o1 ⟨by decide, by decide⟩ (by decide) d_Lbk_isLine_26 (fun c3 => ?_) (fun c3 => ?_)
  · have h := ht c3
    exact h
  · have h := hf c3
    refine Aw.iload rfl d_Lbk_isLine_29 ?_
    refine Aw.bipush (by decide) d_Lbk_isLine_31 ?_
    obtain ⟨ht, hf⟩ := h
    refine Aw.icmp_gt (tgt := 40) o1 ⟨by decide, by decide⟩ (by decide) d_Lbk_isLine_33 (fun c2 => ?_) (fun c2 => ?_)
    · have h := ht c2
      exact h
    · have h := hf c2
      refine Aw.iconst d_Lbk_isLine_36 ?_
      refine Aw.goto (tgt := 41) (by decide) d_Lbk_isLine_37 ?_
      exact h
theorem b_Lbk_isLine_41 {Ω : Om} {R : Room} {F : QF} {k n : Nat} {σ : Sto} {v0 : Int64} {v2 : Int} {v3 : Int} {v4 : Int} {v5 : Int} {s0 : Int} (h : Q32 v5 ∧ ((¬ v5 = (0 : Int) → Q32 v3 ∧ ((¬ v3 = (0 : Int) → Aw Ω M_Lbk_isLine R F k n 70 [xl v0, xu, xi v2, xi v3, xi v4, xi v5, xi s0] [xi 0] σ) ∧ (v3 = (0 : Int) → Q32 s0 ∧ ((¬ s0 = (0 : Int) → ((s0 = (0 : Int) → Aw Ω M_Lbk_isLine R F k n 7 [xl v0, xu, xi (v2 + 0), xi v3, xi (v4 + 1), xu, xu] [] σ) ∧ (¬ s0 = (0 : Int) → Aw Ω M_Lbk_isLine R F k n 7 [xl v0, xu, xi (v2 + 1), xi v3, xi (v4 + 1), xu, xu] [] σ))) ∧ (s0 = (0 : Int) → ((v5 = (32 : Int) → ((s0 = (0 : Int) → Aw Ω M_Lbk_isLine R F k n 7 [xl v0, xu, xi (v2 + 0), xi v3, xi (v4 + 1), xu, xu] [] σ) ∧ (¬ s0 = (0 : Int) → Aw Ω M_Lbk_isLine R F k n 7 [xl v0, xu, xi (v2 + 1), xi v3, xi (v4 + 1), xu, xu] [] σ))) ∧ (¬ v5 = (32 : Int) → Aw Ω M_Lbk_isLine R F k n 70 [xl v0, xu, xi v2, xi v3, xi v4, xi v5, xi s0] [xi 0] σ))))))) ∧ (v5 = (0 : Int) → Q32 s0 ∧ ((s0 = (0 : Int) → Aw Ω M_Lbk_isLine R F k n 7 [xl v0, xu, xi (v2 + 0), xi 1, xi (v4 + 1), xu, xu] [] σ) ∧ (¬ s0 = (0 : Int) → Aw Ω M_Lbk_isLine R F k n 7 [xl v0, xu, xi (v2 + 1), xi 1, xi (v4 + 1), xu, xu] [] σ))))) : Aw Ω M_Lbk_isLine R F k n 41 [xl v0, xu, xi v2, xi v3, xi v4, xi v5, xu] [xi s0] σ := by
  refine Aw.istore (by decide) d_Lbk_isLine_41 ?_
  refine Aw.toL (L' := [xl v0, xu, xi v2, xi v3, xi v4, xi v5, xi s0]) rfl ?_
  refine Aw.iload rfl d_Lbk_isLine_43 ?_
  obtain ⟨o1, h⟩ := h
  obtain ⟨ht, hf⟩ := h
  refine Aw.if_ne (tgt := 53) o1 (by decide) d_Lbk_isLine_45 (fun c11 => ?_) (fun c11 => ?_)
  · have h := ht c11
    refine Aw.iload_n rfl d_Lbk_isLine_53 ?_
    obtain ⟨o2, h⟩ := h
    obtain ⟨ht, hf⟩ := h
    refine Aw.if_ne (tgt := 69) o2 (by decide) d_Lbk_isLine_54 (fun c8 => ?_) (fun c8 => ?_)
    · have h := ht c8
      refine Aw.iconst d_Lbk_isLine_69 ?_
      exact h
    · have h := hf c8
      refine Aw.iload rfl d_Lbk_isLine_57 ?_
      obtain ⟨o3, h⟩ := h
      obtain ⟨ht, hf⟩ := h
      refine Aw.if_ne (tgt := 71) o3 (by decide) d_Lbk_isLine_59 (fun c7 => ?_) (fun c7 => ?_)
      · have h := ht c7
        refine Aw.iload_n rfl d_Lbk_isLine_71 ?_
        refine Aw.iload rfl d_Lbk_isLine_72 ?_
        obtain ⟨ht, hf⟩ := h
        refine Aw.if_eq (tgt := 81) o3 (by decide) d_Lbk_isLine_74 (fun c4 => ?_) (fun c4 => ?_)
        · have h := ht c4
          refine Aw.iconst d_Lbk_isLine_81 ?_
          refine Aw.iadd d_Lbk_isLine_82 ?_
          refine Aw.istore_n (by decide) d_Lbk_isLine_83 ?_
          refine Aw.toL (L' := [xl v0, xu, xi (v2 + 0), xi v3, xi v4, xi v5, xi s0]) rfl ?_
          refine Aw.iinc rfl d_Lbk_isLine_84 ?_
          refine Aw.toL (L' := [xl v0, xu, xi (v2 + 0), xi v3, xi (v4 + 1), xi v5, xi s0]) rfl ?_
          refine Aw.goto (tgt := 7) (by decide) d_Lbk_isLine_87 ?_
          exact Aw.toW (L' := [xl v0, xu, xi (v2 + 0), xi v3, xi (v4 + 1), xu, xu]) ⟨Or.inr rfl, Or.inr rfl, Or.inr rfl, Or.inr rfl, Or.inr rfl, Or.inl rfl, Or.inl rfl, trivial⟩ h
        · have h := hf c4
          refine Aw.iconst d_Lbk_isLine_77 ?_
          refine Aw.goto (tgt := 82) (by decide) d_Lbk_isLine_78 ?_
          refine Aw.iadd d_Lbk_isLine_82 ?_
          refine Aw.istore_n (by decide) d_Lbk_isLine_83 ?_
          refine Aw.toL (L' := [xl v0, xu, xi (v2 + 1), xi v3, xi v4, xi v5, xi s0]) rfl ?_
          refine Aw.iinc rfl d_Lbk_isLine_84 ?_
          refine Aw.toL (L' := [xl v0, xu, xi (v2 + 1), xi v3, xi (v4 + 1), xi v5, xi s0]) rfl ?_
          refine Aw.goto (tgt := 7) (by decide) d_Lbk_isLine_87 ?_
          exact Aw.toW (L' := [xl v0, xu, xi (v2 + 1), xi v3, xi (v4 + 1), xu, xu]) ⟨Or.inr rfl, Or.inr rfl, Or.inr rfl, Or.inr rfl, Or.inr rfl, Or.inl rfl, Or.inl rfl, trivial⟩ h
      · have h := hf c7
        refine Aw.iload rfl d_Lbk_isLine_62 ?_
        refine Aw.bipush (by decide) d_Lbk_isLine_64 ?_
        obtain ⟨ht, hf⟩ := h
        refine Aw.icmp_eq (tgt := 71) o1 ⟨by decide, by decide⟩ (by decide) d_Lbk_isLine_66 (fun c6 => ?_) (fun c6 => ?_)
        · have h := ht c6
          refine Aw.iload_n rfl d_Lbk_isLine_71 ?_
          refine Aw.iload rfl d_Lbk_isLine_72 ?_
          obtain ⟨ht, hf⟩ := h
          refine Aw.if_eq (tgt := 81) o3 (by decide) d_Lbk_isLine_74 (fun c5 => ?_) (fun c5 => ?_)
          · have h := ht c5
            refine Aw.iconst d_Lbk_isLine_81 ?_
            refine Aw.iadd d_Lbk_isLine_82 ?_
            refine Aw.istore_n (by decide) d_Lbk_isLine_83 ?_
            refine Aw.toL (L' := [xl v0, xu, xi (v2 + 0), xi v3, xi v4, xi v5, xi s0]) rfl ?_
            refine Aw.iinc rfl d_Lbk_isLine_84 ?_
            refine Aw.toL (L' := [xl v0, xu, xi (v2 + 0), xi v3, xi (v4 + 1), xi v5, xi s0]) rfl ?_
            refine Aw.goto (tgt := 7) (by decide) d_Lbk_isLine_87 ?_
            exact Aw.toW (L' := [xl v0, xu, xi (v2 + 0), xi v3, xi (v4 + 1), xu, xu]) ⟨Or.inr rfl, Or.inr rfl, Or.inr rfl, Or.inr rfl, Or.inr rfl, Or.inl rfl, Or.inl rfl, trivial⟩ h
          · have h := hf c5
            refine Aw.iconst d_Lbk_isLine_77 ?_
            refine Aw.goto (tgt := 82) (by decide) d_Lbk_isLine_78 ?_
            refine Aw.iadd d_Lbk_isLine_82 ?_
            refine Aw.istore_n (by decide) d_Lbk_isLine_83 ?_
            refine Aw.toL (L' := [xl v0, xu, xi (v2 + 1), xi v3, xi v4, xi v5, xi s0]) rfl ?_
            refine Aw.iinc rfl d_Lbk_isLine_84 ?_
            refine Aw.toL (L' := [xl v0, xu, xi (v2 + 1), xi v3, xi (v4 + 1), xi v5, xi s0]) rfl ?_
            refine Aw.goto (tgt := 7) (by decide) d_Lbk_isLine_87 ?_
            exact Aw.toW (L' := [xl v0, xu, xi (v2 + 1), xi v3, xi (v4 + 1), xu, xu]) ⟨Or.inr rfl, Or.inr rfl, Or.inr rfl, Or.inr rfl, Or.inr rfl, Or.inl rfl, Or.inl rfl, trivial⟩ h
        · have h := hf c6
          refine Aw.iconst d_Lbk_isLine_69 ?_
          exact h
  · have h := hf c11
    refine Aw.iconst d_Lbk_isLine_48 ?_
    refine Aw.istore_n (by decide) d_Lbk_isLine_49 ?_
    refine Aw.toL (L' := [xl v0, xu, xi v2, xi 1, xi v4, xi v5, xi s0]) rfl ?_
    refine Aw.goto (tgt := 71) (by decide) d_Lbk_isLine_50 ?_
    refine Aw.iload_n rfl d_Lbk_isLine_71 ?_
    refine Aw.iload rfl d_Lbk_isLine_72 ?_
    obtain ⟨o9, h⟩ := h
    obtain ⟨ht, hf⟩ := h
    refine Aw.if_eq (tgt := 81) o9 (by decide) d_Lbk_isLine_74 (fun c10 => ?_) (fun c10 => ?_)
    · have h := ht c10
      refine Aw.iconst d_Lbk_isLine_81 ?_
      refine Aw.iadd d_Lbk_isLine_82 ?_
      refine Aw.istore_n (by decide) d_Lbk_isLine_83 ?_
      refine Aw.toL (L' := [xl v0, xu, xi (v2 + 0), xi 1, xi v4, xi v5, xi s0]) rfl ?_
      refine Aw.iinc rfl d_Lbk_isLine_84 ?_
      refine Aw.toL (L' := [xl v0, xu, xi (v2 + 0), xi 1, xi (v4 + 1), xi v5, xi s0]) rfl ?_
      refine Aw.goto (tgt := 7) (by decide) d_Lbk_isLine_87 ?_
      exact Aw.toW (L' := [xl v0, xu, xi (v2 + 0), xi 1, xi (v4 + 1), xu, xu]) ⟨Or.inr rfl, Or.inr rfl, Or.inr rfl, Or.inr rfl, Or.inr rfl, Or.inl rfl, Or.inl rfl, trivial⟩ h
    · have h := hf c10
      refine Aw.iconst d_Lbk_isLine_77 ?_
      refine Aw.goto (tgt := 82) (by decide) d_Lbk_isLine_78 ?_
      refine Aw.iadd d_Lbk_isLine_82 ?_
      refine Aw.istore_n (by decide) d_Lbk_isLine_83 ?_
      refine Aw.toL (L' := [xl v0, xu, xi (v2 + 1), xi 1, xi v4, xi v5, xi s0]) rfl ?_
      refine Aw.iinc rfl d_Lbk_isLine_84 ?_
      refine Aw.toL (L' := [xl v0, xu, xi (v2 + 1), xi 1, xi (v4 + 1), xi v5, xi s0]) rfl ?_
      refine Aw.goto (tgt := 7) (by decide) d_Lbk_isLine_87 ?_
      exact Aw.toW (L' := [xl v0, xu, xi (v2 + 1), xi 1, xi (v4 + 1), xu, xu]) ⟨Or.inr rfl, Or.inr rfl, Or.inr rfl, Or.inr rfl, Or.inr rfl, Or.inl rfl, Or.inl rfl, trivial⟩ h
theorem b_Lbk_isLine_40 {Ω : Om} {R : Room} {F : QF} {k n : Nat} {σ : Sto} {v0 : Int64} {v2 : Int} {v3 : Int} {v4 : Int} {v5 : Int} (h : Q32 v5 ∧ ((¬ v5 = (0 : Int) → Q32 v3 ∧ ((¬ v3 = (0 : Int) → Aw Ω M_Lbk_isLine R F k n 70 [xl v0, xu, xi v2, xi v3, xi v4, xi v5, xi 0] [xi 0] σ) ∧ (v3 = (0 : Int) → ((v5 = (32 : Int) → Aw Ω M_Lbk_isLine R F k n 7 [xl v0, xu, xi (v2 + 0), xi v3, xi (v4 + 1), xu, xu] [] σ) ∧ (¬ v5 = (32 : Int) → Aw Ω M_Lbk_isLine R F k n 70 [xl v0, xu, xi v2, xi v3, xi v4, xi v5, xi 0] [xi 0] σ))))) ∧ (v5 = (0 : Int) → Aw Ω M_Lbk_isLine R F k n 7 [xl v0, xu, xi (v2 + 0), xi 1, xi (v4 + 1), xu, xu] [] σ))) : Aw Ω M_Lbk_isLine R F k n 40 [xl v0, xu, xi v2, xi v3, xi v4, xi v5, xu] [] σ := by
  refine Aw.iconst d_Lbk_isLine_40 ?_
  refine Aw.istore (by decide) d_Lbk_isLine_41 ?_
  refine Aw.toL (L' := [xl v0, xu, xi v2, xi v3, xi v4, xi v5, xi 0]) rfl ?_
  refine Aw.iload rfl d_Lbk_isLine_43 ?_
  obtain ⟨o1, h⟩ := h
  obtain ⟨ht, hf⟩ := h
  refine Aw.if_ne (tgt := 53) o1 (by decide) d_Lbk_isLine_45 (fun c8 => ?_) (fun c8 => ?_)
  · have h := ht c8
    refine Aw.iload_n rfl d_Lbk_isLine_53 ?_
    obtain ⟨o2, h⟩ := h
    obtain ⟨ht, hf⟩ := h
    refine Aw.if_ne (tgt := 69) o2 (by decide) d_Lbk_isLine_54 (fun c6 => ?_) (fun c6 => ?_)
    · have h := ht c6
      refine Aw.iconst d_Lbk_isLine_69 ?_
      exact h
    · have h := hf c6
      refine Aw.iload rfl d_Lbk_isLine_57 ?_
      refine Aw.if_ne (tgt := 71) ⟨by decide, by decide⟩ (by decide) d_Lbk_isLine_59 (fun c5 => absurd c5 (by decide)) (fun c5 => ?_)
      refine Aw.iload rfl d_Lbk_isLine_62 ?_
      refine Aw.bipush (by decide) d_Lbk_isLine_64 ?_
      obtain ⟨ht, hf⟩ := h
      refine Aw.icmp_eq (tgt := 71) o1 ⟨by decide, by decide⟩ (by decide) d_Lbk_isLine_66 (fun c4 => ?_) (fun c4 => ?_)
      · have h := ht c4
        refine Aw.iload_n rfl d_Lbk_isLine_71 ?_
        refine Aw.iload rfl d_Lbk_isLine_72 ?_
        refine Aw.if_eq (tgt := 81) ⟨by decide, by decide⟩ (by decide) d_Lbk_isLine_74 (fun c3 => ?_) (fun c3 => absurd c3 (by decide))
        refine Aw.iconst d_Lbk_isLine_81 ?_
        refine Aw.iadd d_Lbk_isLine_82 ?_
        refine Aw.istore_n (by decide) d_Lbk_isLine_83 ?_
        refine Aw.toL (L' := [xl v0, xu, xi (v2 + 0), xi v3, xi v4, xi v5, xi 0]) rfl ?_
        refine Aw.iinc rfl d_Lbk_isLine_84 ?_
        refine Aw.toL (L' := [xl v0, xu, xi (v2 + 0), xi v3, xi (v4 + 1), xi v5, xi 0]) rfl ?_
        refine Aw.goto (tgt := 7) (by decide) d_Lbk_isLine_87 ?_
        exact Aw.toW (L' := [xl v0, xu, xi (v2 + 0), xi v3, xi (v4 + 1), xu, xu]) ⟨Or.inr rfl, Or.inr rfl, Or.inr rfl, Or.inr rfl, Or.inr rfl, Or.inl rfl, Or.inl rfl, trivial⟩ h
      · have h := hf c4
        refine Aw.iconst d_Lbk_isLine_69 ?_
        exact h
  · have h := hf c8
    refine Aw.iconst d_Lbk_isLine_48 ?_
    refine Aw.istore_n (by decide) d_Lbk_isLine_49 ?_
    refine Aw.toL (L' := [xl v0, xu, xi v2, xi 1, xi v4, xi v5, xi 0]) rfl ?_
    refine Aw.goto (tgt := 71) (by decide) d_Lbk_isLine_50 ?_
    refine Aw.iload_n rfl d_Lbk_isLine_71 ?_
    refine Aw.iload rfl d_Lbk_isLine_72 ?_
    refine Aw.if_eq (tgt := 81) ⟨by decide, by decide⟩ (by decide) d_Lbk_isLine_74 (fun c7 => ?_) (fun c7 => absurd c7 (by decide))
    refine Aw.iconst d_Lbk_isLine_81 ?_
    refine Aw.iadd d_Lbk_isLine_82 ?_
    refine Aw.istore_n (by decide) d_Lbk_isLine_83 ?_
    refine Aw.toL (L' := [xl v0, xu, xi (v2 + 0), xi 1, xi v4, xi v5, xi 0]) rfl ?_
    refine Aw.iinc rfl d_Lbk_isLine_84 ?_
    refine Aw.toL (L' := [xl v0, xu, xi (v2 + 0), xi 1, xi (v4 + 1), xi v5, xi 0]) rfl ?_
    refine Aw.goto (tgt := 7) (by decide) d_Lbk_isLine_87 ?_
    exact Aw.toW (L' := [xl v0, xu, xi (v2 + 0), xi 1, xi (v4 + 1), xu, xu]) ⟨Or.inr rfl, Or.inr rfl, Or.inr rfl, Or.inr rfl, Or.inr rfl, Or.inl rfl, Or.inl rfl, trivial⟩ h
theorem c_Lbk_isLine_17 {Ω : Om} {R R' : Room} {F : QF} {k n : Nat} {L st : List PV} {σ : Sto} {QX' : String → Sto → Prop} {Q : Int → Sto → Prop} {x0 : Int64} {x1 : Int} (hc : MC Ω M_Lbk_signAt R' (RI Q) QX' σ [xl x0, xi x1]) (hr1 : R'.frames + 1 ≤ R.frames) (hr2 : 8 + (3 + 11) + R'.locals ≤ R.locals) (hb1 : k + R'.cells ≤ R.cells) (hb2 : n + R'.slots ≤ R.slots) (hst : (st.map catP).sum ≤ 8) (kk : ∀ x σ', Q x σ' → Aw Ω M_Lbk_isLine R F (k + R'.cells) (n + R'.slots) 20 L (xi x :: st) σ') (kx : ∀ E σ', QX' E σ' → Ax Ω M_Lbk_isLine R F (k + R'.cells) (n + R'.slots) 17 L st σ' E) : Aw Ω M_Lbk_isLine R F k n 17 L (xi x1 :: xl x0 :: st) σ :=
  Aw.callS (As := [xl x0, xi x1]) (stk := xi x1 :: xl x0 :: st) (nn := 2) M_Lbk_signAt hc ok_Lbk_signAt rfl ml_Lbk_22 sta_Lbk_signAt ⟨hr1, hr2⟩ rfl ⟨hb1, hb2⟩ hst rfl d_Lbk_isLine_17 (fun r σ' h => by obtain ⟨x, rfl, h⟩ := h; exact kk x σ' h) kx
theorem r_Lbk_isLine_70 {Ω : Om} {R : Room} {k n : Nat} {L : List PV} {σ : Sto} {QR : Option PV → Sto → Prop} {QX : String → Sto → Prop} {x : Int} (hx : x = 0 ∨ x = 1) (h : QR (some (xi x)) σ) (h1 : k ≤ R.cells) (h2 : n ≤ R.slots) : Aw Ω M_Lbk_isLine R (MF Ω R QR QX) k n 70 L [xi x] σ := Aw.zret rfl hx h h1 h2 d_Lbk_isLine_70
theorem r_Lbk_isLine_99 {Ω : Om} {R : Room} {k n : Nat} {L : List PV} {σ : Sto} {QR : Option PV → Sto → Prop} {QX : String → Sto → Prop} {x : Int} (hx : x = 0 ∨ x = 1) (h : QR (some (xi x)) σ) (h1 : k ≤ R.cells) (h2 : n ≤ R.slots) : Aw Ω M_Lbk_isLine R (MF Ω R QR QX) k n 99 L [xi x] σ := Aw.zret rfl hx h h1 h2 d_Lbk_isLine_99
theorem e_Lbk_isOrComesFrom {Ω : Om} {R : Room} {QR : Option PV → Sto → Prop} {QX : String → Sto → Prop} {σ : Sto} {a0 : Nat} {v1 : Int} {v2 : Int} (h : Aw Ω M_Lbk_isOrComesFrom R (MF Ω R QR QX) 0 0 0 [xr (some a0), xi v1, xi v2, xu, xu] [] σ) : MC Ω M_Lbk_isOrComesFrom R QR QX σ [xr (some a0), xi v1, xi v2] := MC.body (by decide +kernel) rfl (Nat.le_of_ble_eq_true rfl) rfl h
theorem b_Lbk_isOrComesFrom_0 {Ω : Om} {R : Room} {F : QF} {k n : Nat} {σ : Sto} {a0 : Nat} {v1 : Int} {v2 : Int} (h : Aw Ω M_Lbk_isOrComesFrom R F k n 5 [xr (some a0), xi v1, xi v2, xi v1, xi 0] [] σ) : Aw Ω M_Lbk_isOrComesFrom R F k n 0 [xr (some a0), xi v1, xi v2, xu, xu] [] σ := by
  refine Aw.iload_n rfl d_Lbk_isOrComesFrom_0 ?_
  refine Aw.istore_n (by decide) d_Lbk_isOrComesFrom_1 ?_
  refine Aw.toL (L' := [xr (some a0), xi v1, xi v2, xi v1, xu]) rfl ?_
  refine Aw.iconst d_Lbk_isOrComesFrom_2 ?_
  refine Aw.istore (by decide) d_Lbk_isOrComesFrom_3 ?_
  refine Aw.toL (L' := [xr (some a0), xi v1, xi v2, xi v1, xi 0]) rfl ?_
  exact h
theorem b_Lbk_isOrComesFrom_5 {Ω : Om} {R : Room} {F : QF} {k n : Nat} {σ : Sto} {a0 : Nat} {v1 : Int} {v2 : Int} {v3 : Int} {v4 : Int} (h : sK σ a0 = 7 ∧ (Q32 (fI σ 386 a0) → Q32 v4 ∧ (((fI σ 386 a0) ≤ v4 → Aw Ω M_Lbk_isOrComesFrom R F k n 47 [xr (some a0), xi v1, xi v2, xi v3, xi v4] [xi 0] σ) ∧ (¬ (fI σ 386 a0) ≤ v4 → Q32 v3 ∧ ((v3 < (0 : Int) → Aw Ω M_Lbk_isOrComesFrom R F k n 47 [xr (some a0), xi v1, xi v2, xi v3, xi v4] [xi 0] σ) ∧ (¬ v3 < (0 : Int) → (Q32 (fI σ 386 a0) → (((fI σ 386 a0) ≤ v3 → Aw Ω M_Lbk_isOrComesFrom R F k n 47 [xr (some a0), xi v1, xi v2, xi v3, xi v4] [xi 0] σ) ∧ (¬ (fI σ 386 a0) ≤ v3 → Q32 v2 ∧ ((¬ v3 = v2 → (∃ b7 : Nat, fR σ 385 a0 = some b7 ∧ sK σ b7 = 50 ∧ 0 ≤ v3 ∧ v3 < sZ σ b7 ∧ (Q32 (aI σ b7 (v3).toNat) → Aw Ω M_Lbk_isOrComesFrom R F k n 5 [xr (some a0), xi v1, xi v2, xi (aI σ b7 (v3).toNat), xi (v4 + 1)] [] σ))) ∧ (v3 = v2 → Aw Ω M_Lbk_isOrComesFrom R F k n 32 [xr (some a0), xi v1, xi v2, xi v3, xi v4] [xi 1] σ))))))))))) : Aw Ω M_Lbk_isOrComesFrom R F k n 5 [xr (some a0), xi v1, xi v2, xi v3, xi v4] [] σ := by
  refine Aw.iload rfl d_Lbk_isOrComesFrom_5 ?_
  refine Aw.aload_n rfl d_Lbk_isOrComesFrom_7 ?_
  obtain ⟨o1, h⟩ := h
  refine Aw.getI (f := 386) 6 2 fl_Lbk_18 (by decide) (by decide) rfl rfl o1 d_Lbk_isOrComesFrom_8 (fun r2 => ?_)
  have h := h r2
  obtain ⟨o3, h⟩ := h
  obtain ⟨ht, hf⟩ := h
  refine Aw.icmp_ge (tgt := 46) o3 r2 (by decide) d_Lbk_isOrComesFrom_11 (fun c16 => ?_) (fun c16 => ?_)
  · have h := ht c16
    refine Aw.iconst d_Lbk_isOrComesFrom_46 ?_
    exact h
  · have h := hf c16
    refine Aw.iload_n rfl d_Lbk_isOrComesFrom_14 ?_
    obtain ⟨o4, h⟩ := h
    obtain ⟨ht, hf⟩ := h
    refine Aw.if_lt (tgt := 46) o4 (by decide) d_Lbk_isOrComesFrom_15 (fun c15 => ?_) (fun c15 => ?_)
    · have h := ht c15
      refine Aw.iconst d_Lbk_isOrComesFrom_46 ?_
      exact h
    · have h := hf c15
      refine Aw.iload_n rfl d_Lbk_isOrComesFrom_18 ?_
      refine Aw.aload_n rfl d_Lbk_isOrComesFrom_19 ?_
      refine Aw.getI (f := 386) 6 2 fl_Lbk_18 (by decide) (by decide) rfl rfl o1 d_Lbk_isOrComesFrom_20 (fun r5 => ?_)
      have h := h r5
      obtain ⟨ht, hf⟩ := h
      refine Aw.icmp_ge (tgt := 46) o4 r5 (by decide) d_Lbk_isOrComesFrom_23 (fun c14 => ?_) (fun c14 => ?_)
      · have h := ht c14
        refine Aw.iconst d_Lbk_isOrComesFrom_46 ?_
        exact h
      · have h := hf c14
        refine Aw.iload_n rfl d_Lbk_isOrComesFrom_26 ?_
        refine Aw.iload_n rfl d_Lbk_isOrComesFrom_27 ?_
        obtain ⟨o6, h⟩ := h
        obtain ⟨ht, hf⟩ := h
        refine Aw.icmp_ne (tgt := 33) o4 o6 (by decide) d_Lbk_isOrComesFrom_28 (fun c13 => ?_) (fun c13 => ?_)
        · have h := ht c13
          refine Aw.aload_n rfl d_Lbk_isOrComesFrom_33 ?_
          obtain ⟨b7, e8, h⟩ := h
          refine Aw.getRs (f := 385) 6 1 fl_Lbk_15 (by decide) (by decide) rfl rfl o1 e8 d_Lbk_isOrComesFrom_34 ?_
          refine Aw.iload_n rfl d_Lbk_isOrComesFrom_37 ?_
          obtain ⟨o9, h⟩ := h
          obtain ⟨o10, o11, h⟩ := h
          refine Aw.iald o9 o10 o11 d_Lbk_isOrComesFrom_38 (fun r12 => ?_)
          have h := h r12
          refine Aw.istore_n (by decide) d_Lbk_isOrComesFrom_39 ?_
          refine Aw.toL (L' := [xr (some a0), xi v1, xi v2, xi (aI σ b7 (v3).toNat), xi v4]) rfl ?_
          refine Aw.iinc rfl d_Lbk_isOrComesFrom_40 ?_
          refine Aw.toL (L' := [xr (some a0), xi v1, xi v2, xi (aI σ b7 (v3).toNat), xi (v4 + 1)]) rfl ?_
          refine Aw.goto (tgt := 5) (by decide) d_Lbk_isOrComesFrom_43 ?_
          exact h
        · have h := hf c13
          refine Aw.iconst d_Lbk_isOrComesFrom_31 ?_
          exact h
theorem r_Lbk_isOrComesFrom_32 {Ω : Om} {R : Room} {k n : Nat} {L : List PV} {σ : Sto} {QR : Option PV → Sto → Prop} {QX : String → Sto → Prop} {x : Int} (hx : x = 0 ∨ x = 1) (h : QR (some (xi x)) σ) (h1 : k ≤ R.cells) (h2 : n ≤ R.slots) : Aw Ω M_Lbk_isOrComesFrom R (MF Ω R QR QX) k n 32 L [xi x] σ := Aw.zret rfl hx h h1 h2 d_Lbk_isOrComesFrom_32
theorem r_Lbk_isOrComesFrom_47 {Ω : Om} {R : Room} {k n : Nat} {L : List PV} {σ : Sto} {QR : Option PV → Sto → Prop} {QX : String → Sto → Prop} {x : Int} (hx : x = 0 ∨ x = 1) (h : QR (some (xi x)) σ) (h1 : k ≤ R.cells) (h2 : n ≤ R.slots) : Aw Ω M_Lbk_isOrComesFrom R (MF Ω R QR QX) k n 47 L [xi x] σ := Aw.zret rfl hx h h1 h2 d_Lbk_isOrComesFrom_47
theorem e_Lbk_lengthOf {Ω : Om} {R : Room} {QR : Option PV → Sto → Prop} {QX : String → Sto → Prop} {σ : Sto} {v0 : Int64} (h : Aw Ω M_Lbk_lengthOf R (MF Ω R QR QX) 0 0 0 [xl v0, xu, xu] [] σ) : MC Ω M_Lbk_lengthOf R QR QX σ [xl v0] := MC.body (by decide +kernel) rfl (Nat.le_of_ble_eq_true rfl) rfl h
theorem b_Lbk_lengthOf_0 {Ω : Om} {R : Room} {F : QF} {k n : Nat} {σ : Sto} {v0 : Int64} (h : Aw Ω M_Lbk_lengthOf R F k n 2 [xl v0, xu, xi 0] [] σ) : Aw Ω M_Lbk_lengthOf R F k n 0 [xl v0, xu, xu] [] σ := by
  refine Aw.iconst d_Lbk_lengthOf_0 ?_
  refine Aw.istore_n (by decide) d_Lbk_lengthOf_1 ?_
  refine Aw.toL (L' := [xl v0, xu, xi 0]) rfl ?_
  exact h
theorem b_Lbk_lengthOf_2 {Ω : Om} {R : Room} {F : QF} {k n : Nat} {σ : Sto} {v0 : Int64} {v2 : Int} (h : Q32 v2 ∧ (((8 : Int) ≤ v2 → Aw Ω M_Lbk_lengthOf R F k n 23 [xl v0, xu, xi v2] [xi v2] σ) ∧ (¬ (8 : Int) ≤ v2 → Aw Ω M_Lbk_lengthOf R F k n 10 [xl v0, xu, xi v2] [xi v2, xl v0] σ))) : Aw Ω M_Lbk_lengthOf R F k n 2 [xl v0, xu, xi v2] [] σ := by
  refine Aw.iload_n rfl d_Lbk_lengthOf_2 ?_
  refine Aw.bipush (by decide) d_Lbk_lengthOf_3 ?_
  obtain ⟨o1, h⟩ := h
  obtain ⟨ht, hf⟩ := h
  refine Aw.icmp_ge (tgt := 22) o1 ⟨by decide, by decide⟩ (by decide) d_Lbk_lengthOf_5 (fun c2 => ?_) (fun c2 => ?_)
  · have h := ht c2
    refine Aw.iload_n rfl d_Lbk_lengthOf_22 ?_
    exact h
  · have h := hf c2
    refine Aw.lload_n rfl d_Lbk_lengthOf_8 ?_
    refine Aw.iload_n rfl d_Lbk_lengthOf_9 ?_
    exact h
theorem b_Lbk_lengthOf_13 {Ω : Om} {R : Room} {F : QF} {k n : Nat} {σ : Sto} {v0 : Int64} {v2 : Int} {s0 : Int} (h : Q32 s0 ∧ ((s0 = (0 : Int) → Aw Ω M_Lbk_lengthOf R F k n 23 [xl v0, xu, xi v2] [xi v2] σ) ∧ (¬ s0 = (0 : Int) → Aw Ω M_Lbk_lengthOf R F k n 2 [xl v0, xu, xi (v2 + 1)] [] σ))) : Aw Ω M_Lbk_lengthOf R F k n 13 [xl v0, xu, xi v2] [xi s0] σ := by
  obtain ⟨o1, h⟩ := h
  obtain ⟨ht, hf⟩ := h
  refine Aw.if_eq (tgt := 22) o1 (by decide) d_Lbk_lengthOf_13 (fun c2 => ?_) (fun c2 => ?_)
  · have h := ht c2
    refine Aw.iload_n rfl d_Lbk_lengthOf_22 ?_
    exact h
  · have h := hf c2
    refine Aw.iinc rfl d_Lbk_lengthOf_16 ?_
    refine Aw.toL (L' := [xl v0, xu, xi (v2 + 1)]) rfl ?_
    refine Aw.goto (tgt := 2) (by decide) d_Lbk_lengthOf_19 ?_
    exact h
theorem c_Lbk_lengthOf_10 {Ω : Om} {R R' : Room} {F : QF} {k n : Nat} {L st : List PV} {σ : Sto} {QX' : String → Sto → Prop} {Q : Int → Sto → Prop} {x0 : Int64} {x1 : Int} (hc : MC Ω M_Lbk_signAt R' (RI Q) QX' σ [xl x0, xi x1]) (hr1 : R'.frames + 1 ≤ R.frames) (hr2 : 8 + (3 + 11) + R'.locals ≤ R.locals) (hb1 : k + R'.cells ≤ R.cells) (hb2 : n + R'.slots ≤ R.slots) (hst : (st.map catP).sum ≤ 8) (kk : ∀ x σ', Q x σ' → Aw Ω M_Lbk_lengthOf R F (k + R'.cells) (n + R'.slots) 13 L (xi x :: st) σ') (kx : ∀ E σ', QX' E σ' → Ax Ω M_Lbk_lengthOf R F (k + R'.cells) (n + R'.slots) 10 L st σ' E) : Aw Ω M_Lbk_lengthOf R F k n 10 L (xi x1 :: xl x0 :: st) σ :=
  Aw.callS (As := [xl x0, xi x1]) (stk := xi x1 :: xl x0 :: st) (nn := 2) M_Lbk_signAt hc ok_Lbk_signAt rfl ml_Lbk_22 sta_Lbk_signAt ⟨hr1, hr2⟩ rfl ⟨hb1, hb2⟩ hst rfl d_Lbk_lengthOf_10 (fun r σ' h => by obtain ⟨x, rfl, h⟩ := h; exact kk x σ' h) kx
theorem r_Lbk_lengthOf_23 {Ω : Om} {R : Room} {k n : Nat} {L : List PV} {σ : Sto} {QR : Option PV → Sto → Prop} {QX : String → Sto → Prop} {x : Int} (h : QR (some (xi x)) σ) (h1 : k ≤ R.cells) (h2 : n ≤ R.slots) : Aw Ω M_Lbk_lengthOf R (MF Ω R QR QX) k n 23 L [xi x] σ := Aw.iret rfl h h1 h2 d_Lbk_lengthOf_23
theorem e_Lbk_lettersOf {Ω : Om} {R : Room} {QR : Option PV → Sto → Prop} {QX : String → Sto → Prop} {σ : Sto} {v0 : Int64} (h : Aw Ω M_Lbk_lettersOf R (MF Ω R QR QX) 0 0 0 [xl v0, xu, xu, xu, xu, xu, xu, xu] [] σ) : MC Ω M_Lbk_lettersOf R QR QX σ [xl v0] := MC.body (by decide +kernel) rfl (Nat.le_of_ble_eq_true rfl) rfl h
theorem b_Lbk_lettersOf_0 {Ω : Om} {R : Room} {F : QF} {k n : Nat} {σ : Sto} {v0 : Int64} (h : Aw Ω M_Lbk_lettersOf R F k n 8 [xl v0, xu, xl 0, xu, xi 0, xi 0, xu, xu] [] σ) : Aw Ω M_Lbk_lettersOf R F k n 0 [xl v0, xu, xu, xu, xu, xu, xu, xu] [] σ := by
  refine Aw.lconst (w := 0) (by decide) d_Lbk_lettersOf_0 ?_
  refine Aw.lstore_n (by decide) d_Lbk_lettersOf_1 ?_
  refine Aw.toL (L' := [xl v0, xu, xl 0, xu, xu, xu, xu, xu]) rfl ?_
  refine Aw.iconst d_Lbk_lettersOf_2 ?_
  refine Aw.istore (by decide) d_Lbk_lettersOf_3 ?_
  refine Aw.toL (L' := [xl v0, xu, xl 0, xu, xi 0, xu, xu, xu]) rfl ?_
  refine Aw.iconst d_Lbk_lettersOf_5 ?_
  refine Aw.istore (by decide) d_Lbk_lettersOf_6 ?_
  refine Aw.toL (L' := [xl v0, xu, xl 0, xu, xi 0, xi 0, xu, xu]) rfl ?_
  exact h
theorem b_Lbk_lettersOf_8 {Ω : Om} {R : Room} {F : QF} {k n : Nat} {σ : Sto} {v0 : Int64} {v2 : Int64} {v4 : Int} {v5 : Int} (h : Q32 v5 ∧ (((8 : Int) ≤ v5 → Aw Ω M_Lbk_lettersOf R F k n 61 [xl v0, xu, xl v2, xu, xi v4, xi v5, xu, xu] [xl v2] σ) ∧ (¬ (8 : Int) ≤ v5 → Aw Ω M_Lbk_lettersOf R F k n 18 [xl v0, xu, xl v2, xu, xi v4, xi v5, xu, xu] [xi v5, xl v0] σ))) : Aw Ω M_Lbk_lettersOf R F k n 8 [xl v0, xu, xl v2, xu, xi v4, xi v5, xu, xu] [] σ := by
  refine Aw.iload rfl d_Lbk_lettersOf_8 ?_
  refine Aw.bipush (by decide) d_Lbk_lettersOf_10 ?_
  obtain ⟨o1, h⟩ := h
  obtain ⟨ht, hf⟩ := h
  refine Aw.icmp_ge (tgt := 60) o1 ⟨by decide, by decide⟩ (by decide) d_Lbk_lettersOf_12 (fun c2 => ?_) (fun c2 => ?_)
  · have h := ht c2
    refine Aw.lload_n rfl d_Lbk_lettersOf_60 ?_
    exact h
  · have h := hf c2
    refine Aw.lload_n rfl d_Lbk_lettersOf_15 ?_
    refine Aw.iload rfl d_Lbk_lettersOf_16 ?_
    exact h
theorem b_Lbk_lettersOf_21 {Ω : Om} {R : Room} {F : QF} {k n : Nat} {σ : Sto} {v0 : Int64} {v2 : Int64} {v4 : Int} {v5 : Int} {s0 : Int} (h : Q32 (cmpL (lOf s0) 0) ∧ (((cmpL (lOf s0) 0) = (0 : Int) → Aw Ω M_Lbk_lettersOf R F k n 8 [xl v0, xu, xl v2, xu, xi v4, xi (v5 + 1), xu, xu] [] σ) ∧ (¬ (cmpL (lOf s0) 0) = (0 : Int) → Q32 (cmpL (lOf s0) 32) ∧ (((cmpL (lOf s0) 32) = (0 : Int) → Aw Ω M_Lbk_lettersOf R F k n 8 [xl v0, xu, xl v2, xu, xi v4, xi (v5 + 1), xu, xu] [] σ) ∧ (¬ (cmpL (lOf s0) 32) = (0 : Int) → Aw Ω M_Lbk_lettersOf R F k n 8 [xl v0, xu, xl (v2 ||| (lShl (lOf s0) (8 * v4))), xu, xi (v4 + 1), xi (v5 + 1), xu, xu] [] σ))))) : Aw Ω M_Lbk_lettersOf R F k n 21 [xl v0, xu, xl v2, xu, xi v4, xi v5, xu, xu] [xi s0] σ := by
  refine Aw.i2l d_Lbk_lettersOf_21 ?_
  refine Aw.lstore (by decide) d_Lbk_lettersOf_22 ?_
  refine Aw.toL (L' := [xl v0, xu, xl v2, xu, xi v4, xi v5, xl (lOf s0), xu]) rfl ?_
  refine Aw.lload rfl d_Lbk_lettersOf_24 ?_
  refine Aw.lconst (w := 0) (by decide) d_Lbk_lettersOf_26 ?_
  refine Aw.lcmp d_Lbk_lettersOf_27 ?_
  obtain ⟨o1, h⟩ := h
  obtain ⟨ht, hf⟩ := h
  refine Aw.if_eq (tgt := 54) o1 (by decide) d_Lbk_lettersOf_28 (fun c4 => ?_) (fun c4 => ?_)
  · have h := ht c4
    refine Aw.iinc rfl d_Lbk_lettersOf_54 ?_
    refine Aw.toL (L' := [xl v0, xu, xl v2, xu, xi v4, xi (v5 + 1), xl (lOf s0), xu]) rfl ?_
    refine Aw.goto (tgt := 8) (by decide) d_Lbk_lettersOf_57 ?_
    exact Aw.toW (L' := [xl v0, xu, xl v2, xu, xi v4, xi (v5 + 1), xu, xu]) ⟨Or.inr rfl, Or.inr rfl, Or.inr rfl, Or.inr rfl, Or.inr rfl, Or.inr rfl, Or.inl rfl, Or.inr rfl, trivial⟩ h
  · have h := hf c4
    refine Aw.lload rfl d_Lbk_lettersOf_31 ?_
    refine Aw.ldc2 (v := 32) lg_Lbk_26 d_Lbk_lettersOf_33 ?_
    refine Aw.lcmp d_Lbk_lettersOf_36 ?_
    obtain ⟨o2, h⟩ := h
    obtain ⟨ht, hf⟩ := h
    refine Aw.if_eq (tgt := 54) o2 (by decide) d_Lbk_lettersOf_37 (fun c3 => ?_) (fun c3 => ?_)
    · have h := ht c3
      refine Aw.iinc rfl d_Lbk_lettersOf_54 ?_
      refine Aw.toL (L' := [xl v0, xu, xl v2, xu, xi v4, xi (v5 + 1), xl (lOf s0), xu]) rfl ?_
      refine Aw.goto (tgt := 8) (by decide) d_Lbk_lettersOf_57 ?_
      exact Aw.toW (L' := [xl v0, xu, xl v2, xu, xi v4, xi (v5 + 1), xu, xu]) ⟨Or.inr rfl, Or.inr rfl, Or.inr rfl, Or.inr rfl, Or.inr rfl, Or.inr rfl, Or.inl rfl, Or.inr rfl, trivial⟩ h
    · have h := hf c3
      refine Aw.lload_n rfl d_Lbk_lettersOf_40 ?_
      refine Aw.lload rfl d_Lbk_lettersOf_41 ?_
      refine Aw.bipush (by decide) d_Lbk_lettersOf_43 ?_
      refine Aw.iload rfl d_Lbk_lettersOf_45 ?_
      refine Aw.imul d_Lbk_lettersOf_47 ?_
      refine Aw.lshl d_Lbk_lettersOf_48 ?_
      refine Aw.lor d_Lbk_lettersOf_49 ?_
      refine Aw.lstore_n (by decide) d_Lbk_lettersOf_50 ?_
      refine Aw.toL (L' := [xl v0, xu, xl (v2 ||| (lShl (lOf s0) (8 * v4))), xu, xi v4, xi v5, xl (lOf s0), xu]) rfl ?_
      refine Aw.iinc rfl d_Lbk_lettersOf_51 ?_
      refine Aw.toL (L' := [xl v0, xu, xl (v2 ||| (lShl (lOf s0) (8 * v4))), xu, xi (v4 + 1), xi v5, xl (lOf s0), xu]) rfl ?_
      refine Aw.iinc rfl d_Lbk_lettersOf_54 ?_
      refine Aw.toL (L' := [xl v0, xu, xl (v2 ||| (lShl (lOf s0) (8 * v4))), xu, xi (v4 + 1), xi (v5 + 1), xl (lOf s0), xu]) rfl ?_
      refine Aw.goto (tgt := 8) (by decide) d_Lbk_lettersOf_57 ?_
      exact Aw.toW (L' := [xl v0, xu, xl (v2 ||| (lShl (lOf s0) (8 * v4))), xu, xi (v4 + 1), xi (v5 + 1), xu, xu]) ⟨Or.inr rfl, Or.inr rfl, Or.inr rfl, Or.inr rfl, Or.inr rfl, Or.inr rfl, Or.inl rfl, Or.inr rfl, trivial⟩ h
theorem c_Lbk_lettersOf_18 {Ω : Om} {R R' : Room} {F : QF} {k n : Nat} {L st : List PV} {σ : Sto} {QX' : String → Sto → Prop} {Q : Int → Sto → Prop} {x0 : Int64} {x1 : Int} (hc : MC Ω M_Lbk_signAt R' (RI Q) QX' σ [xl x0, xi x1]) (hr1 : R'.frames + 1 ≤ R.frames) (hr2 : 8 + (3 + 11) + R'.locals ≤ R.locals) (hb1 : k + R'.cells ≤ R.cells) (hb2 : n + R'.slots ≤ R.slots) (hst : (st.map catP).sum ≤ 8) (kk : ∀ x σ', Q x σ' → Aw Ω M_Lbk_lettersOf R F (k + R'.cells) (n + R'.slots) 21 L (xi x :: st) σ') (kx : ∀ E σ', QX' E σ' → Ax Ω M_Lbk_lettersOf R F (k + R'.cells) (n + R'.slots) 18 L st σ' E) : Aw Ω M_Lbk_lettersOf R F k n 18 L (xi x1 :: xl x0 :: st) σ :=
  Aw.callS (As := [xl x0, xi x1]) (stk := xi x1 :: xl x0 :: st) (nn := 2) M_Lbk_signAt hc ok_Lbk_signAt rfl ml_Lbk_22 sta_Lbk_signAt ⟨hr1, hr2⟩ rfl ⟨hb1, hb2⟩ hst rfl d_Lbk_lettersOf_18 (fun r σ' h => by obtain ⟨x, rfl, h⟩ := h; exact kk x σ' h) kx
theorem r_Lbk_lettersOf_61 {Ω : Om} {R : Room} {k n : Nat} {L : List PV} {σ : Sto} {QR : Option PV → Sto → Prop} {QX : String → Sto → Prop} {x : Int64} (h : QR (some (xl x)) σ) (h1 : k ≤ R.cells) (h2 : n ≤ R.slots) : Aw Ω M_Lbk_lettersOf R (MF Ω R QR QX) k n 61 L [xl x] σ := Aw.lret rfl h h1 h2 d_Lbk_lettersOf_61
theorem e_Lbk_likenessOf {Ω : Om} {R : Room} {QR : Option PV → Sto → Prop} {QX : String → Sto → Prop} {σ : Sto} {v0 : Int64} {v2 : Int64} (h : Aw Ω M_Lbk_likenessOf R (MF Ω R QR QX) 0 0 0 [xl v0, xu, xl v2, xu, xu] [] σ) : MC Ω M_Lbk_likenessOf R QR QX σ [xl v0, xl v2] := MC.body (by decide +kernel) rfl (Nat.le_of_ble_eq_true rfl) rfl h
theorem b_Lbk_likenessOf_0 {Ω : Om} {R : Room} {F : QF} {k n : Nat} {σ : Sto} {v0 : Int64} {v2 : Int64} (h : Aw Ω M_Lbk_likenessOf R F k n 1 [xl v0, xu, xl v2, xu, xu] [xl v0] σ) : Aw Ω M_Lbk_likenessOf R F k n 0 [xl v0, xu, xl v2, xu, xu] [] σ := by
  refine Aw.lload_n rfl d_Lbk_likenessOf_0 ?_
  exact h
theorem b_Lbk_likenessOf_4 {Ω : Om} {R : Room} {F : QF} {k n : Nat} {σ : Sto} {v0 : Int64} {v2 : Int64} {s0 : Int} (h : Aw Ω M_Lbk_likenessOf R F k n 5 [xl v0, xu, xl v2, xu, xu] [xl v2, xi s0] σ) : Aw Ω M_Lbk_likenessOf R F k n 4 [xl v0, xu, xl v2, xu, xu] [xi s0] σ := by
  refine Aw.lload_n rfl d_Lbk_likenessOf_4 ?_
  exact h
theorem b_Lbk_likenessOf_8 {Ω : Om} {R : Room} {F : QF} {k n : Nat} {σ : Sto} {v0 : Int64} {v2 : Int64} {s0 : Int} {s1 : Int} (h : Q32 (s0 + s1) ∧ (((0 : Int) < (s0 + s1) → Aw Ω M_Lbk_likenessOf R F k n 25 [xl v0, xu, xl v2, xu, xi (s0 + s1)] [xl v2, xl v0, xi 200] σ) ∧ (¬ (0 : Int) < (s0 + s1) → Aw Ω M_Lbk_likenessOf R F k n 32 [xl v0, xu, xl v2, xu, xi (s0 + s1)] [xi 0] σ))) : Aw Ω M_Lbk_likenessOf R F k n 8 [xl v0, xu, xl v2, xu, xu] [xi s1, xi s0] σ := by
  refine Aw.iadd d_Lbk_likenessOf_8 ?_
  refine Aw.istore (by decide) d_Lbk_likenessOf_9 ?_
  refine Aw.toL (L' := [xl v0, xu, xl v2, xu, xi (s0 + s1)]) rfl ?_
  refine Aw.iload rfl d_Lbk_likenessOf_11 ?_
  obtain ⟨o1, h⟩ := h
  obtain ⟨ht, hf⟩ := h
  refine Aw.if_gt (tgt := 20) o1 (by decide) d_Lbk_likenessOf_13 (fun c2 => ?_) (fun c2 => ?_)
  · have h := ht c2
    refine Aw.sipush (by decide) d_Lbk_likenessOf_20 ?_
    refine Aw.lload_n rfl d_Lbk_likenessOf_23 ?_
    refine Aw.lload_n rfl d_Lbk_likenessOf_24 ?_
    exact h
  · have h := hf c2
    refine Aw.iconst d_Lbk_likenessOf_16 ?_
    refine Aw.goto (tgt := 32) (by decide) d_Lbk_likenessOf_17 ?_
    exact h
theorem b_Lbk_likenessOf_28 {Ω : Om} {R : Room} {F : QF} {k n : Nat} {σ : Sto} {v0 : Int64} {v2 : Int64} {v4 : Int} {s0 : Int} {s1 : Int} (h : Q32 v4 ∧ v4 ≠ 0 ∧ Aw Ω M_Lbk_likenessOf R F k n 32 [xl v0, xu, xl v2, xu, xi v4] [xi (bDiv (s0 * s1) v4)] σ) : Aw Ω M_Lbk_likenessOf R F k n 28 [xl v0, xu, xl v2, xu, xi v4] [xi s1, xi s0] σ := by
  refine Aw.imul d_Lbk_likenessOf_28 ?_
  refine Aw.iload rfl d_Lbk_likenessOf_29 ?_
  obtain ⟨o1, o2, h⟩ := h
  refine Aw.idiv o1 o2 d_Lbk_likenessOf_31 ?_
  exact h
theorem c_Lbk_likenessOf_1 {Ω : Om} {R R' : Room} {F : QF} {k n : Nat} {L st : List PV} {σ : Sto} {QX' : String → Sto → Prop} {Q : Int → Sto → Prop} {x0 : Int64} (hc : MC Ω M_Lbk_lengthOf R' (RI Q) QX' σ [xl x0]) (hr1 : R'.frames + 1 ≤ R.frames) (hr2 : 8 + (3 + 11) + R'.locals ≤ R.locals) (hb1 : k + R'.cells ≤ R.cells) (hb2 : n + R'.slots ≤ R.slots) (hst : (st.map catP).sum ≤ 8) (kk : ∀ x σ', Q x σ' → Aw Ω M_Lbk_likenessOf R F (k + R'.cells) (n + R'.slots) 4 L (xi x :: st) σ') (kx : ∀ E σ', QX' E σ' → Ax Ω M_Lbk_likenessOf R F (k + R'.cells) (n + R'.slots) 1 L st σ' E) : Aw Ω M_Lbk_likenessOf R F k n 1 L (xl x0 :: st) σ :=
  Aw.callS (As := [xl x0]) (stk := xl x0 :: st) (nn := 1) M_Lbk_lengthOf hc ok_Lbk_lengthOf rfl ml_Lbk_28 sta_Lbk_lengthOf ⟨hr1, hr2⟩ rfl ⟨hb1, hb2⟩ hst rfl d_Lbk_likenessOf_1 (fun r σ' h => by obtain ⟨x, rfl, h⟩ := h; exact kk x σ' h) kx
theorem c_Lbk_likenessOf_5 {Ω : Om} {R R' : Room} {F : QF} {k n : Nat} {L st : List PV} {σ : Sto} {QX' : String → Sto → Prop} {Q : Int → Sto → Prop} {x0 : Int64} (hc : MC Ω M_Lbk_lengthOf R' (RI Q) QX' σ [xl x0]) (hr1 : R'.frames + 1 ≤ R.frames) (hr2 : 8 + (3 + 11) + R'.locals ≤ R.locals) (hb1 : k + R'.cells ≤ R.cells) (hb2 : n + R'.slots ≤ R.slots) (hst : (st.map catP).sum ≤ 8) (kk : ∀ x σ', Q x σ' → Aw Ω M_Lbk_likenessOf R F (k + R'.cells) (n + R'.slots) 8 L (xi x :: st) σ') (kx : ∀ E σ', QX' E σ' → Ax Ω M_Lbk_likenessOf R F (k + R'.cells) (n + R'.slots) 5 L st σ' E) : Aw Ω M_Lbk_likenessOf R F k n 5 L (xl x0 :: st) σ :=
  Aw.callS (As := [xl x0]) (stk := xl x0 :: st) (nn := 1) M_Lbk_lengthOf hc ok_Lbk_lengthOf rfl ml_Lbk_28 sta_Lbk_lengthOf ⟨hr1, hr2⟩ rfl ⟨hb1, hb2⟩ hst rfl d_Lbk_likenessOf_5 (fun r σ' h => by obtain ⟨x, rfl, h⟩ := h; exact kk x σ' h) kx
theorem c_Lbk_likenessOf_25 {Ω : Om} {R R' : Room} {F : QF} {k n : Nat} {L st : List PV} {σ : Sto} {QX' : String → Sto → Prop} {Q : Int → Sto → Prop} {x0 : Int64} {x1 : Int64} (hc : MC Ω M_Lbk_commonSigns R' (RI Q) QX' σ [xl x0, xl x1]) (hr1 : R'.frames + 1 ≤ R.frames) (hr2 : 8 + (12 + 11) + R'.locals ≤ R.locals) (hb1 : k + R'.cells ≤ R.cells) (hb2 : n + R'.slots ≤ R.slots) (hst : (st.map catP).sum ≤ 8) (kk : ∀ x σ', Q x σ' → Aw Ω M_Lbk_likenessOf R F (k + R'.cells) (n + R'.slots) 28 L (xi x :: st) σ') (kx : ∀ E σ', QX' E σ' → Ax Ω M_Lbk_likenessOf R F (k + R'.cells) (n + R'.slots) 25 L st σ' E) : Aw Ω M_Lbk_likenessOf R F k n 25 L (xl x1 :: xl x0 :: st) σ :=
  Aw.callS (As := [xl x0, xl x1]) (stk := xl x1 :: xl x0 :: st) (nn := 2) M_Lbk_commonSigns hc ok_Lbk_commonSigns rfl ml_Lbk_32 sta_Lbk_commonSigns ⟨hr1, hr2⟩ rfl ⟨hb1, hb2⟩ hst rfl d_Lbk_likenessOf_25 (fun r σ' h => by obtain ⟨x, rfl, h⟩ := h; exact kk x σ' h) kx
theorem r_Lbk_likenessOf_32 {Ω : Om} {R : Room} {k n : Nat} {L : List PV} {σ : Sto} {QR : Option PV → Sto → Prop} {QX : String → Sto → Prop} {x : Int} (h : QR (some (xi x)) σ) (h1 : k ≤ R.cells) (h2 : n ≤ R.slots) : Aw Ω M_Lbk_likenessOf R (MF Ω R QR QX) k n 32 L [xi x] σ := Aw.iret rfl h h1 h2 d_Lbk_likenessOf_32
theorem e_Lbk_signAt {Ω : Om} {R : Room} {QR : Option PV → Sto → Prop} {QX : String → Sto → Prop} {σ : Sto} {v0 : Int64} {v2 : Int} (h : Aw Ω M_Lbk_signAt R (MF Ω R QR QX) 0 0 0 [xl v0, xu, xi v2] [] σ) : MC Ω M_Lbk_signAt R QR QX σ [xl v0, xi v2] := MC.body (by decide +kernel) rfl (Nat.le_of_ble_eq_true rfl) rfl h
theorem b_Lbk_signAt_0 {Ω : Om} {R : Room} {F : QF} {k n : Nat} {σ : Sto} {v0 : Int64} {v2 : Int} (h : Aw Ω M_Lbk_signAt R F k n 11 [xl v0, xu, xi v2] [xi (bAnd (iOf (lUsh v0 (8 * v2))) 255)] σ) : Aw Ω M_Lbk_signAt R F k n 0 [xl v0, xu, xi v2] [] σ := by
  refine Aw.lload_n rfl d_Lbk_signAt_0 ?_
  refine Aw.bipush (by decide) d_Lbk_signAt_1 ?_
  refine Aw.iload_n rfl d_Lbk_signAt_3 ?_
  refine Aw.imul d_Lbk_signAt_4 ?_
  refine Aw.lushr d_Lbk_signAt_5 ?_
  refine Aw.l2i d_Lbk_signAt_6 ?_
  refine Aw.sipush (by decide) d_Lbk_signAt_7 ?_
  refine Aw.iand d_Lbk_signAt_10 ?_
  exact h
theorem r_Lbk_signAt_11 {Ω : Om} {R : Room} {k n : Nat} {L : List PV} {σ : Sto} {QR : Option PV → Sto → Prop} {QX : String → Sto → Prop} {x : Int} (h : QR (some (xi x)) σ) (h1 : k ≤ R.cells) (h2 : n ≤ R.slots) : Aw Ω M_Lbk_signAt R (MF Ω R QR QX) k n 11 L [xi x] σ := Aw.iret rfl h h1 h2 d_Lbk_signAt_11
theorem e_Rev_drop {Ω : Om} {R : Room} {QR : Option PV → Sto → Prop} {QX : String → Sto → Prop} {σ : Sto} {a0 : Nat} {v1 : Int} (h : Aw Ω M_Rev_drop R (MF Ω R QR QX) 0 0 0 [xr (some a0), xi v1] [] σ) : MC Ω M_Rev_drop R QR QX σ [xr (some a0), xi v1] := MC.body (by decide +kernel) rfl (Nat.le_of_ble_eq_true rfl) rfl h
theorem b_Rev_drop_0 {Ω : Om} {R : Room} {F : QF} {k n : Nat} {σ : Sto} {a0 : Nat} {v1 : Int} (h : Q32 v1 ∧ ((v1 < (0 : Int) → Aw Ω M_Rev_drop R F k n 20 [xr (some a0), xi v1] [xi 0] σ) ∧ (¬ v1 < (0 : Int) → (((6 : Int) ≤ v1 → Aw Ω M_Rev_drop R F k n 20 [xr (some a0), xi v1] [xi 0] σ) ∧ (¬ (6 : Int) ≤ v1 → sK σ a0 = 9 ∧ (∃ b3 : Nat, fR σ 512 a0 = some b3 ∧ sK σ b3 = 50 ∧ 0 ≤ v1 ∧ v1 < sZ σ b3 ∧ (Q32 (aI σ b3 (v1).toNat) → ((¬ (aI σ b3 (v1).toNat) = (0 : Int) → Aw Ω M_Rev_drop R F k n 29 [xr (some a0), xi v1] [xi 1] (vI σ b3 (v1).toNat 0)) ∧ ((aI σ b3 (v1).toNat) = (0 : Int) → Aw Ω M_Rev_drop R F k n 20 [xr (some a0), xi v1] [xi 0] σ))))))))) : Aw Ω M_Rev_drop R F k n 0 [xr (some a0), xi v1] [] σ := by
  refine Aw.iload_n rfl d_Rev_drop_0 ?_
  obtain ⟨o1, h⟩ := h
  obtain ⟨ht, hf⟩ := h
  refine Aw.if_lt (tgt := 19) o1 (by decide) d_Rev_drop_1 (fun c11 => ?_) (fun c11 => ?_)
  · have h := ht c11
    refine Aw.iconst d_Rev_drop_19 ?_
    exact h
  · have h := hf c11
    refine Aw.iload_n rfl d_Rev_drop_4 ?_
    refine Aw.bipush (by decide) d_Rev_drop_5 ?_
    obtain ⟨ht, hf⟩ := h
    refine Aw.icmp_ge (tgt := 19) o1 ⟨by decide, by decide⟩ (by decide) d_Rev_drop_7 (fun c10 => ?_) (fun c10 => ?_)
    · have h := ht c10
      refine Aw.iconst d_Rev_drop_19 ?_
      exact h
    · have h := hf c10
      refine Aw.aload_n rfl d_Rev_drop_10 ?_
      obtain ⟨o2, h⟩ := h
      obtain ⟨b3, e4, h⟩ := h
      refine Aw.getRs (f := 512) 8 0 fl_Rev_9 (by decide) (by decide) rfl rfl o2 e4 d_Rev_drop_11 ?_
      refine Aw.iload_n rfl d_Rev_drop_14 ?_
      obtain ⟨o5, h⟩ := h
      obtain ⟨o6, o7, h⟩ := h
      refine Aw.iald o5 o6 o7 d_Rev_drop_15 (fun r8 => ?_)
      have h := h r8
      obtain ⟨ht, hf⟩ := h
      refine Aw.if_ne (tgt := 21) r8 (by decide) d_Rev_drop_16 (fun c9 => ?_) (fun c9 => ?_)
      · have h := ht c9
        refine Aw.aload_n rfl d_Rev_drop_21 ?_
        refine Aw.getRs (f := 512) 8 0 fl_Rev_9 (by decide) (by decide) rfl rfl o2 e4 d_Rev_drop_22 ?_
        refine Aw.iload_n rfl d_Rev_drop_25 ?_
        refine Aw.iconst d_Rev_drop_26 ?_
        refine Aw.iast o5 o6 o7 ⟨by decide, by decide⟩ d_Rev_drop_27 ?_
        refine Aw.iconst d_Rev_drop_28 ?_
        exact h
      · have h := hf c9
        refine Aw.iconst d_Rev_drop_19 ?_
        exact h
theorem r_Rev_drop_20 {Ω : Om} {R : Room} {k n : Nat} {L : List PV} {σ : Sto} {QR : Option PV → Sto → Prop} {QX : String → Sto → Prop} {x : Int} (h : QR (some (xi x)) σ) (h1 : k ≤ R.cells) (h2 : n ≤ R.slots) : Aw Ω M_Rev_drop R (MF Ω R QR QX) k n 20 L [xi x] σ := Aw.iret rfl h h1 h2 d_Rev_drop_20
theorem r_Rev_drop_29 {Ω : Om} {R : Room} {k n : Nat} {L : List PV} {σ : Sto} {QR : Option PV → Sto → Prop} {QX : String → Sto → Prop} {x : Int} (h : QR (some (xi x)) σ) (h1 : k ≤ R.cells) (h2 : n ≤ R.slots) : Aw Ω M_Rev_drop R (MF Ω R QR QX) k n 29 L [xi x] σ := Aw.iret rfl h h1 h2 d_Rev_drop_29
theorem e_Rev_dropAll {Ω : Om} {R : Room} {QR : Option PV → Sto → Prop} {QX : String → Sto → Prop} {σ : Sto} {a0 : Nat} (h : Aw Ω M_Rev_dropAll R (MF Ω R QR QX) 0 0 0 [xr (some a0), xu, xu] [] σ) : MC Ω M_Rev_dropAll R QR QX σ [xr (some a0)] := MC.body (by decide +kernel) rfl (Nat.le_of_ble_eq_true rfl) rfl h
theorem b_Rev_dropAll_0 {Ω : Om} {R : Room} {F : QF} {k n : Nat} {σ : Sto} {a0 : Nat} (h : Aw Ω M_Rev_dropAll R F k n 4 [xr (some a0), xi 0, xi 0] [] σ) : Aw Ω M_Rev_dropAll R F k n 0 [xr (some a0), xu, xu] [] σ := by
  refine Aw.iconst d_Rev_dropAll_0 ?_
  refine Aw.istore_n (by decide) d_Rev_dropAll_1 ?_
  refine Aw.toL (L' := [xr (some a0), xi 0, xu]) rfl ?_
  refine Aw.iconst d_Rev_dropAll_2 ?_
  refine Aw.istore_n (by decide) d_Rev_dropAll_3 ?_
  refine Aw.toL (L' := [xr (some a0), xi 0, xi 0]) rfl ?_
  exact h
theorem b_Rev_dropAll_4 {Ω : Om} {R : Room} {F : QF} {k n : Nat} {σ : Sto} {a0 : Nat} {v1 : Int} {v2 : Int} (h : Q32 v2 ∧ (((6 : Int) ≤ v2 → Aw Ω M_Rev_dropAll R F k n 25 [xr (some a0), xi v1, xi v2] [xi v1] σ) ∧ (¬ (6 : Int) ≤ v2 → Aw Ω M_Rev_dropAll R F k n 13 [xr (some a0), xi v1, xi v2] [xi v2, xr (some a0), xi v1] σ))) : Aw Ω M_Rev_dropAll R F k n 4 [xr (some a0), xi v1, xi v2] [] σ := by
  refine Aw.iload_n rfl d_Rev_dropAll_4 ?_
  refine Aw.bipush (by decide) d_Rev_dropAll_5 ?_
  obtain ⟨o1, h⟩ := h
  obtain ⟨ht, hf⟩ := h
  refine Aw.icmp_ge (tgt := 24) o1 ⟨by decide, by decide⟩ (by decide) d_Rev_dropAll_7 (fun c2 => ?_) (fun c2 => ?_)
  · have h := ht c2
    refine Aw.iload_n rfl d_Rev_dropAll_24 ?_
    exact h
  · have h := hf c2
    refine Aw.iload_n rfl d_Rev_dropAll_10 ?_
    refine Aw.aload_n rfl d_Rev_dropAll_11 ?_
    refine Aw.iload_n rfl d_Rev_dropAll_12 ?_
    exact h
theorem b_Rev_dropAll_16 {Ω : Om} {R : Room} {F : QF} {k n : Nat} {σ : Sto} {a0 : Nat} {v1 : Int} {v2 : Int} {s0 : Int} {s1 : Int} (h : Aw Ω M_Rev_dropAll R F k n 4 [xr (some a0), xi (s0 + s1), xi (v2 + 1)] [] σ) : Aw Ω M_Rev_dropAll R F k n 16 [xr (some a0), xi v1, xi v2] [xi s1, xi s0] σ := by
  refine Aw.iadd d_Rev_dropAll_16 ?_
  refine Aw.istore_n (by decide) d_Rev_dropAll_17 ?_
  refine Aw.toL (L' := [xr (some a0), xi (s0 + s1), xi v2]) rfl ?_
  refine Aw.iinc rfl d_Rev_dropAll_18 ?_
  refine Aw.toL (L' := [xr (some a0), xi (s0 + s1), xi (v2 + 1)]) rfl ?_
  refine Aw.goto (tgt := 4) (by decide) d_Rev_dropAll_21 ?_
  exact h
theorem c_Rev_dropAll_13 {Ω : Om} {R R' : Room} {F : QF} {k n : Nat} {L st : List PV} {σ : Sto} {QX' : String → Sto → Prop} {Q : Int → Sto → Prop} {a : Nat} {x0 : Int} (hc : MC Ω M_Rev_drop R' (RI Q) QX' σ [xr (some a), xi x0]) (hk : sK σ a = 9) (hr1 : R'.frames + 1 ≤ R.frames) (hr2 : 8 + (2 + 11) + R'.locals ≤ R.locals) (hb1 : k + R'.cells ≤ R.cells) (hb2 : n + R'.slots ≤ R.slots) (hst : (st.map catP).sum ≤ 8) (kk : ∀ x σ', Q x σ' → Aw Ω M_Rev_dropAll R F (k + R'.cells) (n + R'.slots) 16 L (xi x :: st) σ') (kx : ∀ E σ', QX' E σ' → Ax Ω M_Rev_dropAll R F (k + R'.cells) (n + R'.slots) 13 L st σ' E) : Aw Ω M_Rev_dropAll R F k n 13 L (xi x0 :: xr (some a) :: st) σ :=
  Aw.callV (As := [xi x0]) (stk := xi x0 :: xr (some a) :: st) (nn := 1) 8 M_Rev_drop hc ok_Rev_drop rfl (by decide) rfl hk ml_Rev_26 im_Rev_drop se_Rev_drop ⟨hr1, hr2⟩ rfl ⟨hb1, hb2⟩ hst rfl d_Rev_dropAll_13 (fun r σ' h => by obtain ⟨x, rfl, h⟩ := h; exact kk x σ' h) kx
theorem r_Rev_dropAll_25 {Ω : Om} {R : Room} {k n : Nat} {L : List PV} {σ : Sto} {QR : Option PV → Sto → Prop} {QX : String → Sto → Prop} {x : Int} (h : QR (some (xi x)) σ) (h1 : k ≤ R.cells) (h2 : n ≤ R.slots) : Aw Ω M_Rev_dropAll R (MF Ω R QR QX) k n 25 L [xi x] σ := Aw.iret rfl h h1 h2 d_Rev_dropAll_25
theorem e_Rev_hear {Ω : Om} {R : Room} {QR : Option PV → Sto → Prop} {QX : String → Sto → Prop} {σ : Sto} {a0 : Nat} {v1 : Int} {v2 : Int} (h : Aw Ω M_Rev_hear R (MF Ω R QR QX) 0 0 0 [xr (some a0), xi v1, xi v2] [] σ) : MC Ω M_Rev_hear R QR QX σ [xr (some a0), xi v1, xi v2] := MC.body (by decide +kernel) rfl (Nat.le_of_ble_eq_true rfl) rfl h
theorem b_Rev_hear_0 {Ω : Om} {R : Room} {F : QF} {k n : Nat} {σ : Sto} {a0 : Nat} {v1 : Int} {v2 : Int} (h : Q32 v1 ∧ ((v1 < (0 : Int) → Aw Ω M_Rev_hear R F k n 25 [xr (some a0), xi v1, xi v2] [] σ) ∧ (¬ v1 < (0 : Int) → (((6 : Int) ≤ v1 → Aw Ω M_Rev_hear R F k n 25 [xr (some a0), xi v1, xi v2] [] σ) ∧ (¬ (6 : Int) ≤ v1 → sK σ a0 = 9 ∧ (∃ b3 : Nat, fR σ 512 a0 = some b3 ∧ Q32 v2 ∧ ((v2 = (0 : Int) → sK σ b3 = 50 ∧ 0 ≤ v1 ∧ v1 < sZ σ b3 ∧ Aw Ω M_Rev_hear R F k n 25 [xr (some a0), xi v1, xi v2] [] (vI σ b3 (v1).toNat 2)) ∧ (¬ v2 = (0 : Int) → sK σ b3 = 50 ∧ 0 ≤ v1 ∧ v1 < sZ σ b3 ∧ Aw Ω M_Rev_hear R F k n 25 [xr (some a0), xi v1, xi v2] [] (vI σ b3 (v1).toNat 1))))))))) : Aw Ω M_Rev_hear R F k n 0 [xr (some a0), xi v1, xi v2] [] σ := by
  refine Aw.iload_n rfl d_Rev_hear_0 ?_
  obtain ⟨o1, h⟩ := h
  obtain ⟨ht, hf⟩ := h
  refine Aw.if_lt (tgt := 25) o1 (by decide) d_Rev_hear_1 (fun c14 => ?_) (fun c14 => ?_)
  · have h := ht c14
    exact h
  · have h := hf c14
    refine Aw.iload_n rfl d_Rev_hear_4 ?_
    refine Aw.bipush (by decide) d_Rev_hear_5 ?_
    obtain ⟨ht, hf⟩ := h
    refine Aw.icmp_ge (tgt := 25) o1 ⟨by decide, by decide⟩ (by decide) d_Rev_hear_7 (fun c13 => ?_) (fun c13 => ?_)
    · have h := ht c13
      exact h
    · have h := hf c13
      refine Aw.aload_n rfl d_Rev_hear_10 ?_
      obtain ⟨o2, h⟩ := h
      obtain ⟨b3, e4, h⟩ := h
      refine Aw.getRs (f := 512) 8 0 fl_Rev_9 (by decide) (by decide) rfl rfl o2 e4 d_Rev_hear_11 ?_
      refine Aw.iload_n rfl d_Rev_hear_14 ?_
      refine Aw.iload_n rfl d_Rev_hear_15 ?_
      obtain ⟨o5, h⟩ := h
      obtain ⟨ht, hf⟩ := h
      refine Aw.if_eq (tgt := 23) o5 (by decide) d_Rev_hear_16 (fun c12 => ?_) (fun c12 => ?_)
      · have h := ht c12
        refine Aw.iconst d_Rev_hear_23 ?_
        obtain ⟨o6, h⟩ := h
        obtain ⟨o7, o8, h⟩ := h
        refine Aw.iast o6 o7 o8 ⟨by decide, by decide⟩ d_Rev_hear_24 ?_
        exact h
      · have h := hf c12
        refine Aw.iconst d_Rev_hear_19 ?_
        refine Aw.goto (tgt := 24) (by decide) d_Rev_hear_20 ?_
        obtain ⟨o9, h⟩ := h
        obtain ⟨o10, o11, h⟩ := h
        refine Aw.iast o9 o10 o11 ⟨by decide, by decide⟩ d_Rev_hear_24 ?_
        exact h
theorem r_Rev_hear_25 {Ω : Om} {R : Room} {k n : Nat} {L : List PV} {σ : Sto} {QR : Option PV → Sto → Prop} {QX : String → Sto → Prop} (h : QR none σ) (h1 : k ≤ R.cells) (h2 : n ≤ R.slots) : Aw Ω M_Rev_hear R (MF Ω R QR QX) k n 25 L [] σ := Aw.vret rfl h h1 h2 d_Rev_hear_25
theorem e_Rev_init {Ω : Om} {R : Room} {QR : Option PV → Sto → Prop} {QX : String → Sto → Prop} {σ : Sto} {a0 : Nat} (h : Aw Ω M_Rev_init R (MF Ω R QR QX) 0 0 0 [xr (some a0)] [] σ) : MC Ω M_Rev_init R QR QX σ [xr (some a0)] := MC.body (by decide +kernel) rfl (Nat.le_of_ble_eq_true rfl) rfl h
theorem b_Rev_init_0 {Ω : Om} {R : Room} {F : QF} {k n : Nat} {σ : Sto} {a0 : Nat} (h : 1 ≤ R.frames ∧ ([].map catP).sum + 12 ≤ R.locals ∧ k + 1 ≤ R.cells ∧ n + 6 ≤ R.slots ∧ (∀ σ7 : Sto, σ7 = (nO σ 50 6) → sK σ7 a0 = 9 ∧ Aw Ω M_Rev_init R F (k + 1) (n + 6) 27 [xr (some a0)] [] (uI (uI (uI (uR σ7 512 a0 (some (sN σ))) 513 a0 (-1)) 514 a0 (-1)) 515 a0 0))) : Aw Ω M_Rev_init R F k n 0 [xr (some a0)] [] σ := by
  refine Aw.aload_n rfl d_Rev_init_0 ?_
  obtain ⟨o1, o2, h⟩ := h
  refine Aw.objInit ml_Rev_3 oi_1 oi_2 o1 o2 d_Rev_init_1 ?_
  refine Aw.aload_n rfl d_Rev_init_4 ?_
  refine Aw.bipush (by decide) d_Rev_init_5 ?_
  obtain ⟨o5, o6, h⟩ := h
  refine Aw.newarr 0 (by decide) rfl arc_0 (by decide) (by decide) o5 o6 d_Rev_init_7 ?_
  obtain ⟨σ7, hσ7⟩ : ∃ z, z = (nO σ 50 6) := ⟨_, rfl⟩
  refine Aw.toS (σ' := σ7) hσ7 ?_
  have h := h σ7 hσ7
  obtain ⟨o8, h⟩ := h
  refine Aw.putRF (f := 512) 8 0 fm_Rev_9 (by decide) (by decide) rfl rfl o8 rfl rfl rfl rfl d_Rev_init_9 ?_
  refine Aw.aload_n rfl d_Rev_init_12 ?_
  refine Aw.iconst d_Rev_init_13 ?_
  refine Aw.putI (f := 513) 8 1 fl_Rev_15 (by decide) (by decide) rfl rfl o8 rfl ⟨by decide, by decide⟩ (Or.inl rfl) d_Rev_init_14 ?_
  refine Aw.aload_n rfl d_Rev_init_17 ?_
  refine Aw.iconst d_Rev_init_18 ?_
  refine Aw.putI (f := 514) 8 2 fl_Rev_19 (by decide) (by decide) rfl rfl o8 rfl ⟨by decide, by decide⟩ (Or.inl rfl) d_Rev_init_19 ?_
  refine Aw.aload_n rfl d_Rev_init_22 ?_
  refine Aw.iconst d_Rev_init_23 ?_
  refine Aw.putI (f := 515) 8 3 fl_Rev_22 (by decide) (by decide) rfl rfl o8 rfl ⟨by decide, by decide⟩ (Or.inr ⟨rfl, by decide⟩) d_Rev_init_24 ?_
  exact h
theorem r_Rev_init_27 {Ω : Om} {R : Room} {k n : Nat} {L : List PV} {σ : Sto} {QR : Option PV → Sto → Prop} {QX : String → Sto → Prop} (h : QR none σ) (h1 : k ≤ R.cells) (h2 : n ≤ R.slots) : Aw Ω M_Rev_init R (MF Ω R QR QX) k n 27 L [] σ := Aw.vret rfl h h1 h2 d_Rev_init_27
theorem e_Rev_startOn {Ω : Om} {R : Room} {QR : Option PV → Sto → Prop} {QX : String → Sto → Prop} {σ : Sto} {a0 : Nat} {v1 : Int} {v2 : Int} (h : Aw Ω M_Rev_startOn R (MF Ω R QR QX) 0 0 0 [xr (some a0), xi v1, xi v2] [] σ) : MC Ω M_Rev_startOn R QR QX σ [xr (some a0), xi v1, xi v2] := MC.body (by decide +kernel) rfl (Nat.le_of_ble_eq_true rfl) rfl h
theorem b_Rev_startOn_0 {Ω : Om} {R : Room} {F : QF} {k n : Nat} {σ : Sto} {a0 : Nat} {v1 : Int} {v2 : Int} (h : sK σ a0 = 9 ∧ Q32 v1 ∧ Q32 v2 ∧ Aw Ω M_Rev_startOn R F k n 10 [xr (some a0), xi v1, xi v2] [] (uI (uI σ 513 a0 v1) 514 a0 v2)) : Aw Ω M_Rev_startOn R F k n 0 [xr (some a0), xi v1, xi v2] [] σ := by
  refine Aw.aload_n rfl d_Rev_startOn_0 ?_
  refine Aw.iload_n rfl d_Rev_startOn_1 ?_
  obtain ⟨o1, h⟩ := h
  obtain ⟨o2, h⟩ := h
  refine Aw.putI (f := 513) 8 1 fl_Rev_15 (by decide) (by decide) rfl rfl o1 rfl o2 (Or.inl rfl) d_Rev_startOn_2 ?_
  refine Aw.aload_n rfl d_Rev_startOn_5 ?_
  refine Aw.iload_n rfl d_Rev_startOn_6 ?_
  obtain ⟨o3, h⟩ := h
  refine Aw.putI (f := 514) 8 2 fl_Rev_19 (by decide) (by decide) rfl rfl o1 rfl o3 (Or.inl rfl) d_Rev_startOn_7 ?_
  exact h
theorem r_Rev_startOn_10 {Ω : Om} {R : Room} {k n : Nat} {L : List PV} {σ : Sto} {QR : Option PV → Sto → Prop} {QX : String → Sto → Prop} (h : QR none σ) (h1 : k ≤ R.cells) (h2 : n ≤ R.slots) : Aw Ω M_Rev_startOn R (MF Ω R QR QX) k n 10 L [] σ := Aw.vret rfl h h1 h2 d_Rev_startOn_10
theorem e_Rev_state {Ω : Om} {R : Room} {QR : Option PV → Sto → Prop} {QX : String → Sto → Prop} {σ : Sto} {a0 : Nat} (h : Aw Ω M_Rev_state R (MF Ω R QR QX) 0 0 0 [xr (some a0), xu, xu] [] σ) : MC Ω M_Rev_state R QR QX σ [xr (some a0)] := MC.body (by decide +kernel) rfl (Nat.le_of_ble_eq_true rfl) rfl h
theorem b_Rev_state_0 {Ω : Om} {R : Room} {F : QF} {k n : Nat} {σ : Sto} {a0 : Nat} (h : sK σ a0 = 9 ∧ (Q32 (fI σ 515 a0) → (((fI σ 515 a0) = (0 : Int) → Aw Ω M_Rev_state R F k n 13 [xr (some a0), xi 0, xi 0] [] σ) ∧ (¬ (fI σ 515 a0) = (0 : Int) → Aw Ω M_Rev_state R F k n 8 [xr (some a0), xu, xu] [xi 2] σ)))) : Aw Ω M_Rev_state R F k n 0 [xr (some a0), xu, xu] [] σ := by
  refine Aw.aload_n rfl d_Rev_state_0 ?_
  obtain ⟨o1, h⟩ := h
  refine Aw.getI (f := 515) 8 3 fl_Rev_22 (by decide) (by decide) rfl rfl o1 d_Rev_state_1 (fun r2 => ?_)
  have h := h r2
  obtain ⟨ht, hf⟩ := h
  refine Aw.if_eq (tgt := 9) r2 (by decide) d_Rev_state_4 (fun c3 => ?_) (fun c3 => ?_)
  · have h := ht c3
    refine Aw.iconst d_Rev_state_9 ?_
    refine Aw.istore_n (by decide) d_Rev_state_10 ?_
    refine Aw.toL (L' := [xr (some a0), xi 0, xu]) rfl ?_
    refine Aw.iconst d_Rev_state_11 ?_
    refine Aw.istore_n (by decide) d_Rev_state_12 ?_
    refine Aw.toL (L' := [xr (some a0), xi 0, xi 0]) rfl ?_
    exact h
  · have h := hf c3
    refine Aw.iconst d_Rev_state_7 ?_
    exact h
theorem b_Rev_state_13 {Ω : Om} {R : Room} {F : QF} {k n : Nat} {σ : Sto} {a0 : Nat} {v1 : Int} {v2 : Int} (h : Q32 v2 ∧ (((6 : Int) ≤ v2 → Q32 v1 ∧ ((v1 < (2 : Int) → Aw Ω M_Rev_state R F k n 65 [xr (some a0), xi v1, xi v2] [xi 0] σ) ∧ (¬ v1 < (2 : Int) → Aw Ω M_Rev_state R F k n 65 [xr (some a0), xi v1, xi v2] [xi 1] σ))) ∧ (¬ (6 : Int) ≤ v2 → sK σ a0 = 9 ∧ (∃ b5 : Nat, fR σ 512 a0 = some b5 ∧ sK σ b5 = 50 ∧ 0 ≤ v2 ∧ v2 < sZ σ b5 ∧ (Q32 (aI σ b5 (v2).toNat) → ((¬ (aI σ b5 (v2).toNat) = (2 : Int) → (Q32 (aI σ b5 (v2).toNat) → ((¬ (aI σ b5 (v2).toNat) = (1 : Int) → Aw Ω M_Rev_state R F k n 13 [xr (some a0), xi (v1 + 0), xi (v2 + 1)] [] σ) ∧ ((aI σ b5 (v2).toNat) = (1 : Int) → Aw Ω M_Rev_state R F k n 13 [xr (some a0), xi (v1 + 1), xi (v2 + 1)] [] σ)))) ∧ ((aI σ b5 (v2).toNat) = (2 : Int) → Aw Ω M_Rev_state R F k n 30 [xr (some a0), xi v1, xi v2] [xi 0] σ))))))) : Aw Ω M_Rev_state R F k n 13 [xr (some a0), xi v1, xi v2] [] σ := by
  refine Aw.iload_n rfl d_Rev_state_13 ?_
  refine Aw.bipush (by decide) d_Rev_state_14 ?_
  obtain ⟨o1, h⟩ := h
  obtain ⟨ht, hf⟩ := h
  refine Aw.icmp_ge (tgt := 55) o1 ⟨by decide, by decide⟩ (by decide) d_Rev_state_16 (fun c14 => ?_) (fun c14 => ?_)
  · have h := ht c14
    refine Aw.iload_n rfl d_Rev_state_55 ?_
    refine Aw.iconst d_Rev_state_56 ?_
    obtain ⟨o2, h⟩ := h
    obtain ⟨ht, hf⟩ := h
    refine Aw.icmp_lt (tgt := 64) o2 ⟨by decide, by decide⟩ (by decide) d_Rev_state_57 (fun c3 => ?_) (fun c3 => ?_)
    · have h := ht c3
      refine Aw.iconst d_Rev_state_64 ?_
      exact h
    · have h := hf c3
      refine Aw.iconst d_Rev_state_60 ?_
      refine Aw.goto (tgt := 65) (by decide) d_Rev_state_61 ?_
      exact h
  · have h := hf c14
    refine Aw.aload_n rfl d_Rev_state_19 ?_
    obtain ⟨o4, h⟩ := h
    obtain ⟨b5, e6, h⟩ := h
    refine Aw.getRs (f := 512) 8 0 fl_Rev_9 (by decide) (by decide) rfl rfl o4 e6 d_Rev_state_20 ?_
    refine Aw.iload_n rfl d_Rev_state_23 ?_
    obtain ⟨o7, h⟩ := h
    obtain ⟨o8, o9, h⟩ := h
    refine Aw.iald o7 o8 o9 d_Rev_state_24 (fun r10 => ?_)
    have h := h r10
    refine Aw.iconst d_Rev_state_25 ?_
    obtain ⟨ht, hf⟩ := h
    refine Aw.icmp_ne (tgt := 31) r10 ⟨by decide, by decide⟩ (by decide) d_Rev_state_26 (fun c13 => ?_) (fun c13 => ?_)
    · have h := ht c13
      refine Aw.iload_n rfl d_Rev_state_31 ?_
      refine Aw.aload_n rfl d_Rev_state_32 ?_
      refine Aw.getRs (f := 512) 8 0 fl_Rev_9 (by decide) (by decide) rfl rfl o4 e6 d_Rev_state_33 ?_
      refine Aw.iload_n rfl d_Rev_state_36 ?_
      refine Aw.iald o7 o8 o9 d_Rev_state_37 (fun r11 => ?_)
      have h := h r11
      refine Aw.iconst d_Rev_state_38 ?_
      obtain ⟨ht, hf⟩ := h
      refine Aw.icmp_ne (tgt := 46) r10 ⟨by decide, by decide⟩ (by decide) d_Rev_state_39 (fun c12 => ?_) (fun c12 => ?_)
      · have h := ht c12
        refine Aw.iconst d_Rev_state_46 ?_
        refine Aw.iadd d_Rev_state_47 ?_
        refine Aw.istore_n (by decide) d_Rev_state_48 ?_
        refine Aw.toL (L' := [xr (some a0), xi (v1 + 0), xi v2]) rfl ?_
        refine Aw.iinc rfl d_Rev_state_49 ?_
        refine Aw.toL (L' := [xr (some a0), xi (v1 + 0), xi (v2 + 1)]) rfl ?_
        refine Aw.goto (tgt := 13) (by decide) d_Rev_state_52 ?_
        exact h
      · have h := hf c12
        refine Aw.iconst d_Rev_state_42 ?_
        refine Aw.goto (tgt := 47) (by decide) d_Rev_state_43 ?_
        refine Aw.iadd d_Rev_state_47 ?_
        refine Aw.istore_n (by decide) d_Rev_state_48 ?_
        refine Aw.toL (L' := [xr (some a0), xi (v1 + 1), xi v2]) rfl ?_
        refine Aw.iinc rfl d_Rev_state_49 ?_
        refine Aw.toL (L' := [xr (some a0), xi (v1 + 1), xi (v2 + 1)]) rfl ?_
        refine Aw.goto (tgt := 13) (by decide) d_Rev_state_52 ?_
        exact h
    · have h := hf c13
      refine Aw.iconst d_Rev_state_29 ?_
      exact h
theorem r_Rev_state_8 {Ω : Om} {R : Room} {k n : Nat} {L : List PV} {σ : Sto} {QR : Option PV → Sto → Prop} {QX : String → Sto → Prop} {x : Int} (h : QR (some (xi x)) σ) (h1 : k ≤ R.cells) (h2 : n ≤ R.slots) : Aw Ω M_Rev_state R (MF Ω R QR QX) k n 8 L [xi x] σ := Aw.iret rfl h h1 h2 d_Rev_state_8
theorem r_Rev_state_30 {Ω : Om} {R : Room} {k n : Nat} {L : List PV} {σ : Sto} {QR : Option PV → Sto → Prop} {QX : String → Sto → Prop} {x : Int} (h : QR (some (xi x)) σ) (h1 : k ≤ R.cells) (h2 : n ≤ R.slots) : Aw Ω M_Rev_state R (MF Ω R QR QX) k n 30 L [xi x] σ := Aw.iret rfl h h1 h2 d_Rev_state_30
theorem r_Rev_state_65 {Ω : Om} {R : Room} {k n : Nat} {L : List PV} {σ : Sto} {QR : Option PV → Sto → Prop} {QX : String → Sto → Prop} {x : Int} (h : QR (some (xi x)) σ) (h1 : k ≤ R.cells) (h2 : n ≤ R.slots) : Aw Ω M_Rev_state R (MF Ω R QR QX) k n 65 L [xi x] σ := Aw.iret rfl h h1 h2 d_Rev_state_65
