/-! walks of DiffWeaver$Edit, DiffWeaver$Hunk, DiffWeaver$Patch (by program) -/
theorem e_Edt_init {Ω : Om} {R : Room} {QR : Option PV → Sto → Prop} {QX : String → Sto → Prop} {σ : Sto} {a0 : Nat} {v1 : Int} {v2 : Int} {v3 : Int} {v4 : Int64} {q6 : Option Nat} (h : Aw Ω M_Edt_init R (MF Ω R QR QX) 0 0 0 [xr (some a0), xi v1, xi v2, xi v3, xl v4, xu, xr q6] [] σ) : MC Ω M_Edt_init R QR QX σ [xr (some a0), xi v1, xi v2, xi v3, xl v4, xr q6] := MC.body (by decide +kernel) rfl (Nat.le_of_ble_eq_true rfl) rfl h
theorem b_Edt_init_0 {Ω : Om} {R : Room} {F : QF} {k n : Nat} {σ : Sto} {a0 : Nat} {v1 : Int} {v2 : Int} {v3 : Int} {v4 : Int64} {q6 : Option Nat} (h : 1 ≤ R.frames ∧ ([].map catP).sum + 12 ≤ R.locals ∧ k + 1 ≤ R.cells ∧ n + 3 ≤ R.slots ∧ (∀ σ5 : Sto, σ5 = (nO σ 10 0) → Aw Ω M_Edt_init R F (k + 1) (n + 3) 9 [xr (some a0), xi v1, xi v2, xi v3, xl v4, xu, xr q6] [xr (some (sN σ)), xr (some (sN σ)), xr (some a0)] σ5)) : Aw Ω M_Edt_init R F k n 0 [xr (some a0), xi v1, xi v2, xi v3, xl v4, xu, xr q6] [] σ := by
  refine Aw.aload_n rfl d_Edt_init_0 ?_
  obtain ⟨o1, o2, h⟩ := h
  refine Aw.objInit ml_Edt_1 oi_1 oi_2 o1 o2 d_Edt_init_1 ?_
  refine Aw.aload_n rfl d_Edt_init_4 ?_
  obtain ⟨o3, o4, h⟩ := h
  refine Aw.new 9 (by decide) cl_Edt_7 ins_9 ini_9 o3 o4 d_Edt_init_5 ?_
  obtain ⟨σ5, hσ5⟩ : ∃ z, z = (nO σ 10 0) := ⟨_, rfl⟩
  refine Aw.toS (σ' := σ5) hσ5 ?_
  have h := h σ5 hσ5
  refine Aw.dup rfl d_Edt_init_8 ?_
  exact h
theorem b_Edt_init_12 {Ω : Om} {R : Room} {F : QF} {k n : Nat} {σ : Sto} {a0 : Nat} {v1 : Int} {v2 : Int} {v3 : Int} {v4 : Int64} {q6 : Option Nat} {s0 : Nat} {s1 : Nat} (h : sK σ s0 = 5 ∧ sK σ a0 = 5 ∧ Q32 v1 ∧ Q32 v2 ∧ Q32 v3 ∧ Aw Ω M_Edt_init R F k n 42 [xr (some a0), xi v1, xi v2, xi v3, xl v4, xu, xr q6] [] (uR (uL (uI (uI (uI (uR σ 261 s0 (some s1)) 256 a0 v1) 257 a0 v2) 258 a0 v3) 259 a0 v4) 260 a0 q6)) : Aw Ω M_Edt_init R F k n 12 [xr (some a0), xi v1, xi v2, xi v3, xl v4, xu, xr q6] [xr (some s1), xr (some s0)] σ := by
  obtain ⟨o1, h⟩ := h
  refine Aw.putRF (f := 261) 4 5 fm_Edt_10 (by decide) (by decide) rfl rfl o1 rfl rfl rfl rfl d_Edt_init_12 ?_
  refine Aw.aload_n rfl d_Edt_init_15 ?_
  refine Aw.iload_n rfl d_Edt_init_16 ?_
  obtain ⟨o2, h⟩ := h
  obtain ⟨o3, h⟩ := h
  refine Aw.putIF (f := 256) 4 0 fm_Edt_16 (by decide) (by decide) rfl rfl o2 rfl rfl rfl o3 (Or.inl rfl) d_Edt_init_17 ?_
  refine Aw.aload_n rfl d_Edt_init_20 ?_
  refine Aw.iload_n rfl d_Edt_init_21 ?_
  obtain ⟨o4, h⟩ := h
  refine Aw.putIF (f := 257) 4 1 fm_Edt_20 (by decide) (by decide) rfl rfl o2 rfl rfl rfl o4 (Or.inl rfl) d_Edt_init_22 ?_
  refine Aw.aload_n rfl d_Edt_init_25 ?_
  refine Aw.iload_n rfl d_Edt_init_26 ?_
  obtain ⟨o5, h⟩ := h
  refine Aw.putIF (f := 258) 4 2 fm_Edt_23 (by decide) (by decide) rfl rfl o2 rfl rfl rfl o5 (Or.inl rfl) d_Edt_init_27 ?_
  refine Aw.aload_n rfl d_Edt_init_30 ?_
  refine Aw.lload rfl d_Edt_init_31 ?_
  refine Aw.putLF (f := 259) 4 3 fm_Edt_26 (by decide) (by decide) rfl rfl o2 rfl rfl rfl rfl d_Edt_init_33 ?_
  refine Aw.aload_n rfl d_Edt_init_36 ?_
  refine Aw.aload rfl d_Edt_init_37 ?_
  refine Aw.putRF (f := 260) 4 4 fm_Edt_30 (by decide) (by decide) rfl rfl o2 rfl rfl rfl rfl d_Edt_init_39 ?_
  exact h
theorem c_Edt_init_9 {Ω : Om} {R R' : Room} {F : QF} {k n : Nat} {L st : List PV} {σ : Sto} {QX' : String → Sto → Prop} {Q : Sto → Prop} {a : Nat} (hc : MC Ω M_Txt_init R' (RV Q) QX' σ [xr (some a)]) (hr1 : R'.frames + 1 ≤ R.frames) (hr2 : 8 + (1 + 11) + R'.locals ≤ R.locals) (hb1 : k + R'.cells ≤ R.cells) (hb2 : n + R'.slots ≤ R.slots) (hst : (st.map catP).sum ≤ 8) (kk : ∀ σ', Q σ' → Aw Ω M_Edt_init R F (k + R'.cells) (n + R'.slots) 12 L st σ') (kx : ∀ E σ', QX' E σ' → Ax Ω M_Edt_init R F (k + R'.cells) (n + R'.slots) 9 L st σ' E) : Aw Ω M_Edt_init R F k n 9 L (xr (some a) :: st) σ :=
  Aw.callI (As := []) (stk := xr (some a) :: st) (nn := 0) M_Txt_init hc ok_Txt_init rfl rfl rfl im_Txt_init (Or.inr ⟨_, ml_Edt_9⟩) ⟨hr1, hr2⟩ rfl ⟨hb1, hb2⟩ hst rfl d_Edt_init_9 (fun r σ' h => by obtain ⟨rfl, h⟩ := h; exact kk σ' h) kx
theorem r_Edt_init_42 {Ω : Om} {R : Room} {k n : Nat} {L : List PV} {σ : Sto} {QR : Option PV → Sto → Prop} {QX : String → Sto → Prop} (h : QR none σ) (h1 : k ≤ R.cells) (h2 : n ≤ R.slots) : Aw Ω M_Edt_init R (MF Ω R QR QX) k n 42 L [] σ := Aw.vret rfl h h1 h2 d_Edt_init_42
theorem e_Hnk_findIn {Ω : Om} {R : Room} {QR : Option PV → Sto → Prop} {QX : String → Sto → Prop} {σ : Sto} {a0 : Nat} {a1 : Nat} {v2 : Int} {v3 : Int} {v4 : Int} (h : Aw Ω M_Hnk_findIn R (MF Ω R QR QX) 0 0 0 [xr (some a0), xr (some a1), xi v2, xi v3, xi v4, xu, xu, xu] [] σ) : MC Ω M_Hnk_findIn R QR QX σ [xr (some a0), xr (some a1), xi v2, xi v3, xi v4] := MC.body (by decide +kernel) rfl (Nat.le_of_ble_eq_true rfl) rfl h
theorem b_Hnk_findIn_0 {Ω : Om} {R : Room} {F : QF} {k n : Nat} {σ : Sto} {a0 : Nat} {a1 : Nat} {v2 : Int} {v3 : Int} {v4 : Int} (h : Aw Ω M_Hnk_findIn R F k n 4 [xr (some a0), xr (some a1), xi v2, xi v3, xi v4, xu, xu, xu] [xr (some a1), xi v2, xi 80] σ) : Aw Ω M_Hnk_findIn R F k n 0 [xr (some a0), xr (some a1), xi v2, xi v3, xi v4, xu, xu, xu] [] σ := by
  refine Aw.bipush (by decide) d_Hnk_findIn_0 ?_
  refine Aw.iload_n rfl d_Hnk_findIn_2 ?_
  refine Aw.aload_n rfl d_Hnk_findIn_3 ?_
  exact h
theorem b_Hnk_findIn_7 {Ω : Om} {R : Room} {F : QF} {k n : Nat} {σ : Sto} {a0 : Nat} {a1 : Nat} {v2 : Int} {v3 : Int} {v4 : Int} {s0 : Int} {s1 : Int} {s2 : Int} (h : Q32 s1 ∧ Q32 (s2 - v2) ∧ 1 ≤ R.frames ∧ ([xi s0].map catP).sum + 13 ≤ R.locals ∧ k ≤ R.cells ∧ n ≤ R.slots ∧ Q32 s0 ∧ Q32 (maxI s1 (s2 - v2)) ∧ 1 ≤ R.frames ∧ ([].map catP).sum + 13 ≤ R.locals ∧ k ≤ R.cells ∧ n ≤ R.slots ∧ Aw Ω M_Hnk_findIn R F k n 20 [xr (some a0), xr (some a1), xi v2, xi v3, xi v4, xi (minI s0 (maxI s1 (s2 - v2))), xi 0, xu] [] σ) : Aw Ω M_Hnk_findIn R F k n 7 [xr (some a0), xr (some a1), xi v2, xi v3, xi v4, xu, xu, xu] [xi s2, xi s1, xi s0] σ := by
  refine Aw.iload_n rfl d_Hnk_findIn_7 ?_
  refine Aw.isub d_Hnk_findIn_8 ?_
  obtain ⟨o1, o2, o3, o4, o5, o6, h⟩ := h
  refine Aw.mmax o1 o2 ml_Hnk_40 mth_max_1 mth_ini mth_max_2 o3 o4 o5 o6 d_Hnk_findIn_9 ?_
  obtain ⟨o7, o8, o9, o10, o11, o12, h⟩ := h
  refine Aw.mmin o7 o8 ml_Hnk_46 mth_min_1 mth_ini mth_min_2 o9 o10 o11 o12 d_Hnk_findIn_12 ?_
  refine Aw.istore (by decide) d_Hnk_findIn_15 ?_
  refine Aw.toL (L' := [xr (some a0), xr (some a1), xi v2, xi v3, xi v4, xi (minI s0 (maxI s1 (s2 - v2))), xu, xu]) rfl ?_
  refine Aw.iconst d_Hnk_findIn_17 ?_
  refine Aw.istore (by decide) d_Hnk_findIn_18 ?_
  refine Aw.toL (L' := [xr (some a0), xr (some a1), xi v2, xi v3, xi v4, xi (minI s0 (maxI s1 (s2 - v2))), xi 0, xu]) rfl ?_
  exact h
theorem b_Hnk_findIn_20 {Ω : Om} {R : Room} {F : QF} {k n : Nat} {σ : Sto} {a0 : Nat} {a1 : Nat} {v2 : Int} {v3 : Int} {v4 : Int} {v5 : Int} {v6 : Int} (h : Q32 v6 ∧ Q32 v4 ∧ ((v4 < v6 → Aw Ω M_Hnk_findIn R F k n 90 [xr (some a0), xr (some a1), xi v2, xi v3, xi v4, xi v5, xi v6, xu] [xi (-1)] σ) ∧ (¬ v4 < v6 → Aw Ω M_Hnk_findIn R F k n 30 [xr (some a0), xr (some a1), xi v2, xi v3, xi v4, xi v5, xi v6, xi 0] [] σ))) : Aw Ω M_Hnk_findIn R F k n 20 [xr (some a0), xr (some a1), xi v2, xi v3, xi v4, xi v5, xi v6, xu] [] σ := by
  refine Aw.iload rfl d_Hnk_findIn_20 ?_
  refine Aw.iload rfl d_Hnk_findIn_22 ?_
  obtain ⟨o1, h⟩ := h
  obtain ⟨o2, h⟩ := h
  obtain ⟨ht, hf⟩ := h
  refine Aw.icmp_gt (tgt := 89) o1 o2 (by decide) d_Hnk_findIn_24 (fun c3 => ?_) (fun c3 => ?_)
  · have h := ht c3
    refine Aw.iconst d_Hnk_findIn_89 ?_
    exact h
  · have h := hf c3
    refine Aw.iconst d_Hnk_findIn_27 ?_
    refine Aw.istore (by decide) d_Hnk_findIn_28 ?_
    refine Aw.toL (L' := [xr (some a0), xr (some a1), xi v2, xi v3, xi v4, xi v5, xi v6, xi 0]) rfl ?_
    exact h
theorem b_Hnk_findIn_30 {Ω : Om} {R : Room} {F : QF} {k n : Nat} {σ : Sto} {a0 : Nat} {a1 : Nat} {v2 : Int} {v3 : Int} {v4 : Int} {v5 : Int} {v6 : Int} {v7 : Int} (h : Q32 v7 ∧ Q32 v5 ∧ ((v5 < v7 → Aw Ω M_Hnk_findIn R F k n 20 [xr (some a0), xr (some a1), xi v2, xi v3, xi v4, xi v5, xi (v6 + 1), xu] [] σ) ∧ (¬ v5 < v7 → Aw Ω M_Hnk_findIn R F k n 46 [xr (some a0), xr (some a1), xi v2, xi v3, xi v4, xi v5, xi v6, xi v7] [xi v6, xi v3, xi (v2 - v7), xr (some a1), xr (some a0)] σ))) : Aw Ω M_Hnk_findIn R F k n 30 [xr (some a0), xr (some a1), xi v2, xi v3, xi v4, xi v5, xi v6, xi v7] [] σ := by
  refine Aw.iload rfl d_Hnk_findIn_30 ?_
  refine Aw.iload rfl d_Hnk_findIn_32 ?_
  obtain ⟨o1, h⟩ := h
  obtain ⟨o2, h⟩ := h
  obtain ⟨ht, hf⟩ := h
  refine Aw.icmp_gt (tgt := 83) o1 o2 (by decide) d_Hnk_findIn_34 (fun c3 => ?_) (fun c3 => ?_)
  · have h := ht c3
    refine Aw.iinc rfl d_Hnk_findIn_83 ?_
    refine Aw.toL (L' := [xr (some a0), xr (some a1), xi v2, xi v3, xi v4, xi v5, xi (v6 + 1), xi v7]) rfl ?_
    refine Aw.goto (tgt := 20) (by decide) d_Hnk_findIn_86 ?_
    exact Aw.toW (L' := [xr (some a0), xr (some a1), xi v2, xi v3, xi v4, xi v5, xi (v6 + 1), xu]) ⟨Or.inr rfl, Or.inr rfl, Or.inr rfl, Or.inr rfl, Or.inr rfl, Or.inr rfl, Or.inr rfl, Or.inl rfl, trivial⟩ h
  · have h := hf c3
    refine Aw.aload_n rfl d_Hnk_findIn_37 ?_
    refine Aw.aload_n rfl d_Hnk_findIn_38 ?_
    refine Aw.iload_n rfl d_Hnk_findIn_39 ?_
    refine Aw.iload rfl d_Hnk_findIn_40 ?_
    refine Aw.isub d_Hnk_findIn_42 ?_
    refine Aw.iload_n rfl d_Hnk_findIn_43 ?_
    refine Aw.iload rfl d_Hnk_findIn_44 ?_
    exact h
theorem b_Hnk_findIn_49 {Ω : Om} {R : Room} {F : QF} {k n : Nat} {σ : Sto} {a0 : Nat} {a1 : Nat} {v2 : Int} {v3 : Int} {v4 : Int} {v5 : Int} {v6 : Int} {v7 : Int} {s0 : Int} (h : Q32 s0 ∧ ((s0 = (0 : Int) → Aw Ω M_Hnk_findIn R F k n 66 [xr (some a0), xr (some a1), xi v2, xi v3, xi v4, xi v5, xi v6, xi v7] [xi v6, xi v3, xi (v2 + v7), xr (some a1), xr (some a0)] σ) ∧ (¬ s0 = (0 : Int) → Aw Ω M_Hnk_findIn R F k n 56 [xr (some a0), xr (some a1), xi v2, xi v3, xi v4, xi v5, xi v6, xi v7] [xi (v2 - v7)] σ))) : Aw Ω M_Hnk_findIn R F k n 49 [xr (some a0), xr (some a1), xi v2, xi v3, xi v4, xi v5, xi v6, xi v7] [xi s0] σ := by
  obtain ⟨o1, h⟩ := h
  obtain ⟨ht, hf⟩ := h
  refine Aw.if_eq (tgt := 57) o1 (by decide) d_Hnk_findIn_49 (fun c2 => ?_) (fun c2 => ?_)
  · have h := ht c2
    refine Aw.aload_n rfl d_Hnk_findIn_57 ?_
    refine Aw.aload_n rfl d_Hnk_findIn_58 ?_
    refine Aw.iload_n rfl d_Hnk_findIn_59 ?_
    refine Aw.iload rfl d_Hnk_findIn_60 ?_
    refine Aw.iadd d_Hnk_findIn_62 ?_
    refine Aw.iload_n rfl d_Hnk_findIn_63 ?_
    refine Aw.iload rfl d_Hnk_findIn_64 ?_
    exact h
  · have h := hf c2
    refine Aw.iload_n rfl d_Hnk_findIn_52 ?_
    refine Aw.iload rfl d_Hnk_findIn_53 ?_
    refine Aw.isub d_Hnk_findIn_55 ?_
    exact h
theorem b_Hnk_findIn_69 {Ω : Om} {R : Room} {F : QF} {k n : Nat} {σ : Sto} {a0 : Nat} {a1 : Nat} {v2 : Int} {v3 : Int} {v4 : Int} {v5 : Int} {v6 : Int} {v7 : Int} {s0 : Int} (h : Q32 s0 ∧ ((s0 = (0 : Int) → Aw Ω M_Hnk_findIn R F k n 30 [xr (some a0), xr (some a1), xi v2, xi v3, xi v4, xi v5, xi v6, xi (v7 + 1)] [] σ) ∧ (¬ s0 = (0 : Int) → Aw Ω M_Hnk_findIn R F k n 76 [xr (some a0), xr (some a1), xi v2, xi v3, xi v4, xi v5, xi v6, xi v7] [xi (v2 + v7)] σ))) : Aw Ω M_Hnk_findIn R F k n 69 [xr (some a0), xr (some a1), xi v2, xi v3, xi v4, xi v5, xi v6, xi v7] [xi s0] σ := by
  obtain ⟨o1, h⟩ := h
  obtain ⟨ht, hf⟩ := h
  refine Aw.if_eq (tgt := 77) o1 (by decide) d_Hnk_findIn_69 (fun c2 => ?_) (fun c2 => ?_)
  · have h := ht c2
    refine Aw.iinc rfl d_Hnk_findIn_77 ?_
    refine Aw.toL (L' := [xr (some a0), xr (some a1), xi v2, xi v3, xi v4, xi v5, xi v6, xi (v7 + 1)]) rfl ?_
    refine Aw.goto (tgt := 30) (by decide) d_Hnk_findIn_80 ?_
    exact h
  · have h := hf c2
    refine Aw.iload_n rfl d_Hnk_findIn_72 ?_
    refine Aw.iload rfl d_Hnk_findIn_73 ?_
    refine Aw.iadd d_Hnk_findIn_75 ?_
    exact h
theorem c_Hnk_findIn_4 {Ω : Om} {R R' : Room} {F : QF} {k n : Nat} {L st : List PV} {σ : Sto} {QX' : String → Sto → Prop} {Q : Int → Sto → Prop} {a : Nat} (hc : MC Ω M_Txt_size R' (RI Q) QX' σ [xr (some a)]) (hk : sK σ a = 10) (hr1 : R'.frames + 1 ≤ R.frames) (hr2 : 8 + (1 + 11) + R'.locals ≤ R.locals) (hb1 : k + R'.cells ≤ R.cells) (hb2 : n + R'.slots ≤ R.slots) (hst : (st.map catP).sum ≤ 8) (kk : ∀ x σ', Q x σ' → Aw Ω M_Hnk_findIn R F (k + R'.cells) (n + R'.slots) 7 L (xi x :: st) σ') (kx : ∀ E σ', QX' E σ' → Ax Ω M_Hnk_findIn R F (k + R'.cells) (n + R'.slots) 4 L st σ' E) : Aw Ω M_Hnk_findIn R F k n 4 L (xr (some a) :: st) σ :=
  Aw.callV (As := []) (stk := xr (some a) :: st) (nn := 0) 9 M_Txt_size hc ok_Txt_size rfl (by decide) rfl hk ml_Hnk_34 im_Txt_size se_Txt_size ⟨hr1, hr2⟩ rfl ⟨hb1, hb2⟩ hst rfl d_Hnk_findIn_4 (fun r σ' h => by obtain ⟨x, rfl, h⟩ := h; exact kk x σ' h) kx
theorem c_Hnk_findIn_46 {Ω : Om} {R R' : Room} {F : QF} {k n : Nat} {L st : List PV} {σ : Sto} {QX' : String → Sto → Prop} {Q : Int → Sto → Prop} {a : Nat} {x0 : Option Nat} {x1 : Int} {x2 : Int} {x3 : Int} (hc : MC Ω M_Hnk_fits R' (RI Q) QX' σ [xr (some a), xr x0, xi x1, xi x2, xi x3]) (hk : sK σ a = 6) (hr1 : R'.frames + 1 ≤ R.frames) (hr2 : 8 + (8 + 11) + R'.locals ≤ R.locals) (hb1 : k + R'.cells ≤ R.cells) (hb2 : n + R'.slots ≤ R.slots) (hst : (st.map catP).sum ≤ 8) (kk : ∀ x σ', Q x σ' → Aw Ω M_Hnk_findIn R F (k + R'.cells) (n + R'.slots) 49 L (xi x :: st) σ') (kx : ∀ E σ', QX' E σ' → Ax Ω M_Hnk_findIn R F (k + R'.cells) (n + R'.slots) 46 L st σ' E) : Aw Ω M_Hnk_findIn R F k n 46 L (xi x3 :: xi x2 :: xi x1 :: xr x0 :: xr (some a) :: st) σ :=
  Aw.callV (As := [xr x0, xi x1, xi x2, xi x3]) (stk := xi x3 :: xi x2 :: xi x1 :: xr x0 :: xr (some a) :: st) (nn := 4) 5 M_Hnk_fits hc ok_Hnk_fits rfl (by decide) rfl hk ml_Hnk_49 im_Hnk_fits se_Hnk_fits ⟨hr1, hr2⟩ rfl ⟨hb1, hb2⟩ hst rfl d_Hnk_findIn_46 (fun r σ' h => by obtain ⟨x, rfl, h⟩ := h; exact kk x σ' h) kx
theorem r_Hnk_findIn_56 {Ω : Om} {R : Room} {k n : Nat} {L : List PV} {σ : Sto} {QR : Option PV → Sto → Prop} {QX : String → Sto → Prop} {x : Int} (h : QR (some (xi x)) σ) (h1 : k ≤ R.cells) (h2 : n ≤ R.slots) : Aw Ω M_Hnk_findIn R (MF Ω R QR QX) k n 56 L [xi x] σ := Aw.iret rfl h h1 h2 d_Hnk_findIn_56
theorem c_Hnk_findIn_66 {Ω : Om} {R R' : Room} {F : QF} {k n : Nat} {L st : List PV} {σ : Sto} {QX' : String → Sto → Prop} {Q : Int → Sto → Prop} {a : Nat} {x0 : Option Nat} {x1 : Int} {x2 : Int} {x3 : Int} (hc : MC Ω M_Hnk_fits R' (RI Q) QX' σ [xr (some a), xr x0, xi x1, xi x2, xi x3]) (hk : sK σ a = 6) (hr1 : R'.frames + 1 ≤ R.frames) (hr2 : 8 + (8 + 11) + R'.locals ≤ R.locals) (hb1 : k + R'.cells ≤ R.cells) (hb2 : n + R'.slots ≤ R.slots) (hst : (st.map catP).sum ≤ 8) (kk : ∀ x σ', Q x σ' → Aw Ω M_Hnk_findIn R F (k + R'.cells) (n + R'.slots) 69 L (xi x :: st) σ') (kx : ∀ E σ', QX' E σ' → Ax Ω M_Hnk_findIn R F (k + R'.cells) (n + R'.slots) 66 L st σ' E) : Aw Ω M_Hnk_findIn R F k n 66 L (xi x3 :: xi x2 :: xi x1 :: xr x0 :: xr (some a) :: st) σ :=
  Aw.callV (As := [xr x0, xi x1, xi x2, xi x3]) (stk := xi x3 :: xi x2 :: xi x1 :: xr x0 :: xr (some a) :: st) (nn := 4) 5 M_Hnk_fits hc ok_Hnk_fits rfl (by decide) rfl hk ml_Hnk_49 im_Hnk_fits se_Hnk_fits ⟨hr1, hr2⟩ rfl ⟨hb1, hb2⟩ hst rfl d_Hnk_findIn_66 (fun r σ' h => by obtain ⟨x, rfl, h⟩ := h; exact kk x σ' h) kx
theorem r_Hnk_findIn_76 {Ω : Om} {R : Room} {k n : Nat} {L : List PV} {σ : Sto} {QR : Option PV → Sto → Prop} {QX : String → Sto → Prop} {x : Int} (h : QR (some (xi x)) σ) (h1 : k ≤ R.cells) (h2 : n ≤ R.slots) : Aw Ω M_Hnk_findIn R (MF Ω R QR QX) k n 76 L [xi x] σ := Aw.iret rfl h h1 h2 d_Hnk_findIn_76
theorem r_Hnk_findIn_90 {Ω : Om} {R : Room} {k n : Nat} {L : List PV} {σ : Sto} {QR : Option PV → Sto → Prop} {QX : String → Sto → Prop} {x : Int} (h : QR (some (xi x)) σ) (h1 : k ≤ R.cells) (h2 : n ≤ R.slots) : Aw Ω M_Hnk_findIn R (MF Ω R QR QX) k n 90 L [xi x] σ := Aw.iret rfl h h1 h2 d_Hnk_findIn_90
theorem e_Hnk_fits {Ω : Om} {R : Room} {QR : Option PV → Sto → Prop} {QX : String → Sto → Prop} {σ : Sto} {a0 : Nat} {a1 : Nat} {v2 : Int} {v3 : Int} {v4 : Int} (h : Aw Ω M_Hnk_fits R (MF Ω R QR QX) 0 0 0 [xr (some a0), xr (some a1), xi v2, xi v3, xi v4, xu, xu, xu] [] σ) : MC Ω M_Hnk_fits R QR QX σ [xr (some a0), xr (some a1), xi v2, xi v3, xi v4] := MC.body (by decide +kernel) rfl (Nat.le_of_ble_eq_true rfl) rfl h
theorem b_Hnk_fits_0 {Ω : Om} {R : Room} {F : QF} {k n : Nat} {σ : Sto} {a0 : Nat} {a1 : Nat} {v2 : Int} {v3 : Int} {v4 : Int} (h : sK σ a0 = 6 ∧ (∃ b2 : Nat, fR σ 322 a0 = some b2 ∧ sK σ b2 = 51 ∧ ((sZ σ b2 : Int) < 2147483648 → Q32 v4 ∧ Q32 (sZ σ b2 : Int) ∧ 1 ≤ R.frames ∧ ([].map catP).sum + 13 ≤ R.locals ∧ k ≤ R.cells ∧ n ≤ R.slots ∧ (∃ b12 : Nat, fR σ 325 a0 = some b12 ∧ sK σ b12 = 51 ∧ ((sZ σ b12 : Int) < 2147483648 → ((sZ σ b12 : Int) < 2147483648 → Q32 v4 ∧ Q32 (sZ σ b12 : Int) ∧ 1 ≤ R.frames ∧ ([xi (sZ σ b12 : Int)].map catP).sum + 13 ≤ R.locals ∧ k ≤ R.cells ∧ n ≤ R.slots ∧ ((sZ σ b2 : Int) < 2147483648 → Q32 (v2 - ((sZ σ b2 : Int) - (minI v4 (sZ σ b2 : Int)))) ∧ Q32 v3 ∧ (((v2 - ((sZ σ b2 : Int) - (minI v4 (sZ σ b2 : Int)))) < v3 → Aw Ω M_Hnk_fits R F k n 112 [xr (some a0), xr (some a1), xi v2, xi v3, xi v4, xi (minI v4 (sZ σ b2 : Int)), xi ((sZ σ b12 : Int) - (minI v4 (sZ σ b12 : Int))), xi (v2 - ((sZ σ b2 : Int) - (minI v4 (sZ σ b2 : Int))))] [xi 0] σ) ∧ (¬ (v2 - ((sZ σ b2 : Int) - (minI v4 (sZ σ b2 : Int)))) < v3 → ((sZ σ b2 : Int) < 2147483648 → Aw Ω M_Hnk_fits R F k n 62 [xr (some a0), xr (some a1), xi v2, xi v3, xi v4, xi (minI v4 (sZ σ b2 : Int)), xi ((sZ σ b12 : Int) - (minI v4 (sZ σ b12 : Int))), xi (v2 - ((sZ σ b2 : Int) - (minI v4 (sZ σ b2 : Int))))] [xi (sZ σ b2 : Int), xi (minI v4 (sZ σ b2 : Int)), xr (some b2), xi (v2 - ((sZ σ b2 : Int) - (minI v4 (sZ σ b2 : Int)))), xr (some a1)] σ)))))))))) : Aw Ω M_Hnk_fits R F k n 0 [xr (some a0), xr (some a1), xi v2, xi v3, xi v4, xu, xu, xu] [] σ := by
  refine Aw.iload rfl d_Hnk_fits_0 ?_
  refine Aw.aload_n rfl d_Hnk_fits_2 ?_
  obtain ⟨o1, h⟩ := h
  obtain ⟨b2, e3, h⟩ := h
  refine Aw.getRs (f := 322) 5 2 fl_Hnk_18 (by decide) (by decide) rfl rfl o1 e3 d_Hnk_fits_3 ?_
  obtain ⟨o4, h⟩ := h
  refine Aw.alen 1 (by decide) o4 d_Hnk_fits_6 (fun r5 => ?_)
  have h := h r5
  obtain ⟨o6, o7, o8, o9, o10, o11, h⟩ := h
  refine Aw.mmin o6 o7 ml_Hnk_46 mth_min_1 mth_ini mth_min_2 o8 o9 o10 o11 d_Hnk_fits_7 ?_
  refine Aw.istore (by decide) d_Hnk_fits_10 ?_
  refine Aw.toL (L' := [xr (some a0), xr (some a1), xi v2, xi v3, xi v4, xi (minI v4 (sZ σ b2 : Int)), xu, xu]) rfl ?_
  refine Aw.aload_n rfl d_Hnk_fits_12 ?_
  obtain ⟨b12, e13, h⟩ := h
  refine Aw.getRs (f := 325) 5 5 fl_Hnk_28 (by decide) (by decide) rfl rfl o1 e13 d_Hnk_fits_13 ?_
  obtain ⟨o14, h⟩ := h
  refine Aw.alen 1 (by decide) o14 d_Hnk_fits_16 (fun r15 => ?_)
  have h := h r15
  refine Aw.iload rfl d_Hnk_fits_17 ?_
  refine Aw.aload_n rfl d_Hnk_fits_19 ?_
  refine Aw.getRs (f := 325) 5 5 fl_Hnk_28 (by decide) (by decide) rfl rfl o1 e13 d_Hnk_fits_20 ?_
  refine Aw.alen 1 (by decide) o14 d_Hnk_fits_23 (fun r16 => ?_)
  have h := h r16
  obtain ⟨o17, o18, o19, o20, o21, o22, h⟩ := h
  refine Aw.mmin o17 o18 ml_Hnk_46 mth_min_1 mth_ini mth_min_2 o19 o20 o21 o22 d_Hnk_fits_24 ?_
  refine Aw.isub d_Hnk_fits_27 ?_
  refine Aw.istore (by decide) d_Hnk_fits_28 ?_
  refine Aw.toL (L' := [xr (some a0), xr (some a1), xi v2, xi v3, xi v4, xi (minI v4 (sZ σ b2 : Int)), xi ((sZ σ b12 : Int) - (minI v4 (sZ σ b12 : Int))), xu]) rfl ?_
  refine Aw.iload_n rfl d_Hnk_fits_30 ?_
  refine Aw.aload_n rfl d_Hnk_fits_31 ?_
  refine Aw.getRs (f := 322) 5 2 fl_Hnk_18 (by decide) (by decide) rfl rfl o1 e3 d_Hnk_fits_32 ?_
  refine Aw.alen 1 (by decide) o4 d_Hnk_fits_35 (fun r23 => ?_)
  have h := h r23
  refine Aw.iload rfl d_Hnk_fits_36 ?_
  refine Aw.isub d_Hnk_fits_38 ?_
  refine Aw.isub d_Hnk_fits_39 ?_
  refine Aw.istore (by decide) d_Hnk_fits_40 ?_
  refine Aw.toL (L' := [xr (some a0), xr (some a1), xi v2, xi v3, xi v4, xi (minI v4 (sZ σ b2 : Int)), xi ((sZ σ b12 : Int) - (minI v4 (sZ σ b12 : Int))), xi (v2 - ((sZ σ b2 : Int) - (minI v4 (sZ σ b2 : Int))))]) rfl ?_
  refine Aw.iload rfl d_Hnk_fits_42 ?_
  refine Aw.iload_n rfl d_Hnk_fits_44 ?_
  obtain ⟨o24, h⟩ := h
  obtain ⟨o25, h⟩ := h
  obtain ⟨ht, hf⟩ := h
  refine Aw.icmp_lt (tgt := 111) o24 o25 (by decide) d_Hnk_fits_45 (fun c27 => ?_) (fun c27 => ?_)
  · have h := ht c27
    refine Aw.iconst d_Hnk_fits_111 ?_
    exact h
  · have h := hf c27
    refine Aw.aload_n rfl d_Hnk_fits_48 ?_
    refine Aw.iload rfl d_Hnk_fits_49 ?_
    refine Aw.aload_n rfl d_Hnk_fits_51 ?_
    refine Aw.getRs (f := 322) 5 2 fl_Hnk_18 (by decide) (by decide) rfl rfl o1 e3 d_Hnk_fits_52 ?_
    refine Aw.iload rfl d_Hnk_fits_55 ?_
    refine Aw.aload_n rfl d_Hnk_fits_57 ?_
    refine Aw.getRs (f := 322) 5 2 fl_Hnk_18 (by decide) (by decide) rfl rfl o1 e3 d_Hnk_fits_58 ?_
    refine Aw.alen 1 (by decide) o4 d_Hnk_fits_61 (fun r26 => ?_)
    have h := h r26
    exact h
theorem b_Hnk_fits_65 {Ω : Om} {R : Room} {F : QF} {k n : Nat} {σ : Sto} {a0 : Nat} {a1 : Nat} {v2 : Int} {v3 : Int} {v4 : Int} {v5 : Int} {v6 : Int} {v7 : Int} {s0 : Int} (h : Q32 s0 ∧ ((s0 = (0 : Int) → Aw Ω M_Hnk_fits R F k n 112 [xr (some a0), xr (some a1), xi v2, xi v3, xi v4, xi v5, xi v6, xi v7] [xi 0] σ) ∧ (¬ s0 = (0 : Int) → sK σ a0 = 6 ∧ (∃ b3 : Nat, fR σ 323 a0 = some b3 ∧ sK σ b3 = 51 ∧ ((sZ σ b3 : Int) < 2147483648 → Aw Ω M_Hnk_fits R F k n 80 [xr (some a0), xr (some a1), xi v2, xi v3, xi v4, xi v5, xi v6, xi v7] [xi (sZ σ b3 : Int), xi 0, xr (some b3), xi v2, xr (some a1)] σ))))) : Aw Ω M_Hnk_fits R F k n 65 [xr (some a0), xr (some a1), xi v2, xi v3, xi v4, xi v5, xi v6, xi v7] [xi s0] σ := by
  obtain ⟨o1, h⟩ := h
  obtain ⟨ht, hf⟩ := h
  refine Aw.if_eq (tgt := 111) o1 (by decide) d_Hnk_fits_65 (fun c7 => ?_) (fun c7 => ?_)
  · have h := ht c7
    refine Aw.iconst d_Hnk_fits_111 ?_
    exact h
  · have h := hf c7
    refine Aw.aload_n rfl d_Hnk_fits_68 ?_
    refine Aw.iload_n rfl d_Hnk_fits_69 ?_
    refine Aw.aload_n rfl d_Hnk_fits_70 ?_
    obtain ⟨o2, h⟩ := h
    obtain ⟨b3, e4, h⟩ := h
    refine Aw.getRs (f := 323) 5 3 fl_Hnk_22 (by decide) (by decide) rfl rfl o2 e4 d_Hnk_fits_71 ?_
    refine Aw.iconst d_Hnk_fits_74 ?_
    refine Aw.aload_n rfl d_Hnk_fits_75 ?_
    refine Aw.getRs (f := 323) 5 3 fl_Hnk_22 (by decide) (by decide) rfl rfl o2 e4 d_Hnk_fits_76 ?_
    obtain ⟨o5, h⟩ := h
    refine Aw.alen 1 (by decide) o5 d_Hnk_fits_79 (fun r6 => ?_)
    have h := h r6
    exact h
theorem b_Hnk_fits_83 {Ω : Om} {R : Room} {F : QF} {k n : Nat} {σ : Sto} {a0 : Nat} {a1 : Nat} {v2 : Int} {v3 : Int} {v4 : Int} {v5 : Int} {v6 : Int} {v7 : Int} {s0 : Int} (h : Q32 s0 ∧ ((s0 = (0 : Int) → Aw Ω M_Hnk_fits R F k n 112 [xr (some a0), xr (some a1), xi v2, xi v3, xi v4, xi v5, xi v6, xi v7] [xi 0] σ) ∧ (¬ s0 = (0 : Int) → sK σ a0 = 6 ∧ (∃ b3 : Nat, fR σ 323 a0 = some b3 ∧ sK σ b3 = 51 ∧ ((sZ σ b3 : Int) < 2147483648 → (∃ b7 : Nat, fR σ 325 a0 = some b7 ∧ Aw Ω M_Hnk_fits R F k n 101 [xr (some a0), xr (some a1), xi v2, xi v3, xi v4, xi v5, xi v6, xi v7] [xi v6, xi 0, xr (some b7), xi (v2 + (sZ σ b3 : Int)), xr (some a1)] σ)))))) : Aw Ω M_Hnk_fits R F k n 83 [xr (some a0), xr (some a1), xi v2, xi v3, xi v4, xi v5, xi v6, xi v7] [xi s0] σ := by
  obtain ⟨o1, h⟩ := h
  obtain ⟨ht, hf⟩ := h
  refine Aw.if_eq (tgt := 111) o1 (by decide) d_Hnk_fits_83 (fun c9 => ?_) (fun c9 => ?_)
  · have h := ht c9
    refine Aw.iconst d_Hnk_fits_111 ?_
    exact h
  · have h := hf c9
    refine Aw.aload_n rfl d_Hnk_fits_86 ?_
    refine Aw.iload_n rfl d_Hnk_fits_87 ?_
    refine Aw.aload_n rfl d_Hnk_fits_88 ?_
    obtain ⟨o2, h⟩ := h
    obtain ⟨b3, e4, h⟩ := h
    refine Aw.getRs (f := 323) 5 3 fl_Hnk_22 (by decide) (by decide) rfl rfl o2 e4 d_Hnk_fits_89 ?_
    obtain ⟨o5, h⟩ := h
    refine Aw.alen 1 (by decide) o5 d_Hnk_fits_92 (fun r6 => ?_)
    have h := h r6
    refine Aw.iadd d_Hnk_fits_93 ?_
    refine Aw.aload_n rfl d_Hnk_fits_94 ?_
    obtain ⟨b7, e8, h⟩ := h
    refine Aw.getRs (f := 325) 5 5 fl_Hnk_28 (by decide) (by decide) rfl rfl o2 e8 d_Hnk_fits_95 ?_
    refine Aw.iconst d_Hnk_fits_98 ?_
    refine Aw.iload rfl d_Hnk_fits_99 ?_
    exact h
theorem b_Hnk_fits_104 {Ω : Om} {R : Room} {F : QF} {k n : Nat} {σ : Sto} {a0 : Nat} {a1 : Nat} {v2 : Int} {v3 : Int} {v4 : Int} {v5 : Int} {v6 : Int} {v7 : Int} {s0 : Int} (h : Q32 s0 ∧ ((s0 = (0 : Int) → Aw Ω M_Hnk_fits R F k n 112 [xr (some a0), xr (some a1), xi v2, xi v3, xi v4, xi v5, xi v6, xi v7] [xi 0] σ) ∧ (¬ s0 = (0 : Int) → Aw Ω M_Hnk_fits R F k n 112 [xr (some a0), xr (some a1), xi v2, xi v3, xi v4, xi v5, xi v6, xi v7] [xi 1] σ))) : Aw Ω M_Hnk_fits R F k n 104 [xr (some a0), xr (some a1), xi v2, xi v3, xi v4, xi v5, xi v6, xi v7] [xi s0] σ := by
  obtain ⟨o1, h⟩ := h
  obtain ⟨ht, hf⟩ := h
  refine Aw.if_eq (tgt := 111) o1 (by decide) d_Hnk_fits_104 (fun c2 => ?_) (fun c2 => ?_)
  · have h := ht c2
    refine Aw.iconst d_Hnk_fits_111 ?_
    exact h
  · have h := hf c2
    refine Aw.iconst d_Hnk_fits_107 ?_
    refine Aw.goto (tgt := 112) (by decide) d_Hnk_fits_108 ?_
    exact h
theorem c_Hnk_fits_62 {Ω : Om} {R R' : Room} {F : QF} {k n : Nat} {L st : List PV} {σ : Sto} {QX' : String → Sto → Prop} {Q : Int → Sto → Prop} {a : Nat} {x0 : Int} {x1 : Option Nat} {x2 : Int} {x3 : Int} (hc : MC Ω M_Txt_stands R' (RI Q) QX' σ [xr (some a), xi x0, xr x1, xi x2, xi x3]) (hk : sK σ a = 10) (hr1 : R'.frames + 1 ≤ R.frames) (hr2 : 8 + (6 + 11) + R'.locals ≤ R.locals) (hb1 : k + R'.cells ≤ R.cells) (hb2 : n + R'.slots ≤ R.slots) (hst : (st.map catP).sum ≤ 8) (kk : ∀ x σ', Q x σ' → Aw Ω M_Hnk_fits R F (k + R'.cells) (n + R'.slots) 65 L (xi x :: st) σ') (kx : ∀ E σ', QX' E σ' → Ax Ω M_Hnk_fits R F (k + R'.cells) (n + R'.slots) 62 L st σ' E) : Aw Ω M_Hnk_fits R F k n 62 L (xi x3 :: xi x2 :: xr x1 :: xi x0 :: xr (some a) :: st) σ :=
  Aw.callV (As := [xi x0, xr x1, xi x2, xi x3]) (stk := xi x3 :: xi x2 :: xr x1 :: xi x0 :: xr (some a) :: st) (nn := 4) 9 M_Txt_stands hc ok_Txt_stands rfl (by decide) rfl hk ml_Hnk_53 im_Txt_stands se_Txt_stands ⟨hr1, hr2⟩ rfl ⟨hb1, hb2⟩ hst rfl d_Hnk_fits_62 (fun r σ' h => by obtain ⟨x, rfl, h⟩ := h; exact kk x σ' h) kx
theorem c_Hnk_fits_80 {Ω : Om} {R R' : Room} {F : QF} {k n : Nat} {L st : List PV} {σ : Sto} {QX' : String → Sto → Prop} {Q : Int → Sto → Prop} {a : Nat} {x0 : Int} {x1 : Option Nat} {x2 : Int} {x3 : Int} (hc : MC Ω M_Txt_stands R' (RI Q) QX' σ [xr (some a), xi x0, xr x1, xi x2, xi x3]) (hk : sK σ a = 10) (hr1 : R'.frames + 1 ≤ R.frames) (hr2 : 8 + (6 + 11) + R'.locals ≤ R.locals) (hb1 : k + R'.cells ≤ R.cells) (hb2 : n + R'.slots ≤ R.slots) (hst : (st.map catP).sum ≤ 8) (kk : ∀ x σ', Q x σ' → Aw Ω M_Hnk_fits R F (k + R'.cells) (n + R'.slots) 83 L (xi x :: st) σ') (kx : ∀ E σ', QX' E σ' → Ax Ω M_Hnk_fits R F (k + R'.cells) (n + R'.slots) 80 L st σ' E) : Aw Ω M_Hnk_fits R F k n 80 L (xi x3 :: xi x2 :: xr x1 :: xi x0 :: xr (some a) :: st) σ :=
  Aw.callV (As := [xi x0, xr x1, xi x2, xi x3]) (stk := xi x3 :: xi x2 :: xr x1 :: xi x0 :: xr (some a) :: st) (nn := 4) 9 M_Txt_stands hc ok_Txt_stands rfl (by decide) rfl hk ml_Hnk_53 im_Txt_stands se_Txt_stands ⟨hr1, hr2⟩ rfl ⟨hb1, hb2⟩ hst rfl d_Hnk_fits_80 (fun r σ' h => by obtain ⟨x, rfl, h⟩ := h; exact kk x σ' h) kx
theorem c_Hnk_fits_101 {Ω : Om} {R R' : Room} {F : QF} {k n : Nat} {L st : List PV} {σ : Sto} {QX' : String → Sto → Prop} {Q : Int → Sto → Prop} {a : Nat} {x0 : Int} {x1 : Option Nat} {x2 : Int} {x3 : Int} (hc : MC Ω M_Txt_stands R' (RI Q) QX' σ [xr (some a), xi x0, xr x1, xi x2, xi x3]) (hk : sK σ a = 10) (hr1 : R'.frames + 1 ≤ R.frames) (hr2 : 8 + (6 + 11) + R'.locals ≤ R.locals) (hb1 : k + R'.cells ≤ R.cells) (hb2 : n + R'.slots ≤ R.slots) (hst : (st.map catP).sum ≤ 8) (kk : ∀ x σ', Q x σ' → Aw Ω M_Hnk_fits R F (k + R'.cells) (n + R'.slots) 104 L (xi x :: st) σ') (kx : ∀ E σ', QX' E σ' → Ax Ω M_Hnk_fits R F (k + R'.cells) (n + R'.slots) 101 L st σ' E) : Aw Ω M_Hnk_fits R F k n 101 L (xi x3 :: xi x2 :: xr x1 :: xi x0 :: xr (some a) :: st) σ :=
  Aw.callV (As := [xi x0, xr x1, xi x2, xi x3]) (stk := xi x3 :: xi x2 :: xr x1 :: xi x0 :: xr (some a) :: st) (nn := 4) 9 M_Txt_stands hc ok_Txt_stands rfl (by decide) rfl hk ml_Hnk_53 im_Txt_stands se_Txt_stands ⟨hr1, hr2⟩ rfl ⟨hb1, hb2⟩ hst rfl d_Hnk_fits_101 (fun r σ' h => by obtain ⟨x, rfl, h⟩ := h; exact kk x σ' h) kx
theorem r_Hnk_fits_112 {Ω : Om} {R : Room} {k n : Nat} {L : List PV} {σ : Sto} {QR : Option PV → Sto → Prop} {QX : String → Sto → Prop} {x : Int} (hx : x = 0 ∨ x = 1) (h : QR (some (xi x)) σ) (h1 : k ≤ R.cells) (h2 : n ≤ R.slots) : Aw Ω M_Hnk_fits R (MF Ω R QR QX) k n 112 L [xi x] σ := Aw.zret rfl hx h h1 h2 d_Hnk_fits_112
theorem e_Hnk_init {Ω : Om} {R : Room} {QR : Option PV → Sto → Prop} {QX : String → Sto → Prop} {σ : Sto} {a0 : Nat} {v1 : Int} {v2 : Int} {a3 : Nat} {a4 : Nat} {a5 : Nat} {a6 : Nat} (h : Aw Ω M_Hnk_init R (MF Ω R QR QX) 0 0 0 [xr (some a0), xi v1, xi v2, xr (some a3), xr (some a4), xr (some a5), xr (some a6)] [] σ) : MC Ω M_Hnk_init R QR QX σ [xr (some a0), xi v1, xi v2, xr (some a3), xr (some a4), xr (some a5), xr (some a6)] := MC.body (by decide +kernel) rfl (Nat.le_of_ble_eq_true rfl) rfl h
theorem b_Hnk_init_0 {Ω : Om} {R : Room} {F : QF} {k n : Nat} {σ : Sto} {a0 : Nat} {v1 : Int} {v2 : Int} {a3 : Nat} {a4 : Nat} {a5 : Nat} {a6 : Nat} (h : 1 ≤ R.frames ∧ ([].map catP).sum + 12 ≤ R.locals ∧ sK σ a0 = 6 ∧ Q32 v1 ∧ Q32 v2 ∧ Aw Ω M_Hnk_init R F k n 37 [xr (some a0), xi v1, xi v2, xr (some a3), xr (some a4), xr (some a5), xr (some a6)] [] (uR (uR (uR (uR (uI (uI σ 320 a0 v1) 321 a0 v2) 322 a0 (some a3)) 323 a0 (some a4)) 324 a0 (some a5)) 325 a0 (some a6))) : Aw Ω M_Hnk_init R F k n 0 [xr (some a0), xi v1, xi v2, xr (some a3), xr (some a4), xr (some a5), xr (some a6)] [] σ := by
  refine Aw.aload_n rfl d_Hnk_init_0 ?_
  obtain ⟨o1, o2, h⟩ := h
  refine Aw.objInit ml_Hnk_3 oi_1 oi_2 o1 o2 d_Hnk_init_1 ?_
  refine Aw.aload_n rfl d_Hnk_init_4 ?_
  refine Aw.iload_n rfl d_Hnk_init_5 ?_
  obtain ⟨o3, h⟩ := h
  obtain ⟨o4, h⟩ := h
  refine Aw.putIF (f := 320) 5 0 fm_Hnk_9 (by decide) (by decide) rfl rfl o3 rfl rfl rfl o4 (Or.inl rfl) d_Hnk_init_6 ?_
  refine Aw.aload_n rfl d_Hnk_init_9 ?_
  refine Aw.iload_n rfl d_Hnk_init_10 ?_
  obtain ⟨o5, h⟩ := h
  refine Aw.putIF (f := 321) 5 1 fm_Hnk_15 (by decide) (by decide) rfl rfl o3 rfl rfl rfl o5 (Or.inl rfl) d_Hnk_init_11 ?_
  refine Aw.aload_n rfl d_Hnk_init_14 ?_
  refine Aw.aload_n rfl d_Hnk_init_15 ?_
  refine Aw.putRF (f := 322) 5 2 fm_Hnk_18 (by decide) (by decide) rfl rfl o3 rfl rfl rfl rfl d_Hnk_init_16 ?_
  refine Aw.aload_n rfl d_Hnk_init_19 ?_
  refine Aw.aload rfl d_Hnk_init_20 ?_
  refine Aw.putRF (f := 323) 5 3 fm_Hnk_22 (by decide) (by decide) rfl rfl o3 rfl rfl rfl rfl d_Hnk_init_22 ?_
  refine Aw.aload_n rfl d_Hnk_init_25 ?_
  refine Aw.aload rfl d_Hnk_init_26 ?_
  refine Aw.putRF (f := 324) 5 4 fm_Hnk_25 (by decide) (by decide) rfl rfl o3 rfl rfl rfl rfl d_Hnk_init_28 ?_
  refine Aw.aload_n rfl d_Hnk_init_31 ?_
  refine Aw.aload rfl d_Hnk_init_32 ?_
  refine Aw.putRF (f := 325) 5 5 fm_Hnk_28 (by decide) (by decide) rfl rfl o3 rfl rfl rfl rfl d_Hnk_init_34 ?_
  exact h
theorem r_Hnk_init_37 {Ω : Om} {R : Room} {k n : Nat} {L : List PV} {σ : Sto} {QR : Option PV → Sto → Prop} {QX : String → Sto → Prop} (h : QR none σ) (h1 : k ≤ R.cells) (h2 : n ≤ R.slots) : Aw Ω M_Hnk_init R (MF Ω R QR QX) k n 37 L [] σ := Aw.vret rfl h h1 h2 d_Hnk_init_37
theorem e_Hnk_part {Ω : Om} {R : Room} {QR : Option PV → Sto → Prop} {QX : String → Sto → Prop} {σ : Sto} {a0 : Nat} {v1 : Int} (h : Aw Ω M_Hnk_part R (MF Ω R QR QX) 0 0 0 [xr (some a0), xi v1] [] σ) : MC Ω M_Hnk_part R QR QX σ [xr (some a0), xi v1] := MC.body (by decide +kernel) rfl (Nat.le_of_ble_eq_true rfl) rfl h
theorem b_Hnk_part_0 {Ω : Om} {R : Room} {F : QF} {k n : Nat} {σ : Sto} {a0 : Nat} {v1 : Int} (h : Aw Ω M_Hnk_part R F k n 1 [xr (some a0), xi v1] [xi v1] σ) : Aw Ω M_Hnk_part R F k n 0 [xr (some a0), xi v1] [] σ := by
  refine Aw.iload_n rfl d_Hnk_part_0 ?_
  exact h
theorem b_Hnk_part_49 {Ω : Om} {R : Room} {F : QF} {k n : Nat} {σ : Sto} {a0 : Nat} {v1 : Int} (h : sK σ a0 = 6 ∧ (∃ b2 : Nat, fR σ 322 a0 = some b2 ∧ sK σ b2 = 51 ∧ ((sZ σ b2 : Int) < 2147483648 → Aw Ω M_Hnk_part R F k n 54 [xr (some a0), xi v1] [xi (sZ σ b2 : Int)] σ))) : Aw Ω M_Hnk_part R F k n 49 [xr (some a0), xi v1] [] σ := by
  refine Aw.aload_n rfl d_Hnk_part_49 ?_
  obtain ⟨o1, h⟩ := h
  obtain ⟨b2, e3, h⟩ := h
  refine Aw.getRs (f := 322) 5 2 fl_Hnk_18 (by decide) (by decide) rfl rfl o1 e3 d_Hnk_part_50 ?_
  obtain ⟨o4, h⟩ := h
  refine Aw.alen 1 (by decide) o4 d_Hnk_part_53 (fun r5 => ?_)
  have h := h r5
  exact h
theorem b_Hnk_part_43 {Ω : Om} {R : Room} {F : QF} {k n : Nat} {σ : Sto} {a0 : Nat} {v1 : Int} (h : sK σ a0 = 6 ∧ (∃ b2 : Nat, fR σ 324 a0 = some b2 ∧ sK σ b2 = 51 ∧ ((sZ σ b2 : Int) < 2147483648 → Aw Ω M_Hnk_part R F k n 48 [xr (some a0), xi v1] [xi (sZ σ b2 : Int)] σ))) : Aw Ω M_Hnk_part R F k n 43 [xr (some a0), xi v1] [] σ := by
  refine Aw.aload_n rfl d_Hnk_part_43 ?_
  obtain ⟨o1, h⟩ := h
  obtain ⟨b2, e3, h⟩ := h
  refine Aw.getRs (f := 324) 5 4 fl_Hnk_25 (by decide) (by decide) rfl rfl o1 e3 d_Hnk_part_44 ?_
  obtain ⟨o4, h⟩ := h
  refine Aw.alen 1 (by decide) o4 d_Hnk_part_47 (fun r5 => ?_)
  have h := h r5
  exact h
theorem b_Hnk_part_37 {Ω : Om} {R : Room} {F : QF} {k n : Nat} {σ : Sto} {a0 : Nat} {v1 : Int} (h : sK σ a0 = 6 ∧ (∃ b2 : Nat, fR σ 323 a0 = some b2 ∧ sK σ b2 = 51 ∧ ((sZ σ b2 : Int) < 2147483648 → Aw Ω M_Hnk_part R F k n 42 [xr (some a0), xi v1] [xi (sZ σ b2 : Int)] σ))) : Aw Ω M_Hnk_part R F k n 37 [xr (some a0), xi v1] [] σ := by
  refine Aw.aload_n rfl d_Hnk_part_37 ?_
  obtain ⟨o1, h⟩ := h
  obtain ⟨b2, e3, h⟩ := h
  refine Aw.getRs (f := 323) 5 3 fl_Hnk_22 (by decide) (by decide) rfl rfl o1 e3 d_Hnk_part_38 ?_
  obtain ⟨o4, h⟩ := h
  refine Aw.alen 1 (by decide) o4 d_Hnk_part_41 (fun r5 => ?_)
  have h := h r5
  exact h
theorem b_Hnk_part_32 {Ω : Om} {R : Room} {F : QF} {k n : Nat} {σ : Sto} {a0 : Nat} {v1 : Int} (h : sK σ a0 = 6 ∧ (Q32 (fI σ 320 a0) → Aw Ω M_Hnk_part R F k n 36 [xr (some a0), xi v1] [xi (fI σ 320 a0)] σ)) : Aw Ω M_Hnk_part R F k n 32 [xr (some a0), xi v1] [] σ := by
  refine Aw.aload_n rfl d_Hnk_part_32 ?_
  obtain ⟨o1, h⟩ := h
  refine Aw.getI (f := 320) 5 0 fl_Hnk_9 (by decide) (by decide) rfl rfl o1 d_Hnk_part_33 (fun r2 => ?_)
  have h := h r2
  exact h
theorem b_Hnk_part_55 {Ω : Om} {R : Room} {F : QF} {k n : Nat} {σ : Sto} {a0 : Nat} {v1 : Int} (h : sK σ a0 = 6 ∧ (∃ b2 : Nat, fR σ 325 a0 = some b2 ∧ sK σ b2 = 51 ∧ ((sZ σ b2 : Int) < 2147483648 → Aw Ω M_Hnk_part R F k n 60 [xr (some a0), xi v1] [xi (sZ σ b2 : Int)] σ))) : Aw Ω M_Hnk_part R F k n 55 [xr (some a0), xi v1] [] σ := by
  refine Aw.aload_n rfl d_Hnk_part_55 ?_
  obtain ⟨o1, h⟩ := h
  obtain ⟨b2, e3, h⟩ := h
  refine Aw.getRs (f := 325) 5 5 fl_Hnk_28 (by decide) (by decide) rfl rfl o1 e3 d_Hnk_part_56 ?_
  obtain ⟨o4, h⟩ := h
  refine Aw.alen 1 (by decide) o4 d_Hnk_part_59 (fun r5 => ?_)
  have h := h r5
  exact h
theorem r_Hnk_part_36 {Ω : Om} {R : Room} {k n : Nat} {L : List PV} {σ : Sto} {QR : Option PV → Sto → Prop} {QX : String → Sto → Prop} {x : Int} (h : QR (some (xi x)) σ) (h1 : k ≤ R.cells) (h2 : n ≤ R.slots) : Aw Ω M_Hnk_part R (MF Ω R QR QX) k n 36 L [xi x] σ := Aw.iret rfl h h1 h2 d_Hnk_part_36
theorem r_Hnk_part_42 {Ω : Om} {R : Room} {k n : Nat} {L : List PV} {σ : Sto} {QR : Option PV → Sto → Prop} {QX : String → Sto → Prop} {x : Int} (h : QR (some (xi x)) σ) (h1 : k ≤ R.cells) (h2 : n ≤ R.slots) : Aw Ω M_Hnk_part R (MF Ω R QR QX) k n 42 L [xi x] σ := Aw.iret rfl h h1 h2 d_Hnk_part_42
theorem r_Hnk_part_48 {Ω : Om} {R : Room} {k n : Nat} {L : List PV} {σ : Sto} {QR : Option PV → Sto → Prop} {QX : String → Sto → Prop} {x : Int} (h : QR (some (xi x)) σ) (h1 : k ≤ R.cells) (h2 : n ≤ R.slots) : Aw Ω M_Hnk_part R (MF Ω R QR QX) k n 48 L [xi x] σ := Aw.iret rfl h h1 h2 d_Hnk_part_48
theorem r_Hnk_part_54 {Ω : Om} {R : Room} {k n : Nat} {L : List PV} {σ : Sto} {QR : Option PV → Sto → Prop} {QX : String → Sto → Prop} {x : Int} (h : QR (some (xi x)) σ) (h1 : k ≤ R.cells) (h2 : n ≤ R.slots) : Aw Ω M_Hnk_part R (MF Ω R QR QX) k n 54 L [xi x] σ := Aw.iret rfl h h1 h2 d_Hnk_part_54
theorem r_Hnk_part_60 {Ω : Om} {R : Room} {k n : Nat} {L : List PV} {σ : Sto} {QR : Option PV → Sto → Prop} {QX : String → Sto → Prop} {x : Int} (h : QR (some (xi x)) σ) (h1 : k ≤ R.cells) (h2 : n ≤ R.slots) : Aw Ω M_Hnk_part R (MF Ω R QR QX) k n 60 L [xi x] σ := Aw.iret rfl h h1 h2 d_Hnk_part_60
theorem e_Hnk_putAt {Ω : Om} {R : Room} {QR : Option PV → Sto → Prop} {QX : String → Sto → Prop} {σ : Sto} {a0 : Nat} {a1 : Nat} {v2 : Int} (h : Aw Ω M_Hnk_putAt R (MF Ω R QR QX) 0 0 0 [xr (some a0), xr (some a1), xi v2, xu] [] σ) : MC Ω M_Hnk_putAt R QR QX σ [xr (some a0), xr (some a1), xi v2] := MC.body (by decide +kernel) rfl (Nat.le_of_ble_eq_true rfl) rfl h
theorem b_Hnk_putAt_0 {Ω : Om} {R : Room} {F : QF} {k n : Nat} {σ : Sto} {a0 : Nat} {a1 : Nat} {v2 : Int} (h : Aw Ω M_Hnk_putAt R F k n 2 [xr (some a0), xr (some a1), xi v2, xi 0] [] σ) : Aw Ω M_Hnk_putAt R F k n 0 [xr (some a0), xr (some a1), xi v2, xu] [] σ := by
  refine Aw.iconst d_Hnk_putAt_0 ?_
  refine Aw.istore_n (by decide) d_Hnk_putAt_1 ?_
  refine Aw.toL (L' := [xr (some a0), xr (some a1), xi v2, xi 0]) rfl ?_
  exact h
theorem b_Hnk_putAt_2 {Ω : Om} {R : Room} {F : QF} {k n : Nat} {σ : Sto} {a0 : Nat} {a1 : Nat} {v2 : Int} {v3 : Int} (h : sK σ a0 = 6 ∧ (∃ b2 : Nat, fR σ 323 a0 = some b2 ∧ sK σ b2 = 51 ∧ ((sZ σ b2 : Int) < 2147483648 → Q32 v3 ∧ Q32 (sZ σ b2 : Int) ∧ (((sZ σ b2 : Int) ≤ v3 → Aw Ω M_Hnk_putAt R F k n 24 [xr (some a0), xr (some a1), xi v2, xi 0] [] σ) ∧ (¬ (sZ σ b2 : Int) ≤ v3 → Aw Ω M_Hnk_putAt R F k n 13 [xr (some a0), xr (some a1), xi v2, xi v3] [xi v2, xr (some a1)] σ))))) : Aw Ω M_Hnk_putAt R F k n 2 [xr (some a0), xr (some a1), xi v2, xi v3] [] σ := by
  refine Aw.iload_n rfl d_Hnk_putAt_2 ?_
  refine Aw.aload_n rfl d_Hnk_putAt_3 ?_
  obtain ⟨o1, h⟩ := h
  obtain ⟨b2, e3, h⟩ := h
  refine Aw.getRs (f := 323) 5 3 fl_Hnk_22 (by decide) (by decide) rfl rfl o1 e3 d_Hnk_putAt_4 ?_
  obtain ⟨o4, h⟩ := h
  refine Aw.alen 1 (by decide) o4 d_Hnk_putAt_7 (fun r5 => ?_)
  have h := h r5
  obtain ⟨o6, h⟩ := h
  obtain ⟨o7, h⟩ := h
  obtain ⟨ht, hf⟩ := h
  refine Aw.icmp_ge (tgt := 22) o6 o7 (by decide) d_Hnk_putAt_8 (fun c8 => ?_) (fun c8 => ?_)
  · have h := ht c8
    refine Aw.iconst d_Hnk_putAt_22 ?_
    refine Aw.istore_n (by decide) d_Hnk_putAt_23 ?_
    refine Aw.toL (L' := [xr (some a0), xr (some a1), xi v2, xi 0]) rfl ?_
    exact h
  · have h := hf c8
    refine Aw.aload_n rfl d_Hnk_putAt_11 ?_
    refine Aw.iload_n rfl d_Hnk_putAt_12 ?_
    exact h
theorem b_Hnk_putAt_16 {Ω : Om} {R : Room} {F : QF} {k n : Nat} {σ : Sto} {a0 : Nat} {a1 : Nat} {v2 : Int} {v3 : Int} (h : Aw Ω M_Hnk_putAt R F k n 2 [xr (some a0), xr (some a1), xi v2, xi (v3 + 1)] [] σ) : Aw Ω M_Hnk_putAt R F k n 16 [xr (some a0), xr (some a1), xi v2, xi v3] [] σ := by
  refine Aw.iinc rfl d_Hnk_putAt_16 ?_
  refine Aw.toL (L' := [xr (some a0), xr (some a1), xi v2, xi (v3 + 1)]) rfl ?_
  refine Aw.goto (tgt := 2) (by decide) d_Hnk_putAt_19 ?_
  exact h
theorem b_Hnk_putAt_24 {Ω : Om} {R : Room} {F : QF} {k n : Nat} {σ : Sto} {a0 : Nat} {a1 : Nat} {v2 : Int} {v3 : Int} (h : sK σ a0 = 6 ∧ (∃ b2 : Nat, fR σ 324 a0 = some b2 ∧ sK σ b2 = 51 ∧ ((sZ σ b2 : Int) < 2147483648 → Q32 v3 ∧ Q32 (sZ σ b2 : Int) ∧ (((sZ σ b2 : Int) ≤ v3 → Aw Ω M_Hnk_putAt R F k n 53 [xr (some a0), xr (some a1), xi v2, xi v3] [] σ) ∧ (¬ (sZ σ b2 : Int) ≤ v3 → 0 ≤ v3 ∧ v3 < sZ σ b2 ∧ Aw Ω M_Hnk_putAt R F k n 44 [xr (some a0), xr (some a1), xi v2, xi v3] [xi (-1), xl (aL σ b2 (v3).toNat), xi (v2 + v3), xr (some a1)] σ))))) : Aw Ω M_Hnk_putAt R F k n 24 [xr (some a0), xr (some a1), xi v2, xi v3] [] σ := by
  refine Aw.iload_n rfl d_Hnk_putAt_24 ?_
  refine Aw.aload_n rfl d_Hnk_putAt_25 ?_
  obtain ⟨o1, h⟩ := h
  obtain ⟨b2, e3, h⟩ := h
  refine Aw.getRs (f := 324) 5 4 fl_Hnk_25 (by decide) (by decide) rfl rfl o1 e3 d_Hnk_putAt_26 ?_
  obtain ⟨o4, h⟩ := h
  refine Aw.alen 1 (by decide) o4 d_Hnk_putAt_29 (fun r5 => ?_)
  have h := h r5
  obtain ⟨o6, h⟩ := h
  obtain ⟨o7, h⟩ := h
  obtain ⟨ht, hf⟩ := h
  refine Aw.icmp_ge (tgt := 53) o6 o7 (by decide) d_Hnk_putAt_30 (fun c10 => ?_) (fun c10 => ?_)
  · have h := ht c10
    exact h
  · have h := hf c10
    refine Aw.aload_n rfl d_Hnk_putAt_33 ?_
    refine Aw.iload_n rfl d_Hnk_putAt_34 ?_
    refine Aw.iload_n rfl d_Hnk_putAt_35 ?_
    refine Aw.iadd d_Hnk_putAt_36 ?_
    refine Aw.aload_n rfl d_Hnk_putAt_37 ?_
    refine Aw.getRs (f := 324) 5 4 fl_Hnk_25 (by decide) (by decide) rfl rfl o1 e3 d_Hnk_putAt_38 ?_
    refine Aw.iload_n rfl d_Hnk_putAt_41 ?_
    obtain ⟨o8, o9, h⟩ := h
    refine Aw.lald o4 o8 o9 d_Hnk_putAt_42 ?_
    refine Aw.iconst d_Hnk_putAt_43 ?_
    exact h
theorem b_Hnk_putAt_47 {Ω : Om} {R : Room} {F : QF} {k n : Nat} {σ : Sto} {a0 : Nat} {a1 : Nat} {v2 : Int} {v3 : Int} (h : Aw Ω M_Hnk_putAt R F k n 24 [xr (some a0), xr (some a1), xi v2, xi (v3 + 1)] [] σ) : Aw Ω M_Hnk_putAt R F k n 47 [xr (some a0), xr (some a1), xi v2, xi v3] [] σ := by
  refine Aw.iinc rfl d_Hnk_putAt_47 ?_
  refine Aw.toL (L' := [xr (some a0), xr (some a1), xi v2, xi (v3 + 1)]) rfl ?_
  refine Aw.goto (tgt := 24) (by decide) d_Hnk_putAt_50 ?_
  exact h
theorem c_Hnk_putAt_13 {Ω : Om} {R R' : Room} {F : QF} {k n : Nat} {L st : List PV} {σ : Sto} {QX' : String → Sto → Prop} {Q : Sto → Prop} {a : Nat} {x0 : Int} (hc : MC Ω M_Txt_takeOut R' (RV Q) QX' σ [xr (some a), xi x0]) (hk : sK σ a = 10) (hr1 : R'.frames + 1 ≤ R.frames) (hr2 : 8 + (3 + 11) + R'.locals ≤ R.locals) (hb1 : k + R'.cells ≤ R.cells) (hb2 : n + R'.slots ≤ R.slots) (hst : (st.map catP).sum ≤ 8) (kk : ∀ σ', Q σ' → Aw Ω M_Hnk_putAt R F (k + R'.cells) (n + R'.slots) 16 L st σ') (kx : ∀ E σ', QX' E σ' → Ax Ω M_Hnk_putAt R F (k + R'.cells) (n + R'.slots) 13 L st σ' E) : Aw Ω M_Hnk_putAt R F k n 13 L (xi x0 :: xr (some a) :: st) σ :=
  Aw.callV (As := [xi x0]) (stk := xi x0 :: xr (some a) :: st) (nn := 1) 9 M_Txt_takeOut hc ok_Txt_takeOut rfl (by decide) rfl hk ml_Hnk_57 im_Txt_takeOut se_Txt_takeOut ⟨hr1, hr2⟩ rfl ⟨hb1, hb2⟩ hst rfl d_Hnk_putAt_13 (fun r σ' h => by obtain ⟨rfl, h⟩ := h; exact kk σ' h) kx
theorem c_Hnk_putAt_44 {Ω : Om} {R R' : Room} {F : QF} {k n : Nat} {L st : List PV} {σ : Sto} {QX' : String → Sto → Prop} {Q : Sto → Prop} {a : Nat} {x0 : Int} {x1 : Int64} {x2 : Int} (hc : MC Ω M_Txt_put R' (RV Q) QX' σ [xr (some a), xi x0, xl x1, xi x2]) (hk : sK σ a = 10) (hr1 : R'.frames + 1 ≤ R.frames) (hr2 : 8 + (6 + 11) + R'.locals ≤ R.locals) (hb1 : k + R'.cells ≤ R.cells) (hb2 : n + R'.slots ≤ R.slots) (hst : (st.map catP).sum ≤ 8) (kk : ∀ σ', Q σ' → Aw Ω M_Hnk_putAt R F (k + R'.cells) (n + R'.slots) 47 L st σ') (kx : ∀ E σ', QX' E σ' → Ax Ω M_Hnk_putAt R F (k + R'.cells) (n + R'.slots) 44 L st σ' E) : Aw Ω M_Hnk_putAt R F k n 44 L (xi x2 :: xl x1 :: xi x0 :: xr (some a) :: st) σ :=
  Aw.callV (As := [xi x0, xl x1, xi x2]) (stk := xi x2 :: xl x1 :: xi x0 :: xr (some a) :: st) (nn := 3) 9 M_Txt_put hc ok_Txt_put rfl (by decide) rfl hk ml_Hnk_61 im_Txt_put se_Txt_put ⟨hr1, hr2⟩ rfl ⟨hb1, hb2⟩ hst rfl d_Hnk_putAt_44 (fun r σ' h => by obtain ⟨rfl, h⟩ := h; exact kk σ' h) kx
theorem r_Hnk_putAt_53 {Ω : Om} {R : Room} {k n : Nat} {L : List PV} {σ : Sto} {QR : Option PV → Sto → Prop} {QX : String → Sto → Prop} (h : QR none σ) (h1 : k ≤ R.cells) (h2 : n ≤ R.slots) : Aw Ω M_Hnk_putAt R (MF Ω R QR QX) k n 53 L [] σ := Aw.vret rfl h h1 h2 d_Hnk_putAt_53
theorem e_Hnk_turned {Ω : Om} {R : Room} {QR : Option PV → Sto → Prop} {QX : String → Sto → Prop} {σ : Sto} {a0 : Nat} (h : Aw Ω M_Hnk_turned R (MF Ω R QR QX) 0 0 0 [xr (some a0)] [] σ) : MC Ω M_Hnk_turned R QR QX σ [xr (some a0)] := MC.body (by decide +kernel) rfl (Nat.le_of_ble_eq_true rfl) rfl h
theorem b_Hnk_turned_0 {Ω : Om} {R : Room} {F : QF} {k n : Nat} {σ : Sto} {a0 : Nat} (h : k + 1 ≤ R.cells ∧ n + 6 ≤ R.slots ∧ (∀ σ3 : Sto, σ3 = (nO σ 6 0) → sK σ3 a0 = 6 ∧ (Q32 (fI σ3 321 a0) → (Q32 (fI σ3 320 a0) → (∃ b7 : Nat, fR σ3 322 a0 = some b7 ∧ (∃ b9 : Nat, fR σ3 324 a0 = some b9 ∧ (∃ b11 : Nat, fR σ3 323 a0 = some b11 ∧ (∃ b13 : Nat, fR σ3 325 a0 = some b13 ∧ Aw Ω M_Hnk_turned R F (k + 1) (n + 6) 28 [xr (some a0)] [xr (some b13), xr (some b11), xr (some b9), xr (some b7), xi (fI σ3 320 a0), xi (fI σ3 321 a0), xr (some (sN σ)), xr (some (sN σ))] σ3)))))))) : Aw Ω M_Hnk_turned R F k n 0 [xr (some a0)] [] σ := by
  obtain ⟨o1, o2, h⟩ := h
  refine Aw.new 5 (by decide) cl_Hnk_10 ins_5 ini_5 o1 o2 d_Hnk_turned_0 ?_
  obtain ⟨σ3, hσ3⟩ : ∃ z, z = (nO σ 6 0) := ⟨_, rfl⟩
  refine Aw.toS (σ' := σ3) hσ3 ?_
  have h := h σ3 hσ3
  refine Aw.dup rfl d_Hnk_turned_3 ?_
  refine Aw.aload_n rfl d_Hnk_turned_4 ?_
  obtain ⟨o4, h⟩ := h
  refine Aw.getI (f := 321) 5 1 fl_Hnk_15 (by decide) (by decide) rfl rfl o4 d_Hnk_turned_5 (fun r5 => ?_)
  have h := h r5
  refine Aw.aload_n rfl d_Hnk_turned_8 ?_
  refine Aw.getI (f := 320) 5 0 fl_Hnk_9 (by decide) (by decide) rfl rfl o4 d_Hnk_turned_9 (fun r6 => ?_)
  have h := h r6
  refine Aw.aload_n rfl d_Hnk_turned_12 ?_
  obtain ⟨b7, e8, h⟩ := h
  refine Aw.getRs (f := 322) 5 2 fl_Hnk_18 (by decide) (by decide) rfl rfl o4 e8 d_Hnk_turned_13 ?_
  refine Aw.aload_n rfl d_Hnk_turned_16 ?_
  obtain ⟨b9, e10, h⟩ := h
  refine Aw.getRs (f := 324) 5 4 fl_Hnk_25 (by decide) (by decide) rfl rfl o4 e10 d_Hnk_turned_17 ?_
  refine Aw.aload_n rfl d_Hnk_turned_20 ?_
  obtain ⟨b11, e12, h⟩ := h
  refine Aw.getRs (f := 323) 5 3 fl_Hnk_22 (by decide) (by decide) rfl rfl o4 e12 d_Hnk_turned_21 ?_
  refine Aw.aload_n rfl d_Hnk_turned_24 ?_
  obtain ⟨b13, e14, h⟩ := h
  refine Aw.getRs (f := 325) 5 5 fl_Hnk_28 (by decide) (by decide) rfl rfl o4 e14 d_Hnk_turned_25 ?_
  exact h
theorem c_Hnk_turned_28 {Ω : Om} {R R' : Room} {F : QF} {k n : Nat} {L st : List PV} {σ : Sto} {QX' : String → Sto → Prop} {Q : Sto → Prop} {a : Nat} {x0 : Int} {x1 : Int} {x2 : Option Nat} {x3 : Option Nat} {x4 : Option Nat} {x5 : Option Nat} (hc : MC Ω M_Hnk_init R' (RV Q) QX' σ [xr (some a), xi x0, xi x1, xr x2, xr x3, xr x4, xr x5]) (hr1 : R'.frames + 1 ≤ R.frames) (hr2 : 8 + (7 + 11) + R'.locals ≤ R.locals) (hb1 : k + R'.cells ≤ R.cells) (hb2 : n + R'.slots ≤ R.slots) (hst : (st.map catP).sum ≤ 8) (kk : ∀ σ', Q σ' → Aw Ω M_Hnk_turned R F (k + R'.cells) (n + R'.slots) 31 L st σ') (kx : ∀ E σ', QX' E σ' → Ax Ω M_Hnk_turned R F (k + R'.cells) (n + R'.slots) 28 L st σ' E) : Aw Ω M_Hnk_turned R F k n 28 L (xr x5 :: xr x4 :: xr x3 :: xr x2 :: xi x1 :: xi x0 :: xr (some a) :: st) σ :=
  Aw.callI (As := [xi x0, xi x1, xr x2, xr x3, xr x4, xr x5]) (stk := xr x5 :: xr x4 :: xr x3 :: xr x2 :: xi x1 :: xi x0 :: xr (some a) :: st) (nn := 6) M_Hnk_init hc ok_Hnk_init rfl rfl rfl im_Hnk_init (Or.inl ml_Hnk_31) ⟨hr1, hr2⟩ rfl ⟨hb1, hb2⟩ hst rfl d_Hnk_turned_28 (fun r σ' h => by obtain ⟨rfl, h⟩ := h; exact kk σ' h) kx
theorem r_Hnk_turned_31 {Ω : Om} {R : Room} {k n : Nat} {L : List PV} {σ : Sto} {QR : Option PV → Sto → Prop} {QX : String → Sto → Prop} {x : Option Nat} (h : QR (some (xr x)) σ) (h1 : k ≤ R.cells) (h2 : n ≤ R.slots) : Aw Ω M_Hnk_turned R (MF Ω R QR QX) k n 31 L [xr x] σ := Aw.aret rfl (by first | exact Or.inl ⟨_, rfl⟩ | exact Or.inr ⟨_, rfl⟩) h h1 h2 d_Hnk_turned_31
theorem e_Pat_add {Ω : Om} {R : Room} {QR : Option PV → Sto → Prop} {QX : String → Sto → Prop} {σ : Sto} {a0 : Nat} {a1 : Nat} (h : Aw Ω M_Pat_add R (MF Ω R QR QX) 0 0 0 [xr (some a0), xr (some a1)] [] σ) : MC Ω M_Pat_add R QR QX σ [xr (some a0), xr (some a1)] := MC.body (by decide +kernel) rfl (Nat.le_of_ble_eq_true rfl) rfl h
theorem b_Pat_add_0 {Ω : Om} {R : Room} {F : QF} {k n : Nat} {σ : Sto} {a0 : Nat} {a1 : Nat} (h : sK σ a0 = 8 ∧ (Q32 (fI σ 449 a0) → (((21 : Int) ≤ (fI σ 449 a0) → Aw Ω M_Pat_add R F k n 29 [xr (some a0), xr (some a1)] [] σ) ∧ (¬ (21 : Int) ≤ (fI σ 449 a0) → (∃ b3 : Nat, fR σ 448 a0 = some b3 ∧ (Q32 (fI σ 449 a0) → sK σ b3 = 58 ∧ 0 ≤ (fI σ 449 a0) ∧ (fI σ 449 a0) < sZ σ b3 ∧ sK σ a1 = 6 ∧ (Q32 (fI σ 449 a0) → Q32 ((fI σ 449 a0) + 1) ∧ Aw Ω M_Pat_add R F k n 29 [xr (some a0), xr (some a1)] [] (uI (vR σ b3 (fI σ 449 a0).toNat (some a1)) 449 a0 ((fI σ 449 a0) + 1))))))))) : Aw Ω M_Pat_add R F k n 0 [xr (some a0), xr (some a1)] [] σ := by
  refine Aw.aload_n rfl d_Pat_add_0 ?_
  obtain ⟨o1, h⟩ := h
  refine Aw.getI (f := 449) 7 1 fl_Pat_17 (by decide) (by decide) rfl rfl o1 d_Pat_add_1 (fun r2 => ?_)
  have h := h r2
  refine Aw.bipush (by decide) d_Pat_add_4 ?_
  obtain ⟨ht, hf⟩ := h
  refine Aw.icmp_ge (tgt := 29) r2 ⟨by decide, by decide⟩ (by decide) d_Pat_add_6 (fun c12 => ?_) (fun c12 => ?_)
  · have h := ht c12
    exact h
  · have h := hf c12
    refine Aw.aload_n rfl d_Pat_add_9 ?_
    obtain ⟨b3, e4, h⟩ := h
    refine Aw.getRs (f := 448) 7 0 fl_Pat_11 (by decide) (by decide) rfl rfl o1 e4 d_Pat_add_10 ?_
    refine Aw.aload_n rfl d_Pat_add_13 ?_
    refine Aw.getI (f := 449) 7 1 fl_Pat_17 (by decide) (by decide) rfl rfl o1 d_Pat_add_14 (fun r5 => ?_)
    have h := h r5
    refine Aw.aload_n rfl d_Pat_add_17 ?_
    obtain ⟨o6, h⟩ := h
    obtain ⟨o7, o8, h⟩ := h
    obtain ⟨o9, h⟩ := h
    refine Aw.aast 8 5 (by decide) (by decide) (by decide) (Or.inl rfl) o6 o9 o7 o8 d_Pat_add_18 ?_
    refine Aw.aload_n rfl d_Pat_add_19 ?_
    refine Aw.dup rfl d_Pat_add_20 ?_
    refine Aw.getI (f := 449) 7 1 fl_Pat_17 (by decide) (by decide) rfl rfl o1 d_Pat_add_21 (fun r10 => ?_)
    have h := h r10
    refine Aw.iconst d_Pat_add_24 ?_
    refine Aw.iadd d_Pat_add_25 ?_
    obtain ⟨o11, h⟩ := h
    refine Aw.putI (f := 449) 7 1 fl_Pat_17 (by decide) (by decide) rfl rfl o1 rfl o11 (Or.inl rfl) d_Pat_add_26 ?_
    exact h
theorem r_Pat_add_29 {Ω : Om} {R : Room} {k n : Nat} {L : List PV} {σ : Sto} {QR : Option PV → Sto → Prop} {QX : String → Sto → Prop} (h : QR none σ) (h1 : k ≤ R.cells) (h2 : n ≤ R.slots) : Aw Ω M_Pat_add R (MF Ω R QR QX) k n 29 L [] σ := Aw.vret rfl h h1 h2 d_Pat_add_29
theorem e_Pat_contextAhead {Ω : Om} {R : Room} {QR : Option PV → Sto → Prop} {QX : String → Sto → Prop} {σ : Sto} {a0 : Nat} {v1 : Int} {v2 : Int} {v3 : Int} (h : Aw Ω M_Pat_contextAhead R (MF Ω R QR QX) 0 0 0 [xr (some a0), xi v1, xi v2, xi v3, xu] [] σ) : MC Ω M_Pat_contextAhead R QR QX σ [xr (some a0), xi v1, xi v2, xi v3] := MC.body (by decide +kernel) rfl (Nat.le_of_ble_eq_true rfl) rfl h
theorem b_Pat_contextAhead_0 {Ω : Om} {R : Room} {F : QF} {k n : Nat} {σ : Sto} {a0 : Nat} {v1 : Int} {v2 : Int} {v3 : Int} (h : Aw Ω M_Pat_contextAhead R F k n 3 [xr (some a0), xi v1, xi v2, xi v3, xi 0] [] σ) : Aw Ω M_Pat_contextAhead R F k n 0 [xr (some a0), xi v1, xi v2, xi v3, xu] [] σ := by
  refine Aw.iconst d_Pat_contextAhead_0 ?_
  refine Aw.istore (by decide) d_Pat_contextAhead_1 ?_
  refine Aw.toL (L' := [xr (some a0), xi v1, xi v2, xi v3, xi 0]) rfl ?_
  exact h
theorem b_Pat_contextAhead_3 {Ω : Om} {R : Room} {F : QF} {k n : Nat} {σ : Sto} {a0 : Nat} {v1 : Int} {v2 : Int} {v3 : Int} {v4 : Int} (h : Q32 v4 ∧ Q32 v3 ∧ ((v3 ≤ v4 → Aw Ω M_Pat_contextAhead R F k n 50 [xr (some a0), xi v1, xi v2, xi v3, xi v4] [xi v4] σ) ∧ (¬ v3 ≤ v4 → Q32 (v1 - v4) ∧ (((v1 - v4) ≤ (0 : Int) → Aw Ω M_Pat_contextAhead R F k n 50 [xr (some a0), xi v1, xi v2, xi v3, xi v4] [xi v4] σ) ∧ (¬ (v1 - v4) ≤ (0 : Int) → Q32 (v2 - v4) ∧ (((v2 - v4) ≤ (0 : Int) → Aw Ω M_Pat_contextAhead R F k n 50 [xr (some a0), xi v1, xi v2, xi v3, xi v4] [xi v4] σ) ∧ (¬ (v2 - v4) ≤ (0 : Int) → Aw Ω M_Pat_contextAhead R F k n 30 [xr (some a0), xi v1, xi v2, xi v3, xi v4] [xi ((v1 - v4) - 1), xr (some a0)] σ))))))) : Aw Ω M_Pat_contextAhead R F k n 3 [xr (some a0), xi v1, xi v2, xi v3, xi v4] [] σ := by
  refine Aw.iload rfl d_Pat_contextAhead_3 ?_
  refine Aw.iload_n rfl d_Pat_contextAhead_5 ?_
  obtain ⟨o1, h⟩ := h
  obtain ⟨o2, h⟩ := h
  obtain ⟨ht, hf⟩ := h
  refine Aw.icmp_ge (tgt := 48) o1 o2 (by decide) d_Pat_contextAhead_6 (fun c7 => ?_) (fun c7 => ?_)
  · have h := ht c7
    refine Aw.iload rfl d_Pat_contextAhead_48 ?_
    exact h
  · have h := hf c7
    refine Aw.iload_n rfl d_Pat_contextAhead_9 ?_
    refine Aw.iload rfl d_Pat_contextAhead_10 ?_
    refine Aw.isub d_Pat_contextAhead_12 ?_
    obtain ⟨o3, h⟩ := h
    obtain ⟨ht, hf⟩ := h
    refine Aw.if_le (tgt := 48) o3 (by decide) d_Pat_contextAhead_13 (fun c6 => ?_) (fun c6 => ?_)
    · have h := ht c6
      refine Aw.iload rfl d_Pat_contextAhead_48 ?_
      exact h
    · have h := hf c6
      refine Aw.iload_n rfl d_Pat_contextAhead_16 ?_
      refine Aw.iload rfl d_Pat_contextAhead_17 ?_
      refine Aw.isub d_Pat_contextAhead_19 ?_
      obtain ⟨o4, h⟩ := h
      obtain ⟨ht, hf⟩ := h
      refine Aw.if_le (tgt := 48) o4 (by decide) d_Pat_contextAhead_20 (fun c5 => ?_) (fun c5 => ?_)
      · have h := ht c5
        refine Aw.iload rfl d_Pat_contextAhead_48 ?_
        exact h
      · have h := hf c5
        refine Aw.aload_n rfl d_Pat_contextAhead_23 ?_
        refine Aw.iload_n rfl d_Pat_contextAhead_24 ?_
        refine Aw.iload rfl d_Pat_contextAhead_25 ?_
        refine Aw.isub d_Pat_contextAhead_27 ?_
        refine Aw.iconst d_Pat_contextAhead_28 ?_
        refine Aw.isub d_Pat_contextAhead_29 ?_
        exact h
theorem b_Pat_contextAhead_33 {Ω : Om} {R : Room} {F : QF} {k n : Nat} {σ : Sto} {a0 : Nat} {v1 : Int} {v2 : Int} {v3 : Int} {v4 : Int} {s0 : Int} (h : Q32 s0 ∧ Q32 ((v2 - v4) - 1) ∧ ((¬ s0 = ((v2 - v4) - 1) → Aw Ω M_Pat_contextAhead R F k n 50 [xr (some a0), xi v1, xi v2, xi v3, xi v4] [xi v4] σ) ∧ (s0 = ((v2 - v4) - 1) → Aw Ω M_Pat_contextAhead R F k n 3 [xr (some a0), xi v1, xi v2, xi v3, xi (v4 + 1)] [] σ))) : Aw Ω M_Pat_contextAhead R F k n 33 [xr (some a0), xi v1, xi v2, xi v3, xi v4] [xi s0] σ := by
  refine Aw.iload_n rfl d_Pat_contextAhead_33 ?_
  refine Aw.iload rfl d_Pat_contextAhead_34 ?_
  refine Aw.isub d_Pat_contextAhead_36 ?_
  refine Aw.iconst d_Pat_contextAhead_37 ?_
  refine Aw.isub d_Pat_contextAhead_38 ?_
  obtain ⟨o1, h⟩ := h
  obtain ⟨o2, h⟩ := h
  obtain ⟨ht, hf⟩ := h
  refine Aw.icmp_ne (tgt := 48) o1 o2 (by decide) d_Pat_contextAhead_39 (fun c3 => ?_) (fun c3 => ?_)
  · have h := ht c3
    refine Aw.iload rfl d_Pat_contextAhead_48 ?_
    exact h
  · have h := hf c3
    refine Aw.iinc rfl d_Pat_contextAhead_42 ?_
    refine Aw.toL (L' := [xr (some a0), xi v1, xi v2, xi v3, xi (v4 + 1)]) rfl ?_
    refine Aw.goto (tgt := 3) (by decide) d_Pat_contextAhead_45 ?_
    exact h
theorem c_Pat_contextAhead_30 {Ω : Om} {R R' : Room} {F : QF} {k n : Nat} {L st : List PV} {σ : Sto} {QX' : String → Sto → Prop} {Q : Int → Sto → Prop} {a : Nat} {x0 : Int} (hc : MC Ω M_Cmp_pairAt R' (RI Q) QX' σ [xr (some a), xi x0]) (hk : sK σ a = 2) (hr1 : R'.frames + 1 ≤ R.frames) (hr2 : 8 + (2 + 11) + R'.locals ≤ R.locals) (hb1 : k + R'.cells ≤ R.cells) (hb2 : n + R'.slots ≤ R.slots) (hst : (st.map catP).sum ≤ 8) (kk : ∀ x σ', Q x σ' → Aw Ω M_Pat_contextAhead R F (k + R'.cells) (n + R'.slots) 33 L (xi x :: st) σ') (kx : ∀ E σ', QX' E σ' → Ax Ω M_Pat_contextAhead R F (k + R'.cells) (n + R'.slots) 30 L st σ' E) : Aw Ω M_Pat_contextAhead R F k n 30 L (xi x0 :: xr (some a) :: st) σ :=
  Aw.callV (As := [xi x0]) (stk := xi x0 :: xr (some a) :: st) (nn := 1) 1 M_Cmp_pairAt hc ok_Cmp_pairAt rfl (by decide) rfl hk ml_Pat_27 im_Cmp_pairAt se_Cmp_pairAt ⟨hr1, hr2⟩ rfl ⟨hb1, hb2⟩ hst rfl d_Pat_contextAhead_30 (fun r σ' h => by obtain ⟨x, rfl, h⟩ := h; exact kk x σ' h) kx
theorem r_Pat_contextAhead_50 {Ω : Om} {R : Room} {k n : Nat} {L : List PV} {σ : Sto} {QR : Option PV → Sto → Prop} {QX : String → Sto → Prop} {x : Int} (h : QR (some (xi x)) σ) (h1 : k ≤ R.cells) (h2 : n ≤ R.slots) : Aw Ω M_Pat_contextAhead R (MF Ω R QR QX) k n 50 L [xi x] σ := Aw.iret rfl h h1 h2 d_Pat_contextAhead_50
theorem e_Pat_contextBehind {Ω : Om} {R : Room} {QR : Option PV → Sto → Prop} {QX : String → Sto → Prop} {σ : Sto} {a0 : Nat} {v1 : Int} {v2 : Int} {v3 : Int} (h : Aw Ω M_Pat_contextBehind R (MF Ω R QR QX) 0 0 0 [xr (some a0), xi v1, xi v2, xi v3, xu] [] σ) : MC Ω M_Pat_contextBehind R QR QX σ [xr (some a0), xi v1, xi v2, xi v3] := MC.body (by decide +kernel) rfl (Nat.le_of_ble_eq_true rfl) rfl h
theorem b_Pat_contextBehind_0 {Ω : Om} {R : Room} {F : QF} {k n : Nat} {σ : Sto} {a0 : Nat} {v1 : Int} {v2 : Int} {v3 : Int} (h : Aw Ω M_Pat_contextBehind R F k n 3 [xr (some a0), xi v1, xi v2, xi v3, xi 0] [] σ) : Aw Ω M_Pat_contextBehind R F k n 0 [xr (some a0), xi v1, xi v2, xi v3, xu] [] σ := by
  refine Aw.iconst d_Pat_contextBehind_0 ?_
  refine Aw.istore (by decide) d_Pat_contextBehind_1 ?_
  refine Aw.toL (L' := [xr (some a0), xi v1, xi v2, xi v3, xi 0]) rfl ?_
  exact h
theorem b_Pat_contextBehind_3 {Ω : Om} {R : Room} {F : QF} {k n : Nat} {σ : Sto} {a0 : Nat} {v1 : Int} {v2 : Int} {v3 : Int} {v4 : Int} (h : Q32 v4 ∧ Q32 v3 ∧ ((v3 ≤ v4 → Aw Ω M_Pat_contextBehind R F k n 43 [xr (some a0), xi v1, xi v2, xi v3, xi v4] [xi v4] σ) ∧ (¬ v3 ≤ v4 → Aw Ω M_Pat_contextBehind R F k n 14 [xr (some a0), xi v1, xi v2, xi v3, xi v4] [xr (some a0), xi (v1 + v4)] σ))) : Aw Ω M_Pat_contextBehind R F k n 3 [xr (some a0), xi v1, xi v2, xi v3, xi v4] [] σ := by
  refine Aw.iload rfl d_Pat_contextBehind_3 ?_
  refine Aw.iload_n rfl d_Pat_contextBehind_5 ?_
  obtain ⟨o1, h⟩ := h
  obtain ⟨o2, h⟩ := h
  obtain ⟨ht, hf⟩ := h
  refine Aw.icmp_ge (tgt := 41) o1 o2 (by decide) d_Pat_contextBehind_6 (fun c3 => ?_) (fun c3 => ?_)
  · have h := ht c3
    refine Aw.iload rfl d_Pat_contextBehind_41 ?_
    exact h
  · have h := hf c3
    refine Aw.iload_n rfl d_Pat_contextBehind_9 ?_
    refine Aw.iload rfl d_Pat_contextBehind_10 ?_
    refine Aw.iadd d_Pat_contextBehind_12 ?_
    refine Aw.aload_n rfl d_Pat_contextBehind_13 ?_
    exact h
theorem b_Pat_contextBehind_17 {Ω : Om} {R : Room} {F : QF} {k n : Nat} {σ : Sto} {a0 : Nat} {v1 : Int} {v2 : Int} {v3 : Int} {v4 : Int} {s0 : Int} {s1 : Int} (h : Q32 s0 ∧ Q32 s1 ∧ ((s1 ≤ s0 → Aw Ω M_Pat_contextBehind R F k n 43 [xr (some a0), xi v1, xi v2, xi v3, xi v4] [xi v4] σ) ∧ (¬ s1 ≤ s0 → Aw Ω M_Pat_contextBehind R F k n 25 [xr (some a0), xi v1, xi v2, xi v3, xi v4] [xi (v1 + v4), xr (some a0)] σ))) : Aw Ω M_Pat_contextBehind R F k n 17 [xr (some a0), xi v1, xi v2, xi v3, xi v4] [xi s1, xi s0] σ := by
  obtain ⟨o1, h⟩ := h
  obtain ⟨o2, h⟩ := h
  obtain ⟨ht, hf⟩ := h
  refine Aw.icmp_ge (tgt := 41) o1 o2 (by decide) d_Pat_contextBehind_17 (fun c3 => ?_) (fun c3 => ?_)
  · have h := ht c3
    refine Aw.iload rfl d_Pat_contextBehind_41 ?_
    exact h
  · have h := hf c3
    refine Aw.aload_n rfl d_Pat_contextBehind_20 ?_
    refine Aw.iload_n rfl d_Pat_contextBehind_21 ?_
    refine Aw.iload rfl d_Pat_contextBehind_22 ?_
    refine Aw.iadd d_Pat_contextBehind_24 ?_
    exact h
theorem b_Pat_contextBehind_28 {Ω : Om} {R : Room} {F : QF} {k n : Nat} {σ : Sto} {a0 : Nat} {v1 : Int} {v2 : Int} {v3 : Int} {v4 : Int} {s0 : Int} (h : Q32 s0 ∧ Q32 (v2 + v4) ∧ ((¬ s0 = (v2 + v4) → Aw Ω M_Pat_contextBehind R F k n 43 [xr (some a0), xi v1, xi v2, xi v3, xi v4] [xi v4] σ) ∧ (s0 = (v2 + v4) → Aw Ω M_Pat_contextBehind R F k n 3 [xr (some a0), xi v1, xi v2, xi v3, xi (v4 + 1)] [] σ))) : Aw Ω M_Pat_contextBehind R F k n 28 [xr (some a0), xi v1, xi v2, xi v3, xi v4] [xi s0] σ := by
  refine Aw.iload_n rfl d_Pat_contextBehind_28 ?_
  refine Aw.iload rfl d_Pat_contextBehind_29 ?_
  refine Aw.iadd d_Pat_contextBehind_31 ?_
  obtain ⟨o1, h⟩ := h
  obtain ⟨o2, h⟩ := h
  obtain ⟨ht, hf⟩ := h
  refine Aw.icmp_ne (tgt := 41) o1 o2 (by decide) d_Pat_contextBehind_32 (fun c3 => ?_) (fun c3 => ?_)
  · have h := ht c3
    refine Aw.iload rfl d_Pat_contextBehind_41 ?_
    exact h
  · have h := hf c3
    refine Aw.iinc rfl d_Pat_contextBehind_35 ?_
    refine Aw.toL (L' := [xr (some a0), xi v1, xi v2, xi v3, xi (v4 + 1)]) rfl ?_
    refine Aw.goto (tgt := 3) (by decide) d_Pat_contextBehind_38 ?_
    exact h
theorem c_Pat_contextBehind_14 {Ω : Om} {R R' : Room} {F : QF} {k n : Nat} {L st : List PV} {σ : Sto} {QX' : String → Sto → Prop} {Q : Int → Sto → Prop} {a : Nat} (hc : MC Ω M_Cmp_size R' (RI Q) QX' σ [xr (some a)]) (hk : sK σ a = 2) (hr1 : R'.frames + 1 ≤ R.frames) (hr2 : 8 + (1 + 11) + R'.locals ≤ R.locals) (hb1 : k + R'.cells ≤ R.cells) (hb2 : n + R'.slots ≤ R.slots) (hst : (st.map catP).sum ≤ 8) (kk : ∀ x σ', Q x σ' → Aw Ω M_Pat_contextBehind R F (k + R'.cells) (n + R'.slots) 17 L (xi x :: st) σ') (kx : ∀ E σ', QX' E σ' → Ax Ω M_Pat_contextBehind R F (k + R'.cells) (n + R'.slots) 14 L st σ' E) : Aw Ω M_Pat_contextBehind R F k n 14 L (xr (some a) :: st) σ :=
  Aw.callV (As := []) (stk := xr (some a) :: st) (nn := 0) 1 M_Cmp_size hc ok_Cmp_size rfl (by decide) rfl hk ml_Pat_51 im_Cmp_size se_Cmp_size ⟨hr1, hr2⟩ rfl ⟨hb1, hb2⟩ hst rfl d_Pat_contextBehind_14 (fun r σ' h => by obtain ⟨x, rfl, h⟩ := h; exact kk x σ' h) kx
theorem c_Pat_contextBehind_25 {Ω : Om} {R R' : Room} {F : QF} {k n : Nat} {L st : List PV} {σ : Sto} {QX' : String → Sto → Prop} {Q : Int → Sto → Prop} {a : Nat} {x0 : Int} (hc : MC Ω M_Cmp_pairAt R' (RI Q) QX' σ [xr (some a), xi x0]) (hk : sK σ a = 2) (hr1 : R'.frames + 1 ≤ R.frames) (hr2 : 8 + (2 + 11) + R'.locals ≤ R.locals) (hb1 : k + R'.cells ≤ R.cells) (hb2 : n + R'.slots ≤ R.slots) (hst : (st.map catP).sum ≤ 8) (kk : ∀ x σ', Q x σ' → Aw Ω M_Pat_contextBehind R F (k + R'.cells) (n + R'.slots) 28 L (xi x :: st) σ') (kx : ∀ E σ', QX' E σ' → Ax Ω M_Pat_contextBehind R F (k + R'.cells) (n + R'.slots) 25 L st σ' E) : Aw Ω M_Pat_contextBehind R F k n 25 L (xi x0 :: xr (some a) :: st) σ :=
  Aw.callV (As := [xi x0]) (stk := xi x0 :: xr (some a) :: st) (nn := 1) 1 M_Cmp_pairAt hc ok_Cmp_pairAt rfl (by decide) rfl hk ml_Pat_27 im_Cmp_pairAt se_Cmp_pairAt ⟨hr1, hr2⟩ rfl ⟨hb1, hb2⟩ hst rfl d_Pat_contextBehind_25 (fun r σ' h => by obtain ⟨x, rfl, h⟩ := h; exact kk x σ' h) kx
theorem r_Pat_contextBehind_43 {Ω : Om} {R : Room} {k n : Nat} {L : List PV} {σ : Sto} {QR : Option PV → Sto → Prop} {QX : String → Sto → Prop} {x : Int} (h : QR (some (xi x)) σ) (h1 : k ≤ R.cells) (h2 : n ≤ R.slots) : Aw Ω M_Pat_contextBehind R (MF Ω R QR QX) k n 43 L [xi x] σ := Aw.iret rfl h h1 h2 d_Pat_contextBehind_43
theorem e_Pat_fill {Ω : Om} {R : Room} {QR : Option PV → Sto → Prop} {QX : String → Sto → Prop} {σ : Sto} {a0 : Nat} {a1 : Nat} {a2 : Nat} {a3 : Nat} {v4 : Int} (h : Aw Ω M_Pat_fill R (MF Ω R QR QX) 0 0 0 [xr (some a0), xr (some a1), xr (some a2), xr (some a3), xi v4, xu, xu, xu, xu, xu, xu] [] σ) : MC Ω M_Pat_fill R QR QX σ [xr (some a0), xr (some a1), xr (some a2), xr (some a3), xi v4] := MC.body (by decide +kernel) rfl (Nat.le_of_ble_eq_true rfl) rfl h
theorem b_Pat_fill_0 {Ω : Om} {R : Room} {F : QF} {k n : Nat} {σ : Sto} {a0 : Nat} {a1 : Nat} {a2 : Nat} {a3 : Nat} {v4 : Int} (h : Aw Ω M_Pat_fill R F k n 9 [xr (some a0), xr (some a1), xr (some a2), xr (some a3), xi v4, xi 0, xi 0, xi 0, xu, xu, xu] [] σ) : Aw Ω M_Pat_fill R F k n 0 [xr (some a0), xr (some a1), xr (some a2), xr (some a3), xi v4, xu, xu, xu, xu, xu, xu] [] σ := by
  refine Aw.iconst d_Pat_fill_0 ?_
  refine Aw.istore (by decide) d_Pat_fill_1 ?_
  refine Aw.toL (L' := [xr (some a0), xr (some a1), xr (some a2), xr (some a3), xi v4, xi 0, xu, xu, xu, xu, xu]) rfl ?_
  refine Aw.iconst d_Pat_fill_3 ?_
  refine Aw.istore (by decide) d_Pat_fill_4 ?_
  refine Aw.toL (L' := [xr (some a0), xr (some a1), xr (some a2), xr (some a3), xi v4, xi 0, xi 0, xu, xu, xu, xu]) rfl ?_
  refine Aw.iconst d_Pat_fill_6 ?_
  refine Aw.istore (by decide) d_Pat_fill_7 ?_
  refine Aw.toL (L' := [xr (some a0), xr (some a1), xr (some a2), xr (some a3), xi v4, xi 0, xi 0, xi 0, xu, xu, xu]) rfl ?_
  exact h
theorem b_Pat_fill_9 {Ω : Om} {R : Room} {F : QF} {k n : Nat} {σ : Sto} {a0 : Nat} {a1 : Nat} {a2 : Nat} {a3 : Nat} {v4 : Int} {v5 : Int} {v6 : Int} {v7 : Int} (h : Aw Ω M_Pat_fill R F k n 12 [xr (some a0), xr (some a1), xr (some a2), xr (some a3), xi v4, xi v5, xi v6, xi v7, xu, xu, xu] [xr (some a1), xi v7] σ) : Aw Ω M_Pat_fill R F k n 9 [xr (some a0), xr (some a1), xr (some a2), xr (some a3), xi v4, xi v5, xi v6, xi v7, xu, xu, xu] [] σ := by
  refine Aw.iload rfl d_Pat_fill_9 ?_
  refine Aw.aload_n rfl d_Pat_fill_11 ?_
  exact h
theorem b_Pat_fill_15 {Ω : Om} {R : Room} {F : QF} {k n : Nat} {σ : Sto} {a0 : Nat} {a1 : Nat} {a2 : Nat} {a3 : Nat} {v4 : Int} {v5 : Int} {v6 : Int} {v7 : Int} {s0 : Int} {s1 : Int} (h : Q32 s0 ∧ Q32 s1 ∧ ((s1 < s0 → Aw Ω M_Pat_fill R F k n 160 [xr (some a0), xr (some a1), xr (some a2), xr (some a3), xi v4, xi v5, xi v6, xi v7, xu, xu, xu] [] σ) ∧ (¬ s1 < s0 → Aw Ω M_Pat_fill R F k n 21 [xr (some a0), xr (some a1), xr (some a2), xr (some a3), xi v4, xi v5, xi v6, xi v7, xu, xu, xu] [xr (some a1), xi v7] σ))) : Aw Ω M_Pat_fill R F k n 15 [xr (some a0), xr (some a1), xr (some a2), xr (some a3), xi v4, xi v5, xi v6, xi v7, xu, xu, xu] [xi s1, xi s0] σ := by
  obtain ⟨o1, h⟩ := h
  obtain ⟨o2, h⟩ := h
  obtain ⟨ht, hf⟩ := h
  refine Aw.icmp_gt (tgt := 160) o1 o2 (by decide) d_Pat_fill_15 (fun c3 => ?_) (fun c3 => ?_)
  · have h := ht c3
    exact h
  · have h := hf c3
    refine Aw.iload rfl d_Pat_fill_18 ?_
    refine Aw.aload_n rfl d_Pat_fill_20 ?_
    exact h
theorem b_Pat_fill_24 {Ω : Om} {R : Room} {F : QF} {k n : Nat} {σ : Sto} {a0 : Nat} {a1 : Nat} {a2 : Nat} {a3 : Nat} {v4 : Int} {v5 : Int} {v6 : Int} {v7 : Int} {s0 : Int} {s1 : Int} (h : Q32 s0 ∧ Q32 s1 ∧ ((s1 ≤ s0 → Aw Ω M_Pat_fill R F k n 37 [xr (some a0), xr (some a1), xr (some a2), xr (some a3), xi v4, xi v5, xi v6, xi v7, xu, xu, xu] [xr (some a2)] σ) ∧ (¬ s1 ≤ s0 → Aw Ω M_Pat_fill R F k n 30 [xr (some a0), xr (some a1), xr (some a2), xr (some a3), xi v4, xi v5, xi v6, xi v7, xu, xu, xu] [xi v7, xr (some a3)] σ))) : Aw Ω M_Pat_fill R F k n 24 [xr (some a0), xr (some a1), xr (some a2), xr (some a3), xi v4, xi v5, xi v6, xi v7, xu, xu, xu] [xi s1, xi s0] σ := by
  obtain ⟨o1, h⟩ := h
  obtain ⟨o2, h⟩ := h
  obtain ⟨ht, hf⟩ := h
  refine Aw.icmp_ge (tgt := 36) o1 o2 (by decide) d_Pat_fill_24 (fun c3 => ?_) (fun c3 => ?_)
  · have h := ht c3
    refine Aw.aload_n rfl d_Pat_fill_36 ?_
    exact h
  · have h := hf c3
    refine Aw.aload_n rfl d_Pat_fill_27 ?_
    refine Aw.iload rfl d_Pat_fill_28 ?_
    exact h
theorem b_Pat_fill_33 {Ω : Om} {R : Room} {F : QF} {k n : Nat} {σ : Sto} {a0 : Nat} {a1 : Nat} {a2 : Nat} {a3 : Nat} {v4 : Int} {v5 : Int} {v6 : Int} {v7 : Int} {s0 : Int} (h : Q32 s0 ∧ ((¬ s0 = (-1 : Int) → Q32 v7 ∧ Q32 v5 ∧ ((v5 < v7 → Aw Ω M_Pat_fill R F k n 72 [xr (some a0), xr (some a1), xr (some a2), xr (some a3), xi v4, xi v5, xi v6, xi v7, xi s0, xu, xu] [xi v4, xi v6, xi v5, xr (some a3)] σ) ∧ (¬ v5 < v7 → Q32 v6 ∧ ((s0 ≤ v6 → Aw Ω M_Pat_fill R F k n 9 [xr (some a0), xr (some a1), xr (some a2), xr (some a3), xi v4, xi (v7 + 1), xi (s0 + 1), xi (v7 + 1), xu, xu, xu] [] σ) ∧ (¬ s0 ≤ v6 → Aw Ω M_Pat_fill R F k n 72 [xr (some a0), xr (some a1), xr (some a2), xr (some a3), xi v4, xi v5, xi v6, xi v7, xi s0, xu, xu] [xi v4, xi v6, xi v5, xr (some a3)] σ))))) ∧ (s0 = (-1 : Int) → Aw Ω M_Pat_fill R F k n 9 [xr (some a0), xr (some a1), xr (some a2), xr (some a3), xi v4, xi v5, xi v6, xi (v7 + 1), xu, xu, xu] [] σ))) : Aw Ω M_Pat_fill R F k n 33 [xr (some a0), xr (some a1), xr (some a2), xr (some a3), xi v4, xi v5, xi v6, xi v7, xu, xu, xu] [xi s0] σ := by
  refine Aw.goto (tgt := 40) (by decide) d_Pat_fill_33 ?_
  refine Aw.istore (by decide) d_Pat_fill_40 ?_
  refine Aw.toL (L' := [xr (some a0), xr (some a1), xr (some a2), xr (some a3), xi v4, xi v5, xi v6, xi v7, xi s0, xu, xu]) rfl ?_
  refine Aw.iload rfl d_Pat_fill_42 ?_
  refine Aw.iconst d_Pat_fill_44 ?_
  obtain ⟨o1, h⟩ := h
  obtain ⟨ht, hf⟩ := h
  refine Aw.icmp_ne (tgt := 51) o1 ⟨by decide, by decide⟩ (by decide) d_Pat_fill_45 (fun c7 => ?_) (fun c7 => ?_)
  · have h := ht c7
    refine Aw.iload rfl d_Pat_fill_51 ?_
    refine Aw.iload rfl d_Pat_fill_53 ?_
    obtain ⟨o2, h⟩ := h
    obtain ⟨o3, h⟩ := h
    obtain ⟨ht, hf⟩ := h
    refine Aw.icmp_gt (tgt := 65) o2 o3 (by decide) d_Pat_fill_55 (fun c6 => ?_) (fun c6 => ?_)
    · have h := ht c6
      refine Aw.aload_n rfl d_Pat_fill_65 ?_
      refine Aw.iload rfl d_Pat_fill_66 ?_
      refine Aw.iload rfl d_Pat_fill_68 ?_
      refine Aw.iload rfl d_Pat_fill_70 ?_
      exact h
    · have h := hf c6
      refine Aw.iload rfl d_Pat_fill_58 ?_
      refine Aw.iload rfl d_Pat_fill_60 ?_
      obtain ⟨o4, h⟩ := h
      obtain ⟨ht, hf⟩ := h
      refine Aw.icmp_le (tgt := 142) o1 o4 (by decide) d_Pat_fill_62 (fun c5 => ?_) (fun c5 => ?_)
      · have h := ht c5
        refine Aw.iload rfl d_Pat_fill_142 ?_
        refine Aw.iconst d_Pat_fill_144 ?_
        refine Aw.iadd d_Pat_fill_145 ?_
        refine Aw.istore (by decide) d_Pat_fill_146 ?_
        refine Aw.toL (L' := [xr (some a0), xr (some a1), xr (some a2), xr (some a3), xi v4, xi (v7 + 1), xi v6, xi v7, xi s0, xu, xu]) rfl ?_
        refine Aw.iload rfl d_Pat_fill_148 ?_
        refine Aw.iconst d_Pat_fill_150 ?_
        refine Aw.iadd d_Pat_fill_151 ?_
        refine Aw.istore (by decide) d_Pat_fill_152 ?_
        refine Aw.toL (L' := [xr (some a0), xr (some a1), xr (some a2), xr (some a3), xi v4, xi (v7 + 1), xi (s0 + 1), xi v7, xi s0, xu, xu]) rfl ?_
        refine Aw.iinc rfl d_Pat_fill_154 ?_
        refine Aw.toL (L' := [xr (some a0), xr (some a1), xr (some a2), xr (some a3), xi v4, xi (v7 + 1), xi (s0 + 1), xi (v7 + 1), xi s0, xu, xu]) rfl ?_
        refine Aw.goto (tgt := 9) (by decide) d_Pat_fill_157 ?_
        exact Aw.toW (L' := [xr (some a0), xr (some a1), xr (some a2), xr (some a3), xi v4, xi (v7 + 1), xi (s0 + 1), xi (v7 + 1), xu, xu, xu]) ⟨Or.inr rfl, Or.inr rfl, Or.inr rfl, Or.inr rfl, Or.inr rfl, Or.inr rfl, Or.inr rfl, Or.inr rfl, Or.inl rfl, Or.inr rfl, Or.inr rfl, trivial⟩ h
      · have h := hf c5
        refine Aw.aload_n rfl d_Pat_fill_65 ?_
        refine Aw.iload rfl d_Pat_fill_66 ?_
        refine Aw.iload rfl d_Pat_fill_68 ?_
        refine Aw.iload rfl d_Pat_fill_70 ?_
        exact h
  · have h := hf c7
    refine Aw.goto (tgt := 154) (by decide) d_Pat_fill_48 ?_
    refine Aw.iinc rfl d_Pat_fill_154 ?_
    refine Aw.toL (L' := [xr (some a0), xr (some a1), xr (some a2), xr (some a3), xi v4, xi v5, xi v6, xi (v7 + 1), xi s0, xu, xu]) rfl ?_
    refine Aw.goto (tgt := 9) (by decide) d_Pat_fill_157 ?_
    exact Aw.toW (L' := [xr (some a0), xr (some a1), xr (some a2), xr (some a3), xi v4, xi v5, xi v6, xi (v7 + 1), xu, xu, xu]) ⟨Or.inr rfl, Or.inr rfl, Or.inr rfl, Or.inr rfl, Or.inr rfl, Or.inr rfl, Or.inr rfl, Or.inr rfl, Or.inl rfl, Or.inr rfl, Or.inr rfl, trivial⟩ h
theorem b_Pat_fill_75 {Ω : Om} {R : Room} {F : QF} {k n : Nat} {σ : Sto} {a0 : Nat} {a1 : Nat} {a2 : Nat} {a3 : Nat} {v4 : Int} {v5 : Int} {v6 : Int} {v7 : Int} {v8 : Int} {s0 : Int} (h : Aw Ω M_Pat_fill R F k n 84 [xr (some a0), xr (some a1), xr (some a2), xr (some a3), xi v4, xi v5, xi v6, xi v7, xi v8, xi s0, xu] [xi v4, xi v8, xi v7, xr (some a3)] σ) : Aw Ω M_Pat_fill R F k n 75 [xr (some a0), xr (some a1), xr (some a2), xr (some a3), xi v4, xi v5, xi v6, xi v7, xi v8, xu, xu] [xi s0] σ := by
  refine Aw.istore (by decide) d_Pat_fill_75 ?_
  refine Aw.toL (L' := [xr (some a0), xr (some a1), xr (some a2), xr (some a3), xi v4, xi v5, xi v6, xi v7, xi v8, xi s0, xu]) rfl ?_
  refine Aw.aload_n rfl d_Pat_fill_77 ?_
  refine Aw.iload rfl d_Pat_fill_78 ?_
  refine Aw.iload rfl d_Pat_fill_80 ?_
  refine Aw.iload rfl d_Pat_fill_82 ?_
  exact h
theorem b_Pat_fill_87 {Ω : Om} {R : Room} {F : QF} {k n : Nat} {σ : Sto} {a0 : Nat} {a1 : Nat} {a2 : Nat} {a3 : Nat} {v4 : Int} {v5 : Int} {v6 : Int} {v7 : Int} {v8 : Int} {v9 : Int} {s0 : Int} (h : k + 1 ≤ R.cells ∧ n + 6 ≤ R.slots ∧ (∀ σ3 : Sto, σ3 = (nO σ 6 0) → Aw Ω M_Pat_fill R F (k + 1) (n + 6) 106 [xr (some a0), xr (some a1), xr (some a2), xr (some a3), xi v4, xi v5, xi v6, xi v7, xi v8, xi v9, xi s0] [xi v5, xi (v5 - v9), xr (some a1), xi v6, xi v5, xr (some (sN σ)), xr (some (sN σ)), xr (some a0)] σ3)) : Aw Ω M_Pat_fill R F k n 87 [xr (some a0), xr (some a1), xr (some a2), xr (some a3), xi v4, xi v5, xi v6, xi v7, xi v8, xi v9, xu] [xi s0] σ := by
  refine Aw.istore (by decide) d_Pat_fill_87 ?_
  refine Aw.toL (L' := [xr (some a0), xr (some a1), xr (some a2), xr (some a3), xi v4, xi v5, xi v6, xi v7, xi v8, xi v9, xi s0]) rfl ?_
  refine Aw.aload_n rfl d_Pat_fill_89 ?_
  obtain ⟨o1, o2, h⟩ := h
  refine Aw.new 5 (by decide) cl_Pat_9 ins_5 ini_5 o1 o2 d_Pat_fill_90 ?_
  obtain ⟨σ3, hσ3⟩ : ∃ z, z = (nO σ 6 0) := ⟨_, rfl⟩
  refine Aw.toS (σ' := σ3) hσ3 ?_
  have h := h σ3 hσ3
  refine Aw.dup rfl d_Pat_fill_93 ?_
  refine Aw.iload rfl d_Pat_fill_94 ?_
  refine Aw.iload rfl d_Pat_fill_96 ?_
  refine Aw.aload_n rfl d_Pat_fill_98 ?_
  refine Aw.iload rfl d_Pat_fill_99 ?_
  refine Aw.iload rfl d_Pat_fill_101 ?_
  refine Aw.isub d_Pat_fill_103 ?_
  refine Aw.iload rfl d_Pat_fill_104 ?_
  exact h
theorem b_Pat_fill_109 {Ω : Om} {R : Room} {F : QF} {k n : Nat} {σ : Sto} {a0 : Nat} {a1 : Nat} {a2 : Nat} {a3 : Nat} {v4 : Int} {v5 : Int} {v6 : Int} {v7 : Int} {v8 : Int} {v9 : Int} {v10 : Int} {s0 : Nat} {s1 : Nat} {s2 : Nat} {s3 : Int} {s4 : Int} {s5 : Nat} (h : Aw Ω M_Pat_fill R F k n 114 [xr (some a0), xr (some a1), xr (some a2), xr (some a3), xi v4, xi v5, xi v6, xi v7, xi v8, xi v9, xi v10] [xi v7, xi v5, xr (some a1), xr (some s5), xi s4, xi s3, xr (some s2), xr (some s1), xr (some s0)] σ) : Aw Ω M_Pat_fill R F k n 109 [xr (some a0), xr (some a1), xr (some a2), xr (some a3), xi v4, xi v5, xi v6, xi v7, xi v8, xi v9, xi v10] [xr (some s5), xi s4, xi s3, xr (some s2), xr (some s1), xr (some s0)] σ := by
  refine Aw.aload_n rfl d_Pat_fill_109 ?_
  refine Aw.iload rfl d_Pat_fill_110 ?_
  refine Aw.iload rfl d_Pat_fill_112 ?_
  exact h
theorem b_Pat_fill_117 {Ω : Om} {R : Room} {F : QF} {k n : Nat} {σ : Sto} {a0 : Nat} {a1 : Nat} {a2 : Nat} {a3 : Nat} {v4 : Int} {v5 : Int} {v6 : Int} {v7 : Int} {v8 : Int} {v9 : Int} {v10 : Int} {s0 : Nat} {s1 : Nat} {s2 : Nat} {s3 : Int} {s4 : Int} {s5 : Nat} {s6 : Nat} (h : Aw Ω M_Pat_fill R F k n 122 [xr (some a0), xr (some a1), xr (some a2), xr (some a3), xi v4, xi v5, xi v6, xi v7, xi v8, xi v9, xi v10] [xi v8, xi v6, xr (some a2), xr (some s6), xr (some s5), xi s4, xi s3, xr (some s2), xr (some s1), xr (some s0)] σ) : Aw Ω M_Pat_fill R F k n 117 [xr (some a0), xr (some a1), xr (some a2), xr (some a3), xi v4, xi v5, xi v6, xi v7, xi v8, xi v9, xi v10] [xr (some s6), xr (some s5), xi s4, xi s3, xr (some s2), xr (some s1), xr (some s0)] σ := by
  refine Aw.aload_n rfl d_Pat_fill_117 ?_
  refine Aw.iload rfl d_Pat_fill_118 ?_
  refine Aw.iload rfl d_Pat_fill_120 ?_
  exact h
theorem b_Pat_fill_125 {Ω : Om} {R : Room} {F : QF} {k n : Nat} {σ : Sto} {a0 : Nat} {a1 : Nat} {a2 : Nat} {a3 : Nat} {v4 : Int} {v5 : Int} {v6 : Int} {v7 : Int} {v8 : Int} {v9 : Int} {v10 : Int} {s0 : Nat} {s1 : Nat} {s2 : Nat} {s3 : Int} {s4 : Int} {s5 : Nat} {s6 : Nat} {s7 : Nat} (h : Aw Ω M_Pat_fill R F k n 133 [xr (some a0), xr (some a1), xr (some a2), xr (some a3), xi v4, xi v5, xi v6, xi v7, xi v8, xi v9, xi v10] [xi (v7 + v10), xi v7, xr (some a1), xr (some s7), xr (some s6), xr (some s5), xi s4, xi s3, xr (some s2), xr (some s1), xr (some s0)] σ) : Aw Ω M_Pat_fill R F k n 125 [xr (some a0), xr (some a1), xr (some a2), xr (some a3), xi v4, xi v5, xi v6, xi v7, xi v8, xi v9, xi v10] [xr (some s7), xr (some s6), xr (some s5), xi s4, xi s3, xr (some s2), xr (some s1), xr (some s0)] σ := by
  refine Aw.aload_n rfl d_Pat_fill_125 ?_
  refine Aw.iload rfl d_Pat_fill_126 ?_
  refine Aw.iload rfl d_Pat_fill_128 ?_
  refine Aw.iload rfl d_Pat_fill_130 ?_
  refine Aw.iadd d_Pat_fill_132 ?_
  exact h
theorem b_Pat_fill_142 {Ω : Om} {R : Room} {F : QF} {k n : Nat} {σ : Sto} {a0 : Nat} {a1 : Nat} {a2 : Nat} {a3 : Nat} {v4 : Int} {v5 : Int} {v6 : Int} {v7 : Int} {v8 : Int} (h : Aw Ω M_Pat_fill R F k n 9 [xr (some a0), xr (some a1), xr (some a2), xr (some a3), xi v4, xi (v7 + 1), xi (v8 + 1), xi (v7 + 1), xu, xu, xu] [] σ) : Aw Ω M_Pat_fill R F k n 142 [xr (some a0), xr (some a1), xr (some a2), xr (some a3), xi v4, xi v5, xi v6, xi v7, xi v8, xu, xu] [] σ := by
  refine Aw.iload rfl d_Pat_fill_142 ?_
  refine Aw.iconst d_Pat_fill_144 ?_
  refine Aw.iadd d_Pat_fill_145 ?_
  refine Aw.istore (by decide) d_Pat_fill_146 ?_
  refine Aw.toL (L' := [xr (some a0), xr (some a1), xr (some a2), xr (some a3), xi v4, xi (v7 + 1), xi v6, xi v7, xi v8, xu, xu]) rfl ?_
  refine Aw.iload rfl d_Pat_fill_148 ?_
  refine Aw.iconst d_Pat_fill_150 ?_
  refine Aw.iadd d_Pat_fill_151 ?_
  refine Aw.istore (by decide) d_Pat_fill_152 ?_
  refine Aw.toL (L' := [xr (some a0), xr (some a1), xr (some a2), xr (some a3), xi v4, xi (v7 + 1), xi (v8 + 1), xi v7, xi v8, xu, xu]) rfl ?_
  refine Aw.iinc rfl d_Pat_fill_154 ?_
  refine Aw.toL (L' := [xr (some a0), xr (some a1), xr (some a2), xr (some a3), xi v4, xi (v7 + 1), xi (v8 + 1), xi (v7 + 1), xi v8, xu, xu]) rfl ?_
  refine Aw.goto (tgt := 9) (by decide) d_Pat_fill_157 ?_
  exact Aw.toW (L' := [xr (some a0), xr (some a1), xr (some a2), xr (some a3), xi v4, xi (v7 + 1), xi (v8 + 1), xi (v7 + 1), xu, xu, xu]) ⟨Or.inr rfl, Or.inr rfl, Or.inr rfl, Or.inr rfl, Or.inr rfl, Or.inr rfl, Or.inr rfl, Or.inr rfl, Or.inl rfl, Or.inr rfl, Or.inr rfl, trivial⟩ h
theorem b_Pat_fill_40 {Ω : Om} {R : Room} {F : QF} {k n : Nat} {σ : Sto} {a0 : Nat} {a1 : Nat} {a2 : Nat} {a3 : Nat} {v4 : Int} {v5 : Int} {v6 : Int} {v7 : Int} {s0 : Int} (h : Q32 s0 ∧ ((¬ s0 = (-1 : Int) → Q32 v7 ∧ Q32 v5 ∧ ((v5 < v7 → Aw Ω M_Pat_fill R F k n 72 [xr (some a0), xr (some a1), xr (some a2), xr (some a3), xi v4, xi v5, xi v6, xi v7, xi s0, xu, xu] [xi v4, xi v6, xi v5, xr (some a3)] σ) ∧ (¬ v5 < v7 → Q32 v6 ∧ ((s0 ≤ v6 → Aw Ω M_Pat_fill R F k n 9 [xr (some a0), xr (some a1), xr (some a2), xr (some a3), xi v4, xi (v7 + 1), xi (s0 + 1), xi (v7 + 1), xu, xu, xu] [] σ) ∧ (¬ s0 ≤ v6 → Aw Ω M_Pat_fill R F k n 72 [xr (some a0), xr (some a1), xr (some a2), xr (some a3), xi v4, xi v5, xi v6, xi v7, xi s0, xu, xu] [xi v4, xi v6, xi v5, xr (some a3)] σ))))) ∧ (s0 = (-1 : Int) → Aw Ω M_Pat_fill R F k n 9 [xr (some a0), xr (some a1), xr (some a2), xr (some a3), xi v4, xi v5, xi v6, xi (v7 + 1), xu, xu, xu] [] σ))) : Aw Ω M_Pat_fill R F k n 40 [xr (some a0), xr (some a1), xr (some a2), xr (some a3), xi v4, xi v5, xi v6, xi v7, xu, xu, xu] [xi s0] σ := by
  refine Aw.istore (by decide) d_Pat_fill_40 ?_
  refine Aw.toL (L' := [xr (some a0), xr (some a1), xr (some a2), xr (some a3), xi v4, xi v5, xi v6, xi v7, xi s0, xu, xu]) rfl ?_
  refine Aw.iload rfl d_Pat_fill_42 ?_
  refine Aw.iconst d_Pat_fill_44 ?_
  obtain ⟨o1, h⟩ := h
  obtain ⟨ht, hf⟩ := h
  refine Aw.icmp_ne (tgt := 51) o1 ⟨by decide, by decide⟩ (by decide) d_Pat_fill_45 (fun c7 => ?_) (fun c7 => ?_)
  · have h := ht c7
    refine Aw.iload rfl d_Pat_fill_51 ?_
    refine Aw.iload rfl d_Pat_fill_53 ?_
    obtain ⟨o2, h⟩ := h
    obtain ⟨o3, h⟩ := h
    obtain ⟨ht, hf⟩ := h
    refine Aw.icmp_gt (tgt := 65) o2 o3 (by decide) d_Pat_fill_55 (fun c6 => ?_) (fun c6 => ?_)
    · have h := ht c6
      refine Aw.aload_n rfl d_Pat_fill_65 ?_
      refine Aw.iload rfl d_Pat_fill_66 ?_
      refine Aw.iload rfl d_Pat_fill_68 ?_
      refine Aw.iload rfl d_Pat_fill_70 ?_
      exact h
    · have h := hf c6
      refine Aw.iload rfl d_Pat_fill_58 ?_
      refine Aw.iload rfl d_Pat_fill_60 ?_
      obtain ⟨o4, h⟩ := h
      obtain ⟨ht, hf⟩ := h
      refine Aw.icmp_le (tgt := 142) o1 o4 (by decide) d_Pat_fill_62 (fun c5 => ?_) (fun c5 => ?_)
      · have h := ht c5
        refine Aw.iload rfl d_Pat_fill_142 ?_
        refine Aw.iconst d_Pat_fill_144 ?_
        refine Aw.iadd d_Pat_fill_145 ?_
        refine Aw.istore (by decide) d_Pat_fill_146 ?_
        refine Aw.toL (L' := [xr (some a0), xr (some a1), xr (some a2), xr (some a3), xi v4, xi (v7 + 1), xi v6, xi v7, xi s0, xu, xu]) rfl ?_
        refine Aw.iload rfl d_Pat_fill_148 ?_
        refine Aw.iconst d_Pat_fill_150 ?_
        refine Aw.iadd d_Pat_fill_151 ?_
        refine Aw.istore (by decide) d_Pat_fill_152 ?_
        refine Aw.toL (L' := [xr (some a0), xr (some a1), xr (some a2), xr (some a3), xi v4, xi (v7 + 1), xi (s0 + 1), xi v7, xi s0, xu, xu]) rfl ?_
        refine Aw.iinc rfl d_Pat_fill_154 ?_
        refine Aw.toL (L' := [xr (some a0), xr (some a1), xr (some a2), xr (some a3), xi v4, xi (v7 + 1), xi (s0 + 1), xi (v7 + 1), xi s0, xu, xu]) rfl ?_
        refine Aw.goto (tgt := 9) (by decide) d_Pat_fill_157 ?_
        exact Aw.toW (L' := [xr (some a0), xr (some a1), xr (some a2), xr (some a3), xi v4, xi (v7 + 1), xi (s0 + 1), xi (v7 + 1), xu, xu, xu]) ⟨Or.inr rfl, Or.inr rfl, Or.inr rfl, Or.inr rfl, Or.inr rfl, Or.inr rfl, Or.inr rfl, Or.inr rfl, Or.inl rfl, Or.inr rfl, Or.inr rfl, trivial⟩ h
      · have h := hf c5
        refine Aw.aload_n rfl d_Pat_fill_65 ?_
        refine Aw.iload rfl d_Pat_fill_66 ?_
        refine Aw.iload rfl d_Pat_fill_68 ?_
        refine Aw.iload rfl d_Pat_fill_70 ?_
        exact h
  · have h := hf c7
    refine Aw.goto (tgt := 154) (by decide) d_Pat_fill_48 ?_
    refine Aw.iinc rfl d_Pat_fill_154 ?_
    refine Aw.toL (L' := [xr (some a0), xr (some a1), xr (some a2), xr (some a3), xi v4, xi v5, xi v6, xi (v7 + 1), xi s0, xu, xu]) rfl ?_
    refine Aw.goto (tgt := 9) (by decide) d_Pat_fill_157 ?_
    exact Aw.toW (L' := [xr (some a0), xr (some a1), xr (some a2), xr (some a3), xi v4, xi v5, xi v6, xi (v7 + 1), xu, xu, xu]) ⟨Or.inr rfl, Or.inr rfl, Or.inr rfl, Or.inr rfl, Or.inr rfl, Or.inr rfl, Or.inr rfl, Or.inr rfl, Or.inl rfl, Or.inr rfl, Or.inr rfl, trivial⟩ h
theorem c_Pat_fill_12 {Ω : Om} {R R' : Room} {F : QF} {k n : Nat} {L st : List PV} {σ : Sto} {QX' : String → Sto → Prop} {Q : Int → Sto → Prop} {a : Nat} (hc : MC Ω M_Txt_size R' (RI Q) QX' σ [xr (some a)]) (hk : sK σ a = 10) (hr1 : R'.frames + 1 ≤ R.frames) (hr2 : 8 + (1 + 11) + R'.locals ≤ R.locals) (hb1 : k + R'.cells ≤ R.cells) (hb2 : n + R'.slots ≤ R.slots) (hst : (st.map catP).sum ≤ 8) (kk : ∀ x σ', Q x σ' → Aw Ω M_Pat_fill R F (k + R'.cells) (n + R'.slots) 15 L (xi x :: st) σ') (kx : ∀ E σ', QX' E σ' → Ax Ω M_Pat_fill R F (k + R'.cells) (n + R'.slots) 12 L st σ' E) : Aw Ω M_Pat_fill R F k n 12 L (xr (some a) :: st) σ :=
  Aw.callV (As := []) (stk := xr (some a) :: st) (nn := 0) 9 M_Txt_size hc ok_Txt_size rfl (by decide) rfl hk ml_Pat_21 im_Txt_size se_Txt_size ⟨hr1, hr2⟩ rfl ⟨hb1, hb2⟩ hst rfl d_Pat_fill_12 (fun r σ' h => by obtain ⟨x, rfl, h⟩ := h; exact kk x σ' h) kx
theorem c_Pat_fill_21 {Ω : Om} {R R' : Room} {F : QF} {k n : Nat} {L st : List PV} {σ : Sto} {QX' : String → Sto → Prop} {Q : Int → Sto → Prop} {a : Nat} (hc : MC Ω M_Txt_size R' (RI Q) QX' σ [xr (some a)]) (hk : sK σ a = 10) (hr1 : R'.frames + 1 ≤ R.frames) (hr2 : 8 + (1 + 11) + R'.locals ≤ R.locals) (hb1 : k + R'.cells ≤ R.cells) (hb2 : n + R'.slots ≤ R.slots) (hst : (st.map catP).sum ≤ 8) (kk : ∀ x σ', Q x σ' → Aw Ω M_Pat_fill R F (k + R'.cells) (n + R'.slots) 24 L (xi x :: st) σ') (kx : ∀ E σ', QX' E σ' → Ax Ω M_Pat_fill R F (k + R'.cells) (n + R'.slots) 21 L st σ' E) : Aw Ω M_Pat_fill R F k n 21 L (xr (some a) :: st) σ :=
  Aw.callV (As := []) (stk := xr (some a) :: st) (nn := 0) 9 M_Txt_size hc ok_Txt_size rfl (by decide) rfl hk ml_Pat_21 im_Txt_size se_Txt_size ⟨hr1, hr2⟩ rfl ⟨hb1, hb2⟩ hst rfl d_Pat_fill_21 (fun r σ' h => by obtain ⟨x, rfl, h⟩ := h; exact kk x σ' h) kx
theorem c_Pat_fill_30 {Ω : Om} {R R' : Room} {F : QF} {k n : Nat} {L st : List PV} {σ : Sto} {QX' : String → Sto → Prop} {Q : Int → Sto → Prop} {a : Nat} {x0 : Int} (hc : MC Ω M_Cmp_pairAt R' (RI Q) QX' σ [xr (some a), xi x0]) (hk : sK σ a = 2) (hr1 : R'.frames + 1 ≤ R.frames) (hr2 : 8 + (2 + 11) + R'.locals ≤ R.locals) (hb1 : k + R'.cells ≤ R.cells) (hb2 : n + R'.slots ≤ R.slots) (hst : (st.map catP).sum ≤ 8) (kk : ∀ x σ', Q x σ' → Aw Ω M_Pat_fill R F (k + R'.cells) (n + R'.slots) 33 L (xi x :: st) σ') (kx : ∀ E σ', QX' E σ' → Ax Ω M_Pat_fill R F (k + R'.cells) (n + R'.slots) 30 L st σ' E) : Aw Ω M_Pat_fill R F k n 30 L (xi x0 :: xr (some a) :: st) σ :=
  Aw.callV (As := [xi x0]) (stk := xi x0 :: xr (some a) :: st) (nn := 1) 1 M_Cmp_pairAt hc ok_Cmp_pairAt rfl (by decide) rfl hk ml_Pat_27 im_Cmp_pairAt se_Cmp_pairAt ⟨hr1, hr2⟩ rfl ⟨hb1, hb2⟩ hst rfl d_Pat_fill_30 (fun r σ' h => by obtain ⟨x, rfl, h⟩ := h; exact kk x σ' h) kx
theorem c_Pat_fill_37 {Ω : Om} {R R' : Room} {F : QF} {k n : Nat} {L st : List PV} {σ : Sto} {QX' : String → Sto → Prop} {Q : Int → Sto → Prop} {a : Nat} (hc : MC Ω M_Txt_size R' (RI Q) QX' σ [xr (some a)]) (hk : sK σ a = 10) (hr1 : R'.frames + 1 ≤ R.frames) (hr2 : 8 + (1 + 11) + R'.locals ≤ R.locals) (hb1 : k + R'.cells ≤ R.cells) (hb2 : n + R'.slots ≤ R.slots) (hst : (st.map catP).sum ≤ 8) (kk : ∀ x σ', Q x σ' → Aw Ω M_Pat_fill R F (k + R'.cells) (n + R'.slots) 40 L (xi x :: st) σ') (kx : ∀ E σ', QX' E σ' → Ax Ω M_Pat_fill R F (k + R'.cells) (n + R'.slots) 37 L st σ' E) : Aw Ω M_Pat_fill R F k n 37 L (xr (some a) :: st) σ :=
  Aw.callV (As := []) (stk := xr (some a) :: st) (nn := 0) 9 M_Txt_size hc ok_Txt_size rfl (by decide) rfl hk ml_Pat_21 im_Txt_size se_Txt_size ⟨hr1, hr2⟩ rfl ⟨hb1, hb2⟩ hst rfl d_Pat_fill_37 (fun r σ' h => by obtain ⟨x, rfl, h⟩ := h; exact kk x σ' h) kx
theorem c_Pat_fill_72 {Ω : Om} {R R' : Room} {F : QF} {k n : Nat} {L st : List PV} {σ : Sto} {QX' : String → Sto → Prop} {Q : Int → Sto → Prop} {x0 : Option Nat} {x1 : Int} {x2 : Int} {x3 : Int} (hc : MC Ω M_Pat_contextAhead R' (RI Q) QX' σ [xr x0, xi x1, xi x2, xi x3]) (hr1 : R'.frames + 1 ≤ R.frames) (hr2 : 8 + (5 + 11) + R'.locals ≤ R.locals) (hb1 : k + R'.cells ≤ R.cells) (hb2 : n + R'.slots ≤ R.slots) (hst : (st.map catP).sum ≤ 8) (kk : ∀ x σ', Q x σ' → Aw Ω M_Pat_fill R F (k + R'.cells) (n + R'.slots) 75 L (xi x :: st) σ') (kx : ∀ E σ', QX' E σ' → Ax Ω M_Pat_fill R F (k + R'.cells) (n + R'.slots) 72 L st σ' E) : Aw Ω M_Pat_fill R F k n 72 L (xi x3 :: xi x2 :: xi x1 :: xr x0 :: st) σ :=
  Aw.callS (As := [xr x0, xi x1, xi x2, xi x3]) (stk := xi x3 :: xi x2 :: xi x1 :: xr x0 :: st) (nn := 4) M_Pat_contextAhead hc ok_Pat_contextAhead rfl ml_Pat_33 sta_Pat_contextAhead ⟨hr1, hr2⟩ rfl ⟨hb1, hb2⟩ hst rfl d_Pat_fill_72 (fun r σ' h => by obtain ⟨x, rfl, h⟩ := h; exact kk x σ' h) kx
theorem c_Pat_fill_84 {Ω : Om} {R R' : Room} {F : QF} {k n : Nat} {L st : List PV} {σ : Sto} {QX' : String → Sto → Prop} {Q : Int → Sto → Prop} {x0 : Option Nat} {x1 : Int} {x2 : Int} {x3 : Int} (hc : MC Ω M_Pat_contextBehind R' (RI Q) QX' σ [xr x0, xi x1, xi x2, xi x3]) (hr1 : R'.frames + 1 ≤ R.frames) (hr2 : 8 + (5 + 11) + R'.locals ≤ R.locals) (hb1 : k + R'.cells ≤ R.cells) (hb2 : n + R'.slots ≤ R.slots) (hst : (st.map catP).sum ≤ 8) (kk : ∀ x σ', Q x σ' → Aw Ω M_Pat_fill R F (k + R'.cells) (n + R'.slots) 87 L (xi x :: st) σ') (kx : ∀ E σ', QX' E σ' → Ax Ω M_Pat_fill R F (k + R'.cells) (n + R'.slots) 84 L st σ' E) : Aw Ω M_Pat_fill R F k n 84 L (xi x3 :: xi x2 :: xi x1 :: xr x0 :: st) σ :=
  Aw.callS (As := [xr x0, xi x1, xi x2, xi x3]) (stk := xi x3 :: xi x2 :: xi x1 :: xr x0 :: st) (nn := 4) M_Pat_contextBehind hc ok_Pat_contextBehind rfl ml_Pat_37 sta_Pat_contextBehind ⟨hr1, hr2⟩ rfl ⟨hb1, hb2⟩ hst rfl d_Pat_fill_84 (fun r σ' h => by obtain ⟨x, rfl, h⟩ := h; exact kk x σ' h) kx
theorem c_Pat_fill_106 {Ω : Om} {R R' : Room} {F : QF} {k n : Nat} {L st : List PV} {σ : Sto} {QX' : String → Sto → Prop} {Q : Option Nat → Sto → Prop} {a : Nat} {x0 : Int} {x1 : Int} (hc : MC Ω M_Txt_signsOf R' (RR Q) QX' σ [xr (some a), xi x0, xi x1]) (hk : sK σ a = 10) (hr1 : R'.frames + 1 ≤ R.frames) (hr2 : 8 + (5 + 11) + R'.locals ≤ R.locals) (hb1 : k + R'.cells ≤ R.cells) (hb2 : n + R'.slots ≤ R.slots) (hst : (st.map catP).sum ≤ 8) (kk : ∀ x σ', Q x σ' → Aw Ω M_Pat_fill R F (k + R'.cells) (n + R'.slots) 109 L (xr x :: st) σ') (kx : ∀ E σ', QX' E σ' → Ax Ω M_Pat_fill R F (k + R'.cells) (n + R'.slots) 106 L st σ' E) : Aw Ω M_Pat_fill R F k n 106 L (xi x1 :: xi x0 :: xr (some a) :: st) σ :=
  Aw.callV (As := [xi x0, xi x1]) (stk := xi x1 :: xi x0 :: xr (some a) :: st) (nn := 2) 9 M_Txt_signsOf hc ok_Txt_signsOf rfl (by decide) rfl hk ml_Pat_40 im_Txt_signsOf se_Txt_signsOf ⟨hr1, hr2⟩ rfl ⟨hb1, hb2⟩ hst rfl d_Pat_fill_106 (fun r σ' h => by obtain ⟨x, rfl, h⟩ := h; exact kk x σ' h) kx
theorem c_Pat_fill_114 {Ω : Om} {R R' : Room} {F : QF} {k n : Nat} {L st : List PV} {σ : Sto} {QX' : String → Sto → Prop} {Q : Option Nat → Sto → Prop} {a : Nat} {x0 : Int} {x1 : Int} (hc : MC Ω M_Txt_signsOf R' (RR Q) QX' σ [xr (some a), xi x0, xi x1]) (hk : sK σ a = 10) (hr1 : R'.frames + 1 ≤ R.frames) (hr2 : 8 + (5 + 11) + R'.locals ≤ R.locals) (hb1 : k + R'.cells ≤ R.cells) (hb2 : n + R'.slots ≤ R.slots) (hst : (st.map catP).sum ≤ 8) (kk : ∀ x σ', Q x σ' → Aw Ω M_Pat_fill R F (k + R'.cells) (n + R'.slots) 117 L (xr x :: st) σ') (kx : ∀ E σ', QX' E σ' → Ax Ω M_Pat_fill R F (k + R'.cells) (n + R'.slots) 114 L st σ' E) : Aw Ω M_Pat_fill R F k n 114 L (xi x1 :: xi x0 :: xr (some a) :: st) σ :=
  Aw.callV (As := [xi x0, xi x1]) (stk := xi x1 :: xi x0 :: xr (some a) :: st) (nn := 2) 9 M_Txt_signsOf hc ok_Txt_signsOf rfl (by decide) rfl hk ml_Pat_40 im_Txt_signsOf se_Txt_signsOf ⟨hr1, hr2⟩ rfl ⟨hb1, hb2⟩ hst rfl d_Pat_fill_114 (fun r σ' h => by obtain ⟨x, rfl, h⟩ := h; exact kk x σ' h) kx
theorem c_Pat_fill_122 {Ω : Om} {R R' : Room} {F : QF} {k n : Nat} {L st : List PV} {σ : Sto} {QX' : String → Sto → Prop} {Q : Option Nat → Sto → Prop} {a : Nat} {x0 : Int} {x1 : Int} (hc : MC Ω M_Txt_signsOf R' (RR Q) QX' σ [xr (some a), xi x0, xi x1]) (hk : sK σ a = 10) (hr1 : R'.frames + 1 ≤ R.frames) (hr2 : 8 + (5 + 11) + R'.locals ≤ R.locals) (hb1 : k + R'.cells ≤ R.cells) (hb2 : n + R'.slots ≤ R.slots) (hst : (st.map catP).sum ≤ 8) (kk : ∀ x σ', Q x σ' → Aw Ω M_Pat_fill R F (k + R'.cells) (n + R'.slots) 125 L (xr x :: st) σ') (kx : ∀ E σ', QX' E σ' → Ax Ω M_Pat_fill R F (k + R'.cells) (n + R'.slots) 122 L st σ' E) : Aw Ω M_Pat_fill R F k n 122 L (xi x1 :: xi x0 :: xr (some a) :: st) σ :=
  Aw.callV (As := [xi x0, xi x1]) (stk := xi x1 :: xi x0 :: xr (some a) :: st) (nn := 2) 9 M_Txt_signsOf hc ok_Txt_signsOf rfl (by decide) rfl hk ml_Pat_40 im_Txt_signsOf se_Txt_signsOf ⟨hr1, hr2⟩ rfl ⟨hb1, hb2⟩ hst rfl d_Pat_fill_122 (fun r σ' h => by obtain ⟨x, rfl, h⟩ := h; exact kk x σ' h) kx
theorem c_Pat_fill_133 {Ω : Om} {R R' : Room} {F : QF} {k n : Nat} {L st : List PV} {σ : Sto} {QX' : String → Sto → Prop} {Q : Option Nat → Sto → Prop} {a : Nat} {x0 : Int} {x1 : Int} (hc : MC Ω M_Txt_signsOf R' (RR Q) QX' σ [xr (some a), xi x0, xi x1]) (hk : sK σ a = 10) (hr1 : R'.frames + 1 ≤ R.frames) (hr2 : 8 + (5 + 11) + R'.locals ≤ R.locals) (hb1 : k + R'.cells ≤ R.cells) (hb2 : n + R'.slots ≤ R.slots) (hst : (st.map catP).sum ≤ 8) (kk : ∀ x σ', Q x σ' → Aw Ω M_Pat_fill R F (k + R'.cells) (n + R'.slots) 136 L (xr x :: st) σ') (kx : ∀ E σ', QX' E σ' → Ax Ω M_Pat_fill R F (k + R'.cells) (n + R'.slots) 133 L st σ' E) : Aw Ω M_Pat_fill R F k n 133 L (xi x1 :: xi x0 :: xr (some a) :: st) σ :=
  Aw.callV (As := [xi x0, xi x1]) (stk := xi x1 :: xi x0 :: xr (some a) :: st) (nn := 2) 9 M_Txt_signsOf hc ok_Txt_signsOf rfl (by decide) rfl hk ml_Pat_40 im_Txt_signsOf se_Txt_signsOf ⟨hr1, hr2⟩ rfl ⟨hb1, hb2⟩ hst rfl d_Pat_fill_133 (fun r σ' h => by obtain ⟨x, rfl, h⟩ := h; exact kk x σ' h) kx
theorem c_Pat_fill_136 {Ω : Om} {R R' : Room} {F : QF} {k n : Nat} {L st : List PV} {σ : Sto} {QX' : String → Sto → Prop} {Q : Sto → Prop} {a : Nat} {x0 : Int} {x1 : Int} {x2 : Option Nat} {x3 : Option Nat} {x4 : Option Nat} {x5 : Option Nat} (hc : MC Ω M_Hnk_init R' (RV Q) QX' σ [xr (some a), xi x0, xi x1, xr x2, xr x3, xr x4, xr x5]) (hr1 : R'.frames + 1 ≤ R.frames) (hr2 : 8 + (7 + 11) + R'.locals ≤ R.locals) (hb1 : k + R'.cells ≤ R.cells) (hb2 : n + R'.slots ≤ R.slots) (hst : (st.map catP).sum ≤ 8) (kk : ∀ σ', Q σ' → Aw Ω M_Pat_fill R F (k + R'.cells) (n + R'.slots) 139 L st σ') (kx : ∀ E σ', QX' E σ' → Ax Ω M_Pat_fill R F (k + R'.cells) (n + R'.slots) 136 L st σ' E) : Aw Ω M_Pat_fill R F k n 136 L (xr x5 :: xr x4 :: xr x3 :: xr x2 :: xi x1 :: xi x0 :: xr (some a) :: st) σ :=
  Aw.callI (As := [xi x0, xi x1, xr x2, xr x3, xr x4, xr x5]) (stk := xr x5 :: xr x4 :: xr x3 :: xr x2 :: xi x1 :: xi x0 :: xr (some a) :: st) (nn := 6) M_Hnk_init hc ok_Hnk_init rfl rfl rfl im_Hnk_init (Or.inl ml_Pat_44) ⟨hr1, hr2⟩ rfl ⟨hb1, hb2⟩ hst rfl d_Pat_fill_136 (fun r σ' h => by obtain ⟨rfl, h⟩ := h; exact kk σ' h) kx
theorem c_Pat_fill_139 {Ω : Om} {R R' : Room} {F : QF} {k n : Nat} {L st : List PV} {σ : Sto} {QX' : String → Sto → Prop} {Q : Sto → Prop} {a : Nat} {x0 : Option Nat} (hc : MC Ω M_Pat_add R' (RV Q) QX' σ [xr (some a), xr x0]) (hk : sK σ a = 8) (hr1 : R'.frames + 1 ≤ R.frames) (hr2 : 8 + (2 + 11) + R'.locals ≤ R.locals) (hb1 : k + R'.cells ≤ R.cells) (hb2 : n + R'.slots ≤ R.slots) (hst : (st.map catP).sum ≤ 8) (kk : ∀ σ', Q σ' → Aw Ω M_Pat_fill R F (k + R'.cells) (n + R'.slots) 142 L st σ') (kx : ∀ E σ', QX' E σ' → Ax Ω M_Pat_fill R F (k + R'.cells) (n + R'.slots) 139 L st σ' E) : Aw Ω M_Pat_fill R F k n 139 L (xr x0 :: xr (some a) :: st) σ :=
  Aw.callV (As := [xr x0]) (stk := xr x0 :: xr (some a) :: st) (nn := 1) 7 M_Pat_add hc ok_Pat_add rfl (by decide) rfl hk ml_Pat_47 im_Pat_add se_Pat_add ⟨hr1, hr2⟩ rfl ⟨hb1, hb2⟩ hst rfl d_Pat_fill_139 (fun r σ' h => by obtain ⟨rfl, h⟩ := h; exact kk σ' h) kx
theorem r_Pat_fill_160 {Ω : Om} {R : Room} {k n : Nat} {L : List PV} {σ : Sto} {QR : Option PV → Sto → Prop} {QX : String → Sto → Prop} (h : QR none σ) (h1 : k ≤ R.cells) (h2 : n ≤ R.slots) : Aw Ω M_Pat_fill R (MF Ω R QR QX) k n 160 L [] σ := Aw.vret rfl h h1 h2 d_Pat_fill_160
theorem e_Pat_fillTurned {Ω : Om} {R : Room} {QR : Option PV → Sto → Prop} {QX : String → Sto → Prop} {σ : Sto} {a0 : Nat} {a1 : Nat} (h : Aw Ω M_Pat_fillTurned R (MF Ω R QR QX) 0 0 0 [xr (some a0), xr (some a1), xu, xu] [] σ) : MC Ω M_Pat_fillTurned R QR QX σ [xr (some a0), xr (some a1)] := MC.body (by decide +kernel) rfl (Nat.le_of_ble_eq_true rfl) rfl h
theorem b_Pat_fillTurned_0 {Ω : Om} {R : Room} {F : QF} {k n : Nat} {σ : Sto} {a0 : Nat} {a1 : Nat} (h : Aw Ω M_Pat_fillTurned R F k n 2 [xr (some a0), xr (some a1), xi 0, xu] [] σ) : Aw Ω M_Pat_fillTurned R F k n 0 [xr (some a0), xr (some a1), xu, xu] [] σ := by
  refine Aw.iconst d_Pat_fillTurned_0 ?_
  refine Aw.istore_n (by decide) d_Pat_fillTurned_1 ?_
  refine Aw.toL (L' := [xr (some a0), xr (some a1), xi 0, xu]) rfl ?_
  exact h
theorem b_Pat_fillTurned_2 {Ω : Om} {R : Room} {F : QF} {k n : Nat} {σ : Sto} {a0 : Nat} {a1 : Nat} {v2 : Int} (h : Q32 v2 ∧ (((21 : Int) ≤ v2 → Aw Ω M_Pat_fillTurned R F k n 32 [xr (some a0), xr (some a1), xi v2, xu] [] σ) ∧ (¬ (21 : Int) ≤ v2 → Aw Ω M_Pat_fillTurned R F k n 10 [xr (some a0), xr (some a1), xi v2, xu] [xi v2, xr (some a1)] σ))) : Aw Ω M_Pat_fillTurned R F k n 2 [xr (some a0), xr (some a1), xi v2, xu] [] σ := by
  refine Aw.iload_n rfl d_Pat_fillTurned_2 ?_
  refine Aw.bipush (by decide) d_Pat_fillTurned_3 ?_
  obtain ⟨o1, h⟩ := h
  obtain ⟨ht, hf⟩ := h
  refine Aw.icmp_ge (tgt := 32) o1 ⟨by decide, by decide⟩ (by decide) d_Pat_fillTurned_5 (fun c2 => ?_) (fun c2 => ?_)
  · have h := ht c2
    exact h
  · have h := hf c2
    refine Aw.aload_n rfl d_Pat_fillTurned_8 ?_
    refine Aw.iload_n rfl d_Pat_fillTurned_9 ?_
    exact h
theorem b_Pat_fillTurned_13 {Ω : Om} {R : Room} {F : QF} {k n : Nat} {σ : Sto} {a0 : Nat} {a1 : Nat} {v2 : Int} {s0 : Option Nat} (h : ((s0 = none → Aw Ω M_Pat_fillTurned R F k n 2 [xr (some a0), xr (some a1), xi (v2 + 1), xu] [] σ) ∧ (¬ s0 = none → Aw Ω M_Pat_fillTurned R F k n 20 [xr (some a0), xr (some a1), xi v2, xr s0] [xr s0, xr (some a0)] σ))) : Aw Ω M_Pat_fillTurned R F k n 13 [xr (some a0), xr (some a1), xi v2, xu] [xr s0] σ := by
  refine Aw.astore_n (by decide) d_Pat_fillTurned_13 ?_
  refine Aw.toL (L' := [xr (some a0), xr (some a1), xi v2, xr s0]) rfl ?_
  refine Aw.aload_n rfl d_Pat_fillTurned_14 ?_
  obtain ⟨ht, hf⟩ := h
  refine Aw.ifnull (tgt := 26) (by decide) d_Pat_fillTurned_15 (fun c1 => ?_) (fun c1 => ?_)
  · have h := ht c1
    refine Aw.iinc rfl d_Pat_fillTurned_26 ?_
    refine Aw.toL (L' := [xr (some a0), xr (some a1), xi (v2 + 1), xr s0]) rfl ?_
    refine Aw.goto (tgt := 2) (by decide) d_Pat_fillTurned_29 ?_
    exact Aw.toW (L' := [xr (some a0), xr (some a1), xi (v2 + 1), xu]) ⟨Or.inr rfl, Or.inr rfl, Or.inr rfl, Or.inl rfl, trivial⟩ h
  · have h := hf c1
    refine Aw.aload_n rfl d_Pat_fillTurned_18 ?_
    refine Aw.aload_n rfl d_Pat_fillTurned_19 ?_
    exact h
theorem b_Pat_fillTurned_26 {Ω : Om} {R : Room} {F : QF} {k n : Nat} {σ : Sto} {a0 : Nat} {a1 : Nat} {v2 : Int} {a3 : Nat} (h : Aw Ω M_Pat_fillTurned R F k n 2 [xr (some a0), xr (some a1), xi (v2 + 1), xu] [] σ) : Aw Ω M_Pat_fillTurned R F k n 26 [xr (some a0), xr (some a1), xi v2, xr (some a3)] [] σ := by
  refine Aw.iinc rfl d_Pat_fillTurned_26 ?_
  refine Aw.toL (L' := [xr (some a0), xr (some a1), xi (v2 + 1), xr (some a3)]) rfl ?_
  refine Aw.goto (tgt := 2) (by decide) d_Pat_fillTurned_29 ?_
  exact Aw.toW (L' := [xr (some a0), xr (some a1), xi (v2 + 1), xu]) ⟨Or.inr rfl, Or.inr rfl, Or.inr rfl, Or.inl rfl, trivial⟩ h
theorem c_Pat_fillTurned_10 {Ω : Om} {R R' : Room} {F : QF} {k n : Nat} {L st : List PV} {σ : Sto} {QX' : String → Sto → Prop} {Q : Option Nat → Sto → Prop} {a : Nat} {x0 : Int} (hc : MC Ω M_Pat_hunkAt R' (RR Q) QX' σ [xr (some a), xi x0]) (hk : sK σ a = 8) (hr1 : R'.frames + 1 ≤ R.frames) (hr2 : 8 + (2 + 11) + R'.locals ≤ R.locals) (hb1 : k + R'.cells ≤ R.cells) (hb2 : n + R'.slots ≤ R.slots) (hst : (st.map catP).sum ≤ 8) (kk : ∀ x σ', Q x σ' → Aw Ω M_Pat_fillTurned R F (k + R'.cells) (n + R'.slots) 13 L (xr x :: st) σ') (kx : ∀ E σ', QX' E σ' → Ax Ω M_Pat_fillTurned R F (k + R'.cells) (n + R'.slots) 10 L st σ' E) : Aw Ω M_Pat_fillTurned R F k n 10 L (xi x0 :: xr (some a) :: st) σ :=
  Aw.callV (As := [xi x0]) (stk := xi x0 :: xr (some a) :: st) (nn := 1) 7 M_Pat_hunkAt hc ok_Pat_hunkAt rfl (by decide) rfl hk ml_Pat_52 im_Pat_hunkAt se_Pat_hunkAt ⟨hr1, hr2⟩ rfl ⟨hb1, hb2⟩ hst rfl d_Pat_fillTurned_10 (fun r σ' h => by obtain ⟨x, rfl, h⟩ := h; exact kk x σ' h) kx
theorem c_Pat_fillTurned_20 {Ω : Om} {R R' : Room} {F : QF} {k n : Nat} {L st : List PV} {σ : Sto} {QX' : String → Sto → Prop} {Q : Option Nat → Sto → Prop} {a : Nat} (hc : MC Ω M_Hnk_turned R' (RR Q) QX' σ [xr (some a)]) (hk : sK σ a = 6) (hr1 : R'.frames + 1 ≤ R.frames) (hr2 : 8 + (1 + 11) + R'.locals ≤ R.locals) (hb1 : k + R'.cells ≤ R.cells) (hb2 : n + R'.slots ≤ R.slots) (hst : (st.map catP).sum ≤ 8) (kk : ∀ x σ', Q x σ' → Aw Ω M_Pat_fillTurned R F (k + R'.cells) (n + R'.slots) 23 L (xr x :: st) σ') (kx : ∀ E σ', QX' E σ' → Ax Ω M_Pat_fillTurned R F (k + R'.cells) (n + R'.slots) 20 L st σ' E) : Aw Ω M_Pat_fillTurned R F k n 20 L (xr (some a) :: st) σ :=
  Aw.callV (As := []) (stk := xr (some a) :: st) (nn := 0) 5 M_Hnk_turned hc ok_Hnk_turned rfl (by decide) rfl hk ml_Pat_56 im_Hnk_turned se_Hnk_turned ⟨hr1, hr2⟩ rfl ⟨hb1, hb2⟩ hst rfl d_Pat_fillTurned_20 (fun r σ' h => by obtain ⟨x, rfl, h⟩ := h; exact kk x σ' h) kx
theorem c_Pat_fillTurned_23 {Ω : Om} {R R' : Room} {F : QF} {k n : Nat} {L st : List PV} {σ : Sto} {QX' : String → Sto → Prop} {Q : Sto → Prop} {a : Nat} {x0 : Option Nat} (hc : MC Ω M_Pat_add R' (RV Q) QX' σ [xr (some a), xr x0]) (hk : sK σ a = 8) (hr1 : R'.frames + 1 ≤ R.frames) (hr2 : 8 + (2 + 11) + R'.locals ≤ R.locals) (hb1 : k + R'.cells ≤ R.cells) (hb2 : n + R'.slots ≤ R.slots) (hst : (st.map catP).sum ≤ 8) (kk : ∀ σ', Q σ' → Aw Ω M_Pat_fillTurned R F (k + R'.cells) (n + R'.slots) 26 L st σ') (kx : ∀ E σ', QX' E σ' → Ax Ω M_Pat_fillTurned R F (k + R'.cells) (n + R'.slots) 23 L st σ' E) : Aw Ω M_Pat_fillTurned R F k n 23 L (xr x0 :: xr (some a) :: st) σ :=
  Aw.callV (As := [xr x0]) (stk := xr x0 :: xr (some a) :: st) (nn := 1) 7 M_Pat_add hc ok_Pat_add rfl (by decide) rfl hk ml_Pat_47 im_Pat_add se_Pat_add ⟨hr1, hr2⟩ rfl ⟨hb1, hb2⟩ hst rfl d_Pat_fillTurned_23 (fun r σ' h => by obtain ⟨rfl, h⟩ := h; exact kk σ' h) kx
theorem r_Pat_fillTurned_32 {Ω : Om} {R : Room} {k n : Nat} {L : List PV} {σ : Sto} {QR : Option PV → Sto → Prop} {QX : String → Sto → Prop} (h : QR none σ) (h1 : k ≤ R.cells) (h2 : n ≤ R.slots) : Aw Ω M_Pat_fillTurned R (MF Ω R QR QX) k n 32 L [] σ := Aw.vret rfl h h1 h2 d_Pat_fillTurned_32
theorem e_Pat_hunkAt {Ω : Om} {R : Room} {QR : Option PV → Sto → Prop} {QX : String → Sto → Prop} {σ : Sto} {a0 : Nat} {v1 : Int} (h : Aw Ω M_Pat_hunkAt R (MF Ω R QR QX) 0 0 0 [xr (some a0), xi v1] [] σ) : MC Ω M_Pat_hunkAt R QR QX σ [xr (some a0), xi v1] := MC.body (by decide +kernel) rfl (Nat.le_of_ble_eq_true rfl) rfl h
theorem b_Pat_hunkAt_0 {Ω : Om} {R : Room} {F : QF} {k n : Nat} {σ : Sto} {a0 : Nat} {v1 : Int} (h : Q32 v1 ∧ ((v1 < (0 : Int) → Aw Ω M_Pat_hunkAt R F k n 22 [xr (some a0), xi v1] [xr none] σ) ∧ (¬ v1 < (0 : Int) → sK σ a0 = 8 ∧ (Q32 (fI σ 449 a0) → ((v1 < (fI σ 449 a0) → (∃ b4 : Nat, fR σ 448 a0 = some b4 ∧ sK σ b4 = 58 ∧ 0 ≤ v1 ∧ v1 < sZ σ b4 ∧ Aw Ω M_Pat_hunkAt R F k n 22 [xr (some a0), xi v1] [xr (aR σ b4 (v1).toNat)] σ)) ∧ (¬ v1 < (fI σ 449 a0) → Aw Ω M_Pat_hunkAt R F k n 22 [xr (some a0), xi v1] [xr none] σ)))))) : Aw Ω M_Pat_hunkAt R F k n 0 [xr (some a0), xi v1] [] σ := by
  refine Aw.iload_n rfl d_Pat_hunkAt_0 ?_
  obtain ⟨o1, h⟩ := h
  obtain ⟨ht, hf⟩ := h
  refine Aw.if_lt (tgt := 12) o1 (by decide) d_Pat_hunkAt_1 (fun c10 => ?_) (fun c10 => ?_)
  · have h := ht c10
    refine Aw.null d_Pat_hunkAt_12 ?_
    refine Aw.goto (tgt := 22) (by decide) d_Pat_hunkAt_13 ?_
    exact h
  · have h := hf c10
    refine Aw.iload_n rfl d_Pat_hunkAt_4 ?_
    refine Aw.aload_n rfl d_Pat_hunkAt_5 ?_
    obtain ⟨o2, h⟩ := h
    refine Aw.getI (f := 449) 7 1 fl_Pat_17 (by decide) (by decide) rfl rfl o2 d_Pat_hunkAt_6 (fun r3 => ?_)
    have h := h r3
    obtain ⟨ht, hf⟩ := h
    refine Aw.icmp_lt (tgt := 16) o1 r3 (by decide) d_Pat_hunkAt_9 (fun c9 => ?_) (fun c9 => ?_)
    · have h := ht c9
      refine Aw.aload_n rfl d_Pat_hunkAt_16 ?_
      obtain ⟨b4, e5, h⟩ := h
      refine Aw.getRs (f := 448) 7 0 fl_Pat_11 (by decide) (by decide) rfl rfl o2 e5 d_Pat_hunkAt_17 ?_
      refine Aw.iload_n rfl d_Pat_hunkAt_20 ?_
      obtain ⟨o6, h⟩ := h
      obtain ⟨o7, o8, h⟩ := h
      refine Aw.aald 8 (by decide) (by decide) o6 o7 o8 d_Pat_hunkAt_21 ?_
      exact h
    · have h := hf c9
      refine Aw.null d_Pat_hunkAt_12 ?_
      refine Aw.goto (tgt := 22) (by decide) d_Pat_hunkAt_13 ?_
      exact h
theorem r_Pat_hunkAt_22 {Ω : Om} {R : Room} {k n : Nat} {L : List PV} {σ : Sto} {QR : Option PV → Sto → Prop} {QX : String → Sto → Prop} {x : Option Nat} (h : QR (some (xr x)) σ) (h1 : k ≤ R.cells) (h2 : n ≤ R.slots) : Aw Ω M_Pat_hunkAt R (MF Ω R QR QX) k n 22 L [xr x] σ := Aw.aret rfl (by first | exact Or.inl ⟨_, rfl⟩ | exact Or.inr ⟨_, rfl⟩) h h1 h2 d_Pat_hunkAt_22
theorem e_Pat_init {Ω : Om} {R : Room} {QR : Option PV → Sto → Prop} {QX : String → Sto → Prop} {σ : Sto} {a0 : Nat} (h : Aw Ω M_Pat_init R (MF Ω R QR QX) 0 0 0 [xr (some a0)] [] σ) : MC Ω M_Pat_init R QR QX σ [xr (some a0)] := MC.body (by decide +kernel) rfl (Nat.le_of_ble_eq_true rfl) rfl h
theorem b_Pat_init_0 {Ω : Om} {R : Room} {F : QF} {k n : Nat} {σ : Sto} {a0 : Nat} (h : 1 ≤ R.frames ∧ ([].map catP).sum + 12 ≤ R.locals ∧ k + 1 ≤ R.cells ∧ n + 21 ≤ R.slots ∧ (∀ σ7 : Sto, σ7 = (nO σ 58 21) → sK σ7 a0 = 8 ∧ Aw Ω M_Pat_init R F (k + 1) (n + 21) 18 [xr (some a0)] [] (uI (uR σ7 448 a0 (some (sN σ))) 449 a0 0))) : Aw Ω M_Pat_init R F k n 0 [xr (some a0)] [] σ := by
  refine Aw.aload_n rfl d_Pat_init_0 ?_
  obtain ⟨o1, o2, h⟩ := h
  refine Aw.objInit ml_Pat_3 oi_1 oi_2 o1 o2 d_Pat_init_1 ?_
  refine Aw.aload_n rfl d_Pat_init_4 ?_
  refine Aw.bipush (by decide) d_Pat_init_5 ?_
  obtain ⟨o5, o6, h⟩ := h
  refine Aw.anew 8 (by decide) (by decide) cl_Pat_9 aov_8 (by decide) (by decide) o5 o6 d_Pat_init_7 ?_
  obtain ⟨σ7, hσ7⟩ : ∃ z, z = (nO σ 58 21) := ⟨_, rfl⟩
  refine Aw.toS (σ' := σ7) hσ7 ?_
  have h := h σ7 hσ7
  obtain ⟨o8, h⟩ := h
  refine Aw.putRF (f := 448) 7 0 fm_Pat_11 (by decide) (by decide) rfl rfl o8 rfl rfl rfl rfl d_Pat_init_10 ?_
  refine Aw.aload_n rfl d_Pat_init_13 ?_
  refine Aw.iconst d_Pat_init_14 ?_
  refine Aw.putI (f := 449) 7 1 fl_Pat_17 (by decide) (by decide) rfl rfl o8 rfl ⟨by decide, by decide⟩ (Or.inl rfl) d_Pat_init_15 ?_
  exact h
theorem r_Pat_init_18 {Ω : Om} {R : Room} {k n : Nat} {L : List PV} {σ : Sto} {QR : Option PV → Sto → Prop} {QX : String → Sto → Prop} (h : QR none σ) (h1 : k ≤ R.cells) (h2 : n ≤ R.slots) : Aw Ω M_Pat_init R (MF Ω R QR QX) k n 18 L [] σ := Aw.vret rfl h h1 h2 d_Pat_init_18
theorem e_Pat_layOn {Ω : Om} {R : Room} {QR : Option PV → Sto → Prop} {QX : String → Sto → Prop} {σ : Sto} {a0 : Nat} {a1 : Nat} {v2 : Int} (h : Aw Ω M_Pat_layOn R (MF Ω R QR QX) 0 0 0 [xr (some a0), xr (some a1), xi v2, xu, xu, xu, xu, xu, xu, xu] [] σ) : MC Ω M_Pat_layOn R QR QX σ [xr (some a0), xr (some a1), xi v2] := MC.body (by decide +kernel) rfl (Nat.le_of_ble_eq_true rfl) rfl h
theorem b_Pat_layOn_0 {Ω : Om} {R : Room} {F : QF} {k n : Nat} {σ : Sto} {a0 : Nat} {a1 : Nat} {v2 : Int} (h : Aw Ω M_Pat_layOn R F k n 11 [xr (some a0), xr (some a1), xi v2, xi 0, xi 0, xi 0, xi 0, xu, xu, xu] [] σ) : Aw Ω M_Pat_layOn R F k n 0 [xr (some a0), xr (some a1), xi v2, xu, xu, xu, xu, xu, xu, xu] [] σ := by
  refine Aw.iconst d_Pat_layOn_0 ?_
  refine Aw.istore_n (by decide) d_Pat_layOn_1 ?_
  refine Aw.toL (L' := [xr (some a0), xr (some a1), xi v2, xi 0, xu, xu, xu, xu, xu, xu]) rfl ?_
  refine Aw.iconst d_Pat_layOn_2 ?_
  refine Aw.istore (by decide) d_Pat_layOn_3 ?_
  refine Aw.toL (L' := [xr (some a0), xr (some a1), xi v2, xi 0, xi 0, xu, xu, xu, xu, xu]) rfl ?_
  refine Aw.iconst d_Pat_layOn_5 ?_
  refine Aw.istore (by decide) d_Pat_layOn_6 ?_
  refine Aw.toL (L' := [xr (some a0), xr (some a1), xi v2, xi 0, xi 0, xi 0, xu, xu, xu, xu]) rfl ?_
  refine Aw.iconst d_Pat_layOn_8 ?_
  refine Aw.istore (by decide) d_Pat_layOn_9 ?_
  refine Aw.toL (L' := [xr (some a0), xr (some a1), xi v2, xi 0, xi 0, xi 0, xi 0, xu, xu, xu]) rfl ?_
  exact h
theorem b_Pat_layOn_11 {Ω : Om} {R : Room} {F : QF} {k n : Nat} {σ : Sto} {a0 : Nat} {a1 : Nat} {v2 : Int} {v3 : Int} {v4 : Int} {v5 : Int} {v6 : Int} (h : sK σ a0 = 8 ∧ (Q32 (fI σ 449 a0) → Q32 v6 ∧ (((fI σ 449 a0) ≤ v6 → Aw Ω M_Pat_layOn R F k n 121 [xr (some a0), xr (some a1), xi v2, xi v3, xi v4, xi v5, xi v6, xu, xu, xu] [xi v3] σ) ∧ (¬ (fI σ 449 a0) ≤ v6 → Aw Ω M_Pat_layOn R F k n 23 [xr (some a0), xr (some a1), xi v2, xi v3, xi v4, xi v5, xi v6, xu, xu, xu] [xi v6, xr (some a0)] σ)))) : Aw Ω M_Pat_layOn R F k n 11 [xr (some a0), xr (some a1), xi v2, xi v3, xi v4, xi v5, xi v6, xu, xu, xu] [] σ := by
  refine Aw.iload rfl d_Pat_layOn_11 ?_
  refine Aw.aload_n rfl d_Pat_layOn_13 ?_
  obtain ⟨o1, h⟩ := h
  refine Aw.getI (f := 449) 7 1 fl_Pat_17 (by decide) (by decide) rfl rfl o1 d_Pat_layOn_14 (fun r2 => ?_)
  have h := h r2
  obtain ⟨o3, h⟩ := h
  obtain ⟨ht, hf⟩ := h
  refine Aw.icmp_ge (tgt := 120) o3 r2 (by decide) d_Pat_layOn_17 (fun c4 => ?_) (fun c4 => ?_)
  · have h := ht c4
    refine Aw.iload_n rfl d_Pat_layOn_120 ?_
    exact h
  · have h := hf c4
    refine Aw.aload_n rfl d_Pat_layOn_20 ?_
    refine Aw.iload rfl d_Pat_layOn_21 ?_
    exact h
theorem b_Pat_layOn_26 {Ω : Om} {R : Room} {F : QF} {k n : Nat} {σ : Sto} {a0 : Nat} {a1 : Nat} {v2 : Int} {v3 : Int} {v4 : Int} {v5 : Int} {v6 : Int} {s0 : Option Nat} (h : ((¬ s0 = none → ∃ b1 : Nat, s0 = some b1 ∧ sK σ b1 = 6 ∧ (Q32 (fI σ 320 b1) → Aw Ω M_Pat_layOn R F k n 54 [xr (some a0), xr (some a1), xi v2, xi v3, xi v4, xi v5, xi v6, xr s0, xi ((fI σ 320 b1) + v4), xu] [xi v2, xi v5, xi ((fI σ 320 b1) + v4), xr (some a1), xr s0] σ)) ∧ (s0 = none → Aw Ω M_Pat_layOn R F k n 11 [xr (some a0), xr (some a1), xi v2, xi v3, xi v4, xi v5, xi (v6 + 1), xu, xu, xu] [] σ))) : Aw Ω M_Pat_layOn R F k n 26 [xr (some a0), xr (some a1), xi v2, xi v3, xi v4, xi v5, xi v6, xu, xu, xu] [xr s0] σ := by
  refine Aw.astore (by decide) d_Pat_layOn_26 ?_
  refine Aw.toL (L' := [xr (some a0), xr (some a1), xi v2, xi v3, xi v4, xi v5, xi v6, xr s0, xu, xu]) rfl ?_
  refine Aw.aload rfl d_Pat_layOn_28 ?_
  obtain ⟨ht, hf⟩ := h
  refine Aw.ifnonnull (tgt := 36) (by decide) d_Pat_layOn_30 (fun c5 => ?_) (fun c5 => ?_)
  · have h := ht c5
    refine Aw.aload rfl d_Pat_layOn_36 ?_
    obtain ⟨b1, e2, h⟩ := h
    refine Aw.der0 e2 ?_
    obtain ⟨o3, h⟩ := h
    refine Aw.getI (f := 320) 5 0 fl_Pat_60 (by decide) (by decide) rfl rfl o3 d_Pat_layOn_38 (fun r4 => ?_)
    have h := h r4
    refine Aw.iload rfl d_Pat_layOn_41 ?_
    refine Aw.iadd d_Pat_layOn_43 ?_
    refine Aw.istore (by decide) d_Pat_layOn_44 ?_
    refine Aw.toL (L' := [xr (some a0), xr (some a1), xi v2, xi v3, xi v4, xi v5, xi v6, xr s0, xi ((fI σ 320 b1) + v4), xu]) rfl ?_
    refine Aw.aload rfl d_Pat_layOn_46 ?_
    refine Aw.aload_n rfl d_Pat_layOn_48 ?_
    refine Aw.iload rfl d_Pat_layOn_49 ?_
    refine Aw.iload rfl d_Pat_layOn_51 ?_
    refine Aw.iload_n rfl d_Pat_layOn_53 ?_
    exact h
  · have h := hf c5
    refine Aw.goto (tgt := 114) (by decide) d_Pat_layOn_33 ?_
    refine Aw.iinc rfl d_Pat_layOn_114 ?_
    refine Aw.toL (L' := [xr (some a0), xr (some a1), xi v2, xi v3, xi v4, xi v5, xi (v6 + 1), xr s0, xu, xu]) rfl ?_
    refine Aw.goto (tgt := 11) (by decide) d_Pat_layOn_117 ?_
    exact Aw.toW (L' := [xr (some a0), xr (some a1), xi v2, xi v3, xi v4, xi v5, xi (v6 + 1), xu, xu, xu]) ⟨Or.inr rfl, Or.inr rfl, Or.inr rfl, Or.inr rfl, Or.inr rfl, Or.inr rfl, Or.inr rfl, Or.inl rfl, Or.inr rfl, Or.inr rfl, trivial⟩ h
theorem b_Pat_layOn_57 {Ω : Om} {R : Room} {F : QF} {k n : Nat} {σ : Sto} {a0 : Nat} {a1 : Nat} {v2 : Int} {v3 : Int} {v4 : Int} {v5 : Int} {v6 : Int} {a7 : Nat} {v8 : Int} {s0 : Int} (h : Q32 s0 ∧ ((¬ s0 = (-1 : Int) → Aw Ω M_Pat_layOn R F k n 76 [xr (some a0), xr (some a1), xi v2, xi v3, xi v4, xi v5, xi v6, xr (some a7), xi v8, xi s0] [xi s0, xr (some a1), xr (some a7)] σ) ∧ (s0 = (-1 : Int) → Aw Ω M_Pat_layOn R F k n 11 [xr (some a0), xr (some a1), xi v2, xi (v3 + 1), xi v4, xi v5, xi (v6 + 1), xu, xu, xu] [] σ))) : Aw Ω M_Pat_layOn R F k n 57 [xr (some a0), xr (some a1), xi v2, xi v3, xi v4, xi v5, xi v6, xr (some a7), xi v8, xu] [xi s0] σ := by
  refine Aw.istore (by decide) d_Pat_layOn_57 ?_
  refine Aw.toL (L' := [xr (some a0), xr (some a1), xi v2, xi v3, xi v4, xi v5, xi v6, xr (some a7), xi v8, xi s0]) rfl ?_
  refine Aw.iload rfl d_Pat_layOn_59 ?_
  refine Aw.iconst d_Pat_layOn_61 ?_
  obtain ⟨o1, h⟩ := h
  obtain ⟨ht, hf⟩ := h
  refine Aw.icmp_ne (tgt := 71) o1 ⟨by decide, by decide⟩ (by decide) d_Pat_layOn_62 (fun c2 => ?_) (fun c2 => ?_)
  · have h := ht c2
    refine Aw.aload rfl d_Pat_layOn_71 ?_
    refine Aw.aload_n rfl d_Pat_layOn_73 ?_
    refine Aw.iload rfl d_Pat_layOn_74 ?_
    exact h
  · have h := hf c2
    refine Aw.iinc rfl d_Pat_layOn_65 ?_
    refine Aw.toL (L' := [xr (some a0), xr (some a1), xi v2, xi (v3 + 1), xi v4, xi v5, xi v6, xr (some a7), xi v8, xi s0]) rfl ?_
    refine Aw.goto (tgt := 114) (by decide) d_Pat_layOn_68 ?_
    refine Aw.iinc rfl d_Pat_layOn_114 ?_
    refine Aw.toL (L' := [xr (some a0), xr (some a1), xi v2, xi (v3 + 1), xi v4, xi v5, xi (v6 + 1), xr (some a7), xi v8, xi s0]) rfl ?_
    refine Aw.goto (tgt := 11) (by decide) d_Pat_layOn_117 ?_
    exact Aw.toW (L' := [xr (some a0), xr (some a1), xi v2, xi (v3 + 1), xi v4, xi v5, xi (v6 + 1), xu, xu, xu]) ⟨Or.inr rfl, Or.inr rfl, Or.inr rfl, Or.inr rfl, Or.inr rfl, Or.inr rfl, Or.inr rfl, Or.inl rfl, Or.inl rfl, Or.inl rfl, trivial⟩ h
theorem b_Pat_layOn_79 {Ω : Om} {R : Room} {F : QF} {k n : Nat} {σ : Sto} {a0 : Nat} {a1 : Nat} {v2 : Int} {v3 : Int} {v4 : Int} {v5 : Int} {v6 : Int} {a7 : Nat} {v8 : Int} {v9 : Int} (h : sK σ a7 = 6 ∧ (∃ b2 : Nat, fR σ 324 a7 = some b2 ∧ sK σ b2 = 51 ∧ ((sZ σ b2 : Int) < 2147483648 → (∃ b6 : Nat, fR σ 323 a7 = some b6 ∧ sK σ b6 = 51 ∧ ((sZ σ b6 : Int) < 2147483648 → ((sZ σ b2 : Int) < 2147483648 → Aw Ω M_Pat_layOn R F k n 11 [xr (some a0), xr (some a1), xi v2, xi v3, xi (v4 + ((((sZ σ b2 : Int) - (sZ σ b6 : Int)) + v9) - v8)), xi (v9 + (sZ σ b2 : Int)), xi (v6 + 1), xu, xu, xu] [] σ)))))) : Aw Ω M_Pat_layOn R F k n 79 [xr (some a0), xr (some a1), xi v2, xi v3, xi v4, xi v5, xi v6, xr (some a7), xi v8, xi v9] [] σ := by
  refine Aw.iload rfl d_Pat_layOn_79 ?_
  refine Aw.aload rfl d_Pat_layOn_81 ?_
  obtain ⟨o1, h⟩ := h
  obtain ⟨b2, e3, h⟩ := h
  refine Aw.getRs (f := 324) 5 4 fl_Pat_71 (by decide) (by decide) rfl rfl o1 e3 d_Pat_layOn_83 ?_
  obtain ⟨o4, h⟩ := h
  refine Aw.alen 1 (by decide) o4 d_Pat_layOn_86 (fun r5 => ?_)
  have h := h r5
  refine Aw.aload rfl d_Pat_layOn_87 ?_
  obtain ⟨b6, e7, h⟩ := h
  refine Aw.getRs (f := 323) 5 3 fl_Pat_75 (by decide) (by decide) rfl rfl o1 e7 d_Pat_layOn_89 ?_
  obtain ⟨o8, h⟩ := h
  refine Aw.alen 1 (by decide) o8 d_Pat_layOn_92 (fun r9 => ?_)
  have h := h r9
  refine Aw.isub d_Pat_layOn_93 ?_
  refine Aw.iload rfl d_Pat_layOn_94 ?_
  refine Aw.iadd d_Pat_layOn_96 ?_
  refine Aw.iload rfl d_Pat_layOn_97 ?_
  refine Aw.isub d_Pat_layOn_99 ?_
  refine Aw.iadd d_Pat_layOn_100 ?_
  refine Aw.istore (by decide) d_Pat_layOn_101 ?_
  refine Aw.toL (L' := [xr (some a0), xr (some a1), xi v2, xi v3, xi (v4 + ((((sZ σ b2 : Int) - (sZ σ b6 : Int)) + v9) - v8)), xi v5, xi v6, xr (some a7), xi v8, xi v9]) rfl ?_
  refine Aw.iload rfl d_Pat_layOn_103 ?_
  refine Aw.aload rfl d_Pat_layOn_105 ?_
  refine Aw.getRs (f := 324) 5 4 fl_Pat_71 (by decide) (by decide) rfl rfl o1 e3 d_Pat_layOn_107 ?_
  refine Aw.alen 1 (by decide) o4 d_Pat_layOn_110 (fun r10 => ?_)
  have h := h r10
  refine Aw.iadd d_Pat_layOn_111 ?_
  refine Aw.istore (by decide) d_Pat_layOn_112 ?_
  refine Aw.toL (L' := [xr (some a0), xr (some a1), xi v2, xi v3, xi (v4 + ((((sZ σ b2 : Int) - (sZ σ b6 : Int)) + v9) - v8)), xi (v9 + (sZ σ b2 : Int)), xi v6, xr (some a7), xi v8, xi v9]) rfl ?_
  refine Aw.iinc rfl d_Pat_layOn_114 ?_
  refine Aw.toL (L' := [xr (some a0), xr (some a1), xi v2, xi v3, xi (v4 + ((((sZ σ b2 : Int) - (sZ σ b6 : Int)) + v9) - v8)), xi (v9 + (sZ σ b2 : Int)), xi (v6 + 1), xr (some a7), xi v8, xi v9]) rfl ?_
  refine Aw.goto (tgt := 11) (by decide) d_Pat_layOn_117 ?_
  exact Aw.toW (L' := [xr (some a0), xr (some a1), xi v2, xi v3, xi (v4 + ((((sZ σ b2 : Int) - (sZ σ b6 : Int)) + v9) - v8)), xi (v9 + (sZ σ b2 : Int)), xi (v6 + 1), xu, xu, xu]) ⟨Or.inr rfl, Or.inr rfl, Or.inr rfl, Or.inr rfl, Or.inr rfl, Or.inr rfl, Or.inr rfl, Or.inl rfl, Or.inl rfl, Or.inl rfl, trivial⟩ h
theorem c_Pat_layOn_23 {Ω : Om} {R R' : Room} {F : QF} {k n : Nat} {L st : List PV} {σ : Sto} {QX' : String → Sto → Prop} {Q : Option Nat → Sto → Prop} {a : Nat} {x0 : Int} (hc : MC Ω M_Pat_hunkAt R' (RR Q) QX' σ [xr (some a), xi x0]) (hk : sK σ a = 8) (hr1 : R'.frames + 1 ≤ R.frames) (hr2 : 8 + (2 + 11) + R'.locals ≤ R.locals) (hb1 : k + R'.cells ≤ R.cells) (hb2 : n + R'.slots ≤ R.slots) (hst : (st.map catP).sum ≤ 8) (kk : ∀ x σ', Q x σ' → Aw Ω M_Pat_layOn R F (k + R'.cells) (n + R'.slots) 26 L (xr x :: st) σ') (kx : ∀ E σ', QX' E σ' → Ax Ω M_Pat_layOn R F (k + R'.cells) (n + R'.slots) 23 L st σ' E) : Aw Ω M_Pat_layOn R F k n 23 L (xi x0 :: xr (some a) :: st) σ :=
  Aw.callV (As := [xi x0]) (stk := xi x0 :: xr (some a) :: st) (nn := 1) 7 M_Pat_hunkAt hc ok_Pat_hunkAt rfl (by decide) rfl hk ml_Pat_52 im_Pat_hunkAt se_Pat_hunkAt ⟨hr1, hr2⟩ rfl ⟨hb1, hb2⟩ hst rfl d_Pat_layOn_23 (fun r σ' h => by obtain ⟨x, rfl, h⟩ := h; exact kk x σ' h) kx
theorem c_Pat_layOn_54 {Ω : Om} {R R' : Room} {F : QF} {k n : Nat} {L st : List PV} {σ : Sto} {QX' : String → Sto → Prop} {Q : Int → Sto → Prop} {a : Nat} {x0 : Option Nat} {x1 : Int} {x2 : Int} {x3 : Int} (hc : MC Ω M_Hnk_findIn R' (RI Q) QX' σ [xr (some a), xr x0, xi x1, xi x2, xi x3]) (hk : sK σ a = 6) (hr1 : R'.frames + 1 ≤ R.frames) (hr2 : 8 + (8 + 11) + R'.locals ≤ R.locals) (hb1 : k + R'.cells ≤ R.cells) (hb2 : n + R'.slots ≤ R.slots) (hst : (st.map catP).sum ≤ 8) (kk : ∀ x σ', Q x σ' → Aw Ω M_Pat_layOn R F (k + R'.cells) (n + R'.slots) 57 L (xi x :: st) σ') (kx : ∀ E σ', QX' E σ' → Ax Ω M_Pat_layOn R F (k + R'.cells) (n + R'.slots) 54 L st σ' E) : Aw Ω M_Pat_layOn R F k n 54 L (xi x3 :: xi x2 :: xi x1 :: xr x0 :: xr (some a) :: st) σ :=
  Aw.callV (As := [xr x0, xi x1, xi x2, xi x3]) (stk := xi x3 :: xi x2 :: xi x1 :: xr x0 :: xr (some a) :: st) (nn := 4) 5 M_Hnk_findIn hc ok_Hnk_findIn rfl (by decide) rfl hk ml_Pat_63 im_Hnk_findIn se_Hnk_findIn ⟨hr1, hr2⟩ rfl ⟨hb1, hb2⟩ hst rfl d_Pat_layOn_54 (fun r σ' h => by obtain ⟨x, rfl, h⟩ := h; exact kk x σ' h) kx
theorem c_Pat_layOn_76 {Ω : Om} {R R' : Room} {F : QF} {k n : Nat} {L st : List PV} {σ : Sto} {QX' : String → Sto → Prop} {Q : Sto → Prop} {a : Nat} {x0 : Option Nat} {x1 : Int} (hc : MC Ω M_Hnk_putAt R' (RV Q) QX' σ [xr (some a), xr x0, xi x1]) (hk : sK σ a = 6) (hr1 : R'.frames + 1 ≤ R.frames) (hr2 : 8 + (4 + 11) + R'.locals ≤ R.locals) (hb1 : k + R'.cells ≤ R.cells) (hb2 : n + R'.slots ≤ R.slots) (hst : (st.map catP).sum ≤ 8) (kk : ∀ σ', Q σ' → Aw Ω M_Pat_layOn R F (k + R'.cells) (n + R'.slots) 79 L st σ') (kx : ∀ E σ', QX' E σ' → Ax Ω M_Pat_layOn R F (k + R'.cells) (n + R'.slots) 76 L st σ' E) : Aw Ω M_Pat_layOn R F k n 76 L (xi x1 :: xr x0 :: xr (some a) :: st) σ :=
  Aw.callV (As := [xr x0, xi x1]) (stk := xi x1 :: xr x0 :: xr (some a) :: st) (nn := 2) 5 M_Hnk_putAt hc ok_Hnk_putAt rfl (by decide) rfl hk ml_Pat_67 im_Hnk_putAt se_Hnk_putAt ⟨hr1, hr2⟩ rfl ⟨hb1, hb2⟩ hst rfl d_Pat_layOn_76 (fun r σ' h => by obtain ⟨rfl, h⟩ := h; exact kk σ' h) kx
theorem r_Pat_layOn_121 {Ω : Om} {R : Room} {k n : Nat} {L : List PV} {σ : Sto} {QR : Option PV → Sto → Prop} {QX : String → Sto → Prop} {x : Int} (h : QR (some (xi x)) σ) (h1 : k ≤ R.cells) (h2 : n ≤ R.slots) : Aw Ω M_Pat_layOn R (MF Ω R QR QX) k n 121 L [xi x] σ := Aw.iret rfl h h1 h2 d_Pat_layOn_121
