/-! walks of DiffWeaver$Draft, DiffWeaver$Version (by program) -/
theorem e_Drf_authorOfPutIn {Ω : Om} {R : Room} {QR : Option PV → Sto → Prop} {QX : String → Sto → Prop} {σ : Sto} {a0 : Nat} {a1 : Nat} {v2 : Int64} (h : Aw Ω M_Drf_authorOfPutIn R (MF Ω R QR QX) 0 0 0 [xr (some a0), xr (some a1), xl v2, xu, xu] [] σ) : MC Ω M_Drf_authorOfPutIn R QR QX σ [xr (some a0), xr (some a1), xl v2] := MC.body (by decide +kernel) rfl (Nat.le_of_ble_eq_true rfl) rfl h
theorem b_Drf_authorOfPutIn_0 {Ω : Om} {R : Room} {F : QF} {k n : Nat} {σ : Sto} {a0 : Nat} {a1 : Nat} {v2 : Int64} (h : Aw Ω M_Drf_authorOfPutIn R F k n 1 [xr (some a0), xr (some a1), xl v2, xu, xu] [xl v2] σ) : Aw Ω M_Drf_authorOfPutIn R F k n 0 [xr (some a0), xr (some a1), xl v2, xu, xu] [] σ := by
  refine Aw.lload_n rfl d_Drf_authorOfPutIn_0 ?_
  exact h
theorem b_Drf_authorOfPutIn_7 {Ω : Om} {R : Room} {F : QF} {k n : Nat} {σ : Sto} {a0 : Nat} {a1 : Nat} {v2 : Int64} {s0 : Int} (h : Q32 s0 ∧ ((s0 < (4 : Int) → sK σ a0 = 4 ∧ (Q32 (fI σ 203 a0) → Aw Ω M_Drf_authorOfPutIn R F k n 64 [xr (some a0), xr (some a1), xl v2, xu, xu] [xi (fI σ 203 a0)] σ)) ∧ (¬ s0 < (4 : Int) → Aw Ω M_Drf_authorOfPutIn R F k n 14 [xr (some a0), xr (some a1), xl v2, xu, xi 0] [] σ))) : Aw Ω M_Drf_authorOfPutIn R F k n 7 [xr (some a0), xr (some a1), xl v2, xu, xu] [xi s0] σ := by
  refine Aw.iconst d_Drf_authorOfPutIn_7 ?_
  obtain ⟨o1, h⟩ := h
  obtain ⟨ht, hf⟩ := h
  refine Aw.icmp_lt (tgt := 60) o1 ⟨by decide, by decide⟩ (by decide) d_Drf_authorOfPutIn_8 (fun c4 => ?_) (fun c4 => ?_)
  · have h := ht c4
    refine Aw.aload_n rfl d_Drf_authorOfPutIn_60 ?_
    obtain ⟨o2, h⟩ := h
    refine Aw.getI (f := 203) 3 11 fl_Drf_60 (by decide) (by decide) rfl rfl o2 d_Drf_authorOfPutIn_61 (fun r3 => ?_)
    have h := h r3
    exact h
  · have h := hf c4
    refine Aw.iconst d_Drf_authorOfPutIn_11 ?_
    refine Aw.istore (by decide) d_Drf_authorOfPutIn_12 ?_
    refine Aw.toL (L' := [xr (some a0), xr (some a1), xl v2, xu, xi 0]) rfl ?_
    exact h
theorem b_Drf_authorOfPutIn_14 {Ω : Om} {R : Room} {F : QF} {k n : Nat} {σ : Sto} {a0 : Nat} {a1 : Nat} {v2 : Int64} {v4 : Int} (h : sK σ a0 = 4 ∧ (∃ b2 : Nat, fR σ 198 a0 = some b2 ∧ Aw Ω M_Drf_authorOfPutIn R F k n 20 [xr (some a0), xr (some a1), xl v2, xu, xi v4] [xr (some b2), xi v4] σ)) : Aw Ω M_Drf_authorOfPutIn R F k n 14 [xr (some a0), xr (some a1), xl v2, xu, xi v4] [] σ := by
  refine Aw.iload rfl d_Drf_authorOfPutIn_14 ?_
  refine Aw.aload_n rfl d_Drf_authorOfPutIn_16 ?_
  obtain ⟨o1, h⟩ := h
  obtain ⟨b2, e3, h⟩ := h
  refine Aw.getRs (f := 198) 3 6 fl_Drf_44 (by decide) (by decide) rfl rfl o1 e3 d_Drf_authorOfPutIn_17 ?_
  exact h
theorem b_Drf_authorOfPutIn_23 {Ω : Om} {R : Room} {F : QF} {k n : Nat} {σ : Sto} {a0 : Nat} {a1 : Nat} {v2 : Int64} {v4 : Int} {s0 : Int} {s1 : Int} (h : Q32 s0 ∧ Q32 s1 ∧ ((s1 ≤ s0 → sK σ a0 = 4 ∧ (Q32 (fI σ 203 a0) → Aw Ω M_Drf_authorOfPutIn R F k n 64 [xr (some a0), xr (some a1), xl v2, xu, xu] [xi (fI σ 203 a0)] σ)) ∧ (¬ s1 ≤ s0 → sK σ a0 = 4 ∧ (∃ b6 : Nat, fR σ 198 a0 = some b6 ∧ Aw Ω M_Drf_authorOfPutIn R F k n 32 [xr (some a0), xr (some a1), xl v2, xu, xi v4] [xi v4, xr (some b6)] σ)))) : Aw Ω M_Drf_authorOfPutIn R F k n 23 [xr (some a0), xr (some a1), xl v2, xu, xi v4] [xi s1, xi s0] σ := by
  obtain ⟨o1, h⟩ := h
  obtain ⟨o2, h⟩ := h
  obtain ⟨ht, hf⟩ := h
  refine Aw.icmp_ge (tgt := 60) o1 o2 (by decide) d_Drf_authorOfPutIn_23 (fun c8 => ?_) (fun c8 => ?_)
  · have h := ht c8
    refine Aw.aload_n rfl d_Drf_authorOfPutIn_60 ?_
    obtain ⟨o3, h⟩ := h
    refine Aw.getI (f := 203) 3 11 fl_Drf_60 (by decide) (by decide) rfl rfl o3 d_Drf_authorOfPutIn_61 (fun r4 => ?_)
    have h := h r4
    exact Aw.toW (L' := [xr (some a0), xr (some a1), xl v2, xu, xu]) ⟨Or.inr rfl, Or.inr rfl, Or.inr rfl, Or.inr rfl, Or.inl rfl, trivial⟩ h
  · have h := hf c8
    refine Aw.aload_n rfl d_Drf_authorOfPutIn_26 ?_
    obtain ⟨o5, h⟩ := h
    obtain ⟨b6, e7, h⟩ := h
    refine Aw.getRs (f := 198) 3 6 fl_Drf_44 (by decide) (by decide) rfl rfl o5 e7 d_Drf_authorOfPutIn_27 ?_
    refine Aw.iload rfl d_Drf_authorOfPutIn_30 ?_
    exact h
theorem b_Drf_authorOfPutIn_35 {Ω : Om} {R : Room} {F : QF} {k n : Nat} {σ : Sto} {a0 : Nat} {a1 : Nat} {v2 : Int64} {v4 : Int} {s0 : Int64} (h : Q32 (cmpL s0 v2) ∧ ((¬ (cmpL s0 v2) = (0 : Int) → Aw Ω M_Drf_authorOfPutIn R F k n 14 [xr (some a0), xr (some a1), xl v2, xu, xi (v4 + 1)] [] σ) ∧ ((cmpL s0 v2) = (0 : Int) → sK σ a0 = 4 ∧ (∃ b3 : Nat, fR σ 198 a0 = some b3 ∧ Aw Ω M_Drf_authorOfPutIn R F k n 47 [xr (some a0), xr (some a1), xl v2, xu, xi v4] [xi v4, xr (some b3), xr (some a1)] σ)))) : Aw Ω M_Drf_authorOfPutIn R F k n 35 [xr (some a0), xr (some a1), xl v2, xu, xi v4] [xl s0] σ := by
  refine Aw.lload_n rfl d_Drf_authorOfPutIn_35 ?_
  refine Aw.lcmp d_Drf_authorOfPutIn_36 ?_
  obtain ⟨o1, h⟩ := h
  obtain ⟨ht, hf⟩ := h
  refine Aw.if_ne (tgt := 54) o1 (by decide) d_Drf_authorOfPutIn_37 (fun c5 => ?_) (fun c5 => ?_)
  · have h := ht c5
    refine Aw.iinc rfl d_Drf_authorOfPutIn_54 ?_
    refine Aw.toL (L' := [xr (some a0), xr (some a1), xl v2, xu, xi (v4 + 1)]) rfl ?_
    refine Aw.goto (tgt := 14) (by decide) d_Drf_authorOfPutIn_57 ?_
    exact h
  · have h := hf c5
    refine Aw.aload_n rfl d_Drf_authorOfPutIn_40 ?_
    refine Aw.aload_n rfl d_Drf_authorOfPutIn_41 ?_
    obtain ⟨o2, h⟩ := h
    obtain ⟨b3, e4, h⟩ := h
    refine Aw.getRs (f := 198) 3 6 fl_Drf_44 (by decide) (by decide) rfl rfl o2 e4 d_Drf_authorOfPutIn_42 ?_
    refine Aw.iload rfl d_Drf_authorOfPutIn_45 ?_
    exact h
theorem c_Drf_authorOfPutIn_1 {Ω : Om} {R R' : Room} {F : QF} {k n : Nat} {L st : List PV} {σ : Sto} {QX' : String → Sto → Prop} {Q : Int64 → Sto → Prop} {x0 : Int64} (hc : MC Ω M_Lbk_lettersOf R' (RL Q) QX' σ [xl x0]) (hr1 : R'.frames + 1 ≤ R.frames) (hr2 : 8 + (8 + 11) + R'.locals ≤ R.locals) (hb1 : k + R'.cells ≤ R.cells) (hb2 : n + R'.slots ≤ R.slots) (hst : (st.map catP).sum ≤ 8) (kk : ∀ x σ', Q x σ' → Aw Ω M_Drf_authorOfPutIn R F (k + R'.cells) (n + R'.slots) 4 L (xl x :: st) σ') (kx : ∀ E σ', QX' E σ' → Ax Ω M_Drf_authorOfPutIn R F (k + R'.cells) (n + R'.slots) 1 L st σ' E) : Aw Ω M_Drf_authorOfPutIn R F k n 1 L (xl x0 :: st) σ :=
  Aw.callS (As := [xl x0]) (stk := xl x0 :: st) (nn := 1) M_Lbk_lettersOf hc ok_Lbk_lettersOf rfl ml_Drf_242 sta_Lbk_lettersOf ⟨hr1, hr2⟩ rfl ⟨hb1, hb2⟩ hst rfl d_Drf_authorOfPutIn_1 (fun r σ' h => by obtain ⟨x, rfl, h⟩ := h; exact kk x σ' h) kx
theorem c_Drf_authorOfPutIn_4 {Ω : Om} {R R' : Room} {F : QF} {k n : Nat} {L st : List PV} {σ : Sto} {QX' : String → Sto → Prop} {Q : Int → Sto → Prop} {x0 : Int64} (hc : MC Ω M_Lbk_lengthOf R' (RI Q) QX' σ [xl x0]) (hr1 : R'.frames + 1 ≤ R.frames) (hr2 : 8 + (3 + 11) + R'.locals ≤ R.locals) (hb1 : k + R'.cells ≤ R.cells) (hb2 : n + R'.slots ≤ R.slots) (hst : (st.map catP).sum ≤ 8) (kk : ∀ x σ', Q x σ' → Aw Ω M_Drf_authorOfPutIn R F (k + R'.cells) (n + R'.slots) 7 L (xi x :: st) σ') (kx : ∀ E σ', QX' E σ' → Ax Ω M_Drf_authorOfPutIn R F (k + R'.cells) (n + R'.slots) 4 L st σ' E) : Aw Ω M_Drf_authorOfPutIn R F k n 4 L (xl x0 :: st) σ :=
  Aw.callS (As := [xl x0]) (stk := xl x0 :: st) (nn := 1) M_Lbk_lengthOf hc ok_Lbk_lengthOf rfl ml_Drf_246 sta_Lbk_lengthOf ⟨hr1, hr2⟩ rfl ⟨hb1, hb2⟩ hst rfl d_Drf_authorOfPutIn_4 (fun r σ' h => by obtain ⟨x, rfl, h⟩ := h; exact kk x σ' h) kx
theorem c_Drf_authorOfPutIn_20 {Ω : Om} {R R' : Room} {F : QF} {k n : Nat} {L st : List PV} {σ : Sto} {QX' : String → Sto → Prop} {Q : Int → Sto → Prop} {a : Nat} (hc : MC Ω M_Txt_size R' (RI Q) QX' σ [xr (some a)]) (hk : sK σ a = 10) (hr1 : R'.frames + 1 ≤ R.frames) (hr2 : 8 + (1 + 11) + R'.locals ≤ R.locals) (hb1 : k + R'.cells ≤ R.cells) (hb2 : n + R'.slots ≤ R.slots) (hst : (st.map catP).sum ≤ 8) (kk : ∀ x σ', Q x σ' → Aw Ω M_Drf_authorOfPutIn R F (k + R'.cells) (n + R'.slots) 23 L (xi x :: st) σ') (kx : ∀ E σ', QX' E σ' → Ax Ω M_Drf_authorOfPutIn R F (k + R'.cells) (n + R'.slots) 20 L st σ' E) : Aw Ω M_Drf_authorOfPutIn R F k n 20 L (xr (some a) :: st) σ :=
  Aw.callV (As := []) (stk := xr (some a) :: st) (nn := 0) 9 M_Txt_size hc ok_Txt_size rfl (by decide) rfl hk ml_Drf_88 im_Txt_size se_Txt_size ⟨hr1, hr2⟩ rfl ⟨hb1, hb2⟩ hst rfl d_Drf_authorOfPutIn_20 (fun r σ' h => by obtain ⟨x, rfl, h⟩ := h; exact kk x σ' h) kx
theorem c_Drf_authorOfPutIn_32 {Ω : Om} {R R' : Room} {F : QF} {k n : Nat} {L st : List PV} {σ : Sto} {QX' : String → Sto → Prop} {Q : Int64 → Sto → Prop} {a : Nat} {x0 : Int} (hc : MC Ω M_Txt_lineAt R' (RL Q) QX' σ [xr (some a), xi x0]) (hk : sK σ a = 10) (hr1 : R'.frames + 1 ≤ R.frames) (hr2 : 8 + (2 + 11) + R'.locals ≤ R.locals) (hb1 : k + R'.cells ≤ R.cells) (hb2 : n + R'.slots ≤ R.slots) (hst : (st.map catP).sum ≤ 8) (kk : ∀ x σ', Q x σ' → Aw Ω M_Drf_authorOfPutIn R F (k + R'.cells) (n + R'.slots) 35 L (xl x :: st) σ') (kx : ∀ E σ', QX' E σ' → Ax Ω M_Drf_authorOfPutIn R F (k + R'.cells) (n + R'.slots) 32 L st σ' E) : Aw Ω M_Drf_authorOfPutIn R F k n 32 L (xi x0 :: xr (some a) :: st) σ :=
  Aw.callV (As := [xi x0]) (stk := xi x0 :: xr (some a) :: st) (nn := 1) 9 M_Txt_lineAt hc ok_Txt_lineAt rfl (by decide) rfl hk ml_Drf_226 im_Txt_lineAt se_Txt_lineAt ⟨hr1, hr2⟩ rfl ⟨hb1, hb2⟩ hst rfl d_Drf_authorOfPutIn_32 (fun r σ' h => by obtain ⟨x, rfl, h⟩ := h; exact kk x σ' h) kx
theorem c_Drf_authorOfPutIn_47 {Ω : Om} {R R' : Room} {F : QF} {k n : Nat} {L st : List PV} {σ : Sto} {QX' : String → Sto → Prop} {Q : Int → Sto → Prop} {a : Nat} {x0 : Int} (hc : MC Ω M_Txt_nameAt R' (RI Q) QX' σ [xr (some a), xi x0]) (hk : sK σ a = 10) (hr1 : R'.frames + 1 ≤ R.frames) (hr2 : 8 + (2 + 11) + R'.locals ≤ R.locals) (hb1 : k + R'.cells ≤ R.cells) (hb2 : n + R'.slots ≤ R.slots) (hst : (st.map catP).sum ≤ 8) (kk : ∀ x σ', Q x σ' → Aw Ω M_Drf_authorOfPutIn R F (k + R'.cells) (n + R'.slots) 50 L (xi x :: st) σ') (kx : ∀ E σ', QX' E σ' → Ax Ω M_Drf_authorOfPutIn R F (k + R'.cells) (n + R'.slots) 47 L st σ' E) : Aw Ω M_Drf_authorOfPutIn R F k n 47 L (xi x0 :: xr (some a) :: st) σ :=
  Aw.callV (As := [xi x0]) (stk := xi x0 :: xr (some a) :: st) (nn := 1) 9 M_Txt_nameAt hc ok_Txt_nameAt rfl (by decide) rfl hk ml_Drf_223 im_Txt_nameAt se_Txt_nameAt ⟨hr1, hr2⟩ rfl ⟨hb1, hb2⟩ hst rfl d_Drf_authorOfPutIn_47 (fun r σ' h => by obtain ⟨x, rfl, h⟩ := h; exact kk x σ' h) kx
theorem c_Drf_authorOfPutIn_50 {Ω : Om} {R R' : Room} {F : QF} {k n : Nat} {L st : List PV} {σ : Sto} {QX' : String → Sto → Prop} {Q : Int → Sto → Prop} {a : Nat} {x0 : Int} (hc : MC Ω M_Lbk_authorOf R' (RI Q) QX' σ [xr (some a), xi x0]) (hk : sK σ a = 7) (hr1 : R'.frames + 1 ≤ R.frames) (hr2 : 8 + (2 + 11) + R'.locals ≤ R.locals) (hb1 : k + R'.cells ≤ R.cells) (hb2 : n + R'.slots ≤ R.slots) (hst : (st.map catP).sum ≤ 8) (kk : ∀ x σ', Q x σ' → Aw Ω M_Drf_authorOfPutIn R F (k + R'.cells) (n + R'.slots) 53 L (xi x :: st) σ') (kx : ∀ E σ', QX' E σ' → Ax Ω M_Drf_authorOfPutIn R F (k + R'.cells) (n + R'.slots) 50 L st σ' E) : Aw Ω M_Drf_authorOfPutIn R F k n 50 L (xi x0 :: xr (some a) :: st) σ :=
  Aw.callV (As := [xi x0]) (stk := xi x0 :: xr (some a) :: st) (nn := 1) 6 M_Lbk_authorOf hc ok_Lbk_authorOf rfl (by decide) rfl hk ml_Drf_250 im_Lbk_authorOf se_Lbk_authorOf ⟨hr1, hr2⟩ rfl ⟨hb1, hb2⟩ hst rfl d_Drf_authorOfPutIn_50 (fun r σ' h => by obtain ⟨x, rfl, h⟩ := h; exact kk x σ' h) kx
theorem r_Drf_authorOfPutIn_53 {Ω : Om} {R : Room} {k n : Nat} {L : List PV} {σ : Sto} {QR : Option PV → Sto → Prop} {QX : String → Sto → Prop} {x : Int} (h : QR (some (xi x)) σ) (h1 : k ≤ R.cells) (h2 : n ≤ R.slots) : Aw Ω M_Drf_authorOfPutIn R (MF Ω R QR QX) k n 53 L [xi x] σ := Aw.iret rfl h h1 h2 d_Drf_authorOfPutIn_53
theorem r_Drf_authorOfPutIn_64 {Ω : Om} {R : Room} {k n : Nat} {L : List PV} {σ : Sto} {QR : Option PV → Sto → Prop} {QX : String → Sto → Prop} {x : Int} (h : QR (some (xi x)) σ) (h1 : k ≤ R.cells) (h2 : n ≤ R.slots) : Aw Ω M_Drf_authorOfPutIn R (MF Ω R QR QX) k n 64 L [xi x] σ := Aw.iret rfl h h1 h2 d_Drf_authorOfPutIn_64
theorem e_Drf_begun {Ω : Om} {R : Room} {QR : Option PV → Sto → Prop} {QX : String → Sto → Prop} {σ : Sto} {a0 : Nat} {a1 : Nat} {a2 : Nat} {a3 : Nat} (h : Aw Ω M_Drf_begun R (MF Ω R QR QX) 0 0 0 [xr (some a0), xr (some a1), xr (some a2), xr (some a3)] [] σ) : MC Ω M_Drf_begun R QR QX σ [xr (some a0), xr (some a1), xr (some a2), xr (some a3)] := MC.body (by decide +kernel) rfl (Nat.le_of_ble_eq_true rfl) rfl h
theorem b_Drf_begun_0 {Ω : Om} {R : Room} {F : QF} {k n : Nat} {σ : Sto} {a0 : Nat} {a1 : Nat} {a2 : Nat} {a3 : Nat} (h : sK σ a0 = 4 ∧ (∃ b2 : Nat, fR (uR (uR (uR σ 198 a0 (some a1)) 199 a0 (some a2)) 200 a0 (some a3)) 193 a0 = some b2 ∧ Aw Ω M_Drf_begun R F k n 19 [xr (some a0), xr (some a1), xr (some a2), xr (some a3)] [xr (some b2)] (uR (uR (uR σ 198 a0 (some a1)) 199 a0 (some a2)) 200 a0 (some a3)))) : Aw Ω M_Drf_begun R F k n 0 [xr (some a0), xr (some a1), xr (some a2), xr (some a3)] [] σ := by
  refine Aw.aload_n rfl d_Drf_begun_0 ?_
  refine Aw.aload_n rfl d_Drf_begun_1 ?_
  obtain ⟨o1, h⟩ := h
  refine Aw.putR (f := 198) 3 6 fl_Drf_44 (by decide) (by decide) rfl rfl o1 rfl rfl d_Drf_begun_2 ?_
  refine Aw.aload_n rfl d_Drf_begun_5 ?_
  refine Aw.aload_n rfl d_Drf_begun_6 ?_
  refine Aw.putR (f := 199) 3 7 fl_Drf_47 (by decide) (by decide) rfl rfl o1 rfl rfl d_Drf_begun_7 ?_
  refine Aw.aload_n rfl d_Drf_begun_10 ?_
  refine Aw.aload_n rfl d_Drf_begun_11 ?_
  refine Aw.putR (f := 200) 3 8 fl_Drf_50 (by decide) (by decide) rfl rfl o1 rfl rfl d_Drf_begun_12 ?_
  refine Aw.aload_n rfl d_Drf_begun_15 ?_
  obtain ⟨b2, e3, h⟩ := h
  refine Aw.getRs (f := 193) 3 1 fl_Drf_21 (by decide) (by decide) rfl rfl o1 e3 d_Drf_begun_16 ?_
  exact h
theorem b_Drf_begun_22 {Ω : Om} {R : Room} {F : QF} {k n : Nat} {σ : Sto} {a0 : Nat} {a1 : Nat} {a2 : Nat} {a3 : Nat} (h : sK σ a0 = 4 ∧ Aw Ω M_Drf_begun R F k n 32 [xr (some a0), xr (some a1), xr (some a2), xr (some a3)] [] (uI (uI σ 201 a0 0) 202 a0 0)) : Aw Ω M_Drf_begun R F k n 22 [xr (some a0), xr (some a1), xr (some a2), xr (some a3)] [] σ := by
  refine Aw.aload_n rfl d_Drf_begun_22 ?_
  refine Aw.iconst d_Drf_begun_23 ?_
  obtain ⟨o1, h⟩ := h
  refine Aw.putI (f := 201) 3 9 fl_Drf_53 (by decide) (by decide) rfl rfl o1 rfl ⟨by decide, by decide⟩ (Or.inl rfl) d_Drf_begun_24 ?_
  refine Aw.aload_n rfl d_Drf_begun_27 ?_
  refine Aw.iconst d_Drf_begun_28 ?_
  refine Aw.putI (f := 202) 3 10 fl_Drf_57 (by decide) (by decide) rfl rfl o1 rfl ⟨by decide, by decide⟩ (Or.inl rfl) d_Drf_begun_29 ?_
  exact h
theorem c_Drf_begun_19 {Ω : Om} {R R' : Room} {F : QF} {k n : Nat} {L st : List PV} {σ : Sto} {QX' : String → Sto → Prop} {Q : Sto → Prop} {a : Nat} (hc : MC Ω M_Lst_clear R' (RV Q) QX' σ [xr (some a)]) (hk : sK σ a = 14) (hr1 : R'.frames + 1 ≤ R.frames) (hr2 : 8 + (4 + 11) + R'.locals ≤ R.locals) (hb1 : k + R'.cells ≤ R.cells) (hb2 : n + R'.slots ≤ R.slots) (hst : (st.map catP).sum ≤ 8) (kk : ∀ σ', Q σ' → Aw Ω M_Drf_begun R F (k + R'.cells) (n + R'.slots) 22 L st σ') (kx : ∀ E σ', QX' E σ' → Ax Ω M_Drf_begun R F (k + R'.cells) (n + R'.slots) 19 L st σ' E) : Aw Ω M_Drf_begun R F k n 19 L (xr (some a) :: st) σ :=
  Aw.callV (As := []) (stk := xr (some a) :: st) (nn := 0) 13 M_Lst_clear hc ok_Lst_clear rfl (by decide) rfl hk ml_Drf_78 im_Lst_clear se_Lst_clear ⟨hr1, hr2⟩ rfl ⟨hb1, hb2⟩ hst rfl d_Drf_begun_19 (fun r σ' h => by obtain ⟨rfl, h⟩ := h; exact kk σ' h) kx
theorem r_Drf_begun_32 {Ω : Om} {R : Room} {k n : Nat} {L : List PV} {σ : Sto} {QR : Option PV → Sto → Prop} {QX : String → Sto → Prop} (h : QR none σ) (h1 : k ≤ R.cells) (h2 : n ≤ R.slots) : Aw Ω M_Drf_begun R (MF Ω R QR QX) k n 32 L [] σ := Aw.vret rfl h h1 h2 d_Drf_begun_32
theorem e_Drf_conflictCount {Ω : Om} {R : Room} {QR : Option PV → Sto → Prop} {QX : String → Sto → Prop} {σ : Sto} {a0 : Nat} (h : Aw Ω M_Drf_conflictCount R (MF Ω R QR QX) 0 0 0 [xr (some a0)] [] σ) : MC Ω M_Drf_conflictCount R QR QX σ [xr (some a0)] := MC.body (by decide +kernel) rfl (Nat.le_of_ble_eq_true rfl) rfl h
theorem b_Drf_conflictCount_0 {Ω : Om} {R : Room} {F : QF} {k n : Nat} {σ : Sto} {a0 : Nat} (h : sK σ a0 = 4 ∧ (Q32 (fI σ 201 a0) → Aw Ω M_Drf_conflictCount R F k n 4 [xr (some a0)] [xi (fI σ 201 a0)] σ)) : Aw Ω M_Drf_conflictCount R F k n 0 [xr (some a0)] [] σ := by
  refine Aw.aload_n rfl d_Drf_conflictCount_0 ?_
  obtain ⟨o1, h⟩ := h
  refine Aw.getI (f := 201) 3 9 fl_Drf_53 (by decide) (by decide) rfl rfl o1 d_Drf_conflictCount_1 (fun r2 => ?_)
  have h := h r2
  exact h
theorem r_Drf_conflictCount_4 {Ω : Om} {R : Room} {k n : Nat} {L : List PV} {σ : Sto} {QR : Option PV → Sto → Prop} {QX : String → Sto → Prop} {x : Int} (h : QR (some (xi x)) σ) (h1 : k ≤ R.cells) (h2 : n ≤ R.slots) : Aw Ω M_Drf_conflictCount R (MF Ω R QR QX) k n 4 L [xi x] σ := Aw.iret rfl h h1 h2 d_Drf_conflictCount_4
theorem e_Drf_cut {Ω : Om} {R : Room} {QR : Option PV → Sto → Prop} {QX : String → Sto → Prop} {σ : Sto} {a0 : Nat} {v1 : Int} {v2 : Int} {v3 : Int} {v4 : Int} {v5 : Int} {v6 : Int} (h : Aw Ω M_Drf_cut R (MF Ω R QR QX) 0 0 0 [xr (some a0), xi v1, xi v2, xi v3, xi v4, xi v5, xi v6, xu] [] σ) : MC Ω M_Drf_cut R QR QX σ [xr (some a0), xi v1, xi v2, xi v3, xi v4, xi v5, xi v6] := MC.body (by decide +kernel) rfl (Nat.le_of_ble_eq_true rfl) rfl h
theorem b_Drf_cut_0 {Ω : Om} {R : Room} {F : QF} {k n : Nat} {σ : Sto} {a0 : Nat} {v1 : Int} {v2 : Int} {v3 : Int} {v4 : Int} {v5 : Int} {v6 : Int} (h : sK σ a0 = 4 ∧ (∃ b2 : Nat, fR σ 194 a0 = some b2 ∧ (Q32 (fI σ 201 a0) → Q32 (fI σ 201 a0) ∧ Q32 20 ∧ 1 ≤ R.frames ∧ ([xr (some b2)].map catP).sum + 13 ≤ R.locals ∧ k ≤ R.cells ∧ n ≤ R.slots ∧ sK σ b2 = 54 ∧ 0 ≤ (minI (fI σ 201 a0) 20) ∧ (minI (fI σ 201 a0) 20) < sZ σ b2 ∧ ∃ b14 : Nat, aR σ b2 (minI (fI σ 201 a0) 20).toNat = some b14 ∧ sK σ b14 = 3 ∧ (∃ b17 : Nat, fR σ 128 b14 = some b17 ∧ sK σ b17 = 50 ∧ 0 ≤ (0 : Int) ∧ (0 : Int) < sZ σ b17 ∧ Q32 v1 ∧ ∃ b23 : Nat, aR σ b2 (minI (fI σ 201 a0) 20).toNat = some b23 ∧ sK σ b23 = 3 ∧ (∃ b26 : Nat, fR σ 129 b23 = some b26 ∧ sK σ b26 = 50 ∧ 0 ≤ (0 : Int) ∧ (0 : Int) < sZ σ b26 ∧ Q32 v2 ∧ ∃ b32 : Nat, aR σ b2 (minI (fI σ 201 a0) 20).toNat = some b32 ∧ sK σ b32 = 3 ∧ (∃ b35 : Nat, fR σ 128 b32 = some b35 ∧ sK σ b35 = 50 ∧ 0 ≤ (1 : Int) ∧ (1 : Int) < sZ σ b35 ∧ Q32 v3 ∧ ∃ b41 : Nat, aR σ b2 (minI (fI σ 201 a0) 20).toNat = some b41 ∧ sK σ b41 = 3 ∧ (∃ b44 : Nat, fR σ 129 b41 = some b44 ∧ sK σ b44 = 50 ∧ 0 ≤ (1 : Int) ∧ (1 : Int) < sZ σ b44 ∧ Q32 v4 ∧ ∃ b50 : Nat, aR σ b2 (minI (fI σ 201 a0) 20).toNat = some b50 ∧ sK σ b50 = 3 ∧ (∃ b53 : Nat, fR σ 128 b50 = some b53 ∧ sK σ b53 = 50 ∧ 0 ≤ (2 : Int) ∧ (2 : Int) < sZ σ b53 ∧ Q32 v5 ∧ ∃ b59 : Nat, aR σ b2 (minI (fI σ 201 a0) 20).toNat = some b59 ∧ sK σ b59 = 3 ∧ (∃ b62 : Nat, fR σ 129 b59 = some b62 ∧ sK σ b62 = 50 ∧ 0 ≤ (2 : Int) ∧ (2 : Int) < sZ σ b62 ∧ Q32 v6 ∧ (∃ b68 : Nat, fR σ 192 a0 = some b68 ∧ Aw Ω M_Drf_cut R F k n 73 [xr (some a0), xi v1, xi v2, xi v3, xi v4, xi v5, xi v6, xr (aR σ b2 (minI (fI σ 201 a0) 20).toNat)] [xr (some b68), xr (aR σ b2 (minI (fI σ 201 a0) 20).toNat)] (vI (vI (vI (vI (vI (vI σ b17 0 v1) b26 0 v2) b35 1 v3) b44 1 v4) b53 2 v5) b62 2 v6))))))))))) : Aw Ω M_Drf_cut R F k n 0 [xr (some a0), xi v1, xi v2, xi v3, xi v4, xi v5, xi v6, xu] [] σ := by
  refine Aw.aload_n rfl d_Drf_cut_0 ?_
  obtain ⟨o1, h⟩ := h
  obtain ⟨b2, e3, h⟩ := h
  refine Aw.getRs (f := 194) 3 2 fl_Drf_27 (by decide) (by decide) rfl rfl o1 e3 d_Drf_cut_1 ?_
  refine Aw.aload_n rfl d_Drf_cut_4 ?_
  refine Aw.getI (f := 201) 3 9 fl_Drf_53 (by decide) (by decide) rfl rfl o1 d_Drf_cut_5 (fun r4 => ?_)
  have h := h r4
  refine Aw.bipush (by decide) d_Drf_cut_8 ?_
  obtain ⟨o5, o6, o7, o8, o9, o10, h⟩ := h
  refine Aw.mmin o5 o6 ml_Drf_108 mth_min_1 mth_ini mth_min_2 o7 o8 o9 o10 d_Drf_cut_10 ?_
  obtain ⟨o11, h⟩ := h
  obtain ⟨o12, o13, h⟩ := h
  refine Aw.aald 4 (by decide) (by decide) o11 o12 o13 d_Drf_cut_13 ?_
  refine Aw.astore (by decide) d_Drf_cut_14 ?_
  refine Aw.toL (L' := [xr (some a0), xi v1, xi v2, xi v3, xi v4, xi v5, xi v6, xr (aR σ b2 (minI (fI σ 201 a0) 20).toNat)]) rfl ?_
  refine Aw.aload rfl d_Drf_cut_16 ?_
  obtain ⟨b14, e15, h⟩ := h
  refine Aw.der0 e15 ?_
  obtain ⟨o16, h⟩ := h
  obtain ⟨b17, e18, h⟩ := h
  refine Aw.getRs (f := 128) 2 0 fl_Drf_114 (by decide) (by decide) rfl rfl o16 e18 d_Drf_cut_18 ?_
  refine Aw.iconst d_Drf_cut_21 ?_
  refine Aw.iload_n rfl d_Drf_cut_22 ?_
  obtain ⟨o19, h⟩ := h
  obtain ⟨o20, o21, h⟩ := h
  obtain ⟨o22, h⟩ := h
  refine Aw.iast o19 o20 o21 o22 d_Drf_cut_23 ?_
  refine Aw.aload rfl d_Drf_cut_24 ?_
  obtain ⟨b23, e24, h⟩ := h
  refine Aw.der0 e24 ?_
  obtain ⟨o25, h⟩ := h
  obtain ⟨b26, e27, h⟩ := h
  refine Aw.getRs (f := 129) 2 1 fl_Drf_118 (by decide) (by decide) rfl rfl o25 e27 d_Drf_cut_26 ?_
  refine Aw.iconst d_Drf_cut_29 ?_
  refine Aw.iload_n rfl d_Drf_cut_30 ?_
  obtain ⟨o28, h⟩ := h
  obtain ⟨o29, o30, h⟩ := h
  obtain ⟨o31, h⟩ := h
  refine Aw.iast o28 o29 o30 o31 d_Drf_cut_31 ?_
  refine Aw.aload rfl d_Drf_cut_32 ?_
  obtain ⟨b32, e33, h⟩ := h
  refine Aw.der0 e33 ?_
  obtain ⟨o34, h⟩ := h
  obtain ⟨b35, e36, h⟩ := h
  refine Aw.getRs (f := 128) 2 0 fl_Drf_114 (by decide) (by decide) rfl rfl o34 e36 d_Drf_cut_34 ?_
  refine Aw.iconst d_Drf_cut_37 ?_
  refine Aw.iload_n rfl d_Drf_cut_38 ?_
  obtain ⟨o37, h⟩ := h
  obtain ⟨o38, o39, h⟩ := h
  obtain ⟨o40, h⟩ := h
  refine Aw.iast o37 o38 o39 o40 d_Drf_cut_39 ?_
  refine Aw.aload rfl d_Drf_cut_40 ?_
  obtain ⟨b41, e42, h⟩ := h
  refine Aw.der0 e42 ?_
  obtain ⟨o43, h⟩ := h
  obtain ⟨b44, e45, h⟩ := h
  refine Aw.getRs (f := 129) 2 1 fl_Drf_118 (by decide) (by decide) rfl rfl o43 e45 d_Drf_cut_42 ?_
  refine Aw.iconst d_Drf_cut_45 ?_
  refine Aw.iload rfl d_Drf_cut_46 ?_
  obtain ⟨o46, h⟩ := h
  obtain ⟨o47, o48, h⟩ := h
  obtain ⟨o49, h⟩ := h
  refine Aw.iast o46 o47 o48 o49 d_Drf_cut_48 ?_
  refine Aw.aload rfl d_Drf_cut_49 ?_
  obtain ⟨b50, e51, h⟩ := h
  refine Aw.der0 e51 ?_
  obtain ⟨o52, h⟩ := h
  obtain ⟨b53, e54, h⟩ := h
  refine Aw.getRs (f := 128) 2 0 fl_Drf_114 (by decide) (by decide) rfl rfl o52 e54 d_Drf_cut_51 ?_
  refine Aw.iconst d_Drf_cut_54 ?_
  refine Aw.iload rfl d_Drf_cut_55 ?_
  obtain ⟨o55, h⟩ := h
  obtain ⟨o56, o57, h⟩ := h
  obtain ⟨o58, h⟩ := h
  refine Aw.iast o55 o56 o57 o58 d_Drf_cut_57 ?_
  refine Aw.aload rfl d_Drf_cut_58 ?_
  obtain ⟨b59, e60, h⟩ := h
  refine Aw.der0 e60 ?_
  obtain ⟨o61, h⟩ := h
  obtain ⟨b62, e63, h⟩ := h
  refine Aw.getRs (f := 129) 2 1 fl_Drf_118 (by decide) (by decide) rfl rfl o61 e63 d_Drf_cut_60 ?_
  refine Aw.iconst d_Drf_cut_63 ?_
  refine Aw.iload rfl d_Drf_cut_64 ?_
  obtain ⟨o64, h⟩ := h
  obtain ⟨o65, o66, h⟩ := h
  obtain ⟨o67, h⟩ := h
  refine Aw.iast o64 o65 o66 o67 d_Drf_cut_66 ?_
  refine Aw.aload rfl d_Drf_cut_67 ?_
  refine Aw.aload_n rfl d_Drf_cut_69 ?_
  obtain ⟨b68, e69, h⟩ := h
  refine Aw.getRs (f := 192) 3 0 fl_Drf_12 (by decide) (by decide) rfl rfl o1 e69 d_Drf_cut_70 ?_
  exact h
theorem b_Drf_cut_76 {Ω : Om} {R : Room} {F : QF} {k n : Nat} {σ : Sto} {a0 : Nat} {v1 : Int} {v2 : Int} {v3 : Int} {v4 : Int} {v5 : Int} {v6 : Int} {a7 : Nat} {s0 : Nat} {s1 : Int} (h : sK σ s0 = 3 ∧ Q32 s1 ∧ sK σ a7 = 3 ∧ Aw Ω M_Drf_cut R F k n 87 [xr (some a0), xi v1, xi v2, xi v3, xi v4, xi v5, xi v6, xr (some a7)] [xr (some a7)] (uI (uI σ 130 s0 s1) 131 a7 0)) : Aw Ω M_Drf_cut R F k n 76 [xr (some a0), xi v1, xi v2, xi v3, xi v4, xi v5, xi v6, xr (some a7)] [xi s1, xr (some s0)] σ := by
  obtain ⟨o1, h⟩ := h
  obtain ⟨o2, h⟩ := h
  refine Aw.putI (f := 130) 2 2 fl_Drf_121 (by decide) (by decide) rfl rfl o1 rfl o2 (Or.inl rfl) d_Drf_cut_76 ?_
  refine Aw.aload rfl d_Drf_cut_79 ?_
  refine Aw.iconst d_Drf_cut_81 ?_
  obtain ⟨o3, h⟩ := h
  refine Aw.putI (f := 131) 2 3 fl_Drf_124 (by decide) (by decide) rfl rfl o3 rfl ⟨by decide, by decide⟩ (Or.inr ⟨rfl, by decide⟩) d_Drf_cut_82 ?_
  refine Aw.aload rfl d_Drf_cut_85 ?_
  exact h
theorem c_Drf_cut_73 {Ω : Om} {R R' : Room} {F : QF} {k n : Nat} {L st : List PV} {σ : Sto} {QX' : String → Sto → Prop} {Q : Int → Sto → Prop} {a : Nat} (hc : MC Ω M_Txt_size R' (RI Q) QX' σ [xr (some a)]) (hk : sK σ a = 10) (hr1 : R'.frames + 1 ≤ R.frames) (hr2 : 8 + (1 + 11) + R'.locals ≤ R.locals) (hb1 : k + R'.cells ≤ R.cells) (hb2 : n + R'.slots ≤ R.slots) (hst : (st.map catP).sum ≤ 8) (kk : ∀ x σ', Q x σ' → Aw Ω M_Drf_cut R F (k + R'.cells) (n + R'.slots) 76 L (xi x :: st) σ') (kx : ∀ E σ', QX' E σ' → Ax Ω M_Drf_cut R F (k + R'.cells) (n + R'.slots) 73 L st σ' E) : Aw Ω M_Drf_cut R F k n 73 L (xr (some a) :: st) σ :=
  Aw.callV (As := []) (stk := xr (some a) :: st) (nn := 0) 9 M_Txt_size hc ok_Txt_size rfl (by decide) rfl hk ml_Drf_88 im_Txt_size se_Txt_size ⟨hr1, hr2⟩ rfl ⟨hb1, hb2⟩ hst rfl d_Drf_cut_73 (fun r σ' h => by obtain ⟨x, rfl, h⟩ := h; exact kk x σ' h) kx
theorem r_Drf_cut_87 {Ω : Om} {R : Room} {k n : Nat} {L : List PV} {σ : Sto} {QR : Option PV → Sto → Prop} {QX : String → Sto → Prop} {x : Option Nat} (h : QR (some (xr x)) σ) (h1 : k ≤ R.cells) (h2 : n ≤ R.slots) : Aw Ω M_Drf_cut R (MF Ω R QR QX) k n 87 L [xr x] σ := Aw.aret rfl (by first | exact Or.inl ⟨_, rfl⟩ | exact Or.inr ⟨_, rfl⟩) h h1 h2 d_Drf_cut_87
theorem e_Drf_hasEdits {Ω : Om} {R : Room} {QR : Option PV → Sto → Prop} {QX : String → Sto → Prop} {σ : Sto} {a0 : Nat} (h : Aw Ω M_Drf_hasEdits R (MF Ω R QR QX) 0 0 0 [xr (some a0)] [] σ) : MC Ω M_Drf_hasEdits R QR QX σ [xr (some a0)] := MC.body (by decide +kernel) rfl (Nat.le_of_ble_eq_true rfl) rfl h
theorem b_Drf_hasEdits_0 {Ω : Om} {R : Room} {F : QF} {k n : Nat} {σ : Sto} {a0 : Nat} (h : sK σ a0 = 4 ∧ (∃ b2 : Nat, fR σ 193 a0 = some b2 ∧ Aw Ω M_Drf_hasEdits R F k n 4 [xr (some a0)] [xr (some b2)] σ)) : Aw Ω M_Drf_hasEdits R F k n 0 [xr (some a0)] [] σ := by
  refine Aw.aload_n rfl d_Drf_hasEdits_0 ?_
  obtain ⟨o1, h⟩ := h
  obtain ⟨b2, e3, h⟩ := h
  refine Aw.getRs (f := 193) 3 1 fl_Drf_21 (by decide) (by decide) rfl rfl o1 e3 d_Drf_hasEdits_1 ?_
  exact h
theorem b_Drf_hasEdits_7 {Ω : Om} {R : Room} {F : QF} {k n : Nat} {σ : Sto} {a0 : Nat} {s0 : Int} (h : Q32 s0 ∧ ((s0 ≤ (0 : Int) → Aw Ω M_Drf_hasEdits R F k n 15 [xr (some a0)] [xi 0] σ) ∧ (¬ s0 ≤ (0 : Int) → Aw Ω M_Drf_hasEdits R F k n 15 [xr (some a0)] [xi 1] σ))) : Aw Ω M_Drf_hasEdits R F k n 7 [xr (some a0)] [xi s0] σ := by
  obtain ⟨o1, h⟩ := h
  obtain ⟨ht, hf⟩ := h
  refine Aw.if_le (tgt := 14) o1 (by decide) d_Drf_hasEdits_7 (fun c2 => ?_) (fun c2 => ?_)
  · have h := ht c2
    refine Aw.iconst d_Drf_hasEdits_14 ?_
    exact h
  · have h := hf c2
    refine Aw.iconst d_Drf_hasEdits_10 ?_
    refine Aw.goto (tgt := 15) (by decide) d_Drf_hasEdits_11 ?_
    exact h
theorem c_Drf_hasEdits_4 {Ω : Om} {R R' : Room} {F : QF} {k n : Nat} {L st : List PV} {σ : Sto} {QX' : String → Sto → Prop} {Q : Int → Sto → Prop} {a : Nat} (hc : MC Ω M_Lst_size R' (RI Q) QX' σ [xr (some a)]) (hk : sK σ a = 14) (hr1 : R'.frames + 1 ≤ R.frames) (hr2 : 8 + (1 + 11) + R'.locals ≤ R.locals) (hb1 : k + R'.cells ≤ R.cells) (hb2 : n + R'.slots ≤ R.slots) (hst : (st.map catP).sum ≤ 8) (kk : ∀ x σ', Q x σ' → Aw Ω M_Drf_hasEdits R F (k + R'.cells) (n + R'.slots) 7 L (xi x :: st) σ') (kx : ∀ E σ', QX' E σ' → Ax Ω M_Drf_hasEdits R F (k + R'.cells) (n + R'.slots) 4 L st σ' E) : Aw Ω M_Drf_hasEdits R F k n 4 L (xr (some a) :: st) σ :=
  Aw.callV (As := []) (stk := xr (some a) :: st) (nn := 0) 13 M_Lst_size hc ok_Lst_size rfl (by decide) rfl hk ml_Drf_211 im_Lst_size se_Lst_size ⟨hr1, hr2⟩ rfl ⟨hb1, hb2⟩ hst rfl d_Drf_hasEdits_4 (fun r σ' h => by obtain ⟨x, rfl, h⟩ := h; exact kk x σ' h) kx
theorem r_Drf_hasEdits_15 {Ω : Om} {R : Room} {k n : Nat} {L : List PV} {σ : Sto} {QR : Option PV → Sto → Prop} {QX : String → Sto → Prop} {x : Int} (hx : x = 0 ∨ x = 1) (h : QR (some (xi x)) σ) (h1 : k ≤ R.cells) (h2 : n ≤ R.slots) : Aw Ω M_Drf_hasEdits R (MF Ω R QR QX) k n 15 L [xi x] σ := Aw.zret rfl hx h h1 h2 d_Drf_hasEdits_15
theorem e_Drf_init {Ω : Om} {R : Room} {QR : Option PV → Sto → Prop} {QX : String → Sto → Prop} {σ : Sto} {a0 : Nat} (h : Aw Ω M_Drf_init R (MF Ω R QR QX) 0 0 0 [xr (some a0), xu] [] σ) : MC Ω M_Drf_init R QR QX σ [xr (some a0)] := MC.body (by decide +kernel) rfl (Nat.le_of_ble_eq_true rfl) rfl h
theorem b_Drf_init_0 {Ω : Om} {R : Room} {F : QF} {k n : Nat} {σ : Sto} {a0 : Nat} (h : 1 ≤ R.frames ∧ ([].map catP).sum + 12 ≤ R.locals ∧ k + 1 ≤ R.cells ∧ n + 3 ≤ R.slots ∧ (∀ σ5 : Sto, σ5 = (nO σ 10 0) → Aw Ω M_Drf_init R F (k + 1) (n + 3) 9 [xr (some a0), xu] [xr (some (sN σ)), xr (some (sN σ)), xr (some a0)] σ5)) : Aw Ω M_Drf_init R F k n 0 [xr (some a0), xu] [] σ := by
  refine Aw.aload_n rfl d_Drf_init_0 ?_
  obtain ⟨o1, o2, h⟩ := h
  refine Aw.objInit ml_Drf_3 oi_1 oi_2 o1 o2 d_Drf_init_1 ?_
  refine Aw.aload_n rfl d_Drf_init_4 ?_
  obtain ⟨o3, o4, h⟩ := h
  refine Aw.new 9 (by decide) cl_Drf_9 ins_9 ini_9 o3 o4 d_Drf_init_5 ?_
  obtain ⟨σ5, hσ5⟩ : ∃ z, z = (nO σ 10 0) := ⟨_, rfl⟩
  refine Aw.toS (σ' := σ5) hσ5 ?_
  have h := h σ5 hσ5
  refine Aw.dup rfl d_Drf_init_8 ?_
  exact h
theorem b_Drf_init_12 {Ω : Om} {R : Room} {F : QF} {k n : Nat} {σ : Sto} {a0 : Nat} {s0 : Nat} {s1 : Nat} (h : sK σ s0 = 4 ∧ k + 1 ≤ R.cells ∧ n + 3 ≤ R.slots ∧ (∀ σ4 : Sto, σ4 = (nO (uR σ 192 s0 (some s1)) 14 0) → Aw Ω M_Drf_init R F (k + 1) (n + 3) 20 [xr (some a0), xu] [xr (some (sN σ)), xr (some (sN σ)), xr (some a0)] σ4)) : Aw Ω M_Drf_init R F k n 12 [xr (some a0), xu] [xr (some s1), xr (some s0)] σ := by
  obtain ⟨o1, h⟩ := h
  refine Aw.putRF (f := 192) 3 0 fm_Drf_12 (by decide) (by decide) rfl rfl o1 rfl rfl rfl rfl d_Drf_init_12 ?_
  refine Aw.aload_n rfl d_Drf_init_15 ?_
  obtain ⟨o2, o3, h⟩ := h
  refine Aw.new 13 (by decide) cl_Drf_18 ins_13 ini_13 o2 o3 d_Drf_init_16 ?_
  obtain ⟨σ4, hσ4⟩ : ∃ z, z = (nO (uR σ 192 s0 (some s1)) 14 0) := ⟨_, rfl⟩
  refine Aw.toS (σ' := σ4) hσ4 ?_
  have h := h σ4 hσ4
  refine Aw.dup rfl d_Drf_init_19 ?_
  exact h
theorem b_Drf_init_23 {Ω : Om} {R : Room} {F : QF} {k n : Nat} {σ : Sto} {a0 : Nat} {s0 : Nat} {s1 : Nat} (h : sK σ s0 = 4 ∧ k + 1 ≤ R.cells ∧ n + 21 ≤ R.slots ∧ (∀ σ6 : Sto, σ6 = (nO (uR σ 193 s0 (some s1)) 54 21) → sK σ6 a0 = 4 ∧ k + 1 + 1 ≤ R.cells ∧ n + 21 + 9 ≤ R.slots ∧ (∀ σ10 : Sto, σ10 = (nO (uR σ6 194 a0 (some (sN σ))) 2 0) → Aw Ω M_Drf_init R F (k + 1 + 1) (n + 21 + 9) 40 [xr (some a0), xu] [xr (some (sN σ6)), xr (some (sN σ6)), xr (some a0)] σ10))) : Aw Ω M_Drf_init R F k n 23 [xr (some a0), xu] [xr (some s1), xr (some s0)] σ := by
  obtain ⟨o1, h⟩ := h
  refine Aw.putRF (f := 193) 3 1 fm_Drf_21 (by decide) (by decide) rfl rfl o1 rfl rfl rfl rfl d_Drf_init_23 ?_
  refine Aw.aload_n rfl d_Drf_init_26 ?_
  refine Aw.bipush (by decide) d_Drf_init_27 ?_
  obtain ⟨o4, o5, h⟩ := h
  refine Aw.anew 4 (by decide) (by decide) cl_Drf_25 aov_4 (by decide) (by decide) o4 o5 d_Drf_init_29 ?_
  obtain ⟨σ6, hσ6⟩ : ∃ z, z = (nO (uR σ 193 s0 (some s1)) 54 21) := ⟨_, rfl⟩
  refine Aw.toS (σ' := σ6) hσ6 ?_
  have h := h σ6 hσ6
  obtain ⟨o7, h⟩ := h
  refine Aw.putRF (f := 194) 3 2 fm_Drf_27 (by decide) (by decide) rfl rfl o7 rfl rfl rfl rfl d_Drf_init_32 ?_
  refine Aw.aload_n rfl d_Drf_init_35 ?_
  obtain ⟨o8, o9, h⟩ := h
  refine Aw.new 1 (by decide) cl_Drf_31 ins_1 ini_1 o8 o9 d_Drf_init_36 ?_
  obtain ⟨σ10, hσ10⟩ : ∃ z, z = (nO (uR σ6 194 a0 (some (sN σ))) 2 0) := ⟨_, rfl⟩
  refine Aw.toS (σ' := σ10) hσ10 ?_
  have h := h σ10 hσ10
  refine Aw.dup rfl d_Drf_init_39 ?_
  exact h
theorem b_Drf_init_43 {Ω : Om} {R : Room} {F : QF} {k n : Nat} {σ : Sto} {a0 : Nat} {s0 : Nat} {s1 : Nat} (h : sK σ s0 = 4 ∧ k + 1 ≤ R.cells ∧ n + 9 ≤ R.slots ∧ (∀ σ4 : Sto, σ4 = (nO (uR σ 195 s0 (some s1)) 2 0) → Aw Ω M_Drf_init R F (k + 1) (n + 9) 51 [xr (some a0), xu] [xr (some (sN σ)), xr (some (sN σ)), xr (some a0)] σ4)) : Aw Ω M_Drf_init R F k n 43 [xr (some a0), xu] [xr (some s1), xr (some s0)] σ := by
  obtain ⟨o1, h⟩ := h
  refine Aw.putRF (f := 195) 3 3 fm_Drf_34 (by decide) (by decide) rfl rfl o1 rfl rfl rfl rfl d_Drf_init_43 ?_
  refine Aw.aload_n rfl d_Drf_init_46 ?_
  obtain ⟨o2, o3, h⟩ := h
  refine Aw.new 1 (by decide) cl_Drf_31 ins_1 ini_1 o2 o3 d_Drf_init_47 ?_
  obtain ⟨σ4, hσ4⟩ : ∃ z, z = (nO (uR σ 195 s0 (some s1)) 2 0) := ⟨_, rfl⟩
  refine Aw.toS (σ' := σ4) hσ4 ?_
  have h := h σ4 hσ4
  refine Aw.dup rfl d_Drf_init_50 ?_
  exact h
theorem b_Drf_init_54 {Ω : Om} {R : Room} {F : QF} {k n : Nat} {σ : Sto} {a0 : Nat} {s0 : Nat} {s1 : Nat} (h : sK σ s0 = 4 ∧ k + 1 ≤ R.cells ∧ n + 3 ≤ R.slots ∧ (∀ σ4 : Sto, σ4 = (nO (uR σ 196 s0 (some s1)) 10 0) → Aw Ω M_Drf_init R F (k + 1) (n + 3) 62 [xr (some a0), xu] [xr (some (sN σ)), xr (some (sN σ)), xr (some a0)] σ4)) : Aw Ω M_Drf_init R F k n 54 [xr (some a0), xu] [xr (some s1), xr (some s0)] σ := by
  obtain ⟨o1, h⟩ := h
  refine Aw.putRF (f := 196) 3 4 fm_Drf_38 (by decide) (by decide) rfl rfl o1 rfl rfl rfl rfl d_Drf_init_54 ?_
  refine Aw.aload_n rfl d_Drf_init_57 ?_
  obtain ⟨o2, o3, h⟩ := h
  refine Aw.new 9 (by decide) cl_Drf_9 ins_9 ini_9 o2 o3 d_Drf_init_58 ?_
  obtain ⟨σ4, hσ4⟩ : ∃ z, z = (nO (uR σ 196 s0 (some s1)) 10 0) := ⟨_, rfl⟩
  refine Aw.toS (σ' := σ4) hσ4 ?_
  have h := h σ4 hσ4
  refine Aw.dup rfl d_Drf_init_61 ?_
  exact h
theorem b_Drf_init_65 {Ω : Om} {R : Room} {F : QF} {k n : Nat} {σ : Sto} {a0 : Nat} {s0 : Nat} {s1 : Nat} (h : sK σ s0 = 4 ∧ sK σ a0 = 4 ∧ (∃ b3 : Nat, fR (uR σ 197 s0 (some s1)) 197 a0 = some b3 ∧ (∃ b5 : Nat, fR (uR (uR σ 197 s0 (some s1)) 198 a0 (some b3)) 197 a0 = some b5 ∧ (∃ b7 : Nat, fR (uR (uR (uR σ 197 s0 (some s1)) 198 a0 (some b3)) 199 a0 (some b5)) 197 a0 = some b7 ∧ Aw Ω M_Drf_init R F k n 119 [xr (some a0), xi 0] [] (uI (uI (uI (uI (uI (uR (uR (uR (uR σ 197 s0 (some s1)) 198 a0 (some b3)) 199 a0 (some b5)) 200 a0 (some b7)) 201 a0 0) 202 a0 0) 203 a0 (-1)) 204 a0 (-1)) 205 a0 (-1)))))) : Aw Ω M_Drf_init R F k n 65 [xr (some a0), xu] [xr (some s1), xr (some s0)] σ := by
  obtain ⟨o1, h⟩ := h
  refine Aw.putRF (f := 197) 3 5 fm_Drf_41 (by decide) (by decide) rfl rfl o1 rfl rfl rfl rfl d_Drf_init_65 ?_
  refine Aw.aload_n rfl d_Drf_init_68 ?_
  refine Aw.aload_n rfl d_Drf_init_69 ?_
  obtain ⟨o2, h⟩ := h
  obtain ⟨b3, e4, h⟩ := h
  refine Aw.getRs (f := 197) 3 5 fl_Drf_41 (by decide) (by decide) rfl rfl o2 e4 d_Drf_init_70 ?_
  refine Aw.putR (f := 198) 3 6 fl_Drf_44 (by decide) (by decide) rfl rfl o2 rfl rfl d_Drf_init_73 ?_
  refine Aw.aload_n rfl d_Drf_init_76 ?_
  refine Aw.aload_n rfl d_Drf_init_77 ?_
  obtain ⟨b5, e6, h⟩ := h
  refine Aw.getRs (f := 197) 3 5 fl_Drf_41 (by decide) (by decide) rfl rfl o2 e6 d_Drf_init_78 ?_
  refine Aw.putR (f := 199) 3 7 fl_Drf_47 (by decide) (by decide) rfl rfl o2 rfl rfl d_Drf_init_81 ?_
  refine Aw.aload_n rfl d_Drf_init_84 ?_
  refine Aw.aload_n rfl d_Drf_init_85 ?_
  obtain ⟨b7, e8, h⟩ := h
  refine Aw.getRs (f := 197) 3 5 fl_Drf_41 (by decide) (by decide) rfl rfl o2 e8 d_Drf_init_86 ?_
  refine Aw.putR (f := 200) 3 8 fl_Drf_50 (by decide) (by decide) rfl rfl o2 rfl rfl d_Drf_init_89 ?_
  refine Aw.aload_n rfl d_Drf_init_92 ?_
  refine Aw.iconst d_Drf_init_93 ?_
  refine Aw.putI (f := 201) 3 9 fl_Drf_53 (by decide) (by decide) rfl rfl o2 rfl ⟨by decide, by decide⟩ (Or.inl rfl) d_Drf_init_94 ?_
  refine Aw.aload_n rfl d_Drf_init_97 ?_
  refine Aw.iconst d_Drf_init_98 ?_
  refine Aw.putI (f := 202) 3 10 fl_Drf_57 (by decide) (by decide) rfl rfl o2 rfl ⟨by decide, by decide⟩ (Or.inl rfl) d_Drf_init_99 ?_
  refine Aw.aload_n rfl d_Drf_init_102 ?_
  refine Aw.iconst d_Drf_init_103 ?_
  refine Aw.putI (f := 203) 3 11 fl_Drf_60 (by decide) (by decide) rfl rfl o2 rfl ⟨by decide, by decide⟩ (Or.inl rfl) d_Drf_init_104 ?_
  refine Aw.aload_n rfl d_Drf_init_107 ?_
  refine Aw.iconst d_Drf_init_108 ?_
  refine Aw.putI (f := 204) 3 12 fl_Drf_63 (by decide) (by decide) rfl rfl o2 rfl ⟨by decide, by decide⟩ (Or.inl rfl) d_Drf_init_109 ?_
  refine Aw.aload_n rfl d_Drf_init_112 ?_
  refine Aw.iconst d_Drf_init_113 ?_
  refine Aw.putI (f := 205) 3 13 fl_Drf_66 (by decide) (by decide) rfl rfl o2 rfl ⟨by decide, by decide⟩ (Or.inl rfl) d_Drf_init_114 ?_
  refine Aw.iconst d_Drf_init_117 ?_
  refine Aw.istore_n (by decide) d_Drf_init_118 ?_
  refine Aw.toL (L' := [xr (some a0), xi 0]) rfl ?_
  exact h
theorem b_Drf_init_119 {Ω : Om} {R : Room} {F : QF} {k n : Nat} {σ : Sto} {a0 : Nat} {v1 : Int} (h : Q32 v1 ∧ (((21 : Int) ≤ v1 → Aw Ω M_Drf_init R F k n 144 [xr (some a0), xi v1] [] σ) ∧ (¬ (21 : Int) ≤ v1 → sK σ a0 = 4 ∧ (∃ b3 : Nat, fR σ 194 a0 = some b3 ∧ k + 1 ≤ R.cells ∧ n + 4 ≤ R.slots ∧ (∀ σ7 : Sto, σ7 = (nO σ 3 0) → Aw Ω M_Drf_init R F (k + 1) (n + 4) 134 [xr (some a0), xi v1] [xr (some (sN σ)), xr (some (sN σ)), xi v1, xr (some b3)] σ7))))) : Aw Ω M_Drf_init R F k n 119 [xr (some a0), xi v1] [] σ := by
  refine Aw.iload_n rfl d_Drf_init_119 ?_
  refine Aw.bipush (by decide) d_Drf_init_120 ?_
  obtain ⟨o1, h⟩ := h
  obtain ⟨ht, hf⟩ := h
  refine Aw.icmp_ge (tgt := 144) o1 ⟨by decide, by decide⟩ (by decide) d_Drf_init_122 (fun c8 => ?_) (fun c8 => ?_)
  · have h := ht c8
    exact h
  · have h := hf c8
    refine Aw.aload_n rfl d_Drf_init_125 ?_
    obtain ⟨o2, h⟩ := h
    obtain ⟨b3, e4, h⟩ := h
    refine Aw.getRs (f := 194) 3 2 fl_Drf_27 (by decide) (by decide) rfl rfl o2 e4 d_Drf_init_126 ?_
    refine Aw.iload_n rfl d_Drf_init_129 ?_
    obtain ⟨o5, o6, h⟩ := h
    refine Aw.new 2 (by decide) cl_Drf_25 ins_2 ini_2 o5 o6 d_Drf_init_130 ?_
    obtain ⟨σ7, hσ7⟩ : ∃ z, z = (nO σ 3 0) := ⟨_, rfl⟩
    refine Aw.toS (σ' := σ7) hσ7 ?_
    have h := h σ7 hσ7
    refine Aw.dup rfl d_Drf_init_133 ?_
    exact h
theorem b_Drf_init_137 {Ω : Om} {R : Room} {F : QF} {k n : Nat} {σ : Sto} {a0 : Nat} {v1 : Int} {s0 : Nat} {s1 : Int} {s2 : Nat} (h : sK σ s0 = 54 ∧ 0 ≤ s1 ∧ s1 < sZ σ s0 ∧ sK σ s2 = 3 ∧ Aw Ω M_Drf_init R F k n 119 [xr (some a0), xi (v1 + 1)] [] (vR σ s0 (s1).toNat (some s2))) : Aw Ω M_Drf_init R F k n 137 [xr (some a0), xi v1] [xr (some s2), xi s1, xr (some s0)] σ := by
  obtain ⟨o1, h⟩ := h
  obtain ⟨o2, o3, h⟩ := h
  obtain ⟨o4, h⟩ := h
  refine Aw.aast 4 2 (by decide) (by decide) (by decide) (Or.inl rfl) o1 o4 o2 o3 d_Drf_init_137 ?_
  refine Aw.iinc rfl d_Drf_init_138 ?_
  refine Aw.toL (L' := [xr (some a0), xi (v1 + 1)]) rfl ?_
  refine Aw.goto (tgt := 119) (by decide) d_Drf_init_141 ?_
  exact h
theorem c_Drf_init_9 {Ω : Om} {R R' : Room} {F : QF} {k n : Nat} {L st : List PV} {σ : Sto} {QX' : String → Sto → Prop} {Q : Sto → Prop} {a : Nat} (hc : MC Ω M_Txt_init R' (RV Q) QX' σ [xr (some a)]) (hr1 : R'.frames + 1 ≤ R.frames) (hr2 : 8 + (1 + 11) + R'.locals ≤ R.locals) (hb1 : k + R'.cells ≤ R.cells) (hb2 : n + R'.slots ≤ R.slots) (hst : (st.map catP).sum ≤ 8) (kk : ∀ σ', Q σ' → Aw Ω M_Drf_init R F (k + R'.cells) (n + R'.slots) 12 L st σ') (kx : ∀ E σ', QX' E σ' → Ax Ω M_Drf_init R F (k + R'.cells) (n + R'.slots) 9 L st σ' E) : Aw Ω M_Drf_init R F k n 9 L (xr (some a) :: st) σ :=
  Aw.callI (As := []) (stk := xr (some a) :: st) (nn := 0) M_Txt_init hc ok_Txt_init rfl rfl rfl im_Txt_init (Or.inr ⟨_, ml_Drf_11⟩) ⟨hr1, hr2⟩ rfl ⟨hb1, hb2⟩ hst rfl d_Drf_init_9 (fun r σ' h => by obtain ⟨rfl, h⟩ := h; exact kk σ' h) kx
theorem c_Drf_init_20 {Ω : Om} {R R' : Room} {F : QF} {k n : Nat} {L st : List PV} {σ : Sto} {QX' : String → Sto → Prop} {Q : Sto → Prop} {a : Nat} (hc : MC Ω M_Lst_init R' (RV Q) QX' σ [xr (some a)]) (hr1 : R'.frames + 1 ≤ R.frames) (hr2 : 8 + (1 + 11) + R'.locals ≤ R.locals) (hb1 : k + R'.cells ≤ R.cells) (hb2 : n + R'.slots ≤ R.slots) (hst : (st.map catP).sum ≤ 8) (kk : ∀ σ', Q σ' → Aw Ω M_Drf_init R F (k + R'.cells) (n + R'.slots) 23 L st σ') (kx : ∀ E σ', QX' E σ' → Ax Ω M_Drf_init R F (k + R'.cells) (n + R'.slots) 20 L st σ' E) : Aw Ω M_Drf_init R F k n 20 L (xr (some a) :: st) σ :=
  Aw.callI (As := []) (stk := xr (some a) :: st) (nn := 0) M_Lst_init hc ok_Lst_init rfl rfl rfl im_Lst_init (Or.inl ml_Drf_20) ⟨hr1, hr2⟩ rfl ⟨hb1, hb2⟩ hst rfl d_Drf_init_20 (fun r σ' h => by obtain ⟨rfl, h⟩ := h; exact kk σ' h) kx
theorem c_Drf_init_40 {Ω : Om} {R R' : Room} {F : QF} {k n : Nat} {L st : List PV} {σ : Sto} {QX' : String → Sto → Prop} {Q : Sto → Prop} {a : Nat} (hc : MC Ω M_Cmp_init R' (RV Q) QX' σ [xr (some a)]) (hr1 : R'.frames + 1 ≤ R.frames) (hr2 : 8 + (1 + 11) + R'.locals ≤ R.locals) (hb1 : k + R'.cells ≤ R.cells) (hb2 : n + R'.slots ≤ R.slots) (hst : (st.map catP).sum ≤ 8) (kk : ∀ σ', Q σ' → Aw Ω M_Drf_init R F (k + R'.cells) (n + R'.slots) 43 L st σ') (kx : ∀ E σ', QX' E σ' → Ax Ω M_Drf_init R F (k + R'.cells) (n + R'.slots) 40 L st σ' E) : Aw Ω M_Drf_init R F k n 40 L (xr (some a) :: st) σ :=
  Aw.callI (As := []) (stk := xr (some a) :: st) (nn := 0) M_Cmp_init hc ok_Cmp_init rfl rfl rfl im_Cmp_init (Or.inr ⟨_, ml_Drf_33⟩) ⟨hr1, hr2⟩ rfl ⟨hb1, hb2⟩ hst rfl d_Drf_init_40 (fun r σ' h => by obtain ⟨rfl, h⟩ := h; exact kk σ' h) kx
theorem c_Drf_init_51 {Ω : Om} {R R' : Room} {F : QF} {k n : Nat} {L st : List PV} {σ : Sto} {QX' : String → Sto → Prop} {Q : Sto → Prop} {a : Nat} (hc : MC Ω M_Cmp_init R' (RV Q) QX' σ [xr (some a)]) (hr1 : R'.frames + 1 ≤ R.frames) (hr2 : 8 + (1 + 11) + R'.locals ≤ R.locals) (hb1 : k + R'.cells ≤ R.cells) (hb2 : n + R'.slots ≤ R.slots) (hst : (st.map catP).sum ≤ 8) (kk : ∀ σ', Q σ' → Aw Ω M_Drf_init R F (k + R'.cells) (n + R'.slots) 54 L st σ') (kx : ∀ E σ', QX' E σ' → Ax Ω M_Drf_init R F (k + R'.cells) (n + R'.slots) 51 L st σ' E) : Aw Ω M_Drf_init R F k n 51 L (xr (some a) :: st) σ :=
  Aw.callI (As := []) (stk := xr (some a) :: st) (nn := 0) M_Cmp_init hc ok_Cmp_init rfl rfl rfl im_Cmp_init (Or.inr ⟨_, ml_Drf_33⟩) ⟨hr1, hr2⟩ rfl ⟨hb1, hb2⟩ hst rfl d_Drf_init_51 (fun r σ' h => by obtain ⟨rfl, h⟩ := h; exact kk σ' h) kx
theorem c_Drf_init_62 {Ω : Om} {R R' : Room} {F : QF} {k n : Nat} {L st : List PV} {σ : Sto} {QX' : String → Sto → Prop} {Q : Sto → Prop} {a : Nat} (hc : MC Ω M_Txt_init R' (RV Q) QX' σ [xr (some a)]) (hr1 : R'.frames + 1 ≤ R.frames) (hr2 : 8 + (1 + 11) + R'.locals ≤ R.locals) (hb1 : k + R'.cells ≤ R.cells) (hb2 : n + R'.slots ≤ R.slots) (hst : (st.map catP).sum ≤ 8) (kk : ∀ σ', Q σ' → Aw Ω M_Drf_init R F (k + R'.cells) (n + R'.slots) 65 L st σ') (kx : ∀ E σ', QX' E σ' → Ax Ω M_Drf_init R F (k + R'.cells) (n + R'.slots) 62 L st σ' E) : Aw Ω M_Drf_init R F k n 62 L (xr (some a) :: st) σ :=
  Aw.callI (As := []) (stk := xr (some a) :: st) (nn := 0) M_Txt_init hc ok_Txt_init rfl rfl rfl im_Txt_init (Or.inr ⟨_, ml_Drf_11⟩) ⟨hr1, hr2⟩ rfl ⟨hb1, hb2⟩ hst rfl d_Drf_init_62 (fun r σ' h => by obtain ⟨rfl, h⟩ := h; exact kk σ' h) kx
theorem c_Drf_init_134 {Ω : Om} {R R' : Room} {F : QF} {k n : Nat} {L st : List PV} {σ : Sto} {QX' : String → Sto → Prop} {Q : Sto → Prop} {a : Nat} (hc : MC Ω M_Cnf_init R' (RV Q) QX' σ [xr (some a)]) (hr1 : R'.frames + 1 ≤ R.frames) (hr2 : 8 + (1 + 11) + R'.locals ≤ R.locals) (hb1 : k + R'.cells ≤ R.cells) (hb2 : n + R'.slots ≤ R.slots) (hst : (st.map catP).sum ≤ 8) (kk : ∀ σ', Q σ' → Aw Ω M_Drf_init R F (k + R'.cells) (n + R'.slots) 137 L st σ') (kx : ∀ E σ', QX' E σ' → Ax Ω M_Drf_init R F (k + R'.cells) (n + R'.slots) 134 L st σ' E) : Aw Ω M_Drf_init R F k n 134 L (xr (some a) :: st) σ :=
  Aw.callI (As := []) (stk := xr (some a) :: st) (nn := 0) M_Cnf_init hc ok_Cnf_init rfl rfl rfl im_Cnf_init (Or.inr ⟨_, ml_Drf_69⟩) ⟨hr1, hr2⟩ rfl ⟨hb1, hb2⟩ hst rfl d_Drf_init_134 (fun r σ' h => by obtain ⟨rfl, h⟩ := h; exact kk σ' h) kx
theorem r_Drf_init_144 {Ω : Om} {R : Room} {k n : Nat} {L : List PV} {σ : Sto} {QR : Option PV → Sto → Prop} {QX : String → Sto → Prop} (h : QR none σ) (h1 : k ≤ R.cells) (h2 : n ≤ R.slots) : Aw Ω M_Drf_init R (MF Ω R QR QX) k n 144 L [] σ := Aw.vret rfl h h1 h2 d_Drf_init_144
theorem e_Drf_isAlike {Ω : Om} {R : Room} {QR : Option PV → Sto → Prop} {QX : String → Sto → Prop} {σ : Sto} {a0 : Nat} {a1 : Nat} {v2 : Int} {v3 : Int} (h : Aw Ω M_Drf_isAlike R (MF Ω R QR QX) 0 0 0 [xr (some a0), xr (some a1), xi v2, xi v3] [] σ) : MC Ω M_Drf_isAlike R QR QX σ [xr (some a0), xr (some a1), xi v2, xi v3] := MC.body (by decide +kernel) rfl (Nat.le_of_ble_eq_true rfl) rfl h
theorem b_Drf_isAlike_0 {Ω : Om} {R : Room} {F : QF} {k n : Nat} {σ : Sto} {a0 : Nat} {a1 : Nat} {v2 : Int} {v3 : Int} (h : Aw Ω M_Drf_isAlike R F k n 2 [xr (some a0), xr (some a1), xi v2, xi v3] [xi v2, xr (some a0)] σ) : Aw Ω M_Drf_isAlike R F k n 0 [xr (some a0), xr (some a1), xi v2, xi v3] [] σ := by
  refine Aw.aload_n rfl d_Drf_isAlike_0 ?_
  refine Aw.iload_n rfl d_Drf_isAlike_1 ?_
  exact h
theorem b_Drf_isAlike_5 {Ω : Om} {R : Room} {F : QF} {k n : Nat} {σ : Sto} {a0 : Nat} {a1 : Nat} {v2 : Int} {v3 : Int} {s0 : Nat} (h : sK σ a1 = 3 ∧ (∃ b2 : Nat, fR σ 128 a1 = some b2 ∧ sK σ b2 = 50 ∧ 0 ≤ v2 ∧ v2 < sZ σ b2 ∧ (Q32 (aI σ b2 (v2).toNat) → (∃ b8 : Nat, fR σ 129 a1 = some b8 ∧ sK σ b8 = 50 ∧ 0 ≤ v2 ∧ v2 < sZ σ b8 ∧ (Q32 (aI σ b8 (v2).toNat) → Aw Ω M_Drf_isAlike R F k n 19 [xr (some a0), xr (some a1), xi v2, xi v3] [xi v3, xr (some a0), xi (aI σ b8 (v2).toNat), xi (aI σ b2 (v2).toNat), xr (some s0)] σ))))) : Aw Ω M_Drf_isAlike R F k n 5 [xr (some a0), xr (some a1), xi v2, xi v3] [xr (some s0)] σ := by
  refine Aw.aload_n rfl d_Drf_isAlike_5 ?_
  obtain ⟨o1, h⟩ := h
  obtain ⟨b2, e3, h⟩ := h
  refine Aw.getRs (f := 128) 2 0 fl_Drf_114 (by decide) (by decide) rfl rfl o1 e3 d_Drf_isAlike_6 ?_
  refine Aw.iload_n rfl d_Drf_isAlike_9 ?_
  obtain ⟨o4, h⟩ := h
  obtain ⟨o5, o6, h⟩ := h
  refine Aw.iald o4 o5 o6 d_Drf_isAlike_10 (fun r7 => ?_)
  have h := h r7
  refine Aw.aload_n rfl d_Drf_isAlike_11 ?_
  obtain ⟨b8, e9, h⟩ := h
  refine Aw.getRs (f := 129) 2 1 fl_Drf_118 (by decide) (by decide) rfl rfl o1 e9 d_Drf_isAlike_12 ?_
  refine Aw.iload_n rfl d_Drf_isAlike_15 ?_
  obtain ⟨o10, h⟩ := h
  obtain ⟨o11, o12, h⟩ := h
  refine Aw.iald o10 o11 o12 d_Drf_isAlike_16 (fun r13 => ?_)
  have h := h r13
  refine Aw.aload_n rfl d_Drf_isAlike_17 ?_
  refine Aw.iload_n rfl d_Drf_isAlike_18 ?_
  exact h
theorem b_Drf_isAlike_22 {Ω : Om} {R : Room} {F : QF} {k n : Nat} {σ : Sto} {a0 : Nat} {a1 : Nat} {v2 : Int} {v3 : Int} {s0 : Nat} {s1 : Int} {s2 : Int} {s3 : Nat} (h : sK σ a1 = 3 ∧ (∃ b2 : Nat, fR σ 128 a1 = some b2 ∧ sK σ b2 = 50 ∧ 0 ≤ v3 ∧ v3 < sZ σ b2 ∧ (Q32 (aI σ b2 (v3).toNat) → (∃ b8 : Nat, fR σ 129 a1 = some b8 ∧ sK σ b8 = 50 ∧ 0 ≤ v3 ∧ v3 < sZ σ b8 ∧ (Q32 (aI σ b8 (v3).toNat) → Aw Ω M_Drf_isAlike R F k n 34 [xr (some a0), xr (some a1), xi v2, xi v3] [xi (aI σ b8 (v3).toNat), xi (aI σ b2 (v3).toNat), xr (some s3), xi s2, xi s1, xr (some s0)] σ))))) : Aw Ω M_Drf_isAlike R F k n 22 [xr (some a0), xr (some a1), xi v2, xi v3] [xr (some s3), xi s2, xi s1, xr (some s0)] σ := by
  refine Aw.aload_n rfl d_Drf_isAlike_22 ?_
  obtain ⟨o1, h⟩ := h
  obtain ⟨b2, e3, h⟩ := h
  refine Aw.getRs (f := 128) 2 0 fl_Drf_114 (by decide) (by decide) rfl rfl o1 e3 d_Drf_isAlike_23 ?_
  refine Aw.iload_n rfl d_Drf_isAlike_26 ?_
  obtain ⟨o4, h⟩ := h
  obtain ⟨o5, o6, h⟩ := h
  refine Aw.iald o4 o5 o6 d_Drf_isAlike_27 (fun r7 => ?_)
  have h := h r7
  refine Aw.aload_n rfl d_Drf_isAlike_28 ?_
  obtain ⟨b8, e9, h⟩ := h
  refine Aw.getRs (f := 129) 2 1 fl_Drf_118 (by decide) (by decide) rfl rfl o1 e9 d_Drf_isAlike_29 ?_
  refine Aw.iload_n rfl d_Drf_isAlike_32 ?_
  obtain ⟨o10, h⟩ := h
  obtain ⟨o11, o12, h⟩ := h
  refine Aw.iald o10 o11 o12 d_Drf_isAlike_33 (fun r13 => ?_)
  have h := h r13
  exact h
theorem c_Drf_isAlike_2 {Ω : Om} {R R' : Room} {F : QF} {k n : Nat} {L st : List PV} {σ : Sto} {QX' : String → Sto → Prop} {Q : Option Nat → Sto → Prop} {a : Nat} {x0 : Int} (hc : MC Ω M_Drf_sourceOf R' (RR Q) QX' σ [xr (some a), xi x0]) (hk : sK σ a = 4) (hr1 : R'.frames + 1 ≤ R.frames) (hr2 : 8 + (2 + 11) + R'.locals ≤ R.locals) (hb1 : k + R'.cells ≤ R.cells) (hb2 : n + R'.slots ≤ R.slots) (hst : (st.map catP).sum ≤ 8) (kk : ∀ x σ', Q x σ' → Aw Ω M_Drf_isAlike R F (k + R'.cells) (n + R'.slots) 5 L (xr x :: st) σ') (kx : ∀ E σ', QX' E σ' → Ax Ω M_Drf_isAlike R F (k + R'.cells) (n + R'.slots) 2 L st σ' E) : Aw Ω M_Drf_isAlike R F k n 2 L (xi x0 :: xr (some a) :: st) σ :=
  Aw.callV (As := [xi x0]) (stk := xi x0 :: xr (some a) :: st) (nn := 1) 3 M_Drf_sourceOf hc ok_Drf_sourceOf rfl (by decide) rfl hk ml_Drf_136 im_Drf_sourceOf se_Drf_sourceOf ⟨hr1, hr2⟩ rfl ⟨hb1, hb2⟩ hst rfl d_Drf_isAlike_2 (fun r σ' h => by obtain ⟨x, rfl, h⟩ := h; exact kk x σ' h) kx
theorem c_Drf_isAlike_19 {Ω : Om} {R R' : Room} {F : QF} {k n : Nat} {L st : List PV} {σ : Sto} {QX' : String → Sto → Prop} {Q : Option Nat → Sto → Prop} {a : Nat} {x0 : Int} (hc : MC Ω M_Drf_sourceOf R' (RR Q) QX' σ [xr (some a), xi x0]) (hk : sK σ a = 4) (hr1 : R'.frames + 1 ≤ R.frames) (hr2 : 8 + (2 + 11) + R'.locals ≤ R.locals) (hb1 : k + R'.cells ≤ R.cells) (hb2 : n + R'.slots ≤ R.slots) (hst : (st.map catP).sum ≤ 8) (kk : ∀ x σ', Q x σ' → Aw Ω M_Drf_isAlike R F (k + R'.cells) (n + R'.slots) 22 L (xr x :: st) σ') (kx : ∀ E σ', QX' E σ' → Ax Ω M_Drf_isAlike R F (k + R'.cells) (n + R'.slots) 19 L st σ' E) : Aw Ω M_Drf_isAlike R F k n 19 L (xi x0 :: xr (some a) :: st) σ :=
  Aw.callV (As := [xi x0]) (stk := xi x0 :: xr (some a) :: st) (nn := 1) 3 M_Drf_sourceOf hc ok_Drf_sourceOf rfl (by decide) rfl hk ml_Drf_136 im_Drf_sourceOf se_Drf_sourceOf ⟨hr1, hr2⟩ rfl ⟨hb1, hb2⟩ hst rfl d_Drf_isAlike_19 (fun r σ' h => by obtain ⟨x, rfl, h⟩ := h; exact kk x σ' h) kx
theorem c_Drf_isAlike_34 {Ω : Om} {R R' : Room} {F : QF} {k n : Nat} {L st : List PV} {σ : Sto} {QX' : String → Sto → Prop} {Q : Int → Sto → Prop} {a : Nat} {x0 : Int} {x1 : Int} {x2 : Option Nat} {x3 : Int} {x4 : Int} (hc : MC Ω M_Txt_isRowLike R' (RI Q) QX' σ [xr (some a), xi x0, xi x1, xr x2, xi x3, xi x4]) (hk : sK σ a = 10) (hr1 : R'.frames + 1 ≤ R.frames) (hr2 : 8 + (7 + 11) + R'.locals ≤ R.locals) (hb1 : k + R'.cells ≤ R.cells) (hb2 : n + R'.slots ≤ R.slots) (hst : (st.map catP).sum ≤ 8) (kk : ∀ x σ', Q x σ' → Aw Ω M_Drf_isAlike R F (k + R'.cells) (n + R'.slots) 37 L (xi x :: st) σ') (kx : ∀ E σ', QX' E σ' → Ax Ω M_Drf_isAlike R F (k + R'.cells) (n + R'.slots) 34 L st σ' E) : Aw Ω M_Drf_isAlike R F k n 34 L (xi x4 :: xi x3 :: xr x2 :: xi x1 :: xi x0 :: xr (some a) :: st) σ :=
  Aw.callV (As := [xi x0, xi x1, xr x2, xi x3, xi x4]) (stk := xi x4 :: xi x3 :: xr x2 :: xi x1 :: xi x0 :: xr (some a) :: st) (nn := 5) 9 M_Txt_isRowLike hc ok_Txt_isRowLike rfl (by decide) rfl hk ml_Drf_140 im_Txt_isRowLike se_Txt_isRowLike ⟨hr1, hr2⟩ rfl ⟨hb1, hb2⟩ hst rfl d_Drf_isAlike_34 (fun r σ' h => by obtain ⟨x, rfl, h⟩ := h; exact kk x σ' h) kx
theorem r_Drf_isAlike_37 {Ω : Om} {R : Room} {k n : Nat} {L : List PV} {σ : Sto} {QR : Option PV → Sto → Prop} {QX : String → Sto → Prop} {x : Int} (hx : x = 0 ∨ x = 1) (h : QR (some (xi x)) σ) (h1 : k ≤ R.cells) (h2 : n ≤ R.slots) : Aw Ω M_Drf_isAlike R (MF Ω R QR QX) k n 37 L [xi x] σ := Aw.zret rfl hx h h1 h2 d_Drf_isAlike_37
theorem e_Drf_isSettled {Ω : Om} {R : Room} {QR : Option PV → Sto → Prop} {QX : String → Sto → Prop} {σ : Sto} {a0 : Nat} {v1 : Int} (h : Aw Ω M_Drf_isSettled R (MF Ω R QR QX) 0 0 0 [xr (some a0), xi v1] [] σ) : MC Ω M_Drf_isSettled R QR QX σ [xr (some a0), xi v1] := MC.body (by decide +kernel) rfl (Nat.le_of_ble_eq_true rfl) rfl h
theorem b_Drf_isSettled_0 {Ω : Om} {R : Room} {F : QF} {k n : Nat} {σ : Sto} {a0 : Nat} {v1 : Int} (h : Q32 v1 ∧ ((v1 < (0 : Int) → Aw Ω M_Drf_isSettled R F k n 29 [xr (some a0), xi v1] [xi 1] σ) ∧ (¬ v1 < (0 : Int) → sK σ a0 = 4 ∧ (Q32 (fI σ 201 a0) → (((fI σ 201 a0) ≤ v1 → Aw Ω M_Drf_isSettled R F k n 29 [xr (some a0), xi v1] [xi 1] σ) ∧ (¬ (fI σ 201 a0) ≤ v1 → (∃ b4 : Nat, fR σ 194 a0 = some b4 ∧ sK σ b4 = 54 ∧ 0 ≤ v1 ∧ v1 < sZ σ b4 ∧ ∃ b9 : Nat, aR σ b4 (v1).toNat = some b9 ∧ sK σ b9 = 3 ∧ (Q32 (fI σ 131 b9) → (((fI σ 131 b9) = (0 : Int) → Aw Ω M_Drf_isSettled R F k n 29 [xr (some a0), xi v1] [xi 0] σ) ∧ (¬ (fI σ 131 b9) = (0 : Int) → Aw Ω M_Drf_isSettled R F k n 29 [xr (some a0), xi v1] [xi 1] σ)))))))))) : Aw Ω M_Drf_isSettled R F k n 0 [xr (some a0), xi v1] [] σ := by
  refine Aw.iload_n rfl d_Drf_isSettled_0 ?_
  obtain ⟨o1, h⟩ := h
  obtain ⟨ht, hf⟩ := h
  refine Aw.if_lt (tgt := 24) o1 (by decide) d_Drf_isSettled_1 (fun c15 => ?_) (fun c15 => ?_)
  · have h := ht c15
    refine Aw.iconst d_Drf_isSettled_24 ?_
    refine Aw.goto (tgt := 29) (by decide) d_Drf_isSettled_25 ?_
    exact h
  · have h := hf c15
    refine Aw.iload_n rfl d_Drf_isSettled_4 ?_
    refine Aw.aload_n rfl d_Drf_isSettled_5 ?_
    obtain ⟨o2, h⟩ := h
    refine Aw.getI (f := 201) 3 9 fl_Drf_53 (by decide) (by decide) rfl rfl o2 d_Drf_isSettled_6 (fun r3 => ?_)
    have h := h r3
    obtain ⟨ht, hf⟩ := h
    refine Aw.icmp_ge (tgt := 24) o1 r3 (by decide) d_Drf_isSettled_9 (fun c14 => ?_) (fun c14 => ?_)
    · have h := ht c14
      refine Aw.iconst d_Drf_isSettled_24 ?_
      refine Aw.goto (tgt := 29) (by decide) d_Drf_isSettled_25 ?_
      exact h
    · have h := hf c14
      refine Aw.aload_n rfl d_Drf_isSettled_12 ?_
      obtain ⟨b4, e5, h⟩ := h
      refine Aw.getRs (f := 194) 3 2 fl_Drf_27 (by decide) (by decide) rfl rfl o2 e5 d_Drf_isSettled_13 ?_
      refine Aw.iload_n rfl d_Drf_isSettled_16 ?_
      obtain ⟨o6, h⟩ := h
      obtain ⟨o7, o8, h⟩ := h
      refine Aw.aald 4 (by decide) (by decide) o6 o7 o8 d_Drf_isSettled_17 ?_
      obtain ⟨b9, e10, h⟩ := h
      refine Aw.der0 e10 ?_
      obtain ⟨o11, h⟩ := h
      refine Aw.getI (f := 131) 2 3 fl_Drf_124 (by decide) (by decide) rfl rfl o11 d_Drf_isSettled_18 (fun r12 => ?_)
      have h := h r12
      obtain ⟨ht, hf⟩ := h
      refine Aw.if_eq (tgt := 28) r12 (by decide) d_Drf_isSettled_21 (fun c13 => ?_) (fun c13 => ?_)
      · have h := ht c13
        refine Aw.iconst d_Drf_isSettled_28 ?_
        exact h
      · have h := hf c13
        refine Aw.iconst d_Drf_isSettled_24 ?_
        refine Aw.goto (tgt := 29) (by decide) d_Drf_isSettled_25 ?_
        exact h
theorem r_Drf_isSettled_29 {Ω : Om} {R : Room} {k n : Nat} {L : List PV} {σ : Sto} {QR : Option PV → Sto → Prop} {QX : String → Sto → Prop} {x : Int} (hx : x = 0 ∨ x = 1) (h : QR (some (xi x)) σ) (h1 : k ≤ R.cells) (h2 : n ≤ R.slots) : Aw Ω M_Drf_isSettled R (MF Ω R QR QX) k n 29 L [xi x] σ := Aw.zret rfl hx h h1 h2 d_Drf_isSettled_29
theorem e_Drf_linesPut {Ω : Om} {R : Room} {QR : Option PV → Sto → Prop} {QX : String → Sto → Prop} {σ : Sto} {a0 : Nat} {v1 : Int} {v2 : Int} (h : Aw Ω M_Drf_linesPut R (MF Ω R QR QX) 0 0 0 [xr (some a0), xi v1, xi v2, xu] [] σ) : MC Ω M_Drf_linesPut R QR QX σ [xr (some a0), xi v1, xi v2] := MC.body (by decide +kernel) rfl (Nat.le_of_ble_eq_true rfl) rfl h
theorem b_Drf_linesPut_0 {Ω : Om} {R : Room} {F : QF} {k n : Nat} {σ : Sto} {a0 : Nat} {v1 : Int} {v2 : Int} (h : Q32 v1 ∧ ((v1 < (0 : Int) → Aw Ω M_Drf_linesPut R F k n 13 [xr (some a0), xi v1, xi v2, xu] [xi 0] σ) ∧ (¬ v1 < (0 : Int) → sK σ a0 = 4 ∧ (Q32 (fI σ 201 a0) → ((v1 < (fI σ 201 a0) → (∃ b4 : Nat, fR σ 194 a0 = some b4 ∧ sK σ b4 = 54 ∧ 0 ≤ v1 ∧ v1 < sZ σ b4 ∧ Q32 v2 ∧ ((v2 = (3 : Int) → Aw Ω M_Drf_linesPut R F k n 33 [xr (some a0), xi v1, xi v2, xr (aR σ b4 (v1).toNat)] [xi 0, xr (aR σ b4 (v1).toNat)] σ) ∧ (¬ v2 = (3 : Int) → ((¬ v2 = (4 : Int) → Aw Ω M_Drf_linesPut R F k n 45 [xr (some a0), xi v1, xi v2, xr (aR σ b4 (v1).toNat)] [xi v2, xr (aR σ b4 (v1).toNat)] σ) ∧ (v2 = (4 : Int) → Aw Ω M_Drf_linesPut R F k n 33 [xr (some a0), xi v1, xi v2, xr (aR σ b4 (v1).toNat)] [xi 0, xr (aR σ b4 (v1).toNat)] σ)))))) ∧ (¬ v1 < (fI σ 201 a0) → Aw Ω M_Drf_linesPut R F k n 13 [xr (some a0), xi v1, xi v2, xu] [xi 0] σ)))))) : Aw Ω M_Drf_linesPut R F k n 0 [xr (some a0), xi v1, xi v2, xu] [] σ := by
  refine Aw.iload_n rfl d_Drf_linesPut_0 ?_
  obtain ⟨o1, h⟩ := h
  obtain ⟨ht, hf⟩ := h
  refine Aw.if_lt (tgt := 12) o1 (by decide) d_Drf_linesPut_1 (fun c13 => ?_) (fun c13 => ?_)
  · have h := ht c13
    refine Aw.iconst d_Drf_linesPut_12 ?_
    exact h
  · have h := hf c13
    refine Aw.iload_n rfl d_Drf_linesPut_4 ?_
    refine Aw.aload_n rfl d_Drf_linesPut_5 ?_
    obtain ⟨o2, h⟩ := h
    refine Aw.getI (f := 201) 3 9 fl_Drf_53 (by decide) (by decide) rfl rfl o2 d_Drf_linesPut_6 (fun r3 => ?_)
    have h := h r3
    obtain ⟨ht, hf⟩ := h
    refine Aw.icmp_lt (tgt := 14) o1 r3 (by decide) d_Drf_linesPut_9 (fun c12 => ?_) (fun c12 => ?_)
    · have h := ht c12
      refine Aw.aload_n rfl d_Drf_linesPut_14 ?_
      obtain ⟨b4, e5, h⟩ := h
      refine Aw.getRs (f := 194) 3 2 fl_Drf_27 (by decide) (by decide) rfl rfl o2 e5 d_Drf_linesPut_15 ?_
      refine Aw.iload_n rfl d_Drf_linesPut_18 ?_
      obtain ⟨o6, h⟩ := h
      obtain ⟨o7, o8, h⟩ := h
      refine Aw.aald 4 (by decide) (by decide) o6 o7 o8 d_Drf_linesPut_19 ?_
      refine Aw.astore_n (by decide) d_Drf_linesPut_20 ?_
      refine Aw.toL (L' := [xr (some a0), xi v1, xi v2, xr (aR σ b4 (v1).toNat)]) rfl ?_
      refine Aw.iload_n rfl d_Drf_linesPut_21 ?_
      refine Aw.iconst d_Drf_linesPut_22 ?_
      obtain ⟨o9, h⟩ := h
      obtain ⟨ht, hf⟩ := h
      refine Aw.icmp_eq (tgt := 31) o9 ⟨by decide, by decide⟩ (by decide) d_Drf_linesPut_23 (fun c11 => ?_) (fun c11 => ?_)
      · have h := ht c11
        refine Aw.aload_n rfl d_Drf_linesPut_31 ?_
        refine Aw.iconst d_Drf_linesPut_32 ?_
        exact h
      · have h := hf c11
        refine Aw.iload_n rfl d_Drf_linesPut_26 ?_
        refine Aw.iconst d_Drf_linesPut_27 ?_
        obtain ⟨ht, hf⟩ := h
        refine Aw.icmp_ne (tgt := 43) o9 ⟨by decide, by decide⟩ (by decide) d_Drf_linesPut_28 (fun c10 => ?_) (fun c10 => ?_)
        · have h := ht c10
          refine Aw.aload_n rfl d_Drf_linesPut_43 ?_
          refine Aw.iload_n rfl d_Drf_linesPut_44 ?_
          exact h
        · have h := hf c10
          refine Aw.aload_n rfl d_Drf_linesPut_31 ?_
          refine Aw.iconst d_Drf_linesPut_32 ?_
          exact h
    · have h := hf c12
      refine Aw.iconst d_Drf_linesPut_12 ?_
      exact h
theorem b_Drf_linesPut_36 {Ω : Om} {R : Room} {F : QF} {k n : Nat} {σ : Sto} {a0 : Nat} {v1 : Int} {v2 : Int} {a3 : Nat} {s0 : Int} (h : Aw Ω M_Drf_linesPut R F k n 38 [xr (some a0), xi v1, xi v2, xr (some a3)] [xi 1, xr (some a3), xi s0] σ) : Aw Ω M_Drf_linesPut R F k n 36 [xr (some a0), xi v1, xi v2, xr (some a3)] [xi s0] σ := by
  refine Aw.aload_n rfl d_Drf_linesPut_36 ?_
  refine Aw.iconst d_Drf_linesPut_37 ?_
  exact h
theorem b_Drf_linesPut_41 {Ω : Om} {R : Room} {F : QF} {k n : Nat} {σ : Sto} {a0 : Nat} {v1 : Int} {v2 : Int} {a3 : Nat} {s0 : Int} {s1 : Int} (h : Aw Ω M_Drf_linesPut R F k n 42 [xr (some a0), xi v1, xi v2, xr (some a3)] [xi (s0 + s1)] σ) : Aw Ω M_Drf_linesPut R F k n 41 [xr (some a0), xi v1, xi v2, xr (some a3)] [xi s1, xi s0] σ := by
  refine Aw.iadd d_Drf_linesPut_41 ?_
  exact h
theorem r_Drf_linesPut_13 {Ω : Om} {R : Room} {k n : Nat} {L : List PV} {σ : Sto} {QR : Option PV → Sto → Prop} {QX : String → Sto → Prop} {x : Int} (h : QR (some (xi x)) σ) (h1 : k ≤ R.cells) (h2 : n ≤ R.slots) : Aw Ω M_Drf_linesPut R (MF Ω R QR QX) k n 13 L [xi x] σ := Aw.iret rfl h h1 h2 d_Drf_linesPut_13
theorem c_Drf_linesPut_33 {Ω : Om} {R R' : Room} {F : QF} {k n : Nat} {L st : List PV} {σ : Sto} {QX' : String → Sto → Prop} {Q : Int → Sto → Prop} {a : Nat} {x0 : Int} (hc : MC Ω M_Cnf_pieceSize R' (RI Q) QX' σ [xr (some a), xi x0]) (hk : sK σ a = 3) (hr1 : R'.frames + 1 ≤ R.frames) (hr2 : 8 + (2 + 11) + R'.locals ≤ R.locals) (hb1 : k + R'.cells ≤ R.cells) (hb2 : n + R'.slots ≤ R.slots) (hst : (st.map catP).sum ≤ 8) (kk : ∀ x σ', Q x σ' → Aw Ω M_Drf_linesPut R F (k + R'.cells) (n + R'.slots) 36 L (xi x :: st) σ') (kx : ∀ E σ', QX' E σ' → Ax Ω M_Drf_linesPut R F (k + R'.cells) (n + R'.slots) 33 L st σ' E) : Aw Ω M_Drf_linesPut R F k n 33 L (xi x0 :: xr (some a) :: st) σ :=
  Aw.callV (As := [xi x0]) (stk := xi x0 :: xr (some a) :: st) (nn := 1) 2 M_Cnf_pieceSize hc ok_Cnf_pieceSize rfl (by decide) rfl hk ml_Drf_144 im_Cnf_pieceSize se_Cnf_pieceSize ⟨hr1, hr2⟩ rfl ⟨hb1, hb2⟩ hst rfl d_Drf_linesPut_33 (fun r σ' h => by obtain ⟨x, rfl, h⟩ := h; exact kk x σ' h) kx
theorem c_Drf_linesPut_38 {Ω : Om} {R R' : Room} {F : QF} {k n : Nat} {L st : List PV} {σ : Sto} {QX' : String → Sto → Prop} {Q : Int → Sto → Prop} {a : Nat} {x0 : Int} (hc : MC Ω M_Cnf_pieceSize R' (RI Q) QX' σ [xr (some a), xi x0]) (hk : sK σ a = 3) (hr1 : R'.frames + 1 ≤ R.frames) (hr2 : 8 + (2 + 11) + R'.locals ≤ R.locals) (hb1 : k + R'.cells ≤ R.cells) (hb2 : n + R'.slots ≤ R.slots) (hst : (st.map catP).sum ≤ 8) (kk : ∀ x σ', Q x σ' → Aw Ω M_Drf_linesPut R F (k + R'.cells) (n + R'.slots) 41 L (xi x :: st) σ') (kx : ∀ E σ', QX' E σ' → Ax Ω M_Drf_linesPut R F (k + R'.cells) (n + R'.slots) 38 L st σ' E) : Aw Ω M_Drf_linesPut R F k n 38 L (xi x0 :: xr (some a) :: st) σ :=
  Aw.callV (As := [xi x0]) (stk := xi x0 :: xr (some a) :: st) (nn := 1) 2 M_Cnf_pieceSize hc ok_Cnf_pieceSize rfl (by decide) rfl hk ml_Drf_144 im_Cnf_pieceSize se_Cnf_pieceSize ⟨hr1, hr2⟩ rfl ⟨hb1, hb2⟩ hst rfl d_Drf_linesPut_38 (fun r σ' h => by obtain ⟨x, rfl, h⟩ := h; exact kk x σ' h) kx
theorem r_Drf_linesPut_42 {Ω : Om} {R : Room} {k n : Nat} {L : List PV} {σ : Sto} {QR : Option PV → Sto → Prop} {QX : String → Sto → Prop} {x : Int} (h : QR (some (xi x)) σ) (h1 : k ≤ R.cells) (h2 : n ≤ R.slots) : Aw Ω M_Drf_linesPut R (MF Ω R QR QX) k n 42 L [xi x] σ := Aw.iret rfl h h1 h2 d_Drf_linesPut_42
theorem c_Drf_linesPut_45 {Ω : Om} {R R' : Room} {F : QF} {k n : Nat} {L st : List PV} {σ : Sto} {QX' : String → Sto → Prop} {Q : Int → Sto → Prop} {a : Nat} {x0 : Int} (hc : MC Ω M_Cnf_pieceSize R' (RI Q) QX' σ [xr (some a), xi x0]) (hk : sK σ a = 3) (hr1 : R'.frames + 1 ≤ R.frames) (hr2 : 8 + (2 + 11) + R'.locals ≤ R.locals) (hb1 : k + R'.cells ≤ R.cells) (hb2 : n + R'.slots ≤ R.slots) (hst : (st.map catP).sum ≤ 8) (kk : ∀ x σ', Q x σ' → Aw Ω M_Drf_linesPut R F (k + R'.cells) (n + R'.slots) 48 L (xi x :: st) σ') (kx : ∀ E σ', QX' E σ' → Ax Ω M_Drf_linesPut R F (k + R'.cells) (n + R'.slots) 45 L st σ' E) : Aw Ω M_Drf_linesPut R F k n 45 L (xi x0 :: xr (some a) :: st) σ :=
  Aw.callV (As := [xi x0]) (stk := xi x0 :: xr (some a) :: st) (nn := 1) 2 M_Cnf_pieceSize hc ok_Cnf_pieceSize rfl (by decide) rfl hk ml_Drf_144 im_Cnf_pieceSize se_Cnf_pieceSize ⟨hr1, hr2⟩ rfl ⟨hb1, hb2⟩ hst rfl d_Drf_linesPut_45 (fun r σ' h => by obtain ⟨x, rfl, h⟩ := h; exact kk x σ' h) kx
theorem r_Drf_linesPut_48 {Ω : Om} {R : Room} {k n : Nat} {L : List PV} {σ : Sto} {QR : Option PV → Sto → Prop} {QX : String → Sto → Prop} {x : Int} (h : QR (some (xi x)) σ) (h1 : k ≤ R.cells) (h2 : n ≤ R.slots) : Aw Ω M_Drf_linesPut R (MF Ω R QR QX) k n 48 L [xi x] σ := Aw.iret rfl h h1 h2 d_Drf_linesPut_48
theorem e_Drf_make {Ω : Om} {R : Room} {QR : Option PV → Sto → Prop} {QX : String → Sto → Prop} {σ : Sto} {a0 : Nat} {a1 : Nat} (h : Aw Ω M_Drf_make R (MF Ω R QR QX) 0 0 0 [xr (some a0), xr (some a1)] [] σ) : MC Ω M_Drf_make R QR QX σ [xr (some a0), xr (some a1)] := MC.body (by decide +kernel) rfl (Nat.le_of_ble_eq_true rfl) rfl h
theorem b_Drf_make_0 {Ω : Om} {R : Room} {F : QF} {k n : Nat} {σ : Sto} {a0 : Nat} {a1 : Nat} (h : sK σ a1 = 5 ∧ (∃ b2 : Nat, fR σ 261 a1 = some b2 ∧ sK σ a0 = 4 ∧ (∃ b5 : Nat, fR σ 192 a0 = some b5 ∧ Aw Ω M_Drf_make R F k n 8 [xr (some a0), xr (some a1)] [xr (some b5), xr (some b2)] σ))) : Aw Ω M_Drf_make R F k n 0 [xr (some a0), xr (some a1)] [] σ := by
  refine Aw.aload_n rfl d_Drf_make_0 ?_
  obtain ⟨o1, h⟩ := h
  obtain ⟨b2, e3, h⟩ := h
  refine Aw.getRs (f := 261) 4 5 fl_Drf_157 (by decide) (by decide) rfl rfl o1 e3 d_Drf_make_1 ?_
  refine Aw.aload_n rfl d_Drf_make_4 ?_
  obtain ⟨o4, h⟩ := h
  obtain ⟨b5, e6, h⟩ := h
  refine Aw.getRs (f := 192) 3 0 fl_Drf_12 (by decide) (by decide) rfl rfl o4 e6 d_Drf_make_5 ?_
  exact h
theorem b_Drf_make_11 {Ω : Om} {R : Room} {F : QF} {k n : Nat} {σ : Sto} {a0 : Nat} {a1 : Nat} (h : sK σ a0 = 4 ∧ (∃ b2 : Nat, fR σ 193 a0 = some b2 ∧ Aw Ω M_Drf_make R F k n 16 [xr (some a0), xr (some a1)] [xr (some a1), xr (some b2)] σ)) : Aw Ω M_Drf_make R F k n 11 [xr (some a0), xr (some a1)] [] σ := by
  refine Aw.aload_n rfl d_Drf_make_11 ?_
  obtain ⟨o1, h⟩ := h
  obtain ⟨b2, e3, h⟩ := h
  refine Aw.getRs (f := 193) 3 1 fl_Drf_21 (by decide) (by decide) rfl rfl o1 e3 d_Drf_make_12 ?_
  refine Aw.aload_n rfl d_Drf_make_15 ?_
  exact h
theorem b_Drf_make_19 {Ω : Om} {R : Room} {F : QF} {k n : Nat} {σ : Sto} {a0 : Nat} {a1 : Nat} {s0 : Int} (h : Aw Ω M_Drf_make R F k n 22 [xr (some a0), xr (some a1)] [xr (some a1), xr (some a0)] σ) : Aw Ω M_Drf_make R F k n 19 [xr (some a0), xr (some a1)] [xi s0] σ := by
  refine Aw.pop rfl d_Drf_make_19 ?_
  refine Aw.aload_n rfl d_Drf_make_20 ?_
  refine Aw.aload_n rfl d_Drf_make_21 ?_
  exact h
theorem c_Drf_make_8 {Ω : Om} {R R' : Room} {F : QF} {k n : Nat} {L st : List PV} {σ : Sto} {QX' : String → Sto → Prop} {Q : Sto → Prop} {a : Nat} {x0 : Option Nat} (hc : MC Ω M_Txt_copy R' (RV Q) QX' σ [xr (some a), xr x0]) (hk : sK σ a = 10) (hr1 : R'.frames + 1 ≤ R.frames) (hr2 : 8 + (3 + 11) + R'.locals ≤ R.locals) (hb1 : k + R'.cells ≤ R.cells) (hb2 : n + R'.slots ≤ R.slots) (hst : (st.map catP).sum ≤ 8) (kk : ∀ σ', Q σ' → Aw Ω M_Drf_make R F (k + R'.cells) (n + R'.slots) 11 L st σ') (kx : ∀ E σ', QX' E σ' → Ax Ω M_Drf_make R F (k + R'.cells) (n + R'.slots) 8 L st σ' E) : Aw Ω M_Drf_make R F k n 8 L (xr x0 :: xr (some a) :: st) σ :=
  Aw.callV (As := [xr x0]) (stk := xr x0 :: xr (some a) :: st) (nn := 1) 9 M_Txt_copy hc ok_Txt_copy rfl (by decide) rfl hk ml_Drf_74 im_Txt_copy se_Txt_copy ⟨hr1, hr2⟩ rfl ⟨hb1, hb2⟩ hst rfl d_Drf_make_8 (fun r σ' h => by obtain ⟨rfl, h⟩ := h; exact kk σ' h) kx
theorem c_Drf_make_16 {Ω : Om} {R R' : Room} {F : QF} {k n : Nat} {L st : List PV} {σ : Sto} {QX' : String → Sto → Prop} {Q : Int → Sto → Prop} {a : Nat} {x0 : Option Nat} (hc : MC Ω M_Lst_add_0 R' (RI Q) QX' σ [xr (some a), xr x0]) (hk : sK σ a = 14) (hr1 : R'.frames + 1 ≤ R.frames) (hr2 : 8 + (2 + 11) + R'.locals ≤ R.locals) (hb1 : k + R'.cells ≤ R.cells) (hb2 : n + R'.slots ≤ R.slots) (hst : (st.map catP).sum ≤ 8) (kk : ∀ x σ', Q x σ' → Aw Ω M_Drf_make R F (k + R'.cells) (n + R'.slots) 19 L (xi x :: st) σ') (kx : ∀ E σ', QX' E σ' → Ax Ω M_Drf_make R F (k + R'.cells) (n + R'.slots) 16 L st σ' E) : Aw Ω M_Drf_make R F k n 16 L (xr x0 :: xr (some a) :: st) σ :=
  Aw.callV (As := [xr x0]) (stk := xr x0 :: xr (some a) :: st) (nn := 1) 13 M_Lst_add_0 hc ok_Lst_add_0 rfl (by decide) rfl hk ml_Drf_162 im_Lst_add_0 se_Lst_add_0 ⟨hr1, hr2⟩ rfl ⟨hb1, hb2⟩ hst rfl d_Drf_make_16 (fun r σ' h => by obtain ⟨x, rfl, h⟩ := h; exact kk x σ' h) kx
theorem c_Drf_make_22 {Ω : Om} {R R' : Room} {F : QF} {k n : Nat} {L st : List PV} {σ : Sto} {QX' : String → Sto → Prop} {Q : Int → Sto → Prop} {a : Nat} {x0 : Option Nat} (hc : MC Ω M_Drf_perform R' (RI Q) QX' σ [xr (some a), xr x0]) (hk : sK σ a = 4) (hr1 : R'.frames + 1 ≤ R.frames) (hr2 : 8 + (2 + 11) + R'.locals ≤ R.locals) (hb1 : k + R'.cells ≤ R.cells) (hb2 : n + R'.slots ≤ R.slots) (hst : (st.map catP).sum ≤ 8) (kk : ∀ x σ', Q x σ' → Aw Ω M_Drf_make R F (k + R'.cells) (n + R'.slots) 25 L (xi x :: st) σ') (kx : ∀ E σ', QX' E σ' → Ax Ω M_Drf_make R F (k + R'.cells) (n + R'.slots) 22 L st σ' E) : Aw Ω M_Drf_make R F k n 22 L (xr x0 :: xr (some a) :: st) σ :=
  Aw.callV (As := [xr x0]) (stk := xr x0 :: xr (some a) :: st) (nn := 1) 3 M_Drf_perform hc ok_Drf_perform rfl (by decide) rfl hk ml_Drf_166 im_Drf_perform se_Drf_perform ⟨hr1, hr2⟩ rfl ⟨hb1, hb2⟩ hst rfl d_Drf_make_22 (fun r σ' h => by obtain ⟨x, rfl, h⟩ := h; exact kk x σ' h) kx
theorem r_Drf_make_25 {Ω : Om} {R : Room} {k n : Nat} {L : List PV} {σ : Sto} {QR : Option PV → Sto → Prop} {QX : String → Sto → Prop} {x : Int} (h : QR (some (xi x)) σ) (h1 : k ≤ R.cells) (h2 : n ≤ R.slots) : Aw Ω M_Drf_make R (MF Ω R QR QX) k n 25 L [xi x] σ := Aw.iret rfl h h1 h2 d_Drf_make_25
theorem e_Drf_namePutIn {Ω : Om} {R : Room} {QR : Option PV → Sto → Prop} {QX : String → Sto → Prop} {σ : Sto} {a0 : Nat} {a1 : Nat} (h : Aw Ω M_Drf_namePutIn R (MF Ω R QR QX) 0 0 0 [xr (some a0), xr (some a1), xu] [] σ) : MC Ω M_Drf_namePutIn R QR QX σ [xr (some a0), xr (some a1)] := MC.body (by decide +kernel) rfl (Nat.le_of_ble_eq_true rfl) rfl h
theorem b_Drf_namePutIn_0 {Ω : Om} {R : Room} {F : QF} {k n : Nat} {σ : Sto} {a0 : Nat} {a1 : Nat} (h : Aw Ω M_Drf_namePutIn R F k n 2 [xr (some a0), xr (some a1), xi 0] [] σ) : Aw Ω M_Drf_namePutIn R F k n 0 [xr (some a0), xr (some a1), xu] [] σ := by
  refine Aw.iconst d_Drf_namePutIn_0 ?_
  refine Aw.istore_n (by decide) d_Drf_namePutIn_1 ?_
  refine Aw.toL (L' := [xr (some a0), xr (some a1), xi 0]) rfl ?_
  exact h
theorem b_Drf_namePutIn_2 {Ω : Om} {R : Room} {F : QF} {k n : Nat} {σ : Sto} {a0 : Nat} {a1 : Nat} {v2 : Int} (h : sK σ a0 = 4 ∧ (∃ b2 : Nat, fR σ 192 a0 = some b2 ∧ Aw Ω M_Drf_namePutIn R F k n 7 [xr (some a0), xr (some a1), xi v2] [xr (some b2), xi v2] σ)) : Aw Ω M_Drf_namePutIn R F k n 2 [xr (some a0), xr (some a1), xi v2] [] σ := by
  refine Aw.iload_n rfl d_Drf_namePutIn_2 ?_
  refine Aw.aload_n rfl d_Drf_namePutIn_3 ?_
  obtain ⟨o1, h⟩ := h
  obtain ⟨b2, e3, h⟩ := h
  refine Aw.getRs (f := 192) 3 0 fl_Drf_12 (by decide) (by decide) rfl rfl o1 e3 d_Drf_namePutIn_4 ?_
  exact h
theorem b_Drf_namePutIn_10 {Ω : Om} {R : Room} {F : QF} {k n : Nat} {σ : Sto} {a0 : Nat} {a1 : Nat} {v2 : Int} {s0 : Int} {s1 : Int} (h : Q32 s0 ∧ Q32 s1 ∧ ((s1 ≤ s0 → Aw Ω M_Drf_namePutIn R F k n 57 [xr (some a0), xr (some a1), xi v2] [] σ) ∧ (¬ s1 ≤ s0 → sK σ a0 = 4 ∧ (∃ b4 : Nat, fR σ 192 a0 = some b4 ∧ Aw Ω M_Drf_namePutIn R F k n 18 [xr (some a0), xr (some a1), xi v2] [xi v2, xr (some b4)] σ)))) : Aw Ω M_Drf_namePutIn R F k n 10 [xr (some a0), xr (some a1), xi v2] [xi s1, xi s0] σ := by
  obtain ⟨o1, h⟩ := h
  obtain ⟨o2, h⟩ := h
  obtain ⟨ht, hf⟩ := h
  refine Aw.icmp_ge (tgt := 57) o1 o2 (by decide) d_Drf_namePutIn_10 (fun c6 => ?_) (fun c6 => ?_)
  · have h := ht c6
    exact h
  · have h := hf c6
    refine Aw.aload_n rfl d_Drf_namePutIn_13 ?_
    obtain ⟨o3, h⟩ := h
    obtain ⟨b4, e5, h⟩ := h
    refine Aw.getRs (f := 192) 3 0 fl_Drf_12 (by decide) (by decide) rfl rfl o3 e5 d_Drf_namePutIn_14 ?_
    refine Aw.iload_n rfl d_Drf_namePutIn_17 ?_
    exact h
theorem b_Drf_namePutIn_21 {Ω : Om} {R : Room} {F : QF} {k n : Nat} {σ : Sto} {a0 : Nat} {a1 : Nat} {v2 : Int} {s0 : Int} (h : Q32 s0 ∧ ((¬ s0 = (-1 : Int) → Aw Ω M_Drf_namePutIn R F k n 2 [xr (some a0), xr (some a1), xi (v2 + 1)] [] σ) ∧ (s0 = (-1 : Int) → sK σ a0 = 4 ∧ (∃ b3 : Nat, fR σ 192 a0 = some b3 ∧ Aw Ω M_Drf_namePutIn R F k n 38 [xr (some a0), xr (some a1), xi v2] [xi v2, xr (some b3), xr (some a1), xr (some a0), xr (some a1), xi v2, xr (some b3)] σ)))) : Aw Ω M_Drf_namePutIn R F k n 21 [xr (some a0), xr (some a1), xi v2] [xi s0] σ := by
  refine Aw.iconst d_Drf_namePutIn_21 ?_
  obtain ⟨o1, h⟩ := h
  obtain ⟨ht, hf⟩ := h
  refine Aw.icmp_ne (tgt := 51) o1 ⟨by decide, by decide⟩ (by decide) d_Drf_namePutIn_22 (fun c5 => ?_) (fun c5 => ?_)
  · have h := ht c5
    refine Aw.iinc rfl d_Drf_namePutIn_51 ?_
    refine Aw.toL (L' := [xr (some a0), xr (some a1), xi (v2 + 1)]) rfl ?_
    refine Aw.goto (tgt := 2) (by decide) d_Drf_namePutIn_54 ?_
    exact h
  · have h := hf c5
    refine Aw.aload_n rfl d_Drf_namePutIn_25 ?_
    obtain ⟨o2, h⟩ := h
    obtain ⟨b3, e4, h⟩ := h
    refine Aw.getRs (f := 192) 3 0 fl_Drf_12 (by decide) (by decide) rfl rfl o2 e4 d_Drf_namePutIn_26 ?_
    refine Aw.iload_n rfl d_Drf_namePutIn_29 ?_
    refine Aw.aload_n rfl d_Drf_namePutIn_30 ?_
    refine Aw.aload_n rfl d_Drf_namePutIn_31 ?_
    refine Aw.aload_n rfl d_Drf_namePutIn_32 ?_
    refine Aw.aload_n rfl d_Drf_namePutIn_33 ?_
    refine Aw.getRs (f := 192) 3 0 fl_Drf_12 (by decide) (by decide) rfl rfl o2 e4 d_Drf_namePutIn_34 ?_
    refine Aw.iload_n rfl d_Drf_namePutIn_37 ?_
    exact h
theorem b_Drf_namePutIn_44 {Ω : Om} {R : Room} {F : QF} {k n : Nat} {σ : Sto} {a0 : Nat} {a1 : Nat} {v2 : Int} {s0 : Nat} {s1 : Int} {s2 : Nat} {s3 : Int} (h : Aw Ω M_Drf_namePutIn R F k n 45 [xr (some a0), xr (some a1), xi v2] [xi (-1), xi s3, xr (some s2), xi s1, xr (some s0)] σ) : Aw Ω M_Drf_namePutIn R F k n 44 [xr (some a0), xr (some a1), xi v2] [xi s3, xr (some s2), xi s1, xr (some s0)] σ := by
  refine Aw.iconst d_Drf_namePutIn_44 ?_
  exact h
theorem b_Drf_namePutIn_51 {Ω : Om} {R : Room} {F : QF} {k n : Nat} {σ : Sto} {a0 : Nat} {a1 : Nat} {v2 : Int} (h : Aw Ω M_Drf_namePutIn R F k n 2 [xr (some a0), xr (some a1), xi (v2 + 1)] [] σ) : Aw Ω M_Drf_namePutIn R F k n 51 [xr (some a0), xr (some a1), xi v2] [] σ := by
  refine Aw.iinc rfl d_Drf_namePutIn_51 ?_
  refine Aw.toL (L' := [xr (some a0), xr (some a1), xi (v2 + 1)]) rfl ?_
  refine Aw.goto (tgt := 2) (by decide) d_Drf_namePutIn_54 ?_
  exact h
theorem c_Drf_namePutIn_7 {Ω : Om} {R R' : Room} {F : QF} {k n : Nat} {L st : List PV} {σ : Sto} {QX' : String → Sto → Prop} {Q : Int → Sto → Prop} {a : Nat} (hc : MC Ω M_Txt_size R' (RI Q) QX' σ [xr (some a)]) (hk : sK σ a = 10) (hr1 : R'.frames + 1 ≤ R.frames) (hr2 : 8 + (1 + 11) + R'.locals ≤ R.locals) (hb1 : k + R'.cells ≤ R.cells) (hb2 : n + R'.slots ≤ R.slots) (hst : (st.map catP).sum ≤ 8) (kk : ∀ x σ', Q x σ' → Aw Ω M_Drf_namePutIn R F (k + R'.cells) (n + R'.slots) 10 L (xi x :: st) σ') (kx : ∀ E σ', QX' E σ' → Ax Ω M_Drf_namePutIn R F (k + R'.cells) (n + R'.slots) 7 L st σ' E) : Aw Ω M_Drf_namePutIn R F k n 7 L (xr (some a) :: st) σ :=
  Aw.callV (As := []) (stk := xr (some a) :: st) (nn := 0) 9 M_Txt_size hc ok_Txt_size rfl (by decide) rfl hk ml_Drf_88 im_Txt_size se_Txt_size ⟨hr1, hr2⟩ rfl ⟨hb1, hb2⟩ hst rfl d_Drf_namePutIn_7 (fun r σ' h => by obtain ⟨x, rfl, h⟩ := h; exact kk x σ' h) kx
theorem c_Drf_namePutIn_18 {Ω : Om} {R R' : Room} {F : QF} {k n : Nat} {L st : List PV} {σ : Sto} {QX' : String → Sto → Prop} {Q : Int → Sto → Prop} {a : Nat} {x0 : Int} (hc : MC Ω M_Txt_nameAt R' (RI Q) QX' σ [xr (some a), xi x0]) (hk : sK σ a = 10) (hr1 : R'.frames + 1 ≤ R.frames) (hr2 : 8 + (2 + 11) + R'.locals ≤ R.locals) (hb1 : k + R'.cells ≤ R.cells) (hb2 : n + R'.slots ≤ R.slots) (hst : (st.map catP).sum ≤ 8) (kk : ∀ x σ', Q x σ' → Aw Ω M_Drf_namePutIn R F (k + R'.cells) (n + R'.slots) 21 L (xi x :: st) σ') (kx : ∀ E σ', QX' E σ' → Ax Ω M_Drf_namePutIn R F (k + R'.cells) (n + R'.slots) 18 L st σ' E) : Aw Ω M_Drf_namePutIn R F k n 18 L (xi x0 :: xr (some a) :: st) σ :=
  Aw.callV (As := [xi x0]) (stk := xi x0 :: xr (some a) :: st) (nn := 1) 9 M_Txt_nameAt hc ok_Txt_nameAt rfl (by decide) rfl hk ml_Drf_223 im_Txt_nameAt se_Txt_nameAt ⟨hr1, hr2⟩ rfl ⟨hb1, hb2⟩ hst rfl d_Drf_namePutIn_18 (fun r σ' h => by obtain ⟨x, rfl, h⟩ := h; exact kk x σ' h) kx
theorem c_Drf_namePutIn_38 {Ω : Om} {R R' : Room} {F : QF} {k n : Nat} {L st : List PV} {σ : Sto} {QX' : String → Sto → Prop} {Q : Int64 → Sto → Prop} {a : Nat} {x0 : Int} (hc : MC Ω M_Txt_lineAt R' (RL Q) QX' σ [xr (some a), xi x0]) (hk : sK σ a = 10) (hr1 : R'.frames + 1 ≤ R.frames) (hr2 : 8 + (2 + 11) + R'.locals ≤ R.locals) (hb1 : k + R'.cells ≤ R.cells) (hb2 : n + R'.slots ≤ R.slots) (hst : (st.map catP).sum ≤ 8) (kk : ∀ x σ', Q x σ' → Aw Ω M_Drf_namePutIn R F (k + R'.cells) (n + R'.slots) 41 L (xl x :: st) σ') (kx : ∀ E σ', QX' E σ' → Ax Ω M_Drf_namePutIn R F (k + R'.cells) (n + R'.slots) 38 L st σ' E) : Aw Ω M_Drf_namePutIn R F k n 38 L (xi x0 :: xr (some a) :: st) σ :=
  Aw.callV (As := [xi x0]) (stk := xi x0 :: xr (some a) :: st) (nn := 1) 9 M_Txt_lineAt hc ok_Txt_lineAt rfl (by decide) rfl hk ml_Drf_226 im_Txt_lineAt se_Txt_lineAt ⟨hr1, hr2⟩ rfl ⟨hb1, hb2⟩ hst rfl d_Drf_namePutIn_38 (fun r σ' h => by obtain ⟨x, rfl, h⟩ := h; exact kk x σ' h) kx
theorem c_Drf_namePutIn_41 {Ω : Om} {R R' : Room} {F : QF} {k n : Nat} {L st : List PV} {σ : Sto} {QX' : String → Sto → Prop} {Q : Int → Sto → Prop} {a : Nat} {x0 : Option Nat} {x1 : Int64} (hc : MC Ω M_Drf_authorOfPutIn R' (RI Q) QX' σ [xr (some a), xr x0, xl x1]) (hk : sK σ a = 4) (hr1 : R'.frames + 1 ≤ R.frames) (hr2 : 8 + (5 + 11) + R'.locals ≤ R.locals) (hb1 : k + R'.cells ≤ R.cells) (hb2 : n + R'.slots ≤ R.slots) (hst : (st.map catP).sum ≤ 8) (kk : ∀ x σ', Q x σ' → Aw Ω M_Drf_namePutIn R F (k + R'.cells) (n + R'.slots) 44 L (xi x :: st) σ') (kx : ∀ E σ', QX' E σ' → Ax Ω M_Drf_namePutIn R F (k + R'.cells) (n + R'.slots) 41 L st σ' E) : Aw Ω M_Drf_namePutIn R F k n 41 L (xl x1 :: xr x0 :: xr (some a) :: st) σ :=
  Aw.callV (As := [xr x0, xl x1]) (stk := xl x1 :: xr x0 :: xr (some a) :: st) (nn := 2) 3 M_Drf_authorOfPutIn hc ok_Drf_authorOfPutIn rfl (by decide) rfl hk ml_Drf_230 im_Drf_authorOfPutIn se_Drf_authorOfPutIn ⟨hr1, hr2⟩ rfl ⟨hb1, hb2⟩ hst rfl d_Drf_namePutIn_41 (fun r σ' h => by obtain ⟨x, rfl, h⟩ := h; exact kk x σ' h) kx
theorem c_Drf_namePutIn_45 {Ω : Om} {R R' : Room} {F : QF} {k n : Nat} {L st : List PV} {σ : Sto} {QX' : String → Sto → Prop} {Q : Int → Sto → Prop} {a : Nat} {x0 : Int} {x1 : Int} (hc : MC Ω M_Lbk_enter R' (RI Q) QX' σ [xr (some a), xi x0, xi x1]) (hk : sK σ a = 7) (hr1 : R'.frames + 1 ≤ R.frames) (hr2 : 8 + (3 + 11) + R'.locals ≤ R.locals) (hb1 : k + R'.cells ≤ R.cells) (hb2 : n + R'.slots ≤ R.slots) (hst : (st.map catP).sum ≤ 8) (kk : ∀ x σ', Q x σ' → Aw Ω M_Drf_namePutIn R F (k + R'.cells) (n + R'.slots) 48 L (xi x :: st) σ') (kx : ∀ E σ', QX' E σ' → Ax Ω M_Drf_namePutIn R F (k + R'.cells) (n + R'.slots) 45 L st σ' E) : Aw Ω M_Drf_namePutIn R F k n 45 L (xi x1 :: xi x0 :: xr (some a) :: st) σ :=
  Aw.callV (As := [xi x0, xi x1]) (stk := xi x1 :: xi x0 :: xr (some a) :: st) (nn := 2) 6 M_Lbk_enter hc ok_Lbk_enter rfl (by decide) rfl hk ml_Drf_234 im_Lbk_enter se_Lbk_enter ⟨hr1, hr2⟩ rfl ⟨hb1, hb2⟩ hst rfl d_Drf_namePutIn_45 (fun r σ' h => by obtain ⟨x, rfl, h⟩ := h; exact kk x σ' h) kx
theorem c_Drf_namePutIn_48 {Ω : Om} {R R' : Room} {F : QF} {k n : Nat} {L st : List PV} {σ : Sto} {QX' : String → Sto → Prop} {Q : Sto → Prop} {a : Nat} {x0 : Int} {x1 : Int} (hc : MC Ω M_Txt_giveName R' (RV Q) QX' σ [xr (some a), xi x0, xi x1]) (hk : sK σ a = 10) (hr1 : R'.frames + 1 ≤ R.frames) (hr2 : 8 + (3 + 11) + R'.locals ≤ R.locals) (hb1 : k + R'.cells ≤ R.cells) (hb2 : n + R'.slots ≤ R.slots) (hst : (st.map catP).sum ≤ 8) (kk : ∀ σ', Q σ' → Aw Ω M_Drf_namePutIn R F (k + R'.cells) (n + R'.slots) 51 L st σ') (kx : ∀ E σ', QX' E σ' → Ax Ω M_Drf_namePutIn R F (k + R'.cells) (n + R'.slots) 48 L st σ' E) : Aw Ω M_Drf_namePutIn R F k n 48 L (xi x1 :: xi x0 :: xr (some a) :: st) σ :=
  Aw.callV (As := [xi x0, xi x1]) (stk := xi x1 :: xi x0 :: xr (some a) :: st) (nn := 2) 9 M_Txt_giveName hc ok_Txt_giveName rfl (by decide) rfl hk ml_Drf_239 im_Txt_giveName se_Txt_giveName ⟨hr1, hr2⟩ rfl ⟨hb1, hb2⟩ hst rfl d_Drf_namePutIn_48 (fun r σ' h => by obtain ⟨rfl, h⟩ := h; exact kk σ' h) kx
theorem r_Drf_namePutIn_57 {Ω : Om} {R : Room} {k n : Nat} {L : List PV} {σ : Sto} {QR : Option PV → Sto → Prop} {QX : String → Sto → Prop} (h : QR none σ) (h1 : k ≤ R.cells) (h2 : n ≤ R.slots) : Aw Ω M_Drf_namePutIn R (MF Ω R QR QX) k n 57 L [] σ := Aw.vret rfl h h1 h2 d_Drf_namePutIn_57
theorem e_Drf_nameRewritten {Ω : Om} {R : Room} {QR : Option PV → Sto → Prop} {QX : String → Sto → Prop} {σ : Sto} {a0 : Nat} {a1 : Nat} {v2 : Int} {v3 : Int} (h : Aw Ω M_Drf_nameRewritten R (MF Ω R QR QX) 0 0 0 [xr (some a0), xr (some a1), xi v2, xi v3] [] σ) : MC Ω M_Drf_nameRewritten R QR QX σ [xr (some a0), xr (some a1), xi v2, xi v3] := MC.body (by decide +kernel) rfl (Nat.le_of_ble_eq_true rfl) rfl h
theorem b_Drf_nameRewritten_0 {Ω : Om} {R : Room} {F : QF} {k n : Nat} {σ : Sto} {a0 : Nat} {a1 : Nat} {v2 : Int} {v3 : Int} (h : sK σ a0 = 4 ∧ (∃ b2 : Nat, fR σ 192 a0 = some b2 ∧ Aw Ω M_Drf_nameRewritten R F k n 5 [xr (some a0), xr (some a1), xi v2, xi v3] [xi v2, xr (some b2)] σ)) : Aw Ω M_Drf_nameRewritten R F k n 0 [xr (some a0), xr (some a1), xi v2, xi v3] [] σ := by
  refine Aw.aload_n rfl d_Drf_nameRewritten_0 ?_
  obtain ⟨o1, h⟩ := h
  obtain ⟨b2, e3, h⟩ := h
  refine Aw.getRs (f := 192) 3 0 fl_Drf_12 (by decide) (by decide) rfl rfl o1 e3 d_Drf_nameRewritten_1 ?_
  refine Aw.iload_n rfl d_Drf_nameRewritten_4 ?_
  exact h
theorem b_Drf_nameRewritten_8 {Ω : Om} {R : Room} {F : QF} {k n : Nat} {σ : Sto} {a0 : Nat} {a1 : Nat} {v2 : Int} {v3 : Int} {s0 : Int} (h : Q32 s0 ∧ ((¬ s0 = (-1 : Int) → Aw Ω M_Drf_nameRewritten R F k n 29 [xr (some a0), xr (some a1), xi v2, xi v3] [] σ) ∧ (s0 = (-1 : Int) → sK σ a0 = 4 ∧ (∃ b3 : Nat, fR σ 192 a0 = some b3 ∧ (Q32 (fI σ 203 a0) → Aw Ω M_Drf_nameRewritten R F k n 23 [xr (some a0), xr (some a1), xi v2, xi v3] [xi v3, xi (fI σ 203 a0), xr (some a1), xi v2, xr (some b3)] σ))))) : Aw Ω M_Drf_nameRewritten R F k n 8 [xr (some a0), xr (some a1), xi v2, xi v3] [xi s0] σ := by
  refine Aw.iconst d_Drf_nameRewritten_8 ?_
  obtain ⟨o1, h⟩ := h
  obtain ⟨ht, hf⟩ := h
  refine Aw.icmp_ne (tgt := 29) o1 ⟨by decide, by decide⟩ (by decide) d_Drf_nameRewritten_9 (fun c6 => ?_) (fun c6 => ?_)
  · have h := ht c6
    exact h
  · have h := hf c6
    refine Aw.aload_n rfl d_Drf_nameRewritten_12 ?_
    obtain ⟨o2, h⟩ := h
    obtain ⟨b3, e4, h⟩ := h
    refine Aw.getRs (f := 192) 3 0 fl_Drf_12 (by decide) (by decide) rfl rfl o2 e4 d_Drf_nameRewritten_13 ?_
    refine Aw.iload_n rfl d_Drf_nameRewritten_16 ?_
    refine Aw.aload_n rfl d_Drf_nameRewritten_17 ?_
    refine Aw.aload_n rfl d_Drf_nameRewritten_18 ?_
    refine Aw.getI (f := 203) 3 11 fl_Drf_60 (by decide) (by decide) rfl rfl o2 d_Drf_nameRewritten_19 (fun r5 => ?_)
    have h := h r5
    refine Aw.iload_n rfl d_Drf_nameRewritten_22 ?_
    exact h
theorem c_Drf_nameRewritten_5 {Ω : Om} {R R' : Room} {F : QF} {k n : Nat} {L st : List PV} {σ : Sto} {QX' : String → Sto → Prop} {Q : Int → Sto → Prop} {a : Nat} {x0 : Int} (hc : MC Ω M_Txt_nameAt R' (RI Q) QX' σ [xr (some a), xi x0]) (hk : sK σ a = 10) (hr1 : R'.frames + 1 ≤ R.frames) (hr2 : 8 + (2 + 11) + R'.locals ≤ R.locals) (hb1 : k + R'.cells ≤ R.cells) (hb2 : n + R'.slots ≤ R.slots) (hst : (st.map catP).sum ≤ 8) (kk : ∀ x σ', Q x σ' → Aw Ω M_Drf_nameRewritten R F (k + R'.cells) (n + R'.slots) 8 L (xi x :: st) σ') (kx : ∀ E σ', QX' E σ' → Ax Ω M_Drf_nameRewritten R F (k + R'.cells) (n + R'.slots) 5 L st σ' E) : Aw Ω M_Drf_nameRewritten R F k n 5 L (xi x0 :: xr (some a) :: st) σ :=
  Aw.callV (As := [xi x0]) (stk := xi x0 :: xr (some a) :: st) (nn := 1) 9 M_Txt_nameAt hc ok_Txt_nameAt rfl (by decide) rfl hk ml_Drf_223 im_Txt_nameAt se_Txt_nameAt ⟨hr1, hr2⟩ rfl ⟨hb1, hb2⟩ hst rfl d_Drf_nameRewritten_5 (fun r σ' h => by obtain ⟨x, rfl, h⟩ := h; exact kk x σ' h) kx
theorem c_Drf_nameRewritten_23 {Ω : Om} {R R' : Room} {F : QF} {k n : Nat} {L st : List PV} {σ : Sto} {QX' : String → Sto → Prop} {Q : Int → Sto → Prop} {a : Nat} {x0 : Int} {x1 : Int} (hc : MC Ω M_Lbk_enter R' (RI Q) QX' σ [xr (some a), xi x0, xi x1]) (hk : sK σ a = 7) (hr1 : R'.frames + 1 ≤ R.frames) (hr2 : 8 + (3 + 11) + R'.locals ≤ R.locals) (hb1 : k + R'.cells ≤ R.cells) (hb2 : n + R'.slots ≤ R.slots) (hst : (st.map catP).sum ≤ 8) (kk : ∀ x σ', Q x σ' → Aw Ω M_Drf_nameRewritten R F (k + R'.cells) (n + R'.slots) 26 L (xi x :: st) σ') (kx : ∀ E σ', QX' E σ' → Ax Ω M_Drf_nameRewritten R F (k + R'.cells) (n + R'.slots) 23 L st σ' E) : Aw Ω M_Drf_nameRewritten R F k n 23 L (xi x1 :: xi x0 :: xr (some a) :: st) σ :=
  Aw.callV (As := [xi x0, xi x1]) (stk := xi x1 :: xi x0 :: xr (some a) :: st) (nn := 2) 6 M_Lbk_enter hc ok_Lbk_enter rfl (by decide) rfl hk ml_Drf_234 im_Lbk_enter se_Lbk_enter ⟨hr1, hr2⟩ rfl ⟨hb1, hb2⟩ hst rfl d_Drf_nameRewritten_23 (fun r σ' h => by obtain ⟨x, rfl, h⟩ := h; exact kk x σ' h) kx
theorem c_Drf_nameRewritten_26 {Ω : Om} {R R' : Room} {F : QF} {k n : Nat} {L st : List PV} {σ : Sto} {QX' : String → Sto → Prop} {Q : Sto → Prop} {a : Nat} {x0 : Int} {x1 : Int} (hc : MC Ω M_Txt_giveName R' (RV Q) QX' σ [xr (some a), xi x0, xi x1]) (hk : sK σ a = 10) (hr1 : R'.frames + 1 ≤ R.frames) (hr2 : 8 + (3 + 11) + R'.locals ≤ R.locals) (hb1 : k + R'.cells ≤ R.cells) (hb2 : n + R'.slots ≤ R.slots) (hst : (st.map catP).sum ≤ 8) (kk : ∀ σ', Q σ' → Aw Ω M_Drf_nameRewritten R F (k + R'.cells) (n + R'.slots) 29 L st σ') (kx : ∀ E σ', QX' E σ' → Ax Ω M_Drf_nameRewritten R F (k + R'.cells) (n + R'.slots) 26 L st σ' E) : Aw Ω M_Drf_nameRewritten R F k n 26 L (xi x1 :: xi x0 :: xr (some a) :: st) σ :=
  Aw.callV (As := [xi x0, xi x1]) (stk := xi x1 :: xi x0 :: xr (some a) :: st) (nn := 2) 9 M_Txt_giveName hc ok_Txt_giveName rfl (by decide) rfl hk ml_Drf_239 im_Txt_giveName se_Txt_giveName ⟨hr1, hr2⟩ rfl ⟨hb1, hb2⟩ hst rfl d_Drf_nameRewritten_26 (fun r σ' h => by obtain ⟨rfl, h⟩ := h; exact kk σ' h) kx
theorem r_Drf_nameRewritten_29 {Ω : Om} {R : Room} {k n : Nat} {L : List PV} {σ : Sto} {QR : Option PV → Sto → Prop} {QX : String → Sto → Prop} (h : QR none σ) (h1 : k ≤ R.cells) (h2 : n ≤ R.slots) : Aw Ω M_Drf_nameRewritten R (MF Ω R QR QX) k n 29 L [] σ := Aw.vret rfl h h1 h2 d_Drf_nameRewritten_29
theorem e_Drf_perform {Ω : Om} {R : Room} {QR : Option PV → Sto → Prop} {QX : String → Sto → Prop} {σ : Sto} {a0 : Nat} {a1 : Nat} (h : Aw Ω M_Drf_perform R (MF Ω R QR QX) 0 0 0 [xr (some a0), xr (some a1)] [] σ) : MC Ω M_Drf_perform R QR QX σ [xr (some a0), xr (some a1)] := MC.body (by decide +kernel) rfl (Nat.le_of_ble_eq_true rfl) rfl h
theorem b_Drf_perform_0 {Ω : Om} {R : Room} {F : QF} {k n : Nat} {σ : Sto} {a0 : Nat} {a1 : Nat} (h : sK σ a1 = 5 ∧ (Q32 (fI σ 256 a1) → Aw Ω M_Drf_perform R F k n 4 [xr (some a0), xr (some a1)] [xi (fI σ 256 a1)] σ)) : Aw Ω M_Drf_perform R F k n 0 [xr (some a0), xr (some a1)] [] σ := by
  refine Aw.aload_n rfl d_Drf_perform_0 ?_
  obtain ⟨o1, h⟩ := h
  refine Aw.getI (f := 256) 4 0 fl_Drf_170 (by decide) (by decide) rfl rfl o1 d_Drf_perform_1 (fun r2 => ?_)
  have h := h r2
  exact h
theorem b_Drf_perform_105 {Ω : Om} {R : Room} {F : QF} {k n : Nat} {σ : Sto} {a0 : Nat} {a1 : Nat} (h : sK σ a1 = 5 ∧ (Q32 (fI σ 257 a1) → (Q32 (fI σ 258 a1) → Aw Ω M_Drf_perform R F k n 114 [xr (some a0), xr (some a1)] [xi (fI σ 258 a1), xi (fI σ 257 a1), xr (some a0)] σ))) : Aw Ω M_Drf_perform R F k n 105 [xr (some a0), xr (some a1)] [] σ := by
  refine Aw.aload_n rfl d_Drf_perform_105 ?_
  refine Aw.aload_n rfl d_Drf_perform_106 ?_
  obtain ⟨o1, h⟩ := h
  refine Aw.getI (f := 257) 4 1 fl_Drf_173 (by decide) (by decide) rfl rfl o1 d_Drf_perform_107 (fun r2 => ?_)
  have h := h r2
  refine Aw.aload_n rfl d_Drf_perform_110 ?_
  refine Aw.getI (f := 258) 4 2 fl_Drf_192 (by decide) (by decide) rfl rfl o1 d_Drf_perform_111 (fun r3 => ?_)
  have h := h r3
  exact h
theorem b_Drf_perform_117 {Ω : Om} {R : Room} {F : QF} {k n : Nat} {σ : Sto} {a0 : Nat} {a1 : Nat} (h : Aw Ω M_Drf_perform R F k n 118 [xr (some a0), xr (some a1)] [xi 0] σ) : Aw Ω M_Drf_perform R F k n 117 [xr (some a0), xr (some a1)] [] σ := by
  refine Aw.iconst d_Drf_perform_117 ?_
  exact h
theorem b_Drf_perform_88 {Ω : Om} {R : Room} {F : QF} {k n : Nat} {σ : Sto} {a0 : Nat} {a1 : Nat} (h : sK σ a0 = 4 ∧ (∃ b2 : Nat, fR σ 192 a0 = some b2 ∧ sK σ a1 = 5 ∧ (Q32 (fI σ 257 a1) → (Q32 (fI σ 258 a1) → Aw Ω M_Drf_perform R F k n 100 [xr (some a0), xr (some a1)] [xi (fI σ 258 a1), xi (fI σ 257 a1), xr (some b2)] σ)))) : Aw Ω M_Drf_perform R F k n 88 [xr (some a0), xr (some a1)] [] σ := by
  refine Aw.aload_n rfl d_Drf_perform_88 ?_
  obtain ⟨o1, h⟩ := h
  obtain ⟨b2, e3, h⟩ := h
  refine Aw.getRs (f := 192) 3 0 fl_Drf_12 (by decide) (by decide) rfl rfl o1 e3 d_Drf_perform_89 ?_
  refine Aw.aload_n rfl d_Drf_perform_92 ?_
  obtain ⟨o4, h⟩ := h
  refine Aw.getI (f := 257) 4 1 fl_Drf_173 (by decide) (by decide) rfl rfl o4 d_Drf_perform_93 (fun r5 => ?_)
  have h := h r5
  refine Aw.aload_n rfl d_Drf_perform_96 ?_
  refine Aw.getI (f := 258) 4 2 fl_Drf_192 (by decide) (by decide) rfl rfl o4 d_Drf_perform_97 (fun r6 => ?_)
  have h := h r6
  exact h
theorem b_Drf_perform_103 {Ω : Om} {R : Room} {F : QF} {k n : Nat} {σ : Sto} {a0 : Nat} {a1 : Nat} (h : Aw Ω M_Drf_perform R F k n 104 [xr (some a0), xr (some a1)] [xi 0] σ) : Aw Ω M_Drf_perform R F k n 103 [xr (some a0), xr (some a1)] [] σ := by
  refine Aw.iconst d_Drf_perform_103 ?_
  exact h
theorem b_Drf_perform_71 {Ω : Om} {R : Room} {F : QF} {k n : Nat} {σ : Sto} {a0 : Nat} {a1 : Nat} (h : sK σ a0 = 4 ∧ (∃ b2 : Nat, fR σ 192 a0 = some b2 ∧ sK σ a1 = 5 ∧ (Q32 (fI σ 257 a1) → Aw Ω M_Drf_perform R F k n 83 [xr (some a0), xr (some a1)] [xl (fL σ 259 a1), xi (fI σ 257 a1), xr (some b2)] σ))) : Aw Ω M_Drf_perform R F k n 71 [xr (some a0), xr (some a1)] [] σ := by
  refine Aw.aload_n rfl d_Drf_perform_71 ?_
  obtain ⟨o1, h⟩ := h
  obtain ⟨b2, e3, h⟩ := h
  refine Aw.getRs (f := 192) 3 0 fl_Drf_12 (by decide) (by decide) rfl rfl o1 e3 d_Drf_perform_72 ?_
  refine Aw.aload_n rfl d_Drf_perform_75 ?_
  obtain ⟨o4, h⟩ := h
  refine Aw.getI (f := 257) 4 1 fl_Drf_173 (by decide) (by decide) rfl rfl o4 d_Drf_perform_76 (fun r5 => ?_)
  have h := h r5
  refine Aw.aload_n rfl d_Drf_perform_79 ?_
  refine Aw.getL (f := 259) 4 3 fl_Drf_176 (by decide) (by decide) rfl rfl o4 d_Drf_perform_80 ?_
  exact h
theorem b_Drf_perform_86 {Ω : Om} {R : Room} {F : QF} {k n : Nat} {σ : Sto} {a0 : Nat} {a1 : Nat} (h : Aw Ω M_Drf_perform R F k n 87 [xr (some a0), xr (some a1)] [xi 0] σ) : Aw Ω M_Drf_perform R F k n 86 [xr (some a0), xr (some a1)] [] σ := by
  refine Aw.iconst d_Drf_perform_86 ?_
  exact h
theorem b_Drf_perform_58 {Ω : Om} {R : Room} {F : QF} {k n : Nat} {σ : Sto} {a0 : Nat} {a1 : Nat} (h : sK σ a0 = 4 ∧ (∃ b2 : Nat, fR σ 192 a0 = some b2 ∧ sK σ a1 = 5 ∧ (Q32 (fI σ 257 a1) → Aw Ω M_Drf_perform R F k n 66 [xr (some a0), xr (some a1)] [xi (fI σ 257 a1), xr (some b2)] σ))) : Aw Ω M_Drf_perform R F k n 58 [xr (some a0), xr (some a1)] [] σ := by
  refine Aw.aload_n rfl d_Drf_perform_58 ?_
  obtain ⟨o1, h⟩ := h
  obtain ⟨b2, e3, h⟩ := h
  refine Aw.getRs (f := 192) 3 0 fl_Drf_12 (by decide) (by decide) rfl rfl o1 e3 d_Drf_perform_59 ?_
  refine Aw.aload_n rfl d_Drf_perform_62 ?_
  obtain ⟨o4, h⟩ := h
  refine Aw.getI (f := 257) 4 1 fl_Drf_173 (by decide) (by decide) rfl rfl o4 d_Drf_perform_63 (fun r5 => ?_)
  have h := h r5
  exact h
theorem b_Drf_perform_69 {Ω : Om} {R : Room} {F : QF} {k n : Nat} {σ : Sto} {a0 : Nat} {a1 : Nat} (h : Aw Ω M_Drf_perform R F k n 70 [xr (some a0), xr (some a1)] [xi 0] σ) : Aw Ω M_Drf_perform R F k n 69 [xr (some a0), xr (some a1)] [] σ := by
  refine Aw.iconst d_Drf_perform_69 ?_
  exact h
theorem b_Drf_perform_40 {Ω : Om} {R : Room} {F : QF} {k n : Nat} {σ : Sto} {a0 : Nat} {a1 : Nat} (h : sK σ a0 = 4 ∧ (∃ b2 : Nat, fR σ 192 a0 = some b2 ∧ sK σ a1 = 5 ∧ (Q32 (fI σ 257 a1) → Aw Ω M_Drf_perform R F k n 53 [xr (some a0), xr (some a1)] [xi (-1), xl (fL σ 259 a1), xi (fI σ 257 a1), xr (some b2)] σ))) : Aw Ω M_Drf_perform R F k n 40 [xr (some a0), xr (some a1)] [] σ := by
  refine Aw.aload_n rfl d_Drf_perform_40 ?_
  obtain ⟨o1, h⟩ := h
  obtain ⟨b2, e3, h⟩ := h
  refine Aw.getRs (f := 192) 3 0 fl_Drf_12 (by decide) (by decide) rfl rfl o1 e3 d_Drf_perform_41 ?_
  refine Aw.aload_n rfl d_Drf_perform_44 ?_
  obtain ⟨o4, h⟩ := h
  refine Aw.getI (f := 257) 4 1 fl_Drf_173 (by decide) (by decide) rfl rfl o4 d_Drf_perform_45 (fun r5 => ?_)
  have h := h r5
  refine Aw.aload_n rfl d_Drf_perform_48 ?_
  refine Aw.getL (f := 259) 4 3 fl_Drf_176 (by decide) (by decide) rfl rfl o4 d_Drf_perform_49 ?_
  refine Aw.iconst d_Drf_perform_52 ?_
  exact h
theorem b_Drf_perform_56 {Ω : Om} {R : Room} {F : QF} {k n : Nat} {σ : Sto} {a0 : Nat} {a1 : Nat} (h : Aw Ω M_Drf_perform R F k n 57 [xr (some a0), xr (some a1)] [xi 0] σ) : Aw Ω M_Drf_perform R F k n 56 [xr (some a0), xr (some a1)] [] σ := by
  refine Aw.iconst d_Drf_perform_56 ?_
  exact h
theorem b_Drf_perform_119 {Ω : Om} {R : Room} {F : QF} {k n : Nat} {σ : Sto} {a0 : Nat} {a1 : Nat} (h : sK σ a1 = 5 ∧ ((¬ (fR σ 260 a1) = none → sK σ a0 = 4 ∧ (∃ b3 : Nat, fR σ 192 a0 = some b3 ∧ (Q32 (fI σ 258 a1) → Aw Ω M_Drf_perform R F k n 142 [xr (some a0), xr (some a1)] [xi (fI σ 258 a1), xr (some b3), xr (fR σ 260 a1)] σ))) ∧ ((fR σ 260 a1) = none → Aw Ω M_Drf_perform R F k n 145 [xr (some a0), xr (some a1)] [xi 0] σ))) : Aw Ω M_Drf_perform R F k n 119 [xr (some a0), xr (some a1)] [] σ := by
  refine Aw.aload_n rfl d_Drf_perform_119 ?_
  obtain ⟨o1, h⟩ := h
  refine Aw.getR (f := 260) 4 4 fl_Drf_201 (by decide) (by decide) rfl rfl o1 d_Drf_perform_120 ?_
  obtain ⟨ht, hf⟩ := h
  refine Aw.ifnonnull (tgt := 130) (by decide) d_Drf_perform_123 (fun c6 => ?_) (fun c6 => ?_)
  · have h := ht c6
    refine Aw.aload_n rfl d_Drf_perform_130 ?_
    refine Aw.getR (f := 260) 4 4 fl_Drf_201 (by decide) (by decide) rfl rfl o1 d_Drf_perform_131 ?_
    refine Aw.aload_n rfl d_Drf_perform_134 ?_
    obtain ⟨o2, h⟩ := h
    obtain ⟨b3, e4, h⟩ := h
    refine Aw.getRs (f := 192) 3 0 fl_Drf_12 (by decide) (by decide) rfl rfl o2 e4 d_Drf_perform_135 ?_
    refine Aw.aload_n rfl d_Drf_perform_138 ?_
    refine Aw.getI (f := 258) 4 2 fl_Drf_192 (by decide) (by decide) rfl rfl o1 d_Drf_perform_139 (fun r5 => ?_)
    have h := h r5
    exact h
  · have h := hf c6
    refine Aw.iconst d_Drf_perform_126 ?_
    refine Aw.goto (tgt := 145) (by decide) d_Drf_perform_127 ?_
    exact h
theorem c_Drf_perform_53 {Ω : Om} {R R' : Room} {F : QF} {k n : Nat} {L st : List PV} {σ : Sto} {QX' : String → Sto → Prop} {Q : Sto → Prop} {a : Nat} {x0 : Int} {x1 : Int64} {x2 : Int} (hc : MC Ω M_Txt_put R' (RV Q) QX' σ [xr (some a), xi x0, xl x1, xi x2]) (hk : sK σ a = 10) (hr1 : R'.frames + 1 ≤ R.frames) (hr2 : 8 + (6 + 11) + R'.locals ≤ R.locals) (hb1 : k + R'.cells ≤ R.cells) (hb2 : n + R'.slots ≤ R.slots) (hst : (st.map catP).sum ≤ 8) (kk : ∀ σ', Q σ' → Aw Ω M_Drf_perform R F (k + R'.cells) (n + R'.slots) 56 L st σ') (kx : ∀ E σ', QX' E σ' → Ax Ω M_Drf_perform R F (k + R'.cells) (n + R'.slots) 53 L st σ' E) : Aw Ω M_Drf_perform R F k n 53 L (xi x2 :: xl x1 :: xi x0 :: xr (some a) :: st) σ :=
  Aw.callV (As := [xi x0, xl x1, xi x2]) (stk := xi x2 :: xl x1 :: xi x0 :: xr (some a) :: st) (nn := 3) 9 M_Txt_put hc ok_Txt_put rfl (by decide) rfl hk ml_Drf_180 im_Txt_put se_Txt_put ⟨hr1, hr2⟩ rfl ⟨hb1, hb2⟩ hst rfl d_Drf_perform_53 (fun r σ' h => by obtain ⟨rfl, h⟩ := h; exact kk σ' h) kx
theorem r_Drf_perform_57 {Ω : Om} {R : Room} {k n : Nat} {L : List PV} {σ : Sto} {QR : Option PV → Sto → Prop} {QX : String → Sto → Prop} {x : Int} (h : QR (some (xi x)) σ) (h1 : k ≤ R.cells) (h2 : n ≤ R.slots) : Aw Ω M_Drf_perform R (MF Ω R QR QX) k n 57 L [xi x] σ := Aw.iret rfl h h1 h2 d_Drf_perform_57
theorem c_Drf_perform_66 {Ω : Om} {R R' : Room} {F : QF} {k n : Nat} {L st : List PV} {σ : Sto} {QX' : String → Sto → Prop} {Q : Sto → Prop} {a : Nat} {x0 : Int} (hc : MC Ω M_Txt_takeOut R' (RV Q) QX' σ [xr (some a), xi x0]) (hk : sK σ a = 10) (hr1 : R'.frames + 1 ≤ R.frames) (hr2 : 8 + (3 + 11) + R'.locals ≤ R.locals) (hb1 : k + R'.cells ≤ R.cells) (hb2 : n + R'.slots ≤ R.slots) (hst : (st.map catP).sum ≤ 8) (kk : ∀ σ', Q σ' → Aw Ω M_Drf_perform R F (k + R'.cells) (n + R'.slots) 69 L st σ') (kx : ∀ E σ', QX' E σ' → Ax Ω M_Drf_perform R F (k + R'.cells) (n + R'.slots) 66 L st σ' E) : Aw Ω M_Drf_perform R F k n 66 L (xi x0 :: xr (some a) :: st) σ :=
  Aw.callV (As := [xi x0]) (stk := xi x0 :: xr (some a) :: st) (nn := 1) 9 M_Txt_takeOut hc ok_Txt_takeOut rfl (by decide) rfl hk ml_Drf_184 im_Txt_takeOut se_Txt_takeOut ⟨hr1, hr2⟩ rfl ⟨hb1, hb2⟩ hst rfl d_Drf_perform_66 (fun r σ' h => by obtain ⟨rfl, h⟩ := h; exact kk σ' h) kx
theorem r_Drf_perform_70 {Ω : Om} {R : Room} {k n : Nat} {L : List PV} {σ : Sto} {QR : Option PV → Sto → Prop} {QX : String → Sto → Prop} {x : Int} (h : QR (some (xi x)) σ) (h1 : k ≤ R.cells) (h2 : n ≤ R.slots) : Aw Ω M_Drf_perform R (MF Ω R QR QX) k n 70 L [xi x] σ := Aw.iret rfl h h1 h2 d_Drf_perform_70
theorem c_Drf_perform_83 {Ω : Om} {R R' : Room} {F : QF} {k n : Nat} {L st : List PV} {σ : Sto} {QX' : String → Sto → Prop} {Q : Sto → Prop} {a : Nat} {x0 : Int} {x1 : Int64} (hc : MC Ω M_Txt_rewrite R' (RV Q) QX' σ [xr (some a), xi x0, xl x1]) (hk : sK σ a = 10) (hr1 : R'.frames + 1 ≤ R.frames) (hr2 : 8 + (4 + 11) + R'.locals ≤ R.locals) (hb1 : k + R'.cells ≤ R.cells) (hb2 : n + R'.slots ≤ R.slots) (hst : (st.map catP).sum ≤ 8) (kk : ∀ σ', Q σ' → Aw Ω M_Drf_perform R F (k + R'.cells) (n + R'.slots) 86 L st σ') (kx : ∀ E σ', QX' E σ' → Ax Ω M_Drf_perform R F (k + R'.cells) (n + R'.slots) 83 L st σ' E) : Aw Ω M_Drf_perform R F k n 83 L (xl x1 :: xi x0 :: xr (some a) :: st) σ :=
  Aw.callV (As := [xi x0, xl x1]) (stk := xl x1 :: xi x0 :: xr (some a) :: st) (nn := 2) 9 M_Txt_rewrite hc ok_Txt_rewrite rfl (by decide) rfl hk ml_Drf_188 im_Txt_rewrite se_Txt_rewrite ⟨hr1, hr2⟩ rfl ⟨hb1, hb2⟩ hst rfl d_Drf_perform_83 (fun r σ' h => by obtain ⟨rfl, h⟩ := h; exact kk σ' h) kx
theorem r_Drf_perform_87 {Ω : Om} {R : Room} {k n : Nat} {L : List PV} {σ : Sto} {QR : Option PV → Sto → Prop} {QX : String → Sto → Prop} {x : Int} (h : QR (some (xi x)) σ) (h1 : k ≤ R.cells) (h2 : n ≤ R.slots) : Aw Ω M_Drf_perform R (MF Ω R QR QX) k n 87 L [xi x] σ := Aw.iret rfl h h1 h2 d_Drf_perform_87
theorem c_Drf_perform_100 {Ω : Om} {R R' : Room} {F : QF} {k n : Nat} {L st : List PV} {σ : Sto} {QX' : String → Sto → Prop} {Q : Sto → Prop} {a : Nat} {x0 : Int} {x1 : Int} (hc : MC Ω M_Txt_shift R' (RV Q) QX' σ [xr (some a), xi x0, xi x1]) (hk : sK σ a = 10) (hr1 : R'.frames + 1 ≤ R.frames) (hr2 : 8 + (6 + 11) + R'.locals ≤ R.locals) (hb1 : k + R'.cells ≤ R.cells) (hb2 : n + R'.slots ≤ R.slots) (hst : (st.map catP).sum ≤ 8) (kk : ∀ σ', Q σ' → Aw Ω M_Drf_perform R F (k + R'.cells) (n + R'.slots) 103 L st σ') (kx : ∀ E σ', QX' E σ' → Ax Ω M_Drf_perform R F (k + R'.cells) (n + R'.slots) 100 L st σ' E) : Aw Ω M_Drf_perform R F k n 100 L (xi x1 :: xi x0 :: xr (some a) :: st) σ :=
  Aw.callV (As := [xi x0, xi x1]) (stk := xi x1 :: xi x0 :: xr (some a) :: st) (nn := 2) 9 M_Txt_shift hc ok_Txt_shift rfl (by decide) rfl hk ml_Drf_195 im_Txt_shift se_Txt_shift ⟨hr1, hr2⟩ rfl ⟨hb1, hb2⟩ hst rfl d_Drf_perform_100 (fun r σ' h => by obtain ⟨rfl, h⟩ := h; exact kk σ' h) kx
theorem r_Drf_perform_104 {Ω : Om} {R : Room} {k n : Nat} {L : List PV} {σ : Sto} {QR : Option PV → Sto → Prop} {QX : String → Sto → Prop} {x : Int} (h : QR (some (xi x)) σ) (h1 : k ≤ R.cells) (h2 : n ≤ R.slots) : Aw Ω M_Drf_perform R (MF Ω R QR QX) k n 104 L [xi x] σ := Aw.iret rfl h h1 h2 d_Drf_perform_104
theorem c_Drf_perform_114 {Ω : Om} {R R' : Room} {F : QF} {k n : Nat} {L st : List PV} {σ : Sto} {QX' : String → Sto → Prop} {Q : Sto → Prop} {a : Nat} {x0 : Int} {x1 : Int} (hc : MC Ω M_Drf_settleBy R' (RV Q) QX' σ [xr (some a), xi x0, xi x1]) (hk : sK σ a = 4) (hr1 : R'.frames + 1 ≤ R.frames) (hr2 : 8 + (4 + 11) + R'.locals ≤ R.locals) (hb1 : k + R'.cells ≤ R.cells) (hb2 : n + R'.slots ≤ R.slots) (hst : (st.map catP).sum ≤ 8) (kk : ∀ σ', Q σ' → Aw Ω M_Drf_perform R F (k + R'.cells) (n + R'.slots) 117 L st σ') (kx : ∀ E σ', QX' E σ' → Ax Ω M_Drf_perform R F (k + R'.cells) (n + R'.slots) 114 L st σ' E) : Aw Ω M_Drf_perform R F k n 114 L (xi x1 :: xi x0 :: xr (some a) :: st) σ :=
  Aw.callV (As := [xi x0, xi x1]) (stk := xi x1 :: xi x0 :: xr (some a) :: st) (nn := 2) 3 M_Drf_settleBy hc ok_Drf_settleBy rfl (by decide) rfl hk ml_Drf_198 im_Drf_settleBy se_Drf_settleBy ⟨hr1, hr2⟩ rfl ⟨hb1, hb2⟩ hst rfl d_Drf_perform_114 (fun r σ' h => by obtain ⟨rfl, h⟩ := h; exact kk σ' h) kx
theorem r_Drf_perform_118 {Ω : Om} {R : Room} {k n : Nat} {L : List PV} {σ : Sto} {QR : Option PV → Sto → Prop} {QX : String → Sto → Prop} {x : Int} (h : QR (some (xi x)) σ) (h1 : k ≤ R.cells) (h2 : n ≤ R.slots) : Aw Ω M_Drf_perform R (MF Ω R QR QX) k n 118 L [xi x] σ := Aw.iret rfl h h1 h2 d_Drf_perform_118
theorem c_Drf_perform_142 {Ω : Om} {R R' : Room} {F : QF} {k n : Nat} {L st : List PV} {σ : Sto} {QX' : String → Sto → Prop} {Q : Int → Sto → Prop} {a : Nat} {x0 : Option Nat} {x1 : Int} (hc : MC Ω M_Pat_layOn R' (RI Q) QX' σ [xr (some a), xr x0, xi x1]) (hk : sK σ a = 8) (hr1 : R'.frames + 1 ≤ R.frames) (hr2 : 8 + (10 + 11) + R'.locals ≤ R.locals) (hb1 : k + R'.cells ≤ R.cells) (hb2 : n + R'.slots ≤ R.slots) (hst : (st.map catP).sum ≤ 8) (kk : ∀ x σ', Q x σ' → Aw Ω M_Drf_perform R F (k + R'.cells) (n + R'.slots) 145 L (xi x :: st) σ') (kx : ∀ E σ', QX' E σ' → Ax Ω M_Drf_perform R F (k + R'.cells) (n + R'.slots) 142 L st σ' E) : Aw Ω M_Drf_perform R F k n 142 L (xi x1 :: xr x0 :: xr (some a) :: st) σ :=
  Aw.callV (As := [xr x0, xi x1]) (stk := xi x1 :: xr x0 :: xr (some a) :: st) (nn := 2) 7 M_Pat_layOn hc ok_Pat_layOn rfl (by decide) rfl hk ml_Drf_205 im_Pat_layOn se_Pat_layOn ⟨hr1, hr2⟩ rfl ⟨hb1, hb2⟩ hst rfl d_Drf_perform_142 (fun r σ' h => by obtain ⟨x, rfl, h⟩ := h; exact kk x σ' h) kx
theorem r_Drf_perform_145 {Ω : Om} {R : Room} {k n : Nat} {L : List PV} {σ : Sto} {QR : Option PV → Sto → Prop} {QX : String → Sto → Prop} {x : Int} (h : QR (some (xi x)) σ) (h1 : k ≤ R.cells) (h2 : n ≤ R.slots) : Aw Ω M_Drf_perform R (MF Ω R QR QX) k n 145 L [xi x] σ := Aw.iret rfl h h1 h2 d_Drf_perform_145
theorem e_Drf_pushBehind {Ω : Om} {R : Room} {QR : Option PV → Sto → Prop} {QX : String → Sto → Prop} {σ : Sto} {a0 : Nat} {v1 : Int} {v2 : Int} (h : Aw Ω M_Drf_pushBehind R (MF Ω R QR QX) 0 0 0 [xr (some a0), xi v1, xi v2, xu] [] σ) : MC Ω M_Drf_pushBehind R QR QX σ [xr (some a0), xi v1, xi v2] := MC.body (by decide +kernel) rfl (Nat.le_of_ble_eq_true rfl) rfl h
theorem b_Drf_pushBehind_0 {Ω : Om} {R : Room} {F : QF} {k n : Nat} {σ : Sto} {a0 : Nat} {v1 : Int} {v2 : Int} (h : Aw Ω M_Drf_pushBehind R F k n 4 [xr (some a0), xi v1, xi v2, xi (v1 + 1)] [] σ) : Aw Ω M_Drf_pushBehind R F k n 0 [xr (some a0), xi v1, xi v2, xu] [] σ := by
  refine Aw.iload_n rfl d_Drf_pushBehind_0 ?_
  refine Aw.iconst d_Drf_pushBehind_1 ?_
  refine Aw.iadd d_Drf_pushBehind_2 ?_
  refine Aw.istore_n (by decide) d_Drf_pushBehind_3 ?_
  refine Aw.toL (L' := [xr (some a0), xi v1, xi v2, xi (v1 + 1)]) rfl ?_
  exact h
theorem b_Drf_pushBehind_4 {Ω : Om} {R : Room} {F : QF} {k n : Nat} {σ : Sto} {a0 : Nat} {v1 : Int} {v2 : Int} {v3 : Int} (h : sK σ a0 = 4 ∧ (Q32 (fI σ 201 a0) → Q32 v3 ∧ (((fI σ 201 a0) ≤ v3 → Aw Ω M_Drf_pushBehind R F k n 33 [xr (some a0), xi v1, xi v2, xi v3] [] σ) ∧ (¬ (fI σ 201 a0) ≤ v3 → (∃ b4 : Nat, fR σ 194 a0 = some b4 ∧ sK σ b4 = 54 ∧ 0 ≤ v3 ∧ v3 < sZ σ b4 ∧ ∃ b9 : Nat, aR σ b4 (v3).toNat = some b9 ∧ sK σ b9 = 3 ∧ (Q32 (fI σ 130 b9) → ∃ b13 : Nat, aR σ b4 (v3).toNat = some b13 ∧ sK σ b13 = 3 ∧ Q32 ((fI σ 130 b9) + v2) ∧ Aw Ω M_Drf_pushBehind R F k n 4 [xr (some a0), xi v1, xi v2, xi (v3 + 1)] [] (uI σ 130 b13 ((fI σ 130 b9) + v2)))))))) : Aw Ω M_Drf_pushBehind R F k n 4 [xr (some a0), xi v1, xi v2, xi v3] [] σ := by
  refine Aw.iload_n rfl d_Drf_pushBehind_4 ?_
  refine Aw.aload_n rfl d_Drf_pushBehind_5 ?_
  obtain ⟨o1, h⟩ := h
  refine Aw.getI (f := 201) 3 9 fl_Drf_53 (by decide) (by decide) rfl rfl o1 d_Drf_pushBehind_6 (fun r2 => ?_)
  have h := h r2
  obtain ⟨o3, h⟩ := h
  obtain ⟨ht, hf⟩ := h
  refine Aw.icmp_ge (tgt := 33) o3 r2 (by decide) d_Drf_pushBehind_9 (fun c17 => ?_) (fun c17 => ?_)
  · have h := ht c17
    exact h
  · have h := hf c17
    refine Aw.aload_n rfl d_Drf_pushBehind_12 ?_
    obtain ⟨b4, e5, h⟩ := h
    refine Aw.getRs (f := 194) 3 2 fl_Drf_27 (by decide) (by decide) rfl rfl o1 e5 d_Drf_pushBehind_13 ?_
    refine Aw.iload_n rfl d_Drf_pushBehind_16 ?_
    obtain ⟨o6, h⟩ := h
    obtain ⟨o7, o8, h⟩ := h
    refine Aw.aald 4 (by decide) (by decide) o6 o7 o8 d_Drf_pushBehind_17 ?_
    refine Aw.dup rfl d_Drf_pushBehind_18 ?_
    obtain ⟨b9, e10, h⟩ := h
    refine Aw.der0 e10 ?_
    obtain ⟨o11, h⟩ := h
    refine Aw.getI (f := 130) 2 2 fl_Drf_121 (by decide) (by decide) rfl rfl o11 d_Drf_pushBehind_19 (fun r12 => ?_)
    have h := h r12
    refine Aw.iload_n rfl d_Drf_pushBehind_22 ?_
    refine Aw.iadd d_Drf_pushBehind_23 ?_
    obtain ⟨b13, e14, h⟩ := h
    refine Aw.der1 e14 ?_
    obtain ⟨o15, h⟩ := h
    obtain ⟨o16, h⟩ := h
    refine Aw.putI (f := 130) 2 2 fl_Drf_121 (by decide) (by decide) rfl rfl o15 rfl o16 (Or.inl rfl) d_Drf_pushBehind_24 ?_
    refine Aw.iinc rfl d_Drf_pushBehind_27 ?_
    refine Aw.toL (L' := [xr (some a0), xi v1, xi v2, xi (v3 + 1)]) rfl ?_
    refine Aw.goto (tgt := 4) (by decide) d_Drf_pushBehind_30 ?_
    exact h
theorem r_Drf_pushBehind_33 {Ω : Om} {R : Room} {k n : Nat} {L : List PV} {σ : Sto} {QR : Option PV → Sto → Prop} {QX : String → Sto → Prop} (h : QR none σ) (h1 : k ≤ R.cells) (h2 : n ≤ R.slots) : Aw Ω M_Drf_pushBehind R (MF Ω R QR QX) k n 33 L [] σ := Aw.vret rfl h h1 h2 d_Drf_pushBehind_33
theorem e_Drf_putPiece {Ω : Om} {R : Room} {QR : Option PV → Sto → Prop} {QX : String → Sto → Prop} {σ : Sto} {a0 : Nat} {a1 : Nat} {v2 : Int} {v3 : Int} (h : Aw Ω M_Drf_putPiece R (MF Ω R QR QX) 0 0 0 [xr (some a0), xr (some a1), xi v2, xi v3] [] σ) : MC Ω M_Drf_putPiece R QR QX σ [xr (some a0), xr (some a1), xi v2, xi v3] := MC.body (by decide +kernel) rfl (Nat.le_of_ble_eq_true rfl) rfl h
theorem b_Drf_putPiece_0 {Ω : Om} {R : Room} {F : QF} {k n : Nat} {σ : Sto} {a0 : Nat} {a1 : Nat} {v2 : Int} {v3 : Int} (h : sK σ a0 = 4 ∧ (∃ b2 : Nat, fR σ 192 a0 = some b2 ∧ Aw Ω M_Drf_putPiece R F k n 7 [xr (some a0), xr (some a1), xi v2, xi v3] [xi v2, xr (some a0), xi v3, xr (some b2)] σ)) : Aw Ω M_Drf_putPiece R F k n 0 [xr (some a0), xr (some a1), xi v2, xi v3] [] σ := by
  refine Aw.aload_n rfl d_Drf_putPiece_0 ?_
  obtain ⟨o1, h⟩ := h
  obtain ⟨b2, e3, h⟩ := h
  refine Aw.getRs (f := 192) 3 0 fl_Drf_12 (by decide) (by decide) rfl rfl o1 e3 d_Drf_putPiece_1 ?_
  refine Aw.iload_n rfl d_Drf_putPiece_4 ?_
  refine Aw.aload_n rfl d_Drf_putPiece_5 ?_
  refine Aw.iload_n rfl d_Drf_putPiece_6 ?_
  exact h
theorem b_Drf_putPiece_10 {Ω : Om} {R : Room} {F : QF} {k n : Nat} {σ : Sto} {a0 : Nat} {a1 : Nat} {v2 : Int} {v3 : Int} {s0 : Nat} {s1 : Int} {s2 : Nat} (h : sK σ a1 = 3 ∧ (∃ b2 : Nat, fR σ 128 a1 = some b2 ∧ sK σ b2 = 50 ∧ 0 ≤ v2 ∧ v2 < sZ σ b2 ∧ (Q32 (aI σ b2 (v2).toNat) → (∃ b8 : Nat, fR σ 129 a1 = some b8 ∧ sK σ b8 = 50 ∧ 0 ≤ v2 ∧ v2 < sZ σ b8 ∧ (Q32 (aI σ b8 (v2).toNat) → Aw Ω M_Drf_putPiece R F k n 22 [xr (some a0), xr (some a1), xi v2, xi v3] [xi (aI σ b8 (v2).toNat), xi (aI σ b2 (v2).toNat), xr (some s2), xi s1, xr (some s0)] σ))))) : Aw Ω M_Drf_putPiece R F k n 10 [xr (some a0), xr (some a1), xi v2, xi v3] [xr (some s2), xi s1, xr (some s0)] σ := by
  refine Aw.aload_n rfl d_Drf_putPiece_10 ?_
  obtain ⟨o1, h⟩ := h
  obtain ⟨b2, e3, h⟩ := h
  refine Aw.getRs (f := 128) 2 0 fl_Drf_114 (by decide) (by decide) rfl rfl o1 e3 d_Drf_putPiece_11 ?_
  refine Aw.iload_n rfl d_Drf_putPiece_14 ?_
  obtain ⟨o4, h⟩ := h
  obtain ⟨o5, o6, h⟩ := h
  refine Aw.iald o4 o5 o6 d_Drf_putPiece_15 (fun r7 => ?_)
  have h := h r7
  refine Aw.aload_n rfl d_Drf_putPiece_16 ?_
  obtain ⟨b8, e9, h⟩ := h
  refine Aw.getRs (f := 129) 2 1 fl_Drf_118 (by decide) (by decide) rfl rfl o1 e9 d_Drf_putPiece_17 ?_
  refine Aw.iload_n rfl d_Drf_putPiece_20 ?_
  obtain ⟨o10, h⟩ := h
  obtain ⟨o11, o12, h⟩ := h
  refine Aw.iald o10 o11 o12 d_Drf_putPiece_21 (fun r13 => ?_)
  have h := h r13
  exact h
theorem c_Drf_putPiece_7 {Ω : Om} {R R' : Room} {F : QF} {k n : Nat} {L st : List PV} {σ : Sto} {QX' : String → Sto → Prop} {Q : Option Nat → Sto → Prop} {a : Nat} {x0 : Int} (hc : MC Ω M_Drf_sourceOf R' (RR Q) QX' σ [xr (some a), xi x0]) (hk : sK σ a = 4) (hr1 : R'.frames + 1 ≤ R.frames) (hr2 : 8 + (2 + 11) + R'.locals ≤ R.locals) (hb1 : k + R'.cells ≤ R.cells) (hb2 : n + R'.slots ≤ R.slots) (hst : (st.map catP).sum ≤ 8) (kk : ∀ x σ', Q x σ' → Aw Ω M_Drf_putPiece R F (k + R'.cells) (n + R'.slots) 10 L (xr x :: st) σ') (kx : ∀ E σ', QX' E σ' → Ax Ω M_Drf_putPiece R F (k + R'.cells) (n + R'.slots) 7 L st σ' E) : Aw Ω M_Drf_putPiece R F k n 7 L (xi x0 :: xr (some a) :: st) σ :=
  Aw.callV (As := [xi x0]) (stk := xi x0 :: xr (some a) :: st) (nn := 1) 3 M_Drf_sourceOf hc ok_Drf_sourceOf rfl (by decide) rfl hk ml_Drf_136 im_Drf_sourceOf se_Drf_sourceOf ⟨hr1, hr2⟩ rfl ⟨hb1, hb2⟩ hst rfl d_Drf_putPiece_7 (fun r σ' h => by obtain ⟨x, rfl, h⟩ := h; exact kk x σ' h) kx
theorem c_Drf_putPiece_22 {Ω : Om} {R R' : Room} {F : QF} {k n : Nat} {L st : List PV} {σ : Sto} {QX' : String → Sto → Prop} {Q : Int → Sto → Prop} {a : Nat} {x0 : Int} {x1 : Option Nat} {x2 : Int} {x3 : Int} (hc : MC Ω M_Txt_putRow R' (RI Q) QX' σ [xr (some a), xi x0, xr x1, xi x2, xi x3]) (hk : sK σ a = 10) (hr1 : R'.frames + 1 ≤ R.frames) (hr2 : 8 + (7 + 11) + R'.locals ≤ R.locals) (hb1 : k + R'.cells ≤ R.cells) (hb2 : n + R'.slots ≤ R.slots) (hst : (st.map catP).sum ≤ 8) (kk : ∀ x σ', Q x σ' → Aw Ω M_Drf_putPiece R F (k + R'.cells) (n + R'.slots) 25 L (xi x :: st) σ') (kx : ∀ E σ', QX' E σ' → Ax Ω M_Drf_putPiece R F (k + R'.cells) (n + R'.slots) 22 L st σ' E) : Aw Ω M_Drf_putPiece R F k n 22 L (xi x3 :: xi x2 :: xr x1 :: xi x0 :: xr (some a) :: st) σ :=
  Aw.callV (As := [xi x0, xr x1, xi x2, xi x3]) (stk := xi x3 :: xi x2 :: xr x1 :: xi x0 :: xr (some a) :: st) (nn := 4) 9 M_Txt_putRow hc ok_Txt_putRow rfl (by decide) rfl hk ml_Drf_104 im_Txt_putRow se_Txt_putRow ⟨hr1, hr2⟩ rfl ⟨hb1, hb2⟩ hst rfl d_Drf_putPiece_22 (fun r σ' h => by obtain ⟨x, rfl, h⟩ := h; exact kk x σ' h) kx
theorem r_Drf_putPiece_25 {Ω : Om} {R : Room} {k n : Nat} {L : List PV} {σ : Sto} {QR : Option PV → Sto → Prop} {QX : String → Sto → Prop} {x : Int} (h : QR (some (xi x)) σ) (h1 : k ≤ R.cells) (h2 : n ≤ R.slots) : Aw Ω M_Drf_putPiece R (MF Ω R QR QX) k n 25 L [xi x] σ := Aw.iret rfl h h1 h2 d_Drf_putPiece_25
theorem e_Drf_reopen {Ω : Om} {R : Room} {QR : Option PV → Sto → Prop} {QX : String → Sto → Prop} {σ : Sto} {a0 : Nat} {v1 : Int} {v2 : Int} (h : Aw Ω M_Drf_reopen R (MF Ω R QR QX) 0 0 0 [xr (some a0), xi v1, xi v2] [] σ) : MC Ω M_Drf_reopen R QR QX σ [xr (some a0), xi v1, xi v2] := MC.body (by decide +kernel) rfl (Nat.le_of_ble_eq_true rfl) rfl h
theorem b_Drf_reopen_0 {Ω : Om} {R : Room} {F : QF} {k n : Nat} {σ : Sto} {a0 : Nat} {v1 : Int} {v2 : Int} (h : Q32 v1 ∧ ((v1 < (0 : Int) → Aw Ω M_Drf_reopen R F k n 12 [xr (some a0), xi v1, xi v2] [] σ) ∧ (¬ v1 < (0 : Int) → sK σ a0 = 4 ∧ (Q32 (fI σ 201 a0) → ((v1 < (fI σ 201 a0) → (∃ b4 : Nat, fR σ 194 a0 = some b4 ∧ sK σ b4 = 54 ∧ 0 ≤ v1 ∧ v1 < sZ σ b4 ∧ ∃ b9 : Nat, aR σ b4 (v1).toNat = some b9 ∧ sK σ b9 = 3 ∧ (Q32 (fI (uI σ 131 b9 0) 202 a0) → Q32 ((fI (uI σ 131 b9 0) 202 a0) + 1) ∧ Aw Ω M_Drf_reopen R F k n 38 [xr (some a0), xi v1, xi v2] [xi v2, xi v1, xr (some a0), xi v1, xr (some a0)] (uI (uI σ 131 b9 0) 202 a0 ((fI (uI σ 131 b9 0) 202 a0) + 1))))) ∧ (¬ v1 < (fI σ 201 a0) → Aw Ω M_Drf_reopen R F k n 12 [xr (some a0), xi v1, xi v2] [] σ)))))) : Aw Ω M_Drf_reopen R F k n 0 [xr (some a0), xi v1, xi v2] [] σ := by
  refine Aw.iload_n rfl d_Drf_reopen_0 ?_
  obtain ⟨o1, h⟩ := h
  obtain ⟨ht, hf⟩ := h
  refine Aw.if_lt (tgt := 12) o1 (by decide) d_Drf_reopen_1 (fun c15 => ?_) (fun c15 => ?_)
  · have h := ht c15
    exact h
  · have h := hf c15
    refine Aw.iload_n rfl d_Drf_reopen_4 ?_
    refine Aw.aload_n rfl d_Drf_reopen_5 ?_
    obtain ⟨o2, h⟩ := h
    refine Aw.getI (f := 201) 3 9 fl_Drf_53 (by decide) (by decide) rfl rfl o2 d_Drf_reopen_6 (fun r3 => ?_)
    have h := h r3
    obtain ⟨ht, hf⟩ := h
    refine Aw.icmp_lt (tgt := 13) o1 r3 (by decide) d_Drf_reopen_9 (fun c14 => ?_) (fun c14 => ?_)
    · have h := ht c14
      refine Aw.aload_n rfl d_Drf_reopen_13 ?_
      obtain ⟨b4, e5, h⟩ := h
      refine Aw.getRs (f := 194) 3 2 fl_Drf_27 (by decide) (by decide) rfl rfl o2 e5 d_Drf_reopen_14 ?_
      refine Aw.iload_n rfl d_Drf_reopen_17 ?_
      obtain ⟨o6, h⟩ := h
      obtain ⟨o7, o8, h⟩ := h
      refine Aw.aald 4 (by decide) (by decide) o6 o7 o8 d_Drf_reopen_18 ?_
      refine Aw.iconst d_Drf_reopen_19 ?_
      obtain ⟨b9, e10, h⟩ := h
      refine Aw.der1 e10 ?_
      obtain ⟨o11, h⟩ := h
      refine Aw.putI (f := 131) 2 3 fl_Drf_124 (by decide) (by decide) rfl rfl o11 rfl ⟨by decide, by decide⟩ (Or.inr ⟨rfl, by decide⟩) d_Drf_reopen_20 ?_
      refine Aw.aload_n rfl d_Drf_reopen_23 ?_
      refine Aw.dup rfl d_Drf_reopen_24 ?_
      refine Aw.getI (f := 202) 3 10 fl_Drf_57 (by decide) (by decide) rfl rfl o2 d_Drf_reopen_25 (fun r12 => ?_)
      have h := h r12
      refine Aw.iconst d_Drf_reopen_28 ?_
      refine Aw.iadd d_Drf_reopen_29 ?_
      obtain ⟨o13, h⟩ := h
      refine Aw.putI (f := 202) 3 10 fl_Drf_57 (by decide) (by decide) rfl rfl o2 rfl o13 (Or.inl rfl) d_Drf_reopen_30 ?_
      refine Aw.aload_n rfl d_Drf_reopen_33 ?_
      refine Aw.iload_n rfl d_Drf_reopen_34 ?_
      refine Aw.aload_n rfl d_Drf_reopen_35 ?_
      refine Aw.iload_n rfl d_Drf_reopen_36 ?_
      refine Aw.iload_n rfl d_Drf_reopen_37 ?_
      exact h
    · have h := hf c14
      exact h
theorem b_Drf_reopen_41 {Ω : Om} {R : Room} {F : QF} {k n : Nat} {σ : Sto} {a0 : Nat} {v1 : Int} {v2 : Int} {s0 : Nat} {s1 : Int} {s2 : Int} (h : Aw Ω M_Drf_reopen R F k n 42 [xr (some a0), xi v1, xi v2] [xi (-s2), xi s1, xr (some s0)] σ) : Aw Ω M_Drf_reopen R F k n 41 [xr (some a0), xi v1, xi v2] [xi s2, xi s1, xr (some s0)] σ := by
  refine Aw.ineg d_Drf_reopen_41 ?_
  exact h
theorem r_Drf_reopen_12 {Ω : Om} {R : Room} {k n : Nat} {L : List PV} {σ : Sto} {QR : Option PV → Sto → Prop} {QX : String → Sto → Prop} (h : QR none σ) (h1 : k ≤ R.cells) (h2 : n ≤ R.slots) : Aw Ω M_Drf_reopen R (MF Ω R QR QX) k n 12 L [] σ := Aw.vret rfl h h1 h2 d_Drf_reopen_12
theorem c_Drf_reopen_38 {Ω : Om} {R R' : Room} {F : QF} {k n : Nat} {L st : List PV} {σ : Sto} {QX' : String → Sto → Prop} {Q : Int → Sto → Prop} {a : Nat} {x0 : Int} {x1 : Int} (hc : MC Ω M_Drf_linesPut R' (RI Q) QX' σ [xr (some a), xi x0, xi x1]) (hk : sK σ a = 4) (hr1 : R'.frames + 1 ≤ R.frames) (hr2 : 8 + (4 + 11) + R'.locals ≤ R.locals) (hb1 : k + R'.cells ≤ R.cells) (hb2 : n + R'.slots ≤ R.slots) (hst : (st.map catP).sum ≤ 8) (kk : ∀ x σ', Q x σ' → Aw Ω M_Drf_reopen R F (k + R'.cells) (n + R'.slots) 41 L (xi x :: st) σ') (kx : ∀ E σ', QX' E σ' → Ax Ω M_Drf_reopen R F (k + R'.cells) (n + R'.slots) 38 L st σ' E) : Aw Ω M_Drf_reopen R F k n 38 L (xi x1 :: xi x0 :: xr (some a) :: st) σ :=
  Aw.callV (As := [xi x0, xi x1]) (stk := xi x1 :: xi x0 :: xr (some a) :: st) (nn := 2) 3 M_Drf_linesPut hc ok_Drf_linesPut rfl (by decide) rfl hk ml_Drf_150 im_Drf_linesPut se_Drf_linesPut ⟨hr1, hr2⟩ rfl ⟨hb1, hb2⟩ hst rfl d_Drf_reopen_38 (fun r σ' h => by obtain ⟨x, rfl, h⟩ := h; exact kk x σ' h) kx
theorem c_Drf_reopen_42 {Ω : Om} {R R' : Room} {F : QF} {k n : Nat} {L st : List PV} {σ : Sto} {QX' : String → Sto → Prop} {Q : Sto → Prop} {a : Nat} {x0 : Int} {x1 : Int} (hc : MC Ω M_Drf_pushBehind R' (RV Q) QX' σ [xr (some a), xi x0, xi x1]) (hk : sK σ a = 4) (hr1 : R'.frames + 1 ≤ R.frames) (hr2 : 8 + (4 + 11) + R'.locals ≤ R.locals) (hb1 : k + R'.cells ≤ R.cells) (hb2 : n + R'.slots ≤ R.slots) (hst : (st.map catP).sum ≤ 8) (kk : ∀ σ', Q σ' → Aw Ω M_Drf_reopen R F (k + R'.cells) (n + R'.slots) 45 L st σ') (kx : ∀ E σ', QX' E σ' → Ax Ω M_Drf_reopen R F (k + R'.cells) (n + R'.slots) 42 L st σ' E) : Aw Ω M_Drf_reopen R F k n 42 L (xi x1 :: xi x0 :: xr (some a) :: st) σ :=
  Aw.callV (As := [xi x0, xi x1]) (stk := xi x1 :: xi x0 :: xr (some a) :: st) (nn := 2) 3 M_Drf_pushBehind hc ok_Drf_pushBehind rfl (by decide) rfl hk ml_Drf_153 im_Drf_pushBehind se_Drf_pushBehind ⟨hr1, hr2⟩ rfl ⟨hb1, hb2⟩ hst rfl d_Drf_reopen_42 (fun r σ' h => by obtain ⟨rfl, h⟩ := h; exact kk σ' h) kx
theorem r_Drf_reopen_45 {Ω : Om} {R : Room} {k n : Nat} {L : List PV} {σ : Sto} {QR : Option PV → Sto → Prop} {QX : String → Sto → Prop} (h : QR none σ) (h1 : k ≤ R.cells) (h2 : n ≤ R.slots) : Aw Ω M_Drf_reopen R (MF Ω R QR QX) k n 45 L [] σ := Aw.vret rfl h h1 h2 d_Drf_reopen_45
theorem e_Drf_settleBy {Ω : Om} {R : Room} {QR : Option PV → Sto → Prop} {QX : String → Sto → Prop} {σ : Sto} {a0 : Nat} {v1 : Int} {v2 : Int} (h : Aw Ω M_Drf_settleBy R (MF Ω R QR QX) 0 0 0 [xr (some a0), xi v1, xi v2, xu] [] σ) : MC Ω M_Drf_settleBy R QR QX σ [xr (some a0), xi v1, xi v2] := MC.body (by decide +kernel) rfl (Nat.le_of_ble_eq_true rfl) rfl h
theorem b_Drf_settleBy_0 {Ω : Om} {R : Room} {F : QF} {k n : Nat} {σ : Sto} {a0 : Nat} {v1 : Int} {v2 : Int} (h : Aw Ω M_Drf_settleBy R F k n 2 [xr (some a0), xi v1, xi v2, xu] [xi v1, xr (some a0)] σ) : Aw Ω M_Drf_settleBy R F k n 0 [xr (some a0), xi v1, xi v2, xu] [] σ := by
  refine Aw.aload_n rfl d_Drf_settleBy_0 ?_
  refine Aw.iload_n rfl d_Drf_settleBy_1 ?_
  exact h
theorem b_Drf_settleBy_5 {Ω : Om} {R : Room} {F : QF} {k n : Nat} {σ : Sto} {a0 : Nat} {v1 : Int} {v2 : Int} {s0 : Int} (h : Q32 s0 ∧ ((s0 = (0 : Int) → sK σ a0 = 4 ∧ (∃ b3 : Nat, fR σ 194 a0 = some b3 ∧ sK σ b3 = 54 ∧ 0 ≤ v1 ∧ v1 < sZ σ b3 ∧ Q32 v2 ∧ ((¬ v2 = (3 : Int) → ((¬ v2 = (4 : Int) → ((v2 < (0 : Int) → ∃ b9 : Nat, aR σ b3 (v1).toNat = some b9 ∧ sK σ b9 = 3 ∧ (Q32 (fI (uI σ 131 b9 1) 202 a0) → Q32 ((fI (uI σ 131 b9 1) 202 a0) - 1) ∧ Aw Ω M_Drf_settleBy R F k n 106 [xr (some a0), xi v1, xi v2, xr (aR σ b3 (v1).toNat)] [xi v2, xi v1, xr (some a0), xi v1, xr (some a0)] (uI (uI σ 131 b9 1) 202 a0 ((fI (uI σ 131 b9 1) 202 a0) - 1)))) ∧ (¬ v2 < (0 : Int) → (((2 : Int) < v2 → ∃ b14 : Nat, aR σ b3 (v1).toNat = some b14 ∧ sK σ b14 = 3 ∧ (Q32 (fI (uI σ 131 b14 1) 202 a0) → Q32 ((fI (uI σ 131 b14 1) 202 a0) - 1) ∧ Aw Ω M_Drf_settleBy R F k n 106 [xr (some a0), xi v1, xi v2, xr (aR σ b3 (v1).toNat)] [xi v2, xi v1, xr (some a0), xi v1, xr (some a0)] (uI (uI σ 131 b14 1) 202 a0 ((fI (uI σ 131 b14 1) 202 a0) - 1)))) ∧ (¬ (2 : Int) < v2 → ∃ b19 : Nat, aR σ b3 (v1).toNat = some b19 ∧ sK σ b19 = 3 ∧ (Q32 (fI σ 130 b19) → Aw Ω M_Drf_settleBy R F k n 82 [xr (some a0), xi v1, xi v2, xr (aR σ b3 (v1).toNat)] [xi (fI σ 130 b19), xi v2, xr (aR σ b3 (v1).toNat), xr (some a0)] σ)))))) ∧ (v2 = (4 : Int) → ∃ b25 : Nat, aR σ b3 (v1).toNat = some b25 ∧ sK σ b25 = 3 ∧ (Q32 (fI σ 130 b25) → Aw Ω M_Drf_settleBy R F k n 56 [xr (some a0), xi v1, xi v2, xr (aR σ b3 (v1).toNat)] [xi (fI σ 130 b25), xi 1, xr (aR σ b3 (v1).toNat), xr (some a0), xi 0, xr (aR σ b3 (v1).toNat), xr (some a0)] σ)))) ∧ (v2 = (3 : Int) → ∃ b30 : Nat, aR σ b3 (v1).toNat = some b30 ∧ sK σ b30 = 3 ∧ (Q32 (fI σ 130 b30) → Aw Ω M_Drf_settleBy R F k n 31 [xr (some a0), xi v1, xi v2, xr (aR σ b3 (v1).toNat)] [xi (fI σ 130 b30), xi 0, xr (aR σ b3 (v1).toNat), xr (some a0), xi 1, xr (aR σ b3 (v1).toNat), xr (some a0)] σ))))) ∧ (¬ s0 = (0 : Int) → Aw Ω M_Drf_settleBy R F k n 8 [xr (some a0), xi v1, xi v2, xu] [] σ))) : Aw Ω M_Drf_settleBy R F k n 5 [xr (some a0), xi v1, xi v2, xu] [xi s0] σ := by
  obtain ⟨o1, h⟩ := h
  obtain ⟨ht, hf⟩ := h
  refine Aw.if_eq (tgt := 9) o1 (by decide) d_Drf_settleBy_5 (fun c35 => ?_) (fun c35 => ?_)
  · have h := ht c35
    refine Aw.aload_n rfl d_Drf_settleBy_9 ?_
    obtain ⟨o2, h⟩ := h
    obtain ⟨b3, e4, h⟩ := h
    refine Aw.getRs (f := 194) 3 2 fl_Drf_27 (by decide) (by decide) rfl rfl o2 e4 d_Drf_settleBy_10 ?_
    refine Aw.iload_n rfl d_Drf_settleBy_13 ?_
    obtain ⟨o5, h⟩ := h
    obtain ⟨o6, o7, h⟩ := h
    refine Aw.aald 4 (by decide) (by decide) o5 o6 o7 d_Drf_settleBy_14 ?_
    refine Aw.astore_n (by decide) d_Drf_settleBy_15 ?_
    refine Aw.toL (L' := [xr (some a0), xi v1, xi v2, xr (aR σ b3 (v1).toNat)]) rfl ?_
    refine Aw.iload_n rfl d_Drf_settleBy_16 ?_
    refine Aw.iconst d_Drf_settleBy_17 ?_
    obtain ⟨o8, h⟩ := h
    obtain ⟨ht, hf⟩ := h
    refine Aw.icmp_ne (tgt := 41) o8 ⟨by decide, by decide⟩ (by decide) d_Drf_settleBy_18 (fun c34 => ?_) (fun c34 => ?_)
    · have h := ht c34
      refine Aw.iload_n rfl d_Drf_settleBy_41 ?_
      refine Aw.iconst d_Drf_settleBy_42 ?_
      obtain ⟨ht, hf⟩ := h
      refine Aw.icmp_ne (tgt := 66) o8 ⟨by decide, by decide⟩ (by decide) d_Drf_settleBy_43 (fun c29 => ?_) (fun c29 => ?_)
      · have h := ht c29
        refine Aw.iload_n rfl d_Drf_settleBy_66 ?_
        obtain ⟨ht, hf⟩ := h
        refine Aw.if_lt (tgt := 86) o8 (by decide) d_Drf_settleBy_67 (fun c24 => ?_) (fun c24 => ?_)
        · have h := ht c24
          refine Aw.aload_n rfl d_Drf_settleBy_86 ?_
          refine Aw.iconst d_Drf_settleBy_87 ?_
          obtain ⟨b9, e10, h⟩ := h
          refine Aw.der1 e10 ?_
          obtain ⟨o11, h⟩ := h
          refine Aw.putI (f := 131) 2 3 fl_Drf_124 (by decide) (by decide) rfl rfl o11 rfl ⟨by decide, by decide⟩ (Or.inr ⟨rfl, by decide⟩) d_Drf_settleBy_88 ?_
          refine Aw.aload_n rfl d_Drf_settleBy_91 ?_
          refine Aw.dup rfl d_Drf_settleBy_92 ?_
          refine Aw.getI (f := 202) 3 10 fl_Drf_57 (by decide) (by decide) rfl rfl o2 d_Drf_settleBy_93 (fun r12 => ?_)
          have h := h r12
          refine Aw.iconst d_Drf_settleBy_96 ?_
          refine Aw.isub d_Drf_settleBy_97 ?_
          obtain ⟨o13, h⟩ := h
          refine Aw.putI (f := 202) 3 10 fl_Drf_57 (by decide) (by decide) rfl rfl o2 rfl o13 (Or.inl rfl) d_Drf_settleBy_98 ?_
          refine Aw.aload_n rfl d_Drf_settleBy_101 ?_
          refine Aw.iload_n rfl d_Drf_settleBy_102 ?_
          refine Aw.aload_n rfl d_Drf_settleBy_103 ?_
          refine Aw.iload_n rfl d_Drf_settleBy_104 ?_
          refine Aw.iload_n rfl d_Drf_settleBy_105 ?_
          exact h
        · have h := hf c24
          refine Aw.iload_n rfl d_Drf_settleBy_70 ?_
          refine Aw.iconst d_Drf_settleBy_71 ?_
          obtain ⟨ht, hf⟩ := h
          refine Aw.icmp_gt (tgt := 86) o8 ⟨by decide, by decide⟩ (by decide) d_Drf_settleBy_72 (fun c23 => ?_) (fun c23 => ?_)
          · have h := ht c23
            refine Aw.aload_n rfl d_Drf_settleBy_86 ?_
            refine Aw.iconst d_Drf_settleBy_87 ?_
            obtain ⟨b14, e15, h⟩ := h
            refine Aw.der1 e15 ?_
            obtain ⟨o16, h⟩ := h
            refine Aw.putI (f := 131) 2 3 fl_Drf_124 (by decide) (by decide) rfl rfl o16 rfl ⟨by decide, by decide⟩ (Or.inr ⟨rfl, by decide⟩) d_Drf_settleBy_88 ?_
            refine Aw.aload_n rfl d_Drf_settleBy_91 ?_
            refine Aw.dup rfl d_Drf_settleBy_92 ?_
            refine Aw.getI (f := 202) 3 10 fl_Drf_57 (by decide) (by decide) rfl rfl o2 d_Drf_settleBy_93 (fun r17 => ?_)
            have h := h r17
            refine Aw.iconst d_Drf_settleBy_96 ?_
            refine Aw.isub d_Drf_settleBy_97 ?_
            obtain ⟨o18, h⟩ := h
            refine Aw.putI (f := 202) 3 10 fl_Drf_57 (by decide) (by decide) rfl rfl o2 rfl o18 (Or.inl rfl) d_Drf_settleBy_98 ?_
            refine Aw.aload_n rfl d_Drf_settleBy_101 ?_
            refine Aw.iload_n rfl d_Drf_settleBy_102 ?_
            refine Aw.aload_n rfl d_Drf_settleBy_103 ?_
            refine Aw.iload_n rfl d_Drf_settleBy_104 ?_
            refine Aw.iload_n rfl d_Drf_settleBy_105 ?_
            exact h
          · have h := hf c23
            refine Aw.aload_n rfl d_Drf_settleBy_75 ?_
            refine Aw.aload_n rfl d_Drf_settleBy_76 ?_
            refine Aw.iload_n rfl d_Drf_settleBy_77 ?_
            refine Aw.aload_n rfl d_Drf_settleBy_78 ?_
            obtain ⟨b19, e20, h⟩ := h
            refine Aw.der0 e20 ?_
            obtain ⟨o21, h⟩ := h
            refine Aw.getI (f := 130) 2 2 fl_Drf_121 (by decide) (by decide) rfl rfl o21 d_Drf_settleBy_79 (fun r22 => ?_)
            have h := h r22
            exact h
      · have h := hf c29
        refine Aw.aload_n rfl d_Drf_settleBy_46 ?_
        refine Aw.aload_n rfl d_Drf_settleBy_47 ?_
        refine Aw.iconst d_Drf_settleBy_48 ?_
        refine Aw.aload_n rfl d_Drf_settleBy_49 ?_
        refine Aw.aload_n rfl d_Drf_settleBy_50 ?_
        refine Aw.iconst d_Drf_settleBy_51 ?_
        refine Aw.aload_n rfl d_Drf_settleBy_52 ?_
        obtain ⟨b25, e26, h⟩ := h
        refine Aw.der0 e26 ?_
        obtain ⟨o27, h⟩ := h
        refine Aw.getI (f := 130) 2 2 fl_Drf_121 (by decide) (by decide) rfl rfl o27 d_Drf_settleBy_53 (fun r28 => ?_)
        have h := h r28
        exact h
    · have h := hf c34
      refine Aw.aload_n rfl d_Drf_settleBy_21 ?_
      refine Aw.aload_n rfl d_Drf_settleBy_22 ?_
      refine Aw.iconst d_Drf_settleBy_23 ?_
      refine Aw.aload_n rfl d_Drf_settleBy_24 ?_
      refine Aw.aload_n rfl d_Drf_settleBy_25 ?_
      refine Aw.iconst d_Drf_settleBy_26 ?_
      refine Aw.aload_n rfl d_Drf_settleBy_27 ?_
      obtain ⟨b30, e31, h⟩ := h
      refine Aw.der0 e31 ?_
      obtain ⟨o32, h⟩ := h
      refine Aw.getI (f := 130) 2 2 fl_Drf_121 (by decide) (by decide) rfl rfl o32 d_Drf_settleBy_28 (fun r33 => ?_)
      have h := h r33
      exact h
  · have h := hf c35
    exact h
theorem b_Drf_settleBy_37 {Ω : Om} {R : Room} {F : QF} {k n : Nat} {σ : Sto} {a0 : Nat} {v1 : Int} {v2 : Int} {a3 : Nat} {s0 : Int} (h : sK σ a3 = 3 ∧ sK σ a0 = 4 ∧ (Q32 (fI (uI σ 131 a3 1) 202 a0) → Q32 ((fI (uI σ 131 a3 1) 202 a0) - 1) ∧ Aw Ω M_Drf_settleBy R F k n 106 [xr (some a0), xi v1, xi v2, xr (some a3)] [xi v2, xi v1, xr (some a0), xi v1, xr (some a0)] (uI (uI σ 131 a3 1) 202 a0 ((fI (uI σ 131 a3 1) 202 a0) - 1)))) : Aw Ω M_Drf_settleBy R F k n 37 [xr (some a0), xi v1, xi v2, xr (some a3)] [xi s0] σ := by
  refine Aw.pop rfl d_Drf_settleBy_37 ?_
  refine Aw.goto (tgt := 86) (by decide) d_Drf_settleBy_38 ?_
  refine Aw.aload_n rfl d_Drf_settleBy_86 ?_
  refine Aw.iconst d_Drf_settleBy_87 ?_
  obtain ⟨o1, h⟩ := h
  refine Aw.putI (f := 131) 2 3 fl_Drf_124 (by decide) (by decide) rfl rfl o1 rfl ⟨by decide, by decide⟩ (Or.inr ⟨rfl, by decide⟩) d_Drf_settleBy_88 ?_
  refine Aw.aload_n rfl d_Drf_settleBy_91 ?_
  refine Aw.dup rfl d_Drf_settleBy_92 ?_
  obtain ⟨o2, h⟩ := h
  refine Aw.getI (f := 202) 3 10 fl_Drf_57 (by decide) (by decide) rfl rfl o2 d_Drf_settleBy_93 (fun r3 => ?_)
  have h := h r3
  refine Aw.iconst d_Drf_settleBy_96 ?_
  refine Aw.isub d_Drf_settleBy_97 ?_
  obtain ⟨o4, h⟩ := h
  refine Aw.putI (f := 202) 3 10 fl_Drf_57 (by decide) (by decide) rfl rfl o2 rfl o4 (Or.inl rfl) d_Drf_settleBy_98 ?_
  refine Aw.aload_n rfl d_Drf_settleBy_101 ?_
  refine Aw.iload_n rfl d_Drf_settleBy_102 ?_
  refine Aw.aload_n rfl d_Drf_settleBy_103 ?_
  refine Aw.iload_n rfl d_Drf_settleBy_104 ?_
  refine Aw.iload_n rfl d_Drf_settleBy_105 ?_
  exact h
theorem b_Drf_settleBy_62 {Ω : Om} {R : Room} {F : QF} {k n : Nat} {σ : Sto} {a0 : Nat} {v1 : Int} {v2 : Int} {a3 : Nat} {s0 : Int} (h : sK σ a3 = 3 ∧ sK σ a0 = 4 ∧ (Q32 (fI (uI σ 131 a3 1) 202 a0) → Q32 ((fI (uI σ 131 a3 1) 202 a0) - 1) ∧ Aw Ω M_Drf_settleBy R F k n 106 [xr (some a0), xi v1, xi v2, xr (some a3)] [xi v2, xi v1, xr (some a0), xi v1, xr (some a0)] (uI (uI σ 131 a3 1) 202 a0 ((fI (uI σ 131 a3 1) 202 a0) - 1)))) : Aw Ω M_Drf_settleBy R F k n 62 [xr (some a0), xi v1, xi v2, xr (some a3)] [xi s0] σ := by
  refine Aw.pop rfl d_Drf_settleBy_62 ?_
  refine Aw.goto (tgt := 86) (by decide) d_Drf_settleBy_63 ?_
  refine Aw.aload_n rfl d_Drf_settleBy_86 ?_
  refine Aw.iconst d_Drf_settleBy_87 ?_
  obtain ⟨o1, h⟩ := h
  refine Aw.putI (f := 131) 2 3 fl_Drf_124 (by decide) (by decide) rfl rfl o1 rfl ⟨by decide, by decide⟩ (Or.inr ⟨rfl, by decide⟩) d_Drf_settleBy_88 ?_
  refine Aw.aload_n rfl d_Drf_settleBy_91 ?_
  refine Aw.dup rfl d_Drf_settleBy_92 ?_
  obtain ⟨o2, h⟩ := h
  refine Aw.getI (f := 202) 3 10 fl_Drf_57 (by decide) (by decide) rfl rfl o2 d_Drf_settleBy_93 (fun r3 => ?_)
  have h := h r3
  refine Aw.iconst d_Drf_settleBy_96 ?_
  refine Aw.isub d_Drf_settleBy_97 ?_
  obtain ⟨o4, h⟩ := h
  refine Aw.putI (f := 202) 3 10 fl_Drf_57 (by decide) (by decide) rfl rfl o2 rfl o4 (Or.inl rfl) d_Drf_settleBy_98 ?_
  refine Aw.aload_n rfl d_Drf_settleBy_101 ?_
  refine Aw.iload_n rfl d_Drf_settleBy_102 ?_
  refine Aw.aload_n rfl d_Drf_settleBy_103 ?_
  refine Aw.iload_n rfl d_Drf_settleBy_104 ?_
  refine Aw.iload_n rfl d_Drf_settleBy_105 ?_
  exact h
theorem b_Drf_settleBy_85 {Ω : Om} {R : Room} {F : QF} {k n : Nat} {σ : Sto} {a0 : Nat} {v1 : Int} {v2 : Int} {a3 : Nat} {s0 : Int} (h : sK σ a3 = 3 ∧ sK σ a0 = 4 ∧ (Q32 (fI (uI σ 131 a3 1) 202 a0) → Q32 ((fI (uI σ 131 a3 1) 202 a0) - 1) ∧ Aw Ω M_Drf_settleBy R F k n 106 [xr (some a0), xi v1, xi v2, xr (some a3)] [xi v2, xi v1, xr (some a0), xi v1, xr (some a0)] (uI (uI σ 131 a3 1) 202 a0 ((fI (uI σ 131 a3 1) 202 a0) - 1)))) : Aw Ω M_Drf_settleBy R F k n 85 [xr (some a0), xi v1, xi v2, xr (some a3)] [xi s0] σ := by
  refine Aw.pop rfl d_Drf_settleBy_85 ?_
  refine Aw.aload_n rfl d_Drf_settleBy_86 ?_
  refine Aw.iconst d_Drf_settleBy_87 ?_
  obtain ⟨o1, h⟩ := h
  refine Aw.putI (f := 131) 2 3 fl_Drf_124 (by decide) (by decide) rfl rfl o1 rfl ⟨by decide, by decide⟩ (Or.inr ⟨rfl, by decide⟩) d_Drf_settleBy_88 ?_
  refine Aw.aload_n rfl d_Drf_settleBy_91 ?_
  refine Aw.dup rfl d_Drf_settleBy_92 ?_
  obtain ⟨o2, h⟩ := h
  refine Aw.getI (f := 202) 3 10 fl_Drf_57 (by decide) (by decide) rfl rfl o2 d_Drf_settleBy_93 (fun r3 => ?_)
  have h := h r3
  refine Aw.iconst d_Drf_settleBy_96 ?_
  refine Aw.isub d_Drf_settleBy_97 ?_
  obtain ⟨o4, h⟩ := h
  refine Aw.putI (f := 202) 3 10 fl_Drf_57 (by decide) (by decide) rfl rfl o2 rfl o4 (Or.inl rfl) d_Drf_settleBy_98 ?_
  refine Aw.aload_n rfl d_Drf_settleBy_101 ?_
  refine Aw.iload_n rfl d_Drf_settleBy_102 ?_
  refine Aw.aload_n rfl d_Drf_settleBy_103 ?_
  refine Aw.iload_n rfl d_Drf_settleBy_104 ?_
  refine Aw.iload_n rfl d_Drf_settleBy_105 ?_
  exact h
theorem c_Drf_settleBy_2 {Ω : Om} {R R' : Room} {F : QF} {k n : Nat} {L st : List PV} {σ : Sto} {QX' : String → Sto → Prop} {Q : Int → Sto → Prop} {a : Nat} {x0 : Int} (hc : MC Ω M_Drf_isSettled R' (RI Q) QX' σ [xr (some a), xi x0]) (hk : sK σ a = 4) (hr1 : R'.frames + 1 ≤ R.frames) (hr2 : 8 + (2 + 11) + R'.locals ≤ R.locals) (hb1 : k + R'.cells ≤ R.cells) (hb2 : n + R'.slots ≤ R.slots) (hst : (st.map catP).sum ≤ 8) (kk : ∀ x σ', Q x σ' → Aw Ω M_Drf_settleBy R F (k + R'.cells) (n + R'.slots) 5 L (xi x :: st) σ') (kx : ∀ E σ', QX' E σ' → Ax Ω M_Drf_settleBy R F (k + R'.cells) (n + R'.slots) 2 L st σ' E) : Aw Ω M_Drf_settleBy R F k n 2 L (xi x0 :: xr (some a) :: st) σ :=
  Aw.callV (As := [xi x0]) (stk := xi x0 :: xr (some a) :: st) (nn := 1) 3 M_Drf_isSettled hc ok_Drf_isSettled rfl (by decide) rfl hk ml_Drf_147 im_Drf_isSettled se_Drf_isSettled ⟨hr1, hr2⟩ rfl ⟨hb1, hb2⟩ hst rfl d_Drf_settleBy_2 (fun r σ' h => by obtain ⟨x, rfl, h⟩ := h; exact kk x σ' h) kx
theorem r_Drf_settleBy_8 {Ω : Om} {R : Room} {k n : Nat} {L : List PV} {σ : Sto} {QR : Option PV → Sto → Prop} {QX : String → Sto → Prop} (h : QR none σ) (h1 : k ≤ R.cells) (h2 : n ≤ R.slots) : Aw Ω M_Drf_settleBy R (MF Ω R QR QX) k n 8 L [] σ := Aw.vret rfl h h1 h2 d_Drf_settleBy_8
theorem c_Drf_settleBy_31 {Ω : Om} {R R' : Room} {F : QF} {k n : Nat} {L st : List PV} {σ : Sto} {QX' : String → Sto → Prop} {Q : Int → Sto → Prop} {a : Nat} {x0 : Option Nat} {x1 : Int} {x2 : Int} (hc : MC Ω M_Drf_putPiece R' (RI Q) QX' σ [xr (some a), xr x0, xi x1, xi x2]) (hk : sK σ a = 4) (hr1 : R'.frames + 1 ≤ R.frames) (hr2 : 8 + (4 + 11) + R'.locals ≤ R.locals) (hb1 : k + R'.cells ≤ R.cells) (hb2 : n + R'.slots ≤ R.slots) (hst : (st.map catP).sum ≤ 8) (kk : ∀ x σ', Q x σ' → Aw Ω M_Drf_settleBy R F (k + R'.cells) (n + R'.slots) 34 L (xi x :: st) σ') (kx : ∀ E σ', QX' E σ' → Ax Ω M_Drf_settleBy R F (k + R'.cells) (n + R'.slots) 31 L st σ' E) : Aw Ω M_Drf_settleBy R F k n 31 L (xi x2 :: xi x1 :: xr x0 :: xr (some a) :: st) σ :=
  Aw.callV (As := [xr x0, xi x1, xi x2]) (stk := xi x2 :: xi x1 :: xr x0 :: xr (some a) :: st) (nn := 3) 3 M_Drf_putPiece hc ok_Drf_putPiece rfl (by decide) rfl hk ml_Drf_132 im_Drf_putPiece se_Drf_putPiece ⟨hr1, hr2⟩ rfl ⟨hb1, hb2⟩ hst rfl d_Drf_settleBy_31 (fun r σ' h => by obtain ⟨x, rfl, h⟩ := h; exact kk x σ' h) kx
theorem c_Drf_settleBy_34 {Ω : Om} {R R' : Room} {F : QF} {k n : Nat} {L st : List PV} {σ : Sto} {QX' : String → Sto → Prop} {Q : Int → Sto → Prop} {a : Nat} {x0 : Option Nat} {x1 : Int} {x2 : Int} (hc : MC Ω M_Drf_putPiece R' (RI Q) QX' σ [xr (some a), xr x0, xi x1, xi x2]) (hk : sK σ a = 4) (hr1 : R'.frames + 1 ≤ R.frames) (hr2 : 8 + (4 + 11) + R'.locals ≤ R.locals) (hb1 : k + R'.cells ≤ R.cells) (hb2 : n + R'.slots ≤ R.slots) (hst : (st.map catP).sum ≤ 8) (kk : ∀ x σ', Q x σ' → Aw Ω M_Drf_settleBy R F (k + R'.cells) (n + R'.slots) 37 L (xi x :: st) σ') (kx : ∀ E σ', QX' E σ' → Ax Ω M_Drf_settleBy R F (k + R'.cells) (n + R'.slots) 34 L st σ' E) : Aw Ω M_Drf_settleBy R F k n 34 L (xi x2 :: xi x1 :: xr x0 :: xr (some a) :: st) σ :=
  Aw.callV (As := [xr x0, xi x1, xi x2]) (stk := xi x2 :: xi x1 :: xr x0 :: xr (some a) :: st) (nn := 3) 3 M_Drf_putPiece hc ok_Drf_putPiece rfl (by decide) rfl hk ml_Drf_132 im_Drf_putPiece se_Drf_putPiece ⟨hr1, hr2⟩ rfl ⟨hb1, hb2⟩ hst rfl d_Drf_settleBy_34 (fun r σ' h => by obtain ⟨x, rfl, h⟩ := h; exact kk x σ' h) kx
theorem c_Drf_settleBy_56 {Ω : Om} {R R' : Room} {F : QF} {k n : Nat} {L st : List PV} {σ : Sto} {QX' : String → Sto → Prop} {Q : Int → Sto → Prop} {a : Nat} {x0 : Option Nat} {x1 : Int} {x2 : Int} (hc : MC Ω M_Drf_putPiece R' (RI Q) QX' σ [xr (some a), xr x0, xi x1, xi x2]) (hk : sK σ a = 4) (hr1 : R'.frames + 1 ≤ R.frames) (hr2 : 8 + (4 + 11) + R'.locals ≤ R.locals) (hb1 : k + R'.cells ≤ R.cells) (hb2 : n + R'.slots ≤ R.slots) (hst : (st.map catP).sum ≤ 8) (kk : ∀ x σ', Q x σ' → Aw Ω M_Drf_settleBy R F (k + R'.cells) (n + R'.slots) 59 L (xi x :: st) σ') (kx : ∀ E σ', QX' E σ' → Ax Ω M_Drf_settleBy R F (k + R'.cells) (n + R'.slots) 56 L st σ' E) : Aw Ω M_Drf_settleBy R F k n 56 L (xi x2 :: xi x1 :: xr x0 :: xr (some a) :: st) σ :=
  Aw.callV (As := [xr x0, xi x1, xi x2]) (stk := xi x2 :: xi x1 :: xr x0 :: xr (some a) :: st) (nn := 3) 3 M_Drf_putPiece hc ok_Drf_putPiece rfl (by decide) rfl hk ml_Drf_132 im_Drf_putPiece se_Drf_putPiece ⟨hr1, hr2⟩ rfl ⟨hb1, hb2⟩ hst rfl d_Drf_settleBy_56 (fun r σ' h => by obtain ⟨x, rfl, h⟩ := h; exact kk x σ' h) kx
theorem c_Drf_settleBy_59 {Ω : Om} {R R' : Room} {F : QF} {k n : Nat} {L st : List PV} {σ : Sto} {QX' : String → Sto → Prop} {Q : Int → Sto → Prop} {a : Nat} {x0 : Option Nat} {x1 : Int} {x2 : Int} (hc : MC Ω M_Drf_putPiece R' (RI Q) QX' σ [xr (some a), xr x0, xi x1, xi x2]) (hk : sK σ a = 4) (hr1 : R'.frames + 1 ≤ R.frames) (hr2 : 8 + (4 + 11) + R'.locals ≤ R.locals) (hb1 : k + R'.cells ≤ R.cells) (hb2 : n + R'.slots ≤ R.slots) (hst : (st.map catP).sum ≤ 8) (kk : ∀ x σ', Q x σ' → Aw Ω M_Drf_settleBy R F (k + R'.cells) (n + R'.slots) 62 L (xi x :: st) σ') (kx : ∀ E σ', QX' E σ' → Ax Ω M_Drf_settleBy R F (k + R'.cells) (n + R'.slots) 59 L st σ' E) : Aw Ω M_Drf_settleBy R F k n 59 L (xi x2 :: xi x1 :: xr x0 :: xr (some a) :: st) σ :=
  Aw.callV (As := [xr x0, xi x1, xi x2]) (stk := xi x2 :: xi x1 :: xr x0 :: xr (some a) :: st) (nn := 3) 3 M_Drf_putPiece hc ok_Drf_putPiece rfl (by decide) rfl hk ml_Drf_132 im_Drf_putPiece se_Drf_putPiece ⟨hr1, hr2⟩ rfl ⟨hb1, hb2⟩ hst rfl d_Drf_settleBy_59 (fun r σ' h => by obtain ⟨x, rfl, h⟩ := h; exact kk x σ' h) kx
theorem c_Drf_settleBy_82 {Ω : Om} {R R' : Room} {F : QF} {k n : Nat} {L st : List PV} {σ : Sto} {QX' : String → Sto → Prop} {Q : Int → Sto → Prop} {a : Nat} {x0 : Option Nat} {x1 : Int} {x2 : Int} (hc : MC Ω M_Drf_putPiece R' (RI Q) QX' σ [xr (some a), xr x0, xi x1, xi x2]) (hk : sK σ a = 4) (hr1 : R'.frames + 1 ≤ R.frames) (hr2 : 8 + (4 + 11) + R'.locals ≤ R.locals) (hb1 : k + R'.cells ≤ R.cells) (hb2 : n + R'.slots ≤ R.slots) (hst : (st.map catP).sum ≤ 8) (kk : ∀ x σ', Q x σ' → Aw Ω M_Drf_settleBy R F (k + R'.cells) (n + R'.slots) 85 L (xi x :: st) σ') (kx : ∀ E σ', QX' E σ' → Ax Ω M_Drf_settleBy R F (k + R'.cells) (n + R'.slots) 82 L st σ' E) : Aw Ω M_Drf_settleBy R F k n 82 L (xi x2 :: xi x1 :: xr x0 :: xr (some a) :: st) σ :=
  Aw.callV (As := [xr x0, xi x1, xi x2]) (stk := xi x2 :: xi x1 :: xr x0 :: xr (some a) :: st) (nn := 3) 3 M_Drf_putPiece hc ok_Drf_putPiece rfl (by decide) rfl hk ml_Drf_132 im_Drf_putPiece se_Drf_putPiece ⟨hr1, hr2⟩ rfl ⟨hb1, hb2⟩ hst rfl d_Drf_settleBy_82 (fun r σ' h => by obtain ⟨x, rfl, h⟩ := h; exact kk x σ' h) kx
theorem c_Drf_settleBy_106 {Ω : Om} {R R' : Room} {F : QF} {k n : Nat} {L st : List PV} {σ : Sto} {QX' : String → Sto → Prop} {Q : Int → Sto → Prop} {a : Nat} {x0 : Int} {x1 : Int} (hc : MC Ω M_Drf_linesPut R' (RI Q) QX' σ [xr (some a), xi x0, xi x1]) (hk : sK σ a = 4) (hr1 : R'.frames + 1 ≤ R.frames) (hr2 : 8 + (4 + 11) + R'.locals ≤ R.locals) (hb1 : k + R'.cells ≤ R.cells) (hb2 : n + R'.slots ≤ R.slots) (hst : (st.map catP).sum ≤ 8) (kk : ∀ x σ', Q x σ' → Aw Ω M_Drf_settleBy R F (k + R'.cells) (n + R'.slots) 109 L (xi x :: st) σ') (kx : ∀ E σ', QX' E σ' → Ax Ω M_Drf_settleBy R F (k + R'.cells) (n + R'.slots) 106 L st σ' E) : Aw Ω M_Drf_settleBy R F k n 106 L (xi x1 :: xi x0 :: xr (some a) :: st) σ :=
  Aw.callV (As := [xi x0, xi x1]) (stk := xi x1 :: xi x0 :: xr (some a) :: st) (nn := 2) 3 M_Drf_linesPut hc ok_Drf_linesPut rfl (by decide) rfl hk ml_Drf_150 im_Drf_linesPut se_Drf_linesPut ⟨hr1, hr2⟩ rfl ⟨hb1, hb2⟩ hst rfl d_Drf_settleBy_106 (fun r σ' h => by obtain ⟨x, rfl, h⟩ := h; exact kk x σ' h) kx
theorem c_Drf_settleBy_109 {Ω : Om} {R R' : Room} {F : QF} {k n : Nat} {L st : List PV} {σ : Sto} {QX' : String → Sto → Prop} {Q : Sto → Prop} {a : Nat} {x0 : Int} {x1 : Int} (hc : MC Ω M_Drf_pushBehind R' (RV Q) QX' σ [xr (some a), xi x0, xi x1]) (hk : sK σ a = 4) (hr1 : R'.frames + 1 ≤ R.frames) (hr2 : 8 + (4 + 11) + R'.locals ≤ R.locals) (hb1 : k + R'.cells ≤ R.cells) (hb2 : n + R'.slots ≤ R.slots) (hst : (st.map catP).sum ≤ 8) (kk : ∀ σ', Q σ' → Aw Ω M_Drf_settleBy R F (k + R'.cells) (n + R'.slots) 112 L st σ') (kx : ∀ E σ', QX' E σ' → Ax Ω M_Drf_settleBy R F (k + R'.cells) (n + R'.slots) 109 L st σ' E) : Aw Ω M_Drf_settleBy R F k n 109 L (xi x1 :: xi x0 :: xr (some a) :: st) σ :=
  Aw.callV (As := [xi x0, xi x1]) (stk := xi x1 :: xi x0 :: xr (some a) :: st) (nn := 2) 3 M_Drf_pushBehind hc ok_Drf_pushBehind rfl (by decide) rfl hk ml_Drf_153 im_Drf_pushBehind se_Drf_pushBehind ⟨hr1, hr2⟩ rfl ⟨hb1, hb2⟩ hst rfl d_Drf_settleBy_109 (fun r σ' h => by obtain ⟨rfl, h⟩ := h; exact kk σ' h) kx
theorem r_Drf_settleBy_112 {Ω : Om} {R : Room} {k n : Nat} {L : List PV} {σ : Sto} {QR : Option PV → Sto → Prop} {QX : String → Sto → Prop} (h : QR none σ) (h1 : k ≤ R.cells) (h2 : n ≤ R.slots) : Aw Ω M_Drf_settleBy R (MF Ω R QR QX) k n 112 L [] σ := Aw.vret rfl h h1 h2 d_Drf_settleBy_112
theorem e_Drf_signFor {Ω : Om} {R : Room} {QR : Option PV → Sto → Prop} {QX : String → Sto → Prop} {σ : Sto} {a0 : Nat} {v1 : Int} {v2 : Int} {v3 : Int} (h : Aw Ω M_Drf_signFor R (MF Ω R QR QX) 0 0 0 [xr (some a0), xi v1, xi v2, xi v3] [] σ) : MC Ω M_Drf_signFor R QR QX σ [xr (some a0), xi v1, xi v2, xi v3] := MC.body (by decide +kernel) rfl (Nat.le_of_ble_eq_true rfl) rfl h
theorem b_Drf_signFor_0 {Ω : Om} {R : Room} {F : QF} {k n : Nat} {σ : Sto} {a0 : Nat} {v1 : Int} {v2 : Int} {v3 : Int} (h : sK σ a0 = 4 ∧ Q32 v1 ∧ Q32 v2 ∧ Q32 v3 ∧ Aw Ω M_Drf_signFor R F k n 15 [xr (some a0), xi v1, xi v2, xi v3] [] (uI (uI (uI σ 203 a0 v1) 204 a0 v2) 205 a0 v3)) : Aw Ω M_Drf_signFor R F k n 0 [xr (some a0), xi v1, xi v2, xi v3] [] σ := by
  refine Aw.aload_n rfl d_Drf_signFor_0 ?_
  refine Aw.iload_n rfl d_Drf_signFor_1 ?_
  obtain ⟨o1, h⟩ := h
  obtain ⟨o2, h⟩ := h
  refine Aw.putI (f := 203) 3 11 fl_Drf_60 (by decide) (by decide) rfl rfl o1 rfl o2 (Or.inl rfl) d_Drf_signFor_2 ?_
  refine Aw.aload_n rfl d_Drf_signFor_5 ?_
  refine Aw.iload_n rfl d_Drf_signFor_6 ?_
  obtain ⟨o3, h⟩ := h
  refine Aw.putI (f := 204) 3 12 fl_Drf_63 (by decide) (by decide) rfl rfl o1 rfl o3 (Or.inl rfl) d_Drf_signFor_7 ?_
  refine Aw.aload_n rfl d_Drf_signFor_10 ?_
  refine Aw.iload_n rfl d_Drf_signFor_11 ?_
  obtain ⟨o4, h⟩ := h
  refine Aw.putI (f := 205) 3 13 fl_Drf_66 (by decide) (by decide) rfl rfl o1 rfl o4 (Or.inl rfl) d_Drf_signFor_12 ?_
  exact h
theorem r_Drf_signFor_15 {Ω : Om} {R : Room} {k n : Nat} {L : List PV} {σ : Sto} {QR : Option PV → Sto → Prop} {QX : String → Sto → Prop} (h : QR none σ) (h1 : k ≤ R.cells) (h2 : n ≤ R.slots) : Aw Ω M_Drf_signFor R (MF Ω R QR QX) k n 15 L [] σ := Aw.vret rfl h h1 h2 d_Drf_signFor_15
theorem e_Drf_sourceOf {Ω : Om} {R : Room} {QR : Option PV → Sto → Prop} {QX : String → Sto → Prop} {σ : Sto} {a0 : Nat} {v1 : Int} (h : Aw Ω M_Drf_sourceOf R (MF Ω R QR QX) 0 0 0 [xr (some a0), xi v1] [] σ) : MC Ω M_Drf_sourceOf R QR QX σ [xr (some a0), xi v1] := MC.body (by decide +kernel) rfl (Nat.le_of_ble_eq_true rfl) rfl h
theorem b_Drf_sourceOf_0 {Ω : Om} {R : Room} {F : QF} {k n : Nat} {σ : Sto} {a0 : Nat} {v1 : Int} (h : Q32 v1 ∧ ((¬ v1 = (0 : Int) → ((¬ v1 = (1 : Int) → sK σ a0 = 4 ∧ (∃ b3 : Nat, fR σ 200 a0 = some b3 ∧ Aw Ω M_Drf_sourceOf R F k n 27 [xr (some a0), xi v1] [xr (some b3)] σ)) ∧ (v1 = (1 : Int) → sK σ a0 = 4 ∧ (∃ b6 : Nat, fR σ 199 a0 = some b6 ∧ Aw Ω M_Drf_sourceOf R F k n 27 [xr (some a0), xi v1] [xr (some b6)] σ)))) ∧ (v1 = (0 : Int) → sK σ a0 = 4 ∧ (∃ b10 : Nat, fR σ 198 a0 = some b10 ∧ Aw Ω M_Drf_sourceOf R F k n 27 [xr (some a0), xi v1] [xr (some b10)] σ)))) : Aw Ω M_Drf_sourceOf R F k n 0 [xr (some a0), xi v1] [] σ := by
  refine Aw.iload_n rfl d_Drf_sourceOf_0 ?_
  obtain ⟨o1, h⟩ := h
  obtain ⟨ht, hf⟩ := h
  refine Aw.if_ne (tgt := 11) o1 (by decide) d_Drf_sourceOf_1 (fun c12 => ?_) (fun c12 => ?_)
  · have h := ht c12
    refine Aw.iload_n rfl d_Drf_sourceOf_11 ?_
    refine Aw.iconst d_Drf_sourceOf_12 ?_
    obtain ⟨ht, hf⟩ := h
    refine Aw.icmp_ne (tgt := 23) o1 ⟨by decide, by decide⟩ (by decide) d_Drf_sourceOf_13 (fun c8 => ?_) (fun c8 => ?_)
    · have h := ht c8
      refine Aw.aload_n rfl d_Drf_sourceOf_23 ?_
      obtain ⟨o2, h⟩ := h
      obtain ⟨b3, e4, h⟩ := h
      refine Aw.getRs (f := 200) 3 8 fl_Drf_50 (by decide) (by decide) rfl rfl o2 e4 d_Drf_sourceOf_24 ?_
      exact h
    · have h := hf c8
      refine Aw.aload_n rfl d_Drf_sourceOf_16 ?_
      obtain ⟨o5, h⟩ := h
      obtain ⟨b6, e7, h⟩ := h
      refine Aw.getRs (f := 199) 3 7 fl_Drf_47 (by decide) (by decide) rfl rfl o5 e7 d_Drf_sourceOf_17 ?_
      refine Aw.goto (tgt := 27) (by decide) d_Drf_sourceOf_20 ?_
      exact h
  · have h := hf c12
    refine Aw.aload_n rfl d_Drf_sourceOf_4 ?_
    obtain ⟨o9, h⟩ := h
    obtain ⟨b10, e11, h⟩ := h
    refine Aw.getRs (f := 198) 3 6 fl_Drf_44 (by decide) (by decide) rfl rfl o9 e11 d_Drf_sourceOf_5 ?_
    refine Aw.goto (tgt := 27) (by decide) d_Drf_sourceOf_8 ?_
    exact h
theorem r_Drf_sourceOf_27 {Ω : Om} {R : Room} {k n : Nat} {L : List PV} {σ : Sto} {QR : Option PV → Sto → Prop} {QX : String → Sto → Prop} {x : Option Nat} (h : QR (some (xr x)) σ) (h1 : k ≤ R.cells) (h2 : n ≤ R.slots) : Aw Ω M_Drf_sourceOf R (MF Ω R QR QX) k n 27 L [xr x] σ := Aw.aret rfl (by first | exact Or.inl ⟨_, rfl⟩ | exact Or.inr ⟨_, rfl⟩) h h1 h2 d_Drf_sourceOf_27
theorem e_Drf_startFrom {Ω : Om} {R : Room} {QR : Option PV → Sto → Prop} {QX : String → Sto → Prop} {σ : Sto} {a0 : Nat} {a1 : Nat} (h : Aw Ω M_Drf_startFrom R (MF Ω R QR QX) 0 0 0 [xr (some a0), xr (some a1)] [] σ) : MC Ω M_Drf_startFrom R QR QX σ [xr (some a0), xr (some a1)] := MC.body (by decide +kernel) rfl (Nat.le_of_ble_eq_true rfl) rfl h
theorem b_Drf_startFrom_0 {Ω : Om} {R : Room} {F : QF} {k n : Nat} {σ : Sto} {a0 : Nat} {a1 : Nat} (h : sK σ a0 = 4 ∧ (∃ b2 : Nat, fR σ 197 a0 = some b2 ∧ Aw Ω M_Drf_startFrom R F k n 10 [xr (some a0), xr (some a1)] [xr (some b2), xr (some b2), xr (some a1), xr (some a0)] σ)) : Aw Ω M_Drf_startFrom R F k n 0 [xr (some a0), xr (some a1)] [] σ := by
  refine Aw.aload_n rfl d_Drf_startFrom_0 ?_
  refine Aw.aload_n rfl d_Drf_startFrom_1 ?_
  refine Aw.aload_n rfl d_Drf_startFrom_2 ?_
  obtain ⟨o1, h⟩ := h
  obtain ⟨b2, e3, h⟩ := h
  refine Aw.getRs (f := 197) 3 5 fl_Drf_41 (by decide) (by decide) rfl rfl o1 e3 d_Drf_startFrom_3 ?_
  refine Aw.aload_n rfl d_Drf_startFrom_6 ?_
  refine Aw.getRs (f := 197) 3 5 fl_Drf_41 (by decide) (by decide) rfl rfl o1 e3 d_Drf_startFrom_7 ?_
  exact h
theorem b_Drf_startFrom_13 {Ω : Om} {R : Room} {F : QF} {k n : Nat} {σ : Sto} {a0 : Nat} {a1 : Nat} (h : sK σ a0 = 4 ∧ (∃ b2 : Nat, fR σ 192 a0 = some b2 ∧ Aw Ω M_Drf_startFrom R F k n 18 [xr (some a0), xr (some a1)] [xr (some a1), xr (some b2)] σ)) : Aw Ω M_Drf_startFrom R F k n 13 [xr (some a0), xr (some a1)] [] σ := by
  refine Aw.aload_n rfl d_Drf_startFrom_13 ?_
  obtain ⟨o1, h⟩ := h
  obtain ⟨b2, e3, h⟩ := h
  refine Aw.getRs (f := 192) 3 0 fl_Drf_12 (by decide) (by decide) rfl rfl o1 e3 d_Drf_startFrom_14 ?_
  refine Aw.aload_n rfl d_Drf_startFrom_17 ?_
  exact h
theorem c_Drf_startFrom_10 {Ω : Om} {R R' : Room} {F : QF} {k n : Nat} {L st : List PV} {σ : Sto} {QX' : String → Sto → Prop} {Q : Sto → Prop} {a : Nat} {x0 : Option Nat} {x1 : Option Nat} {x2 : Option Nat} (hc : MC Ω M_Drf_begun R' (RV Q) QX' σ [xr (some a), xr x0, xr x1, xr x2]) (hk : sK σ a = 4) (hr1 : R'.frames + 1 ≤ R.frames) (hr2 : 8 + (4 + 11) + R'.locals ≤ R.locals) (hb1 : k + R'.cells ≤ R.cells) (hb2 : n + R'.slots ≤ R.slots) (hst : (st.map catP).sum ≤ 8) (kk : ∀ σ', Q σ' → Aw Ω M_Drf_startFrom R F (k + R'.cells) (n + R'.slots) 13 L st σ') (kx : ∀ E σ', QX' E σ' → Ax Ω M_Drf_startFrom R F (k + R'.cells) (n + R'.slots) 10 L st σ' E) : Aw Ω M_Drf_startFrom R F k n 10 L (xr x2 :: xr x1 :: xr x0 :: xr (some a) :: st) σ :=
  Aw.callV (As := [xr x0, xr x1, xr x2]) (stk := xr x2 :: xr x1 :: xr x0 :: xr (some a) :: st) (nn := 3) 3 M_Drf_begun hc ok_Drf_begun rfl (by decide) rfl hk ml_Drf_70 im_Drf_begun se_Drf_begun ⟨hr1, hr2⟩ rfl ⟨hb1, hb2⟩ hst rfl d_Drf_startFrom_10 (fun r σ' h => by obtain ⟨rfl, h⟩ := h; exact kk σ' h) kx
theorem c_Drf_startFrom_18 {Ω : Om} {R R' : Room} {F : QF} {k n : Nat} {L st : List PV} {σ : Sto} {QX' : String → Sto → Prop} {Q : Sto → Prop} {a : Nat} {x0 : Option Nat} (hc : MC Ω M_Txt_copy R' (RV Q) QX' σ [xr (some a), xr x0]) (hk : sK σ a = 10) (hr1 : R'.frames + 1 ≤ R.frames) (hr2 : 8 + (3 + 11) + R'.locals ≤ R.locals) (hb1 : k + R'.cells ≤ R.cells) (hb2 : n + R'.slots ≤ R.slots) (hst : (st.map catP).sum ≤ 8) (kk : ∀ σ', Q σ' → Aw Ω M_Drf_startFrom R F (k + R'.cells) (n + R'.slots) 21 L st σ') (kx : ∀ E σ', QX' E σ' → Ax Ω M_Drf_startFrom R F (k + R'.cells) (n + R'.slots) 18 L st σ' E) : Aw Ω M_Drf_startFrom R F k n 18 L (xr x0 :: xr (some a) :: st) σ :=
  Aw.callV (As := [xr x0]) (stk := xr x0 :: xr (some a) :: st) (nn := 1) 9 M_Txt_copy hc ok_Txt_copy rfl (by decide) rfl hk ml_Drf_74 im_Txt_copy se_Txt_copy ⟨hr1, hr2⟩ rfl ⟨hb1, hb2⟩ hst rfl d_Drf_startFrom_18 (fun r σ' h => by obtain ⟨rfl, h⟩ := h; exact kk σ' h) kx
theorem r_Drf_startFrom_21 {Ω : Om} {R : Room} {k n : Nat} {L : List PV} {σ : Sto} {QR : Option PV → Sto → Prop} {QX : String → Sto → Prop} (h : QR none σ) (h1 : k ≤ R.cells) (h2 : n ≤ R.slots) : Aw Ω M_Drf_startFrom R (MF Ω R QR QX) k n 21 L [] σ := Aw.vret rfl h h1 h2 d_Drf_startFrom_21
theorem e_Drf_takeBack {Ω : Om} {R : Room} {QR : Option PV → Sto → Prop} {QX : String → Sto → Prop} {σ : Sto} {a0 : Nat} (h : Aw Ω M_Drf_takeBack R (MF Ω R QR QX) 0 0 0 [xr (some a0), xu] [] σ) : MC Ω M_Drf_takeBack R QR QX σ [xr (some a0)] := MC.body (by decide +kernel) rfl (Nat.le_of_ble_eq_true rfl) rfl h
theorem b_Drf_takeBack_0 {Ω : Om} {R : Room} {F : QF} {k n : Nat} {σ : Sto} {a0 : Nat} (h : sK σ a0 = 4 ∧ (∃ b2 : Nat, fR σ 193 a0 = some b2 ∧ Aw Ω M_Drf_takeBack R F k n 4 [xr (some a0), xu] [xr (some b2)] σ)) : Aw Ω M_Drf_takeBack R F k n 0 [xr (some a0), xu] [] σ := by
  refine Aw.aload_n rfl d_Drf_takeBack_0 ?_
  obtain ⟨o1, h⟩ := h
  obtain ⟨b2, e3, h⟩ := h
  refine Aw.getRs (f := 193) 3 1 fl_Drf_21 (by decide) (by decide) rfl rfl o1 e3 d_Drf_takeBack_1 ?_
  exact h
theorem b_Drf_takeBack_7 {Ω : Om} {R : Room} {F : QF} {k n : Nat} {σ : Sto} {a0 : Nat} {s0 : Int} (h : Q32 s0 ∧ ((s0 = (0 : Int) → sK σ a0 = 4 ∧ (∃ b3 : Nat, fR σ 193 a0 = some b3 ∧ Aw Ω M_Drf_takeBack R F k n 19 [xr (some a0), xu] [xr (some b3), xr (some b3)] σ)) ∧ (¬ s0 = (0 : Int) → Aw Ω M_Drf_takeBack R F k n 10 [xr (some a0), xu] [] σ))) : Aw Ω M_Drf_takeBack R F k n 7 [xr (some a0), xu] [xi s0] σ := by
  obtain ⟨o1, h⟩ := h
  obtain ⟨ht, hf⟩ := h
  refine Aw.if_eq (tgt := 11) o1 (by decide) d_Drf_takeBack_7 (fun c5 => ?_) (fun c5 => ?_)
  · have h := ht c5
    refine Aw.aload_n rfl d_Drf_takeBack_11 ?_
    obtain ⟨o2, h⟩ := h
    obtain ⟨b3, e4, h⟩ := h
    refine Aw.getRs (f := 193) 3 1 fl_Drf_21 (by decide) (by decide) rfl rfl o2 e4 d_Drf_takeBack_12 ?_
    refine Aw.aload_n rfl d_Drf_takeBack_15 ?_
    refine Aw.getRs (f := 193) 3 1 fl_Drf_21 (by decide) (by decide) rfl rfl o2 e4 d_Drf_takeBack_16 ?_
    exact h
  · have h := hf c5
    exact h
theorem b_Drf_takeBack_22 {Ω : Om} {R : Room} {F : QF} {k n : Nat} {σ : Sto} {a0 : Nat} {s0 : Nat} {s1 : Int} (h : Aw Ω M_Drf_takeBack R F k n 24 [xr (some a0), xu] [xi (s1 - 1), xr (some s0)] σ) : Aw Ω M_Drf_takeBack R F k n 22 [xr (some a0), xu] [xi s1, xr (some s0)] σ := by
  refine Aw.iconst d_Drf_takeBack_22 ?_
  refine Aw.isub d_Drf_takeBack_23 ?_
  exact h
theorem b_Drf_takeBack_27 {Ω : Om} {R : Room} {F : QF} {k n : Nat} {σ : Sto} {a0 : Nat} {s0 : Nat} (h : sK σ s0 = 5 ∧ sK σ a0 = 4 ∧ (∃ b3 : Nat, fR σ 192 a0 = some b3 ∧ (∃ b5 : Nat, fR σ 261 s0 = some b5 ∧ Aw Ω M_Drf_takeBack R F k n 39 [xr (some a0), xr (some s0)] [xr (some b5), xr (some b3)] σ))) : Aw Ω M_Drf_takeBack R F k n 27 [xr (some a0), xu] [xr (some s0)] σ := by
  obtain ⟨o1, h⟩ := h
  refine Aw.cast 4 (by decide) cl_Drf_158 o1 d_Drf_takeBack_27 ?_
  refine Aw.astore_n (by decide) d_Drf_takeBack_30 ?_
  refine Aw.toL (L' := [xr (some a0), xr (some s0)]) rfl ?_
  refine Aw.aload_n rfl d_Drf_takeBack_31 ?_
  obtain ⟨o2, h⟩ := h
  obtain ⟨b3, e4, h⟩ := h
  refine Aw.getRs (f := 192) 3 0 fl_Drf_12 (by decide) (by decide) rfl rfl o2 e4 d_Drf_takeBack_32 ?_
  refine Aw.aload_n rfl d_Drf_takeBack_35 ?_
  obtain ⟨b5, e6, h⟩ := h
  refine Aw.getRs (f := 261) 4 5 fl_Drf_157 (by decide) (by decide) rfl rfl o1 e6 d_Drf_takeBack_36 ?_
  exact h
theorem b_Drf_takeBack_42 {Ω : Om} {R : Room} {F : QF} {k n : Nat} {σ : Sto} {a0 : Nat} {a1 : Nat} (h : sK σ a1 = 5 ∧ (Q32 (fI σ 256 a1) → ((¬ (fI σ 256 a1) = (4 : Int) → Aw Ω M_Drf_takeBack R F k n 62 [xr (some a0), xr (some a1)] [] σ) ∧ ((fI σ 256 a1) = (4 : Int) → (Q32 (fI σ 257 a1) → (Q32 (fI σ 258 a1) → Aw Ω M_Drf_takeBack R F k n 59 [xr (some a0), xr (some a1)] [xi (fI σ 258 a1), xi (fI σ 257 a1), xr (some a0)] σ)))))) : Aw Ω M_Drf_takeBack R F k n 42 [xr (some a0), xr (some a1)] [] σ := by
  refine Aw.aload_n rfl d_Drf_takeBack_42 ?_
  obtain ⟨o1, h⟩ := h
  refine Aw.getI (f := 256) 4 0 fl_Drf_170 (by decide) (by decide) rfl rfl o1 d_Drf_takeBack_43 (fun r2 => ?_)
  have h := h r2
  refine Aw.iconst d_Drf_takeBack_46 ?_
  obtain ⟨ht, hf⟩ := h
  refine Aw.icmp_ne (tgt := 62) r2 ⟨by decide, by decide⟩ (by decide) d_Drf_takeBack_47 (fun c5 => ?_) (fun c5 => ?_)
  · have h := ht c5
    exact h
  · have h := hf c5
    refine Aw.aload_n rfl d_Drf_takeBack_50 ?_
    refine Aw.aload_n rfl d_Drf_takeBack_51 ?_
    refine Aw.getI (f := 257) 4 1 fl_Drf_173 (by decide) (by decide) rfl rfl o1 d_Drf_takeBack_52 (fun r3 => ?_)
    have h := h r3
    refine Aw.aload_n rfl d_Drf_takeBack_55 ?_
    refine Aw.getI (f := 258) 4 2 fl_Drf_192 (by decide) (by decide) rfl rfl o1 d_Drf_takeBack_56 (fun r4 => ?_)
    have h := h r4
    exact h
theorem c_Drf_takeBack_4 {Ω : Om} {R R' : Room} {F : QF} {k n : Nat} {L st : List PV} {σ : Sto} {QX' : String → Sto → Prop} {Q : Int → Sto → Prop} {a : Nat} (hc : MC Ω M_Lst_isEmpty R' (RI Q) QX' σ [xr (some a)]) (hk : sK σ a = 14) (hr1 : R'.frames + 1 ≤ R.frames) (hr2 : 8 + (1 + 11) + R'.locals ≤ R.locals) (hb1 : k + R'.cells ≤ R.cells) (hb2 : n + R'.slots ≤ R.slots) (hst : (st.map catP).sum ≤ 8) (kk : ∀ x σ', Q x σ' → Aw Ω M_Drf_takeBack R F (k + R'.cells) (n + R'.slots) 7 L (xi x :: st) σ') (kx : ∀ E σ', QX' E σ' → Ax Ω M_Drf_takeBack R F (k + R'.cells) (n + R'.slots) 4 L st σ' E) : Aw Ω M_Drf_takeBack R F k n 4 L (xr (some a) :: st) σ :=
  Aw.callV (As := []) (stk := xr (some a) :: st) (nn := 0) 13 M_Lst_isEmpty hc ok_Lst_isEmpty rfl (by decide) rfl hk ml_Drf_212 im_Lst_isEmpty se_Lst_isEmpty ⟨hr1, hr2⟩ rfl ⟨hb1, hb2⟩ hst rfl d_Drf_takeBack_4 (fun r σ' h => by obtain ⟨x, rfl, h⟩ := h; exact kk x σ' h) kx
theorem r_Drf_takeBack_10 {Ω : Om} {R : Room} {k n : Nat} {L : List PV} {σ : Sto} {QR : Option PV → Sto → Prop} {QX : String → Sto → Prop} (h : QR none σ) (h1 : k ≤ R.cells) (h2 : n ≤ R.slots) : Aw Ω M_Drf_takeBack R (MF Ω R QR QX) k n 10 L [] σ := Aw.vret rfl h h1 h2 d_Drf_takeBack_10
theorem c_Drf_takeBack_19 {Ω : Om} {R R' : Room} {F : QF} {k n : Nat} {L st : List PV} {σ : Sto} {QX' : String → Sto → Prop} {Q : Int → Sto → Prop} {a : Nat} (hc : MC Ω M_Lst_size R' (RI Q) QX' σ [xr (some a)]) (hk : sK σ a = 14) (hr1 : R'.frames + 1 ≤ R.frames) (hr2 : 8 + (1 + 11) + R'.locals ≤ R.locals) (hb1 : k + R'.cells ≤ R.cells) (hb2 : n + R'.slots ≤ R.slots) (hst : (st.map catP).sum ≤ 8) (kk : ∀ x σ', Q x σ' → Aw Ω M_Drf_takeBack R F (k + R'.cells) (n + R'.slots) 22 L (xi x :: st) σ') (kx : ∀ E σ', QX' E σ' → Ax Ω M_Drf_takeBack R F (k + R'.cells) (n + R'.slots) 19 L st σ' E) : Aw Ω M_Drf_takeBack R F k n 19 L (xr (some a) :: st) σ :=
  Aw.callV (As := []) (stk := xr (some a) :: st) (nn := 0) 13 M_Lst_size hc ok_Lst_size rfl (by decide) rfl hk ml_Drf_211 im_Lst_size se_Lst_size ⟨hr1, hr2⟩ rfl ⟨hb1, hb2⟩ hst rfl d_Drf_takeBack_19 (fun r σ' h => by obtain ⟨x, rfl, h⟩ := h; exact kk x σ' h) kx
theorem c_Drf_takeBack_24 {Ω : Om} {R R' : Room} {F : QF} {k n : Nat} {L st : List PV} {σ : Sto} {QX' : String → Sto → Prop} {Q : Option Nat → Sto → Prop} {a : Nat} {x0 : Int} (hc : MC Ω M_Lst_remove R' (RR Q) QX' σ [xr (some a), xi x0]) (hk : sK σ a = 14) (hr1 : R'.frames + 1 ≤ R.frames) (hr2 : 8 + (4 + 11) + R'.locals ≤ R.locals) (hb1 : k + R'.cells ≤ R.cells) (hb2 : n + R'.slots ≤ R.slots) (hst : (st.map catP).sum ≤ 8) (kk : ∀ x σ', Q x σ' → Aw Ω M_Drf_takeBack R F (k + R'.cells) (n + R'.slots) 27 L (xr x :: st) σ') (kx : ∀ E σ', QX' E σ' → Ax Ω M_Drf_takeBack R F (k + R'.cells) (n + R'.slots) 24 L st σ' E) : Aw Ω M_Drf_takeBack R F k n 24 L (xi x0 :: xr (some a) :: st) σ :=
  Aw.callV (As := [xi x0]) (stk := xi x0 :: xr (some a) :: st) (nn := 1) 13 M_Lst_remove hc ok_Lst_remove rfl (by decide) rfl hk ml_Drf_216 im_Lst_remove se_Lst_remove ⟨hr1, hr2⟩ rfl ⟨hb1, hb2⟩ hst rfl d_Drf_takeBack_24 (fun r σ' h => by obtain ⟨x, rfl, h⟩ := h; exact kk x σ' h) kx
theorem c_Drf_takeBack_39 {Ω : Om} {R R' : Room} {F : QF} {k n : Nat} {L st : List PV} {σ : Sto} {QX' : String → Sto → Prop} {Q : Sto → Prop} {a : Nat} {x0 : Option Nat} (hc : MC Ω M_Txt_copy R' (RV Q) QX' σ [xr (some a), xr x0]) (hk : sK σ a = 10) (hr1 : R'.frames + 1 ≤ R.frames) (hr2 : 8 + (3 + 11) + R'.locals ≤ R.locals) (hb1 : k + R'.cells ≤ R.cells) (hb2 : n + R'.slots ≤ R.slots) (hst : (st.map catP).sum ≤ 8) (kk : ∀ σ', Q σ' → Aw Ω M_Drf_takeBack R F (k + R'.cells) (n + R'.slots) 42 L st σ') (kx : ∀ E σ', QX' E σ' → Ax Ω M_Drf_takeBack R F (k + R'.cells) (n + R'.slots) 39 L st σ' E) : Aw Ω M_Drf_takeBack R F k n 39 L (xr x0 :: xr (some a) :: st) σ :=
  Aw.callV (As := [xr x0]) (stk := xr x0 :: xr (some a) :: st) (nn := 1) 9 M_Txt_copy hc ok_Txt_copy rfl (by decide) rfl hk ml_Drf_74 im_Txt_copy se_Txt_copy ⟨hr1, hr2⟩ rfl ⟨hb1, hb2⟩ hst rfl d_Drf_takeBack_39 (fun r σ' h => by obtain ⟨rfl, h⟩ := h; exact kk σ' h) kx
theorem c_Drf_takeBack_59 {Ω : Om} {R R' : Room} {F : QF} {k n : Nat} {L st : List PV} {σ : Sto} {QX' : String → Sto → Prop} {Q : Sto → Prop} {a : Nat} {x0 : Int} {x1 : Int} (hc : MC Ω M_Drf_reopen R' (RV Q) QX' σ [xr (some a), xi x0, xi x1]) (hk : sK σ a = 4) (hr1 : R'.frames + 1 ≤ R.frames) (hr2 : 8 + (3 + 11) + R'.locals ≤ R.locals) (hb1 : k + R'.cells ≤ R.cells) (hb2 : n + R'.slots ≤ R.slots) (hst : (st.map catP).sum ≤ 8) (kk : ∀ σ', Q σ' → Aw Ω M_Drf_takeBack R F (k + R'.cells) (n + R'.slots) 62 L st σ') (kx : ∀ E σ', QX' E σ' → Ax Ω M_Drf_takeBack R F (k + R'.cells) (n + R'.slots) 59 L st σ' E) : Aw Ω M_Drf_takeBack R F k n 59 L (xi x1 :: xi x0 :: xr (some a) :: st) σ :=
  Aw.callV (As := [xi x0, xi x1]) (stk := xi x1 :: xi x0 :: xr (some a) :: st) (nn := 2) 3 M_Drf_reopen hc ok_Drf_reopen rfl (by decide) rfl hk ml_Drf_220 im_Drf_reopen se_Drf_reopen ⟨hr1, hr2⟩ rfl ⟨hb1, hb2⟩ hst rfl d_Drf_takeBack_59 (fun r σ' h => by obtain ⟨rfl, h⟩ := h; exact kk σ' h) kx
theorem r_Drf_takeBack_62 {Ω : Om} {R : Room} {k n : Nat} {L : List PV} {σ : Sto} {QR : Option PV → Sto → Prop} {QX : String → Sto → Prop} (h : QR none σ) (h1 : k ≤ R.cells) (h2 : n ≤ R.slots) : Aw Ω M_Drf_takeBack R (MF Ω R QR QX) k n 62 L [] σ := Aw.vret rfl h h1 h2 d_Drf_takeBack_62
theorem e_Drf_unsettled {Ω : Om} {R : Room} {QR : Option PV → Sto → Prop} {QX : String → Sto → Prop} {σ : Sto} {a0 : Nat} (h : Aw Ω M_Drf_unsettled R (MF Ω R QR QX) 0 0 0 [xr (some a0)] [] σ) : MC Ω M_Drf_unsettled R QR QX σ [xr (some a0)] := MC.body (by decide +kernel) rfl (Nat.le_of_ble_eq_true rfl) rfl h
theorem b_Drf_unsettled_0 {Ω : Om} {R : Room} {F : QF} {k n : Nat} {σ : Sto} {a0 : Nat} (h : sK σ a0 = 4 ∧ (Q32 (fI σ 202 a0) → Aw Ω M_Drf_unsettled R F k n 4 [xr (some a0)] [xi (fI σ 202 a0)] σ)) : Aw Ω M_Drf_unsettled R F k n 0 [xr (some a0)] [] σ := by
  refine Aw.aload_n rfl d_Drf_unsettled_0 ?_
  obtain ⟨o1, h⟩ := h
  refine Aw.getI (f := 202) 3 10 fl_Drf_57 (by decide) (by decide) rfl rfl o1 d_Drf_unsettled_1 (fun r2 => ?_)
  have h := h r2
  exact h
theorem r_Drf_unsettled_4 {Ω : Om} {R : Room} {k n : Nat} {L : List PV} {σ : Sto} {QR : Option PV → Sto → Prop} {QX : String → Sto → Prop} {x : Int} (h : QR (some (xi x)) σ) (h1 : k ≤ R.cells) (h2 : n ≤ R.slots) : Aw Ω M_Drf_unsettled R (MF Ω R QR QX) k n 4 L [xi x] σ := Aw.iret rfl h h1 h2 d_Drf_unsettled_4
theorem e_Drf_weave {Ω : Om} {R : Room} {QR : Option PV → Sto → Prop} {QX : String → Sto → Prop} {σ : Sto} {a0 : Nat} {a1 : Nat} {a2 : Nat} {a3 : Nat} (h : Aw Ω M_Drf_weave R (MF Ω R QR QX) 0 0 0 [xr (some a0), xr (some a1), xr (some a2), xr (some a3), xu, xu, xu, xu, xu, xu] [] σ) : MC Ω M_Drf_weave R QR QX σ [xr (some a0), xr (some a1), xr (some a2), xr (some a3)] := MC.body (by decide +kernel) rfl (Nat.le_of_ble_eq_true rfl) rfl h
theorem b_Drf_weave_0 {Ω : Om} {R : Room} {F : QF} {k n : Nat} {σ : Sto} {a0 : Nat} {a1 : Nat} {a2 : Nat} {a3 : Nat} (h : Aw Ω M_Drf_weave R F k n 4 [xr (some a0), xr (some a1), xr (some a2), xr (some a3), xu, xu, xu, xu, xu, xu] [xr (some a3), xr (some a2), xr (some a1), xr (some a0)] σ) : Aw Ω M_Drf_weave R F k n 0 [xr (some a0), xr (some a1), xr (some a2), xr (some a3), xu, xu, xu, xu, xu, xu] [] σ := by
  refine Aw.aload_n rfl d_Drf_weave_0 ?_
  refine Aw.aload_n rfl d_Drf_weave_1 ?_
  refine Aw.aload_n rfl d_Drf_weave_2 ?_
  refine Aw.aload_n rfl d_Drf_weave_3 ?_
  exact h
theorem b_Drf_weave_7 {Ω : Om} {R : Room} {F : QF} {k n : Nat} {σ : Sto} {a0 : Nat} {a1 : Nat} {a2 : Nat} {a3 : Nat} (h : sK σ a0 = 4 ∧ (∃ b2 : Nat, fR σ 192 a0 = some b2 ∧ Aw Ω M_Drf_weave R F k n 11 [xr (some a0), xr (some a1), xr (some a2), xr (some a3), xu, xu, xu, xu, xu, xu] [xr (some b2)] σ)) : Aw Ω M_Drf_weave R F k n 7 [xr (some a0), xr (some a1), xr (some a2), xr (some a3), xu, xu, xu, xu, xu, xu] [] σ := by
  refine Aw.aload_n rfl d_Drf_weave_7 ?_
  obtain ⟨o1, h⟩ := h
  obtain ⟨b2, e3, h⟩ := h
  refine Aw.getRs (f := 192) 3 0 fl_Drf_12 (by decide) (by decide) rfl rfl o1 e3 d_Drf_weave_8 ?_
  exact h
theorem b_Drf_weave_14 {Ω : Om} {R : Room} {F : QF} {k n : Nat} {σ : Sto} {a0 : Nat} {a1 : Nat} {a2 : Nat} {a3 : Nat} (h : sK σ a0 = 4 ∧ (∃ b2 : Nat, fR σ 195 a0 = some b2 ∧ Aw Ω M_Drf_weave R F k n 21 [xr (some a0), xr (some a1), xr (some a2), xr (some a3), xu, xu, xu, xu, xu, xu] [xi 0, xr (some a1), xr (some a3), xr (some b2)] σ)) : Aw Ω M_Drf_weave R F k n 14 [xr (some a0), xr (some a1), xr (some a2), xr (some a3), xu, xu, xu, xu, xu, xu] [] σ := by
  refine Aw.aload_n rfl d_Drf_weave_14 ?_
  obtain ⟨o1, h⟩ := h
  obtain ⟨b2, e3, h⟩ := h
  refine Aw.getRs (f := 195) 3 3 fl_Drf_34 (by decide) (by decide) rfl rfl o1 e3 d_Drf_weave_15 ?_
  refine Aw.aload_n rfl d_Drf_weave_18 ?_
  refine Aw.aload_n rfl d_Drf_weave_19 ?_
  refine Aw.iconst d_Drf_weave_20 ?_
  exact h
theorem b_Drf_weave_24 {Ω : Om} {R : Room} {F : QF} {k n : Nat} {σ : Sto} {a0 : Nat} {a1 : Nat} {a2 : Nat} {a3 : Nat} (h : sK σ a0 = 4 ∧ (∃ b2 : Nat, fR σ 196 a0 = some b2 ∧ Aw Ω M_Drf_weave R F k n 31 [xr (some a0), xr (some a1), xr (some a2), xr (some a3), xu, xu, xu, xu, xu, xu] [xi 0, xr (some a2), xr (some a3), xr (some b2)] σ)) : Aw Ω M_Drf_weave R F k n 24 [xr (some a0), xr (some a1), xr (some a2), xr (some a3), xu, xu, xu, xu, xu, xu] [] σ := by
  refine Aw.aload_n rfl d_Drf_weave_24 ?_
  obtain ⟨o1, h⟩ := h
  obtain ⟨b2, e3, h⟩ := h
  refine Aw.getRs (f := 196) 3 4 fl_Drf_38 (by decide) (by decide) rfl rfl o1 e3 d_Drf_weave_25 ?_
  refine Aw.aload_n rfl d_Drf_weave_28 ?_
  refine Aw.aload_n rfl d_Drf_weave_29 ?_
  refine Aw.iconst d_Drf_weave_30 ?_
  exact h
theorem b_Drf_weave_34 {Ω : Om} {R : Room} {F : QF} {k n : Nat} {σ : Sto} {a0 : Nat} {a1 : Nat} {a2 : Nat} {a3 : Nat} (h : Aw Ω M_Drf_weave R F k n 46 [xr (some a0), xr (some a1), xr (some a2), xr (some a3), xi 0, xi 0, xi 0, xi 0, xu, xu] [] σ) : Aw Ω M_Drf_weave R F k n 34 [xr (some a0), xr (some a1), xr (some a2), xr (some a3), xu, xu, xu, xu, xu, xu] [] σ := by
  refine Aw.iconst d_Drf_weave_34 ?_
  refine Aw.istore (by decide) d_Drf_weave_35 ?_
  refine Aw.toL (L' := [xr (some a0), xr (some a1), xr (some a2), xr (some a3), xi 0, xu, xu, xu, xu, xu]) rfl ?_
  refine Aw.iconst d_Drf_weave_37 ?_
  refine Aw.istore (by decide) d_Drf_weave_38 ?_
  refine Aw.toL (L' := [xr (some a0), xr (some a1), xr (some a2), xr (some a3), xi 0, xi 0, xu, xu, xu, xu]) rfl ?_
  refine Aw.iconst d_Drf_weave_40 ?_
  refine Aw.istore (by decide) d_Drf_weave_41 ?_
  refine Aw.toL (L' := [xr (some a0), xr (some a1), xr (some a2), xr (some a3), xi 0, xi 0, xi 0, xu, xu, xu]) rfl ?_
  refine Aw.iconst d_Drf_weave_43 ?_
  refine Aw.istore (by decide) d_Drf_weave_44 ?_
  refine Aw.toL (L' := [xr (some a0), xr (some a1), xr (some a2), xr (some a3), xi 0, xi 0, xi 0, xi 0, xu, xu]) rfl ?_
  exact h
theorem b_Drf_weave_46 {Ω : Om} {R : Room} {F : QF} {k n : Nat} {σ : Sto} {a0 : Nat} {a1 : Nat} {a2 : Nat} {a3 : Nat} {v4 : Int} {v5 : Int} {v6 : Int} {v7 : Int} (h : Aw Ω M_Drf_weave R F k n 49 [xr (some a0), xr (some a1), xr (some a2), xr (some a3), xi v4, xi v5, xi v6, xi v7, xu, xu] [xr (some a3), xi v7] σ) : Aw Ω M_Drf_weave R F k n 46 [xr (some a0), xr (some a1), xr (some a2), xr (some a3), xi v4, xi v5, xi v6, xi v7, xu, xu] [] σ := by
  refine Aw.iload rfl d_Drf_weave_46 ?_
  refine Aw.aload_n rfl d_Drf_weave_48 ?_
  exact h
theorem b_Drf_weave_52 {Ω : Om} {R : Room} {F : QF} {k n : Nat} {σ : Sto} {a0 : Nat} {a1 : Nat} {a2 : Nat} {a3 : Nat} {v4 : Int} {v5 : Int} {v6 : Int} {v7 : Int} {s0 : Int} {s1 : Int} (h : Q32 s0 ∧ Q32 s1 ∧ ((s1 ≤ s0 → Aw Ω M_Drf_weave R F k n 160 [xr (some a0), xr (some a1), xr (some a2), xr (some a3), xi v4, xi v5, xi v6, xi v7, xu, xu] [xr (some a1), xi v5, xr (some a0), xr (some a0)] σ) ∧ (¬ s1 ≤ s0 → sK σ a0 = 4 ∧ (∃ b4 : Nat, fR σ 195 a0 = some b4 ∧ Aw Ω M_Drf_weave R F k n 61 [xr (some a0), xr (some a1), xr (some a2), xr (some a3), xi v4, xi v5, xi v6, xi v7, xu, xu] [xi v7, xr (some b4)] σ)))) : Aw Ω M_Drf_weave R F k n 52 [xr (some a0), xr (some a1), xr (some a2), xr (some a3), xi v4, xi v5, xi v6, xi v7, xu, xu] [xi s1, xi s0] σ := by
  obtain ⟨o1, h⟩ := h
  obtain ⟨o2, h⟩ := h
  obtain ⟨ht, hf⟩ := h
  refine Aw.icmp_ge (tgt := 155) o1 o2 (by decide) d_Drf_weave_52 (fun c6 => ?_) (fun c6 => ?_)
  · have h := ht c6
    refine Aw.aload_n rfl d_Drf_weave_155 ?_
    refine Aw.aload_n rfl d_Drf_weave_156 ?_
    refine Aw.iload rfl d_Drf_weave_157 ?_
    refine Aw.aload_n rfl d_Drf_weave_159 ?_
    exact h
  · have h := hf c6
    refine Aw.aload_n rfl d_Drf_weave_55 ?_
    obtain ⟨o3, h⟩ := h
    obtain ⟨b4, e5, h⟩ := h
    refine Aw.getRs (f := 195) 3 3 fl_Drf_34 (by decide) (by decide) rfl rfl o3 e5 d_Drf_weave_56 ?_
    refine Aw.iload rfl d_Drf_weave_59 ?_
    exact h
theorem b_Drf_weave_64 {Ω : Om} {R : Room} {F : QF} {k n : Nat} {σ : Sto} {a0 : Nat} {a1 : Nat} {a2 : Nat} {a3 : Nat} {v4 : Int} {v5 : Int} {v6 : Int} {v7 : Int} {s0 : Int} (h : sK σ a0 = 4 ∧ (∃ b2 : Nat, fR σ 196 a0 = some b2 ∧ Aw Ω M_Drf_weave R F k n 72 [xr (some a0), xr (some a1), xr (some a2), xr (some a3), xi v4, xi v5, xi v6, xi v7, xi s0, xu] [xi v7, xr (some b2)] σ)) : Aw Ω M_Drf_weave R F k n 64 [xr (some a0), xr (some a1), xr (some a2), xr (some a3), xi v4, xi v5, xi v6, xi v7, xu, xu] [xi s0] σ := by
  refine Aw.istore (by decide) d_Drf_weave_64 ?_
  refine Aw.toL (L' := [xr (some a0), xr (some a1), xr (some a2), xr (some a3), xi v4, xi v5, xi v6, xi v7, xi s0, xu]) rfl ?_
  refine Aw.aload_n rfl d_Drf_weave_66 ?_
  obtain ⟨o1, h⟩ := h
  obtain ⟨b2, e3, h⟩ := h
  refine Aw.getRs (f := 196) 3 4 fl_Drf_38 (by decide) (by decide) rfl rfl o1 e3 d_Drf_weave_67 ?_
  refine Aw.iload rfl d_Drf_weave_70 ?_
  exact h
theorem b_Drf_weave_75 {Ω : Om} {R : Room} {F : QF} {k n : Nat} {σ : Sto} {a0 : Nat} {a1 : Nat} {a2 : Nat} {a3 : Nat} {v4 : Int} {v5 : Int} {v6 : Int} {v7 : Int} {v8 : Int} {s0 : Int} (h : Q32 v8 ∧ ((v8 = (-1 : Int) → Aw Ω M_Drf_weave R F k n 46 [xr (some a0), xr (some a1), xr (some a2), xr (some a3), xi v4, xi v5, xi v6, xi (v7 + 1), xu, xu] [] σ) ∧ (¬ v8 = (-1 : Int) → Q32 s0 ∧ ((s0 = (-1 : Int) → Aw Ω M_Drf_weave R F k n 46 [xr (some a0), xr (some a1), xr (some a2), xr (some a3), xi v4, xi v5, xi v6, xi (v7 + 1), xu, xu] [] σ) ∧ (¬ s0 = (-1 : Int) → Aw Ω M_Drf_weave R F k n 103 [xr (some a0), xr (some a1), xr (some a2), xr (some a3), xi v4, xi v5, xi v6, xi v7, xi v8, xi s0] [xi v7, xi v4, xi s0, xi v6, xi v8, xi v5, xr (some a0), xr (some a0)] σ))))) : Aw Ω M_Drf_weave R F k n 75 [xr (some a0), xr (some a1), xr (some a2), xr (some a3), xi v4, xi v5, xi v6, xi v7, xi v8, xu] [xi s0] σ := by
  refine Aw.istore (by decide) d_Drf_weave_75 ?_
  refine Aw.toL (L' := [xr (some a0), xr (some a1), xr (some a2), xr (some a3), xi v4, xi v5, xi v6, xi v7, xi v8, xi s0]) rfl ?_
  refine Aw.iload rfl d_Drf_weave_77 ?_
  refine Aw.iconst d_Drf_weave_79 ?_
  obtain ⟨o1, h⟩ := h
  obtain ⟨ht, hf⟩ := h
  refine Aw.icmp_eq (tgt := 149) o1 ⟨by decide, by decide⟩ (by decide) d_Drf_weave_80 (fun c4 => ?_) (fun c4 => ?_)
  · have h := ht c4
    refine Aw.iinc rfl d_Drf_weave_149 ?_
    refine Aw.toL (L' := [xr (some a0), xr (some a1), xr (some a2), xr (some a3), xi v4, xi v5, xi v6, xi (v7 + 1), xi v8, xi s0]) rfl ?_
    refine Aw.goto (tgt := 46) (by decide) d_Drf_weave_152 ?_
    exact Aw.toW (L' := [xr (some a0), xr (some a1), xr (some a2), xr (some a3), xi v4, xi v5, xi v6, xi (v7 + 1), xu, xu]) ⟨Or.inr rfl, Or.inr rfl, Or.inr rfl, Or.inr rfl, Or.inr rfl, Or.inr rfl, Or.inr rfl, Or.inr rfl, Or.inl rfl, Or.inl rfl, trivial⟩ h
  · have h := hf c4
    refine Aw.iload rfl d_Drf_weave_83 ?_
    refine Aw.iconst d_Drf_weave_85 ?_
    obtain ⟨o2, h⟩ := h
    obtain ⟨ht, hf⟩ := h
    refine Aw.icmp_eq (tgt := 149) o2 ⟨by decide, by decide⟩ (by decide) d_Drf_weave_86 (fun c3 => ?_) (fun c3 => ?_)
    · have h := ht c3
      refine Aw.iinc rfl d_Drf_weave_149 ?_
      refine Aw.toL (L' := [xr (some a0), xr (some a1), xr (some a2), xr (some a3), xi v4, xi v5, xi v6, xi (v7 + 1), xi v8, xi s0]) rfl ?_
      refine Aw.goto (tgt := 46) (by decide) d_Drf_weave_152 ?_
      exact Aw.toW (L' := [xr (some a0), xr (some a1), xr (some a2), xr (some a3), xi v4, xi v5, xi v6, xi (v7 + 1), xu, xu]) ⟨Or.inr rfl, Or.inr rfl, Or.inr rfl, Or.inr rfl, Or.inr rfl, Or.inr rfl, Or.inr rfl, Or.inr rfl, Or.inl rfl, Or.inl rfl, trivial⟩ h
    · have h := hf c3
      refine Aw.aload_n rfl d_Drf_weave_89 ?_
      refine Aw.aload_n rfl d_Drf_weave_90 ?_
      refine Aw.iload rfl d_Drf_weave_91 ?_
      refine Aw.iload rfl d_Drf_weave_93 ?_
      refine Aw.iload rfl d_Drf_weave_95 ?_
      refine Aw.iload rfl d_Drf_weave_97 ?_
      refine Aw.iload rfl d_Drf_weave_99 ?_
      refine Aw.iload rfl d_Drf_weave_101 ?_
      exact h
theorem b_Drf_weave_109 {Ω : Om} {R : Room} {F : QF} {k n : Nat} {σ : Sto} {a0 : Nat} {a1 : Nat} {a2 : Nat} {a3 : Nat} {v4 : Int} {v5 : Int} {v6 : Int} {v7 : Int} {v8 : Int} {v9 : Int} (h : sK σ a0 = 4 ∧ (∃ b2 : Nat, fR σ 192 a0 = some b2 ∧ Aw Ω M_Drf_weave R F k n 117 [xr (some a0), xr (some a1), xr (some a2), xr (some a3), xi v4, xi v5, xi v6, xi v7, xi v8, xi v9] [xr (some b2), xr (some b2)] σ)) : Aw Ω M_Drf_weave R F k n 109 [xr (some a0), xr (some a1), xr (some a2), xr (some a3), xi v4, xi v5, xi v6, xi v7, xi v8, xi v9] [] σ := by
  refine Aw.aload_n rfl d_Drf_weave_109 ?_
  obtain ⟨o1, h⟩ := h
  obtain ⟨b2, e3, h⟩ := h
  refine Aw.getRs (f := 192) 3 0 fl_Drf_12 (by decide) (by decide) rfl rfl o1 e3 d_Drf_weave_110 ?_
  refine Aw.aload_n rfl d_Drf_weave_113 ?_
  refine Aw.getRs (f := 192) 3 0 fl_Drf_12 (by decide) (by decide) rfl rfl o1 e3 d_Drf_weave_114 ?_
  exact h
theorem b_Drf_weave_120 {Ω : Om} {R : Room} {F : QF} {k n : Nat} {σ : Sto} {a0 : Nat} {a1 : Nat} {a2 : Nat} {a3 : Nat} {v4 : Int} {v5 : Int} {v6 : Int} {v7 : Int} {v8 : Int} {v9 : Int} {s0 : Nat} {s1 : Int} (h : Aw Ω M_Drf_weave R F k n 127 [xr (some a0), xr (some a1), xr (some a2), xr (some a3), xi v4, xi v5, xi v6, xi v7, xi v8, xi v9] [xi (v8 + 1), xi v8, xr (some a1), xi s1, xr (some s0)] σ) : Aw Ω M_Drf_weave R F k n 120 [xr (some a0), xr (some a1), xr (some a2), xr (some a3), xi v4, xi v5, xi v6, xi v7, xi v8, xi v9] [xi s1, xr (some s0)] σ := by
  refine Aw.aload_n rfl d_Drf_weave_120 ?_
  refine Aw.iload rfl d_Drf_weave_121 ?_
  refine Aw.iload rfl d_Drf_weave_123 ?_
  refine Aw.iconst d_Drf_weave_125 ?_
  refine Aw.iadd d_Drf_weave_126 ?_
  exact h
theorem b_Drf_weave_130 {Ω : Om} {R : Room} {F : QF} {k n : Nat} {σ : Sto} {a0 : Nat} {a1 : Nat} {a2 : Nat} {a3 : Nat} {v4 : Int} {v5 : Int} {v6 : Int} {v7 : Int} {v8 : Int} {v9 : Int} {s0 : Int} (h : Aw Ω M_Drf_weave R F k n 46 [xr (some a0), xr (some a1), xr (some a2), xr (some a3), xi (v7 + 1), xi (v8 + 1), xi (v9 + 1), xi (v7 + 1), xu, xu] [] σ) : Aw Ω M_Drf_weave R F k n 130 [xr (some a0), xr (some a1), xr (some a2), xr (some a3), xi v4, xi v5, xi v6, xi v7, xi v8, xi v9] [xi s0] σ := by
  refine Aw.pop rfl d_Drf_weave_130 ?_
  refine Aw.iload rfl d_Drf_weave_131 ?_
  refine Aw.iconst d_Drf_weave_133 ?_
  refine Aw.iadd d_Drf_weave_134 ?_
  refine Aw.istore (by decide) d_Drf_weave_135 ?_
  refine Aw.toL (L' := [xr (some a0), xr (some a1), xr (some a2), xr (some a3), xi v4, xi (v8 + 1), xi v6, xi v7, xi v8, xi v9]) rfl ?_
  refine Aw.iload rfl d_Drf_weave_137 ?_
  refine Aw.iconst d_Drf_weave_139 ?_
  refine Aw.iadd d_Drf_weave_140 ?_
  refine Aw.istore (by decide) d_Drf_weave_141 ?_
  refine Aw.toL (L' := [xr (some a0), xr (some a1), xr (some a2), xr (some a3), xi v4, xi (v8 + 1), xi (v9 + 1), xi v7, xi v8, xi v9]) rfl ?_
  refine Aw.iload rfl d_Drf_weave_143 ?_
  refine Aw.iconst d_Drf_weave_145 ?_
  refine Aw.iadd d_Drf_weave_146 ?_
  refine Aw.istore (by decide) d_Drf_weave_147 ?_
  refine Aw.toL (L' := [xr (some a0), xr (some a1), xr (some a2), xr (some a3), xi (v7 + 1), xi (v8 + 1), xi (v9 + 1), xi v7, xi v8, xi v9]) rfl ?_
  refine Aw.iinc rfl d_Drf_weave_149 ?_
  refine Aw.toL (L' := [xr (some a0), xr (some a1), xr (some a2), xr (some a3), xi (v7 + 1), xi (v8 + 1), xi (v9 + 1), xi (v7 + 1), xi v8, xi v9]) rfl ?_
  refine Aw.goto (tgt := 46) (by decide) d_Drf_weave_152 ?_
  exact Aw.toW (L' := [xr (some a0), xr (some a1), xr (some a2), xr (some a3), xi (v7 + 1), xi (v8 + 1), xi (v9 + 1), xi (v7 + 1), xu, xu]) ⟨Or.inr rfl, Or.inr rfl, Or.inr rfl, Or.inr rfl, Or.inr rfl, Or.inr rfl, Or.inr rfl, Or.inr rfl, Or.inl rfl, Or.inl rfl, trivial⟩ h
theorem b_Drf_weave_163 {Ω : Om} {R : Room} {F : QF} {k n : Nat} {σ : Sto} {a0 : Nat} {a1 : Nat} {a2 : Nat} {a3 : Nat} {v4 : Int} {v5 : Int} {v6 : Int} {v7 : Int} {s0 : Nat} {s1 : Nat} {s2 : Int} {s3 : Int} (h : Aw Ω M_Drf_weave R F k n 166 [xr (some a0), xr (some a1), xr (some a2), xr (some a3), xi v4, xi v5, xi v6, xi v7, xu, xu] [xr (some a2), xi v6, xi s3, xi s2, xr (some s1), xr (some s0)] σ) : Aw Ω M_Drf_weave R F k n 163 [xr (some a0), xr (some a1), xr (some a2), xr (some a3), xi v4, xi v5, xi v6, xi v7, xu, xu] [xi s3, xi s2, xr (some s1), xr (some s0)] σ := by
  refine Aw.iload rfl d_Drf_weave_163 ?_
  refine Aw.aload_n rfl d_Drf_weave_165 ?_
  exact h
theorem b_Drf_weave_169 {Ω : Om} {R : Room} {F : QF} {k n : Nat} {σ : Sto} {a0 : Nat} {a1 : Nat} {a2 : Nat} {a3 : Nat} {v4 : Int} {v5 : Int} {v6 : Int} {v7 : Int} {s0 : Nat} {s1 : Nat} {s2 : Int} {s3 : Int} {s4 : Int} {s5 : Int} (h : Aw Ω M_Drf_weave R F k n 172 [xr (some a0), xr (some a1), xr (some a2), xr (some a3), xi v4, xi v5, xi v6, xi v7, xu, xu] [xr (some a3), xi v4, xi s5, xi s4, xi s3, xi s2, xr (some s1), xr (some s0)] σ) : Aw Ω M_Drf_weave R F k n 169 [xr (some a0), xr (some a1), xr (some a2), xr (some a3), xi v4, xi v5, xi v6, xi v7, xu, xu] [xi s5, xi s4, xi s3, xi s2, xr (some s1), xr (some s0)] σ := by
  refine Aw.iload rfl d_Drf_weave_169 ?_
  refine Aw.aload_n rfl d_Drf_weave_171 ?_
  exact h
theorem c_Drf_weave_4 {Ω : Om} {R R' : Room} {F : QF} {k n : Nat} {L st : List PV} {σ : Sto} {QX' : String → Sto → Prop} {Q : Sto → Prop} {a : Nat} {x0 : Option Nat} {x1 : Option Nat} {x2 : Option Nat} (hc : MC Ω M_Drf_begun R' (RV Q) QX' σ [xr (some a), xr x0, xr x1, xr x2]) (hk : sK σ a = 4) (hr1 : R'.frames + 1 ≤ R.frames) (hr2 : 8 + (4 + 11) + R'.locals ≤ R.locals) (hb1 : k + R'.cells ≤ R.cells) (hb2 : n + R'.slots ≤ R.slots) (hst : (st.map catP).sum ≤ 8) (kk : ∀ σ', Q σ' → Aw Ω M_Drf_weave R F (k + R'.cells) (n + R'.slots) 7 L st σ') (kx : ∀ E σ', QX' E σ' → Ax Ω M_Drf_weave R F (k + R'.cells) (n + R'.slots) 4 L st σ' E) : Aw Ω M_Drf_weave R F k n 4 L (xr x2 :: xr x1 :: xr x0 :: xr (some a) :: st) σ :=
  Aw.callV (As := [xr x0, xr x1, xr x2]) (stk := xr x2 :: xr x1 :: xr x0 :: xr (some a) :: st) (nn := 3) 3 M_Drf_begun hc ok_Drf_begun rfl (by decide) rfl hk ml_Drf_70 im_Drf_begun se_Drf_begun ⟨hr1, hr2⟩ rfl ⟨hb1, hb2⟩ hst rfl d_Drf_weave_4 (fun r σ' h => by obtain ⟨rfl, h⟩ := h; exact kk σ' h) kx
theorem c_Drf_weave_11 {Ω : Om} {R R' : Room} {F : QF} {k n : Nat} {L st : List PV} {σ : Sto} {QX' : String → Sto → Prop} {Q : Sto → Prop} {a : Nat} (hc : MC Ω M_Txt_empty R' (RV Q) QX' σ [xr (some a)]) (hk : sK σ a = 10) (hr1 : R'.frames + 1 ≤ R.frames) (hr2 : 8 + (1 + 11) + R'.locals ≤ R.locals) (hb1 : k + R'.cells ≤ R.cells) (hb2 : n + R'.slots ≤ R.slots) (hst : (st.map catP).sum ≤ 8) (kk : ∀ σ', Q σ' → Aw Ω M_Drf_weave R F (k + R'.cells) (n + R'.slots) 14 L st σ') (kx : ∀ E σ', QX' E σ' → Ax Ω M_Drf_weave R F (k + R'.cells) (n + R'.slots) 11 L st σ' E) : Aw Ω M_Drf_weave R F k n 11 L (xr (some a) :: st) σ :=
  Aw.callV (As := []) (stk := xr (some a) :: st) (nn := 0) 9 M_Txt_empty hc ok_Txt_empty rfl (by decide) rfl hk ml_Drf_81 im_Txt_empty se_Txt_empty ⟨hr1, hr2⟩ rfl ⟨hb1, hb2⟩ hst rfl d_Drf_weave_11 (fun r σ' h => by obtain ⟨rfl, h⟩ := h; exact kk σ' h) kx
theorem c_Drf_weave_21 {Ω : Om} {R R' : Room} {F : QF} {k n : Nat} {L st : List PV} {σ : Sto} {QX' : String → Sto → Prop} {Q : Sto → Prop} {a : Nat} {x0 : Option Nat} {x1 : Option Nat} {x2 : Int} (hc : MC Ω M_Cmp_pairUp R' (RV Q) QX' σ [xr (some a), xr x0, xr x1, xi x2]) (hk : sK σ a = 2) (hr1 : R'.frames + 1 ≤ R.frames) (hr2 : 8 + (4 + 11) + R'.locals ≤ R.locals) (hb1 : k + R'.cells ≤ R.cells) (hb2 : n + R'.slots ≤ R.slots) (hst : (st.map catP).sum ≤ 8) (kk : ∀ σ', Q σ' → Aw Ω M_Drf_weave R F (k + R'.cells) (n + R'.slots) 24 L st σ') (kx : ∀ E σ', QX' E σ' → Ax Ω M_Drf_weave R F (k + R'.cells) (n + R'.slots) 21 L st σ' E) : Aw Ω M_Drf_weave R F k n 21 L (xi x2 :: xr x1 :: xr x0 :: xr (some a) :: st) σ :=
  Aw.callV (As := [xr x0, xr x1, xi x2]) (stk := xi x2 :: xr x1 :: xr x0 :: xr (some a) :: st) (nn := 3) 1 M_Cmp_pairUp hc ok_Cmp_pairUp rfl (by decide) rfl hk ml_Drf_84 im_Cmp_pairUp se_Cmp_pairUp ⟨hr1, hr2⟩ rfl ⟨hb1, hb2⟩ hst rfl d_Drf_weave_21 (fun r σ' h => by obtain ⟨rfl, h⟩ := h; exact kk σ' h) kx
theorem c_Drf_weave_31 {Ω : Om} {R R' : Room} {F : QF} {k n : Nat} {L st : List PV} {σ : Sto} {QX' : String → Sto → Prop} {Q : Sto → Prop} {a : Nat} {x0 : Option Nat} {x1 : Option Nat} {x2 : Int} (hc : MC Ω M_Cmp_pairUp R' (RV Q) QX' σ [xr (some a), xr x0, xr x1, xi x2]) (hk : sK σ a = 2) (hr1 : R'.frames + 1 ≤ R.frames) (hr2 : 8 + (4 + 11) + R'.locals ≤ R.locals) (hb1 : k + R'.cells ≤ R.cells) (hb2 : n + R'.slots ≤ R.slots) (hst : (st.map catP).sum ≤ 8) (kk : ∀ σ', Q σ' → Aw Ω M_Drf_weave R F (k + R'.cells) (n + R'.slots) 34 L st σ') (kx : ∀ E σ', QX' E σ' → Ax Ω M_Drf_weave R F (k + R'.cells) (n + R'.slots) 31 L st σ' E) : Aw Ω M_Drf_weave R F k n 31 L (xi x2 :: xr x1 :: xr x0 :: xr (some a) :: st) σ :=
  Aw.callV (As := [xr x0, xr x1, xi x2]) (stk := xi x2 :: xr x1 :: xr x0 :: xr (some a) :: st) (nn := 3) 1 M_Cmp_pairUp hc ok_Cmp_pairUp rfl (by decide) rfl hk ml_Drf_84 im_Cmp_pairUp se_Cmp_pairUp ⟨hr1, hr2⟩ rfl ⟨hb1, hb2⟩ hst rfl d_Drf_weave_31 (fun r σ' h => by obtain ⟨rfl, h⟩ := h; exact kk σ' h) kx
theorem c_Drf_weave_49 {Ω : Om} {R R' : Room} {F : QF} {k n : Nat} {L st : List PV} {σ : Sto} {QX' : String → Sto → Prop} {Q : Int → Sto → Prop} {a : Nat} (hc : MC Ω M_Txt_size R' (RI Q) QX' σ [xr (some a)]) (hk : sK σ a = 10) (hr1 : R'.frames + 1 ≤ R.frames) (hr2 : 8 + (1 + 11) + R'.locals ≤ R.locals) (hb1 : k + R'.cells ≤ R.cells) (hb2 : n + R'.slots ≤ R.slots) (hst : (st.map catP).sum ≤ 8) (kk : ∀ x σ', Q x σ' → Aw Ω M_Drf_weave R F (k + R'.cells) (n + R'.slots) 52 L (xi x :: st) σ') (kx : ∀ E σ', QX' E σ' → Ax Ω M_Drf_weave R F (k + R'.cells) (n + R'.slots) 49 L st σ' E) : Aw Ω M_Drf_weave R F k n 49 L (xr (some a) :: st) σ :=
  Aw.callV (As := []) (stk := xr (some a) :: st) (nn := 0) 9 M_Txt_size hc ok_Txt_size rfl (by decide) rfl hk ml_Drf_88 im_Txt_size se_Txt_size ⟨hr1, hr2⟩ rfl ⟨hb1, hb2⟩ hst rfl d_Drf_weave_49 (fun r σ' h => by obtain ⟨x, rfl, h⟩ := h; exact kk x σ' h) kx
theorem c_Drf_weave_61 {Ω : Om} {R R' : Room} {F : QF} {k n : Nat} {L st : List PV} {σ : Sto} {QX' : String → Sto → Prop} {Q : Int → Sto → Prop} {a : Nat} {x0 : Int} (hc : MC Ω M_Cmp_pairAt R' (RI Q) QX' σ [xr (some a), xi x0]) (hk : sK σ a = 2) (hr1 : R'.frames + 1 ≤ R.frames) (hr2 : 8 + (2 + 11) + R'.locals ≤ R.locals) (hb1 : k + R'.cells ≤ R.cells) (hb2 : n + R'.slots ≤ R.slots) (hst : (st.map catP).sum ≤ 8) (kk : ∀ x σ', Q x σ' → Aw Ω M_Drf_weave R F (k + R'.cells) (n + R'.slots) 64 L (xi x :: st) σ') (kx : ∀ E σ', QX' E σ' → Ax Ω M_Drf_weave R F (k + R'.cells) (n + R'.slots) 61 L st σ' E) : Aw Ω M_Drf_weave R F k n 61 L (xi x0 :: xr (some a) :: st) σ :=
  Aw.callV (As := [xi x0]) (stk := xi x0 :: xr (some a) :: st) (nn := 1) 1 M_Cmp_pairAt hc ok_Cmp_pairAt rfl (by decide) rfl hk ml_Drf_92 im_Cmp_pairAt se_Cmp_pairAt ⟨hr1, hr2⟩ rfl ⟨hb1, hb2⟩ hst rfl d_Drf_weave_61 (fun r σ' h => by obtain ⟨x, rfl, h⟩ := h; exact kk x σ' h) kx
theorem c_Drf_weave_72 {Ω : Om} {R R' : Room} {F : QF} {k n : Nat} {L st : List PV} {σ : Sto} {QX' : String → Sto → Prop} {Q : Int → Sto → Prop} {a : Nat} {x0 : Int} (hc : MC Ω M_Cmp_pairAt R' (RI Q) QX' σ [xr (some a), xi x0]) (hk : sK σ a = 2) (hr1 : R'.frames + 1 ≤ R.frames) (hr2 : 8 + (2 + 11) + R'.locals ≤ R.locals) (hb1 : k + R'.cells ≤ R.cells) (hb2 : n + R'.slots ≤ R.slots) (hst : (st.map catP).sum ≤ 8) (kk : ∀ x σ', Q x σ' → Aw Ω M_Drf_weave R F (k + R'.cells) (n + R'.slots) 75 L (xi x :: st) σ') (kx : ∀ E σ', QX' E σ' → Ax Ω M_Drf_weave R F (k + R'.cells) (n + R'.slots) 72 L st σ' E) : Aw Ω M_Drf_weave R F k n 72 L (xi x0 :: xr (some a) :: st) σ :=
  Aw.callV (As := [xi x0]) (stk := xi x0 :: xr (some a) :: st) (nn := 1) 1 M_Cmp_pairAt hc ok_Cmp_pairAt rfl (by decide) rfl hk ml_Drf_92 im_Cmp_pairAt se_Cmp_pairAt ⟨hr1, hr2⟩ rfl ⟨hb1, hb2⟩ hst rfl d_Drf_weave_72 (fun r σ' h => by obtain ⟨x, rfl, h⟩ := h; exact kk x σ' h) kx
theorem c_Drf_weave_103 {Ω : Om} {R R' : Room} {F : QF} {k n : Nat} {L st : List PV} {σ : Sto} {QX' : String → Sto → Prop} {Q : Option Nat → Sto → Prop} {a : Nat} {x0 : Int} {x1 : Int} {x2 : Int} {x3 : Int} {x4 : Int} {x5 : Int} (hc : MC Ω M_Drf_cut R' (RR Q) QX' σ [xr (some a), xi x0, xi x1, xi x2, xi x3, xi x4, xi x5]) (hk : sK σ a = 4) (hr1 : R'.frames + 1 ≤ R.frames) (hr2 : 8 + (8 + 11) + R'.locals ≤ R.locals) (hb1 : k + R'.cells ≤ R.cells) (hb2 : n + R'.slots ≤ R.slots) (hst : (st.map catP).sum ≤ 8) (kk : ∀ x σ', Q x σ' → Aw Ω M_Drf_weave R F (k + R'.cells) (n + R'.slots) 106 L (xr x :: st) σ') (kx : ∀ E σ', QX' E σ' → Ax Ω M_Drf_weave R F (k + R'.cells) (n + R'.slots) 103 L st σ' E) : Aw Ω M_Drf_weave R F k n 103 L (xi x5 :: xi x4 :: xi x3 :: xi x2 :: xi x1 :: xi x0 :: xr (some a) :: st) σ :=
  Aw.callV (As := [xi x0, xi x1, xi x2, xi x3, xi x4, xi x5]) (stk := xi x5 :: xi x4 :: xi x3 :: xi x2 :: xi x1 :: xi x0 :: xr (some a) :: st) (nn := 6) 3 M_Drf_cut hc ok_Drf_cut rfl (by decide) rfl hk ml_Drf_96 im_Drf_cut se_Drf_cut ⟨hr1, hr2⟩ rfl ⟨hb1, hb2⟩ hst rfl d_Drf_weave_103 (fun r σ' h => by obtain ⟨x, rfl, h⟩ := h; exact kk x σ' h) kx
theorem c_Drf_weave_106 {Ω : Om} {R R' : Room} {F : QF} {k n : Nat} {L st : List PV} {σ : Sto} {QX' : String → Sto → Prop} {Q : Sto → Prop} {a : Nat} {x0 : Option Nat} (hc : MC Ω M_Drf_weavePiece R' (RV Q) QX' σ [xr (some a), xr x0]) (hk : sK σ a = 4) (hr1 : R'.frames + 1 ≤ R.frames) (hr2 : 8 + (2 + 11) + R'.locals ≤ R.locals) (hb1 : k + R'.cells ≤ R.cells) (hb2 : n + R'.slots ≤ R.slots) (hst : (st.map catP).sum ≤ 8) (kk : ∀ σ', Q σ' → Aw Ω M_Drf_weave R F (k + R'.cells) (n + R'.slots) 109 L st σ') (kx : ∀ E σ', QX' E σ' → Ax Ω M_Drf_weave R F (k + R'.cells) (n + R'.slots) 106 L st σ' E) : Aw Ω M_Drf_weave R F k n 106 L (xr x0 :: xr (some a) :: st) σ :=
  Aw.callV (As := [xr x0]) (stk := xr x0 :: xr (some a) :: st) (nn := 1) 3 M_Drf_weavePiece hc ok_Drf_weavePiece rfl (by decide) rfl hk ml_Drf_100 im_Drf_weavePiece se_Drf_weavePiece ⟨hr1, hr2⟩ rfl ⟨hb1, hb2⟩ hst rfl d_Drf_weave_106 (fun r σ' h => by obtain ⟨rfl, h⟩ := h; exact kk σ' h) kx
theorem c_Drf_weave_117 {Ω : Om} {R R' : Room} {F : QF} {k n : Nat} {L st : List PV} {σ : Sto} {QX' : String → Sto → Prop} {Q : Int → Sto → Prop} {a : Nat} (hc : MC Ω M_Txt_size R' (RI Q) QX' σ [xr (some a)]) (hk : sK σ a = 10) (hr1 : R'.frames + 1 ≤ R.frames) (hr2 : 8 + (1 + 11) + R'.locals ≤ R.locals) (hb1 : k + R'.cells ≤ R.cells) (hb2 : n + R'.slots ≤ R.slots) (hst : (st.map catP).sum ≤ 8) (kk : ∀ x σ', Q x σ' → Aw Ω M_Drf_weave R F (k + R'.cells) (n + R'.slots) 120 L (xi x :: st) σ') (kx : ∀ E σ', QX' E σ' → Ax Ω M_Drf_weave R F (k + R'.cells) (n + R'.slots) 117 L st σ' E) : Aw Ω M_Drf_weave R F k n 117 L (xr (some a) :: st) σ :=
  Aw.callV (As := []) (stk := xr (some a) :: st) (nn := 0) 9 M_Txt_size hc ok_Txt_size rfl (by decide) rfl hk ml_Drf_88 im_Txt_size se_Txt_size ⟨hr1, hr2⟩ rfl ⟨hb1, hb2⟩ hst rfl d_Drf_weave_117 (fun r σ' h => by obtain ⟨x, rfl, h⟩ := h; exact kk x σ' h) kx
theorem c_Drf_weave_127 {Ω : Om} {R R' : Room} {F : QF} {k n : Nat} {L st : List PV} {σ : Sto} {QX' : String → Sto → Prop} {Q : Int → Sto → Prop} {a : Nat} {x0 : Int} {x1 : Option Nat} {x2 : Int} {x3 : Int} (hc : MC Ω M_Txt_putRow R' (RI Q) QX' σ [xr (some a), xi x0, xr x1, xi x2, xi x3]) (hk : sK σ a = 10) (hr1 : R'.frames + 1 ≤ R.frames) (hr2 : 8 + (7 + 11) + R'.locals ≤ R.locals) (hb1 : k + R'.cells ≤ R.cells) (hb2 : n + R'.slots ≤ R.slots) (hst : (st.map catP).sum ≤ 8) (kk : ∀ x σ', Q x σ' → Aw Ω M_Drf_weave R F (k + R'.cells) (n + R'.slots) 130 L (xi x :: st) σ') (kx : ∀ E σ', QX' E σ' → Ax Ω M_Drf_weave R F (k + R'.cells) (n + R'.slots) 127 L st σ' E) : Aw Ω M_Drf_weave R F k n 127 L (xi x3 :: xi x2 :: xr x1 :: xi x0 :: xr (some a) :: st) σ :=
  Aw.callV (As := [xi x0, xr x1, xi x2, xi x3]) (stk := xi x3 :: xi x2 :: xr x1 :: xi x0 :: xr (some a) :: st) (nn := 4) 9 M_Txt_putRow hc ok_Txt_putRow rfl (by decide) rfl hk ml_Drf_104 im_Txt_putRow se_Txt_putRow ⟨hr1, hr2⟩ rfl ⟨hb1, hb2⟩ hst rfl d_Drf_weave_127 (fun r σ' h => by obtain ⟨x, rfl, h⟩ := h; exact kk x σ' h) kx
theorem c_Drf_weave_160 {Ω : Om} {R R' : Room} {F : QF} {k n : Nat} {L st : List PV} {σ : Sto} {QX' : String → Sto → Prop} {Q : Int → Sto → Prop} {a : Nat} (hc : MC Ω M_Txt_size R' (RI Q) QX' σ [xr (some a)]) (hk : sK σ a = 10) (hr1 : R'.frames + 1 ≤ R.frames) (hr2 : 8 + (1 + 11) + R'.locals ≤ R.locals) (hb1 : k + R'.cells ≤ R.cells) (hb2 : n + R'.slots ≤ R.slots) (hst : (st.map catP).sum ≤ 8) (kk : ∀ x σ', Q x σ' → Aw Ω M_Drf_weave R F (k + R'.cells) (n + R'.slots) 163 L (xi x :: st) σ') (kx : ∀ E σ', QX' E σ' → Ax Ω M_Drf_weave R F (k + R'.cells) (n + R'.slots) 160 L st σ' E) : Aw Ω M_Drf_weave R F k n 160 L (xr (some a) :: st) σ :=
  Aw.callV (As := []) (stk := xr (some a) :: st) (nn := 0) 9 M_Txt_size hc ok_Txt_size rfl (by decide) rfl hk ml_Drf_88 im_Txt_size se_Txt_size ⟨hr1, hr2⟩ rfl ⟨hb1, hb2⟩ hst rfl d_Drf_weave_160 (fun r σ' h => by obtain ⟨x, rfl, h⟩ := h; exact kk x σ' h) kx
theorem c_Drf_weave_166 {Ω : Om} {R R' : Room} {F : QF} {k n : Nat} {L st : List PV} {σ : Sto} {QX' : String → Sto → Prop} {Q : Int → Sto → Prop} {a : Nat} (hc : MC Ω M_Txt_size R' (RI Q) QX' σ [xr (some a)]) (hk : sK σ a = 10) (hr1 : R'.frames + 1 ≤ R.frames) (hr2 : 8 + (1 + 11) + R'.locals ≤ R.locals) (hb1 : k + R'.cells ≤ R.cells) (hb2 : n + R'.slots ≤ R.slots) (hst : (st.map catP).sum ≤ 8) (kk : ∀ x σ', Q x σ' → Aw Ω M_Drf_weave R F (k + R'.cells) (n + R'.slots) 169 L (xi x :: st) σ') (kx : ∀ E σ', QX' E σ' → Ax Ω M_Drf_weave R F (k + R'.cells) (n + R'.slots) 166 L st σ' E) : Aw Ω M_Drf_weave R F k n 166 L (xr (some a) :: st) σ :=
  Aw.callV (As := []) (stk := xr (some a) :: st) (nn := 0) 9 M_Txt_size hc ok_Txt_size rfl (by decide) rfl hk ml_Drf_88 im_Txt_size se_Txt_size ⟨hr1, hr2⟩ rfl ⟨hb1, hb2⟩ hst rfl d_Drf_weave_166 (fun r σ' h => by obtain ⟨x, rfl, h⟩ := h; exact kk x σ' h) kx
theorem c_Drf_weave_172 {Ω : Om} {R R' : Room} {F : QF} {k n : Nat} {L st : List PV} {σ : Sto} {QX' : String → Sto → Prop} {Q : Int → Sto → Prop} {a : Nat} (hc : MC Ω M_Txt_size R' (RI Q) QX' σ [xr (some a)]) (hk : sK σ a = 10) (hr1 : R'.frames + 1 ≤ R.frames) (hr2 : 8 + (1 + 11) + R'.locals ≤ R.locals) (hb1 : k + R'.cells ≤ R.cells) (hb2 : n + R'.slots ≤ R.slots) (hst : (st.map catP).sum ≤ 8) (kk : ∀ x σ', Q x σ' → Aw Ω M_Drf_weave R F (k + R'.cells) (n + R'.slots) 175 L (xi x :: st) σ') (kx : ∀ E σ', QX' E σ' → Ax Ω M_Drf_weave R F (k + R'.cells) (n + R'.slots) 172 L st σ' E) : Aw Ω M_Drf_weave R F k n 172 L (xr (some a) :: st) σ :=
  Aw.callV (As := []) (stk := xr (some a) :: st) (nn := 0) 9 M_Txt_size hc ok_Txt_size rfl (by decide) rfl hk ml_Drf_88 im_Txt_size se_Txt_size ⟨hr1, hr2⟩ rfl ⟨hb1, hb2⟩ hst rfl d_Drf_weave_172 (fun r σ' h => by obtain ⟨x, rfl, h⟩ := h; exact kk x σ' h) kx
theorem c_Drf_weave_175 {Ω : Om} {R R' : Room} {F : QF} {k n : Nat} {L st : List PV} {σ : Sto} {QX' : String → Sto → Prop} {Q : Option Nat → Sto → Prop} {a : Nat} {x0 : Int} {x1 : Int} {x2 : Int} {x3 : Int} {x4 : Int} {x5 : Int} (hc : MC Ω M_Drf_cut R' (RR Q) QX' σ [xr (some a), xi x0, xi x1, xi x2, xi x3, xi x4, xi x5]) (hk : sK σ a = 4) (hr1 : R'.frames + 1 ≤ R.frames) (hr2 : 8 + (8 + 11) + R'.locals ≤ R.locals) (hb1 : k + R'.cells ≤ R.cells) (hb2 : n + R'.slots ≤ R.slots) (hst : (st.map catP).sum ≤ 8) (kk : ∀ x σ', Q x σ' → Aw Ω M_Drf_weave R F (k + R'.cells) (n + R'.slots) 178 L (xr x :: st) σ') (kx : ∀ E σ', QX' E σ' → Ax Ω M_Drf_weave R F (k + R'.cells) (n + R'.slots) 175 L st σ' E) : Aw Ω M_Drf_weave R F k n 175 L (xi x5 :: xi x4 :: xi x3 :: xi x2 :: xi x1 :: xi x0 :: xr (some a) :: st) σ :=
  Aw.callV (As := [xi x0, xi x1, xi x2, xi x3, xi x4, xi x5]) (stk := xi x5 :: xi x4 :: xi x3 :: xi x2 :: xi x1 :: xi x0 :: xr (some a) :: st) (nn := 6) 3 M_Drf_cut hc ok_Drf_cut rfl (by decide) rfl hk ml_Drf_96 im_Drf_cut se_Drf_cut ⟨hr1, hr2⟩ rfl ⟨hb1, hb2⟩ hst rfl d_Drf_weave_175 (fun r σ' h => by obtain ⟨x, rfl, h⟩ := h; exact kk x σ' h) kx
theorem c_Drf_weave_178 {Ω : Om} {R R' : Room} {F : QF} {k n : Nat} {L st : List PV} {σ : Sto} {QX' : String → Sto → Prop} {Q : Sto → Prop} {a : Nat} {x0 : Option Nat} (hc : MC Ω M_Drf_weavePiece R' (RV Q) QX' σ [xr (some a), xr x0]) (hk : sK σ a = 4) (hr1 : R'.frames + 1 ≤ R.frames) (hr2 : 8 + (2 + 11) + R'.locals ≤ R.locals) (hb1 : k + R'.cells ≤ R.cells) (hb2 : n + R'.slots ≤ R.slots) (hst : (st.map catP).sum ≤ 8) (kk : ∀ σ', Q σ' → Aw Ω M_Drf_weave R F (k + R'.cells) (n + R'.slots) 181 L st σ') (kx : ∀ E σ', QX' E σ' → Ax Ω M_Drf_weave R F (k + R'.cells) (n + R'.slots) 178 L st σ' E) : Aw Ω M_Drf_weave R F k n 178 L (xr x0 :: xr (some a) :: st) σ :=
  Aw.callV (As := [xr x0]) (stk := xr x0 :: xr (some a) :: st) (nn := 1) 3 M_Drf_weavePiece hc ok_Drf_weavePiece rfl (by decide) rfl hk ml_Drf_100 im_Drf_weavePiece se_Drf_weavePiece ⟨hr1, hr2⟩ rfl ⟨hb1, hb2⟩ hst rfl d_Drf_weave_178 (fun r σ' h => by obtain ⟨rfl, h⟩ := h; exact kk σ' h) kx
theorem r_Drf_weave_181 {Ω : Om} {R : Room} {k n : Nat} {L : List PV} {σ : Sto} {QR : Option PV → Sto → Prop} {QX : String → Sto → Prop} (h : QR none σ) (h1 : k ≤ R.cells) (h2 : n ≤ R.slots) : Aw Ω M_Drf_weave R (MF Ω R QR QX) k n 181 L [] σ := Aw.vret rfl h h1 h2 d_Drf_weave_181
theorem e_Drf_weavePiece {Ω : Om} {R : Room} {QR : Option PV → Sto → Prop} {QX : String → Sto → Prop} {σ : Sto} {a0 : Nat} {a1 : Nat} (h : Aw Ω M_Drf_weavePiece R (MF Ω R QR QX) 0 0 0 [xr (some a0), xr (some a1)] [] σ) : MC Ω M_Drf_weavePiece R QR QX σ [xr (some a0), xr (some a1)] := MC.body (by decide +kernel) rfl (Nat.le_of_ble_eq_true rfl) rfl h
theorem b_Drf_weavePiece_0 {Ω : Om} {R : Room} {F : QF} {k n : Nat} {σ : Sto} {a0 : Nat} {a1 : Nat} (h : Aw Ω M_Drf_weavePiece R F k n 4 [xr (some a0), xr (some a1)] [xi 2, xi 0, xr (some a1), xr (some a0)] σ) : Aw Ω M_Drf_weavePiece R F k n 0 [xr (some a0), xr (some a1)] [] σ := by
  refine Aw.aload_n rfl d_Drf_weavePiece_0 ?_
  refine Aw.aload_n rfl d_Drf_weavePiece_1 ?_
  refine Aw.iconst d_Drf_weavePiece_2 ?_
  refine Aw.iconst d_Drf_weavePiece_3 ?_
  exact h
theorem b_Drf_weavePiece_7 {Ω : Om} {R : Room} {F : QF} {k n : Nat} {σ : Sto} {a0 : Nat} {a1 : Nat} {s0 : Int} (h : Q32 s0 ∧ ((s0 = (0 : Int) → Aw Ω M_Drf_weavePiece R F k n 28 [xr (some a0), xr (some a1)] [xi 2, xi 1, xr (some a1), xr (some a0)] σ) ∧ (¬ s0 = (0 : Int) → sK σ a1 = 3 ∧ (Q32 (fI σ 130 a1) → Aw Ω M_Drf_weavePiece R F k n 17 [xr (some a0), xr (some a1)] [xi (fI σ 130 a1), xi 1, xr (some a1), xr (some a0)] σ)))) : Aw Ω M_Drf_weavePiece R F k n 7 [xr (some a0), xr (some a1)] [xi s0] σ := by
  obtain ⟨o1, h⟩ := h
  obtain ⟨ht, hf⟩ := h
  refine Aw.if_eq (tgt := 24) o1 (by decide) d_Drf_weavePiece_7 (fun c4 => ?_) (fun c4 => ?_)
  · have h := ht c4
    refine Aw.aload_n rfl d_Drf_weavePiece_24 ?_
    refine Aw.aload_n rfl d_Drf_weavePiece_25 ?_
    refine Aw.iconst d_Drf_weavePiece_26 ?_
    refine Aw.iconst d_Drf_weavePiece_27 ?_
    exact h
  · have h := hf c4
    refine Aw.aload_n rfl d_Drf_weavePiece_10 ?_
    refine Aw.aload_n rfl d_Drf_weavePiece_11 ?_
    refine Aw.iconst d_Drf_weavePiece_12 ?_
    refine Aw.aload_n rfl d_Drf_weavePiece_13 ?_
    obtain ⟨o2, h⟩ := h
    refine Aw.getI (f := 130) 2 2 fl_Drf_121 (by decide) (by decide) rfl rfl o2 d_Drf_weavePiece_14 (fun r3 => ?_)
    have h := h r3
    exact h
theorem b_Drf_weavePiece_20 {Ω : Om} {R : Room} {F : QF} {k n : Nat} {σ : Sto} {a0 : Nat} {a1 : Nat} {s0 : Int} (h : Aw Ω M_Drf_weavePiece R F k n 87 [xr (some a0), xr (some a1)] [] σ) : Aw Ω M_Drf_weavePiece R F k n 20 [xr (some a0), xr (some a1)] [xi s0] σ := by
  refine Aw.pop rfl d_Drf_weavePiece_20 ?_
  refine Aw.goto (tgt := 87) (by decide) d_Drf_weavePiece_21 ?_
  exact h
theorem b_Drf_weavePiece_31 {Ω : Om} {R : Room} {F : QF} {k n : Nat} {σ : Sto} {a0 : Nat} {a1 : Nat} {s0 : Int} (h : Q32 s0 ∧ ((¬ s0 = (0 : Int) → sK σ a1 = 3 ∧ (Q32 (fI σ 130 a1) → Aw Ω M_Drf_weavePiece R F k n 51 [xr (some a0), xr (some a1)] [xi (fI σ 130 a1), xi 0, xr (some a1), xr (some a0)] σ)) ∧ (s0 = (0 : Int) → Aw Ω M_Drf_weavePiece R F k n 38 [xr (some a0), xr (some a1)] [xi 0, xi 1, xr (some a1), xr (some a0)] σ))) : Aw Ω M_Drf_weavePiece R F k n 31 [xr (some a0), xr (some a1)] [xi s0] σ := by
  obtain ⟨o1, h⟩ := h
  obtain ⟨ht, hf⟩ := h
  refine Aw.if_ne (tgt := 44) o1 (by decide) d_Drf_weavePiece_31 (fun c4 => ?_) (fun c4 => ?_)
  · have h := ht c4
    refine Aw.aload_n rfl d_Drf_weavePiece_44 ?_
    refine Aw.aload_n rfl d_Drf_weavePiece_45 ?_
    refine Aw.iconst d_Drf_weavePiece_46 ?_
    refine Aw.aload_n rfl d_Drf_weavePiece_47 ?_
    obtain ⟨o2, h⟩ := h
    refine Aw.getI (f := 130) 2 2 fl_Drf_121 (by decide) (by decide) rfl rfl o2 d_Drf_weavePiece_48 (fun r3 => ?_)
    have h := h r3
    exact h
  · have h := hf c4
    refine Aw.aload_n rfl d_Drf_weavePiece_34 ?_
    refine Aw.aload_n rfl d_Drf_weavePiece_35 ?_
    refine Aw.iconst d_Drf_weavePiece_36 ?_
    refine Aw.iconst d_Drf_weavePiece_37 ?_
    exact h
theorem b_Drf_weavePiece_41 {Ω : Om} {R : Room} {F : QF} {k n : Nat} {σ : Sto} {a0 : Nat} {a1 : Nat} {s0 : Int} (h : Q32 s0 ∧ ((s0 = (0 : Int) → sK σ a0 = 4 ∧ (Q32 (fI σ 201 a0) → (((21 : Int) ≤ (fI σ 201 a0) → Aw Ω M_Drf_weavePiece R F k n 87 [xr (some a0), xr (some a1)] [] σ) ∧ (¬ (21 : Int) ≤ (fI σ 201 a0) → (Q32 (fI σ 201 a0) → Q32 ((fI σ 201 a0) + 1) ∧ (Q32 (fI (uI σ 201 a0 ((fI σ 201 a0) + 1)) 202 a0) → Q32 ((fI (uI σ 201 a0 ((fI σ 201 a0) + 1)) 202 a0) + 1) ∧ Aw Ω M_Drf_weavePiece R F k n 87 [xr (some a0), xr (some a1)] [] (uI (uI σ 201 a0 ((fI σ 201 a0) + 1)) 202 a0 ((fI (uI σ 201 a0 ((fI σ 201 a0) + 1)) 202 a0) + 1)))))))) ∧ (¬ s0 = (0 : Int) → sK σ a1 = 3 ∧ (Q32 (fI σ 130 a1) → Aw Ω M_Drf_weavePiece R F k n 51 [xr (some a0), xr (some a1)] [xi (fI σ 130 a1), xi 0, xr (some a1), xr (some a0)] σ)))) : Aw Ω M_Drf_weavePiece R F k n 41 [xr (some a0), xr (some a1)] [xi s0] σ := by
  obtain ⟨o1, h⟩ := h
  obtain ⟨ht, hf⟩ := h
  refine Aw.if_eq (tgt := 58) o1 (by decide) d_Drf_weavePiece_41 (fun c11 => ?_) (fun c11 => ?_)
  · have h := ht c11
    refine Aw.aload_n rfl d_Drf_weavePiece_58 ?_
    obtain ⟨o2, h⟩ := h
    refine Aw.getI (f := 201) 3 9 fl_Drf_53 (by decide) (by decide) rfl rfl o2 d_Drf_weavePiece_59 (fun r3 => ?_)
    have h := h r3
    refine Aw.bipush (by decide) d_Drf_weavePiece_62 ?_
    obtain ⟨ht, hf⟩ := h
    refine Aw.icmp_ge (tgt := 87) r3 ⟨by decide, by decide⟩ (by decide) d_Drf_weavePiece_64 (fun c8 => ?_) (fun c8 => ?_)
    · have h := ht c8
      exact h
    · have h := hf c8
      refine Aw.aload_n rfl d_Drf_weavePiece_67 ?_
      refine Aw.dup rfl d_Drf_weavePiece_68 ?_
      refine Aw.getI (f := 201) 3 9 fl_Drf_53 (by decide) (by decide) rfl rfl o2 d_Drf_weavePiece_69 (fun r4 => ?_)
      have h := h r4
      refine Aw.iconst d_Drf_weavePiece_72 ?_
      refine Aw.iadd d_Drf_weavePiece_73 ?_
      obtain ⟨o5, h⟩ := h
      refine Aw.putI (f := 201) 3 9 fl_Drf_53 (by decide) (by decide) rfl rfl o2 rfl o5 (Or.inl rfl) d_Drf_weavePiece_74 ?_
      refine Aw.aload_n rfl d_Drf_weavePiece_77 ?_
      refine Aw.dup rfl d_Drf_weavePiece_78 ?_
      refine Aw.getI (f := 202) 3 10 fl_Drf_57 (by decide) (by decide) rfl rfl o2 d_Drf_weavePiece_79 (fun r6 => ?_)
      have h := h r6
      refine Aw.iconst d_Drf_weavePiece_82 ?_
      refine Aw.iadd d_Drf_weavePiece_83 ?_
      obtain ⟨o7, h⟩ := h
      refine Aw.putI (f := 202) 3 10 fl_Drf_57 (by decide) (by decide) rfl rfl o2 rfl o7 (Or.inl rfl) d_Drf_weavePiece_84 ?_
      exact h
  · have h := hf c11
    refine Aw.aload_n rfl d_Drf_weavePiece_44 ?_
    refine Aw.aload_n rfl d_Drf_weavePiece_45 ?_
    refine Aw.iconst d_Drf_weavePiece_46 ?_
    refine Aw.aload_n rfl d_Drf_weavePiece_47 ?_
    obtain ⟨o9, h⟩ := h
    refine Aw.getI (f := 130) 2 2 fl_Drf_121 (by decide) (by decide) rfl rfl o9 d_Drf_weavePiece_48 (fun r10 => ?_)
    have h := h r10
    exact h
theorem b_Drf_weavePiece_54 {Ω : Om} {R : Room} {F : QF} {k n : Nat} {σ : Sto} {a0 : Nat} {a1 : Nat} {s0 : Int} (h : Aw Ω M_Drf_weavePiece R F k n 87 [xr (some a0), xr (some a1)] [] σ) : Aw Ω M_Drf_weavePiece R F k n 54 [xr (some a0), xr (some a1)] [xi s0] σ := by
  refine Aw.pop rfl d_Drf_weavePiece_54 ?_
  refine Aw.goto (tgt := 87) (by decide) d_Drf_weavePiece_55 ?_
  exact h
theorem c_Drf_weavePiece_4 {Ω : Om} {R R' : Room} {F : QF} {k n : Nat} {L st : List PV} {σ : Sto} {QX' : String → Sto → Prop} {Q : Int → Sto → Prop} {a : Nat} {x0 : Option Nat} {x1 : Int} {x2 : Int} (hc : MC Ω M_Drf_isAlike R' (RI Q) QX' σ [xr (some a), xr x0, xi x1, xi x2]) (hk : sK σ a = 4) (hr1 : R'.frames + 1 ≤ R.frames) (hr2 : 8 + (4 + 11) + R'.locals ≤ R.locals) (hb1 : k + R'.cells ≤ R.cells) (hb2 : n + R'.slots ≤ R.slots) (hst : (st.map catP).sum ≤ 8) (kk : ∀ x σ', Q x σ' → Aw Ω M_Drf_weavePiece R F (k + R'.cells) (n + R'.slots) 7 L (xi x :: st) σ') (kx : ∀ E σ', QX' E σ' → Ax Ω M_Drf_weavePiece R F (k + R'.cells) (n + R'.slots) 4 L st σ' E) : Aw Ω M_Drf_weavePiece R F k n 4 L (xi x2 :: xi x1 :: xr x0 :: xr (some a) :: st) σ :=
  Aw.callV (As := [xr x0, xi x1, xi x2]) (stk := xi x2 :: xi x1 :: xr x0 :: xr (some a) :: st) (nn := 3) 3 M_Drf_isAlike hc ok_Drf_isAlike rfl (by decide) rfl hk ml_Drf_128 im_Drf_isAlike se_Drf_isAlike ⟨hr1, hr2⟩ rfl ⟨hb1, hb2⟩ hst rfl d_Drf_weavePiece_4 (fun r σ' h => by obtain ⟨x, rfl, h⟩ := h; exact kk x σ' h) kx
theorem c_Drf_weavePiece_17 {Ω : Om} {R R' : Room} {F : QF} {k n : Nat} {L st : List PV} {σ : Sto} {QX' : String → Sto → Prop} {Q : Int → Sto → Prop} {a : Nat} {x0 : Option Nat} {x1 : Int} {x2 : Int} (hc : MC Ω M_Drf_putPiece R' (RI Q) QX' σ [xr (some a), xr x0, xi x1, xi x2]) (hk : sK σ a = 4) (hr1 : R'.frames + 1 ≤ R.frames) (hr2 : 8 + (4 + 11) + R'.locals ≤ R.locals) (hb1 : k + R'.cells ≤ R.cells) (hb2 : n + R'.slots ≤ R.slots) (hst : (st.map catP).sum ≤ 8) (kk : ∀ x σ', Q x σ' → Aw Ω M_Drf_weavePiece R F (k + R'.cells) (n + R'.slots) 20 L (xi x :: st) σ') (kx : ∀ E σ', QX' E σ' → Ax Ω M_Drf_weavePiece R F (k + R'.cells) (n + R'.slots) 17 L st σ' E) : Aw Ω M_Drf_weavePiece R F k n 17 L (xi x2 :: xi x1 :: xr x0 :: xr (some a) :: st) σ :=
  Aw.callV (As := [xr x0, xi x1, xi x2]) (stk := xi x2 :: xi x1 :: xr x0 :: xr (some a) :: st) (nn := 3) 3 M_Drf_putPiece hc ok_Drf_putPiece rfl (by decide) rfl hk ml_Drf_132 im_Drf_putPiece se_Drf_putPiece ⟨hr1, hr2⟩ rfl ⟨hb1, hb2⟩ hst rfl d_Drf_weavePiece_17 (fun r σ' h => by obtain ⟨x, rfl, h⟩ := h; exact kk x σ' h) kx
theorem c_Drf_weavePiece_28 {Ω : Om} {R R' : Room} {F : QF} {k n : Nat} {L st : List PV} {σ : Sto} {QX' : String → Sto → Prop} {Q : Int → Sto → Prop} {a : Nat} {x0 : Option Nat} {x1 : Int} {x2 : Int} (hc : MC Ω M_Drf_isAlike R' (RI Q) QX' σ [xr (some a), xr x0, xi x1, xi x2]) (hk : sK σ a = 4) (hr1 : R'.frames + 1 ≤ R.frames) (hr2 : 8 + (4 + 11) + R'.locals ≤ R.locals) (hb1 : k + R'.cells ≤ R.cells) (hb2 : n + R'.slots ≤ R.slots) (hst : (st.map catP).sum ≤ 8) (kk : ∀ x σ', Q x σ' → Aw Ω M_Drf_weavePiece R F (k + R'.cells) (n + R'.slots) 31 L (xi x :: st) σ') (kx : ∀ E σ', QX' E σ' → Ax Ω M_Drf_weavePiece R F (k + R'.cells) (n + R'.slots) 28 L st σ' E) : Aw Ω M_Drf_weavePiece R F k n 28 L (xi x2 :: xi x1 :: xr x0 :: xr (some a) :: st) σ :=
  Aw.callV (As := [xr x0, xi x1, xi x2]) (stk := xi x2 :: xi x1 :: xr x0 :: xr (some a) :: st) (nn := 3) 3 M_Drf_isAlike hc ok_Drf_isAlike rfl (by decide) rfl hk ml_Drf_128 im_Drf_isAlike se_Drf_isAlike ⟨hr1, hr2⟩ rfl ⟨hb1, hb2⟩ hst rfl d_Drf_weavePiece_28 (fun r σ' h => by obtain ⟨x, rfl, h⟩ := h; exact kk x σ' h) kx
theorem c_Drf_weavePiece_38 {Ω : Om} {R R' : Room} {F : QF} {k n : Nat} {L st : List PV} {σ : Sto} {QX' : String → Sto → Prop} {Q : Int → Sto → Prop} {a : Nat} {x0 : Option Nat} {x1 : Int} {x2 : Int} (hc : MC Ω M_Drf_isAlike R' (RI Q) QX' σ [xr (some a), xr x0, xi x1, xi x2]) (hk : sK σ a = 4) (hr1 : R'.frames + 1 ≤ R.frames) (hr2 : 8 + (4 + 11) + R'.locals ≤ R.locals) (hb1 : k + R'.cells ≤ R.cells) (hb2 : n + R'.slots ≤ R.slots) (hst : (st.map catP).sum ≤ 8) (kk : ∀ x σ', Q x σ' → Aw Ω M_Drf_weavePiece R F (k + R'.cells) (n + R'.slots) 41 L (xi x :: st) σ') (kx : ∀ E σ', QX' E σ' → Ax Ω M_Drf_weavePiece R F (k + R'.cells) (n + R'.slots) 38 L st σ' E) : Aw Ω M_Drf_weavePiece R F k n 38 L (xi x2 :: xi x1 :: xr x0 :: xr (some a) :: st) σ :=
  Aw.callV (As := [xr x0, xi x1, xi x2]) (stk := xi x2 :: xi x1 :: xr x0 :: xr (some a) :: st) (nn := 3) 3 M_Drf_isAlike hc ok_Drf_isAlike rfl (by decide) rfl hk ml_Drf_128 im_Drf_isAlike se_Drf_isAlike ⟨hr1, hr2⟩ rfl ⟨hb1, hb2⟩ hst rfl d_Drf_weavePiece_38 (fun r σ' h => by obtain ⟨x, rfl, h⟩ := h; exact kk x σ' h) kx
theorem c_Drf_weavePiece_51 {Ω : Om} {R R' : Room} {F : QF} {k n : Nat} {L st : List PV} {σ : Sto} {QX' : String → Sto → Prop} {Q : Int → Sto → Prop} {a : Nat} {x0 : Option Nat} {x1 : Int} {x2 : Int} (hc : MC Ω M_Drf_putPiece R' (RI Q) QX' σ [xr (some a), xr x0, xi x1, xi x2]) (hk : sK σ a = 4) (hr1 : R'.frames + 1 ≤ R.frames) (hr2 : 8 + (4 + 11) + R'.locals ≤ R.locals) (hb1 : k + R'.cells ≤ R.cells) (hb2 : n + R'.slots ≤ R.slots) (hst : (st.map catP).sum ≤ 8) (kk : ∀ x σ', Q x σ' → Aw Ω M_Drf_weavePiece R F (k + R'.cells) (n + R'.slots) 54 L (xi x :: st) σ') (kx : ∀ E σ', QX' E σ' → Ax Ω M_Drf_weavePiece R F (k + R'.cells) (n + R'.slots) 51 L st σ' E) : Aw Ω M_Drf_weavePiece R F k n 51 L (xi x2 :: xi x1 :: xr x0 :: xr (some a) :: st) σ :=
  Aw.callV (As := [xr x0, xi x1, xi x2]) (stk := xi x2 :: xi x1 :: xr x0 :: xr (some a) :: st) (nn := 3) 3 M_Drf_putPiece hc ok_Drf_putPiece rfl (by decide) rfl hk ml_Drf_132 im_Drf_putPiece se_Drf_putPiece ⟨hr1, hr2⟩ rfl ⟨hb1, hb2⟩ hst rfl d_Drf_weavePiece_51 (fun r σ' h => by obtain ⟨x, rfl, h⟩ := h; exact kk x σ' h) kx
theorem r_Drf_weavePiece_87 {Ω : Om} {R : Room} {k n : Nat} {L : List PV} {σ : Sto} {QR : Option PV → Sto → Prop} {QX : String → Sto → Prop} (h : QR none σ) (h1 : k ≤ R.cells) (h2 : n ≤ R.slots) : Aw Ω M_Drf_weavePiece R (MF Ω R QR QX) k n 87 L [] σ := Aw.vret rfl h h1 h2 d_Drf_weavePiece_87
theorem e_Ver_init {Ω : Om} {R : Room} {QR : Option PV → Sto → Prop} {QX : String → Sto → Prop} {σ : Sto} {a0 : Nat} (h : Aw Ω M_Ver_init R (MF Ω R QR QX) 0 0 0 [xr (some a0)] [] σ) : MC Ω M_Ver_init R QR QX σ [xr (some a0)] := MC.body (by decide +kernel) rfl (Nat.le_of_ble_eq_true rfl) rfl h
theorem b_Ver_init_0 {Ω : Om} {R : Room} {F : QF} {k n : Nat} {σ : Sto} {a0 : Nat} (h : 1 ≤ R.frames ∧ ([].map catP).sum + 12 ≤ R.locals ∧ k + 1 ≤ R.cells ∧ n + 3 ≤ R.slots ∧ (∀ σ5 : Sto, σ5 = (nO σ 10 0) → Aw Ω M_Ver_init R F (k + 1) (n + 3) 9 [xr (some a0)] [xr (some (sN σ)), xr (some (sN σ)), xr (some a0)] σ5)) : Aw Ω M_Ver_init R F k n 0 [xr (some a0)] [] σ := by
  refine Aw.aload_n rfl d_Ver_init_0 ?_
  obtain ⟨o1, o2, h⟩ := h
  refine Aw.objInit ml_Ver_3 oi_1 oi_2 o1 o2 d_Ver_init_1 ?_
  refine Aw.aload_n rfl d_Ver_init_4 ?_
  obtain ⟨o3, o4, h⟩ := h
  refine Aw.new 9 (by decide) cl_Ver_9 ins_9 ini_9 o3 o4 d_Ver_init_5 ?_
  obtain ⟨σ5, hσ5⟩ : ∃ z, z = (nO σ 10 0) := ⟨_, rfl⟩
  refine Aw.toS (σ' := σ5) hσ5 ?_
  have h := h σ5 hσ5
  refine Aw.dup rfl d_Ver_init_8 ?_
  exact h
theorem b_Ver_init_12 {Ω : Om} {R : Room} {F : QF} {k n : Nat} {σ : Sto} {a0 : Nat} {s0 : Nat} {s1 : Nat} (h : sK σ s0 = 12 ∧ k + 1 ≤ R.cells ∧ n + 3 ≤ R.slots ∧ (∀ σ4 : Sto, σ4 = (nO (uR σ 704 s0 (some s1)) 10 0) → Aw Ω M_Ver_init R F (k + 1) (n + 3) 20 [xr (some a0)] [xr (some (sN σ)), xr (some (sN σ)), xr (some a0)] σ4)) : Aw Ω M_Ver_init R F k n 12 [xr (some a0)] [xr (some s1), xr (some s0)] σ := by
  obtain ⟨o1, h⟩ := h
  refine Aw.putRF (f := 704) 11 0 fm_Ver_12 (by decide) (by decide) rfl rfl o1 rfl rfl rfl rfl d_Ver_init_12 ?_
  refine Aw.aload_n rfl d_Ver_init_15 ?_
  obtain ⟨o2, o3, h⟩ := h
  refine Aw.new 9 (by decide) cl_Ver_9 ins_9 ini_9 o2 o3 d_Ver_init_16 ?_
  obtain ⟨σ4, hσ4⟩ : ∃ z, z = (nO (uR σ 704 s0 (some s1)) 10 0) := ⟨_, rfl⟩
  refine Aw.toS (σ' := σ4) hσ4 ?_
  have h := h σ4 hσ4
  refine Aw.dup rfl d_Ver_init_19 ?_
  exact h
theorem b_Ver_init_23 {Ω : Om} {R : Room} {F : QF} {k n : Nat} {σ : Sto} {a0 : Nat} {s0 : Nat} {s1 : Nat} (h : sK σ s0 = 12 ∧ k + 1 ≤ R.cells ∧ n + 3 ≤ R.slots ∧ (∀ σ4 : Sto, σ4 = (nO (uR σ 705 s0 (some s1)) 14 0) → Aw Ω M_Ver_init R F (k + 1) (n + 3) 31 [xr (some a0)] [xr (some (sN σ)), xr (some (sN σ)), xr (some a0)] σ4)) : Aw Ω M_Ver_init R F k n 23 [xr (some a0)] [xr (some s1), xr (some s0)] σ := by
  obtain ⟨o1, h⟩ := h
  refine Aw.putRF (f := 705) 11 1 fm_Ver_18 (by decide) (by decide) rfl rfl o1 rfl rfl rfl rfl d_Ver_init_23 ?_
  refine Aw.aload_n rfl d_Ver_init_26 ?_
  obtain ⟨o2, o3, h⟩ := h
  refine Aw.new 13 (by decide) cl_Ver_21 ins_13 ini_13 o2 o3 d_Ver_init_27 ?_
  obtain ⟨σ4, hσ4⟩ : ∃ z, z = (nO (uR σ 705 s0 (some s1)) 14 0) := ⟨_, rfl⟩
  refine Aw.toS (σ' := σ4) hσ4 ?_
  have h := h σ4 hσ4
  refine Aw.dup rfl d_Ver_init_30 ?_
  exact h
theorem b_Ver_init_34 {Ω : Om} {R : Room} {F : QF} {k n : Nat} {σ : Sto} {a0 : Nat} {s0 : Nat} {s1 : Nat} (h : sK σ s0 = 12 ∧ sK σ a0 = 12 ∧ Aw Ω M_Ver_init R F k n 57 [xr (some a0)] [] (uL (uI (uI (uI (uR σ 706 s0 (some s1)) 707 a0 (-1)) 708 a0 (-1)) 709 a0 (-1)) 710 a0 0)) : Aw Ω M_Ver_init R F k n 34 [xr (some a0)] [xr (some s1), xr (some s0)] σ := by
  obtain ⟨o1, h⟩ := h
  refine Aw.putRF (f := 706) 11 2 fm_Ver_24 (by decide) (by decide) rfl rfl o1 rfl rfl rfl rfl d_Ver_init_34 ?_
  refine Aw.aload_n rfl d_Ver_init_37 ?_
  refine Aw.iconst d_Ver_init_38 ?_
  obtain ⟨o2, h⟩ := h
  refine Aw.putI (f := 707) 11 3 fl_Ver_28 (by decide) (by decide) rfl rfl o2 rfl ⟨by decide, by decide⟩ (Or.inl rfl) d_Ver_init_39 ?_
  refine Aw.aload_n rfl d_Ver_init_42 ?_
  refine Aw.iconst d_Ver_init_43 ?_
  refine Aw.putI (f := 708) 11 4 fl_Ver_32 (by decide) (by decide) rfl rfl o2 rfl ⟨by decide, by decide⟩ (Or.inl rfl) d_Ver_init_44 ?_
  refine Aw.aload_n rfl d_Ver_init_47 ?_
  refine Aw.iconst d_Ver_init_48 ?_
  refine Aw.putI (f := 709) 11 5 fl_Ver_35 (by decide) (by decide) rfl rfl o2 rfl ⟨by decide, by decide⟩ (Or.inl rfl) d_Ver_init_49 ?_
  refine Aw.aload_n rfl d_Ver_init_52 ?_
  refine Aw.lconst (w := 0) (by decide) d_Ver_init_53 ?_
  refine Aw.putL (f := 710) 11 6 fl_Ver_38 (by decide) (by decide) rfl rfl o2 rfl rfl d_Ver_init_54 ?_
  exact h
theorem c_Ver_init_9 {Ω : Om} {R R' : Room} {F : QF} {k n : Nat} {L st : List PV} {σ : Sto} {QX' : String → Sto → Prop} {Q : Sto → Prop} {a : Nat} (hc : MC Ω M_Txt_init R' (RV Q) QX' σ [xr (some a)]) (hr1 : R'.frames + 1 ≤ R.frames) (hr2 : 8 + (1 + 11) + R'.locals ≤ R.locals) (hb1 : k + R'.cells ≤ R.cells) (hb2 : n + R'.slots ≤ R.slots) (hst : (st.map catP).sum ≤ 8) (kk : ∀ σ', Q σ' → Aw Ω M_Ver_init R F (k + R'.cells) (n + R'.slots) 12 L st σ') (kx : ∀ E σ', QX' E σ' → Ax Ω M_Ver_init R F (k + R'.cells) (n + R'.slots) 9 L st σ' E) : Aw Ω M_Ver_init R F k n 9 L (xr (some a) :: st) σ :=
  Aw.callI (As := []) (stk := xr (some a) :: st) (nn := 0) M_Txt_init hc ok_Txt_init rfl rfl rfl im_Txt_init (Or.inr ⟨_, ml_Ver_11⟩) ⟨hr1, hr2⟩ rfl ⟨hb1, hb2⟩ hst rfl d_Ver_init_9 (fun r σ' h => by obtain ⟨rfl, h⟩ := h; exact kk σ' h) kx
theorem c_Ver_init_20 {Ω : Om} {R R' : Room} {F : QF} {k n : Nat} {L st : List PV} {σ : Sto} {QX' : String → Sto → Prop} {Q : Sto → Prop} {a : Nat} (hc : MC Ω M_Txt_init R' (RV Q) QX' σ [xr (some a)]) (hr1 : R'.frames + 1 ≤ R.frames) (hr2 : 8 + (1 + 11) + R'.locals ≤ R.locals) (hb1 : k + R'.cells ≤ R.cells) (hb2 : n + R'.slots ≤ R.slots) (hst : (st.map catP).sum ≤ 8) (kk : ∀ σ', Q σ' → Aw Ω M_Ver_init R F (k + R'.cells) (n + R'.slots) 23 L st σ') (kx : ∀ E σ', QX' E σ' → Ax Ω M_Ver_init R F (k + R'.cells) (n + R'.slots) 20 L st σ' E) : Aw Ω M_Ver_init R F k n 20 L (xr (some a) :: st) σ :=
  Aw.callI (As := []) (stk := xr (some a) :: st) (nn := 0) M_Txt_init hc ok_Txt_init rfl rfl rfl im_Txt_init (Or.inr ⟨_, ml_Ver_11⟩) ⟨hr1, hr2⟩ rfl ⟨hb1, hb2⟩ hst rfl d_Ver_init_20 (fun r σ' h => by obtain ⟨rfl, h⟩ := h; exact kk σ' h) kx
theorem c_Ver_init_31 {Ω : Om} {R R' : Room} {F : QF} {k n : Nat} {L st : List PV} {σ : Sto} {QX' : String → Sto → Prop} {Q : Sto → Prop} {a : Nat} (hc : MC Ω M_Lst_init R' (RV Q) QX' σ [xr (some a)]) (hr1 : R'.frames + 1 ≤ R.frames) (hr2 : 8 + (1 + 11) + R'.locals ≤ R.locals) (hb1 : k + R'.cells ≤ R.cells) (hb2 : n + R'.slots ≤ R.slots) (hst : (st.map catP).sum ≤ 8) (kk : ∀ σ', Q σ' → Aw Ω M_Ver_init R F (k + R'.cells) (n + R'.slots) 34 L st σ') (kx : ∀ E σ', QX' E σ' → Ax Ω M_Ver_init R F (k + R'.cells) (n + R'.slots) 31 L st σ' E) : Aw Ω M_Ver_init R F k n 31 L (xr (some a) :: st) σ :=
  Aw.callI (As := []) (stk := xr (some a) :: st) (nn := 0) M_Lst_init hc ok_Lst_init rfl rfl rfl im_Lst_init (Or.inl ml_Ver_23) ⟨hr1, hr2⟩ rfl ⟨hb1, hb2⟩ hst rfl d_Ver_init_31 (fun r σ' h => by obtain ⟨rfl, h⟩ := h; exact kk σ' h) kx
theorem r_Ver_init_57 {Ω : Om} {R : Room} {k n : Nat} {L : List PV} {σ : Sto} {QR : Option PV → Sto → Prop} {QX : String → Sto → Prop} (h : QR none σ) (h1 : k ≤ R.cells) (h2 : n ≤ R.slots) : Aw Ω M_Ver_init R (MF Ω R QR QX) k n 57 L [] σ := Aw.vret rfl h h1 h2 d_Ver_init_57
theorem e_Ver_isOver {Ω : Om} {R : Room} {QR : Option PV → Sto → Prop} {QX : String → Sto → Prop} {σ : Sto} {a0 : Nat} {v1 : Int} (h : Aw Ω M_Ver_isOver R (MF Ω R QR QX) 0 0 0 [xr (some a0), xi v1] [] σ) : MC Ω M_Ver_isOver R QR QX σ [xr (some a0), xi v1] := MC.body (by decide +kernel) rfl (Nat.le_of_ble_eq_true rfl) rfl h
theorem b_Ver_isOver_0 {Ω : Om} {R : Room} {F : QF} {k n : Nat} {σ : Sto} {a0 : Nat} {v1 : Int} (h : Q32 v1 ∧ ((v1 < (0 : Int) → Aw Ω M_Ver_isOver R F k n 28 [xr (some a0), xi v1] [xi 0] σ) ∧ (¬ v1 < (0 : Int) → (((40 : Int) ≤ v1 → Aw Ω M_Ver_isOver R F k n 28 [xr (some a0), xi v1] [xi 0] σ) ∧ (¬ (40 : Int) ≤ v1 → sK σ a0 = 12 ∧ Q32 (cmpL ((lUsh (fL σ 710 a0) v1) &&& 1) 0) ∧ (((cmpL ((lUsh (fL σ 710 a0) v1) &&& 1) 0) = (0 : Int) → Aw Ω M_Ver_isOver R F k n 28 [xr (some a0), xi v1] [xi 0] σ) ∧ (¬ (cmpL ((lUsh (fL σ 710 a0) v1) &&& 1) 0) = (0 : Int) → Aw Ω M_Ver_isOver R F k n 28 [xr (some a0), xi v1] [xi 1] σ))))))) : Aw Ω M_Ver_isOver R F k n 0 [xr (some a0), xi v1] [] σ := by
  refine Aw.iload_n rfl d_Ver_isOver_0 ?_
  obtain ⟨o1, h⟩ := h
  obtain ⟨ht, hf⟩ := h
  refine Aw.if_lt (tgt := 27) o1 (by decide) d_Ver_isOver_1 (fun c6 => ?_) (fun c6 => ?_)
  · have h := ht c6
    refine Aw.iconst d_Ver_isOver_27 ?_
    exact h
  · have h := hf c6
    refine Aw.iload_n rfl d_Ver_isOver_4 ?_
    refine Aw.bipush (by decide) d_Ver_isOver_5 ?_
    obtain ⟨ht, hf⟩ := h
    refine Aw.icmp_ge (tgt := 27) o1 ⟨by decide, by decide⟩ (by decide) d_Ver_isOver_7 (fun c5 => ?_) (fun c5 => ?_)
    · have h := ht c5
      refine Aw.iconst d_Ver_isOver_27 ?_
      exact h
    · have h := hf c5
      refine Aw.aload_n rfl d_Ver_isOver_10 ?_
      obtain ⟨o2, h⟩ := h
      refine Aw.getL (f := 710) 11 6 fl_Ver_38 (by decide) (by decide) rfl rfl o2 d_Ver_isOver_11 ?_
      refine Aw.iload_n rfl d_Ver_isOver_14 ?_
      refine Aw.lushr d_Ver_isOver_15 ?_
      refine Aw.lconst (w := 1) (by decide) d_Ver_isOver_16 ?_
      refine Aw.land d_Ver_isOver_17 ?_
      refine Aw.lconst (w := 0) (by decide) d_Ver_isOver_18 ?_
      refine Aw.lcmp d_Ver_isOver_19 ?_
      obtain ⟨o3, h⟩ := h
      obtain ⟨ht, hf⟩ := h
      refine Aw.if_eq (tgt := 27) o3 (by decide) d_Ver_isOver_20 (fun c4 => ?_) (fun c4 => ?_)
      · have h := ht c4
        refine Aw.iconst d_Ver_isOver_27 ?_
        exact h
      · have h := hf c4
        refine Aw.iconst d_Ver_isOver_23 ?_
        refine Aw.goto (tgt := 28) (by decide) d_Ver_isOver_24 ?_
        exact h
theorem r_Ver_isOver_28 {Ω : Om} {R : Room} {k n : Nat} {L : List PV} {σ : Sto} {QR : Option PV → Sto → Prop} {QX : String → Sto → Prop} {x : Int} (hx : x = 0 ∨ x = 1) (h : QR (some (xi x)) σ) (h1 : k ≤ R.cells) (h2 : n ≤ R.slots) : Aw Ω M_Ver_isOver R (MF Ω R QR QX) k n 28 L [xi x] σ := Aw.zret rfl hx h h1 h2 d_Ver_isOver_28
theorem e_Ver_keep {Ω : Om} {R : Room} {QR : Option PV → Sto → Prop} {QX : String → Sto → Prop} {σ : Sto} {a0 : Nat} {a1 : Nat} (h : Aw Ω M_Ver_keep R (MF Ω R QR QX) 0 0 0 [xr (some a0), xr (some a1), xu] [] σ) : MC Ω M_Ver_keep R QR QX σ [xr (some a0), xr (some a1)] := MC.body (by decide +kernel) rfl (Nat.le_of_ble_eq_true rfl) rfl h
theorem b_Ver_keep_0 {Ω : Om} {R : Room} {F : QF} {k n : Nat} {σ : Sto} {a0 : Nat} {a1 : Nat} (h : sK σ a0 = 12 ∧ (∃ b2 : Nat, fR σ 704 a0 = some b2 ∧ sK σ a1 = 4 ∧ (∃ b5 : Nat, fR σ 192 a1 = some b5 ∧ Aw Ω M_Ver_keep R F k n 8 [xr (some a0), xr (some a1), xu] [xr (some b5), xr (some b2)] σ))) : Aw Ω M_Ver_keep R F k n 0 [xr (some a0), xr (some a1), xu] [] σ := by
  refine Aw.aload_n rfl d_Ver_keep_0 ?_
  obtain ⟨o1, h⟩ := h
  obtain ⟨b2, e3, h⟩ := h
  refine Aw.getRs (f := 704) 11 0 fl_Ver_12 (by decide) (by decide) rfl rfl o1 e3 d_Ver_keep_1 ?_
  refine Aw.aload_n rfl d_Ver_keep_4 ?_
  obtain ⟨o4, h⟩ := h
  obtain ⟨b5, e6, h⟩ := h
  refine Aw.getRs (f := 192) 3 0 fl_Ver_42 (by decide) (by decide) rfl rfl o4 e6 d_Ver_keep_5 ?_
  exact h
theorem b_Ver_keep_11 {Ω : Om} {R : Room} {F : QF} {k n : Nat} {σ : Sto} {a0 : Nat} {a1 : Nat} (h : sK σ a1 = 4 ∧ (Q32 (fI σ 203 a1) → sK σ a0 = 12 ∧ (Q32 (fI (uI σ 707 a0 (fI σ 203 a1)) 204 a1) → (Q32 (fI (uI (uI σ 707 a0 (fI σ 203 a1)) 708 a0 (fI (uI σ 707 a0 (fI σ 203 a1)) 204 a1)) 205 a1) → Aw Ω M_Ver_keep R F k n 37 [xr (some a0), xr (some a1), xi 0] [] (uI (uI (uI σ 707 a0 (fI σ 203 a1)) 708 a0 (fI (uI σ 707 a0 (fI σ 203 a1)) 204 a1)) 709 a0 (fI (uI (uI σ 707 a0 (fI σ 203 a1)) 708 a0 (fI (uI σ 707 a0 (fI σ 203 a1)) 204 a1)) 205 a1)))))) : Aw Ω M_Ver_keep R F k n 11 [xr (some a0), xr (some a1), xu] [] σ := by
  refine Aw.aload_n rfl d_Ver_keep_11 ?_
  refine Aw.aload_n rfl d_Ver_keep_12 ?_
  obtain ⟨o1, h⟩ := h
  refine Aw.getI (f := 203) 3 11 fl_Ver_49 (by decide) (by decide) rfl rfl o1 d_Ver_keep_13 (fun r2 => ?_)
  have h := h r2
  obtain ⟨o3, h⟩ := h
  refine Aw.putI (f := 707) 11 3 fl_Ver_28 (by decide) (by decide) rfl rfl o3 rfl r2 (Or.inl rfl) d_Ver_keep_16 ?_
  refine Aw.aload_n rfl d_Ver_keep_19 ?_
  refine Aw.aload_n rfl d_Ver_keep_20 ?_
  refine Aw.getI (f := 204) 3 12 fl_Ver_50 (by decide) (by decide) rfl rfl o1 d_Ver_keep_21 (fun r4 => ?_)
  have h := h r4
  refine Aw.putI (f := 708) 11 4 fl_Ver_32 (by decide) (by decide) rfl rfl o3 rfl r4 (Or.inl rfl) d_Ver_keep_24 ?_
  refine Aw.aload_n rfl d_Ver_keep_27 ?_
  refine Aw.aload_n rfl d_Ver_keep_28 ?_
  refine Aw.getI (f := 205) 3 13 fl_Ver_51 (by decide) (by decide) rfl rfl o1 d_Ver_keep_29 (fun r5 => ?_)
  have h := h r5
  refine Aw.putI (f := 709) 11 5 fl_Ver_35 (by decide) (by decide) rfl rfl o3 rfl r5 (Or.inl rfl) d_Ver_keep_32 ?_
  refine Aw.iconst d_Ver_keep_35 ?_
  refine Aw.istore_n (by decide) d_Ver_keep_36 ?_
  refine Aw.toL (L' := [xr (some a0), xr (some a1), xi 0]) rfl ?_
  exact h
theorem b_Ver_keep_37 {Ω : Om} {R : Room} {F : QF} {k n : Nat} {σ : Sto} {a0 : Nat} {a1 : Nat} {v2 : Int} (h : sK σ a1 = 4 ∧ (∃ b2 : Nat, fR σ 193 a1 = some b2 ∧ Aw Ω M_Ver_keep R F k n 42 [xr (some a0), xr (some a1), xi v2] [xr (some b2), xi v2] σ)) : Aw Ω M_Ver_keep R F k n 37 [xr (some a0), xr (some a1), xi v2] [] σ := by
  refine Aw.iload_n rfl d_Ver_keep_37 ?_
  refine Aw.aload_n rfl d_Ver_keep_38 ?_
  obtain ⟨o1, h⟩ := h
  obtain ⟨b2, e3, h⟩ := h
  refine Aw.getRs (f := 193) 3 1 fl_Ver_52 (by decide) (by decide) rfl rfl o1 e3 d_Ver_keep_39 ?_
  exact h
theorem b_Ver_keep_45 {Ω : Om} {R : Room} {F : QF} {k n : Nat} {σ : Sto} {a0 : Nat} {a1 : Nat} {v2 : Int} {s0 : Int} {s1 : Int} (h : Q32 s0 ∧ Q32 s1 ∧ ((s1 ≤ s0 → Aw Ω M_Ver_keep R F k n 73 [xr (some a0), xr (some a1), xi v2] [] σ) ∧ (¬ s1 ≤ s0 → sK σ a0 = 12 ∧ (∃ b4 : Nat, fR σ 706 a0 = some b4 ∧ sK σ a1 = 4 ∧ (∃ b7 : Nat, fR σ 193 a1 = some b7 ∧ Aw Ω M_Ver_keep R F k n 57 [xr (some a0), xr (some a1), xi v2] [xi v2, xr (some b7), xr (some b4)] σ))))) : Aw Ω M_Ver_keep R F k n 45 [xr (some a0), xr (some a1), xi v2] [xi s1, xi s0] σ := by
  obtain ⟨o1, h⟩ := h
  obtain ⟨o2, h⟩ := h
  obtain ⟨ht, hf⟩ := h
  refine Aw.icmp_ge (tgt := 73) o1 o2 (by decide) d_Ver_keep_45 (fun c9 => ?_) (fun c9 => ?_)
  · have h := ht c9
    exact h
  · have h := hf c9
    refine Aw.aload_n rfl d_Ver_keep_48 ?_
    obtain ⟨o3, h⟩ := h
    obtain ⟨b4, e5, h⟩ := h
    refine Aw.getRs (f := 706) 11 2 fl_Ver_24 (by decide) (by decide) rfl rfl o3 e5 d_Ver_keep_49 ?_
    refine Aw.aload_n rfl d_Ver_keep_52 ?_
    obtain ⟨o6, h⟩ := h
    obtain ⟨b7, e8, h⟩ := h
    refine Aw.getRs (f := 193) 3 1 fl_Ver_52 (by decide) (by decide) rfl rfl o6 e8 d_Ver_keep_53 ?_
    refine Aw.iload_n rfl d_Ver_keep_56 ?_
    exact h
theorem b_Ver_keep_60 {Ω : Om} {R : Room} {F : QF} {k n : Nat} {σ : Sto} {a0 : Nat} {a1 : Nat} {v2 : Int} {s0 : Nat} {s1 : Nat} (h : sK σ s1 = 5 ∧ Aw Ω M_Ver_keep R F k n 63 [xr (some a0), xr (some a1), xi v2] [xr (some s1), xr (some s0)] σ) : Aw Ω M_Ver_keep R F k n 60 [xr (some a0), xr (some a1), xi v2] [xr (some s1), xr (some s0)] σ := by
  obtain ⟨o1, h⟩ := h
  refine Aw.cast 4 (by decide) cl_Ver_61 o1 d_Ver_keep_60 ?_
  exact h
theorem b_Ver_keep_66 {Ω : Om} {R : Room} {F : QF} {k n : Nat} {σ : Sto} {a0 : Nat} {a1 : Nat} {v2 : Int} {s0 : Int} (h : Aw Ω M_Ver_keep R F k n 37 [xr (some a0), xr (some a1), xi (v2 + 1)] [] σ) : Aw Ω M_Ver_keep R F k n 66 [xr (some a0), xr (some a1), xi v2] [xi s0] σ := by
  refine Aw.pop rfl d_Ver_keep_66 ?_
  refine Aw.iinc rfl d_Ver_keep_67 ?_
  refine Aw.toL (L' := [xr (some a0), xr (some a1), xi (v2 + 1)]) rfl ?_
  refine Aw.goto (tgt := 37) (by decide) d_Ver_keep_70 ?_
  exact h
theorem c_Ver_keep_8 {Ω : Om} {R R' : Room} {F : QF} {k n : Nat} {L st : List PV} {σ : Sto} {QX' : String → Sto → Prop} {Q : Sto → Prop} {a : Nat} {x0 : Option Nat} (hc : MC Ω M_Txt_copy R' (RV Q) QX' σ [xr (some a), xr x0]) (hk : sK σ a = 10) (hr1 : R'.frames + 1 ≤ R.frames) (hr2 : 8 + (3 + 11) + R'.locals ≤ R.locals) (hb1 : k + R'.cells ≤ R.cells) (hb2 : n + R'.slots ≤ R.slots) (hst : (st.map catP).sum ≤ 8) (kk : ∀ σ', Q σ' → Aw Ω M_Ver_keep R F (k + R'.cells) (n + R'.slots) 11 L st σ') (kx : ∀ E σ', QX' E σ' → Ax Ω M_Ver_keep R F (k + R'.cells) (n + R'.slots) 8 L st σ' E) : Aw Ω M_Ver_keep R F k n 8 L (xr x0 :: xr (some a) :: st) σ :=
  Aw.callV (As := [xr x0]) (stk := xr x0 :: xr (some a) :: st) (nn := 1) 9 M_Txt_copy hc ok_Txt_copy rfl (by decide) rfl hk ml_Ver_45 im_Txt_copy se_Txt_copy ⟨hr1, hr2⟩ rfl ⟨hb1, hb2⟩ hst rfl d_Ver_keep_8 (fun r σ' h => by obtain ⟨rfl, h⟩ := h; exact kk σ' h) kx
theorem c_Ver_keep_42 {Ω : Om} {R R' : Room} {F : QF} {k n : Nat} {L st : List PV} {σ : Sto} {QX' : String → Sto → Prop} {Q : Int → Sto → Prop} {a : Nat} (hc : MC Ω M_Lst_size R' (RI Q) QX' σ [xr (some a)]) (hk : sK σ a = 14) (hr1 : R'.frames + 1 ≤ R.frames) (hr2 : 8 + (1 + 11) + R'.locals ≤ R.locals) (hb1 : k + R'.cells ≤ R.cells) (hb2 : n + R'.slots ≤ R.slots) (hst : (st.map catP).sum ≤ 8) (kk : ∀ x σ', Q x σ' → Aw Ω M_Ver_keep R F (k + R'.cells) (n + R'.slots) 45 L (xi x :: st) σ') (kx : ∀ E σ', QX' E σ' → Ax Ω M_Ver_keep R F (k + R'.cells) (n + R'.slots) 42 L st σ' E) : Aw Ω M_Ver_keep R F k n 42 L (xr (some a) :: st) σ :=
  Aw.callV (As := []) (stk := xr (some a) :: st) (nn := 0) 13 M_Lst_size hc ok_Lst_size rfl (by decide) rfl hk ml_Ver_53 im_Lst_size se_Lst_size ⟨hr1, hr2⟩ rfl ⟨hb1, hb2⟩ hst rfl d_Ver_keep_42 (fun r σ' h => by obtain ⟨x, rfl, h⟩ := h; exact kk x σ' h) kx
theorem c_Ver_keep_57 {Ω : Om} {R R' : Room} {F : QF} {k n : Nat} {L st : List PV} {σ : Sto} {QX' : String → Sto → Prop} {Q : Option Nat → Sto → Prop} {a : Nat} {x0 : Int} (hc : MC Ω M_Lst_get R' (RR Q) QX' σ [xr (some a), xi x0]) (hk : sK σ a = 14) (hr1 : R'.frames + 1 ≤ R.frames) (hr2 : 8 + (2 + 11) + R'.locals ≤ R.locals) (hb1 : k + R'.cells ≤ R.cells) (hb2 : n + R'.slots ≤ R.slots) (hst : (st.map catP).sum ≤ 8) (kk : ∀ x σ', Q x σ' → Aw Ω M_Ver_keep R F (k + R'.cells) (n + R'.slots) 60 L (xr x :: st) σ') (kx : ∀ E σ', QX' E σ' → Ax Ω M_Ver_keep R F (k + R'.cells) (n + R'.slots) 57 L st σ' E) : Aw Ω M_Ver_keep R F k n 57 L (xi x0 :: xr (some a) :: st) σ :=
  Aw.callV (As := [xi x0]) (stk := xi x0 :: xr (some a) :: st) (nn := 1) 13 M_Lst_get hc ok_Lst_get rfl (by decide) rfl hk ml_Ver_57 im_Lst_get se_Lst_get ⟨hr1, hr2⟩ rfl ⟨hb1, hb2⟩ hst rfl d_Ver_keep_57 (fun r σ' h => by obtain ⟨x, rfl, h⟩ := h; exact kk x σ' h) kx
theorem c_Ver_keep_63 {Ω : Om} {R R' : Room} {F : QF} {k n : Nat} {L st : List PV} {σ : Sto} {QX' : String → Sto → Prop} {Q : Int → Sto → Prop} {a : Nat} {x0 : Option Nat} (hc : MC Ω M_Lst_add_0 R' (RI Q) QX' σ [xr (some a), xr x0]) (hk : sK σ a = 14) (hr1 : R'.frames + 1 ≤ R.frames) (hr2 : 8 + (2 + 11) + R'.locals ≤ R.locals) (hb1 : k + R'.cells ≤ R.cells) (hb2 : n + R'.slots ≤ R.slots) (hst : (st.map catP).sum ≤ 8) (kk : ∀ x σ', Q x σ' → Aw Ω M_Ver_keep R F (k + R'.cells) (n + R'.slots) 66 L (xi x :: st) σ') (kx : ∀ E σ', QX' E σ' → Ax Ω M_Ver_keep R F (k + R'.cells) (n + R'.slots) 63 L st σ' E) : Aw Ω M_Ver_keep R F k n 63 L (xr x0 :: xr (some a) :: st) σ :=
  Aw.callV (As := [xr x0]) (stk := xr x0 :: xr (some a) :: st) (nn := 1) 13 M_Lst_add_0 hc ok_Lst_add_0 rfl (by decide) rfl hk ml_Ver_63 im_Lst_add_0 se_Lst_add_0 ⟨hr1, hr2⟩ rfl ⟨hb1, hb2⟩ hst rfl d_Ver_keep_63 (fun r σ' h => by obtain ⟨x, rfl, h⟩ := h; exact kk x σ' h) kx
theorem r_Ver_keep_73 {Ω : Om} {R : Room} {k n : Nat} {L : List PV} {σ : Sto} {QR : Option PV → Sto → Prop} {QX : String → Sto → Prop} (h : QR none σ) (h1 : k ≤ R.cells) (h2 : n ≤ R.slots) : Aw Ω M_Ver_keep R (MF Ω R QR QX) k n 73 L [] σ := Aw.vret rfl h h1 h2 d_Ver_keep_73
