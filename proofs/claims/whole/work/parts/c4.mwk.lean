/-! walks of the reference over its memory, 3 (by program) -/
theorem B_weave_0 {Ω : Om} {σ0 : Sto} {m : Nat} {R : Room} {F : QF} {μ : Mu} {v1 : Int} {v2 : Int} {v3 : Int} {v4 : Int} (h : Mw Ω σ0 m M_Mdl_weave R F 4 [xr (some m), xi v1, xi v2, xi v3, xi v4, xu, xu, xu, xu, xu, xu, xu, xu, xu, xu] [xi 0, xi v1, xi v3, xr (some m)] μ) : Mw Ω σ0 m M_Mdl_weave R F 0 [xr (some m), xi v1, xi v2, xi v3, xi v4, xu, xu, xu, xu, xu, xu, xu, xu, xu, xu] [] μ := by
  intro σ hM
  obtain ⟨hS, hk, e⟩ := id hM
  subst e
  refine b_Mdl_weave_0 ?_
  exact h _ hM
theorem B_weave_7 {Ω : Om} {σ0 : Sto} {m : Nat} {R : Room} {F : QF} {μ : Mu} {v1 : Int} {v2 : Int} {v3 : Int} {v4 : Int} {s0 : Int} (h : Mw Ω σ0 m M_Mdl_weave R F 11 [xr (some m), xi v1, xi v2, xi v3, xi v4, xi 0, xu, xu, xu, xu, xu, xu, xu, xu, xu] [] μ) : Mw Ω σ0 m M_Mdl_weave R F 7 [xr (some m), xi v1, xi v2, xi v3, xi v4, xu, xu, xu, xu, xu, xu, xu, xu, xu, xu] [xi s0] μ := by
  intro σ hM
  obtain ⟨hS, hk, e⟩ := id hM
  subst e
  refine b_Mdl_weave_7 ?_
  exact h _ hM
theorem B_weave_11 {Ω : Om} {σ0 : Sto} {m : Nat} {R : Room} {F : QF} {μ : Mu} {v1 : Int} {v2 : Int} {v3 : Int} {v4 : Int} {v5 : Int} (h : 0 ≤ v3 ∧ v3 < 40 ∧ Q32 v5 ∧ (((mA μ 4 (v3).toNat) ≤ v5 → Mw Ω σ0 m M_Mdl_weave R F 46 [xr (some m), xi v1, xi v2, xi v3, xi v4, xi v5, xu, xu, xu, xu, xu, xu, xu, xu, xu] [xi 0, xi v2, xi v3, xr (some m)] μ) ∧ (¬ (mA μ 4 (v3).toNat) ≤ v5 → 0 ≤ v5 ∧ v5 < 20 ∧ 0 ≤ v5 ∧ v5 < 20 ∧ Mw Ω σ0 m M_Mdl_weave R F 11 [xr (some m), xi v1, xi v2, xi v3, xi v4, xi (v5 + 1), xu, xu, xu, xu, xu, xu, xu, xu, xu] [] (wA μ 31 (v5).toNat (mA μ 30 (v5).toNat))))) : Mw Ω σ0 m M_Mdl_weave R F 11 [xr (some m), xi v1, xi v2, xi v3, xi v4, xi v5, xu, xu, xu, xu, xu, xu, xu, xu, xu] [] μ := by
  intro σ hM
  obtain ⟨hS, hk, e⟩ := id hM
  subst e
  refine b_Mdl_weave_11 ?_
  refine ⟨hS.2.1, ?_⟩
  refine ⟨_, hS.r4, ?_⟩
  refine ⟨hS.k4, ?_⟩
  obtain ⟨o, h⟩ := h
  refine ⟨o, ?_⟩
  obtain ⟨o, h⟩ := h
  refine ⟨hS.b4 o, ?_⟩
  refine fun _ => ?_
  obtain ⟨o, h⟩ := h
  refine ⟨o, ?_⟩
  refine ⟨fun c => ?_, fun c => ?_⟩
  · have h := h.1 c
    exact h _ hM
  · have h := h.2 c
    refine ⟨_, hS.r31, ?_⟩
    refine ⟨_, hS.r30, ?_⟩
    refine ⟨hS.k30, ?_⟩
    obtain ⟨o, h⟩ := h
    refine ⟨o, ?_⟩
    obtain ⟨o, h⟩ := h
    refine ⟨hS.b30 o, ?_⟩
    refine fun _ => ?_
    refine ⟨hS.k31, ?_⟩
    obtain ⟨o, h⟩ := h
    refine ⟨o, ?_⟩
    obtain ⟨o, h⟩ := h
    refine ⟨hS.b31 o, ?_⟩
    exact h _ (MR.vI (j := 31) (by decide) hM)
theorem B_weave_49 {Ω : Om} {σ0 : Sto} {m : Nat} {R : Room} {F : QF} {μ : Mu} {v1 : Int} {v2 : Int} {v3 : Int} {v4 : Int} {v5 : Int} {s0 : Int} (h : Mw Ω σ0 m M_Mdl_weave R F 65 [xr (some m), xi v1, xi v2, xi v3, xi v4, xi 0, xi 0, xi 0, xi 0, xi 0, xu, xu, xu, xu, xu] [] μ) : Mw Ω σ0 m M_Mdl_weave R F 49 [xr (some m), xi v1, xi v2, xi v3, xi v4, xi v5, xu, xu, xu, xu, xu, xu, xu, xu, xu] [xi s0] μ := by
  intro σ hM
  obtain ⟨hS, hk, e⟩ := id hM
  subst e
  refine b_Mdl_weave_49 ?_
  exact h _ hM
theorem B_weave_65 {Ω : Om} {σ0 : Sto} {m : Nat} {R : Room} {F : QF} {μ : Mu} {v1 : Int} {v2 : Int} {v3 : Int} {v4 : Int} {v5 : Int} {v6 : Int} {v7 : Int} {v8 : Int} {v9 : Int} (h : 0 ≤ v3 ∧ v3 < 40 ∧ Q32 v9 ∧ (((mA μ 4 (v3).toNat) < v9 → Mw Ω σ0 m M_Mdl_weave R F 395 [xr (some m), xi v1, xi v2, xi v3, xi v4, xi v5, xi v6, xi v7, xi v8, xi v9, xu, xu, xu, xu, xu] [xi v8] μ) ∧ (¬ (mA μ 4 (v3).toNat) < v9 → ((¬ v9 = (mA μ 4 (v3).toNat) → Mw Ω σ0 m M_Mdl_weave R F 92 [xr (some m), xi v1, xi v2, xi v3, xi v4, xi v5, xi v6, xi v7, xi v8, xi v9, xu, xu, xu, xu, xu] [xi 0] μ) ∧ (v9 = (mA μ 4 (v3).toNat) → Mw Ω σ0 m M_Mdl_weave R F 92 [xr (some m), xi v1, xi v2, xi v3, xi v4, xi v5, xi v6, xi v7, xi v8, xi v9, xu, xu, xu, xu, xu] [xi 1] μ))))) : Mw Ω σ0 m M_Mdl_weave R F 65 [xr (some m), xi v1, xi v2, xi v3, xi v4, xi v5, xi v6, xi v7, xi v8, xi v9, xu, xu, xu, xu, xu] [] μ := by
  intro σ hM
  obtain ⟨hS, hk, e⟩ := id hM
  subst e
  refine b_Mdl_weave_65 ?_
  refine ⟨hS.2.1, ?_⟩
  refine ⟨_, hS.r4, ?_⟩
  refine ⟨hS.k4, ?_⟩
  obtain ⟨o, h⟩ := h
  refine ⟨o, ?_⟩
  obtain ⟨o, h⟩ := h
  refine ⟨hS.b4 o, ?_⟩
  refine fun _ => ?_
  obtain ⟨o, h⟩ := h
  refine ⟨o, ?_⟩
  refine ⟨fun c => ?_, fun c => ?_⟩
  · have h := h.1 c
    exact h _ hM
  · have h := h.2 c
    refine fun _ => ?_
    refine ⟨fun c => ?_, fun c => ?_⟩
    · have h := h.1 c
      exact h _ hM
    · have h := h.2 c
      exact h _ hM
theorem B_weave_92 {Ω : Om} {σ0 : Sto} {m : Nat} {R : Room} {F : QF} {μ : Mu} {v1 : Int} {v2 : Int} {v3 : Int} {v4 : Int} {v5 : Int} {v6 : Int} {v7 : Int} {v8 : Int} {v9 : Int} {s0 : Int} (h : Q32 s0 ∧ ((¬ s0 = (0 : Int) → ((s0 = (0 : Int) → 0 ≤ v9 ∧ v9 < 20 ∧ ((s0 = (0 : Int) → 0 ≤ v9 ∧ v9 < 20 ∧ Mw Ω σ0 m M_Mdl_weave R F 178 [xr (some m), xi v1, xi v2, xi v3, xi v4, xi v5, xi v6, xi v7, xi v8, xi v9, xi s0, xi (mA μ 31 (v9).toNat), xi (mA μ 30 (v9).toNat), xu, xu] [xi v9, xi v5, xi v3, xi (mA μ 31 (v9).toNat), xi v6, xi v1, xr (some m)] μ) ∧ (¬ s0 = (0 : Int) → 0 ≤ v2 ∧ v2 < 40 ∧ Mw Ω σ0 m M_Mdl_weave R F 178 [xr (some m), xi v1, xi v2, xi v3, xi v4, xi v5, xi v6, xi v7, xi v8, xi v9, xi s0, xi (mA μ 31 (v9).toNat), xi (mA μ 4 (v2).toNat), xu, xu] [xi v9, xi v5, xi v3, xi (mA μ 31 (v9).toNat), xi v6, xi v1, xr (some m)] μ))) ∧ (¬ s0 = (0 : Int) → 0 ≤ v1 ∧ v1 < 40 ∧ ((s0 = (0 : Int) → 0 ≤ v9 ∧ v9 < 20 ∧ Mw Ω σ0 m M_Mdl_weave R F 178 [xr (some m), xi v1, xi v2, xi v3, xi v4, xi v5, xi v6, xi v7, xi v8, xi v9, xi s0, xi (mA μ 4 (v1).toNat), xi (mA μ 30 (v9).toNat), xu, xu] [xi v9, xi v5, xi v3, xi (mA μ 4 (v1).toNat), xi v6, xi v1, xr (some m)] μ) ∧ (¬ s0 = (0 : Int) → 0 ≤ v2 ∧ v2 < 40 ∧ Mw Ω σ0 m M_Mdl_weave R F 178 [xr (some m), xi v1, xi v2, xi v3, xi v4, xi v5, xi v6, xi v7, xi v8, xi v9, xi s0, xi (mA μ 4 (v1).toNat), xi (mA μ 4 (v2).toNat), xu, xu] [xi v9, xi v5, xi v3, xi (mA μ 4 (v1).toNat), xi v6, xi v1, xr (some m)] μ))))) ∧ (s0 = (0 : Int) → 0 ≤ v9 ∧ v9 < 20 ∧ (((mA μ 31 (v9).toNat) = (-1 : Int) → Mw Ω σ0 m M_Mdl_weave R F 65 [xr (some m), xi v1, xi v2, xi v3, xi v4, xi v5, xi v6, xi v7, xi v8, xi (v9 + 1), xu, xu, xu, xu, xu] [] μ) ∧ (¬ (mA μ 31 (v9).toNat) = (-1 : Int) → 0 ≤ v9 ∧ v9 < 20 ∧ (((mA μ 30 (v9).toNat) = (-1 : Int) → Mw Ω σ0 m M_Mdl_weave R F 65 [xr (some m), xi v1, xi v2, xi v3, xi v4, xi v5, xi v6, xi v7, xi v8, xi (v9 + 1), xu, xu, xu, xu, xu] [] μ) ∧ (¬ (mA μ 30 (v9).toNat) = (-1 : Int) → ((s0 = (0 : Int) → ((s0 = (0 : Int) → Mw Ω σ0 m M_Mdl_weave R F 178 [xr (some m), xi v1, xi v2, xi v3, xi v4, xi v5, xi v6, xi v7, xi v8, xi v9, xi s0, xi (mA μ 31 (v9).toNat), xi (mA μ 30 (v9).toNat), xu, xu] [xi v9, xi v5, xi v3, xi (mA μ 31 (v9).toNat), xi v6, xi v1, xr (some m)] μ) ∧ (¬ s0 = (0 : Int) → 0 ≤ v2 ∧ v2 < 40 ∧ Mw Ω σ0 m M_Mdl_weave R F 178 [xr (some m), xi v1, xi v2, xi v3, xi v4, xi v5, xi v6, xi v7, xi v8, xi v9, xi s0, xi (mA μ 31 (v9).toNat), xi (mA μ 4 (v2).toNat), xu, xu] [xi v9, xi v5, xi v3, xi (mA μ 31 (v9).toNat), xi v6, xi v1, xr (some m)] μ))) ∧ (¬ s0 = (0 : Int) → 0 ≤ v1 ∧ v1 < 40 ∧ ((s0 = (0 : Int) → Mw Ω σ0 m M_Mdl_weave R F 178 [xr (some m), xi v1, xi v2, xi v3, xi v4, xi v5, xi v6, xi v7, xi v8, xi v9, xi s0, xi (mA μ 4 (v1).toNat), xi (mA μ 30 (v9).toNat), xu, xu] [xi v9, xi v5, xi v3, xi (mA μ 4 (v1).toNat), xi v6, xi v1, xr (some m)] μ) ∧ (¬ s0 = (0 : Int) → 0 ≤ v2 ∧ v2 < 40 ∧ Mw Ω σ0 m M_Mdl_weave R F 178 [xr (some m), xi v1, xi v2, xi v3, xi v4, xi v5, xi v6, xi v7, xi v8, xi v9, xi s0, xi (mA μ 4 (v1).toNat), xi (mA μ 4 (v2).toNat), xu, xu] [xi v9, xi v5, xi v3, xi (mA μ 4 (v1).toNat), xi v6, xi v1, xr (some m)] μ))))))))))) : Mw Ω σ0 m M_Mdl_weave R F 92 [xr (some m), xi v1, xi v2, xi v3, xi v4, xi v5, xi v6, xi v7, xi v8, xi v9, xu, xu, xu, xu, xu] [xi s0] μ := by
  intro σ hM
  obtain ⟨hS, hk, e⟩ := id hM
  subst e
  refine b_Mdl_weave_92 ?_
  obtain ⟨o, h⟩ := h
  refine ⟨o, ?_⟩
  refine ⟨fun c => ?_, fun c => ?_⟩
  · have h := h.1 c
    refine ⟨fun c => ?_, fun c => ?_⟩
    · have h := h.1 c
      refine ⟨hS.2.1, ?_⟩
      refine ⟨_, hS.r31, ?_⟩
      refine ⟨hS.k31, ?_⟩
      obtain ⟨o, h⟩ := h
      refine ⟨o, ?_⟩
      obtain ⟨o, h⟩ := h
      refine ⟨hS.b31 o, ?_⟩
      refine fun _ => ?_
      refine ⟨fun c => ?_, fun c => ?_⟩
      · have h := h.1 c
        refine ⟨_, hS.r30, ?_⟩
        refine ⟨hS.k30, ?_⟩
        obtain ⟨o, h⟩ := h
        refine ⟨o, ?_⟩
        obtain ⟨o, h⟩ := h
        refine ⟨hS.b30 o, ?_⟩
        refine fun _ => ?_
        exact h _ hM
      · have h := h.2 c
        refine ⟨_, hS.r4, ?_⟩
        refine ⟨hS.k4, ?_⟩
        obtain ⟨o, h⟩ := h
        refine ⟨o, ?_⟩
        obtain ⟨o, h⟩ := h
        refine ⟨hS.b4 o, ?_⟩
        refine fun _ => ?_
        exact h _ hM
    · have h := h.2 c
      refine ⟨hS.2.1, ?_⟩
      refine ⟨_, hS.r4, ?_⟩
      refine ⟨hS.k4, ?_⟩
      obtain ⟨o, h⟩ := h
      refine ⟨o, ?_⟩
      obtain ⟨o, h⟩ := h
      refine ⟨hS.b4 o, ?_⟩
      refine fun _ => ?_
      refine ⟨fun c => ?_, fun c => ?_⟩
      · have h := h.1 c
        refine ⟨_, hS.r30, ?_⟩
        refine ⟨hS.k30, ?_⟩
        obtain ⟨o, h⟩ := h
        refine ⟨o, ?_⟩
        obtain ⟨o, h⟩ := h
        refine ⟨hS.b30 o, ?_⟩
        refine fun _ => ?_
        exact h _ hM
      · have h := h.2 c
        obtain ⟨o, h⟩ := h
        refine ⟨o, ?_⟩
        obtain ⟨o, h⟩ := h
        refine ⟨hS.b4 o, ?_⟩
        refine fun _ => ?_
        exact h _ hM
  · have h := h.2 c
    refine ⟨hS.2.1, ?_⟩
    refine ⟨_, hS.r31, ?_⟩
    refine ⟨hS.k31, ?_⟩
    obtain ⟨o, h⟩ := h
    refine ⟨o, ?_⟩
    obtain ⟨o, h⟩ := h
    refine ⟨hS.b31 o, ?_⟩
    refine fun _ => ?_
    refine ⟨fun c => ?_, fun c => ?_⟩
    · have h := h.1 c
      exact h _ hM
    · have h := h.2 c
      refine ⟨_, hS.r30, ?_⟩
      refine ⟨hS.k30, ?_⟩
      obtain ⟨o, h⟩ := h
      refine ⟨o, ?_⟩
      obtain ⟨o, h⟩ := h
      refine ⟨hS.b30 o, ?_⟩
      refine fun _ => ?_
      refine ⟨fun c => ?_, fun c => ?_⟩
      · have h := h.1 c
        exact h _ hM
      · have h := h.2 c
        refine ⟨fun c => ?_, fun c => ?_⟩
        · have h := h.1 c
          refine fun _ => ?_
          refine ⟨fun c => ?_, fun c => ?_⟩
          · have h := h.1 c
            refine fun _ => ?_
            exact h _ hM
          · have h := h.2 c
            refine ⟨_, hS.r4, ?_⟩
            refine ⟨hS.k4, ?_⟩
            obtain ⟨o, h⟩ := h
            refine ⟨o, ?_⟩
            obtain ⟨o, h⟩ := h
            refine ⟨hS.b4 o, ?_⟩
            refine fun _ => ?_
            exact h _ hM
        · have h := h.2 c
          refine ⟨_, hS.r4, ?_⟩
          refine ⟨hS.k4, ?_⟩
          obtain ⟨o, h⟩ := h
          refine ⟨o, ?_⟩
          obtain ⟨o, h⟩ := h
          refine ⟨hS.b4 o, ?_⟩
          refine fun _ => ?_
          refine ⟨fun c => ?_, fun c => ?_⟩
          · have h := h.1 c
            refine fun _ => ?_
            exact h _ hM
          · have h := h.2 c
            obtain ⟨o, h⟩ := h
            refine ⟨o, ?_⟩
            obtain ⟨o, h⟩ := h
            refine ⟨hS.b4 o, ?_⟩
            refine fun _ => ?_
            exact h _ hM
theorem B_weave_181 {Ω : Om} {σ0 : Sto} {m : Nat} {R : Room} {F : QF} {μ : Mu} {v1 : Int} {v2 : Int} {v3 : Int} {v4 : Int} {v5 : Int} {v6 : Int} {v7 : Int} {v8 : Int} {v9 : Int} {v10 : Int} {v11 : Int} {v12 : Int} {s0 : Int} (h : Mw Ω σ0 m M_Mdl_weave R F 194 [xr (some m), xi v1, xi v2, xi v3, xi v4, xi v5, xi v6, xi v7, xi v8, xi v9, xi v10, xi v11, xi v12, xi s0, xu] [xi v9, xi v5, xi v3, xi v12, xi v7, xi v2, xr (some m)] μ) : Mw Ω σ0 m M_Mdl_weave R F 181 [xr (some m), xi v1, xi v2, xi v3, xi v4, xi v5, xi v6, xi v7, xi v8, xi v9, xi v10, xi v11, xi v12, xu, xu] [xi s0] μ := by
  intro σ hM
  obtain ⟨hS, hk, e⟩ := id hM
  subst e
  refine b_Mdl_weave_181 ?_
  exact h _ hM
theorem B_weave_197 {Ω : Om} {σ0 : Sto} {m : Nat} {R : Room} {F : QF} {μ : Mu} {v1 : Int} {v2 : Int} {v3 : Int} {v4 : Int} {v5 : Int} {v6 : Int} {v7 : Int} {v8 : Int} {v9 : Int} {v10 : Int} {v11 : Int} {v12 : Int} {v13 : Int} {s0 : Int} (h : Q32 s0 ∧ ((¬ s0 = (0 : Int) → Q32 v13 ∧ ((v13 = (0 : Int) → Mw Ω σ0 m M_Mdl_weave R F 263 [xr (some m), xi v1, xi v2, xi v3, xi v4, xi v5, xi v6, xi v7, xi v8, xi v9, xi v10, xi v11, xi v12, xi v13, xi 1] [xi v4, xi v11, xi v6, xi v1, xr (some m), xi v8] μ) ∧ (¬ v13 = (0 : Int) → Mw Ω σ0 m M_Mdl_weave R F 239 [xr (some m), xi v1, xi v2, xi v3, xi v4, xi v5, xi v6, xi v7, xi v8, xi v9, xi v10, xi v11, xi v12, xi v13, xi 1] [xi v4, xi v12, xi v7, xi v2, xr (some m), xi v8] μ))) ∧ (s0 = (0 : Int) → Mw Ω σ0 m M_Mdl_weave R F 211 [xr (some m), xi v1, xi v2, xi v3, xi v4, xi v5, xi v6, xi v7, xi v8, xi v9, xi v10, xi v11, xi v12, xi v13, xu] [xi v11, xi v6, xi v1, xi v12, xi v7, xi v2, xr (some m)] μ))) : Mw Ω σ0 m M_Mdl_weave R F 197 [xr (some m), xi v1, xi v2, xi v3, xi v4, xi v5, xi v6, xi v7, xi v8, xi v9, xi v10, xi v11, xi v12, xi v13, xu] [xi s0] μ := by
  intro σ hM
  obtain ⟨hS, hk, e⟩ := id hM
  subst e
  refine b_Mdl_weave_197 ?_
  obtain ⟨o, h⟩ := h
  refine ⟨o, ?_⟩
  refine ⟨fun c => ?_, fun c => ?_⟩
  · have h := h.1 c
    obtain ⟨o, h⟩ := h
    refine ⟨o, ?_⟩
    refine ⟨fun c => ?_, fun c => ?_⟩
    · have h := h.1 c
      exact h _ hM
    · have h := h.2 c
      exact h _ hM
  · have h := h.2 c
    exact h _ hM
theorem B_weave_214 {Ω : Om} {σ0 : Sto} {m : Nat} {R : Room} {F : QF} {μ : Mu} {v1 : Int} {v2 : Int} {v3 : Int} {v4 : Int} {v5 : Int} {v6 : Int} {v7 : Int} {v8 : Int} {v9 : Int} {v10 : Int} {v11 : Int} {v12 : Int} {v13 : Int} {s0 : Int} (h : Q32 s0 ∧ ((s0 = (0 : Int) → Q32 v13 ∧ ((v13 = (0 : Int) → Q32 v4 ∧ ((v4 = (0 : Int) → Q32 v10 ∧ ((v10 = (0 : Int) → Mw Ω σ0 m M_Mdl_weave R F 363 [xr (some m), xi v1, xi v2, xi v3, xi v4, xi v5, xi v6, xi v7, xi v8, xi v9, xi v10, xi v11, xi v12, xi v13, xi 0] [xi v4, xi (v11 + 1), xi v11, xi v1, xr (some m), xi v8] μ) ∧ (¬ v10 = (0 : Int) → Mw Ω σ0 m M_Mdl_weave R F 65 [xr (some m), xi v1, xi v2, xi v3, xi v4, xi (v9 + 1), xi (v11 + 1), xi (v12 + 1), xi (v8 + 0), xi (v9 + 1), xu, xu, xu, xu, xu] [] μ))) ∧ (¬ v4 = (0 : Int) → Mw Ω σ0 m M_Mdl_weave R F 284 [xr (some m), xi v1, xi v2, xi v3, xi v4, xi v5, xi v6, xi v7, xi v8, xi v9, xi v10, xi v11, xi v12, xi v13, xi 0] [xi v11, xi v6, xi v1, xi 0, xr (some m)] μ))) ∧ (¬ v13 = (0 : Int) → Mw Ω σ0 m M_Mdl_weave R F 239 [xr (some m), xi v1, xi v2, xi v3, xi v4, xi v5, xi v6, xi v7, xi v8, xi v9, xi v10, xi v11, xi v12, xi v13, xi 0] [xi v4, xi v12, xi v7, xi v2, xr (some m), xi v8] μ))) ∧ (¬ s0 = (0 : Int) → Q32 v13 ∧ ((v13 = (0 : Int) → Mw Ω σ0 m M_Mdl_weave R F 263 [xr (some m), xi v1, xi v2, xi v3, xi v4, xi v5, xi v6, xi v7, xi v8, xi v9, xi v10, xi v11, xi v12, xi v13, xi 1] [xi v4, xi v11, xi v6, xi v1, xr (some m), xi v8] μ) ∧ (¬ v13 = (0 : Int) → Mw Ω σ0 m M_Mdl_weave R F 239 [xr (some m), xi v1, xi v2, xi v3, xi v4, xi v5, xi v6, xi v7, xi v8, xi v9, xi v10, xi v11, xi v12, xi v13, xi 1] [xi v4, xi v12, xi v7, xi v2, xr (some m), xi v8] μ))))) : Mw Ω σ0 m M_Mdl_weave R F 214 [xr (some m), xi v1, xi v2, xi v3, xi v4, xi v5, xi v6, xi v7, xi v8, xi v9, xi v10, xi v11, xi v12, xi v13, xu] [xi s0] μ := by
  intro σ hM
  obtain ⟨hS, hk, e⟩ := id hM
  subst e
  refine b_Mdl_weave_214 ?_
  obtain ⟨o, h⟩ := h
  refine ⟨o, ?_⟩
  refine ⟨fun c => ?_, fun c => ?_⟩
  · have h := h.1 c
    obtain ⟨o, h⟩ := h
    refine ⟨o, ?_⟩
    refine ⟨fun c => ?_, fun c => ?_⟩
    · have h := h.1 c
      obtain ⟨o, h⟩ := h
      refine ⟨o, ?_⟩
      refine ⟨fun c => ?_, fun c => ?_⟩
      · have h := h.1 c
        obtain ⟨o, h⟩ := h
        refine ⟨o, ?_⟩
        refine ⟨fun c => ?_, fun c => ?_⟩
        · have h := h.1 c
          exact h _ hM
        · have h := h.2 c
          exact h _ hM
      · have h := h.2 c
        exact h _ hM
    · have h := h.2 c
      exact h _ hM
  · have h := h.2 c
    obtain ⟨o, h⟩ := h
    refine ⟨o, ?_⟩
    refine ⟨fun c => ?_, fun c => ?_⟩
    · have h := h.1 c
      exact h _ hM
    · have h := h.2 c
      exact h _ hM
theorem B_weave_242 {Ω : Om} {σ0 : Sto} {m : Nat} {R : Room} {F : QF} {μ : Mu} {v1 : Int} {v2 : Int} {v3 : Int} {v4 : Int} {v5 : Int} {v6 : Int} {v7 : Int} {v8 : Int} {v9 : Int} {v10 : Int} {v11 : Int} {v12 : Int} {v13 : Int} {v14 : Int} {s0 : Int} {s1 : Int} (h : Q32 v10 ∧ ((v10 = (0 : Int) → Mw Ω σ0 m M_Mdl_weave R F 363 [xr (some m), xi v1, xi v2, xi v3, xi v4, xi v5, xi v6, xi v7, xi (s0 + s1), xi v9, xi v10, xi v11, xi v12, xi v13, xi v14] [xi v4, xi (v11 + 1), xi v11, xi v1, xr (some m), xi (s0 + s1)] μ) ∧ (¬ v10 = (0 : Int) → Mw Ω σ0 m M_Mdl_weave R F 65 [xr (some m), xi v1, xi v2, xi v3, xi v4, xi (v9 + 1), xi (v11 + 1), xi (v12 + 1), xi ((s0 + s1) + 0), xi (v9 + 1), xu, xu, xu, xu, xu] [] μ))) : Mw Ω σ0 m M_Mdl_weave R F 242 [xr (some m), xi v1, xi v2, xi v3, xi v4, xi v5, xi v6, xi v7, xi v8, xi v9, xi v10, xi v11, xi v12, xi v13, xi v14] [xi s1, xi s0] μ := by
  intro σ hM
  obtain ⟨hS, hk, e⟩ := id hM
  subst e
  refine b_Mdl_weave_242 ?_
  obtain ⟨o, h⟩ := h
  refine ⟨o, ?_⟩
  refine ⟨fun c => ?_, fun c => ?_⟩
  · have h := h.1 c
    exact h _ hM
  · have h := h.2 c
    exact h _ hM
theorem B_weave_366 {Ω : Om} {σ0 : Sto} {m : Nat} {R : Room} {F : QF} {μ : Mu} {v1 : Int} {v2 : Int} {v3 : Int} {v4 : Int} {v5 : Int} {v6 : Int} {v7 : Int} {v8 : Int} {v9 : Int} {v10 : Int} {v11 : Int} {v12 : Int} {v13 : Int} {v14 : Int} {s0 : Int} {s1 : Int} (h : Mw Ω σ0 m M_Mdl_weave R F 65 [xr (some m), xi v1, xi v2, xi v3, xi v4, xi (v9 + 1), xi (v11 + 1), xi (v12 + 1), xi (s0 + s1), xi (v9 + 1), xu, xu, xu, xu, xu] [] μ) : Mw Ω σ0 m M_Mdl_weave R F 366 [xr (some m), xi v1, xi v2, xi v3, xi v4, xi v5, xi v6, xi v7, xi v8, xi v9, xi v10, xi v11, xi v12, xi v13, xi v14] [xi s1, xi s0] μ := by
  intro σ hM
  obtain ⟨hS, hk, e⟩ := id hM
  subst e
  refine b_Mdl_weave_366 ?_
  exact h _ hM
theorem B_weave_266 {Ω : Om} {σ0 : Sto} {m : Nat} {R : Room} {F : QF} {μ : Mu} {v1 : Int} {v2 : Int} {v3 : Int} {v4 : Int} {v5 : Int} {v6 : Int} {v7 : Int} {v8 : Int} {v9 : Int} {v10 : Int} {v11 : Int} {v12 : Int} {v13 : Int} {v14 : Int} {s0 : Int} {s1 : Int} (h : Q32 v10 ∧ ((v10 = (0 : Int) → Mw Ω σ0 m M_Mdl_weave R F 363 [xr (some m), xi v1, xi v2, xi v3, xi v4, xi v5, xi v6, xi v7, xi (s0 + s1), xi v9, xi v10, xi v11, xi v12, xi v13, xi v14] [xi v4, xi (v11 + 1), xi v11, xi v1, xr (some m), xi (s0 + s1)] μ) ∧ (¬ v10 = (0 : Int) → Mw Ω σ0 m M_Mdl_weave R F 65 [xr (some m), xi v1, xi v2, xi v3, xi v4, xi (v9 + 1), xi (v11 + 1), xi (v12 + 1), xi ((s0 + s1) + 0), xi (v9 + 1), xu, xu, xu, xu, xu] [] μ))) : Mw Ω σ0 m M_Mdl_weave R F 266 [xr (some m), xi v1, xi v2, xi v3, xi v4, xi v5, xi v6, xi v7, xi v8, xi v9, xi v10, xi v11, xi v12, xi v13, xi v14] [xi s1, xi s0] μ := by
  intro σ hM
  obtain ⟨hS, hk, e⟩ := id hM
  subst e
  refine b_Mdl_weave_266 ?_
  obtain ⟨o, h⟩ := h
  refine ⟨o, ?_⟩
  refine ⟨fun c => ?_, fun c => ?_⟩
  · have h := h.1 c
    exact h _ hM
  · have h := h.2 c
    exact h _ hM
theorem B_weave_287 {Ω : Om} {σ0 : Sto} {m : Nat} {R : Room} {F : QF} {μ : Mu} {v1 : Int} {v2 : Int} {v3 : Int} {v4 : Int} {v5 : Int} {v6 : Int} {v7 : Int} {v8 : Int} {v9 : Int} {v10 : Int} {v11 : Int} {v12 : Int} {v13 : Int} {v14 : Int} (h : Mw Ω σ0 m M_Mdl_weave R F 294 [xr (some m), xi v1, xi v2, xi v3, xi v4, xi v5, xi v6, xi v7, xi v8, xi v9, xi v10, xi v11, xi v12, xi v13, xi v14] [xi v12, xi v7, xi v2, xi 1, xr (some m)] μ) : Mw Ω σ0 m M_Mdl_weave R F 287 [xr (some m), xi v1, xi v2, xi v3, xi v4, xi v5, xi v6, xi v7, xi v8, xi v9, xi v10, xi v11, xi v12, xi v13, xi v14] [] μ := by
  intro σ hM
  obtain ⟨hS, hk, e⟩ := id hM
  subst e
  refine b_Mdl_weave_287 ?_
  exact h _ hM
theorem B_weave_297 {Ω : Om} {σ0 : Sto} {m : Nat} {R : Room} {F : QF} {μ : Mu} {v1 : Int} {v2 : Int} {v3 : Int} {v4 : Int} {v5 : Int} {v6 : Int} {v7 : Int} {v8 : Int} {v9 : Int} {v10 : Int} {v11 : Int} {v12 : Int} {v13 : Int} {v14 : Int} (h : Mw Ω σ0 m M_Mdl_weave R F 304 [xr (some m), xi v1, xi v2, xi v3, xi v4, xi v5, xi v6, xi v7, xi v8, xi v9, xi v10, xi v11, xi v12, xi v13, xi v14] [xi v9, xi v5, xi v3, xi 2, xr (some m)] μ) : Mw Ω σ0 m M_Mdl_weave R F 297 [xr (some m), xi v1, xi v2, xi v3, xi v4, xi v5, xi v6, xi v7, xi v8, xi v9, xi v10, xi v11, xi v12, xi v13, xi v14] [] μ := by
  intro σ hM
  obtain ⟨hS, hk, e⟩ := id hM
  subst e
  refine b_Mdl_weave_297 ?_
  exact h _ hM
theorem B_weave_307 {Ω : Om} {σ0 : Sto} {m : Nat} {R : Room} {F : QF} {μ : Mu} {v1 : Int} {v2 : Int} {v3 : Int} {v4 : Int} {v5 : Int} {v6 : Int} {v7 : Int} {v8 : Int} {v9 : Int} {v10 : Int} {v11 : Int} {v12 : Int} {v13 : Int} {v14 : Int} (h : 0 ≤ (mI μ 15) ∧ (mI μ 15) < 64 ∧ Q32 ((-1) - (mI μ 17)) ∧ Q32 ((mI μ 15) + 1) ∧ Mw Ω σ0 m M_Mdl_weave R F 332 [xr (some m), xi v1, xi v2, xi v3, xi v4, xi v5, xi v6, xi v7, xi v8, xi v9, xi v10, xi v11, xi v12, xi v13, xi v14] [] (wI (wA μ 9 (mI μ 15).toNat ((-1) - (mI μ 17))) 15 ((mI μ 15) + 1))) : Mw Ω σ0 m M_Mdl_weave R F 307 [xr (some m), xi v1, xi v2, xi v3, xi v4, xi v5, xi v6, xi v7, xi v8, xi v9, xi v10, xi v11, xi v12, xi v13, xi v14] [] μ := by
  intro σ hM
  obtain ⟨hS, hk, e⟩ := id hM
  subst e
  refine b_Mdl_weave_307 ?_
  refine ⟨hS.2.1, ?_⟩
  refine ⟨_, hS.r9, ?_⟩
  refine fun _ => ?_
  refine fun _ => ?_
  refine ⟨hS.k9, ?_⟩
  obtain ⟨o, h⟩ := h
  refine ⟨o, ?_⟩
  obtain ⟨o, h⟩ := h
  refine ⟨hS.b9 o, ?_⟩
  obtain ⟨o, h⟩ := h
  refine ⟨o, ?_⟩
  refine fun _ => ?_
  obtain ⟨o, h⟩ := h
  refine ⟨o, ?_⟩
  exact h _ (MR.uI (f := 15) (MR.vI (j := 9) (by decide) hM))
theorem B_weave_332 {Ω : Om} {σ0 : Sto} {m : Nat} {R : Room} {F : QF} {μ : Mu} {v1 : Int} {v2 : Int} {v3 : Int} {v4 : Int} {v5 : Int} {v6 : Int} {v7 : Int} {v8 : Int} {v9 : Int} {v10 : Int} {v11 : Int} {v12 : Int} {v13 : Int} {v14 : Int} (h : Q32 ((mI μ 17) + 1) ∧ Q32 v10 ∧ ((v10 = (0 : Int) → Mw Ω σ0 m M_Mdl_weave R F 363 [xr (some m), xi v1, xi v2, xi v3, xi v4, xi v5, xi v6, xi v7, xi v8, xi v9, xi v10, xi v11, xi v12, xi v13, xi v14] [xi v4, xi (v11 + 1), xi v11, xi v1, xr (some m), xi v8] (wI μ 17 ((mI μ 17) + 1))) ∧ (¬ v10 = (0 : Int) → Mw Ω σ0 m M_Mdl_weave R F 65 [xr (some m), xi v1, xi v2, xi v3, xi v4, xi (v9 + 1), xi (v11 + 1), xi (v12 + 1), xi (v8 + 0), xi (v9 + 1), xu, xu, xu, xu, xu] [] (wI μ 17 ((mI μ 17) + 1))))) : Mw Ω σ0 m M_Mdl_weave R F 332 [xr (some m), xi v1, xi v2, xi v3, xi v4, xi v5, xi v6, xi v7, xi v8, xi v9, xi v10, xi v11, xi v12, xi v13, xi v14] [] μ := by
  intro σ hM
  obtain ⟨hS, hk, e⟩ := id hM
  subst e
  refine b_Mdl_weave_332 ?_
  refine ⟨hS.2.1, ?_⟩
  refine fun _ => ?_
  obtain ⟨o, h⟩ := h
  refine ⟨o, ?_⟩
  obtain ⟨o, h⟩ := h
  refine ⟨o, ?_⟩
  refine ⟨fun c => ?_, fun c => ?_⟩
  · have h := h.1 c
    exact h _ (MR.uI (f := 17) hM)
  · have h := h.2 c
    exact h _ (MR.uI (f := 17) hM)
theorem C_weave_4 {Ω : Om} {σ0 : Sto} {m : Nat} {F : QF} {L st : List PV} {μ : Mu} {Q : Int → Mu → Prop} {x0 : Int} {x1 : Int} {x2 : Int} (hc : MMi Ω m M_Mdl_pair rm_Mdl_pair Q μ [xi x0, xi x1, xi x2]) (kk : ∀ y μ', Q y μ' → Mw Ω σ0 m M_Mdl_weave rm_Mdl_weave F 7 L (xi y :: st) μ') (hst : (st.map catP).sum ≤ 8 := by exact Nat.le_of_ble_eq_true rfl) : Mw Ω σ0 m M_Mdl_weave rm_Mdl_weave F 4 L (xi x2 :: xi x1 :: xi x0 :: xr (some m) :: st) μ :=
  fun σ hM => c_Mdl_weave_4 (hc σ0 σ hM) hM.1.2.1 (by decide) (by decide) (by decide) (by decide) hst (fun y σ' hq => by obtain ⟨μ', h1, h2⟩ := hq; exact kk y μ' h2 σ' h1) (fun _ _ h => h.elim)
theorem C_weave_46 {Ω : Om} {σ0 : Sto} {m : Nat} {F : QF} {L st : List PV} {μ : Mu} {Q : Int → Mu → Prop} {x0 : Int} {x1 : Int} {x2 : Int} (hc : MMi Ω m M_Mdl_pair rm_Mdl_pair Q μ [xi x0, xi x1, xi x2]) (kk : ∀ y μ', Q y μ' → Mw Ω σ0 m M_Mdl_weave rm_Mdl_weave F 49 L (xi y :: st) μ') (hst : (st.map catP).sum ≤ 8 := by exact Nat.le_of_ble_eq_true rfl) : Mw Ω σ0 m M_Mdl_weave rm_Mdl_weave F 46 L (xi x2 :: xi x1 :: xi x0 :: xr (some m) :: st) μ :=
  fun σ hM => c_Mdl_weave_46 (hc σ0 σ hM) hM.1.2.1 (by decide) (by decide) (by decide) (by decide) hst (fun y σ' hq => by obtain ⟨μ', h1, h2⟩ := hq; exact kk y μ' h2 σ' h1) (fun _ _ h => h.elim)
theorem C_weave_178 {Ω : Om} {σ0 : Sto} {m : Nat} {F : QF} {L st : List PV} {μ : Mu} {Q : Int → Mu → Prop} {x0 : Int} {x1 : Int} {x2 : Int} {x3 : Int} {x4 : Int} {x5 : Int} (hc : MMi Ω m M_Mdl_areAlike rm_Mdl_areAlike Q μ [xi x0, xi x1, xi x2, xi x3, xi x4, xi x5]) (kk : ∀ y μ', Q y μ' → Mw Ω σ0 m M_Mdl_weave rm_Mdl_weave F 181 L (xi y :: st) μ') (hst : (st.map catP).sum ≤ 8 := by exact Nat.le_of_ble_eq_true rfl) : Mw Ω σ0 m M_Mdl_weave rm_Mdl_weave F 178 L (xi x5 :: xi x4 :: xi x3 :: xi x2 :: xi x1 :: xi x0 :: xr (some m) :: st) μ :=
  fun σ hM => c_Mdl_weave_178 (hc σ0 σ hM) hM.1.2.1 (by decide) (by decide) (by decide) (by decide) hst (fun y σ' hq => by obtain ⟨μ', h1, h2⟩ := hq; exact kk y μ' h2 σ' h1) (fun _ _ h => h.elim)
theorem C_weave_194 {Ω : Om} {σ0 : Sto} {m : Nat} {F : QF} {L st : List PV} {μ : Mu} {Q : Int → Mu → Prop} {x0 : Int} {x1 : Int} {x2 : Int} {x3 : Int} {x4 : Int} {x5 : Int} (hc : MMi Ω m M_Mdl_areAlike rm_Mdl_areAlike Q μ [xi x0, xi x1, xi x2, xi x3, xi x4, xi x5]) (kk : ∀ y μ', Q y μ' → Mw Ω σ0 m M_Mdl_weave rm_Mdl_weave F 197 L (xi y :: st) μ') (hst : (st.map catP).sum ≤ 8 := by exact Nat.le_of_ble_eq_true rfl) : Mw Ω σ0 m M_Mdl_weave rm_Mdl_weave F 194 L (xi x5 :: xi x4 :: xi x3 :: xi x2 :: xi x1 :: xi x0 :: xr (some m) :: st) μ :=
  fun σ hM => c_Mdl_weave_194 (hc σ0 σ hM) hM.1.2.1 (by decide) (by decide) (by decide) (by decide) hst (fun y σ' hq => by obtain ⟨μ', h1, h2⟩ := hq; exact kk y μ' h2 σ' h1) (fun _ _ h => h.elim)
theorem C_weave_211 {Ω : Om} {σ0 : Sto} {m : Nat} {F : QF} {L st : List PV} {μ : Mu} {Q : Int → Mu → Prop} {x0 : Int} {x1 : Int} {x2 : Int} {x3 : Int} {x4 : Int} {x5 : Int} (hc : MMi Ω m M_Mdl_areAlike rm_Mdl_areAlike Q μ [xi x0, xi x1, xi x2, xi x3, xi x4, xi x5]) (kk : ∀ y μ', Q y μ' → Mw Ω σ0 m M_Mdl_weave rm_Mdl_weave F 214 L (xi y :: st) μ') (hst : (st.map catP).sum ≤ 8 := by exact Nat.le_of_ble_eq_true rfl) : Mw Ω σ0 m M_Mdl_weave rm_Mdl_weave F 211 L (xi x5 :: xi x4 :: xi x3 :: xi x2 :: xi x1 :: xi x0 :: xr (some m) :: st) μ :=
  fun σ hM => c_Mdl_weave_211 (hc σ0 σ hM) hM.1.2.1 (by decide) (by decide) (by decide) (by decide) hst (fun y σ' hq => by obtain ⟨μ', h1, h2⟩ := hq; exact kk y μ' h2 σ' h1) (fun _ _ h => h.elim)
theorem C_weave_239 {Ω : Om} {σ0 : Sto} {m : Nat} {F : QF} {L st : List PV} {μ : Mu} {Q : Int → Mu → Prop} {x0 : Int} {x1 : Int} {x2 : Int} {x3 : Int} (hc : MMi Ω m M_Mdl_layLines rm_Mdl_layLines Q μ [xi x0, xi x1, xi x2, xi x3]) (kk : ∀ y μ', Q y μ' → Mw Ω σ0 m M_Mdl_weave rm_Mdl_weave F 242 L (xi y :: st) μ') (hst : (st.map catP).sum ≤ 8 := by exact Nat.le_of_ble_eq_true rfl) : Mw Ω σ0 m M_Mdl_weave rm_Mdl_weave F 239 L (xi x3 :: xi x2 :: xi x1 :: xi x0 :: xr (some m) :: st) μ :=
  fun σ hM => c_Mdl_weave_239 (hc σ0 σ hM) hM.1.2.1 (by decide) (by decide) (by decide) (by decide) hst (fun y σ' hq => by obtain ⟨μ', h1, h2⟩ := hq; exact kk y μ' h2 σ' h1) (fun _ _ h => h.elim)
theorem C_weave_263 {Ω : Om} {σ0 : Sto} {m : Nat} {F : QF} {L st : List PV} {μ : Mu} {Q : Int → Mu → Prop} {x0 : Int} {x1 : Int} {x2 : Int} {x3 : Int} (hc : MMi Ω m M_Mdl_layLines rm_Mdl_layLines Q μ [xi x0, xi x1, xi x2, xi x3]) (kk : ∀ y μ', Q y μ' → Mw Ω σ0 m M_Mdl_weave rm_Mdl_weave F 266 L (xi y :: st) μ') (hst : (st.map catP).sum ≤ 8 := by exact Nat.le_of_ble_eq_true rfl) : Mw Ω σ0 m M_Mdl_weave rm_Mdl_weave F 263 L (xi x3 :: xi x2 :: xi x1 :: xi x0 :: xr (some m) :: st) μ :=
  fun σ hM => c_Mdl_weave_263 (hc σ0 σ hM) hM.1.2.1 (by decide) (by decide) (by decide) (by decide) hst (fun y σ' hq => by obtain ⟨μ', h1, h2⟩ := hq; exact kk y μ' h2 σ' h1) (fun _ _ h => h.elim)
theorem C_weave_284 {Ω : Om} {σ0 : Sto} {m : Nat} {F : QF} {L st : List PV} {μ : Mu} {Q : Mu → Prop} {x0 : Int} {x1 : Int} {x2 : Int} {x3 : Int} (hc : MMv Ω m M_Mdl_layPiece rm_Mdl_layPiece Q μ [xi x0, xi x1, xi x2, xi x3]) (kk : ∀ μ', Q μ' → Mw Ω σ0 m M_Mdl_weave rm_Mdl_weave F 287 L st μ') (hst : (st.map catP).sum ≤ 8 := by exact Nat.le_of_ble_eq_true rfl) : Mw Ω σ0 m M_Mdl_weave rm_Mdl_weave F 284 L (xi x3 :: xi x2 :: xi x1 :: xi x0 :: xr (some m) :: st) μ :=
  fun σ hM => c_Mdl_weave_284 (hc σ0 σ hM) hM.1.2.1 (by decide) (by decide) (by decide) (by decide) hst (fun σ' hq => by obtain ⟨μ', h1, h2⟩ := hq; exact kk μ' h2 σ' h1) (fun _ _ h => h.elim)
theorem C_weave_294 {Ω : Om} {σ0 : Sto} {m : Nat} {F : QF} {L st : List PV} {μ : Mu} {Q : Mu → Prop} {x0 : Int} {x1 : Int} {x2 : Int} {x3 : Int} (hc : MMv Ω m M_Mdl_layPiece rm_Mdl_layPiece Q μ [xi x0, xi x1, xi x2, xi x3]) (kk : ∀ μ', Q μ' → Mw Ω σ0 m M_Mdl_weave rm_Mdl_weave F 297 L st μ') (hst : (st.map catP).sum ≤ 8 := by exact Nat.le_of_ble_eq_true rfl) : Mw Ω σ0 m M_Mdl_weave rm_Mdl_weave F 294 L (xi x3 :: xi x2 :: xi x1 :: xi x0 :: xr (some m) :: st) μ :=
  fun σ hM => c_Mdl_weave_294 (hc σ0 σ hM) hM.1.2.1 (by decide) (by decide) (by decide) (by decide) hst (fun σ' hq => by obtain ⟨μ', h1, h2⟩ := hq; exact kk μ' h2 σ' h1) (fun _ _ h => h.elim)
theorem C_weave_304 {Ω : Om} {σ0 : Sto} {m : Nat} {F : QF} {L st : List PV} {μ : Mu} {Q : Mu → Prop} {x0 : Int} {x1 : Int} {x2 : Int} {x3 : Int} (hc : MMv Ω m M_Mdl_layPiece rm_Mdl_layPiece Q μ [xi x0, xi x1, xi x2, xi x3]) (kk : ∀ μ', Q μ' → Mw Ω σ0 m M_Mdl_weave rm_Mdl_weave F 307 L st μ') (hst : (st.map catP).sum ≤ 8 := by exact Nat.le_of_ble_eq_true rfl) : Mw Ω σ0 m M_Mdl_weave rm_Mdl_weave F 304 L (xi x3 :: xi x2 :: xi x1 :: xi x0 :: xr (some m) :: st) μ :=
  fun σ hM => c_Mdl_weave_304 (hc σ0 σ hM) hM.1.2.1 (by decide) (by decide) (by decide) (by decide) hst (fun σ' hq => by obtain ⟨μ', h1, h2⟩ := hq; exact kk μ' h2 σ' h1) (fun _ _ h => h.elim)
theorem C_weave_363 {Ω : Om} {σ0 : Sto} {m : Nat} {F : QF} {L st : List PV} {μ : Mu} {Q : Int → Mu → Prop} {x0 : Int} {x1 : Int} {x2 : Int} {x3 : Int} (hc : MMi Ω m M_Mdl_layLines rm_Mdl_layLines Q μ [xi x0, xi x1, xi x2, xi x3]) (kk : ∀ y μ', Q y μ' → Mw Ω σ0 m M_Mdl_weave rm_Mdl_weave F 366 L (xi y :: st) μ') (hst : (st.map catP).sum ≤ 8 := by exact Nat.le_of_ble_eq_true rfl) : Mw Ω σ0 m M_Mdl_weave rm_Mdl_weave F 363 L (xi x3 :: xi x2 :: xi x1 :: xi x0 :: xr (some m) :: st) μ :=
  fun σ hM => c_Mdl_weave_363 (hc σ0 σ hM) hM.1.2.1 (by decide) (by decide) (by decide) (by decide) hst (fun y σ' hq => by obtain ⟨μ', h1, h2⟩ := hq; exact kk y μ' h2 σ' h1) (fun _ _ h => h.elim)
theorem R_weave_395 {Ω : Om} {σ0 : Sto} {m : Nat} {L : List PV} {μ : Mu} {Q : Int → Mu → Prop} {x : Int} (h : Q x μ) : Mw Ω σ0 m M_Mdl_weave rm_Mdl_weave (MQi Ω σ0 m rm_Mdl_weave Q) 395 L [xi x] μ := fun σ hM => r_Mdl_weave_395 ⟨_, rfl, μ, hM, h⟩ (by decide) (by decide)
theorem E_weave {Ω : Om} {m : Nat} {μ : Mu} {Q : Int → Mu → Prop} {v1 : Int} {v2 : Int} {v3 : Int} {v4 : Int} (h : ∀ σ0, Mw Ω σ0 m M_Mdl_weave rm_Mdl_weave (MQi Ω σ0 m rm_Mdl_weave Q) 0 [xr (some m), xi v1, xi v2, xi v3, xi v4, xu, xu, xu, xu, xu, xu, xu, xu, xu, xu] [] μ) : MMi Ω m M_Mdl_weave rm_Mdl_weave Q μ [xi v1, xi v2, xi v3, xi v4] := fun σ0 σ hM => e_Mdl_weave (h σ0 σ hM)
theorem B_layHunk_0 {Ω : Om} {σ0 : Sto} {m : Nat} {R : Room} {F : QF} {μ : Mu} {v1 : Int} {v2 : Int} {v3 : Int} {v4 : Int} {v5 : Int} {v6 : Int} {v7 : Int} (h : 0 ≤ ((21 * (mI μ 29)) + v1) ∧ ((21 * (mI μ 29)) + v1) < 210 ∧ Q32 v3 ∧ 0 ≤ ((21 * (mI μ 29)) + v1) ∧ ((21 * (mI μ 29)) + v1) < 210 ∧ Q32 v6 ∧ 0 ≤ (4 * ((21 * (mI μ 29)) + v1)) ∧ (4 * ((21 * (mI μ 29)) + v1)) < 840 ∧ Q32 (v4 - v3) ∧ 0 ≤ ((4 * ((21 * (mI μ 29)) + v1)) + 1) ∧ ((4 * ((21 * (mI μ 29)) + v1)) + 1) < 840 ∧ Q32 (v7 - v6) ∧ Mw Ω σ0 m M_Mdl_layHunk R F 60 [xr (some m), xi v1, xi v2, xi v3, xi v4, xi v5, xi v6, xi v7, xi ((21 * (mI μ 29)) + v1), xi 0] [] (wA (wA (wA (wA μ 18 ((21 * (mI μ 29)) + v1).toNat v3) 19 ((21 * (mI μ 29)) + v1).toNat v6) 20 (4 * ((21 * (mI μ 29)) + v1)).toNat (v4 - v3)) 20 ((4 * ((21 * (mI μ 29)) + v1)) + 1).toNat (v7 - v6))) : Mw Ω σ0 m M_Mdl_layHunk R F 0 [xr (some m), xi v1, xi v2, xi v3, xi v4, xi v5, xi v6, xi v7, xu, xu] [] μ := by
  intro σ hM
  obtain ⟨hS, hk, e⟩ := id hM
  subst e
  refine b_Mdl_layHunk_0 ?_
  refine ⟨hS.2.1, ?_⟩
  refine fun _ => ?_
  refine ⟨_, hS.r18, ?_⟩
  refine ⟨hS.k18, ?_⟩
  obtain ⟨o, h⟩ := h
  refine ⟨o, ?_⟩
  obtain ⟨o, h⟩ := h
  refine ⟨hS.b18 o, ?_⟩
  obtain ⟨o, h⟩ := h
  refine ⟨o, ?_⟩
  refine ⟨_, hS.r19, ?_⟩
  refine ⟨hS.k19, ?_⟩
  obtain ⟨o, h⟩ := h
  refine ⟨o, ?_⟩
  obtain ⟨o, h⟩ := h
  refine ⟨hS.b19 o, ?_⟩
  obtain ⟨o, h⟩ := h
  refine ⟨o, ?_⟩
  refine ⟨_, hS.r20, ?_⟩
  refine ⟨hS.k20, ?_⟩
  obtain ⟨o, h⟩ := h
  refine ⟨o, ?_⟩
  obtain ⟨o, h⟩ := h
  refine ⟨hS.b20 o, ?_⟩
  obtain ⟨o, h⟩ := h
  refine ⟨o, ?_⟩
  obtain ⟨o, h⟩ := h
  refine ⟨o, ?_⟩
  obtain ⟨o, h⟩ := h
  refine ⟨hS.b20 o, ?_⟩
  obtain ⟨o, h⟩ := h
  refine ⟨o, ?_⟩
  exact h _ (MR.vI (j := 20) (by decide) (MR.vI (j := 20) (by decide) (MR.vI (j := 19) (by decide) (MR.vI (j := 18) (by decide) hM))))
theorem B_layHunk_60 {Ω : Om} {σ0 : Sto} {m : Nat} {R : Room} {F : QF} {μ : Mu} {v1 : Int} {v2 : Int} {v3 : Int} {v4 : Int} {v5 : Int} {v6 : Int} {v7 : Int} {v8 : Int} {v9 : Int} (h : Q32 v9 ∧ (((20 : Int) ≤ v9 → Mw Ω σ0 m M_Mdl_layHunk R F 169 [xr (some m), xi v1, xi v2, xi v3, xi v4, xi v5, xi v6, xi v7, xi v8, xi v9] [] μ) ∧ (¬ (20 : Int) ≤ v9 → Q32 (v3 + v9) ∧ Q32 v4 ∧ ((v4 ≤ (v3 + v9) → 0 ≤ ((40 * v8) + v9) ∧ ((40 * v8) + v9) < 8400 ∧ Mw Ω σ0 m M_Mdl_layHunk R F 112 [xr (some m), xi v1, xi v2, xi v3, xi v4, xi v5, xi v6, xi v7, xi v8, xi v9] [] (wG μ 21 ((40 * v8) + v9).toNat 0)) ∧ (¬ v4 ≤ (v3 + v9) → 0 ≤ (((20 * v2) + v3) + v9) ∧ (((20 * v2) + v3) + v9) < 800 ∧ 0 ≤ (mA μ 5 (((20 * v2) + v3) + v9).toNat) ∧ (mA μ 5 (((20 * v2) + v3) + v9).toNat) < 16384 ∧ 0 ≤ ((40 * v8) + v9) ∧ ((40 * v8) + v9) < 8400 ∧ Mw Ω σ0 m M_Mdl_layHunk R F 112 [xr (some m), xi v1, xi v2, xi v3, xi v4, xi v5, xi v6, xi v7, xi v8, xi v9] [] (wG μ 21 ((40 * v8) + v9).toNat (mG μ 1 (mA μ 5 (((20 * v2) + v3) + v9).toNat).toNat))))))) : Mw Ω σ0 m M_Mdl_layHunk R F 60 [xr (some m), xi v1, xi v2, xi v3, xi v4, xi v5, xi v6, xi v7, xi v8, xi v9] [] μ := by
  intro σ hM
  obtain ⟨hS, hk, e⟩ := id hM
  subst e
  refine b_Mdl_layHunk_60 ?_
  obtain ⟨o, h⟩ := h
  refine ⟨o, ?_⟩
  refine ⟨fun c => ?_, fun c => ?_⟩
  · have h := h.1 c
    exact h _ hM
  · have h := h.2 c
    refine ⟨hS.2.1, ?_⟩
    refine ⟨_, hS.r21, ?_⟩
    obtain ⟨o, h⟩ := h
    refine ⟨o, ?_⟩
    obtain ⟨o, h⟩ := h
    refine ⟨o, ?_⟩
    refine ⟨fun c => ?_, fun c => ?_⟩
    · have h := h.1 c
      refine ⟨hS.k21, ?_⟩
      obtain ⟨o, h⟩ := h
      refine ⟨o, ?_⟩
      obtain ⟨o, h⟩ := h
      refine ⟨hS.b21 o, ?_⟩
      exact h _ (MR.vL (j := 21) (by decide) hM)
    · have h := h.2 c
      refine ⟨_, hS.r1, ?_⟩
      refine ⟨_, hS.r5, ?_⟩
      refine ⟨hS.k5, ?_⟩
      obtain ⟨o, h⟩ := h
      refine ⟨o, ?_⟩
      obtain ⟨o, h⟩ := h
      refine ⟨hS.b5 o, ?_⟩
      refine fun _ => ?_
      refine ⟨hS.k1, ?_⟩
      obtain ⟨o, h⟩ := h
      refine ⟨o, ?_⟩
      obtain ⟨o, h⟩ := h
      refine ⟨hS.b1 o, ?_⟩
      refine ⟨hS.k21, ?_⟩
      obtain ⟨o, h⟩ := h
      refine ⟨o, ?_⟩
      obtain ⟨o, h⟩ := h
      refine ⟨hS.b21 o, ?_⟩
      exact h _ (MR.vL (j := 21) (by decide) hM)
theorem B_layHunk_112 {Ω : Om} {σ0 : Sto} {m : Nat} {R : Room} {F : QF} {μ : Mu} {v1 : Int} {v2 : Int} {v3 : Int} {v4 : Int} {v5 : Int} {v6 : Int} {v7 : Int} {v8 : Int} {v9 : Int} (h : Q32 (v6 + v9) ∧ Q32 v7 ∧ ((v7 ≤ (v6 + v9) → 0 ≤ (((40 * v8) + 20) + v9) ∧ (((40 * v8) + 20) + v9) < 8400 ∧ Mw Ω σ0 m M_Mdl_layHunk R F 60 [xr (some m), xi v1, xi v2, xi v3, xi v4, xi v5, xi v6, xi v7, xi v8, xi (v9 + 1)] [] (wG μ 21 (((40 * v8) + 20) + v9).toNat 0)) ∧ (¬ v7 ≤ (v6 + v9) → 0 ≤ (((20 * v5) + v6) + v9) ∧ (((20 * v5) + v6) + v9) < 800 ∧ 0 ≤ (mA μ 5 (((20 * v5) + v6) + v9).toNat) ∧ (mA μ 5 (((20 * v5) + v6) + v9).toNat) < 16384 ∧ 0 ≤ (((40 * v8) + 20) + v9) ∧ (((40 * v8) + 20) + v9) < 8400 ∧ Mw Ω σ0 m M_Mdl_layHunk R F 60 [xr (some m), xi v1, xi v2, xi v3, xi v4, xi v5, xi v6, xi v7, xi v8, xi (v9 + 1)] [] (wG μ 21 (((40 * v8) + 20) + v9).toNat (mG μ 1 (mA μ 5 (((20 * v5) + v6) + v9).toNat).toNat))))) : Mw Ω σ0 m M_Mdl_layHunk R F 112 [xr (some m), xi v1, xi v2, xi v3, xi v4, xi v5, xi v6, xi v7, xi v8, xi v9] [] μ := by
  intro σ hM
  obtain ⟨hS, hk, e⟩ := id hM
  subst e
  refine b_Mdl_layHunk_112 ?_
  refine ⟨hS.2.1, ?_⟩
  refine ⟨_, hS.r21, ?_⟩
  obtain ⟨o, h⟩ := h
  refine ⟨o, ?_⟩
  obtain ⟨o, h⟩ := h
  refine ⟨o, ?_⟩
  refine ⟨fun c => ?_, fun c => ?_⟩
  · have h := h.1 c
    refine ⟨hS.k21, ?_⟩
    obtain ⟨o, h⟩ := h
    refine ⟨o, ?_⟩
    obtain ⟨o, h⟩ := h
    refine ⟨hS.b21 o, ?_⟩
    exact h _ (MR.vL (j := 21) (by decide) hM)
  · have h := h.2 c
    refine ⟨_, hS.r1, ?_⟩
    refine ⟨_, hS.r5, ?_⟩
    refine ⟨hS.k5, ?_⟩
    obtain ⟨o, h⟩ := h
    refine ⟨o, ?_⟩
    obtain ⟨o, h⟩ := h
    refine ⟨hS.b5 o, ?_⟩
    refine fun _ => ?_
    refine ⟨hS.k1, ?_⟩
    obtain ⟨o, h⟩ := h
    refine ⟨o, ?_⟩
    obtain ⟨o, h⟩ := h
    refine ⟨hS.b1 o, ?_⟩
    refine ⟨hS.k21, ?_⟩
    obtain ⟨o, h⟩ := h
    refine ⟨o, ?_⟩
    obtain ⟨o, h⟩ := h
    refine ⟨hS.b21 o, ?_⟩
    exact h _ (MR.vL (j := 21) (by decide) hM)
theorem R_layHunk_169 {Ω : Om} {σ0 : Sto} {m : Nat} {L : List PV} {μ : Mu} {Q : Mu → Prop} (h : Q μ) : Mw Ω σ0 m M_Mdl_layHunk rm_Mdl_layHunk (MQv Ω σ0 m rm_Mdl_layHunk Q) 169 L [] μ := fun σ hM => r_Mdl_layHunk_169 ⟨rfl, μ, hM, h⟩ (by decide) (by decide)
theorem E_layHunk {Ω : Om} {m : Nat} {μ : Mu} {Q : Mu → Prop} {v1 : Int} {v2 : Int} {v3 : Int} {v4 : Int} {v5 : Int} {v6 : Int} {v7 : Int} (h : ∀ σ0, Mw Ω σ0 m M_Mdl_layHunk rm_Mdl_layHunk (MQv Ω σ0 m rm_Mdl_layHunk Q) 0 [xr (some m), xi v1, xi v2, xi v3, xi v4, xi v5, xi v6, xi v7, xu, xu] [] μ) : MMv Ω m M_Mdl_layHunk rm_Mdl_layHunk Q μ [xi v1, xi v2, xi v3, xi v4, xi v5, xi v6, xi v7] := fun σ0 σ hM => e_Mdl_layHunk (h σ0 σ hM)
theorem B_exchange_0 {Ω : Om} {σ0 : Sto} {m : Nat} {R : Room} {F : QF} {μ : Mu} {v1 : Int} {v2 : Int} {v3 : Int} (h : 0 ≤ (4 * v1) ∧ (4 * v1) < 840 ∧ Q32 v3 ∧ ((v3 ≤ (0 : Int) → Mw Ω σ0 m M_Mdl_exchange R F 60 [xr (some m), xi v1, xi v2, xi v3, xi (v2 + (mA μ 20 (4 * v1).toNat)), xi (v2 + (mA μ 20 (4 * v1).toNat))] [] μ) ∧ (¬ v3 ≤ (0 : Int) → Mw Ω σ0 m M_Mdl_exchange R F 24 [xr (some m), xi v1, xi v2, xi v3, xi (v2 + (mA μ 20 (4 * v1).toNat)), xi ((mI μ 53) - 1)] [] μ))) : Mw Ω σ0 m M_Mdl_exchange R F 0 [xr (some m), xi v1, xi v2, xi v3, xu, xu] [] μ := by
  intro σ hM
  obtain ⟨hS, hk, e⟩ := id hM
  subst e
  refine b_Mdl_exchange_0 ?_
  refine ⟨hS.2.1, ?_⟩
  refine ⟨_, hS.r20, ?_⟩
  refine ⟨hS.k20, ?_⟩
  obtain ⟨o, h⟩ := h
  refine ⟨o, ?_⟩
  obtain ⟨o, h⟩ := h
  refine ⟨hS.b20 o, ?_⟩
  refine fun _ => ?_
  obtain ⟨o, h⟩ := h
  refine ⟨o, ?_⟩
  refine ⟨fun c => ?_, fun c => ?_⟩
  · have h := h.1 c
    exact h _ hM
  · have h := h.2 c
    refine fun _ => ?_
    exact h _ hM
theorem B_exchange_24 {Ω : Om} {σ0 : Sto} {m : Nat} {R : Room} {F : QF} {μ : Mu} {v1 : Int} {v2 : Int} {v3 : Int} {v4 : Int} {v5 : Int} (h : Q32 v5 ∧ Q32 v4 ∧ ((v5 < v4 → Q32 ((mI μ 53) + v3) ∧ Mw Ω σ0 m M_Mdl_exchange R F 104 [xr (some m), xi v1, xi v2, xi v3, xi v4, xi 0] [] (wI μ 53 ((mI μ 53) + v3))) ∧ (¬ v5 < v4 → 0 ≤ v5 ∧ v5 < 128 ∧ 0 ≤ (v5 + v3) ∧ (v5 + v3) < 128 ∧ Mw Ω σ0 m M_Mdl_exchange R F 24 [xr (some m), xi v1, xi v2, xi v3, xi v4, xi (v5 + (-1))] [] (wA μ 37 (v5 + v3).toNat (mA μ 37 (v5).toNat))))) : Mw Ω σ0 m M_Mdl_exchange R F 24 [xr (some m), xi v1, xi v2, xi v3, xi v4, xi v5] [] μ := by
  intro σ hM
  obtain ⟨hS, hk, e⟩ := id hM
  subst e
  refine b_Mdl_exchange_24 ?_
  obtain ⟨o, h⟩ := h
  refine ⟨o, ?_⟩
  obtain ⟨o, h⟩ := h
  refine ⟨o, ?_⟩
  refine ⟨fun c => ?_, fun c => ?_⟩
  · have h := h.1 c
    refine ⟨hS.2.1, ?_⟩
    refine fun _ => ?_
    obtain ⟨o, h⟩ := h
    refine ⟨o, ?_⟩
    exact h _ (MR.uI (f := 53) hM)
  · have h := h.2 c
    refine ⟨hS.2.1, ?_⟩
    refine ⟨_, hS.r37, ?_⟩
    refine ⟨hS.k37, ?_⟩
    obtain ⟨o, h⟩ := h
    refine ⟨o, ?_⟩
    obtain ⟨o, h⟩ := h
    refine ⟨hS.b37 o, ?_⟩
    refine fun _ => ?_
    obtain ⟨o, h⟩ := h
    refine ⟨o, ?_⟩
    obtain ⟨o, h⟩ := h
    refine ⟨hS.b37 o, ?_⟩
    exact h _ (MR.vI (j := 37) (by decide) hM)
theorem B_exchange_104 {Ω : Om} {σ0 : Sto} {m : Nat} {R : Room} {F : QF} {μ : Mu} {v1 : Int} {v2 : Int} {v3 : Int} {v4 : Int} {v5 : Int} (h : 0 ≤ ((4 * v1) + 1) ∧ ((4 * v1) + 1) < 840 ∧ Q32 v5 ∧ (((mA μ 20 ((4 * v1) + 1).toNat) ≤ v5 → Mw Ω σ0 m M_Mdl_exchange R F 153 [xr (some m), xi v1, xi v2, xi v3, xi v4, xi v5] [] μ) ∧ (¬ (mA μ 20 ((4 * v1) + 1).toNat) ≤ v5 → 0 ≤ (((40 * v1) + 20) + v5) ∧ (((40 * v1) + 20) + v5) < 8400 ∧ Mw Ω σ0 m M_Mdl_exchange R F 143 [xr (some m), xi v1, xi v2, xi v3, xi v4, xi v5] [xl (mG μ 21 (((40 * v1) + 20) + v5).toNat), xr (some m), xi (v2 + v5), xr (some (m + 37))] μ))) : Mw Ω σ0 m M_Mdl_exchange R F 104 [xr (some m), xi v1, xi v2, xi v3, xi v4, xi v5] [] μ := by
  intro σ hM
  obtain ⟨hS, hk, e⟩ := id hM
  subst e
  refine b_Mdl_exchange_104 ?_
  refine ⟨hS.2.1, ?_⟩
  refine ⟨_, hS.r20, ?_⟩
  refine ⟨hS.k20, ?_⟩
  obtain ⟨o, h⟩ := h
  refine ⟨o, ?_⟩
  obtain ⟨o, h⟩ := h
  refine ⟨hS.b20 o, ?_⟩
  refine fun _ => ?_
  obtain ⟨o, h⟩ := h
  refine ⟨o, ?_⟩
  refine ⟨fun c => ?_, fun c => ?_⟩
  · have h := h.1 c
    exact h _ hM
  · have h := h.2 c
    refine ⟨_, hS.r37, ?_⟩
    refine ⟨_, hS.r21, ?_⟩
    refine ⟨hS.k21, ?_⟩
    obtain ⟨o, h⟩ := h
    refine ⟨o, ?_⟩
    obtain ⟨o, h⟩ := h
    refine ⟨hS.b21 o, ?_⟩
    exact h _ hM
theorem B_exchange_146 {Ω : Om} {σ0 : Sto} {m : Nat} {R : Room} {F : QF} {μ : Mu} {v1 : Int} {v2 : Int} {v3 : Int} {v4 : Int} {v5 : Int} {s1 : Int} {s2 : Int} (h : 0 ≤ s1 ∧ s1 < 128 ∧ Q32 s2 ∧ Mw Ω σ0 m M_Mdl_exchange R F 104 [xr (some m), xi v1, xi v2, xi v3, xi v4, xi (v5 + 1)] [] (wA μ 37 (s1).toNat s2)) : Mw Ω σ0 m M_Mdl_exchange R F 146 [xr (some m), xi v1, xi v2, xi v3, xi v4, xi v5] [xi s2, xi s1, xr (some (m + 37))] μ := by
  intro σ hM
  obtain ⟨hS, hk, e⟩ := id hM
  subst e
  refine b_Mdl_exchange_146 ?_
  refine ⟨hS.k37, ?_⟩
  obtain ⟨o, h⟩ := h
  refine ⟨o, ?_⟩
  obtain ⟨o, h⟩ := h
  refine ⟨hS.b37 o, ?_⟩
  obtain ⟨o, h⟩ := h
  refine ⟨o, ?_⟩
  exact h _ (MR.vI (j := 37) (by decide) hM)
theorem B_exchange_60 {Ω : Om} {σ0 : Sto} {m : Nat} {R : Room} {F : QF} {μ : Mu} {v1 : Int} {v2 : Int} {v3 : Int} {v4 : Int} {v5 : Int} (h : Q32 v5 ∧ (((mI μ 53) ≤ v5 → Q32 ((mI μ 53) + v3) ∧ Mw Ω σ0 m M_Mdl_exchange R F 104 [xr (some m), xi v1, xi v2, xi v3, xi v4, xi 0] [] (wI μ 53 ((mI μ 53) + v3))) ∧ (¬ (mI μ 53) ≤ v5 → 0 ≤ v5 ∧ v5 < 128 ∧ 0 ≤ (v5 + v3) ∧ (v5 + v3) < 128 ∧ Mw Ω σ0 m M_Mdl_exchange R F 60 [xr (some m), xi v1, xi v2, xi v3, xi v4, xi (v5 + 1)] [] (wA μ 37 (v5 + v3).toNat (mA μ 37 (v5).toNat))))) : Mw Ω σ0 m M_Mdl_exchange R F 60 [xr (some m), xi v1, xi v2, xi v3, xi v4, xi v5] [] μ := by
  intro σ hM
  obtain ⟨hS, hk, e⟩ := id hM
  subst e
  refine b_Mdl_exchange_60 ?_
  refine ⟨hS.2.1, ?_⟩
  refine fun _ => ?_
  obtain ⟨o, h⟩ := h
  refine ⟨o, ?_⟩
  refine ⟨fun c => ?_, fun c => ?_⟩
  · have h := h.1 c
    refine fun _ => ?_
    obtain ⟨o, h⟩ := h
    refine ⟨o, ?_⟩
    exact h _ (MR.uI (f := 53) hM)
  · have h := h.2 c
    refine ⟨_, hS.r37, ?_⟩
    refine ⟨hS.k37, ?_⟩
    obtain ⟨o, h⟩ := h
    refine ⟨o, ?_⟩
    obtain ⟨o, h⟩ := h
    refine ⟨hS.b37 o, ?_⟩
    refine fun _ => ?_
    obtain ⟨o, h⟩ := h
    refine ⟨o, ?_⟩
    obtain ⟨o, h⟩ := h
    refine ⟨hS.b37 o, ?_⟩
    exact h _ (MR.vI (j := 37) (by decide) hM)
theorem C_exchange_143 {Ω : Om} {σ0 : Sto} {m : Nat} {F : QF} {L st : List PV} {μ : Mu} {Q : Int → Mu → Prop} {x0 : Int64} (hc : MMi Ω m M_Mdl_putIn rm_Mdl_putIn Q μ [xl x0]) (kk : ∀ y μ', Q y μ' → Mw Ω σ0 m M_Mdl_exchange rm_Mdl_exchange F 146 L (xi y :: st) μ') (hst : (st.map catP).sum ≤ 8 := by exact Nat.le_of_ble_eq_true rfl) : Mw Ω σ0 m M_Mdl_exchange rm_Mdl_exchange F 143 L (xl x0 :: xr (some m) :: st) μ :=
  fun σ hM => c_Mdl_exchange_143 (hc σ0 σ hM) hM.1.2.1 (by decide) (by decide) (by decide) (by decide) hst (fun y σ' hq => by obtain ⟨μ', h1, h2⟩ := hq; exact kk y μ' h2 σ' h1) (fun _ _ h => h.elim)
theorem R_exchange_153 {Ω : Om} {σ0 : Sto} {m : Nat} {L : List PV} {μ : Mu} {Q : Mu → Prop} (h : Q μ) : Mw Ω σ0 m M_Mdl_exchange rm_Mdl_exchange (MQv Ω σ0 m rm_Mdl_exchange Q) 153 L [] μ := fun σ hM => r_Mdl_exchange_153 ⟨rfl, μ, hM, h⟩ (by decide) (by decide)
theorem E_exchange {Ω : Om} {m : Nat} {μ : Mu} {Q : Mu → Prop} {v1 : Int} {v2 : Int} {v3 : Int} (h : ∀ σ0, Mw Ω σ0 m M_Mdl_exchange rm_Mdl_exchange (MQv Ω σ0 m rm_Mdl_exchange Q) 0 [xr (some m), xi v1, xi v2, xi v3, xu, xu] [] μ) : MMv Ω m M_Mdl_exchange rm_Mdl_exchange Q μ [xi v1, xi v2, xi v3] := fun σ0 σ hM => e_Mdl_exchange (h σ0 σ hM)
theorem B_begin_0 {Ω : Om} {σ0 : Sto} {m : Nat} {R : Room} {F : QF} {μ : Mu} {v1 : Int} {v2 : Int} (h : Mw Ω σ0 m M_Mdl_begin R F 3 [xr (some m), xi v1, xi v2, xu] [xi v1, xr (some m), xr (some m)] μ) : Mw Ω σ0 m M_Mdl_begin R F 0 [xr (some m), xi v1, xi v2, xu] [] μ := by
  intro σ hM
  obtain ⟨hS, hk, e⟩ := id hM
  subst e
  refine b_Mdl_begin_0 ?_
  exact h _ hM
theorem B_begin_6 {Ω : Om} {σ0 : Sto} {m : Nat} {R : Room} {F : QF} {μ : Mu} {v1 : Int} {v2 : Int} {s1 : Int} (h : Q32 s1 ∧ ((s1 = (0 : Int) → Mw Ω σ0 m M_Mdl_begin R F 21 [xr (some m), xi v1, xi v2, xu] [xi 1, xr (some m)] μ) ∧ (¬ s1 = (0 : Int) → Mw Ω σ0 m M_Mdl_begin R F 10 [xr (some m), xi v1, xi v2, xu] [xi v2, xr (some m)] μ))) : Mw Ω σ0 m M_Mdl_begin R F 6 [xr (some m), xi v1, xi v2, xu] [xi s1, xr (some m)] μ := by
  intro σ hM
  obtain ⟨hS, hk, e⟩ := id hM
  subst e
  refine b_Mdl_begin_6 ?_
  obtain ⟨o, h⟩ := h
  refine ⟨o, ?_⟩
  refine ⟨fun c => ?_, fun c => ?_⟩
  · have h := h.1 c
    exact h _ hM
  · have h := h.2 c
    exact h _ hM
theorem B_begin_13 {Ω : Om} {σ0 : Sto} {m : Nat} {R : Room} {F : QF} {μ : Mu} {v1 : Int} {v2 : Int} {s1 : Int} (h : Q32 s1 ∧ ((s1 = (0 : Int) → Mw Ω σ0 m M_Mdl_begin R F 21 [xr (some m), xi v1, xi v2, xu] [xi 1, xr (some m)] μ) ∧ (¬ s1 = (0 : Int) → Mw Ω σ0 m M_Mdl_begin R F 21 [xr (some m), xi v1, xi v2, xu] [xi 0, xr (some m)] μ))) : Mw Ω σ0 m M_Mdl_begin R F 13 [xr (some m), xi v1, xi v2, xu] [xi s1, xr (some m)] μ := by
  intro σ hM
  obtain ⟨hS, hk, e⟩ := id hM
  subst e
  refine b_Mdl_begin_13 ?_
  obtain ⟨o, h⟩ := h
  refine ⟨o, ?_⟩
  refine ⟨fun c => ?_, fun c => ?_⟩
  · have h := h.1 c
    exact h _ hM
  · have h := h.2 c
    exact h _ hM
theorem B_begin_24 {Ω : Om} {σ0 : Sto} {m : Nat} {R : Room} {F : QF} {μ : Mu} {v1 : Int} {v2 : Int} {s0 : Int} (h : Q32 s0 ∧ ((s0 = (0 : Int) → Q32 v1 ∧ Q32 v2 ∧ 0 ≤ v1 ∧ v1 < 40 ∧ Mw Ω σ0 m M_Mdl_begin R F 76 [xr (some m), xi v1, xi v2, xi 0] [] (wI (wI (wI (wI (wI (wI (wI (wI μ 11 1) 12 v1) 13 (-1)) 14 v2) 17 0) 18 0) 21 0) 15 (mA μ 4 (v1).toNat))) ∧ (¬ s0 = (0 : Int) → Mw Ω σ0 m M_Mdl_begin R F 28 [xr (some m), xi v1, xi v2, xu] [xi 0] μ))) : Mw Ω σ0 m M_Mdl_begin R F 24 [xr (some m), xi v1, xi v2, xu] [xi s0] μ := by
  intro σ hM
  obtain ⟨hS, hk, e⟩ := id hM
  subst e
  refine b_Mdl_begin_24 ?_
  obtain ⟨o, h⟩ := h
  refine ⟨o, ?_⟩
  refine ⟨fun c => ?_, fun c => ?_⟩
  · have h := h.1 c
    refine ⟨hS.2.1, ?_⟩
    obtain ⟨o, h⟩ := h
    refine ⟨o, ?_⟩
    obtain ⟨o, h⟩ := h
    refine ⟨o, ?_⟩
    refine ⟨_, hS.r4, ?_⟩
    refine ⟨hS.k4, ?_⟩
    obtain ⟨o, h⟩ := h
    refine ⟨o, ?_⟩
    obtain ⟨o, h⟩ := h
    refine ⟨hS.b4 o, ?_⟩
    refine fun _ => ?_
    exact h _ (MR.uI (f := 15) (MR.uI (f := 21) (MR.uI (f := 18) (MR.uI (f := 17) (MR.uI (f := 14) (MR.uI (f := 13) (MR.uI (f := 12) (MR.uI (f := 11) hM))))))))
  · have h := h.2 c
    exact h _ hM
theorem B_begin_76 {Ω : Om} {σ0 : Sto} {m : Nat} {R : Room} {F : QF} {μ : Mu} {v1 : Int} {v2 : Int} {v3 : Int} (h : Q32 v3 ∧ (((mI μ 15) ≤ v3 → Mw Ω σ0 m M_Mdl_begin R F 111 [xr (some m), xi v1, xi v2, xi v3] [xi (mI μ 15)] μ) ∧ (¬ (mI μ 15) ≤ v3 → 0 ≤ ((20 * v1) + v3) ∧ ((20 * v1) + v3) < 800 ∧ 0 ≤ v3 ∧ v3 < 64 ∧ Mw Ω σ0 m M_Mdl_begin R F 76 [xr (some m), xi v1, xi v2, xi (v3 + 1)] [] (wA μ 9 (v3).toNat (mA μ 5 ((20 * v1) + v3).toNat))))) : Mw Ω σ0 m M_Mdl_begin R F 76 [xr (some m), xi v1, xi v2, xi v3] [] μ := by
  intro σ hM
  obtain ⟨hS, hk, e⟩ := id hM
  subst e
  refine b_Mdl_begin_76 ?_
  refine ⟨hS.2.1, ?_⟩
  refine fun _ => ?_
  obtain ⟨o, h⟩ := h
  refine ⟨o, ?_⟩
  refine ⟨fun c => ?_, fun c => ?_⟩
  · have h := h.1 c
    refine fun _ => ?_
    exact h _ hM
  · have h := h.2 c
    refine ⟨_, hS.r9, ?_⟩
    refine ⟨_, hS.r5, ?_⟩
    refine ⟨hS.k5, ?_⟩
    obtain ⟨o, h⟩ := h
    refine ⟨o, ?_⟩
    obtain ⟨o, h⟩ := h
    refine ⟨hS.b5 o, ?_⟩
    refine fun _ => ?_
    refine ⟨hS.k9, ?_⟩
    obtain ⟨o, h⟩ := h
    refine ⟨o, ?_⟩
    obtain ⟨o, h⟩ := h
    refine ⟨hS.b9 o, ?_⟩
    exact h _ (MR.vI (j := 9) (by decide) hM)
theorem C_begin_3 {Ω : Om} {σ0 : Sto} {m : Nat} {F : QF} {L st : List PV} {μ : Mu} {Q : Int → Mu → Prop} {x0 : Int} (hc : MMi Ω m M_Mdl_isVersion rm_Mdl_isVersion Q μ [xi x0]) (kk : ∀ y μ', Q y μ' → Mw Ω σ0 m M_Mdl_begin rm_Mdl_begin F 6 L (xi y :: st) μ') (hst : (st.map catP).sum ≤ 8 := by exact Nat.le_of_ble_eq_true rfl) : Mw Ω σ0 m M_Mdl_begin rm_Mdl_begin F 3 L (xi x0 :: xr (some m) :: st) μ :=
  fun σ hM => c_Mdl_begin_3 (hc σ0 σ hM) hM.1.2.1 (by decide) (by decide) (by decide) (by decide) hst (fun y σ' hq => by obtain ⟨μ', h1, h2⟩ := hq; exact kk y μ' h2 σ' h1) (fun _ _ h => h.elim)
theorem C_begin_10 {Ω : Om} {σ0 : Sto} {m : Nat} {F : QF} {L st : List PV} {μ : Mu} {P : Int → Prop} {x0 : Int} (hc : MPi Ω M_Mdl_isPerson rm_Mdl_isPerson P [xi x0]) (kk : ∀ y , P y  → Mw Ω σ0 m M_Mdl_begin rm_Mdl_begin F 13 L (xi y :: st) μ) (hst : (st.map catP).sum ≤ 8 := by exact Nat.le_of_ble_eq_true rfl) : Mw Ω σ0 m M_Mdl_begin rm_Mdl_begin F 10 L (xi x0 :: st) μ :=
  fun σ hM => c_Mdl_begin_10 (hc σ) (by decide) (by decide) (by decide) (by decide) hst (fun y σ' hq => by obtain ⟨rfl, h2⟩ := hq; exact kk y h2 σ' hM) (fun _ _ h => h.elim)
theorem C_begin_21 {Ω : Om} {σ0 : Sto} {m : Nat} {F : QF} {L st : List PV} {μ : Mu} {Q : Int → Mu → Prop} {x0 : Int} (hc : MMi Ω m M_Mdl_refused rm_Mdl_refused Q μ [xi x0]) (kk : ∀ y μ', Q y μ' → Mw Ω σ0 m M_Mdl_begin rm_Mdl_begin F 24 L (xi y :: st) μ') (hst : (st.map catP).sum ≤ 8 := by exact Nat.le_of_ble_eq_true rfl) : Mw Ω σ0 m M_Mdl_begin rm_Mdl_begin F 21 L (xi x0 :: xr (some m) :: st) μ :=
  fun σ hM => c_Mdl_begin_21 (hc σ0 σ hM) hM.1.2.1 (by decide) (by decide) (by decide) (by decide) hst (fun y σ' hq => by obtain ⟨μ', h1, h2⟩ := hq; exact kk y μ' h2 σ' h1) (fun _ _ h => h.elim)
theorem R_begin_28 {Ω : Om} {σ0 : Sto} {m : Nat} {L : List PV} {μ : Mu} {Q : Int → Mu → Prop} {x : Int} (h : Q x μ) : Mw Ω σ0 m M_Mdl_begin rm_Mdl_begin (MQi Ω σ0 m rm_Mdl_begin Q) 28 L [xi x] μ := fun σ hM => r_Mdl_begin_28 ⟨_, rfl, μ, hM, h⟩ (by decide) (by decide)
theorem R_begin_111 {Ω : Om} {σ0 : Sto} {m : Nat} {L : List PV} {μ : Mu} {Q : Int → Mu → Prop} {x : Int} (h : Q x μ) : Mw Ω σ0 m M_Mdl_begin rm_Mdl_begin (MQi Ω σ0 m rm_Mdl_begin Q) 111 L [xi x] μ := fun σ hM => r_Mdl_begin_111 ⟨_, rfl, μ, hM, h⟩ (by decide) (by decide)
theorem E_begin {Ω : Om} {m : Nat} {μ : Mu} {Q : Int → Mu → Prop} {v1 : Int} {v2 : Int} (h : ∀ σ0, Mw Ω σ0 m M_Mdl_begin rm_Mdl_begin (MQi Ω σ0 m rm_Mdl_begin Q) 0 [xr (some m), xi v1, xi v2, xu] [] μ) : MMi Ω m M_Mdl_begin rm_Mdl_begin Q μ [xi v1, xi v2] := fun σ0 σ hM => e_Mdl_begin (h σ0 σ hM)
theorem B_hunk_0 {Ω : Om} {σ0 : Sto} {m : Nat} {R : Room} {F : QF} {μ : Mu} {v1 : Int} {v2 : Int} {v3 : Int} (h : Mw Ω σ0 m M_Mdl_hunk R F 2 [xr (some m), xi v1, xi v2, xi v3, xu, xu] [xi v1, xr (some m)] μ) : Mw Ω σ0 m M_Mdl_hunk R F 0 [xr (some m), xi v1, xi v2, xi v3, xu, xu] [] μ := by
  intro σ hM
  obtain ⟨hS, hk, e⟩ := id hM
  subst e
  refine b_Mdl_hunk_0 ?_
  exact h _ hM
theorem B_hunk_5 {Ω : Om} {σ0 : Sto} {m : Nat} {R : Room} {F : QF} {μ : Mu} {v1 : Int} {v2 : Int} {v3 : Int} {s0 : Int} (h : Q32 s0 ∧ ((s0 = (0 : Int) → Mw Ω σ0 m M_Mdl_hunk R F 55 [xr (some m), xi v1, xi v2, xi v3, xi 0, xu] [xi 1, xr (some m)] μ) ∧ (¬ s0 = (0 : Int) → 0 ≤ v1 ∧ v1 < 10 ∧ Mw Ω σ0 m M_Mdl_hunk R F 18 [xr (some m), xi v1, xi v2, xi v3, xu, xu] [xi ((mA μ 17 (v1).toNat) - 1), xi 0, xi v2] μ))) : Mw Ω σ0 m M_Mdl_hunk R F 5 [xr (some m), xi v1, xi v2, xi v3, xu, xu] [xi s0] μ := by
  intro σ hM
  obtain ⟨hS, hk, e⟩ := id hM
  subst e
  refine b_Mdl_hunk_5 ?_
  obtain ⟨o, h⟩ := h
  refine ⟨o, ?_⟩
  refine ⟨fun c => ?_, fun c => ?_⟩
  · have h := h.1 c
    exact h _ hM
  · have h := h.2 c
    refine ⟨hS.2.1, ?_⟩
    refine ⟨_, hS.r17, ?_⟩
    refine ⟨hS.k17, ?_⟩
    obtain ⟨o, h⟩ := h
    refine ⟨o, ?_⟩
    obtain ⟨o, h⟩ := h
    refine ⟨hS.b17 o, ?_⟩
    refine fun _ => ?_
    exact h _ hM
theorem B_hunk_21 {Ω : Om} {σ0 : Sto} {m : Nat} {R : Room} {F : QF} {μ : Mu} {v1 : Int} {v2 : Int} {v3 : Int} {s0 : Int} (h : Q32 s0 ∧ ((s0 = (0 : Int) → Mw Ω σ0 m M_Mdl_hunk R F 55 [xr (some m), xi v1, xi v2, xi v3, xi 0, xu] [xi 1, xr (some m)] μ) ∧ (¬ s0 = (0 : Int) → Mw Ω σ0 m M_Mdl_hunk R F 44 [xr (some m), xi v1, xi v2, xi v3, xi 1, xu] [xi 4, xi 0, xi v3, xr (some m)] μ))) : Mw Ω σ0 m M_Mdl_hunk R F 21 [xr (some m), xi v1, xi v2, xi v3, xu, xu] [xi s0] μ := by
  intro σ hM
  obtain ⟨hS, hk, e⟩ := id hM
  subst e
  refine b_Mdl_hunk_21 ?_
  obtain ⟨o, h⟩ := h
  refine ⟨o, ?_⟩
  refine ⟨fun c => ?_, fun c => ?_⟩
  · have h := h.1 c
    exact h _ hM
  · have h := h.2 c
    exact h _ hM
theorem B_hunk_47 {Ω : Om} {σ0 : Sto} {m : Nat} {R : Room} {F : QF} {μ : Mu} {v1 : Int} {v2 : Int} {v3 : Int} {v4 : Int} {s1 : Int} (h : Q32 s1 ∧ ((s1 = (0 : Int) → Mw Ω σ0 m M_Mdl_hunk R F 55 [xr (some m), xi v1, xi v2, xi v3, xi v4, xu] [xi 2, xr (some m)] μ) ∧ (¬ s1 = (0 : Int) → Mw Ω σ0 m M_Mdl_hunk R F 55 [xr (some m), xi v1, xi v2, xi v3, xi v4, xu] [xi 0, xr (some m)] μ))) : Mw Ω σ0 m M_Mdl_hunk R F 47 [xr (some m), xi v1, xi v2, xi v3, xi v4, xu] [xi s1, xr (some m)] μ := by
  intro σ hM
  obtain ⟨hS, hk, e⟩ := id hM
  subst e
  refine b_Mdl_hunk_47 ?_
  obtain ⟨o, h⟩ := h
  refine ⟨o, ?_⟩
  refine ⟨fun c => ?_, fun c => ?_⟩
  · have h := h.1 c
    exact h _ hM
  · have h := h.2 c
    exact h _ hM
theorem B_hunk_58 {Ω : Om} {σ0 : Sto} {m : Nat} {R : Room} {F : QF} {μ : Mu} {v1 : Int} {v2 : Int} {v3 : Int} {v4 : Int} {s0 : Int} (h : Q32 s0 ∧ ((s0 = (0 : Int) → Q32 v3 ∧ ((¬ v3 = (0 : Int) → 0 ≤ (((4 * ((21 * v1) + v2)) + v3) - 1) ∧ (((4 * ((21 * v1) + v2)) + v3) - 1) < 840 ∧ Mw Ω σ0 m M_Mdl_hunk R F 98 [xr (some m), xi v1, xi v2, xi v3, xi v4, xi ((21 * v1) + v2)] [xi (mA μ 20 (((4 * ((21 * v1) + v2)) + v3) - 1).toNat)] μ) ∧ (v3 = (0 : Int) → 0 ≤ ((21 * v1) + v2) ∧ ((21 * v1) + v2) < 210 ∧ Mw Ω σ0 m M_Mdl_hunk R F 98 [xr (some m), xi v1, xi v2, xi v3, xi v4, xi ((21 * v1) + v2)] [xi (mA μ 18 ((21 * v1) + v2).toNat)] μ))) ∧ (¬ s0 = (0 : Int) → Mw Ω σ0 m M_Mdl_hunk R F 62 [xr (some m), xi v1, xi v2, xi v3, xi v4, xu] [xi 0] μ))) : Mw Ω σ0 m M_Mdl_hunk R F 58 [xr (some m), xi v1, xi v2, xi v3, xi v4, xu] [xi s0] μ := by
  intro σ hM
  obtain ⟨hS, hk, e⟩ := id hM
  subst e
  refine b_Mdl_hunk_58 ?_
  obtain ⟨o, h⟩ := h
  refine ⟨o, ?_⟩
  refine ⟨fun c => ?_, fun c => ?_⟩
  · have h := h.1 c
    obtain ⟨o, h⟩ := h
    refine ⟨o, ?_⟩
    refine ⟨fun c => ?_, fun c => ?_⟩
    · have h := h.1 c
      refine ⟨hS.2.1, ?_⟩
      refine ⟨_, hS.r20, ?_⟩
      refine ⟨hS.k20, ?_⟩
      obtain ⟨o, h⟩ := h
      refine ⟨o, ?_⟩
      obtain ⟨o, h⟩ := h
      refine ⟨hS.b20 o, ?_⟩
      refine fun _ => ?_
      exact h _ hM
    · have h := h.2 c
      refine ⟨hS.2.1, ?_⟩
      refine ⟨_, hS.r18, ?_⟩
      refine ⟨hS.k18, ?_⟩
      obtain ⟨o, h⟩ := h
      refine ⟨o, ?_⟩
      obtain ⟨o, h⟩ := h
      refine ⟨hS.b18 o, ?_⟩
      refine fun _ => ?_
      exact h _ hM
  · have h := h.2 c
    exact h _ hM
theorem C_hunk_2 {Ω : Om} {σ0 : Sto} {m : Nat} {F : QF} {L st : List PV} {μ : Mu} {Q : Int → Mu → Prop} {x0 : Int} (hc : MMi Ω m M_Mdl_isPatch rm_Mdl_isPatch Q μ [xi x0]) (kk : ∀ y μ', Q y μ' → Mw Ω σ0 m M_Mdl_hunk rm_Mdl_hunk F 5 L (xi y :: st) μ') (hst : (st.map catP).sum ≤ 8 := by exact Nat.le_of_ble_eq_true rfl) : Mw Ω σ0 m M_Mdl_hunk rm_Mdl_hunk F 2 L (xi x0 :: xr (some m) :: st) μ :=
  fun σ hM => c_Mdl_hunk_2 (hc σ0 σ hM) hM.1.2.1 (by decide) (by decide) (by decide) (by decide) hst (fun y σ' hq => by obtain ⟨μ', h1, h2⟩ := hq; exact kk y μ' h2 σ' h1) (fun _ _ h => h.elim)
theorem C_hunk_18 {Ω : Om} {σ0 : Sto} {m : Nat} {F : QF} {L st : List PV} {μ : Mu} {P : Int → Prop} {x0 : Int} {x1 : Int} {x2 : Int} (hc : MPi Ω M_Mdl_in rm_Mdl_in P [xi x0, xi x1, xi x2]) (kk : ∀ y , P y  → Mw Ω σ0 m M_Mdl_hunk rm_Mdl_hunk F 21 L (xi y :: st) μ) (hst : (st.map catP).sum ≤ 8 := by exact Nat.le_of_ble_eq_true rfl) : Mw Ω σ0 m M_Mdl_hunk rm_Mdl_hunk F 18 L (xi x2 :: xi x1 :: xi x0 :: st) μ :=
  fun σ hM => c_Mdl_hunk_18 (hc σ) (by decide) (by decide) (by decide) (by decide) hst (fun y σ' hq => by obtain ⟨rfl, h2⟩ := hq; exact kk y h2 σ' hM) (fun _ _ h => h.elim)
theorem C_hunk_44 {Ω : Om} {σ0 : Sto} {m : Nat} {F : QF} {L st : List PV} {μ : Mu} {P : Int → Prop} {x0 : Int} {x1 : Int} {x2 : Int} (hc : MPi Ω M_Mdl_in rm_Mdl_in P [xi x0, xi x1, xi x2]) (kk : ∀ y , P y  → Mw Ω σ0 m M_Mdl_hunk rm_Mdl_hunk F 47 L (xi y :: st) μ) (hst : (st.map catP).sum ≤ 8 := by exact Nat.le_of_ble_eq_true rfl) : Mw Ω σ0 m M_Mdl_hunk rm_Mdl_hunk F 44 L (xi x2 :: xi x1 :: xi x0 :: st) μ :=
  fun σ hM => c_Mdl_hunk_44 (hc σ) (by decide) (by decide) (by decide) (by decide) hst (fun y σ' hq => by obtain ⟨rfl, h2⟩ := hq; exact kk y h2 σ' hM) (fun _ _ h => h.elim)
theorem C_hunk_55 {Ω : Om} {σ0 : Sto} {m : Nat} {F : QF} {L st : List PV} {μ : Mu} {Q : Int → Mu → Prop} {x0 : Int} (hc : MMi Ω m M_Mdl_refused rm_Mdl_refused Q μ [xi x0]) (kk : ∀ y μ', Q y μ' → Mw Ω σ0 m M_Mdl_hunk rm_Mdl_hunk F 58 L (xi y :: st) μ') (hst : (st.map catP).sum ≤ 8 := by exact Nat.le_of_ble_eq_true rfl) : Mw Ω σ0 m M_Mdl_hunk rm_Mdl_hunk F 55 L (xi x0 :: xr (some m) :: st) μ :=
  fun σ hM => c_Mdl_hunk_55 (hc σ0 σ hM) hM.1.2.1 (by decide) (by decide) (by decide) (by decide) hst (fun y σ' hq => by obtain ⟨μ', h1, h2⟩ := hq; exact kk y μ' h2 σ' h1) (fun _ _ h => h.elim)
theorem R_hunk_62 {Ω : Om} {σ0 : Sto} {m : Nat} {L : List PV} {μ : Mu} {Q : Int → Mu → Prop} {x : Int} (h : Q x μ) : Mw Ω σ0 m M_Mdl_hunk rm_Mdl_hunk (MQi Ω σ0 m rm_Mdl_hunk Q) 62 L [xi x] μ := fun σ hM => r_Mdl_hunk_62 ⟨_, rfl, μ, hM, h⟩ (by decide) (by decide)
theorem R_hunk_98 {Ω : Om} {σ0 : Sto} {m : Nat} {L : List PV} {μ : Mu} {Q : Int → Mu → Prop} {x : Int} (h : Q x μ) : Mw Ω σ0 m M_Mdl_hunk rm_Mdl_hunk (MQi Ω σ0 m rm_Mdl_hunk Q) 98 L [xi x] μ := fun σ hM => r_Mdl_hunk_98 ⟨_, rfl, μ, hM, h⟩ (by decide) (by decide)
theorem E_hunk {Ω : Om} {m : Nat} {μ : Mu} {Q : Int → Mu → Prop} {v1 : Int} {v2 : Int} {v3 : Int} (h : ∀ σ0, Mw Ω σ0 m M_Mdl_hunk rm_Mdl_hunk (MQi Ω σ0 m rm_Mdl_hunk Q) 0 [xr (some m), xi v1, xi v2, xi v3, xu, xu] [] μ) : MMi Ω m M_Mdl_hunk rm_Mdl_hunk Q μ [xi v1, xi v2, xi v3] := fun σ0 σ hM => e_Mdl_hunk (h σ0 σ hM)
theorem B_draftLine_0 {Ω : Om} {σ0 : Sto} {m : Nat} {R : Room} {F : QF} {μ : Mu} {v1 : Int} (h : Mw Ω σ0 m M_Mdl_draftLine R F 3 [xr (some m), xi v1, xu, xu, xu, xu] [xi v1, xr (some m), xr (some m)] μ) : Mw Ω σ0 m M_Mdl_draftLine R F 0 [xr (some m), xi v1, xu, xu, xu, xu] [] μ := by
  intro σ hM
  obtain ⟨hS, hk, e⟩ := id hM
  subst e
  refine b_Mdl_draftLine_0 ?_
  exact h _ hM
theorem B_draftLine_6 {Ω : Om} {σ0 : Sto} {m : Nat} {R : Room} {F : QF} {μ : Mu} {v1 : Int} {s1 : Int} (h : Q32 s1 ∧ ((s1 = (0 : Int) → Mw Ω σ0 m M_Mdl_draftLine R F 14 [xr (some m), xi v1, xu, xu, xu, xu] [xi 1, xr (some m)] μ) ∧ (¬ s1 = (0 : Int) → Mw Ω σ0 m M_Mdl_draftLine R F 14 [xr (some m), xi v1, xu, xu, xu, xu] [xi 0, xr (some m)] μ))) : Mw Ω σ0 m M_Mdl_draftLine R F 6 [xr (some m), xi v1, xu, xu, xu, xu] [xi s1, xr (some m)] μ := by
  intro σ hM
  obtain ⟨hS, hk, e⟩ := id hM
  subst e
  refine b_Mdl_draftLine_6 ?_
  obtain ⟨o, h⟩ := h
  refine ⟨o, ?_⟩
  refine ⟨fun c => ?_, fun c => ?_⟩
  · have h := h.1 c
    exact h _ hM
  · have h := h.2 c
    exact h _ hM
theorem B_draftLine_17 {Ω : Om} {σ0 : Sto} {m : Nat} {R : Room} {F : QF} {μ : Mu} {v1 : Int} {s0 : Int} (h : Q32 s0 ∧ ((s0 = (0 : Int) → Mw Ω σ0 m M_Mdl_draftLine R F 29 [xr (some m), xi v1, xi 0, xl 0, xu, xi 0] [] μ) ∧ (¬ s0 = (0 : Int) → Mw Ω σ0 m M_Mdl_draftLine R F 21 [xr (some m), xi v1, xu, xu, xu, xu] [xl 0] μ))) : Mw Ω σ0 m M_Mdl_draftLine R F 17 [xr (some m), xi v1, xu, xu, xu, xu] [xi s0] μ := by
  intro σ hM
  obtain ⟨hS, hk, e⟩ := id hM
  subst e
  refine b_Mdl_draftLine_17 ?_
  obtain ⟨o, h⟩ := h
  refine ⟨o, ?_⟩
  refine ⟨fun c => ?_, fun c => ?_⟩
  · have h := h.1 c
    exact h _ hM
  · have h := h.2 c
    exact h _ hM
theorem B_draftLine_29 {Ω : Om} {σ0 : Sto} {m : Nat} {R : Room} {F : QF} {μ : Mu} {v1 : Int} {v2 : Int} {v3 : Int64} {v5 : Int} (h : Q32 v5 ∧ (((mI μ 15) ≤ v5 → Mw Ω σ0 m M_Mdl_draftLine R F 95 [xr (some m), xi v1, xi v2, xl v3, xu, xi v5] [xl v3] μ) ∧ (¬ (mI μ 15) ≤ v5 → 0 ≤ v5 ∧ v5 < 64 ∧ (((mA μ 9 (v5).toNat) < (0 : Int) → (((mA μ 9 (v5).toNat) < (0 : Int) → Mw Ω σ0 m M_Mdl_draftLine R F 29 [xr (some m), xi v1, xi (v2 + 0), xl v3, xu, xi (v5 + 1)] [] μ) ∧ (¬ (mA μ 9 (v5).toNat) < (0 : Int) → Mw Ω σ0 m M_Mdl_draftLine R F 29 [xr (some m), xi v1, xi (v2 + 1), xl v3, xu, xi (v5 + 1)] [] μ))) ∧ (¬ (mA μ 9 (v5).toNat) < (0 : Int) → Q32 v2 ∧ Q32 v1 ∧ ((¬ v2 = v1 → (((mA μ 9 (v5).toNat) < (0 : Int) → Mw Ω σ0 m M_Mdl_draftLine R F 29 [xr (some m), xi v1, xi (v2 + 0), xl v3, xu, xi (v5 + 1)] [] μ) ∧ (¬ (mA μ 9 (v5).toNat) < (0 : Int) → Mw Ω σ0 m M_Mdl_draftLine R F 29 [xr (some m), xi v1, xi (v2 + 1), xl v3, xu, xi (v5 + 1)] [] μ))) ∧ (v2 = v1 → 0 ≤ (mA μ 9 (v5).toNat) ∧ (mA μ 9 (v5).toNat) < 16384 ∧ (((mA μ 9 (v5).toNat) < (0 : Int) → Mw Ω σ0 m M_Mdl_draftLine R F 29 [xr (some m), xi v1, xi (v2 + 0), xl (mG μ 1 (mA μ 9 (v5).toNat).toNat), xu, xi (v5 + 1)] [] μ) ∧ (¬ (mA μ 9 (v5).toNat) < (0 : Int) → Mw Ω σ0 m M_Mdl_draftLine R F 29 [xr (some m), xi v1, xi (v2 + 1), xl (mG μ 1 (mA μ 9 (v5).toNat).toNat), xu, xi (v5 + 1)] [] μ))))))))) : Mw Ω σ0 m M_Mdl_draftLine R F 29 [xr (some m), xi v1, xi v2, xl v3, xu, xi v5] [] μ := by
  intro σ hM
  obtain ⟨hS, hk, e⟩ := id hM
  subst e
  refine b_Mdl_draftLine_29 ?_
  refine ⟨hS.2.1, ?_⟩
  refine fun _ => ?_
  obtain ⟨o, h⟩ := h
  refine ⟨o, ?_⟩
  refine ⟨fun c => ?_, fun c => ?_⟩
  · have h := h.1 c
    exact h _ hM
  · have h := h.2 c
    refine ⟨_, hS.r9, ?_⟩
    refine ⟨hS.k9, ?_⟩
    obtain ⟨o, h⟩ := h
    refine ⟨o, ?_⟩
    obtain ⟨o, h⟩ := h
    refine ⟨hS.b9 o, ?_⟩
    refine fun _ => ?_
    refine ⟨fun c => ?_, fun c => ?_⟩
    · have h := h.1 c
      refine fun _ => ?_
      refine ⟨fun c => ?_, fun c => ?_⟩
      · have h := h.1 c
        exact h _ hM
      · have h := h.2 c
        exact h _ hM
    · have h := h.2 c
      obtain ⟨o, h⟩ := h
      refine ⟨o, ?_⟩
      obtain ⟨o, h⟩ := h
      refine ⟨o, ?_⟩
      refine ⟨fun c => ?_, fun c => ?_⟩
      · have h := h.1 c
        refine fun _ => ?_
        refine ⟨fun c => ?_, fun c => ?_⟩
        · have h := h.1 c
          exact h _ hM
        · have h := h.2 c
          exact h _ hM
      · have h := h.2 c
        refine ⟨_, hS.r1, ?_⟩
        refine fun _ => ?_
        refine ⟨hS.k1, ?_⟩
        obtain ⟨o, h⟩ := h
        refine ⟨o, ?_⟩
        obtain ⟨o, h⟩ := h
        refine ⟨hS.b1 o, ?_⟩
        refine fun _ => ?_
        refine ⟨fun c => ?_, fun c => ?_⟩
        · have h := h.1 c
          exact h _ hM
        · have h := h.2 c
          exact h _ hM
theorem C_draftLine_3 {Ω : Om} {σ0 : Sto} {m : Nat} {F : QF} {L st : List PV} {μ : Mu} {Q : Int → Mu → Prop} {x0 : Int} (hc : MMi Ω m M_Mdl_isPlace rm_Mdl_isPlace Q μ [xi x0]) (kk : ∀ y μ', Q y μ' → Mw Ω σ0 m M_Mdl_draftLine rm_Mdl_draftLine F 6 L (xi y :: st) μ') (hst : (st.map catP).sum ≤ 8 := by exact Nat.le_of_ble_eq_true rfl) : Mw Ω σ0 m M_Mdl_draftLine rm_Mdl_draftLine F 3 L (xi x0 :: xr (some m) :: st) μ :=
  fun σ hM => c_Mdl_draftLine_3 (hc σ0 σ hM) hM.1.2.1 (by decide) (by decide) (by decide) (by decide) hst (fun y σ' hq => by obtain ⟨μ', h1, h2⟩ := hq; exact kk y μ' h2 σ' h1) (fun _ _ h => h.elim)
theorem C_draftLine_14 {Ω : Om} {σ0 : Sto} {m : Nat} {F : QF} {L st : List PV} {μ : Mu} {Q : Int → Mu → Prop} {x0 : Int} (hc : MMi Ω m M_Mdl_refused rm_Mdl_refused Q μ [xi x0]) (kk : ∀ y μ', Q y μ' → Mw Ω σ0 m M_Mdl_draftLine rm_Mdl_draftLine F 17 L (xi y :: st) μ') (hst : (st.map catP).sum ≤ 8 := by exact Nat.le_of_ble_eq_true rfl) : Mw Ω σ0 m M_Mdl_draftLine rm_Mdl_draftLine F 14 L (xi x0 :: xr (some m) :: st) μ :=
  fun σ hM => c_Mdl_draftLine_14 (hc σ0 σ hM) hM.1.2.1 (by decide) (by decide) (by decide) (by decide) hst (fun y σ' hq => by obtain ⟨μ', h1, h2⟩ := hq; exact kk y μ' h2 σ' h1) (fun _ _ h => h.elim)
theorem R_draftLine_21 {Ω : Om} {σ0 : Sto} {m : Nat} {L : List PV} {μ : Mu} {Q : Int64 → Mu → Prop} {x : Int64} (h : Q x μ) : Mw Ω σ0 m M_Mdl_draftLine rm_Mdl_draftLine (MQl Ω σ0 m rm_Mdl_draftLine Q) 21 L [xl x] μ := fun σ hM => r_Mdl_draftLine_21 ⟨_, rfl, μ, hM, h⟩ (by decide) (by decide)
theorem R_draftLine_95 {Ω : Om} {σ0 : Sto} {m : Nat} {L : List PV} {μ : Mu} {Q : Int64 → Mu → Prop} {x : Int64} (h : Q x μ) : Mw Ω σ0 m M_Mdl_draftLine rm_Mdl_draftLine (MQl Ω σ0 m rm_Mdl_draftLine Q) 95 L [xl x] μ := fun σ hM => r_Mdl_draftLine_95 ⟨_, rfl, μ, hM, h⟩ (by decide) (by decide)
theorem E_draftLine {Ω : Om} {m : Nat} {μ : Mu} {Q : Int64 → Mu → Prop} {v1 : Int} (h : ∀ σ0, Mw Ω σ0 m M_Mdl_draftLine rm_Mdl_draftLine (MQl Ω σ0 m rm_Mdl_draftLine Q) 0 [xr (some m), xi v1, xu, xu, xu, xu] [] μ) : MMl Ω m M_Mdl_draftLine rm_Mdl_draftLine Q μ [xi v1] := fun σ0 σ hM => e_Mdl_draftLine (h σ0 σ hM)
theorem B_note_0 {Ω : Om} {σ0 : Sto} {m : Nat} {R : Room} {F : QF} {μ : Mu} {v1 : Int} {v2 : Int} (h : Mw Ω σ0 m M_Mdl_note R F 4 [xr (some m), xi v1, xi v2] [xi v2, xi v1, xr (some m), xr (some m)] μ) : Mw Ω σ0 m M_Mdl_note R F 0 [xr (some m), xi v1, xi v2] [] μ := by
  intro σ hM
  obtain ⟨hS, hk, e⟩ := id hM
  subst e
  refine b_Mdl_note_0 ?_
  exact h _ hM
theorem B_note_7 {Ω : Om} {σ0 : Sto} {m : Nat} {R : Room} {F : QF} {μ : Mu} {v1 : Int} {v2 : Int} {s1 : Int} (h : Q32 s1 ∧ ((¬ s1 = (0 : Int) → ((¬ (mI μ 36) = (20 : Int) → Mw Ω σ0 m M_Mdl_note R F 28 [xr (some m), xi v1, xi v2] [xi 0, xr (some m)] μ) ∧ ((mI μ 36) = (20 : Int) → Mw Ω σ0 m M_Mdl_note R F 28 [xr (some m), xi v1, xi v2] [xi 2, xr (some m)] μ))) ∧ (s1 = (0 : Int) → Mw Ω σ0 m M_Mdl_note R F 28 [xr (some m), xi v1, xi v2] [xi 1, xr (some m)] μ))) : Mw Ω σ0 m M_Mdl_note R F 7 [xr (some m), xi v1, xi v2] [xi s1, xr (some m)] μ := by
  intro σ hM
  obtain ⟨hS, hk, e⟩ := id hM
  subst e
  refine b_Mdl_note_7 ?_
  obtain ⟨o, h⟩ := h
  refine ⟨o, ?_⟩
  refine ⟨fun c => ?_, fun c => ?_⟩
  · have h := h.1 c
    refine ⟨hS.2.1, ?_⟩
    refine fun _ => ?_
    refine ⟨fun c => ?_, fun c => ?_⟩
    · have h := h.1 c
      exact h _ hM
    · have h := h.2 c
      exact h _ hM
  · have h := h.2 c
    exact h _ hM
theorem B_note_31 {Ω : Om} {σ0 : Sto} {m : Nat} {R : Room} {F : QF} {μ : Mu} {v1 : Int} {v2 : Int} {s0 : Int} (h : Q32 s0 ∧ ((s0 = (0 : Int) → 0 ≤ ((20 * v1) + v2) ∧ ((20 * v1) + v2) < 800 ∧ 0 ≤ (mI μ 36) ∧ (mI μ 36) < 20 ∧ Q32 ((mI μ 36) + 1) ∧ Mw Ω σ0 m M_Mdl_note R F 66 [xr (some m), xi v1, xi v2] [] (wI (wA μ 23 (mI μ 36).toNat (mA μ 5 ((20 * v1) + v2).toNat)) 36 ((mI μ 36) + 1))) ∧ (¬ s0 = (0 : Int) → Mw Ω σ0 m M_Mdl_note R F 35 [xr (some m), xi v1, xi v2] [xi 0] μ))) : Mw Ω σ0 m M_Mdl_note R F 31 [xr (some m), xi v1, xi v2] [xi s0] μ := by
  intro σ hM
  obtain ⟨hS, hk, e⟩ := id hM
  subst e
  refine b_Mdl_note_31 ?_
  obtain ⟨o, h⟩ := h
  refine ⟨o, ?_⟩
  refine ⟨fun c => ?_, fun c => ?_⟩
  · have h := h.1 c
    refine ⟨hS.2.1, ?_⟩
    refine ⟨_, hS.r23, ?_⟩
    refine fun _ => ?_
    refine ⟨_, hS.r5, ?_⟩
    refine ⟨hS.k5, ?_⟩
    obtain ⟨o, h⟩ := h
    refine ⟨o, ?_⟩
    obtain ⟨o, h⟩ := h
    refine ⟨hS.b5 o, ?_⟩
    refine fun _ => ?_
    refine ⟨hS.k23, ?_⟩
    obtain ⟨o, h⟩ := h
    refine ⟨o, ?_⟩
    obtain ⟨o, h⟩ := h
    refine ⟨hS.b23 o, ?_⟩
    refine fun _ => ?_
    obtain ⟨o, h⟩ := h
    refine ⟨o, ?_⟩
    exact h _ (MR.uI (f := 36) (MR.vI (j := 23) (by decide) hM))
  · have h := h.2 c
    exact h _ hM
theorem B_note_66 {Ω : Om} {σ0 : Sto} {m : Nat} {R : Room} {F : QF} {μ : Mu} {v1 : Int} {v2 : Int} (h : Mw Ω σ0 m M_Mdl_note R F 72 [xr (some m), xi v1, xi v2] [xi ((mI μ 36) - 1)] μ) : Mw Ω σ0 m M_Mdl_note R F 66 [xr (some m), xi v1, xi v2] [] μ := by
  intro σ hM
  obtain ⟨hS, hk, e⟩ := id hM
  subst e
  refine b_Mdl_note_66 ?_
  refine ⟨hS.2.1, ?_⟩
  refine fun _ => ?_
  exact h _ hM
theorem C_note_4 {Ω : Om} {σ0 : Sto} {m : Nat} {F : QF} {L st : List PV} {μ : Mu} {Q : Int → Mu → Prop} {x0 : Int} {x1 : Int} (hc : MMi Ω m M_Mdl_isLineOf rm_Mdl_isLineOf Q μ [xi x0, xi x1]) (kk : ∀ y μ', Q y μ' → Mw Ω σ0 m M_Mdl_note rm_Mdl_note F 7 L (xi y :: st) μ') (hst : (st.map catP).sum ≤ 8 := by exact Nat.le_of_ble_eq_true rfl) : Mw Ω σ0 m M_Mdl_note rm_Mdl_note F 4 L (xi x1 :: xi x0 :: xr (some m) :: st) μ :=
  fun σ hM => c_Mdl_note_4 (hc σ0 σ hM) hM.1.2.1 (by decide) (by decide) (by decide) (by decide) hst (fun y σ' hq => by obtain ⟨μ', h1, h2⟩ := hq; exact kk y μ' h2 σ' h1) (fun _ _ h => h.elim)
theorem C_note_28 {Ω : Om} {σ0 : Sto} {m : Nat} {F : QF} {L st : List PV} {μ : Mu} {Q : Int → Mu → Prop} {x0 : Int} (hc : MMi Ω m M_Mdl_refused rm_Mdl_refused Q μ [xi x0]) (kk : ∀ y μ', Q y μ' → Mw Ω σ0 m M_Mdl_note rm_Mdl_note F 31 L (xi y :: st) μ') (hst : (st.map catP).sum ≤ 8 := by exact Nat.le_of_ble_eq_true rfl) : Mw Ω σ0 m M_Mdl_note rm_Mdl_note F 28 L (xi x0 :: xr (some m) :: st) μ :=
  fun σ hM => c_Mdl_note_28 (hc σ0 σ hM) hM.1.2.1 (by decide) (by decide) (by decide) (by decide) hst (fun y σ' hq => by obtain ⟨μ', h1, h2⟩ := hq; exact kk y μ' h2 σ' h1) (fun _ _ h => h.elim)
theorem R_note_35 {Ω : Om} {σ0 : Sto} {m : Nat} {L : List PV} {μ : Mu} {Q : Int → Mu → Prop} {x : Int} (h : Q x μ) : Mw Ω σ0 m M_Mdl_note rm_Mdl_note (MQi Ω σ0 m rm_Mdl_note Q) 35 L [xi x] μ := fun σ hM => r_Mdl_note_35 ⟨_, rfl, μ, hM, h⟩ (by decide) (by decide)
theorem R_note_72 {Ω : Om} {σ0 : Sto} {m : Nat} {L : List PV} {μ : Mu} {Q : Int → Mu → Prop} {x : Int} (h : Q x μ) : Mw Ω σ0 m M_Mdl_note rm_Mdl_note (MQi Ω σ0 m rm_Mdl_note Q) 72 L [xi x] μ := fun σ hM => r_Mdl_note_72 ⟨_, rfl, μ, hM, h⟩ (by decide) (by decide)
theorem E_note {Ω : Om} {m : Nat} {μ : Mu} {Q : Int → Mu → Prop} {v1 : Int} {v2 : Int} (h : ∀ σ0, Mw Ω σ0 m M_Mdl_note rm_Mdl_note (MQi Ω σ0 m rm_Mdl_note Q) 0 [xr (some m), xi v1, xi v2] [] μ) : MMi Ω m M_Mdl_note rm_Mdl_note Q μ [xi v1, xi v2] := fun σ0 σ hM => e_Mdl_note (h σ0 σ hM)
theorem B_isKey_0 {Ω : Om} {σ0 : Sto} {m : Nat} {R : Room} {F : QF} {μ : Mu} {v1 : Int} {v2 : Int} {v3 : Int} (h : Mw Ω σ0 m M_Mdl_isKey R F 8 [xr (some m), xi v1, xi v2, xi v3, xi 1, xi (v2 + 1)] [] μ) : Mw Ω σ0 m M_Mdl_isKey R F 0 [xr (some m), xi v1, xi v2, xi v3, xu, xu] [] μ := by
  intro σ hM
  obtain ⟨hS, hk, e⟩ := id hM
  subst e
  refine b_Mdl_isKey_0 ?_
  exact h _ hM
theorem B_isKey_8 {Ω : Om} {σ0 : Sto} {m : Nat} {R : Room} {F : QF} {μ : Mu} {v1 : Int} {v2 : Int} {v3 : Int} {v4 : Int} {v5 : Int} (h : Q32 v5 ∧ Q32 v3 ∧ ((v3 < v5 → Mw Ω σ0 m M_Mdl_isKey R F 60 [xr (some m), xi v1, xi v2, xi v3, xi v4, xi v5] [xi v4] μ) ∧ (¬ v3 < v5 → Q32 v4 ∧ ((v4 = (0 : Int) → Mw Ω σ0 m M_Mdl_isKey R F 8 [xr (some m), xi v1, xi v2, xi v3, xi 0, xi (v5 + 1)] [] μ) ∧ (¬ v4 = (0 : Int) → 0 ≤ ((22 * v1) + v5) ∧ ((22 * v1) + v5) < 44 ∧ 0 ≤ ((22 * v1) + v2) ∧ ((22 * v1) + v2) < 44 ∧ (((mA μ 33 ((22 * v1) + v5).toNat) = (mA μ 33 ((22 * v1) + v2).toNat) → Mw Ω σ0 m M_Mdl_isKey R F 8 [xr (some m), xi v1, xi v2, xi v3, xi 0, xi (v5 + 1)] [] μ) ∧ (¬ (mA μ 33 ((22 * v1) + v5).toNat) = (mA μ 33 ((22 * v1) + v2).toNat) → Mw Ω σ0 m M_Mdl_isKey R F 8 [xr (some m), xi v1, xi v2, xi v3, xi 1, xi (v5 + 1)] [] μ))))))) : Mw Ω σ0 m M_Mdl_isKey R F 8 [xr (some m), xi v1, xi v2, xi v3, xi v4, xi v5] [] μ := by
  intro σ hM
  obtain ⟨hS, hk, e⟩ := id hM
  subst e
  refine b_Mdl_isKey_8 ?_
  obtain ⟨o, h⟩ := h
  refine ⟨o, ?_⟩
  obtain ⟨o, h⟩ := h
  refine ⟨o, ?_⟩
  refine ⟨fun c => ?_, fun c => ?_⟩
  · have h := h.1 c
    exact h _ hM
  · have h := h.2 c
    obtain ⟨o, h⟩ := h
    refine ⟨o, ?_⟩
    refine ⟨fun c => ?_, fun c => ?_⟩
    · have h := h.1 c
      exact h _ hM
    · have h := h.2 c
      refine ⟨hS.2.1, ?_⟩
      refine ⟨_, hS.r33, ?_⟩
      refine ⟨hS.k33, ?_⟩
      obtain ⟨o, h⟩ := h
      refine ⟨o, ?_⟩
      obtain ⟨o, h⟩ := h
      refine ⟨hS.b33 o, ?_⟩
      refine fun _ => ?_
      obtain ⟨o, h⟩ := h
      refine ⟨o, ?_⟩
      obtain ⟨o, h⟩ := h
      refine ⟨hS.b33 o, ?_⟩
      refine fun _ => ?_
      refine ⟨fun c => ?_, fun c => ?_⟩
      · have h := h.1 c
        exact h _ hM
      · have h := h.2 c
        exact h _ hM
theorem R_isKey_60 {Ω : Om} {σ0 : Sto} {m : Nat} {L : List PV} {μ : Mu} {Q : Int → Mu → Prop} {x : Int} (hx : x = 0 ∨ x = 1) (h : Q x μ) : Mw Ω σ0 m M_Mdl_isKey rm_Mdl_isKey (MQi Ω σ0 m rm_Mdl_isKey Q) 60 L [xi x] μ := fun σ hM => r_Mdl_isKey_60 hx ⟨_, rfl, μ, hM, h⟩ (by decide) (by decide)
theorem E_isKey {Ω : Om} {m : Nat} {μ : Mu} {Q : Int → Mu → Prop} {v1 : Int} {v2 : Int} {v3 : Int} (h : ∀ σ0, Mw Ω σ0 m M_Mdl_isKey rm_Mdl_isKey (MQi Ω σ0 m rm_Mdl_isKey Q) 0 [xr (some m), xi v1, xi v2, xi v3, xu, xu] [] μ) : MMi Ω m M_Mdl_isKey rm_Mdl_isKey Q μ [xi v1, xi v2, xi v3] := fun σ0 σ hM => e_Mdl_isKey (h σ0 σ hM)
theorem B_conflicts_0 {Ω : Om} {σ0 : Sto} {m : Nat} {R : Room} {F : QF} {μ : Mu}  (h : Mw Ω σ0 m M_Mdl_conflicts R F 4 [xr (some m), xi 0, xi 0] [] μ) : Mw Ω σ0 m M_Mdl_conflicts R F 0 [xr (some m), xu, xu] [] μ := by
  intro σ hM
  obtain ⟨hS, hk, e⟩ := id hM
  subst e
  refine b_Mdl_conflicts_0 ?_
  exact h _ hM
theorem B_conflicts_4 {Ω : Om} {σ0 : Sto} {m : Nat} {R : Room} {F : QF} {μ : Mu} {v1 : Int} {v2 : Int} (h : Q32 v2 ∧ (((mI μ 17) ≤ v2 → Mw Ω σ0 m M_Mdl_conflicts R F 46 [xr (some m), xi v1, xi v2] [xi v1, xr (some m)] μ) ∧ (¬ (mI μ 17) ≤ v2 → (((mI μ 11) = (0 : Int) → Mw Ω σ0 m M_Mdl_conflicts R F 46 [xr (some m), xi v1, xi v2] [xi v1, xr (some m)] μ) ∧ (¬ (mI μ 11) = (0 : Int) → Q32 (bAnd (bShr (mI μ 18) v2) 1) ∧ ((¬ (bAnd (bShr (mI μ 18) v2) 1) = (0 : Int) → Mw Ω σ0 m M_Mdl_conflicts R F 4 [xr (some m), xi (v1 + 0), xi (v2 + 1)] [] μ) ∧ ((bAnd (bShr (mI μ 18) v2) 1) = (0 : Int) → Mw Ω σ0 m M_Mdl_conflicts R F 4 [xr (some m), xi (v1 + 1), xi (v2 + 1)] [] μ))))))) : Mw Ω σ0 m M_Mdl_conflicts R F 4 [xr (some m), xi v1, xi v2] [] μ := by
  intro σ hM
  obtain ⟨hS, hk, e⟩ := id hM
  subst e
  refine b_Mdl_conflicts_4 ?_
  refine ⟨hS.2.1, ?_⟩
  refine fun _ => ?_
  obtain ⟨o, h⟩ := h
  refine ⟨o, ?_⟩
  refine ⟨fun c => ?_, fun c => ?_⟩
  · have h := h.1 c
    exact h _ hM
  · have h := h.2 c
    refine fun _ => ?_
    refine ⟨fun c => ?_, fun c => ?_⟩
    · have h := h.1 c
      exact h _ hM
    · have h := h.2 c
      refine fun _ => ?_
      obtain ⟨o, h⟩ := h
      refine ⟨o, ?_⟩
      refine ⟨fun c => ?_, fun c => ?_⟩
      · have h := h.1 c
        exact h _ hM
      · have h := h.2 c
        exact h _ hM
theorem C_conflicts_46 {Ω : Om} {σ0 : Sto} {m : Nat} {F : QF} {L st : List PV} {μ : Mu} {Q : Int → Mu → Prop} {x0 : Int} (hc : MMi Ω m M_Mdl_fine rm_Mdl_fine Q μ [xi x0]) (kk : ∀ y μ', Q y μ' → Mw Ω σ0 m M_Mdl_conflicts rm_Mdl_conflicts F 49 L (xi y :: st) μ') (hst : (st.map catP).sum ≤ 8 := by exact Nat.le_of_ble_eq_true rfl) : Mw Ω σ0 m M_Mdl_conflicts rm_Mdl_conflicts F 46 L (xi x0 :: xr (some m) :: st) μ :=
  fun σ hM => c_Mdl_conflicts_46 (hc σ0 σ hM) hM.1.2.1 (by decide) (by decide) (by decide) (by decide) hst (fun y σ' hq => by obtain ⟨μ', h1, h2⟩ := hq; exact kk y μ' h2 σ' h1) (fun _ _ h => h.elim)
theorem R_conflicts_49 {Ω : Om} {σ0 : Sto} {m : Nat} {L : List PV} {μ : Mu} {Q : Int → Mu → Prop} {x : Int} (h : Q x μ) : Mw Ω σ0 m M_Mdl_conflicts rm_Mdl_conflicts (MQi Ω σ0 m rm_Mdl_conflicts Q) 49 L [xi x] μ := fun σ hM => r_Mdl_conflicts_49 ⟨_, rfl, μ, hM, h⟩ (by decide) (by decide)
theorem E_conflicts {Ω : Om} {m : Nat} {μ : Mu} {Q : Int → Mu → Prop}  (h : ∀ σ0, Mw Ω σ0 m M_Mdl_conflicts rm_Mdl_conflicts (MQi Ω σ0 m rm_Mdl_conflicts Q) 0 [xr (some m), xu, xu] [] μ) : MMi Ω m M_Mdl_conflicts rm_Mdl_conflicts Q μ [] := fun σ0 σ hM => e_Mdl_conflicts (h σ0 σ hM)
theorem B_putPiece_0 {Ω : Om} {σ0 : Sto} {m : Nat} {R : Room} {F : QF} {μ : Mu} {v1 : Int} {v2 : Int} (h : Mw Ω σ0 m M_Mdl_putPiece R F 2 [xr (some m), xi v1, xi v2, xi 0] [] μ) : Mw Ω σ0 m M_Mdl_putPiece R F 0 [xr (some m), xi v1, xi v2, xu] [] μ := by
  intro σ hM
  obtain ⟨hS, hk, e⟩ := id hM
  subst e
  refine b_Mdl_putPiece_0 ?_
  exact h _ hM
theorem B_putPiece_2 {Ω : Om} {σ0 : Sto} {m : Nat} {R : Room} {F : QF} {μ : Mu} {v1 : Int} {v2 : Int} {v3 : Int} (h : 0 ≤ v2 ∧ v2 < 63 ∧ Q32 v3 ∧ (((mA μ 10 (v2).toNat) ≤ v3 → Mw Ω σ0 m M_Mdl_putPiece R F 44 [xr (some m), xi v1, xi v2, xi v3] [xi (v1 + (mA μ 10 (v2).toNat))] μ) ∧ (¬ (mA μ 10 (v2).toNat) ≤ v3 → 0 ≤ ((20 * v2) + v3) ∧ ((20 * v2) + v3) < 1260 ∧ Mw Ω σ0 m M_Mdl_putPiece R F 27 [xr (some m), xi v1, xi v2, xi v3] [xi (mA μ 11 ((20 * v2) + v3).toNat), xi (v1 + v3), xr (some m)] μ))) : Mw Ω σ0 m M_Mdl_putPiece R F 2 [xr (some m), xi v1, xi v2, xi v3] [] μ := by
  intro σ hM
  obtain ⟨hS, hk, e⟩ := id hM
  subst e
  refine b_Mdl_putPiece_2 ?_
  refine ⟨hS.2.1, ?_⟩
  refine ⟨_, hS.r10, ?_⟩
  refine ⟨hS.k10, ?_⟩
  obtain ⟨o, h⟩ := h
  refine ⟨o, ?_⟩
  obtain ⟨o, h⟩ := h
  refine ⟨hS.b10 o, ?_⟩
  refine fun _ => ?_
  obtain ⟨o, h⟩ := h
  refine ⟨o, ?_⟩
  refine ⟨fun c => ?_, fun c => ?_⟩
  · have h := h.1 c
    refine fun _ => ?_
    exact h _ hM
  · have h := h.2 c
    refine ⟨_, hS.r11, ?_⟩
    refine ⟨hS.k11, ?_⟩
    obtain ⟨o, h⟩ := h
    refine ⟨o, ?_⟩
    obtain ⟨o, h⟩ := h
    refine ⟨hS.b11 o, ?_⟩
    refine fun _ => ?_
    exact h _ hM
theorem B_putPiece_30 {Ω : Om} {σ0 : Sto} {m : Nat} {R : Room} {F : QF} {μ : Mu} {v1 : Int} {v2 : Int} {v3 : Int} (h : Mw Ω σ0 m M_Mdl_putPiece R F 2 [xr (some m), xi v1, xi v2, xi (v3 + 1)] [] μ) : Mw Ω σ0 m M_Mdl_putPiece R F 30 [xr (some m), xi v1, xi v2, xi v3] [] μ := by
  intro σ hM
  obtain ⟨hS, hk, e⟩ := id hM
  subst e
  refine b_Mdl_putPiece_30 ?_
  exact h _ hM
theorem C_putPiece_27 {Ω : Om} {σ0 : Sto} {m : Nat} {F : QF} {L st : List PV} {μ : Mu} {Q : Mu → Prop} {x0 : Int} {x1 : Int} (hc : MMv Ω m M_Mdl_putAt rm_Mdl_putAt Q μ [xi x0, xi x1]) (kk : ∀ μ', Q μ' → Mw Ω σ0 m M_Mdl_putPiece rm_Mdl_putPiece F 30 L st μ') (hst : (st.map catP).sum ≤ 8 := by exact Nat.le_of_ble_eq_true rfl) : Mw Ω σ0 m M_Mdl_putPiece rm_Mdl_putPiece F 27 L (xi x1 :: xi x0 :: xr (some m) :: st) μ :=
  fun σ hM => c_Mdl_putPiece_27 (hc σ0 σ hM) hM.1.2.1 (by decide) (by decide) (by decide) (by decide) hst (fun σ' hq => by obtain ⟨μ', h1, h2⟩ := hq; exact kk μ' h2 σ' h1) (fun _ _ h => h.elim)
theorem R_putPiece_44 {Ω : Om} {σ0 : Sto} {m : Nat} {L : List PV} {μ : Mu} {Q : Int → Mu → Prop} {x : Int} (h : Q x μ) : Mw Ω σ0 m M_Mdl_putPiece rm_Mdl_putPiece (MQi Ω σ0 m rm_Mdl_putPiece Q) 44 L [xi x] μ := fun σ hM => r_Mdl_putPiece_44 ⟨_, rfl, μ, hM, h⟩ (by decide) (by decide)
theorem E_putPiece {Ω : Om} {m : Nat} {μ : Mu} {Q : Int → Mu → Prop} {v1 : Int} {v2 : Int} (h : ∀ σ0, Mw Ω σ0 m M_Mdl_putPiece rm_Mdl_putPiece (MQi Ω σ0 m rm_Mdl_putPiece Q) 0 [xr (some m), xi v1, xi v2, xu] [] μ) : MMi Ω m M_Mdl_putPiece rm_Mdl_putPiece Q μ [xi v1, xi v2] := fun σ0 σ hM => e_Mdl_putPiece (h σ0 σ hM)
theorem B_base_0 {Ω : Om} {σ0 : Sto} {m : Nat} {R : Room} {F : QF} {μ : Mu} {v1 : Int} {v2 : Int} (h : Mw Ω σ0 m M_Mdl_base R F 3 [xr (some m), xi v1, xi v2] [xi v1, xr (some m), xr (some m)] μ) : Mw Ω σ0 m M_Mdl_base R F 0 [xr (some m), xi v1, xi v2] [] μ := by
  intro σ hM
  obtain ⟨hS, hk, e⟩ := id hM
  subst e
  refine b_Mdl_base_0 ?_
  exact h _ hM
theorem B_base_6 {Ω : Om} {σ0 : Sto} {m : Nat} {R : Room} {F : QF} {μ : Mu} {v1 : Int} {v2 : Int} {s1 : Int} (h : Q32 s1 ∧ ((s1 = (0 : Int) → Mw Ω σ0 m M_Mdl_base R F 22 [xr (some m), xi v1, xi v2] [xi 1, xr (some m)] μ) ∧ (¬ s1 = (0 : Int) → Mw Ω σ0 m M_Mdl_base R F 11 [xr (some m), xi v1, xi v2] [xi v2, xr (some m), xr (some m)] μ))) : Mw Ω σ0 m M_Mdl_base R F 6 [xr (some m), xi v1, xi v2] [xi s1, xr (some m)] μ := by
  intro σ hM
  obtain ⟨hS, hk, e⟩ := id hM
  subst e
  refine b_Mdl_base_6 ?_
  obtain ⟨o, h⟩ := h
  refine ⟨o, ?_⟩
  refine ⟨fun c => ?_, fun c => ?_⟩
  · have h := h.1 c
    exact h _ hM
  · have h := h.2 c
    exact h _ hM
theorem B_base_14 {Ω : Om} {σ0 : Sto} {m : Nat} {R : Room} {F : QF} {μ : Mu} {v1 : Int} {v2 : Int} {s1 : Int} (h : Q32 s1 ∧ ((s1 = (0 : Int) → Mw Ω σ0 m M_Mdl_base R F 22 [xr (some m), xi v1, xi v2] [xi 1, xr (some m)] μ) ∧ (¬ s1 = (0 : Int) → Mw Ω σ0 m M_Mdl_base R F 22 [xr (some m), xi v1, xi v2] [xi 0, xr (some m)] μ))) : Mw Ω σ0 m M_Mdl_base R F 14 [xr (some m), xi v1, xi v2] [xi s1, xr (some m)] μ := by
  intro σ hM
  obtain ⟨hS, hk, e⟩ := id hM
  subst e
  refine b_Mdl_base_14 ?_
  obtain ⟨o, h⟩ := h
  refine ⟨o, ?_⟩
  refine ⟨fun c => ?_, fun c => ?_⟩
  · have h := h.1 c
    exact h _ hM
  · have h := h.2 c
    exact h _ hM
theorem B_base_25 {Ω : Om} {σ0 : Sto} {m : Nat} {R : Room} {F : QF} {μ : Mu} {v1 : Int} {v2 : Int} {s0 : Int} (h : Q32 s0 ∧ ((s0 = (0 : Int) → Mw Ω σ0 m M_Mdl_base R F 35 [xr (some m), xi v1, xi v2] [xi v2, xi v1, xr (some m)] μ) ∧ (¬ s0 = (0 : Int) → Mw Ω σ0 m M_Mdl_base R F 38 [xr (some m), xi v1, xi v2] [xi 0] μ))) : Mw Ω σ0 m M_Mdl_base R F 25 [xr (some m), xi v1, xi v2] [xi s0] μ := by
  intro σ hM
  obtain ⟨hS, hk, e⟩ := id hM
  subst e
  refine b_Mdl_base_25 ?_
  obtain ⟨o, h⟩ := h
  refine ⟨o, ?_⟩
  refine ⟨fun c => ?_, fun c => ?_⟩
  · have h := h.1 c
    exact h _ hM
  · have h := h.2 c
    exact h _ hM
theorem C_base_3 {Ω : Om} {σ0 : Sto} {m : Nat} {F : QF} {L st : List PV} {μ : Mu} {Q : Int → Mu → Prop} {x0 : Int} (hc : MMi Ω m M_Mdl_isVersion rm_Mdl_isVersion Q μ [xi x0]) (kk : ∀ y μ', Q y μ' → Mw Ω σ0 m M_Mdl_base rm_Mdl_base F 6 L (xi y :: st) μ') (hst : (st.map catP).sum ≤ 8 := by exact Nat.le_of_ble_eq_true rfl) : Mw Ω σ0 m M_Mdl_base rm_Mdl_base F 3 L (xi x0 :: xr (some m) :: st) μ :=
  fun σ hM => c_Mdl_base_3 (hc σ0 σ hM) hM.1.2.1 (by decide) (by decide) (by decide) (by decide) hst (fun y σ' hq => by obtain ⟨μ', h1, h2⟩ := hq; exact kk y μ' h2 σ' h1) (fun _ _ h => h.elim)
theorem C_base_11 {Ω : Om} {σ0 : Sto} {m : Nat} {F : QF} {L st : List PV} {μ : Mu} {Q : Int → Mu → Prop} {x0 : Int} (hc : MMi Ω m M_Mdl_isVersion rm_Mdl_isVersion Q μ [xi x0]) (kk : ∀ y μ', Q y μ' → Mw Ω σ0 m M_Mdl_base rm_Mdl_base F 14 L (xi y :: st) μ') (hst : (st.map catP).sum ≤ 8 := by exact Nat.le_of_ble_eq_true rfl) : Mw Ω σ0 m M_Mdl_base rm_Mdl_base F 11 L (xi x0 :: xr (some m) :: st) μ :=
  fun σ hM => c_Mdl_base_11 (hc σ0 σ hM) hM.1.2.1 (by decide) (by decide) (by decide) (by decide) hst (fun y σ' hq => by obtain ⟨μ', h1, h2⟩ := hq; exact kk y μ' h2 σ' h1) (fun _ _ h => h.elim)
theorem C_base_22 {Ω : Om} {σ0 : Sto} {m : Nat} {F : QF} {L st : List PV} {μ : Mu} {Q : Int → Mu → Prop} {x0 : Int} (hc : MMi Ω m M_Mdl_refused rm_Mdl_refused Q μ [xi x0]) (kk : ∀ y μ', Q y μ' → Mw Ω σ0 m M_Mdl_base rm_Mdl_base F 25 L (xi y :: st) μ') (hst : (st.map catP).sum ≤ 8 := by exact Nat.le_of_ble_eq_true rfl) : Mw Ω σ0 m M_Mdl_base rm_Mdl_base F 22 L (xi x0 :: xr (some m) :: st) μ :=
  fun σ hM => c_Mdl_base_22 (hc σ0 σ hM) hM.1.2.1 (by decide) (by decide) (by decide) (by decide) hst (fun y σ' hq => by obtain ⟨μ', h1, h2⟩ := hq; exact kk y μ' h2 σ' h1) (fun _ _ h => h.elim)
theorem C_base_35 {Ω : Om} {σ0 : Sto} {m : Nat} {F : QF} {L st : List PV} {μ : Mu} {Q : Int → Mu → Prop} {x0 : Int} {x1 : Int} (hc : MMi Ω m M_Mdl_baseOf rm_Mdl_baseOf Q μ [xi x0, xi x1]) (kk : ∀ y μ', Q y μ' → Mw Ω σ0 m M_Mdl_base rm_Mdl_base F 38 L (xi y :: st) μ') (hst : (st.map catP).sum ≤ 8 := by exact Nat.le_of_ble_eq_true rfl) : Mw Ω σ0 m M_Mdl_base rm_Mdl_base F 35 L (xi x1 :: xi x0 :: xr (some m) :: st) μ :=
  fun σ hM => c_Mdl_base_35 (hc σ0 σ hM) hM.1.2.1 (by decide) (by decide) (by decide) (by decide) hst (fun y σ' hq => by obtain ⟨μ', h1, h2⟩ := hq; exact kk y μ' h2 σ' h1) (fun _ _ h => h.elim)
theorem R_base_38 {Ω : Om} {σ0 : Sto} {m : Nat} {L : List PV} {μ : Mu} {Q : Int → Mu → Prop} {x : Int} (h : Q x μ) : Mw Ω σ0 m M_Mdl_base rm_Mdl_base (MQi Ω σ0 m rm_Mdl_base Q) 38 L [xi x] μ := fun σ hM => r_Mdl_base_38 ⟨_, rfl, μ, hM, h⟩ (by decide) (by decide)
theorem E_base {Ω : Om} {m : Nat} {μ : Mu} {Q : Int → Mu → Prop} {v1 : Int} {v2 : Int} (h : ∀ σ0, Mw Ω σ0 m M_Mdl_base rm_Mdl_base (MQi Ω σ0 m rm_Mdl_base Q) 0 [xr (some m), xi v1, xi v2] [] μ) : MMi Ω m M_Mdl_base rm_Mdl_base Q μ [xi v1, xi v2] := fun σ0 σ hM => e_Mdl_base (h σ0 σ hM)
theorem B_pairOf_0 {Ω : Om} {σ0 : Sto} {m : Nat} {R : Room} {F : QF} {μ : Mu} {v1 : Int} (h : Mw Ω σ0 m M_Mdl_pairOf R F 3 [xr (some m), xi v1] [xi v1, xr (some m), xr (some m)] μ) : Mw Ω σ0 m M_Mdl_pairOf R F 0 [xr (some m), xi v1] [] μ := by
  intro σ hM
  obtain ⟨hS, hk, e⟩ := id hM
  subst e
  refine b_Mdl_pairOf_0 ?_
  exact h _ hM
theorem B_pairOf_6 {Ω : Om} {σ0 : Sto} {m : Nat} {R : Room} {F : QF} {μ : Mu} {v1 : Int} {s1 : Int} (h : Q32 s1 ∧ ((s1 = (0 : Int) → Mw Ω σ0 m M_Mdl_pairOf R F 14 [xr (some m), xi v1] [xi 1, xr (some m)] μ) ∧ (¬ s1 = (0 : Int) → Mw Ω σ0 m M_Mdl_pairOf R F 14 [xr (some m), xi v1] [xi 0, xr (some m)] μ))) : Mw Ω σ0 m M_Mdl_pairOf R F 6 [xr (some m), xi v1] [xi s1, xr (some m)] μ := by
  intro σ hM
  obtain ⟨hS, hk, e⟩ := id hM
  subst e
  refine b_Mdl_pairOf_6 ?_
  obtain ⟨o, h⟩ := h
  refine ⟨o, ?_⟩
  refine ⟨fun c => ?_, fun c => ?_⟩
  · have h := h.1 c
    exact h _ hM
  · have h := h.2 c
    exact h _ hM
theorem B_pairOf_17 {Ω : Om} {σ0 : Sto} {m : Nat} {R : Room} {F : QF} {μ : Mu} {v1 : Int} {s0 : Int} (h : Q32 s0 ∧ ((s0 = (0 : Int) → 0 ≤ v1 ∧ v1 < 20 ∧ Mw Ω σ0 m M_Mdl_pairOf R F 30 [xr (some m), xi v1] [xi (mA μ 15 (v1).toNat)] μ) ∧ (¬ s0 = (0 : Int) → Mw Ω σ0 m M_Mdl_pairOf R F 30 [xr (some m), xi v1] [xi 0] μ))) : Mw Ω σ0 m M_Mdl_pairOf R F 17 [xr (some m), xi v1] [xi s0] μ := by
  intro σ hM
  obtain ⟨hS, hk, e⟩ := id hM
  subst e
  refine b_Mdl_pairOf_17 ?_
  obtain ⟨o, h⟩ := h
  refine ⟨o, ?_⟩
  refine ⟨fun c => ?_, fun c => ?_⟩
  · have h := h.1 c
    refine ⟨hS.2.1, ?_⟩
    refine ⟨_, hS.r15, ?_⟩
    refine ⟨hS.k15, ?_⟩
    obtain ⟨o, h⟩ := h
    refine ⟨o, ?_⟩
    obtain ⟨o, h⟩ := h
    refine ⟨hS.b15 o, ?_⟩
    refine fun _ => ?_
    exact h _ hM
  · have h := h.2 c
    exact h _ hM
theorem C_pairOf_3 {Ω : Om} {σ0 : Sto} {m : Nat} {F : QF} {L st : List PV} {μ : Mu} {Q : Int → Mu → Prop} {x0 : Int} (hc : MMi Ω m M_Mdl_isCompared rm_Mdl_isCompared Q μ [xi x0]) (kk : ∀ y μ', Q y μ' → Mw Ω σ0 m M_Mdl_pairOf rm_Mdl_pairOf F 6 L (xi y :: st) μ') (hst : (st.map catP).sum ≤ 8 := by exact Nat.le_of_ble_eq_true rfl) : Mw Ω σ0 m M_Mdl_pairOf rm_Mdl_pairOf F 3 L (xi x0 :: xr (some m) :: st) μ :=
  fun σ hM => c_Mdl_pairOf_3 (hc σ0 σ hM) hM.1.2.1 (by decide) (by decide) (by decide) (by decide) hst (fun y σ' hq => by obtain ⟨μ', h1, h2⟩ := hq; exact kk y μ' h2 σ' h1) (fun _ _ h => h.elim)
theorem C_pairOf_14 {Ω : Om} {σ0 : Sto} {m : Nat} {F : QF} {L st : List PV} {μ : Mu} {Q : Int → Mu → Prop} {x0 : Int} (hc : MMi Ω m M_Mdl_refused rm_Mdl_refused Q μ [xi x0]) (kk : ∀ y μ', Q y μ' → Mw Ω σ0 m M_Mdl_pairOf rm_Mdl_pairOf F 17 L (xi y :: st) μ') (hst : (st.map catP).sum ≤ 8 := by exact Nat.le_of_ble_eq_true rfl) : Mw Ω σ0 m M_Mdl_pairOf rm_Mdl_pairOf F 14 L (xi x0 :: xr (some m) :: st) μ :=
  fun σ hM => c_Mdl_pairOf_14 (hc σ0 σ hM) hM.1.2.1 (by decide) (by decide) (by decide) (by decide) hst (fun y σ' hq => by obtain ⟨μ', h1, h2⟩ := hq; exact kk y μ' h2 σ' h1) (fun _ _ h => h.elim)
theorem R_pairOf_30 {Ω : Om} {σ0 : Sto} {m : Nat} {L : List PV} {μ : Mu} {Q : Int → Mu → Prop} {x : Int} (h : Q x μ) : Mw Ω σ0 m M_Mdl_pairOf rm_Mdl_pairOf (MQi Ω σ0 m rm_Mdl_pairOf Q) 30 L [xi x] μ := fun σ hM => r_Mdl_pairOf_30 ⟨_, rfl, μ, hM, h⟩ (by decide) (by decide)
theorem E_pairOf {Ω : Om} {m : Nat} {μ : Mu} {Q : Int → Mu → Prop} {v1 : Int} (h : ∀ σ0, Mw Ω σ0 m M_Mdl_pairOf rm_Mdl_pairOf (MQi Ω σ0 m rm_Mdl_pairOf Q) 0 [xr (some m), xi v1] [] μ) : MMi Ω m M_Mdl_pairOf rm_Mdl_pairOf Q μ [xi v1] := fun σ0 σ hM => e_Mdl_pairOf (h σ0 σ hM)
theorem B_draftLines_0 {Ω : Om} {σ0 : Sto} {m : Nat} {R : Room} {F : QF} {μ : Mu}  (h : (((mI μ 11) = (0 : Int) → Mw Ω σ0 m M_Mdl_draftLines R F 16 [xr (some m)] [xi (-1), xr (some m)] μ) ∧ (¬ (mI μ 11) = (0 : Int) → Mw Ω σ0 m M_Mdl_draftLines R F 9 [xr (some m)] [xr (some m), xr (some m)] μ))) : Mw Ω σ0 m M_Mdl_draftLines R F 0 [xr (some m)] [] μ := by
  intro σ hM
  obtain ⟨hS, hk, e⟩ := id hM
  subst e
  refine b_Mdl_draftLines_0 ?_
  refine ⟨hS.2.1, ?_⟩
  refine fun _ => ?_
  refine ⟨fun c => ?_, fun c => ?_⟩
  · have h := h.1 c
    exact h _ hM
  · have h := h.2 c
    exact h _ hM
theorem B_draftLines_12 {Ω : Om} {σ0 : Sto} {m : Nat} {R : Room} {F : QF} {μ : Mu} {s1 : Int} (h : Mw Ω σ0 m M_Mdl_draftLines R F 16 [xr (some m)] [xi s1, xr (some m)] μ) : Mw Ω σ0 m M_Mdl_draftLines R F 12 [xr (some m)] [xi s1, xr (some m)] μ := by
  intro σ hM
  obtain ⟨hS, hk, e⟩ := id hM
  subst e
  refine b_Mdl_draftLines_12 ?_
  exact h _ hM
theorem C_draftLines_9 {Ω : Om} {σ0 : Sto} {m : Nat} {F : QF} {L st : List PV} {μ : Mu} {Q : Int → Mu → Prop}  (hc : MMi Ω m M_Mdl_lineCount rm_Mdl_lineCount Q μ []) (kk : ∀ y μ', Q y μ' → Mw Ω σ0 m M_Mdl_draftLines rm_Mdl_draftLines F 12 L (xi y :: st) μ') (hst : (st.map catP).sum ≤ 8 := by exact Nat.le_of_ble_eq_true rfl) : Mw Ω σ0 m M_Mdl_draftLines rm_Mdl_draftLines F 9 L (xr (some m) :: st) μ :=
  fun σ hM => c_Mdl_draftLines_9 (hc σ0 σ hM) hM.1.2.1 (by decide) (by decide) (by decide) (by decide) hst (fun y σ' hq => by obtain ⟨μ', h1, h2⟩ := hq; exact kk y μ' h2 σ' h1) (fun _ _ h => h.elim)
theorem C_draftLines_16 {Ω : Om} {σ0 : Sto} {m : Nat} {F : QF} {L st : List PV} {μ : Mu} {Q : Int → Mu → Prop} {x0 : Int} (hc : MMi Ω m M_Mdl_fine rm_Mdl_fine Q μ [xi x0]) (kk : ∀ y μ', Q y μ' → Mw Ω σ0 m M_Mdl_draftLines rm_Mdl_draftLines F 19 L (xi y :: st) μ') (hst : (st.map catP).sum ≤ 8 := by exact Nat.le_of_ble_eq_true rfl) : Mw Ω σ0 m M_Mdl_draftLines rm_Mdl_draftLines F 16 L (xi x0 :: xr (some m) :: st) μ :=
  fun σ hM => c_Mdl_draftLines_16 (hc σ0 σ hM) hM.1.2.1 (by decide) (by decide) (by decide) (by decide) hst (fun y σ' hq => by obtain ⟨μ', h1, h2⟩ := hq; exact kk y μ' h2 σ' h1) (fun _ _ h => h.elim)
theorem R_draftLines_19 {Ω : Om} {σ0 : Sto} {m : Nat} {L : List PV} {μ : Mu} {Q : Int → Mu → Prop} {x : Int} (h : Q x μ) : Mw Ω σ0 m M_Mdl_draftLines rm_Mdl_draftLines (MQi Ω σ0 m rm_Mdl_draftLines Q) 19 L [xi x] μ := fun σ hM => r_Mdl_draftLines_19 ⟨_, rfl, μ, hM, h⟩ (by decide) (by decide)
theorem E_draftLines {Ω : Om} {m : Nat} {μ : Mu} {Q : Int → Mu → Prop}  (h : ∀ σ0, Mw Ω σ0 m M_Mdl_draftLines rm_Mdl_draftLines (MQi Ω σ0 m rm_Mdl_draftLines Q) 0 [xr (some m)] [] μ) : MMi Ω m M_Mdl_draftLines rm_Mdl_draftLines Q μ [] := fun σ0 σ hM => e_Mdl_draftLines (h σ0 σ hM)
theorem B_isPatch_0 {Ω : Om} {σ0 : Sto} {m : Nat} {R : Room} {F : QF} {μ : Mu} {v1 : Int} (h : Mw Ω σ0 m M_Mdl_isPatch R F 8 [xr (some m), xi v1] [xi ((mI μ 29) - 1), xi 0, xi v1] μ) : Mw Ω σ0 m M_Mdl_isPatch R F 0 [xr (some m), xi v1] [] μ := by
  intro σ hM
  obtain ⟨hS, hk, e⟩ := id hM
  subst e
  refine b_Mdl_isPatch_0 ?_
  refine ⟨hS.2.1, ?_⟩
  refine fun _ => ?_
  exact h _ hM
theorem C_isPatch_8 {Ω : Om} {σ0 : Sto} {m : Nat} {F : QF} {L st : List PV} {μ : Mu} {P : Int → Prop} {x0 : Int} {x1 : Int} {x2 : Int} (hc : MPi Ω M_Mdl_in rm_Mdl_in P [xi x0, xi x1, xi x2]) (kk : ∀ y , P y  → Mw Ω σ0 m M_Mdl_isPatch rm_Mdl_isPatch F 11 L (xi y :: st) μ) (hst : (st.map catP).sum ≤ 8 := by exact Nat.le_of_ble_eq_true rfl) : Mw Ω σ0 m M_Mdl_isPatch rm_Mdl_isPatch F 8 L (xi x2 :: xi x1 :: xi x0 :: st) μ :=
  fun σ hM => c_Mdl_isPatch_8 (hc σ) (by decide) (by decide) (by decide) (by decide) hst (fun y σ' hq => by obtain ⟨rfl, h2⟩ := hq; exact kk y h2 σ' hM) (fun _ _ h => h.elim)
theorem R_isPatch_11 {Ω : Om} {σ0 : Sto} {m : Nat} {L : List PV} {μ : Mu} {Q : Int → Mu → Prop} {x : Int} (hx : x = 0 ∨ x = 1) (h : Q x μ) : Mw Ω σ0 m M_Mdl_isPatch rm_Mdl_isPatch (MQi Ω σ0 m rm_Mdl_isPatch Q) 11 L [xi x] μ := fun σ hM => r_Mdl_isPatch_11 hx ⟨_, rfl, μ, hM, h⟩ (by decide) (by decide)
theorem E_isPatch {Ω : Om} {m : Nat} {μ : Mu} {Q : Int → Mu → Prop} {v1 : Int} (h : ∀ σ0, Mw Ω σ0 m M_Mdl_isPatch rm_Mdl_isPatch (MQi Ω σ0 m rm_Mdl_isPatch Q) 0 [xr (some m), xi v1] [] μ) : MMi Ω m M_Mdl_isPatch rm_Mdl_isPatch Q μ [xi v1] := fun σ0 σ hM => e_Mdl_isPatch (h σ0 σ hM)
theorem B_versions_0 {Ω : Om} {σ0 : Sto} {m : Nat} {R : Room} {F : QF} {μ : Mu}  (h : Mw Ω σ0 m M_Mdl_versions R F 5 [xr (some m)] [xi (mI μ 5), xr (some m)] μ) : Mw Ω σ0 m M_Mdl_versions R F 0 [xr (some m)] [] μ := by
  intro σ hM
  obtain ⟨hS, hk, e⟩ := id hM
  subst e
  refine b_Mdl_versions_0 ?_
  refine ⟨hS.2.1, ?_⟩
  refine fun _ => ?_
  exact h _ hM
theorem C_versions_5 {Ω : Om} {σ0 : Sto} {m : Nat} {F : QF} {L st : List PV} {μ : Mu} {Q : Int → Mu → Prop} {x0 : Int} (hc : MMi Ω m M_Mdl_fine rm_Mdl_fine Q μ [xi x0]) (kk : ∀ y μ', Q y μ' → Mw Ω σ0 m M_Mdl_versions rm_Mdl_versions F 8 L (xi y :: st) μ') (hst : (st.map catP).sum ≤ 8 := by exact Nat.le_of_ble_eq_true rfl) : Mw Ω σ0 m M_Mdl_versions rm_Mdl_versions F 5 L (xi x0 :: xr (some m) :: st) μ :=
  fun σ hM => c_Mdl_versions_5 (hc σ0 σ hM) hM.1.2.1 (by decide) (by decide) (by decide) (by decide) hst (fun y σ' hq => by obtain ⟨μ', h1, h2⟩ := hq; exact kk y μ' h2 σ' h1) (fun _ _ h => h.elim)
theorem R_versions_8 {Ω : Om} {σ0 : Sto} {m : Nat} {L : List PV} {μ : Mu} {Q : Int → Mu → Prop} {x : Int} (h : Q x μ) : Mw Ω σ0 m M_Mdl_versions rm_Mdl_versions (MQi Ω σ0 m rm_Mdl_versions Q) 8 L [xi x] μ := fun σ hM => r_Mdl_versions_8 ⟨_, rfl, μ, hM, h⟩ (by decide) (by decide)
theorem E_versions {Ω : Om} {m : Nat} {μ : Mu} {Q : Int → Mu → Prop}  (h : ∀ σ0, Mw Ω σ0 m M_Mdl_versions rm_Mdl_versions (MQi Ω σ0 m rm_Mdl_versions Q) 0 [xr (some m)] [] μ) : MMi Ω m M_Mdl_versions rm_Mdl_versions Q μ [] := fun σ0 σ hM => e_Mdl_versions (h σ0 σ hM)
