/-! walks of the reference over its memory, 2 (by program) -/
theorem B_pair_0 {Ω : Om} {σ0 : Sto} {m : Nat} {R : Room} {F : QF} {μ : Mu} {v1 : Int} {v2 : Int} {v3 : Int} (h : 0 ≤ v1 ∧ v1 < 40 ∧ 0 ≤ v2 ∧ v2 < 40 ∧ Mw Ω σ0 m M_Mdl_pair R F 20 [xr (some m), xi v1, xi v2, xi v3, xi (mA μ 4 (v1).toNat), xi (mA μ 4 (v2).toNat), xi (mA μ 4 (v1).toNat), xu, xu, xu, xu] [] μ) : Mw Ω σ0 m M_Mdl_pair R F 0 [xr (some m), xi v1, xi v2, xi v3, xu, xu, xu, xu, xu, xu, xu] [] μ := by
  intro σ hM
  obtain ⟨hS, hk, e⟩ := id hM
  subst e
  refine b_Mdl_pair_0 ?_
  refine ⟨hS.2.1, ?_⟩
  refine ⟨_, hS.r4, ?_⟩
  refine ⟨hS.k4, ?_⟩
  obtain ⟨o, h⟩ := h
  refine ⟨o, ?_⟩
  obtain ⟨o, h⟩ := h
  refine ⟨hS.b4 o, ?_⟩
  refine fun _ => ?_
  obtain ⟨o, h⟩ := h
  refine ⟨o, ?_⟩
  obtain ⟨o, h⟩ := h
  refine ⟨hS.b4 o, ?_⟩
  refine fun _ => ?_
  exact h _ hM
theorem B_pair_20 {Ω : Om} {σ0 : Sto} {m : Nat} {R : Room} {F : QF} {μ : Mu} {v1 : Int} {v2 : Int} {v3 : Int} {v4 : Int} {v5 : Int} {v6 : Int} (h : Q32 v6 ∧ ((v6 < (0 : Int) → Mw Ω σ0 m M_Mdl_pair R F 239 [xr (some m), xi v1, xi v2, xi v3, xi v4, xi v5, xi 0, xi 0, xi 0, xu, xu] [] μ) ∧ (¬ v6 < (0 : Int) → Mw Ω σ0 m M_Mdl_pair R F 29 [xr (some m), xi v1, xi v2, xi v3, xi v4, xi v5, xi v6, xi v5, xu, xu, xu] [] μ))) : Mw Ω σ0 m M_Mdl_pair R F 20 [xr (some m), xi v1, xi v2, xi v3, xi v4, xi v5, xi v6, xu, xu, xu, xu] [] μ := by
  intro σ hM
  obtain ⟨hS, hk, e⟩ := id hM
  subst e
  refine b_Mdl_pair_20 ?_
  obtain ⟨o, h⟩ := h
  refine ⟨o, ?_⟩
  refine ⟨fun c => ?_, fun c => ?_⟩
  · have h := h.1 c
    exact h _ hM
  · have h := h.2 c
    exact h _ hM
theorem B_pair_29 {Ω : Om} {σ0 : Sto} {m : Nat} {R : Room} {F : QF} {μ : Mu} {v1 : Int} {v2 : Int} {v3 : Int} {v4 : Int} {v5 : Int} {v6 : Int} {v7 : Int} (h : Q32 v7 ∧ ((v7 < (0 : Int) → Mw Ω σ0 m M_Mdl_pair R F 20 [xr (some m), xi v1, xi v2, xi v3, xi v4, xi v5, xi (v6 + (-1)), xu, xu, xu, xu] [] μ) ∧ (¬ v7 < (0 : Int) → Q32 v6 ∧ Q32 v4 ∧ ((v6 = v4 → Mw Ω σ0 m M_Mdl_pair R F 48 [xr (some m), xi v1, xi v2, xi v3, xi v4, xi v5, xi v6, xi v7, xu, xu, xu] [] μ) ∧ (¬ v6 = v4 → Q32 v5 ∧ ((¬ v7 = v5 → Mw Ω σ0 m M_Mdl_pair R F 53 [xr (some m), xi v1, xi v2, xi v3, xi v4, xi v5, xi v6, xi v7, xu, xu, xu] [xi 0] μ) ∧ (v7 = v5 → Mw Ω σ0 m M_Mdl_pair R F 48 [xr (some m), xi v1, xi v2, xi v3, xi v4, xi v5, xi v6, xi v7, xu, xu, xu] [] μ))))))) : Mw Ω σ0 m M_Mdl_pair R F 29 [xr (some m), xi v1, xi v2, xi v3, xi v4, xi v5, xi v6, xi v7, xu, xu, xu] [] μ := by
  intro σ hM
  obtain ⟨hS, hk, e⟩ := id hM
  subst e
  refine b_Mdl_pair_29 ?_
  obtain ⟨o, h⟩ := h
  refine ⟨o, ?_⟩
  refine ⟨fun c => ?_, fun c => ?_⟩
  · have h := h.1 c
    exact h _ hM
  · have h := h.2 c
    obtain ⟨o, h⟩ := h
    refine ⟨o, ?_⟩
    obtain ⟨o, h⟩ := h
    refine ⟨o, ?_⟩
    refine ⟨fun c => ?_, fun c => ?_⟩
    · have h := h.1 c
      exact h _ hM
    · have h := h.2 c
      obtain ⟨o, h⟩ := h
      refine ⟨o, ?_⟩
      refine ⟨fun c => ?_, fun c => ?_⟩
      · have h := h.1 c
        exact h _ hM
      · have h := h.2 c
        exact h _ hM
theorem B_pair_48 {Ω : Om} {σ0 : Sto} {m : Nat} {R : Room} {F : QF} {μ : Mu} {v1 : Int} {v2 : Int} {v3 : Int} {v4 : Int} {v5 : Int} {v6 : Int} {v7 : Int} (h : 0 ≤ ((21 * v6) + v7) ∧ ((21 * v6) + v7) < 441 ∧ Mw Ω σ0 m M_Mdl_pair R F 29 [xr (some m), xi v1, xi v2, xi v3, xi v4, xi v5, xi v6, xi (v7 + (-1)), xu, xu, xu] [] (wA μ 29 ((21 * v6) + v7).toNat 0)) : Mw Ω σ0 m M_Mdl_pair R F 48 [xr (some m), xi v1, xi v2, xi v3, xi v4, xi v5, xi v6, xi v7, xu, xu, xu] [] μ := by
  intro σ hM
  obtain ⟨hS, hk, e⟩ := id hM
  subst e
  refine b_Mdl_pair_48 ?_
  refine ⟨hS.2.1, ?_⟩
  refine ⟨_, hS.r29, ?_⟩
  refine ⟨hS.k29, ?_⟩
  obtain ⟨o, h⟩ := h
  refine ⟨o, ?_⟩
  obtain ⟨o, h⟩ := h
  refine ⟨hS.b29 o, ?_⟩
  exact h _ (MR.vI (j := 29) (by decide) hM)
theorem B_pair_53 {Ω : Om} {σ0 : Sto} {m : Nat} {R : Room} {F : QF} {μ : Mu} {v1 : Int} {v2 : Int} {v3 : Int} {v4 : Int} {v5 : Int} {v6 : Int} {v7 : Int} {s0 : Int} (h : Q32 s0 ∧ ((s0 = (0 : Int) → 0 ≤ ((21 * (v6 + 1)) + v7) ∧ ((21 * (v6 + 1)) + v7) < 441 ∧ 0 ≤ (((21 * v6) + v7) + 1) ∧ (((21 * v6) + v7) + 1) < 441 ∧ (((mA μ 29 ((21 * (v6 + 1)) + v7).toNat) ≤ (mA μ 29 (((21 * v6) + v7) + 1).toNat) → ((¬ s0 = (0 : Int) → 0 ≤ ((21 * v6) + v7) ∧ ((21 * v6) + v7) < 441 ∧ Mw Ω σ0 m M_Mdl_pair R F 29 [xr (some m), xi v1, xi v2, xi v3, xi v4, xi v5, xi v6, xi (v7 + (-1)), xu, xu, xu] [] (wA μ 29 ((21 * v6) + v7).toNat (mA μ 29 (((21 * v6) + v7) + 1).toNat))) ∧ (s0 = (0 : Int) → 0 ≤ ((20 * v1) + v6) ∧ ((20 * v1) + v6) < 800 ∧ 0 ≤ ((20 * v2) + v7) ∧ ((20 * v2) + v7) < 800 ∧ Mw Ω σ0 m M_Mdl_pair R F 163 [xr (some m), xi v1, xi v2, xi v3, xi v4, xi v5, xi v6, xi v7, xi s0, xi (mA μ 29 (((21 * v6) + v7) + 1).toNat), xu] [xi v3, xi (mA μ 5 ((20 * v2) + v7).toNat), xi (mA μ 5 ((20 * v1) + v6).toNat), xr (some m)] μ))) ∧ (¬ (mA μ 29 ((21 * (v6 + 1)) + v7).toNat) ≤ (mA μ 29 (((21 * v6) + v7) + 1).toNat) → ((¬ s0 = (0 : Int) → 0 ≤ ((21 * v6) + v7) ∧ ((21 * v6) + v7) < 441 ∧ Mw Ω σ0 m M_Mdl_pair R F 29 [xr (some m), xi v1, xi v2, xi v3, xi v4, xi v5, xi v6, xi (v7 + (-1)), xu, xu, xu] [] (wA μ 29 ((21 * v6) + v7).toNat (mA μ 29 ((21 * (v6 + 1)) + v7).toNat))) ∧ (s0 = (0 : Int) → 0 ≤ ((20 * v1) + v6) ∧ ((20 * v1) + v6) < 800 ∧ 0 ≤ ((20 * v2) + v7) ∧ ((20 * v2) + v7) < 800 ∧ Mw Ω σ0 m M_Mdl_pair R F 163 [xr (some m), xi v1, xi v2, xi v3, xi v4, xi v5, xi v6, xi v7, xi s0, xi (mA μ 29 ((21 * (v6 + 1)) + v7).toNat), xu] [xi v3, xi (mA μ 5 ((20 * v2) + v7).toNat), xi (mA μ 5 ((20 * v1) + v6).toNat), xr (some m)] μ))))) ∧ (¬ s0 = (0 : Int) → ((¬ s0 = (0 : Int) → 0 ≤ ((21 * v6) + v7) ∧ ((21 * v6) + v7) < 441 ∧ Mw Ω σ0 m M_Mdl_pair R F 29 [xr (some m), xi v1, xi v2, xi v3, xi v4, xi v5, xi v6, xi (v7 + (-1)), xu, xu, xu] [] (wA μ 29 ((21 * v6) + v7).toNat 0)) ∧ (s0 = (0 : Int) → 0 ≤ ((20 * v1) + v6) ∧ ((20 * v1) + v6) < 800 ∧ 0 ≤ ((20 * v2) + v7) ∧ ((20 * v2) + v7) < 800 ∧ Mw Ω σ0 m M_Mdl_pair R F 163 [xr (some m), xi v1, xi v2, xi v3, xi v4, xi v5, xi v6, xi v7, xi s0, xi 0, xu] [xi v3, xi (mA μ 5 ((20 * v2) + v7).toNat), xi (mA μ 5 ((20 * v1) + v6).toNat), xr (some m)] μ))))) : Mw Ω σ0 m M_Mdl_pair R F 53 [xr (some m), xi v1, xi v2, xi v3, xi v4, xi v5, xi v6, xi v7, xu, xu, xu] [xi s0] μ := by
  intro σ hM
  obtain ⟨hS, hk, e⟩ := id hM
  subst e
  refine b_Mdl_pair_53 ?_
  obtain ⟨o, h⟩ := h
  refine ⟨o, ?_⟩
  refine ⟨fun c => ?_, fun c => ?_⟩
  · have h := h.1 c
    refine ⟨hS.2.1, ?_⟩
    refine ⟨_, hS.r29, ?_⟩
    refine ⟨hS.k29, ?_⟩
    obtain ⟨o, h⟩ := h
    refine ⟨o, ?_⟩
    obtain ⟨o, h⟩ := h
    refine ⟨hS.b29 o, ?_⟩
    refine fun _ => ?_
    obtain ⟨o, h⟩ := h
    refine ⟨o, ?_⟩
    obtain ⟨o, h⟩ := h
    refine ⟨hS.b29 o, ?_⟩
    refine fun _ => ?_
    refine ⟨fun c => ?_, fun c => ?_⟩
    · have h := h.1 c
      refine fun _ => ?_
      refine ⟨fun c => ?_, fun c => ?_⟩
      · have h := h.1 c
        obtain ⟨o, h⟩ := h
        refine ⟨o, ?_⟩
        obtain ⟨o, h⟩ := h
        refine ⟨hS.b29 o, ?_⟩
        exact h _ (MR.vI (j := 29) (by decide) hM)
      · have h := h.2 c
        refine ⟨_, hS.r5, ?_⟩
        refine ⟨hS.k5, ?_⟩
        obtain ⟨o, h⟩ := h
        refine ⟨o, ?_⟩
        obtain ⟨o, h⟩ := h
        refine ⟨hS.b5 o, ?_⟩
        refine fun _ => ?_
        obtain ⟨o, h⟩ := h
        refine ⟨o, ?_⟩
        obtain ⟨o, h⟩ := h
        refine ⟨hS.b5 o, ?_⟩
        refine fun _ => ?_
        exact h _ hM
    · have h := h.2 c
      refine fun _ => ?_
      refine ⟨fun c => ?_, fun c => ?_⟩
      · have h := h.1 c
        obtain ⟨o, h⟩ := h
        refine ⟨o, ?_⟩
        obtain ⟨o, h⟩ := h
        refine ⟨hS.b29 o, ?_⟩
        exact h _ (MR.vI (j := 29) (by decide) hM)
      · have h := h.2 c
        refine ⟨_, hS.r5, ?_⟩
        refine ⟨hS.k5, ?_⟩
        obtain ⟨o, h⟩ := h
        refine ⟨o, ?_⟩
        obtain ⟨o, h⟩ := h
        refine ⟨hS.b5 o, ?_⟩
        refine fun _ => ?_
        obtain ⟨o, h⟩ := h
        refine ⟨o, ?_⟩
        obtain ⟨o, h⟩ := h
        refine ⟨hS.b5 o, ?_⟩
        refine fun _ => ?_
        exact h _ hM
  · have h := h.2 c
    refine ⟨fun c => ?_, fun c => ?_⟩
    · have h := h.1 c
      refine ⟨hS.2.1, ?_⟩
      refine ⟨_, hS.r29, ?_⟩
      refine ⟨hS.k29, ?_⟩
      obtain ⟨o, h⟩ := h
      refine ⟨o, ?_⟩
      obtain ⟨o, h⟩ := h
      refine ⟨hS.b29 o, ?_⟩
      exact h _ (MR.vI (j := 29) (by decide) hM)
    · have h := h.2 c
      refine ⟨hS.2.1, ?_⟩
      refine ⟨_, hS.r5, ?_⟩
      refine ⟨hS.k5, ?_⟩
      obtain ⟨o, h⟩ := h
      refine ⟨o, ?_⟩
      obtain ⟨o, h⟩ := h
      refine ⟨hS.b5 o, ?_⟩
      refine fun _ => ?_
      obtain ⟨o, h⟩ := h
      refine ⟨o, ?_⟩
      obtain ⟨o, h⟩ := h
      refine ⟨hS.b5 o, ?_⟩
      refine fun _ => ?_
      exact h _ hM
theorem B_pair_166 {Ω : Om} {σ0 : Sto} {m : Nat} {R : Room} {F : QF} {μ : Mu} {v1 : Int} {v2 : Int} {v3 : Int} {v4 : Int} {v5 : Int} {v6 : Int} {v7 : Int} {v8 : Int} {v9 : Int} {s0 : Int} (h : Q32 s0 ∧ ((s0 = (0 : Int) → 0 ≤ ((21 * v6) + v7) ∧ ((21 * v6) + v7) < 441 ∧ Q32 v9 ∧ Mw Ω σ0 m M_Mdl_pair R F 29 [xr (some m), xi v1, xi v2, xi v3, xi v4, xi v5, xi v6, xi (v7 + (-1)), xu, xu, xu] [] (wA μ 29 ((21 * v6) + v7).toNat v9)) ∧ (¬ s0 = (0 : Int) → 0 ≤ (((21 * (v6 + 1)) + v7) + 1) ∧ (((21 * (v6 + 1)) + v7) + 1) < 441 ∧ 0 ≤ ((21 * v6) + v7) ∧ ((21 * v6) + v7) < 441 ∧ Q32 ((mA μ 29 (((21 * (v6 + 1)) + v7) + 1).toNat) + 1) ∧ Mw Ω σ0 m M_Mdl_pair R F 29 [xr (some m), xi v1, xi v2, xi v3, xi v4, xi v5, xi v6, xi (v7 + (-1)), xu, xu, xu] [] (wA μ 29 ((21 * v6) + v7).toNat ((mA μ 29 (((21 * (v6 + 1)) + v7) + 1).toNat) + 1))))) : Mw Ω σ0 m M_Mdl_pair R F 166 [xr (some m), xi v1, xi v2, xi v3, xi v4, xi v5, xi v6, xi v7, xi v8, xi v9, xu] [xi s0] μ := by
  intro σ hM
  obtain ⟨hS, hk, e⟩ := id hM
  subst e
  refine b_Mdl_pair_166 ?_
  obtain ⟨o, h⟩ := h
  refine ⟨o, ?_⟩
  refine ⟨fun c => ?_, fun c => ?_⟩
  · have h := h.1 c
    refine ⟨hS.2.1, ?_⟩
    refine ⟨_, hS.r29, ?_⟩
    refine ⟨hS.k29, ?_⟩
    obtain ⟨o, h⟩ := h
    refine ⟨o, ?_⟩
    obtain ⟨o, h⟩ := h
    refine ⟨hS.b29 o, ?_⟩
    obtain ⟨o, h⟩ := h
    refine ⟨o, ?_⟩
    exact h _ (MR.vI (j := 29) (by decide) hM)
  · have h := h.2 c
    refine ⟨hS.2.1, ?_⟩
    refine ⟨_, hS.r29, ?_⟩
    refine ⟨hS.k29, ?_⟩
    obtain ⟨o, h⟩ := h
    refine ⟨o, ?_⟩
    obtain ⟨o, h⟩ := h
    refine ⟨hS.b29 o, ?_⟩
    refine fun _ => ?_
    obtain ⟨o, h⟩ := h
    refine ⟨o, ?_⟩
    obtain ⟨o, h⟩ := h
    refine ⟨hS.b29 o, ?_⟩
    obtain ⟨o, h⟩ := h
    refine ⟨o, ?_⟩
    exact h _ (MR.vI (j := 29) (by decide) hM)
theorem B_pair_239 {Ω : Om} {σ0 : Sto} {m : Nat} {R : Room} {F : QF} {μ : Mu} {v1 : Int} {v2 : Int} {v3 : Int} {v4 : Int} {v5 : Int} {v6 : Int} {v7 : Int} {v8 : Int} (h : Q32 v6 ∧ Q32 v4 ∧ ((v4 ≤ v6 → Mw Ω σ0 m M_Mdl_pair R F 415 [xr (some m), xi v1, xi v2, xi v3, xi v4, xi v5, xi v6, xi v7, xi v8, xu, xu] [xi v8] μ) ∧ (¬ v4 ≤ v6 → Q32 v7 ∧ Q32 v5 ∧ ((v5 ≤ v7 → Mw Ω σ0 m M_Mdl_pair R F 289 [xr (some m), xi v1, xi v2, xi v3, xi v4, xi v5, xi v6, xi v7, xi v8, xu, xu] [] μ) ∧ (¬ v5 ≤ v7 → 0 ≤ ((20 * v1) + v6) ∧ ((20 * v1) + v6) < 800 ∧ 0 ≤ ((20 * v2) + v7) ∧ ((20 * v2) + v7) < 800 ∧ Mw Ω σ0 m M_Mdl_pair R F 279 [xr (some m), xi v1, xi v2, xi v3, xi v4, xi v5, xi v6, xi v7, xi v8, xu, xu] [xi v3, xi (mA μ 5 ((20 * v2) + v7).toNat), xi (mA μ 5 ((20 * v1) + v6).toNat), xr (some m)] μ))))) : Mw Ω σ0 m M_Mdl_pair R F 239 [xr (some m), xi v1, xi v2, xi v3, xi v4, xi v5, xi v6, xi v7, xi v8, xu, xu] [] μ := by
  intro σ hM
  obtain ⟨hS, hk, e⟩ := id hM
  subst e
  refine b_Mdl_pair_239 ?_
  obtain ⟨o, h⟩ := h
  refine ⟨o, ?_⟩
  obtain ⟨o, h⟩ := h
  refine ⟨o, ?_⟩
  refine ⟨fun c => ?_, fun c => ?_⟩
  · have h := h.1 c
    exact h _ hM
  · have h := h.2 c
    obtain ⟨o, h⟩ := h
    refine ⟨o, ?_⟩
    obtain ⟨o, h⟩ := h
    refine ⟨o, ?_⟩
    refine ⟨fun c => ?_, fun c => ?_⟩
    · have h := h.1 c
      exact h _ hM
    · have h := h.2 c
      refine ⟨hS.2.1, ?_⟩
      refine ⟨_, hS.r5, ?_⟩
      refine ⟨hS.k5, ?_⟩
      obtain ⟨o, h⟩ := h
      refine ⟨o, ?_⟩
      obtain ⟨o, h⟩ := h
      refine ⟨hS.b5 o, ?_⟩
      refine fun _ => ?_
      obtain ⟨o, h⟩ := h
      refine ⟨o, ?_⟩
      obtain ⟨o, h⟩ := h
      refine ⟨hS.b5 o, ?_⟩
      refine fun _ => ?_
      exact h _ hM
theorem B_pair_282 {Ω : Om} {σ0 : Sto} {m : Nat} {R : Room} {F : QF} {μ : Mu} {v1 : Int} {v2 : Int} {v3 : Int} {v4 : Int} {v5 : Int} {v6 : Int} {v7 : Int} {v8 : Int} {s0 : Int} (h : Q32 s0 ∧ ((s0 = (0 : Int) → Mw Ω σ0 m M_Mdl_pair R F 289 [xr (some m), xi v1, xi v2, xi v3, xi v4, xi v5, xi v6, xi v7, xi v8, xu, xu] [] μ) ∧ (¬ s0 = (0 : Int) → Mw Ω σ0 m M_Mdl_pair R F 290 [xr (some m), xi v1, xi v2, xi v3, xi v4, xi v5, xi v6, xi v7, xi v8, xu, xu] [xi 1] μ))) : Mw Ω σ0 m M_Mdl_pair R F 282 [xr (some m), xi v1, xi v2, xi v3, xi v4, xi v5, xi v6, xi v7, xi v8, xu, xu] [xi s0] μ := by
  intro σ hM
  obtain ⟨hS, hk, e⟩ := id hM
  subst e
  refine b_Mdl_pair_282 ?_
  obtain ⟨o, h⟩ := h
  refine ⟨o, ?_⟩
  refine ⟨fun c => ?_, fun c => ?_⟩
  · have h := h.1 c
    exact h _ hM
  · have h := h.2 c
    exact h _ hM
theorem B_pair_290 {Ω : Om} {σ0 : Sto} {m : Nat} {R : Room} {F : QF} {μ : Mu} {v1 : Int} {v2 : Int} {v3 : Int} {v4 : Int} {v5 : Int} {v6 : Int} {v7 : Int} {v8 : Int} {s0 : Int} (h : Q32 v7 ∧ Q32 v5 ∧ ((v7 = v5 → Mw Ω σ0 m M_Mdl_pair R F 335 [xr (some m), xi v1, xi v2, xi v3, xi v4, xi v5, xi v6, xi v7, xi v8, xi s0, xu] [] μ) ∧ (¬ v7 = v5 → Q32 s0 ∧ ((¬ s0 = (0 : Int) → Mw Ω σ0 m M_Mdl_pair R F 339 [xr (some m), xi v1, xi v2, xi v3, xi v4, xi v5, xi v6, xi v7, xi v8, xi s0, xu] [] μ) ∧ (s0 = (0 : Int) → 0 ≤ ((21 * (v6 + 1)) + v7) ∧ ((21 * (v6 + 1)) + v7) < 441 ∧ 0 ≤ ((21 * v6) + v7) ∧ ((21 * v6) + v7) < 441 ∧ ((¬ (mA μ 29 ((21 * (v6 + 1)) + v7).toNat) = (mA μ 29 ((21 * v6) + v7).toNat) → Mw Ω σ0 m M_Mdl_pair R F 339 [xr (some m), xi v1, xi v2, xi v3, xi v4, xi v5, xi v6, xi v7, xi v8, xi s0, xu] [] μ) ∧ ((mA μ 29 ((21 * (v6 + 1)) + v7).toNat) = (mA μ 29 ((21 * v6) + v7).toNat) → Mw Ω σ0 m M_Mdl_pair R F 335 [xr (some m), xi v1, xi v2, xi v3, xi v4, xi v5, xi v6, xi v7, xi v8, xi s0, xu] [] μ))))))) : Mw Ω σ0 m M_Mdl_pair R F 290 [xr (some m), xi v1, xi v2, xi v3, xi v4, xi v5, xi v6, xi v7, xi v8, xu, xu] [xi s0] μ := by
  intro σ hM
  obtain ⟨hS, hk, e⟩ := id hM
  subst e
  refine b_Mdl_pair_290 ?_
  obtain ⟨o, h⟩ := h
  refine ⟨o, ?_⟩
  obtain ⟨o, h⟩ := h
  refine ⟨o, ?_⟩
  refine ⟨fun c => ?_, fun c => ?_⟩
  · have h := h.1 c
    exact h _ hM
  · have h := h.2 c
    obtain ⟨o, h⟩ := h
    refine ⟨o, ?_⟩
    refine ⟨fun c => ?_, fun c => ?_⟩
    · have h := h.1 c
      exact h _ hM
    · have h := h.2 c
      refine ⟨hS.2.1, ?_⟩
      refine ⟨_, hS.r29, ?_⟩
      refine ⟨hS.k29, ?_⟩
      obtain ⟨o, h⟩ := h
      refine ⟨o, ?_⟩
      obtain ⟨o, h⟩ := h
      refine ⟨hS.b29 o, ?_⟩
      refine fun _ => ?_
      obtain ⟨o, h⟩ := h
      refine ⟨o, ?_⟩
      obtain ⟨o, h⟩ := h
      refine ⟨hS.b29 o, ?_⟩
      refine fun _ => ?_
      refine ⟨fun c => ?_, fun c => ?_⟩
      · have h := h.1 c
        exact h _ hM
      · have h := h.2 c
        exact h _ hM
theorem B_pair_335 {Ω : Om} {σ0 : Sto} {m : Nat} {R : Room} {F : QF} {μ : Mu} {v1 : Int} {v2 : Int} {v3 : Int} {v4 : Int} {v5 : Int} {v6 : Int} {v7 : Int} {v8 : Int} {v9 : Int} (h : Mw Ω σ0 m M_Mdl_pair R F 340 [xr (some m), xi v1, xi v2, xi v3, xi v4, xi v5, xi v6, xi v7, xi v8, xi v9, xu] [xi 1] μ) : Mw Ω σ0 m M_Mdl_pair R F 335 [xr (some m), xi v1, xi v2, xi v3, xi v4, xi v5, xi v6, xi v7, xi v8, xi v9, xu] [] μ := by
  intro σ hM
  obtain ⟨hS, hk, e⟩ := id hM
  subst e
  refine b_Mdl_pair_335 ?_
  exact h _ hM
theorem B_pair_340 {Ω : Om} {σ0 : Sto} {m : Nat} {R : Room} {F : QF} {μ : Mu} {v1 : Int} {v2 : Int} {v3 : Int} {v4 : Int} {v5 : Int} {v6 : Int} {v7 : Int} {v8 : Int} {v9 : Int} {s0 : Int} (h : Q32 v9 ∧ ((v9 = (0 : Int) → Mw Ω σ0 m M_Mdl_pair R F 359 [xr (some m), xi v1, xi v2, xi v3, xi v4, xi v5, xi v6, xi v7, xi v8, xi v9, xi s0] [xi (-1), xi v6, xr (some (m + 30))] μ) ∧ (¬ v9 = (0 : Int) → Mw Ω σ0 m M_Mdl_pair R F 359 [xr (some m), xi v1, xi v2, xi v3, xi v4, xi v5, xi v6, xi v7, xi v8, xi v9, xi s0] [xi v7, xi v6, xr (some (m + 30))] μ))) : Mw Ω σ0 m M_Mdl_pair R F 340 [xr (some m), xi v1, xi v2, xi v3, xi v4, xi v5, xi v6, xi v7, xi v8, xi v9, xu] [xi s0] μ := by
  intro σ hM
  obtain ⟨hS, hk, e⟩ := id hM
  subst e
  refine b_Mdl_pair_340 ?_
  refine ⟨hS.2.1, ?_⟩
  refine ⟨_, hS.r30, ?_⟩
  obtain ⟨o, h⟩ := h
  refine ⟨o, ?_⟩
  refine ⟨fun c => ?_, fun c => ?_⟩
  · have h := h.1 c
    exact h _ hM
  · have h := h.2 c
    exact h _ hM
theorem B_pair_359 {Ω : Om} {σ0 : Sto} {m : Nat} {R : Room} {F : QF} {μ : Mu} {v1 : Int} {v2 : Int} {v3 : Int} {v4 : Int} {v5 : Int} {v6 : Int} {v7 : Int} {v8 : Int} {v9 : Int} {v10 : Int} {s1 : Int} {s2 : Int} (h : 0 ≤ s1 ∧ s1 < 20 ∧ Q32 s2 ∧ Q32 v9 ∧ ((v9 = (0 : Int) → Mw Ω σ0 m M_Mdl_pair R F 372 [xr (some m), xi v1, xi v2, xi v3, xi v4, xi v5, xi v6, xi v7, xi v8, xi v9, xi v10] [xi 0, xi v8] (wA μ 30 (s1).toNat s2)) ∧ (¬ v9 = (0 : Int) → Mw Ω σ0 m M_Mdl_pair R F 372 [xr (some m), xi v1, xi v2, xi v3, xi v4, xi v5, xi v6, xi v7, xi v8, xi v9, xi v10] [xi 1, xi v8] (wA μ 30 (s1).toNat s2)))) : Mw Ω σ0 m M_Mdl_pair R F 359 [xr (some m), xi v1, xi v2, xi v3, xi v4, xi v5, xi v6, xi v7, xi v8, xi v9, xi v10] [xi s2, xi s1, xr (some (m + 30))] μ := by
  intro σ hM
  obtain ⟨hS, hk, e⟩ := id hM
  subst e
  refine b_Mdl_pair_359 ?_
  refine ⟨hS.k30, ?_⟩
  obtain ⟨o, h⟩ := h
  refine ⟨o, ?_⟩
  obtain ⟨o, h⟩ := h
  refine ⟨hS.b30 o, ?_⟩
  obtain ⟨o, h⟩ := h
  refine ⟨o, ?_⟩
  obtain ⟨o, h⟩ := h
  refine ⟨o, ?_⟩
  refine ⟨fun c => ?_, fun c => ?_⟩
  · have h := h.1 c
    exact h _ (MR.vI (j := 30) (by decide) hM)
  · have h := h.2 c
    exact h _ (MR.vI (j := 30) (by decide) hM)
theorem B_pair_372 {Ω : Om} {σ0 : Sto} {m : Nat} {R : Room} {F : QF} {μ : Mu} {v1 : Int} {v2 : Int} {v3 : Int} {v4 : Int} {v5 : Int} {v6 : Int} {v7 : Int} {v8 : Int} {v9 : Int} {v10 : Int} {s0 : Int} {s1 : Int} (h : Q32 v9 ∧ ((¬ v9 = (0 : Int) → Q32 v10 ∧ ((v10 = (0 : Int) → Mw Ω σ0 m M_Mdl_pair R F 239 [xr (some m), xi v1, xi v2, xi v3, xi v4, xi v5, xi (v6 + 1), xi (v7 + 1), xi (s0 + s1), xu, xu] [] μ) ∧ (¬ v10 = (0 : Int) → Mw Ω σ0 m M_Mdl_pair R F 239 [xr (some m), xi v1, xi v2, xi v3, xi v4, xi v5, xi (v6 + 1), xi (v7 + 0), xi (s0 + s1), xu, xu] [] μ))) ∧ (v9 = (0 : Int) → Q32 v10 ∧ ((v10 = (0 : Int) → ((v10 = (0 : Int) → Mw Ω σ0 m M_Mdl_pair R F 239 [xr (some m), xi v1, xi v2, xi v3, xi v4, xi v5, xi (v6 + 0), xi (v7 + 1), xi (s0 + s1), xu, xu] [] μ) ∧ (¬ v10 = (0 : Int) → Mw Ω σ0 m M_Mdl_pair R F 239 [xr (some m), xi v1, xi v2, xi v3, xi v4, xi v5, xi (v6 + 0), xi (v7 + 0), xi (s0 + s1), xu, xu] [] μ))) ∧ (¬ v10 = (0 : Int) → ((v10 = (0 : Int) → Mw Ω σ0 m M_Mdl_pair R F 239 [xr (some m), xi v1, xi v2, xi v3, xi v4, xi v5, xi (v6 + 1), xi (v7 + 1), xi (s0 + s1), xu, xu] [] μ) ∧ (¬ v10 = (0 : Int) → Mw Ω σ0 m M_Mdl_pair R F 239 [xr (some m), xi v1, xi v2, xi v3, xi v4, xi v5, xi (v6 + 1), xi (v7 + 0), xi (s0 + s1), xu, xu] [] μ))))))) : Mw Ω σ0 m M_Mdl_pair R F 372 [xr (some m), xi v1, xi v2, xi v3, xi v4, xi v5, xi v6, xi v7, xi v8, xi v9, xi v10] [xi s1, xi s0] μ := by
  intro σ hM
  obtain ⟨hS, hk, e⟩ := id hM
  subst e
  refine b_Mdl_pair_372 ?_
  obtain ⟨o, h⟩ := h
  refine ⟨o, ?_⟩
  refine ⟨fun c => ?_, fun c => ?_⟩
  · have h := h.1 c
    obtain ⟨o, h⟩ := h
    refine ⟨o, ?_⟩
    refine ⟨fun c => ?_, fun c => ?_⟩
    · have h := h.1 c
      exact h _ hM
    · have h := h.2 c
      exact h _ hM
  · have h := h.2 c
    obtain ⟨o, h⟩ := h
    refine ⟨o, ?_⟩
    refine ⟨fun c => ?_, fun c => ?_⟩
    · have h := h.1 c
      refine ⟨fun c => ?_, fun c => ?_⟩
      · have h := h.1 c
        exact h _ hM
      · have h := h.2 c
        exact h _ hM
    · have h := h.2 c
      refine ⟨fun c => ?_, fun c => ?_⟩
      · have h := h.1 c
        exact h _ hM
      · have h := h.2 c
        exact h _ hM
theorem B_pair_339 {Ω : Om} {σ0 : Sto} {m : Nat} {R : Room} {F : QF} {μ : Mu} {v1 : Int} {v2 : Int} {v3 : Int} {v4 : Int} {v5 : Int} {v6 : Int} {v7 : Int} {v8 : Int} {v9 : Int} (h : Mw Ω σ0 m M_Mdl_pair R F 340 [xr (some m), xi v1, xi v2, xi v3, xi v4, xi v5, xi v6, xi v7, xi v8, xi v9, xu] [xi 0] μ) : Mw Ω σ0 m M_Mdl_pair R F 339 [xr (some m), xi v1, xi v2, xi v3, xi v4, xi v5, xi v6, xi v7, xi v8, xi v9, xu] [] μ := by
  intro σ hM
  obtain ⟨hS, hk, e⟩ := id hM
  subst e
  refine b_Mdl_pair_339 ?_
  exact h _ hM
theorem B_pair_289 {Ω : Om} {σ0 : Sto} {m : Nat} {R : Room} {F : QF} {μ : Mu} {v1 : Int} {v2 : Int} {v3 : Int} {v4 : Int} {v5 : Int} {v6 : Int} {v7 : Int} {v8 : Int} (h : Mw Ω σ0 m M_Mdl_pair R F 290 [xr (some m), xi v1, xi v2, xi v3, xi v4, xi v5, xi v6, xi v7, xi v8, xu, xu] [xi 0] μ) : Mw Ω σ0 m M_Mdl_pair R F 289 [xr (some m), xi v1, xi v2, xi v3, xi v4, xi v5, xi v6, xi v7, xi v8, xu, xu] [] μ := by
  intro σ hM
  obtain ⟨hS, hk, e⟩ := id hM
  subst e
  refine b_Mdl_pair_289 ?_
  exact h _ hM
theorem C_pair_163 {Ω : Om} {σ0 : Sto} {m : Nat} {F : QF} {L st : List PV} {μ : Mu} {Q : Int → Mu → Prop} {x0 : Int} {x1 : Int} {x2 : Int} (hc : MMi Ω m M_Mdl_areSame rm_Mdl_areSame Q μ [xi x0, xi x1, xi x2]) (kk : ∀ y μ', Q y μ' → Mw Ω σ0 m M_Mdl_pair rm_Mdl_pair F 166 L (xi y :: st) μ') (hst : (st.map catP).sum ≤ 8 := by exact Nat.le_of_ble_eq_true rfl) : Mw Ω σ0 m M_Mdl_pair rm_Mdl_pair F 163 L (xi x2 :: xi x1 :: xi x0 :: xr (some m) :: st) μ :=
  fun σ hM => c_Mdl_pair_163 (hc σ0 σ hM) hM.1.2.1 (by decide) (by decide) (by decide) (by decide) hst (fun y σ' hq => by obtain ⟨μ', h1, h2⟩ := hq; exact kk y μ' h2 σ' h1) (fun _ _ h => h.elim)
theorem C_pair_279 {Ω : Om} {σ0 : Sto} {m : Nat} {F : QF} {L st : List PV} {μ : Mu} {Q : Int → Mu → Prop} {x0 : Int} {x1 : Int} {x2 : Int} (hc : MMi Ω m M_Mdl_areSame rm_Mdl_areSame Q μ [xi x0, xi x1, xi x2]) (kk : ∀ y μ', Q y μ' → Mw Ω σ0 m M_Mdl_pair rm_Mdl_pair F 282 L (xi y :: st) μ') (hst : (st.map catP).sum ≤ 8 := by exact Nat.le_of_ble_eq_true rfl) : Mw Ω σ0 m M_Mdl_pair rm_Mdl_pair F 279 L (xi x2 :: xi x1 :: xi x0 :: xr (some m) :: st) μ :=
  fun σ hM => c_Mdl_pair_279 (hc σ0 σ hM) hM.1.2.1 (by decide) (by decide) (by decide) (by decide) hst (fun y σ' hq => by obtain ⟨μ', h1, h2⟩ := hq; exact kk y μ' h2 σ' h1) (fun _ _ h => h.elim)
theorem R_pair_415 {Ω : Om} {σ0 : Sto} {m : Nat} {L : List PV} {μ : Mu} {Q : Int → Mu → Prop} {x : Int} (h : Q x μ) : Mw Ω σ0 m M_Mdl_pair rm_Mdl_pair (MQi Ω σ0 m rm_Mdl_pair Q) 415 L [xi x] μ := fun σ hM => r_Mdl_pair_415 ⟨_, rfl, μ, hM, h⟩ (by decide) (by decide)
theorem E_pair {Ω : Om} {m : Nat} {μ : Mu} {Q : Int → Mu → Prop} {v1 : Int} {v2 : Int} {v3 : Int} (h : ∀ σ0, Mw Ω σ0 m M_Mdl_pair rm_Mdl_pair (MQi Ω σ0 m rm_Mdl_pair Q) 0 [xr (some m), xi v1, xi v2, xi v3, xu, xu, xu, xu, xu, xu, xu] [] μ) : MMi Ω m M_Mdl_pair rm_Mdl_pair Q μ [xi v1, xi v2, xi v3] := fun σ0 σ hM => e_Mdl_pair (h σ0 σ hM)
theorem B_plant_0 {Ω : Om} {σ0 : Sto} {m : Nat} {R : Room} {F : QF} {μ : Mu} {v1 : Int} {v2 : Int} (h : 0 ≤ v2 ∧ v2 < 40 ∧ Mw Ω σ0 m M_Mdl_plant R F 10 [xr (some m), xi v1, xi v2, xi (mA μ 4 (v2).toNat), xi 0, xu, xu, xu] [] μ) : Mw Ω σ0 m M_Mdl_plant R F 0 [xr (some m), xi v1, xi v2, xu, xu, xu, xu, xu] [] μ := by
  intro σ hM
  obtain ⟨hS, hk, e⟩ := id hM
  subst e
  refine b_Mdl_plant_0 ?_
  refine ⟨hS.2.1, ?_⟩
  refine ⟨_, hS.r4, ?_⟩
  refine ⟨hS.k4, ?_⟩
  obtain ⟨o, h⟩ := h
  refine ⟨o, ?_⟩
  obtain ⟨o, h⟩ := h
  refine ⟨hS.b4 o, ?_⟩
  refine fun _ => ?_
  exact h _ hM
theorem B_plant_10 {Ω : Om} {σ0 : Sto} {m : Nat} {R : Room} {F : QF} {μ : Mu} {v1 : Int} {v2 : Int} {v3 : Int} {v4 : Int} (h : Q32 v4 ∧ Q32 v3 ∧ ((v3 ≤ v4 → Mw Ω σ0 m M_Mdl_plant R F 105 [xr (some m), xi v1, xi v2, xi v3, xi 0, xu, xu, xu] [] μ) ∧ (¬ v3 ≤ v4 → Mw Ω σ0 m M_Mdl_plant R F 22 [xr (some m), xi v1, xi v2, xi v3, xi v4, xi (-1), xi 0, xu] [] μ))) : Mw Ω σ0 m M_Mdl_plant R F 10 [xr (some m), xi v1, xi v2, xi v3, xi v4, xu, xu, xu] [] μ := by
  intro σ hM
  obtain ⟨hS, hk, e⟩ := id hM
  subst e
  refine b_Mdl_plant_10 ?_
  obtain ⟨o, h⟩ := h
  refine ⟨o, ?_⟩
  obtain ⟨o, h⟩ := h
  refine ⟨o, ?_⟩
  refine ⟨fun c => ?_, fun c => ?_⟩
  · have h := h.1 c
    exact h _ hM
  · have h := h.2 c
    exact h _ hM
theorem B_plant_22 {Ω : Om} {σ0 : Sto} {m : Nat} {R : Room} {F : QF} {μ : Mu} {v1 : Int} {v2 : Int} {v3 : Int} {v4 : Int} {v5 : Int} {v6 : Int} (h : Q32 v6 ∧ Q32 v4 ∧ ((v4 ≤ v6 → 0 ≤ v4 ∧ v4 < 20 ∧ Q32 v5 ∧ Mw Ω σ0 m M_Mdl_plant R F 10 [xr (some m), xi v1, xi v2, xi v3, xi (v4 + 1), xu, xu, xu] [] (wA μ 34 (v4).toNat v5)) ∧ (¬ v4 ≤ v6 → 0 ≤ ((20 * v2) + v6) ∧ ((20 * v2) + v6) < 800 ∧ 0 ≤ (mA μ 5 ((20 * v2) + v6).toNat) ∧ (mA μ 5 ((20 * v2) + v6).toNat) < 16384 ∧ Mw Ω σ0 m M_Mdl_plant R F 46 [xr (some m), xi v1, xi v2, xi v3, xi v4, xi v5, xi v6, xu] [xl (mG μ 1 (mA μ 5 ((20 * v2) + v6).toNat).toNat)] μ))) : Mw Ω σ0 m M_Mdl_plant R F 22 [xr (some m), xi v1, xi v2, xi v3, xi v4, xi v5, xi v6, xu] [] μ := by
  intro σ hM
  obtain ⟨hS, hk, e⟩ := id hM
  subst e
  refine b_Mdl_plant_22 ?_
  obtain ⟨o, h⟩ := h
  refine ⟨o, ?_⟩
  obtain ⟨o, h⟩ := h
  refine ⟨o, ?_⟩
  refine ⟨fun c => ?_, fun c => ?_⟩
  · have h := h.1 c
    refine ⟨hS.2.1, ?_⟩
    refine ⟨_, hS.r34, ?_⟩
    refine ⟨hS.k34, ?_⟩
    obtain ⟨o, h⟩ := h
    refine ⟨o, ?_⟩
    obtain ⟨o, h⟩ := h
    refine ⟨hS.b34 o, ?_⟩
    obtain ⟨o, h⟩ := h
    refine ⟨o, ?_⟩
    exact h _ (MR.vI (j := 34) (by decide) hM)
  · have h := h.2 c
    refine ⟨hS.2.1, ?_⟩
    refine ⟨_, hS.r1, ?_⟩
    refine ⟨_, hS.r5, ?_⟩
    refine ⟨hS.k5, ?_⟩
    obtain ⟨o, h⟩ := h
    refine ⟨o, ?_⟩
    obtain ⟨o, h⟩ := h
    refine ⟨hS.b5 o, ?_⟩
    refine fun _ => ?_
    refine ⟨hS.k1, ?_⟩
    obtain ⟨o, h⟩ := h
    refine ⟨o, ?_⟩
    obtain ⟨o, h⟩ := h
    refine ⟨hS.b1 o, ?_⟩
    exact h _ hM
theorem B_plant_49 {Ω : Om} {σ0 : Sto} {m : Nat} {R : Room} {F : QF} {μ : Mu} {v1 : Int} {v2 : Int} {v3 : Int} {v4 : Int} {v5 : Int} {v6 : Int} {s0 : Int} (h : 0 ≤ ((20 * v2) + v4) ∧ ((20 * v2) + v4) < 800 ∧ 0 ≤ (mA μ 5 ((20 * v2) + v4).toNat) ∧ (mA μ 5 ((20 * v2) + v4).toNat) < 16384 ∧ Mw Ω σ0 m M_Mdl_plant R F 66 [xr (some m), xi v1, xi v2, xi v3, xi v4, xi v5, xi v6, xu] [xl (mG μ 1 (mA μ 5 ((20 * v2) + v4).toNat).toNat), xi s0] μ) : Mw Ω σ0 m M_Mdl_plant R F 49 [xr (some m), xi v1, xi v2, xi v3, xi v4, xi v5, xi v6, xu] [xi s0] μ := by
  intro σ hM
  obtain ⟨hS, hk, e⟩ := id hM
  subst e
  refine b_Mdl_plant_49 ?_
  refine ⟨hS.2.1, ?_⟩
  refine ⟨_, hS.r1, ?_⟩
  refine ⟨_, hS.r5, ?_⟩
  refine ⟨hS.k5, ?_⟩
  obtain ⟨o, h⟩ := h
  refine ⟨o, ?_⟩
  obtain ⟨o, h⟩ := h
  refine ⟨hS.b5 o, ?_⟩
  refine fun _ => ?_
  refine ⟨hS.k1, ?_⟩
  obtain ⟨o, h⟩ := h
  refine ⟨o, ?_⟩
  obtain ⟨o, h⟩ := h
  refine ⟨hS.b1 o, ?_⟩
  exact h _ hM
theorem B_plant_69 {Ω : Om} {σ0 : Sto} {m : Nat} {R : Room} {F : QF} {μ : Mu} {v1 : Int} {v2 : Int} {v3 : Int} {v4 : Int} {v5 : Int} {v6 : Int} {s0 : Int} {s1 : Int} (h : Q32 s0 ∧ Q32 s1 ∧ ((s1 ≤ s0 → Mw Ω σ0 m M_Mdl_plant R F 22 [xr (some m), xi v1, xi v2, xi v3, xi v4, xi v5, xi (v6 + 1), xu] [] μ) ∧ (¬ s1 ≤ s0 → Mw Ω σ0 m M_Mdl_plant R F 22 [xr (some m), xi v1, xi v2, xi v3, xi v4, xi v6, xi (v6 + 1), xu] [] μ))) : Mw Ω σ0 m M_Mdl_plant R F 69 [xr (some m), xi v1, xi v2, xi v3, xi v4, xi v5, xi v6, xu] [xi s1, xi s0] μ := by
  intro σ hM
  obtain ⟨hS, hk, e⟩ := id hM
  subst e
  refine b_Mdl_plant_69 ?_
  obtain ⟨o, h⟩ := h
  refine ⟨o, ?_⟩
  obtain ⟨o, h⟩ := h
  refine ⟨o, ?_⟩
  refine ⟨fun c => ?_, fun c => ?_⟩
  · have h := h.1 c
    exact h _ hM
  · have h := h.2 c
    exact h _ hM
theorem B_plant_105 {Ω : Om} {σ0 : Sto} {m : Nat} {R : Room} {F : QF} {μ : Mu} {v1 : Int} {v2 : Int} {v3 : Int} {v4 : Int} (h : Q32 v4 ∧ Q32 v3 ∧ ((v3 ≤ v4 → 0 ≤ (((22 * v1) + v3) + 1) ∧ (((22 * v1) + v3) + 1) < 44 ∧ 0 ≤ (((22 * v1) + v3) + 1) ∧ (((22 * v1) + v3) + 1) < 44 ∧ Mw Ω σ0 m M_Mdl_plant R F 266 [xr (some m), xi v1, xi v2, xi v3, xi v4, xu, xu, xu] [] (wA (wA μ 32 (((22 * v1) + v3) + 1).toNat (-1)) 33 (((22 * v1) + v3) + 1).toNat 1)) ∧ (¬ v3 ≤ v4 → Mw Ω σ0 m M_Mdl_plant R F 120 [xr (some m), xi v1, xi v2, xi v3, xi v4, xi 0, xi (v4 + 1), xu] [] μ))) : Mw Ω σ0 m M_Mdl_plant R F 105 [xr (some m), xi v1, xi v2, xi v3, xi v4, xu, xu, xu] [] μ := by
  intro σ hM
  obtain ⟨hS, hk, e⟩ := id hM
  subst e
  refine b_Mdl_plant_105 ?_
  obtain ⟨o, h⟩ := h
  refine ⟨o, ?_⟩
  obtain ⟨o, h⟩ := h
  refine ⟨o, ?_⟩
  refine ⟨fun c => ?_, fun c => ?_⟩
  · have h := h.1 c
    refine ⟨hS.2.1, ?_⟩
    refine ⟨_, hS.r32, ?_⟩
    refine ⟨hS.k32, ?_⟩
    obtain ⟨o, h⟩ := h
    refine ⟨o, ?_⟩
    obtain ⟨o, h⟩ := h
    refine ⟨hS.b32 o, ?_⟩
    refine ⟨_, hS.r33, ?_⟩
    refine ⟨hS.k33, ?_⟩
    obtain ⟨o, h⟩ := h
    refine ⟨o, ?_⟩
    obtain ⟨o, h⟩ := h
    refine ⟨hS.b33 o, ?_⟩
    exact h _ (MR.vI (j := 33) (by decide) (MR.vI (j := 32) (by decide) hM))
  · have h := h.2 c
    exact h _ hM
theorem B_plant_120 {Ω : Om} {σ0 : Sto} {m : Nat} {R : Room} {F : QF} {μ : Mu} {v1 : Int} {v2 : Int} {v3 : Int} {v4 : Int} {v5 : Int} {v6 : Int} (h : Q32 v6 ∧ Q32 v3 ∧ ((v3 ≤ v6 → 0 ≤ v4 ∧ v4 < 20 ∧ Mw Ω σ0 m M_Mdl_plant R F 158 [xr (some m), xi v1, xi v2, xi v3, xi v4, xi v5, xi 0, xi (mA μ 34 (v4).toNat)] [] μ) ∧ (¬ v3 ≤ v6 → Mw Ω σ0 m M_Mdl_plant R F 131 [xr (some m), xi v1, xi v2, xi v3, xi v4, xi v5, xi v6, xu] [xi v4, xi v6, xr (some m)] μ))) : Mw Ω σ0 m M_Mdl_plant R F 120 [xr (some m), xi v1, xi v2, xi v3, xi v4, xi v5, xi v6, xu] [] μ := by
  intro σ hM
  obtain ⟨hS, hk, e⟩ := id hM
  subst e
  refine b_Mdl_plant_120 ?_
  obtain ⟨o, h⟩ := h
  refine ⟨o, ?_⟩
  obtain ⟨o, h⟩ := h
  refine ⟨o, ?_⟩
  refine ⟨fun c => ?_, fun c => ?_⟩
  · have h := h.1 c
    refine ⟨hS.2.1, ?_⟩
    refine ⟨_, hS.r34, ?_⟩
    refine ⟨hS.k34, ?_⟩
    obtain ⟨o, h⟩ := h
    refine ⟨o, ?_⟩
    obtain ⟨o, h⟩ := h
    refine ⟨hS.b34 o, ?_⟩
    refine fun _ => ?_
    exact h _ hM
  · have h := h.2 c
    exact h _ hM
theorem B_plant_134 {Ω : Om} {σ0 : Sto} {m : Nat} {R : Room} {F : QF} {μ : Mu} {v1 : Int} {v2 : Int} {v3 : Int} {v4 : Int} {v5 : Int} {v6 : Int} {s0 : Int} (h : Q32 s0 ∧ ((s0 = (0 : Int) → 0 ≤ v4 ∧ v4 < 20 ∧ Mw Ω σ0 m M_Mdl_plant R F 158 [xr (some m), xi v1, xi v2, xi v3, xi v4, xi v5, xi 0, xi (mA μ 34 (v4).toNat)] [] μ) ∧ (¬ s0 = (0 : Int) → Mw Ω σ0 m M_Mdl_plant R F 120 [xr (some m), xi v1, xi v2, xi v3, xi v4, xi (v5 + 1), xi (v6 + 1), xu] [] μ))) : Mw Ω σ0 m M_Mdl_plant R F 134 [xr (some m), xi v1, xi v2, xi v3, xi v4, xi v5, xi v6, xu] [xi s0] μ := by
  intro σ hM
  obtain ⟨hS, hk, e⟩ := id hM
  subst e
  refine b_Mdl_plant_134 ?_
  obtain ⟨o, h⟩ := h
  refine ⟨o, ?_⟩
  refine ⟨fun c => ?_, fun c => ?_⟩
  · have h := h.1 c
    refine ⟨hS.2.1, ?_⟩
    refine ⟨_, hS.r34, ?_⟩
    refine ⟨hS.k34, ?_⟩
    obtain ⟨o, h⟩ := h
    refine ⟨o, ?_⟩
    obtain ⟨o, h⟩ := h
    refine ⟨hS.b34 o, ?_⟩
    refine fun _ => ?_
    exact h _ hM
  · have h := h.2 c
    exact h _ hM
theorem B_plant_158 {Ω : Om} {σ0 : Sto} {m : Nat} {R : Room} {F : QF} {μ : Mu} {v1 : Int} {v2 : Int} {v3 : Int} {v4 : Int} {v5 : Int} {v6 : Int} {v7 : Int} (h : Q32 v7 ∧ ((v7 = (-1 : Int) → 0 ≤ ((20 * v2) + v4) ∧ ((20 * v2) + v4) < 800 ∧ 0 ≤ ((22 * v1) + (((v4 - v6) + v5) + 1)) ∧ ((22 * v1) + (((v4 - v6) + v5) + 1)) < 44 ∧ 0 ≤ ((22 * v1) + (((v4 - v6) + v5) + 1)) ∧ ((22 * v1) + (((v4 - v6) + v5) + 1)) < 44 ∧ Q32 ((((v4 - v6) + v5) + 1) - v5) ∧ Mw Ω σ0 m M_Mdl_plant R F 105 [xr (some m), xi v1, xi v2, xi v3, xi (v4 + 1), xu, xu, xu] [] (wA (wA μ 32 ((22 * v1) + (((v4 - v6) + v5) + 1)).toNat (mA μ 5 ((20 * v2) + v4).toNat)) 33 ((22 * v1) + (((v4 - v6) + v5) + 1)).toNat ((((v4 - v6) + v5) + 1) - v5))) ∧ (¬ v7 = (-1 : Int) → 0 ≤ v7 ∧ v7 < 20 ∧ Mw Ω σ0 m M_Mdl_plant R F 158 [xr (some m), xi v1, xi v2, xi v3, xi v4, xi v5, xi (v6 + 1), xi (mA μ 34 (v7).toNat)] [] μ))) : Mw Ω σ0 m M_Mdl_plant R F 158 [xr (some m), xi v1, xi v2, xi v3, xi v4, xi v5, xi v6, xi v7] [] μ := by
  intro σ hM
  obtain ⟨hS, hk, e⟩ := id hM
  subst e
  refine b_Mdl_plant_158 ?_
  obtain ⟨o, h⟩ := h
  refine ⟨o, ?_⟩
  refine ⟨fun c => ?_, fun c => ?_⟩
  · have h := h.1 c
    refine ⟨hS.2.1, ?_⟩
    refine ⟨_, hS.r32, ?_⟩
    refine ⟨_, hS.r5, ?_⟩
    refine ⟨hS.k5, ?_⟩
    obtain ⟨o, h⟩ := h
    refine ⟨o, ?_⟩
    obtain ⟨o, h⟩ := h
    refine ⟨hS.b5 o, ?_⟩
    refine fun _ => ?_
    refine ⟨hS.k32, ?_⟩
    obtain ⟨o, h⟩ := h
    refine ⟨o, ?_⟩
    obtain ⟨o, h⟩ := h
    refine ⟨hS.b32 o, ?_⟩
    refine ⟨_, hS.r33, ?_⟩
    refine ⟨hS.k33, ?_⟩
    obtain ⟨o, h⟩ := h
    refine ⟨o, ?_⟩
    obtain ⟨o, h⟩ := h
    refine ⟨hS.b33 o, ?_⟩
    obtain ⟨o, h⟩ := h
    refine ⟨o, ?_⟩
    exact h _ (MR.vI (j := 33) (by decide) (MR.vI (j := 32) (by decide) hM))
  · have h := h.2 c
    refine ⟨hS.2.1, ?_⟩
    refine ⟨_, hS.r34, ?_⟩
    refine ⟨hS.k34, ?_⟩
    obtain ⟨o, h⟩ := h
    refine ⟨o, ?_⟩
    obtain ⟨o, h⟩ := h
    refine ⟨hS.b34 o, ?_⟩
    refine fun _ => ?_
    exact h _ hM
theorem C_plant_46 {Ω : Om} {σ0 : Sto} {m : Nat} {F : QF} {L st : List PV} {μ : Mu} {P : Int → Prop} {x0 : Int64} (hc : MPi Ω M_Mdl_depth rm_Mdl_depth P [xl x0]) (kk : ∀ y , P y  → Mw Ω σ0 m M_Mdl_plant rm_Mdl_plant F 49 L (xi y :: st) μ) (hst : (st.map catP).sum ≤ 8 := by exact Nat.le_of_ble_eq_true rfl) : Mw Ω σ0 m M_Mdl_plant rm_Mdl_plant F 46 L (xl x0 :: st) μ :=
  fun σ hM => c_Mdl_plant_46 (hc σ) (by decide) (by decide) (by decide) (by decide) hst (fun y σ' hq => by obtain ⟨rfl, h2⟩ := hq; exact kk y h2 σ' hM) (fun _ _ h => h.elim)
theorem C_plant_66 {Ω : Om} {σ0 : Sto} {m : Nat} {F : QF} {L st : List PV} {μ : Mu} {P : Int → Prop} {x0 : Int64} (hc : MPi Ω M_Mdl_depth rm_Mdl_depth P [xl x0]) (kk : ∀ y , P y  → Mw Ω σ0 m M_Mdl_plant rm_Mdl_plant F 69 L (xi y :: st) μ) (hst : (st.map catP).sum ≤ 8 := by exact Nat.le_of_ble_eq_true rfl) : Mw Ω σ0 m M_Mdl_plant rm_Mdl_plant F 66 L (xl x0 :: st) μ :=
  fun σ hM => c_Mdl_plant_66 (hc σ) (by decide) (by decide) (by decide) (by decide) hst (fun y σ' hq => by obtain ⟨rfl, h2⟩ := hq; exact kk y h2 σ' hM) (fun _ _ h => h.elim)
theorem C_plant_131 {Ω : Om} {σ0 : Sto} {m : Nat} {F : QF} {L st : List PV} {μ : Mu} {Q : Int → Mu → Prop} {x0 : Int} {x1 : Int} (hc : MMi Ω m M_Mdl_isBelow rm_Mdl_isBelow Q μ [xi x0, xi x1]) (kk : ∀ y μ', Q y μ' → Mw Ω σ0 m M_Mdl_plant rm_Mdl_plant F 134 L (xi y :: st) μ') (hst : (st.map catP).sum ≤ 8 := by exact Nat.le_of_ble_eq_true rfl) : Mw Ω σ0 m M_Mdl_plant rm_Mdl_plant F 131 L (xi x1 :: xi x0 :: xr (some m) :: st) μ :=
  fun σ hM => c_Mdl_plant_131 (hc σ0 σ hM) hM.1.2.1 (by decide) (by decide) (by decide) (by decide) hst (fun y σ' hq => by obtain ⟨μ', h1, h2⟩ := hq; exact kk y μ' h2 σ' h1) (fun _ _ h => h.elim)
theorem R_plant_266 {Ω : Om} {σ0 : Sto} {m : Nat} {L : List PV} {μ : Mu} {Q : Mu → Prop} (h : Q μ) : Mw Ω σ0 m M_Mdl_plant rm_Mdl_plant (MQv Ω σ0 m rm_Mdl_plant Q) 266 L [] μ := fun σ hM => r_Mdl_plant_266 ⟨rfl, μ, hM, h⟩ (by decide) (by decide)
theorem E_plant {Ω : Om} {m : Nat} {μ : Mu} {Q : Mu → Prop} {v1 : Int} {v2 : Int} (h : ∀ σ0, Mw Ω σ0 m M_Mdl_plant rm_Mdl_plant (MQv Ω σ0 m rm_Mdl_plant Q) 0 [xr (some m), xi v1, xi v2, xu, xu, xu, xu, xu] [] μ) : MMv Ω m M_Mdl_plant rm_Mdl_plant Q μ [xi v1, xi v2] := fun σ0 σ hM => e_Mdl_plant (h σ0 σ hM)
theorem B_renew_0 {Ω : Om} {σ0 : Sto} {m : Nat} {R : Room} {F : QF} {μ : Mu} {v1 : Int} {v2 : Int} (h : Mw Ω σ0 m M_Mdl_renew R F 2 [xr (some m), xi v1, xi v2, xu, xu, xu, xu, xu, xu, xu] [xi v1, xr (some m)] μ) : Mw Ω σ0 m M_Mdl_renew R F 0 [xr (some m), xi v1, xi v2, xu, xu, xu, xu, xu, xu, xu] [] μ := by
  intro σ hM
  obtain ⟨hS, hk, e⟩ := id hM
  subst e
  refine b_Mdl_renew_0 ?_
  exact h _ hM
theorem B_renew_5 {Ω : Om} {σ0 : Sto} {m : Nat} {R : Room} {F : QF} {μ : Mu} {v1 : Int} {v2 : Int} {s0 : Int} (h : Q32 s0 ∧ ((s0 = (0 : Int) → Mw Ω σ0 m M_Mdl_renew R F 75 [xr (some m), xi v1, xi v2, xi 0, xi 0, xu, xu, xu, xu, xu] [xi 1, xr (some m)] μ) ∧ (¬ s0 = (0 : Int) → Mw Ω σ0 m M_Mdl_renew R F 10 [xr (some m), xi v1, xi v2, xu, xu, xu, xu, xu, xu, xu] [xi v2, xr (some m)] μ))) : Mw Ω σ0 m M_Mdl_renew R F 5 [xr (some m), xi v1, xi v2, xu, xu, xu, xu, xu, xu, xu] [xi s0] μ := by
  intro σ hM
  obtain ⟨hS, hk, e⟩ := id hM
  subst e
  refine b_Mdl_renew_5 ?_
  obtain ⟨o, h⟩ := h
  refine ⟨o, ?_⟩
  refine ⟨fun c => ?_, fun c => ?_⟩
  · have h := h.1 c
    exact h _ hM
  · have h := h.2 c
    exact h _ hM
theorem B_renew_13 {Ω : Om} {σ0 : Sto} {m : Nat} {R : Room} {F : QF} {μ : Mu} {v1 : Int} {v2 : Int} {s0 : Int} (h : Q32 s0 ∧ ((s0 = (0 : Int) → Mw Ω σ0 m M_Mdl_renew R F 20 [xr (some m), xi v1, xi v2, xu, xu, xu, xu, xu, xu, xu] [] μ) ∧ (¬ s0 = (0 : Int) → Mw Ω σ0 m M_Mdl_renew R F 21 [xr (some m), xi v1, xi v2, xu, xu, xu, xu, xu, xu, xu] [xi 1] μ))) : Mw Ω σ0 m M_Mdl_renew R F 13 [xr (some m), xi v1, xi v2, xu, xu, xu, xu, xu, xu, xu] [xi s0] μ := by
  intro σ hM
  obtain ⟨hS, hk, e⟩ := id hM
  subst e
  refine b_Mdl_renew_13 ?_
  obtain ⟨o, h⟩ := h
  refine ⟨o, ?_⟩
  refine ⟨fun c => ?_, fun c => ?_⟩
  · have h := h.1 c
    exact h _ hM
  · have h := h.2 c
    exact h _ hM
theorem B_renew_21 {Ω : Om} {σ0 : Sto} {m : Nat} {R : Room} {F : QF} {μ : Mu} {v1 : Int} {v2 : Int} {s0 : Int} (h : Q32 s0 ∧ ((s0 = (0 : Int) → ((¬ s0 = (0 : Int) → Mw Ω σ0 m M_Mdl_renew R F 75 [xr (some m), xi v1, xi v2, xi s0, xi 0, xu, xu, xu, xu, xu] [xi 2, xr (some m)] μ) ∧ (s0 = (0 : Int) → Mw Ω σ0 m M_Mdl_renew R F 75 [xr (some m), xi v1, xi v2, xi s0, xi 0, xu, xu, xu, xu, xu] [xi 1, xr (some m)] μ))) ∧ (¬ s0 = (0 : Int) → 0 ≤ v1 ∧ v1 < 20 ∧ ((¬ (mA μ 26 (v1).toNat) = (0 : Int) → ((¬ s0 = (0 : Int) → Mw Ω σ0 m M_Mdl_renew R F 75 [xr (some m), xi v1, xi v2, xi s0, xi 0, xu, xu, xu, xu, xu] [xi 2, xr (some m)] μ) ∧ (s0 = (0 : Int) → Mw Ω σ0 m M_Mdl_renew R F 75 [xr (some m), xi v1, xi v2, xi s0, xi 0, xu, xu, xu, xu, xu] [xi 1, xr (some m)] μ))) ∧ ((mA μ 26 (v1).toNat) = (0 : Int) → 0 ≤ v1 ∧ v1 < 20 ∧ Mw Ω σ0 m M_Mdl_renew R F 43 [xr (some m), xi v1, xi v2, xi s0, xu, xu, xu, xu, xu, xu] [xi (mA μ 24 (v1).toNat), xi v2, xr (some m)] μ))))) : Mw Ω σ0 m M_Mdl_renew R F 21 [xr (some m), xi v1, xi v2, xu, xu, xu, xu, xu, xu, xu] [xi s0] μ := by
  intro σ hM
  obtain ⟨hS, hk, e⟩ := id hM
  subst e
  refine b_Mdl_renew_21 ?_
  obtain ⟨o, h⟩ := h
  refine ⟨o, ?_⟩
  refine ⟨fun c => ?_, fun c => ?_⟩
  · have h := h.1 c
    refine ⟨fun c => ?_, fun c => ?_⟩
    · have h := h.1 c
      exact h _ hM
    · have h := h.2 c
      exact h _ hM
  · have h := h.2 c
    refine ⟨hS.2.1, ?_⟩
    refine ⟨_, hS.r26, ?_⟩
    refine ⟨hS.k26, ?_⟩
    obtain ⟨o, h⟩ := h
    refine ⟨o, ?_⟩
    obtain ⟨o, h⟩ := h
    refine ⟨hS.b26 o, ?_⟩
    refine fun _ => ?_
    refine ⟨fun c => ?_, fun c => ?_⟩
    · have h := h.1 c
      refine ⟨fun c => ?_, fun c => ?_⟩
      · have h := h.1 c
        exact h _ hM
      · have h := h.2 c
        exact h _ hM
    · have h := h.2 c
      refine ⟨_, hS.r24, ?_⟩
      refine ⟨hS.k24, ?_⟩
      obtain ⟨o, h⟩ := h
      refine ⟨o, ?_⟩
      obtain ⟨o, h⟩ := h
      refine ⟨hS.b24 o, ?_⟩
      refine fun _ => ?_
      exact h _ hM
theorem B_renew_46 {Ω : Om} {σ0 : Sto} {m : Nat} {R : Room} {F : QF} {μ : Mu} {v1 : Int} {v2 : Int} {v3 : Int} {s0 : Int} (h : Q32 s0 ∧ ((s0 = (0 : Int) → Q32 v3 ∧ ((¬ v3 = (0 : Int) → Mw Ω σ0 m M_Mdl_renew R F 75 [xr (some m), xi v1, xi v2, xi v3, xi 0, xu, xu, xu, xu, xu] [xi 2, xr (some m)] μ) ∧ (v3 = (0 : Int) → Mw Ω σ0 m M_Mdl_renew R F 75 [xr (some m), xi v1, xi v2, xi v3, xi 0, xu, xu, xu, xu, xu] [xi 1, xr (some m)] μ))) ∧ (¬ s0 = (0 : Int) → Q32 v3 ∧ ((¬ v3 = (0 : Int) → Mw Ω σ0 m M_Mdl_renew R F 75 [xr (some m), xi v1, xi v2, xi v3, xi 1, xu, xu, xu, xu, xu] [xi 0, xr (some m)] μ) ∧ (v3 = (0 : Int) → Mw Ω σ0 m M_Mdl_renew R F 75 [xr (some m), xi v1, xi v2, xi v3, xi 1, xu, xu, xu, xu, xu] [xi 1, xr (some m)] μ))))) : Mw Ω σ0 m M_Mdl_renew R F 46 [xr (some m), xi v1, xi v2, xi v3, xu, xu, xu, xu, xu, xu] [xi s0] μ := by
  intro σ hM
  obtain ⟨hS, hk, e⟩ := id hM
  subst e
  refine b_Mdl_renew_46 ?_
  obtain ⟨o, h⟩ := h
  refine ⟨o, ?_⟩
  refine ⟨fun c => ?_, fun c => ?_⟩
  · have h := h.1 c
    obtain ⟨o, h⟩ := h
    refine ⟨o, ?_⟩
    refine ⟨fun c => ?_, fun c => ?_⟩
    · have h := h.1 c
      exact h _ hM
    · have h := h.2 c
      exact h _ hM
  · have h := h.2 c
    obtain ⟨o, h⟩ := h
    refine ⟨o, ?_⟩
    refine ⟨fun c => ?_, fun c => ?_⟩
    · have h := h.1 c
      exact h _ hM
    · have h := h.2 c
      exact h _ hM
theorem B_renew_78 {Ω : Om} {σ0 : Sto} {m : Nat} {R : Room} {F : QF} {μ : Mu} {v1 : Int} {v2 : Int} {v3 : Int} {v4 : Int} {s0 : Int} (h : Q32 s0 ∧ ((s0 = (0 : Int) → 0 ≤ v1 ∧ v1 < 20 ∧ 0 ≤ (mA μ 24 (v1).toNat) ∧ (mA μ 24 (v1).toNat) < 40 ∧ 0 ≤ v2 ∧ v2 < 40 ∧ Mw Ω σ0 m M_Mdl_renew R F 110 [xr (some m), xi v1, xi v2, xi v3, xi v4, xi (mA μ 24 (v1).toNat), xu, xu, xu, xu] [xi (mA μ 4 (v2).toNat), xi 0, xi v2, xi (mA μ 4 (mA μ 24 (v1).toNat).toNat), xi 0, xi (mA μ 24 (v1).toNat), xr (some m)] μ) ∧ (¬ s0 = (0 : Int) → Mw Ω σ0 m M_Mdl_renew R F 82 [xr (some m), xi v1, xi v2, xi v3, xi v4, xu, xu, xu, xu, xu] [xi 0] μ))) : Mw Ω σ0 m M_Mdl_renew R F 78 [xr (some m), xi v1, xi v2, xi v3, xi v4, xu, xu, xu, xu, xu] [xi s0] μ := by
  intro σ hM
  obtain ⟨hS, hk, e⟩ := id hM
  subst e
  refine b_Mdl_renew_78 ?_
  obtain ⟨o, h⟩ := h
  refine ⟨o, ?_⟩
  refine ⟨fun c => ?_, fun c => ?_⟩
  · have h := h.1 c
    refine ⟨hS.2.1, ?_⟩
    refine ⟨_, hS.r24, ?_⟩
    refine ⟨hS.k24, ?_⟩
    obtain ⟨o, h⟩ := h
    refine ⟨o, ?_⟩
    obtain ⟨o, h⟩ := h
    refine ⟨hS.b24 o, ?_⟩
    refine fun _ => ?_
    refine ⟨_, hS.r4, ?_⟩
    refine ⟨hS.k4, ?_⟩
    obtain ⟨o, h⟩ := h
    refine ⟨o, ?_⟩
    obtain ⟨o, h⟩ := h
    refine ⟨hS.b4 o, ?_⟩
    refine fun _ => ?_
    obtain ⟨o, h⟩ := h
    refine ⟨o, ?_⟩
    obtain ⟨o, h⟩ := h
    refine ⟨hS.b4 o, ?_⟩
    refine fun _ => ?_
    exact h _ hM
  · have h := h.2 c
    exact h _ hM
theorem B_renew_113 {Ω : Om} {σ0 : Sto} {m : Nat} {R : Room} {F : QF} {μ : Mu} {v1 : Int} {v2 : Int} {v3 : Int} {v4 : Int} {v5 : Int} {s0 : Int} (h : Mw Ω σ0 m M_Mdl_renew R F 121 [xr (some m), xi v1, xi v2, xi v3, xi v4, xi v5, xi s0, xi 0, xi 0, xu] [] μ) : Mw Ω σ0 m M_Mdl_renew R F 113 [xr (some m), xi v1, xi v2, xi v3, xi v4, xi v5, xu, xu, xu, xu] [xi s0] μ := by
  intro σ hM
  obtain ⟨hS, hk, e⟩ := id hM
  subst e
  refine b_Mdl_renew_113 ?_
  exact h _ hM
theorem B_renew_121 {Ω : Om} {σ0 : Sto} {m : Nat} {R : Room} {F : QF} {μ : Mu} {v1 : Int} {v2 : Int} {v3 : Int} {v4 : Int} {v5 : Int} {v6 : Int} {v7 : Int} {v8 : Int} (h : Q32 v8 ∧ (((6 : Int) ≤ v8 → 0 ≤ v1 ∧ v1 < 20 ∧ Q32 v2 ∧ Mw Ω σ0 m M_Mdl_renew R F 229 [xr (some m), xi v1, xi v2, xi v3, xi v4, xi v5, xi v6, xi v7, xi v8, xu] [xi v7] (wA μ 24 (v1).toNat v2)) ∧ (¬ (6 : Int) ≤ v8 → 0 ≤ ((6 * v1) + v8) ∧ ((6 * v1) + v8) < 120 ∧ (((mA μ 27 ((6 * v1) + v8).toNat) = (0 : Int) → Mw Ω σ0 m M_Mdl_renew R F 163 [xr (some m), xi v1, xi v2, xi v3, xi v4, xi v5, xi v6, xi v7, xi v8, xu] [] μ) ∧ (¬ (mA μ 27 ((6 * v1) + v8).toNat) = (0 : Int) → Q32 v6 ∧ ((v6 = (0 : Int) → Mw Ω σ0 m M_Mdl_renew R F 159 [xr (some m), xi v1, xi v2, xi v3, xi v4, xi v5, xi v6, xi v7, xi v8, xu] [] μ) ∧ (¬ v6 = (0 : Int) → 0 ≤ v2 ∧ v2 < 40 ∧ ((¬ v8 = (mA μ 6 (v2).toNat) → Mw Ω σ0 m M_Mdl_renew R F 163 [xr (some m), xi v1, xi v2, xi v3, xi v4, xi v5, xi v6, xi v7, xi v8, xu] [] μ) ∧ (v8 = (mA μ 6 (v2).toNat) → Mw Ω σ0 m M_Mdl_renew R F 159 [xr (some m), xi v1, xi v2, xi v3, xi v4, xi v5, xi v6, xi v7, xi v8, xu] [] μ))))))))) : Mw Ω σ0 m M_Mdl_renew R F 121 [xr (some m), xi v1, xi v2, xi v3, xi v4, xi v5, xi v6, xi v7, xi v8, xu] [] μ := by
  intro σ hM
  obtain ⟨hS, hk, e⟩ := id hM
  subst e
  refine b_Mdl_renew_121 ?_
  obtain ⟨o, h⟩ := h
  refine ⟨o, ?_⟩
  refine ⟨fun c => ?_, fun c => ?_⟩
  · have h := h.1 c
    refine ⟨hS.2.1, ?_⟩
    refine ⟨_, hS.r24, ?_⟩
    refine ⟨hS.k24, ?_⟩
    obtain ⟨o, h⟩ := h
    refine ⟨o, ?_⟩
    obtain ⟨o, h⟩ := h
    refine ⟨hS.b24 o, ?_⟩
    obtain ⟨o, h⟩ := h
    refine ⟨o, ?_⟩
    exact h _ (MR.vI (j := 24) (by decide) hM)
  · have h := h.2 c
    refine ⟨hS.2.1, ?_⟩
    refine ⟨_, hS.r27, ?_⟩
    refine ⟨hS.k27, ?_⟩
    obtain ⟨o, h⟩ := h
    refine ⟨o, ?_⟩
    obtain ⟨o, h⟩ := h
    refine ⟨hS.b27 o, ?_⟩
    refine fun _ => ?_
    refine ⟨fun c => ?_, fun c => ?_⟩
    · have h := h.1 c
      exact h _ hM
    · have h := h.2 c
      obtain ⟨o, h⟩ := h
      refine ⟨o, ?_⟩
      refine ⟨fun c => ?_, fun c => ?_⟩
      · have h := h.1 c
        exact h _ hM
      · have h := h.2 c
        refine ⟨_, hS.r6, ?_⟩
        refine ⟨hS.k6, ?_⟩
        obtain ⟨o, h⟩ := h
        refine ⟨o, ?_⟩
        obtain ⟨o, h⟩ := h
        refine ⟨hS.b6 o, ?_⟩
        refine fun _ => ?_
        refine ⟨fun c => ?_, fun c => ?_⟩
        · have h := h.1 c
          exact h _ hM
        · have h := h.2 c
          exact h _ hM
theorem B_renew_159 {Ω : Om} {σ0 : Sto} {m : Nat} {R : Room} {F : QF} {μ : Mu} {v1 : Int} {v2 : Int} {v3 : Int} {v4 : Int} {v5 : Int} {v6 : Int} {v7 : Int} {v8 : Int} (h : 0 ≤ ((6 * v1) + v8) ∧ ((6 * v1) + v8) < 120 ∧ Mw Ω σ0 m M_Mdl_renew R F 121 [xr (some m), xi v1, xi v2, xi v3, xi v4, xi v5, xi v6, xi (v7 + 1), xi (v8 + 1), xu] [] (wA μ 27 ((6 * v1) + v8).toNat 0)) : Mw Ω σ0 m M_Mdl_renew R F 159 [xr (some m), xi v1, xi v2, xi v3, xi v4, xi v5, xi v6, xi v7, xi v8, xu] [] μ := by
  intro σ hM
  obtain ⟨hS, hk, e⟩ := id hM
  subst e
  refine b_Mdl_renew_159 ?_
  refine ⟨hS.2.1, ?_⟩
  refine ⟨_, hS.r27, ?_⟩
  refine ⟨hS.k27, ?_⟩
  obtain ⟨o, h⟩ := h
  refine ⟨o, ?_⟩
  obtain ⟨o, h⟩ := h
  refine ⟨hS.b27 o, ?_⟩
  exact h _ (MR.vI (j := 27) (by decide) hM)
theorem B_renew_163 {Ω : Om} {σ0 : Sto} {m : Nat} {R : Room} {F : QF} {μ : Mu} {v1 : Int} {v2 : Int} {v3 : Int} {v4 : Int} {v5 : Int} {v6 : Int} {v7 : Int} {v8 : Int} (h : 0 ≤ ((6 * v1) + v8) ∧ ((6 * v1) + v8) < 120 ∧ Mw Ω σ0 m M_Mdl_renew R F 121 [xr (some m), xi v1, xi v2, xi v3, xi v4, xi v5, xi v6, xi (v7 + 0), xi (v8 + 1), xu] [] (wA μ 27 ((6 * v1) + v8).toNat (mA μ 27 ((6 * v1) + v8).toNat))) : Mw Ω σ0 m M_Mdl_renew R F 163 [xr (some m), xi v1, xi v2, xi v3, xi v4, xi v5, xi v6, xi v7, xi v8, xu] [] μ := by
  intro σ hM
  obtain ⟨hS, hk, e⟩ := id hM
  subst e
  refine b_Mdl_renew_163 ?_
  refine ⟨hS.2.1, ?_⟩
  refine ⟨_, hS.r27, ?_⟩
  refine ⟨hS.k27, ?_⟩
  obtain ⟨o, h⟩ := h
  refine ⟨o, ?_⟩
  obtain ⟨o, h⟩ := h
  refine ⟨hS.b27 o, ?_⟩
  refine fun _ => ?_
  exact h _ (MR.vI (j := 27) (by decide) hM)
theorem B_renew_20 {Ω : Om} {σ0 : Sto} {m : Nat} {R : Room} {F : QF} {μ : Mu} {v1 : Int} {v2 : Int} (h : Mw Ω σ0 m M_Mdl_renew R F 75 [xr (some m), xi v1, xi v2, xi 0, xi 0, xu, xu, xu, xu, xu] [xi 1, xr (some m)] μ) : Mw Ω σ0 m M_Mdl_renew R F 20 [xr (some m), xi v1, xi v2, xu, xu, xu, xu, xu, xu, xu] [] μ := by
  intro σ hM
  obtain ⟨hS, hk, e⟩ := id hM
  subst e
  refine b_Mdl_renew_20 ?_
  exact h _ hM
theorem C_renew_2 {Ω : Om} {σ0 : Sto} {m : Nat} {F : QF} {L st : List PV} {μ : Mu} {Q : Int → Mu → Prop} {x0 : Int} (hc : MMi Ω m M_Mdl_isReview rm_Mdl_isReview Q μ [xi x0]) (kk : ∀ y μ', Q y μ' → Mw Ω σ0 m M_Mdl_renew rm_Mdl_renew F 5 L (xi y :: st) μ') (hst : (st.map catP).sum ≤ 8 := by exact Nat.le_of_ble_eq_true rfl) : Mw Ω σ0 m M_Mdl_renew rm_Mdl_renew F 2 L (xi x0 :: xr (some m) :: st) μ :=
  fun σ hM => c_Mdl_renew_2 (hc σ0 σ hM) hM.1.2.1 (by decide) (by decide) (by decide) (by decide) hst (fun y σ' hq => by obtain ⟨μ', h1, h2⟩ := hq; exact kk y μ' h2 σ' h1) (fun _ _ h => h.elim)
theorem C_renew_10 {Ω : Om} {σ0 : Sto} {m : Nat} {F : QF} {L st : List PV} {μ : Mu} {Q : Int → Mu → Prop} {x0 : Int} (hc : MMi Ω m M_Mdl_isVersion rm_Mdl_isVersion Q μ [xi x0]) (kk : ∀ y μ', Q y μ' → Mw Ω σ0 m M_Mdl_renew rm_Mdl_renew F 13 L (xi y :: st) μ') (hst : (st.map catP).sum ≤ 8 := by exact Nat.le_of_ble_eq_true rfl) : Mw Ω σ0 m M_Mdl_renew rm_Mdl_renew F 10 L (xi x0 :: xr (some m) :: st) μ :=
  fun σ hM => c_Mdl_renew_10 (hc σ0 σ hM) hM.1.2.1 (by decide) (by decide) (by decide) (by decide) hst (fun y σ' hq => by obtain ⟨μ', h1, h2⟩ := hq; exact kk y μ' h2 σ' h1) (fun _ _ h => h.elim)
theorem C_renew_43 {Ω : Om} {σ0 : Sto} {m : Nat} {F : QF} {L st : List PV} {μ : Mu} {Q : Int → Mu → Prop} {x0 : Int} {x1 : Int} (hc : MMi Ω m M_Mdl_isOver rm_Mdl_isOver Q μ [xi x0, xi x1]) (kk : ∀ y μ', Q y μ' → Mw Ω σ0 m M_Mdl_renew rm_Mdl_renew F 46 L (xi y :: st) μ') (hst : (st.map catP).sum ≤ 8 := by exact Nat.le_of_ble_eq_true rfl) : Mw Ω σ0 m M_Mdl_renew rm_Mdl_renew F 43 L (xi x1 :: xi x0 :: xr (some m) :: st) μ :=
  fun σ hM => c_Mdl_renew_43 (hc σ0 σ hM) hM.1.2.1 (by decide) (by decide) (by decide) (by decide) hst (fun y σ' hq => by obtain ⟨μ', h1, h2⟩ := hq; exact kk y μ' h2 σ' h1) (fun _ _ h => h.elim)
theorem C_renew_75 {Ω : Om} {σ0 : Sto} {m : Nat} {F : QF} {L st : List PV} {μ : Mu} {Q : Int → Mu → Prop} {x0 : Int} (hc : MMi Ω m M_Mdl_refused rm_Mdl_refused Q μ [xi x0]) (kk : ∀ y μ', Q y μ' → Mw Ω σ0 m M_Mdl_renew rm_Mdl_renew F 78 L (xi y :: st) μ') (hst : (st.map catP).sum ≤ 8 := by exact Nat.le_of_ble_eq_true rfl) : Mw Ω σ0 m M_Mdl_renew rm_Mdl_renew F 75 L (xi x0 :: xr (some m) :: st) μ :=
  fun σ hM => c_Mdl_renew_75 (hc σ0 σ hM) hM.1.2.1 (by decide) (by decide) (by decide) (by decide) hst (fun y σ' hq => by obtain ⟨μ', h1, h2⟩ := hq; exact kk y μ' h2 σ' h1) (fun _ _ h => h.elim)
theorem R_renew_82 {Ω : Om} {σ0 : Sto} {m : Nat} {L : List PV} {μ : Mu} {Q : Int → Mu → Prop} {x : Int} (h : Q x μ) : Mw Ω σ0 m M_Mdl_renew rm_Mdl_renew (MQi Ω σ0 m rm_Mdl_renew Q) 82 L [xi x] μ := fun σ hM => r_Mdl_renew_82 ⟨_, rfl, μ, hM, h⟩ (by decide) (by decide)
theorem C_renew_110 {Ω : Om} {σ0 : Sto} {m : Nat} {F : QF} {L st : List PV} {μ : Mu} {Q : Int → Mu → Prop} {x0 : Int} {x1 : Int} {x2 : Int} {x3 : Int} {x4 : Int} {x5 : Int} (hc : MMi Ω m M_Mdl_areAlike rm_Mdl_areAlike Q μ [xi x0, xi x1, xi x2, xi x3, xi x4, xi x5]) (kk : ∀ y μ', Q y μ' → Mw Ω σ0 m M_Mdl_renew rm_Mdl_renew F 113 L (xi y :: st) μ') (hst : (st.map catP).sum ≤ 8 := by exact Nat.le_of_ble_eq_true rfl) : Mw Ω σ0 m M_Mdl_renew rm_Mdl_renew F 110 L (xi x5 :: xi x4 :: xi x3 :: xi x2 :: xi x1 :: xi x0 :: xr (some m) :: st) μ :=
  fun σ hM => c_Mdl_renew_110 (hc σ0 σ hM) hM.1.2.1 (by decide) (by decide) (by decide) (by decide) hst (fun y σ' hq => by obtain ⟨μ', h1, h2⟩ := hq; exact kk y μ' h2 σ' h1) (fun _ _ h => h.elim)
theorem R_renew_229 {Ω : Om} {σ0 : Sto} {m : Nat} {L : List PV} {μ : Mu} {Q : Int → Mu → Prop} {x : Int} (h : Q x μ) : Mw Ω σ0 m M_Mdl_renew rm_Mdl_renew (MQi Ω σ0 m rm_Mdl_renew Q) 229 L [xi x] μ := fun σ hM => r_Mdl_renew_229 ⟨_, rfl, μ, hM, h⟩ (by decide) (by decide)
theorem E_renew {Ω : Om} {m : Nat} {μ : Mu} {Q : Int → Mu → Prop} {v1 : Int} {v2 : Int} (h : ∀ σ0, Mw Ω σ0 m M_Mdl_renew rm_Mdl_renew (MQi Ω σ0 m rm_Mdl_renew Q) 0 [xr (some m), xi v1, xi v2, xu, xu, xu, xu, xu, xu, xu] [] μ) : MMi Ω m M_Mdl_renew rm_Mdl_renew Q μ [xi v1, xi v2] := fun σ0 σ hM => e_Mdl_renew (h σ0 σ hM)
theorem B_land_0 {Ω : Om} {σ0 : Sto} {m : Nat} {R : Room} {F : QF} {μ : Mu} {v1 : Int} (h : Mw Ω σ0 m M_Mdl_land R F 2 [xr (some m), xi v1, xu, xu, xu, xu] [xi v1, xr (some m)] μ) : Mw Ω σ0 m M_Mdl_land R F 0 [xr (some m), xi v1, xu, xu, xu, xu] [] μ := by
  intro σ hM
  obtain ⟨hS, hk, e⟩ := id hM
  subst e
  refine b_Mdl_land_0 ?_
  exact h _ hM
theorem B_land_5 {Ω : Om} {σ0 : Sto} {m : Nat} {R : Room} {F : QF} {μ : Mu} {v1 : Int} {s0 : Int} (h : Q32 s0 ∧ ((s0 = (0 : Int) → ((¬ s0 = (0 : Int) → Mw Ω σ0 m M_Mdl_land R F 67 [xr (some m), xi v1, xi s0, xi 0, xu, xu] [xi 2, xr (some m)] μ) ∧ (s0 = (0 : Int) → Mw Ω σ0 m M_Mdl_land R F 67 [xr (some m), xi v1, xi s0, xi 0, xu, xu] [xi 1, xr (some m)] μ))) ∧ (¬ s0 = (0 : Int) → Mw Ω σ0 m M_Mdl_land R F 12 [xr (some m), xi v1, xi s0, xu, xu, xu] [xi v1, xr (some m)] μ))) : Mw Ω σ0 m M_Mdl_land R F 5 [xr (some m), xi v1, xu, xu, xu, xu] [xi s0] μ := by
  intro σ hM
  obtain ⟨hS, hk, e⟩ := id hM
  subst e
  refine b_Mdl_land_5 ?_
  obtain ⟨o, h⟩ := h
  refine ⟨o, ?_⟩
  refine ⟨fun c => ?_, fun c => ?_⟩
  · have h := h.1 c
    refine ⟨fun c => ?_, fun c => ?_⟩
    · have h := h.1 c
      exact h _ hM
    · have h := h.2 c
      exact h _ hM
  · have h := h.2 c
    exact h _ hM
theorem B_land_15 {Ω : Om} {σ0 : Sto} {m : Nat} {R : Room} {F : QF} {μ : Mu} {v1 : Int} {v2 : Int} {s0 : Int} (h : Q32 s0 ∧ ((¬ s0 = (1 : Int) → Mw Ω σ0 m M_Mdl_land R F 47 [xr (some m), xi v1, xi v2, xu, xu, xu] [] μ) ∧ (s0 = (1 : Int) → 0 ≤ v1 ∧ v1 < 20 ∧ (((mA μ 25 (v1).toNat) = (-1 : Int) → Mw Ω σ0 m M_Mdl_land R F 43 [xr (some m), xi v1, xi v2, xu, xu, xu] [] μ) ∧ (¬ (mA μ 25 (v1).toNat) = (-1 : Int) → 0 ≤ (mA μ 25 (v1).toNat) ∧ (mA μ 25 (v1).toNat) < 20 ∧ (((mA μ 26 (mA μ 25 (v1).toNat).toNat) = (0 : Int) → Mw Ω σ0 m M_Mdl_land R F 47 [xr (some m), xi v1, xi v2, xu, xu, xu] [] μ) ∧ (¬ (mA μ 26 (mA μ 25 (v1).toNat).toNat) = (0 : Int) → Mw Ω σ0 m M_Mdl_land R F 43 [xr (some m), xi v1, xi v2, xu, xu, xu] [] μ))))))) : Mw Ω σ0 m M_Mdl_land R F 15 [xr (some m), xi v1, xi v2, xu, xu, xu] [xi s0] μ := by
  intro σ hM
  obtain ⟨hS, hk, e⟩ := id hM
  subst e
  refine b_Mdl_land_15 ?_
  obtain ⟨o, h⟩ := h
  refine ⟨o, ?_⟩
  refine ⟨fun c => ?_, fun c => ?_⟩
  · have h := h.1 c
    exact h _ hM
  · have h := h.2 c
    refine ⟨hS.2.1, ?_⟩
    refine ⟨_, hS.r25, ?_⟩
    refine ⟨hS.k25, ?_⟩
    obtain ⟨o, h⟩ := h
    refine ⟨o, ?_⟩
    obtain ⟨o, h⟩ := h
    refine ⟨hS.b25 o, ?_⟩
    refine fun _ => ?_
    refine ⟨fun c => ?_, fun c => ?_⟩
    · have h := h.1 c
      exact h _ hM
    · have h := h.2 c
      refine ⟨_, hS.r26, ?_⟩
      refine fun _ => ?_
      refine ⟨hS.k26, ?_⟩
      obtain ⟨o, h⟩ := h
      refine ⟨o, ?_⟩
      obtain ⟨o, h⟩ := h
      refine ⟨hS.b26 o, ?_⟩
      refine fun _ => ?_
      refine ⟨fun c => ?_, fun c => ?_⟩
      · have h := h.1 c
        exact h _ hM
      · have h := h.2 c
        exact h _ hM
theorem B_land_43 {Ω : Om} {σ0 : Sto} {m : Nat} {R : Room} {F : QF} {μ : Mu} {v1 : Int} {v2 : Int} (h : Q32 v2 ∧ ((¬ v2 = (0 : Int) → Mw Ω σ0 m M_Mdl_land R F 67 [xr (some m), xi v1, xi v2, xi 1, xu, xu] [xi 0, xr (some m)] μ) ∧ (v2 = (0 : Int) → Mw Ω σ0 m M_Mdl_land R F 67 [xr (some m), xi v1, xi v2, xi 1, xu, xu] [xi 1, xr (some m)] μ))) : Mw Ω σ0 m M_Mdl_land R F 43 [xr (some m), xi v1, xi v2, xu, xu, xu] [] μ := by
  intro σ hM
  obtain ⟨hS, hk, e⟩ := id hM
  subst e
  refine b_Mdl_land_43 ?_
  obtain ⟨o, h⟩ := h
  refine ⟨o, ?_⟩
  refine ⟨fun c => ?_, fun c => ?_⟩
  · have h := h.1 c
    exact h _ hM
  · have h := h.2 c
    exact h _ hM
theorem B_land_70 {Ω : Om} {σ0 : Sto} {m : Nat} {R : Room} {F : QF} {μ : Mu} {v1 : Int} {v2 : Int} {v3 : Int} {s0 : Int} (h : Q32 s0 ∧ ((s0 = (0 : Int) → 0 ≤ v1 ∧ v1 < 20 ∧ Mw Ω σ0 m M_Mdl_land R F 88 [xr (some m), xi v1, xi v2, xi v3, xi 0, xi 0] [] (wA μ 26 (v1).toNat 1)) ∧ (¬ s0 = (0 : Int) → Mw Ω σ0 m M_Mdl_land R F 74 [xr (some m), xi v1, xi v2, xi v3, xu, xu] [xi 0] μ))) : Mw Ω σ0 m M_Mdl_land R F 70 [xr (some m), xi v1, xi v2, xi v3, xu, xu] [xi s0] μ := by
  intro σ hM
  obtain ⟨hS, hk, e⟩ := id hM
  subst e
  refine b_Mdl_land_70 ?_
  obtain ⟨o, h⟩ := h
  refine ⟨o, ?_⟩
  refine ⟨fun c => ?_, fun c => ?_⟩
  · have h := h.1 c
    refine ⟨hS.2.1, ?_⟩
    refine ⟨_, hS.r26, ?_⟩
    refine ⟨hS.k26, ?_⟩
    obtain ⟨o, h⟩ := h
    refine ⟨o, ?_⟩
    obtain ⟨o, h⟩ := h
    refine ⟨hS.b26 o, ?_⟩
    exact h _ (MR.vI (j := 26) (by decide) hM)
  · have h := h.2 c
    exact h _ hM
theorem B_land_88 {Ω : Om} {σ0 : Sto} {m : Nat} {R : Room} {F : QF} {μ : Mu} {v1 : Int} {v2 : Int} {v3 : Int} {v4 : Int} {v5 : Int} (h : Q32 v5 ∧ (((mI μ 38) ≤ v5 → Mw Ω σ0 m M_Mdl_land R F 136 [xr (some m), xi v1, xi v2, xi v3, xi v4, xi v5] [xi v4] μ) ∧ (¬ (mI μ 38) ≤ v5 → 0 ≤ v5 ∧ v5 < 20 ∧ Q32 v1 ∧ ((¬ (mA μ 25 (v5).toNat) = v1 → Mw Ω σ0 m M_Mdl_land R F 88 [xr (some m), xi v1, xi v2, xi v3, xi (v4 + 0), xi (v5 + 1)] [] μ) ∧ ((mA μ 25 (v5).toNat) = v1 → 0 ≤ v5 ∧ v5 < 20 ∧ ((¬ (mA μ 26 (v5).toNat) = (0 : Int) → Mw Ω σ0 m M_Mdl_land R F 88 [xr (some m), xi v1, xi v2, xi v3, xi (v4 + 0), xi (v5 + 1)] [] μ) ∧ ((mA μ 26 (v5).toNat) = (0 : Int) → Mw Ω σ0 m M_Mdl_land R F 88 [xr (some m), xi v1, xi v2, xi v3, xi (v4 + 1), xi (v5 + 1)] [] μ))))))) : Mw Ω σ0 m M_Mdl_land R F 88 [xr (some m), xi v1, xi v2, xi v3, xi v4, xi v5] [] μ := by
  intro σ hM
  obtain ⟨hS, hk, e⟩ := id hM
  subst e
  refine b_Mdl_land_88 ?_
  refine ⟨hS.2.1, ?_⟩
  refine fun _ => ?_
  obtain ⟨o, h⟩ := h
  refine ⟨o, ?_⟩
  refine ⟨fun c => ?_, fun c => ?_⟩
  · have h := h.1 c
    exact h _ hM
  · have h := h.2 c
    refine ⟨_, hS.r25, ?_⟩
    refine ⟨hS.k25, ?_⟩
    obtain ⟨o, h⟩ := h
    refine ⟨o, ?_⟩
    obtain ⟨o, h⟩ := h
    refine ⟨hS.b25 o, ?_⟩
    refine fun _ => ?_
    obtain ⟨o, h⟩ := h
    refine ⟨o, ?_⟩
    refine ⟨fun c => ?_, fun c => ?_⟩
    · have h := h.1 c
      exact h _ hM
    · have h := h.2 c
      refine ⟨_, hS.r26, ?_⟩
      refine ⟨hS.k26, ?_⟩
      obtain ⟨o, h⟩ := h
      refine ⟨o, ?_⟩
      obtain ⟨o, h⟩ := h
      refine ⟨hS.b26 o, ?_⟩
      refine fun _ => ?_
      refine ⟨fun c => ?_, fun c => ?_⟩
      · have h := h.1 c
        exact h _ hM
      · have h := h.2 c
        exact h _ hM
theorem B_land_47 {Ω : Om} {σ0 : Sto} {m : Nat} {R : Room} {F : QF} {μ : Mu} {v1 : Int} {v2 : Int} (h : Q32 v2 ∧ ((¬ v2 = (0 : Int) → Mw Ω σ0 m M_Mdl_land R F 67 [xr (some m), xi v1, xi v2, xi 0, xu, xu] [xi 2, xr (some m)] μ) ∧ (v2 = (0 : Int) → Mw Ω σ0 m M_Mdl_land R F 67 [xr (some m), xi v1, xi v2, xi 0, xu, xu] [xi 1, xr (some m)] μ))) : Mw Ω σ0 m M_Mdl_land R F 47 [xr (some m), xi v1, xi v2, xu, xu, xu] [] μ := by
  intro σ hM
  obtain ⟨hS, hk, e⟩ := id hM
  subst e
  refine b_Mdl_land_47 ?_
  obtain ⟨o, h⟩ := h
  refine ⟨o, ?_⟩
  refine ⟨fun c => ?_, fun c => ?_⟩
  · have h := h.1 c
    exact h _ hM
  · have h := h.2 c
    exact h _ hM
theorem C_land_2 {Ω : Om} {σ0 : Sto} {m : Nat} {F : QF} {L st : List PV} {μ : Mu} {Q : Int → Mu → Prop} {x0 : Int} (hc : MMi Ω m M_Mdl_isReview rm_Mdl_isReview Q μ [xi x0]) (kk : ∀ y μ', Q y μ' → Mw Ω σ0 m M_Mdl_land rm_Mdl_land F 5 L (xi y :: st) μ') (hst : (st.map catP).sum ≤ 8 := by exact Nat.le_of_ble_eq_true rfl) : Mw Ω σ0 m M_Mdl_land rm_Mdl_land F 2 L (xi x0 :: xr (some m) :: st) μ :=
  fun σ hM => c_Mdl_land_2 (hc σ0 σ hM) hM.1.2.1 (by decide) (by decide) (by decide) (by decide) hst (fun y σ' hq => by obtain ⟨μ', h1, h2⟩ := hq; exact kk y μ' h2 σ' h1) (fun _ _ h => h.elim)
theorem C_land_12 {Ω : Om} {σ0 : Sto} {m : Nat} {F : QF} {L st : List PV} {μ : Mu} {Q : Int → Mu → Prop} {x0 : Int} (hc : MMi Ω m M_Mdl_stateOf rm_Mdl_stateOf Q μ [xi x0]) (kk : ∀ y μ', Q y μ' → Mw Ω σ0 m M_Mdl_land rm_Mdl_land F 15 L (xi y :: st) μ') (hst : (st.map catP).sum ≤ 8 := by exact Nat.le_of_ble_eq_true rfl) : Mw Ω σ0 m M_Mdl_land rm_Mdl_land F 12 L (xi x0 :: xr (some m) :: st) μ :=
  fun σ hM => c_Mdl_land_12 (hc σ0 σ hM) hM.1.2.1 (by decide) (by decide) (by decide) (by decide) hst (fun y σ' hq => by obtain ⟨μ', h1, h2⟩ := hq; exact kk y μ' h2 σ' h1) (fun _ _ h => h.elim)
theorem C_land_67 {Ω : Om} {σ0 : Sto} {m : Nat} {F : QF} {L st : List PV} {μ : Mu} {Q : Int → Mu → Prop} {x0 : Int} (hc : MMi Ω m M_Mdl_refused rm_Mdl_refused Q μ [xi x0]) (kk : ∀ y μ', Q y μ' → Mw Ω σ0 m M_Mdl_land rm_Mdl_land F 70 L (xi y :: st) μ') (hst : (st.map catP).sum ≤ 8 := by exact Nat.le_of_ble_eq_true rfl) : Mw Ω σ0 m M_Mdl_land rm_Mdl_land F 67 L (xi x0 :: xr (some m) :: st) μ :=
  fun σ hM => c_Mdl_land_67 (hc σ0 σ hM) hM.1.2.1 (by decide) (by decide) (by decide) (by decide) hst (fun y σ' hq => by obtain ⟨μ', h1, h2⟩ := hq; exact kk y μ' h2 σ' h1) (fun _ _ h => h.elim)
theorem R_land_74 {Ω : Om} {σ0 : Sto} {m : Nat} {L : List PV} {μ : Mu} {Q : Int → Mu → Prop} {x : Int} (h : Q x μ) : Mw Ω σ0 m M_Mdl_land rm_Mdl_land (MQi Ω σ0 m rm_Mdl_land Q) 74 L [xi x] μ := fun σ hM => r_Mdl_land_74 ⟨_, rfl, μ, hM, h⟩ (by decide) (by decide)
theorem R_land_136 {Ω : Om} {σ0 : Sto} {m : Nat} {L : List PV} {μ : Mu} {Q : Int → Mu → Prop} {x : Int} (h : Q x μ) : Mw Ω σ0 m M_Mdl_land rm_Mdl_land (MQi Ω σ0 m rm_Mdl_land Q) 136 L [xi x] μ := fun σ hM => r_Mdl_land_136 ⟨_, rfl, μ, hM, h⟩ (by decide) (by decide)
theorem E_land {Ω : Om} {m : Nat} {μ : Mu} {Q : Int → Mu → Prop} {v1 : Int} (h : ∀ σ0, Mw Ω σ0 m M_Mdl_land rm_Mdl_land (MQi Ω σ0 m rm_Mdl_land Q) 0 [xr (some m), xi v1, xu, xu, xu, xu] [] μ) : MMi Ω m M_Mdl_land rm_Mdl_land Q μ [xi v1] := fun σ0 σ hM => e_Mdl_land (h σ0 σ hM)
theorem B_noteAt_0 {Ω : Om} {σ0 : Sto} {m : Nat} {R : Room} {F : QF} {μ : Mu} {v1 : Int} {v2 : Int} (h : Mw Ω σ0 m M_Mdl_noteAt R F 9 [xr (some m), xi v1, xi v2, xu, xu] [xi ((mI μ 36) - 1), xi 0, xi v1, xr (some m)] μ) : Mw Ω σ0 m M_Mdl_noteAt R F 0 [xr (some m), xi v1, xi v2, xu, xu] [] μ := by
  intro σ hM
  obtain ⟨hS, hk, e⟩ := id hM
  subst e
  refine b_Mdl_noteAt_0 ?_
  refine ⟨hS.2.1, ?_⟩
  refine fun _ => ?_
  exact h _ hM
theorem B_noteAt_12 {Ω : Om} {σ0 : Sto} {m : Nat} {R : Room} {F : QF} {μ : Mu} {v1 : Int} {v2 : Int} {s1 : Int} (h : Q32 s1 ∧ ((s1 = (0 : Int) → Mw Ω σ0 m M_Mdl_noteAt R F 28 [xr (some m), xi v1, xi v2, xu, xu] [xi 1, xr (some m)] μ) ∧ (¬ s1 = (0 : Int) → Mw Ω σ0 m M_Mdl_noteAt R F 17 [xr (some m), xi v1, xi v2, xu, xu] [xi v2, xr (some m), xr (some m)] μ))) : Mw Ω σ0 m M_Mdl_noteAt R F 12 [xr (some m), xi v1, xi v2, xu, xu] [xi s1, xr (some m)] μ := by
  intro σ hM
  obtain ⟨hS, hk, e⟩ := id hM
  subst e
  refine b_Mdl_noteAt_12 ?_
  obtain ⟨o, h⟩ := h
  refine ⟨o, ?_⟩
  refine ⟨fun c => ?_, fun c => ?_⟩
  · have h := h.1 c
    exact h _ hM
  · have h := h.2 c
    exact h _ hM
theorem B_noteAt_20 {Ω : Om} {σ0 : Sto} {m : Nat} {R : Room} {F : QF} {μ : Mu} {v1 : Int} {v2 : Int} {s1 : Int} (h : Q32 s1 ∧ ((s1 = (0 : Int) → Mw Ω σ0 m M_Mdl_noteAt R F 28 [xr (some m), xi v1, xi v2, xu, xu] [xi 1, xr (some m)] μ) ∧ (¬ s1 = (0 : Int) → Mw Ω σ0 m M_Mdl_noteAt R F 28 [xr (some m), xi v1, xi v2, xu, xu] [xi 0, xr (some m)] μ))) : Mw Ω σ0 m M_Mdl_noteAt R F 20 [xr (some m), xi v1, xi v2, xu, xu] [xi s1, xr (some m)] μ := by
  intro σ hM
  obtain ⟨hS, hk, e⟩ := id hM
  subst e
  refine b_Mdl_noteAt_20 ?_
  obtain ⟨o, h⟩ := h
  refine ⟨o, ?_⟩
  refine ⟨fun c => ?_, fun c => ?_⟩
  · have h := h.1 c
    exact h _ hM
  · have h := h.2 c
    exact h _ hM
theorem B_noteAt_31 {Ω : Om} {σ0 : Sto} {m : Nat} {R : Room} {F : QF} {μ : Mu} {v1 : Int} {v2 : Int} {s0 : Int} (h : Q32 s0 ∧ ((s0 = (0 : Int) → Mw Ω σ0 m M_Mdl_noteAt R F 38 [xr (some m), xi v1, xi v2, xi 0, xu] [] μ) ∧ (¬ s0 = (0 : Int) → Mw Ω σ0 m M_Mdl_noteAt R F 35 [xr (some m), xi v1, xi v2, xu, xu] [xi 0] μ))) : Mw Ω σ0 m M_Mdl_noteAt R F 31 [xr (some m), xi v1, xi v2, xu, xu] [xi s0] μ := by
  intro σ hM
  obtain ⟨hS, hk, e⟩ := id hM
  subst e
  refine b_Mdl_noteAt_31 ?_
  obtain ⟨o, h⟩ := h
  refine ⟨o, ?_⟩
  refine ⟨fun c => ?_, fun c => ?_⟩
  · have h := h.1 c
    exact h _ hM
  · have h := h.2 c
    exact h _ hM
theorem B_noteAt_38 {Ω : Om} {σ0 : Sto} {m : Nat} {R : Room} {F : QF} {μ : Mu} {v1 : Int} {v2 : Int} {v3 : Int} (h : 0 ≤ v2 ∧ v2 < 40 ∧ Q32 v3 ∧ (((mA μ 4 (v2).toNat) ≤ v3 → Mw Ω σ0 m M_Mdl_noteAt R F 105 [xr (some m), xi v1, xi v2, xi v3, xu] [xi (-1)] μ) ∧ (¬ (mA μ 4 (v2).toNat) ≤ v3 → 0 ≤ ((20 * v2) + v3) ∧ ((20 * v2) + v3) < 800 ∧ Mw Ω σ0 m M_Mdl_noteAt R F 61 [xr (some m), xi v1, xi v2, xi v3, xi (mA μ 5 ((20 * v2) + v3).toNat)] [] μ))) : Mw Ω σ0 m M_Mdl_noteAt R F 38 [xr (some m), xi v1, xi v2, xi v3, xu] [] μ := by
  intro σ hM
  obtain ⟨hS, hk, e⟩ := id hM
  subst e
  refine b_Mdl_noteAt_38 ?_
  refine ⟨hS.2.1, ?_⟩
  refine ⟨_, hS.r4, ?_⟩
  refine ⟨hS.k4, ?_⟩
  obtain ⟨o, h⟩ := h
  refine ⟨o, ?_⟩
  obtain ⟨o, h⟩ := h
  refine ⟨hS.b4 o, ?_⟩
  refine fun _ => ?_
  obtain ⟨o, h⟩ := h
  refine ⟨o, ?_⟩
  refine ⟨fun c => ?_, fun c => ?_⟩
  · have h := h.1 c
    exact h _ hM
  · have h := h.2 c
    refine ⟨_, hS.r5, ?_⟩
    refine ⟨hS.k5, ?_⟩
    obtain ⟨o, h⟩ := h
    refine ⟨o, ?_⟩
    obtain ⟨o, h⟩ := h
    refine ⟨hS.b5 o, ?_⟩
    refine fun _ => ?_
    exact h _ hM
theorem B_noteAt_61 {Ω : Om} {σ0 : Sto} {m : Nat} {R : Room} {F : QF} {μ : Mu} {v1 : Int} {v2 : Int} {v3 : Int} {v4 : Int} (h : Q32 v4 ∧ ((v4 = (-1 : Int) → ((v4 = (-1 : Int) → Mw Ω σ0 m M_Mdl_noteAt R F 38 [xr (some m), xi v1, xi v2, xi (v3 + 1), xu] [] μ) ∧ (¬ v4 = (-1 : Int) → Mw Ω σ0 m M_Mdl_noteAt R F 97 [xr (some m), xi v1, xi v2, xi v3, xi v4] [xi v3] μ))) ∧ (¬ v4 = (-1 : Int) → 0 ≤ v1 ∧ v1 < 20 ∧ ((v4 = (mA μ 23 (v1).toNat) → ((v4 = (-1 : Int) → Mw Ω σ0 m M_Mdl_noteAt R F 38 [xr (some m), xi v1, xi v2, xi (v3 + 1), xu] [] μ) ∧ (¬ v4 = (-1 : Int) → Mw Ω σ0 m M_Mdl_noteAt R F 97 [xr (some m), xi v1, xi v2, xi v3, xi v4] [xi v3] μ))) ∧ (¬ v4 = (mA μ 23 (v1).toNat) → 0 ≤ v4 ∧ v4 < 16384 ∧ Mw Ω σ0 m M_Mdl_noteAt R F 61 [xr (some m), xi v1, xi v2, xi v3, xi (mA μ 3 (v4).toNat)] [] μ))))) : Mw Ω σ0 m M_Mdl_noteAt R F 61 [xr (some m), xi v1, xi v2, xi v3, xi v4] [] μ := by
  intro σ hM
  obtain ⟨hS, hk, e⟩ := id hM
  subst e
  refine b_Mdl_noteAt_61 ?_
  obtain ⟨o, h⟩ := h
  refine ⟨o, ?_⟩
  refine ⟨fun c => ?_, fun c => ?_⟩
  · have h := h.1 c
    refine ⟨fun c => ?_, fun c => ?_⟩
    · have h := h.1 c
      exact h _ hM
    · have h := h.2 c
      exact h _ hM
  · have h := h.2 c
    refine ⟨hS.2.1, ?_⟩
    refine ⟨_, hS.r23, ?_⟩
    refine ⟨hS.k23, ?_⟩
    obtain ⟨o, h⟩ := h
    refine ⟨o, ?_⟩
    obtain ⟨o, h⟩ := h
    refine ⟨hS.b23 o, ?_⟩
    refine fun _ => ?_
    refine ⟨fun c => ?_, fun c => ?_⟩
    · have h := h.1 c
      refine ⟨fun c => ?_, fun c => ?_⟩
      · have h := h.1 c
        exact h _ hM
      · have h := h.2 c
        exact h _ hM
    · have h := h.2 c
      refine ⟨_, hS.r3, ?_⟩
      refine ⟨hS.k3, ?_⟩
      obtain ⟨o, h⟩ := h
      refine ⟨o, ?_⟩
      obtain ⟨o, h⟩ := h
      refine ⟨hS.b3 o, ?_⟩
      refine fun _ => ?_
      exact h _ hM
theorem C_noteAt_9 {Ω : Om} {σ0 : Sto} {m : Nat} {F : QF} {L st : List PV} {μ : Mu} {P : Int → Prop} {x0 : Int} {x1 : Int} {x2 : Int} (hc : MPi Ω M_Mdl_in rm_Mdl_in P [xi x0, xi x1, xi x2]) (kk : ∀ y , P y  → Mw Ω σ0 m M_Mdl_noteAt rm_Mdl_noteAt F 12 L (xi y :: st) μ) (hst : (st.map catP).sum ≤ 8 := by exact Nat.le_of_ble_eq_true rfl) : Mw Ω σ0 m M_Mdl_noteAt rm_Mdl_noteAt F 9 L (xi x2 :: xi x1 :: xi x0 :: st) μ :=
  fun σ hM => c_Mdl_noteAt_9 (hc σ) (by decide) (by decide) (by decide) (by decide) hst (fun y σ' hq => by obtain ⟨rfl, h2⟩ := hq; exact kk y h2 σ' hM) (fun _ _ h => h.elim)
theorem C_noteAt_17 {Ω : Om} {σ0 : Sto} {m : Nat} {F : QF} {L st : List PV} {μ : Mu} {Q : Int → Mu → Prop} {x0 : Int} (hc : MMi Ω m M_Mdl_isVersion rm_Mdl_isVersion Q μ [xi x0]) (kk : ∀ y μ', Q y μ' → Mw Ω σ0 m M_Mdl_noteAt rm_Mdl_noteAt F 20 L (xi y :: st) μ') (hst : (st.map catP).sum ≤ 8 := by exact Nat.le_of_ble_eq_true rfl) : Mw Ω σ0 m M_Mdl_noteAt rm_Mdl_noteAt F 17 L (xi x0 :: xr (some m) :: st) μ :=
  fun σ hM => c_Mdl_noteAt_17 (hc σ0 σ hM) hM.1.2.1 (by decide) (by decide) (by decide) (by decide) hst (fun y σ' hq => by obtain ⟨μ', h1, h2⟩ := hq; exact kk y μ' h2 σ' h1) (fun _ _ h => h.elim)
theorem C_noteAt_28 {Ω : Om} {σ0 : Sto} {m : Nat} {F : QF} {L st : List PV} {μ : Mu} {Q : Int → Mu → Prop} {x0 : Int} (hc : MMi Ω m M_Mdl_refused rm_Mdl_refused Q μ [xi x0]) (kk : ∀ y μ', Q y μ' → Mw Ω σ0 m M_Mdl_noteAt rm_Mdl_noteAt F 31 L (xi y :: st) μ') (hst : (st.map catP).sum ≤ 8 := by exact Nat.le_of_ble_eq_true rfl) : Mw Ω σ0 m M_Mdl_noteAt rm_Mdl_noteAt F 28 L (xi x0 :: xr (some m) :: st) μ :=
  fun σ hM => c_Mdl_noteAt_28 (hc σ0 σ hM) hM.1.2.1 (by decide) (by decide) (by decide) (by decide) hst (fun y σ' hq => by obtain ⟨μ', h1, h2⟩ := hq; exact kk y μ' h2 σ' h1) (fun _ _ h => h.elim)
theorem R_noteAt_35 {Ω : Om} {σ0 : Sto} {m : Nat} {L : List PV} {μ : Mu} {Q : Int → Mu → Prop} {x : Int} (h : Q x μ) : Mw Ω σ0 m M_Mdl_noteAt rm_Mdl_noteAt (MQi Ω σ0 m rm_Mdl_noteAt Q) 35 L [xi x] μ := fun σ hM => r_Mdl_noteAt_35 ⟨_, rfl, μ, hM, h⟩ (by decide) (by decide)
theorem R_noteAt_97 {Ω : Om} {σ0 : Sto} {m : Nat} {L : List PV} {μ : Mu} {Q : Int → Mu → Prop} {x : Int} (h : Q x μ) : Mw Ω σ0 m M_Mdl_noteAt rm_Mdl_noteAt (MQi Ω σ0 m rm_Mdl_noteAt Q) 97 L [xi x] μ := fun σ hM => r_Mdl_noteAt_97 ⟨_, rfl, μ, hM, h⟩ (by decide) (by decide)
theorem R_noteAt_105 {Ω : Om} {σ0 : Sto} {m : Nat} {L : List PV} {μ : Mu} {Q : Int → Mu → Prop} {x : Int} (h : Q x μ) : Mw Ω σ0 m M_Mdl_noteAt rm_Mdl_noteAt (MQi Ω σ0 m rm_Mdl_noteAt Q) 105 L [xi x] μ := fun σ hM => r_Mdl_noteAt_105 ⟨_, rfl, μ, hM, h⟩ (by decide) (by decide)
theorem E_noteAt {Ω : Om} {m : Nat} {μ : Mu} {Q : Int → Mu → Prop} {v1 : Int} {v2 : Int} (h : ∀ σ0, Mw Ω σ0 m M_Mdl_noteAt rm_Mdl_noteAt (MQi Ω σ0 m rm_Mdl_noteAt Q) 0 [xr (some m), xi v1, xi v2, xu, xu] [] μ) : MMi Ω m M_Mdl_noteAt rm_Mdl_noteAt Q μ [xi v1, xi v2] := fun σ0 σ hM => e_Mdl_noteAt (h σ0 σ hM)
theorem B_since_0 {Ω : Om} {σ0 : Sto} {m : Nat} {R : Room} {F : QF} {μ : Mu} {v1 : Int} {v2 : Int} (h : Mw Ω σ0 m M_Mdl_since R F 4 [xr (some m), xi v1, xi v2, xu, xu, xu] [xi v2, xi v1, xr (some m), xr (some m)] μ) : Mw Ω σ0 m M_Mdl_since R F 0 [xr (some m), xi v1, xi v2, xu, xu, xu] [] μ := by
  intro σ hM
  obtain ⟨hS, hk, e⟩ := id hM
  subst e
  refine b_Mdl_since_0 ?_
  exact h _ hM
theorem B_since_7 {Ω : Om} {σ0 : Sto} {m : Nat} {R : Room} {F : QF} {μ : Mu} {v1 : Int} {v2 : Int} {s1 : Int} (h : Q32 s1 ∧ ((s1 = (0 : Int) → Mw Ω σ0 m M_Mdl_since R F 15 [xr (some m), xi v1, xi v2, xu, xu, xu] [xi 1, xr (some m)] μ) ∧ (¬ s1 = (0 : Int) → Mw Ω σ0 m M_Mdl_since R F 15 [xr (some m), xi v1, xi v2, xu, xu, xu] [xi 0, xr (some m)] μ))) : Mw Ω σ0 m M_Mdl_since R F 7 [xr (some m), xi v1, xi v2, xu, xu, xu] [xi s1, xr (some m)] μ := by
  intro σ hM
  obtain ⟨hS, hk, e⟩ := id hM
  subst e
  refine b_Mdl_since_7 ?_
  obtain ⟨o, h⟩ := h
  refine ⟨o, ?_⟩
  refine ⟨fun c => ?_, fun c => ?_⟩
  · have h := h.1 c
    exact h _ hM
  · have h := h.2 c
    exact h _ hM
theorem B_since_18 {Ω : Om} {σ0 : Sto} {m : Nat} {R : Room} {F : QF} {μ : Mu} {v1 : Int} {v2 : Int} {s0 : Int} (h : Q32 s0 ∧ ((s0 = (0 : Int) → Mw Ω σ0 m M_Mdl_since R F 33 [xr (some m), xi v1, xi v2, xi v1, xi ((mI μ 5) - 1), xu] [] μ) ∧ (¬ s0 = (0 : Int) → Mw Ω σ0 m M_Mdl_since R F 22 [xr (some m), xi v1, xi v2, xu, xu, xu] [xi 0] μ))) : Mw Ω σ0 m M_Mdl_since R F 18 [xr (some m), xi v1, xi v2, xu, xu, xu] [xi s0] μ := by
  intro σ hM
  obtain ⟨hS, hk, e⟩ := id hM
  subst e
  refine b_Mdl_since_18 ?_
  obtain ⟨o, h⟩ := h
  refine ⟨o, ?_⟩
  refine ⟨fun c => ?_, fun c => ?_⟩
  · have h := h.1 c
    refine ⟨hS.2.1, ?_⟩
    refine fun _ => ?_
    exact h _ hM
  · have h := h.2 c
    exact h _ hM
theorem B_since_33 {Ω : Om} {σ0 : Sto} {m : Nat} {R : Room} {F : QF} {μ : Mu} {v1 : Int} {v2 : Int} {v3 : Int} {v4 : Int} (h : Q32 v4 ∧ ((v4 < (0 : Int) → Mw Ω σ0 m M_Mdl_since R F 100 [xr (some m), xi v1, xi v2, xi v3, xi v4, xu] [xi v3] μ) ∧ (¬ v4 < (0 : Int) → Mw Ω σ0 m M_Mdl_since R F 41 [xr (some m), xi v1, xi v2, xi v3, xi v4, xi 0] [] μ))) : Mw Ω σ0 m M_Mdl_since R F 33 [xr (some m), xi v1, xi v2, xi v3, xi v4, xu] [] μ := by
  intro σ hM
  obtain ⟨hS, hk, e⟩ := id hM
  subst e
  refine b_Mdl_since_33 ?_
  obtain ⟨o, h⟩ := h
  refine ⟨o, ?_⟩
  refine ⟨fun c => ?_, fun c => ?_⟩
  · have h := h.1 c
    exact h _ hM
  · have h := h.2 c
    exact h _ hM
theorem B_since_41 {Ω : Om} {σ0 : Sto} {m : Nat} {R : Room} {F : QF} {μ : Mu} {v1 : Int} {v2 : Int} {v3 : Int} {v4 : Int} {v5 : Int} (h : 0 ≤ v4 ∧ v4 < 40 ∧ Q32 v5 ∧ (((mA μ 4 (v4).toNat) ≤ v5 → Mw Ω σ0 m M_Mdl_since R F 33 [xr (some m), xi v1, xi v2, xi v3, xi (v4 + (-1)), xu] [] μ) ∧ (¬ (mA μ 4 (v4).toNat) ≤ v5 → 0 ≤ ((20 * v4) + v5) ∧ ((20 * v4) + v5) < 800 ∧ 0 ≤ ((20 * v1) + v2) ∧ ((20 * v1) + v2) < 800 ∧ ((¬ (mA μ 5 ((20 * v4) + v5).toNat) = (mA μ 5 ((20 * v1) + v2).toNat) → Mw Ω σ0 m M_Mdl_since R F 41 [xr (some m), xi v1, xi v2, xi v3, xi v4, xi (v5 + 1)] [] μ) ∧ ((mA μ 5 ((20 * v4) + v5).toNat) = (mA μ 5 ((20 * v1) + v2).toNat) → Mw Ω σ0 m M_Mdl_since R F 41 [xr (some m), xi v1, xi v2, xi v4, xi v4, xi (v5 + 1)] [] μ))))) : Mw Ω σ0 m M_Mdl_since R F 41 [xr (some m), xi v1, xi v2, xi v3, xi v4, xi v5] [] μ := by
  intro σ hM
  obtain ⟨hS, hk, e⟩ := id hM
  subst e
  refine b_Mdl_since_41 ?_
  refine ⟨hS.2.1, ?_⟩
  refine ⟨_, hS.r4, ?_⟩
  refine ⟨hS.k4, ?_⟩
  obtain ⟨o, h⟩ := h
  refine ⟨o, ?_⟩
  obtain ⟨o, h⟩ := h
  refine ⟨hS.b4 o, ?_⟩
  refine fun _ => ?_
  obtain ⟨o, h⟩ := h
  refine ⟨o, ?_⟩
  refine ⟨fun c => ?_, fun c => ?_⟩
  · have h := h.1 c
    exact h _ hM
  · have h := h.2 c
    refine ⟨_, hS.r5, ?_⟩
    refine ⟨hS.k5, ?_⟩
    obtain ⟨o, h⟩ := h
    refine ⟨o, ?_⟩
    obtain ⟨o, h⟩ := h
    refine ⟨hS.b5 o, ?_⟩
    refine fun _ => ?_
    obtain ⟨o, h⟩ := h
    refine ⟨o, ?_⟩
    obtain ⟨o, h⟩ := h
    refine ⟨hS.b5 o, ?_⟩
    refine fun _ => ?_
    refine ⟨fun c => ?_, fun c => ?_⟩
    · have h := h.1 c
      exact h _ hM
    · have h := h.2 c
      exact h _ hM
theorem C_since_4 {Ω : Om} {σ0 : Sto} {m : Nat} {F : QF} {L st : List PV} {μ : Mu} {Q : Int → Mu → Prop} {x0 : Int} {x1 : Int} (hc : MMi Ω m M_Mdl_isLineOf rm_Mdl_isLineOf Q μ [xi x0, xi x1]) (kk : ∀ y μ', Q y μ' → Mw Ω σ0 m M_Mdl_since rm_Mdl_since F 7 L (xi y :: st) μ') (hst : (st.map catP).sum ≤ 8 := by exact Nat.le_of_ble_eq_true rfl) : Mw Ω σ0 m M_Mdl_since rm_Mdl_since F 4 L (xi x1 :: xi x0 :: xr (some m) :: st) μ :=
  fun σ hM => c_Mdl_since_4 (hc σ0 σ hM) hM.1.2.1 (by decide) (by decide) (by decide) (by decide) hst (fun y σ' hq => by obtain ⟨μ', h1, h2⟩ := hq; exact kk y μ' h2 σ' h1) (fun _ _ h => h.elim)
theorem C_since_15 {Ω : Om} {σ0 : Sto} {m : Nat} {F : QF} {L st : List PV} {μ : Mu} {Q : Int → Mu → Prop} {x0 : Int} (hc : MMi Ω m M_Mdl_refused rm_Mdl_refused Q μ [xi x0]) (kk : ∀ y μ', Q y μ' → Mw Ω σ0 m M_Mdl_since rm_Mdl_since F 18 L (xi y :: st) μ') (hst : (st.map catP).sum ≤ 8 := by exact Nat.le_of_ble_eq_true rfl) : Mw Ω σ0 m M_Mdl_since rm_Mdl_since F 15 L (xi x0 :: xr (some m) :: st) μ :=
  fun σ hM => c_Mdl_since_15 (hc σ0 σ hM) hM.1.2.1 (by decide) (by decide) (by decide) (by decide) hst (fun y σ' hq => by obtain ⟨μ', h1, h2⟩ := hq; exact kk y μ' h2 σ' h1) (fun _ _ h => h.elim)
theorem R_since_22 {Ω : Om} {σ0 : Sto} {m : Nat} {L : List PV} {μ : Mu} {Q : Int → Mu → Prop} {x : Int} (h : Q x μ) : Mw Ω σ0 m M_Mdl_since rm_Mdl_since (MQi Ω σ0 m rm_Mdl_since Q) 22 L [xi x] μ := fun σ hM => r_Mdl_since_22 ⟨_, rfl, μ, hM, h⟩ (by decide) (by decide)
theorem R_since_100 {Ω : Om} {σ0 : Sto} {m : Nat} {L : List PV} {μ : Mu} {Q : Int → Mu → Prop} {x : Int} (h : Q x μ) : Mw Ω σ0 m M_Mdl_since rm_Mdl_since (MQi Ω σ0 m rm_Mdl_since Q) 100 L [xi x] μ := fun σ hM => r_Mdl_since_100 ⟨_, rfl, μ, hM, h⟩ (by decide) (by decide)
theorem E_since {Ω : Om} {m : Nat} {μ : Mu} {Q : Int → Mu → Prop} {v1 : Int} {v2 : Int} (h : ∀ σ0, Mw Ω σ0 m M_Mdl_since rm_Mdl_since (MQi Ω σ0 m rm_Mdl_since Q) 0 [xr (some m), xi v1, xi v2, xu, xu, xu] [] μ) : MMi Ω m M_Mdl_since rm_Mdl_since Q μ [xi v1, xi v2] := fun σ0 σ hM => e_Mdl_since (h σ0 σ hM)
theorem B_insert_0 {Ω : Om} {σ0 : Sto} {m : Nat} {R : Room} {F : QF} {μ : Mu} {v1 : Int} {v2 : Int64} (h : (((mI μ 11) = (0 : Int) → Mw Ω σ0 m M_Mdl_insert R F 68 [xr (some m), xi v1, xl v2, xu, xi 0] [xi 1, xr (some m)] μ) ∧ (¬ (mI μ 11) = (0 : Int) → Mw Ω σ0 m M_Mdl_insert R F 10 [xr (some m), xi v1, xl v2, xu, xu] [xr (some m), xi 0, xi v1] μ))) : Mw Ω σ0 m M_Mdl_insert R F 0 [xr (some m), xi v1, xl v2, xu, xu] [] μ := by
  intro σ hM
  obtain ⟨hS, hk, e⟩ := id hM
  subst e
  refine b_Mdl_insert_0 ?_
  refine ⟨hS.2.1, ?_⟩
  refine fun _ => ?_
  refine ⟨fun c => ?_, fun c => ?_⟩
  · have h := h.1 c
    exact h _ hM
  · have h := h.2 c
    exact h _ hM
theorem B_insert_16 {Ω : Om} {σ0 : Sto} {m : Nat} {R : Room} {F : QF} {μ : Mu} {v1 : Int} {v2 : Int64} {s0 : Int} (h : Q32 s0 ∧ ((s0 = (0 : Int) → Mw Ω σ0 m M_Mdl_insert R F 68 [xr (some m), xi v1, xl v2, xu, xi 0] [xi 1, xr (some m)] μ) ∧ (¬ s0 = (0 : Int) → Mw Ω σ0 m M_Mdl_insert R F 37 [xr (some m), xi v1, xl v2, xu, xi 1] [xl v2, xr (some m)] μ))) : Mw Ω σ0 m M_Mdl_insert R F 16 [xr (some m), xi v1, xl v2, xu, xu] [xi s0] μ := by
  intro σ hM
  obtain ⟨hS, hk, e⟩ := id hM
  subst e
  refine b_Mdl_insert_16 ?_
  obtain ⟨o, h⟩ := h
  refine ⟨o, ?_⟩
  refine ⟨fun c => ?_, fun c => ?_⟩
  · have h := h.1 c
    exact h _ hM
  · have h := h.2 c
    exact h _ hM
theorem B_insert_40 {Ω : Om} {σ0 : Sto} {m : Nat} {R : Room} {F : QF} {μ : Mu} {v1 : Int} {v2 : Int64} {v4 : Int} {s1 : Int} (h : Q32 s1 ∧ ((¬ s1 = (0 : Int) → Mw Ω σ0 m M_Mdl_insert R F 48 [xr (some m), xi v1, xl v2, xu, xi v4] [xr (some m), xr (some m)] μ) ∧ (s1 = (0 : Int) → Mw Ω σ0 m M_Mdl_insert R F 68 [xr (some m), xi v1, xl v2, xu, xi v4] [xi 2, xr (some m)] μ))) : Mw Ω σ0 m M_Mdl_insert R F 40 [xr (some m), xi v1, xl v2, xu, xi v4] [xi s1, xr (some m)] μ := by
  intro σ hM
  obtain ⟨hS, hk, e⟩ := id hM
  subst e
  refine b_Mdl_insert_40 ?_
  obtain ⟨o, h⟩ := h
  refine ⟨o, ?_⟩
  refine ⟨fun c => ?_, fun c => ?_⟩
  · have h := h.1 c
    exact h _ hM
  · have h := h.2 c
    exact h _ hM
theorem B_insert_71 {Ω : Om} {σ0 : Sto} {m : Nat} {R : Room} {F : QF} {μ : Mu} {v1 : Int} {v2 : Int64} {v4 : Int} {s0 : Int} (h : Q32 s0 ∧ ((s0 = (0 : Int) → Mw Ω σ0 m M_Mdl_insert R F 77 [xr (some m), xi v1, xl v2, xu, xi v4] [xr (some m)] μ) ∧ (¬ s0 = (0 : Int) → Mw Ω σ0 m M_Mdl_insert R F 75 [xr (some m), xi v1, xl v2, xu, xi v4] [xi 0] μ))) : Mw Ω σ0 m M_Mdl_insert R F 71 [xr (some m), xi v1, xl v2, xu, xi v4] [xi s0] μ := by
  intro σ hM
  obtain ⟨hS, hk, e⟩ := id hM
  subst e
  refine b_Mdl_insert_71 ?_
  obtain ⟨o, h⟩ := h
  refine ⟨o, ?_⟩
  refine ⟨fun c => ?_, fun c => ?_⟩
  · have h := h.1 c
    exact h _ hM
  · have h := h.2 c
    exact h _ hM
theorem B_insert_80 {Ω : Om} {σ0 : Sto} {m : Nat} {R : Room} {F : QF} {μ : Mu} {v1 : Int} {v2 : Int64} {v4 : Int} (h : Mw Ω σ0 m M_Mdl_insert R F 84 [xr (some m), xi v1, xl v2, xu, xi v4] [xl v2, xr (some m), xi v1, xr (some m)] μ) : Mw Ω σ0 m M_Mdl_insert R F 80 [xr (some m), xi v1, xl v2, xu, xi v4] [] μ := by
  intro σ hM
  obtain ⟨hS, hk, e⟩ := id hM
  subst e
  refine b_Mdl_insert_80 ?_
  exact h _ hM
theorem B_insert_90 {Ω : Om} {σ0 : Sto} {m : Nat} {R : Room} {F : QF} {μ : Mu} {v1 : Int} {v2 : Int64} {v4 : Int} (h : Mw Ω σ0 m M_Mdl_insert R F 94 [xr (some m), xi v1, xl v2, xu, xi v4] [xi (mI μ 15)] μ) : Mw Ω σ0 m M_Mdl_insert R F 90 [xr (some m), xi v1, xl v2, xu, xi v4] [] μ := by
  intro σ hM
  obtain ⟨hS, hk, e⟩ := id hM
  subst e
  refine b_Mdl_insert_90 ?_
  refine ⟨hS.2.1, ?_⟩
  refine fun _ => ?_
  exact h _ hM
theorem B_insert_51 {Ω : Om} {σ0 : Sto} {m : Nat} {R : Room} {F : QF} {μ : Mu} {v1 : Int} {v2 : Int64} {v4 : Int} {s1 : Int} (h : Q32 s1 ∧ ((s1 = (0 : Int) → Mw Ω σ0 m M_Mdl_insert R F 68 [xr (some m), xi v1, xl v2, xu, xi v4] [xi 3, xr (some m)] μ) ∧ (¬ s1 = (0 : Int) → ((¬ (mI μ 15) = (20 : Int) → Mw Ω σ0 m M_Mdl_insert R F 68 [xr (some m), xi v1, xl v2, xu, xi v4] [xi 0, xr (some m)] μ) ∧ ((mI μ 15) = (20 : Int) → Mw Ω σ0 m M_Mdl_insert R F 68 [xr (some m), xi v1, xl v2, xu, xi v4] [xi 3, xr (some m)] μ))))) : Mw Ω σ0 m M_Mdl_insert R F 51 [xr (some m), xi v1, xl v2, xu, xi v4] [xi s1, xr (some m)] μ := by
  intro σ hM
  obtain ⟨hS, hk, e⟩ := id hM
  subst e
  refine b_Mdl_insert_51 ?_
  obtain ⟨o, h⟩ := h
  refine ⟨o, ?_⟩
  refine ⟨fun c => ?_, fun c => ?_⟩
  · have h := h.1 c
    exact h _ hM
  · have h := h.2 c
    refine ⟨hS.2.1, ?_⟩
    refine fun _ => ?_
    refine ⟨fun c => ?_, fun c => ?_⟩
    · have h := h.1 c
      exact h _ hM
    · have h := h.2 c
      exact h _ hM
theorem C_insert_10 {Ω : Om} {σ0 : Sto} {m : Nat} {F : QF} {L st : List PV} {μ : Mu} {Q : Int → Mu → Prop}  (hc : MMi Ω m M_Mdl_lineCount rm_Mdl_lineCount Q μ []) (kk : ∀ y μ', Q y μ' → Mw Ω σ0 m M_Mdl_insert rm_Mdl_insert F 13 L (xi y :: st) μ') (hst : (st.map catP).sum ≤ 8 := by exact Nat.le_of_ble_eq_true rfl) : Mw Ω σ0 m M_Mdl_insert rm_Mdl_insert F 10 L (xr (some m) :: st) μ :=
  fun σ hM => c_Mdl_insert_10 (hc σ0 σ hM) hM.1.2.1 (by decide) (by decide) (by decide) (by decide) hst (fun y σ' hq => by obtain ⟨μ', h1, h2⟩ := hq; exact kk y μ' h2 σ' h1) (fun _ _ h => h.elim)
theorem C_insert_13 {Ω : Om} {σ0 : Sto} {m : Nat} {F : QF} {L st : List PV} {μ : Mu} {P : Int → Prop} {x0 : Int} {x1 : Int} {x2 : Int} (hc : MPi Ω M_Mdl_in rm_Mdl_in P [xi x0, xi x1, xi x2]) (kk : ∀ y , P y  → Mw Ω σ0 m M_Mdl_insert rm_Mdl_insert F 16 L (xi y :: st) μ) (hst : (st.map catP).sum ≤ 8 := by exact Nat.le_of_ble_eq_true rfl) : Mw Ω σ0 m M_Mdl_insert rm_Mdl_insert F 13 L (xi x2 :: xi x1 :: xi x0 :: st) μ :=
  fun σ hM => c_Mdl_insert_13 (hc σ) (by decide) (by decide) (by decide) (by decide) hst (fun y σ' hq => by obtain ⟨rfl, h2⟩ := hq; exact kk y h2 σ' hM) (fun _ _ h => h.elim)
theorem C_insert_37 {Ω : Om} {σ0 : Sto} {m : Nat} {F : QF} {L st : List PV} {μ : Mu} {P : Int → Prop} {x0 : Int64} (hc : MPi Ω M_Mdl_isLine rm_Mdl_isLine P [xl x0]) (kk : ∀ y , P y  → Mw Ω σ0 m M_Mdl_insert rm_Mdl_insert F 40 L (xi y :: st) μ) (hst : (st.map catP).sum ≤ 8 := by exact Nat.le_of_ble_eq_true rfl) : Mw Ω σ0 m M_Mdl_insert rm_Mdl_insert F 37 L (xl x0 :: st) μ :=
  fun σ hM => c_Mdl_insert_37 (hc σ) (by decide) (by decide) (by decide) (by decide) hst (fun y σ' hq => by obtain ⟨rfl, h2⟩ := hq; exact kk y h2 σ' hM) (fun _ _ h => h.elim)
theorem C_insert_48 {Ω : Om} {σ0 : Sto} {m : Nat} {F : QF} {L st : List PV} {μ : Mu} {Q : Int → Mu → Prop}  (hc : MMi Ω m M_Mdl_isSettled rm_Mdl_isSettled Q μ []) (kk : ∀ y μ', Q y μ' → Mw Ω σ0 m M_Mdl_insert rm_Mdl_insert F 51 L (xi y :: st) μ') (hst : (st.map catP).sum ≤ 8 := by exact Nat.le_of_ble_eq_true rfl) : Mw Ω σ0 m M_Mdl_insert rm_Mdl_insert F 48 L (xr (some m) :: st) μ :=
  fun σ hM => c_Mdl_insert_48 (hc σ0 σ hM) hM.1.2.1 (by decide) (by decide) (by decide) (by decide) hst (fun y σ' hq => by obtain ⟨μ', h1, h2⟩ := hq; exact kk y μ' h2 σ' h1) (fun _ _ h => h.elim)
theorem C_insert_68 {Ω : Om} {σ0 : Sto} {m : Nat} {F : QF} {L st : List PV} {μ : Mu} {Q : Int → Mu → Prop} {x0 : Int} (hc : MMi Ω m M_Mdl_refused rm_Mdl_refused Q μ [xi x0]) (kk : ∀ y μ', Q y μ' → Mw Ω σ0 m M_Mdl_insert rm_Mdl_insert F 71 L (xi y :: st) μ') (hst : (st.map catP).sum ≤ 8 := by exact Nat.le_of_ble_eq_true rfl) : Mw Ω σ0 m M_Mdl_insert rm_Mdl_insert F 68 L (xi x0 :: xr (some m) :: st) μ :=
  fun σ hM => c_Mdl_insert_68 (hc σ0 σ hM) hM.1.2.1 (by decide) (by decide) (by decide) (by decide) hst (fun y σ' hq => by obtain ⟨μ', h1, h2⟩ := hq; exact kk y μ' h2 σ' h1) (fun _ _ h => h.elim)
theorem R_insert_75 {Ω : Om} {σ0 : Sto} {m : Nat} {L : List PV} {μ : Mu} {Q : Int → Mu → Prop} {x : Int} (h : Q x μ) : Mw Ω σ0 m M_Mdl_insert rm_Mdl_insert (MQi Ω σ0 m rm_Mdl_insert Q) 75 L [xi x] μ := fun σ hM => r_Mdl_insert_75 ⟨_, rfl, μ, hM, h⟩ (by decide) (by decide)
theorem C_insert_77 {Ω : Om} {σ0 : Sto} {m : Nat} {F : QF} {L st : List PV} {μ : Mu} {Q : Mu → Prop}  (hc : MMv Ω m M_Mdl_remember rm_Mdl_remember Q μ []) (kk : ∀ μ', Q μ' → Mw Ω σ0 m M_Mdl_insert rm_Mdl_insert F 80 L st μ') (hst : (st.map catP).sum ≤ 8 := by exact Nat.le_of_ble_eq_true rfl) : Mw Ω σ0 m M_Mdl_insert rm_Mdl_insert F 77 L (xr (some m) :: st) μ :=
  fun σ hM => c_Mdl_insert_77 (hc σ0 σ hM) hM.1.2.1 (by decide) (by decide) (by decide) (by decide) hst (fun σ' hq => by obtain ⟨μ', h1, h2⟩ := hq; exact kk μ' h2 σ' h1) (fun _ _ h => h.elim)
theorem C_insert_84 {Ω : Om} {σ0 : Sto} {m : Nat} {F : QF} {L st : List PV} {μ : Mu} {Q : Int → Mu → Prop} {x0 : Int64} (hc : MMi Ω m M_Mdl_putIn rm_Mdl_putIn Q μ [xl x0]) (kk : ∀ y μ', Q y μ' → Mw Ω σ0 m M_Mdl_insert rm_Mdl_insert F 87 L (xi y :: st) μ') (hst : (st.map catP).sum ≤ 8 := by exact Nat.le_of_ble_eq_true rfl) : Mw Ω σ0 m M_Mdl_insert rm_Mdl_insert F 84 L (xl x0 :: xr (some m) :: st) μ :=
  fun σ hM => c_Mdl_insert_84 (hc σ0 σ hM) hM.1.2.1 (by decide) (by decide) (by decide) (by decide) hst (fun y σ' hq => by obtain ⟨μ', h1, h2⟩ := hq; exact kk y μ' h2 σ' h1) (fun _ _ h => h.elim)
theorem C_insert_87 {Ω : Om} {σ0 : Sto} {m : Nat} {F : QF} {L st : List PV} {μ : Mu} {Q : Mu → Prop} {x0 : Int} {x1 : Int} (hc : MMv Ω m M_Mdl_putAt rm_Mdl_putAt Q μ [xi x0, xi x1]) (kk : ∀ μ', Q μ' → Mw Ω σ0 m M_Mdl_insert rm_Mdl_insert F 90 L st μ') (hst : (st.map catP).sum ≤ 8 := by exact Nat.le_of_ble_eq_true rfl) : Mw Ω σ0 m M_Mdl_insert rm_Mdl_insert F 87 L (xi x1 :: xi x0 :: xr (some m) :: st) μ :=
  fun σ hM => c_Mdl_insert_87 (hc σ0 σ hM) hM.1.2.1 (by decide) (by decide) (by decide) (by decide) hst (fun σ' hq => by obtain ⟨μ', h1, h2⟩ := hq; exact kk μ' h2 σ' h1) (fun _ _ h => h.elim)
theorem R_insert_94 {Ω : Om} {σ0 : Sto} {m : Nat} {L : List PV} {μ : Mu} {Q : Int → Mu → Prop} {x : Int} (h : Q x μ) : Mw Ω σ0 m M_Mdl_insert rm_Mdl_insert (MQi Ω σ0 m rm_Mdl_insert Q) 94 L [xi x] μ := fun σ hM => r_Mdl_insert_94 ⟨_, rfl, μ, hM, h⟩ (by decide) (by decide)
theorem E_insert {Ω : Om} {m : Nat} {μ : Mu} {Q : Int → Mu → Prop} {v1 : Int} {v2 : Int64} (h : ∀ σ0, Mw Ω σ0 m M_Mdl_insert rm_Mdl_insert (MQi Ω σ0 m rm_Mdl_insert Q) 0 [xr (some m), xi v1, xl v2, xu, xu] [] μ) : MMi Ω m M_Mdl_insert rm_Mdl_insert Q μ [xi v1, xl v2] := fun σ0 σ hM => e_Mdl_insert (h σ0 σ hM)
theorem B_layPiece_0 {Ω : Om} {σ0 : Sto} {m : Nat} {R : Room} {F : QF} {μ : Mu} {v1 : Int} {v2 : Int} {v3 : Int} {v4 : Int} (h : 0 ≤ ((3 * (mI μ 17)) + v1) ∧ ((3 * (mI μ 17)) + v1) < 63 ∧ Q32 (v4 - v3) ∧ Mw Ω σ0 m M_Mdl_layPiece R F 24 [xr (some m), xi v1, xi v2, xi v3, xi v4, xi ((3 * (mI μ 17)) + v1), xi v3] [] (wA μ 10 ((3 * (mI μ 17)) + v1).toNat (v4 - v3))) : Mw Ω σ0 m M_Mdl_layPiece R F 0 [xr (some m), xi v1, xi v2, xi v3, xi v4, xu, xu] [] μ := by
  intro σ hM
  obtain ⟨hS, hk, e⟩ := id hM
  subst e
  refine b_Mdl_layPiece_0 ?_
  refine ⟨hS.2.1, ?_⟩
  refine fun _ => ?_
  refine ⟨_, hS.r10, ?_⟩
  refine ⟨hS.k10, ?_⟩
  obtain ⟨o, h⟩ := h
  refine ⟨o, ?_⟩
  obtain ⟨o, h⟩ := h
  refine ⟨hS.b10 o, ?_⟩
  obtain ⟨o, h⟩ := h
  refine ⟨o, ?_⟩
  exact h _ (MR.vI (j := 10) (by decide) hM)
theorem B_layPiece_24 {Ω : Om} {σ0 : Sto} {m : Nat} {R : Room} {F : QF} {μ : Mu} {v1 : Int} {v2 : Int} {v3 : Int} {v4 : Int} {v5 : Int} {v6 : Int} (h : Q32 v6 ∧ Q32 v4 ∧ ((v4 ≤ v6 → Mw Ω σ0 m M_Mdl_layPiece R F 64 [xr (some m), xi v1, xi v2, xi v3, xi v4, xi v5, xi v6] [] μ) ∧ (¬ v4 ≤ v6 → 0 ≤ ((20 * v2) + v6) ∧ ((20 * v2) + v6) < 800 ∧ 0 ≤ (((20 * v5) + v6) - v3) ∧ (((20 * v5) + v6) - v3) < 1260 ∧ Mw Ω σ0 m M_Mdl_layPiece R F 24 [xr (some m), xi v1, xi v2, xi v3, xi v4, xi v5, xi (v6 + 1)] [] (wA μ 11 (((20 * v5) + v6) - v3).toNat (mA μ 5 ((20 * v2) + v6).toNat))))) : Mw Ω σ0 m M_Mdl_layPiece R F 24 [xr (some m), xi v1, xi v2, xi v3, xi v4, xi v5, xi v6] [] μ := by
  intro σ hM
  obtain ⟨hS, hk, e⟩ := id hM
  subst e
  refine b_Mdl_layPiece_24 ?_
  obtain ⟨o, h⟩ := h
  refine ⟨o, ?_⟩
  obtain ⟨o, h⟩ := h
  refine ⟨o, ?_⟩
  refine ⟨fun c => ?_, fun c => ?_⟩
  · have h := h.1 c
    exact h _ hM
  · have h := h.2 c
    refine ⟨hS.2.1, ?_⟩
    refine ⟨_, hS.r11, ?_⟩
    refine ⟨_, hS.r5, ?_⟩
    refine ⟨hS.k5, ?_⟩
    obtain ⟨o, h⟩ := h
    refine ⟨o, ?_⟩
    obtain ⟨o, h⟩ := h
    refine ⟨hS.b5 o, ?_⟩
    refine fun _ => ?_
    refine ⟨hS.k11, ?_⟩
    obtain ⟨o, h⟩ := h
    refine ⟨o, ?_⟩
    obtain ⟨o, h⟩ := h
    refine ⟨hS.b11 o, ?_⟩
    exact h _ (MR.vI (j := 11) (by decide) hM)
theorem R_layPiece_64 {Ω : Om} {σ0 : Sto} {m : Nat} {L : List PV} {μ : Mu} {Q : Mu → Prop} (h : Q μ) : Mw Ω σ0 m M_Mdl_layPiece rm_Mdl_layPiece (MQv Ω σ0 m rm_Mdl_layPiece Q) 64 L [] μ := fun σ hM => r_Mdl_layPiece_64 ⟨rfl, μ, hM, h⟩ (by decide) (by decide)
theorem E_layPiece {Ω : Om} {m : Nat} {μ : Mu} {Q : Mu → Prop} {v1 : Int} {v2 : Int} {v3 : Int} {v4 : Int} (h : ∀ σ0, Mw Ω σ0 m M_Mdl_layPiece rm_Mdl_layPiece (MQv Ω σ0 m rm_Mdl_layPiece Q) 0 [xr (some m), xi v1, xi v2, xi v3, xi v4, xu, xu] [] μ) : MMv Ω m M_Mdl_layPiece rm_Mdl_layPiece Q μ [xi v1, xi v2, xi v3, xi v4] := fun σ0 σ hM => e_Mdl_layPiece (h σ0 σ hM)
theorem B_isTaken_0 {Ω : Om} {σ0 : Sto} {m : Nat} {R : Room} {F : QF} {μ : Mu} {v1 : Int} (h : Mw Ω σ0 m M_Mdl_isTaken R F 4 [xr (some m), xi v1, xi 0, xi 0] [] μ) : Mw Ω σ0 m M_Mdl_isTaken R F 0 [xr (some m), xi v1, xu, xu] [] μ := by
  intro σ hM
  obtain ⟨hS, hk, e⟩ := id hM
  subst e
  refine b_Mdl_isTaken_0 ?_
  exact h _ hM
theorem B_isTaken_4 {Ω : Om} {σ0 : Sto} {m : Nat} {R : Room} {F : QF} {μ : Mu} {v1 : Int} {v2 : Int} {v3 : Int} (h : Q32 v3 ∧ (((mI μ 26) ≤ v3 → Mw Ω σ0 m M_Mdl_isTaken R F 49 [xr (some m), xi v1, xi v2, xi v3] [xi v2] μ) ∧ (¬ (mI μ 26) ≤ v3 → Q32 v2 ∧ ((¬ v2 = (0 : Int) → Mw Ω σ0 m M_Mdl_isTaken R F 4 [xr (some m), xi v1, xi 1, xi (v3 + 1)] [] μ) ∧ (v2 = (0 : Int) → 0 ≤ v3 ∧ v3 < 20 ∧ Q32 v1 ∧ (((mA μ 15 (v3).toNat) = v1 → Mw Ω σ0 m M_Mdl_isTaken R F 4 [xr (some m), xi v1, xi 1, xi (v3 + 1)] [] μ) ∧ (¬ (mA μ 15 (v3).toNat) = v1 → 0 ≤ v3 ∧ v3 < 20 ∧ ((¬ (mA μ 16 (v3).toNat) = v1 → Mw Ω σ0 m M_Mdl_isTaken R F 4 [xr (some m), xi v1, xi 0, xi (v3 + 1)] [] μ) ∧ ((mA μ 16 (v3).toNat) = v1 → Mw Ω σ0 m M_Mdl_isTaken R F 4 [xr (some m), xi v1, xi 1, xi (v3 + 1)] [] μ))))))))) : Mw Ω σ0 m M_Mdl_isTaken R F 4 [xr (some m), xi v1, xi v2, xi v3] [] μ := by
  intro σ hM
  obtain ⟨hS, hk, e⟩ := id hM
  subst e
  refine b_Mdl_isTaken_4 ?_
  refine ⟨hS.2.1, ?_⟩
  refine fun _ => ?_
  obtain ⟨o, h⟩ := h
  refine ⟨o, ?_⟩
  refine ⟨fun c => ?_, fun c => ?_⟩
  · have h := h.1 c
    exact h _ hM
  · have h := h.2 c
    obtain ⟨o, h⟩ := h
    refine ⟨o, ?_⟩
    refine ⟨fun c => ?_, fun c => ?_⟩
    · have h := h.1 c
      exact h _ hM
    · have h := h.2 c
      refine ⟨_, hS.r15, ?_⟩
      refine ⟨hS.k15, ?_⟩
      obtain ⟨o, h⟩ := h
      refine ⟨o, ?_⟩
      obtain ⟨o, h⟩ := h
      refine ⟨hS.b15 o, ?_⟩
      refine fun _ => ?_
      obtain ⟨o, h⟩ := h
      refine ⟨o, ?_⟩
      refine ⟨fun c => ?_, fun c => ?_⟩
      · have h := h.1 c
        exact h _ hM
      · have h := h.2 c
        refine ⟨_, hS.r16, ?_⟩
        refine ⟨hS.k16, ?_⟩
        obtain ⟨o, h⟩ := h
        refine ⟨o, ?_⟩
        obtain ⟨o, h⟩ := h
        refine ⟨hS.b16 o, ?_⟩
        refine fun _ => ?_
        refine ⟨fun c => ?_, fun c => ?_⟩
        · have h := h.1 c
          exact h _ hM
        · have h := h.2 c
          exact h _ hM
theorem R_isTaken_49 {Ω : Om} {σ0 : Sto} {m : Nat} {L : List PV} {μ : Mu} {Q : Int → Mu → Prop} {x : Int} (hx : x = 0 ∨ x = 1) (h : Q x μ) : Mw Ω σ0 m M_Mdl_isTaken rm_Mdl_isTaken (MQi Ω σ0 m rm_Mdl_isTaken Q) 49 L [xi x] μ := fun σ hM => r_Mdl_isTaken_49 hx ⟨_, rfl, μ, hM, h⟩ (by decide) (by decide)
theorem E_isTaken {Ω : Om} {m : Nat} {μ : Mu} {Q : Int → Mu → Prop} {v1 : Int} (h : ∀ σ0, Mw Ω σ0 m M_Mdl_isTaken rm_Mdl_isTaken (MQi Ω σ0 m rm_Mdl_isTaken Q) 0 [xr (some m), xi v1, xu, xu] [] μ) : MMi Ω m M_Mdl_isTaken rm_Mdl_isTaken Q μ [xi v1] := fun σ0 σ hM => e_Mdl_isTaken (h σ0 σ hM)
theorem B_takeAt_0 {Ω : Om} {σ0 : Sto} {m : Nat} {R : Room} {F : QF} {μ : Mu} {v1 : Int} (h : Mw Ω σ0 m M_Mdl_takeAt R F 2 [xr (some m), xi v1, xi v1] [] μ) : Mw Ω σ0 m M_Mdl_takeAt R F 0 [xr (some m), xi v1, xu] [] μ := by
  intro σ hM
  obtain ⟨hS, hk, e⟩ := id hM
  subst e
  refine b_Mdl_takeAt_0 ?_
  exact h _ hM
theorem B_takeAt_2 {Ω : Om} {σ0 : Sto} {m : Nat} {R : Room} {F : QF} {μ : Mu} {v1 : Int} {v2 : Int} (h : Q32 v2 ∧ Q32 ((mI μ 15) - 1) ∧ ((((mI μ 15) - 1) ≤ v2 → Mw Ω σ0 m M_Mdl_takeAt R F 42 [xr (some m), xi v1, xi v2] [] (wI μ 15 ((mI μ 15) - 1))) ∧ (¬ ((mI μ 15) - 1) ≤ v2 → 0 ≤ (v2 + 1) ∧ (v2 + 1) < 64 ∧ 0 ≤ v2 ∧ v2 < 64 ∧ Mw Ω σ0 m M_Mdl_takeAt R F 2 [xr (some m), xi v1, xi (v2 + 1)] [] (wA μ 9 (v2).toNat (mA μ 9 (v2 + 1).toNat))))) : Mw Ω σ0 m M_Mdl_takeAt R F 2 [xr (some m), xi v1, xi v2] [] μ := by
  intro σ hM
  obtain ⟨hS, hk, e⟩ := id hM
  subst e
  refine b_Mdl_takeAt_2 ?_
  refine ⟨hS.2.1, ?_⟩
  refine fun _ => ?_
  obtain ⟨o, h⟩ := h
  refine ⟨o, ?_⟩
  obtain ⟨o, h⟩ := h
  refine ⟨o, ?_⟩
  refine ⟨fun c => ?_, fun c => ?_⟩
  · have h := h.1 c
    refine fun _ => ?_
    exact h _ (MR.uI (f := 15) hM)
  · have h := h.2 c
    refine ⟨_, hS.r9, ?_⟩
    refine ⟨hS.k9, ?_⟩
    obtain ⟨o, h⟩ := h
    refine ⟨o, ?_⟩
    obtain ⟨o, h⟩ := h
    refine ⟨hS.b9 o, ?_⟩
    refine fun _ => ?_
    obtain ⟨o, h⟩ := h
    refine ⟨o, ?_⟩
    obtain ⟨o, h⟩ := h
    refine ⟨hS.b9 o, ?_⟩
    exact h _ (MR.vI (j := 9) (by decide) hM)
theorem R_takeAt_42 {Ω : Om} {σ0 : Sto} {m : Nat} {L : List PV} {μ : Mu} {Q : Mu → Prop} (h : Q μ) : Mw Ω σ0 m M_Mdl_takeAt rm_Mdl_takeAt (MQv Ω σ0 m rm_Mdl_takeAt Q) 42 L [] μ := fun σ hM => r_Mdl_takeAt_42 ⟨rfl, μ, hM, h⟩ (by decide) (by decide)
theorem E_takeAt {Ω : Om} {m : Nat} {μ : Mu} {Q : Mu → Prop} {v1 : Int} (h : ∀ σ0, Mw Ω σ0 m M_Mdl_takeAt rm_Mdl_takeAt (MQv Ω σ0 m rm_Mdl_takeAt Q) 0 [xr (some m), xi v1, xu] [] μ) : MMv Ω m M_Mdl_takeAt rm_Mdl_takeAt Q μ [xi v1] := fun σ0 σ hM => e_Mdl_takeAt (h σ0 σ hM)
theorem B_isBelow_0 {Ω : Om} {σ0 : Sto} {m : Nat} {R : Room} {F : QF} {μ : Mu} {v1 : Int} {v2 : Int} (h : 0 ≤ v1 ∧ v1 < 20 ∧ Mw Ω σ0 m M_Mdl_isBelow R F 7 [xr (some m), xi v1, xi v2, xi (mA μ 34 (v1).toNat)] [] μ) : Mw Ω σ0 m M_Mdl_isBelow R F 0 [xr (some m), xi v1, xi v2, xu] [] μ := by
  intro σ hM
  obtain ⟨hS, hk, e⟩ := id hM
  subst e
  refine b_Mdl_isBelow_0 ?_
  refine ⟨hS.2.1, ?_⟩
  refine ⟨_, hS.r34, ?_⟩
  refine ⟨hS.k34, ?_⟩
  obtain ⟨o, h⟩ := h
  refine ⟨o, ?_⟩
  obtain ⟨o, h⟩ := h
  refine ⟨hS.b34 o, ?_⟩
  refine fun _ => ?_
  exact h _ hM
theorem B_isBelow_7 {Ω : Om} {σ0 : Sto} {m : Nat} {R : Room} {F : QF} {μ : Mu} {v1 : Int} {v2 : Int} {v3 : Int} (h : Q32 v3 ∧ ((v3 = (-1 : Int) → ((v3 = (-1 : Int) → Mw Ω σ0 m M_Mdl_isBelow R F 37 [xr (some m), xi v1, xi v2, xi v3] [xi 0] μ) ∧ (¬ v3 = (-1 : Int) → Mw Ω σ0 m M_Mdl_isBelow R F 37 [xr (some m), xi v1, xi v2, xi v3] [xi 1] μ))) ∧ (¬ v3 = (-1 : Int) → Q32 v2 ∧ ((v3 = v2 → ((v3 = (-1 : Int) → Mw Ω σ0 m M_Mdl_isBelow R F 37 [xr (some m), xi v1, xi v2, xi v3] [xi 0] μ) ∧ (¬ v3 = (-1 : Int) → Mw Ω σ0 m M_Mdl_isBelow R F 37 [xr (some m), xi v1, xi v2, xi v3] [xi 1] μ))) ∧ (¬ v3 = v2 → 0 ≤ v3 ∧ v3 < 20 ∧ Mw Ω σ0 m M_Mdl_isBelow R F 7 [xr (some m), xi v1, xi v2, xi (mA μ 34 (v3).toNat)] [] μ))))) : Mw Ω σ0 m M_Mdl_isBelow R F 7 [xr (some m), xi v1, xi v2, xi v3] [] μ := by
  intro σ hM
  obtain ⟨hS, hk, e⟩ := id hM
  subst e
  refine b_Mdl_isBelow_7 ?_
  obtain ⟨o, h⟩ := h
  refine ⟨o, ?_⟩
  refine ⟨fun c => ?_, fun c => ?_⟩
  · have h := h.1 c
    refine ⟨fun c => ?_, fun c => ?_⟩
    · have h := h.1 c
      exact h _ hM
    · have h := h.2 c
      exact h _ hM
  · have h := h.2 c
    obtain ⟨o, h⟩ := h
    refine ⟨o, ?_⟩
    refine ⟨fun c => ?_, fun c => ?_⟩
    · have h := h.1 c
      refine ⟨fun c => ?_, fun c => ?_⟩
      · have h := h.1 c
        exact h _ hM
      · have h := h.2 c
        exact h _ hM
    · have h := h.2 c
      refine ⟨hS.2.1, ?_⟩
      refine ⟨_, hS.r34, ?_⟩
      refine ⟨hS.k34, ?_⟩
      obtain ⟨o, h⟩ := h
      refine ⟨o, ?_⟩
      obtain ⟨o, h⟩ := h
      refine ⟨hS.b34 o, ?_⟩
      refine fun _ => ?_
      exact h _ hM
theorem R_isBelow_37 {Ω : Om} {σ0 : Sto} {m : Nat} {L : List PV} {μ : Mu} {Q : Int → Mu → Prop} {x : Int} (hx : x = 0 ∨ x = 1) (h : Q x μ) : Mw Ω σ0 m M_Mdl_isBelow rm_Mdl_isBelow (MQi Ω σ0 m rm_Mdl_isBelow Q) 37 L [xi x] μ := fun σ hM => r_Mdl_isBelow_37 hx ⟨_, rfl, μ, hM, h⟩ (by decide) (by decide)
theorem E_isBelow {Ω : Om} {m : Nat} {μ : Mu} {Q : Int → Mu → Prop} {v1 : Int} {v2 : Int} (h : ∀ σ0, Mw Ω σ0 m M_Mdl_isBelow rm_Mdl_isBelow (MQi Ω σ0 m rm_Mdl_isBelow Q) 0 [xr (some m), xi v1, xi v2, xu] [] μ) : MMi Ω m M_Mdl_isBelow rm_Mdl_isBelow Q μ [xi v1, xi v2] := fun σ0 σ hM => e_Mdl_isBelow (h σ0 σ hM)
theorem B_lineCount_0 {Ω : Om} {σ0 : Sto} {m : Nat} {R : Room} {F : QF} {μ : Mu}  (h : Mw Ω σ0 m M_Mdl_lineCount R F 4 [xr (some m), xi 0, xi 0] [] μ) : Mw Ω σ0 m M_Mdl_lineCount R F 0 [xr (some m), xu, xu] [] μ := by
  intro σ hM
  obtain ⟨hS, hk, e⟩ := id hM
  subst e
  refine b_Mdl_lineCount_0 ?_
  exact h _ hM
theorem B_lineCount_4 {Ω : Om} {σ0 : Sto} {m : Nat} {R : Room} {F : QF} {μ : Mu} {v1 : Int} {v2 : Int} (h : Q32 v2 ∧ (((mI μ 15) ≤ v2 → Mw Ω σ0 m M_Mdl_lineCount R F 36 [xr (some m), xi v1, xi v2] [xi v1] μ) ∧ (¬ (mI μ 15) ≤ v2 → 0 ≤ v2 ∧ v2 < 64 ∧ (((mA μ 9 (v2).toNat) < (0 : Int) → Mw Ω σ0 m M_Mdl_lineCount R F 4 [xr (some m), xi (v1 + 0), xi (v2 + 1)] [] μ) ∧ (¬ (mA μ 9 (v2).toNat) < (0 : Int) → Mw Ω σ0 m M_Mdl_lineCount R F 4 [xr (some m), xi (v1 + 1), xi (v2 + 1)] [] μ))))) : Mw Ω σ0 m M_Mdl_lineCount R F 4 [xr (some m), xi v1, xi v2] [] μ := by
  intro σ hM
  obtain ⟨hS, hk, e⟩ := id hM
  subst e
  refine b_Mdl_lineCount_4 ?_
  refine ⟨hS.2.1, ?_⟩
  refine fun _ => ?_
  obtain ⟨o, h⟩ := h
  refine ⟨o, ?_⟩
  refine ⟨fun c => ?_, fun c => ?_⟩
  · have h := h.1 c
    exact h _ hM
  · have h := h.2 c
    refine ⟨_, hS.r9, ?_⟩
    refine ⟨hS.k9, ?_⟩
    obtain ⟨o, h⟩ := h
    refine ⟨o, ?_⟩
    obtain ⟨o, h⟩ := h
    refine ⟨hS.b9 o, ?_⟩
    refine fun _ => ?_
    refine ⟨fun c => ?_, fun c => ?_⟩
    · have h := h.1 c
      exact h _ hM
    · have h := h.2 c
      exact h _ hM
theorem R_lineCount_36 {Ω : Om} {σ0 : Sto} {m : Nat} {L : List PV} {μ : Mu} {Q : Int → Mu → Prop} {x : Int} (h : Q x μ) : Mw Ω σ0 m M_Mdl_lineCount rm_Mdl_lineCount (MQi Ω σ0 m rm_Mdl_lineCount Q) 36 L [xi x] μ := fun σ hM => r_Mdl_lineCount_36 ⟨_, rfl, μ, hM, h⟩ (by decide) (by decide)
theorem E_lineCount {Ω : Om} {m : Nat} {μ : Mu} {Q : Int → Mu → Prop}  (h : ∀ σ0, Mw Ω σ0 m M_Mdl_lineCount rm_Mdl_lineCount (MQi Ω σ0 m rm_Mdl_lineCount Q) 0 [xr (some m), xu, xu] [] μ) : MMi Ω m M_Mdl_lineCount rm_Mdl_lineCount Q μ [] := fun σ0 σ hM => e_Mdl_lineCount (h σ0 σ hM)
theorem B_reviewState_0 {Ω : Om} {σ0 : Sto} {m : Nat} {R : Room} {F : QF} {μ : Mu} {v1 : Int} (h : Mw Ω σ0 m M_Mdl_reviewState R F 3 [xr (some m), xi v1] [xi v1, xr (some m), xr (some m)] μ) : Mw Ω σ0 m M_Mdl_reviewState R F 0 [xr (some m), xi v1] [] μ := by
  intro σ hM
  obtain ⟨hS, hk, e⟩ := id hM
  subst e
  refine b_Mdl_reviewState_0 ?_
  exact h _ hM
theorem B_reviewState_6 {Ω : Om} {σ0 : Sto} {m : Nat} {R : Room} {F : QF} {μ : Mu} {v1 : Int} {s1 : Int} (h : Q32 s1 ∧ ((s1 = (0 : Int) → Mw Ω σ0 m M_Mdl_reviewState R F 14 [xr (some m), xi v1] [xi 1, xr (some m)] μ) ∧ (¬ s1 = (0 : Int) → Mw Ω σ0 m M_Mdl_reviewState R F 14 [xr (some m), xi v1] [xi 0, xr (some m)] μ))) : Mw Ω σ0 m M_Mdl_reviewState R F 6 [xr (some m), xi v1] [xi s1, xr (some m)] μ := by
  intro σ hM
  obtain ⟨hS, hk, e⟩ := id hM
  subst e
  refine b_Mdl_reviewState_6 ?_
  obtain ⟨o, h⟩ := h
  refine ⟨o, ?_⟩
  refine ⟨fun c => ?_, fun c => ?_⟩
  · have h := h.1 c
    exact h _ hM
  · have h := h.2 c
    exact h _ hM
theorem B_reviewState_17 {Ω : Om} {σ0 : Sto} {m : Nat} {R : Room} {F : QF} {μ : Mu} {v1 : Int} {s0 : Int} (h : Q32 s0 ∧ ((s0 = (0 : Int) → Mw Ω σ0 m M_Mdl_reviewState R F 26 [xr (some m), xi v1] [xi v1, xr (some m)] μ) ∧ (¬ s0 = (0 : Int) → Mw Ω σ0 m M_Mdl_reviewState R F 29 [xr (some m), xi v1] [xi 0] μ))) : Mw Ω σ0 m M_Mdl_reviewState R F 17 [xr (some m), xi v1] [xi s0] μ := by
  intro σ hM
  obtain ⟨hS, hk, e⟩ := id hM
  subst e
  refine b_Mdl_reviewState_17 ?_
  obtain ⟨o, h⟩ := h
  refine ⟨o, ?_⟩
  refine ⟨fun c => ?_, fun c => ?_⟩
  · have h := h.1 c
    exact h _ hM
  · have h := h.2 c
    exact h _ hM
theorem C_reviewState_3 {Ω : Om} {σ0 : Sto} {m : Nat} {F : QF} {L st : List PV} {μ : Mu} {Q : Int → Mu → Prop} {x0 : Int} (hc : MMi Ω m M_Mdl_isReview rm_Mdl_isReview Q μ [xi x0]) (kk : ∀ y μ', Q y μ' → Mw Ω σ0 m M_Mdl_reviewState rm_Mdl_reviewState F 6 L (xi y :: st) μ') (hst : (st.map catP).sum ≤ 8 := by exact Nat.le_of_ble_eq_true rfl) : Mw Ω σ0 m M_Mdl_reviewState rm_Mdl_reviewState F 3 L (xi x0 :: xr (some m) :: st) μ :=
  fun σ hM => c_Mdl_reviewState_3 (hc σ0 σ hM) hM.1.2.1 (by decide) (by decide) (by decide) (by decide) hst (fun y σ' hq => by obtain ⟨μ', h1, h2⟩ := hq; exact kk y μ' h2 σ' h1) (fun _ _ h => h.elim)
theorem C_reviewState_14 {Ω : Om} {σ0 : Sto} {m : Nat} {F : QF} {L st : List PV} {μ : Mu} {Q : Int → Mu → Prop} {x0 : Int} (hc : MMi Ω m M_Mdl_refused rm_Mdl_refused Q μ [xi x0]) (kk : ∀ y μ', Q y μ' → Mw Ω σ0 m M_Mdl_reviewState rm_Mdl_reviewState F 17 L (xi y :: st) μ') (hst : (st.map catP).sum ≤ 8 := by exact Nat.le_of_ble_eq_true rfl) : Mw Ω σ0 m M_Mdl_reviewState rm_Mdl_reviewState F 14 L (xi x0 :: xr (some m) :: st) μ :=
  fun σ hM => c_Mdl_reviewState_14 (hc σ0 σ hM) hM.1.2.1 (by decide) (by decide) (by decide) (by decide) hst (fun y σ' hq => by obtain ⟨μ', h1, h2⟩ := hq; exact kk y μ' h2 σ' h1) (fun _ _ h => h.elim)
theorem C_reviewState_26 {Ω : Om} {σ0 : Sto} {m : Nat} {F : QF} {L st : List PV} {μ : Mu} {Q : Int → Mu → Prop} {x0 : Int} (hc : MMi Ω m M_Mdl_stateOf rm_Mdl_stateOf Q μ [xi x0]) (kk : ∀ y μ', Q y μ' → Mw Ω σ0 m M_Mdl_reviewState rm_Mdl_reviewState F 29 L (xi y :: st) μ') (hst : (st.map catP).sum ≤ 8 := by exact Nat.le_of_ble_eq_true rfl) : Mw Ω σ0 m M_Mdl_reviewState rm_Mdl_reviewState F 26 L (xi x0 :: xr (some m) :: st) μ :=
  fun σ hM => c_Mdl_reviewState_26 (hc σ0 σ hM) hM.1.2.1 (by decide) (by decide) (by decide) (by decide) hst (fun y σ' hq => by obtain ⟨μ', h1, h2⟩ := hq; exact kk y μ' h2 σ' h1) (fun _ _ h => h.elim)
theorem R_reviewState_29 {Ω : Om} {σ0 : Sto} {m : Nat} {L : List PV} {μ : Mu} {Q : Int → Mu → Prop} {x : Int} (h : Q x μ) : Mw Ω σ0 m M_Mdl_reviewState rm_Mdl_reviewState (MQi Ω σ0 m rm_Mdl_reviewState Q) 29 L [xi x] μ := fun σ hM => r_Mdl_reviewState_29 ⟨_, rfl, μ, hM, h⟩ (by decide) (by decide)
theorem E_reviewState {Ω : Om} {m : Nat} {μ : Mu} {Q : Int → Mu → Prop} {v1 : Int} (h : ∀ σ0, Mw Ω σ0 m M_Mdl_reviewState rm_Mdl_reviewState (MQi Ω σ0 m rm_Mdl_reviewState Q) 0 [xr (some m), xi v1] [] μ) : MMi Ω m M_Mdl_reviewState rm_Mdl_reviewState Q μ [xi v1] := fun σ0 σ hM => e_Mdl_reviewState (h σ0 σ hM)
theorem B_isVersion_0 {Ω : Om} {σ0 : Sto} {m : Nat} {R : Room} {F : QF} {μ : Mu} {v1 : Int} (h : Mw Ω σ0 m M_Mdl_isVersion R F 8 [xr (some m), xi v1] [xi ((mI μ 5) - 1), xi 0, xi v1] μ) : Mw Ω σ0 m M_Mdl_isVersion R F 0 [xr (some m), xi v1] [] μ := by
  intro σ hM
  obtain ⟨hS, hk, e⟩ := id hM
  subst e
  refine b_Mdl_isVersion_0 ?_
  refine ⟨hS.2.1, ?_⟩
  refine fun _ => ?_
  exact h _ hM
theorem C_isVersion_8 {Ω : Om} {σ0 : Sto} {m : Nat} {F : QF} {L st : List PV} {μ : Mu} {P : Int → Prop} {x0 : Int} {x1 : Int} {x2 : Int} (hc : MPi Ω M_Mdl_in rm_Mdl_in P [xi x0, xi x1, xi x2]) (kk : ∀ y , P y  → Mw Ω σ0 m M_Mdl_isVersion rm_Mdl_isVersion F 11 L (xi y :: st) μ) (hst : (st.map catP).sum ≤ 8 := by exact Nat.le_of_ble_eq_true rfl) : Mw Ω σ0 m M_Mdl_isVersion rm_Mdl_isVersion F 8 L (xi x2 :: xi x1 :: xi x0 :: st) μ :=
  fun σ hM => c_Mdl_isVersion_8 (hc σ) (by decide) (by decide) (by decide) (by decide) hst (fun y σ' hq => by obtain ⟨rfl, h2⟩ := hq; exact kk y h2 σ' hM) (fun _ _ h => h.elim)
theorem R_isVersion_11 {Ω : Om} {σ0 : Sto} {m : Nat} {L : List PV} {μ : Mu} {Q : Int → Mu → Prop} {x : Int} (hx : x = 0 ∨ x = 1) (h : Q x μ) : Mw Ω σ0 m M_Mdl_isVersion rm_Mdl_isVersion (MQi Ω σ0 m rm_Mdl_isVersion Q) 11 L [xi x] μ := fun σ hM => r_Mdl_isVersion_11 hx ⟨_, rfl, μ, hM, h⟩ (by decide) (by decide)
theorem E_isVersion {Ω : Om} {m : Nat} {μ : Mu} {Q : Int → Mu → Prop} {v1 : Int} (h : ∀ σ0, Mw Ω σ0 m M_Mdl_isVersion rm_Mdl_isVersion (MQi Ω σ0 m rm_Mdl_isVersion Q) 0 [xr (some m), xi v1] [] μ) : MMi Ω m M_Mdl_isVersion rm_Mdl_isVersion Q μ [xi v1] := fun σ0 σ hM => e_Mdl_isVersion (h σ0 σ hM)
