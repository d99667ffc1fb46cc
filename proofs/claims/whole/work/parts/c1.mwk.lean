/-! walks of the reference over its memory, 0 (by program) -/
theorem B_patch_0 {Ω : Om} {σ0 : Sto} {m : Nat} {R : Room} {F : QF} {μ : Mu} {v1 : Int} {v2 : Int} {v3 : Int} (h : Mw Ω σ0 m M_Mdl_patch R F 2 [xr (some m), xi v1, xi v2, xi v3, xu, xu, xu, xu, xu, xu, xu, xu, xu, xu, xu, xu] [xi v1, xr (some m)] μ) : Mw Ω σ0 m M_Mdl_patch R F 0 [xr (some m), xi v1, xi v2, xi v3, xu, xu, xu, xu, xu, xu, xu, xu, xu, xu, xu, xu] [] μ := by
  intro σ hM
  obtain ⟨hS, hk, e⟩ := id hM
  subst e
  refine b_Mdl_patch_0 ?_
  exact h _ hM
theorem B_patch_5 {Ω : Om} {σ0 : Sto} {m : Nat} {R : Room} {F : QF} {μ : Mu} {v1 : Int} {v2 : Int} {v3 : Int} {s0 : Int} (h : Q32 s0 ∧ ((s0 = (0 : Int) → Mw Ω σ0 m M_Mdl_patch R F 60 [xr (some m), xi v1, xi v2, xi v3, xi 0, xu, xu, xu, xu, xu, xu, xu, xu, xu, xu, xu] [xi 1, xr (some m)] μ) ∧ (¬ s0 = (0 : Int) → Mw Ω σ0 m M_Mdl_patch R F 10 [xr (some m), xi v1, xi v2, xi v3, xu, xu, xu, xu, xu, xu, xu, xu, xu, xu, xu, xu] [xi v2, xr (some m)] μ))) : Mw Ω σ0 m M_Mdl_patch R F 5 [xr (some m), xi v1, xi v2, xi v3, xu, xu, xu, xu, xu, xu, xu, xu, xu, xu, xu, xu] [xi s0] μ := by
  intro σ hM
  obtain ⟨hS, hk, e⟩ := id hM
  subst e
  refine b_Mdl_patch_5 ?_
  obtain ⟨o, h⟩ := h
  refine ⟨o, ?_⟩
  refine ⟨fun c => ?_, fun c => ?_⟩
  · have h := h.1 c
    exact h _ hM
  · have h := h.2 c
    exact h _ hM
theorem B_patch_13 {Ω : Om} {σ0 : Sto} {m : Nat} {R : Room} {F : QF} {μ : Mu} {v1 : Int} {v2 : Int} {v3 : Int} {s0 : Int} (h : Q32 s0 ∧ ((s0 = (0 : Int) → Mw Ω σ0 m M_Mdl_patch R F 60 [xr (some m), xi v1, xi v2, xi v3, xi 0, xu, xu, xu, xu, xu, xu, xu, xu, xu, xu, xu] [xi 1, xr (some m)] μ) ∧ (¬ s0 = (0 : Int) → Mw Ω σ0 m M_Mdl_patch R F 36 [xr (some m), xi v1, xi v2, xi v3, xi 1, xu, xu, xu, xu, xu, xu, xu, xu, xu, xu, xu] [xi 3, xi 0, xi v3, xr (some m)] μ))) : Mw Ω σ0 m M_Mdl_patch R F 13 [xr (some m), xi v1, xi v2, xi v3, xu, xu, xu, xu, xu, xu, xu, xu, xu, xu, xu, xu] [xi s0] μ := by
  intro σ hM
  obtain ⟨hS, hk, e⟩ := id hM
  subst e
  refine b_Mdl_patch_13 ?_
  obtain ⟨o, h⟩ := h
  refine ⟨o, ?_⟩
  refine ⟨fun c => ?_, fun c => ?_⟩
  · have h := h.1 c
    exact h _ hM
  · have h := h.2 c
    exact h _ hM
theorem B_patch_39 {Ω : Om} {σ0 : Sto} {m : Nat} {R : Room} {F : QF} {μ : Mu} {v1 : Int} {v2 : Int} {v3 : Int} {v4 : Int} {s1 : Int} (h : Q32 s1 ∧ ((¬ s1 = (0 : Int) → ((¬ (mI μ 29) = (10 : Int) → Mw Ω σ0 m M_Mdl_patch R F 60 [xr (some m), xi v1, xi v2, xi v3, xi v4, xu, xu, xu, xu, xu, xu, xu, xu, xu, xu, xu] [xi 0, xr (some m)] μ) ∧ ((mI μ 29) = (10 : Int) → Mw Ω σ0 m M_Mdl_patch R F 60 [xr (some m), xi v1, xi v2, xi v3, xi v4, xu, xu, xu, xu, xu, xu, xu, xu, xu, xu, xu] [xi 3, xr (some m)] μ))) ∧ (s1 = (0 : Int) → Mw Ω σ0 m M_Mdl_patch R F 60 [xr (some m), xi v1, xi v2, xi v3, xi v4, xu, xu, xu, xu, xu, xu, xu, xu, xu, xu, xu] [xi 2, xr (some m)] μ))) : Mw Ω σ0 m M_Mdl_patch R F 39 [xr (some m), xi v1, xi v2, xi v3, xi v4, xu, xu, xu, xu, xu, xu, xu, xu, xu, xu, xu] [xi s1, xr (some m)] μ := by
  intro σ hM
  obtain ⟨hS, hk, e⟩ := id hM
  subst e
  refine b_Mdl_patch_39 ?_
  obtain ⟨o, h⟩ := h
  refine ⟨o, ?_⟩
  refine ⟨fun c => ?_, fun c => ?_⟩
  · have h := h.1 c
    refine ⟨hS.2.1, ?_⟩
    refine fun _ => ?_
    refine ⟨fun c => ?_, fun c => ?_⟩
    · have h := h.1 c
      exact h _ hM
    · have h := h.2 c
      exact h _ hM
  · have h := h.2 c
    exact h _ hM
theorem B_patch_63 {Ω : Om} {σ0 : Sto} {m : Nat} {R : Room} {F : QF} {μ : Mu} {v1 : Int} {v2 : Int} {v3 : Int} {v4 : Int} {s0 : Int} (h : Q32 s0 ∧ ((s0 = (0 : Int) → Mw Ω σ0 m M_Mdl_patch R F 72 [xr (some m), xi v1, xi v2, xi v3, xi v4, xu, xu, xu, xu, xu, xu, xu, xu, xu, xu, xu] [xi 0, xi v2, xi v1, xr (some m)] μ) ∧ (¬ s0 = (0 : Int) → Mw Ω σ0 m M_Mdl_patch R F 67 [xr (some m), xi v1, xi v2, xi v3, xi v4, xu, xu, xu, xu, xu, xu, xu, xu, xu, xu, xu] [xi 0] μ))) : Mw Ω σ0 m M_Mdl_patch R F 63 [xr (some m), xi v1, xi v2, xi v3, xi v4, xu, xu, xu, xu, xu, xu, xu, xu, xu, xu, xu] [xi s0] μ := by
  intro σ hM
  obtain ⟨hS, hk, e⟩ := id hM
  subst e
  refine b_Mdl_patch_63 ?_
  obtain ⟨o, h⟩ := h
  refine ⟨o, ?_⟩
  refine ⟨fun c => ?_, fun c => ?_⟩
  · have h := h.1 c
    exact h _ hM
  · have h := h.2 c
    exact h _ hM
theorem B_patch_75 {Ω : Om} {σ0 : Sto} {m : Nat} {R : Room} {F : QF} {μ : Mu} {v1 : Int} {v2 : Int} {v3 : Int} {v4 : Int} {s0 : Int} (h : Mw Ω σ0 m M_Mdl_patch R F 88 [xr (some m), xi v1, xi v2, xi v3, xi v4, xi 0, xi 0, xi 0, xi 0, xu, xu, xu, xu, xu, xu, xu] [] μ) : Mw Ω σ0 m M_Mdl_patch R F 75 [xr (some m), xi v1, xi v2, xi v3, xi v4, xu, xu, xu, xu, xu, xu, xu, xu, xu, xu, xu] [xi s0] μ := by
  intro σ hM
  obtain ⟨hS, hk, e⟩ := id hM
  subst e
  refine b_Mdl_patch_75 ?_
  exact h _ hM
theorem B_patch_88 {Ω : Om} {σ0 : Sto} {m : Nat} {R : Room} {F : QF} {μ : Mu} {v1 : Int} {v2 : Int} {v3 : Int} {v4 : Int} {v5 : Int} {v6 : Int} {v7 : Int} {v8 : Int} (h : 0 ≤ v1 ∧ v1 < 40 ∧ Q32 v8 ∧ (((mA μ 4 (v1).toNat) < v8 → 0 ≤ (mI μ 29) ∧ (mI μ 29) < 10 ∧ Q32 v5 ∧ Mw Ω σ0 m M_Mdl_patch R F 221 [xr (some m), xi v1, xi v2, xi v3, xi v4, xi v5, xi v6, xi v7, xi 0, xu, xu, xu, xu, xu, xu, xu] [] (wA μ 17 (mI μ 29).toNat v5)) ∧ (¬ (mA μ 4 (v1).toNat) < v8 → ((¬ v8 = (mA μ 4 (v1).toNat) → Mw Ω σ0 m M_Mdl_patch R F 115 [xr (some m), xi v1, xi v2, xi v3, xi v4, xi v5, xi v6, xi v7, xi v8, xu, xu, xu, xu, xu, xu, xu] [xi 0] μ) ∧ (v8 = (mA μ 4 (v1).toNat) → Mw Ω σ0 m M_Mdl_patch R F 115 [xr (some m), xi v1, xi v2, xi v3, xi v4, xi v5, xi v6, xi v7, xi v8, xu, xu, xu, xu, xu, xu, xu] [xi 1] μ))))) : Mw Ω σ0 m M_Mdl_patch R F 88 [xr (some m), xi v1, xi v2, xi v3, xi v4, xi v5, xi v6, xi v7, xi v8, xu, xu, xu, xu, xu, xu, xu] [] μ := by
  intro σ hM
  obtain ⟨hS, hk, e⟩ := id hM
  subst e
  refine b_Mdl_patch_88 ?_
  refine ⟨hS.2.1, ?_⟩
  refine ⟨_, hS.r4, ?_⟩
  refine ⟨hS.k4, ?_⟩
  obtain ⟨o, h⟩ := h
  refine ⟨o, ?_⟩
  obtain ⟨o, h⟩ := h
  refine ⟨hS.b4 o, ?_⟩
  refine fun _ => ?_
  obtain ⟨o, h⟩ := h
  refine ⟨o, ?_⟩
  refine ⟨fun c => ?_, fun c => ?_⟩
  · have h := h.1 c
    refine ⟨_, hS.r17, ?_⟩
    refine fun _ => ?_
    refine ⟨hS.k17, ?_⟩
    obtain ⟨o, h⟩ := h
    refine ⟨o, ?_⟩
    obtain ⟨o, h⟩ := h
    refine ⟨hS.b17 o, ?_⟩
    obtain ⟨o, h⟩ := h
    refine ⟨o, ?_⟩
    exact h _ (MR.vI (j := 17) (by decide) hM)
  · have h := h.2 c
    refine fun _ => ?_
    refine ⟨fun c => ?_, fun c => ?_⟩
    · have h := h.1 c
      exact h _ hM
    · have h := h.2 c
      exact h _ hM
theorem B_patch_115 {Ω : Om} {σ0 : Sto} {m : Nat} {R : Room} {F : QF} {μ : Mu} {v1 : Int} {v2 : Int} {v3 : Int} {v4 : Int} {v5 : Int} {v6 : Int} {v7 : Int} {v8 : Int} {s0 : Int} (h : Q32 s0 ∧ ((¬ s0 = (0 : Int) → Mw Ω σ0 m M_Mdl_patch R F 133 [xr (some m), xi v1, xi v2, xi v3, xi v4, xi v5, xi v6, xi v7, xi v8, xi s0, xu, xu, xu, xu, xu, xu] [] μ) ∧ (s0 = (0 : Int) → 0 ≤ v8 ∧ v8 < 20 ∧ (((mA μ 30 (v8).toNat) = (-1 : Int) → Mw Ω σ0 m M_Mdl_patch R F 201 [xr (some m), xi v1, xi v2, xi v3, xi v4, xi v5, xi v6, xi v7, xi v8, xi s0, xu, xu, xu, xu, xu, xu] [] μ) ∧ (¬ (mA μ 30 (v8).toNat) = (-1 : Int) → Mw Ω σ0 m M_Mdl_patch R F 133 [xr (some m), xi v1, xi v2, xi v3, xi v4, xi v5, xi v6, xi v7, xi v8, xi s0, xu, xu, xu, xu, xu, xu] [] μ))))) : Mw Ω σ0 m M_Mdl_patch R F 115 [xr (some m), xi v1, xi v2, xi v3, xi v4, xi v5, xi v6, xi v7, xi v8, xu, xu, xu, xu, xu, xu, xu] [xi s0] μ := by
  intro σ hM
  obtain ⟨hS, hk, e⟩ := id hM
  subst e
  refine b_Mdl_patch_115 ?_
  obtain ⟨o, h⟩ := h
  refine ⟨o, ?_⟩
  refine ⟨fun c => ?_, fun c => ?_⟩
  · have h := h.1 c
    exact h _ hM
  · have h := h.2 c
    refine ⟨hS.2.1, ?_⟩
    refine ⟨_, hS.r30, ?_⟩
    refine ⟨hS.k30, ?_⟩
    obtain ⟨o, h⟩ := h
    refine ⟨o, ?_⟩
    obtain ⟨o, h⟩ := h
    refine ⟨hS.b30 o, ?_⟩
    refine fun _ => ?_
    refine ⟨fun c => ?_, fun c => ?_⟩
    · have h := h.1 c
      exact h _ hM
    · have h := h.2 c
      exact h _ hM
theorem B_patch_133 {Ω : Om} {σ0 : Sto} {m : Nat} {R : Room} {F : QF} {μ : Mu} {v1 : Int} {v2 : Int} {v3 : Int} {v4 : Int} {v5 : Int} {v6 : Int} {v7 : Int} {v8 : Int} {v9 : Int} (h : Q32 v9 ∧ ((v9 = (0 : Int) → 0 ≤ v8 ∧ v8 < 20 ∧ Q32 v8 ∧ Q32 v6 ∧ ((v6 < v8 → Mw Ω σ0 m M_Mdl_patch R F 183 [xr (some m), xi v1, xi v2, xi v3, xi v4, xi v5, xi v6, xi v7, xi v8, xi v9, xi (mA μ 30 (v8).toNat), xu, xu, xu, xu, xu] [xi (mA μ 30 (v8).toNat), xi v7, xi v2, xi v8, xi v6, xi v1, xi v5, xr (some m)] μ) ∧ (¬ v6 < v8 → Q32 v7 ∧ (((mA μ 30 (v8).toNat) ≤ v7 → Mw Ω σ0 m M_Mdl_patch R F 88 [xr (some m), xi v1, xi v2, xi v3, xi v4, xi v5, xi (v8 + 1), xi ((mA μ 30 (v8).toNat) + 1), xi (v8 + 1), xu, xu, xu, xu, xu, xu, xu] [] μ) ∧ (¬ (mA μ 30 (v8).toNat) ≤ v7 → Mw Ω σ0 m M_Mdl_patch R F 183 [xr (some m), xi v1, xi v2, xi v3, xi v4, xi v5, xi v6, xi v7, xi v8, xi v9, xi (mA μ 30 (v8).toNat), xu, xu, xu, xu, xu] [xi (mA μ 30 (v8).toNat), xi v7, xi v2, xi v8, xi v6, xi v1, xi v5, xr (some m)] μ))))) ∧ (¬ v9 = (0 : Int) → 0 ≤ v2 ∧ v2 < 40 ∧ Q32 v8 ∧ Q32 v6 ∧ ((v6 < v8 → Mw Ω σ0 m M_Mdl_patch R F 183 [xr (some m), xi v1, xi v2, xi v3, xi v4, xi v5, xi v6, xi v7, xi v8, xi v9, xi (mA μ 4 (v2).toNat), xu, xu, xu, xu, xu] [xi (mA μ 4 (v2).toNat), xi v7, xi v2, xi v8, xi v6, xi v1, xi v5, xr (some m)] μ) ∧ (¬ v6 < v8 → Q32 v7 ∧ (((mA μ 4 (v2).toNat) ≤ v7 → Mw Ω σ0 m M_Mdl_patch R F 88 [xr (some m), xi v1, xi v2, xi v3, xi v4, xi v5, xi (v8 + 1), xi ((mA μ 4 (v2).toNat) + 1), xi (v8 + 1), xu, xu, xu, xu, xu, xu, xu] [] μ) ∧ (¬ (mA μ 4 (v2).toNat) ≤ v7 → Mw Ω σ0 m M_Mdl_patch R F 183 [xr (some m), xi v1, xi v2, xi v3, xi v4, xi v5, xi v6, xi v7, xi v8, xi v9, xi (mA μ 4 (v2).toNat), xu, xu, xu, xu, xu] [xi (mA μ 4 (v2).toNat), xi v7, xi v2, xi v8, xi v6, xi v1, xi v5, xr (some m)] μ))))))) : Mw Ω σ0 m M_Mdl_patch R F 133 [xr (some m), xi v1, xi v2, xi v3, xi v4, xi v5, xi v6, xi v7, xi v8, xi v9, xu, xu, xu, xu, xu, xu] [] μ := by
  intro σ hM
  obtain ⟨hS, hk, e⟩ := id hM
  subst e
  refine b_Mdl_patch_133 ?_
  obtain ⟨o, h⟩ := h
  refine ⟨o, ?_⟩
  refine ⟨fun c => ?_, fun c => ?_⟩
  · have h := h.1 c
    refine ⟨hS.2.1, ?_⟩
    refine ⟨_, hS.r30, ?_⟩
    refine ⟨hS.k30, ?_⟩
    obtain ⟨o, h⟩ := h
    refine ⟨o, ?_⟩
    obtain ⟨o, h⟩ := h
    refine ⟨hS.b30 o, ?_⟩
    refine fun _ => ?_
    obtain ⟨o, h⟩ := h
    refine ⟨o, ?_⟩
    obtain ⟨o, h⟩ := h
    refine ⟨o, ?_⟩
    refine ⟨fun c => ?_, fun c => ?_⟩
    · have h := h.1 c
      exact h _ hM
    · have h := h.2 c
      obtain ⟨o, h⟩ := h
      refine ⟨o, ?_⟩
      refine ⟨fun c => ?_, fun c => ?_⟩
      · have h := h.1 c
        exact h _ hM
      · have h := h.2 c
        exact h _ hM
  · have h := h.2 c
    refine ⟨hS.2.1, ?_⟩
    refine ⟨_, hS.r4, ?_⟩
    refine ⟨hS.k4, ?_⟩
    obtain ⟨o, h⟩ := h
    refine ⟨o, ?_⟩
    obtain ⟨o, h⟩ := h
    refine ⟨hS.b4 o, ?_⟩
    refine fun _ => ?_
    obtain ⟨o, h⟩ := h
    refine ⟨o, ?_⟩
    obtain ⟨o, h⟩ := h
    refine ⟨o, ?_⟩
    refine ⟨fun c => ?_, fun c => ?_⟩
    · have h := h.1 c
      exact h _ hM
    · have h := h.2 c
      obtain ⟨o, h⟩ := h
      refine ⟨o, ?_⟩
      refine ⟨fun c => ?_, fun c => ?_⟩
      · have h := h.1 c
        exact h _ hM
      · have h := h.2 c
        exact h _ hM
theorem B_patch_186 {Ω : Om} {σ0 : Sto} {m : Nat} {R : Room} {F : QF} {μ : Mu} {v1 : Int} {v2 : Int} {v3 : Int} {v4 : Int} {v5 : Int} {v6 : Int} {v7 : Int} {v8 : Int} {v9 : Int} {v10 : Int} (h : Mw Ω σ0 m M_Mdl_patch R F 88 [xr (some m), xi v1, xi v2, xi v3, xi v4, xi (v5 + 1), xi (v8 + 1), xi (v10 + 1), xi (v8 + 1), xu, xu, xu, xu, xu, xu, xu] [] μ) : Mw Ω σ0 m M_Mdl_patch R F 186 [xr (some m), xi v1, xi v2, xi v3, xi v4, xi v5, xi v6, xi v7, xi v8, xi v9, xi v10, xu, xu, xu, xu, xu] [] μ := by
  intro σ hM
  obtain ⟨hS, hk, e⟩ := id hM
  subst e
  refine b_Mdl_patch_186 ?_
  exact h _ hM
theorem B_patch_201 {Ω : Om} {σ0 : Sto} {m : Nat} {R : Room} {F : QF} {μ : Mu} {v1 : Int} {v2 : Int} {v3 : Int} {v4 : Int} {v5 : Int} {v6 : Int} {v7 : Int} {v8 : Int} {v9 : Int} (h : Mw Ω σ0 m M_Mdl_patch R F 88 [xr (some m), xi v1, xi v2, xi v3, xi v4, xi v5, xi v6, xi v7, xi (v8 + 1), xu, xu, xu, xu, xu, xu, xu] [] μ) : Mw Ω σ0 m M_Mdl_patch R F 201 [xr (some m), xi v1, xi v2, xi v3, xi v4, xi v5, xi v6, xi v7, xi v8, xi v9, xu, xu, xu, xu, xu, xu] [] μ := by
  intro σ hM
  obtain ⟨hS, hk, e⟩ := id hM
  subst e
  refine b_Mdl_patch_201 ?_
  exact h _ hM
theorem B_patch_221 {Ω : Om} {σ0 : Sto} {m : Nat} {R : Room} {F : QF} {μ : Mu} {v1 : Int} {v2 : Int} {v3 : Int} {v4 : Int} {v5 : Int} {v6 : Int} {v7 : Int} {v8 : Int} (h : Q32 v8 ∧ Q32 v5 ∧ ((v5 ≤ v8 → Q32 ((mI μ 29) + 1) ∧ Mw Ω σ0 m M_Mdl_patch R F 525 [xr (some m), xi v1, xi v2, xi v3, xi v4, xi v5, xi v6, xi v7, xi v8, xu, xu, xu, xu, xu, xu, xu] [] (wI μ 29 ((mI μ 29) + 1))) ∧ (¬ v5 ≤ v8 → ((¬ v8 = (0 : Int) → 0 ≤ (((21 * (mI μ 29)) + v8) - 1) ∧ (((21 * (mI μ 29)) + v8) - 1) < 210 ∧ 0 ≤ (4 * (((21 * (mI μ 29)) + v8) - 1)) ∧ (4 * (((21 * (mI μ 29)) + v8) - 1)) < 840 ∧ Mw Ω σ0 m M_Mdl_patch R F 270 [xr (some m), xi v1, xi v2, xi v3, xi v4, xi v5, xi v6, xi v7, xi v8, xi ((21 * (mI μ 29)) + v8), xu, xu, xu, xu, xu, xu] [xi ((mA μ 18 (((21 * (mI μ 29)) + v8) - 1).toNat) + (mA μ 20 (4 * (((21 * (mI μ 29)) + v8) - 1)).toNat))] μ) ∧ (v8 = (0 : Int) → Mw Ω σ0 m M_Mdl_patch R F 270 [xr (some m), xi v1, xi v2, xi v3, xi v4, xi v5, xi v6, xi v7, xi v8, xi ((21 * (mI μ 29)) + v8), xu, xu, xu, xu, xu, xu] [xi 0] μ))))) : Mw Ω σ0 m M_Mdl_patch R F 221 [xr (some m), xi v1, xi v2, xi v3, xi v4, xi v5, xi v6, xi v7, xi v8, xu, xu, xu, xu, xu, xu, xu] [] μ := by
  intro σ hM
  obtain ⟨hS, hk, e⟩ := id hM
  subst e
  refine b_Mdl_patch_221 ?_
  obtain ⟨o, h⟩ := h
  refine ⟨o, ?_⟩
  obtain ⟨o, h⟩ := h
  refine ⟨o, ?_⟩
  refine ⟨fun c => ?_, fun c => ?_⟩
  · have h := h.1 c
    refine ⟨hS.2.1, ?_⟩
    refine fun _ => ?_
    obtain ⟨o, h⟩ := h
    refine ⟨o, ?_⟩
    exact h _ (MR.uI (f := 29) hM)
  · have h := h.2 c
    refine ⟨hS.2.1, ?_⟩
    refine fun _ => ?_
    refine ⟨fun c => ?_, fun c => ?_⟩
    · have h := h.1 c
      refine ⟨_, hS.r18, ?_⟩
      refine ⟨hS.k18, ?_⟩
      obtain ⟨o, h⟩ := h
      refine ⟨o, ?_⟩
      obtain ⟨o, h⟩ := h
      refine ⟨hS.b18 o, ?_⟩
      refine fun _ => ?_
      refine ⟨_, hS.r20, ?_⟩
      refine ⟨hS.k20, ?_⟩
      obtain ⟨o, h⟩ := h
      refine ⟨o, ?_⟩
      obtain ⟨o, h⟩ := h
      refine ⟨hS.b20 o, ?_⟩
      refine fun _ => ?_
      exact h _ hM
    · have h := h.2 c
      exact h _ hM
theorem B_patch_270 {Ω : Om} {σ0 : Sto} {m : Nat} {R : Room} {F : QF} {μ : Mu} {v1 : Int} {v2 : Int} {v3 : Int} {v4 : Int} {v5 : Int} {v6 : Int} {v7 : Int} {v8 : Int} {v9 : Int} {s0 : Int} (h : 0 ≤ v9 ∧ v9 < 210 ∧ 0 ≤ (4 * v9) ∧ (4 * v9) < 840 ∧ Q32 v8 ∧ Q32 (v5 - 1) ∧ ((¬ v8 = (v5 - 1) → 0 ≤ (v9 + 1) ∧ (v9 + 1) < 210 ∧ Q32 ((mA μ 18 (v9).toNat) - s0) ∧ Q32 v3 ∧ ((v3 ≤ ((mA μ 18 (v9).toNat) - s0) → Q32 ((mA μ 18 (v9 + 1).toNat) - ((mA μ 18 (v9).toNat) + (mA μ 20 (4 * v9).toNat))) ∧ ((v3 ≤ ((mA μ 18 (v9 + 1).toNat) - ((mA μ 18 (v9).toNat) + (mA μ 20 (4 * v9).toNat))) → 0 ≤ ((4 * v9) + 2) ∧ ((4 * v9) + 2) < 840 ∧ 0 ≤ ((4 * v9) + 3) ∧ ((4 * v9) + 3) < 840 ∧ Mw Ω σ0 m M_Mdl_patch R F 399 [xr (some m), xi v1, xi v2, xi v3, xi v4, xi v5, xi v6, xi v7, xi v8, xi v9, xi s0, xi ((mA μ 18 (v9).toNat) + (mA μ 20 (4 * v9).toNat)), xi (mA μ 18 (v9 + 1).toNat), xi v3, xi v3, xi 0] [] (wA (wA μ 20 ((4 * v9) + 2).toNat v3) 20 ((4 * v9) + 3).toNat v3)) ∧ (¬ v3 ≤ ((mA μ 18 (v9 + 1).toNat) - ((mA μ 18 (v9).toNat) + (mA μ 20 (4 * v9).toNat))) → 0 ≤ ((4 * v9) + 2) ∧ ((4 * v9) + 2) < 840 ∧ 0 ≤ ((4 * v9) + 3) ∧ ((4 * v9) + 3) < 840 ∧ Mw Ω σ0 m M_Mdl_patch R F 399 [xr (some m), xi v1, xi v2, xi v3, xi v4, xi v5, xi v6, xi v7, xi v8, xi v9, xi s0, xi ((mA μ 18 (v9).toNat) + (mA μ 20 (4 * v9).toNat)), xi (mA μ 18 (v9 + 1).toNat), xi v3, xi ((mA μ 18 (v9 + 1).toNat) - ((mA μ 18 (v9).toNat) + (mA μ 20 (4 * v9).toNat))), xi 0] [] (wA (wA μ 20 ((4 * v9) + 2).toNat v3) 20 ((4 * v9) + 3).toNat ((mA μ 18 (v9 + 1).toNat) - ((mA μ 18 (v9).toNat) + (mA μ 20 (4 * v9).toNat))))))) ∧ (¬ v3 ≤ ((mA μ 18 (v9).toNat) - s0) → Q32 ((mA μ 18 (v9 + 1).toNat) - ((mA μ 18 (v9).toNat) + (mA μ 20 (4 * v9).toNat))) ∧ ((v3 ≤ ((mA μ 18 (v9 + 1).toNat) - ((mA μ 18 (v9).toNat) + (mA μ 20 (4 * v9).toNat))) → 0 ≤ ((4 * v9) + 2) ∧ ((4 * v9) + 2) < 840 ∧ 0 ≤ ((4 * v9) + 3) ∧ ((4 * v9) + 3) < 840 ∧ Mw Ω σ0 m M_Mdl_patch R F 399 [xr (some m), xi v1, xi v2, xi v3, xi v4, xi v5, xi v6, xi v7, xi v8, xi v9, xi s0, xi ((mA μ 18 (v9).toNat) + (mA μ 20 (4 * v9).toNat)), xi (mA μ 18 (v9 + 1).toNat), xi ((mA μ 18 (v9).toNat) - s0), xi v3, xi 0] [] (wA (wA μ 20 ((4 * v9) + 2).toNat ((mA μ 18 (v9).toNat) - s0)) 20 ((4 * v9) + 3).toNat v3)) ∧ (¬ v3 ≤ ((mA μ 18 (v9 + 1).toNat) - ((mA μ 18 (v9).toNat) + (mA μ 20 (4 * v9).toNat))) → 0 ≤ ((4 * v9) + 2) ∧ ((4 * v9) + 2) < 840 ∧ 0 ≤ ((4 * v9) + 3) ∧ ((4 * v9) + 3) < 840 ∧ Mw Ω σ0 m M_Mdl_patch R F 399 [xr (some m), xi v1, xi v2, xi v3, xi v4, xi v5, xi v6, xi v7, xi v8, xi v9, xi s0, xi ((mA μ 18 (v9).toNat) + (mA μ 20 (4 * v9).toNat)), xi (mA μ 18 (v9 + 1).toNat), xi ((mA μ 18 (v9).toNat) - s0), xi ((mA μ 18 (v9 + 1).toNat) - ((mA μ 18 (v9).toNat) + (mA μ 20 (4 * v9).toNat))), xi 0] [] (wA (wA μ 20 ((4 * v9) + 2).toNat ((mA μ 18 (v9).toNat) - s0)) 20 ((4 * v9) + 3).toNat ((mA μ 18 (v9 + 1).toNat) - ((mA μ 18 (v9).toNat) + (mA μ 20 (4 * v9).toNat))))))))) ∧ (v8 = (v5 - 1) → 0 ≤ v1 ∧ v1 < 40 ∧ Q32 ((mA μ 18 (v9).toNat) - s0) ∧ Q32 v3 ∧ ((v3 ≤ ((mA μ 18 (v9).toNat) - s0) → Q32 ((mA μ 4 (v1).toNat) - ((mA μ 18 (v9).toNat) + (mA μ 20 (4 * v9).toNat))) ∧ ((v3 ≤ ((mA μ 4 (v1).toNat) - ((mA μ 18 (v9).toNat) + (mA μ 20 (4 * v9).toNat))) → 0 ≤ ((4 * v9) + 2) ∧ ((4 * v9) + 2) < 840 ∧ 0 ≤ ((4 * v9) + 3) ∧ ((4 * v9) + 3) < 840 ∧ Mw Ω σ0 m M_Mdl_patch R F 399 [xr (some m), xi v1, xi v2, xi v3, xi v4, xi v5, xi v6, xi v7, xi v8, xi v9, xi s0, xi ((mA μ 18 (v9).toNat) + (mA μ 20 (4 * v9).toNat)), xi (mA μ 4 (v1).toNat), xi v3, xi v3, xi 0] [] (wA (wA μ 20 ((4 * v9) + 2).toNat v3) 20 ((4 * v9) + 3).toNat v3)) ∧ (¬ v3 ≤ ((mA μ 4 (v1).toNat) - ((mA μ 18 (v9).toNat) + (mA μ 20 (4 * v9).toNat))) → 0 ≤ ((4 * v9) + 2) ∧ ((4 * v9) + 2) < 840 ∧ 0 ≤ ((4 * v9) + 3) ∧ ((4 * v9) + 3) < 840 ∧ Mw Ω σ0 m M_Mdl_patch R F 399 [xr (some m), xi v1, xi v2, xi v3, xi v4, xi v5, xi v6, xi v7, xi v8, xi v9, xi s0, xi ((mA μ 18 (v9).toNat) + (mA μ 20 (4 * v9).toNat)), xi (mA μ 4 (v1).toNat), xi v3, xi ((mA μ 4 (v1).toNat) - ((mA μ 18 (v9).toNat) + (mA μ 20 (4 * v9).toNat))), xi 0] [] (wA (wA μ 20 ((4 * v9) + 2).toNat v3) 20 ((4 * v9) + 3).toNat ((mA μ 4 (v1).toNat) - ((mA μ 18 (v9).toNat) + (mA μ 20 (4 * v9).toNat))))))) ∧ (¬ v3 ≤ ((mA μ 18 (v9).toNat) - s0) → Q32 ((mA μ 4 (v1).toNat) - ((mA μ 18 (v9).toNat) + (mA μ 20 (4 * v9).toNat))) ∧ ((v3 ≤ ((mA μ 4 (v1).toNat) - ((mA μ 18 (v9).toNat) + (mA μ 20 (4 * v9).toNat))) → 0 ≤ ((4 * v9) + 2) ∧ ((4 * v9) + 2) < 840 ∧ 0 ≤ ((4 * v9) + 3) ∧ ((4 * v9) + 3) < 840 ∧ Mw Ω σ0 m M_Mdl_patch R F 399 [xr (some m), xi v1, xi v2, xi v3, xi v4, xi v5, xi v6, xi v7, xi v8, xi v9, xi s0, xi ((mA μ 18 (v9).toNat) + (mA μ 20 (4 * v9).toNat)), xi (mA μ 4 (v1).toNat), xi ((mA μ 18 (v9).toNat) - s0), xi v3, xi 0] [] (wA (wA μ 20 ((4 * v9) + 2).toNat ((mA μ 18 (v9).toNat) - s0)) 20 ((4 * v9) + 3).toNat v3)) ∧ (¬ v3 ≤ ((mA μ 4 (v1).toNat) - ((mA μ 18 (v9).toNat) + (mA μ 20 (4 * v9).toNat))) → 0 ≤ ((4 * v9) + 2) ∧ ((4 * v9) + 2) < 840 ∧ 0 ≤ ((4 * v9) + 3) ∧ ((4 * v9) + 3) < 840 ∧ Mw Ω σ0 m M_Mdl_patch R F 399 [xr (some m), xi v1, xi v2, xi v3, xi v4, xi v5, xi v6, xi v7, xi v8, xi v9, xi s0, xi ((mA μ 18 (v9).toNat) + (mA μ 20 (4 * v9).toNat)), xi (mA μ 4 (v1).toNat), xi ((mA μ 18 (v9).toNat) - s0), xi ((mA μ 4 (v1).toNat) - ((mA μ 18 (v9).toNat) + (mA μ 20 (4 * v9).toNat))), xi 0] [] (wA (wA μ 20 ((4 * v9) + 2).toNat ((mA μ 18 (v9).toNat) - s0)) 20 ((4 * v9) + 3).toNat ((mA μ 4 (v1).toNat) - ((mA μ 18 (v9).toNat) + (mA μ 20 (4 * v9).toNat))))))))))) : Mw Ω σ0 m M_Mdl_patch R F 270 [xr (some m), xi v1, xi v2, xi v3, xi v4, xi v5, xi v6, xi v7, xi v8, xi v9, xu, xu, xu, xu, xu, xu] [xi s0] μ := by
  intro σ hM
  obtain ⟨hS, hk, e⟩ := id hM
  subst e
  refine b_Mdl_patch_270 ?_
  refine ⟨hS.2.1, ?_⟩
  refine ⟨_, hS.r18, ?_⟩
  refine ⟨hS.k18, ?_⟩
  obtain ⟨o, h⟩ := h
  refine ⟨o, ?_⟩
  obtain ⟨o, h⟩ := h
  refine ⟨hS.b18 o, ?_⟩
  refine fun _ => ?_
  refine ⟨_, hS.r20, ?_⟩
  refine ⟨hS.k20, ?_⟩
  obtain ⟨o, h⟩ := h
  refine ⟨o, ?_⟩
  obtain ⟨o, h⟩ := h
  refine ⟨hS.b20 o, ?_⟩
  refine fun _ => ?_
  obtain ⟨o, h⟩ := h
  refine ⟨o, ?_⟩
  obtain ⟨o, h⟩ := h
  refine ⟨o, ?_⟩
  refine ⟨fun c => ?_, fun c => ?_⟩
  · have h := h.1 c
    obtain ⟨o, h⟩ := h
    refine ⟨o, ?_⟩
    obtain ⟨o, h⟩ := h
    refine ⟨hS.b18 o, ?_⟩
    refine fun _ => ?_
    refine fun _ => ?_
    obtain ⟨o, h⟩ := h
    refine ⟨o, ?_⟩
    obtain ⟨o, h⟩ := h
    refine ⟨o, ?_⟩
    refine ⟨fun c => ?_, fun c => ?_⟩
    · have h := h.1 c
      obtain ⟨o, h⟩ := h
      refine ⟨o, ?_⟩
      refine ⟨fun c => ?_, fun c => ?_⟩
      · have h := h.1 c
        obtain ⟨o, h⟩ := h
        refine ⟨o, ?_⟩
        obtain ⟨o, h⟩ := h
        refine ⟨hS.b20 o, ?_⟩
        obtain ⟨o, h⟩ := h
        refine ⟨o, ?_⟩
        obtain ⟨o, h⟩ := h
        refine ⟨hS.b20 o, ?_⟩
        exact h _ (MR.vI (j := 20) (by decide) (MR.vI (j := 20) (by decide) hM))
      · have h := h.2 c
        obtain ⟨o, h⟩ := h
        refine ⟨o, ?_⟩
        obtain ⟨o, h⟩ := h
        refine ⟨hS.b20 o, ?_⟩
        obtain ⟨o, h⟩ := h
        refine ⟨o, ?_⟩
        obtain ⟨o, h⟩ := h
        refine ⟨hS.b20 o, ?_⟩
        exact h _ (MR.vI (j := 20) (by decide) (MR.vI (j := 20) (by decide) hM))
    · have h := h.2 c
      refine fun _ => ?_
      obtain ⟨o, h⟩ := h
      refine ⟨o, ?_⟩
      refine ⟨fun c => ?_, fun c => ?_⟩
      · have h := h.1 c
        obtain ⟨o, h⟩ := h
        refine ⟨o, ?_⟩
        obtain ⟨o, h⟩ := h
        refine ⟨hS.b20 o, ?_⟩
        obtain ⟨o, h⟩ := h
        refine ⟨o, ?_⟩
        obtain ⟨o, h⟩ := h
        refine ⟨hS.b20 o, ?_⟩
        exact h _ (MR.vI (j := 20) (by decide) (MR.vI (j := 20) (by decide) hM))
      · have h := h.2 c
        obtain ⟨o, h⟩ := h
        refine ⟨o, ?_⟩
        obtain ⟨o, h⟩ := h
        refine ⟨hS.b20 o, ?_⟩
        obtain ⟨o, h⟩ := h
        refine ⟨o, ?_⟩
        obtain ⟨o, h⟩ := h
        refine ⟨hS.b20 o, ?_⟩
        exact h _ (MR.vI (j := 20) (by decide) (MR.vI (j := 20) (by decide) hM))
  · have h := h.2 c
    refine ⟨_, hS.r4, ?_⟩
    refine ⟨hS.k4, ?_⟩
    obtain ⟨o, h⟩ := h
    refine ⟨o, ?_⟩
    obtain ⟨o, h⟩ := h
    refine ⟨hS.b4 o, ?_⟩
    refine fun _ => ?_
    refine fun _ => ?_
    obtain ⟨o, h⟩ := h
    refine ⟨o, ?_⟩
    obtain ⟨o, h⟩ := h
    refine ⟨o, ?_⟩
    refine ⟨fun c => ?_, fun c => ?_⟩
    · have h := h.1 c
      obtain ⟨o, h⟩ := h
      refine ⟨o, ?_⟩
      refine ⟨fun c => ?_, fun c => ?_⟩
      · have h := h.1 c
        obtain ⟨o, h⟩ := h
        refine ⟨o, ?_⟩
        obtain ⟨o, h⟩ := h
        refine ⟨hS.b20 o, ?_⟩
        obtain ⟨o, h⟩ := h
        refine ⟨o, ?_⟩
        obtain ⟨o, h⟩ := h
        refine ⟨hS.b20 o, ?_⟩
        exact h _ (MR.vI (j := 20) (by decide) (MR.vI (j := 20) (by decide) hM))
      · have h := h.2 c
        obtain ⟨o, h⟩ := h
        refine ⟨o, ?_⟩
        obtain ⟨o, h⟩ := h
        refine ⟨hS.b20 o, ?_⟩
        obtain ⟨o, h⟩ := h
        refine ⟨o, ?_⟩
        obtain ⟨o, h⟩ := h
        refine ⟨hS.b20 o, ?_⟩
        exact h _ (MR.vI (j := 20) (by decide) (MR.vI (j := 20) (by decide) hM))
    · have h := h.2 c
      refine fun _ => ?_
      obtain ⟨o, h⟩ := h
      refine ⟨o, ?_⟩
      refine ⟨fun c => ?_, fun c => ?_⟩
      · have h := h.1 c
        obtain ⟨o, h⟩ := h
        refine ⟨o, ?_⟩
        obtain ⟨o, h⟩ := h
        refine ⟨hS.b20 o, ?_⟩
        obtain ⟨o, h⟩ := h
        refine ⟨o, ?_⟩
        obtain ⟨o, h⟩ := h
        refine ⟨hS.b20 o, ?_⟩
        exact h _ (MR.vI (j := 20) (by decide) (MR.vI (j := 20) (by decide) hM))
      · have h := h.2 c
        obtain ⟨o, h⟩ := h
        refine ⟨o, ?_⟩
        obtain ⟨o, h⟩ := h
        refine ⟨hS.b20 o, ?_⟩
        obtain ⟨o, h⟩ := h
        refine ⟨o, ?_⟩
        obtain ⟨o, h⟩ := h
        refine ⟨hS.b20 o, ?_⟩
        exact h _ (MR.vI (j := 20) (by decide) (MR.vI (j := 20) (by decide) hM))
theorem B_patch_399 {Ω : Om} {σ0 : Sto} {m : Nat} {R : Room} {F : QF} {μ : Mu} {v1 : Int} {v2 : Int} {v3 : Int} {v4 : Int} {v5 : Int} {v6 : Int} {v7 : Int} {v8 : Int} {v9 : Int} {v10 : Int} {v11 : Int} {v12 : Int} {v13 : Int} {v14 : Int} {v15 : Int} (h : Q32 v15 ∧ (((3 : Int) ≤ v15 → Mw Ω σ0 m M_Mdl_patch R F 221 [xr (some m), xi v1, xi v2, xi v3, xi v4, xi v5, xi v6, xi v7, xi (v8 + 1), xu, xu, xu, xu, xu, xu, xu] [] μ) ∧ (¬ (3 : Int) ≤ v15 → Q32 v13 ∧ ((v13 ≤ v15 → 0 ≤ ((6 * v9) + v15) ∧ ((6 * v9) + v15) < 1260 ∧ Mw Ω σ0 m M_Mdl_patch R F 457 [xr (some m), xi v1, xi v2, xi v3, xi v4, xi v5, xi v6, xi v7, xi v8, xi v9, xi v10, xi v11, xi v12, xi v13, xi v14, xi v15] [] (wG μ 22 ((6 * v9) + v15).toNat 0)) ∧ (¬ v13 ≤ v15 → 0 ≤ v9 ∧ v9 < 210 ∧ 0 ≤ ((((20 * v1) + (mA μ 18 (v9).toNat)) - v13) + v15) ∧ ((((20 * v1) + (mA μ 18 (v9).toNat)) - v13) + v15) < 800 ∧ 0 ≤ (mA μ 5 ((((20 * v1) + (mA μ 18 (v9).toNat)) - v13) + v15).toNat) ∧ (mA μ 5 ((((20 * v1) + (mA μ 18 (v9).toNat)) - v13) + v15).toNat) < 16384 ∧ 0 ≤ ((6 * v9) + v15) ∧ ((6 * v9) + v15) < 1260 ∧ Mw Ω σ0 m M_Mdl_patch R F 457 [xr (some m), xi v1, xi v2, xi v3, xi v4, xi v5, xi v6, xi v7, xi v8, xi v9, xi v10, xi v11, xi v12, xi v13, xi v14, xi v15] [] (wG μ 22 ((6 * v9) + v15).toNat (mG μ 1 (mA μ 5 ((((20 * v1) + (mA μ 18 (v9).toNat)) - v13) + v15).toNat).toNat))))))) : Mw Ω σ0 m M_Mdl_patch R F 399 [xr (some m), xi v1, xi v2, xi v3, xi v4, xi v5, xi v6, xi v7, xi v8, xi v9, xi v10, xi v11, xi v12, xi v13, xi v14, xi v15] [] μ := by
  intro σ hM
  obtain ⟨hS, hk, e⟩ := id hM
  subst e
  refine b_Mdl_patch_399 ?_
  obtain ⟨o, h⟩ := h
  refine ⟨o, ?_⟩
  refine ⟨fun c => ?_, fun c => ?_⟩
  · have h := h.1 c
    exact h _ hM
  · have h := h.2 c
    refine ⟨hS.2.1, ?_⟩
    refine ⟨_, hS.r22, ?_⟩
    obtain ⟨o, h⟩ := h
    refine ⟨o, ?_⟩
    refine ⟨fun c => ?_, fun c => ?_⟩
    · have h := h.1 c
      refine ⟨hS.k22, ?_⟩
      obtain ⟨o, h⟩ := h
      refine ⟨o, ?_⟩
      obtain ⟨o, h⟩ := h
      refine ⟨hS.b22 o, ?_⟩
      exact h _ (MR.vL (j := 22) (by decide) hM)
    · have h := h.2 c
      refine ⟨_, hS.r1, ?_⟩
      refine ⟨_, hS.r5, ?_⟩
      refine ⟨_, hS.r18, ?_⟩
      refine ⟨hS.k18, ?_⟩
      obtain ⟨o, h⟩ := h
      refine ⟨o, ?_⟩
      obtain ⟨o, h⟩ := h
      refine ⟨hS.b18 o, ?_⟩
      refine fun _ => ?_
      refine ⟨hS.k5, ?_⟩
      obtain ⟨o, h⟩ := h
      refine ⟨o, ?_⟩
      obtain ⟨o, h⟩ := h
      refine ⟨hS.b5 o, ?_⟩
      refine fun _ => ?_
      refine ⟨hS.k1, ?_⟩
      obtain ⟨o, h⟩ := h
      refine ⟨o, ?_⟩
      obtain ⟨o, h⟩ := h
      refine ⟨hS.b1 o, ?_⟩
      refine ⟨hS.k22, ?_⟩
      obtain ⟨o, h⟩ := h
      refine ⟨o, ?_⟩
      obtain ⟨o, h⟩ := h
      refine ⟨hS.b22 o, ?_⟩
      exact h _ (MR.vL (j := 22) (by decide) hM)
theorem B_patch_457 {Ω : Om} {σ0 : Sto} {m : Nat} {R : Room} {F : QF} {μ : Mu} {v1 : Int} {v2 : Int} {v3 : Int} {v4 : Int} {v5 : Int} {v6 : Int} {v7 : Int} {v8 : Int} {v9 : Int} {v10 : Int} {v11 : Int} {v12 : Int} {v13 : Int} {v14 : Int} {v15 : Int} (h : Q32 v15 ∧ Q32 v14 ∧ ((v14 ≤ v15 → 0 ≤ (((6 * v9) + 3) + v15) ∧ (((6 * v9) + 3) + v15) < 1260 ∧ Mw Ω σ0 m M_Mdl_patch R F 399 [xr (some m), xi v1, xi v2, xi v3, xi v4, xi v5, xi v6, xi v7, xi v8, xi v9, xi v10, xi v11, xi v12, xi v13, xi v14, xi (v15 + 1)] [] (wG μ 22 (((6 * v9) + 3) + v15).toNat 0)) ∧ (¬ v14 ≤ v15 → 0 ≤ (((20 * v1) + v11) + v15) ∧ (((20 * v1) + v11) + v15) < 800 ∧ 0 ≤ (mA μ 5 (((20 * v1) + v11) + v15).toNat) ∧ (mA μ 5 (((20 * v1) + v11) + v15).toNat) < 16384 ∧ 0 ≤ (((6 * v9) + 3) + v15) ∧ (((6 * v9) + 3) + v15) < 1260 ∧ Mw Ω σ0 m M_Mdl_patch R F 399 [xr (some m), xi v1, xi v2, xi v3, xi v4, xi v5, xi v6, xi v7, xi v8, xi v9, xi v10, xi v11, xi v12, xi v13, xi v14, xi (v15 + 1)] [] (wG μ 22 (((6 * v9) + 3) + v15).toNat (mG μ 1 (mA μ 5 (((20 * v1) + v11) + v15).toNat).toNat))))) : Mw Ω σ0 m M_Mdl_patch R F 457 [xr (some m), xi v1, xi v2, xi v3, xi v4, xi v5, xi v6, xi v7, xi v8, xi v9, xi v10, xi v11, xi v12, xi v13, xi v14, xi v15] [] μ := by
  intro σ hM
  obtain ⟨hS, hk, e⟩ := id hM
  subst e
  refine b_Mdl_patch_457 ?_
  refine ⟨hS.2.1, ?_⟩
  refine ⟨_, hS.r22, ?_⟩
  obtain ⟨o, h⟩ := h
  refine ⟨o, ?_⟩
  obtain ⟨o, h⟩ := h
  refine ⟨o, ?_⟩
  refine ⟨fun c => ?_, fun c => ?_⟩
  · have h := h.1 c
    refine ⟨hS.k22, ?_⟩
    obtain ⟨o, h⟩ := h
    refine ⟨o, ?_⟩
    obtain ⟨o, h⟩ := h
    refine ⟨hS.b22 o, ?_⟩
    exact h _ (MR.vL (j := 22) (by decide) hM)
  · have h := h.2 c
    refine ⟨_, hS.r1, ?_⟩
    refine ⟨_, hS.r5, ?_⟩
    refine ⟨hS.k5, ?_⟩
    obtain ⟨o, h⟩ := h
    refine ⟨o, ?_⟩
    obtain ⟨o, h⟩ := h
    refine ⟨hS.b5 o, ?_⟩
    refine fun _ => ?_
    refine ⟨hS.k1, ?_⟩
    obtain ⟨o, h⟩ := h
    refine ⟨o, ?_⟩
    obtain ⟨o, h⟩ := h
    refine ⟨hS.b1 o, ?_⟩
    refine ⟨hS.k22, ?_⟩
    obtain ⟨o, h⟩ := h
    refine ⟨o, ?_⟩
    obtain ⟨o, h⟩ := h
    refine ⟨hS.b22 o, ?_⟩
    exact h _ (MR.vL (j := 22) (by decide) hM)
theorem B_patch_525 {Ω : Om} {σ0 : Sto} {m : Nat} {R : Room} {F : QF} {μ : Mu} {v1 : Int} {v2 : Int} {v3 : Int} {v4 : Int} {v5 : Int} {v6 : Int} {v7 : Int} {v8 : Int} (h : Mw Ω σ0 m M_Mdl_patch R F 531 [xr (some m), xi v1, xi v2, xi v3, xi v4, xi v5, xi v6, xi v7, xi v8, xu, xu, xu, xu, xu, xu, xu] [xi ((mI μ 29) - 1)] μ) : Mw Ω σ0 m M_Mdl_patch R F 525 [xr (some m), xi v1, xi v2, xi v3, xi v4, xi v5, xi v6, xi v7, xi v8, xu, xu, xu, xu, xu, xu, xu] [] μ := by
  intro σ hM
  obtain ⟨hS, hk, e⟩ := id hM
  subst e
  refine b_Mdl_patch_525 ?_
  refine ⟨hS.2.1, ?_⟩
  refine fun _ => ?_
  exact h _ hM
theorem C_patch_2 {Ω : Om} {σ0 : Sto} {m : Nat} {F : QF} {L st : List PV} {μ : Mu} {Q : Int → Mu → Prop} {x0 : Int} (hc : MMi Ω m M_Mdl_isVersion rm_Mdl_isVersion Q μ [xi x0]) (kk : ∀ y μ', Q y μ' → Mw Ω σ0 m M_Mdl_patch rm_Mdl_patch F 5 L (xi y :: st) μ') (hst : (st.map catP).sum ≤ 8 := by exact Nat.le_of_ble_eq_true rfl) : Mw Ω σ0 m M_Mdl_patch rm_Mdl_patch F 2 L (xi x0 :: xr (some m) :: st) μ :=
  fun σ hM => c_Mdl_patch_2 (hc σ0 σ hM) hM.1.2.1 (by decide) (by decide) (by decide) (by decide) hst (fun y σ' hq => by obtain ⟨μ', h1, h2⟩ := hq; exact kk y μ' h2 σ' h1) (fun _ _ h => h.elim)
theorem C_patch_10 {Ω : Om} {σ0 : Sto} {m : Nat} {F : QF} {L st : List PV} {μ : Mu} {Q : Int → Mu → Prop} {x0 : Int} (hc : MMi Ω m M_Mdl_isVersion rm_Mdl_isVersion Q μ [xi x0]) (kk : ∀ y μ', Q y μ' → Mw Ω σ0 m M_Mdl_patch rm_Mdl_patch F 13 L (xi y :: st) μ') (hst : (st.map catP).sum ≤ 8 := by exact Nat.le_of_ble_eq_true rfl) : Mw Ω σ0 m M_Mdl_patch rm_Mdl_patch F 10 L (xi x0 :: xr (some m) :: st) μ :=
  fun σ hM => c_Mdl_patch_10 (hc σ0 σ hM) hM.1.2.1 (by decide) (by decide) (by decide) (by decide) hst (fun y σ' hq => by obtain ⟨μ', h1, h2⟩ := hq; exact kk y μ' h2 σ' h1) (fun _ _ h => h.elim)
theorem C_patch_36 {Ω : Om} {σ0 : Sto} {m : Nat} {F : QF} {L st : List PV} {μ : Mu} {P : Int → Prop} {x0 : Int} {x1 : Int} {x2 : Int} (hc : MPi Ω M_Mdl_in rm_Mdl_in P [xi x0, xi x1, xi x2]) (kk : ∀ y , P y  → Mw Ω σ0 m M_Mdl_patch rm_Mdl_patch F 39 L (xi y :: st) μ) (hst : (st.map catP).sum ≤ 8 := by exact Nat.le_of_ble_eq_true rfl) : Mw Ω σ0 m M_Mdl_patch rm_Mdl_patch F 36 L (xi x2 :: xi x1 :: xi x0 :: st) μ :=
  fun σ hM => c_Mdl_patch_36 (hc σ) (by decide) (by decide) (by decide) (by decide) hst (fun y σ' hq => by obtain ⟨rfl, h2⟩ := hq; exact kk y h2 σ' hM) (fun _ _ h => h.elim)
theorem C_patch_60 {Ω : Om} {σ0 : Sto} {m : Nat} {F : QF} {L st : List PV} {μ : Mu} {Q : Int → Mu → Prop} {x0 : Int} (hc : MMi Ω m M_Mdl_refused rm_Mdl_refused Q μ [xi x0]) (kk : ∀ y μ', Q y μ' → Mw Ω σ0 m M_Mdl_patch rm_Mdl_patch F 63 L (xi y :: st) μ') (hst : (st.map catP).sum ≤ 8 := by exact Nat.le_of_ble_eq_true rfl) : Mw Ω σ0 m M_Mdl_patch rm_Mdl_patch F 60 L (xi x0 :: xr (some m) :: st) μ :=
  fun σ hM => c_Mdl_patch_60 (hc σ0 σ hM) hM.1.2.1 (by decide) (by decide) (by decide) (by decide) hst (fun y σ' hq => by obtain ⟨μ', h1, h2⟩ := hq; exact kk y μ' h2 σ' h1) (fun _ _ h => h.elim)
theorem R_patch_67 {Ω : Om} {σ0 : Sto} {m : Nat} {L : List PV} {μ : Mu} {Q : Int → Mu → Prop} {x : Int} (h : Q x μ) : Mw Ω σ0 m M_Mdl_patch rm_Mdl_patch (MQi Ω σ0 m rm_Mdl_patch Q) 67 L [xi x] μ := fun σ hM => r_Mdl_patch_67 ⟨_, rfl, μ, hM, h⟩ (by decide) (by decide)
theorem C_patch_72 {Ω : Om} {σ0 : Sto} {m : Nat} {F : QF} {L st : List PV} {μ : Mu} {Q : Int → Mu → Prop} {x0 : Int} {x1 : Int} {x2 : Int} (hc : MMi Ω m M_Mdl_pair rm_Mdl_pair Q μ [xi x0, xi x1, xi x2]) (kk : ∀ y μ', Q y μ' → Mw Ω σ0 m M_Mdl_patch rm_Mdl_patch F 75 L (xi y :: st) μ') (hst : (st.map catP).sum ≤ 8 := by exact Nat.le_of_ble_eq_true rfl) : Mw Ω σ0 m M_Mdl_patch rm_Mdl_patch F 72 L (xi x2 :: xi x1 :: xi x0 :: xr (some m) :: st) μ :=
  fun σ hM => c_Mdl_patch_72 (hc σ0 σ hM) hM.1.2.1 (by decide) (by decide) (by decide) (by decide) hst (fun y σ' hq => by obtain ⟨μ', h1, h2⟩ := hq; exact kk y μ' h2 σ' h1) (fun _ _ h => h.elim)
theorem C_patch_183 {Ω : Om} {σ0 : Sto} {m : Nat} {F : QF} {L st : List PV} {μ : Mu} {Q : Mu → Prop} {x0 : Int} {x1 : Int} {x2 : Int} {x3 : Int} {x4 : Int} {x5 : Int} {x6 : Int} (hc : MMv Ω m M_Mdl_layHunk rm_Mdl_layHunk Q μ [xi x0, xi x1, xi x2, xi x3, xi x4, xi x5, xi x6]) (kk : ∀ μ', Q μ' → Mw Ω σ0 m M_Mdl_patch rm_Mdl_patch F 186 L st μ') (hst : (st.map catP).sum ≤ 8 := by exact Nat.le_of_ble_eq_true rfl) : Mw Ω σ0 m M_Mdl_patch rm_Mdl_patch F 183 L (xi x6 :: xi x5 :: xi x4 :: xi x3 :: xi x2 :: xi x1 :: xi x0 :: xr (some m) :: st) μ :=
  fun σ hM => c_Mdl_patch_183 (hc σ0 σ hM) hM.1.2.1 (by decide) (by decide) (by decide) (by decide) hst (fun σ' hq => by obtain ⟨μ', h1, h2⟩ := hq; exact kk μ' h2 σ' h1) (fun _ _ h => h.elim)
theorem R_patch_531 {Ω : Om} {σ0 : Sto} {m : Nat} {L : List PV} {μ : Mu} {Q : Int → Mu → Prop} {x : Int} (h : Q x μ) : Mw Ω σ0 m M_Mdl_patch rm_Mdl_patch (MQi Ω σ0 m rm_Mdl_patch Q) 531 L [xi x] μ := fun σ hM => r_Mdl_patch_531 ⟨_, rfl, μ, hM, h⟩ (by decide) (by decide)
theorem E_patch {Ω : Om} {m : Nat} {μ : Mu} {Q : Int → Mu → Prop} {v1 : Int} {v2 : Int} {v3 : Int} (h : ∀ σ0, Mw Ω σ0 m M_Mdl_patch rm_Mdl_patch (MQi Ω σ0 m rm_Mdl_patch Q) 0 [xr (some m), xi v1, xi v2, xi v3, xu, xu, xu, xu, xu, xu, xu, xu, xu, xu, xu, xu] [] μ) : MMi Ω m M_Mdl_patch rm_Mdl_patch Q μ [xi v1, xi v2, xi v3] := fun σ0 σ hM => e_Mdl_patch (h σ0 σ hM)
theorem B_settle_0 {Ω : Om} {σ0 : Sto} {m : Nat} {R : Room} {F : QF} {μ : Mu} {v1 : Int} {v2 : Int} (h : Mw Ω σ0 m M_Mdl_settle R F 2 [xr (some m), xi v1, xi v2, xu, xu, xu, xu, xu, xu, xu] [xi v1, xr (some m)] μ) : Mw Ω σ0 m M_Mdl_settle R F 0 [xr (some m), xi v1, xi v2, xu, xu, xu, xu, xu, xu, xu] [] μ := by
  intro σ hM
  obtain ⟨hS, hk, e⟩ := id hM
  subst e
  refine b_Mdl_settle_0 ?_
  exact h _ hM
theorem B_settle_5 {Ω : Om} {σ0 : Sto} {m : Nat} {R : Room} {F : QF} {μ : Mu} {v1 : Int} {v2 : Int} {s0 : Int} (h : Mw Ω σ0 m M_Mdl_settle R F 9 [xr (some m), xi v1, xi v2, xi s0, xu, xu, xu, xu, xu, xu] [xi 4, xi 0, xi v2] μ) : Mw Ω σ0 m M_Mdl_settle R F 5 [xr (some m), xi v1, xi v2, xu, xu, xu, xu, xu, xu, xu] [xi s0] μ := by
  intro σ hM
  obtain ⟨hS, hk, e⟩ := id hM
  subst e
  refine b_Mdl_settle_5 ?_
  exact h _ hM
theorem B_settle_12 {Ω : Om} {σ0 : Sto} {m : Nat} {R : Room} {F : QF} {μ : Mu} {v1 : Int} {v2 : Int} {v3 : Int} {s0 : Int} (h : Q32 v2 ∧ ((¬ v2 = (4 : Int) → ((¬ v2 = (3 : Int) → Mw Ω σ0 m M_Mdl_settle R F 33 [xr (some m), xi v1, xi v2, xi v3, xi s0, xu, xu, xu, xu, xu] [xi v2] μ) ∧ (v2 = (3 : Int) → Mw Ω σ0 m M_Mdl_settle R F 33 [xr (some m), xi v1, xi v2, xi v3, xi s0, xu, xu, xu, xu, xu] [xi 0] μ))) ∧ (v2 = (4 : Int) → Mw Ω σ0 m M_Mdl_settle R F 33 [xr (some m), xi v1, xi v2, xi v3, xi s0, xu, xu, xu, xu, xu] [xi 1] μ))) : Mw Ω σ0 m M_Mdl_settle R F 12 [xr (some m), xi v1, xi v2, xi v3, xu, xu, xu, xu, xu, xu] [xi s0] μ := by
  intro σ hM
  obtain ⟨hS, hk, e⟩ := id hM
  subst e
  refine b_Mdl_settle_12 ?_
  obtain ⟨o, h⟩ := h
  refine ⟨o, ?_⟩
  refine ⟨fun c => ?_, fun c => ?_⟩
  · have h := h.1 c
    refine ⟨fun c => ?_, fun c => ?_⟩
    · have h := h.1 c
      exact h _ hM
    · have h := h.2 c
      exact h _ hM
  · have h := h.2 c
    exact h _ hM
theorem B_settle_33 {Ω : Om} {σ0 : Sto} {m : Nat} {R : Room} {F : QF} {μ : Mu} {v1 : Int} {v2 : Int} {v3 : Int} {v4 : Int} {s0 : Int} (h : Q32 v2 ∧ ((¬ v2 = (4 : Int) → ((¬ v2 = (3 : Int) → Mw Ω σ0 m M_Mdl_settle R F 54 [xr (some m), xi v1, xi v2, xi v3, xi v4, xi s0, xu, xu, xu, xu] [xi (-1)] μ) ∧ (v2 = (3 : Int) → Mw Ω σ0 m M_Mdl_settle R F 54 [xr (some m), xi v1, xi v2, xi v3, xi v4, xi s0, xu, xu, xu, xu] [xi 1] μ))) ∧ (v2 = (4 : Int) → Mw Ω σ0 m M_Mdl_settle R F 54 [xr (some m), xi v1, xi v2, xi v3, xi v4, xi s0, xu, xu, xu, xu] [xi 0] μ))) : Mw Ω σ0 m M_Mdl_settle R F 33 [xr (some m), xi v1, xi v2, xi v3, xi v4, xu, xu, xu, xu, xu] [xi s0] μ := by
  intro σ hM
  obtain ⟨hS, hk, e⟩ := id hM
  subst e
  refine b_Mdl_settle_33 ?_
  obtain ⟨o, h⟩ := h
  refine ⟨o, ?_⟩
  refine ⟨fun c => ?_, fun c => ?_⟩
  · have h := h.1 c
    refine ⟨fun c => ?_, fun c => ?_⟩
    · have h := h.1 c
      exact h _ hM
    · have h := h.2 c
      exact h _ hM
  · have h := h.2 c
    exact h _ hM
theorem B_settle_54 {Ω : Om} {σ0 : Sto} {m : Nat} {R : Room} {F : QF} {μ : Mu} {v1 : Int} {v2 : Int} {v3 : Int} {v4 : Int} {v5 : Int} {s0 : Int} (h : Q32 v3 ∧ ((v3 = (0 : Int) → Mw Ω σ0 m M_Mdl_settle R F 101 [xr (some m), xi v1, xi v2, xi v3, xi v4, xi v5, xi s0, xu, xu, xu] [] μ) ∧ (¬ v3 = (0 : Int) → Q32 v4 ∧ ((v4 = (0 : Int) → Mw Ω σ0 m M_Mdl_settle R F 101 [xr (some m), xi v1, xi v2, xi v3, xi v4, xi v5, xi s0, xu, xu, xu] [] μ) ∧ (¬ v4 = (0 : Int) → 0 ≤ ((3 * v1) + v5) ∧ ((3 * v1) + v5) < 63 ∧ Q32 s0 ∧ ((¬ s0 = (-1 : Int) → 0 ≤ ((3 * v1) + s0) ∧ ((3 * v1) + s0) < 63 ∧ Mw Ω σ0 m M_Mdl_settle R F 97 [xr (some m), xi v1, xi v2, xi v3, xi v4, xi v5, xi s0, xu, xu, xu] [xi (mA μ 10 ((3 * v1) + s0).toNat), xi (mA μ 10 ((3 * v1) + v5).toNat)] μ) ∧ (s0 = (-1 : Int) → Mw Ω σ0 m M_Mdl_settle R F 97 [xr (some m), xi v1, xi v2, xi v3, xi v4, xi v5, xi s0, xu, xu, xu] [xi 0, xi (mA μ 10 ((3 * v1) + v5).toNat)] μ))))))) : Mw Ω σ0 m M_Mdl_settle R F 54 [xr (some m), xi v1, xi v2, xi v3, xi v4, xi v5, xu, xu, xu, xu] [xi s0] μ := by
  intro σ hM
  obtain ⟨hS, hk, e⟩ := id hM
  subst e
  refine b_Mdl_settle_54 ?_
  obtain ⟨o, h⟩ := h
  refine ⟨o, ?_⟩
  refine ⟨fun c => ?_, fun c => ?_⟩
  · have h := h.1 c
    exact h _ hM
  · have h := h.2 c
    obtain ⟨o, h⟩ := h
    refine ⟨o, ?_⟩
    refine ⟨fun c => ?_, fun c => ?_⟩
    · have h := h.1 c
      exact h _ hM
    · have h := h.2 c
      refine ⟨hS.2.1, ?_⟩
      refine ⟨_, hS.r10, ?_⟩
      refine ⟨hS.k10, ?_⟩
      obtain ⟨o, h⟩ := h
      refine ⟨o, ?_⟩
      obtain ⟨o, h⟩ := h
      refine ⟨hS.b10 o, ?_⟩
      refine fun _ => ?_
      obtain ⟨o, h⟩ := h
      refine ⟨o, ?_⟩
      refine ⟨fun c => ?_, fun c => ?_⟩
      · have h := h.1 c
        obtain ⟨o, h⟩ := h
        refine ⟨o, ?_⟩
        obtain ⟨o, h⟩ := h
        refine ⟨hS.b10 o, ?_⟩
        refine fun _ => ?_
        exact h _ hM
      · have h := h.2 c
        exact h _ hM
theorem B_settle_97 {Ω : Om} {σ0 : Sto} {m : Nat} {R : Room} {F : QF} {μ : Mu} {v1 : Int} {v2 : Int} {v3 : Int} {v4 : Int} {v5 : Int} {v6 : Int} {s0 : Int} {s1 : Int} (h : Q32 v3 ∧ ((v3 = (0 : Int) → ((¬ v3 = (0 : Int) → Q32 v4 ∧ ((¬ v4 = (0 : Int) → Mw Ω σ0 m M_Mdl_settle R F 166 [xr (some m), xi v1, xi v2, xi v3, xi v4, xi v5, xi v6, xi (s0 + s1), xi 0, xu] [xi 3, xr (some m)] μ) ∧ (v4 = (0 : Int) → Mw Ω σ0 m M_Mdl_settle R F 166 [xr (some m), xi v1, xi v2, xi v3, xi v4, xi v5, xi v6, xi (s0 + s1), xi 0, xu] [xi 2, xr (some m)] μ))) ∧ (v3 = (0 : Int) → Mw Ω σ0 m M_Mdl_settle R F 166 [xr (some m), xi v1, xi v2, xi v3, xi v4, xi v5, xi v6, xi (s0 + s1), xi 0, xu] [xi 1, xr (some m)] μ))) ∧ (¬ v3 = (0 : Int) → Q32 (bAnd (bShr (mI μ 18) v1) 1) ∧ ((¬ (bAnd (bShr (mI μ 18) v1) 1) = (0 : Int) → ((¬ v3 = (0 : Int) → Q32 v4 ∧ ((¬ v4 = (0 : Int) → Mw Ω σ0 m M_Mdl_settle R F 166 [xr (some m), xi v1, xi v2, xi v3, xi v4, xi v5, xi v6, xi (s0 + s1), xi 0, xu] [xi 3, xr (some m)] μ) ∧ (v4 = (0 : Int) → Mw Ω σ0 m M_Mdl_settle R F 166 [xr (some m), xi v1, xi v2, xi v3, xi v4, xi v5, xi v6, xi (s0 + s1), xi 0, xu] [xi 2, xr (some m)] μ))) ∧ (v3 = (0 : Int) → Mw Ω σ0 m M_Mdl_settle R F 166 [xr (some m), xi v1, xi v2, xi v3, xi v4, xi v5, xi v6, xi (s0 + s1), xi 0, xu] [xi 1, xr (some m)] μ))) ∧ ((bAnd (bShr (mI μ 18) v1) 1) = (0 : Int) → Mw Ω σ0 m M_Mdl_settle R F 120 [xr (some m), xi v1, xi v2, xi v3, xi v4, xi v5, xi v6, xi (s0 + s1), xu, xu] [xr (some m)] μ))))) : Mw Ω σ0 m M_Mdl_settle R F 97 [xr (some m), xi v1, xi v2, xi v3, xi v4, xi v5, xi v6, xu, xu, xu] [xi s1, xi s0] μ := by
  intro σ hM
  obtain ⟨hS, hk, e⟩ := id hM
  subst e
  refine b_Mdl_settle_97 ?_
  obtain ⟨o, h⟩ := h
  refine ⟨o, ?_⟩
  refine ⟨fun c => ?_, fun c => ?_⟩
  · have h := h.1 c
    refine ⟨fun c => ?_, fun c => ?_⟩
    · have h := h.1 c
      obtain ⟨o, h⟩ := h
      refine ⟨o, ?_⟩
      refine ⟨fun c => ?_, fun c => ?_⟩
      · have h := h.1 c
        exact h _ hM
      · have h := h.2 c
        exact h _ hM
    · have h := h.2 c
      exact h _ hM
  · have h := h.2 c
    refine ⟨hS.2.1, ?_⟩
    refine fun _ => ?_
    obtain ⟨o, h⟩ := h
    refine ⟨o, ?_⟩
    refine ⟨fun c => ?_, fun c => ?_⟩
    · have h := h.1 c
      refine ⟨fun c => ?_, fun c => ?_⟩
      · have h := h.1 c
        obtain ⟨o, h⟩ := h
        refine ⟨o, ?_⟩
        refine ⟨fun c => ?_, fun c => ?_⟩
        · have h := h.1 c
          exact h _ hM
        · have h := h.2 c
          exact h _ hM
      · have h := h.2 c
        exact h _ hM
    · have h := h.2 c
      exact h _ hM
theorem B_settle_123 {Ω : Om} {σ0 : Sto} {m : Nat} {R : Room} {F : QF} {μ : Mu} {v1 : Int} {v2 : Int} {v3 : Int} {v4 : Int} {v5 : Int} {v6 : Int} {v7 : Int} {s0 : Int} (h : Q32 (s0 + v7) ∧ (((20 : Int) < (s0 + v7) → Q32 v3 ∧ ((¬ v3 = (0 : Int) → Q32 v4 ∧ ((¬ v4 = (0 : Int) → Mw Ω σ0 m M_Mdl_settle R F 166 [xr (some m), xi v1, xi v2, xi v3, xi v4, xi v5, xi v6, xi v7, xi 0, xu] [xi 3, xr (some m)] μ) ∧ (v4 = (0 : Int) → Mw Ω σ0 m M_Mdl_settle R F 166 [xr (some m), xi v1, xi v2, xi v3, xi v4, xi v5, xi v6, xi v7, xi 0, xu] [xi 2, xr (some m)] μ))) ∧ (v3 = (0 : Int) → Mw Ω σ0 m M_Mdl_settle R F 166 [xr (some m), xi v1, xi v2, xi v3, xi v4, xi v5, xi v6, xi v7, xi 0, xu] [xi 1, xr (some m)] μ))) ∧ (¬ (20 : Int) < (s0 + v7) → Q32 v3 ∧ ((¬ v3 = (0 : Int) → Q32 v4 ∧ ((¬ v4 = (0 : Int) → Mw Ω σ0 m M_Mdl_settle R F 166 [xr (some m), xi v1, xi v2, xi v3, xi v4, xi v5, xi v6, xi v7, xi 1, xu] [xi 0, xr (some m)] μ) ∧ (v4 = (0 : Int) → Mw Ω σ0 m M_Mdl_settle R F 166 [xr (some m), xi v1, xi v2, xi v3, xi v4, xi v5, xi v6, xi v7, xi 1, xu] [xi 2, xr (some m)] μ))) ∧ (v3 = (0 : Int) → Mw Ω σ0 m M_Mdl_settle R F 166 [xr (some m), xi v1, xi v2, xi v3, xi v4, xi v5, xi v6, xi v7, xi 1, xu] [xi 1, xr (some m)] μ))))) : Mw Ω σ0 m M_Mdl_settle R F 123 [xr (some m), xi v1, xi v2, xi v3, xi v4, xi v5, xi v6, xi v7, xu, xu] [xi s0] μ := by
  intro σ hM
  obtain ⟨hS, hk, e⟩ := id hM
  subst e
  refine b_Mdl_settle_123 ?_
  obtain ⟨o, h⟩ := h
  refine ⟨o, ?_⟩
  refine ⟨fun c => ?_, fun c => ?_⟩
  · have h := h.1 c
    obtain ⟨o, h⟩ := h
    refine ⟨o, ?_⟩
    refine ⟨fun c => ?_, fun c => ?_⟩
    · have h := h.1 c
      obtain ⟨o, h⟩ := h
      refine ⟨o, ?_⟩
      refine ⟨fun c => ?_, fun c => ?_⟩
      · have h := h.1 c
        exact h _ hM
      · have h := h.2 c
        exact h _ hM
    · have h := h.2 c
      exact h _ hM
  · have h := h.2 c
    obtain ⟨o, h⟩ := h
    refine ⟨o, ?_⟩
    refine ⟨fun c => ?_, fun c => ?_⟩
    · have h := h.1 c
      obtain ⟨o, h⟩ := h
      refine ⟨o, ?_⟩
      refine ⟨fun c => ?_, fun c => ?_⟩
      · have h := h.1 c
        exact h _ hM
      · have h := h.2 c
        exact h _ hM
    · have h := h.2 c
      exact h _ hM
theorem B_settle_169 {Ω : Om} {σ0 : Sto} {m : Nat} {R : Room} {F : QF} {μ : Mu} {v1 : Int} {v2 : Int} {v3 : Int} {v4 : Int} {v5 : Int} {v6 : Int} {v7 : Int} {v8 : Int} {s0 : Int} (h : Q32 s0 ∧ ((s0 = (0 : Int) → Mw Ω σ0 m M_Mdl_settle R F 175 [xr (some m), xi v1, xi v2, xi v3, xi v4, xi v5, xi v6, xi v7, xi v8, xu] [xr (some m)] μ) ∧ (¬ s0 = (0 : Int) → Mw Ω σ0 m M_Mdl_settle R F 173 [xr (some m), xi v1, xi v2, xi v3, xi v4, xi v5, xi v6, xi v7, xi v8, xu] [xi 0] μ))) : Mw Ω σ0 m M_Mdl_settle R F 169 [xr (some m), xi v1, xi v2, xi v3, xi v4, xi v5, xi v6, xi v7, xi v8, xu] [xi s0] μ := by
  intro σ hM
  obtain ⟨hS, hk, e⟩ := id hM
  subst e
  refine b_Mdl_settle_169 ?_
  obtain ⟨o, h⟩ := h
  refine ⟨o, ?_⟩
  refine ⟨fun c => ?_, fun c => ?_⟩
  · have h := h.1 c
    exact h _ hM
  · have h := h.2 c
    exact h _ hM
theorem B_settle_178 {Ω : Om} {σ0 : Sto} {m : Nat} {R : Room} {F : QF} {μ : Mu} {v1 : Int} {v2 : Int} {v3 : Int} {v4 : Int} {v5 : Int} {v6 : Int} {v7 : Int} {v8 : Int} (h : Mw Ω σ0 m M_Mdl_settle R F 181 [xr (some m), xi v1, xi v2, xi v3, xi v4, xi v5, xi v6, xi v7, xi v8, xi 0] [] μ) : Mw Ω σ0 m M_Mdl_settle R F 178 [xr (some m), xi v1, xi v2, xi v3, xi v4, xi v5, xi v6, xi v7, xi v8, xu] [] μ := by
  intro σ hM
  obtain ⟨hS, hk, e⟩ := id hM
  subst e
  refine b_Mdl_settle_178 ?_
  exact h _ hM
theorem B_settle_181 {Ω : Om} {σ0 : Sto} {m : Nat} {R : Room} {F : QF} {μ : Mu} {v1 : Int} {v2 : Int} {v3 : Int} {v4 : Int} {v5 : Int} {v6 : Int} {v7 : Int} {v8 : Int} {v9 : Int} (h : 0 ≤ v9 ∧ v9 < 64 ∧ Q32 ((-1) - v1) ∧ (((mA μ 9 (v9).toNat) = ((-1) - v1) → Mw Ω σ0 m M_Mdl_settle R F 203 [xr (some m), xi v1, xi v2, xi v3, xi v4, xi v5, xi v6, xi v7, xi v8, xi v9] [xi v9, xr (some m)] μ) ∧ (¬ (mA μ 9 (v9).toNat) = ((-1) - v1) → Mw Ω σ0 m M_Mdl_settle R F 181 [xr (some m), xi v1, xi v2, xi v3, xi v4, xi v5, xi v6, xi v7, xi v8, xi (v9 + 1)] [] μ))) : Mw Ω σ0 m M_Mdl_settle R F 181 [xr (some m), xi v1, xi v2, xi v3, xi v4, xi v5, xi v6, xi v7, xi v8, xi v9] [] μ := by
  intro σ hM
  obtain ⟨hS, hk, e⟩ := id hM
  subst e
  refine b_Mdl_settle_181 ?_
  refine ⟨hS.2.1, ?_⟩
  refine ⟨_, hS.r9, ?_⟩
  refine ⟨hS.k9, ?_⟩
  obtain ⟨o, h⟩ := h
  refine ⟨o, ?_⟩
  obtain ⟨o, h⟩ := h
  refine ⟨hS.b9 o, ?_⟩
  refine fun _ => ?_
  obtain ⟨o, h⟩ := h
  refine ⟨o, ?_⟩
  refine ⟨fun c => ?_, fun c => ?_⟩
  · have h := h.1 c
    exact h _ hM
  · have h := h.2 c
    exact h _ hM
theorem B_settle_206 {Ω : Om} {σ0 : Sto} {m : Nat} {R : Room} {F : QF} {μ : Mu} {v1 : Int} {v2 : Int} {v3 : Int} {v4 : Int} {v5 : Int} {v6 : Int} {v7 : Int} {v8 : Int} {v9 : Int} (h : Mw Ω σ0 m M_Mdl_settle R F 215 [xr (some m), xi v1, xi v2, xi v3, xi v4, xi v5, xi v6, xi v7, xi v8, xi v9] [xi ((3 * v1) + v5), xi v9, xr (some m)] μ) : Mw Ω σ0 m M_Mdl_settle R F 206 [xr (some m), xi v1, xi v2, xi v3, xi v4, xi v5, xi v6, xi v7, xi v8, xi v9] [] μ := by
  intro σ hM
  obtain ⟨hS, hk, e⟩ := id hM
  subst e
  refine b_Mdl_settle_206 ?_
  exact h _ hM
theorem B_settle_218 {Ω : Om} {σ0 : Sto} {m : Nat} {R : Room} {F : QF} {μ : Mu} {v1 : Int} {v2 : Int} {v3 : Int} {v4 : Int} {v5 : Int} {v6 : Int} {v7 : Int} {v8 : Int} {v9 : Int} {s0 : Int} (h : Q32 v6 ∧ ((v6 = (-1 : Int) → Q32 (bOr (mI μ 18) (bShl 1 v1)) ∧ Mw Ω σ0 m M_Mdl_settle R F 252 [xr (some m), xi v1, xi v2, xi v3, xi v4, xi v5, xi v6, xi v7, xi v8, xi s0] [xr (some m)] (wI μ 18 (bOr (mI μ 18) (bShl 1 v1)))) ∧ (¬ v6 = (-1 : Int) → Mw Ω σ0 m M_Mdl_settle R F 235 [xr (some m), xi v1, xi v2, xi v3, xi v4, xi v5, xi v6, xi v7, xi v8, xi s0] [xi ((3 * v1) + v6), xi s0, xr (some m)] μ))) : Mw Ω σ0 m M_Mdl_settle R F 218 [xr (some m), xi v1, xi v2, xi v3, xi v4, xi v5, xi v6, xi v7, xi v8, xi v9] [xi s0] μ := by
  intro σ hM
  obtain ⟨hS, hk, e⟩ := id hM
  subst e
  refine b_Mdl_settle_218 ?_
  obtain ⟨o, h⟩ := h
  refine ⟨o, ?_⟩
  refine ⟨fun c => ?_, fun c => ?_⟩
  · have h := h.1 c
    refine ⟨hS.2.1, ?_⟩
    refine fun _ => ?_
    obtain ⟨o, h⟩ := h
    refine ⟨o, ?_⟩
    exact h _ (MR.uI (f := 18) hM)
  · have h := h.2 c
    exact h _ hM
theorem B_settle_238 {Ω : Om} {σ0 : Sto} {m : Nat} {R : Room} {F : QF} {μ : Mu} {v1 : Int} {v2 : Int} {v3 : Int} {v4 : Int} {v5 : Int} {v6 : Int} {v7 : Int} {v8 : Int} {v9 : Int} {s0 : Int} (h : Q32 (bOr (mI μ 18) (bShl 1 v1)) ∧ Mw Ω σ0 m M_Mdl_settle R F 252 [xr (some m), xi v1, xi v2, xi v3, xi v4, xi v5, xi v6, xi v7, xi v8, xi v9] [xr (some m)] (wI μ 18 (bOr (mI μ 18) (bShl 1 v1)))) : Mw Ω σ0 m M_Mdl_settle R F 238 [xr (some m), xi v1, xi v2, xi v3, xi v4, xi v5, xi v6, xi v7, xi v8, xi v9] [xi s0] μ := by
  intro σ hM
  obtain ⟨hS, hk, e⟩ := id hM
  subst e
  refine b_Mdl_settle_238 ?_
  refine ⟨hS.2.1, ?_⟩
  refine fun _ => ?_
  obtain ⟨o, h⟩ := h
  refine ⟨o, ?_⟩
  exact h _ (MR.uI (f := 18) hM)
theorem B_settle_101 {Ω : Om} {σ0 : Sto} {m : Nat} {R : Room} {F : QF} {μ : Mu} {v1 : Int} {v2 : Int} {v3 : Int} {v4 : Int} {v5 : Int} {v6 : Int} (h : Q32 v3 ∧ ((v3 = (0 : Int) → ((¬ v3 = (0 : Int) → Q32 v4 ∧ ((¬ v4 = (0 : Int) → Mw Ω σ0 m M_Mdl_settle R F 166 [xr (some m), xi v1, xi v2, xi v3, xi v4, xi v5, xi v6, xi 0, xi 0, xu] [xi 3, xr (some m)] μ) ∧ (v4 = (0 : Int) → Mw Ω σ0 m M_Mdl_settle R F 166 [xr (some m), xi v1, xi v2, xi v3, xi v4, xi v5, xi v6, xi 0, xi 0, xu] [xi 2, xr (some m)] μ))) ∧ (v3 = (0 : Int) → Mw Ω σ0 m M_Mdl_settle R F 166 [xr (some m), xi v1, xi v2, xi v3, xi v4, xi v5, xi v6, xi 0, xi 0, xu] [xi 1, xr (some m)] μ))) ∧ (¬ v3 = (0 : Int) → Q32 (bAnd (bShr (mI μ 18) v1) 1) ∧ ((¬ (bAnd (bShr (mI μ 18) v1) 1) = (0 : Int) → ((¬ v3 = (0 : Int) → Q32 v4 ∧ ((¬ v4 = (0 : Int) → Mw Ω σ0 m M_Mdl_settle R F 166 [xr (some m), xi v1, xi v2, xi v3, xi v4, xi v5, xi v6, xi 0, xi 0, xu] [xi 3, xr (some m)] μ) ∧ (v4 = (0 : Int) → Mw Ω σ0 m M_Mdl_settle R F 166 [xr (some m), xi v1, xi v2, xi v3, xi v4, xi v5, xi v6, xi 0, xi 0, xu] [xi 2, xr (some m)] μ))) ∧ (v3 = (0 : Int) → Mw Ω σ0 m M_Mdl_settle R F 166 [xr (some m), xi v1, xi v2, xi v3, xi v4, xi v5, xi v6, xi 0, xi 0, xu] [xi 1, xr (some m)] μ))) ∧ ((bAnd (bShr (mI μ 18) v1) 1) = (0 : Int) → Mw Ω σ0 m M_Mdl_settle R F 120 [xr (some m), xi v1, xi v2, xi v3, xi v4, xi v5, xi v6, xi 0, xu, xu] [xr (some m)] μ))))) : Mw Ω σ0 m M_Mdl_settle R F 101 [xr (some m), xi v1, xi v2, xi v3, xi v4, xi v5, xi v6, xu, xu, xu] [] μ := by
  intro σ hM
  obtain ⟨hS, hk, e⟩ := id hM
  subst e
  refine b_Mdl_settle_101 ?_
  obtain ⟨o, h⟩ := h
  refine ⟨o, ?_⟩
  refine ⟨fun c => ?_, fun c => ?_⟩
  · have h := h.1 c
    refine ⟨fun c => ?_, fun c => ?_⟩
    · have h := h.1 c
      obtain ⟨o, h⟩ := h
      refine ⟨o, ?_⟩
      refine ⟨fun c => ?_, fun c => ?_⟩
      · have h := h.1 c
        exact h _ hM
      · have h := h.2 c
        exact h _ hM
    · have h := h.2 c
      exact h _ hM
  · have h := h.2 c
    refine ⟨hS.2.1, ?_⟩
    refine fun _ => ?_
    obtain ⟨o, h⟩ := h
    refine ⟨o, ?_⟩
    refine ⟨fun c => ?_, fun c => ?_⟩
    · have h := h.1 c
      refine ⟨fun c => ?_, fun c => ?_⟩
      · have h := h.1 c
        obtain ⟨o, h⟩ := h
        refine ⟨o, ?_⟩
        refine ⟨fun c => ?_, fun c => ?_⟩
        · have h := h.1 c
          exact h _ hM
        · have h := h.2 c
          exact h _ hM
      · have h := h.2 c
        exact h _ hM
    · have h := h.2 c
      exact h _ hM
theorem C_settle_2 {Ω : Om} {σ0 : Sto} {m : Nat} {F : QF} {L st : List PV} {μ : Mu} {Q : Int → Mu → Prop} {x0 : Int} (hc : MMi Ω m M_Mdl_isConflict rm_Mdl_isConflict Q μ [xi x0]) (kk : ∀ y μ', Q y μ' → Mw Ω σ0 m M_Mdl_settle rm_Mdl_settle F 5 L (xi y :: st) μ') (hst : (st.map catP).sum ≤ 8 := by exact Nat.le_of_ble_eq_true rfl) : Mw Ω σ0 m M_Mdl_settle rm_Mdl_settle F 2 L (xi x0 :: xr (some m) :: st) μ :=
  fun σ hM => c_Mdl_settle_2 (hc σ0 σ hM) hM.1.2.1 (by decide) (by decide) (by decide) (by decide) hst (fun y σ' hq => by obtain ⟨μ', h1, h2⟩ := hq; exact kk y μ' h2 σ' h1) (fun _ _ h => h.elim)
theorem C_settle_9 {Ω : Om} {σ0 : Sto} {m : Nat} {F : QF} {L st : List PV} {μ : Mu} {P : Int → Prop} {x0 : Int} {x1 : Int} {x2 : Int} (hc : MPi Ω M_Mdl_in rm_Mdl_in P [xi x0, xi x1, xi x2]) (kk : ∀ y , P y  → Mw Ω σ0 m M_Mdl_settle rm_Mdl_settle F 12 L (xi y :: st) μ) (hst : (st.map catP).sum ≤ 8 := by exact Nat.le_of_ble_eq_true rfl) : Mw Ω σ0 m M_Mdl_settle rm_Mdl_settle F 9 L (xi x2 :: xi x1 :: xi x0 :: st) μ :=
  fun σ hM => c_Mdl_settle_9 (hc σ) (by decide) (by decide) (by decide) (by decide) hst (fun y σ' hq => by obtain ⟨rfl, h2⟩ := hq; exact kk y h2 σ' hM) (fun _ _ h => h.elim)
theorem C_settle_120 {Ω : Om} {σ0 : Sto} {m : Nat} {F : QF} {L st : List PV} {μ : Mu} {Q : Int → Mu → Prop}  (hc : MMi Ω m M_Mdl_lineCount rm_Mdl_lineCount Q μ []) (kk : ∀ y μ', Q y μ' → Mw Ω σ0 m M_Mdl_settle rm_Mdl_settle F 123 L (xi y :: st) μ') (hst : (st.map catP).sum ≤ 8 := by exact Nat.le_of_ble_eq_true rfl) : Mw Ω σ0 m M_Mdl_settle rm_Mdl_settle F 120 L (xr (some m) :: st) μ :=
  fun σ hM => c_Mdl_settle_120 (hc σ0 σ hM) hM.1.2.1 (by decide) (by decide) (by decide) (by decide) hst (fun y σ' hq => by obtain ⟨μ', h1, h2⟩ := hq; exact kk y μ' h2 σ' h1) (fun _ _ h => h.elim)
theorem C_settle_166 {Ω : Om} {σ0 : Sto} {m : Nat} {F : QF} {L st : List PV} {μ : Mu} {Q : Int → Mu → Prop} {x0 : Int} (hc : MMi Ω m M_Mdl_refused rm_Mdl_refused Q μ [xi x0]) (kk : ∀ y μ', Q y μ' → Mw Ω σ0 m M_Mdl_settle rm_Mdl_settle F 169 L (xi y :: st) μ') (hst : (st.map catP).sum ≤ 8 := by exact Nat.le_of_ble_eq_true rfl) : Mw Ω σ0 m M_Mdl_settle rm_Mdl_settle F 166 L (xi x0 :: xr (some m) :: st) μ :=
  fun σ hM => c_Mdl_settle_166 (hc σ0 σ hM) hM.1.2.1 (by decide) (by decide) (by decide) (by decide) hst (fun y σ' hq => by obtain ⟨μ', h1, h2⟩ := hq; exact kk y μ' h2 σ' h1) (fun _ _ h => h.elim)
theorem R_settle_173 {Ω : Om} {σ0 : Sto} {m : Nat} {L : List PV} {μ : Mu} {Q : Int → Mu → Prop} {x : Int} (h : Q x μ) : Mw Ω σ0 m M_Mdl_settle rm_Mdl_settle (MQi Ω σ0 m rm_Mdl_settle Q) 173 L [xi x] μ := fun σ hM => r_Mdl_settle_173 ⟨_, rfl, μ, hM, h⟩ (by decide) (by decide)
theorem C_settle_175 {Ω : Om} {σ0 : Sto} {m : Nat} {F : QF} {L st : List PV} {μ : Mu} {Q : Mu → Prop}  (hc : MMv Ω m M_Mdl_remember rm_Mdl_remember Q μ []) (kk : ∀ μ', Q μ' → Mw Ω σ0 m M_Mdl_settle rm_Mdl_settle F 178 L st μ') (hst : (st.map catP).sum ≤ 8 := by exact Nat.le_of_ble_eq_true rfl) : Mw Ω σ0 m M_Mdl_settle rm_Mdl_settle F 175 L (xr (some m) :: st) μ :=
  fun σ hM => c_Mdl_settle_175 (hc σ0 σ hM) hM.1.2.1 (by decide) (by decide) (by decide) (by decide) hst (fun σ' hq => by obtain ⟨μ', h1, h2⟩ := hq; exact kk μ' h2 σ' h1) (fun _ _ h => h.elim)
theorem C_settle_203 {Ω : Om} {σ0 : Sto} {m : Nat} {F : QF} {L st : List PV} {μ : Mu} {Q : Mu → Prop} {x0 : Int} (hc : MMv Ω m M_Mdl_takeAt rm_Mdl_takeAt Q μ [xi x0]) (kk : ∀ μ', Q μ' → Mw Ω σ0 m M_Mdl_settle rm_Mdl_settle F 206 L st μ') (hst : (st.map catP).sum ≤ 8 := by exact Nat.le_of_ble_eq_true rfl) : Mw Ω σ0 m M_Mdl_settle rm_Mdl_settle F 203 L (xi x0 :: xr (some m) :: st) μ :=
  fun σ hM => c_Mdl_settle_203 (hc σ0 σ hM) hM.1.2.1 (by decide) (by decide) (by decide) (by decide) hst (fun σ' hq => by obtain ⟨μ', h1, h2⟩ := hq; exact kk μ' h2 σ' h1) (fun _ _ h => h.elim)
theorem C_settle_215 {Ω : Om} {σ0 : Sto} {m : Nat} {F : QF} {L st : List PV} {μ : Mu} {Q : Int → Mu → Prop} {x0 : Int} {x1 : Int} (hc : MMi Ω m M_Mdl_putPiece rm_Mdl_putPiece Q μ [xi x0, xi x1]) (kk : ∀ y μ', Q y μ' → Mw Ω σ0 m M_Mdl_settle rm_Mdl_settle F 218 L (xi y :: st) μ') (hst : (st.map catP).sum ≤ 8 := by exact Nat.le_of_ble_eq_true rfl) : Mw Ω σ0 m M_Mdl_settle rm_Mdl_settle F 215 L (xi x1 :: xi x0 :: xr (some m) :: st) μ :=
  fun σ hM => c_Mdl_settle_215 (hc σ0 σ hM) hM.1.2.1 (by decide) (by decide) (by decide) (by decide) hst (fun y σ' hq => by obtain ⟨μ', h1, h2⟩ := hq; exact kk y μ' h2 σ' h1) (fun _ _ h => h.elim)
theorem C_settle_235 {Ω : Om} {σ0 : Sto} {m : Nat} {F : QF} {L st : List PV} {μ : Mu} {Q : Int → Mu → Prop} {x0 : Int} {x1 : Int} (hc : MMi Ω m M_Mdl_putPiece rm_Mdl_putPiece Q μ [xi x0, xi x1]) (kk : ∀ y μ', Q y μ' → Mw Ω σ0 m M_Mdl_settle rm_Mdl_settle F 238 L (xi y :: st) μ') (hst : (st.map catP).sum ≤ 8 := by exact Nat.le_of_ble_eq_true rfl) : Mw Ω σ0 m M_Mdl_settle rm_Mdl_settle F 235 L (xi x1 :: xi x0 :: xr (some m) :: st) μ :=
  fun σ hM => c_Mdl_settle_235 (hc σ0 σ hM) hM.1.2.1 (by decide) (by decide) (by decide) (by decide) hst (fun y σ' hq => by obtain ⟨μ', h1, h2⟩ := hq; exact kk y μ' h2 σ' h1) (fun _ _ h => h.elim)
theorem C_settle_252 {Ω : Om} {σ0 : Sto} {m : Nat} {F : QF} {L st : List PV} {μ : Mu} {Q : Int → Mu → Prop}  (hc : MMi Ω m M_Mdl_conflicts rm_Mdl_conflicts Q μ []) (kk : ∀ y μ', Q y μ' → Mw Ω σ0 m M_Mdl_settle rm_Mdl_settle F 255 L (xi y :: st) μ') (hst : (st.map catP).sum ≤ 8 := by exact Nat.le_of_ble_eq_true rfl) : Mw Ω σ0 m M_Mdl_settle rm_Mdl_settle F 252 L (xr (some m) :: st) μ :=
  fun σ hM => c_Mdl_settle_252 (hc σ0 σ hM) hM.1.2.1 (by decide) (by decide) (by decide) (by decide) hst (fun y σ' hq => by obtain ⟨μ', h1, h2⟩ := hq; exact kk y μ' h2 σ' h1) (fun _ _ h => h.elim)
theorem R_settle_255 {Ω : Om} {σ0 : Sto} {m : Nat} {L : List PV} {μ : Mu} {Q : Int → Mu → Prop} {x : Int} (h : Q x μ) : Mw Ω σ0 m M_Mdl_settle rm_Mdl_settle (MQi Ω σ0 m rm_Mdl_settle Q) 255 L [xi x] μ := fun σ hM => r_Mdl_settle_255 ⟨_, rfl, μ, hM, h⟩ (by decide) (by decide)
theorem E_settle {Ω : Om} {m : Nat} {μ : Mu} {Q : Int → Mu → Prop} {v1 : Int} {v2 : Int} (h : ∀ σ0, Mw Ω σ0 m M_Mdl_settle rm_Mdl_settle (MQi Ω σ0 m rm_Mdl_settle Q) 0 [xr (some m), xi v1, xi v2, xu, xu, xu, xu, xu, xu, xu] [] μ) : MMi Ω m M_Mdl_settle rm_Mdl_settle Q μ [xi v1, xi v2] := fun σ0 σ hM => e_Mdl_settle (h σ0 σ hM)
theorem B_lay_0 {Ω : Om} {σ0 : Sto} {m : Nat} {R : Room} {F : QF} {μ : Mu} {v1 : Int} {v2 : Int} (h : Mw Ω σ0 m M_Mdl_lay R F 2 [xr (some m), xi v1, xi v2, xu, xu, xu, xu, xu, xu] [xi v1, xr (some m)] μ) : Mw Ω σ0 m M_Mdl_lay R F 0 [xr (some m), xi v1, xi v2, xu, xu, xu, xu, xu, xu] [] μ := by
  intro σ hM
  obtain ⟨hS, hk, e⟩ := id hM
  subst e
  refine b_Mdl_lay_0 ?_
  exact h _ hM
theorem B_lay_5 {Ω : Om} {σ0 : Sto} {m : Nat} {R : Room} {F : QF} {μ : Mu} {v1 : Int} {v2 : Int} {s0 : Int} (h : Mw Ω σ0 m M_Mdl_lay R F 9 [xr (some m), xi v1, xi v2, xi s0, xu, xu, xu, xu, xu] [xi 2, xi 0, xi v2] μ) : Mw Ω σ0 m M_Mdl_lay R F 5 [xr (some m), xi v1, xi v2, xu, xu, xu, xu, xu, xu] [xi s0] μ := by
  intro σ hM
  obtain ⟨hS, hk, e⟩ := id hM
  subst e
  refine b_Mdl_lay_5 ?_
  exact h _ hM
theorem B_lay_12 {Ω : Om} {σ0 : Sto} {m : Nat} {R : Room} {F : QF} {μ : Mu} {v1 : Int} {v2 : Int} {v3 : Int} {s0 : Int} (h : Q32 v3 ∧ ((v3 = (0 : Int) → Mw Ω σ0 m M_Mdl_lay R F 41 [xr (some m), xi v1, xi v2, xi v3, xi s0, xu, xu, xu, xu] [] μ) ∧ (¬ v3 = (0 : Int) → Q32 s0 ∧ ((s0 = (0 : Int) → Mw Ω σ0 m M_Mdl_lay R F 41 [xr (some m), xi v1, xi v2, xi v3, xi s0, xu, xu, xu, xu] [] μ) ∧ (¬ s0 = (0 : Int) → (((mI μ 11) = (0 : Int) → Mw Ω σ0 m M_Mdl_lay R F 41 [xr (some m), xi v1, xi v2, xi v3, xi s0, xu, xu, xu, xu] [] μ) ∧ (¬ (mI μ 11) = (0 : Int) → Mw Ω σ0 m M_Mdl_lay R F 31 [xr (some m), xi v1, xi v2, xi v3, xi s0, xu, xu, xu, xu] [xr (some m)] μ))))))) : Mw Ω σ0 m M_Mdl_lay R F 12 [xr (some m), xi v1, xi v2, xi v3, xu, xu, xu, xu, xu] [xi s0] μ := by
  intro σ hM
  obtain ⟨hS, hk, e⟩ := id hM
  subst e
  refine b_Mdl_lay_12 ?_
  obtain ⟨o, h⟩ := h
  refine ⟨o, ?_⟩
  refine ⟨fun c => ?_, fun c => ?_⟩
  · have h := h.1 c
    exact h _ hM
  · have h := h.2 c
    obtain ⟨o, h⟩ := h
    refine ⟨o, ?_⟩
    refine ⟨fun c => ?_, fun c => ?_⟩
    · have h := h.1 c
      exact h _ hM
    · have h := h.2 c
      refine ⟨hS.2.1, ?_⟩
      refine fun _ => ?_
      refine ⟨fun c => ?_, fun c => ?_⟩
      · have h := h.1 c
        exact h _ hM
      · have h := h.2 c
        exact h _ hM
theorem B_lay_34 {Ω : Om} {σ0 : Sto} {m : Nat} {R : Room} {F : QF} {μ : Mu} {v1 : Int} {v2 : Int} {v3 : Int} {v4 : Int} {s0 : Int} (h : Q32 s0 ∧ ((s0 = (0 : Int) → Mw Ω σ0 m M_Mdl_lay R F 41 [xr (some m), xi v1, xi v2, xi v3, xi v4, xu, xu, xu, xu] [] μ) ∧ (¬ s0 = (0 : Int) → Mw Ω σ0 m M_Mdl_lay R F 42 [xr (some m), xi v1, xi v2, xi v3, xi v4, xu, xu, xu, xu] [xi 1] μ))) : Mw Ω σ0 m M_Mdl_lay R F 34 [xr (some m), xi v1, xi v2, xi v3, xi v4, xu, xu, xu, xu] [xi s0] μ := by
  intro σ hM
  obtain ⟨hS, hk, e⟩ := id hM
  subst e
  refine b_Mdl_lay_34 ?_
  obtain ⟨o, h⟩ := h
  refine ⟨o, ?_⟩
  refine ⟨fun c => ?_, fun c => ?_⟩
  · have h := h.1 c
    exact h _ hM
  · have h := h.2 c
    exact h _ hM
theorem B_lay_42 {Ω : Om} {σ0 : Sto} {m : Nat} {R : Room} {F : QF} {μ : Mu} {v1 : Int} {v2 : Int} {v3 : Int} {v4 : Int} {s0 : Int} (h : Q32 s0 ∧ ((s0 = (0 : Int) → Mw Ω σ0 m M_Mdl_lay R F 65 [xr (some m), xi v1, xi v2, xi v3, xi v4, xi s0, xi (mI μ 1), xu, xu] [xi 0] μ) ∧ (¬ s0 = (0 : Int) → Mw Ω σ0 m M_Mdl_lay R F 58 [xr (some m), xi v1, xi v2, xi v3, xi v4, xi s0, xi (mI μ 1), xu, xu] [xi v2, xi v1, xr (some m)] μ))) : Mw Ω σ0 m M_Mdl_lay R F 42 [xr (some m), xi v1, xi v2, xi v3, xi v4, xu, xu, xu, xu] [xi s0] μ := by
  intro σ hM
  obtain ⟨hS, hk, e⟩ := id hM
  subst e
  refine b_Mdl_lay_42 ?_
  refine ⟨hS.2.1, ?_⟩
  refine fun _ => ?_
  obtain ⟨o, h⟩ := h
  refine ⟨o, ?_⟩
  refine ⟨fun c => ?_, fun c => ?_⟩
  · have h := h.1 c
    exact h _ hM
  · have h := h.2 c
    exact h _ hM
theorem B_lay_61 {Ω : Om} {σ0 : Sto} {m : Nat} {R : Room} {F : QF} {μ : Mu} {v1 : Int} {v2 : Int} {v3 : Int} {v4 : Int} {v5 : Int} {v6 : Int} {s0 : Int} (h : Mw Ω σ0 m M_Mdl_lay R F 65 [xr (some m), xi v1, xi v2, xi v3, xi v4, xi v5, xi v6, xu, xu] [xi s0] μ) : Mw Ω σ0 m M_Mdl_lay R F 61 [xr (some m), xi v1, xi v2, xi v3, xi v4, xi v5, xi v6, xu, xu] [xi s0] μ := by
  intro σ hM
  obtain ⟨hS, hk, e⟩ := id hM
  subst e
  refine b_Mdl_lay_61 ?_
  exact h _ hM
theorem B_lay_65 {Ω : Om} {σ0 : Sto} {m : Nat} {R : Room} {F : QF} {μ : Mu} {v1 : Int} {v2 : Int} {v3 : Int} {v4 : Int} {v5 : Int} {v6 : Int} {s0 : Int} (h : Q32 v5 ∧ ((v5 = (0 : Int) → Mw Ω σ0 m M_Mdl_lay R F 85 [xr (some m), xi v1, xi v2, xi v3, xi v4, xi v5, xi v6, xi s0, xu] [] μ) ∧ (¬ v5 = (0 : Int) → (((20 : Int) < (mI μ 53) → Mw Ω σ0 m M_Mdl_lay R F 85 [xr (some m), xi v1, xi v2, xi v3, xi v4, xi v5, xi v6, xi s0, xu] [] μ) ∧ (¬ (20 : Int) < (mI μ 53) → Mw Ω σ0 m M_Mdl_lay R F 86 [xr (some m), xi v1, xi v2, xi v3, xi v4, xi v5, xi v6, xi s0, xu] [xi 1] μ))))) : Mw Ω σ0 m M_Mdl_lay R F 65 [xr (some m), xi v1, xi v2, xi v3, xi v4, xi v5, xi v6, xu, xu] [xi s0] μ := by
  intro σ hM
  obtain ⟨hS, hk, e⟩ := id hM
  subst e
  refine b_Mdl_lay_65 ?_
  obtain ⟨o, h⟩ := h
  refine ⟨o, ?_⟩
  refine ⟨fun c => ?_, fun c => ?_⟩
  · have h := h.1 c
    exact h _ hM
  · have h := h.2 c
    refine ⟨hS.2.1, ?_⟩
    refine fun _ => ?_
    refine ⟨fun c => ?_, fun c => ?_⟩
    · have h := h.1 c
      exact h _ hM
    · have h := h.2 c
      exact h _ hM
theorem B_lay_86 {Ω : Om} {σ0 : Sto} {m : Nat} {R : Room} {F : QF} {μ : Mu} {v1 : Int} {v2 : Int} {v3 : Int} {v4 : Int} {v5 : Int} {v6 : Int} {v7 : Int} {s0 : Int} (h : Q32 s0 ∧ ((s0 = (0 : Int) → Q32 v6 ∧ Q32 v3 ∧ ((¬ v3 = (0 : Int) → Q32 v4 ∧ ((¬ v4 = (0 : Int) → ((s0 = (0 : Int) → Mw Ω σ0 m M_Mdl_lay R F 134 [xr (some m), xi v1, xi v2, xi v3, xi v4, xi s0, xi v6, xi v7, xu] [xi 3, xr (some m)] (wI μ 1 v6)) ∧ (¬ s0 = (0 : Int) → Mw Ω σ0 m M_Mdl_lay R F 134 [xr (some m), xi v1, xi v2, xi v3, xi v4, xi s0, xi v6, xi v7, xu] [xi 0, xr (some m)] (wI μ 1 v6)))) ∧ (v4 = (0 : Int) → Mw Ω σ0 m M_Mdl_lay R F 134 [xr (some m), xi v1, xi v2, xi v3, xi v4, xi s0, xi v6, xi v7, xu] [xi 2, xr (some m)] (wI μ 1 v6)))) ∧ (v3 = (0 : Int) → Mw Ω σ0 m M_Mdl_lay R F 134 [xr (some m), xi v1, xi v2, xi v3, xi v4, xi s0, xi v6, xi v7, xu] [xi 1, xr (some m)] (wI μ 1 v6)))) ∧ (¬ s0 = (0 : Int) → Q32 v3 ∧ ((¬ v3 = (0 : Int) → Q32 v4 ∧ ((¬ v4 = (0 : Int) → ((s0 = (0 : Int) → Mw Ω σ0 m M_Mdl_lay R F 134 [xr (some m), xi v1, xi v2, xi v3, xi v4, xi s0, xi v6, xi v7, xu] [xi 3, xr (some m)] (wI μ 1 (mI μ 1))) ∧ (¬ s0 = (0 : Int) → Mw Ω σ0 m M_Mdl_lay R F 134 [xr (some m), xi v1, xi v2, xi v3, xi v4, xi s0, xi v6, xi v7, xu] [xi 0, xr (some m)] (wI μ 1 (mI μ 1))))) ∧ (v4 = (0 : Int) → Mw Ω σ0 m M_Mdl_lay R F 134 [xr (some m), xi v1, xi v2, xi v3, xi v4, xi s0, xi v6, xi v7, xu] [xi 2, xr (some m)] (wI μ 1 (mI μ 1))))) ∧ (v3 = (0 : Int) → Mw Ω σ0 m M_Mdl_lay R F 134 [xr (some m), xi v1, xi v2, xi v3, xi v4, xi s0, xi v6, xi v7, xu] [xi 1, xr (some m)] (wI μ 1 (mI μ 1))))))) : Mw Ω σ0 m M_Mdl_lay R F 86 [xr (some m), xi v1, xi v2, xi v3, xi v4, xi v5, xi v6, xi v7, xu] [xi s0] μ := by
  intro σ hM
  obtain ⟨hS, hk, e⟩ := id hM
  subst e
  refine b_Mdl_lay_86 ?_
  obtain ⟨o, h⟩ := h
  refine ⟨o, ?_⟩
  refine ⟨fun c => ?_, fun c => ?_⟩
  · have h := h.1 c
    refine ⟨hS.2.1, ?_⟩
    obtain ⟨o, h⟩ := h
    refine ⟨o, ?_⟩
    obtain ⟨o, h⟩ := h
    refine ⟨o, ?_⟩
    refine ⟨fun c => ?_, fun c => ?_⟩
    · have h := h.1 c
      obtain ⟨o, h⟩ := h
      refine ⟨o, ?_⟩
      refine ⟨fun c => ?_, fun c => ?_⟩
      · have h := h.1 c
        refine ⟨fun c => ?_, fun c => ?_⟩
        · have h := h.1 c
          exact h _ (MR.uI (f := 1) hM)
        · have h := h.2 c
          exact h _ (MR.uI (f := 1) hM)
      · have h := h.2 c
        exact h _ (MR.uI (f := 1) hM)
    · have h := h.2 c
      exact h _ (MR.uI (f := 1) hM)
  · have h := h.2 c
    refine ⟨hS.2.1, ?_⟩
    refine fun _ => ?_
    obtain ⟨o, h⟩ := h
    refine ⟨o, ?_⟩
    refine ⟨fun c => ?_, fun c => ?_⟩
    · have h := h.1 c
      obtain ⟨o, h⟩ := h
      refine ⟨o, ?_⟩
      refine ⟨fun c => ?_, fun c => ?_⟩
      · have h := h.1 c
        refine ⟨fun c => ?_, fun c => ?_⟩
        · have h := h.1 c
          exact h _ (MR.uI (f := 1) hM)
        · have h := h.2 c
          exact h _ (MR.uI (f := 1) hM)
      · have h := h.2 c
        exact h _ (MR.uI (f := 1) hM)
    · have h := h.2 c
      exact h _ (MR.uI (f := 1) hM)
theorem B_lay_137 {Ω : Om} {σ0 : Sto} {m : Nat} {R : Room} {F : QF} {μ : Mu} {v1 : Int} {v2 : Int} {v3 : Int} {v4 : Int} {v5 : Int} {v6 : Int} {v7 : Int} {s0 : Int} (h : Q32 s0 ∧ ((s0 = (0 : Int) → Mw Ω σ0 m M_Mdl_lay R F 143 [xr (some m), xi v1, xi v2, xi v3, xi v4, xi v5, xi v6, xi v7, xu] [xr (some m)] μ) ∧ (¬ s0 = (0 : Int) → Mw Ω σ0 m M_Mdl_lay R F 141 [xr (some m), xi v1, xi v2, xi v3, xi v4, xi v5, xi v6, xi v7, xu] [xi 0] μ))) : Mw Ω σ0 m M_Mdl_lay R F 137 [xr (some m), xi v1, xi v2, xi v3, xi v4, xi v5, xi v6, xi v7, xu] [xi s0] μ := by
  intro σ hM
  obtain ⟨hS, hk, e⟩ := id hM
  subst e
  refine b_Mdl_lay_137 ?_
  obtain ⟨o, h⟩ := h
  refine ⟨o, ?_⟩
  refine ⟨fun c => ?_, fun c => ?_⟩
  · have h := h.1 c
    exact h _ hM
  · have h := h.2 c
    exact h _ hM
theorem B_lay_146 {Ω : Om} {σ0 : Sto} {m : Nat} {R : Room} {F : QF} {μ : Mu} {v1 : Int} {v2 : Int} {v3 : Int} {v4 : Int} {v5 : Int} {v6 : Int} {v7 : Int} (h : Mw Ω σ0 m M_Mdl_lay R F 157 [xr (some m), xi v1, xi v2, xi v3, xi v4, xi v5, xi v6, xi v7, xi 0] [] (wI μ 15 (mI μ 53))) : Mw Ω σ0 m M_Mdl_lay R F 146 [xr (some m), xi v1, xi v2, xi v3, xi v4, xi v5, xi v6, xi v7, xu] [] μ := by
  intro σ hM
  obtain ⟨hS, hk, e⟩ := id hM
  subst e
  refine b_Mdl_lay_146 ?_
  refine ⟨hS.2.1, ?_⟩
  refine fun _ => ?_
  exact h _ (MR.uI (f := 15) hM)
theorem B_lay_157 {Ω : Om} {σ0 : Sto} {m : Nat} {R : Room} {F : QF} {μ : Mu} {v1 : Int} {v2 : Int} {v3 : Int} {v4 : Int} {v5 : Int} {v6 : Int} {v7 : Int} {v8 : Int} (h : Q32 v8 ∧ (((mI μ 15) ≤ v8 → Mw Ω σ0 m M_Mdl_lay R F 188 [xr (some m), xi v1, xi v2, xi v3, xi v4, xi v5, xi v6, xi v7, xi v8] [xi v7] μ) ∧ (¬ (mI μ 15) ≤ v8 → 0 ≤ v8 ∧ v8 < 128 ∧ 0 ≤ v8 ∧ v8 < 64 ∧ Mw Ω σ0 m M_Mdl_lay R F 157 [xr (some m), xi v1, xi v2, xi v3, xi v4, xi v5, xi v6, xi v7, xi (v8 + 1)] [] (wA μ 9 (v8).toNat (mA μ 37 (v8).toNat))))) : Mw Ω σ0 m M_Mdl_lay R F 157 [xr (some m), xi v1, xi v2, xi v3, xi v4, xi v5, xi v6, xi v7, xi v8] [] μ := by
  intro σ hM
  obtain ⟨hS, hk, e⟩ := id hM
  subst e
  refine b_Mdl_lay_157 ?_
  refine ⟨hS.2.1, ?_⟩
  refine fun _ => ?_
  obtain ⟨o, h⟩ := h
  refine ⟨o, ?_⟩
  refine ⟨fun c => ?_, fun c => ?_⟩
  · have h := h.1 c
    exact h _ hM
  · have h := h.2 c
    refine ⟨_, hS.r9, ?_⟩
    refine ⟨_, hS.r37, ?_⟩
    refine ⟨hS.k37, ?_⟩
    obtain ⟨o, h⟩ := h
    refine ⟨o, ?_⟩
    obtain ⟨o, h⟩ := h
    refine ⟨hS.b37 o, ?_⟩
    refine fun _ => ?_
    refine ⟨hS.k9, ?_⟩
    obtain ⟨o, h⟩ := h
    refine ⟨o, ?_⟩
    obtain ⟨o, h⟩ := h
    refine ⟨hS.b9 o, ?_⟩
    exact h _ (MR.vI (j := 9) (by decide) hM)
theorem B_lay_85 {Ω : Om} {σ0 : Sto} {m : Nat} {R : Room} {F : QF} {μ : Mu} {v1 : Int} {v2 : Int} {v3 : Int} {v4 : Int} {v5 : Int} {v6 : Int} {v7 : Int} (h : Q32 v6 ∧ Q32 v3 ∧ ((¬ v3 = (0 : Int) → Q32 v4 ∧ ((¬ v4 = (0 : Int) → Mw Ω σ0 m M_Mdl_lay R F 134 [xr (some m), xi v1, xi v2, xi v3, xi v4, xi 0, xi v6, xi v7, xu] [xi 3, xr (some m)] (wI μ 1 v6)) ∧ (v4 = (0 : Int) → Mw Ω σ0 m M_Mdl_lay R F 134 [xr (some m), xi v1, xi v2, xi v3, xi v4, xi 0, xi v6, xi v7, xu] [xi 2, xr (some m)] (wI μ 1 v6)))) ∧ (v3 = (0 : Int) → Mw Ω σ0 m M_Mdl_lay R F 134 [xr (some m), xi v1, xi v2, xi v3, xi v4, xi 0, xi v6, xi v7, xu] [xi 1, xr (some m)] (wI μ 1 v6)))) : Mw Ω σ0 m M_Mdl_lay R F 85 [xr (some m), xi v1, xi v2, xi v3, xi v4, xi v5, xi v6, xi v7, xu] [] μ := by
  intro σ hM
  obtain ⟨hS, hk, e⟩ := id hM
  subst e
  refine b_Mdl_lay_85 ?_
  refine ⟨hS.2.1, ?_⟩
  obtain ⟨o, h⟩ := h
  refine ⟨o, ?_⟩
  obtain ⟨o, h⟩ := h
  refine ⟨o, ?_⟩
  refine ⟨fun c => ?_, fun c => ?_⟩
  · have h := h.1 c
    obtain ⟨o, h⟩ := h
    refine ⟨o, ?_⟩
    refine ⟨fun c => ?_, fun c => ?_⟩
    · have h := h.1 c
      exact h _ (MR.uI (f := 1) hM)
    · have h := h.2 c
      exact h _ (MR.uI (f := 1) hM)
  · have h := h.2 c
    exact h _ (MR.uI (f := 1) hM)
theorem B_lay_41 {Ω : Om} {σ0 : Sto} {m : Nat} {R : Room} {F : QF} {μ : Mu} {v1 : Int} {v2 : Int} {v3 : Int} {v4 : Int} (h : Mw Ω σ0 m M_Mdl_lay R F 42 [xr (some m), xi v1, xi v2, xi v3, xi v4, xu, xu, xu, xu] [xi 0] μ) : Mw Ω σ0 m M_Mdl_lay R F 41 [xr (some m), xi v1, xi v2, xi v3, xi v4, xu, xu, xu, xu] [] μ := by
  intro σ hM
  obtain ⟨hS, hk, e⟩ := id hM
  subst e
  refine b_Mdl_lay_41 ?_
  exact h _ hM
theorem C_lay_2 {Ω : Om} {σ0 : Sto} {m : Nat} {F : QF} {L st : List PV} {μ : Mu} {Q : Int → Mu → Prop} {x0 : Int} (hc : MMi Ω m M_Mdl_isPatch rm_Mdl_isPatch Q μ [xi x0]) (kk : ∀ y μ', Q y μ' → Mw Ω σ0 m M_Mdl_lay rm_Mdl_lay F 5 L (xi y :: st) μ') (hst : (st.map catP).sum ≤ 8 := by exact Nat.le_of_ble_eq_true rfl) : Mw Ω σ0 m M_Mdl_lay rm_Mdl_lay F 2 L (xi x0 :: xr (some m) :: st) μ :=
  fun σ hM => c_Mdl_lay_2 (hc σ0 σ hM) hM.1.2.1 (by decide) (by decide) (by decide) (by decide) hst (fun y σ' hq => by obtain ⟨μ', h1, h2⟩ := hq; exact kk y μ' h2 σ' h1) (fun _ _ h => h.elim)
theorem C_lay_9 {Ω : Om} {σ0 : Sto} {m : Nat} {F : QF} {L st : List PV} {μ : Mu} {P : Int → Prop} {x0 : Int} {x1 : Int} {x2 : Int} (hc : MPi Ω M_Mdl_in rm_Mdl_in P [xi x0, xi x1, xi x2]) (kk : ∀ y , P y  → Mw Ω σ0 m M_Mdl_lay rm_Mdl_lay F 12 L (xi y :: st) μ) (hst : (st.map catP).sum ≤ 8 := by exact Nat.le_of_ble_eq_true rfl) : Mw Ω σ0 m M_Mdl_lay rm_Mdl_lay F 9 L (xi x2 :: xi x1 :: xi x0 :: st) μ :=
  fun σ hM => c_Mdl_lay_9 (hc σ) (by decide) (by decide) (by decide) (by decide) hst (fun y σ' hq => by obtain ⟨rfl, h2⟩ := hq; exact kk y h2 σ' hM) (fun _ _ h => h.elim)
theorem C_lay_31 {Ω : Om} {σ0 : Sto} {m : Nat} {F : QF} {L st : List PV} {μ : Mu} {Q : Int → Mu → Prop}  (hc : MMi Ω m M_Mdl_isSettled rm_Mdl_isSettled Q μ []) (kk : ∀ y μ', Q y μ' → Mw Ω σ0 m M_Mdl_lay rm_Mdl_lay F 34 L (xi y :: st) μ') (hst : (st.map catP).sum ≤ 8 := by exact Nat.le_of_ble_eq_true rfl) : Mw Ω σ0 m M_Mdl_lay rm_Mdl_lay F 31 L (xr (some m) :: st) μ :=
  fun σ hM => c_Mdl_lay_31 (hc σ0 σ hM) hM.1.2.1 (by decide) (by decide) (by decide) (by decide) hst (fun y σ' hq => by obtain ⟨μ', h1, h2⟩ := hq; exact kk y μ' h2 σ' h1) (fun _ _ h => h.elim)
theorem C_lay_58 {Ω : Om} {σ0 : Sto} {m : Nat} {F : QF} {L st : List PV} {μ : Mu} {Q : Int → Mu → Prop} {x0 : Int} {x1 : Int} (hc : MMi Ω m M_Mdl_layAll rm_Mdl_layAll Q μ [xi x0, xi x1]) (kk : ∀ y μ', Q y μ' → Mw Ω σ0 m M_Mdl_lay rm_Mdl_lay F 61 L (xi y :: st) μ') (hst : (st.map catP).sum ≤ 8 := by exact Nat.le_of_ble_eq_true rfl) : Mw Ω σ0 m M_Mdl_lay rm_Mdl_lay F 58 L (xi x1 :: xi x0 :: xr (some m) :: st) μ :=
  fun σ hM => c_Mdl_lay_58 (hc σ0 σ hM) hM.1.2.1 (by decide) (by decide) (by decide) (by decide) hst (fun y σ' hq => by obtain ⟨μ', h1, h2⟩ := hq; exact kk y μ' h2 σ' h1) (fun _ _ h => h.elim)
theorem C_lay_134 {Ω : Om} {σ0 : Sto} {m : Nat} {F : QF} {L st : List PV} {μ : Mu} {Q : Int → Mu → Prop} {x0 : Int} (hc : MMi Ω m M_Mdl_refused rm_Mdl_refused Q μ [xi x0]) (kk : ∀ y μ', Q y μ' → Mw Ω σ0 m M_Mdl_lay rm_Mdl_lay F 137 L (xi y :: st) μ') (hst : (st.map catP).sum ≤ 8 := by exact Nat.le_of_ble_eq_true rfl) : Mw Ω σ0 m M_Mdl_lay rm_Mdl_lay F 134 L (xi x0 :: xr (some m) :: st) μ :=
  fun σ hM => c_Mdl_lay_134 (hc σ0 σ hM) hM.1.2.1 (by decide) (by decide) (by decide) (by decide) hst (fun y σ' hq => by obtain ⟨μ', h1, h2⟩ := hq; exact kk y μ' h2 σ' h1) (fun _ _ h => h.elim)
theorem R_lay_141 {Ω : Om} {σ0 : Sto} {m : Nat} {L : List PV} {μ : Mu} {Q : Int → Mu → Prop} {x : Int} (h : Q x μ) : Mw Ω σ0 m M_Mdl_lay rm_Mdl_lay (MQi Ω σ0 m rm_Mdl_lay Q) 141 L [xi x] μ := fun σ hM => r_Mdl_lay_141 ⟨_, rfl, μ, hM, h⟩ (by decide) (by decide)
theorem C_lay_143 {Ω : Om} {σ0 : Sto} {m : Nat} {F : QF} {L st : List PV} {μ : Mu} {Q : Mu → Prop}  (hc : MMv Ω m M_Mdl_remember rm_Mdl_remember Q μ []) (kk : ∀ μ', Q μ' → Mw Ω σ0 m M_Mdl_lay rm_Mdl_lay F 146 L st μ') (hst : (st.map catP).sum ≤ 8 := by exact Nat.le_of_ble_eq_true rfl) : Mw Ω σ0 m M_Mdl_lay rm_Mdl_lay F 143 L (xr (some m) :: st) μ :=
  fun σ hM => c_Mdl_lay_143 (hc σ0 σ hM) hM.1.2.1 (by decide) (by decide) (by decide) (by decide) hst (fun σ' hq => by obtain ⟨μ', h1, h2⟩ := hq; exact kk μ' h2 σ' h1) (fun _ _ h => h.elim)
theorem R_lay_188 {Ω : Om} {σ0 : Sto} {m : Nat} {L : List PV} {μ : Mu} {Q : Int → Mu → Prop} {x : Int} (h : Q x μ) : Mw Ω σ0 m M_Mdl_lay rm_Mdl_lay (MQi Ω σ0 m rm_Mdl_lay Q) 188 L [xi x] μ := fun σ hM => r_Mdl_lay_188 ⟨_, rfl, μ, hM, h⟩ (by decide) (by decide)
theorem E_lay {Ω : Om} {m : Nat} {μ : Mu} {Q : Int → Mu → Prop} {v1 : Int} {v2 : Int} (h : ∀ σ0, Mw Ω σ0 m M_Mdl_lay rm_Mdl_lay (MQi Ω σ0 m rm_Mdl_lay Q) 0 [xr (some m), xi v1, xi v2, xu, xu, xu, xu, xu, xu] [] μ) : MMi Ω m M_Mdl_lay rm_Mdl_lay Q μ [xi v1, xi v2] := fun σ0 σ hM => e_Mdl_lay (h σ0 σ hM)
theorem B_treeCost_0 {Ω : Om} {σ0 : Sto} {m : Nat} {R : Room} {F : QF} {μ : Mu} {v1 : Int} {v2 : Int} (h : Mw Ω σ0 m M_Mdl_treeCost R F 3 [xr (some m), xi v1, xi v2, xu, xu, xu, xu] [xi v1, xr (some m), xr (some m)] μ) : Mw Ω σ0 m M_Mdl_treeCost R F 0 [xr (some m), xi v1, xi v2, xu, xu, xu, xu] [] μ := by
  intro σ hM
  obtain ⟨hS, hk, e⟩ := id hM
  subst e
  refine b_Mdl_treeCost_0 ?_
  exact h _ hM
theorem B_treeCost_6 {Ω : Om} {σ0 : Sto} {m : Nat} {R : Room} {F : QF} {μ : Mu} {v1 : Int} {v2 : Int} {s1 : Int} (h : Q32 s1 ∧ ((s1 = (0 : Int) → Mw Ω σ0 m M_Mdl_treeCost R F 22 [xr (some m), xi v1, xi v2, xu, xu, xu, xu] [xi 1, xr (some m)] μ) ∧ (¬ s1 = (0 : Int) → Mw Ω σ0 m M_Mdl_treeCost R F 11 [xr (some m), xi v1, xi v2, xu, xu, xu, xu] [xi v2, xr (some m), xr (some m)] μ))) : Mw Ω σ0 m M_Mdl_treeCost R F 6 [xr (some m), xi v1, xi v2, xu, xu, xu, xu] [xi s1, xr (some m)] μ := by
  intro σ hM
  obtain ⟨hS, hk, e⟩ := id hM
  subst e
  refine b_Mdl_treeCost_6 ?_
  obtain ⟨o, h⟩ := h
  refine ⟨o, ?_⟩
  refine ⟨fun c => ?_, fun c => ?_⟩
  · have h := h.1 c
    exact h _ hM
  · have h := h.2 c
    exact h _ hM
theorem B_treeCost_14 {Ω : Om} {σ0 : Sto} {m : Nat} {R : Room} {F : QF} {μ : Mu} {v1 : Int} {v2 : Int} {s1 : Int} (h : Q32 s1 ∧ ((s1 = (0 : Int) → Mw Ω σ0 m M_Mdl_treeCost R F 22 [xr (some m), xi v1, xi v2, xu, xu, xu, xu] [xi 1, xr (some m)] μ) ∧ (¬ s1 = (0 : Int) → Mw Ω σ0 m M_Mdl_treeCost R F 22 [xr (some m), xi v1, xi v2, xu, xu, xu, xu] [xi 0, xr (some m)] μ))) : Mw Ω σ0 m M_Mdl_treeCost R F 14 [xr (some m), xi v1, xi v2, xu, xu, xu, xu] [xi s1, xr (some m)] μ := by
  intro σ hM
  obtain ⟨hS, hk, e⟩ := id hM
  subst e
  refine b_Mdl_treeCost_14 ?_
  obtain ⟨o, h⟩ := h
  refine ⟨o, ?_⟩
  refine ⟨fun c => ?_, fun c => ?_⟩
  · have h := h.1 c
    exact h _ hM
  · have h := h.2 c
    exact h _ hM
theorem B_treeCost_25 {Ω : Om} {σ0 : Sto} {m : Nat} {R : Room} {F : QF} {μ : Mu} {v1 : Int} {v2 : Int} {s0 : Int} (h : Q32 s0 ∧ ((s0 = (0 : Int) → Mw Ω σ0 m M_Mdl_treeCost R F 33 [xr (some m), xi v1, xi v2, xu, xu, xu, xu] [xi v1, xi 0, xr (some m)] μ) ∧ (¬ s0 = (0 : Int) → Mw Ω σ0 m M_Mdl_treeCost R F 29 [xr (some m), xi v1, xi v2, xu, xu, xu, xu] [xi 0] μ))) : Mw Ω σ0 m M_Mdl_treeCost R F 25 [xr (some m), xi v1, xi v2, xu, xu, xu, xu] [xi s0] μ := by
  intro σ hM
  obtain ⟨hS, hk, e⟩ := id hM
  subst e
  refine b_Mdl_treeCost_25 ?_
  obtain ⟨o, h⟩ := h
  refine ⟨o, ?_⟩
  refine ⟨fun c => ?_, fun c => ?_⟩
  · have h := h.1 c
    exact h _ hM
  · have h := h.2 c
    exact h _ hM
theorem B_treeCost_36 {Ω : Om} {σ0 : Sto} {m : Nat} {R : Room} {F : QF} {μ : Mu} {v1 : Int} {v2 : Int} (h : Mw Ω σ0 m M_Mdl_treeCost R F 39 [xr (some m), xi v1, xi v2, xu, xu, xu, xu] [xi v2, xi 1, xr (some m)] μ) : Mw Ω σ0 m M_Mdl_treeCost R F 36 [xr (some m), xi v1, xi v2, xu, xu, xu, xu] [] μ := by
  intro σ hM
  obtain ⟨hS, hk, e⟩ := id hM
  subst e
  refine b_Mdl_treeCost_36 ?_
  exact h _ hM
theorem B_treeCost_42 {Ω : Om} {σ0 : Sto} {m : Nat} {R : Room} {F : QF} {μ : Mu} {v1 : Int} {v2 : Int} (h : 0 ≤ v1 ∧ v1 < 40 ∧ 0 ≤ v2 ∧ v2 < 40 ∧ Mw Ω σ0 m M_Mdl_treeCost R F 64 [xr (some m), xi v1, xi v2, xi ((mA μ 4 (v1).toNat) + 1), xi ((mA μ 4 (v2).toNat) + 1), xi 1, xu] [] μ) : Mw Ω σ0 m M_Mdl_treeCost R F 42 [xr (some m), xi v1, xi v2, xu, xu, xu, xu] [] μ := by
  intro σ hM
  obtain ⟨hS, hk, e⟩ := id hM
  subst e
  refine b_Mdl_treeCost_42 ?_
  refine ⟨hS.2.1, ?_⟩
  refine ⟨_, hS.r4, ?_⟩
  refine ⟨hS.k4, ?_⟩
  obtain ⟨o, h⟩ := h
  refine ⟨o, ?_⟩
  obtain ⟨o, h⟩ := h
  refine ⟨hS.b4 o, ?_⟩
  refine fun _ => ?_
  obtain ⟨o, h⟩ := h
  refine ⟨o, ?_⟩
  obtain ⟨o, h⟩ := h
  refine ⟨hS.b4 o, ?_⟩
  refine fun _ => ?_
  exact h _ hM
theorem B_treeCost_64 {Ω : Om} {σ0 : Sto} {m : Nat} {R : Room} {F : QF} {μ : Mu} {v1 : Int} {v2 : Int} {v3 : Int} {v4 : Int} {v5 : Int} (h : Q32 v5 ∧ Q32 v3 ∧ ((v3 < v5 → 0 ≤ ((22 * v3) + v4) ∧ ((22 * v3) + v4) < 484 ∧ Mw Ω σ0 m M_Mdl_treeCost R F 135 [xr (some m), xi v1, xi v2, xi v3, xi v4, xi v5, xu] [xi (mA μ 35 ((22 * v3) + v4).toNat)] μ) ∧ (¬ v3 < v5 → Mw Ω σ0 m M_Mdl_treeCost R F 73 [xr (some m), xi v1, xi v2, xi v3, xi v4, xi v5, xi 1] [] μ))) : Mw Ω σ0 m M_Mdl_treeCost R F 64 [xr (some m), xi v1, xi v2, xi v3, xi v4, xi v5, xu] [] μ := by
  intro σ hM
  obtain ⟨hS, hk, e⟩ := id hM
  subst e
  refine b_Mdl_treeCost_64 ?_
  obtain ⟨o, h⟩ := h
  refine ⟨o, ?_⟩
  obtain ⟨o, h⟩ := h
  refine ⟨o, ?_⟩
  refine ⟨fun c => ?_, fun c => ?_⟩
  · have h := h.1 c
    refine ⟨hS.2.1, ?_⟩
    refine ⟨_, hS.r35, ?_⟩
    refine ⟨hS.k35, ?_⟩
    obtain ⟨o, h⟩ := h
    refine ⟨o, ?_⟩
    obtain ⟨o, h⟩ := h
    refine ⟨hS.b35 o, ?_⟩
    refine fun _ => ?_
    exact h _ hM
  · have h := h.2 c
    exact h _ hM
theorem B_treeCost_73 {Ω : Om} {σ0 : Sto} {m : Nat} {R : Room} {F : QF} {μ : Mu} {v1 : Int} {v2 : Int} {v3 : Int} {v4 : Int} {v5 : Int} {v6 : Int} (h : Q32 v6 ∧ Q32 v4 ∧ ((v4 < v6 → Mw Ω σ0 m M_Mdl_treeCost R F 64 [xr (some m), xi v1, xi v2, xi v3, xi v4, xi (v5 + 1), xu] [] μ) ∧ (¬ v4 < v6 → Mw Ω σ0 m M_Mdl_treeCost R F 85 [xr (some m), xi v1, xi v2, xi v3, xi v4, xi v5, xi v6] [xi v3, xi v5, xi 0, xr (some m)] μ))) : Mw Ω σ0 m M_Mdl_treeCost R F 73 [xr (some m), xi v1, xi v2, xi v3, xi v4, xi v5, xi v6] [] μ := by
  intro σ hM
  obtain ⟨hS, hk, e⟩ := id hM
  subst e
  refine b_Mdl_treeCost_73 ?_
  obtain ⟨o, h⟩ := h
  refine ⟨o, ?_⟩
  obtain ⟨o, h⟩ := h
  refine ⟨o, ?_⟩
  refine ⟨fun c => ?_, fun c => ?_⟩
  · have h := h.1 c
    exact h _ hM
  · have h := h.2 c
    exact h _ hM
theorem B_treeCost_88 {Ω : Om} {σ0 : Sto} {m : Nat} {R : Room} {F : QF} {μ : Mu} {v1 : Int} {v2 : Int} {v3 : Int} {v4 : Int} {v5 : Int} {v6 : Int} {s0 : Int} (h : Q32 s0 ∧ ((s0 = (0 : Int) → Mw Ω σ0 m M_Mdl_treeCost R F 73 [xr (some m), xi v1, xi v2, xi v3, xi v4, xi v5, xi (v6 + 1)] [] μ) ∧ (¬ s0 = (0 : Int) → Mw Ω σ0 m M_Mdl_treeCost R F 97 [xr (some m), xi v1, xi v2, xi v3, xi v4, xi v5, xi v6] [xi v4, xi v6, xi 1, xr (some m)] μ))) : Mw Ω σ0 m M_Mdl_treeCost R F 88 [xr (some m), xi v1, xi v2, xi v3, xi v4, xi v5, xi v6] [xi s0] μ := by
  intro σ hM
  obtain ⟨hS, hk, e⟩ := id hM
  subst e
  refine b_Mdl_treeCost_88 ?_
  obtain ⟨o, h⟩ := h
  refine ⟨o, ?_⟩
  refine ⟨fun c => ?_, fun c => ?_⟩
  · have h := h.1 c
    exact h _ hM
  · have h := h.2 c
    exact h _ hM
theorem B_treeCost_100 {Ω : Om} {σ0 : Sto} {m : Nat} {R : Room} {F : QF} {μ : Mu} {v1 : Int} {v2 : Int} {v3 : Int} {v4 : Int} {v5 : Int} {v6 : Int} {s0 : Int} (h : Q32 s0 ∧ ((s0 = (0 : Int) → Mw Ω σ0 m M_Mdl_treeCost R F 73 [xr (some m), xi v1, xi v2, xi v3, xi v4, xi v5, xi (v6 + 1)] [] μ) ∧ (¬ s0 = (0 : Int) → Mw Ω σ0 m M_Mdl_treeCost R F 108 [xr (some m), xi v1, xi v2, xi v3, xi v4, xi v5, xi v6] [xi v6, xi v5, xr (some m)] μ))) : Mw Ω σ0 m M_Mdl_treeCost R F 100 [xr (some m), xi v1, xi v2, xi v3, xi v4, xi v5, xi v6] [xi s0] μ := by
  intro σ hM
  obtain ⟨hS, hk, e⟩ := id hM
  subst e
  refine b_Mdl_treeCost_100 ?_
  obtain ⟨o, h⟩ := h
  refine ⟨o, ?_⟩
  refine ⟨fun c => ?_, fun c => ?_⟩
  · have h := h.1 c
    exact h _ hM
  · have h := h.2 c
    exact h _ hM
theorem B_treeCost_111 {Ω : Om} {σ0 : Sto} {m : Nat} {R : Room} {F : QF} {μ : Mu} {v1 : Int} {v2 : Int} {v3 : Int} {v4 : Int} {v5 : Int} {v6 : Int} (h : Mw Ω σ0 m M_Mdl_treeCost R F 73 [xr (some m), xi v1, xi v2, xi v3, xi v4, xi v5, xi (v6 + 1)] [] μ) : Mw Ω σ0 m M_Mdl_treeCost R F 111 [xr (some m), xi v1, xi v2, xi v3, xi v4, xi v5, xi v6] [] μ := by
  intro σ hM
  obtain ⟨hS, hk, e⟩ := id hM
  subst e
  refine b_Mdl_treeCost_111 ?_
  exact h _ hM
theorem C_treeCost_3 {Ω : Om} {σ0 : Sto} {m : Nat} {F : QF} {L st : List PV} {μ : Mu} {Q : Int → Mu → Prop} {x0 : Int} (hc : MMi Ω m M_Mdl_isVersion rm_Mdl_isVersion Q μ [xi x0]) (kk : ∀ y μ', Q y μ' → Mw Ω σ0 m M_Mdl_treeCost rm_Mdl_treeCost F 6 L (xi y :: st) μ') (hst : (st.map catP).sum ≤ 8 := by exact Nat.le_of_ble_eq_true rfl) : Mw Ω σ0 m M_Mdl_treeCost rm_Mdl_treeCost F 3 L (xi x0 :: xr (some m) :: st) μ :=
  fun σ hM => c_Mdl_treeCost_3 (hc σ0 σ hM) hM.1.2.1 (by decide) (by decide) (by decide) (by decide) hst (fun y σ' hq => by obtain ⟨μ', h1, h2⟩ := hq; exact kk y μ' h2 σ' h1) (fun _ _ h => h.elim)
theorem C_treeCost_11 {Ω : Om} {σ0 : Sto} {m : Nat} {F : QF} {L st : List PV} {μ : Mu} {Q : Int → Mu → Prop} {x0 : Int} (hc : MMi Ω m M_Mdl_isVersion rm_Mdl_isVersion Q μ [xi x0]) (kk : ∀ y μ', Q y μ' → Mw Ω σ0 m M_Mdl_treeCost rm_Mdl_treeCost F 14 L (xi y :: st) μ') (hst : (st.map catP).sum ≤ 8 := by exact Nat.le_of_ble_eq_true rfl) : Mw Ω σ0 m M_Mdl_treeCost rm_Mdl_treeCost F 11 L (xi x0 :: xr (some m) :: st) μ :=
  fun σ hM => c_Mdl_treeCost_11 (hc σ0 σ hM) hM.1.2.1 (by decide) (by decide) (by decide) (by decide) hst (fun y σ' hq => by obtain ⟨μ', h1, h2⟩ := hq; exact kk y μ' h2 σ' h1) (fun _ _ h => h.elim)
theorem C_treeCost_22 {Ω : Om} {σ0 : Sto} {m : Nat} {F : QF} {L st : List PV} {μ : Mu} {Q : Int → Mu → Prop} {x0 : Int} (hc : MMi Ω m M_Mdl_refused rm_Mdl_refused Q μ [xi x0]) (kk : ∀ y μ', Q y μ' → Mw Ω σ0 m M_Mdl_treeCost rm_Mdl_treeCost F 25 L (xi y :: st) μ') (hst : (st.map catP).sum ≤ 8 := by exact Nat.le_of_ble_eq_true rfl) : Mw Ω σ0 m M_Mdl_treeCost rm_Mdl_treeCost F 22 L (xi x0 :: xr (some m) :: st) μ :=
  fun σ hM => c_Mdl_treeCost_22 (hc σ0 σ hM) hM.1.2.1 (by decide) (by decide) (by decide) (by decide) hst (fun y σ' hq => by obtain ⟨μ', h1, h2⟩ := hq; exact kk y μ' h2 σ' h1) (fun _ _ h => h.elim)
theorem R_treeCost_29 {Ω : Om} {σ0 : Sto} {m : Nat} {L : List PV} {μ : Mu} {Q : Int → Mu → Prop} {x : Int} (h : Q x μ) : Mw Ω σ0 m M_Mdl_treeCost rm_Mdl_treeCost (MQi Ω σ0 m rm_Mdl_treeCost Q) 29 L [xi x] μ := fun σ hM => r_Mdl_treeCost_29 ⟨_, rfl, μ, hM, h⟩ (by decide) (by decide)
theorem C_treeCost_33 {Ω : Om} {σ0 : Sto} {m : Nat} {F : QF} {L st : List PV} {μ : Mu} {Q : Mu → Prop} {x0 : Int} {x1 : Int} (hc : MMv Ω m M_Mdl_plant rm_Mdl_plant Q μ [xi x0, xi x1]) (kk : ∀ μ', Q μ' → Mw Ω σ0 m M_Mdl_treeCost rm_Mdl_treeCost F 36 L st μ') (hst : (st.map catP).sum ≤ 8 := by exact Nat.le_of_ble_eq_true rfl) : Mw Ω σ0 m M_Mdl_treeCost rm_Mdl_treeCost F 33 L (xi x1 :: xi x0 :: xr (some m) :: st) μ :=
  fun σ hM => c_Mdl_treeCost_33 (hc σ0 σ hM) hM.1.2.1 (by decide) (by decide) (by decide) (by decide) hst (fun σ' hq => by obtain ⟨μ', h1, h2⟩ := hq; exact kk μ' h2 σ' h1) (fun _ _ h => h.elim)
theorem C_treeCost_39 {Ω : Om} {σ0 : Sto} {m : Nat} {F : QF} {L st : List PV} {μ : Mu} {Q : Mu → Prop} {x0 : Int} {x1 : Int} (hc : MMv Ω m M_Mdl_plant rm_Mdl_plant Q μ [xi x0, xi x1]) (kk : ∀ μ', Q μ' → Mw Ω σ0 m M_Mdl_treeCost rm_Mdl_treeCost F 42 L st μ') (hst : (st.map catP).sum ≤ 8 := by exact Nat.le_of_ble_eq_true rfl) : Mw Ω σ0 m M_Mdl_treeCost rm_Mdl_treeCost F 39 L (xi x1 :: xi x0 :: xr (some m) :: st) μ :=
  fun σ hM => c_Mdl_treeCost_39 (hc σ0 σ hM) hM.1.2.1 (by decide) (by decide) (by decide) (by decide) hst (fun σ' hq => by obtain ⟨μ', h1, h2⟩ := hq; exact kk μ' h2 σ' h1) (fun _ _ h => h.elim)
theorem C_treeCost_85 {Ω : Om} {σ0 : Sto} {m : Nat} {F : QF} {L st : List PV} {μ : Mu} {Q : Int → Mu → Prop} {x0 : Int} {x1 : Int} {x2 : Int} (hc : MMi Ω m M_Mdl_isKey rm_Mdl_isKey Q μ [xi x0, xi x1, xi x2]) (kk : ∀ y μ', Q y μ' → Mw Ω σ0 m M_Mdl_treeCost rm_Mdl_treeCost F 88 L (xi y :: st) μ') (hst : (st.map catP).sum ≤ 8 := by exact Nat.le_of_ble_eq_true rfl) : Mw Ω σ0 m M_Mdl_treeCost rm_Mdl_treeCost F 85 L (xi x2 :: xi x1 :: xi x0 :: xr (some m) :: st) μ :=
  fun σ hM => c_Mdl_treeCost_85 (hc σ0 σ hM) hM.1.2.1 (by decide) (by decide) (by decide) (by decide) hst (fun y σ' hq => by obtain ⟨μ', h1, h2⟩ := hq; exact kk y μ' h2 σ' h1) (fun _ _ h => h.elim)
theorem C_treeCost_97 {Ω : Om} {σ0 : Sto} {m : Nat} {F : QF} {L st : List PV} {μ : Mu} {Q : Int → Mu → Prop} {x0 : Int} {x1 : Int} {x2 : Int} (hc : MMi Ω m M_Mdl_isKey rm_Mdl_isKey Q μ [xi x0, xi x1, xi x2]) (kk : ∀ y μ', Q y μ' → Mw Ω σ0 m M_Mdl_treeCost rm_Mdl_treeCost F 100 L (xi y :: st) μ') (hst : (st.map catP).sum ≤ 8 := by exact Nat.le_of_ble_eq_true rfl) : Mw Ω σ0 m M_Mdl_treeCost rm_Mdl_treeCost F 97 L (xi x2 :: xi x1 :: xi x0 :: xr (some m) :: st) μ :=
  fun σ hM => c_Mdl_treeCost_97 (hc σ0 σ hM) hM.1.2.1 (by decide) (by decide) (by decide) (by decide) hst (fun y σ' hq => by obtain ⟨μ', h1, h2⟩ := hq; exact kk y μ' h2 σ' h1) (fun _ _ h => h.elim)
theorem C_treeCost_108 {Ω : Om} {σ0 : Sto} {m : Nat} {F : QF} {L st : List PV} {μ : Mu} {Q : Mu → Prop} {x0 : Int} {x1 : Int} (hc : MMv Ω m M_Mdl_compareTrees rm_Mdl_compareTrees Q μ [xi x0, xi x1]) (kk : ∀ μ', Q μ' → Mw Ω σ0 m M_Mdl_treeCost rm_Mdl_treeCost F 111 L st μ') (hst : (st.map catP).sum ≤ 8 := by exact Nat.le_of_ble_eq_true rfl) : Mw Ω σ0 m M_Mdl_treeCost rm_Mdl_treeCost F 108 L (xi x1 :: xi x0 :: xr (some m) :: st) μ :=
  fun σ hM => c_Mdl_treeCost_108 (hc σ0 σ hM) hM.1.2.1 (by decide) (by decide) (by decide) (by decide) hst (fun σ' hq => by obtain ⟨μ', h1, h2⟩ := hq; exact kk μ' h2 σ' h1) (fun _ _ h => h.elim)
theorem R_treeCost_135 {Ω : Om} {σ0 : Sto} {m : Nat} {L : List PV} {μ : Mu} {Q : Int → Mu → Prop} {x : Int} (h : Q x μ) : Mw Ω σ0 m M_Mdl_treeCost rm_Mdl_treeCost (MQi Ω σ0 m rm_Mdl_treeCost Q) 135 L [xi x] μ := fun σ hM => r_Mdl_treeCost_135 ⟨_, rfl, μ, hM, h⟩ (by decide) (by decide)
theorem E_treeCost {Ω : Om} {m : Nat} {μ : Mu} {Q : Int → Mu → Prop} {v1 : Int} {v2 : Int} (h : ∀ σ0, Mw Ω σ0 m M_Mdl_treeCost rm_Mdl_treeCost (MQi Ω σ0 m rm_Mdl_treeCost Q) 0 [xr (some m), xi v1, xi v2, xu, xu, xu, xu] [] μ) : MMi Ω m M_Mdl_treeCost rm_Mdl_treeCost Q μ [xi v1, xi v2] := fun σ0 σ hM => e_Mdl_treeCost (h σ0 σ hM)
theorem B_undo_0 {Ω : Om} {σ0 : Sto} {m : Nat} {R : Room} {F : QF} {μ : Mu}  (h : (((mI μ 11) = (0 : Int) → Mw Ω σ0 m M_Mdl_undo R F 27 [xr (some m), xu] [xi 1, xr (some m)] μ) ∧ (¬ (mI μ 11) = (0 : Int) → (((mI μ 21) ≤ (0 : Int) → Mw Ω σ0 m M_Mdl_undo R F 27 [xr (some m), xu] [xi 1, xr (some m)] μ) ∧ (¬ (mI μ 21) ≤ (0 : Int) → Mw Ω σ0 m M_Mdl_undo R F 16 [xr (some m), xu] [xr (some m), xr (some m)] μ))))) : Mw Ω σ0 m M_Mdl_undo R F 0 [xr (some m), xu] [] μ := by
  intro σ hM
  obtain ⟨hS, hk, e⟩ := id hM
  subst e
  refine b_Mdl_undo_0 ?_
  refine ⟨hS.2.1, ?_⟩
  refine fun _ => ?_
  refine ⟨fun c => ?_, fun c => ?_⟩
  · have h := h.1 c
    exact h _ hM
  · have h := h.2 c
    refine fun _ => ?_
    refine ⟨fun c => ?_, fun c => ?_⟩
    · have h := h.1 c
      exact h _ hM
    · have h := h.2 c
      exact h _ hM
theorem B_undo_19 {Ω : Om} {σ0 : Sto} {m : Nat} {R : Room} {F : QF} {μ : Mu} {s1 : Int} (h : Q32 s1 ∧ ((s1 = (0 : Int) → Mw Ω σ0 m M_Mdl_undo R F 27 [xr (some m), xu] [xi 1, xr (some m)] μ) ∧ (¬ s1 = (0 : Int) → Mw Ω σ0 m M_Mdl_undo R F 27 [xr (some m), xu] [xi 0, xr (some m)] μ))) : Mw Ω σ0 m M_Mdl_undo R F 19 [xr (some m), xu] [xi s1, xr (some m)] μ := by
  intro σ hM
  obtain ⟨hS, hk, e⟩ := id hM
  subst e
  refine b_Mdl_undo_19 ?_
  obtain ⟨o, h⟩ := h
  refine ⟨o, ?_⟩
  refine ⟨fun c => ?_, fun c => ?_⟩
  · have h := h.1 c
    exact h _ hM
  · have h := h.2 c
    exact h _ hM
theorem B_undo_30 {Ω : Om} {σ0 : Sto} {m : Nat} {R : Room} {F : QF} {μ : Mu} {s0 : Int} (h : Q32 s0 ∧ ((s0 = (0 : Int) → Q32 ((mI μ 21) - 1) ∧ Mw Ω σ0 m M_Mdl_undo R F 45 [xr (some m), xu] [] (wI μ 21 ((mI μ 21) - 1))) ∧ (¬ s0 = (0 : Int) → Mw Ω σ0 m M_Mdl_undo R F 34 [xr (some m), xu] [xi 0] μ))) : Mw Ω σ0 m M_Mdl_undo R F 30 [xr (some m), xu] [xi s0] μ := by
  intro σ hM
  obtain ⟨hS, hk, e⟩ := id hM
  subst e
  refine b_Mdl_undo_30 ?_
  obtain ⟨o, h⟩ := h
  refine ⟨o, ?_⟩
  refine ⟨fun c => ?_, fun c => ?_⟩
  · have h := h.1 c
    refine ⟨hS.2.1, ?_⟩
    refine fun _ => ?_
    obtain ⟨o, h⟩ := h
    refine ⟨o, ?_⟩
    exact h _ (MR.uI (f := 21) hM)
  · have h := h.2 c
    exact h _ hM
theorem B_undo_45 {Ω : Om} {σ0 : Sto} {m : Nat} {R : Room} {F : QF} {μ : Mu}  (h : 0 ≤ (mI μ 21) ∧ (mI μ 21) < 640 ∧ Mw Ω σ0 m M_Mdl_undo R F 58 [xr (some m), xu] [] (wI μ 15 (mA μ 12 (mI μ 21).toNat))) : Mw Ω σ0 m M_Mdl_undo R F 45 [xr (some m), xu] [] μ := by
  intro σ hM
  obtain ⟨hS, hk, e⟩ := id hM
  subst e
  refine b_Mdl_undo_45 ?_
  refine ⟨hS.2.1, ?_⟩
  refine ⟨_, hS.r12, ?_⟩
  refine fun _ => ?_
  refine ⟨hS.k12, ?_⟩
  obtain ⟨o, h⟩ := h
  refine ⟨o, ?_⟩
  obtain ⟨o, h⟩ := h
  refine ⟨hS.b12 o, ?_⟩
  refine fun _ => ?_
  exact h _ (MR.uI (f := 15) hM)
theorem B_undo_58 {Ω : Om} {σ0 : Sto} {m : Nat} {R : Room} {F : QF} {μ : Mu}  (h : 0 ≤ (mI μ 21) ∧ (mI μ 21) < 640 ∧ Mw Ω σ0 m M_Mdl_undo R F 73 [xr (some m), xi 0] [] (wI μ 18 (mA μ 13 (mI μ 21).toNat))) : Mw Ω σ0 m M_Mdl_undo R F 58 [xr (some m), xu] [] μ := by
  intro σ hM
  obtain ⟨hS, hk, e⟩ := id hM
  subst e
  refine b_Mdl_undo_58 ?_
  refine ⟨hS.2.1, ?_⟩
  refine ⟨_, hS.r13, ?_⟩
  refine fun _ => ?_
  refine ⟨hS.k13, ?_⟩
  obtain ⟨o, h⟩ := h
  refine ⟨o, ?_⟩
  obtain ⟨o, h⟩ := h
  refine ⟨hS.b13 o, ?_⟩
  refine fun _ => ?_
  exact h _ (MR.uI (f := 18) hM)
theorem B_undo_73 {Ω : Om} {σ0 : Sto} {m : Nat} {R : Room} {F : QF} {μ : Mu} {v1 : Int} (h : Q32 v1 ∧ (((mI μ 15) ≤ v1 → Mw Ω σ0 m M_Mdl_undo R F 108 [xr (some m), xi v1] [xr (some m)] μ) ∧ (¬ (mI μ 15) ≤ v1 → 0 ≤ ((48 * (mI μ 21)) + v1) ∧ ((48 * (mI μ 21)) + v1) < 30720 ∧ 0 ≤ v1 ∧ v1 < 64 ∧ Mw Ω σ0 m M_Mdl_undo R F 73 [xr (some m), xi (v1 + 1)] [] (wA μ 9 (v1).toNat (mA μ 14 ((48 * (mI μ 21)) + v1).toNat))))) : Mw Ω σ0 m M_Mdl_undo R F 73 [xr (some m), xi v1] [] μ := by
  intro σ hM
  obtain ⟨hS, hk, e⟩ := id hM
  subst e
  refine b_Mdl_undo_73 ?_
  refine ⟨hS.2.1, ?_⟩
  refine fun _ => ?_
  obtain ⟨o, h⟩ := h
  refine ⟨o, ?_⟩
  refine ⟨fun c => ?_, fun c => ?_⟩
  · have h := h.1 c
    exact h _ hM
  · have h := h.2 c
    refine ⟨_, hS.r9, ?_⟩
    refine ⟨_, hS.r14, ?_⟩
    refine fun _ => ?_
    refine ⟨hS.k14, ?_⟩
    obtain ⟨o, h⟩ := h
    refine ⟨o, ?_⟩
    obtain ⟨o, h⟩ := h
    refine ⟨hS.b14 o, ?_⟩
    refine fun _ => ?_
    refine ⟨hS.k9, ?_⟩
    obtain ⟨o, h⟩ := h
    refine ⟨o, ?_⟩
    obtain ⟨o, h⟩ := h
    refine ⟨hS.b9 o, ?_⟩
    exact h _ (MR.vI (j := 9) (by decide) hM)
theorem C_undo_16 {Ω : Om} {σ0 : Sto} {m : Nat} {F : QF} {L st : List PV} {μ : Mu} {Q : Int → Mu → Prop}  (hc : MMi Ω m M_Mdl_isSettled rm_Mdl_isSettled Q μ []) (kk : ∀ y μ', Q y μ' → Mw Ω σ0 m M_Mdl_undo rm_Mdl_undo F 19 L (xi y :: st) μ') (hst : (st.map catP).sum ≤ 8 := by exact Nat.le_of_ble_eq_true rfl) : Mw Ω σ0 m M_Mdl_undo rm_Mdl_undo F 16 L (xr (some m) :: st) μ :=
  fun σ hM => c_Mdl_undo_16 (hc σ0 σ hM) hM.1.2.1 (by decide) (by decide) (by decide) (by decide) hst (fun y σ' hq => by obtain ⟨μ', h1, h2⟩ := hq; exact kk y μ' h2 σ' h1) (fun _ _ h => h.elim)
theorem C_undo_27 {Ω : Om} {σ0 : Sto} {m : Nat} {F : QF} {L st : List PV} {μ : Mu} {Q : Int → Mu → Prop} {x0 : Int} (hc : MMi Ω m M_Mdl_refused rm_Mdl_refused Q μ [xi x0]) (kk : ∀ y μ', Q y μ' → Mw Ω σ0 m M_Mdl_undo rm_Mdl_undo F 30 L (xi y :: st) μ') (hst : (st.map catP).sum ≤ 8 := by exact Nat.le_of_ble_eq_true rfl) : Mw Ω σ0 m M_Mdl_undo rm_Mdl_undo F 27 L (xi x0 :: xr (some m) :: st) μ :=
  fun σ hM => c_Mdl_undo_27 (hc σ0 σ hM) hM.1.2.1 (by decide) (by decide) (by decide) (by decide) hst (fun y σ' hq => by obtain ⟨μ', h1, h2⟩ := hq; exact kk y μ' h2 σ' h1) (fun _ _ h => h.elim)
theorem R_undo_34 {Ω : Om} {σ0 : Sto} {m : Nat} {L : List PV} {μ : Mu} {Q : Int → Mu → Prop} {x : Int} (h : Q x μ) : Mw Ω σ0 m M_Mdl_undo rm_Mdl_undo (MQi Ω σ0 m rm_Mdl_undo Q) 34 L [xi x] μ := fun σ hM => r_Mdl_undo_34 ⟨_, rfl, μ, hM, h⟩ (by decide) (by decide)
theorem C_undo_108 {Ω : Om} {σ0 : Sto} {m : Nat} {F : QF} {L st : List PV} {μ : Mu} {Q : Int → Mu → Prop}  (hc : MMi Ω m M_Mdl_lineCount rm_Mdl_lineCount Q μ []) (kk : ∀ y μ', Q y μ' → Mw Ω σ0 m M_Mdl_undo rm_Mdl_undo F 111 L (xi y :: st) μ') (hst : (st.map catP).sum ≤ 8 := by exact Nat.le_of_ble_eq_true rfl) : Mw Ω σ0 m M_Mdl_undo rm_Mdl_undo F 108 L (xr (some m) :: st) μ :=
  fun σ hM => c_Mdl_undo_108 (hc σ0 σ hM) hM.1.2.1 (by decide) (by decide) (by decide) (by decide) hst (fun y σ' hq => by obtain ⟨μ', h1, h2⟩ := hq; exact kk y μ' h2 σ' h1) (fun _ _ h => h.elim)
theorem R_undo_111 {Ω : Om} {σ0 : Sto} {m : Nat} {L : List PV} {μ : Mu} {Q : Int → Mu → Prop} {x : Int} (h : Q x μ) : Mw Ω σ0 m M_Mdl_undo rm_Mdl_undo (MQi Ω σ0 m rm_Mdl_undo Q) 111 L [xi x] μ := fun σ hM => r_Mdl_undo_111 ⟨_, rfl, μ, hM, h⟩ (by decide) (by decide)
theorem E_undo {Ω : Om} {m : Nat} {μ : Mu} {Q : Int → Mu → Prop}  (h : ∀ σ0, Mw Ω σ0 m M_Mdl_undo rm_Mdl_undo (MQi Ω σ0 m rm_Mdl_undo Q) 0 [xr (some m), xu] [] μ) : MMi Ω m M_Mdl_undo rm_Mdl_undo Q μ [] := fun σ0 σ hM => e_Mdl_undo (h σ0 σ hM)
theorem B_review_0 {Ω : Om} {σ0 : Sto} {m : Nat} {R : Room} {F : QF} {μ : Mu} {v1 : Int} {v2 : Int} (h : Mw Ω σ0 m M_Mdl_review R F 2 [xr (some m), xi v1, xi v2, xu] [xi v1, xr (some m)] μ) : Mw Ω σ0 m M_Mdl_review R F 0 [xr (some m), xi v1, xi v2, xu] [] μ := by
  intro σ hM
  obtain ⟨hS, hk, e⟩ := id hM
  subst e
  refine b_Mdl_review_0 ?_
  exact h _ hM
theorem B_review_5 {Ω : Om} {σ0 : Sto} {m : Nat} {R : Room} {F : QF} {μ : Mu} {v1 : Int} {v2 : Int} {s0 : Int} (h : Q32 s0 ∧ ((s0 = (0 : Int) → Mw Ω σ0 m M_Mdl_review R F 54 [xr (some m), xi v1, xi v2, xi 0] [xi 1, xr (some m)] μ) ∧ (¬ s0 = (0 : Int) → Q32 v1 ∧ ((v1 = (0 : Int) → Mw Ω σ0 m M_Mdl_review R F 54 [xr (some m), xi v1, xi v2, xi 0] [xi 1, xr (some m)] μ) ∧ (¬ v1 = (0 : Int) → Q32 v2 ∧ ((v2 = (-1 : Int) → ((¬ (mI μ 38) = (20 : Int) → Mw Ω σ0 m M_Mdl_review R F 54 [xr (some m), xi v1, xi v2, xi 1] [xi 0, xr (some m)] μ) ∧ ((mI μ 38) = (20 : Int) → Mw Ω σ0 m M_Mdl_review R F 54 [xr (some m), xi v1, xi v2, xi 1] [xi 2, xr (some m)] μ))) ∧ (¬ v2 = (-1 : Int) → Mw Ω σ0 m M_Mdl_review R F 19 [xr (some m), xi v1, xi v2, xu] [xi v2, xr (some m)] μ))))))) : Mw Ω σ0 m M_Mdl_review R F 5 [xr (some m), xi v1, xi v2, xu] [xi s0] μ := by
  intro σ hM
  obtain ⟨hS, hk, e⟩ := id hM
  subst e
  refine b_Mdl_review_5 ?_
  obtain ⟨o, h⟩ := h
  refine ⟨o, ?_⟩
  refine ⟨fun c => ?_, fun c => ?_⟩
  · have h := h.1 c
    exact h _ hM
  · have h := h.2 c
    obtain ⟨o, h⟩ := h
    refine ⟨o, ?_⟩
    refine ⟨fun c => ?_, fun c => ?_⟩
    · have h := h.1 c
      exact h _ hM
    · have h := h.2 c
      obtain ⟨o, h⟩ := h
      refine ⟨o, ?_⟩
      refine ⟨fun c => ?_, fun c => ?_⟩
      · have h := h.1 c
        refine ⟨hS.2.1, ?_⟩
        refine fun _ => ?_
        refine ⟨fun c => ?_, fun c => ?_⟩
        · have h := h.1 c
          exact h _ hM
        · have h := h.2 c
          exact h _ hM
      · have h := h.2 c
        exact h _ hM
theorem B_review_22 {Ω : Om} {σ0 : Sto} {m : Nat} {R : Room} {F : QF} {μ : Mu} {v1 : Int} {v2 : Int} {s0 : Int} (h : Q32 s0 ∧ ((s0 = (0 : Int) → Mw Ω σ0 m M_Mdl_review R F 54 [xr (some m), xi v1, xi v2, xi 0] [xi 1, xr (some m)] μ) ∧ (¬ s0 = (0 : Int) → ((¬ (mI μ 38) = (20 : Int) → Mw Ω σ0 m M_Mdl_review R F 54 [xr (some m), xi v1, xi v2, xi 1] [xi 0, xr (some m)] μ) ∧ ((mI μ 38) = (20 : Int) → Mw Ω σ0 m M_Mdl_review R F 54 [xr (some m), xi v1, xi v2, xi 1] [xi 2, xr (some m)] μ))))) : Mw Ω σ0 m M_Mdl_review R F 22 [xr (some m), xi v1, xi v2, xu] [xi s0] μ := by
  intro σ hM
  obtain ⟨hS, hk, e⟩ := id hM
  subst e
  refine b_Mdl_review_22 ?_
  obtain ⟨o, h⟩ := h
  refine ⟨o, ?_⟩
  refine ⟨fun c => ?_, fun c => ?_⟩
  · have h := h.1 c
    exact h _ hM
  · have h := h.2 c
    refine ⟨hS.2.1, ?_⟩
    refine fun _ => ?_
    refine ⟨fun c => ?_, fun c => ?_⟩
    · have h := h.1 c
      exact h _ hM
    · have h := h.2 c
      exact h _ hM
theorem B_review_57 {Ω : Om} {σ0 : Sto} {m : Nat} {R : Room} {F : QF} {μ : Mu} {v1 : Int} {v2 : Int} {v3 : Int} {s0 : Int} (h : Q32 s0 ∧ ((s0 = (0 : Int) → 0 ≤ (mI μ 38) ∧ (mI μ 38) < 20 ∧ Q32 v1 ∧ 0 ≤ (mI μ 38) ∧ (mI μ 38) < 20 ∧ Q32 v2 ∧ Q32 ((mI μ 38) + 1) ∧ Mw Ω σ0 m M_Mdl_review R F 92 [xr (some m), xi v1, xi v2, xi v3] [] (wI (wA (wA μ 24 (mI μ 38).toNat v1) 25 (mI μ 38).toNat v2) 38 ((mI μ 38) + 1))) ∧ (¬ s0 = (0 : Int) → Mw Ω σ0 m M_Mdl_review R F 61 [xr (some m), xi v1, xi v2, xi v3] [xi 0] μ))) : Mw Ω σ0 m M_Mdl_review R F 57 [xr (some m), xi v1, xi v2, xi v3] [xi s0] μ := by
  intro σ hM
  obtain ⟨hS, hk, e⟩ := id hM
  subst e
  refine b_Mdl_review_57 ?_
  obtain ⟨o, h⟩ := h
  refine ⟨o, ?_⟩
  refine ⟨fun c => ?_, fun c => ?_⟩
  · have h := h.1 c
    refine ⟨hS.2.1, ?_⟩
    refine ⟨_, hS.r24, ?_⟩
    refine fun _ => ?_
    refine ⟨hS.k24, ?_⟩
    obtain ⟨o, h⟩ := h
    refine ⟨o, ?_⟩
    obtain ⟨o, h⟩ := h
    refine ⟨hS.b24 o, ?_⟩
    obtain ⟨o, h⟩ := h
    refine ⟨o, ?_⟩
    refine ⟨_, hS.r25, ?_⟩
    refine fun _ => ?_
    refine ⟨hS.k25, ?_⟩
    obtain ⟨o, h⟩ := h
    refine ⟨o, ?_⟩
    obtain ⟨o, h⟩ := h
    refine ⟨hS.b25 o, ?_⟩
    obtain ⟨o, h⟩ := h
    refine ⟨o, ?_⟩
    refine fun _ => ?_
    obtain ⟨o, h⟩ := h
    refine ⟨o, ?_⟩
    exact h _ (MR.uI (f := 38) (MR.vI (j := 25) (by decide) (MR.vI (j := 24) (by decide) hM)))
  · have h := h.2 c
    exact h _ hM
theorem B_review_92 {Ω : Om} {σ0 : Sto} {m : Nat} {R : Room} {F : QF} {μ : Mu} {v1 : Int} {v2 : Int} {v3 : Int} (h : Mw Ω σ0 m M_Mdl_review R F 98 [xr (some m), xi v1, xi v2, xi v3] [xi ((mI μ 38) - 1)] μ) : Mw Ω σ0 m M_Mdl_review R F 92 [xr (some m), xi v1, xi v2, xi v3] [] μ := by
  intro σ hM
  obtain ⟨hS, hk, e⟩ := id hM
  subst e
  refine b_Mdl_review_92 ?_
  refine ⟨hS.2.1, ?_⟩
  refine fun _ => ?_
  exact h _ hM
theorem C_review_2 {Ω : Om} {σ0 : Sto} {m : Nat} {F : QF} {L st : List PV} {μ : Mu} {Q : Int → Mu → Prop} {x0 : Int} (hc : MMi Ω m M_Mdl_isVersion rm_Mdl_isVersion Q μ [xi x0]) (kk : ∀ y μ', Q y μ' → Mw Ω σ0 m M_Mdl_review rm_Mdl_review F 5 L (xi y :: st) μ') (hst : (st.map catP).sum ≤ 8 := by exact Nat.le_of_ble_eq_true rfl) : Mw Ω σ0 m M_Mdl_review rm_Mdl_review F 2 L (xi x0 :: xr (some m) :: st) μ :=
  fun σ hM => c_Mdl_review_2 (hc σ0 σ hM) hM.1.2.1 (by decide) (by decide) (by decide) (by decide) hst (fun y σ' hq => by obtain ⟨μ', h1, h2⟩ := hq; exact kk y μ' h2 σ' h1) (fun _ _ h => h.elim)
theorem C_review_19 {Ω : Om} {σ0 : Sto} {m : Nat} {F : QF} {L st : List PV} {μ : Mu} {Q : Int → Mu → Prop} {x0 : Int} (hc : MMi Ω m M_Mdl_isReview rm_Mdl_isReview Q μ [xi x0]) (kk : ∀ y μ', Q y μ' → Mw Ω σ0 m M_Mdl_review rm_Mdl_review F 22 L (xi y :: st) μ') (hst : (st.map catP).sum ≤ 8 := by exact Nat.le_of_ble_eq_true rfl) : Mw Ω σ0 m M_Mdl_review rm_Mdl_review F 19 L (xi x0 :: xr (some m) :: st) μ :=
  fun σ hM => c_Mdl_review_19 (hc σ0 σ hM) hM.1.2.1 (by decide) (by decide) (by decide) (by decide) hst (fun y σ' hq => by obtain ⟨μ', h1, h2⟩ := hq; exact kk y μ' h2 σ' h1) (fun _ _ h => h.elim)
theorem C_review_54 {Ω : Om} {σ0 : Sto} {m : Nat} {F : QF} {L st : List PV} {μ : Mu} {Q : Int → Mu → Prop} {x0 : Int} (hc : MMi Ω m M_Mdl_refused rm_Mdl_refused Q μ [xi x0]) (kk : ∀ y μ', Q y μ' → Mw Ω σ0 m M_Mdl_review rm_Mdl_review F 57 L (xi y :: st) μ') (hst : (st.map catP).sum ≤ 8 := by exact Nat.le_of_ble_eq_true rfl) : Mw Ω σ0 m M_Mdl_review rm_Mdl_review F 54 L (xi x0 :: xr (some m) :: st) μ :=
  fun σ hM => c_Mdl_review_54 (hc σ0 σ hM) hM.1.2.1 (by decide) (by decide) (by decide) (by decide) hst (fun y σ' hq => by obtain ⟨μ', h1, h2⟩ := hq; exact kk y μ' h2 σ' h1) (fun _ _ h => h.elim)
theorem R_review_61 {Ω : Om} {σ0 : Sto} {m : Nat} {L : List PV} {μ : Mu} {Q : Int → Mu → Prop} {x : Int} (h : Q x μ) : Mw Ω σ0 m M_Mdl_review rm_Mdl_review (MQi Ω σ0 m rm_Mdl_review Q) 61 L [xi x] μ := fun σ hM => r_Mdl_review_61 ⟨_, rfl, μ, hM, h⟩ (by decide) (by decide)
theorem R_review_98 {Ω : Om} {σ0 : Sto} {m : Nat} {L : List PV} {μ : Mu} {Q : Int → Mu → Prop} {x : Int} (h : Q x μ) : Mw Ω σ0 m M_Mdl_review rm_Mdl_review (MQi Ω σ0 m rm_Mdl_review Q) 98 L [xi x] μ := fun σ hM => r_Mdl_review_98 ⟨_, rfl, μ, hM, h⟩ (by decide) (by decide)
theorem E_review {Ω : Om} {m : Nat} {μ : Mu} {Q : Int → Mu → Prop} {v1 : Int} {v2 : Int} (h : ∀ σ0, Mw Ω σ0 m M_Mdl_review rm_Mdl_review (MQi Ω σ0 m rm_Mdl_review Q) 0 [xr (some m), xi v1, xi v2, xu] [] μ) : MMi Ω m M_Mdl_review rm_Mdl_review Q μ [xi v1, xi v2] := fun σ0 σ hM => e_Mdl_review (h σ0 σ hM)
theorem B_family_0 {Ω : Om} {σ0 : Sto} {m : Nat} {R : Room} {F : QF} {μ : Mu} {v1 : Int} (h : Mw Ω σ0 m M_Mdl_family R F 7 [xr (some m), xi v1, xl (lShl 1 v1), xu, xi v1] [] μ) : Mw Ω σ0 m M_Mdl_family R F 0 [xr (some m), xi v1, xu, xu, xu] [] μ := by
  intro σ hM
  obtain ⟨hS, hk, e⟩ := id hM
  subst e
  refine b_Mdl_family_0 ?_
  exact h _ hM
theorem B_family_7 {Ω : Om} {σ0 : Sto} {m : Nat} {R : Room} {F : QF} {μ : Mu} {v1 : Int} {v2 : Int64} {v4 : Int} (h : Q32 v4 ∧ ((v4 ≤ (0 : Int) → Mw Ω σ0 m M_Mdl_family R F 69 [xr (some m), xi v1, xl v2, xu, xi v4] [xl v2] μ) ∧ (¬ v4 ≤ (0 : Int) → Q32 (cmpL ((lShr v2 v4) &&& 1) 1) ∧ ((¬ (cmpL ((lShr v2 v4) &&& 1) 1) = (0 : Int) → Mw Ω σ0 m M_Mdl_family R F 7 [xr (some m), xi v1, xl v2, xu, xi (v4 + (-1))] [] μ) ∧ ((cmpL ((lShr v2 v4) &&& 1) 1) = (0 : Int) → 0 ≤ v4 ∧ v4 < 40 ∧ 0 ≤ v4 ∧ v4 < 40 ∧ ((¬ (mA μ 8 (v4).toNat) = (-1 : Int) → Mw Ω σ0 m M_Mdl_family R F 7 [xr (some m), xi v1, xl ((v2 ||| (lShl 1 (mA μ 7 (v4).toNat))) ||| (lShl 1 (mA μ 8 (v4).toNat))), xu, xi (v4 + (-1))] [] μ) ∧ ((mA μ 8 (v4).toNat) = (-1 : Int) → Mw Ω σ0 m M_Mdl_family R F 7 [xr (some m), xi v1, xl ((v2 ||| (lShl 1 (mA μ 7 (v4).toNat))) ||| 0), xu, xi (v4 + (-1))] [] μ))))))) : Mw Ω σ0 m M_Mdl_family R F 7 [xr (some m), xi v1, xl v2, xu, xi v4] [] μ := by
  intro σ hM
  obtain ⟨hS, hk, e⟩ := id hM
  subst e
  refine b_Mdl_family_7 ?_
  obtain ⟨o, h⟩ := h
  refine ⟨o, ?_⟩
  refine ⟨fun c => ?_, fun c => ?_⟩
  · have h := h.1 c
    exact h _ hM
  · have h := h.2 c
    obtain ⟨o, h⟩ := h
    refine ⟨o, ?_⟩
    refine ⟨fun c => ?_, fun c => ?_⟩
    · have h := h.1 c
      exact h _ hM
    · have h := h.2 c
      refine ⟨hS.2.1, ?_⟩
      refine ⟨_, hS.r7, ?_⟩
      refine ⟨hS.k7, ?_⟩
      obtain ⟨o, h⟩ := h
      refine ⟨o, ?_⟩
      obtain ⟨o, h⟩ := h
      refine ⟨hS.b7 o, ?_⟩
      refine fun _ => ?_
      refine ⟨_, hS.r8, ?_⟩
      refine ⟨hS.k8, ?_⟩
      obtain ⟨o, h⟩ := h
      refine ⟨o, ?_⟩
      obtain ⟨o, h⟩ := h
      refine ⟨hS.b8 o, ?_⟩
      refine fun _ => ?_
      refine ⟨fun c => ?_, fun c => ?_⟩
      · have h := h.1 c
        refine fun _ => ?_
        exact h _ hM
      · have h := h.2 c
        exact h _ hM
theorem R_family_69 {Ω : Om} {σ0 : Sto} {m : Nat} {L : List PV} {μ : Mu} {Q : Int64 → Mu → Prop} {x : Int64} (h : Q x μ) : Mw Ω σ0 m M_Mdl_family rm_Mdl_family (MQl Ω σ0 m rm_Mdl_family Q) 69 L [xl x] μ := fun σ hM => r_Mdl_family_69 ⟨_, rfl, μ, hM, h⟩ (by decide) (by decide)
theorem E_family {Ω : Om} {m : Nat} {μ : Mu} {Q : Int64 → Mu → Prop} {v1 : Int} (h : ∀ σ0, Mw Ω σ0 m M_Mdl_family rm_Mdl_family (MQl Ω σ0 m rm_Mdl_family Q) 0 [xr (some m), xi v1, xu, xu, xu] [] μ) : MMl Ω m M_Mdl_family rm_Mdl_family Q μ [xi v1] := fun σ0 σ hM => e_Mdl_family (h σ0 σ hM)
theorem B_changes_0 {Ω : Om} {σ0 : Sto} {m : Nat} {R : Room} {F : QF} {μ : Mu} {v1 : Int} {v2 : Int} (h : Q32 v1 ∧ ((v1 = (-1 : Int) → Q32 v2 ∧ ((¬ v1 = v2 → Mw Ω σ0 m M_Mdl_changes R F 21 [xr (some m), xi v1, xi v2, xu, xu, xu, xu] [xi 99] μ) ∧ (v1 = v2 → Mw Ω σ0 m M_Mdl_changes R F 21 [xr (some m), xi v1, xi v2, xu, xu, xu, xu] [xi 0] μ))) ∧ (¬ v1 = (-1 : Int) → Q32 v2 ∧ ((¬ v2 = (-1 : Int) → 0 ≤ v1 ∧ v1 < 16384 ∧ 0 ≤ v2 ∧ v2 < 16384 ∧ Mw Ω σ0 m M_Mdl_changes R F 41 [xr (some m), xi v1, xi v2, xl (mG μ 1 (v1).toNat), xu, xl (mG μ 1 (v2).toNat), xu] [xl (mG μ 1 (v1).toNat), xi 8, xl (mG μ 1 (v1).toNat)] μ) ∧ (v2 = (-1 : Int) → ((¬ v1 = v2 → Mw Ω σ0 m M_Mdl_changes R F 21 [xr (some m), xi v1, xi v2, xu, xu, xu, xu] [xi 99] μ) ∧ (v1 = v2 → Mw Ω σ0 m M_Mdl_changes R F 21 [xr (some m), xi v1, xi v2, xu, xu, xu, xu] [xi 0] μ))))))) : Mw Ω σ0 m M_Mdl_changes R F 0 [xr (some m), xi v1, xi v2, xu, xu, xu, xu] [] μ := by
  intro σ hM
  obtain ⟨hS, hk, e⟩ := id hM
  subst e
  refine b_Mdl_changes_0 ?_
  obtain ⟨o, h⟩ := h
  refine ⟨o, ?_⟩
  refine ⟨fun c => ?_, fun c => ?_⟩
  · have h := h.1 c
    obtain ⟨o, h⟩ := h
    refine ⟨o, ?_⟩
    refine ⟨fun c => ?_, fun c => ?_⟩
    · have h := h.1 c
      exact h _ hM
    · have h := h.2 c
      exact h _ hM
  · have h := h.2 c
    obtain ⟨o, h⟩ := h
    refine ⟨o, ?_⟩
    refine ⟨fun c => ?_, fun c => ?_⟩
    · have h := h.1 c
      refine ⟨hS.2.1, ?_⟩
      refine ⟨_, hS.r1, ?_⟩
      refine ⟨hS.k1, ?_⟩
      obtain ⟨o, h⟩ := h
      refine ⟨o, ?_⟩
      obtain ⟨o, h⟩ := h
      refine ⟨hS.b1 o, ?_⟩
      obtain ⟨o, h⟩ := h
      refine ⟨o, ?_⟩
      obtain ⟨o, h⟩ := h
      refine ⟨hS.b1 o, ?_⟩
      exact h _ hM
    · have h := h.2 c
      refine ⟨fun c => ?_, fun c => ?_⟩
      · have h := h.1 c
        exact h _ hM
      · have h := h.2 c
        exact h _ hM
theorem B_changes_44 {Ω : Om} {σ0 : Sto} {m : Nat} {R : Room} {F : QF} {μ : Mu} {v1 : Int} {v2 : Int} {v3 : Int64} {v5 : Int64} {s0 : Int64} {s1 : Int} {s2 : Int} (h : Mw Ω σ0 m M_Mdl_changes R F 52 [xr (some m), xi v1, xi v2, xl v3, xu, xl v5, xu] [xl v5, xi 8, xl v5, xl (lUsh s0 (s1 * s2))] μ) : Mw Ω σ0 m M_Mdl_changes R F 44 [xr (some m), xi v1, xi v2, xl v3, xu, xl v5, xu] [xi s2, xi s1, xl s0] μ := by
  intro σ hM
  obtain ⟨hS, hk, e⟩ := id hM
  subst e
  refine b_Mdl_changes_44 ?_
  exact h _ hM
theorem B_changes_55 {Ω : Om} {σ0 : Sto} {m : Nat} {R : Room} {F : QF} {μ : Mu} {v1 : Int} {v2 : Int} {v3 : Int64} {v5 : Int64} {s0 : Int64} {s1 : Int64} {s2 : Int} {s3 : Int} (h : Q32 (cmpL s0 (lUsh s1 (s2 * s3))) ∧ ((¬ (cmpL s0 (lUsh s1 (s2 * s3))) = (0 : Int) → Mw Ω σ0 m M_Mdl_changes R F 66 [xr (some m), xi v1, xi v2, xl v3, xu, xl v5, xu] [xi 1] μ) ∧ ((cmpL s0 (lUsh s1 (s2 * s3))) = (0 : Int) → Mw Ω σ0 m M_Mdl_changes R F 66 [xr (some m), xi v1, xi v2, xl v3, xu, xl v5, xu] [xi 0] μ))) : Mw Ω σ0 m M_Mdl_changes R F 55 [xr (some m), xi v1, xi v2, xl v3, xu, xl v5, xu] [xi s3, xi s2, xl s1, xl s0] μ := by
  intro σ hM
  obtain ⟨hS, hk, e⟩ := id hM
  subst e
  refine b_Mdl_changes_55 ?_
  obtain ⟨o, h⟩ := h
  refine ⟨o, ?_⟩
  refine ⟨fun c => ?_, fun c => ?_⟩
  · have h := h.1 c
    exact h _ hM
  · have h := h.2 c
    exact h _ hM
theorem R_changes_21 {Ω : Om} {σ0 : Sto} {m : Nat} {L : List PV} {μ : Mu} {Q : Int → Mu → Prop} {x : Int} (h : Q x μ) : Mw Ω σ0 m M_Mdl_changes rm_Mdl_changes (MQi Ω σ0 m rm_Mdl_changes Q) 21 L [xi x] μ := fun σ hM => r_Mdl_changes_21 ⟨_, rfl, μ, hM, h⟩ (by decide) (by decide)
theorem C_changes_41 {Ω : Om} {σ0 : Sto} {m : Nat} {F : QF} {L st : List PV} {μ : Mu} {P : Int → Prop} {x0 : Int64} (hc : MPi Ω M_Mdl_depth rm_Mdl_depth P [xl x0]) (kk : ∀ y , P y  → Mw Ω σ0 m M_Mdl_changes rm_Mdl_changes F 44 L (xi y :: st) μ) (hst : (st.map catP).sum ≤ 8 := by exact Nat.le_of_ble_eq_true rfl) : Mw Ω σ0 m M_Mdl_changes rm_Mdl_changes F 41 L (xl x0 :: st) μ :=
  fun σ hM => c_Mdl_changes_41 (hc σ) (by decide) (by decide) (by decide) (by decide) hst (fun y σ' hq => by obtain ⟨rfl, h2⟩ := hq; exact kk y h2 σ' hM) (fun _ _ h => h.elim)
theorem C_changes_52 {Ω : Om} {σ0 : Sto} {m : Nat} {F : QF} {L st : List PV} {μ : Mu} {P : Int → Prop} {x0 : Int64} (hc : MPi Ω M_Mdl_depth rm_Mdl_depth P [xl x0]) (kk : ∀ y , P y  → Mw Ω σ0 m M_Mdl_changes rm_Mdl_changes F 55 L (xi y :: st) μ) (hst : (st.map catP).sum ≤ 8 := by exact Nat.le_of_ble_eq_true rfl) : Mw Ω σ0 m M_Mdl_changes rm_Mdl_changes F 52 L (xl x0 :: st) μ :=
  fun σ hM => c_Mdl_changes_52 (hc σ) (by decide) (by decide) (by decide) (by decide) hst (fun y σ' hq => by obtain ⟨rfl, h2⟩ := hq; exact kk y h2 σ' hM) (fun _ _ h => h.elim)
theorem R_changes_66 {Ω : Om} {σ0 : Sto} {m : Nat} {L : List PV} {μ : Mu} {Q : Int → Mu → Prop} {x : Int} (h : Q x μ) : Mw Ω σ0 m M_Mdl_changes rm_Mdl_changes (MQi Ω σ0 m rm_Mdl_changes Q) 66 L [xi x] μ := fun σ hM => r_Mdl_changes_66 ⟨_, rfl, μ, hM, h⟩ (by decide) (by decide)
theorem E_changes {Ω : Om} {m : Nat} {μ : Mu} {Q : Int → Mu → Prop} {v1 : Int} {v2 : Int} (h : ∀ σ0, Mw Ω σ0 m M_Mdl_changes rm_Mdl_changes (MQi Ω σ0 m rm_Mdl_changes Q) 0 [xr (some m), xi v1, xi v2, xu, xu, xu, xu] [] μ) : MMi Ω m M_Mdl_changes rm_Mdl_changes Q μ [xi v1, xi v2] := fun σ0 σ hM => e_Mdl_changes (h σ0 σ hM)
theorem B_putAt_0 {Ω : Om} {σ0 : Sto} {m : Nat} {R : Room} {F : QF} {μ : Mu} {v1 : Int} {v2 : Int} (h : Mw Ω σ0 m M_Mdl_putAt R F 5 [xr (some m), xi v1, xi v2, xi (mI μ 15)] [] μ) : Mw Ω σ0 m M_Mdl_putAt R F 0 [xr (some m), xi v1, xi v2, xu] [] μ := by
  intro σ hM
  obtain ⟨hS, hk, e⟩ := id hM
  subst e
  refine b_Mdl_putAt_0 ?_
  refine ⟨hS.2.1, ?_⟩
  refine fun _ => ?_
  exact h _ hM
theorem B_putAt_5 {Ω : Om} {σ0 : Sto} {m : Nat} {R : Room} {F : QF} {μ : Mu} {v1 : Int} {v2 : Int} {v3 : Int} (h : Q32 v3 ∧ Q32 v1 ∧ ((v3 ≤ v1 → 0 ≤ v1 ∧ v1 < 64 ∧ Q32 v2 ∧ Q32 ((mI μ 15) + 1) ∧ Mw Ω σ0 m M_Mdl_putAt R F 47 [xr (some m), xi v1, xi v2, xi v3] [] (wI (wA μ 9 (v1).toNat v2) 15 ((mI μ 15) + 1))) ∧ (¬ v3 ≤ v1 → 0 ≤ (v3 - 1) ∧ (v3 - 1) < 64 ∧ 0 ≤ v3 ∧ v3 < 64 ∧ Mw Ω σ0 m M_Mdl_putAt R F 5 [xr (some m), xi v1, xi v2, xi (v3 + (-1))] [] (wA μ 9 (v3).toNat (mA μ 9 (v3 - 1).toNat))))) : Mw Ω σ0 m M_Mdl_putAt R F 5 [xr (some m), xi v1, xi v2, xi v3] [] μ := by
  intro σ hM
  obtain ⟨hS, hk, e⟩ := id hM
  subst e
  refine b_Mdl_putAt_5 ?_
  obtain ⟨o, h⟩ := h
  refine ⟨o, ?_⟩
  obtain ⟨o, h⟩ := h
  refine ⟨o, ?_⟩
  refine ⟨fun c => ?_, fun c => ?_⟩
  · have h := h.1 c
    refine ⟨hS.2.1, ?_⟩
    refine ⟨_, hS.r9, ?_⟩
    refine ⟨hS.k9, ?_⟩
    obtain ⟨o, h⟩ := h
    refine ⟨o, ?_⟩
    obtain ⟨o, h⟩ := h
    refine ⟨hS.b9 o, ?_⟩
    obtain ⟨o, h⟩ := h
    refine ⟨o, ?_⟩
    refine fun _ => ?_
    obtain ⟨o, h⟩ := h
    refine ⟨o, ?_⟩
    exact h _ (MR.uI (f := 15) (MR.vI (j := 9) (by decide) hM))
  · have h := h.2 c
    refine ⟨hS.2.1, ?_⟩
    refine ⟨_, hS.r9, ?_⟩
    refine ⟨hS.k9, ?_⟩
    obtain ⟨o, h⟩ := h
    refine ⟨o, ?_⟩
    obtain ⟨o, h⟩ := h
    refine ⟨hS.b9 o, ?_⟩
    refine fun _ => ?_
    obtain ⟨o, h⟩ := h
    refine ⟨o, ?_⟩
    obtain ⟨o, h⟩ := h
    refine ⟨hS.b9 o, ?_⟩
    exact h _ (MR.vI (j := 9) (by decide) hM)
theorem R_putAt_47 {Ω : Om} {σ0 : Sto} {m : Nat} {L : List PV} {μ : Mu} {Q : Mu → Prop} (h : Q μ) : Mw Ω σ0 m M_Mdl_putAt rm_Mdl_putAt (MQv Ω σ0 m rm_Mdl_putAt Q) 47 L [] μ := fun σ hM => r_Mdl_putAt_47 ⟨rfl, μ, hM, h⟩ (by decide) (by decide)
theorem E_putAt {Ω : Om} {m : Nat} {μ : Mu} {Q : Mu → Prop} {v1 : Int} {v2 : Int} (h : ∀ σ0, Mw Ω σ0 m M_Mdl_putAt rm_Mdl_putAt (MQv Ω σ0 m rm_Mdl_putAt Q) 0 [xr (some m), xi v1, xi v2, xu] [] μ) : MMv Ω m M_Mdl_putAt rm_Mdl_putAt Q μ [xi v1, xi v2] := fun σ0 σ hM => e_Mdl_putAt (h σ0 σ hM)
theorem B_blame_0 {Ω : Om} {σ0 : Sto} {m : Nat} {R : Room} {F : QF} {μ : Mu} {v1 : Int} {v2 : Int} (h : Mw Ω σ0 m M_Mdl_blame R F 4 [xr (some m), xi v1, xi v2] [xi v2, xi v1, xr (some m), xr (some m)] μ) : Mw Ω σ0 m M_Mdl_blame R F 0 [xr (some m), xi v1, xi v2] [] μ := by
  intro σ hM
  obtain ⟨hS, hk, e⟩ := id hM
  subst e
  refine b_Mdl_blame_0 ?_
  exact h _ hM
theorem B_blame_7 {Ω : Om} {σ0 : Sto} {m : Nat} {R : Room} {F : QF} {μ : Mu} {v1 : Int} {v2 : Int} {s1 : Int} (h : Q32 s1 ∧ ((s1 = (0 : Int) → Mw Ω σ0 m M_Mdl_blame R F 15 [xr (some m), xi v1, xi v2] [xi 1, xr (some m)] μ) ∧ (¬ s1 = (0 : Int) → Mw Ω σ0 m M_Mdl_blame R F 15 [xr (some m), xi v1, xi v2] [xi 0, xr (some m)] μ))) : Mw Ω σ0 m M_Mdl_blame R F 7 [xr (some m), xi v1, xi v2] [xi s1, xr (some m)] μ := by
  intro σ hM
  obtain ⟨hS, hk, e⟩ := id hM
  subst e
  refine b_Mdl_blame_7 ?_
  obtain ⟨o, h⟩ := h
  refine ⟨o, ?_⟩
  refine ⟨fun c => ?_, fun c => ?_⟩
  · have h := h.1 c
    exact h _ hM
  · have h := h.2 c
    exact h _ hM
theorem B_blame_18 {Ω : Om} {σ0 : Sto} {m : Nat} {R : Room} {F : QF} {μ : Mu} {v1 : Int} {v2 : Int} {s0 : Int} (h : Q32 s0 ∧ ((s0 = (0 : Int) → 0 ≤ ((20 * v1) + v2) ∧ ((20 * v1) + v2) < 800 ∧ 0 ≤ (mA μ 5 ((20 * v1) + v2).toNat) ∧ (mA μ 5 ((20 * v1) + v2).toNat) < 16384 ∧ Mw Ω σ0 m M_Mdl_blame R F 41 [xr (some m), xi v1, xi v2] [xi (mA μ 2 (mA μ 5 ((20 * v1) + v2).toNat).toNat)] μ) ∧ (¬ s0 = (0 : Int) → Mw Ω σ0 m M_Mdl_blame R F 41 [xr (some m), xi v1, xi v2] [xi 0] μ))) : Mw Ω σ0 m M_Mdl_blame R F 18 [xr (some m), xi v1, xi v2] [xi s0] μ := by
  intro σ hM
  obtain ⟨hS, hk, e⟩ := id hM
  subst e
  refine b_Mdl_blame_18 ?_
  obtain ⟨o, h⟩ := h
  refine ⟨o, ?_⟩
  refine ⟨fun c => ?_, fun c => ?_⟩
  · have h := h.1 c
    refine ⟨hS.2.1, ?_⟩
    refine ⟨_, hS.r2, ?_⟩
    refine ⟨_, hS.r5, ?_⟩
    refine ⟨hS.k5, ?_⟩
    obtain ⟨o, h⟩ := h
    refine ⟨o, ?_⟩
    obtain ⟨o, h⟩ := h
    refine ⟨hS.b5 o, ?_⟩
    refine fun _ => ?_
    refine ⟨hS.k2, ?_⟩
    obtain ⟨o, h⟩ := h
    refine ⟨o, ?_⟩
    obtain ⟨o, h⟩ := h
    refine ⟨hS.b2 o, ?_⟩
    refine fun _ => ?_
    exact h _ hM
  · have h := h.2 c
    exact h _ hM
theorem C_blame_4 {Ω : Om} {σ0 : Sto} {m : Nat} {F : QF} {L st : List PV} {μ : Mu} {Q : Int → Mu → Prop} {x0 : Int} {x1 : Int} (hc : MMi Ω m M_Mdl_isLineOf rm_Mdl_isLineOf Q μ [xi x0, xi x1]) (kk : ∀ y μ', Q y μ' → Mw Ω σ0 m M_Mdl_blame rm_Mdl_blame F 7 L (xi y :: st) μ') (hst : (st.map catP).sum ≤ 8 := by exact Nat.le_of_ble_eq_true rfl) : Mw Ω σ0 m M_Mdl_blame rm_Mdl_blame F 4 L (xi x1 :: xi x0 :: xr (some m) :: st) μ :=
  fun σ hM => c_Mdl_blame_4 (hc σ0 σ hM) hM.1.2.1 (by decide) (by decide) (by decide) (by decide) hst (fun y σ' hq => by obtain ⟨μ', h1, h2⟩ := hq; exact kk y μ' h2 σ' h1) (fun _ _ h => h.elim)
theorem C_blame_15 {Ω : Om} {σ0 : Sto} {m : Nat} {F : QF} {L st : List PV} {μ : Mu} {Q : Int → Mu → Prop} {x0 : Int} (hc : MMi Ω m M_Mdl_refused rm_Mdl_refused Q μ [xi x0]) (kk : ∀ y μ', Q y μ' → Mw Ω σ0 m M_Mdl_blame rm_Mdl_blame F 18 L (xi y :: st) μ') (hst : (st.map catP).sum ≤ 8 := by exact Nat.le_of_ble_eq_true rfl) : Mw Ω σ0 m M_Mdl_blame rm_Mdl_blame F 15 L (xi x0 :: xr (some m) :: st) μ :=
  fun σ hM => c_Mdl_blame_15 (hc σ0 σ hM) hM.1.2.1 (by decide) (by decide) (by decide) (by decide) hst (fun y σ' hq => by obtain ⟨μ', h1, h2⟩ := hq; exact kk y μ' h2 σ' h1) (fun _ _ h => h.elim)
theorem R_blame_41 {Ω : Om} {σ0 : Sto} {m : Nat} {L : List PV} {μ : Mu} {Q : Int → Mu → Prop} {x : Int} (h : Q x μ) : Mw Ω σ0 m M_Mdl_blame rm_Mdl_blame (MQi Ω σ0 m rm_Mdl_blame Q) 41 L [xi x] μ := fun σ hM => r_Mdl_blame_41 ⟨_, rfl, μ, hM, h⟩ (by decide) (by decide)
theorem E_blame {Ω : Om} {m : Nat} {μ : Mu} {Q : Int → Mu → Prop} {v1 : Int} {v2 : Int} (h : ∀ σ0, Mw Ω σ0 m M_Mdl_blame rm_Mdl_blame (MQi Ω σ0 m rm_Mdl_blame Q) 0 [xr (some m), xi v1, xi v2] [] μ) : MMi Ω m M_Mdl_blame rm_Mdl_blame Q μ [xi v1, xi v2] := fun σ0 σ hM => e_Mdl_blame (h σ0 σ hM)
theorem B_isAbove_0 {Ω : Om} {σ0 : Sto} {m : Nat} {R : Room} {F : QF} {μ : Mu} {v1 : Int} {v2 : Int} (h : Mw Ω σ0 m M_Mdl_isAbove R F 3 [xr (some m), xi v1, xi v2] [xi v1, xr (some m), xr (some m)] μ) : Mw Ω σ0 m M_Mdl_isAbove R F 0 [xr (some m), xi v1, xi v2] [] μ := by
  intro σ hM
  obtain ⟨hS, hk, e⟩ := id hM
  subst e
  refine b_Mdl_isAbove_0 ?_
  exact h _ hM
theorem B_isAbove_6 {Ω : Om} {σ0 : Sto} {m : Nat} {R : Room} {F : QF} {μ : Mu} {v1 : Int} {v2 : Int} {s1 : Int} (h : Q32 s1 ∧ ((s1 = (0 : Int) → Mw Ω σ0 m M_Mdl_isAbove R F 22 [xr (some m), xi v1, xi v2] [xi 1, xr (some m)] μ) ∧ (¬ s1 = (0 : Int) → Mw Ω σ0 m M_Mdl_isAbove R F 11 [xr (some m), xi v1, xi v2] [xi v2, xr (some m), xr (some m)] μ))) : Mw Ω σ0 m M_Mdl_isAbove R F 6 [xr (some m), xi v1, xi v2] [xi s1, xr (some m)] μ := by
  intro σ hM
  obtain ⟨hS, hk, e⟩ := id hM
  subst e
  refine b_Mdl_isAbove_6 ?_
  obtain ⟨o, h⟩ := h
  refine ⟨o, ?_⟩
  refine ⟨fun c => ?_, fun c => ?_⟩
  · have h := h.1 c
    exact h _ hM
  · have h := h.2 c
    exact h _ hM
theorem B_isAbove_14 {Ω : Om} {σ0 : Sto} {m : Nat} {R : Room} {F : QF} {μ : Mu} {v1 : Int} {v2 : Int} {s1 : Int} (h : Q32 s1 ∧ ((s1 = (0 : Int) → Mw Ω σ0 m M_Mdl_isAbove R F 22 [xr (some m), xi v1, xi v2] [xi 1, xr (some m)] μ) ∧ (¬ s1 = (0 : Int) → Mw Ω σ0 m M_Mdl_isAbove R F 22 [xr (some m), xi v1, xi v2] [xi 0, xr (some m)] μ))) : Mw Ω σ0 m M_Mdl_isAbove R F 14 [xr (some m), xi v1, xi v2] [xi s1, xr (some m)] μ := by
  intro σ hM
  obtain ⟨hS, hk, e⟩ := id hM
  subst e
  refine b_Mdl_isAbove_14 ?_
  obtain ⟨o, h⟩ := h
  refine ⟨o, ?_⟩
  refine ⟨fun c => ?_, fun c => ?_⟩
  · have h := h.1 c
    exact h _ hM
  · have h := h.2 c
    exact h _ hM
theorem B_isAbove_25 {Ω : Om} {σ0 : Sto} {m : Nat} {R : Room} {F : QF} {μ : Mu} {v1 : Int} {v2 : Int} {s0 : Int} (h : Q32 s0 ∧ ((¬ s0 = (0 : Int) → Mw Ω σ0 m M_Mdl_isAbove R F 42 [xr (some m), xi v1, xi v2] [xi 0] μ) ∧ (s0 = (0 : Int) → Mw Ω σ0 m M_Mdl_isAbove R F 31 [xr (some m), xi v1, xi v2] [xi v2, xi v1, xr (some m)] μ))) : Mw Ω σ0 m M_Mdl_isAbove R F 25 [xr (some m), xi v1, xi v2] [xi s0] μ := by
  intro σ hM
  obtain ⟨hS, hk, e⟩ := id hM
  subst e
  refine b_Mdl_isAbove_25 ?_
  obtain ⟨o, h⟩ := h
  refine ⟨o, ?_⟩
  refine ⟨fun c => ?_, fun c => ?_⟩
  · have h := h.1 c
    exact h _ hM
  · have h := h.2 c
    exact h _ hM
theorem B_isAbove_34 {Ω : Om} {σ0 : Sto} {m : Nat} {R : Room} {F : QF} {μ : Mu} {v1 : Int} {v2 : Int} {s0 : Int} (h : Q32 s0 ∧ ((s0 = (0 : Int) → Mw Ω σ0 m M_Mdl_isAbove R F 42 [xr (some m), xi v1, xi v2] [xi 0] μ) ∧ (¬ s0 = (0 : Int) → Mw Ω σ0 m M_Mdl_isAbove R F 42 [xr (some m), xi v1, xi v2] [xi 1] μ))) : Mw Ω σ0 m M_Mdl_isAbove R F 34 [xr (some m), xi v1, xi v2] [xi s0] μ := by
  intro σ hM
  obtain ⟨hS, hk, e⟩ := id hM
  subst e
  refine b_Mdl_isAbove_34 ?_
  obtain ⟨o, h⟩ := h
  refine ⟨o, ?_⟩
  refine ⟨fun c => ?_, fun c => ?_⟩
  · have h := h.1 c
    exact h _ hM
  · have h := h.2 c
    exact h _ hM
theorem C_isAbove_3 {Ω : Om} {σ0 : Sto} {m : Nat} {F : QF} {L st : List PV} {μ : Mu} {Q : Int → Mu → Prop} {x0 : Int} (hc : MMi Ω m M_Mdl_isVersion rm_Mdl_isVersion Q μ [xi x0]) (kk : ∀ y μ', Q y μ' → Mw Ω σ0 m M_Mdl_isAbove rm_Mdl_isAbove F 6 L (xi y :: st) μ') (hst : (st.map catP).sum ≤ 8 := by exact Nat.le_of_ble_eq_true rfl) : Mw Ω σ0 m M_Mdl_isAbove rm_Mdl_isAbove F 3 L (xi x0 :: xr (some m) :: st) μ :=
  fun σ hM => c_Mdl_isAbove_3 (hc σ0 σ hM) hM.1.2.1 (by decide) (by decide) (by decide) (by decide) hst (fun y σ' hq => by obtain ⟨μ', h1, h2⟩ := hq; exact kk y μ' h2 σ' h1) (fun _ _ h => h.elim)
theorem C_isAbove_11 {Ω : Om} {σ0 : Sto} {m : Nat} {F : QF} {L st : List PV} {μ : Mu} {Q : Int → Mu → Prop} {x0 : Int} (hc : MMi Ω m M_Mdl_isVersion rm_Mdl_isVersion Q μ [xi x0]) (kk : ∀ y μ', Q y μ' → Mw Ω σ0 m M_Mdl_isAbove rm_Mdl_isAbove F 14 L (xi y :: st) μ') (hst : (st.map catP).sum ≤ 8 := by exact Nat.le_of_ble_eq_true rfl) : Mw Ω σ0 m M_Mdl_isAbove rm_Mdl_isAbove F 11 L (xi x0 :: xr (some m) :: st) μ :=
  fun σ hM => c_Mdl_isAbove_11 (hc σ0 σ hM) hM.1.2.1 (by decide) (by decide) (by decide) (by decide) hst (fun y σ' hq => by obtain ⟨μ', h1, h2⟩ := hq; exact kk y μ' h2 σ' h1) (fun _ _ h => h.elim)
theorem C_isAbove_22 {Ω : Om} {σ0 : Sto} {m : Nat} {F : QF} {L st : List PV} {μ : Mu} {Q : Int → Mu → Prop} {x0 : Int} (hc : MMi Ω m M_Mdl_refused rm_Mdl_refused Q μ [xi x0]) (kk : ∀ y μ', Q y μ' → Mw Ω σ0 m M_Mdl_isAbove rm_Mdl_isAbove F 25 L (xi y :: st) μ') (hst : (st.map catP).sum ≤ 8 := by exact Nat.le_of_ble_eq_true rfl) : Mw Ω σ0 m M_Mdl_isAbove rm_Mdl_isAbove F 22 L (xi x0 :: xr (some m) :: st) μ :=
  fun σ hM => c_Mdl_isAbove_22 (hc σ0 σ hM) hM.1.2.1 (by decide) (by decide) (by decide) (by decide) hst (fun y σ' hq => by obtain ⟨μ', h1, h2⟩ := hq; exact kk y μ' h2 σ' h1) (fun _ _ h => h.elim)
theorem C_isAbove_31 {Ω : Om} {σ0 : Sto} {m : Nat} {F : QF} {L st : List PV} {μ : Mu} {Q : Int → Mu → Prop} {x0 : Int} {x1 : Int} (hc : MMi Ω m M_Mdl_isOver rm_Mdl_isOver Q μ [xi x0, xi x1]) (kk : ∀ y μ', Q y μ' → Mw Ω σ0 m M_Mdl_isAbove rm_Mdl_isAbove F 34 L (xi y :: st) μ') (hst : (st.map catP).sum ≤ 8 := by exact Nat.le_of_ble_eq_true rfl) : Mw Ω σ0 m M_Mdl_isAbove rm_Mdl_isAbove F 31 L (xi x1 :: xi x0 :: xr (some m) :: st) μ :=
  fun σ hM => c_Mdl_isAbove_31 (hc σ0 σ hM) hM.1.2.1 (by decide) (by decide) (by decide) (by decide) hst (fun y σ' hq => by obtain ⟨μ', h1, h2⟩ := hq; exact kk y μ' h2 σ' h1) (fun _ _ h => h.elim)
theorem R_isAbove_42 {Ω : Om} {σ0 : Sto} {m : Nat} {L : List PV} {μ : Mu} {Q : Int → Mu → Prop} {x : Int} (hx : x = 0 ∨ x = 1) (h : Q x μ) : Mw Ω σ0 m M_Mdl_isAbove rm_Mdl_isAbove (MQi Ω σ0 m rm_Mdl_isAbove Q) 42 L [xi x] μ := fun σ hM => r_Mdl_isAbove_42 hx ⟨_, rfl, μ, hM, h⟩ (by decide) (by decide)
theorem E_isAbove {Ω : Om} {m : Nat} {μ : Mu} {Q : Int → Mu → Prop} {v1 : Int} {v2 : Int} (h : ∀ σ0, Mw Ω σ0 m M_Mdl_isAbove rm_Mdl_isAbove (MQi Ω σ0 m rm_Mdl_isAbove Q) 0 [xr (some m), xi v1, xi v2] [] μ) : MMi Ω m M_Mdl_isAbove rm_Mdl_isAbove Q μ [xi v1, xi v2] := fun σ0 σ hM => e_Mdl_isAbove (h σ0 σ hM)
theorem B_isOver_0 {Ω : Om} {σ0 : Sto} {m : Nat} {R : Room} {F : QF} {μ : Mu} {v1 : Int} {v2 : Int} (h : Q32 v1 ∧ Q32 v2 ∧ ((v1 = v2 → Mw Ω σ0 m M_Mdl_isOver R F 24 [xr (some m), xi v1, xi v2] [xi 0] μ) ∧ (¬ v1 = v2 → Mw Ω σ0 m M_Mdl_isOver R F 7 [xr (some m), xi v1, xi v2] [xi v1, xr (some m)] μ))) : Mw Ω σ0 m M_Mdl_isOver R F 0 [xr (some m), xi v1, xi v2] [] μ := by
  intro σ hM
  obtain ⟨hS, hk, e⟩ := id hM
  subst e
  refine b_Mdl_isOver_0 ?_
  obtain ⟨o, h⟩ := h
  refine ⟨o, ?_⟩
  obtain ⟨o, h⟩ := h
  refine ⟨o, ?_⟩
  refine ⟨fun c => ?_, fun c => ?_⟩
  · have h := h.1 c
    exact h _ hM
  · have h := h.2 c
    exact h _ hM
theorem B_isOver_10 {Ω : Om} {σ0 : Sto} {m : Nat} {R : Room} {F : QF} {μ : Mu} {v1 : Int} {v2 : Int} {s0 : Int64} (h : Q32 (cmpL ((lShr s0 v2) &&& 1) 1) ∧ ((¬ (cmpL ((lShr s0 v2) &&& 1) 1) = (0 : Int) → Mw Ω σ0 m M_Mdl_isOver R F 24 [xr (some m), xi v1, xi v2] [xi 0] μ) ∧ ((cmpL ((lShr s0 v2) &&& 1) 1) = (0 : Int) → Mw Ω σ0 m M_Mdl_isOver R F 24 [xr (some m), xi v1, xi v2] [xi 1] μ))) : Mw Ω σ0 m M_Mdl_isOver R F 10 [xr (some m), xi v1, xi v2] [xl s0] μ := by
  intro σ hM
  obtain ⟨hS, hk, e⟩ := id hM
  subst e
  refine b_Mdl_isOver_10 ?_
  obtain ⟨o, h⟩ := h
  refine ⟨o, ?_⟩
  refine ⟨fun c => ?_, fun c => ?_⟩
  · have h := h.1 c
    exact h _ hM
  · have h := h.2 c
    exact h _ hM
theorem C_isOver_7 {Ω : Om} {σ0 : Sto} {m : Nat} {F : QF} {L st : List PV} {μ : Mu} {Q : Int64 → Mu → Prop} {x0 : Int} (hc : MMl Ω m M_Mdl_family rm_Mdl_family Q μ [xi x0]) (kk : ∀ y μ', Q y μ' → Mw Ω σ0 m M_Mdl_isOver rm_Mdl_isOver F 10 L (xl y :: st) μ') (hst : (st.map catP).sum ≤ 8 := by exact Nat.le_of_ble_eq_true rfl) : Mw Ω σ0 m M_Mdl_isOver rm_Mdl_isOver F 7 L (xi x0 :: xr (some m) :: st) μ :=
  fun σ hM => c_Mdl_isOver_7 (hc σ0 σ hM) hM.1.2.1 (by decide) (by decide) (by decide) (by decide) hst (fun y σ' hq => by obtain ⟨μ', h1, h2⟩ := hq; exact kk y μ' h2 σ' h1) (fun _ _ h => h.elim)
theorem R_isOver_24 {Ω : Om} {σ0 : Sto} {m : Nat} {L : List PV} {μ : Mu} {Q : Int → Mu → Prop} {x : Int} (hx : x = 0 ∨ x = 1) (h : Q x μ) : Mw Ω σ0 m M_Mdl_isOver rm_Mdl_isOver (MQi Ω σ0 m rm_Mdl_isOver Q) 24 L [xi x] μ := fun σ hM => r_Mdl_isOver_24 hx ⟨_, rfl, μ, hM, h⟩ (by decide) (by decide)
theorem E_isOver {Ω : Om} {m : Nat} {μ : Mu} {Q : Int → Mu → Prop} {v1 : Int} {v2 : Int} (h : ∀ σ0, Mw Ω σ0 m M_Mdl_isOver rm_Mdl_isOver (MQi Ω σ0 m rm_Mdl_isOver Q) 0 [xr (some m), xi v1, xi v2] [] μ) : MMi Ω m M_Mdl_isOver rm_Mdl_isOver Q μ [xi v1, xi v2] := fun σ0 σ hM => e_Mdl_isOver (h σ0 σ hM)
theorem B_isCompared_0 {Ω : Om} {σ0 : Sto} {m : Nat} {R : Room} {F : QF} {μ : Mu} {v1 : Int} (h : (((mI μ 25) = (0 : Int) → Mw Ω σ0 m M_Mdl_isCompared R F 26 [xr (some m), xi v1] [xi 0] μ) ∧ (¬ (mI μ 25) = (0 : Int) → Mw Ω σ0 m M_Mdl_isCompared R F 15 [xr (some m), xi v1] [xi ((mI μ 26) - 1), xi 0, xi v1] μ))) : Mw Ω σ0 m M_Mdl_isCompared R F 0 [xr (some m), xi v1] [] μ := by
  intro σ hM
  obtain ⟨hS, hk, e⟩ := id hM
  subst e
  refine b_Mdl_isCompared_0 ?_
  refine ⟨hS.2.1, ?_⟩
  refine fun _ => ?_
  refine ⟨fun c => ?_, fun c => ?_⟩
  · have h := h.1 c
    exact h _ hM
  · have h := h.2 c
    refine fun _ => ?_
    exact h _ hM
theorem B_isCompared_18 {Ω : Om} {σ0 : Sto} {m : Nat} {R : Room} {F : QF} {μ : Mu} {v1 : Int} {s0 : Int} (h : Q32 s0 ∧ ((s0 = (0 : Int) → Mw Ω σ0 m M_Mdl_isCompared R F 26 [xr (some m), xi v1] [xi 0] μ) ∧ (¬ s0 = (0 : Int) → Mw Ω σ0 m M_Mdl_isCompared R F 26 [xr (some m), xi v1] [xi 1] μ))) : Mw Ω σ0 m M_Mdl_isCompared R F 18 [xr (some m), xi v1] [xi s0] μ := by
  intro σ hM
  obtain ⟨hS, hk, e⟩ := id hM
  subst e
  refine b_Mdl_isCompared_18 ?_
  obtain ⟨o, h⟩ := h
  refine ⟨o, ?_⟩
  refine ⟨fun c => ?_, fun c => ?_⟩
  · have h := h.1 c
    exact h _ hM
  · have h := h.2 c
    exact h _ hM
theorem C_isCompared_15 {Ω : Om} {σ0 : Sto} {m : Nat} {F : QF} {L st : List PV} {μ : Mu} {P : Int → Prop} {x0 : Int} {x1 : Int} {x2 : Int} (hc : MPi Ω M_Mdl_in rm_Mdl_in P [xi x0, xi x1, xi x2]) (kk : ∀ y , P y  → Mw Ω σ0 m M_Mdl_isCompared rm_Mdl_isCompared F 18 L (xi y :: st) μ) (hst : (st.map catP).sum ≤ 8 := by exact Nat.le_of_ble_eq_true rfl) : Mw Ω σ0 m M_Mdl_isCompared rm_Mdl_isCompared F 15 L (xi x2 :: xi x1 :: xi x0 :: st) μ :=
  fun σ hM => c_Mdl_isCompared_15 (hc σ) (by decide) (by decide) (by decide) (by decide) hst (fun y σ' hq => by obtain ⟨rfl, h2⟩ := hq; exact kk y h2 σ' hM) (fun _ _ h => h.elim)
theorem R_isCompared_26 {Ω : Om} {σ0 : Sto} {m : Nat} {L : List PV} {μ : Mu} {Q : Int → Mu → Prop} {x : Int} (hx : x = 0 ∨ x = 1) (h : Q x μ) : Mw Ω σ0 m M_Mdl_isCompared rm_Mdl_isCompared (MQi Ω σ0 m rm_Mdl_isCompared Q) 26 L [xi x] μ := fun σ hM => r_Mdl_isCompared_26 hx ⟨_, rfl, μ, hM, h⟩ (by decide) (by decide)
theorem E_isCompared {Ω : Om} {m : Nat} {μ : Mu} {Q : Int → Mu → Prop} {v1 : Int} (h : ∀ σ0, Mw Ω σ0 m M_Mdl_isCompared rm_Mdl_isCompared (MQi Ω σ0 m rm_Mdl_isCompared Q) 0 [xr (some m), xi v1] [] μ) : MMi Ω m M_Mdl_isCompared rm_Mdl_isCompared Q μ [xi v1] := fun σ0 σ hM => e_Mdl_isCompared (h σ0 σ hM)
theorem B_isSettled_0 {Ω : Om} {σ0 : Sto} {m : Nat} {R : Room} {F : QF} {μ : Mu}  (h : Q32 ((bShl 1 (mI μ 17)) - 1) ∧ ((¬ (mI μ 18) = ((bShl 1 (mI μ 17)) - 1) → Mw Ω σ0 m M_Mdl_isSettled R F 20 [xr (some m)] [xi 0] μ) ∧ ((mI μ 18) = ((bShl 1 (mI μ 17)) - 1) → Mw Ω σ0 m M_Mdl_isSettled R F 20 [xr (some m)] [xi 1] μ))) : Mw Ω σ0 m M_Mdl_isSettled R F 0 [xr (some m)] [] μ := by
  intro σ hM
  obtain ⟨hS, hk, e⟩ := id hM
  subst e
  refine b_Mdl_isSettled_0 ?_
  refine ⟨hS.2.1, ?_⟩
  refine fun _ => ?_
  refine fun _ => ?_
  obtain ⟨o, h⟩ := h
  refine ⟨o, ?_⟩
  refine ⟨fun c => ?_, fun c => ?_⟩
  · have h := h.1 c
    exact h _ hM
  · have h := h.2 c
    exact h _ hM
theorem R_isSettled_20 {Ω : Om} {σ0 : Sto} {m : Nat} {L : List PV} {μ : Mu} {Q : Int → Mu → Prop} {x : Int} (hx : x = 0 ∨ x = 1) (h : Q x μ) : Mw Ω σ0 m M_Mdl_isSettled rm_Mdl_isSettled (MQi Ω σ0 m rm_Mdl_isSettled Q) 20 L [xi x] μ := fun σ hM => r_Mdl_isSettled_20 hx ⟨_, rfl, μ, hM, h⟩ (by decide) (by decide)
theorem E_isSettled {Ω : Om} {m : Nat} {μ : Mu} {Q : Int → Mu → Prop}  (h : ∀ σ0, Mw Ω σ0 m M_Mdl_isSettled rm_Mdl_isSettled (MQi Ω σ0 m rm_Mdl_isSettled Q) 0 [xr (some m)] [] μ) : MMi Ω m M_Mdl_isSettled rm_Mdl_isSettled Q μ [] := fun σ0 σ hM => e_Mdl_isSettled (h σ0 σ hM)
theorem B_refused_0 {Ω : Om} {σ0 : Sto} {m : Nat} {R : Room} {F : QF} {μ : Mu} {v1 : Int} (h : Q32 v1 ∧ ((v1 = (0 : Int) → Mw Ω σ0 m M_Mdl_refused R F 14 [xr (some m), xi v1] [xi 0] (wI μ 0 v1)) ∧ (¬ v1 = (0 : Int) → Mw Ω σ0 m M_Mdl_refused R F 14 [xr (some m), xi v1] [xi 1] (wI μ 0 v1)))) : Mw Ω σ0 m M_Mdl_refused R F 0 [xr (some m), xi v1] [] μ := by
  intro σ hM
  obtain ⟨hS, hk, e⟩ := id hM
  subst e
  refine b_Mdl_refused_0 ?_
  refine ⟨hS.2.1, ?_⟩
  obtain ⟨o, h⟩ := h
  refine ⟨o, ?_⟩
  refine ⟨fun c => ?_, fun c => ?_⟩
  · have h := h.1 c
    exact h _ (MR.uI (f := 0) hM)
  · have h := h.2 c
    exact h _ (MR.uI (f := 0) hM)
theorem R_refused_14 {Ω : Om} {σ0 : Sto} {m : Nat} {L : List PV} {μ : Mu} {Q : Int → Mu → Prop} {x : Int} (hx : x = 0 ∨ x = 1) (h : Q x μ) : Mw Ω σ0 m M_Mdl_refused rm_Mdl_refused (MQi Ω σ0 m rm_Mdl_refused Q) 14 L [xi x] μ := fun σ hM => r_Mdl_refused_14 hx ⟨_, rfl, μ, hM, h⟩ (by decide) (by decide)
theorem E_refused {Ω : Om} {m : Nat} {μ : Mu} {Q : Int → Mu → Prop} {v1 : Int} (h : ∀ σ0, Mw Ω σ0 m M_Mdl_refused rm_Mdl_refused (MQi Ω σ0 m rm_Mdl_refused Q) 0 [xr (some m), xi v1] [] μ) : MMi Ω m M_Mdl_refused rm_Mdl_refused Q μ [xi v1] := fun σ0 σ hM => e_Mdl_refused (h σ0 σ hM)
