/-! walks of the reference over its memory, 1 (by program) -/
theorem B_compareTrees_0 {Ω : Om} {σ0 : Sto} {m : Nat} {R : Room} {F : QF} {μ : Mu} {v1 : Int} {v2 : Int} (h : 0 ≤ v1 ∧ v1 < 44 ∧ 0 ≤ (22 + v2) ∧ (22 + v2) < 44 ∧ 0 ≤ (((22 * ((mA μ 33 (v1).toNat) - 1)) + (mA μ 33 (22 + v2).toNat)) - 1) ∧ (((22 * ((mA μ 33 (v1).toNat) - 1)) + (mA μ 33 (22 + v2).toNat)) - 1) < 484 ∧ Mw Ω σ0 m M_Mdl_compareTrees R F 38 [xr (some m), xi v1, xi v2, xi (mA μ 33 (v1).toNat), xi (mA μ 33 (22 + v2).toNat), xi (mA μ 33 (v1).toNat), xu, xu, xu] [] (wA μ 36 (((22 * ((mA μ 33 (v1).toNat) - 1)) + (mA μ 33 (22 + v2).toNat)) - 1).toNat 0)) : Mw Ω σ0 m M_Mdl_compareTrees R F 0 [xr (some m), xi v1, xi v2, xu, xu, xu, xu, xu, xu] [] μ := by
  intro σ hM
  obtain ⟨hS, hk, e⟩ := id hM
  subst e
  refine b_Mdl_compareTrees_0 ?_
  refine ⟨hS.2.1, ?_⟩
  refine ⟨_, hS.r33, ?_⟩
  refine ⟨hS.k33, ?_⟩
  obtain ⟨o, h⟩ := h
  refine ⟨o, ?_⟩
  obtain ⟨o, h⟩ := h
  refine ⟨hS.b33 o, ?_⟩
  refine fun _ => ?_
  obtain ⟨o, h⟩ := h
  refine ⟨o, ?_⟩
  obtain ⟨o, h⟩ := h
  refine ⟨hS.b33 o, ?_⟩
  refine fun _ => ?_
  refine ⟨_, hS.r36, ?_⟩
  refine ⟨hS.k36, ?_⟩
  obtain ⟨o, h⟩ := h
  refine ⟨o, ?_⟩
  obtain ⟨o, h⟩ := h
  refine ⟨hS.b36 o, ?_⟩
  exact h _ (MR.vI (j := 36) (by decide) hM)
theorem B_compareTrees_38 {Ω : Om} {σ0 : Sto} {m : Nat} {R : Room} {F : QF} {μ : Mu} {v1 : Int} {v2 : Int} {v3 : Int} {v4 : Int} {v5 : Int} (h : Q32 v5 ∧ Q32 v1 ∧ ((v1 < v5 → Mw Ω σ0 m M_Mdl_compareTrees R F 88 [xr (some m), xi v1, xi v2, xi v3, xi v4, xi v4, xu, xu, xu] [] μ) ∧ (¬ v1 < v5 → 0 ≤ (((22 * (v5 - 1)) + v4) - 1) ∧ (((22 * (v5 - 1)) + v4) - 1) < 484 ∧ 0 ≤ (((22 * v5) + v4) - 1) ∧ (((22 * v5) + v4) - 1) < 484 ∧ Q32 ((mA μ 36 (((22 * (v5 - 1)) + v4) - 1).toNat) + 1) ∧ Mw Ω σ0 m M_Mdl_compareTrees R F 38 [xr (some m), xi v1, xi v2, xi v3, xi v4, xi (v5 + 1), xu, xu, xu] [] (wA μ 36 (((22 * v5) + v4) - 1).toNat ((mA μ 36 (((22 * (v5 - 1)) + v4) - 1).toNat) + 1))))) : Mw Ω σ0 m M_Mdl_compareTrees R F 38 [xr (some m), xi v1, xi v2, xi v3, xi v4, xi v5, xu, xu, xu] [] μ := by
  intro σ hM
  obtain ⟨hS, hk, e⟩ := id hM
  subst e
  refine b_Mdl_compareTrees_38 ?_
  obtain ⟨o, h⟩ := h
  refine ⟨o, ?_⟩
  obtain ⟨o, h⟩ := h
  refine ⟨o, ?_⟩
  refine ⟨fun c => ?_, fun c => ?_⟩
  · have h := h.1 c
    exact h _ hM
  · have h := h.2 c
    refine ⟨hS.2.1, ?_⟩
    refine ⟨_, hS.r36, ?_⟩
    refine ⟨hS.k36, ?_⟩
    obtain ⟨o, h⟩ := h
    refine ⟨o, ?_⟩
    obtain ⟨o, h⟩ := h
    refine ⟨hS.b36 o, ?_⟩
    refine fun _ => ?_
    obtain ⟨o, h⟩ := h
    refine ⟨o, ?_⟩
    obtain ⟨o, h⟩ := h
    refine ⟨hS.b36 o, ?_⟩
    obtain ⟨o, h⟩ := h
    refine ⟨o, ?_⟩
    exact h _ (MR.vI (j := 36) (by decide) hM)
theorem B_compareTrees_88 {Ω : Om} {σ0 : Sto} {m : Nat} {R : Room} {F : QF} {μ : Mu} {v1 : Int} {v2 : Int} {v3 : Int} {v4 : Int} {v5 : Int} (h : Q32 v5 ∧ Q32 v2 ∧ ((v2 < v5 → Mw Ω σ0 m M_Mdl_compareTrees R F 135 [xr (some m), xi v1, xi v2, xi v3, xi v4, xi v3, xu, xu, xu] [] μ) ∧ (¬ v2 < v5 → 0 ≤ (((22 * (v3 - 1)) + v5) - 1) ∧ (((22 * (v3 - 1)) + v5) - 1) < 484 ∧ 0 ≤ ((22 * (v3 - 1)) + v5) ∧ ((22 * (v3 - 1)) + v5) < 484 ∧ Q32 ((mA μ 36 (((22 * (v3 - 1)) + v5) - 1).toNat) + 1) ∧ Mw Ω σ0 m M_Mdl_compareTrees R F 88 [xr (some m), xi v1, xi v2, xi v3, xi v4, xi (v5 + 1), xu, xu, xu] [] (wA μ 36 ((22 * (v3 - 1)) + v5).toNat ((mA μ 36 (((22 * (v3 - 1)) + v5) - 1).toNat) + 1))))) : Mw Ω σ0 m M_Mdl_compareTrees R F 88 [xr (some m), xi v1, xi v2, xi v3, xi v4, xi v5, xu, xu, xu] [] μ := by
  intro σ hM
  obtain ⟨hS, hk, e⟩ := id hM
  subst e
  refine b_Mdl_compareTrees_88 ?_
  obtain ⟨o, h⟩ := h
  refine ⟨o, ?_⟩
  obtain ⟨o, h⟩ := h
  refine ⟨o, ?_⟩
  refine ⟨fun c => ?_, fun c => ?_⟩
  · have h := h.1 c
    exact h _ hM
  · have h := h.2 c
    refine ⟨hS.2.1, ?_⟩
    refine ⟨_, hS.r36, ?_⟩
    refine ⟨hS.k36, ?_⟩
    obtain ⟨o, h⟩ := h
    refine ⟨o, ?_⟩
    obtain ⟨o, h⟩ := h
    refine ⟨hS.b36 o, ?_⟩
    refine fun _ => ?_
    obtain ⟨o, h⟩ := h
    refine ⟨o, ?_⟩
    obtain ⟨o, h⟩ := h
    refine ⟨hS.b36 o, ?_⟩
    obtain ⟨o, h⟩ := h
    refine ⟨o, ?_⟩
    exact h _ (MR.vI (j := 36) (by decide) hM)
theorem B_compareTrees_135 {Ω : Om} {σ0 : Sto} {m : Nat} {R : Room} {F : QF} {μ : Mu} {v1 : Int} {v2 : Int} {v3 : Int} {v4 : Int} {v5 : Int} (h : Q32 v5 ∧ Q32 v1 ∧ ((v1 < v5 → Mw Ω σ0 m M_Mdl_compareTrees R F 388 [xr (some m), xi v1, xi v2, xi v3, xi v4, xi v5, xu, xu, xu] [] μ) ∧ (¬ v1 < v5 → Mw Ω σ0 m M_Mdl_compareTrees R F 145 [xr (some m), xi v1, xi v2, xi v3, xi v4, xi v5, xi v4, xu, xu] [] μ))) : Mw Ω σ0 m M_Mdl_compareTrees R F 135 [xr (some m), xi v1, xi v2, xi v3, xi v4, xi v5, xu, xu, xu] [] μ := by
  intro σ hM
  obtain ⟨hS, hk, e⟩ := id hM
  subst e
  refine b_Mdl_compareTrees_135 ?_
  obtain ⟨o, h⟩ := h
  refine ⟨o, ?_⟩
  obtain ⟨o, h⟩ := h
  refine ⟨o, ?_⟩
  refine ⟨fun c => ?_, fun c => ?_⟩
  · have h := h.1 c
    exact h _ hM
  · have h := h.2 c
    exact h _ hM
theorem B_compareTrees_145 {Ω : Om} {σ0 : Sto} {m : Nat} {R : Room} {F : QF} {μ : Mu} {v1 : Int} {v2 : Int} {v3 : Int} {v4 : Int} {v5 : Int} {v6 : Int} (h : Q32 v6 ∧ Q32 v2 ∧ ((v2 < v6 → Mw Ω σ0 m M_Mdl_compareTrees R F 135 [xr (some m), xi v1, xi v2, xi v3, xi v4, xi (v5 + 1), xu, xu, xu] [] μ) ∧ (¬ v2 < v6 → 0 ≤ v5 ∧ v5 < 44 ∧ Q32 v3 ∧ ((¬ (mA μ 33 (v5).toNat) = v3 → 0 ≤ (22 + v6) ∧ (22 + v6) < 44 ∧ 0 ≤ (((22 * ((mA μ 33 (v5).toNat) - 1)) + (mA μ 33 (22 + v6).toNat)) - 1) ∧ (((22 * ((mA μ 33 (v5).toNat) - 1)) + (mA μ 33 (22 + v6).toNat)) - 1) < 484 ∧ 0 ≤ ((22 * v5) + v6) ∧ ((22 * v5) + v6) < 484 ∧ 0 ≤ ((22 * (v5 - 1)) + v6) ∧ ((22 * (v5 - 1)) + v6) < 484 ∧ 0 ≤ (((22 * v5) + v6) - 1) ∧ (((22 * v5) + v6) - 1) < 484 ∧ Mw Ω σ0 m M_Mdl_compareTrees R F 325 [xr (some m), xi v1, xi v2, xi v3, xi v4, xi v5, xi v6, xi 0, xi ((mA μ 36 (((22 * ((mA μ 33 (v5).toNat) - 1)) + (mA μ 33 (22 + v6).toNat)) - 1).toNat) + (mA μ 35 ((22 * v5) + v6).toNat))] [xi ((mA μ 36 (((22 * ((mA μ 33 (v5).toNat) - 1)) + (mA μ 33 (22 + v6).toNat)) - 1).toNat) + (mA μ 35 ((22 * v5) + v6).toNat)), xi ((mA μ 36 (((22 * v5) + v6) - 1).toNat) + 1), xi ((mA μ 36 ((22 * (v5 - 1)) + v6).toNat) + 1), xi ((22 * v5) + v6), xr (some (m + 36))] μ) ∧ ((mA μ 33 (v5).toNat) = v3 → 0 ≤ (22 + v6) ∧ (22 + v6) < 44 ∧ Q32 v4 ∧ ((¬ (mA μ 33 (22 + v6).toNat) = v4 → 0 ≤ (((22 * ((mA μ 33 (v5).toNat) - 1)) + (mA μ 33 (22 + v6).toNat)) - 1) ∧ (((22 * ((mA μ 33 (v5).toNat) - 1)) + (mA μ 33 (22 + v6).toNat)) - 1) < 484 ∧ 0 ≤ ((22 * v5) + v6) ∧ ((22 * v5) + v6) < 484 ∧ 0 ≤ ((22 * (v5 - 1)) + v6) ∧ ((22 * (v5 - 1)) + v6) < 484 ∧ 0 ≤ (((22 * v5) + v6) - 1) ∧ (((22 * v5) + v6) - 1) < 484 ∧ Mw Ω σ0 m M_Mdl_compareTrees R F 325 [xr (some m), xi v1, xi v2, xi v3, xi v4, xi v5, xi v6, xi 0, xi ((mA μ 36 (((22 * ((mA μ 33 (v5).toNat) - 1)) + (mA μ 33 (22 + v6).toNat)) - 1).toNat) + (mA μ 35 ((22 * v5) + v6).toNat))] [xi ((mA μ 36 (((22 * ((mA μ 33 (v5).toNat) - 1)) + (mA μ 33 (22 + v6).toNat)) - 1).toNat) + (mA μ 35 ((22 * v5) + v6).toNat)), xi ((mA μ 36 (((22 * v5) + v6) - 1).toNat) + 1), xi ((mA μ 36 ((22 * (v5 - 1)) + v6).toNat) + 1), xi ((22 * v5) + v6), xr (some (m + 36))] μ) ∧ ((mA μ 33 (22 + v6).toNat) = v4 → 0 ≤ (((22 * (v5 - 1)) + v6) - 1) ∧ (((22 * (v5 - 1)) + v6) - 1) < 484 ∧ 0 ≤ v5 ∧ v5 < 44 ∧ 0 ≤ (22 + v6) ∧ (22 + v6) < 44 ∧ Mw Ω σ0 m M_Mdl_compareTrees R F 224 [xr (some m), xi v1, xi v2, xi v3, xi v4, xi v5, xi v6, xi 1, xu] [xi (mA μ 32 (22 + v6).toNat), xi (mA μ 32 (v5).toNat), xr (some m), xi (mA μ 36 (((22 * (v5 - 1)) + v6) - 1).toNat)] μ))))))) : Mw Ω σ0 m M_Mdl_compareTrees R F 145 [xr (some m), xi v1, xi v2, xi v3, xi v4, xi v5, xi v6, xu, xu] [] μ := by
  intro σ hM
  obtain ⟨hS, hk, e⟩ := id hM
  subst e
  refine b_Mdl_compareTrees_145 ?_
  obtain ⟨o, h⟩ := h
  refine ⟨o, ?_⟩
  obtain ⟨o, h⟩ := h
  refine ⟨o, ?_⟩
  refine ⟨fun c => ?_, fun c => ?_⟩
  · have h := h.1 c
    exact h _ hM
  · have h := h.2 c
    refine ⟨hS.2.1, ?_⟩
    refine ⟨_, hS.r33, ?_⟩
    refine ⟨hS.k33, ?_⟩
    obtain ⟨o, h⟩ := h
    refine ⟨o, ?_⟩
    obtain ⟨o, h⟩ := h
    refine ⟨hS.b33 o, ?_⟩
    refine fun _ => ?_
    obtain ⟨o, h⟩ := h
    refine ⟨o, ?_⟩
    refine ⟨fun c => ?_, fun c => ?_⟩
    · have h := h.1 c
      refine ⟨_, hS.r36, ?_⟩
      refine fun _ => ?_
      obtain ⟨o, h⟩ := h
      refine ⟨o, ?_⟩
      obtain ⟨o, h⟩ := h
      refine ⟨hS.b33 o, ?_⟩
      refine fun _ => ?_
      refine ⟨hS.k36, ?_⟩
      obtain ⟨o, h⟩ := h
      refine ⟨o, ?_⟩
      obtain ⟨o, h⟩ := h
      refine ⟨hS.b36 o, ?_⟩
      refine fun _ => ?_
      refine ⟨_, hS.r35, ?_⟩
      refine ⟨hS.k35, ?_⟩
      obtain ⟨o, h⟩ := h
      refine ⟨o, ?_⟩
      obtain ⟨o, h⟩ := h
      refine ⟨hS.b35 o, ?_⟩
      refine fun _ => ?_
      obtain ⟨o, h⟩ := h
      refine ⟨o, ?_⟩
      obtain ⟨o, h⟩ := h
      refine ⟨hS.b36 o, ?_⟩
      refine fun _ => ?_
      obtain ⟨o, h⟩ := h
      refine ⟨o, ?_⟩
      obtain ⟨o, h⟩ := h
      refine ⟨hS.b36 o, ?_⟩
      refine fun _ => ?_
      exact h _ hM
    · have h := h.2 c
      obtain ⟨o, h⟩ := h
      refine ⟨o, ?_⟩
      obtain ⟨o, h⟩ := h
      refine ⟨hS.b33 o, ?_⟩
      refine fun _ => ?_
      obtain ⟨o, h⟩ := h
      refine ⟨o, ?_⟩
      refine ⟨fun c => ?_, fun c => ?_⟩
      · have h := h.1 c
        refine ⟨_, hS.r36, ?_⟩
        refine fun _ => ?_
        refine fun _ => ?_
        refine ⟨hS.k36, ?_⟩
        obtain ⟨o, h⟩ := h
        refine ⟨o, ?_⟩
        obtain ⟨o, h⟩ := h
        refine ⟨hS.b36 o, ?_⟩
        refine fun _ => ?_
        refine ⟨_, hS.r35, ?_⟩
        refine ⟨hS.k35, ?_⟩
        obtain ⟨o, h⟩ := h
        refine ⟨o, ?_⟩
        obtain ⟨o, h⟩ := h
        refine ⟨hS.b35 o, ?_⟩
        refine fun _ => ?_
        obtain ⟨o, h⟩ := h
        refine ⟨o, ?_⟩
        obtain ⟨o, h⟩ := h
        refine ⟨hS.b36 o, ?_⟩
        refine fun _ => ?_
        obtain ⟨o, h⟩ := h
        refine ⟨o, ?_⟩
        obtain ⟨o, h⟩ := h
        refine ⟨hS.b36 o, ?_⟩
        refine fun _ => ?_
        exact h _ hM
      · have h := h.2 c
        refine ⟨_, hS.r36, ?_⟩
        refine ⟨hS.k36, ?_⟩
        obtain ⟨o, h⟩ := h
        refine ⟨o, ?_⟩
        obtain ⟨o, h⟩ := h
        refine ⟨hS.b36 o, ?_⟩
        refine fun _ => ?_
        refine ⟨_, hS.r32, ?_⟩
        refine ⟨hS.k32, ?_⟩
        obtain ⟨o, h⟩ := h
        refine ⟨o, ?_⟩
        obtain ⟨o, h⟩ := h
        refine ⟨hS.b32 o, ?_⟩
        refine fun _ => ?_
        obtain ⟨o, h⟩ := h
        refine ⟨o, ?_⟩
        obtain ⟨o, h⟩ := h
        refine ⟨hS.b32 o, ?_⟩
        refine fun _ => ?_
        exact h _ hM
theorem B_compareTrees_227 {Ω : Om} {σ0 : Sto} {m : Nat} {R : Room} {F : QF} {μ : Mu} {v1 : Int} {v2 : Int} {v3 : Int} {v4 : Int} {v5 : Int} {v6 : Int} {v7 : Int} {s0 : Int} {s1 : Int} (h : 0 ≤ ((22 * (v5 - 1)) + v6) ∧ ((22 * (v5 - 1)) + v6) < 484 ∧ 0 ≤ (((22 * v5) + v6) - 1) ∧ (((22 * v5) + v6) - 1) < 484 ∧ Mw Ω σ0 m M_Mdl_compareTrees R F 325 [xr (some m), xi v1, xi v2, xi v3, xi v4, xi v5, xi v6, xi v7, xi (s0 + s1)] [xi (s0 + s1), xi ((mA μ 36 (((22 * v5) + v6) - 1).toNat) + 1), xi ((mA μ 36 ((22 * (v5 - 1)) + v6).toNat) + 1), xi ((22 * v5) + v6), xr (some (m + 36))] μ) : Mw Ω σ0 m M_Mdl_compareTrees R F 227 [xr (some m), xi v1, xi v2, xi v3, xi v4, xi v5, xi v6, xi v7, xu] [xi s1, xi s0] μ := by
  intro σ hM
  obtain ⟨hS, hk, e⟩ := id hM
  subst e
  refine b_Mdl_compareTrees_227 ?_
  refine ⟨hS.2.1, ?_⟩
  refine ⟨_, hS.r36, ?_⟩
  refine ⟨hS.k36, ?_⟩
  obtain ⟨o, h⟩ := h
  refine ⟨o, ?_⟩
  obtain ⟨o, h⟩ := h
  refine ⟨hS.b36 o, ?_⟩
  refine fun _ => ?_
  obtain ⟨o, h⟩ := h
  refine ⟨o, ?_⟩
  obtain ⟨o, h⟩ := h
  refine ⟨hS.b36 o, ?_⟩
  refine fun _ => ?_
  exact h _ hM
theorem B_compareTrees_328 {Ω : Om} {σ0 : Sto} {m : Nat} {R : Room} {F : QF} {μ : Mu} {v1 : Int} {v2 : Int} {v3 : Int} {v4 : Int} {v5 : Int} {v6 : Int} {v7 : Int} {v8 : Int} {s1 : Int} {s2 : Int} (h : 0 ≤ s1 ∧ s1 < 484 ∧ Q32 s2 ∧ Mw Ω σ0 m M_Mdl_compareTrees R F 329 [xr (some m), xi v1, xi v2, xi v3, xi v4, xi v5, xi v6, xi v7, xi v8] [] (wA μ 36 (s1).toNat s2)) : Mw Ω σ0 m M_Mdl_compareTrees R F 328 [xr (some m), xi v1, xi v2, xi v3, xi v4, xi v5, xi v6, xi v7, xi v8] [xi s2, xi s1, xr (some (m + 36))] μ := by
  intro σ hM
  obtain ⟨hS, hk, e⟩ := id hM
  subst e
  refine b_Mdl_compareTrees_328 ?_
  refine ⟨hS.k36, ?_⟩
  obtain ⟨o, h⟩ := h
  refine ⟨o, ?_⟩
  obtain ⟨o, h⟩ := h
  refine ⟨hS.b36 o, ?_⟩
  obtain ⟨o, h⟩ := h
  refine ⟨o, ?_⟩
  exact h _ (MR.vI (j := 36) (by decide) hM)
theorem B_compareTrees_329 {Ω : Om} {σ0 : Sto} {m : Nat} {R : Room} {F : QF} {μ : Mu} {v1 : Int} {v2 : Int} {v3 : Int} {v4 : Int} {v5 : Int} {v6 : Int} {v7 : Int} {v8 : Int} (h : Q32 v7 ∧ ((v7 = (0 : Int) → 0 ≤ ((22 * v5) + v6) ∧ ((22 * v5) + v6) < 484 ∧ Mw Ω σ0 m M_Mdl_compareTrees R F 145 [xr (some m), xi v1, xi v2, xi v3, xi v4, xi v5, xi (v6 + 1), xu, xu] [] (wA μ 35 ((22 * v5) + v6).toNat (mA μ 35 ((22 * v5) + v6).toNat))) ∧ (¬ v7 = (0 : Int) → 0 ≤ ((22 * v5) + v6) ∧ ((22 * v5) + v6) < 484 ∧ 0 ≤ ((22 * v5) + v6) ∧ ((22 * v5) + v6) < 484 ∧ Mw Ω σ0 m M_Mdl_compareTrees R F 145 [xr (some m), xi v1, xi v2, xi v3, xi v4, xi v5, xi (v6 + 1), xu, xu] [] (wA μ 35 ((22 * v5) + v6).toNat (mA μ 36 ((22 * v5) + v6).toNat))))) : Mw Ω σ0 m M_Mdl_compareTrees R F 329 [xr (some m), xi v1, xi v2, xi v3, xi v4, xi v5, xi v6, xi v7, xi v8] [] μ := by
  intro σ hM
  obtain ⟨hS, hk, e⟩ := id hM
  subst e
  refine b_Mdl_compareTrees_329 ?_
  refine ⟨hS.2.1, ?_⟩
  refine ⟨_, hS.r35, ?_⟩
  obtain ⟨o, h⟩ := h
  refine ⟨o, ?_⟩
  refine ⟨fun c => ?_, fun c => ?_⟩
  · have h := h.1 c
    refine ⟨hS.k35, ?_⟩
    obtain ⟨o, h⟩ := h
    refine ⟨o, ?_⟩
    obtain ⟨o, h⟩ := h
    refine ⟨hS.b35 o, ?_⟩
    refine fun _ => ?_
    exact h _ (MR.vI (j := 35) (by decide) hM)
  · have h := h.2 c
    refine ⟨_, hS.r36, ?_⟩
    refine ⟨hS.k36, ?_⟩
    obtain ⟨o, h⟩ := h
    refine ⟨o, ?_⟩
    obtain ⟨o, h⟩ := h
    refine ⟨hS.b36 o, ?_⟩
    refine fun _ => ?_
    refine ⟨hS.k35, ?_⟩
    obtain ⟨o, h⟩ := h
    refine ⟨o, ?_⟩
    obtain ⟨o, h⟩ := h
    refine ⟨hS.b35 o, ?_⟩
    exact h _ (MR.vI (j := 35) (by decide) hM)
theorem C_compareTrees_224 {Ω : Om} {σ0 : Sto} {m : Nat} {F : QF} {L st : List PV} {μ : Mu} {Q : Int → Mu → Prop} {x0 : Int} {x1 : Int} (hc : MMi Ω m M_Mdl_changes rm_Mdl_changes Q μ [xi x0, xi x1]) (kk : ∀ y μ', Q y μ' → Mw Ω σ0 m M_Mdl_compareTrees rm_Mdl_compareTrees F 227 L (xi y :: st) μ') (hst : (st.map catP).sum ≤ 8 := by exact Nat.le_of_ble_eq_true rfl) : Mw Ω σ0 m M_Mdl_compareTrees rm_Mdl_compareTrees F 224 L (xi x1 :: xi x0 :: xr (some m) :: st) μ :=
  fun σ hM => c_Mdl_compareTrees_224 (hc σ0 σ hM) hM.1.2.1 (by decide) (by decide) (by decide) (by decide) hst (fun y σ' hq => by obtain ⟨μ', h1, h2⟩ := hq; exact kk y μ' h2 σ' h1) (fun _ _ h => h.elim)
theorem C_compareTrees_325 {Ω : Om} {σ0 : Sto} {m : Nat} {F : QF} {L st : List PV} {μ : Mu} {P : Int → Prop} {x0 : Int} {x1 : Int} {x2 : Int} (hc : MPi Ω M_Mdl_least rm_Mdl_least P [xi x0, xi x1, xi x2]) (kk : ∀ y , P y  → Mw Ω σ0 m M_Mdl_compareTrees rm_Mdl_compareTrees F 328 L (xi y :: st) μ) (hst : (st.map catP).sum ≤ 8 := by exact Nat.le_of_ble_eq_true rfl) : Mw Ω σ0 m M_Mdl_compareTrees rm_Mdl_compareTrees F 325 L (xi x2 :: xi x1 :: xi x0 :: st) μ :=
  fun σ hM => c_Mdl_compareTrees_325 (hc σ) (by decide) (by decide) (by decide) (by decide) hst (fun y σ' hq => by obtain ⟨rfl, h2⟩ := hq; exact kk y h2 σ' hM) (fun _ _ h => h.elim)
theorem R_compareTrees_388 {Ω : Om} {σ0 : Sto} {m : Nat} {L : List PV} {μ : Mu} {Q : Mu → Prop} (h : Q μ) : Mw Ω σ0 m M_Mdl_compareTrees rm_Mdl_compareTrees (MQv Ω σ0 m rm_Mdl_compareTrees Q) 388 L [] μ := fun σ hM => r_Mdl_compareTrees_388 ⟨rfl, μ, hM, h⟩ (by decide) (by decide)
theorem E_compareTrees {Ω : Om} {m : Nat} {μ : Mu} {Q : Mu → Prop} {v1 : Int} {v2 : Int} (h : ∀ σ0, Mw Ω σ0 m M_Mdl_compareTrees rm_Mdl_compareTrees (MQv Ω σ0 m rm_Mdl_compareTrees Q) 0 [xr (some m), xi v1, xi v2, xu, xu, xu, xu, xu, xu] [] μ) : MMv Ω m M_Mdl_compareTrees rm_Mdl_compareTrees Q μ [xi v1, xi v2] := fun σ0 σ hM => e_Mdl_compareTrees (h σ0 σ hM)
theorem B_findMove_0 {Ω : Om} {σ0 : Sto} {m : Nat} {R : Room} {F : QF} {μ : Mu} {v1 : Int} {v2 : Int} {v3 : Int} (h : Mw Ω σ0 m M_Mdl_findMove R F 12 [xr (some m), xi v1, xi v2, xi v3, xi 0, xi 0, xi 0, xi 0, xu, xu, xu] [] μ) : Mw Ω σ0 m M_Mdl_findMove R F 0 [xr (some m), xi v1, xi v2, xi v3, xu, xu, xu, xu, xu, xu, xu] [] μ := by
  intro σ hM
  obtain ⟨hS, hk, e⟩ := id hM
  subst e
  refine b_Mdl_findMove_0 ?_
  exact h _ hM
theorem B_findMove_12 {Ω : Om} {σ0 : Sto} {m : Nat} {R : Room} {F : QF} {μ : Mu} {v1 : Int} {v2 : Int} {v3 : Int} {v4 : Int} {v5 : Int} {v6 : Int} {v7 : Int} (h : 0 ≤ v1 ∧ v1 < 40 ∧ Q32 v7 ∧ (((mA μ 4 (v1).toNat) ≤ v7 → Mw Ω σ0 m M_Mdl_findMove R F 234 [xr (some m), xi v1, xi v2, xi v3, xi v4, xi v5, xi v6, xi 0, xu, xu, xu] [] μ) ∧ (¬ (mA μ 4 (v1).toNat) ≤ v7 → Mw Ω σ0 m M_Mdl_findMove R F 26 [xr (some m), xi v1, xi v2, xi v3, xi v4, xi v5, xi v6, xi v7, xi 0, xu, xu] [] μ))) : Mw Ω σ0 m M_Mdl_findMove R F 12 [xr (some m), xi v1, xi v2, xi v3, xi v4, xi v5, xi v6, xi v7, xu, xu, xu] [] μ := by
  intro σ hM
  obtain ⟨hS, hk, e⟩ := id hM
  subst e
  refine b_Mdl_findMove_12 ?_
  refine ⟨hS.2.1, ?_⟩
  refine ⟨_, hS.r4, ?_⟩
  refine ⟨hS.k4, ?_⟩
  obtain ⟨o, h⟩ := h
  refine ⟨o, ?_⟩
  obtain ⟨o, h⟩ := h
  refine ⟨hS.b4 o, ?_⟩
  refine fun _ => ?_
  obtain ⟨o, h⟩ := h
  refine ⟨o, ?_⟩
  refine ⟨fun c => ?_, fun c => ?_⟩
  · have h := h.1 c
    exact h _ hM
  · have h := h.2 c
    exact h _ hM
theorem B_findMove_26 {Ω : Om} {σ0 : Sto} {m : Nat} {R : Room} {F : QF} {μ : Mu} {v1 : Int} {v2 : Int} {v3 : Int} {v4 : Int} {v5 : Int} {v6 : Int} {v7 : Int} {v8 : Int} (h : 0 ≤ v2 ∧ v2 < 40 ∧ Q32 v8 ∧ (((mA μ 4 (v2).toNat) ≤ v8 → Mw Ω σ0 m M_Mdl_findMove R F 12 [xr (some m), xi v1, xi v2, xi v3, xi v4, xi v5, xi v6, xi (v7 + 1), xu, xu, xu] [] μ) ∧ (¬ (mA μ 4 (v2).toNat) ≤ v8 → Mw Ω σ0 m M_Mdl_findMove R F 40 [xr (some m), xi v1, xi v2, xi v3, xi v4, xi v5, xi v6, xi v7, xi v8, xi 0, xu] [] μ))) : Mw Ω σ0 m M_Mdl_findMove R F 26 [xr (some m), xi v1, xi v2, xi v3, xi v4, xi v5, xi v6, xi v7, xi v8, xu, xu] [] μ := by
  intro σ hM
  obtain ⟨hS, hk, e⟩ := id hM
  subst e
  refine b_Mdl_findMove_26 ?_
  refine ⟨hS.2.1, ?_⟩
  refine ⟨_, hS.r4, ?_⟩
  refine ⟨hS.k4, ?_⟩
  obtain ⟨o, h⟩ := h
  refine ⟨o, ?_⟩
  obtain ⟨o, h⟩ := h
  refine ⟨hS.b4 o, ?_⟩
  refine fun _ => ?_
  obtain ⟨o, h⟩ := h
  refine ⟨o, ?_⟩
  refine ⟨fun c => ?_, fun c => ?_⟩
  · have h := h.1 c
    exact h _ hM
  · have h := h.2 c
    exact h _ hM
theorem B_findMove_40 {Ω : Om} {σ0 : Sto} {m : Nat} {R : Room} {F : QF} {μ : Mu} {v1 : Int} {v2 : Int} {v3 : Int} {v4 : Int} {v5 : Int} {v6 : Int} {v7 : Int} {v8 : Int} {v9 : Int} (h : 0 ≤ v1 ∧ v1 < 40 ∧ Q32 (v7 + v9) ∧ (((mA μ 4 (v1).toNat) ≤ (v7 + v9) → Mw Ω σ0 m M_Mdl_findMove R F 152 [xr (some m), xi v1, xi v2, xi v3, xi v4, xi v5, xi v6, xi v7, xi v8, xi v9, xu] [] μ) ∧ (¬ (mA μ 4 (v1).toNat) ≤ (v7 + v9) → 0 ≤ v2 ∧ v2 < 40 ∧ Q32 (v8 + v9) ∧ (((mA μ 4 (v2).toNat) ≤ (v8 + v9) → Mw Ω σ0 m M_Mdl_findMove R F 152 [xr (some m), xi v1, xi v2, xi v3, xi v4, xi v5, xi v6, xi v7, xi v8, xi v9, xu] [] μ) ∧ (¬ (mA μ 4 (v2).toNat) ≤ (v8 + v9) → 0 ≤ (v7 + v9) ∧ (v7 + v9) < 20 ∧ ((¬ (mA μ 15 (v7 + v9).toNat) = (-1 : Int) → Mw Ω σ0 m M_Mdl_findMove R F 152 [xr (some m), xi v1, xi v2, xi v3, xi v4, xi v5, xi v6, xi v7, xi v8, xi v9, xu] [] μ) ∧ ((mA μ 15 (v7 + v9).toNat) = (-1 : Int) → 0 ≤ (v7 + v9) ∧ (v7 + v9) < 20 ∧ ((¬ (mA μ 16 (v7 + v9).toNat) = (-1 : Int) → Mw Ω σ0 m M_Mdl_findMove R F 152 [xr (some m), xi v1, xi v2, xi v3, xi v4, xi v5, xi v6, xi v7, xi v8, xi v9, xu] [] μ) ∧ ((mA μ 16 (v7 + v9).toNat) = (-1 : Int) → Mw Ω σ0 m M_Mdl_findMove R F 102 [xr (some m), xi v1, xi v2, xi v3, xi v4, xi v5, xi v6, xi v7, xi v8, xi v9, xu] [xi (v8 + v9), xr (some m)] μ))))))))) : Mw Ω σ0 m M_Mdl_findMove R F 40 [xr (some m), xi v1, xi v2, xi v3, xi v4, xi v5, xi v6, xi v7, xi v8, xi v9, xu] [] μ := by
  intro σ hM
  obtain ⟨hS, hk, e⟩ := id hM
  subst e
  refine b_Mdl_findMove_40 ?_
  refine ⟨hS.2.1, ?_⟩
  refine ⟨_, hS.r4, ?_⟩
  refine ⟨hS.k4, ?_⟩
  obtain ⟨o, h⟩ := h
  refine ⟨o, ?_⟩
  obtain ⟨o, h⟩ := h
  refine ⟨hS.b4 o, ?_⟩
  refine fun _ => ?_
  obtain ⟨o, h⟩ := h
  refine ⟨o, ?_⟩
  refine ⟨fun c => ?_, fun c => ?_⟩
  · have h := h.1 c
    exact h _ hM
  · have h := h.2 c
    obtain ⟨o, h⟩ := h
    refine ⟨o, ?_⟩
    obtain ⟨o, h⟩ := h
    refine ⟨hS.b4 o, ?_⟩
    refine fun _ => ?_
    obtain ⟨o, h⟩ := h
    refine ⟨o, ?_⟩
    refine ⟨fun c => ?_, fun c => ?_⟩
    · have h := h.1 c
      exact h _ hM
    · have h := h.2 c
      refine ⟨_, hS.r15, ?_⟩
      refine ⟨hS.k15, ?_⟩
      obtain ⟨o, h⟩ := h
      refine ⟨o, ?_⟩
      obtain ⟨o, h⟩ := h
      refine ⟨hS.b15 o, ?_⟩
      refine fun _ => ?_
      refine ⟨fun c => ?_, fun c => ?_⟩
      · have h := h.1 c
        exact h _ hM
      · have h := h.2 c
        refine ⟨_, hS.r16, ?_⟩
        refine ⟨hS.k16, ?_⟩
        obtain ⟨o, h⟩ := h
        refine ⟨o, ?_⟩
        obtain ⟨o, h⟩ := h
        refine ⟨hS.b16 o, ?_⟩
        refine fun _ => ?_
        refine ⟨fun c => ?_, fun c => ?_⟩
        · have h := h.1 c
          exact h _ hM
        · have h := h.2 c
          exact h _ hM
theorem B_findMove_105 {Ω : Om} {σ0 : Sto} {m : Nat} {R : Room} {F : QF} {μ : Mu} {v1 : Int} {v2 : Int} {v3 : Int} {v4 : Int} {v5 : Int} {v6 : Int} {v7 : Int} {v8 : Int} {v9 : Int} {s0 : Int} (h : Q32 s0 ∧ ((¬ s0 = (0 : Int) → Q32 v9 ∧ (((1 : Int) < v9 → Q32 v4 ∧ ((v9 ≤ v4 → Mw Ω σ0 m M_Mdl_findMove R F 26 [xr (some m), xi v1, xi v2, xi v3, xi v4, xi v5, xi v6, xi v7, xi (v8 + 1), xu, xu] [] μ) ∧ (¬ v9 ≤ v4 → Mw Ω σ0 m M_Mdl_findMove R F 26 [xr (some m), xi v1, xi v2, xi v3, xi v9, xi v7, xi v8, xi v7, xi (v8 + 1), xu, xu] [] μ))) ∧ (¬ (1 : Int) < v9 → ((¬ v9 = (1 : Int) → Mw Ω σ0 m M_Mdl_findMove R F 26 [xr (some m), xi v1, xi v2, xi v3, xi v4, xi v5, xi v6, xi v7, xi (v8 + 1), xu, xu] [] μ) ∧ (v9 = (1 : Int) → 0 ≤ ((20 * v1) + v7) ∧ ((20 * v1) + v7) < 800 ∧ 0 ≤ (mA μ 5 ((20 * v1) + v7).toNat) ∧ (mA μ 5 ((20 * v1) + v7).toNat) < 16384 ∧ Mw Ω σ0 m M_Mdl_findMove R F 181 [xr (some m), xi v1, xi v2, xi v3, xi v4, xi v5, xi v6, xi v7, xi v8, xi v9, xu] [xl (mG μ 1 (mA μ 5 ((20 * v1) + v7).toNat).toNat)] μ))))) ∧ (s0 = (0 : Int) → 0 ≤ (((20 * v1) + v7) + v9) ∧ (((20 * v1) + v7) + v9) < 800 ∧ 0 ≤ (((20 * v2) + v8) + v9) ∧ (((20 * v2) + v8) + v9) < 800 ∧ Mw Ω σ0 m M_Mdl_findMove R F 140 [xr (some m), xi v1, xi v2, xi v3, xi v4, xi v5, xi v6, xi v7, xi v8, xi v9, xu] [xi v3, xi (mA μ 5 (((20 * v2) + v8) + v9).toNat), xi (mA μ 5 (((20 * v1) + v7) + v9).toNat), xr (some m)] μ))) : Mw Ω σ0 m M_Mdl_findMove R F 105 [xr (some m), xi v1, xi v2, xi v3, xi v4, xi v5, xi v6, xi v7, xi v8, xi v9, xu] [xi s0] μ := by
  intro σ hM
  obtain ⟨hS, hk, e⟩ := id hM
  subst e
  refine b_Mdl_findMove_105 ?_
  obtain ⟨o, h⟩ := h
  refine ⟨o, ?_⟩
  refine ⟨fun c => ?_, fun c => ?_⟩
  · have h := h.1 c
    obtain ⟨o, h⟩ := h
    refine ⟨o, ?_⟩
    refine ⟨fun c => ?_, fun c => ?_⟩
    · have h := h.1 c
      obtain ⟨o, h⟩ := h
      refine ⟨o, ?_⟩
      refine ⟨fun c => ?_, fun c => ?_⟩
      · have h := h.1 c
        exact h _ hM
      · have h := h.2 c
        exact h _ hM
    · have h := h.2 c
      refine ⟨fun c => ?_, fun c => ?_⟩
      · have h := h.1 c
        exact h _ hM
      · have h := h.2 c
        refine ⟨hS.2.1, ?_⟩
        refine ⟨_, hS.r1, ?_⟩
        refine ⟨_, hS.r5, ?_⟩
        refine ⟨hS.k5, ?_⟩
        obtain ⟨o, h⟩ := h
        refine ⟨o, ?_⟩
        obtain ⟨o, h⟩ := h
        refine ⟨hS.b5 o, ?_⟩
        refine fun _ => ?_
        refine ⟨hS.k1, ?_⟩
        obtain ⟨o, h⟩ := h
        refine ⟨o, ?_⟩
        obtain ⟨o, h⟩ := h
        refine ⟨hS.b1 o, ?_⟩
        exact h _ hM
  · have h := h.2 c
    refine ⟨hS.2.1, ?_⟩
    refine ⟨_, hS.r5, ?_⟩
    refine ⟨hS.k5, ?_⟩
    obtain ⟨o, h⟩ := h
    refine ⟨o, ?_⟩
    obtain ⟨o, h⟩ := h
    refine ⟨hS.b5 o, ?_⟩
    refine fun _ => ?_
    obtain ⟨o, h⟩ := h
    refine ⟨o, ?_⟩
    obtain ⟨o, h⟩ := h
    refine ⟨hS.b5 o, ?_⟩
    refine fun _ => ?_
    exact h _ hM
theorem B_findMove_143 {Ω : Om} {σ0 : Sto} {m : Nat} {R : Room} {F : QF} {μ : Mu} {v1 : Int} {v2 : Int} {v3 : Int} {v4 : Int} {v5 : Int} {v6 : Int} {v7 : Int} {v8 : Int} {v9 : Int} {s0 : Int} (h : Q32 s0 ∧ ((s0 = (0 : Int) → Q32 v9 ∧ (((1 : Int) < v9 → Q32 v4 ∧ ((v9 ≤ v4 → Mw Ω σ0 m M_Mdl_findMove R F 26 [xr (some m), xi v1, xi v2, xi v3, xi v4, xi v5, xi v6, xi v7, xi (v8 + 1), xu, xu] [] μ) ∧ (¬ v9 ≤ v4 → Mw Ω σ0 m M_Mdl_findMove R F 26 [xr (some m), xi v1, xi v2, xi v3, xi v9, xi v7, xi v8, xi v7, xi (v8 + 1), xu, xu] [] μ))) ∧ (¬ (1 : Int) < v9 → ((¬ v9 = (1 : Int) → Mw Ω σ0 m M_Mdl_findMove R F 26 [xr (some m), xi v1, xi v2, xi v3, xi v4, xi v5, xi v6, xi v7, xi (v8 + 1), xu, xu] [] μ) ∧ (v9 = (1 : Int) → 0 ≤ ((20 * v1) + v7) ∧ ((20 * v1) + v7) < 800 ∧ 0 ≤ (mA μ 5 ((20 * v1) + v7).toNat) ∧ (mA μ 5 ((20 * v1) + v7).toNat) < 16384 ∧ Mw Ω σ0 m M_Mdl_findMove R F 181 [xr (some m), xi v1, xi v2, xi v3, xi v4, xi v5, xi v6, xi v7, xi v8, xi v9, xu] [xl (mG μ 1 (mA μ 5 ((20 * v1) + v7).toNat).toNat)] μ))))) ∧ (¬ s0 = (0 : Int) → Mw Ω σ0 m M_Mdl_findMove R F 40 [xr (some m), xi v1, xi v2, xi v3, xi v4, xi v5, xi v6, xi v7, xi v8, xi (v9 + 1), xu] [] μ))) : Mw Ω σ0 m M_Mdl_findMove R F 143 [xr (some m), xi v1, xi v2, xi v3, xi v4, xi v5, xi v6, xi v7, xi v8, xi v9, xu] [xi s0] μ := by
  intro σ hM
  obtain ⟨hS, hk, e⟩ := id hM
  subst e
  refine b_Mdl_findMove_143 ?_
  obtain ⟨o, h⟩ := h
  refine ⟨o, ?_⟩
  refine ⟨fun c => ?_, fun c => ?_⟩
  · have h := h.1 c
    obtain ⟨o, h⟩ := h
    refine ⟨o, ?_⟩
    refine ⟨fun c => ?_, fun c => ?_⟩
    · have h := h.1 c
      obtain ⟨o, h⟩ := h
      refine ⟨o, ?_⟩
      refine ⟨fun c => ?_, fun c => ?_⟩
      · have h := h.1 c
        exact h _ hM
      · have h := h.2 c
        exact h _ hM
    · have h := h.2 c
      refine ⟨fun c => ?_, fun c => ?_⟩
      · have h := h.1 c
        exact h _ hM
      · have h := h.2 c
        refine ⟨hS.2.1, ?_⟩
        refine ⟨_, hS.r1, ?_⟩
        refine ⟨_, hS.r5, ?_⟩
        refine ⟨hS.k5, ?_⟩
        obtain ⟨o, h⟩ := h
        refine ⟨o, ?_⟩
        obtain ⟨o, h⟩ := h
        refine ⟨hS.b5 o, ?_⟩
        refine fun _ => ?_
        refine ⟨hS.k1, ?_⟩
        obtain ⟨o, h⟩ := h
        refine ⟨o, ?_⟩
        obtain ⟨o, h⟩ := h
        refine ⟨hS.b1 o, ?_⟩
        exact h _ hM
  · have h := h.2 c
    exact h _ hM
theorem B_findMove_184 {Ω : Om} {σ0 : Sto} {m : Nat} {R : Room} {F : QF} {μ : Mu} {v1 : Int} {v2 : Int} {v3 : Int} {v4 : Int} {v5 : Int} {v6 : Int} {v7 : Int} {v8 : Int} {v9 : Int} {s0 : Int} (h : Q32 s0 ∧ ((s0 < (4 : Int) → Mw Ω σ0 m M_Mdl_findMove R F 26 [xr (some m), xi v1, xi v2, xi v3, xi v4, xi v5, xi v6, xi v7, xi (v8 + 1), xu, xu] [] μ) ∧ (¬ s0 < (4 : Int) → Q32 v9 ∧ Q32 v4 ∧ ((v9 ≤ v4 → Mw Ω σ0 m M_Mdl_findMove R F 26 [xr (some m), xi v1, xi v2, xi v3, xi v4, xi v5, xi v6, xi v7, xi (v8 + 1), xu, xu] [] μ) ∧ (¬ v9 ≤ v4 → Mw Ω σ0 m M_Mdl_findMove R F 26 [xr (some m), xi v1, xi v2, xi v3, xi v9, xi v7, xi v8, xi v7, xi (v8 + 1), xu, xu] [] μ))))) : Mw Ω σ0 m M_Mdl_findMove R F 184 [xr (some m), xi v1, xi v2, xi v3, xi v4, xi v5, xi v6, xi v7, xi v8, xi v9, xu] [xi s0] μ := by
  intro σ hM
  obtain ⟨hS, hk, e⟩ := id hM
  subst e
  refine b_Mdl_findMove_184 ?_
  obtain ⟨o, h⟩ := h
  refine ⟨o, ?_⟩
  refine ⟨fun c => ?_, fun c => ?_⟩
  · have h := h.1 c
    exact h _ hM
  · have h := h.2 c
    obtain ⟨o, h⟩ := h
    refine ⟨o, ?_⟩
    obtain ⟨o, h⟩ := h
    refine ⟨o, ?_⟩
    refine ⟨fun c => ?_, fun c => ?_⟩
    · have h := h.1 c
      exact h _ hM
    · have h := h.2 c
      exact h _ hM
theorem B_findMove_152 {Ω : Om} {σ0 : Sto} {m : Nat} {R : Room} {F : QF} {μ : Mu} {v1 : Int} {v2 : Int} {v3 : Int} {v4 : Int} {v5 : Int} {v6 : Int} {v7 : Int} {v8 : Int} {v9 : Int} (h : Q32 v9 ∧ (((1 : Int) < v9 → Q32 v4 ∧ ((v9 ≤ v4 → Mw Ω σ0 m M_Mdl_findMove R F 26 [xr (some m), xi v1, xi v2, xi v3, xi v4, xi v5, xi v6, xi v7, xi (v8 + 1), xu, xu] [] μ) ∧ (¬ v9 ≤ v4 → Mw Ω σ0 m M_Mdl_findMove R F 26 [xr (some m), xi v1, xi v2, xi v3, xi v9, xi v7, xi v8, xi v7, xi (v8 + 1), xu, xu] [] μ))) ∧ (¬ (1 : Int) < v9 → ((¬ v9 = (1 : Int) → Mw Ω σ0 m M_Mdl_findMove R F 26 [xr (some m), xi v1, xi v2, xi v3, xi v4, xi v5, xi v6, xi v7, xi (v8 + 1), xu, xu] [] μ) ∧ (v9 = (1 : Int) → 0 ≤ ((20 * v1) + v7) ∧ ((20 * v1) + v7) < 800 ∧ 0 ≤ (mA μ 5 ((20 * v1) + v7).toNat) ∧ (mA μ 5 ((20 * v1) + v7).toNat) < 16384 ∧ Mw Ω σ0 m M_Mdl_findMove R F 181 [xr (some m), xi v1, xi v2, xi v3, xi v4, xi v5, xi v6, xi v7, xi v8, xi v9, xu] [xl (mG μ 1 (mA μ 5 ((20 * v1) + v7).toNat).toNat)] μ))))) : Mw Ω σ0 m M_Mdl_findMove R F 152 [xr (some m), xi v1, xi v2, xi v3, xi v4, xi v5, xi v6, xi v7, xi v8, xi v9, xu] [] μ := by
  intro σ hM
  obtain ⟨hS, hk, e⟩ := id hM
  subst e
  refine b_Mdl_findMove_152 ?_
  obtain ⟨o, h⟩ := h
  refine ⟨o, ?_⟩
  refine ⟨fun c => ?_, fun c => ?_⟩
  · have h := h.1 c
    obtain ⟨o, h⟩ := h
    refine ⟨o, ?_⟩
    refine ⟨fun c => ?_, fun c => ?_⟩
    · have h := h.1 c
      exact h _ hM
    · have h := h.2 c
      exact h _ hM
  · have h := h.2 c
    refine ⟨fun c => ?_, fun c => ?_⟩
    · have h := h.1 c
      exact h _ hM
    · have h := h.2 c
      refine ⟨hS.2.1, ?_⟩
      refine ⟨_, hS.r1, ?_⟩
      refine ⟨_, hS.r5, ?_⟩
      refine ⟨hS.k5, ?_⟩
      obtain ⟨o, h⟩ := h
      refine ⟨o, ?_⟩
      obtain ⟨o, h⟩ := h
      refine ⟨hS.b5 o, ?_⟩
      refine fun _ => ?_
      refine ⟨hS.k1, ?_⟩
      obtain ⟨o, h⟩ := h
      refine ⟨o, ?_⟩
      obtain ⟨o, h⟩ := h
      refine ⟨hS.b1 o, ?_⟩
      exact h _ hM
theorem B_findMove_234 {Ω : Om} {σ0 : Sto} {m : Nat} {R : Room} {F : QF} {μ : Mu} {v1 : Int} {v2 : Int} {v3 : Int} {v4 : Int} {v5 : Int} {v6 : Int} {v7 : Int} (h : Q32 v7 ∧ Q32 v4 ∧ ((v4 ≤ v7 → ((v4 ≤ (0 : Int) → Mw Ω σ0 m M_Mdl_findMove R F 272 [xr (some m), xi v1, xi v2, xi v3, xi v4, xi v5, xi v6, xi v7, xu, xu, xu] [xi 0] μ) ∧ (¬ v4 ≤ (0 : Int) → Mw Ω σ0 m M_Mdl_findMove R F 272 [xr (some m), xi v1, xi v2, xi v3, xi v4, xi v5, xi v6, xi v7, xu, xu, xu] [xi 1] μ))) ∧ (¬ v4 ≤ v7 → 0 ≤ (v5 + v7) ∧ (v5 + v7) < 20 ∧ Q32 (v6 + v7) ∧ Mw Ω σ0 m M_Mdl_findMove R F 234 [xr (some m), xi v1, xi v2, xi v3, xi v4, xi v5, xi v6, xi (v7 + 1), xu, xu, xu] [] (wA μ 16 (v5 + v7).toNat (v6 + v7))))) : Mw Ω σ0 m M_Mdl_findMove R F 234 [xr (some m), xi v1, xi v2, xi v3, xi v4, xi v5, xi v6, xi v7, xu, xu, xu] [] μ := by
  intro σ hM
  obtain ⟨hS, hk, e⟩ := id hM
  subst e
  refine b_Mdl_findMove_234 ?_
  obtain ⟨o, h⟩ := h
  refine ⟨o, ?_⟩
  obtain ⟨o, h⟩ := h
  refine ⟨o, ?_⟩
  refine ⟨fun c => ?_, fun c => ?_⟩
  · have h := h.1 c
    refine ⟨fun c => ?_, fun c => ?_⟩
    · have h := h.1 c
      exact h _ hM
    · have h := h.2 c
      exact h _ hM
  · have h := h.2 c
    refine ⟨hS.2.1, ?_⟩
    refine ⟨_, hS.r16, ?_⟩
    refine ⟨hS.k16, ?_⟩
    obtain ⟨o, h⟩ := h
    refine ⟨o, ?_⟩
    obtain ⟨o, h⟩ := h
    refine ⟨hS.b16 o, ?_⟩
    obtain ⟨o, h⟩ := h
    refine ⟨o, ?_⟩
    exact h _ (MR.vI (j := 16) (by decide) hM)
theorem C_findMove_102 {Ω : Om} {σ0 : Sto} {m : Nat} {F : QF} {L st : List PV} {μ : Mu} {Q : Int → Mu → Prop} {x0 : Int} (hc : MMi Ω m M_Mdl_isTaken rm_Mdl_isTaken Q μ [xi x0]) (kk : ∀ y μ', Q y μ' → Mw Ω σ0 m M_Mdl_findMove rm_Mdl_findMove F 105 L (xi y :: st) μ') (hst : (st.map catP).sum ≤ 8 := by exact Nat.le_of_ble_eq_true rfl) : Mw Ω σ0 m M_Mdl_findMove rm_Mdl_findMove F 102 L (xi x0 :: xr (some m) :: st) μ :=
  fun σ hM => c_Mdl_findMove_102 (hc σ0 σ hM) hM.1.2.1 (by decide) (by decide) (by decide) (by decide) hst (fun y σ' hq => by obtain ⟨μ', h1, h2⟩ := hq; exact kk y μ' h2 σ' h1) (fun _ _ h => h.elim)
theorem C_findMove_140 {Ω : Om} {σ0 : Sto} {m : Nat} {F : QF} {L st : List PV} {μ : Mu} {Q : Int → Mu → Prop} {x0 : Int} {x1 : Int} {x2 : Int} (hc : MMi Ω m M_Mdl_areSame rm_Mdl_areSame Q μ [xi x0, xi x1, xi x2]) (kk : ∀ y μ', Q y μ' → Mw Ω σ0 m M_Mdl_findMove rm_Mdl_findMove F 143 L (xi y :: st) μ') (hst : (st.map catP).sum ≤ 8 := by exact Nat.le_of_ble_eq_true rfl) : Mw Ω σ0 m M_Mdl_findMove rm_Mdl_findMove F 140 L (xi x2 :: xi x1 :: xi x0 :: xr (some m) :: st) μ :=
  fun σ hM => c_Mdl_findMove_140 (hc σ0 σ hM) hM.1.2.1 (by decide) (by decide) (by decide) (by decide) hst (fun y σ' hq => by obtain ⟨μ', h1, h2⟩ := hq; exact kk y μ' h2 σ' h1) (fun _ _ h => h.elim)
theorem C_findMove_181 {Ω : Om} {σ0 : Sto} {m : Nat} {F : QF} {L st : List PV} {μ : Mu} {P : Int → Prop} {x0 : Int64} (hc : MPi Ω M_Mdl_letters rm_Mdl_letters P [xl x0]) (kk : ∀ y , P y  → Mw Ω σ0 m M_Mdl_findMove rm_Mdl_findMove F 184 L (xi y :: st) μ) (hst : (st.map catP).sum ≤ 8 := by exact Nat.le_of_ble_eq_true rfl) : Mw Ω σ0 m M_Mdl_findMove rm_Mdl_findMove F 181 L (xl x0 :: st) μ :=
  fun σ hM => c_Mdl_findMove_181 (hc σ) (by decide) (by decide) (by decide) (by decide) hst (fun y σ' hq => by obtain ⟨rfl, h2⟩ := hq; exact kk y h2 σ' hM) (fun _ _ h => h.elim)
theorem R_findMove_272 {Ω : Om} {σ0 : Sto} {m : Nat} {L : List PV} {μ : Mu} {Q : Int → Mu → Prop} {x : Int} (hx : x = 0 ∨ x = 1) (h : Q x μ) : Mw Ω σ0 m M_Mdl_findMove rm_Mdl_findMove (MQi Ω σ0 m rm_Mdl_findMove Q) 272 L [xi x] μ := fun σ hM => r_Mdl_findMove_272 hx ⟨_, rfl, μ, hM, h⟩ (by decide) (by decide)
theorem E_findMove {Ω : Om} {m : Nat} {μ : Mu} {Q : Int → Mu → Prop} {v1 : Int} {v2 : Int} {v3 : Int} (h : ∀ σ0, Mw Ω σ0 m M_Mdl_findMove rm_Mdl_findMove (MQi Ω σ0 m rm_Mdl_findMove Q) 0 [xr (some m), xi v1, xi v2, xi v3, xu, xu, xu, xu, xu, xu, xu] [] μ) : MMi Ω m M_Mdl_findMove rm_Mdl_findMove Q μ [xi v1, xi v2, xi v3] := fun σ0 σ hM => e_Mdl_findMove (h σ0 σ hM)
theorem B_likenessOf_0 {Ω : Om} {σ0 : Sto} {m : Nat} {R : Room} {F : QF} {μ : Mu} {v1 : Int64} {v3 : Int64} (h : Mw Ω σ0 m M_Mdl_likenessOf R F 1 [xr (some m), xl v1, xu, xl v3, xu, xu, xu, xu, xu, xu, xu, xu] [xl v1] μ) : Mw Ω σ0 m M_Mdl_likenessOf R F 0 [xr (some m), xl v1, xu, xl v3, xu, xu, xu, xu, xu, xu, xu, xu] [] μ := by
  intro σ hM
  obtain ⟨hS, hk, e⟩ := id hM
  subst e
  refine b_Mdl_likenessOf_0 ?_
  exact h _ hM
theorem B_likenessOf_4 {Ω : Om} {σ0 : Sto} {m : Nat} {R : Room} {F : QF} {μ : Mu} {v1 : Int64} {v3 : Int64} {s0 : Int} (h : Mw Ω σ0 m M_Mdl_likenessOf R F 7 [xr (some m), xl v1, xu, xl v3, xu, xi s0, xu, xu, xu, xu, xu, xu] [xl v3] μ) : Mw Ω σ0 m M_Mdl_likenessOf R F 4 [xr (some m), xl v1, xu, xl v3, xu, xu, xu, xu, xu, xu, xu, xu] [xi s0] μ := by
  intro σ hM
  obtain ⟨hS, hk, e⟩ := id hM
  subst e
  refine b_Mdl_likenessOf_4 ?_
  exact h _ hM
theorem B_likenessOf_10 {Ω : Om} {σ0 : Sto} {m : Nat} {R : Room} {F : QF} {μ : Mu} {v1 : Int64} {v3 : Int64} {v5 : Int} {s0 : Int} (h : Mw Ω σ0 m M_Mdl_likenessOf R F 16 [xr (some m), xl v1, xu, xl v3, xu, xi v5, xi s0, xi v5, xu, xu, xu, xu] [] μ) : Mw Ω σ0 m M_Mdl_likenessOf R F 10 [xr (some m), xl v1, xu, xl v3, xu, xi v5, xu, xu, xu, xu, xu, xu] [xi s0] μ := by
  intro σ hM
  obtain ⟨hS, hk, e⟩ := id hM
  subst e
  refine b_Mdl_likenessOf_10 ?_
  exact h _ hM
theorem B_likenessOf_16 {Ω : Om} {σ0 : Sto} {m : Nat} {R : Room} {F : QF} {μ : Mu} {v1 : Int64} {v3 : Int64} {v5 : Int} {v6 : Int} {v7 : Int} (h : Q32 v7 ∧ ((v7 < (0 : Int) → 0 ≤ (0 : Int) ∧ (0 : Int) < 81 ∧ Q32 (v5 + v6) ∧ (v5 + v6) ≠ 0 ∧ Mw Ω σ0 m M_Mdl_likenessOf R F 225 [xr (some m), xl v1, xu, xl v3, xu, xi v5, xi v6, xi v7, xu, xu, xu, xu] [xi (bDiv (200 * (mA μ 28 0)) (v5 + v6))] μ) ∧ (¬ v7 < (0 : Int) → Mw Ω σ0 m M_Mdl_likenessOf R F 25 [xr (some m), xl v1, xu, xl v3, xu, xi v5, xi v6, xi v7, xi v6, xu, xu, xu] [] μ))) : Mw Ω σ0 m M_Mdl_likenessOf R F 16 [xr (some m), xl v1, xu, xl v3, xu, xi v5, xi v6, xi v7, xu, xu, xu, xu] [] μ := by
  intro σ hM
  obtain ⟨hS, hk, e⟩ := id hM
  subst e
  refine b_Mdl_likenessOf_16 ?_
  obtain ⟨o, h⟩ := h
  refine ⟨o, ?_⟩
  refine ⟨fun c => ?_, fun c => ?_⟩
  · have h := h.1 c
    refine ⟨hS.2.1, ?_⟩
    refine ⟨_, hS.r28, ?_⟩
    refine ⟨hS.k28, ?_⟩
    obtain ⟨o, h⟩ := h
    refine ⟨o, ?_⟩
    obtain ⟨o, h⟩ := h
    refine ⟨hS.b28 o, ?_⟩
    refine fun _ => ?_
    obtain ⟨o, h⟩ := h
    refine ⟨o, ?_⟩
    obtain ⟨o, h⟩ := h
    refine ⟨o, ?_⟩
    exact h _ hM
  · have h := h.2 c
    exact h _ hM
theorem B_likenessOf_25 {Ω : Om} {σ0 : Sto} {m : Nat} {R : Room} {F : QF} {μ : Mu} {v1 : Int64} {v3 : Int64} {v5 : Int} {v6 : Int} {v7 : Int} {v8 : Int} (h : Q32 v8 ∧ ((v8 < (0 : Int) → Mw Ω σ0 m M_Mdl_likenessOf R F 16 [xr (some m), xl v1, xu, xl v3, xu, xi v5, xi v6, xi (v7 + (-1)), xu, xu, xu, xu] [] μ) ∧ (¬ v8 < (0 : Int) → Q32 v7 ∧ Q32 v5 ∧ ((v7 = v5 → Mw Ω σ0 m M_Mdl_likenessOf R F 44 [xr (some m), xl v1, xu, xl v3, xu, xi v5, xi v6, xi v7, xi v8, xu, xu, xu] [] μ) ∧ (¬ v7 = v5 → Q32 v6 ∧ ((¬ v8 = v6 → Mw Ω σ0 m M_Mdl_likenessOf R F 49 [xr (some m), xl v1, xu, xl v3, xu, xi v5, xi v6, xi v7, xi v8, xu, xu, xu] [xi 0] μ) ∧ (v8 = v6 → Mw Ω σ0 m M_Mdl_likenessOf R F 44 [xr (some m), xl v1, xu, xl v3, xu, xi v5, xi v6, xi v7, xi v8, xu, xu, xu] [] μ))))))) : Mw Ω σ0 m M_Mdl_likenessOf R F 25 [xr (some m), xl v1, xu, xl v3, xu, xi v5, xi v6, xi v7, xi v8, xu, xu, xu] [] μ := by
  intro σ hM
  obtain ⟨hS, hk, e⟩ := id hM
  subst e
  refine b_Mdl_likenessOf_25 ?_
  obtain ⟨o, h⟩ := h
  refine ⟨o, ?_⟩
  refine ⟨fun c => ?_, fun c => ?_⟩
  · have h := h.1 c
    exact h _ hM
  · have h := h.2 c
    obtain ⟨o, h⟩ := h
    refine ⟨o, ?_⟩
    obtain ⟨o, h⟩ := h
    refine ⟨o, ?_⟩
    refine ⟨fun c => ?_, fun c => ?_⟩
    · have h := h.1 c
      exact h _ hM
    · have h := h.2 c
      obtain ⟨o, h⟩ := h
      refine ⟨o, ?_⟩
      refine ⟨fun c => ?_, fun c => ?_⟩
      · have h := h.1 c
        exact h _ hM
      · have h := h.2 c
        exact h _ hM
theorem B_likenessOf_44 {Ω : Om} {σ0 : Sto} {m : Nat} {R : Room} {F : QF} {μ : Mu} {v1 : Int64} {v3 : Int64} {v5 : Int} {v6 : Int} {v7 : Int} {v8 : Int} (h : 0 ≤ ((9 * v7) + v8) ∧ ((9 * v7) + v8) < 81 ∧ Mw Ω σ0 m M_Mdl_likenessOf R F 25 [xr (some m), xl v1, xu, xl v3, xu, xi v5, xi v6, xi v7, xi (v8 + (-1)), xu, xu, xu] [] (wA μ 28 ((9 * v7) + v8).toNat 0)) : Mw Ω σ0 m M_Mdl_likenessOf R F 44 [xr (some m), xl v1, xu, xl v3, xu, xi v5, xi v6, xi v7, xi v8, xu, xu, xu] [] μ := by
  intro σ hM
  obtain ⟨hS, hk, e⟩ := id hM
  subst e
  refine b_Mdl_likenessOf_44 ?_
  refine ⟨hS.2.1, ?_⟩
  refine ⟨_, hS.r28, ?_⟩
  refine ⟨hS.k28, ?_⟩
  obtain ⟨o, h⟩ := h
  refine ⟨o, ?_⟩
  obtain ⟨o, h⟩ := h
  refine ⟨hS.b28 o, ?_⟩
  exact h _ (MR.vI (j := 28) (by decide) hM)
theorem B_likenessOf_49 {Ω : Om} {σ0 : Sto} {m : Nat} {R : Room} {F : QF} {μ : Mu} {v1 : Int64} {v3 : Int64} {v5 : Int} {v6 : Int} {v7 : Int} {v8 : Int} {s0 : Int} (h : Q32 s0 ∧ ((s0 = (0 : Int) → 0 ≤ ((9 * (v7 + 1)) + v8) ∧ ((9 * (v7 + 1)) + v8) < 81 ∧ 0 ≤ (((9 * v7) + v8) + 1) ∧ (((9 * v7) + v8) + 1) < 81 ∧ (((mA μ 28 ((9 * (v7 + 1)) + v8).toNat) ≤ (mA μ 28 (((9 * v7) + v8) + 1).toNat) → ((¬ s0 = (0 : Int) → 0 ≤ ((9 * v7) + v8) ∧ ((9 * v7) + v8) < 81 ∧ Mw Ω σ0 m M_Mdl_likenessOf R F 25 [xr (some m), xl v1, xu, xl v3, xu, xi v5, xi v6, xi v7, xi (v8 + (-1)), xu, xu, xu] [] (wA μ 28 ((9 * v7) + v8).toNat (mA μ 28 (((9 * v7) + v8) + 1).toNat))) ∧ (s0 = (0 : Int) → Mw Ω σ0 m M_Mdl_likenessOf R F 136 [xr (some m), xl v1, xu, xl v3, xu, xi v5, xi v6, xi v7, xi v8, xi s0, xi (mA μ 28 (((9 * v7) + v8) + 1).toNat), xu] [xi v7, xl v1] μ))) ∧ (¬ (mA μ 28 ((9 * (v7 + 1)) + v8).toNat) ≤ (mA μ 28 (((9 * v7) + v8) + 1).toNat) → ((¬ s0 = (0 : Int) → 0 ≤ ((9 * v7) + v8) ∧ ((9 * v7) + v8) < 81 ∧ Mw Ω σ0 m M_Mdl_likenessOf R F 25 [xr (some m), xl v1, xu, xl v3, xu, xi v5, xi v6, xi v7, xi (v8 + (-1)), xu, xu, xu] [] (wA μ 28 ((9 * v7) + v8).toNat (mA μ 28 ((9 * (v7 + 1)) + v8).toNat))) ∧ (s0 = (0 : Int) → Mw Ω σ0 m M_Mdl_likenessOf R F 136 [xr (some m), xl v1, xu, xl v3, xu, xi v5, xi v6, xi v7, xi v8, xi s0, xi (mA μ 28 ((9 * (v7 + 1)) + v8).toNat), xu] [xi v7, xl v1] μ))))) ∧ (¬ s0 = (0 : Int) → ((¬ s0 = (0 : Int) → 0 ≤ ((9 * v7) + v8) ∧ ((9 * v7) + v8) < 81 ∧ Mw Ω σ0 m M_Mdl_likenessOf R F 25 [xr (some m), xl v1, xu, xl v3, xu, xi v5, xi v6, xi v7, xi (v8 + (-1)), xu, xu, xu] [] (wA μ 28 ((9 * v7) + v8).toNat 0)) ∧ (s0 = (0 : Int) → Mw Ω σ0 m M_Mdl_likenessOf R F 136 [xr (some m), xl v1, xu, xl v3, xu, xi v5, xi v6, xi v7, xi v8, xi s0, xi 0, xu] [xi v7, xl v1] μ))))) : Mw Ω σ0 m M_Mdl_likenessOf R F 49 [xr (some m), xl v1, xu, xl v3, xu, xi v5, xi v6, xi v7, xi v8, xu, xu, xu] [xi s0] μ := by
  intro σ hM
  obtain ⟨hS, hk, e⟩ := id hM
  subst e
  refine b_Mdl_likenessOf_49 ?_
  obtain ⟨o, h⟩ := h
  refine ⟨o, ?_⟩
  refine ⟨fun c => ?_, fun c => ?_⟩
  · have h := h.1 c
    refine ⟨hS.2.1, ?_⟩
    refine ⟨_, hS.r28, ?_⟩
    refine ⟨hS.k28, ?_⟩
    obtain ⟨o, h⟩ := h
    refine ⟨o, ?_⟩
    obtain ⟨o, h⟩ := h
    refine ⟨hS.b28 o, ?_⟩
    refine fun _ => ?_
    obtain ⟨o, h⟩ := h
    refine ⟨o, ?_⟩
    obtain ⟨o, h⟩ := h
    refine ⟨hS.b28 o, ?_⟩
    refine fun _ => ?_
    refine ⟨fun c => ?_, fun c => ?_⟩
    · have h := h.1 c
      refine fun _ => ?_
      refine ⟨fun c => ?_, fun c => ?_⟩
      · have h := h.1 c
        obtain ⟨o, h⟩ := h
        refine ⟨o, ?_⟩
        obtain ⟨o, h⟩ := h
        refine ⟨hS.b28 o, ?_⟩
        exact h _ (MR.vI (j := 28) (by decide) hM)
      · have h := h.2 c
        exact h _ hM
    · have h := h.2 c
      refine fun _ => ?_
      refine ⟨fun c => ?_, fun c => ?_⟩
      · have h := h.1 c
        obtain ⟨o, h⟩ := h
        refine ⟨o, ?_⟩
        obtain ⟨o, h⟩ := h
        refine ⟨hS.b28 o, ?_⟩
        exact h _ (MR.vI (j := 28) (by decide) hM)
      · have h := h.2 c
        exact h _ hM
  · have h := h.2 c
    refine ⟨fun c => ?_, fun c => ?_⟩
    · have h := h.1 c
      refine ⟨hS.2.1, ?_⟩
      refine ⟨_, hS.r28, ?_⟩
      refine ⟨hS.k28, ?_⟩
      obtain ⟨o, h⟩ := h
      refine ⟨o, ?_⟩
      obtain ⟨o, h⟩ := h
      refine ⟨hS.b28 o, ?_⟩
      exact h _ (MR.vI (j := 28) (by decide) hM)
    · have h := h.2 c
      exact h _ hM
theorem B_likenessOf_139 {Ω : Om} {σ0 : Sto} {m : Nat} {R : Room} {F : QF} {μ : Mu} {v1 : Int64} {v3 : Int64} {v5 : Int} {v6 : Int} {v7 : Int} {v8 : Int} {v9 : Int} {v10 : Int} {s0 : Int} (h : Mw Ω σ0 m M_Mdl_likenessOf R F 142 [xr (some m), xl v1, xu, xl v3, xu, xi v5, xi v6, xi v7, xi v8, xi v9, xi v10, xu] [xi v8, xl v3, xi s0] μ) : Mw Ω σ0 m M_Mdl_likenessOf R F 139 [xr (some m), xl v1, xu, xl v3, xu, xi v5, xi v6, xi v7, xi v8, xi v9, xi v10, xu] [xi s0] μ := by
  intro σ hM
  obtain ⟨hS, hk, e⟩ := id hM
  subst e
  refine b_Mdl_likenessOf_139 ?_
  exact h _ hM
theorem B_likenessOf_145 {Ω : Om} {σ0 : Sto} {m : Nat} {R : Room} {F : QF} {μ : Mu} {v1 : Int64} {v3 : Int64} {v5 : Int} {v6 : Int} {v7 : Int} {v8 : Int} {v9 : Int} {v10 : Int} {s0 : Int} {s1 : Int} (h : Q32 s0 ∧ Q32 s1 ∧ ((¬ s0 = s1 → 0 ≤ ((9 * v7) + v8) ∧ ((9 * v7) + v8) < 81 ∧ Q32 v10 ∧ Mw Ω σ0 m M_Mdl_likenessOf R F 25 [xr (some m), xl v1, xu, xl v3, xu, xi v5, xi v6, xi v7, xi (v8 + (-1)), xu, xu, xu] [] (wA μ 28 ((9 * v7) + v8).toNat v10)) ∧ (s0 = s1 → 0 ≤ (((9 * (v7 + 1)) + v8) + 1) ∧ (((9 * (v7 + 1)) + v8) + 1) < 81 ∧ 0 ≤ ((9 * v7) + v8) ∧ ((9 * v7) + v8) < 81 ∧ Q32 ((mA μ 28 (((9 * (v7 + 1)) + v8) + 1).toNat) + 1) ∧ Mw Ω σ0 m M_Mdl_likenessOf R F 25 [xr (some m), xl v1, xu, xl v3, xu, xi v5, xi v6, xi v7, xi (v8 + (-1)), xu, xu, xu] [] (wA μ 28 ((9 * v7) + v8).toNat ((mA μ 28 (((9 * (v7 + 1)) + v8) + 1).toNat) + 1))))) : Mw Ω σ0 m M_Mdl_likenessOf R F 145 [xr (some m), xl v1, xu, xl v3, xu, xi v5, xi v6, xi v7, xi v8, xi v9, xi v10, xu] [xi s1, xi s0] μ := by
  intro σ hM
  obtain ⟨hS, hk, e⟩ := id hM
  subst e
  refine b_Mdl_likenessOf_145 ?_
  obtain ⟨o, h⟩ := h
  refine ⟨o, ?_⟩
  obtain ⟨o, h⟩ := h
  refine ⟨o, ?_⟩
  refine ⟨fun c => ?_, fun c => ?_⟩
  · have h := h.1 c
    refine ⟨hS.2.1, ?_⟩
    refine ⟨_, hS.r28, ?_⟩
    refine ⟨hS.k28, ?_⟩
    obtain ⟨o, h⟩ := h
    refine ⟨o, ?_⟩
    obtain ⟨o, h⟩ := h
    refine ⟨hS.b28 o, ?_⟩
    obtain ⟨o, h⟩ := h
    refine ⟨o, ?_⟩
    exact h _ (MR.vI (j := 28) (by decide) hM)
  · have h := h.2 c
    refine ⟨hS.2.1, ?_⟩
    refine ⟨_, hS.r28, ?_⟩
    refine ⟨hS.k28, ?_⟩
    obtain ⟨o, h⟩ := h
    refine ⟨o, ?_⟩
    obtain ⟨o, h⟩ := h
    refine ⟨hS.b28 o, ?_⟩
    refine fun _ => ?_
    obtain ⟨o, h⟩ := h
    refine ⟨o, ?_⟩
    obtain ⟨o, h⟩ := h
    refine ⟨hS.b28 o, ?_⟩
    obtain ⟨o, h⟩ := h
    refine ⟨o, ?_⟩
    exact h _ (MR.vI (j := 28) (by decide) hM)
theorem C_likenessOf_1 {Ω : Om} {σ0 : Sto} {m : Nat} {F : QF} {L st : List PV} {μ : Mu} {P : Int → Prop} {x0 : Int64} (hc : MPi Ω M_Mdl_length rm_Mdl_length P [xl x0]) (kk : ∀ y , P y  → Mw Ω σ0 m M_Mdl_likenessOf rm_Mdl_likenessOf F 4 L (xi y :: st) μ) (hst : (st.map catP).sum ≤ 8 := by exact Nat.le_of_ble_eq_true rfl) : Mw Ω σ0 m M_Mdl_likenessOf rm_Mdl_likenessOf F 1 L (xl x0 :: st) μ :=
  fun σ hM => c_Mdl_likenessOf_1 (hc σ) (by decide) (by decide) (by decide) (by decide) hst (fun y σ' hq => by obtain ⟨rfl, h2⟩ := hq; exact kk y h2 σ' hM) (fun _ _ h => h.elim)
theorem C_likenessOf_7 {Ω : Om} {σ0 : Sto} {m : Nat} {F : QF} {L st : List PV} {μ : Mu} {P : Int → Prop} {x0 : Int64} (hc : MPi Ω M_Mdl_length rm_Mdl_length P [xl x0]) (kk : ∀ y , P y  → Mw Ω σ0 m M_Mdl_likenessOf rm_Mdl_likenessOf F 10 L (xi y :: st) μ) (hst : (st.map catP).sum ≤ 8 := by exact Nat.le_of_ble_eq_true rfl) : Mw Ω σ0 m M_Mdl_likenessOf rm_Mdl_likenessOf F 7 L (xl x0 :: st) μ :=
  fun σ hM => c_Mdl_likenessOf_7 (hc σ) (by decide) (by decide) (by decide) (by decide) hst (fun y σ' hq => by obtain ⟨rfl, h2⟩ := hq; exact kk y h2 σ' hM) (fun _ _ h => h.elim)
theorem C_likenessOf_136 {Ω : Om} {σ0 : Sto} {m : Nat} {F : QF} {L st : List PV} {μ : Mu} {P : Int → Prop} {x0 : Int64} {x1 : Int} (hc : MPi Ω M_Mdl_signAt rm_Mdl_signAt P [xl x0, xi x1]) (kk : ∀ y , P y  → Mw Ω σ0 m M_Mdl_likenessOf rm_Mdl_likenessOf F 139 L (xi y :: st) μ) (hst : (st.map catP).sum ≤ 8 := by exact Nat.le_of_ble_eq_true rfl) : Mw Ω σ0 m M_Mdl_likenessOf rm_Mdl_likenessOf F 136 L (xi x1 :: xl x0 :: st) μ :=
  fun σ hM => c_Mdl_likenessOf_136 (hc σ) (by decide) (by decide) (by decide) (by decide) hst (fun y σ' hq => by obtain ⟨rfl, h2⟩ := hq; exact kk y h2 σ' hM) (fun _ _ h => h.elim)
theorem C_likenessOf_142 {Ω : Om} {σ0 : Sto} {m : Nat} {F : QF} {L st : List PV} {μ : Mu} {P : Int → Prop} {x0 : Int64} {x1 : Int} (hc : MPi Ω M_Mdl_signAt rm_Mdl_signAt P [xl x0, xi x1]) (kk : ∀ y , P y  → Mw Ω σ0 m M_Mdl_likenessOf rm_Mdl_likenessOf F 145 L (xi y :: st) μ) (hst : (st.map catP).sum ≤ 8 := by exact Nat.le_of_ble_eq_true rfl) : Mw Ω σ0 m M_Mdl_likenessOf rm_Mdl_likenessOf F 142 L (xi x1 :: xl x0 :: st) μ :=
  fun σ hM => c_Mdl_likenessOf_142 (hc σ) (by decide) (by decide) (by decide) (by decide) hst (fun y σ' hq => by obtain ⟨rfl, h2⟩ := hq; exact kk y h2 σ' hM) (fun _ _ h => h.elim)
theorem R_likenessOf_225 {Ω : Om} {σ0 : Sto} {m : Nat} {L : List PV} {μ : Mu} {Q : Int → Mu → Prop} {x : Int} (h : Q x μ) : Mw Ω σ0 m M_Mdl_likenessOf rm_Mdl_likenessOf (MQi Ω σ0 m rm_Mdl_likenessOf Q) 225 L [xi x] μ := fun σ hM => r_Mdl_likenessOf_225 ⟨_, rfl, μ, hM, h⟩ (by decide) (by decide)
theorem E_likenessOf {Ω : Om} {m : Nat} {μ : Mu} {Q : Int → Mu → Prop} {v1 : Int64} {v3 : Int64} (h : ∀ σ0, Mw Ω σ0 m M_Mdl_likenessOf rm_Mdl_likenessOf (MQi Ω σ0 m rm_Mdl_likenessOf Q) 0 [xr (some m), xl v1, xu, xl v3, xu, xu, xu, xu, xu, xu, xu, xu] [] μ) : MMi Ω m M_Mdl_likenessOf rm_Mdl_likenessOf Q μ [xl v1, xl v3] := fun σ0 σ hM => e_Mdl_likenessOf (h σ0 σ hM)
theorem B_commit_0 {Ω : Om} {σ0 : Sto} {m : Nat} {R : Room} {F : QF} {μ : Mu}  (h : (((mI μ 11) = (0 : Int) → Mw Ω σ0 m M_Mdl_commit R F 29 [xr (some m), xu] [xi 1, xr (some m)] μ) ∧ (¬ (mI μ 11) = (0 : Int) → Mw Ω σ0 m M_Mdl_commit R F 9 [xr (some m), xu] [xr (some m), xr (some m)] μ))) : Mw Ω σ0 m M_Mdl_commit R F 0 [xr (some m), xu] [] μ := by
  intro σ hM
  obtain ⟨hS, hk, e⟩ := id hM
  subst e
  refine b_Mdl_commit_0 ?_
  refine ⟨hS.2.1, ?_⟩
  refine fun _ => ?_
  refine ⟨fun c => ?_, fun c => ?_⟩
  · have h := h.1 c
    exact h _ hM
  · have h := h.2 c
    exact h _ hM
theorem B_commit_12 {Ω : Om} {σ0 : Sto} {m : Nat} {R : Room} {F : QF} {μ : Mu} {s1 : Int} (h : Q32 s1 ∧ ((s1 = (0 : Int) → Mw Ω σ0 m M_Mdl_commit R F 29 [xr (some m), xu] [xi 1, xr (some m)] μ) ∧ (¬ s1 = (0 : Int) → (((40 : Int) ≤ (mI μ 5) → Mw Ω σ0 m M_Mdl_commit R F 29 [xr (some m), xu] [xi 1, xr (some m)] μ) ∧ (¬ (40 : Int) ≤ (mI μ 5) → Mw Ω σ0 m M_Mdl_commit R F 29 [xr (some m), xu] [xi 0, xr (some m)] μ))))) : Mw Ω σ0 m M_Mdl_commit R F 12 [xr (some m), xu] [xi s1, xr (some m)] μ := by
  intro σ hM
  obtain ⟨hS, hk, e⟩ := id hM
  subst e
  refine b_Mdl_commit_12 ?_
  obtain ⟨o, h⟩ := h
  refine ⟨o, ?_⟩
  refine ⟨fun c => ?_, fun c => ?_⟩
  · have h := h.1 c
    exact h _ hM
  · have h := h.2 c
    refine ⟨hS.2.1, ?_⟩
    refine fun _ => ?_
    refine ⟨fun c => ?_, fun c => ?_⟩
    · have h := h.1 c
      exact h _ hM
    · have h := h.2 c
      exact h _ hM
theorem B_commit_32 {Ω : Om} {σ0 : Sto} {m : Nat} {R : Room} {F : QF} {μ : Mu} {s0 : Int} (h : Q32 s0 ∧ ((s0 = (0 : Int) → 0 ≤ (mI μ 5) ∧ (mI μ 5) < 40 ∧ Mw Ω σ0 m M_Mdl_commit R F 52 [xr (some m), xi 0] [] (wA μ 4 (mI μ 5).toNat (mI μ 15))) ∧ (¬ s0 = (0 : Int) → Mw Ω σ0 m M_Mdl_commit R F 36 [xr (some m), xu] [xi 0] μ))) : Mw Ω σ0 m M_Mdl_commit R F 32 [xr (some m), xu] [xi s0] μ := by
  intro σ hM
  obtain ⟨hS, hk, e⟩ := id hM
  subst e
  refine b_Mdl_commit_32 ?_
  obtain ⟨o, h⟩ := h
  refine ⟨o, ?_⟩
  refine ⟨fun c => ?_, fun c => ?_⟩
  · have h := h.1 c
    refine ⟨hS.2.1, ?_⟩
    refine ⟨_, hS.r4, ?_⟩
    refine fun _ => ?_
    refine fun _ => ?_
    refine ⟨hS.k4, ?_⟩
    obtain ⟨o, h⟩ := h
    refine ⟨o, ?_⟩
    obtain ⟨o, h⟩ := h
    refine ⟨hS.b4 o, ?_⟩
    exact h _ (MR.vI (j := 4) (by decide) hM)
  · have h := h.2 c
    exact h _ hM
theorem B_commit_52 {Ω : Om} {σ0 : Sto} {m : Nat} {R : Room} {F : QF} {μ : Mu} {v1 : Int} (h : Q32 v1 ∧ (((mI μ 15) ≤ v1 → 0 ≤ (mI μ 5) ∧ (mI μ 5) < 40 ∧ 0 ≤ (mI μ 5) ∧ (mI μ 5) < 40 ∧ 0 ≤ (mI μ 5) ∧ (mI μ 5) < 40 ∧ Q32 ((mI μ 5) + 1) ∧ Mw Ω σ0 m M_Mdl_commit R F 140 [xr (some m), xi v1] [] (wI (wI (wA (wA (wA μ 6 (mI μ 5).toNat (mI μ 14)) 7 (mI μ 5).toNat (mI μ 12)) 8 (mI μ 5).toNat (mI μ 13)) 5 ((mI μ 5) + 1)) 11 0)) ∧ (¬ (mI μ 15) ≤ v1 → 0 ≤ v1 ∧ v1 < 64 ∧ 0 ≤ ((20 * (mI μ 5)) + v1) ∧ ((20 * (mI μ 5)) + v1) < 800 ∧ Mw Ω σ0 m M_Mdl_commit R F 52 [xr (some m), xi (v1 + 1)] [] (wA μ 5 ((20 * (mI μ 5)) + v1).toNat (mA μ 9 (v1).toNat))))) : Mw Ω σ0 m M_Mdl_commit R F 52 [xr (some m), xi v1] [] μ := by
  intro σ hM
  obtain ⟨hS, hk, e⟩ := id hM
  subst e
  refine b_Mdl_commit_52 ?_
  refine ⟨hS.2.1, ?_⟩
  refine fun _ => ?_
  obtain ⟨o, h⟩ := h
  refine ⟨o, ?_⟩
  refine ⟨fun c => ?_, fun c => ?_⟩
  · have h := h.1 c
    refine ⟨_, hS.r6, ?_⟩
    refine fun _ => ?_
    refine fun _ => ?_
    refine ⟨hS.k6, ?_⟩
    obtain ⟨o, h⟩ := h
    refine ⟨o, ?_⟩
    obtain ⟨o, h⟩ := h
    refine ⟨hS.b6 o, ?_⟩
    refine ⟨_, hS.r7, ?_⟩
    refine fun _ => ?_
    refine fun _ => ?_
    refine ⟨hS.k7, ?_⟩
    obtain ⟨o, h⟩ := h
    refine ⟨o, ?_⟩
    obtain ⟨o, h⟩ := h
    refine ⟨hS.b7 o, ?_⟩
    refine ⟨_, hS.r8, ?_⟩
    refine fun _ => ?_
    refine fun _ => ?_
    refine ⟨hS.k8, ?_⟩
    obtain ⟨o, h⟩ := h
    refine ⟨o, ?_⟩
    obtain ⟨o, h⟩ := h
    refine ⟨hS.b8 o, ?_⟩
    refine fun _ => ?_
    obtain ⟨o, h⟩ := h
    refine ⟨o, ?_⟩
    exact h _ (MR.uI (f := 11) (MR.uI (f := 5) (MR.vI (j := 8) (by decide) (MR.vI (j := 7) (by decide) (MR.vI (j := 6) (by decide) hM)))))
  · have h := h.2 c
    refine ⟨_, hS.r5, ?_⟩
    refine fun _ => ?_
    refine ⟨_, hS.r9, ?_⟩
    refine ⟨hS.k9, ?_⟩
    obtain ⟨o, h⟩ := h
    refine ⟨o, ?_⟩
    obtain ⟨o, h⟩ := h
    refine ⟨hS.b9 o, ?_⟩
    refine fun _ => ?_
    refine ⟨hS.k5, ?_⟩
    obtain ⟨o, h⟩ := h
    refine ⟨o, ?_⟩
    obtain ⟨o, h⟩ := h
    refine ⟨hS.b5 o, ?_⟩
    exact h _ (MR.vI (j := 5) (by decide) hM)
theorem B_commit_140 {Ω : Om} {σ0 : Sto} {m : Nat} {R : Room} {F : QF} {μ : Mu} {v1 : Int} (h : Mw Ω σ0 m M_Mdl_commit R F 146 [xr (some m), xi v1] [xi ((mI μ 5) - 1)] μ) : Mw Ω σ0 m M_Mdl_commit R F 140 [xr (some m), xi v1] [] μ := by
  intro σ hM
  obtain ⟨hS, hk, e⟩ := id hM
  subst e
  refine b_Mdl_commit_140 ?_
  refine ⟨hS.2.1, ?_⟩
  refine fun _ => ?_
  exact h _ hM
theorem C_commit_9 {Ω : Om} {σ0 : Sto} {m : Nat} {F : QF} {L st : List PV} {μ : Mu} {Q : Int → Mu → Prop}  (hc : MMi Ω m M_Mdl_isSettled rm_Mdl_isSettled Q μ []) (kk : ∀ y μ', Q y μ' → Mw Ω σ0 m M_Mdl_commit rm_Mdl_commit F 12 L (xi y :: st) μ') (hst : (st.map catP).sum ≤ 8 := by exact Nat.le_of_ble_eq_true rfl) : Mw Ω σ0 m M_Mdl_commit rm_Mdl_commit F 9 L (xr (some m) :: st) μ :=
  fun σ hM => c_Mdl_commit_9 (hc σ0 σ hM) hM.1.2.1 (by decide) (by decide) (by decide) (by decide) hst (fun y σ' hq => by obtain ⟨μ', h1, h2⟩ := hq; exact kk y μ' h2 σ' h1) (fun _ _ h => h.elim)
theorem C_commit_29 {Ω : Om} {σ0 : Sto} {m : Nat} {F : QF} {L st : List PV} {μ : Mu} {Q : Int → Mu → Prop} {x0 : Int} (hc : MMi Ω m M_Mdl_refused rm_Mdl_refused Q μ [xi x0]) (kk : ∀ y μ', Q y μ' → Mw Ω σ0 m M_Mdl_commit rm_Mdl_commit F 32 L (xi y :: st) μ') (hst : (st.map catP).sum ≤ 8 := by exact Nat.le_of_ble_eq_true rfl) : Mw Ω σ0 m M_Mdl_commit rm_Mdl_commit F 29 L (xi x0 :: xr (some m) :: st) μ :=
  fun σ hM => c_Mdl_commit_29 (hc σ0 σ hM) hM.1.2.1 (by decide) (by decide) (by decide) (by decide) hst (fun y σ' hq => by obtain ⟨μ', h1, h2⟩ := hq; exact kk y μ' h2 σ' h1) (fun _ _ h => h.elim)
theorem R_commit_36 {Ω : Om} {σ0 : Sto} {m : Nat} {L : List PV} {μ : Mu} {Q : Int → Mu → Prop} {x : Int} (h : Q x μ) : Mw Ω σ0 m M_Mdl_commit rm_Mdl_commit (MQi Ω σ0 m rm_Mdl_commit Q) 36 L [xi x] μ := fun σ hM => r_Mdl_commit_36 ⟨_, rfl, μ, hM, h⟩ (by decide) (by decide)
theorem R_commit_146 {Ω : Om} {σ0 : Sto} {m : Nat} {L : List PV} {μ : Mu} {Q : Int → Mu → Prop} {x : Int} (h : Q x μ) : Mw Ω σ0 m M_Mdl_commit rm_Mdl_commit (MQi Ω σ0 m rm_Mdl_commit Q) 146 L [xi x] μ := fun σ hM => r_Mdl_commit_146 ⟨_, rfl, μ, hM, h⟩ (by decide) (by decide)
theorem E_commit {Ω : Om} {m : Nat} {μ : Mu} {Q : Int → Mu → Prop}  (h : ∀ σ0, Mw Ω σ0 m M_Mdl_commit rm_Mdl_commit (MQi Ω σ0 m rm_Mdl_commit Q) 0 [xr (some m), xu] [] μ) : MMi Ω m M_Mdl_commit rm_Mdl_commit Q μ [] := fun σ0 σ hM => e_Mdl_commit (h σ0 σ hM)
theorem B_verdict_0 {Ω : Om} {σ0 : Sto} {m : Nat} {R : Room} {F : QF} {μ : Mu} {v1 : Int} {v2 : Int} {v3 : Int} (h : Mw Ω σ0 m M_Mdl_verdict R F 2 [xr (some m), xi v1, xi v2, xi v3, xu, xu] [xi v1, xr (some m)] μ) : Mw Ω σ0 m M_Mdl_verdict R F 0 [xr (some m), xi v1, xi v2, xi v3, xu, xu] [] μ := by
  intro σ hM
  obtain ⟨hS, hk, e⟩ := id hM
  subst e
  refine b_Mdl_verdict_0 ?_
  exact h _ hM
theorem B_verdict_5 {Ω : Om} {σ0 : Sto} {m : Nat} {R : Room} {F : QF} {μ : Mu} {v1 : Int} {v2 : Int} {v3 : Int} {s0 : Int} (h : Q32 s0 ∧ ((s0 = (0 : Int) → Mw Ω σ0 m M_Mdl_verdict R F 19 [xr (some m), xi v1, xi v2, xi v3, xu, xu] [] μ) ∧ (¬ s0 = (0 : Int) → Mw Ω σ0 m M_Mdl_verdict R F 9 [xr (some m), xi v1, xi v2, xi v3, xu, xu] [xi v2] μ))) : Mw Ω σ0 m M_Mdl_verdict R F 5 [xr (some m), xi v1, xi v2, xi v3, xu, xu] [xi s0] μ := by
  intro σ hM
  obtain ⟨hS, hk, e⟩ := id hM
  subst e
  refine b_Mdl_verdict_5 ?_
  obtain ⟨o, h⟩ := h
  refine ⟨o, ?_⟩
  refine ⟨fun c => ?_, fun c => ?_⟩
  · have h := h.1 c
    exact h _ hM
  · have h := h.2 c
    exact h _ hM
theorem B_verdict_12 {Ω : Om} {σ0 : Sto} {m : Nat} {R : Room} {F : QF} {μ : Mu} {v1 : Int} {v2 : Int} {v3 : Int} {s0 : Int} (h : Q32 s0 ∧ ((s0 = (0 : Int) → Mw Ω σ0 m M_Mdl_verdict R F 19 [xr (some m), xi v1, xi v2, xi v3, xu, xu] [] μ) ∧ (¬ s0 = (0 : Int) → Mw Ω σ0 m M_Mdl_verdict R F 20 [xr (some m), xi v1, xi v2, xi v3, xu, xu] [xi 1] μ))) : Mw Ω σ0 m M_Mdl_verdict R F 12 [xr (some m), xi v1, xi v2, xi v3, xu, xu] [xi s0] μ := by
  intro σ hM
  obtain ⟨hS, hk, e⟩ := id hM
  subst e
  refine b_Mdl_verdict_12 ?_
  obtain ⟨o, h⟩ := h
  refine ⟨o, ?_⟩
  refine ⟨fun c => ?_, fun c => ?_⟩
  · have h := h.1 c
    exact h _ hM
  · have h := h.2 c
    exact h _ hM
theorem B_verdict_20 {Ω : Om} {σ0 : Sto} {m : Nat} {R : Room} {F : QF} {μ : Mu} {v1 : Int} {v2 : Int} {v3 : Int} {s0 : Int} (h : Q32 s0 ∧ ((s0 = (0 : Int) → Mw Ω σ0 m M_Mdl_verdict R F 55 [xr (some m), xi v1, xi v2, xi v3, xi s0, xu] [] μ) ∧ (¬ s0 = (0 : Int) → 0 ≤ v1 ∧ v1 < 20 ∧ ((¬ (mA μ 26 (v1).toNat) = (0 : Int) → Mw Ω σ0 m M_Mdl_verdict R F 55 [xr (some m), xi v1, xi v2, xi v3, xi s0, xu] [] μ) ∧ ((mA μ 26 (v1).toNat) = (0 : Int) → 0 ≤ v1 ∧ v1 < 20 ∧ 0 ≤ (mA μ 24 (v1).toNat) ∧ (mA μ 24 (v1).toNat) < 40 ∧ Q32 v2 ∧ (((mA μ 6 (mA μ 24 (v1).toNat).toNat) = v2 → Mw Ω σ0 m M_Mdl_verdict R F 55 [xr (some m), xi v1, xi v2, xi v3, xi s0, xu] [] μ) ∧ (¬ (mA μ 6 (mA μ 24 (v1).toNat).toNat) = v2 → Mw Ω σ0 m M_Mdl_verdict R F 56 [xr (some m), xi v1, xi v2, xi v3, xi s0, xu] [xi 1] μ))))))) : Mw Ω σ0 m M_Mdl_verdict R F 20 [xr (some m), xi v1, xi v2, xi v3, xu, xu] [xi s0] μ := by
  intro σ hM
  obtain ⟨hS, hk, e⟩ := id hM
  subst e
  refine b_Mdl_verdict_20 ?_
  obtain ⟨o, h⟩ := h
  refine ⟨o, ?_⟩
  refine ⟨fun c => ?_, fun c => ?_⟩
  · have h := h.1 c
    exact h _ hM
  · have h := h.2 c
    refine ⟨hS.2.1, ?_⟩
    refine ⟨_, hS.r26, ?_⟩
    refine ⟨hS.k26, ?_⟩
    obtain ⟨o, h⟩ := h
    refine ⟨o, ?_⟩
    obtain ⟨o, h⟩ := h
    refine ⟨hS.b26 o, ?_⟩
    refine fun _ => ?_
    refine ⟨fun c => ?_, fun c => ?_⟩
    · have h := h.1 c
      exact h _ hM
    · have h := h.2 c
      refine ⟨_, hS.r6, ?_⟩
      refine ⟨_, hS.r24, ?_⟩
      refine ⟨hS.k24, ?_⟩
      obtain ⟨o, h⟩ := h
      refine ⟨o, ?_⟩
      obtain ⟨o, h⟩ := h
      refine ⟨hS.b24 o, ?_⟩
      refine fun _ => ?_
      refine ⟨hS.k6, ?_⟩
      obtain ⟨o, h⟩ := h
      refine ⟨o, ?_⟩
      obtain ⟨o, h⟩ := h
      refine ⟨hS.b6 o, ?_⟩
      refine fun _ => ?_
      obtain ⟨o, h⟩ := h
      refine ⟨o, ?_⟩
      refine ⟨fun c => ?_, fun c => ?_⟩
      · have h := h.1 c
        exact h _ hM
      · have h := h.2 c
        exact h _ hM
theorem B_verdict_56 {Ω : Om} {σ0 : Sto} {m : Nat} {R : Room} {F : QF} {μ : Mu} {v1 : Int} {v2 : Int} {v3 : Int} {v4 : Int} {s0 : Int} (h : Q32 v4 ∧ ((¬ v4 = (0 : Int) → Q32 s0 ∧ ((s0 = (0 : Int) → Mw Ω σ0 m M_Mdl_verdict R F 78 [xr (some m), xi v1, xi v2, xi v3, xi v4, xi s0] [xi 2, xr (some m)] μ) ∧ (¬ s0 = (0 : Int) → Mw Ω σ0 m M_Mdl_verdict R F 78 [xr (some m), xi v1, xi v2, xi v3, xi v4, xi s0] [xi 0, xr (some m)] μ))) ∧ (v4 = (0 : Int) → Mw Ω σ0 m M_Mdl_verdict R F 78 [xr (some m), xi v1, xi v2, xi v3, xi v4, xi s0] [xi 1, xr (some m)] μ))) : Mw Ω σ0 m M_Mdl_verdict R F 56 [xr (some m), xi v1, xi v2, xi v3, xi v4, xu] [xi s0] μ := by
  intro σ hM
  obtain ⟨hS, hk, e⟩ := id hM
  subst e
  refine b_Mdl_verdict_56 ?_
  obtain ⟨o, h⟩ := h
  refine ⟨o, ?_⟩
  refine ⟨fun c => ?_, fun c => ?_⟩
  · have h := h.1 c
    obtain ⟨o, h⟩ := h
    refine ⟨o, ?_⟩
    refine ⟨fun c => ?_, fun c => ?_⟩
    · have h := h.1 c
      exact h _ hM
    · have h := h.2 c
      exact h _ hM
  · have h := h.2 c
    exact h _ hM
theorem B_verdict_81 {Ω : Om} {σ0 : Sto} {m : Nat} {R : Room} {F : QF} {μ : Mu} {v1 : Int} {v2 : Int} {v3 : Int} {v4 : Int} {v5 : Int} {s0 : Int} (h : Q32 s0 ∧ ((s0 = (0 : Int) → Q32 v3 ∧ ((v3 = (0 : Int) → 0 ≤ ((6 * v1) + v2) ∧ ((6 * v1) + v2) < 120 ∧ Mw Ω σ0 m M_Mdl_verdict R F 108 [xr (some m), xi v1, xi v2, xi v3, xi v4, xi v5] [xi v1, xr (some m)] (wA μ 27 ((6 * v1) + v2).toNat 2)) ∧ (¬ v3 = (0 : Int) → 0 ≤ ((6 * v1) + v2) ∧ ((6 * v1) + v2) < 120 ∧ Mw Ω σ0 m M_Mdl_verdict R F 108 [xr (some m), xi v1, xi v2, xi v3, xi v4, xi v5] [xi v1, xr (some m)] (wA μ 27 ((6 * v1) + v2).toNat 1)))) ∧ (¬ s0 = (0 : Int) → Mw Ω σ0 m M_Mdl_verdict R F 85 [xr (some m), xi v1, xi v2, xi v3, xi v4, xi v5] [xi 0] μ))) : Mw Ω σ0 m M_Mdl_verdict R F 81 [xr (some m), xi v1, xi v2, xi v3, xi v4, xi v5] [xi s0] μ := by
  intro σ hM
  obtain ⟨hS, hk, e⟩ := id hM
  subst e
  refine b_Mdl_verdict_81 ?_
  obtain ⟨o, h⟩ := h
  refine ⟨o, ?_⟩
  refine ⟨fun c => ?_, fun c => ?_⟩
  · have h := h.1 c
    refine ⟨hS.2.1, ?_⟩
    refine ⟨_, hS.r27, ?_⟩
    obtain ⟨o, h⟩ := h
    refine ⟨o, ?_⟩
    refine ⟨fun c => ?_, fun c => ?_⟩
    · have h := h.1 c
      refine ⟨hS.k27, ?_⟩
      obtain ⟨o, h⟩ := h
      refine ⟨o, ?_⟩
      obtain ⟨o, h⟩ := h
      refine ⟨hS.b27 o, ?_⟩
      exact h _ (MR.vI (j := 27) (by decide) hM)
    · have h := h.2 c
      refine ⟨hS.k27, ?_⟩
      obtain ⟨o, h⟩ := h
      refine ⟨o, ?_⟩
      obtain ⟨o, h⟩ := h
      refine ⟨hS.b27 o, ?_⟩
      exact h _ (MR.vI (j := 27) (by decide) hM)
  · have h := h.2 c
    exact h _ hM
theorem B_verdict_55 {Ω : Om} {σ0 : Sto} {m : Nat} {R : Room} {F : QF} {μ : Mu} {v1 : Int} {v2 : Int} {v3 : Int} {v4 : Int} (h : Q32 v4 ∧ ((¬ v4 = (0 : Int) → Mw Ω σ0 m M_Mdl_verdict R F 78 [xr (some m), xi v1, xi v2, xi v3, xi v4, xi 0] [xi 2, xr (some m)] μ) ∧ (v4 = (0 : Int) → Mw Ω σ0 m M_Mdl_verdict R F 78 [xr (some m), xi v1, xi v2, xi v3, xi v4, xi 0] [xi 1, xr (some m)] μ))) : Mw Ω σ0 m M_Mdl_verdict R F 55 [xr (some m), xi v1, xi v2, xi v3, xi v4, xu] [] μ := by
  intro σ hM
  obtain ⟨hS, hk, e⟩ := id hM
  subst e
  refine b_Mdl_verdict_55 ?_
  obtain ⟨o, h⟩ := h
  refine ⟨o, ?_⟩
  refine ⟨fun c => ?_, fun c => ?_⟩
  · have h := h.1 c
    exact h _ hM
  · have h := h.2 c
    exact h _ hM
theorem B_verdict_19 {Ω : Om} {σ0 : Sto} {m : Nat} {R : Room} {F : QF} {μ : Mu} {v1 : Int} {v2 : Int} {v3 : Int} (h : Mw Ω σ0 m M_Mdl_verdict R F 20 [xr (some m), xi v1, xi v2, xi v3, xu, xu] [xi 0] μ) : Mw Ω σ0 m M_Mdl_verdict R F 19 [xr (some m), xi v1, xi v2, xi v3, xu, xu] [] μ := by
  intro σ hM
  obtain ⟨hS, hk, e⟩ := id hM
  subst e
  refine b_Mdl_verdict_19 ?_
  exact h _ hM
theorem C_verdict_2 {Ω : Om} {σ0 : Sto} {m : Nat} {F : QF} {L st : List PV} {μ : Mu} {Q : Int → Mu → Prop} {x0 : Int} (hc : MMi Ω m M_Mdl_isReview rm_Mdl_isReview Q μ [xi x0]) (kk : ∀ y μ', Q y μ' → Mw Ω σ0 m M_Mdl_verdict rm_Mdl_verdict F 5 L (xi y :: st) μ') (hst : (st.map catP).sum ≤ 8 := by exact Nat.le_of_ble_eq_true rfl) : Mw Ω σ0 m M_Mdl_verdict rm_Mdl_verdict F 2 L (xi x0 :: xr (some m) :: st) μ :=
  fun σ hM => c_Mdl_verdict_2 (hc σ0 σ hM) hM.1.2.1 (by decide) (by decide) (by decide) (by decide) hst (fun y σ' hq => by obtain ⟨μ', h1, h2⟩ := hq; exact kk y μ' h2 σ' h1) (fun _ _ h => h.elim)
theorem C_verdict_9 {Ω : Om} {σ0 : Sto} {m : Nat} {F : QF} {L st : List PV} {μ : Mu} {P : Int → Prop} {x0 : Int} (hc : MPi Ω M_Mdl_isPerson rm_Mdl_isPerson P [xi x0]) (kk : ∀ y , P y  → Mw Ω σ0 m M_Mdl_verdict rm_Mdl_verdict F 12 L (xi y :: st) μ) (hst : (st.map catP).sum ≤ 8 := by exact Nat.le_of_ble_eq_true rfl) : Mw Ω σ0 m M_Mdl_verdict rm_Mdl_verdict F 9 L (xi x0 :: st) μ :=
  fun σ hM => c_Mdl_verdict_9 (hc σ) (by decide) (by decide) (by decide) (by decide) hst (fun y σ' hq => by obtain ⟨rfl, h2⟩ := hq; exact kk y h2 σ' hM) (fun _ _ h => h.elim)
theorem C_verdict_78 {Ω : Om} {σ0 : Sto} {m : Nat} {F : QF} {L st : List PV} {μ : Mu} {Q : Int → Mu → Prop} {x0 : Int} (hc : MMi Ω m M_Mdl_refused rm_Mdl_refused Q μ [xi x0]) (kk : ∀ y μ', Q y μ' → Mw Ω σ0 m M_Mdl_verdict rm_Mdl_verdict F 81 L (xi y :: st) μ') (hst : (st.map catP).sum ≤ 8 := by exact Nat.le_of_ble_eq_true rfl) : Mw Ω σ0 m M_Mdl_verdict rm_Mdl_verdict F 78 L (xi x0 :: xr (some m) :: st) μ :=
  fun σ hM => c_Mdl_verdict_78 (hc σ0 σ hM) hM.1.2.1 (by decide) (by decide) (by decide) (by decide) hst (fun y σ' hq => by obtain ⟨μ', h1, h2⟩ := hq; exact kk y μ' h2 σ' h1) (fun _ _ h => h.elim)
theorem R_verdict_85 {Ω : Om} {σ0 : Sto} {m : Nat} {L : List PV} {μ : Mu} {Q : Int → Mu → Prop} {x : Int} (h : Q x μ) : Mw Ω σ0 m M_Mdl_verdict rm_Mdl_verdict (MQi Ω σ0 m rm_Mdl_verdict Q) 85 L [xi x] μ := fun σ hM => r_Mdl_verdict_85 ⟨_, rfl, μ, hM, h⟩ (by decide) (by decide)
theorem C_verdict_108 {Ω : Om} {σ0 : Sto} {m : Nat} {F : QF} {L st : List PV} {μ : Mu} {Q : Int → Mu → Prop} {x0 : Int} (hc : MMi Ω m M_Mdl_stateOf rm_Mdl_stateOf Q μ [xi x0]) (kk : ∀ y μ', Q y μ' → Mw Ω σ0 m M_Mdl_verdict rm_Mdl_verdict F 111 L (xi y :: st) μ') (hst : (st.map catP).sum ≤ 8 := by exact Nat.le_of_ble_eq_true rfl) : Mw Ω σ0 m M_Mdl_verdict rm_Mdl_verdict F 108 L (xi x0 :: xr (some m) :: st) μ :=
  fun σ hM => c_Mdl_verdict_108 (hc σ0 σ hM) hM.1.2.1 (by decide) (by decide) (by decide) (by decide) hst (fun y σ' hq => by obtain ⟨μ', h1, h2⟩ := hq; exact kk y μ' h2 σ' h1) (fun _ _ h => h.elim)
theorem R_verdict_111 {Ω : Om} {σ0 : Sto} {m : Nat} {L : List PV} {μ : Mu} {Q : Int → Mu → Prop} {x : Int} (h : Q x μ) : Mw Ω σ0 m M_Mdl_verdict rm_Mdl_verdict (MQi Ω σ0 m rm_Mdl_verdict Q) 111 L [xi x] μ := fun σ hM => r_Mdl_verdict_111 ⟨_, rfl, μ, hM, h⟩ (by decide) (by decide)
theorem E_verdict {Ω : Om} {m : Nat} {μ : Mu} {Q : Int → Mu → Prop} {v1 : Int} {v2 : Int} {v3 : Int} (h : ∀ σ0, Mw Ω σ0 m M_Mdl_verdict rm_Mdl_verdict (MQi Ω σ0 m rm_Mdl_verdict Q) 0 [xr (some m), xi v1, xi v2, xi v3, xu, xu] [] μ) : MMi Ω m M_Mdl_verdict rm_Mdl_verdict Q μ [xi v1, xi v2, xi v3] := fun σ0 σ hM => e_Mdl_verdict (h σ0 σ hM)
theorem B_areAlike_0 {Ω : Om} {σ0 : Sto} {m : Nat} {R : Room} {F : QF} {μ : Mu} {v1 : Int} {v2 : Int} {v3 : Int} {v4 : Int} {v5 : Int} {v6 : Int} (h : Q32 (v3 - v2) ∧ Q32 (v6 - v5) ∧ ((¬ (v3 - v2) = (v6 - v5) → Mw Ω σ0 m M_Mdl_areAlike R F 21 [xr (some m), xi v1, xi v2, xi v3, xi v4, xi v5, xi v6, xi 0, xi 0] [] μ) ∧ ((v3 - v2) = (v6 - v5) → Mw Ω σ0 m M_Mdl_areAlike R F 21 [xr (some m), xi v1, xi v2, xi v3, xi v4, xi v5, xi v6, xi 1, xi 0] [] μ))) : Mw Ω σ0 m M_Mdl_areAlike R F 0 [xr (some m), xi v1, xi v2, xi v3, xi v4, xi v5, xi v6, xu, xu] [] μ := by
  intro σ hM
  obtain ⟨hS, hk, e⟩ := id hM
  subst e
  refine b_Mdl_areAlike_0 ?_
  obtain ⟨o, h⟩ := h
  refine ⟨o, ?_⟩
  obtain ⟨o, h⟩ := h
  refine ⟨o, ?_⟩
  refine ⟨fun c => ?_, fun c => ?_⟩
  · have h := h.1 c
    exact h _ hM
  · have h := h.2 c
    exact h _ hM
theorem B_areAlike_21 {Ω : Om} {σ0 : Sto} {m : Nat} {R : Room} {F : QF} {μ : Mu} {v1 : Int} {v2 : Int} {v3 : Int} {v4 : Int} {v5 : Int} {v6 : Int} {v7 : Int} {v8 : Int} (h : Q32 v8 ∧ Q32 (v3 - v2) ∧ (((v3 - v2) ≤ v8 → Mw Ω σ0 m M_Mdl_areAlike R F 93 [xr (some m), xi v1, xi v2, xi v3, xi v4, xi v5, xi v6, xi v7, xi v8] [xi v7] μ) ∧ (¬ (v3 - v2) ≤ v8 → Q32 v7 ∧ ((v7 = (0 : Int) → Mw Ω σ0 m M_Mdl_areAlike R F 93 [xr (some m), xi v1, xi v2, xi v3, xi v4, xi v5, xi v6, xi v7, xi v8] [xi v7] μ) ∧ (¬ v7 = (0 : Int) → 0 ≤ (((20 * v1) + v2) + v8) ∧ (((20 * v1) + v2) + v8) < 800 ∧ 0 ≤ (mA μ 5 (((20 * v1) + v2) + v8).toNat) ∧ (mA μ 5 (((20 * v1) + v2) + v8).toNat) < 16384 ∧ 0 ≤ (((20 * v4) + v5) + v8) ∧ (((20 * v4) + v5) + v8) < 800 ∧ 0 ≤ (mA μ 5 (((20 * v4) + v5) + v8).toNat) ∧ (mA μ 5 (((20 * v4) + v5) + v8).toNat) < 16384 ∧ Q32 (cmpL (mG μ 1 (mA μ 5 (((20 * v1) + v2) + v8).toNat).toNat) (mG μ 1 (mA μ 5 (((20 * v4) + v5) + v8).toNat).toNat)) ∧ ((¬ (cmpL (mG μ 1 (mA μ 5 (((20 * v1) + v2) + v8).toNat).toNat) (mG μ 1 (mA μ 5 (((20 * v4) + v5) + v8).toNat).toNat)) = (0 : Int) → Mw Ω σ0 m M_Mdl_areAlike R F 21 [xr (some m), xi v1, xi v2, xi v3, xi v4, xi v5, xi v6, xi 0, xi (v8 + 1)] [] μ) ∧ ((cmpL (mG μ 1 (mA μ 5 (((20 * v1) + v2) + v8).toNat).toNat) (mG μ 1 (mA μ 5 (((20 * v4) + v5) + v8).toNat).toNat)) = (0 : Int) → Mw Ω σ0 m M_Mdl_areAlike R F 21 [xr (some m), xi v1, xi v2, xi v3, xi v4, xi v5, xi v6, xi 1, xi (v8 + 1)] [] μ))))))) : Mw Ω σ0 m M_Mdl_areAlike R F 21 [xr (some m), xi v1, xi v2, xi v3, xi v4, xi v5, xi v6, xi v7, xi v8] [] μ := by
  intro σ hM
  obtain ⟨hS, hk, e⟩ := id hM
  subst e
  refine b_Mdl_areAlike_21 ?_
  obtain ⟨o, h⟩ := h
  refine ⟨o, ?_⟩
  obtain ⟨o, h⟩ := h
  refine ⟨o, ?_⟩
  refine ⟨fun c => ?_, fun c => ?_⟩
  · have h := h.1 c
    exact h _ hM
  · have h := h.2 c
    obtain ⟨o, h⟩ := h
    refine ⟨o, ?_⟩
    refine ⟨fun c => ?_, fun c => ?_⟩
    · have h := h.1 c
      exact h _ hM
    · have h := h.2 c
      refine ⟨hS.2.1, ?_⟩
      refine ⟨_, hS.r1, ?_⟩
      refine ⟨_, hS.r5, ?_⟩
      refine ⟨hS.k5, ?_⟩
      obtain ⟨o, h⟩ := h
      refine ⟨o, ?_⟩
      obtain ⟨o, h⟩ := h
      refine ⟨hS.b5 o, ?_⟩
      refine fun _ => ?_
      refine ⟨hS.k1, ?_⟩
      obtain ⟨o, h⟩ := h
      refine ⟨o, ?_⟩
      obtain ⟨o, h⟩ := h
      refine ⟨hS.b1 o, ?_⟩
      obtain ⟨o, h⟩ := h
      refine ⟨o, ?_⟩
      obtain ⟨o, h⟩ := h
      refine ⟨hS.b5 o, ?_⟩
      refine fun _ => ?_
      obtain ⟨o, h⟩ := h
      refine ⟨o, ?_⟩
      obtain ⟨o, h⟩ := h
      refine ⟨hS.b1 o, ?_⟩
      obtain ⟨o, h⟩ := h
      refine ⟨o, ?_⟩
      refine ⟨fun c => ?_, fun c => ?_⟩
      · have h := h.1 c
        exact h _ hM
      · have h := h.2 c
        exact h _ hM
theorem R_areAlike_93 {Ω : Om} {σ0 : Sto} {m : Nat} {L : List PV} {μ : Mu} {Q : Int → Mu → Prop} {x : Int} (hx : x = 0 ∨ x = 1) (h : Q x μ) : Mw Ω σ0 m M_Mdl_areAlike rm_Mdl_areAlike (MQi Ω σ0 m rm_Mdl_areAlike Q) 93 L [xi x] μ := fun σ hM => r_Mdl_areAlike_93 hx ⟨_, rfl, μ, hM, h⟩ (by decide) (by decide)
theorem E_areAlike {Ω : Om} {m : Nat} {μ : Mu} {Q : Int → Mu → Prop} {v1 : Int} {v2 : Int} {v3 : Int} {v4 : Int} {v5 : Int} {v6 : Int} (h : ∀ σ0, Mw Ω σ0 m M_Mdl_areAlike rm_Mdl_areAlike (MQi Ω σ0 m rm_Mdl_areAlike Q) 0 [xr (some m), xi v1, xi v2, xi v3, xi v4, xi v5, xi v6, xu, xu] [] μ) : MMi Ω m M_Mdl_areAlike rm_Mdl_areAlike Q μ [xi v1, xi v2, xi v3, xi v4, xi v5, xi v6] := fun σ0 σ hM => e_Mdl_areAlike (h σ0 σ hM)
theorem B_change_0 {Ω : Om} {σ0 : Sto} {m : Nat} {R : Room} {F : QF} {μ : Mu} {v1 : Int} {v2 : Int64} (h : Mw Ω σ0 m M_Mdl_change R F 3 [xr (some m), xi v1, xl v2, xu, xu] [xi v1, xr (some m), xr (some m)] μ) : Mw Ω σ0 m M_Mdl_change R F 0 [xr (some m), xi v1, xl v2, xu, xu] [] μ := by
  intro σ hM
  obtain ⟨hS, hk, e⟩ := id hM
  subst e
  refine b_Mdl_change_0 ?_
  exact h _ hM
theorem B_change_6 {Ω : Om} {σ0 : Sto} {m : Nat} {R : Room} {F : QF} {μ : Mu} {v1 : Int} {v2 : Int64} {s1 : Int} (h : Q32 s1 ∧ ((¬ s1 = (0 : Int) → Mw Ω σ0 m M_Mdl_change R F 14 [xr (some m), xi v1, xl v2, xu, xu] [xl v2, xr (some m)] μ) ∧ (s1 = (0 : Int) → Mw Ω σ0 m M_Mdl_change R F 36 [xr (some m), xi v1, xl v2, xu, xu] [xi 1, xr (some m)] μ))) : Mw Ω σ0 m M_Mdl_change R F 6 [xr (some m), xi v1, xl v2, xu, xu] [xi s1, xr (some m)] μ := by
  intro σ hM
  obtain ⟨hS, hk, e⟩ := id hM
  subst e
  refine b_Mdl_change_6 ?_
  obtain ⟨o, h⟩ := h
  refine ⟨o, ?_⟩
  refine ⟨fun c => ?_, fun c => ?_⟩
  · have h := h.1 c
    exact h _ hM
  · have h := h.2 c
    exact h _ hM
theorem B_change_39 {Ω : Om} {σ0 : Sto} {m : Nat} {R : Room} {F : QF} {μ : Mu} {v1 : Int} {v2 : Int64} {s0 : Int} (h : Q32 s0 ∧ ((s0 = (0 : Int) → Mw Ω σ0 m M_Mdl_change R F 45 [xr (some m), xi v1, xl v2, xu, xu] [xr (some m)] μ) ∧ (¬ s0 = (0 : Int) → Mw Ω σ0 m M_Mdl_change R F 43 [xr (some m), xi v1, xl v2, xu, xu] [xi 0] μ))) : Mw Ω σ0 m M_Mdl_change R F 39 [xr (some m), xi v1, xl v2, xu, xu] [xi s0] μ := by
  intro σ hM
  obtain ⟨hS, hk, e⟩ := id hM
  subst e
  refine b_Mdl_change_39 ?_
  obtain ⟨o, h⟩ := h
  refine ⟨o, ?_⟩
  refine ⟨fun c => ?_, fun c => ?_⟩
  · have h := h.1 c
    exact h _ hM
  · have h := h.2 c
    exact h _ hM
theorem B_change_48 {Ω : Om} {σ0 : Sto} {m : Nat} {R : Room} {F : QF} {μ : Mu} {v1 : Int} {v2 : Int64} (h : 0 ≤ v1 ∧ v1 < 64 ∧ 0 ≤ (mA μ 9 (v1).toNat) ∧ (mA μ 9 (v1).toNat) < 16384 ∧ Q32 (cmpL (mG μ 1 (mA μ 9 (v1).toNat).toNat) v2) ∧ (((cmpL (mG μ 1 (mA μ 9 (v1).toNat).toNat) v2) = (0 : Int) → Mw Ω σ0 m M_Mdl_change R F 94 [xr (some m), xi v1, xl v2, xu, xi (mA μ 9 (v1).toNat)] [xl v2, xl (mG μ 1 (mA μ 9 (v1).toNat).toNat), xr (some m)] μ) ∧ (¬ (cmpL (mG μ 1 (mA μ 9 (v1).toNat).toNat) v2) = (0 : Int) → Mw Ω σ0 m M_Mdl_change R F 81 [xr (some m), xi v1, xl v2, xu, xi (mA μ 9 (v1).toNat)] [xi (mA μ 9 (v1).toNat), xi (mI μ 14), xl v2, xr (some m), xi v1, xr (some (m + 9))] μ))) : Mw Ω σ0 m M_Mdl_change R F 48 [xr (some m), xi v1, xl v2, xu, xu] [] μ := by
  intro σ hM
  obtain ⟨hS, hk, e⟩ := id hM
  subst e
  refine b_Mdl_change_48 ?_
  refine ⟨hS.2.1, ?_⟩
  refine ⟨_, hS.r9, ?_⟩
  refine ⟨hS.k9, ?_⟩
  obtain ⟨o, h⟩ := h
  refine ⟨o, ?_⟩
  obtain ⟨o, h⟩ := h
  refine ⟨hS.b9 o, ?_⟩
  refine fun _ => ?_
  refine ⟨_, hS.r1, ?_⟩
  refine ⟨hS.k1, ?_⟩
  obtain ⟨o, h⟩ := h
  refine ⟨o, ?_⟩
  obtain ⟨o, h⟩ := h
  refine ⟨hS.b1 o, ?_⟩
  obtain ⟨o, h⟩ := h
  refine ⟨o, ?_⟩
  refine ⟨fun c => ?_, fun c => ?_⟩
  · have h := h.1 c
    exact h _ hM
  · have h := h.2 c
    refine fun _ => ?_
    exact h _ hM
theorem B_change_84 {Ω : Om} {σ0 : Sto} {m : Nat} {R : Room} {F : QF} {μ : Mu} {v1 : Int} {v2 : Int64} {v4 : Int} {s1 : Int} {s2 : Int} (h : 0 ≤ s1 ∧ s1 < 64 ∧ Q32 s2 ∧ 0 ≤ v4 ∧ v4 < 16384 ∧ Mw Ω σ0 m M_Mdl_change R F 94 [xr (some m), xi v1, xl v2, xu, xi v4] [xl v2, xl (mG μ 1 (v4).toNat), xr (some m)] (wA μ 9 (s1).toNat s2)) : Mw Ω σ0 m M_Mdl_change R F 84 [xr (some m), xi v1, xl v2, xu, xi v4] [xi s2, xi s1, xr (some (m + 9))] μ := by
  intro σ hM
  obtain ⟨hS, hk, e⟩ := id hM
  subst e
  refine b_Mdl_change_84 ?_
  refine ⟨hS.k9, ?_⟩
  obtain ⟨o, h⟩ := h
  refine ⟨o, ?_⟩
  obtain ⟨o, h⟩ := h
  refine ⟨hS.b9 o, ?_⟩
  obtain ⟨o, h⟩ := h
  refine ⟨o, ?_⟩
  refine ⟨hS.2.1, ?_⟩
  refine ⟨_, hS.r1, ?_⟩
  refine ⟨hS.k1, ?_⟩
  obtain ⟨o, h⟩ := h
  refine ⟨o, ?_⟩
  obtain ⟨o, h⟩ := h
  refine ⟨hS.b1 o, ?_⟩
  exact h _ (MR.vI (j := 9) (by decide) hM)
theorem B_change_17 {Ω : Om} {σ0 : Sto} {m : Nat} {R : Room} {F : QF} {μ : Mu} {v1 : Int} {v2 : Int64} {s1 : Int} (h : Q32 s1 ∧ ((¬ s1 = (0 : Int) → Mw Ω σ0 m M_Mdl_change R F 25 [xr (some m), xi v1, xl v2, xu, xu] [xr (some m), xr (some m)] μ) ∧ (s1 = (0 : Int) → Mw Ω σ0 m M_Mdl_change R F 36 [xr (some m), xi v1, xl v2, xu, xu] [xi 2, xr (some m)] μ))) : Mw Ω σ0 m M_Mdl_change R F 17 [xr (some m), xi v1, xl v2, xu, xu] [xi s1, xr (some m)] μ := by
  intro σ hM
  obtain ⟨hS, hk, e⟩ := id hM
  subst e
  refine b_Mdl_change_17 ?_
  obtain ⟨o, h⟩ := h
  refine ⟨o, ?_⟩
  refine ⟨fun c => ?_, fun c => ?_⟩
  · have h := h.1 c
    exact h _ hM
  · have h := h.2 c
    exact h _ hM
theorem B_change_28 {Ω : Om} {σ0 : Sto} {m : Nat} {R : Room} {F : QF} {μ : Mu} {v1 : Int} {v2 : Int64} {s1 : Int} (h : Q32 s1 ∧ ((s1 = (0 : Int) → Mw Ω σ0 m M_Mdl_change R F 36 [xr (some m), xi v1, xl v2, xu, xu] [xi 3, xr (some m)] μ) ∧ (¬ s1 = (0 : Int) → Mw Ω σ0 m M_Mdl_change R F 36 [xr (some m), xi v1, xl v2, xu, xu] [xi 0, xr (some m)] μ))) : Mw Ω σ0 m M_Mdl_change R F 28 [xr (some m), xi v1, xl v2, xu, xu] [xi s1, xr (some m)] μ := by
  intro σ hM
  obtain ⟨hS, hk, e⟩ := id hM
  subst e
  refine b_Mdl_change_28 ?_
  obtain ⟨o, h⟩ := h
  refine ⟨o, ?_⟩
  refine ⟨fun c => ?_, fun c => ?_⟩
  · have h := h.1 c
    exact h _ hM
  · have h := h.2 c
    exact h _ hM
theorem C_change_3 {Ω : Om} {σ0 : Sto} {m : Nat} {F : QF} {L st : List PV} {μ : Mu} {Q : Int → Mu → Prop} {x0 : Int} (hc : MMi Ω m M_Mdl_isPlace rm_Mdl_isPlace Q μ [xi x0]) (kk : ∀ y μ', Q y μ' → Mw Ω σ0 m M_Mdl_change rm_Mdl_change F 6 L (xi y :: st) μ') (hst : (st.map catP).sum ≤ 8 := by exact Nat.le_of_ble_eq_true rfl) : Mw Ω σ0 m M_Mdl_change rm_Mdl_change F 3 L (xi x0 :: xr (some m) :: st) μ :=
  fun σ hM => c_Mdl_change_3 (hc σ0 σ hM) hM.1.2.1 (by decide) (by decide) (by decide) (by decide) hst (fun y σ' hq => by obtain ⟨μ', h1, h2⟩ := hq; exact kk y μ' h2 σ' h1) (fun _ _ h => h.elim)
theorem C_change_14 {Ω : Om} {σ0 : Sto} {m : Nat} {F : QF} {L st : List PV} {μ : Mu} {P : Int → Prop} {x0 : Int64} (hc : MPi Ω M_Mdl_isLine rm_Mdl_isLine P [xl x0]) (kk : ∀ y , P y  → Mw Ω σ0 m M_Mdl_change rm_Mdl_change F 17 L (xi y :: st) μ) (hst : (st.map catP).sum ≤ 8 := by exact Nat.le_of_ble_eq_true rfl) : Mw Ω σ0 m M_Mdl_change rm_Mdl_change F 14 L (xl x0 :: st) μ :=
  fun σ hM => c_Mdl_change_14 (hc σ) (by decide) (by decide) (by decide) (by decide) hst (fun y σ' hq => by obtain ⟨rfl, h2⟩ := hq; exact kk y h2 σ' hM) (fun _ _ h => h.elim)
theorem C_change_25 {Ω : Om} {σ0 : Sto} {m : Nat} {F : QF} {L st : List PV} {μ : Mu} {Q : Int → Mu → Prop}  (hc : MMi Ω m M_Mdl_isSettled rm_Mdl_isSettled Q μ []) (kk : ∀ y μ', Q y μ' → Mw Ω σ0 m M_Mdl_change rm_Mdl_change F 28 L (xi y :: st) μ') (hst : (st.map catP).sum ≤ 8 := by exact Nat.le_of_ble_eq_true rfl) : Mw Ω σ0 m M_Mdl_change rm_Mdl_change F 25 L (xr (some m) :: st) μ :=
  fun σ hM => c_Mdl_change_25 (hc σ0 σ hM) hM.1.2.1 (by decide) (by decide) (by decide) (by decide) hst (fun y σ' hq => by obtain ⟨μ', h1, h2⟩ := hq; exact kk y μ' h2 σ' h1) (fun _ _ h => h.elim)
theorem C_change_36 {Ω : Om} {σ0 : Sto} {m : Nat} {F : QF} {L st : List PV} {μ : Mu} {Q : Int → Mu → Prop} {x0 : Int} (hc : MMi Ω m M_Mdl_refused rm_Mdl_refused Q μ [xi x0]) (kk : ∀ y μ', Q y μ' → Mw Ω σ0 m M_Mdl_change rm_Mdl_change F 39 L (xi y :: st) μ') (hst : (st.map catP).sum ≤ 8 := by exact Nat.le_of_ble_eq_true rfl) : Mw Ω σ0 m M_Mdl_change rm_Mdl_change F 36 L (xi x0 :: xr (some m) :: st) μ :=
  fun σ hM => c_Mdl_change_36 (hc σ0 σ hM) hM.1.2.1 (by decide) (by decide) (by decide) (by decide) hst (fun y σ' hq => by obtain ⟨μ', h1, h2⟩ := hq; exact kk y μ' h2 σ' h1) (fun _ _ h => h.elim)
theorem R_change_43 {Ω : Om} {σ0 : Sto} {m : Nat} {L : List PV} {μ : Mu} {Q : Int → Mu → Prop} {x : Int} (h : Q x μ) : Mw Ω σ0 m M_Mdl_change rm_Mdl_change (MQi Ω σ0 m rm_Mdl_change Q) 43 L [xi x] μ := fun σ hM => r_Mdl_change_43 ⟨_, rfl, μ, hM, h⟩ (by decide) (by decide)
theorem C_change_45 {Ω : Om} {σ0 : Sto} {m : Nat} {F : QF} {L st : List PV} {μ : Mu} {Q : Mu → Prop}  (hc : MMv Ω m M_Mdl_remember rm_Mdl_remember Q μ []) (kk : ∀ μ', Q μ' → Mw Ω σ0 m M_Mdl_change rm_Mdl_change F 48 L st μ') (hst : (st.map catP).sum ≤ 8 := by exact Nat.le_of_ble_eq_true rfl) : Mw Ω σ0 m M_Mdl_change rm_Mdl_change F 45 L (xr (some m) :: st) μ :=
  fun σ hM => c_Mdl_change_45 (hc σ0 σ hM) hM.1.2.1 (by decide) (by decide) (by decide) (by decide) hst (fun σ' hq => by obtain ⟨μ', h1, h2⟩ := hq; exact kk μ' h2 σ' h1) (fun _ _ h => h.elim)
theorem C_change_81 {Ω : Om} {σ0 : Sto} {m : Nat} {F : QF} {L st : List PV} {μ : Mu} {Q : Int → Mu → Prop} {x0 : Int64} {x1 : Int} {x2 : Int} (hc : MMi Ω m M_Mdl_id rm_Mdl_id Q μ [xl x0, xi x1, xi x2]) (kk : ∀ y μ', Q y μ' → Mw Ω σ0 m M_Mdl_change rm_Mdl_change F 84 L (xi y :: st) μ') (hst : (st.map catP).sum ≤ 8 := by exact Nat.le_of_ble_eq_true rfl) : Mw Ω σ0 m M_Mdl_change rm_Mdl_change F 81 L (xi x2 :: xi x1 :: xl x0 :: xr (some m) :: st) μ :=
  fun σ hM => c_Mdl_change_81 (hc σ0 σ hM) hM.1.2.1 (by decide) (by decide) (by decide) (by decide) hst (fun y σ' hq => by obtain ⟨μ', h1, h2⟩ := hq; exact kk y μ' h2 σ' h1) (fun _ _ h => h.elim)
theorem C_change_94 {Ω : Om} {σ0 : Sto} {m : Nat} {F : QF} {L st : List PV} {μ : Mu} {Q : Int → Mu → Prop} {x0 : Int64} {x1 : Int64} (hc : MMi Ω m M_Mdl_likenessOf rm_Mdl_likenessOf Q μ [xl x0, xl x1]) (kk : ∀ y μ', Q y μ' → Mw Ω σ0 m M_Mdl_change rm_Mdl_change F 97 L (xi y :: st) μ') (hst : (st.map catP).sum ≤ 8 := by exact Nat.le_of_ble_eq_true rfl) : Mw Ω σ0 m M_Mdl_change rm_Mdl_change F 94 L (xl x1 :: xl x0 :: xr (some m) :: st) μ :=
  fun σ hM => c_Mdl_change_94 (hc σ0 σ hM) hM.1.2.1 (by decide) (by decide) (by decide) (by decide) hst (fun y σ' hq => by obtain ⟨μ', h1, h2⟩ := hq; exact kk y μ' h2 σ' h1) (fun _ _ h => h.elim)
theorem R_change_97 {Ω : Om} {σ0 : Sto} {m : Nat} {L : List PV} {μ : Mu} {Q : Int → Mu → Prop} {x : Int} (h : Q x μ) : Mw Ω σ0 m M_Mdl_change rm_Mdl_change (MQi Ω σ0 m rm_Mdl_change Q) 97 L [xi x] μ := fun σ hM => r_Mdl_change_97 ⟨_, rfl, μ, hM, h⟩ (by decide) (by decide)
theorem E_change {Ω : Om} {m : Nat} {μ : Mu} {Q : Int → Mu → Prop} {v1 : Int} {v2 : Int64} (h : ∀ σ0, Mw Ω σ0 m M_Mdl_change rm_Mdl_change (MQi Ω σ0 m rm_Mdl_change Q) 0 [xr (some m), xi v1, xl v2, xu, xu] [] μ) : MMi Ω m M_Mdl_change rm_Mdl_change Q μ [xi v1, xl v2] := fun σ0 σ hM => e_Mdl_change (h σ0 σ hM)
theorem B_remember_0 {Ω : Om} {σ0 : Sto} {m : Nat} {R : Room} {F : QF} {μ : Mu}  (h : 0 ≤ (mI μ 21) ∧ (mI μ 21) < 640 ∧ 0 ≤ (mI μ 21) ∧ (mI μ 21) < 640 ∧ Mw Ω σ0 m M_Mdl_remember R F 28 [xr (some m), xi 0] [] (wA (wA μ 12 (mI μ 21).toNat (mI μ 15)) 13 (mI μ 21).toNat (mI μ 18))) : Mw Ω σ0 m M_Mdl_remember R F 0 [xr (some m), xu] [] μ := by
  intro σ hM
  obtain ⟨hS, hk, e⟩ := id hM
  subst e
  refine b_Mdl_remember_0 ?_
  refine ⟨hS.2.1, ?_⟩
  refine ⟨_, hS.r12, ?_⟩
  refine fun _ => ?_
  refine fun _ => ?_
  refine ⟨hS.k12, ?_⟩
  obtain ⟨o, h⟩ := h
  refine ⟨o, ?_⟩
  obtain ⟨o, h⟩ := h
  refine ⟨hS.b12 o, ?_⟩
  refine ⟨_, hS.r13, ?_⟩
  refine fun _ => ?_
  refine fun _ => ?_
  refine ⟨hS.k13, ?_⟩
  obtain ⟨o, h⟩ := h
  refine ⟨o, ?_⟩
  obtain ⟨o, h⟩ := h
  refine ⟨hS.b13 o, ?_⟩
  exact h _ (MR.vI (j := 13) (by decide) (MR.vI (j := 12) (by decide) hM))
theorem B_remember_28 {Ω : Om} {σ0 : Sto} {m : Nat} {R : Room} {F : QF} {μ : Mu} {v1 : Int} (h : Q32 v1 ∧ (((mI μ 15) ≤ v1 → Q32 ((mI μ 21) + 1) ∧ Mw Ω σ0 m M_Mdl_remember R F 72 [xr (some m), xi v1] [] (wI μ 21 ((mI μ 21) + 1))) ∧ (¬ (mI μ 15) ≤ v1 → 0 ≤ v1 ∧ v1 < 64 ∧ 0 ≤ ((48 * (mI μ 21)) + v1) ∧ ((48 * (mI μ 21)) + v1) < 30720 ∧ Mw Ω σ0 m M_Mdl_remember R F 28 [xr (some m), xi (v1 + 1)] [] (wA μ 14 ((48 * (mI μ 21)) + v1).toNat (mA μ 9 (v1).toNat))))) : Mw Ω σ0 m M_Mdl_remember R F 28 [xr (some m), xi v1] [] μ := by
  intro σ hM
  obtain ⟨hS, hk, e⟩ := id hM
  subst e
  refine b_Mdl_remember_28 ?_
  refine ⟨hS.2.1, ?_⟩
  refine fun _ => ?_
  obtain ⟨o, h⟩ := h
  refine ⟨o, ?_⟩
  refine ⟨fun c => ?_, fun c => ?_⟩
  · have h := h.1 c
    refine fun _ => ?_
    obtain ⟨o, h⟩ := h
    refine ⟨o, ?_⟩
    exact h _ (MR.uI (f := 21) hM)
  · have h := h.2 c
    refine ⟨_, hS.r14, ?_⟩
    refine fun _ => ?_
    refine ⟨_, hS.r9, ?_⟩
    refine ⟨hS.k9, ?_⟩
    obtain ⟨o, h⟩ := h
    refine ⟨o, ?_⟩
    obtain ⟨o, h⟩ := h
    refine ⟨hS.b9 o, ?_⟩
    refine fun _ => ?_
    refine ⟨hS.k14, ?_⟩
    obtain ⟨o, h⟩ := h
    refine ⟨o, ?_⟩
    obtain ⟨o, h⟩ := h
    refine ⟨hS.b14 o, ?_⟩
    exact h _ (MR.vI (j := 14) (by decide) hM)
theorem R_remember_72 {Ω : Om} {σ0 : Sto} {m : Nat} {L : List PV} {μ : Mu} {Q : Mu → Prop} (h : Q μ) : Mw Ω σ0 m M_Mdl_remember rm_Mdl_remember (MQv Ω σ0 m rm_Mdl_remember Q) 72 L [] μ := fun σ hM => r_Mdl_remember_72 ⟨rfl, μ, hM, h⟩ (by decide) (by decide)
theorem E_remember {Ω : Om} {m : Nat} {μ : Mu} {Q : Mu → Prop}  (h : ∀ σ0, Mw Ω σ0 m M_Mdl_remember rm_Mdl_remember (MQv Ω σ0 m rm_Mdl_remember Q) 0 [xr (some m), xu] [] μ) : MMv Ω m M_Mdl_remember rm_Mdl_remember Q μ [] := fun σ0 σ hM => e_Mdl_remember (h σ0 σ hM)
theorem B_areSame_0 {Ω : Om} {σ0 : Sto} {m : Nat} {R : Room} {F : QF} {μ : Mu} {v1 : Int} {v2 : Int} {v3 : Int} (h : Q32 v3 ∧ ((v3 = (0 : Int) → 0 ≤ v1 ∧ v1 < 16384 ∧ 0 ≤ v2 ∧ v2 < 16384 ∧ Q32 (cmpL (mG μ 1 (v1).toNat) (mG μ 1 (v2).toNat)) ∧ ((¬ (cmpL (mG μ 1 (v1).toNat) (mG μ 1 (v2).toNat)) = (0 : Int) → Mw Ω σ0 m M_Mdl_areSame R F 55 [xr (some m), xi v1, xi v2, xi v3] [xi 0] μ) ∧ ((cmpL (mG μ 1 (v1).toNat) (mG μ 1 (v2).toNat)) = (0 : Int) → Mw Ω σ0 m M_Mdl_areSame R F 55 [xr (some m), xi v1, xi v2, xi v3] [xi 1] μ))) ∧ (¬ v3 = (0 : Int) → 0 ≤ v1 ∧ v1 < 16384 ∧ Mw Ω σ0 m M_Mdl_areSame R F 10 [xr (some m), xi v1, xi v2, xi v3] [xl (mG μ 1 (v1).toNat)] μ))) : Mw Ω σ0 m M_Mdl_areSame R F 0 [xr (some m), xi v1, xi v2, xi v3] [] μ := by
  intro σ hM
  obtain ⟨hS, hk, e⟩ := id hM
  subst e
  refine b_Mdl_areSame_0 ?_
  obtain ⟨o, h⟩ := h
  refine ⟨o, ?_⟩
  refine ⟨fun c => ?_, fun c => ?_⟩
  · have h := h.1 c
    refine ⟨hS.2.1, ?_⟩
    refine ⟨_, hS.r1, ?_⟩
    refine ⟨hS.k1, ?_⟩
    obtain ⟨o, h⟩ := h
    refine ⟨o, ?_⟩
    obtain ⟨o, h⟩ := h
    refine ⟨hS.b1 o, ?_⟩
    obtain ⟨o, h⟩ := h
    refine ⟨o, ?_⟩
    obtain ⟨o, h⟩ := h
    refine ⟨hS.b1 o, ?_⟩
    obtain ⟨o, h⟩ := h
    refine ⟨o, ?_⟩
    refine ⟨fun c => ?_, fun c => ?_⟩
    · have h := h.1 c
      exact h _ hM
    · have h := h.2 c
      exact h _ hM
  · have h := h.2 c
    refine ⟨hS.2.1, ?_⟩
    refine ⟨_, hS.r1, ?_⟩
    refine ⟨hS.k1, ?_⟩
    obtain ⟨o, h⟩ := h
    refine ⟨o, ?_⟩
    obtain ⟨o, h⟩ := h
    refine ⟨hS.b1 o, ?_⟩
    exact h _ hM
theorem B_areSame_13 {Ω : Om} {σ0 : Sto} {m : Nat} {R : Room} {F : QF} {μ : Mu} {v1 : Int} {v2 : Int} {v3 : Int} {s0 : Int64} (h : 0 ≤ v2 ∧ v2 < 16384 ∧ Mw Ω σ0 m M_Mdl_areSame R F 19 [xr (some m), xi v1, xi v2, xi v3] [xl (mG μ 1 (v2).toNat), xl s0] μ) : Mw Ω σ0 m M_Mdl_areSame R F 13 [xr (some m), xi v1, xi v2, xi v3] [xl s0] μ := by
  intro σ hM
  obtain ⟨hS, hk, e⟩ := id hM
  subst e
  refine b_Mdl_areSame_13 ?_
  refine ⟨hS.2.1, ?_⟩
  refine ⟨_, hS.r1, ?_⟩
  refine ⟨hS.k1, ?_⟩
  obtain ⟨o, h⟩ := h
  refine ⟨o, ?_⟩
  obtain ⟨o, h⟩ := h
  refine ⟨hS.b1 o, ?_⟩
  exact h _ hM
theorem B_areSame_22 {Ω : Om} {σ0 : Sto} {m : Nat} {R : Room} {F : QF} {μ : Mu} {v1 : Int} {v2 : Int} {v3 : Int} {s0 : Int64} {s1 : Int64} (h : Q32 (cmpL s0 s1) ∧ ((¬ (cmpL s0 s1) = (0 : Int) → Mw Ω σ0 m M_Mdl_areSame R F 55 [xr (some m), xi v1, xi v2, xi v3] [xi 0] μ) ∧ ((cmpL s0 s1) = (0 : Int) → Mw Ω σ0 m M_Mdl_areSame R F 55 [xr (some m), xi v1, xi v2, xi v3] [xi 1] μ))) : Mw Ω σ0 m M_Mdl_areSame R F 22 [xr (some m), xi v1, xi v2, xi v3] [xl s1, xl s0] μ := by
  intro σ hM
  obtain ⟨hS, hk, e⟩ := id hM
  subst e
  refine b_Mdl_areSame_22 ?_
  obtain ⟨o, h⟩ := h
  refine ⟨o, ?_⟩
  refine ⟨fun c => ?_, fun c => ?_⟩
  · have h := h.1 c
    exact h _ hM
  · have h := h.2 c
    exact h _ hM
theorem C_areSame_10 {Ω : Om} {σ0 : Sto} {m : Nat} {F : QF} {L st : List PV} {μ : Mu} {P : Int64 → Prop} {x0 : Int64} (hc : MPl Ω M_Mdl_bare rm_Mdl_bare P [xl x0]) (kk : ∀ y , P y  → Mw Ω σ0 m M_Mdl_areSame rm_Mdl_areSame F 13 L (xl y :: st) μ) (hst : (st.map catP).sum ≤ 8 := by exact Nat.le_of_ble_eq_true rfl) : Mw Ω σ0 m M_Mdl_areSame rm_Mdl_areSame F 10 L (xl x0 :: st) μ :=
  fun σ hM => c_Mdl_areSame_10 (hc σ) (by decide) (by decide) (by decide) (by decide) hst (fun y σ' hq => by obtain ⟨rfl, h2⟩ := hq; exact kk y h2 σ' hM) (fun _ _ h => h.elim)
theorem C_areSame_19 {Ω : Om} {σ0 : Sto} {m : Nat} {F : QF} {L st : List PV} {μ : Mu} {P : Int64 → Prop} {x0 : Int64} (hc : MPl Ω M_Mdl_bare rm_Mdl_bare P [xl x0]) (kk : ∀ y , P y  → Mw Ω σ0 m M_Mdl_areSame rm_Mdl_areSame F 22 L (xl y :: st) μ) (hst : (st.map catP).sum ≤ 8 := by exact Nat.le_of_ble_eq_true rfl) : Mw Ω σ0 m M_Mdl_areSame rm_Mdl_areSame F 19 L (xl x0 :: st) μ :=
  fun σ hM => c_Mdl_areSame_19 (hc σ) (by decide) (by decide) (by decide) (by decide) hst (fun y σ' hq => by obtain ⟨rfl, h2⟩ := hq; exact kk y h2 σ' hM) (fun _ _ h => h.elim)
theorem R_areSame_55 {Ω : Om} {σ0 : Sto} {m : Nat} {L : List PV} {μ : Mu} {Q : Int → Mu → Prop} {x : Int} (hx : x = 0 ∨ x = 1) (h : Q x μ) : Mw Ω σ0 m M_Mdl_areSame rm_Mdl_areSame (MQi Ω σ0 m rm_Mdl_areSame Q) 55 L [xi x] μ := fun σ hM => r_Mdl_areSame_55 hx ⟨_, rfl, μ, hM, h⟩ (by decide) (by decide)
theorem E_areSame {Ω : Om} {m : Nat} {μ : Mu} {Q : Int → Mu → Prop} {v1 : Int} {v2 : Int} {v3 : Int} (h : ∀ σ0, Mw Ω σ0 m M_Mdl_areSame rm_Mdl_areSame (MQi Ω σ0 m rm_Mdl_areSame Q) 0 [xr (some m), xi v1, xi v2, xi v3] [] μ) : MMi Ω m M_Mdl_areSame rm_Mdl_areSame Q μ [xi v1, xi v2, xi v3] := fun σ0 σ hM => e_Mdl_areSame (h σ0 σ hM)
theorem B_layLines_0 {Ω : Om} {σ0 : Sto} {m : Nat} {R : Room} {F : QF} {μ : Mu} {v1 : Int} {v2 : Int} {v3 : Int} {v4 : Int} (h : Mw Ω σ0 m M_Mdl_layLines R F 3 [xr (some m), xi v1, xi v2, xi v3, xi v4, xi v2] [] μ) : Mw Ω σ0 m M_Mdl_layLines R F 0 [xr (some m), xi v1, xi v2, xi v3, xi v4, xu] [] μ := by
  intro σ hM
  obtain ⟨hS, hk, e⟩ := id hM
  subst e
  refine b_Mdl_layLines_0 ?_
  exact h _ hM
theorem B_layLines_3 {Ω : Om} {σ0 : Sto} {m : Nat} {R : Room} {F : QF} {μ : Mu} {v1 : Int} {v2 : Int} {v3 : Int} {v4 : Int} {v5 : Int} (h : Q32 v5 ∧ Q32 v3 ∧ ((v3 ≤ v5 → Mw Ω σ0 m M_Mdl_layLines R F 54 [xr (some m), xi v1, xi v2, xi v3, xi v4, xi v5] [xi (v3 - v2)] μ) ∧ (¬ v3 ≤ v5 → Q32 v4 ∧ ((v4 = (0 : Int) → Mw Ω σ0 m M_Mdl_layLines R F 54 [xr (some m), xi v1, xi v2, xi v3, xi v4, xi v5] [xi (v3 - v2)] μ) ∧ (¬ v4 = (0 : Int) → 0 ≤ ((20 * v1) + v5) ∧ ((20 * v1) + v5) < 800 ∧ 0 ≤ (mI μ 15) ∧ (mI μ 15) < 64 ∧ Q32 ((mI μ 15) + 1) ∧ Mw Ω σ0 m M_Mdl_layLines R F 3 [xr (some m), xi v1, xi v2, xi v3, xi v4, xi (v5 + 1)] [] (wI (wA μ 9 (mI μ 15).toNat (mA μ 5 ((20 * v1) + v5).toNat)) 15 ((mI μ 15) + 1))))))) : Mw Ω σ0 m M_Mdl_layLines R F 3 [xr (some m), xi v1, xi v2, xi v3, xi v4, xi v5] [] μ := by
  intro σ hM
  obtain ⟨hS, hk, e⟩ := id hM
  subst e
  refine b_Mdl_layLines_3 ?_
  obtain ⟨o, h⟩ := h
  refine ⟨o, ?_⟩
  obtain ⟨o, h⟩ := h
  refine ⟨o, ?_⟩
  refine ⟨fun c => ?_, fun c => ?_⟩
  · have h := h.1 c
    exact h _ hM
  · have h := h.2 c
    obtain ⟨o, h⟩ := h
    refine ⟨o, ?_⟩
    refine ⟨fun c => ?_, fun c => ?_⟩
    · have h := h.1 c
      exact h _ hM
    · have h := h.2 c
      refine ⟨hS.2.1, ?_⟩
      refine ⟨_, hS.r9, ?_⟩
      refine fun _ => ?_
      refine ⟨_, hS.r5, ?_⟩
      refine ⟨hS.k5, ?_⟩
      obtain ⟨o, h⟩ := h
      refine ⟨o, ?_⟩
      obtain ⟨o, h⟩ := h
      refine ⟨hS.b5 o, ?_⟩
      refine fun _ => ?_
      refine ⟨hS.k9, ?_⟩
      obtain ⟨o, h⟩ := h
      refine ⟨o, ?_⟩
      obtain ⟨o, h⟩ := h
      refine ⟨hS.b9 o, ?_⟩
      refine fun _ => ?_
      obtain ⟨o, h⟩ := h
      refine ⟨o, ?_⟩
      exact h _ (MR.uI (f := 15) (MR.vI (j := 9) (by decide) hM))
theorem R_layLines_54 {Ω : Om} {σ0 : Sto} {m : Nat} {L : List PV} {μ : Mu} {Q : Int → Mu → Prop} {x : Int} (h : Q x μ) : Mw Ω σ0 m M_Mdl_layLines rm_Mdl_layLines (MQi Ω σ0 m rm_Mdl_layLines Q) 54 L [xi x] μ := fun σ hM => r_Mdl_layLines_54 ⟨_, rfl, μ, hM, h⟩ (by decide) (by decide)
theorem E_layLines {Ω : Om} {m : Nat} {μ : Mu} {Q : Int → Mu → Prop} {v1 : Int} {v2 : Int} {v3 : Int} {v4 : Int} (h : ∀ σ0, Mw Ω σ0 m M_Mdl_layLines rm_Mdl_layLines (MQi Ω σ0 m rm_Mdl_layLines Q) 0 [xr (some m), xi v1, xi v2, xi v3, xi v4, xu] [] μ) : MMi Ω m M_Mdl_layLines rm_Mdl_layLines Q μ [xi v1, xi v2, xi v3, xi v4] := fun σ0 σ hM => e_Mdl_layLines (h σ0 σ hM)
theorem B_pieceOf_0 {Ω : Om} {σ0 : Sto} {m : Nat} {R : Room} {F : QF} {μ : Mu} {v1 : Int} {v2 : Int} (h : Mw Ω σ0 m M_Mdl_pieceOf R F 3 [xr (some m), xi v1, xi v2] [xi v1, xr (some m), xr (some m)] μ) : Mw Ω σ0 m M_Mdl_pieceOf R F 0 [xr (some m), xi v1, xi v2] [] μ := by
  intro σ hM
  obtain ⟨hS, hk, e⟩ := id hM
  subst e
  refine b_Mdl_pieceOf_0 ?_
  exact h _ hM
theorem B_pieceOf_6 {Ω : Om} {σ0 : Sto} {m : Nat} {R : Room} {F : QF} {μ : Mu} {v1 : Int} {v2 : Int} {s1 : Int} (h : Q32 s1 ∧ ((¬ s1 = (0 : Int) → Mw Ω σ0 m M_Mdl_pieceOf R F 16 [xr (some m), xi v1, xi v2] [xi 2, xi 0, xi v2, xr (some m)] μ) ∧ (s1 = (0 : Int) → Mw Ω σ0 m M_Mdl_pieceOf R F 27 [xr (some m), xi v1, xi v2] [xi 1, xr (some m)] μ))) : Mw Ω σ0 m M_Mdl_pieceOf R F 6 [xr (some m), xi v1, xi v2] [xi s1, xr (some m)] μ := by
  intro σ hM
  obtain ⟨hS, hk, e⟩ := id hM
  subst e
  refine b_Mdl_pieceOf_6 ?_
  obtain ⟨o, h⟩ := h
  refine ⟨o, ?_⟩
  refine ⟨fun c => ?_, fun c => ?_⟩
  · have h := h.1 c
    exact h _ hM
  · have h := h.2 c
    exact h _ hM
theorem B_pieceOf_30 {Ω : Om} {σ0 : Sto} {m : Nat} {R : Room} {F : QF} {μ : Mu} {v1 : Int} {v2 : Int} {s0 : Int} (h : Q32 s0 ∧ ((s0 = (0 : Int) → 0 ≤ ((3 * v1) + v2) ∧ ((3 * v1) + v2) < 63 ∧ Mw Ω σ0 m M_Mdl_pieceOf R F 47 [xr (some m), xi v1, xi v2] [xi (mA μ 10 ((3 * v1) + v2).toNat)] μ) ∧ (¬ s0 = (0 : Int) → Mw Ω σ0 m M_Mdl_pieceOf R F 47 [xr (some m), xi v1, xi v2] [xi 0] μ))) : Mw Ω σ0 m M_Mdl_pieceOf R F 30 [xr (some m), xi v1, xi v2] [xi s0] μ := by
  intro σ hM
  obtain ⟨hS, hk, e⟩ := id hM
  subst e
  refine b_Mdl_pieceOf_30 ?_
  obtain ⟨o, h⟩ := h
  refine ⟨o, ?_⟩
  refine ⟨fun c => ?_, fun c => ?_⟩
  · have h := h.1 c
    refine ⟨hS.2.1, ?_⟩
    refine ⟨_, hS.r10, ?_⟩
    refine ⟨hS.k10, ?_⟩
    obtain ⟨o, h⟩ := h
    refine ⟨o, ?_⟩
    obtain ⟨o, h⟩ := h
    refine ⟨hS.b10 o, ?_⟩
    refine fun _ => ?_
    exact h _ hM
  · have h := h.2 c
    exact h _ hM
theorem B_pieceOf_19 {Ω : Om} {σ0 : Sto} {m : Nat} {R : Room} {F : QF} {μ : Mu} {v1 : Int} {v2 : Int} {s1 : Int} (h : Q32 s1 ∧ ((s1 = (0 : Int) → Mw Ω σ0 m M_Mdl_pieceOf R F 27 [xr (some m), xi v1, xi v2] [xi 2, xr (some m)] μ) ∧ (¬ s1 = (0 : Int) → Mw Ω σ0 m M_Mdl_pieceOf R F 27 [xr (some m), xi v1, xi v2] [xi 0, xr (some m)] μ))) : Mw Ω σ0 m M_Mdl_pieceOf R F 19 [xr (some m), xi v1, xi v2] [xi s1, xr (some m)] μ := by
  intro σ hM
  obtain ⟨hS, hk, e⟩ := id hM
  subst e
  refine b_Mdl_pieceOf_19 ?_
  obtain ⟨o, h⟩ := h
  refine ⟨o, ?_⟩
  refine ⟨fun c => ?_, fun c => ?_⟩
  · have h := h.1 c
    exact h _ hM
  · have h := h.2 c
    exact h _ hM
theorem C_pieceOf_3 {Ω : Om} {σ0 : Sto} {m : Nat} {F : QF} {L st : List PV} {μ : Mu} {Q : Int → Mu → Prop} {x0 : Int} (hc : MMi Ω m M_Mdl_isConflict rm_Mdl_isConflict Q μ [xi x0]) (kk : ∀ y μ', Q y μ' → Mw Ω σ0 m M_Mdl_pieceOf rm_Mdl_pieceOf F 6 L (xi y :: st) μ') (hst : (st.map catP).sum ≤ 8 := by exact Nat.le_of_ble_eq_true rfl) : Mw Ω σ0 m M_Mdl_pieceOf rm_Mdl_pieceOf F 3 L (xi x0 :: xr (some m) :: st) μ :=
  fun σ hM => c_Mdl_pieceOf_3 (hc σ0 σ hM) hM.1.2.1 (by decide) (by decide) (by decide) (by decide) hst (fun y σ' hq => by obtain ⟨μ', h1, h2⟩ := hq; exact kk y μ' h2 σ' h1) (fun _ _ h => h.elim)
theorem C_pieceOf_16 {Ω : Om} {σ0 : Sto} {m : Nat} {F : QF} {L st : List PV} {μ : Mu} {P : Int → Prop} {x0 : Int} {x1 : Int} {x2 : Int} (hc : MPi Ω M_Mdl_in rm_Mdl_in P [xi x0, xi x1, xi x2]) (kk : ∀ y , P y  → Mw Ω σ0 m M_Mdl_pieceOf rm_Mdl_pieceOf F 19 L (xi y :: st) μ) (hst : (st.map catP).sum ≤ 8 := by exact Nat.le_of_ble_eq_true rfl) : Mw Ω σ0 m M_Mdl_pieceOf rm_Mdl_pieceOf F 16 L (xi x2 :: xi x1 :: xi x0 :: st) μ :=
  fun σ hM => c_Mdl_pieceOf_16 (hc σ) (by decide) (by decide) (by decide) (by decide) hst (fun y σ' hq => by obtain ⟨rfl, h2⟩ := hq; exact kk y h2 σ' hM) (fun _ _ h => h.elim)
theorem C_pieceOf_27 {Ω : Om} {σ0 : Sto} {m : Nat} {F : QF} {L st : List PV} {μ : Mu} {Q : Int → Mu → Prop} {x0 : Int} (hc : MMi Ω m M_Mdl_refused rm_Mdl_refused Q μ [xi x0]) (kk : ∀ y μ', Q y μ' → Mw Ω σ0 m M_Mdl_pieceOf rm_Mdl_pieceOf F 30 L (xi y :: st) μ') (hst : (st.map catP).sum ≤ 8 := by exact Nat.le_of_ble_eq_true rfl) : Mw Ω σ0 m M_Mdl_pieceOf rm_Mdl_pieceOf F 27 L (xi x0 :: xr (some m) :: st) μ :=
  fun σ hM => c_Mdl_pieceOf_27 (hc σ0 σ hM) hM.1.2.1 (by decide) (by decide) (by decide) (by decide) hst (fun y σ' hq => by obtain ⟨μ', h1, h2⟩ := hq; exact kk y μ' h2 σ' h1) (fun _ _ h => h.elim)
theorem R_pieceOf_47 {Ω : Om} {σ0 : Sto} {m : Nat} {L : List PV} {μ : Mu} {Q : Int → Mu → Prop} {x : Int} (h : Q x μ) : Mw Ω σ0 m M_Mdl_pieceOf rm_Mdl_pieceOf (MQi Ω σ0 m rm_Mdl_pieceOf Q) 47 L [xi x] μ := fun σ hM => r_Mdl_pieceOf_47 ⟨_, rfl, μ, hM, h⟩ (by decide) (by decide)
theorem E_pieceOf {Ω : Om} {m : Nat} {μ : Mu} {Q : Int → Mu → Prop} {v1 : Int} {v2 : Int} (h : ∀ σ0, Mw Ω σ0 m M_Mdl_pieceOf rm_Mdl_pieceOf (MQi Ω σ0 m rm_Mdl_pieceOf Q) 0 [xr (some m), xi v1, xi v2] [] μ) : MMi Ω m M_Mdl_pieceOf rm_Mdl_pieceOf Q μ [xi v1, xi v2] := fun σ0 σ hM => e_Mdl_pieceOf (h σ0 σ hM)
theorem B_remove_0 {Ω : Om} {σ0 : Sto} {m : Nat} {R : Room} {F : QF} {μ : Mu} {v1 : Int} (h : Mw Ω σ0 m M_Mdl_remove R F 3 [xr (some m), xi v1] [xi v1, xr (some m), xr (some m)] μ) : Mw Ω σ0 m M_Mdl_remove R F 0 [xr (some m), xi v1] [] μ := by
  intro σ hM
  obtain ⟨hS, hk, e⟩ := id hM
  subst e
  refine b_Mdl_remove_0 ?_
  exact h _ hM
theorem B_remove_6 {Ω : Om} {σ0 : Sto} {m : Nat} {R : Room} {F : QF} {μ : Mu} {v1 : Int} {s1 : Int} (h : Q32 s1 ∧ ((¬ s1 = (0 : Int) → Mw Ω σ0 m M_Mdl_remove R F 14 [xr (some m), xi v1] [xr (some m), xr (some m)] μ) ∧ (s1 = (0 : Int) → Mw Ω σ0 m M_Mdl_remove R F 25 [xr (some m), xi v1] [xi 1, xr (some m)] μ))) : Mw Ω σ0 m M_Mdl_remove R F 6 [xr (some m), xi v1] [xi s1, xr (some m)] μ := by
  intro σ hM
  obtain ⟨hS, hk, e⟩ := id hM
  subst e
  refine b_Mdl_remove_6 ?_
  obtain ⟨o, h⟩ := h
  refine ⟨o, ?_⟩
  refine ⟨fun c => ?_, fun c => ?_⟩
  · have h := h.1 c
    exact h _ hM
  · have h := h.2 c
    exact h _ hM
theorem B_remove_28 {Ω : Om} {σ0 : Sto} {m : Nat} {R : Room} {F : QF} {μ : Mu} {v1 : Int} {s0 : Int} (h : Q32 s0 ∧ ((s0 = (0 : Int) → Mw Ω σ0 m M_Mdl_remove R F 34 [xr (some m), xi v1] [xr (some m)] μ) ∧ (¬ s0 = (0 : Int) → Mw Ω σ0 m M_Mdl_remove R F 32 [xr (some m), xi v1] [xi 0] μ))) : Mw Ω σ0 m M_Mdl_remove R F 28 [xr (some m), xi v1] [xi s0] μ := by
  intro σ hM
  obtain ⟨hS, hk, e⟩ := id hM
  subst e
  refine b_Mdl_remove_28 ?_
  obtain ⟨o, h⟩ := h
  refine ⟨o, ?_⟩
  refine ⟨fun c => ?_, fun c => ?_⟩
  · have h := h.1 c
    exact h _ hM
  · have h := h.2 c
    exact h _ hM
theorem B_remove_37 {Ω : Om} {σ0 : Sto} {m : Nat} {R : Room} {F : QF} {μ : Mu} {v1 : Int} (h : Mw Ω σ0 m M_Mdl_remove R F 39 [xr (some m), xi v1] [xi v1, xr (some m)] μ) : Mw Ω σ0 m M_Mdl_remove R F 37 [xr (some m), xi v1] [] μ := by
  intro σ hM
  obtain ⟨hS, hk, e⟩ := id hM
  subst e
  refine b_Mdl_remove_37 ?_
  exact h _ hM
theorem B_remove_42 {Ω : Om} {σ0 : Sto} {m : Nat} {R : Room} {F : QF} {μ : Mu} {v1 : Int} (h : Mw Ω σ0 m M_Mdl_remove R F 46 [xr (some m), xi v1] [xi (mI μ 15)] μ) : Mw Ω σ0 m M_Mdl_remove R F 42 [xr (some m), xi v1] [] μ := by
  intro σ hM
  obtain ⟨hS, hk, e⟩ := id hM
  subst e
  refine b_Mdl_remove_42 ?_
  refine ⟨hS.2.1, ?_⟩
  refine fun _ => ?_
  exact h _ hM
theorem B_remove_17 {Ω : Om} {σ0 : Sto} {m : Nat} {R : Room} {F : QF} {μ : Mu} {v1 : Int} {s1 : Int} (h : Q32 s1 ∧ ((s1 = (0 : Int) → Mw Ω σ0 m M_Mdl_remove R F 25 [xr (some m), xi v1] [xi 2, xr (some m)] μ) ∧ (¬ s1 = (0 : Int) → Mw Ω σ0 m M_Mdl_remove R F 25 [xr (some m), xi v1] [xi 0, xr (some m)] μ))) : Mw Ω σ0 m M_Mdl_remove R F 17 [xr (some m), xi v1] [xi s1, xr (some m)] μ := by
  intro σ hM
  obtain ⟨hS, hk, e⟩ := id hM
  subst e
  refine b_Mdl_remove_17 ?_
  obtain ⟨o, h⟩ := h
  refine ⟨o, ?_⟩
  refine ⟨fun c => ?_, fun c => ?_⟩
  · have h := h.1 c
    exact h _ hM
  · have h := h.2 c
    exact h _ hM
theorem C_remove_3 {Ω : Om} {σ0 : Sto} {m : Nat} {F : QF} {L st : List PV} {μ : Mu} {Q : Int → Mu → Prop} {x0 : Int} (hc : MMi Ω m M_Mdl_isPlace rm_Mdl_isPlace Q μ [xi x0]) (kk : ∀ y μ', Q y μ' → Mw Ω σ0 m M_Mdl_remove rm_Mdl_remove F 6 L (xi y :: st) μ') (hst : (st.map catP).sum ≤ 8 := by exact Nat.le_of_ble_eq_true rfl) : Mw Ω σ0 m M_Mdl_remove rm_Mdl_remove F 3 L (xi x0 :: xr (some m) :: st) μ :=
  fun σ hM => c_Mdl_remove_3 (hc σ0 σ hM) hM.1.2.1 (by decide) (by decide) (by decide) (by decide) hst (fun y σ' hq => by obtain ⟨μ', h1, h2⟩ := hq; exact kk y μ' h2 σ' h1) (fun _ _ h => h.elim)
theorem C_remove_14 {Ω : Om} {σ0 : Sto} {m : Nat} {F : QF} {L st : List PV} {μ : Mu} {Q : Int → Mu → Prop}  (hc : MMi Ω m M_Mdl_isSettled rm_Mdl_isSettled Q μ []) (kk : ∀ y μ', Q y μ' → Mw Ω σ0 m M_Mdl_remove rm_Mdl_remove F 17 L (xi y :: st) μ') (hst : (st.map catP).sum ≤ 8 := by exact Nat.le_of_ble_eq_true rfl) : Mw Ω σ0 m M_Mdl_remove rm_Mdl_remove F 14 L (xr (some m) :: st) μ :=
  fun σ hM => c_Mdl_remove_14 (hc σ0 σ hM) hM.1.2.1 (by decide) (by decide) (by decide) (by decide) hst (fun y σ' hq => by obtain ⟨μ', h1, h2⟩ := hq; exact kk y μ' h2 σ' h1) (fun _ _ h => h.elim)
theorem C_remove_25 {Ω : Om} {σ0 : Sto} {m : Nat} {F : QF} {L st : List PV} {μ : Mu} {Q : Int → Mu → Prop} {x0 : Int} (hc : MMi Ω m M_Mdl_refused rm_Mdl_refused Q μ [xi x0]) (kk : ∀ y μ', Q y μ' → Mw Ω σ0 m M_Mdl_remove rm_Mdl_remove F 28 L (xi y :: st) μ') (hst : (st.map catP).sum ≤ 8 := by exact Nat.le_of_ble_eq_true rfl) : Mw Ω σ0 m M_Mdl_remove rm_Mdl_remove F 25 L (xi x0 :: xr (some m) :: st) μ :=
  fun σ hM => c_Mdl_remove_25 (hc σ0 σ hM) hM.1.2.1 (by decide) (by decide) (by decide) (by decide) hst (fun y σ' hq => by obtain ⟨μ', h1, h2⟩ := hq; exact kk y μ' h2 σ' h1) (fun _ _ h => h.elim)
theorem R_remove_32 {Ω : Om} {σ0 : Sto} {m : Nat} {L : List PV} {μ : Mu} {Q : Int → Mu → Prop} {x : Int} (h : Q x μ) : Mw Ω σ0 m M_Mdl_remove rm_Mdl_remove (MQi Ω σ0 m rm_Mdl_remove Q) 32 L [xi x] μ := fun σ hM => r_Mdl_remove_32 ⟨_, rfl, μ, hM, h⟩ (by decide) (by decide)
theorem C_remove_34 {Ω : Om} {σ0 : Sto} {m : Nat} {F : QF} {L st : List PV} {μ : Mu} {Q : Mu → Prop}  (hc : MMv Ω m M_Mdl_remember rm_Mdl_remember Q μ []) (kk : ∀ μ', Q μ' → Mw Ω σ0 m M_Mdl_remove rm_Mdl_remove F 37 L st μ') (hst : (st.map catP).sum ≤ 8 := by exact Nat.le_of_ble_eq_true rfl) : Mw Ω σ0 m M_Mdl_remove rm_Mdl_remove F 34 L (xr (some m) :: st) μ :=
  fun σ hM => c_Mdl_remove_34 (hc σ0 σ hM) hM.1.2.1 (by decide) (by decide) (by decide) (by decide) hst (fun σ' hq => by obtain ⟨μ', h1, h2⟩ := hq; exact kk μ' h2 σ' h1) (fun _ _ h => h.elim)
theorem C_remove_39 {Ω : Om} {σ0 : Sto} {m : Nat} {F : QF} {L st : List PV} {μ : Mu} {Q : Mu → Prop} {x0 : Int} (hc : MMv Ω m M_Mdl_takeAt rm_Mdl_takeAt Q μ [xi x0]) (kk : ∀ μ', Q μ' → Mw Ω σ0 m M_Mdl_remove rm_Mdl_remove F 42 L st μ') (hst : (st.map catP).sum ≤ 8 := by exact Nat.le_of_ble_eq_true rfl) : Mw Ω σ0 m M_Mdl_remove rm_Mdl_remove F 39 L (xi x0 :: xr (some m) :: st) μ :=
  fun σ hM => c_Mdl_remove_39 (hc σ0 σ hM) hM.1.2.1 (by decide) (by decide) (by decide) (by decide) hst (fun σ' hq => by obtain ⟨μ', h1, h2⟩ := hq; exact kk μ' h2 σ' h1) (fun _ _ h => h.elim)
theorem R_remove_46 {Ω : Om} {σ0 : Sto} {m : Nat} {L : List PV} {μ : Mu} {Q : Int → Mu → Prop} {x : Int} (h : Q x μ) : Mw Ω σ0 m M_Mdl_remove rm_Mdl_remove (MQi Ω σ0 m rm_Mdl_remove Q) 46 L [xi x] μ := fun σ hM => r_Mdl_remove_46 ⟨_, rfl, μ, hM, h⟩ (by decide) (by decide)
theorem E_remove {Ω : Om} {m : Nat} {μ : Mu} {Q : Int → Mu → Prop} {v1 : Int} (h : ∀ σ0, Mw Ω σ0 m M_Mdl_remove rm_Mdl_remove (MQi Ω σ0 m rm_Mdl_remove Q) 0 [xr (some m), xi v1] [] μ) : MMi Ω m M_Mdl_remove rm_Mdl_remove Q μ [xi v1] := fun σ0 σ hM => e_Mdl_remove (h σ0 σ hM)
theorem B_isLineOf_0 {Ω : Om} {σ0 : Sto} {m : Nat} {R : Room} {F : QF} {μ : Mu} {v1 : Int} {v2 : Int} (h : Mw Ω σ0 m M_Mdl_isLineOf R F 2 [xr (some m), xi v1, xi v2] [xi v1, xr (some m)] μ) : Mw Ω σ0 m M_Mdl_isLineOf R F 0 [xr (some m), xi v1, xi v2] [] μ := by
  intro σ hM
  obtain ⟨hS, hk, e⟩ := id hM
  subst e
  refine b_Mdl_isLineOf_0 ?_
  exact h _ hM
theorem B_isLineOf_5 {Ω : Om} {σ0 : Sto} {m : Nat} {R : Room} {F : QF} {μ : Mu} {v1 : Int} {v2 : Int} {s0 : Int} (h : Q32 s0 ∧ ((s0 = (0 : Int) → Mw Ω σ0 m M_Mdl_isLineOf R F 29 [xr (some m), xi v1, xi v2] [xi 0] μ) ∧ (¬ s0 = (0 : Int) → 0 ≤ v1 ∧ v1 < 40 ∧ Mw Ω σ0 m M_Mdl_isLineOf R F 18 [xr (some m), xi v1, xi v2] [xi ((mA μ 4 (v1).toNat) - 1), xi 0, xi v2] μ))) : Mw Ω σ0 m M_Mdl_isLineOf R F 5 [xr (some m), xi v1, xi v2] [xi s0] μ := by
  intro σ hM
  obtain ⟨hS, hk, e⟩ := id hM
  subst e
  refine b_Mdl_isLineOf_5 ?_
  obtain ⟨o, h⟩ := h
  refine ⟨o, ?_⟩
  refine ⟨fun c => ?_, fun c => ?_⟩
  · have h := h.1 c
    exact h _ hM
  · have h := h.2 c
    refine ⟨hS.2.1, ?_⟩
    refine ⟨_, hS.r4, ?_⟩
    refine ⟨hS.k4, ?_⟩
    obtain ⟨o, h⟩ := h
    refine ⟨o, ?_⟩
    obtain ⟨o, h⟩ := h
    refine ⟨hS.b4 o, ?_⟩
    refine fun _ => ?_
    exact h _ hM
theorem B_isLineOf_21 {Ω : Om} {σ0 : Sto} {m : Nat} {R : Room} {F : QF} {μ : Mu} {v1 : Int} {v2 : Int} {s0 : Int} (h : Q32 s0 ∧ ((s0 = (0 : Int) → Mw Ω σ0 m M_Mdl_isLineOf R F 29 [xr (some m), xi v1, xi v2] [xi 0] μ) ∧ (¬ s0 = (0 : Int) → Mw Ω σ0 m M_Mdl_isLineOf R F 29 [xr (some m), xi v1, xi v2] [xi 1] μ))) : Mw Ω σ0 m M_Mdl_isLineOf R F 21 [xr (some m), xi v1, xi v2] [xi s0] μ := by
  intro σ hM
  obtain ⟨hS, hk, e⟩ := id hM
  subst e
  refine b_Mdl_isLineOf_21 ?_
  obtain ⟨o, h⟩ := h
  refine ⟨o, ?_⟩
  refine ⟨fun c => ?_, fun c => ?_⟩
  · have h := h.1 c
    exact h _ hM
  · have h := h.2 c
    exact h _ hM
theorem C_isLineOf_2 {Ω : Om} {σ0 : Sto} {m : Nat} {F : QF} {L st : List PV} {μ : Mu} {Q : Int → Mu → Prop} {x0 : Int} (hc : MMi Ω m M_Mdl_isVersion rm_Mdl_isVersion Q μ [xi x0]) (kk : ∀ y μ', Q y μ' → Mw Ω σ0 m M_Mdl_isLineOf rm_Mdl_isLineOf F 5 L (xi y :: st) μ') (hst : (st.map catP).sum ≤ 8 := by exact Nat.le_of_ble_eq_true rfl) : Mw Ω σ0 m M_Mdl_isLineOf rm_Mdl_isLineOf F 2 L (xi x0 :: xr (some m) :: st) μ :=
  fun σ hM => c_Mdl_isLineOf_2 (hc σ0 σ hM) hM.1.2.1 (by decide) (by decide) (by decide) (by decide) hst (fun y σ' hq => by obtain ⟨μ', h1, h2⟩ := hq; exact kk y μ' h2 σ' h1) (fun _ _ h => h.elim)
theorem C_isLineOf_18 {Ω : Om} {σ0 : Sto} {m : Nat} {F : QF} {L st : List PV} {μ : Mu} {P : Int → Prop} {x0 : Int} {x1 : Int} {x2 : Int} (hc : MPi Ω M_Mdl_in rm_Mdl_in P [xi x0, xi x1, xi x2]) (kk : ∀ y , P y  → Mw Ω σ0 m M_Mdl_isLineOf rm_Mdl_isLineOf F 21 L (xi y :: st) μ) (hst : (st.map catP).sum ≤ 8 := by exact Nat.le_of_ble_eq_true rfl) : Mw Ω σ0 m M_Mdl_isLineOf rm_Mdl_isLineOf F 18 L (xi x2 :: xi x1 :: xi x0 :: st) μ :=
  fun σ hM => c_Mdl_isLineOf_18 (hc σ) (by decide) (by decide) (by decide) (by decide) hst (fun y σ' hq => by obtain ⟨rfl, h2⟩ := hq; exact kk y h2 σ' hM) (fun _ _ h => h.elim)
theorem R_isLineOf_29 {Ω : Om} {σ0 : Sto} {m : Nat} {L : List PV} {μ : Mu} {Q : Int → Mu → Prop} {x : Int} (hx : x = 0 ∨ x = 1) (h : Q x μ) : Mw Ω σ0 m M_Mdl_isLineOf rm_Mdl_isLineOf (MQi Ω σ0 m rm_Mdl_isLineOf Q) 29 L [xi x] μ := fun σ hM => r_Mdl_isLineOf_29 hx ⟨_, rfl, μ, hM, h⟩ (by decide) (by decide)
theorem E_isLineOf {Ω : Om} {m : Nat} {μ : Mu} {Q : Int → Mu → Prop} {v1 : Int} {v2 : Int} (h : ∀ σ0, Mw Ω σ0 m M_Mdl_isLineOf rm_Mdl_isLineOf (MQi Ω σ0 m rm_Mdl_isLineOf Q) 0 [xr (some m), xi v1, xi v2] [] μ) : MMi Ω m M_Mdl_isLineOf rm_Mdl_isLineOf Q μ [xi v1, xi v2] := fun σ0 σ hM => e_Mdl_isLineOf (h σ0 σ hM)
theorem B_lines_0 {Ω : Om} {σ0 : Sto} {m : Nat} {R : Room} {F : QF} {μ : Mu} {v1 : Int} (h : Mw Ω σ0 m M_Mdl_lines R F 3 [xr (some m), xi v1] [xi v1, xr (some m), xr (some m)] μ) : Mw Ω σ0 m M_Mdl_lines R F 0 [xr (some m), xi v1] [] μ := by
  intro σ hM
  obtain ⟨hS, hk, e⟩ := id hM
  subst e
  refine b_Mdl_lines_0 ?_
  exact h _ hM
theorem B_lines_6 {Ω : Om} {σ0 : Sto} {m : Nat} {R : Room} {F : QF} {μ : Mu} {v1 : Int} {s1 : Int} (h : Q32 s1 ∧ ((s1 = (0 : Int) → Mw Ω σ0 m M_Mdl_lines R F 14 [xr (some m), xi v1] [xi 1, xr (some m)] μ) ∧ (¬ s1 = (0 : Int) → Mw Ω σ0 m M_Mdl_lines R F 14 [xr (some m), xi v1] [xi 0, xr (some m)] μ))) : Mw Ω σ0 m M_Mdl_lines R F 6 [xr (some m), xi v1] [xi s1, xr (some m)] μ := by
  intro σ hM
  obtain ⟨hS, hk, e⟩ := id hM
  subst e
  refine b_Mdl_lines_6 ?_
  obtain ⟨o, h⟩ := h
  refine ⟨o, ?_⟩
  refine ⟨fun c => ?_, fun c => ?_⟩
  · have h := h.1 c
    exact h _ hM
  · have h := h.2 c
    exact h _ hM
theorem B_lines_17 {Ω : Om} {σ0 : Sto} {m : Nat} {R : Room} {F : QF} {μ : Mu} {v1 : Int} {s0 : Int} (h : Q32 s0 ∧ ((s0 = (0 : Int) → 0 ≤ v1 ∧ v1 < 40 ∧ Mw Ω σ0 m M_Mdl_lines R F 30 [xr (some m), xi v1] [xi (mA μ 4 (v1).toNat)] μ) ∧ (¬ s0 = (0 : Int) → Mw Ω σ0 m M_Mdl_lines R F 30 [xr (some m), xi v1] [xi 0] μ))) : Mw Ω σ0 m M_Mdl_lines R F 17 [xr (some m), xi v1] [xi s0] μ := by
  intro σ hM
  obtain ⟨hS, hk, e⟩ := id hM
  subst e
  refine b_Mdl_lines_17 ?_
  obtain ⟨o, h⟩ := h
  refine ⟨o, ?_⟩
  refine ⟨fun c => ?_, fun c => ?_⟩
  · have h := h.1 c
    refine ⟨hS.2.1, ?_⟩
    refine ⟨_, hS.r4, ?_⟩
    refine ⟨hS.k4, ?_⟩
    obtain ⟨o, h⟩ := h
    refine ⟨o, ?_⟩
    obtain ⟨o, h⟩ := h
    refine ⟨hS.b4 o, ?_⟩
    refine fun _ => ?_
    exact h _ hM
  · have h := h.2 c
    exact h _ hM
theorem C_lines_3 {Ω : Om} {σ0 : Sto} {m : Nat} {F : QF} {L st : List PV} {μ : Mu} {Q : Int → Mu → Prop} {x0 : Int} (hc : MMi Ω m M_Mdl_isVersion rm_Mdl_isVersion Q μ [xi x0]) (kk : ∀ y μ', Q y μ' → Mw Ω σ0 m M_Mdl_lines rm_Mdl_lines F 6 L (xi y :: st) μ') (hst : (st.map catP).sum ≤ 8 := by exact Nat.le_of_ble_eq_true rfl) : Mw Ω σ0 m M_Mdl_lines rm_Mdl_lines F 3 L (xi x0 :: xr (some m) :: st) μ :=
  fun σ hM => c_Mdl_lines_3 (hc σ0 σ hM) hM.1.2.1 (by decide) (by decide) (by decide) (by decide) hst (fun y σ' hq => by obtain ⟨μ', h1, h2⟩ := hq; exact kk y μ' h2 σ' h1) (fun _ _ h => h.elim)
theorem C_lines_14 {Ω : Om} {σ0 : Sto} {m : Nat} {F : QF} {L st : List PV} {μ : Mu} {Q : Int → Mu → Prop} {x0 : Int} (hc : MMi Ω m M_Mdl_refused rm_Mdl_refused Q μ [xi x0]) (kk : ∀ y μ', Q y μ' → Mw Ω σ0 m M_Mdl_lines rm_Mdl_lines F 17 L (xi y :: st) μ') (hst : (st.map catP).sum ≤ 8 := by exact Nat.le_of_ble_eq_true rfl) : Mw Ω σ0 m M_Mdl_lines rm_Mdl_lines F 14 L (xi x0 :: xr (some m) :: st) μ :=
  fun σ hM => c_Mdl_lines_14 (hc σ0 σ hM) hM.1.2.1 (by decide) (by decide) (by decide) (by decide) hst (fun y σ' hq => by obtain ⟨μ', h1, h2⟩ := hq; exact kk y μ' h2 σ' h1) (fun _ _ h => h.elim)
theorem R_lines_30 {Ω : Om} {σ0 : Sto} {m : Nat} {L : List PV} {μ : Mu} {Q : Int → Mu → Prop} {x : Int} (h : Q x μ) : Mw Ω σ0 m M_Mdl_lines rm_Mdl_lines (MQi Ω σ0 m rm_Mdl_lines Q) 30 L [xi x] μ := fun σ hM => r_Mdl_lines_30 ⟨_, rfl, μ, hM, h⟩ (by decide) (by decide)
theorem E_lines {Ω : Om} {m : Nat} {μ : Mu} {Q : Int → Mu → Prop} {v1 : Int} (h : ∀ σ0, Mw Ω σ0 m M_Mdl_lines rm_Mdl_lines (MQi Ω σ0 m rm_Mdl_lines Q) 0 [xr (some m), xi v1] [] μ) : MMi Ω m M_Mdl_lines rm_Mdl_lines Q μ [xi v1] := fun σ0 σ hM => e_Mdl_lines (h σ0 σ hM)
theorem B_isConflict_0 {Ω : Om} {σ0 : Sto} {m : Nat} {R : Room} {F : QF} {μ : Mu} {v1 : Int} (h : (((mI μ 11) = (0 : Int) → Mw Ω σ0 m M_Mdl_isConflict R F 26 [xr (some m), xi v1] [xi 0] μ) ∧ (¬ (mI μ 11) = (0 : Int) → Mw Ω σ0 m M_Mdl_isConflict R F 15 [xr (some m), xi v1] [xi ((mI μ 17) - 1), xi 0, xi v1] μ))) : Mw Ω σ0 m M_Mdl_isConflict R F 0 [xr (some m), xi v1] [] μ := by
  intro σ hM
  obtain ⟨hS, hk, e⟩ := id hM
  subst e
  refine b_Mdl_isConflict_0 ?_
  refine ⟨hS.2.1, ?_⟩
  refine fun _ => ?_
  refine ⟨fun c => ?_, fun c => ?_⟩
  · have h := h.1 c
    exact h _ hM
  · have h := h.2 c
    refine fun _ => ?_
    exact h _ hM
theorem B_isConflict_18 {Ω : Om} {σ0 : Sto} {m : Nat} {R : Room} {F : QF} {μ : Mu} {v1 : Int} {s0 : Int} (h : Q32 s0 ∧ ((s0 = (0 : Int) → Mw Ω σ0 m M_Mdl_isConflict R F 26 [xr (some m), xi v1] [xi 0] μ) ∧ (¬ s0 = (0 : Int) → Mw Ω σ0 m M_Mdl_isConflict R F 26 [xr (some m), xi v1] [xi 1] μ))) : Mw Ω σ0 m M_Mdl_isConflict R F 18 [xr (some m), xi v1] [xi s0] μ := by
  intro σ hM
  obtain ⟨hS, hk, e⟩ := id hM
  subst e
  refine b_Mdl_isConflict_18 ?_
  obtain ⟨o, h⟩ := h
  refine ⟨o, ?_⟩
  refine ⟨fun c => ?_, fun c => ?_⟩
  · have h := h.1 c
    exact h _ hM
  · have h := h.2 c
    exact h _ hM
theorem C_isConflict_15 {Ω : Om} {σ0 : Sto} {m : Nat} {F : QF} {L st : List PV} {μ : Mu} {P : Int → Prop} {x0 : Int} {x1 : Int} {x2 : Int} (hc : MPi Ω M_Mdl_in rm_Mdl_in P [xi x0, xi x1, xi x2]) (kk : ∀ y , P y  → Mw Ω σ0 m M_Mdl_isConflict rm_Mdl_isConflict F 18 L (xi y :: st) μ) (hst : (st.map catP).sum ≤ 8 := by exact Nat.le_of_ble_eq_true rfl) : Mw Ω σ0 m M_Mdl_isConflict rm_Mdl_isConflict F 15 L (xi x2 :: xi x1 :: xi x0 :: st) μ :=
  fun σ hM => c_Mdl_isConflict_15 (hc σ) (by decide) (by decide) (by decide) (by decide) hst (fun y σ' hq => by obtain ⟨rfl, h2⟩ := hq; exact kk y h2 σ' hM) (fun _ _ h => h.elim)
theorem R_isConflict_26 {Ω : Om} {σ0 : Sto} {m : Nat} {L : List PV} {μ : Mu} {Q : Int → Mu → Prop} {x : Int} (hx : x = 0 ∨ x = 1) (h : Q x μ) : Mw Ω σ0 m M_Mdl_isConflict rm_Mdl_isConflict (MQi Ω σ0 m rm_Mdl_isConflict Q) 26 L [xi x] μ := fun σ hM => r_Mdl_isConflict_26 hx ⟨_, rfl, μ, hM, h⟩ (by decide) (by decide)
theorem E_isConflict {Ω : Om} {m : Nat} {μ : Mu} {Q : Int → Mu → Prop} {v1 : Int} (h : ∀ σ0, Mw Ω σ0 m M_Mdl_isConflict rm_Mdl_isConflict (MQi Ω σ0 m rm_Mdl_isConflict Q) 0 [xr (some m), xi v1] [] μ) : MMi Ω m M_Mdl_isConflict rm_Mdl_isConflict Q μ [xi v1] := fun σ0 σ hM => e_Mdl_isConflict (h σ0 σ hM)
theorem B_fine_0 {Ω : Om} {σ0 : Sto} {m : Nat} {R : Room} {F : QF} {μ : Mu} {v1 : Int} (h : Mw Ω σ0 m M_Mdl_fine R F 6 [xr (some m), xi v1] [xi v1] (wI μ 0 0)) : Mw Ω σ0 m M_Mdl_fine R F 0 [xr (some m), xi v1] [] μ := by
  intro σ hM
  obtain ⟨hS, hk, e⟩ := id hM
  subst e
  refine b_Mdl_fine_0 ?_
  refine ⟨hS.2.1, ?_⟩
  exact h _ (MR.uI (f := 0) hM)
theorem R_fine_6 {Ω : Om} {σ0 : Sto} {m : Nat} {L : List PV} {μ : Mu} {Q : Int → Mu → Prop} {x : Int} (h : Q x μ) : Mw Ω σ0 m M_Mdl_fine rm_Mdl_fine (MQi Ω σ0 m rm_Mdl_fine Q) 6 L [xi x] μ := fun σ hM => r_Mdl_fine_6 ⟨_, rfl, μ, hM, h⟩ (by decide) (by decide)
theorem E_fine {Ω : Om} {m : Nat} {μ : Mu} {Q : Int → Mu → Prop} {v1 : Int} (h : ∀ σ0, Mw Ω σ0 m M_Mdl_fine rm_Mdl_fine (MQi Ω σ0 m rm_Mdl_fine Q) 0 [xr (some m), xi v1] [] μ) : MMi Ω m M_Mdl_fine rm_Mdl_fine Q μ [xi v1] := fun σ0 σ hM => e_Mdl_fine (h σ0 σ hM)
theorem B_lineAnew_0 {Ω : Om} {σ0 : Sto} {m : Nat} {R : Room} {F : QF} {μ : Mu} {v1 : Int} {v2 : Int} (h : Mw Ω σ0 m M_Mdl_lineAnew R F 3 [xr (some m), xi v1, xi v2] [xi v2, xi v1, xr (some m)] μ) : Mw Ω σ0 m M_Mdl_lineAnew R F 0 [xr (some m), xi v1, xi v2] [] μ := by
  intro σ hM
  obtain ⟨hS, hk, e⟩ := id hM
  subst e
  refine b_Mdl_lineAnew_0 ?_
  exact h _ hM
theorem C_lineAnew_3 {Ω : Om} {σ0 : Sto} {m : Nat} {F : QF} {L st : List PV} {μ : Mu} {Q : Int64 → Mu → Prop} {x0 : Int} {x1 : Int} (hc : MMl Ω m M_Mdl_lineOf rm_Mdl_lineOf Q μ [xi x0, xi x1]) (kk : ∀ y μ', Q y μ' → Mw Ω σ0 m M_Mdl_lineAnew rm_Mdl_lineAnew F 6 L (xl y :: st) μ') (hst : (st.map catP).sum ≤ 8 := by exact Nat.le_of_ble_eq_true rfl) : Mw Ω σ0 m M_Mdl_lineAnew rm_Mdl_lineAnew F 3 L (xi x1 :: xi x0 :: xr (some m) :: st) μ :=
  fun σ hM => c_Mdl_lineAnew_3 (hc σ0 σ hM) hM.1.2.1 (by decide) (by decide) (by decide) (by decide) hst (fun y σ' hq => by obtain ⟨μ', h1, h2⟩ := hq; exact kk y μ' h2 σ' h1) (fun _ _ h => h.elim)
theorem R_lineAnew_6 {Ω : Om} {σ0 : Sto} {m : Nat} {L : List PV} {μ : Mu} {Q : Int64 → Mu → Prop} {x : Int64} (h : Q x μ) : Mw Ω σ0 m M_Mdl_lineAnew rm_Mdl_lineAnew (MQl Ω σ0 m rm_Mdl_lineAnew Q) 6 L [xl x] μ := fun σ hM => r_Mdl_lineAnew_6 ⟨_, rfl, μ, hM, h⟩ (by decide) (by decide)
theorem E_lineAnew {Ω : Om} {m : Nat} {μ : Mu} {Q : Int64 → Mu → Prop} {v1 : Int} {v2 : Int} (h : ∀ σ0, Mw Ω σ0 m M_Mdl_lineAnew rm_Mdl_lineAnew (MQl Ω σ0 m rm_Mdl_lineAnew Q) 0 [xr (some m), xi v1, xi v2] [] μ) : MMl Ω m M_Mdl_lineAnew rm_Mdl_lineAnew Q μ [xi v1, xi v2] := fun σ0 σ hM => e_Mdl_lineAnew (h σ0 σ hM)
