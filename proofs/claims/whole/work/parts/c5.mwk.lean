/-! walks of the reference over its memory, 4 (by program) -/
theorem B_turn_0 {Ω : Om} {σ0 : Sto} {m : Nat} {R : Room} {F : QF} {μ : Mu} {v1 : Int} (h : Mw Ω σ0 m M_Mdl_turn R F 3 [xr (some m), xi v1, xu, xu, xu, xu] [xi v1, xr (some m), xr (some m)] μ) : Mw Ω σ0 m M_Mdl_turn R F 0 [xr (some m), xi v1, xu, xu, xu, xu] [] μ := by
  intro σ hM
  obtain ⟨hS, hk, e⟩ := id hM
  subst e
  refine b_Mdl_turn_0 ?_
  exact h _ hM
theorem B_turn_6 {Ω : Om} {σ0 : Sto} {m : Nat} {R : Room} {F : QF} {μ : Mu} {v1 : Int} {s1 : Int} (h : Q32 s1 ∧ ((¬ s1 = (0 : Int) → ((¬ (mI μ 29) = (10 : Int) → Mw Ω σ0 m M_Mdl_turn R F 27 [xr (some m), xi v1, xu, xu, xu, xu] [xi 0, xr (some m)] μ) ∧ ((mI μ 29) = (10 : Int) → Mw Ω σ0 m M_Mdl_turn R F 27 [xr (some m), xi v1, xu, xu, xu, xu] [xi 2, xr (some m)] μ))) ∧ (s1 = (0 : Int) → Mw Ω σ0 m M_Mdl_turn R F 27 [xr (some m), xi v1, xu, xu, xu, xu] [xi 1, xr (some m)] μ))) : Mw Ω σ0 m M_Mdl_turn R F 6 [xr (some m), xi v1, xu, xu, xu, xu] [xi s1, xr (some m)] μ := by
  intro σ hM
  obtain ⟨hS, hk, e⟩ := id hM
  subst e
  refine b_Mdl_turn_6 ?_
  obtain ⟨o, h⟩ := h
  refine ⟨o, ?_⟩
  refine ⟨fun c => ?_, fun c => ?_⟩
  · have h := h.1 c
    refine ⟨hS.2.1, ?_⟩
    refine fun _ => ?_
    refine ⟨fun c => ?_, fun c => ?_⟩
    · have h := h.1 c
      exact h _ hM
    · have h := h.2 c
      exact h _ hM
  · have h := h.2 c
    exact h _ hM
theorem B_turn_30 {Ω : Om} {σ0 : Sto} {m : Nat} {R : Room} {F : QF} {μ : Mu} {v1 : Int} {s0 : Int} (h : Q32 s0 ∧ ((s0 = (0 : Int) → 0 ≤ v1 ∧ v1 < 10 ∧ 0 ≤ (mI μ 29) ∧ (mI μ 29) < 10 ∧ Mw Ω σ0 m M_Mdl_turn R F 52 [xr (some m), xi v1, xi 0, xu, xu, xu] [] (wA μ 17 (mI μ 29).toNat (mA μ 17 (v1).toNat))) ∧ (¬ s0 = (0 : Int) → Mw Ω σ0 m M_Mdl_turn R F 34 [xr (some m), xi v1, xu, xu, xu, xu] [xi 0] μ))) : Mw Ω σ0 m M_Mdl_turn R F 30 [xr (some m), xi v1, xu, xu, xu, xu] [xi s0] μ := by
  intro σ hM
  obtain ⟨hS, hk, e⟩ := id hM
  subst e
  refine b_Mdl_turn_30 ?_
  obtain ⟨o, h⟩ := h
  refine ⟨o, ?_⟩
  refine ⟨fun c => ?_, fun c => ?_⟩
  · have h := h.1 c
    refine ⟨hS.2.1, ?_⟩
    refine ⟨_, hS.r17, ?_⟩
    refine fun _ => ?_
    refine ⟨hS.k17, ?_⟩
    obtain ⟨o, h⟩ := h
    refine ⟨o, ?_⟩
    obtain ⟨o, h⟩ := h
    refine ⟨hS.b17 o, ?_⟩
    refine fun _ => ?_
    obtain ⟨o, h⟩ := h
    refine ⟨o, ?_⟩
    obtain ⟨o, h⟩ := h
    refine ⟨hS.b17 o, ?_⟩
    exact h _ (MR.vI (j := 17) (by decide) hM)
  · have h := h.2 c
    exact h _ hM
theorem B_turn_52 {Ω : Om} {σ0 : Sto} {m : Nat} {R : Room} {F : QF} {μ : Mu} {v1 : Int} {v2 : Int} (h : 0 ≤ v1 ∧ v1 < 10 ∧ Q32 v2 ∧ (((mA μ 17 (v1).toNat) ≤ v2 → Q32 ((mI μ 29) + 1) ∧ Mw Ω σ0 m M_Mdl_turn R F 315 [xr (some m), xi v1, xi v2, xu, xu, xu] [] (wI μ 29 ((mI μ 29) + 1))) ∧ (¬ (mA μ 17 (v1).toNat) ≤ v2 → 0 ≤ ((21 * v1) + v2) ∧ ((21 * v1) + v2) < 210 ∧ 0 ≤ ((21 * (mI μ 29)) + v2) ∧ ((21 * (mI μ 29)) + v2) < 210 ∧ Mw Ω σ0 m M_Mdl_turn R F 93 [xr (some m), xi v1, xi v2, xi ((21 * v1) + v2), xi ((21 * (mI μ 29)) + v2), xu] [] (wA μ 18 ((21 * (mI μ 29)) + v2).toNat (mA μ 19 ((21 * v1) + v2).toNat))))) : Mw Ω σ0 m M_Mdl_turn R F 52 [xr (some m), xi v1, xi v2, xu, xu, xu] [] μ := by
  intro σ hM
  obtain ⟨hS, hk, e⟩ := id hM
  subst e
  refine b_Mdl_turn_52 ?_
  refine ⟨hS.2.1, ?_⟩
  refine ⟨_, hS.r17, ?_⟩
  refine ⟨hS.k17, ?_⟩
  obtain ⟨o, h⟩ := h
  refine ⟨o, ?_⟩
  obtain ⟨o, h⟩ := h
  refine ⟨hS.b17 o, ?_⟩
  refine fun _ => ?_
  obtain ⟨o, h⟩ := h
  refine ⟨o, ?_⟩
  refine ⟨fun c => ?_, fun c => ?_⟩
  · have h := h.1 c
    refine fun _ => ?_
    obtain ⟨o, h⟩ := h
    refine ⟨o, ?_⟩
    exact h _ (MR.uI (f := 29) hM)
  · have h := h.2 c
    refine fun _ => ?_
    refine ⟨_, hS.r18, ?_⟩
    refine ⟨_, hS.r19, ?_⟩
    refine ⟨hS.k19, ?_⟩
    obtain ⟨o, h⟩ := h
    refine ⟨o, ?_⟩
    obtain ⟨o, h⟩ := h
    refine ⟨hS.b19 o, ?_⟩
    refine fun _ => ?_
    refine ⟨hS.k18, ?_⟩
    obtain ⟨o, h⟩ := h
    refine ⟨o, ?_⟩
    obtain ⟨o, h⟩ := h
    refine ⟨hS.b18 o, ?_⟩
    exact h _ (MR.vI (j := 18) (by decide) hM)
theorem B_turn_93 {Ω : Om} {σ0 : Sto} {m : Nat} {R : Room} {F : QF} {μ : Mu} {v1 : Int} {v2 : Int} {v3 : Int} {v4 : Int} (h : 0 ≤ v3 ∧ v3 < 210 ∧ 0 ≤ v4 ∧ v4 < 210 ∧ Mw Ω σ0 m M_Mdl_turn R F 106 [xr (some m), xi v1, xi v2, xi v3, xi v4, xu] [] (wA μ 19 (v4).toNat (mA μ 18 (v3).toNat))) : Mw Ω σ0 m M_Mdl_turn R F 93 [xr (some m), xi v1, xi v2, xi v3, xi v4, xu] [] μ := by
  intro σ hM
  obtain ⟨hS, hk, e⟩ := id hM
  subst e
  refine b_Mdl_turn_93 ?_
  refine ⟨hS.2.1, ?_⟩
  refine ⟨_, hS.r19, ?_⟩
  refine ⟨_, hS.r18, ?_⟩
  refine ⟨hS.k18, ?_⟩
  obtain ⟨o, h⟩ := h
  refine ⟨o, ?_⟩
  obtain ⟨o, h⟩ := h
  refine ⟨hS.b18 o, ?_⟩
  refine fun _ => ?_
  refine ⟨hS.k19, ?_⟩
  obtain ⟨o, h⟩ := h
  refine ⟨o, ?_⟩
  obtain ⟨o, h⟩ := h
  refine ⟨hS.b19 o, ?_⟩
  exact h _ (MR.vI (j := 19) (by decide) hM)
theorem B_turn_106 {Ω : Om} {σ0 : Sto} {m : Nat} {R : Room} {F : QF} {μ : Mu} {v1 : Int} {v2 : Int} {v3 : Int} {v4 : Int} (h : 0 ≤ ((4 * v3) + 1) ∧ ((4 * v3) + 1) < 840 ∧ 0 ≤ (4 * v4) ∧ (4 * v4) < 840 ∧ Mw Ω σ0 m M_Mdl_turn R F 125 [xr (some m), xi v1, xi v2, xi v3, xi v4, xu] [] (wA μ 20 (4 * v4).toNat (mA μ 20 ((4 * v3) + 1).toNat))) : Mw Ω σ0 m M_Mdl_turn R F 106 [xr (some m), xi v1, xi v2, xi v3, xi v4, xu] [] μ := by
  intro σ hM
  obtain ⟨hS, hk, e⟩ := id hM
  subst e
  refine b_Mdl_turn_106 ?_
  refine ⟨hS.2.1, ?_⟩
  refine ⟨_, hS.r20, ?_⟩
  refine ⟨hS.k20, ?_⟩
  obtain ⟨o, h⟩ := h
  refine ⟨o, ?_⟩
  obtain ⟨o, h⟩ := h
  refine ⟨hS.b20 o, ?_⟩
  refine fun _ => ?_
  obtain ⟨o, h⟩ := h
  refine ⟨o, ?_⟩
  obtain ⟨o, h⟩ := h
  refine ⟨hS.b20 o, ?_⟩
  exact h _ (MR.vI (j := 20) (by decide) hM)
theorem B_turn_125 {Ω : Om} {σ0 : Sto} {m : Nat} {R : Room} {F : QF} {μ : Mu} {v1 : Int} {v2 : Int} {v3 : Int} {v4 : Int} (h : 0 ≤ (4 * v3) ∧ (4 * v3) < 840 ∧ 0 ≤ ((4 * v4) + 1) ∧ ((4 * v4) + 1) < 840 ∧ Mw Ω σ0 m M_Mdl_turn R F 144 [xr (some m), xi v1, xi v2, xi v3, xi v4, xu] [] (wA μ 20 ((4 * v4) + 1).toNat (mA μ 20 (4 * v3).toNat))) : Mw Ω σ0 m M_Mdl_turn R F 125 [xr (some m), xi v1, xi v2, xi v3, xi v4, xu] [] μ := by
  intro σ hM
  obtain ⟨hS, hk, e⟩ := id hM
  subst e
  refine b_Mdl_turn_125 ?_
  refine ⟨hS.2.1, ?_⟩
  refine ⟨_, hS.r20, ?_⟩
  refine ⟨hS.k20, ?_⟩
  obtain ⟨o, h⟩ := h
  refine ⟨o, ?_⟩
  obtain ⟨o, h⟩ := h
  refine ⟨hS.b20 o, ?_⟩
  refine fun _ => ?_
  obtain ⟨o, h⟩ := h
  refine ⟨o, ?_⟩
  obtain ⟨o, h⟩ := h
  refine ⟨hS.b20 o, ?_⟩
  exact h _ (MR.vI (j := 20) (by decide) hM)
theorem B_turn_144 {Ω : Om} {σ0 : Sto} {m : Nat} {R : Room} {F : QF} {μ : Mu} {v1 : Int} {v2 : Int} {v3 : Int} {v4 : Int} (h : 0 ≤ ((4 * v3) + 2) ∧ ((4 * v3) + 2) < 840 ∧ 0 ≤ ((4 * v4) + 2) ∧ ((4 * v4) + 2) < 840 ∧ Mw Ω σ0 m M_Mdl_turn R F 165 [xr (some m), xi v1, xi v2, xi v3, xi v4, xu] [] (wA μ 20 ((4 * v4) + 2).toNat (mA μ 20 ((4 * v3) + 2).toNat))) : Mw Ω σ0 m M_Mdl_turn R F 144 [xr (some m), xi v1, xi v2, xi v3, xi v4, xu] [] μ := by
  intro σ hM
  obtain ⟨hS, hk, e⟩ := id hM
  subst e
  refine b_Mdl_turn_144 ?_
  refine ⟨hS.2.1, ?_⟩
  refine ⟨_, hS.r20, ?_⟩
  refine ⟨hS.k20, ?_⟩
  obtain ⟨o, h⟩ := h
  refine ⟨o, ?_⟩
  obtain ⟨o, h⟩ := h
  refine ⟨hS.b20 o, ?_⟩
  refine fun _ => ?_
  obtain ⟨o, h⟩ := h
  refine ⟨o, ?_⟩
  obtain ⟨o, h⟩ := h
  refine ⟨hS.b20 o, ?_⟩
  exact h _ (MR.vI (j := 20) (by decide) hM)
theorem B_turn_165 {Ω : Om} {σ0 : Sto} {m : Nat} {R : Room} {F : QF} {μ : Mu} {v1 : Int} {v2 : Int} {v3 : Int} {v4 : Int} (h : 0 ≤ ((4 * v3) + 3) ∧ ((4 * v3) + 3) < 840 ∧ 0 ≤ ((4 * v4) + 3) ∧ ((4 * v4) + 3) < 840 ∧ Mw Ω σ0 m M_Mdl_turn R F 189 [xr (some m), xi v1, xi v2, xi v3, xi v4, xi 0] [] (wA μ 20 ((4 * v4) + 3).toNat (mA μ 20 ((4 * v3) + 3).toNat))) : Mw Ω σ0 m M_Mdl_turn R F 165 [xr (some m), xi v1, xi v2, xi v3, xi v4, xu] [] μ := by
  intro σ hM
  obtain ⟨hS, hk, e⟩ := id hM
  subst e
  refine b_Mdl_turn_165 ?_
  refine ⟨hS.2.1, ?_⟩
  refine ⟨_, hS.r20, ?_⟩
  refine ⟨hS.k20, ?_⟩
  obtain ⟨o, h⟩ := h
  refine ⟨o, ?_⟩
  obtain ⟨o, h⟩ := h
  refine ⟨hS.b20 o, ?_⟩
  refine fun _ => ?_
  obtain ⟨o, h⟩ := h
  refine ⟨o, ?_⟩
  obtain ⟨o, h⟩ := h
  refine ⟨hS.b20 o, ?_⟩
  exact h _ (MR.vI (j := 20) (by decide) hM)
theorem B_turn_189 {Ω : Om} {σ0 : Sto} {m : Nat} {R : Room} {F : QF} {μ : Mu} {v1 : Int} {v2 : Int} {v3 : Int} {v4 : Int} {v5 : Int} (h : Q32 v5 ∧ (((20 : Int) ≤ v5 → Mw Ω σ0 m M_Mdl_turn R F 261 [xr (some m), xi v1, xi v2, xi v3, xi v4, xi 0] [] μ) ∧ (¬ (20 : Int) ≤ v5 → 0 ≤ (((40 * v3) + 20) + v5) ∧ (((40 * v3) + 20) + v5) < 8400 ∧ 0 ≤ ((40 * v4) + v5) ∧ ((40 * v4) + v5) < 8400 ∧ Mw Ω σ0 m M_Mdl_turn R F 224 [xr (some m), xi v1, xi v2, xi v3, xi v4, xi v5] [] (wG μ 21 ((40 * v4) + v5).toNat (mG μ 21 (((40 * v3) + 20) + v5).toNat))))) : Mw Ω σ0 m M_Mdl_turn R F 189 [xr (some m), xi v1, xi v2, xi v3, xi v4, xi v5] [] μ := by
  intro σ hM
  obtain ⟨hS, hk, e⟩ := id hM
  subst e
  refine b_Mdl_turn_189 ?_
  obtain ⟨o, h⟩ := h
  refine ⟨o, ?_⟩
  refine ⟨fun c => ?_, fun c => ?_⟩
  · have h := h.1 c
    exact h _ hM
  · have h := h.2 c
    refine ⟨hS.2.1, ?_⟩
    refine ⟨_, hS.r21, ?_⟩
    refine ⟨hS.k21, ?_⟩
    obtain ⟨o, h⟩ := h
    refine ⟨o, ?_⟩
    obtain ⟨o, h⟩ := h
    refine ⟨hS.b21 o, ?_⟩
    obtain ⟨o, h⟩ := h
    refine ⟨o, ?_⟩
    obtain ⟨o, h⟩ := h
    refine ⟨hS.b21 o, ?_⟩
    exact h _ (MR.vL (j := 21) (by decide) hM)
theorem B_turn_224 {Ω : Om} {σ0 : Sto} {m : Nat} {R : Room} {F : QF} {μ : Mu} {v1 : Int} {v2 : Int} {v3 : Int} {v4 : Int} {v5 : Int} (h : 0 ≤ ((40 * v3) + v5) ∧ ((40 * v3) + v5) < 8400 ∧ 0 ≤ (((40 * v4) + 20) + v5) ∧ (((40 * v4) + 20) + v5) < 8400 ∧ Mw Ω σ0 m M_Mdl_turn R F 189 [xr (some m), xi v1, xi v2, xi v3, xi v4, xi (v5 + 1)] [] (wG μ 21 (((40 * v4) + 20) + v5).toNat (mG μ 21 ((40 * v3) + v5).toNat))) : Mw Ω σ0 m M_Mdl_turn R F 224 [xr (some m), xi v1, xi v2, xi v3, xi v4, xi v5] [] μ := by
  intro σ hM
  obtain ⟨hS, hk, e⟩ := id hM
  subst e
  refine b_Mdl_turn_224 ?_
  refine ⟨hS.2.1, ?_⟩
  refine ⟨_, hS.r21, ?_⟩
  refine ⟨hS.k21, ?_⟩
  obtain ⟨o, h⟩ := h
  refine ⟨o, ?_⟩
  obtain ⟨o, h⟩ := h
  refine ⟨hS.b21 o, ?_⟩
  obtain ⟨o, h⟩ := h
  refine ⟨o, ?_⟩
  obtain ⟨o, h⟩ := h
  refine ⟨hS.b21 o, ?_⟩
  exact h _ (MR.vL (j := 21) (by decide) hM)
theorem B_turn_261 {Ω : Om} {σ0 : Sto} {m : Nat} {R : Room} {F : QF} {μ : Mu} {v1 : Int} {v2 : Int} {v3 : Int} {v4 : Int} {v5 : Int} (h : Q32 v5 ∧ (((6 : Int) ≤ v5 → Mw Ω σ0 m M_Mdl_turn R F 52 [xr (some m), xi v1, xi (v2 + 1), xu, xu, xu] [] μ) ∧ (¬ (6 : Int) ≤ v5 → 0 ≤ ((6 * v3) + v5) ∧ ((6 * v3) + v5) < 1260 ∧ 0 ≤ ((6 * v4) + v5) ∧ ((6 * v4) + v5) < 1260 ∧ Mw Ω σ0 m M_Mdl_turn R F 261 [xr (some m), xi v1, xi v2, xi v3, xi v4, xi (v5 + 1)] [] (wG μ 22 ((6 * v4) + v5).toNat (mG μ 22 ((6 * v3) + v5).toNat))))) : Mw Ω σ0 m M_Mdl_turn R F 261 [xr (some m), xi v1, xi v2, xi v3, xi v4, xi v5] [] μ := by
  intro σ hM
  obtain ⟨hS, hk, e⟩ := id hM
  subst e
  refine b_Mdl_turn_261 ?_
  obtain ⟨o, h⟩ := h
  refine ⟨o, ?_⟩
  refine ⟨fun c => ?_, fun c => ?_⟩
  · have h := h.1 c
    exact h _ hM
  · have h := h.2 c
    refine ⟨hS.2.1, ?_⟩
    refine ⟨_, hS.r22, ?_⟩
    refine ⟨hS.k22, ?_⟩
    obtain ⟨o, h⟩ := h
    refine ⟨o, ?_⟩
    obtain ⟨o, h⟩ := h
    refine ⟨hS.b22 o, ?_⟩
    obtain ⟨o, h⟩ := h
    refine ⟨o, ?_⟩
    obtain ⟨o, h⟩ := h
    refine ⟨hS.b22 o, ?_⟩
    exact h _ (MR.vL (j := 22) (by decide) hM)
theorem B_turn_315 {Ω : Om} {σ0 : Sto} {m : Nat} {R : Room} {F : QF} {μ : Mu} {v1 : Int} {v2 : Int} (h : Mw Ω σ0 m M_Mdl_turn R F 321 [xr (some m), xi v1, xi v2, xu, xu, xu] [xi ((mI μ 29) - 1)] μ) : Mw Ω σ0 m M_Mdl_turn R F 315 [xr (some m), xi v1, xi v2, xu, xu, xu] [] μ := by
  intro σ hM
  obtain ⟨hS, hk, e⟩ := id hM
  subst e
  refine b_Mdl_turn_315 ?_
  refine ⟨hS.2.1, ?_⟩
  refine fun _ => ?_
  exact h _ hM
theorem C_turn_3 {Ω : Om} {σ0 : Sto} {m : Nat} {F : QF} {L st : List PV} {μ : Mu} {Q : Int → Mu → Prop} {x0 : Int} (hc : MMi Ω m M_Mdl_isPatch rm_Mdl_isPatch Q μ [xi x0]) (kk : ∀ y μ', Q y μ' → Mw Ω σ0 m M_Mdl_turn rm_Mdl_turn F 6 L (xi y :: st) μ') (hst : (st.map catP).sum ≤ 8 := by exact Nat.le_of_ble_eq_true rfl) : Mw Ω σ0 m M_Mdl_turn rm_Mdl_turn F 3 L (xi x0 :: xr (some m) :: st) μ :=
  fun σ hM => c_Mdl_turn_3 (hc σ0 σ hM) hM.1.2.1 (by decide) (by decide) (by decide) (by decide) hst (fun y σ' hq => by obtain ⟨μ', h1, h2⟩ := hq; exact kk y μ' h2 σ' h1) (fun _ _ h => h.elim)
theorem C_turn_27 {Ω : Om} {σ0 : Sto} {m : Nat} {F : QF} {L st : List PV} {μ : Mu} {Q : Int → Mu → Prop} {x0 : Int} (hc : MMi Ω m M_Mdl_refused rm_Mdl_refused Q μ [xi x0]) (kk : ∀ y μ', Q y μ' → Mw Ω σ0 m M_Mdl_turn rm_Mdl_turn F 30 L (xi y :: st) μ') (hst : (st.map catP).sum ≤ 8 := by exact Nat.le_of_ble_eq_true rfl) : Mw Ω σ0 m M_Mdl_turn rm_Mdl_turn F 27 L (xi x0 :: xr (some m) :: st) μ :=
  fun σ hM => c_Mdl_turn_27 (hc σ0 σ hM) hM.1.2.1 (by decide) (by decide) (by decide) (by decide) hst (fun y σ' hq => by obtain ⟨μ', h1, h2⟩ := hq; exact kk y μ' h2 σ' h1) (fun _ _ h => h.elim)
theorem R_turn_34 {Ω : Om} {σ0 : Sto} {m : Nat} {L : List PV} {μ : Mu} {Q : Int → Mu → Prop} {x : Int} (h : Q x μ) : Mw Ω σ0 m M_Mdl_turn rm_Mdl_turn (MQi Ω σ0 m rm_Mdl_turn Q) 34 L [xi x] μ := fun σ hM => r_Mdl_turn_34 ⟨_, rfl, μ, hM, h⟩ (by decide) (by decide)
theorem R_turn_321 {Ω : Om} {σ0 : Sto} {m : Nat} {L : List PV} {μ : Mu} {Q : Int → Mu → Prop} {x : Int} (h : Q x μ) : Mw Ω σ0 m M_Mdl_turn rm_Mdl_turn (MQi Ω σ0 m rm_Mdl_turn Q) 321 L [xi x] μ := fun σ hM => r_Mdl_turn_321 ⟨_, rfl, μ, hM, h⟩ (by decide) (by decide)
theorem E_turn {Ω : Om} {m : Nat} {μ : Mu} {Q : Int → Mu → Prop} {v1 : Int} (h : ∀ σ0, Mw Ω σ0 m M_Mdl_turn rm_Mdl_turn (MQi Ω σ0 m rm_Mdl_turn Q) 0 [xr (some m), xi v1, xu, xu, xu, xu] [] μ) : MMi Ω m M_Mdl_turn rm_Mdl_turn Q μ [xi v1] := fun σ0 σ hM => e_Mdl_turn (h σ0 σ hM)
theorem B_fits_0 {Ω : Om} {σ0 : Sto} {m : Nat} {R : Room} {F : QF} {μ : Mu} {v1 : Int} {v2 : Int} {v3 : Int} {v4 : Int} (h : 0 ≤ ((4 * v1) + 2) ∧ ((4 * v1) + 2) < 840 ∧ Q32 v3 ∧ (((mA μ 20 ((4 * v1) + 2).toNat) ≤ v3 → Mw Ω σ0 m M_Mdl_fits R F 30 [xr (some m), xi v1, xi v2, xi v3, xi v4, xu, xu, xu, xu, xu] [xi 0] μ) ∧ (¬ (mA μ 20 ((4 * v1) + 2).toNat) ≤ v3 → Mw Ω σ0 m M_Mdl_fits R F 30 [xr (some m), xi v1, xi v2, xi v3, xi v4, xu, xu, xu, xu, xu] [xi ((mA μ 20 ((4 * v1) + 2).toNat) - v3)] μ))) : Mw Ω σ0 m M_Mdl_fits R F 0 [xr (some m), xi v1, xi v2, xi v3, xi v4, xu, xu, xu, xu, xu] [] μ := by
  intro σ hM
  obtain ⟨hS, hk, e⟩ := id hM
  subst e
  refine b_Mdl_fits_0 ?_
  refine ⟨hS.2.1, ?_⟩
  refine ⟨_, hS.r20, ?_⟩
  refine ⟨hS.k20, ?_⟩
  obtain ⟨o, h⟩ := h
  refine ⟨o, ?_⟩
  obtain ⟨o, h⟩ := h
  refine ⟨hS.b20 o, ?_⟩
  refine fun _ => ?_
  obtain ⟨o, h⟩ := h
  refine ⟨o, ?_⟩
  refine ⟨fun c => ?_, fun c => ?_⟩
  · have h := h.1 c
    exact h _ hM
  · have h := h.2 c
    refine fun _ => ?_
    exact h _ hM
theorem B_fits_30 {Ω : Om} {σ0 : Sto} {m : Nat} {R : Room} {F : QF} {μ : Mu} {v1 : Int} {v2 : Int} {v3 : Int} {v4 : Int} {s0 : Int} (h : 0 ≤ ((4 * v1) + 3) ∧ ((4 * v1) + 3) < 840 ∧ Q32 v3 ∧ (((mA μ 20 ((4 * v1) + 3).toNat) ≤ v3 → 0 ≤ (4 * v1) ∧ (4 * v1) < 840 ∧ Q32 (v2 - s0) ∧ Q32 v4 ∧ (((v2 - s0) < v4 → Mw Ω σ0 m M_Mdl_fits R F 107 [xr (some m), xi v1, xi v2, xi v3, xi v4, xi s0, xi 0, xi (mA μ 20 (4 * v1).toNat), xi 0, xi 0] [] μ) ∧ (¬ (v2 - s0) < v4 → Q32 ((v2 + (mA μ 20 (4 * v1).toNat)) + 0) ∧ (((mI μ 53) < ((v2 + (mA μ 20 (4 * v1).toNat)) + 0) → Mw Ω σ0 m M_Mdl_fits R F 107 [xr (some m), xi v1, xi v2, xi v3, xi v4, xi s0, xi 0, xi (mA μ 20 (4 * v1).toNat), xi 0, xi 0] [] μ) ∧ (¬ (mI μ 53) < ((v2 + (mA μ 20 (4 * v1).toNat)) + 0) → Mw Ω σ0 m M_Mdl_fits R F 107 [xr (some m), xi v1, xi v2, xi v3, xi v4, xi s0, xi 0, xi (mA μ 20 (4 * v1).toNat), xi 1, xi 0] [] μ))))) ∧ (¬ (mA μ 20 ((4 * v1) + 3).toNat) ≤ v3 → 0 ≤ (4 * v1) ∧ (4 * v1) < 840 ∧ Q32 (v2 - s0) ∧ Q32 v4 ∧ (((v2 - s0) < v4 → Mw Ω σ0 m M_Mdl_fits R F 107 [xr (some m), xi v1, xi v2, xi v3, xi v4, xi s0, xi ((mA μ 20 ((4 * v1) + 3).toNat) - v3), xi (mA μ 20 (4 * v1).toNat), xi 0, xi 0] [] μ) ∧ (¬ (v2 - s0) < v4 → Q32 ((v2 + (mA μ 20 (4 * v1).toNat)) + ((mA μ 20 ((4 * v1) + 3).toNat) - v3)) ∧ (((mI μ 53) < ((v2 + (mA μ 20 (4 * v1).toNat)) + ((mA μ 20 ((4 * v1) + 3).toNat) - v3)) → Mw Ω σ0 m M_Mdl_fits R F 107 [xr (some m), xi v1, xi v2, xi v3, xi v4, xi s0, xi ((mA μ 20 ((4 * v1) + 3).toNat) - v3), xi (mA μ 20 (4 * v1).toNat), xi 0, xi 0] [] μ) ∧ (¬ (mI μ 53) < ((v2 + (mA μ 20 (4 * v1).toNat)) + ((mA μ 20 ((4 * v1) + 3).toNat) - v3)) → Mw Ω σ0 m M_Mdl_fits R F 107 [xr (some m), xi v1, xi v2, xi v3, xi v4, xi s0, xi ((mA μ 20 ((4 * v1) + 3).toNat) - v3), xi (mA μ 20 (4 * v1).toNat), xi 1, xi 0] [] μ))))))) : Mw Ω σ0 m M_Mdl_fits R F 30 [xr (some m), xi v1, xi v2, xi v3, xi v4, xu, xu, xu, xu, xu] [xi s0] μ := by
  intro σ hM
  obtain ⟨hS, hk, e⟩ := id hM
  subst e
  refine b_Mdl_fits_30 ?_
  refine ⟨hS.2.1, ?_⟩
  refine ⟨_, hS.r20, ?_⟩
  refine ⟨hS.k20, ?_⟩
  obtain ⟨o, h⟩ := h
  refine ⟨o, ?_⟩
  obtain ⟨o, h⟩ := h
  refine ⟨hS.b20 o, ?_⟩
  refine fun _ => ?_
  obtain ⟨o, h⟩ := h
  refine ⟨o, ?_⟩
  refine ⟨fun c => ?_, fun c => ?_⟩
  · have h := h.1 c
    obtain ⟨o, h⟩ := h
    refine ⟨o, ?_⟩
    obtain ⟨o, h⟩ := h
    refine ⟨hS.b20 o, ?_⟩
    refine fun _ => ?_
    obtain ⟨o, h⟩ := h
    refine ⟨o, ?_⟩
    obtain ⟨o, h⟩ := h
    refine ⟨o, ?_⟩
    refine ⟨fun c => ?_, fun c => ?_⟩
    · have h := h.1 c
      exact h _ hM
    · have h := h.2 c
      refine fun _ => ?_
      obtain ⟨o, h⟩ := h
      refine ⟨o, ?_⟩
      refine ⟨fun c => ?_, fun c => ?_⟩
      · have h := h.1 c
        exact h _ hM
      · have h := h.2 c
        exact h _ hM
  · have h := h.2 c
    refine fun _ => ?_
    obtain ⟨o, h⟩ := h
    refine ⟨o, ?_⟩
    obtain ⟨o, h⟩ := h
    refine ⟨hS.b20 o, ?_⟩
    refine fun _ => ?_
    obtain ⟨o, h⟩ := h
    refine ⟨o, ?_⟩
    obtain ⟨o, h⟩ := h
    refine ⟨o, ?_⟩
    refine ⟨fun c => ?_, fun c => ?_⟩
    · have h := h.1 c
      exact h _ hM
    · have h := h.2 c
      refine fun _ => ?_
      obtain ⟨o, h⟩ := h
      refine ⟨o, ?_⟩
      refine ⟨fun c => ?_, fun c => ?_⟩
      · have h := h.1 c
        exact h _ hM
      · have h := h.2 c
        exact h _ hM
theorem B_fits_107 {Ω : Om} {σ0 : Sto} {m : Nat} {R : Room} {F : QF} {μ : Mu} {v1 : Int} {v2 : Int} {v3 : Int} {v4 : Int} {v5 : Int} {v6 : Int} {v7 : Int} {v8 : Int} {v9 : Int} (h : Q32 v9 ∧ Q32 v5 ∧ ((v5 ≤ v9 → Mw Ω σ0 m M_Mdl_fits R F 182 [xr (some m), xi v1, xi v2, xi v3, xi v4, xi v5, xi v6, xi v7, xi v8, xi 0] [] μ) ∧ (¬ v5 ≤ v9 → Q32 v8 ∧ ((v8 = (0 : Int) → Mw Ω σ0 m M_Mdl_fits R F 182 [xr (some m), xi v1, xi v2, xi v3, xi v4, xi v5, xi v6, xi v7, xi v8, xi 0] [] μ) ∧ (¬ v8 = (0 : Int) → 0 ≤ ((v2 - v5) + v9) ∧ ((v2 - v5) + v9) < 128 ∧ 0 ≤ (mA μ 37 ((v2 - v5) + v9).toNat) ∧ (mA μ 37 ((v2 - v5) + v9).toNat) < 16384 ∧ 0 ≤ ((4 * v1) + 2) ∧ ((4 * v1) + 2) < 840 ∧ 0 ≤ ((((6 * v1) + (mA μ 20 ((4 * v1) + 2).toNat)) - v5) + v9) ∧ ((((6 * v1) + (mA μ 20 ((4 * v1) + 2).toNat)) - v5) + v9) < 1260 ∧ Q32 (cmpL (mG μ 1 (mA μ 37 ((v2 - v5) + v9).toNat).toNat) (mG μ 22 ((((6 * v1) + (mA μ 20 ((4 * v1) + 2).toNat)) - v5) + v9).toNat)) ∧ ((¬ (cmpL (mG μ 1 (mA μ 37 ((v2 - v5) + v9).toNat).toNat) (mG μ 22 ((((6 * v1) + (mA μ 20 ((4 * v1) + 2).toNat)) - v5) + v9).toNat)) = (0 : Int) → Mw Ω σ0 m M_Mdl_fits R F 107 [xr (some m), xi v1, xi v2, xi v3, xi v4, xi v5, xi v6, xi v7, xi 0, xi (v9 + 1)] [] μ) ∧ ((cmpL (mG μ 1 (mA μ 37 ((v2 - v5) + v9).toNat).toNat) (mG μ 22 ((((6 * v1) + (mA μ 20 ((4 * v1) + 2).toNat)) - v5) + v9).toNat)) = (0 : Int) → Mw Ω σ0 m M_Mdl_fits R F 107 [xr (some m), xi v1, xi v2, xi v3, xi v4, xi v5, xi v6, xi v7, xi 1, xi (v9 + 1)] [] μ))))))) : Mw Ω σ0 m M_Mdl_fits R F 107 [xr (some m), xi v1, xi v2, xi v3, xi v4, xi v5, xi v6, xi v7, xi v8, xi v9] [] μ := by
  intro σ hM
  obtain ⟨hS, hk, e⟩ := id hM
  subst e
  refine b_Mdl_fits_107 ?_
  obtain ⟨o, h⟩ := h
  refine ⟨o, ?_⟩
  obtain ⟨o, h⟩ := h
  refine ⟨o, ?_⟩
  refine ⟨fun c => ?_, fun c => ?_⟩
  · have h := h.1 c
    exact h _ hM
  · have h := h.2 c
    obtain ⟨o, h⟩ := h
    refine ⟨o, ?_⟩
    refine ⟨fun c => ?_, fun c => ?_⟩
    · have h := h.1 c
      exact h _ hM
    · have h := h.2 c
      refine ⟨hS.2.1, ?_⟩
      refine ⟨_, hS.r1, ?_⟩
      refine ⟨_, hS.r37, ?_⟩
      refine ⟨hS.k37, ?_⟩
      obtain ⟨o, h⟩ := h
      refine ⟨o, ?_⟩
      obtain ⟨o, h⟩ := h
      refine ⟨hS.b37 o, ?_⟩
      refine fun _ => ?_
      refine ⟨hS.k1, ?_⟩
      obtain ⟨o, h⟩ := h
      refine ⟨o, ?_⟩
      obtain ⟨o, h⟩ := h
      refine ⟨hS.b1 o, ?_⟩
      refine ⟨_, hS.r22, ?_⟩
      refine ⟨_, hS.r20, ?_⟩
      refine ⟨hS.k20, ?_⟩
      obtain ⟨o, h⟩ := h
      refine ⟨o, ?_⟩
      obtain ⟨o, h⟩ := h
      refine ⟨hS.b20 o, ?_⟩
      refine fun _ => ?_
      refine ⟨hS.k22, ?_⟩
      obtain ⟨o, h⟩ := h
      refine ⟨o, ?_⟩
      obtain ⟨o, h⟩ := h
      refine ⟨hS.b22 o, ?_⟩
      obtain ⟨o, h⟩ := h
      refine ⟨o, ?_⟩
      refine ⟨fun c => ?_, fun c => ?_⟩
      · have h := h.1 c
        exact h _ hM
      · have h := h.2 c
        exact h _ hM
theorem B_fits_182 {Ω : Om} {σ0 : Sto} {m : Nat} {R : Room} {F : QF} {μ : Mu} {v1 : Int} {v2 : Int} {v3 : Int} {v4 : Int} {v5 : Int} {v6 : Int} {v7 : Int} {v8 : Int} {v9 : Int} (h : Q32 v9 ∧ Q32 v7 ∧ ((v7 ≤ v9 → Mw Ω σ0 m M_Mdl_fits R F 240 [xr (some m), xi v1, xi v2, xi v3, xi v4, xi v5, xi v6, xi v7, xi v8, xi 0] [] μ) ∧ (¬ v7 ≤ v9 → Q32 v8 ∧ ((v8 = (0 : Int) → Mw Ω σ0 m M_Mdl_fits R F 240 [xr (some m), xi v1, xi v2, xi v3, xi v4, xi v5, xi v6, xi v7, xi v8, xi 0] [] μ) ∧ (¬ v8 = (0 : Int) → 0 ≤ (v2 + v9) ∧ (v2 + v9) < 128 ∧ 0 ≤ (mA μ 37 (v2 + v9).toNat) ∧ (mA μ 37 (v2 + v9).toNat) < 16384 ∧ 0 ≤ ((40 * v1) + v9) ∧ ((40 * v1) + v9) < 8400 ∧ Q32 (cmpL (mG μ 1 (mA μ 37 (v2 + v9).toNat).toNat) (mG μ 21 ((40 * v1) + v9).toNat)) ∧ ((¬ (cmpL (mG μ 1 (mA μ 37 (v2 + v9).toNat).toNat) (mG μ 21 ((40 * v1) + v9).toNat)) = (0 : Int) → Mw Ω σ0 m M_Mdl_fits R F 182 [xr (some m), xi v1, xi v2, xi v3, xi v4, xi v5, xi v6, xi v7, xi 0, xi (v9 + 1)] [] μ) ∧ ((cmpL (mG μ 1 (mA μ 37 (v2 + v9).toNat).toNat) (mG μ 21 ((40 * v1) + v9).toNat)) = (0 : Int) → Mw Ω σ0 m M_Mdl_fits R F 182 [xr (some m), xi v1, xi v2, xi v3, xi v4, xi v5, xi v6, xi v7, xi 1, xi (v9 + 1)] [] μ))))))) : Mw Ω σ0 m M_Mdl_fits R F 182 [xr (some m), xi v1, xi v2, xi v3, xi v4, xi v5, xi v6, xi v7, xi v8, xi v9] [] μ := by
  intro σ hM
  obtain ⟨hS, hk, e⟩ := id hM
  subst e
  refine b_Mdl_fits_182 ?_
  obtain ⟨o, h⟩ := h
  refine ⟨o, ?_⟩
  obtain ⟨o, h⟩ := h
  refine ⟨o, ?_⟩
  refine ⟨fun c => ?_, fun c => ?_⟩
  · have h := h.1 c
    exact h _ hM
  · have h := h.2 c
    obtain ⟨o, h⟩ := h
    refine ⟨o, ?_⟩
    refine ⟨fun c => ?_, fun c => ?_⟩
    · have h := h.1 c
      exact h _ hM
    · have h := h.2 c
      refine ⟨hS.2.1, ?_⟩
      refine ⟨_, hS.r1, ?_⟩
      refine ⟨_, hS.r37, ?_⟩
      refine ⟨hS.k37, ?_⟩
      obtain ⟨o, h⟩ := h
      refine ⟨o, ?_⟩
      obtain ⟨o, h⟩ := h
      refine ⟨hS.b37 o, ?_⟩
      refine fun _ => ?_
      refine ⟨hS.k1, ?_⟩
      obtain ⟨o, h⟩ := h
      refine ⟨o, ?_⟩
      obtain ⟨o, h⟩ := h
      refine ⟨hS.b1 o, ?_⟩
      refine ⟨_, hS.r21, ?_⟩
      refine ⟨hS.k21, ?_⟩
      obtain ⟨o, h⟩ := h
      refine ⟨o, ?_⟩
      obtain ⟨o, h⟩ := h
      refine ⟨hS.b21 o, ?_⟩
      obtain ⟨o, h⟩ := h
      refine ⟨o, ?_⟩
      refine ⟨fun c => ?_, fun c => ?_⟩
      · have h := h.1 c
        exact h _ hM
      · have h := h.2 c
        exact h _ hM
theorem B_fits_240 {Ω : Om} {σ0 : Sto} {m : Nat} {R : Room} {F : QF} {μ : Mu} {v1 : Int} {v2 : Int} {v3 : Int} {v4 : Int} {v5 : Int} {v6 : Int} {v7 : Int} {v8 : Int} {v9 : Int} (h : Q32 v9 ∧ Q32 v6 ∧ ((v6 ≤ v9 → Mw Ω σ0 m M_Mdl_fits R F 302 [xr (some m), xi v1, xi v2, xi v3, xi v4, xi v5, xi v6, xi v7, xi v8, xi v9] [xi v8] μ) ∧ (¬ v6 ≤ v9 → Q32 v8 ∧ ((v8 = (0 : Int) → Mw Ω σ0 m M_Mdl_fits R F 302 [xr (some m), xi v1, xi v2, xi v3, xi v4, xi v5, xi v6, xi v7, xi v8, xi v9] [xi v8] μ) ∧ (¬ v8 = (0 : Int) → 0 ≤ ((v2 + v7) + v9) ∧ ((v2 + v7) + v9) < 128 ∧ 0 ≤ (mA μ 37 ((v2 + v7) + v9).toNat) ∧ (mA μ 37 ((v2 + v7) + v9).toNat) < 16384 ∧ 0 ≤ (((6 * v1) + 3) + v9) ∧ (((6 * v1) + 3) + v9) < 1260 ∧ Q32 (cmpL (mG μ 1 (mA μ 37 ((v2 + v7) + v9).toNat).toNat) (mG μ 22 (((6 * v1) + 3) + v9).toNat)) ∧ ((¬ (cmpL (mG μ 1 (mA μ 37 ((v2 + v7) + v9).toNat).toNat) (mG μ 22 (((6 * v1) + 3) + v9).toNat)) = (0 : Int) → Mw Ω σ0 m M_Mdl_fits R F 240 [xr (some m), xi v1, xi v2, xi v3, xi v4, xi v5, xi v6, xi v7, xi 0, xi (v9 + 1)] [] μ) ∧ ((cmpL (mG μ 1 (mA μ 37 ((v2 + v7) + v9).toNat).toNat) (mG μ 22 (((6 * v1) + 3) + v9).toNat)) = (0 : Int) → Mw Ω σ0 m M_Mdl_fits R F 240 [xr (some m), xi v1, xi v2, xi v3, xi v4, xi v5, xi v6, xi v7, xi 1, xi (v9 + 1)] [] μ))))))) : Mw Ω σ0 m M_Mdl_fits R F 240 [xr (some m), xi v1, xi v2, xi v3, xi v4, xi v5, xi v6, xi v7, xi v8, xi v9] [] μ := by
  intro σ hM
  obtain ⟨hS, hk, e⟩ := id hM
  subst e
  refine b_Mdl_fits_240 ?_
  obtain ⟨o, h⟩ := h
  refine ⟨o, ?_⟩
  obtain ⟨o, h⟩ := h
  refine ⟨o, ?_⟩
  refine ⟨fun c => ?_, fun c => ?_⟩
  · have h := h.1 c
    exact h _ hM
  · have h := h.2 c
    obtain ⟨o, h⟩ := h
    refine ⟨o, ?_⟩
    refine ⟨fun c => ?_, fun c => ?_⟩
    · have h := h.1 c
      exact h _ hM
    · have h := h.2 c
      refine ⟨hS.2.1, ?_⟩
      refine ⟨_, hS.r1, ?_⟩
      refine ⟨_, hS.r37, ?_⟩
      refine ⟨hS.k37, ?_⟩
      obtain ⟨o, h⟩ := h
      refine ⟨o, ?_⟩
      obtain ⟨o, h⟩ := h
      refine ⟨hS.b37 o, ?_⟩
      refine fun _ => ?_
      refine ⟨hS.k1, ?_⟩
      obtain ⟨o, h⟩ := h
      refine ⟨o, ?_⟩
      obtain ⟨o, h⟩ := h
      refine ⟨hS.b1 o, ?_⟩
      refine ⟨_, hS.r22, ?_⟩
      refine ⟨hS.k22, ?_⟩
      obtain ⟨o, h⟩ := h
      refine ⟨o, ?_⟩
      obtain ⟨o, h⟩ := h
      refine ⟨hS.b22 o, ?_⟩
      obtain ⟨o, h⟩ := h
      refine ⟨o, ?_⟩
      refine ⟨fun c => ?_, fun c => ?_⟩
      · have h := h.1 c
        exact h _ hM
      · have h := h.2 c
        exact h _ hM
theorem R_fits_302 {Ω : Om} {σ0 : Sto} {m : Nat} {L : List PV} {μ : Mu} {Q : Int → Mu → Prop} {x : Int} (hx : x = 0 ∨ x = 1) (h : Q x μ) : Mw Ω σ0 m M_Mdl_fits rm_Mdl_fits (MQi Ω σ0 m rm_Mdl_fits Q) 302 L [xi x] μ := fun σ hM => r_Mdl_fits_302 hx ⟨_, rfl, μ, hM, h⟩ (by decide) (by decide)
theorem E_fits {Ω : Om} {m : Nat} {μ : Mu} {Q : Int → Mu → Prop} {v1 : Int} {v2 : Int} {v3 : Int} {v4 : Int} (h : ∀ σ0, Mw Ω σ0 m M_Mdl_fits rm_Mdl_fits (MQi Ω σ0 m rm_Mdl_fits Q) 0 [xr (some m), xi v1, xi v2, xi v3, xi v4, xu, xu, xu, xu, xu] [] μ) : MMi Ω m M_Mdl_fits rm_Mdl_fits Q μ [xi v1, xi v2, xi v3, xi v4] := fun σ0 σ hM => e_Mdl_fits (h σ0 σ hM)
theorem B_layAll_0 {Ω : Om} {σ0 : Sto} {m : Nat} {R : Room} {F : QF} {μ : Mu} {v1 : Int} {v2 : Int} (h : Mw Ω σ0 m M_Mdl_layAll R F 10 [xr (some m), xi v1, xi v2, xi 0, xu, xu, xu, xu, xu, xu, xu] [] (wI μ 53 (mI μ 15))) : Mw Ω σ0 m M_Mdl_layAll R F 0 [xr (some m), xi v1, xi v2, xu, xu, xu, xu, xu, xu, xu, xu] [] μ := by
  intro σ hM
  obtain ⟨hS, hk, e⟩ := id hM
  subst e
  refine b_Mdl_layAll_0 ?_
  refine ⟨hS.2.1, ?_⟩
  refine fun _ => ?_
  exact h _ (MR.uI (f := 53) hM)
theorem B_layAll_10 {Ω : Om} {σ0 : Sto} {m : Nat} {R : Room} {F : QF} {μ : Mu} {v1 : Int} {v2 : Int} {v3 : Int} (h : Q32 v3 ∧ (((mI μ 15) ≤ v3 → Mw Ω σ0 m M_Mdl_layAll R F 47 [xr (some m), xi v1, xi v2, xi 0, xi 0, xi 0, xi 0, xu, xu, xu, xu] [] μ) ∧ (¬ (mI μ 15) ≤ v3 → 0 ≤ v3 ∧ v3 < 64 ∧ 0 ≤ v3 ∧ v3 < 128 ∧ Mw Ω σ0 m M_Mdl_layAll R F 10 [xr (some m), xi v1, xi v2, xi (v3 + 1), xu, xu, xu, xu, xu, xu, xu] [] (wA μ 37 (v3).toNat (mA μ 9 (v3).toNat))))) : Mw Ω σ0 m M_Mdl_layAll R F 10 [xr (some m), xi v1, xi v2, xi v3, xu, xu, xu, xu, xu, xu, xu] [] μ := by
  intro σ hM
  obtain ⟨hS, hk, e⟩ := id hM
  subst e
  refine b_Mdl_layAll_10 ?_
  refine ⟨hS.2.1, ?_⟩
  refine fun _ => ?_
  obtain ⟨o, h⟩ := h
  refine ⟨o, ?_⟩
  refine ⟨fun c => ?_, fun c => ?_⟩
  · have h := h.1 c
    exact h _ hM
  · have h := h.2 c
    refine ⟨_, hS.r37, ?_⟩
    refine ⟨_, hS.r9, ?_⟩
    refine ⟨hS.k9, ?_⟩
    obtain ⟨o, h⟩ := h
    refine ⟨o, ?_⟩
    obtain ⟨o, h⟩ := h
    refine ⟨hS.b9 o, ?_⟩
    refine fun _ => ?_
    refine ⟨hS.k37, ?_⟩
    obtain ⟨o, h⟩ := h
    refine ⟨o, ?_⟩
    obtain ⟨o, h⟩ := h
    refine ⟨hS.b37 o, ?_⟩
    exact h _ (MR.vI (j := 37) (by decide) hM)
theorem B_layAll_47 {Ω : Om} {σ0 : Sto} {m : Nat} {R : Room} {F : QF} {μ : Mu} {v1 : Int} {v2 : Int} {v3 : Int} {v4 : Int} {v5 : Int} {v6 : Int} (h : 0 ≤ v1 ∧ v1 < 10 ∧ Q32 v6 ∧ (((mA μ 17 (v1).toNat) ≤ v6 → Mw Ω σ0 m M_Mdl_layAll R F 173 [xr (some m), xi v1, xi v2, xi v3, xi v4, xi v5, xi v6, xu, xu, xu, xu] [xi v3] μ) ∧ (¬ (mA μ 17 (v1).toNat) ≤ v6 → 0 ≤ ((21 * v1) + v6) ∧ ((21 * v1) + v6) < 210 ∧ Mw Ω σ0 m M_Mdl_layAll R F 87 [xr (some m), xi v1, xi v2, xi v3, xi v4, xi v5, xi v6, xi ((21 * v1) + v6), xi ((mA μ 18 ((21 * v1) + v6).toNat) + v4), xu, xu] [xi v5, xi v2, xi ((mA μ 18 ((21 * v1) + v6).toNat) + v4), xi ((21 * v1) + v6), xr (some m)] μ))) : Mw Ω σ0 m M_Mdl_layAll R F 47 [xr (some m), xi v1, xi v2, xi v3, xi v4, xi v5, xi v6, xu, xu, xu, xu] [] μ := by
  intro σ hM
  obtain ⟨hS, hk, e⟩ := id hM
  subst e
  refine b_Mdl_layAll_47 ?_
  refine ⟨hS.2.1, ?_⟩
  refine ⟨_, hS.r17, ?_⟩
  refine ⟨hS.k17, ?_⟩
  obtain ⟨o, h⟩ := h
  refine ⟨o, ?_⟩
  obtain ⟨o, h⟩ := h
  refine ⟨hS.b17 o, ?_⟩
  refine fun _ => ?_
  obtain ⟨o, h⟩ := h
  refine ⟨o, ?_⟩
  refine ⟨fun c => ?_, fun c => ?_⟩
  · have h := h.1 c
    exact h _ hM
  · have h := h.2 c
    refine ⟨_, hS.r18, ?_⟩
    refine ⟨hS.k18, ?_⟩
    obtain ⟨o, h⟩ := h
    refine ⟨o, ?_⟩
    obtain ⟨o, h⟩ := h
    refine ⟨hS.b18 o, ?_⟩
    refine fun _ => ?_
    exact h _ hM
theorem B_layAll_90 {Ω : Om} {σ0 : Sto} {m : Nat} {R : Room} {F : QF} {μ : Mu} {v1 : Int} {v2 : Int} {v3 : Int} {v4 : Int} {v5 : Int} {v6 : Int} {v7 : Int} {v8 : Int} {s0 : Int} (h : Q32 s0 ∧ ((¬ s0 = (-1 : Int) → 0 ≤ ((4 * v7) + 1) ∧ ((4 * v7) + 1) < 840 ∧ 0 ≤ (4 * v7) ∧ (4 * v7) < 840 ∧ Mw Ω σ0 m M_Mdl_layAll R F 134 [xr (some m), xi v1, xi v2, xi v3, xi v4, xi v5, xi v6, xi v7, xi v8, xi s0, xi ((mA μ 20 ((4 * v7) + 1).toNat) - (mA μ 20 (4 * v7).toNat))] [xi ((mA μ 20 ((4 * v7) + 1).toNat) - (mA μ 20 (4 * v7).toNat)), xi s0, xi v7, xr (some m)] μ) ∧ (s0 = (-1 : Int) → Mw Ω σ0 m M_Mdl_layAll R F 47 [xr (some m), xi v1, xi v2, xi (v3 + 1), xi v4, xi v5, xi (v6 + 1), xu, xu, xu, xu] [] μ))) : Mw Ω σ0 m M_Mdl_layAll R F 90 [xr (some m), xi v1, xi v2, xi v3, xi v4, xi v5, xi v6, xi v7, xi v8, xu, xu] [xi s0] μ := by
  intro σ hM
  obtain ⟨hS, hk, e⟩ := id hM
  subst e
  refine b_Mdl_layAll_90 ?_
  obtain ⟨o, h⟩ := h
  refine ⟨o, ?_⟩
  refine ⟨fun c => ?_, fun c => ?_⟩
  · have h := h.1 c
    refine ⟨hS.2.1, ?_⟩
    refine ⟨_, hS.r20, ?_⟩
    refine ⟨hS.k20, ?_⟩
    obtain ⟨o, h⟩ := h
    refine ⟨o, ?_⟩
    obtain ⟨o, h⟩ := h
    refine ⟨hS.b20 o, ?_⟩
    refine fun _ => ?_
    obtain ⟨o, h⟩ := h
    refine ⟨o, ?_⟩
    obtain ⟨o, h⟩ := h
    refine ⟨hS.b20 o, ?_⟩
    refine fun _ => ?_
    exact h _ hM
  · have h := h.2 c
    exact h _ hM
theorem B_layAll_137 {Ω : Om} {σ0 : Sto} {m : Nat} {R : Room} {F : QF} {μ : Mu} {v1 : Int} {v2 : Int} {v3 : Int} {v4 : Int} {v5 : Int} {v6 : Int} {v7 : Int} {v8 : Int} {v9 : Int} {v10 : Int} (h : 0 ≤ ((4 * v7) + 1) ∧ ((4 * v7) + 1) < 840 ∧ Mw Ω σ0 m M_Mdl_layAll R F 47 [xr (some m), xi v1, xi v2, xi v3, xi (v4 + ((v10 + v9) - v8)), xi (v9 + (mA μ 20 ((4 * v7) + 1).toNat)), xi (v6 + 1), xu, xu, xu, xu] [] μ) : Mw Ω σ0 m M_Mdl_layAll R F 137 [xr (some m), xi v1, xi v2, xi v3, xi v4, xi v5, xi v6, xi v7, xi v8, xi v9, xi v10] [] μ := by
  intro σ hM
  obtain ⟨hS, hk, e⟩ := id hM
  subst e
  refine b_Mdl_layAll_137 ?_
  refine ⟨hS.2.1, ?_⟩
  refine ⟨_, hS.r20, ?_⟩
  refine ⟨hS.k20, ?_⟩
  obtain ⟨o, h⟩ := h
  refine ⟨o, ?_⟩
  obtain ⟨o, h⟩ := h
  refine ⟨hS.b20 o, ?_⟩
  refine fun _ => ?_
  exact h _ hM
theorem C_layAll_87 {Ω : Om} {σ0 : Sto} {m : Nat} {F : QF} {L st : List PV} {μ : Mu} {Q : Int → Mu → Prop} {x0 : Int} {x1 : Int} {x2 : Int} {x3 : Int} (hc : MMi Ω m M_Mdl_find rm_Mdl_find Q μ [xi x0, xi x1, xi x2, xi x3]) (kk : ∀ y μ', Q y μ' → Mw Ω σ0 m M_Mdl_layAll rm_Mdl_layAll F 90 L (xi y :: st) μ') (hst : (st.map catP).sum ≤ 8 := by exact Nat.le_of_ble_eq_true rfl) : Mw Ω σ0 m M_Mdl_layAll rm_Mdl_layAll F 87 L (xi x3 :: xi x2 :: xi x1 :: xi x0 :: xr (some m) :: st) μ :=
  fun σ hM => c_Mdl_layAll_87 (hc σ0 σ hM) hM.1.2.1 (by decide) (by decide) (by decide) (by decide) hst (fun y σ' hq => by obtain ⟨μ', h1, h2⟩ := hq; exact kk y μ' h2 σ' h1) (fun _ _ h => h.elim)
theorem C_layAll_134 {Ω : Om} {σ0 : Sto} {m : Nat} {F : QF} {L st : List PV} {μ : Mu} {Q : Mu → Prop} {x0 : Int} {x1 : Int} {x2 : Int} (hc : MMv Ω m M_Mdl_exchange rm_Mdl_exchange Q μ [xi x0, xi x1, xi x2]) (kk : ∀ μ', Q μ' → Mw Ω σ0 m M_Mdl_layAll rm_Mdl_layAll F 137 L st μ') (hst : (st.map catP).sum ≤ 8 := by exact Nat.le_of_ble_eq_true rfl) : Mw Ω σ0 m M_Mdl_layAll rm_Mdl_layAll F 134 L (xi x2 :: xi x1 :: xi x0 :: xr (some m) :: st) μ :=
  fun σ hM => c_Mdl_layAll_134 (hc σ0 σ hM) hM.1.2.1 (by decide) (by decide) (by decide) (by decide) hst (fun σ' hq => by obtain ⟨μ', h1, h2⟩ := hq; exact kk μ' h2 σ' h1) (fun _ _ h => h.elim)
theorem R_layAll_173 {Ω : Om} {σ0 : Sto} {m : Nat} {L : List PV} {μ : Mu} {Q : Int → Mu → Prop} {x : Int} (h : Q x μ) : Mw Ω σ0 m M_Mdl_layAll rm_Mdl_layAll (MQi Ω σ0 m rm_Mdl_layAll Q) 173 L [xi x] μ := fun σ hM => r_Mdl_layAll_173 ⟨_, rfl, μ, hM, h⟩ (by decide) (by decide)
theorem E_layAll {Ω : Om} {m : Nat} {μ : Mu} {Q : Int → Mu → Prop} {v1 : Int} {v2 : Int} (h : ∀ σ0, Mw Ω σ0 m M_Mdl_layAll rm_Mdl_layAll (MQi Ω σ0 m rm_Mdl_layAll Q) 0 [xr (some m), xi v1, xi v2, xu, xu, xu, xu, xu, xu, xu, xu] [] μ) : MMi Ω m M_Mdl_layAll rm_Mdl_layAll Q μ [xi v1, xi v2] := fun σ0 σ hM => e_Mdl_layAll (h σ0 σ hM)
theorem B_merge_0 {Ω : Om} {σ0 : Sto} {m : Nat} {R : Room} {F : QF} {μ : Mu} {v1 : Int} {v2 : Int} {v3 : Int} (h : Mw Ω σ0 m M_Mdl_merge R F 2 [xr (some m), xi v1, xi v2, xi v3, xu, xu, xu] [xi v1, xr (some m)] μ) : Mw Ω σ0 m M_Mdl_merge R F 0 [xr (some m), xi v1, xi v2, xi v3, xu, xu, xu] [] μ := by
  intro σ hM
  obtain ⟨hS, hk, e⟩ := id hM
  subst e
  refine b_Mdl_merge_0 ?_
  exact h _ hM
theorem B_merge_5 {Ω : Om} {σ0 : Sto} {m : Nat} {R : Room} {F : QF} {μ : Mu} {v1 : Int} {v2 : Int} {v3 : Int} {s0 : Int} (h : Q32 s0 ∧ ((s0 = (0 : Int) → Mw Ω σ0 m M_Mdl_merge R F 27 [xr (some m), xi v1, xi v2, xi v3, xu, xu, xu] [] μ) ∧ (¬ s0 = (0 : Int) → Mw Ω σ0 m M_Mdl_merge R F 10 [xr (some m), xi v1, xi v2, xi v3, xu, xu, xu] [xi v2, xr (some m)] μ))) : Mw Ω σ0 m M_Mdl_merge R F 5 [xr (some m), xi v1, xi v2, xi v3, xu, xu, xu] [xi s0] μ := by
  intro σ hM
  obtain ⟨hS, hk, e⟩ := id hM
  subst e
  refine b_Mdl_merge_5 ?_
  obtain ⟨o, h⟩ := h
  refine ⟨o, ?_⟩
  refine ⟨fun c => ?_, fun c => ?_⟩
  · have h := h.1 c
    exact h _ hM
  · have h := h.2 c
    exact h _ hM
theorem B_merge_13 {Ω : Om} {σ0 : Sto} {m : Nat} {R : Room} {F : QF} {μ : Mu} {v1 : Int} {v2 : Int} {v3 : Int} {s0 : Int} (h : Q32 s0 ∧ ((s0 = (0 : Int) → Mw Ω σ0 m M_Mdl_merge R F 27 [xr (some m), xi v1, xi v2, xi v3, xu, xu, xu] [] μ) ∧ (¬ s0 = (0 : Int) → Mw Ω σ0 m M_Mdl_merge R F 17 [xr (some m), xi v1, xi v2, xi v3, xu, xu, xu] [xi v3] μ))) : Mw Ω σ0 m M_Mdl_merge R F 13 [xr (some m), xi v1, xi v2, xi v3, xu, xu, xu] [xi s0] μ := by
  intro σ hM
  obtain ⟨hS, hk, e⟩ := id hM
  subst e
  refine b_Mdl_merge_13 ?_
  obtain ⟨o, h⟩ := h
  refine ⟨o, ?_⟩
  refine ⟨fun c => ?_, fun c => ?_⟩
  · have h := h.1 c
    exact h _ hM
  · have h := h.2 c
    exact h _ hM
theorem B_merge_20 {Ω : Om} {σ0 : Sto} {m : Nat} {R : Room} {F : QF} {μ : Mu} {v1 : Int} {v2 : Int} {v3 : Int} {s0 : Int} (h : Q32 s0 ∧ ((s0 = (0 : Int) → Mw Ω σ0 m M_Mdl_merge R F 27 [xr (some m), xi v1, xi v2, xi v3, xu, xu, xu] [] μ) ∧ (¬ s0 = (0 : Int) → Mw Ω σ0 m M_Mdl_merge R F 28 [xr (some m), xi v1, xi v2, xi v3, xu, xu, xu] [xi 1] μ))) : Mw Ω σ0 m M_Mdl_merge R F 20 [xr (some m), xi v1, xi v2, xi v3, xu, xu, xu] [xi s0] μ := by
  intro σ hM
  obtain ⟨hS, hk, e⟩ := id hM
  subst e
  refine b_Mdl_merge_20 ?_
  obtain ⟨o, h⟩ := h
  refine ⟨o, ?_⟩
  refine ⟨fun c => ?_, fun c => ?_⟩
  · have h := h.1 c
    exact h _ hM
  · have h := h.2 c
    exact h _ hM
theorem B_merge_28 {Ω : Om} {σ0 : Sto} {m : Nat} {R : Room} {F : QF} {μ : Mu} {v1 : Int} {v2 : Int} {v3 : Int} {s0 : Int} (h : Q32 s0 ∧ ((s0 = (0 : Int) → ((s0 = (0 : Int) → ((¬ s0 = (0 : Int) → Q32 v1 ∧ Q32 v2 ∧ ((¬ v1 = v2 → Mw Ω σ0 m M_Mdl_merge R F 103 [xr (some m), xi v1, xi v2, xi v3, xi s0, xi 0, xi 0] [xi 0, xr (some m)] μ) ∧ (v1 = v2 → Mw Ω σ0 m M_Mdl_merge R F 103 [xr (some m), xi v1, xi v2, xi v3, xi s0, xi 0, xi 0] [xi 2, xr (some m)] μ))) ∧ (s0 = (0 : Int) → Mw Ω σ0 m M_Mdl_merge R F 103 [xr (some m), xi v1, xi v2, xi v3, xi s0, xi 0, xi 0] [xi 1, xr (some m)] μ))) ∧ (¬ s0 = (0 : Int) → Q32 v1 ∧ Q32 v2 ∧ ((v1 = v2 → ((¬ s0 = (0 : Int) → ((¬ v1 = v2 → Mw Ω σ0 m M_Mdl_merge R F 103 [xr (some m), xi v1, xi v2, xi v3, xi s0, xi 0, xi 0] [xi 0, xr (some m)] μ) ∧ (v1 = v2 → Mw Ω σ0 m M_Mdl_merge R F 103 [xr (some m), xi v1, xi v2, xi v3, xi s0, xi 0, xi 0] [xi 2, xr (some m)] μ))) ∧ (s0 = (0 : Int) → Mw Ω σ0 m M_Mdl_merge R F 103 [xr (some m), xi v1, xi v2, xi v3, xi s0, xi 0, xi 0] [xi 1, xr (some m)] μ))) ∧ (¬ v1 = v2 → Mw Ω σ0 m M_Mdl_merge R F 63 [xr (some m), xi v1, xi v2, xi v3, xi s0, xi 0, xu] [xi 0, xi 0, xi v2, xi v1, xr (some m)] μ))))) ∧ (¬ s0 = (0 : Int) → Mw Ω σ0 m M_Mdl_merge R F 38 [xr (some m), xi v1, xi v2, xi v3, xi s0, xu, xu] [xi v2, xi v1, xr (some m)] μ))) : Mw Ω σ0 m M_Mdl_merge R F 28 [xr (some m), xi v1, xi v2, xi v3, xu, xu, xu] [xi s0] μ := by
  intro σ hM
  obtain ⟨hS, hk, e⟩ := id hM
  subst e
  refine b_Mdl_merge_28 ?_
  obtain ⟨o, h⟩ := h
  refine ⟨o, ?_⟩
  refine ⟨fun c => ?_, fun c => ?_⟩
  · have h := h.1 c
    refine ⟨fun c => ?_, fun c => ?_⟩
    · have h := h.1 c
      refine ⟨fun c => ?_, fun c => ?_⟩
      · have h := h.1 c
        obtain ⟨o, h⟩ := h
        refine ⟨o, ?_⟩
        obtain ⟨o, h⟩ := h
        refine ⟨o, ?_⟩
        refine ⟨fun c => ?_, fun c => ?_⟩
        · have h := h.1 c
          exact h _ hM
        · have h := h.2 c
          exact h _ hM
      · have h := h.2 c
        exact h _ hM
    · have h := h.2 c
      obtain ⟨o, h⟩ := h
      refine ⟨o, ?_⟩
      obtain ⟨o, h⟩ := h
      refine ⟨o, ?_⟩
      refine ⟨fun c => ?_, fun c => ?_⟩
      · have h := h.1 c
        refine ⟨fun c => ?_, fun c => ?_⟩
        · have h := h.1 c
          refine ⟨fun c => ?_, fun c => ?_⟩
          · have h := h.1 c
            exact h _ hM
          · have h := h.2 c
            exact h _ hM
        · have h := h.2 c
          exact h _ hM
      · have h := h.2 c
        exact h _ hM
  · have h := h.2 c
    exact h _ hM
theorem B_merge_41 {Ω : Om} {σ0 : Sto} {m : Nat} {R : Room} {F : QF} {μ : Mu} {v1 : Int} {v2 : Int} {v3 : Int} {v4 : Int} {s0 : Int} (h : Q32 v4 ∧ ((v4 = (0 : Int) → ((¬ v4 = (0 : Int) → Q32 v1 ∧ Q32 v2 ∧ ((¬ v1 = v2 → Mw Ω σ0 m M_Mdl_merge R F 103 [xr (some m), xi v1, xi v2, xi v3, xi v4, xi s0, xi 0] [xi 0, xr (some m)] μ) ∧ (v1 = v2 → Mw Ω σ0 m M_Mdl_merge R F 103 [xr (some m), xi v1, xi v2, xi v3, xi v4, xi s0, xi 0] [xi 2, xr (some m)] μ))) ∧ (v4 = (0 : Int) → Mw Ω σ0 m M_Mdl_merge R F 103 [xr (some m), xi v1, xi v2, xi v3, xi v4, xi s0, xi 0] [xi 1, xr (some m)] μ))) ∧ (¬ v4 = (0 : Int) → Q32 v1 ∧ Q32 v2 ∧ ((v1 = v2 → ((¬ v4 = (0 : Int) → ((¬ v1 = v2 → Mw Ω σ0 m M_Mdl_merge R F 103 [xr (some m), xi v1, xi v2, xi v3, xi v4, xi s0, xi 0] [xi 0, xr (some m)] μ) ∧ (v1 = v2 → Mw Ω σ0 m M_Mdl_merge R F 103 [xr (some m), xi v1, xi v2, xi v3, xi v4, xi s0, xi 0] [xi 2, xr (some m)] μ))) ∧ (v4 = (0 : Int) → Mw Ω σ0 m M_Mdl_merge R F 103 [xr (some m), xi v1, xi v2, xi v3, xi v4, xi s0, xi 0] [xi 1, xr (some m)] μ))) ∧ (¬ v1 = v2 → Mw Ω σ0 m M_Mdl_merge R F 63 [xr (some m), xi v1, xi v2, xi v3, xi v4, xi s0, xu] [xi 0, xi s0, xi v2, xi v1, xr (some m)] μ))))) : Mw Ω σ0 m M_Mdl_merge R F 41 [xr (some m), xi v1, xi v2, xi v3, xi v4, xu, xu] [xi s0] μ := by
  intro σ hM
  obtain ⟨hS, hk, e⟩ := id hM
  subst e
  refine b_Mdl_merge_41 ?_
  obtain ⟨o, h⟩ := h
  refine ⟨o, ?_⟩
  refine ⟨fun c => ?_, fun c => ?_⟩
  · have h := h.1 c
    refine ⟨fun c => ?_, fun c => ?_⟩
    · have h := h.1 c
      obtain ⟨o, h⟩ := h
      refine ⟨o, ?_⟩
      obtain ⟨o, h⟩ := h
      refine ⟨o, ?_⟩
      refine ⟨fun c => ?_, fun c => ?_⟩
      · have h := h.1 c
        exact h _ hM
      · have h := h.2 c
        exact h _ hM
    · have h := h.2 c
      exact h _ hM
  · have h := h.2 c
    obtain ⟨o, h⟩ := h
    refine ⟨o, ?_⟩
    obtain ⟨o, h⟩ := h
    refine ⟨o, ?_⟩
    refine ⟨fun c => ?_, fun c => ?_⟩
    · have h := h.1 c
      refine ⟨fun c => ?_, fun c => ?_⟩
      · have h := h.1 c
        refine ⟨fun c => ?_, fun c => ?_⟩
        · have h := h.1 c
          exact h _ hM
        · have h := h.2 c
          exact h _ hM
      · have h := h.2 c
        exact h _ hM
    · have h := h.2 c
      exact h _ hM
theorem B_merge_66 {Ω : Om} {σ0 : Sto} {m : Nat} {R : Room} {F : QF} {μ : Mu} {v1 : Int} {v2 : Int} {v3 : Int} {v4 : Int} {v5 : Int} {s0 : Int} (h : Q32 v4 ∧ ((¬ v4 = (0 : Int) → Q32 v1 ∧ Q32 v2 ∧ ((¬ v1 = v2 → Q32 s0 ∧ ((s0 ≤ (20 : Int) → Mw Ω σ0 m M_Mdl_merge R F 103 [xr (some m), xi v1, xi v2, xi v3, xi v4, xi v5, xi s0] [xi 0, xr (some m)] μ) ∧ (¬ s0 ≤ (20 : Int) → Mw Ω σ0 m M_Mdl_merge R F 103 [xr (some m), xi v1, xi v2, xi v3, xi v4, xi v5, xi s0] [xi 3, xr (some m)] μ))) ∧ (v1 = v2 → Mw Ω σ0 m M_Mdl_merge R F 103 [xr (some m), xi v1, xi v2, xi v3, xi v4, xi v5, xi s0] [xi 2, xr (some m)] μ))) ∧ (v4 = (0 : Int) → Mw Ω σ0 m M_Mdl_merge R F 103 [xr (some m), xi v1, xi v2, xi v3, xi v4, xi v5, xi s0] [xi 1, xr (some m)] μ))) : Mw Ω σ0 m M_Mdl_merge R F 66 [xr (some m), xi v1, xi v2, xi v3, xi v4, xi v5, xu] [xi s0] μ := by
  intro σ hM
  obtain ⟨hS, hk, e⟩ := id hM
  subst e
  refine b_Mdl_merge_66 ?_
  obtain ⟨o, h⟩ := h
  refine ⟨o, ?_⟩
  refine ⟨fun c => ?_, fun c => ?_⟩
  · have h := h.1 c
    obtain ⟨o, h⟩ := h
    refine ⟨o, ?_⟩
    obtain ⟨o, h⟩ := h
    refine ⟨o, ?_⟩
    refine ⟨fun c => ?_, fun c => ?_⟩
    · have h := h.1 c
      obtain ⟨o, h⟩ := h
      refine ⟨o, ?_⟩
      refine ⟨fun c => ?_, fun c => ?_⟩
      · have h := h.1 c
        exact h _ hM
      · have h := h.2 c
        exact h _ hM
    · have h := h.2 c
      exact h _ hM
  · have h := h.2 c
    exact h _ hM
theorem B_merge_106 {Ω : Om} {σ0 : Sto} {m : Nat} {R : Room} {F : QF} {μ : Mu} {v1 : Int} {v2 : Int} {v3 : Int} {v4 : Int} {v5 : Int} {v6 : Int} {s0 : Int} (h : Q32 s0 ∧ ((s0 = (0 : Int) → Q32 v1 ∧ Q32 v2 ∧ Q32 v3 ∧ Mw Ω σ0 m M_Mdl_merge R F 157 [xr (some m), xi v1, xi v2, xi v3, xi v4, xi v5, xi v6] [xi 1, xi v5, xi v2, xi v1, xr (some m)] (wI (wI (wI (wI (wI (wI (wI (wI μ 11 1) 12 v1) 13 v2) 14 v3) 17 0) 18 0) 21 0) 15 0)) ∧ (¬ s0 = (0 : Int) → Mw Ω σ0 m M_Mdl_merge R F 110 [xr (some m), xi v1, xi v2, xi v3, xi v4, xi v5, xi v6] [xi 0] μ))) : Mw Ω σ0 m M_Mdl_merge R F 106 [xr (some m), xi v1, xi v2, xi v3, xi v4, xi v5, xi v6] [xi s0] μ := by
  intro σ hM
  obtain ⟨hS, hk, e⟩ := id hM
  subst e
  refine b_Mdl_merge_106 ?_
  obtain ⟨o, h⟩ := h
  refine ⟨o, ?_⟩
  refine ⟨fun c => ?_, fun c => ?_⟩
  · have h := h.1 c
    refine ⟨hS.2.1, ?_⟩
    obtain ⟨o, h⟩ := h
    refine ⟨o, ?_⟩
    obtain ⟨o, h⟩ := h
    refine ⟨o, ?_⟩
    obtain ⟨o, h⟩ := h
    refine ⟨o, ?_⟩
    exact h _ (MR.uI (f := 15) (MR.uI (f := 21) (MR.uI (f := 18) (MR.uI (f := 17) (MR.uI (f := 14) (MR.uI (f := 13) (MR.uI (f := 12) (MR.uI (f := 11) hM))))))))
  · have h := h.2 c
    exact h _ hM
theorem B_merge_160 {Ω : Om} {σ0 : Sto} {m : Nat} {R : Room} {F : QF} {μ : Mu} {v1 : Int} {v2 : Int} {v3 : Int} {v4 : Int} {v5 : Int} {v6 : Int} {s0 : Int} (h : Mw Ω σ0 m M_Mdl_merge R F 165 [xr (some m), xi v1, xi v2, xi v3, xi v4, xi v5, xi v6] [xi (mI μ 17)] μ) : Mw Ω σ0 m M_Mdl_merge R F 160 [xr (some m), xi v1, xi v2, xi v3, xi v4, xi v5, xi v6] [xi s0] μ := by
  intro σ hM
  obtain ⟨hS, hk, e⟩ := id hM
  subst e
  refine b_Mdl_merge_160 ?_
  refine ⟨hS.2.1, ?_⟩
  refine fun _ => ?_
  exact h _ hM
theorem B_merge_27 {Ω : Om} {σ0 : Sto} {m : Nat} {R : Room} {F : QF} {μ : Mu} {v1 : Int} {v2 : Int} {v3 : Int} (h : Mw Ω σ0 m M_Mdl_merge R F 103 [xr (some m), xi v1, xi v2, xi v3, xi 0, xi 0, xi 0] [xi 1, xr (some m)] μ) : Mw Ω σ0 m M_Mdl_merge R F 27 [xr (some m), xi v1, xi v2, xi v3, xu, xu, xu] [] μ := by
  intro σ hM
  obtain ⟨hS, hk, e⟩ := id hM
  subst e
  refine b_Mdl_merge_27 ?_
  exact h _ hM
theorem C_merge_2 {Ω : Om} {σ0 : Sto} {m : Nat} {F : QF} {L st : List PV} {μ : Mu} {Q : Int → Mu → Prop} {x0 : Int} (hc : MMi Ω m M_Mdl_isVersion rm_Mdl_isVersion Q μ [xi x0]) (kk : ∀ y μ', Q y μ' → Mw Ω σ0 m M_Mdl_merge rm_Mdl_merge F 5 L (xi y :: st) μ') (hst : (st.map catP).sum ≤ 8 := by exact Nat.le_of_ble_eq_true rfl) : Mw Ω σ0 m M_Mdl_merge rm_Mdl_merge F 2 L (xi x0 :: xr (some m) :: st) μ :=
  fun σ hM => c_Mdl_merge_2 (hc σ0 σ hM) hM.1.2.1 (by decide) (by decide) (by decide) (by decide) hst (fun y σ' hq => by obtain ⟨μ', h1, h2⟩ := hq; exact kk y μ' h2 σ' h1) (fun _ _ h => h.elim)
theorem C_merge_10 {Ω : Om} {σ0 : Sto} {m : Nat} {F : QF} {L st : List PV} {μ : Mu} {Q : Int → Mu → Prop} {x0 : Int} (hc : MMi Ω m M_Mdl_isVersion rm_Mdl_isVersion Q μ [xi x0]) (kk : ∀ y μ', Q y μ' → Mw Ω σ0 m M_Mdl_merge rm_Mdl_merge F 13 L (xi y :: st) μ') (hst : (st.map catP).sum ≤ 8 := by exact Nat.le_of_ble_eq_true rfl) : Mw Ω σ0 m M_Mdl_merge rm_Mdl_merge F 10 L (xi x0 :: xr (some m) :: st) μ :=
  fun σ hM => c_Mdl_merge_10 (hc σ0 σ hM) hM.1.2.1 (by decide) (by decide) (by decide) (by decide) hst (fun y σ' hq => by obtain ⟨μ', h1, h2⟩ := hq; exact kk y μ' h2 σ' h1) (fun _ _ h => h.elim)
theorem C_merge_17 {Ω : Om} {σ0 : Sto} {m : Nat} {F : QF} {L st : List PV} {μ : Mu} {P : Int → Prop} {x0 : Int} (hc : MPi Ω M_Mdl_isPerson rm_Mdl_isPerson P [xi x0]) (kk : ∀ y , P y  → Mw Ω σ0 m M_Mdl_merge rm_Mdl_merge F 20 L (xi y :: st) μ) (hst : (st.map catP).sum ≤ 8 := by exact Nat.le_of_ble_eq_true rfl) : Mw Ω σ0 m M_Mdl_merge rm_Mdl_merge F 17 L (xi x0 :: st) μ :=
  fun σ hM => c_Mdl_merge_17 (hc σ) (by decide) (by decide) (by decide) (by decide) hst (fun y σ' hq => by obtain ⟨rfl, h2⟩ := hq; exact kk y h2 σ' hM) (fun _ _ h => h.elim)
theorem C_merge_38 {Ω : Om} {σ0 : Sto} {m : Nat} {F : QF} {L st : List PV} {μ : Mu} {Q : Int → Mu → Prop} {x0 : Int} {x1 : Int} (hc : MMi Ω m M_Mdl_baseOf rm_Mdl_baseOf Q μ [xi x0, xi x1]) (kk : ∀ y μ', Q y μ' → Mw Ω σ0 m M_Mdl_merge rm_Mdl_merge F 41 L (xi y :: st) μ') (hst : (st.map catP).sum ≤ 8 := by exact Nat.le_of_ble_eq_true rfl) : Mw Ω σ0 m M_Mdl_merge rm_Mdl_merge F 38 L (xi x1 :: xi x0 :: xr (some m) :: st) μ :=
  fun σ hM => c_Mdl_merge_38 (hc σ0 σ hM) hM.1.2.1 (by decide) (by decide) (by decide) (by decide) hst (fun y σ' hq => by obtain ⟨μ', h1, h2⟩ := hq; exact kk y μ' h2 σ' h1) (fun _ _ h => h.elim)
theorem C_merge_63 {Ω : Om} {σ0 : Sto} {m : Nat} {F : QF} {L st : List PV} {μ : Mu} {Q : Int → Mu → Prop} {x0 : Int} {x1 : Int} {x2 : Int} {x3 : Int} (hc : MMi Ω m M_Mdl_weave rm_Mdl_weave Q μ [xi x0, xi x1, xi x2, xi x3]) (kk : ∀ y μ', Q y μ' → Mw Ω σ0 m M_Mdl_merge rm_Mdl_merge F 66 L (xi y :: st) μ') (hst : (st.map catP).sum ≤ 8 := by exact Nat.le_of_ble_eq_true rfl) : Mw Ω σ0 m M_Mdl_merge rm_Mdl_merge F 63 L (xi x3 :: xi x2 :: xi x1 :: xi x0 :: xr (some m) :: st) μ :=
  fun σ hM => c_Mdl_merge_63 (hc σ0 σ hM) hM.1.2.1 (by decide) (by decide) (by decide) (by decide) hst (fun y σ' hq => by obtain ⟨μ', h1, h2⟩ := hq; exact kk y μ' h2 σ' h1) (fun _ _ h => h.elim)
theorem C_merge_103 {Ω : Om} {σ0 : Sto} {m : Nat} {F : QF} {L st : List PV} {μ : Mu} {Q : Int → Mu → Prop} {x0 : Int} (hc : MMi Ω m M_Mdl_refused rm_Mdl_refused Q μ [xi x0]) (kk : ∀ y μ', Q y μ' → Mw Ω σ0 m M_Mdl_merge rm_Mdl_merge F 106 L (xi y :: st) μ') (hst : (st.map catP).sum ≤ 8 := by exact Nat.le_of_ble_eq_true rfl) : Mw Ω σ0 m M_Mdl_merge rm_Mdl_merge F 103 L (xi x0 :: xr (some m) :: st) μ :=
  fun σ hM => c_Mdl_merge_103 (hc σ0 σ hM) hM.1.2.1 (by decide) (by decide) (by decide) (by decide) hst (fun y σ' hq => by obtain ⟨μ', h1, h2⟩ := hq; exact kk y μ' h2 σ' h1) (fun _ _ h => h.elim)
theorem R_merge_110 {Ω : Om} {σ0 : Sto} {m : Nat} {L : List PV} {μ : Mu} {Q : Int → Mu → Prop} {x : Int} (h : Q x μ) : Mw Ω σ0 m M_Mdl_merge rm_Mdl_merge (MQi Ω σ0 m rm_Mdl_merge Q) 110 L [xi x] μ := fun σ hM => r_Mdl_merge_110 ⟨_, rfl, μ, hM, h⟩ (by decide) (by decide)
theorem C_merge_157 {Ω : Om} {σ0 : Sto} {m : Nat} {F : QF} {L st : List PV} {μ : Mu} {Q : Int → Mu → Prop} {x0 : Int} {x1 : Int} {x2 : Int} {x3 : Int} (hc : MMi Ω m M_Mdl_weave rm_Mdl_weave Q μ [xi x0, xi x1, xi x2, xi x3]) (kk : ∀ y μ', Q y μ' → Mw Ω σ0 m M_Mdl_merge rm_Mdl_merge F 160 L (xi y :: st) μ') (hst : (st.map catP).sum ≤ 8 := by exact Nat.le_of_ble_eq_true rfl) : Mw Ω σ0 m M_Mdl_merge rm_Mdl_merge F 157 L (xi x3 :: xi x2 :: xi x1 :: xi x0 :: xr (some m) :: st) μ :=
  fun σ hM => c_Mdl_merge_157 (hc σ0 σ hM) hM.1.2.1 (by decide) (by decide) (by decide) (by decide) hst (fun y σ' hq => by obtain ⟨μ', h1, h2⟩ := hq; exact kk y μ' h2 σ' h1) (fun _ _ h => h.elim)
theorem R_merge_165 {Ω : Om} {σ0 : Sto} {m : Nat} {L : List PV} {μ : Mu} {Q : Int → Mu → Prop} {x : Int} (h : Q x μ) : Mw Ω σ0 m M_Mdl_merge rm_Mdl_merge (MQi Ω σ0 m rm_Mdl_merge Q) 165 L [xi x] μ := fun σ hM => r_Mdl_merge_165 ⟨_, rfl, μ, hM, h⟩ (by decide) (by decide)
theorem E_merge {Ω : Om} {m : Nat} {μ : Mu} {Q : Int → Mu → Prop} {v1 : Int} {v2 : Int} {v3 : Int} (h : ∀ σ0, Mw Ω σ0 m M_Mdl_merge rm_Mdl_merge (MQi Ω σ0 m rm_Mdl_merge Q) 0 [xr (some m), xi v1, xi v2, xi v3, xu, xu, xu] [] μ) : MMi Ω m M_Mdl_merge rm_Mdl_merge Q μ [xi v1, xi v2, xi v3] := fun σ0 σ hM => e_Mdl_merge (h σ0 σ hM)
theorem B_compare_0 {Ω : Om} {σ0 : Sto} {m : Nat} {R : Room} {F : QF} {μ : Mu} {v1 : Int} {v2 : Int} {v3 : Int} (h : Mw Ω σ0 m M_Mdl_compare R F 3 [xr (some m), xi v1, xi v2, xi v3, xu, xu] [xi v1, xr (some m), xr (some m)] μ) : Mw Ω σ0 m M_Mdl_compare R F 0 [xr (some m), xi v1, xi v2, xi v3, xu, xu] [] μ := by
  intro σ hM
  obtain ⟨hS, hk, e⟩ := id hM
  subst e
  refine b_Mdl_compare_0 ?_
  exact h _ hM
theorem B_compare_6 {Ω : Om} {σ0 : Sto} {m : Nat} {R : Room} {F : QF} {μ : Mu} {v1 : Int} {v2 : Int} {v3 : Int} {s1 : Int} (h : Q32 s1 ∧ ((s1 = (0 : Int) → Mw Ω σ0 m M_Mdl_compare R F 22 [xr (some m), xi v1, xi v2, xi v3, xu, xu] [xi 1, xr (some m)] μ) ∧ (¬ s1 = (0 : Int) → Mw Ω σ0 m M_Mdl_compare R F 11 [xr (some m), xi v1, xi v2, xi v3, xu, xu] [xi v2, xr (some m), xr (some m)] μ))) : Mw Ω σ0 m M_Mdl_compare R F 6 [xr (some m), xi v1, xi v2, xi v3, xu, xu] [xi s1, xr (some m)] μ := by
  intro σ hM
  obtain ⟨hS, hk, e⟩ := id hM
  subst e
  refine b_Mdl_compare_6 ?_
  obtain ⟨o, h⟩ := h
  refine ⟨o, ?_⟩
  refine ⟨fun c => ?_, fun c => ?_⟩
  · have h := h.1 c
    exact h _ hM
  · have h := h.2 c
    exact h _ hM
theorem B_compare_14 {Ω : Om} {σ0 : Sto} {m : Nat} {R : Room} {F : QF} {μ : Mu} {v1 : Int} {v2 : Int} {v3 : Int} {s1 : Int} (h : Q32 s1 ∧ ((s1 = (0 : Int) → Mw Ω σ0 m M_Mdl_compare R F 22 [xr (some m), xi v1, xi v2, xi v3, xu, xu] [xi 1, xr (some m)] μ) ∧ (¬ s1 = (0 : Int) → Mw Ω σ0 m M_Mdl_compare R F 22 [xr (some m), xi v1, xi v2, xi v3, xu, xu] [xi 0, xr (some m)] μ))) : Mw Ω σ0 m M_Mdl_compare R F 14 [xr (some m), xi v1, xi v2, xi v3, xu, xu] [xi s1, xr (some m)] μ := by
  intro σ hM
  obtain ⟨hS, hk, e⟩ := id hM
  subst e
  refine b_Mdl_compare_14 ?_
  obtain ⟨o, h⟩ := h
  refine ⟨o, ?_⟩
  refine ⟨fun c => ?_, fun c => ?_⟩
  · have h := h.1 c
    exact h _ hM
  · have h := h.2 c
    exact h _ hM
theorem B_compare_25 {Ω : Om} {σ0 : Sto} {m : Nat} {R : Room} {F : QF} {μ : Mu} {v1 : Int} {v2 : Int} {v3 : Int} {s0 : Int} (h : Q32 s0 ∧ ((s0 = (0 : Int) → Mw Ω σ0 m M_Mdl_compare R F 34 [xr (some m), xi v1, xi v2, xi v3, xu, xu] [xi v3, xi v2, xi v1, xr (some m)] μ) ∧ (¬ s0 = (0 : Int) → Mw Ω σ0 m M_Mdl_compare R F 29 [xr (some m), xi v1, xi v2, xi v3, xu, xu] [xi 0] μ))) : Mw Ω σ0 m M_Mdl_compare R F 25 [xr (some m), xi v1, xi v2, xi v3, xu, xu] [xi s0] μ := by
  intro σ hM
  obtain ⟨hS, hk, e⟩ := id hM
  subst e
  refine b_Mdl_compare_25 ?_
  obtain ⟨o, h⟩ := h
  refine ⟨o, ?_⟩
  refine ⟨fun c => ?_, fun c => ?_⟩
  · have h := h.1 c
    exact h _ hM
  · have h := h.2 c
    exact h _ hM
theorem B_compare_37 {Ω : Om} {σ0 : Sto} {m : Nat} {R : Room} {F : QF} {μ : Mu} {v1 : Int} {v2 : Int} {v3 : Int} {s0 : Int} (h : 0 ≤ v1 ∧ v1 < 40 ∧ Mw Ω σ0 m M_Mdl_compare R F 57 [xr (some m), xi v1, xi v2, xi v3, xi s0, xi 0] [] (wI (wI μ 25 1) 26 (mA μ 4 (v1).toNat))) : Mw Ω σ0 m M_Mdl_compare R F 37 [xr (some m), xi v1, xi v2, xi v3, xu, xu] [xi s0] μ := by
  intro σ hM
  obtain ⟨hS, hk, e⟩ := id hM
  subst e
  refine b_Mdl_compare_37 ?_
  refine ⟨hS.2.1, ?_⟩
  refine ⟨_, hS.r4, ?_⟩
  refine ⟨hS.k4, ?_⟩
  obtain ⟨o, h⟩ := h
  refine ⟨o, ?_⟩
  obtain ⟨o, h⟩ := h
  refine ⟨hS.b4 o, ?_⟩
  refine fun _ => ?_
  exact h _ (MR.uI (f := 26) (MR.uI (f := 25) hM))
theorem B_compare_57 {Ω : Om} {σ0 : Sto} {m : Nat} {R : Room} {F : QF} {μ : Mu} {v1 : Int} {v2 : Int} {v3 : Int} {v4 : Int} {v5 : Int} (h : Q32 v5 ∧ (((mI μ 26) ≤ v5 → Mw Ω σ0 m M_Mdl_compare R F 97 [xr (some m), xi v1, xi v2, xi v3, xi v4, xi 1] [] μ) ∧ (¬ (mI μ 26) ≤ v5 → 0 ≤ v5 ∧ v5 < 20 ∧ 0 ≤ v5 ∧ v5 < 20 ∧ 0 ≤ v5 ∧ v5 < 20 ∧ Mw Ω σ0 m M_Mdl_compare R F 57 [xr (some m), xi v1, xi v2, xi v3, xi v4, xi (v5 + 1)] [] (wA (wA μ 15 (v5).toNat (mA μ 30 (v5).toNat)) 16 (v5).toNat (-1))))) : Mw Ω σ0 m M_Mdl_compare R F 57 [xr (some m), xi v1, xi v2, xi v3, xi v4, xi v5] [] μ := by
  intro σ hM
  obtain ⟨hS, hk, e⟩ := id hM
  subst e
  refine b_Mdl_compare_57 ?_
  refine ⟨hS.2.1, ?_⟩
  refine fun _ => ?_
  obtain ⟨o, h⟩ := h
  refine ⟨o, ?_⟩
  refine ⟨fun c => ?_, fun c => ?_⟩
  · have h := h.1 c
    exact h _ hM
  · have h := h.2 c
    refine ⟨_, hS.r15, ?_⟩
    refine ⟨_, hS.r30, ?_⟩
    refine ⟨hS.k30, ?_⟩
    obtain ⟨o, h⟩ := h
    refine ⟨o, ?_⟩
    obtain ⟨o, h⟩ := h
    refine ⟨hS.b30 o, ?_⟩
    refine fun _ => ?_
    refine ⟨hS.k15, ?_⟩
    obtain ⟨o, h⟩ := h
    refine ⟨o, ?_⟩
    obtain ⟨o, h⟩ := h
    refine ⟨hS.b15 o, ?_⟩
    refine ⟨_, hS.r16, ?_⟩
    refine ⟨hS.k16, ?_⟩
    obtain ⟨o, h⟩ := h
    refine ⟨o, ?_⟩
    obtain ⟨o, h⟩ := h
    refine ⟨hS.b16 o, ?_⟩
    exact h _ (MR.vI (j := 16) (by decide) (MR.vI (j := 15) (by decide) hM))
theorem B_compare_97 {Ω : Om} {σ0 : Sto} {m : Nat} {R : Room} {F : QF} {μ : Mu} {v1 : Int} {v2 : Int} {v3 : Int} {v4 : Int} {v5 : Int} (h : Q32 v5 ∧ ((v5 = (0 : Int) → Mw Ω σ0 m M_Mdl_compare R F 116 [xr (some m), xi v1, xi v2, xi v3, xi v4, xi v5] [xi v4] μ) ∧ (¬ v5 = (0 : Int) → Mw Ω σ0 m M_Mdl_compare R F 106 [xr (some m), xi v1, xi v2, xi v3, xi v4, xi v5] [xi v3, xi v2, xi v1, xr (some m)] μ))) : Mw Ω σ0 m M_Mdl_compare R F 97 [xr (some m), xi v1, xi v2, xi v3, xi v4, xi v5] [] μ := by
  intro σ hM
  obtain ⟨hS, hk, e⟩ := id hM
  subst e
  refine b_Mdl_compare_97 ?_
  obtain ⟨o, h⟩ := h
  refine ⟨o, ?_⟩
  refine ⟨fun c => ?_, fun c => ?_⟩
  · have h := h.1 c
    exact h _ hM
  · have h := h.2 c
    exact h _ hM
theorem B_compare_109 {Ω : Om} {σ0 : Sto} {m : Nat} {R : Room} {F : QF} {μ : Mu} {v1 : Int} {v2 : Int} {v3 : Int} {v4 : Int} {v5 : Int} {s0 : Int} (h : Mw Ω σ0 m M_Mdl_compare R F 97 [xr (some m), xi v1, xi v2, xi v3, xi v4, xi s0] [] μ) : Mw Ω σ0 m M_Mdl_compare R F 109 [xr (some m), xi v1, xi v2, xi v3, xi v4, xi v5] [xi s0] μ := by
  intro σ hM
  obtain ⟨hS, hk, e⟩ := id hM
  subst e
  refine b_Mdl_compare_109 ?_
  exact h _ hM
theorem C_compare_3 {Ω : Om} {σ0 : Sto} {m : Nat} {F : QF} {L st : List PV} {μ : Mu} {Q : Int → Mu → Prop} {x0 : Int} (hc : MMi Ω m M_Mdl_isVersion rm_Mdl_isVersion Q μ [xi x0]) (kk : ∀ y μ', Q y μ' → Mw Ω σ0 m M_Mdl_compare rm_Mdl_compare F 6 L (xi y :: st) μ') (hst : (st.map catP).sum ≤ 8 := by exact Nat.le_of_ble_eq_true rfl) : Mw Ω σ0 m M_Mdl_compare rm_Mdl_compare F 3 L (xi x0 :: xr (some m) :: st) μ :=
  fun σ hM => c_Mdl_compare_3 (hc σ0 σ hM) hM.1.2.1 (by decide) (by decide) (by decide) (by decide) hst (fun y σ' hq => by obtain ⟨μ', h1, h2⟩ := hq; exact kk y μ' h2 σ' h1) (fun _ _ h => h.elim)
theorem C_compare_11 {Ω : Om} {σ0 : Sto} {m : Nat} {F : QF} {L st : List PV} {μ : Mu} {Q : Int → Mu → Prop} {x0 : Int} (hc : MMi Ω m M_Mdl_isVersion rm_Mdl_isVersion Q μ [xi x0]) (kk : ∀ y μ', Q y μ' → Mw Ω σ0 m M_Mdl_compare rm_Mdl_compare F 14 L (xi y :: st) μ') (hst : (st.map catP).sum ≤ 8 := by exact Nat.le_of_ble_eq_true rfl) : Mw Ω σ0 m M_Mdl_compare rm_Mdl_compare F 11 L (xi x0 :: xr (some m) :: st) μ :=
  fun σ hM => c_Mdl_compare_11 (hc σ0 σ hM) hM.1.2.1 (by decide) (by decide) (by decide) (by decide) hst (fun y σ' hq => by obtain ⟨μ', h1, h2⟩ := hq; exact kk y μ' h2 σ' h1) (fun _ _ h => h.elim)
theorem C_compare_22 {Ω : Om} {σ0 : Sto} {m : Nat} {F : QF} {L st : List PV} {μ : Mu} {Q : Int → Mu → Prop} {x0 : Int} (hc : MMi Ω m M_Mdl_refused rm_Mdl_refused Q μ [xi x0]) (kk : ∀ y μ', Q y μ' → Mw Ω σ0 m M_Mdl_compare rm_Mdl_compare F 25 L (xi y :: st) μ') (hst : (st.map catP).sum ≤ 8 := by exact Nat.le_of_ble_eq_true rfl) : Mw Ω σ0 m M_Mdl_compare rm_Mdl_compare F 22 L (xi x0 :: xr (some m) :: st) μ :=
  fun σ hM => c_Mdl_compare_22 (hc σ0 σ hM) hM.1.2.1 (by decide) (by decide) (by decide) (by decide) hst (fun y σ' hq => by obtain ⟨μ', h1, h2⟩ := hq; exact kk y μ' h2 σ' h1) (fun _ _ h => h.elim)
theorem R_compare_29 {Ω : Om} {σ0 : Sto} {m : Nat} {L : List PV} {μ : Mu} {Q : Int → Mu → Prop} {x : Int} (h : Q x μ) : Mw Ω σ0 m M_Mdl_compare rm_Mdl_compare (MQi Ω σ0 m rm_Mdl_compare Q) 29 L [xi x] μ := fun σ hM => r_Mdl_compare_29 ⟨_, rfl, μ, hM, h⟩ (by decide) (by decide)
theorem C_compare_34 {Ω : Om} {σ0 : Sto} {m : Nat} {F : QF} {L st : List PV} {μ : Mu} {Q : Int → Mu → Prop} {x0 : Int} {x1 : Int} {x2 : Int} (hc : MMi Ω m M_Mdl_pair rm_Mdl_pair Q μ [xi x0, xi x1, xi x2]) (kk : ∀ y μ', Q y μ' → Mw Ω σ0 m M_Mdl_compare rm_Mdl_compare F 37 L (xi y :: st) μ') (hst : (st.map catP).sum ≤ 8 := by exact Nat.le_of_ble_eq_true rfl) : Mw Ω σ0 m M_Mdl_compare rm_Mdl_compare F 34 L (xi x2 :: xi x1 :: xi x0 :: xr (some m) :: st) μ :=
  fun σ hM => c_Mdl_compare_34 (hc σ0 σ hM) hM.1.2.1 (by decide) (by decide) (by decide) (by decide) hst (fun y σ' hq => by obtain ⟨μ', h1, h2⟩ := hq; exact kk y μ' h2 σ' h1) (fun _ _ h => h.elim)
theorem C_compare_106 {Ω : Om} {σ0 : Sto} {m : Nat} {F : QF} {L st : List PV} {μ : Mu} {Q : Int → Mu → Prop} {x0 : Int} {x1 : Int} {x2 : Int} (hc : MMi Ω m M_Mdl_findMove rm_Mdl_findMove Q μ [xi x0, xi x1, xi x2]) (kk : ∀ y μ', Q y μ' → Mw Ω σ0 m M_Mdl_compare rm_Mdl_compare F 109 L (xi y :: st) μ') (hst : (st.map catP).sum ≤ 8 := by exact Nat.le_of_ble_eq_true rfl) : Mw Ω σ0 m M_Mdl_compare rm_Mdl_compare F 106 L (xi x2 :: xi x1 :: xi x0 :: xr (some m) :: st) μ :=
  fun σ hM => c_Mdl_compare_106 (hc σ0 σ hM) hM.1.2.1 (by decide) (by decide) (by decide) (by decide) hst (fun y σ' hq => by obtain ⟨μ', h1, h2⟩ := hq; exact kk y μ' h2 σ' h1) (fun _ _ h => h.elim)
theorem R_compare_116 {Ω : Om} {σ0 : Sto} {m : Nat} {L : List PV} {μ : Mu} {Q : Int → Mu → Prop} {x : Int} (h : Q x μ) : Mw Ω σ0 m M_Mdl_compare rm_Mdl_compare (MQi Ω σ0 m rm_Mdl_compare Q) 116 L [xi x] μ := fun σ hM => r_Mdl_compare_116 ⟨_, rfl, μ, hM, h⟩ (by decide) (by decide)
theorem E_compare {Ω : Om} {m : Nat} {μ : Mu} {Q : Int → Mu → Prop} {v1 : Int} {v2 : Int} {v3 : Int} (h : ∀ σ0, Mw Ω σ0 m M_Mdl_compare rm_Mdl_compare (MQi Ω σ0 m rm_Mdl_compare Q) 0 [xr (some m), xi v1, xi v2, xi v3, xu, xu] [] μ) : MMi Ω m M_Mdl_compare rm_Mdl_compare Q μ [xi v1, xi v2, xi v3] := fun σ0 σ hM => e_Mdl_compare (h σ0 σ hM)
theorem B_stateOf_0 {Ω : Om} {σ0 : Sto} {m : Nat} {R : Room} {F : QF} {μ : Mu} {v1 : Int} (h : Mw Ω σ0 m M_Mdl_stateOf R F 7 [xr (some m), xi v1, xi 0, xi 0, xi 0] [] μ) : Mw Ω σ0 m M_Mdl_stateOf R F 0 [xr (some m), xi v1, xu, xu, xu] [] μ := by
  intro σ hM
  obtain ⟨hS, hk, e⟩ := id hM
  subst e
  refine b_Mdl_stateOf_0 ?_
  exact h _ hM
theorem B_stateOf_7 {Ω : Om} {σ0 : Sto} {m : Nat} {R : Room} {F : QF} {μ : Mu} {v1 : Int} {v2 : Int} {v3 : Int} {v4 : Int} (h : Q32 v4 ∧ (((6 : Int) ≤ v4 → 0 ≤ v1 ∧ v1 < 20 ∧ (((mA μ 26 (v1).toNat) = (0 : Int) → Q32 v2 ∧ ((v2 ≤ (1 : Int) → Mw Ω σ0 m M_Mdl_stateOf R F 95 [xr (some m), xi v1, xi v2, xi v3, xi v4] [xi 0] μ) ∧ (¬ v2 ≤ (1 : Int) → Q32 v3 ∧ ((¬ v3 = (0 : Int) → Mw Ω σ0 m M_Mdl_stateOf R F 95 [xr (some m), xi v1, xi v2, xi v3, xi v4] [xi 0] μ) ∧ (v3 = (0 : Int) → Mw Ω σ0 m M_Mdl_stateOf R F 95 [xr (some m), xi v1, xi v2, xi v3, xi v4] [xi 1] μ))))) ∧ (¬ (mA μ 26 (v1).toNat) = (0 : Int) → Mw Ω σ0 m M_Mdl_stateOf R F 95 [xr (some m), xi v1, xi v2, xi v3, xi v4] [xi 2] μ))) ∧ (¬ (6 : Int) ≤ v4 → 0 ≤ ((6 * v1) + v4) ∧ ((6 * v1) + v4) < 120 ∧ ((¬ (mA μ 27 ((6 * v1) + v4).toNat) = (1 : Int) → ((¬ (mA μ 27 ((6 * v1) + v4).toNat) = (2 : Int) → Mw Ω σ0 m M_Mdl_stateOf R F 7 [xr (some m), xi v1, xi (v2 + 0), xi (v3 + 0), xi (v4 + 1)] [] μ) ∧ ((mA μ 27 ((6 * v1) + v4).toNat) = (2 : Int) → Mw Ω σ0 m M_Mdl_stateOf R F 7 [xr (some m), xi v1, xi (v2 + 0), xi (v3 + 1), xi (v4 + 1)] [] μ))) ∧ ((mA μ 27 ((6 * v1) + v4).toNat) = (1 : Int) → ((¬ (mA μ 27 ((6 * v1) + v4).toNat) = (2 : Int) → Mw Ω σ0 m M_Mdl_stateOf R F 7 [xr (some m), xi v1, xi (v2 + 1), xi (v3 + 0), xi (v4 + 1)] [] μ) ∧ ((mA μ 27 ((6 * v1) + v4).toNat) = (2 : Int) → Mw Ω σ0 m M_Mdl_stateOf R F 7 [xr (some m), xi v1, xi (v2 + 1), xi (v3 + 1), xi (v4 + 1)] [] μ))))))) : Mw Ω σ0 m M_Mdl_stateOf R F 7 [xr (some m), xi v1, xi v2, xi v3, xi v4] [] μ := by
  intro σ hM
  obtain ⟨hS, hk, e⟩ := id hM
  subst e
  refine b_Mdl_stateOf_7 ?_
  obtain ⟨o, h⟩ := h
  refine ⟨o, ?_⟩
  refine ⟨fun c => ?_, fun c => ?_⟩
  · have h := h.1 c
    refine ⟨hS.2.1, ?_⟩
    refine ⟨_, hS.r26, ?_⟩
    refine ⟨hS.k26, ?_⟩
    obtain ⟨o, h⟩ := h
    refine ⟨o, ?_⟩
    obtain ⟨o, h⟩ := h
    refine ⟨hS.b26 o, ?_⟩
    refine fun _ => ?_
    refine ⟨fun c => ?_, fun c => ?_⟩
    · have h := h.1 c
      obtain ⟨o, h⟩ := h
      refine ⟨o, ?_⟩
      refine ⟨fun c => ?_, fun c => ?_⟩
      · have h := h.1 c
        exact h _ hM
      · have h := h.2 c
        obtain ⟨o, h⟩ := h
        refine ⟨o, ?_⟩
        refine ⟨fun c => ?_, fun c => ?_⟩
        · have h := h.1 c
          exact h _ hM
        · have h := h.2 c
          exact h _ hM
    · have h := h.2 c
      exact h _ hM
  · have h := h.2 c
    refine ⟨hS.2.1, ?_⟩
    refine ⟨_, hS.r27, ?_⟩
    refine ⟨hS.k27, ?_⟩
    obtain ⟨o, h⟩ := h
    refine ⟨o, ?_⟩
    obtain ⟨o, h⟩ := h
    refine ⟨hS.b27 o, ?_⟩
    refine fun _ => ?_
    refine ⟨fun c => ?_, fun c => ?_⟩
    · have h := h.1 c
      refine fun _ => ?_
      refine ⟨fun c => ?_, fun c => ?_⟩
      · have h := h.1 c
        exact h _ hM
      · have h := h.2 c
        exact h _ hM
    · have h := h.2 c
      refine fun _ => ?_
      refine ⟨fun c => ?_, fun c => ?_⟩
      · have h := h.1 c
        exact h _ hM
      · have h := h.2 c
        exact h _ hM
theorem R_stateOf_95 {Ω : Om} {σ0 : Sto} {m : Nat} {L : List PV} {μ : Mu} {Q : Int → Mu → Prop} {x : Int} (h : Q x μ) : Mw Ω σ0 m M_Mdl_stateOf rm_Mdl_stateOf (MQi Ω σ0 m rm_Mdl_stateOf Q) 95 L [xi x] μ := fun σ hM => r_Mdl_stateOf_95 ⟨_, rfl, μ, hM, h⟩ (by decide) (by decide)
theorem E_stateOf {Ω : Om} {m : Nat} {μ : Mu} {Q : Int → Mu → Prop} {v1 : Int} (h : ∀ σ0, Mw Ω σ0 m M_Mdl_stateOf rm_Mdl_stateOf (MQi Ω σ0 m rm_Mdl_stateOf Q) 0 [xr (some m), xi v1, xu, xu, xu] [] μ) : MMi Ω m M_Mdl_stateOf rm_Mdl_stateOf Q μ [xi v1] := fun σ0 σ hM => e_Mdl_stateOf (h σ0 σ hM)
theorem B_putIn_0 {Ω : Om} {σ0 : Sto} {m : Nat} {R : Room} {F : QF} {μ : Mu} {v1 : Int64} (h : 0 ≤ (mI μ 12) ∧ (mI μ 12) < 40 ∧ Mw Ω σ0 m M_Mdl_putIn R F 18 [xr (some m), xl v1, xu, xi (mI μ 14), xi ((mA μ 4 (mI μ 12).toNat) - 1)] [] μ) : Mw Ω σ0 m M_Mdl_putIn R F 0 [xr (some m), xl v1, xu, xu, xu] [] μ := by
  intro σ hM
  obtain ⟨hS, hk, e⟩ := id hM
  subst e
  refine b_Mdl_putIn_0 ?_
  refine ⟨hS.2.1, ?_⟩
  refine fun _ => ?_
  refine ⟨_, hS.r4, ?_⟩
  refine fun _ => ?_
  refine ⟨hS.k4, ?_⟩
  obtain ⟨o, h⟩ := h
  refine ⟨o, ?_⟩
  obtain ⟨o, h⟩ := h
  refine ⟨hS.b4 o, ?_⟩
  refine fun _ => ?_
  exact h _ hM
theorem B_putIn_18 {Ω : Om} {σ0 : Sto} {m : Nat} {R : Room} {F : QF} {μ : Mu} {v1 : Int64} {v3 : Int} {v4 : Int} (h : Q32 v4 ∧ ((v4 < (0 : Int) → Mw Ω σ0 m M_Mdl_putIn R F 91 [xr (some m), xl v1, xu, xi v3, xi v4] [xi (-1), xi v3, xl v1, xr (some m)] μ) ∧ (¬ v4 < (0 : Int) → Mw Ω σ0 m M_Mdl_putIn R F 24 [xr (some m), xl v1, xu, xi v3, xi v4] [xl v1] μ))) : Mw Ω σ0 m M_Mdl_putIn R F 18 [xr (some m), xl v1, xu, xi v3, xi v4] [] μ := by
  intro σ hM
  obtain ⟨hS, hk, e⟩ := id hM
  subst e
  refine b_Mdl_putIn_18 ?_
  obtain ⟨o, h⟩ := h
  refine ⟨o, ?_⟩
  refine ⟨fun c => ?_, fun c => ?_⟩
  · have h := h.1 c
    exact h _ hM
  · have h := h.2 c
    exact h _ hM
theorem B_putIn_27 {Ω : Om} {σ0 : Sto} {m : Nat} {R : Room} {F : QF} {μ : Mu} {v1 : Int64} {v3 : Int} {v4 : Int} {s0 : Int} (h : Q32 s0 ∧ ((s0 < (4 : Int) → Mw Ω σ0 m M_Mdl_putIn R F 91 [xr (some m), xl v1, xu, xi v3, xi v4] [xi (-1), xi v3, xl v1, xr (some m)] μ) ∧ (¬ s0 < (4 : Int) → 0 ≤ ((20 * (mI μ 12)) + v4) ∧ ((20 * (mI μ 12)) + v4) < 800 ∧ 0 ≤ (mA μ 5 ((20 * (mI μ 12)) + v4).toNat) ∧ (mA μ 5 ((20 * (mI μ 12)) + v4).toNat) < 16384 ∧ Q32 (cmpL (mG μ 1 (mA μ 5 ((20 * (mI μ 12)) + v4).toNat).toNat) v1) ∧ ((¬ (cmpL (mG μ 1 (mA μ 5 ((20 * (mI μ 12)) + v4).toNat).toNat) v1) = (0 : Int) → Mw Ω σ0 m M_Mdl_putIn R F 18 [xr (some m), xl v1, xu, xi v3, xi (v4 + (-1))] [] μ) ∧ ((cmpL (mG μ 1 (mA μ 5 ((20 * (mI μ 12)) + v4).toNat).toNat) v1) = (0 : Int) → 0 ≤ (mA μ 5 ((20 * (mI μ 12)) + v4).toNat) ∧ (mA μ 5 ((20 * (mI μ 12)) + v4).toNat) < 16384 ∧ Mw Ω σ0 m M_Mdl_putIn R F 18 [xr (some m), xl v1, xu, xi (mA μ 2 (mA μ 5 ((20 * (mI μ 12)) + v4).toNat).toNat), xi (v4 + (-1))] [] μ))))) : Mw Ω σ0 m M_Mdl_putIn R F 27 [xr (some m), xl v1, xu, xi v3, xi v4] [xi s0] μ := by
  intro σ hM
  obtain ⟨hS, hk, e⟩ := id hM
  subst e
  refine b_Mdl_putIn_27 ?_
  obtain ⟨o, h⟩ := h
  refine ⟨o, ?_⟩
  refine ⟨fun c => ?_, fun c => ?_⟩
  · have h := h.1 c
    exact h _ hM
  · have h := h.2 c
    refine ⟨hS.2.1, ?_⟩
    refine ⟨_, hS.r1, ?_⟩
    refine ⟨_, hS.r5, ?_⟩
    refine fun _ => ?_
    refine ⟨hS.k5, ?_⟩
    obtain ⟨o, h⟩ := h
    refine ⟨o, ?_⟩
    obtain ⟨o, h⟩ := h
    refine ⟨hS.b5 o, ?_⟩
    refine fun _ => ?_
    refine ⟨hS.k1, ?_⟩
    obtain ⟨o, h⟩ := h
    refine ⟨o, ?_⟩
    obtain ⟨o, h⟩ := h
    refine ⟨hS.b1 o, ?_⟩
    obtain ⟨o, h⟩ := h
    refine ⟨o, ?_⟩
    refine ⟨fun c => ?_, fun c => ?_⟩
    · have h := h.1 c
      exact h _ hM
    · have h := h.2 c
      refine ⟨_, hS.r2, ?_⟩
      refine fun _ => ?_
      refine fun _ => ?_
      refine ⟨hS.k2, ?_⟩
      obtain ⟨o, h⟩ := h
      refine ⟨o, ?_⟩
      obtain ⟨o, h⟩ := h
      refine ⟨hS.b2 o, ?_⟩
      refine fun _ => ?_
      exact h _ hM
theorem C_putIn_24 {Ω : Om} {σ0 : Sto} {m : Nat} {F : QF} {L st : List PV} {μ : Mu} {P : Int → Prop} {x0 : Int64} (hc : MPi Ω M_Mdl_letters rm_Mdl_letters P [xl x0]) (kk : ∀ y , P y  → Mw Ω σ0 m M_Mdl_putIn rm_Mdl_putIn F 27 L (xi y :: st) μ) (hst : (st.map catP).sum ≤ 8 := by exact Nat.le_of_ble_eq_true rfl) : Mw Ω σ0 m M_Mdl_putIn rm_Mdl_putIn F 24 L (xl x0 :: st) μ :=
  fun σ hM => c_Mdl_putIn_24 (hc σ) (by decide) (by decide) (by decide) (by decide) hst (fun y σ' hq => by obtain ⟨rfl, h2⟩ := hq; exact kk y h2 σ' hM) (fun _ _ h => h.elim)
theorem C_putIn_91 {Ω : Om} {σ0 : Sto} {m : Nat} {F : QF} {L st : List PV} {μ : Mu} {Q : Int → Mu → Prop} {x0 : Int64} {x1 : Int} {x2 : Int} (hc : MMi Ω m M_Mdl_id rm_Mdl_id Q μ [xl x0, xi x1, xi x2]) (kk : ∀ y μ', Q y μ' → Mw Ω σ0 m M_Mdl_putIn rm_Mdl_putIn F 94 L (xi y :: st) μ') (hst : (st.map catP).sum ≤ 8 := by exact Nat.le_of_ble_eq_true rfl) : Mw Ω σ0 m M_Mdl_putIn rm_Mdl_putIn F 91 L (xi x2 :: xi x1 :: xl x0 :: xr (some m) :: st) μ :=
  fun σ hM => c_Mdl_putIn_91 (hc σ0 σ hM) hM.1.2.1 (by decide) (by decide) (by decide) (by decide) hst (fun y σ' hq => by obtain ⟨μ', h1, h2⟩ := hq; exact kk y μ' h2 σ' h1) (fun _ _ h => h.elim)
theorem R_putIn_94 {Ω : Om} {σ0 : Sto} {m : Nat} {L : List PV} {μ : Mu} {Q : Int → Mu → Prop} {x : Int} (h : Q x μ) : Mw Ω σ0 m M_Mdl_putIn rm_Mdl_putIn (MQi Ω σ0 m rm_Mdl_putIn Q) 94 L [xi x] μ := fun σ hM => r_Mdl_putIn_94 ⟨_, rfl, μ, hM, h⟩ (by decide) (by decide)
theorem E_putIn {Ω : Om} {m : Nat} {μ : Mu} {Q : Int → Mu → Prop} {v1 : Int64} (h : ∀ σ0, Mw Ω σ0 m M_Mdl_putIn rm_Mdl_putIn (MQi Ω σ0 m rm_Mdl_putIn Q) 0 [xr (some m), xl v1, xu, xu, xu] [] μ) : MMi Ω m M_Mdl_putIn rm_Mdl_putIn Q μ [xl v1] := fun σ0 σ hM => e_Mdl_putIn (h σ0 σ hM)
theorem B_find_0 {Ω : Om} {σ0 : Sto} {m : Nat} {R : Room} {F : QF} {μ : Mu} {v1 : Int} {v2 : Int} {v3 : Int} {v4 : Int} (h : Mw Ω σ0 m M_Mdl_find R F 3 [xr (some m), xi v1, xi v2, xi v3, xi v4, xi 0, xu] [] μ) : Mw Ω σ0 m M_Mdl_find R F 0 [xr (some m), xi v1, xi v2, xi v3, xi v4, xu, xu] [] μ := by
  intro σ hM
  obtain ⟨hS, hk, e⟩ := id hM
  subst e
  refine b_Mdl_find_0 ?_
  exact h _ hM
theorem B_find_3 {Ω : Om} {σ0 : Sto} {m : Nat} {R : Room} {F : QF} {μ : Mu} {v1 : Int} {v2 : Int} {v3 : Int} {v4 : Int} {v5 : Int} (h : Q32 v5 ∧ Q32 v3 ∧ ((v3 < v5 → Mw Ω σ0 m M_Mdl_find R F 75 [xr (some m), xi v1, xi v2, xi v3, xi v4, xi v5, xu] [xi (-1)] μ) ∧ (¬ v3 < v5 → Mw Ω σ0 m M_Mdl_find R F 12 [xr (some m), xi v1, xi v2, xi v3, xi v4, xi v5, xi 0] [] μ))) : Mw Ω σ0 m M_Mdl_find R F 3 [xr (some m), xi v1, xi v2, xi v3, xi v4, xi v5, xu] [] μ := by
  intro σ hM
  obtain ⟨hS, hk, e⟩ := id hM
  subst e
  refine b_Mdl_find_3 ?_
  obtain ⟨o, h⟩ := h
  refine ⟨o, ?_⟩
  obtain ⟨o, h⟩ := h
  refine ⟨o, ?_⟩
  refine ⟨fun c => ?_, fun c => ?_⟩
  · have h := h.1 c
    exact h _ hM
  · have h := h.2 c
    exact h _ hM
theorem B_find_12 {Ω : Om} {σ0 : Sto} {m : Nat} {R : Room} {F : QF} {μ : Mu} {v1 : Int} {v2 : Int} {v3 : Int} {v4 : Int} {v5 : Int} {v6 : Int} (h : Q32 v6 ∧ (((128 : Int) ≤ v6 → Mw Ω σ0 m M_Mdl_find R F 3 [xr (some m), xi v1, xi v2, xi v3, xi v4, xi (v5 + 1), xu] [] μ) ∧ (¬ (128 : Int) ≤ v6 → Mw Ω σ0 m M_Mdl_find R F 30 [xr (some m), xi v1, xi v2, xi v3, xi v4, xi v5, xi v6] [xi v4, xi v5, xi (v2 - v6), xi v1, xr (some m)] μ))) : Mw Ω σ0 m M_Mdl_find R F 12 [xr (some m), xi v1, xi v2, xi v3, xi v4, xi v5, xi v6] [] μ := by
  intro σ hM
  obtain ⟨hS, hk, e⟩ := id hM
  subst e
  refine b_Mdl_find_12 ?_
  obtain ⟨o, h⟩ := h
  refine ⟨o, ?_⟩
  refine ⟨fun c => ?_, fun c => ?_⟩
  · have h := h.1 c
    exact h _ hM
  · have h := h.2 c
    exact h _ hM
theorem B_find_33 {Ω : Om} {σ0 : Sto} {m : Nat} {R : Room} {F : QF} {μ : Mu} {v1 : Int} {v2 : Int} {v3 : Int} {v4 : Int} {v5 : Int} {v6 : Int} {s0 : Int} (h : Q32 s0 ∧ ((s0 = (0 : Int) → Mw Ω σ0 m M_Mdl_find R F 51 [xr (some m), xi v1, xi v2, xi v3, xi v4, xi v5, xi v6] [xi v4, xi v5, xi (v2 + v6), xi v1, xr (some m)] μ) ∧ (¬ s0 = (0 : Int) → Mw Ω σ0 m M_Mdl_find R F 40 [xr (some m), xi v1, xi v2, xi v3, xi v4, xi v5, xi v6] [xi (v2 - v6)] μ))) : Mw Ω σ0 m M_Mdl_find R F 33 [xr (some m), xi v1, xi v2, xi v3, xi v4, xi v5, xi v6] [xi s0] μ := by
  intro σ hM
  obtain ⟨hS, hk, e⟩ := id hM
  subst e
  refine b_Mdl_find_33 ?_
  obtain ⟨o, h⟩ := h
  refine ⟨o, ?_⟩
  refine ⟨fun c => ?_, fun c => ?_⟩
  · have h := h.1 c
    exact h _ hM
  · have h := h.2 c
    exact h _ hM
theorem B_find_54 {Ω : Om} {σ0 : Sto} {m : Nat} {R : Room} {F : QF} {μ : Mu} {v1 : Int} {v2 : Int} {v3 : Int} {v4 : Int} {v5 : Int} {v6 : Int} {s0 : Int} (h : Q32 s0 ∧ ((s0 = (0 : Int) → Mw Ω σ0 m M_Mdl_find R F 12 [xr (some m), xi v1, xi v2, xi v3, xi v4, xi v5, xi (v6 + 1)] [] μ) ∧ (¬ s0 = (0 : Int) → Mw Ω σ0 m M_Mdl_find R F 61 [xr (some m), xi v1, xi v2, xi v3, xi v4, xi v5, xi v6] [xi (v2 + v6)] μ))) : Mw Ω σ0 m M_Mdl_find R F 54 [xr (some m), xi v1, xi v2, xi v3, xi v4, xi v5, xi v6] [xi s0] μ := by
  intro σ hM
  obtain ⟨hS, hk, e⟩ := id hM
  subst e
  refine b_Mdl_find_54 ?_
  obtain ⟨o, h⟩ := h
  refine ⟨o, ?_⟩
  refine ⟨fun c => ?_, fun c => ?_⟩
  · have h := h.1 c
    exact h _ hM
  · have h := h.2 c
    exact h _ hM
theorem C_find_30 {Ω : Om} {σ0 : Sto} {m : Nat} {F : QF} {L st : List PV} {μ : Mu} {Q : Int → Mu → Prop} {x0 : Int} {x1 : Int} {x2 : Int} {x3 : Int} (hc : MMi Ω m M_Mdl_fits rm_Mdl_fits Q μ [xi x0, xi x1, xi x2, xi x3]) (kk : ∀ y μ', Q y μ' → Mw Ω σ0 m M_Mdl_find rm_Mdl_find F 33 L (xi y :: st) μ') (hst : (st.map catP).sum ≤ 8 := by exact Nat.le_of_ble_eq_true rfl) : Mw Ω σ0 m M_Mdl_find rm_Mdl_find F 30 L (xi x3 :: xi x2 :: xi x1 :: xi x0 :: xr (some m) :: st) μ :=
  fun σ hM => c_Mdl_find_30 (hc σ0 σ hM) hM.1.2.1 (by decide) (by decide) (by decide) (by decide) hst (fun y σ' hq => by obtain ⟨μ', h1, h2⟩ := hq; exact kk y μ' h2 σ' h1) (fun _ _ h => h.elim)
theorem R_find_40 {Ω : Om} {σ0 : Sto} {m : Nat} {L : List PV} {μ : Mu} {Q : Int → Mu → Prop} {x : Int} (h : Q x μ) : Mw Ω σ0 m M_Mdl_find rm_Mdl_find (MQi Ω σ0 m rm_Mdl_find Q) 40 L [xi x] μ := fun σ hM => r_Mdl_find_40 ⟨_, rfl, μ, hM, h⟩ (by decide) (by decide)
theorem C_find_51 {Ω : Om} {σ0 : Sto} {m : Nat} {F : QF} {L st : List PV} {μ : Mu} {Q : Int → Mu → Prop} {x0 : Int} {x1 : Int} {x2 : Int} {x3 : Int} (hc : MMi Ω m M_Mdl_fits rm_Mdl_fits Q μ [xi x0, xi x1, xi x2, xi x3]) (kk : ∀ y μ', Q y μ' → Mw Ω σ0 m M_Mdl_find rm_Mdl_find F 54 L (xi y :: st) μ') (hst : (st.map catP).sum ≤ 8 := by exact Nat.le_of_ble_eq_true rfl) : Mw Ω σ0 m M_Mdl_find rm_Mdl_find F 51 L (xi x3 :: xi x2 :: xi x1 :: xi x0 :: xr (some m) :: st) μ :=
  fun σ hM => c_Mdl_find_51 (hc σ0 σ hM) hM.1.2.1 (by decide) (by decide) (by decide) (by decide) hst (fun y σ' hq => by obtain ⟨μ', h1, h2⟩ := hq; exact kk y μ' h2 σ' h1) (fun _ _ h => h.elim)
theorem R_find_61 {Ω : Om} {σ0 : Sto} {m : Nat} {L : List PV} {μ : Mu} {Q : Int → Mu → Prop} {x : Int} (h : Q x μ) : Mw Ω σ0 m M_Mdl_find rm_Mdl_find (MQi Ω σ0 m rm_Mdl_find Q) 61 L [xi x] μ := fun σ hM => r_Mdl_find_61 ⟨_, rfl, μ, hM, h⟩ (by decide) (by decide)
theorem R_find_75 {Ω : Om} {σ0 : Sto} {m : Nat} {L : List PV} {μ : Mu} {Q : Int → Mu → Prop} {x : Int} (h : Q x μ) : Mw Ω σ0 m M_Mdl_find rm_Mdl_find (MQi Ω σ0 m rm_Mdl_find Q) 75 L [xi x] μ := fun σ hM => r_Mdl_find_75 ⟨_, rfl, μ, hM, h⟩ (by decide) (by decide)
theorem E_find {Ω : Om} {m : Nat} {μ : Mu} {Q : Int → Mu → Prop} {v1 : Int} {v2 : Int} {v3 : Int} {v4 : Int} (h : ∀ σ0, Mw Ω σ0 m M_Mdl_find rm_Mdl_find (MQi Ω σ0 m rm_Mdl_find Q) 0 [xr (some m), xi v1, xi v2, xi v3, xi v4, xu, xu] [] μ) : MMi Ω m M_Mdl_find rm_Mdl_find Q μ [xi v1, xi v2, xi v3, xi v4] := fun σ0 σ hM => e_Mdl_find (h σ0 σ hM)
theorem B_move_0 {Ω : Om} {σ0 : Sto} {m : Nat} {R : Room} {F : QF} {μ : Mu} {v1 : Int} {v2 : Int} (h : Mw Ω σ0 m M_Mdl_move R F 3 [xr (some m), xi v1, xi v2, xu] [xi v1, xr (some m), xr (some m)] μ) : Mw Ω σ0 m M_Mdl_move R F 0 [xr (some m), xi v1, xi v2, xu] [] μ := by
  intro σ hM
  obtain ⟨hS, hk, e⟩ := id hM
  subst e
  refine b_Mdl_move_0 ?_
  exact h _ hM
theorem B_move_6 {Ω : Om} {σ0 : Sto} {m : Nat} {R : Room} {F : QF} {μ : Mu} {v1 : Int} {v2 : Int} {s1 : Int} (h : Q32 s1 ∧ ((s1 = (0 : Int) → Mw Ω σ0 m M_Mdl_move R F 33 [xr (some m), xi v1, xi v2, xu] [xi 1, xr (some m)] μ) ∧ (¬ s1 = (0 : Int) → Mw Ω σ0 m M_Mdl_move R F 11 [xr (some m), xi v1, xi v2, xu] [xi v2, xr (some m), xr (some m)] μ))) : Mw Ω σ0 m M_Mdl_move R F 6 [xr (some m), xi v1, xi v2, xu] [xi s1, xr (some m)] μ := by
  intro σ hM
  obtain ⟨hS, hk, e⟩ := id hM
  subst e
  refine b_Mdl_move_6 ?_
  obtain ⟨o, h⟩ := h
  refine ⟨o, ?_⟩
  refine ⟨fun c => ?_, fun c => ?_⟩
  · have h := h.1 c
    exact h _ hM
  · have h := h.2 c
    exact h _ hM
theorem B_move_14 {Ω : Om} {σ0 : Sto} {m : Nat} {R : Room} {F : QF} {μ : Mu} {v1 : Int} {v2 : Int} {s1 : Int} (h : Q32 s1 ∧ ((¬ s1 = (0 : Int) → Mw Ω σ0 m M_Mdl_move R F 22 [xr (some m), xi v1, xi v2, xu] [xr (some m), xr (some m)] μ) ∧ (s1 = (0 : Int) → Mw Ω σ0 m M_Mdl_move R F 33 [xr (some m), xi v1, xi v2, xu] [xi 1, xr (some m)] μ))) : Mw Ω σ0 m M_Mdl_move R F 14 [xr (some m), xi v1, xi v2, xu] [xi s1, xr (some m)] μ := by
  intro σ hM
  obtain ⟨hS, hk, e⟩ := id hM
  subst e
  refine b_Mdl_move_14 ?_
  obtain ⟨o, h⟩ := h
  refine ⟨o, ?_⟩
  refine ⟨fun c => ?_, fun c => ?_⟩
  · have h := h.1 c
    exact h _ hM
  · have h := h.2 c
    exact h _ hM
theorem B_move_36 {Ω : Om} {σ0 : Sto} {m : Nat} {R : Room} {F : QF} {μ : Mu} {v1 : Int} {v2 : Int} {s0 : Int} (h : Q32 s0 ∧ ((¬ s0 = (0 : Int) → Mw Ω σ0 m M_Mdl_move R F 61 [xr (some m), xi v1, xi v2, xu] [] μ) ∧ (s0 = (0 : Int) → Mw Ω σ0 m M_Mdl_move R F 40 [xr (some m), xi v1, xi v2, xu] [xr (some m)] μ))) : Mw Ω σ0 m M_Mdl_move R F 36 [xr (some m), xi v1, xi v2, xu] [xi s0] μ := by
  intro σ hM
  obtain ⟨hS, hk, e⟩ := id hM
  subst e
  refine b_Mdl_move_36 ?_
  obtain ⟨o, h⟩ := h
  refine ⟨o, ?_⟩
  refine ⟨fun c => ?_, fun c => ?_⟩
  · have h := h.1 c
    exact h _ hM
  · have h := h.2 c
    exact h _ hM
theorem B_move_43 {Ω : Om} {σ0 : Sto} {m : Nat} {R : Room} {F : QF} {μ : Mu} {v1 : Int} {v2 : Int} (h : 0 ≤ v1 ∧ v1 < 64 ∧ Mw Ω σ0 m M_Mdl_move R F 52 [xr (some m), xi v1, xi v2, xi (mA μ 9 (v1).toNat)] [xi v1, xr (some m)] μ) : Mw Ω σ0 m M_Mdl_move R F 43 [xr (some m), xi v1, xi v2, xu] [] μ := by
  intro σ hM
  obtain ⟨hS, hk, e⟩ := id hM
  subst e
  refine b_Mdl_move_43 ?_
  refine ⟨hS.2.1, ?_⟩
  refine ⟨_, hS.r9, ?_⟩
  refine ⟨hS.k9, ?_⟩
  obtain ⟨o, h⟩ := h
  refine ⟨o, ?_⟩
  obtain ⟨o, h⟩ := h
  refine ⟨hS.b9 o, ?_⟩
  refine fun _ => ?_
  exact h _ hM
theorem B_move_55 {Ω : Om} {σ0 : Sto} {m : Nat} {R : Room} {F : QF} {μ : Mu} {v1 : Int} {v2 : Int} {v3 : Int} (h : Mw Ω σ0 m M_Mdl_move R F 58 [xr (some m), xi v1, xi v2, xi v3] [xi v3, xi v2, xr (some m)] μ) : Mw Ω σ0 m M_Mdl_move R F 55 [xr (some m), xi v1, xi v2, xi v3] [] μ := by
  intro σ hM
  obtain ⟨hS, hk, e⟩ := id hM
  subst e
  refine b_Mdl_move_55 ?_
  exact h _ hM
theorem B_move_25 {Ω : Om} {σ0 : Sto} {m : Nat} {R : Room} {F : QF} {μ : Mu} {v1 : Int} {v2 : Int} {s1 : Int} (h : Q32 s1 ∧ ((s1 = (0 : Int) → Mw Ω σ0 m M_Mdl_move R F 33 [xr (some m), xi v1, xi v2, xu] [xi 2, xr (some m)] μ) ∧ (¬ s1 = (0 : Int) → Mw Ω σ0 m M_Mdl_move R F 33 [xr (some m), xi v1, xi v2, xu] [xi 0, xr (some m)] μ))) : Mw Ω σ0 m M_Mdl_move R F 25 [xr (some m), xi v1, xi v2, xu] [xi s1, xr (some m)] μ := by
  intro σ hM
  obtain ⟨hS, hk, e⟩ := id hM
  subst e
  refine b_Mdl_move_25 ?_
  obtain ⟨o, h⟩ := h
  refine ⟨o, ?_⟩
  refine ⟨fun c => ?_, fun c => ?_⟩
  · have h := h.1 c
    exact h _ hM
  · have h := h.2 c
    exact h _ hM
theorem C_move_3 {Ω : Om} {σ0 : Sto} {m : Nat} {F : QF} {L st : List PV} {μ : Mu} {Q : Int → Mu → Prop} {x0 : Int} (hc : MMi Ω m M_Mdl_isPlace rm_Mdl_isPlace Q μ [xi x0]) (kk : ∀ y μ', Q y μ' → Mw Ω σ0 m M_Mdl_move rm_Mdl_move F 6 L (xi y :: st) μ') (hst : (st.map catP).sum ≤ 8 := by exact Nat.le_of_ble_eq_true rfl) : Mw Ω σ0 m M_Mdl_move rm_Mdl_move F 3 L (xi x0 :: xr (some m) :: st) μ :=
  fun σ hM => c_Mdl_move_3 (hc σ0 σ hM) hM.1.2.1 (by decide) (by decide) (by decide) (by decide) hst (fun y σ' hq => by obtain ⟨μ', h1, h2⟩ := hq; exact kk y μ' h2 σ' h1) (fun _ _ h => h.elim)
theorem C_move_11 {Ω : Om} {σ0 : Sto} {m : Nat} {F : QF} {L st : List PV} {μ : Mu} {Q : Int → Mu → Prop} {x0 : Int} (hc : MMi Ω m M_Mdl_isPlace rm_Mdl_isPlace Q μ [xi x0]) (kk : ∀ y μ', Q y μ' → Mw Ω σ0 m M_Mdl_move rm_Mdl_move F 14 L (xi y :: st) μ') (hst : (st.map catP).sum ≤ 8 := by exact Nat.le_of_ble_eq_true rfl) : Mw Ω σ0 m M_Mdl_move rm_Mdl_move F 11 L (xi x0 :: xr (some m) :: st) μ :=
  fun σ hM => c_Mdl_move_11 (hc σ0 σ hM) hM.1.2.1 (by decide) (by decide) (by decide) (by decide) hst (fun y σ' hq => by obtain ⟨μ', h1, h2⟩ := hq; exact kk y μ' h2 σ' h1) (fun _ _ h => h.elim)
theorem C_move_22 {Ω : Om} {σ0 : Sto} {m : Nat} {F : QF} {L st : List PV} {μ : Mu} {Q : Int → Mu → Prop}  (hc : MMi Ω m M_Mdl_isSettled rm_Mdl_isSettled Q μ []) (kk : ∀ y μ', Q y μ' → Mw Ω σ0 m M_Mdl_move rm_Mdl_move F 25 L (xi y :: st) μ') (hst : (st.map catP).sum ≤ 8 := by exact Nat.le_of_ble_eq_true rfl) : Mw Ω σ0 m M_Mdl_move rm_Mdl_move F 22 L (xr (some m) :: st) μ :=
  fun σ hM => c_Mdl_move_22 (hc σ0 σ hM) hM.1.2.1 (by decide) (by decide) (by decide) (by decide) hst (fun y σ' hq => by obtain ⟨μ', h1, h2⟩ := hq; exact kk y μ' h2 σ' h1) (fun _ _ h => h.elim)
theorem C_move_33 {Ω : Om} {σ0 : Sto} {m : Nat} {F : QF} {L st : List PV} {μ : Mu} {Q : Int → Mu → Prop} {x0 : Int} (hc : MMi Ω m M_Mdl_refused rm_Mdl_refused Q μ [xi x0]) (kk : ∀ y μ', Q y μ' → Mw Ω σ0 m M_Mdl_move rm_Mdl_move F 36 L (xi y :: st) μ') (hst : (st.map catP).sum ≤ 8 := by exact Nat.le_of_ble_eq_true rfl) : Mw Ω σ0 m M_Mdl_move rm_Mdl_move F 33 L (xi x0 :: xr (some m) :: st) μ :=
  fun σ hM => c_Mdl_move_33 (hc σ0 σ hM) hM.1.2.1 (by decide) (by decide) (by decide) (by decide) hst (fun y σ' hq => by obtain ⟨μ', h1, h2⟩ := hq; exact kk y μ' h2 σ' h1) (fun _ _ h => h.elim)
theorem C_move_40 {Ω : Om} {σ0 : Sto} {m : Nat} {F : QF} {L st : List PV} {μ : Mu} {Q : Mu → Prop}  (hc : MMv Ω m M_Mdl_remember rm_Mdl_remember Q μ []) (kk : ∀ μ', Q μ' → Mw Ω σ0 m M_Mdl_move rm_Mdl_move F 43 L st μ') (hst : (st.map catP).sum ≤ 8 := by exact Nat.le_of_ble_eq_true rfl) : Mw Ω σ0 m M_Mdl_move rm_Mdl_move F 40 L (xr (some m) :: st) μ :=
  fun σ hM => c_Mdl_move_40 (hc σ0 σ hM) hM.1.2.1 (by decide) (by decide) (by decide) (by decide) hst (fun σ' hq => by obtain ⟨μ', h1, h2⟩ := hq; exact kk μ' h2 σ' h1) (fun _ _ h => h.elim)
theorem C_move_52 {Ω : Om} {σ0 : Sto} {m : Nat} {F : QF} {L st : List PV} {μ : Mu} {Q : Mu → Prop} {x0 : Int} (hc : MMv Ω m M_Mdl_takeAt rm_Mdl_takeAt Q μ [xi x0]) (kk : ∀ μ', Q μ' → Mw Ω σ0 m M_Mdl_move rm_Mdl_move F 55 L st μ') (hst : (st.map catP).sum ≤ 8 := by exact Nat.le_of_ble_eq_true rfl) : Mw Ω σ0 m M_Mdl_move rm_Mdl_move F 52 L (xi x0 :: xr (some m) :: st) μ :=
  fun σ hM => c_Mdl_move_52 (hc σ0 σ hM) hM.1.2.1 (by decide) (by decide) (by decide) (by decide) hst (fun σ' hq => by obtain ⟨μ', h1, h2⟩ := hq; exact kk μ' h2 σ' h1) (fun _ _ h => h.elim)
theorem C_move_58 {Ω : Om} {σ0 : Sto} {m : Nat} {F : QF} {L st : List PV} {μ : Mu} {Q : Mu → Prop} {x0 : Int} {x1 : Int} (hc : MMv Ω m M_Mdl_putAt rm_Mdl_putAt Q μ [xi x0, xi x1]) (kk : ∀ μ', Q μ' → Mw Ω σ0 m M_Mdl_move rm_Mdl_move F 61 L st μ') (hst : (st.map catP).sum ≤ 8 := by exact Nat.le_of_ble_eq_true rfl) : Mw Ω σ0 m M_Mdl_move rm_Mdl_move F 58 L (xi x1 :: xi x0 :: xr (some m) :: st) μ :=
  fun σ hM => c_Mdl_move_58 (hc σ0 σ hM) hM.1.2.1 (by decide) (by decide) (by decide) (by decide) hst (fun σ' hq => by obtain ⟨μ', h1, h2⟩ := hq; exact kk μ' h2 σ' h1) (fun _ _ h => h.elim)
theorem R_move_61 {Ω : Om} {σ0 : Sto} {m : Nat} {L : List PV} {μ : Mu} {Q : Mu → Prop} (h : Q μ) : Mw Ω σ0 m M_Mdl_move rm_Mdl_move (MQv Ω σ0 m rm_Mdl_move Q) 61 L [] μ := fun σ hM => r_Mdl_move_61 ⟨rfl, μ, hM, h⟩ (by decide) (by decide)
theorem E_move {Ω : Om} {m : Nat} {μ : Mu} {Q : Mu → Prop} {v1 : Int} {v2 : Int} (h : ∀ σ0, Mw Ω σ0 m M_Mdl_move rm_Mdl_move (MQv Ω σ0 m rm_Mdl_move Q) 0 [xr (some m), xi v1, xi v2, xu] [] μ) : MMv Ω m M_Mdl_move rm_Mdl_move Q μ [xi v1, xi v2] := fun σ0 σ hM => e_Mdl_move (h σ0 σ hM)
theorem B_baseOf_0 {Ω : Om} {σ0 : Sto} {m : Nat} {R : Room} {F : QF} {μ : Mu} {v1 : Int} {v2 : Int} (h : Mw Ω σ0 m M_Mdl_baseOf R F 2 [xr (some m), xi v1, xi v2, xu, xu, xu, xu] [xi v1, xr (some m)] μ) : Mw Ω σ0 m M_Mdl_baseOf R F 0 [xr (some m), xi v1, xi v2, xu, xu, xu, xu] [] μ := by
  intro σ hM
  obtain ⟨hS, hk, e⟩ := id hM
  subst e
  refine b_Mdl_baseOf_0 ?_
  exact h _ hM
theorem B_baseOf_5 {Ω : Om} {σ0 : Sto} {m : Nat} {R : Room} {F : QF} {μ : Mu} {v1 : Int} {v2 : Int} {s0 : Int64} (h : Mw Ω σ0 m M_Mdl_baseOf R F 7 [xr (some m), xi v1, xi v2, xu, xu, xu, xu] [xi v2, xr (some m), xl s0] μ) : Mw Ω σ0 m M_Mdl_baseOf R F 5 [xr (some m), xi v1, xi v2, xu, xu, xu, xu] [xl s0] μ := by
  intro σ hM
  obtain ⟨hS, hk, e⟩ := id hM
  subst e
  refine b_Mdl_baseOf_5 ?_
  exact h _ hM
theorem B_baseOf_10 {Ω : Om} {σ0 : Sto} {m : Nat} {R : Room} {F : QF} {μ : Mu} {v1 : Int} {v2 : Int} {s0 : Int64} {s1 : Int64} (h : Mw Ω σ0 m M_Mdl_baseOf R F 18 [xr (some m), xi v1, xi v2, xl (s0 &&& s1), xu, xi 0, xi 0] [] μ) : Mw Ω σ0 m M_Mdl_baseOf R F 10 [xr (some m), xi v1, xi v2, xu, xu, xu, xu] [xl s1, xl s0] μ := by
  intro σ hM
  obtain ⟨hS, hk, e⟩ := id hM
  subst e
  refine b_Mdl_baseOf_10 ?_
  exact h _ hM
theorem B_baseOf_18 {Ω : Om} {σ0 : Sto} {m : Nat} {R : Room} {F : QF} {μ : Mu} {v1 : Int} {v2 : Int} {v3 : Int64} {v5 : Int} {v6 : Int} (h : Q32 v6 ∧ (((mI μ 5) ≤ v6 → Mw Ω σ0 m M_Mdl_baseOf R F 55 [xr (some m), xi v1, xi v2, xl v3, xu, xi v5, xi v6] [xi v5] μ) ∧ (¬ (mI μ 5) ≤ v6 → Q32 (cmpL ((lShr v3 v6) &&& 1) 1) ∧ ((¬ (cmpL ((lShr v3 v6) &&& 1) 1) = (0 : Int) → Mw Ω σ0 m M_Mdl_baseOf R F 18 [xr (some m), xi v1, xi v2, xl v3, xu, xi v5, xi (v6 + 1)] [] μ) ∧ ((cmpL ((lShr v3 v6) &&& 1) 1) = (0 : Int) → Mw Ω σ0 m M_Mdl_baseOf R F 18 [xr (some m), xi v1, xi v2, xl v3, xu, xi v6, xi (v6 + 1)] [] μ))))) : Mw Ω σ0 m M_Mdl_baseOf R F 18 [xr (some m), xi v1, xi v2, xl v3, xu, xi v5, xi v6] [] μ := by
  intro σ hM
  obtain ⟨hS, hk, e⟩ := id hM
  subst e
  refine b_Mdl_baseOf_18 ?_
  refine ⟨hS.2.1, ?_⟩
  refine fun _ => ?_
  obtain ⟨o, h⟩ := h
  refine ⟨o, ?_⟩
  refine ⟨fun c => ?_, fun c => ?_⟩
  · have h := h.1 c
    exact h _ hM
  · have h := h.2 c
    obtain ⟨o, h⟩ := h
    refine ⟨o, ?_⟩
    refine ⟨fun c => ?_, fun c => ?_⟩
    · have h := h.1 c
      exact h _ hM
    · have h := h.2 c
      exact h _ hM
theorem C_baseOf_2 {Ω : Om} {σ0 : Sto} {m : Nat} {F : QF} {L st : List PV} {μ : Mu} {Q : Int64 → Mu → Prop} {x0 : Int} (hc : MMl Ω m M_Mdl_family rm_Mdl_family Q μ [xi x0]) (kk : ∀ y μ', Q y μ' → Mw Ω σ0 m M_Mdl_baseOf rm_Mdl_baseOf F 5 L (xl y :: st) μ') (hst : (st.map catP).sum ≤ 8 := by exact Nat.le_of_ble_eq_true rfl) : Mw Ω σ0 m M_Mdl_baseOf rm_Mdl_baseOf F 2 L (xi x0 :: xr (some m) :: st) μ :=
  fun σ hM => c_Mdl_baseOf_2 (hc σ0 σ hM) hM.1.2.1 (by decide) (by decide) (by decide) (by decide) hst (fun y σ' hq => by obtain ⟨μ', h1, h2⟩ := hq; exact kk y μ' h2 σ' h1) (fun _ _ h => h.elim)
theorem C_baseOf_7 {Ω : Om} {σ0 : Sto} {m : Nat} {F : QF} {L st : List PV} {μ : Mu} {Q : Int64 → Mu → Prop} {x0 : Int} (hc : MMl Ω m M_Mdl_family rm_Mdl_family Q μ [xi x0]) (kk : ∀ y μ', Q y μ' → Mw Ω σ0 m M_Mdl_baseOf rm_Mdl_baseOf F 10 L (xl y :: st) μ') (hst : (st.map catP).sum ≤ 8 := by exact Nat.le_of_ble_eq_true rfl) : Mw Ω σ0 m M_Mdl_baseOf rm_Mdl_baseOf F 7 L (xi x0 :: xr (some m) :: st) μ :=
  fun σ hM => c_Mdl_baseOf_7 (hc σ0 σ hM) hM.1.2.1 (by decide) (by decide) (by decide) (by decide) hst (fun y σ' hq => by obtain ⟨μ', h1, h2⟩ := hq; exact kk y μ' h2 σ' h1) (fun _ _ h => h.elim)
theorem R_baseOf_55 {Ω : Om} {σ0 : Sto} {m : Nat} {L : List PV} {μ : Mu} {Q : Int → Mu → Prop} {x : Int} (h : Q x μ) : Mw Ω σ0 m M_Mdl_baseOf rm_Mdl_baseOf (MQi Ω σ0 m rm_Mdl_baseOf Q) 55 L [xi x] μ := fun σ hM => r_Mdl_baseOf_55 ⟨_, rfl, μ, hM, h⟩ (by decide) (by decide)
theorem E_baseOf {Ω : Om} {m : Nat} {μ : Mu} {Q : Int → Mu → Prop} {v1 : Int} {v2 : Int} (h : ∀ σ0, Mw Ω σ0 m M_Mdl_baseOf rm_Mdl_baseOf (MQi Ω σ0 m rm_Mdl_baseOf Q) 0 [xr (some m), xi v1, xi v2, xu, xu, xu, xu] [] μ) : MMi Ω m M_Mdl_baseOf rm_Mdl_baseOf Q μ [xi v1, xi v2] := fun σ0 σ hM => e_Mdl_baseOf (h σ0 σ hM)
theorem B_id_0 {Ω : Om} {σ0 : Sto} {m : Nat} {R : Room} {F : QF} {μ : Mu} {v1 : Int64} {v3 : Int} {v4 : Int} (h : 0 ≤ (mI μ 1) ∧ (mI μ 1) < 16384 ∧ 0 ≤ (mI μ 1) ∧ (mI μ 1) < 16384 ∧ Q32 v3 ∧ 0 ≤ (mI μ 1) ∧ (mI μ 1) < 16384 ∧ Q32 v4 ∧ Q32 ((mI μ 1) + 1) ∧ Mw Ω σ0 m M_Mdl_id R F 41 [xr (some m), xl v1, xu, xi v3, xi v4] [] (wI (wA (wA (wG μ 1 (mI μ 1).toNat v1) 2 (mI μ 1).toNat v3) 3 (mI μ 1).toNat v4) 1 ((mI μ 1) + 1))) : Mw Ω σ0 m M_Mdl_id R F 0 [xr (some m), xl v1, xu, xi v3, xi v4] [] μ := by
  intro σ hM
  obtain ⟨hS, hk, e⟩ := id hM
  subst e
  refine b_Mdl_id_0 ?_
  refine ⟨hS.2.1, ?_⟩
  refine ⟨_, hS.r1, ?_⟩
  refine fun _ => ?_
  refine ⟨hS.k1, ?_⟩
  obtain ⟨o, h⟩ := h
  refine ⟨o, ?_⟩
  obtain ⟨o, h⟩ := h
  refine ⟨hS.b1 o, ?_⟩
  refine ⟨_, hS.r2, ?_⟩
  refine fun _ => ?_
  refine ⟨hS.k2, ?_⟩
  obtain ⟨o, h⟩ := h
  refine ⟨o, ?_⟩
  obtain ⟨o, h⟩ := h
  refine ⟨hS.b2 o, ?_⟩
  obtain ⟨o, h⟩ := h
  refine ⟨o, ?_⟩
  refine ⟨_, hS.r3, ?_⟩
  refine fun _ => ?_
  refine ⟨hS.k3, ?_⟩
  obtain ⟨o, h⟩ := h
  refine ⟨o, ?_⟩
  obtain ⟨o, h⟩ := h
  refine ⟨hS.b3 o, ?_⟩
  obtain ⟨o, h⟩ := h
  refine ⟨o, ?_⟩
  refine fun _ => ?_
  obtain ⟨o, h⟩ := h
  refine ⟨o, ?_⟩
  exact h _ (MR.uI (f := 1) (MR.vI (j := 3) (by decide) (MR.vI (j := 2) (by decide) (MR.vL (j := 1) (by decide) hM))))
theorem B_id_41 {Ω : Om} {σ0 : Sto} {m : Nat} {R : Room} {F : QF} {μ : Mu} {v1 : Int64} {v3 : Int} {v4 : Int} (h : Mw Ω σ0 m M_Mdl_id R F 47 [xr (some m), xl v1, xu, xi v3, xi v4] [xi ((mI μ 1) - 1)] μ) : Mw Ω σ0 m M_Mdl_id R F 41 [xr (some m), xl v1, xu, xi v3, xi v4] [] μ := by
  intro σ hM
  obtain ⟨hS, hk, e⟩ := id hM
  subst e
  refine b_Mdl_id_41 ?_
  refine ⟨hS.2.1, ?_⟩
  refine fun _ => ?_
  exact h _ hM
theorem R_id_47 {Ω : Om} {σ0 : Sto} {m : Nat} {L : List PV} {μ : Mu} {Q : Int → Mu → Prop} {x : Int} (h : Q x μ) : Mw Ω σ0 m M_Mdl_id rm_Mdl_id (MQi Ω σ0 m rm_Mdl_id Q) 47 L [xi x] μ := fun σ hM => r_Mdl_id_47 ⟨_, rfl, μ, hM, h⟩ (by decide) (by decide)
theorem E_id {Ω : Om} {m : Nat} {μ : Mu} {Q : Int → Mu → Prop} {v1 : Int64} {v3 : Int} {v4 : Int} (h : ∀ σ0, Mw Ω σ0 m M_Mdl_id rm_Mdl_id (MQi Ω σ0 m rm_Mdl_id Q) 0 [xr (some m), xl v1, xu, xi v3, xi v4] [] μ) : MMi Ω m M_Mdl_id rm_Mdl_id Q μ [xl v1, xi v3, xi v4] := fun σ0 σ hM => e_Mdl_id (h σ0 σ hM)
theorem B_lineOf_0 {Ω : Om} {σ0 : Sto} {m : Nat} {R : Room} {F : QF} {μ : Mu} {v1 : Int} {v2 : Int} (h : Mw Ω σ0 m M_Mdl_lineOf R F 4 [xr (some m), xi v1, xi v2] [xi v2, xi v1, xr (some m), xr (some m)] μ) : Mw Ω σ0 m M_Mdl_lineOf R F 0 [xr (some m), xi v1, xi v2] [] μ := by
  intro σ hM
  obtain ⟨hS, hk, e⟩ := id hM
  subst e
  refine b_Mdl_lineOf_0 ?_
  exact h _ hM
theorem B_lineOf_7 {Ω : Om} {σ0 : Sto} {m : Nat} {R : Room} {F : QF} {μ : Mu} {v1 : Int} {v2 : Int} {s1 : Int} (h : Q32 s1 ∧ ((s1 = (0 : Int) → Mw Ω σ0 m M_Mdl_lineOf R F 15 [xr (some m), xi v1, xi v2] [xi 1, xr (some m)] μ) ∧ (¬ s1 = (0 : Int) → Mw Ω σ0 m M_Mdl_lineOf R F 15 [xr (some m), xi v1, xi v2] [xi 0, xr (some m)] μ))) : Mw Ω σ0 m M_Mdl_lineOf R F 7 [xr (some m), xi v1, xi v2] [xi s1, xr (some m)] μ := by
  intro σ hM
  obtain ⟨hS, hk, e⟩ := id hM
  subst e
  refine b_Mdl_lineOf_7 ?_
  obtain ⟨o, h⟩ := h
  refine ⟨o, ?_⟩
  refine ⟨fun c => ?_, fun c => ?_⟩
  · have h := h.1 c
    exact h _ hM
  · have h := h.2 c
    exact h _ hM
theorem B_lineOf_18 {Ω : Om} {σ0 : Sto} {m : Nat} {R : Room} {F : QF} {μ : Mu} {v1 : Int} {v2 : Int} {s0 : Int} (h : Q32 s0 ∧ ((s0 = (0 : Int) → 0 ≤ ((20 * v1) + v2) ∧ ((20 * v1) + v2) < 800 ∧ 0 ≤ (mA μ 5 ((20 * v1) + v2).toNat) ∧ (mA μ 5 ((20 * v1) + v2).toNat) < 16384 ∧ Mw Ω σ0 m M_Mdl_lineOf R F 41 [xr (some m), xi v1, xi v2] [xl (mG μ 1 (mA μ 5 ((20 * v1) + v2).toNat).toNat)] μ) ∧ (¬ s0 = (0 : Int) → Mw Ω σ0 m M_Mdl_lineOf R F 41 [xr (some m), xi v1, xi v2] [xl 0] μ))) : Mw Ω σ0 m M_Mdl_lineOf R F 18 [xr (some m), xi v1, xi v2] [xi s0] μ := by
  intro σ hM
  obtain ⟨hS, hk, e⟩ := id hM
  subst e
  refine b_Mdl_lineOf_18 ?_
  obtain ⟨o, h⟩ := h
  refine ⟨o, ?_⟩
  refine ⟨fun c => ?_, fun c => ?_⟩
  · have h := h.1 c
    refine ⟨hS.2.1, ?_⟩
    refine ⟨_, hS.r1, ?_⟩
    refine ⟨_, hS.r5, ?_⟩
    refine ⟨hS.k5, ?_⟩
    obtain ⟨o, h⟩ := h
    refine ⟨o, ?_⟩
    obtain ⟨o, h⟩ := h
    refine ⟨hS.b5 o, ?_⟩
    refine fun _ => ?_
    refine ⟨hS.k1, ?_⟩
    obtain ⟨o, h⟩ := h
    refine ⟨o, ?_⟩
    obtain ⟨o, h⟩ := h
    refine ⟨hS.b1 o, ?_⟩
    exact h _ hM
  · have h := h.2 c
    exact h _ hM
theorem C_lineOf_4 {Ω : Om} {σ0 : Sto} {m : Nat} {F : QF} {L st : List PV} {μ : Mu} {Q : Int → Mu → Prop} {x0 : Int} {x1 : Int} (hc : MMi Ω m M_Mdl_isLineOf rm_Mdl_isLineOf Q μ [xi x0, xi x1]) (kk : ∀ y μ', Q y μ' → Mw Ω σ0 m M_Mdl_lineOf rm_Mdl_lineOf F 7 L (xi y :: st) μ') (hst : (st.map catP).sum ≤ 8 := by exact Nat.le_of_ble_eq_true rfl) : Mw Ω σ0 m M_Mdl_lineOf rm_Mdl_lineOf F 4 L (xi x1 :: xi x0 :: xr (some m) :: st) μ :=
  fun σ hM => c_Mdl_lineOf_4 (hc σ0 σ hM) hM.1.2.1 (by decide) (by decide) (by decide) (by decide) hst (fun y σ' hq => by obtain ⟨μ', h1, h2⟩ := hq; exact kk y μ' h2 σ' h1) (fun _ _ h => h.elim)
theorem C_lineOf_15 {Ω : Om} {σ0 : Sto} {m : Nat} {F : QF} {L st : List PV} {μ : Mu} {Q : Int → Mu → Prop} {x0 : Int} (hc : MMi Ω m M_Mdl_refused rm_Mdl_refused Q μ [xi x0]) (kk : ∀ y μ', Q y μ' → Mw Ω σ0 m M_Mdl_lineOf rm_Mdl_lineOf F 18 L (xi y :: st) μ') (hst : (st.map catP).sum ≤ 8 := by exact Nat.le_of_ble_eq_true rfl) : Mw Ω σ0 m M_Mdl_lineOf rm_Mdl_lineOf F 15 L (xi x0 :: xr (some m) :: st) μ :=
  fun σ hM => c_Mdl_lineOf_15 (hc σ0 σ hM) hM.1.2.1 (by decide) (by decide) (by decide) (by decide) hst (fun y σ' hq => by obtain ⟨μ', h1, h2⟩ := hq; exact kk y μ' h2 σ' h1) (fun _ _ h => h.elim)
theorem R_lineOf_41 {Ω : Om} {σ0 : Sto} {m : Nat} {L : List PV} {μ : Mu} {Q : Int64 → Mu → Prop} {x : Int64} (h : Q x μ) : Mw Ω σ0 m M_Mdl_lineOf rm_Mdl_lineOf (MQl Ω σ0 m rm_Mdl_lineOf Q) 41 L [xl x] μ := fun σ hM => r_Mdl_lineOf_41 ⟨_, rfl, μ, hM, h⟩ (by decide) (by decide)
theorem E_lineOf {Ω : Om} {m : Nat} {μ : Mu} {Q : Int64 → Mu → Prop} {v1 : Int} {v2 : Int} (h : ∀ σ0, Mw Ω σ0 m M_Mdl_lineOf rm_Mdl_lineOf (MQl Ω σ0 m rm_Mdl_lineOf Q) 0 [xr (some m), xi v1, xi v2] [] μ) : MMl Ω m M_Mdl_lineOf rm_Mdl_lineOf Q μ [xi v1, xi v2] := fun σ0 σ hM => e_Mdl_lineOf (h σ0 σ hM)
theorem B_likeness_0 {Ω : Om} {σ0 : Sto} {m : Nat} {R : Room} {F : QF} {μ : Mu} {v1 : Int64} {v3 : Int64} (h : Mw Ω σ0 m M_Mdl_likeness R F 2 [xr (some m), xl v1, xu, xl v3, xu] [xl v1, xr (some m)] μ) : Mw Ω σ0 m M_Mdl_likeness R F 0 [xr (some m), xl v1, xu, xl v3, xu] [] μ := by
  intro σ hM
  obtain ⟨hS, hk, e⟩ := id hM
  subst e
  refine b_Mdl_likeness_0 ?_
  exact h _ hM
theorem B_likeness_5 {Ω : Om} {σ0 : Sto} {m : Nat} {R : Room} {F : QF} {μ : Mu} {v1 : Int64} {v3 : Int64} {s1 : Int} (h : Q32 s1 ∧ ((s1 = (0 : Int) → Mw Ω σ0 m M_Mdl_likeness R F 20 [xr (some m), xl v1, xu, xl v3, xu] [xi 1, xr (some m)] μ) ∧ (¬ s1 = (0 : Int) → Mw Ω σ0 m M_Mdl_likeness R F 9 [xr (some m), xl v1, xu, xl v3, xu] [xl v3, xr (some m)] μ))) : Mw Ω σ0 m M_Mdl_likeness R F 5 [xr (some m), xl v1, xu, xl v3, xu] [xi s1, xr (some m)] μ := by
  intro σ hM
  obtain ⟨hS, hk, e⟩ := id hM
  subst e
  refine b_Mdl_likeness_5 ?_
  obtain ⟨o, h⟩ := h
  refine ⟨o, ?_⟩
  refine ⟨fun c => ?_, fun c => ?_⟩
  · have h := h.1 c
    exact h _ hM
  · have h := h.2 c
    exact h _ hM
theorem B_likeness_12 {Ω : Om} {σ0 : Sto} {m : Nat} {R : Room} {F : QF} {μ : Mu} {v1 : Int64} {v3 : Int64} {s1 : Int} (h : Q32 s1 ∧ ((s1 = (0 : Int) → Mw Ω σ0 m M_Mdl_likeness R F 20 [xr (some m), xl v1, xu, xl v3, xu] [xi 1, xr (some m)] μ) ∧ (¬ s1 = (0 : Int) → Mw Ω σ0 m M_Mdl_likeness R F 20 [xr (some m), xl v1, xu, xl v3, xu] [xi 0, xr (some m)] μ))) : Mw Ω σ0 m M_Mdl_likeness R F 12 [xr (some m), xl v1, xu, xl v3, xu] [xi s1, xr (some m)] μ := by
  intro σ hM
  obtain ⟨hS, hk, e⟩ := id hM
  subst e
  refine b_Mdl_likeness_12 ?_
  obtain ⟨o, h⟩ := h
  refine ⟨o, ?_⟩
  refine ⟨fun c => ?_, fun c => ?_⟩
  · have h := h.1 c
    exact h _ hM
  · have h := h.2 c
    exact h _ hM
theorem B_likeness_23 {Ω : Om} {σ0 : Sto} {m : Nat} {R : Room} {F : QF} {μ : Mu} {v1 : Int64} {v3 : Int64} {s0 : Int} (h : Q32 s0 ∧ ((s0 = (0 : Int) → Mw Ω σ0 m M_Mdl_likeness R F 33 [xr (some m), xl v1, xu, xl v3, xu] [xl v3, xl v1, xr (some m)] μ) ∧ (¬ s0 = (0 : Int) → Mw Ω σ0 m M_Mdl_likeness R F 36 [xr (some m), xl v1, xu, xl v3, xu] [xi 0] μ))) : Mw Ω σ0 m M_Mdl_likeness R F 23 [xr (some m), xl v1, xu, xl v3, xu] [xi s0] μ := by
  intro σ hM
  obtain ⟨hS, hk, e⟩ := id hM
  subst e
  refine b_Mdl_likeness_23 ?_
  obtain ⟨o, h⟩ := h
  refine ⟨o, ?_⟩
  refine ⟨fun c => ?_, fun c => ?_⟩
  · have h := h.1 c
    exact h _ hM
  · have h := h.2 c
    exact h _ hM
theorem C_likeness_2 {Ω : Om} {σ0 : Sto} {m : Nat} {F : QF} {L st : List PV} {μ : Mu} {P : Int → Prop} {x0 : Int64} (hc : MPi Ω M_Mdl_isLine rm_Mdl_isLine P [xl x0]) (kk : ∀ y , P y  → Mw Ω σ0 m M_Mdl_likeness rm_Mdl_likeness F 5 L (xi y :: st) μ) (hst : (st.map catP).sum ≤ 8 := by exact Nat.le_of_ble_eq_true rfl) : Mw Ω σ0 m M_Mdl_likeness rm_Mdl_likeness F 2 L (xl x0 :: st) μ :=
  fun σ hM => c_Mdl_likeness_2 (hc σ) (by decide) (by decide) (by decide) (by decide) hst (fun y σ' hq => by obtain ⟨rfl, h2⟩ := hq; exact kk y h2 σ' hM) (fun _ _ h => h.elim)
theorem C_likeness_9 {Ω : Om} {σ0 : Sto} {m : Nat} {F : QF} {L st : List PV} {μ : Mu} {P : Int → Prop} {x0 : Int64} (hc : MPi Ω M_Mdl_isLine rm_Mdl_isLine P [xl x0]) (kk : ∀ y , P y  → Mw Ω σ0 m M_Mdl_likeness rm_Mdl_likeness F 12 L (xi y :: st) μ) (hst : (st.map catP).sum ≤ 8 := by exact Nat.le_of_ble_eq_true rfl) : Mw Ω σ0 m M_Mdl_likeness rm_Mdl_likeness F 9 L (xl x0 :: st) μ :=
  fun σ hM => c_Mdl_likeness_9 (hc σ) (by decide) (by decide) (by decide) (by decide) hst (fun y σ' hq => by obtain ⟨rfl, h2⟩ := hq; exact kk y h2 σ' hM) (fun _ _ h => h.elim)
theorem C_likeness_20 {Ω : Om} {σ0 : Sto} {m : Nat} {F : QF} {L st : List PV} {μ : Mu} {Q : Int → Mu → Prop} {x0 : Int} (hc : MMi Ω m M_Mdl_refused rm_Mdl_refused Q μ [xi x0]) (kk : ∀ y μ', Q y μ' → Mw Ω σ0 m M_Mdl_likeness rm_Mdl_likeness F 23 L (xi y :: st) μ') (hst : (st.map catP).sum ≤ 8 := by exact Nat.le_of_ble_eq_true rfl) : Mw Ω σ0 m M_Mdl_likeness rm_Mdl_likeness F 20 L (xi x0 :: xr (some m) :: st) μ :=
  fun σ hM => c_Mdl_likeness_20 (hc σ0 σ hM) hM.1.2.1 (by decide) (by decide) (by decide) (by decide) hst (fun y σ' hq => by obtain ⟨μ', h1, h2⟩ := hq; exact kk y μ' h2 σ' h1) (fun _ _ h => h.elim)
theorem C_likeness_33 {Ω : Om} {σ0 : Sto} {m : Nat} {F : QF} {L st : List PV} {μ : Mu} {Q : Int → Mu → Prop} {x0 : Int64} {x1 : Int64} (hc : MMi Ω m M_Mdl_likenessOf rm_Mdl_likenessOf Q μ [xl x0, xl x1]) (kk : ∀ y μ', Q y μ' → Mw Ω σ0 m M_Mdl_likeness rm_Mdl_likeness F 36 L (xi y :: st) μ') (hst : (st.map catP).sum ≤ 8 := by exact Nat.le_of_ble_eq_true rfl) : Mw Ω σ0 m M_Mdl_likeness rm_Mdl_likeness F 33 L (xl x1 :: xl x0 :: xr (some m) :: st) μ :=
  fun σ hM => c_Mdl_likeness_33 (hc σ0 σ hM) hM.1.2.1 (by decide) (by decide) (by decide) (by decide) hst (fun y σ' hq => by obtain ⟨μ', h1, h2⟩ := hq; exact kk y μ' h2 σ' h1) (fun _ _ h => h.elim)
theorem R_likeness_36 {Ω : Om} {σ0 : Sto} {m : Nat} {L : List PV} {μ : Mu} {Q : Int → Mu → Prop} {x : Int} (h : Q x μ) : Mw Ω σ0 m M_Mdl_likeness rm_Mdl_likeness (MQi Ω σ0 m rm_Mdl_likeness Q) 36 L [xi x] μ := fun σ hM => r_Mdl_likeness_36 ⟨_, rfl, μ, hM, h⟩ (by decide) (by decide)
theorem E_likeness {Ω : Om} {m : Nat} {μ : Mu} {Q : Int → Mu → Prop} {v1 : Int64} {v3 : Int64} (h : ∀ σ0, Mw Ω σ0 m M_Mdl_likeness rm_Mdl_likeness (MQi Ω σ0 m rm_Mdl_likeness Q) 0 [xr (some m), xl v1, xu, xl v3, xu] [] μ) : MMi Ω m M_Mdl_likeness rm_Mdl_likeness Q μ [xl v1, xl v3] := fun σ0 σ hM => e_Mdl_likeness (h σ0 σ hM)
theorem B_movedTo_0 {Ω : Om} {σ0 : Sto} {m : Nat} {R : Room} {F : QF} {μ : Mu} {v1 : Int} (h : Mw Ω σ0 m M_Mdl_movedTo R F 3 [xr (some m), xi v1] [xi v1, xr (some m), xr (some m)] μ) : Mw Ω σ0 m M_Mdl_movedTo R F 0 [xr (some m), xi v1] [] μ := by
  intro σ hM
  obtain ⟨hS, hk, e⟩ := id hM
  subst e
  refine b_Mdl_movedTo_0 ?_
  exact h _ hM
theorem B_movedTo_6 {Ω : Om} {σ0 : Sto} {m : Nat} {R : Room} {F : QF} {μ : Mu} {v1 : Int} {s1 : Int} (h : Q32 s1 ∧ ((s1 = (0 : Int) → Mw Ω σ0 m M_Mdl_movedTo R F 14 [xr (some m), xi v1] [xi 1, xr (some m)] μ) ∧ (¬ s1 = (0 : Int) → Mw Ω σ0 m M_Mdl_movedTo R F 14 [xr (some m), xi v1] [xi 0, xr (some m)] μ))) : Mw Ω σ0 m M_Mdl_movedTo R F 6 [xr (some m), xi v1] [xi s1, xr (some m)] μ := by
  intro σ hM
  obtain ⟨hS, hk, e⟩ := id hM
  subst e
  refine b_Mdl_movedTo_6 ?_
  obtain ⟨o, h⟩ := h
  refine ⟨o, ?_⟩
  refine ⟨fun c => ?_, fun c => ?_⟩
  · have h := h.1 c
    exact h _ hM
  · have h := h.2 c
    exact h _ hM
theorem B_movedTo_17 {Ω : Om} {σ0 : Sto} {m : Nat} {R : Room} {F : QF} {μ : Mu} {v1 : Int} {s0 : Int} (h : Q32 s0 ∧ ((s0 = (0 : Int) → 0 ≤ v1 ∧ v1 < 20 ∧ Mw Ω σ0 m M_Mdl_movedTo R F 30 [xr (some m), xi v1] [xi (mA μ 16 (v1).toNat)] μ) ∧ (¬ s0 = (0 : Int) → Mw Ω σ0 m M_Mdl_movedTo R F 30 [xr (some m), xi v1] [xi 0] μ))) : Mw Ω σ0 m M_Mdl_movedTo R F 17 [xr (some m), xi v1] [xi s0] μ := by
  intro σ hM
  obtain ⟨hS, hk, e⟩ := id hM
  subst e
  refine b_Mdl_movedTo_17 ?_
  obtain ⟨o, h⟩ := h
  refine ⟨o, ?_⟩
  refine ⟨fun c => ?_, fun c => ?_⟩
  · have h := h.1 c
    refine ⟨hS.2.1, ?_⟩
    refine ⟨_, hS.r16, ?_⟩
    refine ⟨hS.k16, ?_⟩
    obtain ⟨o, h⟩ := h
    refine ⟨o, ?_⟩
    obtain ⟨o, h⟩ := h
    refine ⟨hS.b16 o, ?_⟩
    refine fun _ => ?_
    exact h _ hM
  · have h := h.2 c
    exact h _ hM
theorem C_movedTo_3 {Ω : Om} {σ0 : Sto} {m : Nat} {F : QF} {L st : List PV} {μ : Mu} {Q : Int → Mu → Prop} {x0 : Int} (hc : MMi Ω m M_Mdl_isCompared rm_Mdl_isCompared Q μ [xi x0]) (kk : ∀ y μ', Q y μ' → Mw Ω σ0 m M_Mdl_movedTo rm_Mdl_movedTo F 6 L (xi y :: st) μ') (hst : (st.map catP).sum ≤ 8 := by exact Nat.le_of_ble_eq_true rfl) : Mw Ω σ0 m M_Mdl_movedTo rm_Mdl_movedTo F 3 L (xi x0 :: xr (some m) :: st) μ :=
  fun σ hM => c_Mdl_movedTo_3 (hc σ0 σ hM) hM.1.2.1 (by decide) (by decide) (by decide) (by decide) hst (fun y σ' hq => by obtain ⟨μ', h1, h2⟩ := hq; exact kk y μ' h2 σ' h1) (fun _ _ h => h.elim)
theorem C_movedTo_14 {Ω : Om} {σ0 : Sto} {m : Nat} {F : QF} {L st : List PV} {μ : Mu} {Q : Int → Mu → Prop} {x0 : Int} (hc : MMi Ω m M_Mdl_refused rm_Mdl_refused Q μ [xi x0]) (kk : ∀ y μ', Q y μ' → Mw Ω σ0 m M_Mdl_movedTo rm_Mdl_movedTo F 17 L (xi y :: st) μ') (hst : (st.map catP).sum ≤ 8 := by exact Nat.le_of_ble_eq_true rfl) : Mw Ω σ0 m M_Mdl_movedTo rm_Mdl_movedTo F 14 L (xi x0 :: xr (some m) :: st) μ :=
  fun σ hM => c_Mdl_movedTo_14 (hc σ0 σ hM) hM.1.2.1 (by decide) (by decide) (by decide) (by decide) hst (fun y σ' hq => by obtain ⟨μ', h1, h2⟩ := hq; exact kk y μ' h2 σ' h1) (fun _ _ h => h.elim)
theorem R_movedTo_30 {Ω : Om} {σ0 : Sto} {m : Nat} {L : List PV} {μ : Mu} {Q : Int → Mu → Prop} {x : Int} (h : Q x μ) : Mw Ω σ0 m M_Mdl_movedTo rm_Mdl_movedTo (MQi Ω σ0 m rm_Mdl_movedTo Q) 30 L [xi x] μ := fun σ hM => r_Mdl_movedTo_30 ⟨_, rfl, μ, hM, h⟩ (by decide) (by decide)
theorem E_movedTo {Ω : Om} {m : Nat} {μ : Mu} {Q : Int → Mu → Prop} {v1 : Int} (h : ∀ σ0, Mw Ω σ0 m M_Mdl_movedTo rm_Mdl_movedTo (MQi Ω σ0 m rm_Mdl_movedTo Q) 0 [xr (some m), xi v1] [] μ) : MMi Ω m M_Mdl_movedTo rm_Mdl_movedTo Q μ [xi v1] := fun σ0 σ hM => e_Mdl_movedTo (h σ0 σ hM)
theorem B_isPlace_0 {Ω : Om} {σ0 : Sto} {m : Nat} {R : Room} {F : QF} {μ : Mu} {v1 : Int} (h : (((mI μ 11) = (0 : Int) → Mw Ω σ0 m M_Mdl_isPlace R F 26 [xr (some m), xi v1] [xi 0] μ) ∧ (¬ (mI μ 11) = (0 : Int) → Mw Ω σ0 m M_Mdl_isPlace R F 10 [xr (some m), xi v1] [xr (some m), xi 0, xi v1] μ))) : Mw Ω σ0 m M_Mdl_isPlace R F 0 [xr (some m), xi v1] [] μ := by
  intro σ hM
  obtain ⟨hS, hk, e⟩ := id hM
  subst e
  refine b_Mdl_isPlace_0 ?_
  refine ⟨hS.2.1, ?_⟩
  refine fun _ => ?_
  refine ⟨fun c => ?_, fun c => ?_⟩
  · have h := h.1 c
    exact h _ hM
  · have h := h.2 c
    exact h _ hM
theorem B_isPlace_13 {Ω : Om} {σ0 : Sto} {m : Nat} {R : Room} {F : QF} {μ : Mu} {v1 : Int} {s0 : Int} {s1 : Int} {s2 : Int} (h : Mw Ω σ0 m M_Mdl_isPlace R F 15 [xr (some m), xi v1] [xi (s2 - 1), xi s1, xi s0] μ) : Mw Ω σ0 m M_Mdl_isPlace R F 13 [xr (some m), xi v1] [xi s2, xi s1, xi s0] μ := by
  intro σ hM
  obtain ⟨hS, hk, e⟩ := id hM
  subst e
  refine b_Mdl_isPlace_13 ?_
  exact h _ hM
theorem B_isPlace_18 {Ω : Om} {σ0 : Sto} {m : Nat} {R : Room} {F : QF} {μ : Mu} {v1 : Int} {s0 : Int} (h : Q32 s0 ∧ ((s0 = (0 : Int) → Mw Ω σ0 m M_Mdl_isPlace R F 26 [xr (some m), xi v1] [xi 0] μ) ∧ (¬ s0 = (0 : Int) → Mw Ω σ0 m M_Mdl_isPlace R F 26 [xr (some m), xi v1] [xi 1] μ))) : Mw Ω σ0 m M_Mdl_isPlace R F 18 [xr (some m), xi v1] [xi s0] μ := by
  intro σ hM
  obtain ⟨hS, hk, e⟩ := id hM
  subst e
  refine b_Mdl_isPlace_18 ?_
  obtain ⟨o, h⟩ := h
  refine ⟨o, ?_⟩
  refine ⟨fun c => ?_, fun c => ?_⟩
  · have h := h.1 c
    exact h _ hM
  · have h := h.2 c
    exact h _ hM
theorem C_isPlace_10 {Ω : Om} {σ0 : Sto} {m : Nat} {F : QF} {L st : List PV} {μ : Mu} {Q : Int → Mu → Prop}  (hc : MMi Ω m M_Mdl_lineCount rm_Mdl_lineCount Q μ []) (kk : ∀ y μ', Q y μ' → Mw Ω σ0 m M_Mdl_isPlace rm_Mdl_isPlace F 13 L (xi y :: st) μ') (hst : (st.map catP).sum ≤ 8 := by exact Nat.le_of_ble_eq_true rfl) : Mw Ω σ0 m M_Mdl_isPlace rm_Mdl_isPlace F 10 L (xr (some m) :: st) μ :=
  fun σ hM => c_Mdl_isPlace_10 (hc σ0 σ hM) hM.1.2.1 (by decide) (by decide) (by decide) (by decide) hst (fun y σ' hq => by obtain ⟨μ', h1, h2⟩ := hq; exact kk y μ' h2 σ' h1) (fun _ _ h => h.elim)
theorem C_isPlace_15 {Ω : Om} {σ0 : Sto} {m : Nat} {F : QF} {L st : List PV} {μ : Mu} {P : Int → Prop} {x0 : Int} {x1 : Int} {x2 : Int} (hc : MPi Ω M_Mdl_in rm_Mdl_in P [xi x0, xi x1, xi x2]) (kk : ∀ y , P y  → Mw Ω σ0 m M_Mdl_isPlace rm_Mdl_isPlace F 18 L (xi y :: st) μ) (hst : (st.map catP).sum ≤ 8 := by exact Nat.le_of_ble_eq_true rfl) : Mw Ω σ0 m M_Mdl_isPlace rm_Mdl_isPlace F 15 L (xi x2 :: xi x1 :: xi x0 :: st) μ :=
  fun σ hM => c_Mdl_isPlace_15 (hc σ) (by decide) (by decide) (by decide) (by decide) hst (fun y σ' hq => by obtain ⟨rfl, h2⟩ := hq; exact kk y h2 σ' hM) (fun _ _ h => h.elim)
theorem R_isPlace_26 {Ω : Om} {σ0 : Sto} {m : Nat} {L : List PV} {μ : Mu} {Q : Int → Mu → Prop} {x : Int} (hx : x = 0 ∨ x = 1) (h : Q x μ) : Mw Ω σ0 m M_Mdl_isPlace rm_Mdl_isPlace (MQi Ω σ0 m rm_Mdl_isPlace Q) 26 L [xi x] μ := fun σ hM => r_Mdl_isPlace_26 hx ⟨_, rfl, μ, hM, h⟩ (by decide) (by decide)
theorem E_isPlace {Ω : Om} {m : Nat} {μ : Mu} {Q : Int → Mu → Prop} {v1 : Int} (h : ∀ σ0, Mw Ω σ0 m M_Mdl_isPlace rm_Mdl_isPlace (MQi Ω σ0 m rm_Mdl_isPlace Q) 0 [xr (some m), xi v1] [] μ) : MMi Ω m M_Mdl_isPlace rm_Mdl_isPlace Q μ [xi v1] := fun σ0 σ hM => e_Mdl_isPlace (h σ0 σ hM)
theorem B_isReview_0 {Ω : Om} {σ0 : Sto} {m : Nat} {R : Room} {F : QF} {μ : Mu} {v1 : Int} (h : Mw Ω σ0 m M_Mdl_isReview R F 8 [xr (some m), xi v1] [xi ((mI μ 38) - 1), xi 0, xi v1] μ) : Mw Ω σ0 m M_Mdl_isReview R F 0 [xr (some m), xi v1] [] μ := by
  intro σ hM
  obtain ⟨hS, hk, e⟩ := id hM
  subst e
  refine b_Mdl_isReview_0 ?_
  refine ⟨hS.2.1, ?_⟩
  refine fun _ => ?_
  exact h _ hM
theorem C_isReview_8 {Ω : Om} {σ0 : Sto} {m : Nat} {F : QF} {L st : List PV} {μ : Mu} {P : Int → Prop} {x0 : Int} {x1 : Int} {x2 : Int} (hc : MPi Ω M_Mdl_in rm_Mdl_in P [xi x0, xi x1, xi x2]) (kk : ∀ y , P y  → Mw Ω σ0 m M_Mdl_isReview rm_Mdl_isReview F 11 L (xi y :: st) μ) (hst : (st.map catP).sum ≤ 8 := by exact Nat.le_of_ble_eq_true rfl) : Mw Ω σ0 m M_Mdl_isReview rm_Mdl_isReview F 8 L (xi x2 :: xi x1 :: xi x0 :: st) μ :=
  fun σ hM => c_Mdl_isReview_8 (hc σ) (by decide) (by decide) (by decide) (by decide) hst (fun y σ' hq => by obtain ⟨rfl, h2⟩ := hq; exact kk y h2 σ' hM) (fun _ _ h => h.elim)
theorem R_isReview_11 {Ω : Om} {σ0 : Sto} {m : Nat} {L : List PV} {μ : Mu} {Q : Int → Mu → Prop} {x : Int} (hx : x = 0 ∨ x = 1) (h : Q x μ) : Mw Ω σ0 m M_Mdl_isReview rm_Mdl_isReview (MQi Ω σ0 m rm_Mdl_isReview Q) 11 L [xi x] μ := fun σ hM => r_Mdl_isReview_11 hx ⟨_, rfl, μ, hM, h⟩ (by decide) (by decide)
theorem E_isReview {Ω : Om} {m : Nat} {μ : Mu} {Q : Int → Mu → Prop} {v1 : Int} (h : ∀ σ0, Mw Ω σ0 m M_Mdl_isReview rm_Mdl_isReview (MQi Ω σ0 m rm_Mdl_isReview Q) 0 [xr (some m), xi v1] [] μ) : MMi Ω m M_Mdl_isReview rm_Mdl_isReview Q μ [xi v1] := fun σ0 σ hM => e_Mdl_isReview (h σ0 σ hM)
theorem B_thrown_0 {Ω : Om} {σ0 : Sto} {m : Nat} {R : Room} {F : QF} {μ : Mu}  (h : Mw Ω σ0 m M_Mdl_thrown R F 4 [xr (some m)] [xi (mI μ 0)] μ) : Mw Ω σ0 m M_Mdl_thrown R F 0 [xr (some m)] [] μ := by
  intro σ hM
  obtain ⟨hS, hk, e⟩ := id hM
  subst e
  refine b_Mdl_thrown_0 ?_
  refine ⟨hS.2.1, ?_⟩
  refine fun _ => ?_
  exact h _ hM
theorem R_thrown_4 {Ω : Om} {σ0 : Sto} {m : Nat} {L : List PV} {μ : Mu} {Q : Int → Mu → Prop} {x : Int} (h : Q x μ) : Mw Ω σ0 m M_Mdl_thrown rm_Mdl_thrown (MQi Ω σ0 m rm_Mdl_thrown Q) 4 L [xi x] μ := fun σ hM => r_Mdl_thrown_4 ⟨_, rfl, μ, hM, h⟩ (by decide) (by decide)
theorem E_thrown {Ω : Om} {m : Nat} {μ : Mu} {Q : Int → Mu → Prop}  (h : ∀ σ0, Mw Ω σ0 m M_Mdl_thrown rm_Mdl_thrown (MQi Ω σ0 m rm_Mdl_thrown Q) 0 [xr (some m)] [] μ) : MMi Ω m M_Mdl_thrown rm_Mdl_thrown Q μ [] := fun σ0 σ hM => e_Mdl_thrown (h σ0 σ hM)
