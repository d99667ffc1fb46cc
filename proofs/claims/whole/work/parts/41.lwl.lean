/-! walk of the law (by program) -/
theorem b_Law_law_0 {Ω : Om} {R : Room} {F : QF} {k n : Nat} {σ : Sto}  (h : k + 1 ≤ R.cells ∧ n + 17 ≤ R.slots ∧ (∀ σ3 : Sto, σ3 = (nO σ 1 0) → Aw Ω M_Law_law R F (k + 1) (n + 17) 4 [xr (some (oB Ω)), xu, xu, xu, xu, xu, xu, xu] [xr (some (sN σ)), xr (some (sN σ))] σ3)) : Aw Ω M_Law_law R F k n 0 [xr (some (oB Ω)), xu, xu, xu, xu, xu, xu, xu] [] σ := by
  obtain ⟨o1, o2, h⟩ := h
  refine Aw.new 0 (by decide) cl_Law_8 ins_0 ini_0 o1 o2 d_Law_law_0 ?_
  obtain ⟨σ3, hσ3⟩ : ∃ z, z = (nO σ 1 0) := ⟨_, rfl⟩
  refine Aw.toS (σ' := σ3) hσ3 ?_
  have h := h σ3 hσ3
  refine Aw.dup rfl d_Law_law_3 ?_
  exact h
theorem b_Law_law_7 {Ω : Om} {R : Room} {F : QF} {k n : Nat} {σ : Sto} {s0 : Nat} (h : k + 1 ≤ R.cells ∧ n + 54 ≤ R.slots ∧ (∀ σ3 : Sto, σ3 = (nO σ 13 0) → Aw Ω M_Law_law R F (k + 1) (n + 54) 12 [xr (some (oB Ω)), xr (some s0), xu, xu, xu, xu, xu, xu] [xr (some (sN σ)), xr (some (sN σ))] σ3)) : Aw Ω M_Law_law R F k n 7 [xr (some (oB Ω)), xu, xu, xu, xu, xu, xu, xu] [xr (some s0)] σ := by
  refine Aw.astore_n (by decide) d_Law_law_7 ?_
  refine Aw.toL (L' := [xr (some (oB Ω)), xr (some s0), xu, xu, xu, xu, xu, xu]) rfl ?_
  obtain ⟨o1, o2, h⟩ := h
  refine Aw.new 12 (by decide) cl_Law_129 ins_12 ini_12 o1 o2 d_Law_law_8 ?_
  obtain ⟨σ3, hσ3⟩ : ∃ z, z = (nO σ 13 0) := ⟨_, rfl⟩
  refine Aw.toS (σ' := σ3) hσ3 ?_
  have h := h σ3 hσ3
  refine Aw.dup rfl d_Law_law_11 ?_
  exact h
theorem b_Law_law_15 {Ω : Om} {R : Room} {F : QF} {k n : Nat} {σ : Sto} {a1 : Nat} {s0 : Nat} (h : k + 1 ≤ R.cells ∧ n + 1 ≤ R.slots ∧ (∀ σ5 : Sto, σ5 = (nO σ 51 1) → Aw Ω M_Law_law R F (k + 1) (n + 1) 23 [xr (some (oB Ω)), xr (some a1), xr (some s0), xr (some (sN σ)), xi 0, xu, xu, xu] [] σ5)) : Aw Ω M_Law_law R F k n 15 [xr (some (oB Ω)), xr (some a1), xu, xu, xu, xu, xu, xu] [xr (some s0)] σ := by
  refine Aw.astore_n (by decide) d_Law_law_15 ?_
  refine Aw.toL (L' := [xr (some (oB Ω)), xr (some a1), xr (some s0), xu, xu, xu, xu, xu]) rfl ?_
  refine Aw.iconst d_Law_law_16 ?_
  obtain ⟨o3, o4, h⟩ := h
  refine Aw.newarr 1 (by decide) rfl arc_1 (by decide) (by decide) o3 o4 d_Law_law_17 ?_
  obtain ⟨σ5, hσ5⟩ : ∃ z, z = (nO σ 51 1) := ⟨_, rfl⟩
  refine Aw.toS (σ' := σ5) hσ5 ?_
  have h := h σ5 hσ5
  refine Aw.astore_n (by decide) d_Law_law_19 ?_
  refine Aw.toL (L' := [xr (some (oB Ω)), xr (some a1), xr (some s0), xr (some (sN σ)), xu, xu, xu, xu]) rfl ?_
  refine Aw.iconst d_Law_law_20 ?_
  refine Aw.istore (by decide) d_Law_law_21 ?_
  refine Aw.toL (L' := [xr (some (oB Ω)), xr (some a1), xr (some s0), xr (some (sN σ)), xi 0, xu, xu, xu]) rfl ?_
  exact h
theorem b_Law_law_23 {Ω : Om} {R : Room} {F : QF} {k n : Nat} {σ : Sto} {a1 : Nat} {a2 : Nat} {a3 : Nat} {v4 : Int} (h : Q32 v4 ∧ Q32 ((oN Ω : Int) - 5) ∧ ((((oN Ω : Int) - 5) < v4 → Aw Ω M_Law_law R F k n 2618 [xr (some (oB Ω)), xr (some a1), xr (some a2), xr (some a3), xi v4, xu, xu, xu] [xi 1] σ) ∧ (¬ ((oN Ω : Int) - 5) < v4 → 0 ≤ v4 ∧ v4 < oN Ω ∧ oN Ω < 2147483648 ∧ Aw Ω M_Law_law R F k n 39 [xr (some (oB Ω)), xr (some a1), xr (some a2), xr (some a3), xi v4, xu, xu, xu] [xi (bAnd ((oX Ω (v4).toNat).toInt) 63)] σ))) : Aw Ω M_Law_law R F k n 23 [xr (some (oB Ω)), xr (some a1), xr (some a2), xr (some a3), xi v4, xu, xu, xu] [] σ := by
  refine Aw.iload rfl d_Law_law_23 ?_
  refine Aw.aload_n rfl d_Law_law_25 ?_
  refine Aw.slen d_Law_law_26 ?_
  refine Aw.iconst d_Law_law_27 ?_
  refine Aw.isub d_Law_law_28 ?_
  obtain ⟨o1, h⟩ := h
  obtain ⟨o2, h⟩ := h
  obtain ⟨ht, hf⟩ := h
  refine Aw.icmp_gt (tgt := 2617) o1 o2 (by decide) d_Law_law_29 (fun c6 => ?_) (fun c6 => ?_)
  · have h := ht c6
    refine Aw.iconst d_Law_law_2617 ?_
    exact h
  · have h := hf c6
    refine Aw.aload_n rfl d_Law_law_32 ?_
    refine Aw.iload rfl d_Law_law_33 ?_
    obtain ⟨o3, o4, h⟩ := h
    obtain ⟨o5, h⟩ := h
    refine Aw.sld o3 o4 o5 d_Law_law_35 ?_
    refine Aw.bipush (by decide) d_Law_law_36 ?_
    refine Aw.iand d_Law_law_38 ?_
    exact h
theorem b_Law_law_2555 {Ω : Om} {R : Room} {F : QF} {k n : Nat} {σ : Sto} {a1 : Nat} {a2 : Nat} {a3 : Nat} {v4 : Int} (h : 0 ≤ (v4 + 1) ∧ (v4 + 1) < oN Ω ∧ oN Ω < 2147483648 ∧ Aw Ω M_Law_law R F k n 2563 [xr (some (oB Ω)), xr (some a1), xr (some a2), xr (some a3), xi v4, xu, xu, xu] [xr (some a3), xi ((oX Ω (v4 + 1).toNat).toInt), xr (some a1)] σ) : Aw Ω M_Law_law R F k n 2555 [xr (some (oB Ω)), xr (some a1), xr (some a2), xr (some a3), xi v4, xu, xu, xu] [] σ := by
  refine Aw.aload_n rfl d_Law_law_2555 ?_
  refine Aw.aload_n rfl d_Law_law_2556 ?_
  refine Aw.iload rfl d_Law_law_2557 ?_
  refine Aw.iconst d_Law_law_2559 ?_
  refine Aw.iadd d_Law_law_2560 ?_
  obtain ⟨o1, o2, h⟩ := h
  obtain ⟨o3, h⟩ := h
  refine Aw.sld o1 o2 o3 d_Law_law_2561 ?_
  refine Aw.aload_n rfl d_Law_law_2562 ?_
  exact h
theorem b_Law_law_2566 {Ω : Om} {R : Room} {F : QF} {k n : Nat} {σ : Sto} {a1 : Nat} {a2 : Nat} {a3 : Nat} {v4 : Int} {s0 : Int} (h : 0 ≤ (v4 + 1) ∧ (v4 + 1) < oN Ω ∧ oN Ω < 2147483648 ∧ Aw Ω M_Law_law R F k n 2575 [xr (some (oB Ω)), xr (some a1), xr (some a2), xr (some a3), xi v4, xi s0, xu, xu] [xi ((oX Ω (v4 + 1).toNat).toInt), xr (some a2)] σ) : Aw Ω M_Law_law R F k n 2566 [xr (some (oB Ω)), xr (some a1), xr (some a2), xr (some a3), xi v4, xu, xu, xu] [xi s0] σ := by
  refine Aw.istore (by decide) d_Law_law_2566 ?_
  refine Aw.toL (L' := [xr (some (oB Ω)), xr (some a1), xr (some a2), xr (some a3), xi v4, xi s0, xu, xu]) rfl ?_
  refine Aw.aload_n rfl d_Law_law_2568 ?_
  refine Aw.aload_n rfl d_Law_law_2569 ?_
  refine Aw.iload rfl d_Law_law_2570 ?_
  refine Aw.iconst d_Law_law_2572 ?_
  refine Aw.iadd d_Law_law_2573 ?_
  obtain ⟨o1, o2, h⟩ := h
  obtain ⟨o3, h⟩ := h
  refine Aw.sld o1 o2 o3 d_Law_law_2574 ?_
  exact h
theorem b_Law_law_2578 {Ω : Om} {R : Room} {F : QF} {k n : Nat} {σ : Sto} {a1 : Nat} {a2 : Nat} {a3 : Nat} {v4 : Int} {v5 : Int} {s0 : Int} (h : Aw Ω M_Law_law R F k n 2581 [xr (some (oB Ω)), xr (some a1), xr (some a2), xr (some a3), xi v4, xi v5, xi s0, xu] [xr (some a2)] σ) : Aw Ω M_Law_law R F k n 2578 [xr (some (oB Ω)), xr (some a1), xr (some a2), xr (some a3), xi v4, xi v5, xu, xu] [xi s0] σ := by
  refine Aw.istore (by decide) d_Law_law_2578 ?_
  refine Aw.toL (L' := [xr (some (oB Ω)), xr (some a1), xr (some a2), xr (some a3), xi v4, xi v5, xi s0, xu]) rfl ?_
  refine Aw.aload_n rfl d_Law_law_2580 ?_
  exact h
theorem b_Law_law_2584 {Ω : Om} {R : Room} {F : QF} {k n : Nat} {σ : Sto} {a1 : Nat} {a2 : Nat} {a3 : Nat} {v4 : Int} {v5 : Int} {v6 : Int} {s0 : Int} (h : Q32 s0 ∧ Q32 v5 ∧ ((s0 = v5 → ((¬ v5 = (0 : Int) → Aw Ω M_Law_law R F k n 23 [xr (some (oB Ω)), xr (some a1), xr (some a2), xr (some a3), xi (v4 + 5), xu, xu, xu] [] σ) ∧ (v5 = (0 : Int) → sK σ a3 = 51 ∧ 0 ≤ (0 : Int) ∧ (0 : Int) < sZ σ a3 ∧ Q32 (cmpL (aL σ a3 0) (lOf v6)) ∧ (((cmpL (aL σ a3 0) (lOf v6)) = (0 : Int) → Aw Ω M_Law_law R F k n 23 [xr (some (oB Ω)), xr (some a1), xr (some a2), xr (some a3), xi (v4 + 5), xu, xu, xu] [] σ) ∧ (¬ (cmpL (aL σ a3 0) (lOf v6)) = (0 : Int) → Aw Ω M_Law_law R F k n 2607 [xr (some (oB Ω)), xr (some a1), xr (some a2), xr (some a3), xi v4, xi v5, xi v6, xu] [xi 0] σ))))) ∧ (¬ s0 = v5 → Aw Ω M_Law_law R F k n 2590 [xr (some (oB Ω)), xr (some a1), xr (some a2), xr (some a3), xi v4, xi v5, xi v6, xu] [xi 0] σ))) : Aw Ω M_Law_law R F k n 2584 [xr (some (oB Ω)), xr (some a1), xr (some a2), xr (some a3), xi v4, xi v5, xi v6, xu] [xi s0] σ := by
  refine Aw.iload rfl d_Law_law_2584 ?_
  obtain ⟨o1, h⟩ := h
  obtain ⟨o2, h⟩ := h
  obtain ⟨ht, hf⟩ := h
  refine Aw.icmp_eq (tgt := 2591) o1 o2 (by decide) d_Law_law_2586 (fun c9 => ?_) (fun c9 => ?_)
  · have h := ht c9
    refine Aw.iload rfl d_Law_law_2591 ?_
    obtain ⟨ht, hf⟩ := h
    refine Aw.if_ne (tgt := 2608) o2 (by decide) d_Law_law_2593 (fun c8 => ?_) (fun c8 => ?_)
    · have h := ht c8
      refine Aw.goto (tgt := 2611) (by decide) d_Law_law_2608 ?_
      refine Aw.iinc rfl d_Law_law_2611 ?_
      refine Aw.toL (L' := [xr (some (oB Ω)), xr (some a1), xr (some a2), xr (some a3), xi (v4 + 5), xi v5, xi v6, xu]) rfl ?_
      refine Aw.goto (tgt := 23) (by decide) d_Law_law_2614 ?_
      exact Aw.toW (L' := [xr (some (oB Ω)), xr (some a1), xr (some a2), xr (some a3), xi (v4 + 5), xu, xu, xu]) ⟨Or.inr rfl, Or.inr rfl, Or.inr rfl, Or.inr rfl, Or.inr rfl, Or.inl rfl, Or.inl rfl, Or.inr rfl, trivial⟩ h
    · have h := hf c8
      refine Aw.aload_n rfl d_Law_law_2596 ?_
      refine Aw.iconst d_Law_law_2597 ?_
      obtain ⟨o3, h⟩ := h
      obtain ⟨o4, o5, h⟩ := h
      refine Aw.lald o3 o4 o5 d_Law_law_2598 ?_
      refine Aw.iload rfl d_Law_law_2599 ?_
      refine Aw.i2l d_Law_law_2601 ?_
      refine Aw.lcmp d_Law_law_2602 ?_
      obtain ⟨o6, h⟩ := h
      obtain ⟨ht, hf⟩ := h
      refine Aw.if_eq (tgt := 2608) o6 (by decide) d_Law_law_2603 (fun c7 => ?_) (fun c7 => ?_)
      · have h := ht c7
        refine Aw.goto (tgt := 2611) (by decide) d_Law_law_2608 ?_
        refine Aw.iinc rfl d_Law_law_2611 ?_
        refine Aw.toL (L' := [xr (some (oB Ω)), xr (some a1), xr (some a2), xr (some a3), xi (v4 + 5), xi v5, xi v6, xu]) rfl ?_
        refine Aw.goto (tgt := 23) (by decide) d_Law_law_2614 ?_
        exact Aw.toW (L' := [xr (some (oB Ω)), xr (some a1), xr (some a2), xr (some a3), xi (v4 + 5), xu, xu, xu]) ⟨Or.inr rfl, Or.inr rfl, Or.inr rfl, Or.inr rfl, Or.inr rfl, Or.inl rfl, Or.inl rfl, Or.inr rfl, trivial⟩ h
      · have h := hf c7
        refine Aw.iconst d_Law_law_2606 ?_
        exact h
  · have h := hf c9
    refine Aw.iconst d_Law_law_2589 ?_
    exact h
theorem b_Law_law_2499 {Ω : Om} {R : Room} {F : QF} {k n : Nat} {σ : Sto} {a1 : Nat} {a2 : Nat} {a3 : Nat} {v4 : Int} (h : 0 ≤ (v4 + 1) ∧ (v4 + 1) < oN Ω ∧ oN Ω < 2147483648 ∧ Aw Ω M_Law_law R F k n 2507 [xr (some (oB Ω)), xr (some a1), xr (some a2), xr (some a3), xi v4, xu, xu, xu] [xr (some a3), xi ((oX Ω (v4 + 1).toNat).toInt), xr (some a1)] σ) : Aw Ω M_Law_law R F k n 2499 [xr (some (oB Ω)), xr (some a1), xr (some a2), xr (some a3), xi v4, xu, xu, xu] [] σ := by
  refine Aw.aload_n rfl d_Law_law_2499 ?_
  refine Aw.aload_n rfl d_Law_law_2500 ?_
  refine Aw.iload rfl d_Law_law_2501 ?_
  refine Aw.iconst d_Law_law_2503 ?_
  refine Aw.iadd d_Law_law_2504 ?_
  obtain ⟨o1, o2, h⟩ := h
  obtain ⟨o3, h⟩ := h
  refine Aw.sld o1 o2 o3 d_Law_law_2505 ?_
  refine Aw.aload_n rfl d_Law_law_2506 ?_
  exact h
theorem b_Law_law_2510 {Ω : Om} {R : Room} {F : QF} {k n : Nat} {σ : Sto} {a1 : Nat} {a2 : Nat} {a3 : Nat} {v4 : Int} {s0 : Int} (h : 0 ≤ (v4 + 1) ∧ (v4 + 1) < oN Ω ∧ oN Ω < 2147483648 ∧ Aw Ω M_Law_law R F k n 2519 [xr (some (oB Ω)), xr (some a1), xr (some a2), xr (some a3), xi v4, xi s0, xu, xu] [xi ((oX Ω (v4 + 1).toNat).toInt), xr (some a2)] σ) : Aw Ω M_Law_law R F k n 2510 [xr (some (oB Ω)), xr (some a1), xr (some a2), xr (some a3), xi v4, xu, xu, xu] [xi s0] σ := by
  refine Aw.istore (by decide) d_Law_law_2510 ?_
  refine Aw.toL (L' := [xr (some (oB Ω)), xr (some a1), xr (some a2), xr (some a3), xi v4, xi s0, xu, xu]) rfl ?_
  refine Aw.aload_n rfl d_Law_law_2512 ?_
  refine Aw.aload_n rfl d_Law_law_2513 ?_
  refine Aw.iload rfl d_Law_law_2514 ?_
  refine Aw.iconst d_Law_law_2516 ?_
  refine Aw.iadd d_Law_law_2517 ?_
  obtain ⟨o1, o2, h⟩ := h
  obtain ⟨o3, h⟩ := h
  refine Aw.sld o1 o2 o3 d_Law_law_2518 ?_
  exact h
theorem b_Law_law_2522 {Ω : Om} {R : Room} {F : QF} {k n : Nat} {σ : Sto} {a1 : Nat} {a2 : Nat} {a3 : Nat} {v4 : Int} {v5 : Int} {s0 : Int} (h : Aw Ω M_Law_law R F k n 2525 [xr (some (oB Ω)), xr (some a1), xr (some a2), xr (some a3), xi v4, xi v5, xi s0, xu] [xr (some a2)] σ) : Aw Ω M_Law_law R F k n 2522 [xr (some (oB Ω)), xr (some a1), xr (some a2), xr (some a3), xi v4, xi v5, xu, xu] [xi s0] σ := by
  refine Aw.istore (by decide) d_Law_law_2522 ?_
  refine Aw.toL (L' := [xr (some (oB Ω)), xr (some a1), xr (some a2), xr (some a3), xi v4, xi v5, xi s0, xu]) rfl ?_
  refine Aw.aload_n rfl d_Law_law_2524 ?_
  exact h
theorem b_Law_law_2528 {Ω : Om} {R : Room} {F : QF} {k n : Nat} {σ : Sto} {a1 : Nat} {a2 : Nat} {a3 : Nat} {v4 : Int} {v5 : Int} {v6 : Int} {s0 : Int} (h : Q32 s0 ∧ Q32 v5 ∧ ((s0 = v5 → ((¬ v5 = (0 : Int) → Aw Ω M_Law_law R F k n 23 [xr (some (oB Ω)), xr (some a1), xr (some a2), xr (some a3), xi (v4 + 5), xu, xu, xu] [] σ) ∧ (v5 = (0 : Int) → sK σ a3 = 51 ∧ 0 ≤ (0 : Int) ∧ (0 : Int) < sZ σ a3 ∧ Q32 (cmpL (aL σ a3 0) (lOf v6)) ∧ (((cmpL (aL σ a3 0) (lOf v6)) = (0 : Int) → Aw Ω M_Law_law R F k n 23 [xr (some (oB Ω)), xr (some a1), xr (some a2), xr (some a3), xi (v4 + 5), xu, xu, xu] [] σ) ∧ (¬ (cmpL (aL σ a3 0) (lOf v6)) = (0 : Int) → Aw Ω M_Law_law R F k n 2551 [xr (some (oB Ω)), xr (some a1), xr (some a2), xr (some a3), xi v4, xi v5, xi v6, xu] [xi 0] σ))))) ∧ (¬ s0 = v5 → Aw Ω M_Law_law R F k n 2534 [xr (some (oB Ω)), xr (some a1), xr (some a2), xr (some a3), xi v4, xi v5, xi v6, xu] [xi 0] σ))) : Aw Ω M_Law_law R F k n 2528 [xr (some (oB Ω)), xr (some a1), xr (some a2), xr (some a3), xi v4, xi v5, xi v6, xu] [xi s0] σ := by
  refine Aw.iload rfl d_Law_law_2528 ?_
  obtain ⟨o1, h⟩ := h
  obtain ⟨o2, h⟩ := h
  obtain ⟨ht, hf⟩ := h
  refine Aw.icmp_eq (tgt := 2535) o1 o2 (by decide) d_Law_law_2530 (fun c9 => ?_) (fun c9 => ?_)
  · have h := ht c9
    refine Aw.iload rfl d_Law_law_2535 ?_
    obtain ⟨ht, hf⟩ := h
    refine Aw.if_ne (tgt := 2552) o2 (by decide) d_Law_law_2537 (fun c8 => ?_) (fun c8 => ?_)
    · have h := ht c8
      refine Aw.goto (tgt := 2611) (by decide) d_Law_law_2552 ?_
      refine Aw.iinc rfl d_Law_law_2611 ?_
      refine Aw.toL (L' := [xr (some (oB Ω)), xr (some a1), xr (some a2), xr (some a3), xi (v4 + 5), xi v5, xi v6, xu]) rfl ?_
      refine Aw.goto (tgt := 23) (by decide) d_Law_law_2614 ?_
      exact Aw.toW (L' := [xr (some (oB Ω)), xr (some a1), xr (some a2), xr (some a3), xi (v4 + 5), xu, xu, xu]) ⟨Or.inr rfl, Or.inr rfl, Or.inr rfl, Or.inr rfl, Or.inr rfl, Or.inl rfl, Or.inl rfl, Or.inr rfl, trivial⟩ h
    · have h := hf c8
      refine Aw.aload_n rfl d_Law_law_2540 ?_
      refine Aw.iconst d_Law_law_2541 ?_
      obtain ⟨o3, h⟩ := h
      obtain ⟨o4, o5, h⟩ := h
      refine Aw.lald o3 o4 o5 d_Law_law_2542 ?_
      refine Aw.iload rfl d_Law_law_2543 ?_
      refine Aw.i2l d_Law_law_2545 ?_
      refine Aw.lcmp d_Law_law_2546 ?_
      obtain ⟨o6, h⟩ := h
      obtain ⟨ht, hf⟩ := h
      refine Aw.if_eq (tgt := 2552) o6 (by decide) d_Law_law_2547 (fun c7 => ?_) (fun c7 => ?_)
      · have h := ht c7
        refine Aw.goto (tgt := 2611) (by decide) d_Law_law_2552 ?_
        refine Aw.iinc rfl d_Law_law_2611 ?_
        refine Aw.toL (L' := [xr (some (oB Ω)), xr (some a1), xr (some a2), xr (some a3), xi (v4 + 5), xi v5, xi v6, xu]) rfl ?_
        refine Aw.goto (tgt := 23) (by decide) d_Law_law_2614 ?_
        exact Aw.toW (L' := [xr (some (oB Ω)), xr (some a1), xr (some a2), xr (some a3), xi (v4 + 5), xu, xu, xu]) ⟨Or.inr rfl, Or.inr rfl, Or.inr rfl, Or.inr rfl, Or.inr rfl, Or.inl rfl, Or.inl rfl, Or.inr rfl, trivial⟩ h
      · have h := hf c7
        refine Aw.iconst d_Law_law_2550 ?_
        exact h
  · have h := hf c9
    refine Aw.iconst d_Law_law_2533 ?_
    exact h
theorem b_Law_law_2431 {Ω : Om} {R : Room} {F : QF} {k n : Nat} {σ : Sto} {a1 : Nat} {a2 : Nat} {a3 : Nat} {v4 : Int} (h : 0 ≤ (v4 + 1) ∧ (v4 + 1) < oN Ω ∧ oN Ω < 2147483648 ∧ 0 ≤ (v4 + 2) ∧ (v4 + 2) < oN Ω ∧ oN Ω < 2147483648 ∧ Aw Ω M_Law_law R F k n 2445 [xr (some (oB Ω)), xr (some a1), xr (some a2), xr (some a3), xi v4, xu, xu, xu] [xr (some a3), xi ((oX Ω (v4 + 2).toNat).toInt), xi ((oX Ω (v4 + 1).toNat).toInt), xr (some a1)] σ) : Aw Ω M_Law_law R F k n 2431 [xr (some (oB Ω)), xr (some a1), xr (some a2), xr (some a3), xi v4, xu, xu, xu] [] σ := by
  refine Aw.aload_n rfl d_Law_law_2431 ?_
  refine Aw.aload_n rfl d_Law_law_2432 ?_
  refine Aw.iload rfl d_Law_law_2433 ?_
  refine Aw.iconst d_Law_law_2435 ?_
  refine Aw.iadd d_Law_law_2436 ?_
  obtain ⟨o1, o2, h⟩ := h
  obtain ⟨o3, h⟩ := h
  refine Aw.sld o1 o2 o3 d_Law_law_2437 ?_
  refine Aw.aload_n rfl d_Law_law_2438 ?_
  refine Aw.iload rfl d_Law_law_2439 ?_
  refine Aw.iconst d_Law_law_2441 ?_
  refine Aw.iadd d_Law_law_2442 ?_
  obtain ⟨o4, o5, h⟩ := h
  obtain ⟨o6, h⟩ := h
  refine Aw.sld o4 o5 o6 d_Law_law_2443 ?_
  refine Aw.aload_n rfl d_Law_law_2444 ?_
  exact h
theorem b_Law_law_2448 {Ω : Om} {R : Room} {F : QF} {k n : Nat} {σ : Sto} {a1 : Nat} {a2 : Nat} {a3 : Nat} {v4 : Int} {s0 : Int} (h : 0 ≤ (v4 + 1) ∧ (v4 + 1) < oN Ω ∧ oN Ω < 2147483648 ∧ 0 ≤ (v4 + 2) ∧ (v4 + 2) < oN Ω ∧ oN Ω < 2147483648 ∧ Aw Ω M_Law_law R F k n 2463 [xr (some (oB Ω)), xr (some a1), xr (some a2), xr (some a3), xi v4, xi s0, xu, xu] [xi ((oX Ω (v4 + 2).toNat).toInt), xi ((oX Ω (v4 + 1).toNat).toInt), xr (some a2)] σ) : Aw Ω M_Law_law R F k n 2448 [xr (some (oB Ω)), xr (some a1), xr (some a2), xr (some a3), xi v4, xu, xu, xu] [xi s0] σ := by
  refine Aw.istore (by decide) d_Law_law_2448 ?_
  refine Aw.toL (L' := [xr (some (oB Ω)), xr (some a1), xr (some a2), xr (some a3), xi v4, xi s0, xu, xu]) rfl ?_
  refine Aw.aload_n rfl d_Law_law_2450 ?_
  refine Aw.aload_n rfl d_Law_law_2451 ?_
  refine Aw.iload rfl d_Law_law_2452 ?_
  refine Aw.iconst d_Law_law_2454 ?_
  refine Aw.iadd d_Law_law_2455 ?_
  obtain ⟨o1, o2, h⟩ := h
  obtain ⟨o3, h⟩ := h
  refine Aw.sld o1 o2 o3 d_Law_law_2456 ?_
  refine Aw.aload_n rfl d_Law_law_2457 ?_
  refine Aw.iload rfl d_Law_law_2458 ?_
  refine Aw.iconst d_Law_law_2460 ?_
  refine Aw.iadd d_Law_law_2461 ?_
  obtain ⟨o4, o5, h⟩ := h
  obtain ⟨o6, h⟩ := h
  refine Aw.sld o4 o5 o6 d_Law_law_2462 ?_
  exact h
theorem b_Law_law_2466 {Ω : Om} {R : Room} {F : QF} {k n : Nat} {σ : Sto} {a1 : Nat} {a2 : Nat} {a3 : Nat} {v4 : Int} {v5 : Int} {s0 : Int} (h : Aw Ω M_Law_law R F k n 2469 [xr (some (oB Ω)), xr (some a1), xr (some a2), xr (some a3), xi v4, xi v5, xi s0, xu] [xr (some a2)] σ) : Aw Ω M_Law_law R F k n 2466 [xr (some (oB Ω)), xr (some a1), xr (some a2), xr (some a3), xi v4, xi v5, xu, xu] [xi s0] σ := by
  refine Aw.istore (by decide) d_Law_law_2466 ?_
  refine Aw.toL (L' := [xr (some (oB Ω)), xr (some a1), xr (some a2), xr (some a3), xi v4, xi v5, xi s0, xu]) rfl ?_
  refine Aw.aload_n rfl d_Law_law_2468 ?_
  exact h
theorem b_Law_law_2472 {Ω : Om} {R : Room} {F : QF} {k n : Nat} {σ : Sto} {a1 : Nat} {a2 : Nat} {a3 : Nat} {v4 : Int} {v5 : Int} {v6 : Int} {s0 : Int} (h : Q32 s0 ∧ Q32 v5 ∧ ((s0 = v5 → ((¬ v5 = (0 : Int) → Aw Ω M_Law_law R F k n 23 [xr (some (oB Ω)), xr (some a1), xr (some a2), xr (some a3), xi (v4 + 5), xu, xu, xu] [] σ) ∧ (v5 = (0 : Int) → sK σ a3 = 51 ∧ 0 ≤ (0 : Int) ∧ (0 : Int) < sZ σ a3 ∧ Q32 (cmpL (aL σ a3 0) (lOf v6)) ∧ (((cmpL (aL σ a3 0) (lOf v6)) = (0 : Int) → Aw Ω M_Law_law R F k n 23 [xr (some (oB Ω)), xr (some a1), xr (some a2), xr (some a3), xi (v4 + 5), xu, xu, xu] [] σ) ∧ (¬ (cmpL (aL σ a3 0) (lOf v6)) = (0 : Int) → Aw Ω M_Law_law R F k n 2495 [xr (some (oB Ω)), xr (some a1), xr (some a2), xr (some a3), xi v4, xi v5, xi v6, xu] [xi 0] σ))))) ∧ (¬ s0 = v5 → Aw Ω M_Law_law R F k n 2478 [xr (some (oB Ω)), xr (some a1), xr (some a2), xr (some a3), xi v4, xi v5, xi v6, xu] [xi 0] σ))) : Aw Ω M_Law_law R F k n 2472 [xr (some (oB Ω)), xr (some a1), xr (some a2), xr (some a3), xi v4, xi v5, xi v6, xu] [xi s0] σ := by
  refine Aw.iload rfl d_Law_law_2472 ?_
  obtain ⟨o1, h⟩ := h
  obtain ⟨o2, h⟩ := h
  obtain ⟨ht, hf⟩ := h
  refine Aw.icmp_eq (tgt := 2479) o1 o2 (by decide) d_Law_law_2474 (fun c9 => ?_) (fun c9 => ?_)
  · have h := ht c9
    refine Aw.iload rfl d_Law_law_2479 ?_
    obtain ⟨ht, hf⟩ := h
    refine Aw.if_ne (tgt := 2496) o2 (by decide) d_Law_law_2481 (fun c8 => ?_) (fun c8 => ?_)
    · have h := ht c8
      refine Aw.goto (tgt := 2611) (by decide) d_Law_law_2496 ?_
      refine Aw.iinc rfl d_Law_law_2611 ?_
      refine Aw.toL (L' := [xr (some (oB Ω)), xr (some a1), xr (some a2), xr (some a3), xi (v4 + 5), xi v5, xi v6, xu]) rfl ?_
      refine Aw.goto (tgt := 23) (by decide) d_Law_law_2614 ?_
      exact Aw.toW (L' := [xr (some (oB Ω)), xr (some a1), xr (some a2), xr (some a3), xi (v4 + 5), xu, xu, xu]) ⟨Or.inr rfl, Or.inr rfl, Or.inr rfl, Or.inr rfl, Or.inr rfl, Or.inl rfl, Or.inl rfl, Or.inr rfl, trivial⟩ h
    · have h := hf c8
      refine Aw.aload_n rfl d_Law_law_2484 ?_
      refine Aw.iconst d_Law_law_2485 ?_
      obtain ⟨o3, h⟩ := h
      obtain ⟨o4, o5, h⟩ := h
      refine Aw.lald o3 o4 o5 d_Law_law_2486 ?_
      refine Aw.iload rfl d_Law_law_2487 ?_
      refine Aw.i2l d_Law_law_2489 ?_
      refine Aw.lcmp d_Law_law_2490 ?_
      obtain ⟨o6, h⟩ := h
      obtain ⟨ht, hf⟩ := h
      refine Aw.if_eq (tgt := 2496) o6 (by decide) d_Law_law_2491 (fun c7 => ?_) (fun c7 => ?_)
      · have h := ht c7
        refine Aw.goto (tgt := 2611) (by decide) d_Law_law_2496 ?_
        refine Aw.iinc rfl d_Law_law_2611 ?_
        refine Aw.toL (L' := [xr (some (oB Ω)), xr (some a1), xr (some a2), xr (some a3), xi (v4 + 5), xi v5, xi v6, xu]) rfl ?_
        refine Aw.goto (tgt := 23) (by decide) d_Law_law_2614 ?_
        exact Aw.toW (L' := [xr (some (oB Ω)), xr (some a1), xr (some a2), xr (some a3), xi (v4 + 5), xu, xu, xu]) ⟨Or.inr rfl, Or.inr rfl, Or.inr rfl, Or.inr rfl, Or.inr rfl, Or.inl rfl, Or.inl rfl, Or.inr rfl, trivial⟩ h
      · have h := hf c7
        refine Aw.iconst d_Law_law_2494 ?_
        exact h
  · have h := hf c9
    refine Aw.iconst d_Law_law_2477 ?_
    exact h
theorem b_Law_law_2335 {Ω : Om} {R : Room} {F : QF} {k n : Nat} {σ : Sto} {a1 : Nat} {a2 : Nat} {a3 : Nat} {v4 : Int} (h : 0 ≤ (v4 + 1) ∧ (v4 + 1) < oN Ω ∧ oN Ω < 2147483648 ∧ 0 ≤ (v4 + 2) ∧ (v4 + 2) < oN Ω ∧ oN Ω < 2147483648 ∧ 0 ≤ (v4 + 3) ∧ (v4 + 3) < oN Ω ∧ oN Ω < 2147483648 ∧ Q32 ((oX Ω (v4 + 3).toNat).toInt) ∧ ((((oX Ω (v4 + 3).toNat).toInt) = (0 : Int) → Aw Ω M_Law_law R F k n 2363 [xr (some (oB Ω)), xr (some a1), xr (some a2), xr (some a3), xi v4, xu, xu, xu] [xr (some a3), xi 0, xi ((oX Ω (v4 + 2).toNat).toInt), xi ((oX Ω (v4 + 1).toNat).toInt), xr (some a1)] σ) ∧ (¬ ((oX Ω (v4 + 3).toNat).toInt) = (0 : Int) → Aw Ω M_Law_law R F k n 2363 [xr (some (oB Ω)), xr (some a1), xr (some a2), xr (some a3), xi v4, xu, xu, xu] [xr (some a3), xi 1, xi ((oX Ω (v4 + 2).toNat).toInt), xi ((oX Ω (v4 + 1).toNat).toInt), xr (some a1)] σ))) : Aw Ω M_Law_law R F k n 2335 [xr (some (oB Ω)), xr (some a1), xr (some a2), xr (some a3), xi v4, xu, xu, xu] [] σ := by
  refine Aw.aload_n rfl d_Law_law_2335 ?_
  refine Aw.aload_n rfl d_Law_law_2336 ?_
  refine Aw.iload rfl d_Law_law_2337 ?_
  refine Aw.iconst d_Law_law_2339 ?_
  refine Aw.iadd d_Law_law_2340 ?_
  obtain ⟨o1, o2, h⟩ := h
  obtain ⟨o3, h⟩ := h
  refine Aw.sld o1 o2 o3 d_Law_law_2341 ?_
  refine Aw.aload_n rfl d_Law_law_2342 ?_
  refine Aw.iload rfl d_Law_law_2343 ?_
  refine Aw.iconst d_Law_law_2345 ?_
  refine Aw.iadd d_Law_law_2346 ?_
  obtain ⟨o4, o5, h⟩ := h
  obtain ⟨o6, h⟩ := h
  refine Aw.sld o4 o5 o6 d_Law_law_2347 ?_
  refine Aw.aload_n rfl d_Law_law_2348 ?_
  refine Aw.iload rfl d_Law_law_2349 ?_
  refine Aw.iconst d_Law_law_2351 ?_
  refine Aw.iadd d_Law_law_2352 ?_
  obtain ⟨o7, o8, h⟩ := h
  obtain ⟨o9, h⟩ := h
  refine Aw.sld o7 o8 o9 d_Law_law_2353 ?_
  obtain ⟨o10, h⟩ := h
  obtain ⟨ht, hf⟩ := h
  refine Aw.if_eq (tgt := 2361) o10 (by decide) d_Law_law_2354 (fun c11 => ?_) (fun c11 => ?_)
  · have h := ht c11
    refine Aw.iconst d_Law_law_2361 ?_
    refine Aw.aload_n rfl d_Law_law_2362 ?_
    exact h
  · have h := hf c11
    refine Aw.iconst d_Law_law_2357 ?_
    refine Aw.goto (tgt := 2362) (by decide) d_Law_law_2358 ?_
    refine Aw.aload_n rfl d_Law_law_2362 ?_
    exact h
theorem b_Law_law_2366 {Ω : Om} {R : Room} {F : QF} {k n : Nat} {σ : Sto} {a1 : Nat} {a2 : Nat} {a3 : Nat} {v4 : Int} {s0 : Int} (h : 0 ≤ (v4 + 1) ∧ (v4 + 1) < oN Ω ∧ oN Ω < 2147483648 ∧ 0 ≤ (v4 + 2) ∧ (v4 + 2) < oN Ω ∧ oN Ω < 2147483648 ∧ 0 ≤ (v4 + 3) ∧ (v4 + 3) < oN Ω ∧ oN Ω < 2147483648 ∧ Q32 ((oX Ω (v4 + 3).toNat).toInt) ∧ ((((oX Ω (v4 + 3).toNat).toInt) = (0 : Int) → Aw Ω M_Law_law R F k n 2395 [xr (some (oB Ω)), xr (some a1), xr (some a2), xr (some a3), xi v4, xi s0, xu, xu] [xi 0, xi ((oX Ω (v4 + 2).toNat).toInt), xi ((oX Ω (v4 + 1).toNat).toInt), xr (some a2)] σ) ∧ (¬ ((oX Ω (v4 + 3).toNat).toInt) = (0 : Int) → Aw Ω M_Law_law R F k n 2395 [xr (some (oB Ω)), xr (some a1), xr (some a2), xr (some a3), xi v4, xi s0, xu, xu] [xi 1, xi ((oX Ω (v4 + 2).toNat).toInt), xi ((oX Ω (v4 + 1).toNat).toInt), xr (some a2)] σ))) : Aw Ω M_Law_law R F k n 2366 [xr (some (oB Ω)), xr (some a1), xr (some a2), xr (some a3), xi v4, xu, xu, xu] [xi s0] σ := by
  refine Aw.istore (by decide) d_Law_law_2366 ?_
  refine Aw.toL (L' := [xr (some (oB Ω)), xr (some a1), xr (some a2), xr (some a3), xi v4, xi s0, xu, xu]) rfl ?_
  refine Aw.aload_n rfl d_Law_law_2368 ?_
  refine Aw.aload_n rfl d_Law_law_2369 ?_
  refine Aw.iload rfl d_Law_law_2370 ?_
  refine Aw.iconst d_Law_law_2372 ?_
  refine Aw.iadd d_Law_law_2373 ?_
  obtain ⟨o1, o2, h⟩ := h
  obtain ⟨o3, h⟩ := h
  refine Aw.sld o1 o2 o3 d_Law_law_2374 ?_
  refine Aw.aload_n rfl d_Law_law_2375 ?_
  refine Aw.iload rfl d_Law_law_2376 ?_
  refine Aw.iconst d_Law_law_2378 ?_
  refine Aw.iadd d_Law_law_2379 ?_
  obtain ⟨o4, o5, h⟩ := h
  obtain ⟨o6, h⟩ := h
  refine Aw.sld o4 o5 o6 d_Law_law_2380 ?_
  refine Aw.aload_n rfl d_Law_law_2381 ?_
  refine Aw.iload rfl d_Law_law_2382 ?_
  refine Aw.iconst d_Law_law_2384 ?_
  refine Aw.iadd d_Law_law_2385 ?_
  obtain ⟨o7, o8, h⟩ := h
  obtain ⟨o9, h⟩ := h
  refine Aw.sld o7 o8 o9 d_Law_law_2386 ?_
  obtain ⟨o10, h⟩ := h
  obtain ⟨ht, hf⟩ := h
  refine Aw.if_eq (tgt := 2394) o10 (by decide) d_Law_law_2387 (fun c11 => ?_) (fun c11 => ?_)
  · have h := ht c11
    refine Aw.iconst d_Law_law_2394 ?_
    exact h
  · have h := hf c11
    refine Aw.iconst d_Law_law_2390 ?_
    refine Aw.goto (tgt := 2395) (by decide) d_Law_law_2391 ?_
    exact h
theorem b_Law_law_2398 {Ω : Om} {R : Room} {F : QF} {k n : Nat} {σ : Sto} {a1 : Nat} {a2 : Nat} {a3 : Nat} {v4 : Int} {v5 : Int} {s0 : Int} (h : Aw Ω M_Law_law R F k n 2401 [xr (some (oB Ω)), xr (some a1), xr (some a2), xr (some a3), xi v4, xi v5, xi s0, xu] [xr (some a2)] σ) : Aw Ω M_Law_law R F k n 2398 [xr (some (oB Ω)), xr (some a1), xr (some a2), xr (some a3), xi v4, xi v5, xu, xu] [xi s0] σ := by
  refine Aw.istore (by decide) d_Law_law_2398 ?_
  refine Aw.toL (L' := [xr (some (oB Ω)), xr (some a1), xr (some a2), xr (some a3), xi v4, xi v5, xi s0, xu]) rfl ?_
  refine Aw.aload_n rfl d_Law_law_2400 ?_
  exact h
theorem b_Law_law_2404 {Ω : Om} {R : Room} {F : QF} {k n : Nat} {σ : Sto} {a1 : Nat} {a2 : Nat} {a3 : Nat} {v4 : Int} {v5 : Int} {v6 : Int} {s0 : Int} (h : Q32 s0 ∧ Q32 v5 ∧ ((s0 = v5 → ((¬ v5 = (0 : Int) → Aw Ω M_Law_law R F k n 23 [xr (some (oB Ω)), xr (some a1), xr (some a2), xr (some a3), xi (v4 + 5), xu, xu, xu] [] σ) ∧ (v5 = (0 : Int) → sK σ a3 = 51 ∧ 0 ≤ (0 : Int) ∧ (0 : Int) < sZ σ a3 ∧ Q32 (cmpL (aL σ a3 0) (lOf v6)) ∧ (((cmpL (aL σ a3 0) (lOf v6)) = (0 : Int) → Aw Ω M_Law_law R F k n 23 [xr (some (oB Ω)), xr (some a1), xr (some a2), xr (some a3), xi (v4 + 5), xu, xu, xu] [] σ) ∧ (¬ (cmpL (aL σ a3 0) (lOf v6)) = (0 : Int) → Aw Ω M_Law_law R F k n 2427 [xr (some (oB Ω)), xr (some a1), xr (some a2), xr (some a3), xi v4, xi v5, xi v6, xu] [xi 0] σ))))) ∧ (¬ s0 = v5 → Aw Ω M_Law_law R F k n 2410 [xr (some (oB Ω)), xr (some a1), xr (some a2), xr (some a3), xi v4, xi v5, xi v6, xu] [xi 0] σ))) : Aw Ω M_Law_law R F k n 2404 [xr (some (oB Ω)), xr (some a1), xr (some a2), xr (some a3), xi v4, xi v5, xi v6, xu] [xi s0] σ := by
  refine Aw.iload rfl d_Law_law_2404 ?_
  obtain ⟨o1, h⟩ := h
  obtain ⟨o2, h⟩ := h
  obtain ⟨ht, hf⟩ := h
  refine Aw.icmp_eq (tgt := 2411) o1 o2 (by decide) d_Law_law_2406 (fun c9 => ?_) (fun c9 => ?_)
  · have h := ht c9
    refine Aw.iload rfl d_Law_law_2411 ?_
    obtain ⟨ht, hf⟩ := h
    refine Aw.if_ne (tgt := 2428) o2 (by decide) d_Law_law_2413 (fun c8 => ?_) (fun c8 => ?_)
    · have h := ht c8
      refine Aw.goto (tgt := 2611) (by decide) d_Law_law_2428 ?_
      refine Aw.iinc rfl d_Law_law_2611 ?_
      refine Aw.toL (L' := [xr (some (oB Ω)), xr (some a1), xr (some a2), xr (some a3), xi (v4 + 5), xi v5, xi v6, xu]) rfl ?_
      refine Aw.goto (tgt := 23) (by decide) d_Law_law_2614 ?_
      exact Aw.toW (L' := [xr (some (oB Ω)), xr (some a1), xr (some a2), xr (some a3), xi (v4 + 5), xu, xu, xu]) ⟨Or.inr rfl, Or.inr rfl, Or.inr rfl, Or.inr rfl, Or.inr rfl, Or.inl rfl, Or.inl rfl, Or.inr rfl, trivial⟩ h
    · have h := hf c8
      refine Aw.aload_n rfl d_Law_law_2416 ?_
      refine Aw.iconst d_Law_law_2417 ?_
      obtain ⟨o3, h⟩ := h
      obtain ⟨o4, o5, h⟩ := h
      refine Aw.lald o3 o4 o5 d_Law_law_2418 ?_
      refine Aw.iload rfl d_Law_law_2419 ?_
      refine Aw.i2l d_Law_law_2421 ?_
      refine Aw.lcmp d_Law_law_2422 ?_
      obtain ⟨o6, h⟩ := h
      obtain ⟨ht, hf⟩ := h
      refine Aw.if_eq (tgt := 2428) o6 (by decide) d_Law_law_2423 (fun c7 => ?_) (fun c7 => ?_)
      · have h := ht c7
        refine Aw.goto (tgt := 2611) (by decide) d_Law_law_2428 ?_
        refine Aw.iinc rfl d_Law_law_2611 ?_
        refine Aw.toL (L' := [xr (some (oB Ω)), xr (some a1), xr (some a2), xr (some a3), xi (v4 + 5), xi v5, xi v6, xu]) rfl ?_
        refine Aw.goto (tgt := 23) (by decide) d_Law_law_2614 ?_
        exact Aw.toW (L' := [xr (some (oB Ω)), xr (some a1), xr (some a2), xr (some a3), xi (v4 + 5), xu, xu, xu]) ⟨Or.inr rfl, Or.inr rfl, Or.inr rfl, Or.inr rfl, Or.inr rfl, Or.inl rfl, Or.inl rfl, Or.inr rfl, trivial⟩ h
      · have h := hf c7
        refine Aw.iconst d_Law_law_2426 ?_
        exact h
  · have h := hf c9
    refine Aw.iconst d_Law_law_2409 ?_
    exact h
theorem b_Law_law_2267 {Ω : Om} {R : Room} {F : QF} {k n : Nat} {σ : Sto} {a1 : Nat} {a2 : Nat} {a3 : Nat} {v4 : Int} (h : 0 ≤ (v4 + 1) ∧ (v4 + 1) < oN Ω ∧ oN Ω < 2147483648 ∧ 0 ≤ (v4 + 2) ∧ (v4 + 2) < oN Ω ∧ oN Ω < 2147483648 ∧ Aw Ω M_Law_law R F k n 2281 [xr (some (oB Ω)), xr (some a1), xr (some a2), xr (some a3), xi v4, xu, xu, xu] [xr (some a3), xi ((oX Ω (v4 + 2).toNat).toInt), xi ((oX Ω (v4 + 1).toNat).toInt), xr (some a1)] σ) : Aw Ω M_Law_law R F k n 2267 [xr (some (oB Ω)), xr (some a1), xr (some a2), xr (some a3), xi v4, xu, xu, xu] [] σ := by
  refine Aw.aload_n rfl d_Law_law_2267 ?_
  refine Aw.aload_n rfl d_Law_law_2268 ?_
  refine Aw.iload rfl d_Law_law_2269 ?_
  refine Aw.iconst d_Law_law_2271 ?_
  refine Aw.iadd d_Law_law_2272 ?_
  obtain ⟨o1, o2, h⟩ := h
  obtain ⟨o3, h⟩ := h
  refine Aw.sld o1 o2 o3 d_Law_law_2273 ?_
  refine Aw.aload_n rfl d_Law_law_2274 ?_
  refine Aw.iload rfl d_Law_law_2275 ?_
  refine Aw.iconst d_Law_law_2277 ?_
  refine Aw.iadd d_Law_law_2278 ?_
  obtain ⟨o4, o5, h⟩ := h
  obtain ⟨o6, h⟩ := h
  refine Aw.sld o4 o5 o6 d_Law_law_2279 ?_
  refine Aw.aload_n rfl d_Law_law_2280 ?_
  exact h
theorem b_Law_law_2284 {Ω : Om} {R : Room} {F : QF} {k n : Nat} {σ : Sto} {a1 : Nat} {a2 : Nat} {a3 : Nat} {v4 : Int} {s0 : Int} (h : 0 ≤ (v4 + 1) ∧ (v4 + 1) < oN Ω ∧ oN Ω < 2147483648 ∧ 0 ≤ (v4 + 2) ∧ (v4 + 2) < oN Ω ∧ oN Ω < 2147483648 ∧ Aw Ω M_Law_law R F k n 2299 [xr (some (oB Ω)), xr (some a1), xr (some a2), xr (some a3), xi v4, xi s0, xu, xu] [xi ((oX Ω (v4 + 2).toNat).toInt), xi ((oX Ω (v4 + 1).toNat).toInt), xr (some a2)] σ) : Aw Ω M_Law_law R F k n 2284 [xr (some (oB Ω)), xr (some a1), xr (some a2), xr (some a3), xi v4, xu, xu, xu] [xi s0] σ := by
  refine Aw.istore (by decide) d_Law_law_2284 ?_
  refine Aw.toL (L' := [xr (some (oB Ω)), xr (some a1), xr (some a2), xr (some a3), xi v4, xi s0, xu, xu]) rfl ?_
  refine Aw.aload_n rfl d_Law_law_2286 ?_
  refine Aw.aload_n rfl d_Law_law_2287 ?_
  refine Aw.iload rfl d_Law_law_2288 ?_
  refine Aw.iconst d_Law_law_2290 ?_
  refine Aw.iadd d_Law_law_2291 ?_
  obtain ⟨o1, o2, h⟩ := h
  obtain ⟨o3, h⟩ := h
  refine Aw.sld o1 o2 o3 d_Law_law_2292 ?_
  refine Aw.aload_n rfl d_Law_law_2293 ?_
  refine Aw.iload rfl d_Law_law_2294 ?_
  refine Aw.iconst d_Law_law_2296 ?_
  refine Aw.iadd d_Law_law_2297 ?_
  obtain ⟨o4, o5, h⟩ := h
  obtain ⟨o6, h⟩ := h
  refine Aw.sld o4 o5 o6 d_Law_law_2298 ?_
  exact h
theorem b_Law_law_2302 {Ω : Om} {R : Room} {F : QF} {k n : Nat} {σ : Sto} {a1 : Nat} {a2 : Nat} {a3 : Nat} {v4 : Int} {v5 : Int} {s0 : Int} (h : Aw Ω M_Law_law R F k n 2305 [xr (some (oB Ω)), xr (some a1), xr (some a2), xr (some a3), xi v4, xi v5, xi s0, xu] [xr (some a2)] σ) : Aw Ω M_Law_law R F k n 2302 [xr (some (oB Ω)), xr (some a1), xr (some a2), xr (some a3), xi v4, xi v5, xu, xu] [xi s0] σ := by
  refine Aw.istore (by decide) d_Law_law_2302 ?_
  refine Aw.toL (L' := [xr (some (oB Ω)), xr (some a1), xr (some a2), xr (some a3), xi v4, xi v5, xi s0, xu]) rfl ?_
  refine Aw.aload_n rfl d_Law_law_2304 ?_
  exact h
theorem b_Law_law_2308 {Ω : Om} {R : Room} {F : QF} {k n : Nat} {σ : Sto} {a1 : Nat} {a2 : Nat} {a3 : Nat} {v4 : Int} {v5 : Int} {v6 : Int} {s0 : Int} (h : Q32 s0 ∧ Q32 v5 ∧ ((s0 = v5 → ((¬ v5 = (0 : Int) → Aw Ω M_Law_law R F k n 23 [xr (some (oB Ω)), xr (some a1), xr (some a2), xr (some a3), xi (v4 + 5), xu, xu, xu] [] σ) ∧ (v5 = (0 : Int) → sK σ a3 = 51 ∧ 0 ≤ (0 : Int) ∧ (0 : Int) < sZ σ a3 ∧ Q32 (cmpL (aL σ a3 0) (lOf v6)) ∧ (((cmpL (aL σ a3 0) (lOf v6)) = (0 : Int) → Aw Ω M_Law_law R F k n 23 [xr (some (oB Ω)), xr (some a1), xr (some a2), xr (some a3), xi (v4 + 5), xu, xu, xu] [] σ) ∧ (¬ (cmpL (aL σ a3 0) (lOf v6)) = (0 : Int) → Aw Ω M_Law_law R F k n 2331 [xr (some (oB Ω)), xr (some a1), xr (some a2), xr (some a3), xi v4, xi v5, xi v6, xu] [xi 0] σ))))) ∧ (¬ s0 = v5 → Aw Ω M_Law_law R F k n 2314 [xr (some (oB Ω)), xr (some a1), xr (some a2), xr (some a3), xi v4, xi v5, xi v6, xu] [xi 0] σ))) : Aw Ω M_Law_law R F k n 2308 [xr (some (oB Ω)), xr (some a1), xr (some a2), xr (some a3), xi v4, xi v5, xi v6, xu] [xi s0] σ := by
  refine Aw.iload rfl d_Law_law_2308 ?_
  obtain ⟨o1, h⟩ := h
  obtain ⟨o2, h⟩ := h
  obtain ⟨ht, hf⟩ := h
  refine Aw.icmp_eq (tgt := 2315) o1 o2 (by decide) d_Law_law_2310 (fun c9 => ?_) (fun c9 => ?_)
  · have h := ht c9
    refine Aw.iload rfl d_Law_law_2315 ?_
    obtain ⟨ht, hf⟩ := h
    refine Aw.if_ne (tgt := 2332) o2 (by decide) d_Law_law_2317 (fun c8 => ?_) (fun c8 => ?_)
    · have h := ht c8
      refine Aw.goto (tgt := 2611) (by decide) d_Law_law_2332 ?_
      refine Aw.iinc rfl d_Law_law_2611 ?_
      refine Aw.toL (L' := [xr (some (oB Ω)), xr (some a1), xr (some a2), xr (some a3), xi (v4 + 5), xi v5, xi v6, xu]) rfl ?_
      refine Aw.goto (tgt := 23) (by decide) d_Law_law_2614 ?_
      exact Aw.toW (L' := [xr (some (oB Ω)), xr (some a1), xr (some a2), xr (some a3), xi (v4 + 5), xu, xu, xu]) ⟨Or.inr rfl, Or.inr rfl, Or.inr rfl, Or.inr rfl, Or.inr rfl, Or.inl rfl, Or.inl rfl, Or.inr rfl, trivial⟩ h
    · have h := hf c8
      refine Aw.aload_n rfl d_Law_law_2320 ?_
      refine Aw.iconst d_Law_law_2321 ?_
      obtain ⟨o3, h⟩ := h
      obtain ⟨o4, o5, h⟩ := h
      refine Aw.lald o3 o4 o5 d_Law_law_2322 ?_
      refine Aw.iload rfl d_Law_law_2323 ?_
      refine Aw.i2l d_Law_law_2325 ?_
      refine Aw.lcmp d_Law_law_2326 ?_
      obtain ⟨o6, h⟩ := h
      obtain ⟨ht, hf⟩ := h
      refine Aw.if_eq (tgt := 2332) o6 (by decide) d_Law_law_2327 (fun c7 => ?_) (fun c7 => ?_)
      · have h := ht c7
        refine Aw.goto (tgt := 2611) (by decide) d_Law_law_2332 ?_
        refine Aw.iinc rfl d_Law_law_2611 ?_
        refine Aw.toL (L' := [xr (some (oB Ω)), xr (some a1), xr (some a2), xr (some a3), xi (v4 + 5), xi v5, xi v6, xu]) rfl ?_
        refine Aw.goto (tgt := 23) (by decide) d_Law_law_2614 ?_
        exact Aw.toW (L' := [xr (some (oB Ω)), xr (some a1), xr (some a2), xr (some a3), xi (v4 + 5), xu, xu, xu]) ⟨Or.inr rfl, Or.inr rfl, Or.inr rfl, Or.inr rfl, Or.inr rfl, Or.inl rfl, Or.inl rfl, Or.inr rfl, trivial⟩ h
      · have h := hf c7
        refine Aw.iconst d_Law_law_2330 ?_
        exact h
  · have h := hf c9
    refine Aw.iconst d_Law_law_2313 ?_
    exact h
theorem b_Law_law_2199 {Ω : Om} {R : Room} {F : QF} {k n : Nat} {σ : Sto} {a1 : Nat} {a2 : Nat} {a3 : Nat} {v4 : Int} (h : 0 ≤ (v4 + 1) ∧ (v4 + 1) < oN Ω ∧ oN Ω < 2147483648 ∧ 0 ≤ (v4 + 2) ∧ (v4 + 2) < oN Ω ∧ oN Ω < 2147483648 ∧ Aw Ω M_Law_law R F k n 2213 [xr (some (oB Ω)), xr (some a1), xr (some a2), xr (some a3), xi v4, xu, xu, xu] [xr (some a3), xi ((oX Ω (v4 + 2).toNat).toInt), xi ((oX Ω (v4 + 1).toNat).toInt), xr (some a1)] σ) : Aw Ω M_Law_law R F k n 2199 [xr (some (oB Ω)), xr (some a1), xr (some a2), xr (some a3), xi v4, xu, xu, xu] [] σ := by
  refine Aw.aload_n rfl d_Law_law_2199 ?_
  refine Aw.aload_n rfl d_Law_law_2200 ?_
  refine Aw.iload rfl d_Law_law_2201 ?_
  refine Aw.iconst d_Law_law_2203 ?_
  refine Aw.iadd d_Law_law_2204 ?_
  obtain ⟨o1, o2, h⟩ := h
  obtain ⟨o3, h⟩ := h
  refine Aw.sld o1 o2 o3 d_Law_law_2205 ?_
  refine Aw.aload_n rfl d_Law_law_2206 ?_
  refine Aw.iload rfl d_Law_law_2207 ?_
  refine Aw.iconst d_Law_law_2209 ?_
  refine Aw.iadd d_Law_law_2210 ?_
  obtain ⟨o4, o5, h⟩ := h
  obtain ⟨o6, h⟩ := h
  refine Aw.sld o4 o5 o6 d_Law_law_2211 ?_
  refine Aw.aload_n rfl d_Law_law_2212 ?_
  exact h
theorem b_Law_law_2216 {Ω : Om} {R : Room} {F : QF} {k n : Nat} {σ : Sto} {a1 : Nat} {a2 : Nat} {a3 : Nat} {v4 : Int} {s0 : Int} (h : 0 ≤ (v4 + 1) ∧ (v4 + 1) < oN Ω ∧ oN Ω < 2147483648 ∧ 0 ≤ (v4 + 2) ∧ (v4 + 2) < oN Ω ∧ oN Ω < 2147483648 ∧ Aw Ω M_Law_law R F k n 2231 [xr (some (oB Ω)), xr (some a1), xr (some a2), xr (some a3), xi v4, xi s0, xu, xu] [xi ((oX Ω (v4 + 2).toNat).toInt), xi ((oX Ω (v4 + 1).toNat).toInt), xr (some a2)] σ) : Aw Ω M_Law_law R F k n 2216 [xr (some (oB Ω)), xr (some a1), xr (some a2), xr (some a3), xi v4, xu, xu, xu] [xi s0] σ := by
  refine Aw.istore (by decide) d_Law_law_2216 ?_
  refine Aw.toL (L' := [xr (some (oB Ω)), xr (some a1), xr (some a2), xr (some a3), xi v4, xi s0, xu, xu]) rfl ?_
  refine Aw.aload_n rfl d_Law_law_2218 ?_
  refine Aw.aload_n rfl d_Law_law_2219 ?_
  refine Aw.iload rfl d_Law_law_2220 ?_
  refine Aw.iconst d_Law_law_2222 ?_
  refine Aw.iadd d_Law_law_2223 ?_
  obtain ⟨o1, o2, h⟩ := h
  obtain ⟨o3, h⟩ := h
  refine Aw.sld o1 o2 o3 d_Law_law_2224 ?_
  refine Aw.aload_n rfl d_Law_law_2225 ?_
  refine Aw.iload rfl d_Law_law_2226 ?_
  refine Aw.iconst d_Law_law_2228 ?_
  refine Aw.iadd d_Law_law_2229 ?_
  obtain ⟨o4, o5, h⟩ := h
  obtain ⟨o6, h⟩ := h
  refine Aw.sld o4 o5 o6 d_Law_law_2230 ?_
  exact h
theorem b_Law_law_2234 {Ω : Om} {R : Room} {F : QF} {k n : Nat} {σ : Sto} {a1 : Nat} {a2 : Nat} {a3 : Nat} {v4 : Int} {v5 : Int} {s0 : Int} (h : Aw Ω M_Law_law R F k n 2237 [xr (some (oB Ω)), xr (some a1), xr (some a2), xr (some a3), xi v4, xi v5, xi s0, xu] [xr (some a2)] σ) : Aw Ω M_Law_law R F k n 2234 [xr (some (oB Ω)), xr (some a1), xr (some a2), xr (some a3), xi v4, xi v5, xu, xu] [xi s0] σ := by
  refine Aw.istore (by decide) d_Law_law_2234 ?_
  refine Aw.toL (L' := [xr (some (oB Ω)), xr (some a1), xr (some a2), xr (some a3), xi v4, xi v5, xi s0, xu]) rfl ?_
  refine Aw.aload_n rfl d_Law_law_2236 ?_
  exact h
theorem b_Law_law_2240 {Ω : Om} {R : Room} {F : QF} {k n : Nat} {σ : Sto} {a1 : Nat} {a2 : Nat} {a3 : Nat} {v4 : Int} {v5 : Int} {v6 : Int} {s0 : Int} (h : Q32 s0 ∧ Q32 v5 ∧ ((s0 = v5 → ((¬ v5 = (0 : Int) → Aw Ω M_Law_law R F k n 23 [xr (some (oB Ω)), xr (some a1), xr (some a2), xr (some a3), xi (v4 + 5), xu, xu, xu] [] σ) ∧ (v5 = (0 : Int) → sK σ a3 = 51 ∧ 0 ≤ (0 : Int) ∧ (0 : Int) < sZ σ a3 ∧ Q32 (cmpL (aL σ a3 0) (lOf v6)) ∧ (((cmpL (aL σ a3 0) (lOf v6)) = (0 : Int) → Aw Ω M_Law_law R F k n 23 [xr (some (oB Ω)), xr (some a1), xr (some a2), xr (some a3), xi (v4 + 5), xu, xu, xu] [] σ) ∧ (¬ (cmpL (aL σ a3 0) (lOf v6)) = (0 : Int) → Aw Ω M_Law_law R F k n 2263 [xr (some (oB Ω)), xr (some a1), xr (some a2), xr (some a3), xi v4, xi v5, xi v6, xu] [xi 0] σ))))) ∧ (¬ s0 = v5 → Aw Ω M_Law_law R F k n 2246 [xr (some (oB Ω)), xr (some a1), xr (some a2), xr (some a3), xi v4, xi v5, xi v6, xu] [xi 0] σ))) : Aw Ω M_Law_law R F k n 2240 [xr (some (oB Ω)), xr (some a1), xr (some a2), xr (some a3), xi v4, xi v5, xi v6, xu] [xi s0] σ := by
  refine Aw.iload rfl d_Law_law_2240 ?_
  obtain ⟨o1, h⟩ := h
  obtain ⟨o2, h⟩ := h
  obtain ⟨ht, hf⟩ := h
  refine Aw.icmp_eq (tgt := 2247) o1 o2 (by decide) d_Law_law_2242 (fun c9 => ?_) (fun c9 => ?_)
  · have h := ht c9
    refine Aw.iload rfl d_Law_law_2247 ?_
    obtain ⟨ht, hf⟩ := h
    refine Aw.if_ne (tgt := 2264) o2 (by decide) d_Law_law_2249 (fun c8 => ?_) (fun c8 => ?_)
    · have h := ht c8
      refine Aw.goto (tgt := 2611) (by decide) d_Law_law_2264 ?_
      refine Aw.iinc rfl d_Law_law_2611 ?_
      refine Aw.toL (L' := [xr (some (oB Ω)), xr (some a1), xr (some a2), xr (some a3), xi (v4 + 5), xi v5, xi v6, xu]) rfl ?_
      refine Aw.goto (tgt := 23) (by decide) d_Law_law_2614 ?_
      exact Aw.toW (L' := [xr (some (oB Ω)), xr (some a1), xr (some a2), xr (some a3), xi (v4 + 5), xu, xu, xu]) ⟨Or.inr rfl, Or.inr rfl, Or.inr rfl, Or.inr rfl, Or.inr rfl, Or.inl rfl, Or.inl rfl, Or.inr rfl, trivial⟩ h
    · have h := hf c8
      refine Aw.aload_n rfl d_Law_law_2252 ?_
      refine Aw.iconst d_Law_law_2253 ?_
      obtain ⟨o3, h⟩ := h
      obtain ⟨o4, o5, h⟩ := h
      refine Aw.lald o3 o4 o5 d_Law_law_2254 ?_
      refine Aw.iload rfl d_Law_law_2255 ?_
      refine Aw.i2l d_Law_law_2257 ?_
      refine Aw.lcmp d_Law_law_2258 ?_
      obtain ⟨o6, h⟩ := h
      obtain ⟨ht, hf⟩ := h
      refine Aw.if_eq (tgt := 2264) o6 (by decide) d_Law_law_2259 (fun c7 => ?_) (fun c7 => ?_)
      · have h := ht c7
        refine Aw.goto (tgt := 2611) (by decide) d_Law_law_2264 ?_
        refine Aw.iinc rfl d_Law_law_2611 ?_
        refine Aw.toL (L' := [xr (some (oB Ω)), xr (some a1), xr (some a2), xr (some a3), xi (v4 + 5), xi v5, xi v6, xu]) rfl ?_
        refine Aw.goto (tgt := 23) (by decide) d_Law_law_2614 ?_
        exact Aw.toW (L' := [xr (some (oB Ω)), xr (some a1), xr (some a2), xr (some a3), xi (v4 + 5), xu, xu, xu]) ⟨Or.inr rfl, Or.inr rfl, Or.inr rfl, Or.inr rfl, Or.inr rfl, Or.inl rfl, Or.inl rfl, Or.inr rfl, trivial⟩ h
      · have h := hf c7
        refine Aw.iconst d_Law_law_2262 ?_
        exact h
  · have h := hf c9
    refine Aw.iconst d_Law_law_2245 ?_
    exact h
theorem b_Law_law_2131 {Ω : Om} {R : Room} {F : QF} {k n : Nat} {σ : Sto} {a1 : Nat} {a2 : Nat} {a3 : Nat} {v4 : Int} (h : 0 ≤ (v4 + 1) ∧ (v4 + 1) < oN Ω ∧ oN Ω < 2147483648 ∧ 0 ≤ (v4 + 2) ∧ (v4 + 2) < oN Ω ∧ oN Ω < 2147483648 ∧ Aw Ω M_Law_law R F k n 2145 [xr (some (oB Ω)), xr (some a1), xr (some a2), xr (some a3), xi v4, xu, xu, xu] [xr (some a3), xi ((oX Ω (v4 + 2).toNat).toInt), xi ((oX Ω (v4 + 1).toNat).toInt), xr (some a1)] σ) : Aw Ω M_Law_law R F k n 2131 [xr (some (oB Ω)), xr (some a1), xr (some a2), xr (some a3), xi v4, xu, xu, xu] [] σ := by
  refine Aw.aload_n rfl d_Law_law_2131 ?_
  refine Aw.aload_n rfl d_Law_law_2132 ?_
  refine Aw.iload rfl d_Law_law_2133 ?_
  refine Aw.iconst d_Law_law_2135 ?_
  refine Aw.iadd d_Law_law_2136 ?_
  obtain ⟨o1, o2, h⟩ := h
  obtain ⟨o3, h⟩ := h
  refine Aw.sld o1 o2 o3 d_Law_law_2137 ?_
  refine Aw.aload_n rfl d_Law_law_2138 ?_
  refine Aw.iload rfl d_Law_law_2139 ?_
  refine Aw.iconst d_Law_law_2141 ?_
  refine Aw.iadd d_Law_law_2142 ?_
  obtain ⟨o4, o5, h⟩ := h
  obtain ⟨o6, h⟩ := h
  refine Aw.sld o4 o5 o6 d_Law_law_2143 ?_
  refine Aw.aload_n rfl d_Law_law_2144 ?_
  exact h
theorem b_Law_law_2148 {Ω : Om} {R : Room} {F : QF} {k n : Nat} {σ : Sto} {a1 : Nat} {a2 : Nat} {a3 : Nat} {v4 : Int} {s0 : Int} (h : 0 ≤ (v4 + 1) ∧ (v4 + 1) < oN Ω ∧ oN Ω < 2147483648 ∧ 0 ≤ (v4 + 2) ∧ (v4 + 2) < oN Ω ∧ oN Ω < 2147483648 ∧ Aw Ω M_Law_law R F k n 2163 [xr (some (oB Ω)), xr (some a1), xr (some a2), xr (some a3), xi v4, xi s0, xu, xu] [xi ((oX Ω (v4 + 2).toNat).toInt), xi ((oX Ω (v4 + 1).toNat).toInt), xr (some a2)] σ) : Aw Ω M_Law_law R F k n 2148 [xr (some (oB Ω)), xr (some a1), xr (some a2), xr (some a3), xi v4, xu, xu, xu] [xi s0] σ := by
  refine Aw.istore (by decide) d_Law_law_2148 ?_
  refine Aw.toL (L' := [xr (some (oB Ω)), xr (some a1), xr (some a2), xr (some a3), xi v4, xi s0, xu, xu]) rfl ?_
  refine Aw.aload_n rfl d_Law_law_2150 ?_
  refine Aw.aload_n rfl d_Law_law_2151 ?_
  refine Aw.iload rfl d_Law_law_2152 ?_
  refine Aw.iconst d_Law_law_2154 ?_
  refine Aw.iadd d_Law_law_2155 ?_
  obtain ⟨o1, o2, h⟩ := h
  obtain ⟨o3, h⟩ := h
  refine Aw.sld o1 o2 o3 d_Law_law_2156 ?_
  refine Aw.aload_n rfl d_Law_law_2157 ?_
  refine Aw.iload rfl d_Law_law_2158 ?_
  refine Aw.iconst d_Law_law_2160 ?_
  refine Aw.iadd d_Law_law_2161 ?_
  obtain ⟨o4, o5, h⟩ := h
  obtain ⟨o6, h⟩ := h
  refine Aw.sld o4 o5 o6 d_Law_law_2162 ?_
  exact h
theorem b_Law_law_2166 {Ω : Om} {R : Room} {F : QF} {k n : Nat} {σ : Sto} {a1 : Nat} {a2 : Nat} {a3 : Nat} {v4 : Int} {v5 : Int} {s0 : Int} (h : Aw Ω M_Law_law R F k n 2169 [xr (some (oB Ω)), xr (some a1), xr (some a2), xr (some a3), xi v4, xi v5, xi s0, xu] [xr (some a2)] σ) : Aw Ω M_Law_law R F k n 2166 [xr (some (oB Ω)), xr (some a1), xr (some a2), xr (some a3), xi v4, xi v5, xu, xu] [xi s0] σ := by
  refine Aw.istore (by decide) d_Law_law_2166 ?_
  refine Aw.toL (L' := [xr (some (oB Ω)), xr (some a1), xr (some a2), xr (some a3), xi v4, xi v5, xi s0, xu]) rfl ?_
  refine Aw.aload_n rfl d_Law_law_2168 ?_
  exact h
theorem b_Law_law_2172 {Ω : Om} {R : Room} {F : QF} {k n : Nat} {σ : Sto} {a1 : Nat} {a2 : Nat} {a3 : Nat} {v4 : Int} {v5 : Int} {v6 : Int} {s0 : Int} (h : Q32 s0 ∧ Q32 v5 ∧ ((s0 = v5 → ((¬ v5 = (0 : Int) → Aw Ω M_Law_law R F k n 23 [xr (some (oB Ω)), xr (some a1), xr (some a2), xr (some a3), xi (v4 + 5), xu, xu, xu] [] σ) ∧ (v5 = (0 : Int) → sK σ a3 = 51 ∧ 0 ≤ (0 : Int) ∧ (0 : Int) < sZ σ a3 ∧ Q32 (cmpL (aL σ a3 0) (lOf v6)) ∧ (((cmpL (aL σ a3 0) (lOf v6)) = (0 : Int) → Aw Ω M_Law_law R F k n 23 [xr (some (oB Ω)), xr (some a1), xr (some a2), xr (some a3), xi (v4 + 5), xu, xu, xu] [] σ) ∧ (¬ (cmpL (aL σ a3 0) (lOf v6)) = (0 : Int) → Aw Ω M_Law_law R F k n 2195 [xr (some (oB Ω)), xr (some a1), xr (some a2), xr (some a3), xi v4, xi v5, xi v6, xu] [xi 0] σ))))) ∧ (¬ s0 = v5 → Aw Ω M_Law_law R F k n 2178 [xr (some (oB Ω)), xr (some a1), xr (some a2), xr (some a3), xi v4, xi v5, xi v6, xu] [xi 0] σ))) : Aw Ω M_Law_law R F k n 2172 [xr (some (oB Ω)), xr (some a1), xr (some a2), xr (some a3), xi v4, xi v5, xi v6, xu] [xi s0] σ := by
  refine Aw.iload rfl d_Law_law_2172 ?_
  obtain ⟨o1, h⟩ := h
  obtain ⟨o2, h⟩ := h
  obtain ⟨ht, hf⟩ := h
  refine Aw.icmp_eq (tgt := 2179) o1 o2 (by decide) d_Law_law_2174 (fun c9 => ?_) (fun c9 => ?_)
  · have h := ht c9
    refine Aw.iload rfl d_Law_law_2179 ?_
    obtain ⟨ht, hf⟩ := h
    refine Aw.if_ne (tgt := 2196) o2 (by decide) d_Law_law_2181 (fun c8 => ?_) (fun c8 => ?_)
    · have h := ht c8
      refine Aw.goto (tgt := 2611) (by decide) d_Law_law_2196 ?_
      refine Aw.iinc rfl d_Law_law_2611 ?_
      refine Aw.toL (L' := [xr (some (oB Ω)), xr (some a1), xr (some a2), xr (some a3), xi (v4 + 5), xi v5, xi v6, xu]) rfl ?_
      refine Aw.goto (tgt := 23) (by decide) d_Law_law_2614 ?_
      exact Aw.toW (L' := [xr (some (oB Ω)), xr (some a1), xr (some a2), xr (some a3), xi (v4 + 5), xu, xu, xu]) ⟨Or.inr rfl, Or.inr rfl, Or.inr rfl, Or.inr rfl, Or.inr rfl, Or.inl rfl, Or.inl rfl, Or.inr rfl, trivial⟩ h
    · have h := hf c8
      refine Aw.aload_n rfl d_Law_law_2184 ?_
      refine Aw.iconst d_Law_law_2185 ?_
      obtain ⟨o3, h⟩ := h
      obtain ⟨o4, o5, h⟩ := h
      refine Aw.lald o3 o4 o5 d_Law_law_2186 ?_
      refine Aw.iload rfl d_Law_law_2187 ?_
      refine Aw.i2l d_Law_law_2189 ?_
      refine Aw.lcmp d_Law_law_2190 ?_
      obtain ⟨o6, h⟩ := h
      obtain ⟨ht, hf⟩ := h
      refine Aw.if_eq (tgt := 2196) o6 (by decide) d_Law_law_2191 (fun c7 => ?_) (fun c7 => ?_)
      · have h := ht c7
        refine Aw.goto (tgt := 2611) (by decide) d_Law_law_2196 ?_
        refine Aw.iinc rfl d_Law_law_2611 ?_
        refine Aw.toL (L' := [xr (some (oB Ω)), xr (some a1), xr (some a2), xr (some a3), xi (v4 + 5), xi v5, xi v6, xu]) rfl ?_
        refine Aw.goto (tgt := 23) (by decide) d_Law_law_2614 ?_
        exact Aw.toW (L' := [xr (some (oB Ω)), xr (some a1), xr (some a2), xr (some a3), xi (v4 + 5), xu, xu, xu]) ⟨Or.inr rfl, Or.inr rfl, Or.inr rfl, Or.inr rfl, Or.inr rfl, Or.inl rfl, Or.inl rfl, Or.inr rfl, trivial⟩ h
      · have h := hf c7
        refine Aw.iconst d_Law_law_2194 ?_
        exact h
  · have h := hf c9
    refine Aw.iconst d_Law_law_2177 ?_
    exact h
theorem b_Law_law_2063 {Ω : Om} {R : Room} {F : QF} {k n : Nat} {σ : Sto} {a1 : Nat} {a2 : Nat} {a3 : Nat} {v4 : Int} (h : 0 ≤ (v4 + 1) ∧ (v4 + 1) < oN Ω ∧ oN Ω < 2147483648 ∧ 0 ≤ (v4 + 2) ∧ (v4 + 2) < oN Ω ∧ oN Ω < 2147483648 ∧ Aw Ω M_Law_law R F k n 2077 [xr (some (oB Ω)), xr (some a1), xr (some a2), xr (some a3), xi v4, xu, xu, xu] [xr (some a3), xi ((oX Ω (v4 + 2).toNat).toInt), xi ((oX Ω (v4 + 1).toNat).toInt), xr (some a1)] σ) : Aw Ω M_Law_law R F k n 2063 [xr (some (oB Ω)), xr (some a1), xr (some a2), xr (some a3), xi v4, xu, xu, xu] [] σ := by
  refine Aw.aload_n rfl d_Law_law_2063 ?_
  refine Aw.aload_n rfl d_Law_law_2064 ?_
  refine Aw.iload rfl d_Law_law_2065 ?_
  refine Aw.iconst d_Law_law_2067 ?_
  refine Aw.iadd d_Law_law_2068 ?_
  obtain ⟨o1, o2, h⟩ := h
  obtain ⟨o3, h⟩ := h
  refine Aw.sld o1 o2 o3 d_Law_law_2069 ?_
  refine Aw.aload_n rfl d_Law_law_2070 ?_
  refine Aw.iload rfl d_Law_law_2071 ?_
  refine Aw.iconst d_Law_law_2073 ?_
  refine Aw.iadd d_Law_law_2074 ?_
  obtain ⟨o4, o5, h⟩ := h
  obtain ⟨o6, h⟩ := h
  refine Aw.sld o4 o5 o6 d_Law_law_2075 ?_
  refine Aw.aload_n rfl d_Law_law_2076 ?_
  exact h
theorem b_Law_law_2080 {Ω : Om} {R : Room} {F : QF} {k n : Nat} {σ : Sto} {a1 : Nat} {a2 : Nat} {a3 : Nat} {v4 : Int} {s0 : Int} (h : 0 ≤ (v4 + 1) ∧ (v4 + 1) < oN Ω ∧ oN Ω < 2147483648 ∧ 0 ≤ (v4 + 2) ∧ (v4 + 2) < oN Ω ∧ oN Ω < 2147483648 ∧ Aw Ω M_Law_law R F k n 2095 [xr (some (oB Ω)), xr (some a1), xr (some a2), xr (some a3), xi v4, xi s0, xu, xu] [xi ((oX Ω (v4 + 2).toNat).toInt), xi ((oX Ω (v4 + 1).toNat).toInt), xr (some a2)] σ) : Aw Ω M_Law_law R F k n 2080 [xr (some (oB Ω)), xr (some a1), xr (some a2), xr (some a3), xi v4, xu, xu, xu] [xi s0] σ := by
  refine Aw.istore (by decide) d_Law_law_2080 ?_
  refine Aw.toL (L' := [xr (some (oB Ω)), xr (some a1), xr (some a2), xr (some a3), xi v4, xi s0, xu, xu]) rfl ?_
  refine Aw.aload_n rfl d_Law_law_2082 ?_
  refine Aw.aload_n rfl d_Law_law_2083 ?_
  refine Aw.iload rfl d_Law_law_2084 ?_
  refine Aw.iconst d_Law_law_2086 ?_
  refine Aw.iadd d_Law_law_2087 ?_
  obtain ⟨o1, o2, h⟩ := h
  obtain ⟨o3, h⟩ := h
  refine Aw.sld o1 o2 o3 d_Law_law_2088 ?_
  refine Aw.aload_n rfl d_Law_law_2089 ?_
  refine Aw.iload rfl d_Law_law_2090 ?_
  refine Aw.iconst d_Law_law_2092 ?_
  refine Aw.iadd d_Law_law_2093 ?_
  obtain ⟨o4, o5, h⟩ := h
  obtain ⟨o6, h⟩ := h
  refine Aw.sld o4 o5 o6 d_Law_law_2094 ?_
  exact h
theorem b_Law_law_2098 {Ω : Om} {R : Room} {F : QF} {k n : Nat} {σ : Sto} {a1 : Nat} {a2 : Nat} {a3 : Nat} {v4 : Int} {v5 : Int} {s0 : Int} (h : Aw Ω M_Law_law R F k n 2101 [xr (some (oB Ω)), xr (some a1), xr (some a2), xr (some a3), xi v4, xi v5, xi s0, xu] [xr (some a2)] σ) : Aw Ω M_Law_law R F k n 2098 [xr (some (oB Ω)), xr (some a1), xr (some a2), xr (some a3), xi v4, xi v5, xu, xu] [xi s0] σ := by
  refine Aw.istore (by decide) d_Law_law_2098 ?_
  refine Aw.toL (L' := [xr (some (oB Ω)), xr (some a1), xr (some a2), xr (some a3), xi v4, xi v5, xi s0, xu]) rfl ?_
  refine Aw.aload_n rfl d_Law_law_2100 ?_
  exact h
theorem b_Law_law_2104 {Ω : Om} {R : Room} {F : QF} {k n : Nat} {σ : Sto} {a1 : Nat} {a2 : Nat} {a3 : Nat} {v4 : Int} {v5 : Int} {v6 : Int} {s0 : Int} (h : Q32 s0 ∧ Q32 v5 ∧ ((s0 = v5 → ((¬ v5 = (0 : Int) → Aw Ω M_Law_law R F k n 23 [xr (some (oB Ω)), xr (some a1), xr (some a2), xr (some a3), xi (v4 + 5), xu, xu, xu] [] σ) ∧ (v5 = (0 : Int) → sK σ a3 = 51 ∧ 0 ≤ (0 : Int) ∧ (0 : Int) < sZ σ a3 ∧ Q32 (cmpL (aL σ a3 0) (lOf v6)) ∧ (((cmpL (aL σ a3 0) (lOf v6)) = (0 : Int) → Aw Ω M_Law_law R F k n 23 [xr (some (oB Ω)), xr (some a1), xr (some a2), xr (some a3), xi (v4 + 5), xu, xu, xu] [] σ) ∧ (¬ (cmpL (aL σ a3 0) (lOf v6)) = (0 : Int) → Aw Ω M_Law_law R F k n 2127 [xr (some (oB Ω)), xr (some a1), xr (some a2), xr (some a3), xi v4, xi v5, xi v6, xu] [xi 0] σ))))) ∧ (¬ s0 = v5 → Aw Ω M_Law_law R F k n 2110 [xr (some (oB Ω)), xr (some a1), xr (some a2), xr (some a3), xi v4, xi v5, xi v6, xu] [xi 0] σ))) : Aw Ω M_Law_law R F k n 2104 [xr (some (oB Ω)), xr (some a1), xr (some a2), xr (some a3), xi v4, xi v5, xi v6, xu] [xi s0] σ := by
  refine Aw.iload rfl d_Law_law_2104 ?_
  obtain ⟨o1, h⟩ := h
  obtain ⟨o2, h⟩ := h
  obtain ⟨ht, hf⟩ := h
  refine Aw.icmp_eq (tgt := 2111) o1 o2 (by decide) d_Law_law_2106 (fun c9 => ?_) (fun c9 => ?_)
  · have h := ht c9
    refine Aw.iload rfl d_Law_law_2111 ?_
    obtain ⟨ht, hf⟩ := h
    refine Aw.if_ne (tgt := 2128) o2 (by decide) d_Law_law_2113 (fun c8 => ?_) (fun c8 => ?_)
    · have h := ht c8
      refine Aw.goto (tgt := 2611) (by decide) d_Law_law_2128 ?_
      refine Aw.iinc rfl d_Law_law_2611 ?_
      refine Aw.toL (L' := [xr (some (oB Ω)), xr (some a1), xr (some a2), xr (some a3), xi (v4 + 5), xi v5, xi v6, xu]) rfl ?_
      refine Aw.goto (tgt := 23) (by decide) d_Law_law_2614 ?_
      exact Aw.toW (L' := [xr (some (oB Ω)), xr (some a1), xr (some a2), xr (some a3), xi (v4 + 5), xu, xu, xu]) ⟨Or.inr rfl, Or.inr rfl, Or.inr rfl, Or.inr rfl, Or.inr rfl, Or.inl rfl, Or.inl rfl, Or.inr rfl, trivial⟩ h
    · have h := hf c8
      refine Aw.aload_n rfl d_Law_law_2116 ?_
      refine Aw.iconst d_Law_law_2117 ?_
      obtain ⟨o3, h⟩ := h
      obtain ⟨o4, o5, h⟩ := h
      refine Aw.lald o3 o4 o5 d_Law_law_2118 ?_
      refine Aw.iload rfl d_Law_law_2119 ?_
      refine Aw.i2l d_Law_law_2121 ?_
      refine Aw.lcmp d_Law_law_2122 ?_
      obtain ⟨o6, h⟩ := h
      obtain ⟨ht, hf⟩ := h
      refine Aw.if_eq (tgt := 2128) o6 (by decide) d_Law_law_2123 (fun c7 => ?_) (fun c7 => ?_)
      · have h := ht c7
        refine Aw.goto (tgt := 2611) (by decide) d_Law_law_2128 ?_
        refine Aw.iinc rfl d_Law_law_2611 ?_
        refine Aw.toL (L' := [xr (some (oB Ω)), xr (some a1), xr (some a2), xr (some a3), xi (v4 + 5), xi v5, xi v6, xu]) rfl ?_
        refine Aw.goto (tgt := 23) (by decide) d_Law_law_2614 ?_
        exact Aw.toW (L' := [xr (some (oB Ω)), xr (some a1), xr (some a2), xr (some a3), xi (v4 + 5), xu, xu, xu]) ⟨Or.inr rfl, Or.inr rfl, Or.inr rfl, Or.inr rfl, Or.inr rfl, Or.inl rfl, Or.inl rfl, Or.inr rfl, trivial⟩ h
      · have h := hf c7
        refine Aw.iconst d_Law_law_2126 ?_
        exact h
  · have h := hf c9
    refine Aw.iconst d_Law_law_2109 ?_
    exact h
theorem b_Law_law_1983 {Ω : Om} {R : Room} {F : QF} {k n : Nat} {σ : Sto} {a1 : Nat} {a2 : Nat} {a3 : Nat} {v4 : Int} (h : 0 ≤ (v4 + 1) ∧ (v4 + 1) < oN Ω ∧ oN Ω < 2147483648 ∧ 0 ≤ (v4 + 2) ∧ (v4 + 2) < oN Ω ∧ oN Ω < 2147483648 ∧ 0 ≤ (v4 + 3) ∧ (v4 + 3) < oN Ω ∧ oN Ω < 2147483648 ∧ Aw Ω M_Law_law R F k n 2003 [xr (some (oB Ω)), xr (some a1), xr (some a2), xr (some a3), xi v4, xu, xu, xu] [xr (some a3), xi ((oX Ω (v4 + 3).toNat).toInt), xi ((oX Ω (v4 + 2).toNat).toInt), xi ((oX Ω (v4 + 1).toNat).toInt), xr (some a1)] σ) : Aw Ω M_Law_law R F k n 1983 [xr (some (oB Ω)), xr (some a1), xr (some a2), xr (some a3), xi v4, xu, xu, xu] [] σ := by
  refine Aw.aload_n rfl d_Law_law_1983 ?_
  refine Aw.aload_n rfl d_Law_law_1984 ?_
  refine Aw.iload rfl d_Law_law_1985 ?_
  refine Aw.iconst d_Law_law_1987 ?_
  refine Aw.iadd d_Law_law_1988 ?_
  obtain ⟨o1, o2, h⟩ := h
  obtain ⟨o3, h⟩ := h
  refine Aw.sld o1 o2 o3 d_Law_law_1989 ?_
  refine Aw.aload_n rfl d_Law_law_1990 ?_
  refine Aw.iload rfl d_Law_law_1991 ?_
  refine Aw.iconst d_Law_law_1993 ?_
  refine Aw.iadd d_Law_law_1994 ?_
  obtain ⟨o4, o5, h⟩ := h
  obtain ⟨o6, h⟩ := h
  refine Aw.sld o4 o5 o6 d_Law_law_1995 ?_
  refine Aw.aload_n rfl d_Law_law_1996 ?_
  refine Aw.iload rfl d_Law_law_1997 ?_
  refine Aw.iconst d_Law_law_1999 ?_
  refine Aw.iadd d_Law_law_2000 ?_
  obtain ⟨o7, o8, h⟩ := h
  obtain ⟨o9, h⟩ := h
  refine Aw.sld o7 o8 o9 d_Law_law_2001 ?_
  refine Aw.aload_n rfl d_Law_law_2002 ?_
  exact h
theorem b_Law_law_2006 {Ω : Om} {R : Room} {F : QF} {k n : Nat} {σ : Sto} {a1 : Nat} {a2 : Nat} {a3 : Nat} {v4 : Int} {s0 : Int} (h : 0 ≤ (v4 + 1) ∧ (v4 + 1) < oN Ω ∧ oN Ω < 2147483648 ∧ 0 ≤ (v4 + 2) ∧ (v4 + 2) < oN Ω ∧ oN Ω < 2147483648 ∧ 0 ≤ (v4 + 3) ∧ (v4 + 3) < oN Ω ∧ oN Ω < 2147483648 ∧ Aw Ω M_Law_law R F k n 2027 [xr (some (oB Ω)), xr (some a1), xr (some a2), xr (some a3), xi v4, xi s0, xu, xu] [xi ((oX Ω (v4 + 3).toNat).toInt), xi ((oX Ω (v4 + 2).toNat).toInt), xi ((oX Ω (v4 + 1).toNat).toInt), xr (some a2)] σ) : Aw Ω M_Law_law R F k n 2006 [xr (some (oB Ω)), xr (some a1), xr (some a2), xr (some a3), xi v4, xu, xu, xu] [xi s0] σ := by
  refine Aw.istore (by decide) d_Law_law_2006 ?_
  refine Aw.toL (L' := [xr (some (oB Ω)), xr (some a1), xr (some a2), xr (some a3), xi v4, xi s0, xu, xu]) rfl ?_
  refine Aw.aload_n rfl d_Law_law_2008 ?_
  refine Aw.aload_n rfl d_Law_law_2009 ?_
  refine Aw.iload rfl d_Law_law_2010 ?_
  refine Aw.iconst d_Law_law_2012 ?_
  refine Aw.iadd d_Law_law_2013 ?_
  obtain ⟨o1, o2, h⟩ := h
  obtain ⟨o3, h⟩ := h
  refine Aw.sld o1 o2 o3 d_Law_law_2014 ?_
  refine Aw.aload_n rfl d_Law_law_2015 ?_
  refine Aw.iload rfl d_Law_law_2016 ?_
  refine Aw.iconst d_Law_law_2018 ?_
  refine Aw.iadd d_Law_law_2019 ?_
  obtain ⟨o4, o5, h⟩ := h
  obtain ⟨o6, h⟩ := h
  refine Aw.sld o4 o5 o6 d_Law_law_2020 ?_
  refine Aw.aload_n rfl d_Law_law_2021 ?_
  refine Aw.iload rfl d_Law_law_2022 ?_
  refine Aw.iconst d_Law_law_2024 ?_
  refine Aw.iadd d_Law_law_2025 ?_
  obtain ⟨o7, o8, h⟩ := h
  obtain ⟨o9, h⟩ := h
  refine Aw.sld o7 o8 o9 d_Law_law_2026 ?_
  exact h
theorem b_Law_law_2030 {Ω : Om} {R : Room} {F : QF} {k n : Nat} {σ : Sto} {a1 : Nat} {a2 : Nat} {a3 : Nat} {v4 : Int} {v5 : Int} {s0 : Int} (h : Aw Ω M_Law_law R F k n 2033 [xr (some (oB Ω)), xr (some a1), xr (some a2), xr (some a3), xi v4, xi v5, xi s0, xu] [xr (some a2)] σ) : Aw Ω M_Law_law R F k n 2030 [xr (some (oB Ω)), xr (some a1), xr (some a2), xr (some a3), xi v4, xi v5, xu, xu] [xi s0] σ := by
  refine Aw.istore (by decide) d_Law_law_2030 ?_
  refine Aw.toL (L' := [xr (some (oB Ω)), xr (some a1), xr (some a2), xr (some a3), xi v4, xi v5, xi s0, xu]) rfl ?_
  refine Aw.aload_n rfl d_Law_law_2032 ?_
  exact h
theorem b_Law_law_2036 {Ω : Om} {R : Room} {F : QF} {k n : Nat} {σ : Sto} {a1 : Nat} {a2 : Nat} {a3 : Nat} {v4 : Int} {v5 : Int} {v6 : Int} {s0 : Int} (h : Q32 s0 ∧ Q32 v5 ∧ ((s0 = v5 → ((¬ v5 = (0 : Int) → Aw Ω M_Law_law R F k n 23 [xr (some (oB Ω)), xr (some a1), xr (some a2), xr (some a3), xi (v4 + 5), xu, xu, xu] [] σ) ∧ (v5 = (0 : Int) → sK σ a3 = 51 ∧ 0 ≤ (0 : Int) ∧ (0 : Int) < sZ σ a3 ∧ Q32 (cmpL (aL σ a3 0) (lOf v6)) ∧ (((cmpL (aL σ a3 0) (lOf v6)) = (0 : Int) → Aw Ω M_Law_law R F k n 23 [xr (some (oB Ω)), xr (some a1), xr (some a2), xr (some a3), xi (v4 + 5), xu, xu, xu] [] σ) ∧ (¬ (cmpL (aL σ a3 0) (lOf v6)) = (0 : Int) → Aw Ω M_Law_law R F k n 2059 [xr (some (oB Ω)), xr (some a1), xr (some a2), xr (some a3), xi v4, xi v5, xi v6, xu] [xi 0] σ))))) ∧ (¬ s0 = v5 → Aw Ω M_Law_law R F k n 2042 [xr (some (oB Ω)), xr (some a1), xr (some a2), xr (some a3), xi v4, xi v5, xi v6, xu] [xi 0] σ))) : Aw Ω M_Law_law R F k n 2036 [xr (some (oB Ω)), xr (some a1), xr (some a2), xr (some a3), xi v4, xi v5, xi v6, xu] [xi s0] σ := by
  refine Aw.iload rfl d_Law_law_2036 ?_
  obtain ⟨o1, h⟩ := h
  obtain ⟨o2, h⟩ := h
  obtain ⟨ht, hf⟩ := h
  refine Aw.icmp_eq (tgt := 2043) o1 o2 (by decide) d_Law_law_2038 (fun c9 => ?_) (fun c9 => ?_)
  · have h := ht c9
    refine Aw.iload rfl d_Law_law_2043 ?_
    obtain ⟨ht, hf⟩ := h
    refine Aw.if_ne (tgt := 2060) o2 (by decide) d_Law_law_2045 (fun c8 => ?_) (fun c8 => ?_)
    · have h := ht c8
      refine Aw.goto (tgt := 2611) (by decide) d_Law_law_2060 ?_
      refine Aw.iinc rfl d_Law_law_2611 ?_
      refine Aw.toL (L' := [xr (some (oB Ω)), xr (some a1), xr (some a2), xr (some a3), xi (v4 + 5), xi v5, xi v6, xu]) rfl ?_
      refine Aw.goto (tgt := 23) (by decide) d_Law_law_2614 ?_
      exact Aw.toW (L' := [xr (some (oB Ω)), xr (some a1), xr (some a2), xr (some a3), xi (v4 + 5), xu, xu, xu]) ⟨Or.inr rfl, Or.inr rfl, Or.inr rfl, Or.inr rfl, Or.inr rfl, Or.inl rfl, Or.inl rfl, Or.inr rfl, trivial⟩ h
    · have h := hf c8
      refine Aw.aload_n rfl d_Law_law_2048 ?_
      refine Aw.iconst d_Law_law_2049 ?_
      obtain ⟨o3, h⟩ := h
      obtain ⟨o4, o5, h⟩ := h
      refine Aw.lald o3 o4 o5 d_Law_law_2050 ?_
      refine Aw.iload rfl d_Law_law_2051 ?_
      refine Aw.i2l d_Law_law_2053 ?_
      refine Aw.lcmp d_Law_law_2054 ?_
      obtain ⟨o6, h⟩ := h
      obtain ⟨ht, hf⟩ := h
      refine Aw.if_eq (tgt := 2060) o6 (by decide) d_Law_law_2055 (fun c7 => ?_) (fun c7 => ?_)
      · have h := ht c7
        refine Aw.goto (tgt := 2611) (by decide) d_Law_law_2060 ?_
        refine Aw.iinc rfl d_Law_law_2611 ?_
        refine Aw.toL (L' := [xr (some (oB Ω)), xr (some a1), xr (some a2), xr (some a3), xi (v4 + 5), xi v5, xi v6, xu]) rfl ?_
        refine Aw.goto (tgt := 23) (by decide) d_Law_law_2614 ?_
        exact Aw.toW (L' := [xr (some (oB Ω)), xr (some a1), xr (some a2), xr (some a3), xi (v4 + 5), xu, xu, xu]) ⟨Or.inr rfl, Or.inr rfl, Or.inr rfl, Or.inr rfl, Or.inr rfl, Or.inl rfl, Or.inl rfl, Or.inr rfl, trivial⟩ h
      · have h := hf c7
        refine Aw.iconst d_Law_law_2058 ?_
        exact h
  · have h := hf c9
    refine Aw.iconst d_Law_law_2041 ?_
    exact h
theorem b_Law_law_1927 {Ω : Om} {R : Room} {F : QF} {k n : Nat} {σ : Sto} {a1 : Nat} {a2 : Nat} {a3 : Nat} {v4 : Int} (h : 0 ≤ (v4 + 1) ∧ (v4 + 1) < oN Ω ∧ oN Ω < 2147483648 ∧ Aw Ω M_Law_law R F k n 1935 [xr (some (oB Ω)), xr (some a1), xr (some a2), xr (some a3), xi v4, xu, xu, xu] [xr (some a3), xi ((oX Ω (v4 + 1).toNat).toInt), xr (some a1)] σ) : Aw Ω M_Law_law R F k n 1927 [xr (some (oB Ω)), xr (some a1), xr (some a2), xr (some a3), xi v4, xu, xu, xu] [] σ := by
  refine Aw.aload_n rfl d_Law_law_1927 ?_
  refine Aw.aload_n rfl d_Law_law_1928 ?_
  refine Aw.iload rfl d_Law_law_1929 ?_
  refine Aw.iconst d_Law_law_1931 ?_
  refine Aw.iadd d_Law_law_1932 ?_
  obtain ⟨o1, o2, h⟩ := h
  obtain ⟨o3, h⟩ := h
  refine Aw.sld o1 o2 o3 d_Law_law_1933 ?_
  refine Aw.aload_n rfl d_Law_law_1934 ?_
  exact h
theorem b_Law_law_1938 {Ω : Om} {R : Room} {F : QF} {k n : Nat} {σ : Sto} {a1 : Nat} {a2 : Nat} {a3 : Nat} {v4 : Int} {s0 : Int} (h : 0 ≤ (v4 + 1) ∧ (v4 + 1) < oN Ω ∧ oN Ω < 2147483648 ∧ Aw Ω M_Law_law R F k n 1947 [xr (some (oB Ω)), xr (some a1), xr (some a2), xr (some a3), xi v4, xi s0, xu, xu] [xi ((oX Ω (v4 + 1).toNat).toInt), xr (some a2)] σ) : Aw Ω M_Law_law R F k n 1938 [xr (some (oB Ω)), xr (some a1), xr (some a2), xr (some a3), xi v4, xu, xu, xu] [xi s0] σ := by
  refine Aw.istore (by decide) d_Law_law_1938 ?_
  refine Aw.toL (L' := [xr (some (oB Ω)), xr (some a1), xr (some a2), xr (some a3), xi v4, xi s0, xu, xu]) rfl ?_
  refine Aw.aload_n rfl d_Law_law_1940 ?_
  refine Aw.aload_n rfl d_Law_law_1941 ?_
  refine Aw.iload rfl d_Law_law_1942 ?_
  refine Aw.iconst d_Law_law_1944 ?_
  refine Aw.iadd d_Law_law_1945 ?_
  obtain ⟨o1, o2, h⟩ := h
  obtain ⟨o3, h⟩ := h
  refine Aw.sld o1 o2 o3 d_Law_law_1946 ?_
  exact h
theorem b_Law_law_1950 {Ω : Om} {R : Room} {F : QF} {k n : Nat} {σ : Sto} {a1 : Nat} {a2 : Nat} {a3 : Nat} {v4 : Int} {v5 : Int} {s0 : Int} (h : Aw Ω M_Law_law R F k n 1953 [xr (some (oB Ω)), xr (some a1), xr (some a2), xr (some a3), xi v4, xi v5, xi s0, xu] [xr (some a2)] σ) : Aw Ω M_Law_law R F k n 1950 [xr (some (oB Ω)), xr (some a1), xr (some a2), xr (some a3), xi v4, xi v5, xu, xu] [xi s0] σ := by
  refine Aw.istore (by decide) d_Law_law_1950 ?_
  refine Aw.toL (L' := [xr (some (oB Ω)), xr (some a1), xr (some a2), xr (some a3), xi v4, xi v5, xi s0, xu]) rfl ?_
  refine Aw.aload_n rfl d_Law_law_1952 ?_
  exact h
theorem b_Law_law_1956 {Ω : Om} {R : Room} {F : QF} {k n : Nat} {σ : Sto} {a1 : Nat} {a2 : Nat} {a3 : Nat} {v4 : Int} {v5 : Int} {v6 : Int} {s0 : Int} (h : Q32 s0 ∧ Q32 v5 ∧ ((s0 = v5 → ((¬ v5 = (0 : Int) → Aw Ω M_Law_law R F k n 23 [xr (some (oB Ω)), xr (some a1), xr (some a2), xr (some a3), xi (v4 + 5), xu, xu, xu] [] σ) ∧ (v5 = (0 : Int) → sK σ a3 = 51 ∧ 0 ≤ (0 : Int) ∧ (0 : Int) < sZ σ a3 ∧ Q32 (cmpL (aL σ a3 0) (lOf v6)) ∧ (((cmpL (aL σ a3 0) (lOf v6)) = (0 : Int) → Aw Ω M_Law_law R F k n 23 [xr (some (oB Ω)), xr (some a1), xr (some a2), xr (some a3), xi (v4 + 5), xu, xu, xu] [] σ) ∧ (¬ (cmpL (aL σ a3 0) (lOf v6)) = (0 : Int) → Aw Ω M_Law_law R F k n 1979 [xr (some (oB Ω)), xr (some a1), xr (some a2), xr (some a3), xi v4, xi v5, xi v6, xu] [xi 0] σ))))) ∧ (¬ s0 = v5 → Aw Ω M_Law_law R F k n 1962 [xr (some (oB Ω)), xr (some a1), xr (some a2), xr (some a3), xi v4, xi v5, xi v6, xu] [xi 0] σ))) : Aw Ω M_Law_law R F k n 1956 [xr (some (oB Ω)), xr (some a1), xr (some a2), xr (some a3), xi v4, xi v5, xi v6, xu] [xi s0] σ := by
  refine Aw.iload rfl d_Law_law_1956 ?_
  obtain ⟨o1, h⟩ := h
  obtain ⟨o2, h⟩ := h
  obtain ⟨ht, hf⟩ := h
  refine Aw.icmp_eq (tgt := 1963) o1 o2 (by decide) d_Law_law_1958 (fun c9 => ?_) (fun c9 => ?_)
  · have h := ht c9
    refine Aw.iload rfl d_Law_law_1963 ?_
    obtain ⟨ht, hf⟩ := h
    refine Aw.if_ne (tgt := 1980) o2 (by decide) d_Law_law_1965 (fun c8 => ?_) (fun c8 => ?_)
    · have h := ht c8
      refine Aw.goto (tgt := 2611) (by decide) d_Law_law_1980 ?_
      refine Aw.iinc rfl d_Law_law_2611 ?_
      refine Aw.toL (L' := [xr (some (oB Ω)), xr (some a1), xr (some a2), xr (some a3), xi (v4 + 5), xi v5, xi v6, xu]) rfl ?_
      refine Aw.goto (tgt := 23) (by decide) d_Law_law_2614 ?_
      exact Aw.toW (L' := [xr (some (oB Ω)), xr (some a1), xr (some a2), xr (some a3), xi (v4 + 5), xu, xu, xu]) ⟨Or.inr rfl, Or.inr rfl, Or.inr rfl, Or.inr rfl, Or.inr rfl, Or.inl rfl, Or.inl rfl, Or.inr rfl, trivial⟩ h
    · have h := hf c8
      refine Aw.aload_n rfl d_Law_law_1968 ?_
      refine Aw.iconst d_Law_law_1969 ?_
      obtain ⟨o3, h⟩ := h
      obtain ⟨o4, o5, h⟩ := h
      refine Aw.lald o3 o4 o5 d_Law_law_1970 ?_
      refine Aw.iload rfl d_Law_law_1971 ?_
      refine Aw.i2l d_Law_law_1973 ?_
      refine Aw.lcmp d_Law_law_1974 ?_
      obtain ⟨o6, h⟩ := h
      obtain ⟨ht, hf⟩ := h
      refine Aw.if_eq (tgt := 1980) o6 (by decide) d_Law_law_1975 (fun c7 => ?_) (fun c7 => ?_)
      · have h := ht c7
        refine Aw.goto (tgt := 2611) (by decide) d_Law_law_1980 ?_
        refine Aw.iinc rfl d_Law_law_2611 ?_
        refine Aw.toL (L' := [xr (some (oB Ω)), xr (some a1), xr (some a2), xr (some a3), xi (v4 + 5), xi v5, xi v6, xu]) rfl ?_
        refine Aw.goto (tgt := 23) (by decide) d_Law_law_2614 ?_
        exact Aw.toW (L' := [xr (some (oB Ω)), xr (some a1), xr (some a2), xr (some a3), xi (v4 + 5), xu, xu, xu]) ⟨Or.inr rfl, Or.inr rfl, Or.inr rfl, Or.inr rfl, Or.inr rfl, Or.inl rfl, Or.inl rfl, Or.inr rfl, trivial⟩ h
      · have h := hf c7
        refine Aw.iconst d_Law_law_1978 ?_
        exact h
  · have h := hf c9
    refine Aw.iconst d_Law_law_1961 ?_
    exact h
theorem b_Law_law_1847 {Ω : Om} {R : Room} {F : QF} {k n : Nat} {σ : Sto} {a1 : Nat} {a2 : Nat} {a3 : Nat} {v4 : Int} (h : 0 ≤ (v4 + 1) ∧ (v4 + 1) < oN Ω ∧ oN Ω < 2147483648 ∧ 0 ≤ (v4 + 2) ∧ (v4 + 2) < oN Ω ∧ oN Ω < 2147483648 ∧ 0 ≤ (v4 + 3) ∧ (v4 + 3) < oN Ω ∧ oN Ω < 2147483648 ∧ Aw Ω M_Law_law R F k n 1867 [xr (some (oB Ω)), xr (some a1), xr (some a2), xr (some a3), xi v4, xu, xu, xu] [xr (some a3), xi ((oX Ω (v4 + 3).toNat).toInt), xi ((oX Ω (v4 + 2).toNat).toInt), xi ((oX Ω (v4 + 1).toNat).toInt), xr (some a1)] σ) : Aw Ω M_Law_law R F k n 1847 [xr (some (oB Ω)), xr (some a1), xr (some a2), xr (some a3), xi v4, xu, xu, xu] [] σ := by
  refine Aw.aload_n rfl d_Law_law_1847 ?_
  refine Aw.aload_n rfl d_Law_law_1848 ?_
  refine Aw.iload rfl d_Law_law_1849 ?_
  refine Aw.iconst d_Law_law_1851 ?_
  refine Aw.iadd d_Law_law_1852 ?_
  obtain ⟨o1, o2, h⟩ := h
  obtain ⟨o3, h⟩ := h
  refine Aw.sld o1 o2 o3 d_Law_law_1853 ?_
  refine Aw.aload_n rfl d_Law_law_1854 ?_
  refine Aw.iload rfl d_Law_law_1855 ?_
  refine Aw.iconst d_Law_law_1857 ?_
  refine Aw.iadd d_Law_law_1858 ?_
  obtain ⟨o4, o5, h⟩ := h
  obtain ⟨o6, h⟩ := h
  refine Aw.sld o4 o5 o6 d_Law_law_1859 ?_
  refine Aw.aload_n rfl d_Law_law_1860 ?_
  refine Aw.iload rfl d_Law_law_1861 ?_
  refine Aw.iconst d_Law_law_1863 ?_
  refine Aw.iadd d_Law_law_1864 ?_
  obtain ⟨o7, o8, h⟩ := h
  obtain ⟨o9, h⟩ := h
  refine Aw.sld o7 o8 o9 d_Law_law_1865 ?_
  refine Aw.aload_n rfl d_Law_law_1866 ?_
  exact h
theorem b_Law_law_1870 {Ω : Om} {R : Room} {F : QF} {k n : Nat} {σ : Sto} {a1 : Nat} {a2 : Nat} {a3 : Nat} {v4 : Int} {s0 : Int} (h : 0 ≤ (v4 + 1) ∧ (v4 + 1) < oN Ω ∧ oN Ω < 2147483648 ∧ 0 ≤ (v4 + 2) ∧ (v4 + 2) < oN Ω ∧ oN Ω < 2147483648 ∧ 0 ≤ (v4 + 3) ∧ (v4 + 3) < oN Ω ∧ oN Ω < 2147483648 ∧ Aw Ω M_Law_law R F k n 1891 [xr (some (oB Ω)), xr (some a1), xr (some a2), xr (some a3), xi v4, xi s0, xu, xu] [xi ((oX Ω (v4 + 3).toNat).toInt), xi ((oX Ω (v4 + 2).toNat).toInt), xi ((oX Ω (v4 + 1).toNat).toInt), xr (some a2)] σ) : Aw Ω M_Law_law R F k n 1870 [xr (some (oB Ω)), xr (some a1), xr (some a2), xr (some a3), xi v4, xu, xu, xu] [xi s0] σ := by
  refine Aw.istore (by decide) d_Law_law_1870 ?_
  refine Aw.toL (L' := [xr (some (oB Ω)), xr (some a1), xr (some a2), xr (some a3), xi v4, xi s0, xu, xu]) rfl ?_
  refine Aw.aload_n rfl d_Law_law_1872 ?_
  refine Aw.aload_n rfl d_Law_law_1873 ?_
  refine Aw.iload rfl d_Law_law_1874 ?_
  refine Aw.iconst d_Law_law_1876 ?_
  refine Aw.iadd d_Law_law_1877 ?_
  obtain ⟨o1, o2, h⟩ := h
  obtain ⟨o3, h⟩ := h
  refine Aw.sld o1 o2 o3 d_Law_law_1878 ?_
  refine Aw.aload_n rfl d_Law_law_1879 ?_
  refine Aw.iload rfl d_Law_law_1880 ?_
  refine Aw.iconst d_Law_law_1882 ?_
  refine Aw.iadd d_Law_law_1883 ?_
  obtain ⟨o4, o5, h⟩ := h
  obtain ⟨o6, h⟩ := h
  refine Aw.sld o4 o5 o6 d_Law_law_1884 ?_
  refine Aw.aload_n rfl d_Law_law_1885 ?_
  refine Aw.iload rfl d_Law_law_1886 ?_
  refine Aw.iconst d_Law_law_1888 ?_
  refine Aw.iadd d_Law_law_1889 ?_
  obtain ⟨o7, o8, h⟩ := h
  obtain ⟨o9, h⟩ := h
  refine Aw.sld o7 o8 o9 d_Law_law_1890 ?_
  exact h
theorem b_Law_law_1894 {Ω : Om} {R : Room} {F : QF} {k n : Nat} {σ : Sto} {a1 : Nat} {a2 : Nat} {a3 : Nat} {v4 : Int} {v5 : Int} {s0 : Int} (h : Aw Ω M_Law_law R F k n 1897 [xr (some (oB Ω)), xr (some a1), xr (some a2), xr (some a3), xi v4, xi v5, xi s0, xu] [xr (some a2)] σ) : Aw Ω M_Law_law R F k n 1894 [xr (some (oB Ω)), xr (some a1), xr (some a2), xr (some a3), xi v4, xi v5, xu, xu] [xi s0] σ := by
  refine Aw.istore (by decide) d_Law_law_1894 ?_
  refine Aw.toL (L' := [xr (some (oB Ω)), xr (some a1), xr (some a2), xr (some a3), xi v4, xi v5, xi s0, xu]) rfl ?_
  refine Aw.aload_n rfl d_Law_law_1896 ?_
  exact h
theorem b_Law_law_1900 {Ω : Om} {R : Room} {F : QF} {k n : Nat} {σ : Sto} {a1 : Nat} {a2 : Nat} {a3 : Nat} {v4 : Int} {v5 : Int} {v6 : Int} {s0 : Int} (h : Q32 s0 ∧ Q32 v5 ∧ ((s0 = v5 → ((¬ v5 = (0 : Int) → Aw Ω M_Law_law R F k n 23 [xr (some (oB Ω)), xr (some a1), xr (some a2), xr (some a3), xi (v4 + 5), xu, xu, xu] [] σ) ∧ (v5 = (0 : Int) → sK σ a3 = 51 ∧ 0 ≤ (0 : Int) ∧ (0 : Int) < sZ σ a3 ∧ Q32 (cmpL (aL σ a3 0) (lOf v6)) ∧ (((cmpL (aL σ a3 0) (lOf v6)) = (0 : Int) → Aw Ω M_Law_law R F k n 23 [xr (some (oB Ω)), xr (some a1), xr (some a2), xr (some a3), xi (v4 + 5), xu, xu, xu] [] σ) ∧ (¬ (cmpL (aL σ a3 0) (lOf v6)) = (0 : Int) → Aw Ω M_Law_law R F k n 1923 [xr (some (oB Ω)), xr (some a1), xr (some a2), xr (some a3), xi v4, xi v5, xi v6, xu] [xi 0] σ))))) ∧ (¬ s0 = v5 → Aw Ω M_Law_law R F k n 1906 [xr (some (oB Ω)), xr (some a1), xr (some a2), xr (some a3), xi v4, xi v5, xi v6, xu] [xi 0] σ))) : Aw Ω M_Law_law R F k n 1900 [xr (some (oB Ω)), xr (some a1), xr (some a2), xr (some a3), xi v4, xi v5, xi v6, xu] [xi s0] σ := by
  refine Aw.iload rfl d_Law_law_1900 ?_
  obtain ⟨o1, h⟩ := h
  obtain ⟨o2, h⟩ := h
  obtain ⟨ht, hf⟩ := h
  refine Aw.icmp_eq (tgt := 1907) o1 o2 (by decide) d_Law_law_1902 (fun c9 => ?_) (fun c9 => ?_)
  · have h := ht c9
    refine Aw.iload rfl d_Law_law_1907 ?_
    obtain ⟨ht, hf⟩ := h
    refine Aw.if_ne (tgt := 1924) o2 (by decide) d_Law_law_1909 (fun c8 => ?_) (fun c8 => ?_)
    · have h := ht c8
      refine Aw.goto (tgt := 2611) (by decide) d_Law_law_1924 ?_
      refine Aw.iinc rfl d_Law_law_2611 ?_
      refine Aw.toL (L' := [xr (some (oB Ω)), xr (some a1), xr (some a2), xr (some a3), xi (v4 + 5), xi v5, xi v6, xu]) rfl ?_
      refine Aw.goto (tgt := 23) (by decide) d_Law_law_2614 ?_
      exact Aw.toW (L' := [xr (some (oB Ω)), xr (some a1), xr (some a2), xr (some a3), xi (v4 + 5), xu, xu, xu]) ⟨Or.inr rfl, Or.inr rfl, Or.inr rfl, Or.inr rfl, Or.inr rfl, Or.inl rfl, Or.inl rfl, Or.inr rfl, trivial⟩ h
    · have h := hf c8
      refine Aw.aload_n rfl d_Law_law_1912 ?_
      refine Aw.iconst d_Law_law_1913 ?_
      obtain ⟨o3, h⟩ := h
      obtain ⟨o4, o5, h⟩ := h
      refine Aw.lald o3 o4 o5 d_Law_law_1914 ?_
      refine Aw.iload rfl d_Law_law_1915 ?_
      refine Aw.i2l d_Law_law_1917 ?_
      refine Aw.lcmp d_Law_law_1918 ?_
      obtain ⟨o6, h⟩ := h
      obtain ⟨ht, hf⟩ := h
      refine Aw.if_eq (tgt := 1924) o6 (by decide) d_Law_law_1919 (fun c7 => ?_) (fun c7 => ?_)
      · have h := ht c7
        refine Aw.goto (tgt := 2611) (by decide) d_Law_law_1924 ?_
        refine Aw.iinc rfl d_Law_law_2611 ?_
        refine Aw.toL (L' := [xr (some (oB Ω)), xr (some a1), xr (some a2), xr (some a3), xi (v4 + 5), xi v5, xi v6, xu]) rfl ?_
        refine Aw.goto (tgt := 23) (by decide) d_Law_law_2614 ?_
        exact Aw.toW (L' := [xr (some (oB Ω)), xr (some a1), xr (some a2), xr (some a3), xi (v4 + 5), xu, xu, xu]) ⟨Or.inr rfl, Or.inr rfl, Or.inr rfl, Or.inr rfl, Or.inr rfl, Or.inl rfl, Or.inl rfl, Or.inr rfl, trivial⟩ h
      · have h := hf c7
        refine Aw.iconst d_Law_law_1922 ?_
        exact h
  · have h := hf c9
    refine Aw.iconst d_Law_law_1905 ?_
    exact h
theorem b_Law_law_1779 {Ω : Om} {R : Room} {F : QF} {k n : Nat} {σ : Sto} {a1 : Nat} {a2 : Nat} {a3 : Nat} {v4 : Int} (h : 0 ≤ (v4 + 1) ∧ (v4 + 1) < oN Ω ∧ oN Ω < 2147483648 ∧ 0 ≤ (v4 + 2) ∧ (v4 + 2) < oN Ω ∧ oN Ω < 2147483648 ∧ Aw Ω M_Law_law R F k n 1793 [xr (some (oB Ω)), xr (some a1), xr (some a2), xr (some a3), xi v4, xu, xu, xu] [xr (some a3), xi ((oX Ω (v4 + 2).toNat).toInt), xi ((oX Ω (v4 + 1).toNat).toInt), xr (some a1)] σ) : Aw Ω M_Law_law R F k n 1779 [xr (some (oB Ω)), xr (some a1), xr (some a2), xr (some a3), xi v4, xu, xu, xu] [] σ := by
  refine Aw.aload_n rfl d_Law_law_1779 ?_
  refine Aw.aload_n rfl d_Law_law_1780 ?_
  refine Aw.iload rfl d_Law_law_1781 ?_
  refine Aw.iconst d_Law_law_1783 ?_
  refine Aw.iadd d_Law_law_1784 ?_
  obtain ⟨o1, o2, h⟩ := h
  obtain ⟨o3, h⟩ := h
  refine Aw.sld o1 o2 o3 d_Law_law_1785 ?_
  refine Aw.aload_n rfl d_Law_law_1786 ?_
  refine Aw.iload rfl d_Law_law_1787 ?_
  refine Aw.iconst d_Law_law_1789 ?_
  refine Aw.iadd d_Law_law_1790 ?_
  obtain ⟨o4, o5, h⟩ := h
  obtain ⟨o6, h⟩ := h
  refine Aw.sld o4 o5 o6 d_Law_law_1791 ?_
  refine Aw.aload_n rfl d_Law_law_1792 ?_
  exact h
theorem b_Law_law_1796 {Ω : Om} {R : Room} {F : QF} {k n : Nat} {σ : Sto} {a1 : Nat} {a2 : Nat} {a3 : Nat} {v4 : Int} {s0 : Int} (h : 0 ≤ (v4 + 1) ∧ (v4 + 1) < oN Ω ∧ oN Ω < 2147483648 ∧ 0 ≤ (v4 + 2) ∧ (v4 + 2) < oN Ω ∧ oN Ω < 2147483648 ∧ Aw Ω M_Law_law R F k n 1811 [xr (some (oB Ω)), xr (some a1), xr (some a2), xr (some a3), xi v4, xi s0, xu, xu] [xi ((oX Ω (v4 + 2).toNat).toInt), xi ((oX Ω (v4 + 1).toNat).toInt), xr (some a2)] σ) : Aw Ω M_Law_law R F k n 1796 [xr (some (oB Ω)), xr (some a1), xr (some a2), xr (some a3), xi v4, xu, xu, xu] [xi s0] σ := by
  refine Aw.istore (by decide) d_Law_law_1796 ?_
  refine Aw.toL (L' := [xr (some (oB Ω)), xr (some a1), xr (some a2), xr (some a3), xi v4, xi s0, xu, xu]) rfl ?_
  refine Aw.aload_n rfl d_Law_law_1798 ?_
  refine Aw.aload_n rfl d_Law_law_1799 ?_
  refine Aw.iload rfl d_Law_law_1800 ?_
  refine Aw.iconst d_Law_law_1802 ?_
  refine Aw.iadd d_Law_law_1803 ?_
  obtain ⟨o1, o2, h⟩ := h
  obtain ⟨o3, h⟩ := h
  refine Aw.sld o1 o2 o3 d_Law_law_1804 ?_
  refine Aw.aload_n rfl d_Law_law_1805 ?_
  refine Aw.iload rfl d_Law_law_1806 ?_
  refine Aw.iconst d_Law_law_1808 ?_
  refine Aw.iadd d_Law_law_1809 ?_
  obtain ⟨o4, o5, h⟩ := h
  obtain ⟨o6, h⟩ := h
  refine Aw.sld o4 o5 o6 d_Law_law_1810 ?_
  exact h
theorem b_Law_law_1814 {Ω : Om} {R : Room} {F : QF} {k n : Nat} {σ : Sto} {a1 : Nat} {a2 : Nat} {a3 : Nat} {v4 : Int} {v5 : Int} {s0 : Int} (h : Aw Ω M_Law_law R F k n 1817 [xr (some (oB Ω)), xr (some a1), xr (some a2), xr (some a3), xi v4, xi v5, xi s0, xu] [xr (some a2)] σ) : Aw Ω M_Law_law R F k n 1814 [xr (some (oB Ω)), xr (some a1), xr (some a2), xr (some a3), xi v4, xi v5, xu, xu] [xi s0] σ := by
  refine Aw.istore (by decide) d_Law_law_1814 ?_
  refine Aw.toL (L' := [xr (some (oB Ω)), xr (some a1), xr (some a2), xr (some a3), xi v4, xi v5, xi s0, xu]) rfl ?_
  refine Aw.aload_n rfl d_Law_law_1816 ?_
  exact h
theorem b_Law_law_1820 {Ω : Om} {R : Room} {F : QF} {k n : Nat} {σ : Sto} {a1 : Nat} {a2 : Nat} {a3 : Nat} {v4 : Int} {v5 : Int} {v6 : Int} {s0 : Int} (h : Q32 s0 ∧ Q32 v5 ∧ ((s0 = v5 → ((¬ v5 = (0 : Int) → Aw Ω M_Law_law R F k n 23 [xr (some (oB Ω)), xr (some a1), xr (some a2), xr (some a3), xi (v4 + 5), xu, xu, xu] [] σ) ∧ (v5 = (0 : Int) → sK σ a3 = 51 ∧ 0 ≤ (0 : Int) ∧ (0 : Int) < sZ σ a3 ∧ Q32 (cmpL (aL σ a3 0) (lOf v6)) ∧ (((cmpL (aL σ a3 0) (lOf v6)) = (0 : Int) → Aw Ω M_Law_law R F k n 23 [xr (some (oB Ω)), xr (some a1), xr (some a2), xr (some a3), xi (v4 + 5), xu, xu, xu] [] σ) ∧ (¬ (cmpL (aL σ a3 0) (lOf v6)) = (0 : Int) → Aw Ω M_Law_law R F k n 1843 [xr (some (oB Ω)), xr (some a1), xr (some a2), xr (some a3), xi v4, xi v5, xi v6, xu] [xi 0] σ))))) ∧ (¬ s0 = v5 → Aw Ω M_Law_law R F k n 1826 [xr (some (oB Ω)), xr (some a1), xr (some a2), xr (some a3), xi v4, xi v5, xi v6, xu] [xi 0] σ))) : Aw Ω M_Law_law R F k n 1820 [xr (some (oB Ω)), xr (some a1), xr (some a2), xr (some a3), xi v4, xi v5, xi v6, xu] [xi s0] σ := by
  refine Aw.iload rfl d_Law_law_1820 ?_
  obtain ⟨o1, h⟩ := h
  obtain ⟨o2, h⟩ := h
  obtain ⟨ht, hf⟩ := h
  refine Aw.icmp_eq (tgt := 1827) o1 o2 (by decide) d_Law_law_1822 (fun c9 => ?_) (fun c9 => ?_)
  · have h := ht c9
    refine Aw.iload rfl d_Law_law_1827 ?_
    obtain ⟨ht, hf⟩ := h
    refine Aw.if_ne (tgt := 1844) o2 (by decide) d_Law_law_1829 (fun c8 => ?_) (fun c8 => ?_)
    · have h := ht c8
      refine Aw.goto (tgt := 2611) (by decide) d_Law_law_1844 ?_
      refine Aw.iinc rfl d_Law_law_2611 ?_
      refine Aw.toL (L' := [xr (some (oB Ω)), xr (some a1), xr (some a2), xr (some a3), xi (v4 + 5), xi v5, xi v6, xu]) rfl ?_
      refine Aw.goto (tgt := 23) (by decide) d_Law_law_2614 ?_
      exact Aw.toW (L' := [xr (some (oB Ω)), xr (some a1), xr (some a2), xr (some a3), xi (v4 + 5), xu, xu, xu]) ⟨Or.inr rfl, Or.inr rfl, Or.inr rfl, Or.inr rfl, Or.inr rfl, Or.inl rfl, Or.inl rfl, Or.inr rfl, trivial⟩ h
    · have h := hf c8
      refine Aw.aload_n rfl d_Law_law_1832 ?_
      refine Aw.iconst d_Law_law_1833 ?_
      obtain ⟨o3, h⟩ := h
      obtain ⟨o4, o5, h⟩ := h
      refine Aw.lald o3 o4 o5 d_Law_law_1834 ?_
      refine Aw.iload rfl d_Law_law_1835 ?_
      refine Aw.i2l d_Law_law_1837 ?_
      refine Aw.lcmp d_Law_law_1838 ?_
      obtain ⟨o6, h⟩ := h
      obtain ⟨ht, hf⟩ := h
      refine Aw.if_eq (tgt := 1844) o6 (by decide) d_Law_law_1839 (fun c7 => ?_) (fun c7 => ?_)
      · have h := ht c7
        refine Aw.goto (tgt := 2611) (by decide) d_Law_law_1844 ?_
        refine Aw.iinc rfl d_Law_law_2611 ?_
        refine Aw.toL (L' := [xr (some (oB Ω)), xr (some a1), xr (some a2), xr (some a3), xi (v4 + 5), xi v5, xi v6, xu]) rfl ?_
        refine Aw.goto (tgt := 23) (by decide) d_Law_law_2614 ?_
        exact Aw.toW (L' := [xr (some (oB Ω)), xr (some a1), xr (some a2), xr (some a3), xi (v4 + 5), xu, xu, xu]) ⟨Or.inr rfl, Or.inr rfl, Or.inr rfl, Or.inr rfl, Or.inr rfl, Or.inl rfl, Or.inl rfl, Or.inr rfl, trivial⟩ h
      · have h := hf c7
        refine Aw.iconst d_Law_law_1842 ?_
        exact h
  · have h := hf c9
    refine Aw.iconst d_Law_law_1825 ?_
    exact h
theorem b_Law_law_1711 {Ω : Om} {R : Room} {F : QF} {k n : Nat} {σ : Sto} {a1 : Nat} {a2 : Nat} {a3 : Nat} {v4 : Int} (h : 0 ≤ (v4 + 1) ∧ (v4 + 1) < oN Ω ∧ oN Ω < 2147483648 ∧ 0 ≤ (v4 + 2) ∧ (v4 + 2) < oN Ω ∧ oN Ω < 2147483648 ∧ Aw Ω M_Law_law R F k n 1725 [xr (some (oB Ω)), xr (some a1), xr (some a2), xr (some a3), xi v4, xu, xu, xu] [xr (some a3), xi ((oX Ω (v4 + 2).toNat).toInt), xi ((oX Ω (v4 + 1).toNat).toInt), xr (some a1)] σ) : Aw Ω M_Law_law R F k n 1711 [xr (some (oB Ω)), xr (some a1), xr (some a2), xr (some a3), xi v4, xu, xu, xu] [] σ := by
  refine Aw.aload_n rfl d_Law_law_1711 ?_
  refine Aw.aload_n rfl d_Law_law_1712 ?_
  refine Aw.iload rfl d_Law_law_1713 ?_
  refine Aw.iconst d_Law_law_1715 ?_
  refine Aw.iadd d_Law_law_1716 ?_
  obtain ⟨o1, o2, h⟩ := h
  obtain ⟨o3, h⟩ := h
  refine Aw.sld o1 o2 o3 d_Law_law_1717 ?_
  refine Aw.aload_n rfl d_Law_law_1718 ?_
  refine Aw.iload rfl d_Law_law_1719 ?_
  refine Aw.iconst d_Law_law_1721 ?_
  refine Aw.iadd d_Law_law_1722 ?_
  obtain ⟨o4, o5, h⟩ := h
  obtain ⟨o6, h⟩ := h
  refine Aw.sld o4 o5 o6 d_Law_law_1723 ?_
  refine Aw.aload_n rfl d_Law_law_1724 ?_
  exact h
theorem b_Law_law_1728 {Ω : Om} {R : Room} {F : QF} {k n : Nat} {σ : Sto} {a1 : Nat} {a2 : Nat} {a3 : Nat} {v4 : Int} {s0 : Int} (h : 0 ≤ (v4 + 1) ∧ (v4 + 1) < oN Ω ∧ oN Ω < 2147483648 ∧ 0 ≤ (v4 + 2) ∧ (v4 + 2) < oN Ω ∧ oN Ω < 2147483648 ∧ Aw Ω M_Law_law R F k n 1743 [xr (some (oB Ω)), xr (some a1), xr (some a2), xr (some a3), xi v4, xi s0, xu, xu] [xi ((oX Ω (v4 + 2).toNat).toInt), xi ((oX Ω (v4 + 1).toNat).toInt), xr (some a2)] σ) : Aw Ω M_Law_law R F k n 1728 [xr (some (oB Ω)), xr (some a1), xr (some a2), xr (some a3), xi v4, xu, xu, xu] [xi s0] σ := by
  refine Aw.istore (by decide) d_Law_law_1728 ?_
  refine Aw.toL (L' := [xr (some (oB Ω)), xr (some a1), xr (some a2), xr (some a3), xi v4, xi s0, xu, xu]) rfl ?_
  refine Aw.aload_n rfl d_Law_law_1730 ?_
  refine Aw.aload_n rfl d_Law_law_1731 ?_
  refine Aw.iload rfl d_Law_law_1732 ?_
  refine Aw.iconst d_Law_law_1734 ?_
  refine Aw.iadd d_Law_law_1735 ?_
  obtain ⟨o1, o2, h⟩ := h
  obtain ⟨o3, h⟩ := h
  refine Aw.sld o1 o2 o3 d_Law_law_1736 ?_
  refine Aw.aload_n rfl d_Law_law_1737 ?_
  refine Aw.iload rfl d_Law_law_1738 ?_
  refine Aw.iconst d_Law_law_1740 ?_
  refine Aw.iadd d_Law_law_1741 ?_
  obtain ⟨o4, o5, h⟩ := h
  obtain ⟨o6, h⟩ := h
  refine Aw.sld o4 o5 o6 d_Law_law_1742 ?_
  exact h
theorem b_Law_law_1746 {Ω : Om} {R : Room} {F : QF} {k n : Nat} {σ : Sto} {a1 : Nat} {a2 : Nat} {a3 : Nat} {v4 : Int} {v5 : Int} {s0 : Int} (h : Aw Ω M_Law_law R F k n 1749 [xr (some (oB Ω)), xr (some a1), xr (some a2), xr (some a3), xi v4, xi v5, xi s0, xu] [xr (some a2)] σ) : Aw Ω M_Law_law R F k n 1746 [xr (some (oB Ω)), xr (some a1), xr (some a2), xr (some a3), xi v4, xi v5, xu, xu] [xi s0] σ := by
  refine Aw.istore (by decide) d_Law_law_1746 ?_
  refine Aw.toL (L' := [xr (some (oB Ω)), xr (some a1), xr (some a2), xr (some a3), xi v4, xi v5, xi s0, xu]) rfl ?_
  refine Aw.aload_n rfl d_Law_law_1748 ?_
  exact h
theorem b_Law_law_1752 {Ω : Om} {R : Room} {F : QF} {k n : Nat} {σ : Sto} {a1 : Nat} {a2 : Nat} {a3 : Nat} {v4 : Int} {v5 : Int} {v6 : Int} {s0 : Int} (h : Q32 s0 ∧ Q32 v5 ∧ ((s0 = v5 → ((¬ v5 = (0 : Int) → Aw Ω M_Law_law R F k n 23 [xr (some (oB Ω)), xr (some a1), xr (some a2), xr (some a3), xi (v4 + 5), xu, xu, xu] [] σ) ∧ (v5 = (0 : Int) → sK σ a3 = 51 ∧ 0 ≤ (0 : Int) ∧ (0 : Int) < sZ σ a3 ∧ Q32 (cmpL (aL σ a3 0) (lOf v6)) ∧ (((cmpL (aL σ a3 0) (lOf v6)) = (0 : Int) → Aw Ω M_Law_law R F k n 23 [xr (some (oB Ω)), xr (some a1), xr (some a2), xr (some a3), xi (v4 + 5), xu, xu, xu] [] σ) ∧ (¬ (cmpL (aL σ a3 0) (lOf v6)) = (0 : Int) → Aw Ω M_Law_law R F k n 1775 [xr (some (oB Ω)), xr (some a1), xr (some a2), xr (some a3), xi v4, xi v5, xi v6, xu] [xi 0] σ))))) ∧ (¬ s0 = v5 → Aw Ω M_Law_law R F k n 1758 [xr (some (oB Ω)), xr (some a1), xr (some a2), xr (some a3), xi v4, xi v5, xi v6, xu] [xi 0] σ))) : Aw Ω M_Law_law R F k n 1752 [xr (some (oB Ω)), xr (some a1), xr (some a2), xr (some a3), xi v4, xi v5, xi v6, xu] [xi s0] σ := by
  refine Aw.iload rfl d_Law_law_1752 ?_
  obtain ⟨o1, h⟩ := h
  obtain ⟨o2, h⟩ := h
  obtain ⟨ht, hf⟩ := h
  refine Aw.icmp_eq (tgt := 1759) o1 o2 (by decide) d_Law_law_1754 (fun c9 => ?_) (fun c9 => ?_)
  · have h := ht c9
    refine Aw.iload rfl d_Law_law_1759 ?_
    obtain ⟨ht, hf⟩ := h
    refine Aw.if_ne (tgt := 1776) o2 (by decide) d_Law_law_1761 (fun c8 => ?_) (fun c8 => ?_)
    · have h := ht c8
      refine Aw.goto (tgt := 2611) (by decide) d_Law_law_1776 ?_
      refine Aw.iinc rfl d_Law_law_2611 ?_
      refine Aw.toL (L' := [xr (some (oB Ω)), xr (some a1), xr (some a2), xr (some a3), xi (v4 + 5), xi v5, xi v6, xu]) rfl ?_
      refine Aw.goto (tgt := 23) (by decide) d_Law_law_2614 ?_
      exact Aw.toW (L' := [xr (some (oB Ω)), xr (some a1), xr (some a2), xr (some a3), xi (v4 + 5), xu, xu, xu]) ⟨Or.inr rfl, Or.inr rfl, Or.inr rfl, Or.inr rfl, Or.inr rfl, Or.inl rfl, Or.inl rfl, Or.inr rfl, trivial⟩ h
    · have h := hf c8
      refine Aw.aload_n rfl d_Law_law_1764 ?_
      refine Aw.iconst d_Law_law_1765 ?_
      obtain ⟨o3, h⟩ := h
      obtain ⟨o4, o5, h⟩ := h
      refine Aw.lald o3 o4 o5 d_Law_law_1766 ?_
      refine Aw.iload rfl d_Law_law_1767 ?_
      refine Aw.i2l d_Law_law_1769 ?_
      refine Aw.lcmp d_Law_law_1770 ?_
      obtain ⟨o6, h⟩ := h
      obtain ⟨ht, hf⟩ := h
      refine Aw.if_eq (tgt := 1776) o6 (by decide) d_Law_law_1771 (fun c7 => ?_) (fun c7 => ?_)
      · have h := ht c7
        refine Aw.goto (tgt := 2611) (by decide) d_Law_law_1776 ?_
        refine Aw.iinc rfl d_Law_law_2611 ?_
        refine Aw.toL (L' := [xr (some (oB Ω)), xr (some a1), xr (some a2), xr (some a3), xi (v4 + 5), xi v5, xi v6, xu]) rfl ?_
        refine Aw.goto (tgt := 23) (by decide) d_Law_law_2614 ?_
        exact Aw.toW (L' := [xr (some (oB Ω)), xr (some a1), xr (some a2), xr (some a3), xi (v4 + 5), xu, xu, xu]) ⟨Or.inr rfl, Or.inr rfl, Or.inr rfl, Or.inr rfl, Or.inr rfl, Or.inl rfl, Or.inl rfl, Or.inr rfl, trivial⟩ h
      · have h := hf c7
        refine Aw.iconst d_Law_law_1774 ?_
        exact h
  · have h := hf c9
    refine Aw.iconst d_Law_law_1757 ?_
    exact h
theorem b_Law_law_1698 {Ω : Om} {R : Room} {F : QF} {k n : Nat} {σ : Sto} {a1 : Nat} {a2 : Nat} {a3 : Nat} {v4 : Int} (h : Aw Ω M_Law_law R F k n 1699 [xr (some (oB Ω)), xr (some a1), xr (some a2), xr (some a3), xi v4, xu, xu, xu] [xr (some a1)] σ) : Aw Ω M_Law_law R F k n 1698 [xr (some (oB Ω)), xr (some a1), xr (some a2), xr (some a3), xi v4, xu, xu, xu] [] σ := by
  refine Aw.aload_n rfl d_Law_law_1698 ?_
  exact h
theorem b_Law_law_1702 {Ω : Om} {R : Room} {F : QF} {k n : Nat} {σ : Sto} {a1 : Nat} {a2 : Nat} {a3 : Nat} {v4 : Int} {s0 : Int} (h : Aw Ω M_Law_law R F k n 1703 [xr (some (oB Ω)), xr (some a1), xr (some a2), xr (some a3), xi v4, xu, xu, xu] [xr (some a2), xi s0] σ) : Aw Ω M_Law_law R F k n 1702 [xr (some (oB Ω)), xr (some a1), xr (some a2), xr (some a3), xi v4, xu, xu, xu] [xi s0] σ := by
  refine Aw.aload_n rfl d_Law_law_1702 ?_
  exact h
theorem b_Law_law_1706 {Ω : Om} {R : Room} {F : QF} {k n : Nat} {σ : Sto} {a1 : Nat} {a2 : Nat} {a3 : Nat} {v4 : Int} {s0 : Int} {s1 : Int} (h : Q32 s0 ∧ Q32 s1 ∧ ((s0 = s1 → Aw Ω M_Law_law R F k n 23 [xr (some (oB Ω)), xr (some a1), xr (some a2), xr (some a3), xi (v4 + 5), xu, xu, xu] [] σ) ∧ (¬ s0 = s1 → Aw Ω M_Law_law R F k n 1710 [xr (some (oB Ω)), xr (some a1), xr (some a2), xr (some a3), xi v4, xu, xu, xu] [xi 0] σ))) : Aw Ω M_Law_law R F k n 1706 [xr (some (oB Ω)), xr (some a1), xr (some a2), xr (some a3), xi v4, xu, xu, xu] [xi s1, xi s0] σ := by
  obtain ⟨o1, h⟩ := h
  obtain ⟨o2, h⟩ := h
  obtain ⟨ht, hf⟩ := h
  refine Aw.icmp_eq (tgt := 2611) o1 o2 (by decide) d_Law_law_1706 (fun c3 => ?_) (fun c3 => ?_)
  · have h := ht c3
    refine Aw.iinc rfl d_Law_law_2611 ?_
    refine Aw.toL (L' := [xr (some (oB Ω)), xr (some a1), xr (some a2), xr (some a3), xi (v4 + 5), xu, xu, xu]) rfl ?_
    refine Aw.goto (tgt := 23) (by decide) d_Law_law_2614 ?_
    exact h
  · have h := hf c3
    refine Aw.iconst d_Law_law_1709 ?_
    exact h
theorem b_Law_law_1618 {Ω : Om} {R : Room} {F : QF} {k n : Nat} {σ : Sto} {a1 : Nat} {a2 : Nat} {a3 : Nat} {v4 : Int} (h : 0 ≤ (v4 + 1) ∧ (v4 + 1) < oN Ω ∧ oN Ω < 2147483648 ∧ 0 ≤ (v4 + 2) ∧ (v4 + 2) < oN Ω ∧ oN Ω < 2147483648 ∧ 0 ≤ (v4 + 3) ∧ (v4 + 3) < oN Ω ∧ oN Ω < 2147483648 ∧ Aw Ω M_Law_law R F k n 1638 [xr (some (oB Ω)), xr (some a1), xr (some a2), xr (some a3), xi v4, xu, xu, xu] [xr (some a3), xi ((oX Ω (v4 + 3).toNat).toInt), xi ((oX Ω (v4 + 2).toNat).toInt), xi ((oX Ω (v4 + 1).toNat).toInt), xr (some a1)] σ) : Aw Ω M_Law_law R F k n 1618 [xr (some (oB Ω)), xr (some a1), xr (some a2), xr (some a3), xi v4, xu, xu, xu] [] σ := by
  refine Aw.aload_n rfl d_Law_law_1618 ?_
  refine Aw.aload_n rfl d_Law_law_1619 ?_
  refine Aw.iload rfl d_Law_law_1620 ?_
  refine Aw.iconst d_Law_law_1622 ?_
  refine Aw.iadd d_Law_law_1623 ?_
  obtain ⟨o1, o2, h⟩ := h
  obtain ⟨o3, h⟩ := h
  refine Aw.sld o1 o2 o3 d_Law_law_1624 ?_
  refine Aw.aload_n rfl d_Law_law_1625 ?_
  refine Aw.iload rfl d_Law_law_1626 ?_
  refine Aw.iconst d_Law_law_1628 ?_
  refine Aw.iadd d_Law_law_1629 ?_
  obtain ⟨o4, o5, h⟩ := h
  obtain ⟨o6, h⟩ := h
  refine Aw.sld o4 o5 o6 d_Law_law_1630 ?_
  refine Aw.aload_n rfl d_Law_law_1631 ?_
  refine Aw.iload rfl d_Law_law_1632 ?_
  refine Aw.iconst d_Law_law_1634 ?_
  refine Aw.iadd d_Law_law_1635 ?_
  obtain ⟨o7, o8, h⟩ := h
  obtain ⟨o9, h⟩ := h
  refine Aw.sld o7 o8 o9 d_Law_law_1636 ?_
  refine Aw.aload_n rfl d_Law_law_1637 ?_
  exact h
theorem b_Law_law_1641 {Ω : Om} {R : Room} {F : QF} {k n : Nat} {σ : Sto} {a1 : Nat} {a2 : Nat} {a3 : Nat} {v4 : Int} {s0 : Int} (h : 0 ≤ (v4 + 1) ∧ (v4 + 1) < oN Ω ∧ oN Ω < 2147483648 ∧ 0 ≤ (v4 + 2) ∧ (v4 + 2) < oN Ω ∧ oN Ω < 2147483648 ∧ 0 ≤ (v4 + 3) ∧ (v4 + 3) < oN Ω ∧ oN Ω < 2147483648 ∧ Aw Ω M_Law_law R F k n 1662 [xr (some (oB Ω)), xr (some a1), xr (some a2), xr (some a3), xi v4, xi s0, xu, xu] [xi ((oX Ω (v4 + 3).toNat).toInt), xi ((oX Ω (v4 + 2).toNat).toInt), xi ((oX Ω (v4 + 1).toNat).toInt), xr (some a2)] σ) : Aw Ω M_Law_law R F k n 1641 [xr (some (oB Ω)), xr (some a1), xr (some a2), xr (some a3), xi v4, xu, xu, xu] [xi s0] σ := by
  refine Aw.istore (by decide) d_Law_law_1641 ?_
  refine Aw.toL (L' := [xr (some (oB Ω)), xr (some a1), xr (some a2), xr (some a3), xi v4, xi s0, xu, xu]) rfl ?_
  refine Aw.aload_n rfl d_Law_law_1643 ?_
  refine Aw.aload_n rfl d_Law_law_1644 ?_
  refine Aw.iload rfl d_Law_law_1645 ?_
  refine Aw.iconst d_Law_law_1647 ?_
  refine Aw.iadd d_Law_law_1648 ?_
  obtain ⟨o1, o2, h⟩ := h
  obtain ⟨o3, h⟩ := h
  refine Aw.sld o1 o2 o3 d_Law_law_1649 ?_
  refine Aw.aload_n rfl d_Law_law_1650 ?_
  refine Aw.iload rfl d_Law_law_1651 ?_
  refine Aw.iconst d_Law_law_1653 ?_
  refine Aw.iadd d_Law_law_1654 ?_
  obtain ⟨o4, o5, h⟩ := h
  obtain ⟨o6, h⟩ := h
  refine Aw.sld o4 o5 o6 d_Law_law_1655 ?_
  refine Aw.aload_n rfl d_Law_law_1656 ?_
  refine Aw.iload rfl d_Law_law_1657 ?_
  refine Aw.iconst d_Law_law_1659 ?_
  refine Aw.iadd d_Law_law_1660 ?_
  obtain ⟨o7, o8, h⟩ := h
  obtain ⟨o9, h⟩ := h
  refine Aw.sld o7 o8 o9 d_Law_law_1661 ?_
  exact h
theorem b_Law_law_1665 {Ω : Om} {R : Room} {F : QF} {k n : Nat} {σ : Sto} {a1 : Nat} {a2 : Nat} {a3 : Nat} {v4 : Int} {v5 : Int} {s0 : Int} (h : Aw Ω M_Law_law R F k n 1668 [xr (some (oB Ω)), xr (some a1), xr (some a2), xr (some a3), xi v4, xi v5, xi s0, xu] [xr (some a2)] σ) : Aw Ω M_Law_law R F k n 1665 [xr (some (oB Ω)), xr (some a1), xr (some a2), xr (some a3), xi v4, xi v5, xu, xu] [xi s0] σ := by
  refine Aw.istore (by decide) d_Law_law_1665 ?_
  refine Aw.toL (L' := [xr (some (oB Ω)), xr (some a1), xr (some a2), xr (some a3), xi v4, xi v5, xi s0, xu]) rfl ?_
  refine Aw.aload_n rfl d_Law_law_1667 ?_
  exact h
theorem b_Law_law_1671 {Ω : Om} {R : Room} {F : QF} {k n : Nat} {σ : Sto} {a1 : Nat} {a2 : Nat} {a3 : Nat} {v4 : Int} {v5 : Int} {v6 : Int} {s0 : Int} (h : Q32 s0 ∧ Q32 v5 ∧ ((s0 = v5 → ((¬ v5 = (0 : Int) → Aw Ω M_Law_law R F k n 23 [xr (some (oB Ω)), xr (some a1), xr (some a2), xr (some a3), xi (v4 + 5), xu, xu, xu] [] σ) ∧ (v5 = (0 : Int) → sK σ a3 = 51 ∧ 0 ≤ (0 : Int) ∧ (0 : Int) < sZ σ a3 ∧ Q32 (cmpL (aL σ a3 0) (lOf v6)) ∧ (((cmpL (aL σ a3 0) (lOf v6)) = (0 : Int) → Aw Ω M_Law_law R F k n 23 [xr (some (oB Ω)), xr (some a1), xr (some a2), xr (some a3), xi (v4 + 5), xu, xu, xu] [] σ) ∧ (¬ (cmpL (aL σ a3 0) (lOf v6)) = (0 : Int) → Aw Ω M_Law_law R F k n 1694 [xr (some (oB Ω)), xr (some a1), xr (some a2), xr (some a3), xi v4, xi v5, xi v6, xu] [xi 0] σ))))) ∧ (¬ s0 = v5 → Aw Ω M_Law_law R F k n 1677 [xr (some (oB Ω)), xr (some a1), xr (some a2), xr (some a3), xi v4, xi v5, xi v6, xu] [xi 0] σ))) : Aw Ω M_Law_law R F k n 1671 [xr (some (oB Ω)), xr (some a1), xr (some a2), xr (some a3), xi v4, xi v5, xi v6, xu] [xi s0] σ := by
  refine Aw.iload rfl d_Law_law_1671 ?_
  obtain ⟨o1, h⟩ := h
  obtain ⟨o2, h⟩ := h
  obtain ⟨ht, hf⟩ := h
  refine Aw.icmp_eq (tgt := 1678) o1 o2 (by decide) d_Law_law_1673 (fun c9 => ?_) (fun c9 => ?_)
  · have h := ht c9
    refine Aw.iload rfl d_Law_law_1678 ?_
    obtain ⟨ht, hf⟩ := h
    refine Aw.if_ne (tgt := 1695) o2 (by decide) d_Law_law_1680 (fun c8 => ?_) (fun c8 => ?_)
    · have h := ht c8
      refine Aw.goto (tgt := 2611) (by decide) d_Law_law_1695 ?_
      refine Aw.iinc rfl d_Law_law_2611 ?_
      refine Aw.toL (L' := [xr (some (oB Ω)), xr (some a1), xr (some a2), xr (some a3), xi (v4 + 5), xi v5, xi v6, xu]) rfl ?_
      refine Aw.goto (tgt := 23) (by decide) d_Law_law_2614 ?_
      exact Aw.toW (L' := [xr (some (oB Ω)), xr (some a1), xr (some a2), xr (some a3), xi (v4 + 5), xu, xu, xu]) ⟨Or.inr rfl, Or.inr rfl, Or.inr rfl, Or.inr rfl, Or.inr rfl, Or.inl rfl, Or.inl rfl, Or.inr rfl, trivial⟩ h
    · have h := hf c8
      refine Aw.aload_n rfl d_Law_law_1683 ?_
      refine Aw.iconst d_Law_law_1684 ?_
      obtain ⟨o3, h⟩ := h
      obtain ⟨o4, o5, h⟩ := h
      refine Aw.lald o3 o4 o5 d_Law_law_1685 ?_
      refine Aw.iload rfl d_Law_law_1686 ?_
      refine Aw.i2l d_Law_law_1688 ?_
      refine Aw.lcmp d_Law_law_1689 ?_
      obtain ⟨o6, h⟩ := h
      obtain ⟨ht, hf⟩ := h
      refine Aw.if_eq (tgt := 1695) o6 (by decide) d_Law_law_1690 (fun c7 => ?_) (fun c7 => ?_)
      · have h := ht c7
        refine Aw.goto (tgt := 2611) (by decide) d_Law_law_1695 ?_
        refine Aw.iinc rfl d_Law_law_2611 ?_
        refine Aw.toL (L' := [xr (some (oB Ω)), xr (some a1), xr (some a2), xr (some a3), xi (v4 + 5), xi v5, xi v6, xu]) rfl ?_
        refine Aw.goto (tgt := 23) (by decide) d_Law_law_2614 ?_
        exact Aw.toW (L' := [xr (some (oB Ω)), xr (some a1), xr (some a2), xr (some a3), xi (v4 + 5), xu, xu, xu]) ⟨Or.inr rfl, Or.inr rfl, Or.inr rfl, Or.inr rfl, Or.inr rfl, Or.inl rfl, Or.inl rfl, Or.inr rfl, trivial⟩ h
      · have h := hf c7
        refine Aw.iconst d_Law_law_1693 ?_
        exact h
  · have h := hf c9
    refine Aw.iconst d_Law_law_1676 ?_
    exact h
theorem b_Law_law_1550 {Ω : Om} {R : Room} {F : QF} {k n : Nat} {σ : Sto} {a1 : Nat} {a2 : Nat} {a3 : Nat} {v4 : Int} (h : 0 ≤ (v4 + 1) ∧ (v4 + 1) < oN Ω ∧ oN Ω < 2147483648 ∧ 0 ≤ (v4 + 2) ∧ (v4 + 2) < oN Ω ∧ oN Ω < 2147483648 ∧ Aw Ω M_Law_law R F k n 1564 [xr (some (oB Ω)), xr (some a1), xr (some a2), xr (some a3), xi v4, xu, xu, xu] [xr (some a3), xi ((oX Ω (v4 + 2).toNat).toInt), xi ((oX Ω (v4 + 1).toNat).toInt), xr (some a1)] σ) : Aw Ω M_Law_law R F k n 1550 [xr (some (oB Ω)), xr (some a1), xr (some a2), xr (some a3), xi v4, xu, xu, xu] [] σ := by
  refine Aw.aload_n rfl d_Law_law_1550 ?_
  refine Aw.aload_n rfl d_Law_law_1551 ?_
  refine Aw.iload rfl d_Law_law_1552 ?_
  refine Aw.iconst d_Law_law_1554 ?_
  refine Aw.iadd d_Law_law_1555 ?_
  obtain ⟨o1, o2, h⟩ := h
  obtain ⟨o3, h⟩ := h
  refine Aw.sld o1 o2 o3 d_Law_law_1556 ?_
  refine Aw.aload_n rfl d_Law_law_1557 ?_
  refine Aw.iload rfl d_Law_law_1558 ?_
  refine Aw.iconst d_Law_law_1560 ?_
  refine Aw.iadd d_Law_law_1561 ?_
  obtain ⟨o4, o5, h⟩ := h
  obtain ⟨o6, h⟩ := h
  refine Aw.sld o4 o5 o6 d_Law_law_1562 ?_
  refine Aw.aload_n rfl d_Law_law_1563 ?_
  exact h
theorem b_Law_law_1567 {Ω : Om} {R : Room} {F : QF} {k n : Nat} {σ : Sto} {a1 : Nat} {a2 : Nat} {a3 : Nat} {v4 : Int} {s0 : Int} (h : 0 ≤ (v4 + 1) ∧ (v4 + 1) < oN Ω ∧ oN Ω < 2147483648 ∧ 0 ≤ (v4 + 2) ∧ (v4 + 2) < oN Ω ∧ oN Ω < 2147483648 ∧ Aw Ω M_Law_law R F k n 1582 [xr (some (oB Ω)), xr (some a1), xr (some a2), xr (some a3), xi v4, xi s0, xu, xu] [xi ((oX Ω (v4 + 2).toNat).toInt), xi ((oX Ω (v4 + 1).toNat).toInt), xr (some a2)] σ) : Aw Ω M_Law_law R F k n 1567 [xr (some (oB Ω)), xr (some a1), xr (some a2), xr (some a3), xi v4, xu, xu, xu] [xi s0] σ := by
  refine Aw.istore (by decide) d_Law_law_1567 ?_
  refine Aw.toL (L' := [xr (some (oB Ω)), xr (some a1), xr (some a2), xr (some a3), xi v4, xi s0, xu, xu]) rfl ?_
  refine Aw.aload_n rfl d_Law_law_1569 ?_
  refine Aw.aload_n rfl d_Law_law_1570 ?_
  refine Aw.iload rfl d_Law_law_1571 ?_
  refine Aw.iconst d_Law_law_1573 ?_
  refine Aw.iadd d_Law_law_1574 ?_
  obtain ⟨o1, o2, h⟩ := h
  obtain ⟨o3, h⟩ := h
  refine Aw.sld o1 o2 o3 d_Law_law_1575 ?_
  refine Aw.aload_n rfl d_Law_law_1576 ?_
  refine Aw.iload rfl d_Law_law_1577 ?_
  refine Aw.iconst d_Law_law_1579 ?_
  refine Aw.iadd d_Law_law_1580 ?_
  obtain ⟨o4, o5, h⟩ := h
  obtain ⟨o6, h⟩ := h
  refine Aw.sld o4 o5 o6 d_Law_law_1581 ?_
  exact h
theorem b_Law_law_1585 {Ω : Om} {R : Room} {F : QF} {k n : Nat} {σ : Sto} {a1 : Nat} {a2 : Nat} {a3 : Nat} {v4 : Int} {v5 : Int} {s0 : Int} (h : Aw Ω M_Law_law R F k n 1588 [xr (some (oB Ω)), xr (some a1), xr (some a2), xr (some a3), xi v4, xi v5, xi s0, xu] [xr (some a2)] σ) : Aw Ω M_Law_law R F k n 1585 [xr (some (oB Ω)), xr (some a1), xr (some a2), xr (some a3), xi v4, xi v5, xu, xu] [xi s0] σ := by
  refine Aw.istore (by decide) d_Law_law_1585 ?_
  refine Aw.toL (L' := [xr (some (oB Ω)), xr (some a1), xr (some a2), xr (some a3), xi v4, xi v5, xi s0, xu]) rfl ?_
  refine Aw.aload_n rfl d_Law_law_1587 ?_
  exact h
theorem b_Law_law_1591 {Ω : Om} {R : Room} {F : QF} {k n : Nat} {σ : Sto} {a1 : Nat} {a2 : Nat} {a3 : Nat} {v4 : Int} {v5 : Int} {v6 : Int} {s0 : Int} (h : Q32 s0 ∧ Q32 v5 ∧ ((s0 = v5 → ((¬ v5 = (0 : Int) → Aw Ω M_Law_law R F k n 23 [xr (some (oB Ω)), xr (some a1), xr (some a2), xr (some a3), xi (v4 + 5), xu, xu, xu] [] σ) ∧ (v5 = (0 : Int) → sK σ a3 = 51 ∧ 0 ≤ (0 : Int) ∧ (0 : Int) < sZ σ a3 ∧ Q32 (cmpL (aL σ a3 0) (lOf v6)) ∧ (((cmpL (aL σ a3 0) (lOf v6)) = (0 : Int) → Aw Ω M_Law_law R F k n 23 [xr (some (oB Ω)), xr (some a1), xr (some a2), xr (some a3), xi (v4 + 5), xu, xu, xu] [] σ) ∧ (¬ (cmpL (aL σ a3 0) (lOf v6)) = (0 : Int) → Aw Ω M_Law_law R F k n 1614 [xr (some (oB Ω)), xr (some a1), xr (some a2), xr (some a3), xi v4, xi v5, xi v6, xu] [xi 0] σ))))) ∧ (¬ s0 = v5 → Aw Ω M_Law_law R F k n 1597 [xr (some (oB Ω)), xr (some a1), xr (some a2), xr (some a3), xi v4, xi v5, xi v6, xu] [xi 0] σ))) : Aw Ω M_Law_law R F k n 1591 [xr (some (oB Ω)), xr (some a1), xr (some a2), xr (some a3), xi v4, xi v5, xi v6, xu] [xi s0] σ := by
  refine Aw.iload rfl d_Law_law_1591 ?_
  obtain ⟨o1, h⟩ := h
  obtain ⟨o2, h⟩ := h
  obtain ⟨ht, hf⟩ := h
  refine Aw.icmp_eq (tgt := 1598) o1 o2 (by decide) d_Law_law_1593 (fun c9 => ?_) (fun c9 => ?_)
  · have h := ht c9
    refine Aw.iload rfl d_Law_law_1598 ?_
    obtain ⟨ht, hf⟩ := h
    refine Aw.if_ne (tgt := 1615) o2 (by decide) d_Law_law_1600 (fun c8 => ?_) (fun c8 => ?_)
    · have h := ht c8
      refine Aw.goto (tgt := 2611) (by decide) d_Law_law_1615 ?_
      refine Aw.iinc rfl d_Law_law_2611 ?_
      refine Aw.toL (L' := [xr (some (oB Ω)), xr (some a1), xr (some a2), xr (some a3), xi (v4 + 5), xi v5, xi v6, xu]) rfl ?_
      refine Aw.goto (tgt := 23) (by decide) d_Law_law_2614 ?_
      exact Aw.toW (L' := [xr (some (oB Ω)), xr (some a1), xr (some a2), xr (some a3), xi (v4 + 5), xu, xu, xu]) ⟨Or.inr rfl, Or.inr rfl, Or.inr rfl, Or.inr rfl, Or.inr rfl, Or.inl rfl, Or.inl rfl, Or.inr rfl, trivial⟩ h
    · have h := hf c8
      refine Aw.aload_n rfl d_Law_law_1603 ?_
      refine Aw.iconst d_Law_law_1604 ?_
      obtain ⟨o3, h⟩ := h
      obtain ⟨o4, o5, h⟩ := h
      refine Aw.lald o3 o4 o5 d_Law_law_1605 ?_
      refine Aw.iload rfl d_Law_law_1606 ?_
      refine Aw.i2l d_Law_law_1608 ?_
      refine Aw.lcmp d_Law_law_1609 ?_
      obtain ⟨o6, h⟩ := h
      obtain ⟨ht, hf⟩ := h
      refine Aw.if_eq (tgt := 1615) o6 (by decide) d_Law_law_1610 (fun c7 => ?_) (fun c7 => ?_)
      · have h := ht c7
        refine Aw.goto (tgt := 2611) (by decide) d_Law_law_1615 ?_
        refine Aw.iinc rfl d_Law_law_2611 ?_
        refine Aw.toL (L' := [xr (some (oB Ω)), xr (some a1), xr (some a2), xr (some a3), xi (v4 + 5), xi v5, xi v6, xu]) rfl ?_
        refine Aw.goto (tgt := 23) (by decide) d_Law_law_2614 ?_
        exact Aw.toW (L' := [xr (some (oB Ω)), xr (some a1), xr (some a2), xr (some a3), xi (v4 + 5), xu, xu, xu]) ⟨Or.inr rfl, Or.inr rfl, Or.inr rfl, Or.inr rfl, Or.inr rfl, Or.inl rfl, Or.inl rfl, Or.inr rfl, trivial⟩ h
      · have h := hf c7
        refine Aw.iconst d_Law_law_1613 ?_
        exact h
  · have h := hf c9
    refine Aw.iconst d_Law_law_1596 ?_
    exact h
theorem b_Law_law_1482 {Ω : Om} {R : Room} {F : QF} {k n : Nat} {σ : Sto} {a1 : Nat} {a2 : Nat} {a3 : Nat} {v4 : Int} (h : 0 ≤ (v4 + 1) ∧ (v4 + 1) < oN Ω ∧ oN Ω < 2147483648 ∧ 0 ≤ (v4 + 2) ∧ (v4 + 2) < oN Ω ∧ oN Ω < 2147483648 ∧ Aw Ω M_Law_law R F k n 1496 [xr (some (oB Ω)), xr (some a1), xr (some a2), xr (some a3), xi v4, xu, xu, xu] [xr (some a3), xi ((oX Ω (v4 + 2).toNat).toInt), xi ((oX Ω (v4 + 1).toNat).toInt), xr (some a1)] σ) : Aw Ω M_Law_law R F k n 1482 [xr (some (oB Ω)), xr (some a1), xr (some a2), xr (some a3), xi v4, xu, xu, xu] [] σ := by
  refine Aw.aload_n rfl d_Law_law_1482 ?_
  refine Aw.aload_n rfl d_Law_law_1483 ?_
  refine Aw.iload rfl d_Law_law_1484 ?_
  refine Aw.iconst d_Law_law_1486 ?_
  refine Aw.iadd d_Law_law_1487 ?_
  obtain ⟨o1, o2, h⟩ := h
  obtain ⟨o3, h⟩ := h
  refine Aw.sld o1 o2 o3 d_Law_law_1488 ?_
  refine Aw.aload_n rfl d_Law_law_1489 ?_
  refine Aw.iload rfl d_Law_law_1490 ?_
  refine Aw.iconst d_Law_law_1492 ?_
  refine Aw.iadd d_Law_law_1493 ?_
  obtain ⟨o4, o5, h⟩ := h
  obtain ⟨o6, h⟩ := h
  refine Aw.sld o4 o5 o6 d_Law_law_1494 ?_
  refine Aw.aload_n rfl d_Law_law_1495 ?_
  exact h
theorem b_Law_law_1499 {Ω : Om} {R : Room} {F : QF} {k n : Nat} {σ : Sto} {a1 : Nat} {a2 : Nat} {a3 : Nat} {v4 : Int} {s0 : Int} (h : 0 ≤ (v4 + 1) ∧ (v4 + 1) < oN Ω ∧ oN Ω < 2147483648 ∧ 0 ≤ (v4 + 2) ∧ (v4 + 2) < oN Ω ∧ oN Ω < 2147483648 ∧ Aw Ω M_Law_law R F k n 1514 [xr (some (oB Ω)), xr (some a1), xr (some a2), xr (some a3), xi v4, xi s0, xu, xu] [xi ((oX Ω (v4 + 2).toNat).toInt), xi ((oX Ω (v4 + 1).toNat).toInt), xr (some a2)] σ) : Aw Ω M_Law_law R F k n 1499 [xr (some (oB Ω)), xr (some a1), xr (some a2), xr (some a3), xi v4, xu, xu, xu] [xi s0] σ := by
  refine Aw.istore (by decide) d_Law_law_1499 ?_
  refine Aw.toL (L' := [xr (some (oB Ω)), xr (some a1), xr (some a2), xr (some a3), xi v4, xi s0, xu, xu]) rfl ?_
  refine Aw.aload_n rfl d_Law_law_1501 ?_
  refine Aw.aload_n rfl d_Law_law_1502 ?_
  refine Aw.iload rfl d_Law_law_1503 ?_
  refine Aw.iconst d_Law_law_1505 ?_
  refine Aw.iadd d_Law_law_1506 ?_
  obtain ⟨o1, o2, h⟩ := h
  obtain ⟨o3, h⟩ := h
  refine Aw.sld o1 o2 o3 d_Law_law_1507 ?_
  refine Aw.aload_n rfl d_Law_law_1508 ?_
  refine Aw.iload rfl d_Law_law_1509 ?_
  refine Aw.iconst d_Law_law_1511 ?_
  refine Aw.iadd d_Law_law_1512 ?_
  obtain ⟨o4, o5, h⟩ := h
  obtain ⟨o6, h⟩ := h
  refine Aw.sld o4 o5 o6 d_Law_law_1513 ?_
  exact h
theorem b_Law_law_1517 {Ω : Om} {R : Room} {F : QF} {k n : Nat} {σ : Sto} {a1 : Nat} {a2 : Nat} {a3 : Nat} {v4 : Int} {v5 : Int} {s0 : Int} (h : Aw Ω M_Law_law R F k n 1520 [xr (some (oB Ω)), xr (some a1), xr (some a2), xr (some a3), xi v4, xi v5, xi s0, xu] [xr (some a2)] σ) : Aw Ω M_Law_law R F k n 1517 [xr (some (oB Ω)), xr (some a1), xr (some a2), xr (some a3), xi v4, xi v5, xu, xu] [xi s0] σ := by
  refine Aw.istore (by decide) d_Law_law_1517 ?_
  refine Aw.toL (L' := [xr (some (oB Ω)), xr (some a1), xr (some a2), xr (some a3), xi v4, xi v5, xi s0, xu]) rfl ?_
  refine Aw.aload_n rfl d_Law_law_1519 ?_
  exact h
theorem b_Law_law_1523 {Ω : Om} {R : Room} {F : QF} {k n : Nat} {σ : Sto} {a1 : Nat} {a2 : Nat} {a3 : Nat} {v4 : Int} {v5 : Int} {v6 : Int} {s0 : Int} (h : Q32 s0 ∧ Q32 v5 ∧ ((s0 = v5 → ((¬ v5 = (0 : Int) → Aw Ω M_Law_law R F k n 23 [xr (some (oB Ω)), xr (some a1), xr (some a2), xr (some a3), xi (v4 + 5), xu, xu, xu] [] σ) ∧ (v5 = (0 : Int) → sK σ a3 = 51 ∧ 0 ≤ (0 : Int) ∧ (0 : Int) < sZ σ a3 ∧ Q32 (cmpL (aL σ a3 0) (lOf v6)) ∧ (((cmpL (aL σ a3 0) (lOf v6)) = (0 : Int) → Aw Ω M_Law_law R F k n 23 [xr (some (oB Ω)), xr (some a1), xr (some a2), xr (some a3), xi (v4 + 5), xu, xu, xu] [] σ) ∧ (¬ (cmpL (aL σ a3 0) (lOf v6)) = (0 : Int) → Aw Ω M_Law_law R F k n 1546 [xr (some (oB Ω)), xr (some a1), xr (some a2), xr (some a3), xi v4, xi v5, xi v6, xu] [xi 0] σ))))) ∧ (¬ s0 = v5 → Aw Ω M_Law_law R F k n 1529 [xr (some (oB Ω)), xr (some a1), xr (some a2), xr (some a3), xi v4, xi v5, xi v6, xu] [xi 0] σ))) : Aw Ω M_Law_law R F k n 1523 [xr (some (oB Ω)), xr (some a1), xr (some a2), xr (some a3), xi v4, xi v5, xi v6, xu] [xi s0] σ := by
  refine Aw.iload rfl d_Law_law_1523 ?_
  obtain ⟨o1, h⟩ := h
  obtain ⟨o2, h⟩ := h
  obtain ⟨ht, hf⟩ := h
  refine Aw.icmp_eq (tgt := 1530) o1 o2 (by decide) d_Law_law_1525 (fun c9 => ?_) (fun c9 => ?_)
  · have h := ht c9
    refine Aw.iload rfl d_Law_law_1530 ?_
    obtain ⟨ht, hf⟩ := h
    refine Aw.if_ne (tgt := 1547) o2 (by decide) d_Law_law_1532 (fun c8 => ?_) (fun c8 => ?_)
    · have h := ht c8
      refine Aw.goto (tgt := 2611) (by decide) d_Law_law_1547 ?_
      refine Aw.iinc rfl d_Law_law_2611 ?_
      refine Aw.toL (L' := [xr (some (oB Ω)), xr (some a1), xr (some a2), xr (some a3), xi (v4 + 5), xi v5, xi v6, xu]) rfl ?_
      refine Aw.goto (tgt := 23) (by decide) d_Law_law_2614 ?_
      exact Aw.toW (L' := [xr (some (oB Ω)), xr (some a1), xr (some a2), xr (some a3), xi (v4 + 5), xu, xu, xu]) ⟨Or.inr rfl, Or.inr rfl, Or.inr rfl, Or.inr rfl, Or.inr rfl, Or.inl rfl, Or.inl rfl, Or.inr rfl, trivial⟩ h
    · have h := hf c8
      refine Aw.aload_n rfl d_Law_law_1535 ?_
      refine Aw.iconst d_Law_law_1536 ?_
      obtain ⟨o3, h⟩ := h
      obtain ⟨o4, o5, h⟩ := h
      refine Aw.lald o3 o4 o5 d_Law_law_1537 ?_
      refine Aw.iload rfl d_Law_law_1538 ?_
      refine Aw.i2l d_Law_law_1540 ?_
      refine Aw.lcmp d_Law_law_1541 ?_
      obtain ⟨o6, h⟩ := h
      obtain ⟨ht, hf⟩ := h
      refine Aw.if_eq (tgt := 1547) o6 (by decide) d_Law_law_1542 (fun c7 => ?_) (fun c7 => ?_)
      · have h := ht c7
        refine Aw.goto (tgt := 2611) (by decide) d_Law_law_1547 ?_
        refine Aw.iinc rfl d_Law_law_2611 ?_
        refine Aw.toL (L' := [xr (some (oB Ω)), xr (some a1), xr (some a2), xr (some a3), xi (v4 + 5), xi v5, xi v6, xu]) rfl ?_
        refine Aw.goto (tgt := 23) (by decide) d_Law_law_2614 ?_
        exact Aw.toW (L' := [xr (some (oB Ω)), xr (some a1), xr (some a2), xr (some a3), xi (v4 + 5), xu, xu, xu]) ⟨Or.inr rfl, Or.inr rfl, Or.inr rfl, Or.inr rfl, Or.inr rfl, Or.inl rfl, Or.inl rfl, Or.inr rfl, trivial⟩ h
      · have h := hf c7
        refine Aw.iconst d_Law_law_1545 ?_
        exact h
  · have h := hf c9
    refine Aw.iconst d_Law_law_1528 ?_
    exact h
theorem b_Law_law_1350 {Ω : Om} {R : Room} {F : QF} {k n : Nat} {σ : Sto} {a1 : Nat} {a2 : Nat} {a3 : Nat} {v4 : Int} (h : 0 ≤ (v4 + 1) ∧ (v4 + 1) < oN Ω ∧ oN Ω < 2147483648 ∧ 0 ≤ (v4 + 2) ∧ (v4 + 2) < oN Ω ∧ oN Ω < 2147483648 ∧ 0 ≤ (v4 + 3) ∧ (v4 + 3) < oN Ω ∧ oN Ω < 2147483648 ∧ 0 ≤ (v4 + 4) ∧ (v4 + 4) < oN Ω ∧ oN Ω < 2147483648 ∧ Aw Ω M_Law_law R F k n 1396 [xr (some (oB Ω)), xr (some a1), xr (some a2), xr (some a3), xi v4, xu, xu, xu] [xr (some a3), xl ((lShl (lOf ((oX Ω (v4 + 3).toNat).toInt)) 32) ||| ((lOf ((oX Ω (v4 + 4).toNat).toInt)) &&& 4294967295)), xl ((lShl (lOf ((oX Ω (v4 + 1).toNat).toInt)) 32) ||| ((lOf ((oX Ω (v4 + 2).toNat).toInt)) &&& 4294967295)), xr (some a1)] σ) : Aw Ω M_Law_law R F k n 1350 [xr (some (oB Ω)), xr (some a1), xr (some a2), xr (some a3), xi v4, xu, xu, xu] [] σ := by
  refine Aw.aload_n rfl d_Law_law_1350 ?_
  refine Aw.aload_n rfl d_Law_law_1351 ?_
  refine Aw.iload rfl d_Law_law_1352 ?_
  refine Aw.iconst d_Law_law_1354 ?_
  refine Aw.iadd d_Law_law_1355 ?_
  obtain ⟨o1, o2, h⟩ := h
  obtain ⟨o3, h⟩ := h
  refine Aw.sld o1 o2 o3 d_Law_law_1356 ?_
  refine Aw.i2l d_Law_law_1357 ?_
  refine Aw.bipush (by decide) d_Law_law_1358 ?_
  refine Aw.lshl d_Law_law_1360 ?_
  refine Aw.aload_n rfl d_Law_law_1361 ?_
  refine Aw.iload rfl d_Law_law_1362 ?_
  refine Aw.iconst d_Law_law_1364 ?_
  refine Aw.iadd d_Law_law_1365 ?_
  obtain ⟨o4, o5, h⟩ := h
  obtain ⟨o6, h⟩ := h
  refine Aw.sld o4 o5 o6 d_Law_law_1366 ?_
  refine Aw.i2l d_Law_law_1367 ?_
  refine Aw.ldc2 (v := 4294967295) lg_Law_141 d_Law_law_1368 ?_
  refine Aw.land d_Law_law_1371 ?_
  refine Aw.lor d_Law_law_1372 ?_
  refine Aw.aload_n rfl d_Law_law_1373 ?_
  refine Aw.iload rfl d_Law_law_1374 ?_
  refine Aw.iconst d_Law_law_1376 ?_
  refine Aw.iadd d_Law_law_1377 ?_
  obtain ⟨o7, o8, h⟩ := h
  obtain ⟨o9, h⟩ := h
  refine Aw.sld o7 o8 o9 d_Law_law_1378 ?_
  refine Aw.i2l d_Law_law_1379 ?_
  refine Aw.bipush (by decide) d_Law_law_1380 ?_
  refine Aw.lshl d_Law_law_1382 ?_
  refine Aw.aload_n rfl d_Law_law_1383 ?_
  refine Aw.iload rfl d_Law_law_1384 ?_
  refine Aw.iconst d_Law_law_1386 ?_
  refine Aw.iadd d_Law_law_1387 ?_
  obtain ⟨o10, o11, h⟩ := h
  obtain ⟨o12, h⟩ := h
  refine Aw.sld o10 o11 o12 d_Law_law_1388 ?_
  refine Aw.i2l d_Law_law_1389 ?_
  refine Aw.ldc2 (v := 4294967295) lg_Law_141 d_Law_law_1390 ?_
  refine Aw.land d_Law_law_1393 ?_
  refine Aw.lor d_Law_law_1394 ?_
  refine Aw.aload_n rfl d_Law_law_1395 ?_
  exact h
theorem b_Law_law_1399 {Ω : Om} {R : Room} {F : QF} {k n : Nat} {σ : Sto} {a1 : Nat} {a2 : Nat} {a3 : Nat} {v4 : Int} {s0 : Int} (h : 0 ≤ (v4 + 1) ∧ (v4 + 1) < oN Ω ∧ oN Ω < 2147483648 ∧ 0 ≤ (v4 + 2) ∧ (v4 + 2) < oN Ω ∧ oN Ω < 2147483648 ∧ 0 ≤ (v4 + 3) ∧ (v4 + 3) < oN Ω ∧ oN Ω < 2147483648 ∧ 0 ≤ (v4 + 4) ∧ (v4 + 4) < oN Ω ∧ oN Ω < 2147483648 ∧ Aw Ω M_Law_law R F k n 1446 [xr (some (oB Ω)), xr (some a1), xr (some a2), xr (some a3), xi v4, xi s0, xu, xu] [xl ((lShl (lOf ((oX Ω (v4 + 3).toNat).toInt)) 32) ||| ((lOf ((oX Ω (v4 + 4).toNat).toInt)) &&& 4294967295)), xl ((lShl (lOf ((oX Ω (v4 + 1).toNat).toInt)) 32) ||| ((lOf ((oX Ω (v4 + 2).toNat).toInt)) &&& 4294967295)), xr (some a2)] σ) : Aw Ω M_Law_law R F k n 1399 [xr (some (oB Ω)), xr (some a1), xr (some a2), xr (some a3), xi v4, xu, xu, xu] [xi s0] σ := by
  refine Aw.istore (by decide) d_Law_law_1399 ?_
  refine Aw.toL (L' := [xr (some (oB Ω)), xr (some a1), xr (some a2), xr (some a3), xi v4, xi s0, xu, xu]) rfl ?_
  refine Aw.aload_n rfl d_Law_law_1401 ?_
  refine Aw.aload_n rfl d_Law_law_1402 ?_
  refine Aw.iload rfl d_Law_law_1403 ?_
  refine Aw.iconst d_Law_law_1405 ?_
  refine Aw.iadd d_Law_law_1406 ?_
  obtain ⟨o1, o2, h⟩ := h
  obtain ⟨o3, h⟩ := h
  refine Aw.sld o1 o2 o3 d_Law_law_1407 ?_
  refine Aw.i2l d_Law_law_1408 ?_
  refine Aw.bipush (by decide) d_Law_law_1409 ?_
  refine Aw.lshl d_Law_law_1411 ?_
  refine Aw.aload_n rfl d_Law_law_1412 ?_
  refine Aw.iload rfl d_Law_law_1413 ?_
  refine Aw.iconst d_Law_law_1415 ?_
  refine Aw.iadd d_Law_law_1416 ?_
  obtain ⟨o4, o5, h⟩ := h
  obtain ⟨o6, h⟩ := h
  refine Aw.sld o4 o5 o6 d_Law_law_1417 ?_
  refine Aw.i2l d_Law_law_1418 ?_
  refine Aw.ldc2 (v := 4294967295) lg_Law_141 d_Law_law_1419 ?_
  refine Aw.land d_Law_law_1422 ?_
  refine Aw.lor d_Law_law_1423 ?_
  refine Aw.aload_n rfl d_Law_law_1424 ?_
  refine Aw.iload rfl d_Law_law_1425 ?_
  refine Aw.iconst d_Law_law_1427 ?_
  refine Aw.iadd d_Law_law_1428 ?_
  obtain ⟨o7, o8, h⟩ := h
  obtain ⟨o9, h⟩ := h
  refine Aw.sld o7 o8 o9 d_Law_law_1429 ?_
  refine Aw.i2l d_Law_law_1430 ?_
  refine Aw.bipush (by decide) d_Law_law_1431 ?_
  refine Aw.lshl d_Law_law_1433 ?_
  refine Aw.aload_n rfl d_Law_law_1434 ?_
  refine Aw.iload rfl d_Law_law_1435 ?_
  refine Aw.iconst d_Law_law_1437 ?_
  refine Aw.iadd d_Law_law_1438 ?_
  obtain ⟨o10, o11, h⟩ := h
  obtain ⟨o12, h⟩ := h
  refine Aw.sld o10 o11 o12 d_Law_law_1439 ?_
  refine Aw.i2l d_Law_law_1440 ?_
  refine Aw.ldc2 (v := 4294967295) lg_Law_141 d_Law_law_1441 ?_
  refine Aw.land d_Law_law_1444 ?_
  refine Aw.lor d_Law_law_1445 ?_
  exact h
theorem b_Law_law_1449 {Ω : Om} {R : Room} {F : QF} {k n : Nat} {σ : Sto} {a1 : Nat} {a2 : Nat} {a3 : Nat} {v4 : Int} {v5 : Int} {s0 : Int} (h : Aw Ω M_Law_law R F k n 1452 [xr (some (oB Ω)), xr (some a1), xr (some a2), xr (some a3), xi v4, xi v5, xi s0, xu] [xr (some a2)] σ) : Aw Ω M_Law_law R F k n 1449 [xr (some (oB Ω)), xr (some a1), xr (some a2), xr (some a3), xi v4, xi v5, xu, xu] [xi s0] σ := by
  refine Aw.istore (by decide) d_Law_law_1449 ?_
  refine Aw.toL (L' := [xr (some (oB Ω)), xr (some a1), xr (some a2), xr (some a3), xi v4, xi v5, xi s0, xu]) rfl ?_
  refine Aw.aload_n rfl d_Law_law_1451 ?_
  exact h
theorem b_Law_law_1455 {Ω : Om} {R : Room} {F : QF} {k n : Nat} {σ : Sto} {a1 : Nat} {a2 : Nat} {a3 : Nat} {v4 : Int} {v5 : Int} {v6 : Int} {s0 : Int} (h : Q32 s0 ∧ Q32 v5 ∧ ((s0 = v5 → ((¬ v5 = (0 : Int) → Aw Ω M_Law_law R F k n 23 [xr (some (oB Ω)), xr (some a1), xr (some a2), xr (some a3), xi (v4 + 5), xu, xu, xu] [] σ) ∧ (v5 = (0 : Int) → sK σ a3 = 51 ∧ 0 ≤ (0 : Int) ∧ (0 : Int) < sZ σ a3 ∧ Q32 (cmpL (aL σ a3 0) (lOf v6)) ∧ (((cmpL (aL σ a3 0) (lOf v6)) = (0 : Int) → Aw Ω M_Law_law R F k n 23 [xr (some (oB Ω)), xr (some a1), xr (some a2), xr (some a3), xi (v4 + 5), xu, xu, xu] [] σ) ∧ (¬ (cmpL (aL σ a3 0) (lOf v6)) = (0 : Int) → Aw Ω M_Law_law R F k n 1478 [xr (some (oB Ω)), xr (some a1), xr (some a2), xr (some a3), xi v4, xi v5, xi v6, xu] [xi 0] σ))))) ∧ (¬ s0 = v5 → Aw Ω M_Law_law R F k n 1461 [xr (some (oB Ω)), xr (some a1), xr (some a2), xr (some a3), xi v4, xi v5, xi v6, xu] [xi 0] σ))) : Aw Ω M_Law_law R F k n 1455 [xr (some (oB Ω)), xr (some a1), xr (some a2), xr (some a3), xi v4, xi v5, xi v6, xu] [xi s0] σ := by
  refine Aw.iload rfl d_Law_law_1455 ?_
  obtain ⟨o1, h⟩ := h
  obtain ⟨o2, h⟩ := h
  obtain ⟨ht, hf⟩ := h
  refine Aw.icmp_eq (tgt := 1462) o1 o2 (by decide) d_Law_law_1457 (fun c9 => ?_) (fun c9 => ?_)
  · have h := ht c9
    refine Aw.iload rfl d_Law_law_1462 ?_
    obtain ⟨ht, hf⟩ := h
    refine Aw.if_ne (tgt := 1479) o2 (by decide) d_Law_law_1464 (fun c8 => ?_) (fun c8 => ?_)
    · have h := ht c8
      refine Aw.goto (tgt := 2611) (by decide) d_Law_law_1479 ?_
      refine Aw.iinc rfl d_Law_law_2611 ?_
      refine Aw.toL (L' := [xr (some (oB Ω)), xr (some a1), xr (some a2), xr (some a3), xi (v4 + 5), xi v5, xi v6, xu]) rfl ?_
      refine Aw.goto (tgt := 23) (by decide) d_Law_law_2614 ?_
      exact Aw.toW (L' := [xr (some (oB Ω)), xr (some a1), xr (some a2), xr (some a3), xi (v4 + 5), xu, xu, xu]) ⟨Or.inr rfl, Or.inr rfl, Or.inr rfl, Or.inr rfl, Or.inr rfl, Or.inl rfl, Or.inl rfl, Or.inr rfl, trivial⟩ h
    · have h := hf c8
      refine Aw.aload_n rfl d_Law_law_1467 ?_
      refine Aw.iconst d_Law_law_1468 ?_
      obtain ⟨o3, h⟩ := h
      obtain ⟨o4, o5, h⟩ := h
      refine Aw.lald o3 o4 o5 d_Law_law_1469 ?_
      refine Aw.iload rfl d_Law_law_1470 ?_
      refine Aw.i2l d_Law_law_1472 ?_
      refine Aw.lcmp d_Law_law_1473 ?_
      obtain ⟨o6, h⟩ := h
      obtain ⟨ht, hf⟩ := h
      refine Aw.if_eq (tgt := 1479) o6 (by decide) d_Law_law_1474 (fun c7 => ?_) (fun c7 => ?_)
      · have h := ht c7
        refine Aw.goto (tgt := 2611) (by decide) d_Law_law_1479 ?_
        refine Aw.iinc rfl d_Law_law_2611 ?_
        refine Aw.toL (L' := [xr (some (oB Ω)), xr (some a1), xr (some a2), xr (some a3), xi (v4 + 5), xi v5, xi v6, xu]) rfl ?_
        refine Aw.goto (tgt := 23) (by decide) d_Law_law_2614 ?_
        exact Aw.toW (L' := [xr (some (oB Ω)), xr (some a1), xr (some a2), xr (some a3), xi (v4 + 5), xu, xu, xu]) ⟨Or.inr rfl, Or.inr rfl, Or.inr rfl, Or.inr rfl, Or.inr rfl, Or.inl rfl, Or.inl rfl, Or.inr rfl, trivial⟩ h
      · have h := hf c7
        refine Aw.iconst d_Law_law_1477 ?_
        exact h
  · have h := hf c9
    refine Aw.iconst d_Law_law_1460 ?_
    exact h
theorem b_Law_law_1294 {Ω : Om} {R : Room} {F : QF} {k n : Nat} {σ : Sto} {a1 : Nat} {a2 : Nat} {a3 : Nat} {v4 : Int} (h : 0 ≤ (v4 + 1) ∧ (v4 + 1) < oN Ω ∧ oN Ω < 2147483648 ∧ Aw Ω M_Law_law R F k n 1302 [xr (some (oB Ω)), xr (some a1), xr (some a2), xr (some a3), xi v4, xu, xu, xu] [xr (some a3), xi ((oX Ω (v4 + 1).toNat).toInt), xr (some a1)] σ) : Aw Ω M_Law_law R F k n 1294 [xr (some (oB Ω)), xr (some a1), xr (some a2), xr (some a3), xi v4, xu, xu, xu] [] σ := by
  refine Aw.aload_n rfl d_Law_law_1294 ?_
  refine Aw.aload_n rfl d_Law_law_1295 ?_
  refine Aw.iload rfl d_Law_law_1296 ?_
  refine Aw.iconst d_Law_law_1298 ?_
  refine Aw.iadd d_Law_law_1299 ?_
  obtain ⟨o1, o2, h⟩ := h
  obtain ⟨o3, h⟩ := h
  refine Aw.sld o1 o2 o3 d_Law_law_1300 ?_
  refine Aw.aload_n rfl d_Law_law_1301 ?_
  exact h
theorem b_Law_law_1305 {Ω : Om} {R : Room} {F : QF} {k n : Nat} {σ : Sto} {a1 : Nat} {a2 : Nat} {a3 : Nat} {v4 : Int} {s0 : Int} (h : 0 ≤ (v4 + 1) ∧ (v4 + 1) < oN Ω ∧ oN Ω < 2147483648 ∧ Aw Ω M_Law_law R F k n 1314 [xr (some (oB Ω)), xr (some a1), xr (some a2), xr (some a3), xi v4, xi s0, xu, xu] [xi ((oX Ω (v4 + 1).toNat).toInt), xr (some a2)] σ) : Aw Ω M_Law_law R F k n 1305 [xr (some (oB Ω)), xr (some a1), xr (some a2), xr (some a3), xi v4, xu, xu, xu] [xi s0] σ := by
  refine Aw.istore (by decide) d_Law_law_1305 ?_
  refine Aw.toL (L' := [xr (some (oB Ω)), xr (some a1), xr (some a2), xr (some a3), xi v4, xi s0, xu, xu]) rfl ?_
  refine Aw.aload_n rfl d_Law_law_1307 ?_
  refine Aw.aload_n rfl d_Law_law_1308 ?_
  refine Aw.iload rfl d_Law_law_1309 ?_
  refine Aw.iconst d_Law_law_1311 ?_
  refine Aw.iadd d_Law_law_1312 ?_
  obtain ⟨o1, o2, h⟩ := h
  obtain ⟨o3, h⟩ := h
  refine Aw.sld o1 o2 o3 d_Law_law_1313 ?_
  exact h
theorem b_Law_law_1317 {Ω : Om} {R : Room} {F : QF} {k n : Nat} {σ : Sto} {a1 : Nat} {a2 : Nat} {a3 : Nat} {v4 : Int} {v5 : Int} {s0 : Int} (h : Aw Ω M_Law_law R F k n 1320 [xr (some (oB Ω)), xr (some a1), xr (some a2), xr (some a3), xi v4, xi v5, xi s0, xu] [xr (some a2)] σ) : Aw Ω M_Law_law R F k n 1317 [xr (some (oB Ω)), xr (some a1), xr (some a2), xr (some a3), xi v4, xi v5, xu, xu] [xi s0] σ := by
  refine Aw.istore (by decide) d_Law_law_1317 ?_
  refine Aw.toL (L' := [xr (some (oB Ω)), xr (some a1), xr (some a2), xr (some a3), xi v4, xi v5, xi s0, xu]) rfl ?_
  refine Aw.aload_n rfl d_Law_law_1319 ?_
  exact h
theorem b_Law_law_1323 {Ω : Om} {R : Room} {F : QF} {k n : Nat} {σ : Sto} {a1 : Nat} {a2 : Nat} {a3 : Nat} {v4 : Int} {v5 : Int} {v6 : Int} {s0 : Int} (h : Q32 s0 ∧ Q32 v5 ∧ ((s0 = v5 → ((¬ v5 = (0 : Int) → Aw Ω M_Law_law R F k n 23 [xr (some (oB Ω)), xr (some a1), xr (some a2), xr (some a3), xi (v4 + 5), xu, xu, xu] [] σ) ∧ (v5 = (0 : Int) → sK σ a3 = 51 ∧ 0 ≤ (0 : Int) ∧ (0 : Int) < sZ σ a3 ∧ Q32 (cmpL (aL σ a3 0) (lOf v6)) ∧ (((cmpL (aL σ a3 0) (lOf v6)) = (0 : Int) → Aw Ω M_Law_law R F k n 23 [xr (some (oB Ω)), xr (some a1), xr (some a2), xr (some a3), xi (v4 + 5), xu, xu, xu] [] σ) ∧ (¬ (cmpL (aL σ a3 0) (lOf v6)) = (0 : Int) → Aw Ω M_Law_law R F k n 1346 [xr (some (oB Ω)), xr (some a1), xr (some a2), xr (some a3), xi v4, xi v5, xi v6, xu] [xi 0] σ))))) ∧ (¬ s0 = v5 → Aw Ω M_Law_law R F k n 1329 [xr (some (oB Ω)), xr (some a1), xr (some a2), xr (some a3), xi v4, xi v5, xi v6, xu] [xi 0] σ))) : Aw Ω M_Law_law R F k n 1323 [xr (some (oB Ω)), xr (some a1), xr (some a2), xr (some a3), xi v4, xi v5, xi v6, xu] [xi s0] σ := by
  refine Aw.iload rfl d_Law_law_1323 ?_
  obtain ⟨o1, h⟩ := h
  obtain ⟨o2, h⟩ := h
  obtain ⟨ht, hf⟩ := h
  refine Aw.icmp_eq (tgt := 1330) o1 o2 (by decide) d_Law_law_1325 (fun c9 => ?_) (fun c9 => ?_)
  · have h := ht c9
    refine Aw.iload rfl d_Law_law_1330 ?_
    obtain ⟨ht, hf⟩ := h
    refine Aw.if_ne (tgt := 1347) o2 (by decide) d_Law_law_1332 (fun c8 => ?_) (fun c8 => ?_)
    · have h := ht c8
      refine Aw.goto (tgt := 2611) (by decide) d_Law_law_1347 ?_
      refine Aw.iinc rfl d_Law_law_2611 ?_
      refine Aw.toL (L' := [xr (some (oB Ω)), xr (some a1), xr (some a2), xr (some a3), xi (v4 + 5), xi v5, xi v6, xu]) rfl ?_
      refine Aw.goto (tgt := 23) (by decide) d_Law_law_2614 ?_
      exact Aw.toW (L' := [xr (some (oB Ω)), xr (some a1), xr (some a2), xr (some a3), xi (v4 + 5), xu, xu, xu]) ⟨Or.inr rfl, Or.inr rfl, Or.inr rfl, Or.inr rfl, Or.inr rfl, Or.inl rfl, Or.inl rfl, Or.inr rfl, trivial⟩ h
    · have h := hf c8
      refine Aw.aload_n rfl d_Law_law_1335 ?_
      refine Aw.iconst d_Law_law_1336 ?_
      obtain ⟨o3, h⟩ := h
      obtain ⟨o4, o5, h⟩ := h
      refine Aw.lald o3 o4 o5 d_Law_law_1337 ?_
      refine Aw.iload rfl d_Law_law_1338 ?_
      refine Aw.i2l d_Law_law_1340 ?_
      refine Aw.lcmp d_Law_law_1341 ?_
      obtain ⟨o6, h⟩ := h
      obtain ⟨ht, hf⟩ := h
      refine Aw.if_eq (tgt := 1347) o6 (by decide) d_Law_law_1342 (fun c7 => ?_) (fun c7 => ?_)
      · have h := ht c7
        refine Aw.goto (tgt := 2611) (by decide) d_Law_law_1347 ?_
        refine Aw.iinc rfl d_Law_law_2611 ?_
        refine Aw.toL (L' := [xr (some (oB Ω)), xr (some a1), xr (some a2), xr (some a3), xi (v4 + 5), xi v5, xi v6, xu]) rfl ?_
        refine Aw.goto (tgt := 23) (by decide) d_Law_law_2614 ?_
        exact Aw.toW (L' := [xr (some (oB Ω)), xr (some a1), xr (some a2), xr (some a3), xi (v4 + 5), xu, xu, xu]) ⟨Or.inr rfl, Or.inr rfl, Or.inr rfl, Or.inr rfl, Or.inr rfl, Or.inl rfl, Or.inl rfl, Or.inr rfl, trivial⟩ h
      · have h := hf c7
        refine Aw.iconst d_Law_law_1345 ?_
        exact h
  · have h := hf c9
    refine Aw.iconst d_Law_law_1328 ?_
    exact h
theorem b_Law_law_1238 {Ω : Om} {R : Room} {F : QF} {k n : Nat} {σ : Sto} {a1 : Nat} {a2 : Nat} {a3 : Nat} {v4 : Int} (h : 0 ≤ (v4 + 1) ∧ (v4 + 1) < oN Ω ∧ oN Ω < 2147483648 ∧ Aw Ω M_Law_law R F k n 1246 [xr (some (oB Ω)), xr (some a1), xr (some a2), xr (some a3), xi v4, xu, xu, xu] [xr (some a3), xi ((oX Ω (v4 + 1).toNat).toInt), xr (some a1)] σ) : Aw Ω M_Law_law R F k n 1238 [xr (some (oB Ω)), xr (some a1), xr (some a2), xr (some a3), xi v4, xu, xu, xu] [] σ := by
  refine Aw.aload_n rfl d_Law_law_1238 ?_
  refine Aw.aload_n rfl d_Law_law_1239 ?_
  refine Aw.iload rfl d_Law_law_1240 ?_
  refine Aw.iconst d_Law_law_1242 ?_
  refine Aw.iadd d_Law_law_1243 ?_
  obtain ⟨o1, o2, h⟩ := h
  obtain ⟨o3, h⟩ := h
  refine Aw.sld o1 o2 o3 d_Law_law_1244 ?_
  refine Aw.aload_n rfl d_Law_law_1245 ?_
  exact h
theorem b_Law_law_1249 {Ω : Om} {R : Room} {F : QF} {k n : Nat} {σ : Sto} {a1 : Nat} {a2 : Nat} {a3 : Nat} {v4 : Int} {s0 : Int} (h : 0 ≤ (v4 + 1) ∧ (v4 + 1) < oN Ω ∧ oN Ω < 2147483648 ∧ Aw Ω M_Law_law R F k n 1258 [xr (some (oB Ω)), xr (some a1), xr (some a2), xr (some a3), xi v4, xi s0, xu, xu] [xi ((oX Ω (v4 + 1).toNat).toInt), xr (some a2)] σ) : Aw Ω M_Law_law R F k n 1249 [xr (some (oB Ω)), xr (some a1), xr (some a2), xr (some a3), xi v4, xu, xu, xu] [xi s0] σ := by
  refine Aw.istore (by decide) d_Law_law_1249 ?_
  refine Aw.toL (L' := [xr (some (oB Ω)), xr (some a1), xr (some a2), xr (some a3), xi v4, xi s0, xu, xu]) rfl ?_
  refine Aw.aload_n rfl d_Law_law_1251 ?_
  refine Aw.aload_n rfl d_Law_law_1252 ?_
  refine Aw.iload rfl d_Law_law_1253 ?_
  refine Aw.iconst d_Law_law_1255 ?_
  refine Aw.iadd d_Law_law_1256 ?_
  obtain ⟨o1, o2, h⟩ := h
  obtain ⟨o3, h⟩ := h
  refine Aw.sld o1 o2 o3 d_Law_law_1257 ?_
  exact h
theorem b_Law_law_1261 {Ω : Om} {R : Room} {F : QF} {k n : Nat} {σ : Sto} {a1 : Nat} {a2 : Nat} {a3 : Nat} {v4 : Int} {v5 : Int} {s0 : Int} (h : Aw Ω M_Law_law R F k n 1264 [xr (some (oB Ω)), xr (some a1), xr (some a2), xr (some a3), xi v4, xi v5, xi s0, xu] [xr (some a2)] σ) : Aw Ω M_Law_law R F k n 1261 [xr (some (oB Ω)), xr (some a1), xr (some a2), xr (some a3), xi v4, xi v5, xu, xu] [xi s0] σ := by
  refine Aw.istore (by decide) d_Law_law_1261 ?_
  refine Aw.toL (L' := [xr (some (oB Ω)), xr (some a1), xr (some a2), xr (some a3), xi v4, xi v5, xi s0, xu]) rfl ?_
  refine Aw.aload_n rfl d_Law_law_1263 ?_
  exact h
theorem b_Law_law_1267 {Ω : Om} {R : Room} {F : QF} {k n : Nat} {σ : Sto} {a1 : Nat} {a2 : Nat} {a3 : Nat} {v4 : Int} {v5 : Int} {v6 : Int} {s0 : Int} (h : Q32 s0 ∧ Q32 v5 ∧ ((s0 = v5 → ((¬ v5 = (0 : Int) → Aw Ω M_Law_law R F k n 23 [xr (some (oB Ω)), xr (some a1), xr (some a2), xr (some a3), xi (v4 + 5), xu, xu, xu] [] σ) ∧ (v5 = (0 : Int) → sK σ a3 = 51 ∧ 0 ≤ (0 : Int) ∧ (0 : Int) < sZ σ a3 ∧ Q32 (cmpL (aL σ a3 0) (lOf v6)) ∧ (((cmpL (aL σ a3 0) (lOf v6)) = (0 : Int) → Aw Ω M_Law_law R F k n 23 [xr (some (oB Ω)), xr (some a1), xr (some a2), xr (some a3), xi (v4 + 5), xu, xu, xu] [] σ) ∧ (¬ (cmpL (aL σ a3 0) (lOf v6)) = (0 : Int) → Aw Ω M_Law_law R F k n 1290 [xr (some (oB Ω)), xr (some a1), xr (some a2), xr (some a3), xi v4, xi v5, xi v6, xu] [xi 0] σ))))) ∧ (¬ s0 = v5 → Aw Ω M_Law_law R F k n 1273 [xr (some (oB Ω)), xr (some a1), xr (some a2), xr (some a3), xi v4, xi v5, xi v6, xu] [xi 0] σ))) : Aw Ω M_Law_law R F k n 1267 [xr (some (oB Ω)), xr (some a1), xr (some a2), xr (some a3), xi v4, xi v5, xi v6, xu] [xi s0] σ := by
  refine Aw.iload rfl d_Law_law_1267 ?_
  obtain ⟨o1, h⟩ := h
  obtain ⟨o2, h⟩ := h
  obtain ⟨ht, hf⟩ := h
  refine Aw.icmp_eq (tgt := 1274) o1 o2 (by decide) d_Law_law_1269 (fun c9 => ?_) (fun c9 => ?_)
  · have h := ht c9
    refine Aw.iload rfl d_Law_law_1274 ?_
    obtain ⟨ht, hf⟩ := h
    refine Aw.if_ne (tgt := 1291) o2 (by decide) d_Law_law_1276 (fun c8 => ?_) (fun c8 => ?_)
    · have h := ht c8
      refine Aw.goto (tgt := 2611) (by decide) d_Law_law_1291 ?_
      refine Aw.iinc rfl d_Law_law_2611 ?_
      refine Aw.toL (L' := [xr (some (oB Ω)), xr (some a1), xr (some a2), xr (some a3), xi (v4 + 5), xi v5, xi v6, xu]) rfl ?_
      refine Aw.goto (tgt := 23) (by decide) d_Law_law_2614 ?_
      exact Aw.toW (L' := [xr (some (oB Ω)), xr (some a1), xr (some a2), xr (some a3), xi (v4 + 5), xu, xu, xu]) ⟨Or.inr rfl, Or.inr rfl, Or.inr rfl, Or.inr rfl, Or.inr rfl, Or.inl rfl, Or.inl rfl, Or.inr rfl, trivial⟩ h
    · have h := hf c8
      refine Aw.aload_n rfl d_Law_law_1279 ?_
      refine Aw.iconst d_Law_law_1280 ?_
      obtain ⟨o3, h⟩ := h
      obtain ⟨o4, o5, h⟩ := h
      refine Aw.lald o3 o4 o5 d_Law_law_1281 ?_
      refine Aw.iload rfl d_Law_law_1282 ?_
      refine Aw.i2l d_Law_law_1284 ?_
      refine Aw.lcmp d_Law_law_1285 ?_
      obtain ⟨o6, h⟩ := h
      obtain ⟨ht, hf⟩ := h
      refine Aw.if_eq (tgt := 1291) o6 (by decide) d_Law_law_1286 (fun c7 => ?_) (fun c7 => ?_)
      · have h := ht c7
        refine Aw.goto (tgt := 2611) (by decide) d_Law_law_1291 ?_
        refine Aw.iinc rfl d_Law_law_2611 ?_
        refine Aw.toL (L' := [xr (some (oB Ω)), xr (some a1), xr (some a2), xr (some a3), xi (v4 + 5), xi v5, xi v6, xu]) rfl ?_
        refine Aw.goto (tgt := 23) (by decide) d_Law_law_2614 ?_
        exact Aw.toW (L' := [xr (some (oB Ω)), xr (some a1), xr (some a2), xr (some a3), xi (v4 + 5), xu, xu, xu]) ⟨Or.inr rfl, Or.inr rfl, Or.inr rfl, Or.inr rfl, Or.inr rfl, Or.inl rfl, Or.inl rfl, Or.inr rfl, trivial⟩ h
      · have h := hf c7
        refine Aw.iconst d_Law_law_1289 ?_
        exact h
  · have h := hf c9
    refine Aw.iconst d_Law_law_1272 ?_
    exact h
theorem b_Law_law_1142 {Ω : Om} {R : Room} {F : QF} {k n : Nat} {σ : Sto} {a1 : Nat} {a2 : Nat} {a3 : Nat} {v4 : Int} (h : 0 ≤ (v4 + 1) ∧ (v4 + 1) < oN Ω ∧ oN Ω < 2147483648 ∧ 0 ≤ (v4 + 2) ∧ (v4 + 2) < oN Ω ∧ oN Ω < 2147483648 ∧ 0 ≤ (v4 + 3) ∧ (v4 + 3) < oN Ω ∧ oN Ω < 2147483648 ∧ Q32 ((oX Ω (v4 + 3).toNat).toInt) ∧ ((((oX Ω (v4 + 3).toNat).toInt) = (0 : Int) → Aw Ω M_Law_law R F k n 1170 [xr (some (oB Ω)), xr (some a1), xr (some a2), xr (some a3), xi v4, xu, xu, xu] [xr (some a3), xi 0, xi ((oX Ω (v4 + 2).toNat).toInt), xi ((oX Ω (v4 + 1).toNat).toInt), xr (some a1)] σ) ∧ (¬ ((oX Ω (v4 + 3).toNat).toInt) = (0 : Int) → Aw Ω M_Law_law R F k n 1170 [xr (some (oB Ω)), xr (some a1), xr (some a2), xr (some a3), xi v4, xu, xu, xu] [xr (some a3), xi 1, xi ((oX Ω (v4 + 2).toNat).toInt), xi ((oX Ω (v4 + 1).toNat).toInt), xr (some a1)] σ))) : Aw Ω M_Law_law R F k n 1142 [xr (some (oB Ω)), xr (some a1), xr (some a2), xr (some a3), xi v4, xu, xu, xu] [] σ := by
  refine Aw.aload_n rfl d_Law_law_1142 ?_
  refine Aw.aload_n rfl d_Law_law_1143 ?_
  refine Aw.iload rfl d_Law_law_1144 ?_
  refine Aw.iconst d_Law_law_1146 ?_
  refine Aw.iadd d_Law_law_1147 ?_
  obtain ⟨o1, o2, h⟩ := h
  obtain ⟨o3, h⟩ := h
  refine Aw.sld o1 o2 o3 d_Law_law_1148 ?_
  refine Aw.aload_n rfl d_Law_law_1149 ?_
  refine Aw.iload rfl d_Law_law_1150 ?_
  refine Aw.iconst d_Law_law_1152 ?_
  refine Aw.iadd d_Law_law_1153 ?_
  obtain ⟨o4, o5, h⟩ := h
  obtain ⟨o6, h⟩ := h
  refine Aw.sld o4 o5 o6 d_Law_law_1154 ?_
  refine Aw.aload_n rfl d_Law_law_1155 ?_
  refine Aw.iload rfl d_Law_law_1156 ?_
  refine Aw.iconst d_Law_law_1158 ?_
  refine Aw.iadd d_Law_law_1159 ?_
  obtain ⟨o7, o8, h⟩ := h
  obtain ⟨o9, h⟩ := h
  refine Aw.sld o7 o8 o9 d_Law_law_1160 ?_
  obtain ⟨o10, h⟩ := h
  obtain ⟨ht, hf⟩ := h
  refine Aw.if_eq (tgt := 1168) o10 (by decide) d_Law_law_1161 (fun c11 => ?_) (fun c11 => ?_)
  · have h := ht c11
    refine Aw.iconst d_Law_law_1168 ?_
    refine Aw.aload_n rfl d_Law_law_1169 ?_
    exact h
  · have h := hf c11
    refine Aw.iconst d_Law_law_1164 ?_
    refine Aw.goto (tgt := 1169) (by decide) d_Law_law_1165 ?_
    refine Aw.aload_n rfl d_Law_law_1169 ?_
    exact h
theorem b_Law_law_1173 {Ω : Om} {R : Room} {F : QF} {k n : Nat} {σ : Sto} {a1 : Nat} {a2 : Nat} {a3 : Nat} {v4 : Int} {s0 : Int} (h : 0 ≤ (v4 + 1) ∧ (v4 + 1) < oN Ω ∧ oN Ω < 2147483648 ∧ 0 ≤ (v4 + 2) ∧ (v4 + 2) < oN Ω ∧ oN Ω < 2147483648 ∧ 0 ≤ (v4 + 3) ∧ (v4 + 3) < oN Ω ∧ oN Ω < 2147483648 ∧ Q32 ((oX Ω (v4 + 3).toNat).toInt) ∧ ((((oX Ω (v4 + 3).toNat).toInt) = (0 : Int) → Aw Ω M_Law_law R F k n 1202 [xr (some (oB Ω)), xr (some a1), xr (some a2), xr (some a3), xi v4, xi s0, xu, xu] [xi 0, xi ((oX Ω (v4 + 2).toNat).toInt), xi ((oX Ω (v4 + 1).toNat).toInt), xr (some a2)] σ) ∧ (¬ ((oX Ω (v4 + 3).toNat).toInt) = (0 : Int) → Aw Ω M_Law_law R F k n 1202 [xr (some (oB Ω)), xr (some a1), xr (some a2), xr (some a3), xi v4, xi s0, xu, xu] [xi 1, xi ((oX Ω (v4 + 2).toNat).toInt), xi ((oX Ω (v4 + 1).toNat).toInt), xr (some a2)] σ))) : Aw Ω M_Law_law R F k n 1173 [xr (some (oB Ω)), xr (some a1), xr (some a2), xr (some a3), xi v4, xu, xu, xu] [xi s0] σ := by
  refine Aw.istore (by decide) d_Law_law_1173 ?_
  refine Aw.toL (L' := [xr (some (oB Ω)), xr (some a1), xr (some a2), xr (some a3), xi v4, xi s0, xu, xu]) rfl ?_
  refine Aw.aload_n rfl d_Law_law_1175 ?_
  refine Aw.aload_n rfl d_Law_law_1176 ?_
  refine Aw.iload rfl d_Law_law_1177 ?_
  refine Aw.iconst d_Law_law_1179 ?_
  refine Aw.iadd d_Law_law_1180 ?_
  obtain ⟨o1, o2, h⟩ := h
  obtain ⟨o3, h⟩ := h
  refine Aw.sld o1 o2 o3 d_Law_law_1181 ?_
  refine Aw.aload_n rfl d_Law_law_1182 ?_
  refine Aw.iload rfl d_Law_law_1183 ?_
  refine Aw.iconst d_Law_law_1185 ?_
  refine Aw.iadd d_Law_law_1186 ?_
  obtain ⟨o4, o5, h⟩ := h
  obtain ⟨o6, h⟩ := h
  refine Aw.sld o4 o5 o6 d_Law_law_1187 ?_
  refine Aw.aload_n rfl d_Law_law_1188 ?_
  refine Aw.iload rfl d_Law_law_1189 ?_
  refine Aw.iconst d_Law_law_1191 ?_
  refine Aw.iadd d_Law_law_1192 ?_
  obtain ⟨o7, o8, h⟩ := h
  obtain ⟨o9, h⟩ := h
  refine Aw.sld o7 o8 o9 d_Law_law_1193 ?_
  obtain ⟨o10, h⟩ := h
  obtain ⟨ht, hf⟩ := h
  refine Aw.if_eq (tgt := 1201) o10 (by decide) d_Law_law_1194 (fun c11 => ?_) (fun c11 => ?_)
  · have h := ht c11
    refine Aw.iconst d_Law_law_1201 ?_
    exact h
  · have h := hf c11
    refine Aw.iconst d_Law_law_1197 ?_
    refine Aw.goto (tgt := 1202) (by decide) d_Law_law_1198 ?_
    exact h
theorem b_Law_law_1205 {Ω : Om} {R : Room} {F : QF} {k n : Nat} {σ : Sto} {a1 : Nat} {a2 : Nat} {a3 : Nat} {v4 : Int} {v5 : Int} {s0 : Int} (h : Aw Ω M_Law_law R F k n 1208 [xr (some (oB Ω)), xr (some a1), xr (some a2), xr (some a3), xi v4, xi v5, xi s0, xu] [xr (some a2)] σ) : Aw Ω M_Law_law R F k n 1205 [xr (some (oB Ω)), xr (some a1), xr (some a2), xr (some a3), xi v4, xi v5, xu, xu] [xi s0] σ := by
  refine Aw.istore (by decide) d_Law_law_1205 ?_
  refine Aw.toL (L' := [xr (some (oB Ω)), xr (some a1), xr (some a2), xr (some a3), xi v4, xi v5, xi s0, xu]) rfl ?_
  refine Aw.aload_n rfl d_Law_law_1207 ?_
  exact h
theorem b_Law_law_1211 {Ω : Om} {R : Room} {F : QF} {k n : Nat} {σ : Sto} {a1 : Nat} {a2 : Nat} {a3 : Nat} {v4 : Int} {v5 : Int} {v6 : Int} {s0 : Int} (h : Q32 s0 ∧ Q32 v5 ∧ ((s0 = v5 → ((¬ v5 = (0 : Int) → Aw Ω M_Law_law R F k n 23 [xr (some (oB Ω)), xr (some a1), xr (some a2), xr (some a3), xi (v4 + 5), xu, xu, xu] [] σ) ∧ (v5 = (0 : Int) → sK σ a3 = 51 ∧ 0 ≤ (0 : Int) ∧ (0 : Int) < sZ σ a3 ∧ Q32 (cmpL (aL σ a3 0) (lOf v6)) ∧ (((cmpL (aL σ a3 0) (lOf v6)) = (0 : Int) → Aw Ω M_Law_law R F k n 23 [xr (some (oB Ω)), xr (some a1), xr (some a2), xr (some a3), xi (v4 + 5), xu, xu, xu] [] σ) ∧ (¬ (cmpL (aL σ a3 0) (lOf v6)) = (0 : Int) → Aw Ω M_Law_law R F k n 1234 [xr (some (oB Ω)), xr (some a1), xr (some a2), xr (some a3), xi v4, xi v5, xi v6, xu] [xi 0] σ))))) ∧ (¬ s0 = v5 → Aw Ω M_Law_law R F k n 1217 [xr (some (oB Ω)), xr (some a1), xr (some a2), xr (some a3), xi v4, xi v5, xi v6, xu] [xi 0] σ))) : Aw Ω M_Law_law R F k n 1211 [xr (some (oB Ω)), xr (some a1), xr (some a2), xr (some a3), xi v4, xi v5, xi v6, xu] [xi s0] σ := by
  refine Aw.iload rfl d_Law_law_1211 ?_
  obtain ⟨o1, h⟩ := h
  obtain ⟨o2, h⟩ := h
  obtain ⟨ht, hf⟩ := h
  refine Aw.icmp_eq (tgt := 1218) o1 o2 (by decide) d_Law_law_1213 (fun c9 => ?_) (fun c9 => ?_)
  · have h := ht c9
    refine Aw.iload rfl d_Law_law_1218 ?_
    obtain ⟨ht, hf⟩ := h
    refine Aw.if_ne (tgt := 1235) o2 (by decide) d_Law_law_1220 (fun c8 => ?_) (fun c8 => ?_)
    · have h := ht c8
      refine Aw.goto (tgt := 2611) (by decide) d_Law_law_1235 ?_
      refine Aw.iinc rfl d_Law_law_2611 ?_
      refine Aw.toL (L' := [xr (some (oB Ω)), xr (some a1), xr (some a2), xr (some a3), xi (v4 + 5), xi v5, xi v6, xu]) rfl ?_
      refine Aw.goto (tgt := 23) (by decide) d_Law_law_2614 ?_
      exact Aw.toW (L' := [xr (some (oB Ω)), xr (some a1), xr (some a2), xr (some a3), xi (v4 + 5), xu, xu, xu]) ⟨Or.inr rfl, Or.inr rfl, Or.inr rfl, Or.inr rfl, Or.inr rfl, Or.inl rfl, Or.inl rfl, Or.inr rfl, trivial⟩ h
    · have h := hf c8
      refine Aw.aload_n rfl d_Law_law_1223 ?_
      refine Aw.iconst d_Law_law_1224 ?_
      obtain ⟨o3, h⟩ := h
      obtain ⟨o4, o5, h⟩ := h
      refine Aw.lald o3 o4 o5 d_Law_law_1225 ?_
      refine Aw.iload rfl d_Law_law_1226 ?_
      refine Aw.i2l d_Law_law_1228 ?_
      refine Aw.lcmp d_Law_law_1229 ?_
      obtain ⟨o6, h⟩ := h
      obtain ⟨ht, hf⟩ := h
      refine Aw.if_eq (tgt := 1235) o6 (by decide) d_Law_law_1230 (fun c7 => ?_) (fun c7 => ?_)
      · have h := ht c7
        refine Aw.goto (tgt := 2611) (by decide) d_Law_law_1235 ?_
        refine Aw.iinc rfl d_Law_law_2611 ?_
        refine Aw.toL (L' := [xr (some (oB Ω)), xr (some a1), xr (some a2), xr (some a3), xi (v4 + 5), xi v5, xi v6, xu]) rfl ?_
        refine Aw.goto (tgt := 23) (by decide) d_Law_law_2614 ?_
        exact Aw.toW (L' := [xr (some (oB Ω)), xr (some a1), xr (some a2), xr (some a3), xi (v4 + 5), xu, xu, xu]) ⟨Or.inr rfl, Or.inr rfl, Or.inr rfl, Or.inr rfl, Or.inr rfl, Or.inl rfl, Or.inl rfl, Or.inr rfl, trivial⟩ h
      · have h := hf c7
        refine Aw.iconst d_Law_law_1233 ?_
        exact h
  · have h := hf c9
    refine Aw.iconst d_Law_law_1216 ?_
    exact h
theorem b_Law_law_1067 {Ω : Om} {R : Room} {F : QF} {k n : Nat} {σ : Sto} {a1 : Nat} {a2 : Nat} {a3 : Nat} {v4 : Int} (h : 0 ≤ (v4 + 1) ∧ (v4 + 1) < oN Ω ∧ oN Ω < 2147483648 ∧ 0 ≤ (v4 + 2) ∧ (v4 + 2) < oN Ω ∧ oN Ω < 2147483648 ∧ Aw Ω M_Law_law R F k n 1081 [xr (some (oB Ω)), xr (some a1), xr (some a2), xr (some a3), xi v4, xu, xu, xu] [xr (some a3), xi ((oX Ω (v4 + 2).toNat).toInt), xi ((oX Ω (v4 + 1).toNat).toInt), xr (some a1)] σ) : Aw Ω M_Law_law R F k n 1067 [xr (some (oB Ω)), xr (some a1), xr (some a2), xr (some a3), xi v4, xu, xu, xu] [] σ := by
  refine Aw.aload_n rfl d_Law_law_1067 ?_
  refine Aw.aload_n rfl d_Law_law_1068 ?_
  refine Aw.iload rfl d_Law_law_1069 ?_
  refine Aw.iconst d_Law_law_1071 ?_
  refine Aw.iadd d_Law_law_1072 ?_
  obtain ⟨o1, o2, h⟩ := h
  obtain ⟨o3, h⟩ := h
  refine Aw.sld o1 o2 o3 d_Law_law_1073 ?_
  refine Aw.aload_n rfl d_Law_law_1074 ?_
  refine Aw.iload rfl d_Law_law_1075 ?_
  refine Aw.iconst d_Law_law_1077 ?_
  refine Aw.iadd d_Law_law_1078 ?_
  obtain ⟨o4, o5, h⟩ := h
  obtain ⟨o6, h⟩ := h
  refine Aw.sld o4 o5 o6 d_Law_law_1079 ?_
  refine Aw.aload_n rfl d_Law_law_1080 ?_
  exact h
theorem b_Law_law_1084 {Ω : Om} {R : Room} {F : QF} {k n : Nat} {σ : Sto} {a1 : Nat} {a2 : Nat} {a3 : Nat} {v4 : Int} {s0 : Int} (h : 0 ≤ (v4 + 1) ∧ (v4 + 1) < oN Ω ∧ oN Ω < 2147483648 ∧ 0 ≤ (v4 + 2) ∧ (v4 + 2) < oN Ω ∧ oN Ω < 2147483648 ∧ Aw Ω M_Law_law R F k n 1099 [xr (some (oB Ω)), xr (some a1), xr (some a2), xr (some a3), xi v4, xi s0, xu, xu] [xi ((oX Ω (v4 + 2).toNat).toInt), xi ((oX Ω (v4 + 1).toNat).toInt), xr (some a2)] σ) : Aw Ω M_Law_law R F k n 1084 [xr (some (oB Ω)), xr (some a1), xr (some a2), xr (some a3), xi v4, xu, xu, xu] [xi s0] σ := by
  refine Aw.istore (by decide) d_Law_law_1084 ?_
  refine Aw.toL (L' := [xr (some (oB Ω)), xr (some a1), xr (some a2), xr (some a3), xi v4, xi s0, xu, xu]) rfl ?_
  refine Aw.aload_n rfl d_Law_law_1086 ?_
  refine Aw.aload_n rfl d_Law_law_1087 ?_
  refine Aw.iload rfl d_Law_law_1088 ?_
  refine Aw.iconst d_Law_law_1090 ?_
  refine Aw.iadd d_Law_law_1091 ?_
  obtain ⟨o1, o2, h⟩ := h
  obtain ⟨o3, h⟩ := h
  refine Aw.sld o1 o2 o3 d_Law_law_1092 ?_
  refine Aw.aload_n rfl d_Law_law_1093 ?_
  refine Aw.iload rfl d_Law_law_1094 ?_
  refine Aw.iconst d_Law_law_1096 ?_
  refine Aw.iadd d_Law_law_1097 ?_
  obtain ⟨o4, o5, h⟩ := h
  obtain ⟨o6, h⟩ := h
  refine Aw.sld o4 o5 o6 d_Law_law_1098 ?_
  exact h
theorem b_Law_law_1102 {Ω : Om} {R : Room} {F : QF} {k n : Nat} {σ : Sto} {a1 : Nat} {a2 : Nat} {a3 : Nat} {v4 : Int} {v5 : Int} {s0 : Int} (h : Aw Ω M_Law_law R F k n 1105 [xr (some (oB Ω)), xr (some a1), xr (some a2), xr (some a3), xi v4, xi v5, xi s0, xu] [xr (some a2)] σ) : Aw Ω M_Law_law R F k n 1102 [xr (some (oB Ω)), xr (some a1), xr (some a2), xr (some a3), xi v4, xi v5, xu, xu] [xi s0] σ := by
  refine Aw.istore (by decide) d_Law_law_1102 ?_
  refine Aw.toL (L' := [xr (some (oB Ω)), xr (some a1), xr (some a2), xr (some a3), xi v4, xi v5, xi s0, xu]) rfl ?_
  refine Aw.aload_n rfl d_Law_law_1104 ?_
  exact h
theorem b_Law_law_1108 {Ω : Om} {R : Room} {F : QF} {k n : Nat} {σ : Sto} {a1 : Nat} {a2 : Nat} {a3 : Nat} {v4 : Int} {v5 : Int} {v6 : Int} {s0 : Int} (h : Q32 s0 ∧ Q32 v5 ∧ ((s0 = v5 → ((¬ v5 = (0 : Int) → Aw Ω M_Law_law R F k n 23 [xr (some (oB Ω)), xr (some a1), xr (some a2), xr (some a3), xi (v4 + 5), xu, xu, xu] [] σ) ∧ (v5 = (0 : Int) → sK σ a3 = 51 ∧ 0 ≤ (0 : Int) ∧ (0 : Int) < sZ σ a3 ∧ Q32 v6 ∧ ((v6 = (0 : Int) → Q32 (cmpL (aL σ a3 0) 0) ∧ (((cmpL (aL σ a3 0) 0) = (0 : Int) → Aw Ω M_Law_law R F k n 23 [xr (some (oB Ω)), xr (some a1), xr (some a2), xr (some a3), xi (v4 + 5), xu, xu, xu] [] σ) ∧ (¬ (cmpL (aL σ a3 0) 0) = (0 : Int) → Aw Ω M_Law_law R F k n 1138 [xr (some (oB Ω)), xr (some a1), xr (some a2), xr (some a3), xi v4, xi v5, xi v6, xu] [xi 0] σ))) ∧ (¬ v6 = (0 : Int) → Q32 (cmpL (aL σ a3 0) 1) ∧ (((cmpL (aL σ a3 0) 1) = (0 : Int) → Aw Ω M_Law_law R F k n 23 [xr (some (oB Ω)), xr (some a1), xr (some a2), xr (some a3), xi (v4 + 5), xu, xu, xu] [] σ) ∧ (¬ (cmpL (aL σ a3 0) 1) = (0 : Int) → Aw Ω M_Law_law R F k n 1138 [xr (some (oB Ω)), xr (some a1), xr (some a2), xr (some a3), xi v4, xi v5, xi v6, xu] [xi 0] σ))))))) ∧ (¬ s0 = v5 → Aw Ω M_Law_law R F k n 1114 [xr (some (oB Ω)), xr (some a1), xr (some a2), xr (some a3), xi v4, xi v5, xi v6, xu] [xi 0] σ))) : Aw Ω M_Law_law R F k n 1108 [xr (some (oB Ω)), xr (some a1), xr (some a2), xr (some a3), xi v4, xi v5, xi v6, xu] [xi s0] σ := by
  refine Aw.iload rfl d_Law_law_1108 ?_
  obtain ⟨o1, h⟩ := h
  obtain ⟨o2, h⟩ := h
  obtain ⟨ht, hf⟩ := h
  refine Aw.icmp_eq (tgt := 1115) o1 o2 (by decide) d_Law_law_1110 (fun c13 => ?_) (fun c13 => ?_)
  · have h := ht c13
    refine Aw.iload rfl d_Law_law_1115 ?_
    obtain ⟨ht, hf⟩ := h
    refine Aw.if_ne (tgt := 1139) o2 (by decide) d_Law_law_1117 (fun c12 => ?_) (fun c12 => ?_)
    · have h := ht c12
      refine Aw.goto (tgt := 2611) (by decide) d_Law_law_1139 ?_
      refine Aw.iinc rfl d_Law_law_2611 ?_
      refine Aw.toL (L' := [xr (some (oB Ω)), xr (some a1), xr (some a2), xr (some a3), xi (v4 + 5), xi v5, xi v6, xu]) rfl ?_
      refine Aw.goto (tgt := 23) (by decide) d_Law_law_2614 ?_
      exact Aw.toW (L' := [xr (some (oB Ω)), xr (some a1), xr (some a2), xr (some a3), xi (v4 + 5), xu, xu, xu]) ⟨Or.inr rfl, Or.inr rfl, Or.inr rfl, Or.inr rfl, Or.inr rfl, Or.inl rfl, Or.inl rfl, Or.inr rfl, trivial⟩ h
    · have h := hf c12
      refine Aw.aload_n rfl d_Law_law_1120 ?_
      refine Aw.iconst d_Law_law_1121 ?_
      obtain ⟨o3, h⟩ := h
      obtain ⟨o4, o5, h⟩ := h
      refine Aw.lald o3 o4 o5 d_Law_law_1122 ?_
      refine Aw.iload rfl d_Law_law_1123 ?_
      obtain ⟨o6, h⟩ := h
      obtain ⟨ht, hf⟩ := h
      refine Aw.if_eq (tgt := 1132) o6 (by decide) d_Law_law_1125 (fun c11 => ?_) (fun c11 => ?_)
      · have h := ht c11
        refine Aw.lconst (w := 0) (by decide) d_Law_law_1132 ?_
        refine Aw.lcmp d_Law_law_1133 ?_
        obtain ⟨o7, h⟩ := h
        obtain ⟨ht, hf⟩ := h
        refine Aw.if_eq (tgt := 1139) o7 (by decide) d_Law_law_1134 (fun c8 => ?_) (fun c8 => ?_)
        · have h := ht c8
          refine Aw.goto (tgt := 2611) (by decide) d_Law_law_1139 ?_
          refine Aw.iinc rfl d_Law_law_2611 ?_
          refine Aw.toL (L' := [xr (some (oB Ω)), xr (some a1), xr (some a2), xr (some a3), xi (v4 + 5), xi v5, xi v6, xu]) rfl ?_
          refine Aw.goto (tgt := 23) (by decide) d_Law_law_2614 ?_
          exact Aw.toW (L' := [xr (some (oB Ω)), xr (some a1), xr (some a2), xr (some a3), xi (v4 + 5), xu, xu, xu]) ⟨Or.inr rfl, Or.inr rfl, Or.inr rfl, Or.inr rfl, Or.inr rfl, Or.inl rfl, Or.inl rfl, Or.inr rfl, trivial⟩ h
        · have h := hf c8
          refine Aw.iconst d_Law_law_1137 ?_
          exact h
      · have h := hf c11
        refine Aw.lconst (w := 1) (by decide) d_Law_law_1128 ?_
        refine Aw.goto (tgt := 1133) (by decide) d_Law_law_1129 ?_
        refine Aw.lcmp d_Law_law_1133 ?_
        obtain ⟨o9, h⟩ := h
        obtain ⟨ht, hf⟩ := h
        refine Aw.if_eq (tgt := 1139) o9 (by decide) d_Law_law_1134 (fun c10 => ?_) (fun c10 => ?_)
        · have h := ht c10
          refine Aw.goto (tgt := 2611) (by decide) d_Law_law_1139 ?_
          refine Aw.iinc rfl d_Law_law_2611 ?_
          refine Aw.toL (L' := [xr (some (oB Ω)), xr (some a1), xr (some a2), xr (some a3), xi (v4 + 5), xi v5, xi v6, xu]) rfl ?_
          refine Aw.goto (tgt := 23) (by decide) d_Law_law_2614 ?_
          exact Aw.toW (L' := [xr (some (oB Ω)), xr (some a1), xr (some a2), xr (some a3), xi (v4 + 5), xu, xu, xu]) ⟨Or.inr rfl, Or.inr rfl, Or.inr rfl, Or.inr rfl, Or.inr rfl, Or.inl rfl, Or.inl rfl, Or.inr rfl, trivial⟩ h
        · have h := hf c10
          refine Aw.iconst d_Law_law_1137 ?_
          exact h
  · have h := hf c13
    refine Aw.iconst d_Law_law_1113 ?_
    exact h
theorem b_Law_law_999 {Ω : Om} {R : Room} {F : QF} {k n : Nat} {σ : Sto} {a1 : Nat} {a2 : Nat} {a3 : Nat} {v4 : Int} (h : 0 ≤ (v4 + 1) ∧ (v4 + 1) < oN Ω ∧ oN Ω < 2147483648 ∧ 0 ≤ (v4 + 2) ∧ (v4 + 2) < oN Ω ∧ oN Ω < 2147483648 ∧ Aw Ω M_Law_law R F k n 1013 [xr (some (oB Ω)), xr (some a1), xr (some a2), xr (some a3), xi v4, xu, xu, xu] [xr (some a3), xi ((oX Ω (v4 + 2).toNat).toInt), xi ((oX Ω (v4 + 1).toNat).toInt), xr (some a1)] σ) : Aw Ω M_Law_law R F k n 999 [xr (some (oB Ω)), xr (some a1), xr (some a2), xr (some a3), xi v4, xu, xu, xu] [] σ := by
  refine Aw.aload_n rfl d_Law_law_999 ?_
  refine Aw.aload_n rfl d_Law_law_1000 ?_
  refine Aw.iload rfl d_Law_law_1001 ?_
  refine Aw.iconst d_Law_law_1003 ?_
  refine Aw.iadd d_Law_law_1004 ?_
  obtain ⟨o1, o2, h⟩ := h
  obtain ⟨o3, h⟩ := h
  refine Aw.sld o1 o2 o3 d_Law_law_1005 ?_
  refine Aw.aload_n rfl d_Law_law_1006 ?_
  refine Aw.iload rfl d_Law_law_1007 ?_
  refine Aw.iconst d_Law_law_1009 ?_
  refine Aw.iadd d_Law_law_1010 ?_
  obtain ⟨o4, o5, h⟩ := h
  obtain ⟨o6, h⟩ := h
  refine Aw.sld o4 o5 o6 d_Law_law_1011 ?_
  refine Aw.aload_n rfl d_Law_law_1012 ?_
  exact h
theorem b_Law_law_1016 {Ω : Om} {R : Room} {F : QF} {k n : Nat} {σ : Sto} {a1 : Nat} {a2 : Nat} {a3 : Nat} {v4 : Int} {s0 : Int} (h : 0 ≤ (v4 + 1) ∧ (v4 + 1) < oN Ω ∧ oN Ω < 2147483648 ∧ 0 ≤ (v4 + 2) ∧ (v4 + 2) < oN Ω ∧ oN Ω < 2147483648 ∧ Aw Ω M_Law_law R F k n 1031 [xr (some (oB Ω)), xr (some a1), xr (some a2), xr (some a3), xi v4, xi s0, xu, xu] [xi ((oX Ω (v4 + 2).toNat).toInt), xi ((oX Ω (v4 + 1).toNat).toInt), xr (some a2)] σ) : Aw Ω M_Law_law R F k n 1016 [xr (some (oB Ω)), xr (some a1), xr (some a2), xr (some a3), xi v4, xu, xu, xu] [xi s0] σ := by
  refine Aw.istore (by decide) d_Law_law_1016 ?_
  refine Aw.toL (L' := [xr (some (oB Ω)), xr (some a1), xr (some a2), xr (some a3), xi v4, xi s0, xu, xu]) rfl ?_
  refine Aw.aload_n rfl d_Law_law_1018 ?_
  refine Aw.aload_n rfl d_Law_law_1019 ?_
  refine Aw.iload rfl d_Law_law_1020 ?_
  refine Aw.iconst d_Law_law_1022 ?_
  refine Aw.iadd d_Law_law_1023 ?_
  obtain ⟨o1, o2, h⟩ := h
  obtain ⟨o3, h⟩ := h
  refine Aw.sld o1 o2 o3 d_Law_law_1024 ?_
  refine Aw.aload_n rfl d_Law_law_1025 ?_
  refine Aw.iload rfl d_Law_law_1026 ?_
  refine Aw.iconst d_Law_law_1028 ?_
  refine Aw.iadd d_Law_law_1029 ?_
  obtain ⟨o4, o5, h⟩ := h
  obtain ⟨o6, h⟩ := h
  refine Aw.sld o4 o5 o6 d_Law_law_1030 ?_
  exact h
theorem b_Law_law_1034 {Ω : Om} {R : Room} {F : QF} {k n : Nat} {σ : Sto} {a1 : Nat} {a2 : Nat} {a3 : Nat} {v4 : Int} {v5 : Int} {s0 : Int} (h : Aw Ω M_Law_law R F k n 1037 [xr (some (oB Ω)), xr (some a1), xr (some a2), xr (some a3), xi v4, xi v5, xi s0, xu] [xr (some a2)] σ) : Aw Ω M_Law_law R F k n 1034 [xr (some (oB Ω)), xr (some a1), xr (some a2), xr (some a3), xi v4, xi v5, xu, xu] [xi s0] σ := by
  refine Aw.istore (by decide) d_Law_law_1034 ?_
  refine Aw.toL (L' := [xr (some (oB Ω)), xr (some a1), xr (some a2), xr (some a3), xi v4, xi v5, xi s0, xu]) rfl ?_
  refine Aw.aload_n rfl d_Law_law_1036 ?_
  exact h
theorem b_Law_law_1040 {Ω : Om} {R : Room} {F : QF} {k n : Nat} {σ : Sto} {a1 : Nat} {a2 : Nat} {a3 : Nat} {v4 : Int} {v5 : Int} {v6 : Int} {s0 : Int} (h : Q32 s0 ∧ Q32 v5 ∧ ((s0 = v5 → ((¬ v5 = (0 : Int) → Aw Ω M_Law_law R F k n 23 [xr (some (oB Ω)), xr (some a1), xr (some a2), xr (some a3), xi (v4 + 5), xu, xu, xu] [] σ) ∧ (v5 = (0 : Int) → sK σ a3 = 51 ∧ 0 ≤ (0 : Int) ∧ (0 : Int) < sZ σ a3 ∧ Q32 (cmpL (aL σ a3 0) (lOf v6)) ∧ (((cmpL (aL σ a3 0) (lOf v6)) = (0 : Int) → Aw Ω M_Law_law R F k n 23 [xr (some (oB Ω)), xr (some a1), xr (some a2), xr (some a3), xi (v4 + 5), xu, xu, xu] [] σ) ∧ (¬ (cmpL (aL σ a3 0) (lOf v6)) = (0 : Int) → Aw Ω M_Law_law R F k n 1063 [xr (some (oB Ω)), xr (some a1), xr (some a2), xr (some a3), xi v4, xi v5, xi v6, xu] [xi 0] σ))))) ∧ (¬ s0 = v5 → Aw Ω M_Law_law R F k n 1046 [xr (some (oB Ω)), xr (some a1), xr (some a2), xr (some a3), xi v4, xi v5, xi v6, xu] [xi 0] σ))) : Aw Ω M_Law_law R F k n 1040 [xr (some (oB Ω)), xr (some a1), xr (some a2), xr (some a3), xi v4, xi v5, xi v6, xu] [xi s0] σ := by
  refine Aw.iload rfl d_Law_law_1040 ?_
  obtain ⟨o1, h⟩ := h
  obtain ⟨o2, h⟩ := h
  obtain ⟨ht, hf⟩ := h
  refine Aw.icmp_eq (tgt := 1047) o1 o2 (by decide) d_Law_law_1042 (fun c9 => ?_) (fun c9 => ?_)
  · have h := ht c9
    refine Aw.iload rfl d_Law_law_1047 ?_
    obtain ⟨ht, hf⟩ := h
    refine Aw.if_ne (tgt := 1064) o2 (by decide) d_Law_law_1049 (fun c8 => ?_) (fun c8 => ?_)
    · have h := ht c8
      refine Aw.goto (tgt := 2611) (by decide) d_Law_law_1064 ?_
      refine Aw.iinc rfl d_Law_law_2611 ?_
      refine Aw.toL (L' := [xr (some (oB Ω)), xr (some a1), xr (some a2), xr (some a3), xi (v4 + 5), xi v5, xi v6, xu]) rfl ?_
      refine Aw.goto (tgt := 23) (by decide) d_Law_law_2614 ?_
      exact Aw.toW (L' := [xr (some (oB Ω)), xr (some a1), xr (some a2), xr (some a3), xi (v4 + 5), xu, xu, xu]) ⟨Or.inr rfl, Or.inr rfl, Or.inr rfl, Or.inr rfl, Or.inr rfl, Or.inl rfl, Or.inl rfl, Or.inr rfl, trivial⟩ h
    · have h := hf c8
      refine Aw.aload_n rfl d_Law_law_1052 ?_
      refine Aw.iconst d_Law_law_1053 ?_
      obtain ⟨o3, h⟩ := h
      obtain ⟨o4, o5, h⟩ := h
      refine Aw.lald o3 o4 o5 d_Law_law_1054 ?_
      refine Aw.iload rfl d_Law_law_1055 ?_
      refine Aw.i2l d_Law_law_1057 ?_
      refine Aw.lcmp d_Law_law_1058 ?_
      obtain ⟨o6, h⟩ := h
      obtain ⟨ht, hf⟩ := h
      refine Aw.if_eq (tgt := 1064) o6 (by decide) d_Law_law_1059 (fun c7 => ?_) (fun c7 => ?_)
      · have h := ht c7
        refine Aw.goto (tgt := 2611) (by decide) d_Law_law_1064 ?_
        refine Aw.iinc rfl d_Law_law_2611 ?_
        refine Aw.toL (L' := [xr (some (oB Ω)), xr (some a1), xr (some a2), xr (some a3), xi (v4 + 5), xi v5, xi v6, xu]) rfl ?_
        refine Aw.goto (tgt := 23) (by decide) d_Law_law_2614 ?_
        exact Aw.toW (L' := [xr (some (oB Ω)), xr (some a1), xr (some a2), xr (some a3), xi (v4 + 5), xu, xu, xu]) ⟨Or.inr rfl, Or.inr rfl, Or.inr rfl, Or.inr rfl, Or.inr rfl, Or.inl rfl, Or.inl rfl, Or.inr rfl, trivial⟩ h
      · have h := hf c7
        refine Aw.iconst d_Law_law_1062 ?_
        exact h
  · have h := hf c9
    refine Aw.iconst d_Law_law_1045 ?_
    exact h
theorem b_Law_law_931 {Ω : Om} {R : Room} {F : QF} {k n : Nat} {σ : Sto} {a1 : Nat} {a2 : Nat} {a3 : Nat} {v4 : Int} (h : 0 ≤ (v4 + 1) ∧ (v4 + 1) < oN Ω ∧ oN Ω < 2147483648 ∧ 0 ≤ (v4 + 2) ∧ (v4 + 2) < oN Ω ∧ oN Ω < 2147483648 ∧ Aw Ω M_Law_law R F k n 945 [xr (some (oB Ω)), xr (some a1), xr (some a2), xr (some a3), xi v4, xu, xu, xu] [xr (some a3), xi ((oX Ω (v4 + 2).toNat).toInt), xi ((oX Ω (v4 + 1).toNat).toInt), xr (some a1)] σ) : Aw Ω M_Law_law R F k n 931 [xr (some (oB Ω)), xr (some a1), xr (some a2), xr (some a3), xi v4, xu, xu, xu] [] σ := by
  refine Aw.aload_n rfl d_Law_law_931 ?_
  refine Aw.aload_n rfl d_Law_law_932 ?_
  refine Aw.iload rfl d_Law_law_933 ?_
  refine Aw.iconst d_Law_law_935 ?_
  refine Aw.iadd d_Law_law_936 ?_
  obtain ⟨o1, o2, h⟩ := h
  obtain ⟨o3, h⟩ := h
  refine Aw.sld o1 o2 o3 d_Law_law_937 ?_
  refine Aw.aload_n rfl d_Law_law_938 ?_
  refine Aw.iload rfl d_Law_law_939 ?_
  refine Aw.iconst d_Law_law_941 ?_
  refine Aw.iadd d_Law_law_942 ?_
  obtain ⟨o4, o5, h⟩ := h
  obtain ⟨o6, h⟩ := h
  refine Aw.sld o4 o5 o6 d_Law_law_943 ?_
  refine Aw.aload_n rfl d_Law_law_944 ?_
  exact h
theorem b_Law_law_948 {Ω : Om} {R : Room} {F : QF} {k n : Nat} {σ : Sto} {a1 : Nat} {a2 : Nat} {a3 : Nat} {v4 : Int} {s0 : Int} (h : 0 ≤ (v4 + 1) ∧ (v4 + 1) < oN Ω ∧ oN Ω < 2147483648 ∧ 0 ≤ (v4 + 2) ∧ (v4 + 2) < oN Ω ∧ oN Ω < 2147483648 ∧ Aw Ω M_Law_law R F k n 963 [xr (some (oB Ω)), xr (some a1), xr (some a2), xr (some a3), xi v4, xi s0, xu, xu] [xi ((oX Ω (v4 + 2).toNat).toInt), xi ((oX Ω (v4 + 1).toNat).toInt), xr (some a2)] σ) : Aw Ω M_Law_law R F k n 948 [xr (some (oB Ω)), xr (some a1), xr (some a2), xr (some a3), xi v4, xu, xu, xu] [xi s0] σ := by
  refine Aw.istore (by decide) d_Law_law_948 ?_
  refine Aw.toL (L' := [xr (some (oB Ω)), xr (some a1), xr (some a2), xr (some a3), xi v4, xi s0, xu, xu]) rfl ?_
  refine Aw.aload_n rfl d_Law_law_950 ?_
  refine Aw.aload_n rfl d_Law_law_951 ?_
  refine Aw.iload rfl d_Law_law_952 ?_
  refine Aw.iconst d_Law_law_954 ?_
  refine Aw.iadd d_Law_law_955 ?_
  obtain ⟨o1, o2, h⟩ := h
  obtain ⟨o3, h⟩ := h
  refine Aw.sld o1 o2 o3 d_Law_law_956 ?_
  refine Aw.aload_n rfl d_Law_law_957 ?_
  refine Aw.iload rfl d_Law_law_958 ?_
  refine Aw.iconst d_Law_law_960 ?_
  refine Aw.iadd d_Law_law_961 ?_
  obtain ⟨o4, o5, h⟩ := h
  obtain ⟨o6, h⟩ := h
  refine Aw.sld o4 o5 o6 d_Law_law_962 ?_
  exact h
theorem b_Law_law_966 {Ω : Om} {R : Room} {F : QF} {k n : Nat} {σ : Sto} {a1 : Nat} {a2 : Nat} {a3 : Nat} {v4 : Int} {v5 : Int} {s0 : Int} (h : Aw Ω M_Law_law R F k n 969 [xr (some (oB Ω)), xr (some a1), xr (some a2), xr (some a3), xi v4, xi v5, xi s0, xu] [xr (some a2)] σ) : Aw Ω M_Law_law R F k n 966 [xr (some (oB Ω)), xr (some a1), xr (some a2), xr (some a3), xi v4, xi v5, xu, xu] [xi s0] σ := by
  refine Aw.istore (by decide) d_Law_law_966 ?_
  refine Aw.toL (L' := [xr (some (oB Ω)), xr (some a1), xr (some a2), xr (some a3), xi v4, xi v5, xi s0, xu]) rfl ?_
  refine Aw.aload_n rfl d_Law_law_968 ?_
  exact h
theorem b_Law_law_972 {Ω : Om} {R : Room} {F : QF} {k n : Nat} {σ : Sto} {a1 : Nat} {a2 : Nat} {a3 : Nat} {v4 : Int} {v5 : Int} {v6 : Int} {s0 : Int} (h : Q32 s0 ∧ Q32 v5 ∧ ((s0 = v5 → ((¬ v5 = (0 : Int) → Aw Ω M_Law_law R F k n 23 [xr (some (oB Ω)), xr (some a1), xr (some a2), xr (some a3), xi (v4 + 5), xu, xu, xu] [] σ) ∧ (v5 = (0 : Int) → sK σ a3 = 51 ∧ 0 ≤ (0 : Int) ∧ (0 : Int) < sZ σ a3 ∧ Q32 (cmpL (aL σ a3 0) (lOf v6)) ∧ (((cmpL (aL σ a3 0) (lOf v6)) = (0 : Int) → Aw Ω M_Law_law R F k n 23 [xr (some (oB Ω)), xr (some a1), xr (some a2), xr (some a3), xi (v4 + 5), xu, xu, xu] [] σ) ∧ (¬ (cmpL (aL σ a3 0) (lOf v6)) = (0 : Int) → Aw Ω M_Law_law R F k n 995 [xr (some (oB Ω)), xr (some a1), xr (some a2), xr (some a3), xi v4, xi v5, xi v6, xu] [xi 0] σ))))) ∧ (¬ s0 = v5 → Aw Ω M_Law_law R F k n 978 [xr (some (oB Ω)), xr (some a1), xr (some a2), xr (some a3), xi v4, xi v5, xi v6, xu] [xi 0] σ))) : Aw Ω M_Law_law R F k n 972 [xr (some (oB Ω)), xr (some a1), xr (some a2), xr (some a3), xi v4, xi v5, xi v6, xu] [xi s0] σ := by
  refine Aw.iload rfl d_Law_law_972 ?_
  obtain ⟨o1, h⟩ := h
  obtain ⟨o2, h⟩ := h
  obtain ⟨ht, hf⟩ := h
  refine Aw.icmp_eq (tgt := 979) o1 o2 (by decide) d_Law_law_974 (fun c9 => ?_) (fun c9 => ?_)
  · have h := ht c9
    refine Aw.iload rfl d_Law_law_979 ?_
    obtain ⟨ht, hf⟩ := h
    refine Aw.if_ne (tgt := 996) o2 (by decide) d_Law_law_981 (fun c8 => ?_) (fun c8 => ?_)
    · have h := ht c8
      refine Aw.goto (tgt := 2611) (by decide) d_Law_law_996 ?_
      refine Aw.iinc rfl d_Law_law_2611 ?_
      refine Aw.toL (L' := [xr (some (oB Ω)), xr (some a1), xr (some a2), xr (some a3), xi (v4 + 5), xi v5, xi v6, xu]) rfl ?_
      refine Aw.goto (tgt := 23) (by decide) d_Law_law_2614 ?_
      exact Aw.toW (L' := [xr (some (oB Ω)), xr (some a1), xr (some a2), xr (some a3), xi (v4 + 5), xu, xu, xu]) ⟨Or.inr rfl, Or.inr rfl, Or.inr rfl, Or.inr rfl, Or.inr rfl, Or.inl rfl, Or.inl rfl, Or.inr rfl, trivial⟩ h
    · have h := hf c8
      refine Aw.aload_n rfl d_Law_law_984 ?_
      refine Aw.iconst d_Law_law_985 ?_
      obtain ⟨o3, h⟩ := h
      obtain ⟨o4, o5, h⟩ := h
      refine Aw.lald o3 o4 o5 d_Law_law_986 ?_
      refine Aw.iload rfl d_Law_law_987 ?_
      refine Aw.i2l d_Law_law_989 ?_
      refine Aw.lcmp d_Law_law_990 ?_
      obtain ⟨o6, h⟩ := h
      obtain ⟨ht, hf⟩ := h
      refine Aw.if_eq (tgt := 996) o6 (by decide) d_Law_law_991 (fun c7 => ?_) (fun c7 => ?_)
      · have h := ht c7
        refine Aw.goto (tgt := 2611) (by decide) d_Law_law_996 ?_
        refine Aw.iinc rfl d_Law_law_2611 ?_
        refine Aw.toL (L' := [xr (some (oB Ω)), xr (some a1), xr (some a2), xr (some a3), xi (v4 + 5), xi v5, xi v6, xu]) rfl ?_
        refine Aw.goto (tgt := 23) (by decide) d_Law_law_2614 ?_
        exact Aw.toW (L' := [xr (some (oB Ω)), xr (some a1), xr (some a2), xr (some a3), xi (v4 + 5), xu, xu, xu]) ⟨Or.inr rfl, Or.inr rfl, Or.inr rfl, Or.inr rfl, Or.inr rfl, Or.inl rfl, Or.inl rfl, Or.inr rfl, trivial⟩ h
      · have h := hf c7
        refine Aw.iconst d_Law_law_994 ?_
        exact h
  · have h := hf c9
    refine Aw.iconst d_Law_law_977 ?_
    exact h
theorem b_Law_law_864 {Ω : Om} {R : Room} {F : QF} {k n : Nat} {σ : Sto} {a1 : Nat} {a2 : Nat} {a3 : Nat} {v4 : Int} (h : 0 ≤ (v4 + 1) ∧ (v4 + 1) < oN Ω ∧ oN Ω < 2147483648 ∧ 0 ≤ (v4 + 2) ∧ (v4 + 2) < oN Ω ∧ oN Ω < 2147483648 ∧ Aw Ω M_Law_law R F k n 878 [xr (some (oB Ω)), xr (some a1), xr (some a2), xr (some a3), xi v4, xu, xu, xu] [xr (some a3), xi ((oX Ω (v4 + 2).toNat).toInt), xi ((oX Ω (v4 + 1).toNat).toInt), xr (some a1)] σ) : Aw Ω M_Law_law R F k n 864 [xr (some (oB Ω)), xr (some a1), xr (some a2), xr (some a3), xi v4, xu, xu, xu] [] σ := by
  refine Aw.aload_n rfl d_Law_law_864 ?_
  refine Aw.aload_n rfl d_Law_law_865 ?_
  refine Aw.iload rfl d_Law_law_866 ?_
  refine Aw.iconst d_Law_law_868 ?_
  refine Aw.iadd d_Law_law_869 ?_
  obtain ⟨o1, o2, h⟩ := h
  obtain ⟨o3, h⟩ := h
  refine Aw.sld o1 o2 o3 d_Law_law_870 ?_
  refine Aw.aload_n rfl d_Law_law_871 ?_
  refine Aw.iload rfl d_Law_law_872 ?_
  refine Aw.iconst d_Law_law_874 ?_
  refine Aw.iadd d_Law_law_875 ?_
  obtain ⟨o4, o5, h⟩ := h
  obtain ⟨o6, h⟩ := h
  refine Aw.sld o4 o5 o6 d_Law_law_876 ?_
  refine Aw.aload_n rfl d_Law_law_877 ?_
  exact h
theorem b_Law_law_881 {Ω : Om} {R : Room} {F : QF} {k n : Nat} {σ : Sto} {a1 : Nat} {a2 : Nat} {a3 : Nat} {v4 : Int} {s0 : Int} (h : 0 ≤ (v4 + 1) ∧ (v4 + 1) < oN Ω ∧ oN Ω < 2147483648 ∧ 0 ≤ (v4 + 2) ∧ (v4 + 2) < oN Ω ∧ oN Ω < 2147483648 ∧ Aw Ω M_Law_law R F k n 896 [xr (some (oB Ω)), xr (some a1), xr (some a2), xr (some a3), xi v4, xi s0, xu, xu] [xi ((oX Ω (v4 + 2).toNat).toInt), xi ((oX Ω (v4 + 1).toNat).toInt), xr (some a2)] σ) : Aw Ω M_Law_law R F k n 881 [xr (some (oB Ω)), xr (some a1), xr (some a2), xr (some a3), xi v4, xu, xu, xu] [xi s0] σ := by
  refine Aw.istore (by decide) d_Law_law_881 ?_
  refine Aw.toL (L' := [xr (some (oB Ω)), xr (some a1), xr (some a2), xr (some a3), xi v4, xi s0, xu, xu]) rfl ?_
  refine Aw.aload_n rfl d_Law_law_883 ?_
  refine Aw.aload_n rfl d_Law_law_884 ?_
  refine Aw.iload rfl d_Law_law_885 ?_
  refine Aw.iconst d_Law_law_887 ?_
  refine Aw.iadd d_Law_law_888 ?_
  obtain ⟨o1, o2, h⟩ := h
  obtain ⟨o3, h⟩ := h
  refine Aw.sld o1 o2 o3 d_Law_law_889 ?_
  refine Aw.aload_n rfl d_Law_law_890 ?_
  refine Aw.iload rfl d_Law_law_891 ?_
  refine Aw.iconst d_Law_law_893 ?_
  refine Aw.iadd d_Law_law_894 ?_
  obtain ⟨o4, o5, h⟩ := h
  obtain ⟨o6, h⟩ := h
  refine Aw.sld o4 o5 o6 d_Law_law_895 ?_
  exact h
theorem b_Law_law_899 {Ω : Om} {R : Room} {F : QF} {k n : Nat} {σ : Sto} {a1 : Nat} {a2 : Nat} {a3 : Nat} {v4 : Int} {v5 : Int} {s0 : Int64} (h : Aw Ω M_Law_law R F k n 902 [xr (some (oB Ω)), xr (some a1), xr (some a2), xr (some a3), xi v4, xi v5, xl s0, xu] [xr (some a2)] σ) : Aw Ω M_Law_law R F k n 899 [xr (some (oB Ω)), xr (some a1), xr (some a2), xr (some a3), xi v4, xi v5, xu, xu] [xl s0] σ := by
  refine Aw.lstore (by decide) d_Law_law_899 ?_
  refine Aw.toL (L' := [xr (some (oB Ω)), xr (some a1), xr (some a2), xr (some a3), xi v4, xi v5, xl s0, xu]) rfl ?_
  refine Aw.aload_n rfl d_Law_law_901 ?_
  exact h
theorem b_Law_law_905 {Ω : Om} {R : Room} {F : QF} {k n : Nat} {σ : Sto} {a1 : Nat} {a2 : Nat} {a3 : Nat} {v4 : Int} {v5 : Int} {v6 : Int64} {s0 : Int} (h : Q32 s0 ∧ Q32 v5 ∧ ((s0 = v5 → ((¬ v5 = (0 : Int) → Aw Ω M_Law_law R F k n 23 [xr (some (oB Ω)), xr (some a1), xr (some a2), xr (some a3), xi (v4 + 5), xu, xu, xu] [] σ) ∧ (v5 = (0 : Int) → sK σ a3 = 51 ∧ 0 ≤ (0 : Int) ∧ (0 : Int) < sZ σ a3 ∧ Q32 (cmpL (aL σ a3 0) v6) ∧ (((cmpL (aL σ a3 0) v6) = (0 : Int) → Aw Ω M_Law_law R F k n 23 [xr (some (oB Ω)), xr (some a1), xr (some a2), xr (some a3), xi (v4 + 5), xu, xu, xu] [] σ) ∧ (¬ (cmpL (aL σ a3 0) v6) = (0 : Int) → Aw Ω M_Law_law R F k n 927 [xr (some (oB Ω)), xr (some a1), xr (some a2), xr (some a3), xi v4, xi v5, xl v6, xu] [xi 0] σ))))) ∧ (¬ s0 = v5 → Aw Ω M_Law_law R F k n 911 [xr (some (oB Ω)), xr (some a1), xr (some a2), xr (some a3), xi v4, xi v5, xl v6, xu] [xi 0] σ))) : Aw Ω M_Law_law R F k n 905 [xr (some (oB Ω)), xr (some a1), xr (some a2), xr (some a3), xi v4, xi v5, xl v6, xu] [xi s0] σ := by
  refine Aw.iload rfl d_Law_law_905 ?_
  obtain ⟨o1, h⟩ := h
  obtain ⟨o2, h⟩ := h
  obtain ⟨ht, hf⟩ := h
  refine Aw.icmp_eq (tgt := 912) o1 o2 (by decide) d_Law_law_907 (fun c9 => ?_) (fun c9 => ?_)
  · have h := ht c9
    refine Aw.iload rfl d_Law_law_912 ?_
    obtain ⟨ht, hf⟩ := h
    refine Aw.if_ne (tgt := 928) o2 (by decide) d_Law_law_914 (fun c8 => ?_) (fun c8 => ?_)
    · have h := ht c8
      refine Aw.goto (tgt := 2611) (by decide) d_Law_law_928 ?_
      refine Aw.iinc rfl d_Law_law_2611 ?_
      refine Aw.toL (L' := [xr (some (oB Ω)), xr (some a1), xr (some a2), xr (some a3), xi (v4 + 5), xi v5, xl v6, xu]) rfl ?_
      refine Aw.goto (tgt := 23) (by decide) d_Law_law_2614 ?_
      exact Aw.toW (L' := [xr (some (oB Ω)), xr (some a1), xr (some a2), xr (some a3), xi (v4 + 5), xu, xu, xu]) ⟨Or.inr rfl, Or.inr rfl, Or.inr rfl, Or.inr rfl, Or.inr rfl, Or.inl rfl, Or.inl rfl, Or.inr rfl, trivial⟩ h
    · have h := hf c8
      refine Aw.aload_n rfl d_Law_law_917 ?_
      refine Aw.iconst d_Law_law_918 ?_
      obtain ⟨o3, h⟩ := h
      obtain ⟨o4, o5, h⟩ := h
      refine Aw.lald o3 o4 o5 d_Law_law_919 ?_
      refine Aw.lload rfl d_Law_law_920 ?_
      refine Aw.lcmp d_Law_law_922 ?_
      obtain ⟨o6, h⟩ := h
      obtain ⟨ht, hf⟩ := h
      refine Aw.if_eq (tgt := 928) o6 (by decide) d_Law_law_923 (fun c7 => ?_) (fun c7 => ?_)
      · have h := ht c7
        refine Aw.goto (tgt := 2611) (by decide) d_Law_law_928 ?_
        refine Aw.iinc rfl d_Law_law_2611 ?_
        refine Aw.toL (L' := [xr (some (oB Ω)), xr (some a1), xr (some a2), xr (some a3), xi (v4 + 5), xi v5, xl v6, xu]) rfl ?_
        refine Aw.goto (tgt := 23) (by decide) d_Law_law_2614 ?_
        exact Aw.toW (L' := [xr (some (oB Ω)), xr (some a1), xr (some a2), xr (some a3), xi (v4 + 5), xu, xu, xu]) ⟨Or.inr rfl, Or.inr rfl, Or.inr rfl, Or.inr rfl, Or.inr rfl, Or.inl rfl, Or.inl rfl, Or.inr rfl, trivial⟩ h
      · have h := hf c7
        refine Aw.iconst d_Law_law_926 ?_
        exact h
  · have h := hf c9
    refine Aw.iconst d_Law_law_910 ?_
    exact h
theorem b_Law_law_797 {Ω : Om} {R : Room} {F : QF} {k n : Nat} {σ : Sto} {a1 : Nat} {a2 : Nat} {a3 : Nat} {v4 : Int} (h : 0 ≤ (v4 + 1) ∧ (v4 + 1) < oN Ω ∧ oN Ω < 2147483648 ∧ 0 ≤ (v4 + 2) ∧ (v4 + 2) < oN Ω ∧ oN Ω < 2147483648 ∧ Aw Ω M_Law_law R F k n 811 [xr (some (oB Ω)), xr (some a1), xr (some a2), xr (some a3), xi v4, xu, xu, xu] [xr (some a3), xi ((oX Ω (v4 + 2).toNat).toInt), xi ((oX Ω (v4 + 1).toNat).toInt), xr (some a1)] σ) : Aw Ω M_Law_law R F k n 797 [xr (some (oB Ω)), xr (some a1), xr (some a2), xr (some a3), xi v4, xu, xu, xu] [] σ := by
  refine Aw.aload_n rfl d_Law_law_797 ?_
  refine Aw.aload_n rfl d_Law_law_798 ?_
  refine Aw.iload rfl d_Law_law_799 ?_
  refine Aw.iconst d_Law_law_801 ?_
  refine Aw.iadd d_Law_law_802 ?_
  obtain ⟨o1, o2, h⟩ := h
  obtain ⟨o3, h⟩ := h
  refine Aw.sld o1 o2 o3 d_Law_law_803 ?_
  refine Aw.aload_n rfl d_Law_law_804 ?_
  refine Aw.iload rfl d_Law_law_805 ?_
  refine Aw.iconst d_Law_law_807 ?_
  refine Aw.iadd d_Law_law_808 ?_
  obtain ⟨o4, o5, h⟩ := h
  obtain ⟨o6, h⟩ := h
  refine Aw.sld o4 o5 o6 d_Law_law_809 ?_
  refine Aw.aload_n rfl d_Law_law_810 ?_
  exact h
theorem b_Law_law_814 {Ω : Om} {R : Room} {F : QF} {k n : Nat} {σ : Sto} {a1 : Nat} {a2 : Nat} {a3 : Nat} {v4 : Int} {s0 : Int} (h : 0 ≤ (v4 + 1) ∧ (v4 + 1) < oN Ω ∧ oN Ω < 2147483648 ∧ 0 ≤ (v4 + 2) ∧ (v4 + 2) < oN Ω ∧ oN Ω < 2147483648 ∧ Aw Ω M_Law_law R F k n 829 [xr (some (oB Ω)), xr (some a1), xr (some a2), xr (some a3), xi v4, xi s0, xu, xu] [xi ((oX Ω (v4 + 2).toNat).toInt), xi ((oX Ω (v4 + 1).toNat).toInt), xr (some a2)] σ) : Aw Ω M_Law_law R F k n 814 [xr (some (oB Ω)), xr (some a1), xr (some a2), xr (some a3), xi v4, xu, xu, xu] [xi s0] σ := by
  refine Aw.istore (by decide) d_Law_law_814 ?_
  refine Aw.toL (L' := [xr (some (oB Ω)), xr (some a1), xr (some a2), xr (some a3), xi v4, xi s0, xu, xu]) rfl ?_
  refine Aw.aload_n rfl d_Law_law_816 ?_
  refine Aw.aload_n rfl d_Law_law_817 ?_
  refine Aw.iload rfl d_Law_law_818 ?_
  refine Aw.iconst d_Law_law_820 ?_
  refine Aw.iadd d_Law_law_821 ?_
  obtain ⟨o1, o2, h⟩ := h
  obtain ⟨o3, h⟩ := h
  refine Aw.sld o1 o2 o3 d_Law_law_822 ?_
  refine Aw.aload_n rfl d_Law_law_823 ?_
  refine Aw.iload rfl d_Law_law_824 ?_
  refine Aw.iconst d_Law_law_826 ?_
  refine Aw.iadd d_Law_law_827 ?_
  obtain ⟨o4, o5, h⟩ := h
  obtain ⟨o6, h⟩ := h
  refine Aw.sld o4 o5 o6 d_Law_law_828 ?_
  exact h
theorem b_Law_law_832 {Ω : Om} {R : Room} {F : QF} {k n : Nat} {σ : Sto} {a1 : Nat} {a2 : Nat} {a3 : Nat} {v4 : Int} {v5 : Int} {s0 : Int64} (h : Aw Ω M_Law_law R F k n 835 [xr (some (oB Ω)), xr (some a1), xr (some a2), xr (some a3), xi v4, xi v5, xl s0, xu] [xr (some a2)] σ) : Aw Ω M_Law_law R F k n 832 [xr (some (oB Ω)), xr (some a1), xr (some a2), xr (some a3), xi v4, xi v5, xu, xu] [xl s0] σ := by
  refine Aw.lstore (by decide) d_Law_law_832 ?_
  refine Aw.toL (L' := [xr (some (oB Ω)), xr (some a1), xr (some a2), xr (some a3), xi v4, xi v5, xl s0, xu]) rfl ?_
  refine Aw.aload_n rfl d_Law_law_834 ?_
  exact h
theorem b_Law_law_838 {Ω : Om} {R : Room} {F : QF} {k n : Nat} {σ : Sto} {a1 : Nat} {a2 : Nat} {a3 : Nat} {v4 : Int} {v5 : Int} {v6 : Int64} {s0 : Int} (h : Q32 s0 ∧ Q32 v5 ∧ ((s0 = v5 → ((¬ v5 = (0 : Int) → Aw Ω M_Law_law R F k n 23 [xr (some (oB Ω)), xr (some a1), xr (some a2), xr (some a3), xi (v4 + 5), xu, xu, xu] [] σ) ∧ (v5 = (0 : Int) → sK σ a3 = 51 ∧ 0 ≤ (0 : Int) ∧ (0 : Int) < sZ σ a3 ∧ Q32 (cmpL (aL σ a3 0) v6) ∧ (((cmpL (aL σ a3 0) v6) = (0 : Int) → Aw Ω M_Law_law R F k n 23 [xr (some (oB Ω)), xr (some a1), xr (some a2), xr (some a3), xi (v4 + 5), xu, xu, xu] [] σ) ∧ (¬ (cmpL (aL σ a3 0) v6) = (0 : Int) → Aw Ω M_Law_law R F k n 860 [xr (some (oB Ω)), xr (some a1), xr (some a2), xr (some a3), xi v4, xi v5, xl v6, xu] [xi 0] σ))))) ∧ (¬ s0 = v5 → Aw Ω M_Law_law R F k n 844 [xr (some (oB Ω)), xr (some a1), xr (some a2), xr (some a3), xi v4, xi v5, xl v6, xu] [xi 0] σ))) : Aw Ω M_Law_law R F k n 838 [xr (some (oB Ω)), xr (some a1), xr (some a2), xr (some a3), xi v4, xi v5, xl v6, xu] [xi s0] σ := by
  refine Aw.iload rfl d_Law_law_838 ?_
  obtain ⟨o1, h⟩ := h
  obtain ⟨o2, h⟩ := h
  obtain ⟨ht, hf⟩ := h
  refine Aw.icmp_eq (tgt := 845) o1 o2 (by decide) d_Law_law_840 (fun c9 => ?_) (fun c9 => ?_)
  · have h := ht c9
    refine Aw.iload rfl d_Law_law_845 ?_
    obtain ⟨ht, hf⟩ := h
    refine Aw.if_ne (tgt := 861) o2 (by decide) d_Law_law_847 (fun c8 => ?_) (fun c8 => ?_)
    · have h := ht c8
      refine Aw.goto (tgt := 2611) (by decide) d_Law_law_861 ?_
      refine Aw.iinc rfl d_Law_law_2611 ?_
      refine Aw.toL (L' := [xr (some (oB Ω)), xr (some a1), xr (some a2), xr (some a3), xi (v4 + 5), xi v5, xl v6, xu]) rfl ?_
      refine Aw.goto (tgt := 23) (by decide) d_Law_law_2614 ?_
      exact Aw.toW (L' := [xr (some (oB Ω)), xr (some a1), xr (some a2), xr (some a3), xi (v4 + 5), xu, xu, xu]) ⟨Or.inr rfl, Or.inr rfl, Or.inr rfl, Or.inr rfl, Or.inr rfl, Or.inl rfl, Or.inl rfl, Or.inr rfl, trivial⟩ h
    · have h := hf c8
      refine Aw.aload_n rfl d_Law_law_850 ?_
      refine Aw.iconst d_Law_law_851 ?_
      obtain ⟨o3, h⟩ := h
      obtain ⟨o4, o5, h⟩ := h
      refine Aw.lald o3 o4 o5 d_Law_law_852 ?_
      refine Aw.lload rfl d_Law_law_853 ?_
      refine Aw.lcmp d_Law_law_855 ?_
      obtain ⟨o6, h⟩ := h
      obtain ⟨ht, hf⟩ := h
      refine Aw.if_eq (tgt := 861) o6 (by decide) d_Law_law_856 (fun c7 => ?_) (fun c7 => ?_)
      · have h := ht c7
        refine Aw.goto (tgt := 2611) (by decide) d_Law_law_861 ?_
        refine Aw.iinc rfl d_Law_law_2611 ?_
        refine Aw.toL (L' := [xr (some (oB Ω)), xr (some a1), xr (some a2), xr (some a3), xi (v4 + 5), xi v5, xl v6, xu]) rfl ?_
        refine Aw.goto (tgt := 23) (by decide) d_Law_law_2614 ?_
        exact Aw.toW (L' := [xr (some (oB Ω)), xr (some a1), xr (some a2), xr (some a3), xi (v4 + 5), xu, xu, xu]) ⟨Or.inr rfl, Or.inr rfl, Or.inr rfl, Or.inr rfl, Or.inr rfl, Or.inl rfl, Or.inl rfl, Or.inr rfl, trivial⟩ h
      · have h := hf c7
        refine Aw.iconst d_Law_law_859 ?_
        exact h
  · have h := hf c9
    refine Aw.iconst d_Law_law_843 ?_
    exact h
theorem b_Law_law_741 {Ω : Om} {R : Room} {F : QF} {k n : Nat} {σ : Sto} {a1 : Nat} {a2 : Nat} {a3 : Nat} {v4 : Int} (h : 0 ≤ (v4 + 1) ∧ (v4 + 1) < oN Ω ∧ oN Ω < 2147483648 ∧ Aw Ω M_Law_law R F k n 749 [xr (some (oB Ω)), xr (some a1), xr (some a2), xr (some a3), xi v4, xu, xu, xu] [xr (some a3), xi ((oX Ω (v4 + 1).toNat).toInt), xr (some a1)] σ) : Aw Ω M_Law_law R F k n 741 [xr (some (oB Ω)), xr (some a1), xr (some a2), xr (some a3), xi v4, xu, xu, xu] [] σ := by
  refine Aw.aload_n rfl d_Law_law_741 ?_
  refine Aw.aload_n rfl d_Law_law_742 ?_
  refine Aw.iload rfl d_Law_law_743 ?_
  refine Aw.iconst d_Law_law_745 ?_
  refine Aw.iadd d_Law_law_746 ?_
  obtain ⟨o1, o2, h⟩ := h
  obtain ⟨o3, h⟩ := h
  refine Aw.sld o1 o2 o3 d_Law_law_747 ?_
  refine Aw.aload_n rfl d_Law_law_748 ?_
  exact h
theorem b_Law_law_752 {Ω : Om} {R : Room} {F : QF} {k n : Nat} {σ : Sto} {a1 : Nat} {a2 : Nat} {a3 : Nat} {v4 : Int} {s0 : Int} (h : 0 ≤ (v4 + 1) ∧ (v4 + 1) < oN Ω ∧ oN Ω < 2147483648 ∧ Aw Ω M_Law_law R F k n 761 [xr (some (oB Ω)), xr (some a1), xr (some a2), xr (some a3), xi v4, xi s0, xu, xu] [xi ((oX Ω (v4 + 1).toNat).toInt), xr (some a2)] σ) : Aw Ω M_Law_law R F k n 752 [xr (some (oB Ω)), xr (some a1), xr (some a2), xr (some a3), xi v4, xu, xu, xu] [xi s0] σ := by
  refine Aw.istore (by decide) d_Law_law_752 ?_
  refine Aw.toL (L' := [xr (some (oB Ω)), xr (some a1), xr (some a2), xr (some a3), xi v4, xi s0, xu, xu]) rfl ?_
  refine Aw.aload_n rfl d_Law_law_754 ?_
  refine Aw.aload_n rfl d_Law_law_755 ?_
  refine Aw.iload rfl d_Law_law_756 ?_
  refine Aw.iconst d_Law_law_758 ?_
  refine Aw.iadd d_Law_law_759 ?_
  obtain ⟨o1, o2, h⟩ := h
  obtain ⟨o3, h⟩ := h
  refine Aw.sld o1 o2 o3 d_Law_law_760 ?_
  exact h
theorem b_Law_law_764 {Ω : Om} {R : Room} {F : QF} {k n : Nat} {σ : Sto} {a1 : Nat} {a2 : Nat} {a3 : Nat} {v4 : Int} {v5 : Int} {s0 : Int} (h : Aw Ω M_Law_law R F k n 767 [xr (some (oB Ω)), xr (some a1), xr (some a2), xr (some a3), xi v4, xi v5, xi s0, xu] [xr (some a2)] σ) : Aw Ω M_Law_law R F k n 764 [xr (some (oB Ω)), xr (some a1), xr (some a2), xr (some a3), xi v4, xi v5, xu, xu] [xi s0] σ := by
  refine Aw.istore (by decide) d_Law_law_764 ?_
  refine Aw.toL (L' := [xr (some (oB Ω)), xr (some a1), xr (some a2), xr (some a3), xi v4, xi v5, xi s0, xu]) rfl ?_
  refine Aw.aload_n rfl d_Law_law_766 ?_
  exact h
theorem b_Law_law_770 {Ω : Om} {R : Room} {F : QF} {k n : Nat} {σ : Sto} {a1 : Nat} {a2 : Nat} {a3 : Nat} {v4 : Int} {v5 : Int} {v6 : Int} {s0 : Int} (h : Q32 s0 ∧ Q32 v5 ∧ ((s0 = v5 → ((¬ v5 = (0 : Int) → Aw Ω M_Law_law R F k n 23 [xr (some (oB Ω)), xr (some a1), xr (some a2), xr (some a3), xi (v4 + 5), xu, xu, xu] [] σ) ∧ (v5 = (0 : Int) → sK σ a3 = 51 ∧ 0 ≤ (0 : Int) ∧ (0 : Int) < sZ σ a3 ∧ Q32 (cmpL (aL σ a3 0) (lOf v6)) ∧ (((cmpL (aL σ a3 0) (lOf v6)) = (0 : Int) → Aw Ω M_Law_law R F k n 23 [xr (some (oB Ω)), xr (some a1), xr (some a2), xr (some a3), xi (v4 + 5), xu, xu, xu] [] σ) ∧ (¬ (cmpL (aL σ a3 0) (lOf v6)) = (0 : Int) → Aw Ω M_Law_law R F k n 793 [xr (some (oB Ω)), xr (some a1), xr (some a2), xr (some a3), xi v4, xi v5, xi v6, xu] [xi 0] σ))))) ∧ (¬ s0 = v5 → Aw Ω M_Law_law R F k n 776 [xr (some (oB Ω)), xr (some a1), xr (some a2), xr (some a3), xi v4, xi v5, xi v6, xu] [xi 0] σ))) : Aw Ω M_Law_law R F k n 770 [xr (some (oB Ω)), xr (some a1), xr (some a2), xr (some a3), xi v4, xi v5, xi v6, xu] [xi s0] σ := by
  refine Aw.iload rfl d_Law_law_770 ?_
  obtain ⟨o1, h⟩ := h
  obtain ⟨o2, h⟩ := h
  obtain ⟨ht, hf⟩ := h
  refine Aw.icmp_eq (tgt := 777) o1 o2 (by decide) d_Law_law_772 (fun c9 => ?_) (fun c9 => ?_)
  · have h := ht c9
    refine Aw.iload rfl d_Law_law_777 ?_
    obtain ⟨ht, hf⟩ := h
    refine Aw.if_ne (tgt := 794) o2 (by decide) d_Law_law_779 (fun c8 => ?_) (fun c8 => ?_)
    · have h := ht c8
      refine Aw.goto (tgt := 2611) (by decide) d_Law_law_794 ?_
      refine Aw.iinc rfl d_Law_law_2611 ?_
      refine Aw.toL (L' := [xr (some (oB Ω)), xr (some a1), xr (some a2), xr (some a3), xi (v4 + 5), xi v5, xi v6, xu]) rfl ?_
      refine Aw.goto (tgt := 23) (by decide) d_Law_law_2614 ?_
      exact Aw.toW (L' := [xr (some (oB Ω)), xr (some a1), xr (some a2), xr (some a3), xi (v4 + 5), xu, xu, xu]) ⟨Or.inr rfl, Or.inr rfl, Or.inr rfl, Or.inr rfl, Or.inr rfl, Or.inl rfl, Or.inl rfl, Or.inr rfl, trivial⟩ h
    · have h := hf c8
      refine Aw.aload_n rfl d_Law_law_782 ?_
      refine Aw.iconst d_Law_law_783 ?_
      obtain ⟨o3, h⟩ := h
      obtain ⟨o4, o5, h⟩ := h
      refine Aw.lald o3 o4 o5 d_Law_law_784 ?_
      refine Aw.iload rfl d_Law_law_785 ?_
      refine Aw.i2l d_Law_law_787 ?_
      refine Aw.lcmp d_Law_law_788 ?_
      obtain ⟨o6, h⟩ := h
      obtain ⟨ht, hf⟩ := h
      refine Aw.if_eq (tgt := 794) o6 (by decide) d_Law_law_789 (fun c7 => ?_) (fun c7 => ?_)
      · have h := ht c7
        refine Aw.goto (tgt := 2611) (by decide) d_Law_law_794 ?_
        refine Aw.iinc rfl d_Law_law_2611 ?_
        refine Aw.toL (L' := [xr (some (oB Ω)), xr (some a1), xr (some a2), xr (some a3), xi (v4 + 5), xi v5, xi v6, xu]) rfl ?_
        refine Aw.goto (tgt := 23) (by decide) d_Law_law_2614 ?_
        exact Aw.toW (L' := [xr (some (oB Ω)), xr (some a1), xr (some a2), xr (some a3), xi (v4 + 5), xu, xu, xu]) ⟨Or.inr rfl, Or.inr rfl, Or.inr rfl, Or.inr rfl, Or.inr rfl, Or.inl rfl, Or.inl rfl, Or.inr rfl, trivial⟩ h
      · have h := hf c7
        refine Aw.iconst d_Law_law_792 ?_
        exact h
  · have h := hf c9
    refine Aw.iconst d_Law_law_775 ?_
    exact h
theorem b_Law_law_728 {Ω : Om} {R : Room} {F : QF} {k n : Nat} {σ : Sto} {a1 : Nat} {a2 : Nat} {a3 : Nat} {v4 : Int} (h : Aw Ω M_Law_law R F k n 729 [xr (some (oB Ω)), xr (some a1), xr (some a2), xr (some a3), xi v4, xu, xu, xu] [xr (some a1)] σ) : Aw Ω M_Law_law R F k n 728 [xr (some (oB Ω)), xr (some a1), xr (some a2), xr (some a3), xi v4, xu, xu, xu] [] σ := by
  refine Aw.aload_n rfl d_Law_law_728 ?_
  exact h
theorem b_Law_law_732 {Ω : Om} {R : Room} {F : QF} {k n : Nat} {σ : Sto} {a1 : Nat} {a2 : Nat} {a3 : Nat} {v4 : Int} {s0 : Int} (h : Aw Ω M_Law_law R F k n 733 [xr (some (oB Ω)), xr (some a1), xr (some a2), xr (some a3), xi v4, xu, xu, xu] [xr (some a2), xi s0] σ) : Aw Ω M_Law_law R F k n 732 [xr (some (oB Ω)), xr (some a1), xr (some a2), xr (some a3), xi v4, xu, xu, xu] [xi s0] σ := by
  refine Aw.aload_n rfl d_Law_law_732 ?_
  exact h
theorem b_Law_law_736 {Ω : Om} {R : Room} {F : QF} {k n : Nat} {σ : Sto} {a1 : Nat} {a2 : Nat} {a3 : Nat} {v4 : Int} {s0 : Int} {s1 : Int} (h : Q32 s0 ∧ Q32 s1 ∧ ((s0 = s1 → Aw Ω M_Law_law R F k n 23 [xr (some (oB Ω)), xr (some a1), xr (some a2), xr (some a3), xi (v4 + 5), xu, xu, xu] [] σ) ∧ (¬ s0 = s1 → Aw Ω M_Law_law R F k n 740 [xr (some (oB Ω)), xr (some a1), xr (some a2), xr (some a3), xi v4, xu, xu, xu] [xi 0] σ))) : Aw Ω M_Law_law R F k n 736 [xr (some (oB Ω)), xr (some a1), xr (some a2), xr (some a3), xi v4, xu, xu, xu] [xi s1, xi s0] σ := by
  obtain ⟨o1, h⟩ := h
  obtain ⟨o2, h⟩ := h
  obtain ⟨ht, hf⟩ := h
  refine Aw.icmp_eq (tgt := 2611) o1 o2 (by decide) d_Law_law_736 (fun c3 => ?_) (fun c3 => ?_)
  · have h := ht c3
    refine Aw.iinc rfl d_Law_law_2611 ?_
    refine Aw.toL (L' := [xr (some (oB Ω)), xr (some a1), xr (some a2), xr (some a3), xi (v4 + 5), xu, xu, xu]) rfl ?_
    refine Aw.goto (tgt := 23) (by decide) d_Law_law_2614 ?_
    exact h
  · have h := hf c3
    refine Aw.iconst d_Law_law_739 ?_
    exact h
theorem b_Law_law_673 {Ω : Om} {R : Room} {F : QF} {k n : Nat} {σ : Sto} {a1 : Nat} {a2 : Nat} {a3 : Nat} {v4 : Int} (h : 0 ≤ (v4 + 1) ∧ (v4 + 1) < oN Ω ∧ oN Ω < 2147483648 ∧ Aw Ω M_Law_law R F k n 681 [xr (some (oB Ω)), xr (some a1), xr (some a2), xr (some a3), xi v4, xu, xu, xu] [xr (some a3), xi ((oX Ω (v4 + 1).toNat).toInt), xr (some a1)] σ) : Aw Ω M_Law_law R F k n 673 [xr (some (oB Ω)), xr (some a1), xr (some a2), xr (some a3), xi v4, xu, xu, xu] [] σ := by
  refine Aw.aload_n rfl d_Law_law_673 ?_
  refine Aw.aload_n rfl d_Law_law_674 ?_
  refine Aw.iload rfl d_Law_law_675 ?_
  refine Aw.iconst d_Law_law_677 ?_
  refine Aw.iadd d_Law_law_678 ?_
  obtain ⟨o1, o2, h⟩ := h
  obtain ⟨o3, h⟩ := h
  refine Aw.sld o1 o2 o3 d_Law_law_679 ?_
  refine Aw.aload_n rfl d_Law_law_680 ?_
  exact h
theorem b_Law_law_684 {Ω : Om} {R : Room} {F : QF} {k n : Nat} {σ : Sto} {a1 : Nat} {a2 : Nat} {a3 : Nat} {v4 : Int} {s0 : Int} (h : 0 ≤ (v4 + 1) ∧ (v4 + 1) < oN Ω ∧ oN Ω < 2147483648 ∧ Aw Ω M_Law_law R F k n 693 [xr (some (oB Ω)), xr (some a1), xr (some a2), xr (some a3), xi v4, xi s0, xu, xu] [xi ((oX Ω (v4 + 1).toNat).toInt), xr (some a2)] σ) : Aw Ω M_Law_law R F k n 684 [xr (some (oB Ω)), xr (some a1), xr (some a2), xr (some a3), xi v4, xu, xu, xu] [xi s0] σ := by
  refine Aw.istore (by decide) d_Law_law_684 ?_
  refine Aw.toL (L' := [xr (some (oB Ω)), xr (some a1), xr (some a2), xr (some a3), xi v4, xi s0, xu, xu]) rfl ?_
  refine Aw.aload_n rfl d_Law_law_686 ?_
  refine Aw.aload_n rfl d_Law_law_687 ?_
  refine Aw.iload rfl d_Law_law_688 ?_
  refine Aw.iconst d_Law_law_690 ?_
  refine Aw.iadd d_Law_law_691 ?_
  obtain ⟨o1, o2, h⟩ := h
  obtain ⟨o3, h⟩ := h
  refine Aw.sld o1 o2 o3 d_Law_law_692 ?_
  exact h
theorem b_Law_law_696 {Ω : Om} {R : Room} {F : QF} {k n : Nat} {σ : Sto} {a1 : Nat} {a2 : Nat} {a3 : Nat} {v4 : Int} {v5 : Int} {s0 : Int64} (h : Aw Ω M_Law_law R F k n 699 [xr (some (oB Ω)), xr (some a1), xr (some a2), xr (some a3), xi v4, xi v5, xl s0, xu] [xr (some a2)] σ) : Aw Ω M_Law_law R F k n 696 [xr (some (oB Ω)), xr (some a1), xr (some a2), xr (some a3), xi v4, xi v5, xu, xu] [xl s0] σ := by
  refine Aw.lstore (by decide) d_Law_law_696 ?_
  refine Aw.toL (L' := [xr (some (oB Ω)), xr (some a1), xr (some a2), xr (some a3), xi v4, xi v5, xl s0, xu]) rfl ?_
  refine Aw.aload_n rfl d_Law_law_698 ?_
  exact h
theorem b_Law_law_702 {Ω : Om} {R : Room} {F : QF} {k n : Nat} {σ : Sto} {a1 : Nat} {a2 : Nat} {a3 : Nat} {v4 : Int} {v5 : Int} {v6 : Int64} {s0 : Int} (h : Q32 s0 ∧ Q32 v5 ∧ ((s0 = v5 → ((¬ v5 = (0 : Int) → Aw Ω M_Law_law R F k n 23 [xr (some (oB Ω)), xr (some a1), xr (some a2), xr (some a3), xi (v4 + 5), xu, xu, xu] [] σ) ∧ (v5 = (0 : Int) → sK σ a3 = 51 ∧ 0 ≤ (0 : Int) ∧ (0 : Int) < sZ σ a3 ∧ Q32 (cmpL (aL σ a3 0) v6) ∧ (((cmpL (aL σ a3 0) v6) = (0 : Int) → Aw Ω M_Law_law R F k n 23 [xr (some (oB Ω)), xr (some a1), xr (some a2), xr (some a3), xi (v4 + 5), xu, xu, xu] [] σ) ∧ (¬ (cmpL (aL σ a3 0) v6) = (0 : Int) → Aw Ω M_Law_law R F k n 724 [xr (some (oB Ω)), xr (some a1), xr (some a2), xr (some a3), xi v4, xi v5, xl v6, xu] [xi 0] σ))))) ∧ (¬ s0 = v5 → Aw Ω M_Law_law R F k n 708 [xr (some (oB Ω)), xr (some a1), xr (some a2), xr (some a3), xi v4, xi v5, xl v6, xu] [xi 0] σ))) : Aw Ω M_Law_law R F k n 702 [xr (some (oB Ω)), xr (some a1), xr (some a2), xr (some a3), xi v4, xi v5, xl v6, xu] [xi s0] σ := by
  refine Aw.iload rfl d_Law_law_702 ?_
  obtain ⟨o1, h⟩ := h
  obtain ⟨o2, h⟩ := h
  obtain ⟨ht, hf⟩ := h
  refine Aw.icmp_eq (tgt := 709) o1 o2 (by decide) d_Law_law_704 (fun c9 => ?_) (fun c9 => ?_)
  · have h := ht c9
    refine Aw.iload rfl d_Law_law_709 ?_
    obtain ⟨ht, hf⟩ := h
    refine Aw.if_ne (tgt := 725) o2 (by decide) d_Law_law_711 (fun c8 => ?_) (fun c8 => ?_)
    · have h := ht c8
      refine Aw.goto (tgt := 2611) (by decide) d_Law_law_725 ?_
      refine Aw.iinc rfl d_Law_law_2611 ?_
      refine Aw.toL (L' := [xr (some (oB Ω)), xr (some a1), xr (some a2), xr (some a3), xi (v4 + 5), xi v5, xl v6, xu]) rfl ?_
      refine Aw.goto (tgt := 23) (by decide) d_Law_law_2614 ?_
      exact Aw.toW (L' := [xr (some (oB Ω)), xr (some a1), xr (some a2), xr (some a3), xi (v4 + 5), xu, xu, xu]) ⟨Or.inr rfl, Or.inr rfl, Or.inr rfl, Or.inr rfl, Or.inr rfl, Or.inl rfl, Or.inl rfl, Or.inr rfl, trivial⟩ h
    · have h := hf c8
      refine Aw.aload_n rfl d_Law_law_714 ?_
      refine Aw.iconst d_Law_law_715 ?_
      obtain ⟨o3, h⟩ := h
      obtain ⟨o4, o5, h⟩ := h
      refine Aw.lald o3 o4 o5 d_Law_law_716 ?_
      refine Aw.lload rfl d_Law_law_717 ?_
      refine Aw.lcmp d_Law_law_719 ?_
      obtain ⟨o6, h⟩ := h
      obtain ⟨ht, hf⟩ := h
      refine Aw.if_eq (tgt := 725) o6 (by decide) d_Law_law_720 (fun c7 => ?_) (fun c7 => ?_)
      · have h := ht c7
        refine Aw.goto (tgt := 2611) (by decide) d_Law_law_725 ?_
        refine Aw.iinc rfl d_Law_law_2611 ?_
        refine Aw.toL (L' := [xr (some (oB Ω)), xr (some a1), xr (some a2), xr (some a3), xi (v4 + 5), xi v5, xl v6, xu]) rfl ?_
        refine Aw.goto (tgt := 23) (by decide) d_Law_law_2614 ?_
        exact Aw.toW (L' := [xr (some (oB Ω)), xr (some a1), xr (some a2), xr (some a3), xi (v4 + 5), xu, xu, xu]) ⟨Or.inr rfl, Or.inr rfl, Or.inr rfl, Or.inr rfl, Or.inr rfl, Or.inl rfl, Or.inl rfl, Or.inr rfl, trivial⟩ h
      · have h := hf c7
        refine Aw.iconst d_Law_law_723 ?_
        exact h
  · have h := hf c9
    refine Aw.iconst d_Law_law_707 ?_
    exact h
theorem b_Law_law_660 {Ω : Om} {R : Room} {F : QF} {k n : Nat} {σ : Sto} {a1 : Nat} {a2 : Nat} {a3 : Nat} {v4 : Int} (h : Aw Ω M_Law_law R F k n 661 [xr (some (oB Ω)), xr (some a1), xr (some a2), xr (some a3), xi v4, xu, xu, xu] [xr (some a1)] σ) : Aw Ω M_Law_law R F k n 660 [xr (some (oB Ω)), xr (some a1), xr (some a2), xr (some a3), xi v4, xu, xu, xu] [] σ := by
  refine Aw.aload_n rfl d_Law_law_660 ?_
  exact h
theorem b_Law_law_664 {Ω : Om} {R : Room} {F : QF} {k n : Nat} {σ : Sto} {a1 : Nat} {a2 : Nat} {a3 : Nat} {v4 : Int} {s0 : Int} (h : Aw Ω M_Law_law R F k n 665 [xr (some (oB Ω)), xr (some a1), xr (some a2), xr (some a3), xi v4, xu, xu, xu] [xr (some a2), xi s0] σ) : Aw Ω M_Law_law R F k n 664 [xr (some (oB Ω)), xr (some a1), xr (some a2), xr (some a3), xi v4, xu, xu, xu] [xi s0] σ := by
  refine Aw.aload_n rfl d_Law_law_664 ?_
  exact h
theorem b_Law_law_668 {Ω : Om} {R : Room} {F : QF} {k n : Nat} {σ : Sto} {a1 : Nat} {a2 : Nat} {a3 : Nat} {v4 : Int} {s0 : Int} {s1 : Int} (h : Q32 s0 ∧ Q32 s1 ∧ ((s0 = s1 → Aw Ω M_Law_law R F k n 23 [xr (some (oB Ω)), xr (some a1), xr (some a2), xr (some a3), xi (v4 + 5), xu, xu, xu] [] σ) ∧ (¬ s0 = s1 → Aw Ω M_Law_law R F k n 672 [xr (some (oB Ω)), xr (some a1), xr (some a2), xr (some a3), xi v4, xu, xu, xu] [xi 0] σ))) : Aw Ω M_Law_law R F k n 668 [xr (some (oB Ω)), xr (some a1), xr (some a2), xr (some a3), xi v4, xu, xu, xu] [xi s1, xi s0] σ := by
  obtain ⟨o1, h⟩ := h
  obtain ⟨o2, h⟩ := h
  obtain ⟨ht, hf⟩ := h
  refine Aw.icmp_eq (tgt := 2611) o1 o2 (by decide) d_Law_law_668 (fun c3 => ?_) (fun c3 => ?_)
  · have h := ht c3
    refine Aw.iinc rfl d_Law_law_2611 ?_
    refine Aw.toL (L' := [xr (some (oB Ω)), xr (some a1), xr (some a2), xr (some a3), xi (v4 + 5), xu, xu, xu]) rfl ?_
    refine Aw.goto (tgt := 23) (by decide) d_Law_law_2614 ?_
    exact h
  · have h := hf c3
    refine Aw.iconst d_Law_law_671 ?_
    exact h
theorem b_Law_law_616 {Ω : Om} {R : Room} {F : QF} {k n : Nat} {σ : Sto} {a1 : Nat} {a2 : Nat} {a3 : Nat} {v4 : Int} (h : Aw Ω M_Law_law R F k n 618 [xr (some (oB Ω)), xr (some a1), xr (some a2), xr (some a3), xi v4, xu, xu, xu] [xr (some a3), xr (some a1)] σ) : Aw Ω M_Law_law R F k n 616 [xr (some (oB Ω)), xr (some a1), xr (some a2), xr (some a3), xi v4, xu, xu, xu] [] σ := by
  refine Aw.aload_n rfl d_Law_law_616 ?_
  refine Aw.aload_n rfl d_Law_law_617 ?_
  exact h
theorem b_Law_law_621 {Ω : Om} {R : Room} {F : QF} {k n : Nat} {σ : Sto} {a1 : Nat} {a2 : Nat} {a3 : Nat} {v4 : Int} {s0 : Int} (h : Aw Ω M_Law_law R F k n 624 [xr (some (oB Ω)), xr (some a1), xr (some a2), xr (some a3), xi v4, xi s0, xu, xu] [xr (some a2)] σ) : Aw Ω M_Law_law R F k n 621 [xr (some (oB Ω)), xr (some a1), xr (some a2), xr (some a3), xi v4, xu, xu, xu] [xi s0] σ := by
  refine Aw.istore (by decide) d_Law_law_621 ?_
  refine Aw.toL (L' := [xr (some (oB Ω)), xr (some a1), xr (some a2), xr (some a3), xi v4, xi s0, xu, xu]) rfl ?_
  refine Aw.aload_n rfl d_Law_law_623 ?_
  exact h
theorem b_Law_law_627 {Ω : Om} {R : Room} {F : QF} {k n : Nat} {σ : Sto} {a1 : Nat} {a2 : Nat} {a3 : Nat} {v4 : Int} {v5 : Int} {s0 : Int} (h : Aw Ω M_Law_law R F k n 630 [xr (some (oB Ω)), xr (some a1), xr (some a2), xr (some a3), xi v4, xi v5, xi s0, xu] [xr (some a2)] σ) : Aw Ω M_Law_law R F k n 627 [xr (some (oB Ω)), xr (some a1), xr (some a2), xr (some a3), xi v4, xi v5, xu, xu] [xi s0] σ := by
  refine Aw.istore (by decide) d_Law_law_627 ?_
  refine Aw.toL (L' := [xr (some (oB Ω)), xr (some a1), xr (some a2), xr (some a3), xi v4, xi v5, xi s0, xu]) rfl ?_
  refine Aw.aload_n rfl d_Law_law_629 ?_
  exact h
theorem b_Law_law_633 {Ω : Om} {R : Room} {F : QF} {k n : Nat} {σ : Sto} {a1 : Nat} {a2 : Nat} {a3 : Nat} {v4 : Int} {v5 : Int} {v6 : Int} {s0 : Int} (h : Q32 s0 ∧ Q32 v5 ∧ ((s0 = v5 → ((¬ v5 = (0 : Int) → Aw Ω M_Law_law R F k n 23 [xr (some (oB Ω)), xr (some a1), xr (some a2), xr (some a3), xi (v4 + 5), xu, xu, xu] [] σ) ∧ (v5 = (0 : Int) → sK σ a3 = 51 ∧ 0 ≤ (0 : Int) ∧ (0 : Int) < sZ σ a3 ∧ Q32 (cmpL (aL σ a3 0) (lOf v6)) ∧ (((cmpL (aL σ a3 0) (lOf v6)) = (0 : Int) → Aw Ω M_Law_law R F k n 23 [xr (some (oB Ω)), xr (some a1), xr (some a2), xr (some a3), xi (v4 + 5), xu, xu, xu] [] σ) ∧ (¬ (cmpL (aL σ a3 0) (lOf v6)) = (0 : Int) → Aw Ω M_Law_law R F k n 656 [xr (some (oB Ω)), xr (some a1), xr (some a2), xr (some a3), xi v4, xi v5, xi v6, xu] [xi 0] σ))))) ∧ (¬ s0 = v5 → Aw Ω M_Law_law R F k n 639 [xr (some (oB Ω)), xr (some a1), xr (some a2), xr (some a3), xi v4, xi v5, xi v6, xu] [xi 0] σ))) : Aw Ω M_Law_law R F k n 633 [xr (some (oB Ω)), xr (some a1), xr (some a2), xr (some a3), xi v4, xi v5, xi v6, xu] [xi s0] σ := by
  refine Aw.iload rfl d_Law_law_633 ?_
  obtain ⟨o1, h⟩ := h
  obtain ⟨o2, h⟩ := h
  obtain ⟨ht, hf⟩ := h
  refine Aw.icmp_eq (tgt := 640) o1 o2 (by decide) d_Law_law_635 (fun c9 => ?_) (fun c9 => ?_)
  · have h := ht c9
    refine Aw.iload rfl d_Law_law_640 ?_
    obtain ⟨ht, hf⟩ := h
    refine Aw.if_ne (tgt := 657) o2 (by decide) d_Law_law_642 (fun c8 => ?_) (fun c8 => ?_)
    · have h := ht c8
      refine Aw.goto (tgt := 2611) (by decide) d_Law_law_657 ?_
      refine Aw.iinc rfl d_Law_law_2611 ?_
      refine Aw.toL (L' := [xr (some (oB Ω)), xr (some a1), xr (some a2), xr (some a3), xi (v4 + 5), xi v5, xi v6, xu]) rfl ?_
      refine Aw.goto (tgt := 23) (by decide) d_Law_law_2614 ?_
      exact Aw.toW (L' := [xr (some (oB Ω)), xr (some a1), xr (some a2), xr (some a3), xi (v4 + 5), xu, xu, xu]) ⟨Or.inr rfl, Or.inr rfl, Or.inr rfl, Or.inr rfl, Or.inr rfl, Or.inl rfl, Or.inl rfl, Or.inr rfl, trivial⟩ h
    · have h := hf c8
      refine Aw.aload_n rfl d_Law_law_645 ?_
      refine Aw.iconst d_Law_law_646 ?_
      obtain ⟨o3, h⟩ := h
      obtain ⟨o4, o5, h⟩ := h
      refine Aw.lald o3 o4 o5 d_Law_law_647 ?_
      refine Aw.iload rfl d_Law_law_648 ?_
      refine Aw.i2l d_Law_law_650 ?_
      refine Aw.lcmp d_Law_law_651 ?_
      obtain ⟨o6, h⟩ := h
      obtain ⟨ht, hf⟩ := h
      refine Aw.if_eq (tgt := 657) o6 (by decide) d_Law_law_652 (fun c7 => ?_) (fun c7 => ?_)
      · have h := ht c7
        refine Aw.goto (tgt := 2611) (by decide) d_Law_law_657 ?_
        refine Aw.iinc rfl d_Law_law_2611 ?_
        refine Aw.toL (L' := [xr (some (oB Ω)), xr (some a1), xr (some a2), xr (some a3), xi (v4 + 5), xi v5, xi v6, xu]) rfl ?_
        refine Aw.goto (tgt := 23) (by decide) d_Law_law_2614 ?_
        exact Aw.toW (L' := [xr (some (oB Ω)), xr (some a1), xr (some a2), xr (some a3), xi (v4 + 5), xu, xu, xu]) ⟨Or.inr rfl, Or.inr rfl, Or.inr rfl, Or.inr rfl, Or.inr rfl, Or.inl rfl, Or.inl rfl, Or.inr rfl, trivial⟩ h
      · have h := hf c7
        refine Aw.iconst d_Law_law_655 ?_
        exact h
  · have h := hf c9
    refine Aw.iconst d_Law_law_638 ?_
    exact h
theorem b_Law_law_572 {Ω : Om} {R : Room} {F : QF} {k n : Nat} {σ : Sto} {a1 : Nat} {a2 : Nat} {a3 : Nat} {v4 : Int} (h : Aw Ω M_Law_law R F k n 574 [xr (some (oB Ω)), xr (some a1), xr (some a2), xr (some a3), xi v4, xu, xu, xu] [xr (some a3), xr (some a1)] σ) : Aw Ω M_Law_law R F k n 572 [xr (some (oB Ω)), xr (some a1), xr (some a2), xr (some a3), xi v4, xu, xu, xu] [] σ := by
  refine Aw.aload_n rfl d_Law_law_572 ?_
  refine Aw.aload_n rfl d_Law_law_573 ?_
  exact h
theorem b_Law_law_577 {Ω : Om} {R : Room} {F : QF} {k n : Nat} {σ : Sto} {a1 : Nat} {a2 : Nat} {a3 : Nat} {v4 : Int} {s0 : Int} (h : Aw Ω M_Law_law R F k n 580 [xr (some (oB Ω)), xr (some a1), xr (some a2), xr (some a3), xi v4, xi s0, xu, xu] [xr (some a2)] σ) : Aw Ω M_Law_law R F k n 577 [xr (some (oB Ω)), xr (some a1), xr (some a2), xr (some a3), xi v4, xu, xu, xu] [xi s0] σ := by
  refine Aw.istore (by decide) d_Law_law_577 ?_
  refine Aw.toL (L' := [xr (some (oB Ω)), xr (some a1), xr (some a2), xr (some a3), xi v4, xi s0, xu, xu]) rfl ?_
  refine Aw.aload_n rfl d_Law_law_579 ?_
  exact h
theorem b_Law_law_583 {Ω : Om} {R : Room} {F : QF} {k n : Nat} {σ : Sto} {a1 : Nat} {a2 : Nat} {a3 : Nat} {v4 : Int} {v5 : Int} {s0 : Int} (h : Aw Ω M_Law_law R F k n 586 [xr (some (oB Ω)), xr (some a1), xr (some a2), xr (some a3), xi v4, xi v5, xi s0, xu] [xr (some a2)] σ) : Aw Ω M_Law_law R F k n 583 [xr (some (oB Ω)), xr (some a1), xr (some a2), xr (some a3), xi v4, xi v5, xu, xu] [xi s0] σ := by
  refine Aw.istore (by decide) d_Law_law_583 ?_
  refine Aw.toL (L' := [xr (some (oB Ω)), xr (some a1), xr (some a2), xr (some a3), xi v4, xi v5, xi s0, xu]) rfl ?_
  refine Aw.aload_n rfl d_Law_law_585 ?_
  exact h
theorem b_Law_law_589 {Ω : Om} {R : Room} {F : QF} {k n : Nat} {σ : Sto} {a1 : Nat} {a2 : Nat} {a3 : Nat} {v4 : Int} {v5 : Int} {v6 : Int} {s0 : Int} (h : Q32 s0 ∧ Q32 v5 ∧ ((s0 = v5 → ((¬ v5 = (0 : Int) → Aw Ω M_Law_law R F k n 23 [xr (some (oB Ω)), xr (some a1), xr (some a2), xr (some a3), xi (v4 + 5), xu, xu, xu] [] σ) ∧ (v5 = (0 : Int) → sK σ a3 = 51 ∧ 0 ≤ (0 : Int) ∧ (0 : Int) < sZ σ a3 ∧ Q32 (cmpL (aL σ a3 0) (lOf v6)) ∧ (((cmpL (aL σ a3 0) (lOf v6)) = (0 : Int) → Aw Ω M_Law_law R F k n 23 [xr (some (oB Ω)), xr (some a1), xr (some a2), xr (some a3), xi (v4 + 5), xu, xu, xu] [] σ) ∧ (¬ (cmpL (aL σ a3 0) (lOf v6)) = (0 : Int) → Aw Ω M_Law_law R F k n 612 [xr (some (oB Ω)), xr (some a1), xr (some a2), xr (some a3), xi v4, xi v5, xi v6, xu] [xi 0] σ))))) ∧ (¬ s0 = v5 → Aw Ω M_Law_law R F k n 595 [xr (some (oB Ω)), xr (some a1), xr (some a2), xr (some a3), xi v4, xi v5, xi v6, xu] [xi 0] σ))) : Aw Ω M_Law_law R F k n 589 [xr (some (oB Ω)), xr (some a1), xr (some a2), xr (some a3), xi v4, xi v5, xi v6, xu] [xi s0] σ := by
  refine Aw.iload rfl d_Law_law_589 ?_
  obtain ⟨o1, h⟩ := h
  obtain ⟨o2, h⟩ := h
  obtain ⟨ht, hf⟩ := h
  refine Aw.icmp_eq (tgt := 596) o1 o2 (by decide) d_Law_law_591 (fun c9 => ?_) (fun c9 => ?_)
  · have h := ht c9
    refine Aw.iload rfl d_Law_law_596 ?_
    obtain ⟨ht, hf⟩ := h
    refine Aw.if_ne (tgt := 613) o2 (by decide) d_Law_law_598 (fun c8 => ?_) (fun c8 => ?_)
    · have h := ht c8
      refine Aw.goto (tgt := 2611) (by decide) d_Law_law_613 ?_
      refine Aw.iinc rfl d_Law_law_2611 ?_
      refine Aw.toL (L' := [xr (some (oB Ω)), xr (some a1), xr (some a2), xr (some a3), xi (v4 + 5), xi v5, xi v6, xu]) rfl ?_
      refine Aw.goto (tgt := 23) (by decide) d_Law_law_2614 ?_
      exact Aw.toW (L' := [xr (some (oB Ω)), xr (some a1), xr (some a2), xr (some a3), xi (v4 + 5), xu, xu, xu]) ⟨Or.inr rfl, Or.inr rfl, Or.inr rfl, Or.inr rfl, Or.inr rfl, Or.inl rfl, Or.inl rfl, Or.inr rfl, trivial⟩ h
    · have h := hf c8
      refine Aw.aload_n rfl d_Law_law_601 ?_
      refine Aw.iconst d_Law_law_602 ?_
      obtain ⟨o3, h⟩ := h
      obtain ⟨o4, o5, h⟩ := h
      refine Aw.lald o3 o4 o5 d_Law_law_603 ?_
      refine Aw.iload rfl d_Law_law_604 ?_
      refine Aw.i2l d_Law_law_606 ?_
      refine Aw.lcmp d_Law_law_607 ?_
      obtain ⟨o6, h⟩ := h
      obtain ⟨ht, hf⟩ := h
      refine Aw.if_eq (tgt := 613) o6 (by decide) d_Law_law_608 (fun c7 => ?_) (fun c7 => ?_)
      · have h := ht c7
        refine Aw.goto (tgt := 2611) (by decide) d_Law_law_613 ?_
        refine Aw.iinc rfl d_Law_law_2611 ?_
        refine Aw.toL (L' := [xr (some (oB Ω)), xr (some a1), xr (some a2), xr (some a3), xi (v4 + 5), xi v5, xi v6, xu]) rfl ?_
        refine Aw.goto (tgt := 23) (by decide) d_Law_law_2614 ?_
        exact Aw.toW (L' := [xr (some (oB Ω)), xr (some a1), xr (some a2), xr (some a3), xi (v4 + 5), xu, xu, xu]) ⟨Or.inr rfl, Or.inr rfl, Or.inr rfl, Or.inr rfl, Or.inr rfl, Or.inl rfl, Or.inl rfl, Or.inr rfl, trivial⟩ h
      · have h := hf c7
        refine Aw.iconst d_Law_law_611 ?_
        exact h
  · have h := hf c9
    refine Aw.iconst d_Law_law_594 ?_
    exact h
theorem b_Law_law_524 {Ω : Om} {R : Room} {F : QF} {k n : Nat} {σ : Sto} {a1 : Nat} {a2 : Nat} {a3 : Nat} {v4 : Int} (h : 0 ≤ (v4 + 1) ∧ (v4 + 1) < oN Ω ∧ oN Ω < 2147483648 ∧ 0 ≤ (v4 + 2) ∧ (v4 + 2) < oN Ω ∧ oN Ω < 2147483648 ∧ Aw Ω M_Law_law R F k n 537 [xr (some (oB Ω)), xr (some a1), xr (some a2), xr (some a3), xi v4, xu, xu, xu] [xi ((oX Ω (v4 + 2).toNat).toInt), xi ((oX Ω (v4 + 1).toNat).toInt), xr (some a1)] σ) : Aw Ω M_Law_law R F k n 524 [xr (some (oB Ω)), xr (some a1), xr (some a2), xr (some a3), xi v4, xu, xu, xu] [] σ := by
  refine Aw.aload_n rfl d_Law_law_524 ?_
  refine Aw.aload_n rfl d_Law_law_525 ?_
  refine Aw.iload rfl d_Law_law_526 ?_
  refine Aw.iconst d_Law_law_528 ?_
  refine Aw.iadd d_Law_law_529 ?_
  obtain ⟨o1, o2, h⟩ := h
  obtain ⟨o3, h⟩ := h
  refine Aw.sld o1 o2 o3 d_Law_law_530 ?_
  refine Aw.aload_n rfl d_Law_law_531 ?_
  refine Aw.iload rfl d_Law_law_532 ?_
  refine Aw.iconst d_Law_law_534 ?_
  refine Aw.iadd d_Law_law_535 ?_
  obtain ⟨o4, o5, h⟩ := h
  obtain ⟨o6, h⟩ := h
  refine Aw.sld o4 o5 o6 d_Law_law_536 ?_
  exact h
theorem b_Law_law_540 {Ω : Om} {R : Room} {F : QF} {k n : Nat} {σ : Sto} {a1 : Nat} {a2 : Nat} {a3 : Nat} {v4 : Int} {s0 : Int} (h : 0 ≤ (v4 + 1) ∧ (v4 + 1) < oN Ω ∧ oN Ω < 2147483648 ∧ 0 ≤ (v4 + 2) ∧ (v4 + 2) < oN Ω ∧ oN Ω < 2147483648 ∧ Aw Ω M_Law_law R F k n 555 [xr (some (oB Ω)), xr (some a1), xr (some a2), xr (some a3), xi v4, xi s0, xu, xu] [xi ((oX Ω (v4 + 2).toNat).toInt), xi ((oX Ω (v4 + 1).toNat).toInt), xr (some a2)] σ) : Aw Ω M_Law_law R F k n 540 [xr (some (oB Ω)), xr (some a1), xr (some a2), xr (some a3), xi v4, xu, xu, xu] [xi s0] σ := by
  refine Aw.istore (by decide) d_Law_law_540 ?_
  refine Aw.toL (L' := [xr (some (oB Ω)), xr (some a1), xr (some a2), xr (some a3), xi v4, xi s0, xu, xu]) rfl ?_
  refine Aw.aload_n rfl d_Law_law_542 ?_
  refine Aw.aload_n rfl d_Law_law_543 ?_
  refine Aw.iload rfl d_Law_law_544 ?_
  refine Aw.iconst d_Law_law_546 ?_
  refine Aw.iadd d_Law_law_547 ?_
  obtain ⟨o1, o2, h⟩ := h
  obtain ⟨o3, h⟩ := h
  refine Aw.sld o1 o2 o3 d_Law_law_548 ?_
  refine Aw.aload_n rfl d_Law_law_549 ?_
  refine Aw.iload rfl d_Law_law_550 ?_
  refine Aw.iconst d_Law_law_552 ?_
  refine Aw.iadd d_Law_law_553 ?_
  obtain ⟨o4, o5, h⟩ := h
  obtain ⟨o6, h⟩ := h
  refine Aw.sld o4 o5 o6 d_Law_law_554 ?_
  exact h
theorem b_Law_law_558 {Ω : Om} {R : Room} {F : QF} {k n : Nat} {σ : Sto} {a1 : Nat} {a2 : Nat} {a3 : Nat} {v4 : Int} {v5 : Int} (h : Aw Ω M_Law_law R F k n 559 [xr (some (oB Ω)), xr (some a1), xr (some a2), xr (some a3), xi v4, xi v5, xu, xu] [xr (some a2)] σ) : Aw Ω M_Law_law R F k n 558 [xr (some (oB Ω)), xr (some a1), xr (some a2), xr (some a3), xi v4, xi v5, xu, xu] [] σ := by
  refine Aw.aload_n rfl d_Law_law_558 ?_
  exact h
theorem b_Law_law_562 {Ω : Om} {R : Room} {F : QF} {k n : Nat} {σ : Sto} {a1 : Nat} {a2 : Nat} {a3 : Nat} {v4 : Int} {v5 : Int} {s0 : Int} (h : Q32 s0 ∧ Q32 v5 ∧ ((s0 = v5 → Aw Ω M_Law_law R F k n 23 [xr (some (oB Ω)), xr (some a1), xr (some a2), xr (some a3), xi (v4 + 5), xu, xu, xu] [] σ) ∧ (¬ s0 = v5 → Aw Ω M_Law_law R F k n 568 [xr (some (oB Ω)), xr (some a1), xr (some a2), xr (some a3), xi v4, xi v5, xu, xu] [xi 0] σ))) : Aw Ω M_Law_law R F k n 562 [xr (some (oB Ω)), xr (some a1), xr (some a2), xr (some a3), xi v4, xi v5, xu, xu] [xi s0] σ := by
  refine Aw.iload rfl d_Law_law_562 ?_
  obtain ⟨o1, h⟩ := h
  obtain ⟨o2, h⟩ := h
  obtain ⟨ht, hf⟩ := h
  refine Aw.icmp_eq (tgt := 569) o1 o2 (by decide) d_Law_law_564 (fun c3 => ?_) (fun c3 => ?_)
  · have h := ht c3
    refine Aw.goto (tgt := 2611) (by decide) d_Law_law_569 ?_
    refine Aw.iinc rfl d_Law_law_2611 ?_
    refine Aw.toL (L' := [xr (some (oB Ω)), xr (some a1), xr (some a2), xr (some a3), xi (v4 + 5), xi v5, xu, xu]) rfl ?_
    refine Aw.goto (tgt := 23) (by decide) d_Law_law_2614 ?_
    exact Aw.toW (L' := [xr (some (oB Ω)), xr (some a1), xr (some a2), xr (some a3), xi (v4 + 5), xu, xu, xu]) ⟨Or.inr rfl, Or.inr rfl, Or.inr rfl, Or.inr rfl, Or.inr rfl, Or.inl rfl, Or.inr rfl, Or.inr rfl, trivial⟩ h
  · have h := hf c3
    refine Aw.iconst d_Law_law_567 ?_
    exact h
theorem b_Law_law_424 {Ω : Om} {R : Room} {F : QF} {k n : Nat} {σ : Sto} {a1 : Nat} {a2 : Nat} {a3 : Nat} {v4 : Int} (h : 0 ≤ (v4 + 1) ∧ (v4 + 1) < oN Ω ∧ oN Ω < 2147483648 ∧ 0 ≤ (v4 + 2) ∧ (v4 + 2) < oN Ω ∧ oN Ω < 2147483648 ∧ 0 ≤ (v4 + 3) ∧ (v4 + 3) < oN Ω ∧ oN Ω < 2147483648 ∧ Aw Ω M_Law_law R F k n 454 [xr (some (oB Ω)), xr (some a1), xr (some a2), xr (some a3), xi v4, xu, xu, xu] [xr (some a3), xl ((lShl (lOf ((oX Ω (v4 + 2).toNat).toInt)) 32) ||| ((lOf ((oX Ω (v4 + 3).toNat).toInt)) &&& 4294967295)), xi ((oX Ω (v4 + 1).toNat).toInt), xr (some a1)] σ) : Aw Ω M_Law_law R F k n 424 [xr (some (oB Ω)), xr (some a1), xr (some a2), xr (some a3), xi v4, xu, xu, xu] [] σ := by
  refine Aw.aload_n rfl d_Law_law_424 ?_
  refine Aw.aload_n rfl d_Law_law_425 ?_
  refine Aw.iload rfl d_Law_law_426 ?_
  refine Aw.iconst d_Law_law_428 ?_
  refine Aw.iadd d_Law_law_429 ?_
  obtain ⟨o1, o2, h⟩ := h
  obtain ⟨o3, h⟩ := h
  refine Aw.sld o1 o2 o3 d_Law_law_430 ?_
  refine Aw.aload_n rfl d_Law_law_431 ?_
  refine Aw.iload rfl d_Law_law_432 ?_
  refine Aw.iconst d_Law_law_434 ?_
  refine Aw.iadd d_Law_law_435 ?_
  obtain ⟨o4, o5, h⟩ := h
  obtain ⟨o6, h⟩ := h
  refine Aw.sld o4 o5 o6 d_Law_law_436 ?_
  refine Aw.i2l d_Law_law_437 ?_
  refine Aw.bipush (by decide) d_Law_law_438 ?_
  refine Aw.lshl d_Law_law_440 ?_
  refine Aw.aload_n rfl d_Law_law_441 ?_
  refine Aw.iload rfl d_Law_law_442 ?_
  refine Aw.iconst d_Law_law_444 ?_
  refine Aw.iadd d_Law_law_445 ?_
  obtain ⟨o7, o8, h⟩ := h
  obtain ⟨o9, h⟩ := h
  refine Aw.sld o7 o8 o9 d_Law_law_446 ?_
  refine Aw.i2l d_Law_law_447 ?_
  refine Aw.ldc2 (v := 4294967295) lg_Law_141 d_Law_law_448 ?_
  refine Aw.land d_Law_law_451 ?_
  refine Aw.lor d_Law_law_452 ?_
  refine Aw.aload_n rfl d_Law_law_453 ?_
  exact h
theorem b_Law_law_457 {Ω : Om} {R : Room} {F : QF} {k n : Nat} {σ : Sto} {a1 : Nat} {a2 : Nat} {a3 : Nat} {v4 : Int} {s0 : Int} (h : 0 ≤ (v4 + 1) ∧ (v4 + 1) < oN Ω ∧ oN Ω < 2147483648 ∧ 0 ≤ (v4 + 2) ∧ (v4 + 2) < oN Ω ∧ oN Ω < 2147483648 ∧ 0 ≤ (v4 + 3) ∧ (v4 + 3) < oN Ω ∧ oN Ω < 2147483648 ∧ Aw Ω M_Law_law R F k n 488 [xr (some (oB Ω)), xr (some a1), xr (some a2), xr (some a3), xi v4, xi s0, xu, xu] [xl ((lShl (lOf ((oX Ω (v4 + 2).toNat).toInt)) 32) ||| ((lOf ((oX Ω (v4 + 3).toNat).toInt)) &&& 4294967295)), xi ((oX Ω (v4 + 1).toNat).toInt), xr (some a2)] σ) : Aw Ω M_Law_law R F k n 457 [xr (some (oB Ω)), xr (some a1), xr (some a2), xr (some a3), xi v4, xu, xu, xu] [xi s0] σ := by
  refine Aw.istore (by decide) d_Law_law_457 ?_
  refine Aw.toL (L' := [xr (some (oB Ω)), xr (some a1), xr (some a2), xr (some a3), xi v4, xi s0, xu, xu]) rfl ?_
  refine Aw.aload_n rfl d_Law_law_459 ?_
  refine Aw.aload_n rfl d_Law_law_460 ?_
  refine Aw.iload rfl d_Law_law_461 ?_
  refine Aw.iconst d_Law_law_463 ?_
  refine Aw.iadd d_Law_law_464 ?_
  obtain ⟨o1, o2, h⟩ := h
  obtain ⟨o3, h⟩ := h
  refine Aw.sld o1 o2 o3 d_Law_law_465 ?_
  refine Aw.aload_n rfl d_Law_law_466 ?_
  refine Aw.iload rfl d_Law_law_467 ?_
  refine Aw.iconst d_Law_law_469 ?_
  refine Aw.iadd d_Law_law_470 ?_
  obtain ⟨o4, o5, h⟩ := h
  obtain ⟨o6, h⟩ := h
  refine Aw.sld o4 o5 o6 d_Law_law_471 ?_
  refine Aw.i2l d_Law_law_472 ?_
  refine Aw.bipush (by decide) d_Law_law_473 ?_
  refine Aw.lshl d_Law_law_475 ?_
  refine Aw.aload_n rfl d_Law_law_476 ?_
  refine Aw.iload rfl d_Law_law_477 ?_
  refine Aw.iconst d_Law_law_479 ?_
  refine Aw.iadd d_Law_law_480 ?_
  obtain ⟨o7, o8, h⟩ := h
  obtain ⟨o9, h⟩ := h
  refine Aw.sld o7 o8 o9 d_Law_law_481 ?_
  refine Aw.i2l d_Law_law_482 ?_
  refine Aw.ldc2 (v := 4294967295) lg_Law_141 d_Law_law_483 ?_
  refine Aw.land d_Law_law_486 ?_
  refine Aw.lor d_Law_law_487 ?_
  exact h
theorem b_Law_law_491 {Ω : Om} {R : Room} {F : QF} {k n : Nat} {σ : Sto} {a1 : Nat} {a2 : Nat} {a3 : Nat} {v4 : Int} {v5 : Int} {s0 : Int} (h : Aw Ω M_Law_law R F k n 494 [xr (some (oB Ω)), xr (some a1), xr (some a2), xr (some a3), xi v4, xi v5, xi s0, xu] [xr (some a2)] σ) : Aw Ω M_Law_law R F k n 491 [xr (some (oB Ω)), xr (some a1), xr (some a2), xr (some a3), xi v4, xi v5, xu, xu] [xi s0] σ := by
  refine Aw.istore (by decide) d_Law_law_491 ?_
  refine Aw.toL (L' := [xr (some (oB Ω)), xr (some a1), xr (some a2), xr (some a3), xi v4, xi v5, xi s0, xu]) rfl ?_
  refine Aw.aload_n rfl d_Law_law_493 ?_
  exact h
theorem b_Law_law_497 {Ω : Om} {R : Room} {F : QF} {k n : Nat} {σ : Sto} {a1 : Nat} {a2 : Nat} {a3 : Nat} {v4 : Int} {v5 : Int} {v6 : Int} {s0 : Int} (h : Q32 s0 ∧ Q32 v5 ∧ ((s0 = v5 → ((¬ v5 = (0 : Int) → Aw Ω M_Law_law R F k n 23 [xr (some (oB Ω)), xr (some a1), xr (some a2), xr (some a3), xi (v4 + 5), xu, xu, xu] [] σ) ∧ (v5 = (0 : Int) → sK σ a3 = 51 ∧ 0 ≤ (0 : Int) ∧ (0 : Int) < sZ σ a3 ∧ Q32 (cmpL (aL σ a3 0) (lOf v6)) ∧ (((cmpL (aL σ a3 0) (lOf v6)) = (0 : Int) → Aw Ω M_Law_law R F k n 23 [xr (some (oB Ω)), xr (some a1), xr (some a2), xr (some a3), xi (v4 + 5), xu, xu, xu] [] σ) ∧ (¬ (cmpL (aL σ a3 0) (lOf v6)) = (0 : Int) → Aw Ω M_Law_law R F k n 520 [xr (some (oB Ω)), xr (some a1), xr (some a2), xr (some a3), xi v4, xi v5, xi v6, xu] [xi 0] σ))))) ∧ (¬ s0 = v5 → Aw Ω M_Law_law R F k n 503 [xr (some (oB Ω)), xr (some a1), xr (some a2), xr (some a3), xi v4, xi v5, xi v6, xu] [xi 0] σ))) : Aw Ω M_Law_law R F k n 497 [xr (some (oB Ω)), xr (some a1), xr (some a2), xr (some a3), xi v4, xi v5, xi v6, xu] [xi s0] σ := by
  refine Aw.iload rfl d_Law_law_497 ?_
  obtain ⟨o1, h⟩ := h
  obtain ⟨o2, h⟩ := h
  obtain ⟨ht, hf⟩ := h
  refine Aw.icmp_eq (tgt := 504) o1 o2 (by decide) d_Law_law_499 (fun c9 => ?_) (fun c9 => ?_)
  · have h := ht c9
    refine Aw.iload rfl d_Law_law_504 ?_
    obtain ⟨ht, hf⟩ := h
    refine Aw.if_ne (tgt := 521) o2 (by decide) d_Law_law_506 (fun c8 => ?_) (fun c8 => ?_)
    · have h := ht c8
      refine Aw.goto (tgt := 2611) (by decide) d_Law_law_521 ?_
      refine Aw.iinc rfl d_Law_law_2611 ?_
      refine Aw.toL (L' := [xr (some (oB Ω)), xr (some a1), xr (some a2), xr (some a3), xi (v4 + 5), xi v5, xi v6, xu]) rfl ?_
      refine Aw.goto (tgt := 23) (by decide) d_Law_law_2614 ?_
      exact Aw.toW (L' := [xr (some (oB Ω)), xr (some a1), xr (some a2), xr (some a3), xi (v4 + 5), xu, xu, xu]) ⟨Or.inr rfl, Or.inr rfl, Or.inr rfl, Or.inr rfl, Or.inr rfl, Or.inl rfl, Or.inl rfl, Or.inr rfl, trivial⟩ h
    · have h := hf c8
      refine Aw.aload_n rfl d_Law_law_509 ?_
      refine Aw.iconst d_Law_law_510 ?_
      obtain ⟨o3, h⟩ := h
      obtain ⟨o4, o5, h⟩ := h
      refine Aw.lald o3 o4 o5 d_Law_law_511 ?_
      refine Aw.iload rfl d_Law_law_512 ?_
      refine Aw.i2l d_Law_law_514 ?_
      refine Aw.lcmp d_Law_law_515 ?_
      obtain ⟨o6, h⟩ := h
      obtain ⟨ht, hf⟩ := h
      refine Aw.if_eq (tgt := 521) o6 (by decide) d_Law_law_516 (fun c7 => ?_) (fun c7 => ?_)
      · have h := ht c7
        refine Aw.goto (tgt := 2611) (by decide) d_Law_law_521 ?_
        refine Aw.iinc rfl d_Law_law_2611 ?_
        refine Aw.toL (L' := [xr (some (oB Ω)), xr (some a1), xr (some a2), xr (some a3), xi (v4 + 5), xi v5, xi v6, xu]) rfl ?_
        refine Aw.goto (tgt := 23) (by decide) d_Law_law_2614 ?_
        exact Aw.toW (L' := [xr (some (oB Ω)), xr (some a1), xr (some a2), xr (some a3), xi (v4 + 5), xu, xu, xu]) ⟨Or.inr rfl, Or.inr rfl, Or.inr rfl, Or.inr rfl, Or.inr rfl, Or.inl rfl, Or.inl rfl, Or.inr rfl, trivial⟩ h
      · have h := hf c7
        refine Aw.iconst d_Law_law_519 ?_
        exact h
  · have h := hf c9
    refine Aw.iconst d_Law_law_502 ?_
    exact h
theorem b_Law_law_368 {Ω : Om} {R : Room} {F : QF} {k n : Nat} {σ : Sto} {a1 : Nat} {a2 : Nat} {a3 : Nat} {v4 : Int} (h : 0 ≤ (v4 + 1) ∧ (v4 + 1) < oN Ω ∧ oN Ω < 2147483648 ∧ Aw Ω M_Law_law R F k n 376 [xr (some (oB Ω)), xr (some a1), xr (some a2), xr (some a3), xi v4, xu, xu, xu] [xr (some a3), xi ((oX Ω (v4 + 1).toNat).toInt), xr (some a1)] σ) : Aw Ω M_Law_law R F k n 368 [xr (some (oB Ω)), xr (some a1), xr (some a2), xr (some a3), xi v4, xu, xu, xu] [] σ := by
  refine Aw.aload_n rfl d_Law_law_368 ?_
  refine Aw.aload_n rfl d_Law_law_369 ?_
  refine Aw.iload rfl d_Law_law_370 ?_
  refine Aw.iconst d_Law_law_372 ?_
  refine Aw.iadd d_Law_law_373 ?_
  obtain ⟨o1, o2, h⟩ := h
  obtain ⟨o3, h⟩ := h
  refine Aw.sld o1 o2 o3 d_Law_law_374 ?_
  refine Aw.aload_n rfl d_Law_law_375 ?_
  exact h
theorem b_Law_law_379 {Ω : Om} {R : Room} {F : QF} {k n : Nat} {σ : Sto} {a1 : Nat} {a2 : Nat} {a3 : Nat} {v4 : Int} {s0 : Int} (h : 0 ≤ (v4 + 1) ∧ (v4 + 1) < oN Ω ∧ oN Ω < 2147483648 ∧ Aw Ω M_Law_law R F k n 388 [xr (some (oB Ω)), xr (some a1), xr (some a2), xr (some a3), xi v4, xi s0, xu, xu] [xi ((oX Ω (v4 + 1).toNat).toInt), xr (some a2)] σ) : Aw Ω M_Law_law R F k n 379 [xr (some (oB Ω)), xr (some a1), xr (some a2), xr (some a3), xi v4, xu, xu, xu] [xi s0] σ := by
  refine Aw.istore (by decide) d_Law_law_379 ?_
  refine Aw.toL (L' := [xr (some (oB Ω)), xr (some a1), xr (some a2), xr (some a3), xi v4, xi s0, xu, xu]) rfl ?_
  refine Aw.aload_n rfl d_Law_law_381 ?_
  refine Aw.aload_n rfl d_Law_law_382 ?_
  refine Aw.iload rfl d_Law_law_383 ?_
  refine Aw.iconst d_Law_law_385 ?_
  refine Aw.iadd d_Law_law_386 ?_
  obtain ⟨o1, o2, h⟩ := h
  obtain ⟨o3, h⟩ := h
  refine Aw.sld o1 o2 o3 d_Law_law_387 ?_
  exact h
theorem b_Law_law_391 {Ω : Om} {R : Room} {F : QF} {k n : Nat} {σ : Sto} {a1 : Nat} {a2 : Nat} {a3 : Nat} {v4 : Int} {v5 : Int} {s0 : Int} (h : Aw Ω M_Law_law R F k n 394 [xr (some (oB Ω)), xr (some a1), xr (some a2), xr (some a3), xi v4, xi v5, xi s0, xu] [xr (some a2)] σ) : Aw Ω M_Law_law R F k n 391 [xr (some (oB Ω)), xr (some a1), xr (some a2), xr (some a3), xi v4, xi v5, xu, xu] [xi s0] σ := by
  refine Aw.istore (by decide) d_Law_law_391 ?_
  refine Aw.toL (L' := [xr (some (oB Ω)), xr (some a1), xr (some a2), xr (some a3), xi v4, xi v5, xi s0, xu]) rfl ?_
  refine Aw.aload_n rfl d_Law_law_393 ?_
  exact h
theorem b_Law_law_397 {Ω : Om} {R : Room} {F : QF} {k n : Nat} {σ : Sto} {a1 : Nat} {a2 : Nat} {a3 : Nat} {v4 : Int} {v5 : Int} {v6 : Int} {s0 : Int} (h : Q32 s0 ∧ Q32 v5 ∧ ((s0 = v5 → ((¬ v5 = (0 : Int) → Aw Ω M_Law_law R F k n 23 [xr (some (oB Ω)), xr (some a1), xr (some a2), xr (some a3), xi (v4 + 5), xu, xu, xu] [] σ) ∧ (v5 = (0 : Int) → sK σ a3 = 51 ∧ 0 ≤ (0 : Int) ∧ (0 : Int) < sZ σ a3 ∧ Q32 (cmpL (aL σ a3 0) (lOf v6)) ∧ (((cmpL (aL σ a3 0) (lOf v6)) = (0 : Int) → Aw Ω M_Law_law R F k n 23 [xr (some (oB Ω)), xr (some a1), xr (some a2), xr (some a3), xi (v4 + 5), xu, xu, xu] [] σ) ∧ (¬ (cmpL (aL σ a3 0) (lOf v6)) = (0 : Int) → Aw Ω M_Law_law R F k n 420 [xr (some (oB Ω)), xr (some a1), xr (some a2), xr (some a3), xi v4, xi v5, xi v6, xu] [xi 0] σ))))) ∧ (¬ s0 = v5 → Aw Ω M_Law_law R F k n 403 [xr (some (oB Ω)), xr (some a1), xr (some a2), xr (some a3), xi v4, xi v5, xi v6, xu] [xi 0] σ))) : Aw Ω M_Law_law R F k n 397 [xr (some (oB Ω)), xr (some a1), xr (some a2), xr (some a3), xi v4, xi v5, xi v6, xu] [xi s0] σ := by
  refine Aw.iload rfl d_Law_law_397 ?_
  obtain ⟨o1, h⟩ := h
  obtain ⟨o2, h⟩ := h
  obtain ⟨ht, hf⟩ := h
  refine Aw.icmp_eq (tgt := 404) o1 o2 (by decide) d_Law_law_399 (fun c9 => ?_) (fun c9 => ?_)
  · have h := ht c9
    refine Aw.iload rfl d_Law_law_404 ?_
    obtain ⟨ht, hf⟩ := h
    refine Aw.if_ne (tgt := 421) o2 (by decide) d_Law_law_406 (fun c8 => ?_) (fun c8 => ?_)
    · have h := ht c8
      refine Aw.goto (tgt := 2611) (by decide) d_Law_law_421 ?_
      refine Aw.iinc rfl d_Law_law_2611 ?_
      refine Aw.toL (L' := [xr (some (oB Ω)), xr (some a1), xr (some a2), xr (some a3), xi (v4 + 5), xi v5, xi v6, xu]) rfl ?_
      refine Aw.goto (tgt := 23) (by decide) d_Law_law_2614 ?_
      exact Aw.toW (L' := [xr (some (oB Ω)), xr (some a1), xr (some a2), xr (some a3), xi (v4 + 5), xu, xu, xu]) ⟨Or.inr rfl, Or.inr rfl, Or.inr rfl, Or.inr rfl, Or.inr rfl, Or.inl rfl, Or.inl rfl, Or.inr rfl, trivial⟩ h
    · have h := hf c8
      refine Aw.aload_n rfl d_Law_law_409 ?_
      refine Aw.iconst d_Law_law_410 ?_
      obtain ⟨o3, h⟩ := h
      obtain ⟨o4, o5, h⟩ := h
      refine Aw.lald o3 o4 o5 d_Law_law_411 ?_
      refine Aw.iload rfl d_Law_law_412 ?_
      refine Aw.i2l d_Law_law_414 ?_
      refine Aw.lcmp d_Law_law_415 ?_
      obtain ⟨o6, h⟩ := h
      obtain ⟨ht, hf⟩ := h
      refine Aw.if_eq (tgt := 421) o6 (by decide) d_Law_law_416 (fun c7 => ?_) (fun c7 => ?_)
      · have h := ht c7
        refine Aw.goto (tgt := 2611) (by decide) d_Law_law_421 ?_
        refine Aw.iinc rfl d_Law_law_2611 ?_
        refine Aw.toL (L' := [xr (some (oB Ω)), xr (some a1), xr (some a2), xr (some a3), xi (v4 + 5), xi v5, xi v6, xu]) rfl ?_
        refine Aw.goto (tgt := 23) (by decide) d_Law_law_2614 ?_
        exact Aw.toW (L' := [xr (some (oB Ω)), xr (some a1), xr (some a2), xr (some a3), xi (v4 + 5), xu, xu, xu]) ⟨Or.inr rfl, Or.inr rfl, Or.inr rfl, Or.inr rfl, Or.inr rfl, Or.inl rfl, Or.inl rfl, Or.inr rfl, trivial⟩ h
      · have h := hf c7
        refine Aw.iconst d_Law_law_419 ?_
        exact h
  · have h := hf c9
    refine Aw.iconst d_Law_law_402 ?_
    exact h
theorem b_Law_law_268 {Ω : Om} {R : Room} {F : QF} {k n : Nat} {σ : Sto} {a1 : Nat} {a2 : Nat} {a3 : Nat} {v4 : Int} (h : 0 ≤ (v4 + 1) ∧ (v4 + 1) < oN Ω ∧ oN Ω < 2147483648 ∧ 0 ≤ (v4 + 2) ∧ (v4 + 2) < oN Ω ∧ oN Ω < 2147483648 ∧ 0 ≤ (v4 + 3) ∧ (v4 + 3) < oN Ω ∧ oN Ω < 2147483648 ∧ Aw Ω M_Law_law R F k n 298 [xr (some (oB Ω)), xr (some a1), xr (some a2), xr (some a3), xi v4, xu, xu, xu] [xr (some a3), xl ((lShl (lOf ((oX Ω (v4 + 2).toNat).toInt)) 32) ||| ((lOf ((oX Ω (v4 + 3).toNat).toInt)) &&& 4294967295)), xi ((oX Ω (v4 + 1).toNat).toInt), xr (some a1)] σ) : Aw Ω M_Law_law R F k n 268 [xr (some (oB Ω)), xr (some a1), xr (some a2), xr (some a3), xi v4, xu, xu, xu] [] σ := by
  refine Aw.aload_n rfl d_Law_law_268 ?_
  refine Aw.aload_n rfl d_Law_law_269 ?_
  refine Aw.iload rfl d_Law_law_270 ?_
  refine Aw.iconst d_Law_law_272 ?_
  refine Aw.iadd d_Law_law_273 ?_
  obtain ⟨o1, o2, h⟩ := h
  obtain ⟨o3, h⟩ := h
  refine Aw.sld o1 o2 o3 d_Law_law_274 ?_
  refine Aw.aload_n rfl d_Law_law_275 ?_
  refine Aw.iload rfl d_Law_law_276 ?_
  refine Aw.iconst d_Law_law_278 ?_
  refine Aw.iadd d_Law_law_279 ?_
  obtain ⟨o4, o5, h⟩ := h
  obtain ⟨o6, h⟩ := h
  refine Aw.sld o4 o5 o6 d_Law_law_280 ?_
  refine Aw.i2l d_Law_law_281 ?_
  refine Aw.bipush (by decide) d_Law_law_282 ?_
  refine Aw.lshl d_Law_law_284 ?_
  refine Aw.aload_n rfl d_Law_law_285 ?_
  refine Aw.iload rfl d_Law_law_286 ?_
  refine Aw.iconst d_Law_law_288 ?_
  refine Aw.iadd d_Law_law_289 ?_
  obtain ⟨o7, o8, h⟩ := h
  obtain ⟨o9, h⟩ := h
  refine Aw.sld o7 o8 o9 d_Law_law_290 ?_
  refine Aw.i2l d_Law_law_291 ?_
  refine Aw.ldc2 (v := 4294967295) lg_Law_141 d_Law_law_292 ?_
  refine Aw.land d_Law_law_295 ?_
  refine Aw.lor d_Law_law_296 ?_
  refine Aw.aload_n rfl d_Law_law_297 ?_
  exact h
theorem b_Law_law_301 {Ω : Om} {R : Room} {F : QF} {k n : Nat} {σ : Sto} {a1 : Nat} {a2 : Nat} {a3 : Nat} {v4 : Int} {s0 : Int} (h : 0 ≤ (v4 + 1) ∧ (v4 + 1) < oN Ω ∧ oN Ω < 2147483648 ∧ 0 ≤ (v4 + 2) ∧ (v4 + 2) < oN Ω ∧ oN Ω < 2147483648 ∧ 0 ≤ (v4 + 3) ∧ (v4 + 3) < oN Ω ∧ oN Ω < 2147483648 ∧ Aw Ω M_Law_law R F k n 332 [xr (some (oB Ω)), xr (some a1), xr (some a2), xr (some a3), xi v4, xi s0, xu, xu] [xl ((lShl (lOf ((oX Ω (v4 + 2).toNat).toInt)) 32) ||| ((lOf ((oX Ω (v4 + 3).toNat).toInt)) &&& 4294967295)), xi ((oX Ω (v4 + 1).toNat).toInt), xr (some a2)] σ) : Aw Ω M_Law_law R F k n 301 [xr (some (oB Ω)), xr (some a1), xr (some a2), xr (some a3), xi v4, xu, xu, xu] [xi s0] σ := by
  refine Aw.istore (by decide) d_Law_law_301 ?_
  refine Aw.toL (L' := [xr (some (oB Ω)), xr (some a1), xr (some a2), xr (some a3), xi v4, xi s0, xu, xu]) rfl ?_
  refine Aw.aload_n rfl d_Law_law_303 ?_
  refine Aw.aload_n rfl d_Law_law_304 ?_
  refine Aw.iload rfl d_Law_law_305 ?_
  refine Aw.iconst d_Law_law_307 ?_
  refine Aw.iadd d_Law_law_308 ?_
  obtain ⟨o1, o2, h⟩ := h
  obtain ⟨o3, h⟩ := h
  refine Aw.sld o1 o2 o3 d_Law_law_309 ?_
  refine Aw.aload_n rfl d_Law_law_310 ?_
  refine Aw.iload rfl d_Law_law_311 ?_
  refine Aw.iconst d_Law_law_313 ?_
  refine Aw.iadd d_Law_law_314 ?_
  obtain ⟨o4, o5, h⟩ := h
  obtain ⟨o6, h⟩ := h
  refine Aw.sld o4 o5 o6 d_Law_law_315 ?_
  refine Aw.i2l d_Law_law_316 ?_
  refine Aw.bipush (by decide) d_Law_law_317 ?_
  refine Aw.lshl d_Law_law_319 ?_
  refine Aw.aload_n rfl d_Law_law_320 ?_
  refine Aw.iload rfl d_Law_law_321 ?_
  refine Aw.iconst d_Law_law_323 ?_
  refine Aw.iadd d_Law_law_324 ?_
  obtain ⟨o7, o8, h⟩ := h
  obtain ⟨o9, h⟩ := h
  refine Aw.sld o7 o8 o9 d_Law_law_325 ?_
  refine Aw.i2l d_Law_law_326 ?_
  refine Aw.ldc2 (v := 4294967295) lg_Law_141 d_Law_law_327 ?_
  refine Aw.land d_Law_law_330 ?_
  refine Aw.lor d_Law_law_331 ?_
  exact h
theorem b_Law_law_335 {Ω : Om} {R : Room} {F : QF} {k n : Nat} {σ : Sto} {a1 : Nat} {a2 : Nat} {a3 : Nat} {v4 : Int} {v5 : Int} {s0 : Int} (h : Aw Ω M_Law_law R F k n 338 [xr (some (oB Ω)), xr (some a1), xr (some a2), xr (some a3), xi v4, xi v5, xi s0, xu] [xr (some a2)] σ) : Aw Ω M_Law_law R F k n 335 [xr (some (oB Ω)), xr (some a1), xr (some a2), xr (some a3), xi v4, xi v5, xu, xu] [xi s0] σ := by
  refine Aw.istore (by decide) d_Law_law_335 ?_
  refine Aw.toL (L' := [xr (some (oB Ω)), xr (some a1), xr (some a2), xr (some a3), xi v4, xi v5, xi s0, xu]) rfl ?_
  refine Aw.aload_n rfl d_Law_law_337 ?_
  exact h
theorem b_Law_law_341 {Ω : Om} {R : Room} {F : QF} {k n : Nat} {σ : Sto} {a1 : Nat} {a2 : Nat} {a3 : Nat} {v4 : Int} {v5 : Int} {v6 : Int} {s0 : Int} (h : Q32 s0 ∧ Q32 v5 ∧ ((s0 = v5 → ((¬ v5 = (0 : Int) → Aw Ω M_Law_law R F k n 23 [xr (some (oB Ω)), xr (some a1), xr (some a2), xr (some a3), xi (v4 + 5), xu, xu, xu] [] σ) ∧ (v5 = (0 : Int) → sK σ a3 = 51 ∧ 0 ≤ (0 : Int) ∧ (0 : Int) < sZ σ a3 ∧ Q32 (cmpL (aL σ a3 0) (lOf v6)) ∧ (((cmpL (aL σ a3 0) (lOf v6)) = (0 : Int) → Aw Ω M_Law_law R F k n 23 [xr (some (oB Ω)), xr (some a1), xr (some a2), xr (some a3), xi (v4 + 5), xu, xu, xu] [] σ) ∧ (¬ (cmpL (aL σ a3 0) (lOf v6)) = (0 : Int) → Aw Ω M_Law_law R F k n 364 [xr (some (oB Ω)), xr (some a1), xr (some a2), xr (some a3), xi v4, xi v5, xi v6, xu] [xi 0] σ))))) ∧ (¬ s0 = v5 → Aw Ω M_Law_law R F k n 347 [xr (some (oB Ω)), xr (some a1), xr (some a2), xr (some a3), xi v4, xi v5, xi v6, xu] [xi 0] σ))) : Aw Ω M_Law_law R F k n 341 [xr (some (oB Ω)), xr (some a1), xr (some a2), xr (some a3), xi v4, xi v5, xi v6, xu] [xi s0] σ := by
  refine Aw.iload rfl d_Law_law_341 ?_
  obtain ⟨o1, h⟩ := h
  obtain ⟨o2, h⟩ := h
  obtain ⟨ht, hf⟩ := h
  refine Aw.icmp_eq (tgt := 348) o1 o2 (by decide) d_Law_law_343 (fun c9 => ?_) (fun c9 => ?_)
  · have h := ht c9
    refine Aw.iload rfl d_Law_law_348 ?_
    obtain ⟨ht, hf⟩ := h
    refine Aw.if_ne (tgt := 365) o2 (by decide) d_Law_law_350 (fun c8 => ?_) (fun c8 => ?_)
    · have h := ht c8
      refine Aw.goto (tgt := 2611) (by decide) d_Law_law_365 ?_
      refine Aw.iinc rfl d_Law_law_2611 ?_
      refine Aw.toL (L' := [xr (some (oB Ω)), xr (some a1), xr (some a2), xr (some a3), xi (v4 + 5), xi v5, xi v6, xu]) rfl ?_
      refine Aw.goto (tgt := 23) (by decide) d_Law_law_2614 ?_
      exact Aw.toW (L' := [xr (some (oB Ω)), xr (some a1), xr (some a2), xr (some a3), xi (v4 + 5), xu, xu, xu]) ⟨Or.inr rfl, Or.inr rfl, Or.inr rfl, Or.inr rfl, Or.inr rfl, Or.inl rfl, Or.inl rfl, Or.inr rfl, trivial⟩ h
    · have h := hf c8
      refine Aw.aload_n rfl d_Law_law_353 ?_
      refine Aw.iconst d_Law_law_354 ?_
      obtain ⟨o3, h⟩ := h
      obtain ⟨o4, o5, h⟩ := h
      refine Aw.lald o3 o4 o5 d_Law_law_355 ?_
      refine Aw.iload rfl d_Law_law_356 ?_
      refine Aw.i2l d_Law_law_358 ?_
      refine Aw.lcmp d_Law_law_359 ?_
      obtain ⟨o6, h⟩ := h
      obtain ⟨ht, hf⟩ := h
      refine Aw.if_eq (tgt := 365) o6 (by decide) d_Law_law_360 (fun c7 => ?_) (fun c7 => ?_)
      · have h := ht c7
        refine Aw.goto (tgt := 2611) (by decide) d_Law_law_365 ?_
        refine Aw.iinc rfl d_Law_law_2611 ?_
        refine Aw.toL (L' := [xr (some (oB Ω)), xr (some a1), xr (some a2), xr (some a3), xi (v4 + 5), xi v5, xi v6, xu]) rfl ?_
        refine Aw.goto (tgt := 23) (by decide) d_Law_law_2614 ?_
        exact Aw.toW (L' := [xr (some (oB Ω)), xr (some a1), xr (some a2), xr (some a3), xi (v4 + 5), xu, xu, xu]) ⟨Or.inr rfl, Or.inr rfl, Or.inr rfl, Or.inr rfl, Or.inr rfl, Or.inl rfl, Or.inl rfl, Or.inr rfl, trivial⟩ h
      · have h := hf c7
        refine Aw.iconst d_Law_law_363 ?_
        exact h
  · have h := hf c9
    refine Aw.iconst d_Law_law_346 ?_
    exact h
theorem b_Law_law_200 {Ω : Om} {R : Room} {F : QF} {k n : Nat} {σ : Sto} {a1 : Nat} {a2 : Nat} {a3 : Nat} {v4 : Int} (h : 0 ≤ (v4 + 1) ∧ (v4 + 1) < oN Ω ∧ oN Ω < 2147483648 ∧ 0 ≤ (v4 + 2) ∧ (v4 + 2) < oN Ω ∧ oN Ω < 2147483648 ∧ Aw Ω M_Law_law R F k n 214 [xr (some (oB Ω)), xr (some a1), xr (some a2), xr (some a3), xi v4, xu, xu, xu] [xr (some a3), xi ((oX Ω (v4 + 2).toNat).toInt), xi ((oX Ω (v4 + 1).toNat).toInt), xr (some a1)] σ) : Aw Ω M_Law_law R F k n 200 [xr (some (oB Ω)), xr (some a1), xr (some a2), xr (some a3), xi v4, xu, xu, xu] [] σ := by
  refine Aw.aload_n rfl d_Law_law_200 ?_
  refine Aw.aload_n rfl d_Law_law_201 ?_
  refine Aw.iload rfl d_Law_law_202 ?_
  refine Aw.iconst d_Law_law_204 ?_
  refine Aw.iadd d_Law_law_205 ?_
  obtain ⟨o1, o2, h⟩ := h
  obtain ⟨o3, h⟩ := h
  refine Aw.sld o1 o2 o3 d_Law_law_206 ?_
  refine Aw.aload_n rfl d_Law_law_207 ?_
  refine Aw.iload rfl d_Law_law_208 ?_
  refine Aw.iconst d_Law_law_210 ?_
  refine Aw.iadd d_Law_law_211 ?_
  obtain ⟨o4, o5, h⟩ := h
  obtain ⟨o6, h⟩ := h
  refine Aw.sld o4 o5 o6 d_Law_law_212 ?_
  refine Aw.aload_n rfl d_Law_law_213 ?_
  exact h
theorem b_Law_law_217 {Ω : Om} {R : Room} {F : QF} {k n : Nat} {σ : Sto} {a1 : Nat} {a2 : Nat} {a3 : Nat} {v4 : Int} {s0 : Int} (h : 0 ≤ (v4 + 1) ∧ (v4 + 1) < oN Ω ∧ oN Ω < 2147483648 ∧ 0 ≤ (v4 + 2) ∧ (v4 + 2) < oN Ω ∧ oN Ω < 2147483648 ∧ Aw Ω M_Law_law R F k n 232 [xr (some (oB Ω)), xr (some a1), xr (some a2), xr (some a3), xi v4, xi s0, xu, xu] [xi ((oX Ω (v4 + 2).toNat).toInt), xi ((oX Ω (v4 + 1).toNat).toInt), xr (some a2)] σ) : Aw Ω M_Law_law R F k n 217 [xr (some (oB Ω)), xr (some a1), xr (some a2), xr (some a3), xi v4, xu, xu, xu] [xi s0] σ := by
  refine Aw.istore (by decide) d_Law_law_217 ?_
  refine Aw.toL (L' := [xr (some (oB Ω)), xr (some a1), xr (some a2), xr (some a3), xi v4, xi s0, xu, xu]) rfl ?_
  refine Aw.aload_n rfl d_Law_law_219 ?_
  refine Aw.aload_n rfl d_Law_law_220 ?_
  refine Aw.iload rfl d_Law_law_221 ?_
  refine Aw.iconst d_Law_law_223 ?_
  refine Aw.iadd d_Law_law_224 ?_
  obtain ⟨o1, o2, h⟩ := h
  obtain ⟨o3, h⟩ := h
  refine Aw.sld o1 o2 o3 d_Law_law_225 ?_
  refine Aw.aload_n rfl d_Law_law_226 ?_
  refine Aw.iload rfl d_Law_law_227 ?_
  refine Aw.iconst d_Law_law_229 ?_
  refine Aw.iadd d_Law_law_230 ?_
  obtain ⟨o4, o5, h⟩ := h
  obtain ⟨o6, h⟩ := h
  refine Aw.sld o4 o5 o6 d_Law_law_231 ?_
  exact h
theorem b_Law_law_235 {Ω : Om} {R : Room} {F : QF} {k n : Nat} {σ : Sto} {a1 : Nat} {a2 : Nat} {a3 : Nat} {v4 : Int} {v5 : Int} {s0 : Int} (h : Aw Ω M_Law_law R F k n 238 [xr (some (oB Ω)), xr (some a1), xr (some a2), xr (some a3), xi v4, xi v5, xi s0, xu] [xr (some a2)] σ) : Aw Ω M_Law_law R F k n 235 [xr (some (oB Ω)), xr (some a1), xr (some a2), xr (some a3), xi v4, xi v5, xu, xu] [xi s0] σ := by
  refine Aw.istore (by decide) d_Law_law_235 ?_
  refine Aw.toL (L' := [xr (some (oB Ω)), xr (some a1), xr (some a2), xr (some a3), xi v4, xi v5, xi s0, xu]) rfl ?_
  refine Aw.aload_n rfl d_Law_law_237 ?_
  exact h
theorem b_Law_law_241 {Ω : Om} {R : Room} {F : QF} {k n : Nat} {σ : Sto} {a1 : Nat} {a2 : Nat} {a3 : Nat} {v4 : Int} {v5 : Int} {v6 : Int} {s0 : Int} (h : Q32 s0 ∧ Q32 v5 ∧ ((s0 = v5 → ((¬ v5 = (0 : Int) → Aw Ω M_Law_law R F k n 23 [xr (some (oB Ω)), xr (some a1), xr (some a2), xr (some a3), xi (v4 + 5), xu, xu, xu] [] σ) ∧ (v5 = (0 : Int) → sK σ a3 = 51 ∧ 0 ≤ (0 : Int) ∧ (0 : Int) < sZ σ a3 ∧ Q32 (cmpL (aL σ a3 0) (lOf v6)) ∧ (((cmpL (aL σ a3 0) (lOf v6)) = (0 : Int) → Aw Ω M_Law_law R F k n 23 [xr (some (oB Ω)), xr (some a1), xr (some a2), xr (some a3), xi (v4 + 5), xu, xu, xu] [] σ) ∧ (¬ (cmpL (aL σ a3 0) (lOf v6)) = (0 : Int) → Aw Ω M_Law_law R F k n 264 [xr (some (oB Ω)), xr (some a1), xr (some a2), xr (some a3), xi v4, xi v5, xi v6, xu] [xi 0] σ))))) ∧ (¬ s0 = v5 → Aw Ω M_Law_law R F k n 247 [xr (some (oB Ω)), xr (some a1), xr (some a2), xr (some a3), xi v4, xi v5, xi v6, xu] [xi 0] σ))) : Aw Ω M_Law_law R F k n 241 [xr (some (oB Ω)), xr (some a1), xr (some a2), xr (some a3), xi v4, xi v5, xi v6, xu] [xi s0] σ := by
  refine Aw.iload rfl d_Law_law_241 ?_
  obtain ⟨o1, h⟩ := h
  obtain ⟨o2, h⟩ := h
  obtain ⟨ht, hf⟩ := h
  refine Aw.icmp_eq (tgt := 248) o1 o2 (by decide) d_Law_law_243 (fun c9 => ?_) (fun c9 => ?_)
  · have h := ht c9
    refine Aw.iload rfl d_Law_law_248 ?_
    obtain ⟨ht, hf⟩ := h
    refine Aw.if_ne (tgt := 265) o2 (by decide) d_Law_law_250 (fun c8 => ?_) (fun c8 => ?_)
    · have h := ht c8
      refine Aw.goto (tgt := 2611) (by decide) d_Law_law_265 ?_
      refine Aw.iinc rfl d_Law_law_2611 ?_
      refine Aw.toL (L' := [xr (some (oB Ω)), xr (some a1), xr (some a2), xr (some a3), xi (v4 + 5), xi v5, xi v6, xu]) rfl ?_
      refine Aw.goto (tgt := 23) (by decide) d_Law_law_2614 ?_
      exact Aw.toW (L' := [xr (some (oB Ω)), xr (some a1), xr (some a2), xr (some a3), xi (v4 + 5), xu, xu, xu]) ⟨Or.inr rfl, Or.inr rfl, Or.inr rfl, Or.inr rfl, Or.inr rfl, Or.inl rfl, Or.inl rfl, Or.inr rfl, trivial⟩ h
    · have h := hf c8
      refine Aw.aload_n rfl d_Law_law_253 ?_
      refine Aw.iconst d_Law_law_254 ?_
      obtain ⟨o3, h⟩ := h
      obtain ⟨o4, o5, h⟩ := h
      refine Aw.lald o3 o4 o5 d_Law_law_255 ?_
      refine Aw.iload rfl d_Law_law_256 ?_
      refine Aw.i2l d_Law_law_258 ?_
      refine Aw.lcmp d_Law_law_259 ?_
      obtain ⟨o6, h⟩ := h
      obtain ⟨ht, hf⟩ := h
      refine Aw.if_eq (tgt := 265) o6 (by decide) d_Law_law_260 (fun c7 => ?_) (fun c7 => ?_)
      · have h := ht c7
        refine Aw.goto (tgt := 2611) (by decide) d_Law_law_265 ?_
        refine Aw.iinc rfl d_Law_law_2611 ?_
        refine Aw.toL (L' := [xr (some (oB Ω)), xr (some a1), xr (some a2), xr (some a3), xi (v4 + 5), xi v5, xi v6, xu]) rfl ?_
        refine Aw.goto (tgt := 23) (by decide) d_Law_law_2614 ?_
        exact Aw.toW (L' := [xr (some (oB Ω)), xr (some a1), xr (some a2), xr (some a3), xi (v4 + 5), xu, xu, xu]) ⟨Or.inr rfl, Or.inr rfl, Or.inr rfl, Or.inr rfl, Or.inr rfl, Or.inl rfl, Or.inl rfl, Or.inr rfl, trivial⟩ h
      · have h := hf c7
        refine Aw.iconst d_Law_law_263 ?_
        exact h
  · have h := hf c9
    refine Aw.iconst d_Law_law_246 ?_
    exact h
theorem b_Law_law_2611 {Ω : Om} {R : Room} {F : QF} {k n : Nat} {σ : Sto} {a1 : Nat} {a2 : Nat} {a3 : Nat} {v4 : Int} (h : Aw Ω M_Law_law R F k n 23 [xr (some (oB Ω)), xr (some a1), xr (some a2), xr (some a3), xi (v4 + 5), xu, xu, xu] [] σ) : Aw Ω M_Law_law R F k n 2611 [xr (some (oB Ω)), xr (some a1), xr (some a2), xr (some a3), xi v4, xu, xu, xu] [] σ := by
  refine Aw.iinc rfl d_Law_law_2611 ?_
  refine Aw.toL (L' := [xr (some (oB Ω)), xr (some a1), xr (some a2), xr (some a3), xi (v4 + 5), xu, xu, xu]) rfl ?_
  refine Aw.goto (tgt := 23) (by decide) d_Law_law_2614 ?_
  exact h
theorem c_Law_law_4 {Ω : Om} {R R' : Room} {F : QF} {k n : Nat} {L st : List PV} {σ : Sto} {QX' : String → Sto → Prop} {Q : Sto → Prop} {a : Nat} (hc : MC Ω M_Dw_init R' (RV Q) QX' σ [xr (some a)]) (hr1 : R'.frames + 1 ≤ R.frames) (hr2 : 8 + (2 + 11) + R'.locals ≤ R.locals) (hb1 : k + R'.cells ≤ R.cells) (hb2 : n + R'.slots ≤ R.slots) (hst : (st.map catP).sum ≤ 8) (kk : ∀ σ', Q σ' → Aw Ω M_Law_law R F (k + R'.cells) (n + R'.slots) 7 L st σ') (kx : ∀ E σ', QX' E σ' → Ax Ω M_Law_law R F (k + R'.cells) (n + R'.slots) 4 L st σ' E) : Aw Ω M_Law_law R F k n 4 L (xr (some a) :: st) σ :=
  Aw.callI (As := []) (stk := xr (some a) :: st) (nn := 0) M_Dw_init hc ok_Dw_init rfl rfl rfl im_Dw_init (Or.inl ml_Law_128) ⟨hr1, hr2⟩ rfl ⟨hb1, hb2⟩ hst rfl d_Law_law_4 (fun r σ' h => by obtain ⟨rfl, h⟩ := h; exact kk σ' h) kx
theorem c_Law_law_12 {Ω : Om} {R R' : Room} {F : QF} {k n : Nat} {L st : List PV} {σ : Sto} {QX' : String → Sto → Prop} {Q : Sto → Prop} {a : Nat} (hc : MC Ω M_Mdl_init R' (RV Q) QX' σ [xr (some a)]) (hr1 : R'.frames + 1 ≤ R.frames) (hr2 : 8 + (1 + 11) + R'.locals ≤ R.locals) (hb1 : k + R'.cells ≤ R.cells) (hb2 : n + R'.slots ≤ R.slots) (hst : (st.map catP).sum ≤ 8) (kk : ∀ σ', Q σ' → Aw Ω M_Law_law R F (k + R'.cells) (n + R'.slots) 15 L st σ') (kx : ∀ E σ', QX' E σ' → Ax Ω M_Law_law R F (k + R'.cells) (n + R'.slots) 12 L st σ' E) : Aw Ω M_Law_law R F k n 12 L (xr (some a) :: st) σ :=
  Aw.callI (As := []) (stk := xr (some a) :: st) (nn := 0) M_Mdl_init hc ok_Mdl_init rfl rfl rfl im_Mdl_init (Or.inl ml_Law_131) ⟨hr1, hr2⟩ rfl ⟨hb1, hb2⟩ hst rfl d_Law_law_12 (fun r σ' h => by obtain ⟨rfl, h⟩ := h; exact kk σ' h) kx
theorem c_Law_law_214 {Ω : Om} {R R' : Room} {F : QF} {k n : Nat} {L st : List PV} {σ : Sto} {QX' : String → Sto → Prop} {Q : Int → Sto → Prop} {x0 : Option Nat} {x1 : Int} {x2 : Int} {x3 : Option Nat} (hc : MC Ω M_Law_begin R' (RI Q) QX' σ [xr x0, xi x1, xi x2, xr x3]) (hr1 : R'.frames + 1 ≤ R.frames) (hr2 : 8 + (5 + 11) + R'.locals ≤ R.locals) (hb1 : k + R'.cells ≤ R.cells) (hb2 : n + R'.slots ≤ R.slots) (hst : (st.map catP).sum ≤ 8) (kk : ∀ x σ', Q x σ' → Aw Ω M_Law_law R F (k + R'.cells) (n + R'.slots) 217 L (xi x :: st) σ') (kx : ∀ E σ', QX' E σ' → Ax Ω M_Law_law R F (k + R'.cells) (n + R'.slots) 214 L st σ' E) : Aw Ω M_Law_law R F k n 214 L (xr x3 :: xi x2 :: xi x1 :: xr x0 :: st) σ :=
  Aw.callSX (As := [xr x0, xi x1, xi x2, xr x3]) (stk := xr x3 :: xi x2 :: xi x1 :: xr x0 :: st) (nn := 4) M_Law_begin hc ok_Law_begin (by decide) ml_Law_132 sta_Law_begin ⟨hr1, hr2⟩ rfl ⟨hb1, hb2⟩ hst rfl d_Law_law_214 (fun r σ' h => by obtain ⟨x, rfl, h⟩ := h; exact kk x σ' h) kx
theorem c_Law_law_232 {Ω : Om} {R R' : Room} {F : QF} {k n : Nat} {L st : List PV} {σ : Sto} {QX' : String → Sto → Prop} {Q : Int → Sto → Prop} {a : Nat} {x0 : Int} {x1 : Int} (hc : MC Ω M_Mdl_begin R' (RI Q) QX' σ [xr (some a), xi x0, xi x1]) (hk : sK σ a = 13) (hr1 : R'.frames + 1 ≤ R.frames) (hr2 : 8 + (4 + 11) + R'.locals ≤ R.locals) (hb1 : k + R'.cells ≤ R.cells) (hb2 : n + R'.slots ≤ R.slots) (hst : (st.map catP).sum ≤ 8) (kk : ∀ x σ', Q x σ' → Aw Ω M_Law_law R F (k + R'.cells) (n + R'.slots) 235 L (xi x :: st) σ') (kx : ∀ E σ', QX' E σ' → Ax Ω M_Law_law R F (k + R'.cells) (n + R'.slots) 232 L st σ' E) : Aw Ω M_Law_law R F k n 232 L (xi x1 :: xi x0 :: xr (some a) :: st) σ :=
  Aw.callV (As := [xi x0, xi x1]) (stk := xi x1 :: xi x0 :: xr (some a) :: st) (nn := 2) 12 M_Mdl_begin hc ok_Mdl_begin rfl (by decide) rfl hk ml_Law_137 im_Mdl_begin se_Mdl_begin ⟨hr1, hr2⟩ rfl ⟨hb1, hb2⟩ hst rfl d_Law_law_232 (fun r σ' h => by obtain ⟨x, rfl, h⟩ := h; exact kk x σ' h) kx
theorem c_Law_law_238 {Ω : Om} {R R' : Room} {F : QF} {k n : Nat} {L st : List PV} {σ : Sto} {QX' : String → Sto → Prop} {Q : Int → Sto → Prop} {a : Nat} (hc : MC Ω M_Mdl_thrown R' (RI Q) QX' σ [xr (some a)]) (hk : sK σ a = 13) (hr1 : R'.frames + 1 ≤ R.frames) (hr2 : 8 + (1 + 11) + R'.locals ≤ R.locals) (hb1 : k + R'.cells ≤ R.cells) (hb2 : n + R'.slots ≤ R.slots) (hst : (st.map catP).sum ≤ 8) (kk : ∀ x σ', Q x σ' → Aw Ω M_Law_law R F (k + R'.cells) (n + R'.slots) 241 L (xi x :: st) σ') (kx : ∀ E σ', QX' E σ' → Ax Ω M_Law_law R F (k + R'.cells) (n + R'.slots) 238 L st σ' E) : Aw Ω M_Law_law R F k n 238 L (xr (some a) :: st) σ :=
  Aw.callV (As := []) (stk := xr (some a) :: st) (nn := 0) 12 M_Mdl_thrown hc ok_Mdl_thrown rfl (by decide) rfl hk ml_Law_138 im_Mdl_thrown se_Mdl_thrown ⟨hr1, hr2⟩ rfl ⟨hb1, hb2⟩ hst rfl d_Law_law_238 (fun r σ' h => by obtain ⟨x, rfl, h⟩ := h; exact kk x σ' h) kx
theorem r_Law_law_247 {Ω : Om} {R : Room} {k n : Nat} {L : List PV} {σ : Sto} {QR : Option PV → Sto → Prop} {QX : String → Sto → Prop} {x : Int} (hx : x = 0 ∨ x = 1) (h : QR (some (xi x)) σ) (h1 : k ≤ R.cells) (h2 : n ≤ R.slots) : Aw Ω M_Law_law R (MF Ω R QR QX) k n 247 L [xi x] σ := Aw.zret rfl hx h h1 h2 d_Law_law_247
theorem r_Law_law_264 {Ω : Om} {R : Room} {k n : Nat} {L : List PV} {σ : Sto} {QR : Option PV → Sto → Prop} {QX : String → Sto → Prop} {x : Int} (hx : x = 0 ∨ x = 1) (h : QR (some (xi x)) σ) (h1 : k ≤ R.cells) (h2 : n ≤ R.slots) : Aw Ω M_Law_law R (MF Ω R QR QX) k n 264 L [xi x] σ := Aw.zret rfl hx h h1 h2 d_Law_law_264
theorem c_Law_law_298 {Ω : Om} {R R' : Room} {F : QF} {k n : Nat} {L st : List PV} {σ : Sto} {QX' : String → Sto → Prop} {Q : Int → Sto → Prop} {x0 : Option Nat} {x1 : Int} {x2 : Int64} {x3 : Option Nat} (hc : MC Ω M_Law_insert R' (RI Q) QX' σ [xr x0, xi x1, xl x2, xr x3]) (hr1 : R'.frames + 1 ≤ R.frames) (hr2 : 8 + (6 + 11) + R'.locals ≤ R.locals) (hb1 : k + R'.cells ≤ R.cells) (hb2 : n + R'.slots ≤ R.slots) (hst : (st.map catP).sum ≤ 8) (kk : ∀ x σ', Q x σ' → Aw Ω M_Law_law R F (k + R'.cells) (n + R'.slots) 301 L (xi x :: st) σ') (kx : ∀ E σ', QX' E σ' → Ax Ω M_Law_law R F (k + R'.cells) (n + R'.slots) 298 L st σ' E) : Aw Ω M_Law_law R F k n 298 L (xr x3 :: xl x2 :: xi x1 :: xr x0 :: st) σ :=
  Aw.callSX (As := [xr x0, xi x1, xl x2, xr x3]) (stk := xr x3 :: xl x2 :: xi x1 :: xr x0 :: st) (nn := 4) M_Law_insert hc ok_Law_insert (by decide) ml_Law_143 sta_Law_insert ⟨hr1, hr2⟩ rfl ⟨hb1, hb2⟩ hst rfl d_Law_law_298 (fun r σ' h => by obtain ⟨x, rfl, h⟩ := h; exact kk x σ' h) kx
theorem c_Law_law_332 {Ω : Om} {R R' : Room} {F : QF} {k n : Nat} {L st : List PV} {σ : Sto} {QX' : String → Sto → Prop} {Q : Int → Sto → Prop} {a : Nat} {x0 : Int} {x1 : Int64} (hc : MC Ω M_Mdl_insert R' (RI Q) QX' σ [xr (some a), xi x0, xl x1]) (hk : sK σ a = 13) (hr1 : R'.frames + 1 ≤ R.frames) (hr2 : 8 + (5 + 11) + R'.locals ≤ R.locals) (hb1 : k + R'.cells ≤ R.cells) (hb2 : n + R'.slots ≤ R.slots) (hst : (st.map catP).sum ≤ 8) (kk : ∀ x σ', Q x σ' → Aw Ω M_Law_law R F (k + R'.cells) (n + R'.slots) 335 L (xi x :: st) σ') (kx : ∀ E σ', QX' E σ' → Ax Ω M_Law_law R F (k + R'.cells) (n + R'.slots) 332 L st σ' E) : Aw Ω M_Law_law R F k n 332 L (xl x1 :: xi x0 :: xr (some a) :: st) σ :=
  Aw.callV (As := [xi x0, xl x1]) (stk := xl x1 :: xi x0 :: xr (some a) :: st) (nn := 2) 12 M_Mdl_insert hc ok_Mdl_insert rfl (by decide) rfl hk ml_Law_146 im_Mdl_insert se_Mdl_insert ⟨hr1, hr2⟩ rfl ⟨hb1, hb2⟩ hst rfl d_Law_law_332 (fun r σ' h => by obtain ⟨x, rfl, h⟩ := h; exact kk x σ' h) kx
theorem c_Law_law_338 {Ω : Om} {R R' : Room} {F : QF} {k n : Nat} {L st : List PV} {σ : Sto} {QX' : String → Sto → Prop} {Q : Int → Sto → Prop} {a : Nat} (hc : MC Ω M_Mdl_thrown R' (RI Q) QX' σ [xr (some a)]) (hk : sK σ a = 13) (hr1 : R'.frames + 1 ≤ R.frames) (hr2 : 8 + (1 + 11) + R'.locals ≤ R.locals) (hb1 : k + R'.cells ≤ R.cells) (hb2 : n + R'.slots ≤ R.slots) (hst : (st.map catP).sum ≤ 8) (kk : ∀ x σ', Q x σ' → Aw Ω M_Law_law R F (k + R'.cells) (n + R'.slots) 341 L (xi x :: st) σ') (kx : ∀ E σ', QX' E σ' → Ax Ω M_Law_law R F (k + R'.cells) (n + R'.slots) 338 L st σ' E) : Aw Ω M_Law_law R F k n 338 L (xr (some a) :: st) σ :=
  Aw.callV (As := []) (stk := xr (some a) :: st) (nn := 0) 12 M_Mdl_thrown hc ok_Mdl_thrown rfl (by decide) rfl hk ml_Law_138 im_Mdl_thrown se_Mdl_thrown ⟨hr1, hr2⟩ rfl ⟨hb1, hb2⟩ hst rfl d_Law_law_338 (fun r σ' h => by obtain ⟨x, rfl, h⟩ := h; exact kk x σ' h) kx
theorem r_Law_law_347 {Ω : Om} {R : Room} {k n : Nat} {L : List PV} {σ : Sto} {QR : Option PV → Sto → Prop} {QX : String → Sto → Prop} {x : Int} (hx : x = 0 ∨ x = 1) (h : QR (some (xi x)) σ) (h1 : k ≤ R.cells) (h2 : n ≤ R.slots) : Aw Ω M_Law_law R (MF Ω R QR QX) k n 347 L [xi x] σ := Aw.zret rfl hx h h1 h2 d_Law_law_347
theorem r_Law_law_364 {Ω : Om} {R : Room} {k n : Nat} {L : List PV} {σ : Sto} {QR : Option PV → Sto → Prop} {QX : String → Sto → Prop} {x : Int} (hx : x = 0 ∨ x = 1) (h : QR (some (xi x)) σ) (h1 : k ≤ R.cells) (h2 : n ≤ R.slots) : Aw Ω M_Law_law R (MF Ω R QR QX) k n 364 L [xi x] σ := Aw.zret rfl hx h h1 h2 d_Law_law_364
theorem c_Law_law_376 {Ω : Om} {R R' : Room} {F : QF} {k n : Nat} {L st : List PV} {σ : Sto} {QX' : String → Sto → Prop} {Q : Int → Sto → Prop} {x0 : Option Nat} {x1 : Int} {x2 : Option Nat} (hc : MC Ω M_Law_remove R' (RI Q) QX' σ [xr x0, xi x1, xr x2]) (hr1 : R'.frames + 1 ≤ R.frames) (hr2 : 8 + (4 + 11) + R'.locals ≤ R.locals) (hb1 : k + R'.cells ≤ R.cells) (hb2 : n + R'.slots ≤ R.slots) (hst : (st.map catP).sum ≤ 8) (kk : ∀ x σ', Q x σ' → Aw Ω M_Law_law R F (k + R'.cells) (n + R'.slots) 379 L (xi x :: st) σ') (kx : ∀ E σ', QX' E σ' → Ax Ω M_Law_law R F (k + R'.cells) (n + R'.slots) 376 L st σ' E) : Aw Ω M_Law_law R F k n 376 L (xr x2 :: xi x1 :: xr x0 :: st) σ :=
  Aw.callSX (As := [xr x0, xi x1, xr x2]) (stk := xr x2 :: xi x1 :: xr x0 :: st) (nn := 3) M_Law_remove hc ok_Law_remove (by decide) ml_Law_147 sta_Law_remove ⟨hr1, hr2⟩ rfl ⟨hb1, hb2⟩ hst rfl d_Law_law_376 (fun r σ' h => by obtain ⟨x, rfl, h⟩ := h; exact kk x σ' h) kx
theorem c_Law_law_388 {Ω : Om} {R R' : Room} {F : QF} {k n : Nat} {L st : List PV} {σ : Sto} {QX' : String → Sto → Prop} {Q : Int → Sto → Prop} {a : Nat} {x0 : Int} (hc : MC Ω M_Mdl_remove R' (RI Q) QX' σ [xr (some a), xi x0]) (hk : sK σ a = 13) (hr1 : R'.frames + 1 ≤ R.frames) (hr2 : 8 + (2 + 11) + R'.locals ≤ R.locals) (hb1 : k + R'.cells ≤ R.cells) (hb2 : n + R'.slots ≤ R.slots) (hst : (st.map catP).sum ≤ 8) (kk : ∀ x σ', Q x σ' → Aw Ω M_Law_law R F (k + R'.cells) (n + R'.slots) 391 L (xi x :: st) σ') (kx : ∀ E σ', QX' E σ' → Ax Ω M_Law_law R F (k + R'.cells) (n + R'.slots) 388 L st σ' E) : Aw Ω M_Law_law R F k n 388 L (xi x0 :: xr (some a) :: st) σ :=
  Aw.callV (As := [xi x0]) (stk := xi x0 :: xr (some a) :: st) (nn := 1) 12 M_Mdl_remove hc ok_Mdl_remove rfl (by decide) rfl hk ml_Law_150 im_Mdl_remove se_Mdl_remove ⟨hr1, hr2⟩ rfl ⟨hb1, hb2⟩ hst rfl d_Law_law_388 (fun r σ' h => by obtain ⟨x, rfl, h⟩ := h; exact kk x σ' h) kx
theorem c_Law_law_394 {Ω : Om} {R R' : Room} {F : QF} {k n : Nat} {L st : List PV} {σ : Sto} {QX' : String → Sto → Prop} {Q : Int → Sto → Prop} {a : Nat} (hc : MC Ω M_Mdl_thrown R' (RI Q) QX' σ [xr (some a)]) (hk : sK σ a = 13) (hr1 : R'.frames + 1 ≤ R.frames) (hr2 : 8 + (1 + 11) + R'.locals ≤ R.locals) (hb1 : k + R'.cells ≤ R.cells) (hb2 : n + R'.slots ≤ R.slots) (hst : (st.map catP).sum ≤ 8) (kk : ∀ x σ', Q x σ' → Aw Ω M_Law_law R F (k + R'.cells) (n + R'.slots) 397 L (xi x :: st) σ') (kx : ∀ E σ', QX' E σ' → Ax Ω M_Law_law R F (k + R'.cells) (n + R'.slots) 394 L st σ' E) : Aw Ω M_Law_law R F k n 394 L (xr (some a) :: st) σ :=
  Aw.callV (As := []) (stk := xr (some a) :: st) (nn := 0) 12 M_Mdl_thrown hc ok_Mdl_thrown rfl (by decide) rfl hk ml_Law_138 im_Mdl_thrown se_Mdl_thrown ⟨hr1, hr2⟩ rfl ⟨hb1, hb2⟩ hst rfl d_Law_law_394 (fun r σ' h => by obtain ⟨x, rfl, h⟩ := h; exact kk x σ' h) kx
theorem r_Law_law_403 {Ω : Om} {R : Room} {k n : Nat} {L : List PV} {σ : Sto} {QR : Option PV → Sto → Prop} {QX : String → Sto → Prop} {x : Int} (hx : x = 0 ∨ x = 1) (h : QR (some (xi x)) σ) (h1 : k ≤ R.cells) (h2 : n ≤ R.slots) : Aw Ω M_Law_law R (MF Ω R QR QX) k n 403 L [xi x] σ := Aw.zret rfl hx h h1 h2 d_Law_law_403
theorem r_Law_law_420 {Ω : Om} {R : Room} {k n : Nat} {L : List PV} {σ : Sto} {QR : Option PV → Sto → Prop} {QX : String → Sto → Prop} {x : Int} (hx : x = 0 ∨ x = 1) (h : QR (some (xi x)) σ) (h1 : k ≤ R.cells) (h2 : n ≤ R.slots) : Aw Ω M_Law_law R (MF Ω R QR QX) k n 420 L [xi x] σ := Aw.zret rfl hx h h1 h2 d_Law_law_420
theorem c_Law_law_454 {Ω : Om} {R R' : Room} {F : QF} {k n : Nat} {L st : List PV} {σ : Sto} {QX' : String → Sto → Prop} {Q : Int → Sto → Prop} {x0 : Option Nat} {x1 : Int} {x2 : Int64} {x3 : Option Nat} (hc : MC Ω M_Law_change R' (RI Q) QX' σ [xr x0, xi x1, xl x2, xr x3]) (hr1 : R'.frames + 1 ≤ R.frames) (hr2 : 8 + (6 + 11) + R'.locals ≤ R.locals) (hb1 : k + R'.cells ≤ R.cells) (hb2 : n + R'.slots ≤ R.slots) (hst : (st.map catP).sum ≤ 8) (kk : ∀ x σ', Q x σ' → Aw Ω M_Law_law R F (k + R'.cells) (n + R'.slots) 457 L (xi x :: st) σ') (kx : ∀ E σ', QX' E σ' → Ax Ω M_Law_law R F (k + R'.cells) (n + R'.slots) 454 L st σ' E) : Aw Ω M_Law_law R F k n 454 L (xr x3 :: xl x2 :: xi x1 :: xr x0 :: st) σ :=
  Aw.callSX (As := [xr x0, xi x1, xl x2, xr x3]) (stk := xr x3 :: xl x2 :: xi x1 :: xr x0 :: st) (nn := 4) M_Law_change hc ok_Law_change (by decide) ml_Law_151 sta_Law_change ⟨hr1, hr2⟩ rfl ⟨hb1, hb2⟩ hst rfl d_Law_law_454 (fun r σ' h => by obtain ⟨x, rfl, h⟩ := h; exact kk x σ' h) kx
theorem c_Law_law_488 {Ω : Om} {R R' : Room} {F : QF} {k n : Nat} {L st : List PV} {σ : Sto} {QX' : String → Sto → Prop} {Q : Int → Sto → Prop} {a : Nat} {x0 : Int} {x1 : Int64} (hc : MC Ω M_Mdl_change R' (RI Q) QX' σ [xr (some a), xi x0, xl x1]) (hk : sK σ a = 13) (hr1 : R'.frames + 1 ≤ R.frames) (hr2 : 8 + (5 + 11) + R'.locals ≤ R.locals) (hb1 : k + R'.cells ≤ R.cells) (hb2 : n + R'.slots ≤ R.slots) (hst : (st.map catP).sum ≤ 8) (kk : ∀ x σ', Q x σ' → Aw Ω M_Law_law R F (k + R'.cells) (n + R'.slots) 491 L (xi x :: st) σ') (kx : ∀ E σ', QX' E σ' → Ax Ω M_Law_law R F (k + R'.cells) (n + R'.slots) 488 L st σ' E) : Aw Ω M_Law_law R F k n 488 L (xl x1 :: xi x0 :: xr (some a) :: st) σ :=
  Aw.callV (As := [xi x0, xl x1]) (stk := xl x1 :: xi x0 :: xr (some a) :: st) (nn := 2) 12 M_Mdl_change hc ok_Mdl_change rfl (by decide) rfl hk ml_Law_153 im_Mdl_change se_Mdl_change ⟨hr1, hr2⟩ rfl ⟨hb1, hb2⟩ hst rfl d_Law_law_488 (fun r σ' h => by obtain ⟨x, rfl, h⟩ := h; exact kk x σ' h) kx
theorem c_Law_law_494 {Ω : Om} {R R' : Room} {F : QF} {k n : Nat} {L st : List PV} {σ : Sto} {QX' : String → Sto → Prop} {Q : Int → Sto → Prop} {a : Nat} (hc : MC Ω M_Mdl_thrown R' (RI Q) QX' σ [xr (some a)]) (hk : sK σ a = 13) (hr1 : R'.frames + 1 ≤ R.frames) (hr2 : 8 + (1 + 11) + R'.locals ≤ R.locals) (hb1 : k + R'.cells ≤ R.cells) (hb2 : n + R'.slots ≤ R.slots) (hst : (st.map catP).sum ≤ 8) (kk : ∀ x σ', Q x σ' → Aw Ω M_Law_law R F (k + R'.cells) (n + R'.slots) 497 L (xi x :: st) σ') (kx : ∀ E σ', QX' E σ' → Ax Ω M_Law_law R F (k + R'.cells) (n + R'.slots) 494 L st σ' E) : Aw Ω M_Law_law R F k n 494 L (xr (some a) :: st) σ :=
  Aw.callV (As := []) (stk := xr (some a) :: st) (nn := 0) 12 M_Mdl_thrown hc ok_Mdl_thrown rfl (by decide) rfl hk ml_Law_138 im_Mdl_thrown se_Mdl_thrown ⟨hr1, hr2⟩ rfl ⟨hb1, hb2⟩ hst rfl d_Law_law_494 (fun r σ' h => by obtain ⟨x, rfl, h⟩ := h; exact kk x σ' h) kx
theorem r_Law_law_503 {Ω : Om} {R : Room} {k n : Nat} {L : List PV} {σ : Sto} {QR : Option PV → Sto → Prop} {QX : String → Sto → Prop} {x : Int} (hx : x = 0 ∨ x = 1) (h : QR (some (xi x)) σ) (h1 : k ≤ R.cells) (h2 : n ≤ R.slots) : Aw Ω M_Law_law R (MF Ω R QR QX) k n 503 L [xi x] σ := Aw.zret rfl hx h h1 h2 d_Law_law_503
theorem r_Law_law_520 {Ω : Om} {R : Room} {k n : Nat} {L : List PV} {σ : Sto} {QR : Option PV → Sto → Prop} {QX : String → Sto → Prop} {x : Int} (hx : x = 0 ∨ x = 1) (h : QR (some (xi x)) σ) (h1 : k ≤ R.cells) (h2 : n ≤ R.slots) : Aw Ω M_Law_law R (MF Ω R QR QX) k n 520 L [xi x] σ := Aw.zret rfl hx h h1 h2 d_Law_law_520
theorem c_Law_law_537 {Ω : Om} {R R' : Room} {F : QF} {k n : Nat} {L st : List PV} {σ : Sto} {QX' : String → Sto → Prop} {Q : Int → Sto → Prop} {x0 : Option Nat} {x1 : Int} {x2 : Int} (hc : MC Ω M_Law_move R' (RI Q) QX' σ [xr x0, xi x1, xi x2]) (hr1 : R'.frames + 1 ≤ R.frames) (hr2 : 8 + (4 + 11) + R'.locals ≤ R.locals) (hb1 : k + R'.cells ≤ R.cells) (hb2 : n + R'.slots ≤ R.slots) (hst : (st.map catP).sum ≤ 8) (kk : ∀ x σ', Q x σ' → Aw Ω M_Law_law R F (k + R'.cells) (n + R'.slots) 540 L (xi x :: st) σ') (kx : ∀ E σ', QX' E σ' → Ax Ω M_Law_law R F (k + R'.cells) (n + R'.slots) 537 L st σ' E) : Aw Ω M_Law_law R F k n 537 L (xi x2 :: xi x1 :: xr x0 :: st) σ :=
  Aw.callSX (As := [xr x0, xi x1, xi x2]) (stk := xi x2 :: xi x1 :: xr x0 :: st) (nn := 3) M_Law_move hc ok_Law_move (by decide) ml_Law_154 sta_Law_move ⟨hr1, hr2⟩ rfl ⟨hb1, hb2⟩ hst rfl d_Law_law_537 (fun r σ' h => by obtain ⟨x, rfl, h⟩ := h; exact kk x σ' h) kx
theorem c_Law_law_555 {Ω : Om} {R R' : Room} {F : QF} {k n : Nat} {L st : List PV} {σ : Sto} {QX' : String → Sto → Prop} {Q : Sto → Prop} {a : Nat} {x0 : Int} {x1 : Int} (hc : MC Ω M_Mdl_move R' (RV Q) QX' σ [xr (some a), xi x0, xi x1]) (hk : sK σ a = 13) (hr1 : R'.frames + 1 ≤ R.frames) (hr2 : 8 + (4 + 11) + R'.locals ≤ R.locals) (hb1 : k + R'.cells ≤ R.cells) (hb2 : n + R'.slots ≤ R.slots) (hst : (st.map catP).sum ≤ 8) (kk : ∀ σ', Q σ' → Aw Ω M_Law_law R F (k + R'.cells) (n + R'.slots) 558 L st σ') (kx : ∀ E σ', QX' E σ' → Ax Ω M_Law_law R F (k + R'.cells) (n + R'.slots) 555 L st σ' E) : Aw Ω M_Law_law R F k n 555 L (xi x1 :: xi x0 :: xr (some a) :: st) σ :=
  Aw.callV (As := [xi x0, xi x1]) (stk := xi x1 :: xi x0 :: xr (some a) :: st) (nn := 2) 12 M_Mdl_move hc ok_Mdl_move rfl (by decide) rfl hk ml_Law_157 im_Mdl_move se_Mdl_move ⟨hr1, hr2⟩ rfl ⟨hb1, hb2⟩ hst rfl d_Law_law_555 (fun r σ' h => by obtain ⟨rfl, h⟩ := h; exact kk σ' h) kx
theorem c_Law_law_559 {Ω : Om} {R R' : Room} {F : QF} {k n : Nat} {L st : List PV} {σ : Sto} {QX' : String → Sto → Prop} {Q : Int → Sto → Prop} {a : Nat} (hc : MC Ω M_Mdl_thrown R' (RI Q) QX' σ [xr (some a)]) (hk : sK σ a = 13) (hr1 : R'.frames + 1 ≤ R.frames) (hr2 : 8 + (1 + 11) + R'.locals ≤ R.locals) (hb1 : k + R'.cells ≤ R.cells) (hb2 : n + R'.slots ≤ R.slots) (hst : (st.map catP).sum ≤ 8) (kk : ∀ x σ', Q x σ' → Aw Ω M_Law_law R F (k + R'.cells) (n + R'.slots) 562 L (xi x :: st) σ') (kx : ∀ E σ', QX' E σ' → Ax Ω M_Law_law R F (k + R'.cells) (n + R'.slots) 559 L st σ' E) : Aw Ω M_Law_law R F k n 559 L (xr (some a) :: st) σ :=
  Aw.callV (As := []) (stk := xr (some a) :: st) (nn := 0) 12 M_Mdl_thrown hc ok_Mdl_thrown rfl (by decide) rfl hk ml_Law_138 im_Mdl_thrown se_Mdl_thrown ⟨hr1, hr2⟩ rfl ⟨hb1, hb2⟩ hst rfl d_Law_law_559 (fun r σ' h => by obtain ⟨x, rfl, h⟩ := h; exact kk x σ' h) kx
theorem r_Law_law_568 {Ω : Om} {R : Room} {k n : Nat} {L : List PV} {σ : Sto} {QR : Option PV → Sto → Prop} {QX : String → Sto → Prop} {x : Int} (hx : x = 0 ∨ x = 1) (h : QR (some (xi x)) σ) (h1 : k ≤ R.cells) (h2 : n ≤ R.slots) : Aw Ω M_Law_law R (MF Ω R QR QX) k n 568 L [xi x] σ := Aw.zret rfl hx h h1 h2 d_Law_law_568
theorem c_Law_law_574 {Ω : Om} {R R' : Room} {F : QF} {k n : Nat} {L st : List PV} {σ : Sto} {QX' : String → Sto → Prop} {Q : Int → Sto → Prop} {x0 : Option Nat} {x1 : Option Nat} (hc : MC Ω M_Law_undo R' (RI Q) QX' σ [xr x0, xr x1]) (hr1 : R'.frames + 1 ≤ R.frames) (hr2 : 8 + (3 + 11) + R'.locals ≤ R.locals) (hb1 : k + R'.cells ≤ R.cells) (hb2 : n + R'.slots ≤ R.slots) (hst : (st.map catP).sum ≤ 8) (kk : ∀ x σ', Q x σ' → Aw Ω M_Law_law R F (k + R'.cells) (n + R'.slots) 577 L (xi x :: st) σ') (kx : ∀ E σ', QX' E σ' → Ax Ω M_Law_law R F (k + R'.cells) (n + R'.slots) 574 L st σ' E) : Aw Ω M_Law_law R F k n 574 L (xr x1 :: xr x0 :: st) σ :=
  Aw.callSX (As := [xr x0, xr x1]) (stk := xr x1 :: xr x0 :: st) (nn := 2) M_Law_undo hc ok_Law_undo (by decide) ml_Law_158 sta_Law_undo ⟨hr1, hr2⟩ rfl ⟨hb1, hb2⟩ hst rfl d_Law_law_574 (fun r σ' h => by obtain ⟨x, rfl, h⟩ := h; exact kk x σ' h) kx
theorem c_Law_law_580 {Ω : Om} {R R' : Room} {F : QF} {k n : Nat} {L st : List PV} {σ : Sto} {QX' : String → Sto → Prop} {Q : Int → Sto → Prop} {a : Nat} (hc : MC Ω M_Mdl_undo R' (RI Q) QX' σ [xr (some a)]) (hk : sK σ a = 13) (hr1 : R'.frames + 1 ≤ R.frames) (hr2 : 8 + (2 + 11) + R'.locals ≤ R.locals) (hb1 : k + R'.cells ≤ R.cells) (hb2 : n + R'.slots ≤ R.slots) (hst : (st.map catP).sum ≤ 8) (kk : ∀ x σ', Q x σ' → Aw Ω M_Law_law R F (k + R'.cells) (n + R'.slots) 583 L (xi x :: st) σ') (kx : ∀ E σ', QX' E σ' → Ax Ω M_Law_law R F (k + R'.cells) (n + R'.slots) 580 L st σ' E) : Aw Ω M_Law_law R F k n 580 L (xr (some a) :: st) σ :=
  Aw.callV (As := []) (stk := xr (some a) :: st) (nn := 0) 12 M_Mdl_undo hc ok_Mdl_undo rfl (by decide) rfl hk ml_Law_161 im_Mdl_undo se_Mdl_undo ⟨hr1, hr2⟩ rfl ⟨hb1, hb2⟩ hst rfl d_Law_law_580 (fun r σ' h => by obtain ⟨x, rfl, h⟩ := h; exact kk x σ' h) kx
theorem c_Law_law_586 {Ω : Om} {R R' : Room} {F : QF} {k n : Nat} {L st : List PV} {σ : Sto} {QX' : String → Sto → Prop} {Q : Int → Sto → Prop} {a : Nat} (hc : MC Ω M_Mdl_thrown R' (RI Q) QX' σ [xr (some a)]) (hk : sK σ a = 13) (hr1 : R'.frames + 1 ≤ R.frames) (hr2 : 8 + (1 + 11) + R'.locals ≤ R.locals) (hb1 : k + R'.cells ≤ R.cells) (hb2 : n + R'.slots ≤ R.slots) (hst : (st.map catP).sum ≤ 8) (kk : ∀ x σ', Q x σ' → Aw Ω M_Law_law R F (k + R'.cells) (n + R'.slots) 589 L (xi x :: st) σ') (kx : ∀ E σ', QX' E σ' → Ax Ω M_Law_law R F (k + R'.cells) (n + R'.slots) 586 L st σ' E) : Aw Ω M_Law_law R F k n 586 L (xr (some a) :: st) σ :=
  Aw.callV (As := []) (stk := xr (some a) :: st) (nn := 0) 12 M_Mdl_thrown hc ok_Mdl_thrown rfl (by decide) rfl hk ml_Law_138 im_Mdl_thrown se_Mdl_thrown ⟨hr1, hr2⟩ rfl ⟨hb1, hb2⟩ hst rfl d_Law_law_586 (fun r σ' h => by obtain ⟨x, rfl, h⟩ := h; exact kk x σ' h) kx
theorem r_Law_law_595 {Ω : Om} {R : Room} {k n : Nat} {L : List PV} {σ : Sto} {QR : Option PV → Sto → Prop} {QX : String → Sto → Prop} {x : Int} (hx : x = 0 ∨ x = 1) (h : QR (some (xi x)) σ) (h1 : k ≤ R.cells) (h2 : n ≤ R.slots) : Aw Ω M_Law_law R (MF Ω R QR QX) k n 595 L [xi x] σ := Aw.zret rfl hx h h1 h2 d_Law_law_595
theorem r_Law_law_612 {Ω : Om} {R : Room} {k n : Nat} {L : List PV} {σ : Sto} {QR : Option PV → Sto → Prop} {QX : String → Sto → Prop} {x : Int} (hx : x = 0 ∨ x = 1) (h : QR (some (xi x)) σ) (h1 : k ≤ R.cells) (h2 : n ≤ R.slots) : Aw Ω M_Law_law R (MF Ω R QR QX) k n 612 L [xi x] σ := Aw.zret rfl hx h h1 h2 d_Law_law_612
theorem c_Law_law_618 {Ω : Om} {R R' : Room} {F : QF} {k n : Nat} {L st : List PV} {σ : Sto} {QX' : String → Sto → Prop} {Q : Int → Sto → Prop} {x0 : Option Nat} {x1 : Option Nat} (hc : MC Ω M_Law_commit R' (RI Q) QX' σ [xr x0, xr x1]) (hr1 : R'.frames + 1 ≤ R.frames) (hr2 : 8 + (3 + 11) + R'.locals ≤ R.locals) (hb1 : k + R'.cells ≤ R.cells) (hb2 : n + R'.slots ≤ R.slots) (hst : (st.map catP).sum ≤ 8) (kk : ∀ x σ', Q x σ' → Aw Ω M_Law_law R F (k + R'.cells) (n + R'.slots) 621 L (xi x :: st) σ') (kx : ∀ E σ', QX' E σ' → Ax Ω M_Law_law R F (k + R'.cells) (n + R'.slots) 618 L st σ' E) : Aw Ω M_Law_law R F k n 618 L (xr x1 :: xr x0 :: st) σ :=
  Aw.callSX (As := [xr x0, xr x1]) (stk := xr x1 :: xr x0 :: st) (nn := 2) M_Law_commit hc ok_Law_commit (by decide) ml_Law_162 sta_Law_commit ⟨hr1, hr2⟩ rfl ⟨hb1, hb2⟩ hst rfl d_Law_law_618 (fun r σ' h => by obtain ⟨x, rfl, h⟩ := h; exact kk x σ' h) kx
theorem c_Law_law_624 {Ω : Om} {R R' : Room} {F : QF} {k n : Nat} {L st : List PV} {σ : Sto} {QX' : String → Sto → Prop} {Q : Int → Sto → Prop} {a : Nat} (hc : MC Ω M_Mdl_commit R' (RI Q) QX' σ [xr (some a)]) (hk : sK σ a = 13) (hr1 : R'.frames + 1 ≤ R.frames) (hr2 : 8 + (2 + 11) + R'.locals ≤ R.locals) (hb1 : k + R'.cells ≤ R.cells) (hb2 : n + R'.slots ≤ R.slots) (hst : (st.map catP).sum ≤ 8) (kk : ∀ x σ', Q x σ' → Aw Ω M_Law_law R F (k + R'.cells) (n + R'.slots) 627 L (xi x :: st) σ') (kx : ∀ E σ', QX' E σ' → Ax Ω M_Law_law R F (k + R'.cells) (n + R'.slots) 624 L st σ' E) : Aw Ω M_Law_law R F k n 624 L (xr (some a) :: st) σ :=
  Aw.callV (As := []) (stk := xr (some a) :: st) (nn := 0) 12 M_Mdl_commit hc ok_Mdl_commit rfl (by decide) rfl hk ml_Law_164 im_Mdl_commit se_Mdl_commit ⟨hr1, hr2⟩ rfl ⟨hb1, hb2⟩ hst rfl d_Law_law_624 (fun r σ' h => by obtain ⟨x, rfl, h⟩ := h; exact kk x σ' h) kx
theorem c_Law_law_630 {Ω : Om} {R R' : Room} {F : QF} {k n : Nat} {L st : List PV} {σ : Sto} {QX' : String → Sto → Prop} {Q : Int → Sto → Prop} {a : Nat} (hc : MC Ω M_Mdl_thrown R' (RI Q) QX' σ [xr (some a)]) (hk : sK σ a = 13) (hr1 : R'.frames + 1 ≤ R.frames) (hr2 : 8 + (1 + 11) + R'.locals ≤ R.locals) (hb1 : k + R'.cells ≤ R.cells) (hb2 : n + R'.slots ≤ R.slots) (hst : (st.map catP).sum ≤ 8) (kk : ∀ x σ', Q x σ' → Aw Ω M_Law_law R F (k + R'.cells) (n + R'.slots) 633 L (xi x :: st) σ') (kx : ∀ E σ', QX' E σ' → Ax Ω M_Law_law R F (k + R'.cells) (n + R'.slots) 630 L st σ' E) : Aw Ω M_Law_law R F k n 630 L (xr (some a) :: st) σ :=
  Aw.callV (As := []) (stk := xr (some a) :: st) (nn := 0) 12 M_Mdl_thrown hc ok_Mdl_thrown rfl (by decide) rfl hk ml_Law_138 im_Mdl_thrown se_Mdl_thrown ⟨hr1, hr2⟩ rfl ⟨hb1, hb2⟩ hst rfl d_Law_law_630 (fun r σ' h => by obtain ⟨x, rfl, h⟩ := h; exact kk x σ' h) kx
theorem r_Law_law_639 {Ω : Om} {R : Room} {k n : Nat} {L : List PV} {σ : Sto} {QR : Option PV → Sto → Prop} {QX : String → Sto → Prop} {x : Int} (hx : x = 0 ∨ x = 1) (h : QR (some (xi x)) σ) (h1 : k ≤ R.cells) (h2 : n ≤ R.slots) : Aw Ω M_Law_law R (MF Ω R QR QX) k n 639 L [xi x] σ := Aw.zret rfl hx h h1 h2 d_Law_law_639
theorem r_Law_law_656 {Ω : Om} {R : Room} {k n : Nat} {L : List PV} {σ : Sto} {QR : Option PV → Sto → Prop} {QX : String → Sto → Prop} {x : Int} (hx : x = 0 ∨ x = 1) (h : QR (some (xi x)) σ) (h1 : k ≤ R.cells) (h2 : n ≤ R.slots) : Aw Ω M_Law_law R (MF Ω R QR QX) k n 656 L [xi x] σ := Aw.zret rfl hx h h1 h2 d_Law_law_656
theorem c_Law_law_661 {Ω : Om} {R R' : Room} {F : QF} {k n : Nat} {L st : List PV} {σ : Sto} {QX' : String → Sto → Prop} {Q : Int → Sto → Prop} {a : Nat} (hc : MC Ω M_Dw_draftLines R' (RI Q) QX' σ [xr (some a)]) (hk : sK σ a = 1) (hr1 : R'.frames + 1 ≤ R.frames) (hr2 : 8 + (1 + 11) + R'.locals ≤ R.locals) (hb1 : k + R'.cells ≤ R.cells) (hb2 : n + R'.slots ≤ R.slots) (hst : (st.map catP).sum ≤ 8) (kk : ∀ x σ', Q x σ' → Aw Ω M_Law_law R F (k + R'.cells) (n + R'.slots) 664 L (xi x :: st) σ') (kx : ∀ E σ', QX' E σ' → Ax Ω M_Law_law R F (k + R'.cells) (n + R'.slots) 661 L st σ' E) : Aw Ω M_Law_law R F k n 661 L (xr (some a) :: st) σ :=
  Aw.callV (As := []) (stk := xr (some a) :: st) (nn := 0) 0 M_Dw_draftLines hc ok_Dw_draftLines rfl (by decide) rfl hk ml_Law_165 im_Dw_draftLines se_Dw_draftLines ⟨hr1, hr2⟩ rfl ⟨hb1, hb2⟩ hst rfl d_Law_law_661 (fun r σ' h => by obtain ⟨x, rfl, h⟩ := h; exact kk x σ' h) kx
theorem c_Law_law_665 {Ω : Om} {R R' : Room} {F : QF} {k n : Nat} {L st : List PV} {σ : Sto} {QX' : String → Sto → Prop} {Q : Int → Sto → Prop} {a : Nat} (hc : MC Ω M_Mdl_draftLines R' (RI Q) QX' σ [xr (some a)]) (hk : sK σ a = 13) (hr1 : R'.frames + 1 ≤ R.frames) (hr2 : 8 + (1 + 11) + R'.locals ≤ R.locals) (hb1 : k + R'.cells ≤ R.cells) (hb2 : n + R'.slots ≤ R.slots) (hst : (st.map catP).sum ≤ 8) (kk : ∀ x σ', Q x σ' → Aw Ω M_Law_law R F (k + R'.cells) (n + R'.slots) 668 L (xi x :: st) σ') (kx : ∀ E σ', QX' E σ' → Ax Ω M_Law_law R F (k + R'.cells) (n + R'.slots) 665 L st σ' E) : Aw Ω M_Law_law R F k n 665 L (xr (some a) :: st) σ :=
  Aw.callV (As := []) (stk := xr (some a) :: st) (nn := 0) 12 M_Mdl_draftLines hc ok_Mdl_draftLines rfl (by decide) rfl hk ml_Law_168 im_Mdl_draftLines se_Mdl_draftLines ⟨hr1, hr2⟩ rfl ⟨hb1, hb2⟩ hst rfl d_Law_law_665 (fun r σ' h => by obtain ⟨x, rfl, h⟩ := h; exact kk x σ' h) kx
theorem r_Law_law_672 {Ω : Om} {R : Room} {k n : Nat} {L : List PV} {σ : Sto} {QR : Option PV → Sto → Prop} {QX : String → Sto → Prop} {x : Int} (hx : x = 0 ∨ x = 1) (h : QR (some (xi x)) σ) (h1 : k ≤ R.cells) (h2 : n ≤ R.slots) : Aw Ω M_Law_law R (MF Ω R QR QX) k n 672 L [xi x] σ := Aw.zret rfl hx h h1 h2 d_Law_law_672
theorem c_Law_law_681 {Ω : Om} {R R' : Room} {F : QF} {k n : Nat} {L st : List PV} {σ : Sto} {QX' : String → Sto → Prop} {Q : Int → Sto → Prop} {x0 : Option Nat} {x1 : Int} {x2 : Option Nat} (hc : MC Ω M_Law_draftLine R' (RI Q) QX' σ [xr x0, xi x1, xr x2]) (hr1 : R'.frames + 1 ≤ R.frames) (hr2 : 8 + (4 + 11) + R'.locals ≤ R.locals) (hb1 : k + R'.cells ≤ R.cells) (hb2 : n + R'.slots ≤ R.slots) (hst : (st.map catP).sum ≤ 8) (kk : ∀ x σ', Q x σ' → Aw Ω M_Law_law R F (k + R'.cells) (n + R'.slots) 684 L (xi x :: st) σ') (kx : ∀ E σ', QX' E σ' → Ax Ω M_Law_law R F (k + R'.cells) (n + R'.slots) 681 L st σ' E) : Aw Ω M_Law_law R F k n 681 L (xr x2 :: xi x1 :: xr x0 :: st) σ :=
  Aw.callSX (As := [xr x0, xi x1, xr x2]) (stk := xr x2 :: xi x1 :: xr x0 :: st) (nn := 3) M_Law_draftLine hc ok_Law_draftLine (by decide) ml_Law_169 sta_Law_draftLine ⟨hr1, hr2⟩ rfl ⟨hb1, hb2⟩ hst rfl d_Law_law_681 (fun r σ' h => by obtain ⟨x, rfl, h⟩ := h; exact kk x σ' h) kx
theorem c_Law_law_693 {Ω : Om} {R R' : Room} {F : QF} {k n : Nat} {L st : List PV} {σ : Sto} {QX' : String → Sto → Prop} {Q : Int64 → Sto → Prop} {a : Nat} {x0 : Int} (hc : MC Ω M_Mdl_draftLine R' (RL Q) QX' σ [xr (some a), xi x0]) (hk : sK σ a = 13) (hr1 : R'.frames + 1 ≤ R.frames) (hr2 : 8 + (6 + 11) + R'.locals ≤ R.locals) (hb1 : k + R'.cells ≤ R.cells) (hb2 : n + R'.slots ≤ R.slots) (hst : (st.map catP).sum ≤ 8) (kk : ∀ x σ', Q x σ' → Aw Ω M_Law_law R F (k + R'.cells) (n + R'.slots) 696 L (xl x :: st) σ') (kx : ∀ E σ', QX' E σ' → Ax Ω M_Law_law R F (k + R'.cells) (n + R'.slots) 693 L st σ' E) : Aw Ω M_Law_law R F k n 693 L (xi x0 :: xr (some a) :: st) σ :=
  Aw.callV (As := [xi x0]) (stk := xi x0 :: xr (some a) :: st) (nn := 1) 12 M_Mdl_draftLine hc ok_Mdl_draftLine rfl (by decide) rfl hk ml_Law_171 im_Mdl_draftLine se_Mdl_draftLine ⟨hr1, hr2⟩ rfl ⟨hb1, hb2⟩ hst rfl d_Law_law_693 (fun r σ' h => by obtain ⟨x, rfl, h⟩ := h; exact kk x σ' h) kx
theorem c_Law_law_699 {Ω : Om} {R R' : Room} {F : QF} {k n : Nat} {L st : List PV} {σ : Sto} {QX' : String → Sto → Prop} {Q : Int → Sto → Prop} {a : Nat} (hc : MC Ω M_Mdl_thrown R' (RI Q) QX' σ [xr (some a)]) (hk : sK σ a = 13) (hr1 : R'.frames + 1 ≤ R.frames) (hr2 : 8 + (1 + 11) + R'.locals ≤ R.locals) (hb1 : k + R'.cells ≤ R.cells) (hb2 : n + R'.slots ≤ R.slots) (hst : (st.map catP).sum ≤ 8) (kk : ∀ x σ', Q x σ' → Aw Ω M_Law_law R F (k + R'.cells) (n + R'.slots) 702 L (xi x :: st) σ') (kx : ∀ E σ', QX' E σ' → Ax Ω M_Law_law R F (k + R'.cells) (n + R'.slots) 699 L st σ' E) : Aw Ω M_Law_law R F k n 699 L (xr (some a) :: st) σ :=
  Aw.callV (As := []) (stk := xr (some a) :: st) (nn := 0) 12 M_Mdl_thrown hc ok_Mdl_thrown rfl (by decide) rfl hk ml_Law_138 im_Mdl_thrown se_Mdl_thrown ⟨hr1, hr2⟩ rfl ⟨hb1, hb2⟩ hst rfl d_Law_law_699 (fun r σ' h => by obtain ⟨x, rfl, h⟩ := h; exact kk x σ' h) kx
theorem r_Law_law_708 {Ω : Om} {R : Room} {k n : Nat} {L : List PV} {σ : Sto} {QR : Option PV → Sto → Prop} {QX : String → Sto → Prop} {x : Int} (hx : x = 0 ∨ x = 1) (h : QR (some (xi x)) σ) (h1 : k ≤ R.cells) (h2 : n ≤ R.slots) : Aw Ω M_Law_law R (MF Ω R QR QX) k n 708 L [xi x] σ := Aw.zret rfl hx h h1 h2 d_Law_law_708
theorem r_Law_law_724 {Ω : Om} {R : Room} {k n : Nat} {L : List PV} {σ : Sto} {QR : Option PV → Sto → Prop} {QX : String → Sto → Prop} {x : Int} (hx : x = 0 ∨ x = 1) (h : QR (some (xi x)) σ) (h1 : k ≤ R.cells) (h2 : n ≤ R.slots) : Aw Ω M_Law_law R (MF Ω R QR QX) k n 724 L [xi x] σ := Aw.zret rfl hx h h1 h2 d_Law_law_724
theorem c_Law_law_729 {Ω : Om} {R R' : Room} {F : QF} {k n : Nat} {L st : List PV} {σ : Sto} {QX' : String → Sto → Prop} {Q : Int → Sto → Prop} {a : Nat} (hc : MC Ω M_Dw_versions R' (RI Q) QX' σ [xr (some a)]) (hk : sK σ a = 1) (hr1 : R'.frames + 1 ≤ R.frames) (hr2 : 8 + (1 + 11) + R'.locals ≤ R.locals) (hb1 : k + R'.cells ≤ R.cells) (hb2 : n + R'.slots ≤ R.slots) (hst : (st.map catP).sum ≤ 8) (kk : ∀ x σ', Q x σ' → Aw Ω M_Law_law R F (k + R'.cells) (n + R'.slots) 732 L (xi x :: st) σ') (kx : ∀ E σ', QX' E σ' → Ax Ω M_Law_law R F (k + R'.cells) (n + R'.slots) 729 L st σ' E) : Aw Ω M_Law_law R F k n 729 L (xr (some a) :: st) σ :=
  Aw.callV (As := []) (stk := xr (some a) :: st) (nn := 0) 0 M_Dw_versions hc ok_Dw_versions rfl (by decide) rfl hk ml_Law_172 im_Dw_versions se_Dw_versions ⟨hr1, hr2⟩ rfl ⟨hb1, hb2⟩ hst rfl d_Law_law_729 (fun r σ' h => by obtain ⟨x, rfl, h⟩ := h; exact kk x σ' h) kx
theorem c_Law_law_733 {Ω : Om} {R R' : Room} {F : QF} {k n : Nat} {L st : List PV} {σ : Sto} {QX' : String → Sto → Prop} {Q : Int → Sto → Prop} {a : Nat} (hc : MC Ω M_Mdl_versions R' (RI Q) QX' σ [xr (some a)]) (hk : sK σ a = 13) (hr1 : R'.frames + 1 ≤ R.frames) (hr2 : 8 + (1 + 11) + R'.locals ≤ R.locals) (hb1 : k + R'.cells ≤ R.cells) (hb2 : n + R'.slots ≤ R.slots) (hst : (st.map catP).sum ≤ 8) (kk : ∀ x σ', Q x σ' → Aw Ω M_Law_law R F (k + R'.cells) (n + R'.slots) 736 L (xi x :: st) σ') (kx : ∀ E σ', QX' E σ' → Ax Ω M_Law_law R F (k + R'.cells) (n + R'.slots) 733 L st σ' E) : Aw Ω M_Law_law R F k n 733 L (xr (some a) :: st) σ :=
  Aw.callV (As := []) (stk := xr (some a) :: st) (nn := 0) 12 M_Mdl_versions hc ok_Mdl_versions rfl (by decide) rfl hk ml_Law_175 im_Mdl_versions se_Mdl_versions ⟨hr1, hr2⟩ rfl ⟨hb1, hb2⟩ hst rfl d_Law_law_733 (fun r σ' h => by obtain ⟨x, rfl, h⟩ := h; exact kk x σ' h) kx
theorem r_Law_law_740 {Ω : Om} {R : Room} {k n : Nat} {L : List PV} {σ : Sto} {QR : Option PV → Sto → Prop} {QX : String → Sto → Prop} {x : Int} (hx : x = 0 ∨ x = 1) (h : QR (some (xi x)) σ) (h1 : k ≤ R.cells) (h2 : n ≤ R.slots) : Aw Ω M_Law_law R (MF Ω R QR QX) k n 740 L [xi x] σ := Aw.zret rfl hx h h1 h2 d_Law_law_740
theorem c_Law_law_749 {Ω : Om} {R R' : Room} {F : QF} {k n : Nat} {L st : List PV} {σ : Sto} {QX' : String → Sto → Prop} {Q : Int → Sto → Prop} {x0 : Option Nat} {x1 : Int} {x2 : Option Nat} (hc : MC Ω M_Law_lines R' (RI Q) QX' σ [xr x0, xi x1, xr x2]) (hr1 : R'.frames + 1 ≤ R.frames) (hr2 : 8 + (4 + 11) + R'.locals ≤ R.locals) (hb1 : k + R'.cells ≤ R.cells) (hb2 : n + R'.slots ≤ R.slots) (hst : (st.map catP).sum ≤ 8) (kk : ∀ x σ', Q x σ' → Aw Ω M_Law_law R F (k + R'.cells) (n + R'.slots) 752 L (xi x :: st) σ') (kx : ∀ E σ', QX' E σ' → Ax Ω M_Law_law R F (k + R'.cells) (n + R'.slots) 749 L st σ' E) : Aw Ω M_Law_law R F k n 749 L (xr x2 :: xi x1 :: xr x0 :: st) σ :=
  Aw.callSX (As := [xr x0, xi x1, xr x2]) (stk := xr x2 :: xi x1 :: xr x0 :: st) (nn := 3) M_Law_lines hc ok_Law_lines (by decide) ml_Law_176 sta_Law_lines ⟨hr1, hr2⟩ rfl ⟨hb1, hb2⟩ hst rfl d_Law_law_749 (fun r σ' h => by obtain ⟨x, rfl, h⟩ := h; exact kk x σ' h) kx
theorem c_Law_law_761 {Ω : Om} {R R' : Room} {F : QF} {k n : Nat} {L st : List PV} {σ : Sto} {QX' : String → Sto → Prop} {Q : Int → Sto → Prop} {a : Nat} {x0 : Int} (hc : MC Ω M_Mdl_lines R' (RI Q) QX' σ [xr (some a), xi x0]) (hk : sK σ a = 13) (hr1 : R'.frames + 1 ≤ R.frames) (hr2 : 8 + (2 + 11) + R'.locals ≤ R.locals) (hb1 : k + R'.cells ≤ R.cells) (hb2 : n + R'.slots ≤ R.slots) (hst : (st.map catP).sum ≤ 8) (kk : ∀ x σ', Q x σ' → Aw Ω M_Law_law R F (k + R'.cells) (n + R'.slots) 764 L (xi x :: st) σ') (kx : ∀ E σ', QX' E σ' → Ax Ω M_Law_law R F (k + R'.cells) (n + R'.slots) 761 L st σ' E) : Aw Ω M_Law_law R F k n 761 L (xi x0 :: xr (some a) :: st) σ :=
  Aw.callV (As := [xi x0]) (stk := xi x0 :: xr (some a) :: st) (nn := 1) 12 M_Mdl_lines hc ok_Mdl_lines rfl (by decide) rfl hk ml_Law_178 im_Mdl_lines se_Mdl_lines ⟨hr1, hr2⟩ rfl ⟨hb1, hb2⟩ hst rfl d_Law_law_761 (fun r σ' h => by obtain ⟨x, rfl, h⟩ := h; exact kk x σ' h) kx
theorem c_Law_law_767 {Ω : Om} {R R' : Room} {F : QF} {k n : Nat} {L st : List PV} {σ : Sto} {QX' : String → Sto → Prop} {Q : Int → Sto → Prop} {a : Nat} (hc : MC Ω M_Mdl_thrown R' (RI Q) QX' σ [xr (some a)]) (hk : sK σ a = 13) (hr1 : R'.frames + 1 ≤ R.frames) (hr2 : 8 + (1 + 11) + R'.locals ≤ R.locals) (hb1 : k + R'.cells ≤ R.cells) (hb2 : n + R'.slots ≤ R.slots) (hst : (st.map catP).sum ≤ 8) (kk : ∀ x σ', Q x σ' → Aw Ω M_Law_law R F (k + R'.cells) (n + R'.slots) 770 L (xi x :: st) σ') (kx : ∀ E σ', QX' E σ' → Ax Ω M_Law_law R F (k + R'.cells) (n + R'.slots) 767 L st σ' E) : Aw Ω M_Law_law R F k n 767 L (xr (some a) :: st) σ :=
  Aw.callV (As := []) (stk := xr (some a) :: st) (nn := 0) 12 M_Mdl_thrown hc ok_Mdl_thrown rfl (by decide) rfl hk ml_Law_138 im_Mdl_thrown se_Mdl_thrown ⟨hr1, hr2⟩ rfl ⟨hb1, hb2⟩ hst rfl d_Law_law_767 (fun r σ' h => by obtain ⟨x, rfl, h⟩ := h; exact kk x σ' h) kx
theorem r_Law_law_776 {Ω : Om} {R : Room} {k n : Nat} {L : List PV} {σ : Sto} {QR : Option PV → Sto → Prop} {QX : String → Sto → Prop} {x : Int} (hx : x = 0 ∨ x = 1) (h : QR (some (xi x)) σ) (h1 : k ≤ R.cells) (h2 : n ≤ R.slots) : Aw Ω M_Law_law R (MF Ω R QR QX) k n 776 L [xi x] σ := Aw.zret rfl hx h h1 h2 d_Law_law_776
theorem r_Law_law_793 {Ω : Om} {R : Room} {k n : Nat} {L : List PV} {σ : Sto} {QR : Option PV → Sto → Prop} {QX : String → Sto → Prop} {x : Int} (hx : x = 0 ∨ x = 1) (h : QR (some (xi x)) σ) (h1 : k ≤ R.cells) (h2 : n ≤ R.slots) : Aw Ω M_Law_law R (MF Ω R QR QX) k n 793 L [xi x] σ := Aw.zret rfl hx h h1 h2 d_Law_law_793
theorem c_Law_law_811 {Ω : Om} {R R' : Room} {F : QF} {k n : Nat} {L st : List PV} {σ : Sto} {QX' : String → Sto → Prop} {Q : Int → Sto → Prop} {x0 : Option Nat} {x1 : Int} {x2 : Int} {x3 : Option Nat} (hc : MC Ω M_Law_lineOf R' (RI Q) QX' σ [xr x0, xi x1, xi x2, xr x3]) (hr1 : R'.frames + 1 ≤ R.frames) (hr2 : 8 + (5 + 11) + R'.locals ≤ R.locals) (hb1 : k + R'.cells ≤ R.cells) (hb2 : n + R'.slots ≤ R.slots) (hst : (st.map catP).sum ≤ 8) (kk : ∀ x σ', Q x σ' → Aw Ω M_Law_law R F (k + R'.cells) (n + R'.slots) 814 L (xi x :: st) σ') (kx : ∀ E σ', QX' E σ' → Ax Ω M_Law_law R F (k + R'.cells) (n + R'.slots) 811 L st σ' E) : Aw Ω M_Law_law R F k n 811 L (xr x3 :: xi x2 :: xi x1 :: xr x0 :: st) σ :=
  Aw.callSX (As := [xr x0, xi x1, xi x2, xr x3]) (stk := xr x3 :: xi x2 :: xi x1 :: xr x0 :: st) (nn := 4) M_Law_lineOf hc ok_Law_lineOf (by decide) ml_Law_179 sta_Law_lineOf ⟨hr1, hr2⟩ rfl ⟨hb1, hb2⟩ hst rfl d_Law_law_811 (fun r σ' h => by obtain ⟨x, rfl, h⟩ := h; exact kk x σ' h) kx
theorem c_Law_law_829 {Ω : Om} {R R' : Room} {F : QF} {k n : Nat} {L st : List PV} {σ : Sto} {QX' : String → Sto → Prop} {Q : Int64 → Sto → Prop} {a : Nat} {x0 : Int} {x1 : Int} (hc : MC Ω M_Mdl_lineOf R' (RL Q) QX' σ [xr (some a), xi x0, xi x1]) (hk : sK σ a = 13) (hr1 : R'.frames + 1 ≤ R.frames) (hr2 : 8 + (3 + 11) + R'.locals ≤ R.locals) (hb1 : k + R'.cells ≤ R.cells) (hb2 : n + R'.slots ≤ R.slots) (hst : (st.map catP).sum ≤ 8) (kk : ∀ x σ', Q x σ' → Aw Ω M_Law_law R F (k + R'.cells) (n + R'.slots) 832 L (xl x :: st) σ') (kx : ∀ E σ', QX' E σ' → Ax Ω M_Law_law R F (k + R'.cells) (n + R'.slots) 829 L st σ' E) : Aw Ω M_Law_law R F k n 829 L (xi x1 :: xi x0 :: xr (some a) :: st) σ :=
  Aw.callV (As := [xi x0, xi x1]) (stk := xi x1 :: xi x0 :: xr (some a) :: st) (nn := 2) 12 M_Mdl_lineOf hc ok_Mdl_lineOf rfl (by decide) rfl hk ml_Law_181 im_Mdl_lineOf se_Mdl_lineOf ⟨hr1, hr2⟩ rfl ⟨hb1, hb2⟩ hst rfl d_Law_law_829 (fun r σ' h => by obtain ⟨x, rfl, h⟩ := h; exact kk x σ' h) kx
theorem c_Law_law_835 {Ω : Om} {R R' : Room} {F : QF} {k n : Nat} {L st : List PV} {σ : Sto} {QX' : String → Sto → Prop} {Q : Int → Sto → Prop} {a : Nat} (hc : MC Ω M_Mdl_thrown R' (RI Q) QX' σ [xr (some a)]) (hk : sK σ a = 13) (hr1 : R'.frames + 1 ≤ R.frames) (hr2 : 8 + (1 + 11) + R'.locals ≤ R.locals) (hb1 : k + R'.cells ≤ R.cells) (hb2 : n + R'.slots ≤ R.slots) (hst : (st.map catP).sum ≤ 8) (kk : ∀ x σ', Q x σ' → Aw Ω M_Law_law R F (k + R'.cells) (n + R'.slots) 838 L (xi x :: st) σ') (kx : ∀ E σ', QX' E σ' → Ax Ω M_Law_law R F (k + R'.cells) (n + R'.slots) 835 L st σ' E) : Aw Ω M_Law_law R F k n 835 L (xr (some a) :: st) σ :=
  Aw.callV (As := []) (stk := xr (some a) :: st) (nn := 0) 12 M_Mdl_thrown hc ok_Mdl_thrown rfl (by decide) rfl hk ml_Law_138 im_Mdl_thrown se_Mdl_thrown ⟨hr1, hr2⟩ rfl ⟨hb1, hb2⟩ hst rfl d_Law_law_835 (fun r σ' h => by obtain ⟨x, rfl, h⟩ := h; exact kk x σ' h) kx
theorem r_Law_law_844 {Ω : Om} {R : Room} {k n : Nat} {L : List PV} {σ : Sto} {QR : Option PV → Sto → Prop} {QX : String → Sto → Prop} {x : Int} (hx : x = 0 ∨ x = 1) (h : QR (some (xi x)) σ) (h1 : k ≤ R.cells) (h2 : n ≤ R.slots) : Aw Ω M_Law_law R (MF Ω R QR QX) k n 844 L [xi x] σ := Aw.zret rfl hx h h1 h2 d_Law_law_844
theorem r_Law_law_860 {Ω : Om} {R : Room} {k n : Nat} {L : List PV} {σ : Sto} {QR : Option PV → Sto → Prop} {QX : String → Sto → Prop} {x : Int} (hx : x = 0 ∨ x = 1) (h : QR (some (xi x)) σ) (h1 : k ≤ R.cells) (h2 : n ≤ R.slots) : Aw Ω M_Law_law R (MF Ω R QR QX) k n 860 L [xi x] σ := Aw.zret rfl hx h h1 h2 d_Law_law_860
theorem c_Law_law_878 {Ω : Om} {R R' : Room} {F : QF} {k n : Nat} {L st : List PV} {σ : Sto} {QX' : String → Sto → Prop} {Q : Int → Sto → Prop} {x0 : Option Nat} {x1 : Int} {x2 : Int} {x3 : Option Nat} (hc : MC Ω M_Law_lineAnew R' (RI Q) QX' σ [xr x0, xi x1, xi x2, xr x3]) (hr1 : R'.frames + 1 ≤ R.frames) (hr2 : 8 + (5 + 11) + R'.locals ≤ R.locals) (hb1 : k + R'.cells ≤ R.cells) (hb2 : n + R'.slots ≤ R.slots) (hst : (st.map catP).sum ≤ 8) (kk : ∀ x σ', Q x σ' → Aw Ω M_Law_law R F (k + R'.cells) (n + R'.slots) 881 L (xi x :: st) σ') (kx : ∀ E σ', QX' E σ' → Ax Ω M_Law_law R F (k + R'.cells) (n + R'.slots) 878 L st σ' E) : Aw Ω M_Law_law R F k n 878 L (xr x3 :: xi x2 :: xi x1 :: xr x0 :: st) σ :=
  Aw.callSX (As := [xr x0, xi x1, xi x2, xr x3]) (stk := xr x3 :: xi x2 :: xi x1 :: xr x0 :: st) (nn := 4) M_Law_lineAnew hc ok_Law_lineAnew (by decide) ml_Law_182 sta_Law_lineAnew ⟨hr1, hr2⟩ rfl ⟨hb1, hb2⟩ hst rfl d_Law_law_878 (fun r σ' h => by obtain ⟨x, rfl, h⟩ := h; exact kk x σ' h) kx
theorem c_Law_law_896 {Ω : Om} {R R' : Room} {F : QF} {k n : Nat} {L st : List PV} {σ : Sto} {QX' : String → Sto → Prop} {Q : Int64 → Sto → Prop} {a : Nat} {x0 : Int} {x1 : Int} (hc : MC Ω M_Mdl_lineAnew R' (RL Q) QX' σ [xr (some a), xi x0, xi x1]) (hk : sK σ a = 13) (hr1 : R'.frames + 1 ≤ R.frames) (hr2 : 8 + (3 + 11) + R'.locals ≤ R.locals) (hb1 : k + R'.cells ≤ R.cells) (hb2 : n + R'.slots ≤ R.slots) (hst : (st.map catP).sum ≤ 8) (kk : ∀ x σ', Q x σ' → Aw Ω M_Law_law R F (k + R'.cells) (n + R'.slots) 899 L (xl x :: st) σ') (kx : ∀ E σ', QX' E σ' → Ax Ω M_Law_law R F (k + R'.cells) (n + R'.slots) 896 L st σ' E) : Aw Ω M_Law_law R F k n 896 L (xi x1 :: xi x0 :: xr (some a) :: st) σ :=
  Aw.callV (As := [xi x0, xi x1]) (stk := xi x1 :: xi x0 :: xr (some a) :: st) (nn := 2) 12 M_Mdl_lineAnew hc ok_Mdl_lineAnew rfl (by decide) rfl hk ml_Law_184 im_Mdl_lineAnew se_Mdl_lineAnew ⟨hr1, hr2⟩ rfl ⟨hb1, hb2⟩ hst rfl d_Law_law_896 (fun r σ' h => by obtain ⟨x, rfl, h⟩ := h; exact kk x σ' h) kx
theorem c_Law_law_902 {Ω : Om} {R R' : Room} {F : QF} {k n : Nat} {L st : List PV} {σ : Sto} {QX' : String → Sto → Prop} {Q : Int → Sto → Prop} {a : Nat} (hc : MC Ω M_Mdl_thrown R' (RI Q) QX' σ [xr (some a)]) (hk : sK σ a = 13) (hr1 : R'.frames + 1 ≤ R.frames) (hr2 : 8 + (1 + 11) + R'.locals ≤ R.locals) (hb1 : k + R'.cells ≤ R.cells) (hb2 : n + R'.slots ≤ R.slots) (hst : (st.map catP).sum ≤ 8) (kk : ∀ x σ', Q x σ' → Aw Ω M_Law_law R F (k + R'.cells) (n + R'.slots) 905 L (xi x :: st) σ') (kx : ∀ E σ', QX' E σ' → Ax Ω M_Law_law R F (k + R'.cells) (n + R'.slots) 902 L st σ' E) : Aw Ω M_Law_law R F k n 902 L (xr (some a) :: st) σ :=
  Aw.callV (As := []) (stk := xr (some a) :: st) (nn := 0) 12 M_Mdl_thrown hc ok_Mdl_thrown rfl (by decide) rfl hk ml_Law_138 im_Mdl_thrown se_Mdl_thrown ⟨hr1, hr2⟩ rfl ⟨hb1, hb2⟩ hst rfl d_Law_law_902 (fun r σ' h => by obtain ⟨x, rfl, h⟩ := h; exact kk x σ' h) kx
theorem r_Law_law_911 {Ω : Om} {R : Room} {k n : Nat} {L : List PV} {σ : Sto} {QR : Option PV → Sto → Prop} {QX : String → Sto → Prop} {x : Int} (hx : x = 0 ∨ x = 1) (h : QR (some (xi x)) σ) (h1 : k ≤ R.cells) (h2 : n ≤ R.slots) : Aw Ω M_Law_law R (MF Ω R QR QX) k n 911 L [xi x] σ := Aw.zret rfl hx h h1 h2 d_Law_law_911
theorem r_Law_law_927 {Ω : Om} {R : Room} {k n : Nat} {L : List PV} {σ : Sto} {QR : Option PV → Sto → Prop} {QX : String → Sto → Prop} {x : Int} (hx : x = 0 ∨ x = 1) (h : QR (some (xi x)) σ) (h1 : k ≤ R.cells) (h2 : n ≤ R.slots) : Aw Ω M_Law_law R (MF Ω R QR QX) k n 927 L [xi x] σ := Aw.zret rfl hx h h1 h2 d_Law_law_927
theorem c_Law_law_945 {Ω : Om} {R R' : Room} {F : QF} {k n : Nat} {L st : List PV} {σ : Sto} {QX' : String → Sto → Prop} {Q : Int → Sto → Prop} {x0 : Option Nat} {x1 : Int} {x2 : Int} {x3 : Option Nat} (hc : MC Ω M_Law_blame R' (RI Q) QX' σ [xr x0, xi x1, xi x2, xr x3]) (hr1 : R'.frames + 1 ≤ R.frames) (hr2 : 8 + (5 + 11) + R'.locals ≤ R.locals) (hb1 : k + R'.cells ≤ R.cells) (hb2 : n + R'.slots ≤ R.slots) (hst : (st.map catP).sum ≤ 8) (kk : ∀ x σ', Q x σ' → Aw Ω M_Law_law R F (k + R'.cells) (n + R'.slots) 948 L (xi x :: st) σ') (kx : ∀ E σ', QX' E σ' → Ax Ω M_Law_law R F (k + R'.cells) (n + R'.slots) 945 L st σ' E) : Aw Ω M_Law_law R F k n 945 L (xr x3 :: xi x2 :: xi x1 :: xr x0 :: st) σ :=
  Aw.callSX (As := [xr x0, xi x1, xi x2, xr x3]) (stk := xr x3 :: xi x2 :: xi x1 :: xr x0 :: st) (nn := 4) M_Law_blame hc ok_Law_blame (by decide) ml_Law_185 sta_Law_blame ⟨hr1, hr2⟩ rfl ⟨hb1, hb2⟩ hst rfl d_Law_law_945 (fun r σ' h => by obtain ⟨x, rfl, h⟩ := h; exact kk x σ' h) kx
theorem c_Law_law_963 {Ω : Om} {R R' : Room} {F : QF} {k n : Nat} {L st : List PV} {σ : Sto} {QX' : String → Sto → Prop} {Q : Int → Sto → Prop} {a : Nat} {x0 : Int} {x1 : Int} (hc : MC Ω M_Mdl_blame R' (RI Q) QX' σ [xr (some a), xi x0, xi x1]) (hk : sK σ a = 13) (hr1 : R'.frames + 1 ≤ R.frames) (hr2 : 8 + (3 + 11) + R'.locals ≤ R.locals) (hb1 : k + R'.cells ≤ R.cells) (hb2 : n + R'.slots ≤ R.slots) (hst : (st.map catP).sum ≤ 8) (kk : ∀ x σ', Q x σ' → Aw Ω M_Law_law R F (k + R'.cells) (n + R'.slots) 966 L (xi x :: st) σ') (kx : ∀ E σ', QX' E σ' → Ax Ω M_Law_law R F (k + R'.cells) (n + R'.slots) 963 L st σ' E) : Aw Ω M_Law_law R F k n 963 L (xi x1 :: xi x0 :: xr (some a) :: st) σ :=
  Aw.callV (As := [xi x0, xi x1]) (stk := xi x1 :: xi x0 :: xr (some a) :: st) (nn := 2) 12 M_Mdl_blame hc ok_Mdl_blame rfl (by decide) rfl hk ml_Law_187 im_Mdl_blame se_Mdl_blame ⟨hr1, hr2⟩ rfl ⟨hb1, hb2⟩ hst rfl d_Law_law_963 (fun r σ' h => by obtain ⟨x, rfl, h⟩ := h; exact kk x σ' h) kx
theorem c_Law_law_969 {Ω : Om} {R R' : Room} {F : QF} {k n : Nat} {L st : List PV} {σ : Sto} {QX' : String → Sto → Prop} {Q : Int → Sto → Prop} {a : Nat} (hc : MC Ω M_Mdl_thrown R' (RI Q) QX' σ [xr (some a)]) (hk : sK σ a = 13) (hr1 : R'.frames + 1 ≤ R.frames) (hr2 : 8 + (1 + 11) + R'.locals ≤ R.locals) (hb1 : k + R'.cells ≤ R.cells) (hb2 : n + R'.slots ≤ R.slots) (hst : (st.map catP).sum ≤ 8) (kk : ∀ x σ', Q x σ' → Aw Ω M_Law_law R F (k + R'.cells) (n + R'.slots) 972 L (xi x :: st) σ') (kx : ∀ E σ', QX' E σ' → Ax Ω M_Law_law R F (k + R'.cells) (n + R'.slots) 969 L st σ' E) : Aw Ω M_Law_law R F k n 969 L (xr (some a) :: st) σ :=
  Aw.callV (As := []) (stk := xr (some a) :: st) (nn := 0) 12 M_Mdl_thrown hc ok_Mdl_thrown rfl (by decide) rfl hk ml_Law_138 im_Mdl_thrown se_Mdl_thrown ⟨hr1, hr2⟩ rfl ⟨hb1, hb2⟩ hst rfl d_Law_law_969 (fun r σ' h => by obtain ⟨x, rfl, h⟩ := h; exact kk x σ' h) kx
theorem r_Law_law_978 {Ω : Om} {R : Room} {k n : Nat} {L : List PV} {σ : Sto} {QR : Option PV → Sto → Prop} {QX : String → Sto → Prop} {x : Int} (hx : x = 0 ∨ x = 1) (h : QR (some (xi x)) σ) (h1 : k ≤ R.cells) (h2 : n ≤ R.slots) : Aw Ω M_Law_law R (MF Ω R QR QX) k n 978 L [xi x] σ := Aw.zret rfl hx h h1 h2 d_Law_law_978
theorem r_Law_law_995 {Ω : Om} {R : Room} {k n : Nat} {L : List PV} {σ : Sto} {QR : Option PV → Sto → Prop} {QX : String → Sto → Prop} {x : Int} (hx : x = 0 ∨ x = 1) (h : QR (some (xi x)) σ) (h1 : k ≤ R.cells) (h2 : n ≤ R.slots) : Aw Ω M_Law_law R (MF Ω R QR QX) k n 995 L [xi x] σ := Aw.zret rfl hx h h1 h2 d_Law_law_995
theorem c_Law_law_1013 {Ω : Om} {R R' : Room} {F : QF} {k n : Nat} {L st : List PV} {σ : Sto} {QX' : String → Sto → Prop} {Q : Int → Sto → Prop} {x0 : Option Nat} {x1 : Int} {x2 : Int} {x3 : Option Nat} (hc : MC Ω M_Law_since R' (RI Q) QX' σ [xr x0, xi x1, xi x2, xr x3]) (hr1 : R'.frames + 1 ≤ R.frames) (hr2 : 8 + (5 + 11) + R'.locals ≤ R.locals) (hb1 : k + R'.cells ≤ R.cells) (hb2 : n + R'.slots ≤ R.slots) (hst : (st.map catP).sum ≤ 8) (kk : ∀ x σ', Q x σ' → Aw Ω M_Law_law R F (k + R'.cells) (n + R'.slots) 1016 L (xi x :: st) σ') (kx : ∀ E σ', QX' E σ' → Ax Ω M_Law_law R F (k + R'.cells) (n + R'.slots) 1013 L st σ' E) : Aw Ω M_Law_law R F k n 1013 L (xr x3 :: xi x2 :: xi x1 :: xr x0 :: st) σ :=
  Aw.callSX (As := [xr x0, xi x1, xi x2, xr x3]) (stk := xr x3 :: xi x2 :: xi x1 :: xr x0 :: st) (nn := 4) M_Law_since hc ok_Law_since (by decide) ml_Law_188 sta_Law_since ⟨hr1, hr2⟩ rfl ⟨hb1, hb2⟩ hst rfl d_Law_law_1013 (fun r σ' h => by obtain ⟨x, rfl, h⟩ := h; exact kk x σ' h) kx
theorem c_Law_law_1031 {Ω : Om} {R R' : Room} {F : QF} {k n : Nat} {L st : List PV} {σ : Sto} {QX' : String → Sto → Prop} {Q : Int → Sto → Prop} {a : Nat} {x0 : Int} {x1 : Int} (hc : MC Ω M_Mdl_since R' (RI Q) QX' σ [xr (some a), xi x0, xi x1]) (hk : sK σ a = 13) (hr1 : R'.frames + 1 ≤ R.frames) (hr2 : 8 + (6 + 11) + R'.locals ≤ R.locals) (hb1 : k + R'.cells ≤ R.cells) (hb2 : n + R'.slots ≤ R.slots) (hst : (st.map catP).sum ≤ 8) (kk : ∀ x σ', Q x σ' → Aw Ω M_Law_law R F (k + R'.cells) (n + R'.slots) 1034 L (xi x :: st) σ') (kx : ∀ E σ', QX' E σ' → Ax Ω M_Law_law R F (k + R'.cells) (n + R'.slots) 1031 L st σ' E) : Aw Ω M_Law_law R F k n 1031 L (xi x1 :: xi x0 :: xr (some a) :: st) σ :=
  Aw.callV (As := [xi x0, xi x1]) (stk := xi x1 :: xi x0 :: xr (some a) :: st) (nn := 2) 12 M_Mdl_since hc ok_Mdl_since rfl (by decide) rfl hk ml_Law_190 im_Mdl_since se_Mdl_since ⟨hr1, hr2⟩ rfl ⟨hb1, hb2⟩ hst rfl d_Law_law_1031 (fun r σ' h => by obtain ⟨x, rfl, h⟩ := h; exact kk x σ' h) kx
theorem c_Law_law_1037 {Ω : Om} {R R' : Room} {F : QF} {k n : Nat} {L st : List PV} {σ : Sto} {QX' : String → Sto → Prop} {Q : Int → Sto → Prop} {a : Nat} (hc : MC Ω M_Mdl_thrown R' (RI Q) QX' σ [xr (some a)]) (hk : sK σ a = 13) (hr1 : R'.frames + 1 ≤ R.frames) (hr2 : 8 + (1 + 11) + R'.locals ≤ R.locals) (hb1 : k + R'.cells ≤ R.cells) (hb2 : n + R'.slots ≤ R.slots) (hst : (st.map catP).sum ≤ 8) (kk : ∀ x σ', Q x σ' → Aw Ω M_Law_law R F (k + R'.cells) (n + R'.slots) 1040 L (xi x :: st) σ') (kx : ∀ E σ', QX' E σ' → Ax Ω M_Law_law R F (k + R'.cells) (n + R'.slots) 1037 L st σ' E) : Aw Ω M_Law_law R F k n 1037 L (xr (some a) :: st) σ :=
  Aw.callV (As := []) (stk := xr (some a) :: st) (nn := 0) 12 M_Mdl_thrown hc ok_Mdl_thrown rfl (by decide) rfl hk ml_Law_138 im_Mdl_thrown se_Mdl_thrown ⟨hr1, hr2⟩ rfl ⟨hb1, hb2⟩ hst rfl d_Law_law_1037 (fun r σ' h => by obtain ⟨x, rfl, h⟩ := h; exact kk x σ' h) kx
theorem r_Law_law_1046 {Ω : Om} {R : Room} {k n : Nat} {L : List PV} {σ : Sto} {QR : Option PV → Sto → Prop} {QX : String → Sto → Prop} {x : Int} (hx : x = 0 ∨ x = 1) (h : QR (some (xi x)) σ) (h1 : k ≤ R.cells) (h2 : n ≤ R.slots) : Aw Ω M_Law_law R (MF Ω R QR QX) k n 1046 L [xi x] σ := Aw.zret rfl hx h h1 h2 d_Law_law_1046
theorem r_Law_law_1063 {Ω : Om} {R : Room} {k n : Nat} {L : List PV} {σ : Sto} {QR : Option PV → Sto → Prop} {QX : String → Sto → Prop} {x : Int} (hx : x = 0 ∨ x = 1) (h : QR (some (xi x)) σ) (h1 : k ≤ R.cells) (h2 : n ≤ R.slots) : Aw Ω M_Law_law R (MF Ω R QR QX) k n 1063 L [xi x] σ := Aw.zret rfl hx h h1 h2 d_Law_law_1063
theorem c_Law_law_1081 {Ω : Om} {R R' : Room} {F : QF} {k n : Nat} {L st : List PV} {σ : Sto} {QX' : String → Sto → Prop} {Q : Int → Sto → Prop} {x0 : Option Nat} {x1 : Int} {x2 : Int} {x3 : Option Nat} (hc : MC Ω M_Law_isAbove R' (RI Q) QX' σ [xr x0, xi x1, xi x2, xr x3]) (hr1 : R'.frames + 1 ≤ R.frames) (hr2 : 8 + (5 + 11) + R'.locals ≤ R.locals) (hb1 : k + R'.cells ≤ R.cells) (hb2 : n + R'.slots ≤ R.slots) (hst : (st.map catP).sum ≤ 8) (kk : ∀ x σ', Q x σ' → Aw Ω M_Law_law R F (k + R'.cells) (n + R'.slots) 1084 L (xi x :: st) σ') (kx : ∀ E σ', QX' E σ' → Ax Ω M_Law_law R F (k + R'.cells) (n + R'.slots) 1081 L st σ' E) : Aw Ω M_Law_law R F k n 1081 L (xr x3 :: xi x2 :: xi x1 :: xr x0 :: st) σ :=
  Aw.callSX (As := [xr x0, xi x1, xi x2, xr x3]) (stk := xr x3 :: xi x2 :: xi x1 :: xr x0 :: st) (nn := 4) M_Law_isAbove hc ok_Law_isAbove (by decide) ml_Law_191 sta_Law_isAbove ⟨hr1, hr2⟩ rfl ⟨hb1, hb2⟩ hst rfl d_Law_law_1081 (fun r σ' h => by obtain ⟨x, rfl, h⟩ := h; exact kk x σ' h) kx
theorem c_Law_law_1099 {Ω : Om} {R R' : Room} {F : QF} {k n : Nat} {L st : List PV} {σ : Sto} {QX' : String → Sto → Prop} {Q : Int → Sto → Prop} {a : Nat} {x0 : Int} {x1 : Int} (hc : MC Ω M_Mdl_isAbove R' (RI Q) QX' σ [xr (some a), xi x0, xi x1]) (hk : sK σ a = 13) (hr1 : R'.frames + 1 ≤ R.frames) (hr2 : 8 + (3 + 11) + R'.locals ≤ R.locals) (hb1 : k + R'.cells ≤ R.cells) (hb2 : n + R'.slots ≤ R.slots) (hst : (st.map catP).sum ≤ 8) (kk : ∀ x σ', Q x σ' → Aw Ω M_Law_law R F (k + R'.cells) (n + R'.slots) 1102 L (xi x :: st) σ') (kx : ∀ E σ', QX' E σ' → Ax Ω M_Law_law R F (k + R'.cells) (n + R'.slots) 1099 L st σ' E) : Aw Ω M_Law_law R F k n 1099 L (xi x1 :: xi x0 :: xr (some a) :: st) σ :=
  Aw.callV (As := [xi x0, xi x1]) (stk := xi x1 :: xi x0 :: xr (some a) :: st) (nn := 2) 12 M_Mdl_isAbove hc ok_Mdl_isAbove rfl (by decide) rfl hk ml_Law_193 im_Mdl_isAbove se_Mdl_isAbove ⟨hr1, hr2⟩ rfl ⟨hb1, hb2⟩ hst rfl d_Law_law_1099 (fun r σ' h => by obtain ⟨x, rfl, h⟩ := h; exact kk x σ' h) kx
theorem c_Law_law_1105 {Ω : Om} {R R' : Room} {F : QF} {k n : Nat} {L st : List PV} {σ : Sto} {QX' : String → Sto → Prop} {Q : Int → Sto → Prop} {a : Nat} (hc : MC Ω M_Mdl_thrown R' (RI Q) QX' σ [xr (some a)]) (hk : sK σ a = 13) (hr1 : R'.frames + 1 ≤ R.frames) (hr2 : 8 + (1 + 11) + R'.locals ≤ R.locals) (hb1 : k + R'.cells ≤ R.cells) (hb2 : n + R'.slots ≤ R.slots) (hst : (st.map catP).sum ≤ 8) (kk : ∀ x σ', Q x σ' → Aw Ω M_Law_law R F (k + R'.cells) (n + R'.slots) 1108 L (xi x :: st) σ') (kx : ∀ E σ', QX' E σ' → Ax Ω M_Law_law R F (k + R'.cells) (n + R'.slots) 1105 L st σ' E) : Aw Ω M_Law_law R F k n 1105 L (xr (some a) :: st) σ :=
  Aw.callV (As := []) (stk := xr (some a) :: st) (nn := 0) 12 M_Mdl_thrown hc ok_Mdl_thrown rfl (by decide) rfl hk ml_Law_138 im_Mdl_thrown se_Mdl_thrown ⟨hr1, hr2⟩ rfl ⟨hb1, hb2⟩ hst rfl d_Law_law_1105 (fun r σ' h => by obtain ⟨x, rfl, h⟩ := h; exact kk x σ' h) kx
theorem r_Law_law_1114 {Ω : Om} {R : Room} {k n : Nat} {L : List PV} {σ : Sto} {QR : Option PV → Sto → Prop} {QX : String → Sto → Prop} {x : Int} (hx : x = 0 ∨ x = 1) (h : QR (some (xi x)) σ) (h1 : k ≤ R.cells) (h2 : n ≤ R.slots) : Aw Ω M_Law_law R (MF Ω R QR QX) k n 1114 L [xi x] σ := Aw.zret rfl hx h h1 h2 d_Law_law_1114
theorem r_Law_law_1138 {Ω : Om} {R : Room} {k n : Nat} {L : List PV} {σ : Sto} {QR : Option PV → Sto → Prop} {QX : String → Sto → Prop} {x : Int} (hx : x = 0 ∨ x = 1) (h : QR (some (xi x)) σ) (h1 : k ≤ R.cells) (h2 : n ≤ R.slots) : Aw Ω M_Law_law R (MF Ω R QR QX) k n 1138 L [xi x] σ := Aw.zret rfl hx h h1 h2 d_Law_law_1138
theorem c_Law_law_1170 {Ω : Om} {R R' : Room} {F : QF} {k n : Nat} {L st : List PV} {σ : Sto} {QX' : String → Sto → Prop} {Q : Int → Sto → Prop} {x0 : Option Nat} {x1 : Int} {x2 : Int} {x3 : Int} {x4 : Option Nat} (hc : MC Ω M_Law_compare R' (RI Q) QX' σ [xr x0, xi x1, xi x2, xi x3, xr x4]) (hr1 : R'.frames + 1 ≤ R.frames) (hr2 : 8 + (6 + 11) + R'.locals ≤ R.locals) (hb1 : k + R'.cells ≤ R.cells) (hb2 : n + R'.slots ≤ R.slots) (hst : (st.map catP).sum ≤ 8) (kk : ∀ x σ', Q x σ' → Aw Ω M_Law_law R F (k + R'.cells) (n + R'.slots) 1173 L (xi x :: st) σ') (kx : ∀ E σ', QX' E σ' → Ax Ω M_Law_law R F (k + R'.cells) (n + R'.slots) 1170 L st σ' E) : Aw Ω M_Law_law R F k n 1170 L (xr x4 :: xi x3 :: xi x2 :: xi x1 :: xr x0 :: st) σ :=
  Aw.callSX (As := [xr x0, xi x1, xi x2, xi x3, xr x4]) (stk := xr x4 :: xi x3 :: xi x2 :: xi x1 :: xr x0 :: st) (nn := 5) M_Law_compare hc ok_Law_compare (by decide) ml_Law_194 sta_Law_compare ⟨hr1, hr2⟩ rfl ⟨hb1, hb2⟩ hst rfl d_Law_law_1170 (fun r σ' h => by obtain ⟨x, rfl, h⟩ := h; exact kk x σ' h) kx
theorem c_Law_law_1202 {Ω : Om} {R R' : Room} {F : QF} {k n : Nat} {L st : List PV} {σ : Sto} {QX' : String → Sto → Prop} {Q : Int → Sto → Prop} {a : Nat} {x0 : Int} {x1 : Int} {x2 : Int} (hc : MC Ω M_Mdl_compare R' (RI Q) QX' σ [xr (some a), xi x0, xi x1, xi x2]) (hk : sK σ a = 13) (hr1 : R'.frames + 1 ≤ R.frames) (hr2 : 8 + (6 + 11) + R'.locals ≤ R.locals) (hb1 : k + R'.cells ≤ R.cells) (hb2 : n + R'.slots ≤ R.slots) (hst : (st.map catP).sum ≤ 8) (kk : ∀ x σ', Q x σ' → Aw Ω M_Law_law R F (k + R'.cells) (n + R'.slots) 1205 L (xi x :: st) σ') (kx : ∀ E σ', QX' E σ' → Ax Ω M_Law_law R F (k + R'.cells) (n + R'.slots) 1202 L st σ' E) : Aw Ω M_Law_law R F k n 1202 L (xi x2 :: xi x1 :: xi x0 :: xr (some a) :: st) σ :=
  Aw.callV (As := [xi x0, xi x1, xi x2]) (stk := xi x2 :: xi x1 :: xi x0 :: xr (some a) :: st) (nn := 3) 12 M_Mdl_compare hc ok_Mdl_compare rfl (by decide) rfl hk ml_Law_197 im_Mdl_compare se_Mdl_compare ⟨hr1, hr2⟩ rfl ⟨hb1, hb2⟩ hst rfl d_Law_law_1202 (fun r σ' h => by obtain ⟨x, rfl, h⟩ := h; exact kk x σ' h) kx
theorem c_Law_law_1208 {Ω : Om} {R R' : Room} {F : QF} {k n : Nat} {L st : List PV} {σ : Sto} {QX' : String → Sto → Prop} {Q : Int → Sto → Prop} {a : Nat} (hc : MC Ω M_Mdl_thrown R' (RI Q) QX' σ [xr (some a)]) (hk : sK σ a = 13) (hr1 : R'.frames + 1 ≤ R.frames) (hr2 : 8 + (1 + 11) + R'.locals ≤ R.locals) (hb1 : k + R'.cells ≤ R.cells) (hb2 : n + R'.slots ≤ R.slots) (hst : (st.map catP).sum ≤ 8) (kk : ∀ x σ', Q x σ' → Aw Ω M_Law_law R F (k + R'.cells) (n + R'.slots) 1211 L (xi x :: st) σ') (kx : ∀ E σ', QX' E σ' → Ax Ω M_Law_law R F (k + R'.cells) (n + R'.slots) 1208 L st σ' E) : Aw Ω M_Law_law R F k n 1208 L (xr (some a) :: st) σ :=
  Aw.callV (As := []) (stk := xr (some a) :: st) (nn := 0) 12 M_Mdl_thrown hc ok_Mdl_thrown rfl (by decide) rfl hk ml_Law_138 im_Mdl_thrown se_Mdl_thrown ⟨hr1, hr2⟩ rfl ⟨hb1, hb2⟩ hst rfl d_Law_law_1208 (fun r σ' h => by obtain ⟨x, rfl, h⟩ := h; exact kk x σ' h) kx
theorem r_Law_law_1217 {Ω : Om} {R : Room} {k n : Nat} {L : List PV} {σ : Sto} {QR : Option PV → Sto → Prop} {QX : String → Sto → Prop} {x : Int} (hx : x = 0 ∨ x = 1) (h : QR (some (xi x)) σ) (h1 : k ≤ R.cells) (h2 : n ≤ R.slots) : Aw Ω M_Law_law R (MF Ω R QR QX) k n 1217 L [xi x] σ := Aw.zret rfl hx h h1 h2 d_Law_law_1217
theorem r_Law_law_1234 {Ω : Om} {R : Room} {k n : Nat} {L : List PV} {σ : Sto} {QR : Option PV → Sto → Prop} {QX : String → Sto → Prop} {x : Int} (hx : x = 0 ∨ x = 1) (h : QR (some (xi x)) σ) (h1 : k ≤ R.cells) (h2 : n ≤ R.slots) : Aw Ω M_Law_law R (MF Ω R QR QX) k n 1234 L [xi x] σ := Aw.zret rfl hx h h1 h2 d_Law_law_1234
theorem c_Law_law_1246 {Ω : Om} {R R' : Room} {F : QF} {k n : Nat} {L st : List PV} {σ : Sto} {QX' : String → Sto → Prop} {Q : Int → Sto → Prop} {x0 : Option Nat} {x1 : Int} {x2 : Option Nat} (hc : MC Ω M_Law_pairOf R' (RI Q) QX' σ [xr x0, xi x1, xr x2]) (hr1 : R'.frames + 1 ≤ R.frames) (hr2 : 8 + (4 + 11) + R'.locals ≤ R.locals) (hb1 : k + R'.cells ≤ R.cells) (hb2 : n + R'.slots ≤ R.slots) (hst : (st.map catP).sum ≤ 8) (kk : ∀ x σ', Q x σ' → Aw Ω M_Law_law R F (k + R'.cells) (n + R'.slots) 1249 L (xi x :: st) σ') (kx : ∀ E σ', QX' E σ' → Ax Ω M_Law_law R F (k + R'.cells) (n + R'.slots) 1246 L st σ' E) : Aw Ω M_Law_law R F k n 1246 L (xr x2 :: xi x1 :: xr x0 :: st) σ :=
  Aw.callSX (As := [xr x0, xi x1, xr x2]) (stk := xr x2 :: xi x1 :: xr x0 :: st) (nn := 3) M_Law_pairOf hc ok_Law_pairOf (by decide) ml_Law_198 sta_Law_pairOf ⟨hr1, hr2⟩ rfl ⟨hb1, hb2⟩ hst rfl d_Law_law_1246 (fun r σ' h => by obtain ⟨x, rfl, h⟩ := h; exact kk x σ' h) kx
theorem c_Law_law_1258 {Ω : Om} {R R' : Room} {F : QF} {k n : Nat} {L st : List PV} {σ : Sto} {QX' : String → Sto → Prop} {Q : Int → Sto → Prop} {a : Nat} {x0 : Int} (hc : MC Ω M_Mdl_pairOf R' (RI Q) QX' σ [xr (some a), xi x0]) (hk : sK σ a = 13) (hr1 : R'.frames + 1 ≤ R.frames) (hr2 : 8 + (2 + 11) + R'.locals ≤ R.locals) (hb1 : k + R'.cells ≤ R.cells) (hb2 : n + R'.slots ≤ R.slots) (hst : (st.map catP).sum ≤ 8) (kk : ∀ x σ', Q x σ' → Aw Ω M_Law_law R F (k + R'.cells) (n + R'.slots) 1261 L (xi x :: st) σ') (kx : ∀ E σ', QX' E σ' → Ax Ω M_Law_law R F (k + R'.cells) (n + R'.slots) 1258 L st σ' E) : Aw Ω M_Law_law R F k n 1258 L (xi x0 :: xr (some a) :: st) σ :=
  Aw.callV (As := [xi x0]) (stk := xi x0 :: xr (some a) :: st) (nn := 1) 12 M_Mdl_pairOf hc ok_Mdl_pairOf rfl (by decide) rfl hk ml_Law_200 im_Mdl_pairOf se_Mdl_pairOf ⟨hr1, hr2⟩ rfl ⟨hb1, hb2⟩ hst rfl d_Law_law_1258 (fun r σ' h => by obtain ⟨x, rfl, h⟩ := h; exact kk x σ' h) kx
theorem c_Law_law_1264 {Ω : Om} {R R' : Room} {F : QF} {k n : Nat} {L st : List PV} {σ : Sto} {QX' : String → Sto → Prop} {Q : Int → Sto → Prop} {a : Nat} (hc : MC Ω M_Mdl_thrown R' (RI Q) QX' σ [xr (some a)]) (hk : sK σ a = 13) (hr1 : R'.frames + 1 ≤ R.frames) (hr2 : 8 + (1 + 11) + R'.locals ≤ R.locals) (hb1 : k + R'.cells ≤ R.cells) (hb2 : n + R'.slots ≤ R.slots) (hst : (st.map catP).sum ≤ 8) (kk : ∀ x σ', Q x σ' → Aw Ω M_Law_law R F (k + R'.cells) (n + R'.slots) 1267 L (xi x :: st) σ') (kx : ∀ E σ', QX' E σ' → Ax Ω M_Law_law R F (k + R'.cells) (n + R'.slots) 1264 L st σ' E) : Aw Ω M_Law_law R F k n 1264 L (xr (some a) :: st) σ :=
  Aw.callV (As := []) (stk := xr (some a) :: st) (nn := 0) 12 M_Mdl_thrown hc ok_Mdl_thrown rfl (by decide) rfl hk ml_Law_138 im_Mdl_thrown se_Mdl_thrown ⟨hr1, hr2⟩ rfl ⟨hb1, hb2⟩ hst rfl d_Law_law_1264 (fun r σ' h => by obtain ⟨x, rfl, h⟩ := h; exact kk x σ' h) kx
theorem r_Law_law_1273 {Ω : Om} {R : Room} {k n : Nat} {L : List PV} {σ : Sto} {QR : Option PV → Sto → Prop} {QX : String → Sto → Prop} {x : Int} (hx : x = 0 ∨ x = 1) (h : QR (some (xi x)) σ) (h1 : k ≤ R.cells) (h2 : n ≤ R.slots) : Aw Ω M_Law_law R (MF Ω R QR QX) k n 1273 L [xi x] σ := Aw.zret rfl hx h h1 h2 d_Law_law_1273
theorem r_Law_law_1290 {Ω : Om} {R : Room} {k n : Nat} {L : List PV} {σ : Sto} {QR : Option PV → Sto → Prop} {QX : String → Sto → Prop} {x : Int} (hx : x = 0 ∨ x = 1) (h : QR (some (xi x)) σ) (h1 : k ≤ R.cells) (h2 : n ≤ R.slots) : Aw Ω M_Law_law R (MF Ω R QR QX) k n 1290 L [xi x] σ := Aw.zret rfl hx h h1 h2 d_Law_law_1290
theorem c_Law_law_1302 {Ω : Om} {R R' : Room} {F : QF} {k n : Nat} {L st : List PV} {σ : Sto} {QX' : String → Sto → Prop} {Q : Int → Sto → Prop} {x0 : Option Nat} {x1 : Int} {x2 : Option Nat} (hc : MC Ω M_Law_movedTo R' (RI Q) QX' σ [xr x0, xi x1, xr x2]) (hr1 : R'.frames + 1 ≤ R.frames) (hr2 : 8 + (4 + 11) + R'.locals ≤ R.locals) (hb1 : k + R'.cells ≤ R.cells) (hb2 : n + R'.slots ≤ R.slots) (hst : (st.map catP).sum ≤ 8) (kk : ∀ x σ', Q x σ' → Aw Ω M_Law_law R F (k + R'.cells) (n + R'.slots) 1305 L (xi x :: st) σ') (kx : ∀ E σ', QX' E σ' → Ax Ω M_Law_law R F (k + R'.cells) (n + R'.slots) 1302 L st σ' E) : Aw Ω M_Law_law R F k n 1302 L (xr x2 :: xi x1 :: xr x0 :: st) σ :=
  Aw.callSX (As := [xr x0, xi x1, xr x2]) (stk := xr x2 :: xi x1 :: xr x0 :: st) (nn := 3) M_Law_movedTo hc ok_Law_movedTo (by decide) ml_Law_201 sta_Law_movedTo ⟨hr1, hr2⟩ rfl ⟨hb1, hb2⟩ hst rfl d_Law_law_1302 (fun r σ' h => by obtain ⟨x, rfl, h⟩ := h; exact kk x σ' h) kx
theorem c_Law_law_1314 {Ω : Om} {R R' : Room} {F : QF} {k n : Nat} {L st : List PV} {σ : Sto} {QX' : String → Sto → Prop} {Q : Int → Sto → Prop} {a : Nat} {x0 : Int} (hc : MC Ω M_Mdl_movedTo R' (RI Q) QX' σ [xr (some a), xi x0]) (hk : sK σ a = 13) (hr1 : R'.frames + 1 ≤ R.frames) (hr2 : 8 + (2 + 11) + R'.locals ≤ R.locals) (hb1 : k + R'.cells ≤ R.cells) (hb2 : n + R'.slots ≤ R.slots) (hst : (st.map catP).sum ≤ 8) (kk : ∀ x σ', Q x σ' → Aw Ω M_Law_law R F (k + R'.cells) (n + R'.slots) 1317 L (xi x :: st) σ') (kx : ∀ E σ', QX' E σ' → Ax Ω M_Law_law R F (k + R'.cells) (n + R'.slots) 1314 L st σ' E) : Aw Ω M_Law_law R F k n 1314 L (xi x0 :: xr (some a) :: st) σ :=
  Aw.callV (As := [xi x0]) (stk := xi x0 :: xr (some a) :: st) (nn := 1) 12 M_Mdl_movedTo hc ok_Mdl_movedTo rfl (by decide) rfl hk ml_Law_203 im_Mdl_movedTo se_Mdl_movedTo ⟨hr1, hr2⟩ rfl ⟨hb1, hb2⟩ hst rfl d_Law_law_1314 (fun r σ' h => by obtain ⟨x, rfl, h⟩ := h; exact kk x σ' h) kx
theorem c_Law_law_1320 {Ω : Om} {R R' : Room} {F : QF} {k n : Nat} {L st : List PV} {σ : Sto} {QX' : String → Sto → Prop} {Q : Int → Sto → Prop} {a : Nat} (hc : MC Ω M_Mdl_thrown R' (RI Q) QX' σ [xr (some a)]) (hk : sK σ a = 13) (hr1 : R'.frames + 1 ≤ R.frames) (hr2 : 8 + (1 + 11) + R'.locals ≤ R.locals) (hb1 : k + R'.cells ≤ R.cells) (hb2 : n + R'.slots ≤ R.slots) (hst : (st.map catP).sum ≤ 8) (kk : ∀ x σ', Q x σ' → Aw Ω M_Law_law R F (k + R'.cells) (n + R'.slots) 1323 L (xi x :: st) σ') (kx : ∀ E σ', QX' E σ' → Ax Ω M_Law_law R F (k + R'.cells) (n + R'.slots) 1320 L st σ' E) : Aw Ω M_Law_law R F k n 1320 L (xr (some a) :: st) σ :=
  Aw.callV (As := []) (stk := xr (some a) :: st) (nn := 0) 12 M_Mdl_thrown hc ok_Mdl_thrown rfl (by decide) rfl hk ml_Law_138 im_Mdl_thrown se_Mdl_thrown ⟨hr1, hr2⟩ rfl ⟨hb1, hb2⟩ hst rfl d_Law_law_1320 (fun r σ' h => by obtain ⟨x, rfl, h⟩ := h; exact kk x σ' h) kx
theorem r_Law_law_1329 {Ω : Om} {R : Room} {k n : Nat} {L : List PV} {σ : Sto} {QR : Option PV → Sto → Prop} {QX : String → Sto → Prop} {x : Int} (hx : x = 0 ∨ x = 1) (h : QR (some (xi x)) σ) (h1 : k ≤ R.cells) (h2 : n ≤ R.slots) : Aw Ω M_Law_law R (MF Ω R QR QX) k n 1329 L [xi x] σ := Aw.zret rfl hx h h1 h2 d_Law_law_1329
theorem r_Law_law_1346 {Ω : Om} {R : Room} {k n : Nat} {L : List PV} {σ : Sto} {QR : Option PV → Sto → Prop} {QX : String → Sto → Prop} {x : Int} (hx : x = 0 ∨ x = 1) (h : QR (some (xi x)) σ) (h1 : k ≤ R.cells) (h2 : n ≤ R.slots) : Aw Ω M_Law_law R (MF Ω R QR QX) k n 1346 L [xi x] σ := Aw.zret rfl hx h h1 h2 d_Law_law_1346
theorem c_Law_law_1396 {Ω : Om} {R R' : Room} {F : QF} {k n : Nat} {L st : List PV} {σ : Sto} {QX' : String → Sto → Prop} {Q : Int → Sto → Prop} {x0 : Option Nat} {x1 : Int64} {x2 : Int64} {x3 : Option Nat} (hc : MC Ω M_Law_likeness R' (RI Q) QX' σ [xr x0, xl x1, xl x2, xr x3]) (hr1 : R'.frames + 1 ≤ R.frames) (hr2 : 8 + (7 + 11) + R'.locals ≤ R.locals) (hb1 : k + R'.cells ≤ R.cells) (hb2 : n + R'.slots ≤ R.slots) (hst : (st.map catP).sum ≤ 8) (kk : ∀ x σ', Q x σ' → Aw Ω M_Law_law R F (k + R'.cells) (n + R'.slots) 1399 L (xi x :: st) σ') (kx : ∀ E σ', QX' E σ' → Ax Ω M_Law_law R F (k + R'.cells) (n + R'.slots) 1396 L st σ' E) : Aw Ω M_Law_law R F k n 1396 L (xr x3 :: xl x2 :: xl x1 :: xr x0 :: st) σ :=
  Aw.callSX (As := [xr x0, xl x1, xl x2, xr x3]) (stk := xr x3 :: xl x2 :: xl x1 :: xr x0 :: st) (nn := 4) M_Law_likeness hc ok_Law_likeness (by decide) ml_Law_204 sta_Law_likeness ⟨hr1, hr2⟩ rfl ⟨hb1, hb2⟩ hst rfl d_Law_law_1396 (fun r σ' h => by obtain ⟨x, rfl, h⟩ := h; exact kk x σ' h) kx
theorem c_Law_law_1446 {Ω : Om} {R R' : Room} {F : QF} {k n : Nat} {L st : List PV} {σ : Sto} {QX' : String → Sto → Prop} {Q : Int → Sto → Prop} {a : Nat} {x0 : Int64} {x1 : Int64} (hc : MC Ω M_Mdl_likeness R' (RI Q) QX' σ [xr (some a), xl x0, xl x1]) (hk : sK σ a = 13) (hr1 : R'.frames + 1 ≤ R.frames) (hr2 : 8 + (5 + 11) + R'.locals ≤ R.locals) (hb1 : k + R'.cells ≤ R.cells) (hb2 : n + R'.slots ≤ R.slots) (hst : (st.map catP).sum ≤ 8) (kk : ∀ x σ', Q x σ' → Aw Ω M_Law_law R F (k + R'.cells) (n + R'.slots) 1449 L (xi x :: st) σ') (kx : ∀ E σ', QX' E σ' → Ax Ω M_Law_law R F (k + R'.cells) (n + R'.slots) 1446 L st σ' E) : Aw Ω M_Law_law R F k n 1446 L (xl x1 :: xl x0 :: xr (some a) :: st) σ :=
  Aw.callV (As := [xl x0, xl x1]) (stk := xl x1 :: xl x0 :: xr (some a) :: st) (nn := 2) 12 M_Mdl_likeness hc ok_Mdl_likeness rfl (by decide) rfl hk ml_Law_207 im_Mdl_likeness se_Mdl_likeness ⟨hr1, hr2⟩ rfl ⟨hb1, hb2⟩ hst rfl d_Law_law_1446 (fun r σ' h => by obtain ⟨x, rfl, h⟩ := h; exact kk x σ' h) kx
theorem c_Law_law_1452 {Ω : Om} {R R' : Room} {F : QF} {k n : Nat} {L st : List PV} {σ : Sto} {QX' : String → Sto → Prop} {Q : Int → Sto → Prop} {a : Nat} (hc : MC Ω M_Mdl_thrown R' (RI Q) QX' σ [xr (some a)]) (hk : sK σ a = 13) (hr1 : R'.frames + 1 ≤ R.frames) (hr2 : 8 + (1 + 11) + R'.locals ≤ R.locals) (hb1 : k + R'.cells ≤ R.cells) (hb2 : n + R'.slots ≤ R.slots) (hst : (st.map catP).sum ≤ 8) (kk : ∀ x σ', Q x σ' → Aw Ω M_Law_law R F (k + R'.cells) (n + R'.slots) 1455 L (xi x :: st) σ') (kx : ∀ E σ', QX' E σ' → Ax Ω M_Law_law R F (k + R'.cells) (n + R'.slots) 1452 L st σ' E) : Aw Ω M_Law_law R F k n 1452 L (xr (some a) :: st) σ :=
  Aw.callV (As := []) (stk := xr (some a) :: st) (nn := 0) 12 M_Mdl_thrown hc ok_Mdl_thrown rfl (by decide) rfl hk ml_Law_138 im_Mdl_thrown se_Mdl_thrown ⟨hr1, hr2⟩ rfl ⟨hb1, hb2⟩ hst rfl d_Law_law_1452 (fun r σ' h => by obtain ⟨x, rfl, h⟩ := h; exact kk x σ' h) kx
theorem r_Law_law_1461 {Ω : Om} {R : Room} {k n : Nat} {L : List PV} {σ : Sto} {QR : Option PV → Sto → Prop} {QX : String → Sto → Prop} {x : Int} (hx : x = 0 ∨ x = 1) (h : QR (some (xi x)) σ) (h1 : k ≤ R.cells) (h2 : n ≤ R.slots) : Aw Ω M_Law_law R (MF Ω R QR QX) k n 1461 L [xi x] σ := Aw.zret rfl hx h h1 h2 d_Law_law_1461
theorem r_Law_law_1478 {Ω : Om} {R : Room} {k n : Nat} {L : List PV} {σ : Sto} {QR : Option PV → Sto → Prop} {QX : String → Sto → Prop} {x : Int} (hx : x = 0 ∨ x = 1) (h : QR (some (xi x)) σ) (h1 : k ≤ R.cells) (h2 : n ≤ R.slots) : Aw Ω M_Law_law R (MF Ω R QR QX) k n 1478 L [xi x] σ := Aw.zret rfl hx h h1 h2 d_Law_law_1478
theorem c_Law_law_1496 {Ω : Om} {R R' : Room} {F : QF} {k n : Nat} {L st : List PV} {σ : Sto} {QX' : String → Sto → Prop} {Q : Int → Sto → Prop} {x0 : Option Nat} {x1 : Int} {x2 : Int} {x3 : Option Nat} (hc : MC Ω M_Law_treeCost R' (RI Q) QX' σ [xr x0, xi x1, xi x2, xr x3]) (hr1 : R'.frames + 1 ≤ R.frames) (hr2 : 8 + (5 + 11) + R'.locals ≤ R.locals) (hb1 : k + R'.cells ≤ R.cells) (hb2 : n + R'.slots ≤ R.slots) (hst : (st.map catP).sum ≤ 8) (kk : ∀ x σ', Q x σ' → Aw Ω M_Law_law R F (k + R'.cells) (n + R'.slots) 1499 L (xi x :: st) σ') (kx : ∀ E σ', QX' E σ' → Ax Ω M_Law_law R F (k + R'.cells) (n + R'.slots) 1496 L st σ' E) : Aw Ω M_Law_law R F k n 1496 L (xr x3 :: xi x2 :: xi x1 :: xr x0 :: st) σ :=
  Aw.callSX (As := [xr x0, xi x1, xi x2, xr x3]) (stk := xr x3 :: xi x2 :: xi x1 :: xr x0 :: st) (nn := 4) M_Law_treeCost hc ok_Law_treeCost (by decide) ml_Law_208 sta_Law_treeCost ⟨hr1, hr2⟩ rfl ⟨hb1, hb2⟩ hst rfl d_Law_law_1496 (fun r σ' h => by obtain ⟨x, rfl, h⟩ := h; exact kk x σ' h) kx
theorem c_Law_law_1514 {Ω : Om} {R R' : Room} {F : QF} {k n : Nat} {L st : List PV} {σ : Sto} {QX' : String → Sto → Prop} {Q : Int → Sto → Prop} {a : Nat} {x0 : Int} {x1 : Int} (hc : MC Ω M_Mdl_treeCost R' (RI Q) QX' σ [xr (some a), xi x0, xi x1]) (hk : sK σ a = 13) (hr1 : R'.frames + 1 ≤ R.frames) (hr2 : 8 + (7 + 11) + R'.locals ≤ R.locals) (hb1 : k + R'.cells ≤ R.cells) (hb2 : n + R'.slots ≤ R.slots) (hst : (st.map catP).sum ≤ 8) (kk : ∀ x σ', Q x σ' → Aw Ω M_Law_law R F (k + R'.cells) (n + R'.slots) 1517 L (xi x :: st) σ') (kx : ∀ E σ', QX' E σ' → Ax Ω M_Law_law R F (k + R'.cells) (n + R'.slots) 1514 L st σ' E) : Aw Ω M_Law_law R F k n 1514 L (xi x1 :: xi x0 :: xr (some a) :: st) σ :=
  Aw.callV (As := [xi x0, xi x1]) (stk := xi x1 :: xi x0 :: xr (some a) :: st) (nn := 2) 12 M_Mdl_treeCost hc ok_Mdl_treeCost rfl (by decide) rfl hk ml_Law_210 im_Mdl_treeCost se_Mdl_treeCost ⟨hr1, hr2⟩ rfl ⟨hb1, hb2⟩ hst rfl d_Law_law_1514 (fun r σ' h => by obtain ⟨x, rfl, h⟩ := h; exact kk x σ' h) kx
theorem c_Law_law_1520 {Ω : Om} {R R' : Room} {F : QF} {k n : Nat} {L st : List PV} {σ : Sto} {QX' : String → Sto → Prop} {Q : Int → Sto → Prop} {a : Nat} (hc : MC Ω M_Mdl_thrown R' (RI Q) QX' σ [xr (some a)]) (hk : sK σ a = 13) (hr1 : R'.frames + 1 ≤ R.frames) (hr2 : 8 + (1 + 11) + R'.locals ≤ R.locals) (hb1 : k + R'.cells ≤ R.cells) (hb2 : n + R'.slots ≤ R.slots) (hst : (st.map catP).sum ≤ 8) (kk : ∀ x σ', Q x σ' → Aw Ω M_Law_law R F (k + R'.cells) (n + R'.slots) 1523 L (xi x :: st) σ') (kx : ∀ E σ', QX' E σ' → Ax Ω M_Law_law R F (k + R'.cells) (n + R'.slots) 1520 L st σ' E) : Aw Ω M_Law_law R F k n 1520 L (xr (some a) :: st) σ :=
  Aw.callV (As := []) (stk := xr (some a) :: st) (nn := 0) 12 M_Mdl_thrown hc ok_Mdl_thrown rfl (by decide) rfl hk ml_Law_138 im_Mdl_thrown se_Mdl_thrown ⟨hr1, hr2⟩ rfl ⟨hb1, hb2⟩ hst rfl d_Law_law_1520 (fun r σ' h => by obtain ⟨x, rfl, h⟩ := h; exact kk x σ' h) kx
theorem r_Law_law_1529 {Ω : Om} {R : Room} {k n : Nat} {L : List PV} {σ : Sto} {QR : Option PV → Sto → Prop} {QX : String → Sto → Prop} {x : Int} (hx : x = 0 ∨ x = 1) (h : QR (some (xi x)) σ) (h1 : k ≤ R.cells) (h2 : n ≤ R.slots) : Aw Ω M_Law_law R (MF Ω R QR QX) k n 1529 L [xi x] σ := Aw.zret rfl hx h h1 h2 d_Law_law_1529
theorem r_Law_law_1546 {Ω : Om} {R : Room} {k n : Nat} {L : List PV} {σ : Sto} {QR : Option PV → Sto → Prop} {QX : String → Sto → Prop} {x : Int} (hx : x = 0 ∨ x = 1) (h : QR (some (xi x)) σ) (h1 : k ≤ R.cells) (h2 : n ≤ R.slots) : Aw Ω M_Law_law R (MF Ω R QR QX) k n 1546 L [xi x] σ := Aw.zret rfl hx h h1 h2 d_Law_law_1546
theorem c_Law_law_1564 {Ω : Om} {R R' : Room} {F : QF} {k n : Nat} {L st : List PV} {σ : Sto} {QX' : String → Sto → Prop} {Q : Int → Sto → Prop} {x0 : Option Nat} {x1 : Int} {x2 : Int} {x3 : Option Nat} (hc : MC Ω M_Law_base R' (RI Q) QX' σ [xr x0, xi x1, xi x2, xr x3]) (hr1 : R'.frames + 1 ≤ R.frames) (hr2 : 8 + (5 + 11) + R'.locals ≤ R.locals) (hb1 : k + R'.cells ≤ R.cells) (hb2 : n + R'.slots ≤ R.slots) (hst : (st.map catP).sum ≤ 8) (kk : ∀ x σ', Q x σ' → Aw Ω M_Law_law R F (k + R'.cells) (n + R'.slots) 1567 L (xi x :: st) σ') (kx : ∀ E σ', QX' E σ' → Ax Ω M_Law_law R F (k + R'.cells) (n + R'.slots) 1564 L st σ' E) : Aw Ω M_Law_law R F k n 1564 L (xr x3 :: xi x2 :: xi x1 :: xr x0 :: st) σ :=
  Aw.callSX (As := [xr x0, xi x1, xi x2, xr x3]) (stk := xr x3 :: xi x2 :: xi x1 :: xr x0 :: st) (nn := 4) M_Law_base hc ok_Law_base (by decide) ml_Law_211 sta_Law_base ⟨hr1, hr2⟩ rfl ⟨hb1, hb2⟩ hst rfl d_Law_law_1564 (fun r σ' h => by obtain ⟨x, rfl, h⟩ := h; exact kk x σ' h) kx
theorem c_Law_law_1582 {Ω : Om} {R R' : Room} {F : QF} {k n : Nat} {L st : List PV} {σ : Sto} {QX' : String → Sto → Prop} {Q : Int → Sto → Prop} {a : Nat} {x0 : Int} {x1 : Int} (hc : MC Ω M_Mdl_base R' (RI Q) QX' σ [xr (some a), xi x0, xi x1]) (hk : sK σ a = 13) (hr1 : R'.frames + 1 ≤ R.frames) (hr2 : 8 + (3 + 11) + R'.locals ≤ R.locals) (hb1 : k + R'.cells ≤ R.cells) (hb2 : n + R'.slots ≤ R.slots) (hst : (st.map catP).sum ≤ 8) (kk : ∀ x σ', Q x σ' → Aw Ω M_Law_law R F (k + R'.cells) (n + R'.slots) 1585 L (xi x :: st) σ') (kx : ∀ E σ', QX' E σ' → Ax Ω M_Law_law R F (k + R'.cells) (n + R'.slots) 1582 L st σ' E) : Aw Ω M_Law_law R F k n 1582 L (xi x1 :: xi x0 :: xr (some a) :: st) σ :=
  Aw.callV (As := [xi x0, xi x1]) (stk := xi x1 :: xi x0 :: xr (some a) :: st) (nn := 2) 12 M_Mdl_base hc ok_Mdl_base rfl (by decide) rfl hk ml_Law_213 im_Mdl_base se_Mdl_base ⟨hr1, hr2⟩ rfl ⟨hb1, hb2⟩ hst rfl d_Law_law_1582 (fun r σ' h => by obtain ⟨x, rfl, h⟩ := h; exact kk x σ' h) kx
theorem c_Law_law_1588 {Ω : Om} {R R' : Room} {F : QF} {k n : Nat} {L st : List PV} {σ : Sto} {QX' : String → Sto → Prop} {Q : Int → Sto → Prop} {a : Nat} (hc : MC Ω M_Mdl_thrown R' (RI Q) QX' σ [xr (some a)]) (hk : sK σ a = 13) (hr1 : R'.frames + 1 ≤ R.frames) (hr2 : 8 + (1 + 11) + R'.locals ≤ R.locals) (hb1 : k + R'.cells ≤ R.cells) (hb2 : n + R'.slots ≤ R.slots) (hst : (st.map catP).sum ≤ 8) (kk : ∀ x σ', Q x σ' → Aw Ω M_Law_law R F (k + R'.cells) (n + R'.slots) 1591 L (xi x :: st) σ') (kx : ∀ E σ', QX' E σ' → Ax Ω M_Law_law R F (k + R'.cells) (n + R'.slots) 1588 L st σ' E) : Aw Ω M_Law_law R F k n 1588 L (xr (some a) :: st) σ :=
  Aw.callV (As := []) (stk := xr (some a) :: st) (nn := 0) 12 M_Mdl_thrown hc ok_Mdl_thrown rfl (by decide) rfl hk ml_Law_138 im_Mdl_thrown se_Mdl_thrown ⟨hr1, hr2⟩ rfl ⟨hb1, hb2⟩ hst rfl d_Law_law_1588 (fun r σ' h => by obtain ⟨x, rfl, h⟩ := h; exact kk x σ' h) kx
theorem r_Law_law_1597 {Ω : Om} {R : Room} {k n : Nat} {L : List PV} {σ : Sto} {QR : Option PV → Sto → Prop} {QX : String → Sto → Prop} {x : Int} (hx : x = 0 ∨ x = 1) (h : QR (some (xi x)) σ) (h1 : k ≤ R.cells) (h2 : n ≤ R.slots) : Aw Ω M_Law_law R (MF Ω R QR QX) k n 1597 L [xi x] σ := Aw.zret rfl hx h h1 h2 d_Law_law_1597
theorem r_Law_law_1614 {Ω : Om} {R : Room} {k n : Nat} {L : List PV} {σ : Sto} {QR : Option PV → Sto → Prop} {QX : String → Sto → Prop} {x : Int} (hx : x = 0 ∨ x = 1) (h : QR (some (xi x)) σ) (h1 : k ≤ R.cells) (h2 : n ≤ R.slots) : Aw Ω M_Law_law R (MF Ω R QR QX) k n 1614 L [xi x] σ := Aw.zret rfl hx h h1 h2 d_Law_law_1614
theorem c_Law_law_1638 {Ω : Om} {R R' : Room} {F : QF} {k n : Nat} {L st : List PV} {σ : Sto} {QX' : String → Sto → Prop} {Q : Int → Sto → Prop} {x0 : Option Nat} {x1 : Int} {x2 : Int} {x3 : Int} {x4 : Option Nat} (hc : MC Ω M_Law_merge R' (RI Q) QX' σ [xr x0, xi x1, xi x2, xi x3, xr x4]) (hr1 : R'.frames + 1 ≤ R.frames) (hr2 : 8 + (6 + 11) + R'.locals ≤ R.locals) (hb1 : k + R'.cells ≤ R.cells) (hb2 : n + R'.slots ≤ R.slots) (hst : (st.map catP).sum ≤ 8) (kk : ∀ x σ', Q x σ' → Aw Ω M_Law_law R F (k + R'.cells) (n + R'.slots) 1641 L (xi x :: st) σ') (kx : ∀ E σ', QX' E σ' → Ax Ω M_Law_law R F (k + R'.cells) (n + R'.slots) 1638 L st σ' E) : Aw Ω M_Law_law R F k n 1638 L (xr x4 :: xi x3 :: xi x2 :: xi x1 :: xr x0 :: st) σ :=
  Aw.callSX (As := [xr x0, xi x1, xi x2, xi x3, xr x4]) (stk := xr x4 :: xi x3 :: xi x2 :: xi x1 :: xr x0 :: st) (nn := 5) M_Law_merge hc ok_Law_merge (by decide) ml_Law_214 sta_Law_merge ⟨hr1, hr2⟩ rfl ⟨hb1, hb2⟩ hst rfl d_Law_law_1638 (fun r σ' h => by obtain ⟨x, rfl, h⟩ := h; exact kk x σ' h) kx
theorem c_Law_law_1662 {Ω : Om} {R R' : Room} {F : QF} {k n : Nat} {L st : List PV} {σ : Sto} {QX' : String → Sto → Prop} {Q : Int → Sto → Prop} {a : Nat} {x0 : Int} {x1 : Int} {x2 : Int} (hc : MC Ω M_Mdl_merge R' (RI Q) QX' σ [xr (some a), xi x0, xi x1, xi x2]) (hk : sK σ a = 13) (hr1 : R'.frames + 1 ≤ R.frames) (hr2 : 8 + (7 + 11) + R'.locals ≤ R.locals) (hb1 : k + R'.cells ≤ R.cells) (hb2 : n + R'.slots ≤ R.slots) (hst : (st.map catP).sum ≤ 8) (kk : ∀ x σ', Q x σ' → Aw Ω M_Law_law R F (k + R'.cells) (n + R'.slots) 1665 L (xi x :: st) σ') (kx : ∀ E σ', QX' E σ' → Ax Ω M_Law_law R F (k + R'.cells) (n + R'.slots) 1662 L st σ' E) : Aw Ω M_Law_law R F k n 1662 L (xi x2 :: xi x1 :: xi x0 :: xr (some a) :: st) σ :=
  Aw.callV (As := [xi x0, xi x1, xi x2]) (stk := xi x2 :: xi x1 :: xi x0 :: xr (some a) :: st) (nn := 3) 12 M_Mdl_merge hc ok_Mdl_merge rfl (by decide) rfl hk ml_Law_217 im_Mdl_merge se_Mdl_merge ⟨hr1, hr2⟩ rfl ⟨hb1, hb2⟩ hst rfl d_Law_law_1662 (fun r σ' h => by obtain ⟨x, rfl, h⟩ := h; exact kk x σ' h) kx
theorem c_Law_law_1668 {Ω : Om} {R R' : Room} {F : QF} {k n : Nat} {L st : List PV} {σ : Sto} {QX' : String → Sto → Prop} {Q : Int → Sto → Prop} {a : Nat} (hc : MC Ω M_Mdl_thrown R' (RI Q) QX' σ [xr (some a)]) (hk : sK σ a = 13) (hr1 : R'.frames + 1 ≤ R.frames) (hr2 : 8 + (1 + 11) + R'.locals ≤ R.locals) (hb1 : k + R'.cells ≤ R.cells) (hb2 : n + R'.slots ≤ R.slots) (hst : (st.map catP).sum ≤ 8) (kk : ∀ x σ', Q x σ' → Aw Ω M_Law_law R F (k + R'.cells) (n + R'.slots) 1671 L (xi x :: st) σ') (kx : ∀ E σ', QX' E σ' → Ax Ω M_Law_law R F (k + R'.cells) (n + R'.slots) 1668 L st σ' E) : Aw Ω M_Law_law R F k n 1668 L (xr (some a) :: st) σ :=
  Aw.callV (As := []) (stk := xr (some a) :: st) (nn := 0) 12 M_Mdl_thrown hc ok_Mdl_thrown rfl (by decide) rfl hk ml_Law_138 im_Mdl_thrown se_Mdl_thrown ⟨hr1, hr2⟩ rfl ⟨hb1, hb2⟩ hst rfl d_Law_law_1668 (fun r σ' h => by obtain ⟨x, rfl, h⟩ := h; exact kk x σ' h) kx
theorem r_Law_law_1677 {Ω : Om} {R : Room} {k n : Nat} {L : List PV} {σ : Sto} {QR : Option PV → Sto → Prop} {QX : String → Sto → Prop} {x : Int} (hx : x = 0 ∨ x = 1) (h : QR (some (xi x)) σ) (h1 : k ≤ R.cells) (h2 : n ≤ R.slots) : Aw Ω M_Law_law R (MF Ω R QR QX) k n 1677 L [xi x] σ := Aw.zret rfl hx h h1 h2 d_Law_law_1677
theorem r_Law_law_1694 {Ω : Om} {R : Room} {k n : Nat} {L : List PV} {σ : Sto} {QR : Option PV → Sto → Prop} {QX : String → Sto → Prop} {x : Int} (hx : x = 0 ∨ x = 1) (h : QR (some (xi x)) σ) (h1 : k ≤ R.cells) (h2 : n ≤ R.slots) : Aw Ω M_Law_law R (MF Ω R QR QX) k n 1694 L [xi x] σ := Aw.zret rfl hx h h1 h2 d_Law_law_1694
theorem c_Law_law_1699 {Ω : Om} {R R' : Room} {F : QF} {k n : Nat} {L st : List PV} {σ : Sto} {QX' : String → Sto → Prop} {Q : Int → Sto → Prop} {a : Nat} (hc : MC Ω M_Dw_conflicts R' (RI Q) QX' σ [xr (some a)]) (hk : sK σ a = 1) (hr1 : R'.frames + 1 ≤ R.frames) (hr2 : 8 + (1 + 11) + R'.locals ≤ R.locals) (hb1 : k + R'.cells ≤ R.cells) (hb2 : n + R'.slots ≤ R.slots) (hst : (st.map catP).sum ≤ 8) (kk : ∀ x σ', Q x σ' → Aw Ω M_Law_law R F (k + R'.cells) (n + R'.slots) 1702 L (xi x :: st) σ') (kx : ∀ E σ', QX' E σ' → Ax Ω M_Law_law R F (k + R'.cells) (n + R'.slots) 1699 L st σ' E) : Aw Ω M_Law_law R F k n 1699 L (xr (some a) :: st) σ :=
  Aw.callV (As := []) (stk := xr (some a) :: st) (nn := 0) 0 M_Dw_conflicts hc ok_Dw_conflicts rfl (by decide) rfl hk ml_Law_218 im_Dw_conflicts se_Dw_conflicts ⟨hr1, hr2⟩ rfl ⟨hb1, hb2⟩ hst rfl d_Law_law_1699 (fun r σ' h => by obtain ⟨x, rfl, h⟩ := h; exact kk x σ' h) kx
theorem c_Law_law_1703 {Ω : Om} {R R' : Room} {F : QF} {k n : Nat} {L st : List PV} {σ : Sto} {QX' : String → Sto → Prop} {Q : Int → Sto → Prop} {a : Nat} (hc : MC Ω M_Mdl_conflicts R' (RI Q) QX' σ [xr (some a)]) (hk : sK σ a = 13) (hr1 : R'.frames + 1 ≤ R.frames) (hr2 : 8 + (3 + 11) + R'.locals ≤ R.locals) (hb1 : k + R'.cells ≤ R.cells) (hb2 : n + R'.slots ≤ R.slots) (hst : (st.map catP).sum ≤ 8) (kk : ∀ x σ', Q x σ' → Aw Ω M_Law_law R F (k + R'.cells) (n + R'.slots) 1706 L (xi x :: st) σ') (kx : ∀ E σ', QX' E σ' → Ax Ω M_Law_law R F (k + R'.cells) (n + R'.slots) 1703 L st σ' E) : Aw Ω M_Law_law R F k n 1703 L (xr (some a) :: st) σ :=
  Aw.callV (As := []) (stk := xr (some a) :: st) (nn := 0) 12 M_Mdl_conflicts hc ok_Mdl_conflicts rfl (by decide) rfl hk ml_Law_221 im_Mdl_conflicts se_Mdl_conflicts ⟨hr1, hr2⟩ rfl ⟨hb1, hb2⟩ hst rfl d_Law_law_1703 (fun r σ' h => by obtain ⟨x, rfl, h⟩ := h; exact kk x σ' h) kx
theorem r_Law_law_1710 {Ω : Om} {R : Room} {k n : Nat} {L : List PV} {σ : Sto} {QR : Option PV → Sto → Prop} {QX : String → Sto → Prop} {x : Int} (hx : x = 0 ∨ x = 1) (h : QR (some (xi x)) σ) (h1 : k ≤ R.cells) (h2 : n ≤ R.slots) : Aw Ω M_Law_law R (MF Ω R QR QX) k n 1710 L [xi x] σ := Aw.zret rfl hx h h1 h2 d_Law_law_1710
theorem c_Law_law_1725 {Ω : Om} {R R' : Room} {F : QF} {k n : Nat} {L st : List PV} {σ : Sto} {QX' : String → Sto → Prop} {Q : Int → Sto → Prop} {x0 : Option Nat} {x1 : Int} {x2 : Int} {x3 : Option Nat} (hc : MC Ω M_Law_pieceOf R' (RI Q) QX' σ [xr x0, xi x1, xi x2, xr x3]) (hr1 : R'.frames + 1 ≤ R.frames) (hr2 : 8 + (5 + 11) + R'.locals ≤ R.locals) (hb1 : k + R'.cells ≤ R.cells) (hb2 : n + R'.slots ≤ R.slots) (hst : (st.map catP).sum ≤ 8) (kk : ∀ x σ', Q x σ' → Aw Ω M_Law_law R F (k + R'.cells) (n + R'.slots) 1728 L (xi x :: st) σ') (kx : ∀ E σ', QX' E σ' → Ax Ω M_Law_law R F (k + R'.cells) (n + R'.slots) 1725 L st σ' E) : Aw Ω M_Law_law R F k n 1725 L (xr x3 :: xi x2 :: xi x1 :: xr x0 :: st) σ :=
  Aw.callSX (As := [xr x0, xi x1, xi x2, xr x3]) (stk := xr x3 :: xi x2 :: xi x1 :: xr x0 :: st) (nn := 4) M_Law_pieceOf hc ok_Law_pieceOf (by decide) ml_Law_222 sta_Law_pieceOf ⟨hr1, hr2⟩ rfl ⟨hb1, hb2⟩ hst rfl d_Law_law_1725 (fun r σ' h => by obtain ⟨x, rfl, h⟩ := h; exact kk x σ' h) kx
theorem c_Law_law_1743 {Ω : Om} {R R' : Room} {F : QF} {k n : Nat} {L st : List PV} {σ : Sto} {QX' : String → Sto → Prop} {Q : Int → Sto → Prop} {a : Nat} {x0 : Int} {x1 : Int} (hc : MC Ω M_Mdl_pieceOf R' (RI Q) QX' σ [xr (some a), xi x0, xi x1]) (hk : sK σ a = 13) (hr1 : R'.frames + 1 ≤ R.frames) (hr2 : 8 + (3 + 11) + R'.locals ≤ R.locals) (hb1 : k + R'.cells ≤ R.cells) (hb2 : n + R'.slots ≤ R.slots) (hst : (st.map catP).sum ≤ 8) (kk : ∀ x σ', Q x σ' → Aw Ω M_Law_law R F (k + R'.cells) (n + R'.slots) 1746 L (xi x :: st) σ') (kx : ∀ E σ', QX' E σ' → Ax Ω M_Law_law R F (k + R'.cells) (n + R'.slots) 1743 L st σ' E) : Aw Ω M_Law_law R F k n 1743 L (xi x1 :: xi x0 :: xr (some a) :: st) σ :=
  Aw.callV (As := [xi x0, xi x1]) (stk := xi x1 :: xi x0 :: xr (some a) :: st) (nn := 2) 12 M_Mdl_pieceOf hc ok_Mdl_pieceOf rfl (by decide) rfl hk ml_Law_224 im_Mdl_pieceOf se_Mdl_pieceOf ⟨hr1, hr2⟩ rfl ⟨hb1, hb2⟩ hst rfl d_Law_law_1743 (fun r σ' h => by obtain ⟨x, rfl, h⟩ := h; exact kk x σ' h) kx
theorem c_Law_law_1749 {Ω : Om} {R R' : Room} {F : QF} {k n : Nat} {L st : List PV} {σ : Sto} {QX' : String → Sto → Prop} {Q : Int → Sto → Prop} {a : Nat} (hc : MC Ω M_Mdl_thrown R' (RI Q) QX' σ [xr (some a)]) (hk : sK σ a = 13) (hr1 : R'.frames + 1 ≤ R.frames) (hr2 : 8 + (1 + 11) + R'.locals ≤ R.locals) (hb1 : k + R'.cells ≤ R.cells) (hb2 : n + R'.slots ≤ R.slots) (hst : (st.map catP).sum ≤ 8) (kk : ∀ x σ', Q x σ' → Aw Ω M_Law_law R F (k + R'.cells) (n + R'.slots) 1752 L (xi x :: st) σ') (kx : ∀ E σ', QX' E σ' → Ax Ω M_Law_law R F (k + R'.cells) (n + R'.slots) 1749 L st σ' E) : Aw Ω M_Law_law R F k n 1749 L (xr (some a) :: st) σ :=
  Aw.callV (As := []) (stk := xr (some a) :: st) (nn := 0) 12 M_Mdl_thrown hc ok_Mdl_thrown rfl (by decide) rfl hk ml_Law_138 im_Mdl_thrown se_Mdl_thrown ⟨hr1, hr2⟩ rfl ⟨hb1, hb2⟩ hst rfl d_Law_law_1749 (fun r σ' h => by obtain ⟨x, rfl, h⟩ := h; exact kk x σ' h) kx
theorem r_Law_law_1758 {Ω : Om} {R : Room} {k n : Nat} {L : List PV} {σ : Sto} {QR : Option PV → Sto → Prop} {QX : String → Sto → Prop} {x : Int} (hx : x = 0 ∨ x = 1) (h : QR (some (xi x)) σ) (h1 : k ≤ R.cells) (h2 : n ≤ R.slots) : Aw Ω M_Law_law R (MF Ω R QR QX) k n 1758 L [xi x] σ := Aw.zret rfl hx h h1 h2 d_Law_law_1758
theorem r_Law_law_1775 {Ω : Om} {R : Room} {k n : Nat} {L : List PV} {σ : Sto} {QR : Option PV → Sto → Prop} {QX : String → Sto → Prop} {x : Int} (hx : x = 0 ∨ x = 1) (h : QR (some (xi x)) σ) (h1 : k ≤ R.cells) (h2 : n ≤ R.slots) : Aw Ω M_Law_law R (MF Ω R QR QX) k n 1775 L [xi x] σ := Aw.zret rfl hx h h1 h2 d_Law_law_1775
theorem c_Law_law_1793 {Ω : Om} {R R' : Room} {F : QF} {k n : Nat} {L st : List PV} {σ : Sto} {QX' : String → Sto → Prop} {Q : Int → Sto → Prop} {x0 : Option Nat} {x1 : Int} {x2 : Int} {x3 : Option Nat} (hc : MC Ω M_Law_settle R' (RI Q) QX' σ [xr x0, xi x1, xi x2, xr x3]) (hr1 : R'.frames + 1 ≤ R.frames) (hr2 : 8 + (5 + 11) + R'.locals ≤ R.locals) (hb1 : k + R'.cells ≤ R.cells) (hb2 : n + R'.slots ≤ R.slots) (hst : (st.map catP).sum ≤ 8) (kk : ∀ x σ', Q x σ' → Aw Ω M_Law_law R F (k + R'.cells) (n + R'.slots) 1796 L (xi x :: st) σ') (kx : ∀ E σ', QX' E σ' → Ax Ω M_Law_law R F (k + R'.cells) (n + R'.slots) 1793 L st σ' E) : Aw Ω M_Law_law R F k n 1793 L (xr x3 :: xi x2 :: xi x1 :: xr x0 :: st) σ :=
  Aw.callSX (As := [xr x0, xi x1, xi x2, xr x3]) (stk := xr x3 :: xi x2 :: xi x1 :: xr x0 :: st) (nn := 4) M_Law_settle hc ok_Law_settle (by decide) ml_Law_225 sta_Law_settle ⟨hr1, hr2⟩ rfl ⟨hb1, hb2⟩ hst rfl d_Law_law_1793 (fun r σ' h => by obtain ⟨x, rfl, h⟩ := h; exact kk x σ' h) kx
theorem c_Law_law_1811 {Ω : Om} {R R' : Room} {F : QF} {k n : Nat} {L st : List PV} {σ : Sto} {QX' : String → Sto → Prop} {Q : Int → Sto → Prop} {a : Nat} {x0 : Int} {x1 : Int} (hc : MC Ω M_Mdl_settle R' (RI Q) QX' σ [xr (some a), xi x0, xi x1]) (hk : sK σ a = 13) (hr1 : R'.frames + 1 ≤ R.frames) (hr2 : 8 + (10 + 11) + R'.locals ≤ R.locals) (hb1 : k + R'.cells ≤ R.cells) (hb2 : n + R'.slots ≤ R.slots) (hst : (st.map catP).sum ≤ 8) (kk : ∀ x σ', Q x σ' → Aw Ω M_Law_law R F (k + R'.cells) (n + R'.slots) 1814 L (xi x :: st) σ') (kx : ∀ E σ', QX' E σ' → Ax Ω M_Law_law R F (k + R'.cells) (n + R'.slots) 1811 L st σ' E) : Aw Ω M_Law_law R F k n 1811 L (xi x1 :: xi x0 :: xr (some a) :: st) σ :=
  Aw.callV (As := [xi x0, xi x1]) (stk := xi x1 :: xi x0 :: xr (some a) :: st) (nn := 2) 12 M_Mdl_settle hc ok_Mdl_settle rfl (by decide) rfl hk ml_Law_227 im_Mdl_settle se_Mdl_settle ⟨hr1, hr2⟩ rfl ⟨hb1, hb2⟩ hst rfl d_Law_law_1811 (fun r σ' h => by obtain ⟨x, rfl, h⟩ := h; exact kk x σ' h) kx
theorem c_Law_law_1817 {Ω : Om} {R R' : Room} {F : QF} {k n : Nat} {L st : List PV} {σ : Sto} {QX' : String → Sto → Prop} {Q : Int → Sto → Prop} {a : Nat} (hc : MC Ω M_Mdl_thrown R' (RI Q) QX' σ [xr (some a)]) (hk : sK σ a = 13) (hr1 : R'.frames + 1 ≤ R.frames) (hr2 : 8 + (1 + 11) + R'.locals ≤ R.locals) (hb1 : k + R'.cells ≤ R.cells) (hb2 : n + R'.slots ≤ R.slots) (hst : (st.map catP).sum ≤ 8) (kk : ∀ x σ', Q x σ' → Aw Ω M_Law_law R F (k + R'.cells) (n + R'.slots) 1820 L (xi x :: st) σ') (kx : ∀ E σ', QX' E σ' → Ax Ω M_Law_law R F (k + R'.cells) (n + R'.slots) 1817 L st σ' E) : Aw Ω M_Law_law R F k n 1817 L (xr (some a) :: st) σ :=
  Aw.callV (As := []) (stk := xr (some a) :: st) (nn := 0) 12 M_Mdl_thrown hc ok_Mdl_thrown rfl (by decide) rfl hk ml_Law_138 im_Mdl_thrown se_Mdl_thrown ⟨hr1, hr2⟩ rfl ⟨hb1, hb2⟩ hst rfl d_Law_law_1817 (fun r σ' h => by obtain ⟨x, rfl, h⟩ := h; exact kk x σ' h) kx
theorem r_Law_law_1826 {Ω : Om} {R : Room} {k n : Nat} {L : List PV} {σ : Sto} {QR : Option PV → Sto → Prop} {QX : String → Sto → Prop} {x : Int} (hx : x = 0 ∨ x = 1) (h : QR (some (xi x)) σ) (h1 : k ≤ R.cells) (h2 : n ≤ R.slots) : Aw Ω M_Law_law R (MF Ω R QR QX) k n 1826 L [xi x] σ := Aw.zret rfl hx h h1 h2 d_Law_law_1826
theorem r_Law_law_1843 {Ω : Om} {R : Room} {k n : Nat} {L : List PV} {σ : Sto} {QR : Option PV → Sto → Prop} {QX : String → Sto → Prop} {x : Int} (hx : x = 0 ∨ x = 1) (h : QR (some (xi x)) σ) (h1 : k ≤ R.cells) (h2 : n ≤ R.slots) : Aw Ω M_Law_law R (MF Ω R QR QX) k n 1843 L [xi x] σ := Aw.zret rfl hx h h1 h2 d_Law_law_1843
theorem c_Law_law_1867 {Ω : Om} {R R' : Room} {F : QF} {k n : Nat} {L st : List PV} {σ : Sto} {QX' : String → Sto → Prop} {Q : Int → Sto → Prop} {x0 : Option Nat} {x1 : Int} {x2 : Int} {x3 : Int} {x4 : Option Nat} (hc : MC Ω M_Law_patch R' (RI Q) QX' σ [xr x0, xi x1, xi x2, xi x3, xr x4]) (hr1 : R'.frames + 1 ≤ R.frames) (hr2 : 8 + (6 + 11) + R'.locals ≤ R.locals) (hb1 : k + R'.cells ≤ R.cells) (hb2 : n + R'.slots ≤ R.slots) (hst : (st.map catP).sum ≤ 8) (kk : ∀ x σ', Q x σ' → Aw Ω M_Law_law R F (k + R'.cells) (n + R'.slots) 1870 L (xi x :: st) σ') (kx : ∀ E σ', QX' E σ' → Ax Ω M_Law_law R F (k + R'.cells) (n + R'.slots) 1867 L st σ' E) : Aw Ω M_Law_law R F k n 1867 L (xr x4 :: xi x3 :: xi x2 :: xi x1 :: xr x0 :: st) σ :=
  Aw.callSX (As := [xr x0, xi x1, xi x2, xi x3, xr x4]) (stk := xr x4 :: xi x3 :: xi x2 :: xi x1 :: xr x0 :: st) (nn := 5) M_Law_patch hc ok_Law_patch (by decide) ml_Law_228 sta_Law_patch ⟨hr1, hr2⟩ rfl ⟨hb1, hb2⟩ hst rfl d_Law_law_1867 (fun r σ' h => by obtain ⟨x, rfl, h⟩ := h; exact kk x σ' h) kx
theorem c_Law_law_1891 {Ω : Om} {R R' : Room} {F : QF} {k n : Nat} {L st : List PV} {σ : Sto} {QX' : String → Sto → Prop} {Q : Int → Sto → Prop} {a : Nat} {x0 : Int} {x1 : Int} {x2 : Int} (hc : MC Ω M_Mdl_patch R' (RI Q) QX' σ [xr (some a), xi x0, xi x1, xi x2]) (hk : sK σ a = 13) (hr1 : R'.frames + 1 ≤ R.frames) (hr2 : 8 + (16 + 11) + R'.locals ≤ R.locals) (hb1 : k + R'.cells ≤ R.cells) (hb2 : n + R'.slots ≤ R.slots) (hst : (st.map catP).sum ≤ 8) (kk : ∀ x σ', Q x σ' → Aw Ω M_Law_law R F (k + R'.cells) (n + R'.slots) 1894 L (xi x :: st) σ') (kx : ∀ E σ', QX' E σ' → Ax Ω M_Law_law R F (k + R'.cells) (n + R'.slots) 1891 L st σ' E) : Aw Ω M_Law_law R F k n 1891 L (xi x2 :: xi x1 :: xi x0 :: xr (some a) :: st) σ :=
  Aw.callV (As := [xi x0, xi x1, xi x2]) (stk := xi x2 :: xi x1 :: xi x0 :: xr (some a) :: st) (nn := 3) 12 M_Mdl_patch hc ok_Mdl_patch rfl (by decide) rfl hk ml_Law_230 im_Mdl_patch se_Mdl_patch ⟨hr1, hr2⟩ rfl ⟨hb1, hb2⟩ hst rfl d_Law_law_1891 (fun r σ' h => by obtain ⟨x, rfl, h⟩ := h; exact kk x σ' h) kx
theorem c_Law_law_1897 {Ω : Om} {R R' : Room} {F : QF} {k n : Nat} {L st : List PV} {σ : Sto} {QX' : String → Sto → Prop} {Q : Int → Sto → Prop} {a : Nat} (hc : MC Ω M_Mdl_thrown R' (RI Q) QX' σ [xr (some a)]) (hk : sK σ a = 13) (hr1 : R'.frames + 1 ≤ R.frames) (hr2 : 8 + (1 + 11) + R'.locals ≤ R.locals) (hb1 : k + R'.cells ≤ R.cells) (hb2 : n + R'.slots ≤ R.slots) (hst : (st.map catP).sum ≤ 8) (kk : ∀ x σ', Q x σ' → Aw Ω M_Law_law R F (k + R'.cells) (n + R'.slots) 1900 L (xi x :: st) σ') (kx : ∀ E σ', QX' E σ' → Ax Ω M_Law_law R F (k + R'.cells) (n + R'.slots) 1897 L st σ' E) : Aw Ω M_Law_law R F k n 1897 L (xr (some a) :: st) σ :=
  Aw.callV (As := []) (stk := xr (some a) :: st) (nn := 0) 12 M_Mdl_thrown hc ok_Mdl_thrown rfl (by decide) rfl hk ml_Law_138 im_Mdl_thrown se_Mdl_thrown ⟨hr1, hr2⟩ rfl ⟨hb1, hb2⟩ hst rfl d_Law_law_1897 (fun r σ' h => by obtain ⟨x, rfl, h⟩ := h; exact kk x σ' h) kx
theorem r_Law_law_1906 {Ω : Om} {R : Room} {k n : Nat} {L : List PV} {σ : Sto} {QR : Option PV → Sto → Prop} {QX : String → Sto → Prop} {x : Int} (hx : x = 0 ∨ x = 1) (h : QR (some (xi x)) σ) (h1 : k ≤ R.cells) (h2 : n ≤ R.slots) : Aw Ω M_Law_law R (MF Ω R QR QX) k n 1906 L [xi x] σ := Aw.zret rfl hx h h1 h2 d_Law_law_1906
theorem r_Law_law_1923 {Ω : Om} {R : Room} {k n : Nat} {L : List PV} {σ : Sto} {QR : Option PV → Sto → Prop} {QX : String → Sto → Prop} {x : Int} (hx : x = 0 ∨ x = 1) (h : QR (some (xi x)) σ) (h1 : k ≤ R.cells) (h2 : n ≤ R.slots) : Aw Ω M_Law_law R (MF Ω R QR QX) k n 1923 L [xi x] σ := Aw.zret rfl hx h h1 h2 d_Law_law_1923
theorem c_Law_law_1935 {Ω : Om} {R R' : Room} {F : QF} {k n : Nat} {L st : List PV} {σ : Sto} {QX' : String → Sto → Prop} {Q : Int → Sto → Prop} {x0 : Option Nat} {x1 : Int} {x2 : Option Nat} (hc : MC Ω M_Law_turn R' (RI Q) QX' σ [xr x0, xi x1, xr x2]) (hr1 : R'.frames + 1 ≤ R.frames) (hr2 : 8 + (4 + 11) + R'.locals ≤ R.locals) (hb1 : k + R'.cells ≤ R.cells) (hb2 : n + R'.slots ≤ R.slots) (hst : (st.map catP).sum ≤ 8) (kk : ∀ x σ', Q x σ' → Aw Ω M_Law_law R F (k + R'.cells) (n + R'.slots) 1938 L (xi x :: st) σ') (kx : ∀ E σ', QX' E σ' → Ax Ω M_Law_law R F (k + R'.cells) (n + R'.slots) 1935 L st σ' E) : Aw Ω M_Law_law R F k n 1935 L (xr x2 :: xi x1 :: xr x0 :: st) σ :=
  Aw.callSX (As := [xr x0, xi x1, xr x2]) (stk := xr x2 :: xi x1 :: xr x0 :: st) (nn := 3) M_Law_turn hc ok_Law_turn (by decide) ml_Law_231 sta_Law_turn ⟨hr1, hr2⟩ rfl ⟨hb1, hb2⟩ hst rfl d_Law_law_1935 (fun r σ' h => by obtain ⟨x, rfl, h⟩ := h; exact kk x σ' h) kx
theorem c_Law_law_1947 {Ω : Om} {R R' : Room} {F : QF} {k n : Nat} {L st : List PV} {σ : Sto} {QX' : String → Sto → Prop} {Q : Int → Sto → Prop} {a : Nat} {x0 : Int} (hc : MC Ω M_Mdl_turn R' (RI Q) QX' σ [xr (some a), xi x0]) (hk : sK σ a = 13) (hr1 : R'.frames + 1 ≤ R.frames) (hr2 : 8 + (6 + 11) + R'.locals ≤ R.locals) (hb1 : k + R'.cells ≤ R.cells) (hb2 : n + R'.slots ≤ R.slots) (hst : (st.map catP).sum ≤ 8) (kk : ∀ x σ', Q x σ' → Aw Ω M_Law_law R F (k + R'.cells) (n + R'.slots) 1950 L (xi x :: st) σ') (kx : ∀ E σ', QX' E σ' → Ax Ω M_Law_law R F (k + R'.cells) (n + R'.slots) 1947 L st σ' E) : Aw Ω M_Law_law R F k n 1947 L (xi x0 :: xr (some a) :: st) σ :=
  Aw.callV (As := [xi x0]) (stk := xi x0 :: xr (some a) :: st) (nn := 1) 12 M_Mdl_turn hc ok_Mdl_turn rfl (by decide) rfl hk ml_Law_233 im_Mdl_turn se_Mdl_turn ⟨hr1, hr2⟩ rfl ⟨hb1, hb2⟩ hst rfl d_Law_law_1947 (fun r σ' h => by obtain ⟨x, rfl, h⟩ := h; exact kk x σ' h) kx
theorem c_Law_law_1953 {Ω : Om} {R R' : Room} {F : QF} {k n : Nat} {L st : List PV} {σ : Sto} {QX' : String → Sto → Prop} {Q : Int → Sto → Prop} {a : Nat} (hc : MC Ω M_Mdl_thrown R' (RI Q) QX' σ [xr (some a)]) (hk : sK σ a = 13) (hr1 : R'.frames + 1 ≤ R.frames) (hr2 : 8 + (1 + 11) + R'.locals ≤ R.locals) (hb1 : k + R'.cells ≤ R.cells) (hb2 : n + R'.slots ≤ R.slots) (hst : (st.map catP).sum ≤ 8) (kk : ∀ x σ', Q x σ' → Aw Ω M_Law_law R F (k + R'.cells) (n + R'.slots) 1956 L (xi x :: st) σ') (kx : ∀ E σ', QX' E σ' → Ax Ω M_Law_law R F (k + R'.cells) (n + R'.slots) 1953 L st σ' E) : Aw Ω M_Law_law R F k n 1953 L (xr (some a) :: st) σ :=
  Aw.callV (As := []) (stk := xr (some a) :: st) (nn := 0) 12 M_Mdl_thrown hc ok_Mdl_thrown rfl (by decide) rfl hk ml_Law_138 im_Mdl_thrown se_Mdl_thrown ⟨hr1, hr2⟩ rfl ⟨hb1, hb2⟩ hst rfl d_Law_law_1953 (fun r σ' h => by obtain ⟨x, rfl, h⟩ := h; exact kk x σ' h) kx
theorem r_Law_law_1962 {Ω : Om} {R : Room} {k n : Nat} {L : List PV} {σ : Sto} {QR : Option PV → Sto → Prop} {QX : String → Sto → Prop} {x : Int} (hx : x = 0 ∨ x = 1) (h : QR (some (xi x)) σ) (h1 : k ≤ R.cells) (h2 : n ≤ R.slots) : Aw Ω M_Law_law R (MF Ω R QR QX) k n 1962 L [xi x] σ := Aw.zret rfl hx h h1 h2 d_Law_law_1962
theorem r_Law_law_1979 {Ω : Om} {R : Room} {k n : Nat} {L : List PV} {σ : Sto} {QR : Option PV → Sto → Prop} {QX : String → Sto → Prop} {x : Int} (hx : x = 0 ∨ x = 1) (h : QR (some (xi x)) σ) (h1 : k ≤ R.cells) (h2 : n ≤ R.slots) : Aw Ω M_Law_law R (MF Ω R QR QX) k n 1979 L [xi x] σ := Aw.zret rfl hx h h1 h2 d_Law_law_1979
theorem c_Law_law_2003 {Ω : Om} {R R' : Room} {F : QF} {k n : Nat} {L st : List PV} {σ : Sto} {QX' : String → Sto → Prop} {Q : Int → Sto → Prop} {x0 : Option Nat} {x1 : Int} {x2 : Int} {x3 : Int} {x4 : Option Nat} (hc : MC Ω M_Law_hunk R' (RI Q) QX' σ [xr x0, xi x1, xi x2, xi x3, xr x4]) (hr1 : R'.frames + 1 ≤ R.frames) (hr2 : 8 + (6 + 11) + R'.locals ≤ R.locals) (hb1 : k + R'.cells ≤ R.cells) (hb2 : n + R'.slots ≤ R.slots) (hst : (st.map catP).sum ≤ 8) (kk : ∀ x σ', Q x σ' → Aw Ω M_Law_law R F (k + R'.cells) (n + R'.slots) 2006 L (xi x :: st) σ') (kx : ∀ E σ', QX' E σ' → Ax Ω M_Law_law R F (k + R'.cells) (n + R'.slots) 2003 L st σ' E) : Aw Ω M_Law_law R F k n 2003 L (xr x4 :: xi x3 :: xi x2 :: xi x1 :: xr x0 :: st) σ :=
  Aw.callSX (As := [xr x0, xi x1, xi x2, xi x3, xr x4]) (stk := xr x4 :: xi x3 :: xi x2 :: xi x1 :: xr x0 :: st) (nn := 5) M_Law_hunk hc ok_Law_hunk (by decide) ml_Law_234 sta_Law_hunk ⟨hr1, hr2⟩ rfl ⟨hb1, hb2⟩ hst rfl d_Law_law_2003 (fun r σ' h => by obtain ⟨x, rfl, h⟩ := h; exact kk x σ' h) kx
theorem c_Law_law_2027 {Ω : Om} {R R' : Room} {F : QF} {k n : Nat} {L st : List PV} {σ : Sto} {QX' : String → Sto → Prop} {Q : Int → Sto → Prop} {a : Nat} {x0 : Int} {x1 : Int} {x2 : Int} (hc : MC Ω M_Mdl_hunk R' (RI Q) QX' σ [xr (some a), xi x0, xi x1, xi x2]) (hk : sK σ a = 13) (hr1 : R'.frames + 1 ≤ R.frames) (hr2 : 8 + (6 + 11) + R'.locals ≤ R.locals) (hb1 : k + R'.cells ≤ R.cells) (hb2 : n + R'.slots ≤ R.slots) (hst : (st.map catP).sum ≤ 8) (kk : ∀ x σ', Q x σ' → Aw Ω M_Law_law R F (k + R'.cells) (n + R'.slots) 2030 L (xi x :: st) σ') (kx : ∀ E σ', QX' E σ' → Ax Ω M_Law_law R F (k + R'.cells) (n + R'.slots) 2027 L st σ' E) : Aw Ω M_Law_law R F k n 2027 L (xi x2 :: xi x1 :: xi x0 :: xr (some a) :: st) σ :=
  Aw.callV (As := [xi x0, xi x1, xi x2]) (stk := xi x2 :: xi x1 :: xi x0 :: xr (some a) :: st) (nn := 3) 12 M_Mdl_hunk hc ok_Mdl_hunk rfl (by decide) rfl hk ml_Law_236 im_Mdl_hunk se_Mdl_hunk ⟨hr1, hr2⟩ rfl ⟨hb1, hb2⟩ hst rfl d_Law_law_2027 (fun r σ' h => by obtain ⟨x, rfl, h⟩ := h; exact kk x σ' h) kx
theorem c_Law_law_2033 {Ω : Om} {R R' : Room} {F : QF} {k n : Nat} {L st : List PV} {σ : Sto} {QX' : String → Sto → Prop} {Q : Int → Sto → Prop} {a : Nat} (hc : MC Ω M_Mdl_thrown R' (RI Q) QX' σ [xr (some a)]) (hk : sK σ a = 13) (hr1 : R'.frames + 1 ≤ R.frames) (hr2 : 8 + (1 + 11) + R'.locals ≤ R.locals) (hb1 : k + R'.cells ≤ R.cells) (hb2 : n + R'.slots ≤ R.slots) (hst : (st.map catP).sum ≤ 8) (kk : ∀ x σ', Q x σ' → Aw Ω M_Law_law R F (k + R'.cells) (n + R'.slots) 2036 L (xi x :: st) σ') (kx : ∀ E σ', QX' E σ' → Ax Ω M_Law_law R F (k + R'.cells) (n + R'.slots) 2033 L st σ' E) : Aw Ω M_Law_law R F k n 2033 L (xr (some a) :: st) σ :=
  Aw.callV (As := []) (stk := xr (some a) :: st) (nn := 0) 12 M_Mdl_thrown hc ok_Mdl_thrown rfl (by decide) rfl hk ml_Law_138 im_Mdl_thrown se_Mdl_thrown ⟨hr1, hr2⟩ rfl ⟨hb1, hb2⟩ hst rfl d_Law_law_2033 (fun r σ' h => by obtain ⟨x, rfl, h⟩ := h; exact kk x σ' h) kx
theorem r_Law_law_2042 {Ω : Om} {R : Room} {k n : Nat} {L : List PV} {σ : Sto} {QR : Option PV → Sto → Prop} {QX : String → Sto → Prop} {x : Int} (hx : x = 0 ∨ x = 1) (h : QR (some (xi x)) σ) (h1 : k ≤ R.cells) (h2 : n ≤ R.slots) : Aw Ω M_Law_law R (MF Ω R QR QX) k n 2042 L [xi x] σ := Aw.zret rfl hx h h1 h2 d_Law_law_2042
theorem r_Law_law_2059 {Ω : Om} {R : Room} {k n : Nat} {L : List PV} {σ : Sto} {QR : Option PV → Sto → Prop} {QX : String → Sto → Prop} {x : Int} (hx : x = 0 ∨ x = 1) (h : QR (some (xi x)) σ) (h1 : k ≤ R.cells) (h2 : n ≤ R.slots) : Aw Ω M_Law_law R (MF Ω R QR QX) k n 2059 L [xi x] σ := Aw.zret rfl hx h h1 h2 d_Law_law_2059
theorem c_Law_law_2077 {Ω : Om} {R R' : Room} {F : QF} {k n : Nat} {L st : List PV} {σ : Sto} {QX' : String → Sto → Prop} {Q : Int → Sto → Prop} {x0 : Option Nat} {x1 : Int} {x2 : Int} {x3 : Option Nat} (hc : MC Ω M_Law_lay R' (RI Q) QX' σ [xr x0, xi x1, xi x2, xr x3]) (hr1 : R'.frames + 1 ≤ R.frames) (hr2 : 8 + (5 + 11) + R'.locals ≤ R.locals) (hb1 : k + R'.cells ≤ R.cells) (hb2 : n + R'.slots ≤ R.slots) (hst : (st.map catP).sum ≤ 8) (kk : ∀ x σ', Q x σ' → Aw Ω M_Law_law R F (k + R'.cells) (n + R'.slots) 2080 L (xi x :: st) σ') (kx : ∀ E σ', QX' E σ' → Ax Ω M_Law_law R F (k + R'.cells) (n + R'.slots) 2077 L st σ' E) : Aw Ω M_Law_law R F k n 2077 L (xr x3 :: xi x2 :: xi x1 :: xr x0 :: st) σ :=
  Aw.callSX (As := [xr x0, xi x1, xi x2, xr x3]) (stk := xr x3 :: xi x2 :: xi x1 :: xr x0 :: st) (nn := 4) M_Law_lay hc ok_Law_lay (by decide) ml_Law_237 sta_Law_lay ⟨hr1, hr2⟩ rfl ⟨hb1, hb2⟩ hst rfl d_Law_law_2077 (fun r σ' h => by obtain ⟨x, rfl, h⟩ := h; exact kk x σ' h) kx
theorem c_Law_law_2095 {Ω : Om} {R R' : Room} {F : QF} {k n : Nat} {L st : List PV} {σ : Sto} {QX' : String → Sto → Prop} {Q : Int → Sto → Prop} {a : Nat} {x0 : Int} {x1 : Int} (hc : MC Ω M_Mdl_lay R' (RI Q) QX' σ [xr (some a), xi x0, xi x1]) (hk : sK σ a = 13) (hr1 : R'.frames + 1 ≤ R.frames) (hr2 : 8 + (9 + 11) + R'.locals ≤ R.locals) (hb1 : k + R'.cells ≤ R.cells) (hb2 : n + R'.slots ≤ R.slots) (hst : (st.map catP).sum ≤ 8) (kk : ∀ x σ', Q x σ' → Aw Ω M_Law_law R F (k + R'.cells) (n + R'.slots) 2098 L (xi x :: st) σ') (kx : ∀ E σ', QX' E σ' → Ax Ω M_Law_law R F (k + R'.cells) (n + R'.slots) 2095 L st σ' E) : Aw Ω M_Law_law R F k n 2095 L (xi x1 :: xi x0 :: xr (some a) :: st) σ :=
  Aw.callV (As := [xi x0, xi x1]) (stk := xi x1 :: xi x0 :: xr (some a) :: st) (nn := 2) 12 M_Mdl_lay hc ok_Mdl_lay rfl (by decide) rfl hk ml_Law_239 im_Mdl_lay se_Mdl_lay ⟨hr1, hr2⟩ rfl ⟨hb1, hb2⟩ hst rfl d_Law_law_2095 (fun r σ' h => by obtain ⟨x, rfl, h⟩ := h; exact kk x σ' h) kx
theorem c_Law_law_2101 {Ω : Om} {R R' : Room} {F : QF} {k n : Nat} {L st : List PV} {σ : Sto} {QX' : String → Sto → Prop} {Q : Int → Sto → Prop} {a : Nat} (hc : MC Ω M_Mdl_thrown R' (RI Q) QX' σ [xr (some a)]) (hk : sK σ a = 13) (hr1 : R'.frames + 1 ≤ R.frames) (hr2 : 8 + (1 + 11) + R'.locals ≤ R.locals) (hb1 : k + R'.cells ≤ R.cells) (hb2 : n + R'.slots ≤ R.slots) (hst : (st.map catP).sum ≤ 8) (kk : ∀ x σ', Q x σ' → Aw Ω M_Law_law R F (k + R'.cells) (n + R'.slots) 2104 L (xi x :: st) σ') (kx : ∀ E σ', QX' E σ' → Ax Ω M_Law_law R F (k + R'.cells) (n + R'.slots) 2101 L st σ' E) : Aw Ω M_Law_law R F k n 2101 L (xr (some a) :: st) σ :=
  Aw.callV (As := []) (stk := xr (some a) :: st) (nn := 0) 12 M_Mdl_thrown hc ok_Mdl_thrown rfl (by decide) rfl hk ml_Law_138 im_Mdl_thrown se_Mdl_thrown ⟨hr1, hr2⟩ rfl ⟨hb1, hb2⟩ hst rfl d_Law_law_2101 (fun r σ' h => by obtain ⟨x, rfl, h⟩ := h; exact kk x σ' h) kx
theorem r_Law_law_2110 {Ω : Om} {R : Room} {k n : Nat} {L : List PV} {σ : Sto} {QR : Option PV → Sto → Prop} {QX : String → Sto → Prop} {x : Int} (hx : x = 0 ∨ x = 1) (h : QR (some (xi x)) σ) (h1 : k ≤ R.cells) (h2 : n ≤ R.slots) : Aw Ω M_Law_law R (MF Ω R QR QX) k n 2110 L [xi x] σ := Aw.zret rfl hx h h1 h2 d_Law_law_2110
theorem r_Law_law_2127 {Ω : Om} {R : Room} {k n : Nat} {L : List PV} {σ : Sto} {QR : Option PV → Sto → Prop} {QX : String → Sto → Prop} {x : Int} (hx : x = 0 ∨ x = 1) (h : QR (some (xi x)) σ) (h1 : k ≤ R.cells) (h2 : n ≤ R.slots) : Aw Ω M_Law_law R (MF Ω R QR QX) k n 2127 L [xi x] σ := Aw.zret rfl hx h h1 h2 d_Law_law_2127
theorem c_Law_law_2145 {Ω : Om} {R R' : Room} {F : QF} {k n : Nat} {L st : List PV} {σ : Sto} {QX' : String → Sto → Prop} {Q : Int → Sto → Prop} {x0 : Option Nat} {x1 : Int} {x2 : Int} {x3 : Option Nat} (hc : MC Ω M_Law_note R' (RI Q) QX' σ [xr x0, xi x1, xi x2, xr x3]) (hr1 : R'.frames + 1 ≤ R.frames) (hr2 : 8 + (5 + 11) + R'.locals ≤ R.locals) (hb1 : k + R'.cells ≤ R.cells) (hb2 : n + R'.slots ≤ R.slots) (hst : (st.map catP).sum ≤ 8) (kk : ∀ x σ', Q x σ' → Aw Ω M_Law_law R F (k + R'.cells) (n + R'.slots) 2148 L (xi x :: st) σ') (kx : ∀ E σ', QX' E σ' → Ax Ω M_Law_law R F (k + R'.cells) (n + R'.slots) 2145 L st σ' E) : Aw Ω M_Law_law R F k n 2145 L (xr x3 :: xi x2 :: xi x1 :: xr x0 :: st) σ :=
  Aw.callSX (As := [xr x0, xi x1, xi x2, xr x3]) (stk := xr x3 :: xi x2 :: xi x1 :: xr x0 :: st) (nn := 4) M_Law_note hc ok_Law_note (by decide) ml_Law_240 sta_Law_note ⟨hr1, hr2⟩ rfl ⟨hb1, hb2⟩ hst rfl d_Law_law_2145 (fun r σ' h => by obtain ⟨x, rfl, h⟩ := h; exact kk x σ' h) kx
theorem c_Law_law_2163 {Ω : Om} {R R' : Room} {F : QF} {k n : Nat} {L st : List PV} {σ : Sto} {QX' : String → Sto → Prop} {Q : Int → Sto → Prop} {a : Nat} {x0 : Int} {x1 : Int} (hc : MC Ω M_Mdl_note R' (RI Q) QX' σ [xr (some a), xi x0, xi x1]) (hk : sK σ a = 13) (hr1 : R'.frames + 1 ≤ R.frames) (hr2 : 8 + (3 + 11) + R'.locals ≤ R.locals) (hb1 : k + R'.cells ≤ R.cells) (hb2 : n + R'.slots ≤ R.slots) (hst : (st.map catP).sum ≤ 8) (kk : ∀ x σ', Q x σ' → Aw Ω M_Law_law R F (k + R'.cells) (n + R'.slots) 2166 L (xi x :: st) σ') (kx : ∀ E σ', QX' E σ' → Ax Ω M_Law_law R F (k + R'.cells) (n + R'.slots) 2163 L st σ' E) : Aw Ω M_Law_law R F k n 2163 L (xi x1 :: xi x0 :: xr (some a) :: st) σ :=
  Aw.callV (As := [xi x0, xi x1]) (stk := xi x1 :: xi x0 :: xr (some a) :: st) (nn := 2) 12 M_Mdl_note hc ok_Mdl_note rfl (by decide) rfl hk ml_Law_242 im_Mdl_note se_Mdl_note ⟨hr1, hr2⟩ rfl ⟨hb1, hb2⟩ hst rfl d_Law_law_2163 (fun r σ' h => by obtain ⟨x, rfl, h⟩ := h; exact kk x σ' h) kx
theorem c_Law_law_2169 {Ω : Om} {R R' : Room} {F : QF} {k n : Nat} {L st : List PV} {σ : Sto} {QX' : String → Sto → Prop} {Q : Int → Sto → Prop} {a : Nat} (hc : MC Ω M_Mdl_thrown R' (RI Q) QX' σ [xr (some a)]) (hk : sK σ a = 13) (hr1 : R'.frames + 1 ≤ R.frames) (hr2 : 8 + (1 + 11) + R'.locals ≤ R.locals) (hb1 : k + R'.cells ≤ R.cells) (hb2 : n + R'.slots ≤ R.slots) (hst : (st.map catP).sum ≤ 8) (kk : ∀ x σ', Q x σ' → Aw Ω M_Law_law R F (k + R'.cells) (n + R'.slots) 2172 L (xi x :: st) σ') (kx : ∀ E σ', QX' E σ' → Ax Ω M_Law_law R F (k + R'.cells) (n + R'.slots) 2169 L st σ' E) : Aw Ω M_Law_law R F k n 2169 L (xr (some a) :: st) σ :=
  Aw.callV (As := []) (stk := xr (some a) :: st) (nn := 0) 12 M_Mdl_thrown hc ok_Mdl_thrown rfl (by decide) rfl hk ml_Law_138 im_Mdl_thrown se_Mdl_thrown ⟨hr1, hr2⟩ rfl ⟨hb1, hb2⟩ hst rfl d_Law_law_2169 (fun r σ' h => by obtain ⟨x, rfl, h⟩ := h; exact kk x σ' h) kx
theorem r_Law_law_2178 {Ω : Om} {R : Room} {k n : Nat} {L : List PV} {σ : Sto} {QR : Option PV → Sto → Prop} {QX : String → Sto → Prop} {x : Int} (hx : x = 0 ∨ x = 1) (h : QR (some (xi x)) σ) (h1 : k ≤ R.cells) (h2 : n ≤ R.slots) : Aw Ω M_Law_law R (MF Ω R QR QX) k n 2178 L [xi x] σ := Aw.zret rfl hx h h1 h2 d_Law_law_2178
theorem r_Law_law_2195 {Ω : Om} {R : Room} {k n : Nat} {L : List PV} {σ : Sto} {QR : Option PV → Sto → Prop} {QX : String → Sto → Prop} {x : Int} (hx : x = 0 ∨ x = 1) (h : QR (some (xi x)) σ) (h1 : k ≤ R.cells) (h2 : n ≤ R.slots) : Aw Ω M_Law_law R (MF Ω R QR QX) k n 2195 L [xi x] σ := Aw.zret rfl hx h h1 h2 d_Law_law_2195
theorem c_Law_law_2213 {Ω : Om} {R R' : Room} {F : QF} {k n : Nat} {L st : List PV} {σ : Sto} {QX' : String → Sto → Prop} {Q : Int → Sto → Prop} {x0 : Option Nat} {x1 : Int} {x2 : Int} {x3 : Option Nat} (hc : MC Ω M_Law_noteAt R' (RI Q) QX' σ [xr x0, xi x1, xi x2, xr x3]) (hr1 : R'.frames + 1 ≤ R.frames) (hr2 : 8 + (5 + 11) + R'.locals ≤ R.locals) (hb1 : k + R'.cells ≤ R.cells) (hb2 : n + R'.slots ≤ R.slots) (hst : (st.map catP).sum ≤ 8) (kk : ∀ x σ', Q x σ' → Aw Ω M_Law_law R F (k + R'.cells) (n + R'.slots) 2216 L (xi x :: st) σ') (kx : ∀ E σ', QX' E σ' → Ax Ω M_Law_law R F (k + R'.cells) (n + R'.slots) 2213 L st σ' E) : Aw Ω M_Law_law R F k n 2213 L (xr x3 :: xi x2 :: xi x1 :: xr x0 :: st) σ :=
  Aw.callSX (As := [xr x0, xi x1, xi x2, xr x3]) (stk := xr x3 :: xi x2 :: xi x1 :: xr x0 :: st) (nn := 4) M_Law_noteAt hc ok_Law_noteAt (by decide) ml_Law_243 sta_Law_noteAt ⟨hr1, hr2⟩ rfl ⟨hb1, hb2⟩ hst rfl d_Law_law_2213 (fun r σ' h => by obtain ⟨x, rfl, h⟩ := h; exact kk x σ' h) kx
theorem c_Law_law_2231 {Ω : Om} {R R' : Room} {F : QF} {k n : Nat} {L st : List PV} {σ : Sto} {QX' : String → Sto → Prop} {Q : Int → Sto → Prop} {a : Nat} {x0 : Int} {x1 : Int} (hc : MC Ω M_Mdl_noteAt R' (RI Q) QX' σ [xr (some a), xi x0, xi x1]) (hk : sK σ a = 13) (hr1 : R'.frames + 1 ≤ R.frames) (hr2 : 8 + (5 + 11) + R'.locals ≤ R.locals) (hb1 : k + R'.cells ≤ R.cells) (hb2 : n + R'.slots ≤ R.slots) (hst : (st.map catP).sum ≤ 8) (kk : ∀ x σ', Q x σ' → Aw Ω M_Law_law R F (k + R'.cells) (n + R'.slots) 2234 L (xi x :: st) σ') (kx : ∀ E σ', QX' E σ' → Ax Ω M_Law_law R F (k + R'.cells) (n + R'.slots) 2231 L st σ' E) : Aw Ω M_Law_law R F k n 2231 L (xi x1 :: xi x0 :: xr (some a) :: st) σ :=
  Aw.callV (As := [xi x0, xi x1]) (stk := xi x1 :: xi x0 :: xr (some a) :: st) (nn := 2) 12 M_Mdl_noteAt hc ok_Mdl_noteAt rfl (by decide) rfl hk ml_Law_245 im_Mdl_noteAt se_Mdl_noteAt ⟨hr1, hr2⟩ rfl ⟨hb1, hb2⟩ hst rfl d_Law_law_2231 (fun r σ' h => by obtain ⟨x, rfl, h⟩ := h; exact kk x σ' h) kx
theorem c_Law_law_2237 {Ω : Om} {R R' : Room} {F : QF} {k n : Nat} {L st : List PV} {σ : Sto} {QX' : String → Sto → Prop} {Q : Int → Sto → Prop} {a : Nat} (hc : MC Ω M_Mdl_thrown R' (RI Q) QX' σ [xr (some a)]) (hk : sK σ a = 13) (hr1 : R'.frames + 1 ≤ R.frames) (hr2 : 8 + (1 + 11) + R'.locals ≤ R.locals) (hb1 : k + R'.cells ≤ R.cells) (hb2 : n + R'.slots ≤ R.slots) (hst : (st.map catP).sum ≤ 8) (kk : ∀ x σ', Q x σ' → Aw Ω M_Law_law R F (k + R'.cells) (n + R'.slots) 2240 L (xi x :: st) σ') (kx : ∀ E σ', QX' E σ' → Ax Ω M_Law_law R F (k + R'.cells) (n + R'.slots) 2237 L st σ' E) : Aw Ω M_Law_law R F k n 2237 L (xr (some a) :: st) σ :=
  Aw.callV (As := []) (stk := xr (some a) :: st) (nn := 0) 12 M_Mdl_thrown hc ok_Mdl_thrown rfl (by decide) rfl hk ml_Law_138 im_Mdl_thrown se_Mdl_thrown ⟨hr1, hr2⟩ rfl ⟨hb1, hb2⟩ hst rfl d_Law_law_2237 (fun r σ' h => by obtain ⟨x, rfl, h⟩ := h; exact kk x σ' h) kx
theorem r_Law_law_2246 {Ω : Om} {R : Room} {k n : Nat} {L : List PV} {σ : Sto} {QR : Option PV → Sto → Prop} {QX : String → Sto → Prop} {x : Int} (hx : x = 0 ∨ x = 1) (h : QR (some (xi x)) σ) (h1 : k ≤ R.cells) (h2 : n ≤ R.slots) : Aw Ω M_Law_law R (MF Ω R QR QX) k n 2246 L [xi x] σ := Aw.zret rfl hx h h1 h2 d_Law_law_2246
theorem r_Law_law_2263 {Ω : Om} {R : Room} {k n : Nat} {L : List PV} {σ : Sto} {QR : Option PV → Sto → Prop} {QX : String → Sto → Prop} {x : Int} (hx : x = 0 ∨ x = 1) (h : QR (some (xi x)) σ) (h1 : k ≤ R.cells) (h2 : n ≤ R.slots) : Aw Ω M_Law_law R (MF Ω R QR QX) k n 2263 L [xi x] σ := Aw.zret rfl hx h h1 h2 d_Law_law_2263
theorem c_Law_law_2281 {Ω : Om} {R R' : Room} {F : QF} {k n : Nat} {L st : List PV} {σ : Sto} {QX' : String → Sto → Prop} {Q : Int → Sto → Prop} {x0 : Option Nat} {x1 : Int} {x2 : Int} {x3 : Option Nat} (hc : MC Ω M_Law_review R' (RI Q) QX' σ [xr x0, xi x1, xi x2, xr x3]) (hr1 : R'.frames + 1 ≤ R.frames) (hr2 : 8 + (5 + 11) + R'.locals ≤ R.locals) (hb1 : k + R'.cells ≤ R.cells) (hb2 : n + R'.slots ≤ R.slots) (hst : (st.map catP).sum ≤ 8) (kk : ∀ x σ', Q x σ' → Aw Ω M_Law_law R F (k + R'.cells) (n + R'.slots) 2284 L (xi x :: st) σ') (kx : ∀ E σ', QX' E σ' → Ax Ω M_Law_law R F (k + R'.cells) (n + R'.slots) 2281 L st σ' E) : Aw Ω M_Law_law R F k n 2281 L (xr x3 :: xi x2 :: xi x1 :: xr x0 :: st) σ :=
  Aw.callSX (As := [xr x0, xi x1, xi x2, xr x3]) (stk := xr x3 :: xi x2 :: xi x1 :: xr x0 :: st) (nn := 4) M_Law_review hc ok_Law_review (by decide) ml_Law_246 sta_Law_review ⟨hr1, hr2⟩ rfl ⟨hb1, hb2⟩ hst rfl d_Law_law_2281 (fun r σ' h => by obtain ⟨x, rfl, h⟩ := h; exact kk x σ' h) kx
theorem c_Law_law_2299 {Ω : Om} {R R' : Room} {F : QF} {k n : Nat} {L st : List PV} {σ : Sto} {QX' : String → Sto → Prop} {Q : Int → Sto → Prop} {a : Nat} {x0 : Int} {x1 : Int} (hc : MC Ω M_Mdl_review R' (RI Q) QX' σ [xr (some a), xi x0, xi x1]) (hk : sK σ a = 13) (hr1 : R'.frames + 1 ≤ R.frames) (hr2 : 8 + (4 + 11) + R'.locals ≤ R.locals) (hb1 : k + R'.cells ≤ R.cells) (hb2 : n + R'.slots ≤ R.slots) (hst : (st.map catP).sum ≤ 8) (kk : ∀ x σ', Q x σ' → Aw Ω M_Law_law R F (k + R'.cells) (n + R'.slots) 2302 L (xi x :: st) σ') (kx : ∀ E σ', QX' E σ' → Ax Ω M_Law_law R F (k + R'.cells) (n + R'.slots) 2299 L st σ' E) : Aw Ω M_Law_law R F k n 2299 L (xi x1 :: xi x0 :: xr (some a) :: st) σ :=
  Aw.callV (As := [xi x0, xi x1]) (stk := xi x1 :: xi x0 :: xr (some a) :: st) (nn := 2) 12 M_Mdl_review hc ok_Mdl_review rfl (by decide) rfl hk ml_Law_248 im_Mdl_review se_Mdl_review ⟨hr1, hr2⟩ rfl ⟨hb1, hb2⟩ hst rfl d_Law_law_2299 (fun r σ' h => by obtain ⟨x, rfl, h⟩ := h; exact kk x σ' h) kx
theorem c_Law_law_2305 {Ω : Om} {R R' : Room} {F : QF} {k n : Nat} {L st : List PV} {σ : Sto} {QX' : String → Sto → Prop} {Q : Int → Sto → Prop} {a : Nat} (hc : MC Ω M_Mdl_thrown R' (RI Q) QX' σ [xr (some a)]) (hk : sK σ a = 13) (hr1 : R'.frames + 1 ≤ R.frames) (hr2 : 8 + (1 + 11) + R'.locals ≤ R.locals) (hb1 : k + R'.cells ≤ R.cells) (hb2 : n + R'.slots ≤ R.slots) (hst : (st.map catP).sum ≤ 8) (kk : ∀ x σ', Q x σ' → Aw Ω M_Law_law R F (k + R'.cells) (n + R'.slots) 2308 L (xi x :: st) σ') (kx : ∀ E σ', QX' E σ' → Ax Ω M_Law_law R F (k + R'.cells) (n + R'.slots) 2305 L st σ' E) : Aw Ω M_Law_law R F k n 2305 L (xr (some a) :: st) σ :=
  Aw.callV (As := []) (stk := xr (some a) :: st) (nn := 0) 12 M_Mdl_thrown hc ok_Mdl_thrown rfl (by decide) rfl hk ml_Law_138 im_Mdl_thrown se_Mdl_thrown ⟨hr1, hr2⟩ rfl ⟨hb1, hb2⟩ hst rfl d_Law_law_2305 (fun r σ' h => by obtain ⟨x, rfl, h⟩ := h; exact kk x σ' h) kx
theorem r_Law_law_2314 {Ω : Om} {R : Room} {k n : Nat} {L : List PV} {σ : Sto} {QR : Option PV → Sto → Prop} {QX : String → Sto → Prop} {x : Int} (hx : x = 0 ∨ x = 1) (h : QR (some (xi x)) σ) (h1 : k ≤ R.cells) (h2 : n ≤ R.slots) : Aw Ω M_Law_law R (MF Ω R QR QX) k n 2314 L [xi x] σ := Aw.zret rfl hx h h1 h2 d_Law_law_2314
theorem r_Law_law_2331 {Ω : Om} {R : Room} {k n : Nat} {L : List PV} {σ : Sto} {QR : Option PV → Sto → Prop} {QX : String → Sto → Prop} {x : Int} (hx : x = 0 ∨ x = 1) (h : QR (some (xi x)) σ) (h1 : k ≤ R.cells) (h2 : n ≤ R.slots) : Aw Ω M_Law_law R (MF Ω R QR QX) k n 2331 L [xi x] σ := Aw.zret rfl hx h h1 h2 d_Law_law_2331
theorem c_Law_law_2363 {Ω : Om} {R R' : Room} {F : QF} {k n : Nat} {L st : List PV} {σ : Sto} {QX' : String → Sto → Prop} {Q : Int → Sto → Prop} {x0 : Option Nat} {x1 : Int} {x2 : Int} {x3 : Int} {x4 : Option Nat} (hc : MC Ω M_Law_verdict R' (RI Q) QX' σ [xr x0, xi x1, xi x2, xi x3, xr x4]) (hr1 : R'.frames + 1 ≤ R.frames) (hr2 : 8 + (6 + 11) + R'.locals ≤ R.locals) (hb1 : k + R'.cells ≤ R.cells) (hb2 : n + R'.slots ≤ R.slots) (hst : (st.map catP).sum ≤ 8) (kk : ∀ x σ', Q x σ' → Aw Ω M_Law_law R F (k + R'.cells) (n + R'.slots) 2366 L (xi x :: st) σ') (kx : ∀ E σ', QX' E σ' → Ax Ω M_Law_law R F (k + R'.cells) (n + R'.slots) 2363 L st σ' E) : Aw Ω M_Law_law R F k n 2363 L (xr x4 :: xi x3 :: xi x2 :: xi x1 :: xr x0 :: st) σ :=
  Aw.callSX (As := [xr x0, xi x1, xi x2, xi x3, xr x4]) (stk := xr x4 :: xi x3 :: xi x2 :: xi x1 :: xr x0 :: st) (nn := 5) M_Law_verdict hc ok_Law_verdict (by decide) ml_Law_249 sta_Law_verdict ⟨hr1, hr2⟩ rfl ⟨hb1, hb2⟩ hst rfl d_Law_law_2363 (fun r σ' h => by obtain ⟨x, rfl, h⟩ := h; exact kk x σ' h) kx
theorem c_Law_law_2395 {Ω : Om} {R R' : Room} {F : QF} {k n : Nat} {L st : List PV} {σ : Sto} {QX' : String → Sto → Prop} {Q : Int → Sto → Prop} {a : Nat} {x0 : Int} {x1 : Int} {x2 : Int} (hc : MC Ω M_Mdl_verdict R' (RI Q) QX' σ [xr (some a), xi x0, xi x1, xi x2]) (hk : sK σ a = 13) (hr1 : R'.frames + 1 ≤ R.frames) (hr2 : 8 + (6 + 11) + R'.locals ≤ R.locals) (hb1 : k + R'.cells ≤ R.cells) (hb2 : n + R'.slots ≤ R.slots) (hst : (st.map catP).sum ≤ 8) (kk : ∀ x σ', Q x σ' → Aw Ω M_Law_law R F (k + R'.cells) (n + R'.slots) 2398 L (xi x :: st) σ') (kx : ∀ E σ', QX' E σ' → Ax Ω M_Law_law R F (k + R'.cells) (n + R'.slots) 2395 L st σ' E) : Aw Ω M_Law_law R F k n 2395 L (xi x2 :: xi x1 :: xi x0 :: xr (some a) :: st) σ :=
  Aw.callV (As := [xi x0, xi x1, xi x2]) (stk := xi x2 :: xi x1 :: xi x0 :: xr (some a) :: st) (nn := 3) 12 M_Mdl_verdict hc ok_Mdl_verdict rfl (by decide) rfl hk ml_Law_251 im_Mdl_verdict se_Mdl_verdict ⟨hr1, hr2⟩ rfl ⟨hb1, hb2⟩ hst rfl d_Law_law_2395 (fun r σ' h => by obtain ⟨x, rfl, h⟩ := h; exact kk x σ' h) kx
theorem c_Law_law_2401 {Ω : Om} {R R' : Room} {F : QF} {k n : Nat} {L st : List PV} {σ : Sto} {QX' : String → Sto → Prop} {Q : Int → Sto → Prop} {a : Nat} (hc : MC Ω M_Mdl_thrown R' (RI Q) QX' σ [xr (some a)]) (hk : sK σ a = 13) (hr1 : R'.frames + 1 ≤ R.frames) (hr2 : 8 + (1 + 11) + R'.locals ≤ R.locals) (hb1 : k + R'.cells ≤ R.cells) (hb2 : n + R'.slots ≤ R.slots) (hst : (st.map catP).sum ≤ 8) (kk : ∀ x σ', Q x σ' → Aw Ω M_Law_law R F (k + R'.cells) (n + R'.slots) 2404 L (xi x :: st) σ') (kx : ∀ E σ', QX' E σ' → Ax Ω M_Law_law R F (k + R'.cells) (n + R'.slots) 2401 L st σ' E) : Aw Ω M_Law_law R F k n 2401 L (xr (some a) :: st) σ :=
  Aw.callV (As := []) (stk := xr (some a) :: st) (nn := 0) 12 M_Mdl_thrown hc ok_Mdl_thrown rfl (by decide) rfl hk ml_Law_138 im_Mdl_thrown se_Mdl_thrown ⟨hr1, hr2⟩ rfl ⟨hb1, hb2⟩ hst rfl d_Law_law_2401 (fun r σ' h => by obtain ⟨x, rfl, h⟩ := h; exact kk x σ' h) kx
theorem r_Law_law_2410 {Ω : Om} {R : Room} {k n : Nat} {L : List PV} {σ : Sto} {QR : Option PV → Sto → Prop} {QX : String → Sto → Prop} {x : Int} (hx : x = 0 ∨ x = 1) (h : QR (some (xi x)) σ) (h1 : k ≤ R.cells) (h2 : n ≤ R.slots) : Aw Ω M_Law_law R (MF Ω R QR QX) k n 2410 L [xi x] σ := Aw.zret rfl hx h h1 h2 d_Law_law_2410
theorem r_Law_law_2427 {Ω : Om} {R : Room} {k n : Nat} {L : List PV} {σ : Sto} {QR : Option PV → Sto → Prop} {QX : String → Sto → Prop} {x : Int} (hx : x = 0 ∨ x = 1) (h : QR (some (xi x)) σ) (h1 : k ≤ R.cells) (h2 : n ≤ R.slots) : Aw Ω M_Law_law R (MF Ω R QR QX) k n 2427 L [xi x] σ := Aw.zret rfl hx h h1 h2 d_Law_law_2427
theorem c_Law_law_2445 {Ω : Om} {R R' : Room} {F : QF} {k n : Nat} {L st : List PV} {σ : Sto} {QX' : String → Sto → Prop} {Q : Int → Sto → Prop} {x0 : Option Nat} {x1 : Int} {x2 : Int} {x3 : Option Nat} (hc : MC Ω M_Law_renew R' (RI Q) QX' σ [xr x0, xi x1, xi x2, xr x3]) (hr1 : R'.frames + 1 ≤ R.frames) (hr2 : 8 + (5 + 11) + R'.locals ≤ R.locals) (hb1 : k + R'.cells ≤ R.cells) (hb2 : n + R'.slots ≤ R.slots) (hst : (st.map catP).sum ≤ 8) (kk : ∀ x σ', Q x σ' → Aw Ω M_Law_law R F (k + R'.cells) (n + R'.slots) 2448 L (xi x :: st) σ') (kx : ∀ E σ', QX' E σ' → Ax Ω M_Law_law R F (k + R'.cells) (n + R'.slots) 2445 L st σ' E) : Aw Ω M_Law_law R F k n 2445 L (xr x3 :: xi x2 :: xi x1 :: xr x0 :: st) σ :=
  Aw.callSX (As := [xr x0, xi x1, xi x2, xr x3]) (stk := xr x3 :: xi x2 :: xi x1 :: xr x0 :: st) (nn := 4) M_Law_renew hc ok_Law_renew (by decide) ml_Law_252 sta_Law_renew ⟨hr1, hr2⟩ rfl ⟨hb1, hb2⟩ hst rfl d_Law_law_2445 (fun r σ' h => by obtain ⟨x, rfl, h⟩ := h; exact kk x σ' h) kx
theorem c_Law_law_2463 {Ω : Om} {R R' : Room} {F : QF} {k n : Nat} {L st : List PV} {σ : Sto} {QX' : String → Sto → Prop} {Q : Int → Sto → Prop} {a : Nat} {x0 : Int} {x1 : Int} (hc : MC Ω M_Mdl_renew R' (RI Q) QX' σ [xr (some a), xi x0, xi x1]) (hk : sK σ a = 13) (hr1 : R'.frames + 1 ≤ R.frames) (hr2 : 8 + (10 + 11) + R'.locals ≤ R.locals) (hb1 : k + R'.cells ≤ R.cells) (hb2 : n + R'.slots ≤ R.slots) (hst : (st.map catP).sum ≤ 8) (kk : ∀ x σ', Q x σ' → Aw Ω M_Law_law R F (k + R'.cells) (n + R'.slots) 2466 L (xi x :: st) σ') (kx : ∀ E σ', QX' E σ' → Ax Ω M_Law_law R F (k + R'.cells) (n + R'.slots) 2463 L st σ' E) : Aw Ω M_Law_law R F k n 2463 L (xi x1 :: xi x0 :: xr (some a) :: st) σ :=
  Aw.callV (As := [xi x0, xi x1]) (stk := xi x1 :: xi x0 :: xr (some a) :: st) (nn := 2) 12 M_Mdl_renew hc ok_Mdl_renew rfl (by decide) rfl hk ml_Law_254 im_Mdl_renew se_Mdl_renew ⟨hr1, hr2⟩ rfl ⟨hb1, hb2⟩ hst rfl d_Law_law_2463 (fun r σ' h => by obtain ⟨x, rfl, h⟩ := h; exact kk x σ' h) kx
theorem c_Law_law_2469 {Ω : Om} {R R' : Room} {F : QF} {k n : Nat} {L st : List PV} {σ : Sto} {QX' : String → Sto → Prop} {Q : Int → Sto → Prop} {a : Nat} (hc : MC Ω M_Mdl_thrown R' (RI Q) QX' σ [xr (some a)]) (hk : sK σ a = 13) (hr1 : R'.frames + 1 ≤ R.frames) (hr2 : 8 + (1 + 11) + R'.locals ≤ R.locals) (hb1 : k + R'.cells ≤ R.cells) (hb2 : n + R'.slots ≤ R.slots) (hst : (st.map catP).sum ≤ 8) (kk : ∀ x σ', Q x σ' → Aw Ω M_Law_law R F (k + R'.cells) (n + R'.slots) 2472 L (xi x :: st) σ') (kx : ∀ E σ', QX' E σ' → Ax Ω M_Law_law R F (k + R'.cells) (n + R'.slots) 2469 L st σ' E) : Aw Ω M_Law_law R F k n 2469 L (xr (some a) :: st) σ :=
  Aw.callV (As := []) (stk := xr (some a) :: st) (nn := 0) 12 M_Mdl_thrown hc ok_Mdl_thrown rfl (by decide) rfl hk ml_Law_138 im_Mdl_thrown se_Mdl_thrown ⟨hr1, hr2⟩ rfl ⟨hb1, hb2⟩ hst rfl d_Law_law_2469 (fun r σ' h => by obtain ⟨x, rfl, h⟩ := h; exact kk x σ' h) kx
theorem r_Law_law_2478 {Ω : Om} {R : Room} {k n : Nat} {L : List PV} {σ : Sto} {QR : Option PV → Sto → Prop} {QX : String → Sto → Prop} {x : Int} (hx : x = 0 ∨ x = 1) (h : QR (some (xi x)) σ) (h1 : k ≤ R.cells) (h2 : n ≤ R.slots) : Aw Ω M_Law_law R (MF Ω R QR QX) k n 2478 L [xi x] σ := Aw.zret rfl hx h h1 h2 d_Law_law_2478
theorem r_Law_law_2495 {Ω : Om} {R : Room} {k n : Nat} {L : List PV} {σ : Sto} {QR : Option PV → Sto → Prop} {QX : String → Sto → Prop} {x : Int} (hx : x = 0 ∨ x = 1) (h : QR (some (xi x)) σ) (h1 : k ≤ R.cells) (h2 : n ≤ R.slots) : Aw Ω M_Law_law R (MF Ω R QR QX) k n 2495 L [xi x] σ := Aw.zret rfl hx h h1 h2 d_Law_law_2495
theorem c_Law_law_2507 {Ω : Om} {R R' : Room} {F : QF} {k n : Nat} {L st : List PV} {σ : Sto} {QX' : String → Sto → Prop} {Q : Int → Sto → Prop} {x0 : Option Nat} {x1 : Int} {x2 : Option Nat} (hc : MC Ω M_Law_land R' (RI Q) QX' σ [xr x0, xi x1, xr x2]) (hr1 : R'.frames + 1 ≤ R.frames) (hr2 : 8 + (4 + 11) + R'.locals ≤ R.locals) (hb1 : k + R'.cells ≤ R.cells) (hb2 : n + R'.slots ≤ R.slots) (hst : (st.map catP).sum ≤ 8) (kk : ∀ x σ', Q x σ' → Aw Ω M_Law_law R F (k + R'.cells) (n + R'.slots) 2510 L (xi x :: st) σ') (kx : ∀ E σ', QX' E σ' → Ax Ω M_Law_law R F (k + R'.cells) (n + R'.slots) 2507 L st σ' E) : Aw Ω M_Law_law R F k n 2507 L (xr x2 :: xi x1 :: xr x0 :: st) σ :=
  Aw.callSX (As := [xr x0, xi x1, xr x2]) (stk := xr x2 :: xi x1 :: xr x0 :: st) (nn := 3) M_Law_land hc ok_Law_land (by decide) ml_Law_255 sta_Law_land ⟨hr1, hr2⟩ rfl ⟨hb1, hb2⟩ hst rfl d_Law_law_2507 (fun r σ' h => by obtain ⟨x, rfl, h⟩ := h; exact kk x σ' h) kx
theorem c_Law_law_2519 {Ω : Om} {R R' : Room} {F : QF} {k n : Nat} {L st : List PV} {σ : Sto} {QX' : String → Sto → Prop} {Q : Int → Sto → Prop} {a : Nat} {x0 : Int} (hc : MC Ω M_Mdl_land R' (RI Q) QX' σ [xr (some a), xi x0]) (hk : sK σ a = 13) (hr1 : R'.frames + 1 ≤ R.frames) (hr2 : 8 + (6 + 11) + R'.locals ≤ R.locals) (hb1 : k + R'.cells ≤ R.cells) (hb2 : n + R'.slots ≤ R.slots) (hst : (st.map catP).sum ≤ 8) (kk : ∀ x σ', Q x σ' → Aw Ω M_Law_law R F (k + R'.cells) (n + R'.slots) 2522 L (xi x :: st) σ') (kx : ∀ E σ', QX' E σ' → Ax Ω M_Law_law R F (k + R'.cells) (n + R'.slots) 2519 L st σ' E) : Aw Ω M_Law_law R F k n 2519 L (xi x0 :: xr (some a) :: st) σ :=
  Aw.callV (As := [xi x0]) (stk := xi x0 :: xr (some a) :: st) (nn := 1) 12 M_Mdl_land hc ok_Mdl_land rfl (by decide) rfl hk ml_Law_257 im_Mdl_land se_Mdl_land ⟨hr1, hr2⟩ rfl ⟨hb1, hb2⟩ hst rfl d_Law_law_2519 (fun r σ' h => by obtain ⟨x, rfl, h⟩ := h; exact kk x σ' h) kx
theorem c_Law_law_2525 {Ω : Om} {R R' : Room} {F : QF} {k n : Nat} {L st : List PV} {σ : Sto} {QX' : String → Sto → Prop} {Q : Int → Sto → Prop} {a : Nat} (hc : MC Ω M_Mdl_thrown R' (RI Q) QX' σ [xr (some a)]) (hk : sK σ a = 13) (hr1 : R'.frames + 1 ≤ R.frames) (hr2 : 8 + (1 + 11) + R'.locals ≤ R.locals) (hb1 : k + R'.cells ≤ R.cells) (hb2 : n + R'.slots ≤ R.slots) (hst : (st.map catP).sum ≤ 8) (kk : ∀ x σ', Q x σ' → Aw Ω M_Law_law R F (k + R'.cells) (n + R'.slots) 2528 L (xi x :: st) σ') (kx : ∀ E σ', QX' E σ' → Ax Ω M_Law_law R F (k + R'.cells) (n + R'.slots) 2525 L st σ' E) : Aw Ω M_Law_law R F k n 2525 L (xr (some a) :: st) σ :=
  Aw.callV (As := []) (stk := xr (some a) :: st) (nn := 0) 12 M_Mdl_thrown hc ok_Mdl_thrown rfl (by decide) rfl hk ml_Law_138 im_Mdl_thrown se_Mdl_thrown ⟨hr1, hr2⟩ rfl ⟨hb1, hb2⟩ hst rfl d_Law_law_2525 (fun r σ' h => by obtain ⟨x, rfl, h⟩ := h; exact kk x σ' h) kx
theorem r_Law_law_2534 {Ω : Om} {R : Room} {k n : Nat} {L : List PV} {σ : Sto} {QR : Option PV → Sto → Prop} {QX : String → Sto → Prop} {x : Int} (hx : x = 0 ∨ x = 1) (h : QR (some (xi x)) σ) (h1 : k ≤ R.cells) (h2 : n ≤ R.slots) : Aw Ω M_Law_law R (MF Ω R QR QX) k n 2534 L [xi x] σ := Aw.zret rfl hx h h1 h2 d_Law_law_2534
theorem r_Law_law_2551 {Ω : Om} {R : Room} {k n : Nat} {L : List PV} {σ : Sto} {QR : Option PV → Sto → Prop} {QX : String → Sto → Prop} {x : Int} (hx : x = 0 ∨ x = 1) (h : QR (some (xi x)) σ) (h1 : k ≤ R.cells) (h2 : n ≤ R.slots) : Aw Ω M_Law_law R (MF Ω R QR QX) k n 2551 L [xi x] σ := Aw.zret rfl hx h h1 h2 d_Law_law_2551
theorem c_Law_law_2563 {Ω : Om} {R R' : Room} {F : QF} {k n : Nat} {L st : List PV} {σ : Sto} {QX' : String → Sto → Prop} {Q : Int → Sto → Prop} {x0 : Option Nat} {x1 : Int} {x2 : Option Nat} (hc : MC Ω M_Law_reviewState R' (RI Q) QX' σ [xr x0, xi x1, xr x2]) (hr1 : R'.frames + 1 ≤ R.frames) (hr2 : 8 + (4 + 11) + R'.locals ≤ R.locals) (hb1 : k + R'.cells ≤ R.cells) (hb2 : n + R'.slots ≤ R.slots) (hst : (st.map catP).sum ≤ 8) (kk : ∀ x σ', Q x σ' → Aw Ω M_Law_law R F (k + R'.cells) (n + R'.slots) 2566 L (xi x :: st) σ') (kx : ∀ E σ', QX' E σ' → Ax Ω M_Law_law R F (k + R'.cells) (n + R'.slots) 2563 L st σ' E) : Aw Ω M_Law_law R F k n 2563 L (xr x2 :: xi x1 :: xr x0 :: st) σ :=
  Aw.callSX (As := [xr x0, xi x1, xr x2]) (stk := xr x2 :: xi x1 :: xr x0 :: st) (nn := 3) M_Law_reviewState hc ok_Law_reviewState (by decide) ml_Law_258 sta_Law_reviewState ⟨hr1, hr2⟩ rfl ⟨hb1, hb2⟩ hst rfl d_Law_law_2563 (fun r σ' h => by obtain ⟨x, rfl, h⟩ := h; exact kk x σ' h) kx
theorem c_Law_law_2575 {Ω : Om} {R R' : Room} {F : QF} {k n : Nat} {L st : List PV} {σ : Sto} {QX' : String → Sto → Prop} {Q : Int → Sto → Prop} {a : Nat} {x0 : Int} (hc : MC Ω M_Mdl_reviewState R' (RI Q) QX' σ [xr (some a), xi x0]) (hk : sK σ a = 13) (hr1 : R'.frames + 1 ≤ R.frames) (hr2 : 8 + (2 + 11) + R'.locals ≤ R.locals) (hb1 : k + R'.cells ≤ R.cells) (hb2 : n + R'.slots ≤ R.slots) (hst : (st.map catP).sum ≤ 8) (kk : ∀ x σ', Q x σ' → Aw Ω M_Law_law R F (k + R'.cells) (n + R'.slots) 2578 L (xi x :: st) σ') (kx : ∀ E σ', QX' E σ' → Ax Ω M_Law_law R F (k + R'.cells) (n + R'.slots) 2575 L st σ' E) : Aw Ω M_Law_law R F k n 2575 L (xi x0 :: xr (some a) :: st) σ :=
  Aw.callV (As := [xi x0]) (stk := xi x0 :: xr (some a) :: st) (nn := 1) 12 M_Mdl_reviewState hc ok_Mdl_reviewState rfl (by decide) rfl hk ml_Law_260 im_Mdl_reviewState se_Mdl_reviewState ⟨hr1, hr2⟩ rfl ⟨hb1, hb2⟩ hst rfl d_Law_law_2575 (fun r σ' h => by obtain ⟨x, rfl, h⟩ := h; exact kk x σ' h) kx
theorem c_Law_law_2581 {Ω : Om} {R R' : Room} {F : QF} {k n : Nat} {L st : List PV} {σ : Sto} {QX' : String → Sto → Prop} {Q : Int → Sto → Prop} {a : Nat} (hc : MC Ω M_Mdl_thrown R' (RI Q) QX' σ [xr (some a)]) (hk : sK σ a = 13) (hr1 : R'.frames + 1 ≤ R.frames) (hr2 : 8 + (1 + 11) + R'.locals ≤ R.locals) (hb1 : k + R'.cells ≤ R.cells) (hb2 : n + R'.slots ≤ R.slots) (hst : (st.map catP).sum ≤ 8) (kk : ∀ x σ', Q x σ' → Aw Ω M_Law_law R F (k + R'.cells) (n + R'.slots) 2584 L (xi x :: st) σ') (kx : ∀ E σ', QX' E σ' → Ax Ω M_Law_law R F (k + R'.cells) (n + R'.slots) 2581 L st σ' E) : Aw Ω M_Law_law R F k n 2581 L (xr (some a) :: st) σ :=
  Aw.callV (As := []) (stk := xr (some a) :: st) (nn := 0) 12 M_Mdl_thrown hc ok_Mdl_thrown rfl (by decide) rfl hk ml_Law_138 im_Mdl_thrown se_Mdl_thrown ⟨hr1, hr2⟩ rfl ⟨hb1, hb2⟩ hst rfl d_Law_law_2581 (fun r σ' h => by obtain ⟨x, rfl, h⟩ := h; exact kk x σ' h) kx
theorem r_Law_law_2590 {Ω : Om} {R : Room} {k n : Nat} {L : List PV} {σ : Sto} {QR : Option PV → Sto → Prop} {QX : String → Sto → Prop} {x : Int} (hx : x = 0 ∨ x = 1) (h : QR (some (xi x)) σ) (h1 : k ≤ R.cells) (h2 : n ≤ R.slots) : Aw Ω M_Law_law R (MF Ω R QR QX) k n 2590 L [xi x] σ := Aw.zret rfl hx h h1 h2 d_Law_law_2590
theorem r_Law_law_2607 {Ω : Om} {R : Room} {k n : Nat} {L : List PV} {σ : Sto} {QR : Option PV → Sto → Prop} {QX : String → Sto → Prop} {x : Int} (hx : x = 0 ∨ x = 1) (h : QR (some (xi x)) σ) (h1 : k ≤ R.cells) (h2 : n ≤ R.slots) : Aw Ω M_Law_law R (MF Ω R QR QX) k n 2607 L [xi x] σ := Aw.zret rfl hx h h1 h2 d_Law_law_2607
theorem r_Law_law_2618 {Ω : Om} {R : Room} {k n : Nat} {L : List PV} {σ : Sto} {QR : Option PV → Sto → Prop} {QX : String → Sto → Prop} {x : Int} (hx : x = 0 ∨ x = 1) (h : QR (some (xi x)) σ) (h1 : k ≤ R.cells) (h2 : n ≤ R.slots) : Aw Ω M_Law_law R (MF Ω R QR QX) k n 2618 L [xi x] σ := Aw.zret rfl hx h h1 h2 d_Law_law_2618
