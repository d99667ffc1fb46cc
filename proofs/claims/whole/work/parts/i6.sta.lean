/-! BY HAND: the law's start -/
theorem getD_one (n : Nat) : vrO [ver0] n = ver0 := by
  cases n with
  | zero => rfl
  | succ n => rfl
theorem Inv_S0 (x : Nat) : Inv x 0 S0 := by
  have e0 : ∀ v : Int, vtx (sV S0) v = [] := fun v => by
    show vrT (vrO [ver0] v.toNat) = []
    rw [getD_one]; rfl
  refine ⟨⟨⟨by decide, by decide, by decide, by decide, by decide, by decide, by decide⟩, by decide⟩, ⟨fun v => ?_, by decide, ?_, ?_⟩, ⟨?_, e0 0, fun i _ => ?_, fun i h1 h2 => ?_⟩, fun r h => (by cases h), fun hs h => absurd h List.not_mem_nil, fun y h => absurd h List.not_mem_nil, fun r h => absurd h List.not_mem_nil⟩
  · rw [e0 v]
    exact ⟨by decide, fun y hy => absurd hy List.not_mem_nil⟩
  · intro i hi
    exact absurd hi (Nat.not_lt_zero _)
  · intro i hi
    exact absurd hi (Nat.not_lt_zero _)
  · refine ⟨by decide, rfl, fun i h1 h2 => ?_⟩
    have h3 : i < 1 := h2
    omega
  · have e : vrO (sV S0) i.toNat = ver0 := getD_one _
    rw [e]
    exact ⟨by decide, by decide⟩
  · have h3 : i < 1 := h2
    omega
theorem law_start {Ω : Om} {σ : Sto} {Q : Int → Sto → Prop} (hE : oE Ω < sN σ) (b2 : oN Ω ≤ 2560) (hQ : ∀ σ, Q 1 σ) : Aw Ω M_Law_law rm_Law_law (MF Ω rm_Law_law (RI Q) XN) 0 0 0 [xr (some (oB Ω)), xu, xu, xu, xu, xu, xu, xu] [] σ := by
  refine b_Law_law_0 ⟨by decide, by decide, fun σ1 e1 => ?_⟩
  obtain ⟨x, hx⟩ : ∃ x, x = sN σ := ⟨_, rfl⟩
  rw [← hx]
  have n1 : sN σ1 = x + 1 := by rw [e1, hx]; rfl
  have k1 : sK σ1 x = 1 := by
    rw [e1, hx]
    show up1 (sK σ) (sN σ) 1 (sN σ) = 1
    rw [up1, if_pos rfl]
  refine c_Law_law_4 (k_Dw_init (lo := x + 793) k1 n1 (by omega) (by omega)) (by decide) (by decide) (by decide) (by decide) (by show 1 ≤ 8; omega) (fun σ2 ⟨h2, n2, p2⟩ => ?_) (fun E σ' h => h.elim)
  refine b_Law_law_7 ⟨by decide, by decide, fun σ3 e3 => ?_⟩
  rw [n2]
  have n3 : sN σ3 = x + 754 + 1 := by rw [e3]; show sN σ2 + 1 = _; rw [n2]
  have k3 : sK σ3 (x + 754) = 13 := by
    rw [e3, ← n2]
    show up1 (sK σ2) (sN σ2) 13 (sN σ2) = 13
    rw [up1, if_pos rfl]
  have f3 : ∀ f, fI σ3 f (x + 754) = 0 := fun f => by
    rw [e3, ← n2]
    show (if sN σ2 = sN σ2 then 0 else fI σ2 f (sN σ2)) = 0
    rw [if_pos rfl]
  have p3 : Keep σ2 σ3 (fun _ => False) := by rw [e3]; exact Keep.nO
  refine c_Law_law_12 (K_Mdl_init k3 n3 f3) (by decide) (by decide) (by decide) (by decide) (by show 1 ≤ 8; omega) (fun σ4 ⟨⟨h4, m4⟩, n4, p4⟩ => ?_) (fun E σ' h => h.elim)
  refine b_Law_law_15 ⟨by decide, by decide, fun σ5 e5 => ?_⟩
  have n5 : sN σ5 = x + 793 := by rw [e5]; show sN σ4 + 1 = _; rw [n4]
  have p5 : Keep σ4 σ5 (fun _ => False) := by rw [e5]; exact Keep.nO
  have eN : sN σ4 = x + 792 := n4.trans (by omega)
  have k5 : sK σ5 (x + 792) = 51 ∧ sZ σ5 (x + 792) = 1 := by
    rw [e5, ← eN]
    refine ⟨?_, ?_⟩
    · show up1 (sK σ4) (sN σ4) 51 (sN σ4) = 51
      rw [up1, if_pos rfl]
    · show up1 (sZ σ4) (sN σ4) 1 (sN σ4) = 1
      rw [up1, if_pos rfl]
  rw [eN]
  have pD : Keep σ2 σ5 (fun _ => False) := (p3.tr p4 (fun q h1 (h2 : q = x + 754) => by omega)).tr p5 (fun _ _ h => h)
  have dw : DwV Ω σ5 (x + 793) x S0 := ⟨⟨by omega, by omega, by omega⟩, 0, fun _ => oE Ω, fun _ => [], h2.keep pD (fun _ _ h => h)⟩
  have li : LwI Ω (x + 793) x 0 S0 σ5 := by
    refine ⟨⟨rfl, dw⟩, ⟨h4.keep p5 (fun _ _ _ h => h), ?_⟩, ⟨k5.1, k5.2, by omega⟩, Inv_S0 x⟩
    have e : ∀ i, i ≤ 37 → Same1 σ4 σ5 (x + 754 + i) := fun i hi => p5.2 _ (by omega) (fun h => h)
    refine m4.cong (funext fun f => ?_) (fun j hj => ?_) (fun j hj => ?_)
    · exact (e 0 (by omega)).2.2.1 _
    · exact (e j (by omega)).2.2.2.2.2.1
    · exact (e j (by omega)).2.2.2.2.2.2.1
  exact Aw.wide (by decide) (by decide) (law_loop b2 hQ 512 0 S0 σ5 0 1000 230000 rfl rfl rfl rfl li)
