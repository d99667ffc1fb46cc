/-! BY HAND: merging, by the reference: the loop, merge -/
section MGX
variable {Ω : Om} {m : Nat} {μ μ0 μa : Mu} {S : St} {V : List VR} {b : BR} {v w u dn au : Int} {P1 P2 : Nat → Int}
theorem weaveM_loop {σ0 : Sto} {Q : Int → Mu → Prop} {vv : List (Int64 × Int) × List Cnl} (hdn : dn = 0 ∨ dn = 1) (hV : VeV V μ0) (hI : IdV b μ0) (h20 : ∀ v : Int, (vtx V v).length ≤ 20) (hN : ∀ v : Int, Nm b (vtx V v)) (v0 : 0 ≤ v ∧ v < V.length) (w0 : 0 ≤ w ∧ w < V.length) (u0 : 0 ≤ u ∧ u < V.length) (hP1 : ∀ k, k < (vtx V u).length → mA μ0 31 k = P1 k) (hP2 : ∀ k, k < (vtx V u).length → mA μ0 30 k = P2 k) (o1 : PrOK P1 (vtx V u).length (vtx V v).length) (o2 : PrOK P2 (vtx V u).length (vtx V w).length) (hcap0 : dn ≠ 0 → vv.1.length ≤ 20) (hQ : ∀ μ2, vv.1.length ≤ 40 → WvV (vtx V v) (vtx V w) (vtx V u) dn μ0 μ2 vv.1 vv.2 → Q (vv.1.length : Nat) μ2) :
    ∀ (d i ff sf bf : Nat) (T : List (Int64 × Int)) (cl : List Cnl) (μ1 : Mu), i + d = (vtx V u).length → wvN (vtx V v) (vtx V w) (vtx V u) P1 P2 d i ff sf bf T cl = vv → ff ≤ (vtx V v).length → sf ≤ (vtx V w).length → bf ≤ i → cl.length ≤ i → T.length ≤ ff + sf → (∀ j, i ≤ j → j < (vtx V u).length → P1 j ≠ -1 → P2 j ≠ -1 → (ff : Int) ≤ P1 j ∧ (sf : Int) ≤ P2 j) → WvV (vtx V v) (vtx V w) (vtx V u) dn μ0 μ1 T cl →
    Mw Ω σ0 m M_Mdl_weave rm_Mdl_weave (MQi Ω σ0 m rm_Mdl_weave Q) 65 [xr (some m), xi v, xi w, xi u, xi dn, xi bf, xi ff, xi sf, xi T.length, xi i, xu, xu, xu, xu, xu] [] μ1 := by
  have h40 := hV.2.1
  have lv := h20 v
  have lw := h20 w
  have lu := h20 u
  intro d
  induction d with
  | zero =>
    intro i ff sf bf T cl μ1 hi hv hff hsf hbf hcl hTl hord hW
    have hV1 := hV.fr hW.1 (by decide) (by decide)
    have ei : i = (vtx V u).length := by omega
    rw [wvN] at hv
    have hb : CnB (((ff : Int), ((vtx V v).length : Int)), ((sf : Int), ((vtx V w).length : Int)), ((bf : Int), (i : Int)), (T.length : Int), 0) (vtx V v) (vtx V w) (vtx V u) := ⟨⟨show (0 : Int) ≤ (ff : Int) by omega, show (ff : Int) ≤ ((vtx V v).length : Int) by omega, Int.le_refl _⟩, ⟨show (0 : Int) ≤ (sf : Int) by omega, show (sf : Int) ≤ ((vtx V w).length : Int) by omega, Int.le_refl _⟩, ⟨show (0 : Int) ≤ (bf : Int) by omega, show (bf : Int) ≤ (i : Int) by omega, show (i : Int) ≤ ((vtx V u).length : Int) by omega⟩⟩
    rw [← ei] at hv
    refine B_weave_65 ?_
    rw [hV1.sz u0.1 u0.2]
    refine ⟨by omega, by omega, by omega, fun z => absurd z (by omega), fun _ => ⟨fun z => absurd (by omega) z, fun _ => ?_⟩⟩
    refine B_weave_92 ⟨by decide, fun _ => ⟨fun z => absurd z (by decide), fun _ => ⟨by omega, by omega, fun z => absurd z (by decide), fun _ => ⟨by omega, by omega, ?_⟩⟩⟩, fun z => absurd z (by decide)⟩
    rw [hV1.sz v0.1 v0.2, hV1.sz w0.1 w0.2]
    refine weave_piece hdn hV hI h20 hN v0 w0 u0 hW hb (by decide) (fun z => ⟨by have h9 := hcap0 z; rw [← hv] at h9; exact h9, by omega⟩) (by omega) (by omega) (fun v13 v14 μ2 hW2 => ⟨fun z => absurd z (by decide), fun _ => ?_⟩)
    have hV2 := hV.fr hW2.1 (by decide) (by decide)
    refine B_weave_65 ?_
    rw [hV2.sz u0.1 u0.2]
    refine ⟨by omega, by omega, by omega, fun _ => R_weave_395 ?_, fun z => absurd (by omega) z⟩
    have hwl := wpT_len (T := T) hb
    have hwl' : (wpT (vtx V v) (vtx V w) (vtx V u) T (((ff : Int), ((vtx V v).length : Int)), ((sf : Int), ((vtx V w).length : Int)), ((bf : Int), (i : Int)), (T.length : Int), 0)).length ≤ T.length + ((((vtx V v).length : Int) - ff).toNat + (((vtx V w).length : Int) - sf).toNat) := hwl
    have e1 : wpC (vtx V v) (vtx V w) (vtx V u) cl (((ff : Int), ((vtx V v).length : Int)), ((sf : Int), ((vtx V w).length : Int)), ((bf : Int), (i : Int)), (T.length : Int), 0) = vv.2 := congrArg Prod.snd hv
    have e2 : wpT (vtx V v) (vtx V w) (vtx V u) T (((ff : Int), ((vtx V v).length : Int)), ((sf : Int), ((vtx V w).length : Int)), ((bf : Int), (i : Int)), (T.length : Int), 0) = vv.1 := congrArg Prod.fst hv
    rw [e1, e2] at hW2
    rw [e2] at hwl'
    rw [Int.add_zero, e2]
    exact hQ μ2 (by omega) hW2
  | succ d ih =>
    intro i ff sf bf T cl μ1 hi hv hff hsf hbf hcl hTl hord hW
    have hV1 := hV.fr hW.1 (by decide) (by decide)
    have li : i < (vtx V u).length := by omega
    rw [wvN] at hv
    have r31 : mA μ1 31 i = P1 i := by rw [hW.1.2.1 31 (by decide)]; exact hP1 i li
    have r30 : mA μ1 30 i = P2 i := by rw [hW.1.2.1 30 (by decide)]; exact hP2 i li
    have next : ¬ (P1 i ≠ -1 ∧ P2 i ≠ -1) → Mw Ω σ0 m M_Mdl_weave rm_Mdl_weave (MQi Ω σ0 m rm_Mdl_weave Q) 65 [xr (some m), xi v, xi w, xi u, xi dn, xi bf, xi ff, xi sf, xi T.length, xi ((i : Int) + 1), xu, xu, xu, xu, xu] [] μ1 := fun g => by
      rw [if_neg g] at hv
      exact ih (i + 1) ff sf bf T cl μ1 (by omega) hv hff hsf (by omega) (by omega) hTl (fun j q1 q2 => hord j (by omega) q2) hW
    refine B_weave_65 ?_
    rw [hV1.sz u0.1 u0.2]
    refine ⟨by omega, by omega, by omega, fun z => absurd z (by omega), fun _ => ⟨fun _ => ?_, fun z => absurd z (by omega)⟩⟩
    refine B_weave_92 ?_
    rw [Int.toNat_natCast, r31, r30]
    refine ⟨by decide, fun z => absurd rfl z, fun _ => ⟨by omega, by omega, fun e1 => next (fun z => z.1 e1), fun e1 => ⟨by omega, by omega, fun e2 => next (fun z => z.2 e2), fun e2 => ⟨fun _ => ⟨fun _ => ?_, fun z => absurd rfl z⟩, fun z => absurd rfl z⟩⟩⟩⟩
    rw [if_pos ⟨e1, e2⟩] at hv
    have hor := hord i (Nat.le_refl _) li e1 e2
    have r1 := (o1.1 i li).resolve_left e1
    have r2 := (o2.1 i li).resolve_left e2
    have hb : CnB (((ff : Int), P1 i), ((sf : Int), P2 i), ((bf : Int), (i : Int)), (T.length : Int), 0) (vtx V v) (vtx V w) (vtx V u) := ⟨⟨show (0 : Int) ≤ (ff : Int) by omega, hor.1, show P1 i ≤ ((vtx V v).length : Int) by omega⟩, ⟨show (0 : Int) ≤ (sf : Int) by omega, hor.2, show P2 i ≤ ((vtx V w).length : Int) by omega⟩, ⟨show (0 : Int) ≤ (bf : Int) by omega, show (bf : Int) ≤ (i : Int) by omega, show (i : Int) ≤ ((vtx V u).length : Int) by omega⟩⟩
    have sl1 : (slice (vtx V v) (P1 i) (P1 i + 1)).length = 1 := by rw [slice_len (by omega) (by omega) (by omega)]; omega
    have hwl := wpT_len (T := T) hb
    have hwl' : (wpT (vtx V v) (vtx V w) (vtx V u) T (((ff : Int), P1 i), ((sf : Int), P2 i), ((bf : Int), (i : Int)), (T.length : Int), 0)).length ≤ T.length + ((P1 i - ff).toNat + (P2 i - sf).toNat) := hwl
    have hcl' := wpC_len (F := vtx V v) (S := vtx V w) (B := vtx V u) (cl := cl) (c := (((ff : Int), P1 i), ((sf : Int), P2 i), ((bf : Int), (i : Int)), (T.length : Int), 0))
    have gge := wvN_ge (F := vtx V v) (S := vtx V w) (B := vtx V u) (P1 := P1) (P2 := P2) d (i + 1) ((P1 i).toNat + 1) ((P2 i).toNat + 1) (i + 1) (wpT (vtx V v) (vtx V w) (vtx V u) T (((ff : Int), P1 i), ((sf : Int), P2 i), ((bf : Int), (i : Int)), (T.length : Int), 0) ++ slice (vtx V v) (P1 i) (P1 i + 1)) (wpC (vtx V v) (vtx V w) (vtx V u) cl (((ff : Int), P1 i), ((sf : Int), P2 i), ((bf : Int), (i : Int)), (T.length : Int), 0))
    rw [hv, List.length_append, sl1] at gge
    refine weave_piece hdn hV hI h20 hN v0 w0 u0 hW hb (by decide) (fun z => ⟨by have := hcap0 z; omega, by omega⟩) (by omega) (by omega) (fun v13 v14 μ2 hW2 => ⟨fun _ => ?_, fun z => absurd rfl z⟩)
    have hV2 := hV.fr hW2.1 (by decide) (by decide)
    refine C_weave_363 (K_layLinesW hdn hW2 hV2 v0 lv (hN v) (by omega) (fun z => ⟨by have := hcap0 z; omega, by omega⟩)) fun y μ3 hq => ?_
    obtain ⟨rfl, hW3⟩ := hq
    refine B_weave_366 ?_
    have g := ih (i + 1) ((P1 i).toNat + 1) ((P2 i).toNat + 1) (i + 1) _ _ μ3 (by omega) hv (by omega) (by omega) (Nat.le_refl _) (by omega) (by rw [List.length_append, sl1]; omega) (fun j q1 q2 q3 q4 => by
      have p1 := o1.2 i j (by omega) q2 e1 q3
      have p2 := o2.2 i j (by omega) q2 e2 q4
      omega) hW3
    rw [List.length_append, sl1, show (((P1 i).toNat + 1 : Nat) : Int) = P1 i + 1 by omega, show (((P2 i).toNat + 1 : Nat) : Int) = P2 i + 1 by omega] at g
    rw [show P1 i + 1 - P1 i = 1 by omega]
    exact g
theorem weave_copy {σ0 : Sto} {F0 : QF} (hV : VeV V μa) (u0 : 0 ≤ u ∧ u < V.length) (lu : (vtx V u).length ≤ 20) (hP : ∀ k, k < (vtx V u).length → mA μa 30 k = P1 k) (out : ∀ (z : Int) μ1, Fr [] [31] [] μa μ1 → (∀ k, k < (vtx V u).length → mA μ1 31 k = P1 k) → Mw Ω σ0 m M_Mdl_weave rm_Mdl_weave F0 46 [xr (some m), xi v, xi w, xi u, xi dn, xi z, xu, xu, xu, xu, xu, xu, xu, xu, xu] [xi 0, xi w, xi u, xr (some m)] μ1) : ∀ (d i : Nat) (μ1 : Mu), i + d = (vtx V u).length → Fr [] [31] [] μa μ1 → (∀ k, k < i → mA μ1 31 k = P1 k) → Mw Ω σ0 m M_Mdl_weave rm_Mdl_weave F0 11 [xr (some m), xi v, xi w, xi u, xi dn, xi i, xu, xu, xu, xu, xu, xu, xu, xu, xu] [] μ1 := by
  have h40 := hV.2.1
  intro d
  induction d with
  | zero =>
    intro i μ1 hi hF hk
    have hV1 := hV.fr hF (by decide) (by decide)
    refine B_weave_11 ?_
    rw [hV1.sz u0.1 u0.2]
    exact ⟨by omega, by omega, by omega, fun _ => out _ μ1 hF (fun k h => hk k (by omega)), fun z => absurd (by omega) z⟩
  | succ d ih =>
    intro i μ1 hi hF hk
    have hV1 := hV.fr hF (by decide) (by decide)
    have r30 : mA μ1 30 i = P1 i := by rw [hF.2.1 30 (by decide)]; exact hP i (by omega)
    refine B_weave_11 ?_
    rw [hV1.sz u0.1 u0.2, Int.toNat_natCast, r30]
    refine ⟨by omega, by omega, by omega, fun z => absurd z (by omega), fun _ => ⟨by omega, by omega, by omega, by omega, ih (i + 1) _ (by omega) (hF.trans (Fr.wA (by decide))) (fun k h => ?_)⟩⟩
    rw [mA_wA]
    by_cases c : k = i
    · subst c; rw [if_pos ⟨rfl, rfl⟩]
    · rw [if_neg (fun z => c z.2)]; exact hk k (by omega)
theorem K_weave (hdn : dn = 0 ∨ dn = 1) (hV : VeV V μ) (h20 : ∀ v : Int, (vtx V v).length ≤ 20) (hI : IdV b μ) (hN : ∀ v : Int, Nm b (vtx V v)) (v0 : 0 ≤ v ∧ v < V.length) (w0 : 0 ≤ w ∧ w < V.length) (u0 : 0 ≤ u ∧ u < V.length) (hst : dn ≠ 0 → mI μ 15 = 0 ∧ mI μ 17 = 0 ∧ (wvA (vtx V v) (vtx V w) (vtx V u)).1.length ≤ 20) : MMi Ω m M_Mdl_weave rm_Mdl_weave (fun y μ' => y = ((wvA (vtx V v) (vtx V w) (vtx V u)).1.length : Nat) ∧ (wvA (vtx V v) (vtx V w) (vtx V u)).1.length ≤ 40 ∧ ∃ μ0, Fr [] [29, 30, 31] [] μ μ0 ∧ WvV (vtx V v) (vtx V w) (vtx V u) dn μ0 μ' (wvA (vtx V v) (vtx V w) (vtx V u)).1 (wvA (vtx V v) (vtx V w) (vtx V u)).2) μ [xi v, xi w, xi u, xi dn] := by
  refine E_weave fun σ0 => B_weave_0 ?_
  refine C_weave_4 (K_pair ⟨hV, h20, hI, hN, u0, v0, by decide⟩) fun y μa hq => B_weave_7 ?_
  obtain ⟨rfl, k1, hp1⟩ := hq
  have hVa := hV.fr k1 (by decide) (by decide)
  refine weave_copy (P1 := (prW (XL 0 (vtx V u)) (XL 0 (vtx V v))).1) hVa u0 (h20 u) hp1 (fun z μ1 k2 h31 => ?_) (vtx V u).length 0 μa (by omega) Fr.rf (fun k hk => absurd hk (by omega))
  have hV1 := hVa.fr k2 (by decide) (by decide)
  have hI1 := (hI.fr k1 (by decide) (by decide) (by decide) (by decide)).fr k2 (by decide) (by decide) (by decide) (by decide)
  refine C_weave_46 (K_pair ⟨hV1, h20, hI1, hN, u0, w0, by decide⟩) fun y μ2 hq => B_weave_49 ?_
  obtain ⟨rfl, k3, hp2⟩ := hq
  have hV2 := hV1.fr k3 (by decide) (by decide)
  have hI2 := hI1.fr k3 (by decide) (by decide) (by decide) (by decide)
  have kk : Fr [] [29, 30, 31] [] μ μ2 := ((k1.mono (by decide) (by decide) (by decide)).trans (k2.mono (by decide) (by decide) (by decide))).trans (k3.mono (by decide) (by decide) (by decide))
  have ok1 := prs_ok (XL 0 (vtx V u)) (XL 0 (vtx V v))
  have ok2 := prs_ok (XL 0 (vtx V u)) (XL 0 (vtx V w))
  have lX : ∀ T : List (Int64 × Int), (XL 0 T).length = T.length := fun T => List.length_map ..
  rw [lX, lX] at ok1 ok2
  refine weaveM_loop (P1 := (prW (XL 0 (vtx V u)) (XL 0 (vtx V v))).1) (P2 := (prW (XL 0 (vtx V u)) (XL 0 (vtx V w))).1) (vv := wvA (vtx V v) (vtx V w) (vtx V u)) hdn hV2 hI2 h20 hN v0 w0 u0 (fun k hk => by rw [k3.2.1 31 (by decide)]; exact h31 k hk) hp2 ok1 ok2 (fun z => (hst z).2.2) (fun μ3 l40 hW3 => ⟨rfl, l40, μ2, kk, hW3⟩) (vtx V u).length 0 0 0 0 [] [] μ2 (by omega) rfl (Nat.zero_le _) (Nat.zero_le _) (Nat.le_refl _) (Nat.le_refl _) (Nat.zero_le _) (fun j q1 q2 q3 q4 => ?_) ⟨Fr.rf, fun _ => rfl, fun z => ?_⟩
  · have r1 := (ok1.1 j q2).resolve_left q3
    have r2 := (ok2.1 j q2).resolve_left q4
    exact ⟨r1.1, r2.1⟩
  · obtain ⟨s1, s2, s3⟩ := hst z
    exact ⟨⟨(kk.1 17 (by decide)).trans s2, Nat.zero_le _, fun i c hc => by cases hc⟩, [], ⟨rfl, rfl, fun A C i c hR hc => by cases hc⟩, (kk.1 15 (by decide)).trans s1, Nat.zero_le _, fun i x hx => by cases hx⟩
theorem stB_0 : ∀ cl : List Cnl, (∀ c ∈ cl, cnS c = 0) → stB cl = 0
  | [], _ => rfl
  | c :: cl, h => by
    have h1 := stB_0 cl (fun d hd => h d (List.mem_cons_of_mem _ hd))
    have h2 := h c (List.mem_cons_self ..)
    simp only [stB, h1, if_pos h2]; rfl
theorem X_merge (h : MdV S μ) (hF : FmI (sV S)) (h20 : ∀ v : Int, (vtx (sV S) v).length ≤ 20) (hN : ∀ v : Int, Nm (sB S) (vtx (sV S) v)) (hv : Q32 v) (hw : Q32 w) (ha : Q32 au) : MMi Ω m M_Mdl_merge rm_Mdl_merge (OutI S (o_merge S v w au).1 (o_merge S v w au).2.1 (o_merge S v w au).2.2) μ [xi v, xi w, xi au] := by
  have h40 := h.2.1.2.1
  refine E_merge fun σ0 => B_merge_0 ?_
  have bad1 : ¬ (isV S v ∧ isV S w ∧ isP au) → Mw Ω σ0 m M_Mdl_merge rm_Mdl_merge (MQi Ω σ0 m rm_Mdl_merge (OutI S (o_merge S v w au).1 (o_merge S v w au).2.1 (o_merge S v w au).2.2)) 27 [xr (some m), xi v, xi w, xi au, xu, xu, xu] [] μ := fun c' => by
    have e : (o_merge S v w au).1 = 1 := c3_1 c'
    refine B_merge_27 ?_
    refine C_merge_103 (K_refused (by decide)) fun y μ2 hq => ?_
    obtain ⟨rfl, rfl⟩ := hq
    refine B_merge_106 ⟨bI_q, fun c2 => absurd c2 (by decide), fun _ => ?_⟩
    refine R_merge_110 ?_
    rw [e]; exact OutI.no h (by decide)
  refine C_merge_2 (K_isVersion hv h.2.1.1 h40) fun y μ1 hq => ?_
  obtain ⟨rfl, rfl⟩ := hq
  refine B_merge_5 ⟨bI_q, fun c => bad1 (fun z => bI_0.mp c z.1), fun c => ?_⟩
  refine C_merge_10 (K_isVersion hw h.2.1.1 h40) fun y μ1 hq => ?_
  obtain ⟨rfl, rfl⟩ := hq
  refine B_merge_13 ⟨bI_q, fun d => bad1 (fun z => bI_0.mp d z.2.1), fun d => ?_⟩
  refine C_merge_17 (k_isPerson ha) fun y hq => ?_
  subst hq
  refine B_merge_20 ⟨bI_q, fun f => bad1 (fun z => bI_0.mp f z.2.2), fun f => ?_⟩
  have c' : isV S v ∧ isV S w ∧ isP au := ⟨bI_1.mp c, bI_1.mp d, bI_1.mp f⟩
  have v0 := c'.1
  have w0 := c'.2.1
  have u0 : isV S ((bsN (sV S) v w : Nat) : Int) := bsN_isV v0 w0
  refine B_merge_28 ⟨by decide, fun z => absurd z (by decide), fun _ => ?_⟩
  refine C_merge_38 (K_baseOf hF h.2.1 v0.1 v0.2 w0.1 w0.2) fun y μ1 hq => ?_
  obtain ⟨rfl, rfl⟩ := hq
  refine B_merge_41 ⟨by decide, fun z => absurd z (by decide), fun _ => ⟨hv, hw, fun g => ⟨fun _ => ⟨fun z => absurd g z, fun _ => ?_⟩, fun z => absurd z (by decide)⟩, fun g => ?_⟩⟩
  · have e : (o_merge S v w au).1 = 2 := c3_2 c' (fun z => z g)
    refine C_merge_103 (K_refused (by decide)) fun y μ2 hq => ?_
    obtain ⟨rfl, rfl⟩ := hq
    refine B_merge_106 ⟨bI_q, fun c2 => absurd c2 (by decide), fun _ => ?_⟩
    refine R_merge_110 ?_
    rw [e]; exact OutI.no h (by decide)
  · refine C_merge_63 (K_weave (Or.inl rfl) h.2.1 h20 h.1 hN v0 w0 u0 (fun z => absurd rfl z)) fun y μ2 hq => ?_
    obtain ⟨rfl, l40, μx, k1, hWx⟩ := hq
    have ex := hWx.2.1 rfl
    subst ex
    have hx : MdV S μ2 := h.fr (k1.mono (by decide) (by decide) (by decide))
    have lvv : (vtx (sV S) v).length ≤ 20 := h20 v
    have e63 : (wvA (vtx (sV S) v) (vtx (sV S) w) (vtx (sV S) ((bsN (sV S) v w : Nat) : Int))) = mgW S v w := rfl
    rw [e63] at l40 ⊢
    refine B_merge_66 ⟨by decide, fun _ => ⟨hv, hw, fun _ => ⟨?_, fun l20 => ?_, fun l20 => ?_⟩, fun z => absurd z g⟩, fun z => absurd z (by decide)⟩
    · omega
    · have c20 : (mgW S v w).1.length ≤ 20 := by omega
      have e : (o_merge S v w au).1 = 0 := c3_t c' g c20
      refine C_merge_103 (K_refused (by decide)) fun y μ3 hq => ?_
      obtain ⟨rfl, rfl⟩ := hq
      refine B_merge_106 ⟨bI_q, fun _ => ⟨hv, hw, ha, ?_⟩, fun c2 => absurd (show bI ((0 : Int) ≠ 0) = 0 by decide) c2⟩
      have h0 := hx.w0 (v := 0)
      have hFr : Fr [11, 12, 13, 14, 15, 17, 18, 21] [] [] (wI μ2 0 0) (wI (wI (wI (wI (wI (wI (wI (wI (wI μ2 0 0) 11 1) 12 v) 13 w) 14 au) 17 0) 18 0) 21 0) 15 0) := Fr.trans (Fr.trans (Fr.trans (Fr.trans (Fr.trans (Fr.trans (Fr.trans (Fr.wI (by decide)) (Fr.wI (by decide))) (Fr.wI (by decide))) (Fr.wI (by decide))) (Fr.wI (by decide))) (Fr.wI (by decide))) (Fr.wI (by decide))) (Fr.wI (by decide))
      have g3 : (∀ z, mI (wI (wI (wI (wI (wI (wI (wI (wI (wI μ2 0 0) 11 1) 12 v) 13 w) 14 au) 17 0) 18 0) 21 0) 15 0) z = if z = 15 then 0 else if z = 21 then 0 else if z = 18 then 0 else if z = 17 then 0 else if z = 14 then au else if z = 13 then w else if z = 12 then v else if z = 11 then 1 else if z = 0 then 0 else mI μ2 z) := fun z => by simp only [mI_wI]
      generalize wI (wI (wI (wI (wI (wI (wI (wI (wI μ2 0 0) 11 1) 12 v) 13 w) 14 au) 17 0) 18 0) 21 0) 15 0 = μ3 at hFr g3 ⊢
      have hV3 := h0.2.1.fr hFr (by decide) (by decide)
      have hI3 := h0.1.fr hFr (by decide) (by decide) (by decide) (by decide)
      refine C_merge_157 (K_weave (Or.inr rfl) hV3 h20 hI3 hN v0 w0 u0 (fun _ => ⟨by rw [g3]; rfl, by rw [g3]; rfl, c20⟩)) fun y μ4 hq => B_merge_160 (R_merge_165 ?_)
      obtain ⟨-, -, μy, k2, hW4⟩ := hq
      rw [e63] at hW4
      obtain ⟨w1, -, w3⟩ := hW4
      obtain ⟨hP4, R, hR, hRV⟩ := w3 (by decide)
      have k24 : Fr [15, 17] [9, 10, 11, 29, 30, 31] [] μ3 μ4 := (k2.mono (by decide) (by decide) (by decide)).trans (w1.mono (by decide) (by decide) (by decide))
      have kk : Dfr (wI μ2 0 0) μ4 := (hFr.mono (by decide) (by decide) (by decide)).trans (k24.mono (by decide) (by decide) (by decide))
      have g4 : ∀ z, z ∉ [15, 17] → mI μ4 z = mI μ3 z := fun z hz => k24.1 z hz
      have op0 : ∀ c ∈ (mgW S v w).2, cnS c = 0 := wvN_s _ _ _ _ _ _ _ (fun y h => by simp at h)
      have lR := hR.len
      have lO : (opL (mgW S v w).2).length ≤ (mgW S v w).2.length := opG_len 0 _
      rw [List.length_map] at lR
      have l21 := hP4.2.1
      rw [e]
      refine OutI.ok (by rw [g4 0 (by decide), g3]; rfl) ?_ ?_
      · rw [hP4.1]; rfl
      · refine h0.upD kk rfl rfl rfl rfl rfl ((h0.1.fr hFr (by decide) (by decide) (by decide) (by decide)).fr k24 (by decide) (by decide) (by decide) (by decide)) ⟨?_, fun r hr => ?_⟩
        · rw [g4 11 (by decide), g3]; rfl
        · have er : r = ((mgW S v w).1, (mgW S v w).2, [], au, v, w, bsN (sV S) v w) := (Option.some.inj hr).symm
          subst er
          have eS : srcS (sV S) ((mgW S v w).1, (mgW S v w).2, [], au, v, w, bsN (sV S) v w) = vtx (sV S) w := if_neg (show ¬ w = -1 by omega)
          have eB : srcB (sV S) ((mgW S v w).1, (mgW S v w).2, [], au, v, w, bsN (sV S) v w) = vtx (sV S) ((bsN (sV S) v w : Nat) : Int) := if_neg (show ¬ w = -1 by omega)
          refine ⟨⟨by rw [g4 12 (by decide), g3]; rfl, by rw [g4 13 (by decide), g3]; rfl, by rw [g4 14 (by decide), g3]; rfl, ?_⟩, ?_, ⟨R, hR, hRV, by omega⟩, ?_, fun e E he => by cases he⟩
          · rw [g4 18 (by decide), g3]
            exact (stB_0 _ op0).symm
          · rw [eS, eB]; exact hP4
          · rw [g4 21 (by decide), g3]; rfl
    · have c20 : ¬ (mgW S v w).1.length ≤ 20 := by omega
      have e : (o_merge S v w au).1 = 3 := c3_3 c' g c20
      refine C_merge_103 (K_refused (by decide)) fun y μ3 hq => ?_
      obtain ⟨rfl, rfl⟩ := hq
      refine B_merge_106 ⟨bI_q, fun c2 => absurd c2 (by decide), fun _ => R_merge_110 ?_⟩
      rw [e]; exact OutI.no hx (by decide)
end MGX
