/-! BY HAND: edits of the draft, by the reference, 4: change, undo -/
section EDP
variable {Ω : Om} {m : Nat} {μ : Mu} {S : St} {p q v w : Int} {l : Int64}
theorem nmT_set {T : List (Int64 × Int)} {i : Nat} {y : Int64 × Int} : nmT (T.set i y) = (nmT T).set i y.2 := by
  unfold nmT; rw [List.map_set]
theorem X_change (h : MdV S μ) (hNm : NmD S) (hAu : AuI (sB S)) (hE : ∀ r, sD S = some r → (drE r).length < 640 ∧ isP (drA r)) (h12 : bkN (sB S) < 12000) (hp : Q32 p) : MMi Ω m M_Mdl_change rm_Mdl_change (OutI S (o_change S p l).1 (o_change S p l).2.1 (o_change S p l).2.2) μ [xi p, xl l] := by
  refine E_change fun σ0 => B_change_0 ?_
  refine C_change_3 (K_isPlaceS h hp) fun y μ1 hq => ?_
  obtain ⟨rfl, rfl⟩ := hq
  refine B_change_6 ⟨bI_q, fun c => ?_, fun c => ?_⟩
  · have c' := bI_1.mp c
    obtain ⟨r0, hD0⟩ := dr_some c'
    refine C_change_14 (k_isLine) fun y hq => ?_
    subst hq
    refine B_change_17 ⟨bI_q, fun d => ?_, fun d => ?_⟩
    · have d' := bI_1.mp d
      refine C_change_25 (K_settledS h hD0) fun y μ1 hq => ?_
      obtain ⟨rfl, rfl⟩ := hq
      refine B_change_28 ⟨bI_q, fun f => ?_, fun f => ?_⟩
      · have f' := bI_0.mp f
        have e : (o_change S p l).1 = 3 := c3_3 c' d' f'
        refine C_change_36 (K_refused (by decide)) fun y μ2 hq => ?_
        obtain ⟨rfl, rfl⟩ := hq
        refine B_change_39 ⟨bI_q, fun c2 => absurd c2 (by decide), fun _ => ?_⟩
        refine R_change_43 ?_
        rw [e]; exact OutI.no h (by decide)
      · have f' := bI_1.mp f
        have e : (o_change S p l).1 = 0 := c3_t c' d' f'
        refine C_change_36 (K_refused (by decide)) fun y μ2 hq => ?_
        obtain ⟨rfl, rfl⟩ := hq
        refine B_change_39 ⟨bI_q, fun _ => ?_, fun c2 => absurd (show bI ((0 : Int) ≠ 0) = 0 by decide) c2⟩
        have h0 := h.w0 (v := 0)
        obtain ⟨r, hD, eD, ho, hz, hV, hR, hl, hM⟩ := h0.wh f'
        obtain ⟨hE1, hE2⟩ := hE r hD
        have hNr := hNm r hD
        rw [hz] at c'
        obtain ⟨y, hy⟩ : ∃ y, (drT r)[p.toNat]? = some y := ⟨_, List.getElem?_eq_getElem (by omega)⟩
        have ny := hNr y (List.mem_of_getElem? hy)
        have ey : chX S p = y := by unfold chX; rw [eD, List.getD_eq_getElem?_getD, hy]; rfl
        have b12 := h0.1.2.1
        have pl : p.toNat < (drT r).length := by omega
        refine C_change_45 (K_remember hV hE1 (by rw [List.length_map]; exact hl) hM.2.2.2.1) fun μ2 hq => ?_
        have hV2 := hV.fr hq.1 (by decide) (by decide)
        have hI2 := h0.1.fr hq.1 (by decide) (by decide) (by decide) (by decide)
        have z2 : mI μ2 0 = 0 := by rw [hq.1.1 0 (by decide)]; exact mw0
        refine B_change_48 ?_
        rw [hV2.2.2 _ _ (nmT_at hy), (hI2.2.2 y.2.toNat (by omega)).1, ny.2.2.1, hq.1.1 14 (by decide), hM.1.2.2.1]
        refine ⟨by omega, by omega, ny.1, by omega, cmpL_r _ _, fun g => ?_, fun g => ?_⟩
        · rw [cmpL_0] at g
          refine C_change_94 (K_likenessOf (ln_len ny.2.2.2)) fun z μ3 hq3 => R_change_97 ?_
          obtain ⟨rfl, k3⟩ := hq3
          rw [e]
          refine OutI.ok ((k3.1 0 (by decide)).trans z2) ?_ ?_
          · show _ = lkN (chX S p).1 l
            rw [ey]
          · show MdV (edS S (chT S p l) (drC (drO S)) _ (chB S p l)) μ3
            have e1 : chT S p l = drT r := by unfold chT; rw [ey, if_pos g, eD]
            have e2 : chB S p l = sB S := by unfold chB; rw [ey, if_pos g]
            rw [e1, e2, eD]
            exact h0.edit hD hR (by rw [List.length_map]; exact hl) hq (k3.mono (by decide) (by decide) (by decide)) (hI2.fr k3 (by decide) (by decide) (by decide) (by decide)) (R' := nmT (drT r)) hR (hV2.fr k3 (by decide) (by decide)) (by rw [List.length_map]; exact hl) (by rw [k3.1 18 (by decide), hq.1.1 18 (by decide)]; exact hM.1.2.2.2) ((hM.2.1.fr hq.1 (by decide) (by decide)).fr k3 (by decide) (by decide)) ⟨rfl, rfl⟩
        · rw [cmpL_0] at g
          refine C_change_81 (K_id hI2 h12 (by omega) (by omega)) fun z μ3 hq3 => ?_
          obtain ⟨rfl, k3, hI3⟩ := hq3
          have g3 := (hI3.2.2 y.2.toNat (by show y.2.toNat < bkN (sB S) + 1; omega)).1
          have es : bkS (bkP (sB S) l (drA r) y.2) y.2.toNat = y.1 := by
            show up1 (bkS (sB S)) (bkN (sB S)) l y.2.toNat = y.1
            unfold up1; rw [if_neg (by omega)]; exact ny.2.2.1
          have hV3 := hV2.fr k3 (by decide) (by decide)
          refine B_change_84 ⟨by omega, by omega, by omega, ny.1, by omega, ?_⟩
          rw [g3, es]
          have hV4 := hV3.set (i := p.toNat) (x := (bkN (sB S) : Int)) (by rw [List.length_map]; exact pl)
          refine C_change_94 (K_likenessOf (ln_len ny.2.2.2)) fun z μ5 hq5 => R_change_97 ?_
          obtain ⟨rfl, k5⟩ := hq5
          have k4 : Fr [] [9] [] μ3 (wA μ3 9 p.toNat (bkN (sB S) : Int)) := Fr.wA (by decide)
          generalize wA μ3 9 p.toNat (bkN (sB S) : Int) = μ4 at hV4 k4 k5
          have kk : Fr [1] [2, 3, 9, 28] [1] μ2 μ5 := ((k3.mono (by decide) (by decide) (by decide)).trans (k4.mono (by decide) (by decide) (by decide))).trans (k5.mono (by decide) (by decide) (by decide))
          have hI5 := (hI3.fr k4 (by decide) (by decide) (by decide) (by decide)).fr k5 (by decide) (by decide) (by decide) (by decide)
          rw [e]
          refine OutI.ok ((kk.1 0 (by decide)).trans z2) ?_ ?_
          · show _ = lkN (chX S p).1 l
            rw [ey]
          · show MdV (edS S (chT S p l) (drC (drO S)) _ (chB S p l)) μ5
            have e1 : chT S p l = (drT r).set p.toNat (l, (bkN (sB S) : Int)) := by unfold chT; rw [ey, if_neg g, eD]
            have e2 : chB S p l = (bkN (sB S) + 1, sgN (bkS (sB S)) ((drT r).set p.toNat (l, (bkN (sB S) : Int))), up1 (bkA (sB S)) (bkN (sB S)) (drA r), up1 (bkO (sB S)) (bkN (sB S)) y.2) := by unfold chB; rw [e1, ey, if_neg g, eD]
            rw [e1, e2, eD]
            refine h0.edit hD hR (by rw [List.length_map]; exact hl) hq (kk.mono (by decide) (by decide) (by decide)) (idv_sg hI5 (fun z hz => ?_) ?_) (R' := (nmT (drT r)).set p.toNat (bkN (sB S) : Int)) ?_ (hV4.fr k5 (by decide) (by decide)) (by rw [List.length_set, List.length_map]; exact hl) (by rw [kk.1 18 (by decide), hq.1.1 18 (by decide)]; exact hM.1.2.2.2) ((hM.2.1.fr hq.1 (by decide) (by decide)).fr kk (by decide) (by decide)) ⟨rfl, rfl⟩
            · rcases List.mem_or_eq_of_mem_set hz with g | g
              · have := hNr z g; exact Or.inl ⟨this.1, this.2.1, this.2.2.1⟩
              · exact Or.inr g
            · exact List.mem_iff_getElem?.mpr ⟨p.toNat, by rw [List.getElem?_set_self pl]⟩
            · rw [nmT_set]
              refine RwV.of ho (fun z hz => ?_)
              rcases List.mem_or_eq_of_mem_set hz with g | g
              · exact nm_ge hNr z g
              · omega
    · have d' := bI_0.mp d
      have e : (o_change S p l).1 = 2 := c3_2 c' d'
      refine C_change_36 (K_refused (by decide)) fun y μ2 hq => ?_
      obtain ⟨rfl, rfl⟩ := hq
      refine B_change_39 ⟨bI_q, fun c2 => absurd c2 (by decide), fun _ => ?_⟩
      refine R_change_43 ?_
      rw [e]; exact OutI.no h (by decide)
  · have c' := bI_0.mp c
    have e : (o_change S p l).1 = 1 := c3_1 c'
    refine C_change_36 (K_refused (by decide)) fun y μ2 hq => ?_
    obtain ⟨rfl, rfl⟩ := hq
    refine B_change_39 ⟨bI_q, fun c2 => absurd c2 (by decide), fun _ => ?_⟩
    refine R_change_43 ?_
    rw [e]; exact OutI.no h (by decide)
/-- the same pieces -/
def SmP (C C' : List Cnl) : Prop := C'.length = C.length ∧ ∀ (i : Nat) (c c' : Cnl), C[i]? = some c → C'[i]? = some c' → ∀ p, cnF c' p = cnF c p ∧ cnT c' p = cnT c p
theorem PcM.sm {F S B : List (Int64 × Int)} {C C' : List Cnl} (h : PcM F S B C μ) (k : SmP C C') : PcM F S B C' μ := by
  obtain ⟨h1, h2, h3⟩ := h
  refine ⟨by rw [k.1]; exact h1, by rw [k.1]; exact h2, fun i c' hc' p hp => ?_⟩
  have li := (List.getElem?_eq_some_iff.mp hc').1
  rw [k.1] at li
  obtain ⟨c, hc⟩ : ∃ c, C[i]? = some c := ⟨_, List.getElem?_eq_getElem li⟩
  obtain ⟨e1, e2⟩ := k.2 i c c' hc hc' p
  rw [e1, e2]
  exact h3 i c hc p hp
theorem psh_get {cl : List Cnl} {i : Nat} {n : Int} {q : Nat} : (psh cl i n)[q]? = (cl[q]?).map (fun c => if i < q then setPl c (cnP c + n) else c) := by
  unfold psh
  rw [psj_get]
  cases h : cl[q]? with
  | none => rfl
  | some c =>
    have := (List.getElem?_eq_some_iff.mp h).1
    show some (if i < q ∧ q < cl.length then _ else _) = some (if i < q then _ else _)
    by_cases e : i < q
    · rw [if_pos ⟨e, this⟩, if_pos e]
    · rw [if_neg (fun z => e z.1), if_neg e]
theorem stC_get {cl : List Cnl} {i : Nat} {c : Cnl} {how : Int} {q : Nat} (hc : cl[i]? = some c) : (stC cl i c how)[q]? = (cl[q]?).map (fun d => if q = i then setSe c 1 else if i < q then setPl d (cnP d + cnL c how) else d) := by
  have li := (List.getElem?_eq_some_iff.mp hc).1
  unfold stC
  rw [psh_get, List.getElem?_set]
  by_cases e : i = q
  · subst e
    rw [if_pos rfl, if_pos li, hc]
    show some _ = some _
    dsimp only
    rw [if_neg (Nat.lt_irrefl _), if_pos rfl]
  · rw [if_neg e]
    cases cl[q]? with
    | none => rfl
    | some d =>
      show some _ = some _
      dsimp only
      rw [if_neg (show ¬ q = i from fun z => e z.symm)]
theorem SmP.st {cl : List Cnl} {i : Nat} {c : Cnl} {how : Int} (hc : cl[i]? = some c) : SmP cl (stC cl i c how) := by
  refine ⟨by unfold stC; rw [psh_len, List.length_set], fun q d d' h1 h2 p => ?_⟩
  rw [stC_get hc, h1] at h2
  have h3 := Option.some.inj h2
  dsimp only at h3
  rw [← h3]
  by_cases e : q = i
  · subst e
    rw [hc] at h1
    cases h1
    rw [if_pos rfl]; exact ⟨rfl, rfl⟩
  · rw [if_neg e]
    split <;> exact ⟨rfl, rfl⟩
theorem SmP.rf {cl : List Cnl} : SmP cl cl := ⟨rfl, fun i c c' h1 h2 p => by rw [h1] at h2; cases h2; exact ⟨rfl, rfl⟩⟩
theorem SmP.sy {C C' : List Cnl} (h : SmP C C') : SmP C' C := ⟨h.1.symm, fun i c c' h1 h2 p => ⟨((h.2 i c' c h2 h1 p).1).symm, ((h.2 i c' c h2 h1 p).2).symm⟩⟩
theorem setSe_id {c : Cnl} (h : cnS c = 0) : setSe (setSe c 1) 0 = c := by
  obtain ⟨a, b, d, e, f⟩ := c
  have : f = 0 := h
  subst this; rfl
/-- a settling undone -/
theorem tb_pf {C : List Cnl} {E : Edi} (h4 : edK E = 4 → ∃ c, C[(edT E).toNat]? = some c ∧ cnS c = 0) : tbC (pfC C E) E = C ∧ SmP (pfC C E) C := by
  unfold tbC pfC
  by_cases k : edK E = 4
  · obtain ⟨c, hc, hs⟩ := h4 k
    rw [if_pos k, if_pos k, hc]
    show (match (stC C (edT E).toNat c (edD E))[(edT E).toNat]? with | some c' => roC (stC C (edT E).toNat c (edD E)) (edT E).toNat c' (edD E) | none => _) = C ∧ SmP (stC C (edT E).toNat c (edD E)) C
    have g : (stC C (edT E).toNat c (edD E))[(edT E).toNat]? = some (setSe c 1) := by rw [stC_get hc, hc]; show some _ = some _; dsimp only; rw [if_pos rfl]
    rw [g]
    refine ⟨List.ext_getElem? (fun q => ?_), (SmP.st hc).sy⟩
    show (roC (stC C (edT E).toNat c (edD E)) (edT E).toNat (setSe c 1) (edD E))[q]? = C[q]?
    have el : cnL (setSe c 1) (edD E) = cnL c (edD E) := rfl
    have li := (List.getElem?_eq_some_iff.mp g).1
    unfold roC
    rw [psh_get, List.getElem?_set, setSe_id hs, el]
    by_cases e : (edT E).toNat = q
    · rw [if_pos e, if_pos (e ▸ li), ← e, hc]
      show some _ = some c
      dsimp only
      rw [if_neg (Nat.lt_irrefl _)]
    · rw [if_neg e, stC_get hc]
      cases C[q]? with
      | none => rfl
      | some d =>
        show some _ = some d
        dsimp only
        rw [if_neg (show ¬ q = (edT E).toNat from fun z => e z.symm)]
        by_cases e2 : (edT E).toNat < q
        · rw [if_pos e2, if_pos e2]
          obtain ⟨a1, a2, a3, a4, a5⟩ := d
          show some (a1, a2, a3, a4 + cnL c (edD E) + -cnL c (edD E), a5) = some (a1, a2, a3, a4, a5)
          rw [Int.add_neg_cancel_right]
        · rw [if_neg e2, if_neg e2]
  · rw [if_neg k, if_neg k]
    exact ⟨rfl, SmP.rf⟩
theorem undo_loop {σ0 : Sto} {F : QF} {R : List Int} {n : Nat} {s : Int} (h21 : mI μ 21 = n) (hn : n < 640) (hE : EdE μ n R s) (h48 : R.length ≤ 48) (h15 : mI μ 15 = R.length) (out : ∀ (i : Int) μ', Fr [] [9] [] μ μ' → RowV R μ' → Mw Ω σ0 m M_Mdl_undo rm_Mdl_undo F 108 [xr (some m), xi i] [xr (some m)] μ') : ∀ (d i : Nat) (μ1 : Mu), i + d = R.length → Fr [] [9] [] μ μ1 → (∀ k x, k < i → R[k]? = some x → mA μ1 9 k = x) → Mw Ω σ0 m M_Mdl_undo rm_Mdl_undo F 73 [xr (some m), xi i] [] μ1 := by
  intro d
  induction d with
  | zero =>
    intro i μ1 hi hF hx
    have e15 := (hF.1 15 (by decide)).trans h15
    exact B_undo_73 ⟨by omega, fun _ => out i μ1 hF ⟨e15, by omega, fun k x hk => hx k x (by have := (List.getElem?_eq_some_iff.mp hk).1; omega) hk⟩, fun c => absurd (by omega) c⟩
  | succ d ih =>
    intro i μ1 hi hF hx
    have e15 := (hF.1 15 (by decide)).trans h15
    have e21 := (hF.1 21 (by decide)).trans h21
    obtain ⟨y, hy⟩ : ∃ y, R[i]? = some y := ⟨_, List.getElem?_eq_getElem (by omega)⟩
    have t1 : mA μ1 14 (48 * n + i) = y := by rw [hF.2.1 14 (by decide)]; exact hE.2.2 i y hy
    refine B_undo_73 ?_
    rw [e21, show (48 * (n : Int) + (i : Int)).toNat = 48 * n + i by omega, t1, Int.toNat_natCast]
    refine ⟨by omega, fun c => absurd c (by omega), fun _ => ⟨by omega, by omega, by omega, by omega, ?_⟩⟩
    refine ih (i + 1) _ (by omega) (hF.trans (Fr.wA (by decide))) (fun k x hk hx' => ?_)
    rw [mA_wA]
    by_cases c : k = i
    · subst c
      rw [hy] at hx'
      rw [if_pos ⟨rfl, rfl⟩]; exact Option.some.inj hx'
    · rw [if_neg (fun z => c z.2)]; exact hx k x (by omega) hx'
theorem X_undo (h : MdV S μ) (hE : ∀ r, sD S = some r → (drE r).length < 640) (hU : ∀ r, sD S = some r → drE r ≠ [] → drC r = pfC (edC (lsE S)) (lsE S) ∧ (edK (lsE S) = 4 → ∃ c, (edC (lsE S))[(edT (lsE S)).toNat]? = some c ∧ cnS c = 0)) : MMi Ω m M_Mdl_undo rm_Mdl_undo (OutI S (cd1 (o_undo S).1) (o_undo S).2.1 (o_undo S).2.2) μ [] := by
  refine E_undo fun σ0 => B_undo_0 ?_
  have bad : ¬ (whB S = true ∧ 0 < (drE (drO S)).length) → Mw Ω σ0 m M_Mdl_undo rm_Mdl_undo (MQi Ω σ0 m rm_Mdl_undo (OutI S (cd1 (o_undo S).1) (o_undo S).2.1 (o_undo S).2.2)) 27 [xr (some m), xu] [xi 1, xr (some m)] μ := fun c' => by
    have e : cd1 (o_undo S).1 = 1 := cd1_f c'
    refine C_undo_27 (K_refused (by decide)) fun y μ2 hq => ?_
    obtain ⟨rfl, rfl⟩ := hq
    refine B_undo_30 ⟨bI_q, fun c2 => absurd c2 (by decide), fun _ => ?_⟩
    refine R_undo_34 ?_
    rw [e]; exact OutI.no h (by decide)
  cases hD0 : sD S with
  | none =>
    have e11 := DM.no h hD0
    exact ⟨fun _ => bad (fun z => by obtain ⟨r, h1, _⟩ := whB_iff.mp z.1; rw [hD0] at h1; cases h1), fun c => absurd e11 c⟩
  | some r0 =>
    have e11 := DM.yes h hD0
    have eD0 := drO_some hD0
    have h21 := (h.2.2.1.2 r0 hD0).2.2.2.1
    refine ⟨fun c => absurd c (by omega), fun _ => ⟨fun d => bad (fun z => by rw [eD0] at z; omega), fun d => ?_⟩⟩
    refine C_undo_16 (K_settledS h hD0) fun y μ1 hq => ?_
    obtain ⟨rfl, rfl⟩ := hq
    refine B_undo_19 ⟨bI_q, fun f => bad (fun z => bI_0.mp f z.1), fun f => ?_⟩
    have f' := bI_1.mp f
    have c' : whB S = true ∧ 0 < (drE (drO S)).length := ⟨f', by rw [eD0]; omega⟩
    have e : cd1 (o_undo S).1 = 0 := cd1_t c'
    refine C_undo_27 (K_refused (by decide)) fun y μ2 hq => ?_
    obtain ⟨rfl, rfl⟩ := hq
    refine B_undo_30 ⟨bI_q, fun _ => ?_, fun c2 => absurd (show bI ((0 : Int) ≠ 0) = 0 by decide) c2⟩
    have h0 := h.w0 (v := 0)
    obtain ⟨r, hD, eD, ho, hz, hV, hR, hl, hM⟩ := h0.wh f'
    have hE1 := hE r hD
    rw [eD] at c'
    obtain ⟨hd1, hd2⟩ := hM.2.2.2
    obtain ⟨n, hn⟩ : ∃ n, (drE r).length = n + 1 := ⟨(drE r).length - 1, by omega⟩
    have hne : drE r ≠ [] := fun z => by rw [z] at hn; cases hn
    obtain ⟨hu1, hu2⟩ := hU r hD hne
    have eL : (drE r)[n]? = some (lsE S) := by
      unfold lsE
      rw [eD, List.getLastD_eq_getLast?, List.getLast?_eq_getElem?, hn, Nat.add_sub_cancel, List.getElem?_eq_getElem (by omega)]; rfl
    obtain ⟨tb1, tb2⟩ := tb_pf hu2
    rw [← hu1] at tb1 tb2
    obtain ⟨R, g1, g2, g3⟩ := hd2 n _ eL
    obtain ⟨g2a, g2b, g2c⟩ := id g2
    rw [show mI (wI μ1 0 0) 21 - 1 = (n : Int) by rw [hd1, hn]; omega]
    have k1 : Fr [21] [] [] (wI μ1 0 0) (wI (wI μ1 0 0) 21 n) := Fr.wI (by decide)
    have i1 : mI (wI (wI μ1 0 0) 21 n) 21 = n := by rw [mI_wI, if_pos rfl]
    generalize wI (wI μ1 0 0) 21 n = μ2 at k1 i1 ⊢
    refine ⟨by omega, B_undo_45 ?_⟩
    rw [i1, Int.toNat_natCast, k1.2.1 12 (by decide), g2a]
    have k2 : Fr [15] [] [] μ2 (wI μ2 15 R.length) := Fr.wI (by decide)
    have i2 : mI (wI μ2 15 R.length) 15 = R.length := by rw [mI_wI, if_pos rfl]
    generalize wI μ2 15 (R.length : Int) = μ3 at k2 i2 ⊢
    refine ⟨by omega, by omega, B_undo_58 ?_⟩
    rw [k2.1 21 (by decide), i1, Int.toNat_natCast, k2.2.1 13 (by decide), k1.2.1 13 (by decide), g2b]
    have k3 : Fr [18] [] [] μ3 (wI μ3 18 (stB (edC (lsE S)))) := Fr.wI (by decide)
    have i3 : mI (wI μ3 18 (stB (edC (lsE S)))) 18 = stB (edC (lsE S)) := by rw [mI_wI, if_pos rfl]
    generalize wI μ3 18 (stB (edC (lsE S))) = μ4 at k3 i3 ⊢
    have k14 : Fr [21, 15, 18] [] [] (wI μ1 0 0) μ4 := ((k1.mono (by decide) (by decide) (by decide)).trans (k2.mono (by decide) (by decide) (by decide))).trans (k3.mono (by decide) (by decide) (by decide))
    have j21 : mI μ4 21 = n := by rw [k3.1 21 (by decide), k2.1 21 (by decide)]; exact i1
    have j15 : mI μ4 15 = R.length := by rw [k3.1 15 (by decide)]; exact i2
    refine ⟨by omega, by omega, undo_loop j21 (by omega) (g2.fr k14 (by decide) (by decide) (by decide)) g3 j15 (fun i μ5 k5 hV5 => ?_) R.length 0 μ4 (by omega) Fr.rf (fun k x hk => absurd hk (by omega))⟩
    refine C_undo_108 (K_lineCount hV5) fun y μ6 hq => ?_
    obtain ⟨rfl, rfl⟩ := hq
    have kk : Fr [21, 15, 18] [9] [] (wI μ1 0 0) μ6 := (k14.mono (by decide) (by decide) (by decide)).trans (k5.mono (by decide) (by decide) (by decide))
    refine R_undo_111 ?_
    rw [e]
    refine OutI.ok ((kk.1 0 (by decide)).trans mw0) ?_ ?_
    · rw [g1.ln, List.length_map]
      rfl
    · refine h0.upD (kk.mono (by decide) (by decide) (by decide)) rfl rfl rfl rfl rfl (h0.1.fr kk (by decide) (by decide) (by decide) (by decide)) ⟨?_, fun r' hr' => ?_⟩
      · rw [kk.1 11 (by decide), DM.yes h0 hD]; rfl
      · have er : r' = udD S := (Option.some.inj hr').symm
        unfold udD at er
        rw [eD, tb1] at er
        subst er
        obtain ⟨⟨a1, a2, a3, a4⟩, b, c, d⟩ := hM
        have li : (drE r).dropLast.length = n := by rw [List.length_dropLast, hn]; rfl
        refine ⟨⟨(kk.1 12 (by decide)).trans a1, (kk.1 13 (by decide)).trans a2, (kk.1 14 (by decide)).trans a3, (k5.1 18 (by decide)).trans i3⟩, (b.fr kk (by decide) (by decide)).sm tb2, ⟨R, g1, hV5, g3⟩, ?_, fun e E he => ?_⟩
        · rw [k5.1 21 (by decide), j21]
          show (n : Int) = (((drE r).dropLast.length : Nat) : Int)
          rw [li]
        · have he' : (drE r).dropLast[e]? = some E := he
          have le := (List.getElem?_eq_some_iff.mp he').1
          rw [List.getElem?_dropLast, if_pos (by omega)] at he'
          obtain ⟨R0, f1, f2, f3⟩ := hd2 e E he'
          exact ⟨R0, f1, f2.fr kk (by decide) (by decide) (by decide), f3⟩
end EDP
