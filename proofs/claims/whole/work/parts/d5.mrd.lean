/-! BY HAND: notes, hunks, rows that are alike, renew of the reference -/
theorem MdV.upN {S : St} {N : List Int} {μ μ' : Mu} (h : MdV S μ) (k : Fr [0, 36] [23] [] μ μ') (hN : NoM N μ') : MdV (setN S N) μ' := by
  obtain ⟨a1, a2, a3, a4, a5, a6, a7⟩ := h
  exact ⟨a1.fr k (by decide) (by decide) (by decide) (by decide), a2.fr k (by decide) (by decide), a3.fr k (by decide) (by decide) (by decide), a4.fr k (by decide) (by decide), a5.fr k (by decide) (by decide) (by decide), hN, a7.fr k (by decide) (by decide)⟩
theorem MdV.upC {S : St} {C : Option CR} {μ μ' : Mu} (h : MdV S μ) (k : Fr [0, 25, 26, 53] [15, 16, 28, 29, 30, 31, 32, 33, 34, 35, 36, 37] [] μ μ') (hC : CmM C μ') : MdV (setC S C) μ' := by
  obtain ⟨a1, a2, a3, a4, a5, a6, a7⟩ := h
  exact ⟨a1.fr k (by decide) (by decide) (by decide) (by decide), a2.fr k (by decide) (by decide), a3.fr k (by decide) (by decide) (by decide), hC, a5.fr k (by decide) (by decide) (by decide), a6.fr k (by decide) (by decide), a7.fr k (by decide) (by decide)⟩
theorem MdV.upP {S : St} {P : List (List Hun)} {μ μ' : Mu} (h : MdV S μ) (k : Fr [0, 29, 53] [17, 18, 19, 20, 28, 29, 30, 31, 32, 33, 34, 35, 36, 37] [21, 22] μ μ') (hP : PaM P μ') : MdV (setP S P) μ' := by
  obtain ⟨a1, a2, a3, a4, a5, a6, a7⟩ := h
  exact ⟨a1.fr k (by decide) (by decide) (by decide) (by decide), a2.fr k (by decide) (by decide), a3.fr k (by decide) (by decide) (by decide), a4.fr k (by decide) (by decide), hP, a6.fr k (by decide) (by decide), a7.fr k (by decide) (by decide)⟩
/-- what a call that works on the draft may write -/
abbrev Dfr (μ μ' : Mu) : Prop := Fr [0, 1, 11, 12, 13, 14, 15, 17, 18, 21, 53] [2, 3, 9, 10, 11, 12, 13, 14, 28, 29, 30, 31, 32, 33, 34, 35, 36, 37] [1] μ μ'
theorem MdV.upD {S S' : St} {μ μ' : Mu} (h : MdV S μ) (k : Dfr μ μ') (eV : sV S' = sV S) (eC : sC S' = sC S) (eP : sP S' = sP S) (eN : sW S' = sW S) (eR : sR S' = sR S) (hB : IdV (sB S') μ') (hD : DM (sV S) (sD S') μ') : MdV S' μ' := by
  obtain ⟨a1, a2, a3, a4, a5, a6, a7⟩ := h
  exact ⟨hB, by rw [eV]; exact a2.fr k (by decide) (by decide), by rw [eV]; exact hD, by rw [eC]; exact a4.fr k (by decide) (by decide), by rw [eP]; exact a5.fr k (by decide) (by decide) (by decide), by rw [eN]; exact a6.fr k (by decide) (by decide), by rw [eR]; exact a7.fr k (by decide) (by decide)⟩
section MR5
variable {Ω : Om} {m : Nat} {μ : Mu} {S : St} {v w p q : Int}
theorem X_note (h : MdV S μ) (h20 : ∀ v : Int, (vtx (sV S) v).length ≤ 20) (hv : Q32 v) (hp : Q32 p) : MMi Ω m M_Mdl_note rm_Mdl_note (OutI S (cd2 (o_note S v p).1) (o_note S v p).2.1 (o_note S v p).2.2) μ [xi v, xi p] := by
  have h40 := h.2.1.2.1
  have hl := h20 v
  obtain ⟨n1, n2, n3⟩ := h.2.2.2.2.2.1
  refine E_note fun σ0 => B_note_0 ?_
  refine C_note_4 (K_isLineOf h h20 hv hp) fun y μ1 hq => ?_
  obtain ⟨rfl, rfl⟩ := hq
  refine B_note_7 ⟨bI_q, fun c => ⟨fun c3 => ?_, fun c3 => ?_⟩, fun c => ?_⟩
  · have c' := bI_1.mp c
    have hl2 : (sW S).length < 20 := by omega
    have e : cd2 (o_note S v p).1 = 0 := by show cd2 (c2 _ _ 1 3) = 0; rw [c2_t c' hl2]; rfl
    obtain ⟨y, y1, y2, y3⟩ := nmA_get c'.2.1 c'.2.2
    have t1 := h.2.1.tx c'.1.1 c'.1.2 y1
    have v1 := c'.1.1
    have v2 := c'.1.2
    have p1 := c'.2.1
    have p2 := c'.2.2
    refine C_note_28 (K_refused (by decide)) fun y μ2 hq => ?_
    obtain ⟨rfl, rfl⟩ := hq
    refine B_note_31 ⟨bI_q, fun _ => ?_, fun c2 => absurd (show bI ((0 : Int) ≠ 0) = 0 by decide) c2⟩
    rw [e, mI_wI, if_neg (by decide), n1, Int.toNat_natCast, mA_wI, show (20 * v + p).toNat = 20 * v.toNat + p.toNat by omega, t1]
    refine ⟨by omega, by omega, by omega, by omega, by omega, B_note_66 (R_note_72 (OutI.ok ?_ ?_ ?_))⟩
    · rw [mI_wI, if_neg (by decide), mI_wA, mw0]
    · rw [mI_wI, if_pos rfl]; show _ = (((sW S).length : Nat) : Int); omega
    · refine h.w0.upN (((Fr.wA (by decide)).trans (Fr.wI (by decide)))) ⟨?_, ?_, fun i x hx => ?_⟩
      · rw [mI_wI, if_pos rfl, List.length_append]; rfl
      · rw [List.length_append]; show (sW S).length + 1 ≤ 20; omega
      · rw [mA_wI, mA_wA, List.getElem?_append] at *
        by_cases c5 : i < (sW S).length
        · rw [if_pos c5] at hx
          rw [if_neg (by omega)]; exact n3 i x hx
        · rw [if_neg c5] at hx
          have e6 : i = (sW S).length := by have := (List.getElem?_eq_some_iff.mp hx).1; simp at this; omega
          subst e6
          rw [Nat.sub_self] at hx
          cases hx
          rw [if_pos ⟨rfl, rfl⟩, y2]
  · have c' := bI_1.mp c
    have e : cd2 (o_note S v p).1 = 2 := by show cd2 (c2 _ _ 1 3) = 2; rw [c2_2 c' (by omega)]; rfl
    refine C_note_28 (K_refused (by decide)) fun y μ2 hq => ?_
    obtain ⟨rfl, rfl⟩ := hq
    refine B_note_31 ⟨bI_q, fun c2 => absurd c2 (by decide), fun _ => ?_⟩
    refine R_note_35 ?_
    rw [e]; exact OutI.no h (by decide)
  · have c' := bI_0.mp c
    have e : cd2 (o_note S v p).1 = 1 := by show cd2 (c2 _ _ 1 3) = 1; rw [c2_1 c']; rfl
    refine C_note_28 (K_refused (by decide)) fun y μ2 hq => ?_
    obtain ⟨rfl, rfl⟩ := hq
    refine B_note_31 ⟨bI_q, fun c2 => absurd c2 (by decide), fun _ => ?_⟩
    refine R_note_35 ?_
    rw [e]; exact OutI.no h (by decide)
/-- a line comes from an earlier one -/
def OgI (b : BR) : Prop := ∀ i, i < bkN b → -1 ≤ bkO b i ∧ bkO b i < i
theorem noteAt_in {σ0 : Sto} {F : QF} {b : BR} {nt i : Int} (hB : IdV b μ) (hO : OgI b) (hnt : 0 ≤ nt) (hv : 0 ≤ v ∧ v < 20) (h23 : mA μ 23 v.toNat = nt) : ∀ (f : Nat) (x : Int), -1 ≤ x → x < f → f ≤ bkN b → (cmF (bkO b) f x nt = true → ∀ z, Mw Ω σ0 m M_Mdl_noteAt rm_Mdl_noteAt F 97 [xr (some m), xi v, xi w, xi i, xi z] [xi i] μ) → (cmF (bkO b) f x nt = false → Mw Ω σ0 m M_Mdl_noteAt rm_Mdl_noteAt F 38 [xr (some m), xi v, xi w, xi (i + 1), xu] [] μ) → Mw Ω σ0 m M_Mdl_noteAt rm_Mdl_noteAt F 61 [xr (some m), xi v, xi w, xi i, xi x] [] μ := by
  intro f
  have h12 := hB.2.1
  induction f with
  | zero =>
    intro x h1 h2 h3 ht hf
    have e : x = -1 := by omega
    subst e
    exact B_noteAt_61 ⟨by decide, fun _ => ⟨fun _ => hf rfl, fun z => absurd rfl z⟩, fun z => absurd rfl z⟩
  | succ f ih =>
    intro x h1 h2 h3 ht hf
    by_cases e : x = -1
    · subst e
      exact B_noteAt_61 ⟨by decide, fun _ => ⟨fun _ => hf (by simp [cmF]), fun z => absurd rfl z⟩, fun z => absurd rfl z⟩
    · have hx0 : ¬ x < 0 := by omega
      refine B_noteAt_61 ⟨by omega, fun z => absurd z e, fun _ => ⟨by omega, by omega, fun c => ⟨fun z => absurd z e, fun _ => ?_⟩, fun c => ⟨by omega, by omega, ?_⟩⟩⟩
      · rw [h23] at c
        exact ht (by simp only [cmF]; rw [if_neg hx0, if_pos c]) _
      · rw [h23] at c
        have ho := hO x.toNat (by omega)
        rw [(hB.2.2 x.toNat (by omega)).2.2]
        have ec : cmF (bkO b) (f + 1) x nt = cmF (bkO b) f (bkO b x.toNat) nt := by
          show (if x < 0 then false else if x = nt then true else cmF (bkO b) f (bkO b x.toNat) nt) = _
          rw [if_neg hx0, if_neg c]
        rw [ec] at ht hf
        exact ih (bkO b x.toNat) ho.1 (by omega) (by omega) ht hf
theorem noteAt_out {σ0 : Sto} {b : BR} {V : List VR} {nt : Int} {Q : Int → Mu → Prop} (hV : VeV V μ) (h20 : (vtx V w).length ≤ 20) (hB : IdV b μ) (hO : OgI b) (hnt : 0 ≤ nt) (hv : 0 ≤ v ∧ v < 20) (h23 : mA μ 23 v.toNat = nt) (hw : 0 ≤ w ∧ w < V.length) (hN : Nm b (vtx V w)) : ∀ (T : List (Int64 × Int)) (i : Nat), i ≤ 20 → (vtx V w).drop i = T → Q (naG b nt T i) μ → Mw Ω σ0 m M_Mdl_noteAt rm_Mdl_noteAt (MQi Ω σ0 m rm_Mdl_noteAt Q) 38 [xr (some m), xi v, xi w, xi i, xu] [] μ := by
  intro T
  have h40 := hV.2.1
  have e4 := hV.sz hw.1 hw.2
  induction T with
  | nil =>
    intro i hi hd hQ
    have hl : (vtx V w).length ≤ i := by
      have := congrArg List.length hd
      rw [List.length_drop] at this; simp at this; omega
    exact B_noteAt_38 ⟨by omega, by omega, by omega, fun _ => R_noteAt_105 hQ, fun c => absurd (by rw [e4]; omega) c⟩
  | cons y T ih =>
    intro i hi hd hQ
    have hl : i < (vtx V w).length := by
      have := congrArg List.length hd
      rw [List.length_drop] at this; simp at this; omega
    have hy : (vtx V w)[i]? = some y := by
      have := congrArg (fun l => l[0]?) hd
      simpa using this
    have hT : (vtx V w).drop (i + 1) = T := by
      have := congrArg List.tail hd
      simpa using this
    have n1 := hN.at hy
    have t1 := hV.tx hw.1 hw.2 hy
    refine B_noteAt_38 ⟨by omega, by omega, by omega, fun c => absurd c (by rw [e4]; omega), fun _ => ⟨by omega, by omega, ?_⟩⟩
    rw [show (20 * w + (i : Int)).toNat = 20 * w.toNat + i by omega, t1]
    refine noteAt_in hB hO hnt hv h23 (bkN b) y.2 (by omega) (by omega) (Nat.le_refl _) (fun c z => ?_) (fun c => ?_)
    · refine R_noteAt_97 ?_
      simp only [naG] at hQ
      rw [if_pos c] at hQ; exact hQ
    · simp only [naG] at hQ
      rw [if_neg (by rw [c]; decide)] at hQ
      exact ih (i + 1) (by omega) hT hQ
theorem X_noteAt (h : MdV S μ) (h20 : ∀ v : Int, (vtx (sV S) v).length ≤ 20) (hN : ∀ v : Int, Nm (sB S) (vtx (sV S) v)) (hO : OgI (sB S)) (hnt : ∀ y ∈ sW S, 0 ≤ y) (hv : Q32 v) (hw : Q32 w) : MMi Ω m M_Mdl_noteAt rm_Mdl_noteAt (OutI S (c1 ((0 ≤ v ∧ v < (sW S).length) ∧ isV S w)) (naG (sB S) ((sW S).getD v.toNat 0) (vtx (sV S) w) 0) S) μ [xi v, xi w] := by
  have h40 := h.2.1.2.1
  obtain ⟨n1, n2, n3⟩ := h.2.2.2.2.2.1
  refine E_noteAt fun σ0 => B_noteAt_0 ?_
  have bad : ¬ ((0 ≤ v ∧ v < (sW S).length) ∧ isV S w) → Mw Ω σ0 m M_Mdl_noteAt rm_Mdl_noteAt (MQi Ω σ0 m rm_Mdl_noteAt (OutI S (c1 ((0 ≤ v ∧ v < (sW S).length) ∧ isV S w)) (naG (sB S) ((sW S).getD v.toNat 0) (vtx (sV S) w) 0) S)) 28 [xr (some m), xi v, xi w, xu, xu] [xi 1, xr (some m)] μ := fun c' => by
    refine C_noteAt_28 (K_refused (by decide)) fun y μ2 hq => ?_
    obtain ⟨rfl, rfl⟩ := hq
    refine B_noteAt_31 ⟨bI_q, fun c2 => absurd c2 (by decide), fun _ => ?_⟩
    refine R_noteAt_35 ?_
    rw [c1_f c']; exact OutI.no h (by decide)
  rw [n1]
  refine C_noteAt_9 (k_in hv (by decide) (by omega)) fun y hq => ?_
  subst hq
  refine B_noteAt_12 ⟨bI_q, fun c => bad (fun z => bI_0.mp c (by omega)), fun c => ?_⟩
  refine C_noteAt_17 (K_isVersion hw h.2.1.1 h40) fun y μ1 hq => ?_
  obtain ⟨rfl, rfl⟩ := hq
  refine B_noteAt_20 ⟨bI_q, fun d => bad (fun z => bI_0.mp d z.2), fun d => ?_⟩
  have c' := bI_1.mp c
  have d' := bI_1.mp d
  refine C_noteAt_28 (K_refused (by decide)) fun y μ2 hq => ?_
  obtain ⟨rfl, rfl⟩ := hq
  refine B_noteAt_31 ⟨bI_q, fun _ => ?_, fun c2 => absurd (show bI ((0 : Int) ≠ 0) = 0 by decide) c2⟩
  have hw0 := h.w0 (v := 0)
  have hl : v.toNat < (sW S).length := by omega
  have e := n3 v.toNat _ (List.getElem?_eq_getElem hl)
  rw [c1_t ⟨by omega, d'⟩, List.getD_eq_getElem?_getD, List.getElem?_eq_getElem hl, Option.getD_some]
  exact noteAt_out hw0.2.1 (h20 w) hw0.1 hO (hnt _ (List.getElem_mem hl)) ⟨by omega, by omega⟩ (by rw [mA_wI]; exact e) d' (hN w) (vtx (sV S) w) 0 (by decide) rfl (OutI.ok mw0 rfl hw0)
theorem X_hunk (h : MdV S μ) (hv : Q32 v) (hw : Q32 w) (hp : Q32 p) : MMi Ω m M_Mdl_hunk rm_Mdl_hunk (OutI S (c2 ((0 ≤ v ∧ v < (sP S).length) ∧ 0 ≤ w ∧ w < (phk S v).length) (0 ≤ p ∧ p < 5) 1 2) (hnPart ((phk S v).getD w.toNat (0, 0, [], [], [], [])) p) S) μ [xi v, xi w, xi p] := by
  obtain ⟨p1, p2, p3⟩ := h.2.2.2.2.1
  refine E_hunk fun σ0 => B_hunk_0 ?_
  have bad : ∀ y : Int, ¬ ((0 ≤ v ∧ v < (sP S).length) ∧ 0 ≤ w ∧ w < (phk S v).length) → Mw Ω σ0 m M_Mdl_hunk rm_Mdl_hunk (MQi Ω σ0 m rm_Mdl_hunk (OutI S (c2 ((0 ≤ v ∧ v < (sP S).length) ∧ 0 ≤ w ∧ w < (phk S v).length) (0 ≤ p ∧ p < 5) 1 2) (hnPart ((phk S v).getD w.toNat (0, 0, [], [], [], [])) p) S)) 55 [xr (some m), xi v, xi w, xi p, xi y, xu] [xi 1, xr (some m)] μ := fun y c' => by
    refine C_hunk_55 (K_refused (by decide)) fun y μ2 hq => ?_
    obtain ⟨rfl, rfl⟩ := hq
    refine B_hunk_58 ⟨bI_q, fun c2 => absurd c2 (by decide), fun _ => ?_⟩
    refine R_hunk_62 ?_
    rw [c2_1 c']; exact OutI.no h (by decide)
  refine C_hunk_2 (K_isPatch h hv) fun y μ1 hq => ?_
  obtain ⟨rfl, rfl⟩ := hq
  refine B_hunk_5 ⟨bI_q, fun c => bad _ (fun z => bI_0.mp c z.1), fun c => ?_⟩
  have c' := bI_1.mp c
  have hl : v.toNat < (sP S).length := by omega
  have ep : (sP S)[v.toNat]? = some (phk S v) := by unfold phk; rw [List.getD_eq_getElem?_getD, List.getElem?_eq_getElem hl, Option.getD_some]
  obtain ⟨g1, g2, g3⟩ := p3 v.toNat _ ep
  refine ⟨by omega, by omega, ?_⟩
  rw [g1]
  refine C_hunk_18 (k_in hw (by decide) (by omega)) fun y hq => ?_
  subst hq
  refine B_hunk_21 ⟨bI_q, fun d => bad _ (fun z => bI_0.mp d (by omega)), fun d => ?_⟩
  have d' := bI_1.mp d
  have hl2 : w.toNat < (phk S v).length := by omega
  obtain ⟨⟨k1, k2⟩, ⟨k3, k4, k5, k6⟩, -⟩ := g3 w.toNat _ (List.getElem?_eq_getElem hl2)
  have cd : (0 ≤ v ∧ v < (sP S).length) ∧ 0 ≤ w ∧ w < (phk S v).length := ⟨c', by omega⟩
  refine C_hunk_44 (k_in hp (by decide) (by decide)) fun y hq => ?_
  subst hq
  refine B_hunk_47 ⟨bI_q, fun e => ?_, fun e => ?_⟩
  · have e' := bI_0.mp e
    refine C_hunk_55 (K_refused (by decide)) fun y μ2 hq => ?_
    obtain ⟨rfl, rfl⟩ := hq
    refine B_hunk_58 ⟨bI_q, fun c2 => absurd c2 (by decide), fun _ => ?_⟩
    refine R_hunk_62 ?_
    rw [c2_2 cd (fun z => e' (by omega))]; exact OutI.no h (by decide)
  · have e' := bI_1.mp e
    refine C_hunk_55 (K_refused (by decide)) fun y μ2 hq => ?_
    obtain ⟨rfl, rfl⟩ := hq
    refine B_hunk_58 ⟨bI_q, fun _ => ?_, fun c2 => absurd (show bI ((0 : Int) ≠ 0) = 0 by decide) c2⟩
    rw [c2_t cd (by omega), List.getD_eq_getElem?_getD, List.getElem?_eq_getElem hl2, Option.getD_some, mA_wI]
    have hw0 := h.w0 (v := 0)
    have hi : 21 * v.toNat + w.toNat < 210 := by omega
    refine ⟨by omega, fun f => ⟨by omega, by omega, R_hunk_98 (OutI.ok mw0 ?_ hw0)⟩, fun f => ⟨by omega, by omega, R_hunk_98 (OutI.ok mw0 ?_ hw0)⟩⟩
    · unfold hnPart
      rw [if_neg f]
      by_cases f1 : p = 1
      · rw [if_pos f1, ← k3]; congr 1; omega
      · rw [if_neg f1]
        by_cases f2 : p = 2
        · rw [if_pos f2, ← k4]; congr 1; omega
        · rw [if_neg f2]
          by_cases f3 : p = 3
          · rw [if_pos f3, ← k5]; congr 1; omega
          · rw [if_neg f3, ← k6]; congr 1; omega
    · unfold hnPart
      rw [if_pos f, ← k1]; congr 1; omega
theorem areAlike_loop {σ0 : Sto} {V : List VR} {b : BR} {f t s e : Int} (hV : VeV V μ) (h20 : ∀ v : Int, (vtx V v).length ≤ 20) (hB : IdV b μ) (hN : ∀ v : Int, Nm b (vtx V v)) (hv : 0 ≤ v ∧ v < V.length) (hw : 0 ≤ w ∧ w < V.length) (hf : 0 ≤ f ∧ f ≤ t ∧ t ≤ (vtx V v).length) (hs : 0 ≤ s ∧ s ≤ e ∧ e ≤ (vtx V w).length) : ∀ (d k : Nat) (x : Int), (k : Int) + d = t - f → (x = 0 ∨ x = 1) → (x = 0 → ¬ rowEq (vtx V v) (vtx V w) f t s e) → (x ≠ 0 → t - f = e - s ∧ ∀ j : Nat, j < k → lnA (vtx V v) (f + j) = lnA (vtx V w) (s + j)) → Mw Ω σ0 m M_Mdl_areAlike rm_Mdl_areAlike (MQi Ω σ0 m rm_Mdl_areAlike (fun y μ' => Bz y (rowEq (vtx V v) (vtx V w) f t s e) ∧ μ' = μ)) 21 [xr (some m), xi v, xi f, xi t, xi w, xi s, xi e, xi x, xi k] [] μ := by
  intro d
  have h40 := hV.2.1
  have l1 := h20 v
  have l2 := h20 w
  have b12 := hB.2.1
  induction d with
  | zero =>
    intro k x hk hx h0 h1
    refine B_areAlike_21 ⟨by omega, by omega, fun _ => R_areAlike_93 hx ⟨?_, rfl⟩, fun c => absurd (by omega) c⟩
    rcases hx with rfl | rfl
    · exact Or.inr ⟨rfl, h0 rfl⟩
    · obtain ⟨g1, g2⟩ := h1 (by decide)
      exact Or.inl ⟨rfl, g1, fun j hj => g2 j (by omega)⟩
  | succ d ih =>
    intro k x hk hx h0 h1
    refine B_areAlike_21 ⟨by omega, by omega, fun c => absurd c (by omega), fun _ => ⟨by omega, fun c => R_areAlike_93 hx ⟨Or.inr ⟨c, h0 c⟩, rfl⟩, fun c => ?_⟩⟩
    obtain ⟨g1, g2⟩ := h1 c
    obtain ⟨y1, z1, -, z3⟩ := nmA_get (T := vtx V v) (p := f + k) (by omega) (by omega)
    obtain ⟨y2, u1, -, u3⟩ := nmA_get (T := vtx V w) (p := s + k) (by omega) (by omega)
    have n1 := (hN v).at z1
    have n2 := (hN w).at u1
    have t1 := hV.tx hv.1 hv.2 z1
    have t2 := hV.tx hw.1 hw.2 u1
    rw [show (20 * v + f + (k : Int)).toNat = 20 * v.toNat + (f + k).toNat by omega, t1, show (20 * w + s + (k : Int)).toNat = 20 * w.toNat + (s + k).toNat by omega, t2, (hB.2.2 _ (by omega)).1, (hB.2.2 _ (by omega)).1, n1.2.2.1, n2.2.2.1]
    refine ⟨by omega, by omega, n1.1, by omega, by omega, by omega, n2.1, by omega, cmpL_r _ _, fun c2 => ?_, fun c2 => ?_⟩
    · refine ih (k + 1) 0 (by omega) (Or.inl rfl) (fun _ z => c2 ((cmpL_0 _ _).mpr ?_)) (fun z => absurd rfl z)
      have := z.2 k (by omega)
      rw [z3, u3] at this; exact this
    · refine ih (k + 1) 1 (by omega) (Or.inr rfl) (fun z => by cases z) (fun _ => ⟨g1, fun j hj => ?_⟩)
      by_cases ej : j = k
      · subst ej; rw [z3, u3]; exact (cmpL_0 _ _).mp c2
      · exact g2 j (by omega)
theorem K_areAlike {V : List VR} {b : BR} {f t s e : Int} (hV : VeV V μ) (h20 : ∀ v : Int, (vtx V v).length ≤ 20) (hB : IdV b μ) (hN : ∀ v : Int, Nm b (vtx V v)) (hv : 0 ≤ v ∧ v < V.length) (hw : 0 ≤ w ∧ w < V.length) (hf : 0 ≤ f ∧ f ≤ t ∧ t ≤ (vtx V v).length) (hs : 0 ≤ s ∧ s ≤ e ∧ e ≤ (vtx V w).length) : MMi Ω m M_Mdl_areAlike rm_Mdl_areAlike (fun y μ' => Bz y (rowEq (vtx V v) (vtx V w) f t s e) ∧ μ' = μ) μ [xi v, xi f, xi t, xi w, xi s, xi e] := by
  have l1 := h20 v
  have l2 := h20 w
  refine E_areAlike fun σ0 => B_areAlike_0 ⟨by omega, by omega, fun c => ?_, fun c => ?_⟩
  · exact areAlike_loop hV h20 hB hN hv hw hf hs (t - f).toNat 0 0 (by omega) (Or.inl rfl) (fun _ z => c z.1) (fun z => absurd rfl z)
  · exact areAlike_loop hV h20 hB hN hv hw hf hs (t - f).toNat 0 1 (by omega) (Or.inr rfl) (fun z => by cases z) (fun _ => ⟨c, fun j hj => absurd hj (by omega)⟩)
def gcn (g : Nat → Bool) : Nat → Nat
  | 0 => 0
  | n + 1 => gcn g n + if g n = true then 1 else 0
theorem gcn_le (g : Nat → Bool) : ∀ n, gcn g n ≤ n
  | 0 => Nat.le_refl _
  | n + 1 => by have := gcn_le g n; simp only [gcn]; split <;> omega
theorem renew_loop {σ0 : Sto} {V : Nat → Int} {a : Int} {same : Int} {v3 v4 v5 : Int} {μ0 : Mu} {Q : Int → Mu → Prop} (hq : 0 ≤ q ∧ q < 20) (hv : 0 ≤ v ∧ v < 40) (hs : same = 0 ∨ same = 1) (h6 : mA μ0 6 v.toNat = a) (hQ : ∀ μ', Fr [] [24, 27] [] μ0 μ' → (∀ j, j < 6 → mA μ' 27 (6 * q.toNat + j) = if V j ≠ 0 ∧ (same = 0 ∨ (j : Int) = a) then 0 else V j) → (∀ i, (i < 6 * q.toNat ∨ 6 * q.toNat + 6 ≤ i) → mA μ' 27 i = mA μ0 27 i) → (∀ i, mA μ' 24 i = if i = q.toNat then v else mA μ0 24 i) → Q (gcn (fun j => decide (V j ≠ 0 ∧ (same = 0 ∨ (j : Int) = a))) 6) μ') : ∀ (d k : Nat) (μ1 : Mu), k + d = 6 → Fr [] [27] [] μ0 μ1 → (∀ j, j < 6 → mA μ1 27 (6 * q.toNat + j) = if j < k ∧ V j ≠ 0 ∧ (same = 0 ∨ (j : Int) = a) then 0 else V j) → (∀ i, (i < 6 * q.toNat ∨ 6 * q.toNat + 6 ≤ i) → mA μ1 27 i = mA μ0 27 i) → Mw Ω σ0 m M_Mdl_renew rm_Mdl_renew (MQi Ω σ0 m rm_Mdl_renew Q) 121 [xr (some m), xi q, xi v, xi v3, xi v4, xi v5, xi same, xi (gcn (fun j => decide (V j ≠ 0 ∧ (same = 0 ∨ (j : Int) = a))) k), xi k, xu] [] μ1 := by
  intro d
  induction d with
  | zero =>
    intro k μ1 hk hF h27 ho
    have e : k = 6 := by omega
    subst e
    refine B_renew_121 ⟨by omega, fun _ => ⟨by omega, by omega, by omega, R_renew_229 (hQ _ ((hF.mono (fun _ h => h) (by decide) (fun _ h => h)).trans (Fr.wA (by decide))) (fun j hj => ?_) (fun i hi => ?_) (fun i => ?_))⟩, fun c => absurd (by omega) c⟩
    · rw [mA_wA, if_neg (fun z => absurd z.1 (by decide)), h27 j hj]
      by_cases c : V j ≠ 0 ∧ (same = 0 ∨ (j : Int) = a)
      · rw [if_pos ⟨hj, c⟩, if_pos c]
      · rw [if_neg (fun z => c z.2), if_neg c]
    · rw [mA_wA, if_neg (fun z => absurd z.1 (by decide))]; exact ho i hi
    · rw [mA_wA]
      by_cases c : i = q.toNat
      · rw [if_pos ⟨rfl, c⟩, if_pos c]
      · rw [if_neg (fun z => c z.2), if_neg c, hF.2.1 24 (by decide)]
  | succ d ih =>
    intro k μ1 hk hF h27 ho
    have ei : (6 * q + (k : Int)).toNat = 6 * q.toNat + k := by omega
    have hk6 := h27 k (by omega)
    rw [if_neg (fun z => absurd z.1 (by omega))] at hk6
    have e6 : mA μ1 6 v.toNat = a := by rw [hF.2.1 6 (by decide)]; exact h6
    have go : ∀ x : Int, (x = if V k ≠ 0 ∧ (same = 0 ∨ (k : Int) = a) then 0 else V k) → Mw Ω σ0 m M_Mdl_renew rm_Mdl_renew (MQi Ω σ0 m rm_Mdl_renew Q) 121 [xr (some m), xi q, xi v, xi v3, xi v4, xi v5, xi same, xi (gcn (fun j => decide (V j ≠ 0 ∧ (same = 0 ∨ (j : Int) = a))) (k + 1)), xi ((k : Int) + 1), xu] [] (wA μ1 27 (6 * q + (k : Int)).toNat x) := fun x hx => by
      rw [ei]
      refine ih (k + 1) _ (by omega) (hF.trans (Fr.wA (by decide))) (fun j hj => ?_) (fun i hi => ?_)
      · rw [mA_wA]
        by_cases c : j = k
        · subst c
          rw [if_pos ⟨rfl, rfl⟩, hx]
          by_cases c2 : V j ≠ 0 ∧ (same = 0 ∨ (j : Int) = a)
          · rw [if_pos c2, if_pos ⟨by omega, c2⟩]
          · rw [if_neg c2, if_neg (fun z => c2 z.2)]
        · rw [if_neg (by omega), h27 j hj]
          by_cases c2 : j < k ∧ V j ≠ 0 ∧ (same = 0 ∨ (j : Int) = a)
          · rw [if_pos c2, if_pos ⟨by omega, c2.2⟩]
          · rw [if_neg c2, if_neg (fun z => c2 ⟨by omega, z.2⟩)]
      · rw [mA_wA, if_neg (by omega)]; exact ho i hi
    have yes : (V k ≠ 0 ∧ (same = 0 ∨ (k : Int) = a)) → Mw Ω σ0 m M_Mdl_renew rm_Mdl_renew (MQi Ω σ0 m rm_Mdl_renew Q) 159 [xr (some m), xi q, xi v, xi v3, xi v4, xi v5, xi same, xi (gcn (fun j => decide (V j ≠ 0 ∧ (same = 0 ∨ (j : Int) = a))) k), xi k, xu] [] μ1 := fun c => by
      have g := go 0 (if_pos c).symm
      simp only [gcn] at g
      rw [if_pos (decide_eq_true c)] at g
      exact B_renew_159 ⟨by omega, by omega, g⟩
    have no : ¬ (V k ≠ 0 ∧ (same = 0 ∨ (k : Int) = a)) → Mw Ω σ0 m M_Mdl_renew rm_Mdl_renew (MQi Ω σ0 m rm_Mdl_renew Q) 163 [xr (some m), xi q, xi v, xi v3, xi v4, xi v5, xi same, xi (gcn (fun j => decide (V j ≠ 0 ∧ (same = 0 ∨ (j : Int) = a))) k), xi k, xu] [] μ1 := fun c => by
      have g := go (V k) (if_neg c).symm
      simp only [gcn] at g
      rw [if_neg (by rw [decide_eq_false c]; decide)] at g
      refine B_renew_163 ⟨by omega, by omega, ?_⟩
      rw [ei, hk6, ← ei]
      exact g
    refine B_renew_121 ⟨by omega, fun c => absurd c (by omega), fun _ => ⟨by omega, by omega, fun c => ?_, fun c => ⟨by omega, fun c2 => ?_, fun c2 => ⟨hv.1, by omega, fun c3 => ?_, fun c3 => ?_⟩⟩⟩⟩
    · rw [ei, hk6] at c
      exact no (fun z => z.1 c)
    · rw [ei, hk6] at c
      exact yes ⟨c, Or.inl c2⟩
    · rw [e6] at c3
      exact no (fun z => z.2.elim c2 c3)
    · rw [ei, hk6] at c
      rw [e6] at c3
      exact yes ⟨c, Or.inr c3⟩
theorem gcn_same {V : Nat → Int} {a : Int} : ∀ n : Nat, gcn (fun j => decide (V j ≠ 0 ∧ ((1 : Int) = 0 ∨ (j : Int) = a))) n = if 0 ≤ a ∧ a < n ∧ V a.toNat ≠ 0 then 1 else 0
  | 0 => by rw [if_neg (by omega)]; rfl
  | n + 1 => by
    simp only [gcn]
    rw [gcn_same n]
    by_cases c : V n ≠ 0 ∧ ((1 : Int) = 0 ∨ (n : Int) = a)
    · have ea : a.toNat = n := by have := c.2; omega
      rw [if_pos (decide_eq_true c), if_neg (by omega), if_pos ⟨by omega, by omega, by rw [ea]; exact c.1⟩]
    · have e1 : (if decide (V n ≠ 0 ∧ ((1 : Int) = 0 ∨ (n : Int) = a)) = true then 1 else 0) = (0 : Nat) := if_neg (by rw [decide_eq_false c]; decide)
      rw [e1]
      by_cases c2 : 0 ≤ a ∧ a < n ∧ V a.toNat ≠ 0
      · rw [if_pos c2, if_pos ⟨c2.1, by omega, c2.2.2⟩]
      · rw [if_neg c2, if_neg]
        intro z
        by_cases e : a = n
        · exact c ⟨by have := z.2.2; rw [e] at this; exact this, Or.inr e.symm⟩
        · exact c2 ⟨z.1, by omega, z.2.2⟩
theorem gcn_all {V : Nat → Int} {a : Int} : ∀ n : Nat, gcn (fun j => decide (V j ≠ 0 ∧ ((0 : Int) = 0 ∨ (j : Int) = a))) n = nzV V n
  | 0 => rfl
  | n + 1 => by
    show gcn (fun j => decide (V j ≠ 0 ∧ ((0 : Int) = 0 ∨ (j : Int) = a))) n + (if decide (V n ≠ 0 ∧ ((0 : Int) = 0 ∨ (n : Int) = a)) = true then 1 else 0) = nzV V n + (if V n ≠ 0 then 1 else 0)
    rw [gcn_all n]
    congr 1
    by_cases c : V n ≠ 0
    · rw [if_pos (decide_eq_true ⟨c, Or.inl rfl⟩), if_pos c]
    · rw [if_neg (by rw [decide_eq_false (fun z => c z.1)]; decide), if_neg c]
theorem rowEq_sy {T O : List (Int64 × Int)} {f t g u : Int} : rowEq T O f t g u ↔ rowEq O T g u f t := by
  constructor
  · intro h; exact ⟨h.1.symm, fun j hj => (h.2 j (by have := h.1; omega)).symm⟩
  · intro h; exact ⟨h.1.symm, fun j hj => (h.2 j (by have := h.1; omega)).symm⟩
theorem X_renew (h : MdV S μ) (hF : FmI (sV S)) (h20 : ∀ v : Int, (vtx (sV S) v).length ≤ 20) (hN : ∀ v : Int, Nm (sB S) (vtx (sV S) v)) (hrv : ∀ r ∈ sR S, isV S r.1) (hau : ∀ i, isV S i → -1 ≤ vrA (vrO (sV S) i.toNat) ∧ vrA (vrO (sV S) i.toNat) < 6) (hq : Q32 q) (hv : Q32 v) : MMi Ω m M_Mdl_renew rm_Mdl_renew (OutI S (cd2 (o_renew S q v).1) (o_renew S q v).2.1 (o_renew S q v).2.2) μ [xi q, xi v] := by
  have h40 := h.2.1.2.1
  have hl20 := h.2.2.2.2.2.2.2.1
  refine E_renew fun σ0 => B_renew_0 ?_
  have bad : ∀ y z : Int, ¬ (isR S q ∧ isV S v) → Mw Ω σ0 m M_Mdl_renew rm_Mdl_renew (MQi Ω σ0 m rm_Mdl_renew (OutI S (cd2 (o_renew S q v).1) (o_renew S q v).2.1 (o_renew S q v).2.2)) 75 [xr (some m), xi q, xi v, xi y, xi z, xu, xu, xu, xu, xu] [xi 1, xr (some m)] μ := fun y z c' => by
    have e : cd2 (o_renew S q v).1 = 1 := by show cd2 (c2 _ _ 1 3) = 1; rw [c2_1 c']; rfl
    refine C_renew_75 (K_refused (by decide)) fun y μ2 hq => ?_
    obtain ⟨rfl, rfl⟩ := hq
    refine B_renew_78 ⟨bI_q, fun c2 => absurd c2 (by decide), fun _ => ?_⟩
    refine R_renew_82 ?_
    rw [e]; exact OutI.no h (by decide)
  have bad2 : ∀ y z : Int, isR S q ∧ isV S v → ¬ ((rvO S q).2.2.1 = 0 ∧ abv S v (rvO S q).1) → Mw Ω σ0 m M_Mdl_renew rm_Mdl_renew (MQi Ω σ0 m rm_Mdl_renew (OutI S (cd2 (o_renew S q v).1) (o_renew S q v).2.1 (o_renew S q v).2.2)) 75 [xr (some m), xi q, xi v, xi y, xi z, xu, xu, xu, xu, xu] [xi 2, xr (some m)] μ := fun y z c' d' => by
    have e : cd2 (o_renew S q v).1 = 2 := by show cd2 (c2 _ _ 1 3) = 2; rw [c2_2 c' d']; rfl
    refine C_renew_75 (K_refused (by decide)) fun y μ2 hq => ?_
    obtain ⟨rfl, rfl⟩ := hq
    refine B_renew_78 ⟨bI_q, fun c2 => absurd c2 (by decide), fun _ => ?_⟩
    refine R_renew_82 ?_
    rw [e]; exact OutI.no h (by decide)
  refine C_renew_2 (K_isReview h hq) fun y μ1 hq => ?_
  obtain ⟨rfl, rfl⟩ := hq
  refine B_renew_5 ⟨bI_q, fun c => bad _ _ (fun z => bI_0.mp c z.1), fun c => ?_⟩
  have c' := bI_1.mp c
  obtain ⟨r1, r2, r3, r4⟩ := ReM.at h c'
  have q1 := c'.1
  have q2 := c'.2
  have hmem : rvO S q ∈ sR S := by
    have hl : q.toNat < (sR S).length := by omega
    unfold rvO
    rw [List.getD_eq_getElem?_getD, List.getElem?_eq_getElem hl, Option.getD_some]
    exact List.getElem_mem _
  have v1 := hrv _ hmem
  refine C_renew_10 (K_isVersion hv h.2.1.1 h40) fun y μ1 hq => ?_
  obtain ⟨rfl, rfl⟩ := hq
  refine B_renew_13 ⟨bI_q, fun d => B_renew_20 (bad _ _ (fun z => bI_0.mp d z.2)), fun d => ?_⟩
  have d' := bI_1.mp d
  have w0 := d'.1
  have w1 := d'.2
  refine B_renew_21 ⟨by decide, fun z => absurd z (by decide), fun _ => ⟨q1, by omega, fun c3 => ?_, fun c3 => ⟨q1, by omega, ?_⟩⟩⟩
  · rw [r3] at c3
    exact ⟨fun _ => bad2 _ _ ⟨c', d'⟩ (fun z => c3 z.1), fun z => absurd z (by decide)⟩
  · rw [r3] at c3
    rw [r1]
    refine C_renew_43 (K_isOver hF h.2.1 w0 w1 v1.1 v1.2) fun y μ2 hq => ?_
    obtain ⟨rfl, rfl⟩ := hq
    refine B_renew_46 ⟨bI_q, fun e => ⟨by decide, fun _ => bad2 _ _ ⟨c', d'⟩ (fun z => bI_0.mp e z.2), fun z => absurd z (by decide)⟩, fun e => ⟨by decide, fun _ => ?_, fun z => absurd z (by decide)⟩⟩
    have e' := bI_1.mp e
    have ec : cd2 (o_renew S q v).1 = 0 := by show cd2 (c2 _ _ 1 3) = 0; rw [c2_t ⟨c', d'⟩ ⟨c3, e'⟩]; rfl
    refine C_renew_75 (K_refused (by decide)) fun y μ2 hq => ?_
    obtain ⟨rfl, rfl⟩ := hq
    refine B_renew_78 ⟨bI_q, fun _ => ?_, fun c2 => absurd (show bI ((0 : Int) ≠ 0) = 0 by decide) c2⟩
    have hw0 := h.w0 (v := 0)
    have x0 := v1.1
    have x1 := v1.2
    rw [mA_wI, r1, h.2.1.sz w0 w1, h.2.1.sz x0 x1]
    refine ⟨q1, by omega, x0, by omega, w0, by omega, ?_⟩
    refine C_renew_110 (K_areAlike hw0.2.1 h20 hw0.1 hN v1 d' ⟨by decide, by omega, Int.le_refl _⟩ ⟨by decide, by omega, Int.le_refl _⟩) fun y μ3 hq => ?_
    obtain ⟨hy, rfl⟩ := hq
    refine B_renew_113 ?_
    have au := hau v d'
    have ver := hw0.2.1.2.2 v.toNat (by omega)
    have hys : y = 0 ∨ y = 1 := hy.elim (fun z => Or.inr z.1) (fun z => Or.inl z.1)
    have hrn : (∀ j, j < 6 → (rnV S q v).1 j = if (rvO S q).2.2.2 j ≠ 0 ∧ (y = 0 ∨ (j : Int) = vrA (vrO (sV S) v.toNat)) then 0 else (rvO S q).2.2.2 j) ∧ ((gcn (fun j => decide ((rvO S q).2.2.2 j ≠ 0 ∧ (y = 0 ∨ (j : Int) = vrA (vrO (sV S) v.toNat)))) 6 : Nat) : Int) = (rnV S q v).2 := by
      unfold rnV
      rcases hy with ⟨rfl, hs⟩ | ⟨rfl, hs⟩
      · rw [if_pos (rowEq_sy.mp hs), gcn_same]
        refine ⟨fun j hj => ?_, ?_⟩
        · dsimp only
          by_cases a0 : 0 ≤ vrA (vrO (sV S) v.toNat)
          · rw [if_pos a0]
            show (if j = (vrA (vrO (sV S) v.toNat)).toNat then 0 else (rvO S q).2.2.2 j) = _
            by_cases ej : j = (vrA (vrO (sV S) v.toNat)).toNat
            · rw [if_pos ej]
              by_cases z : (rvO S q).2.2.2 j = 0
              · rw [if_neg (fun y => y.1 z), z]
              · rw [if_pos ⟨z, Or.inr (by omega)⟩]
            · rw [if_neg ej, if_neg (by omega)]
          · rw [if_neg a0, if_neg (by omega)]
        · dsimp only
          by_cases a0 : 0 ≤ vrA (vrO (sV S) v.toNat) ∧ (rvO S q).2.2.2 (vrA (vrO (sV S) v.toNat)).toNat ≠ 0
          · rw [if_pos a0, if_pos ⟨a0.1, by omega, a0.2⟩]; rfl
          · rw [if_neg a0, if_neg (fun z => a0 ⟨z.1, z.2.2⟩)]; rfl
      · rw [if_neg (fun z => hs (rowEq_sy.mp z)), gcn_all]
        refine ⟨fun j hj => ?_, rfl⟩
        dsimp only
        by_cases z : (rvO S q).2.2.2 j = 0
        · rw [if_neg (fun y => y.1 z), z]
        · rw [if_pos ⟨z, Or.inl rfl⟩]
    refine renew_loop (V := (rvO S q).2.2.2) (a := vrA (vrO (sV S) v.toNat)) ⟨q1, by omega⟩ ⟨w0, by omega⟩ hys ver.2.1 (fun μ' hF' f1 f2 f3 => ?_) 6 0 _ (by decide) Fr.rf (fun j hj => ?_) (fun _ _ => rfl)
    · rw [ec]
      refine OutI.ok ((hF'.1 0 (by decide)).trans mw0) hrn.2 (hw0.upR (fs := []) (js := [24, 27]) hF' (by decide) (by decide) (ReM.set hw0.2.2.2.2.2.2 (by omega) (hF'.1 38 (by decide)) ⟨?_, ?_, ?_, fun k hk => ?_⟩ (fun j hj => ⟨?_, ?_, ?_, fun k hk => ?_⟩)))
      · rw [f3, if_pos rfl]
      · rw [hF'.2.1 25 (by decide)]; exact r2
      · rw [hF'.2.1 26 (by decide)]; exact r3
      · rw [f1 k hk]; exact (hrn.1 k hk).symm
      · rw [f3, if_neg hj]
      · rw [hF'.2.1 25 (by decide)]
      · rw [hF'.2.1 26 (by decide)]
      · exact f2 _ (by omega)
    · rw [if_neg (fun z => absurd z.1 (by omega))]; exact r4 j hj
end MR5
