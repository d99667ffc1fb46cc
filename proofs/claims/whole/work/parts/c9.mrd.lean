/-! BY HAND: the reference's calls that only tell -/
theorem mw0 {μ : Mu} {v : Int} : mI (wI μ 0 v) 0 = v := by rw [mI_wI, if_pos rfl]
theorem OutI.ok {S S' : St} {a y : Int} {μ' : Mu} (h0 : mI μ' 0 = 0) (ha : y = a) (h : MdV S' μ') : OutI S 0 a S' y μ' := ⟨h0, fun _ => ⟨ha, h⟩, fun z => absurd rfl z⟩
theorem OutL.ok {S S' : St} {a y : Int64} {μ' : Mu} (h0 : mI μ' 0 = 0) (ha : y = a) (h : MdV S' μ') : OutL S 0 a S' y μ' := ⟨h0, fun _ => ⟨ha, h⟩, fun z => absurd rfl z⟩
theorem OutV.ok {S S' : St} {μ' : Mu} (h0 : mI μ' 0 = 0) (h : MdV S' μ') : OutV S 0 S' μ' := ⟨h0, fun _ => h, fun z => absurd rfl z⟩
section MRD
variable {Ω : Om} {m : Nat} {μ : Mu} {S : St} {v w p q : Int}
theorem VeV.sz {V : List VR} (h : VeV V μ) (h0 : 0 ≤ v) (h1 : v < V.length) : mA μ 4 v.toNat = (vtx V v).length := (h.2.2 v.toNat (by omega)).1
theorem VeV.tx {V : List VR} (h : VeV V μ) (h0 : 0 ≤ v) (h1 : v < V.length) {k : Nat} {x : Int64 × Int} (hx : (vtx V v)[k]? = some x) : mA μ 5 (20 * v.toNat + k) = x.2 := (h.2.2 v.toNat (by omega)).2.2.2.2 k x hx
theorem K_isLineOf (h : MdV S μ) (h20 : ∀ v : Int, (vtx (sV S) v).length ≤ 20) (hv : Q32 v) (hp : Q32 p) : MMi Ω m M_Mdl_isLineOf rm_Mdl_isLineOf (fun y μ' => y = bI (isLi S v p) ∧ μ' = μ) μ [xi v, xi p] := by
  have hl := h20 v
  have h40 := h.2.1.2.1
  refine E_isLineOf fun σ0 => B_isLineOf_0 ?_
  refine C_isLineOf_2 (K_isVersion hv h.2.1.1 h40) fun y μ1 hq => ?_
  obtain ⟨rfl, rfl⟩ := hq
  refine B_isLineOf_5 ⟨bI_q, fun c => R_isLineOf_29 (Or.inl rfl) ⟨(bI_f (fun z => bI_0.mp c z.1)).symm, rfl⟩, fun c => ?_⟩
  have c' := bI_1.mp c
  refine ⟨by omega, by omega, ?_⟩
  rw [h.2.1.sz c'.1 c'.2]
  refine C_isLineOf_18 (k_in hp (by decide) (by omega)) fun y hq => ?_
  subst hq
  refine B_isLineOf_21 ⟨bI_q, fun c2 => R_isLineOf_29 (Or.inl rfl) ⟨(bI_f (fun z => bI_0.mp c2 (by omega))).symm, rfl⟩, fun c2 => R_isLineOf_29 (Or.inr rfl) ⟨(bI_t ⟨c', ?_⟩).symm, rfl⟩⟩
  have := bI_1.mp c2
  omega
theorem X_versions (h : MdV S μ) : MMi Ω m M_Mdl_versions rm_Mdl_versions (OutI S 0 (sV S).length S) μ [] := by
  refine E_versions fun σ0 => B_versions_0 ?_
  refine C_versions_5 (K_fine) fun y μ1 hq => ?_
  obtain ⟨rfl, rfl⟩ := hq
  exact R_versions_8 (OutI.ok mw0 h.2.1.1 h.w0)
theorem X_lines (h : MdV S μ) (hv : Q32 v) : MMi Ω m M_Mdl_lines rm_Mdl_lines (OutI S (c1 (isV S v)) (vtx (sV S) v).length S) μ [xi v] := by
  have h40 := h.2.1.2.1
  refine E_lines fun σ0 => B_lines_0 ?_
  refine C_lines_3 (K_isVersion hv h.2.1.1 h40) fun y μ1 hq => ?_
  obtain ⟨rfl, rfl⟩ := hq
  refine B_lines_6 ⟨bI_q, fun c => ?_, fun c => ?_⟩
  · have c' := bI_0.mp c
    refine C_lines_14 (K_refused (by decide)) fun y μ2 hq => ?_
    obtain ⟨rfl, rfl⟩ := hq
    refine B_lines_17 ⟨bI_q, fun c2 => absurd c2 (by decide), fun _ => ?_⟩
    refine R_lines_30 ?_
    rw [c1_f c']; exact OutI.no h (by decide)
  · have c' := bI_1.mp c
    refine C_lines_14 (K_refused (by decide)) fun y μ2 hq => ?_
    obtain ⟨rfl, rfl⟩ := hq
    refine B_lines_17 ⟨bI_q, fun _ => ?_, fun c2 => absurd (show bI ((0 : Int) ≠ 0) = 0 by decide) c2⟩
    rw [c1_t c']
    exact ⟨by omega, by omega, R_lines_30 (OutI.ok mw0 (by rw [mA_wI]; exact h.2.1.sz c'.1 c'.2) h.w0)⟩
theorem Nm.at {b : BR} {T : List (Int64 × Int)} (h : Nm b T) {k : Nat} {y : Int64 × Int} (hy : T[k]? = some y) : 0 ≤ y.2 ∧ y.2 < bkN b ∧ bkS b y.2.toNat = y.1 ∧ isLn y.1 = true := h y (List.mem_of_getElem? hy)
theorem X_lineOf (h : MdV S μ) (h20 : ∀ v : Int, (vtx (sV S) v).length ≤ 20) (hN : ∀ v : Int, Nm (sB S) (vtx (sV S) v)) (hv : Q32 v) (hp : Q32 p) : MMl Ω m M_Mdl_lineOf rm_Mdl_lineOf (OutL S (c1 (isLi S v p)) (lnA (vtx (sV S) v) p) S) μ [xi v, xi p] := by
  have h40 := h.2.1.2.1
  have hl := h20 v
  refine E_lineOf fun σ0 => B_lineOf_0 ?_
  refine C_lineOf_4 (K_isLineOf h h20 hv hp) fun y μ1 hq => ?_
  obtain ⟨rfl, rfl⟩ := hq
  refine B_lineOf_7 ⟨bI_q, fun c => ?_, fun c => ?_⟩
  · have c' := bI_0.mp c
    refine C_lineOf_15 (K_refused (by decide)) fun y μ2 hq => ?_
    obtain ⟨rfl, rfl⟩ := hq
    refine B_lineOf_18 ⟨bI_q, fun c2 => absurd c2 (by decide), fun _ => ?_⟩
    refine R_lineOf_41 ?_
    rw [c1_f c']; exact OutL.no h (by decide)
  · have c' := bI_1.mp c
    obtain ⟨y, y1, y2, y3⟩ := nmA_get c'.2.1 c'.2.2
    have n1 := (hN v).at y1
    have t1 := h.2.1.tx c'.1.1 c'.1.2 y1
    have b1 := h.1
    have e1 : (20 * v + p).toNat = 20 * v.toNat + p.toNat := by omega
    refine C_lineOf_15 (K_refused (by decide)) fun y μ2 hq => ?_
    obtain ⟨rfl, rfl⟩ := hq
    refine B_lineOf_18 ⟨bI_q, fun _ => ?_, fun c2 => absurd (show bI ((0 : Int) ≠ 0) = 0 by decide) c2⟩
    rw [c1_t c', y3, mA_wI, e1, t1]
    have b12 := b1.2.1
    refine ⟨by omega, by omega, n1.1, by omega, R_lineOf_41 (OutL.ok mw0 ?_ h.w0)⟩
    rw [mG_wI, (b1.2.2 _ (by omega)).1]; exact n1.2.2.1
theorem X_lineAnew (h : MdV S μ) (h20 : ∀ v : Int, (vtx (sV S) v).length ≤ 20) (hN : ∀ v : Int, Nm (sB S) (vtx (sV S) v)) (hv : Q32 v) (hp : Q32 p) : MMl Ω m M_Mdl_lineAnew rm_Mdl_lineAnew (OutL S (c1 (isLi S v p)) (lnA (vtx (sV S) v) p) S) μ [xi v, xi p] :=
  E_lineAnew fun σ0 => B_lineAnew_0 (C_lineAnew_3 (X_lineOf h h20 hN hv hp) fun y μ' hq => R_lineAnew_6 hq)
theorem X_blame (h : MdV S μ) (h20 : ∀ v : Int, (vtx (sV S) v).length ≤ 20) (hN : ∀ v : Int, Nm (sB S) (vtx (sV S) v)) (hv : Q32 v) (hp : Q32 p) : MMi Ω m M_Mdl_blame rm_Mdl_blame (OutI S (c1 (isLi S v p)) (auN (sB S) (nmA (vtx (sV S) v) p)) S) μ [xi v, xi p] := by
  have h40 := h.2.1.2.1
  have hl := h20 v
  refine E_blame fun σ0 => B_blame_0 ?_
  refine C_blame_4 (K_isLineOf h h20 hv hp) fun y μ1 hq => ?_
  obtain ⟨rfl, rfl⟩ := hq
  refine B_blame_7 ⟨bI_q, fun c => ?_, fun c => ?_⟩
  · have c' := bI_0.mp c
    refine C_blame_15 (K_refused (by decide)) fun y μ2 hq => ?_
    obtain ⟨rfl, rfl⟩ := hq
    refine B_blame_18 ⟨bI_q, fun c2 => absurd c2 (by decide), fun _ => ?_⟩
    refine R_blame_41 ?_
    rw [c1_f c']; exact OutI.no h (by decide)
  · have c' := bI_1.mp c
    obtain ⟨y, y1, y2, y3⟩ := nmA_get c'.2.1 c'.2.2
    have n1 := (hN v).at y1
    have t1 := h.2.1.tx c'.1.1 c'.1.2 y1
    have b1 := h.1
    have e1 : (20 * v + p).toNat = 20 * v.toNat + p.toNat := by omega
    refine C_blame_15 (K_refused (by decide)) fun y μ2 hq => ?_
    obtain ⟨rfl, rfl⟩ := hq
    refine B_blame_18 ⟨bI_q, fun _ => ?_, fun c2 => absurd (show bI ((0 : Int) ≠ 0) = 0 by decide) c2⟩
    rw [c1_t c', y2, mA_wI, e1, t1]
    have b12 := b1.2.1
    refine ⟨by omega, by omega, n1.1, by omega, R_blame_41 (OutI.ok mw0 ?_ h.w0)⟩
    rw [(b1.2.2 _ (by omega)).2.1]; unfold auN; rw [if_pos ⟨n1.1, n1.2.1⟩]
theorem K_isCompared (h : MdV S μ) (hp : Q32 p) : MMi Ω m M_Mdl_isCompared rm_Mdl_isCompared (fun y μ' => y = bI (0 ≤ p ∧ p < csz S) ∧ μ' = μ) μ [xi p] := by
  obtain ⟨h1, h2⟩ := h.2.2.2.1
  refine E_isCompared fun σ0 => B_isCompared_0 ⟨fun c => R_isCompared_26 (Or.inl rfl) ⟨?_, rfl⟩, fun c => ?_⟩
  · cases hc : sC S with
    | none =>
      have ez : csz S = 0 := by unfold csz; rw [hc]
      rw [bI_f]
      omega
    | some C => rw [h1, hc] at c; exact absurd c (show ¬ ((1 : Int) = 0) by decide)
  · cases hc : sC S with
    | none => rw [h1, hc] at c; exact absurd rfl c
    | some C =>
      obtain ⟨X, Y, P, M, n⟩ := C
      obtain ⟨g1, g2, -⟩ := h2 X Y P M n hc
      have ez : csz S = X.length := by unfold csz; rw [hc]
      rw [g1, ez]
      refine C_isCompared_15 (k_in hp (by decide) (by omega)) fun y hq => ?_
      subst hq
      refine B_isCompared_18 ⟨bI_q, fun c2 => R_isCompared_26 (Or.inl rfl) ⟨(bI_f (fun z => bI_0.mp c2 (by omega))).symm, rfl⟩, fun c2 => R_isCompared_26 (Or.inr rfl) ⟨(bI_t ?_).symm, rfl⟩⟩
      have := bI_1.mp c2
      omega
theorem X_pairOf (h : MdV S μ) (hp : Q32 p) : MMi Ω m M_Mdl_pairOf rm_Mdl_pairOf (OutI S (c1 (0 ≤ p ∧ p < csz S)) (match sC S with | some c => c.2.2.1 p.toNat | none => 0) S) μ [xi p] := by
  refine E_pairOf fun σ0 => B_pairOf_0 ?_
  refine C_pairOf_3 (K_isCompared h hp) fun y μ1 hq => ?_
  obtain ⟨rfl, rfl⟩ := hq
  refine B_pairOf_6 ⟨bI_q, fun c => ?_, fun c => ?_⟩
  · have c' := bI_0.mp c
    refine C_pairOf_14 (K_refused (by decide)) fun y μ2 hq => ?_
    obtain ⟨rfl, rfl⟩ := hq
    refine B_pairOf_17 ⟨bI_q, fun c2 => absurd c2 (by decide), fun _ => ?_⟩
    refine R_pairOf_30 ?_
    rw [c1_f c']; exact OutI.no h (by decide)
  · have c' := bI_1.mp c
    refine C_pairOf_14 (K_refused (by decide)) fun y μ2 hq => ?_
    obtain ⟨rfl, rfl⟩ := hq
    refine B_pairOf_17 ⟨bI_q, fun _ => ?_, fun c2 => absurd (show bI ((0 : Int) ≠ 0) = 0 by decide) c2⟩
    rw [c1_t c']
    cases hc : sC S with
    | none =>
      have ez : csz S = 0 := by unfold csz; rw [hc]
      omega
    | some C =>
      obtain ⟨X, Y, P, M, n⟩ := C
      obtain ⟨g1, g2, g3⟩ := h.2.2.2.1.2 X Y P M n hc
      have ez : csz S = X.length := by unfold csz; rw [hc]
      exact ⟨by omega, by omega, R_pairOf_30 (OutI.ok mw0 (by rw [mA_wI]; exact (g3 _ (by omega)).1) h.w0)⟩
theorem X_movedTo (h : MdV S μ) (hp : Q32 p) : MMi Ω m M_Mdl_movedTo rm_Mdl_movedTo (OutI S (c1 (0 ≤ p ∧ p < csz S)) (match sC S with | some c => c.2.2.2.1 p.toNat | none => 0) S) μ [xi p] := by
  refine E_movedTo fun σ0 => B_movedTo_0 ?_
  refine C_movedTo_3 (K_isCompared h hp) fun y μ1 hq => ?_
  obtain ⟨rfl, rfl⟩ := hq
  refine B_movedTo_6 ⟨bI_q, fun c => ?_, fun c => ?_⟩
  · have c' := bI_0.mp c
    refine C_movedTo_14 (K_refused (by decide)) fun y μ2 hq => ?_
    obtain ⟨rfl, rfl⟩ := hq
    refine B_movedTo_17 ⟨bI_q, fun c2 => absurd c2 (by decide), fun _ => ?_⟩
    refine R_movedTo_30 ?_
    rw [c1_f c']; exact OutI.no h (by decide)
  · have c' := bI_1.mp c
    refine C_movedTo_14 (K_refused (by decide)) fun y μ2 hq => ?_
    obtain ⟨rfl, rfl⟩ := hq
    refine B_movedTo_17 ⟨bI_q, fun _ => ?_, fun c2 => absurd (show bI ((0 : Int) ≠ 0) = 0 by decide) c2⟩
    rw [c1_t c']
    cases hc : sC S with
    | none =>
      have ez : csz S = 0 := by unfold csz; rw [hc]
      omega
    | some C =>
      obtain ⟨X, Y, P, M, n⟩ := C
      obtain ⟨g1, g2, g3⟩ := h.2.2.2.1.2 X Y P M n hc
      have ez : csz S = X.length := by unfold csz; rw [hc]
      exact ⟨by omega, by omega, R_movedTo_30 (OutI.ok mw0 (by rw [mA_wI]; exact (g3 _ (by omega)).2) h.w0)⟩
theorem K_isReview (h : MdV S μ) (hp : Q32 p) : MMi Ω m M_Mdl_isReview rm_Mdl_isReview (fun y μ' => y = bI (isR S p) ∧ μ' = μ) μ [xi p] := by
  have h1 := h.2.2.2.2.2.2.1
  have h2 := h.2.2.2.2.2.2.2.1
  refine E_isReview fun σ0 => B_isReview_0 ?_
  rw [h1]
  refine C_isReview_8 (k_in hp (by decide) (by omega)) fun y hq => ?_
  subst hq
  exact R_isReview_11 bI_r ⟨bI_c (by show 0 ≤ p ∧ p ≤ _ ↔ 0 ≤ p ∧ p < _; omega), rfl⟩
theorem K_isPatch (h : MdV S μ) (hp : Q32 p) : MMi Ω m M_Mdl_isPatch rm_Mdl_isPatch (fun y μ' => y = bI (0 ≤ p ∧ p < (sP S).length) ∧ μ' = μ) μ [xi p] := by
  have h1 := h.2.2.2.2.1.1
  have h2 := h.2.2.2.2.1.2.1
  refine E_isPatch fun σ0 => B_isPatch_0 ?_
  rw [h1]
  refine C_isPatch_8 (k_in hp (by decide) (by omega)) fun y hq => ?_
  subst hq
  exact R_isPatch_11 bI_r ⟨bI_c (by omega), rfl⟩
theorem K_isConflict (h : MdV S μ) (hp : Q32 p) : MMi Ω m M_Mdl_isConflict rm_Mdl_isConflict (fun y μ' => y = bI (0 ≤ p ∧ p < cfn S) ∧ μ' = μ) μ [xi p] := by
  obtain ⟨h1, h2⟩ := h.2.2.1
  refine E_isConflict fun σ0 => B_isConflict_0 ⟨fun c => R_isConflict_26 (Or.inl rfl) ⟨?_, rfl⟩, fun c => ?_⟩
  · cases hc : sD S with
    | none =>
      have ez : cfn S = 0 := by unfold cfn; rw [hc]
      rw [bI_f]
      omega
    | some r => rw [h1, hc] at c; exact absurd c (show ¬ ((1 : Int) = 0) by decide)
  · cases hc : sD S with
    | none => rw [h1, hc] at c; exact absurd rfl c
    | some r =>
      obtain ⟨-, ⟨g1, g2, -⟩, -⟩ := h2 r hc
      have ez : cfn S = (drC r).length := by unfold cfn; rw [hc]
      rw [g1, ez]
      refine C_isConflict_15 (k_in hp (by decide) (by omega)) fun y hq => ?_
      subst hq
      refine B_isConflict_18 ⟨bI_q, fun c2 => R_isConflict_26 (Or.inl rfl) ⟨(bI_f (fun z => bI_0.mp c2 (by omega))).symm, rfl⟩, fun c2 => R_isConflict_26 (Or.inr rfl) ⟨(bI_t ?_).symm, rfl⟩⟩
      have := bI_1.mp c2
      omega
theorem X_pieceOf (h : MdV S μ) (hv : Q32 v) (hp : Q32 p) : MMi Ω m M_Mdl_pieceOf rm_Mdl_pieceOf (OutI S (c2 (0 ≤ v ∧ v < cfn S) (0 ≤ p ∧ p ≤ 2) 1 2) (match sD S with | some r => cnL ((drC r).getD v.toNat ((0, 0), (0, 0), (0, 0), 0, 0)) p | none => 0) S) μ [xi v, xi p] := by
  refine E_pieceOf fun σ0 => B_pieceOf_0 ?_
  refine C_pieceOf_3 (K_isConflict h hv) fun y μ1 hq => ?_
  obtain ⟨rfl, rfl⟩ := hq
  refine B_pieceOf_6 ⟨bI_q, fun c => ?_, fun c => ?_⟩
  · have c' := bI_1.mp c
    refine C_pieceOf_16 (k_in hp (by decide) (by decide)) fun y hq => ?_
    subst hq
    refine B_pieceOf_19 ⟨bI_q, fun c3 => ?_, fun c3 => ?_⟩
    · have d' := bI_0.mp c3
      refine C_pieceOf_27 (K_refused (by decide)) fun y μ2 hq => ?_
      obtain ⟨rfl, rfl⟩ := hq
      refine B_pieceOf_30 ⟨bI_q, fun c2 => absurd c2 (by decide), fun _ => ?_⟩
      refine R_pieceOf_47 ?_
      rw [c2_2 c' d']; exact OutI.no h (by decide)
    · have d' := bI_1.mp c3
      refine C_pieceOf_27 (K_refused (by decide)) fun y μ2 hq => ?_
      obtain ⟨rfl, rfl⟩ := hq
      refine B_pieceOf_30 ⟨bI_q, fun _ => ?_, fun c2 => absurd (show bI ((0 : Int) ≠ 0) = 0 by decide) c2⟩
      rw [c2_t c' d']
      cases hc : sD S with
      | none =>
        have ez : cfn S = 0 := by unfold cfn; rw [hc]
        omega
      | some r =>
        obtain ⟨-, ⟨g1, g2, g3⟩, -⟩ := h.2.2.1.2 r hc
        have ez : cfn S = (drC r).length := by unfold cfn; rw [hc]
        have hlt : v.toNat < (drC r).length := by omega
        have e1 := (g3 v.toNat _ (List.getElem?_eq_getElem hlt) p.toNat (by omega)).1
        refine ⟨by omega, by omega, R_pieceOf_47 (OutI.ok mw0 ?_ h.w0)⟩
        rw [mA_wI, show (3 * v + p).toNat = 3 * v.toNat + p.toNat by omega, e1]
        show _ = cnL ((drC r).getD v.toNat _) p
        rw [List.getD_eq_getElem?_getD, List.getElem?_eq_getElem hlt, Option.getD_some]
        unfold cnL cnZ
        rw [if_neg (by omega), if_pos (by omega)]
  · have c' := bI_0.mp c
    refine C_pieceOf_27 (K_refused (by decide)) fun y μ2 hq => ?_
    obtain ⟨rfl, rfl⟩ := hq
    refine B_pieceOf_30 ⟨bI_q, fun c2 => absurd c2 (by decide), fun _ => ?_⟩
    refine R_pieceOf_47 ?_
    rw [c2_1 c']; exact OutI.no h (by decide)
end MRD
