/-! BY HAND: edits of the draft, by the reference, 2 -/
theorem nmT_ins {T : List (Int64 × Int)} {y : Int64 × Int} : ∀ {i : Nat}, nmT (T.insertIdx i y) = (nmT T).insertIdx i y.2 := by
  induction T with
  | nil =>
    intro i
    cases i with
    | zero => rfl
    | succ i => rfl
  | cons z T ih =>
    intro i
    cases i with
    | zero => rfl
    | succ i =>
      have := @ih i
      unfold nmT at this ⊢
      rw [List.insertIdx_succ_cons, List.map_cons, this, List.map_cons, List.insertIdx_succ_cons]
def cd1 (c : Nat) : Nat := if c = 3 then 1 else c
theorem cd1_t {p : Prop} [Decidable p] (h : p) : cd1 (c1' p) = 0 := by rw [c1'_t h]; rfl
theorem cd1_f {p : Prop} [Decidable p] (h : ¬ p) : cd1 (c1' p) = 1 := by rw [c1'_f h]; rfl
section EDN
variable {Ω : Om} {m : Nat} {μ : Mu} {S : St} {p q v w : Int}
theorem dr_some {p : Int} (h : 0 ≤ p ∧ p < dsz S) : ∃ r, sD S = some r := by
  cases hD : sD S with
  | none => rw [dsz_none hD] at h; omega
  | some r => exact ⟨r, rfl⟩
theorem nmT_at {T : List (Int64 × Int)} {i : Nat} {y : Int64 × Int} (h : T[i]? = some y) : (nmT T)[i]? = some y.2 := by
  unfold nmT; rw [List.getElem?_map, h]; rfl
theorem X_move (h : MdV S μ) (hNm : NmD S) (hE : ∀ r, sD S = some r → (drE r).length < 640) (hp : Q32 p) (hq : Q32 q) : MMv Ω m M_Mdl_move rm_Mdl_move (OutV S (cd2 (o_move S p q).1) (o_move S p q).2.2) μ [xi p, xi q] := by
  refine E_move fun σ0 => B_move_0 ?_
  have bad1 : ¬ ((0 ≤ p ∧ p < dsz S) ∧ 0 ≤ q ∧ q < dsz S) → Mw Ω σ0 m M_Mdl_move rm_Mdl_move (MQv Ω σ0 m rm_Mdl_move (OutV S (cd2 (o_move S p q).1) (o_move S p q).2.2)) 33 [xr (some m), xi p, xi q, xu] [xi 1, xr (some m)] μ := fun c' => by
    have e : cd2 (o_move S p q).1 = 1 := by show cd2 (c2 _ _ 1 3) = 1; rw [c2_1 c']; rfl
    refine C_move_33 (K_refused (by decide)) fun y μ2 hq => ?_
    obtain ⟨rfl, rfl⟩ := hq
    refine B_move_36 ⟨bI_q, fun _ => ?_, fun c2 => absurd c2 (by decide)⟩
    refine R_move_61 ?_
    rw [e]; exact OutV.no h (by decide)
  refine C_move_3 (K_isPlaceS h hp) fun y μ1 hq => ?_
  obtain ⟨rfl, rfl⟩ := hq
  refine B_move_6 ⟨bI_q, fun c => bad1 (fun z => bI_0.mp c z.1), fun c => ?_⟩
  refine C_move_11 (K_isPlaceS h hq) fun y μ1 hq => ?_
  obtain ⟨rfl, rfl⟩ := hq
  refine B_move_14 ⟨bI_q, fun d => ?_, fun d => bad1 (fun z => bI_0.mp d z.2)⟩
  have c' : (0 ≤ p ∧ p < dsz S) ∧ 0 ≤ q ∧ q < dsz S := ⟨bI_1.mp c, bI_1.mp d⟩
  obtain ⟨r0, hD0⟩ := dr_some c'.1
  refine C_move_22 (K_settledS h hD0) fun y μ1 hq => ?_
  obtain ⟨rfl, rfl⟩ := hq
  refine B_move_25 ⟨bI_q, fun d => ?_, fun d => ?_⟩
  · have d' := bI_0.mp d
    have e : cd2 (o_move S p q).1 = 2 := by show cd2 (c2 _ _ 1 3) = 2; rw [c2_2 c' d']; rfl
    refine C_move_33 (K_refused (by decide)) fun y μ2 hq => ?_
    obtain ⟨rfl, rfl⟩ := hq
    refine B_move_36 ⟨bI_q, fun _ => ?_, fun c2 => absurd c2 (by decide)⟩
    refine R_move_61 ?_
    rw [e]; exact OutV.no h (by decide)
  · have d' := bI_1.mp d
    have e : cd2 (o_move S p q).1 = 0 := by show cd2 (c2 _ _ 1 3) = 0; rw [c2_t c' d']; rfl
    refine C_move_33 (K_refused (by decide)) fun y μ2 hq => ?_
    obtain ⟨rfl, rfl⟩ := hq
    refine B_move_36 ⟨bI_q, fun c2 => absurd (show bI ((0 : Int) ≠ 0) = 0 by decide) c2, fun _ => ?_⟩
    have h0 := h.w0 (v := 0)
    obtain ⟨r, hD, eD, ho, hz, hV, hR, hl, hM⟩ := h0.wh d'
    have hE' := hE r hD
    have hN := hNm r hD
    rw [hz] at c'
    obtain ⟨y, hy⟩ : ∃ y, (drT r)[p.toNat]? = some y := ⟨_, List.getElem?_eq_getElem (by omega)⟩
    have ny := hN y (List.mem_of_getElem? hy)
    have b12 := h.1.2.1
    refine C_move_40 (K_remember hV hE' (by rw [List.length_map]; exact hl) hM.2.2.2.1) fun μ1 hq => ?_
    have hV1 := hV.fr hq.1 (by decide) (by decide)
    refine B_move_43 ?_
    rw [hV1.2.2 _ _ (nmT_at hy)]
    refine ⟨by omega, by omega, ?_⟩
    refine C_move_52 (K_takeAt hV1 c'.1.1 (by rw [List.length_map]; exact c'.1.2)) fun μ2 hq2 => B_move_55 ?_
    have le := List.length_eraseIdx (l := nmT (drT r)) (i := p.toNat)
    rw [List.length_map, if_pos (show p.toNat < (drT r).length by omega)] at le
    refine C_move_58 (K_putAt hq2.2 (by omega) c'.2.1 (by omega) (by omega)) fun μ3 hq3 => R_move_61 ?_
    rw [e]
    have z0 : mI μ3 0 = 0 := by rw [hq3.1.1 0 (by decide), hq2.1.1 0 (by decide), hq.1.1 0 (by decide)]; exact mw0
    refine ⟨z0, fun _ => ?_, fun z => absurd rfl z⟩
    show MdV (edS S (mvT (drT (drO S)) p q) (drC (drO S)) _ (sB S)) μ3
    rw [eD]
    have k3 := hq2.1.trans hq3.1
    have kk : Efr μ1 μ3 := k3.mono (by decide) (by decide) (by decide)
    have em : nmT (mvT (drT r) p q) = ((nmT (drT r)).eraseIdx p.toNat).insertIdx q.toNat y.2 := by
      unfold mvT
      rw [List.getD_eq_getElem?_getD, hy, nmT_ins, nmT_erase]; rfl
    refine h0.edit hD hR (by rw [List.length_map]; exact hl) hq kk ((h0.1.fr hq.1 (by decide) (by decide) (by decide) (by decide)).fr k3 (by decide) (by decide) (by decide) (by decide)) (R' := ((nmT (drT r)).eraseIdx p.toNat).insertIdx q.toNat y.2) ?_ hq3.2 ?_ ?_ ((hM.2.1.fr hq.1 (by decide) (by decide)).fr k3 (by decide) (by decide)) ⟨rfl, rfl⟩
    · rw [em]
      refine RwV.of ho (fun z hz => ?_)
      rcases List.mem_insertIdx (show q.toNat ≤ ((nmT (drT r)).eraseIdx p.toNat).length by omega) |>.mp hz with g | g
      · rw [g]; exact ny.1
      · exact nm_ge hN z (List.mem_of_mem_eraseIdx g)
    · rw [List.length_insertIdx, if_pos (by omega)]; omega
    · rw [k3.1 18 (by decide), hq.1.1 18 (by decide)]; exact hM.1.2.2.2
theorem begin_loop {σ0 : Sto} {Q : Int → Mu → Prop} {T : List (Int64 × Int)} (eT : T = vtx (sV S) v) (hV : VeV (sV S) μ) (v0 : isV S v) (h20 : T.length ≤ 20) (h15 : mI μ 15 = T.length) (hQ : ∀ μ', Fr [] [9] [] μ μ' → RowV (nmT T) μ' → Q (T.length : Nat) μ') : ∀ (d i : Nat) (μ1 : Mu), i + d = T.length → Fr [] [9] [] μ μ1 → (∀ k x, k < i → (nmT T)[k]? = some x → mA μ1 9 k = x) → Mw Ω σ0 m M_Mdl_begin rm_Mdl_begin (MQi Ω σ0 m rm_Mdl_begin Q) 76 [xr (some m), xi v, xi w, xi i] [] μ1 := by
  have h40 := hV.2.1
  have v1 := v0.1
  have v2 := v0.2
  intro d
  induction d with
  | zero =>
    intro i μ1 hi hF hx
    have e15 := (hF.1 15 (by decide)).trans h15
    refine B_begin_76 ⟨by omega, fun _ => R_begin_111 ?_, fun c => absurd (by omega) c⟩
    rw [e15]
    refine hQ μ1 hF ⟨by rw [e15, List.length_map], by rw [List.length_map]; omega, fun k x hk => hx k x ?_ hk⟩
    have := (List.getElem?_eq_some_iff.mp hk).1
    rw [List.length_map] at this; omega
  | succ d ih =>
    intro i μ1 hi hF hx
    have e15 := (hF.1 15 (by decide)).trans h15
    obtain ⟨y, hy⟩ : ∃ y, T[i]? = some y := ⟨_, List.getElem?_eq_getElem (by omega)⟩
    have t1 : mA μ1 5 (20 * v.toNat + i) = y.2 := by rw [hF.2.1 5 (by decide)]; exact hV.tx v1 v2 (by rw [← eT]; exact hy)
    refine B_begin_76 ⟨by omega, fun c => absurd c (by omega), fun _ => ⟨by omega, by omega, by omega, by omega, ?_⟩⟩
    rw [Int.toNat_natCast, show (20 * v + (i : Int)).toNat = 20 * v.toNat + i by omega, t1]
    refine ih (i + 1) _ (by omega) (hF.trans (Fr.wA (by decide))) (fun k x hk hx' => ?_)
    rw [mA_wA]
    by_cases c : k = i
    · subst c
      rw [nmT_at hy] at hx'
      rw [if_pos ⟨rfl, rfl⟩]; exact Option.some.inj hx'
    · rw [if_neg (fun z => c z.2)]; exact hx k x (by omega) hx'
theorem X_begin (h : MdV S μ) (h20 : ∀ v : Int, (vtx (sV S) v).length ≤ 20) (hN : ∀ v : Int, Nm (sB S) (vtx (sV S) v)) (hv : Q32 v) (hw : Q32 w) : MMi Ω m M_Mdl_begin rm_Mdl_begin (OutI S (o_begin S v w).1 (o_begin S v w).2.1 (o_begin S v w).2.2) μ [xi v, xi w] := by
  have h40 := h.2.1.2.1
  refine E_begin fun σ0 => B_begin_0 ?_
  have bad : ¬ (isV S v ∧ isP w) → Mw Ω σ0 m M_Mdl_begin rm_Mdl_begin (MQi Ω σ0 m rm_Mdl_begin (OutI S (o_begin S v w).1 (o_begin S v w).2.1 (o_begin S v w).2.2)) 21 [xr (some m), xi v, xi w, xu] [xi 1, xr (some m)] μ := fun c' => by
    have e : (o_begin S v w).1 = 1 := c1_f c'
    refine C_begin_21 (K_refused (by decide)) fun y μ2 hq => ?_
    obtain ⟨rfl, rfl⟩ := hq
    refine B_begin_24 ⟨bI_q, fun c2 => absurd c2 (by decide), fun _ => ?_⟩
    refine R_begin_28 ?_
    rw [e]; exact OutI.no h (by decide)
  refine C_begin_3 (K_isVersion hv h.2.1.1 h40) fun y μ1 hq => ?_
  obtain ⟨rfl, rfl⟩ := hq
  refine B_begin_6 ⟨bI_q, fun c => bad (fun z => bI_0.mp c z.1), fun c => ?_⟩
  refine C_begin_10 (k_isPerson hw) fun y hq => ?_
  subst hq
  refine B_begin_13 ⟨bI_q, fun d => bad (fun z => bI_0.mp d z.2), fun d => ?_⟩
  have c' : isV S v ∧ isP w := ⟨bI_1.mp c, bI_1.mp d⟩
  have e : (o_begin S v w).1 = 0 := c1_t c'
  have v1 := c'.1.1
  have v2 := c'.1.2
  have lv := h20 v
  refine C_begin_21 (K_refused (by decide)) fun y μ2 hq => ?_
  obtain ⟨rfl, rfl⟩ := hq
  refine B_begin_24 ⟨bI_q, fun _ => ?_, fun c2 => absurd (show bI ((0 : Int) ≠ 0) = 0 by decide) c2⟩
  have h0 := h.w0 (v := 0)
  refine ⟨by omega, by omega, by omega, by omega, ?_⟩
  have hF : Fr [11, 12, 13, 14, 15, 17, 18, 21] [] [] (wI μ1 0 0) (wI (wI (wI (wI (wI (wI (wI (wI (wI μ1 0 0) 11 1) 12 v) 13 (-1)) 14 w) 17 0) 18 0) 21 0) 15 (mA μ1 4 v.toNat)) := Fr.trans (Fr.trans (Fr.trans (Fr.trans (Fr.trans (Fr.trans (Fr.trans (Fr.wI (by decide)) (Fr.wI (by decide))) (Fr.wI (by decide))) (Fr.wI (by decide))) (Fr.wI (by decide))) (Fr.wI (by decide))) (Fr.wI (by decide))) (Fr.wI (by decide))
  rw [mA_wI]
  have g : (∀ z, mI (wI (wI (wI (wI (wI (wI (wI (wI (wI μ1 0 0) 11 1) 12 v) 13 (-1)) 14 w) 17 0) 18 0) 21 0) 15 (mA μ1 4 v.toNat)) z = if z = 15 then mA μ1 4 v.toNat else if z = 21 then 0 else if z = 18 then 0 else if z = 17 then 0 else if z = 14 then w else if z = 13 then -1 else if z = 12 then v else if z = 11 then 1 else if z = 0 then 0 else mI μ1 z) := fun z => by simp only [mI_wI]
  generalize wI (wI (wI (wI (wI (wI (wI (wI (wI μ1 0 0) 11 1) 12 v) 13 (-1)) 14 w) 17 0) 18 0) 21 0) 15 (mA μ1 4 v.toNat) = μ2 at hF g ⊢
  rw [h.2.1.sz v1 v2] at g
  rw [e]
  refine begin_loop rfl (h0.2.1.fr hF (by decide) (by decide)) c'.1 lv ((g 15).trans (if_pos rfl)) (fun μ3 k3 hV3 => ?_) (vtx (sV S) v).length 0 μ2 (by omega) Fr.rf (fun k x hk => absurd hk (by omega))
  have kk : Dfr (wI μ1 0 0) μ3 := (hF.mono (by decide) (by decide) (by decide)).trans (k3.mono (by decide) (by decide) (by decide))
  have g3 : ∀ z, mI μ3 z = mI μ2 z := fun z => k3.1 z (by simp)
  refine OutI.ok (by rw [g3, g]; rfl) rfl ?_
  refine h0.upD kk rfl rfl rfl rfl rfl (((h0.1.fr hF (by decide) (by decide) (by decide) (by decide))).fr k3 (by decide) (by decide) (by decide) (by decide)) ⟨?_, fun r hr => ?_⟩
  · rw [g3, g]; rfl
  · cases hr
    refine ⟨⟨by rw [g3, g]; rfl, by rw [g3, g]; rfl, by rw [g3, g]; rfl, by rw [g3, g]; rfl⟩, ⟨by rw [g3, g]; rfl, Nat.zero_le _, fun i c hc => by simp [drC] at hc⟩, ⟨nmT (vtx (sV S) v), RwV.of rfl (nm_ge (hN v)), hV3, by rw [List.length_map]; omega⟩, ⟨by rw [g3, g]; rfl, fun e E he => by simp [drE] at he⟩⟩
theorem commit_loop {σ0 : Sto} {F : QF} {R : List Int} {n : Nat} (h5 : mI μ 5 = n) (hn : n < 40) (hV : RowV R μ) (hR : R.length ≤ 20) (out : ∀ (i : Int) μ', Fr [] [5] [] μ μ' → (∀ k, k < 20 * n → mA μ' 5 k = mA μ 5 k) → (∀ k x, R[k]? = some x → mA μ' 5 (20 * n + k) = x) → Mw Ω σ0 m M_Mdl_commit rm_Mdl_commit F 140 [xr (some m), xi i] [] (wI (wI (wA (wA (wA μ' 6 n (mI μ' 14)) 7 n (mI μ' 12)) 8 n (mI μ' 13)) 5 ((n : Int) + 1)) 11 0)) : ∀ (d i : Nat) (μ1 : Mu), i + d = R.length → Fr [] [5] [] μ μ1 → (∀ k, k < 20 * n → mA μ1 5 k = mA μ 5 k) → (∀ k x, k < i → R[k]? = some x → mA μ1 5 (20 * n + k) = x) → Mw Ω σ0 m M_Mdl_commit rm_Mdl_commit F 52 [xr (some m), xi i] [] μ1 := by
  intro d
  induction d with
  | zero =>
    intro i μ1 hi hF h1 h2
    have e15 := (hF.1 15 (by decide)).trans hV.1
    have e5 := (hF.1 5 (by decide)).trans h5
    refine B_commit_52 ?_
    rw [e5, Int.toNat_natCast]
    exact ⟨by omega, fun _ => ⟨by omega, by omega, by omega, by omega, by omega, by omega, by omega, out i μ1 hF h1 (fun k x hx => h2 k x (by have := (List.getElem?_eq_some_iff.mp hx).1; omega) hx)⟩, fun c => absurd (by omega) c⟩
  | succ d ih =>
    intro i μ1 hi hF h1 h2
    have e15 := (hF.1 15 (by decide)).trans hV.1
    have e5 := (hF.1 5 (by decide)).trans h5
    obtain ⟨y, hy⟩ : ∃ y, R[i]? = some y := ⟨_, List.getElem?_eq_getElem (by omega)⟩
    have t1 : mA μ1 9 i = y := by rw [hF.2.1 9 (by decide)]; exact hV.2.2 i y hy
    refine B_commit_52 ?_
    rw [e5, Int.toNat_natCast, Int.toNat_natCast, show (20 * (n : Int) + (i : Int)).toNat = 20 * n + i by omega, t1]
    refine ⟨by omega, fun c => absurd c (by omega), fun _ => ⟨by omega, by omega, by omega, by omega, ?_⟩⟩
    refine ih (i + 1) _ (by omega) (hF.trans (Fr.wA (by decide))) (fun k hk => ?_) (fun k x hk hx' => ?_)
    · rw [mA_wA, if_neg (by omega)]; exact h1 k hk
    · rw [mA_wA]
      by_cases c : k = i
      · subst c
        rw [hy] at hx'
        rw [if_pos ⟨rfl, rfl⟩]; exact Option.some.inj hx'
      · rw [if_neg (by omega)]; exact h2 k x (by omega) hx'
theorem X_commit (h : MdV S μ) (hv20 : ∀ v : Nat, (vrT (vrO (sV S) v)).length ≤ 20) (h20 : ∀ r, sD S = some r → (drT r).length ≤ 20) : MMi Ω m M_Mdl_commit rm_Mdl_commit (OutI S (cd1 (o_commit S).1) (o_commit S).2.1 (o_commit S).2.2) μ [] := by
  have h40 := h.2.1.2.1
  have h5 := h.2.1.1
  refine E_commit fun σ0 => B_commit_0 ?_
  have bad : ¬ (whB S = true ∧ (sV S).length < 40) → Mw Ω σ0 m M_Mdl_commit rm_Mdl_commit (MQi Ω σ0 m rm_Mdl_commit (OutI S (cd1 (o_commit S).1) (o_commit S).2.1 (o_commit S).2.2)) 29 [xr (some m), xu] [xi 1, xr (some m)] μ := fun c' => by
    have e : cd1 (o_commit S).1 = 1 := cd1_f c'
    refine C_commit_29 (K_refused (by decide)) fun y μ2 hq => ?_
    obtain ⟨rfl, rfl⟩ := hq
    refine B_commit_32 ⟨bI_q, fun c2 => absurd c2 (by decide), fun _ => ?_⟩
    refine R_commit_36 ?_
    rw [e]; exact OutI.no h (by decide)
  cases hD0 : sD S with
  | none =>
    have e11 := DM.no h hD0
    exact ⟨fun _ => bad (fun z => by obtain ⟨r, h1, _⟩ := whB_iff.mp z.1; rw [hD0] at h1; cases h1), fun c => absurd e11 c⟩
  | some r0 =>
    have e11 := DM.yes h hD0
    refine ⟨fun c => absurd c (by omega), fun _ => ?_⟩
    refine C_commit_9 (K_settledS h hD0) fun y μ1 hq => ?_
    obtain ⟨rfl, rfl⟩ := hq
    refine B_commit_12 ⟨bI_q, fun d => bad (fun z => bI_0.mp d z.1), fun d => ⟨fun d2 => bad (fun z => by omega), fun d2 => ?_⟩⟩
    have c' : whB S = true ∧ (sV S).length < 40 := ⟨bI_1.mp d, by omega⟩
    have e : cd1 (o_commit S).1 = 0 := cd1_t c'
    refine C_commit_29 (K_refused (by decide)) fun y μ2 hq => ?_
    obtain ⟨rfl, rfl⟩ := hq
    refine B_commit_32 ⟨bI_q, fun _ => ?_, fun c2 => absurd (show bI ((0 : Int) ≠ 0) = 0 by decide) c2⟩
    have h0 := h.w0 (v := 0)
    obtain ⟨r, hD, eD, ho, hz, hV, hR, hl, hM⟩ := h0.wh c'.1
    have l20 := h20 r hD
    have g5 := h0.2.1.1
    rw [g5, hV.1, Int.toNat_natCast]
    refine ⟨by omega, by omega, ?_⟩
    have k0 : Fr [] [4] [] (wI μ1 0 0) (wA (wI μ1 0 0) 4 (sV S).length (nmT (drT r)).length) := Fr.wA (by decide)
    have g4 : ∀ z, mA (wA (wI μ1 0 0) 4 (sV S).length (nmT (drT r)).length) 4 z = if z = (sV S).length then ((nmT (drT r)).length : Int) else mA (wI μ1 0 0) 4 z := fun z => by
      rw [mA_wA]
      by_cases q : z = (sV S).length
      · rw [if_pos ⟨rfl, q⟩, if_pos q]
      · rw [if_neg (fun y => q y.2), if_neg q]
    generalize wA (wI μ1 0 0) 4 (sV S).length (nmT (drT r)).length = μ2 at k0 g4 ⊢
    generalize hμ0 : wI μ1 0 0 = μ0 at *
    have z0 : mI μ0 0 = 0 := by rw [← hμ0]; exact mw0
    refine commit_loop (n := (sV S).length) ((k0.1 5 (by decide)).trans g5) c'.2 (hV.fr k0 (by decide) (by decide)) (by rw [List.length_map]; exact l20) (fun i μ3 k3 t1 t2 => ?_) (nmT (drT r)).length 0 μ2 (by omega) Fr.rf (fun _ _ => rfl) (fun k x hk => absurd hk (by omega))
    have k13 : Fr [] [4, 5] [] μ0 μ3 := (k0.mono (by decide) (by decide) (by decide)).trans (k3.mono (by decide) (by decide) (by decide))
    have g43 : ∀ z, mA μ3 4 z = if z = (sV S).length then ((nmT (drT r)).length : Int) else mA μ0 4 z := fun z => by rw [k3.2.1 4 (by decide)]; exact g4 z
    rw [k0.2.1 5 (by decide)] at t1
    rw [k13.1 14 (by decide), k13.1 12 (by decide), k13.1 13 (by decide), hM.1.1, hM.1.2.1, hM.1.2.2.1]
    have k4 : Fr [5, 11] [6, 7, 8] [] μ3 (wI (wI (wA (wA (wA μ3 6 (sV S).length (drA r)) 7 (sV S).length (dr1 r)) 8 (sV S).length (dr2 r)) 5 (((sV S).length : Int) + 1)) 11 0) := Fr.trans (Fr.trans (Fr.trans (Fr.trans (Fr.wA (by decide)) (Fr.wA (by decide))) (Fr.wA (by decide))) (Fr.wI (by decide))) (Fr.wI (by decide))
    have gI : mI (wI (wI (wA (wA (wA μ3 6 (sV S).length (drA r)) 7 (sV S).length (dr1 r)) 8 (sV S).length (dr2 r)) 5 (((sV S).length : Int) + 1)) 11 0) 5 = ((sV S).length : Int) + 1 ∧ mI (wI (wI (wA (wA (wA μ3 6 (sV S).length (drA r)) 7 (sV S).length (dr1 r)) 8 (sV S).length (dr2 r)) 5 (((sV S).length : Int) + 1)) 11 0) 11 = 0 := ⟨by rw [mI_wI, if_neg (by decide), mI_wI, if_pos rfl], by rw [mI_wI, if_pos rfl]⟩
    have gA : ∀ j z, mA (wI (wI (wA (wA (wA μ3 6 (sV S).length (drA r)) 7 (sV S).length (dr1 r)) 8 (sV S).length (dr2 r)) 5 (((sV S).length : Int) + 1)) 11 0) j z = if j = 8 ∧ z = (sV S).length then dr2 r else if j = 7 ∧ z = (sV S).length then dr1 r else if j = 6 ∧ z = (sV S).length then drA r else mA μ3 j z := fun j z => by simp only [mA_wI, mA_wA]
    generalize wI (wI (wA (wA (wA μ3 6 (sV S).length (drA r)) 7 (sV S).length (dr1 r)) 8 (sV S).length (dr2 r)) 5 (((sV S).length : Int) + 1)) 11 0 = μ4 at k4 gI gA ⊢
    have kk : Fr [5, 11] [4, 5, 6, 7, 8] [] μ0 μ4 := (k13.mono (by decide) (by decide) (by decide)).trans (k4.mono (by decide) (by decide) (by decide))
    refine B_commit_140 (R_commit_146 ?_)
    rw [e, gI.1]
    refine OutI.ok ((kk.1 0 (by decide)).trans z0) (by show _ = (((sV S).length : Nat) : Int); omega) ?_
    obtain ⟨a1, a2, a3, a4, a5, a6, a7⟩ := h0
    refine ⟨a1.fr kk (by decide) (by decide) (by decide) (by decide), ⟨?_, ?_, fun v hv => ?_⟩, ⟨gI.2, fun r' hr' => by cases hr'⟩, a4.fr kk (by decide) (by decide), a5.fr kk (by decide) (by decide) (by decide), a6.fr kk (by decide) (by decide), a7.fr kk (by decide) (by decide)⟩
    · rw [gI.1]
      show _ = (((sV S ++ [newV S]).length : Nat) : Int)
      rw [List.length_append]; rfl
    · show (sV S ++ [newV S]).length ≤ 40
      rw [List.length_append]; show (sV S).length + 1 ≤ 40; omega
    · have hv' : v < (sV S ++ [newV S]).length := hv
      rw [List.length_append] at hv'
      have hv2 : v < (sV S).length + 1 := hv'
      show mA μ4 4 v = (vrT (vrO (sV S ++ [newV S]) v)).length ∧ mA μ4 6 v = vrA (vrO (sV S ++ [newV S]) v) ∧ mA μ4 7 v = vr1 (vrO (sV S ++ [newV S]) v) ∧ mA μ4 8 v = vr2 (vrO (sV S ++ [newV S]) v) ∧ ∀ k x, (vrT (vrO (sV S ++ [newV S]) v))[k]? = some x → mA μ4 5 (20 * v + k) = x.2
      rw [gA 4 v, gA 6 v, gA 7 v, gA 8 v, if_neg (fun z => absurd z.1 (by decide)), if_neg (fun z => absurd z.1 (by decide)), if_neg (fun z => absurd z.1 (by decide)), g43]
      by_cases c : v < (sV S).length
      · have ev : vrO (sV S ++ [newV S]) v = vrO (sV S) v := by unfold vrO; rw [List.getD_eq_getElem?_getD, List.getElem?_append_left c, ← List.getD_eq_getElem?_getD]
        obtain ⟨b1, b2, b3, b4, b5⟩ := a2.2.2 v c
        have lv : (vrT (vrO (sV S) v)).length ≤ 20 := hv20 v
        rw [ev, if_neg (by omega), if_neg (by omega), if_neg (by omega), if_neg (by omega), if_neg (by omega), if_neg (by omega), if_neg (by omega), if_neg (by omega), if_neg (by omega), if_neg (by omega), k13.2.1 6 (by decide), k13.2.1 7 (by decide), k13.2.1 8 (by decide)]
        refine ⟨b1, b2, b3, b4, fun k x hx => ?_⟩
        have lk := (List.getElem?_eq_some_iff.mp hx).1
        rw [gA 5, if_neg (by omega), if_neg (by omega), if_neg (by omega), t1 _ (by omega)]
        exact b5 k x hx
      · have ev : v = (sV S).length := by omega
        subst ev
        have en : vrO (sV S ++ [newV S]) (sV S).length = newV S := by unfold vrO; rw [List.getD_eq_getElem?_getD, List.getElem?_append_right (Nat.le_refl _), Nat.sub_self]; rfl
        rw [en]
        unfold newV
        rw [eD]
        refine ⟨?_, ?_, ?_, ?_, fun k x hx => ?_⟩
        · rw [if_pos rfl, List.length_map]
        · rw [if_neg (by omega), if_neg (by omega), if_pos ⟨rfl, rfl⟩]
        · rw [if_neg (by omega), if_pos ⟨rfl, rfl⟩]
        · rw [if_pos ⟨rfl, rfl⟩]
        · rw [gA 5, if_neg (by omega), if_neg (by omega), if_neg (by omega)]
          exact t2 k x.2 (nmT_at hx)
end EDN
