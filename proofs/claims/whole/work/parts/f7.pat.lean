/-! BY HAND: patches of the reference: patch -/
/-- hunks have few lines -/
def HkB (hs : List Hun) : Prop := ∀ H ∈ hs, (hnG H).length ≤ 20 ∧ (hnF H).length ≤ 20 ∧ (hnA H).length ≤ 3 ∧ (hnB H).length ≤ 3 ∧ hnP H ≤ 20 ∧ hnO H ≤ 20
theorem rwN_bd {T U : List (Int64 × Int)} {P : Nat → Int} (hP : PrOK P T.length U.length) : ∀ (f i fr ot : Nat), i + f = T.length + 1 → fr ≤ i → (i ≤ T.length → ot ≤ U.length) → (∀ j, i ≤ j → j < T.length → P j ≠ -1 → (ot : Int) ≤ P j) → ∀ e ∈ rwN T U P f i fr ot, Q4B T.length U.length e := by
  intro f
  induction f with
  | zero => intro i fr ot _ _ _ _ e he; rw [rwN] at he; cases he
  | succ f ih =>
    intro i fr ot hi hfr hot hor e he
    rw [rwN] at he
    by_cases h : flP T U P i = -1
    · rw [if_pos h] at he
      exact ih (i + 1) fr ot (by omega) (by omega) (fun _ => hot (by omega)) (fun j j1 j2 j3 => hor j (by omega) j2 j3) e he
    · rw [if_neg h] at he
      have fin : (ot : Int) ≤ flP T U P i ∧ flP T U P i ≤ U.length ∧ (i < T.length → flP T U P i < U.length) ∧ ∀ j, i + 1 ≤ j → j < T.length → P j ≠ -1 → flP T U P i < P j := by
        unfold flP at h ⊢
        by_cases li : i < T.length
        · rw [if_pos li] at h ⊢
          have r := (hP.1 i li).resolve_left h
          have g := hor i (Nat.le_refl _) li h
          exact ⟨g, by omega, fun _ => r.2, fun j j1 j2 j3 => hP.2 i j (by omega) j2 h j3⟩
        · rw [if_neg li]
          have := hot (by omega)
          exact ⟨by omega, Int.le_refl _, fun z => absurd z li, fun j j1 j2 => absurd j2 (by omega)⟩
      obtain ⟨f1, f2, f3, f4⟩ := fin
      rcases List.mem_append.mp he with g | g
      · split at g
        · rw [List.mem_singleton.mp g]
          exact ⟨hfr, by show i ≤ _; omega, by show ot ≤ (flP T U P i).toNat; omega, by show (flP T U P i).toNat ≤ _; omega⟩
        · cases g
      · exact ih (i + 1) (i + 1) ((flP T U P i).toNat + 1) (by omega) (Nat.le_refl _) (fun z => by have := f3 (by omega); omega) (fun j j1 j2 j3 => by have := f4 j j1 j2 j3; omega) e g
theorem flH_rw {T U : List (Int64 × Int)} {P : Nat → Int} {ctx : Nat} : flH T U P ctx = (rwN T U P (T.length + 1) 0 0 0).map (mkQ T U P ctx) := by
  unfold flH; rw [flN_rw, List.nil_append]
theorem rw0_bd {T U : List (Int64 × Int)} {P : Nat → Int} (hP : PrOK P T.length U.length) : ∀ e ∈ rwN T U P (T.length + 1) 0 0 0, Q4B T.length U.length e :=
  rwN_bd hP (T.length + 1) 0 0 0 (by omega) (Nat.le_refl _) (fun _ => Nat.zero_le _) (fun j _ j2 j3 => by have := (hP.1 j j2).resolve_left j3; omega)
theorem rw0_ok {T U : List (Int64 × Int)} {P : Nat → Int} (hP : PrOK P T.length U.length) : QG P T.length 0 0 (rwN T U P (T.length + 1) 0 0 0) :=
  rwN_ok hP (T.length + 1) 0 0 0 0 0 (by omega) (Nat.le_refl _) (Nat.le_refl _) (fun _ => Nat.zero_le _) rfl (Or.inr ⟨rfl, rfl⟩) (fun k _ k2 => absurd k2 (Nat.not_lt_zero _)) (fun k _ k2 => absurd k2 (Nat.not_lt_zero _)) (fun j _ j2 j3 => by have := (hP.1 j j2).resolve_left j3; omega) (fun z => by omega) (Nat.zero_le _)
theorem flH_bd {T U : List (Int64 × Int)} {P : Nat → Int} {ctx : Nat} (l1 : T.length ≤ 20) (l2 : U.length ≤ 20) (hc : ctx ≤ 3) (hP : PrOK P T.length U.length) : HkB (flH T U P ctx) ∧ (flH T U P ctx).length ≤ 21 := by
  rw [flH_rw]
  refine ⟨fun H hH => ?_, ?_⟩
  · obtain ⟨e, he, rfl⟩ := List.mem_map.mp hH
    obtain ⟨b1, b2, b3, b4⟩ := rw0_bd hP e he
    have ca := caN_le (P := P) (most := ctx) (a := e.1) (b := e.2.2.1) ctx 0 (Nat.zero_le _) (Nat.zero_le _)
    have cb := cbN_le (P := P) (n := T.length) (most := ctx) (a := e.2.1) (b := e.2.2.2) ctx 0 (Nat.zero_le _) b2
    refine ⟨?_, ?_, ?_, ?_, ?_, ?_⟩
    · show (slA T e.1 e.2.1).length ≤ 20
      rw [slA_len b2]; omega
    · show (slA U e.2.2.1 e.2.2.2).length ≤ 20
      rw [slA_len b4]; omega
    · show (slA T (e.1 - caN P ctx e.1 e.2.2.1 ctx 0) e.1).length ≤ 3
      rw [slA_len (by omega)]; omega
    · show (slA T e.2.1 (e.2.1 + cbN P T.length ctx e.2.1 e.2.2.2 ctx 0)).length ≤ 3
      rw [slA_len cb.2]; omega
    · show e.1 ≤ 20; omega
    · show e.2.2.1 ≤ 20; omega
  · rw [List.length_map]
    have := rwN_len (T := T) (U := U) (P := P) (T.length + 1) 0 0 0
    omega
section PT7
variable {Ω : Om} {m : Nat} {μ μ' : Mu} {S : St} {v w c : Int}
/-- hunks that are behind what is written -/
theorem HkM.lo {np q : Nat} {H : Hun} (h : HkM μ q H) (hq : q < 21 * np) (hb : (hnG H).length ≤ 20 ∧ (hnF H).length ≤ 20 ∧ (hnA H).length ≤ 3 ∧ (hnB H).length ≤ 3) (k1 : ∀ k, k < 21 * np → mA μ' 18 k = mA μ 18 k ∧ mA μ' 19 k = mA μ 19 k) (k2 : ∀ k, k < 84 * np → mA μ' 20 k = mA μ 20 k) (k3 : ∀ k, k < 840 * np → mG μ' 21 k = mG μ 21 k) (k4 : ∀ k, k < 126 * np → mG μ' 22 k = mG μ 22 k) : HkM μ' q H := by
  obtain ⟨⟨a1, a2⟩, ⟨b1, b2, b3, b4⟩, c1, c2, d1, d2⟩ := h
  refine ⟨⟨(k1 q hq).1.trans a1, (k1 q hq).2.trans a2⟩, ⟨(k2 _ (by omega)).trans b1, (k2 _ (by omega)).trans b2, (k2 _ (by omega)).trans b3, (k2 _ (by omega)).trans b4⟩, fun k hk => (k3 _ (by omega)).trans (c1 k hk), fun k hk => (k3 _ (by omega)).trans (c2 k hk), fun k hk => (k4 _ (by omega)).trans (d1 k hk), fun k hk => (k4 _ (by omega)).trans (d2 k hk)⟩
theorem PaM.snoc {P : List (List Hun)} {hs : List Hun} (h : PaM P μ) (hH : ∀ hs ∈ P, HkB hs) (h10 : P.length < 10) (h21 : hs.length ≤ 21) (k0 : mI μ' 29 = (P.length : Int) + 1) (k17 : ∀ k, k < P.length → mA μ' 17 k = mA μ 17 k) (e17 : mA μ' 17 P.length = hs.length) (k1 : ∀ k, k < 21 * P.length → mA μ' 18 k = mA μ 18 k ∧ mA μ' 19 k = mA μ 19 k) (k2 : ∀ k, k < 84 * P.length → mA μ' 20 k = mA μ 20 k) (k3 : ∀ k, k < 840 * P.length → mG μ' 21 k = mG μ 21 k) (k4 : ∀ k, k < 126 * P.length → mG μ' 22 k = mG μ 22 k) (hn : ∀ (i : Nat) H, hs[i]? = some H → HkM μ' (21 * P.length + i) H) : PaM (P ++ [hs]) μ' := by
  refine ⟨by rw [k0, List.length_append]; rfl, by rw [List.length_append, List.length_singleton]; omega, fun p hs' hp => ?_⟩
  rcases snoc_get hp with ⟨g1, g2⟩ | ⟨g1, g2⟩
  · obtain ⟨f1, f2, f3⟩ := h.2.2 p hs' g2
    refine ⟨(k17 p g1).trans f1, f2, fun i H hi => ?_⟩
    have li := (List.getElem?_eq_some_iff.mp hi).1
    have hb := hH hs' (List.mem_of_getElem? g2) H (List.mem_of_getElem? hi)
    exact (f3 i H hi).lo (by omega) ⟨hb.1, hb.2.1, hb.2.2.1, hb.2.2.2.1⟩ k1 k2 k3 k4
  · subst g2
    rw [g1]
    exact ⟨e17, h21, hn⟩
theorem X_patch (h : MdV S μ) (h20 : ∀ v : Int, (vtx (sV S) v).length ≤ 20) (hN : ∀ v : Int, Nm (sB S) (vtx (sV S) v)) (hH : ∀ hs ∈ sP S, HkB hs) (hv : Q32 v) (hw : Q32 w) (hc : Q32 c) : MMi Ω m M_Mdl_patch rm_Mdl_patch (OutI S (o_patch S v w c).1 (o_patch S v w c).2.1 (o_patch S v w c).2.2) μ [xi v, xi w, xi c] := by
  have h40 := h.2.1.2.1
  have h29 := h.2.2.2.2.1.1
  have h10 := h.2.2.2.2.1.2.1
  refine E_patch fun σ0 => B_patch_0 ?_
  have bad : ∀ (k : Nat) (v4 : Int), (o_patch S v w c).1 = k → k ≠ 0 → Q32 (k : Int) → Mw Ω σ0 m M_Mdl_patch rm_Mdl_patch (MQi Ω σ0 m rm_Mdl_patch (OutI S (o_patch S v w c).1 (o_patch S v w c).2.1 (o_patch S v w c).2.2)) 60 [xr (some m), xi v, xi w, xi c, xi v4, xu, xu, xu, xu, xu, xu, xu, xu, xu, xu, xu] [xi (k : Nat), xr (some m)] μ := fun k v4 e hk hk2 => by
    refine C_patch_60 (K_refused hk2) fun y μ2 hq => ?_
    obtain ⟨rfl, rfl⟩ := hq
    refine B_patch_63 ⟨bI_q, fun c2 => absurd (show (k : Int) ≠ 0 by omega) (bI_0.mp c2), fun _ => R_patch_67 ?_⟩
    rw [e]; exact OutI.no h hk
  refine C_patch_2 (K_isVersion hv h.2.1.1 h40) fun y μ1 hq => ?_
  obtain ⟨rfl, rfl⟩ := hq
  refine B_patch_5 ⟨bI_q, fun g => bad 1 _ (c3_1 (fun z => bI_0.mp g z.1)) (by decide) (by decide), fun g => ?_⟩
  refine C_patch_10 (K_isVersion hw h.2.1.1 h40) fun y μ1 hq => ?_
  obtain ⟨rfl, rfl⟩ := hq
  refine B_patch_13 ⟨bI_q, fun d => bad 1 _ (c3_1 (fun z => bI_0.mp d z.2)) (by decide) (by decide), fun d => ?_⟩
  have c' : isV S v ∧ isV S w := ⟨bI_1.mp g, bI_1.mp d⟩
  refine C_patch_36 (k_in hc (by decide) (by decide)) fun y hq => ?_
  subst hq
  refine B_patch_39 ⟨bI_q, fun f => ⟨fun e10 => ?_, fun e10 => bad 3 _ (c3_3 c' (bI_1.mp f) (by omega)) (by decide) (by decide)⟩, fun f => bad 2 _ (c3_2 c' (bI_0.mp f)) (by decide) (by decide)⟩
  have d' := bI_1.mp f
  have l10 : (sP S).length < 10 := by omega
  have e : (o_patch S v w c).1 = 0 := c3_t c' d' l10
  obtain ⟨v0, w0⟩ := c'
  refine C_patch_60 (K_refused (by decide)) fun y μ2 hq => ?_
  obtain ⟨rfl, rfl⟩ := hq
  refine B_patch_63 ⟨bI_q, fun _ => ?_, fun c2 => absurd (show bI ((0 : Int) ≠ 0) = 0 by decide) c2⟩
  have h0 := h.w0 (v := 0)
  have z00 : mI (wI μ1 0 0) 0 = 0 := mw0
  generalize wI μ1 0 0 = μz at h0 z00 ⊢
  have h29z := h0.2.2.2.2.1.1
  obtain ⟨ctx, rfl⟩ := Int.eq_ofNat_of_zero_le d'.1
  refine C_patch_72 (K_pair ⟨h0.2.1, h20, h0.1, hN, v0, w0, by decide⟩) fun y μ2 hq => B_patch_75 ?_
  obtain ⟨rfl, k1, hp1⟩ := hq
  have hok := prs_ok (XL 0 (vtx (sV S) v)) (XL 0 (vtx (sV S) w))
  have lX : ∀ T : List (Int64 × Int), (XL 0 T).length = T.length := fun T => List.length_map ..
  rw [lX, lX] at hok
  have hV2 := h0.2.1.fr k1 (by decide) (by decide)
  have hI2 := h0.1.fr k1 (by decide) (by decide) (by decide) (by decide)
  have h292 := (k1.1 29 (by decide)).trans h29z
  have lv := h20 v
  have lw := h20 w
  have hbd := rw0_bd hok
  have hlen := rwN_len (T := vtx (sV S) v) (U := vtx (sV S) w) (P := (prW (XL 0 (vtx (sV S) v)) (XL 0 (vtx (sV S) w))).1) ((vtx (sV S) v).length + 1) 0 0 0
  have hctx := fun j q hj => (rw0_ok hok).ctx (ctx := ctx) _ 0 0 (Or.inl rfl) (Nat.zero_le _) j q hj
  have hfl : flH (vtx (sV S) v) (vtx (sV S) w) (prT (vtx (sV S) v) (vtx (sV S) w)).1 ctx = (rwN (vtx (sV S) v) (vtx (sV S) w) (prW (XL 0 (vtx (sV S) v)) (XL 0 (vtx (sV S) w))).1 ((vtx (sV S) v).length + 1) 0 0 0).map (mkQ (vtx (sV S) v) (vtx (sV S) w) (prW (XL 0 (vtx (sV S) v)) (XL 0 (vtx (sV S) w))).1 ctx) := flH_rw
  generalize hRe : rwN (vtx (sV S) v) (vtx (sV S) w) (prW (XL 0 (vtx (sV S) v)) (XL 0 (vtx (sV S) w))).1 ((vtx (sV S) v).length + 1) 0 0 0 = R at hbd hlen hctx hfl
  refine patch_loop (P := (prW (XL 0 (vtx (sV S) v)) (XL 0 (vtx (sV S) w))).1) (R := R) hV2 hI2 h292 l10 v0 w0 lv lw (hN v) (hN w) hok hp1 (fun x6 x7 z μ3 hL3 hE3 => ?_) ((vtx (sV S) v).length + 1) 0 0 0 [] μ2 (by omega) (by rw [List.nil_append]; exact hRe) (Nat.le_refl _) (fun _ => Nat.zero_le _) (Nat.le_refl _) (fun j _ j2 j3 => by have := (hok.1 j j2).resolve_left j3; omega) (by omega) LoQ.rf (fun h e he => by cases he)
  have k17 : Fr [] [17] [] μ3 (wA μ3 17 (sP S).length R.length) := Fr.wA (by decide)
  have e17 : mA (wA μ3 17 (sP S).length R.length) 17 (sP S).length = R.length := by rw [mA_wA, if_pos ⟨rfl, rfl⟩]
  have o17 : ∀ k, k < (sP S).length → mA (wA μ3 17 (sP S).length R.length) 17 k = mA μ3 17 k := fun k hk => by rw [mA_wA, if_neg (by omega)]
  generalize wA μ3 17 (sP S).length (R.length : Int) = μ4 at k17 e17 o17 ⊢
  have k14 : Fr [] [18, 19, 20, 17, 29, 30] [21] μz μ4 := (k1.mono (by decide) (by decide) (by decide)).trans ((hL3.1.mono (by decide) (by decide) (by decide)).trans (k17.mono (by decide) (by decide) (by decide)))
  refine ctx_all (R := R) (h0.2.1.fr k14 (by decide) (by decide)) (h0.1.fr k14 (by decide) (by decide) (by decide) (by decide)) ((k14.1 29 (by decide)).trans h29z) l10 v0 lv (hN v) (by omega) (by omega) (fun j e hj => by rw [k17.2.1 18 (by decide)]; exact (hE3 j e hj).1.1.1) (fun j e hj => ?_) (fun z μ5 hC => ?_) R.length 0 μ4 (by omega) ⟨Fr.rf, ⟨fun _ _ => rfl, fun _ _ => rfl⟩, fun j e hj => ?_, fun j e j1 => absurd j1 (Nat.not_lt_zero _)⟩
  · obtain ⟨⟨a1, a2, a3, a4, a5⟩, b1, -, -⟩ := hctx j e hj
    exact ⟨⟨a1, a2, a4, a5⟩, b1⟩
  · obtain ⟨c1, ⟨c2, c3⟩, c4, c5⟩ := hC
    have k15 : Fr [] [18, 19, 20, 17, 29, 30] [21, 22] μz μ5 := (k14.mono (by decide) (by decide) (by decide)).trans (c1.mono (by decide) (by decide) (by decide))
    have k6 : Fr [29] [] [] μ5 (wI μ5 29 (((sP S).length : Int) + 1)) := Fr.wI (by decide)
    have e29 : mI (wI μ5 29 (((sP S).length : Int) + 1)) 29 = ((sP S).length : Int) + 1 := by rw [mI_wI, if_pos rfl]
    have eA : mA (wI μ5 29 (((sP S).length : Int) + 1)) = mA μ5 := mA_wI _ _ _
    have eG : mG (wI μ5 29 (((sP S).length : Int) + 1)) = mG μ5 := mG_wI _ _ _
    generalize wI μ5 29 (((sP S).length : Int) + 1) = μ6 at k6 e29 eA eG ⊢
    have kk : Fr [0, 29, 53] [17, 18, 19, 20, 28, 29, 30, 31, 32, 33, 34, 35, 36, 37] [21, 22] μz μ6 := (k15.mono (by decide) (by decide) (by decide)).trans (k6.mono (by decide) (by decide) (by decide))
    refine B_patch_525 (R_patch_531 ?_)
    rw [e]
    refine OutI.ok (((k6.1 0 (by decide)).trans (k15.1 0 (by decide))).trans ?_) ?_ ?_
    · exact z00
    · rw [e29]; show (((sP S).length : Int) + 1) - 1 = (((sP S).length : Nat) : Int); omega
    · show MdV (setP S (sP S ++ [flH (vtx (sV S) v) (vtx (sV S) w) (prT (vtx (sV S) v) (vtx (sV S) w)).1 ((ctx : Int)).toNat])) μ6
      rw [Int.toNat_natCast, hfl]
      refine h0.upP kk (h0.2.2.2.2.1.snoc hH l10 (by rw [List.length_map]; omega) e29 (fun k hk => ?_) ?_ (fun k hk => ⟨?_, ?_⟩) (fun k hk => ?_) (fun k hk => ?_) (fun k hk => ?_) (fun i H hi => ?_))
      · rw [eA, c1.2.1 17 (by decide), o17 k hk, hL3.1.2.1 17 (by decide), k1.2.1 17 (by decide)]
      · rw [eA, c1.2.1 17 (by decide), e17, List.length_map]
      · rw [eA, c1.2.1 18 (by decide), k17.2.1 18 (by decide), (hL3.2.1 k hk).1, k1.2.1 18 (by decide)]
      · rw [eA, c1.2.1 19 (by decide), k17.2.1 19 (by decide), (hL3.2.1 k hk).2, k1.2.1 19 (by decide)]
      · rw [eA, c2 k hk, k17.2.1 20 (by decide), hL3.2.2.1 k (by omega), k1.2.1 20 (by decide)]
      · rw [eG, c1.2.2 21 (by decide), k17.2.2 21 (by decide), hL3.2.2.2 k (by omega), k1.2.2 21 (by decide)]
      · rw [eG, c3 k hk, k17.2.2 22 (by decide), hL3.1.2.2 22 (by decide), k1.2.2 22 (by decide)]
      · rw [List.getElem?_map] at hi
        obtain ⟨q, hq, rfl⟩ := Option.map_eq_some_iff.mp hi
        have li := (List.getElem?_eq_some_iff.mp hq).1
        obtain ⟨⟨⟨r1, r2⟩, -, r5, r6⟩, qb⟩ := hE3 i q hq
        obtain ⟨y1, y2⟩ := c4 i q hq
        obtain ⟨y3, y4, y5, y6⟩ := c5 i q li hq
        obtain ⟨b1, b2, b3, b4⟩ := id qb
        obtain ⟨⟨a1, a2, a3, a4, a5⟩, s1, ca, cb⟩ := hctx i q hq
        rw [← ca] at y3 y5
        rw [← cb] at y4 y6
        have hca : caN (prW (XL 0 (vtx (sV S) v)) (XL 0 (vtx (sV S) w))).1 ctx q.1 q.2.2.1 ctx 0 ≤ q.1 := by rw [ca]; omega
        have hcb : q.2.1 + cbN (prW (XL 0 (vtx (sV S) v)) (XL 0 (vtx (sV S) w))).1 (vtx (sV S) v).length ctx q.2.1 q.2.2.2 ctx 0 ≤ (vtx (sV S) v).length := by rw [cb]; omega
        have n18 : ∀ k, mA μ6 18 k = mA μ3 18 k := fun k => by rw [eA, c1.2.1 18 (by decide), k17.2.1 18 (by decide)]
        have n19 : ∀ k, mA μ6 19 k = mA μ3 19 k := fun k => by rw [eA, c1.2.1 19 (by decide), k17.2.1 19 (by decide)]
        have n21 : ∀ k, mG μ6 21 k = mG μ3 21 k := fun k => by rw [eG, c1.2.2 21 (by decide), k17.2.2 21 (by decide)]
        refine ⟨⟨(n18 _).trans r1, (n19 _).trans r2⟩, ⟨?_, ?_, ?_, ?_⟩, fun k hk => ?_, fun k hk => ?_, fun k hk => ?_, fun k hk => ?_⟩
        · rw [eA, y1]
          show _ = (((slA (vtx (sV S) v) q.1 q.2.1).length : Nat) : Int)
          rw [slA_len b2]; omega
        · rw [eA, y2]
          show _ = (((slA (vtx (sV S) w) q.2.2.1 q.2.2.2).length : Nat) : Int)
          rw [slA_len b4]; omega
        · rw [eA, y3]
          show _ = (((slA (vtx (sV S) v) (q.1 - caN (prW (XL 0 (vtx (sV S) v)) (XL 0 (vtx (sV S) w))).1 ctx q.1 q.2.2.1 ctx 0) q.1).length : Nat) : Int)
          rw [slA_len (by omega)]; omega
        · rw [eA, y4]
          show _ = (((slA (vtx (sV S) v) q.2.1 (q.2.1 + cbN (prW (XL 0 (vtx (sV S) v)) (XL 0 (vtx (sV S) w))).1 (vtx (sV S) v).length ctx q.2.1 q.2.2.2 ctx 0)).length : Nat) : Int)
          rw [slA_len hcb]; omega
        · have hk' : k < (slA (vtx (sV S) v) q.1 q.2.1).length := hk
          rw [slA_len b2] at hk'
          rw [n21, r5 k hk']
          exact (slA_at b2 hk').symm
        · have hk' : k < (slA (vtx (sV S) w) q.2.2.1 q.2.2.2).length := hk
          rw [slA_len b4] at hk'
          rw [n21, r6 k hk']
          exact (slA_at b4 hk').symm
        · have hk' : k < (slA (vtx (sV S) v) (q.1 - caN (prW (XL 0 (vtx (sV S) v)) (XL 0 (vtx (sV S) w))).1 ctx q.1 q.2.2.1 ctx 0) q.1).length := hk
          rw [slA_len (by omega)] at hk'
          have g := slA_at (T := vtx (sV S) v) (a := q.1 - caN (prW (XL 0 (vtx (sV S) v)) (XL 0 (vtx (sV S) w))).1 ctx q.1 q.2.2.1 ctx 0) (b := q.1) (j := k) (by omega) hk'
          rw [eG, y5 k (by omega)]
          refine Eq.trans ?_ g.symm
          congr 1; omega
        · have hk' : k < (slA (vtx (sV S) v) q.2.1 (q.2.1 + cbN (prW (XL 0 (vtx (sV S) v)) (XL 0 (vtx (sV S) w))).1 (vtx (sV S) v).length ctx q.2.1 q.2.2.2 ctx 0)).length := hk
          rw [slA_len hcb] at hk'
          rw [eG, y6 k (by omega)]
          exact (slA_at hcb hk').symm
  · have := hE3 j e hj
    rw [k17.2.1 20 (by decide)]
    exact this.1.2.1
end PT7
