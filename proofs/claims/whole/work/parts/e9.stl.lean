/-! BY HAND: edits of the draft, by the reference, 7: settle -/
section STM
variable {Ω : Om} {m : Nat} {μ : Mu} {S : St} {c how : Int}
theorem nmT_app {A B : List (Int64 × Int)} : nmT (A ++ B) = nmT A ++ nmT B := List.map_append ..
theorem settle_bad {σ0 : Sto} {S' : St} {k : Nat} {a v1 v2 v3 v4 v5 v6 v7 v8 : Int} (h : MdV S μ) (hk : k ≠ 0) (hk2 : Q32 (k : Int)) : Mw Ω σ0 m M_Mdl_settle rm_Mdl_settle (MQi Ω σ0 m rm_Mdl_settle (OutI S k a S')) 166 [xr (some m), xi v1, xi v2, xi v3, xi v4, xi v5, xi v6, xi v7, xi v8, xu] [xi (k : Nat), xr (some m)] μ := by
  refine C_settle_166 (K_refused hk2) fun y μ2 hq => ?_
  obtain ⟨rfl, rfl⟩ := hq
  exact B_settle_169 ⟨bI_q, fun c2 => absurd (show (k : Int) ≠ 0 by omega) (bI_0.mp c2), fun _ => R_settle_173 (OutI.no h hk)⟩
theorem settle_ok {σ0 : Sto} {r : DR} {cc : Cnl} {i : Nat} {v3 v4 v7 v8 : Int} (h : MdV S μ) (hN : ∀ v : Int, Nm (sB S) (vtx (sV S) v)) (h20 : ∀ v : Int, (vtx (sV S) v).length ≤ 20) (hD : sD S = some r) (hE : (drE r).length < 640 ∧ IvR S r) (hcc : (drC r)[i]? = some cc) (hs : cnS cc = 0) (d' : 0 ≤ how ∧ how ≤ 4) (hl : (drT r).length + cnL cc how ≤ 20) (e0 : (o_settle S i how).1 = 0) (ecc : stl S i = cc) :
    Mw Ω σ0 m M_Mdl_settle rm_Mdl_settle (MQi Ω σ0 m rm_Mdl_settle (OutI S (o_settle S i how).1 (o_settle S i how).2.1 (o_settle S i how).2.2)) 166 [xr (some m), xi i, xi how, xi v3, xi v4, xi (fst5 how), xi (snd5 how), xi v7, xi v8, xu] [xi 0, xr (some m)] μ := by
  have eD := drO_some hD
  refine C_settle_166 (K_refused (by decide)) fun y μ2 hq => ?_
  obtain ⟨rfl, rfl⟩ := hq
  refine B_settle_169 ⟨bI_q, fun _ => ?_, fun c2 => absurd (show bI ((0 : Int) ≠ 0) = 0 by decide) c2⟩
  have h0 := h.w0 (v := 0)
  have z00 : mI (wI μ 0 0) 0 = 0 := mw0
  generalize wI μ 0 0 = μ0 at h0 z00 ⊢
  have hM := h0.2.2.1.2 r hD
  obtain ⟨⟨a1, a2, a3, a4⟩, hP, ⟨R, hR, hV, h48⟩, hEd⟩ := id hM
  obtain ⟨hE1, i1, i2, i3, i4, i5, i6, i7⟩ := hE
  have b := (i5 cc (List.mem_of_getElem? hcc)).1
  have h21 := hP.2.1
  have li := (List.getElem?_eq_some_iff.mp hcc).1
  have e11 := DM.yes h0 hD
  refine C_settle_175 (K_remember hV hE1 h48 hEd.1) fun μ1 hq => B_settle_178 ?_
  have mR : (-1 - (i : Int)) ∈ R := by
    have g := opG_mem 0 (drC r) i cc hcc hs
    rw [Nat.zero_add] at g
    have g2 : (-1 - (i : Int)) ∈ R.filter (fun y => !decide (0 ≤ y)) := by rw [hR.2.1]; exact g
    exact (List.mem_filter.mp g2).1
  obtain ⟨A, C, eR, hA⟩ := List.eq_append_cons_of_mem mR
  subst eR
  have lR := hR.len
  have lO := opG_len 0 (drC r)
  have lO' : (opL (drC r)).length ≤ (drC r).length := lO
  rw [List.length_append, List.length_cons, List.length_map] at lR
  have bl := stL_len b d'
  obtain ⟨f20, s20, b20⟩ := src_20 (r := r) h20
  obtain ⟨nF, nS, nB⟩ := src_nm (r := r) hN
  have b12 := h0.1.2.1
  have nL := Nm.stL (c := cc) (how := how) nF nS nB
  have pc := hP.2.2 i cc hcc
  have hl1 := fun p => slice_len ((b.at p).1) ((b.at p).2.1) ((b.at p).2.2)
  have q20 : ∀ p, ((slice (t3 (srcF (sV S) r) (srcS (sV S) r) (srcB (sV S) r) p) (cnF cc p) (cnT cc p)).length : Int) = cnT cc p - cnF cc p := fun p => by
    rw [hl1 p]
    have := b.at p
    omega
  have k20 : ∀ p, (slice (t3 (srcF (sV S) r) (srcS (sV S) r) (srcB (sV S) r) p) (cnF cc p) (cnT cc p)).length ≤ 20 := fun p => by
    have g1 := hl1 p
    have g2 := b.at p
    have g3 : (t3 (srcF (sV S) r) (srcS (sV S) r) (srcB (sV S) r) p).length ≤ 20 := by unfold t3; split; · exact f20
                                                                                       · split; · exact s20
                                                                                         · exact b20
    omega
  have nm : ∀ p, Nm (sB S) (slice (t3 (srcF (sV S) r) (srcS (sV S) r) (srcB (sV S) r) p) (cnF cc p) (cnT cc p)) := fun p y hy => by
    have g := slice_mem hy
    unfold t3 at g
    split at g
    · exact nF y g
    · split at g
      · exact nS y g
      · exact nB y g
  have qq : ∀ p, ∀ x ∈ nmT (slice (t3 (srcF (sV S) r) (srcS (sV S) r) (srcB (sV S) r) p) (cnF cc p) (cnT cc p)), Q32 x := fun p x hx => by
    obtain ⟨y, g1, g2⟩ := List.mem_map.mp hx
    have := nm p y g1
    omega
  have pL : ∀ p, p < 3 → mA μ1 10 (3 * i + p) = (nmT (slice (t3 (srcF (sV S) r) (srcS (sV S) r) (srcB (sV S) r) p) (cnF cc p) (cnT cc p))).length := fun p hp => by
    rw [hq.1.2.1 10 (by decide), (pc p hp).1, List.length_map, q20 p]
  have pX : ∀ p, p < 3 → ∀ (k : Nat) x, (nmT (slice (t3 (srcF (sV S) r) (srcS (sV S) r) (srcB (sV S) r) p) (cnF cc p) (cnT cc p)))[k]? = some x → mA μ1 11 (20 * (3 * i + p) + k) = x := fun p hp k x hx => by
    rw [List.getElem?_map] at hx
    obtain ⟨y, g1, g2⟩ := Option.map_eq_some_iff.mp hx
    rw [hq.1.2.1 11 (by decide), (pc p hp).2 k y g1, g2]
  have e18 : mI μ1 18 = stB (drC r) := by rw [hq.1.1 18 (by decide)]; exact a4
  have eb : bOr (stB (drC r)) (bShl 1 (i : Int)) = stB (stC (drC r) i cc how) := by
    rw [stB_set h21 hcc (c' := setSe cc 1) (show ¬ (1 : Int) = 0 by decide)]
    rw [stB_N, stB_N]
    congr 1
    apply Nat.eq_of_testBit_eq
    intro j
    rw [stN_bit, stN_bit]
    have em := stC_op (how := how) hcc
    have em1 : ((drC r).set i (setSe cc 1)).map cOp = ((drC r).map cOp).set i false := by rw [List.map_set]; rfl
    have e2 : (((drC r).set i (setSe cc 1)).map cOp)[j]? = ((stC (drC r) i cc how).map cOp)[j]? := by rw [em, em1]
    rw [List.getElem?_map, List.getElem?_map] at e2
    cases g1 : ((drC r).set i (setSe cc 1))[j]? with
    | none =>
      rw [g1] at e2
      cases g2 : (stC (drC r) i cc how)[j]? with
      | none => rfl
      | some d => rw [g2] at e2; cases e2
    | some d1 =>
      rw [g1] at e2
      cases g2 : (stC (drC r) i cc how)[j]? with
      | none => rw [g2] at e2; cases e2
      | some d2 =>
        rw [g2] at e2
        have e3 := Option.some.inj e2
        unfold cOp at e3
        have e4 := decide_eq_decide.mp e3
        show stt d1 = stt d2
        unfold stt
        exact decide_eq_decide.mpr (not_congr e4)
  have qb : Q32 (bOr (mI μ1 18) (bShl 1 (i : Int))) := by
    rw [e18, eb]
    exact (stB_q (by unfold stC; rw [psh_len, List.length_set]; exact h21)).1
  have fin : ∀ (L : List (Int64 × Int)) (z : Int) μ3, L = stL (srcF (sV S) r) (srcS (sV S) r) (srcB (sV S) r) cc how → Fr [15, 18] [9] [] μ1 μ3 → RowV (A ++ (nmT L ++ C)) μ3 → mI μ3 18 = bOr (mI μ1 18) (bShl 1 (i : Int)) → Mw Ω σ0 m M_Mdl_settle rm_Mdl_settle (MQi Ω σ0 m rm_Mdl_settle (OutI S (o_settle S i how).1 (o_settle S i how).2.1 (o_settle S i how).2.2)) 252 [xr (some m), xi i, xi how, xi v3, xi v4, xi (fst5 how), xi (snd5 how), xi v7, xi v8, xi z] [xr (some m)] μ3 := fun L z μ3 eL k3 hV3 h18 => by
    subst eL
    have kk : Fr [15, 18] [9] [] μ1 (wI μ3 0 0) ∨ True := Or.inr trivial
    have k4 : Fr [0] [] [] μ3 (wI μ3 0 0) := Fr.wI (by decide)
    have hR' := hR.settle hcc hs (nm_ge nL) bl
    rw [← stT_eq] at hR'
    refine C_settle_252 (X_conflicts0 (r := ((stT (srcF (sV S) r) (srcS (sV S) r) (srcB (sV S) r) (drT r) cc how), stC (drC r) i cc how, [], 0, 0, 0, 0)) ⟨by rw [k3.1 11 (by decide), hq.1.1 11 (by decide)]; exact e11, ?_, ?_, ?_⟩ (Q := fun y μ' => y = (opn (stC (drC r) i cc how) : Nat) ∧ μ' = wI μ3 0 0) ⟨rfl, rfl⟩) fun y μ4 hy => ?_
    · show mI μ3 17 = ((stC (drC r) i cc how).length : Nat)
      unfold stC
      rw [psh_len, List.length_set, k3.1 17 (by decide), hq.1.1 17 (by decide)]; exact hP.1
    · show (stC (drC r) i cc how).length ≤ 21
      unfold stC
      rw [psh_len, List.length_set]; exact h21
    · show mI μ3 18 = stB (stC (drC r) i cc how)
      rw [h18, e18, eb]
    · obtain ⟨rfl, rfl⟩ := hy
      refine R_settle_255 ?_
      rw [e0]
      refine OutI.ok mw0 ?_ ?_
      · show _ = ((opn (stC (drC (drO S)) (i : Int).toNat (stl S i) how) : Nat) : Int)
        rw [eD, ecc, Int.toNat_natCast]
      · show MdV (edS S (stT (srcF (sV S) (drO S)) (srcS (sV S) (drO S)) (srcB (sV S) (drO S)) (drT (drO S)) (stl S i) how) (stC (drC (drO S)) (i : Int).toNat (stl S i) how) _ (sB S)) (wI μ3 0 0)
        rw [eD, ecc, Int.toNat_natCast]
        have k34 : Fr [0, 15, 18] [9] [] μ1 (wI μ3 0 0) := (k3.mono (by decide) (by decide) (by decide)).trans (k4.mono (by decide) (by decide) (by decide))
        have lS := hR'.len
        have lO2 : (opL (stC (drC r) i cc how)).length ≤ (drC r).length := by
          have := opG_len 0 (stC (drC r) i cc how)
          unfold stC at this ⊢
          rw [psh_len, List.length_set] at this
          exact this
        rw [stT_eq] at lS
        simp only [List.length_append, List.length_map, List.length_take, List.length_drop] at lS
        refine h0.edit hD hR (by rw [List.length_append, List.length_cons]; omega) hq (k34.mono (by decide) (by decide) (by decide)) ((h0.1.fr hq.1 (by decide) (by decide) (by decide) (by decide)).fr k34 (by decide) (by decide) (by decide) (by decide)) (R' := A ++ (nmT (stL (srcF (sV S) r) (srcS (sV S) r) (srcB (sV S) r) cc how) ++ C)) hR' (hV3.fr k4 (by decide) (by decide)) (by rw [List.length_append, List.length_append, List.length_map]; omega) ?_ (((hP.fr hq.1 (by decide) (by decide)).fr k34 (by decide) (by decide)).sm (SmP.st hcc)) ⟨rfl, rfl⟩
        rw [mI_wI, if_neg (by decide), h18, e18, eb]
  have hV1 := hV.fr hq.1 (by decide) (by decide)
  by_cases e4 : how = 4
  · have ef : fst5 how = ((1 : Nat) : Int) := if_pos e4
    have es : snd5 how = 0 := if_pos e4
    have eL : stL (srcF (sV S) r) (srcS (sV S) r) (srcB (sV S) r) cc how = slice (srcS (sV S) r) (cnF cc 1) (cnT cc 1) ++ slice (srcF (sV S) r) (cnF cc 0) (cnT cc 0) := by unfold stL; rw [if_neg (by omega), if_pos e4]
    rw [eL, List.length_append] at bl
    rw [ef, es] at fin ⊢
    exact settle_go hV1 (by omega) hA (by decide) (pL 1 (by decide)) (pX 1 (by decide)) (Or.inr ⟨0, by decide, rfl, pL 0 (by decide), pX 0 (by decide)⟩) (by rw [List.length_map]; exact k20 1) (by rw [List.length_map]; exact k20 0) (by rw [List.length_map, List.length_map]; show A.length + ((slice (srcS (sV S) r) (cnF cc 1) (cnT cc 1)).length + (slice (srcF (sV S) r) (cnF cc 0) (cnT cc 0)).length) + C.length < 60; omega) (qq 1) (qq 0) qb (fun z μ3 g1 g2 g3 => fin _ z μ3 eL.symm g1 (by rw [nmT_app]; exact g2) g3)
  · by_cases e3 : how = 3
    · have ef : fst5 how = ((0 : Nat) : Int) := by unfold fst5; rw [if_neg e4, if_pos e3]; rfl
      have es : snd5 how = 1 := by unfold snd5; rw [if_neg e4, if_pos e3]
      have eL : stL (srcF (sV S) r) (srcS (sV S) r) (srcB (sV S) r) cc how = slice (srcF (sV S) r) (cnF cc 0) (cnT cc 0) ++ slice (srcS (sV S) r) (cnF cc 1) (cnT cc 1) := by unfold stL; rw [if_pos e3]
      rw [eL, List.length_append] at bl
      rw [ef, es] at fin ⊢
      exact settle_go hV1 (by omega) hA (by decide) (pL 0 (by decide)) (pX 0 (by decide)) (Or.inr ⟨1, by decide, rfl, pL 1 (by decide), pX 1 (by decide)⟩) (by rw [List.length_map]; exact k20 0) (by rw [List.length_map]; exact k20 1) (by rw [List.length_map, List.length_map]; show A.length + ((slice (srcF (sV S) r) (cnF cc 0) (cnT cc 0)).length + (slice (srcS (sV S) r) (cnF cc 1) (cnT cc 1)).length) + C.length < 60; omega) (qq 0) (qq 1) qb (fun z μ3 g1 g2 g3 => fin _ z μ3 eL.symm g1 (by rw [nmT_app]; exact g2) g3)
    · have ef : fst5 how = (how.toNat : Int) := by unfold fst5; rw [if_neg e4, if_neg e3]; omega
      have es : snd5 how = -1 := by unfold snd5; rw [if_neg e4, if_neg e3]
      have eL : stL (srcF (sV S) r) (srcS (sV S) r) (srcB (sV S) r) cc how = slice (t3 (srcF (sV S) r) (srcS (sV S) r) (srcB (sV S) r) how.toNat) (cnF cc how.toNat) (cnT cc how.toNat) := by unfold stL; rw [if_neg e3, if_neg e4]
      rw [eL] at bl
      rw [ef, es] at fin ⊢
      exact settle_go (L2 := []) hV1 (by omega) hA (by omega) (pL how.toNat (by omega)) (pX how.toNat (by omega)) (Or.inl ⟨rfl, rfl⟩) (by rw [List.length_map]; exact k20 how.toNat) (Nat.zero_le _) (by rw [List.length_map, List.length_nil]; omega) (qq how.toNat) (fun x hx => by cases hx) qb (fun z μ3 g1 g2 g3 => fin _ z μ3 eL.symm g1 (by rw [List.append_nil] at g2; exact g2) g3)
theorem X_settle (h : MdV S μ) (hN : ∀ v : Int, Nm (sB S) (vtx (sV S) v)) (h20 : ∀ v : Int, (vtx (sV S) v).length ≤ 20) (hE : ∀ r, sD S = some r → (drE r).length < 640 ∧ IvR S r) (hc0 : Q32 c) (hh0 : Q32 how) : MMi Ω m M_Mdl_settle rm_Mdl_settle (OutI S (o_settle S c how).1 (o_settle S c how).2.1 (o_settle S c how).2.2) μ [xi c, xi how] := by
  refine E_settle fun σ0 => B_settle_0 ?_
  refine C_settle_2 (K_isConflict h hc0) fun y μ1 hq => ?_
  obtain ⟨rfl, rfl⟩ := hq
  refine B_settle_5 ?_
  refine C_settle_9 (k_in hh0 (by decide) (by decide)) fun y hq => ?_
  subst hq
  have K54 : Mw Ω σ0 m M_Mdl_settle rm_Mdl_settle (MQi Ω σ0 m rm_Mdl_settle (OutI S (o_settle S c how).1 (o_settle S c how).2.1 (o_settle S c how).2.2)) 54 [xr (some m), xi c, xi how, xi (bI (0 ≤ c ∧ c < cfn S)), xi (bI (0 ≤ how ∧ how ≤ 4)), xi (fst5 how), xu, xu, xu, xu] [xi (snd5 how)] μ1 := by
    by_cases c' : 0 ≤ c ∧ c < cfn S
    · obtain ⟨r, hD⟩ : ∃ r, sD S = some r := by
        cases hD : sD S with
        | none =>
          have ez : cfn S = 0 := by unfold cfn; rw [hD]
          omega
        | some r => exact ⟨r, rfl⟩
      have ez : cfn S = (drC r).length := by unfold cfn; rw [hD]
      have eD := drO_some hD
      obtain ⟨i, rfl⟩ := Int.eq_ofNat_of_zero_le c'.1
      have hM := h.2.2.1.2 r hD
      obtain ⟨⟨a1, a2, a3, a4⟩, hP, ⟨R, hR, hV, h48⟩, hEd⟩ := id hM
      have h21 := hP.2.1
      obtain ⟨cc, hcc⟩ : ∃ cc, (drC r)[i]? = some cc := ⟨_, List.getElem?_eq_getElem (by omega)⟩
      have ecc : stl S i = cc := by unfold stl; rw [eD, Int.toNat_natCast, List.getD_eq_getElem?_getD, hcc]; rfl
      have est := stB_at h21 hcc
      have q1 : (1 : Int) = bI (0 ≤ (i : Int) ∧ (i : Int) < cfn S) := (bI_t c').symm
      rw [← q1]
      have i3 := (hE r hD).2.2.2.1
      have lR := hR.ln
      rw [List.length_map] at lR
      have b := ((hE r hD).2.2.2.2.2.1 cc (List.mem_of_getElem? hcc)).1
      have qst : Q32 (bAnd (bShr (mI μ1 18) (i : Int)) 1) := by rw [a4, est]; split <;> decide
      by_cases d' : 0 ≤ how ∧ how ≤ 4
      · rw [bI_t d']
        have bl := stL_len b d'
        have c40 := cnL_b b (src_20 (r := r) h20).1 (src_20 (r := r) h20).2.1 (src_20 (r := r) h20).2.2 d'
        have bad3 : ∀ (v7 v8 : Int), ¬ (cnS (stl S i) = 0 ∧ (drT (drO S)).length + cnL (stl S i) how ≤ 20) → Mw Ω σ0 m M_Mdl_settle rm_Mdl_settle (MQi Ω σ0 m rm_Mdl_settle (OutI S (o_settle S i how).1 (o_settle S i how).2.1 (o_settle S i how).2.2)) 166 [xr (some m), xi i, xi how, xi 1, xi 1, xi (fst5 how), xi (snd5 how), xi v7, xi v8, xu] [xi 3, xr (some m)] μ1 := fun v7 v8 g => by
          have e : (o_settle S i how).1 = 3 := c3_3 c' d' g
          rw [e]; exact settle_bad (k := 3) h (by decide) (by decide)
        have K97 : ∀ s0 s1 : Int, s0 + s1 = cnL cc how → Mw Ω σ0 m M_Mdl_settle rm_Mdl_settle (MQi Ω σ0 m rm_Mdl_settle (OutI S (o_settle S i how).1 (o_settle S i how).2.1 (o_settle S i how).2.2)) 97 [xr (some m), xi i, xi how, xi 1, xi 1, xi (fst5 how), xi (snd5 how), xu, xu, xu] [xi s1, xi s0] μ1 := fun s0 s1 es => by
          refine B_settle_97 ⟨by decide, fun z => absurd z (by decide), fun _ => ⟨qst, fun z => ⟨fun _ => ⟨by decide, fun _ => bad3 _ _ (fun g => ?_), fun z => absurd z (by decide)⟩, fun z => absurd z (by decide)⟩, fun z => ?_⟩⟩
          · rw [a4, est, if_pos (ecc ▸ g.1)] at z; exact z rfl
          · have hs : cnS cc = 0 := by
              rw [a4, est] at z
              split at z
              · assumption
              · cases z
            refine C_settle_120 (K_lineCount hV) fun y μ1 hq => ?_
            obtain ⟨rfl, rfl⟩ := hq
            rw [lR]
            refine B_settle_123 ⟨by omega, fun g => ⟨by decide, fun _ => ⟨by decide, fun _ => bad3 _ _ (fun g2 => ?_), fun z => absurd z (by decide)⟩, fun z => absurd z (by decide)⟩, fun g => ⟨by decide, fun _ => ⟨by decide, fun _ => ?_, fun z => absurd z (by decide)⟩, fun z => absurd z (by decide)⟩⟩
            · rw [ecc, eD] at g2; omega
            · have e0 : (o_settle S i how).1 = 0 := c3_t c' d' ⟨by rw [ecc]; exact hs, by rw [ecc, eD]; omega⟩
              exact settle_ok h hN h20 hD (hE r hD) hcc hs d' (by omega) e0 ecc
        have pc := hP.2.2 i cc hcc
        have li := (List.getElem?_eq_some_iff.mp hcc).1
        have z0 : cnZ cc 0 = cnT cc 0 - cnF cc 0 := if_pos (by decide)
        have z1 : cnZ cc 1 = cnT cc 1 - cnF cc 1 := if_pos (by decide)
        by_cases e4 : how = 4
        · have ef : fst5 how = 1 := if_pos e4
          have es : snd5 how = 0 := if_pos e4
          have eL : cnL cc how = cnZ cc 0 + cnZ cc 1 := if_pos (Or.inr e4)
          rw [ef, es] at K97 ⊢
          refine B_settle_54 ⟨by decide, fun z => absurd z (by decide), fun _ => ⟨by decide, fun z => absurd z (by decide), fun _ => ⟨by omega, by omega, by decide, fun _ => ⟨by omega, by omega, K97 _ _ ?_⟩, fun z => absurd z (by decide)⟩⟩⟩
          rw [show (3 * (i : Int) + 1).toNat = 3 * i + 1 by omega, show (3 * (i : Int) + 0).toNat = 3 * i + 0 by omega, (pc 1 (by decide)).1, (pc 0 (by decide)).1, eL, z0, z1]
          omega
        · by_cases e3 : how = 3
          · have ef : fst5 how = 0 := by unfold fst5; rw [if_neg e4, if_pos e3]
            have es : snd5 how = 1 := by unfold snd5; rw [if_neg e4, if_pos e3]
            have eL : cnL cc how = cnZ cc 0 + cnZ cc 1 := if_pos (Or.inl e3)
            rw [ef, es] at K97 ⊢
            refine B_settle_54 ⟨by decide, fun z => absurd z (by decide), fun _ => ⟨by decide, fun z => absurd z (by decide), fun _ => ⟨by omega, by omega, by decide, fun _ => ⟨by omega, by omega, K97 _ _ ?_⟩, fun z => absurd z (by decide)⟩⟩⟩
            rw [show (3 * (i : Int) + 1).toNat = 3 * i + 1 by omega, show (3 * (i : Int) + 0).toNat = 3 * i + 0 by omega, (pc 1 (by decide)).1, (pc 0 (by decide)).1, eL, z0, z1]
          · have ef : fst5 how = how := by unfold fst5; rw [if_neg e4, if_neg e3]
            have es : snd5 how = -1 := by unfold snd5; rw [if_neg e4, if_neg e3]
            have eL : cnL cc how = cnZ cc how := if_neg (fun z => z.elim e3 e4)
            rw [ef, es] at K97 ⊢
            refine B_settle_54 ⟨by decide, fun z => absurd z (by decide), fun _ => ⟨by decide, fun z => absurd z (by decide), fun _ => ⟨by omega, by omega, by decide, fun z => absurd rfl z, fun _ => K97 _ _ ?_⟩⟩⟩
            rw [show (3 * (i : Int) + how).toNat = 3 * i + how.toNat by omega, (pc how.toNat (by omega)).1, eL]
            unfold cnZ
            rw [if_pos (by omega)]; omega
      · rw [bI_f d']
        have e : (o_settle S i how).1 = 2 := c3_2 c' d'
        have bad2 : ∀ (v5 v6 v7 v8 : Int), Mw Ω σ0 m M_Mdl_settle rm_Mdl_settle (MQi Ω σ0 m rm_Mdl_settle (OutI S (o_settle S i how).1 (o_settle S i how).2.1 (o_settle S i how).2.2)) 166 [xr (some m), xi i, xi how, xi 1, xi 0, xi v5, xi v6, xi v7, xi v8, xu] [xi 2, xr (some m)] μ1 := fun v5 v6 v7 v8 => by
          rw [e]; exact settle_bad (k := 2) h (by decide) (by decide)
        refine B_settle_54 ⟨by decide, fun z => absurd z (by decide), fun _ => ⟨by decide, fun _ => ?_, fun z => absurd rfl z⟩⟩
        refine B_settle_101 ⟨by decide, fun z => absurd z (by decide), fun _ => ⟨qst, fun z => ⟨fun _ => ⟨by decide, fun z => absurd rfl z, fun _ => bad2 _ _ _ _⟩, fun z => absurd z (by decide)⟩, fun z => ?_⟩⟩
        refine C_settle_120 (K_lineCount hV) fun y μ1 hq => ?_
        obtain ⟨rfl, rfl⟩ := hq
        rw [lR]
        exact B_settle_123 ⟨by omega, fun g => ⟨by decide, fun _ => ⟨by decide, fun z => absurd rfl z, fun _ => bad2 _ _ _ _⟩, fun z => absurd z (by decide)⟩, fun g => ⟨by decide, fun _ => ⟨by decide, fun z => absurd rfl z, fun _ => bad2 _ _ _ _⟩, fun z => absurd z (by decide)⟩⟩
    · have e : (o_settle S c how).1 = 1 := c3_1 c'
      rw [bI_f c']
      refine B_settle_54 ⟨by decide, fun _ => ?_, fun z => absurd rfl z⟩
      refine B_settle_101 ⟨by decide, fun _ => ⟨fun z => absurd rfl z, fun _ => ?_⟩, fun z => absurd rfl z⟩
      rw [e]; exact settle_bad (k := 1) h (by decide) (by decide)
  have K33 : Mw Ω σ0 m M_Mdl_settle rm_Mdl_settle (MQi Ω σ0 m rm_Mdl_settle (OutI S (o_settle S c how).1 (o_settle S c how).2.1 (o_settle S c how).2.2)) 33 [xr (some m), xi c, xi how, xi (bI (0 ≤ c ∧ c < cfn S)), xi (bI (0 ≤ how ∧ how ≤ 4)), xu, xu, xu, xu, xu] [xi (fst5 how)] μ1 := by
    refine B_settle_33 ⟨hh0, fun e4 => ⟨fun e3 => ?_, fun e3 => ?_⟩, fun e4 => ?_⟩
    · have es : snd5 how = -1 := by unfold snd5; rw [if_neg e4, if_neg e3]
      rw [es] at K54; exact K54
    · have es : snd5 how = 1 := by unfold snd5; rw [if_neg e4, if_pos e3]
      rw [es] at K54; exact K54
    · have es : snd5 how = 0 := by unfold snd5; rw [if_pos e4]
      rw [es] at K54; exact K54
  refine B_settle_12 ⟨hh0, fun e4 => ⟨fun e3 => ?_, fun e3 => ?_⟩, fun e4 => ?_⟩
  · have es : fst5 how = how := by unfold fst5; rw [if_neg e4, if_neg e3]
    rw [es] at K33; exact K33
  · have es : fst5 how = 0 := by unfold fst5; rw [if_neg e4, if_pos e3]
    rw [es] at K33; exact K33
  · have es : fst5 how = 1 := by unfold fst5; rw [if_pos e4]
    rw [es] at K33; exact K33
end STM
