/-! BY HAND: what a run of calls keeps: settle, lay -/
section IN7
variable {x k : Nat} {S : St} {v w p q c how fz : Int} {l : Int64}
theorem I_settle (h : Inv x k S) (hk : k < 512) (h0 : (o_settle S c how).1 = 0) : Inv x (k + 1) (o_settle S c how).2.2 := by
  obtain ⟨c1, c2, c3, c4⟩ := c3_inv h0 (by decide) (by decide) (by decide)
  obtain ⟨r, hD⟩ : ∃ r, sD S = some r := by
    cases hD : sD S with
    | none =>
      have ez : cfn S = 0 := by unfold cfn; rw [hD]
      omega
    | some r => exact ⟨r, rfl⟩
  have ez : cfn S = (drC r).length := by unfold cfn; rw [hD]
  have eD := drO_some hD
  obtain ⟨i, rfl⟩ := Int.eq_ofNat_of_zero_le c1.1
  obtain ⟨cc, hcc⟩ : ∃ cc, (drC r)[i]? = some cc := ⟨_, List.getElem?_eq_getElem (by omega)⟩
  have ecc : stl S i = cc := by unfold stl; rw [eD, Int.toNat_natCast, List.getD_eq_getElem?_getD, hcc]; rfl
  rw [ecc] at c3 c4
  rw [eD] at c4
  obtain ⟨g1, g2, g3, g4, g5, g6⟩ := h.dr hD
  have mcc := List.mem_of_getElem? hcc
  obtain ⟨b1, b2, b3⟩ := g4.2.2.2 cc mcc
  have b3' := b3 c3
  have bl := stL_len b1 c2
  obtain ⟨nF, nS, nB⟩ := src_nm (V := sV S) (b := sB S) (r := r) h.hN
  have ops := opn_stC (how := how) hcc c3
  have opl : opn (drC r) ≤ (drC r).length := List.countP_le_length
  have lC : (stC (drC r) i cc how).length = (drC r).length := by unfold stC; rw [psh_len, List.length_set]
  have g21 := g4.2.2.1.2
  have lT : ((stT (srcF (sV S) r) (srcS (sV S) r) (srcB (sV S) r) (drT r) cc how).length : Int) = (drT r).length + cnL cc how := by
    rw [stT_eq, List.length_append, List.length_append, List.length_take, List.length_drop]; omega
  show Inv x (k + 1) (edS S (stT (srcF (sV S) (drO S)) (srcS (sV S) (drO S)) (srcB (sV S) (drO S)) (drT (drO S)) (stl S i) how) (stC (drC (drO S)) (i : Int).toNat (stl S i) how) (4, (i : Int), how, 0, none, drT (drO S), drC (drO S)) (sB S))
  rw [ecc, eD, Int.toNat_natCast]
  have hT : TcI (sB S) (srcF (sV S) r) (srcS (sV S) r) (srcB (sV S) r) (drC r).length (stT (srcF (sV S) r) (srcS (sV S) r) (srcB (sV S) r) (drT r) cc how) (stC (drC r) i cc how) := by
    refine ⟨by omega, fun y hy => ?_, ⟨lC, g21⟩, fun d hd => ?_⟩
    · rw [stT_eq] at hy
      rcases List.mem_append.mp hy with z | z
      · rcases List.mem_append.mp z with z | z
        · exact g4.2.1 y (List.mem_of_mem_take z)
        · exact (Nm.stL nF nS nB) y z
      · exact g4.2.1 y (List.mem_of_mem_drop z)
    · obtain ⟨j, hj⟩ := List.mem_iff_getElem?.mp hd
      rw [stC_get hcc] at hj
      obtain ⟨d0, hd0, e0⟩ := Option.map_eq_some_iff.mp hj
      obtain ⟨f1, f2, f3⟩ := g4.2.2.2 d0 (List.mem_of_getElem? hd0)
      have hcl : cnL cc how ≤ 20 := by omega
      have hc0 : 0 ≤ cnL cc how := by omega
      by_cases ej : j = i
      · rw [if_pos ej] at e0
        subst e0
        refine ⟨b1, ⟨b2.1, ?_⟩, fun z => absurd z (show ¬ (1 : Int) = 0 by decide)⟩
        show cnP cc ≤ _
        omega
      · rw [if_neg ej] at e0
        by_cases ej2 : i < j
        · rw [if_pos ej2] at e0
          subst e0
          refine ⟨f1, ⟨by show 0 ≤ cnP d0 + cnL cc how; omega, by show cnP d0 + cnL cc how ≤ _; omega⟩, fun z => ?_⟩
          have := f3 z
          show cnP d0 + cnL cc how ≤ _
          omega
        · rw [if_neg ej2] at e0
          subst e0
          exact ⟨f1, ⟨f2.1, by omega⟩, fun z => by have := f3 z; omega⟩
  refine h.edit hk hD h.bk hT ⟨rfl, rfl⟩ ⟨⟨by show (0 : Int) ≤ 4; omega, by show (4 : Int) ≤ 5; omega⟩, fun z => absurd z (show ¬ (4 : Int) = 0 by decide), fun z => absurd z (show ¬ ((4 : Int) = 1 ∨ (4 : Int) = 2) by decide), fun z => absurd z (show ¬ (4 : Int) = 3 by decide), fun _ => ⟨by show (0 : Int) ≤ (i : Int); omega, cc, by show (drC r)[((i : Int)).toNat]? = some cc; rw [Int.toNat_natCast]; exact hcc, c3, b1, ⟨b2.1, b3'⟩, by show ((drT r).length : Int) + cnL cc how ≤ 40; omega, c2, ⟨by have := opn_p mcc c3; omega, by omega⟩, fun d hd => ?_⟩, fun z => absurd z (show ¬ (4 : Int) = 5 by decide)⟩ (fun z => absurd z (show ¬ (4 : Int) = 5 by decide)) (fun _ => rfl) ?_ ?_
  · have := (g4.2.2.2 d hd).2.1
    omega
  · unfold pfT
    rw [if_neg (show ¬ (4 : Int) = 0 by decide), if_neg (show ¬ (4 : Int) = 1 by decide), if_neg (show ¬ (4 : Int) = 2 by decide), if_neg (show ¬ (4 : Int) = 3 by decide), if_pos (show (4 : Int) = 4 from rfl)]
    show _ = stp (match (drC r)[((i : Int)).toNat]? with | some c => stT (srcF (sV S) r) (srcS (sV S) r) (srcB (sV S) r) (drT r) c how | none => drT r)
    rw [Int.toNat_natCast, hcc]
  · unfold pfC
    rw [if_pos (show (4 : Int) = 4 from rfl)]
    show _ = (match (drC r)[((i : Int)).toNat]? with | some c => stC (drC r) ((i : Int)).toNat c how | none => drC r)
    rw [Int.toNat_natCast, hcc]
/-- what laying hunks does to names -/
theorem lyN_nm {b : BR} {fz : Nat} : ∀ (hs : List Hun) (mv fl : Int) (T : Tl) (rj : Nat), (∀ H ∈ hs, ∀ l ∈ hnF H, isLn l = true) → (∀ y ∈ T, (y.2 = -1 ∧ isLn y.1 = true) ∨ (0 ≤ y.2 ∧ y.2 < bkN b ∧ bkS b y.2.toNat = y.1 ∧ isLn y.1 = true)) → ∀ y ∈ (lyN fz hs mv fl T rj).1, (y.2 = -1 ∧ isLn y.1 = true) ∨ (0 ≤ y.2 ∧ y.2 < bkN b ∧ bkS b y.2.toNat = y.1 ∧ isLn y.1 = true) := by
  intro hs
  induction hs with
  | nil => intro mv fl T rj _ h y hy; rw [lyN] at hy; exact h y hy
  | cons H hs ih =>
    intro mv fl T rj hl h y hy
    rw [lyN] at hy
    have hl' : ∀ H' ∈ hs, ∀ l ∈ hnF H', isLn l = true := fun H' hH => hl H' (List.mem_cons_of_mem _ hH)
    cases hf : findN T H ((hnP H : Int) + mv) fl fz with
    | none =>
      rw [hf] at hy
      exact ih mv fl T (rj + 1) hl' h y hy
    | some x =>
      rw [hf] at hy
      refine ih _ _ _ rj hl' (fun z hz => ?_) y hy
      unfold ptL at hz
      rcases List.mem_append.mp hz with q | q
      · rcases List.mem_append.mp q with q | q
        · exact h z (List.mem_of_mem_take q)
        · obtain ⟨l, q1, q2⟩ := List.mem_map.mp q
          rw [← q2]
          exact Or.inl ⟨rfl, hl H (List.mem_cons_self ..) l q1⟩
      · exact h z (List.mem_of_mem_drop q)
theorem I_lay (h : Inv x k S) (hk : k < 512) (h0 : (o_lay x S p fz).1 = 0) : Inv x (k + 1) (o_lay x S p fz).2.2 := by
  obtain ⟨c1, c2, c3, c4⟩ := c3_inv h0 (by decide) (by decide) (by decide)
  obtain ⟨r, hD, ho'⟩ := whB_iff.mp c3
  have eD := drO_some hD
  have ho : opn (drC r) = 0 := ho'
  obtain ⟨g1, g2, g3, g4, g5, g6⟩ := h.dr hD
  obtain ⟨hs, hh⟩ : ∃ hs, (sP S)[p.toNat]? = some hs := ⟨_, List.getElem?_eq_getElem (by omega)⟩
  have mh := List.mem_of_getElem? hh
  have eg : (sP S).getD p.toNat [] = hs := by rw [List.getD_eq_getElem?_getD, hh]; rfl
  have eph : phk S p = hs := eg
  have hu := h.2.2.2.2.1 hs mh
  have l20 := g4.1
  show Inv x (k + 1) (edS S (nmA' S (lyT S p fz)).1 (drC (drO S)) (lyE x S p fz) (nmB S (lyT S p fz)))
  have eT : lyT S p fz = (lyN fz.toNat hs 0 0 (drT r) 0).1 := by unfold lyT; rw [eph, eD]
  have eE : lyE x S p fz = (5, p, fz, 0, some (x + 694 + 2 * p.toNat), drT r, drC r) := by unfold lyE; rw [eD]
  rw [eE]
  unfold nmB nmA'
  rw [eD]
  rw [eT] at c4 ⊢
  have hle := noN_le (lyN fz.toNat hs 0 0 (drT r) 0).1
  obtain ⟨b1, b2⟩ := nm_book (F := srcF (sV S) r) (T := (lyN fz.toNat hs 0 0 (drT r) 0).1) (w := drA r) (h.hN (dr1 r)) g1.2 h.2.1.2.2.1 h.2.1.2.2.2 (lyN_nm hs 0 0 (drT r) 0 (fun H hH => (hu.2 H hH).2.1) (fun y hy => Or.inr (g4.2.1 y hy))) (by omega)
  have ln := nmL_len (F := srcF (sV S) r) (w := drA r) (lyN fz.toNat hs 0 0 (drT r) 0).1 (bkN (sB S)) (bkA (sB S)) (bkO (sB S))
  have lf := nmL_fst (F := srcF (sV S) r) (w := drA r) (lyN fz.toNat hs 0 0 (drT r) 0).1 (bkN (sB S)) (bkA (sB S)) (bkO (sB S))
  have hfr := hu.1.1
  refine h.edit hk hD b1 (g4.wh ho (by omega) b2) ⟨rfl, rfl⟩ ⟨⟨by show (0 : Int) ≤ 5; omega, Int.le_refl _⟩, fun z => absurd z (show ¬ (5 : Int) = 0 by decide), fun z => absurd z (show ¬ ((5 : Int) = 1 ∨ (5 : Int) = 2) by decide), fun z => absurd z (show ¬ (5 : Int) = 3 by decide), fun z => absurd z (show ¬ (5 : Int) = 4 by decide), fun _ => ⟨c2, ?_⟩⟩ (fun _ => ⟨rfl, c1⟩) (fun z => absurd rfl z) ?_ ?_
  · show (drT r).length + frS ((sP S).getD p.toNat []) ≤ 40
    rw [eg]; omega
  · rw [stp_of lf]
    unfold pfT
    rw [if_neg (show ¬ (5 : Int) = 0 by decide), if_neg (show ¬ (5 : Int) = 1 by decide), if_neg (show ¬ (5 : Int) = 2 by decide), if_neg (show ¬ (5 : Int) = 3 by decide), if_neg (show ¬ (5 : Int) = 4 by decide)]
    show _ = stp (lyN fz.toNat ((sP S).getD p.toNat []) 0 0 (drT r) 0).1
    rw [eg]
  · unfold pfC
    rw [if_neg (show ¬ (5 : Int) = 4 by decide)]
end IN7
