/-! BY HAND: what a run of calls keeps: drafts begun, merged, undone, committed -/
theorem TcI.wh {b : BR} {F G B T T' : Tl} {n : Nat} {C : List Cnl} (h : TcI b F G B n T C) (ho : opn C = 0) (h20 : T'.length ≤ 20) {b' : BR} (hN : Nm b' T') : TcI b' F G B n T' C :=
  ⟨h20, hN, h.2.2.1, fun c hc => ⟨(h.2.2.2 c hc).1, (h.2.2.2 c hc).2.1, fun z => absurd z (opn_0 ho c hc)⟩⟩
theorem wvN_cn {F G B : Tl} {P1 P2 : Nat → Int} (o1 : PrOK P1 B.length F.length) (o2 : PrOK P2 B.length G.length) : ∀ (d i ff sf bf : Nat) (T : Tl) (cl : List Cnl), i + d = B.length → ff ≤ F.length → sf ≤ G.length → bf ≤ i → cl.length ≤ i → (∀ j, i ≤ j → j < B.length → P1 j ≠ -1 → P2 j ≠ -1 → (ff : Int) ≤ P1 j ∧ (sf : Int) ≤ P2 j) → (∀ c ∈ cl, CnB c F G B ∧ 0 ≤ cnP c ∧ cnP c ≤ T.length) →
    (∀ c ∈ (wvN F G B P1 P2 d i ff sf bf T cl).2, CnB c F G B ∧ 0 ≤ cnP c ∧ cnP c ≤ (wvN F G B P1 P2 d i ff sf bf T cl).1.length) ∧ (∀ y ∈ (wvN F G B P1 P2 d i ff sf bf T cl).1, y ∈ T ∨ y ∈ F ∨ y ∈ G) ∧ (wvN F G B P1 P2 d i ff sf bf T cl).2.length ≤ B.length + 1 := by
  have pc : ∀ (T : Tl) (cl : List Cnl) (c : Cnl), CnB c F G B → cnP c = T.length → (∀ c ∈ cl, CnB c F G B ∧ 0 ≤ cnP c ∧ cnP c ≤ T.length) → (∀ c' ∈ wpC F G B cl c, CnB c' F G B ∧ 0 ≤ cnP c' ∧ cnP c' ≤ (wpT F G B T c).length) := fun T cl c hb hp h c' hc' => by
    have hg := wpT_ge (F := F) (S := G) (B := B) (T := T) (c := c)
    have old : c' ∈ cl → CnB c' F G B ∧ 0 ≤ cnP c' ∧ cnP c' ≤ (wpT F G B T c).length := fun z => by
      obtain ⟨g1, g2, g3⟩ := h c' z
      exact ⟨g1, g2, by omega⟩
    by_cases g : alk F G B c 0 2 ∨ alk F G B c 1 2 ∨ alk F G B c 1 0
    · rw [wpC_1 g] at hc'; exact old hc'
    · rw [wpC_0 g] at hc'
      rcases List.mem_append.mp hc' with z | z
      · exact old z
      · rw [List.mem_singleton.mp z]; exact ⟨hb, by omega, by omega⟩
  have pt : ∀ (T : Tl) (c : Cnl), ∀ y ∈ wpT F G B T c, y ∈ T ∨ y ∈ F ∨ y ∈ G := fun T c y hy => by
    by_cases g : alk F G B c 0 2
    · rw [wpT_2 g] at hy
      rcases List.mem_append.mp hy with z | z
      · exact Or.inl z
      · exact Or.inr (Or.inr (slice_mem z))
    · by_cases g2 : alk F G B c 1 2 ∨ alk F G B c 1 0
      · rw [wpT_1 g g2] at hy
        rcases List.mem_append.mp hy with z | z
        · exact Or.inl z
        · exact Or.inr (Or.inl (slice_mem z))
      · rw [wpT_0 g g2] at hy; exact Or.inl hy
  intro d
  induction d with
  | zero =>
    intro i ff sf bf T cl hi hff hsf hbf hcl hor h
    rw [wvN]
    have hb : CnB (((ff : Int), (F.length : Int)), ((sf : Int), (G.length : Int)), ((bf : Int), (B.length : Int)), (T.length : Int), 0) F G B := ⟨⟨show (0 : Int) ≤ (ff : Int) by omega, show (ff : Int) ≤ (F.length : Int) by omega, Int.le_refl _⟩, ⟨show (0 : Int) ≤ (sf : Int) by omega, show (sf : Int) ≤ (G.length : Int) by omega, Int.le_refl _⟩, ⟨show (0 : Int) ≤ (bf : Int) by omega, show (bf : Int) ≤ (B.length : Int) by omega, Int.le_refl _⟩⟩
    refine ⟨pc T cl _ hb rfl h, pt T _, ?_⟩
    have := wpC_len (F := F) (S := G) (B := B) (cl := cl) (c := (((ff : Int), (F.length : Int)), ((sf : Int), (G.length : Int)), ((bf : Int), (B.length : Int)), (T.length : Int), 0))
    show (wpC F G B cl _).length ≤ _
    omega
  | succ d ih =>
    intro i ff sf bf T cl hi hff hsf hbf hcl hor h
    rw [wvN]
    have li : i < B.length := by omega
    by_cases g : P1 i ≠ -1 ∧ P2 i ≠ -1
    · rw [if_pos g]
      have hor1 := hor i (Nat.le_refl _) li g.1 g.2
      have r1 := (o1.1 i li).resolve_left g.1
      have r2 := (o2.1 i li).resolve_left g.2
      have hb : CnB (((ff : Int), P1 i), ((sf : Int), P2 i), ((bf : Int), (i : Int)), (T.length : Int), 0) F G B := ⟨⟨show (0 : Int) ≤ (ff : Int) by omega, hor1.1, show P1 i ≤ (F.length : Int) by omega⟩, ⟨show (0 : Int) ≤ (sf : Int) by omega, hor1.2, show P2 i ≤ (G.length : Int) by omega⟩, ⟨show (0 : Int) ≤ (bf : Int) by omega, show (bf : Int) ≤ (i : Int) by omega, show (i : Int) ≤ (B.length : Int) by omega⟩⟩
      have hcl' := wpC_len (F := F) (S := G) (B := B) (cl := cl) (c := (((ff : Int), P1 i), ((sf : Int), P2 i), ((bf : Int), (i : Int)), (T.length : Int), 0))
      have p1 := pc T cl _ hb rfl h
      obtain ⟨q1, q2, q3⟩ := ih (i + 1) ((P1 i).toNat + 1) ((P2 i).toNat + 1) (i + 1) (wpT F G B T (((ff : Int), P1 i), ((sf : Int), P2 i), ((bf : Int), (i : Int)), (T.length : Int), 0) ++ slice F (P1 i) (P1 i + 1)) (wpC F G B cl (((ff : Int), P1 i), ((sf : Int), P2 i), ((bf : Int), (i : Int)), (T.length : Int), 0)) (by omega) (by omega) (by omega) (Nat.le_refl _) (by omega) (fun j j1 j2 j3 j4 => by
        have w1 := o1.2 i j (by omega) j2 g.1 j3
        have w2 := o2.2 i j (by omega) j2 g.2 j4
        omega) (fun c hc => by
        obtain ⟨z1, z2, z3⟩ := p1 c hc
        exact ⟨z1, z2, by rw [List.length_append]; omega⟩)
      refine ⟨q1, fun y hy => ?_, q3⟩
      rcases q2 y hy with z | z
      · rcases List.mem_append.mp z with z | z
        · exact pt T _ y z
        · exact Or.inr (Or.inl (slice_mem z))
      · exact Or.inr z
    · rw [if_neg g]
      exact ih (i + 1) ff sf bf T cl (by omega) hff hsf (by omega) (by omega) (fun j j1 j2 => hor j (by omega) j2) h
section IN4
variable {x k : Nat} {S : St} {v w au : Int}
theorem I_begin (h : Inv x k S) (h0 : (o_begin S v w).1 = 0) : Inv x (k + 1) (o_begin S v w).2.2 := by
  obtain ⟨c1, c2⟩ := c1_inv h0
  refine Inv.mono (k := k) (h.setDr (fun r hr => ?_)) (by omega)
  have er : r = (vtx (sV S) v, [], [], w, v, -1, 0) := (Option.some.inj hr).symm
  subst er
  have m0 := h.1.1.2.2.2.2.2.1
  refine ⟨⟨c1, c2⟩, Or.inl rfl, by show ((0 : Nat) : Int) ≤ sM S; omega, ⟨h.h20 v, h.hN v, ⟨rfl, Nat.zero_le _⟩, fun c hc => by cases hc⟩, (fun E hE => by cases hE), ⟨rfl, rfl⟩⟩
theorem I_merge (h : Inv x k S) (h0 : (o_merge S v w au).1 = 0) : Inv x (k + 1) (o_merge S v w au).2.2 := by
  obtain ⟨⟨c1, c2, c3⟩, c4, c5⟩ := c3_inv h0 (by decide) (by decide) (by decide)
  refine Inv.mono (k := k) (h.setDr (D := some ((mgW S v w).1, (mgW S v w).2, [], au, v, w, bsN (sV S) v w)) (fun r hr => ?_)) (by omega)
  have er : r = ((mgW S v w).1, (mgW S v w).2, [], au, v, w, bsN (sV S) v w) := (Option.some.inj hr).symm
  subst er
  have m0 := h.1.1.2.2.2.2.2.1
  have wn : ¬ w = -1 := by omega
  have eF : srcF (sV S) ((mgW S v w).1, (mgW S v w).2, [], au, v, w, bsN (sV S) v w) = vtx (sV S) v := rfl
  have eS : srcS (sV S) ((mgW S v w).1, (mgW S v w).2, [], au, v, w, bsN (sV S) v w) = vtx (sV S) w := if_neg wn
  have eB : srcB (sV S) ((mgW S v w).1, (mgW S v w).2, [], au, v, w, bsN (sV S) v w) = vtx (sV S) ((bsN (sV S) v w : Nat) : Int) := if_neg wn
  have ok1 := prs_ok (XL 0 (vtx (sV S) ((bsN (sV S) v w : Nat) : Int))) (XL 0 (vtx (sV S) v))
  have ok2 := prs_ok (XL 0 (vtx (sV S) ((bsN (sV S) v w : Nat) : Int))) (XL 0 (vtx (sV S) w))
  have lX : ∀ T : List (Int64 × Int), (XL 0 T).length = T.length := fun T => List.length_map ..
  rw [lX, lX] at ok1 ok2
  have cn := wvN_cn (F := vtx (sV S) v) (G := vtx (sV S) w) (B := vtx (sV S) ((bsN (sV S) v w : Nat) : Int)) ok1 ok2 (vtx (sV S) ((bsN (sV S) v w : Nat) : Int)).length 0 0 0 0 [] [] (by omega) (Nat.zero_le _) (Nat.zero_le _) (Nat.le_refl _) (Nat.le_refl _) (fun j j1 j2 j3 j4 => by
    have r1 := (ok1.1 j j2).resolve_left j3
    have r2 := (ok2.1 j j2).resolve_left j4
    omega) (fun c hc => by cases hc)
  obtain ⟨q1, q2, q3⟩ : (∀ c ∈ (mgW S v w).2, CnB c (vtx (sV S) v) (vtx (sV S) w) (vtx (sV S) ((bsN (sV S) v w : Nat) : Int)) ∧ 0 ≤ cnP c ∧ cnP c ≤ (mgW S v w).1.length) ∧ (∀ y ∈ (mgW S v w).1, y ∈ [] ∨ y ∈ vtx (sV S) v ∨ y ∈ vtx (sV S) w) ∧ (mgW S v w).2.length ≤ (vtx (sV S) ((bsN (sV S) v w : Nat) : Int)).length + 1 := cn
  have l20 := h.h20 ((bsN (sV S) v w : Nat) : Int)
  have eo : opn (mgW S v w).2 = (mgW S v w).2.length := wvA_opn _ _ _
  refine ⟨⟨c1, c3⟩, Or.inr ⟨c2, rfl⟩, by show ((0 : Nat) : Int) ≤ sM S; omega, ?_, (fun E hE => by cases hE), ?_⟩
  · rw [eF, eS, eB]
    refine ⟨c5, fun y hy => ?_, ⟨rfl, by show (mgW S v w).2.length ≤ 21; omega⟩, fun c hc => ?_⟩
    · rcases q2 y hy with z | z | z
      · cases z
      · exact h.hN v y z
      · exact h.hN w y z
    · obtain ⟨z1, z2, z3⟩ := q1 c hc
      refine ⟨z1, ⟨z2, ?_⟩, fun _ => z3⟩
      show cnP c ≤ 20 + 40 * (((mgW S v w).2.length : Int) - ((opn (mgW S v w).2 : Nat) : Int))
      rw [eo]; omega
  · have er : rpS S (dr1 ((mgW S v w).1, (mgW S v w).2, [], au, v, w, bsN (sV S) v w)) (dr2 ((mgW S v w).1, (mgW S v w).2, [], au, v, w, bsN (sV S) v w)) = mgW S v w := if_neg wn
    rw [er]
    exact ⟨rfl, rfl⟩
theorem I_undo (h : Inv x k S) (h0 : (o_undo S).1 = 0) : Inv x (k + 1) (o_undo S).2.2 := by
  obtain ⟨c1, c2⟩ := c1'_inv h0
  obtain ⟨r, hD, ho⟩ := whB_iff.mp c1
  have eD := drO_some hD
  rw [eD] at c2
  have hne : drE r ≠ [] := fun z => by rw [z] at c2; cases c2
  have hu := h.und r hD hne
  obtain ⟨tb1, tb2⟩ := tb_pf hu.2
  rw [← hu.1] at tb1 tb2
  obtain ⟨g1, g2, g3, g4, g5, g6⟩ := h.dr hD
  have eL : lsE S = (drE r).getLast hne := by
    unfold lsE
    rw [eD, List.getLastD_eq_getLast?, List.getLast?_eq_some_getLast hne]; rfl
  have eE : (drE r).dropLast ++ [lsE S] = drE r := by rw [eL]; exact List.dropLast_concat_getLast hne
  have mE : lsE S ∈ drE r := by rw [eL]; exact List.getLast_mem hne
  have hR := g6
  rw [← eE] at hR
  obtain ⟨b1, b2, b3⟩ := Rpl.back _ _ _ hR
  have gl := g5 _ mE
  refine Inv.mono (k := k) (h.setDr (D := some (udD S)) (fun r' hr => ?_)) (by omega)
  have er : r' = udD S := (Option.some.inj hr).symm
  unfold udD at er
  rw [eD, tb1] at er
  subst er
  have el : (edC (lsE S)).length = (drC r).length := gl.2.2.1.1
  refine ⟨g1, g2, ?_, ?_, fun E hE => ?_, ?_⟩
  · show (((drE r).dropLast.length : Nat) : Int) ≤ sM S
    rw [List.length_dropLast]; omega
  · show TcI (sB S) _ _ _ (edC (lsE S)).length (edB (lsE S)) (edC (lsE S))
    rw [el]; exact gl
  · show TcI (sB S) _ _ _ (edC (lsE S)).length (edB E) (edC E)
    have m2 := List.mem_append_left [lsE S] (show E ∈ (drE r).dropLast from hE)
    rw [eE] at m2
    rw [el]; exact g5 E m2
  · exact b1
end IN4
