/-! BY HAND: what a run of calls keeps: edits -/
theorem stp_of {T T' : Tl} (h : T'.map (·.1) = T.map (·.1)) : stp T' = stp T := by
  have e : ∀ T : Tl, stp T = (T.map (·.1)).map (fun l => (l, (-1 : Int))) := fun T => by unfold stp; rw [List.map_map]; rfl
  rw [e, e, h]
section IN6
variable {x k : Nat} {S : St} {v w p q c how fz : Int} {l : Int64}
theorem dsz_dr (h : 0 ≤ p ∧ p < dsz S) : ∃ r, sD S = some r ∧ drO S = r ∧ p < (drT r).length := by
  obtain ⟨r, hD⟩ := dr_some h
  refine ⟨r, hD, drO_some hD, ?_⟩
  rw [dsz_some hD] at h; exact h.2
theorem wh_dr {r : DR} (h : whB S = true) (hD : sD S = some r) : opn (drC r) = 0 := by
  obtain ⟨r', h1, h2⟩ := whB_iff.mp h
  rw [hD] at h1; cases h1; exact h2
theorem I_remove (h : Inv x k S) (hk : k < 512) (h0 : (o_remove S p).1 = 0) : Inv x (k + 1) (o_remove S p).2.2 := by
  obtain ⟨c1, c2⟩ := c2_inv h0 (by decide) (by decide)
  obtain ⟨r, hD, eD, lp⟩ := dsz_dr c1
  have ho := wh_dr c2 hD
  obtain ⟨g1, g2, g3, g4, g5, g6⟩ := h.dr hD
  show Inv x (k + 1) (edS S ((drT (drO S)).eraseIdx p.toNat) (drC (drO S)) (1, p, -1, 0, none, drT (drO S), drC (drO S)) (sB S))
  rw [eD]
  have ll := List.length_eraseIdx_le (drT r) p.toNat
  refine h.edit hk hD h.bk (g4.wh ho (by have := g4.1; omega) (Nm.sub g4.2.1 (fun y hy => List.mem_of_mem_eraseIdx hy))) ⟨rfl, rfl⟩ ⟨⟨by show (0 : Int) ≤ 1; omega, by show (1 : Int) ≤ 5; omega⟩, fun z => absurd z (show ¬ (1 : Int) = 0 by decide), fun _ => ⟨c1.1, lp⟩, fun z => absurd z (show ¬ (1 : Int) = 3 by decide), fun z => absurd z (show ¬ (1 : Int) = 4 by decide), fun z => absurd z (show ¬ (1 : Int) = 5 by decide)⟩ (fun z => absurd z (show ¬ (1 : Int) = 5 by decide)) (fun _ => rfl) ?_ rfl
  unfold pfT
  rw [if_neg (show ¬ (1 : Int) = 0 by decide), if_pos (show (1 : Int) = 1 from rfl)]
theorem I_move (h : Inv x k S) (hk : k < 512) (h0 : (o_move S p q).1 = 0) : Inv x (k + 1) (o_move S p q).2.2 := by
  obtain ⟨⟨c1, c1'⟩, c2⟩ := c2_inv h0 (by decide) (by decide)
  obtain ⟨r, hD, eD, lp⟩ := dsz_dr c1
  have ho := wh_dr c2 hD
  rw [dsz_some hD] at c1'
  obtain ⟨g1, g2, g3, g4, g5, g6⟩ := h.dr hD
  have l20 := g4.1
  show Inv x (k + 1) (edS S (mvT (drT (drO S)) p q) (drC (drO S)) (3, p, q, 0, none, drT (drO S), drC (drO S)) (sB S))
  rw [eD]
  obtain ⟨y, hy⟩ : ∃ y, (drT r)[p.toNat]? = some y := ⟨_, List.getElem?_eq_getElem (by omega)⟩
  have ll := List.length_eraseIdx (l := drT r) (i := p.toNat)
  rw [if_pos (by omega)] at ll
  have em : mvT (drT r) p q = ((drT r).eraseIdx p.toNat).insertIdx q.toNat y := by unfold mvT; rw [List.getD_eq_getElem?_getD, hy]; rfl
  have lm : (mvT (drT r) p q).length ≤ 20 := by rw [em, List.length_insertIdx]; split <;> omega
  refine h.edit hk hD h.bk (g4.wh ho lm (Nm.sub g4.2.1 (fun z hz => ?_))) ⟨rfl, rfl⟩ ⟨⟨by show (0 : Int) ≤ 3; omega, by show (3 : Int) ≤ 5; omega⟩, fun z => absurd z (show ¬ (3 : Int) = 0 by decide), fun z => absurd z (show ¬ ((3 : Int) = 1 ∨ (3 : Int) = 2) by decide), fun _ => ⟨⟨c1.1, lp⟩, c1', l20⟩, fun z => absurd z (show ¬ (3 : Int) = 4 by decide), fun z => absurd z (show ¬ (3 : Int) = 5 by decide)⟩ (fun z => absurd z (show ¬ (3 : Int) = 5 by decide)) (fun _ => rfl) ?_ rfl
  · rw [em] at hz
    rcases (List.mem_insertIdx (show q.toNat ≤ ((drT r).eraseIdx p.toNat).length by omega)).mp hz with g | g
    · rw [g]; exact List.mem_of_getElem? hy
    · exact List.mem_of_mem_eraseIdx g
  · unfold pfT
    rw [if_neg (show ¬ (3 : Int) = 0 by decide), if_neg (show ¬ (3 : Int) = 1 by decide), if_neg (show ¬ (3 : Int) = 2 by decide), if_pos (show (3 : Int) = 3 from rfl)]
    show stp (mvT (drT r) p q) = stp (match (drT r)[p.toNat]? with | some x => ((drT r).eraseIdx p.toNat).insertIdx q.toNat x | none => drT r)
    rw [hy, em]
theorem noN_named {b : BR} {T : Tl} (h : Nm b T) : noN T = 0 := by
  induction T with
  | nil => rfl
  | cons y T ih =>
    have := (h y (List.mem_cons_self ..)).1
    rw [noN, if_neg (by omega)]
    exact ih (fun z hz => h z (List.mem_cons_of_mem _ hz))
theorem I_insert (h : Inv x k S) (hk : k < 512) (h0 : (o_insert S p l).1 = 0) : Inv x (k + 1) (o_insert S p l).2.2 := by
  obtain ⟨c1, c2, c3, c4⟩ := c3_inv h0 (by decide) (by decide) (by decide)
  obtain ⟨r, hD, ho'⟩ := whB_iff.mp c3
  have eD := drO_some hD
  have ho := wh_dr c3 hD
  rw [dsz_some hD] at c1
  rw [eD] at c4
  obtain ⟨g1, g2, g3, g4, g5, g6⟩ := h.dr hD
  show Inv x (k + 1) (edS S (nmA' S ((drT (drO S)).insertIdx p.toNat (l, -1))).1 (drC (drO S)) (0, p, -1, l, none, drT (drO S), drC (drO S)) (nmB S ((drT (drO S)).insertIdx p.toNat (l, -1))))
  unfold nmB nmA'
  rw [eD]
  have li : ((drT r).insertIdx p.toNat (l, -1)).length = (drT r).length + 1 := by rw [List.length_insertIdx, if_pos (by omega)]
  have hle := noN_le ((drT r).insertIdx p.toNat (l, -1))
  obtain ⟨b1, b2⟩ := nm_book (F := srcF (sV S) r) (T := (drT r).insertIdx p.toNat (l, -1)) (w := drA r) (h.hN (dr1 r)) g1.2 h.2.1.2.2.1 h.2.1.2.2.2 (fun y hy => by
    rcases (List.mem_insertIdx (show p.toNat ≤ (drT r).length by omega)).mp hy with z | z
    · rw [z]; exact Or.inl ⟨rfl, c2⟩
    · exact Or.inr (g4.2.1 y z)) (by omega)
  have ln := nmL_len (F := srcF (sV S) r) (w := drA r) ((drT r).insertIdx p.toNat (l, -1)) (bkN (sB S)) (bkA (sB S)) (bkO (sB S))
  have lf := nmL_fst (F := srcF (sV S) r) (w := drA r) ((drT r).insertIdx p.toNat (l, -1)) (bkN (sB S)) (bkA (sB S)) (bkO (sB S))
  refine h.edit hk hD b1 (g4.wh ho (by omega) b2) ⟨rfl, rfl⟩ ⟨⟨Int.le_refl _, by show (0 : Int) ≤ 5; omega⟩, fun _ => ⟨c1.1, by show p ≤ ((drT r).length : Int); omega, by omega⟩, fun z => absurd z (show ¬ ((0 : Int) = 1 ∨ (0 : Int) = 2) by decide), fun z => absurd z (show ¬ (0 : Int) = 3 by decide), fun z => absurd z (show ¬ (0 : Int) = 4 by decide), fun z => absurd z (show ¬ (0 : Int) = 5 by decide)⟩ (fun z => absurd z (show ¬ (0 : Int) = 5 by decide)) (fun _ => rfl) ?_ rfl
  rw [stp_of lf]
  unfold pfT
  rw [if_pos (show (0 : Int) = 0 from rfl)]
theorem I_change (h : Inv x k S) (hk : k < 512) (h0 : (o_change S p l).1 = 0) : Inv x (k + 1) (o_change S p l).2.2 := by
  obtain ⟨c1, c2, c3⟩ := c3_inv h0 (by decide) (by decide) (by decide)
  obtain ⟨r, hD, eD, lp⟩ := dsz_dr c1
  have ho := wh_dr c3 hD
  obtain ⟨g1, g2, g3, g4, g5, g6⟩ := h.dr hD
  obtain ⟨y, hy⟩ : ∃ y, (drT r)[p.toNat]? = some y := ⟨_, List.getElem?_eq_getElem (by omega)⟩
  have ey : chX S p = y := by unfold chX; rw [eD, List.getD_eq_getElem?_getD, hy]; rfl
  have ny := g4.2.1 y (List.mem_of_getElem? hy)
  have pok : ∀ (P : List Hun), POK P (srcF (sV S) r) (srcS (sV S) r) (srcB (sV S) r) (drT r) (drC r) (opn (drC r)) (2, p, -1, l, none, drT r, drC r) := fun P => ⟨⟨by show (0 : Int) ≤ 2; omega, by show (2 : Int) ≤ 5; omega⟩, fun z => absurd z (show ¬ (2 : Int) = 0 by decide), fun _ => ⟨c1.1, lp⟩, fun z => absurd z (show ¬ (2 : Int) = 3 by decide), fun z => absurd z (show ¬ (2 : Int) = 4 by decide), fun z => absurd z (show ¬ (2 : Int) = 5 by decide)⟩
  have ep : ∀ (P : List Hun), pfT P (srcF (sV S) r) (srcS (sV S) r) (srcB (sV S) r) (drT r) (drC r) (2, p, -1, l, none, drT r, drC r) = if y.1 = l then drT r else (drT r).set p.toNat (l, -1) := fun P => by
    unfold pfT
    rw [if_neg (show ¬ (2 : Int) = 0 by decide), if_neg (show ¬ (2 : Int) = 1 by decide), if_pos (show (2 : Int) = 2 from rfl)]
    show (match (drT r)[p.toNat]? with | some x => if x.1 = l then drT r else (drT r).set p.toNat (l, -1) | none => drT r) = _
    rw [hy]
  show Inv x (k + 1) (edS S (chT S p l) (drC (drO S)) (2, p, -1, l, none, drT (drO S), drC (drO S)) (chB S p l))
  by_cases e : y.1 = l
  · have e1 : chT S p l = drT r := by unfold chT; rw [ey, if_pos e, eD]
    have e2 : chB S p l = sB S := by unfold chB; rw [ey, if_pos e]
    rw [e1, e2, eD]
    exact h.edit hk hD h.bk g4 ⟨rfl, rfl⟩ (pok _) (fun z => absurd z (show ¬ (2 : Int) = 5 by decide)) (fun _ => rfl) (by rw [ep, if_pos e]) rfl
  · have e1 : chT S p l = (drT r).set p.toNat (l, (bkN (sB S) : Int)) := by unfold chT; rw [ey, if_neg e, eD]
    have e2 : chB S p l = (bkN (sB S) + 1, sgN (bkS (sB S)) ((drT r).set p.toNat (l, (bkN (sB S) : Int))), up1 (bkA (sB S)) (bkN (sB S)) (drA r), up1 (bkO (sB S)) (bkN (sB S)) y.2) := by unfold chB; rw [e1, ey, if_neg e, eD]
    rw [e1, e2, eD]
    have old : ∀ z ∈ (drT r).set p.toNat (l, (bkN (sB S) : Int)), (0 ≤ z.2 ∧ z.2 < bkN (sB S) ∧ bkS (sB S) z.2.toNat = z.1 ∧ isLn z.1 = true) ∨ z = (l, (bkN (sB S) : Int)) := fun z hz => by
      rcases List.mem_or_eq_of_mem_set hz with q | q
      · exact Or.inl (g4.2.1 z q)
      · exact Or.inr q
    obtain ⟨s1, s2⟩ := sg_ok (s := bkS (sB S)) (n0 := bkN (sB S)) (T := (drT r).set p.toNat (l, (bkN (sB S) : Int))) (fun z hz => by
      rcases old z hz with q | q
      · exact Or.inl ⟨q.1, q.2.1, q.2.2.1⟩
      · rw [q]; exact Or.inr (Int.le_refl _)) (fun z hz z' hz' hn he => by
      rcases old z hz with q | q
      · omega
      · rcases old z' hz' with q' | q'
        · omega
        · rw [q, q'])
    have hA := h.2.1.2.2.1
    have hO := h.2.1.2.2.2
    refine h.edit hk hD ⟨Nat.le_succ _, by show (((bkN (sB S) + 1 : Nat)) : Int) ≤ _; omega, s1, fun i hi => ?_, fun i hi => ?_⟩ (g4.wh ho (by rw [List.length_set]; exact g4.1) (fun z hz => ⟨?_, ?_, s2 z hz, ?_⟩)) ⟨rfl, rfl⟩ (pok _) (fun z => absurd z (show ¬ (2 : Int) = 5 by decide)) (fun _ => rfl) (by rw [ep, if_neg e, stp_set, stp_set]) rfl
    · have hi' : i < bkN (sB S) + 1 := hi
      show isP (up1 (bkA (sB S)) (bkN (sB S)) (drA r) i)
      unfold up1; split
      · exact g1.2
      · exact hA i (by omega)
    · have hi' : i < bkN (sB S) + 1 := hi
      show -1 ≤ up1 (bkO (sB S)) (bkN (sB S)) y.2 i ∧ up1 (bkO (sB S)) (bkN (sB S)) y.2 i < i
      unfold up1; split
      · omega
      · exact hO i (by omega)
    · rcases old z hz with q | q
      · exact q.1
      · rw [q]; show (0 : Int) ≤ (bkN (sB S) : Int); omega
    · show z.2 < ((bkN (sB S) + 1 : Nat) : Int)
      rcases old z hz with q | q
      · omega
      · rw [q]; show (bkN (sB S) : Int) < _; omega
    · rcases old z hz with q | q
      · exact q.2.2.2
      · rw [q]; exact c2
end IN6
