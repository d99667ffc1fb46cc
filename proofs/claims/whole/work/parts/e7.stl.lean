/-! BY HAND: edits of the draft, by the reference, 5: settle -/
theorem ins_at {A C : List Int} {x : Int} {n : Nat} (h : n = A.length) : (A ++ C).insertIdx n x = A ++ x :: C := by
  subst h
  induction A with
  | nil => rfl
  | cons y A ih =>
    show (y :: (A ++ C)).insertIdx (A.length + 1) x = _
    rw [List.insertIdx_succ_cons, ih]; rfl
theorem del_at {A C : List Int} {x : Int} {n : Nat} (h : n = A.length) : (A ++ x :: C).eraseIdx n = A ++ C := by
  subst h
  induction A with
  | nil => rfl
  | cons y A ih =>
    show (y :: (A ++ x :: C)).eraseIdx (A.length + 1) = _
    rw [List.eraseIdx_cons_succ, ih]; rfl
def cOp (c : Cnl) : Bool := decide (cnS c = 0)
theorem opG_le : ∀ (k : Nat) (cl : List Cnl), ∀ y ∈ opG k cl, y ≤ -1 - (k : Int)
  | _, [], y, h => by cases h
  | k, c :: cl, y, h => by
    simp only [opG] at h
    split at h
    · rcases List.mem_cons.mp h with g | g
      · omega
      · have := opG_le (k + 1) cl y g; omega
    · have := opG_le (k + 1) cl y h; omega
theorem opG_pw : ∀ (k : Nat) (cl : List Cnl), (opG k cl).Pairwise (fun a b => b < a)
  | _, [] => List.Pairwise.nil
  | k, c :: cl => by
    simp only [opG]
    split
    · exact List.Pairwise.cons (fun y hy => by have := opG_le (k + 1) cl y hy; omega) (opG_pw (k + 1) cl)
    · exact opG_pw (k + 1) cl
theorem opG_len : ∀ (k : Nat) (cl : List Cnl), (opG k cl).length ≤ cl.length
  | _, [] => Nat.le_refl _
  | k, c :: cl => by
    simp only [opG]
    have := opG_len (k + 1) cl
    split
    · rw [List.length_cons, List.length_cons]; omega
    · rw [List.length_cons]; omega
theorem opG_mem : ∀ (k : Nat) (cl : List Cnl) (i : Nat) (c : Cnl), cl[i]? = some c → cnS c = 0 → (-1 - ((k + i : Nat) : Int)) ∈ opG k cl
  | _, [], i, c, h, _ => by cases h
  | k, d :: cl, 0, c, h, hs => by
    cases h
    simp only [opG]
    rw [if_pos hs]; exact List.mem_cons_self ..
  | k, d :: cl, i + 1, c, h, hs => by
    have g := opG_mem (k + 1) cl i c h hs
    rw [show k + 1 + i = k + (i + 1) by omega] at g
    simp only [opG]
    split
    · exact List.mem_cons_of_mem _ g
    · exact g
theorem opG_same : ∀ (k : Nat) (cl cl' : List Cnl), cl'.map cOp = cl.map cOp → opG k cl' = opG k cl
  | _, [], [], _ => rfl
  | _, [], c' :: cl', h => by cases h
  | _, c :: cl, [], h => by cases h
  | k, c :: cl, c' :: cl', h => by
    rw [List.map_cons, List.map_cons] at h
    have h1 := (List.cons.inj h).1
    have h2 := opG_same (k + 1) cl cl' (List.cons.inj h).2
    unfold cOp at h1
    have h3 := decide_eq_decide.mp h1
    simp only [opG]
    rw [h2]
    by_cases e : cnS c = 0
    · rw [if_pos e, if_pos (h3.mpr e)]
    · rw [if_neg e, if_neg (fun z => e (h3.mp z))]
theorem opG_set : ∀ (k : Nat) (cl cl' : List Cnl) (j : Nat), cl'.map cOp = (cl.map cOp).set j false → (cl.map cOp)[j]? = some true → opG k cl' = (opG k cl).filter (fun y => decide (y ≠ -1 - ((k + j : Nat) : Int)))
  | _, [], _, j, _, h => by simp at h
  | _, c :: cl, [], j, h, _ => by cases j <;> cases h
  | k, c :: cl, c' :: cl', 0, h, g => by
    rw [List.map_cons, List.map_cons, List.set_cons_zero] at h
    have h1 : cOp c' = false := (List.cons.inj h).1
    have h2 := opG_same (k + 1) cl cl' (List.cons.inj h).2
    have h3 : cOp c = true := Option.some.inj g
    unfold cOp at h1 h3
    have h1 := of_decide_eq_false h1
    have h3 := of_decide_eq_true h3
    simp only [opG]
    rw [if_neg h1, if_pos h3, h2, List.filter_cons_of_neg (by simp), List.filter_eq_self.mpr]
    intro y hy
    have := opG_le (k + 1) cl y hy
    exact decide_eq_true (by omega)
  | k, c :: cl, c' :: cl', j + 1, h, g => by
    rw [List.map_cons, List.map_cons, List.set_cons_succ] at h
    have h1 := (List.cons.inj h).1
    have h2 := opG_set (k + 1) cl cl' j (List.cons.inj h).2 g
    rw [show k + 1 + j = k + (j + 1) by omega] at h2
    unfold cOp at h1
    have h3 := decide_eq_decide.mp h1
    simp only [opG]
    rw [h2]
    by_cases e : cnS c = 0
    · rw [if_pos e, if_pos (h3.mpr e), List.filter_cons, if_pos (decide_eq_true (show -1 - (k : Int) ≠ -1 - ((k + (j + 1) : Nat) : Int) by omega))]
    · rw [if_neg e, if_neg (fun z => e (h3.mp z))]
theorem stC_op {cl : List Cnl} {i : Nat} {c : Cnl} {how : Int} (hc : cl[i]? = some c) : (stC cl i c how).map cOp = (cl.map cOp).set i false := by
  have li := (List.getElem?_eq_some_iff.mp hc).1
  refine List.ext_getElem? (fun q => ?_)
  rw [List.getElem?_map, stC_get hc, List.getElem?_set, List.length_map]
  by_cases e : i = q
  · subst e
    rw [if_pos rfl, if_pos li, hc]
    show some (cOp (if i = i then _ else _)) = _
    rw [if_pos rfl]; rfl
  · rw [if_neg e, List.getElem?_map]
    cases cl[q]? with
    | none => rfl
    | some d =>
      show some (cOp (if q = i then _ else _)) = some (cOp d)
      rw [if_neg (fun z => e z.symm)]
      split <;> rfl
theorem len_fil (R : List Int) : R.length = (R.filter (fun y => decide (0 ≤ y))).length + (R.filter (fun y => !decide (0 ≤ y))).length := by
  induction R with
  | nil => rfl
  | cons y R ih =>
    by_cases c : 0 ≤ y
    · rw [List.filter_cons, List.filter_cons, if_pos (decide_eq_true c), if_neg (by rw [decide_eq_true c]; decide), List.length_cons, List.length_cons]; omega
    · rw [List.filter_cons, List.filter_cons, if_neg (by rw [decide_eq_false c]; decide), if_pos (by rw [decide_eq_false c]; rfl), List.length_cons, List.length_cons]; omega
theorem RwV.len {R N : List Int} {cl : List Cnl} (h : RwV R N cl) : R.length = N.length + (opL cl).length := by
  obtain ⟨h1, h2, _⟩ := h
  rw [← h1, ← h2]
  exact len_fil R
/-- a conflict settled, in the row -/
theorem RwV.settle {A C : List Int} {T L : List (Int64 × Int)} {cl : List Cnl} {i : Nat} {c : Cnl} {how : Int} (h : RwV (A ++ (-1 - (i : Int)) :: C) (nmT T) cl) (hc : cl[i]? = some c) (hs : cnS c = 0) (hL : ∀ y ∈ nmT L, 0 ≤ y) (hn : cnL c how = L.length) : RwV (A ++ (nmT L ++ C)) (nmT (T.take (cnP c).toNat ++ L ++ T.drop (cnP c).toNat)) (stC cl i c how) := by
  obtain ⟨h1, h2, h3⟩ := h
  have hP := h3 A C i c rfl hc
  have pw := opG_pw 0 cl
  have eP : (cnP c).toNat = (A.filter (fun y => decide (0 ≤ y))).length := by rw [← lnR_eq]; omega
  rw [List.filter_append, List.filter_cons_of_neg (by rw [decide_eq_false (by omega)]; decide)] at h1
  rw [List.filter_append, List.filter_cons_of_pos (by rw [decide_eq_false (by omega)]; rfl)] at h2
  rw [show opG 0 cl = opL cl from rfl, ← h2, List.pairwise_append] at pw
  obtain ⟨p1, p2, p3⟩ := pw
  have p4 := List.pairwise_cons.mp p2
  refine ⟨?_, ?_, fun A' C' j c' hR hj => ?_⟩
  · rw [List.filter_append, List.filter_append, List.filter_eq_self.mpr (fun y hy => decide_eq_true (hL y hy))]
    unfold nmT at h1 ⊢
    rw [List.map_append, List.map_append, List.map_take, List.map_drop, ← h1, eP, List.take_left, List.drop_left, List.append_assoc]
  · rw [List.filter_append, List.filter_append, List.filter_eq_nil_iff (l := nmT L) |>.mpr (fun y hy => by rw [decide_eq_true (hL y hy)]; decide), List.nil_append]
    show _ = opG 0 (stC cl i c how)
    have f1 : (A.filter (fun y => !decide (0 ≤ y))).filter (fun y => decide (y ≠ -1 - ((0 + i : Nat) : Int))) = A.filter (fun y => !decide (0 ≤ y)) := List.filter_eq_self.mpr (fun y hy => by
      have := p3 y hy _ (List.mem_cons_self ..)
      exact decide_eq_true (by omega))
    have f2 : (C.filter (fun y => !decide (0 ≤ y))).filter (fun y => decide (y ≠ -1 - ((0 + i : Nat) : Int))) = C.filter (fun y => !decide (0 ≤ y)) := List.filter_eq_self.mpr (fun y hy => by
      have := p4.1 y hy
      exact decide_eq_true (by omega))
    rw [opG_set 0 cl _ i (stC_op hc) (by rw [List.getElem?_map, hc]; show some (cOp c) = _; unfold cOp; rw [decide_eq_true hs]), show opG 0 cl = opL cl from rfl, ← h2, List.filter_append, List.filter_cons, if_neg (by simp), f1, f2]
  · rw [stC_get hc] at hj
    obtain ⟨d, hd, hd'⟩ := Option.map_eq_some_iff.mp hj
    rcases List.append_eq_append_iff.mp hR with ⟨B, b1, b2⟩ | ⟨B, b1, b2⟩
    · -- behind A
      rcases List.append_eq_append_iff.mp b2 with ⟨B2, q1, q2⟩ | ⟨B2, q1, q2⟩
      · -- behind L
        subst q1
        have eC : C = B2 ++ (-1 - (j : Int)) :: C' := q2
        subst b1
        have hl := h3 (A ++ (-1 - (i : Int)) :: B2) C' j d (by rw [eC]; simp) hd
        have hm : -1 - (j : Int) ∈ (C.filter (fun y => !decide (0 ≤ y))) := List.mem_filter.mpr ⟨by rw [eC]; simp, by rw [decide_eq_false (by omega)]; rfl⟩
        have hlt := p4.1 _ hm
        have ea : lnR (A ++ (-1 - (i : Int)) :: B2) = lnR A + lnR B2 := by
          unfold lnR
          rw [List.countP_append, List.countP_cons_of_neg (by rw [decide_eq_false (by omega)]; decide)]
        have eb : lnR (A ++ (nmT L ++ B2)) = lnR A + (L.length + lnR B2) := by
          unfold lnR
          rw [List.countP_append, List.countP_append, List.countP_eq_length.mpr (fun y hy => decide_eq_true (hL y hy)), List.length_map]
        rw [eb, ← hd', if_neg (by omega), if_pos (by omega)]
        show _ = cnP d + cnL c how
        omega
      · cases B2 with
        | nil =>
          rw [List.append_nil] at q1
          have eC : C = (-1 - (j : Int)) :: C' := by rw [List.nil_append] at q2; exact q2.symm
          subst b1
          have hl := h3 (A ++ (-1 - (i : Int)) :: []) C' j d (by rw [eC]; simp) hd
          have hm : -1 - (j : Int) ∈ (C.filter (fun y => !decide (0 ≤ y))) := List.mem_filter.mpr ⟨by rw [eC]; simp, by rw [decide_eq_false (by omega)]; rfl⟩
          have hlt := p4.1 _ hm
          have ea : lnR (A ++ [-1 - (i : Int)]) = lnR A := by
            unfold lnR
            rw [List.countP_append, List.countP_cons_of_neg (by rw [decide_eq_false (by omega)]; decide)]; rfl
          have eb : lnR (A ++ B) = lnR A + L.length := by
            rw [← q1]
            unfold lnR
            rw [List.countP_append, List.countP_eq_length.mpr (fun y hy => decide_eq_true (hL y hy)), List.length_map]
          rw [eb, ← hd', if_neg (by omega), if_pos (by omega)]
          show _ = cnP d + cnL c how
          omega
        | cons y B2 =>
          have e1 := List.cons.inj (show (-1 - (j : Int)) :: C' = y :: (B2 ++ C) from q2)
          have := hL y (by rw [q1]; simp)
          omega
    · cases B with
      | nil =>
        rw [List.append_nil] at b1
        subst b1
        cases hN : nmT L with
        | nil =>
          rw [hN] at b2
          have eC : C = (-1 - (j : Int)) :: C' := by simpa using b2.symm
          have hl := h3 (A ++ (-1 - (i : Int)) :: []) C' j d (by rw [eC]; simp) hd
          have hm : -1 - (j : Int) ∈ (C.filter (fun y => !decide (0 ≤ y))) := List.mem_filter.mpr ⟨by rw [eC]; simp, by rw [decide_eq_false (by omega)]; rfl⟩
          have hlt := p4.1 _ hm
          have ea : lnR (A ++ [-1 - (i : Int)]) = lnR A := by
            unfold lnR
            rw [List.countP_append, List.countP_cons_of_neg (by rw [decide_eq_false (by omega)]; decide)]; rfl
          have e0 : L.length = 0 := by
            have : (nmT L).length = L.length := List.length_map ..
            rw [hN] at this; exact this.symm
          rw [← hd', if_neg (by omega), if_pos (by omega)]
          show _ = cnP d + cnL c how
          omega
        | cons y Lt =>
          rw [hN] at b2
          have e1 := (List.cons.inj (show (-1 - (j : Int)) :: C' = y :: (Lt ++ C) from by simpa using b2)).1
          have := hL y (by rw [hN]; exact List.mem_cons_self ..)
          omega
      | cons y B =>
        have e1 := List.cons.inj (show (-1 - (j : Int)) :: C' = y :: (B ++ (nmT L ++ C)) from b2)
        have ey := e1.1
        subst ey
        have hl := h3 A' (B ++ (-1 - (i : Int)) :: C) j d (by rw [b1]; simp) hd
        have hm : -1 - (j : Int) ∈ (A.filter (fun y => !decide (0 ≤ y))) := List.mem_filter.mpr ⟨by rw [b1]; simp, by rw [decide_eq_false (by omega)]; rfl⟩
        have hgt := p3 _ hm _ (List.mem_cons_self ..)
        rw [← hd', if_neg (by omega), if_neg (by omega)]
        exact hl
