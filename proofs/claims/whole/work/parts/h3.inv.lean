/-! BY HAND: what a run of calls keeps: reviews, notes, patches -/
theorem c2_inv {p q : Prop} [Decidable p] [Decidable q] {a b : Nat} (h : c2 p q a b = 0) (ha : a ≠ 0) (hb : b ≠ 0) : p ∧ q := by
  unfold c2 at h
  by_cases c : p
  · rw [if_pos c] at h
    by_cases d : q
    · exact ⟨c, d⟩
    · rw [if_neg d] at h; exact absurd h hb
  · rw [if_neg c] at h; exact absurd h ha
theorem c3_inv {p q r : Prop} [Decidable p] [Decidable q] [Decidable r] {a b c : Nat} (h : c3 p q r a b c = 0) (ha : a ≠ 0) (hb : b ≠ 0) (hc : c ≠ 0) : p ∧ q ∧ r := by
  unfold c3 at h
  by_cases c1 : p
  · rw [if_pos c1] at h
    by_cases d : q
    · rw [if_pos d] at h
      by_cases e : r
      · exact ⟨c1, d, e⟩
      · rw [if_neg e] at h; exact absurd h hc
    · rw [if_neg d] at h; exact absurd h hb
  · rw [if_neg c1] at h; exact absurd h ha
theorem c1_inv {p : Prop} [Decidable p] (h : c1 p = 0) : p := by
  by_cases c : p
  · exact c
  · rw [c1_f c] at h; cases h
theorem c1'_inv {p : Prop} [Decidable p] (h : c1' p = 0) : p := by
  by_cases c : p
  · exact c
  · rw [c1'_f c] at h; cases h
section IN3
variable {x k : Nat} {S : St} {v w p q g : Int}
theorem rvO_mem (h : isR S q) : rvO S q ∈ sR S := by
  obtain ⟨y, hy⟩ : ∃ y, (sR S)[q.toNat]? = some y := ⟨_, List.getElem?_eq_getElem (by omega)⟩
  have e : rvO S q = y := by unfold rvO; rw [List.getD_eq_getElem?_getD, hy]; rfl
  rw [e]; exact List.mem_of_getElem? hy
theorem iv_setQ {r' : RR'} (q : Int) (h : Inv x k S) (hr : isV S r'.1 ∧ (r'.2.2.1 = 0 ∨ r'.2.2.1 = 1) ∧ (r'.2.1 = -1 ∨ isR S r'.2.1)) : Inv x k (setR S ((sR S).set q.toNat r')) := by
  have h20 := h.1.1.2.2.2.1
  refine h.setR (by rw [List.length_set]; exact h20) (fun r hm => ?_)
  rw [List.length_set]
  rcases List.mem_or_eq_of_mem_set hm with z | z
  · exact h.2.2.2.2.2.2 r z
  · rw [z]; exact hr
theorem I_review (h : Inv x k S) (h0 : (o_review S v w).1 = 0) : Inv x (k + 1) (o_review S v w).2.2 := by
  obtain ⟨⟨c1, c2, c3⟩, c4⟩ := c2_inv h0 (by decide) (by decide)
  refine Inv.mono (k := k) ?_ (by omega)
  refine h.setR (by rw [List.length_append, List.length_singleton]; omega) (fun r hm => ?_)
  rw [List.length_append, List.length_singleton]
  rcases List.mem_append.mp hm with z | z
  · obtain ⟨g1, g2, g3⟩ := h.2.2.2.2.2.2 r z
    exact ⟨g1, g2, by omega⟩
  · rw [List.mem_singleton.mp z]
    refine ⟨c1, Or.inl rfl, ?_⟩
    rcases c3 with e | e
    · exact Or.inl e
    · exact Or.inr ⟨e.1, by have := e.2; show w < _; omega⟩
theorem I_verdict (h : Inv x k S) (h0 : (o_verdict S q p g).1 = 0) : Inv x (k + 1) (o_verdict S q p g).2.2 := by
  obtain ⟨⟨c1, c2⟩, c3⟩ := c2_inv h0 (by decide) (by decide)
  exact Inv.mono (k := k) (iv_setQ (r' := ((rvO S q).1, (rvO S q).2.1, (rvO S q).2.2.1, up1 (rvO S q).2.2.2 p.toNat (if g = 0 then 2 else 1))) q h ⟨(h.2.2.2.2.2.2 _ (rvO_mem c1)).1, (h.2.2.2.2.2.2 _ (rvO_mem c1)).2.1, (h.2.2.2.2.2.2 _ (rvO_mem c1)).2.2⟩) (by omega)
theorem I_renew (h : Inv x k S) (h0 : (o_renew S q v).1 = 0) : Inv x (k + 1) (o_renew S q v).2.2 := by
  obtain ⟨⟨c1, c2⟩, c3⟩ := c2_inv h0 (by decide) (by decide)
  have g := h.2.2.2.2.2.2 _ (rvO_mem c1)
  exact Inv.mono (k := k) (iv_setQ (r' := (v, (rvO S q).2.1, (rvO S q).2.2.1, (rnV S q v).1)) q h ⟨c2, g.2⟩) (by omega)
theorem I_land (h : Inv x k S) (h0 : (o_land S q).1 = 0) : Inv x (k + 1) (o_land S q).2.2 := by
  obtain ⟨c1, c3⟩ := c2_inv h0 (by decide) (by decide)
  have g := h.2.2.2.2.2.2 _ (rvO_mem c1)
  exact Inv.mono (k := k) (iv_setQ (r' := ((rvO S q).1, (rvO S q).2.1, 1, (rvO S q).2.2.2)) q h ⟨g.1, Or.inr rfl, g.2.2⟩) (by omega)
theorem I_note (h : Inv x k S) (h0 : (o_note S v p).1 = 0) : Inv x (k + 1) (o_note S v p).2.2 := by
  obtain ⟨c1, c3⟩ := c2_inv h0 (by decide) (by decide)
  obtain ⟨y, y1, y2, y3⟩ := nmA_get c1.2.1 c1.2.2
  have n := h.hN v y (List.mem_of_getElem? y1)
  refine Inv.mono (k := k) (h.setN c3 ?_) (by omega)
  rw [y2]; exact ⟨n.1, n.2.1⟩
/-- how many lines hunks have -/
theorem rwN_sum {T U : Tl} {P : Nat → Int} {ctx : Nat} (hP : PrOK P T.length U.length) : ∀ (f i fr ot : Nat), i + f = T.length + 1 → fr ≤ i → (i ≤ T.length → ot ≤ U.length) → (∀ j, i ≤ j → j < T.length → P j ≠ -1 → (ot : Int) ≤ P j) → grS ((rwN T U P f i fr ot).map (mkQ T U P ctx)) ≤ T.length - fr ∧ frS ((rwN T U P f i fr ot).map (mkQ T U P ctx)) ≤ U.length - ot := by
  intro f
  induction f with
  | zero => intro i fr ot _ _ _ _; rw [rwN]; exact ⟨Nat.zero_le _, Nat.zero_le _⟩
  | succ f ih =>
    intro i fr ot hi hfr hot hor
    rw [rwN]
    by_cases h : flP T U P i = -1
    · rw [if_pos h]
      exact ih (i + 1) fr ot (by omega) (by omega) (fun _ => hot (by omega)) (fun j j1 j2 j3 => hor j (by omega) j2 j3)
    · rw [if_neg h]
      have fin : (ot : Int) ≤ flP T U P i ∧ flP T U P i ≤ U.length ∧ (i < T.length → flP T U P i < U.length) ∧ ∀ j, i + 1 ≤ j → j < T.length → P j ≠ -1 → flP T U P i < P j := by
        unfold flP at h ⊢
        by_cases li : i < T.length
        · rw [if_pos li] at h ⊢
          have r := (hP.1 i li).resolve_left h
          have g := hor i (Nat.le_refl _) li h
          exact ⟨g, by omega, fun _ => r.2, fun j j1 j2 j3 => hP.2 i j (by omega) j2 h j3⟩
        · rw [if_neg li]
          have := hot (by omega)
          exact ⟨by omega, Int.le_refl _, fun z => absurd z li, fun j j1 j2 => absurd j2 (by omega)⟩
      obtain ⟨f1, f2, f3, f4⟩ := fin
      obtain ⟨s1, s2⟩ := ih (i + 1) (i + 1) ((flP T U P i).toNat + 1) (by omega) (Nat.le_refl _) (fun z => by have := f3 (by omega); omega) (fun j j1 j2 j3 => by have := f4 j j1 j2 j3; omega)
      by_cases g : fr < i ∨ (ot : Int) < flP T U P i
      · rw [if_pos g]
        have e1 : (hnG (mkQ T U P ctx (fr, i, ot, (flP T U P i).toNat))).length = i - fr := slA_len (T := T) (a := fr) (b := i) (by omega)
        have e2 : (hnF (mkQ T U P ctx (fr, i, ot, (flP T U P i).toNat))).length = (flP T U P i).toNat - ot := slA_len (T := U) (a := ot) (b := (flP T U P i).toNat) (by omega)
        unfold grS at s1 ⊢
        unfold frS at s2 ⊢
        rw [List.singleton_append, List.map_cons, List.map_cons, List.map_cons, List.sum_cons, List.sum_cons, e1, e2]
        omega
      · rw [if_neg g, List.nil_append]
        omega
theorem slA_mem {T : Tl} {a b : Nat} {l : Int64} (h : l ∈ slA T a b) : ∃ y ∈ T, y.1 = l := by
  unfold slA at h
  obtain ⟨y, h1, h2⟩ := List.mem_map.mp h
  exact ⟨y, List.mem_of_mem_drop (List.mem_of_mem_take h1), h2⟩
theorem flH_HuI {b : BR} {T U : Tl} {ctx : Nat} (l1 : T.length ≤ 20) (l2 : U.length ≤ 20) (hc : ctx ≤ 3) (n1 : Nm b T) (n2 : Nm b U) : HuI (flH T U (prT T U).1 ctx) := by
  have hok := prs_ok (XL 0 T) (XL 0 U)
  have lX : ∀ T : List (Int64 × Int), (XL 0 T).length = T.length := fun T => List.length_map ..
  rw [lX, lX] at hok
  obtain ⟨b1, b2⟩ := flH_bd (ctx := ctx) l1 l2 hc hok
  have e : flH T U (prT T U).1 ctx = flH T U (prW (XL 0 T) (XL 0 U)).1 ctx := rfl
  rw [e]
  obtain ⟨s1, s2⟩ := rwN_sum (ctx := ctx) hok (T.length + 1) 0 0 0 (by omega) (Nat.le_refl _) (fun _ => Nat.zero_le _) (fun j _ j2 j3 => by have := (hok.1 j j2).resolve_left j3; omega)
  refine ⟨⟨?_, ?_, b2⟩, fun H hH => ?_⟩
  · rw [flH_rw]; omega
  · rw [flH_rw]; omega
  · obtain ⟨g1, g2, g3, g4, g5, g6⟩ := b1 H hH
    rw [flH_rw] at hH
    obtain ⟨q, hq, rfl⟩ := List.mem_map.mp hH
    refine ⟨⟨g5, g6, g3, g1, g2, g4⟩, fun l hl => ?_, fun l hl => ?_⟩
    · obtain ⟨y, y1, y2⟩ := slA_mem (T := U) hl
      rw [← y2]; exact (n2 y y1).2.2.2
    · obtain ⟨y, y1, y2⟩ := slA_mem (T := T) hl
      rw [← y2]; exact (n1 y y1).2.2.2
theorem I_patch {c : Int} (h : Inv x k S) (h0 : (o_patch S v w c).1 = 0) : Inv x (k + 1) (o_patch S v w c).2.2 := by
  obtain ⟨c1, c2, c3⟩ := c3_inv h0 (by decide) (by decide) (by decide)
  exact Inv.mono (k := k) (h.setP c3 (flH_HuI (h.h20 v) (h.h20 w) (by omega) (h.hN v) (h.hN w))) (by omega)
theorem HuI.turn {hs : List Hun} (h : HuI hs) : HuI (hs.map turnH) := by
  obtain ⟨⟨a1, a2, a3⟩, b⟩ := h
  have e1 : frS (hs.map turnH) = grS hs := by unfold frS grS; rw [List.map_map]; rfl
  have e2 : grS (hs.map turnH) = frS hs := by unfold frS grS; rw [List.map_map]; rfl
  refine ⟨⟨by omega, by omega, by rw [List.length_map]; exact a3⟩, fun H hH => ?_⟩
  obtain ⟨H0, hH0, rfl⟩ := List.mem_map.mp hH
  obtain ⟨⟨g1, g2, g3, g4, g5, g6⟩, g7, g8⟩ := b H0 hH0
  exact ⟨⟨g2, g1, g3, g5, g4, g6⟩, g8, g7⟩
theorem I_turn (h : Inv x k S) (h0 : (o_turn S p).1 = 0) : Inv x (k + 1) (o_turn S p).2.2 := by
  obtain ⟨c1, c2⟩ := c2_inv h0 (by decide) (by decide)
  refine Inv.mono (k := k) (h.setP c2 (HuI.turn (h.2.2.2.2.1 _ ?_))) (by omega)
  obtain ⟨hs, hh⟩ : ∃ hs, (sP S)[p.toNat]? = some hs := ⟨_, List.getElem?_eq_getElem (by omega)⟩
  have e : phk S p = hs := by unfold phk; rw [List.getD_eq_getElem?_getD, hh]; rfl
  rw [e]; exact List.mem_of_getElem? hh
theorem I_compare {lb : Int} (h : Inv x k S) : Inv x (k + 1) (o_compare S v w lb).2.2 := Inv.mono (k := k) h.setC (by omega)
end IN3
