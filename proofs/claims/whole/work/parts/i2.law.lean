/-! the law's helpers, the rest: by hand, two by program (wip/tools/genlaw2.py) -/
theorem fm_tr {V : List VR} (hF : FmI V) : ∀ (N n i q : Nat), n < N → n < V.length → i < V.length → q < 64 → ob (vrW (vrO V n)) i = true → ob (vrW (vrO V i)) q = true → ob (vrW (vrO V n)) q = true := by
  intro N
  obtain ⟨h40, h0, h1⟩ := id hF
  induction N with
  | zero => intro n i q hn; omega
  | succ N ih =>
    intro n i q hn hl hi hq o1 o2
    by_cases e : n = 0
    · subst e; rw [h0, ob_0] at o1; cases o1
    · obtain ⟨g1, g2, g3⟩ := h1 n (by omega) hl
      have bl : ∀ x : Int, 0 ≤ x → x < n → ob (blW V x) i = true → ob (blW V x) q = true := fun x q1 q2 q3 => by
        obtain ⟨k, rfl⟩ : ∃ k : Nat, x = k := ⟨x.toNat, by omega⟩
        rw [ob_bl h40 (by omega) (by omega), Bool.or_eq_true] at q3
        rw [ob_bl h40 (by omega) hq, Bool.or_eq_true]
        rcases q3 with q3 | q3
        · exact Or.inl (ih k i q (by omega) (by omega) hi hq q3 o2)
        · have := of_decide_eq_true q3; subst this; exact Or.inl o2
      rw [g1, ob_or, Bool.or_eq_true] at o1 ⊢
      rcases o1 with o1 | o1
      · exact Or.inl (bl _ g2.1 g2.2 o1)
      · rcases g3 with g3 | g3
        · rw [g3, blW_no (by decide), ob_0] at o1; cases o1
        · exact Or.inr (bl _ g3.1 g3.2 o1)
theorem bsF_in (c : Int64) : ∀ n, n < 63 → bsF c n = 0 ∨ ob c (bsF c n) = true := by
  intro n
  induction n with
  | zero => intro _; exact Or.inl rfl
  | succ n ih =>
    intro h
    rw [bsF_s c n (by omega)]
    by_cases e : ob c (n + 1) = true
    · rw [if_pos e]; exact Or.inr e
    · rw [if_neg e]; exact ih (by omega)
theorem fm_src {S : St} (hF : FmI (sV S)) {i q : Nat} (h1 : 1 ≤ i) (hi : i < (sV S).length) (hs : isSrc S i q) : q < i ∧ (q = 0 ∨ ob (vrW (vrO (sV S) i)) q = true) := by
  obtain ⟨h40, h0, hh⟩ := id hF
  obtain ⟨g1, g2, g3⟩ := hh i h1 hi
  have bl : ∀ x : Int, 0 ≤ x → x < i → ob (blW (sV S) x) x.toNat = true := fun x q1 q2 => by
    obtain ⟨k, rfl⟩ : ∃ k : Nat, x = k := ⟨x.toNat, by omega⟩
    rw [ob_bl h40 (by omega) (by omega), Bool.or_eq_true]
    exact Or.inr (decide_eq_true (by omega))
  rcases hs with rfl | ⟨hn, rfl | rfl⟩
  · exact ⟨by omega, Or.inr (by rw [g1, ob_or, bl _ g2.1 g2.2]; rfl)⟩
  · rcases g3 with g3 | g3
    · exact absurd g3 hn
    · exact ⟨by omega, Or.inr (by rw [g1, ob_or, bl _ g3.1 g3.2, Bool.or_true])⟩
  · rcases g3 with g3 | g3
    · exact absurd g3 hn
    · have hl : bsN (sV S) (vr1 (vrO (sV S) i)) (vr2 (vrO (sV S) i)) < i := by
        unfold bsN
        have := bsF_le (blW (sV S) (vr1 (vrO (sV S) i)) &&& blW (sV S) (vr2 (vrO (sV S) i))) (minI (vr1 (vrO (sV S) i)) (vr2 (vrO (sV S) i))).toNat
        have hm : minI (vr1 (vrO (sV S) i)) (vr2 (vrO (sV S) i)) < i := by unfold minI; split <;> omega
        omega
      refine ⟨hl, ?_⟩
      have hb := bsF_in (blW (sV S) (vr1 (vrO (sV S) i)) &&& blW (sV S) (vr2 (vrO (sV S) i))) (minI (vr1 (vrO (sV S) i)) (vr2 (vrO (sV S) i))).toNat (by unfold minI; split <;> omega)
      rcases hb with hb | hb
      · exact Or.inl hb
      · refine Or.inr ?_
        rw [ob_and, Bool.and_eq_true] at hb
        rw [g1, ob_or]
        exact Bool.or_eq_true _ _ ▸ Or.inl hb.1
section LWK
variable {Ω : Om} {lo x k : Nat} {S : St} {σ : Sto}
theorem L_anew {v p : Int} (h : LwI Ω lo x k S σ) (hD : DwV Ω σ lo x S) (hv : Q32 v) (hp : Q32 p) :
    MC Ω M_Dw_lineAnew rm_Dw_lineAnew (OL Ω lo x (c1 (isLi S v p)) (lnA (vtx (sV S) v) p) S σ) (XO Ω lo x S (c1 (isLi S v p)) σ) σ [xr (some x), xi v, xi p] := by
  have hF := h.2.2.2.2.2.1.1
  refine K_lineAnew hD h.2.2.2.1.1 h.2.2.2.iV h.2.2.2.2.2.1.2.1 (fun i h1 h2 => ⟨(h.2.2.2.2.2.1.2.2.2 i h1 h2).1, by have := (h.2.2.2.2.2.1.2.2.2 i h1 h2).2; omega⟩) (fun i h1 h2 hc q hs => ?_) hv hp
  obtain ⟨f1, f2⟩ := fm_src hF h1 h2 hs
  have h40 := hF.1
  refine ⟨f1, f2.elim Or.inl (fun f2 => Or.inr ?_)⟩
  refine (ush1 (by omega)).mpr ?_
  rcases hc with rfl | hc
  · exact f2
  · have hc := (ush1 (by omega)).mp hc
    by_cases hv : v.toNat < (sV S).length
    · exact fm_tr hF (v.toNat + 1) _ _ _ (by omega) hv h2 (by omega) hc f2
    · have e : vrO (sV S) v.toNat = ver0 := by unfold vrO; rw [List.getD_eq_getElem?_getD, List.getElem?_eq_none (by omega)]; rfl
      rw [e, show vrW ver0 = 0 from rfl, ob_0] at hc; cases hc
theorem L_noteAt0 {v w : Int} (h : LwI Ω lo x k S σ) (hD : DwV Ω σ lo x S) (hv : Q32 v) (hw : Q32 w) : MC Ω M_Dw_noteAt rm_Dw_noteAt (OR Ω lo x (c1 ((0 ≤ v ∧ v < (sW S).length) ∧ isV S w)) (naG (sB S) ((sW S).getD v.toNat 0) (vtx (sV S) w) 0) S σ) (XO Ω lo x S (c1 ((0 ≤ v ∧ v < (sW S).length) ∧ isV S w)) σ) σ [xr (some x), xi v, xi w] := by
  have hb := h.2.2.2.b12
  refine K_noteAt hD h.2.2.2.1.1 hv hw (fun y hy => ?_) (fun i hi => ?_) (fun y hy => ?_)
  · have := h.2.2.2.2.2.2.2.2.1 y hy; constructor <;> omega
  · have := h.2.2.2.2.1.2.2.2 i hi; omega
  · have := h.2.2.2.hN w y hy; exact ⟨⟨by omega, by omega⟩, by omega⟩
theorem L_likeness {l m : Int64} (h : LwI Ω lo x k S σ) : MC Ω M_Law_likeness rm_Law_likeness (RI (HQ Ω lo x S (if isLn l = true ∧ isLn m = true then 0 else 1) (lOf (lkN l m)) S σ)) XN σ [xr (some x), xl l, xl m, xr (some (x + 792))] := by
  have hlo := h.1.1; have hD := h.1.2; have hO := h.2.2.1
  refine e_Law_likeness (b_Law_likeness_0 (c_Law_likeness_6 (K_likeness hD) hD.k1 (by decide) (by decide) (by decide) (by decide) (Nat.le_of_ble_eq_true rfl) (fun y s1 hq => ?_) (fun E s1 hx => ?_)))
  · obtain ⟨h0, rfl, hD1, hk1⟩ := hq
    obtain ⟨⟨g1, g2, g3⟩, -⟩ := hO.keep hk1 (dwp_out hlo)
    refine b_Law_likeness_9 ⟨g1, by decide, by rw [g2]; decide, r_Law_likeness_19 ⟨_, rfl, HQ.ok hO hlo hk1 hD1 ?_⟩ (by decide) (by decide)⟩
    by_cases e : isLn l = true ∧ isLn m = true
    · rw [if_pos e]
    · rw [if_neg e] at h0; cases h0
  · obtain ⟨hc0, rfl, hD1, hk1⟩ := hx
    by_cases e : isLn l = true ∧ isLn m = true
    · rw [if_pos e] at hc0; exact absurd rfl hc0
    · rw [show exN (if isLn l = true ∧ isLn m = true then 0 else 2) = "java/lang/IllegalArgumentException" from by rw [if_neg e]; rfl]
      exact x_Law_likeness_1 (fun q => b_Law_likeness_14 (r_Law_likeness_17 ⟨_, rfl, HQ.no hO hlo hk1 hD1 (by rw [if_neg e]; decide) (by rw [if_neg e]; rfl)⟩ (by decide) (by decide)))
theorem L_isAbove {v w : Int} (h : LwI Ω lo x k S σ) (hv : Q32 v) (hw : Q32 w) : MC Ω M_Law_isAbove rm_Law_isAbove (RI (HQ Ω lo x S (c1 (isV S v ∧ isV S w)) (if (lUsh (vrW (vrO (sV S) v.toNat)) w &&& 1) ≠ 0 then 1 else 0) S σ)) XN σ [xr (some x), xi v, xi w, xr (some (x + 792))] := by
  have hlo := h.1.1; have hD := h.1.2; have hO := h.2.2.1; have hC : Cnt S := h.2.2.2.1.1
  refine e_Law_isAbove (b_Law_isAbove_0 (c_Law_isAbove_5 (K_isAbove hD hC hv hw) hD.k1 (by decide) (by decide) (by decide) (by decide) (Nat.le_of_ble_eq_true rfl) (fun y s1 hq => ?_) (fun E s1 hx => ?_)))
  · obtain ⟨h0, rfl, hD1, hk1⟩ := hq
    obtain ⟨⟨g1, g2, g3⟩, -⟩ := hO.keep hk1 (dwp_out hlo)
    refine b_Law_isAbove_8 ⟨by split <;> decide, fun e => ?_, fun e => ?_⟩
    · refine ⟨g1, by decide, by rw [g2]; decide, r_Law_isAbove_25 ⟨_, rfl, ?_⟩ (by decide) (by decide)⟩
      have z := HQ.ok (S := S) (a := 0) hO hlo hk1 hD1 h0
      rw [if_neg (fun q => by rw [if_pos q] at e; cases e)]; exact z
    · refine ⟨g1, by decide, by rw [g2]; decide, r_Law_isAbove_25 ⟨_, rfl, ?_⟩ (by decide) (by decide)⟩
      have z := HQ.ok (S := S) (a := 1) hO hlo hk1 hD1 h0
      by_cases q : (lUsh (vrW (vrO (sV S) v.toNat)) w &&& 1) ≠ 0
      · rw [if_pos q]; exact z
      · rw [if_neg q] at e; exact absurd rfl e
  · obtain ⟨hc0, rfl, hD1, hk1⟩ := hx
    have zz : c1 (isV S v ∧ isV S w) = 0 ∨ c1 (isV S v ∧ isV S w) = 1 := c1_r
    rcases zz with z | z
    · exact absurd z hc0
    · rw [show exN (c1 (isV S v ∧ isV S w)) = "java/lang/IndexOutOfBoundsException" from by rw [z]; rfl]
      exact x_Law_isAbove_1 (fun q => b_Law_isAbove_20 (r_Law_isAbove_23 ⟨_, rfl, HQ.no hO hlo hk1 hD1 (by rw [z]; decide) (by rw [z]; rfl)⟩ (by decide) (by decide)))
theorem L_lineAnew {v p : Int} (h : LwI Ω lo x k S σ) (hv : Q32 v) (hp : Q32 p) : MC Ω M_Law_lineAnew rm_Law_lineAnew (RI (HQ Ω lo x S (c1 (isLi S v p)) (lnA (vtx (sV S) v) p) S σ)) XN σ [xr (some x), xi v, xi p, xr (some (x + 792))] := by
  have hlo := h.1.1; have hD := h.1.2; have hO := h.2.2.1; have hC : Cnt S := h.2.2.2.1.1; have iV := h.2.2.2.iV; have iD := h.2.2.2.iD
  refine e_Law_lineAnew (b_Law_lineAnew_0 (c_Law_lineAnew_5 (L_anew h hD hv hp) hD.k1 (by decide) (by decide) (by decide) (by decide) (Nat.le_of_ble_eq_true rfl) (fun y s1 hq => ?_) (fun E s1 hx => ?_)))
  · obtain ⟨h0, rfl, hD1, hk1⟩ := hq
    obtain ⟨⟨g1, g2, g3⟩, -⟩ := hO.keep hk1 (dwp_out hlo)
    exact b_Law_lineAnew_8 ⟨g1, by decide, by rw [g2]; decide, r_Law_lineAnew_17 ⟨_, rfl, HQ.ok hO hlo hk1 hD1 h0⟩ (by decide) (by decide)⟩
  · obtain ⟨hc0, rfl, hD1, hk1⟩ := hx
    have zz : (c1 (isLi S v p)) = 0 ∨ (c1 (isLi S v p)) = 1 := c1_r
    rcases zz with z | z
    · exact absurd z hc0
    · rw [show exN (c1 (isLi S v p)) = "java/lang/IndexOutOfBoundsException" from by rw [z]; rfl]
      exact x_Law_lineAnew_1 (fun q => b_Law_lineAnew_12 (r_Law_lineAnew_15 ⟨_, rfl, HQ.no hO hlo hk1 hD1 (by rw [z]; decide) (by rw [z]; rfl)⟩ (by decide) (by decide)))
theorem L_noteAt {v w : Int} (h : LwI Ω lo x k S σ) (hv : Q32 v) (hw : Q32 w) : MC Ω M_Law_noteAt rm_Law_noteAt (RI (HQ Ω lo x S (c1 ((0 ≤ v ∧ v < (sW S).length) ∧ isV S w)) (lOf (naG (sB S) ((sW S).getD v.toNat 0) (vtx (sV S) w) 0)) S σ)) XN σ [xr (some x), xi v, xi w, xr (some (x + 792))] := by
  have hlo := h.1.1; have hD := h.1.2; have hO := h.2.2.1; have hC : Cnt S := h.2.2.2.1.1; have iV := h.2.2.2.iV; have iD := h.2.2.2.iD
  refine e_Law_noteAt (b_Law_noteAt_0 (c_Law_noteAt_5 (L_noteAt0 h hD hv hw) hD.k1 (by decide) (by decide) (by decide) (by decide) (Nat.le_of_ble_eq_true rfl) (fun y s1 hq => ?_) (fun E s1 hx => ?_)))
  · obtain ⟨h0, rfl, hD1, hk1⟩ := hq
    obtain ⟨⟨g1, g2, g3⟩, -⟩ := hO.keep hk1 (dwp_out hlo)
    exact b_Law_noteAt_8 ⟨g1, by decide, by rw [g2]; decide, r_Law_noteAt_18 ⟨_, rfl, HQ.ok hO hlo hk1 hD1 h0⟩ (by decide) (by decide)⟩
  · obtain ⟨hc0, rfl, hD1, hk1⟩ := hx
    have zz : (c1 ((0 ≤ v ∧ v < (sW S).length) ∧ isV S w)) = 0 ∨ (c1 ((0 ≤ v ∧ v < (sW S).length) ∧ isV S w)) = 1 := c1_r
    rcases zz with z | z
    · exact absurd z hc0
    · rw [show exN (c1 ((0 ≤ v ∧ v < (sW S).length) ∧ isV S w)) = "java/lang/IndexOutOfBoundsException" from by rw [z]; rfl]
      exact x_Law_noteAt_1 (fun q => b_Law_noteAt_13 (r_Law_noteAt_16 ⟨_, rfl, HQ.no hO hlo hk1 hD1 (by rw [z]; decide) (by rw [z]; rfl)⟩ (by decide) (by decide)))
end LWK
