/-! the law's helpers: what each tells (by program: wip/tools/genlaw1.py) -/
theorem c1_r {p : Prop} [Decidable p] : c1 p = 0 ∨ c1 p = 1 := by unfold c1; split <;> simp
theorem c1'_r {p : Prop} [Decidable p] : c1' p = 0 ∨ c1' p = 3 := by unfold c1'; split <;> simp
theorem c2_r {p q : Prop} [Decidable p] [Decidable q] {a b : Nat} : c2 p q a b = 0 ∨ c2 p q a b = a ∨ c2 p q a b = b := by
  unfold c2; split
  · split <;> simp
  · simp
theorem c3_r {p q r : Prop} [Decidable p] [Decidable q] [Decidable r] {a b c : Nat} : c3 p q r a b c = 0 ∨ c3 p q r a b c = a ∨ c3 p q r a b c = b ∨ c3 p q r a b c = c := by
  unfold c3; split
  · split
    · split <;> simp
    · simp
  · simp
theorem DwV.k1 {Ω : Om} {lo x : Nat} {S : St} {σ : Sto} (h : DwV Ω σ lo x S) : sK σ x = 1 := by
  obtain ⟨-, sw, ds, el, h, -⟩ := h
  exact h.2.1
section LWH
variable {Ω : Om} {lo x k : Nat} {S : St} {σ : Sto}
theorem L_begin {v w : Int} (h : LwI Ω lo x k S σ) (hv : Q32 v) (hw : Q32 w) : MC Ω M_Law_begin rm_Law_begin (RI (HQ Ω lo x S (o_begin S v w).1 (lOf (o_begin S v w).2.1) (o_begin S v w).2.2 σ)) XN σ [xr (some x), xi v, xi w, xr (some (x + 792))] := by
  have hlo := h.1.1; have hD := h.1.2; have hO := h.2.2.1; have hC : Cnt S := h.2.2.2.1.1; have iV := h.2.2.2.iV; have iD := h.2.2.2.iD
  refine e_Law_begin (b_Law_begin_0 (c_Law_begin_5 (K_begin hD hC hv hw) hD.k1 (by decide) (by decide) (by decide) (by decide) (Nat.le_of_ble_eq_true rfl) (fun y s1 hq => ?_) (fun E s1 hx => ?_)))
  · obtain ⟨h0, rfl, hD1, hk1⟩ := hq
    obtain ⟨⟨g1, g2, g3⟩, -⟩ := hO.keep hk1 (dwp_out hlo)
    exact b_Law_begin_8 ⟨g1, by decide, by rw [g2]; decide, r_Law_begin_18 ⟨_, rfl, HQ.ok hO hlo hk1 hD1 h0⟩ (by decide) (by decide)⟩
  · obtain ⟨hc0, rfl, hD1, hk1⟩ := hx
    have zz : (o_begin S v w).1 = 0 ∨ (o_begin S v w).1 = 1 := c1_r
    rcases zz with z | z
    · exact absurd z hc0
    · rw [show exN (o_begin S v w).1 = "java/lang/IndexOutOfBoundsException" from by rw [z]; rfl]
      exact x_Law_begin_1 (fun q => b_Law_begin_13 (r_Law_begin_16 ⟨_, rfl, HQ.no hO hlo hk1 hD1 (by rw [z]; decide) (by rw [z]; rfl)⟩ (by decide) (by decide)))
theorem L_insert {p : Int} {l : Int64} (h : LwI Ω lo x k S σ) (hk : k < 512) (hp : Q32 p) : MC Ω M_Law_insert rm_Law_insert (RI (HQ Ω lo x S (o_insert S p l).1 (lOf (o_insert S p l).2.1) (o_insert S p l).2.2 σ)) XN σ [xr (some x), xi p, xl l, xr (some (x + 792))] := by
  have hlo := h.1.1; have hD := h.1.2; have hO := h.2.2.1; have hC : Cnt S := h.2.2.2.1.1; have iV := h.2.2.2.iV; have iD := h.2.2.2.iD
  have hem : sM S < 512 := by have := h.2.2.2.1.2; omega
  refine e_Law_insert (b_Law_insert_0 (c_Law_insert_6 (K_insert hD hC iV iD hem hp) hD.k1 (by decide) (by decide) (by decide) (by decide) (Nat.le_of_ble_eq_true rfl) (fun y s1 hq => ?_) (fun E s1 hx => ?_)))
  · obtain ⟨h0, rfl, hD1, hk1⟩ := hq
    obtain ⟨⟨g1, g2, g3⟩, -⟩ := hO.keep hk1 (dwp_out hlo)
    exact b_Law_insert_9 ⟨g1, by decide, by rw [g2]; decide, r_Law_insert_27 ⟨_, rfl, HQ.ok hO hlo hk1 hD1 h0⟩ (by decide) (by decide)⟩
  · obtain ⟨hc0, rfl, hD1, hk1⟩ := hx
    have zz : (o_insert S p l).1 = 0 ∨ (o_insert S p l).1 = 1 ∨ (o_insert S p l).1 = 2 ∨ (o_insert S p l).1 = 3 := c3_r
    rcases zz with z | z | z | z
    · exact absurd z hc0
    · rw [show exN (o_insert S p l).1 = "java/lang/IndexOutOfBoundsException" from by rw [z]; rfl]
      exact x_Law_insert_1 (fun q => b_Law_insert_14 (r_Law_insert_17 ⟨_, rfl, HQ.no hO hlo hk1 hD1 (by rw [z]; decide) (by rw [z]; rfl)⟩ (by decide) (by decide)))
    · rw [show exN (o_insert S p l).1 = "java/lang/IllegalArgumentException" from by rw [z]; rfl]
      exact x_Law_insert_2 (fun q => b_Law_insert_18 (r_Law_insert_21 ⟨_, rfl, HQ.no hO hlo hk1 hD1 (by rw [z]; decide) (by rw [z]; rfl)⟩ (by decide) (by decide)))
    · rw [show exN (o_insert S p l).1 = "java/lang/IllegalStateException" from by rw [z]; rfl]
      exact x_Law_insert_3 (fun q => b_Law_insert_22 (r_Law_insert_25 ⟨_, rfl, HQ.no hO hlo hk1 hD1 (by rw [z]; decide) (by rw [z]; rfl)⟩ (by decide) (by decide)))
theorem L_remove {p : Int} (h : LwI Ω lo x k S σ) (hk : k < 512) (hp : Q32 p) : MC Ω M_Law_remove rm_Law_remove (RI (HQ Ω lo x S (cd2 (o_remove S p).1) (lOf (o_remove S p).2.1) (o_remove S p).2.2 σ)) XN σ [xr (some x), xi p, xr (some (x + 792))] := by
  have hlo := h.1.1; have hD := h.1.2; have hO := h.2.2.1; have hC : Cnt S := h.2.2.2.1.1; have iV := h.2.2.2.iV; have iD := h.2.2.2.iD
  have hem : sM S < 512 := by have := h.2.2.2.1.2; omega
  refine e_Law_remove (b_Law_remove_0 (c_Law_remove_4 (K_remove hD hC iV iD hem hp) hD.k1 (by decide) (by decide) (by decide) (by decide) (Nat.le_of_ble_eq_true rfl) (fun y s1 hq => ?_) (fun E s1 hx => ?_)))
  · obtain ⟨h0, rfl, hD1, hk1⟩ := hq
    obtain ⟨⟨g1, g2, g3⟩, -⟩ := hO.keep hk1 (dwp_out hlo)
    exact b_Law_remove_7 ⟨g1, by decide, by rw [g2]; decide, r_Law_remove_19 ⟨_, rfl, HQ.ok hO hlo hk1 hD1 (congrArg cd2 h0)⟩ (by decide) (by decide)⟩
  · obtain ⟨hc0, rfl, hD1, hk1⟩ := hx
    have zz : (o_remove S p).1 = 0 ∨ (o_remove S p).1 = 1 ∨ (o_remove S p).1 = 3 := c2_r
    rcases zz with z | z | z
    · exact absurd z hc0
    · rw [show exN (o_remove S p).1 = "java/lang/IndexOutOfBoundsException" from by rw [z]; rfl]
      exact x_Law_remove_1 (fun q => b_Law_remove_12 (r_Law_remove_14 ⟨_, rfl, HQ.no hO hlo hk1 hD1 (by rw [z]; decide) (by rw [z]; rfl)⟩ (by decide) (by decide)))
    · rw [show exN (o_remove S p).1 = "java/lang/IllegalStateException" from by rw [z]; rfl]
      exact x_Law_remove_2 (fun q => b_Law_remove_15 (r_Law_remove_17 ⟨_, rfl, HQ.no hO hlo hk1 hD1 (by rw [z]; decide) (by rw [z]; rfl)⟩ (by decide) (by decide)))
theorem L_change {p : Int} {l : Int64} (h : LwI Ω lo x k S σ) (hk : k < 512) (hp : Q32 p) : MC Ω M_Law_change rm_Law_change (RI (HQ Ω lo x S (o_change S p l).1 (lOf (o_change S p l).2.1) (o_change S p l).2.2 σ)) XN σ [xr (some x), xi p, xl l, xr (some (x + 792))] := by
  have hlo := h.1.1; have hD := h.1.2; have hO := h.2.2.1; have hC : Cnt S := h.2.2.2.1.1; have iV := h.2.2.2.iV; have iD := h.2.2.2.iD
  have hem : sM S < 512 := by have := h.2.2.2.1.2; omega
  refine e_Law_change (b_Law_change_0 (c_Law_change_6 (K_change hD hC iV iD hem hp) hD.k1 (by decide) (by decide) (by decide) (by decide) (Nat.le_of_ble_eq_true rfl) (fun y s1 hq => ?_) (fun E s1 hx => ?_)))
  · obtain ⟨h0, rfl, hD1, hk1⟩ := hq
    obtain ⟨⟨g1, g2, g3⟩, -⟩ := hO.keep hk1 (dwp_out hlo)
    exact b_Law_change_9 ⟨g1, by decide, by rw [g2]; decide, r_Law_change_27 ⟨_, rfl, HQ.ok hO hlo hk1 hD1 h0⟩ (by decide) (by decide)⟩
  · obtain ⟨hc0, rfl, hD1, hk1⟩ := hx
    have zz : (o_change S p l).1 = 0 ∨ (o_change S p l).1 = 1 ∨ (o_change S p l).1 = 2 ∨ (o_change S p l).1 = 3 := c3_r
    rcases zz with z | z | z | z
    · exact absurd z hc0
    · rw [show exN (o_change S p l).1 = "java/lang/IndexOutOfBoundsException" from by rw [z]; rfl]
      exact x_Law_change_1 (fun q => b_Law_change_14 (r_Law_change_17 ⟨_, rfl, HQ.no hO hlo hk1 hD1 (by rw [z]; decide) (by rw [z]; rfl)⟩ (by decide) (by decide)))
    · rw [show exN (o_change S p l).1 = "java/lang/IllegalArgumentException" from by rw [z]; rfl]
      exact x_Law_change_2 (fun q => b_Law_change_18 (r_Law_change_21 ⟨_, rfl, HQ.no hO hlo hk1 hD1 (by rw [z]; decide) (by rw [z]; rfl)⟩ (by decide) (by decide)))
    · rw [show exN (o_change S p l).1 = "java/lang/IllegalStateException" from by rw [z]; rfl]
      exact x_Law_change_3 (fun q => b_Law_change_22 (r_Law_change_25 ⟨_, rfl, HQ.no hO hlo hk1 hD1 (by rw [z]; decide) (by rw [z]; rfl)⟩ (by decide) (by decide)))
theorem L_move {p q : Int} (h : LwI Ω lo x k S σ) (hk : k < 512) (hp : Q32 p) (hq : Q32 q) : MC Ω M_Law_move rm_Law_move (RI (HV Ω lo x S (cd2 (o_move S p q).1) (o_move S p q).2.2 σ)) XN σ [xr (some x), xi p, xi q] := by
  have hlo := h.1.1; have hD := h.1.2; have hO := h.2.2.1; have hC : Cnt S := h.2.2.2.1.1; have iV := h.2.2.2.iV; have iD := h.2.2.2.iD
  have hem : sM S < 512 := by have := h.2.2.2.1.2; omega
  refine e_Law_move (b_Law_move_0 (c_Law_move_3 (K_move hD hC iV iD hem hp hq) hD.k1 (by decide) (by decide) (by decide) (by decide) (Nat.le_of_ble_eq_true rfl) (fun s1 hq => ?_) (fun E s1 hx => ?_)))
  · obtain ⟨h0, hD1, hk1⟩ := hq
    exact b_Law_move_6 (r_Law_move_16 ⟨_, rfl, HV.ok hO hlo hk1 hD1 (congrArg cd2 h0)⟩ (by decide) (by decide))
  · obtain ⟨hc0, rfl, hD1, hk1⟩ := hx
    have zz : (o_move S p q).1 = 0 ∨ (o_move S p q).1 = 1 ∨ (o_move S p q).1 = 3 := c2_r
    rcases zz with z | z | z
    · exact absurd z hc0
    · rw [show exN (o_move S p q).1 = "java/lang/IndexOutOfBoundsException" from by rw [z]; rfl]
      exact x_Law_move_1 (fun q => b_Law_move_9 (r_Law_move_11 ⟨_, rfl, HV.no hO hlo hk1 hD1 (by rw [z]; decide) (by rw [z]; rfl)⟩ (by decide) (by decide)))
    · rw [show exN (o_move S p q).1 = "java/lang/IllegalStateException" from by rw [z]; rfl]
      exact x_Law_move_2 (fun q => b_Law_move_12 (r_Law_move_14 ⟨_, rfl, HV.no hO hlo hk1 hD1 (by rw [z]; decide) (by rw [z]; rfl)⟩ (by decide) (by decide)))
theorem L_undo (h : LwI Ω lo x k S σ) : MC Ω M_Law_undo rm_Law_undo (RI (HQ Ω lo x S (cd1 (o_undo S).1) (lOf (o_undo S).2.1) (o_undo S).2.2 σ)) XN σ [xr (some x), xr (some (x + 792))] := by
  have hlo := h.1.1; have hD := h.1.2; have hO := h.2.2.1; have hC : Cnt S := h.2.2.2.1.1; have iV := h.2.2.2.iV; have iD := h.2.2.2.iD
  refine e_Law_undo (b_Law_undo_0 (c_Law_undo_3 (K_undo hD hC iV iD) hD.k1 (by decide) (by decide) (by decide) (by decide) (Nat.le_of_ble_eq_true rfl) (fun y s1 hq => ?_) (fun E s1 hx => ?_)))
  · obtain ⟨h0, rfl, hD1, hk1⟩ := hq
    obtain ⟨⟨g1, g2, g3⟩, -⟩ := hO.keep hk1 (dwp_out hlo)
    exact b_Law_undo_6 ⟨g1, by decide, by rw [g2]; decide, r_Law_undo_15 ⟨_, rfl, HQ.ok hO hlo hk1 hD1 (congrArg cd1 h0)⟩ (by decide) (by decide)⟩
  · obtain ⟨hc0, rfl, hD1, hk1⟩ := hx
    have zz : (o_undo S).1 = 0 ∨ (o_undo S).1 = 3 := c1'_r
    rcases zz with z | z
    · exact absurd z hc0
    · rw [show exN (o_undo S).1 = "java/lang/IllegalStateException" from by rw [z]; rfl]
      exact x_Law_undo_1 (fun q => b_Law_undo_11 (r_Law_undo_13 ⟨_, rfl, HQ.no hO hlo hk1 hD1 (by rw [z]; decide) (by rw [z]; rfl)⟩ (by decide) (by decide)))
theorem L_commit (h : LwI Ω lo x k S σ) : MC Ω M_Law_commit rm_Law_commit (RI (HQ Ω lo x S (cd1 (o_commit S).1) (lOf (o_commit S).2.1) (o_commit S).2.2 σ)) XN σ [xr (some x), xr (some (x + 792))] := by
  have hlo := h.1.1; have hD := h.1.2; have hO := h.2.2.1; have hC : Cnt S := h.2.2.2.1.1; have iV := h.2.2.2.iV; have iD := h.2.2.2.iD
  refine e_Law_commit (b_Law_commit_0 (c_Law_commit_3 (K_commit hD hC iV iD) hD.k1 (by decide) (by decide) (by decide) (by decide) (Nat.le_of_ble_eq_true rfl) (fun y s1 hq => ?_) (fun E s1 hx => ?_)))
  · obtain ⟨h0, rfl, hD1, hk1⟩ := hq
    obtain ⟨⟨g1, g2, g3⟩, -⟩ := hO.keep hk1 (dwp_out hlo)
    exact b_Law_commit_6 ⟨g1, by decide, by rw [g2]; decide, r_Law_commit_15 ⟨_, rfl, HQ.ok hO hlo hk1 hD1 (congrArg cd1 h0)⟩ (by decide) (by decide)⟩
  · obtain ⟨hc0, rfl, hD1, hk1⟩ := hx
    have zz : (o_commit S).1 = 0 ∨ (o_commit S).1 = 3 := c1'_r
    rcases zz with z | z
    · exact absurd z hc0
    · rw [show exN (o_commit S).1 = "java/lang/IllegalStateException" from by rw [z]; rfl]
      exact x_Law_commit_1 (fun q => b_Law_commit_11 (r_Law_commit_13 ⟨_, rfl, HQ.no hO hlo hk1 hD1 (by rw [z]; decide) (by rw [z]; rfl)⟩ (by decide) (by decide)))
theorem L_draftLine {p : Int} (h : LwI Ω lo x k S σ) (hp : Q32 p) : MC Ω M_Law_draftLine rm_Law_draftLine (RI (HQ Ω lo x S (c1 (0 ≤ p ∧ p < dsz S)) (match sD S with | some r => lnA (drT r) p | none => 0) S σ)) XN σ [xr (some x), xi p, xr (some (x + 792))] := by
  have hlo := h.1.1; have hD := h.1.2; have hO := h.2.2.1; have hC : Cnt S := h.2.2.2.1.1; have iV := h.2.2.2.iV; have iD := h.2.2.2.iD
  refine e_Law_draftLine (b_Law_draftLine_0 (c_Law_draftLine_4 (K_draftLine hD hp) hD.k1 (by decide) (by decide) (by decide) (by decide) (Nat.le_of_ble_eq_true rfl) (fun y s1 hq => ?_) (fun E s1 hx => ?_)))
  · obtain ⟨h0, rfl, hD1, hk1⟩ := hq
    obtain ⟨⟨g1, g2, g3⟩, -⟩ := hO.keep hk1 (dwp_out hlo)
    exact b_Law_draftLine_7 ⟨g1, by decide, by rw [g2]; decide, r_Law_draftLine_15 ⟨_, rfl, HQ.ok hO hlo hk1 hD1 h0⟩ (by decide) (by decide)⟩
  · obtain ⟨hc0, rfl, hD1, hk1⟩ := hx
    have zz : (c1 (0 ≤ p ∧ p < dsz S)) = 0 ∨ (c1 (0 ≤ p ∧ p < dsz S)) = 1 := c1_r
    rcases zz with z | z
    · exact absurd z hc0
    · rw [show exN (c1 (0 ≤ p ∧ p < dsz S)) = "java/lang/IndexOutOfBoundsException" from by rw [z]; rfl]
      exact x_Law_draftLine_1 (fun q => b_Law_draftLine_11 (r_Law_draftLine_13 ⟨_, rfl, HQ.no hO hlo hk1 hD1 (by rw [z]; decide) (by rw [z]; rfl)⟩ (by decide) (by decide)))
theorem L_lines {v : Int} (h : LwI Ω lo x k S σ) (hv : Q32 v) : MC Ω M_Law_lines rm_Law_lines (RI (HQ Ω lo x S (c1 (isV S v)) (lOf ((vtx (sV S) v).length : Int)) S σ)) XN σ [xr (some x), xi v, xr (some (x + 792))] := by
  have hlo := h.1.1; have hD := h.1.2; have hO := h.2.2.1; have hC : Cnt S := h.2.2.2.1.1; have iV := h.2.2.2.iV; have iD := h.2.2.2.iD
  refine e_Law_lines (b_Law_lines_0 (c_Law_lines_4 (K_lines hD hC hv) hD.k1 (by decide) (by decide) (by decide) (by decide) (Nat.le_of_ble_eq_true rfl) (fun y s1 hq => ?_) (fun E s1 hx => ?_)))
  · obtain ⟨h0, rfl, hD1, hk1⟩ := hq
    obtain ⟨⟨g1, g2, g3⟩, -⟩ := hO.keep hk1 (dwp_out hlo)
    exact b_Law_lines_7 ⟨g1, by decide, by rw [g2]; decide, r_Law_lines_16 ⟨_, rfl, HQ.ok hO hlo hk1 hD1 h0⟩ (by decide) (by decide)⟩
  · obtain ⟨hc0, rfl, hD1, hk1⟩ := hx
    have zz : (c1 (isV S v)) = 0 ∨ (c1 (isV S v)) = 1 := c1_r
    rcases zz with z | z
    · exact absurd z hc0
    · rw [show exN (c1 (isV S v)) = "java/lang/IndexOutOfBoundsException" from by rw [z]; rfl]
      exact x_Law_lines_1 (fun q => b_Law_lines_12 (r_Law_lines_14 ⟨_, rfl, HQ.no hO hlo hk1 hD1 (by rw [z]; decide) (by rw [z]; rfl)⟩ (by decide) (by decide)))
theorem L_lineOf {v p : Int} (h : LwI Ω lo x k S σ) (hv : Q32 v) (hp : Q32 p) : MC Ω M_Law_lineOf rm_Law_lineOf (RI (HQ Ω lo x S (c1 (isLi S v p)) (lnA (vtx (sV S) v) p) S σ)) XN σ [xr (some x), xi v, xi p, xr (some (x + 792))] := by
  have hlo := h.1.1; have hD := h.1.2; have hO := h.2.2.1; have hC : Cnt S := h.2.2.2.1.1; have iV := h.2.2.2.iV; have iD := h.2.2.2.iD
  refine e_Law_lineOf (b_Law_lineOf_0 (c_Law_lineOf_5 (K_lineOf hD hC hv hp) hD.k1 (by decide) (by decide) (by decide) (by decide) (Nat.le_of_ble_eq_true rfl) (fun y s1 hq => ?_) (fun E s1 hx => ?_)))
  · obtain ⟨h0, rfl, hD1, hk1⟩ := hq
    obtain ⟨⟨g1, g2, g3⟩, -⟩ := hO.keep hk1 (dwp_out hlo)
    exact b_Law_lineOf_8 ⟨g1, by decide, by rw [g2]; decide, r_Law_lineOf_17 ⟨_, rfl, HQ.ok hO hlo hk1 hD1 h0⟩ (by decide) (by decide)⟩
  · obtain ⟨hc0, rfl, hD1, hk1⟩ := hx
    have zz : (c1 (isLi S v p)) = 0 ∨ (c1 (isLi S v p)) = 1 := c1_r
    rcases zz with z | z
    · exact absurd z hc0
    · rw [show exN (c1 (isLi S v p)) = "java/lang/IndexOutOfBoundsException" from by rw [z]; rfl]
      exact x_Law_lineOf_1 (fun q => b_Law_lineOf_12 (r_Law_lineOf_15 ⟨_, rfl, HQ.no hO hlo hk1 hD1 (by rw [z]; decide) (by rw [z]; rfl)⟩ (by decide) (by decide)))
theorem L_blame {v p : Int} (h : LwI Ω lo x k S σ) (hv : Q32 v) (hp : Q32 p) : MC Ω M_Law_blame rm_Law_blame (RI (HQ Ω lo x S (c1 (isLi S v p)) (lOf (auN (sB S) (nmA (vtx (sV S) v) p))) S σ)) XN σ [xr (some x), xi v, xi p, xr (some (x + 792))] := by
  have hlo := h.1.1; have hD := h.1.2; have hO := h.2.2.1; have hC : Cnt S := h.2.2.2.1.1; have iV := h.2.2.2.iV; have iD := h.2.2.2.iD
  refine e_Law_blame (b_Law_blame_0 (c_Law_blame_5 (K_blame hD hC hv hp) hD.k1 (by decide) (by decide) (by decide) (by decide) (Nat.le_of_ble_eq_true rfl) (fun y s1 hq => ?_) (fun E s1 hx => ?_)))
  · obtain ⟨h0, rfl, hD1, hk1⟩ := hq
    obtain ⟨⟨g1, g2, g3⟩, -⟩ := hO.keep hk1 (dwp_out hlo)
    exact b_Law_blame_8 ⟨g1, by decide, by rw [g2]; decide, r_Law_blame_18 ⟨_, rfl, HQ.ok hO hlo hk1 hD1 h0⟩ (by decide) (by decide)⟩
  · obtain ⟨hc0, rfl, hD1, hk1⟩ := hx
    have zz : (c1 (isLi S v p)) = 0 ∨ (c1 (isLi S v p)) = 1 := c1_r
    rcases zz with z | z
    · exact absurd z hc0
    · rw [show exN (c1 (isLi S v p)) = "java/lang/IndexOutOfBoundsException" from by rw [z]; rfl]
      exact x_Law_blame_1 (fun q => b_Law_blame_13 (r_Law_blame_16 ⟨_, rfl, HQ.no hO hlo hk1 hD1 (by rw [z]; decide) (by rw [z]; rfl)⟩ (by decide) (by decide)))
theorem L_since {v p : Int} (h : LwI Ω lo x k S σ) (hv : Q32 v) (hp : Q32 p) : MC Ω M_Law_since rm_Law_since (RI (HQ Ω lo x S (c1 (isLi S v p)) (lOf ((snG (sV S) (nmA (vtx (sV S) v) p) v.toNat v.toNat 0 : Nat) : Int)) S σ)) XN σ [xr (some x), xi v, xi p, xr (some (x + 792))] := by
  have hlo := h.1.1; have hD := h.1.2; have hO := h.2.2.1; have hC : Cnt S := h.2.2.2.1.1; have iV := h.2.2.2.iV; have iD := h.2.2.2.iD
  refine e_Law_since (b_Law_since_0 (c_Law_since_5 (K_since hD hC hv hp) hD.k1 (by decide) (by decide) (by decide) (by decide) (Nat.le_of_ble_eq_true rfl) (fun y s1 hq => ?_) (fun E s1 hx => ?_)))
  · obtain ⟨h0, rfl, hD1, hk1⟩ := hq
    obtain ⟨⟨g1, g2, g3⟩, -⟩ := hO.keep hk1 (dwp_out hlo)
    exact b_Law_since_8 ⟨g1, by decide, by rw [g2]; decide, r_Law_since_18 ⟨_, rfl, HQ.ok hO hlo hk1 hD1 h0⟩ (by decide) (by decide)⟩
  · obtain ⟨hc0, rfl, hD1, hk1⟩ := hx
    have zz : (c1 (isLi S v p)) = 0 ∨ (c1 (isLi S v p)) = 1 := c1_r
    rcases zz with z | z
    · exact absurd z hc0
    · rw [show exN (c1 (isLi S v p)) = "java/lang/IndexOutOfBoundsException" from by rw [z]; rfl]
      exact x_Law_since_1 (fun q => b_Law_since_13 (r_Law_since_16 ⟨_, rfl, HQ.no hO hlo hk1 hD1 (by rw [z]; decide) (by rw [z]; rfl)⟩ (by decide) (by decide)))
theorem L_compare {v w lb : Int} (h : LwI Ω lo x k S σ) (hv : Q32 v) (hw : Q32 w) (hlb : Q32 lb) : MC Ω M_Law_compare rm_Law_compare (RI (HQ Ω lo x S (o_compare S v w lb).1 (lOf (o_compare S v w lb).2.1) (o_compare S v w lb).2.2 σ)) XN σ [xr (some x), xi v, xi w, xi lb, xr (some (x + 792))] := by
  have hlo := h.1.1; have hD := h.1.2; have hO := h.2.2.1; have hC : Cnt S := h.2.2.2.1.1; have iV := h.2.2.2.iV; have iD := h.2.2.2.iD
  refine e_Law_compare (b_Law_compare_0 (c_Law_compare_7 (K_compare hD hC h.2.2.2.h20 hv hw hlb) hD.k1 (by decide) (by decide) (by decide) (by decide) (Nat.le_of_ble_eq_true rfl) (fun y s1 hq => ?_) (fun E s1 hx => ?_)))
  · obtain ⟨h0, rfl, hD1, hk1⟩ := hq
    obtain ⟨⟨g1, g2, g3⟩, -⟩ := hO.keep hk1 (dwp_out hlo)
    exact b_Law_compare_10 ⟨g1, by decide, by rw [g2]; decide, r_Law_compare_20 ⟨_, rfl, HQ.ok hO hlo hk1 hD1 h0⟩ (by decide) (by decide)⟩
  · obtain ⟨hc0, rfl, hD1, hk1⟩ := hx
    have zz : (o_compare S v w lb).1 = 0 ∨ (o_compare S v w lb).1 = 1 := c1_r
    rcases zz with z | z
    · exact absurd z hc0
    · rw [show exN (o_compare S v w lb).1 = "java/lang/IndexOutOfBoundsException" from by rw [z]; rfl]
      exact x_Law_compare_1 (fun q => b_Law_compare_15 (r_Law_compare_18 ⟨_, rfl, HQ.no hO hlo hk1 hD1 (by rw [z]; decide) (by rw [z]; rfl)⟩ (by decide) (by decide)))
theorem L_pairOf {p : Int} (h : LwI Ω lo x k S σ) (hp : Q32 p) : MC Ω M_Law_pairOf rm_Law_pairOf (RI (HQ Ω lo x S (c1 (0 ≤ p ∧ p < csz S)) (lOf (match sC S with | some c => c.2.2.1 p.toNat | none => 0)) S σ)) XN σ [xr (some x), xi p, xr (some (x + 792))] := by
  have hlo := h.1.1; have hD := h.1.2; have hO := h.2.2.1; have hC : Cnt S := h.2.2.2.1.1; have iV := h.2.2.2.iV; have iD := h.2.2.2.iD
  refine e_Law_pairOf (b_Law_pairOf_0 (c_Law_pairOf_4 (K_pairOf hD hp) hD.k1 (by decide) (by decide) (by decide) (by decide) (Nat.le_of_ble_eq_true rfl) (fun y s1 hq => ?_) (fun E s1 hx => ?_)))
  · obtain ⟨h0, rfl, hD1, hk1⟩ := hq
    obtain ⟨⟨g1, g2, g3⟩, -⟩ := hO.keep hk1 (dwp_out hlo)
    exact b_Law_pairOf_7 ⟨g1, by decide, by rw [g2]; decide, r_Law_pairOf_16 ⟨_, rfl, HQ.ok hO hlo hk1 hD1 h0⟩ (by decide) (by decide)⟩
  · obtain ⟨hc0, rfl, hD1, hk1⟩ := hx
    have zz : (c1 (0 ≤ p ∧ p < csz S)) = 0 ∨ (c1 (0 ≤ p ∧ p < csz S)) = 1 := c1_r
    rcases zz with z | z
    · exact absurd z hc0
    · rw [show exN (c1 (0 ≤ p ∧ p < csz S)) = "java/lang/IndexOutOfBoundsException" from by rw [z]; rfl]
      exact x_Law_pairOf_1 (fun q => b_Law_pairOf_12 (r_Law_pairOf_14 ⟨_, rfl, HQ.no hO hlo hk1 hD1 (by rw [z]; decide) (by rw [z]; rfl)⟩ (by decide) (by decide)))
theorem L_movedTo {p : Int} (h : LwI Ω lo x k S σ) (hp : Q32 p) : MC Ω M_Law_movedTo rm_Law_movedTo (RI (HQ Ω lo x S (c1 (0 ≤ p ∧ p < csz S)) (lOf (match sC S with | some c => c.2.2.2.1 p.toNat | none => 0)) S σ)) XN σ [xr (some x), xi p, xr (some (x + 792))] := by
  have hlo := h.1.1; have hD := h.1.2; have hO := h.2.2.1; have hC : Cnt S := h.2.2.2.1.1; have iV := h.2.2.2.iV; have iD := h.2.2.2.iD
  refine e_Law_movedTo (b_Law_movedTo_0 (c_Law_movedTo_4 (K_movedTo hD hp) hD.k1 (by decide) (by decide) (by decide) (by decide) (Nat.le_of_ble_eq_true rfl) (fun y s1 hq => ?_) (fun E s1 hx => ?_)))
  · obtain ⟨h0, rfl, hD1, hk1⟩ := hq
    obtain ⟨⟨g1, g2, g3⟩, -⟩ := hO.keep hk1 (dwp_out hlo)
    exact b_Law_movedTo_7 ⟨g1, by decide, by rw [g2]; decide, r_Law_movedTo_16 ⟨_, rfl, HQ.ok hO hlo hk1 hD1 h0⟩ (by decide) (by decide)⟩
  · obtain ⟨hc0, rfl, hD1, hk1⟩ := hx
    have zz : (c1 (0 ≤ p ∧ p < csz S)) = 0 ∨ (c1 (0 ≤ p ∧ p < csz S)) = 1 := c1_r
    rcases zz with z | z
    · exact absurd z hc0
    · rw [show exN (c1 (0 ≤ p ∧ p < csz S)) = "java/lang/IndexOutOfBoundsException" from by rw [z]; rfl]
      exact x_Law_movedTo_1 (fun q => b_Law_movedTo_12 (r_Law_movedTo_14 ⟨_, rfl, HQ.no hO hlo hk1 hD1 (by rw [z]; decide) (by rw [z]; rfl)⟩ (by decide) (by decide)))
theorem L_treeCost {v w : Int} (h : LwI Ω lo x k S σ) (hv : Q32 v) (hw : Q32 w) : MC Ω M_Law_treeCost rm_Law_treeCost (RI (HQ Ω lo x S (c1 (isV S v ∧ isV S w)) (lOf ((tcN ((vtx (sV S) v).map (·.1)) ((vtx (sV S) w).map (·.1)) : Nat) : Int)) S σ)) XN σ [xr (some x), xi v, xi w, xr (some (x + 792))] := by
  have hlo := h.1.1; have hD := h.1.2; have hO := h.2.2.1; have hC : Cnt S := h.2.2.2.1.1; have iV := h.2.2.2.iV; have iD := h.2.2.2.iD
  refine e_Law_treeCost (b_Law_treeCost_0 (c_Law_treeCost_5 (K_treeCost hD hC h.2.2.2.h20 hv hw) hD.k1 (by decide) (by decide) (by decide) (by decide) (Nat.le_of_ble_eq_true rfl) (fun y s1 hq => ?_) (fun E s1 hx => ?_)))
  · obtain ⟨h0, rfl, hD1, hk1⟩ := hq
    obtain ⟨⟨g1, g2, g3⟩, -⟩ := hO.keep hk1 (dwp_out hlo)
    exact b_Law_treeCost_8 ⟨g1, by decide, by rw [g2]; decide, r_Law_treeCost_18 ⟨_, rfl, HQ.ok hO hlo hk1 hD1 h0⟩ (by decide) (by decide)⟩
  · obtain ⟨hc0, rfl, hD1, hk1⟩ := hx
    have zz : (c1 (isV S v ∧ isV S w)) = 0 ∨ (c1 (isV S v ∧ isV S w)) = 1 := c1_r
    rcases zz with z | z
    · exact absurd z hc0
    · rw [show exN (c1 (isV S v ∧ isV S w)) = "java/lang/IndexOutOfBoundsException" from by rw [z]; rfl]
      exact x_Law_treeCost_1 (fun q => b_Law_treeCost_13 (r_Law_treeCost_16 ⟨_, rfl, HQ.no hO hlo hk1 hD1 (by rw [z]; decide) (by rw [z]; rfl)⟩ (by decide) (by decide)))
theorem L_base {v w : Int} (h : LwI Ω lo x k S σ) (hv : Q32 v) (hw : Q32 w) : MC Ω M_Law_base rm_Law_base (RI (HQ Ω lo x S (c1 (isV S v ∧ isV S w)) (lOf (bsN (sV S) v w)) S σ)) XN σ [xr (some x), xi v, xi w, xr (some (x + 792))] := by
  have hlo := h.1.1; have hD := h.1.2; have hO := h.2.2.1; have hC : Cnt S := h.2.2.2.1.1; have iV := h.2.2.2.iV; have iD := h.2.2.2.iD
  refine e_Law_base (b_Law_base_0 (c_Law_base_5 (K_base hD hC hv hw) hD.k1 (by decide) (by decide) (by decide) (by decide) (Nat.le_of_ble_eq_true rfl) (fun y s1 hq => ?_) (fun E s1 hx => ?_)))
  · obtain ⟨h0, rfl, hD1, hk1⟩ := hq
    obtain ⟨⟨g1, g2, g3⟩, -⟩ := hO.keep hk1 (dwp_out hlo)
    exact b_Law_base_8 ⟨g1, by decide, by rw [g2]; decide, r_Law_base_18 ⟨_, rfl, HQ.ok hO hlo hk1 hD1 h0⟩ (by decide) (by decide)⟩
  · obtain ⟨hc0, rfl, hD1, hk1⟩ := hx
    have zz : (c1 (isV S v ∧ isV S w)) = 0 ∨ (c1 (isV S v ∧ isV S w)) = 1 := c1_r
    rcases zz with z | z
    · exact absurd z hc0
    · rw [show exN (c1 (isV S v ∧ isV S w)) = "java/lang/IndexOutOfBoundsException" from by rw [z]; rfl]
      exact x_Law_base_1 (fun q => b_Law_base_13 (r_Law_base_16 ⟨_, rfl, HQ.no hO hlo hk1 hD1 (by rw [z]; decide) (by rw [z]; rfl)⟩ (by decide) (by decide)))
theorem L_merge {v w au : Int} (h : LwI Ω lo x k S σ) (hv : Q32 v) (hw : Q32 w) (hau : Q32 au) : MC Ω M_Law_merge rm_Law_merge (RI (HQ Ω lo x S (o_merge S v w au).1 (lOf (o_merge S v w au).2.1) (o_merge S v w au).2.2 σ)) XN σ [xr (some x), xi v, xi w, xi au, xr (some (x + 792))] := by
  have hlo := h.1.1; have hD := h.1.2; have hO := h.2.2.1; have hC : Cnt S := h.2.2.2.1.1; have iV := h.2.2.2.iV; have iD := h.2.2.2.iD
  refine e_Law_merge (b_Law_merge_0 (c_Law_merge_7 (K_merge hD hC iV hv hw hau) hD.k1 (by decide) (by decide) (by decide) (by decide) (Nat.le_of_ble_eq_true rfl) (fun y s1 hq => ?_) (fun E s1 hx => ?_)))
  · obtain ⟨h0, rfl, hD1, hk1⟩ := hq
    obtain ⟨⟨g1, g2, g3⟩, -⟩ := hO.keep hk1 (dwp_out hlo)
    exact b_Law_merge_10 ⟨g1, by decide, by rw [g2]; decide, r_Law_merge_28 ⟨_, rfl, HQ.ok hO hlo hk1 hD1 h0⟩ (by decide) (by decide)⟩
  · obtain ⟨hc0, rfl, hD1, hk1⟩ := hx
    have zz : (o_merge S v w au).1 = 0 ∨ (o_merge S v w au).1 = 1 ∨ (o_merge S v w au).1 = 2 ∨ (o_merge S v w au).1 = 3 := c3_r
    rcases zz with z | z | z | z
    · exact absurd z hc0
    · rw [show exN (o_merge S v w au).1 = "java/lang/IndexOutOfBoundsException" from by rw [z]; rfl]
      exact x_Law_merge_1 (fun q => b_Law_merge_15 (r_Law_merge_18 ⟨_, rfl, HQ.no hO hlo hk1 hD1 (by rw [z]; decide) (by rw [z]; rfl)⟩ (by decide) (by decide)))
    · rw [show exN (o_merge S v w au).1 = "java/lang/IllegalArgumentException" from by rw [z]; rfl]
      exact x_Law_merge_2 (fun q => b_Law_merge_19 (r_Law_merge_22 ⟨_, rfl, HQ.no hO hlo hk1 hD1 (by rw [z]; decide) (by rw [z]; rfl)⟩ (by decide) (by decide)))
    · rw [show exN (o_merge S v w au).1 = "java/lang/IllegalStateException" from by rw [z]; rfl]
      exact x_Law_merge_3 (fun q => b_Law_merge_23 (r_Law_merge_26 ⟨_, rfl, HQ.no hO hlo hk1 hD1 (by rw [z]; decide) (by rw [z]; rfl)⟩ (by decide) (by decide)))
theorem L_pieceOf {v p : Int} (h : LwI Ω lo x k S σ) (hv : Q32 v) (hp : Q32 p) : MC Ω M_Law_pieceOf rm_Law_pieceOf (RI (HQ Ω lo x S (c2 (0 ≤ v ∧ v < cfn S) (0 ≤ p ∧ p ≤ 2) 1 2) (lOf (match sD S with | some r => cnL ((drC r).getD v.toNat ((0, 0), (0, 0), (0, 0), 0, 0)) p | none => 0)) S σ)) XN σ [xr (some x), xi v, xi p, xr (some (x + 792))] := by
  have hlo := h.1.1; have hD := h.1.2; have hO := h.2.2.1; have hC : Cnt S := h.2.2.2.1.1; have iV := h.2.2.2.iV; have iD := h.2.2.2.iD
  refine e_Law_pieceOf (b_Law_pieceOf_0 (c_Law_pieceOf_5 (K_pieceOf hD hv hp) hD.k1 (by decide) (by decide) (by decide) (by decide) (Nat.le_of_ble_eq_true rfl) (fun y s1 hq => ?_) (fun E s1 hx => ?_)))
  · obtain ⟨h0, rfl, hD1, hk1⟩ := hq
    obtain ⟨⟨g1, g2, g3⟩, -⟩ := hO.keep hk1 (dwp_out hlo)
    exact b_Law_pieceOf_8 ⟨g1, by decide, by rw [g2]; decide, r_Law_pieceOf_22 ⟨_, rfl, HQ.ok hO hlo hk1 hD1 h0⟩ (by decide) (by decide)⟩
  · obtain ⟨hc0, rfl, hD1, hk1⟩ := hx
    have zz : (c2 (0 ≤ v ∧ v < cfn S) (0 ≤ p ∧ p ≤ 2) 1 2) = 0 ∨ (c2 (0 ≤ v ∧ v < cfn S) (0 ≤ p ∧ p ≤ 2) 1 2) = 1 ∨ (c2 (0 ≤ v ∧ v < cfn S) (0 ≤ p ∧ p ≤ 2) 1 2) = 2 := c2_r
    rcases zz with z | z | z
    · exact absurd z hc0
    · rw [show exN (c2 (0 ≤ v ∧ v < cfn S) (0 ≤ p ∧ p ≤ 2) 1 2) = "java/lang/IndexOutOfBoundsException" from by rw [z]; rfl]
      exact x_Law_pieceOf_1 (fun q => b_Law_pieceOf_13 (r_Law_pieceOf_16 ⟨_, rfl, HQ.no hO hlo hk1 hD1 (by rw [z]; decide) (by rw [z]; rfl)⟩ (by decide) (by decide)))
    · rw [show exN (c2 (0 ≤ v ∧ v < cfn S) (0 ≤ p ∧ p ≤ 2) 1 2) = "java/lang/IllegalArgumentException" from by rw [z]; rfl]
      exact x_Law_pieceOf_2 (fun q => b_Law_pieceOf_17 (r_Law_pieceOf_20 ⟨_, rfl, HQ.no hO hlo hk1 hD1 (by rw [z]; decide) (by rw [z]; rfl)⟩ (by decide) (by decide)))
theorem L_settle {p q : Int} (h : LwI Ω lo x k S σ) (hk : k < 512) (hp : Q32 p) (hq : Q32 q) : MC Ω M_Law_settle rm_Law_settle (RI (HQ Ω lo x S (o_settle S p q).1 (lOf (o_settle S p q).2.1) (o_settle S p q).2.2 σ)) XN σ [xr (some x), xi p, xi q, xr (some (x + 792))] := by
  have hlo := h.1.1; have hD := h.1.2; have hO := h.2.2.1; have hC : Cnt S := h.2.2.2.1.1; have iV := h.2.2.2.iV; have iD := h.2.2.2.iD
  have hem : sM S < 512 := by have := h.2.2.2.1.2; omega
  refine e_Law_settle (b_Law_settle_0 (c_Law_settle_5 (K_settle hD hC iV iD hem hp hq) hD.k1 (by decide) (by decide) (by decide) (by decide) (Nat.le_of_ble_eq_true rfl) (fun y s1 hq => ?_) (fun E s1 hx => ?_)))
  · obtain ⟨h0, rfl, hD1, hk1⟩ := hq
    obtain ⟨⟨g1, g2, g3⟩, -⟩ := hO.keep hk1 (dwp_out hlo)
    exact b_Law_settle_8 ⟨g1, by decide, by rw [g2]; decide, r_Law_settle_26 ⟨_, rfl, HQ.ok hO hlo hk1 hD1 h0⟩ (by decide) (by decide)⟩
  · obtain ⟨hc0, rfl, hD1, hk1⟩ := hx
    have zz : (o_settle S p q).1 = 0 ∨ (o_settle S p q).1 = 1 ∨ (o_settle S p q).1 = 2 ∨ (o_settle S p q).1 = 3 := c3_r
    rcases zz with z | z | z | z
    · exact absurd z hc0
    · rw [show exN (o_settle S p q).1 = "java/lang/IndexOutOfBoundsException" from by rw [z]; rfl]
      exact x_Law_settle_1 (fun q => b_Law_settle_13 (r_Law_settle_16 ⟨_, rfl, HQ.no hO hlo hk1 hD1 (by rw [z]; decide) (by rw [z]; rfl)⟩ (by decide) (by decide)))
    · rw [show exN (o_settle S p q).1 = "java/lang/IllegalArgumentException" from by rw [z]; rfl]
      exact x_Law_settle_2 (fun q => b_Law_settle_17 (r_Law_settle_20 ⟨_, rfl, HQ.no hO hlo hk1 hD1 (by rw [z]; decide) (by rw [z]; rfl)⟩ (by decide) (by decide)))
    · rw [show exN (o_settle S p q).1 = "java/lang/IllegalStateException" from by rw [z]; rfl]
      exact x_Law_settle_3 (fun q => b_Law_settle_21 (r_Law_settle_24 ⟨_, rfl, HQ.no hO hlo hk1 hD1 (by rw [z]; decide) (by rw [z]; rfl)⟩ (by decide) (by decide)))
theorem L_patch {v w c : Int} (h : LwI Ω lo x k S σ) (hv : Q32 v) (hw : Q32 w) (hc : Q32 c) : MC Ω M_Law_patch rm_Law_patch (RI (HQ Ω lo x S (o_patch S v w c).1 (lOf (o_patch S v w c).2.1) (o_patch S v w c).2.2 σ)) XN σ [xr (some x), xi v, xi w, xi c, xr (some (x + 792))] := by
  have hlo := h.1.1; have hD := h.1.2; have hO := h.2.2.1; have hC : Cnt S := h.2.2.2.1.1; have iV := h.2.2.2.iV; have iD := h.2.2.2.iD
  refine e_Law_patch (b_Law_patch_0 (c_Law_patch_7 (K_patch hD hC h.2.2.2.h20 hv hw hc) hD.k1 (by decide) (by decide) (by decide) (by decide) (Nat.le_of_ble_eq_true rfl) (fun y s1 hq => ?_) (fun E s1 hx => ?_)))
  · obtain ⟨h0, rfl, hD1, hk1⟩ := hq
    obtain ⟨⟨g1, g2, g3⟩, -⟩ := hO.keep hk1 (dwp_out hlo)
    exact b_Law_patch_10 ⟨g1, by decide, by rw [g2]; decide, r_Law_patch_28 ⟨_, rfl, HQ.ok hO hlo hk1 hD1 h0⟩ (by decide) (by decide)⟩
  · obtain ⟨hc0, rfl, hD1, hk1⟩ := hx
    have zz : (o_patch S v w c).1 = 0 ∨ (o_patch S v w c).1 = 1 ∨ (o_patch S v w c).1 = 2 ∨ (o_patch S v w c).1 = 3 := c3_r
    rcases zz with z | z | z | z
    · exact absurd z hc0
    · rw [show exN (o_patch S v w c).1 = "java/lang/IndexOutOfBoundsException" from by rw [z]; rfl]
      exact x_Law_patch_1 (fun q => b_Law_patch_15 (r_Law_patch_18 ⟨_, rfl, HQ.no hO hlo hk1 hD1 (by rw [z]; decide) (by rw [z]; rfl)⟩ (by decide) (by decide)))
    · rw [show exN (o_patch S v w c).1 = "java/lang/IllegalArgumentException" from by rw [z]; rfl]
      exact x_Law_patch_2 (fun q => b_Law_patch_19 (r_Law_patch_22 ⟨_, rfl, HQ.no hO hlo hk1 hD1 (by rw [z]; decide) (by rw [z]; rfl)⟩ (by decide) (by decide)))
    · rw [show exN (o_patch S v w c).1 = "java/lang/IllegalStateException" from by rw [z]; rfl]
      exact x_Law_patch_3 (fun q => b_Law_patch_23 (r_Law_patch_26 ⟨_, rfl, HQ.no hO hlo hk1 hD1 (by rw [z]; decide) (by rw [z]; rfl)⟩ (by decide) (by decide)))
theorem L_turn {p : Int} (h : LwI Ω lo x k S σ) (hp : Q32 p) : MC Ω M_Law_turn rm_Law_turn (RI (HQ Ω lo x S (cd2 (o_turn S p).1) (lOf (o_turn S p).2.1) (o_turn S p).2.2 σ)) XN σ [xr (some x), xi p, xr (some (x + 792))] := by
  have hlo := h.1.1; have hD := h.1.2; have hO := h.2.2.1; have hC : Cnt S := h.2.2.2.1.1; have iV := h.2.2.2.iV; have iD := h.2.2.2.iD
  refine e_Law_turn (b_Law_turn_0 (c_Law_turn_4 (K_turn hD hC hp) hD.k1 (by decide) (by decide) (by decide) (by decide) (Nat.le_of_ble_eq_true rfl) (fun y s1 hq => ?_) (fun E s1 hx => ?_)))
  · obtain ⟨h0, rfl, hD1, hk1⟩ := hq
    obtain ⟨⟨g1, g2, g3⟩, -⟩ := hO.keep hk1 (dwp_out hlo)
    exact b_Law_turn_7 ⟨g1, by decide, by rw [g2]; decide, r_Law_turn_19 ⟨_, rfl, HQ.ok hO hlo hk1 hD1 (congrArg cd2 h0)⟩ (by decide) (by decide)⟩
  · obtain ⟨hc0, rfl, hD1, hk1⟩ := hx
    have zz : (o_turn S p).1 = 0 ∨ (o_turn S p).1 = 1 ∨ (o_turn S p).1 = 3 := c2_r
    rcases zz with z | z | z
    · exact absurd z hc0
    · rw [show exN (o_turn S p).1 = "java/lang/IndexOutOfBoundsException" from by rw [z]; rfl]
      exact x_Law_turn_1 (fun q => b_Law_turn_12 (r_Law_turn_14 ⟨_, rfl, HQ.no hO hlo hk1 hD1 (by rw [z]; decide) (by rw [z]; rfl)⟩ (by decide) (by decide)))
    · rw [show exN (o_turn S p).1 = "java/lang/IllegalStateException" from by rw [z]; rfl]
      exact x_Law_turn_2 (fun q => b_Law_turn_15 (r_Law_turn_17 ⟨_, rfl, HQ.no hO hlo hk1 hD1 (by rw [z]; decide) (by rw [z]; rfl)⟩ (by decide) (by decide)))
theorem L_hunk {v w p : Int} (h : LwI Ω lo x k S σ) (hv : Q32 v) (hw : Q32 w) (hp : Q32 p) : MC Ω M_Law_hunk rm_Law_hunk (RI (HQ Ω lo x S (c2 ((0 ≤ v ∧ v < (sP S).length) ∧ 0 ≤ w ∧ w < (phk S v).length) (0 ≤ p ∧ p < 5) 1 2) (lOf (hnPart ((phk S v).getD w.toNat (0, 0, [], [], [], [])) p)) S σ)) XN σ [xr (some x), xi v, xi w, xi p, xr (some (x + 792))] := by
  have hlo := h.1.1; have hD := h.1.2; have hO := h.2.2.1; have hC : Cnt S := h.2.2.2.1.1; have iV := h.2.2.2.iV; have iD := h.2.2.2.iD
  refine e_Law_hunk (b_Law_hunk_0 (c_Law_hunk_7 (K_hunk hD hC hv hw hp) hD.k1 (by decide) (by decide) (by decide) (by decide) (Nat.le_of_ble_eq_true rfl) (fun y s1 hq => ?_) (fun E s1 hx => ?_)))
  · obtain ⟨h0, rfl, hD1, hk1⟩ := hq
    obtain ⟨⟨g1, g2, g3⟩, -⟩ := hO.keep hk1 (dwp_out hlo)
    exact b_Law_hunk_10 ⟨g1, by decide, by rw [g2]; decide, r_Law_hunk_24 ⟨_, rfl, HQ.ok hO hlo hk1 hD1 h0⟩ (by decide) (by decide)⟩
  · obtain ⟨hc0, rfl, hD1, hk1⟩ := hx
    have zz : (c2 ((0 ≤ v ∧ v < (sP S).length) ∧ 0 ≤ w ∧ w < (phk S v).length) (0 ≤ p ∧ p < 5) 1 2) = 0 ∨ (c2 ((0 ≤ v ∧ v < (sP S).length) ∧ 0 ≤ w ∧ w < (phk S v).length) (0 ≤ p ∧ p < 5) 1 2) = 1 ∨ (c2 ((0 ≤ v ∧ v < (sP S).length) ∧ 0 ≤ w ∧ w < (phk S v).length) (0 ≤ p ∧ p < 5) 1 2) = 2 := c2_r
    rcases zz with z | z | z
    · exact absurd z hc0
    · rw [show exN (c2 ((0 ≤ v ∧ v < (sP S).length) ∧ 0 ≤ w ∧ w < (phk S v).length) (0 ≤ p ∧ p < 5) 1 2) = "java/lang/IndexOutOfBoundsException" from by rw [z]; rfl]
      exact x_Law_hunk_1 (fun q => b_Law_hunk_15 (r_Law_hunk_18 ⟨_, rfl, HQ.no hO hlo hk1 hD1 (by rw [z]; decide) (by rw [z]; rfl)⟩ (by decide) (by decide)))
    · rw [show exN (c2 ((0 ≤ v ∧ v < (sP S).length) ∧ 0 ≤ w ∧ w < (phk S v).length) (0 ≤ p ∧ p < 5) 1 2) = "java/lang/IllegalArgumentException" from by rw [z]; rfl]
      exact x_Law_hunk_2 (fun q => b_Law_hunk_19 (r_Law_hunk_22 ⟨_, rfl, HQ.no hO hlo hk1 hD1 (by rw [z]; decide) (by rw [z]; rfl)⟩ (by decide) (by decide)))
theorem L_lay {p q : Int} (h : LwI Ω lo x k S σ) (hk : k < 512) (hp : Q32 p) (hq : Q32 q) : MC Ω M_Law_lay rm_Law_lay (RI (HQ Ω lo x S (o_lay x S p q).1 (lOf (o_lay x S p q).2.1) (o_lay x S p q).2.2 σ)) XN σ [xr (some x), xi p, xi q, xr (some (x + 792))] := by
  have hlo := h.1.1; have hD := h.1.2; have hO := h.2.2.1; have hC : Cnt S := h.2.2.2.1.1; have iV := h.2.2.2.iV; have iD := h.2.2.2.iD
  have hem : sM S < 512 := by have := h.2.2.2.1.2; omega
  refine e_Law_lay (b_Law_lay_0 (c_Law_lay_5 (K_lay hD hC iV iD h.2.2.2.iP hem hp hq) hD.k1 (by decide) (by decide) (by decide) (by decide) (Nat.le_of_ble_eq_true rfl) (fun y s1 hq => ?_) (fun E s1 hx => ?_)))
  · obtain ⟨h0, rfl, hD1, hk1⟩ := hq
    obtain ⟨⟨g1, g2, g3⟩, -⟩ := hO.keep hk1 (dwp_out hlo)
    exact b_Law_lay_8 ⟨g1, by decide, by rw [g2]; decide, r_Law_lay_26 ⟨_, rfl, HQ.ok hO hlo hk1 hD1 h0⟩ (by decide) (by decide)⟩
  · obtain ⟨hc0, rfl, hD1, hk1⟩ := hx
    have zz : (o_lay x S p q).1 = 0 ∨ (o_lay x S p q).1 = 1 ∨ (o_lay x S p q).1 = 2 ∨ (o_lay x S p q).1 = 3 := c3_r
    rcases zz with z | z | z | z
    · exact absurd z hc0
    · rw [show exN (o_lay x S p q).1 = "java/lang/IndexOutOfBoundsException" from by rw [z]; rfl]
      exact x_Law_lay_1 (fun q => b_Law_lay_13 (r_Law_lay_16 ⟨_, rfl, HQ.no hO hlo hk1 hD1 (by rw [z]; decide) (by rw [z]; rfl)⟩ (by decide) (by decide)))
    · rw [show exN (o_lay x S p q).1 = "java/lang/IllegalArgumentException" from by rw [z]; rfl]
      exact x_Law_lay_2 (fun q => b_Law_lay_17 (r_Law_lay_20 ⟨_, rfl, HQ.no hO hlo hk1 hD1 (by rw [z]; decide) (by rw [z]; rfl)⟩ (by decide) (by decide)))
    · rw [show exN (o_lay x S p q).1 = "java/lang/IllegalStateException" from by rw [z]; rfl]
      exact x_Law_lay_3 (fun q => b_Law_lay_21 (r_Law_lay_24 ⟨_, rfl, HQ.no hO hlo hk1 hD1 (by rw [z]; decide) (by rw [z]; rfl)⟩ (by decide) (by decide)))
theorem L_note {v p : Int} (h : LwI Ω lo x k S σ) (hv : Q32 v) (hp : Q32 p) : MC Ω M_Law_note rm_Law_note (RI (HQ Ω lo x S (cd2 (o_note S v p).1) (lOf (o_note S v p).2.1) (o_note S v p).2.2 σ)) XN σ [xr (some x), xi v, xi p, xr (some (x + 792))] := by
  have hlo := h.1.1; have hD := h.1.2; have hO := h.2.2.1; have hC : Cnt S := h.2.2.2.1.1; have iV := h.2.2.2.iV; have iD := h.2.2.2.iD
  refine e_Law_note (b_Law_note_0 (c_Law_note_5 (K_note hD hC hv hp) hD.k1 (by decide) (by decide) (by decide) (by decide) (Nat.le_of_ble_eq_true rfl) (fun y s1 hq => ?_) (fun E s1 hx => ?_)))
  · obtain ⟨h0, rfl, hD1, hk1⟩ := hq
    obtain ⟨⟨g1, g2, g3⟩, -⟩ := hO.keep hk1 (dwp_out hlo)
    exact b_Law_note_8 ⟨g1, by decide, by rw [g2]; decide, r_Law_note_22 ⟨_, rfl, HQ.ok hO hlo hk1 hD1 (congrArg cd2 h0)⟩ (by decide) (by decide)⟩
  · obtain ⟨hc0, rfl, hD1, hk1⟩ := hx
    have zz : (o_note S v p).1 = 0 ∨ (o_note S v p).1 = 1 ∨ (o_note S v p).1 = 3 := c2_r
    rcases zz with z | z | z
    · exact absurd z hc0
    · rw [show exN (o_note S v p).1 = "java/lang/IndexOutOfBoundsException" from by rw [z]; rfl]
      exact x_Law_note_1 (fun q => b_Law_note_13 (r_Law_note_16 ⟨_, rfl, HQ.no hO hlo hk1 hD1 (by rw [z]; decide) (by rw [z]; rfl)⟩ (by decide) (by decide)))
    · rw [show exN (o_note S v p).1 = "java/lang/IllegalStateException" from by rw [z]; rfl]
      exact x_Law_note_2 (fun q => b_Law_note_17 (r_Law_note_20 ⟨_, rfl, HQ.no hO hlo hk1 hD1 (by rw [z]; decide) (by rw [z]; rfl)⟩ (by decide) (by decide)))
theorem L_review {v w : Int} (h : LwI Ω lo x k S σ) (hv : Q32 v) (hw : Q32 w) : MC Ω M_Law_review rm_Law_review (RI (HQ Ω lo x S (cd2 (o_review S v w).1) (lOf (o_review S v w).2.1) (o_review S v w).2.2 σ)) XN σ [xr (some x), xi v, xi w, xr (some (x + 792))] := by
  have hlo := h.1.1; have hD := h.1.2; have hO := h.2.2.1; have hC : Cnt S := h.2.2.2.1.1; have iV := h.2.2.2.iV; have iD := h.2.2.2.iD
  refine e_Law_review (b_Law_review_0 (c_Law_review_5 (K_review hD hC hv hw) hD.k1 (by decide) (by decide) (by decide) (by decide) (Nat.le_of_ble_eq_true rfl) (fun y s1 hq => ?_) (fun E s1 hx => ?_)))
  · obtain ⟨h0, rfl, hD1, hk1⟩ := hq
    obtain ⟨⟨g1, g2, g3⟩, -⟩ := hO.keep hk1 (dwp_out hlo)
    exact b_Law_review_8 ⟨g1, by decide, by rw [g2]; decide, r_Law_review_22 ⟨_, rfl, HQ.ok hO hlo hk1 hD1 (congrArg cd2 h0)⟩ (by decide) (by decide)⟩
  · obtain ⟨hc0, rfl, hD1, hk1⟩ := hx
    have zz : (o_review S v w).1 = 0 ∨ (o_review S v w).1 = 1 ∨ (o_review S v w).1 = 3 := c2_r
    rcases zz with z | z | z
    · exact absurd z hc0
    · rw [show exN (o_review S v w).1 = "java/lang/IndexOutOfBoundsException" from by rw [z]; rfl]
      exact x_Law_review_1 (fun q => b_Law_review_13 (r_Law_review_16 ⟨_, rfl, HQ.no hO hlo hk1 hD1 (by rw [z]; decide) (by rw [z]; rfl)⟩ (by decide) (by decide)))
    · rw [show exN (o_review S v w).1 = "java/lang/IllegalStateException" from by rw [z]; rfl]
      exact x_Law_review_2 (fun q => b_Law_review_17 (r_Law_review_20 ⟨_, rfl, HQ.no hO hlo hk1 hD1 (by rw [z]; decide) (by rw [z]; rfl)⟩ (by decide) (by decide)))
theorem L_verdict {q p g : Int} (h : LwI Ω lo x k S σ) (hq : Q32 q) (hp : Q32 p) (hg : Q32 g) : MC Ω M_Law_verdict rm_Law_verdict (RI (HQ Ω lo x S (cd2 (o_verdict S q p g).1) (lOf (o_verdict S q p g).2.1) (o_verdict S q p g).2.2 σ)) XN σ [xr (some x), xi q, xi p, xi g, xr (some (x + 792))] := by
  have hlo := h.1.1; have hD := h.1.2; have hO := h.2.2.1; have hC : Cnt S := h.2.2.2.1.1; have iV := h.2.2.2.iV; have iD := h.2.2.2.iD
  refine e_Law_verdict (b_Law_verdict_0 (c_Law_verdict_7 (K_verdict hD hC (fun r hr => (h.2.2.2.2.2.2.2.2.2 r hr).1) hq hp hg) hD.k1 (by decide) (by decide) (by decide) (by decide) (Nat.le_of_ble_eq_true rfl) (fun y s1 hq => ?_) (fun E s1 hx => ?_)))
  · obtain ⟨h0, rfl, hD1, hk1⟩ := hq
    obtain ⟨⟨g1, g2, g3⟩, -⟩ := hO.keep hk1 (dwp_out hlo)
    exact b_Law_verdict_10 ⟨g1, by decide, by rw [g2]; decide, r_Law_verdict_24 ⟨_, rfl, HQ.ok hO hlo hk1 hD1 (congrArg cd2 h0)⟩ (by decide) (by decide)⟩
  · obtain ⟨hc0, rfl, hD1, hk1⟩ := hx
    have zz : (o_verdict S q p g).1 = 0 ∨ (o_verdict S q p g).1 = 1 ∨ (o_verdict S q p g).1 = 3 := c2_r
    rcases zz with z | z | z
    · exact absurd z hc0
    · rw [show exN (o_verdict S q p g).1 = "java/lang/IndexOutOfBoundsException" from by rw [z]; rfl]
      exact x_Law_verdict_1 (fun q => b_Law_verdict_15 (r_Law_verdict_18 ⟨_, rfl, HQ.no hO hlo hk1 hD1 (by rw [z]; decide) (by rw [z]; rfl)⟩ (by decide) (by decide)))
    · rw [show exN (o_verdict S q p g).1 = "java/lang/IllegalStateException" from by rw [z]; rfl]
      exact x_Law_verdict_2 (fun q => b_Law_verdict_19 (r_Law_verdict_22 ⟨_, rfl, HQ.no hO hlo hk1 hD1 (by rw [z]; decide) (by rw [z]; rfl)⟩ (by decide) (by decide)))
theorem L_renew {q v : Int} (h : LwI Ω lo x k S σ) (hq : Q32 q) (hv : Q32 v) : MC Ω M_Law_renew rm_Law_renew (RI (HQ Ω lo x S (cd2 (o_renew S q v).1) (lOf (o_renew S q v).2.1) (o_renew S q v).2.2 σ)) XN σ [xr (some x), xi q, xi v, xr (some (x + 792))] := by
  have hlo := h.1.1; have hD := h.1.2; have hO := h.2.2.1; have hC : Cnt S := h.2.2.2.1.1; have iV := h.2.2.2.iV; have iD := h.2.2.2.iD
  refine e_Law_renew (b_Law_renew_0 (c_Law_renew_5 (K_renew hD hC (fun r hr => (h.2.2.2.2.2.2.2.2.2 r hr).1) h.2.2.2.2.2.1.2.2.1 hq hv) hD.k1 (by decide) (by decide) (by decide) (by decide) (Nat.le_of_ble_eq_true rfl) (fun y s1 hq => ?_) (fun E s1 hx => ?_)))
  · obtain ⟨h0, rfl, hD1, hk1⟩ := hq
    obtain ⟨⟨g1, g2, g3⟩, -⟩ := hO.keep hk1 (dwp_out hlo)
    exact b_Law_renew_8 ⟨g1, by decide, by rw [g2]; decide, r_Law_renew_22 ⟨_, rfl, HQ.ok hO hlo hk1 hD1 (congrArg cd2 h0)⟩ (by decide) (by decide)⟩
  · obtain ⟨hc0, rfl, hD1, hk1⟩ := hx
    have zz : (o_renew S q v).1 = 0 ∨ (o_renew S q v).1 = 1 ∨ (o_renew S q v).1 = 3 := c2_r
    rcases zz with z | z | z
    · exact absurd z hc0
    · rw [show exN (o_renew S q v).1 = "java/lang/IndexOutOfBoundsException" from by rw [z]; rfl]
      exact x_Law_renew_1 (fun q => b_Law_renew_13 (r_Law_renew_16 ⟨_, rfl, HQ.no hO hlo hk1 hD1 (by rw [z]; decide) (by rw [z]; rfl)⟩ (by decide) (by decide)))
    · rw [show exN (o_renew S q v).1 = "java/lang/IllegalStateException" from by rw [z]; rfl]
      exact x_Law_renew_2 (fun q => b_Law_renew_17 (r_Law_renew_20 ⟨_, rfl, HQ.no hO hlo hk1 hD1 (by rw [z]; decide) (by rw [z]; rfl)⟩ (by decide) (by decide)))
theorem L_land {q : Int} (h : LwI Ω lo x k S σ) (hq : Q32 q) : MC Ω M_Law_land rm_Law_land (RI (HQ Ω lo x S (cd2 (o_land S q).1) (lOf (o_land S q).2.1) (o_land S q).2.2 σ)) XN σ [xr (some x), xi q, xr (some (x + 792))] := by
  have hlo := h.1.1; have hD := h.1.2; have hO := h.2.2.1; have hC : Cnt S := h.2.2.2.1.1; have iV := h.2.2.2.iV; have iD := h.2.2.2.iD
  refine e_Law_land (b_Law_land_0 (c_Law_land_4 (K_land hD hC (fun r hr => (h.2.2.2.2.2.2.2.2.2 r hr).2.2) hq) hD.k1 (by decide) (by decide) (by decide) (by decide) (Nat.le_of_ble_eq_true rfl) (fun y s1 hq => ?_) (fun E s1 hx => ?_)))
  · obtain ⟨h0, rfl, hD1, hk1⟩ := hq
    obtain ⟨⟨g1, g2, g3⟩, -⟩ := hO.keep hk1 (dwp_out hlo)
    exact b_Law_land_7 ⟨g1, by decide, by rw [g2]; decide, r_Law_land_19 ⟨_, rfl, HQ.ok hO hlo hk1 hD1 (congrArg cd2 h0)⟩ (by decide) (by decide)⟩
  · obtain ⟨hc0, rfl, hD1, hk1⟩ := hx
    have zz : (o_land S q).1 = 0 ∨ (o_land S q).1 = 1 ∨ (o_land S q).1 = 3 := c2_r
    rcases zz with z | z | z
    · exact absurd z hc0
    · rw [show exN (o_land S q).1 = "java/lang/IndexOutOfBoundsException" from by rw [z]; rfl]
      exact x_Law_land_1 (fun q => b_Law_land_12 (r_Law_land_14 ⟨_, rfl, HQ.no hO hlo hk1 hD1 (by rw [z]; decide) (by rw [z]; rfl)⟩ (by decide) (by decide)))
    · rw [show exN (o_land S q).1 = "java/lang/IllegalStateException" from by rw [z]; rfl]
      exact x_Law_land_2 (fun q => b_Law_land_15 (r_Law_land_17 ⟨_, rfl, HQ.no hO hlo hk1 hD1 (by rw [z]; decide) (by rw [z]; rfl)⟩ (by decide) (by decide)))
theorem L_reviewState {v : Int} (h : LwI Ω lo x k S σ) (hv : Q32 v) : MC Ω M_Law_reviewState rm_Law_reviewState (RI (HQ Ω lo x S (c1 (0 ≤ v ∧ v < (sR S).length)) (lOf (stR ((sR S).getD v.toNat rev0).2.2.2 ((sR S).getD v.toNat rev0).2.2.1)) S σ)) XN σ [xr (some x), xi v, xr (some (x + 792))] := by
  have hlo := h.1.1; have hD := h.1.2; have hO := h.2.2.1; have hC : Cnt S := h.2.2.2.1.1; have iV := h.2.2.2.iV; have iD := h.2.2.2.iD
  refine e_Law_reviewState (b_Law_reviewState_0 (c_Law_reviewState_4 (K_reviewState hD hC hv) hD.k1 (by decide) (by decide) (by decide) (by decide) (Nat.le_of_ble_eq_true rfl) (fun y s1 hq => ?_) (fun E s1 hx => ?_)))
  · obtain ⟨h0, rfl, hD1, hk1⟩ := hq
    obtain ⟨⟨g1, g2, g3⟩, -⟩ := hO.keep hk1 (dwp_out hlo)
    exact b_Law_reviewState_7 ⟨g1, by decide, by rw [g2]; decide, r_Law_reviewState_16 ⟨_, rfl, HQ.ok hO hlo hk1 hD1 h0⟩ (by decide) (by decide)⟩
  · obtain ⟨hc0, rfl, hD1, hk1⟩ := hx
    have zz : (c1 (0 ≤ v ∧ v < (sR S).length)) = 0 ∨ (c1 (0 ≤ v ∧ v < (sR S).length)) = 1 := c1_r
    rcases zz with z | z
    · exact absurd z hc0
    · rw [show exN (c1 (0 ≤ v ∧ v < (sR S).length)) = "java/lang/IndexOutOfBoundsException" from by rw [z]; rfl]
      exact x_Law_reviewState_1 (fun q => b_Law_reviewState_12 (r_Law_reviewState_14 ⟨_, rfl, HQ.no hO hlo hk1 hD1 (by rw [z]; decide) (by rw [z]; rfl)⟩ (by decide) (by decide)))
end LWH
