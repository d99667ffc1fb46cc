/-! BY HAND: Draft, how two texts are woven -/
def alk (F S B : List (Int64 × Int)) (c : Cnl) (i j : Nat) : Prop := rowEq (t3 F S B i) (t3 F S B j) (cnF c i) (cnT c i) (cnF c j) (cnT c j)
noncomputable def wpT (F S B T : List (Int64 × Int)) (c : Cnl) : List (Int64 × Int) := @ite _ (alk F S B c 0 2) (Classical.propDecidable _) (T ++ slice S (cnF c 1) (cnT c 1)) (@ite _ (alk F S B c 1 2 ∨ alk F S B c 1 0) (Classical.propDecidable _) (T ++ slice F (cnF c 0) (cnT c 0)) T)
noncomputable def wpC (F S B : List (Int64 × Int)) (cl : List Cnl) (c : Cnl) : List Cnl := @ite _ (alk F S B c 0 2 ∨ alk F S B c 1 2 ∨ alk F S B c 1 0) (Classical.propDecidable _) cl (cl ++ [c])
section DRW
variable {Ω : Om} {σ0 : Sto} {a f s b q : Nat} {T F S B : List (Int64 × Int)} {cl : List Cnl} {c : Cnl}
abbrev Tx3 (σ : Sto) (f s b : Nat) (F S B : List (Int64 × Int)) : Prop := Tx σ f F ∧ Tx σ s S ∧ Tx σ b B
theorem Tx3.at {σ : Sto} (h : Tx3 σ f s b F S B) (i : Nat) : Tx σ (t3 f s b i) (t3 F S B i) := by
  unfold t3
  by_cases e : i = 0
  · rw [if_pos e, if_pos e]; exact h.1
  · by_cases e1 : i = 1
    · rw [if_neg e, if_pos e1, if_neg e, if_pos e1]; exact h.2.1
    · rw [if_neg e, if_neg e1, if_neg e, if_neg e1]; exact h.2.2
theorem Tx3.keep {σ σ' : Sto} {P : Nat → Prop} (h : Tx3 σ f s b F S B) (k : Keep σ σ' P) (d1 : ∀ q, f ≤ q → q ≤ f + 2 → ¬ P q) (d2 : ∀ q, s ≤ q → q ≤ s + 2 → ¬ P q) (d3 : ∀ q, b ≤ q → q ≤ b + 2 → ¬ P q) : Tx3 σ' f s b F S B := ⟨h.1.keep k d1, h.2.1.keep k d2, h.2.2.keep k d3⟩
theorem DO3 (hf : DO a f) (hs : DO a s) (hb : DO a b) (i : Nat) : DO a (t3 f s b i) := by
  unfold t3
  by_cases e : i = 0
  · rw [if_pos e]; exact hf
  · by_cases e1 : i = 1
    · rw [if_neg e, if_pos e1]; exact hs
    · rw [if_neg e, if_neg e1]; exact hb
theorem k_Drf_isAlike {σ : Sto} {i j : Nat} (hS : DrS σ a) (hT : DrT σ a f s b) (h3 : Tx3 σ f s b F S B) (hc : CfV σ q c) (hb : CnB c F S B) (hi : i ≤ 2) (hj : j ≤ 2) : MC Ω M_Drf_isAlike rm_Drf_isAlike (RI fun r σ' => σ' = σ ∧ Bz r (alk F S B c i j)) XN σ [xr (some a), xr (some q), xi i, xi j] := by
  obtain ⟨h1, h2, g3, h4, h5, h6, h7, h8, h9, h10, h11⟩ := id hc
  have bi := hb.at i
  have bj := hb.at j
  have li := (h3.at i).2.2.2.2.2.2.2.2.2.1
  have lj := (h3.at j).2.2.2.2.2.2.2.2.2.1
  refine e_Drf_isAlike (b_Drf_isAlike_0 ?_)
  refine c_Drf_isAlike_2 (k_Drf_sourceOf hS hT hi) hS.2.1 (by decide) (by decide) (by first | decide | omega) (by first | decide | omega) (Nat.le_of_ble_eq_true rfl) (fun z σ1 hq => ?_) (fun _ _ hx => hx.elim)
  obtain ⟨rfl, rfl⟩ := hq
  refine b_Drf_isAlike_5 ⟨h2, _, g3, h5, by omega, by rw [h7]; omega, fun _ => ⟨_, h4, h6, by omega, by rw [h8]; omega, fun _ => ?_⟩⟩
  rw [show aI σ1 (q + 1) ((i : Int)).toNat = cnF c i from (h11 i (by omega)).1, show aI σ1 (q + 2) ((i : Int)).toNat = cnT c i from (h11 i (by omega)).2]
  refine c_Drf_isAlike_19 (k_Drf_sourceOf hS hT hj) hS.2.1 (by decide) (by decide) (by first | decide | omega) (by first | decide | omega) (Nat.le_of_ble_eq_true rfl) (fun z2 σ2 hq => ?_) (fun _ _ hx => hx.elim)
  obtain ⟨rfl, rfl⟩ := hq
  refine b_Drf_isAlike_22 ⟨h2, _, g3, h5, by omega, by rw [h7]; omega, fun _ => ⟨_, h4, h6, by omega, by rw [h8]; omega, fun _ => ?_⟩⟩
  rw [show aI σ2 (q + 1) ((j : Int)).toNat = cnF c j from (h11 j (by omega)).1, show aI σ2 (q + 2) ((j : Int)).toNat = cnT c j from (h11 j (by omega)).2]
  refine c_Drf_isAlike_34 (k_Txt_isRowLike (h3.at i) (h3.at j) (by omega) (by omega) (by omega) (by omega)) (h3.at i).2.1 (by decide) (by decide) (by first | decide | omega) (by first | decide | omega) (Nat.le_of_ble_eq_true rfl) (fun z3 σ3 hq => ?_) (fun _ _ hx => hx.elim)
  obtain ⟨rfl, hz⟩ := hq
  exact r_Drf_isAlike_37 (by rcases hz with ⟨e, _⟩ | ⟨e, _⟩ <;> simp [e]) ⟨_, rfl, rfl, hz⟩ (by decide) (by decide)
theorem k_Drf_putPiece {σ : Sto} {i pl : Nat} (hS : DrS σ a) (hT : DrT σ a f s b) (h3 : Tx3 σ f s b F S B) (hX : Tx σ (a + 1) T) (hc : CfV σ q c) (hb : CnB c F S B) (hi : i ≤ 2) (hpl : pl ≤ T.length) (hl : T.length + (cnT c i - cnF c i) ≤ 40) (df : DO a f) (ds : DO a s) (db : DO a b) (hq : ∀ x ∈ t3 F S B i, Q32 x.2) : MC Ω M_Drf_putPiece rm_Drf_putPiece (RI fun r σ' => r = pl + (cnT c i - cnF c i) ∧ Tx σ' (a + 1) (T.take pl ++ slice (t3 F S B i) (cnF c i) (cnT c i) ++ T.drop pl) ∧ Keep σ σ' (In (a + 1) (a + 4))) XN σ [xr (some a), xr (some q), xi i, xi pl] := by
  obtain ⟨h1, h2, g3, h4, h5, h6, h7, h8, h9, h10, h11⟩ := id hc
  have bi := hb.at i
  have di := DO3 df ds db i
  refine e_Drf_putPiece (b_Drf_putPiece_0 ⟨hS.2.1, _, hS.2.2.1, ?_⟩)
  refine c_Drf_putPiece_7 (k_Drf_sourceOf hS hT hi) hS.2.1 (by decide) (by decide) (by first | decide | omega) (by first | decide | omega) (Nat.le_of_ble_eq_true rfl) (fun z σ1 hq => ?_) (fun _ _ hx => hx.elim)
  obtain ⟨rfl, rfl⟩ := hq
  refine b_Drf_putPiece_10 ⟨h2, _, g3, h5, by omega, by rw [h7]; omega, fun _ => ⟨_, h4, h6, by omega, by rw [h8]; omega, fun _ => ?_⟩⟩
  rw [show aI σ1 (q + 1) ((i : Int)).toNat = cnF c i from (h11 i (by omega)).1, show aI σ1 (q + 2) ((i : Int)).toNat = cnT c i from (h11 i (by omega)).2]
  refine c_Drf_putPiece_22 (k_Txt_putRow (p := (pl : Int)) hX (h3.at i) (by omega) bi.1 bi.2.1 bi.2.2 hl (by omega) hq) hX.2.1 (by decide) (by decide) (by first | decide | omega) (by first | decide | omega) (Nat.le_of_ble_eq_true rfl) (fun z2 σ2 hq => ?_) (fun _ _ hx => hx.elim)
  obtain ⟨rfl, hX2, hk2⟩ := hq
  exact r_Drf_putPiece_25 ⟨_, rfl, rfl, hX2, hk2⟩ (by decide) (by decide)
theorem cf_set {σ : Sto} {c0 : Cnl} {ff ft sf st bf bt pl : Int} (h : CfV σ q c0) : CfV (uI (uI (vI (vI (vI (vI (vI (vI σ (q + 1) 0 ff) (q + 2) 0 ft) (q + 1) 1 sf) (q + 2) 1 st) (q + 1) 2 bf) (q + 2) 2 bt) 130 q pl) 131 q 0) q ((ff, ft), (sf, st), (bf, bt), pl, 0) := by
  obtain ⟨h1, h2, g3, h4, h5, h6, h7, h8, h9, h10, h11⟩ := h
  unfold CfV Cf
  simp only [fI_uI, fL_uI, fR_uI, aI_uI, aL_uI, aR_uI, sK_uI, sZ_uI, sN_uI, fI_uL, fL_uL, fR_uL, aI_uL, aL_uL, aR_uL, sK_uL, sZ_uL, sN_uL, fI_uR, fL_uR, fR_uR, aI_uR, aL_uR, aR_uR, sK_uR, sZ_uR, sN_uR, fI_vI, fL_vI, fR_vI, aI_vI, aL_vI, aR_vI, sK_vI, sZ_vI, sN_vI, fI_vL, fL_vL, fR_vL, aI_vL, aL_vL, aR_vL, sK_vL, sZ_vL, sN_vL, fI_vR, fL_vR, fR_vR, aI_vR, aL_vR, aR_vR, sK_vR, sZ_vR, sN_vR, fI_nX, fL_nX, fR_nX, aI_nX, aL_nX, aR_nX, sK_nX, sZ_nX, sN_nX, fI_nO, fL_nO, fR_nO, aI_nO, aL_nO, aR_nO, sK_nO, sZ_nO, sN_nO]
  refine ⟨h1, h2, g3, h4, h5, h6, h7, h8, ?_, ?_, fun i hi => ?_⟩
  · rw [if_neg (by omega), if_pos ⟨trivial, trivial⟩]
  · rw [if_pos ⟨trivial, trivial⟩]
  · have hc : i = 0 ∨ i = 1 ∨ i = 2 := by omega
    rcases hc with rfl | rfl | rfl <;> simp [cnF, cnT]
theorem k_Drf_cut {σ : Sto} {ff ft sf st bf bt : Nat} (hS : DrS σ a) (hC : DrC σ a cl) (hX : Tx σ (a + 1) T) (hn : cl.length ≤ 20) (b1 : ff ≤ 40 ∧ ft ≤ 40 ∧ sf ≤ 40 ∧ st ≤ 40 ∧ bf ≤ 40 ∧ bt ≤ 40) : MC Ω M_Drf_cut rm_Drf_cut (RR fun r σ' => r = some (a + 65 + 3 * cl.length) ∧ CfV σ' (a + 65 + 3 * cl.length) ((ff, ft), (sf, st), (bf, bt), (T.length : Int), 0) ∧ Keep σ σ' (In (a + 65 + 3 * cl.length) (a + 68 + 3 * cl.length)) ∧ Shp σ σ') XN σ [xr (some a), xi ff, xi ft, xi sf, xi st, xi bf, xi bt] := by
  obtain ⟨h0, h1, f0, f1, f2, f3, f4, f5, k1, z1, r1, c1, c2⟩ := id hS
  obtain ⟨n1, n2, n3⟩ := id hC
  obtain ⟨c0, hc0, _⟩ := n3 cl.length (by omega)
  obtain ⟨w1, w2, g3, w4, w5, w6, w7, w8, w9, w10, w11⟩ := id hc0
  have ra := r1 cl.length (by omega)
  have em : minI (fI σ 201 a) 20 = (cl.length : Int) := by rw [n1, minI, if_neg (by omega)]
  refine e_Drf_cut (b_Drf_cut_0 ⟨h1, _, f2, ?_⟩)
  rw [em, show ((cl.length : Int)).toNat = cl.length from rfl, ra]
  refine fun q1 => ⟨q1, by decide, by decide, Nat.le_of_ble_eq_true rfl, by decide, by decide, k1, by omega, by omega, _, rfl, w2, _, g3, w5, by decide, by rw [w7]; decide, by omega, _, rfl, w2, _, w4, w6, by decide, by rw [w8]; decide, by omega, _, rfl, w2, _, g3, w5, by decide, by rw [w7]; decide, by omega, _, rfl, w2, _, w4, w6, by decide, by rw [w8]; decide, by omega, _, rfl, w2, _, g3, w5, by decide, by rw [w7]; decide, by omega, _, rfl, w2, _, w4, w6, by decide, by rw [w8]; decide, by omega, _, f0, ?_⟩
  have kk : Keep σ (vI (vI (vI (vI (vI (vI σ (a + 65 + 3 * cl.length + 1) 0 ff) (a + 65 + 3 * cl.length + 2) 0 ft) (a + 65 + 3 * cl.length + 1) 1 sf) (a + 65 + 3 * cl.length + 2) 1 st) (a + 65 + 3 * cl.length + 1) 2 bf) (a + 65 + 3 * cl.length + 2) 2 bt) (In (a + 65 + 3 * cl.length) (a + 68 + 3 * cl.length)) := (Keep.vI (by omega)).trans ((Keep.vI (by omega)).trans ((Keep.vI (by omega)).trans ((Keep.vI (by omega)).trans ((Keep.vI (by omega)).trans (Keep.vI (by omega))))))
  have hX2 := hX.keep kk (fun q h1 h2 h3 => by omega)
  refine c_Drf_cut_73 (k_Txt_size hX2) hX2.2.1 (by decide) (by decide) (by first | decide | omega) (by first | decide | omega) (Nat.le_of_ble_eq_true rfl) (fun z σ1 hq => ?_) (fun _ _ hx => hx.elim)
  obtain ⟨rfl, rfl⟩ := hq
  have hl := hX.2.2.2.2.2.2.2.2.2.1
  refine b_Drf_cut_76 ⟨w2, by omega, w2, ?_⟩
  refine r_Drf_cut_87 ⟨_, rfl, rfl, cf_set hc0, kk.trans ((Keep.uI (by omega)).trans (Keep.uI (by omega))), Shp.vI.trans (Shp.vI.trans (Shp.vI.trans (Shp.vI.trans (Shp.vI.trans (Shp.vI.trans (Shp.uI.trans Shp.uI))))))⟩ (by decide) (by decide)
end DRW
