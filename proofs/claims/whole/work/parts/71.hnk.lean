/-! BY HAND: Hunk, the rest -/
section HNK2
variable {Ω : Om} {σ0 : Sto} {h t lo : Nat} {H : Hun} {T : List (Int64 × Int)}
def hnPart (H : Hun) (p : Int) : Int := if p = 0 then hnP H else if p = 1 then (hnG H).length else if p = 2 then (hnF H).length else if p = 3 then (hnA H).length else (hnB H).length
theorem k_Hnk_part {σ : Sto} {p : Int} (hH : Hk σ lo h H) (hp : 0 ≤ p ∧ p ≤ 4) : MC Ω M_Hnk_part rm_Hnk_part (RI fun r σ' => σ' = σ ∧ r = hnPart H p) XN σ [xr (some h), xi p] := by
  obtain ⟨h1, h2, h3, h4, h5, h6, a, g, f, b, r1, r2, r3, r4, la, lg, lf, lb⟩ := hH
  have za := la.2.2.2.1
  have zg := lg.2.2.2.1
  have zf := lf.2.2.2.1
  have zb := lb.2.2.2.1
  refine e_Hnk_part (b_Hnk_part_0 ?_)
  have hc : p = 0 ∨ p = 1 ∨ p = 2 ∨ p = 3 ∨ p = 4 := by omega
  rcases hc with rfl | rfl | rfl | rfl | rfl
  · refine Aw.swIn (tgt := 32) (off := 31) ⟨by decide, by decide⟩ (by decide) (by decide) rfl (by decide) d_Hnk_part_1 ?_
    exact b_Hnk_part_32 ⟨h3, fun _ => r_Hnk_part_36 ⟨_, rfl, rfl, h4⟩ (by decide) (by decide)⟩
  · refine Aw.swIn (tgt := 37) (off := 36) ⟨by decide, by decide⟩ (by decide) (by decide) rfl (by decide) d_Hnk_part_1 ?_
    exact b_Hnk_part_37 ⟨h3, _, r2, lg.2.2.1, fun _ => r_Hnk_part_42 ⟨_, rfl, rfl, by rw [zg]; rfl⟩ (by decide) (by decide)⟩
  · refine Aw.swIn (tgt := 43) (off := 42) ⟨by decide, by decide⟩ (by decide) (by decide) rfl (by decide) d_Hnk_part_1 ?_
    exact b_Hnk_part_43 ⟨h3, _, r3, lf.2.2.1, fun _ => r_Hnk_part_48 ⟨_, rfl, rfl, by rw [zf]; rfl⟩ (by decide) (by decide)⟩
  · refine Aw.swIn (tgt := 49) (off := 48) ⟨by decide, by decide⟩ (by decide) (by decide) rfl (by decide) d_Hnk_part_1 ?_
    exact b_Hnk_part_49 ⟨h3, _, r1, la.2.2.1, fun _ => r_Hnk_part_54 ⟨_, rfl, rfl, by rw [za]; rfl⟩ (by decide) (by decide)⟩
  · refine Aw.swOut (tgt := 55) ⟨by decide, by decide⟩ (by decide) (by decide) d_Hnk_part_1 ?_
    exact b_Hnk_part_55 ⟨h3, _, r4, lb.2.2.1, fun _ => r_Hnk_part_60 ⟨_, rfl, rfl, by rw [zb]; rfl⟩ (by decide) (by decide)⟩
theorem k_Hnk_init {σ : Sto} {p o a g f b : Nat} {A G F B : List Int64} (hk : sK σ h = 6) (hlo : lo ≤ h) (hn : h < sN σ) (la : La σ lo a A) (lg : La σ lo g G) (lf : La σ lo f F) (lb : La σ lo b B) (hb : HnB (p, o, A, G, F, B)) : MC Ω M_Hnk_init rm_Hnk_init (RV fun σ' => Hk σ' lo h (p, o, A, G, F, B) ∧ sN σ' = sN σ ∧ Keep σ σ' (At1 h)) XN σ [xr (some h), xi p, xi o, xr (some a), xr (some g), xr (some f), xr (some b)] := by
  have hb2 := hb
  obtain ⟨b1, b2, b3, b4, b5, b6⟩ := hb2
  have b1' : p ≤ 20 := b1
  have b2' : o ≤ 20 := b2
  refine e_Hnk_init (b_Hnk_init_0 ⟨by decide, Nat.le_of_ble_eq_true rfl, hk, by omega, by omega, ?_⟩)
  refine r_Hnk_init_37 ⟨rfl, ⟨hlo, hn, hk, ?_, ?_, hb, a, g, f, b, ?_, ?_, ?_, ?_, la, lg, lf, lb⟩, rfl, ?_⟩ (by decide) (by decide)
  · simp only [fI_uI, fL_uI, fR_uI, aI_uI, aL_uI, aR_uI, sK_uI, sZ_uI, sN_uI, fI_uL, fL_uL, fR_uL, aI_uL, aL_uL, aR_uL, sK_uL, sZ_uL, sN_uL, fI_uR, fL_uR, fR_uR, aI_uR, aL_uR, aR_uR, sK_uR, sZ_uR, sN_uR, fI_vI, fL_vI, fR_vI, aI_vI, aL_vI, aR_vI, sK_vI, sZ_vI, sN_vI, fI_vL, fL_vL, fR_vL, aI_vL, aL_vL, aR_vL, sK_vL, sZ_vL, sN_vL, fI_vR, fL_vR, fR_vR, aI_vR, aL_vR, aR_vR, sK_vR, sZ_vR, sN_vR, fI_nX, fL_nX, fR_nX, aI_nX, aL_nX, aR_nX, sK_nX, sZ_nX, sN_nX, fI_nO, fL_nO, fR_nO, aI_nO, aL_nO, aR_nO, sK_nO, sZ_nO, sN_nO]; rw [if_neg (by omega), if_pos ⟨trivial, trivial⟩]
  · simp only [fI_uI, fL_uI, fR_uI, aI_uI, aL_uI, aR_uI, sK_uI, sZ_uI, sN_uI, fI_uL, fL_uL, fR_uL, aI_uL, aL_uL, aR_uL, sK_uL, sZ_uL, sN_uL, fI_uR, fL_uR, fR_uR, aI_uR, aL_uR, aR_uR, sK_uR, sZ_uR, sN_uR, fI_vI, fL_vI, fR_vI, aI_vI, aL_vI, aR_vI, sK_vI, sZ_vI, sN_vI, fI_vL, fL_vL, fR_vL, aI_vL, aL_vL, aR_vL, sK_vL, sZ_vL, sN_vL, fI_vR, fL_vR, fR_vR, aI_vR, aL_vR, aR_vR, sK_vR, sZ_vR, sN_vR, fI_nX, fL_nX, fR_nX, aI_nX, aL_nX, aR_nX, sK_nX, sZ_nX, sN_nX, fI_nO, fL_nO, fR_nO, aI_nO, aL_nO, aR_nO, sK_nO, sZ_nO, sN_nO]; rw [if_pos ⟨trivial, trivial⟩]
  · simp only [fI_uI, fL_uI, fR_uI, aI_uI, aL_uI, aR_uI, sK_uI, sZ_uI, sN_uI, fI_uL, fL_uL, fR_uL, aI_uL, aL_uL, aR_uL, sK_uL, sZ_uL, sN_uL, fI_uR, fL_uR, fR_uR, aI_uR, aL_uR, aR_uR, sK_uR, sZ_uR, sN_uR, fI_vI, fL_vI, fR_vI, aI_vI, aL_vI, aR_vI, sK_vI, sZ_vI, sN_vI, fI_vL, fL_vL, fR_vL, aI_vL, aL_vL, aR_vL, sK_vL, sZ_vL, sN_vL, fI_vR, fL_vR, fR_vR, aI_vR, aL_vR, aR_vR, sK_vR, sZ_vR, sN_vR, fI_nX, fL_nX, fR_nX, aI_nX, aL_nX, aR_nX, sK_nX, sZ_nX, sN_nX, fI_nO, fL_nO, fR_nO, aI_nO, aL_nO, aR_nO, sK_nO, sZ_nO, sN_nO]; rw [if_neg (by omega), if_neg (by omega), if_neg (by omega), if_pos ⟨trivial, trivial⟩]
  · simp only [fI_uI, fL_uI, fR_uI, aI_uI, aL_uI, aR_uI, sK_uI, sZ_uI, sN_uI, fI_uL, fL_uL, fR_uL, aI_uL, aL_uL, aR_uL, sK_uL, sZ_uL, sN_uL, fI_uR, fL_uR, fR_uR, aI_uR, aL_uR, aR_uR, sK_uR, sZ_uR, sN_uR, fI_vI, fL_vI, fR_vI, aI_vI, aL_vI, aR_vI, sK_vI, sZ_vI, sN_vI, fI_vL, fL_vL, fR_vL, aI_vL, aL_vL, aR_vL, sK_vL, sZ_vL, sN_vL, fI_vR, fL_vR, fR_vR, aI_vR, aL_vR, aR_vR, sK_vR, sZ_vR, sN_vR, fI_nX, fL_nX, fR_nX, aI_nX, aL_nX, aR_nX, sK_nX, sZ_nX, sN_nX, fI_nO, fL_nO, fR_nO, aI_nO, aL_nO, aR_nO, sK_nO, sZ_nO, sN_nO]; rw [if_neg (by omega), if_neg (by omega), if_pos ⟨trivial, trivial⟩]
  · simp only [fI_uI, fL_uI, fR_uI, aI_uI, aL_uI, aR_uI, sK_uI, sZ_uI, sN_uI, fI_uL, fL_uL, fR_uL, aI_uL, aL_uL, aR_uL, sK_uL, sZ_uL, sN_uL, fI_uR, fL_uR, fR_uR, aI_uR, aL_uR, aR_uR, sK_uR, sZ_uR, sN_uR, fI_vI, fL_vI, fR_vI, aI_vI, aL_vI, aR_vI, sK_vI, sZ_vI, sN_vI, fI_vL, fL_vL, fR_vL, aI_vL, aL_vL, aR_vL, sK_vL, sZ_vL, sN_vL, fI_vR, fL_vR, fR_vR, aI_vR, aL_vR, aR_vR, sK_vR, sZ_vR, sN_vR, fI_nX, fL_nX, fR_nX, aI_nX, aL_nX, aR_nX, sK_nX, sZ_nX, sN_nX, fI_nO, fL_nO, fR_nO, aI_nO, aL_nO, aR_nO, sK_nO, sZ_nO, sN_nO]; rw [if_neg (by omega), if_pos ⟨trivial, trivial⟩]
  · simp only [fI_uI, fL_uI, fR_uI, aI_uI, aL_uI, aR_uI, sK_uI, sZ_uI, sN_uI, fI_uL, fL_uL, fR_uL, aI_uL, aL_uL, aR_uL, sK_uL, sZ_uL, sN_uL, fI_uR, fL_uR, fR_uR, aI_uR, aL_uR, aR_uR, sK_uR, sZ_uR, sN_uR, fI_vI, fL_vI, fR_vI, aI_vI, aL_vI, aR_vI, sK_vI, sZ_vI, sN_vI, fI_vL, fL_vL, fR_vL, aI_vL, aL_vL, aR_vL, sK_vL, sZ_vL, sN_vL, fI_vR, fL_vR, fR_vR, aI_vR, aL_vR, aR_vR, sK_vR, sZ_vR, sN_vR, fI_nX, fL_nX, fR_nX, aI_nX, aL_nX, aR_nX, sK_nX, sZ_nX, sN_nX, fI_nO, fL_nO, fR_nO, aI_nO, aL_nO, aR_nO, sK_nO, sZ_nO, sN_nO]; rw [if_pos ⟨trivial, trivial⟩]
  · exact (Keep.uI (P := At1 h) rfl).trans ((Keep.uI (P := At1 h) rfl).trans ((Keep.uR (P := At1 h) rfl).trans ((Keep.uR (P := At1 h) rfl).trans ((Keep.uR (P := At1 h) rfl).trans (Keep.uR (P := At1 h) rfl)))))
def turnH (H : Hun) : Hun := (hnO H, hnP H, hnA H, hnF H, hnG H, hnB H)
theorem k_Hnk_turned {σ : Sto} (hH : Hk σ lo h H) : MC Ω M_Hnk_turned rm_Hnk_turned (RR fun r σ' => r = some (sN σ) ∧ sN σ' = sN σ + 1 ∧ Hk σ' lo (sN σ) (turnH H) ∧ Keep σ σ' No) XN σ [xr (some h)] := by
  have kp : Keep σ (nO σ 6 0) No := Keep.nO
  have hH2 := hH.keep kp (fun b _ _ z => z)
  have hlt := hH.2.1
  have hlo := hH.1
  obtain ⟨h1, h2, h3, h4, h5, h6, a, g, f, b, r1, r2, r3, r4, la, lg, lf, lb⟩ := hH2
  refine e_Hnk_turned (b_Hnk_turned_0 ⟨by decide, by decide, fun σ3 e3 => ?_⟩)
  subst e3
  refine ⟨h3, fun _ => fun _ => ⟨_, r1, _, r3, _, r2, _, r4, ?_⟩⟩
  rw [h4, h5]
  have hb : HnB (turnH H) := ⟨h6.2.1, h6.1, h6.2.2.1, h6.2.2.2.2.1, h6.2.2.2.1, h6.2.2.2.2.2⟩
  have k0 : sK (nO σ 6 0) (sN σ) = 6 := by rw [sK_nO, if_pos rfl]
  refine c_Hnk_turned_28 (k_Hnk_init (lo := lo) k0 (by omega) (Nat.lt_succ_self _) la lf lg lb hb) (by decide) (by decide) (by first | decide | omega) (by first | decide | omega) (Nat.le_of_ble_eq_true rfl) (fun σ1 hq => ?_) (fun _ _ hx => hx.elim)
  obtain ⟨hk1, hn1, kk1⟩ := hq
  refine r_Hnk_turned_31 ⟨_, rfl, rfl, hn1, hk1, ?_⟩ (by decide) (by decide)
  exact kp.tr kk1 (fun b hb hq => by omega)
theorem put_out {σ1 : Sto} {x : Nat} {v : Nat} (hH : Hk σ1 lo h H) (hx : x + (hnG H).length ≤ T.length) (hl : T.length - (hnG H).length + (hnF H).length ≤ 40) (hd : t + 2 < lo) : ∀ (d i : Nat) (σ : Sto), i + d = (hnF H).length → Tx σ t (T.take x ++ ((hnF H).take i).map (fun l => (l, (-1 : Int))) ++ T.drop (x + (hnG H).length)) → Hk σ lo h H → Keep σ0 σ (In t (t + 3)) → Aw Ω M_Hnk_putAt rm_Hnk_putAt (MF Ω rm_Hnk_putAt (RV fun σ' => Tx σ' t (ptL T x (hnG H) (hnF H)) ∧ Keep σ0 σ' (In t (t + 3))) XN) 0 0 24 [xr (some h), xr (some t), xi x, xi i] [] σ := by
  intro d
  induction d with
  | zero =>
    intro i σ hdd hT hH2 hk
    obtain ⟨h1, h2, h3, h4, h5, h6, a, g, f, b, r1, r2, r3, r4, la, lg, lf, lb⟩ := id hH2
    have hf := h6.2.2.2.2.1
    have e : i = (hnF H).length := by omega
    subst e
    refine b_Hnk_putAt_24 ⟨h3, _, r3, lf.2.2.1, ?_⟩
    rw [lf.2.2.2.1]
    refine fun _ => ⟨by omega, by omega, fun _ => ?_, fun c => absurd (Int.le_refl _) c⟩
    refine r_Hnk_putAt_53 ⟨rfl, ?_, hk⟩ (by decide) (by decide)
    rw [List.take_length] at hT
    exact hT
  | succ d ih =>
    intro i σ hdd hT hH2 hk
    obtain ⟨h1, h2, h3, h4, h5, h6, a, g, f, b, r1, r2, r3, r4, la, lg, lf, lb⟩ := id hH2
    have hf := h6.2.2.2.2.1
    refine b_Hnk_putAt_24 ⟨h3, _, r3, lf.2.2.1, ?_⟩
    rw [lf.2.2.2.1]
    refine fun _ => ⟨by omega, by omega, fun c => absurd c (by omega), fun _ => ⟨by omega, by omega, ?_⟩⟩
    have ef : aL σ f ((i : Int)).toNat = gx (hnF H) i := lf.2.2.2.2 i (by omega)
    rw [ef]
    have hl1 : (T.take x ++ ((hnF H).take i).map (fun l => (l, (-1 : Int)))).length = x + i := by
      rw [List.length_append, List.length_take, List.length_map, List.length_take]; omega
    have hl2 : (T.take x ++ ((hnF H).take i).map (fun l => (l, (-1 : Int))) ++ T.drop (x + (hnG H).length)).length = T.length - (hnG H).length + i := by
      rw [List.length_append, hl1, List.length_drop]; omega
    refine c_Hnk_putAt_44 (k_Txt_put hT (show (0 : Int) ≤ (x : Int) + (i : Int) by omega) (by rw [hl2]; omega) (by rw [hl2]; omega) (show Q32 (-1) by decide)) hT.2.1 (by decide) (by decide) (by first | decide | omega) (by first | decide | omega) (Nat.le_of_ble_eq_true rfl) (fun σ3 hq => ?_) (fun _ _ hx => hx.elim)
    obtain ⟨hT3, hk3⟩ := hq
    have e3 : ((x : Int) + (i : Int)).toNat = (T.take x ++ ((hnF H).take i).map (fun l => (l, (-1 : Int)))).length := by rw [hl1]; omega
    rw [e3, ins_mid] at hT3
    refine b_Hnk_putAt_47 ?_
    have lif : i < (hnF H).length := by omega
    refine ih (i + 1) σ3 (by omega) ?_ (hH2.keep hk3 (fun b h1 _ h3 => by omega)) (hk.trans hk3)
    have e4 : (hnF H).take (i + 1) = (hnF H).take i ++ [gx (hnF H) i] := by
      rw [List.take_add_one, List.getElem?_eq_getElem lif, gx_of lif]; rfl
    rw [e4, List.map_append]
    have e5 : T.take x ++ (((hnF H).take i).map (fun l => (l, (-1 : Int))) ++ [gx (hnF H) i].map (fun l => (l, (-1 : Int)))) ++ T.drop (x + (hnG H).length) = T.take x ++ ((hnF H).take i).map (fun l => (l, (-1 : Int))) ++ (gx (hnF H) i, (-1 : Int)) :: T.drop (x + (hnG H).length) := by simp
    rw [e5]
    exact hT3
theorem put_take {σ1 : Sto} {x : Nat} (hH : Hk σ1 lo h H) (hx : x + (hnG H).length ≤ T.length) (hl : T.length - (hnG H).length + (hnF H).length ≤ 40) (hd : t + 2 < lo) : ∀ (d i : Nat) (σ : Sto), i + d = (hnG H).length → Tx σ t (T.take x ++ T.drop (x + i)) → Hk σ lo h H → Keep σ0 σ (In t (t + 3)) → Aw Ω M_Hnk_putAt rm_Hnk_putAt (MF Ω rm_Hnk_putAt (RV fun σ' => Tx σ' t (ptL T x (hnG H) (hnF H)) ∧ Keep σ0 σ' (In t (t + 3))) XN) 0 0 2 [xr (some h), xr (some t), xi x, xi i] [] σ := by
  intro d
  induction d with
  | zero =>
    intro i σ hdd hT hH2 hk
    obtain ⟨h1, h2, h3, h4, h5, h6, a, g, f, b, r1, r2, r3, r4, la, lg, lf, lb⟩ := id hH2
    have hg := h6.2.2.2.1
    have e : i = (hnG H).length := by omega
    subst e
    refine b_Hnk_putAt_2 ⟨h3, _, r2, lg.2.2.1, ?_⟩
    rw [lg.2.2.2.1]
    refine fun _ => ⟨by omega, by omega, fun _ => ?_, fun c => absurd (Int.le_refl _) c⟩
    exact put_out (v := 0) hH hx hl hd (hnF H).length 0 σ (by omega) (by simpa using hT) hH2 hk
  | succ d ih =>
    intro i σ hdd hT hH2 hk
    obtain ⟨h1, h2, h3, h4, h5, h6, a, g, f, b, r1, r2, r3, r4, la, lg, lf, lb⟩ := id hH2
    have hg := h6.2.2.2.1
    refine b_Hnk_putAt_2 ⟨h3, _, r2, lg.2.2.1, ?_⟩
    rw [lg.2.2.2.1]
    refine fun _ => ⟨by omega, by omega, fun c => absurd c (by omega), fun _ => ?_⟩
    have hl1 : (T.take x).length = x := by rw [List.length_take]; omega
    refine c_Hnk_putAt_13 (k_Txt_takeOut hT (show (0 : Int) ≤ (x : Int) by omega) (by rw [List.length_append, hl1, List.length_drop]; omega)) hT.2.1 (by decide) (by decide) (by first | decide | omega) (by first | decide | omega) (Nat.le_of_ble_eq_true rfl) (fun σ3 hq => ?_) (fun _ _ hx => hx.elim)
    obtain ⟨hT3, hk3⟩ := hq
    refine b_Hnk_putAt_16 ?_
    refine ih (i + 1) σ3 (by omega) ?_ (hH2.keep hk3 (fun b h1 _ h3 => by omega)) (hk.trans hk3)
    have e2 : ((x : Int)).toNat = x := rfl
    rw [e2, List.eraseIdx_append_of_length_le (by rw [hl1]; exact Nat.le_refl _), hl1, Nat.sub_self, List.eraseIdx_zero, List.tail_drop] at hT3
    exact hT3
theorem k_Hnk_putAt {σ : Sto} {x : Nat} (hH : Hk σ lo h H) (hT : Tx σ t T) (hx : x + (hnG H).length ≤ T.length) (hl : T.length - (hnG H).length + (hnF H).length ≤ 40) (hd : t + 2 < lo) : MC Ω M_Hnk_putAt rm_Hnk_putAt (RV fun σ' => Tx σ' t (ptL T x (hnG H) (hnF H)) ∧ Keep σ σ' (In t (t + 3))) XN σ [xr (some h), xr (some t), xi x] :=
  e_Hnk_putAt (b_Hnk_putAt_0 (put_take hH hx hl hd (hnG H).length 0 σ (by omega) (by simpa using hT) hH Keep.rf))
end HNK2
