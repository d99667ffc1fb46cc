/-! BY HAND: laying a patch, by the reference: all hunks -/
/-- the class's text with lines without names, and the same one named, with its book -/
def RlT (F : List (Int64 × Int)) (w : Int) (b0 : BR) (T T' : List (Int64 × Int)) (b' : BR) (fl : Int) : Prop := nmL F w T (bkN b0) (bkA b0) (bkO b0) = (T', bkN b', bkA b', bkO b') ∧ Nm b' T' ∧ AuI b' ∧ (∀ i, i < bkN b0 → bkS b' i = bkS b0 i ∧ bkA b' i = bkA b0 i ∧ bkO b' i = bkO b0 i) ∧ (∀ (i : Nat) y, T[i]? = some y → fl ≤ (i : Int) → y.2 ≠ -1) ∧ bkN b0 ≤ bkN b'
theorem bkL_a {F : List (Int64 × Int)} {w : Int} : ∀ (ls : List Int64) (b : BR) (i : Nat), i < bkN b → bkA (bkL F w ls b) i = bkA b i ∧ bkO (bkL F w ls b) i = bkO b i
  | [], b, i, _ => ⟨rfl, rfl⟩
  | x :: ls, b, i, h => by
    have g := bkL_a (F := F) (w := w) ls (bkP b x (apA F (bkN b) (bkA b) w x) (-1)) i (by show i < bkN b + 1; omega)
    refine ⟨g.1.trans ?_, g.2.trans ?_⟩
    · show up1 (bkA b) (bkN b) _ i = _
      unfold up1; rw [if_neg (by omega)]
    · show up1 (bkO b) (bkN b) _ i = _
      unfold up1; rw [if_neg (by omega)]
theorem RlT.rf {F T : List (Int64 × Int)} {w : Int} {b : BR} (hN : Nm b T) (hA : AuI b) : RlT F w b T T b 0 :=
  ⟨nmL_named T _ _ _ (fun y hy => by have := (hN y hy).1; omega), hN, hA, fun _ _ => ⟨rfl, rfl, rfl⟩, fun i y hy _ => by have := (hN y (List.mem_of_getElem? hy)).1; omega, Nat.le_refl _⟩
theorem RlT.fst {F T T' : List (Int64 × Int)} {w fl : Int} {b b' : BR} (h : RlT F w b T T' b' fl) : T'.map (·.1) = T.map (·.1) := by
  have g := nmL_fst (F := F) (w := w) T (bkN b) (bkA b) (bkO b)
  rw [h.1] at g; exact g
theorem RlT.len {F T T' : List (Int64 × Int)} {w fl : Int} {b b' : BR} (h : RlT F w b T T' b' fl) : T'.length = T.length := by
  have := congrArg List.length h.fst
  rwa [List.length_map, List.length_map] at this
theorem RlT.step {F T T' : List (Int64 × Int)} {w fl : Int} {b0 b' : BR} {x : Nat} {g f : List Int64} (h : RlT F w b0 T T' b' fl) (hF : Nm b0 F) (hw : isP w) (hx : fl ≤ x) (hl : x + g.length ≤ T.length) (hf : ∀ l ∈ f, isLn l = true) : RlT F w b0 (ptL T x g f) (T'.take x ++ nwL (bkN b') f ++ T'.drop (x + g.length)) (bkL F w f b') ((x : Int) + f.length) := by
  obtain ⟨h1, h2, h3, h4, h5, h6⟩ := h
  have eT : T = T.take x ++ T.drop x := (List.take_append_drop x T).symm
  have nC : ∀ y ∈ T.drop x, y.2 ≠ -1 := fun y hy => by
    obtain ⟨k, hk⟩ := List.mem_iff_getElem?.mp hy
    rw [List.getElem?_drop] at hk
    exact h5 _ y hk (by omega)
  have nD : ∀ y ∈ T.drop (x + g.length), y.2 ≠ -1 := fun y hy => by
    obtain ⟨k, hk⟩ := List.mem_iff_getElem?.mp hy
    rw [List.getElem?_drop] at hk
    exact h5 _ y hk (by omega)
  have h1' := h1
  rw [eT, nmL_append, nmL_named _ _ _ _ nC] at h1'
  have eA := nmL_len (F := F) (w := w) (T.take x) (bkN b0) (bkA b0) (bkO b0)
  rw [List.length_take] at eA
  have e1 := (Prod.mk.inj h1').1
  have e2 := (Prod.mk.inj h1').2
  have e2' : (nmL F w (T.take x) (bkN b0) (bkA b0) (bkO b0)).2 = (bkN b', bkA b', bkO b') := e2
  have t1 : T'.take x = (nmL F w (T.take x) (bkN b0) (bkA b0) (bkO b0)).1 := by rw [← e1, List.take_left' (by omega)]
  have t2 : T'.drop x = T.drop x := by rw [← e1, List.drop_left' (by omega)]
  have t3 : T'.drop (x + g.length) = T.drop (x + g.length) := by rw [← List.drop_drop, ← List.drop_drop, t2]
  refine ⟨?_, ?_, ?_, fun i hi => ?_, fun i y hy hi => ?_, ?_⟩
  · unfold ptL
    rw [nmL_append, nmL_append, e2', nmL_new, nmL_named _ _ _ _ nD, t1, t3]
  · intro y hy
    rw [List.append_assoc] at hy
    rcases List.mem_append.mp hy with q | q
    · exact (Nm.bk (F := F) (w := w) f h2) y (List.mem_of_mem_take q)
    · rcases List.mem_append.mp q with q | q
      · obtain ⟨g1, g2, g3, g4⟩ := bkL_new (F := F) (w := w) f b' y q
        exact ⟨by omega, g2, g3, hf _ g4⟩
      · exact (Nm.bk (F := F) (w := w) f h2) y (List.mem_of_mem_drop q)
  · refine AuI.bk f b' (fun y hy => ?_) h3 hw
    obtain ⟨q1, q2, q3, q4⟩ := hF y hy
    exact ⟨q1, by omega, by rw [(h4 _ (by omega)).1]; exact q3, q4⟩
  · obtain ⟨q1, q2, q3⟩ := h4 i hi
    obtain ⟨p2, p3⟩ := bkL_a (F := F) (w := w) f b' i (by omega)
    exact ⟨(bkL_s f b' i (by omega)).trans q1, p2.trans q2, p3.trans q3⟩
  · unfold ptL at hy
    rw [List.append_assoc, List.getElem?_append_right (by rw [List.length_take]; omega), List.getElem?_append_right (by rw [List.length_map, List.length_take]; omega), List.getElem?_drop] at hy
    exact h5 _ y hy (by omega)
  · have := bkL_n (F := F) (w := w) f b'
    omega
theorem findN_fl {T : List (Int64 × Int)} {H : Hun} {s fl : Int} {fz : Nat} {x : Int} (h : findN T H s fl fz = some x) : fl ≤ x := by
  obtain ⟨b', h1, h2, h3⟩ := fn2_ok _ _ _ h
  have := (fitB_iff.mp h3).1
  unfold minI at this
  split at this <;> omega
section LYA
variable {Ω : Om} {m : Nat} {μ μ0 : Mu} {V : List VR} {b0 : BR} {hs : List Hun} {pn fz : Nat} {w1 a : Int}
theorem layAll_go {σ0 : Sto} {vv : List (Int64 × Int) × Nat} (hV : VeV V μ0) (e12 : mI μ0 12 = w1) (e14 : mI μ0 14 = a) (h0 : 0 ≤ w1) (h1 : w1 < V.length) (hN : Nm b0 (vtx V w1)) (h20 : (vtx V w1).length ≤ 20) (ha : isP a) (hpn : pn < 10) (hfz : fz ≤ 2) (h17 : mA μ0 17 pn = hs.length) (hl21 : hs.length ≤ 21) (hK : ∀ (i : Nat) H, hs[i]? = some H → HkM μ0 (21 * pn + i) H ∧ HnB H ∧ ∀ l ∈ hnF H, isLn l = true) :
    ∀ (r : List Hun) (i rj : Nat) (mv fl : Int) (T T' : List (Int64 × Int)) (b' : BR) (μ1 : Mu), r = hs.drop i → i ≤ hs.length → lyN fz r mv fl T rj = vv → -40 ≤ mv ∧ mv ≤ 60 → 0 ≤ fl ∧ fl ≤ 60 → T.length + frS r ≤ 40 → bkN b' + frS r ≤ 12000 → rj ≤ i → Fr [1, 53] [2, 3, 37] [1] μ0 μ1 → RlT (vtx V w1) a b0 T T' b' fl → IdV b' μ1 → WkB T' μ1 →
    Mw Ω σ0 m M_Mdl_layAll rm_Mdl_layAll (MQi Ω σ0 m rm_Mdl_layAll (fun y μ' => y = vv.2 ∧ Fr [1, 53] [2, 3, 37] [1] μ0 μ' ∧ ∃ T' b' fl, RlT (vtx V w1) a b0 vv.1 T' b' fl ∧ IdV b' μ' ∧ WkB T' μ' ∧ vv.1.length ≤ 40)) 47 [xr (some m), xi pn, xi fz, xi rj, xi mv, xi fl, xi i, xu, xu, xu, xu] [] μ1 := by
  intro r
  induction r with
  | nil =>
    intro i rj mv fl T T' b' μ1 hr hi he hmv hfl hT hb hrj hF hR hI hW
    have e : i = hs.length := by
      have := congrArg List.length hr
      rw [List.length_drop, List.length_nil] at this; omega
    rw [lyN] at he
    subst he
    refine B_layAll_47 ?_
    rw [Int.toNat_natCast, hF.2.1 17 (by decide), h17]
    have hf0 : frS [] = 0 := rfl
    exact ⟨by omega, by omega, by omega, fun _ => R_layAll_173 ⟨rfl, hF, T', b', fl, hR, hI, hW, by show T.length ≤ 40; omega⟩, fun z => absurd (by omega) z⟩
  | cons H r ih =>
    intro i rj mv fl T T' b' μ1 hr hi he hmv hfl hT hb hrj hF hR hI hW
    have li : i < hs.length := by
      have := congrArg List.length hr
      rw [List.length_drop, List.length_cons] at this; omega
    have hr2 := hr
    rw [List.drop_eq_getElem_cons li] at hr2
    obtain ⟨eH, er⟩ := List.cons.inj hr2
    have eH2 : hs[i]? = some H := by rw [List.getElem?_eq_getElem li, eH]
    obtain ⟨hkm, hB, hln⟩ := hK i H eH2
    have hkm1 := hkm.fr hF (by decide) (by decide)
    obtain ⟨b1, b2, b3, b4, b5, b6⟩ := id hB
    have hsum : frS (H :: r) = (hnF H).length + frS r := by unfold frS; rw [List.map_cons, List.sum_cons]
    have eN : RlT (vtx V w1) a b0 T T' b' fl := hR
    have hlen := hR.len
    have hNb : Nm b' (vtx V w1) := fun y hy => by
      obtain ⟨q1, q2, q3, q4⟩ := hN y hy
      have := hR.2.2.2.2.2
      exact ⟨q1, by omega, by rw [(hR.2.2.2.1 _ (by omega)).1]; exact q3, q4⟩
    have hWs := hW.s hI hR.2.1
    refine B_layAll_47 ?_
    rw [show 21 * (pn : Int) + (i : Int) = ((21 * pn + i : Nat) : Int) by omega, Int.toNat_natCast, Int.toNat_natCast, hF.2.1 17 (by decide), h17, hkm1.1.1]
    refine ⟨by omega, by omega, by omega, fun z => absurd z (by omega), fun _ => ⟨by omega, by omega, ?_⟩⟩
    refine C_layAll_87 (K_find hWs hkm1 hB (by omega) (by omega) (by omega) (by omega) hfz) fun y μ2 hq => ?_
    obtain ⟨rfl, rfl⟩ := hq
    rw [findN_congr hR.fst]
    refine B_layAll_90 ?_
    rw [show (4 * ((21 * pn + i : Nat) : Int) + 1).toNat = 4 * (21 * pn + i) + 1 by omega, show (4 * ((21 * pn + i : Nat) : Int)).toNat = 4 * (21 * pn + i) by omega, hkm1.2.1.2.1, hkm1.2.1.1]
    rw [lyN] at he
    cases hf : findN T H ((hnP H : Int) + mv) fl fz with
    | none =>
      rw [hf] at he
      refine ⟨by decide, fun z => absurd rfl z, fun _ => ?_⟩
      exact ih (i + 1) (rj + 1) mv fl T T' b' μ2 er (by omega) he hmv hfl (by omega) (by omega) (by omega) hF hR hI hW
    | some x =>
      rw [hf] at he
      rw [Option.getD_some]
      have hx := findN_ok hf
      have hxf := findN_fl hf
      obtain ⟨x, rfl⟩ := Int.eq_ofNat_of_zero_le hx.1
      have he' : lyN fz r (mv + (((hnF H).length : Int) - (hnG H).length + (x : Int) - ((hnP H : Int) + mv))) ((x : Int) + (hnF H).length) (ptL T x (hnG H) (hnF H)) rj = vv := he
      have hpl : (ptL T x (hnG H) (hnF H)).length = T.length - (hnG H).length + (hnF H).length := by
        unfold ptL
        rw [List.length_append, List.length_append, List.length_take, List.length_map, List.length_drop]; omega
      refine ⟨show Q32 (x : Int) by omega, fun _ => ⟨by omega, by omega, by omega, by omega, ?_⟩, fun z => absurd (show (x : Int) = -1 from z) (by omega)⟩
      refine C_layAll_134 (K_exchange (T := T') (b := b') (x := x) hW (hV.fr hF (by decide) (by decide)) hI ((hF.1 12 (by decide)).trans e12) ((hF.1 14 (by decide)).trans e14) h0 h1 hNb h20 hR.2.2.1 ha (by omega) hln hkm1 hB (by omega) (by omega) (by omega)) fun μ3 hq3 => ?_
      obtain ⟨k3, hI3, hW3⟩ := hq3
      have hkm3 := hkm1.fr k3 (by decide) (by decide)
      refine B_layAll_137 ?_
      rw [show (4 * ((21 * pn + i : Nat) : Int) + 1).toNat = 4 * (21 * pn + i) + 1 by omega, hkm3.2.1.2.1]
      refine ⟨by omega, by omega, ?_⟩
      have hn := bkL_n (F := vtx V w1) (w := a) (hnF H) b'
      exact ih (i + 1) rj _ _ _ _ _ μ3 er (by omega) he' (by omega) (by omega) (by rw [hpl]; omega) (by omega) (by omega) (hF.trans k3) (hR.step hN ha hxf (by omega) hln) hI3 hW3
theorem work_copy {σ0 : Sto} {F0 : QF} {R : List Int} {v1 v2 : Int} (hV : RowV R μ) (out : ∀ μ1, Fr [] [37] [] μ μ1 → (∀ k x, R[k]? = some x → mA μ1 37 k = x) → Mw Ω σ0 m M_Mdl_layAll rm_Mdl_layAll F0 47 [xr (some m), xi v1, xi v2, xi 0, xi 0, xi 0, xi 0, xu, xu, xu, xu] [] μ1) : ∀ (d k : Nat) (μ1 : Mu), k + d = R.length → Fr [] [37] [] μ μ1 → (∀ j x, j < k → R[j]? = some x → mA μ1 37 j = x) → Mw Ω σ0 m M_Mdl_layAll rm_Mdl_layAll F0 10 [xr (some m), xi v1, xi v2, xi k, xu, xu, xu, xu, xu, xu, xu] [] μ1 := by
  intro d
  induction d with
  | zero =>
    intro k μ1 hk hF hx
    have e15 := (hF.1 15 (by decide)).trans hV.1
    have l60 := hV.2.1
    exact B_layAll_10 ⟨by omega, fun _ => out μ1 hF (fun j x hj => hx j x (by have := (List.getElem?_eq_some_iff.mp hj).1; omega) hj), fun z => absurd (by omega) z⟩
  | succ d ih =>
    intro k μ1 hk hF hx
    have e15 := (hF.1 15 (by decide)).trans hV.1
    have l60 := hV.2.1
    obtain ⟨y, hy⟩ : ∃ y, R[k]? = some y := ⟨_, List.getElem?_eq_getElem (by omega)⟩
    have t1 : mA μ1 9 k = y := by rw [hF.2.1 9 (by decide)]; exact hV.2.2 k y hy
    refine B_layAll_10 ?_
    rw [Int.toNat_natCast, t1]
    refine ⟨by omega, fun z => absurd z (by omega), fun _ => ⟨by omega, by omega, by omega, by omega, ih (k + 1) _ (by omega) (hF.trans (Fr.wA (by decide))) (fun j x hj hx' => ?_)⟩⟩
    rw [wA_r]
    by_cases c : j = k
    · subst c
      rw [hy] at hx'
      rw [if_pos rfl]; exact Option.some.inj hx'
    · rw [if_neg c]; exact hx j x (by omega) hx'
theorem K_layAll {T : List (Int64 × Int)} (hV : VeV V μ) (hI : IdV b0 μ) (hRV : RowV (nmT T) μ) (hT : Nm b0 T) (hA : AuI b0) (e12 : mI μ 12 = w1) (e14 : mI μ 14 = a) (h0 : 0 ≤ w1) (h1 : w1 < V.length) (hN : Nm b0 (vtx V w1)) (h20 : (vtx V w1).length ≤ 20) (ha : isP a) (hpn : pn < 10) (hfz : fz ≤ 2) (h17 : mA μ 17 pn = hs.length) (hl21 : hs.length ≤ 21) (hK : ∀ (i : Nat) H, hs[i]? = some H → HkM μ (21 * pn + i) H ∧ HnB H ∧ ∀ l ∈ hnF H, isLn l = true) (hTl : T.length + frS hs ≤ 40) (h12 : bkN b0 + frS hs ≤ 12000) : MMi Ω m M_Mdl_layAll rm_Mdl_layAll (fun y μ' => y = (lyN fz hs 0 0 T 0).2 ∧ Fr [1, 53] [2, 3, 37] [1] μ μ' ∧ ∃ T' b' fl, RlT (vtx V w1) a b0 (lyN fz hs 0 0 T 0).1 T' b' fl ∧ IdV b' μ' ∧ WkB T' μ' ∧ (lyN fz hs 0 0 T 0).1.length ≤ 40) μ [xi pn, xi fz] := by
  refine E_layAll fun σ0 => B_layAll_0 ?_
  have k1 : Fr [53] [] [] μ (wI μ 53 (mI μ 15)) := Fr.wI (by decide)
  have e53 : mI (wI μ 53 (mI μ 15)) 53 = T.length := by rw [mI_wI, if_pos rfl, hRV.1, List.length_map]
  generalize wI μ 53 (mI μ 15) = μ1 at k1 e53 ⊢
  have hRV1 := hRV.fr k1 (by decide) (by decide)
  refine work_copy hRV1 (fun μ2 k2 hx => ?_) (nmT T).length 0 μ1 (Nat.zero_add _) Fr.rf (fun j x hj => absurd hj (Nat.not_lt_zero _))
  have k12 : Fr [1, 53] [2, 3, 37] [1] μ μ2 := (k1.mono (by decide) (by decide) (by decide)).trans (k2.mono (by decide) (by decide) (by decide))
  have hI2 := (hI.fr k1 (by decide) (by decide) (by decide) (by decide)).fr k2 (by decide) (by decide) (by decide) (by decide)
  exact layAll_go (hs := hs) (vv := lyN fz hs 0 0 T 0) hV e12 e14 h0 h1 hN h20 ha hpn hfz h17 hl21 hK hs 0 0 0 0 T T b0 μ2 rfl (Nat.zero_le _) rfl (by omega) (by omega) hTl h12 (Nat.le_refl _) k12 (RlT.rf hT hA) hI2 ⟨(k2.1 53 (by decide)).trans e53, by omega, fun i y hy => hx i y.2 (by unfold nmT; rw [List.getElem?_map, hy]; rfl)⟩
end LYA
