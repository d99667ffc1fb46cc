/-! BY HAND: patches of the reference: turn -/
section PT8
variable {Ω : Om} {m : Nat} {μ μa : Mu} {S : St} {p : Int}
theorem wA_r {j i : Nat} {x : Int} (k : Nat) : mA (wA μ j i x) j k = if k = i then x else mA μ j k := by
  rw [mA_wA]
  by_cases e : k = i
  · rw [if_pos ⟨rfl, e⟩, if_pos e]
  · rw [if_neg (fun z => e z.2), if_neg e]
theorem wG_r {j i : Nat} {x : Int64} (k : Nat) : mG (wG μ j i x) j k = if k = i then x else mG μ j k := by
  rw [mG_wG]
  by_cases e : k = i
  · rw [if_pos ⟨rfl, e⟩, if_pos e]
  · rw [if_neg (fun z => e z.2), if_neg e]
theorem turn_copy {σ0 : Sto} {F0 : QF} {pn h s q : Nat} (hs : s < q) (hq : q < 210) (out : ∀ μ1, Fr [] [] [21] μa μ1 → (∀ j, j < 40 * q → mG μ1 21 j = mG μa 21 j) → (∀ j, j < 20 → mG μ1 21 (40 * q + j) = mG μa 21 (40 * s + 20 + j) ∧ mG μ1 21 (40 * q + 20 + j) = mG μa 21 (40 * s + j)) → Mw Ω σ0 m M_Mdl_turn rm_Mdl_turn F0 261 [xr (some m), xi pn, xi h, xi s, xi q, xi 0] [] μ1) :
    ∀ (d k : Nat) (μ1 : Mu), k + d = 20 → Fr [] [] [21] μa μ1 → (∀ j, j < 40 * q → mG μ1 21 j = mG μa 21 j) → (∀ j, j < k → mG μ1 21 (40 * q + j) = mG μa 21 (40 * s + 20 + j) ∧ mG μ1 21 (40 * q + 20 + j) = mG μa 21 (40 * s + j)) → Mw Ω σ0 m M_Mdl_turn rm_Mdl_turn F0 189 [xr (some m), xi pn, xi h, xi s, xi q, xi k] [] μ1 := by
  intro d
  induction d with
  | zero =>
    intro k μ1 hk hF g1 g2
    exact B_turn_189 ⟨by omega, fun _ => out μ1 hF g1 (fun j hj => g2 j (by omega)), fun z => absurd (by omega) z⟩
  | succ d ih =>
    intro k μ1 hk hF g1 g2
    refine B_turn_189 ?_
    rw [show (40 * (s : Int) + 20 + (k : Int)).toNat = 40 * s + 20 + k by omega, show (40 * (q : Int) + (k : Int)).toNat = 40 * q + k by omega, g1 _ (by omega)]
    refine ⟨by omega, fun z => absurd z (by omega), fun _ => ⟨by omega, by omega, by omega, by omega, B_turn_224 ?_⟩⟩
    rw [show (40 * (s : Int) + (k : Int)).toNat = 40 * s + k by omega, show (40 * (q : Int) + 20 + (k : Int)).toNat = 40 * q + 20 + k by omega]
    refine ⟨by omega, by omega, by omega, by omega, ?_⟩
    rw [wG_r, if_neg (by omega), g1 _ (by omega)]
    refine ih (k + 1) _ (by omega) (hF.trans ((Fr.wG (by decide)).trans (Fr.wG (by decide)))) (fun j hj => ?_) (fun j hj => ⟨?_, ?_⟩)
    · rw [wG_r, if_neg (by omega), wG_r, if_neg (by omega)]; exact g1 j hj
    · rw [wG_r, if_neg (by omega), wG_r]
      by_cases e : j = k
      · subst e; rw [if_pos rfl]
      · rw [if_neg (by omega)]; exact (g2 j (by omega)).1
    · rw [wG_r]
      by_cases e : j = k
      · subst e; rw [if_pos rfl]
      · rw [if_neg (by omega), wG_r, if_neg (by omega)]; exact (g2 j (by omega)).2
theorem turn_cont {σ0 : Sto} {F0 : QF} {pn h s q : Nat} (hs : s < q) (hq : q < 210) (out : ∀ μ1, Fr [] [] [22] μa μ1 → (∀ j, j < 6 * q → mG μ1 22 j = mG μa 22 j) → (∀ j, j < 6 → mG μ1 22 (6 * q + j) = mG μa 22 (6 * s + j)) → Mw Ω σ0 m M_Mdl_turn rm_Mdl_turn F0 52 [xr (some m), xi pn, xi ((h : Int) + 1), xu, xu, xu] [] μ1) :
    ∀ (d k : Nat) (μ1 : Mu), k + d = 6 → Fr [] [] [22] μa μ1 → (∀ j, j < 6 * q → mG μ1 22 j = mG μa 22 j) → (∀ j, j < k → mG μ1 22 (6 * q + j) = mG μa 22 (6 * s + j)) → Mw Ω σ0 m M_Mdl_turn rm_Mdl_turn F0 261 [xr (some m), xi pn, xi h, xi s, xi q, xi k] [] μ1 := by
  intro d
  induction d with
  | zero =>
    intro k μ1 hk hF g1 g2
    exact B_turn_261 ⟨by omega, fun _ => out μ1 hF g1 (fun j hj => g2 j (by omega)), fun z => absurd (by omega) z⟩
  | succ d ih =>
    intro k μ1 hk hF g1 g2
    refine B_turn_261 ?_
    rw [show (6 * (s : Int) + (k : Int)).toNat = 6 * s + k by omega, show (6 * (q : Int) + (k : Int)).toNat = 6 * q + k by omega, g1 _ (by omega)]
    refine ⟨by omega, fun z => absurd z (by omega), fun _ => ⟨by omega, by omega, by omega, by omega, ih (k + 1) _ (by omega) (hF.trans (Fr.wG (by decide))) (fun j hj => ?_) (fun j hj => ?_)⟩⟩
    · rw [wG_r, if_neg (by omega)]; exact g1 j hj
    · rw [wG_r]
      by_cases e : j = k
      · subst e; rw [if_pos rfl]
      · rw [if_neg (by omega)]; exact g2 j (by omega)
/-- what lies below a patch is kept -/
def LoP (np : Nat) (μ μ' : Mu) : Prop := Fr [] [18, 19, 20] [21, 22] μ μ' ∧ (∀ k, k < 21 * np → mA μ' 18 k = mA μ 18 k ∧ mA μ' 19 k = mA μ 19 k) ∧ (∀ k, k < 84 * np → mA μ' 20 k = mA μ 20 k) ∧ (∀ k, k < 840 * np → mG μ' 21 k = mG μ 21 k) ∧ ∀ k, k < 126 * np → mG μ' 22 k = mG μ 22 k
theorem LoP.rf {np : Nat} : LoP np μ μ := ⟨Fr.rf, fun _ _ => ⟨rfl, rfl⟩, fun _ _ => rfl, fun _ _ => rfl, fun _ _ => rfl⟩
theorem turn_loop {σ0 : Sto} {F0 : QF} {np pn : Nat} {hs : List Hun} (hpn : pn < np) (h10 : np < 10) (hl : hs.length ≤ 21) (h29 : mI μ 29 = np) (h17 : mA μ 17 pn = hs.length) (hK : ∀ (i : Nat) H, hs[i]? = some H → HkM μ (21 * pn + i) H) (hB : HkB hs)
    (out : ∀ (z : Int) μ1, LoP np μ μ1 → (∀ (i : Nat) H, hs[i]? = some H → HkM μ1 (21 * np + i) (turnH H)) → Mw Ω σ0 m M_Mdl_turn rm_Mdl_turn F0 315 [xr (some m), xi pn, xi z, xu, xu, xu] [] (wI μ1 29 ((np : Int) + 1))) :
    ∀ (d h : Nat) (μ1 : Mu), h + d = hs.length → LoP np μ μ1 → (∀ (i : Nat) H, i < h → hs[i]? = some H → HkM μ1 (21 * np + i) (turnH H)) → Mw Ω σ0 m M_Mdl_turn rm_Mdl_turn F0 52 [xr (some m), xi pn, xi h, xu, xu, xu] [] μ1 := by
  intro d
  induction d with
  | zero =>
    intro h μ1 hh hL hE
    have e29 : mI μ1 29 = np := (hL.1.1 29 (by decide)).trans h29
    have e17 : mA μ1 17 pn = hs.length := by rw [hL.1.2.1 17 (by decide)]; exact h17
    refine B_turn_52 ?_
    rw [e29, Int.toNat_natCast, e17]
    exact ⟨by omega, by omega, by omega, fun _ => ⟨by omega, out _ μ1 hL (fun i H hi => hE i H (by have := (List.getElem?_eq_some_iff.mp hi).1; omega) hi)⟩, fun z => absurd (by omega) z⟩
  | succ d ih =>
    intro h μ1 hh hL hE
    have e29 : mI μ1 29 = np := (hL.1.1 29 (by decide)).trans h29
    have e17 : mA μ1 17 pn = hs.length := by rw [hL.1.2.1 17 (by decide)]; exact h17
    obtain ⟨H, hH⟩ : ∃ H, hs[h]? = some H := ⟨_, List.getElem?_eq_getElem (by omega)⟩
    obtain ⟨z1, z2, z3, z4, z5, z6⟩ := hB H (List.mem_of_getElem? hH)
    obtain ⟨L1, L2, L3, L4, L5⟩ := id hL
    obtain ⟨⟨a1, a2⟩, ⟨b1, b2, b3, b4⟩, c1, c2, d1, d2⟩ := (hK h H hH).lo (μ' := μ1) (np := np) (by omega) ⟨z1, z2, z3, z4⟩ L2 L3 L4 L5
    refine B_turn_52 ?_
    rw [e29, show 21 * (pn : Int) + (h : Int) = ((21 * pn + h : Nat) : Int) by omega, show 21 * (np : Int) + (h : Int) = ((21 * np + h : Nat) : Int) by omega, Int.toNat_natCast, Int.toNat_natCast, Int.toNat_natCast, e17, a2]
    generalize hs' : 21 * pn + h = s at a1 a2 b1 b2 b3 b4 c1 c2 d1 d2 ⊢
    generalize hq' : 21 * np + h = q
    refine ⟨by omega, by omega, by omega, fun z => absurd z (by omega), fun _ => ⟨by omega, by omega, by omega, by omega, ?_⟩⟩
    have w1 : Fr [] [18] [] μ1 (wA μ1 18 q (hnO H)) := Fr.wA (by decide)
    have r1 : ∀ k, mA (wA μ1 18 q (hnO H)) 18 k = if k = q then ((hnO H : Nat) : Int) else mA μ1 18 k := fun k => wA_r k
    generalize wA μ1 18 q ((hnO H : Nat) : Int) = μ2 at w1 r1 ⊢
    refine B_turn_93 ?_
    rw [Int.toNat_natCast, Int.toNat_natCast, r1, if_neg (by omega), a1]
    refine ⟨by omega, by omega, by omega, by omega, ?_⟩
    have w2 : Fr [] [19] [] μ2 (wA μ2 19 q (hnP H)) := Fr.wA (by decide)
    have r2 : ∀ k, mA (wA μ2 19 q (hnP H)) 19 k = if k = q then ((hnP H : Nat) : Int) else mA μ2 19 k := fun k => wA_r k
    generalize wA μ2 19 q ((hnP H : Nat) : Int) = μ3 at w2 r2 ⊢
    have x20 : ∀ k, mA μ3 20 k = mA μ1 20 k := fun k => by rw [w2.2.1 20 (by decide), w1.2.1 20 (by decide)]
    refine B_turn_106 ?_
    rw [show (4 * (s : Int) + 1).toNat = 4 * s + 1 by omega, show (4 * (q : Int)).toNat = 4 * q by omega, x20, b2]
    refine ⟨by omega, by omega, by omega, by omega, ?_⟩
    have w3 : Fr [] [20] [] μ3 (wA μ3 20 (4 * q) ((hnF H).length : Nat)) := Fr.wA (by decide)
    have r3 : ∀ k, mA (wA μ3 20 (4 * q) ((hnF H).length : Nat)) 20 k = if k = 4 * q then (((hnF H).length : Nat) : Int) else mA μ3 20 k := fun k => wA_r k
    generalize wA μ3 20 (4 * q) (((hnF H).length : Nat) : Int) = μ4 at w3 r3 ⊢
    refine B_turn_125 ?_
    rw [show (4 * (s : Int)).toNat = 4 * s by omega, show (4 * (q : Int) + 1).toNat = 4 * q + 1 by omega, r3, if_neg (by omega), x20, b1]
    refine ⟨by omega, by omega, by omega, by omega, ?_⟩
    have w4 : Fr [] [20] [] μ4 (wA μ4 20 (4 * q + 1) ((hnG H).length : Nat)) := Fr.wA (by decide)
    have r4 : ∀ k, mA (wA μ4 20 (4 * q + 1) ((hnG H).length : Nat)) 20 k = if k = 4 * q + 1 then (((hnG H).length : Nat) : Int) else mA μ4 20 k := fun k => wA_r k
    generalize wA μ4 20 (4 * q + 1) (((hnG H).length : Nat) : Int) = μ5 at w4 r4 ⊢
    refine B_turn_144 ?_
    rw [show (4 * (s : Int) + 2).toNat = 4 * s + 2 by omega, show (4 * (q : Int) + 2).toNat = 4 * q + 2 by omega, r4, if_neg (by omega), r3, if_neg (by omega), x20, b3]
    refine ⟨by omega, by omega, by omega, by omega, ?_⟩
    have w5 : Fr [] [20] [] μ5 (wA μ5 20 (4 * q + 2) ((hnA H).length : Nat)) := Fr.wA (by decide)
    have r5 : ∀ k, mA (wA μ5 20 (4 * q + 2) ((hnA H).length : Nat)) 20 k = if k = 4 * q + 2 then (((hnA H).length : Nat) : Int) else mA μ5 20 k := fun k => wA_r k
    generalize wA μ5 20 (4 * q + 2) (((hnA H).length : Nat) : Int) = μ6 at w5 r5 ⊢
    refine B_turn_165 ?_
    rw [show (4 * (s : Int) + 3).toNat = 4 * s + 3 by omega, show (4 * (q : Int) + 3).toNat = 4 * q + 3 by omega, r5, if_neg (by omega), r4, if_neg (by omega), r3, if_neg (by omega), x20, b4]
    refine ⟨by omega, by omega, by omega, by omega, ?_⟩
    have w6 : Fr [] [20] [] μ6 (wA μ6 20 (4 * q + 3) ((hnB H).length : Nat)) := Fr.wA (by decide)
    have r6 : ∀ k, mA (wA μ6 20 (4 * q + 3) ((hnB H).length : Nat)) 20 k = if k = 4 * q + 3 then (((hnB H).length : Nat) : Int) else mA μ6 20 k := fun k => wA_r k
    generalize wA μ6 20 (4 * q + 3) (((hnB H).length : Nat) : Int) = μ7 at w6 r6 ⊢
    have w37 : Fr [] [20] [] μ3 μ7 := ((w3.trans w4).trans w5).trans w6
    have w17 : Fr [] [18, 19, 20] [] μ1 μ7 := ((w1.mono (by decide) (by decide) (by decide)).trans (w2.mono (by decide) (by decide) (by decide))).trans (w37.mono (by decide) (by decide) (by decide))
    have g20 : ∀ k, mA μ7 20 k = if k = 4 * q + 3 then (((hnB H).length : Nat) : Int) else if k = 4 * q + 2 then (((hnA H).length : Nat) : Int) else if k = 4 * q + 1 then (((hnG H).length : Nat) : Int) else if k = 4 * q then (((hnF H).length : Nat) : Int) else mA μ1 20 k := fun k => by rw [r6, r5, r4, r3, x20]
    have g18 : ∀ k, mA μ7 18 k = if k = q then ((hnO H : Nat) : Int) else mA μ1 18 k := fun k => by rw [w37.2.1 18 (by decide), w2.2.1 18 (by decide), r1]
    have g19 : ∀ k, mA μ7 19 k = if k = q then ((hnP H : Nat) : Int) else mA μ1 19 k := fun k => by rw [w37.2.1 19 (by decide), r2, w1.2.1 19 (by decide)]
    have gG : ∀ j, mG μ7 j = mG μ1 j := fun j => w17.2.2 j (by simp)
    refine turn_copy (s := s) (q := q) (by omega) (by omega) (fun μ8 f1 f2 f3 => ?_) 20 0 μ7 rfl Fr.rf (fun _ _ => rfl) (fun j j1 => absurd j1 (Nat.not_lt_zero _))
    refine turn_cont (s := s) (q := q) (by omega) (by omega) (fun μ9 f4 f5 f6 => ?_) 6 0 μ8 rfl Fr.rf (fun _ _ => rfl) (fun j j1 => absurd j1 (Nat.not_lt_zero _))
    have h18 : ∀ k, mA μ9 18 k = if k = q then ((hnO H : Nat) : Int) else mA μ1 18 k := fun k => by rw [f4.2.1 18 (by decide), f1.2.1 18 (by decide), g18]
    have h19 : ∀ k, mA μ9 19 k = if k = q then ((hnP H : Nat) : Int) else mA μ1 19 k := fun k => by rw [f4.2.1 19 (by decide), f1.2.1 19 (by decide), g19]
    have h20 : ∀ k, mA μ9 20 k = mA μ7 20 k := fun k => by rw [f4.2.1 20 (by decide), f1.2.1 20 (by decide)]
    have h21 : ∀ k, mG μ9 21 k = mG μ8 21 k := fun k => by rw [f4.2.2 21 (by decide)]
    have h22 : ∀ k, mG μ8 22 k = mG μ1 22 k := fun k => by rw [f1.2.2 22 (by decide), gG]
    refine ih (h + 1) μ9 (by omega) ⟨L1.trans ((w17.mono (by decide) (by decide) (by decide)).trans ((f1.mono (by decide) (by decide) (by decide)).trans (f4.mono (by decide) (by decide) (by decide)))), fun k hk => ⟨?_, ?_⟩, fun k hk => ?_, fun k hk => ?_, fun k hk => ?_⟩ (fun i Hi hi he => ?_)
    · rw [h18, if_neg (by omega)]; exact (L2 k hk).1
    · rw [h19, if_neg (by omega)]; exact (L2 k hk).2
    · rw [h20, g20, if_neg (by omega), if_neg (by omega), if_neg (by omega), if_neg (by omega)]; exact L3 k hk
    · rw [h21, f2 k (by omega), gG]; exact L4 k hk
    · rw [f5 k (by omega), h22]; exact L5 k hk
    · by_cases e : i = h
      · subst e
        rw [hH] at he
        have eH := Option.some.inj he
        subst eH
        rw [hq']
        refine ⟨⟨by rw [h18, if_pos rfl]; rfl, by rw [h19, if_pos rfl]; rfl⟩, ⟨?_, ?_, ?_, ?_⟩, fun k hk => ?_, fun k hk => ?_, fun k hk => ?_, fun k hk => ?_⟩
        · rw [h20, g20, if_neg (by omega), if_neg (by omega), if_neg (by omega), if_pos rfl]; rfl
        · rw [h20, g20, if_neg (by omega), if_neg (by omega), if_pos rfl]; rfl
        · rw [h20, g20, if_neg (by omega), if_pos rfl]; rfl
        · rw [h20, g20, if_pos rfl]; rfl
        · have hk' : k < (hnF H).length := hk
          rw [h21, (f3 k (by omega)).1, gG]; exact c2 k hk'
        · have hk' : k < (hnG H).length := hk
          rw [h21, (f3 k (by omega)).2, gG]; exact c1 k hk'
        · have hk' : k < (hnA H).length := hk
          rw [f6 k (by omega), h22]; exact d1 k hk'
        · have hk' : k < (hnB H).length := hk
          rw [show 6 * q + 3 + k = 6 * q + (3 + k) by omega, f6 (3 + k) (by omega), h22, show 6 * s + (3 + k) = 6 * s + 3 + k by omega]; exact d2 k hk'
      · obtain ⟨y1, y2, y3, y4, -, -⟩ := hB Hi (List.mem_of_getElem? he)
        obtain ⟨⟨p1, p2⟩, ⟨q1, q2, q3, q4⟩, t1, t2, u1, u2⟩ := hE i Hi (by omega) he
        have hk0 : ∀ x : Nat, x ≤ 20 → True := fun _ _ => trivial
        refine ⟨⟨by rw [h18, if_neg (by omega)]; exact p1, by rw [h19, if_neg (by omega)]; exact p2⟩, ⟨?_, ?_, ?_, ?_⟩, fun k hk => ?_, fun k hk => ?_, fun k hk => ?_, fun k hk => ?_⟩
        · rw [h20, g20, if_neg (by omega), if_neg (by omega), if_neg (by omega), if_neg (by omega)]; exact q1
        · rw [h20, g20, if_neg (by omega), if_neg (by omega), if_neg (by omega), if_neg (by omega)]; exact q2
        · rw [h20, g20, if_neg (by omega), if_neg (by omega), if_neg (by omega), if_neg (by omega)]; exact q3
        · rw [h20, g20, if_neg (by omega), if_neg (by omega), if_neg (by omega), if_neg (by omega)]; exact q4
        · have hk' : k < (hnF Hi).length := hk
          rw [h21, f2 _ (by omega), gG]; exact t1 k hk
        · have hk' : k < (hnG Hi).length := hk
          rw [h21, f2 _ (by omega), gG]; exact t2 k hk
        · have hk' : k < (hnA Hi).length := hk
          rw [f5 _ (by omega), h22]; exact u1 k hk
        · have hk' : k < (hnB Hi).length := hk
          rw [f5 _ (by omega), h22]; exact u2 k hk
theorem X_turn (h : MdV S μ) (hH : ∀ hs ∈ sP S, HkB hs) (hp : Q32 p) : MMi Ω m M_Mdl_turn rm_Mdl_turn (OutI S (cd2 (o_turn S p).1) (o_turn S p).2.1 (o_turn S p).2.2) μ [xi p] := by
  have h29 := h.2.2.2.2.1.1
  have h10 := h.2.2.2.2.1.2.1
  refine E_turn fun σ0 => B_turn_0 ?_
  have bad : ∀ (k : Nat), cd2 (o_turn S p).1 = k → k ≠ 0 → Q32 (k : Int) → Mw Ω σ0 m M_Mdl_turn rm_Mdl_turn (MQi Ω σ0 m rm_Mdl_turn (OutI S (cd2 (o_turn S p).1) (o_turn S p).2.1 (o_turn S p).2.2)) 27 [xr (some m), xi p, xu, xu, xu, xu] [xi (k : Nat), xr (some m)] μ := fun k e hk hk2 => by
    refine C_turn_27 (K_refused hk2) fun y μ2 hq => ?_
    obtain ⟨rfl, rfl⟩ := hq
    refine B_turn_30 ⟨bI_q, fun c2 => absurd (show (k : Int) ≠ 0 by omega) (bI_0.mp c2), fun _ => R_turn_34 ?_⟩
    rw [e]; exact OutI.no h hk
  refine C_turn_3 (K_isPatch h hp) fun y μ1 hq => ?_
  obtain ⟨rfl, rfl⟩ := hq
  refine B_turn_6 ⟨bI_q, fun c => ⟨fun e10 => ?_, fun e10 => bad 2 (by show cd2 (c2 _ _ 1 3) = 2; rw [c2_2 (bI_1.mp c) (by omega)]; rfl) (by decide) (by decide)⟩, fun c => bad 1 (by show cd2 (c2 _ _ 1 3) = 1; rw [c2_1 (bI_0.mp c)]; rfl) (by decide) (by decide)⟩
  have c' := bI_1.mp c
  have l10 : (sP S).length < 10 := by omega
  have e : cd2 (o_turn S p).1 = 0 := by show cd2 (c2 _ _ 1 3) = 0; rw [c2_t c' l10]; rfl
  obtain ⟨pn, rfl⟩ := Int.eq_ofNat_of_zero_le c'.1
  refine C_turn_27 (K_refused (by decide)) fun y μ2 hq => ?_
  obtain ⟨rfl, rfl⟩ := hq
  have h0 := h.w0 (v := 0)
  have z00 : mI (wI μ1 0 0) 0 = 0 := mw0
  generalize wI μ1 0 0 = μz at h0 z00 ⊢
  obtain ⟨hPa1, hPa2, hPa3⟩ := h0.2.2.2.2.1
  obtain ⟨hs, hhs⟩ : ∃ hs, (sP S)[pn]? = some hs := ⟨_, List.getElem?_eq_getElem (by omega)⟩
  obtain ⟨f1, f2, f3⟩ := hPa3 pn hs hhs
  have eph : phk S (pn : Int) = hs := by unfold phk; rw [Int.toNat_natCast, List.getD_eq_getElem?_getD, hhs]; rfl
  refine B_turn_30 ?_
  rw [hPa1, Int.toNat_natCast, Int.toNat_natCast, f1]
  refine ⟨bI_q, fun _ => ⟨by omega, by omega, by omega, by omega, ?_⟩, fun c2 => absurd (show bI ((0 : Int) ≠ 0) = 0 by decide) c2⟩
  have k17 : Fr [] [17] [] μz (wA μz 17 (sP S).length hs.length) := Fr.wA (by decide)
  have r17 : ∀ k, mA (wA μz 17 (sP S).length hs.length) 17 k = if k = (sP S).length then (hs.length : Int) else mA μz 17 k := fun k => wA_r k
  generalize wA μz 17 (sP S).length (hs.length : Int) = μ4 at k17 r17 ⊢
  refine turn_loop (np := (sP S).length) (pn := pn) (hs := hs) (by omega) l10 f2 ((k17.1 29 (by decide)).trans hPa1) (by rw [r17, if_neg (by omega)]; exact f1) (fun i H hi => (f3 i H hi).fr k17 (by decide) (by decide)) (hH hs (List.mem_of_getElem? hhs)) (fun z μ5 hL hE => ?_) hs.length 0 μ4 (by omega) LoP.rf (fun i H hi => absurd hi (Nat.not_lt_zero _))
  obtain ⟨L1, L2, L3, L4, L5⟩ := hL
  have k6 : Fr [29] [] [] μ5 (wI μ5 29 (((sP S).length : Int) + 1)) := Fr.wI (by decide)
  have e29 : mI (wI μ5 29 (((sP S).length : Int) + 1)) 29 = ((sP S).length : Int) + 1 := by rw [mI_wI, if_pos rfl]
  have eA : mA (wI μ5 29 (((sP S).length : Int) + 1)) = mA μ5 := mA_wI _ _ _
  have eG : mG (wI μ5 29 (((sP S).length : Int) + 1)) = mG μ5 := mG_wI _ _ _
  generalize wI μ5 29 (((sP S).length : Int) + 1) = μ6 at k6 e29 eA eG ⊢
  have kk : Fr [0, 29, 53] [17, 18, 19, 20, 28, 29, 30, 31, 32, 33, 34, 35, 36, 37] [21, 22] μz μ6 := ((k17.mono (by decide) (by decide) (by decide)).trans (L1.mono (by decide) (by decide) (by decide))).trans (k6.mono (by decide) (by decide) (by decide))
  refine B_turn_315 (R_turn_321 ?_)
  rw [e]
  refine OutI.ok ((((k6.1 0 (by decide)).trans (L1.1 0 (by decide))).trans (k17.1 0 (by decide))).trans z00) ?_ ?_
  · rw [e29]; show (((sP S).length : Int) + 1) - 1 = (((sP S).length : Nat) : Int); omega
  · show MdV (setP S (sP S ++ [(phk S (pn : Int)).map turnH])) μ6
    rw [eph]
    refine h0.upP kk (h0.2.2.2.2.1.snoc hH l10 (by rw [List.length_map]; omega) e29 (fun k hk => ?_) ?_ (fun k hk => ⟨?_, ?_⟩) (fun k hk => ?_) (fun k hk => ?_) (fun k hk => ?_) (fun i H hi => ?_))
    · rw [eA, L1.2.1 17 (by decide), r17, if_neg (by omega)]
    · rw [eA, L1.2.1 17 (by decide), r17, if_pos rfl, List.length_map]
    · rw [eA, (L2 k hk).1, k17.2.1 18 (by decide)]
    · rw [eA, (L2 k hk).2, k17.2.1 19 (by decide)]
    · rw [eA, L3 k hk, k17.2.1 20 (by decide)]
    · rw [eG, L4 k hk, k17.2.2 21 (by decide)]
    · rw [eG, L5 k hk, k17.2.2 22 (by decide)]
    · rw [List.getElem?_map] at hi
      obtain ⟨H0, hH0, rfl⟩ := Option.map_eq_some_iff.mp hi
      exact (hE i H0 hH0).fr k6 (by decide) (by decide)
end PT8
