/-! BY HAND: patches of the reference: contexts, patch -/
abbrev stF (R : List Q4) (j : Nat) : Nat := stF0 0 R j
section PT6
variable {Ω : Om} {m : Nat} {μ μ0 μ1 μ2 : Mu} {S : St} {V : List VR} {b : BR} {v w c : Int} {P : Nat → Int} {ctx np : Nat} {R : List Q4}
/-- contexts that are laid -/
def CtE (T : List (Int64 × Int)) (ctx : Nat) (R : List Q4) (μ : Mu) (q j : Nat) (e : Q4) : Prop := mA μ 20 (4 * q + 2) = (min ctx (e.1 - stF R j) : Nat) ∧ mA μ 20 (4 * q + 3) = (min ctx (nxF T.length (R.drop (j + 1)) - e.2.1) : Nat) ∧ (∀ k, k < min ctx (e.1 - stF R j) → mG μ 22 (6 * q + k) = lnA T ((e.1 : Int) - (min ctx (e.1 - stF R j) : Nat) + k)) ∧ ∀ k, k < min ctx (nxF T.length (R.drop (j + 1)) - e.2.1) → mG μ 22 (6 * q + 3 + k) = lnA T ((e.2.1 : Int) + k)
def CtI (T : List (Int64 × Int)) (ctx : Nat) (R : List Q4) (np : Nat) (μ2 μ1 : Mu) (h : Nat) : Prop := Fr [] [20] [22] μ2 μ1 ∧ ((∀ k, k < 84 * np → mA μ1 20 k = mA μ2 20 k) ∧ ∀ k, k < 126 * np → mG μ1 22 k = mG μ2 22 k) ∧ (∀ (j : Nat) e, R[j]? = some e → mA μ1 20 (4 * (21 * np + j)) = (e.2.1 : Int) - e.1 ∧ mA μ1 20 (4 * (21 * np + j) + 1) = (e.2.2.2 : Int) - e.2.2.1) ∧ ∀ (j : Nat) e, j < h → R[j]? = some e → CtE T ctx R μ1 (21 * np + j) j e
theorem nx_get {n j : Nat} {e : Q4} (h : R[j]? = some e) : nxF n (R.drop j) = e.1 := by
  have lj := List.getElem?_eq_some_iff.mp h
  rw [List.drop_eq_getElem_cons lj.1, lj.2]; rfl
theorem nx_end {n j : Nat} (h : R.length ≤ j) : nxF n (R.drop j) = n := by
  rw [List.drop_eq_nil_iff.mpr h]; rfl
theorem ctx_all {σ0 : Sto} {F0 : QF} {x6 x7 : Int} (hV : VeV V μ2) (hI : IdV b μ2) (h29 : mI μ2 29 = np) (hn : np < 10) (v0 : 0 ≤ v ∧ v < V.length) (l1 : (vtx V v).length ≤ 20) (n1 : Nm b (vtx V v)) (hc3 : ctx ≤ 3) (hR21 : R.length ≤ 21) (h18 : ∀ (j : Nat) e, R[j]? = some e → mA μ2 18 (21 * np + j) = e.1) (hG : ∀ (j : Nat) (e : Q4), R[j]? = some e → (e.1 ≤ e.2.1 ∧ e.2.1 ≤ (vtx V v).length ∧ e.2.1 ≤ nxF (vtx V v).length (R.drop (j + 1)) ∧ nxF (vtx V v).length (R.drop (j + 1)) ≤ (vtx V v).length) ∧ stF R j ≤ e.1)
    (out : ∀ (z : Int) μ3, CtI (vtx V v) ctx R np μ2 μ3 R.length → Mw Ω σ0 m M_Mdl_patch rm_Mdl_patch F0 525 [xr (some m), xi v, xi w, xi ctx, xi 1, xi R.length, xi x6, xi x7, xi z, xu, xu, xu, xu, xu, xu, xu] [] (wI μ3 29 ((np : Int) + 1))) :
    ∀ (d h : Nat) (μ1 : Mu), h + d = R.length → CtI (vtx V v) ctx R np μ2 μ1 h → Mw Ω σ0 m M_Mdl_patch rm_Mdl_patch F0 221 [xr (some m), xi v, xi w, xi ctx, xi 1, xi R.length, xi x6, xi x7, xi h, xu, xu, xu, xu, xu, xu, xu] [] μ1 := by
  have h40 := hV.2.1
  intro d
  induction d with
  | zero =>
    intro h μ1 hh hI1
    have e29 : mI μ1 29 = np := (hI1.1.1 29 (by decide)).trans h29
    refine B_patch_221 ?_
    rw [e29]
    refine ⟨by omega, by omega, fun _ => ⟨by omega, out _ μ1 ?_⟩, fun z => absurd (by omega) z⟩
    rw [show R.length = h by omega]; exact hI1
  | succ d ih =>
    intro h μ1 hh hI1
    obtain ⟨k1, ⟨k2, k3⟩, k4, k5⟩ := id hI1
    have e29 : mI μ1 29 = np := (k1.1 29 (by decide)).trans h29
    have hV1 := hV.fr k1 (by decide) (by decide)
    have hIb := hI.fr k1 (by decide) (by decide) (by decide) (by decide)
    obtain ⟨e, he⟩ : ∃ e, R[h]? = some e := ⟨_, List.getElem?_eq_getElem (by omega)⟩
    obtain ⟨⟨a1, a2, a3, a4⟩, a5⟩ := hG h e he
    have q18 : ∀ (j : Nat) e, R[j]? = some e → mA μ1 18 (21 * np + j) = e.1 := fun j e hj => by rw [k1.2.1 18 (by decide)]; exact h18 j e hj
    obtain ⟨c1, c2⟩ := k4 h e he
    have K270 : Mw Ω σ0 m M_Mdl_patch rm_Mdl_patch F0 270 [xr (some m), xi v, xi w, xi ctx, xi 1, xi R.length, xi x6, xi x7, xi h, xi ((21 * np + h : Nat) : Int), xu, xu, xu, xu, xu, xu] [xi (stF R h)] μ1 := by
      have K399 : ∀ (v12 : Int) (x y : Int), x = (min ctx (e.1 - stF R h) : Nat) → y = (min ctx (nxF (vtx V v).length (R.drop (h + 1)) - e.2.1) : Nat) → Mw Ω σ0 m M_Mdl_patch rm_Mdl_patch F0 399 [xr (some m), xi v, xi w, xi ctx, xi 1, xi R.length, xi x6, xi x7, xi h, xi ((21 * np + h : Nat) : Int), xi (stF R h), xi ((e.1 : Int) + ((e.2.1 : Int) - e.1)), xi v12, xi x, xi y, xi 0] [] (wA (wA μ1 20 (4 * (21 * np + h) + 2) x) 20 (4 * (21 * np + h) + 3) y) := fun v12 x y ex ey => by
        subst ex
        subst ey
        rw [show (e.1 : Int) + ((e.2.1 : Int) - e.1) = e.2.1 by omega]
        have kA : Fr [] [20] [] μ1 (wA (wA μ1 20 (4 * (21 * np + h) + 2) (min ctx (e.1 - stF R h) : Nat)) 20 (4 * (21 * np + h) + 3) (min ctx (nxF (vtx V v).length (R.drop (h + 1)) - e.2.1) : Nat)) := (Fr.wA (by decide)).trans (Fr.wA (by decide))
        have gA : ∀ k, mA (wA (wA μ1 20 (4 * (21 * np + h) + 2) (min ctx (e.1 - stF R h) : Nat)) 20 (4 * (21 * np + h) + 3) (min ctx (nxF (vtx V v).length (R.drop (h + 1)) - e.2.1) : Nat)) 20 k = if k = 4 * (21 * np + h) + 3 then ((min ctx (nxF (vtx V v).length (R.drop (h + 1)) - e.2.1) : Nat) : Int) else if k = 4 * (21 * np + h) + 2 then ((min ctx (e.1 - stF R h) : Nat) : Int) else mA μ1 20 k := fun k => by
          rw [mA_wA, mA_wA]
          by_cases g1 : k = 4 * (21 * np + h) + 3
          · rw [if_pos ⟨rfl, g1⟩, if_pos g1]
          · rw [if_neg (fun z => g1 z.2), if_neg g1]
            by_cases g2 : k = 4 * (21 * np + h) + 2
            · rw [if_pos ⟨rfl, g2⟩, if_pos g2]
            · rw [if_neg (fun z => g2 z.2), if_neg g2]
        have gG : mG (wA (wA μ1 20 (4 * (21 * np + h) + 2) (min ctx (e.1 - stF R h) : Nat)) 20 (4 * (21 * np + h) + 3) (min ctx (nxF (vtx V v).length (R.drop (h + 1)) - e.2.1) : Nat)) = mG μ1 := rfl
        generalize wA (wA μ1 20 (4 * (21 * np + h) + 2) (min ctx (e.1 - stF R h) : Nat)) 20 (4 * (21 * np + h) + 3) (min ctx (nxF (vtx V v).length (R.drop (h + 1)) - e.2.1) : Nat) = μa at kA gA gG ⊢
        refine ctx_loop (h := h) (q := 21 * np + h) (fr := e.1) (i := e.2.1) (hV1.fr kA (by decide) (by decide)) (hIb.fr kA (by decide) (by decide) (by decide) (by decide)) v0 l1 n1 (by rw [kA.2.1 18 (by decide)]; exact q18 h e he) (by omega) (by omega) a1 (by omega) (fun μb z1 z2 z3 z4 => ?_) 3 0 μa rfl Fr.rf (fun _ _ => rfl) (fun j j1 => absurd j1 (Nat.not_lt_zero _)) (fun j j1 => absurd j1 (Nat.not_lt_zero _))
        have gAb : ∀ k, mA μb 20 k = mA μa 20 k := fun k => by rw [z1.2.1 20 (by decide)]
        refine ih (h + 1) μb (by omega) ⟨(k1.trans (kA.mono (by decide) (by decide) (by decide))).trans (z1.mono (by decide) (by decide) (by decide)), ⟨fun k hk => ?_, fun k hk => ?_⟩, fun j e2 hj => ⟨?_, ?_⟩, fun j e2 hjl hj => ?_⟩
        · rw [gAb, gA, if_neg (by omega), if_neg (by omega)]; exact k2 k hk
        · rw [z2 k (by omega), gG]; exact k3 k hk
        · rw [gAb, gA, if_neg (by omega), if_neg (by omega)]; exact (k4 j e2 hj).1
        · rw [gAb, gA, if_neg (by omega), if_neg (by omega)]; exact (k4 j e2 hj).2
        · by_cases ej : j = h
          · subst ej
            rw [he] at hj
            have ee := Option.some.inj hj
            subst ee
            refine ⟨?_, ?_, z3, z4⟩
            · rw [gAb, gA, if_neg (by omega), if_pos rfl]
            · rw [gAb, gA, if_pos rfl]
          · obtain ⟨y1, y2, y3, y4⟩ := k5 j e2 (by omega) hj
            refine ⟨?_, ?_, fun k hk => ?_, fun k hk => ?_⟩
            · rw [gAb, gA, if_neg (by omega), if_neg (by omega)]; exact y1
            · rw [gAb, gA, if_neg (by omega), if_neg (by omega)]; exact y2
            · rw [z2 _ (by omega), gG]; exact y3 k hk
            · rw [z2 _ (by omega), gG]; exact y4 k hk
      refine B_patch_270 ?_
      rw [show (((21 * np + h : Nat) : Int) + 1).toNat = 21 * np + (h + 1) by omega, show (4 * ((21 * np + h : Nat) : Int) + 2).toNat = 4 * (21 * np + h) + 2 by omega, show (4 * ((21 * np + h : Nat) : Int) + 3).toNat = 4 * (21 * np + h) + 3 by omega, show (4 * ((21 * np + h : Nat) : Int)).toNat = 4 * (21 * np + h) by omega, Int.toNat_natCast, q18 h e he, c1]
      refine ⟨by omega, by omega, by omega, by omega, by omega, by omega, fun z => ?_, fun z => ?_⟩
      · obtain ⟨e2, he2⟩ : ∃ e, R[h + 1]? = some e := ⟨_, List.getElem?_eq_getElem (by omega)⟩
        have en := nx_get (n := (vtx V v).length) he2
        rw [en] at K399 a3 a4
        rw [q18 (h + 1) e2 he2]
        exact ⟨by omega, by omega, by omega, by omega, fun g1 => ⟨by omega, fun g2 => ⟨by omega, by omega, by omega, by omega, K399 _ _ _ (by omega) (by omega)⟩, fun g2 => ⟨by omega, by omega, by omega, by omega, K399 _ _ _ (by omega) (by omega)⟩⟩, fun g1 => ⟨by omega, fun g2 => ⟨by omega, by omega, by omega, by omega, K399 _ _ _ (by omega) (by omega)⟩, fun g2 => ⟨by omega, by omega, by omega, by omega, K399 _ _ _ (by omega) (by omega)⟩⟩⟩
      · have en := nx_end (R := R) (n := (vtx V v).length) (j := h + 1) (by omega)
        rw [en] at K399 a3 a4
        rw [hV1.sz v0.1 v0.2]
        exact ⟨by omega, by omega, by omega, by omega, fun g1 => ⟨by omega, fun g2 => ⟨by omega, by omega, by omega, by omega, K399 _ _ _ (by omega) (by omega)⟩, fun g2 => ⟨by omega, by omega, by omega, by omega, K399 _ _ _ (by omega) (by omega)⟩⟩, fun g1 => ⟨by omega, fun g2 => ⟨by omega, by omega, by omega, by omega, K399 _ _ _ (by omega) (by omega)⟩, fun g2 => ⟨by omega, by omega, by omega, by omega, K399 _ _ _ (by omega) (by omega)⟩⟩⟩
    refine B_patch_221 ?_
    rw [e29, show 21 * (np : Int) + (h : Int) = ((21 * np + h : Nat) : Int) by omega]
    refine ⟨by omega, by omega, fun z => absurd z (by omega), fun _ => ⟨fun z => ?_, fun z => ?_⟩⟩
    · obtain ⟨h', rfl⟩ : ∃ h', h = h' + 1 := ⟨h - 1, by omega⟩
      obtain ⟨e0, he0⟩ : ∃ e, R[h']? = some e := ⟨_, List.getElem?_eq_getElem (by omega)⟩
      have es : stF R (h' + 1) = e0.2.1 := by show (R.getD h' (0, 0, 0, 0)).2.1 = _; rw [List.getD_eq_getElem?_getD, he0]; rfl
      rw [es] at K270
      rw [show (((21 * np + (h' + 1) : Nat) : Int) - 1).toNat = 21 * np + h' by omega, show (4 * (((21 * np + (h' + 1) : Nat) : Int) - 1)).toNat = 4 * (21 * np + h') by omega, q18 h' e0 he0, (k4 h' e0 he0).1, show (e0.1 : Int) + ((e0.2.1 : Int) - e0.1) = e0.2.1 by omega]
      exact ⟨by omega, by omega, by omega, by omega, K270⟩
    · have h0 : h = 0 := by omega
      subst h0
      exact K270
end PT6
