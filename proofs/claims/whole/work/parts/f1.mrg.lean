/-! BY HAND: merging, by the reference: weaving -/
/-- what stands while the reference weaves -/
def WvV (F S B : List (Int64 × Int)) (dn : Int) (μ0 μ1 : Mu) (T : List (Int64 × Int)) (cl : List Cnl) : Prop := Fr [15, 17] [9, 10, 11] [] μ0 μ1 ∧ (dn = 0 → μ1 = μ0) ∧ (dn ≠ 0 → PcM F S B cl μ1 ∧ ∃ R, RwV R (nmT T) cl ∧ RowV R μ1)
theorem wpT_ge {F S B T : List (Int64 × Int)} {c : Cnl} : T.length ≤ (wpT F S B T c).length := by
  by_cases e : alk F S B c 0 2
  · rw [wpT_2 e, List.length_append]; omega
  · by_cases g : alk F S B c 1 2 ∨ alk F S B c 1 0
    · rw [wpT_1 e g, List.length_append]; omega
    · rw [wpT_0 e g]; omega
theorem wvN_ge {F S B : List (Int64 × Int)} {P1 P2 : Nat → Int} : ∀ (d i ff sf bf : Nat) (T : List (Int64 × Int)) (cl : List Cnl), T.length ≤ (wvN F S B P1 P2 d i ff sf bf T cl).1.length := by
  intro d
  induction d with
  | zero => intro i ff sf bf T cl; rw [wvN]; exact wpT_ge
  | succ d ih =>
    intro i ff sf bf T cl
    rw [wvN]
    by_cases g : P1 i ≠ -1 ∧ P2 i ≠ -1
    · rw [if_pos g]
      refine Nat.le_trans ?_ (ih _ _ _ _ _ _)
      rw [List.length_append]
      have := wpT_ge (F := F) (S := S) (B := B) (T := T) (c := ((ff, P1 i), (sf, P2 i), (bf, i), T.length, 0))
      omega
    · rw [if_neg g]; exact ih _ _ _ _ _ _
theorem MMi.mono {Ω : Om} {m : Nat} {M : MI} {R : Room} {Q Q' : Int → Mu → Prop} {μ : Mu} {as : List PV} (h : MMi Ω m M R Q μ as) (g : ∀ y μ', Q y μ' → Q' y μ') : MMi Ω m M R Q' μ as :=
  fun σ0 σ hr => (h σ0 σ hr).mono (fun r σ' ⟨y, e, μ', h1, h2⟩ => ⟨y, e, μ', h1, g y μ' h2⟩) (fun _ _ h => h)
theorem MMv.mono {Ω : Om} {m : Nat} {M : MI} {R : Room} {Q Q' : Mu → Prop} {μ : Mu} {as : List PV} (h : MMv Ω m M R Q μ as) (g : ∀ μ', Q μ' → Q' μ') : MMv Ω m M R Q' μ as :=
  fun σ0 σ hr => (h σ0 σ hr).mono (fun r σ' ⟨e, μ', h1, h2⟩ => ⟨e, μ', h1, g μ' h2⟩) (fun _ _ h => h)
section MGW
variable {Ω : Om} {m : Nat} {μ μ0 μ1 : Mu} {V : List VR} {b : BR} {v w u dn f t p1 p2 v10 : Int} {F S B T : List (Int64 × Int)} {cl : List Cnl}
theorem Nm.ge {T : List (Int64 × Int)} (h : Nm b T) : ∀ y ∈ nmT T, 0 ≤ y := nm_ge h
theorem Nm.sl {T : List (Int64 × Int)} (h : Nm b T) : Nm b (slice T f t) := fun y hy => h y (slice_mem hy)
/-- lines laid while weaving -/
theorem K_layLinesW (hdn : dn = 0 ∨ dn = 1) (hW : WvV F S B dn μ0 μ1 T cl) (hV : VeV V μ1) (v0 : 0 ≤ v ∧ v < V.length) (h20 : (vtx V v).length ≤ 20) (hN : Nm b (vtx V v)) (hf : 0 ≤ f ∧ f ≤ t ∧ t ≤ (vtx V v).length) (hcap : dn ≠ 0 → T.length ≤ 20 ∧ cl.length ≤ 20) : MMi Ω m M_Mdl_layLines rm_Mdl_layLines (fun y μ' => y = t - f ∧ WvV F S B dn μ0 μ' (T ++ slice (vtx V v) f t) cl) μ1 [xi v, xi f, xi t, xi dn] := by
  obtain ⟨w1, w2, w3⟩ := hW
  rcases hdn with e | e
  · subst e
    exact MMi.mono (K_layLines0 (by omega) (by omega)) (fun y μ' ⟨h1, h2⟩ => ⟨h1, by subst h2; exact ⟨w1, w2, fun z => absurd rfl z⟩⟩)
  · subst e
    obtain ⟨hP, R, hR, hRV⟩ := w3 (by decide)
    obtain ⟨c1, c2⟩ := hcap (by decide)
    have lR := hR.len
    have lO := opG_len 0 cl
    have lO' : (opL cl).length ≤ cl.length := lO
    rw [List.length_map] at lR
    exact MMi.mono (K_layLines1 hV v0 h20 hRV hf (by omega)) (fun y μ' ⟨h1, h2, h3⟩ => ⟨h1, w1.trans (h2.mono (by decide) (by decide) (by decide)), fun z => absurd z (by decide), fun _ => ⟨hP.fr h2 (by decide) (by decide), _, hR.app (nm_ge (Nm.sl hN)), h3⟩⟩)
/-- one piece woven -/
theorem weave_piece {σ0 : Sto} {F0 : QF} {i ff sf bf : Nat} (hdn : dn = 0 ∨ dn = 1) (hV : VeV V μ0) (hI : IdV b μ0) (h20 : ∀ v : Int, (vtx V v).length ≤ 20) (hN : ∀ v : Int, Nm b (vtx V v)) (v0 : 0 ≤ v ∧ v < V.length) (w0 : 0 ≤ w ∧ w < V.length) (u0 : 0 ≤ u ∧ u < V.length) (hW : WvV (vtx V v) (vtx V w) (vtx V u) dn μ0 μ1 T cl) (hb : CnB (((ff : Int), p1), ((sf : Int), p2), ((bf : Int), (i : Int)), (T.length : Int), (0 : Int)) (vtx V v) (vtx V w) (vtx V u)) (h10 : Q32 v10) (hcap : dn ≠ 0 → (wpT (vtx V v) (vtx V w) (vtx V u) T (((ff : Int), p1), ((sf : Int), p2), ((bf : Int), (i : Int)), (T.length : Int), (0 : Int))).length ≤ 20 ∧ cl.length ≤ 20) (hT60 : T.length ≤ 60) (hc60 : cl.length ≤ 60)
    (out : ∀ (v13 v14 : Int) μ2, WvV (vtx V v) (vtx V w) (vtx V u) dn μ0 μ2 (wpT (vtx V v) (vtx V w) (vtx V u) T (((ff : Int), p1), ((sf : Int), p2), ((bf : Int), (i : Int)), (T.length : Int), (0 : Int))) (wpC (vtx V v) (vtx V w) (vtx V u) cl (((ff : Int), p1), ((sf : Int), p2), ((bf : Int), (i : Int)), (T.length : Int), (0 : Int))) →
      (v10 = 0 → Mw Ω σ0 m M_Mdl_weave rm_Mdl_weave F0 363 [xr (some m), xi v, xi w, xi u, xi dn, xi bf, xi ff, xi sf, xi (wpT (vtx V v) (vtx V w) (vtx V u) T (((ff : Int), p1), ((sf : Int), p2), ((bf : Int), (i : Int)), (T.length : Int), (0 : Int))).length, xi i, xi v10, xi p1, xi p2, xi v13, xi v14] [xi dn, xi (p1 + 1), xi p1, xi v, xr (some m), xi (wpT (vtx V v) (vtx V w) (vtx V u) T (((ff : Int), p1), ((sf : Int), p2), ((bf : Int), (i : Int)), (T.length : Int), (0 : Int))).length] μ2) ∧
      (¬ v10 = 0 → Mw Ω σ0 m M_Mdl_weave rm_Mdl_weave F0 65 [xr (some m), xi v, xi w, xi u, xi dn, xi ((i : Int) + 1), xi (p1 + 1), xi (p2 + 1), xi (((wpT (vtx V v) (vtx V w) (vtx V u) T (((ff : Int), p1), ((sf : Int), p2), ((bf : Int), (i : Int)), (T.length : Int), (0 : Int))).length : Int) + 0), xi ((i : Int) + 1), xu, xu, xu, xu, xu] [] μ2)) :
    Mw Ω σ0 m M_Mdl_weave rm_Mdl_weave F0 178 [xr (some m), xi v, xi w, xi u, xi dn, xi bf, xi ff, xi sf, xi T.length, xi i, xi v10, xi p1, xi p2, xu, xu] [xi i, xi bf, xi u, xi p1, xi ff, xi v, xr (some m)] μ1 := by
  have hW' := hW
  obtain ⟨w1, w2, w3⟩ := hW'
  have hV1 := hV.fr w1 (by decide) (by decide)
  have hI1 := hI.fr w1 (by decide) (by decide) (by decide) (by decide)
  obtain ⟨b0, b1, b2⟩ := id hb
  have b0' : 0 ≤ (ff : Int) ∧ (ff : Int) ≤ p1 ∧ p1 ≤ (vtx V v).length := b0
  have b1' : 0 ≤ (sf : Int) ∧ (sf : Int) ≤ p2 ∧ p2 ≤ (vtx V w).length := b1
  have b2' : 0 ≤ (bf : Int) ∧ (bf : Int) ≤ (i : Int) ∧ (i : Int) ≤ (vtx V u).length := b2
  have lv := h20 v
  have lw := h20 w
  have lu := h20 u
  refine C_weave_178 (K_areAlike hV1 h20 hI1 hN v0 u0 b0' b2') fun y1 μx hq => ?_
  obtain ⟨hz1, rfl⟩ := hq
  refine B_weave_181 (C_weave_194 (K_areAlike hV1 h20 hI1 hN w0 u0 b1' b2') fun y2 μx hq => ?_)
  obtain ⟨hz2, rfl⟩ := hq
  have q1 : Q32 y1 := by rcases hz1 with ⟨rfl, _⟩ | ⟨rfl, _⟩ <;> decide
  have hg : T.length ≤ (wpT (vtx V v) (vtx V w) (vtx V u) T (((ff : Int), p1), ((sf : Int), p2), ((bf : Int), (i : Int)), (T.length : Int), (0 : Int))).length := wpT_ge
  have hcap' : dn ≠ 0 → T.length ≤ 20 ∧ cl.length ≤ 20 := fun z => ⟨by have := (hcap z).1; omega, (hcap z).2⟩
  -- the first one taken
  have go263 : ∀ v14, y1 = 0 → (alk (vtx V v) (vtx V w) (vtx V u) (((ff : Int), p1), ((sf : Int), p2), ((bf : Int), (i : Int)), (T.length : Int), (0 : Int)) 1 2 ∨ alk (vtx V v) (vtx V w) (vtx V u) (((ff : Int), p1), ((sf : Int), p2), ((bf : Int), (i : Int)), (T.length : Int), (0 : Int)) 1 0) → Mw Ω σ0 m M_Mdl_weave rm_Mdl_weave F0 263 [xr (some m), xi v, xi w, xi u, xi dn, xi bf, xi ff, xi sf, xi T.length, xi i, xi v10, xi p1, xi p2, xi y1, xi v14] [xi dn, xi p1, xi ff, xi v, xr (some m), xi T.length] μx := fun v14 e g => by
    have na : ¬ alk (vtx V v) (vtx V w) (vtx V u) (((ff : Int), p1), ((sf : Int), p2), ((bf : Int), (i : Int)), (T.length : Int), (0 : Int)) 0 2 := by
      rcases hz1 with ⟨h1, _⟩ | ⟨_, h1⟩
      · omega
      · exact h1
    have eT := wpT_1 (T := T) na g
    have eC : wpC (vtx V v) (vtx V w) (vtx V u) cl (((ff : Int), p1), ((sf : Int), p2), ((bf : Int), (i : Int)), (T.length : Int), (0 : Int)) = cl := wpC_1 (Or.inr g)
    rw [eT, eC] at out
    have els := slice_len (S := vtx V v) b0'.1 b0'.2.1 b0'.2.2
    refine C_weave_263 (K_layLinesW hdn hW hV1 v0 lv (hN v) b0' hcap') fun z μ2 hq => ?_
    obtain ⟨rfl, hW2⟩ := hq
    obtain ⟨o1, o2⟩ := out y1 v14 μ2 hW2
    have el : ((T ++ slice (vtx V v) (cnF (((ff : Int), p1), ((sf : Int), p2), ((bf : Int), (i : Int)), (T.length : Int), (0 : Int)) 0) (cnT (((ff : Int), p1), ((sf : Int), p2), ((bf : Int), (i : Int)), (T.length : Int), (0 : Int)) 0)).length : Int) = (T.length : Int) + (p1 - ff) := by
      rw [List.length_append]
      show ((T.length + (slice (vtx V v) (ff : Int) p1).length : Nat) : Int) = _
      rw [els]; omega
    rw [el] at o1 o2
    exact B_weave_266 ⟨h10, o1, o2⟩
  have go239 : ∀ v14, (¬ y1 = 0) → Mw Ω σ0 m M_Mdl_weave rm_Mdl_weave F0 239 [xr (some m), xi v, xi w, xi u, xi dn, xi bf, xi ff, xi sf, xi T.length, xi i, xi v10, xi p1, xi p2, xi y1, xi v14] [xi dn, xi p2, xi sf, xi w, xr (some m), xi T.length] μx := fun v14 e => by
    have na : alk (vtx V v) (vtx V w) (vtx V u) (((ff : Int), p1), ((sf : Int), p2), ((bf : Int), (i : Int)), (T.length : Int), (0 : Int)) 0 2 := by
      rcases hz1 with ⟨_, h1⟩ | ⟨h1, _⟩
      · exact h1
      · exact absurd h1 e
    have eT := wpT_2 (T := T) na
    have eC : wpC (vtx V v) (vtx V w) (vtx V u) cl (((ff : Int), p1), ((sf : Int), p2), ((bf : Int), (i : Int)), (T.length : Int), (0 : Int)) = cl := wpC_1 (Or.inl na)
    rw [eT, eC] at out
    have els := slice_len (S := vtx V w) b1'.1 b1'.2.1 b1'.2.2
    refine C_weave_239 (K_layLinesW hdn hW hV1 w0 lw (hN w) b1' hcap') fun z μ2 hq => ?_
    obtain ⟨rfl, hW2⟩ := hq
    obtain ⟨o1, o2⟩ := out y1 v14 μ2 hW2
    have el : ((T ++ slice (vtx V w) (cnF (((ff : Int), p1), ((sf : Int), p2), ((bf : Int), (i : Int)), (T.length : Int), (0 : Int)) 1) (cnT (((ff : Int), p1), ((sf : Int), p2), ((bf : Int), (i : Int)), (T.length : Int), (0 : Int)) 1)).length : Int) = (T.length : Int) + (p2 - sf) := by
      rw [List.length_append]
      show ((T.length + (slice (vtx V w) (sf : Int) p2).length : Nat) : Int) = _
      rw [els]; omega
    rw [el] at o1 o2
    exact B_weave_242 ⟨h10, o1, o2⟩
  have q2 : Q32 y2 := by rcases hz2 with ⟨rfl, _⟩ | ⟨rfl, _⟩ <;> decide
  refine B_weave_197 ⟨q2, fun e2 => ⟨q1, fun e1 => go263 1 e1 (Or.inl ?_), fun e1 => go239 1 e1⟩, fun e2 => ?_⟩
  · rcases hz2 with ⟨_, h1⟩ | ⟨h1, _⟩
    · exact h1
    · exact absurd h1 e2
  have n12 : ¬ alk (vtx V v) (vtx V w) (vtx V u) (((ff : Int), p1), ((sf : Int), p2), ((bf : Int), (i : Int)), (T.length : Int), (0 : Int)) 1 2 := by
    rcases hz2 with ⟨h1, _⟩ | ⟨_, h1⟩
    · omega
    · exact h1
  refine C_weave_211 (K_areAlike hV1 h20 hI1 hN w0 v0 b1' b0') fun y3 μy hq => ?_
  obtain ⟨hz3, rfl⟩ := hq
  have q3 : Q32 y3 := by rcases hz3 with ⟨rfl, _⟩ | ⟨rfl, _⟩ <;> decide
  refine B_weave_214 ⟨q3, fun e3 => ⟨q1, fun e1 => ?_, fun e1 => go239 0 e1⟩, fun e3 => ⟨q1, fun e1 => go263 1 e1 (Or.inr ?_), fun e1 => go239 1 e1⟩⟩
  · have n02 : ¬ alk (vtx V v) (vtx V w) (vtx V u) (((ff : Int), p1), ((sf : Int), p2), ((bf : Int), (i : Int)), (T.length : Int), (0 : Int)) 0 2 := by
      rcases hz1 with ⟨h1, _⟩ | ⟨_, h1⟩
      · omega
      · exact h1
    have n10 : ¬ alk (vtx V v) (vtx V w) (vtx V u) (((ff : Int), p1), ((sf : Int), p2), ((bf : Int), (i : Int)), (T.length : Int), (0 : Int)) 1 0 := by
      rcases hz3 with ⟨h1, _⟩ | ⟨_, h1⟩
      · omega
      · exact h1
    have eT := wpT_0 (T := T) n02 (fun z => z.elim n12 n10)
    have eC : wpC (vtx V v) (vtx V w) (vtx V u) cl (((ff : Int), p1), ((sf : Int), p2), ((bf : Int), (i : Int)), (T.length : Int), (0 : Int)) = cl ++ [(((ff : Int), p1), ((sf : Int), p2), ((bf : Int), (i : Int)), (T.length : Int), (0 : Int))] := wpC_0 (fun z => z.elim n02 (fun z => z.elim n12 n10))
    rw [eT, eC] at out
    refine ⟨by rcases hdn with e | e <;> omega, fun e4 => ?_, fun e4 => ?_⟩
    · obtain ⟨o1, o2⟩ := out y1 0 μy ⟨w1, w2, fun z => absurd e4 z⟩
      exact ⟨h10, o1, o2⟩
    · obtain ⟨hP, R, hR, hRV⟩ := w3 e4
      obtain ⟨c1, c2⟩ := hcap' e4
      have h17 := hP.1
      have h21 := hP.2.1
      refine C_weave_284 (K_layPiece (p := 0) hV1 v0 lv b0' h17 (by omega) (by decide)) fun μa ha => B_weave_287 ?_
      have hVa := hV1.fr ha.1 (by decide) (by decide)
      refine C_weave_294 (K_layPiece (p := 1) hVa w0 lw b1' ((ha.1.1 17 (by decide)).trans h17) (by omega) (by decide)) fun μb hb' => B_weave_297 ?_
      have kab := ha.1.trans hb'.1
      have hVb := hVa.fr hb'.1 (by decide) (by decide)
      refine C_weave_304 (K_layPiece (p := 2) hVb u0 lu b2' ((kab.1 17 (by decide)).trans h17) (by omega) (by decide)) fun μc hc => ?_
      have kac := kab.trans hc.1
      have hRc : RowV R μc := hRV.fr kac (by decide) (by decide)
      have lR := hR.len
      have lO : (opL cl).length ≤ cl.length := opG_len 0 cl
      rw [List.length_map] at lR
      refine B_weave_307 ?_
      rw [hRc.1, Int.toNat_natCast, kac.1 17 (by decide), h17]
      have gs := hRc.snoc (x := -1 - (cl.length : Int)) (by omega)
      have kd : Fr [15] [9] [] μc (wI (wA μc 9 R.length (-1 - (cl.length : Int))) 15 ((R.length : Int) + 1)) := (Fr.wA (by decide)).trans (Fr.wI (by decide))
      generalize wI (wA μc 9 R.length (-1 - (cl.length : Int))) 15 ((R.length : Int) + 1) = μd at gs kd ⊢
      have kad : Fr [15] [9, 10, 11] [] μy μd := (kac.mono (by decide) (by decide) (by decide)).trans (kd.mono (by decide) (by decide) (by decide))
      refine ⟨by omega, by omega, by omega, by omega, B_weave_332 ?_⟩
      rw [kad.1 17 (by decide), h17]
      have ke : Fr [17] [] [] μd (wI μd 17 ((cl.length : Int) + 1)) := Fr.wI (by decide)
      have i17 : mI (wI μd 17 ((cl.length : Int) + 1)) 17 = (cl.length : Int) + 1 := by rw [mI_wI, if_pos rfl]
      generalize wI μd 17 ((cl.length : Int) + 1) = μe at ke i17 ⊢
      have kce : Fr [15, 17] [9] [] μc μe := (kd.mono (by decide) (by decide) (by decide)).trans (ke.mono (by decide) (by decide) (by decide))
      have sl : ∀ (c : Cnl), CnB c (vtx V v) (vtx V w) (vtx V u) ∨ True := fun _ => Or.inr trivial
      have slen : ∀ (p : Nat) (x y : Int), (slice (t3 (vtx V v) (vtx V w) (vtx V u) p) x y).length ≤ 20 := fun p x y => by
        have g3 : (t3 (vtx V v) (vtx V w) (vtx V u) p).length ≤ 20 := by
          unfold t3
          split
          · exact lv
          · split
            · exact lw
            · exact lu
        unfold slice
        rw [List.length_take, List.length_drop]; omega
      have hPe : PcM (vtx V v) (vtx V w) (vtx V u) (cl ++ [(((ff : Int), p1), ((sf : Int), p2), ((bf : Int), (i : Int)), (T.length : Int), (0 : Int))]) μe := by
        refine ⟨by rw [i17, List.length_append]; rfl, by rw [List.length_append, List.length_singleton]; omega, fun j c hj p hp => ?_⟩
        have back : PcE μc (3 * j + p) (cnT c p - cnF c p) (slice (t3 (vtx V v) (vtx V w) (vtx V u) p) (cnF c p) (cnT c p)) → PcE μe (3 * j + p) (cnT c p - cnF c p) (slice (t3 (vtx V v) (vtx V w) (vtx V u) p) (cnF c p) (cnT c p)) := fun z => z.fr kce (by decide)
        rcases snoc_get hj with ⟨g1, g2⟩ | ⟨g1, g2⟩
        · have z1 : PcE μy (3 * j + p) (cnT c p - cnF c p) (slice (t3 (vtx V v) (vtx V w) (vtx V u) p) (cnF c p) (cnT c p)) := hP.2.2 j c g2 p hp
          exact back (hc.2.2 _ _ _ (by omega) (slen _ _ _) (hb'.2.2 _ _ _ (by omega) (slen _ _ _) (ha.2.2 _ _ _ (by omega) (slen _ _ _) z1)))
        · subst g2
          subst g1
          have hp3 : p = 0 ∨ p = 1 ∨ p = 2 := by omega
          rcases hp3 with e | e | e
          · subst e; exact back (hc.2.2 _ _ _ (by omega) (slen 0 _ _) (hb'.2.2 _ _ _ (by omega) (slen 0 _ _) ha.2.1))
          · subst e; exact back (hc.2.2 _ _ _ (by omega) (slen 1 _ _) hb'.2.1)
          · subst e; exact back hc.2.1
      have hWe : WvV (vtx V v) (vtx V w) (vtx V u) dn μ0 μe T (cl ++ [(((ff : Int), p1), ((sf : Int), p2), ((bf : Int), (i : Int)), (T.length : Int), (0 : Int))]) := ⟨w1.trans ((kac.mono (by decide) (by decide) (by decide)).trans (kce.mono (by decide) (by decide) (by decide))), fun z => absurd z e4, fun _ => ⟨hPe, _, hR.cnf rfl rfl, gs.fr ke (by decide) (by decide)⟩⟩
      obtain ⟨o1, o2⟩ := out y1 0 μe hWe
      exact ⟨by omega, h10, o1, o2⟩
  · rcases hz3 with ⟨_, h1⟩ | ⟨h1, _⟩
    · exact h1
    · exact absurd h1 e3
end MGW
