/-! BY HAND: patches of the reference: both loops -/
section PT5
variable {Ω : Om} {m : Nat} {μ μ0 μ1 : Mu} {S : St} {V : List VR} {b : BR} {v w c : Int} {P : Nat → Int} {ctx np : Nat}
/-- bounds of an entry -/
def Q4B (a b : Nat) (q : Q4) : Prop := q.1 ≤ q.2.1 ∧ q.2.1 ≤ a ∧ q.2.2.1 ≤ q.2.2.2 ∧ q.2.2.2 ≤ b
theorem patch_loop {σ0 : Sto} {F0 : QF} {R : List Q4} (hV : VeV V μ0) (hI : IdV b μ0) (h29 : mI μ0 29 = np) (hn : np < 10) (v0 : 0 ≤ v ∧ v < V.length) (w0 : 0 ≤ w ∧ w < V.length) (l1 : (vtx V v).length ≤ 20) (l2 : (vtx V w).length ≤ 20) (n1 : Nm b (vtx V v)) (n2 : Nm b (vtx V w)) (hP : PrOK P (vtx V v).length (vtx V w).length) (hPm : ∀ k, k < (vtx V v).length → mA μ0 30 k = P k)
    (out : ∀ (x y z : Int) μ1, LoQ (21 * np) μ0 μ1 → (∀ (h : Nat) e, R[h]? = some e → RwE (vtx V v) (vtx V w) μ1 (21 * np + h) e ∧ Q4B (vtx V v).length (vtx V w).length e) → Mw Ω σ0 m M_Mdl_patch rm_Mdl_patch F0 221 [xr (some m), xi v, xi w, xi c, xi 1, xi R.length, xi x, xi y, xi 0, xu, xu, xu, xu, xu, xu, xu] [] (wA μ1 17 np R.length)) :
    ∀ (d i fr ot : Nat) (acc : List Q4) (μ1 : Mu), i + d = (vtx V v).length + 1 → acc ++ rwN (vtx V v) (vtx V w) P d i fr ot = R → fr ≤ i → (i ≤ (vtx V v).length → ot ≤ (vtx V w).length) → acc.length ≤ i → (∀ j, i ≤ j → j < (vtx V v).length → P j ≠ -1 → (ot : Int) ≤ P j) → ot ≤ 21 → LoQ (21 * np) μ0 μ1 → (∀ (h : Nat) e, acc[h]? = some e → RwE (vtx V v) (vtx V w) μ1 (21 * np + h) e ∧ Q4B (vtx V v).length (vtx V w).length e) →
    Mw Ω σ0 m M_Mdl_patch rm_Mdl_patch F0 88 [xr (some m), xi v, xi w, xi c, xi 1, xi acc.length, xi fr, xi ot, xi i, xu, xu, xu, xu, xu, xu, xu] [] μ1 := by
  have h40 := hV.2.1
  intro d
  induction d with
  | zero =>
    intro i fr ot acc μ1 hi hR hfr hot hacc hor h21 hL hE
    have hV1 := hV.fr hL.1 (by decide) (by decide)
    rw [rwN, List.append_nil] at hR
    subst hR
    refine B_patch_88 ?_
    rw [hV1.sz v0.1 v0.2, hL.1.1 29 (by decide), h29, Int.toNat_natCast]
    exact ⟨by omega, by omega, by omega, fun _ => ⟨by omega, by omega, by omega, out _ _ 0 μ1 hL hE⟩, fun z => absurd (by omega) z⟩
  | succ d ih =>
    intro i fr ot acc μ1 hi hR hfr hot hacc hor h21 hL hE
    have hV1 := hV.fr hL.1 (by decide) (by decide)
    have hI1 := hI.fr hL.1 (by decide) (by decide) (by decide) (by decide)
    have e29 : mI μ1 29 = np := (hL.1.1 29 (by decide)).trans h29
    rw [rwN] at hR
    -- a place that ends a run
    have fin : flP (vtx V v) (vtx V w) P i ≠ -1 → ∃ pr : Nat, flP (vtx V v) (vtx V w) P i = pr ∧ ot ≤ pr ∧ pr ≤ (vtx V w).length ∧ (i < (vtx V v).length → pr < (vtx V w).length) ∧ ∀ j, i + 1 ≤ j → j < (vtx V v).length → P j ≠ -1 → ((pr + 1 : Nat) : Int) ≤ P j := fun h => by
      unfold flP at h ⊢
      by_cases li : i < (vtx V v).length
      · rw [if_pos li] at h ⊢
        have r := (hP.1 i li).resolve_left h
        have g := hor i (Nat.le_refl _) li h
        refine ⟨(P i).toNat, by omega, by omega, by omega, fun _ => by omega, fun j j1 j2 j3 => ?_⟩
        have := hP.2 i j (by omega) j2 h j3
        omega
      · rw [if_neg li]
        have := hot (by omega)
        exact ⟨_, rfl, by omega, Nat.le_refl _, fun z => absurd z li, fun j j1 j2 => absurd j2 (by omega)⟩
    have K : ∀ (v9 : Int) (pr : Nat), flP (vtx V v) (vtx V w) P i = pr → (fr < i ∨ ot < pr) → Mw Ω σ0 m M_Mdl_patch rm_Mdl_patch F0 183 [xr (some m), xi v, xi w, xi c, xi 1, xi acc.length, xi fr, xi ot, xi i, xi v9, xi pr, xu, xu, xu, xu, xu] [xi pr, xi ot, xi w, xi i, xi fr, xi v, xi acc.length, xr (some m)] μ1 := fun v9 pr e g => by
      have hne : flP (vtx V v) (vtx V w) P i ≠ -1 := by rw [e]; omega
      obtain ⟨pr', e', f1, f2, f3, f4⟩ := fin hne
      have ep : pr' = pr := by rw [e] at e'; omega
      subst ep
      rw [if_neg hne, e, if_pos (by omega), Int.toNat_natCast, ← List.append_assoc] at hR
      have hB : Q4B (vtx V v).length (vtx V w).length (fr, i, ot, pr') := ⟨hfr, by show i ≤ _; omega, f1, f2⟩
      refine C_patch_183 (K_layHunk hV1 hI1 e29 hn (by omega) v0 w0 l1 l2 n1 n2 ⟨hfr, by omega⟩ ⟨f1, f2⟩) fun μ2 hq => B_patch_186 ?_
      obtain ⟨q1, q2⟩ := hq
      have hb2 := ih (i + 1) (i + 1) (pr' + 1) (acc ++ [(fr, i, ot, pr')]) μ2 (by omega) hR (Nat.le_refl _) (fun z => by have := f3 (by omega); omega) (by rw [List.length_append, List.length_singleton]; omega) f4 (by omega) (hL.trans (q1.lo (by omega))) (fun h e3 he => ?_)
      · rw [List.length_append, List.length_singleton] at hb2
        exact hb2
      · rcases snoc_get he with ⟨g1, g2⟩ | ⟨g1, g2⟩
        · obtain ⟨z1, z2⟩ := hE h e3 g2
          obtain ⟨y1, y2, y3, y4⟩ := id z2
          exact ⟨z1.lo q1 (by omega) (by omega) (by omega), z2⟩
        · subst g2
          rw [g1]
          exact ⟨q2, hB⟩
    have K88 : ∀ (pr : Nat), flP (vtx V v) (vtx V w) P i = pr → ¬ (fr < i ∨ ot < pr) → Mw Ω σ0 m M_Mdl_patch rm_Mdl_patch F0 88 [xr (some m), xi v, xi w, xi c, xi 1, xi acc.length, xi ((i : Int) + 1), xi ((pr : Int) + 1), xi ((i : Int) + 1), xu, xu, xu, xu, xu, xu, xu] [] μ1 := fun pr e g => by
      have hne : flP (vtx V v) (vtx V w) P i ≠ -1 := by rw [e]; omega
      obtain ⟨pr', e', f1, f2, f3, f4⟩ := fin hne
      have ep : pr' = pr := by rw [e] at e'; omega
      subst ep
      rw [if_neg hne, e, if_neg (by omega), Int.toNat_natCast, List.nil_append] at hR
      exact ih (i + 1) (i + 1) (pr' + 1) acc μ1 (by omega) hR (Nat.le_refl _) (fun z => by have := f3 (by omega); omega) (by omega) f4 (by omega) hL hE
    refine B_patch_88 ?_
    rw [hV1.sz v0.1 v0.2]
    refine ⟨by omega, by omega, by omega, fun z => absurd z (by omega), fun _ => ⟨fun z => ?_, fun z => ?_⟩⟩
    · have li : i < (vtx V v).length := by omega
      have r30 : mA μ1 30 i = P i := by rw [hL.1.2.1 30 (by decide)]; exact hPm i li
      have ef : flP (vtx V v) (vtx V w) P i = P i := by unfold flP; rw [if_pos li]
      refine B_patch_115 ?_
      rw [Int.toNat_natCast, r30]
      refine ⟨by decide, fun z => absurd rfl z, fun _ => ⟨by omega, by omega, fun e => ?_, fun e => ?_⟩⟩
      · rw [ef, if_pos e] at hR
        exact B_patch_201 (ih (i + 1) fr ot acc μ1 (by omega) hR (by omega) (fun _ => hot (by omega)) (by omega) (fun j j1 j2 j3 => hor j (by omega) j2 j3) h21 hL hE)
      · obtain ⟨pr, e', f1, f2, f3, f4⟩ := fin (by rw [ef]; exact e)
        refine B_patch_133 ?_
        rw [Int.toNat_natCast, r30, ← ef, e']
        refine ⟨by decide, fun _ => ⟨by omega, by omega, by omega, by omega, fun g => K 0 pr e' (Or.inl (by omega)), fun g => ⟨by omega, fun g2 => K88 pr e' (by omega), fun g2 => K 0 pr e' (Or.inr (by omega))⟩⟩, fun z => absurd rfl z⟩
    · have ei : i = (vtx V v).length := by omega
      have ef : flP (vtx V v) (vtx V w) P i = ((vtx V w).length : Int) := by unfold flP; rw [if_neg (by omega)]
      refine B_patch_115 ⟨by decide, fun _ => ?_, fun z => absurd z (by decide)⟩
      refine B_patch_133 ?_
      rw [hV1.sz w0.1 w0.2]
      exact ⟨by decide, fun z => absurd z (by decide), fun _ => ⟨by omega, by omega, by omega, by omega, fun g => K 1 _ ef (Or.inl (by omega)), fun g => ⟨by omega, fun g2 => K88 _ ef (by omega), fun g2 => K 1 _ ef (Or.inr (by omega))⟩⟩⟩
/-- the lines around a hunk -/
theorem ctx_loop {σ0 : Sto} {F0 : QF} {h q fr i ah bh x : Nat} {v10 v12 x6 x7 : Int} (hV : VeV V μ) (hI : IdV b μ) (v0 : 0 ≤ v ∧ v < V.length) (l1 : (vtx V v).length ≤ 20) (n1 : Nm b (vtx V v)) (h18 : mA μ 18 q = fr) (ha : ah ≤ fr ∧ ah ≤ 3) (hb : i + bh ≤ (vtx V v).length ∧ bh ≤ 3) (hfi : fr ≤ i) (hq : q < 210)
    (out : ∀ μ1, Fr [] [] [22] μ μ1 → (∀ k, k < 6 * q → mG μ1 22 k = mG μ 22 k) → (∀ k, k < ah → mG μ1 22 (6 * q + k) = lnA (vtx V v) ((fr : Int) - ah + k)) → (∀ k, k < bh → mG μ1 22 (6 * q + 3 + k) = lnA (vtx V v) ((i : Int) + k)) → Mw Ω σ0 m M_Mdl_patch rm_Mdl_patch F0 221 [xr (some m), xi v, xi w, xi c, xi 1, xi x, xi x6, xi x7, xi ((h : Int) + 1), xu, xu, xu, xu, xu, xu, xu] [] μ1) :
    ∀ (d k : Nat) (μ1 : Mu), k + d = 3 → Fr [] [] [22] μ μ1 → (∀ j, j < 6 * q → mG μ1 22 j = mG μ 22 j) → (∀ j, j < k → j < ah → mG μ1 22 (6 * q + j) = lnA (vtx V v) ((fr : Int) - ah + j)) → (∀ j, j < k → j < bh → mG μ1 22 (6 * q + 3 + j) = lnA (vtx V v) ((i : Int) + j)) → Mw Ω σ0 m M_Mdl_patch rm_Mdl_patch F0 399 [xr (some m), xi v, xi w, xi c, xi 1, xi x, xi x6, xi x7, xi h, xi q, xi v10, xi i, xi v12, xi ah, xi bh, xi k] [] μ1 := by
  have h40 := hV.2.1
  intro d
  induction d with
  | zero =>
    intro k μ1 hk hF g1 g2 g3
    exact B_patch_399 ⟨by omega, fun _ => out μ1 hF g1 (fun j hj => g2 j (by omega) hj) (fun j hj => g3 j (by omega) hj), fun z => absurd (by omega) z⟩
  | succ d ih =>
    intro k μ1 hk hF g1 g2 g3
    have hV1 := hV.fr hF (by decide) (by decide)
    have hI1 := hI.fr hF (by decide) (by decide) (by decide) (by decide)
    have e18 : mA μ1 18 q = fr := by rw [hF.2.1 18 (by decide)]; exact h18
    have K457 : ∀ y : Int64, (k < ah → y = lnA (vtx V v) ((fr : Int) - ah + k)) → Mw Ω σ0 m M_Mdl_patch rm_Mdl_patch F0 457 [xr (some m), xi v, xi w, xi c, xi 1, xi x, xi x6, xi x7, xi h, xi q, xi v10, xi i, xi v12, xi ah, xi bh, xi k] [] (wG μ1 22 (6 * q + k) y) := fun y hy => by
      have K399 : ∀ z : Int64, (k < bh → z = lnA (vtx V v) ((i : Int) + k)) → Mw Ω σ0 m M_Mdl_patch rm_Mdl_patch F0 399 [xr (some m), xi v, xi w, xi c, xi 1, xi x, xi x6, xi x7, xi h, xi q, xi v10, xi i, xi v12, xi ah, xi bh, xi ((k : Int) + 1)] [] (wG (wG μ1 22 (6 * q + k) y) 22 (6 * q + 3 + k) z) := fun z hz => by
        refine ih (k + 1) _ (by omega) (hF.trans ((Fr.wG (by decide)).trans (Fr.wG (by decide)))) (fun j hj => ?_) (fun j j1 j2 => ?_) (fun j j1 j2 => ?_)
        · rw [mG_wG, if_neg (by omega), mG_wG, if_neg (by omega)]; exact g1 j hj
        · rw [mG_wG, if_neg (by omega), mG_wG]
          by_cases e : j = k
          · subst e; rw [if_pos ⟨rfl, rfl⟩]; exact hy j2
          · rw [if_neg (by omega)]; exact g2 j (by omega) j2
        · rw [mG_wG]
          by_cases e : j = k
          · subst e; rw [if_pos ⟨rfl, rfl⟩]; exact hz j2
          · rw [if_neg (by omega), mG_wG, if_neg (by omega)]; exact g3 j (by omega) j2
      refine B_patch_457 ?_
      rw [show (6 * (q : Int) + 3 + (k : Int)).toNat = 6 * q + 3 + k by omega, mA_wG]
      refine ⟨by omega, by omega, fun z => ⟨by omega, by omega, K399 0 (fun g => by omega)⟩, fun z => ?_⟩
      obtain ⟨y2, s1, s2, s3, s4⟩ := sg_at hV1 hI1 n1 v0 (j := i + k) (by omega)
      rw [show (20 * v + (i : Int) + (k : Int)).toNat = 20 * v.toNat + (i + k) by omega, s1]
      have e9 : mG (wG μ1 22 (6 * q + k) y) 1 = mG μ1 1 := funext fun j => by rw [mG_wG, if_neg (fun z => absurd z.1 (by decide))]
      rw [e9, s4]
      exact ⟨by omega, by omega, s2, by omega, by omega, by omega, K399 _ (fun _ => by rw [show ((i + k : Nat) : Int) = (i : Int) + k by omega])⟩
    refine B_patch_399 ?_
    rw [show (6 * (q : Int) + (k : Int)).toNat = 6 * q + k by omega, Int.toNat_natCast, e18]
    refine ⟨by omega, fun z => absurd z (by omega), fun _ => ⟨by omega, fun z => ⟨by omega, by omega, K457 0 (fun g => by omega)⟩, fun z => ?_⟩⟩
    obtain ⟨y2, s1, s2, s3, s4⟩ := sg_at hV1 hI1 n1 v0 (j := fr - ah + k) (by omega)
    rw [show (20 * v + (fr : Int) - (ah : Int) + (k : Int)).toNat = 20 * v.toNat + (fr - ah + k) by omega, s1, s4]
    exact ⟨by omega, by omega, by omega, by omega, s2, by omega, by omega, by omega, K457 _ (fun _ => by rw [show ((fr - ah + k : Nat) : Int) = (fr : Int) - ah + k by omega])⟩
end PT5
