/-! BY HAND: moves, by the reference -/
theorem ltG_bytes {x : Int64} (h : isLn x = true) : ∀ (f i : Nat) (a : Int64) (c : Nat), i + f = 8 → c ≤ i → (∀ j : Nat, j < c → 97 ≤ sg a j ∧ sg a j ≤ 122) → (∀ j : Nat, c ≤ j → j < 8 → sg a j = 0) → (∀ j : Nat, j < lcG x f i c → 97 ≤ sg (ltG x f i a c) j ∧ sg (ltG x f i a c) j ≤ 122) ∧ ∀ j : Nat, lcG x f i c ≤ j → j < 8 → sg (ltG x f i a c) j = 0
  | 0, i, a, c, hi, hc, h1, h2 => ⟨h1, h2⟩
  | f + 1, i, a, c, hi, hc, h1, h2 => by
    rw [lcG_s]
    simp only [ltG]
    have hs := ln_sg h (j := i) (by omega)
    have hr := sg_r x i
    by_cases d : 97 ≤ sg x i ∧ sg x i ≤ 122
    · rw [if_pos d, if_pos ⟨by omega, by omega⟩]
      refine ltG_bytes h f (i + 1) _ (c + 1) (by omega) (by omega) (fun j hj => ?_) (fun j hj hj8 => ?_)
      · rw [sg_or hr (by omega) (by omega) (h2 c (Nat.le_refl _) (by omega))]
        split
        · exact d
        · exact h1 j (by omega)
      · rw [sg_or hr (by omega) hj8 (h2 c (Nat.le_refl _) (by omega)), if_neg (by omega)]
        exact h2 j (by omega) hj8
    · rw [if_neg d, if_neg (fun z => by omega)]
      exact ltG_bytes h f (i + 1) a c (by omega) (by omega) h1 h2
theorem sg_zero {j : Nat} (h : j < 8) : sg 0 j = 0 := by
  rw [sg_n h]
  have : nnL 0 = 0 := rfl
  rw [this, Nat.zero_shiftRight]; rfl
theorem ltL_bytes {x : Int64} (h : isLn x = true) : (∀ j : Nat, j < lcN x → 97 ≤ sg (ltL x) j ∧ sg (ltL x) j ≤ 122) ∧ ∀ j : Nat, lcN x ≤ j → j < 8 → sg (ltL x) j = 0 :=
  ltG_bytes h 8 0 0 0 rfl (Nat.le_refl _) (fun j hj => by omega) (fun j _ hj => sg_zero hj)
theorem ltG_all {y : Int64} {n : Nat} (h1 : ∀ j : Nat, j < n → 97 ≤ sg y j ∧ sg y j ≤ 122) (h2 : ∀ j : Nat, n ≤ j → j < 8 → sg y j = 0) (hn : n ≤ 8) : ∀ (f i : Nat) (a : Int64) (c : Nat), i + f = 8 → (c = i ∧ i ≤ n ∨ n ≤ i ∧ c = n) → (∀ j : Nat, j < c → 97 ≤ sg a j ∧ sg a j ≤ 122) → (∀ j : Nat, c ≤ j → j < 8 → sg a j = 0) → lenL (ltG y f i a c) = n
  | 0, i, a, c, hi, hc, k1, k2 => by
    simp only [ltG]
    have e : c = n := by omega
    have en : c ≤ 8 := by omega
    have e2 : lenL a = c := lenL_is en (fun j hj => by have := k1 j hj; omega) (fun z => k2 c (Nat.le_refl _) z)
    rw [e2]
    omega
  | f + 1, i, a, c, hi, hc, k1, k2 => by
    simp only [ltG]
    have hr := sg_r y i
    by_cases d : i < n
    · have hl := h1 i d
      have ec : c = i := by omega
      subst ec
      rw [if_pos ⟨by omega, by omega⟩]
      refine ltG_all h1 h2 hn f (c + 1) _ (c + 1) (by omega) (Or.inl ⟨rfl, by omega⟩) (fun j hj => ?_) (fun j hj hj8 => ?_)
      · rw [sg_or hr (by omega) (by omega) (k2 c (Nat.le_refl _) (by omega))]
        split
        · exact hl
        · exact k1 j (by omega)
      · rw [sg_or hr (by omega) hj8 (k2 c (Nat.le_refl _) (by omega)), if_neg (by omega)]
        exact k2 j (by omega) hj8
    · have hz := h2 i (by omega) (by omega)
      rw [if_neg (fun z => z.1 hz)]
      exact ltG_all h1 h2 hn f (i + 1) a c (by omega) (by omega) k1 k2
theorem ltL_len {x : Int64} (h : isLn x = true) : lenL (ltL (ltL x)) = lcN x := by
  obtain ⟨h1, h2⟩ := ltL_bytes h
  exact ltG_all h1 h2 (lcN_le x) 8 0 0 0 rfl (Or.inl ⟨rfl, Nat.zero_le _⟩) (fun j hj => by omega) (fun j _ hj => sg_zero hj)
theorem key_len {x : Int64} {lb : Int} (h : isLn x = true) : lenL (ltL (kyL lb x)) = lcN x := by
  unfold kyL
  split
  · exact (lcN_eq h).symm
  · exact ltL_len h
section CMM
variable {Ω : Om} {m : Nat} {μ : Mu} {V : List VR} {b : BR} {v w lb : Int}
/-- what is compared -/
def CmI (X : List Int64) (P M : Nat → Int) (μ : Mu) : Prop := mI μ 26 = X.length ∧ ∀ k, k < X.length → mA μ 15 k = P k ∧ mA μ 16 k = M k
theorem isTaken_loop {σ0 : Sto} {X : List Int64} {P M : Nat → Int} (h : CmI X P M μ) (h20 : X.length ≤ 20) {j : Nat} (hj : j < 100) : ∀ (d k : Nat) (x : Int), k + d = X.length → (x = 0 ∨ x = 1) → (x = 0 → ∀ q, q < k → P q ≠ j ∧ M q ≠ j) → (x = 1 → ∃ q, q < X.length ∧ ¬ (P q ≠ j ∧ M q ≠ j)) → Mw Ω σ0 m M_Mdl_isTaken rm_Mdl_isTaken (MQi Ω σ0 m rm_Mdl_isTaken (fun y μ' => y = bI (¬ fr X.length P M j = true) ∧ μ' = μ)) 4 [xr (some m), xi j, xi x, xi k] [] μ := by
  intro d
  induction d with
  | zero =>
    intro k x hk hx h0 h1
    refine B_isTaken_4 ⟨by omega, fun _ => R_isTaken_49 hx ⟨?_, rfl⟩, fun c => absurd (by rw [h.1]; omega) c⟩
    rcases hx with rfl | rfl
    · rw [bI_f]
      intro z
      exact z (fr_iff.mpr (fun q hq => h0 rfl q (by omega)))
    · rw [bI_t]
      intro z
      obtain ⟨q, q1, q2⟩ := h1 rfl
      exact q2 (fr_iff.mp z q q1)
  | succ d ih =>
    intro k x hk hx h0 h1
    obtain ⟨e1, e2⟩ := h.2 k (by omega)
    have hxx : Q32 x := by rcases hx with rfl | rfl <;> exact ⟨by decide, by decide⟩
    refine B_isTaken_4 ⟨by omega, fun c => absurd c (by rw [h.1]; omega), fun _ => ⟨hxx, fun c => ?_, fun c => ⟨by omega, by omega, by omega, fun c2 => ?_, fun c2 => ⟨by omega, by omega, fun c3 => ?_, fun c3 => ?_⟩⟩⟩⟩
    · exact ih (k + 1) 1 (by omega) (Or.inr rfl) (fun z => by cases z) (fun _ => h1 (hx.resolve_left c))
    · rw [Int.toNat_natCast, e1] at c2
      exact ih (k + 1) 1 (by omega) (Or.inr rfl) (fun z => by cases z) (fun _ => ⟨k, by omega, fun z => z.1 c2⟩)
    · rw [Int.toNat_natCast] at c2 c3
      rw [e1] at c2
      rw [e2] at c3
      refine ih (k + 1) 0 (by omega) (Or.inl rfl) (fun _ q hq => ?_) (fun z => by cases z)
      by_cases e : q = k
      · rw [e]; exact ⟨c2, c3⟩
      · exact h0 c q (by omega)
    · rw [Int.toNat_natCast] at c3
      rw [e2] at c3
      exact ih (k + 1) 1 (by omega) (Or.inr rfl) (fun z => by cases z) (fun _ => ⟨k, by omega, fun z => z.2 c3⟩)
theorem K_isTaken {X : List Int64} {P M : Nat → Int} (h : CmI X P M μ) (h20 : X.length ≤ 20) {j : Nat} (hj : j < 100) : MMi Ω m M_Mdl_isTaken rm_Mdl_isTaken (fun y μ' => y = bI (¬ fr X.length P M j = true) ∧ μ' = μ) μ [xi j] :=
  E_isTaken fun σ0 => B_isTaken_0 (isTaken_loop h h20 hj X.length 0 0 (by omega) (Or.inl rfl) (fun _ q hq => absurd hq (by omega)) (fun z => by cases z))
abbrev MvF (Ω : Om) (σ0 : Sto) (m : Nat) (μ : Mu) (X Y : List Int64) (P M : Nat → Int) : QF := MQi Ω σ0 m rm_Mdl_findMove (fun y μ' => y = bI (0 < (bst X Y P M).1) ∧ Fr [] [16] [] μ μ' ∧ CmI X P (tkM X Y P M) μ')
theorem rn_le {X Y : List Int64} {P M : Nat → Int} : ∀ (f i j : Nat), i ≤ X.length → j ≤ Y.length → i + rnM X Y P M f i j ≤ X.length ∧ j + rnM X Y P M f i j ≤ Y.length := by
  intro f
  induction f with
  | zero => intro i j hi hj; exact ⟨hi, hj⟩
  | succ f ih =>
    intro i j hi hj
    rw [rnM]
    split
    · rename_i ho
      have o := okM_iff.mp ho
      have := ih (i + 1) (j + 1) (by omega) (by omega)
      omega
    · omega
/-- one run -/
theorem fm_run {σ0 : Sto} {F : QF} {X Y : List Int64} {P M : Nat → Int} (h : PrH V b v w lb μ) (eX : X = XL lb (vtx V v)) (eY : Y = XL lb (vtx V w)) (hC : CmI X P M μ) {s : Nat × Nat × Nat} {i j : Nat} (hi : i < X.length) (hj : j < Y.length) (hs : s.1 ≤ X.length) (out : ∀ s', s' = (if s.1 < mvL X Y P M i j then (mvL X Y P M i j, i, j) else s) → Mw Ω σ0 m M_Mdl_findMove rm_Mdl_findMove F 26 [xr (some m), xi v, xi w, xi lb, xi s'.1, xi s'.2.1, xi s'.2.2, xi i, xi ((j : Int) + 1), xu, xu] [] μ) : ∀ (f n : Nat), X.length ≤ n + f → n + rnM X Y P M f (i + n) (j + n) = rnM X Y P M X.length i j → Mw Ω σ0 m M_Mdl_findMove rm_Mdl_findMove F 40 [xr (some m), xi v, xi w, xi lb, xi s.1, xi s.2.1, xi s.2.2, xi i, xi j, xi n, xu] [] μ := by
  intro f
  have v0 := h.2.2.2.2.1
  have w0 := h.2.2.2.2.2.1
  have h40 := h.1.2.1
  have lX : X.length = (vtx V v).length := by rw [eX, XL_len]
  have lY : Y.length = (vtx V w).length := by rw [eY, XL_len]
  have l1 := h.2.1 v
  have l2 := h.2.1 w
  have e4 := h.1.sz v0.1 v0.2
  have e5 := h.1.sz w0.1 w0.2
  have rle := rn_le (X := X) (Y := Y) (P := P) (M := M) X.length i j (by omega) (by omega)
  obtain ⟨x1, y1⟩ : ∃ x1, (vtx V v)[i]? = some x1 := ⟨_, List.getElem?_eq_getElem (show i < (vtx V v).length by omega)⟩
  have n1 := (h.2.2.2.1 v).at y1
  have t1 := h.1.tx v0.1 v0.2 y1
  have h12 := h.2.2.1.2.1
  have eI := (h.2.2.1.2.2 x1.2.toNat (by omega)).1
  have keep : ∀ n : Nat, n = rnM X Y P M X.length i j → Mw Ω σ0 m M_Mdl_findMove rm_Mdl_findMove F 152 [xr (some m), xi v, xi w, xi lb, xi s.1, xi s.2.1, xi s.2.2, xi i, xi j, xi n, xu] [] μ ∧ Q32 (n : Int) ∧ (((1 : Int) < n → Q32 (s.1 : Int) ∧ (((n : Int) ≤ s.1 → Mw Ω σ0 m M_Mdl_findMove rm_Mdl_findMove F 26 [xr (some m), xi v, xi w, xi lb, xi s.1, xi s.2.1, xi s.2.2, xi i, xi ((j : Int) + 1), xu, xu] [] μ) ∧ (¬ (n : Int) ≤ s.1 → Mw Ω σ0 m M_Mdl_findMove rm_Mdl_findMove F 26 [xr (some m), xi v, xi w, xi lb, xi n, xi i, xi j, xi i, xi ((j : Int) + 1), xu, xu] [] μ))) ∧ (¬ (1 : Int) < n → ((¬ (n : Int) = (1 : Int) → Mw Ω σ0 m M_Mdl_findMove rm_Mdl_findMove F 26 [xr (some m), xi v, xi w, xi lb, xi s.1, xi s.2.1, xi s.2.2, xi i, xi ((j : Int) + 1), xu, xu] [] μ) ∧ ((n : Int) = (1 : Int) → 0 ≤ 20 * v + (i : Int) ∧ 20 * v + (i : Int) < 800 ∧ 0 ≤ mA μ 5 (20 * v + (i : Int)).toNat ∧ mA μ 5 (20 * v + (i : Int)).toNat < 16384 ∧ Mw Ω σ0 m M_Mdl_findMove rm_Mdl_findMove F 181 [xr (some m), xi v, xi w, xi lb, xi s.1, xi s.2.1, xi s.2.2, xi i, xi j, xi n, xu] [xl (mG μ 1 (mA μ 5 (20 * v + (i : Int)).toNat).toNat)] μ)))) := fun n hn => by
    have core : Q32 (n : Int) ∧ (((1 : Int) < n → Q32 (s.1 : Int) ∧ (((n : Int) ≤ s.1 → Mw Ω σ0 m M_Mdl_findMove rm_Mdl_findMove F 26 [xr (some m), xi v, xi w, xi lb, xi s.1, xi s.2.1, xi s.2.2, xi i, xi ((j : Int) + 1), xu, xu] [] μ) ∧ (¬ (n : Int) ≤ s.1 → Mw Ω σ0 m M_Mdl_findMove rm_Mdl_findMove F 26 [xr (some m), xi v, xi w, xi lb, xi n, xi i, xi j, xi i, xi ((j : Int) + 1), xu, xu] [] μ))) ∧ (¬ (1 : Int) < n → ((¬ (n : Int) = (1 : Int) → Mw Ω σ0 m M_Mdl_findMove rm_Mdl_findMove F 26 [xr (some m), xi v, xi w, xi lb, xi s.1, xi s.2.1, xi s.2.2, xi i, xi ((j : Int) + 1), xu, xu] [] μ) ∧ ((n : Int) = (1 : Int) → 0 ≤ 20 * v + (i : Int) ∧ 20 * v + (i : Int) < 800 ∧ 0 ≤ mA μ 5 (20 * v + (i : Int)).toNat ∧ mA μ 5 (20 * v + (i : Int)).toNat < 16384 ∧ Mw Ω σ0 m M_Mdl_findMove rm_Mdl_findMove F 181 [xr (some m), xi v, xi w, xi lb, xi s.1, xi s.2.1, xi s.2.2, xi i, xi j, xi n, xu] [xl (mG μ 1 (mA μ 5 (20 * v + (i : Int)).toNat).toNat)] μ)))) := by
      have kl : lenL (ltL (gx X i)) = lcN x1.1 := by rw [eX, XL_key y1]; exact key_len n1.2.2.2
      have mv : mvL X Y P M i j = if n = 1 ∧ lcN x1.1 < 4 then 0 else n := by unfold mvL; rw [← hn, kl]
      refine ⟨by omega, fun c => ⟨by omega, fun c2 => ?_, fun c2 => ?_⟩, fun c => ⟨fun c2 => ?_, fun c2 => ?_⟩⟩
      · rw [if_neg (by omega)] at mv
        exact out s (by rw [mv, if_neg (by omega)])
      · rw [if_neg (by omega)] at mv
        exact out (n, i, j) (by rw [mv, if_pos (by omega)])
      · have e : mvL X Y P M i j = 0 := by rw [mv]; split <;> omega
        exact out s (by rw [e, if_neg (by omega)])
      · rw [show (20 * v + (i : Int)).toNat = 20 * v.toNat + i by omega, t1, eI]
        refine ⟨by omega, by omega, n1.1, by omega, C_findMove_181 k_letters fun y hy => ?_⟩
        subst hy
        have b8 := lcN_le x1.1
        rw [n1.2.2.1]
        refine B_findMove_184 ⟨by omega, fun c3 => ?_, fun c3 => ⟨by omega, by omega, fun c4 => ?_, fun c4 => ?_⟩⟩
        · rw [if_pos ⟨by omega, by omega⟩] at mv
          exact out s (by rw [mv, if_neg (by omega)])
        · rw [if_neg (by omega)] at mv
          exact out s (by rw [mv, if_neg (by omega)])
        · rw [if_neg (by omega)] at mv
          exact out (n, i, j) (by rw [mv, if_pos (by omega)])
    exact ⟨B_findMove_152 core, core⟩
  induction f with
  | zero =>
    intro n hf hn
    have hn' : n = rnM X Y P M X.length i j := by rw [rnM] at hn; exact hn
    refine B_findMove_40 ⟨by omega, by omega, by omega, fun c => (keep n hn').1, fun c => absurd (by rw [e4]; omega) c⟩
  | succ f ih =>
    intro n hf hn
    by_cases ho : okM X Y P M (i + n) (j + n) = true
    · rw [rnM, if_pos ho] at hn
      obtain ⟨o1, o2, o3, o4, o5, o6⟩ := okM_iff.mp ho
      obtain ⟨g1, g2⟩ := hC.2 (i + n) o1
      refine B_findMove_40 ⟨by omega, by omega, by omega, fun c => absurd c (by rw [e4]; omega), fun _ => ⟨by omega, by omega, by omega, fun c => absurd c (by rw [e5]; omega), fun _ => ⟨by omega, by omega, fun c => absurd ?_ c, fun _ => ⟨by omega, by omega, fun c => absurd ?_ c, fun _ => ?_⟩⟩⟩⟩
      · rw [show ((i : Int) + (n : Int)).toNat = i + n by omega, g1]; exact o3
      · rw [show ((i : Int) + (n : Int)).toNat = i + n by omega, g2]; exact o4
      · have tk := K_isTaken (Ω := Ω) (m := m) hC (by omega) (j := j + n) (by omega)
        rw [show (((j + n : Nat)) : Int) = (j : Int) + (n : Int) by omega] at tk
        refine C_findMove_102 tk fun y μ1 hq => ?_
        obtain ⟨rfl, rfl⟩ := hq
        rw [bI_f (fun z => z o5)]
        obtain ⟨a, c', s1, s2, s3, s4, s5⟩ := h.same (Ω := Ω) (m := m) (F := F) (σ0 := σ0) (i := i + n) (j := j + n) (by omega) (by omega)
        rw [← eX, ← eY] at s5
        refine B_findMove_105 ⟨by decide, fun z => absurd rfl z, fun _ => ⟨by omega, by omega, by omega, by omega, ?_⟩⟩
        rw [show (20 * v + (i : Int) + (n : Int)).toNat = 20 * v.toNat + (i + n) by omega, show (20 * w + (j : Int) + (n : Int)).toNat = 20 * w.toNat + (j + n) by omega, s1, s2]
        refine C_findMove_140 s5 fun y μ2 hq => ?_
        obtain ⟨rfl, rfl⟩ := hq
        rw [bI_t o6]
        refine B_findMove_143 ⟨by decide, fun z => absurd z (by decide), fun _ => ?_⟩
        exact ih (n + 1) (by omega) (by rw [← hn, show i + (n + 1) = i + n + 1 by omega, show j + (n + 1) = j + n + 1 by omega]; omega)
    · rw [rnM, if_neg ho] at hn
      have kp := keep n (by omega)
      refine B_findMove_40 ⟨by omega, by omega, by omega, fun c => kp.1, fun c => ⟨by omega, by omega, by omega, fun _ => kp.1, fun c2 => ⟨by omega, by omega, fun _ => kp.1, fun c3 => ⟨by omega, by omega, fun _ => kp.1, fun c4 => ?_⟩⟩⟩⟩
      rw [e4] at c
      rw [e5] at c2
      have o1 : i + n < X.length := by omega
      have o2 : j + n < Y.length := by omega
      obtain ⟨g1, g2⟩ := hC.2 (i + n) o1
      rw [show ((i : Int) + (n : Int)).toNat = i + n by omega] at c3 c4
      rw [g1] at c3
      rw [g2] at c4
      have tk := K_isTaken (Ω := Ω) (m := m) hC (by omega) (j := j + n) (by omega)
      rw [show (((j + n : Nat)) : Int) = (j : Int) + (n : Int) by omega] at tk
      refine C_findMove_102 tk fun y μ1 hq => ?_
      obtain ⟨rfl, rfl⟩ := hq
      by_cases c5 : fr X.length P M (j + n) = true
      · rw [bI_f (fun z => z c5)]
        obtain ⟨a, c', s1, s2, s3, s4, s5⟩ := h.same (Ω := Ω) (m := m) (F := F) (σ0 := σ0) (i := i + n) (j := j + n) (by omega) (by omega)
        rw [← eX, ← eY] at s5
        refine B_findMove_105 ⟨by decide, fun z => absurd rfl z, fun _ => ⟨by omega, by omega, by omega, by omega, ?_⟩⟩
        rw [show (20 * v + (i : Int) + (n : Int)).toNat = 20 * v.toNat + (i + n) by omega, show (20 * w + (j : Int) + (n : Int)).toNat = 20 * w.toNat + (j + n) by omega, s1, s2]
        refine C_findMove_140 s5 fun y μ2 hq => ?_
        obtain ⟨rfl, rfl⟩ := hq
        rw [bI_f (fun z => ho (okM_iff.mpr ⟨o1, o2, c3, c4, c5, z⟩))]
        exact B_findMove_143 ⟨by decide, fun _ => kp.2, fun z => absurd rfl z⟩
      · rw [bI_t c5]
        exact B_findMove_105 ⟨by decide, fun _ => kp.2, fun z => absurd z (by decide)⟩
theorem bs0_le {X Y : List Int64} {P M : Nat → Int} {i : Nat} (hi : i ≤ X.length) : ∀ (j : Nat) (s : Nat × Nat × Nat), j ≤ Y.length → s.1 ≤ X.length → (bs0 X Y P M i j s).1 ≤ X.length := by
  intro j
  induction j with
  | zero => intro s _ hs; exact hs
  | succ j ih =>
    intro s hj hs
    simp only [bs0]
    split
    · have r := rn_le (X := X) (Y := Y) (P := P) (M := M) X.length i j hi (by omega)
      show mvL X Y P M i j ≤ _
      unfold mvL; split <;> omega
    · exact ih s (by omega) hs
theorem bs1_le {X Y : List Int64} {P M : Nat → Int} : ∀ (i : Nat), i ≤ X.length → (bs1 X Y P M i).1 ≤ X.length := by
  intro i
  induction i with
  | zero => intro _; exact Nat.zero_le _
  | succ i ih => intro h; exact bs0_le (by omega) _ _ (Nat.le_refl _) (ih (by omega))
theorem fm_in {σ0 : Sto} {F : QF} {X Y : List Int64} {P M : Nat → Int} (h : PrH V b v w lb μ) (eX : X = XL lb (vtx V v)) (eY : Y = XL lb (vtx V w)) (hC : CmI X P M μ) {s : Nat × Nat × Nat} {i : Nat} (hi : i < X.length) (hs : s.1 ≤ X.length) (out : ∀ s', s' = bs0 X Y P M i Y.length s → Mw Ω σ0 m M_Mdl_findMove rm_Mdl_findMove F 12 [xr (some m), xi v, xi w, xi lb, xi s'.1, xi s'.2.1, xi s'.2.2, xi ((i : Int) + 1), xu, xu, xu] [] μ) : ∀ (d j : Nat) (s1 : Nat × Nat × Nat), j + d = Y.length → s1 = bs0 X Y P M i j s → Mw Ω σ0 m M_Mdl_findMove rm_Mdl_findMove F 26 [xr (some m), xi v, xi w, xi lb, xi s1.1, xi s1.2.1, xi s1.2.2, xi i, xi j, xu, xu] [] μ := by
  intro d
  have w0 := h.2.2.2.2.2.1
  have h40 := h.1.2.1
  have lY : Y.length = (vtx V w).length := by rw [eY, XL_len]
  have l2 := h.2.1 w
  have e5 := h.1.sz w0.1 w0.2
  induction d with
  | zero =>
    intro j s1 hj e
    exact B_findMove_26 ⟨by omega, by omega, by omega, fun _ => out s1 (by rw [e, show j = Y.length by omega]), fun c => absurd (by rw [e5]; omega) c⟩
  | succ d ih =>
    intro j s1 hj e
    have hs1 : s1.1 ≤ X.length := by rw [e]; exact bs0_le (by omega) j s (by omega) hs
    refine B_findMove_26 ⟨by omega, by omega, by omega, fun c => absurd c (by rw [e5]; omega), fun _ => ?_⟩
    refine fm_run h eX eY hC hi (by omega) hs1 (fun s' hs' => ?_) X.length 0 (by omega) (by rw [Nat.zero_add, Nat.add_zero, Nat.add_zero])
    refine ih (j + 1) s' (by omega) ?_
    rw [hs', e]
    simp only [bs0]
theorem fm_out {σ0 : Sto} {F : QF} {X Y : List Int64} {P M : Nat → Int} (h : PrH V b v w lb μ) (eX : X = XL lb (vtx V v)) (eY : Y = XL lb (vtx V w)) (hC : CmI X P M μ) (out : ∀ s', s' = bst X Y P M → Mw Ω σ0 m M_Mdl_findMove rm_Mdl_findMove F 234 [xr (some m), xi v, xi w, xi lb, xi s'.1, xi s'.2.1, xi s'.2.2, xi 0, xu, xu, xu] [] μ) : ∀ (d i : Nat) (s1 : Nat × Nat × Nat), i + d = X.length → s1 = bs1 X Y P M i → Mw Ω σ0 m M_Mdl_findMove rm_Mdl_findMove F 12 [xr (some m), xi v, xi w, xi lb, xi s1.1, xi s1.2.1, xi s1.2.2, xi i, xu, xu, xu] [] μ := by
  intro d
  have v0 := h.2.2.2.2.1
  have h40 := h.1.2.1
  have lX : X.length = (vtx V v).length := by rw [eX, XL_len]
  have l1 := h.2.1 v
  have e4 := h.1.sz v0.1 v0.2
  induction d with
  | zero =>
    intro i s1 hi e
    exact B_findMove_12 ⟨by omega, by omega, by omega, fun _ => out s1 (by rw [e, show i = X.length by omega]; rfl), fun c => absurd (by rw [e4]; omega) c⟩
  | succ d ih =>
    intro i s1 hi e
    have hs1 : s1.1 ≤ X.length := by rw [e]; exact bs1_le i (by omega)
    refine B_findMove_12 ⟨by omega, by omega, by omega, fun c => absurd c (by rw [e4]; omega), fun _ => ?_⟩
    refine fm_in h eX eY hC (by omega) hs1 (fun s' hs' => ?_) Y.length 0 s1 (by omega) rfl
    refine ih (i + 1) s' (by omega) ?_
    rw [hs', e]; rfl
theorem fm_put {σ0 : Sto} {X Y : List Int64} {P M : Nat → Int} {s : Nat × Nat × Nat} (hC : CmI X P M μ) (h20 : X.length ≤ 20) (hY : Y.length ≤ 20) (hs : s = bst X Y P M) (hb1 : s.1 ≤ X.length) (hb2 : 0 < s.1 → s.2.1 + s.1 ≤ X.length ∧ s.2.2 + s.1 ≤ Y.length) : ∀ (d k : Nat) (μ1 : Mu), k + d = s.1 → Fr [] [16] [] μ μ1 → (∀ p, p < X.length → mA μ1 16 p = tkS s M k p) → Mw Ω σ0 m M_Mdl_findMove rm_Mdl_findMove (MvF Ω σ0 m μ X Y P M) 234 [xr (some m), xi v, xi w, xi lb, xi s.1, xi s.2.1, xi s.2.2, xi k, xu, xu, xu] [] μ1 := by
  intro d
  induction d with
  | zero =>
    intro k μ1 hk hF hM
    have fin : CmI X P (tkM X Y P M) μ1 := ⟨(hF.1 26 (by decide)).trans hC.1, fun p hp => ⟨by rw [hF.2.1 15 (by decide)]; exact (hC.2 p hp).1, by rw [hM p hp]; unfold tkM; rw [← hs, show k = s.1 by omega]⟩⟩
    refine B_findMove_234 ⟨by omega, by omega, fun _ => ⟨fun c => R_findMove_272 (Or.inl rfl) ⟨?_, hF, fin⟩, fun c => R_findMove_272 (Or.inr rfl) ⟨?_, hF, fin⟩⟩, fun c => absurd (by omega) c⟩
    · rw [bI_f]; rw [← hs]; omega
    · rw [bI_t]; rw [← hs]; omega
  | succ d ih =>
    intro k μ1 hk hF hM
    have hb := hb2 (by omega)
    refine B_findMove_234 ⟨by omega, by omega, fun c => absurd c (by omega), fun _ => ⟨by omega, by omega, by omega, ?_⟩⟩
    refine ih (k + 1) _ (by omega) (hF.trans (Fr.wA (by decide))) (fun p hp => ?_)
    rw [mA_wA, tkS_succ, up1_at]
    by_cases e : p = s.2.1 + k
    · rw [if_pos ⟨rfl, by omega⟩, if_pos e]; omega
    · rw [if_neg (by omega), if_neg e]; exact hM p hp
theorem K_findMove {X Y : List Int64} {P M : Nat → Int} (h : PrH V b v w lb μ) (eX : X = XL lb (vtx V v)) (eY : Y = XL lb (vtx V w)) (hC : CmI X P M μ) : MMi Ω m M_Mdl_findMove rm_Mdl_findMove (fun y μ' => y = bI (0 < (bst X Y P M).1) ∧ Fr [] [16] [] μ μ' ∧ CmI X P (tkM X Y P M) μ') μ [xi v, xi w, xi lb] := by
  have lX : X.length = (vtx V v).length := by rw [eX, XL_len]
  have lY : Y.length = (vtx V w).length := by rw [eY, XL_len]
  have l1 := h.2.1 v
  have l2 := h.2.1 w
  refine E_findMove fun σ0 => B_findMove_0 ?_
  refine fm_out h eX eY hC (fun s' hs' => ?_) X.length 0 (0, 0, 0) (by omega) rfl
  have b1 : s'.1 ≤ X.length := by rw [hs']; exact bs1_le X.length (Nat.le_refl _)
  refine fm_put hC (by omega) (by omega) hs' b1 (fun hp => ?_) s'.1 0 μ (by omega) Fr.rf (fun p hp => by rw [tkS_0]; exact (hC.2 p hp).2)
  have o := bst_ok (X := X) (Y := Y) (P := P) (M := M)
  rw [← hs'] at o
  have := okM_iff.mp (o (s'.1 - 1) (by omega))
  omega
end CMM
