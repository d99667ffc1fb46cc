/-! BY HAND: Patch, fill and fillTurned -/
section FIL2
variable {Ω : Om} {σ0 : Sto} {p t u c lo : Nat} {T U : List (Int64 × Int)} {X Y : List Int64} {P M : Nat → Int} {b n0 ctx : Nat}
theorem La.of {σ : Sto} {q f g : Nat} (hlo : lo ≤ q) (hn : q < sN σ) (hk : sK σ q = 51) (hz : sZ σ q = ((g : Int) - f).toNat) (hg : g ≤ T.length) (ha : ∀ j : Nat, j < ((g : Int) - f).toNat → aL σ q j = lnA T ((f : Int) + j)) : La σ lo q (slA T f g) := by
  have hl := slA_len (a := f) hg
  refine ⟨hlo, hn, hk, by rw [hz, hl]; omega, fun i hi => ?_⟩
  rw [hl] at hi
  rw [slA_at hg hi]; exact ha i (by omega)
theorem fill_loop {v : List Hun} (hlT : T.length ≤ 20) (hlU : U.length ≤ 20) (hX : X.length = T.length) (hctx : ctx ≤ 3) (hPr : ∀ i, i < T.length → -1 ≤ P i ∧ P i < U.length) (hlo : p + 1 < lo) (hloN : lo ≤ sN σ0) (dt : t + 2 < p ∨ p + 1 < t) (du : u + 2 < p ∨ p + 1 < u) (dc : c + 27 < p ∨ p + 1 < c) :
    ∀ (d i fr ot : Nat) (acc : List Hun) (σ : Sto) (k n : Nat), i + d = T.length + 1 → fr ≤ i → ot ≤ 21 ∧ (i ≤ T.length → ot ≤ U.length) → acc.length ≤ i → k ≤ 5 * acc.length → n ≤ 166 * acc.length → flN T U P ctx d i fr ot acc = v → Pt σ lo p acc → Tx σ t T → Tx σ u U → CpW σ c X Y → CpP σ c X.length b P M n0 → Keep σ0 σ (In p (p + 2)) →
    Aw Ω M_Pat_fill rm_Pat_fill (MF Ω rm_Pat_fill (RV fun σ' => Pt σ' lo p v ∧ Keep σ0 σ' (In p (p + 2))) XN) k n 9 [xr (some p), xr (some t), xr (some u), xr (some c), xi ctx, xi fr, xi ot, xi i, xu, xu, xu] [] σ := by
  intro d
  induction d with
  | zero =>
    intro i fr ot acc σ k n hd hfr hot hacc hk hn he hp hT hU hW hP hkk
    have hp21 := hp.2.2.2.2.2.2.1
    refine b_Pat_fill_9 ?_
    refine c_Pat_fill_12 (k_Txt_size hT) hT.2.1 (by decide) (by decide) (by simp only [rm_Cmp_pairAt, rm_Hnk_init, rm_Hnk_turned, rm_Pat_add, rm_Pat_contextAhead, rm_Pat_contextBehind, rm_Pat_fill, rm_Pat_fillTurned, rm_Pat_hunkAt, rm_Txt_signsOf, rm_Txt_size]; omega) (by simp only [rm_Cmp_pairAt, rm_Hnk_init, rm_Hnk_turned, rm_Pat_add, rm_Pat_contextAhead, rm_Pat_contextBehind, rm_Pat_fill, rm_Pat_fillTurned, rm_Pat_hunkAt, rm_Txt_signsOf, rm_Txt_size]; omega) (Nat.le_of_ble_eq_true rfl) (fun z σ1 hq => ?_) (fun _ _ hx => hx.elim)
    obtain ⟨rfl, rfl⟩ := hq
    refine b_Pat_fill_15 ⟨by omega, by omega, fun _ => ?_, fun c => absurd (by omega) c⟩
    refine r_Pat_fill_160 ⟨rfl, ?_, hkk⟩ (show k + 0 ≤ 105 by omega) (show n + 0 ≤ 3486 by omega)
    rw [← he]; exact hp
  | succ d ih =>
    intro i fr ot acc σ k n hd hfr hot hacc hk hn he hp hT hU hW hP hkk
    refine b_Pat_fill_9 ?_
    refine c_Pat_fill_12 (k_Txt_size hT) hT.2.1 (by decide) (by decide) (by simp only [rm_Cmp_pairAt, rm_Hnk_init, rm_Hnk_turned, rm_Pat_add, rm_Pat_contextAhead, rm_Pat_contextBehind, rm_Pat_fill, rm_Pat_fillTurned, rm_Pat_hunkAt, rm_Txt_signsOf, rm_Txt_size]; omega) (by simp only [rm_Cmp_pairAt, rm_Hnk_init, rm_Hnk_turned, rm_Pat_add, rm_Pat_contextAhead, rm_Pat_contextBehind, rm_Pat_fill, rm_Pat_fillTurned, rm_Pat_hunkAt, rm_Txt_signsOf, rm_Txt_size]; omega) (Nat.le_of_ble_eq_true rfl) (fun z σ1 hq => ?_) (fun _ _ hx => hx.elim)
    obtain ⟨rfl, rfl⟩ := hq
    refine b_Pat_fill_15 ⟨by omega, by omega, fun c => absurd c (by omega), fun _ => ?_⟩
    refine c_Pat_fill_21 (k_Txt_size hT) hT.2.1 (by decide) (by decide) (by simp only [rm_Cmp_pairAt, rm_Hnk_init, rm_Hnk_turned, rm_Pat_add, rm_Pat_contextAhead, rm_Pat_contextBehind, rm_Pat_fill, rm_Pat_fillTurned, rm_Pat_hunkAt, rm_Txt_signsOf, rm_Txt_size]; omega) (by simp only [rm_Cmp_pairAt, rm_Hnk_init, rm_Hnk_turned, rm_Pat_add, rm_Pat_contextAhead, rm_Pat_contextBehind, rm_Pat_fill, rm_Pat_fillTurned, rm_Pat_hunkAt, rm_Txt_signsOf, rm_Txt_size]; omega) (Nat.le_of_ble_eq_true rfl) (fun z σ2 hq => ?_) (fun _ _ hx => hx.elim)
    obtain ⟨rfl, rfl⟩ := hq
    rw [flN] at he
    have none9 : ∀ k' n', k' ≤ 5 * acc.length → n' ≤ 166 * acc.length → flP T U P i = -1 → Aw Ω M_Pat_fill rm_Pat_fill (MF Ω rm_Pat_fill (RV fun σ' => Pt σ' lo p v ∧ Keep σ0 σ' (In p (p + 2))) XN) k' n' 9 [xr (some p), xr (some t), xr (some u), xr (some c), xi ctx, xi fr, xi ot, xi ((i : Int) + 1), xu, xu, xu] [] σ2 := fun k' n' h1 h2 h3 => by
      rw [if_pos h3] at he
      exact ih (i + 1) fr ot acc σ2 k' n' (by omega) (by omega) ⟨hot.1, fun h => hot.2 (by omega)⟩ (by omega) h1 h2 he hp hT hU hW hP hkk
    have skip9 : ∀ k' n' (y : Nat), k' ≤ 5 * acc.length → n' ≤ 166 * acc.length → flP T U P i = y → y ≤ 20 → ¬ fr < i → y ≤ ot → Aw Ω M_Pat_fill rm_Pat_fill (MF Ω rm_Pat_fill (RV fun σ' => Pt σ' lo p v ∧ Keep σ0 σ' (In p (p + 2))) XN) k' n' 9 [xr (some p), xr (some t), xr (some u), xr (some c), xi ctx, xi ((i : Int) + 1), xi ((y : Int) + 1), xi ((i : Int) + 1), xu, xu, xu] [] σ2 := fun k' n' y h1 h2 h3 h4 h5 h6 => by
      rw [if_neg (by omega), if_neg (by omega), h3] at he
      exact ih (i + 1) (i + 1) (y + 1) acc σ2 k' n' (by omega) (by omega) ⟨by omega, fun h => by have h7 := hPr i (by omega); unfold flP at h3; rw [if_pos (by omega)] at h3; omega⟩ (by omega) h1 h2 he hp hT hU hW hP hkk
    have add72 : ∀ k' n' (y : Nat), k' ≤ 5 * acc.length → n' ≤ 166 * acc.length → flP T U P i = y → y ≤ U.length → (fr < i ∨ ot < y) → Aw Ω M_Pat_fill rm_Pat_fill (MF Ω rm_Pat_fill (RV fun σ' => Pt σ' lo p v ∧ Keep σ0 σ' (In p (p + 2))) XN) k' n' 72 [xr (some p), xr (some t), xr (some u), xr (some c), xi ctx, xi fr, xi ot, xi i, xi y, xu, xu] [xi ctx, xi ot, xi fr, xr (some c)] σ2 := fun k' n' y h1 h2 h3 h4 h5 => by
      rw [if_neg (by omega), if_pos (by omega), h3] at he
      have ca := caN_le (P := P) (most := ctx) (a := fr) (b := ot) ctx 0 (Nat.zero_le _) (Nat.zero_le _)
      have cb := cbN_le (P := P) (n := T.length) (most := ctx) (a := i) (b := y) ctx 0 (Nat.zero_le _) (by omega)
      refine c_Pat_fill_72 (k_Pat_contextAhead hW hP (show fr ≤ X.length by omega) (show ot ≤ 50 by omega) hctx) (by decide) (by decide) (by simp only [rm_Cmp_pairAt, rm_Hnk_init, rm_Hnk_turned, rm_Pat_add, rm_Pat_contextAhead, rm_Pat_contextBehind, rm_Pat_fill, rm_Pat_fillTurned, rm_Pat_hunkAt, rm_Txt_signsOf, rm_Txt_size]; omega) (by simp only [rm_Cmp_pairAt, rm_Hnk_init, rm_Hnk_turned, rm_Pat_add, rm_Pat_contextAhead, rm_Pat_contextBehind, rm_Pat_fill, rm_Pat_fillTurned, rm_Pat_hunkAt, rm_Txt_signsOf, rm_Txt_size]; omega) (Nat.le_of_ble_eq_true rfl) (fun z3 σ3 hq => ?_) (fun _ _ hx => hx.elim)
      obtain ⟨rfl, rfl⟩ := hq
      refine b_Pat_fill_75 ?_
      refine c_Pat_fill_84 (k_Pat_contextBehind hW hP (show i ≤ X.length by omega) (show y ≤ 50 by omega) hctx) (by decide) (by decide) (by simp only [rm_Cmp_pairAt, rm_Hnk_init, rm_Hnk_turned, rm_Pat_add, rm_Pat_contextAhead, rm_Pat_contextBehind, rm_Pat_fill, rm_Pat_fillTurned, rm_Pat_hunkAt, rm_Txt_signsOf, rm_Txt_size]; omega) (by simp only [rm_Cmp_pairAt, rm_Hnk_init, rm_Hnk_turned, rm_Pat_add, rm_Pat_contextAhead, rm_Pat_contextBehind, rm_Pat_fill, rm_Pat_fillTurned, rm_Pat_hunkAt, rm_Txt_signsOf, rm_Txt_size]; omega) (Nat.le_of_ble_eq_true rfl) (fun z4 σ4 hq => ?_) (fun _ _ hx => hx.elim)
      obtain ⟨rfl, rfl⟩ := hq
      rw [hX]
      refine b_Pat_fill_87 ⟨show k' + 0 + 0 + 1 ≤ 105 by omega, show n' + 0 + 0 + 6 ≤ 3486 by omega, fun σ5 e5 => ?_⟩
      have kp5 : Keep σ4 σ5 No := by rw [e5]; exact Keep.nO
      have n5 : sN σ5 = sN σ4 + 1 := by rw [e5, sN_nO]
      have q5 : sK σ5 (sN σ4) = 6 := by rw [e5, sK_nO, if_pos rfl]
      have hT5 := hT.keep kp5 (fun _ _ _ h => h)
      refine c_Pat_fill_106 (k_Txt_signsOf hT5 (show 0 ≤ (fr : Int) - (caN P ctx fr ot ctx 0 : Nat) ∧ (fr : Int) - (caN P ctx fr ot ctx 0 : Nat) ≤ 1000 by omega) (by omega) (by omega)) hT5.2.1 (by decide) (by decide) (by simp only [rm_Cmp_pairAt, rm_Hnk_init, rm_Hnk_turned, rm_Pat_add, rm_Pat_contextAhead, rm_Pat_contextBehind, rm_Pat_fill, rm_Pat_fillTurned, rm_Pat_hunkAt, rm_Txt_signsOf, rm_Txt_size]; omega) (by simp only [rm_Cmp_pairAt, rm_Hnk_init, rm_Hnk_turned, rm_Pat_add, rm_Pat_contextAhead, rm_Pat_contextBehind, rm_Pat_fill, rm_Pat_fillTurned, rm_Pat_hunkAt, rm_Txt_signsOf, rm_Txt_size]; omega) (Nat.le_of_ble_eq_true rfl) (fun z6 σ6 hq => ?_) (fun _ _ hx => hx.elim)
      obtain ⟨rfl, n6, q6, w6, g6, kp6⟩ := hq
      refine b_Pat_fill_109 ?_
      have hT6 := hT5.keep kp6 (fun _ _ _ h => h)
      refine c_Pat_fill_114 (k_Txt_signsOf hT6 (show 0 ≤ (fr : Int) ∧ (fr : Int) ≤ 1000 by omega) (by omega) (by omega)) hT6.2.1 (by decide) (by decide) (by simp only [rm_Cmp_pairAt, rm_Hnk_init, rm_Hnk_turned, rm_Pat_add, rm_Pat_contextAhead, rm_Pat_contextBehind, rm_Pat_fill, rm_Pat_fillTurned, rm_Pat_hunkAt, rm_Txt_signsOf, rm_Txt_size]; omega) (by simp only [rm_Cmp_pairAt, rm_Hnk_init, rm_Hnk_turned, rm_Pat_add, rm_Pat_contextAhead, rm_Pat_contextBehind, rm_Pat_fill, rm_Pat_fillTurned, rm_Pat_hunkAt, rm_Txt_signsOf, rm_Txt_size]; omega) (Nat.le_of_ble_eq_true rfl) (fun z7 σ7 hq => ?_) (fun _ _ hx => hx.elim)
      obtain ⟨rfl, n7, q7, w7, g7, kp7⟩ := hq
      refine b_Pat_fill_117 ?_
      have hT7 := hT6.keep kp7 (fun _ _ _ h => h)
      have hU7 := ((hU.keep kp5 (fun _ _ _ h => h)).keep kp6 (fun _ _ _ h => h)).keep kp7 (fun _ _ _ h => h)
      refine c_Pat_fill_122 (k_Txt_signsOf hU7 (show 0 ≤ (ot : Int) ∧ (ot : Int) ≤ 1000 by omega) (by omega) (by omega)) hU7.2.1 (by decide) (by decide) (by simp only [rm_Cmp_pairAt, rm_Hnk_init, rm_Hnk_turned, rm_Pat_add, rm_Pat_contextAhead, rm_Pat_contextBehind, rm_Pat_fill, rm_Pat_fillTurned, rm_Pat_hunkAt, rm_Txt_signsOf, rm_Txt_size]; omega) (by simp only [rm_Cmp_pairAt, rm_Hnk_init, rm_Hnk_turned, rm_Pat_add, rm_Pat_contextAhead, rm_Pat_contextBehind, rm_Pat_fill, rm_Pat_fillTurned, rm_Pat_hunkAt, rm_Txt_signsOf, rm_Txt_size]; omega) (Nat.le_of_ble_eq_true rfl) (fun z8 σ8 hq => ?_) (fun _ _ hx => hx.elim)
      obtain ⟨rfl, n8, q8, w8, g8, kp8⟩ := hq
      refine b_Pat_fill_125 ?_
      have hT8 := hT7.keep kp8 (fun _ _ _ h => h)
      refine c_Pat_fill_133 (k_Txt_signsOf hT8 (show 0 ≤ (i : Int) ∧ (i : Int) ≤ 1000 by omega) (by omega) (by omega)) hT8.2.1 (by decide) (by decide) (by simp only [rm_Cmp_pairAt, rm_Hnk_init, rm_Hnk_turned, rm_Pat_add, rm_Pat_contextAhead, rm_Pat_contextBehind, rm_Pat_fill, rm_Pat_fillTurned, rm_Pat_hunkAt, rm_Txt_signsOf, rm_Txt_size]; omega) (by simp only [rm_Cmp_pairAt, rm_Hnk_init, rm_Hnk_turned, rm_Pat_add, rm_Pat_contextAhead, rm_Pat_contextBehind, rm_Pat_fill, rm_Pat_fillTurned, rm_Pat_hunkAt, rm_Txt_signsOf, rm_Txt_size]; omega) (Nat.le_of_ble_eq_true rfl) (fun z9 σ9 hq => ?_) (fun _ _ hx => hx.elim)
      obtain ⟨rfl, n9, q9, w9, g9, kp9⟩ := hq
      have hloσ : lo ≤ sN σ4 := Nat.le_trans hloN hkk.1
      have ef : (fr : Int) - (caN P ctx fr ot ctx 0 : Nat) = ((fr - caN P ctx fr ot ctx 0 : Nat) : Int) := by omega
      have eb : (i : Int) + (cbN P T.length ctx i y ctx 0 : Nat) = ((i + cbN P T.length ctx i y ctx 0 : Nat) : Int) := by omega
      rw [ef] at w6 g6
      rw [eb] at w9 g9
      have la : La σ9 lo (sN σ5) (slA T (fr - caN P ctx fr ot ctx 0) fr) := (((La.of (T := T) (lo := lo) (by omega) (by omega) q6 w6 (by omega) g6).keep kp7 (fun _ _ _ h => h)).keep kp8 (fun _ _ _ h => h)).keep kp9 (fun _ _ _ h => h)
      have lg : La σ9 lo (sN σ6) (slA T fr i) := ((La.of (T := T) (lo := lo) (by omega) (by omega) q7 w7 (by omega) g7).keep kp8 (fun _ _ _ h => h)).keep kp9 (fun _ _ _ h => h)
      have lf : La σ9 lo (sN σ7) (slA U ot y) := (La.of (T := U) (lo := lo) (by omega) (by omega) q8 w8 (by omega) g8).keep kp9 (fun _ _ _ h => h)
      have lb : La σ9 lo (sN σ8) (slA T i (i + cbN P T.length ctx i y ctx 0)) := La.of (T := T) (lo := lo) (by omega) (by omega) q9 w9 (by omega) g9
      have hb : HnB (mkH T U P ctx fr i ot y) := by
        refine ⟨show fr ≤ 20 by omega, show ot ≤ 20 from ?_, ?_, ?_, ?_, ?_⟩
        · have := hot.2 (by omega); omega
        · show (slA T (fr - caN P ctx fr ot ctx 0) fr).length ≤ 3
          rw [slA_len (by omega)]; omega
        · show (slA T fr i).length ≤ 20
          rw [slA_len (by omega)]; omega
        · show (slA U ot y).length ≤ 20
          rw [slA_len (by omega)]; omega
        · show (slA T i (i + cbN P T.length ctx i y ctx 0)).length ≤ 3
          rw [slA_len (by omega)]; omega
      have k59 : Keep σ4 σ9 No := kp5.trans (kp6.trans (kp7.trans (kp8.trans kp9)))
      have k69 : Keep σ5 σ9 No := kp6.trans (kp7.trans (kp8.trans kp9))
      have q9h : sK σ9 (sN σ4) = 6 := (k69.2 (sN σ4) (by omega) (fun z => z)).1.trans q5
      refine c_Pat_fill_136 (k_Hnk_init (lo := lo) q9h hloσ (by omega) la lg lf lb hb) (by decide) (by decide) (by simp only [rm_Cmp_pairAt, rm_Hnk_init, rm_Hnk_turned, rm_Pat_add, rm_Pat_contextAhead, rm_Pat_contextBehind, rm_Pat_fill, rm_Pat_fillTurned, rm_Pat_hunkAt, rm_Txt_signsOf, rm_Txt_size]; omega) (by simp only [rm_Cmp_pairAt, rm_Hnk_init, rm_Hnk_turned, rm_Pat_add, rm_Pat_contextAhead, rm_Pat_contextBehind, rm_Pat_fill, rm_Pat_fillTurned, rm_Pat_hunkAt, rm_Txt_signsOf, rm_Txt_size]; omega) (Nat.le_of_ble_eq_true rfl) (fun σ10 hq => ?_) (fun _ _ hx => hx.elim)
      obtain ⟨hh10, n10, kp10⟩ := hq
      have kA : Keep σ4 σ10 No := k59.tr kp10 (fun b hb hq => by omega)
      have hp10 := hp.keep kA (fun _ _ _ h => h) (fun h => h) (fun h => h)
      refine c_Pat_fill_139 (k_Pat_add hp10 (by omega) hh10 hlo) hp10.2.1 (by decide) (by decide) (by simp only [rm_Cmp_pairAt, rm_Hnk_init, rm_Hnk_turned, rm_Pat_add, rm_Pat_contextAhead, rm_Pat_contextBehind, rm_Pat_fill, rm_Pat_fillTurned, rm_Pat_hunkAt, rm_Txt_signsOf, rm_Txt_size]; omega) (by simp only [rm_Cmp_pairAt, rm_Hnk_init, rm_Hnk_turned, rm_Pat_add, rm_Pat_contextAhead, rm_Pat_contextBehind, rm_Pat_fill, rm_Pat_fillTurned, rm_Pat_hunkAt, rm_Txt_signsOf, rm_Txt_size]; omega) (Nat.le_of_ble_eq_true rfl) (fun σ11 hq => ?_) (fun _ _ hx => hx.elim)
      obtain ⟨hp11, n11, kp11⟩ := hq
      refine Aw.toW (L' := [xr (some p), xr (some t), xr (some u), xr (some c), xi ctx, xi fr, xi ot, xi i, xi y, xu, xu]) ⟨Or.inr rfl, Or.inr rfl, Or.inr rfl, Or.inr rfl, Or.inr rfl, Or.inr rfl, Or.inr rfl, Or.inr rfl, Or.inr rfl, Or.inl rfl, Or.inl rfl, trivial⟩ (b_Pat_fill_142 ?_)
      have kB : Keep σ4 σ11 (In p (p + 2)) := (kA.mono (fun _ _ h => h.elim)).trans kp11
      have l1 : (acc ++ [mkH T U P ctx fr i ot y]).length = acc.length + 1 := by rw [List.length_append]; rfl
      have hc4 := hW.1.1
      refine ih (i + 1) (i + 1) (y + 1) (acc ++ [mkH T U P ctx fr i ot y]) σ11 _ _ (by omega) (by omega) ⟨by omega, fun h => by have h7 := hPr i (by omega); unfold flP at h3; rw [if_pos (by omega)] at h3; omega⟩ (by omega) ?_ ?_ he hp11 (hT.keep kB (fun b h1 h2 h3 => by omega)) (hU.keep kB (fun b h1 h2 h3 => by omega)) ⟨hW.1.keep kB (fun b h1 h2 h3 => by omega), hW.2.1.keep kB hc4 (by omega) (by omega), hW.2.2.keep kB hc4 (by omega) (by omega)⟩ (hP.keep kB hc4 (by omega) (by omega) (by omega) (by omega)) (hkk.trans kB)
      · rw [l1]; show k' + 0 + 0 + 1 + 1 + 1 + 1 + 1 + 0 + 0 ≤ _; omega
      · rw [l1]; show n' + 0 + 0 + 6 + 40 + 40 + 40 + 40 + 0 + 0 ≤ _; omega
    by_cases li : i < T.length
    · have hPi := hPr i li
      have hfl : flP T U P i = P i := by unfold flP; rw [if_pos li]
      refine b_Pat_fill_24 ⟨by omega, by omega, fun c1 => absurd c1 (by omega), fun _ => ?_⟩
      refine c_Pat_fill_30 (k_Cmp_pairAt hW.1 hW.2.1 hP (show Q32 (i : Int) by omega)) hW.1.2.1 (by decide) (by decide) (by simp only [rm_Cmp_pairAt, rm_Hnk_init, rm_Hnk_turned, rm_Pat_add, rm_Pat_contextAhead, rm_Pat_contextBehind, rm_Pat_fill, rm_Pat_fillTurned, rm_Pat_hunkAt, rm_Txt_signsOf, rm_Txt_size]; omega) (by simp only [rm_Cmp_pairAt, rm_Hnk_init, rm_Hnk_turned, rm_Pat_add, rm_Pat_contextAhead, rm_Pat_contextBehind, rm_Pat_fill, rm_Pat_fillTurned, rm_Pat_hunkAt, rm_Txt_signsOf, rm_Txt_size]; omega) (Nat.le_of_ble_eq_true rfl) (fun z3 σ3 hq => ?_) (fun _ _ hx => hx.elim)
      obtain ⟨rfl, q3, hz3⟩ := hq
      rw [if_pos (by omega)] at hz3
      have hz4 : z3 = P i := hz3
      refine b_Pat_fill_33 ⟨q3, fun c1 => ⟨by omega, by omega, fun c2 => ?_, fun c2 => ⟨by omega, fun c3 => ?_, fun c3 => ?_⟩⟩, fun c1 => ?_⟩
      · have ey : z3 = ((P i).toNat : Nat) := by omega
        rw [ey]
        exact add72 _ _ (P i).toNat (show k + 0 + 0 + 0 ≤ _ by omega) (show n + 0 + 0 + 0 ≤ _ by omega) (by omega) (by omega) (by omega)
      · have ey : z3 = ((P i).toNat : Nat) := by omega
        rw [ey]
        exact skip9 _ _ (P i).toNat (show k + 0 + 0 + 0 ≤ _ by omega) (show n + 0 + 0 + 0 ≤ _ by omega) (by omega) (by omega) (by omega) (by omega)
      · have ey : z3 = ((P i).toNat : Nat) := by omega
        rw [ey]
        exact add72 _ _ (P i).toNat (show k + 0 + 0 + 0 ≤ _ by omega) (show n + 0 + 0 + 0 ≤ _ by omega) (by omega) (by omega) (by omega)
      · exact none9 _ _ (show k + 0 + 0 + 0 ≤ _ by omega) (show n + 0 + 0 + 0 ≤ _ by omega) (by omega)
    · have hfl : flP T U P i = U.length := by unfold flP; rw [if_neg li]
      refine b_Pat_fill_24 ⟨by omega, by omega, fun _ => ?_, fun c1 => absurd (by omega) c1⟩
      refine c_Pat_fill_37 (k_Txt_size hU) hU.2.1 (by decide) (by decide) (by simp only [rm_Cmp_pairAt, rm_Hnk_init, rm_Hnk_turned, rm_Pat_add, rm_Pat_contextAhead, rm_Pat_contextBehind, rm_Pat_fill, rm_Pat_fillTurned, rm_Pat_hunkAt, rm_Txt_signsOf, rm_Txt_size]; omega) (by simp only [rm_Cmp_pairAt, rm_Hnk_init, rm_Hnk_turned, rm_Pat_add, rm_Pat_contextAhead, rm_Pat_contextBehind, rm_Pat_fill, rm_Pat_fillTurned, rm_Pat_hunkAt, rm_Txt_signsOf, rm_Txt_size]; omega) (Nat.le_of_ble_eq_true rfl) (fun z3 σ3 hq => ?_) (fun _ _ hx => hx.elim)
      obtain ⟨rfl, rfl⟩ := hq
      refine b_Pat_fill_40 ⟨by omega, fun c1 => ⟨by omega, by omega, fun c2 => ?_, fun c2 => ⟨by omega, fun c3 => ?_, fun c3 => ?_⟩⟩, fun c1 => ?_⟩
      · exact add72 _ _ U.length (show k + 0 + 0 + 0 ≤ _ by omega) (show n + 0 + 0 + 0 ≤ _ by omega) hfl (Nat.le_refl _) (by omega)
      · exact skip9 _ _ U.length (show k + 0 + 0 + 0 ≤ _ by omega) (show n + 0 + 0 + 0 ≤ _ by omega) hfl (by omega) (by omega) (by omega)
      · exact add72 _ _ U.length (show k + 0 + 0 + 0 ≤ _ by omega) (show n + 0 + 0 + 0 ≤ _ by omega) hfl (Nat.le_refl _) (by omega)
      · omega
def flH (T U : List (Int64 × Int)) (P : Nat → Int) (ctx : Nat) : List Hun := flN T U P ctx (T.length + 1) 0 0 0 []
theorem k_Pat_fill {σ : Sto} (hlT : T.length ≤ 20) (hlU : U.length ≤ 20) (hX : X.length = T.length) (hctx : ctx ≤ 3) (hPr : ∀ i, i < T.length → -1 ≤ P i ∧ P i < U.length) (hlo : p + 1 < lo) (hloN : lo ≤ sN σ) (dt : t + 2 < p ∨ p + 1 < t) (du : u + 2 < p ∨ p + 1 < u) (dc : c + 27 < p ∨ p + 1 < c) (hp : Pt σ lo p []) (hT : Tx σ t T) (hU : Tx σ u U) (hW : CpW σ c X Y) (hP : CpP σ c X.length b P M n0) :
    MC Ω M_Pat_fill rm_Pat_fill (RV fun σ' => Pt σ' lo p (flH T U P ctx) ∧ Keep σ σ' (In p (p + 2))) XN σ [xr (some p), xr (some t), xr (some u), xr (some c), xi ctx] :=
  e_Pat_fill (b_Pat_fill_0 (fill_loop hlT hlU hX hctx hPr hlo hloN dt du dc (T.length + 1) 0 0 0 [] σ 0 0 (by omega) (Nat.le_refl _) ⟨by omega, fun _ => Nat.zero_le _⟩ (Nat.le_refl _) (Nat.zero_le _) (Nat.zero_le _) rfl hp hT hU hW hP Keep.rf))
theorem ft_loop {q : Nat} {hs : List Hun} (hlo : p + 1 < lo) (hloN : lo ≤ sN σ0) (dq : q + 1 < p ∨ p + 1 < q) (hn : hs.length ≤ 21) : ∀ (d i : Nat) (σ : Sto) (k n : Nat), i + d = 21 → k ≤ i → n ≤ 6 * i → Pt σ lo p ((hs.take i).map turnH) → Pt σ lo q hs → Keep σ0 σ (In p (p + 2)) → Aw Ω M_Pat_fillTurned rm_Pat_fillTurned (MF Ω rm_Pat_fillTurned (RV fun σ' => Pt σ' lo p (hs.map turnH) ∧ Keep σ0 σ' (In p (p + 2))) XN) k n 2 [xr (some p), xr (some q), xi i, xu] [] σ := by
  intro d
  induction d with
  | zero =>
    intro i σ k n hd hk hnn hp hq hkk
    refine b_Pat_fillTurned_2 ⟨by omega, fun _ => ?_, fun c => absurd (by omega) c⟩
    refine r_Pat_fillTurned_32 ⟨rfl, ?_, hkk⟩ (show k ≤ 21 by omega) (show n ≤ 126 by omega)
    rw [List.take_of_length_le (by omega)] at hp
    exact hp
  | succ d ih =>
    intro i σ k n hd hk hnn hp hq hkk
    refine b_Pat_fillTurned_2 ⟨by omega, fun c => absurd c (by omega), fun _ => ?_⟩
    refine c_Pat_fillTurned_10 (k_Pat_hunkAt hq (show Q32 (i : Int) by omega)) hq.2.1 (by decide) (by decide) (by simp only [rm_Cmp_pairAt, rm_Hnk_init, rm_Hnk_turned, rm_Pat_add, rm_Pat_contextAhead, rm_Pat_contextBehind, rm_Pat_fill, rm_Pat_fillTurned, rm_Pat_hunkAt, rm_Txt_signsOf, rm_Txt_size]; omega) (by simp only [rm_Cmp_pairAt, rm_Hnk_init, rm_Hnk_turned, rm_Pat_add, rm_Pat_contextAhead, rm_Pat_contextBehind, rm_Pat_fill, rm_Pat_fillTurned, rm_Pat_hunkAt, rm_Txt_signsOf, rm_Txt_size]; omega) (Nat.le_of_ble_eq_true rfl) (fun z σ1 hq => ?_) (fun _ _ hx => hx.elim)
    obtain ⟨rfl, hz⟩ := hq
    rcases hz with ⟨H, h, _, hz2, rfl, hH⟩ | ⟨hz2, rfl⟩
    · have hz3 : hs[i]? = some H := hz2
      refine b_Pat_fillTurned_13 ⟨fun c => absurd c (by simp), fun _ => ?_⟩
      refine c_Pat_fillTurned_20 (k_Hnk_turned hH) hH.2.2.1 (by decide) (by decide) (by simp only [rm_Cmp_pairAt, rm_Hnk_init, rm_Hnk_turned, rm_Pat_add, rm_Pat_contextAhead, rm_Pat_contextBehind, rm_Pat_fill, rm_Pat_fillTurned, rm_Pat_hunkAt, rm_Txt_signsOf, rm_Txt_size]; omega) (by simp only [rm_Cmp_pairAt, rm_Hnk_init, rm_Hnk_turned, rm_Pat_add, rm_Pat_contextAhead, rm_Pat_contextBehind, rm_Pat_fill, rm_Pat_fillTurned, rm_Pat_hunkAt, rm_Txt_signsOf, rm_Txt_size]; omega) (Nat.le_of_ble_eq_true rfl) (fun z2 σ2 hq => ?_) (fun _ _ hx => hx.elim)
      obtain ⟨rfl, n2, hH2, kp2⟩ := hq
      have hloσ : lo ≤ sN σ1 := Nat.le_trans hloN hkk.1
      have hp2 := hp.keep kp2 (fun _ _ _ h => h) (fun h => h) (fun h => h)
      have hq2 := hq.keep kp2 (fun _ _ _ h => h) (fun h => h) (fun h => h)
      have hlt : i < hs.length := (List.getElem?_eq_some_iff.mp hz3).1
      refine c_Pat_fillTurned_23 (k_Pat_add hp2 (by rw [List.length_map, List.length_take]; omega) hH2 hlo) hp2.2.1 (by decide) (by decide) (by simp only [rm_Cmp_pairAt, rm_Hnk_init, rm_Hnk_turned, rm_Pat_add, rm_Pat_contextAhead, rm_Pat_contextBehind, rm_Pat_fill, rm_Pat_fillTurned, rm_Pat_hunkAt, rm_Txt_signsOf, rm_Txt_size]; omega) (by simp only [rm_Cmp_pairAt, rm_Hnk_init, rm_Hnk_turned, rm_Pat_add, rm_Pat_contextAhead, rm_Pat_contextBehind, rm_Pat_fill, rm_Pat_fillTurned, rm_Pat_hunkAt, rm_Txt_signsOf, rm_Txt_size]; omega) (Nat.le_of_ble_eq_true rfl) (fun σ3 hq => ?_) (fun _ _ hx => hx.elim)
      obtain ⟨hp3, n3, kp3⟩ := hq
      refine b_Pat_fillTurned_26 ?_
      have kB : Keep σ1 σ3 (In p (p + 2)) := (kp2.mono (fun _ _ h => h.elim)).trans kp3
      refine ih (i + 1) σ3 _ _ (by omega) ?_ ?_ ?_ (hq2.keep kp3 (fun b h1 _ h3 => by omega) (by omega) (by omega)) (hkk.trans kB)
      · show k + 0 + 1 + 0 ≤ _; omega
      · show n + 0 + 6 + 0 ≤ _; omega
      · rw [List.take_add_one, hz3, List.map_append]; exact hp3
    · refine b_Pat_fillTurned_13 ⟨fun _ => ?_, fun c => absurd rfl c⟩
      refine ih (i + 1) σ1 _ _ (by omega) ?_ ?_ ?_ hq hkk
      · show k + 0 ≤ _; omega
      · show n + 0 ≤ _; omega
      · have hge : hs.length ≤ i := by omega
        rw [List.take_of_length_le hge] at hp
        rw [List.take_of_length_le (by omega)]
        exact hp
theorem k_Pat_fillTurned {σ : Sto} {q : Nat} {hs : List Hun} (hlo : p + 1 < lo) (hloN : lo ≤ sN σ) (dq : q + 1 < p ∨ p + 1 < q) (hp : Pt σ lo p []) (hq : Pt σ lo q hs) : MC Ω M_Pat_fillTurned rm_Pat_fillTurned (RV fun σ' => Pt σ' lo p (hs.map turnH) ∧ Keep σ σ' (In p (p + 2))) XN σ [xr (some p), xr (some q)] :=
  e_Pat_fillTurned (b_Pat_fillTurned_0 (ft_loop hlo hloN dq hq.2.2.2.2.2.2.1 21 0 σ 0 0 (by omega) (Nat.le_refl _) (Nat.zero_le _) (by rw [List.take_zero]; exact hp) hq Keep.rf))
end FIL2
