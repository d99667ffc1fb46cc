/-! BY HAND: making the class -/
section INL
variable {Ω : Om} {σ1 : Sto} {lo x : Nat} {Q : Option PV → Sto → Prop}
abbrev VrI (Ω : Om) (lo : Nat) (σ : Sto) (q : Nat) : Prop := VrV Ω σ lo q (oE Ω) [] [] [] (-1) (-1) (-1) 0
abbrev RvI (σ : Sto) (q : Nat) : Prop := Rv σ q (fun _ => 0) (-1) (-1) 0
theorem wi_3 (hk : sK σ1 x = 1) (hf : fR σ1 2 x = some (x + 3)) (hn1 : sN σ1 = x + 714)
    (hQ : ∀ σ', sN σ' = x + 754 → (sK σ' (x + 3) = 57 ∧ sZ σ' (x + 3) = 20) → Keep σ1 σ' (At1 (x + 3)) → (∀ j, j < 20 → aR σ' (x + 3) j = some (x + 714 + 2 * j) ∧ RvI σ' (x + 714 + 2 * j)) → Q none σ') :
    ∀ (d i : Nat) (σ : Sto) (k n : Nat), i + d = 20 → sN σ = x + 714 + 2 * i → (sK σ (x + 3) = 57 ∧ sZ σ (x + 3) = 20) → Keep σ1 σ (At1 (x + 3)) → (∀ j, j < i → aR σ (x + 3) j = some (x + 714 + 2 * j) ∧ RvI σ (x + 714 + 2 * j)) → k ≤ 780 + 2 * i → n ≤ 35510 + 10 * i →
    Aw Ω M_Dw_init rm_Dw_init (MF Ω rm_Dw_init Q XN) k n 196 [xr (some x), xi i] [] σ := by
  intro d
  induction d with
  | zero =>
    intro i σ k n hd hn h54 kk hA h1 h2
    have e : i = 20 := by omega
    subst e
    refine b_Dw_init_196 ⟨by omega, fun _ => ?_, fun c => absurd (show (20 : Int) ≤ ((20 : Nat) : Int) by decide) c⟩
    exact r_Dw_init_221 (hQ σ hn h54 kk hA) (by show k ≤ 900; omega) (by show n ≤ 80000; omega)
  | succ d ih =>
    intro i σ k n hd hn h54 kk hA h1 h2
    have ea := kk.2 x (by omega) (by omega)
    refine b_Dw_init_196 ⟨by omega, fun c => absurd c (by omega), fun _ => ⟨ea.1.trans hk, x + 3, (ea.2.2.2.2.1 _).trans hf, by show k + 1 ≤ 900; omega, by show n + 4 ≤ 80000; omega, fun σ7 e7 => ?_⟩⟩
    have k7 : Keep σ σ7 No := by rw [e7]; exact Keep.nO
    have q7 : sK σ7 (sN σ) = 9 := by rw [e7, sK_nO, if_pos rfl]
    have n7 : sN σ7 = sN σ + 1 := by rw [e7, sN_nO]
    refine c_Dw_init_211 (k_Rev_init q7 n7) (by decide) (by decide) (by simp only [rm_Dw_init, rm_Pat_init, rm_Rev_init, rm_Ver_init]; omega) (by simp only [rm_Dw_init, rm_Pat_init, rm_Rev_init, rm_Ver_init]; omega) (Nat.le_of_ble_eq_true rfl) (fun σ8 hq => ?_) (fun _ _ hx => hx.elim)
    obtain ⟨h8, n8, k8⟩ := hq
    have k18 : Keep σ σ8 No := k7.tr k8 (fun q z1 z2 => by omega)
    have e5 := k18.2 (x + 3) (by omega) (by intro z; exact z)
    refine b_Dw_init_214 ⟨e5.1.trans h54.1, by omega, by rw [e5.2.1, h54.2]; omega, h8.2.1, ?_⟩
    rw [Int.toNat_natCast]
    have k9 : Keep σ8 (vR σ8 (x + 3) i (some (sN σ))) (At1 (x + 3)) := Keep.vR rfl
    have k89 : Keep σ (vR σ8 (x + 3) i (some (sN σ))) (At1 (x + 3)) := (k18.mono (fun _ _ h => h.elim)).trans k9
    have hh := ih (i + 1) (vR σ8 (x + 3) i (some (sN σ))) _ _ (by omega) (by show sN σ8 = _; omega) ⟨e5.1.trans h54.1, e5.2.1.trans h54.2⟩ (kk.trans k89) (fun j hj => ?_) (?_ : k + 1 + rm_Rev_init.cells ≤ _) (?_ : n + 4 + rm_Rev_init.slots ≤ _)
    · rw [show (((i + 1 : Nat)) : Int) = (i : Int) + 1 by omega] at hh
      exact hh
    · by_cases e : j = i
      · subst e
        refine ⟨by rw [aR_vR, if_pos ⟨rfl, rfl⟩, hn], ?_⟩
        rw [← hn]
        exact h8.keep k9 (fun q z1 z2 z3 => by omega)
      · obtain ⟨r1, r2⟩ := hA j (by omega)
        refine ⟨?_, r2.keep k89 (fun q z1 z2 z3 => by omega)⟩
        rw [aR_vR, if_neg (fun z => e z.2), e5.2.2.2.2.2.2.2]; exact r1
    · show k + 1 + 1 ≤ _; omega
    · show n + 4 + 6 ≤ _; omega
theorem wi_2 (hk : sK σ1 x = 1) (hf : fR σ1 1 x = some (x + 2)) (hn1 : sN σ1 = x + 694)
    (hQ : ∀ σ' k n, sN σ' = x + 714 → (sK σ' (x + 2) = 56 ∧ sZ σ' (x + 2) = 10) → Keep σ1 σ' (At1 (x + 2)) → (∀ j, j < 10 → aR σ' (x + 2) j = some (x + 694 + 2 * j) ∧ Pt σ' lo (x + 694 + 2 * j) []) → k ≤ 780 → n ≤ 35510 → Aw Ω M_Dw_init rm_Dw_init (MF Ω rm_Dw_init Q XN) k n 196 [xr (some x), xi 0] [] σ') :
    ∀ (d i : Nat) (σ : Sto) (k n : Nat), i + d = 10 → sN σ = x + 694 + 2 * i → (sK σ (x + 2) = 56 ∧ sZ σ (x + 2) = 10) → Keep σ1 σ (At1 (x + 2)) → (∀ j, j < i → aR σ (x + 2) j = some (x + 694 + 2 * j) ∧ Pt σ lo (x + 694 + 2 * j) []) → k ≤ 760 + 2 * i → n ≤ 35280 + 23 * i → x + 753 < lo →
    Aw Ω M_Dw_init rm_Dw_init (MF Ω rm_Dw_init Q XN) k n 169 [xr (some x), xi i] [] σ := by
  intro d
  induction d with
  | zero =>
    intro i σ k n hd hn h54 kk hA h1 h2 hlo
    have e : i = 10 := by omega
    subst e
    exact b_Dw_init_169 ⟨by omega, fun _ => hQ σ k n hn h54 kk hA (by omega) (by omega), fun c => absurd (show (10 : Int) ≤ ((10 : Nat) : Int) by decide) c⟩
  | succ d ih =>
    intro i σ k n hd hn h54 kk hA h1 h2 hlo
    have ea := kk.2 x (by omega) (by omega)
    refine b_Dw_init_169 ⟨by omega, fun c => absurd c (by omega), fun _ => ⟨ea.1.trans hk, x + 2, (ea.2.2.2.2.1 _).trans hf, by show k + 1 ≤ 900; omega, by show n + 2 ≤ 80000; omega, fun σ7 e7 => ?_⟩⟩
    have k7 : Keep σ σ7 No := by rw [e7]; exact Keep.nO
    have q7 : sK σ7 (sN σ) = 8 := by rw [e7, sK_nO, if_pos rfl]
    have n7 : sN σ7 = sN σ + 1 := by rw [e7, sN_nO]
    refine c_Dw_init_184 (k_Pat_init (lo := lo) q7 n7) (by decide) (by decide) (by simp only [rm_Dw_init, rm_Pat_init, rm_Rev_init, rm_Ver_init]; omega) (by simp only [rm_Dw_init, rm_Pat_init, rm_Rev_init, rm_Ver_init]; omega) (Nat.le_of_ble_eq_true rfl) (fun σ8 hq => ?_) (fun _ _ hx => hx.elim)
    obtain ⟨h8, n8, k8⟩ := hq
    have k18 : Keep σ σ8 No := k7.tr k8 (fun q z1 z2 => by omega)
    have e5 := k18.2 (x + 2) (by omega) (by intro z; exact z)
    refine b_Dw_init_187 ⟨e5.1.trans h54.1, by omega, by rw [e5.2.1, h54.2]; omega, h8.2.1, ?_⟩
    rw [Int.toNat_natCast]
    have k9 : Keep σ8 (vR σ8 (x + 2) i (some (sN σ))) (At1 (x + 2)) := Keep.vR rfl
    have k89 : Keep σ (vR σ8 (x + 2) i (some (sN σ))) (At1 (x + 2)) := (k18.mono (fun _ _ h => h.elim)).trans k9
    have hh := ih (i + 1) (vR σ8 (x + 2) i (some (sN σ))) _ _ (by omega) (by show sN σ8 = _; omega) ⟨e5.1.trans h54.1, e5.2.1.trans h54.2⟩ (kk.trans k89) (fun j hj => ?_) (?_ : k + 1 + rm_Pat_init.cells ≤ _) (?_ : n + 2 + rm_Pat_init.slots ≤ _) hlo
    · rw [show (((i + 1 : Nat)) : Int) = (i : Int) + 1 by omega] at hh
      exact hh
    · by_cases e : j = i
      · subst e
        refine ⟨by rw [aR_vR, if_pos ⟨rfl, rfl⟩, hn], ?_⟩
        rw [← hn]
        exact h8.keep k9 (fun q z1 z2 z3 => by omega) (by omega) (by omega)
      · obtain ⟨r1, r2⟩ := hA j (by omega)
        refine ⟨?_, r2.keep k89 (fun q z1 z2 z3 => by omega) (by omega) (by omega)⟩
        rw [aR_vR, if_neg (fun z => e z.2), e5.2.2.2.2.2.2.2]; exact r1
    · show k + 1 + 1 ≤ _; omega
    · show n + 2 + 21 ≤ _; omega
theorem wi_1 (hk : sK σ1 x = 1) (hf : fR σ1 0 x = some (x + 1)) (hn1 : sN σ1 = x + 374) (hoE : oE Ω < lo) (hlo : x + 753 < lo)
    (hQ : ∀ σ' k n, sN σ' = x + 694 → (sK σ' (x + 1) = 55 ∧ sZ σ' (x + 1) = 40) → Keep σ1 σ' (At1 (x + 1)) → (∀ j, j < 40 → aR σ' (x + 1) j = some (x + 374 + 8 * j) ∧ VrI Ω lo σ' (x + 374 + 8 * j)) → k ≤ 760 → n ≤ 35280 → Aw Ω M_Dw_init rm_Dw_init (MF Ω rm_Dw_init Q XN) k n 169 [xr (some x), xi 0] [] σ') :
    ∀ (d i : Nat) (σ : Sto) (k n : Nat), i + d = 40 → sN σ = x + 374 + 8 * i → (sK σ (x + 1) = 55 ∧ sZ σ (x + 1) = 40) → Keep σ1 σ (At1 (x + 1)) → (∀ j, j < i → aR σ (x + 1) j = some (x + 374 + 8 * j) ∧ VrI Ω lo σ (x + 374 + 8 * j)) → k ≤ 400 + 9 * i → n ≤ 27000 + 207 * i →
    Aw Ω M_Dw_init rm_Dw_init (MF Ω rm_Dw_init Q XN) k n 142 [xr (some x), xi i] [] σ := by
  intro d
  induction d with
  | zero =>
    intro i σ k n hd hn h54 kk hA h1 h2
    have e : i = 40 := by omega
    subst e
    exact b_Dw_init_142 ⟨by omega, fun _ => hQ σ k n hn h54 kk hA (by omega) (by omega), fun c => absurd (show (40 : Int) ≤ ((40 : Nat) : Int) by decide) c⟩
  | succ d ih =>
    intro i σ k n hd hn h54 kk hA h1 h2
    have ea := kk.2 x (by omega) (by omega)
    refine b_Dw_init_142 ⟨by omega, fun c => absurd c (by omega), fun _ => ⟨ea.1.trans hk, x + 1, (ea.2.2.2.2.1 _).trans hf, by show k + 1 ≤ 900; omega, by show n + 7 ≤ 80000; omega, fun σ7 e7 => ?_⟩⟩
    have k7 : Keep σ σ7 No := by rw [e7]; exact Keep.nO
    have q7 : sK σ7 (sN σ) = 12 := by rw [e7, sK_nO, if_pos rfl]
    have n7 : sN σ7 = sN σ + 1 := by rw [e7, sN_nO]
    refine c_Dw_init_157 (k_Ver_init (lo := lo) q7 n7 (by omega) hoE) (by decide) (by decide) (by simp only [rm_Dw_init, rm_Pat_init, rm_Rev_init, rm_Ver_init]; omega) (by simp only [rm_Dw_init, rm_Pat_init, rm_Rev_init, rm_Ver_init]; omega) (Nat.le_of_ble_eq_true rfl) (fun σ8 hq => ?_) (fun _ _ hx => hx.elim)
    obtain ⟨h8, n8, k8⟩ := hq
    have k18 : Keep σ σ8 No := k7.tr k8 (fun q z1 z2 => by omega)
    have e5 := k18.2 (x + 1) (by omega) (by intro z; exact z)
    refine b_Dw_init_160 ⟨e5.1.trans h54.1, by omega, by rw [e5.2.1, h54.2]; omega, h8.1.2.1, ?_⟩
    rw [Int.toNat_natCast]
    have k9 : Keep σ8 (vR σ8 (x + 1) i (some (sN σ))) (At1 (x + 1)) := Keep.vR rfl
    have k89 : Keep σ (vR σ8 (x + 1) i (some (sN σ))) (At1 (x + 1)) := (k18.mono (fun _ _ h => h.elim)).trans k9
    have hh := ih (i + 1) (vR σ8 (x + 1) i (some (sN σ))) _ _ (by omega) (by show sN σ8 = _; omega) ⟨e5.1.trans h54.1, e5.2.1.trans h54.2⟩ (kk.trans k89) (fun j hj => ?_) (?_ : k + 1 + rm_Ver_init.cells ≤ _) (?_ : n + 7 + rm_Ver_init.slots ≤ _)
    · rw [show (((i + 1 : Nat)) : Int) = (i : Int) + 1 by omega] at hh
      exact hh
    · by_cases e : j = i
      · subst e
        refine ⟨by rw [aR_vR, if_pos ⟨rfl, rfl⟩, hn], ?_⟩
        rw [← hn]
        exact h8.keep k9 (fun q z1 z2 z3 => by omega) (fun z1 z2 => by omega)
      · obtain ⟨r1, r2⟩ := hA j (by omega)
        refine ⟨?_, r2.keep k89 (fun q z1 z2 z3 => by omega) (fun z1 z2 => by omega)⟩
        rw [aR_vR, if_neg (fun z => e z.2), e5.2.2.2.2.2.2.2]; exact r1
    · show k + 1 + 8 ≤ _; omega
    · show n + 7 + 200 ≤ _; omega
end INL
