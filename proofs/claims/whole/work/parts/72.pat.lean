/-! BY HAND: Patch -/
def Pt (σ : Sto) (lo p : Nat) (hs : List Hun) : Prop := p + 1 < sN σ ∧ sK σ p = 8 ∧ fR σ 448 p = some (p + 1) ∧ sK σ (p + 1) = 58 ∧ sZ σ (p + 1) = 21 ∧ fI σ 449 p = hs.length ∧ hs.length ≤ 21 ∧ ∀ i H, hs[i]? = some H → ∃ h, aR σ (p + 1) i = some h ∧ Hk σ lo h H
theorem Pt.keep {σ σ' : Sto} {lo p : Nat} {hs : List Hun} {P : Nat → Prop} (h : Pt σ lo p hs) (k : Keep σ σ' P) (d : ∀ b, lo ≤ b → sK σ b ≠ 59 → ¬ P b) (d0 : ¬ P p) (d1 : ¬ P (p + 1)) : Pt σ' lo p hs := by
  obtain ⟨h1, h2, h3, h4, h5, h6, h7, h8⟩ := h
  have e0 := k.2 p (by omega) d0
  have e1 := k.2 (p + 1) (by omega) d1
  refine ⟨Nat.lt_of_lt_of_le h1 k.1, e0.1.trans h2, (e0.2.2.2.2.1 _).trans h3, e1.1.trans h4, e1.2.1.trans h5, (e0.2.2.1 _).trans h6, h7, fun i H hi => ?_⟩
  obtain ⟨h, g1, g2⟩ := h8 i H hi
  exact ⟨h, by rw [e1.2.2.2.2.2.2.2]; exact g1, g2.keep k d⟩
def frS (hs : List Hun) : Nat := (hs.map (fun H => (hnF H).length)).sum
noncomputable def lyN (fz : Nat) : List Hun → Int → Int → List (Int64 × Int) → Nat → List (Int64 × Int) × Nat
  | [], _, _, T, rj => (T, rj)
  | H :: hs, mv, fl, T, rj => match findN T H ((hnP H : Int) + mv) fl fz with
    | none => lyN fz hs mv fl T (rj + 1)
    | some x => lyN fz hs (mv + (((hnF H).length : Int) - (hnG H).length + x - ((hnP H : Int) + mv))) (x + (hnF H).length) (ptL T x.toNat (hnG H) (hnF H)) rj
section PAT
variable {Ω : Om} {σ0 : Sto} {p t lo : Nat} {hs : List Hun} {T : List (Int64 × Int)}
theorem k_Pat_hunkAt {σ : Sto} {i : Int} (h : Pt σ lo p hs) (hi : Q32 i) : MC Ω M_Pat_hunkAt rm_Pat_hunkAt (RR fun r σ' => σ' = σ ∧ ((∃ H h, 0 ≤ i ∧ hs[i.toNat]? = some H ∧ r = some h ∧ Hk σ lo h H) ∨ ((i < 0 ∨ hs.length ≤ i) ∧ r = none))) XN σ [xr (some p), xi i] := by
  obtain ⟨h1, h2, h3, h4, h5, h6, h7, h8⟩ := h
  refine e_Pat_hunkAt (b_Pat_hunkAt_0 ⟨hi, fun c => ?_, fun c => ⟨h2, fun _ => ⟨fun c2 => ⟨_, h3, h4, by omega, by omega, ?_⟩, fun c2 => ?_⟩⟩⟩)
  · exact r_Pat_hunkAt_22 ⟨_, rfl, rfl, Or.inr ⟨Or.inl c, rfl⟩⟩ (by decide) (by decide)
  · have e := List.getElem?_eq_getElem (l := hs) (i := i.toNat) (by omega)
    obtain ⟨h, g1, g2⟩ := h8 _ _ e
    exact r_Pat_hunkAt_22 ⟨_, rfl, rfl, Or.inl ⟨_, h, by omega, e, g1, g2⟩⟩ (by decide) (by decide)
  · exact r_Pat_hunkAt_22 ⟨_, rfl, rfl, Or.inr ⟨Or.inr (by omega), rfl⟩⟩ (by decide) (by decide)
theorem k_Pat_add {σ : Sto} {h : Nat} {H : Hun} (hp : Pt σ lo p hs) (hn : hs.length < 21) (hH : Hk σ lo h H) (hd : p + 1 < lo) : MC Ω M_Pat_add rm_Pat_add (RV fun σ' => Pt σ' lo p (hs ++ [H]) ∧ sN σ' = sN σ ∧ Keep σ σ' (In p (p + 2))) XN σ [xr (some p), xr (some h)] := by
  obtain ⟨h1, h2, h3, h4, h5, h6, h7, h8⟩ := id hp
  refine e_Pat_add (b_Pat_add_0 ⟨h2, fun _ => ⟨fun c => absurd c (by omega), fun c => ⟨_, h3, fun _ => ⟨h4, by omega, by omega, hH.2.2.1, fun _ => ⟨by omega, ?_⟩⟩⟩⟩⟩)
  have e : (fI σ 449 p).toNat = hs.length := by omega
  rw [e, h6]
  have kk : Keep σ (uI (vR σ (p + 1) hs.length (some h)) 449 p ((hs.length : Int) + 1)) (In p (p + 2)) := (Keep.vR (by omega)).trans (Keep.uI (by omega))
  refine r_Pat_add_29 ⟨rfl, ⟨h1, h2, h3, h4, h5, ?_, ?_, fun i H' hi => ?_⟩, rfl, kk⟩ (by decide) (by decide)
  · rw [fI_uI, if_pos ⟨rfl, rfl⟩, List.length_append]; simp
  · rw [List.length_append, List.length_cons, List.length_nil]; omega
  · rcases snoc_get hi with ⟨hi2, hi⟩ | ⟨rfl, rfl⟩
    · obtain ⟨h', g1, g2⟩ := h8 i H' hi
      refine ⟨h', ?_, g2.keep kk (fun b b1 _ b3 => by omega)⟩
      rw [aR_uI, aR_vR, if_neg (by omega)]; exact g1
    · refine ⟨h, ?_, hH.keep kk (fun b b1 _ b3 => by omega)⟩
      rw [aR_uI, aR_vR, if_pos ⟨rfl, rfl⟩]
theorem k_Pat_init {σ : Sto} (ha : sK σ p = 8) (hn : sN σ = p + 1) : MC Ω M_Pat_init rm_Pat_init (RV fun σ' => Pt σ' lo p [] ∧ sN σ' = p + 2 ∧ Keep σ σ' (At1 p)) XN σ [xr (some p)] := by
  refine e_Pat_init (b_Pat_init_0 ⟨by decide, Nat.le_of_ble_eq_true rfl, by decide, by decide, fun σ1 e1 => ?_⟩)
  have k1 : sK σ1 p = 8 := by rw [e1, sK_nO, if_neg (by omega)]; exact ha
  have n1 : sN σ1 = p + 2 := by rw [e1, sN_nO]; omega
  refine ⟨k1, ?_⟩
  rw [hn]
  refine r_Pat_init_18 ⟨rfl, ⟨?_, k1, ?_, ?_, ?_, ?_, Nat.zero_le _, fun i H hi => by simp at hi⟩, n1, ?_⟩ (by decide) (by decide)
  · show p + 1 < sN σ1; omega
  · rw [fR_uI, fR_uR, if_pos ⟨rfl, rfl⟩]
  · rw [sK_uI, sK_uR, e1, sK_nO, if_pos hn.symm]
  · rw [sZ_uI, sZ_uR, e1, sZ_nO, if_pos hn.symm]
  · rw [fI_uI, if_pos ⟨rfl, rfl⟩]; rfl
  · have k0 : Keep σ σ1 (At1 p) := by rw [e1]; exact Keep.nO
    exact k0.trans ((Keep.uR (P := At1 p) rfl).trans (Keep.uI (P := At1 p) rfl))
theorem lay_loop {fz : Nat} (hfz : fz ≤ 2) (hd : t + 2 < lo) (hpt : p + 1 < t ∨ t + 2 < p) : ∀ (r : List Hun) (i : Nat) (mv fl : Int) (T : List (Int64 × Int)) (rj : Nat) (σ : Sto), r = hs.drop i → i ≤ hs.length → -100 ≤ mv ∧ mv ≤ 100 → 0 ≤ fl ∧ fl ≤ 100 → T.length + frS r ≤ 40 → rj ≤ i → Pt σ lo p hs → Tx σ t T → Keep σ0 σ (In t (t + 3)) → Aw Ω M_Pat_layOn rm_Pat_layOn (MF Ω rm_Pat_layOn (RI fun x σ' => x = (lyN fz r mv fl T rj).2 ∧ Tx σ' t (lyN fz r mv fl T rj).1 ∧ Keep σ0 σ' (In t (t + 3))) XN) 0 0 11 [xr (some p), xr (some t), xi fz, xi rj, xi mv, xi fl, xi i, xu, xu, xu] [] σ := by
  intro r
  induction r with
  | nil =>
    intro i mv fl T rj σ hr hi hmv hfl hT hrj hp ht hk
    obtain ⟨h1, h2, h3, h4, h5, h6, h7, h8⟩ := id hp
    have e : i = hs.length := by
      have := congrArg List.length hr
      rw [List.length_drop, List.length_nil] at this; omega
    refine b_Pat_layOn_11 ⟨h2, fun _ => ⟨by omega, fun _ => ?_, fun c => absurd (by omega) c⟩⟩
    exact r_Pat_layOn_121 ⟨_, rfl, rfl, ht, hk⟩ (by decide) (by decide)
  | cons H r ih =>
    intro i mv fl T rj σ hr hi hmv hfl hT hrj hp ht hk
    obtain ⟨h1, h2, h3, h4, h5, h6, h7, h8⟩ := id hp
    have li : i < hs.length := by
      have := congrArg List.length hr
      rw [List.length_drop, List.length_cons] at this; omega
    have hr2 := hr
    rw [List.drop_eq_getElem_cons li] at hr2
    obtain ⟨eH, er⟩ := List.cons.inj hr2
    have eH2 : hs[i]? = some H := by rw [List.getElem?_eq_getElem li, eH]
    refine b_Pat_layOn_11 ⟨h2, fun _ => ⟨by omega, fun c => absurd c (by omega), fun _ => ?_⟩⟩
    refine c_Pat_layOn_23 (k_Pat_hunkAt hp (show Q32 (i : Int) by omega)) h2 (by decide) (by decide) (by first | decide | omega) (by first | decide | omega) (Nat.le_of_ble_eq_true rfl) (fun z σ1 hq => ?_) (fun _ _ hx => hx.elim)
    obtain ⟨rfl, hz⟩ := hq
    rcases hz with ⟨H', h, _, hz2, rfl, hH⟩ | ⟨hz2, _⟩
    case inr => omega
    have eH3 : H' = H := by
      have e9 : hs[i]? = some H' := hz2
      rw [eH2] at e9; exact (Option.some.inj e9).symm
    subst eH3
    have hb := hH.2.2.2.2.2.1
    obtain ⟨b1, b2, b3, b4, b5, b6⟩ := hb
    have hsum : frS (H' :: r) = (hnF H').length + frS r := by unfold frS; rw [List.map_cons, List.sum_cons]
    refine b_Pat_layOn_26 ⟨fun _ => ⟨h, rfl, hH.2.2.1, fun _ => ?_⟩, fun c => by cases c⟩
    rw [hH.2.2.2.1]
    refine c_Pat_layOn_54 (k_Hnk_findIn hH ht (by omega) (by omega) hfz) hH.2.2.1 (by decide) (by decide) (by first | decide | omega) (by first | decide | omega) (Nat.le_of_ble_eq_true rfl) (fun z2 σ2 hq => ?_) (fun _ _ hx => hx.elim)
    obtain ⟨rfl, rfl⟩ := hq
    cases hf : findN T H' ((hnP H' : Int) + mv) fl fz with
    | none =>
      refine b_Pat_layOn_57 ⟨by decide, fun c => absurd rfl c, fun _ => ?_⟩
      have := ih (i + 1) mv fl T (rj + 1) σ2 er (by omega) hmv hfl (by omega) (by omega) hp ht hk
      rw [lyN, hf]
      exact this
    | some x =>
      have hx := findN_ok hf
      have hl := ht.2.2.2.2.2.2.2.2.2.1
      refine b_Pat_layOn_57 ⟨show Q32 x by omega, fun _ => ?_, fun c => absurd (show x = -1 from c) (by omega)⟩
      have ex : (some x).getD (-1) = ((x.toNat : Nat) : Int) := by show x = _; omega
      rw [ex]
      refine c_Pat_layOn_76 (k_Hnk_putAt hH ht (by omega) (by omega) hd) hH.2.2.1 (by decide) (by decide) (by first | decide | omega) (by first | decide | omega) (Nat.le_of_ble_eq_true rfl) (fun σ3 hq => ?_) (fun _ _ hx => hx.elim)
      obtain ⟨hT3, hk3⟩ := hq
      have hH3 := hH.keep hk3 (fun b b1 _ b3 => by omega)
      have hp3 := hp.keep hk3 (fun b b1 _ b3 => by omega) (by omega) (by omega)
      obtain ⟨q1, q2, q3, q4, q5, q6, a, g, f, b, r1, r2, r3, r4, la, lg, lf, lb⟩ := id hH3
      refine b_Pat_layOn_79 ⟨q3, _, r3, lf.2.2.1, ?_⟩
      rw [lf.2.2.2.1]
      refine fun _ => ⟨_, r2, lg.2.2.1, ?_⟩
      rw [lg.2.2.2.1]
      refine fun _ => fun _ => ?_
      have hpl : (ptL T x.toNat (hnG H') (hnF H')).length = T.length - (hnG H').length + (hnF H').length := by
        unfold ptL
        rw [List.length_append, List.length_append, List.length_take, List.length_map, List.length_drop]; omega
      have := ih (i + 1) (mv + (((hnF H').length : Int) - (hnG H').length + x - ((hnP H' : Int) + mv))) (x + (hnF H').length) (ptL T x.toNat (hnG H') (hnF H')) rj σ3 er (by omega) (by omega) (by omega) (by rw [hpl]; omega) (by omega) hp3 hT3 (hk.trans hk3)
      rw [lyN, hf]
      have ex2 : ((x.toNat : Nat) : Int) = x := by omega
      rw [ex2]
      exact this
theorem k_Pat_layOn {σ : Sto} {fz : Nat} (hp : Pt σ lo p hs) (ht : Tx σ t T) (hfz : fz ≤ 2) (hl : T.length + frS hs ≤ 40) (hd : t + 2 < lo) (hpt : p + 1 < t ∨ t + 2 < p) : MC Ω M_Pat_layOn rm_Pat_layOn (RI fun x σ' => x = (lyN fz hs 0 0 T 0).2 ∧ Tx σ' t (lyN fz hs 0 0 T 0).1 ∧ Keep σ σ' (In t (t + 3))) XN σ [xr (some p), xr (some t), xi fz] :=
  e_Pat_layOn (b_Pat_layOn_0 (lay_loop hfz hd hpt hs 0 0 0 T 0 σ rfl (Nat.zero_le _) (by omega) (by omega) hl (Nat.le_refl _) hp ht Keep.rf))
end PAT
