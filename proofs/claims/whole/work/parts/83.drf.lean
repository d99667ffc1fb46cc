/-! BY HAND: Draft, the loop of the weaving -/
noncomputable def wvN (F S B : List (Int64 × Int)) (P1 P2 : Nat → Int) : Nat → Nat → Nat → Nat → Nat → List (Int64 × Int) → List Cnl → List (Int64 × Int) × List Cnl
  | 0, _, ff, sf, bf, T, cl => (wpT F S B T ((ff, F.length), (sf, S.length), (bf, B.length), T.length, 0), wpC F S B cl ((ff, F.length), (sf, S.length), (bf, B.length), T.length, 0))
  | d + 1, i, ff, sf, bf, T, cl => if P1 i ≠ -1 ∧ P2 i ≠ -1 then wvN F S B P1 P2 d (i + 1) ((P1 i).toNat + 1) ((P2 i).toNat + 1) (i + 1) (wpT F S B T ((ff, P1 i), (sf, P2 i), (bf, i), T.length, 0) ++ slice F (P1 i) (P1 i + 1)) (wpC F S B cl ((ff, P1 i), (sf, P2 i), (bf, i), T.length, 0)) else wvN F S B P1 P2 d (i + 1) ff sf bf T cl
theorem wl_aux {W T ff sf F S : Nat} {p q : Int} (h1 : W ≤ T + ((p - ff).toNat + (q - sf).toNat)) (h2 : T ≤ ff + sf) (h3 : (ff : Int) ≤ p ∧ (sf : Int) ≤ q) (h4 : p < F) (h5 : q < S) (h6 : F ≤ 20) (h7 : S ≤ 20) : (W : Int) + 1 ≤ 40 := by omega
theorem wl_aux3 {W T ff sf : Nat} {p q : Int} (h1 : W ≤ T + ((p - ff).toNat + (q - sf).toNat)) (h2 : T ≤ ff + sf) (h3 : (ff : Int) ≤ p ∧ (sf : Int) ≤ q) : W + 1 ≤ p.toNat + 1 + (q.toNat + 1) := by omega
theorem wl_aux2 (x y : Int) : x + (y + 1 - y) = x + 1 := by omega
/-- what a weaving touches -/
abbrev WP (a : Nat) : Nat → Prop := fun q => (a ≤ q ∧ q < a + 4) ∨ (a + 65 ≤ q ∧ q < a + 128)
section DRV
variable {Ω : Om} {σ0 : Sto} {a f s b : Nat} {F S B : List (Int64 × Int)} {P1 P2 M1 M2 : Nat → Int} {X1 Y1 X2 Y2 : List Int64} {b1 b2 n1 n2 : Nat}
theorem wpT_len {T : List (Int64 × Int)} {c : Cnl} (h : CnB c F S B) : (wpT F S B T c).length ≤ T.length + ((cnT c 0 - cnF c 0).toNat + (cnT c 1 - cnF c 1).toNat) := by
  have h0 := h.at 0
  have h1 := h.at 1
  by_cases e : alk F S B c 0 2
  · rw [wpT_2 e, List.length_append, slice_len (S := S) h1.1 h1.2.1 h1.2.2]; omega
  · by_cases g : alk F S B c 1 2 ∨ alk F S B c 1 0
    · rw [wpT_1 e g, List.length_append, slice_len (S := F) h0.1 h0.2.1 h0.2.2]; omega
    · rw [wpT_0 e g]; omega
theorem wpC_len {cl : List Cnl} {c : Cnl} : (wpC F S B cl c).length ≤ cl.length + 1 := by
  by_cases e : alk F S B c 0 2 ∨ alk F S B c 1 2 ∨ alk F S B c 1 0
  · rw [wpC_1 e]; omega
  · rw [wpC_0 e, List.length_append]; simp
/-- what stands while a draft is woven -/
abbrev WI (σ0 σ : Sto) (a f s b : Nat) (F S B : List (Int64 × Int)) (X1 Y1 X2 Y2 : List Int64) (P1 P2 M1 M2 : Nat → Int) (b1 b2 n1 n2 : Nat) (T : List (Int64 × Int)) (cl : List Cnl) : Prop := DrS σ a ∧ DrT σ a f s b ∧ DrC σ a cl ∧ fI σ 202 a = cl.length ∧ Tx σ (a + 1) T ∧ Tx3 σ f s b F S B ∧ CpW σ (a + 6) X1 Y1 ∧ CpP σ (a + 6) X1.length b1 P1 M1 n1 ∧ CpW σ (a + 34) X2 Y2 ∧ CpP σ (a + 34) X2.length b2 P2 M2 n2 ∧ Keep σ0 σ (WP a)
theorem cpkeep {σ σ' : Sto} {P : Nat → Prop} {c : Nat} {X Y : List Int64} {A M : Nat → Int} {b n : Nat} (hW : CpW σ c X Y) (hP : CpP σ c X.length b A M n) (k : Keep σ σ' P) (dj : ∀ q, c ≤ q → q ≤ c + 27 → ¬ P q) : CpW σ' c X Y ∧ CpP σ' c X.length b A M n := by
  have h0 := hW.1.1
  exact ⟨⟨hW.1.keep k dj, hW.2.1.keep k h0 (dj _ (by omega) (by omega)) (dj _ (by omega) (by omega)), hW.2.2.keep k h0 (dj _ (by omega) (by omega)) (dj _ (by omega) (by omega))⟩, hP.keep k h0 (dj _ (by omega) (by omega)) (dj _ (by omega) (by omega)) (dj _ (by omega) (by omega)) (dj _ (by omega) (by omega))⟩
theorem weave_loop {v : List (Int64 × Int) × List Cnl} {QE : Sto → Prop} (lF : F.length ≤ 20) (lS : S.length ≤ 20) (lB : B.length ≤ 20) (x1 : X1.length = B.length) (x2 : X2.length = B.length) (o1 : PrOK P1 B.length F.length) (o2 : PrOK P2 B.length S.length) (df : DO a f) (ds : DO a s) (db : DO a b) (hqF : ∀ x ∈ F, Q32 x.2) (hqS : ∀ x ∈ S, Q32 x.2) (hQE : ∀ σ', DrS σ' a ∧ DrT σ' a f s b ∧ DrC σ' a v.2 ∧ fI σ' 202 a = v.2.length ∧ Tx σ' (a + 1) v.1 ∧ Keep σ0 σ' (WP a) → QE σ') :
    ∀ (d i ff sf bf : Nat) (T : List (Int64 × Int)) (cl : List Cnl) (σ : Sto), i + d = B.length → wvN F S B P1 P2 d i ff sf bf T cl = v → ff ≤ F.length → sf ≤ S.length → bf ≤ i → cl.length ≤ i → T.length ≤ ff + sf → (∀ j, i ≤ j → j < B.length → P1 j ≠ -1 → P2 j ≠ -1 → (ff : Int) ≤ P1 j ∧ (sf : Int) ≤ P2 j) →
    WI σ0 σ a f s b F S B X1 Y1 X2 Y2 P1 P2 M1 M2 b1 b2 n1 n2 T cl →
    Aw Ω M_Drf_weave rm_Drf_weave (MF Ω rm_Drf_weave (RV QE) XN) 0 0 46 [xr (some a), xr (some f), xr (some s), xr (some b), xi bf, xi ff, xi sf, xi i, xu, xu] [] σ := by
  intro d
  induction d with
  | zero =>
    intro i ff sf bf T cl σ hd hv hff hsf hbf hcl hTl hord hI
    obtain ⟨hS, hT, hC, ho, hX, h3, hW1, hP1, hW2, hP2, hk⟩ := hI
    have e : i = B.length := by omega
    subst e
    refine b_Drf_weave_46 ?_
    refine c_Drf_weave_49 (k_Txt_size h3.2.2) h3.2.2.2.1 (by decide) (by decide) (by first | decide | omega) (by first | decide | omega) (Nat.le_of_ble_eq_true rfl) (fun z σ1 hq => ?_) (fun _ _ hx => hx.elim)
    obtain ⟨rfl, rfl⟩ := hq
    refine b_Drf_weave_52 ⟨by omega, by omega, fun _ => ?_, fun c => absurd (Int.le_refl _) c⟩
    refine c_Drf_weave_160 (k_Txt_size h3.1) h3.1.2.1 (by decide) (by decide) (by first | decide | omega) (by first | decide | omega) (Nat.le_of_ble_eq_true rfl) (fun z σ2 hq => ?_) (fun _ _ hx => hx.elim)
    obtain ⟨rfl, rfl⟩ := hq
    refine b_Drf_weave_163 ?_
    refine c_Drf_weave_166 (k_Txt_size h3.2.1) h3.2.1.2.1 (by decide) (by decide) (by first | decide | omega) (by first | decide | omega) (Nat.le_of_ble_eq_true rfl) (fun z σ3 hq => ?_) (fun _ _ hx => hx.elim)
    obtain ⟨rfl, rfl⟩ := hq
    refine b_Drf_weave_169 ?_
    refine c_Drf_weave_172 (k_Txt_size h3.2.2) h3.2.2.2.1 (by decide) (by decide) (by first | decide | omega) (by first | decide | omega) (Nat.le_of_ble_eq_true rfl) (fun z σ4 hq => ?_) (fun _ _ hx => hx.elim)
    obtain ⟨rfl, rfl⟩ := hq
    refine c_Drf_weave_175 (k_Drf_cut hS hC hX (by omega) (by omega)) hS.2.1 (by decide) (by decide) (by first | decide | omega) (by first | decide | omega) (Nat.le_of_ble_eq_true rfl) (fun z σ5 hq => ?_) (fun _ _ hx => hx.elim)
    obtain ⟨rfl, hc5, hk5, hs5⟩ := hq
    have hS5 := hS.shp hs5
    have hn := hS.1
    have hT5 := hT.keep hk5 (by omega) (by omega)
    have hC5 : DrC σ5 a cl := by
      refine ⟨((hk5.2 a (by omega) (by omega)).2.2.1 _).trans hC.1, hC.2.1, fun j hj => ?_⟩
      by_cases e : j = cl.length
      · exact ⟨_, by rw [e]; exact hc5, fun c' hc' => by
          have := (List.getElem?_eq_some_iff.mp hc').1; omega⟩
      · obtain ⟨c0, g1, g2⟩ := hC.2.2 j hj
        exact ⟨c0, Cf.keep g1 hk5 (fun x h1 h2 h3 => by omega), g2⟩
    have ho5 : fI σ5 202 a = cl.length := ((hk5.2 a (by omega) (by omega)).2.2.1 _).trans ho
    have h35 := h3.keep hk5 (fun q h1 h2 h3 => by omega) (fun q h1 h2 h3 => by omega) (fun q h1 h2 h3 => by omega)
    have hX5 := hX.keep hk5 (fun q h1 h2 h3 => by omega)
    have hb : CnB (((ff : Int), (F.length : Int)), ((sf : Int), (S.length : Int)), ((bf : Int), (B.length : Int)), (T.length : Int), 0) F S B := ⟨⟨show (0 : Int) ≤ (ff : Int) by omega, show (ff : Int) ≤ (F.length : Int) by omega, Int.le_refl _⟩, ⟨show (0 : Int) ≤ (sf : Int) by omega, show (sf : Int) ≤ (S.length : Int) by omega, Int.le_refl _⟩, ⟨show (0 : Int) ≤ (bf : Int) by omega, show (bf : Int) ≤ (B.length : Int) by omega, Int.le_refl _⟩⟩
    refine c_Drf_weave_178 (k_Drf_weavePiece hS5 hT5 hC5 ho5 (by omega) h35 hX5 rfl hc5 rfl hb (show (T.length : Int) + ((F.length : Int) - (ff : Int)) ≤ 40 by omega) (show (T.length : Int) + ((S.length : Int) - (sf : Int)) ≤ 40 by omega) df ds db hqF hqS) hS5.2.1 (by decide) (by decide) (by first | decide | omega) (by first | decide | omega) (Nat.le_of_ble_eq_true rfl) (fun σ6 hq => ?_) (fun _ _ hx => hx.elim)
    obtain ⟨hS6, hT6, hC6, ho6, hX6, hk6⟩ := hq
    refine r_Drf_weave_181 ⟨rfl, hQE _ ⟨hS6, hT6, ?_, ?_, ?_, (hk.trans (hk5.mono (fun b _ h => by omega))).trans (hk6.mono (fun b _ h => by omega))⟩⟩ (by decide) (by decide)
    · rw [← hv]; exact hC6
    · rw [← hv]; exact ho6
    · rw [← hv]; exact hX6
  | succ d ih =>
    intro i ff sf bf T cl σ hd hv hff hsf hbf hcl hTl hord hI
    obtain ⟨hS, hT, hC, ho, hX, h3, hW1, hP1, hW2, hP2, hk⟩ := id hI
    have li : i < B.length := by omega
    refine b_Drf_weave_46 ?_
    refine c_Drf_weave_49 (k_Txt_size h3.2.2) h3.2.2.2.1 (by decide) (by decide) (by first | decide | omega) (by first | decide | omega) (Nat.le_of_ble_eq_true rfl) (fun z σ1 hq => ?_) (fun _ _ hx => hx.elim)
    obtain ⟨rfl, rfl⟩ := hq
    refine b_Drf_weave_52 ⟨by omega, by omega, fun c => absurd c (by omega), fun _ => ⟨hS.2.1, _, hS.2.2.2.2.2.1, ?_⟩⟩
    refine c_Drf_weave_61 (k_Cmp_pairAt hW1.1 hW1.2.1 hP1 (show Q32 (i : Int) by omega)) hW1.1.2.1 (by decide) (by decide) (by first | decide | omega) (by first | decide | omega) (Nat.le_of_ble_eq_true rfl) (fun z1 σ2 hq => ?_) (fun _ _ hx => hx.elim)
    obtain ⟨rfl, q1, e1⟩ := hq
    rw [if_pos (by omega)] at e1
    have e1' : z1 = P1 i := e1
    refine b_Drf_weave_64 ⟨hS.2.1, _, hS.2.2.2.2.2.2.1, ?_⟩
    refine c_Drf_weave_72 (k_Cmp_pairAt hW2.1 hW2.2.1 hP2 (show Q32 (i : Int) by omega)) hW2.1.2.1 (by decide) (by decide) (by first | decide | omega) (by first | decide | omega) (Nat.le_of_ble_eq_true rfl) (fun z2 σ3 hq => ?_) (fun _ _ hx => hx.elim)
    obtain ⟨rfl, q2, e2⟩ := hq
    rw [if_pos (by omega)] at e2
    have e2' : z2 = P2 i := e2
    rw [e1', e2']
    rw [e1'] at q1
    rw [e2'] at q2
    have r1 := o1.1 i li
    have r2 := o2.1 i li
    rw [wvN] at hv
    have skip : ¬ (P1 i ≠ -1 ∧ P2 i ≠ -1) → Aw Ω M_Drf_weave rm_Drf_weave (MF Ω rm_Drf_weave (RV QE) XN) 0 0 46 [xr (some a), xr (some f), xr (some s), xr (some b), xi bf, xi ff, xi sf, xi ((i : Int) + 1), xu, xu] [] σ3 := fun hn => by
      rw [if_neg hn] at hv
      exact ih (i + 1) ff sf bf T cl σ3 (by omega) hv hff hsf (by omega) (by omega) hTl (fun j h1 h2 h3 h4 => hord j (by omega) h2 h3 h4) hI
    refine b_Drf_weave_75 ⟨q1, fun c => skip (fun z => z.1 c), fun c1 => ⟨q2, fun c => skip (fun z => z.2 c), fun c2 => ?_⟩⟩
    rw [if_pos ⟨c1, c2⟩] at hv
    have hor := hord i (Nat.le_refl _) li c1 c2
    have g1 : P1 i = ((P1 i).toNat : Nat) := by omega
    have g2 : P2 i = ((P2 i).toNat : Nat) := by omega
    rw [g1, g2]
    refine c_Drf_weave_103 (k_Drf_cut hS hC hX (by omega) (by omega)) hS.2.1 (by decide) (by decide) (by first | decide | omega) (by first | decide | omega) (Nat.le_of_ble_eq_true rfl) (fun z σ5 hq => ?_) (fun _ _ hx => hx.elim)
    obtain ⟨rfl, hc5, hk5, hs5⟩ := hq
    rw [← g1, ← g2] at hc5
    have hS5 := hS.shp hs5
    have hn := hS.1
    have hT5 := hT.keep hk5 (by omega) (by omega)
    have hC5 : DrC σ5 a cl := by
      refine ⟨((hk5.2 a (by omega) (by omega)).2.2.1 _).trans hC.1, hC.2.1, fun j hj => ?_⟩
      by_cases e : j = cl.length
      · exact ⟨_, by rw [e]; exact hc5, fun c' hc' => by
          have := (List.getElem?_eq_some_iff.mp hc').1; omega⟩
      · obtain ⟨c0, g1, g2⟩ := hC.2.2 j hj
        exact ⟨c0, Cf.keep g1 hk5 (fun x h1 h2 h3 => by omega), g2⟩
    have ho5 : fI σ5 202 a = cl.length := ((hk5.2 a (by omega) (by omega)).2.2.1 _).trans ho
    have h35 := h3.keep hk5 (fun q h1 h2 h3 => by omega) (fun q h1 h2 h3 => by omega) (fun q h1 h2 h3 => by omega)
    have hX5 := hX.keep hk5 (fun q h1 h2 h3 => by omega)
    have hb : CnB (((ff : Int), P1 i), ((sf : Int), P2 i), ((bf : Int), (i : Int)), (T.length : Int), 0) F S B := ⟨⟨show (0 : Int) ≤ (ff : Int) by omega, hor.1, show P1 i ≤ (F.length : Int) by omega⟩, ⟨show (0 : Int) ≤ (sf : Int) by omega, hor.2, show P2 i ≤ (S.length : Int) by omega⟩, ⟨show (0 : Int) ≤ (bf : Int) by omega, show (bf : Int) ≤ (i : Int) by omega, show (i : Int) ≤ (B.length : Int) by omega⟩⟩
    have hwl := wpT_len (T := T) hb
    have hwc := wpC_len (F := F) (S := S) (B := B) (cl := cl) (c := (((ff : Int), P1 i), ((sf : Int), P2 i), ((bf : Int), (i : Int)), (T.length : Int), 0))
    have hwl2 : (wpT F S B T (((ff : Int), P1 i), ((sf : Int), P2 i), ((bf : Int), (i : Int)), (T.length : Int), 0)).length ≤ T.length + ((P1 i - ff).toNat + (P2 i - sf).toNat) := hwl
    refine c_Drf_weave_106 (k_Drf_weavePiece hS5 hT5 hC5 ho5 (by omega) h35 hX5 rfl hc5 rfl hb (show (T.length : Int) + (P1 i - (ff : Int)) ≤ 40 by omega) (show (T.length : Int) + (P2 i - (sf : Int)) ≤ 40 by omega) df ds db hqF hqS) hS5.2.1 (by decide) (by decide) (by first | decide | omega) (by first | decide | omega) (Nat.le_of_ble_eq_true rfl) (fun σ6 hq => ?_) (fun _ _ hx => hx.elim)
    obtain ⟨hS6, hT6, hC6, ho6, hX6, hk6⟩ := hq
    generalize hWd : wpT F S B T (((ff : Int), P1 i), ((sf : Int), P2 i), ((bf : Int), (i : Int)), (T.length : Int), 0) = W at hX6 hwl2 hv
    generalize hCd : wpC F S B cl (((ff : Int), P1 i), ((sf : Int), P2 i), ((bf : Int), (i : Int)), (T.length : Int), 0) = cl6 at hC6 ho6 hwc hv
    clear hwl
    have h36 := h35.keep hk6 (fun q h1 h2 h3 => by omega) (fun q h1 h2 h3 => by omega) (fun q h1 h2 h3 => by omega)
    refine b_Drf_weave_109 ⟨hS6.2.1, _, hS6.2.2.1, ?_⟩
    refine c_Drf_weave_117 (k_Txt_size hX6) hX6.2.1 (by decide) (by decide) (by first | decide | omega) (by first | decide | omega) (Nat.le_of_ble_eq_true rfl) (fun z σ7 hq => ?_) (fun _ _ hx => hx.elim)
    obtain ⟨rfl, rfl⟩ := hq
    refine b_Drf_weave_120 ?_
    have hdf : a + 1 + 2 < f ∨ f + 2 < a + 1 := by rcases df with q | q | q <;> first | exact Or.inl (by omega) | exact Or.inr (by omega)
    have hW39 := wl_aux hwl2 hTl hor (r1.resolve_left c1).2 (r2.resolve_left c2).2 lF lS
    have hW40 : (W.length : Int) + (((P1 i).toNat : Int) + 1 - ((P1 i).toNat : Int)) = (W.length : Int) + 1 := wl_aux2 _ _
    refine c_Drf_weave_127 (k_Txt_putRow (p := (W.length : Int)) (f := ((P1 i).toNat : Int)) (t := ((P1 i).toNat : Int) + 1) hX6 h36.1 (by omega) (by omega) (by omega) (by omega) (by rw [hW40]; exact hW39) hdf hqF) hX6.2.1 (by decide) (by decide) (by first | decide | omega) (by first | decide | omega) (Nat.le_of_ble_eq_true rfl) (fun z8 σ8 hq => ?_) (fun _ _ hx => hx.elim)
    obtain ⟨rfl, hX8, hk8⟩ := hq
    refine b_Drf_weave_130 ?_
    rw [show ((W.length : Int)).toNat = W.length from rfl, List.take_length, List.drop_length, List.append_nil, ← g1] at hX8
    have kA : Keep σ3 σ8 (fun q => q ≤ a + 3 ∧ a ≤ q ∨ a + 65 ≤ q ∧ q ≤ a + 127) := (hk5.mono (fun b _ h => by omega)).trans ((hk6.mono (fun b _ h => by omega)).trans (hk8.mono (fun b _ h => by omega)))
    have cpa := cpkeep hW1 hP1 kA (fun q h1 h2 h3 => by omega)
    have cpb := cpkeep hW2 hP2 kA (fun q h1 h2 h3 => by omega)
    have hsl : (slice F (P1 i) (P1 i + 1)).length = 1 := by rw [slice_len (by omega) (by omega) (by omega)]; omega
    have := ih (i + 1) ((P1 i).toNat + 1) ((P2 i).toNat + 1) (i + 1) _ _ σ8 (by omega) hv (by omega) (by omega) (Nat.le_refl _) (by omega) (by rw [List.length_append, hsl]; exact wl_aux3 hwl2 hTl hor) (fun j h1 h2 h4 h5 => ?_) ⟨hS6.keep hk8 (by omega) (fun b h1 h2 h3 => by omega), hT6.keep hk8 (by have := hS6.1; omega) (by omega), hC6.keep hk8 hS6.1 (by omega) (fun b h1 h2 h3 => by omega), ((hk8.2 a (by have := hS6.1; omega) (by omega)).2.2.1 _).trans ho6, hX8, h36.keep hk8 (fun q h1 h2 h3 => by omega) (fun q h1 h2 h3 => by omega) (fun q h1 h2 h3 => by omega), cpa.1, cpa.2, cpb.1, cpb.2, hk.trans (kA.mono (fun b _ h => by omega))⟩
    · exact this
    · have m1 := o1.2 i j (by omega) h2 c1 h4
      have m2 := o2.2 i j (by omega) h2 c2 h5
      exact ⟨by omega, by omega⟩
end DRV
