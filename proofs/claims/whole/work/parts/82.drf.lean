/-! BY HAND: Draft, a piece woven -/
section DRP
variable {Ω : Om} {σ0 : Sto} {a f s b q : Nat} {T F S B : List (Int64 × Int)} {cl : List Cnl} {c : Cnl}
theorem wpT_2 (h : alk F S B c 0 2) : wpT F S B T c = T ++ slice S (cnF c 1) (cnT c 1) := @if_pos _ (Classical.propDecidable _) h _ _ _
theorem wpT_1 (h : ¬ alk F S B c 0 2) (g : alk F S B c 1 2 ∨ alk F S B c 1 0) : wpT F S B T c = T ++ slice F (cnF c 0) (cnT c 0) := (@if_neg _ (Classical.propDecidable _) h _ _ _).trans (@if_pos _ (Classical.propDecidable _) g _ _ _)
theorem wpT_0 (h : ¬ alk F S B c 0 2) (g : ¬ (alk F S B c 1 2 ∨ alk F S B c 1 0)) : wpT F S B T c = T := (@if_neg _ (Classical.propDecidable _) h _ _ _).trans (@if_neg _ (Classical.propDecidable _) g _ _ _)
theorem wpC_1 (h : alk F S B c 0 2 ∨ alk F S B c 1 2 ∨ alk F S B c 1 0) : wpC F S B cl c = cl := @if_pos _ (Classical.propDecidable _) h _ _ _
theorem wpC_0 (h : ¬ (alk F S B c 0 2 ∨ alk F S B c 1 2 ∨ alk F S B c 1 0)) : wpC F S B cl c = cl ++ [c] := @if_neg _ (Classical.propDecidable _) h _ _ _
theorem DrT.keep {σ σ' : Sto} {P : Nat → Prop} (h : DrT σ a f s b) (k : Keep σ σ' P) (hn : a < sN σ) (d : ¬ P a) : DrT σ' a f s b := by
  have e := k.2 a hn d
  exact ⟨(e.2.2.2.2.1 _).trans h.1, (e.2.2.2.2.1 _).trans h.2.1, (e.2.2.2.2.1 _).trans h.2.2⟩
theorem k_Drf_weavePiece {σ : Sto} (hS : DrS σ a) (hT : DrT σ a f s b) (hC : DrC σ a cl) (ho : fI σ 202 a = cl.length) (hn : cl.length ≤ 20) (h3 : Tx3 σ f s b F S B) (hX : Tx σ (a + 1) T) (hq : q = a + 65 + 3 * cl.length) (hc : CfV σ q c) (hp : cnP c = T.length) (hb : CnB c F S B) (hl0 : T.length + (cnT c 0 - cnF c 0) ≤ 40) (hl1 : T.length + (cnT c 1 - cnF c 1) ≤ 40) (df : DO a f) (ds : DO a s) (db : DO a b) (hqF : ∀ x ∈ F, Q32 x.2) (hqS : ∀ x ∈ S, Q32 x.2) :
    MC Ω M_Drf_weavePiece rm_Drf_weavePiece (RV fun σ' => DrS σ' a ∧ DrT σ' a f s b ∧ DrC σ' a (wpC F S B cl c) ∧ fI σ' 202 a = (wpC F S B cl c).length ∧ Tx σ' (a + 1) (wpT F S B T c) ∧ Keep σ σ' (In a (a + 4))) XN σ [xr (some a), xr (some q)] := by
  have hS2 := hS
  obtain ⟨h0, h1, f0, f1, f2, f3, f4, f5, k1, z1, r1, c1, c2⟩ := hS2
  have h9 := hc.2.2.2.2.2.2.2.2.1
  have hq2 := hc.2.1
  refine e_Drf_weavePiece (b_Drf_weavePiece_0 ?_)
  refine c_Drf_weavePiece_4 (k_Drf_isAlike (i := 0) (j := 2) hS hT h3 hc hb (by decide) (by decide)) h1 (by decide) (by decide) (by first | decide | omega) (by first | decide | omega) (Nat.le_of_ble_eq_true rfl) (fun z σ1 hq => ?_) (fun _ _ hx => hx.elim)
  obtain ⟨rfl, hz⟩ := hq
  rcases hz with ⟨rfl, hz⟩ | ⟨rfl, hz⟩
  · refine b_Drf_weavePiece_7 ⟨by decide, fun c => absurd c (by decide), fun _ => ⟨hq2, fun _ => ?_⟩⟩
    rw [h9, hp]
    refine c_Drf_weavePiece_17 (k_Drf_putPiece (i := 1) hS hT h3 hX hc hb (by decide) (Nat.le_refl _) hl1 df ds db hqS) h1 (by decide) (by decide) (by first | decide | omega) (by first | decide | omega) (Nat.le_of_ble_eq_true rfl) (fun z2 σ2 hq => ?_) (fun _ _ hx => hx.elim)
    obtain ⟨rfl, hX2, hk2⟩ := hq
    refine b_Drf_weavePiece_20 (r_Drf_weavePiece_87 ⟨rfl, hS.keep hk2 (by omega) (fun b h1 h2 h3 => by omega), hT.keep hk2 (by omega) (by omega), ?_, ?_, ?_, hk2.mono (fun b _ h => by omega)⟩ (by decide) (by decide))
    · rw [wpC_1 (Or.inl hz)]; exact hC.keep hk2 h0 (by omega) (fun b h1 h2 h3 => by omega)
    · rw [wpC_1 (Or.inl hz), ← ho]; exact (hk2.2 a (by omega) (by omega)).2.2.1 _
    · rw [wpT_2 hz]; rw [List.take_length, List.drop_length, List.append_nil] at hX2; exact hX2
  · refine b_Drf_weavePiece_7 ⟨by decide, fun _ => ?_, fun c => absurd rfl c⟩
    have first : ∀ {k n : Nat}, k ≤ 0 → n ≤ 0 → (alk F S B c 1 2 ∨ alk F S B c 1 0) → Aw Ω M_Drf_weavePiece rm_Drf_weavePiece (MF Ω rm_Drf_weavePiece (RV fun σ' => DrS σ' a ∧ DrT σ' a f s b ∧ DrC σ' a (wpC F S B cl c) ∧ fI σ' 202 a = (wpC F S B cl c).length ∧ Tx σ' (a + 1) (wpT F S B T c) ∧ Keep σ1 σ' (In a (a + 4))) XN) k n 51 [xr (some a), xr (some q)] [xi (T.length : Int), xi 0, xr (some q), xr (some a)] σ1 := fun hk hn hg => by
      refine c_Drf_weavePiece_51 (k_Drf_putPiece (i := 0) hS hT h3 hX hc hb (by decide) (Nat.le_refl _) hl0 df ds db hqF) h1 (by decide) (by decide) (by simp only [rm_Drf_putPiece, rm_Drf_weavePiece]; omega) (by simp only [rm_Drf_putPiece, rm_Drf_weavePiece]; omega) (Nat.le_of_ble_eq_true rfl) (fun z2 σ2 hq => ?_) (fun _ _ hx => hx.elim)
      obtain ⟨rfl, hX2, hk2⟩ := hq
      refine b_Drf_weavePiece_54 (r_Drf_weavePiece_87 ⟨rfl, hS.keep hk2 (by omega) (fun b h1 h2 h3 => by omega), hT.keep hk2 (by omega) (by omega), ?_, ?_, ?_, hk2.mono (fun b _ h => by omega)⟩ (show _ + 0 ≤ 0 by omega) (show _ + 0 ≤ 0 by omega))
      · rw [wpC_1 (Or.inr hg)]; exact hC.keep hk2 h0 (by omega) (fun b h1 h2 h3 => by omega)
      · rw [wpC_1 (Or.inr hg), ← ho]; exact (hk2.2 a (by omega) (by omega)).2.2.1 _
      · rw [wpT_1 hz hg]; rw [List.take_length, List.drop_length, List.append_nil] at hX2; exact hX2
    refine c_Drf_weavePiece_28 (k_Drf_isAlike (i := 1) (j := 2) hS hT h3 hc hb (by decide) (by decide)) h1 (by decide) (by decide) (by first | decide | omega) (by first | decide | omega) (Nat.le_of_ble_eq_true rfl) (fun z2 σ2 hq => ?_) (fun _ _ hx => hx.elim)
    obtain ⟨rfl, hz2⟩ := hq
    rcases hz2 with ⟨rfl, hz2⟩ | ⟨rfl, hz2⟩
    · refine b_Drf_weavePiece_31 ⟨by decide, fun _ => ⟨hq2, fun _ => ?_⟩, fun c => absurd c (by decide)⟩
      rw [h9, hp]
      exact first (by decide) (by decide) (Or.inl hz2)
    · refine b_Drf_weavePiece_31 ⟨by decide, fun c => absurd rfl c, fun _ => ?_⟩
      refine c_Drf_weavePiece_38 (k_Drf_isAlike (i := 1) (j := 0) hS hT h3 hc hb (by decide) (by decide)) h1 (by decide) (by decide) (by first | decide | omega) (by first | decide | omega) (Nat.le_of_ble_eq_true rfl) (fun z3 σ3 hq => ?_) (fun _ _ hx => hx.elim)
      obtain ⟨rfl, hz3⟩ := hq
      rcases hz3 with ⟨rfl, hz3⟩ | ⟨rfl, hz3⟩
      · refine b_Drf_weavePiece_41 ⟨by decide, fun c => absurd c (by decide), fun _ => ⟨hq2, fun _ => ?_⟩⟩
        rw [h9, hp]
        exact first (by decide) (by decide) (Or.inr hz3)
      · have hno : ¬ (alk F S B c 0 2 ∨ alk F S B c 1 2 ∨ alk F S B c 1 0) := fun z => z.elim hz (fun z => z.elim hz2 hz3)
        have e1 : fI (uI σ3 201 a (fI σ3 201 a + 1)) 202 a = cl.length := by rw [fI_uI, if_neg (by omega)]; exact ho
        refine b_Drf_weavePiece_41 ⟨by decide, fun _ => ⟨h1, fun _ => ⟨fun c => absurd c (by rw [hC.1]; omega), fun _ => fun _ => ⟨by rw [hC.1]; omega, fun _ => ⟨by rw [e1]; omega, ?_⟩⟩⟩⟩, fun c => absurd rfl c⟩
        rw [e1, hC.1]
        have kk : Keep σ3 (uI (uI σ3 201 a ((cl.length : Int) + 1)) 202 a ((cl.length : Int) + 1)) (At1 a) := kuI1.trans kuI1
        refine r_Drf_weavePiece_87 ⟨rfl, hS.shp (Shp.uI.trans Shp.uI), hT, ?_, ?_, ?_, kk.mono (fun b _ h => by omega)⟩ (by decide) (by decide)
        · rw [wpC_0 hno]
          refine ⟨?_, ?_, fun i hi => ?_⟩
          · rw [fI_uI, if_neg (by omega), fI_uI, if_pos ⟨rfl, rfl⟩, List.length_append]; simp
          · rw [List.length_append, List.length_cons, List.length_nil]; omega
          · by_cases e : i = cl.length
            · refine ⟨c, ?_, fun c' hc' => ?_⟩
              · rw [e, ← hq]; exact Cf.keep hc kk (fun x h1 h2 h3 => by omega)
              · rcases snoc_get hc' with ⟨h, _⟩ | ⟨_, h⟩
                · omega
                · exact h
            · obtain ⟨c0, g1, g2⟩ := hC.2.2 i hi
              refine ⟨c0, Cf.keep g1 kk (fun x h1 h2 h3 => by omega), fun c' hc' => ?_⟩
              rcases snoc_get hc' with ⟨_, h⟩ | ⟨h, _⟩
              · exact g2 c' h
              · exact absurd h e
        · rw [wpC_0 hno, fI_uI, if_pos ⟨rfl, rfl⟩, List.length_append]; simp
        · rw [wpT_0 hz (fun z => z.elim hz2 hz3)]
          exact hX.keep kk (fun x h1 h2 h3 => by omega)
end DRP
