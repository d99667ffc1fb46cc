/-! BY HAND: a line anew -/
abbrev ovr (S : St) (v : Int) (o : Nat) : Prop := (lUsh (vrW (vrO (sV S) v.toNat)) (o : Int) &&& 1) ≠ 0
/-- whose text a version was made from -/
abbrev isSrc (S : St) (i q : Nat) : Prop := q = (vr1 (vrO (sV S) i)).toNat ∨ (vr2 (vrO (sV S) i) ≠ -1 ∧ (q = (vr2 (vrO (sV S) i)).toNat ∨ q = bsN (sV S) (vr1 (vrO (sV S) i)) (vr2 (vrO (sV S) i))))
section LAN
variable {Ω : Om} {σ : Sto} {lo x : Nat} {S : St} {v p : Int}
theorem K_lineAnew (hDV : DwV Ω σ lo x S) (hCn : Cnt S) (iV : IvV S) (hV0 : vtx (sV S) 0 = []) (hRp : ∀ i, 1 ≤ i → i < (sV S).length → RpV x S i ∧ (vrE (vrO (sV S) i)).length ≤ 520) (hFm : ∀ i, 1 ≤ i → i < (sV S).length → (i = v.toNat ∨ ovr S v i) → ∀ q, isSrc S i q → q < i ∧ (q = 0 ∨ ovr S v q)) (hv : Q32 v) (hp : Q32 p) :
    MC Ω M_Dw_lineAnew rm_Dw_lineAnew (RL fun y σ' => c1 (isV S v ∧ 0 ≤ p ∧ p < (vtx (sV S) v).length) = 0 ∧ y = lnA (vtx (sV S) v) p ∧ DwV Ω σ' lo x S ∧ Keep σ σ' (DwP lo x)) (XO Ω lo x S (c1 (isV S v ∧ 0 ≤ p ∧ p < (vtx (sV S) v).length)) σ) σ [xr (some x), xi v, xi p] := by
  obtain ⟨⟨hlo, hls, hoE⟩, sw, ds, el, hW⟩ := id hDV
  obtain ⟨hH, hF, hVs, hMn, hSp, hCm, hPa, hNo, hRe, hBk, hPr, hTm, hDs⟩ := id hW
  obtain ⟨hc1, hc2, hc3, hc4, hc5, hc6, hc7⟩ := id hCn
  have hx0 := hH.1
  have hs1 := hH.2.2.1
  refine e_Dw_lineAnew (b_Dw_lineAnew_0 ?_)
  refine c_Dw_lineAnew_2 (k_Dw_versionAt hH hF (by omega) hv) hH.2.1 (by decide) (by decide) (by first | decide | omega) (by first | decide | omega) (Nat.le_of_ble_eq_true rfl) (fun y σ1 hq => ?_) (fun E σx hx => Ax.out rfl (XO.of hDV hx (fun hc => c1_f (fun z => hc z.1)) (by decide)) (by decide) (by decide))
  obtain ⟨rfl, hr1, rfl⟩ := hq
  obtain ⟨gs1, gn1, gx1⟩ := hVs.at hr1 hc2
  refine b_Dw_lineAnew_5 ⟨gs1.2.1, _, gs1.2.2.1, ?_⟩
  have lx := gx1.2.2.2.2.2.2.2.2.2.1
  refine c_Dw_lineAnew_12 (k_Txt_size gx1) gx1.2.1 (by decide) (by decide) (by first | decide | omega) (by first | decide | omega) (Nat.le_of_ble_eq_true rfl) (fun z σ1 hq => ?_) (fun _ _ hx => hx.elim)
  obtain ⟨rfl, rfl⟩ := hq
  refine c_Dw_lineAnew_15 (k_Dw_checkPlace hp (by omega)) hH.2.1 (by decide) (by decide) (by first | decide | omega) (by first | decide | omega) (Nat.le_of_ble_eq_true rfl) (fun σ2 hq => ?_) (fun E σx hx => Ax.out rfl (XO.of hDV hx (fun hc => c1_f (fun z => hc z.2)) (by decide)) (by decide) (by decide))
  obtain ⟨rfl, hr2⟩ := hq
  have loop : ∀ (d i : Nat) (σ : Sto) (el : Nat → List Nat), i + d = v.toNat + 1 → 1 ≤ i → DwW Ω σ lo x S sw ds el → Keep σ2 σ (DwP lo x) → (∀ j, j < i → (j = 0 ∨ j = v.toNat ∨ ovr S v j) → Tx σ (x + 374 + 8 * j + 4) (stp (vtx (sV S) (j : Int)))) →
      Aw Ω M_Dw_lineAnew rm_Dw_lineAnew (MF Ω rm_Dw_lineAnew (RL fun y σ' => c1 (isV S v ∧ 0 ≤ p ∧ p < (vtx (sV S) v).length) = 0 ∧ y = lnA (vtx (sV S) v) p ∧ DwV Ω σ' lo x S ∧ Keep σ2 σ' (DwP lo x)) (XO Ω lo x S (c1 (isV S v ∧ 0 ≤ p ∧ p < (vtx (sV S) v).length)) σ2)) 2 16 21 [xr (some x), xi v, xi p, xr (some (x + 374 + 8 * v.toNat)), xi i] [] σ := by
    intro d
    induction d with
    | zero =>
      intro i σ el hd h1 hW k hA
      have hT := hA v.toNat (by omega) (Or.inr (Or.inl rfl))
      obtain ⟨gs, gn, gx⟩ := hW.2.2.1.at hr1 hc2
      refine b_Dw_lineAnew_21 ⟨by omega, by omega, fun c => ⟨gs.2.1, _, gs.2.2.2.1, ?_⟩, fun c => absurd (show v < (i : Int) by omega) c⟩
      refine c_Dw_lineAnew_64 (k_Txt_lineAt hT hp) hT.2.1 (by decide) (by decide) (by first | decide | omega) (by first | decide | omega) (Nat.le_of_ble_eq_true rfl) (fun z σ9 hq => ?_) (fun _ _ hx => hx.elim)
      obtain ⟨rfl, rfl⟩ := hq
      refine r_Dw_lineAnew_67 ⟨_, rfl, c1_t ⟨hr1, hr2⟩, ?_, ⟨⟨hlo, Nat.le_trans hls k.1, hoE⟩, sw, ds, el, hW⟩, k⟩ (by decide) (by decide)
      rw [stp_ln, show ((v.toNat : Nat) : Int) = v by omega]
    | succ d ih =>
      intro i σ el hd h1 hW k hA
      have hH := hW.1
      obtain ⟨k1, z1, r1⟩ := hH.2.2.2.2.2.2.2.2.2.2.2.2.2.1
      have ri := r1 i (by omega)
      have en : ((i : Nat) : Int).toNat = i := Int.toNat_natCast i
      have hin : i < (sV S).length := by omega
      have call : (i = v.toNat ∨ ovr S v i) → Aw Ω M_Dw_lineAnew rm_Dw_lineAnew (MF Ω rm_Dw_lineAnew (RL fun y σ' => c1 (isV S v ∧ 0 ≤ p ∧ p < (vtx (sV S) v).length) = 0 ∧ y = lnA (vtx (sV S) v) p ∧ DwV Ω σ' lo x S ∧ Keep σ2 σ' (DwP lo x)) (XO Ω lo x S (c1 (isV S v ∧ 0 ≤ p ∧ p < (vtx (sV S) v).length)) σ2)) 2 16 50 [xr (some x), xi v, xi p, xr (some (x + 374 + 8 * v.toNat)), xi i] [xr (some (x + 374 + 8 * i)), xr (some x)] σ := fun hiv => by
        obtain ⟨hR, hes⟩ := hRp i h1 hin
        refine c_Dw_lineAnew_50 (K_makeAnew hW hlo hCn iV ⟨h1, hin⟩ hR hes (fun q hq => by obtain ⟨q1, q2⟩ := hFm i h1 hin hiv q hq; exact hA q q1 (by rcases q2 with q2 | q2; exact Or.inl q2; exact Or.inr (Or.inr q2)))) hH.2.1 (by decide) (by decide) (by first | decide | omega) (by first | decide | omega) (Nat.le_of_ble_eq_true rfl) (fun σ3 hq => ?_) (fun _ _ hx => hx.elim)
        obtain ⟨el', hW3, hT3, k3⟩ := hq
        refine b_Dw_lineAnew_53 ?_
        have hh := ih (i + 1) σ3 el' (by omega) (by omega) hW3 (k.trans (k3.mono (fun q _ h => by
          rcases h with (h | h) | h
          · exact Or.inl (by omega)
          · exact Or.inr h.2
          · exact Or.inl (by omega)))) (fun j hj hov => by
            by_cases e : j = i
            · subst e
              have e2 : vtx (sV S) (j : Int) = vrT (vrO (sV S) j) := by unfold vtx; rw [Int.toNat_natCast]
              rw [e2]; exact hT3
            · exact (hA j (by omega) hov).keep k3 (fun q q1 q2 q3 => by
                rcases q3 with (q3 | q3) | q3
                · omega
                · omega
                · omega))
        rw [show (((i + 1 : Nat)) : Int) = (i : Int) + 1 by omega] at hh
        exact hh
      by_cases e : (i : Int) = v
      · refine b_Dw_lineAnew_21 ⟨by omega, by omega, fun c => absurd c (by omega), fun c => ⟨fun c4 => ⟨hH.2.1, _, hH.2.2.2.1, k1, by omega, by omega, ?_⟩, fun c4 => absurd e c4⟩⟩
        rw [en, ri]
        exact call (Or.inl (by omega))
      · refine b_Dw_lineAnew_21 ⟨by omega, by omega, fun c => absurd c (by omega), fun c => ⟨fun c4 => absurd c4 e, fun c4 => ?_⟩⟩
        obtain ⟨gs, gn, gx⟩ := hW.2.2.1.at hr1 hc2
        refine c_Dw_lineAnew_36 (k_Ver_isOver gs gn (by omega)) gs.2.1 (by decide) (by decide) (by first | decide | omega) (by first | decide | omega) (Nat.le_of_ble_eq_true rfl) (fun z σ3 hq => ?_) (fun _ _ hx => hx.elim)
        obtain ⟨rfl, rfl⟩ := hq
        by_cases ho : ovr S v i
        · rw [if_pos ⟨by omega, by omega, ho⟩]
          refine b_Dw_lineAnew_39 ⟨by decide, fun c5 => absurd c5 (by decide), fun _ => ⟨hH.2.1, _, hH.2.2.2.1, k1, by omega, by omega, ?_⟩⟩
          rw [en, ri]
          exact call (Or.inr ho)
        · rw [if_neg (fun z => ho z.2.2)]
          refine b_Dw_lineAnew_39 ⟨by decide, fun _ => ?_, fun c5 => absurd rfl c5⟩
          have hh := ih (i + 1) σ3 el (by omega) (by omega) hW k (fun j hj hov => by
            by_cases e2 : j = i
            · subst e2
              rcases hov with q | q | q
              · omega
              · omega
              · exact absurd q ho
            · exact hA j (by omega) hov)
          rw [show (((i + 1 : Nat)) : Int) = (i : Int) + 1 by omega] at hh
          exact hh
  refine b_Dw_lineAnew_18 ?_
  refine loop v.toNat 1 σ2 el (by omega) (by omega) hW Keep.rf (fun j hj _ => ?_)
  have e0 : j = 0 := by omega
  subst e0
  obtain ⟨⟨N, hV, g1, g2⟩, -⟩ := hVs 0 (by omega)
  have eN : N = [] := by
    cases N with
    | nil => rfl
    | cons y N => exact absurd rfl (g2 y (List.mem_cons_self ..)).2
  rw [eN] at hV
  rw [show (((0 : Nat)) : Int) = 0 from rfl, hV0]
  exact hV.2.2.2.1
end LAN
