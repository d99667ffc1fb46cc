/-! the law's loop, case by case (by program: wip/tools/genlaw3.py) -/
theorem q32X (x : Int32) : Q32 x.toInt := ⟨by have := x.le_toInt; omega, by have := x.toInt_lt; omega⟩
theorem q32c {c : Nat} (h : c ≤ 3) : Q32 (c : Int) := ⟨by omega, by omega⟩
theorem bud1 {K d a T : Nat} (h : K + d ≤ T) (e : a ≤ d) : K + a ≤ T := by omega
theorem bud2 {K d a b T : Nat} (h : K + d ≤ T) (e : a + b ≤ d) : K + a + b ≤ T := by omega
theorem bud3 {K d a b c T : Nat} (h : K + d ≤ T) (e : a + b + c ≤ d) : K + a + b + c ≤ T := by omega
theorem bud2w {K d a b : Nat} (e : a + b ≤ d) : K + a + b ≤ K + d := by omega
theorem bud3w {K d a b c : Nat} (e : a + b + c ≤ d) : K + a + b + c ≤ K + d := by omega
theorem le_c1 {p : Prop} [Decidable p] : c1 p ≤ 3 := by rcases c1_r (p := p) with e | e <;> rw [e] <;> decide
theorem le_c1' {p : Prop} [Decidable p] : c1' p ≤ 3 := by rcases c1'_r (p := p) with e | e <;> rw [e] <;> decide
theorem le_c2 {p q : Prop} [Decidable p] [Decidable q] {a b : Nat} (ha : a ≤ 3) (hb : b ≤ 3) : c2 p q a b ≤ 3 := by rcases c2_r (p := p) (q := q) (a := a) (b := b) with e | e | e <;> rw [e] <;> omega
theorem le_c3 {p q r : Prop} [Decidable p] [Decidable q] [Decidable r] {a b c : Nat} (ha : a ≤ 3) (hb : b ≤ 3) (hc : c ≤ 3) : c3 p q r a b c ≤ 3 := by rcases c3_r (p := p) (q := q) (r := r) (a := a) (b := b) (c := c) with e | e | e | e <;> rw [e] <;> omega
theorem le_cd1 {c : Nat} (h : c ≤ 3) : cd1 c ≤ 3 := by unfold cd1; split <;> omega
theorem le_cd2 {c : Nat} (h : c ≤ 3) : cd2 c ≤ 3 := by unfold cd2; split <;> omega
theorem le_if (p : Prop) [Decidable p] : (if p then 0 else 1) ≤ 3 := by split <;> decide
theorem cd1_0 {c : Nat} (h : cd1 c = 0) : c = 0 := by unfold cd1 at h; split at h <;> omega
theorem cd2_0 {c : Nat} (h : cd2 c = 0) : c = 0 := by unfold cd2 at h; split at h <;> omega
theorem X_conf {Ω : Om} {m : Nat} {μ : Mu} {S : St} (h : MdV S μ) : MMi Ω m M_Mdl_conflicts rm_Mdl_conflicts (OutI S 0 (match sD S with | some r => (opn (drC r) : Int) | none => 0) S) μ [] := by
  cases hc : sD S with
  | none =>
    refine E_conflicts fun σ0 => B_conflicts_0 (B_conflicts_4 ⟨by decide, fun _ => ?_, fun _ => ⟨fun _ => ?_, fun c => absurd (DM.no h hc) c⟩⟩)
    · refine C_conflicts_46 (K_fine) fun y μ1 hq => ?_
      obtain ⟨rfl, rfl⟩ := hq
      exact R_conflicts_49 (OutI.ok mw0 rfl h.w0)
    · refine C_conflicts_46 (K_fine) fun y μ1 hq => ?_
      obtain ⟨rfl, rfl⟩ := hq
      exact R_conflicts_49 (OutI.ok mw0 rfl h.w0)
  | some r =>
    obtain ⟨⟨-, -, -, a4⟩, ⟨b1, b2, -⟩, -⟩ := h.2.2.1.2 r hc
    exact X_conflicts0 ⟨DM.yes h hc, b1, b2, a4⟩ (OutI.ok mw0 rfl h.w0)
section LWC
variable {Ω : Om} {lo x k : Nat} {S : St} {σ : Sto}
theorem Inv.e4 (I : Inv x k S) : ∀ r, sD S = some r → (drE r).length < 640 ∧ (drT r).length ≤ 20 ∧ isV S (dr1 r) ∧ isP (drA r) := fun r hr => ⟨I.len640 hr, (I.dr hr).2.2.2.1.1, (I.dr hr).1.1, (I.dr hr).1.2⟩
theorem Inv.ec (I : Inv x k S) : ∀ r, sD S = some r → (drE r).length < 640 ∧ isP (drA r) := fun r hr => ⟨I.len640 hr, (I.dr hr).1.2⟩
theorem Inv.es (I : Inv x k S) : ∀ r, sD S = some r → (drE r).length < 640 ∧ IvR S r := fun r hr => ⟨I.len640 hr, I.iD r hr⟩
theorem Inv.b12' (I : Inv x k S) : bkN (sB S) < 12000 := by have := I.b12; omega
theorem Inv.b12'' (I : Inv x k S) : bkN (sB S) + 20 ≤ 12000 := by have := I.b12; omega
theorem Inv.hkB (I : Inv x k S) : ∀ hs ∈ sP S, HkB hs := fun hs hh H hH => by
  obtain ⟨⟨a1, a2, a3, a4, a5, a6⟩, -⟩ := (I.2.2.2.2.1 hs hh).2 H hH
  exact ⟨a4, a5, a3, a6, a1, a2⟩
theorem Inv.hnB (I : Inv x k S) : ∀ hs ∈ sP S, ∀ H ∈ hs, HnB H ∧ ∀ l ∈ hnF H, isLn l = true := fun hs hh H hH => ⟨((I.2.2.2.2.1 hs hh).2 H hH).1, ((I.2.2.2.2.1 hs hh).2 H hH).2.1⟩
theorem opn_le (C : List Cnl) : opn C ≤ C.length := List.countP_le_length
theorem Inv.qx_draftLines (I : Inv x k S) : Q32 (dsz S) := by
  unfold dsz
  cases hD : sD S with
  | none => exact ⟨by decide, by decide⟩
  | some r => have := (I.dr hD).2.2.2.1.1; show Q32 ((drT r).length : Int); constructor <;> omega
theorem Inv.qx_versions (I : Inv x k S) : Q32 ((sV S).length : Int) := by have := I.1.1.2.1; constructor <;> omega
theorem Inv.qx_conflicts (I : Inv x k S) : Q32 (match sD S with | some r => (opn (drC r) : Int) | none => 0) := by
  cases hD : sD S with
  | none => exact ⟨by decide, by decide⟩
  | some r =>
    have := (I.dr hD).2.2.2.1.2.2.1.2; have := (I.dr hD).2.2.2.1.2.2.1.1; have := opn_le (drC r)
    show Q32 (opn (drC r) : Int); constructor <;> omega
theorem W_begin {F : QF} {K n : Nat} {v4 : Int} (h : LwI Ω lo x k S σ) (b0 : 0 ≤ v4) (b1 : v4 + 4 < oN Ω) (b2 : oN Ω < 2147483648) (hK : K + 530 ≤ rm_Law_law.cells) (hn : n + 3600 ≤ rm_Law_law.slots) (nx : ∀ σ2 S2, LwI Ω lo x (k + 1) S2 σ2 → Aw Ω M_Law_law rm_Law_law F (K + 530) (n + 3600) 23 [xr (some (oB Ω)), xr (some x), xr (some (x + 754)), xr (some (x + 792)), xi (v4 + 5), xu, xu, xu] [] σ2) : Aw Ω M_Law_law rm_Law_law F K n 200 [xr (some (oB Ω)), xr (some x), xr (some (x + 754)), xr (some (x + 792)), xi v4, xu, xu, xu] [] σ := by
  have I := h.2.2.2
  refine b_Law_law_200 ⟨by omega, by omega, b2, by omega, by omega, b2, c_Law_law_214 (L_begin h (q32X _) (q32X _)) (by decide) (by decide) (bud1 hK (by decide)) (bud1 hn (by decide)) (Nat.le_of_ble_eq_true rfl) (fun y1 s1 hq => ?_) (fun E s1 hx => hx.elim)⟩
  obtain ⟨rfl, a1, a2, hk1, ho1⟩ := hq
  obtain ⟨hM, hV⟩ := h.mr hk1
  refine b_Law_law_217 ⟨by omega, by omega, b2, by omega, by omega, b2, c_Law_law_232 ((X_begin hV I.h20 I.hN (q32X _) (q32X _)) s1 s1 hM) hM.1.2.1 (by decide) (by decide) (bud2 hK (by decide)) (bud2 hn (by decide)) (Nat.le_of_ble_eq_true rfl) (fun y2 s2 hq2 => ?_) (fun E s hx => hx.elim)⟩
  obtain ⟨μ2, hM2, e0, o1, o2⟩ := hq2
  refine b_Law_law_235 (c_Law_law_238 (K_thrown s1 s2 hM2) hM2.1.2.1 (by decide) (by decide) (bud3 hK (by decide)) (bud3 hn (by decide)) (Nat.le_of_ble_eq_true rfl) (fun y3 s3 hq3 => ?_) (fun E s hx => hx.elim))
  obtain ⟨μ3, hM3, rfl, rfl⟩ := hq3
  obtain ⟨f1, f2, S2, f3⟩ := h.fin ho1 hk1 (fun e => (a1 e).2) a2 hM3 (fun e => (o1 e).2) o2 (fun e => I_begin I e)
  have nn := nx _ _ f3
  refine b_Law_law_241 ⟨by rw [e0]; exact q32c (le_c1), by exact q32c (le_c1), fun _ => ⟨fun _ => Aw.wide (bud3w (by decide)) (bud3w (by decide)) nn, fun ec => ?_⟩, fun e => absurd e0 e⟩
  have ec := Int.ofNat_eq_zero.mp ec
  have ea : cmpL (aL s3 (x + 792) 0) (lOf y2) = 0 := by rw [f1, (a1 ec).1, (o1 ec).1]; exact (cmpL_0 _ _).mpr rfl
  exact ⟨f2.1, by decide, by rw [f2.2.1]; decide, cmpL_r _ _, fun _ => Aw.wide (bud3w (by decide)) (bud3w (by decide)) nn, fun e => absurd ea e⟩
theorem W_move {F : QF} {K n : Nat} {v4 : Int} (h : LwI Ω lo x k S σ) (hk : k < 512) (b0 : 0 ≤ v4) (b1 : v4 + 4 < oN Ω) (b2 : oN Ω < 2147483648) (hK : K + 530 ≤ rm_Law_law.cells) (hn : n + 3600 ≤ rm_Law_law.slots) (nx : ∀ σ2 S2, LwI Ω lo x (k + 1) S2 σ2 → Aw Ω M_Law_law rm_Law_law F (K + 530) (n + 3600) 23 [xr (some (oB Ω)), xr (some x), xr (some (x + 754)), xr (some (x + 792)), xi (v4 + 5), xu, xu, xu] [] σ2) : Aw Ω M_Law_law rm_Law_law F K n 524 [xr (some (oB Ω)), xr (some x), xr (some (x + 754)), xr (some (x + 792)), xi v4, xu, xu, xu] [] σ := by
  have I := h.2.2.2
  refine b_Law_law_524 ⟨by omega, by omega, b2, by omega, by omega, b2, c_Law_law_537 (L_move h hk (q32X _) (q32X _)) (by decide) (by decide) (bud1 hK (by decide)) (bud1 hn (by decide)) (Nat.le_of_ble_eq_true rfl) (fun y1 s1 hq => ?_) (fun E s1 hx => hx.elim)⟩
  obtain ⟨rfl, a1, a2, hk1, ho1⟩ := hq
  obtain ⟨hM, hV⟩ := h.mr hk1
  refine b_Law_law_540 ⟨by omega, by omega, b2, by omega, by omega, b2, c_Law_law_555 ((X_move hV I.nmD (fun r hr => I.len640 hr) (q32X _) (q32X _)) s1 s1 hM) hM.1.2.1 (by decide) (by decide) (bud2 hK (by decide)) (bud2 hn (by decide)) (Nat.le_of_ble_eq_true rfl) (fun s2 hq2 => ?_) (fun E s hx => hx.elim)⟩
  obtain ⟨μ2, hM2, e0, o1, o2⟩ := hq2
  refine b_Law_law_558 (c_Law_law_559 (K_thrown s1 s2 hM2) hM2.1.2.1 (by decide) (by decide) (bud3 hK (by decide)) (bud3 hn (by decide)) (Nat.le_of_ble_eq_true rfl) (fun y3 s3 hq3 => ?_) (fun E s hx => hx.elim))
  obtain ⟨μ3, hM3, rfl, rfl⟩ := hq3
  obtain ⟨f1, f2, S2, f3⟩ := h.fin ho1 hk1 (fun e => a1 e) a2 hM3 (fun e => o1 e) o2 (fun e => I_move I hk (cd2_0 e))
  exact b_Law_law_562 ⟨by rw [e0]; exact q32c (le_cd2 (le_c2 (by decide) (by decide))), by exact q32c (le_cd2 (le_c2 (by decide) (by decide))), fun _ => Aw.wide (bud3w (by decide)) (bud3w (by decide)) (nx _ _ f3), fun e => absurd e0 e⟩
theorem W_draftLines {F : QF} {K n : Nat} {v4 : Int} (h : LwI Ω lo x k S σ) (b0 : 0 ≤ v4) (b1 : v4 + 4 < oN Ω) (b2 : oN Ω < 2147483648) (hK : K + 530 ≤ rm_Law_law.cells) (hn : n + 3600 ≤ rm_Law_law.slots) (nx : ∀ σ2 S2, LwI Ω lo x (k + 1) S2 σ2 → Aw Ω M_Law_law rm_Law_law F (K + 530) (n + 3600) 23 [xr (some (oB Ω)), xr (some x), xr (some (x + 754)), xr (some (x + 792)), xi (v4 + 5), xu, xu, xu] [] σ2) : Aw Ω M_Law_law rm_Law_law F K n 660 [xr (some (oB Ω)), xr (some x), xr (some (x + 754)), xr (some (x + 792)), xi v4, xu, xu, xu] [] σ := by
  have I := h.2.2.2
  refine b_Law_law_660 (c_Law_law_661 (K_draftLines h.1.2) h.1.2.k1 (by decide) (by decide) (bud1 hK (by decide)) (bud1 hn (by decide)) (Nat.le_of_ble_eq_true rfl) (fun y1 s1 hq => ?_) (fun E s1 hx => hx.elim))
  obtain ⟨-, rfl, hD1, hk0⟩ := hq
  have hk1 := hk0.mono (Q := HP lo x) (fun _ _ z => Or.inl z)
  obtain ⟨hM, hV⟩ := h.mr hk1
  refine b_Law_law_664 (c_Law_law_665 (X_draftLines hV s1 s1 hM) hM.1.2.1 (by decide) (by decide) (bud2 hK (by decide)) (bud2 hn (by decide)) (Nat.le_of_ble_eq_true rfl) (fun y2 s2 hq2 => ?_) (fun E s hx => hx.elim))
  obtain ⟨μ2, hM2, e0, o1, o2⟩ := hq2
  obtain ⟨f1, f2, S2, f3⟩ := h.fin ((h.2.2.1.keep hk0 (dwp_out h.1.1)).1) hk1 (fun _ => hD1) (fun z => absurd rfl z) hM2 (fun e => (o1 e).2) o2 (fun _ => I.mono (by omega)) (c := 0)
  have ey := (o1 rfl).1; rw [ey]
  exact b_Law_law_668 ⟨I.qx_draftLines, I.qx_draftLines, fun _ => Aw.wide (bud2w (by decide)) (bud2w (by decide)) (nx _ _ f3), fun e => absurd rfl e⟩
theorem W_isAbove {F : QF} {K n : Nat} {v4 : Int} (h : LwI Ω lo x k S σ) (b0 : 0 ≤ v4) (b1 : v4 + 4 < oN Ω) (b2 : oN Ω < 2147483648) (hK : K + 530 ≤ rm_Law_law.cells) (hn : n + 3600 ≤ rm_Law_law.slots) (nx : ∀ σ2 S2, LwI Ω lo x (k + 1) S2 σ2 → Aw Ω M_Law_law rm_Law_law F (K + 530) (n + 3600) 23 [xr (some (oB Ω)), xr (some x), xr (some (x + 754)), xr (some (x + 792)), xi (v4 + 5), xu, xu, xu] [] σ2) : Aw Ω M_Law_law rm_Law_law F K n 1067 [xr (some (oB Ω)), xr (some x), xr (some (x + 754)), xr (some (x + 792)), xi v4, xu, xu, xu] [] σ := by
  have I := h.2.2.2
  refine b_Law_law_1067 ⟨by omega, by omega, b2, by omega, by omega, b2, c_Law_law_1081 (L_isAbove h (q32X _) (q32X _)) (by decide) (by decide) (bud1 hK (by decide)) (bud1 hn (by decide)) (Nat.le_of_ble_eq_true rfl) (fun y1 s1 hq => ?_) (fun E s1 hx => hx.elim)⟩
  obtain ⟨rfl, a1, a2, hk1, ho1⟩ := hq
  obtain ⟨hM, hV⟩ := h.mr hk1
  refine b_Law_law_1084 ⟨by omega, by omega, b2, by omega, by omega, b2, c_Law_law_1099 ((X_isAbove hV I.2.2.1.1 (q32X _) (q32X _)) s1 s1 hM) hM.1.2.1 (by decide) (by decide) (bud2 hK (by decide)) (bud2 hn (by decide)) (Nat.le_of_ble_eq_true rfl) (fun y2 s2 hq2 => ?_) (fun E s hx => hx.elim)⟩
  obtain ⟨μ2, hM2, e0, o1, o2⟩ := hq2
  have o1 : c1 (isV S ((oX Ω (v4 + 1).toNat).toInt) ∧ isV S ((oX Ω (v4 + 2).toNat).toInt)) = 0 → _ ∧ MdV S μ2 := fun e => ⟨o2 e, o1⟩
  have o2 : c1 (isV S ((oX Ω (v4 + 1).toNat).toInt) ∧ isV S ((oX Ω (v4 + 2).toNat).toInt)) ≠ 0 → MdV S μ2 := fun _ => ‹MdV S μ2›
  refine b_Law_law_1102 (c_Law_law_1105 (K_thrown s1 s2 hM2) hM2.1.2.1 (by decide) (by decide) (bud3 hK (by decide)) (bud3 hn (by decide)) (Nat.le_of_ble_eq_true rfl) (fun y3 s3 hq3 => ?_) (fun E s hx => hx.elim))
  obtain ⟨μ3, hM3, rfl, rfl⟩ := hq3
  obtain ⟨f1, f2, S2, f3⟩ := h.fin ho1 hk1 (fun e => (a1 e).2) a2 hM3 (fun e => (o1 e).2) o2 (fun e => I.mono (by omega))
  have nn := nx _ _ f3
  refine b_Law_law_1108 ⟨by rw [e0]; exact q32c (le_c1), by exact q32c (le_c1), fun _ => ⟨fun _ => Aw.wide (bud3w (by decide)) (bud3w (by decide)) nn, fun ec => ?_⟩, fun e => absurd e0 e⟩
  have ec := Int.ofNat_eq_zero.mp ec
  have ey := (o1 ec).1
  refine ⟨f2.1, by decide, by rw [f2.2.1]; decide, by rw [ey]; split <;> decide, fun e => ?_, fun e => ?_⟩
  · have ea : cmpL (aL s3 (x + 792) 0) 0 = 0 := by
      rw [f1, (a1 ec).1]; rw [ey] at e; revert e; split <;> intro e
      · exact absurd e (by decide)
      · decide
    exact ⟨cmpL_r _ _, fun _ => Aw.wide (bud3w (by decide)) (bud3w (by decide)) nn, fun e => absurd ea e⟩
  · have ea : cmpL (aL s3 (x + 792) 0) 1 = 0 := by
      rw [f1, (a1 ec).1]; rw [ey] at e; revert e; split <;> intro e
      · decide
      · exact absurd rfl e
    exact ⟨cmpL_r _ _, fun _ => Aw.wide (bud3w (by decide)) (bud3w (by decide)) nn, fun e => absurd ea e⟩
end LWC
