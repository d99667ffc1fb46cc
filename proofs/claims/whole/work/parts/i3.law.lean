/-! the law's loop, case by case (by program: wip/tools/genlaw3.py) -/
theorem q32X (x : Int32) : Q32 x.toInt := ⟨by have := x.le_toInt; omega, by have := x.toInt_lt; omega⟩
theorem q32c {c : Nat} (h : c ≤ 3) : Q32 (c : Int) := ⟨by omega, by omega⟩
theorem bud1 {K d a T : Nat} (h : K + d ≤ T) (e : a ≤ d) : K + a ≤ T := by omega
theorem bud2 {K d a b T : Nat} (h : K + d ≤ T) (e : a + b ≤ d) : K + a + b ≤ T := by omega
theorem bud3 {K d a b c T : Nat} (h : K + d ≤ T) (e : a + b + c ≤ d) : K + a + b + c ≤ T := by omega
theorem bud2w {K d a b : Nat} (e : a + b ≤ d) : K + a + b ≤ K + d := by omega
theorem bud3w {K d a b c : Nat} (e : a + b + c ≤ d) : K + a + b + c ≤ K + d := by omega
theorem le_c1 {p : Prop} [Decidable p] : c1 p ≤ 3 := by rcases c1_r (p := p) with e | e <;> rw [e] <;> decide
theorem le_c1' {p : Prop} [Decidable p] : c1' p ≤ 3 := by rcases c1'_r (p := p) with e | e <;> rw [e] <;> decide
theorem le_c2 {p q : Prop} [Decidable p] [Decidable q] {a b : Nat} (ha : a ≤ 3) (hb : b ≤ 3) : c2 p q a b ≤ 3 := by rcases c2_r (p := p) (q := q) (a := a) (b := b) with e | e | e <;> rw [e] <;> omega
theorem le_c3 {p q r : Prop} [Decidable p] [Decidable q] [Decidable r] {a b c : Nat} (ha : a ≤ 3) (hb : b ≤ 3) (hc : c ≤ 3) : c3 p q r a b c ≤ 3 := by rcases c3_r (p := p) (q := q) (r := r) (a := a) (b := b) (c := c) with e | e | e | e <;> rw [e] <;> omega
theorem le_cd1 {c : Nat} (h : c ≤ 3) : cd1 c ≤ 3 := by unfold cd1; split <;> omega
theorem le_cd2 {c : Nat} (h : c ≤ 3) : cd2 c ≤ 3 := by unfold cd2; split <;> omega
theorem le_if (p : Prop) [Decidable p] : (if p then 0 else 1) ≤ 3 := by split <;> decide
theorem cd1_0 {c : Nat} (h : cd1 c = 0) : c = 0 := by unfold cd1 at h; split at h <;> omega
theorem cd2_0 {c : Nat} (h : cd2 c = 0) : c = 0 := by unfold cd2 at h; split at h <;> omega
theorem X_conf {Ω : Om} {m : Nat} {μ : Mu} {S : St} (h : MdV S μ) : MMi Ω m M_Mdl_conflicts rm_Mdl_conflicts (OutI S 0 (match sD S with | some r => (opn (drC r) : Int) | none => 0) S) μ [] := by
  cases hc : sD S with
  | none =>
    refine E_conflicts fun σ0 => B_conflicts_0 (B_conflicts_4 ⟨by decide, fun _ => ?_, fun _ => ⟨fun _ => ?_, fun c => absurd (DM.no h hc) c⟩⟩)
    · refine C_conflicts_46 (K_fine) fun y μ1 hq => ?_
      obtain ⟨rfl, rfl⟩ := hq
      exact R_conflicts_49 (OutI.ok mw0 rfl h.w0)
    · refine C_conflicts_46 (K_fine) fun y μ1 hq => ?_
      obtain ⟨rfl, rfl⟩ := hq
      exact R_conflicts_49 (OutI.ok mw0 rfl h.w0)
  | some r =>
    obtain ⟨⟨-, -, -, a4⟩, ⟨b1, b2, -⟩, -⟩ := h.2.2.1.2 r hc
    exact X_conflicts0 ⟨DM.yes h hc, b1, b2, a4⟩ (OutI.ok mw0 rfl h.w0)
section LWC
variable {Ω : Om} {lo x k : Nat} {S : St} {σ : Sto}
theorem Inv.e4 (I : Inv x k S) : ∀ r, sD S = some r → (drE r).length < 640 ∧ (drT r).length ≤ 20 ∧ isV S (dr1 r) ∧ isP (drA r) := fun r hr => ⟨I.len640 hr, (I.dr hr).2.2.2.1.1, (I.dr hr).1.1, (I.dr hr).1.2⟩
theorem Inv.ec (I : Inv x k S) : ∀ r, sD S = some r → (drE r).length < 640 ∧ isP (drA r) := fun r hr => ⟨I.len640 hr, (I.dr hr).1.2⟩
theorem Inv.es (I : Inv x k S) : ∀ r, sD S = some r → (drE r).length < 640 ∧ IvR S r := fun r hr => ⟨I.len640 hr, I.iD r hr⟩
theorem Inv.b12' (I : Inv x k S) : bkN (sB S) < 12000 := by have := I.b12; omega
theorem Inv.b12'' (I : Inv x k S) : bkN (sB S) + 20 ≤ 12000 := by have := I.b12; omega
theorem Inv.hkq (I : Inv x k S) : ∀ hs ∈ sP S, HkB hs := fun hs hh H hH => by
  obtain ⟨⟨a1, a2, a3, a4, a5, a6⟩, -⟩ := (I.2.2.2.2.1 hs hh).2 H hH
  exact ⟨a4, a5, a3, a6, a1, a2⟩
theorem Inv.hnq (I : Inv x k S) : ∀ hs ∈ sP S, ∀ H ∈ hs, HnB H ∧ ∀ l ∈ hnF H, isLn l = true := fun hs hh H hH => ⟨((I.2.2.2.2.1 hs hh).2 H hH).1, ((I.2.2.2.2.1 hs hh).2 H hH).2.1⟩
theorem opn_le (C : List Cnl) : opn C ≤ C.length := List.countP_le_length
theorem Inv.qx_draftLines (I : Inv x k S) : Q32 (dsz S) := by
  unfold dsz
  cases hD : sD S with
  | none => exact ⟨by decide, by decide⟩
  | some r => have := (I.dr hD).2.2.2.1.1; show Q32 ((drT r).length : Int); constructor <;> omega
theorem Inv.qx_versions (I : Inv x k S) : Q32 ((sV S).length : Int) := by have := I.1.1.2.1; constructor <;> omega
theorem Inv.qx_conflicts (I : Inv x k S) : Q32 (match sD S with | some r => (opn (drC r) : Int) | none => 0) := by
  cases hD : sD S with
  | none => exact ⟨by decide, by decide⟩
  | some r =>
    have := (I.dr hD).2.2.2.1.2.2.1.2; have := (I.dr hD).2.2.2.1.2.2.1.1; have := opn_le (drC r)
    show Q32 (opn (drC r) : Int); constructor <;> omega
theorem W_begin {F : QF} {K n : Nat} {v4 : Int} (h : LwI Ω lo x k S σ) (b0 : 0 ≤ v4) (b1 : v4 + 4 < oN Ω) (b2 : oN Ω < 2147483648) (hK : K + 530 ≤ rm_Law_law.cells) (hn : n + 3600 ≤ rm_Law_law.slots) (nx : ∀ σ2 S2, LwI Ω lo x (k + 1) S2 σ2 → Aw Ω M_Law_law rm_Law_law F (K + 530) (n + 3600) 23 [xr (some (oB Ω)), xr (some x), xr (some (x + 754)), xr (some (x + 792)), xi (v4 + 5), xu, xu, xu] [] σ2) : Aw Ω M_Law_law rm_Law_law F K n 200 [xr (some (oB Ω)), xr (some x), xr (some (x + 754)), xr (some (x + 792)), xi v4, xu, xu, xu] [] σ := by
  have I := h.2.2.2
  refine b_Law_law_200 ⟨by omega, by omega, b2, by omega, by omega, b2, c_Law_law_214 (L_begin h (q32X _) (q32X _)) (by decide) (by decide) (bud1 hK (by decide)) (bud1 hn (by decide)) (Nat.le_of_ble_eq_true rfl) (fun y1 s1 hq => ?_) (fun E s1 hx => hx.elim)⟩
  obtain ⟨rfl, a1, a2, hk1, ho1⟩ := hq
  obtain ⟨hM, hV⟩ := h.mr hk1
  refine b_Law_law_217 ⟨by omega, by omega, b2, by omega, by omega, b2, c_Law_law_232 ((X_begin hV I.h20 I.hN (q32X _) (q32X _)) s1 s1 hM) hM.1.2.1 (by decide) (by decide) (bud2 hK (by decide)) (bud2 hn (by decide)) (Nat.le_of_ble_eq_true rfl) (fun y2 s2 hq2 => ?_) (fun E s hx => hx.elim)⟩
  obtain ⟨μ2, hM2, e0, o1, o2⟩ := hq2
  refine b_Law_law_235 (c_Law_law_238 (K_thrown s1 s2 hM2) hM2.1.2.1 (by decide) (by decide) (bud3 hK (by decide)) (bud3 hn (by decide)) (Nat.le_of_ble_eq_true rfl) (fun y3 s3 hq3 => ?_) (fun E s hx => hx.elim))
  obtain ⟨μ3, hM3, rfl, rfl⟩ := hq3
  obtain ⟨f1, f2, S2, f3⟩ := h.fin ho1 hk1 (fun e => (a1 e).2) a2 hM3 (fun e => (o1 e).2) o2 (fun e => I_begin I e)
  have nn := nx _ _ f3
  refine b_Law_law_241 ⟨by rw [e0]; exact q32c (le_c1), by exact q32c (le_c1), fun _ => ⟨fun _ => Aw.wide (bud3w (by decide)) (bud3w (by decide)) nn, fun ec => ?_⟩, fun e => absurd e0 e⟩
  have ec := Int.ofNat_eq_zero.mp ec
  have ea : cmpL (aL s3 (x + 792) 0) (lOf y2) = 0 := by rw [f1, (a1 ec).1, (o1 ec).1]; exact (cmpL_0 _ _).mpr rfl
  exact ⟨f2.1, by decide, by rw [f2.2.1]; decide, cmpL_r _ _, fun _ => Aw.wide (bud3w (by decide)) (bud3w (by decide)) nn, fun e => absurd ea e⟩
theorem W_insert {F : QF} {K n : Nat} {v4 : Int} (h : LwI Ω lo x k S σ) (hk : k < 512) (b0 : 0 ≤ v4) (b1 : v4 + 4 < oN Ω) (b2 : oN Ω < 2147483648) (hK : K + 530 ≤ rm_Law_law.cells) (hn : n + 3600 ≤ rm_Law_law.slots) (nx : ∀ σ2 S2, LwI Ω lo x (k + 1) S2 σ2 → Aw Ω M_Law_law rm_Law_law F (K + 530) (n + 3600) 23 [xr (some (oB Ω)), xr (some x), xr (some (x + 754)), xr (some (x + 792)), xi (v4 + 5), xu, xu, xu] [] σ2) : Aw Ω M_Law_law rm_Law_law F K n 268 [xr (some (oB Ω)), xr (some x), xr (some (x + 754)), xr (some (x + 792)), xi v4, xu, xu, xu] [] σ := by
  have I := h.2.2.2
  refine b_Law_law_268 ⟨by omega, by omega, b2, by omega, by omega, b2, by omega, by omega, b2, c_Law_law_298 (L_insert h hk (q32X _)) (by decide) (by decide) (bud1 hK (by decide)) (bud1 hn (by decide)) (Nat.le_of_ble_eq_true rfl) (fun y1 s1 hq => ?_) (fun E s1 hx => hx.elim)⟩
  obtain ⟨rfl, a1, a2, hk1, ho1⟩ := hq
  obtain ⟨hM, hV⟩ := h.mr hk1
  refine b_Law_law_301 ⟨by omega, by omega, b2, by omega, by omega, b2, by omega, by omega, b2, c_Law_law_332 ((X_insert hV I.h20 I.hN I.nmD I.2.1.2.2.1 I.e4 I.b12' (q32X _)) s1 s1 hM) hM.1.2.1 (by decide) (by decide) (bud2 hK (by decide)) (bud2 hn (by decide)) (Nat.le_of_ble_eq_true rfl) (fun y2 s2 hq2 => ?_) (fun E s hx => hx.elim)⟩
  obtain ⟨μ2, hM2, e0, o1, o2⟩ := hq2
  refine b_Law_law_335 (c_Law_law_338 (K_thrown s1 s2 hM2) hM2.1.2.1 (by decide) (by decide) (bud3 hK (by decide)) (bud3 hn (by decide)) (Nat.le_of_ble_eq_true rfl) (fun y3 s3 hq3 => ?_) (fun E s hx => hx.elim))
  obtain ⟨μ3, hM3, rfl, rfl⟩ := hq3
  obtain ⟨f1, f2, S2, f3⟩ := h.fin ho1 hk1 (fun e => (a1 e).2) a2 hM3 (fun e => (o1 e).2) o2 (fun e => I_insert I hk e)
  have nn := nx _ _ f3
  refine b_Law_law_341 ⟨by rw [e0]; exact q32c (le_c3 (by decide) (by decide) (by decide)), by exact q32c (le_c3 (by decide) (by decide) (by decide)), fun _ => ⟨fun _ => Aw.wide (bud3w (by decide)) (bud3w (by decide)) nn, fun ec => ?_⟩, fun e => absurd e0 e⟩
  have ec := Int.ofNat_eq_zero.mp ec
  have ea : cmpL (aL s3 (x + 792) 0) (lOf y2) = 0 := by rw [f1, (a1 ec).1, (o1 ec).1]; exact (cmpL_0 _ _).mpr rfl
  exact ⟨f2.1, by decide, by rw [f2.2.1]; decide, cmpL_r _ _, fun _ => Aw.wide (bud3w (by decide)) (bud3w (by decide)) nn, fun e => absurd ea e⟩
theorem W_remove {F : QF} {K n : Nat} {v4 : Int} (h : LwI Ω lo x k S σ) (hk : k < 512) (b0 : 0 ≤ v4) (b1 : v4 + 4 < oN Ω) (b2 : oN Ω < 2147483648) (hK : K + 530 ≤ rm_Law_law.cells) (hn : n + 3600 ≤ rm_Law_law.slots) (nx : ∀ σ2 S2, LwI Ω lo x (k + 1) S2 σ2 → Aw Ω M_Law_law rm_Law_law F (K + 530) (n + 3600) 23 [xr (some (oB Ω)), xr (some x), xr (some (x + 754)), xr (some (x + 792)), xi (v4 + 5), xu, xu, xu] [] σ2) : Aw Ω M_Law_law rm_Law_law F K n 368 [xr (some (oB Ω)), xr (some x), xr (some (x + 754)), xr (some (x + 792)), xi v4, xu, xu, xu] [] σ := by
  have I := h.2.2.2
  refine b_Law_law_368 ⟨by omega, by omega, b2, c_Law_law_376 (L_remove h hk (q32X _)) (by decide) (by decide) (bud1 hK (by decide)) (bud1 hn (by decide)) (Nat.le_of_ble_eq_true rfl) (fun y1 s1 hq => ?_) (fun E s1 hx => hx.elim)⟩
  obtain ⟨rfl, a1, a2, hk1, ho1⟩ := hq
  obtain ⟨hM, hV⟩ := h.mr hk1
  refine b_Law_law_379 ⟨by omega, by omega, b2, c_Law_law_388 ((X_remove hV I.nmD (fun r hr => I.len640 hr) (q32X _)) s1 s1 hM) hM.1.2.1 (by decide) (by decide) (bud2 hK (by decide)) (bud2 hn (by decide)) (Nat.le_of_ble_eq_true rfl) (fun y2 s2 hq2 => ?_) (fun E s hx => hx.elim)⟩
  obtain ⟨μ2, hM2, e0, o1, o2⟩ := hq2
  refine b_Law_law_391 (c_Law_law_394 (K_thrown s1 s2 hM2) hM2.1.2.1 (by decide) (by decide) (bud3 hK (by decide)) (bud3 hn (by decide)) (Nat.le_of_ble_eq_true rfl) (fun y3 s3 hq3 => ?_) (fun E s hx => hx.elim))
  obtain ⟨μ3, hM3, rfl, rfl⟩ := hq3
  obtain ⟨f1, f2, S2, f3⟩ := h.fin ho1 hk1 (fun e => (a1 e).2) a2 hM3 (fun e => (o1 e).2) o2 (fun e => I_remove I hk (cd2_0 e))
  have nn := nx _ _ f3
  refine b_Law_law_397 ⟨by rw [e0]; exact q32c (le_cd2 (le_c2 (by decide) (by decide))), by exact q32c (le_cd2 (le_c2 (by decide) (by decide))), fun _ => ⟨fun _ => Aw.wide (bud3w (by decide)) (bud3w (by decide)) nn, fun ec => ?_⟩, fun e => absurd e0 e⟩
  have ec := Int.ofNat_eq_zero.mp ec
  have ea : cmpL (aL s3 (x + 792) 0) (lOf y2) = 0 := by rw [f1, (a1 ec).1, (o1 ec).1]; exact (cmpL_0 _ _).mpr rfl
  exact ⟨f2.1, by decide, by rw [f2.2.1]; decide, cmpL_r _ _, fun _ => Aw.wide (bud3w (by decide)) (bud3w (by decide)) nn, fun e => absurd ea e⟩
theorem W_change {F : QF} {K n : Nat} {v4 : Int} (h : LwI Ω lo x k S σ) (hk : k < 512) (b0 : 0 ≤ v4) (b1 : v4 + 4 < oN Ω) (b2 : oN Ω < 2147483648) (hK : K + 530 ≤ rm_Law_law.cells) (hn : n + 3600 ≤ rm_Law_law.slots) (nx : ∀ σ2 S2, LwI Ω lo x (k + 1) S2 σ2 → Aw Ω M_Law_law rm_Law_law F (K + 530) (n + 3600) 23 [xr (some (oB Ω)), xr (some x), xr (some (x + 754)), xr (some (x + 792)), xi (v4 + 5), xu, xu, xu] [] σ2) : Aw Ω M_Law_law rm_Law_law F K n 424 [xr (some (oB Ω)), xr (some x), xr (some (x + 754)), xr (some (x + 792)), xi v4, xu, xu, xu] [] σ := by
  have I := h.2.2.2
  refine b_Law_law_424 ⟨by omega, by omega, b2, by omega, by omega, b2, by omega, by omega, b2, c_Law_law_454 (L_change h hk (q32X _)) (by decide) (by decide) (bud1 hK (by decide)) (bud1 hn (by decide)) (Nat.le_of_ble_eq_true rfl) (fun y1 s1 hq => ?_) (fun E s1 hx => hx.elim)⟩
  obtain ⟨rfl, a1, a2, hk1, ho1⟩ := hq
  obtain ⟨hM, hV⟩ := h.mr hk1
  refine b_Law_law_457 ⟨by omega, by omega, b2, by omega, by omega, b2, by omega, by omega, b2, c_Law_law_488 ((X_change hV I.nmD I.2.1.2.2.1 I.ec I.b12' (q32X _)) s1 s1 hM) hM.1.2.1 (by decide) (by decide) (bud2 hK (by decide)) (bud2 hn (by decide)) (Nat.le_of_ble_eq_true rfl) (fun y2 s2 hq2 => ?_) (fun E s hx => hx.elim)⟩
  obtain ⟨μ2, hM2, e0, o1, o2⟩ := hq2
  refine b_Law_law_491 (c_Law_law_494 (K_thrown s1 s2 hM2) hM2.1.2.1 (by decide) (by decide) (bud3 hK (by decide)) (bud3 hn (by decide)) (Nat.le_of_ble_eq_true rfl) (fun y3 s3 hq3 => ?_) (fun E s hx => hx.elim))
  obtain ⟨μ3, hM3, rfl, rfl⟩ := hq3
  obtain ⟨f1, f2, S2, f3⟩ := h.fin ho1 hk1 (fun e => (a1 e).2) a2 hM3 (fun e => (o1 e).2) o2 (fun e => I_change I hk e)
  have nn := nx _ _ f3
  refine b_Law_law_497 ⟨by rw [e0]; exact q32c (le_c3 (by decide) (by decide) (by decide)), by exact q32c (le_c3 (by decide) (by decide) (by decide)), fun _ => ⟨fun _ => Aw.wide (bud3w (by decide)) (bud3w (by decide)) nn, fun ec => ?_⟩, fun e => absurd e0 e⟩
  have ec := Int.ofNat_eq_zero.mp ec
  have ea : cmpL (aL s3 (x + 792) 0) (lOf y2) = 0 := by rw [f1, (a1 ec).1, (o1 ec).1]; exact (cmpL_0 _ _).mpr rfl
  exact ⟨f2.1, by decide, by rw [f2.2.1]; decide, cmpL_r _ _, fun _ => Aw.wide (bud3w (by decide)) (bud3w (by decide)) nn, fun e => absurd ea e⟩
theorem W_move {F : QF} {K n : Nat} {v4 : Int} (h : LwI Ω lo x k S σ) (hk : k < 512) (b0 : 0 ≤ v4) (b1 : v4 + 4 < oN Ω) (b2 : oN Ω < 2147483648) (hK : K + 530 ≤ rm_Law_law.cells) (hn : n + 3600 ≤ rm_Law_law.slots) (nx : ∀ σ2 S2, LwI Ω lo x (k + 1) S2 σ2 → Aw Ω M_Law_law rm_Law_law F (K + 530) (n + 3600) 23 [xr (some (oB Ω)), xr (some x), xr (some (x + 754)), xr (some (x + 792)), xi (v4 + 5), xu, xu, xu] [] σ2) : Aw Ω M_Law_law rm_Law_law F K n 524 [xr (some (oB Ω)), xr (some x), xr (some (x + 754)), xr (some (x + 792)), xi v4, xu, xu, xu] [] σ := by
  have I := h.2.2.2
  refine b_Law_law_524 ⟨by omega, by omega, b2, by omega, by omega, b2, c_Law_law_537 (L_move h hk (q32X _) (q32X _)) (by decide) (by decide) (bud1 hK (by decide)) (bud1 hn (by decide)) (Nat.le_of_ble_eq_true rfl) (fun y1 s1 hq => ?_) (fun E s1 hx => hx.elim)⟩
  obtain ⟨rfl, a1, a2, hk1, ho1⟩ := hq
  obtain ⟨hM, hV⟩ := h.mr hk1
  refine b_Law_law_540 ⟨by omega, by omega, b2, by omega, by omega, b2, c_Law_law_555 ((X_move hV I.nmD (fun r hr => I.len640 hr) (q32X _) (q32X _)) s1 s1 hM) hM.1.2.1 (by decide) (by decide) (bud2 hK (by decide)) (bud2 hn (by decide)) (Nat.le_of_ble_eq_true rfl) (fun s2 hq2 => ?_) (fun E s hx => hx.elim)⟩
  obtain ⟨μ2, hM2, e0, o1, o2⟩ := hq2
  refine b_Law_law_558 (c_Law_law_559 (K_thrown s1 s2 hM2) hM2.1.2.1 (by decide) (by decide) (bud3 hK (by decide)) (bud3 hn (by decide)) (Nat.le_of_ble_eq_true rfl) (fun y3 s3 hq3 => ?_) (fun E s hx => hx.elim))
  obtain ⟨μ3, hM3, rfl, rfl⟩ := hq3
  obtain ⟨f1, f2, S2, f3⟩ := h.fin ho1 hk1 (fun e => a1 e) a2 hM3 (fun e => o1 e) o2 (fun e => I_move I hk (cd2_0 e))
  exact b_Law_law_562 ⟨by rw [e0]; exact q32c (le_cd2 (le_c2 (by decide) (by decide))), by exact q32c (le_cd2 (le_c2 (by decide) (by decide))), fun _ => Aw.wide (bud3w (by decide)) (bud3w (by decide)) (nx _ _ f3), fun e => absurd e0 e⟩
theorem W_undo {F : QF} {K n : Nat} {v4 : Int} (h : LwI Ω lo x k S σ) (b0 : 0 ≤ v4) (b1 : v4 + 4 < oN Ω) (b2 : oN Ω < 2147483648) (hK : K + 530 ≤ rm_Law_law.cells) (hn : n + 3600 ≤ rm_Law_law.slots) (nx : ∀ σ2 S2, LwI Ω lo x (k + 1) S2 σ2 → Aw Ω M_Law_law rm_Law_law F (K + 530) (n + 3600) 23 [xr (some (oB Ω)), xr (some x), xr (some (x + 754)), xr (some (x + 792)), xi (v4 + 5), xu, xu, xu] [] σ2) : Aw Ω M_Law_law rm_Law_law F K n 572 [xr (some (oB Ω)), xr (some x), xr (some (x + 754)), xr (some (x + 792)), xi v4, xu, xu, xu] [] σ := by
  have I := h.2.2.2
  refine b_Law_law_572 (c_Law_law_574 (L_undo h ) (by decide) (by decide) (bud1 hK (by decide)) (bud1 hn (by decide)) (Nat.le_of_ble_eq_true rfl) (fun y1 s1 hq => ?_) (fun E s1 hx => hx.elim))
  obtain ⟨rfl, a1, a2, hk1, ho1⟩ := hq
  obtain ⟨hM, hV⟩ := h.mr hk1
  refine b_Law_law_577 (c_Law_law_580 ((X_undo hV (fun r hr => I.len640 hr) I.und) s1 s1 hM) hM.1.2.1 (by decide) (by decide) (bud2 hK (by decide)) (bud2 hn (by decide)) (Nat.le_of_ble_eq_true rfl) (fun y2 s2 hq2 => ?_) (fun E s hx => hx.elim))
  obtain ⟨μ2, hM2, e0, o1, o2⟩ := hq2
  refine b_Law_law_583 (c_Law_law_586 (K_thrown s1 s2 hM2) hM2.1.2.1 (by decide) (by decide) (bud3 hK (by decide)) (bud3 hn (by decide)) (Nat.le_of_ble_eq_true rfl) (fun y3 s3 hq3 => ?_) (fun E s hx => hx.elim))
  obtain ⟨μ3, hM3, rfl, rfl⟩ := hq3
  obtain ⟨f1, f2, S2, f3⟩ := h.fin ho1 hk1 (fun e => (a1 e).2) a2 hM3 (fun e => (o1 e).2) o2 (fun e => I_undo I (cd1_0 e))
  have nn := nx _ _ f3
  refine b_Law_law_589 ⟨by rw [e0]; exact q32c (le_cd1 (le_c1')), by exact q32c (le_cd1 (le_c1')), fun _ => ⟨fun _ => Aw.wide (bud3w (by decide)) (bud3w (by decide)) nn, fun ec => ?_⟩, fun e => absurd e0 e⟩
  have ec := Int.ofNat_eq_zero.mp ec
  have ea : cmpL (aL s3 (x + 792) 0) (lOf y2) = 0 := by rw [f1, (a1 ec).1, (o1 ec).1]; exact (cmpL_0 _ _).mpr rfl
  exact ⟨f2.1, by decide, by rw [f2.2.1]; decide, cmpL_r _ _, fun _ => Aw.wide (bud3w (by decide)) (bud3w (by decide)) nn, fun e => absurd ea e⟩
theorem W_commit {F : QF} {K n : Nat} {v4 : Int} (h : LwI Ω lo x k S σ) (b0 : 0 ≤ v4) (b1 : v4 + 4 < oN Ω) (b2 : oN Ω < 2147483648) (hK : K + 530 ≤ rm_Law_law.cells) (hn : n + 3600 ≤ rm_Law_law.slots) (nx : ∀ σ2 S2, LwI Ω lo x (k + 1) S2 σ2 → Aw Ω M_Law_law rm_Law_law F (K + 530) (n + 3600) 23 [xr (some (oB Ω)), xr (some x), xr (some (x + 754)), xr (some (x + 792)), xi (v4 + 5), xu, xu, xu] [] σ2) : Aw Ω M_Law_law rm_Law_law F K n 616 [xr (some (oB Ω)), xr (some x), xr (some (x + 754)), xr (some (x + 792)), xi v4, xu, xu, xu] [] σ := by
  have I := h.2.2.2
  refine b_Law_law_616 (c_Law_law_618 (L_commit h ) (by decide) (by decide) (bud1 hK (by decide)) (bud1 hn (by decide)) (Nat.le_of_ble_eq_true rfl) (fun y1 s1 hq => ?_) (fun E s1 hx => hx.elim))
  obtain ⟨rfl, a1, a2, hk1, ho1⟩ := hq
  obtain ⟨hM, hV⟩ := h.mr hk1
  refine b_Law_law_621 (c_Law_law_624 ((X_commit hV (fun v => I.h20 (v : Int)) (fun r hr => (I.dr hr).2.2.2.1.1)) s1 s1 hM) hM.1.2.1 (by decide) (by decide) (bud2 hK (by decide)) (bud2 hn (by decide)) (Nat.le_of_ble_eq_true rfl) (fun y2 s2 hq2 => ?_) (fun E s hx => hx.elim))
  obtain ⟨μ2, hM2, e0, o1, o2⟩ := hq2
  refine b_Law_law_627 (c_Law_law_630 (K_thrown s1 s2 hM2) hM2.1.2.1 (by decide) (by decide) (bud3 hK (by decide)) (bud3 hn (by decide)) (Nat.le_of_ble_eq_true rfl) (fun y3 s3 hq3 => ?_) (fun E s hx => hx.elim))
  obtain ⟨μ3, hM3, rfl, rfl⟩ := hq3
  obtain ⟨f1, f2, S2, f3⟩ := h.fin ho1 hk1 (fun e => (a1 e).2) a2 hM3 (fun e => (o1 e).2) o2 (fun e => I_commit I (cd1_0 e))
  have nn := nx _ _ f3
  refine b_Law_law_633 ⟨by rw [e0]; exact q32c (le_cd1 (le_c1')), by exact q32c (le_cd1 (le_c1')), fun _ => ⟨fun _ => Aw.wide (bud3w (by decide)) (bud3w (by decide)) nn, fun ec => ?_⟩, fun e => absurd e0 e⟩
  have ec := Int.ofNat_eq_zero.mp ec
  have ea : cmpL (aL s3 (x + 792) 0) (lOf y2) = 0 := by rw [f1, (a1 ec).1, (o1 ec).1]; exact (cmpL_0 _ _).mpr rfl
  exact ⟨f2.1, by decide, by rw [f2.2.1]; decide, cmpL_r _ _, fun _ => Aw.wide (bud3w (by decide)) (bud3w (by decide)) nn, fun e => absurd ea e⟩
theorem W_draftLines {F : QF} {K n : Nat} {v4 : Int} (h : LwI Ω lo x k S σ) (b0 : 0 ≤ v4) (b1 : v4 + 4 < oN Ω) (b2 : oN Ω < 2147483648) (hK : K + 530 ≤ rm_Law_law.cells) (hn : n + 3600 ≤ rm_Law_law.slots) (nx : ∀ σ2 S2, LwI Ω lo x (k + 1) S2 σ2 → Aw Ω M_Law_law rm_Law_law F (K + 530) (n + 3600) 23 [xr (some (oB Ω)), xr (some x), xr (some (x + 754)), xr (some (x + 792)), xi (v4 + 5), xu, xu, xu] [] σ2) : Aw Ω M_Law_law rm_Law_law F K n 660 [xr (some (oB Ω)), xr (some x), xr (some (x + 754)), xr (some (x + 792)), xi v4, xu, xu, xu] [] σ := by
  have I := h.2.2.2
  refine b_Law_law_660 (c_Law_law_661 (K_draftLines h.1.2) h.1.2.k1 (by decide) (by decide) (bud1 hK (by decide)) (bud1 hn (by decide)) (Nat.le_of_ble_eq_true rfl) (fun y1 s1 hq => ?_) (fun E s1 hx => hx.elim))
  obtain ⟨-, rfl, hD1, hk0⟩ := hq
  have hk1 := hk0.mono (Q := HP lo x) (fun _ _ z => Or.inl z)
  obtain ⟨hM, hV⟩ := h.mr hk1
  refine b_Law_law_664 (c_Law_law_665 (X_draftLines hV s1 s1 hM) hM.1.2.1 (by decide) (by decide) (bud2 hK (by decide)) (bud2 hn (by decide)) (Nat.le_of_ble_eq_true rfl) (fun y2 s2 hq2 => ?_) (fun E s hx => hx.elim))
  obtain ⟨μ2, hM2, e0, o1, o2⟩ := hq2
  obtain ⟨f1, f2, S2, f3⟩ := h.fin ((h.2.2.1.keep hk0 (dwp_out h.1.1)).1) hk1 (fun _ => hD1) (fun z => absurd rfl z) hM2 (fun e => (o1 e).2) o2 (fun _ => I.mono (by omega)) (c := 0)
  have ey := (o1 rfl).1; rw [ey]
  exact b_Law_law_668 ⟨I.qx_draftLines, I.qx_draftLines, fun _ => Aw.wide (bud2w (by decide)) (bud2w (by decide)) (nx _ _ f3), fun e => absurd rfl e⟩
theorem W_draftLine {F : QF} {K n : Nat} {v4 : Int} (h : LwI Ω lo x k S σ) (b0 : 0 ≤ v4) (b1 : v4 + 4 < oN Ω) (b2 : oN Ω < 2147483648) (hK : K + 530 ≤ rm_Law_law.cells) (hn : n + 3600 ≤ rm_Law_law.slots) (nx : ∀ σ2 S2, LwI Ω lo x (k + 1) S2 σ2 → Aw Ω M_Law_law rm_Law_law F (K + 530) (n + 3600) 23 [xr (some (oB Ω)), xr (some x), xr (some (x + 754)), xr (some (x + 792)), xi (v4 + 5), xu, xu, xu] [] σ2) : Aw Ω M_Law_law rm_Law_law F K n 673 [xr (some (oB Ω)), xr (some x), xr (some (x + 754)), xr (some (x + 792)), xi v4, xu, xu, xu] [] σ := by
  have I := h.2.2.2
  refine b_Law_law_673 ⟨by omega, by omega, b2, c_Law_law_681 (L_draftLine h (q32X _)) (by decide) (by decide) (bud1 hK (by decide)) (bud1 hn (by decide)) (Nat.le_of_ble_eq_true rfl) (fun y1 s1 hq => ?_) (fun E s1 hx => hx.elim)⟩
  obtain ⟨rfl, a1, a2, hk1, ho1⟩ := hq
  obtain ⟨hM, hV⟩ := h.mr hk1
  refine b_Law_law_684 ⟨by omega, by omega, b2, c_Law_law_693 ((X_draftLine hV I.nmD (q32X _)) s1 s1 hM) hM.1.2.1 (by decide) (by decide) (bud2 hK (by decide)) (bud2 hn (by decide)) (Nat.le_of_ble_eq_true rfl) (fun y2 s2 hq2 => ?_) (fun E s hx => hx.elim)⟩
  obtain ⟨μ2, hM2, e0, o1, o2⟩ := hq2
  refine b_Law_law_696 (c_Law_law_699 (K_thrown s1 s2 hM2) hM2.1.2.1 (by decide) (by decide) (bud3 hK (by decide)) (bud3 hn (by decide)) (Nat.le_of_ble_eq_true rfl) (fun y3 s3 hq3 => ?_) (fun E s hx => hx.elim))
  obtain ⟨μ3, hM3, rfl, rfl⟩ := hq3
  obtain ⟨f1, f2, S2, f3⟩ := h.fin ho1 hk1 (fun e => (a1 e).2) a2 hM3 (fun e => (o1 e).2) o2 (fun e => I.mono (by omega))
  have nn := nx _ _ f3
  refine b_Law_law_702 ⟨by rw [e0]; exact q32c (le_c1), by exact q32c (le_c1), fun _ => ⟨fun _ => Aw.wide (bud3w (by decide)) (bud3w (by decide)) nn, fun ec => ?_⟩, fun e => absurd e0 e⟩
  have ec := Int.ofNat_eq_zero.mp ec
  have ea : cmpL (aL s3 (x + 792) 0) y2 = 0 := by rw [f1, (a1 ec).1, (o1 ec).1]; exact (cmpL_0 _ _).mpr rfl
  exact ⟨f2.1, by decide, by rw [f2.2.1]; decide, cmpL_r _ _, fun _ => Aw.wide (bud3w (by decide)) (bud3w (by decide)) nn, fun e => absurd ea e⟩
theorem W_versions {F : QF} {K n : Nat} {v4 : Int} (h : LwI Ω lo x k S σ) (b0 : 0 ≤ v4) (b1 : v4 + 4 < oN Ω) (b2 : oN Ω < 2147483648) (hK : K + 530 ≤ rm_Law_law.cells) (hn : n + 3600 ≤ rm_Law_law.slots) (nx : ∀ σ2 S2, LwI Ω lo x (k + 1) S2 σ2 → Aw Ω M_Law_law rm_Law_law F (K + 530) (n + 3600) 23 [xr (some (oB Ω)), xr (some x), xr (some (x + 754)), xr (some (x + 792)), xi (v4 + 5), xu, xu, xu] [] σ2) : Aw Ω M_Law_law rm_Law_law F K n 728 [xr (some (oB Ω)), xr (some x), xr (some (x + 754)), xr (some (x + 792)), xi v4, xu, xu, xu] [] σ := by
  have I := h.2.2.2
  refine b_Law_law_728 (c_Law_law_729 (K_versions h.1.2) h.1.2.k1 (by decide) (by decide) (bud1 hK (by decide)) (bud1 hn (by decide)) (Nat.le_of_ble_eq_true rfl) (fun y1 s1 hq => ?_) (fun E s1 hx => hx.elim))
  obtain ⟨-, rfl, hD1, hk0⟩ := hq
  have hk1 := hk0.mono (Q := HP lo x) (fun _ _ z => Or.inl z)
  obtain ⟨hM, hV⟩ := h.mr hk1
  refine b_Law_law_732 (c_Law_law_733 (X_versions hV s1 s1 hM) hM.1.2.1 (by decide) (by decide) (bud2 hK (by decide)) (bud2 hn (by decide)) (Nat.le_of_ble_eq_true rfl) (fun y2 s2 hq2 => ?_) (fun E s hx => hx.elim))
  obtain ⟨μ2, hM2, e0, o1, o2⟩ := hq2
  obtain ⟨f1, f2, S2, f3⟩ := h.fin ((h.2.2.1.keep hk0 (dwp_out h.1.1)).1) hk1 (fun _ => hD1) (fun z => absurd rfl z) hM2 (fun e => (o1 e).2) o2 (fun _ => I.mono (by omega)) (c := 0)
  have ey := (o1 rfl).1; rw [ey]
  exact b_Law_law_736 ⟨I.qx_versions, I.qx_versions, fun _ => Aw.wide (bud2w (by decide)) (bud2w (by decide)) (nx _ _ f3), fun e => absurd rfl e⟩
theorem W_lines {F : QF} {K n : Nat} {v4 : Int} (h : LwI Ω lo x k S σ) (b0 : 0 ≤ v4) (b1 : v4 + 4 < oN Ω) (b2 : oN Ω < 2147483648) (hK : K + 530 ≤ rm_Law_law.cells) (hn : n + 3600 ≤ rm_Law_law.slots) (nx : ∀ σ2 S2, LwI Ω lo x (k + 1) S2 σ2 → Aw Ω M_Law_law rm_Law_law F (K + 530) (n + 3600) 23 [xr (some (oB Ω)), xr (some x), xr (some (x + 754)), xr (some (x + 792)), xi (v4 + 5), xu, xu, xu] [] σ2) : Aw Ω M_Law_law rm_Law_law F K n 741 [xr (some (oB Ω)), xr (some x), xr (some (x + 754)), xr (some (x + 792)), xi v4, xu, xu, xu] [] σ := by
  have I := h.2.2.2
  refine b_Law_law_741 ⟨by omega, by omega, b2, c_Law_law_749 (L_lines h (q32X _)) (by decide) (by decide) (bud1 hK (by decide)) (bud1 hn (by decide)) (Nat.le_of_ble_eq_true rfl) (fun y1 s1 hq => ?_) (fun E s1 hx => hx.elim)⟩
  obtain ⟨rfl, a1, a2, hk1, ho1⟩ := hq
  obtain ⟨hM, hV⟩ := h.mr hk1
  refine b_Law_law_752 ⟨by omega, by omega, b2, c_Law_law_761 ((X_lines hV (q32X _)) s1 s1 hM) hM.1.2.1 (by decide) (by decide) (bud2 hK (by decide)) (bud2 hn (by decide)) (Nat.le_of_ble_eq_true rfl) (fun y2 s2 hq2 => ?_) (fun E s hx => hx.elim)⟩
  obtain ⟨μ2, hM2, e0, o1, o2⟩ := hq2
  refine b_Law_law_764 (c_Law_law_767 (K_thrown s1 s2 hM2) hM2.1.2.1 (by decide) (by decide) (bud3 hK (by decide)) (bud3 hn (by decide)) (Nat.le_of_ble_eq_true rfl) (fun y3 s3 hq3 => ?_) (fun E s hx => hx.elim))
  obtain ⟨μ3, hM3, rfl, rfl⟩ := hq3
  obtain ⟨f1, f2, S2, f3⟩ := h.fin ho1 hk1 (fun e => (a1 e).2) a2 hM3 (fun e => (o1 e).2) o2 (fun e => I.mono (by omega))
  have nn := nx _ _ f3
  refine b_Law_law_770 ⟨by rw [e0]; exact q32c (le_c1), by exact q32c (le_c1), fun _ => ⟨fun _ => Aw.wide (bud3w (by decide)) (bud3w (by decide)) nn, fun ec => ?_⟩, fun e => absurd e0 e⟩
  have ec := Int.ofNat_eq_zero.mp ec
  have ea : cmpL (aL s3 (x + 792) 0) (lOf y2) = 0 := by rw [f1, (a1 ec).1, (o1 ec).1]; exact (cmpL_0 _ _).mpr rfl
  exact ⟨f2.1, by decide, by rw [f2.2.1]; decide, cmpL_r _ _, fun _ => Aw.wide (bud3w (by decide)) (bud3w (by decide)) nn, fun e => absurd ea e⟩
theorem W_lineOf {F : QF} {K n : Nat} {v4 : Int} (h : LwI Ω lo x k S σ) (b0 : 0 ≤ v4) (b1 : v4 + 4 < oN Ω) (b2 : oN Ω < 2147483648) (hK : K + 530 ≤ rm_Law_law.cells) (hn : n + 3600 ≤ rm_Law_law.slots) (nx : ∀ σ2 S2, LwI Ω lo x (k + 1) S2 σ2 → Aw Ω M_Law_law rm_Law_law F (K + 530) (n + 3600) 23 [xr (some (oB Ω)), xr (some x), xr (some (x + 754)), xr (some (x + 792)), xi (v4 + 5), xu, xu, xu] [] σ2) : Aw Ω M_Law_law rm_Law_law F K n 797 [xr (some (oB Ω)), xr (some x), xr (some (x + 754)), xr (some (x + 792)), xi v4, xu, xu, xu] [] σ := by
  have I := h.2.2.2
  refine b_Law_law_797 ⟨by omega, by omega, b2, by omega, by omega, b2, c_Law_law_811 (L_lineOf h (q32X _) (q32X _)) (by decide) (by decide) (bud1 hK (by decide)) (bud1 hn (by decide)) (Nat.le_of_ble_eq_true rfl) (fun y1 s1 hq => ?_) (fun E s1 hx => hx.elim)⟩
  obtain ⟨rfl, a1, a2, hk1, ho1⟩ := hq
  obtain ⟨hM, hV⟩ := h.mr hk1
  refine b_Law_law_814 ⟨by omega, by omega, b2, by omega, by omega, b2, c_Law_law_829 ((X_lineOf hV I.h20 I.hN (q32X _) (q32X _)) s1 s1 hM) hM.1.2.1 (by decide) (by decide) (bud2 hK (by decide)) (bud2 hn (by decide)) (Nat.le_of_ble_eq_true rfl) (fun y2 s2 hq2 => ?_) (fun E s hx => hx.elim)⟩
  obtain ⟨μ2, hM2, e0, o1, o2⟩ := hq2
  refine b_Law_law_832 (c_Law_law_835 (K_thrown s1 s2 hM2) hM2.1.2.1 (by decide) (by decide) (bud3 hK (by decide)) (bud3 hn (by decide)) (Nat.le_of_ble_eq_true rfl) (fun y3 s3 hq3 => ?_) (fun E s hx => hx.elim))
  obtain ⟨μ3, hM3, rfl, rfl⟩ := hq3
  obtain ⟨f1, f2, S2, f3⟩ := h.fin ho1 hk1 (fun e => (a1 e).2) a2 hM3 (fun e => (o1 e).2) o2 (fun e => I.mono (by omega))
  have nn := nx _ _ f3
  refine b_Law_law_838 ⟨by rw [e0]; exact q32c (le_c1), by exact q32c (le_c1), fun _ => ⟨fun _ => Aw.wide (bud3w (by decide)) (bud3w (by decide)) nn, fun ec => ?_⟩, fun e => absurd e0 e⟩
  have ec := Int.ofNat_eq_zero.mp ec
  have ea : cmpL (aL s3 (x + 792) 0) y2 = 0 := by rw [f1, (a1 ec).1, (o1 ec).1]; exact (cmpL_0 _ _).mpr rfl
  exact ⟨f2.1, by decide, by rw [f2.2.1]; decide, cmpL_r _ _, fun _ => Aw.wide (bud3w (by decide)) (bud3w (by decide)) nn, fun e => absurd ea e⟩
theorem W_lineAnew {F : QF} {K n : Nat} {v4 : Int} (h : LwI Ω lo x k S σ) (b0 : 0 ≤ v4) (b1 : v4 + 4 < oN Ω) (b2 : oN Ω < 2147483648) (hK : K + 530 ≤ rm_Law_law.cells) (hn : n + 3600 ≤ rm_Law_law.slots) (nx : ∀ σ2 S2, LwI Ω lo x (k + 1) S2 σ2 → Aw Ω M_Law_law rm_Law_law F (K + 530) (n + 3600) 23 [xr (some (oB Ω)), xr (some x), xr (some (x + 754)), xr (some (x + 792)), xi (v4 + 5), xu, xu, xu] [] σ2) : Aw Ω M_Law_law rm_Law_law F K n 864 [xr (some (oB Ω)), xr (some x), xr (some (x + 754)), xr (some (x + 792)), xi v4, xu, xu, xu] [] σ := by
  have I := h.2.2.2
  refine b_Law_law_864 ⟨by omega, by omega, b2, by omega, by omega, b2, c_Law_law_878 (L_lineAnew h (q32X _) (q32X _)) (by decide) (by decide) (bud1 hK (by decide)) (bud1 hn (by decide)) (Nat.le_of_ble_eq_true rfl) (fun y1 s1 hq => ?_) (fun E s1 hx => hx.elim)⟩
  obtain ⟨rfl, a1, a2, hk1, ho1⟩ := hq
  obtain ⟨hM, hV⟩ := h.mr hk1
  refine b_Law_law_881 ⟨by omega, by omega, b2, by omega, by omega, b2, c_Law_law_896 ((X_lineAnew hV I.h20 I.hN (q32X _) (q32X _)) s1 s1 hM) hM.1.2.1 (by decide) (by decide) (bud2 hK (by decide)) (bud2 hn (by decide)) (Nat.le_of_ble_eq_true rfl) (fun y2 s2 hq2 => ?_) (fun E s hx => hx.elim)⟩
  obtain ⟨μ2, hM2, e0, o1, o2⟩ := hq2
  refine b_Law_law_899 (c_Law_law_902 (K_thrown s1 s2 hM2) hM2.1.2.1 (by decide) (by decide) (bud3 hK (by decide)) (bud3 hn (by decide)) (Nat.le_of_ble_eq_true rfl) (fun y3 s3 hq3 => ?_) (fun E s hx => hx.elim))
  obtain ⟨μ3, hM3, rfl, rfl⟩ := hq3
  obtain ⟨f1, f2, S2, f3⟩ := h.fin ho1 hk1 (fun e => (a1 e).2) a2 hM3 (fun e => (o1 e).2) o2 (fun e => I.mono (by omega))
  have nn := nx _ _ f3
  refine b_Law_law_905 ⟨by rw [e0]; exact q32c (le_c1), by exact q32c (le_c1), fun _ => ⟨fun _ => Aw.wide (bud3w (by decide)) (bud3w (by decide)) nn, fun ec => ?_⟩, fun e => absurd e0 e⟩
  have ec := Int.ofNat_eq_zero.mp ec
  have ea : cmpL (aL s3 (x + 792) 0) y2 = 0 := by rw [f1, (a1 ec).1, (o1 ec).1]; exact (cmpL_0 _ _).mpr rfl
  exact ⟨f2.1, by decide, by rw [f2.2.1]; decide, cmpL_r _ _, fun _ => Aw.wide (bud3w (by decide)) (bud3w (by decide)) nn, fun e => absurd ea e⟩
theorem W_blame {F : QF} {K n : Nat} {v4 : Int} (h : LwI Ω lo x k S σ) (b0 : 0 ≤ v4) (b1 : v4 + 4 < oN Ω) (b2 : oN Ω < 2147483648) (hK : K + 530 ≤ rm_Law_law.cells) (hn : n + 3600 ≤ rm_Law_law.slots) (nx : ∀ σ2 S2, LwI Ω lo x (k + 1) S2 σ2 → Aw Ω M_Law_law rm_Law_law F (K + 530) (n + 3600) 23 [xr (some (oB Ω)), xr (some x), xr (some (x + 754)), xr (some (x + 792)), xi (v4 + 5), xu, xu, xu] [] σ2) : Aw Ω M_Law_law rm_Law_law F K n 931 [xr (some (oB Ω)), xr (some x), xr (some (x + 754)), xr (some (x + 792)), xi v4, xu, xu, xu] [] σ := by
  have I := h.2.2.2
  refine b_Law_law_931 ⟨by omega, by omega, b2, by omega, by omega, b2, c_Law_law_945 (L_blame h (q32X _) (q32X _)) (by decide) (by decide) (bud1 hK (by decide)) (bud1 hn (by decide)) (Nat.le_of_ble_eq_true rfl) (fun y1 s1 hq => ?_) (fun E s1 hx => hx.elim)⟩
  obtain ⟨rfl, a1, a2, hk1, ho1⟩ := hq
  obtain ⟨hM, hV⟩ := h.mr hk1
  refine b_Law_law_948 ⟨by omega, by omega, b2, by omega, by omega, b2, c_Law_law_963 ((X_blame hV I.h20 I.hN (q32X _) (q32X _)) s1 s1 hM) hM.1.2.1 (by decide) (by decide) (bud2 hK (by decide)) (bud2 hn (by decide)) (Nat.le_of_ble_eq_true rfl) (fun y2 s2 hq2 => ?_) (fun E s hx => hx.elim)⟩
  obtain ⟨μ2, hM2, e0, o1, o2⟩ := hq2
  refine b_Law_law_966 (c_Law_law_969 (K_thrown s1 s2 hM2) hM2.1.2.1 (by decide) (by decide) (bud3 hK (by decide)) (bud3 hn (by decide)) (Nat.le_of_ble_eq_true rfl) (fun y3 s3 hq3 => ?_) (fun E s hx => hx.elim))
  obtain ⟨μ3, hM3, rfl, rfl⟩ := hq3
  obtain ⟨f1, f2, S2, f3⟩ := h.fin ho1 hk1 (fun e => (a1 e).2) a2 hM3 (fun e => (o1 e).2) o2 (fun e => I.mono (by omega))
  have nn := nx _ _ f3
  refine b_Law_law_972 ⟨by rw [e0]; exact q32c (le_c1), by exact q32c (le_c1), fun _ => ⟨fun _ => Aw.wide (bud3w (by decide)) (bud3w (by decide)) nn, fun ec => ?_⟩, fun e => absurd e0 e⟩
  have ec := Int.ofNat_eq_zero.mp ec
  have ea : cmpL (aL s3 (x + 792) 0) (lOf y2) = 0 := by rw [f1, (a1 ec).1, (o1 ec).1]; exact (cmpL_0 _ _).mpr rfl
  exact ⟨f2.1, by decide, by rw [f2.2.1]; decide, cmpL_r _ _, fun _ => Aw.wide (bud3w (by decide)) (bud3w (by decide)) nn, fun e => absurd ea e⟩
theorem W_since {F : QF} {K n : Nat} {v4 : Int} (h : LwI Ω lo x k S σ) (b0 : 0 ≤ v4) (b1 : v4 + 4 < oN Ω) (b2 : oN Ω < 2147483648) (hK : K + 530 ≤ rm_Law_law.cells) (hn : n + 3600 ≤ rm_Law_law.slots) (nx : ∀ σ2 S2, LwI Ω lo x (k + 1) S2 σ2 → Aw Ω M_Law_law rm_Law_law F (K + 530) (n + 3600) 23 [xr (some (oB Ω)), xr (some x), xr (some (x + 754)), xr (some (x + 792)), xi (v4 + 5), xu, xu, xu] [] σ2) : Aw Ω M_Law_law rm_Law_law F K n 999 [xr (some (oB Ω)), xr (some x), xr (some (x + 754)), xr (some (x + 792)), xi v4, xu, xu, xu] [] σ := by
  have I := h.2.2.2
  refine b_Law_law_999 ⟨by omega, by omega, b2, by omega, by omega, b2, c_Law_law_1013 (L_since h (q32X _) (q32X _)) (by decide) (by decide) (bud1 hK (by decide)) (bud1 hn (by decide)) (Nat.le_of_ble_eq_true rfl) (fun y1 s1 hq => ?_) (fun E s1 hx => hx.elim)⟩
  obtain ⟨rfl, a1, a2, hk1, ho1⟩ := hq
  obtain ⟨hM, hV⟩ := h.mr hk1
  refine b_Law_law_1016 ⟨by omega, by omega, b2, by omega, by omega, b2, c_Law_law_1031 ((X_since hV I.h20 (q32X _) (q32X _)) s1 s1 hM) hM.1.2.1 (by decide) (by decide) (bud2 hK (by decide)) (bud2 hn (by decide)) (Nat.le_of_ble_eq_true rfl) (fun y2 s2 hq2 => ?_) (fun E s hx => hx.elim)⟩
  obtain ⟨μ2, hM2, e0, o1, o2⟩ := hq2
  refine b_Law_law_1034 (c_Law_law_1037 (K_thrown s1 s2 hM2) hM2.1.2.1 (by decide) (by decide) (bud3 hK (by decide)) (bud3 hn (by decide)) (Nat.le_of_ble_eq_true rfl) (fun y3 s3 hq3 => ?_) (fun E s hx => hx.elim))
  obtain ⟨μ3, hM3, rfl, rfl⟩ := hq3
  obtain ⟨f1, f2, S2, f3⟩ := h.fin ho1 hk1 (fun e => (a1 e).2) a2 hM3 (fun e => (o1 e).2) o2 (fun e => I.mono (by omega))
  have nn := nx _ _ f3
  refine b_Law_law_1040 ⟨by rw [e0]; exact q32c (le_c1), by exact q32c (le_c1), fun _ => ⟨fun _ => Aw.wide (bud3w (by decide)) (bud3w (by decide)) nn, fun ec => ?_⟩, fun e => absurd e0 e⟩
  have ec := Int.ofNat_eq_zero.mp ec
  have ea : cmpL (aL s3 (x + 792) 0) (lOf y2) = 0 := by rw [f1, (a1 ec).1, (o1 ec).1]; exact (cmpL_0 _ _).mpr rfl
  exact ⟨f2.1, by decide, by rw [f2.2.1]; decide, cmpL_r _ _, fun _ => Aw.wide (bud3w (by decide)) (bud3w (by decide)) nn, fun e => absurd ea e⟩
theorem W_isAbove {F : QF} {K n : Nat} {v4 : Int} (h : LwI Ω lo x k S σ) (b0 : 0 ≤ v4) (b1 : v4 + 4 < oN Ω) (b2 : oN Ω < 2147483648) (hK : K + 530 ≤ rm_Law_law.cells) (hn : n + 3600 ≤ rm_Law_law.slots) (nx : ∀ σ2 S2, LwI Ω lo x (k + 1) S2 σ2 → Aw Ω M_Law_law rm_Law_law F (K + 530) (n + 3600) 23 [xr (some (oB Ω)), xr (some x), xr (some (x + 754)), xr (some (x + 792)), xi (v4 + 5), xu, xu, xu] [] σ2) : Aw Ω M_Law_law rm_Law_law F K n 1067 [xr (some (oB Ω)), xr (some x), xr (some (x + 754)), xr (some (x + 792)), xi v4, xu, xu, xu] [] σ := by
  have I := h.2.2.2
  refine b_Law_law_1067 ⟨by omega, by omega, b2, by omega, by omega, b2, c_Law_law_1081 (L_isAbove h (q32X _) (q32X _)) (by decide) (by decide) (bud1 hK (by decide)) (bud1 hn (by decide)) (Nat.le_of_ble_eq_true rfl) (fun y1 s1 hq => ?_) (fun E s1 hx => hx.elim)⟩
  obtain ⟨rfl, a1, a2, hk1, ho1⟩ := hq
  obtain ⟨hM, hV⟩ := h.mr hk1
  refine b_Law_law_1084 ⟨by omega, by omega, b2, by omega, by omega, b2, c_Law_law_1099 ((X_isAbove hV I.2.2.1.1 (q32X _) (q32X _)) s1 s1 hM) hM.1.2.1 (by decide) (by decide) (bud2 hK (by decide)) (bud2 hn (by decide)) (Nat.le_of_ble_eq_true rfl) (fun y2 s2 hq2 => ?_) (fun E s hx => hx.elim)⟩
  obtain ⟨μ2, hM2, e0, o1, o2⟩ := hq2
  have o1 : c1 (isV S ((oX Ω (v4 + 1).toNat).toInt) ∧ isV S ((oX Ω (v4 + 2).toNat).toInt)) = 0 → _ ∧ MdV S μ2 := fun e => ⟨o2 e, o1⟩
  have o2 : c1 (isV S ((oX Ω (v4 + 1).toNat).toInt) ∧ isV S ((oX Ω (v4 + 2).toNat).toInt)) ≠ 0 → MdV S μ2 := fun _ => ‹MdV S μ2›
  refine b_Law_law_1102 (c_Law_law_1105 (K_thrown s1 s2 hM2) hM2.1.2.1 (by decide) (by decide) (bud3 hK (by decide)) (bud3 hn (by decide)) (Nat.le_of_ble_eq_true rfl) (fun y3 s3 hq3 => ?_) (fun E s hx => hx.elim))
  obtain ⟨μ3, hM3, rfl, rfl⟩ := hq3
  obtain ⟨f1, f2, S2, f3⟩ := h.fin ho1 hk1 (fun e => (a1 e).2) a2 hM3 (fun e => (o1 e).2) o2 (fun e => I.mono (by omega))
  have nn := nx _ _ f3
  refine b_Law_law_1108 ⟨by rw [e0]; exact q32c (le_c1), by exact q32c (le_c1), fun _ => ⟨fun _ => Aw.wide (bud3w (by decide)) (bud3w (by decide)) nn, fun ec => ?_⟩, fun e => absurd e0 e⟩
  have ec := Int.ofNat_eq_zero.mp ec
  have ey := (o1 ec).1
  refine ⟨f2.1, by decide, by rw [f2.2.1]; decide, by rw [ey]; split <;> decide, fun e => ?_, fun e => ?_⟩
  · have ea : cmpL (aL s3 (x + 792) 0) 0 = 0 := by
      rw [f1, (a1 ec).1]; rw [ey] at e; revert e; split <;> intro e
      · exact absurd e (by decide)
      · decide
    exact ⟨cmpL_r _ _, fun _ => Aw.wide (bud3w (by decide)) (bud3w (by decide)) nn, fun e => absurd ea e⟩
  · have ea : cmpL (aL s3 (x + 792) 0) 1 = 0 := by
      rw [f1, (a1 ec).1]; rw [ey] at e; revert e; split <;> intro e
      · decide
      · exact absurd rfl e
    exact ⟨cmpL_r _ _, fun _ => Aw.wide (bud3w (by decide)) (bud3w (by decide)) nn, fun e => absurd ea e⟩
theorem W_compare {F : QF} {K n : Nat} {v4 : Int} (h : LwI Ω lo x k S σ) (b0 : 0 ≤ v4) (b1 : v4 + 4 < oN Ω) (b2 : oN Ω < 2147483648) (hK : K + 530 ≤ rm_Law_law.cells) (hn : n + 3600 ≤ rm_Law_law.slots) (nx : ∀ σ2 S2, LwI Ω lo x (k + 1) S2 σ2 → Aw Ω M_Law_law rm_Law_law F (K + 530) (n + 3600) 23 [xr (some (oB Ω)), xr (some x), xr (some (x + 754)), xr (some (x + 792)), xi (v4 + 5), xu, xu, xu] [] σ2) : Aw Ω M_Law_law rm_Law_law F K n 1142 [xr (some (oB Ω)), xr (some x), xr (some (x + 754)), xr (some (x + 792)), xi v4, xu, xu, xu] [] σ := by
  have I := h.2.2.2
  by_cases hb : (oX Ω (v4 + 3).toNat).toInt = 0
  · refine b_Law_law_1142 ⟨by omega, by omega, b2, by omega, by omega, b2, by omega, by omega, b2, q32X _, fun _ => c_Law_law_1170 (L_compare h (q32X _) (q32X _) (by decide)) (by decide) (by decide) (bud1 hK (by decide)) (bud1 hn (by decide)) (Nat.le_of_ble_eq_true rfl) (fun y1 s1 hq => ?_) (fun E s1 hx => hx.elim), fun e => absurd hb e⟩
    obtain ⟨rfl, a1, a2, hk1, ho1⟩ := hq
    obtain ⟨hM, hV⟩ := h.mr hk1
    refine b_Law_law_1173 ⟨by omega, by omega, b2, by omega, by omega, b2, by omega, by omega, b2, q32X _, fun _ => c_Law_law_1202 ((X_compare hV I.h20 I.hN (q32X _) (q32X _) (by decide)) s1 s1 hM) hM.1.2.1 (by decide) (by decide) (bud2 hK (by decide)) (bud2 hn (by decide)) (Nat.le_of_ble_eq_true rfl) (fun y2 s2 hq2 => ?_) (fun E s hx => hx.elim), fun e => absurd hb e⟩
    obtain ⟨μ2, hM2, e0, o1, o2⟩ := hq2
    refine b_Law_law_1205 (c_Law_law_1208 (K_thrown s1 s2 hM2) hM2.1.2.1 (by decide) (by decide) (bud3 hK (by decide)) (bud3 hn (by decide)) (Nat.le_of_ble_eq_true rfl) (fun y3 s3 hq3 => ?_) (fun E s hx => hx.elim))
    obtain ⟨μ3, hM3, rfl, rfl⟩ := hq3
    obtain ⟨f1, f2, S2, f3⟩ := h.fin ho1 hk1 (fun e => (a1 e).2) a2 hM3 (fun e => (o1 e).2) o2 (fun e => I_compare I)
    have nn := nx _ _ f3
    refine b_Law_law_1211 ⟨by rw [e0]; exact q32c (le_c1), by exact q32c (le_c1), fun _ => ⟨fun _ => Aw.wide (bud3w (by decide)) (bud3w (by decide)) nn, fun ec => ?_⟩, fun e => absurd e0 e⟩
    have ec := Int.ofNat_eq_zero.mp ec
    have ea : cmpL (aL s3 (x + 792) 0) (lOf y2) = 0 := by rw [f1, (a1 ec).1, (o1 ec).1]; exact (cmpL_0 _ _).mpr rfl
    exact ⟨f2.1, by decide, by rw [f2.2.1]; decide, cmpL_r _ _, fun _ => Aw.wide (bud3w (by decide)) (bud3w (by decide)) nn, fun e => absurd ea e⟩
  · refine b_Law_law_1142 ⟨by omega, by omega, b2, by omega, by omega, b2, by omega, by omega, b2, q32X _, fun e => absurd e hb, fun _ => c_Law_law_1170 (L_compare h (q32X _) (q32X _) (by decide)) (by decide) (by decide) (bud1 hK (by decide)) (bud1 hn (by decide)) (Nat.le_of_ble_eq_true rfl) (fun y1 s1 hq => ?_) (fun E s1 hx => hx.elim)⟩
    obtain ⟨rfl, a1, a2, hk1, ho1⟩ := hq
    obtain ⟨hM, hV⟩ := h.mr hk1
    refine b_Law_law_1173 ⟨by omega, by omega, b2, by omega, by omega, b2, by omega, by omega, b2, q32X _, fun e => absurd e hb, fun _ => c_Law_law_1202 ((X_compare hV I.h20 I.hN (q32X _) (q32X _) (by decide)) s1 s1 hM) hM.1.2.1 (by decide) (by decide) (bud2 hK (by decide)) (bud2 hn (by decide)) (Nat.le_of_ble_eq_true rfl) (fun y2 s2 hq2 => ?_) (fun E s hx => hx.elim)⟩
    obtain ⟨μ2, hM2, e0, o1, o2⟩ := hq2
    refine b_Law_law_1205 (c_Law_law_1208 (K_thrown s1 s2 hM2) hM2.1.2.1 (by decide) (by decide) (bud3 hK (by decide)) (bud3 hn (by decide)) (Nat.le_of_ble_eq_true rfl) (fun y3 s3 hq3 => ?_) (fun E s hx => hx.elim))
    obtain ⟨μ3, hM3, rfl, rfl⟩ := hq3
    obtain ⟨f1, f2, S2, f3⟩ := h.fin ho1 hk1 (fun e => (a1 e).2) a2 hM3 (fun e => (o1 e).2) o2 (fun e => I_compare I)
    have nn := nx _ _ f3
    refine b_Law_law_1211 ⟨by rw [e0]; exact q32c (le_c1), by exact q32c (le_c1), fun _ => ⟨fun _ => Aw.wide (bud3w (by decide)) (bud3w (by decide)) nn, fun ec => ?_⟩, fun e => absurd e0 e⟩
    have ec := Int.ofNat_eq_zero.mp ec
    have ea : cmpL (aL s3 (x + 792) 0) (lOf y2) = 0 := by rw [f1, (a1 ec).1, (o1 ec).1]; exact (cmpL_0 _ _).mpr rfl
    exact ⟨f2.1, by decide, by rw [f2.2.1]; decide, cmpL_r _ _, fun _ => Aw.wide (bud3w (by decide)) (bud3w (by decide)) nn, fun e => absurd ea e⟩
theorem W_pairOf {F : QF} {K n : Nat} {v4 : Int} (h : LwI Ω lo x k S σ) (b0 : 0 ≤ v4) (b1 : v4 + 4 < oN Ω) (b2 : oN Ω < 2147483648) (hK : K + 530 ≤ rm_Law_law.cells) (hn : n + 3600 ≤ rm_Law_law.slots) (nx : ∀ σ2 S2, LwI Ω lo x (k + 1) S2 σ2 → Aw Ω M_Law_law rm_Law_law F (K + 530) (n + 3600) 23 [xr (some (oB Ω)), xr (some x), xr (some (x + 754)), xr (some (x + 792)), xi (v4 + 5), xu, xu, xu] [] σ2) : Aw Ω M_Law_law rm_Law_law F K n 1238 [xr (some (oB Ω)), xr (some x), xr (some (x + 754)), xr (some (x + 792)), xi v4, xu, xu, xu] [] σ := by
  have I := h.2.2.2
  refine b_Law_law_1238 ⟨by omega, by omega, b2, c_Law_law_1246 (L_pairOf h (q32X _)) (by decide) (by decide) (bud1 hK (by decide)) (bud1 hn (by decide)) (Nat.le_of_ble_eq_true rfl) (fun y1 s1 hq => ?_) (fun E s1 hx => hx.elim)⟩
  obtain ⟨rfl, a1, a2, hk1, ho1⟩ := hq
  obtain ⟨hM, hV⟩ := h.mr hk1
  refine b_Law_law_1249 ⟨by omega, by omega, b2, c_Law_law_1258 ((X_pairOf hV (q32X _)) s1 s1 hM) hM.1.2.1 (by decide) (by decide) (bud2 hK (by decide)) (bud2 hn (by decide)) (Nat.le_of_ble_eq_true rfl) (fun y2 s2 hq2 => ?_) (fun E s hx => hx.elim)⟩
  obtain ⟨μ2, hM2, e0, o1, o2⟩ := hq2
  refine b_Law_law_1261 (c_Law_law_1264 (K_thrown s1 s2 hM2) hM2.1.2.1 (by decide) (by decide) (bud3 hK (by decide)) (bud3 hn (by decide)) (Nat.le_of_ble_eq_true rfl) (fun y3 s3 hq3 => ?_) (fun E s hx => hx.elim))
  obtain ⟨μ3, hM3, rfl, rfl⟩ := hq3
  obtain ⟨f1, f2, S2, f3⟩ := h.fin ho1 hk1 (fun e => (a1 e).2) a2 hM3 (fun e => (o1 e).2) o2 (fun e => I.mono (by omega))
  have nn := nx _ _ f3
  refine b_Law_law_1267 ⟨by rw [e0]; exact q32c (le_c1), by exact q32c (le_c1), fun _ => ⟨fun _ => Aw.wide (bud3w (by decide)) (bud3w (by decide)) nn, fun ec => ?_⟩, fun e => absurd e0 e⟩
  have ec := Int.ofNat_eq_zero.mp ec
  have ea : cmpL (aL s3 (x + 792) 0) (lOf y2) = 0 := by rw [f1, (a1 ec).1, (o1 ec).1]; exact (cmpL_0 _ _).mpr rfl
  exact ⟨f2.1, by decide, by rw [f2.2.1]; decide, cmpL_r _ _, fun _ => Aw.wide (bud3w (by decide)) (bud3w (by decide)) nn, fun e => absurd ea e⟩
theorem W_movedTo {F : QF} {K n : Nat} {v4 : Int} (h : LwI Ω lo x k S σ) (b0 : 0 ≤ v4) (b1 : v4 + 4 < oN Ω) (b2 : oN Ω < 2147483648) (hK : K + 530 ≤ rm_Law_law.cells) (hn : n + 3600 ≤ rm_Law_law.slots) (nx : ∀ σ2 S2, LwI Ω lo x (k + 1) S2 σ2 → Aw Ω M_Law_law rm_Law_law F (K + 530) (n + 3600) 23 [xr (some (oB Ω)), xr (some x), xr (some (x + 754)), xr (some (x + 792)), xi (v4 + 5), xu, xu, xu] [] σ2) : Aw Ω M_Law_law rm_Law_law F K n 1294 [xr (some (oB Ω)), xr (some x), xr (some (x + 754)), xr (some (x + 792)), xi v4, xu, xu, xu] [] σ := by
  have I := h.2.2.2
  refine b_Law_law_1294 ⟨by omega, by omega, b2, c_Law_law_1302 (L_movedTo h (q32X _)) (by decide) (by decide) (bud1 hK (by decide)) (bud1 hn (by decide)) (Nat.le_of_ble_eq_true rfl) (fun y1 s1 hq => ?_) (fun E s1 hx => hx.elim)⟩
  obtain ⟨rfl, a1, a2, hk1, ho1⟩ := hq
  obtain ⟨hM, hV⟩ := h.mr hk1
  refine b_Law_law_1305 ⟨by omega, by omega, b2, c_Law_law_1314 ((X_movedTo hV (q32X _)) s1 s1 hM) hM.1.2.1 (by decide) (by decide) (bud2 hK (by decide)) (bud2 hn (by decide)) (Nat.le_of_ble_eq_true rfl) (fun y2 s2 hq2 => ?_) (fun E s hx => hx.elim)⟩
  obtain ⟨μ2, hM2, e0, o1, o2⟩ := hq2
  refine b_Law_law_1317 (c_Law_law_1320 (K_thrown s1 s2 hM2) hM2.1.2.1 (by decide) (by decide) (bud3 hK (by decide)) (bud3 hn (by decide)) (Nat.le_of_ble_eq_true rfl) (fun y3 s3 hq3 => ?_) (fun E s hx => hx.elim))
  obtain ⟨μ3, hM3, rfl, rfl⟩ := hq3
  obtain ⟨f1, f2, S2, f3⟩ := h.fin ho1 hk1 (fun e => (a1 e).2) a2 hM3 (fun e => (o1 e).2) o2 (fun e => I.mono (by omega))
  have nn := nx _ _ f3
  refine b_Law_law_1323 ⟨by rw [e0]; exact q32c (le_c1), by exact q32c (le_c1), fun _ => ⟨fun _ => Aw.wide (bud3w (by decide)) (bud3w (by decide)) nn, fun ec => ?_⟩, fun e => absurd e0 e⟩
  have ec := Int.ofNat_eq_zero.mp ec
  have ea : cmpL (aL s3 (x + 792) 0) (lOf y2) = 0 := by rw [f1, (a1 ec).1, (o1 ec).1]; exact (cmpL_0 _ _).mpr rfl
  exact ⟨f2.1, by decide, by rw [f2.2.1]; decide, cmpL_r _ _, fun _ => Aw.wide (bud3w (by decide)) (bud3w (by decide)) nn, fun e => absurd ea e⟩
theorem W_likeness {F : QF} {K n : Nat} {v4 : Int} (h : LwI Ω lo x k S σ) (b0 : 0 ≤ v4) (b1 : v4 + 4 < oN Ω) (b2 : oN Ω < 2147483648) (hK : K + 530 ≤ rm_Law_law.cells) (hn : n + 3600 ≤ rm_Law_law.slots) (nx : ∀ σ2 S2, LwI Ω lo x (k + 1) S2 σ2 → Aw Ω M_Law_law rm_Law_law F (K + 530) (n + 3600) 23 [xr (some (oB Ω)), xr (some x), xr (some (x + 754)), xr (some (x + 792)), xi (v4 + 5), xu, xu, xu] [] σ2) : Aw Ω M_Law_law rm_Law_law F K n 1350 [xr (some (oB Ω)), xr (some x), xr (some (x + 754)), xr (some (x + 792)), xi v4, xu, xu, xu] [] σ := by
  have I := h.2.2.2
  refine b_Law_law_1350 ⟨by omega, by omega, b2, by omega, by omega, b2, by omega, by omega, b2, by omega, by omega, b2, c_Law_law_1396 (L_likeness h ) (by decide) (by decide) (bud1 hK (by decide)) (bud1 hn (by decide)) (Nat.le_of_ble_eq_true rfl) (fun y1 s1 hq => ?_) (fun E s1 hx => hx.elim)⟩
  obtain ⟨rfl, a1, a2, hk1, ho1⟩ := hq
  obtain ⟨hM, hV⟩ := h.mr hk1
  refine b_Law_law_1399 ⟨by omega, by omega, b2, by omega, by omega, b2, by omega, by omega, b2, by omega, by omega, b2, c_Law_law_1446 ((X_likeness hV ) s1 s1 hM) hM.1.2.1 (by decide) (by decide) (bud2 hK (by decide)) (bud2 hn (by decide)) (Nat.le_of_ble_eq_true rfl) (fun y2 s2 hq2 => ?_) (fun E s hx => hx.elim)⟩
  obtain ⟨μ2, hM2, e0, o1, o2⟩ := hq2
  refine b_Law_law_1449 (c_Law_law_1452 (K_thrown s1 s2 hM2) hM2.1.2.1 (by decide) (by decide) (bud3 hK (by decide)) (bud3 hn (by decide)) (Nat.le_of_ble_eq_true rfl) (fun y3 s3 hq3 => ?_) (fun E s hx => hx.elim))
  obtain ⟨μ3, hM3, rfl, rfl⟩ := hq3
  obtain ⟨f1, f2, S2, f3⟩ := h.fin ho1 hk1 (fun e => (a1 e).2) a2 hM3 (fun e => (o1 e).2) o2 (fun e => I.mono (by omega))
  have nn := nx _ _ f3
  refine b_Law_law_1455 ⟨by rw [e0]; exact q32c ((le_if _)), by exact q32c ((le_if _)), fun _ => ⟨fun _ => Aw.wide (bud3w (by decide)) (bud3w (by decide)) nn, fun ec => ?_⟩, fun e => absurd e0 e⟩
  have ec := Int.ofNat_eq_zero.mp ec
  have ea : cmpL (aL s3 (x + 792) 0) (lOf y2) = 0 := by rw [f1, (a1 ec).1, (o1 ec).1]; exact (cmpL_0 _ _).mpr rfl
  exact ⟨f2.1, by decide, by rw [f2.2.1]; decide, cmpL_r _ _, fun _ => Aw.wide (bud3w (by decide)) (bud3w (by decide)) nn, fun e => absurd ea e⟩
theorem W_treeCost {F : QF} {K n : Nat} {v4 : Int} (h : LwI Ω lo x k S σ) (b0 : 0 ≤ v4) (b1 : v4 + 4 < oN Ω) (b2 : oN Ω < 2147483648) (hK : K + 530 ≤ rm_Law_law.cells) (hn : n + 3600 ≤ rm_Law_law.slots) (nx : ∀ σ2 S2, LwI Ω lo x (k + 1) S2 σ2 → Aw Ω M_Law_law rm_Law_law F (K + 530) (n + 3600) 23 [xr (some (oB Ω)), xr (some x), xr (some (x + 754)), xr (some (x + 792)), xi (v4 + 5), xu, xu, xu] [] σ2) : Aw Ω M_Law_law rm_Law_law F K n 1482 [xr (some (oB Ω)), xr (some x), xr (some (x + 754)), xr (some (x + 792)), xi v4, xu, xu, xu] [] σ := by
  have I := h.2.2.2
  refine b_Law_law_1482 ⟨by omega, by omega, b2, by omega, by omega, b2, c_Law_law_1496 (L_treeCost h (q32X _) (q32X _)) (by decide) (by decide) (bud1 hK (by decide)) (bud1 hn (by decide)) (Nat.le_of_ble_eq_true rfl) (fun y1 s1 hq => ?_) (fun E s1 hx => hx.elim)⟩
  obtain ⟨rfl, a1, a2, hk1, ho1⟩ := hq
  obtain ⟨hM, hV⟩ := h.mr hk1
  refine b_Law_law_1499 ⟨by omega, by omega, b2, by omega, by omega, b2, c_Law_law_1514 ((X_treeCost hV I.h20 I.hN (q32X _) (q32X _)) s1 s1 hM) hM.1.2.1 (by decide) (by decide) (bud2 hK (by decide)) (bud2 hn (by decide)) (Nat.le_of_ble_eq_true rfl) (fun y2 s2 hq2 => ?_) (fun E s hx => hx.elim)⟩
  obtain ⟨μ2, hM2, e0, o1, o2⟩ := hq2
  refine b_Law_law_1517 (c_Law_law_1520 (K_thrown s1 s2 hM2) hM2.1.2.1 (by decide) (by decide) (bud3 hK (by decide)) (bud3 hn (by decide)) (Nat.le_of_ble_eq_true rfl) (fun y3 s3 hq3 => ?_) (fun E s hx => hx.elim))
  obtain ⟨μ3, hM3, rfl, rfl⟩ := hq3
  obtain ⟨f1, f2, S2, f3⟩ := h.fin ho1 hk1 (fun e => (a1 e).2) a2 hM3 (fun e => (o1 e).2) o2 (fun e => I.mono (by omega))
  have nn := nx _ _ f3
  refine b_Law_law_1523 ⟨by rw [e0]; exact q32c (le_c1), by exact q32c (le_c1), fun _ => ⟨fun _ => Aw.wide (bud3w (by decide)) (bud3w (by decide)) nn, fun ec => ?_⟩, fun e => absurd e0 e⟩
  have ec := Int.ofNat_eq_zero.mp ec
  have ea : cmpL (aL s3 (x + 792) 0) (lOf y2) = 0 := by rw [f1, (a1 ec).1, (o1 ec).1]; exact (cmpL_0 _ _).mpr rfl
  exact ⟨f2.1, by decide, by rw [f2.2.1]; decide, cmpL_r _ _, fun _ => Aw.wide (bud3w (by decide)) (bud3w (by decide)) nn, fun e => absurd ea e⟩
theorem W_base {F : QF} {K n : Nat} {v4 : Int} (h : LwI Ω lo x k S σ) (b0 : 0 ≤ v4) (b1 : v4 + 4 < oN Ω) (b2 : oN Ω < 2147483648) (hK : K + 530 ≤ rm_Law_law.cells) (hn : n + 3600 ≤ rm_Law_law.slots) (nx : ∀ σ2 S2, LwI Ω lo x (k + 1) S2 σ2 → Aw Ω M_Law_law rm_Law_law F (K + 530) (n + 3600) 23 [xr (some (oB Ω)), xr (some x), xr (some (x + 754)), xr (some (x + 792)), xi (v4 + 5), xu, xu, xu] [] σ2) : Aw Ω M_Law_law rm_Law_law F K n 1550 [xr (some (oB Ω)), xr (some x), xr (some (x + 754)), xr (some (x + 792)), xi v4, xu, xu, xu] [] σ := by
  have I := h.2.2.2
  refine b_Law_law_1550 ⟨by omega, by omega, b2, by omega, by omega, b2, c_Law_law_1564 (L_base h (q32X _) (q32X _)) (by decide) (by decide) (bud1 hK (by decide)) (bud1 hn (by decide)) (Nat.le_of_ble_eq_true rfl) (fun y1 s1 hq => ?_) (fun E s1 hx => hx.elim)⟩
  obtain ⟨rfl, a1, a2, hk1, ho1⟩ := hq
  obtain ⟨hM, hV⟩ := h.mr hk1
  refine b_Law_law_1567 ⟨by omega, by omega, b2, by omega, by omega, b2, c_Law_law_1582 ((X_base hV I.2.2.1.1 (q32X _) (q32X _)) s1 s1 hM) hM.1.2.1 (by decide) (by decide) (bud2 hK (by decide)) (bud2 hn (by decide)) (Nat.le_of_ble_eq_true rfl) (fun y2 s2 hq2 => ?_) (fun E s hx => hx.elim)⟩
  obtain ⟨μ2, hM2, e0, o1, o2⟩ := hq2
  refine b_Law_law_1585 (c_Law_law_1588 (K_thrown s1 s2 hM2) hM2.1.2.1 (by decide) (by decide) (bud3 hK (by decide)) (bud3 hn (by decide)) (Nat.le_of_ble_eq_true rfl) (fun y3 s3 hq3 => ?_) (fun E s hx => hx.elim))
  obtain ⟨μ3, hM3, rfl, rfl⟩ := hq3
  obtain ⟨f1, f2, S2, f3⟩ := h.fin ho1 hk1 (fun e => (a1 e).2) a2 hM3 (fun e => (o1 e).2) o2 (fun e => I.mono (by omega))
  have nn := nx _ _ f3
  refine b_Law_law_1591 ⟨by rw [e0]; exact q32c (le_c1), by exact q32c (le_c1), fun _ => ⟨fun _ => Aw.wide (bud3w (by decide)) (bud3w (by decide)) nn, fun ec => ?_⟩, fun e => absurd e0 e⟩
  have ec := Int.ofNat_eq_zero.mp ec
  have ea : cmpL (aL s3 (x + 792) 0) (lOf y2) = 0 := by rw [f1, (a1 ec).1, (o1 ec).1]; exact (cmpL_0 _ _).mpr rfl
  exact ⟨f2.1, by decide, by rw [f2.2.1]; decide, cmpL_r _ _, fun _ => Aw.wide (bud3w (by decide)) (bud3w (by decide)) nn, fun e => absurd ea e⟩
theorem W_merge {F : QF} {K n : Nat} {v4 : Int} (h : LwI Ω lo x k S σ) (b0 : 0 ≤ v4) (b1 : v4 + 4 < oN Ω) (b2 : oN Ω < 2147483648) (hK : K + 530 ≤ rm_Law_law.cells) (hn : n + 3600 ≤ rm_Law_law.slots) (nx : ∀ σ2 S2, LwI Ω lo x (k + 1) S2 σ2 → Aw Ω M_Law_law rm_Law_law F (K + 530) (n + 3600) 23 [xr (some (oB Ω)), xr (some x), xr (some (x + 754)), xr (some (x + 792)), xi (v4 + 5), xu, xu, xu] [] σ2) : Aw Ω M_Law_law rm_Law_law F K n 1618 [xr (some (oB Ω)), xr (some x), xr (some (x + 754)), xr (some (x + 792)), xi v4, xu, xu, xu] [] σ := by
  have I := h.2.2.2
  refine b_Law_law_1618 ⟨by omega, by omega, b2, by omega, by omega, b2, by omega, by omega, b2, c_Law_law_1638 (L_merge h (q32X _) (q32X _) (q32X _)) (by decide) (by decide) (bud1 hK (by decide)) (bud1 hn (by decide)) (Nat.le_of_ble_eq_true rfl) (fun y1 s1 hq => ?_) (fun E s1 hx => hx.elim)⟩
  obtain ⟨rfl, a1, a2, hk1, ho1⟩ := hq
  obtain ⟨hM, hV⟩ := h.mr hk1
  refine b_Law_law_1641 ⟨by omega, by omega, b2, by omega, by omega, b2, by omega, by omega, b2, c_Law_law_1662 ((X_merge hV I.2.2.1.1 I.h20 I.hN (q32X _) (q32X _) (q32X _)) s1 s1 hM) hM.1.2.1 (by decide) (by decide) (bud2 hK (by decide)) (bud2 hn (by decide)) (Nat.le_of_ble_eq_true rfl) (fun y2 s2 hq2 => ?_) (fun E s hx => hx.elim)⟩
  obtain ⟨μ2, hM2, e0, o1, o2⟩ := hq2
  refine b_Law_law_1665 (c_Law_law_1668 (K_thrown s1 s2 hM2) hM2.1.2.1 (by decide) (by decide) (bud3 hK (by decide)) (bud3 hn (by decide)) (Nat.le_of_ble_eq_true rfl) (fun y3 s3 hq3 => ?_) (fun E s hx => hx.elim))
  obtain ⟨μ3, hM3, rfl, rfl⟩ := hq3
  obtain ⟨f1, f2, S2, f3⟩ := h.fin ho1 hk1 (fun e => (a1 e).2) a2 hM3 (fun e => (o1 e).2) o2 (fun e => I_merge I e)
  have nn := nx _ _ f3
  refine b_Law_law_1671 ⟨by rw [e0]; exact q32c (le_c3 (by decide) (by decide) (by decide)), by exact q32c (le_c3 (by decide) (by decide) (by decide)), fun _ => ⟨fun _ => Aw.wide (bud3w (by decide)) (bud3w (by decide)) nn, fun ec => ?_⟩, fun e => absurd e0 e⟩
  have ec := Int.ofNat_eq_zero.mp ec
  have ea : cmpL (aL s3 (x + 792) 0) (lOf y2) = 0 := by rw [f1, (a1 ec).1, (o1 ec).1]; exact (cmpL_0 _ _).mpr rfl
  exact ⟨f2.1, by decide, by rw [f2.2.1]; decide, cmpL_r _ _, fun _ => Aw.wide (bud3w (by decide)) (bud3w (by decide)) nn, fun e => absurd ea e⟩
theorem W_conflicts {F : QF} {K n : Nat} {v4 : Int} (h : LwI Ω lo x k S σ) (b0 : 0 ≤ v4) (b1 : v4 + 4 < oN Ω) (b2 : oN Ω < 2147483648) (hK : K + 530 ≤ rm_Law_law.cells) (hn : n + 3600 ≤ rm_Law_law.slots) (nx : ∀ σ2 S2, LwI Ω lo x (k + 1) S2 σ2 → Aw Ω M_Law_law rm_Law_law F (K + 530) (n + 3600) 23 [xr (some (oB Ω)), xr (some x), xr (some (x + 754)), xr (some (x + 792)), xi (v4 + 5), xu, xu, xu] [] σ2) : Aw Ω M_Law_law rm_Law_law F K n 1698 [xr (some (oB Ω)), xr (some x), xr (some (x + 754)), xr (some (x + 792)), xi v4, xu, xu, xu] [] σ := by
  have I := h.2.2.2
  refine b_Law_law_1698 (c_Law_law_1699 (K_conflicts h.1.2) h.1.2.k1 (by decide) (by decide) (bud1 hK (by decide)) (bud1 hn (by decide)) (Nat.le_of_ble_eq_true rfl) (fun y1 s1 hq => ?_) (fun E s1 hx => hx.elim))
  obtain ⟨-, rfl, hD1, hk0⟩ := hq
  have hk1 := hk0.mono (Q := HP lo x) (fun _ _ z => Or.inl z)
  obtain ⟨hM, hV⟩ := h.mr hk1
  refine b_Law_law_1702 (c_Law_law_1703 (X_conf hV s1 s1 hM) hM.1.2.1 (by decide) (by decide) (bud2 hK (by decide)) (bud2 hn (by decide)) (Nat.le_of_ble_eq_true rfl) (fun y2 s2 hq2 => ?_) (fun E s hx => hx.elim))
  obtain ⟨μ2, hM2, e0, o1, o2⟩ := hq2
  obtain ⟨f1, f2, S2, f3⟩ := h.fin ((h.2.2.1.keep hk0 (dwp_out h.1.1)).1) hk1 (fun _ => hD1) (fun z => absurd rfl z) hM2 (fun e => (o1 e).2) o2 (fun _ => I.mono (by omega)) (c := 0)
  have ey := (o1 rfl).1; rw [ey]
  exact b_Law_law_1706 ⟨I.qx_conflicts, I.qx_conflicts, fun _ => Aw.wide (bud2w (by decide)) (bud2w (by decide)) (nx _ _ f3), fun e => absurd rfl e⟩
theorem W_pieceOf {F : QF} {K n : Nat} {v4 : Int} (h : LwI Ω lo x k S σ) (b0 : 0 ≤ v4) (b1 : v4 + 4 < oN Ω) (b2 : oN Ω < 2147483648) (hK : K + 530 ≤ rm_Law_law.cells) (hn : n + 3600 ≤ rm_Law_law.slots) (nx : ∀ σ2 S2, LwI Ω lo x (k + 1) S2 σ2 → Aw Ω M_Law_law rm_Law_law F (K + 530) (n + 3600) 23 [xr (some (oB Ω)), xr (some x), xr (some (x + 754)), xr (some (x + 792)), xi (v4 + 5), xu, xu, xu] [] σ2) : Aw Ω M_Law_law rm_Law_law F K n 1711 [xr (some (oB Ω)), xr (some x), xr (some (x + 754)), xr (some (x + 792)), xi v4, xu, xu, xu] [] σ := by
  have I := h.2.2.2
  refine b_Law_law_1711 ⟨by omega, by omega, b2, by omega, by omega, b2, c_Law_law_1725 (L_pieceOf h (q32X _) (q32X _)) (by decide) (by decide) (bud1 hK (by decide)) (bud1 hn (by decide)) (Nat.le_of_ble_eq_true rfl) (fun y1 s1 hq => ?_) (fun E s1 hx => hx.elim)⟩
  obtain ⟨rfl, a1, a2, hk1, ho1⟩ := hq
  obtain ⟨hM, hV⟩ := h.mr hk1
  refine b_Law_law_1728 ⟨by omega, by omega, b2, by omega, by omega, b2, c_Law_law_1743 ((X_pieceOf hV (q32X _) (q32X _)) s1 s1 hM) hM.1.2.1 (by decide) (by decide) (bud2 hK (by decide)) (bud2 hn (by decide)) (Nat.le_of_ble_eq_true rfl) (fun y2 s2 hq2 => ?_) (fun E s hx => hx.elim)⟩
  obtain ⟨μ2, hM2, e0, o1, o2⟩ := hq2
  refine b_Law_law_1746 (c_Law_law_1749 (K_thrown s1 s2 hM2) hM2.1.2.1 (by decide) (by decide) (bud3 hK (by decide)) (bud3 hn (by decide)) (Nat.le_of_ble_eq_true rfl) (fun y3 s3 hq3 => ?_) (fun E s hx => hx.elim))
  obtain ⟨μ3, hM3, rfl, rfl⟩ := hq3
  obtain ⟨f1, f2, S2, f3⟩ := h.fin ho1 hk1 (fun e => (a1 e).2) a2 hM3 (fun e => (o1 e).2) o2 (fun e => I.mono (by omega))
  have nn := nx _ _ f3
  refine b_Law_law_1752 ⟨by rw [e0]; exact q32c (le_c2 (by decide) (by decide)), by exact q32c (le_c2 (by decide) (by decide)), fun _ => ⟨fun _ => Aw.wide (bud3w (by decide)) (bud3w (by decide)) nn, fun ec => ?_⟩, fun e => absurd e0 e⟩
  have ec := Int.ofNat_eq_zero.mp ec
  have ea : cmpL (aL s3 (x + 792) 0) (lOf y2) = 0 := by rw [f1, (a1 ec).1, (o1 ec).1]; exact (cmpL_0 _ _).mpr rfl
  exact ⟨f2.1, by decide, by rw [f2.2.1]; decide, cmpL_r _ _, fun _ => Aw.wide (bud3w (by decide)) (bud3w (by decide)) nn, fun e => absurd ea e⟩
theorem W_settle {F : QF} {K n : Nat} {v4 : Int} (h : LwI Ω lo x k S σ) (hk : k < 512) (b0 : 0 ≤ v4) (b1 : v4 + 4 < oN Ω) (b2 : oN Ω < 2147483648) (hK : K + 530 ≤ rm_Law_law.cells) (hn : n + 3600 ≤ rm_Law_law.slots) (nx : ∀ σ2 S2, LwI Ω lo x (k + 1) S2 σ2 → Aw Ω M_Law_law rm_Law_law F (K + 530) (n + 3600) 23 [xr (some (oB Ω)), xr (some x), xr (some (x + 754)), xr (some (x + 792)), xi (v4 + 5), xu, xu, xu] [] σ2) : Aw Ω M_Law_law rm_Law_law F K n 1779 [xr (some (oB Ω)), xr (some x), xr (some (x + 754)), xr (some (x + 792)), xi v4, xu, xu, xu] [] σ := by
  have I := h.2.2.2
  refine b_Law_law_1779 ⟨by omega, by omega, b2, by omega, by omega, b2, c_Law_law_1793 (L_settle h hk (q32X _) (q32X _)) (by decide) (by decide) (bud1 hK (by decide)) (bud1 hn (by decide)) (Nat.le_of_ble_eq_true rfl) (fun y1 s1 hq => ?_) (fun E s1 hx => hx.elim)⟩
  obtain ⟨rfl, a1, a2, hk1, ho1⟩ := hq
  obtain ⟨hM, hV⟩ := h.mr hk1
  refine b_Law_law_1796 ⟨by omega, by omega, b2, by omega, by omega, b2, c_Law_law_1811 ((X_settle hV I.hN I.h20 I.es (q32X _) (q32X _)) s1 s1 hM) hM.1.2.1 (by decide) (by decide) (bud2 hK (by decide)) (bud2 hn (by decide)) (Nat.le_of_ble_eq_true rfl) (fun y2 s2 hq2 => ?_) (fun E s hx => hx.elim)⟩
  obtain ⟨μ2, hM2, e0, o1, o2⟩ := hq2
  refine b_Law_law_1814 (c_Law_law_1817 (K_thrown s1 s2 hM2) hM2.1.2.1 (by decide) (by decide) (bud3 hK (by decide)) (bud3 hn (by decide)) (Nat.le_of_ble_eq_true rfl) (fun y3 s3 hq3 => ?_) (fun E s hx => hx.elim))
  obtain ⟨μ3, hM3, rfl, rfl⟩ := hq3
  obtain ⟨f1, f2, S2, f3⟩ := h.fin ho1 hk1 (fun e => (a1 e).2) a2 hM3 (fun e => (o1 e).2) o2 (fun e => I_settle I hk e)
  have nn := nx _ _ f3
  refine b_Law_law_1820 ⟨by rw [e0]; exact q32c (le_c3 (by decide) (by decide) (by decide)), by exact q32c (le_c3 (by decide) (by decide) (by decide)), fun _ => ⟨fun _ => Aw.wide (bud3w (by decide)) (bud3w (by decide)) nn, fun ec => ?_⟩, fun e => absurd e0 e⟩
  have ec := Int.ofNat_eq_zero.mp ec
  have ea : cmpL (aL s3 (x + 792) 0) (lOf y2) = 0 := by rw [f1, (a1 ec).1, (o1 ec).1]; exact (cmpL_0 _ _).mpr rfl
  exact ⟨f2.1, by decide, by rw [f2.2.1]; decide, cmpL_r _ _, fun _ => Aw.wide (bud3w (by decide)) (bud3w (by decide)) nn, fun e => absurd ea e⟩
theorem W_patch {F : QF} {K n : Nat} {v4 : Int} (h : LwI Ω lo x k S σ) (b0 : 0 ≤ v4) (b1 : v4 + 4 < oN Ω) (b2 : oN Ω < 2147483648) (hK : K + 530 ≤ rm_Law_law.cells) (hn : n + 3600 ≤ rm_Law_law.slots) (nx : ∀ σ2 S2, LwI Ω lo x (k + 1) S2 σ2 → Aw Ω M_Law_law rm_Law_law F (K + 530) (n + 3600) 23 [xr (some (oB Ω)), xr (some x), xr (some (x + 754)), xr (some (x + 792)), xi (v4 + 5), xu, xu, xu] [] σ2) : Aw Ω M_Law_law rm_Law_law F K n 1847 [xr (some (oB Ω)), xr (some x), xr (some (x + 754)), xr (some (x + 792)), xi v4, xu, xu, xu] [] σ := by
  have I := h.2.2.2
  refine b_Law_law_1847 ⟨by omega, by omega, b2, by omega, by omega, b2, by omega, by omega, b2, c_Law_law_1867 (L_patch h (q32X _) (q32X _) (q32X _)) (by decide) (by decide) (bud1 hK (by decide)) (bud1 hn (by decide)) (Nat.le_of_ble_eq_true rfl) (fun y1 s1 hq => ?_) (fun E s1 hx => hx.elim)⟩
  obtain ⟨rfl, a1, a2, hk1, ho1⟩ := hq
  obtain ⟨hM, hV⟩ := h.mr hk1
  refine b_Law_law_1870 ⟨by omega, by omega, b2, by omega, by omega, b2, by omega, by omega, b2, c_Law_law_1891 ((X_patch hV I.h20 I.hN I.hkq (q32X _) (q32X _) (q32X _)) s1 s1 hM) hM.1.2.1 (by decide) (by decide) (bud2 hK (by decide)) (bud2 hn (by decide)) (Nat.le_of_ble_eq_true rfl) (fun y2 s2 hq2 => ?_) (fun E s hx => hx.elim)⟩
  obtain ⟨μ2, hM2, e0, o1, o2⟩ := hq2
  refine b_Law_law_1894 (c_Law_law_1897 (K_thrown s1 s2 hM2) hM2.1.2.1 (by decide) (by decide) (bud3 hK (by decide)) (bud3 hn (by decide)) (Nat.le_of_ble_eq_true rfl) (fun y3 s3 hq3 => ?_) (fun E s hx => hx.elim))
  obtain ⟨μ3, hM3, rfl, rfl⟩ := hq3
  obtain ⟨f1, f2, S2, f3⟩ := h.fin ho1 hk1 (fun e => (a1 e).2) a2 hM3 (fun e => (o1 e).2) o2 (fun e => I_patch I e)
  have nn := nx _ _ f3
  refine b_Law_law_1900 ⟨by rw [e0]; exact q32c (le_c3 (by decide) (by decide) (by decide)), by exact q32c (le_c3 (by decide) (by decide) (by decide)), fun _ => ⟨fun _ => Aw.wide (bud3w (by decide)) (bud3w (by decide)) nn, fun ec => ?_⟩, fun e => absurd e0 e⟩
  have ec := Int.ofNat_eq_zero.mp ec
  have ea : cmpL (aL s3 (x + 792) 0) (lOf y2) = 0 := by rw [f1, (a1 ec).1, (o1 ec).1]; exact (cmpL_0 _ _).mpr rfl
  exact ⟨f2.1, by decide, by rw [f2.2.1]; decide, cmpL_r _ _, fun _ => Aw.wide (bud3w (by decide)) (bud3w (by decide)) nn, fun e => absurd ea e⟩
theorem W_turn {F : QF} {K n : Nat} {v4 : Int} (h : LwI Ω lo x k S σ) (b0 : 0 ≤ v4) (b1 : v4 + 4 < oN Ω) (b2 : oN Ω < 2147483648) (hK : K + 530 ≤ rm_Law_law.cells) (hn : n + 3600 ≤ rm_Law_law.slots) (nx : ∀ σ2 S2, LwI Ω lo x (k + 1) S2 σ2 → Aw Ω M_Law_law rm_Law_law F (K + 530) (n + 3600) 23 [xr (some (oB Ω)), xr (some x), xr (some (x + 754)), xr (some (x + 792)), xi (v4 + 5), xu, xu, xu] [] σ2) : Aw Ω M_Law_law rm_Law_law F K n 1927 [xr (some (oB Ω)), xr (some x), xr (some (x + 754)), xr (some (x + 792)), xi v4, xu, xu, xu] [] σ := by
  have I := h.2.2.2
  refine b_Law_law_1927 ⟨by omega, by omega, b2, c_Law_law_1935 (L_turn h (q32X _)) (by decide) (by decide) (bud1 hK (by decide)) (bud1 hn (by decide)) (Nat.le_of_ble_eq_true rfl) (fun y1 s1 hq => ?_) (fun E s1 hx => hx.elim)⟩
  obtain ⟨rfl, a1, a2, hk1, ho1⟩ := hq
  obtain ⟨hM, hV⟩ := h.mr hk1
  refine b_Law_law_1938 ⟨by omega, by omega, b2, c_Law_law_1947 ((X_turn hV I.hkq (q32X _)) s1 s1 hM) hM.1.2.1 (by decide) (by decide) (bud2 hK (by decide)) (bud2 hn (by decide)) (Nat.le_of_ble_eq_true rfl) (fun y2 s2 hq2 => ?_) (fun E s hx => hx.elim)⟩
  obtain ⟨μ2, hM2, e0, o1, o2⟩ := hq2
  refine b_Law_law_1950 (c_Law_law_1953 (K_thrown s1 s2 hM2) hM2.1.2.1 (by decide) (by decide) (bud3 hK (by decide)) (bud3 hn (by decide)) (Nat.le_of_ble_eq_true rfl) (fun y3 s3 hq3 => ?_) (fun E s hx => hx.elim))
  obtain ⟨μ3, hM3, rfl, rfl⟩ := hq3
  obtain ⟨f1, f2, S2, f3⟩ := h.fin ho1 hk1 (fun e => (a1 e).2) a2 hM3 (fun e => (o1 e).2) o2 (fun e => I_turn I (cd2_0 e))
  have nn := nx _ _ f3
  refine b_Law_law_1956 ⟨by rw [e0]; exact q32c (le_cd2 (le_c2 (by decide) (by decide))), by exact q32c (le_cd2 (le_c2 (by decide) (by decide))), fun _ => ⟨fun _ => Aw.wide (bud3w (by decide)) (bud3w (by decide)) nn, fun ec => ?_⟩, fun e => absurd e0 e⟩
  have ec := Int.ofNat_eq_zero.mp ec
  have ea : cmpL (aL s3 (x + 792) 0) (lOf y2) = 0 := by rw [f1, (a1 ec).1, (o1 ec).1]; exact (cmpL_0 _ _).mpr rfl
  exact ⟨f2.1, by decide, by rw [f2.2.1]; decide, cmpL_r _ _, fun _ => Aw.wide (bud3w (by decide)) (bud3w (by decide)) nn, fun e => absurd ea e⟩
theorem W_hunk {F : QF} {K n : Nat} {v4 : Int} (h : LwI Ω lo x k S σ) (b0 : 0 ≤ v4) (b1 : v4 + 4 < oN Ω) (b2 : oN Ω < 2147483648) (hK : K + 530 ≤ rm_Law_law.cells) (hn : n + 3600 ≤ rm_Law_law.slots) (nx : ∀ σ2 S2, LwI Ω lo x (k + 1) S2 σ2 → Aw Ω M_Law_law rm_Law_law F (K + 530) (n + 3600) 23 [xr (some (oB Ω)), xr (some x), xr (some (x + 754)), xr (some (x + 792)), xi (v4 + 5), xu, xu, xu] [] σ2) : Aw Ω M_Law_law rm_Law_law F K n 1983 [xr (some (oB Ω)), xr (some x), xr (some (x + 754)), xr (some (x + 792)), xi v4, xu, xu, xu] [] σ := by
  have I := h.2.2.2
  refine b_Law_law_1983 ⟨by omega, by omega, b2, by omega, by omega, b2, by omega, by omega, b2, c_Law_law_2003 (L_hunk h (q32X _) (q32X _) (q32X _)) (by decide) (by decide) (bud1 hK (by decide)) (bud1 hn (by decide)) (Nat.le_of_ble_eq_true rfl) (fun y1 s1 hq => ?_) (fun E s1 hx => hx.elim)⟩
  obtain ⟨rfl, a1, a2, hk1, ho1⟩ := hq
  obtain ⟨hM, hV⟩ := h.mr hk1
  refine b_Law_law_2006 ⟨by omega, by omega, b2, by omega, by omega, b2, by omega, by omega, b2, c_Law_law_2027 ((X_hunk hV (q32X _) (q32X _) (q32X _)) s1 s1 hM) hM.1.2.1 (by decide) (by decide) (bud2 hK (by decide)) (bud2 hn (by decide)) (Nat.le_of_ble_eq_true rfl) (fun y2 s2 hq2 => ?_) (fun E s hx => hx.elim)⟩
  obtain ⟨μ2, hM2, e0, o1, o2⟩ := hq2
  refine b_Law_law_2030 (c_Law_law_2033 (K_thrown s1 s2 hM2) hM2.1.2.1 (by decide) (by decide) (bud3 hK (by decide)) (bud3 hn (by decide)) (Nat.le_of_ble_eq_true rfl) (fun y3 s3 hq3 => ?_) (fun E s hx => hx.elim))
  obtain ⟨μ3, hM3, rfl, rfl⟩ := hq3
  obtain ⟨f1, f2, S2, f3⟩ := h.fin ho1 hk1 (fun e => (a1 e).2) a2 hM3 (fun e => (o1 e).2) o2 (fun e => I.mono (by omega))
  have nn := nx _ _ f3
  refine b_Law_law_2036 ⟨by rw [e0]; exact q32c (le_c2 (by decide) (by decide)), by exact q32c (le_c2 (by decide) (by decide)), fun _ => ⟨fun _ => Aw.wide (bud3w (by decide)) (bud3w (by decide)) nn, fun ec => ?_⟩, fun e => absurd e0 e⟩
  have ec := Int.ofNat_eq_zero.mp ec
  have ea : cmpL (aL s3 (x + 792) 0) (lOf y2) = 0 := by rw [f1, (a1 ec).1, (o1 ec).1]; exact (cmpL_0 _ _).mpr rfl
  exact ⟨f2.1, by decide, by rw [f2.2.1]; decide, cmpL_r _ _, fun _ => Aw.wide (bud3w (by decide)) (bud3w (by decide)) nn, fun e => absurd ea e⟩
theorem W_lay {F : QF} {K n : Nat} {v4 : Int} (h : LwI Ω lo x k S σ) (hk : k < 512) (b0 : 0 ≤ v4) (b1 : v4 + 4 < oN Ω) (b2 : oN Ω < 2147483648) (hK : K + 530 ≤ rm_Law_law.cells) (hn : n + 3600 ≤ rm_Law_law.slots) (nx : ∀ σ2 S2, LwI Ω lo x (k + 1) S2 σ2 → Aw Ω M_Law_law rm_Law_law F (K + 530) (n + 3600) 23 [xr (some (oB Ω)), xr (some x), xr (some (x + 754)), xr (some (x + 792)), xi (v4 + 5), xu, xu, xu] [] σ2) : Aw Ω M_Law_law rm_Law_law F K n 2063 [xr (some (oB Ω)), xr (some x), xr (some (x + 754)), xr (some (x + 792)), xi v4, xu, xu, xu] [] σ := by
  have I := h.2.2.2
  refine b_Law_law_2063 ⟨by omega, by omega, b2, by omega, by omega, b2, c_Law_law_2077 (L_lay h hk (q32X _) (q32X _)) (by decide) (by decide) (bud1 hK (by decide)) (bud1 hn (by decide)) (Nat.le_of_ble_eq_true rfl) (fun y1 s1 hq => ?_) (fun E s1 hx => hx.elim)⟩
  obtain ⟨rfl, a1, a2, hk1, ho1⟩ := hq
  obtain ⟨hM, hV⟩ := h.mr hk1
  refine b_Law_law_2080 ⟨by omega, by omega, b2, by omega, by omega, b2, c_Law_law_2095 ((X_lay x hV I.h20 I.hN I.nmD I.2.1.2.2.1 I.e4 I.hnq I.iP I.b12'' (q32X _) (q32X _)) s1 s1 hM) hM.1.2.1 (by decide) (by decide) (bud2 hK (by decide)) (bud2 hn (by decide)) (Nat.le_of_ble_eq_true rfl) (fun y2 s2 hq2 => ?_) (fun E s hx => hx.elim)⟩
  obtain ⟨μ2, hM2, e0, o1, o2⟩ := hq2
  refine b_Law_law_2098 (c_Law_law_2101 (K_thrown s1 s2 hM2) hM2.1.2.1 (by decide) (by decide) (bud3 hK (by decide)) (bud3 hn (by decide)) (Nat.le_of_ble_eq_true rfl) (fun y3 s3 hq3 => ?_) (fun E s hx => hx.elim))
  obtain ⟨μ3, hM3, rfl, rfl⟩ := hq3
  obtain ⟨f1, f2, S2, f3⟩ := h.fin ho1 hk1 (fun e => (a1 e).2) a2 hM3 (fun e => (o1 e).2) o2 (fun e => I_lay I hk e)
  have nn := nx _ _ f3
  refine b_Law_law_2104 ⟨by rw [e0]; exact q32c (le_c3 (by decide) (by decide) (by decide)), by exact q32c (le_c3 (by decide) (by decide) (by decide)), fun _ => ⟨fun _ => Aw.wide (bud3w (by decide)) (bud3w (by decide)) nn, fun ec => ?_⟩, fun e => absurd e0 e⟩
  have ec := Int.ofNat_eq_zero.mp ec
  have ea : cmpL (aL s3 (x + 792) 0) (lOf y2) = 0 := by rw [f1, (a1 ec).1, (o1 ec).1]; exact (cmpL_0 _ _).mpr rfl
  exact ⟨f2.1, by decide, by rw [f2.2.1]; decide, cmpL_r _ _, fun _ => Aw.wide (bud3w (by decide)) (bud3w (by decide)) nn, fun e => absurd ea e⟩
theorem W_note {F : QF} {K n : Nat} {v4 : Int} (h : LwI Ω lo x k S σ) (b0 : 0 ≤ v4) (b1 : v4 + 4 < oN Ω) (b2 : oN Ω < 2147483648) (hK : K + 530 ≤ rm_Law_law.cells) (hn : n + 3600 ≤ rm_Law_law.slots) (nx : ∀ σ2 S2, LwI Ω lo x (k + 1) S2 σ2 → Aw Ω M_Law_law rm_Law_law F (K + 530) (n + 3600) 23 [xr (some (oB Ω)), xr (some x), xr (some (x + 754)), xr (some (x + 792)), xi (v4 + 5), xu, xu, xu] [] σ2) : Aw Ω M_Law_law rm_Law_law F K n 2131 [xr (some (oB Ω)), xr (some x), xr (some (x + 754)), xr (some (x + 792)), xi v4, xu, xu, xu] [] σ := by
  have I := h.2.2.2
  refine b_Law_law_2131 ⟨by omega, by omega, b2, by omega, by omega, b2, c_Law_law_2145 (L_note h (q32X _) (q32X _)) (by decide) (by decide) (bud1 hK (by decide)) (bud1 hn (by decide)) (Nat.le_of_ble_eq_true rfl) (fun y1 s1 hq => ?_) (fun E s1 hx => hx.elim)⟩
  obtain ⟨rfl, a1, a2, hk1, ho1⟩ := hq
  obtain ⟨hM, hV⟩ := h.mr hk1
  refine b_Law_law_2148 ⟨by omega, by omega, b2, by omega, by omega, b2, c_Law_law_2163 ((X_note hV I.h20 (q32X _) (q32X _)) s1 s1 hM) hM.1.2.1 (by decide) (by decide) (bud2 hK (by decide)) (bud2 hn (by decide)) (Nat.le_of_ble_eq_true rfl) (fun y2 s2 hq2 => ?_) (fun E s hx => hx.elim)⟩
  obtain ⟨μ2, hM2, e0, o1, o2⟩ := hq2
  refine b_Law_law_2166 (c_Law_law_2169 (K_thrown s1 s2 hM2) hM2.1.2.1 (by decide) (by decide) (bud3 hK (by decide)) (bud3 hn (by decide)) (Nat.le_of_ble_eq_true rfl) (fun y3 s3 hq3 => ?_) (fun E s hx => hx.elim))
  obtain ⟨μ3, hM3, rfl, rfl⟩ := hq3
  obtain ⟨f1, f2, S2, f3⟩ := h.fin ho1 hk1 (fun e => (a1 e).2) a2 hM3 (fun e => (o1 e).2) o2 (fun e => I_note I (cd2_0 e))
  have nn := nx _ _ f3
  refine b_Law_law_2172 ⟨by rw [e0]; exact q32c (le_cd2 (le_c2 (by decide) (by decide))), by exact q32c (le_cd2 (le_c2 (by decide) (by decide))), fun _ => ⟨fun _ => Aw.wide (bud3w (by decide)) (bud3w (by decide)) nn, fun ec => ?_⟩, fun e => absurd e0 e⟩
  have ec := Int.ofNat_eq_zero.mp ec
  have ea : cmpL (aL s3 (x + 792) 0) (lOf y2) = 0 := by rw [f1, (a1 ec).1, (o1 ec).1]; exact (cmpL_0 _ _).mpr rfl
  exact ⟨f2.1, by decide, by rw [f2.2.1]; decide, cmpL_r _ _, fun _ => Aw.wide (bud3w (by decide)) (bud3w (by decide)) nn, fun e => absurd ea e⟩
theorem W_noteAt {F : QF} {K n : Nat} {v4 : Int} (h : LwI Ω lo x k S σ) (b0 : 0 ≤ v4) (b1 : v4 + 4 < oN Ω) (b2 : oN Ω < 2147483648) (hK : K + 530 ≤ rm_Law_law.cells) (hn : n + 3600 ≤ rm_Law_law.slots) (nx : ∀ σ2 S2, LwI Ω lo x (k + 1) S2 σ2 → Aw Ω M_Law_law rm_Law_law F (K + 530) (n + 3600) 23 [xr (some (oB Ω)), xr (some x), xr (some (x + 754)), xr (some (x + 792)), xi (v4 + 5), xu, xu, xu] [] σ2) : Aw Ω M_Law_law rm_Law_law F K n 2199 [xr (some (oB Ω)), xr (some x), xr (some (x + 754)), xr (some (x + 792)), xi v4, xu, xu, xu] [] σ := by
  have I := h.2.2.2
  refine b_Law_law_2199 ⟨by omega, by omega, b2, by omega, by omega, b2, c_Law_law_2213 (L_noteAt h (q32X _) (q32X _)) (by decide) (by decide) (bud1 hK (by decide)) (bud1 hn (by decide)) (Nat.le_of_ble_eq_true rfl) (fun y1 s1 hq => ?_) (fun E s1 hx => hx.elim)⟩
  obtain ⟨rfl, a1, a2, hk1, ho1⟩ := hq
  obtain ⟨hM, hV⟩ := h.mr hk1
  refine b_Law_law_2216 ⟨by omega, by omega, b2, by omega, by omega, b2, c_Law_law_2231 ((X_noteAt hV I.h20 I.hN I.2.1.2.2.2 (fun y hy => (I.2.2.2.2.2.1 y hy).1) (q32X _) (q32X _)) s1 s1 hM) hM.1.2.1 (by decide) (by decide) (bud2 hK (by decide)) (bud2 hn (by decide)) (Nat.le_of_ble_eq_true rfl) (fun y2 s2 hq2 => ?_) (fun E s hx => hx.elim)⟩
  obtain ⟨μ2, hM2, e0, o1, o2⟩ := hq2
  refine b_Law_law_2234 (c_Law_law_2237 (K_thrown s1 s2 hM2) hM2.1.2.1 (by decide) (by decide) (bud3 hK (by decide)) (bud3 hn (by decide)) (Nat.le_of_ble_eq_true rfl) (fun y3 s3 hq3 => ?_) (fun E s hx => hx.elim))
  obtain ⟨μ3, hM3, rfl, rfl⟩ := hq3
  obtain ⟨f1, f2, S2, f3⟩ := h.fin ho1 hk1 (fun e => (a1 e).2) a2 hM3 (fun e => (o1 e).2) o2 (fun e => I.mono (by omega))
  have nn := nx _ _ f3
  refine b_Law_law_2240 ⟨by rw [e0]; exact q32c (le_c1), by exact q32c (le_c1), fun _ => ⟨fun _ => Aw.wide (bud3w (by decide)) (bud3w (by decide)) nn, fun ec => ?_⟩, fun e => absurd e0 e⟩
  have ec := Int.ofNat_eq_zero.mp ec
  have ea : cmpL (aL s3 (x + 792) 0) (lOf y2) = 0 := by rw [f1, (a1 ec).1, (o1 ec).1]; exact (cmpL_0 _ _).mpr rfl
  exact ⟨f2.1, by decide, by rw [f2.2.1]; decide, cmpL_r _ _, fun _ => Aw.wide (bud3w (by decide)) (bud3w (by decide)) nn, fun e => absurd ea e⟩
theorem W_review {F : QF} {K n : Nat} {v4 : Int} (h : LwI Ω lo x k S σ) (b0 : 0 ≤ v4) (b1 : v4 + 4 < oN Ω) (b2 : oN Ω < 2147483648) (hK : K + 530 ≤ rm_Law_law.cells) (hn : n + 3600 ≤ rm_Law_law.slots) (nx : ∀ σ2 S2, LwI Ω lo x (k + 1) S2 σ2 → Aw Ω M_Law_law rm_Law_law F (K + 530) (n + 3600) 23 [xr (some (oB Ω)), xr (some x), xr (some (x + 754)), xr (some (x + 792)), xi (v4 + 5), xu, xu, xu] [] σ2) : Aw Ω M_Law_law rm_Law_law F K n 2267 [xr (some (oB Ω)), xr (some x), xr (some (x + 754)), xr (some (x + 792)), xi v4, xu, xu, xu] [] σ := by
  have I := h.2.2.2
  refine b_Law_law_2267 ⟨by omega, by omega, b2, by omega, by omega, b2, c_Law_law_2281 (L_review h (q32X _) (q32X _)) (by decide) (by decide) (bud1 hK (by decide)) (bud1 hn (by decide)) (Nat.le_of_ble_eq_true rfl) (fun y1 s1 hq => ?_) (fun E s1 hx => hx.elim)⟩
  obtain ⟨rfl, a1, a2, hk1, ho1⟩ := hq
  obtain ⟨hM, hV⟩ := h.mr hk1
  refine b_Law_law_2284 ⟨by omega, by omega, b2, by omega, by omega, b2, c_Law_law_2299 ((X_review hV (q32X _) (q32X _)) s1 s1 hM) hM.1.2.1 (by decide) (by decide) (bud2 hK (by decide)) (bud2 hn (by decide)) (Nat.le_of_ble_eq_true rfl) (fun y2 s2 hq2 => ?_) (fun E s hx => hx.elim)⟩
  obtain ⟨μ2, hM2, e0, o1, o2⟩ := hq2
  refine b_Law_law_2302 (c_Law_law_2305 (K_thrown s1 s2 hM2) hM2.1.2.1 (by decide) (by decide) (bud3 hK (by decide)) (bud3 hn (by decide)) (Nat.le_of_ble_eq_true rfl) (fun y3 s3 hq3 => ?_) (fun E s hx => hx.elim))
  obtain ⟨μ3, hM3, rfl, rfl⟩ := hq3
  obtain ⟨f1, f2, S2, f3⟩ := h.fin ho1 hk1 (fun e => (a1 e).2) a2 hM3 (fun e => (o1 e).2) o2 (fun e => I_review I (cd2_0 e))
  have nn := nx _ _ f3
  refine b_Law_law_2308 ⟨by rw [e0]; exact q32c (le_cd2 (le_c2 (by decide) (by decide))), by exact q32c (le_cd2 (le_c2 (by decide) (by decide))), fun _ => ⟨fun _ => Aw.wide (bud3w (by decide)) (bud3w (by decide)) nn, fun ec => ?_⟩, fun e => absurd e0 e⟩
  have ec := Int.ofNat_eq_zero.mp ec
  have ea : cmpL (aL s3 (x + 792) 0) (lOf y2) = 0 := by rw [f1, (a1 ec).1, (o1 ec).1]; exact (cmpL_0 _ _).mpr rfl
  exact ⟨f2.1, by decide, by rw [f2.2.1]; decide, cmpL_r _ _, fun _ => Aw.wide (bud3w (by decide)) (bud3w (by decide)) nn, fun e => absurd ea e⟩
theorem W_verdict {F : QF} {K n : Nat} {v4 : Int} (h : LwI Ω lo x k S σ) (b0 : 0 ≤ v4) (b1 : v4 + 4 < oN Ω) (b2 : oN Ω < 2147483648) (hK : K + 530 ≤ rm_Law_law.cells) (hn : n + 3600 ≤ rm_Law_law.slots) (nx : ∀ σ2 S2, LwI Ω lo x (k + 1) S2 σ2 → Aw Ω M_Law_law rm_Law_law F (K + 530) (n + 3600) 23 [xr (some (oB Ω)), xr (some x), xr (some (x + 754)), xr (some (x + 792)), xi (v4 + 5), xu, xu, xu] [] σ2) : Aw Ω M_Law_law rm_Law_law F K n 2335 [xr (some (oB Ω)), xr (some x), xr (some (x + 754)), xr (some (x + 792)), xi v4, xu, xu, xu] [] σ := by
  have I := h.2.2.2
  by_cases hb : (oX Ω (v4 + 3).toNat).toInt = 0
  · refine b_Law_law_2335 ⟨by omega, by omega, b2, by omega, by omega, b2, by omega, by omega, b2, q32X _, fun _ => c_Law_law_2363 (L_verdict h (q32X _) (q32X _) (by decide)) (by decide) (by decide) (bud1 hK (by decide)) (bud1 hn (by decide)) (Nat.le_of_ble_eq_true rfl) (fun y1 s1 hq => ?_) (fun E s1 hx => hx.elim), fun e => absurd hb e⟩
    obtain ⟨rfl, a1, a2, hk1, ho1⟩ := hq
    obtain ⟨hM, hV⟩ := h.mr hk1
    refine b_Law_law_2366 ⟨by omega, by omega, b2, by omega, by omega, b2, by omega, by omega, b2, q32X _, fun _ => c_Law_law_2395 ((X_verdict hV (fun r hr => (I.2.2.2.2.2.2 r hr).1) (fun r hr => (I.2.2.2.2.2.2 r hr).2.1) (q32X _) (q32X _) (by decide)) s1 s1 hM) hM.1.2.1 (by decide) (by decide) (bud2 hK (by decide)) (bud2 hn (by decide)) (Nat.le_of_ble_eq_true rfl) (fun y2 s2 hq2 => ?_) (fun E s hx => hx.elim), fun e => absurd hb e⟩
    obtain ⟨μ2, hM2, e0, o1, o2⟩ := hq2
    refine b_Law_law_2398 (c_Law_law_2401 (K_thrown s1 s2 hM2) hM2.1.2.1 (by decide) (by decide) (bud3 hK (by decide)) (bud3 hn (by decide)) (Nat.le_of_ble_eq_true rfl) (fun y3 s3 hq3 => ?_) (fun E s hx => hx.elim))
    obtain ⟨μ3, hM3, rfl, rfl⟩ := hq3
    obtain ⟨f1, f2, S2, f3⟩ := h.fin ho1 hk1 (fun e => (a1 e).2) a2 hM3 (fun e => (o1 e).2) o2 (fun e => I_verdict I (cd2_0 e))
    have nn := nx _ _ f3
    refine b_Law_law_2404 ⟨by rw [e0]; exact q32c (le_cd2 (le_c2 (by decide) (by decide))), by exact q32c (le_cd2 (le_c2 (by decide) (by decide))), fun _ => ⟨fun _ => Aw.wide (bud3w (by decide)) (bud3w (by decide)) nn, fun ec => ?_⟩, fun e => absurd e0 e⟩
    have ec := Int.ofNat_eq_zero.mp ec
    have ea : cmpL (aL s3 (x + 792) 0) (lOf y2) = 0 := by rw [f1, (a1 ec).1, (o1 ec).1]; exact (cmpL_0 _ _).mpr rfl
    exact ⟨f2.1, by decide, by rw [f2.2.1]; decide, cmpL_r _ _, fun _ => Aw.wide (bud3w (by decide)) (bud3w (by decide)) nn, fun e => absurd ea e⟩
  · refine b_Law_law_2335 ⟨by omega, by omega, b2, by omega, by omega, b2, by omega, by omega, b2, q32X _, fun e => absurd e hb, fun _ => c_Law_law_2363 (L_verdict h (q32X _) (q32X _) (by decide)) (by decide) (by decide) (bud1 hK (by decide)) (bud1 hn (by decide)) (Nat.le_of_ble_eq_true rfl) (fun y1 s1 hq => ?_) (fun E s1 hx => hx.elim)⟩
    obtain ⟨rfl, a1, a2, hk1, ho1⟩ := hq
    obtain ⟨hM, hV⟩ := h.mr hk1
    refine b_Law_law_2366 ⟨by omega, by omega, b2, by omega, by omega, b2, by omega, by omega, b2, q32X _, fun e => absurd e hb, fun _ => c_Law_law_2395 ((X_verdict hV (fun r hr => (I.2.2.2.2.2.2 r hr).1) (fun r hr => (I.2.2.2.2.2.2 r hr).2.1) (q32X _) (q32X _) (by decide)) s1 s1 hM) hM.1.2.1 (by decide) (by decide) (bud2 hK (by decide)) (bud2 hn (by decide)) (Nat.le_of_ble_eq_true rfl) (fun y2 s2 hq2 => ?_) (fun E s hx => hx.elim)⟩
    obtain ⟨μ2, hM2, e0, o1, o2⟩ := hq2
    refine b_Law_law_2398 (c_Law_law_2401 (K_thrown s1 s2 hM2) hM2.1.2.1 (by decide) (by decide) (bud3 hK (by decide)) (bud3 hn (by decide)) (Nat.le_of_ble_eq_true rfl) (fun y3 s3 hq3 => ?_) (fun E s hx => hx.elim))
    obtain ⟨μ3, hM3, rfl, rfl⟩ := hq3
    obtain ⟨f1, f2, S2, f3⟩ := h.fin ho1 hk1 (fun e => (a1 e).2) a2 hM3 (fun e => (o1 e).2) o2 (fun e => I_verdict I (cd2_0 e))
    have nn := nx _ _ f3
    refine b_Law_law_2404 ⟨by rw [e0]; exact q32c (le_cd2 (le_c2 (by decide) (by decide))), by exact q32c (le_cd2 (le_c2 (by decide) (by decide))), fun _ => ⟨fun _ => Aw.wide (bud3w (by decide)) (bud3w (by decide)) nn, fun ec => ?_⟩, fun e => absurd e0 e⟩
    have ec := Int.ofNat_eq_zero.mp ec
    have ea : cmpL (aL s3 (x + 792) 0) (lOf y2) = 0 := by rw [f1, (a1 ec).1, (o1 ec).1]; exact (cmpL_0 _ _).mpr rfl
    exact ⟨f2.1, by decide, by rw [f2.2.1]; decide, cmpL_r _ _, fun _ => Aw.wide (bud3w (by decide)) (bud3w (by decide)) nn, fun e => absurd ea e⟩
theorem W_renew {F : QF} {K n : Nat} {v4 : Int} (h : LwI Ω lo x k S σ) (b0 : 0 ≤ v4) (b1 : v4 + 4 < oN Ω) (b2 : oN Ω < 2147483648) (hK : K + 530 ≤ rm_Law_law.cells) (hn : n + 3600 ≤ rm_Law_law.slots) (nx : ∀ σ2 S2, LwI Ω lo x (k + 1) S2 σ2 → Aw Ω M_Law_law rm_Law_law F (K + 530) (n + 3600) 23 [xr (some (oB Ω)), xr (some x), xr (some (x + 754)), xr (some (x + 792)), xi (v4 + 5), xu, xu, xu] [] σ2) : Aw Ω M_Law_law rm_Law_law F K n 2431 [xr (some (oB Ω)), xr (some x), xr (some (x + 754)), xr (some (x + 792)), xi v4, xu, xu, xu] [] σ := by
  have I := h.2.2.2
  refine b_Law_law_2431 ⟨by omega, by omega, b2, by omega, by omega, b2, c_Law_law_2445 (L_renew h (q32X _) (q32X _)) (by decide) (by decide) (bud1 hK (by decide)) (bud1 hn (by decide)) (Nat.le_of_ble_eq_true rfl) (fun y1 s1 hq => ?_) (fun E s1 hx => hx.elim)⟩
  obtain ⟨rfl, a1, a2, hk1, ho1⟩ := hq
  obtain ⟨hM, hV⟩ := h.mr hk1
  refine b_Law_law_2448 ⟨by omega, by omega, b2, by omega, by omega, b2, c_Law_law_2463 ((X_renew hV I.2.2.1.1 I.h20 I.hN (fun r hr => (I.2.2.2.2.2.2 r hr).1) I.2.2.1.2.2.1 (q32X _) (q32X _)) s1 s1 hM) hM.1.2.1 (by decide) (by decide) (bud2 hK (by decide)) (bud2 hn (by decide)) (Nat.le_of_ble_eq_true rfl) (fun y2 s2 hq2 => ?_) (fun E s hx => hx.elim)⟩
  obtain ⟨μ2, hM2, e0, o1, o2⟩ := hq2
  refine b_Law_law_2466 (c_Law_law_2469 (K_thrown s1 s2 hM2) hM2.1.2.1 (by decide) (by decide) (bud3 hK (by decide)) (bud3 hn (by decide)) (Nat.le_of_ble_eq_true rfl) (fun y3 s3 hq3 => ?_) (fun E s hx => hx.elim))
  obtain ⟨μ3, hM3, rfl, rfl⟩ := hq3
  obtain ⟨f1, f2, S2, f3⟩ := h.fin ho1 hk1 (fun e => (a1 e).2) a2 hM3 (fun e => (o1 e).2) o2 (fun e => I_renew I (cd2_0 e))
  have nn := nx _ _ f3
  refine b_Law_law_2472 ⟨by rw [e0]; exact q32c (le_cd2 (le_c2 (by decide) (by decide))), by exact q32c (le_cd2 (le_c2 (by decide) (by decide))), fun _ => ⟨fun _ => Aw.wide (bud3w (by decide)) (bud3w (by decide)) nn, fun ec => ?_⟩, fun e => absurd e0 e⟩
  have ec := Int.ofNat_eq_zero.mp ec
  have ea : cmpL (aL s3 (x + 792) 0) (lOf y2) = 0 := by rw [f1, (a1 ec).1, (o1 ec).1]; exact (cmpL_0 _ _).mpr rfl
  exact ⟨f2.1, by decide, by rw [f2.2.1]; decide, cmpL_r _ _, fun _ => Aw.wide (bud3w (by decide)) (bud3w (by decide)) nn, fun e => absurd ea e⟩
theorem W_land {F : QF} {K n : Nat} {v4 : Int} (h : LwI Ω lo x k S σ) (b0 : 0 ≤ v4) (b1 : v4 + 4 < oN Ω) (b2 : oN Ω < 2147483648) (hK : K + 530 ≤ rm_Law_law.cells) (hn : n + 3600 ≤ rm_Law_law.slots) (nx : ∀ σ2 S2, LwI Ω lo x (k + 1) S2 σ2 → Aw Ω M_Law_law rm_Law_law F (K + 530) (n + 3600) 23 [xr (some (oB Ω)), xr (some x), xr (some (x + 754)), xr (some (x + 792)), xi (v4 + 5), xu, xu, xu] [] σ2) : Aw Ω M_Law_law rm_Law_law F K n 2499 [xr (some (oB Ω)), xr (some x), xr (some (x + 754)), xr (some (x + 792)), xi v4, xu, xu, xu] [] σ := by
  have I := h.2.2.2
  refine b_Law_law_2499 ⟨by omega, by omega, b2, c_Law_law_2507 (L_land h (q32X _)) (by decide) (by decide) (bud1 hK (by decide)) (bud1 hn (by decide)) (Nat.le_of_ble_eq_true rfl) (fun y1 s1 hq => ?_) (fun E s1 hx => hx.elim)⟩
  obtain ⟨rfl, a1, a2, hk1, ho1⟩ := hq
  obtain ⟨hM, hV⟩ := h.mr hk1
  refine b_Law_law_2510 ⟨by omega, by omega, b2, c_Law_law_2519 ((X_land hV (fun r hr => (I.2.2.2.2.2.2 r hr).2.2) (q32X _)) s1 s1 hM) hM.1.2.1 (by decide) (by decide) (bud2 hK (by decide)) (bud2 hn (by decide)) (Nat.le_of_ble_eq_true rfl) (fun y2 s2 hq2 => ?_) (fun E s hx => hx.elim)⟩
  obtain ⟨μ2, hM2, e0, o1, o2⟩ := hq2
  refine b_Law_law_2522 (c_Law_law_2525 (K_thrown s1 s2 hM2) hM2.1.2.1 (by decide) (by decide) (bud3 hK (by decide)) (bud3 hn (by decide)) (Nat.le_of_ble_eq_true rfl) (fun y3 s3 hq3 => ?_) (fun E s hx => hx.elim))
  obtain ⟨μ3, hM3, rfl, rfl⟩ := hq3
  obtain ⟨f1, f2, S2, f3⟩ := h.fin ho1 hk1 (fun e => (a1 e).2) a2 hM3 (fun e => (o1 e).2) o2 (fun e => I_land I (cd2_0 e))
  have nn := nx _ _ f3
  refine b_Law_law_2528 ⟨by rw [e0]; exact q32c (le_cd2 (le_c2 (by decide) (by decide))), by exact q32c (le_cd2 (le_c2 (by decide) (by decide))), fun _ => ⟨fun _ => Aw.wide (bud3w (by decide)) (bud3w (by decide)) nn, fun ec => ?_⟩, fun e => absurd e0 e⟩
  have ec := Int.ofNat_eq_zero.mp ec
  have ea : cmpL (aL s3 (x + 792) 0) (lOf y2) = 0 := by rw [f1, (a1 ec).1, (o1 ec).1]; exact (cmpL_0 _ _).mpr rfl
  exact ⟨f2.1, by decide, by rw [f2.2.1]; decide, cmpL_r _ _, fun _ => Aw.wide (bud3w (by decide)) (bud3w (by decide)) nn, fun e => absurd ea e⟩
theorem W_reviewState {F : QF} {K n : Nat} {v4 : Int} (h : LwI Ω lo x k S σ) (b0 : 0 ≤ v4) (b1 : v4 + 4 < oN Ω) (b2 : oN Ω < 2147483648) (hK : K + 530 ≤ rm_Law_law.cells) (hn : n + 3600 ≤ rm_Law_law.slots) (nx : ∀ σ2 S2, LwI Ω lo x (k + 1) S2 σ2 → Aw Ω M_Law_law rm_Law_law F (K + 530) (n + 3600) 23 [xr (some (oB Ω)), xr (some x), xr (some (x + 754)), xr (some (x + 792)), xi (v4 + 5), xu, xu, xu] [] σ2) : Aw Ω M_Law_law rm_Law_law F K n 2555 [xr (some (oB Ω)), xr (some x), xr (some (x + 754)), xr (some (x + 792)), xi v4, xu, xu, xu] [] σ := by
  have I := h.2.2.2
  refine b_Law_law_2555 ⟨by omega, by omega, b2, c_Law_law_2563 (L_reviewState h (q32X _)) (by decide) (by decide) (bud1 hK (by decide)) (bud1 hn (by decide)) (Nat.le_of_ble_eq_true rfl) (fun y1 s1 hq => ?_) (fun E s1 hx => hx.elim)⟩
  obtain ⟨rfl, a1, a2, hk1, ho1⟩ := hq
  obtain ⟨hM, hV⟩ := h.mr hk1
  refine b_Law_law_2566 ⟨by omega, by omega, b2, c_Law_law_2575 ((X_reviewState hV (q32X _)) s1 s1 hM) hM.1.2.1 (by decide) (by decide) (bud2 hK (by decide)) (bud2 hn (by decide)) (Nat.le_of_ble_eq_true rfl) (fun y2 s2 hq2 => ?_) (fun E s hx => hx.elim)⟩
  obtain ⟨μ2, hM2, e0, o1, o2⟩ := hq2
  refine b_Law_law_2578 (c_Law_law_2581 (K_thrown s1 s2 hM2) hM2.1.2.1 (by decide) (by decide) (bud3 hK (by decide)) (bud3 hn (by decide)) (Nat.le_of_ble_eq_true rfl) (fun y3 s3 hq3 => ?_) (fun E s hx => hx.elim))
  obtain ⟨μ3, hM3, rfl, rfl⟩ := hq3
  obtain ⟨f1, f2, S2, f3⟩ := h.fin ho1 hk1 (fun e => (a1 e).2) a2 hM3 (fun e => (o1 e).2) o2 (fun e => I.mono (by omega))
  have nn := nx _ _ f3
  refine b_Law_law_2584 ⟨by rw [e0]; exact q32c (le_c1), by exact q32c (le_c1), fun _ => ⟨fun _ => Aw.wide (bud3w (by decide)) (bud3w (by decide)) nn, fun ec => ?_⟩, fun e => absurd e0 e⟩
  have ec := Int.ofNat_eq_zero.mp ec
  have ea : cmpL (aL s3 (x + 792) 0) (lOf y2) = 0 := by rw [f1, (a1 ec).1, (o1 ec).1]; exact (cmpL_0 _ _).mpr rfl
  exact ⟨f2.1, by decide, by rw [f2.2.1]; decide, cmpL_r _ _, fun _ => Aw.wide (bud3w (by decide)) (bud3w (by decide)) nn, fun e => absurd ea e⟩
end LWC
