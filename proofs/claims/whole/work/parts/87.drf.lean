/-! BY HAND: Draft, an edit undone, lines named -/
def tbC (cl : List Cnl) (E : Edi) : List Cnl := if edK E = 4 then (match cl[(edT E).toNat]? with | some c => roC cl (edT E).toNat c (edD E) | none => cl) else cl
def tbO (oc : Int) (E : Edi) : Int := if edK E = 4 then oc + 1 else oc
def apA (F : List (Int64 × Int)) (n : Nat) (au : Nat → Int) (w : Int) (x : Int64) : Int := if lenL (ltL x) < 4 then w else match F.find? (fun y => decide (y.1 = x)) with | some y => (if 0 ≤ y.2 ∧ y.2 < n then au y.2.toNat else -1) | none => w
def nmL (F : List (Int64 × Int)) (w : Int) : List (Int64 × Int) → Nat → (Nat → Int) → (Nat → Int) → List (Int64 × Int) × Nat × (Nat → Int) × (Nat → Int)
  | [], n, au, og => ([], n, au, og)
  | x :: T, n, au, og => if x.2 = -1 then ((x.1, (n : Int)) :: (nmL F w T (n + 1) (up1 au n (apA F n au w x.1)) (up1 og n (-1))).1, (nmL F w T (n + 1) (up1 au n (apA F n au w x.1)) (up1 og n (-1))).2) else (x :: (nmL F w T n au og).1, (nmL F w T n au og).2)
/-- how many lines have no name -/
def noN : List (Int64 × Int) → Nat
  | [] => 0
  | x :: T => if x.2 = -1 then noN T + 1 else noN T
section DRU
variable {Ω : Om} {σ0 : Sto} {lo a f s b d e bk n : Nat} {T F S B : List (Int64 × Int)} {cl : List Cnl} {E : Edi} {hs : List Hun} {oc w : Int} {es es' : List Nat} {au og : Nat → Int}
theorem k_Drf_hasEdits {σ : Sto} (hS : DrS σ a) (hL : Ls Ω σ lo (a + 4) d es) (hz : es.length ≤ 520) : MC Ω M_Drf_hasEdits rm_Drf_hasEdits (RI fun r σ' => σ' = σ ∧ Bz r (es ≠ [])) XN σ [xr (some a)] := by
  refine e_Drf_hasEdits (b_Drf_hasEdits_0 ⟨hS.2.1, _, hS.2.2.2.1, ?_⟩)
  refine c_Drf_hasEdits_4 (k_Lst_size hL (by omega)) hL.2.2.1 (by decide) (by decide) (by first | decide | omega) (by first | decide | omega) (Nat.le_of_ble_eq_true rfl) (fun z σ1 hq => ?_) (fun _ _ hx => hx.elim)
  obtain ⟨rfl, rfl⟩ := hq
  refine b_Drf_hasEdits_7 ⟨by omega, fun c => ?_, fun c => ?_⟩
  · refine r_Drf_hasEdits_15 (Or.inl rfl) ⟨_, rfl, rfl, Or.inr ⟨rfl, fun z => z (List.eq_nil_of_length_eq_zero (by omega))⟩⟩ (by decide) (by decide)
  · refine r_Drf_hasEdits_15 (Or.inr rfl) ⟨_, rfl, rfl, Or.inl ⟨rfl, fun z => c (by rw [z]; exact Int.le_refl _)⟩⟩ (by decide) (by decide)
theorem k_Drf_takeBack {σ : Sto} {oc : Nat} (hD : DfV Ω σ lo a f s b d T cl oc es) (he : es = es' ++ [e]) (hE : EdV σ lo e E) (hk4 : edK E = 4 → 0 ≤ edT E ∧ ∃ c, cl[(edT E).toNat]? = some c ∧ (0 ≤ cnL c (edD E) ∧ cnL c (edD E) ≤ 40) ∧ (0 ≤ edD E ∧ edD E ≤ 4) ∧ ∀ c ∈ cl, -100000 ≤ cnP c ∧ cnP c ≤ 100000) (hoc : oc ≤ 21) (hlo : a + 127 < lo) (hz : es.length ≤ 520) :
    MC Ω M_Drf_takeBack rm_Drf_takeBack (RV fun σ' => DfV Ω σ' lo a f s b d (edB E) (tbC cl E) (tbO oc E) es' ∧ Keep σ σ' (MP lo a d) ∧ Au3 σ σ' a) XN σ [xr (some a)] := by
  obtain ⟨hS, hT, hC, ho, hX, hZ, hL⟩ := hD
  have hne : es ≠ [] := by rw [he]; simp
  have hl : es.length = es'.length + 1 := by rw [he, List.length_append]; rfl
  have h0 := hS.1
  refine e_Drf_takeBack (b_Drf_takeBack_0 ⟨hS.2.1, _, hS.2.2.2.1, ?_⟩)
  refine c_Drf_takeBack_4 (k_Lst_isEmpty hL) hL.2.2.1 (by decide) (by decide) (by first | decide | omega) (by first | decide | omega) (Nat.le_of_ble_eq_true rfl) (fun z σ1 hq => ?_) (fun _ _ hx => hx.elim)
  obtain ⟨rfl, hz1⟩ := hq
  rcases hz1 with ⟨rfl, hz1⟩ | ⟨rfl, hz1⟩
  · exact absurd hz1 hne
  refine b_Drf_takeBack_7 ⟨by decide, fun _ => ⟨hS.2.1, _, hS.2.2.2.1, ?_⟩, fun c => absurd rfl c⟩
  refine c_Drf_takeBack_19 (k_Lst_size hL (by omega)) hL.2.2.1 (by decide) (by decide) (by first | decide | omega) (by first | decide | omega) (Nat.le_of_ble_eq_true rfl) (fun z σ2 hq => ?_) (fun _ _ hx => hx.elim)
  obtain ⟨rfl, rfl⟩ := hq
  refine b_Drf_takeBack_22 ?_
  rw [show (es.length : Int) - 1 = (es'.length : Int) by omega]
  refine c_Drf_takeBack_24 (k_Lst_remove hL he) hL.2.2.1 (by decide) (by decide) (by first | decide | omega) (by first | decide | omega) (Nat.le_of_ble_eq_true rfl) (fun z σ3 hq => ?_) (fun _ _ hx => hx.elim)
  obtain ⟨rfl, hL3, hk3, hn3⟩ := hq
  have hnd : ∀ q, lo ≤ q → sK σ2 q ≠ 59 → ¬ LsP lo (a + 4) d q := fun q q1 q2 q3 => by
    rcases q3 with q3 | ⟨q3, _⟩
    · omega
    · rcases hL.2.2.2.2.2 with w | w
      · have := w.2.1; omega
      · rw [q3] at q2; exact q2 w.2.2.1
  have hE3 := hE.keep hk3 hnd
  obtain ⟨e1, e2, e3, e4, e5, e6, e7, e8, e9, e10⟩ := id hE3
  have hS3 := hS.keep hk3 (by omega) (fun q q1 q2 => by omega)
  have hT3 := hT.keep hk3 (by omega) (by omega)
  have hC3 := hC.keep hk3 h0 (by omega) (fun q q1 q2 => by omega)
  have ho3 := ((hk3.2 a (by omega) (by omega)).2.2.1 _).trans ho
  have hX3 := hX.keep hk3 (fun q q1 q2 q3 => by omega)
  have hZ3 := hZ.keep hk3 (fun q q1 q2 q3 => by omega)
  refine b_Drf_takeBack_27 ⟨e3, hS3.2.1, _, hS3.2.2.1, _, e9, ?_⟩
  refine c_Drf_takeBack_39 (k_Txt_copy hX3 e10 (by omega)) hX3.2.1 (by decide) (by decide) (by first | decide | omega) (by first | decide | omega) (Nat.le_of_ble_eq_true rfl) (fun σ4 hq => ?_) (fun _ _ hx => hx.elim)
  obtain ⟨hX4, hk4'⟩ := hq
  have h03 := hS3.1
  have hE4 := hE3.keep hk4' (fun q q1 q2 q3 => by omega)
  have hS4 := hS3.keep hk4' (by omega) (fun q q1 q2 => by omega)
  have hT4 := hT3.keep hk4' (by omega) (by omega)
  have hC4 := hC3.keep hk4' h03 (by omega) (fun q q1 q2 => by omega)
  have ho4 := ((hk4'.2 a (by omega) (by omega)).2.2.1 _).trans ho3
  have hZ4 := hZ3.keep hk4' (fun q q1 q2 q3 => by omega)
  have hL4 := hL3.keep hk4' (by omega) (fun _ => by omega)
  have k14 : Keep σ2 σ4 (MP lo a d) := (hk3.mono (fun q _ h => Or.inr h)).trans (hk4'.mono (fun q _ h => Or.inl (by omega)))
  have a14 : Au3 σ2 σ4 a := (hk3.au3 (by omega) (by omega)).trans (hk4'.au3 (by omega) (by omega))
  refine b_Drf_takeBack_42 ⟨hE4.2.2.1, fun _ => ⟨fun c => ?_, fun c => fun _ => fun _ => ?_⟩⟩
  · rw [hE4.2.2.2.1] at c
    have hcC : tbC cl E = cl := if_neg c
    have hcO : tbO oc E = oc := if_neg c
    refine r_Drf_takeBack_62 ⟨rfl, ?_, k14, a14⟩ (by decide) (by decide)
    rw [hcC, hcO]
    exact ⟨hS4, hT4, hC4, ho4, hX4, hZ4, hL4⟩
  · rw [hE4.2.2.2.1] at c
    obtain ⟨t0, c', hc', hbl, hh, hp⟩ := hk4 c
    have hcC : tbC cl E = roC cl (edT E).toNat c' (edD E) := by unfold tbC; rw [if_pos c, hc']
    have hcO : tbO oc E = (oc : Int) + 1 := if_pos c
    rw [hE4.2.2.2.2.1, hE4.2.2.2.2.2.1]
    have := @k_Drf_reopen Ω a f s b (edB E) cl c' σ4 (edT E).toNat oc (edD E) hS4 hT4 hC4 hc' ho4 hoc hX4 hbl hh hp
    rw [show (((edT E).toNat : Nat) : Int) = edT E by omega] at this
    refine c_Drf_takeBack_59 (this) hS4.2.1 (by decide) (by decide) (by first | decide | omega) (by first | decide | omega) (Nat.le_of_ble_eq_true rfl) (fun σ5 hq => ?_) (fun _ _ hx => hx.elim)
    obtain ⟨hS5, hT5, hC5, ho5, hX5, hk5, ha5⟩ := hq
    refine r_Drf_takeBack_62 ⟨rfl, ?_, k14.trans (hk5.mono (fun q _ h => Or.inl h)), a14.trans ha5⟩ (by decide) (by decide)
    rw [hcC, hcO]
    have hd4 : lo ≤ d → ¬ WP a d := fun h => by omega
    exact ⟨hS5, hT5, hC5, ho5, hX5, hZ4.keep hk5 (fun q q1 q2 q3 => by omega), hL4.keep hk5 (by omega) hd4⟩
theorem ap_loop {σ : Sto} {x : Int64} (hS : sK σ a = 4) (hf : fR σ 198 a = some f) (hw : fI σ 203 a = w) (hF : Tx σ f F) (hB : Bk σ bk n au og) (h4 : ¬ lenL (ltL x) < 4) : ∀ (d i : Nat), i + d = F.length → (F.drop i).find? (fun y => decide (y.1 = x)) = F.find? (fun y => decide (y.1 = x)) → Aw Ω M_Drf_authorOfPutIn rm_Drf_authorOfPutIn (MF Ω rm_Drf_authorOfPutIn (RI fun r σ' => σ' = σ ∧ r = apA F n au w x ∧ Q32 r) XN) 0 0 14 [xr (some a), xr (some bk), xl x, xu, xi i] [] σ := by
  have hl := hF.2.2.2.2.2.2.2.2.2.1
  intro d
  induction d with
  | zero =>
    intro i hd hfd
    rw [List.drop_eq_nil_of_le (by omega), List.find?_nil] at hfd
    refine b_Drf_authorOfPutIn_14 ⟨hS, _, hf, ?_⟩
    refine c_Drf_authorOfPutIn_20 (k_Txt_size hF) hF.2.1 (by decide) (by decide) (by first | decide | omega) (by first | decide | omega) (Nat.le_of_ble_eq_true rfl) (fun z σ1 hq => ?_) (fun _ _ hx => hx.elim)
    obtain ⟨rfl, rfl⟩ := hq
    refine b_Drf_authorOfPutIn_23 ⟨by omega, by omega, fun _ => ⟨hS, fun q => ?_⟩, fun c => absurd (by omega) c⟩
    refine r_Drf_authorOfPutIn_64 ⟨_, rfl, rfl, ?_, q⟩ (by decide) (by decide)
    rw [apA, if_neg h4, ← hfd, hw]
  | succ d ih =>
    intro i hd hfd
    have li : i < F.length := by omega
    have eg : F[i]? = some F[i] := List.getElem?_eq_getElem li
    have e1 : lnA F (i : Int) = F[i].1 := lnA_some (by omega) eg
    have e2 : nmA F (i : Int) = F[i].2 := nmA_some (by omega) eg
    rw [List.drop_eq_getElem_cons li, List.find?_cons] at hfd
    refine b_Drf_authorOfPutIn_14 ⟨hS, _, hf, ?_⟩
    refine c_Drf_authorOfPutIn_20 (k_Txt_size hF) hF.2.1 (by decide) (by decide) (by first | decide | omega) (by first | decide | omega) (Nat.le_of_ble_eq_true rfl) (fun z σ1 hq => ?_) (fun _ _ hx => hx.elim)
    obtain ⟨rfl, rfl⟩ := hq
    refine b_Drf_authorOfPutIn_23 ⟨by omega, by omega, fun c => absurd c (by omega), fun _ => ⟨hS, _, hf, ?_⟩⟩
    refine c_Drf_authorOfPutIn_32 (k_Txt_lineAt hF (by omega)) hF.2.1 (by decide) (by decide) (by first | decide | omega) (by first | decide | omega) (Nat.le_of_ble_eq_true rfl) (fun z σ2 hq => ?_) (fun _ _ hx => hx.elim)
    obtain ⟨rfl, rfl⟩ := hq
    rw [e1]
    refine b_Drf_authorOfPutIn_35 ⟨cmpL_r _ _, fun c => ?_, fun c => ⟨hS, _, hf, ?_⟩⟩
    · rw [cmpL_0] at c
      rw [decide_eq_false c] at hfd
      exact ih (i + 1) (by omega) hfd
    · rw [cmpL_0] at c
      rw [decide_eq_true c] at hfd
      refine c_Drf_authorOfPutIn_47 (k_Txt_nameAt hF (by omega)) hF.2.1 (by decide) (by decide) (by first | decide | omega) (by first | decide | omega) (Nat.le_of_ble_eq_true rfl) (fun z σ3 hq => ?_) (fun _ _ hx => hx.elim)
      obtain ⟨rfl, e3, q3⟩ := hq
      rw [e3, e2]
      rw [e3, e2] at q3
      refine c_Drf_authorOfPutIn_50 (k_Lbk_authorOf hB q3) hB.2.1 (by decide) (by decide) (by first | decide | omega) (by first | decide | omega) (Nat.le_of_ble_eq_true rfl) (fun z σ4 hq => ?_) (fun _ _ hx => hx.elim)
      obtain ⟨rfl, rfl, q4⟩ := hq
      refine r_Drf_authorOfPutIn_53 ⟨_, rfl, rfl, ?_, q4⟩ (by decide) (by decide)
      rw [apA, if_neg h4, ← hfd]
theorem k_Drf_authorOfPutIn {σ : Sto} {x : Int64} (hS : sK σ a = 4) (hf : fR σ 198 a = some f) (hw : fI σ 203 a = w) (hF : Tx σ f F) (hB : Bk σ bk n au og) : MC Ω M_Drf_authorOfPutIn rm_Drf_authorOfPutIn (RI fun r σ' => σ' = σ ∧ r = apA F n au w x ∧ Q32 r) XN σ [xr (some a), xr (some bk), xl x] := by
  have hl := lenL_le (ltL x)
  refine e_Drf_authorOfPutIn (b_Drf_authorOfPutIn_0 ?_)
  refine c_Drf_authorOfPutIn_1 (k_Lbk_lettersOf) (by decide) (by decide) (by first | decide | omega) (by first | decide | omega) (Nat.le_of_ble_eq_true rfl) (fun z σ1 hq => ?_) (fun _ _ hx => hx.elim)
  obtain ⟨rfl, rfl⟩ := hq
  refine c_Drf_authorOfPutIn_4 (k_Lbk_lengthOf) (by decide) (by decide) (by first | decide | omega) (by first | decide | omega) (Nat.le_of_ble_eq_true rfl) (fun z σ2 hq => ?_) (fun _ _ hx => hx.elim)
  obtain ⟨rfl, rfl⟩ := hq
  refine b_Drf_authorOfPutIn_7 ⟨by omega, fun c => ⟨hS, fun q => ?_⟩, fun c => ?_⟩
  · refine r_Drf_authorOfPutIn_64 ⟨_, rfl, rfl, ?_, q⟩ (by decide) (by decide)
    rw [apA, if_pos (by omega), hw]
  · exact ap_loop hS hf hw hF hB (by omega) F.length 0 (by omega) rfl
theorem nm_loop (hF20 : f + 2 < a ∨ a + 127 < f) (hfb : f + 2 < bk ∨ bk + 2 < f) (hab : bk + 2 < a ∨ a + 127 < bk) {v : List (Int64 × Int) × Nat × (Nat → Int) × (Nat → Int)} : ∀ (R P : List (Int64 × Int)) (n : Nat) (au og : Nat → Int) (σ : Sto), ((P ++ (nmL F w R n au og).1, (nmL F w R n au og).2) : List (Int64 × Int) × Nat × (Nat → Int) × (Nat → Int)) = v → n + noN R ≤ 10240 → sK σ a = 4 → fR σ 192 a = some (a + 1) → fR σ 198 a = some f → fI σ 203 a = w → Tx σ f F → Tx σ (a + 1) (P ++ R) → Bk σ bk n au og → Keep σ0 σ (fun q => In (a + 1) (a + 4) q ∨ In bk (bk + 3) q) →
    Aw Ω M_Drf_namePutIn rm_Drf_namePutIn (MF Ω rm_Drf_namePutIn (RV fun σ' => Tx σ' (a + 1) v.1 ∧ Bk σ' bk v.2.1 v.2.2.1 v.2.2.2 ∧ Keep σ0 σ' (fun q => In (a + 1) (a + 4) q ∨ In bk (bk + 3) q)) XN) 0 0 2 [xr (some a), xr (some bk), xi P.length] [] σ := by
  intro R
  induction R with
  | nil =>
    intro P n au og σ hv hn h1 f0 f6 hw hF hX hB hk
    have hl := hX.2.2.2.2.2.2.2.2.2.1
    rw [List.append_nil] at hX hl
    refine b_Drf_namePutIn_2 ⟨h1, _, f0, ?_⟩
    refine c_Drf_namePutIn_7 (k_Txt_size hX) hX.2.1 (by decide) (by decide) (by first | decide | omega) (by first | decide | omega) (Nat.le_of_ble_eq_true rfl) (fun z σ1 hq => ?_) (fun _ _ hx => hx.elim)
    obtain ⟨rfl, rfl⟩ := hq
    refine b_Drf_namePutIn_10 ⟨by omega, by omega, fun _ => ?_, fun c => absurd (Int.le_refl _) c⟩
    rw [← hv, nmL]
    refine r_Drf_namePutIn_57 ⟨rfl, ?_, hB, hk⟩ (by decide) (by decide)
    show Tx σ1 (a + 1) (P ++ []); rw [List.append_nil]; exact hX
  | cons x R ih =>
    intro P n au og σ hv hn h1 f0 f6 hw hF hX hB hk
    have hl := hX.2.2.2.2.2.2.2.2.2.1
    have hlen : (P ++ x :: R).length = P.length + (R.length + 1) := by rw [List.length_append, List.length_cons]
    rw [hlen] at hl
    have eg : (P ++ x :: R)[P.length]? = some x := by rw [List.getElem?_append_right (Nat.le_refl _), Nat.sub_self]; rfl
    have e2 : nmA (P ++ x :: R) (P.length : Int) = x.2 := nmA_some (by omega) eg
    have e1 : lnA (P ++ x :: R) (P.length : Int) = x.1 := lnA_some (by omega) eg
    refine b_Drf_namePutIn_2 ⟨h1, _, f0, ?_⟩
    refine c_Drf_namePutIn_7 (k_Txt_size hX) hX.2.1 (by decide) (by decide) (by first | decide | omega) (by first | decide | omega) (Nat.le_of_ble_eq_true rfl) (fun z σ1 hq => ?_) (fun _ _ hx => hx.elim)
    obtain ⟨rfl, rfl⟩ := hq
    refine b_Drf_namePutIn_10 ⟨by omega, by rw [hlen]; omega, fun c => absurd c (by rw [hlen]; omega), fun _ => ⟨h1, _, f0, ?_⟩⟩
    refine c_Drf_namePutIn_18 (k_Txt_nameAt hX (by omega)) hX.2.1 (by decide) (by decide) (by first | decide | omega) (by first | decide | omega) (Nat.le_of_ble_eq_true rfl) (fun z σ2 hq => ?_) (fun _ _ hx => hx.elim)
    obtain ⟨rfl, e3, q3⟩ := hq
    rw [e3, e2]
    rw [e3, e2] at q3
    have eP : ∀ y : Int64 × Int, (P ++ [y]).length = P.length + 1 := fun y => by rw [List.length_append]; rfl
    refine b_Drf_namePutIn_21 ⟨q3, fun c => ?_, fun c => ⟨h1, _, f0, ?_⟩⟩
    · rw [nmL, if_neg c] at hv
      rw [noN, if_neg c] at hn
      have := ih (P ++ [x]) n au og σ2 (by rw [List.append_assoc]; exact hv) hn h1 f0 f6 hw hF (by rw [List.append_assoc]; exact hX) hB hk
      rw [eP] at this
      exact this
    · rw [nmL, if_pos c] at hv
      rw [noN, if_pos c] at hn
      refine c_Drf_namePutIn_38 (k_Txt_lineAt hX (by omega)) hX.2.1 (by decide) (by decide) (by first | decide | omega) (by first | decide | omega) (Nat.le_of_ble_eq_true rfl) (fun z σ3 hq => ?_) (fun _ _ hx => hx.elim)
      obtain ⟨rfl, rfl⟩ := hq
      rw [e1]
      refine c_Drf_namePutIn_41 (k_Drf_authorOfPutIn h1 f6 hw hF hB) h1 (by decide) (by decide) (by first | decide | omega) (by first | decide | omega) (Nat.le_of_ble_eq_true rfl) (fun y σ4 hq => ?_) (fun _ _ hx => hx.elim)
      obtain ⟨rfl, e4, q4⟩ := hq
      rw [e4]
      rw [e4] at q4
      refine b_Drf_namePutIn_44 ?_
      refine c_Drf_namePutIn_45 (k_Lbk_enter hB (by omega) q4 (by decide)) hB.2.1 (by decide) (by decide) (by first | decide | omega) (by first | decide | omega) (Nat.le_of_ble_eq_true rfl) (fun y σ5 hq => ?_) (fun _ _ hx => hx.elim)
      obtain ⟨rfl, hB5, hk5⟩ := hq
      have hX5 := hX.keep hk5 (fun q q1 q2 q3 => by omega)
      have ga := hk5.2 a (by have := hX.1; omega) (by omega)
      refine c_Drf_namePutIn_48 (k_Txt_giveName hX5 (show (0 : Int) ≤ (P.length : Int) by omega) eg (by have := hB5.2.2.2.2.2.2.2.2.2.1; omega)) hX5.2.1 (by decide) (by decide) (by first | decide | omega) (by first | decide | omega) (Nat.le_of_ble_eq_true rfl) (fun σ6 hq => ?_) (fun _ _ hx => hx.elim)
      obtain ⟨hX6, hk6⟩ := hq
      have hB6 := hB5.keep hk6 (fun q q1 q2 q3 => by omega)
      have gb := hk6.2 a (by have := hX5.1; omega) (by omega)
      have hF6 := (hF.keep hk5 (fun q q1 q2 q3 => by omega)).keep hk6 (fun q q1 q2 q3 => by omega)
      have es : (P ++ x :: R).set ((P.length : Int)).toNat (x.1, (n : Int)) = (P ++ [(x.1, (n : Int))]) ++ R := by
        show (P ++ x :: R).set P.length _ = _
        rw [List.set_append_right _ _ (Nat.le_refl _), Nat.sub_self, List.append_assoc]; rfl
      rw [es] at hX6
      refine b_Drf_namePutIn_51 ?_
      have := ih (P ++ [(x.1, (n : Int))]) (n + 1) (up1 au n (apA F n au w x.1)) (up1 og n (-1)) σ6 (by rw [List.append_assoc]; exact hv) (by omega) (gb.1.trans (ga.1.trans h1)) ((gb.2.2.2.2.1 _).trans ((ga.2.2.2.2.1 _).trans f0)) ((gb.2.2.2.2.1 _).trans ((ga.2.2.2.2.1 _).trans f6)) ((gb.2.2.1 _).trans ((ga.2.2.1 _).trans hw)) hF6 hX6 hB6 (hk.trans ((hk5.mono (fun q _ h => Or.inr h)).trans (hk6.mono (fun q _ h => Or.inl h))))
      rw [eP] at this
      exact this
theorem k_Drf_namePutIn {σ : Sto} (hF20 : f + 2 < a ∨ a + 127 < f) (hfb : f + 2 < bk ∨ bk + 2 < f) (hab : bk + 2 < a ∨ a + 127 < bk) (hn : n + noN T ≤ 10240) (h1 : sK σ a = 4) (f0 : fR σ 192 a = some (a + 1)) (f6 : fR σ 198 a = some f) (hw : fI σ 203 a = w) (hF : Tx σ f F) (hX : Tx σ (a + 1) T) (hB : Bk σ bk n au og) : MC Ω M_Drf_namePutIn rm_Drf_namePutIn (RV fun σ' => Tx σ' (a + 1) (nmL F w T n au og).1 ∧ Bk σ' bk (nmL F w T n au og).2.1 (nmL F w T n au og).2.2.1 (nmL F w T n au og).2.2.2 ∧ Keep σ σ' (fun q => In (a + 1) (a + 4) q ∨ In bk (bk + 3) q)) XN σ [xr (some a), xr (some bk)] :=
  e_Drf_namePutIn (b_Drf_namePutIn_0 (nm_loop hF20 hfb hab (v := nmL F w T n au og) T [] n au og σ rfl hn h1 f0 f6 hw hF hX hB Keep.rf))
theorem k_Drf_nameRewritten {σ : Sto} {p o : Int} {x : Int64 × Int} (hab : bk + 2 < a ∨ a + 127 < bk) (h1 : sK σ a = 4) (f0 : fR σ 192 a = some (a + 1)) (hw : fI σ 203 a = w) (hX : Tx σ (a + 1) T) (hB : Bk σ bk n au og) (hn : n < 10240) (hp : 0 ≤ p) (hx : T[p.toNat]? = some x) (ho : Q32 o) : MC Ω M_Drf_nameRewritten rm_Drf_nameRewritten (RV fun σ' => (x.2 ≠ -1 → σ' = σ) ∧ (x.2 = -1 → Tx σ' (a + 1) (T.set p.toNat (x.1, (n : Int))) ∧ Bk σ' bk (n + 1) (up1 au n w) (up1 og n o) ∧ Keep σ σ' (fun q => In (a + 1) (a + 4) q ∨ In bk (bk + 3) q))) XN σ [xr (some a), xr (some bk), xi p, xi o] := by
  have hl := hX.2.2.2.2.2.2.2.2.2.1
  have hpl := (List.getElem?_eq_some_iff.mp hx).1
  refine e_Drf_nameRewritten (b_Drf_nameRewritten_0 ⟨h1, _, f0, ?_⟩)
  refine c_Drf_nameRewritten_5 (k_Txt_nameAt hX (by omega)) hX.2.1 (by decide) (by decide) (by first | decide | omega) (by first | decide | omega) (Nat.le_of_ble_eq_true rfl) (fun z σ1 hq => ?_) (fun _ _ hx => hx.elim)
  obtain ⟨rfl, e3, q3⟩ := hq
  rw [nmA_some hp hx] at e3
  rw [e3]
  rw [e3] at q3
  refine b_Drf_nameRewritten_8 ⟨q3, fun c => ?_, fun c => ⟨h1, _, f0, fun qw => ?_⟩⟩
  · exact r_Drf_nameRewritten_29 ⟨rfl, fun _ => rfl, fun z => absurd z c⟩ (by decide) (by decide)
  · rw [hw] at qw ⊢
    refine c_Drf_nameRewritten_23 (k_Lbk_enter hB hn qw ho) hB.2.1 (by decide) (by decide) (by first | decide | omega) (by first | decide | omega) (Nat.le_of_ble_eq_true rfl) (fun y σ5 hq => ?_) (fun _ _ hx => hx.elim)
    obtain ⟨rfl, hB5, hk5⟩ := hq
    have hX5 := hX.keep hk5 (fun q q1 q2 q3 => by omega)
    refine c_Drf_nameRewritten_26 (k_Txt_giveName hX5 hp hx (by omega)) hX5.2.1 (by decide) (by decide) (by first | decide | omega) (by first | decide | omega) (Nat.le_of_ble_eq_true rfl) (fun σ6 hq => ?_) (fun _ _ hx => hx.elim)
    obtain ⟨hX6, hk6⟩ := hq
    refine r_Drf_nameRewritten_29 ⟨rfl, fun z => absurd c z, fun _ => ⟨hX6, hB5.keep hk6 (fun q q1 q2 q3 => by omega), (hk5.mono (fun q _ h => Or.inr h)).trans (hk6.mono (fun q _ h => Or.inl h))⟩⟩ (by decide) (by decide)
end DRU
