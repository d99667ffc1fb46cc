/-! BY HAND: Draft, how conflicts are settled -/
def setPl (c : Cnl) (p : Int) : Cnl := (c.1, c.2.1, c.2.2.1, p, c.2.2.2.2)
def setSe (c : Cnl) (s : Int) : Cnl := (c.1, c.2.1, c.2.2.1, c.2.2.2.1, s)
/-- places behind a piece, up to one, moved -/
def psj (cl : List Cnl) (i : Nat) (n : Int) (j : Nat) : List Cnl := cl.mapIdx (fun q c => if i < q ∧ q < j then setPl c (cnP c + n) else c)
def psh (cl : List Cnl) (i : Nat) (n : Int) : List Cnl := psj cl i n cl.length
theorem psj_get (cl : List Cnl) (i : Nat) (n : Int) (j q : Nat) : (psj cl i n j)[q]? = (cl[q]?).map (fun c => if i < q ∧ q < j then setPl c (cnP c + n) else c) := by
  unfold psj; rw [List.getElem?_mapIdx]
theorem psj_len (cl : List Cnl) (i : Nat) (n : Int) (j : Nat) : (psj cl i n j).length = cl.length := by unfold psj; rw [List.length_mapIdx]
theorem psh_len (cl : List Cnl) (i : Nat) (n : Int) : (psh cl i n).length = cl.length := psj_len _ _ _ _
theorem psj_0 (cl : List Cnl) (i : Nat) (n : Int) : psj cl i n (i + 1) = cl := by
  refine List.ext_getElem? (fun q => ?_)
  rw [psj_get]
  cases h : cl[q]? with
  | none => rfl
  | some c => rw [Option.map_some, if_neg (by omega)]
theorem psj_succ (cl : List Cnl) (i : Nat) (n : Int) (j : Nat) {c : Cnl} (hi : i < j) (hc : cl[j]? = some c) : psj cl i n (j + 1) = (psj cl i n j).set j (setPl c (cnP c + n)) := by
  have hl := (List.getElem?_eq_some_iff.mp hc).1
  refine List.ext_getElem? (fun q => ?_)
  rw [psj_get, List.getElem?_set, psj_get, psj_len]
  by_cases e : j = q
  · subst e
    rw [if_pos rfl, if_pos hl, hc, Option.map_some, if_pos ⟨hi, Nat.lt_succ_self _⟩]
  · rw [if_neg e]
    cases h : cl[q]? with
    | none => rfl
    | some c' =>
      rw [Option.map_some, Option.map_some]
      by_cases e2 : i < q ∧ q < j
      · rw [if_pos (by omega), if_pos e2]
      · rw [if_neg (by omega), if_neg e2]
/-- author and versions stay -/
abbrev Au3 (σ σ' : Sto) (a : Nat) : Prop := fI σ' 203 a = fI σ 203 a ∧ fI σ' 204 a = fI σ 204 a ∧ fI σ' 205 a = fI σ 205 a
theorem Keep.au3 {σ σ' : Sto} {a : Nat} {P : Nat → Prop} (k : Keep σ σ' P) (ha : a < sN σ) (d : ¬ P a) : Au3 σ σ' a := ⟨(k.2 a ha d).2.2.1 _, (k.2 a ha d).2.2.1 _, (k.2 a ha d).2.2.1 _⟩
theorem Au3.trans {σ σ1 σ2 : Sto} {a : Nat} (h : Au3 σ σ1 a) (g : Au3 σ1 σ2 a) : Au3 σ σ2 a := ⟨g.1.trans h.1, g.2.1.trans h.2.1, g.2.2.trans h.2.2⟩
section DRQ
variable {Ω : Om} {σ0 : Sto} {a f s b q : Nat} {T F S B : List (Int64 × Int)} {cl : List Cnl} {c : Cnl} {n : Int}
theorem Cf.pl {σ : Sto} {p : Int} (h : CfV σ q c) : CfV (uI σ 130 q p) q (setPl c p) := by
  obtain ⟨h1, h2, g3, h4, h5, h6, h7, h8, h9, h10, h11⟩ := h
  refine ⟨h1, h2, g3, h4, h5, h6, h7, h8, ?_, ?_, fun i hi => h11 i hi⟩
  · rw [fI_uI, if_pos ⟨rfl, rfl⟩]; rfl
  · rw [fI_uI, if_neg (by omega)]; exact h10
theorem Cf.se {σ : Sto} {p : Int} (h : CfV σ q c) : CfV (uI σ 131 q p) q (setSe c p) := by
  obtain ⟨h1, h2, g3, h4, h5, h6, h7, h8, h9, h10, h11⟩ := h
  refine ⟨h1, h2, g3, h4, h5, h6, h7, h8, ?_, ?_, fun i hi => h11 i hi⟩
  · rw [fI_uI, if_neg (by omega)]; exact h9
  · rw [fI_uI, if_pos ⟨rfl, rfl⟩]; rfl
theorem DrC.upd {σ σ' : Sto} {j : Nat} {c' : Cnl} {P : Nat → Prop} (h : DrC σ a cl) (hj : j < cl.length) (k : Keep σ σ' P) (hn : a + 127 < sN σ) (d0 : ¬ P a) (dj : ∀ b, a + 65 ≤ b → b ≤ a + 127 → ¬ (a + 65 + 3 * j ≤ b ∧ b ≤ a + 67 + 3 * j) → ¬ P b) (hc : CfV σ' (a + 65 + 3 * j) c') : DrC σ' a (cl.set j c') := by
  obtain ⟨h1, h2, h3⟩ := h
  have e0 := k.2 a (by omega) d0
  refine ⟨by rw [List.length_set]; exact (e0.2.2.1 _).trans h1, by rw [List.length_set]; exact h2, fun i hi => ?_⟩
  by_cases e : i = j
  · subst e
    refine ⟨c', hc, fun c'' hc'' => ?_⟩
    rw [List.getElem?_set, if_pos rfl, if_pos hj] at hc''
    exact (Option.some.inj hc'').symm
  · obtain ⟨c0, g1, g2⟩ := h3 i hi
    refine ⟨c0, Cf.keep g1 k (fun x h1 h2 => dj x (by omega) (by omega) (by omega)), fun c'' hc'' => ?_⟩
    rw [List.getElem?_set, if_neg (fun z => e z.symm)] at hc''
    exact g2 _ hc''
theorem push_loop {i : Nat} (hi : i < cl.length) (hn : -1000 ≤ n ∧ n ≤ 1000) (hb : ∀ c ∈ cl, -100000 ≤ cnP c ∧ cnP c ≤ 100000) : ∀ (d j : Nat) (σ : Sto), j + d = cl.length → i < j → DrS σ a → DrC σ a (psj cl i n j) → Keep σ0 σ (In (a + 65) (a + 128)) → Shp σ0 σ → Aw Ω M_Drf_pushBehind rm_Drf_pushBehind (MF Ω rm_Drf_pushBehind (RV fun σ' => DrS σ' a ∧ DrC σ' a (psh cl i n) ∧ Keep σ0 σ' (In (a + 65) (a + 128)) ∧ Shp σ0 σ') XN) 0 0 4 [xr (some a), xi i, xi n, xi j] [] σ := by
  intro d
  induction d with
  | zero =>
    intro j σ hd hij hS hC hk hs
    have e : j = cl.length := by omega
    subst e
    have c1 := hC.1
    rw [psj_len] at c1
    refine b_Drf_pushBehind_4 ⟨hS.2.1, fun _ => ⟨by have := hC.2.1; rw [psj_len] at this; omega, fun _ => ?_, fun c => absurd (by omega) c⟩⟩
    exact r_Drf_pushBehind_33 ⟨rfl, hS, hC, hk, hs⟩ (by decide) (by decide)
  | succ d ih =>
    intro j σ hd hij hS hC hk hs
    obtain ⟨h0, h1, f0, f1, f2, f3, f4, f5, k1, z1, r1, c1, c2⟩ := id hS
    have hl := hC.2.1
    have l1 := hC.1
    rw [psj_len] at hl l1
    have hc : cl[j]? = some (cl[j]'(by omega)) := List.getElem?_eq_getElem (by omega)
    have hc2 : (psj cl i n j)[j]? = some (cl[j]'(by omega)) := by rw [psj_get, hc, Option.map_some, if_neg (by omega)]
    have hv := hC.at hc2
    have hb1 := hb _ (List.mem_of_getElem? hc)
    have e9 : fI σ 130 (a + 65 + 3 * j) = cnP (cl[j]'(by omega)) := hv.2.2.2.2.2.2.2.2.2.1
    have rj : aR σ (a + 5) ((j : Int)).toNat = some (a + 65 + 3 * j) := r1 j (by omega)
    refine b_Drf_pushBehind_4 ⟨h1, fun _ => ⟨by omega, fun c => absurd c (by omega), fun _ => ⟨_, f2, k1, by omega, by omega, _, rj, hv.2.2.1, fun _ => ⟨_, rj, hv.2.2.1, by omega, ?_⟩⟩⟩⟩
    rw [e9]
    have kk : Keep σ (uI σ 130 (a + 65 + 3 * j) (cnP (cl[j]'(by omega)) + n)) (In (a + 65 + 3 * j) (a + 68 + 3 * j)) := Keep.uI (by omega)
    refine ih (j + 1) _ (by omega) (by omega) (hS.shp Shp.uI) ?_ (hk.trans (kk.mono (fun q _ h => by omega))) (hs.trans Shp.uI)
    rw [psj_succ cl i n j hij hc]
    exact hC.upd (by rw [psj_len]; omega) kk h0 (by omega) (fun b b1 b2 b3 b4 => b3 (by omega)) (Cf.pl hv.2)
theorem k_Drf_pushBehind {σ : Sto} {i : Nat} (hS : DrS σ a) (hC : DrC σ a cl) (hi : i < cl.length) (hn : -1000 ≤ n ∧ n ≤ 1000) (hb : ∀ c ∈ cl, -100000 ≤ cnP c ∧ cnP c ≤ 100000) : MC Ω M_Drf_pushBehind rm_Drf_pushBehind (RV fun σ' => DrS σ' a ∧ DrC σ' a (psh cl i n) ∧ Keep σ σ' (In (a + 65) (a + 128)) ∧ Shp σ σ') XN σ [xr (some a), xi i, xi n] := by
  refine e_Drf_pushBehind (b_Drf_pushBehind_0 ?_)
  exact push_loop hi hn hb (cl.length - (i + 1)) (i + 1) σ (by omega) (Nat.lt_succ_self _) hS (by rw [psj_0]; exact hC) Keep.rf Shp.rf
/-- the text with a conflict's pieces put in -/
def stT (F S B T : List (Int64 × Int)) (c : Cnl) (how : Int) : List (Int64 × Int) :=
  if how = 3 then T.take (cnP c).toNat ++ (slice F (cnF c 0) (cnT c 0) ++ slice S (cnF c 1) (cnT c 1)) ++ T.drop (cnP c).toNat
  else if how = 4 then T.take (cnP c).toNat ++ (slice S (cnF c 1) (cnT c 1) ++ slice F (cnF c 0) (cnT c 0)) ++ T.drop (cnP c).toNat
  else T.take (cnP c).toNat ++ slice (t3 F S B how.toNat) (cnF c how.toNat) (cnT c how.toNat) ++ T.drop (cnP c).toNat
def stC (cl : List Cnl) (i : Nat) (c : Cnl) (how : Int) : List Cnl := psh (cl.set i (setSe c 1)) i (cnL c how)
theorem cnL_se (c : Cnl) (x how : Int) : cnL (setSe c x) how = cnL c how := rfl
theorem cnL_b {how : Int} (hb : CnB c F S B) (lF : F.length ≤ 20) (lS : S.length ≤ 20) (lB : B.length ≤ 20) (hh : 0 ≤ how ∧ how ≤ 4) : 0 ≤ cnL c how ∧ cnL c how ≤ 40 := by
  have b0 := hb.at 0
  have b1 := hb.at 1
  have b2 := hb.at 2
  have l0 : (t3 F S B 0).length = F.length := rfl
  have l1 : (t3 F S B 1).length = S.length := rfl
  have l2 : (t3 F S B 2).length = B.length := rfl
  have z0 : cnZ c 0 = cnT c 0 - cnF c 0 := if_pos (by decide)
  have z1 : cnZ c 1 = cnT c 1 - cnF c 1 := if_pos (by decide)
  have z2 : cnZ c 2 = cnT c 2 - cnF c 2 := if_pos (by decide)
  unfold cnL
  split
  · omega
  · have hc : how = 0 ∨ how = 1 ∨ how = 2 := by omega
    rcases hc with rfl | rfl | rfl <;> omega
/-- behind the pieces: the flag, the count, the places -/
theorem settle_end {σ : Sto} {i oc : Nat} {how : Int} {k n' : Nat} {T' : List (Int64 × Int)} {σ1 : Sto} (hk0 : k ≤ 0) (hn0 : n' ≤ 0) (hS : DrS σ a) (hT : DrT σ a f s b) (hC : DrC σ a cl) (hi : cl[i]? = some c) (ho : fI σ 202 a = oc) (hoc : 1 ≤ oc ∧ oc ≤ 21) (hX : Tx σ (a + 1) T') (hb : CnB c F S B) (lF : F.length ≤ 20) (lS : S.length ≤ 20) (lB : B.length ≤ 20) (hh : 0 ≤ how ∧ how ≤ 4) (hp : ∀ c ∈ cl, -100000 ≤ cnP c ∧ cnP c ≤ 100000) (hkk : Keep σ0 σ (WP a)) (ha3 : Au3 σ0 σ a) (hσ1 : σ1 = uI (uI σ 131 (a + 65 + 3 * i) 1) 202 a ((oc : Int) - 1)) {L : List PV} :
    Aw Ω M_Drf_settleBy rm_Drf_settleBy (MF Ω rm_Drf_settleBy (RV fun σ' => DrS σ' a ∧ DrT σ' a f s b ∧ DrC σ' a (stC cl i c how) ∧ fI σ' 202 a = (oc : Int) - 1 ∧ Tx σ' (a + 1) T' ∧ Keep σ0 σ' (WP a) ∧ Au3 σ0 σ' a) XN) k n' 106 L [xi how, xi i, xr (some a), xi i, xr (some a)] σ1 := by
  have hil := (List.getElem?_eq_some_iff.mp hi).1
  have hv := hC.at hi
  have h0 := hS.1
  have k1 : Keep σ σ1 (fun q => q = a ∨ q = a + 65 + 3 * i) := by rw [hσ1]; exact (Keep.uI (Or.inr rfl)).trans (Keep.uI (Or.inl rfl))
  have s1 : Shp σ σ1 := by rw [hσ1]; exact Shp.uI.trans Shp.uI
  have hS1 := hS.shp s1
  have hT1 : DrT σ1 a f s b := by rw [hσ1]; exact hT
  have c1 : CfV σ1 (a + 65 + 3 * i) (setSe c 1) := by
    rw [hσ1]
    refine Cf.keep (Cf.se hv.2) (Keep.uI (P := At1 a) rfl) (fun q h1 h2 h3 => by omega)
  have hC1 : DrC σ1 a (cl.set i (setSe c 1)) := by
    obtain ⟨g1, g2, g3⟩ := hC
    refine ⟨?_, by rw [List.length_set]; exact g2, fun j hj => ?_⟩
    · rw [List.length_set, hσ1, fI_uI, if_neg (by omega), fI_uI, if_neg (by omega)]; exact g1
    · by_cases e : j = i
      · subst e
        refine ⟨_, c1, fun c'' hc'' => ?_⟩
        rw [List.getElem?_set, if_pos rfl, if_pos hil] at hc''
        exact (Option.some.inj hc'').symm
      · obtain ⟨c0, q1, q2⟩ := g3 j hj
        refine ⟨c0, Cf.keep q1 k1 (fun x h1 h2 h3 => by omega), fun c'' hc'' => ?_⟩
        rw [List.getElem?_set, if_neg (fun z => e z.symm)] at hc''
        exact q2 _ hc''
  have ho1 : fI σ1 202 a = (oc : Int) - 1 := by rw [hσ1, fI_uI, if_pos ⟨rfl, rfl⟩]
  have hX1 := hX.keep k1 (fun q h1 h2 h3 => by omega)
  have hi1 : (cl.set i (setSe c 1))[i]? = some (setSe c 1) := by rw [List.getElem?_set, if_pos rfl, if_pos hil]
  have hbl := cnL_b (how := how) hb lF lS lB hh
  refine c_Drf_settleBy_106 (k_Drf_linesPut hS1 hC1 hi1 (by omega)) hS1.2.1 (by decide) (by decide) (by simp only [rm_Drf_linesPut, rm_Drf_pushBehind, rm_Drf_putPiece, rm_Drf_settleBy]; omega) (by simp only [rm_Drf_linesPut, rm_Drf_pushBehind, rm_Drf_putPiece, rm_Drf_settleBy]; omega) (Nat.le_of_ble_eq_true rfl) (fun z σ2 hq => ?_) (fun _ _ hx => hx.elim)
  obtain ⟨rfl, rfl⟩ := hq
  rw [cnL_se]
  have hp1 : ∀ c' ∈ cl.set i (setSe c 1), -100000 ≤ cnP c' ∧ cnP c' ≤ 100000 := fun c' hc' => by
    rcases List.mem_or_eq_of_mem_set hc' with h | h
    · exact hp c' h
    · rw [h]; exact hp c (List.mem_of_getElem? hi)
  refine c_Drf_settleBy_109 (k_Drf_pushBehind hS1 hC1 (by rw [List.length_set]; exact hil) (n := cnL c how) (by omega) hp1) hS1.2.1 (by decide) (by decide) (by simp only [rm_Drf_linesPut, rm_Drf_pushBehind, rm_Drf_putPiece, rm_Drf_settleBy]; omega) (by simp only [rm_Drf_linesPut, rm_Drf_pushBehind, rm_Drf_putPiece, rm_Drf_settleBy]; omega) (Nat.le_of_ble_eq_true rfl) (fun σ3 hq => ?_) (fun _ _ hx => hx.elim)
  obtain ⟨hS3, hC3, hk3, hs3⟩ := hq
  refine r_Drf_settleBy_112 ⟨rfl, hS3, hT1.keep hk3 (by have := hS1.1; omega) (by omega), hC3, ?_, hX1.keep hk3 (fun q h1 h2 h3 => by omega), ?_, ?_⟩ (show _ + 0 + 0 ≤ 0 by omega) (show _ + 0 + 0 ≤ 0 by omega)
  · exact ((hk3.2 a (by have := hS1.1; omega) (by omega)).2.2.1 _).trans ho1
  · have hi21 := hv.1
    exact hkk.trans ((k1.mono (fun q _ h => by omega)).trans (hk3.mono (fun q _ h => by omega)))
  · refine ha3.trans (Au3.trans (σ1 := σ2) ?_ (hk3.au3 (by have := hS1.1; omega) (by omega)))
    rw [hσ1]
    refine ⟨?_, ?_, ?_⟩ <;> rw [fI_uI, if_neg (by omega), fI_uI, if_neg (by omega)]
theorem k_Drf_settleBy {σ : Sto} {i oc : Nat} {how : Int} (hS : DrS σ a) (hT : DrT σ a f s b) (hC : DrC σ a cl) (hi : cl[i]? = some c) (hse : cnS c = 0) (ho : fI σ 202 a = oc) (hoc : 1 ≤ oc ∧ oc ≤ 21) (h3 : Tx3 σ f s b F S B) (hX : Tx σ (a + 1) T) (hb : CnB c F S B) (hpc : 0 ≤ cnP c ∧ cnP c ≤ T.length) (hl : T.length + cnL c how ≤ 40) (lF : F.length ≤ 20) (lS : S.length ≤ 20) (lB : B.length ≤ 20) (hh : 0 ≤ how ∧ how ≤ 4) (hp : ∀ c ∈ cl, -100000 ≤ cnP c ∧ cnP c ≤ 100000) (df : DO a f) (ds : DO a s) (db : DO a b) (hqF : ∀ x ∈ F, Q32 x.2) (hqS : ∀ x ∈ S, Q32 x.2) (hqB : ∀ x ∈ B, Q32 x.2) :
    MC Ω M_Drf_settleBy rm_Drf_settleBy (RV fun σ' => DrS σ' a ∧ DrT σ' a f s b ∧ DrC σ' a (stC cl i c how) ∧ fI σ' 202 a = (oc : Int) - 1 ∧ Tx σ' (a + 1) (stT F S B T c how) ∧ Keep σ σ' (WP a) ∧ Au3 σ σ' a) XN σ [xr (some a), xi i, xi how] := by
  obtain ⟨h0, h1, f0, f1, f2, f3, f4, f5, k1, z1, r1, c1, c2⟩ := id hS
  have hv := hC.at hi
  have ri : aR σ (a + 5) ((i : Int)).toNat = some (a + 65 + 3 * i) := r1 i hv.1
  have e9 : fI σ 130 (a + 65 + 3 * i) = cnP c := hv.2.2.2.2.2.2.2.2.2.1
  have ep : cnP c = ((cnP c).toNat : Nat) := by omega
  have b0 := hb.at 0
  have b1 := hb.at 1
  have hq3 : ∀ j, ∀ x ∈ t3 F S B j, Q32 x.2 := fun j => by
    unfold t3
    split
    · exact hqF
    · split
      · exact hqS
      · exact hqB
  have z0 : cnZ c 0 = cnT c 0 - cnF c 0 := if_pos (by decide)
  have z1' : cnZ c 1 = cnT c 1 - cnF c 1 := if_pos (by decide)
  refine e_Drf_settleBy (b_Drf_settleBy_0 ?_)
  refine c_Drf_settleBy_2 (k_Drf_isSettled hS hC hi) h1 (by decide) (by decide) (by first | decide | omega) (by first | decide | omega) (Nat.le_of_ble_eq_true rfl) (fun z σ1 hq => ?_) (fun _ _ hx => hx.elim)
  obtain ⟨rfl, hz⟩ := hq
  rcases hz with ⟨rfl, hz⟩ | ⟨rfl, hz⟩
  · exact absurd hse hz
  refine b_Drf_settleBy_5 ⟨by decide, fun _ => ⟨h1, _, f2, k1, by omega, by omega, by omega, fun n3 => ⟨fun n4 => ⟨fun c => absurd c (by omega), fun _ => ⟨fun c => absurd c (by omega), fun _ => ⟨_, ri, hv.2.2.1, fun _ => ?_⟩⟩⟩, fun e4 => ⟨_, ri, hv.2.2.1, fun _ => ?_⟩⟩, fun e3 => ⟨_, ri, hv.2.2.1, fun _ => ?_⟩⟩, fun c => absurd rfl c⟩
  · have hc : how = ((how.toNat : Nat) : Int) := by omega
    have bj := hb.at how.toNat
    have hcl : cnL c how = cnT c how.toNat - cnF c how.toNat := by unfold cnL cnZ; rw [if_neg (by omega), if_pos (by omega)]
    rw [ri, e9, ep]
    have hhc : xi how = xi ((how.toNat : Nat) : Int) := congrArg xi hc
    have hst : stT F S B T c how = T.take (cnP c).toNat ++ slice (t3 F S B how.toNat) (cnF c how.toNat) (cnT c how.toNat) ++ T.drop (cnP c).toNat := by unfold stT; rw [if_neg n3, if_neg n4]
    rw [hst]
    have main : Aw Ω M_Drf_settleBy rm_Drf_settleBy (MF Ω rm_Drf_settleBy (RV fun σ' => DrS σ' a ∧ DrT σ' a f s b ∧ DrC σ' a (stC cl i c how) ∧ fI σ' 202 a = (oc : Int) - 1 ∧ Tx σ' (a + 1) (T.take (cnP c).toNat ++ slice (t3 F S B how.toNat) (cnF c how.toNat) (cnT c how.toNat) ++ T.drop (cnP c).toNat) ∧ Keep σ1 σ' (WP a) ∧ Au3 σ1 σ' a) XN) (0 + 0) (0 + 0) 82 [xr (some a), xi i, xi how, xr (some (a + 65 + 3 * i))] [xi ((cnP c).toNat : Nat), xi ((how.toNat : Nat) : Int), xr (some (a + 65 + 3 * i)), xr (some a)] σ1 := by
      refine c_Drf_settleBy_82 (k_Drf_putPiece (i := how.toNat) hS hT h3 hX hv.2 hb (by omega) (by omega) (by omega) df ds db (hq3 _)) h1 (by decide) (by decide) (by simp only [rm_Drf_linesPut, rm_Drf_pushBehind, rm_Drf_putPiece, rm_Drf_settleBy]; omega) (by simp only [rm_Drf_linesPut, rm_Drf_pushBehind, rm_Drf_putPiece, rm_Drf_settleBy]; omega) (Nat.le_of_ble_eq_true rfl) (fun z2 σ2 hq => ?_) (fun _ _ hx => hx.elim)
      obtain ⟨rfl, hX2, hk2⟩ := hq
      have hv2 := Cf.keep hv.2 hk2 (fun q q1 q2 q3 => by omega)
      have hS2 := hS.keep hk2 (by omega) (fun q q1 q2 => by omega)
      have ho2 := ((hk2.2 a (by omega) (by omega)).2.2.1 _).trans ho
      have e2 : fI (uI σ2 131 (a + 65 + 3 * i) 1) 202 a = oc := by rw [fI_uI, if_neg (by omega)]; exact ho2
      refine b_Drf_settleBy_85 ⟨hv2.2.1, hS2.2.1, fun _ => ?_⟩
      rw [e2]
      exact ⟨by omega, settle_end (by decide) (by decide) hS2 (hT.keep hk2 (by omega) (by omega)) (hC.keep hk2 h0 (by omega) (fun q q1 q2 => by omega)) hi ho2 hoc hX2 hb lF lS lB hh hp (hk2.mono (fun q _ h => by omega)) (hk2.au3 (by omega) (by omega)) rfl⟩
    have := main
    rw [← hhc] at this
    exact this
  · subst e4
    rw [ri, e9, ep]
    have hcl : cnL c 4 = cnZ c 0 + cnZ c 1 := if_pos (Or.inr rfl)
    have hst : stT F S B T c 4 = T.take (cnP c).toNat ++ (slice S (cnF c 1) (cnT c 1) ++ slice F (cnF c 0) (cnT c 0)) ++ T.drop (cnP c).toNat := by unfold stT; rw [if_neg (by decide), if_pos rfl]
    rw [hst]
    refine c_Drf_settleBy_56 (k_Drf_putPiece (i := 1) hS hT h3 hX hv.2 hb (by decide) (by omega) (by omega) df ds db hqS) h1 (by decide) (by decide) (by first | decide | omega) (by first | decide | omega) (Nat.le_of_ble_eq_true rfl) (fun z2 σ2 hq => ?_) (fun _ _ hx => hx.elim)
    obtain ⟨rfl, hX2, hk2⟩ := hq
    have hv2 := Cf.keep hv.2 hk2 (fun q q1 q2 q3 => by omega)
    have hS2 := hS.keep hk2 (by omega) (fun q q1 q2 => by omega)
    have hT2 := hT.keep hk2 (by omega) (by omega)
    have h32 := h3.keep hk2 (fun q q1 q2 q3 => by omega) (fun q q1 q2 q3 => by omega) (fun q q1 q2 q3 => by omega)
    have ls : (slice S (cnF c 1) (cnT c 1)).length = (cnT c 1 - cnF c 1).toNat := slice_len b1.1 b1.2.1 b1.2.2
    have lx : (T.take (cnP c).toNat ++ slice S (cnF c 1) (cnT c 1)).length = (cnP c).toNat + (cnT c 1 - cnF c 1).toNat := by rw [List.length_append, List.length_take, ls]; omega
    have lx2 : (T.take (cnP c).toNat ++ slice S (cnF c 1) (cnT c 1) ++ T.drop (cnP c).toNat).length = T.length + (cnT c 1 - cnF c 1).toNat := by rw [List.length_append, lx, List.length_drop]; omega
    have ez : (((cnP c).toNat : Nat) : Int) + (cnT c 1 - cnF c 1) = (((cnP c).toNat + (cnT c 1 - cnF c 1).toNat : Nat) : Int) := by omega
    rw [ez]
    refine c_Drf_settleBy_59 (k_Drf_putPiece (i := 0) hS2 hT2 h32 hX2 hv2 hb (by decide) (by rw [show (t3 F S B 1) = S from rfl, lx2]; omega) (by rw [show (t3 F S B 1) = S from rfl, lx2]; omega) df ds db hqF) hS2.2.1 (by decide) (by decide) (by first | decide | omega) (by first | decide | omega) (Nat.le_of_ble_eq_true rfl) (fun z3 σ3 hq => ?_) (fun _ _ hx => hx.elim)
    obtain ⟨rfl, hX3, hk3⟩ := hq
    rw [show (t3 F S B 1) = S from rfl, show (t3 F S B 0) = F from rfl, ← lx, List.take_left, List.drop_left] at hX3
    have hv3 := Cf.keep hv2 hk3 (fun q q1 q2 q3 => by omega)
    have hS3 := hS2.keep hk3 (by omega) (fun q q1 q2 => by omega)
    have k13 := hk2.trans hk3
    have ho3 := ((k13.2 a (by omega) (by omega)).2.2.1 _).trans ho
    have e2 : fI (uI σ3 131 (a + 65 + 3 * i) 1) 202 a = oc := by rw [fI_uI, if_neg (by omega)]; exact ho3
    refine b_Drf_settleBy_62 ⟨hv3.2.1, hS3.2.1, fun _ => ?_⟩
    rw [e2]
    refine ⟨by omega, settle_end (by decide) (by decide) hS3 (hT2.keep hk3 (by have := hS2.1; omega) (by omega)) (hC.keep k13 h0 (by omega) (fun q q1 q2 => by omega)) hi ho3 hoc ?_ hb lF lS lB hh hp (k13.mono (fun q _ h => by omega)) (k13.au3 (by omega) (by omega)) rfl⟩
    rw [← List.append_assoc]; exact hX3
  · subst e3
    rw [ri, e9, ep]
    have hcl : cnL c 3 = cnZ c 0 + cnZ c 1 := if_pos (Or.inl rfl)
    have hst : stT F S B T c 3 = T.take (cnP c).toNat ++ (slice F (cnF c 0) (cnT c 0) ++ slice S (cnF c 1) (cnT c 1)) ++ T.drop (cnP c).toNat := by unfold stT; rw [if_pos rfl]
    rw [hst]
    refine c_Drf_settleBy_31 (k_Drf_putPiece (i := 0) hS hT h3 hX hv.2 hb (by decide) (by omega) (by omega) df ds db hqF) h1 (by decide) (by decide) (by first | decide | omega) (by first | decide | omega) (Nat.le_of_ble_eq_true rfl) (fun z2 σ2 hq => ?_) (fun _ _ hx => hx.elim)
    obtain ⟨rfl, hX2, hk2⟩ := hq
    have hv2 := Cf.keep hv.2 hk2 (fun q q1 q2 q3 => by omega)
    have hS2 := hS.keep hk2 (by omega) (fun q q1 q2 => by omega)
    have hT2 := hT.keep hk2 (by omega) (by omega)
    have h32 := h3.keep hk2 (fun q q1 q2 q3 => by omega) (fun q q1 q2 q3 => by omega) (fun q q1 q2 q3 => by omega)
    have ls : (slice F (cnF c 0) (cnT c 0)).length = (cnT c 0 - cnF c 0).toNat := slice_len b0.1 b0.2.1 b0.2.2
    have lx : (T.take (cnP c).toNat ++ slice F (cnF c 0) (cnT c 0)).length = (cnP c).toNat + (cnT c 0 - cnF c 0).toNat := by rw [List.length_append, List.length_take, ls]; omega
    have lx2 : (T.take (cnP c).toNat ++ slice F (cnF c 0) (cnT c 0) ++ T.drop (cnP c).toNat).length = T.length + (cnT c 0 - cnF c 0).toNat := by rw [List.length_append, lx, List.length_drop]; omega
    have ez : (((cnP c).toNat : Nat) : Int) + (cnT c 0 - cnF c 0) = (((cnP c).toNat + (cnT c 0 - cnF c 0).toNat : Nat) : Int) := by omega
    rw [ez]
    refine c_Drf_settleBy_34 (k_Drf_putPiece (i := 1) hS2 hT2 h32 hX2 hv2 hb (by decide) (by rw [show (t3 F S B 0) = F from rfl, lx2]; omega) (by rw [show (t3 F S B 0) = F from rfl, lx2]; omega) df ds db hqS) hS2.2.1 (by decide) (by decide) (by first | decide | omega) (by first | decide | omega) (Nat.le_of_ble_eq_true rfl) (fun z3 σ3 hq => ?_) (fun _ _ hx => hx.elim)
    obtain ⟨rfl, hX3, hk3⟩ := hq
    rw [show (t3 F S B 1) = S from rfl, show (t3 F S B 0) = F from rfl, ← lx, List.take_left, List.drop_left] at hX3
    have hv3 := Cf.keep hv2 hk3 (fun q q1 q2 q3 => by omega)
    have hS3 := hS2.keep hk3 (by omega) (fun q q1 q2 => by omega)
    have k13 := hk2.trans hk3
    have ho3 := ((k13.2 a (by omega) (by omega)).2.2.1 _).trans ho
    have e2 : fI (uI σ3 131 (a + 65 + 3 * i) 1) 202 a = oc := by rw [fI_uI, if_neg (by omega)]; exact ho3
    refine b_Drf_settleBy_37 ⟨hv3.2.1, hS3.2.1, fun _ => ?_⟩
    rw [e2]
    refine ⟨by omega, settle_end (by decide) (by decide) hS3 (hT2.keep hk3 (by have := hS2.1; omega) (by omega)) (hC.keep k13 h0 (by omega) (fun q q1 q2 => by omega)) hi ho3 hoc ?_ hb lF lS lB hh hp (k13.mono (fun q _ h => by omega)) (k13.au3 (by omega) (by omega)) rfl⟩
    rw [← List.append_assoc]; exact hX3
/-- a settlement undone -/
def roC (cl : List Cnl) (i : Nat) (c : Cnl) (how : Int) : List Cnl := psh (cl.set i (setSe c 0)) i (-cnL c how)
theorem k_Drf_reopen {σ : Sto} {i oc : Nat} {how : Int} (hS : DrS σ a) (hT : DrT σ a f s b) (hC : DrC σ a cl) (hi : cl[i]? = some c) (ho : fI σ 202 a = oc) (hoc : oc ≤ 21) (hX : Tx σ (a + 1) T) (hbl : 0 ≤ cnL c how ∧ cnL c how ≤ 40) (hh : 0 ≤ how ∧ how ≤ 4) (hp : ∀ c ∈ cl, -100000 ≤ cnP c ∧ cnP c ≤ 100000) :
    MC Ω M_Drf_reopen rm_Drf_reopen (RV fun σ' => DrS σ' a ∧ DrT σ' a f s b ∧ DrC σ' a (roC cl i c how) ∧ fI σ' 202 a = (oc : Int) + 1 ∧ Tx σ' (a + 1) T ∧ Keep σ σ' (WP a) ∧ Au3 σ σ' a) XN σ [xr (some a), xi i, xi how] := by
  obtain ⟨h0, h1, f0, f1, f2, f3, f4, f5, k1, z1, r1, c1, c2⟩ := id hS
  have hil := (List.getElem?_eq_some_iff.mp hi).1
  have hv := hC.at hi
  have ri : aR σ (a + 5) ((i : Int)).toNat = some (a + 65 + 3 * i) := r1 i hv.1
  have e2 : fI (uI σ 131 (a + 65 + 3 * i) 0) 202 a = oc := by rw [fI_uI, if_neg (by omega)]; exact ho
  refine e_Drf_reopen (b_Drf_reopen_0 ⟨by omega, fun c => absurd c (by omega), fun _ => ⟨h1, fun _ => ⟨fun _ => ⟨_, f2, k1, by omega, by omega, _, ri, hv.2.2.1, fun _ => ?_⟩, fun c => absurd (by rw [hC.1]; omega) c⟩⟩⟩)
  rw [e2]
  refine ⟨by omega, ?_⟩
  generalize hσ1 : uI (uI σ 131 (a + 65 + 3 * i) 0) 202 a ((oc : Int) + 1) = σ1
  have kk1 : Keep σ σ1 (fun q => q = a ∨ q = a + 65 + 3 * i) := by rw [← hσ1]; exact (Keep.uI (Or.inr rfl)).trans (Keep.uI (Or.inl rfl))
  have s1 : Shp σ σ1 := by rw [← hσ1]; exact Shp.uI.trans Shp.uI
  have hS1 := hS.shp s1
  have hT1 : DrT σ1 a f s b := by rw [← hσ1]; exact hT
  have cf1 : CfV σ1 (a + 65 + 3 * i) (setSe c 0) := by
    rw [← hσ1]
    refine Cf.keep (Cf.se hv.2) (Keep.uI (P := At1 a) rfl) (fun q h1 h2 h3 => by omega)
  have hC1 : DrC σ1 a (cl.set i (setSe c 0)) := by
    obtain ⟨g1, g2, g3⟩ := hC
    refine ⟨?_, by rw [List.length_set]; exact g2, fun j hj => ?_⟩
    · rw [List.length_set, ← hσ1, fI_uI, if_neg (by omega), fI_uI, if_neg (by omega)]; exact g1
    · by_cases e : j = i
      · subst e
        refine ⟨_, cf1, fun c'' hc'' => ?_⟩
        rw [List.getElem?_set, if_pos rfl, if_pos hil] at hc''
        exact (Option.some.inj hc'').symm
      · obtain ⟨c0, q1, q2⟩ := g3 j hj
        refine ⟨c0, Cf.keep q1 kk1 (fun x h1 h2 h3 => by omega), fun c'' hc'' => ?_⟩
        rw [List.getElem?_set, if_neg (fun z => e z.symm)] at hc''
        exact q2 _ hc''
  have ho1 : fI σ1 202 a = (oc : Int) + 1 := by rw [← hσ1, fI_uI, if_pos ⟨rfl, rfl⟩]
  have hX1 := hX.keep kk1 (fun q h1 h2 h3 => by omega)
  have hi1 : (cl.set i (setSe c 0))[i]? = some (setSe c 0) := by rw [List.getElem?_set, if_pos rfl, if_pos hil]
  refine c_Drf_reopen_38 (k_Drf_linesPut hS1 hC1 hi1 (how := how) (by omega)) hS1.2.1 (by decide) (by decide) (by first | decide | omega) (by first | decide | omega) (Nat.le_of_ble_eq_true rfl) (fun z σ2 hq => ?_) (fun _ _ hx => hx.elim)
  obtain ⟨rfl, rfl⟩ := hq
  rw [cnL_se]
  refine b_Drf_reopen_41 ?_
  have hp1 : ∀ c' ∈ cl.set i (setSe c 0), -100000 ≤ cnP c' ∧ cnP c' ≤ 100000 := fun c' hc' => by
    rcases List.mem_or_eq_of_mem_set hc' with h | h
    · exact hp c' h
    · rw [h]; exact hp c (List.mem_of_getElem? hi)
  refine c_Drf_reopen_42 (k_Drf_pushBehind hS1 hC1 (by rw [List.length_set]; exact hil) (n := -cnL c how) (by omega) hp1) hS1.2.1 (by decide) (by decide) (by first | decide | omega) (by first | decide | omega) (Nat.le_of_ble_eq_true rfl) (fun σ3 hq => ?_) (fun _ _ hx => hx.elim)
  obtain ⟨hS3, hC3, hk3, hs3⟩ := hq
  refine r_Drf_reopen_45 ⟨rfl, hS3, hT1.keep hk3 (by have := hS1.1; omega) (by omega), hC3, ?_, hX1.keep hk3 (fun q h1 h2 h3 => by omega), ?_, ?_⟩ (by decide) (by decide)
  · exact ((hk3.2 a (by have := hS1.1; omega) (by omega)).2.2.1 _).trans ho1
  · have hi21 := hv.1
    exact (kk1.mono (fun q _ h => by omega)).trans (hk3.mono (fun q _ h => by omega))
  · refine Au3.trans (σ1 := σ2) ?_ (hk3.au3 (by have := hS1.1; omega) (by omega))
    rw [← hσ1]
    refine ⟨?_, ?_, ?_⟩ <;> rw [fI_uI, if_neg (by omega), fI_uI, if_neg (by omega)]
end DRQ
