/-! BY HAND: trees of lines, by the reference: plant -/
section PLT
variable {Ω : Om} {m : Nat} {μ : Mu} {d : Nat → Nat} {n : Nat}
theorem isb_loop {σ0 : Sto} {v1 : Int} {o : Nat} {P : Prop} [Decidable P] (hn : n ≤ 20) (ho : o < n) (hA : ∀ j, j < n → mA μ 34 j = abN d j) : ∀ (f : Nat) (a : Int), a < f → -1 ≤ a → a < n → (P ↔ o ∈ anL (abN d) a) → Mw Ω σ0 m M_Mdl_isBelow rm_Mdl_isBelow (MQi Ω σ0 m rm_Mdl_isBelow (fun y μ' => y = bI P ∧ μ' = μ)) 7 [xr (some m), xi v1, xi o, xi a] [] μ := by
  have fin : ∀ a : Int, a < 0 → -1 ≤ a → (P ↔ o ∈ anL (abN d) a) → Mw Ω σ0 m M_Mdl_isBelow rm_Mdl_isBelow (MQi Ω σ0 m rm_Mdl_isBelow (fun y μ' => y = bI P ∧ μ' = μ)) 7 [xr (some m), xi v1, xi o, xi a] [] μ := by
    intro a h1 h2 h3
    have e : a = -1 := by omega
    subst e
    rw [anL_no h1] at h3
    exact B_isBelow_7 ⟨by decide, fun _ => ⟨fun _ => R_isBelow_37 (Or.inl rfl) ⟨(bI_f (fun z => by simpa using h3.mp z)).symm, rfl⟩, fun c => absurd rfl c⟩, fun c => absurd rfl c⟩
  intro f
  induction f with
  | zero => intro a h1 h2 _ h3; exact fin a h1 h2 h3
  | succ f ih =>
    intro a h1 h2 h2' h3
    by_cases c : a < 0
    · exact fin a c h2 h3
    · obtain ⟨j, rfl⟩ : ∃ j : Nat, a = j := ⟨a.toNat, by omega⟩
      have r := abN_r d j
      rw [anL_at (abN_r d), List.mem_cons] at h3
      refine B_isBelow_7 ⟨by omega, fun z => absurd z (by omega), fun _ => ⟨by omega, fun z => ?_, fun z => ?_⟩⟩
      · refine ⟨fun q => absurd q (by omega), fun _ => R_isBelow_37 (Or.inr rfl) ⟨(bI_t (h3.mpr (Or.inl (by omega)))).symm, rfl⟩⟩
      · have e := hA j (by omega)
        rw [Int.toNat_natCast, e]
        exact ⟨by omega, by omega, ih _ (by omega) r.1 (by omega) ⟨fun p => (h3.mp p).resolve_left (by omega), fun p => h3.mpr (Or.inr p)⟩⟩
theorem K_isBelow {k o : Nat} (hn : n ≤ 20) (hk : k < n) (ho : o < n) (hA : ∀ j, j < n → mA μ 34 j = abN d j) : MMi Ω m M_Mdl_isBelow rm_Mdl_isBelow (fun y μ' => y = bI (o ∈ anL (abN d) (abN d k)) ∧ μ' = μ) μ [xi k, xi o] := by
  refine E_isBelow fun σ0 => B_isBelow_0 ⟨by omega, by omega, ?_⟩
  have e := hA k hk
  have r := abN_r d k
  rw [Int.toNat_natCast, e]
  exact isb_loop hn ho hA k (abN d k) (by omega) r.1 (by omega) Iff.rfl
theorem dT_at {T : List (Int64 × Int)} {j : Nat} {y : Int64 × Int} (h : T[j]? = some y) : (T.map (·.1)).getD j 0 = y.1 := by
  rw [List.getD_eq_getElem?_getD, List.getElem?_map, h]; rfl
theorem pl_uq {ls : List Int64} {j j' e e' : Nat} (h1 : j < ls.length) (h2 : j' < ls.length) (g1 : En (dT ls) ls.length j e) (g2 : En (dT ls) ls.length j' e') (h : e - deN (dT ls) j = e' - deN (dT ls) j') : j = j' := by
  obtain ⟨L, _, c2, c3, c4⟩ := trT_num ls
  obtain ⟨p, p1⟩ := List.mem_iff_getElem?.mp (c4 j h1)
  obtain ⟨p', q1⟩ := List.mem_iff_getElem?.mp (c4 j' h2)
  obtain ⟨_, e1, a1, a2⟩ := c2 p j p1
  obtain ⟨_, e2, b1, b2⟩ := c2 p' j' q1
  have x1 := g1.uq a1
  have x2 := g2.uq b1
  have : p = p' := by omega
  rw [this] at p1
  rw [p1] at q1
  exact Option.some.inj q1
theorem pl_uqT {T : List (Int64 × Int)} {d : Nat → Nat} {j j' e e' : Nat} (hd : d = dT (T.map (·.1))) (h1 : j < T.length) (h2 : j' < T.length) (g1 : En d T.length j e) (g2 : En d T.length j' e') (h : e - deN d j = e' - deN d j') : j = j' := by
  have l : (T.map (·.1)).length = T.length := List.length_map ..
  rw [hd] at g1 g2 h
  rw [← l] at h1 h2 g1 g2
  exact pl_uq h1 h2 g1 g2 h
/-- a tree that is planted -/
def TrM (b : BR) (μ : Mu) (t : Nat) (ls : List Int64) : Prop := (∀ p : Nat, 1 ≤ p → p ≤ ls.length + 1 → mA μ 33 (22 * t + p) = (trK (trT ls) p : Nat) + 1) ∧ (∀ p : Nat, 1 ≤ p → p ≤ ls.length → 0 ≤ mA μ 32 (22 * t + p) ∧ mA μ 32 (22 * t + p) < bkN b ∧ isLn (bkS b (mA μ 32 (22 * t + p)).toNat) = true ∧ trL (trT ls) p = lUsh (bkS b (mA μ 32 (22 * t + p)).toNat) (8 * (dpL (bkS b (mA μ 32 (22 * t + p)).toNat) : Nat))) ∧ mA μ 32 (22 * t + (ls.length + 1)) = -1
theorem TrM.eq {b : BR} {μ' : Mu} {t : Nat} {ls : List Int64} (h : TrM b μ t ls) (e : ∀ p, p ≤ ls.length + 1 → mA μ' 32 (22 * t + p) = mA μ 32 (22 * t + p) ∧ mA μ' 33 (22 * t + p) = mA μ 33 (22 * t + p)) : TrM b μ' t ls := by
  refine ⟨fun p a c => by rw [(e p c).2]; exact h.1 p a c, fun p a c => by rw [(e p (by omega)).1]; exact h.2.1 p a c, by rw [(e _ (Nat.le_refl _)).1]; exact h.2.2⟩
end PLT
section PLM
variable {Ω : Om} {m : Nat} {μ : Mu} {S : St} {v : Int} {t : Nat} {T : List (Int64 × Int)}
abbrev PlF (μ μ' : Mu) : Prop := Fr [] [32, 33, 34] [] μ μ'
theorem PlF.scr {μ μ' : Mu} (h : PlF μ μ') : Scr μ μ' := h.mono (by decide) (by decide) (by decide)
theorem above_in {σ0 : Sto} {F : QF} (h : MdV S μ) (eT : T = vtx (sV S) v) (hN : Nm (sB S) T) (h20 : T.length ≤ 20) (v0 : isV S v) {k : Nat} (hk : k < T.length) (out : Mw Ω σ0 m M_Mdl_plant rm_Mdl_plant F 10 [xr (some m), xi t, xi v, xi T.length, xi ((k : Int) + 1), xu, xu, xu] [] (wA μ 34 k (abN (dT (T.map (·.1))) k))) : ∀ (f j : Nat), j + f = k → Mw Ω σ0 m M_Mdl_plant rm_Mdl_plant F 22 [xr (some m), xi t, xi v, xi T.length, xi k, xi (abG (dT (T.map (·.1))) k j), xi j, xu] [] μ := by
  have h40 := h.2.1.2.1
  have b12 := h.1.2.1
  intro f
  induction f with
  | zero =>
    intro j hj
    have e : j = k := by omega
    subst e
    have r := abN_r (dT (T.map (·.1))) j
    unfold abN at r
    refine B_plant_22 ⟨by omega, by omega, fun _ => ⟨by omega, by omega, by omega, ?_⟩, fun c => absurd (Int.le_refl _) c⟩
    rw [Int.toNat_natCast]
    exact out
  | succ f ih =>
    intro j hj
    obtain ⟨y, hy⟩ : ∃ y, T[j]? = some y := ⟨_, List.getElem?_eq_getElem (show j < T.length by omega)⟩
    obtain ⟨z, hz⟩ : ∃ z, T[k]? = some z := ⟨_, List.getElem?_eq_getElem hk⟩
    have n1 := hN.at hy
    have n2 := hN.at hz
    have t1 := h.2.1.tx v0.1 v0.2 (k := j) (x := y) (by rw [← eT]; exact hy)
    have t2 := h.2.1.tx v0.1 v0.2 (k := k) (x := z) (by rw [← eT]; exact hz)
    have e1 : (20 * v + (j : Int)).toNat = 20 * v.toNat + j := by omega
    have e2 : (20 * v + (k : Int)).toNat = 20 * v.toNat + k := by omega
    have g1 := (h.1.2.2 y.2.toNat (by omega)).1
    have g2 := (h.1.2.2 z.2.toNat (by omega)).1
    have v1 := v0.1
    have v2 := v0.2
    refine B_plant_22 ⟨by omega, by omega, fun c => absurd c (by omega), fun _ => ?_⟩
    rw [e1, t1, g1, n1.2.2.1]
    refine ⟨by omega, by omega, n1.1, by omega, ?_⟩
    refine C_plant_46 (k_depth) fun y hq => ?_
    subst hq
    refine B_plant_49 ?_
    rw [e2, t2, g2, n2.2.2.1]
    refine ⟨by omega, by omega, n2.1, by omega, ?_⟩
    refine C_plant_66 (k_depth) fun y hq => ?_
    subst hq
    rw [dmL_eq n1.2.2.2, dmL_eq n2.2.2.2]
    have d1 := dpL_le y.1
    have d2 := dpL_le z.1
    have en : abG (dT (T.map (·.1))) k (j + 1) = if dpL y.1 < dpL z.1 then (j : Int) else abG (dT (T.map (·.1))) k j := by
      rw [abG]
      unfold dT
      rw [dT_at hy, dT_at hz]
    refine B_plant_69 ⟨by omega, by omega, fun c => ?_, fun c => ?_⟩
    · have := ih (j + 1) (by omega)
      rw [en, if_neg (by omega)] at this
      exact this
    · have := ih (j + 1) (by omega)
      rw [en, if_pos (by omega)] at this
      exact this
theorem above_out {σ0 : Sto} {F : QF} (h : MdV S μ) (eT : T = vtx (sV S) v) (hN : Nm (sB S) T) (h20 : T.length ≤ 20) (v0 : isV S v) (out : ∀ μ', PlF μ μ' → mA μ' 32 = mA μ 32 → mA μ' 33 = mA μ 33 → (∀ j, j < T.length → mA μ' 34 j = abN (dT (T.map (·.1))) j) → Mw Ω σ0 m M_Mdl_plant rm_Mdl_plant F 105 [xr (some m), xi t, xi v, xi T.length, xi (0 : Int), xu, xu, xu] [] μ') : ∀ (f k : Nat) (μ1 : Mu), k + f = T.length → PlF μ μ1 → mA μ1 32 = mA μ 32 → mA μ1 33 = mA μ 33 → (∀ j, j < k → mA μ1 34 j = abN (dT (T.map (·.1))) j) → Mw Ω σ0 m M_Mdl_plant rm_Mdl_plant F 10 [xr (some m), xi t, xi v, xi T.length, xi k, xu, xu, xu] [] μ1 := by
  intro f
  induction f with
  | zero =>
    intro k μ1 hk k1 k2 k3 hj
    exact B_plant_10 ⟨by omega, by omega, fun _ => out μ1 k1 k2 k3 (fun j hl => hj j (by omega)), fun c => absurd (by omega) c⟩
  | succ f ih =>
    intro k μ1 hk k1 k2 k3 hj
    refine B_plant_10 ⟨by omega, by omega, fun c => absurd c (by omega), fun _ => ?_⟩
    refine above_in (h.fr k1.scr) eT hN h20 v0 (k := k) (by omega) ?_ k 0 (by omega)
    refine ih (k + 1) _ (by omega) (k1.trans (Fr.wA (by decide))) (funext fun q => ?_) (funext fun q => ?_) (fun j hl => ?_)
    · rw [mA_wA, if_neg (fun z => absurd z.1 (by decide)), k2]
    · rw [mA_wA, if_neg (fun z => absurd z.1 (by decide)), k3]
    · rw [mA_wA]
      by_cases c : j = k
      · rw [if_pos ⟨rfl, c⟩, c]
      · rw [if_neg (fun z => c z.2)]; exact hj j (by omega)
/-- the count of lines below a line -/
theorem below_loop {σ0 : Sto} {F : QF} {n : Nat} {d : Nat → Nat} (hn : n ≤ 20) (hA : ∀ j, j < n → mA μ 34 j = abN d j) {k : Nat} (hk : k < n) (out : ∀ e : Nat, En d n k e → Mw Ω σ0 m M_Mdl_plant rm_Mdl_plant F 158 [xr (some m), xi t, xi v, xi n, xi k, xi ((e : Int) - k - 1), xi (0 : Int), xi (abN d k)] [] μ) : ∀ (f j : Nat), j + f = n → k < j → (∀ i, k < i → i < j → d k < d i) → Mw Ω σ0 m M_Mdl_plant rm_Mdl_plant F 120 [xr (some m), xi t, xi v, xi n, xi k, xi ((j : Int) - k - 1), xi j, xu] [] μ := by
  intro f
  induction f with
  | zero =>
    intro j hj h1 h2
    refine B_plant_120 ⟨by omega, by omega, fun _ => ⟨by omega, by omega, ?_⟩, fun c => absurd (by omega) c⟩
    rw [Int.toNat_natCast, hA k hk]
    exact out j ⟨h1, by omega, h2, fun z => by omega⟩
  | succ f ih =>
    intro j hj h1 h2
    refine B_plant_120 ⟨by omega, by omega, fun c => absurd c (by omega), fun _ => ?_⟩
    refine C_plant_131 (K_isBelow hn (show j < n by omega) hk hA) fun y μ1 hq => ?_
    obtain ⟨rfl, rfl⟩ := hq
    have bi := bel_iff (d := d) h1 h2
    refine B_plant_134 ⟨bI_q, fun c => ⟨by omega, by omega, ?_⟩, fun c => ?_⟩
    · have c' := bI_0.mp c
      rw [Int.toNat_natCast, hA k hk]
      exact out j ⟨h1, by omega, h2, fun _ => Nat.le_of_not_lt (fun z => c' (bi.mpr z))⟩
    · have c' := bi.mp (bI_1.mp c)
      have := ih (j + 1) (by omega) (by omega) (fun i p q => by
        by_cases e : i = j
        · rw [e]; exact c'
        · exact h2 i p (by omega))
      have e : (j : Int) - k - 1 + 1 = ((j + 1 : Nat) : Int) - k - 1 := by omega
      rw [e]
      exact this
/-- how deep a line is -/
theorem deep_loop {σ0 : Sto} {F : QF} {n : Nat} {d : Nat → Nat} (hn : n ≤ 20) (hA : ∀ j, j < n → mA μ 34 j = abN d j) {k : Nat} {w : Int} {g : Nat} (out : Mw Ω σ0 m M_Mdl_plant rm_Mdl_plant F 158 [xr (some m), xi t, xi v, xi n, xi k, xi w, xi g, xi (-1 : Int)] [] μ) : ∀ (f : Nat) (a : Int) (c : Nat), a < f → -1 ≤ a → a < n → c + (anL (abN d) a).length = g → Mw Ω σ0 m M_Mdl_plant rm_Mdl_plant F 158 [xr (some m), xi t, xi v, xi n, xi k, xi w, xi c, xi a] [] μ := by
  have fin : ∀ (a : Int) (c : Nat), a < 0 → -1 ≤ a → c + (anL (abN d) a).length = g → Mw Ω σ0 m M_Mdl_plant rm_Mdl_plant F 158 [xr (some m), xi t, xi v, xi n, xi k, xi w, xi c, xi a] [] μ := by
    intro a c h1 h2 h3
    rw [anL_no h1] at h3
    have e1 : a = -1 := by omega
    have e2 : c = g := by simpa using h3
    rw [e1, e2]; exact out
  intro f
  induction f with
  | zero => intro a c h1 h2 _ h3; exact fin a c h1 h2 h3
  | succ f ih =>
    intro a c h1 h2 h2' h3
    by_cases q : a < 0
    · exact fin a c q h2 h3
    · obtain ⟨j, rfl⟩ : ∃ j : Nat, a = j := ⟨a.toNat, by omega⟩
      have r := abN_r d j
      rw [anL_at (abN_r d), List.length_cons] at h3
      refine B_plant_158 ⟨by omega, fun z => absurd z (by omega), fun _ => ?_⟩
      rw [Int.toNat_natCast, hA j (by omega)]
      exact ⟨by omega, by omega, ih _ (c + 1) (by omega) r.1 (by omega) (by omega)⟩
/-- lines that have their places -/
def PlE (d : Nat → Nat) (T : List (Int64 × Int)) (t k : Nat) (μ : Mu) : Prop := ∀ (j e : Nat) (y : Int64 × Int), j < k → T[j]? = some y → En d T.length j e → mA μ 32 (22 * t + (e - deN d j)) = y.2 ∧ mA μ 33 (22 * t + (e - deN d j)) = (j : Int) - (deN d j : Nat) + 1
abbrev PlD (T : List (Int64 × Int)) (t k : Nat) (μ : Mu) : Prop := PlE (dT (T.map (·.1))) T t k μ
def PlK (t : Nat) (μ μ' : Mu) : Prop := ∀ q, q < 22 * t ∨ 22 * t + 22 ≤ q → mA μ' 32 q = mA μ 32 q ∧ mA μ' 33 q = mA μ 33 q
theorem plant_step {σ0 : Sto} {F : QF} {V : List VR} {d : Nat → Nat} (hV : ∀ (k : Nat) (x : Int64 × Int), T[k]? = some x → mA μ 5 (20 * v.toNat + k) = x.2) (h40 : 0 ≤ v ∧ v < 40) (h20 : T.length ≤ 20) (ht : t < 2) {μ1 : Mu} {k e : Nat} {y : Int64 × Int} (k1 : PlF μ μ1) (k2 : PlK t μ μ1) (hA : ∀ j, j < T.length → mA μ1 34 j = abN d j) (hD : PlE d T t k μ1) (hkn : k < T.length) (hy : T[k]? = some y) (he : En d T.length k e)
    (uq : ∀ j e' : Nat, j < k → En d T.length j e' → e' - deN d j = e - deN d k → False)
    (out : ∀ μ2, PlF μ μ2 → PlK t μ μ2 → (∀ j, j < T.length → mA μ2 34 j = abN d j) → PlE d T t (k + 1) μ2 → Mw Ω σ0 m M_Mdl_plant rm_Mdl_plant F 105 [xr (some m), xi t, xi v, xi T.length, xi ((k : Int) + 1), xu, xu, xu] [] μ2) : Mw Ω σ0 m M_Mdl_plant rm_Mdl_plant F 158 [xr (some m), xi t, xi v, xi T.length, xi k, xi ((e : Int) - k - 1), xi (0 : Int), xi (abN d k)] [] μ1 := by
  have r := abN_r d k
  have q := deep_loop (Ω := Ω) (m := m) (σ0 := σ0) (F := F) (t := t) (v := v) (k := k) (w := (e : Int) - k - 1) (g := deN d k) h20 hA
  have q1 := fun z => q z k (abN d k) 0 r.2 r.1 (Int.lt_trans r.2 (by omega)) (Nat.zero_add _)
  refine q1 ?_
  have t1 : mA μ1 5 (20 * v.toNat + k) = y.2 := by rw [k1.2.1 5 (by decide)]; exact hV k y hy
  have dl := deN_le d k
  have he1 := he.1
  have he2 := he.2.1
  have same : ∀ (e' : Nat) (z : Int64 × Int), T[k]? = some z → En d T.length k e' → e' = e ∧ y = z := fun e' z hz he' => ⟨he'.uq he, by rw [hy] at hz; exact Option.some.inj hz⟩
  unfold PlE at hD out
  clear q q1 r hV
  generalize deN d = D at *
  obtain ⟨g, hg⟩ : ∃ g, D k = g := ⟨_, rfl⟩
  rw [hg] at dl uq ⊢
  have e1 : (20 * v + (k : Int)).toNat = 20 * v.toNat + k := by omega
  have e2 : (22 * (t : Int) + ((k : Int) - (g : Int) + ((e : Int) - k - 1) + 1)).toNat = 22 * t + (e - g) := by omega
  have e3 : (k : Int) - (g : Int) + ((e : Int) - k - 1) + 1 - ((e : Int) - k - 1) = (k : Int) - (g : Int) + 1 := by omega
  refine B_plant_158 ⟨by decide, fun _ => ?_, fun c => absurd rfl c⟩
  rw [e1, e2, e3, t1]
  refine ⟨by omega, by omega, by omega, by omega, by omega, by omega, by omega, ?_⟩
  refine out _ ((k1.trans (Fr.wA (by decide))).trans (Fr.wA (by decide))) (fun q hq => ⟨?_, ?_⟩) (fun j hj => ?_) (fun j e' z hj hz he' => ?_)
  · rw [mA_wA, if_neg (fun z => absurd z.1 (by decide)), mA_wA, if_neg (fun z => by omega)]; exact (k2 q hq).1
  · rw [mA_wA, if_neg (fun z => by omega), mA_wA, if_neg (fun z => absurd z.1 (by decide))]; exact (k2 q hq).2
  · rw [mA_wA, if_neg (fun z => absurd z.1 (by decide)), mA_wA, if_neg (fun z => absurd z.1 (by decide))]; exact hA j hj
  · by_cases c : j = k
    · subst c
      obtain ⟨ee, ez⟩ := same e' z hz he'
      rw [hg, ee, ← ez, mA_wA, if_neg (fun z => absurd z.1 (by decide)), mA_wA, if_pos ⟨rfl, rfl⟩, mA_wA, if_pos ⟨rfl, rfl⟩]
      exact ⟨rfl, rfl⟩
    · have ne : ¬ e' - D j = e - g := fun q => uq j e' (by omega) he' q
      have := hD j e' z (by omega) hz he'
      rw [mA_wA, if_neg (fun z => absurd z.1 (by decide)), mA_wA, if_neg (fun z => by omega), mA_wA, if_neg (fun z => by omega), mA_wA, if_neg (fun z => absurd z.1 (by decide))]
      exact this
theorem plant_out0 {σ0 : Sto} {F : QF} {d : Nat → Nat} (hV : ∀ (k : Nat) (x : Int64 × Int), T[k]? = some x → mA μ 5 (20 * v.toNat + k) = x.2) (h40 : 0 ≤ v ∧ v < 40) (h20 : T.length ≤ 20) (ht : t < 2) (uq : ∀ j j' e e' : Nat, j < T.length → j' < T.length → En d T.length j e → En d T.length j' e' → e - deN d j = e' - deN d j' → j = j') (out : ∀ μ', PlF μ μ' → PlK t μ μ' → PlE d T t T.length μ' → Mw Ω σ0 m M_Mdl_plant rm_Mdl_plant F 266 [xr (some m), xi t, xi v, xi T.length, xi T.length, xu, xu, xu] [] (wA (wA μ' 32 (22 * t + (T.length + 1)) (-1)) 33 (22 * t + (T.length + 1)) 1)) : ∀ (f k : Nat) (μ1 : Mu), k + f = T.length → PlF μ μ1 → PlK t μ μ1 → (∀ j, j < T.length → mA μ1 34 j = abN d j) → PlE d T t k μ1 → Mw Ω σ0 m M_Mdl_plant rm_Mdl_plant F 105 [xr (some m), xi t, xi v, xi T.length, xi k, xu, xu, xu] [] μ1 := by
  intro f
  induction f with
  | zero =>
    intro k μ1 hk k1 k2 hA hD
    have e : k = T.length := by omega
    subst e
    have e1 : (22 * (t : Int) + (T.length : Int) + 1).toNat = 22 * t + (T.length + 1) := by omega
    refine B_plant_105 ⟨by omega, by omega, fun _ => ?_, fun c => absurd (Int.le_refl _) c⟩
    rw [e1]
    exact ⟨by omega, by omega, by omega, by omega, out μ1 k1 k2 hD⟩
  | succ f ih =>
    intro k μ1 hk k1 k2 hA hD
    have hkn : k < T.length := by omega
    obtain ⟨y, hy⟩ : ∃ y, T[k]? = some y := ⟨_, List.getElem?_eq_getElem hkn⟩
    refine B_plant_105 ⟨by omega, by omega, fun c => absurd c (by omega), fun _ => ?_⟩
    have := below_loop (Ω := Ω) (m := m) (σ0 := σ0) (F := F) (t := t) (v := v) h20 hA hkn (fun e he => ?_) (T.length - (k + 1)) (k + 1) (by omega) (by omega) (fun i p q => by omega)
    · have e : ((k + 1 : Nat) : Int) - k - 1 = 0 := by omega
      rw [e] at this
      exact this
    · have uq' := fun j e' (hj : j < k) (he' : En d T.length j e') q => Nat.ne_of_lt hj (uq j k e' e (by omega) hkn he' he q)
      have o' := fun μ2 a1 a2 a3 a4 => ih (k + 1) μ2 (by omega) a1 a2 a3 a4
      exact plant_step (V := []) hV h40 h20 ht k1 k2 hA hD hkn hy he uq' o'
theorem plant_out {σ0 : Sto} {F : QF} (h : MdV S μ) (eT : T = vtx (sV S) v) (h20 : T.length ≤ 20) (v0 : isV S v) (ht : t < 2) (out : ∀ μ', PlF μ μ' → PlK t μ μ' → PlD T t T.length μ' → Mw Ω σ0 m M_Mdl_plant rm_Mdl_plant F 266 [xr (some m), xi t, xi v, xi T.length, xi T.length, xu, xu, xu] [] (wA (wA μ' 32 (22 * t + (T.length + 1)) (-1)) 33 (22 * t + (T.length + 1)) 1)) (μ1 : Mu) (k1 : PlF μ μ1) (k2 : PlK t μ μ1) (hA : ∀ j, j < T.length → mA μ1 34 j = abN (dT (T.map (·.1))) j) : Mw Ω σ0 m M_Mdl_plant rm_Mdl_plant F 105 [xr (some m), xi t, xi v, xi T.length, xi (0 : Int), xu, xu, xu] [] μ1 := by
  have h40 := h.2.1.2.1
  have v1 := v0.1
  have v2 := v0.2
  have uq := fun j j' e e' h1 h2 g1 g2 q => pl_uqT (T := T) (j := j) (j' := j') (e := e) (e' := e') rfl h1 h2 g1 g2 q
  unfold PlD at out
  generalize dT (T.map (·.1)) = d at *
  exact plant_out0 (fun q x hx => h.2.1.tx v1 v2 (by rw [← eT]; exact hx)) ⟨v1, by omega⟩ h20 ht uq out T.length 0 μ1 (by omega) k1 k2 hA (fun j e y hj _ _ => by omega)
theorem PlD.tr {b : BR} {μ' : Mu} (hN : Nm b T) (hD : PlD T t T.length μ') : TrM b (wA (wA μ' 32 (22 * t + (T.length + 1)) (-1)) 33 (22 * t + (T.length + 1)) 1) t (T.map (·.1)) := by
  obtain ⟨L, c1, c2, c3, c4⟩ := trT_num (T.map (·.1))
  have key : ∀ p : Nat, 1 ≤ p → p ≤ T.length → ∃ (j e : Nat) (y : Int64 × Int), T[j]? = some y ∧ En (dT (T.map (·.1))) T.length j e ∧ p = e - deN (dT (T.map (·.1))) j ∧ trK (trT (T.map (·.1))) p = j - deN (dT (T.map (·.1))) j ∧ trL (trT (T.map (·.1))) p = laT (T.map (·.1)) j := by
    intro p h1 h2
    rw [List.length_map] at c2 c3
    obtain ⟨j, hj⟩ : ∃ j, L[p - 1]? = some j := ⟨_, List.getElem?_eq_getElem (show p - 1 < L.length by omega)⟩
    obtain ⟨g1, e, g2, g3⟩ := c2 (p - 1) j hj
    have eg : (trT (T.map (·.1))).getD (p - 1) (0, 0) = (laT (T.map (·.1)) j, j - deN (dT (T.map (·.1))) j + 1) := by
      rw [c1, List.getD_eq_getElem?_getD, List.getElem?_append_left (by unfold mpO; rw [List.length_map]; omega)]
      unfold mpO
      rw [List.getElem?_map, hj]; rfl
    refine ⟨j, e, _, List.getElem?_eq_getElem g1, g2, by omega, ?_, ?_⟩
    · unfold trK; rw [eg]; simp
    · unfold trL; rw [eg]
  have top : trK (trT (T.map (·.1))) (T.length + 1) = 0 := by
    rw [List.length_map] at c3
    have el : (mpO (dT (T.map (·.1))) (laT (T.map (·.1))) L).length = T.length := by unfold mpO; rw [List.length_map, c3]
    unfold trK
    rw [c1, List.getD_eq_getElem?_getD, Nat.add_sub_cancel, List.getElem?_append_right (by omega), el, Nat.sub_self]
    rfl
  refine ⟨fun p h1 h2 => ?_, fun p h1 h2 => ?_, ?_⟩
  · rw [List.length_map] at h2
    rw [mA_wA]
    by_cases c : p = T.length + 1
    · subst c
      rw [if_pos ⟨rfl, rfl⟩, top]; rfl
    · obtain ⟨j, e, y, g1, g2, g3, g4, g5⟩ := key p h1 (by omega)
      have hj := (List.getElem?_eq_some_iff.mp g1).1
      have w := hD j e y hj g1 g2
      have dl := deN_le (dT (T.map (·.1))) j
      rw [← g3] at w
      rw [if_neg (fun z => by omega), mA_wA, if_neg (fun z => absurd z.1 (by decide)), w.2, g4]
      omega
  · rw [List.length_map] at h2
    obtain ⟨j, e, y, g1, g2, g3, g4, g5⟩ := key p h1 h2
    have hj := (List.getElem?_eq_some_iff.mp g1).1
    have w := hD j e y hj g1 g2
    have n1 := hN.at g1
    rw [← g3] at w
    have eq : mA (wA (wA μ' 32 (22 * t + (T.length + 1)) (-1)) 33 (22 * t + (T.length + 1)) 1) 32 (22 * t + p) = y.2 := by
      rw [mA_wA, if_neg (fun z => absurd z.1 (by decide)), mA_wA, if_neg (fun z => by omega), w.1]
    rw [eq, n1.2.2.1, g5]
    refine ⟨n1.1, n1.2.1, n1.2.2.2, ?_⟩
    unfold laT dT
    rw [dT_at g1]
  · rw [List.length_map, mA_wA, if_neg (fun z => absurd z.1 (by decide)), mA_wA, if_pos ⟨rfl, rfl⟩]
theorem K_plant (h : MdV S μ) (h20 : (vtx (sV S) v).length ≤ 20) (hN : Nm (sB S) (vtx (sV S) v)) (v0 : isV S v) (ht : t < 2) : MMv Ω m M_Mdl_plant rm_Mdl_plant (fun μ' => PlF μ μ' ∧ PlK t μ μ' ∧ TrM (sB S) μ' t ((vtx (sV S) v).map (·.1))) μ [xi t, xi v] := by
  have h40 := h.2.1.2.1
  have v1 := v0.1
  have v2 := v0.2
  refine E_plant fun σ0 => B_plant_0 ⟨by omega, by omega, ?_⟩
  rw [h.2.1.sz v1 v2]
  refine above_out h rfl hN h20 v0 (fun μ1 k1 k2 k3 hA => ?_) (vtx (sV S) v).length 0 μ (by omega) Fr.rf rfl rfl (fun j hj => by omega)
  refine plant_out h rfl h20 v0 ht (fun μ2 j1 j2 hD => ?_) μ1 k1 (fun q _ => by rw [k2, k3]; exact ⟨rfl, rfl⟩) hA
  refine R_plant_266 ⟨(j1.trans (Fr.wA (by decide))).trans (Fr.wA (by decide)), fun q hq => ?_, hD.tr hN⟩
  have := j2 q hq
  rw [mA_wA, if_neg (fun z => absurd z.1 (by decide)), mA_wA, if_neg (fun z => by omega), mA_wA, if_neg (fun z => by omega), mA_wA, if_neg (fun z => absurd z.1 (by decide))]
  exact this
end PLM
