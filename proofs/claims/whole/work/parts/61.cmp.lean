/-! BY HAND: Comparison, reading lines and the walk -/
theorem Shp.rf {σ : Sto} : Shp σ σ := ⟨Nat.le_refl _, fun _ _ => ⟨rfl, rfl, fun _ => rfl, rfl⟩⟩
theorem Shp.trans {σ σ1 σ2 : Sto} (h : Shp σ σ1) (g : Shp σ1 σ2) : Shp σ σ2 := ⟨Nat.le_trans h.1 g.1, fun a ha => by
  obtain ⟨h1, h2, h3, h4⟩ := h.2 a ha
  obtain ⟨g1, g2, g3, g4⟩ := g.2 a (Nat.lt_of_lt_of_le ha h.1)
  exact ⟨g1.trans h1, g2.trans h2, fun f => (g3 f).trans (h3 f), g4.trans h4⟩⟩
theorem Shp.uI {σ : Sto} {f a : Nat} {v : Int} : Shp σ (uI σ f a v) := ⟨Nat.le_refl _, fun _ _ => ⟨rfl, rfl, fun _ => rfl, rfl⟩⟩
theorem Shp.uL {σ : Sto} {f a : Nat} {v : Int64} : Shp σ (uL σ f a v) := ⟨Nat.le_refl _, fun _ _ => ⟨rfl, rfl, fun _ => rfl, rfl⟩⟩
theorem Shp.vI {σ : Sto} {a i : Nat} {v : Int} : Shp σ (vI σ a i v) := ⟨Nat.le_refl _, fun _ _ => ⟨rfl, rfl, fun _ => rfl, rfl⟩⟩
theorem Shp.vL {σ : Sto} {a i : Nat} {v : Int64} : Shp σ (vL σ a i v) := ⟨Nat.le_refl _, fun _ _ => ⟨rfl, rfl, fun _ => rfl, rfl⟩⟩
def XL (lb : Int) (T : List (Int64 × Int)) : List Int64 := T.map (fun x => if lb = 0 then x.1 else ltL x.1)
theorem XL_len (lb : Int) (T : List (Int64 × Int)) : (XL lb T).length = T.length := List.length_map _
theorem XL_at {lb : Int} {T : List (Int64 × Int)} {i : Nat} (h : i < T.length) : gx (XL lb T) i = if lb = 0 then lnA T i else ltL (lnA T i) := by
  have e : lnA T (i : Int) = T[i].1 := lnA_some (x := T[i]) (by omega) (List.getElem?_eq_getElem h)
  rw [← gx_of (by rw [XL_len]; exact h), e]
  unfold XL
  rw [List.getElem_map]
section CMR
variable {Ω : Om} {σ0 : Sto} {t q : Nat} {T : List (Int64 × Int)} {lb : Int}
abbrev QCr (Ω : Om) (σ0 : Sto) (q : Nat) (lb : Int) (T : List (Int64 × Int)) : QF := MF Ω rm_Cmp_read (RI fun r σ' => r = T.length ∧ (∀ i, i < T.length → aL σ' q i = gx (XL lb T) i) ∧ Keep σ0 σ' (At1 q) ∧ Shp σ0 σ') XN
theorem read_loop (hl : T.length ≤ 20) (hd : q < t ∨ t + 2 < q) (hlb : Q32 lb) : ∀ (d i : Nat) (σ : Sto), i + d = T.length → sK σ q = 51 → sZ σ q = 20 → Tx σ t T → (∀ j, j < i → aL σ q j = gx (XL lb T) j) → Keep σ0 σ (At1 q) → Shp σ0 σ → Aw Ω M_Cmp_read rm_Cmp_read (QCr Ω σ0 q lb T) 0 0 13 [xr (some t), xr (some q), xi lb, xi T.length, xi i, xu, xu] [] σ := by
  intro d
  induction d with
  | zero =>
    intro i σ hd2 hq hz hT hj hk hs
    have e : i = T.length := by omega
    subst e
    refine b_Cmp_read_13 ⟨by omega, by omega, fun _ => ?_, fun c => absurd (Int.le_refl _) c⟩
    exact r_Cmp_read_52 ⟨_, rfl, rfl, hj, hk, hs⟩ (by decide) (by decide)
  | succ d ih =>
    intro i σ hd2 hq hz hT hj hk hs
    refine b_Cmp_read_13 ⟨by omega, by omega, fun c => absurd c (by omega), fun _ => ?_⟩
    refine c_Cmp_read_22 (k_Txt_lineAt hT (by omega)) hT.2.1 (by decide) (by decide) (by first | decide | omega) (by first | decide | omega) (Nat.le_of_ble_eq_true rfl) (fun z σ1 hq => ?_) (fun _ _ hx => hx.elim)
    obtain ⟨rfl, rfl⟩ := hq
    have step : ∀ v, v = gx (XL lb T) i → Aw Ω M_Cmp_read rm_Cmp_read (QCr Ω σ0 q lb T) 0 0 13 [xr (some t), xr (some q), xi lb, xi T.length, xi ((i : Int) + 1), xu, xu] [] (vL σ1 q i v) := by
      intro v hv
      have kk : Keep σ1 (vL σ1 q i v) (At1 q) := Keep.vL rfl
      refine ih (i + 1) _ (by omega) hq hz (hT.keep kk (fun b h1 h2 h3 => by omega)) (fun j h => ?_) (hk.trans kk) (hs.trans Shp.vL)
      rw [aL_vL]
      by_cases e : j = i
      · rw [if_pos ⟨rfl, e⟩, hv, e]
      · rw [if_neg (by omega)]; exact hj j (by omega)
    refine b_Cmp_read_25 ⟨hlb, fun c => ⟨hq, by omega, by rw [hz]; omega, ?_⟩, fun c => ?_⟩
    · refine step _ ?_
      rw [XL_at (by omega), if_pos c]
    · refine c_Cmp_read_36 (k_Lbk_lettersOf) (by decide) (by decide) (by first | decide | omega) (by first | decide | omega) (Nat.le_of_ble_eq_true rfl) (fun z2 σ2 hq => ?_) (fun _ _ hx => hx.elim)
      obtain ⟨rfl, rfl⟩ := hq
      refine b_Cmp_read_39 ⟨hq, by omega, by rw [hz]; omega, ?_⟩
      refine step _ ?_
      rw [XL_at (by omega), if_neg c]
theorem k_Cmp_read {σ : Sto} (hT : Tx σ t T) (hl : T.length ≤ 20) (hq : sK σ q = 51) (hz : sZ σ q = 20) (hd : q < t ∨ t + 2 < q) (hlb : Q32 lb) : MC Ω M_Cmp_read rm_Cmp_read (RI fun r σ' => r = T.length ∧ (∀ i, i < T.length → aL σ' q i = gx (XL lb T) i) ∧ Keep σ σ' (At1 q) ∧ Shp σ σ') XN σ [xr (some t), xr (some q), xi lb] := by
  refine e_Cmp_read (b_Cmp_read_0 ?_)
  refine c_Cmp_read_1 (k_Txt_size hT) hT.2.1 (by decide) (by decide) (by first | decide | omega) (by first | decide | omega) (Nat.le_of_ble_eq_true rfl) (fun z σ1 hq => ?_) (fun _ _ hx => hx.elim)
  obtain ⟨rfl, rfl⟩ := hq
  refine b_Cmp_read_4 ⟨hq, fun q1 => ⟨by omega, by rw [hz]; omega, by decide, Nat.le_of_ble_eq_true rfl, by decide, by decide, ?_⟩⟩
  have e : minI (T.length : Int) (sZ σ1 q) = T.length := by rw [hz, minI, if_neg (by omega)]
  rw [e]
  exact read_loop hl hd hlb T.length 0 σ1 (by omega) hq hz hT (fun j h => by omega) Keep.rf Shp.rf
end CMR
/-! the walk -/
def fr (n : Nat) (P M : Nat → Int) (j : Nat) : Bool := (List.range n).all fun k => decide (P k ≠ (j : Int)) && decide (M k ≠ (j : Int))
theorem fr_iff {n : Nat} {P M : Nat → Int} {j : Nat} : fr n P M j = true ↔ ∀ k, k < n → P k ≠ j ∧ M k ≠ j := by
  unfold fr
  rw [List.all_eq_true]
  constructor
  · intro h k hk
    have := h k (List.mem_range.mpr hk)
    rw [Bool.and_eq_true, decide_eq_true_iff, decide_eq_true_iff] at this
    exact this
  · intro h k hk
    rw [Bool.and_eq_true, decide_eq_true_iff, decide_eq_true_iff]
    exact h k (List.mem_range.mp hk)
def wk (X Y : List Int64) : Nat → Nat → Nat → (Nat → Int) → Nat → (Nat → Int) × Nat
  | 0, _, _, P, n => (P, n)
  | f + 1, i, j, P, n => if i < X.length ∧ j < Y.length then (if gx X i = gx Y j then wk X Y f (i + 1) (j + 1) (up1 P i (j : Int)) (n + 1) else if tb X Y i j ≤ tb X Y (i + 1) j then wk X Y f (i + 1) j P n else wk X Y f i (j + 1) P n) else (P, n)
def prW (X Y : List Int64) : (Nat → Int) × Nat := wk X Y (X.length + Y.length) 0 0 (fun _ => -1) 0
theorem wk_end {X Y : List Int64} {f i j n : Nat} {P : Nat → Int} (h : ¬ (i < X.length ∧ j < Y.length)) : wk X Y f i j P n = (P, n) := by
  cases f with
  | zero => rfl
  | succ f => rw [wk, if_neg h]
theorem wk_eq {X Y : List Int64} {f i j n : Nat} {P : Nat → Int} (hi : i < X.length) (hj : j < Y.length) (h : gx X i = gx Y j) : wk X Y (f + 1) i j P n = wk X Y f (i + 1) (j + 1) (up1 P i (j : Int)) (n + 1) := by rw [wk, if_pos ⟨hi, hj⟩, if_pos h]
theorem wk_gone {X Y : List Int64} {f i j n : Nat} {P : Nat → Int} (hi : i < X.length) (hj : j < Y.length) (h : ¬ gx X i = gx Y j) (g : tb X Y i j ≤ tb X Y (i + 1) j) : wk X Y (f + 1) i j P n = wk X Y f (i + 1) j P n := by rw [wk, if_pos ⟨hi, hj⟩, if_neg h, if_pos g]
theorem wk_new {X Y : List Int64} {f i j n : Nat} {P : Nat → Int} (hi : i < X.length) (hj : j < Y.length) (h : ¬ gx X i = gx Y j) (g : ¬ tb X Y i j ≤ tb X Y (i + 1) j) : wk X Y (f + 1) i j P n = wk X Y f i (j + 1) P n := by rw [wk, if_pos ⟨hi, hj⟩, if_neg h, if_neg g]
/-- the fuel is enough at any height -/
theorem wk_fuel {X Y : List Int64} : ∀ (f g i j n : Nat) (P : Nat → Int), X.length + Y.length ≤ i + j + f → X.length + Y.length ≤ i + j + g → wk X Y f i j P n = wk X Y g i j P n := by
  intro f
  induction f with
  | zero =>
    intro g i j n P h1 h2
    rw [wk_end (by omega), wk_end (by omega)]
  | succ f ih =>
    intro g i j n P h1 h2
    by_cases hc : i < X.length ∧ j < Y.length
    · cases g with
      | zero => exact absurd hc (by omega)
      | succ g =>
        rw [wk, wk, if_pos hc, if_pos hc]
        split
        · exact ih g _ _ _ _ (by omega) (by omega)
        · split
          · exact ih g _ _ _ _ (by omega) (by omega)
          · exact ih g _ _ _ _ (by omega) (by omega)
    · rw [wk_end hc, wk_end hc]
def CpP (σ : Sto) (c : Nat) (a b : Nat) (P M : Nat → Int) (n : Nat) : Prop := fI σ 72 c = n ∧ (∀ k, k < a → aI σ (c + 3) k = P k ∧ aI σ (c + 4) k = M k) ∧ ∀ j, j < b → (aI σ (c + 5) j = 0 ↔ fr a P M j = false)
theorem CpP.keep {σ σ' : Sto} {c a b n : Nat} {P M : Nat → Int} {F : Nat → Prop} (h : CpP σ c a b P M n) (k : Keep σ σ' F) (hc : c + 27 < sN σ) (d0 : ¬ F c) (d3 : ¬ F (c + 3)) (d4 : ¬ F (c + 4)) (d5 : ¬ F (c + 5)) : CpP σ' c a b P M n := by
  have e0 := k.2 c (by omega) d0
  have e3 := k.2 (c + 3) (by omega) d3
  have e4 := k.2 (c + 4) (by omega) d4
  have e5 := k.2 (c + 5) (by omega) d5
  refine ⟨(e0.2.2.1 _).trans h.1, fun i hi => ?_, fun j hj => ?_⟩
  · rw [e3.2.2.2.2.2.1, e4.2.2.2.2.2.1]; exact h.2.1 i hi
  · rw [e5.2.2.2.2.2.1]; exact h.2.2 j hj
theorem up1_at (P : Nat → Int) (i k : Nat) (v : Int) : up1 P i v k = if k = i then v else P k := rfl
