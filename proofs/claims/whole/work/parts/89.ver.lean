/-! BY HAND: Version -/
def VrS (σ : Sto) (v : Nat) : Prop := v + 7 < sN σ ∧ sK σ v = 12 ∧ fR σ 704 v = some (v + 1) ∧ fR σ 705 v = some (v + 4) ∧ fR σ 706 v = some (v + 7)
def VrN (σ : Sto) (v : Nat) (au f1 f2 : Int) (be : Int64) : Prop := fI σ 707 v = au ∧ fI σ 708 v = f1 ∧ fI σ 709 v = f2 ∧ fL σ 710 v = be
def VrV (Ω : Om) (σ : Sto) (lo v d : Nat) (T N : List (Int64 × Int)) (es : List Nat) (au f1 f2 : Int) (be : Int64) : Prop := VrS σ v ∧ VrN σ v au f1 f2 be ∧ Tx σ (v + 1) T ∧ Tx σ (v + 4) N ∧ Ls Ω σ lo (v + 7) d es
theorem VrS.keep {σ σ' : Sto} {v : Nat} {P : Nat → Prop} (h : VrS σ v) (k : Keep σ σ' P) (d0 : ¬ P v) : VrS σ' v := by
  obtain ⟨h1, h2, h3, h4, h5⟩ := h
  have e := k.2 v (by omega) d0
  exact ⟨Nat.lt_of_lt_of_le h1 k.1, e.1.trans h2, (e.2.2.2.2.1 _).trans h3, (e.2.2.2.2.1 _).trans h4, (e.2.2.2.2.1 _).trans h5⟩
theorem VrN.keep {σ σ' : Sto} {v : Nat} {au f1 f2 : Int} {be : Int64} {P : Nat → Prop} (h : VrN σ v au f1 f2 be) (k : Keep σ σ' P) (hv : v < sN σ) (d0 : ¬ P v) : VrN σ' v au f1 f2 be := by
  obtain ⟨h1, h2, h3, h4⟩ := h
  have e := k.2 v hv d0
  exact ⟨(e.2.2.1 _).trans h1, (e.2.2.1 _).trans h2, (e.2.2.1 _).trans h3, (e.2.2.2.1 _).trans h4⟩
theorem VrV.keep {Ω : Om} {σ σ' : Sto} {lo v d : Nat} {T N : List (Int64 × Int)} {es : List Nat} {au f1 f2 : Int} {be : Int64} {P : Nat → Prop} (h : VrV Ω σ lo v d T N es au f1 f2 be) (k : Keep σ σ' P) (dj : ∀ q, v ≤ q → q ≤ v + 7 → ¬ P q) (dd : lo ≤ d → ¬ P d) : VrV Ω σ' lo v d T N es au f1 f2 be := by
  obtain ⟨h1, h2, h3, h4, h5⟩ := h
  have hn := h1.1
  exact ⟨h1.keep k (dj _ (by omega) (by omega)), h2.keep k (by omega) (dj _ (by omega) (by omega)), h3.keep k (fun q q1 q2 => dj q (by omega) (by omega)), h4.keep k (fun q q1 q2 => dj q (by omega) (by omega)), h5.keep k (dj _ (by omega) (by omega)) dd⟩
section VER
variable {Ω : Om} {σ0 : Sto} {lo a v d dv f s b : Nat} {T N T0 : List (Int64 × Int)} {es : List Nat} {au f1 f2 oc : Int} {be : Int64} {cl : List Cnl}
theorem k_Ver_isOver {σ : Sto} {o : Int} (h : VrS σ v) (g : VrN σ v au f1 f2 be) (ho : Q32 o) : MC Ω M_Ver_isOver rm_Ver_isOver (RI fun r σ' => σ' = σ ∧ r = if 0 ≤ o ∧ o < 40 ∧ (lUsh be o &&& 1) ≠ 0 then 1 else 0) XN σ [xr (some v), xi o] := by
  obtain ⟨g1, g2, g3, g4⟩ := g
  refine e_Ver_isOver (b_Ver_isOver_0 ⟨ho, fun c => ?_, fun c => ⟨fun c2 => ?_, fun c2 => ⟨h.2.1, cmpL_r _ _, fun c3 => ?_, fun c3 => ?_⟩⟩⟩)
  · exact r_Ver_isOver_28 (Or.inl rfl) ⟨_, rfl, rfl, by rw [if_neg (fun z => by omega)]⟩ (by decide) (by decide)
  · exact r_Ver_isOver_28 (Or.inl rfl) ⟨_, rfl, rfl, by rw [if_neg (fun z => by omega)]⟩ (by decide) (by decide)
  · rw [cmpL_0, g4] at c3
    exact r_Ver_isOver_28 (Or.inl rfl) ⟨_, rfl, rfl, by rw [if_neg (fun z => z.2.2 c3)]⟩ (by decide) (by decide)
  · rw [cmpL_0, g4] at c3
    exact r_Ver_isOver_28 (Or.inr rfl) ⟨_, rfl, rfl, by rw [if_pos ⟨by omega, by omega, c3⟩]⟩ (by decide) (by decide)
theorem keep_loop {x y z : Int} {be' : Int64} (hlo : a + 127 < lo) (hv : v + 7 < lo) (hav : v + 7 < a ∨ a + 127 < v) (hz : es.length ≤ 520) (hoE : oE Ω < lo) (hdd : lo ≤ d → d < sN σ0) (hE : ∀ (i e : Nat), es[i]? = some e → lo ≤ e ∧ e < sN σ0 ∧ sK σ0 e = 5) (hloN : lo ≤ sN σ0) :
    ∀ (r i : Nat) (σ : Sto) (k n d' : Nat), i + r = es.length → k ≤ i → ((d' = oE Ω ∧ n = 0) ∨ (d' ≠ oE Ω ∧ n ≤ 4 * sZ σ d' ∧ sZ σ d' ≤ 780)) → VrS σ v → VrN σ v x y z be' → Tx σ (v + 1) T → Tx σ (v + 4) N → Ls Ω σ lo (v + 7) d' (es.take i) → (d' = oE Ω ∨ sN σ0 ≤ d') → DrS σ a → Ls Ω σ lo (a + 4) d es → Keep σ0 σ (In v (v + 8)) →
    Aw Ω M_Ver_keep rm_Ver_keep (MF Ω rm_Ver_keep (RV fun σ' => ∃ d', VrV Ω σ' lo v d' T N es x y z be' ∧ (d' = oE Ω ∨ sN σ0 ≤ d') ∧ Keep σ0 σ' (In v (v + 8))) XN) k n 37 [xr (some v), xr (some a), xi i] [] σ := by
  intro r
  induction r with
  | zero =>
    intro i σ k n d' hr hk hn hS hN hT hT2 hL hd hD hLa hkk
    have e : i = es.length := by omega
    subst e
    rw [List.take_length] at hL
    refine b_Ver_keep_37 ⟨hD.2.1, _, hD.2.2.2.1, ?_⟩
    refine c_Ver_keep_42 (k_Lst_size hLa (by omega)) hLa.2.2.1 (by decide) (by decide) (by simp only [rm_Lst_get, rm_Lst_size, rm_Txt_copy, rm_Ver_keep]; omega) (by simp only [rm_Lst_get, rm_Lst_size, rm_Txt_copy, rm_Ver_keep]; omega) (Nat.le_of_ble_eq_true rfl) (fun z σ1 hq => ?_) (fun _ _ hx => hx.elim)
    obtain ⟨rfl, rfl⟩ := hq
    refine b_Ver_keep_45 ⟨by omega, by omega, fun _ => ?_, fun c => absurd (Int.le_refl _) c⟩
    have hb : n ≤ 3200 := by
      rcases hn with q | q
      · omega
      · omega
    exact r_Ver_keep_73 ⟨rfl, d', ⟨hS, hN, hT, hT2, hL⟩, hd, hkk⟩ (show k + 0 ≤ 520 by omega) (show n + 0 ≤ 3300 by omega)
  | succ r ih =>
    intro i σ k n d' hr hk hn hS hN hT hT2 hL hd hD hLa hkk
    have li : i < es.length := by omega
    have eg : es[i]? = some es[i] := List.getElem?_eq_getElem li
    obtain ⟨e1, e2, e3⟩ := hE i _ eg
    have ek := (hkk.2 es[i] e2 (by omega)).1.trans e3
    have htl : (es.take i).length = i := by rw [List.length_take]; omega
    refine b_Ver_keep_37 ⟨hD.2.1, _, hD.2.2.2.1, ?_⟩
    refine c_Ver_keep_42 (k_Lst_size hLa (by omega)) hLa.2.2.1 (by decide) (by decide) (by simp only [rm_Lst_get, rm_Lst_size, rm_Txt_copy, rm_Ver_keep]; omega) (by simp only [rm_Lst_get, rm_Lst_size, rm_Txt_copy, rm_Ver_keep]; omega) (Nat.le_of_ble_eq_true rfl) (fun z σ1 hq => ?_) (fun _ _ hx => hx.elim)
    obtain ⟨rfl, rfl⟩ := hq
    refine b_Ver_keep_45 ⟨by omega, by omega, fun c => absurd c (by omega), fun _ => ⟨hS.2.1, _, hS.2.2.2.2, hD.2.1, _, hD.2.2.2.1, ?_⟩⟩
    refine c_Ver_keep_57 (k_Lst_get hLa eg) hLa.2.2.1 (by decide) (by decide) (by simp only [rm_Lst_get, rm_Lst_size, rm_Txt_copy, rm_Ver_keep]; omega) (by simp only [rm_Lst_get, rm_Lst_size, rm_Txt_copy, rm_Ver_keep]; omega) (Nat.le_of_ble_eq_true rfl) (fun z σ2 hq => ?_) (fun _ _ hx => hx.elim)
    obtain ⟨rfl, rfl⟩ := hq
    refine b_Ver_keep_60 ⟨ek, ?_⟩
    have hd' : d' < lo ∨ sK σ2 d' = 59 := by
      rcases hL.2.2.2.2.2 with w | w
      · exact Or.inl w.2.1
      · exact Or.inr w.2.2.1
    have room : ∃ c s : Nat, (lsR Ω σ2 d' (es.take i) ∧ c = 0 ∧ s = 0) ∨ (¬ lsR Ω σ2 d' (es.take i) ∧ c = 1 ∧ s = lsZ Ω σ2 d') := by
      by_cases q : lsR Ω σ2 d' (es.take i)
      · exact ⟨0, 0, Or.inl ⟨q, rfl, rfl⟩⟩
      · exact ⟨1, _, Or.inr ⟨q, rfl, rfl⟩⟩
    obtain ⟨c, s, hcs⟩ := room
    have h5t : ∀ (j y : Nat), (es.take i)[j]? = some y → sK σ2 y = 5 := fun j y hj => by
      rw [List.getElem?_take] at hj
      split at hj
      · obtain ⟨w1, w2, w3⟩ := hE j y hj
        exact (hkk.2 y w2 (by omega)).1.trans w3
      · cases hj
    have hadd := @k_Lst_add Ω σ2 lo (v + 7) d' (es.take i) es[i] c s hL h5t ek (by have := hkk.1; omega) (by omega) (by
      rcases hcs with q | q
      · exact Or.inl q.1
      · exact Or.inr ⟨by omega, by omega⟩)
    have hzf : ¬ lsR Ω σ2 d' (es.take i) → d' ≠ oE Ω → i = sZ σ2 d' := fun q1 q2 => by
      rcases hL.2.2.2.2.2 with w | w
      · exact absurd w.1 q2
      · have h1 : ¬ (es.take i).length < sZ σ2 d' := fun z => q1 ⟨q2, z⟩
        have h2 := w.2.2.2.2.2.1
        omega
    have hz10 : d' ≠ oE Ω → 10 ≤ sZ σ2 d' := fun q2 => by
      rcases hL.2.2.2.2.2 with w | w
      · exact absurd w.1 q2
      · exact w.2.2.2.1
    have hcb : c ≤ 1 := by omega
    have hnb : ((d' = oE Ω ∧ n + s = 0) ∨ (d' = oE Ω ∧ ¬ lsR Ω σ2 d' (es.take i) ∧ n + s = 10) ∨ (d' ≠ oE Ω ∧ lsR Ω σ2 d' (es.take i) ∧ n + s ≤ 4 * sZ σ2 d' ∧ sZ σ2 d' ≤ 780) ∨ (d' ≠ oE Ω ∧ ¬ lsR Ω σ2 d' (es.take i) ∧ n + s ≤ 4 * (lsZ Ω σ2 d') ∧ lsZ Ω σ2 d' ≤ 780)) := by
      by_cases q0 : d' = oE Ω
      · have hnr : ¬ lsR Ω σ2 d' (es.take i) := fun z => z.1 q0
        have hl10 : lsZ Ω σ2 d' = 10 := if_pos q0
        rcases hcs with q | q
        · exact absurd q.1 hnr
        · refine Or.inr (Or.inl ⟨q0, hnr, ?_⟩)
          omega
      · have h10 := hz10 q0
        have hlz : lsZ Ω σ2 d' = sZ σ2 d' + sZ σ2 d' / 2 := if_neg q0
        rcases hcs with q | q
        · exact Or.inr (Or.inr (Or.inl ⟨q0, q.1, by omega, by omega⟩))
        · have := hzf q.1 q0
          exact Or.inr (Or.inr (Or.inr ⟨q0, q.1, by omega, by omega⟩))
    have hs1 : n + s ≤ 3300 := by omega
    refine c_Ver_keep_63 hadd hL.2.2.1 (by show rm_Lst_add_0.frames + 1 ≤ rm_Ver_keep.frames; decide) (by show 8 + (2 + 11) + rm_Lst_add_0.locals ≤ rm_Ver_keep.locals; decide) (by refine (show k + 0 + 0 + c ≤ 520 from ?_); omega) (by refine (show n + 0 + 0 + s ≤ 3300 from ?_); omega) (Nat.le_of_ble_eq_true rfl) (fun z σ3 hq => ?_) (fun _ _ hx => hx.elim)
    obtain ⟨d2, hL3, hk3, hn3⟩ := hq
    have et : es.take (i + 1) = es.take i ++ [es[i]] := by rw [List.take_add_one, eg]; rfl
    rw [← et] at hL3
    have hkv : Keep σ2 σ3 (LsP lo (v + 7) d') := hk3
    refine b_Ver_keep_66 (ih (i + 1) σ3 _ _ d2 (by omega) ?_ ?_ (hS.keep hk3 (by omega)) (hN.keep hk3 (by have := hS.1; omega) (by omega)) (hT.keep hk3 (fun q q1 q2 q3 => by omega)) (hT2.keep hk3 (fun q q1 q2 q3 => by omega)) hL3 ?_ (hD.keep hk3 (by omega) (fun q q1 q2 => by omega)) (hLa.keep hk3 (by omega) (fun h => ?_)) ?_)
    · show k + 0 + 0 + c ≤ i + 1; omega
    · show (d2 = oE Ω ∧ n + 0 + 0 + s = 0) ∨ (d2 ≠ oE Ω ∧ n + 0 + 0 + s ≤ 4 * sZ σ3 d2 ∧ sZ σ3 d2 ≤ 780)
      have hne : d2 ≠ oE Ω := by
        rcases hL3.2.2.2.2.2 with w | w
        · have := congrArg List.length w.2.2
          rw [List.length_take, List.length_nil] at this; omega
        · have := w.1; omega
      refine Or.inr ⟨hne, ?_⟩
      rcases hn3 with q | q
      · rw [q.2.2.2]
        rcases hnb with w | w | w | w
        · exact absurd w.1 q.1.1
        · exact absurd q.1 w.2.1
        · omega
        · exact absurd q.1 w.2.1
      · rw [q.2.2.2]
        have hl10 : d' = oE Ω → lsZ Ω σ2 d' = 10 := fun z => if_pos z
        rcases hnb with w | w | w | w
        · have := hl10 w.1; omega
        · have := hl10 w.1; omega
        · exact absurd w.2.1 q.1
        · omega
    · rcases hn3 with q | q
      · rw [q.2.1]; exact hd
      · have := hkk.1; exact Or.inr (by omega)
    · have := hdd h; omega
    · exact hkk.tr hk3 (fun q q1 q2 => by omega)
theorem k_Ver_keep {σ : Sto} {x y z : Int} (hlo : a + 127 < lo) (hv : v + 7 < lo) (hav : v + 7 < a ∨ a + 127 < v) (hz : es.length ≤ 520) (hoE : oE Ω < lo) (hE : ∀ (i e : Nat), es[i]? = some e → lo ≤ e ∧ e < sN σ ∧ sK σ e = 5) (hloN : lo ≤ sN σ) (hV : VrV Ω σ lo v (oE Ω) T0 N [] au f1 f2 be) (hD : DfV Ω σ lo a f s b d T cl oc es) (hx : fI σ 203 a = x) (hy : fI σ 204 a = y) (hzz : fI σ 205 a = z) :
    MC Ω M_Ver_keep rm_Ver_keep (RV fun σ' => ∃ d', VrV Ω σ' lo v d' T N es x y z be ∧ (d' = oE Ω ∨ sN σ ≤ d') ∧ Keep σ σ' (In v (v + 8))) XN σ [xr (some v), xr (some a)] := by
  obtain ⟨hS, hN, hT, hT2, hL⟩ := hV
  obtain ⟨dS, dT, dC, dO, dX, dZ, dL⟩ := hD
  have h0 := hS.1
  have h1 := dS.1
  refine e_Ver_keep (b_Ver_keep_0 ⟨hS.2.1, _, hS.2.2.1, dS.2.1, _, dS.2.2.1, ?_⟩)
  refine c_Ver_keep_8 (k_Txt_copy hT dX (by omega)) hT.2.1 (by decide) (by decide) (by simp only [rm_Lst_get, rm_Lst_size, rm_Txt_copy, rm_Ver_keep]; omega) (by simp only [rm_Lst_get, rm_Lst_size, rm_Txt_copy, rm_Ver_keep]; omega) (Nat.le_of_ble_eq_true rfl) (fun σ1 hq => ?_) (fun _ _ hx => hx.elim)
  obtain ⟨hT1, hk1⟩ := hq
  have hdd : lo ≤ d → d < sN σ := fun h => by
    rcases dL.2.2.2.2.2 with w | w
    · have := w.2.1; omega
    · exact w.2.1
  have hS1 := hS.keep hk1 (by omega)
  have ga := hk1.2 a (by omega) (by omega)
  have hx1 := (ga.2.2.1 203).trans hx
  have hy1 := (ga.2.2.1 204).trans hy
  have hz1 := (ga.2.2.1 205).trans hzz
  have dS1 := dS.keep hk1 (by omega) (fun q q1 q2 => by omega)
  have hN1 := hN.keep hk1 (by omega) (by omega)
  have g1 : fI (uI σ1 707 v x) 204 a = y := by rw [fI_uI, if_neg (by omega)]; exact hy1
  have g2 : fI (uI (uI σ1 707 v x) 708 v y) 205 a = z := by rw [fI_uI, if_neg (by omega), fI_uI, if_neg (by omega)]; exact hz1
  refine b_Ver_keep_11 ⟨dS1.2.1, fun _ => ⟨hS1.2.1, ?_⟩⟩
  rw [hx1, g1]
  refine fun _ => ?_
  rw [g2]
  refine fun _ => ?_
  have k2 : Keep σ1 (uI (uI (uI σ1 707 v x) 708 v y) 709 v z) (At1 v) := kuI1.trans (kuI1.trans kuI1)
  refine keep_loop (σ0 := σ) hlo hv hav hz hoE hdd hE hloN es.length 0 _ _ _ (oE Ω) (by omega) (Nat.le_refl _) (Or.inl ⟨rfl, rfl⟩) (show VrS _ v from hS1) ?_ (hT1.keep k2 (fun q q1 q2 q3 => by omega)) ((hT2.keep hk1 (fun q q1 q2 q3 => by omega)).keep k2 (fun q q1 q2 q3 => by omega)) ((hL.keep hk1 (by omega) (fun h => by omega)).keep k2 (by omega) (fun h => by omega)) (Or.inl rfl) (dS1.keep k2 (by omega) (fun q q1 q2 => by omega)) ((dL.keep hk1 (by omega) (fun _ => by omega)).keep k2 (by omega) (fun _ => by omega)) ((hk1.mono (fun q _ h => by omega)).trans (k2.mono (fun q _ h => by omega)))
  refine ⟨?_, ?_, ?_, hN1.2.2.2⟩
  · rw [fI_uI, if_neg (by omega), fI_uI, if_neg (by omega), fI_uI, if_pos ⟨rfl, rfl⟩]
  · rw [fI_uI, if_neg (by omega), fI_uI, if_pos ⟨rfl, rfl⟩]
  · rw [fI_uI, if_pos ⟨rfl, rfl⟩]
end VER
