/-! BY HAND: laying a patch, by the reference: find, names of new lines -/
theorem fn1_cut {P : Int → Bool} {s : Int} : ∀ (n k a : Nat), (∀ i, a + n ≤ i → i < a + n + k → P (s - i) = false ∧ P (s + i) = false) → fn1 P s (n + k) a = fn1 P s n a := by
  intro n
  induction n with
  | zero =>
    intro k
    induction k with
    | zero => intro a _; rfl
    | succ k ih =>
      intro a h
      have h0 := h a (by omega) (by omega)
      have g := ih (a + 1) (fun i i1 i2 => h i (by omega) (by omega))
      rw [Nat.zero_add] at g ⊢
      show fn1 P s (k + 1) a = none
      rw [fn1, if_neg (by rw [h0.1]; decide), if_neg (by rw [h0.2]; decide)]
      exact g
  | succ n ih =>
    intro k a h
    rw [show n + 1 + k = (n + k) + 1 by omega, fn1, fn1, ih k (a + 1) (fun i i1 i2 => h i (by omega) (by omega))]
theorem fn2_cut {P : Nat → Int → Bool} {s : Int} {n k : Nat} (h : ∀ b i, n ≤ i → i < n + k → P b (s - i) = false ∧ P b (s + i) = false) : ∀ (f b : Nat), fn2 P s (n + k) f b = fn2 P s n f b := by
  intro f
  induction f with
  | zero => intro b; rfl
  | succ f ih =>
    intro b
    rw [fn2, fn2, ih, fn1_cut n k 0 (fun i i1 i2 => h b i (by omega) (by omega))]
section FND
variable {Ω : Om} {m : Nat} {μ : Mu} {T T' : List (Int64 × Int)} {H : Hun} {s fl : Int} {fz q : Nat}
theorem find_cut (hT : T.length ≤ 40) (hs : -40 ≤ s ∧ s ≤ 80) (hfl : 0 ≤ fl) : fn2 (fun b x => fitB T H x fl b) s 128 (fz + 1) 0 = findN T H s fl fz := by
  unfold findN
  have e : (minI 80 (maxI s (T.length - s))).toNat + 1 ≤ 128 := by
    unfold minI maxI
    repeat' split
    all_goals omega
  obtain ⟨k, hk⟩ : ∃ k, 128 = ((minI 80 (maxI s (T.length - s))).toNat + 1) + k := ⟨128 - ((minI 80 (maxI s (T.length - s))).toNat + 1), by omega⟩
  conv => lhs; rw [hk]
  refine fn2_cut (fun b i i1 i2 => ?_) _ _
  have hi : s < i ∧ (T.length : Int) - s < i := by
    unfold minI maxI at i1
    repeat' split at i1
    all_goals omega
  constructor
  · cases g : fitB T H (s - i) fl b with
    | false => rfl
    | true =>
      have := (fit_iff hfl).mp (fitB_iff.mp g)
      have := this.1.1
      omega
  · cases g : fitB T H (s + i) fl b with
    | false => rfl
    | true =>
      have := (fit_iff hfl).mp (fitB_iff.mp g)
      have := this.1.2
      omega
theorem find_loop1 {σ0 : Sto} {F0 : QF} {b : Nat} {r : Option Int} (hW : WkS T μ) (hK : HkM μ q H) (hB : HnB H) (hq : q < 210) (hs : -200 ≤ s ∧ s ≤ 200) (hfl : 0 ≤ fl ∧ fl ≤ 1000) (hf : fz ≤ 2) (hb : b ≤ fz)
    (o1 : ∀ (z : Int) x, r = some x → Mw Ω σ0 m M_Mdl_find rm_Mdl_find F0 40 [xr (some m), xi q, xi s, xi fz, xi fl, xi b, xi z] [xi x] μ ∧ Mw Ω σ0 m M_Mdl_find rm_Mdl_find F0 61 [xr (some m), xi q, xi s, xi fz, xi fl, xi b, xi z] [xi x] μ) (o2 : r = none → Mw Ω σ0 m M_Mdl_find rm_Mdl_find F0 3 [xr (some m), xi q, xi s, xi fz, xi fl, xi ((b : Int) + 1), xu] [] μ) :
    ∀ (d a : Nat), a + d = 128 → r = fn1 (fun x => fitB T H x fl b) s d a → Mw Ω σ0 m M_Mdl_find rm_Mdl_find F0 12 [xr (some m), xi q, xi s, xi fz, xi fl, xi b, xi a] [] μ := by
  intro d
  induction d with
  | zero =>
    intro a ha he
    exact B_find_12 ⟨by omega, fun _ => o2 he, fun z => absurd (by omega) z⟩
  | succ d ih =>
    intro a ha he
    rw [fn1] at he
    refine B_find_12 ⟨by omega, fun z => absurd z (by omega), fun _ => ?_⟩
    refine C_find_30 (K_fits hW hK hB hq (by omega) hfl (by omega)) fun y μ1 hq1 => ?_
    obtain ⟨hz, rfl⟩ := hq1
    rcases hz with ⟨rfl, g⟩ | ⟨rfl, g⟩
    · rw [if_pos (fitB_iff.mpr g)] at he
      exact B_find_33 ⟨by decide, fun z => absurd z (by decide), fun _ => (o1 _ _ he).1⟩
    · rw [if_neg (fun z => g (fitB_iff.mp z))] at he
      refine B_find_33 ⟨by decide, fun _ => ?_, fun z => absurd rfl z⟩
      refine C_find_51 (K_fits hW hK hB hq (by omega) hfl (by omega)) fun y μ1 hq1 => ?_
      obtain ⟨hz, rfl⟩ := hq1
      rcases hz with ⟨rfl, g⟩ | ⟨rfl, g⟩
      · rw [if_pos (fitB_iff.mpr g)] at he
        exact B_find_54 ⟨by decide, fun z => absurd z (by decide), fun _ => (o1 _ _ he).2⟩
      · rw [if_neg (fun z => g (fitB_iff.mp z))] at he
        exact B_find_54 ⟨by decide, fun _ => ih (a + 1) (by omega) he, fun z => absurd rfl z⟩
theorem K_find (hW : WkS T μ) (hK : HkM μ q H) (hB : HnB H) (hq : q < 210) (hT : T.length ≤ 40) (hs : -40 ≤ s ∧ s ≤ 80) (hfl : 0 ≤ fl ∧ fl ≤ 1000) (hf : fz ≤ 2) : MMi Ω m M_Mdl_find rm_Mdl_find (fun y μ' => y = (findN T H s fl fz).getD (-1) ∧ μ' = μ) μ [xi q, xi s, xi fz, xi fl] := by
  have hc := find_cut (H := H) (fz := fz) hT hs hfl.1
  refine E_find fun σ0 => B_find_0 ?_
  have loop : ∀ (d b : Nat), b + d = fz + 1 → fn2 (fun b x => fitB T H x fl b) s 128 d b = findN T H s fl fz → Mw Ω σ0 m M_Mdl_find rm_Mdl_find (MQi Ω σ0 m rm_Mdl_find (fun y μ' => y = (findN T H s fl fz).getD (-1) ∧ μ' = μ)) 3 [xr (some m), xi q, xi s, xi fz, xi fl, xi b, xu] [] μ := by
    intro d
    induction d with
    | zero =>
      intro b hb he
      refine B_find_3 ⟨by omega, by omega, fun _ => R_find_75 ⟨?_, rfl⟩, fun z => absurd (by omega) z⟩
      rw [← he]; rfl
    | succ d ih =>
      intro b hb he
      rw [fn2] at he
      refine B_find_3 ⟨by omega, by omega, fun z => absurd z (by omega), fun _ => ?_⟩
      refine find_loop1 (r := fn1 (fun x => fitB T H x fl b) s 128 0) hW hK hB hq (by omega) hfl hf (by omega) (fun z x hx => ?_) (fun hx => ?_) 128 0 rfl rfl
      · rw [hx] at he
        have ey : x = (findN T H s fl fz).getD (-1) := by rw [← he]; rfl
        exact ⟨R_find_40 ⟨ey, rfl⟩, R_find_61 ⟨ey, rfl⟩⟩
      · rw [hx] at he
        exact ih (b + 1) (by omega) he
  exact loop (fz + 1) 0 (Nat.zero_add _) hc
/-- the same signs -/
theorem lnA_congr (h : T'.map (·.1) = T.map (·.1)) (p : Int) : lnA T' p = lnA T p := by
  have e : ∀ k : Nat, (T'[k]?).map (·.1) = (T[k]?).map (·.1) := fun k => by rw [← List.getElem?_map, ← List.getElem?_map, h]
  unfold lnA
  split
  · have := e p.toNat
    cases h1 : T'[p.toNat]? with
    | none =>
      rw [h1] at this
      cases h2 : T[p.toNat]? with
      | none => rfl
      | some y => rw [h2] at this; cases this
    | some y =>
      rw [h1] at this
      cases h2 : T[p.toNat]? with
      | none => rw [h2] at this; cases this
      | some z => rw [h2] at this; exact Option.some.inj this
  · rfl
theorem fitP_congr (h : T'.map (·.1) = T.map (·.1)) {x : Int} : fitP T' H x fl fz ↔ fitP T H x fl fz := by
  have hl : T'.length = T.length := by have := congrArg List.length h; rwa [List.length_map, List.length_map] at this
  unfold fitP standsP
  simp only [lnA_congr h, hl]
theorem findN_congr (h : T'.map (·.1) = T.map (·.1)) : findN T' H s fl fz = findN T H s fl fz := by
  have hl : T'.length = T.length := by have := congrArg List.length h; rwa [List.length_map, List.length_map] at this
  have e : (fun b x => fitB T' H x fl b) = (fun b x => fitB T H x fl b) := funext fun b => funext fun x => by
    by_cases g : fitP T H x fl b
    · rw [fitB_iff.mpr g, fitB_iff.mpr ((fitP_congr h).mpr g)]
    · have g' : ¬ fitP T' H x fl b := fun z => g ((fitP_congr h).mp z)
      cases h1 : fitB T H x fl b with
      | true => exact absurd (fitB_iff.mp h1) g
      | false =>
        cases h2 : fitB T' H x fl b with
        | true => exact absurd (fitB_iff.mp h2) g'
        | false => rfl
  unfold findN
  rw [e, hl]
end FND
theorem nmL_append {F : List (Int64 × Int)} {w : Int} : ∀ (A B : List (Int64 × Int)) (n : Nat) (au og : Nat → Int), nmL F w (A ++ B) n au og = ((nmL F w A n au og).1 ++ (nmL F w B (nmL F w A n au og).2.1 (nmL F w A n au og).2.2.1 (nmL F w A n au og).2.2.2).1, (nmL F w B (nmL F w A n au og).2.1 (nmL F w A n au og).2.2.1 (nmL F w A n au og).2.2.2).2)
  | [], B, n, au, og => rfl
  | x :: A, B, n, au, og => by
    show nmL F w (x :: (A ++ B)) n au og = _
    rw [nmL, nmL]
    by_cases e : x.2 = -1
    · rw [if_pos e, if_pos e, nmL_append A B]; rfl
    · rw [if_neg e, if_neg e, nmL_append A B]; rfl
theorem nmL_fst {F : List (Int64 × Int)} {w : Int} : ∀ (T : List (Int64 × Int)) (n : Nat) (au og : Nat → Int), ((nmL F w T n au og).1).map (·.1) = T.map (·.1)
  | [], n, au, og => rfl
  | x :: T, n, au, og => by
    rw [nmL]
    split
    · show x.1 :: _ = x.1 :: _; rw [nmL_fst T]
    · show x.1 :: _ = x.1 :: _; rw [nmL_fst T]
theorem nmL_len {F : List (Int64 × Int)} {w : Int} (T : List (Int64 × Int)) (n : Nat) (au og : Nat → Int) : ((nmL F w T n au og).1).length = T.length := by
  have := congrArg List.length (nmL_fst (F := F) (w := w) T n au og)
  rwa [List.length_map, List.length_map] at this
theorem nmL_n {F : List (Int64 × Int)} {w : Int} : ∀ (T : List (Int64 × Int)) (n : Nat) (au og : Nat → Int), (nmL F w T n au og).2.1 = n + noN T
  | [], n, au, og => rfl
  | x :: T, n, au, og => by
    rw [nmL, noN]
    split
    · show (nmL F w T (n + 1) _ _).2.1 = _; rw [nmL_n T]; omega
    · exact nmL_n T n au og
/-- all new names are there -/
theorem nmL_all {F : List (Int64 × Int)} {w : Int} : ∀ (T : List (Int64 × Int)) (n : Nat) (au og : Nat → Int) (i : Nat), n ≤ i → i < (nmL F w T n au og).2.1 → ∃ y ∈ (nmL F w T n au og).1, y.2 = (i : Int)
  | [], n, au, og, i, h1, h2 => absurd h2 (by show ¬ i < n; omega)
  | x :: T, n, au, og, i, h1, h2 => by
    rw [nmL] at h2 ⊢
    by_cases e : x.2 = -1
    · rw [if_pos e] at h2 ⊢
      by_cases ei : i = n
      · exact ⟨(x.1, (n : Int)), List.mem_cons_self .., by rw [ei]⟩
      · obtain ⟨y, y1, y2⟩ := nmL_all T (n + 1) _ _ i (by omega) h2
        exact ⟨y, List.mem_cons_of_mem _ y1, y2⟩
    · rw [if_neg e] at h2 ⊢
      obtain ⟨y, y1, y2⟩ := nmL_all T n au og i h1 h2
      exact ⟨y, List.mem_cons_of_mem _ y1, y2⟩
