/-! BY HAND: merging, by the reference: rows, lines, pieces laid -/
theorem opG_lt : ∀ (k : Nat) (cl : List Cnl), ∀ y ∈ opG k cl, -1 - ((k + cl.length : Nat) : Int) < y
  | _, [], y, h => by cases h
  | k, c :: cl, y, h => by
    simp only [opG] at h
    rw [List.length_cons]
    split at h
    · rcases List.mem_cons.mp h with g | g
      · omega
      · have := opG_lt (k + 1) cl y g; omega
    · have := opG_lt (k + 1) cl y h; omega
theorem opG_snoc : ∀ (k : Nat) (cl : List Cnl) (c : Cnl), cnS c = 0 → opG k (cl ++ [c]) = opG k cl ++ [-1 - ((k + cl.length : Nat) : Int)]
  | k, [], c, h => by
    show (if cnS c = 0 then _ else _) = _
    rw [if_pos h]; rfl
  | k, d :: cl, c, h => by
    have ih := opG_snoc (k + 1) cl c h
    rw [show k + 1 + cl.length = k + (d :: cl).length by rw [List.length_cons]; omega] at ih
    rw [List.cons_append]
    simp only [opG]
    rw [ih]
    split <;> rfl
theorem RwV.app {R : List Int} {T L : List (Int64 × Int)} {cl : List Cnl} (h : RwV R (nmT T) cl) (hL : ∀ y ∈ nmT L, 0 ≤ y) : RwV (R ++ nmT L) (nmT (T ++ L)) cl := by
  obtain ⟨h1, h2, h3⟩ := h
  refine ⟨?_, ?_, fun A C i c hR hc => ?_⟩
  · rw [List.filter_append, h1, List.filter_eq_self.mpr (fun y hy => decide_eq_true (hL y hy))]
    unfold nmT; rw [List.map_append]
  · rw [List.filter_append, h2, List.filter_eq_nil_iff.mpr (fun y hy => by rw [decide_eq_true (hL y hy)]; decide), List.append_nil]
  · rcases List.append_eq_append_iff.mp hR with ⟨B, b1, b2⟩ | ⟨B, b1, b2⟩
    · have := hL (-1 - (i : Int)) (by rw [b2]; simp)
      omega
    · cases B with
      | nil =>
        have := hL (-1 - (i : Int)) (by rw [← List.nil_append (nmT L), ← b2]; exact List.mem_cons_self ..)
        omega
      | cons y B =>
        have e1 := (List.cons.inj (show (-1 - (i : Int)) :: C = y :: (B ++ nmT L) from b2)).1
        subst e1
        exact h3 A B i c b1 hc
theorem RwV.cnf {R : List Int} {T : List (Int64 × Int)} {cl : List Cnl} {c : Cnl} (h : RwV R (nmT T) cl) (hs : cnS c = 0) (hp : cnP c = T.length) : RwV (R ++ [-1 - (cl.length : Int)]) (nmT T) (cl ++ [c]) := by
  have hln := h.ln
  rw [List.length_map] at hln
  obtain ⟨h1, h2, h3⟩ := h
  refine ⟨?_, ?_, fun A C i c' hR hc => ?_⟩
  · rw [List.filter_append, h1, List.filter_cons_of_neg (by rw [decide_eq_false (by omega)]; decide), List.filter_nil, List.append_nil]
  · rw [List.filter_append, h2, List.filter_cons_of_pos (by rw [decide_eq_false (by omega)]; rfl), List.filter_nil]
    show _ = opG 0 (cl ++ [c])
    rw [opG_snoc 0 cl c hs, Nat.zero_add]; rfl
  · have nR : ∀ A B (j : Nat), R = A ++ (-1 - (j : Int)) :: B → j < cl.length := fun A B j e => by
      have m1 : (-1 - (j : Int)) ∈ R.filter (fun y => !decide (0 ≤ y)) := List.mem_filter.mpr ⟨by rw [e]; simp, by rw [decide_eq_false (by omega)]; rfl⟩
      rw [h2] at m1
      have := opG_lt 0 cl _ m1
      omega
    have hi : i < cl.length ∨ i = cl.length := by
      have := (List.getElem?_eq_some_iff.mp hc).1
      rw [List.length_append, List.length_singleton] at this
      omega
    rcases List.append_eq_append_iff.mp hR with ⟨B, b1, b2⟩ | ⟨B, b1, b2⟩
    · cases B with
      | nil =>
        have e1 := (List.cons.inj (show [-1 - (cl.length : Int)] = (-1 - (i : Int)) :: C from b2)).1
        have ei : i = cl.length := by omega
        rw [List.append_nil] at b1
        rw [ei, List.getElem?_append_right (Nat.le_refl _), Nat.sub_self] at hc
        have ec : c = c' := Option.some.inj hc
        rw [b1, ← ec, hp, hln]
      | cons y B =>
        have := (List.cons.inj (show [-1 - (cl.length : Int)] = y :: (B ++ (-1 - (i : Int)) :: C) from b2)).2
        have := congrArg List.length this
        simp at this
    · cases B with
      | nil =>
        have e1 := (List.cons.inj (show (-1 - (i : Int)) :: C = [-1 - (cl.length : Int)] from b2)).1
        have ei : i = cl.length := by omega
        rw [List.append_nil] at b1
        rw [ei, List.getElem?_append_right (Nat.le_refl _), Nat.sub_self] at hc
        have ec : c = c' := Option.some.inj hc
        rw [← b1, ← ec, hp, hln]
      | cons y B =>
        have e1 := (List.cons.inj (show (-1 - (i : Int)) :: C = y :: (B ++ [-1 - (cl.length : Int)]) from b2)).1
        subst e1
        have li := nR A B i b1
        rw [List.getElem?_append_left li] at hc
        exact h3 A B i c' b1 hc
section MGR
variable {Ω : Om} {m : Nat} {μ : Mu} {V : List VR} {v w f t : Int}
theorem RowV.snoc {R : List Int} {x : Int} (h : RowV R μ) (h60 : R.length < 60) : RowV (R ++ [x]) (wI (wA μ 9 R.length x) 15 ((R.length : Int) + 1)) := by
  refine ⟨by rw [mI_wI, if_pos rfl, List.length_append]; rfl, by rw [List.length_append, List.length_singleton]; omega, fun i y hy => ?_⟩
  rw [mA_wI, mA_wA]
  rcases snoc_get hy with ⟨h1, h2⟩ | ⟨h1, h2⟩
  · rw [if_neg (by omega)]; exact h.2.2 i y h2
  · rw [if_pos ⟨rfl, h1⟩]; exact h2.symm
theorem K_layLines0 (hf : Q32 f) (ht : Q32 t) : MMi Ω m M_Mdl_layLines rm_Mdl_layLines (fun y μ' => y = t - f ∧ μ' = μ) μ [xi v, xi f, xi t, xi 0] :=
  E_layLines fun σ0 => B_layLines_0 (B_layLines_3 ⟨hf, ht, fun _ => R_layLines_54 ⟨rfl, rfl⟩, fun _ => ⟨by decide, fun _ => R_layLines_54 ⟨rfl, rfl⟩, fun z => absurd rfl z⟩⟩)
theorem layLines_loop {σ0 : Sto} {R : List Int} {T : List (Int64 × Int)} (eT : T = vtx V v) (hV : VeV V μ) (v0 : 0 ≤ v ∧ v < V.length) (h20 : T.length ≤ 20) (hf : 0 ≤ f ∧ f ≤ t ∧ t ≤ T.length) (h60 : (R.length : Int) + (t - f) ≤ 60) : ∀ (d : Nat) (i : Int) (μ1 : Mu), t - i = d → f ≤ i → Fr [15] [9] [] μ μ1 → RowV (R ++ nmT (slice T f i)) μ1 → Mw Ω σ0 m M_Mdl_layLines rm_Mdl_layLines (MQi Ω σ0 m rm_Mdl_layLines (fun y μ' => y = t - f ∧ Fr [15] [9] [] μ μ' ∧ RowV (R ++ nmT (slice T f t)) μ')) 3 [xr (some m), xi v, xi f, xi t, xi 1, xi i] [] μ1 := by
  have h40 := hV.2.1
  intro d
  induction d with
  | zero =>
    intro i μ1 hd hi hF hR
    have e : i = t := by omega
    subst e
    exact B_layLines_3 ⟨by omega, by omega, fun _ => R_layLines_54 ⟨rfl, hF, hR⟩, fun z => absurd (Int.le_refl _) z⟩
  | succ d ih =>
    intro i μ1 hd hi hF hR
    obtain ⟨x, hx⟩ : ∃ x, T[i.toNat]? = some x := ⟨_, List.getElem?_eq_getElem (by omega)⟩
    have t1 : mA μ1 5 (20 * v.toNat + i.toNat) = x.2 := by rw [hF.2.1 5 (by decide)]; exact hV.tx v0.1 v0.2 (by rw [← eT]; exact hx)
    have lR : (R ++ nmT (slice T f i)).length = R.length + (i - f).toNat := by rw [List.length_append, List.length_map, slice_len hf.1 hi (by omega)]
    refine B_layLines_3 ?_
    rw [hR.1, Int.toNat_natCast, show (20 * v + i).toNat = 20 * v.toNat + i.toNat by omega, t1]
    refine ⟨by omega, by omega, fun z => absurd z (by omega), fun _ => ⟨by decide, fun z => absurd z (by decide), fun _ => ⟨by omega, by omega, by omega, by omega, by omega, ?_⟩⟩⟩
    refine ih (i + 1) _ (by omega) (by omega) ((hF.trans (Fr.wA (by decide))).trans (Fr.wI (by decide))) ?_
    have g := hR.snoc (x := x.2) (by omega)
    rw [slice_succ hf.1 hi hx]
    unfold nmT at g ⊢
    rw [List.map_append, ← List.append_assoc]
    exact g
theorem K_layLines1 {R : List Int} (hV : VeV V μ) (v0 : 0 ≤ v ∧ v < V.length) (h20 : (vtx V v).length ≤ 20) (hR : RowV R μ) (hf : 0 ≤ f ∧ f ≤ t ∧ t ≤ (vtx V v).length) (h60 : (R.length : Int) + (t - f) ≤ 60) : MMi Ω m M_Mdl_layLines rm_Mdl_layLines (fun y μ' => y = t - f ∧ Fr [15] [9] [] μ μ' ∧ RowV (R ++ nmT (slice (vtx V v) f t)) μ') μ [xi v, xi f, xi t, xi 1] :=
  E_layLines fun σ0 => B_layLines_0 (layLines_loop rfl hV v0 h20 hf h60 (t - f).toNat f μ (by omega) (Int.le_refl _) Fr.rf (by rw [slice_0]; show RowV (R ++ []) μ; rw [List.append_nil]; exact hR))
/-- a piece that is kept -/
def PcE (μ : Mu) (q : Nat) (z : Int) (L : List (Int64 × Int)) : Prop := mA μ 10 q = z ∧ ∀ (k : Nat) x, L[k]? = some x → mA μ 11 (20 * q + k) = x.2
theorem PcE.fr {μ' : Mu} {fs js gs : List Nat} {q : Nat} {z : Int} {L : List (Int64 × Int)} (h : PcE μ q z L) (k : Fr fs js gs μ μ') (h1 : 10 ∉ js ∧ 11 ∉ js) : PcE μ' q z L := by
  unfold PcE
  rw [k.2.1 10 h1.1, k.2.1 11 h1.2]; exact h
abbrev QPc (μ : Mu) (q : Nat) (z : Int) (L : List (Int64 × Int)) : Mu → Prop := fun μ' => Fr [] [10, 11] [] μ μ' ∧ PcE μ' q z L ∧ ∀ q' z' L', q' < q → L'.length ≤ 20 → PcE μ q' z' L' → PcE μ' q' z' L'
theorem layPiece_loop {σ0 : Sto} {T : List (Int64 × Int)} {p q : Nat} (eT : T = vtx V v) (hV : VeV V μ) (v0 : 0 ≤ v ∧ v < V.length) (h20 : T.length ≤ 20) (hf : 0 ≤ f ∧ f ≤ t ∧ t ≤ T.length) (hq : q < 63) : ∀ (d : Nat) (i : Int) (μ1 : Mu), t - i = d → f ≤ i → QPc μ q (t - f) (slice T f i) μ1 → Mw Ω σ0 m M_Mdl_layPiece rm_Mdl_layPiece (MQv Ω σ0 m rm_Mdl_layPiece (QPc μ q (t - f) (slice T f t))) 24 [xr (some m), xi p, xi v, xi f, xi t, xi q, xi i] [] μ1 := by
  have h40 := hV.2.1
  intro d
  induction d with
  | zero =>
    intro i μ1 hd hi hQ
    have e : i = t := by omega
    subst e
    exact B_layPiece_24 ⟨by omega, by omega, fun _ => R_layPiece_64 hQ, fun z => absurd (Int.le_refl _) z⟩
  | succ d ih =>
    intro i μ1 hd hi hQ
    obtain ⟨hF, ⟨h1, h2⟩, h3⟩ := hQ
    obtain ⟨x, hx⟩ : ∃ x, T[i.toNat]? = some x := ⟨_, List.getElem?_eq_getElem (by omega)⟩
    have t1 : mA μ1 5 (20 * v.toNat + i.toNat) = x.2 := by rw [hF.2.1 5 (by decide)]; exact hV.tx v0.1 v0.2 (by rw [← eT]; exact hx)
    have ls := slice_len (S := T) hf.1 hi (by omega)
    refine B_layPiece_24 ?_
    rw [show (20 * v + i).toNat = 20 * v.toNat + i.toNat by omega, t1, show (20 * (q : Int) + i - f).toNat = 20 * q + (i - f).toNat by omega]
    refine ⟨by omega, by omega, fun z => absurd z (by omega), fun _ => ⟨by omega, by omega, by omega, by omega, ?_⟩⟩
    refine ih (i + 1) _ (by omega) (by omega) ⟨hF.trans (Fr.wA (by decide)), ⟨by rw [mA_wA, if_neg (by omega)]; exact h1, fun k y hy => ?_⟩, fun q' z' L' hq' hl hE => ⟨by rw [mA_wA, if_neg (by omega)]; exact (h3 q' z' L' hq' hl hE).1, fun k y hy => ?_⟩⟩
    · rw [slice_succ hf.1 hi hx] at hy
      rw [mA_wA]
      rcases snoc_get hy with ⟨g1, g2⟩ | ⟨g1, g2⟩
      · rw [if_neg (by omega)]; exact h2 k y g2
      · rw [if_pos ⟨rfl, by omega⟩, g2]
    · have := (List.getElem?_eq_some_iff.mp hy).1
      rw [mA_wA, if_neg (by omega)]; exact (h3 q' z' L' hq' hl hE).2 k y hy
theorem K_layPiece {p n : Nat} (hV : VeV V μ) (v0 : 0 ≤ v ∧ v < V.length) (h20 : (vtx V v).length ≤ 20) (hf : 0 ≤ f ∧ f ≤ t ∧ t ≤ (vtx V v).length) (h17 : mI μ 17 = n) (hn : n < 21) (hp : p < 3) : MMv Ω m M_Mdl_layPiece rm_Mdl_layPiece (QPc μ (3 * n + p) (t - f) (slice (vtx V v) f t)) μ [xi p, xi v, xi f, xi t] := by
  refine E_layPiece fun σ0 => B_layPiece_0 ?_
  rw [h17, show 3 * (n : Int) + (p : Int) = ((3 * n + p : Nat) : Int) by omega, Int.toNat_natCast]
  refine ⟨by omega, by omega, by omega, layPiece_loop rfl hV v0 h20 hf (by omega) (t - f).toNat f _ (by omega) (Int.le_refl _) ⟨Fr.wA (by decide), ⟨by rw [mA_wA, if_pos ⟨rfl, rfl⟩], fun k x hx => ?_⟩, fun q' z' L' hq' hl hE => ⟨?_, fun k x hx => ?_⟩⟩⟩
  · rw [slice_0] at hx; cases hx
  · rw [mA_wA, if_neg (by omega)]; exact hE.1
  · rw [mA_wA, if_neg (by omega)]; exact hE.2 k x hx
end MGR
