/-! BY HAND: versions above versions, by the reference -/
def ob (x : Int64) (i : Nat) : Bool := x.toBitVec.getLsbD i
theorem ob_or (x y : Int64) (i : Nat) : ob (x ||| y) i = (ob x i || ob y i) := by unfold ob; rw [Int64.toBitVec_or, BitVec.getLsbD_or]
theorem ob_and (x y : Int64) (i : Nat) : ob (x &&& y) i = (ob x i && ob y i) := by unfold ob; rw [Int64.toBitVec_and, BitVec.getLsbD_and]
theorem ob_0 (i : Nat) : ob 0 i = false := by unfold ob; exact BitVec.getLsbD_zero
theorem ob_ext {x y : Int64} (h : ∀ i, i < 64 → ob x i = ob y i) : x = y := Int64.toBitVec_inj.mp (BitVec.eq_of_getLsbD_eq (fun i hi => h i hi))
theorem and1 (x : Int64) : x &&& 1 = if ob x 0 = true then 1 else 0 := by
  apply ob_ext
  intro i hi
  rw [ob_and]
  have h1 : ∀ i : Nat, i < 64 → ob 1 i = decide (i = 0) := by decide +kernel
  rw [h1 i hi]
  by_cases e : i = 0
  · subst e
    cases hx : ob x 0 <;> simp [hx, ob_0, h1]
  · rw [decide_eq_false e, Bool.and_false]
    split
    · rw [h1 i hi, decide_eq_false e]
    · rw [ob_0]
theorem ob_ush {x : Int64} {i : Nat} (h : i < 64) : ob (lUsh x (i : Int)) 0 = ob x i := by
  unfold ob lUsh
  have e : ∀ i : Nat, i < 64 → (((Int32.ofInt (i : Int)).toInt64.toUInt64 &&& Int64.toUInt64 63).toBitVec % 64).toNat = i := by decide +kernel
  show (x.toUInt64 >>> _).toBitVec.getLsbD 0 = _
  rw [UInt64.toBitVec_shiftRight, BitVec.ushiftRight_eq', BitVec.getLsbD_ushiftRight, e i h]
  rfl
theorem ob_shr {x : Int64} {i : Nat} (h : i < 64) : ob (lShr x (i : Int)) 0 = ob x i := by
  unfold ob lShr
  have e : ∀ i : Nat, i < 64 → (((Int32.ofInt (i : Int)).toInt64 &&& 63).toBitVec.smod 64).toNat = i := by decide +kernel
  rw [Int64.toBitVec_shiftRight, BitVec.sshiftRight_eq', e i h, BitVec.getLsbD_sshiftRight]
  simp [h]
theorem ob_shl : ∀ k : Nat, k < 41 → ∀ i : Nat, i < 64 → ob (lShl 1 (k : Int)) i = decide (i = k) := by decide +kernel
theorem ush1 {x : Int64} {i : Nat} (h : i < 64) : (lUsh x (i : Int) &&& 1) ≠ 0 ↔ ob x i = true := by
  rw [and1, ob_ush h]
  cases ob x i <;> decide
theorem shr1 {x : Int64} {i : Nat} (h : i < 64) : cmpL (lShr x (i : Int) &&& 1) 1 = 0 ↔ ob x i = true := by
  rw [cmpL_0, and1, ob_shr h]
  cases ob x i <;> decide
/-- what is below a version -/
def FmI (V : List VR) : Prop := V.length ≤ 40 ∧ vrW (vrO V 0) = 0 ∧ ∀ i, 1 ≤ i → i < V.length → vrW (vrO V i) = blW V (vr1 (vrO V i)) ||| blW V (vr2 (vrO V i)) ∧ (0 ≤ vr1 (vrO V i) ∧ vr1 (vrO V i) < i) ∧ (vr2 (vrO V i) = -1 ∨ 0 ≤ vr2 (vrO V i) ∧ vr2 (vrO V i) < i)
section FAM
variable {Ω : Om} {m : Nat} {μ : Mu} {S : St} {V : List VR} {v w p q : Int}
theorem blW_in {i : Nat} (h : i < V.length) : blW V (i : Int) = vrW (vrO V i) ||| lShl 1 (i : Int) := by
  unfold blW; rw [if_pos ⟨by omega, by omega⟩]; rfl
theorem blW_no {x : Int} (h : x < 0) : blW V x = 0 := by unfold blW; rw [if_neg (by omega)]
theorem ob_bl {i j : Nat} (h40 : V.length ≤ 40) (h : i < V.length) (hj : j < 64) : ob (blW V (i : Int)) j = (ob (vrW (vrO V i)) j || decide (j = i)) := by
  rw [blW_in h, ob_or, ob_shl i (by omega) j hj]
theorem fm_lt (hF : FmI V) : ∀ (n i j : Nat), i < n → i < V.length → j < 64 → ob (vrW (vrO V i)) j = true → j < i := by
  intro n
  obtain ⟨h40, h0, h1⟩ := hF
  induction n with
  | zero => intro i j hi; omega
  | succ n ih =>
    intro i j hi hl hj ho
    by_cases e : i = 0
    · subst e; rw [h0, ob_0] at ho; cases ho
    · obtain ⟨g1, g2, g3⟩ := h1 i (by omega) hl
      have bl : ∀ x : Int, 0 ≤ x → x < i → ob (blW V x) j = true → j < i := fun x q1 q2 q3 => by
        obtain ⟨k, rfl⟩ : ∃ k : Nat, x = k := ⟨x.toNat, by omega⟩
        rw [ob_bl h40 (by omega) hj, Bool.or_eq_true] at q3
        rcases q3 with q3 | q3
        · have := ih k j (by omega) (by omega) hj q3; omega
        · have := of_decide_eq_true q3; omega
      rw [g1, ob_or, Bool.or_eq_true] at ho
      rcases ho with ho | ho
      · exact bl _ g2.1 g2.2 ho
      · rcases g3 with g3 | g3
        · rw [g3, blW_no (by decide), ob_0] at ho; cases ho
        · exact bl _ g3.1 g3.2 ho
theorem fm_ns (hF : FmI V) {i j : Nat} (hl : i < V.length) (hj : j < 64) (ho : ob (vrW (vrO V i)) j = true) : j < i := fm_lt hF (i + 1) i j (Nat.lt_succ_self _) hl hj ho
/-- what a set says with all that is below it -/
def fmS (V : List VR) (x : Int64) (k i : Nat) : Prop := ob x i = true ∨ ∃ u, u ≤ k ∧ ob x u = true ∧ ob (blW V (u : Int)) i = true
theorem family_loop {σ0 : Sto} (hF : FmI V) (hV : VeV V μ) (hv : v.toNat < V.length) (hv0 : 0 ≤ v) : ∀ (k : Nat) (x : Int64), k ≤ v.toNat → (∀ i, i < 64 → (ob (blW V v) i = true ↔ fmS V x k i)) → (∀ i, i < 64 → ob x i = true → i < V.length) → Mw Ω σ0 m M_Mdl_family rm_Mdl_family (MQl Ω σ0 m rm_Mdl_family (fun y μ' => y = blW V v ∧ μ' = μ)) 7 [xr (some m), xi v, xl x, xu, xi k] [] μ := by
  intro k
  have h40 := hF.1
  induction k with
  | zero =>
    intro x hk hx hb
    refine B_family_7 ⟨by decide, fun _ => R_family_69 ⟨ob_ext (fun i hi => ?_), rfl⟩, fun c => absurd (Int.le_refl _) c⟩
    rw [Bool.eq_iff_iff, hx i hi]
    refine ⟨fun h => Or.inl h, fun h => h.elim id fun ⟨u, u1, u2, u3⟩ => ?_⟩
    have e : u = 0 := by omega
    subst e
    rw [ob_bl h40 (by omega) hi, hF.2.1, ob_0, Bool.false_or] at u3
    rw [of_decide_eq_true u3]; exact u2
  | succ k ih =>
    intro x hk hx hb
    have hkl : k + 1 < V.length := by omega
    obtain ⟨g1, g2, g3⟩ := hF.2.2 (k + 1) (by omega) hkl
    obtain ⟨-, -, e7, e8, -⟩ := hV.2.2 (k + 1) hkl
    have skip : ¬ ob x (k + 1) = true → Mw Ω σ0 m M_Mdl_family rm_Mdl_family (MQl Ω σ0 m rm_Mdl_family (fun y μ' => y = blW V v ∧ μ' = μ)) 7 [xr (some m), xi v, xl x, xu, xi (((k + 1 : Nat) : Int) + -1)] [] μ := fun c => by
      rw [show ((k + 1 : Nat) : Int) + -1 = (k : Nat) by omega]
      refine ih x (by omega) (fun i hi => (hx i hi).trans ⟨fun h => h.elim Or.inl fun ⟨u, u1, u2, u3⟩ => ?_, fun h => h.elim Or.inl fun ⟨u, u1, u2, u3⟩ => Or.inr ⟨u, by omega, u2, u3⟩⟩) hb
      have : u ≠ k + 1 := fun z => c (z ▸ u2)
      exact Or.inr ⟨u, by omega, u2, u3⟩
    have take : ∀ b : Int64, ob x (k + 1) = true → (∀ i, i < 64 → (ob b i = true ↔ (i : Int) = vr1 (vrO V (k + 1)) ∨ (i : Int) = vr2 (vrO V (k + 1)))) → Mw Ω σ0 m M_Mdl_family rm_Mdl_family (MQl Ω σ0 m rm_Mdl_family (fun y μ' => y = blW V v ∧ μ' = μ)) 7 [xr (some m), xi v, xl (x ||| b), xu, xi (((k + 1 : Nat) : Int) + -1)] [] μ := fun b c hbb => by
      rw [show ((k + 1 : Nat) : Int) + -1 = (k : Nat) by omega]
      have blk : ∀ i, i < 64 → (ob (blW V ((k + 1 : Nat) : Int)) i = true ↔ i = k + 1 ∨ ∃ u, u ≤ k ∧ ob b u = true ∧ ob (blW V (u : Int)) i = true) := fun i hi => by
        rw [ob_bl h40 hkl hi, g1, ob_or, Bool.or_eq_true, Bool.or_eq_true]
        constructor
        · rintro ((h | h) | h)
          · exact Or.inr ⟨(vr1 (vrO V (k + 1))).toNat, by omega, (hbb _ (by omega)).mpr (Or.inl (by omega)), by rw [show (((vr1 (vrO V (k + 1))).toNat : Nat) : Int) = vr1 (vrO V (k + 1)) by omega]; exact h⟩
          · rcases g3 with g3 | g3
            · rw [g3, blW_no (by decide), ob_0] at h; cases h
            · exact Or.inr ⟨(vr2 (vrO V (k + 1))).toNat, by omega, (hbb _ (by omega)).mpr (Or.inr (by omega)), by rw [show (((vr2 (vrO V (k + 1))).toNat : Nat) : Int) = vr2 (vrO V (k + 1)) by omega]; exact h⟩
          · exact Or.inl (of_decide_eq_true h)
        · rintro (h | ⟨u, u1, u2, u3⟩)
          · exact Or.inr (decide_eq_true h)
          · rcases (hbb u (by omega)).mp u2 with e | e
            · rw [e] at u3; exact Or.inl (Or.inl u3)
            · rw [e] at u3; exact Or.inl (Or.inr u3)
      refine ih _ (by omega) (fun i hi => (hx i hi).trans ?_) (fun i hi h => ?_)
      · unfold fmS
        simp only [ob_or, Bool.or_eq_true]
        constructor
        · rintro (h | ⟨u, u1, u2, u3⟩)
          · exact Or.inl (Or.inl h)
          · by_cases e : u = k + 1
            · subst e
              rcases (blk i hi).mp u3 with h | ⟨u', q1, q2, q3⟩
              · exact Or.inl (Or.inl (h ▸ c))
              · exact Or.inr ⟨u', q1, Or.inr q2, q3⟩
            · exact Or.inr ⟨u, by omega, Or.inl u2, u3⟩
        · rintro ((h | h) | ⟨u, u1, u2 | u2, u3⟩)
          · exact Or.inl h
          · refine Or.inr ⟨k + 1, Nat.le_refl _, c, (blk i hi).mpr (Or.inr ⟨i, ?_, h, ?_⟩)⟩
            · rcases (hbb i hi).mp h with e | e <;> omega
            · rw [ob_bl h40 (by rcases (hbb i hi).mp h with e | e <;> omega) hi, decide_eq_true rfl, Bool.or_true]
          · exact Or.inr ⟨u, by omega, u2, u3⟩
          · exact Or.inr ⟨k + 1, Nat.le_refl _, c, (blk i hi).mpr (Or.inr ⟨u, u1, u2, u3⟩)⟩
      · rw [ob_or, Bool.or_eq_true] at h
        rcases h with h | h
        · exact hb i hi h
        · rcases (hbb i hi).mp h with e | e <;> omega
    have o1 : ∀ i, i < 64 → (ob (lShl 1 (vr1 (vrO V (k + 1)))) i = true ↔ (i : Int) = vr1 (vrO V (k + 1))) := fun i hi => by
      obtain ⟨a, ha⟩ : ∃ a : Nat, vr1 (vrO V (k + 1)) = a := ⟨(vr1 (vrO V (k + 1))).toNat, by omega⟩
      rw [ha, ob_shl a (by omega) i hi, decide_eq_true_iff]; omega
    refine B_family_7 ⟨by omega, fun c => absurd c (by omega), fun _ => ⟨cmpL_r _ _, fun c => skip (fun z => c ((shr1 (by omega)).mpr z)), fun c => ⟨by omega, by omega, by omega, by omega, fun c2 => ?_, fun c2 => ?_⟩⟩⟩
    · rw [Int.toNat_natCast, e8] at c2
      rw [Int.toNat_natCast, e7, e8, show ∀ a b c : Int64, a ||| b ||| c = a ||| (b ||| c) from fun a b c => ob_ext (fun i _ => by rw [ob_or, ob_or, ob_or, ob_or, Bool.or_assoc])]
      have g3' := g3.resolve_left c2
      refine take _ ((shr1 (by omega)).mp c) (fun i hi => ?_)
      obtain ⟨a, ha⟩ : ∃ a : Nat, vr2 (vrO V (k + 1)) = a := ⟨(vr2 (vrO V (k + 1))).toNat, by omega⟩
      rw [ob_or, Bool.or_eq_true, o1 i hi, ha, ob_shl a (by omega) i hi, decide_eq_true_iff]
      omega
    · rw [Int.toNat_natCast, e8] at c2
      rw [Int.toNat_natCast, e7, show ∀ a b c : Int64, a ||| b ||| c = a ||| (b ||| c) from fun a b c => ob_ext (fun i _ => by rw [ob_or, ob_or, ob_or, ob_or, Bool.or_assoc])]
      refine take _ ((shr1 (by omega)).mp c) (fun i hi => ?_)
      rw [ob_or, ob_0, Bool.or_false, o1 i hi, c2]
      omega
theorem K_family (hF : FmI V) (hV : VeV V μ) (hv0 : 0 ≤ v) (hv : v < V.length) : MMl Ω m M_Mdl_family rm_Mdl_family (fun y μ' => y = blW V v ∧ μ' = μ) μ [xi v] := by
  have h40 := hF.1
  refine E_family fun σ0 => B_family_0 ?_
  have g := family_loop (Ω := Ω) (σ0 := σ0) (m := m) hF hV (v := v) (by omega) hv0 v.toNat (lShl 1 v) (Nat.le_refl _)
  rw [show ((v.toNat : Nat) : Int) = v by omega] at g
  obtain ⟨a, rfl⟩ : ∃ a : Nat, v = a := ⟨v.toNat, by omega⟩
  refine g (fun i hi => ⟨fun h => Or.inr ⟨a, by omega, ?_, h⟩, fun h => ?_⟩) (fun i hi h => ?_)
  · rw [ob_shl a (by omega) a (by omega), decide_eq_true rfl]
  · rcases h with h | ⟨u, u1, u2, u3⟩
    · rw [ob_shl a (by omega) i hi, decide_eq_true_iff] at h
      rw [h, ob_bl h40 (by omega) (by omega), decide_eq_true rfl, Bool.or_true]
    · rw [ob_shl a (by omega) u (by omega), decide_eq_true_iff] at u2
      rw [u2] at u3; exact u3
  · rw [ob_shl a (by omega) i hi, decide_eq_true_iff] at h; omega
theorem K_isOver (hF : FmI V) (hV : VeV V μ) (hv0 : 0 ≤ v) (hv : v < V.length) (hw0 : 0 ≤ w) (hw : w < V.length) : MMi Ω m M_Mdl_isOver rm_Mdl_isOver (fun y μ' => y = bI ((lUsh (vrW (vrO V v.toNat)) w &&& 1) ≠ 0) ∧ μ' = μ) μ [xi v, xi w] := by
  have h40 := hF.1
  obtain ⟨a, rfl⟩ : ∃ a : Nat, v = a := ⟨v.toNat, by omega⟩
  obtain ⟨b, rfl⟩ : ∃ b : Nat, w = b := ⟨w.toNat, by omega⟩
  refine E_isOver fun σ0 => B_isOver_0 ⟨by omega, by omega, fun c => R_isOver_24 (Or.inl rfl) ⟨?_, rfl⟩, fun c => ?_⟩
  · rw [bI_f]
    intro z
    have := fm_ns hF (i := a) (by omega) (by omega) ((ush1 (by omega)).mp z)
    omega
  · refine C_isOver_7 (K_family hF hV hv0 hv) fun y μ1 hq => ?_
    obtain ⟨rfl, rfl⟩ := hq
    have e : ob (blW V (a : Int)) b = ob (vrW (vrO V a)) b := by rw [ob_bl h40 (by omega) (by omega), decide_eq_false (by omega), Bool.or_false]
    refine B_isOver_10 ⟨cmpL_r _ _, fun c2 => R_isOver_24 (Or.inl rfl) ⟨?_, rfl⟩, fun c2 => R_isOver_24 (Or.inr rfl) ⟨?_, rfl⟩⟩
    · rw [bI_f]; intro z; exact c2 ((shr1 (by omega)).mpr (e.trans ((ush1 (by omega)).mp z)))
    · rw [bI_t]; exact (ush1 (by omega)).mpr (e.symm.trans ((shr1 (by omega)).mp c2))
theorem X_isAbove (h : MdV S μ) (hF : FmI (sV S)) (hv : Q32 v) (hw : Q32 w) : MMi Ω m M_Mdl_isAbove rm_Mdl_isAbove (fun y μ' => mI μ' 0 = c1 (isV S v ∧ isV S w) ∧ MdV S μ' ∧ (c1 (isV S v ∧ isV S w) = 0 → y = if (lUsh (vrW (vrO (sV S) v.toNat)) w &&& 1) ≠ 0 then 1 else 0)) μ [xi v, xi w] := by
  have h40 := h.2.1.2.1
  refine E_isAbove fun σ0 => B_isAbove_0 ?_
  have bad : ¬ (isV S v ∧ isV S w) → Mw Ω σ0 m M_Mdl_isAbove rm_Mdl_isAbove (MQi Ω σ0 m rm_Mdl_isAbove (fun y μ' => mI μ' 0 = c1 (isV S v ∧ isV S w) ∧ MdV S μ' ∧ (c1 (isV S v ∧ isV S w) = 0 → y = if (lUsh (vrW (vrO (sV S) v.toNat)) w &&& 1) ≠ 0 then 1 else 0))) 22 [xr (some m), xi v, xi w] [xi 1, xr (some m)] μ := fun c' => by
    refine C_isAbove_22 (K_refused (by decide)) fun y μ2 hq => ?_
    obtain ⟨rfl, rfl⟩ := hq
    refine B_isAbove_25 ⟨bI_q, fun _ => ?_, fun c2 => absurd c2 (by decide)⟩
    refine R_isAbove_42 (Or.inl rfl) ?_
    rw [c1_f c']; exact ⟨mw0, h.w0, fun z => absurd z (by decide)⟩
  refine C_isAbove_3 (K_isVersion hv h.2.1.1 h40) fun y μ1 hq => ?_
  obtain ⟨rfl, rfl⟩ := hq
  refine B_isAbove_6 ⟨bI_q, fun c => bad (fun z => bI_0.mp c z.1), fun c => ?_⟩
  refine C_isAbove_11 (K_isVersion hw h.2.1.1 h40) fun y μ1 hq => ?_
  obtain ⟨rfl, rfl⟩ := hq
  refine B_isAbove_14 ⟨bI_q, fun d => bad (fun z => bI_0.mp d z.2), fun d => ?_⟩
  have c' := bI_1.mp c
  have d' := bI_1.mp d
  refine C_isAbove_22 (K_refused (by decide)) fun y μ2 hq => ?_
  obtain ⟨rfl, rfl⟩ := hq
  refine B_isAbove_25 ⟨bI_q, fun c2 => absurd (show bI ((0 : Int) ≠ 0) = 0 by decide) c2, fun _ => ?_⟩
  have hw0 := h.w0 (v := 0)
  refine C_isAbove_31 (K_isOver hF hw0.2.1 c'.1 c'.2 d'.1 d'.2) fun y μ1 hq => ?_
  obtain ⟨rfl, rfl⟩ := hq
  refine B_isAbove_34 ⟨bI_q, fun e => R_isAbove_42 (Or.inl rfl) ?_, fun e => R_isAbove_42 (Or.inr rfl) ?_⟩
  · rw [c1_t ⟨c', d'⟩, if_neg (bI_0.mp e)]; exact ⟨mw0, hw0, fun _ => rfl⟩
  · rw [c1_t ⟨c', d'⟩, if_pos (bI_1.mp e)]; exact ⟨mw0, hw0, fun _ => rfl⟩
theorem bsF_s (c : Int64) (i : Nat) (h : i < 63) : bsF c (i + 1) = if ob c (i + 1) = true then i + 1 else bsF c i := by
  simp only [bsF]
  by_cases e : ob c (i + 1) = true
  · rw [if_pos ((ush1 (by omega)).mpr e), if_pos e]
  · rw [if_neg (fun z => e ((ush1 (by omega)).mp z)), if_neg e]
theorem bsF_no {c : Int64} {k : Nat} : ∀ d, k + d < 60 → (∀ i, k < i → i ≤ k + d → ob c i = false) → bsF c (k + d) = bsF c k := by
  intro d
  induction d with
  | zero => intro _ _; rfl
  | succ d ih =>
    intro h1 h2
    rw [show k + (d + 1) = (k + d) + 1 by omega, bsF_s c _ (by omega), if_neg (by rw [h2 _ (by omega) (by omega)]; decide)]
    exact ih (by omega) (fun i q1 q2 => h2 i q1 (by omega))
theorem baseOf_loop {σ0 : Sto} {com : Int64} {Q : Int → Mu → Prop} (hV : mI μ 5 = V.length) (h40 : V.length ≤ 40) (h1 : 1 ≤ V.length) (hQ : Q (bsF com (V.length - 1) : Nat) μ) : ∀ (d i : Nat), i + d = V.length → Mw Ω σ0 m M_Mdl_baseOf rm_Mdl_baseOf (MQi Ω σ0 m rm_Mdl_baseOf Q) 18 [xr (some m), xi v, xi w, xl com, xu, xi (bsF com (i - 1) : Nat), xi i] [] μ := by
  intro d
  induction d with
  | zero =>
    intro i hi
    refine B_baseOf_18 ⟨by omega, fun _ => R_baseOf_55 ?_, fun c => absurd (by omega) c⟩
    rw [show i = V.length by omega]; exact hQ
  | succ d ih =>
    intro i hi
    have g := ih (i + 1) (by omega)
    rw [Nat.add_sub_cancel] at g
    refine B_baseOf_18 ⟨by omega, fun c => absurd c (by omega), fun _ => ⟨cmpL_r _ _, fun c => ?_, fun c => ?_⟩⟩
    · have e : ob com i ≠ true := fun z => c ((shr1 (by omega)).mpr z)
      cases i with
      | zero => exact g
      | succ i => rw [bsF_s _ _ (by omega), if_neg e] at g; exact g
    · have e : ob com i = true := (shr1 (by omega)).mp c
      cases i with
      | zero => exact g
      | succ i => rw [bsF_s _ _ (by omega), if_pos e] at g; exact g
theorem K_baseOf (hF : FmI V) (hV : VeV V μ) (hv0 : 0 ≤ v) (hv : v < V.length) (hw0 : 0 ≤ w) (hw : w < V.length) : MMi Ω m M_Mdl_baseOf rm_Mdl_baseOf (fun y μ' => y = bsN V v w ∧ μ' = μ) μ [xi v, xi w] := by
  have h40 := hF.1
  refine E_baseOf fun σ0 => B_baseOf_0 ?_
  refine C_baseOf_2 (K_family hF hV hv0 hv) fun y μ1 hq => ?_
  obtain ⟨rfl, rfl⟩ := hq
  refine B_baseOf_5 ?_
  refine C_baseOf_7 (K_family hF hV hw0 hw) fun y μ2 hq => ?_
  obtain ⟨rfl, rfl⟩ := hq
  refine B_baseOf_10 (baseOf_loop (V := V) hV.1 h40 (by omega) ⟨?_, rfl⟩ V.length 0 (by omega))
  unfold bsN
  have hm : minI v w ≤ v ∧ minI v w ≤ w ∧ 0 ≤ minI v w := by unfold minI; split <;> omega
  have e := bsF_no (c := blW V v &&& blW V w) (k := (minI v w).toNat) (V.length - 1 - (minI v w).toNat) (by omega) (fun i q1 q2 => ?_)
  · rw [show (minI v w).toNat + (V.length - 1 - (minI v w).toNat) = V.length - 1 by omega] at e
    rw [e]
  · obtain ⟨a, rfl⟩ : ∃ a : Nat, v = a := ⟨v.toNat, by omega⟩
    obtain ⟨b, rfl⟩ : ∃ b : Nat, w = b := ⟨w.toNat, by omega⟩
    rw [ob_and, Bool.and_eq_false_iff]
    have no : ∀ c : Nat, c < V.length → c < i → ob (blW V (c : Int)) i = false := fun c z1 z2 => by
      rw [ob_bl h40 z1 (by omega), decide_eq_false (by omega), Bool.or_false]
      cases hx : ob (vrW (vrO V c)) i with
      | false => rfl
      | true => have := fm_ns hF z1 (by omega) hx; omega
    rcases Nat.lt_or_ge a i with z | z
    · exact Or.inl (no a (by omega) z)
    · exact Or.inr (no b (by omega) (by unfold minI at q1; split at q1 <;> omega))
theorem X_base (h : MdV S μ) (hF : FmI (sV S)) (hv : Q32 v) (hw : Q32 w) : MMi Ω m M_Mdl_base rm_Mdl_base (OutI S (c1 (isV S v ∧ isV S w)) (bsN (sV S) v w) S) μ [xi v, xi w] := by
  have h40 := h.2.1.2.1
  refine E_base fun σ0 => B_base_0 ?_
  have bad : ¬ (isV S v ∧ isV S w) → Mw Ω σ0 m M_Mdl_base rm_Mdl_base (MQi Ω σ0 m rm_Mdl_base (OutI S (c1 (isV S v ∧ isV S w)) (bsN (sV S) v w) S)) 22 [xr (some m), xi v, xi w] [xi 1, xr (some m)] μ := fun c' => by
    refine C_base_22 (K_refused (by decide)) fun y μ2 hq => ?_
    obtain ⟨rfl, rfl⟩ := hq
    refine B_base_25 ⟨bI_q, fun c2 => absurd c2 (by decide), fun _ => ?_⟩
    refine R_base_38 ?_
    rw [c1_f c']; exact OutI.no h (by decide)
  refine C_base_3 (K_isVersion hv h.2.1.1 h40) fun y μ1 hq => ?_
  obtain ⟨rfl, rfl⟩ := hq
  refine B_base_6 ⟨bI_q, fun c => bad (fun z => bI_0.mp c z.1), fun c => ?_⟩
  refine C_base_11 (K_isVersion hw h.2.1.1 h40) fun y μ1 hq => ?_
  obtain ⟨rfl, rfl⟩ := hq
  refine B_base_14 ⟨bI_q, fun d => bad (fun z => bI_0.mp d z.2), fun d => ?_⟩
  have c' := bI_1.mp c
  have d' := bI_1.mp d
  refine C_base_22 (K_refused (by decide)) fun y μ2 hq => ?_
  obtain ⟨rfl, rfl⟩ := hq
  refine B_base_25 ⟨bI_q, fun _ => ?_, fun c2 => absurd (show bI ((0 : Int) ≠ 0) = 0 by decide) c2⟩
  have hw0 := h.w0 (v := 0)
  refine C_base_35 (K_baseOf hF hw0.2.1 c'.1 c'.2 d'.1 d'.2) fun y μ1 hq => ?_
  obtain ⟨rfl, rfl⟩ := hq
  rw [c1_t ⟨c', d'⟩]
  exact R_base_38 (OutI.ok mw0 rfl hw0)
end FAM
