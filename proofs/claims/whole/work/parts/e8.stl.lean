/-! BY HAND: edits of the draft, by the reference, 6: settle's program -/
section STL
variable {Ω : Om} {m : Nat} {μ : Mu} {S : St} {c how : Int}
theorem putPiece_loop {σ0 : Sto} {A C L : List Int} {q : Nat} (hq : q < 63) (hL : mA μ 10 q = L.length) (hx : ∀ (k : Nat) x, L[k]? = some x → mA μ 11 (20 * q + k) = x) (l20 : L.length ≤ 20) (h60 : A.length + L.length + C.length < 60) (hQ : ∀ x ∈ L, Q32 x) : ∀ (d k : Nat) (μ1 : Mu), k + d = L.length → Fr [15] [9] [] μ μ1 → RowV (A ++ (L.take k ++ C)) μ1 → Mw Ω σ0 m M_Mdl_putPiece rm_Mdl_putPiece (MQi Ω σ0 m rm_Mdl_putPiece (fun y μ' => y = A.length + L.length ∧ Fr [15] [9] [] μ μ' ∧ RowV (A ++ (L ++ C)) μ')) 2 [xr (some m), xi (A.length : Nat), xi q, xi k] [] μ1 := by
  intro d
  induction d with
  | zero =>
    intro k μ1 hk hF hV
    rw [List.take_of_length_le (by omega)] at hV
    refine B_putPiece_2 ?_
    rw [Int.toNat_natCast, hF.2.1 10 (by decide), hL]
    exact ⟨by omega, by omega, by omega, fun _ => R_putPiece_44 ⟨rfl, hF, hV⟩, fun z => absurd (by omega) z⟩
  | succ d ih =>
    intro k μ1 hk hF hV
    obtain ⟨x, hx'⟩ : ∃ x, L[k]? = some x := ⟨_, List.getElem?_eq_getElem (by omega)⟩
    have lt : (L.take k).length = k := by rw [List.length_take]; omega
    have lA : (A ++ (L.take k ++ C)).length = A.length + k + C.length := by rw [List.length_append, List.length_append, lt]; omega
    refine B_putPiece_2 ?_
    rw [Int.toNat_natCast, show (20 * (q : Int) + (k : Int)).toNat = 20 * q + k by omega, hF.2.1 10 (by decide), hL, hF.2.1 11 (by decide), hx k x hx']
    refine ⟨by omega, by omega, by omega, fun z => absurd z (by omega), fun _ => ⟨by omega, by omega, ?_⟩⟩
    refine C_putPiece_27 (K_putAt hV (by omega) (by omega) (by omega) (hQ x (List.mem_of_getElem? hx'))) fun μ2 hq2 => B_putPiece_30 (ih (k + 1) μ2 (by omega) (hF.trans hq2.1) ?_)
    have e : (A ++ (L.take k ++ C)).insertIdx ((A.length : Int) + (k : Int)).toNat x = A ++ (L.take (k + 1) ++ C) := by
      rw [← List.append_assoc, ins_at (by rw [List.length_append, lt]; omega), List.take_add_one, hx']
      simp
    rw [← e]
    exact hq2.2
theorem K_putPiece {A C L : List Int} {q : Nat} (hV : RowV (A ++ C) μ) (hq : q < 63) (hL : mA μ 10 q = L.length) (hx : ∀ (k : Nat) x, L[k]? = some x → mA μ 11 (20 * q + k) = x) (l20 : L.length ≤ 20) (h60 : A.length + L.length + C.length < 60) (hQ : ∀ x ∈ L, Q32 x) : MMi Ω m M_Mdl_putPiece rm_Mdl_putPiece (fun y μ' => y = A.length + L.length ∧ Fr [15] [9] [] μ μ' ∧ RowV (A ++ (L ++ C)) μ') μ [xi (A.length : Nat), xi q] :=
  E_putPiece fun σ0 => B_putPiece_0 (putPiece_loop hq hL hx l20 h60 hQ L.length 0 μ (by omega) Fr.rf (by rw [List.take_zero]; exact hV))
theorem settle_find {σ0 : Sto} {F : QF} {A C : List Int} {i : Nat} {v2 v3 v4 v5 v6 v7 v8 : Int} (hV : RowV (A ++ (-1 - (i : Int)) :: C) μ) (hi : i < 100) (hA : (-1 - (i : Int)) ∉ A) (out : Mw Ω σ0 m M_Mdl_settle rm_Mdl_settle F 203 [xr (some m), xi i, xi v2, xi v3, xi v4, xi v5, xi v6, xi v7, xi v8, xi (A.length : Nat)] [xi (A.length : Nat), xr (some m)] μ) : ∀ (d k : Nat), k + d = A.length → Mw Ω σ0 m M_Mdl_settle rm_Mdl_settle F 181 [xr (some m), xi i, xi v2, xi v3, xi v4, xi v5, xi v6, xi v7, xi v8, xi k] [] μ := by
  have l60 := hV.2.1
  rw [List.length_append, List.length_cons] at l60
  intro d
  induction d with
  | zero =>
    intro k hk
    refine B_settle_181 ?_
    rw [Int.toNat_natCast, hV.2.2 k (-1 - (i : Int)) (by rw [List.getElem?_append_right (by omega), show k - A.length = 0 by omega]; rfl)]
    refine ⟨by omega, by omega, by omega, fun _ => ?_, fun z => absurd rfl z⟩
    have ek : k = A.length := by omega
    rw [ek]
    exact out
  | succ d ih =>
    intro k hk
    have hk' : k < A.length := by omega
    refine B_settle_181 ?_
    rw [Int.toNat_natCast, hV.2.2 k A[k] (by rw [List.getElem?_append_left hk', List.getElem?_eq_getElem hk'])]
    refine ⟨by omega, by omega, by omega, fun z => absurd (z ▸ List.getElem_mem hk') hA, fun _ => ?_⟩
    exact ih (k + 1) (by omega)
theorem settle_go {σ0 : Sto} {F : QF} {A C L1 L2 : List Int} {i p1 : Nat} {f2 v2 v3 v4 v7 v8 : Int} (hV : RowV (A ++ (-1 - (i : Int)) :: C) μ) (hi : i < 21) (hA : (-1 - (i : Int)) ∉ A) (hp1 : p1 < 3) (hL1 : mA μ 10 (3 * i + p1) = L1.length) (hx1 : ∀ (k : Nat) x, L1[k]? = some x → mA μ 11 (20 * (3 * i + p1) + k) = x) (hp2 : (f2 = -1 ∧ L2 = []) ∨ ∃ p2 : Nat, p2 < 3 ∧ f2 = p2 ∧ mA μ 10 (3 * i + p2) = L2.length ∧ ∀ (k : Nat) x, L2[k]? = some x → mA μ 11 (20 * (3 * i + p2) + k) = x) (l1 : L1.length ≤ 20) (l2 : L2.length ≤ 20) (h60 : A.length + (L1.length + L2.length) + C.length < 60) (hQ1 : ∀ x ∈ L1, Q32 x) (hQ2 : ∀ x ∈ L2, Q32 x) (hb : Q32 (bOr (mI μ 18) (bShl 1 (i : Int))))
    (out : ∀ (z : Int) μ', Fr [15, 18] [9] [] μ μ' → RowV (A ++ ((L1 ++ L2) ++ C)) μ' → mI μ' 18 = bOr (mI μ 18) (bShl 1 (i : Int)) → Mw Ω σ0 m M_Mdl_settle rm_Mdl_settle F 252 [xr (some m), xi i, xi v2, xi v3, xi v4, xi p1, xi f2, xi v7, xi v8, xi z] [xr (some m)] μ') : Mw Ω σ0 m M_Mdl_settle rm_Mdl_settle F 181 [xr (some m), xi i, xi v2, xi v3, xi v4, xi p1, xi f2, xi v7, xi v8, xi 0] [] μ := by
  have l60 := hV.2.1
  rw [List.length_append, List.length_cons] at l60
  refine settle_find hV (by omega) hA ?_ A.length 0 (by omega)
  refine C_settle_203 (K_takeAt hV (by omega) (by rw [List.length_append, List.length_cons]; omega)) fun μ1 hq1 => B_settle_206 ?_
  rw [Int.toNat_natCast, del_at rfl] at hq1
  obtain ⟨k1, hV1⟩ := hq1
  rw [show 3 * (i : Int) + (p1 : Int) = ((3 * i + p1 : Nat) : Int) by omega]
  refine C_settle_215 (K_putPiece hV1 (by omega) (by rw [k1.2.1 10 (by decide)]; exact hL1) (fun k x hx => by rw [k1.2.1 11 (by decide)]; exact hx1 k x hx) l1 (by omega) hQ1) fun y μ2 hq2 => ?_
  obtain ⟨rfl, k2, hV2⟩ := hq2
  have k12 := k1.trans k2
  have e18 := k12.1 18 (by decide)
  refine B_settle_218 ?_
  rw [e18]
  rcases hp2 with ⟨e, eL⟩ | ⟨p2, q1, e, q3, q4⟩
  · subst e
    subst eL
    refine ⟨by decide, fun _ => ⟨hb, out _ _ ((k12.mono (by decide) (by decide) (by decide)).trans (Fr.wI (by decide))) ?_ ?_⟩, fun z => absurd rfl z⟩
    · rw [List.append_nil]
      exact hV2.fr (Fr.wI (fs := [18]) (js := []) (gs := []) (by decide)) (by decide) (by decide)
    · rw [mI_wI, if_pos rfl]
  · refine ⟨by omega, fun z => absurd z (by omega), fun _ => ?_⟩
    rw [e, show 3 * (i : Int) + (p2 : Int) = ((3 * i + p2 : Nat) : Int) by omega, show (A.length : Int) + (L1.length : Int) = ((A ++ L1).length : Nat) by rw [List.length_append]; omega]
    rw [← List.append_assoc] at hV2
    refine C_settle_235 (K_putPiece (L := L2) hV2 (by omega) (by rw [k12.2.1 10 (by decide)]; exact q3) (fun k x hx => by rw [k12.2.1 11 (by decide)]; exact q4 k x hx) l2 (by rw [List.length_append]; omega) hQ2) fun y μ3 hq3 => ?_
    obtain ⟨rfl, k3, hV3⟩ := hq3
    have k13 := k12.trans k3
    refine B_settle_238 ?_
    rw [k13.1 18 (by decide), ← e]
    refine ⟨hb, out _ _ ((k13.mono (by decide) (by decide) (by decide)).trans (Fr.wI (by decide))) ?_ ?_⟩
    · rw [List.append_assoc] at hV3
      rw [List.append_assoc]
      exact hV3.fr (Fr.wI (fs := [18]) (js := []) (gs := []) (by decide)) (by decide) (by decide)
    · rw [mI_wI, if_pos rfl]
def fst5 (how : Int) : Int := if how = 4 then 1 else if how = 3 then 0 else how
def snd5 (how : Int) : Int := if how = 4 then 0 else if how = 3 then 1 else -1
/-- the lines that a way to settle puts in -/
def stL (F S B : List (Int64 × Int)) (c : Cnl) (how : Int) : List (Int64 × Int) :=
  if how = 3 then slice F (cnF c 0) (cnT c 0) ++ slice S (cnF c 1) (cnT c 1)
  else if how = 4 then slice S (cnF c 1) (cnT c 1) ++ slice F (cnF c 0) (cnT c 0)
  else slice (t3 F S B how.toNat) (cnF c how.toNat) (cnT c how.toNat)
theorem stT_eq {F S B T : List (Int64 × Int)} {c : Cnl} {how : Int} : stT F S B T c how = T.take (cnP c).toNat ++ stL F S B c how ++ T.drop (cnP c).toNat := by
  unfold stT stL
  split
  · rfl
  · split <;> rfl
theorem stL_len {F S B : List (Int64 × Int)} {c : Cnl} {how : Int} (hb : CnB c F S B) (h : 0 ≤ how ∧ how ≤ 4) : cnL c how = (stL F S B c how).length := by
  have b0 := hb.at 0
  have b1 := hb.at 1
  have bh := hb.at how.toNat
  have s0 := slice_len (S := F) b0.1 b0.2.1 b0.2.2
  have s1 := slice_len (S := S) b1.1 b1.2.1 b1.2.2
  have z0 : cnZ c 0 = cnT c 0 - cnF c 0 := if_pos (by decide)
  have z1 : cnZ c 1 = cnT c 1 - cnF c 1 := if_pos (by decide)
  unfold cnL stL
  by_cases e3 : how = 3
  · rw [if_pos (Or.inl e3), if_pos e3, List.length_append, s0, s1, z0, z1]; omega
  · rw [if_neg e3]
    by_cases e4 : how = 4
    · rw [if_pos (Or.inr e4), if_pos e4, List.length_append, s0, s1, z0, z1]; omega
    · rw [if_neg (fun z => z.elim e3 e4), if_neg e4, slice_len bh.1 bh.2.1 bh.2.2]
      unfold cnZ
      rw [if_pos (by omega)]; omega
theorem slice_mem {T : List (Int64 × Int)} {f t : Int} {y : Int64 × Int} (h : y ∈ slice T f t) : y ∈ T := List.mem_of_mem_drop (List.mem_of_mem_take h)
theorem stL_mem {F S B : List (Int64 × Int)} {c : Cnl} {how : Int} {y : Int64 × Int} (h : y ∈ stL F S B c how) : y ∈ F ∨ y ∈ S ∨ y ∈ B := by
  unfold stL at h
  split at h
  · rcases List.mem_append.mp h with g | g
    · exact Or.inl (slice_mem g)
    · exact Or.inr (Or.inl (slice_mem g))
  · split at h
    · rcases List.mem_append.mp h with g | g
      · exact Or.inr (Or.inl (slice_mem g))
      · exact Or.inl (slice_mem g)
    · have g := slice_mem h
      unfold t3 at g
      split at g
      · exact Or.inl g
      · split at g
        · exact Or.inr (Or.inl g)
        · exact Or.inr (Or.inr g)
theorem src_nm {V : List VR} {b : BR} {r : DR} (hN : ∀ v : Int, Nm b (vtx V v)) : Nm b (srcF V r) ∧ Nm b (srcS V r) ∧ Nm b (srcB V r) := by
  refine ⟨hN _, ?_, ?_⟩
  · unfold srcS
    split
    · intro y hy; cases hy
    · exact hN _
  · unfold srcB
    split
    · intro y hy; cases hy
    · exact hN _
theorem src_20 {V : List VR} {r : DR} (h20 : ∀ v : Int, (vtx V v).length ≤ 20) : (srcF V r).length ≤ 20 ∧ (srcS V r).length ≤ 20 ∧ (srcB V r).length ≤ 20 := by
  refine ⟨h20 _, ?_, ?_⟩
  · unfold srcS
    split
    · exact Nat.zero_le _
    · exact h20 _
  · unfold srcB
    split
    · exact Nat.zero_le _
    · exact h20 _
theorem Nm.stL {b : BR} {F S B : List (Int64 × Int)} {c : Cnl} {how : Int} (hF : Nm b F) (hS : Nm b S) (hB : Nm b B) : Nm b (stL F S B c how) := fun y hy => by
  rcases stL_mem hy with g | g | g
  · exact hF y g
  · exact hS y g
  · exact hB y g
end STL
