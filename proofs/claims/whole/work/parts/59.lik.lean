/-! BY HAND: how alike two lines are, in the class -/
def lkN (x y : Int64) : Int := if (0 : Int) < (lenL x : Int) + lenL y then bDiv (200 * (cmN x y : Int)) ((lenL x : Int) + lenL y) else 0
theorem cmN_le (x y : Int64) : cmN x y ≤ lenL x := lcP_le x y _ _
section LIK
variable {Ω : Om} {σ0 : Sto} {x y : Int64}
theorem k_Lbk_likenessOf : MC Ω M_Lbk_likenessOf rm_Lbk_likenessOf (RI fun r σ' => Keep σ0 σ' No ∧ r = lkN x y) XN σ0 [xl x, xl y] := by
  have hx := lenL_le x
  have hy := lenL_le y
  refine e_Lbk_likenessOf (b_Lbk_likenessOf_0 ?_)
  refine c_Lbk_likenessOf_1 (k_Lbk_lengthOf) (by decide) (by decide) (by first | decide | omega) (by first | decide | omega) (Nat.le_of_ble_eq_true rfl) (fun z σ1 hq => ?_) (fun _ _ hx => hx.elim)
  obtain ⟨rfl, rfl⟩ := hq
  refine b_Lbk_likenessOf_4 ?_
  refine c_Lbk_likenessOf_5 (k_Lbk_lengthOf) (by decide) (by decide) (by first | decide | omega) (by first | decide | omega) (Nat.le_of_ble_eq_true rfl) (fun z σ2 hq => ?_) (fun _ _ hx => hx.elim)
  obtain ⟨rfl, rfl⟩ := hq
  refine b_Lbk_likenessOf_8 ⟨by omega, fun c => ?_, fun c => ?_⟩
  · refine c_Lbk_likenessOf_25 (k_Lbk_commonSigns) (by decide) (by decide) (by first | decide | omega) (by first | decide | omega) (Nat.le_of_ble_eq_true rfl) (fun z σ3 hq => ?_) (fun _ _ hx => hx.elim)
    obtain ⟨hk, rfl⟩ := hq
    refine b_Lbk_likenessOf_28 ⟨by omega, by omega, ?_⟩
    refine r_Lbk_likenessOf_32 ⟨_, rfl, hk, ?_⟩ (by decide) (by decide)
    rw [lkN, if_pos c]
  · refine r_Lbk_likenessOf_32 ⟨_, rfl, Keep.rf, ?_⟩ (by decide) (by decide)
    rw [lkN, if_neg c]
end LIK
