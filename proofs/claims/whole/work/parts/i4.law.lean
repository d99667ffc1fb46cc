/-! the law's loop (by program: wip/tools/genlaw4.py) -/
theorem LwI.mono {Ω : Om} {lo x k : Nat} {S : St} {σ : Sto} (h : LwI Ω lo x k S σ) : LwI Ω lo x (k + 1) S σ := ⟨h.1, h.2.1, h.2.2.1, h.2.2.2.mono (by omega)⟩
theorem law_loop {Ω : Om} {lo x : Nat} {Q : Int → Sto → Prop} (b2 : oN Ω ≤ 2560) (hQ : ∀ σ, Q 1 σ) : ∀ (d k : Nat) (S : St) (σ : Sto) (v4 : Int) (K n : Nat), k + d = 512 → v4 = 5 * k → K = 1000 + 530 * k → n = 230000 + 3600 * k → LwI Ω lo x k S σ → Aw Ω M_Law_law rm_Law_law (MF Ω rm_Law_law (RI Q) XN) K n 23 [xr (some (oB Ω)), xr (some x), xr (some (x + 754)), xr (some (x + 792)), xi v4, xu, xu, xu] [] σ := by
  intro d
  induction d with
  | zero =>
    intro k S σ v4 K n hk hv hK hn h
    refine b_Law_law_23 ⟨⟨by omega, by omega⟩, ⟨by omega, by omega⟩, fun _ => r_Law_law_2618 (Or.inr rfl) ⟨_, rfl, hQ _⟩ ?_ ?_, fun c => absurd (by omega) c⟩
    · show K ≤ 600000; omega
    · show n ≤ 7200000; omega
  | succ d ih =>
    intro k S σ v4 K n hk hv hK hn h
    refine b_Law_law_23 ⟨⟨by omega, by omega⟩, ⟨by omega, by omega⟩, fun _ => r_Law_law_2618 (Or.inr rfl) ⟨_, rfl, hQ _⟩ ?_ ?_, fun c => ⟨by omega, by omega, by omega, ?_⟩⟩
    · show K ≤ 600000; omega
    · show n ≤ 7200000; omega
    have b0 : 0 ≤ v4 := by omega
    have b1 : v4 + 4 < oN Ω := by omega
    have b2' : oN Ω < 2147483648 := by omega
    have hk5 : k < 512 := by omega
    have hK' : K + 530 ≤ rm_Law_law.cells := by show K + 530 ≤ 600000; omega
    have hn' : n + 3600 ≤ rm_Law_law.slots := by show n + 3600 ≤ 7200000; omega
    have nx : ∀ σ2 S2, LwI Ω lo x (k + 1) S2 σ2 → Aw Ω M_Law_law rm_Law_law (MF Ω rm_Law_law (RI Q) XN) (K + 530) (n + 3600) 23 [xr (some (oB Ω)), xr (some x), xr (some (x + 754)), xr (some (x + 792)), xi (v4 + 5), xu, xu, xu] [] σ2 := fun σ2 S2 h2 => ih (k + 1) S2 σ2 _ _ _ (by omega) (by omega) (by omega) (by omega) h2
    have hx := bAnd_r ((oX Ω v4.toNat).toInt) (m := 63) 6 (by decide) (by decide)
    have h64 : (2 : Int) ^ 6 = 64 := by decide
    rw [h64] at hx
    obtain ⟨y, hy⟩ : ∃ y, y = bAnd ((oX Ω v4.toNat).toInt) 63 := ⟨_, rfl⟩
    rw [← hy] at hx ⊢
    clear hy ih
    by_cases c37 : 36 < y
    · refine Aw.swOut (tgt := 2611) ⟨by omega, by omega⟩ (Or.inr c37) rfl d_Law_law_39 (b_Law_law_2611 ?_)
      exact Aw.wide (by omega) (by omega) (nx σ S h.mono)
    have cc : y = 0 ∨ y = 1 ∨ y = 2 ∨ y = 3 ∨ y = 4 ∨ y = 5 ∨ y = 6 ∨ y = 7 ∨ y = 8 ∨ y = 9 ∨ y = 10 ∨ y = 11 ∨ y = 12 ∨ y = 13 ∨ y = 14 ∨ y = 15 ∨ y = 16 ∨ y = 17 ∨ y = 18 ∨ y = 19 ∨ y = 20 ∨ y = 21 ∨ y = 22 ∨ y = 23 ∨ y = 24 ∨ y = 25 ∨ y = 26 ∨ y = 27 ∨ y = 28 ∨ y = 29 ∨ y = 30 ∨ y = 31 ∨ y = 32 ∨ y = 33 ∨ y = 34 ∨ y = 35 ∨ y = 36 := by omega
    rcases cc with rfl | rfl | rfl | rfl | rfl | rfl | rfl | rfl | rfl | rfl | rfl | rfl | rfl | rfl | rfl | rfl | rfl | rfl | rfl | rfl | rfl | rfl | rfl | rfl | rfl | rfl | rfl | rfl | rfl | rfl | rfl | rfl | rfl | rfl | rfl | rfl | rfl
    · exact Aw.swIn (off := 161) (tgt := 200) ⟨by decide, by decide⟩ (by decide) (by decide) rfl rfl d_Law_law_39 (W_begin h b0 b1 b2' hK' hn' nx)
    · exact Aw.swIn (off := 229) (tgt := 268) ⟨by decide, by decide⟩ (by decide) (by decide) rfl rfl d_Law_law_39 (W_insert h hk5 b0 b1 b2' hK' hn' nx)
    · exact Aw.swIn (off := 329) (tgt := 368) ⟨by decide, by decide⟩ (by decide) (by decide) rfl rfl d_Law_law_39 (W_remove h hk5 b0 b1 b2' hK' hn' nx)
    · exact Aw.swIn (off := 385) (tgt := 424) ⟨by decide, by decide⟩ (by decide) (by decide) rfl rfl d_Law_law_39 (W_change h hk5 b0 b1 b2' hK' hn' nx)
    · exact Aw.swIn (off := 485) (tgt := 524) ⟨by decide, by decide⟩ (by decide) (by decide) rfl rfl d_Law_law_39 (W_move h hk5 b0 b1 b2' hK' hn' nx)
    · exact Aw.swIn (off := 533) (tgt := 572) ⟨by decide, by decide⟩ (by decide) (by decide) rfl rfl d_Law_law_39 (W_undo h b0 b1 b2' hK' hn' nx)
    · exact Aw.swIn (off := 577) (tgt := 616) ⟨by decide, by decide⟩ (by decide) (by decide) rfl rfl d_Law_law_39 (W_commit h b0 b1 b2' hK' hn' nx)
    · exact Aw.swIn (off := 621) (tgt := 660) ⟨by decide, by decide⟩ (by decide) (by decide) rfl rfl d_Law_law_39 (W_draftLines h b0 b1 b2' hK' hn' nx)
    · exact Aw.swIn (off := 634) (tgt := 673) ⟨by decide, by decide⟩ (by decide) (by decide) rfl rfl d_Law_law_39 (W_draftLine h b0 b1 b2' hK' hn' nx)
    · exact Aw.swIn (off := 689) (tgt := 728) ⟨by decide, by decide⟩ (by decide) (by decide) rfl rfl d_Law_law_39 (W_versions h b0 b1 b2' hK' hn' nx)
    · exact Aw.swIn (off := 702) (tgt := 741) ⟨by decide, by decide⟩ (by decide) (by decide) rfl rfl d_Law_law_39 (W_lines h b0 b1 b2' hK' hn' nx)
    · exact Aw.swIn (off := 758) (tgt := 797) ⟨by decide, by decide⟩ (by decide) (by decide) rfl rfl d_Law_law_39 (W_lineOf h b0 b1 b2' hK' hn' nx)
    · exact Aw.swIn (off := 825) (tgt := 864) ⟨by decide, by decide⟩ (by decide) (by decide) rfl rfl d_Law_law_39 (W_lineAnew h b0 b1 b2' hK' hn' nx)
    · exact Aw.swIn (off := 892) (tgt := 931) ⟨by decide, by decide⟩ (by decide) (by decide) rfl rfl d_Law_law_39 (W_blame h b0 b1 b2' hK' hn' nx)
    · exact Aw.swIn (off := 960) (tgt := 999) ⟨by decide, by decide⟩ (by decide) (by decide) rfl rfl d_Law_law_39 (W_since h b0 b1 b2' hK' hn' nx)
    · exact Aw.swIn (off := 1028) (tgt := 1067) ⟨by decide, by decide⟩ (by decide) (by decide) rfl rfl d_Law_law_39 (W_isAbove h b0 b1 b2' hK' hn' nx)
    · exact Aw.swIn (off := 1103) (tgt := 1142) ⟨by decide, by decide⟩ (by decide) (by decide) rfl rfl d_Law_law_39 (W_compare h b0 b1 b2' hK' hn' nx)
    · exact Aw.swIn (off := 1199) (tgt := 1238) ⟨by decide, by decide⟩ (by decide) (by decide) rfl rfl d_Law_law_39 (W_pairOf h b0 b1 b2' hK' hn' nx)
    · exact Aw.swIn (off := 1255) (tgt := 1294) ⟨by decide, by decide⟩ (by decide) (by decide) rfl rfl d_Law_law_39 (W_movedTo h b0 b1 b2' hK' hn' nx)
    · exact Aw.swIn (off := 1311) (tgt := 1350) ⟨by decide, by decide⟩ (by decide) (by decide) rfl rfl d_Law_law_39 (W_likeness h b0 b1 b2' hK' hn' nx)
    · exact Aw.swIn (off := 1443) (tgt := 1482) ⟨by decide, by decide⟩ (by decide) (by decide) rfl rfl d_Law_law_39 (W_treeCost h b0 b1 b2' hK' hn' nx)
    · exact Aw.swIn (off := 1511) (tgt := 1550) ⟨by decide, by decide⟩ (by decide) (by decide) rfl rfl d_Law_law_39 (W_base h b0 b1 b2' hK' hn' nx)
    · exact Aw.swIn (off := 1579) (tgt := 1618) ⟨by decide, by decide⟩ (by decide) (by decide) rfl rfl d_Law_law_39 (W_merge h b0 b1 b2' hK' hn' nx)
    · exact Aw.swIn (off := 1659) (tgt := 1698) ⟨by decide, by decide⟩ (by decide) (by decide) rfl rfl d_Law_law_39 (W_conflicts h b0 b1 b2' hK' hn' nx)
    · exact Aw.swIn (off := 1672) (tgt := 1711) ⟨by decide, by decide⟩ (by decide) (by decide) rfl rfl d_Law_law_39 (W_pieceOf h b0 b1 b2' hK' hn' nx)
    · exact Aw.swIn (off := 1740) (tgt := 1779) ⟨by decide, by decide⟩ (by decide) (by decide) rfl rfl d_Law_law_39 (W_settle h hk5 b0 b1 b2' hK' hn' nx)
    · exact Aw.swIn (off := 1808) (tgt := 1847) ⟨by decide, by decide⟩ (by decide) (by decide) rfl rfl d_Law_law_39 (W_patch h b0 b1 b2' hK' hn' nx)
    · exact Aw.swIn (off := 1888) (tgt := 1927) ⟨by decide, by decide⟩ (by decide) (by decide) rfl rfl d_Law_law_39 (W_turn h b0 b1 b2' hK' hn' nx)
    · exact Aw.swIn (off := 1944) (tgt := 1983) ⟨by decide, by decide⟩ (by decide) (by decide) rfl rfl d_Law_law_39 (W_hunk h b0 b1 b2' hK' hn' nx)
    · exact Aw.swIn (off := 2024) (tgt := 2063) ⟨by decide, by decide⟩ (by decide) (by decide) rfl rfl d_Law_law_39 (W_lay h hk5 b0 b1 b2' hK' hn' nx)
    · exact Aw.swIn (off := 2092) (tgt := 2131) ⟨by decide, by decide⟩ (by decide) (by decide) rfl rfl d_Law_law_39 (W_note h b0 b1 b2' hK' hn' nx)
    · exact Aw.swIn (off := 2160) (tgt := 2199) ⟨by decide, by decide⟩ (by decide) (by decide) rfl rfl d_Law_law_39 (W_noteAt h b0 b1 b2' hK' hn' nx)
    · exact Aw.swIn (off := 2228) (tgt := 2267) ⟨by decide, by decide⟩ (by decide) (by decide) rfl rfl d_Law_law_39 (W_review h b0 b1 b2' hK' hn' nx)
    · exact Aw.swIn (off := 2296) (tgt := 2335) ⟨by decide, by decide⟩ (by decide) (by decide) rfl rfl d_Law_law_39 (W_verdict h b0 b1 b2' hK' hn' nx)
    · exact Aw.swIn (off := 2392) (tgt := 2431) ⟨by decide, by decide⟩ (by decide) (by decide) rfl rfl d_Law_law_39 (W_renew h b0 b1 b2' hK' hn' nx)
    · exact Aw.swIn (off := 2460) (tgt := 2499) ⟨by decide, by decide⟩ (by decide) (by decide) rfl rfl d_Law_law_39 (W_land h b0 b1 b2' hK' hn' nx)
    · exact Aw.swIn (off := 2516) (tgt := 2555) ⟨by decide, by decide⟩ (by decide) (by decide) rfl rfl d_Law_law_39 (W_reviewState h b0 b1 b2' hK' hn' nx)
