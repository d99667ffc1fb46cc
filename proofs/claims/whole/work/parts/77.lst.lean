/-! BY HAND: a list of edits, its methods (open) -/
section LST
variable {Ω : Om} {σ : Sto} {lo l d : Nat} {es : List Nat}
theorem k_Lst_size (h : Ls Ω σ lo l d es) (hn : es.length < 100000) : MC Ω M_Lst_size rm_Lst_size (RI fun r σ' => σ' = σ ∧ r = es.length) XN σ [xr (some l)] := sorry
theorem k_Lst_isEmpty (h : Ls Ω σ lo l d es) : MC Ω M_Lst_isEmpty rm_Lst_isEmpty (RI fun r σ' => σ' = σ ∧ Bz r (es = [])) XN σ [xr (some l)] := sorry
theorem k_Lst_get {i : Nat} {e : Nat} (h : Ls Ω σ lo l d es) (hi : es[i]? = some e) : MC Ω M_Lst_get rm_Lst_get (RR fun r σ' => σ' = σ ∧ r = some e) XN σ [xr (some l), xi i] := sorry
theorem k_Lst_clear (h : Ls Ω σ lo l d es) : MC Ω M_Lst_clear rm_Lst_clear (RV fun σ' => Ls Ω σ' lo l d [] ∧ Keep σ σ' (LsP lo l d) ∧ sN σ' = sN σ) XN σ [xr (some l)] := sorry
theorem k_Lst_remove {es' : List Nat} {e : Nat} (h : Ls Ω σ lo l d es) (he : es = es' ++ [e]) : MC Ω M_Lst_remove rm_Lst_remove (RR fun r σ' => r = some e ∧ Ls Ω σ' lo l d es' ∧ Keep σ σ' (LsP lo l d) ∧ sN σ' = sN σ) XN σ [xr (some l), xi es'.length] := sorry
abbrev rmA (c s : Nat) : Room := { frames := rm_Lst_add_0.frames, cells := c, slots := s, locals := rm_Lst_add_0.locals }
theorem k_Lst_add {e c s : Nat} (h : Ls Ω σ lo l d es) (he : sK σ e = 5) (hlo : lo ≤ sN σ) (hz : es.length ≤ 50000) (hr : lsR Ω σ d es ∨ (1 ≤ c ∧ lsZ Ω σ d ≤ s)) : MC Ω M_Lst_add_0 (rmA c s) (RI fun _ σ' => ∃ d', LsN Ω σ σ' lo l d d' es e) XN σ [xr (some l), xr (some e)] := sorry
theorem k_Lst_init (ha : sK σ l = 14) (hn : l < sN σ) (hl : l < lo) (hE : oE Ω < lo) : MC Ω M_Lst_init rm_Lst_init (RV fun σ' => Ls Ω σ' lo l (oE Ω) [] ∧ Keep σ σ' (At1 l) ∧ sN σ' = sN σ) XN σ [xr (some l)] := sorry
end LST
