/-! BY HAND: what a run of calls keeps: what was done, done again -/
theorem POK.hs {hs hs' : List Hun} {F G B T : Tl} {C : List Cnl} {oc : Int} {E : Edi} (h : POK hs F G B T C oc E) (h5 : edK E ≠ 5) : POK hs' F G B T C oc E :=
  ⟨h.1, h.2.1, h.2.2.1, h.2.2.2.1, h.2.2.2.2.1, fun z => absurd z h5⟩
theorem pfT_hs {hs hs' : List Hun} {F G B T : Tl} {C : List Cnl} {E : Edi} (hk : 0 ≤ edK E ∧ edK E ≤ 5) (h5 : edK E ≠ 5) : pfT hs F G B T C E = pfT hs' F G B T C E := by
  unfold pfT
  by_cases h0 : edK E = 0
  · rw [if_pos h0, if_pos h0]
  rw [if_neg h0, if_neg h0]
  by_cases h1 : edK E = 1
  · rw [if_pos h1, if_pos h1]
  rw [if_neg h1, if_neg h1]
  by_cases h2 : edK E = 2
  · rw [if_pos h2, if_pos h2]
  rw [if_neg h2, if_neg h2]
  by_cases h3 : edK E = 3
  · rw [if_pos h3, if_pos h3]
  rw [if_neg h3, if_neg h3]
  by_cases h4 : edK E = 4
  · rw [if_pos h4, if_pos h4]
  · omega
theorem getD_ext {P : List (List Hun)} {hs : List Hun} {t : Nat} (h : t < P.length) : (P ++ [hs]).getD t [] = P.getD t [] := by
  rw [List.getD_eq_getElem?_getD, List.getD_eq_getElem?_getD, List.getElem?_append_left h]
section RPL
variable {x : Nat} {P : List (List Hun)} {F G B T' : Tl} {C' : List Cnl} {hs : List Hun}
theorem Rpl.ext : ∀ (Es : List Edi) (T : Tl) (C : List Cnl), Rpl x P F G B T C Es T' C' → Rpl x (P ++ [hs]) F G B T C Es T' C'
  | [], T, C, h => h
  | E :: Es, T, C, h => by
    obtain ⟨h1, h2, h3, h4, h5, h6⟩ := h
    by_cases e : edK E = 5
    · obtain ⟨g1, g2, g3⟩ := h4 e
      have eg : (P ++ [hs]).getD (edT E).toNat [] = P.getD (edT E).toNat [] := getD_ext (by omega)
      refine ⟨h1, h2, by rw [eg]; exact h3, fun _ => ⟨g1, g2, ?_⟩, h5, ?_⟩
      · rw [List.length_append, List.length_singleton]; omega
      · rw [eg]; exact Rpl.ext Es _ _ h6
    · have ep := pfT_hs (hs := (P ++ [hs]).getD (edT E).toNat []) (hs' := P.getD (edT E).toNat []) (F := F) (G := G) (B := B) (T := edB E) (C := C) h3.1 e
      exact ⟨h1, h2, h3.hs e, fun z => absurd z e, h5, by rw [ep]; exact Rpl.ext Es _ _ h6⟩
theorem Rpl.snoc {E : Edi} {T2 : Tl} {C2 : List Cnl} (hP : POK (P.getD (edT E).toNat []) F G B (edB E) (edC E) (opn (edC E)) E) (h5 : edK E = 5 → edP E = some (x + 694 + 2 * (edT E).toNat) ∧ 0 ≤ edT E ∧ edT E < P.length) (h6 : edK E ≠ 5 → edP E = none) (hT : stp T2 = stp (pfT (P.getD (edT E).toNat []) F G B (edB E) (edC E) E)) (hC : C2 = pfC (edC E) E) : ∀ (Es : List Edi) (T : Tl) (C : List Cnl), Rpl x P F G B T C Es (edB E) (edC E) → Rpl x P F G B T C (Es ++ [E]) T2 C2
  | [], T, C, h => by
    obtain ⟨h1, h2⟩ := h
    subst h2
    exact ⟨h1, rfl, hP, h5, h6, hT.symm, hC.symm⟩
  | A :: Es, T, C, h => by
    obtain ⟨g1, g2, g3, g4, g5, g6⟩ := h
    exact ⟨g1, g2, g3, g4, g5, Rpl.snoc hP h5 h6 hT hC Es _ _ g6⟩
theorem Rpl.back {E : Edi} {T2 : Tl} {C2 : List Cnl} : ∀ (Es : List Edi) (T : Tl) (C : List Cnl), Rpl x P F G B T C (Es ++ [E]) T2 C2 → Rpl x P F G B T C Es (edB E) (edC E) ∧ C2 = pfC (edC E) E ∧ POK (P.getD (edT E).toNat []) F G B (edB E) (edC E) (opn (edC E)) E
  | [], T, C, h => by
    obtain ⟨h1, h2, h3, h4, h5, h6, h7⟩ := h
    subst h2
    exact ⟨⟨h1, rfl⟩, h7.symm, h3⟩
  | A :: Es, T, C, h => by
    obtain ⟨g1, g2, g3, g4, g5, g6⟩ := h
    obtain ⟨r1, r2, r3⟩ := Rpl.back Es _ _ g6
    exact ⟨⟨g1, g2, g3, g4, g5, r1⟩, r2, r3⟩
theorem Rpl.all : ∀ (Es : List Edi) (T : Tl) (C : List Cnl), Rpl x P F G B T C Es T' C' → ∀ E ∈ Es, POK (P.getD (edT E).toNat []) F G B (edB E) (edC E) (opn (edC E)) E
  | [], T, C, h, E, hE => by cases hE
  | A :: Es, T, C, h, E, hE => by
    obtain ⟨g1, g2, g3, g4, g5, g6⟩ := h
    rcases List.mem_cons.mp hE with e | e
    · subst e; subst g2; exact g3
    · exact Rpl.all Es _ _ g6 E e
end RPL
section VEX
variable {V : List VR} {n : VR} {v w : Int}
theorem vrO_ext {i : Nat} (h : i < V.length) : vrO (V ++ [n]) i = vrO V i := by
  unfold vrO
  rw [List.getD_eq_getElem?_getD, List.getD_eq_getElem?_getD, List.getElem?_append_left h]
theorem vrO_new : vrO (V ++ [n]) V.length = n := by
  unfold vrO
  rw [List.getD_eq_getElem?_getD, List.getElem?_append_right (Nat.le_refl _), Nat.sub_self]; rfl
theorem vtx_ext (h1 : 1 ≤ V.length) (hv : v < V.length) : vtx (V ++ [n]) v = vtx V v := by
  unfold vtx; rw [vrO_ext (by omega)]
theorem blW_ext (hv : v < V.length) : blW (V ++ [n]) v = blW V v := by
  unfold blW
  by_cases h : 0 ≤ v
  · rw [if_pos ⟨h, by rw [List.length_append]; omega⟩, if_pos ⟨h, hv⟩, vrO_ext (by omega)]
  · rw [if_neg (fun z => h z.1), if_neg (fun z => h z.1)]
theorem bsN_ext (hv : v < V.length) (hw : w < V.length) : bsN (V ++ [n]) v w = bsN V v w := by
  unfold bsN; rw [blW_ext hv, blW_ext hw]
end VEX
