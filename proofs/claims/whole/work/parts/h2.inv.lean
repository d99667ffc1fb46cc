/-! BY HAND: what a run of calls keeps: the invariant -/
/-- a text and conflicts of a draft -/
def TcI (b : BR) (F G B : Tl) (n : Nat) (T : Tl) (C : List Cnl) : Prop := T.length ≤ 20 ∧ Nm b T ∧ (C.length = n ∧ n ≤ 21) ∧ ∀ c ∈ C, CnB c F G B ∧ (0 ≤ cnP c ∧ cnP c ≤ 20 + 40 * ((n : Int) - opn C)) ∧ (cnS c = 0 → cnP c ≤ T.length)
theorem TcI.bk {b b' : BR} {F G B T : Tl} {n : Nat} {C : List Cnl} (h : TcI b F G B n T C) (hb : BkX b b') : TcI b' F G B n T C := ⟨h.1, h.2.1.ext hb.1 hb.2.2.1, h.2.2⟩
/-- a draft -/
def DrI (x : Nat) (S : St) (r : DR) : Prop := (isV S (dr1 r) ∧ isP (drA r)) ∧ (dr2 r = -1 ∨ isV S (dr2 r) ∧ drB r = bsN (sV S) (dr1 r) (dr2 r)) ∧ ((drE r).length : Int) ≤ sM S ∧ TcI (sB S) (srcF (sV S) r) (srcS (sV S) r) (srcB (sV S) r) (drC r).length (drT r) (drC r) ∧ (∀ E ∈ drE r, TcI (sB S) (srcF (sV S) r) (srcS (sV S) r) (srcB (sV S) r) (drC r).length (edB E) (edC E)) ∧ Rpl x (sP S) (srcF (sV S) r) (srcS (sV S) r) (srcB (sV S) r) (rpS S (dr1 r) (dr2 r)).1 (rpS S (dr1 r) (dr2 r)).2 (drE r) (drT r) (drC r)
def grS (hs : List Hun) : Nat := (hs.map (fun H => (hnG H).length)).sum
/-- hunks -/
def HuI (hs : List Hun) : Prop := (frS hs ≤ 20 ∧ grS hs ≤ 20 ∧ hs.length ≤ 21) ∧ ∀ H ∈ hs, HnB H ∧ (∀ l ∈ hnF H, isLn l = true) ∧ ∀ l ∈ hnG H, isLn l = true
/-- k calls have been done -/
def Inv (x k : Nat) (S : St) : Prop :=
  (Cnt S ∧ sM S ≤ k) ∧
  ((∀ v : Int, (vtx (sV S) v).length ≤ 20 ∧ Nm (sB S) (vtx (sV S) v)) ∧ (bkN (sB S) : Int) ≤ 20 * sM S ∧ AuI (sB S) ∧ OgI (sB S)) ∧
  (FmI (sV S) ∧ vtx (sV S) 0 = [] ∧ (∀ i, isV S i → -1 ≤ vrA (vrO (sV S) i.toNat) ∧ vrA (vrO (sV S) i.toNat) < 6) ∧ ∀ i, 1 ≤ i → i < (sV S).length → RpV x S i ∧ (vrE (vrO (sV S) i)).length ≤ 512) ∧
  (∀ r, sD S = some r → DrI x S r) ∧ (∀ hs ∈ sP S, HuI hs) ∧ (∀ y ∈ sW S, 0 ≤ y ∧ y < bkN (sB S)) ∧ ∀ r ∈ sR S, isV S r.1 ∧ (r.2.2.1 = 0 ∨ r.2.2.1 = 1) ∧ (r.2.1 = -1 ∨ isR S r.2.1)
section INV
variable {x k : Nat} {S : St} {r : DR}
theorem Inv.mono {k' : Nat} (h : Inv x k S) (hk : k ≤ k') : Inv x k' S := ⟨⟨h.1.1, by have := h.1.2; omega⟩, h.2⟩
theorem Inv.h20 (h : Inv x k S) : ∀ v : Int, (vtx (sV S) v).length ≤ 20 := fun v => (h.2.1.1 v).1
theorem Inv.hN (h : Inv x k S) : ∀ v : Int, Nm (sB S) (vtx (sV S) v) := fun v => (h.2.1.1 v).2
theorem Inv.dr (h : Inv x k S) (hD : sD S = some r) : DrI x S r := h.2.2.2.1 r hD
theorem Inv.nmD (h : Inv x k S) : NmD S := fun r hD => (h.dr hD).2.2.2.1.2.1
theorem Inv.m512 (h : Inv x k S) : sM S ≤ 512 := h.1.1.2.2.2.2.2.2
theorem Inv.b12 (h : Inv x k S) : bkN (sB S) ≤ 10240 := by
  have h1 := h.m512
  have h2 := h.2.1.2.1
  omega
theorem Inv.iV (h : Inv x k S) : IvV S := ⟨fun v => ⟨h.h20 v, fun y hy => ⟨(h.hN v y hy).1, (h.hN v y hy).2.1⟩⟩, h.2.1.2.1, h.m512⟩
theorem DrI.iR (h : DrI x S r) (h1 : sM S ≤ 512) : IvR S r := by
  obtain ⟨⟨a1, a2⟩, b, c, d, e, f⟩ := h
  refine ⟨a1, ?_, d.1, c, fun q hq => ?_, fun E hE e4 => ?_, fun y hy => ⟨(d.2.1 y hy).1, (d.2.1 y hy).2.1⟩⟩
  · rcases b with b | ⟨b1, b2⟩
    · exact Or.inl b
    · refine Or.inr ⟨b1, ?_⟩
      rw [b2]
      exact (bsN_isV a1 b1).2
  · obtain ⟨g1, g2, g3⟩ := d.2.2.2 q hq
    have := d.2.2.1
    exact ⟨g1, ⟨g2.1, by omega⟩, g3⟩
  · obtain ⟨g1, c, g2, -, -, -, -, g3, -⟩ := (Rpl.all _ _ _ f E hE).2.2.2.2.1 e4
    have hl := (e E hE).2.2.1.1
    have := (List.getElem?_eq_some_iff.mp g2).1
    exact ⟨g1, by omega, g3⟩
theorem Inv.iD (h : Inv x k S) : IvD S := fun r hD => (h.dr hD).iR h.m512
theorem Inv.iP (h : Inv x k S) : IvP S := fun hs hh => (h.2.2.2.2.1 hs hh).1.1
theorem Inv.len640 (h : Inv x k S) (hD : sD S = some r) : (drE r).length < 640 := by
  have := (h.dr hD).2.2.1
  have := h.m512
  omega
theorem Inv.und (h : Inv x k S) : ∀ r, sD S = some r → drE r ≠ [] → drC r = pfC (edC (lsE S)) (lsE S) ∧ (edK (lsE S) = 4 → ∃ c, (edC (lsE S))[(edT (lsE S)).toNat]? = some c ∧ cnS c = 0) := fun r hD hne => by
  have hR := (h.dr hD).2.2.2.2.2
  have eL : lsE S = (drE r).getLast hne := by
    unfold lsE
    rw [drO_some hD, List.getLastD_eq_getLast?, List.getLast?_eq_some_getLast hne]; rfl
  rw [← List.dropLast_concat_getLast hne, ← eL] at hR
  obtain ⟨h1, h2, h3⟩ := Rpl.back _ _ _ hR
  refine ⟨h2, fun e4 => ?_⟩
  obtain ⟨g1, c, g2, g3, -⟩ := h3.2.2.2.2.1 e4
  exact ⟨c, g2, g3⟩
/-! what changes little -/
theorem Inv.setR {R : List RR'} (h : Inv x k S) (h20 : R.length ≤ 20) (hR : ∀ r ∈ R, isV S r.1 ∧ (r.2.2.1 = 0 ∨ r.2.2.1 = 1) ∧ (r.2.1 = -1 ∨ (0 ≤ r.2.1 ∧ r.2.1 < R.length))) : Inv x k (setR S R) := by
  obtain ⟨⟨⟨a1, a2, a3, a4, a5, a6, a7⟩, b⟩, c, d, e, f, g, i⟩ := h
  exact ⟨⟨⟨a1, a2, a3, h20, a5, a6, a7⟩, b⟩, c, d, e, f, g, hR⟩
theorem Inv.setN {y : Int} (h : Inv x k S) (h20 : (sW S).length < 20) (hy : 0 ≤ y ∧ y < bkN (sB S)) : Inv x k (setN S (sW S ++ [y])) := by
  obtain ⟨⟨⟨a1, a2, a3, a4, a5, a6, a7⟩, b⟩, c, d, e, f, g, i⟩ := h
  refine ⟨⟨⟨a1, a2, a3, a4, by show (sW S ++ [y]).length ≤ 20; rw [List.length_append, List.length_singleton]; omega, a6, a7⟩, b⟩, c, d, e, f, fun z hz => ?_, i⟩
  have hz' : z ∈ sW S ++ [y] := hz
  rcases List.mem_append.mp hz' with q | q
  · exact g z q
  · rw [List.mem_singleton.mp q]; exact hy
theorem Inv.setC {C : Option CR} (h : Inv x k S) : Inv x k (setC S C) := h
theorem Inv.setDr {D : Option DR} (h : Inv x k S) (hD : ∀ r, D = some r → DrI x S r) : Inv x k (setDr S D) := by
  obtain ⟨a, c, d, e, f, g, i⟩ := h
  exact ⟨a, c, d, hD, f, g, i⟩
theorem Inv.setP {hs : List Hun} (h : Inv x k S) (h10 : (sP S).length < 10) (hH : HuI hs) : Inv x k (setP S (sP S ++ [hs])) := by
  obtain ⟨⟨⟨a1, a2, a3, a4, a5, a6, a7⟩, b⟩, c, ⟨d1, d2, d3, d4⟩, e, f, g, i⟩ := h
  refine ⟨⟨⟨a1, a2, by show (sP S ++ [hs]).length ≤ 10; rw [List.length_append, List.length_singleton]; omega, a4, a5, a6, a7⟩, b⟩, c, ⟨d1, d2, d3, fun j j1 j2 => ?_⟩, fun r hD => ?_, fun q hq => ?_, g, i⟩
  · obtain ⟨⟨g1, g2, C', g3⟩, g4⟩ := d4 j j1 j2
    exact ⟨⟨g1, g2, C', Rpl.ext _ _ _ g3⟩, g4⟩
  · obtain ⟨g1, g2, g3, g4, g5, g6⟩ := e r hD
    exact ⟨g1, g2, g3, g4, g5, Rpl.ext _ _ _ g6⟩
  · have hq' : q ∈ sP S ++ [hs] := hq
    rcases List.mem_append.mp hq' with z | z
    · exact f q z
    · rw [List.mem_singleton.mp z]; exact hH
/-- an edit -/
theorem Inv.edit {T' : Tl} {C' : List Cnl} {E : Edi} {B' : BR} (h : Inv x k S) (hk : k < 512) (hD : sD S = some r) (hB : BkX (sB S) B') (hT : TcI B' (srcF (sV S) r) (srcS (sV S) r) (srcB (sV S) r) (drC r).length T' C') (eE : edB E = drT r ∧ edC E = drC r) (hP : POK ((sP S).getD (edT E).toNat []) (srcF (sV S) r) (srcS (sV S) r) (srcB (sV S) r) (drT r) (drC r) (opn (drC r)) E) (h5 : edK E = 5 → edP E = some (x + 694 + 2 * (edT E).toNat) ∧ 0 ≤ edT E ∧ edT E < (sP S).length) (h6 : edK E ≠ 5 → edP E = none) (hst : stp T' = stp (pfT ((sP S).getD (edT E).toNat []) (srcF (sV S) r) (srcS (sV S) r) (srcB (sV S) r) (drT r) (drC r) E)) (hC : C' = pfC (drC r) E) : Inv x (k + 1) (edS S T' C' E B') := by
  have eD := drO_some hD
  obtain ⟨⟨⟨a1, a2, a3, a4, a5, a6, a7⟩, b⟩, ⟨c1, c2, c3, c4⟩, ⟨d1, d2, d3, d4⟩, e, f, g, i⟩ := h
  obtain ⟨x1, x2, x3, x4, x5⟩ := hB
  refine ⟨⟨⟨a1, a2, a3, a4, a5, by show 0 ≤ sM S + 1; omega, by show sM S + 1 ≤ 512; omega⟩, by show sM S + 1 ≤ ((k + 1 : Nat) : Int); omega⟩, ⟨fun v => ⟨(c1 v).1, (c1 v).2.ext x1 x3⟩, by show (bkN B' : Int) ≤ 20 * (sM S + 1); omega, x4, x5⟩, ⟨d1, d2, d3, d4⟩, fun r' hr' => ?_, f, fun y hy => ⟨(g y hy).1, by have := (g y hy).2; show y < (bkN B' : Int); omega⟩, i⟩
  have er : r' = (T', C', drE (drO S) ++ [E], drA (drO S), dr1 (drO S), dr2 (drO S), drB (drO S)) := (Option.some.inj hr').symm
  rw [eD] at er
  subst er
  obtain ⟨g1, g2, g3, g4, g5, g6⟩ := e r hD
  have hl : C'.length = (drC r).length := hT.2.2.1.1
  refine ⟨g1, g2, ?_, ?_, fun E' hE' => ?_, ?_⟩
  · show (((drE r ++ [E]).length : Nat) : Int) ≤ sM S + 1
    rw [List.length_append, List.length_singleton]; omega
  · show TcI B' _ _ _ C'.length T' C'
    rw [hl]; exact hT
  · show TcI B' _ _ _ C'.length (edB E') (edC E')
    rw [hl]
    have hE2 : E' ∈ drE r ++ [E] := hE'
    rcases List.mem_append.mp hE2 with z | z
    · exact (g5 E' z).bk ⟨x1, x2, x3, x4, x5⟩
    · rw [List.mem_singleton.mp z, eE.1, eE.2]
      exact g4.bk ⟨x1, x2, x3, x4, x5⟩
  · show Rpl x (sP S) (srcF (sV S) r) (srcS (sV S) r) (srcB (sV S) r) (rpS S (dr1 r) (dr2 r)).1 (rpS S (dr1 r) (dr2 r)).2 (drE r ++ [E]) T' C'
    refine Rpl.snoc (by rw [eE.1, eE.2]; exact hP) h5 h6 (by rw [eE.1, eE.2]; exact hst) (by rw [eE.2]; exact hC) _ _ _ ?_
    rw [eE.1, eE.2]; exact g6
theorem BkX.rf {b : BR} (h1 : AuI b) (h2 : OgI b) : BkX b b := ⟨Nat.le_refl _, by omega, fun _ _ => rfl, h1, h2⟩
theorem Inv.bk (h : Inv x k S) : BkX (sB S) (sB S) := BkX.rf h.2.1.2.2.1 h.2.1.2.2.2
end INV
