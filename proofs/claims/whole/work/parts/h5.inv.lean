/-! BY HAND: what a run of calls keeps: commit, edits -/
section IN5
variable {x k : Nat} {S : St} {v w p q c how fz : Int} {l : Int64}
theorem rp_ext {S' : St} {n : VR} {v1 v2 : Int} (eV : sV S' = sV S ++ [n]) (h1 : 1 ≤ (sV S).length) (i1 : isV S v1) (i2 : v2 = -1 ∨ isV S v2) : vtx (sV S') v1 = vtx (sV S) v1 ∧ rG S' v2 = rG S v2 ∧ rB S' v1 v2 = rB S v1 v2 ∧ rpS S' v1 v2 = rpS S v1 v2 := by
  have e1 : vtx (sV S') v1 = vtx (sV S) v1 := by rw [eV]; exact vtx_ext h1 i1.2
  rcases i2 with e | i2
  · subst e
    exact ⟨e1, rfl, rfl, by show (vtx (sV S') v1, []) = (vtx (sV S) v1, []); rw [e1]⟩
  · have e2 : vtx (sV S') v2 = vtx (sV S) v2 := by rw [eV]; exact vtx_ext h1 i2.2
    have e3 : bsN (sV S') v1 v2 = bsN (sV S) v1 v2 := by rw [eV]; exact bsN_ext i1.2 i2.2
    have hb := bsN_isV i1 i2
    have e4 : vtx (sV S') ((bsN (sV S) v1 v2 : Nat) : Int) = vtx (sV S) ((bsN (sV S) v1 v2 : Nat) : Int) := by rw [eV]; exact vtx_ext h1 hb.2
    have n2 : ¬ v2 = -1 := by omega
    refine ⟨e1, ?_, ?_, ?_⟩
    · unfold rG; rw [if_neg n2, if_neg n2, e2]
    · unfold rB; rw [if_neg n2, if_neg n2, e3, e4]
    · unfold rpS mgW; rw [if_neg n2, if_neg n2, e3, e4, e1, e2]
theorem I_commit (h : Inv x k S) (h0 : (o_commit S).1 = 0) : Inv x (k + 1) (o_commit S).2.2 := by
  obtain ⟨c1, c2⟩ := c1'_inv h0
  obtain ⟨r, hD, ho⟩ := whB_iff.mp c1
  have eD := drO_some hD
  have hdr := h.dr hD
  refine Inv.mono (k := k) ?_ (by omega)
  obtain ⟨⟨⟨a1, a2, a3, a4, a5, a6, a7⟩, b⟩, ⟨b1, b2, b3, b4⟩, ⟨d1, d2, d3, d4⟩, e, f, g, i⟩ := h
  obtain ⟨⟨g1, g1'⟩, g2, g3, g4, g5, g6⟩ := hdr
  have enew : newV S = (drT r, drA r, dr1 r, dr2 r, blW (sV S) (dr1 r) ||| blW (sV S) (dr2 r), drE r, drB r) := by unfold newV; rw [eD]
  show Inv x k (sV S ++ [newV S], none, sC S, sP S, sW S, sR S, sB S, sM S)
  rw [enew]
  generalize hn : ((drT r, drA r, dr1 r, dr2 r, blW (sV S) (dr1 r) ||| blW (sV S) (dr2 r), drE r, drB r) : VR) = n
  have g2' : dr2 r = -1 ∨ isV S (dr2 r) := g2.elim Or.inl (fun z => Or.inr z.1)
  have lV : (sV S ++ [n]).length = (sV S).length + 1 := by rw [List.length_append]; rfl
  have vt : ∀ v : Int, vtx (sV S ++ [n]) v = vtx (sV S) v ∨ vtx (sV S ++ [n]) v = drT r := fun v => by
    unfold vtx
    rcases Nat.lt_trichotomy v.toNat (sV S).length with z | z | z
    · left; rw [vrO_ext z]
    · right; rw [z, vrO_new, ← hn]
    · left; rw [vrO_out (by rw [lV]; omega), vrO_out (by omega)]
  refine ⟨⟨⟨by show 1 ≤ (sV S ++ [n]).length; omega, by show (sV S ++ [n]).length ≤ 40; omega, a3, a4, a5, a6, a7⟩, b⟩, ⟨fun v => ?_, b2, b3, b4⟩, ⟨⟨by show (sV S ++ [n]).length ≤ 40; omega, ?_, fun j j1 j2 => ?_⟩, ?_, fun j hj => ?_, fun j j1 j2 => ?_⟩, fun r' hr' => (by cases hr'), f, g, fun r' hr' => ?_⟩
  · show (vtx (sV S ++ [n]) v).length ≤ 20 ∧ Nm (sB S) (vtx (sV S ++ [n]) v)
    rcases vt v with z | z
    · rw [z]; exact b1 v
    · rw [z]; exact ⟨g4.1, g4.2.1⟩
  · show vrW (vrO (sV S ++ [n]) 0) = 0
    rw [vrO_ext (by omega)]; exact d1.2.1
  · show vrW (vrO (sV S ++ [n]) j) = _ ∧ _
    rw [lV] at j2
    by_cases ej : j = (sV S).length
    · rw [ej, vrO_new]
      have q1 : vrW n = blW (sV S) (dr1 r) ||| blW (sV S) (dr2 r) := by rw [← hn]
      have q2 : vr1 n = dr1 r := by rw [← hn]
      have q3 : vr2 n = dr2 r := by rw [← hn]
      rw [q1, q2, q3, blW_ext g1.2]
      refine ⟨?_, ⟨g1.1, g1.2⟩, ?_⟩
      · rw [blW_ext (by rcases g2' with z | z <;> omega)]
      · rcases g2' with z | z
        · exact Or.inl z
        · exact Or.inr z
    · have lj : j < (sV S).length := by omega
      obtain ⟨p1, p2, p3⟩ := d1.2.2 j j1 lj
      rw [vrO_ext lj, blW_ext (by omega), blW_ext (by rcases p3 with z | z <;> omega)]
      exact ⟨p1, p2, p3⟩
  · show vtx (sV S ++ [n]) 0 = []
    rw [vtx_ext a1 (by omega)]; exact d2
  · show -1 ≤ vrA (vrO (sV S ++ [n]) j.toNat) ∧ vrA (vrO (sV S ++ [n]) j.toNat) < 6
    obtain ⟨j1, j2⟩ := hj
    have j2' : j < ((sV S ++ [n]).length : Int) := j2
    rw [lV] at j2'
    by_cases ej : j.toNat = (sV S).length
    · rw [ej, vrO_new]
      have q1 : vrA n = drA r := by rw [← hn]
      rw [q1]; omega
    · rw [vrO_ext (by omega)]
      exact d3 j ⟨j1, by omega⟩
  · have j2' : j < (sV S ++ [n]).length := j2
    rw [lV] at j2'
    by_cases ej : j = (sV S).length
    · have eo : vrO (sV S ++ [n]) j = n := by rw [ej]; exact vrO_new
      have q2 : vr1 n = dr1 r := by rw [← hn]
      have q3 : vr2 n = dr2 r := by rw [← hn]
      have q4 : vrE n = drE r := by rw [← hn]
      have q5 : vrT n = drT r := by rw [← hn]
      obtain ⟨r1, r2, r3, r4⟩ := rp_ext (S' := (sV S ++ [n], none, sC S, sP S, sW S, sR S, sB S, sM S)) (n := n) rfl a1 g1 g2'
      show RpV x (sV S ++ [n], none, sC S, sP S, sW S, sR S, sB S, sM S) j ∧ (vrE (vrO (sV S ++ [n]) j)).length ≤ 512
      unfold RpV
      have eo' : vrO (sV ((sV S ++ [n], none, sC S, sP S, sW S, sR S, sB S, sM S) : St)) j = n := eo
      rw [eo', q2, q3, q4, q5, r1, r2, r3, r4]
      refine ⟨⟨⟨⟨g1.1, by show dr1 r < ((sV S ++ [n]).length : Int); rw [lV]; have := g1.2; omega⟩, by have := g1.2; omega⟩, ?_, drC r, ?_⟩, by omega⟩
      · rcases g2' with z | z
        · exact Or.inl z
        · exact Or.inr ⟨⟨z.1, by show dr2 r < ((sV S ++ [n]).length : Int); rw [lV]; have := z.2; omega⟩, by have := z.2; omega⟩
      · have eG : rG S (dr2 r) = srcS (sV S) r := rfl
        have eB : rB S (dr1 r) (dr2 r) = srcB (sV S) r := by
          unfold rB srcB
          rcases g2 with z | z
          · rw [if_pos z, if_pos z]
          · rw [if_neg (by have := z.1.1; omega), if_neg (by have := z.1.1; omega), z.2]
        rw [eG, eB]
        exact g6
    · have lj : j < (sV S).length := by omega
      have eo : vrO (sV S ++ [n]) j = vrO (sV S) j := vrO_ext lj
      obtain ⟨⟨⟨s1, s1'⟩, s2, C', s3⟩, s4⟩ := d4 j j1 lj
      have s2' : vr2 (vrO (sV S) j) = -1 ∨ isV S (vr2 (vrO (sV S) j)) := s2.elim Or.inl (fun z => Or.inr z.1)
      obtain ⟨r1, r2, r3, r4⟩ := rp_ext (S' := (sV S ++ [n], none, sC S, sP S, sW S, sR S, sB S, sM S)) (n := n) rfl a1 s1 s2'
      show RpV x (sV S ++ [n], none, sC S, sP S, sW S, sR S, sB S, sM S) j ∧ (vrE (vrO (sV S ++ [n]) j)).length ≤ 512
      unfold RpV
      have eo' : vrO (sV ((sV S ++ [n], none, sC S, sP S, sW S, sR S, sB S, sM S) : St)) j = vrO (sV S) j := eo
      rw [eo', r1, r2, r3, r4]
      refine ⟨⟨⟨⟨s1.1, by show vr1 (vrO (sV S) j) < ((sV S ++ [n]).length : Int); rw [lV]; have := s1.2; omega⟩, s1'⟩, ?_, C', s3⟩, s4⟩
      rcases s2 with z | z
      · exact Or.inl z
      · exact Or.inr ⟨⟨z.1.1, by show vr2 (vrO (sV S) j) < ((sV S ++ [n]).length : Int); rw [lV]; have := z.1.2; omega⟩, z.2⟩
  · obtain ⟨z1, z2, z3⟩ := i r' hr'
    exact ⟨⟨z1.1, by show r'.1 < ((sV S ++ [n]).length : Int); rw [lV]; have := z1.2; omega⟩, z2, z3⟩
end IN5
