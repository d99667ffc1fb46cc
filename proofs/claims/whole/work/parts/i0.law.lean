/-! THE LAW: both sides after k calls (partly by program: wip/tools/genlaw0.py) -/
theorem Sh.keep {σ σ' : Sto} {m : Nat} {P : Nat → Prop} (h : Sh σ m) (k : Keep σ σ' P) (d : ∀ q, m ≤ q → q ≤ m + 37 → ¬ P q) : Sh σ' m := by
  have e : ∀ i, i ≤ 37 → Same1 σ σ' (m + i) := fun i hi => k.2 _ (by have := h.1; omega) (d _ (by omega) (by omega))
  have f : ∀ g, fR σ' g m = fR σ g m := fun g => (e 0 (by omega)).2.2.2.2.1 g
  have kk : ∀ i, i ≤ 37 → sK σ' (m + i) = sK σ (m + i) := fun i hi => (e i hi).1
  have zz : ∀ i, i ≤ 37 → sZ σ' (m + i) = sZ σ (m + i) := fun i hi => (e i hi).2.1
  obtain ⟨h1, h2, ⟨a1, b1, c1⟩, ⟨a2, b2, c2⟩, ⟨a3, b3, c3⟩, ⟨a4, b4, c4⟩, ⟨a5, b5, c5⟩, ⟨a6, b6, c6⟩, ⟨a7, b7, c7⟩, ⟨a8, b8, c8⟩, ⟨a9, b9, c9⟩, ⟨a10, b10, c10⟩, ⟨a11, b11, c11⟩, ⟨a12, b12, c12⟩, ⟨a13, b13, c13⟩, ⟨a14, b14, c14⟩, ⟨a15, b15, c15⟩, ⟨a16, b16, c16⟩, ⟨a17, b17, c17⟩, ⟨a18, b18, c18⟩, ⟨a19, b19, c19⟩, ⟨a20, b20, c20⟩, ⟨a21, b21, c21⟩, ⟨a22, b22, c22⟩, ⟨a23, b23, c23⟩, ⟨a24, b24, c24⟩, ⟨a25, b25, c25⟩, ⟨a26, b26, c26⟩, ⟨a27, b27, c27⟩, ⟨a28, b28, c28⟩, ⟨a29, b29, c29⟩, ⟨a30, b30, c30⟩, ⟨a31, b31, c31⟩, ⟨a32, b32, c32⟩, ⟨a33, b33, c33⟩, ⟨a34, b34, c34⟩, ⟨a35, b35, c35⟩, ⟨a36, b36, c36⟩, ⟨a37, b37, c37⟩⟩ := h
  exact ⟨Nat.lt_of_lt_of_le h1 k.1, (kk 0 (by omega)).trans h2, ⟨(f _).trans a1, (kk 1 (by omega)).trans b1, (zz 1 (by omega)).trans c1⟩, ⟨(f _).trans a2, (kk 2 (by omega)).trans b2, (zz 2 (by omega)).trans c2⟩, ⟨(f _).trans a3, (kk 3 (by omega)).trans b3, (zz 3 (by omega)).trans c3⟩, ⟨(f _).trans a4, (kk 4 (by omega)).trans b4, (zz 4 (by omega)).trans c4⟩, ⟨(f _).trans a5, (kk 5 (by omega)).trans b5, (zz 5 (by omega)).trans c5⟩, ⟨(f _).trans a6, (kk 6 (by omega)).trans b6, (zz 6 (by omega)).trans c6⟩, ⟨(f _).trans a7, (kk 7 (by omega)).trans b7, (zz 7 (by omega)).trans c7⟩, ⟨(f _).trans a8, (kk 8 (by omega)).trans b8, (zz 8 (by omega)).trans c8⟩, ⟨(f _).trans a9, (kk 9 (by omega)).trans b9, (zz 9 (by omega)).trans c9⟩, ⟨(f _).trans a10, (kk 10 (by omega)).trans b10, (zz 10 (by omega)).trans c10⟩, ⟨(f _).trans a11, (kk 11 (by omega)).trans b11, (zz 11 (by omega)).trans c11⟩, ⟨(f _).trans a12, (kk 12 (by omega)).trans b12, (zz 12 (by omega)).trans c12⟩, ⟨(f _).trans a13, (kk 13 (by omega)).trans b13, (zz 13 (by omega)).trans c13⟩, ⟨(f _).trans a14, (kk 14 (by omega)).trans b14, (zz 14 (by omega)).trans c14⟩, ⟨(f _).trans a15, (kk 15 (by omega)).trans b15, (zz 15 (by omega)).trans c15⟩, ⟨(f _).trans a16, (kk 16 (by omega)).trans b16, (zz 16 (by omega)).trans c16⟩, ⟨(f _).trans a17, (kk 17 (by omega)).trans b17, (zz 17 (by omega)).trans c17⟩, ⟨(f _).trans a18, (kk 18 (by omega)).trans b18, (zz 18 (by omega)).trans c18⟩, ⟨(f _).trans a19, (kk 19 (by omega)).trans b19, (zz 19 (by omega)).trans c19⟩, ⟨(f _).trans a20, (kk 20 (by omega)).trans b20, (zz 20 (by omega)).trans c20⟩, ⟨(f _).trans a21, (kk 21 (by omega)).trans b21, (zz 21 (by omega)).trans c21⟩, ⟨(f _).trans a22, (kk 22 (by omega)).trans b22, (zz 22 (by omega)).trans c22⟩, ⟨(f _).trans a23, (kk 23 (by omega)).trans b23, (zz 23 (by omega)).trans c23⟩, ⟨(f _).trans a24, (kk 24 (by omega)).trans b24, (zz 24 (by omega)).trans c24⟩, ⟨(f _).trans a25, (kk 25 (by omega)).trans b25, (zz 25 (by omega)).trans c25⟩, ⟨(f _).trans a26, (kk 26 (by omega)).trans b26, (zz 26 (by omega)).trans c26⟩, ⟨(f _).trans a27, (kk 27 (by omega)).trans b27, (zz 27 (by omega)).trans c27⟩, ⟨(f _).trans a28, (kk 28 (by omega)).trans b28, (zz 28 (by omega)).trans c28⟩, ⟨(f _).trans a29, (kk 29 (by omega)).trans b29, (zz 29 (by omega)).trans c29⟩, ⟨(f _).trans a30, (kk 30 (by omega)).trans b30, (zz 30 (by omega)).trans c30⟩, ⟨(f _).trans a31, (kk 31 (by omega)).trans b31, (zz 31 (by omega)).trans c31⟩, ⟨(f _).trans a32, (kk 32 (by omega)).trans b32, (zz 32 (by omega)).trans c32⟩, ⟨(f _).trans a33, (kk 33 (by omega)).trans b33, (zz 33 (by omega)).trans c33⟩, ⟨(f _).trans a34, (kk 34 (by omega)).trans b34, (zz 34 (by omega)).trans c34⟩, ⟨(f _).trans a35, (kk 35 (by omega)).trans b35, (zz 35 (by omega)).trans c35⟩, ⟨(f _).trans a36, (kk 36 (by omega)).trans b36, (zz 36 (by omega)).trans c36⟩, ⟨(f _).trans a37, (kk 37 (by omega)).trans b37, (zz 37 (by omega)).trans c37⟩⟩
theorem MdV.cong {S : St} {μ μ' : Mu} (h : MdV S μ) (hI : mI μ' = mI μ) (hA : ∀ j, j < 38 → mA μ' j = mA μ j) (hG : ∀ j, j < 38 → mG μ' j = mG μ j) : MdV S μ' := by
  unfold MdV IdV VeV DM DrM PcM RowV EdM EdE CmM PaM HkM NoM ReM RvM at h ⊢
  simp only [hI, hA 2 (by omega), hA 3 (by omega), hA 4 (by omega), hA 5 (by omega), hA 6 (by omega), hA 7 (by omega), hA 8 (by omega), hA 9 (by omega), hA 10 (by omega), hA 11 (by omega), hA 12 (by omega), hA 13 (by omega), hA 14 (by omega), hA 15 (by omega), hA 16 (by omega), hA 17 (by omega), hA 18 (by omega), hA 19 (by omega), hA 20 (by omega), hA 21 (by omega), hA 22 (by omega), hA 23 (by omega), hA 24 (by omega), hA 25 (by omega), hA 26 (by omega), hA 27 (by omega), hG 1 (by omega), hG 21 (by omega), hG 22 (by omega)]
  exact h
/-- the law's state: the class at x, the reference behind it, the answer's cell behind that -/
def OuC (x : Nat) (σ : Sto) : Prop := sK σ (x + 792) = 51 ∧ sZ σ (x + 792) = 1 ∧ x + 792 < sN σ
def LwI (Ω : Om) (lo x k : Nat) (S : St) (σ : Sto) : Prop := (lo = x + 793 ∧ DwV Ω σ lo x S) ∧ (Sh σ (x + 754) ∧ MdV S (mu σ (x + 754))) ∧ OuC x σ ∧ Inv x k S
abbrev HP (lo x : Nat) : Nat → Prop := fun q => DwP lo x q ∨ q = x + 792
/-- what a helper of the law tells -/
def HQ (Ω : Om) (lo x : Nat) (S : St) (c : Nat) (a : Int64) (S' : St) (σ : Sto) : Int → Sto → Prop := fun y σ' => y = c ∧ (c = 0 → aL σ' (x + 792) 0 = a ∧ DwV Ω σ' lo x S') ∧ (c ≠ 0 → DwV Ω σ' lo x S) ∧ Keep σ σ' (HP lo x) ∧ OuC x σ'
def HV (Ω : Om) (lo x : Nat) (S : St) (c : Nat) (S' : St) (σ : Sto) : Int → Sto → Prop := fun y σ' => y = c ∧ (c = 0 → DwV Ω σ' lo x S') ∧ (c ≠ 0 → DwV Ω σ' lo x S) ∧ Keep σ σ' (HP lo x) ∧ OuC x σ'
section LWI
variable {Ω : Om} {lo x k c : Nat} {S S' : St} {σ σ1 σ2 σ3 : Sto} {a : Int64} {y : Int} {μ : Mu}
theorem OuC.keep {P : Nat → Prop} (h : OuC x σ) (k : Keep σ σ1 P) (d : ¬ P (x + 792)) : OuC x σ1 ∧ aL σ1 (x + 792) = aL σ (x + 792) := by
  obtain ⟨h1, h2, h3⟩ := h
  have e := k.2 _ h3 d
  exact ⟨⟨e.1.trans h1, e.2.1.trans h2, Nat.lt_of_lt_of_le h3 k.1⟩, e.2.2.2.2.2.2.1⟩
theorem OuC.vL {v : Int64} (h : OuC x σ) : OuC x (vL σ (x + 792) 0 v) := h
theorem dwp_out (hlo : lo = x + 793) : ¬ DwP lo x (x + 792) := fun z => by rcases z with z | z <;> omega
theorem HQ.ok (hO : OuC x σ) (hlo : lo = x + 793) (hk : Keep σ σ1 (DwP lo x)) (hD : DwV Ω σ1 lo x S') (h0 : c = 0) : HQ Ω lo x S c a S' σ 0 (vL σ1 (x + 792) 0 a) := by
  have kv : Keep σ1 (vL σ1 (x + 792) 0 a) (fun q => q = x + 792) := Keep.vL (P := fun q => q = x + 792) rfl
  refine ⟨by rw [h0]; rfl, fun _ => ⟨?_, hD.keep kv (fun q q1 q2 => dwp_out hlo (q2 ▸ q1))⟩, fun z => absurd h0 z, (hk.mono (fun _ _ h => Or.inl h)).trans (kv.mono (fun _ _ h => Or.inr h)), ((hO.keep hk (dwp_out hlo)).1).vL⟩
  rw [aL_vL, if_pos ⟨rfl, rfl⟩]
theorem HQ.no (hO : OuC x σ) (hlo : lo = x + 793) (hk : Keep σ σ1 (DwP lo x)) (hD : DwV Ω σ1 lo x S) (h0 : c ≠ 0) (hy : y = c) : HQ Ω lo x S c a S' σ y σ1 :=
  ⟨hy, fun z => absurd z h0, fun _ => hD, hk.mono (fun _ _ h => Or.inl h), (hO.keep hk (dwp_out hlo)).1⟩
theorem HV.ok (hO : OuC x σ) (hlo : lo = x + 793) (hk : Keep σ σ1 (DwP lo x)) (hD : DwV Ω σ1 lo x S') (h0 : c = 0) : HV Ω lo x S c S' σ 0 σ1 :=
  ⟨by rw [h0]; rfl, fun _ => hD, fun z => absurd h0 z, hk.mono (fun _ _ h => Or.inl h), (hO.keep hk (dwp_out hlo)).1⟩
theorem HV.no (hO : OuC x σ) (hlo : lo = x + 793) (hk : Keep σ σ1 (DwP lo x)) (hD : DwV Ω σ1 lo x S) (h0 : c ≠ 0) (hy : y = c) : HV Ω lo x S c S' σ y σ1 :=
  ⟨hy, fun z => absurd z h0, fun _ => hD, hk.mono (fun _ _ h => Or.inl h), (hO.keep hk (dwp_out hlo)).1⟩
/-- the reference's side behind what the class did -/
theorem LwI.mr (h : LwI Ω lo x k S σ) (hk : Keep σ σ1 (HP lo x)) : MR σ1 σ1 (x + 754) (mu σ1 (x + 754)) ∧ MdV S (mu σ1 (x + 754)) := by
  obtain ⟨⟨hlo, hD⟩, ⟨hS, hM⟩, hO, hI⟩ := h
  have d : ∀ q, x + 754 ≤ q → q ≤ x + 754 + 37 → ¬ HP lo x q := fun q q1 q2 z => by
    rcases z with (z | z) | z <;> omega
  have e : ∀ i, i ≤ 37 → Same1 σ σ1 (x + 754 + i) := fun i hi => hk.2 _ (by have := hS.1; omega) (d _ (by omega) (by omega))
  refine ⟨⟨hS.keep hk d, Keep.rf, rfl⟩, hM.cong (funext fun f => ?_) (fun j hj => ?_) (fun j hj => ?_)⟩
  · exact (e 0 (by omega)).2.2.1 _
  · exact (e j (by omega)).2.2.2.2.2.1
  · exact (e j (by omega)).2.2.2.2.2.2.1
/-- a call is done on both sides -/
theorem LwI.fin (h : LwI Ω lo x k S σ) (out1 : OuC x σ1) (hk : Keep σ σ1 (HP lo x)) (d0 : c = 0 → DwV Ω σ1 lo x S') (d1 : c ≠ 0 → DwV Ω σ1 lo x S) (hM : MR σ1 σ3 (x + 754) μ) (o0 : c = 0 → MdV S' μ) (o1 : c ≠ 0 → MdV S μ) (i0 : c = 0 → Inv x (k + 1) S') : aL σ3 (x + 792) = aL σ1 (x + 792) ∧ OuC x σ3 ∧ ∃ S2, LwI Ω lo x (k + 1) S2 σ3 := by
  obtain ⟨⟨hlo, hD⟩, ⟨hS, hV⟩, hO, hI⟩ := h
  obtain ⟨m1, m2, m3⟩ := hM
  obtain ⟨g1, g2⟩ := out1.keep m2 (fun z => by have := z.2; omega)
  have dk : ∀ q, DwP lo x q → ¬ In (x + 754) (x + 754 + 38) q := fun q q1 q2 => by
    have := q2.1; have := q2.2
    rcases q1 with z | z <;> omega
  refine ⟨g2, g1, ?_⟩
  by_cases hc : c = 0
  · exact ⟨S', ⟨hlo, (d0 hc).keep m2 dk⟩, ⟨m1, by rw [m3]; exact o0 hc⟩, g1, i0 hc⟩
  · exact ⟨S, ⟨hlo, (d1 hc).keep m2 dk⟩, ⟨m1, by rw [m3]; exact o1 hc⟩, g1, hI.mono (by omega)⟩
end LWI
