/-! BY HAND: what the reference's memory holds of the state -/
def VeV (V : List VR) (μ : Mu) : Prop := mI μ 5 = V.length ∧ V.length ≤ 40 ∧ ∀ v, v < V.length → mA μ 4 v = (vrT (vrO V v)).length ∧ mA μ 6 v = vrA (vrO V v) ∧ mA μ 7 v = vr1 (vrO V v) ∧ mA μ 8 v = vr2 (vrO V v) ∧ ∀ k x, (vrT (vrO V v))[k]? = some x → mA μ 5 (20 * v + k) = x.2
/-- the conflicts that are open, as markers -/
def opG : Nat → List Cnl → List Int
  | _, [] => []
  | i, c :: cl => if cnS c = 0 then (-1 - (i : Int)) :: opG (i + 1) cl else opG (i + 1) cl
def opL (cl : List Cnl) : List Int := opG 0 cl
/-- which are settled, as bits -/
def stB : List Cnl → Int
  | [] => 0
  | c :: cl => (if cnS c = 0 then 0 else 1) + 2 * stB cl
abbrev nmT (T : List (Int64 × Int)) : List Int := T.map (·.2)
/-- a row with markers, of names and conflicts -/
def RwV (R N : List Int) (cl : List Cnl) : Prop := R.filter (fun y => decide (0 ≤ y)) = N ∧ R.filter (fun y => !decide (0 ≤ y)) = opL cl ∧ ∀ (A C : List Int) (i : Nat) (c : Cnl), R = A ++ (-1 - (i : Int)) :: C → cl[i]? = some c → (lnR A : Int) = cnP c
def PcM (F S B : List (Int64 × Int)) (cl : List Cnl) (μ : Mu) : Prop := mI μ 17 = cl.length ∧ cl.length ≤ 21 ∧ ∀ (i : Nat) (c : Cnl), cl[i]? = some c → ∀ p, p < 3 → mA μ 10 (3 * i + p) = cnT c p - cnF c p ∧ ∀ (k : Nat) x, (slice (t3 F S B p) (cnF c p) (cnT c p))[k]? = some x → mA μ 11 (20 * (3 * i + p) + k) = x.2
def EdM (es : List Edi) (μ : Mu) : Prop := mI μ 21 = es.length ∧ ∀ (e : Nat) (E : Edi), es[e]? = some E → ∃ R, RwV R (nmT (edB E)) (edC E) ∧ EdE μ e R (stB (edC E)) ∧ R.length ≤ 48
def DrM (V : List VR) (r : DR) (μ : Mu) : Prop := (mI μ 12 = dr1 r ∧ mI μ 13 = dr2 r ∧ mI μ 14 = drA r ∧ mI μ 18 = stB (drC r)) ∧ PcM (srcF V r) (srcS V r) (srcB V r) (drC r) μ ∧ (∃ R, RwV R (nmT (drT r)) (drC r) ∧ RowV R μ ∧ R.length ≤ 48) ∧ EdM (drE r) μ
def DM (V : List VR) (D : Option DR) (μ : Mu) : Prop := mI μ 11 = b01 D.isSome ∧ ∀ r, D = some r → DrM V r μ
def CmM (C : Option CR) (μ : Mu) : Prop := mI μ 25 = b01 C.isSome ∧ ∀ X Y P M n, C = some (X, Y, P, M, n) → mI μ 26 = X.length ∧ X.length ≤ 20 ∧ ∀ k, k < X.length → mA μ 15 k = P k ∧ mA μ 16 k = M k
def HkM (μ : Mu) (q : Nat) (H : Hun) : Prop := (mA μ 18 q = hnP H ∧ mA μ 19 q = hnO H) ∧ (mA μ 20 (4 * q) = (hnG H).length ∧ mA μ 20 (4 * q + 1) = (hnF H).length ∧ mA μ 20 (4 * q + 2) = (hnA H).length ∧ mA μ 20 (4 * q + 3) = (hnB H).length) ∧ (∀ k, k < (hnG H).length → mG μ 21 (40 * q + k) = gx (hnG H) k) ∧ (∀ k, k < (hnF H).length → mG μ 21 (40 * q + 20 + k) = gx (hnF H) k) ∧ (∀ k, k < (hnA H).length → mG μ 22 (6 * q + k) = gx (hnA H) k) ∧ ∀ k, k < (hnB H).length → mG μ 22 (6 * q + 3 + k) = gx (hnB H) k
def PaM (P : List (List Hun)) (μ : Mu) : Prop := mI μ 29 = P.length ∧ P.length ≤ 10 ∧ ∀ p hs, P[p]? = some hs → mA μ 17 p = hs.length ∧ hs.length ≤ 21 ∧ ∀ h H, hs[h]? = some H → HkM μ (21 * p + h) H
def NoM (N : List Int) (μ : Mu) : Prop := mI μ 36 = N.length ∧ N.length ≤ 20 ∧ ∀ i v, N[i]? = some v → mA μ 23 i = v
def RvM (μ : Mu) (i : Nat) (r : RR') : Prop := mA μ 24 i = r.1 ∧ mA μ 25 i = r.2.1 ∧ mA μ 26 i = r.2.2.1 ∧ ∀ p, p < 6 → mA μ 27 (6 * i + p) = r.2.2.2 p
def ReM (R : List RR') (μ : Mu) : Prop := mI μ 38 = R.length ∧ R.length ≤ 20 ∧ (∀ i r, R[i]? = some r → RvM μ i r) ∧ ∀ i, R.length ≤ i → i < 20 → mA μ 26 i = 0 ∧ ∀ p, p < 6 → mA μ 27 (6 * i + p) = 0
def MdV (S : St) (μ : Mu) : Prop := IdV (sB S) μ ∧ VeV (sV S) μ ∧ DM (sV S) (sD S) μ ∧ CmM (sC S) μ ∧ PaM (sP S) μ ∧ NoM (sW S) μ ∧ ReM (sR S) μ
section MDV
variable {fs js gs : List Nat} {μ μ' : Mu}
theorem VeV.fr {V : List VR} (h : VeV V μ) (k : Fr fs js gs μ μ') (h1 : 5 ∉ fs) (h2 : 4 ∉ js ∧ 5 ∉ js ∧ 6 ∉ js ∧ 7 ∉ js ∧ 8 ∉ js) : VeV V μ' := by
  unfold VeV
  rw [k.1 5 h1, k.2.1 4 h2.1, k.2.1 5 h2.2.1, k.2.1 6 h2.2.2.1, k.2.1 7 h2.2.2.2.1, k.2.1 8 h2.2.2.2.2]
  exact h
theorem PcM.fr {F S B : List (Int64 × Int)} {cl : List Cnl} (h : PcM F S B cl μ) (k : Fr fs js gs μ μ') (h1 : 17 ∉ fs) (h2 : 10 ∉ js ∧ 11 ∉ js) : PcM F S B cl μ' := by
  unfold PcM
  rw [k.1 17 h1, k.2.1 10 h2.1, k.2.1 11 h2.2]
  exact h
theorem EdM.fr {es : List Edi} (h : EdM es μ) (k : Fr fs js gs μ μ') (h1 : 21 ∉ fs) (h2 : 12 ∉ js ∧ 13 ∉ js ∧ 14 ∉ js) : EdM es μ' := by
  refine ⟨(k.1 21 h1).trans h.1, fun e E he => ?_⟩
  obtain ⟨R, g1, g2, g3⟩ := h.2 e E he
  exact ⟨R, g1, g2.fr k h2.1 h2.2.1 h2.2.2, g3⟩
theorem DrM.fr {V : List VR} {r : DR} (h : DrM V r μ) (k : Fr fs js gs μ μ') (h1 : 12 ∉ fs ∧ 13 ∉ fs ∧ 14 ∉ fs ∧ 18 ∉ fs ∧ 17 ∉ fs ∧ 15 ∉ fs ∧ 21 ∉ fs) (h2 : 9 ∉ js ∧ 10 ∉ js ∧ 11 ∉ js ∧ 12 ∉ js ∧ 13 ∉ js ∧ 14 ∉ js) : DrM V r μ' := by
  obtain ⟨⟨a1, a2, a3, a4⟩, b, ⟨R, c1, c2, c3⟩, d⟩ := h
  exact ⟨⟨(k.1 12 h1.1).trans a1, (k.1 13 h1.2.1).trans a2, (k.1 14 h1.2.2.1).trans a3, (k.1 18 h1.2.2.2.1).trans a4⟩, b.fr k h1.2.2.2.2.1 ⟨h2.2.1, h2.2.2.1⟩, ⟨R, c1, c2.fr k h1.2.2.2.2.2.1 h2.1, c3⟩, d.fr k h1.2.2.2.2.2.2 h2.2.2.2⟩
theorem DM.fr {V : List VR} {D : Option DR} (h : DM V D μ) (k : Fr fs js gs μ μ') (h0 : 11 ∉ fs) (h1 : 12 ∉ fs ∧ 13 ∉ fs ∧ 14 ∉ fs ∧ 18 ∉ fs ∧ 17 ∉ fs ∧ 15 ∉ fs ∧ 21 ∉ fs) (h2 : 9 ∉ js ∧ 10 ∉ js ∧ 11 ∉ js ∧ 12 ∉ js ∧ 13 ∉ js ∧ 14 ∉ js) : DM V D μ' :=
  ⟨(k.1 11 h0).trans h.1, fun r hr => (h.2 r hr).fr k h1 h2⟩
theorem CmM.fr {C : Option CR} (h : CmM C μ) (k : Fr fs js gs μ μ') (h1 : 25 ∉ fs ∧ 26 ∉ fs) (h2 : 15 ∉ js ∧ 16 ∉ js) : CmM C μ' := by
  unfold CmM
  rw [k.1 25 h1.1, k.1 26 h1.2, k.2.1 15 h2.1, k.2.1 16 h2.2]
  exact h
theorem HkM.fr {q : Nat} {H : Hun} (h : HkM μ q H) (k : Fr fs js gs μ μ') (h2 : 18 ∉ js ∧ 19 ∉ js ∧ 20 ∉ js) (h3 : 21 ∉ gs ∧ 22 ∉ gs) : HkM μ' q H := by
  unfold HkM
  rw [k.2.1 18 h2.1, k.2.1 19 h2.2.1, k.2.1 20 h2.2.2, k.2.2 21 h3.1, k.2.2 22 h3.2]
  exact h
theorem PaM.fr {P : List (List Hun)} (h : PaM P μ) (k : Fr fs js gs μ μ') (h1 : 29 ∉ fs) (h2 : 17 ∉ js ∧ 18 ∉ js ∧ 19 ∉ js ∧ 20 ∉ js) (h3 : 21 ∉ gs ∧ 22 ∉ gs) : PaM P μ' := by
  refine ⟨(k.1 29 h1).trans h.1, h.2.1, fun p hs hp => ?_⟩
  obtain ⟨g1, g2, g3⟩ := h.2.2 p hs hp
  exact ⟨by rw [k.2.1 17 h2.1]; exact g1, g2, fun i H hi => (g3 i H hi).fr k h2.2 h3⟩
theorem NoM.fr {N : List Int} (h : NoM N μ) (k : Fr fs js gs μ μ') (h1 : 36 ∉ fs) (h2 : 23 ∉ js) : NoM N μ' := by
  unfold NoM
  rw [k.1 36 h1, k.2.1 23 h2]
  exact h
theorem ReM.fr {R : List RR'} (h : ReM R μ) (k : Fr fs js gs μ μ') (h1 : 38 ∉ fs) (h2 : 24 ∉ js ∧ 25 ∉ js ∧ 26 ∉ js ∧ 27 ∉ js) : ReM R μ' := by
  unfold ReM RvM
  rw [k.1 38 h1, k.2.1 24 h2.1, k.2.1 25 h2.2.1, k.2.1 26 h2.2.2.1, k.2.1 27 h2.2.2.2]
  exact h
/-- what a call may write without a change of the state -/
abbrev Scr (μ μ' : Mu) : Prop := Fr [0, 53] [28, 29, 30, 31, 32, 33, 34, 35, 36, 37] [] μ μ'
theorem MdV.fr {S : St} (h : MdV S μ) (k : Scr μ μ') : MdV S μ' := by
  obtain ⟨h1, h2, h3, h4, h5, h6, h7⟩ := h
  exact ⟨h1.fr k (by decide) (by decide) (by decide) (by decide), h2.fr k (by decide) (by decide), h3.fr k (by decide) (by decide) (by decide), h4.fr k (by decide) (by decide), h5.fr k (by decide) (by decide) (by decide), h6.fr k (by decide) (by decide), h7.fr k (by decide) (by decide)⟩
theorem MdV.w0 {S : St} {v : Int} (h : MdV S μ) : MdV S (wI μ 0 v) := h.fr (Fr.wI (by decide))
/-- what a call of the reference shows: the code, the answer, the next state -/
def OutI (S : St) (c : Nat) (a : Int) (S' : St) : Int → Mu → Prop := fun y μ' => mI μ' 0 = c ∧ (c = 0 → y = a ∧ MdV S' μ') ∧ (c ≠ 0 → MdV S μ')
def OutL (S : St) (c : Nat) (a : Int64) (S' : St) : Int64 → Mu → Prop := fun y μ' => mI μ' 0 = c ∧ (c = 0 → y = a ∧ MdV S' μ') ∧ (c ≠ 0 → MdV S μ')
def OutV (S : St) (c : Nat) (S' : St) : Mu → Prop := fun μ' => mI μ' 0 = c ∧ (c = 0 → MdV S' μ') ∧ (c ≠ 0 → MdV S μ')
theorem OutI.no {S S' : St} {c : Nat} {a y : Int} (h : MdV S μ) (hc : c ≠ 0) : OutI S c a S' y (wI μ 0 c) := ⟨by rw [mI_wI, if_pos rfl], fun z => absurd z hc, fun _ => h.w0⟩
theorem OutL.no {S S' : St} {c : Nat} {a y : Int64} (h : MdV S μ) (hc : c ≠ 0) : OutL S c a S' y (wI μ 0 c) := ⟨by rw [mI_wI, if_pos rfl], fun z => absurd z hc, fun _ => h.w0⟩
theorem OutV.no {S S' : St} {c : Nat} (h : MdV S μ) (hc : c ≠ 0) : OutV S c S' (wI μ 0 c) := ⟨by rw [mI_wI, if_pos rfl], fun z => absurd z hc, fun _ => h.w0⟩
/-- names that are in the book, with their signs -/
def Nm (b : BR) (T : List (Int64 × Int)) : Prop := ∀ y ∈ T, 0 ≤ y.2 ∧ y.2 < bkN b ∧ bkS b y.2.toNat = y.1 ∧ isLn y.1 = true
theorem vtx_at {V : List VR} {v : Int} : vtx V v = vrT (vrO V v.toNat) := rfl
theorem nmA_get {T : List (Int64 × Int)} {p : Int} (h0 : 0 ≤ p) (h1 : p < T.length) : ∃ y, T[p.toNat]? = some y ∧ nmA T p = y.2 ∧ lnA T p = y.1 := by
  have hp : p.toNat < T.length := by omega
  refine ⟨T[p.toNat], List.getElem?_eq_getElem hp, ?_, ?_⟩
  · unfold nmA; rw [if_pos h0, List.getElem?_eq_getElem hp]
  · unfold lnA; rw [if_pos h0, List.getElem?_eq_getElem hp]
end MDV
