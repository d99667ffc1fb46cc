/-! BY HAND: patches of the reference: hunks laid -/
section PT4
variable {Ω : Om} {m : Nat} {μ μ0 μ1 : Mu} {S : St} {V : List VR} {b : BR} {v w c : Int} {P : Nat → Int} {T U : List (Int64 × Int)}
/-- a line of a version, by its name -/
theorem sg_at (hV : VeV V μ) (hI : IdV b μ) (hN : Nm b (vtx V v)) (v0 : 0 ≤ v ∧ v < V.length) {j : Nat} (hj : j < (vtx V v).length) : ∃ y : Int, mA μ 5 (20 * v.toNat + j) = y ∧ 0 ≤ y ∧ y < 12000 ∧ mG μ 1 y.toNat = lnA (vtx V v) (j : Int) := by
  obtain ⟨y, hy⟩ : ∃ y, (vtx V v)[j]? = some y := ⟨_, List.getElem?_eq_getElem hj⟩
  have n := hN y (List.mem_of_getElem? hy)
  have b12 := hI.2.1
  refine ⟨y.2, hV.tx v0.1 v0.2 hy, n.1, by omega, ?_⟩
  rw [(hI.2.2 y.2.toNat (by omega)).1, n.2.2.1, lnA_some (by omega) (by rw [Int.toNat_natCast]; exact hy)]
/-- what is written from an entry on -/
def LoQ (a : Nat) (μ μ' : Mu) : Prop := Fr [] [18, 19, 20] [21] μ μ' ∧ (∀ k, k < a → mA μ' 18 k = mA μ 18 k ∧ mA μ' 19 k = mA μ 19 k) ∧ (∀ k, k < 4 * a → mA μ' 20 k = mA μ 20 k) ∧ ∀ k, k < 40 * a → mG μ' 21 k = mG μ 21 k
theorem LoQ.rf {a : Nat} : LoQ a μ μ := ⟨Fr.rf, fun _ _ => ⟨rfl, rfl⟩, fun _ _ => rfl, fun _ _ => rfl⟩
theorem LoQ.trans {a : Nat} {μ μ1 μ2 : Mu} (h : LoQ a μ μ1) (g : LoQ a μ1 μ2) : LoQ a μ μ2 := ⟨h.1.trans g.1, fun k hk => ⟨(g.2.1 k hk).1.trans (h.2.1 k hk).1, (g.2.1 k hk).2.trans (h.2.1 k hk).2⟩, fun k hk => (g.2.2.1 k hk).trans (h.2.2.1 k hk), fun k hk => (g.2.2.2 k hk).trans (h.2.2.2 k hk)⟩
theorem LoQ.lo {a a' : Nat} {μ μ1 : Mu} (h : LoQ a' μ μ1) (g : a ≤ a') : LoQ a μ μ1 := ⟨h.1, fun k hk => h.2.1 k (by omega), fun k hk => h.2.2.1 k (by omega), fun k hk => h.2.2.2 k (by omega)⟩
/-- an entry, as it is laid -/
def RwE (T U : List (Int64 × Int)) (μ : Mu) (q : Nat) (e : Q4) : Prop := (mA μ 18 q = e.1 ∧ mA μ 19 q = e.2.2.1) ∧ (mA μ 20 (4 * q) = (e.2.1 : Int) - e.1 ∧ mA μ 20 (4 * q + 1) = (e.2.2.2 : Int) - e.2.2.1) ∧ (∀ k, k < e.2.1 - e.1 → mG μ 21 (40 * q + k) = lnA T ((e.1 : Int) + k)) ∧ ∀ k, k < e.2.2.2 - e.2.2.1 → mG μ 21 (40 * q + 20 + k) = lnA U ((e.2.2.1 : Int) + k)
theorem RwE.lo {a q : Nat} {e : Q4} (h : RwE T U μ q e) (k : LoQ a μ μ1) (hq : q < a) (h1 : e.2.1 - e.1 ≤ 20) (h2 : e.2.2.2 - e.2.2.1 ≤ 20) : RwE T U μ1 q e := by
  obtain ⟨⟨a1, a2⟩, ⟨b1, b2⟩, c1, c2⟩ := h
  refine ⟨⟨(k.2.1 q hq).1.trans a1, (k.2.1 q hq).2.trans a2⟩, ⟨(k.2.2.1 _ (by omega)).trans b1, (k.2.2.1 _ (by omega)).trans b2⟩, fun j hj => ?_, fun j hj => ?_⟩
  · rw [k.2.2.2 _ (by omega)]; exact c1 j hj
  · rw [k.2.2.2 _ (by omega)]; exact c2 j hj
theorem layHunk_loop {σ0 : Sto} {Q : Mu → Prop} {h fr i ot pr q : Nat} (hV : VeV V μ) (hI : IdV b μ) (v0 : 0 ≤ v ∧ v < V.length) (w0 : 0 ≤ w ∧ w < V.length) (l1 : (vtx V v).length ≤ 20) (l2 : (vtx V w).length ≤ 20) (n1 : Nm b (vtx V v)) (n2 : Nm b (vtx V w)) (h1 : fr ≤ i ∧ i ≤ (vtx V v).length) (h2 : ot ≤ pr ∧ pr ≤ (vtx V w).length) (hq : q < 210) (hQ : ∀ μ2, LoQ q μ μ2 → RwE (vtx V v) (vtx V w) μ2 q (fr, i, ot, pr) → Q μ2) :
    ∀ (d k : Nat) (μ1 : Mu), k + d = 20 → LoQ q μ μ1 → (mA μ1 18 q = fr ∧ mA μ1 19 q = ot ∧ mA μ1 20 (4 * q) = (i : Int) - fr ∧ mA μ1 20 (4 * q + 1) = (pr : Int) - ot ∧ (∀ j, j < k → j < i - fr → mG μ1 21 (40 * q + j) = lnA (vtx V v) ((fr : Int) + j)) ∧ ∀ j, j < k → j < pr - ot → mG μ1 21 (40 * q + 20 + j) = lnA (vtx V w) ((ot : Int) + j)) →
    Mw Ω σ0 m M_Mdl_layHunk rm_Mdl_layHunk (MQv Ω σ0 m rm_Mdl_layHunk Q) 60 [xr (some m), xi h, xi v, xi fr, xi i, xi w, xi ot, xi pr, xi q, xi k] [] μ1 := by
  have h40 := hV.2.1
  intro d
  induction d with
  | zero =>
    intro k μ1 hk hL hE
    obtain ⟨a1, a2, a3, a4, a5, a6⟩ := hE
    refine B_layHunk_60 ⟨by omega, fun _ => R_layHunk_169 (hQ μ1 hL ⟨⟨a1, a2⟩, ⟨a3, a4⟩, fun j hj => a5 j ?_ hj, fun j hj => a6 j ?_ hj⟩), fun z => absurd (by omega) z⟩
    · have : j < i - fr := hj
      omega
    · have : j < pr - ot := hj
      omega
  | succ d ih =>
    intro k μ1 hk hL hE
    obtain ⟨a1, a2, a3, a4, a5, a6⟩ := hE
    have hV1 := hV.fr hL.1 (by decide) (by decide)
    have hI1 := hI.fr hL.1 (by decide) (by decide) (by decide) (by decide)
    have K112 : ∀ x : Int64, (fr + k < i → x = lnA (vtx V v) ((fr : Int) + k)) → Mw Ω σ0 m M_Mdl_layHunk rm_Mdl_layHunk (MQv Ω σ0 m rm_Mdl_layHunk Q) 112 [xr (some m), xi h, xi v, xi fr, xi i, xi w, xi ot, xi pr, xi q, xi k] [] (wG μ1 21 (40 * q + k) x) := fun x hx => by
      have K60 : ∀ y : Int64, (ot + k < pr → y = lnA (vtx V w) ((ot : Int) + k)) → Mw Ω σ0 m M_Mdl_layHunk rm_Mdl_layHunk (MQv Ω σ0 m rm_Mdl_layHunk Q) 60 [xr (some m), xi h, xi v, xi fr, xi i, xi w, xi ot, xi pr, xi q, xi ((k : Int) + 1)] [] (wG (wG μ1 21 (40 * q + k) x) 21 (40 * q + 20 + k) y) := fun y hy => by
        have hE2 : mA (wG (wG μ1 21 (40 * q + k) x) 21 (40 * q + 20 + k) y) 18 q = fr ∧ mA (wG (wG μ1 21 (40 * q + k) x) 21 (40 * q + 20 + k) y) 19 q = ot ∧ mA (wG (wG μ1 21 (40 * q + k) x) 21 (40 * q + 20 + k) y) 20 (4 * q) = (i : Int) - fr ∧ mA (wG (wG μ1 21 (40 * q + k) x) 21 (40 * q + 20 + k) y) 20 (4 * q + 1) = (pr : Int) - ot ∧ (∀ j, j < k + 1 → j < i - fr → mG (wG (wG μ1 21 (40 * q + k) x) 21 (40 * q + 20 + k) y) 21 (40 * q + j) = lnA (vtx V v) ((fr : Int) + j)) ∧ ∀ j, j < k + 1 → j < pr - ot → mG (wG (wG μ1 21 (40 * q + k) x) 21 (40 * q + 20 + k) y) 21 (40 * q + 20 + j) = lnA (vtx V w) ((ot : Int) + j) := by
          rw [mA_wG, mA_wG]
          refine ⟨a1, a2, a3, a4, fun j j1 j2 => ?_, fun j j1 j2 => ?_⟩
          · rw [mG_wG, if_neg (by omega), mG_wG]
            by_cases e : j = k
            · subst e; rw [if_pos ⟨rfl, rfl⟩]; exact hx (by omega)
            · rw [if_neg (by omega)]; exact a5 j (by omega) j2
          · rw [mG_wG]
            by_cases e : j = k
            · subst e; rw [if_pos ⟨rfl, rfl⟩]; exact hy (by omega)
            · rw [if_neg (by omega), mG_wG, if_neg (by omega)]; exact a6 j (by omega) j2
        refine ih (k + 1) _ (by omega) (hL.trans ⟨(Fr.wG (by decide)).trans (Fr.wG (by decide)), fun _ _ => ⟨rfl, rfl⟩, fun _ _ => rfl, fun j hj => ?_⟩) hE2
        rw [mG_wG, if_neg (by omega), mG_wG, if_neg (by omega)]
      refine B_layHunk_112 ?_
      rw [show (40 * (q : Int) + 20 + (k : Int)).toNat = 40 * q + 20 + k by omega, mA_wG]
      refine ⟨by omega, by omega, fun z => ⟨by omega, by omega, K60 0 (fun g => by omega)⟩, fun z => ?_⟩
      obtain ⟨y, s1, s2, s3, s4⟩ := sg_at hV1 hI1 n2 w0 (j := ot + k) (by omega)
      rw [show (20 * w + (ot : Int) + (k : Int)).toNat = 20 * w.toNat + (ot + k) by omega, s1]
      have e9 : mG (wG μ1 21 (40 * q + k) x) 1 = mG μ1 1 := funext fun j => by rw [mG_wG, if_neg (fun z => absurd z.1 (by decide))]
      rw [e9, s4]
      exact ⟨by omega, by omega, s2, by omega, by omega, by omega, K60 _ (fun _ => by rw [show ((ot + k : Nat) : Int) = (ot : Int) + k by omega])⟩
    refine B_layHunk_60 ?_
    rw [show (40 * (q : Int) + (k : Int)).toNat = 40 * q + k by omega]
    refine ⟨by omega, fun z => absurd z (by omega), fun _ => ⟨by omega, by omega, fun z => ⟨by omega, by omega, K112 0 (fun g => by omega)⟩, fun z => ?_⟩⟩
    obtain ⟨y, s1, s2, s3, s4⟩ := sg_at hV1 hI1 n1 v0 (j := fr + k) (by omega)
    rw [show (20 * v + (fr : Int) + (k : Int)).toNat = 20 * v.toNat + (fr + k) by omega, s1, s4]
    exact ⟨by omega, by omega, s2, by omega, by omega, by omega, K112 _ (fun _ => by rw [show ((fr + k : Nat) : Int) = (fr : Int) + k by omega])⟩
theorem K_layHunk {n h fr i ot pr : Nat} (hV : VeV V μ) (hI : IdV b μ) (h29 : mI μ 29 = n) (hn : n < 10) (hh : h < 21) (v0 : 0 ≤ v ∧ v < V.length) (w0 : 0 ≤ w ∧ w < V.length) (l1 : (vtx V v).length ≤ 20) (l2 : (vtx V w).length ≤ 20) (n1 : Nm b (vtx V v)) (n2 : Nm b (vtx V w)) (h1 : fr ≤ i ∧ i ≤ (vtx V v).length) (h2 : ot ≤ pr ∧ pr ≤ (vtx V w).length) : MMv Ω m M_Mdl_layHunk rm_Mdl_layHunk (fun μ' => LoQ (21 * n + h) μ μ' ∧ RwE (vtx V v) (vtx V w) μ' (21 * n + h) (fr, i, ot, pr)) μ [xi h, xi v, xi fr, xi i, xi w, xi ot, xi pr] := by
  refine E_layHunk fun σ0 => B_layHunk_0 ?_
  rw [h29, show 21 * (n : Int) + (h : Int) = ((21 * n + h : Nat) : Int) by omega, Int.toNat_natCast, show (4 * ((21 * n + h : Nat) : Int)).toNat = 4 * (21 * n + h) by omega, show (4 * ((21 * n + h : Nat) : Int) + 1).toNat = 4 * (21 * n + h) + 1 by omega]
  generalize hq : 21 * n + h = q
  refine ⟨by omega, by omega, by omega, by omega, by omega, by omega, by omega, by omega, by omega, by omega, by omega, by omega, ?_⟩
  have kF : LoQ q μ (wA (wA (wA (wA μ 18 q (fr : Int)) 19 q (ot : Int)) 20 (4 * q) ((i : Int) - fr)) 20 (4 * q + 1) ((pr : Int) - ot)) := by
    refine ⟨(((Fr.wA (by decide)).trans (Fr.wA (by decide))).trans (Fr.wA (by decide))).trans (Fr.wA (by decide)), fun k hk => ⟨?_, ?_⟩, fun k hk => ?_, fun k hk => rfl⟩
    · rw [mA_wA, if_neg (by omega), mA_wA, if_neg (by omega), mA_wA, if_neg (by omega), mA_wA, if_neg (by omega)]
    · rw [mA_wA, if_neg (by omega), mA_wA, if_neg (by omega), mA_wA, if_neg (by omega), mA_wA, if_neg (by omega)]
    · rw [mA_wA, if_neg (by omega), mA_wA, if_neg (by omega), mA_wA, if_neg (by omega), mA_wA, if_neg (by omega)]
  have kE : mA (wA (wA (wA (wA μ 18 q (fr : Int)) 19 q (ot : Int)) 20 (4 * q) ((i : Int) - fr)) 20 (4 * q + 1) ((pr : Int) - ot)) 18 q = fr ∧ mA (wA (wA (wA (wA μ 18 q (fr : Int)) 19 q (ot : Int)) 20 (4 * q) ((i : Int) - fr)) 20 (4 * q + 1) ((pr : Int) - ot)) 19 q = ot ∧ mA (wA (wA (wA (wA μ 18 q (fr : Int)) 19 q (ot : Int)) 20 (4 * q) ((i : Int) - fr)) 20 (4 * q + 1) ((pr : Int) - ot)) 20 (4 * q) = (i : Int) - fr ∧ mA (wA (wA (wA (wA μ 18 q (fr : Int)) 19 q (ot : Int)) 20 (4 * q) ((i : Int) - fr)) 20 (4 * q + 1) ((pr : Int) - ot)) 20 (4 * q + 1) = (pr : Int) - ot := by
    refine ⟨?_, ?_, ?_, ?_⟩
    · rw [mA_wA, if_neg (by omega), mA_wA, if_neg (by omega), mA_wA, if_neg (by omega), mA_wA, if_pos ⟨rfl, rfl⟩]
    · rw [mA_wA, if_neg (by omega), mA_wA, if_neg (by omega), mA_wA, if_pos ⟨rfl, rfl⟩]
    · rw [mA_wA, if_neg (by omega), mA_wA, if_pos ⟨rfl, rfl⟩]
    · rw [mA_wA, if_pos ⟨rfl, rfl⟩]
  generalize wA (wA (wA (wA μ 18 q (fr : Int)) 19 q (ot : Int)) 20 (4 * q) ((i : Int) - fr)) 20 (4 * q + 1) ((pr : Int) - ot) = μ1 at kF kE ⊢
  obtain ⟨e1, e2, e3, e4⟩ := kE
  exact layHunk_loop hV hI v0 w0 l1 l2 n1 n2 h1 h2 (by omega) (fun μ2 z1 z2 => ⟨z1, z2⟩) 20 0 μ1 rfl kF ⟨e1, e2, e3, e4, fun j j1 => absurd j1 (Nat.not_lt_zero _), fun j j1 => absurd j1 (Nat.not_lt_zero _)⟩
end PT4
