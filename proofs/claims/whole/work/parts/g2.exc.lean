/-! BY HAND: laying a patch, by the reference: exchange -/
/-- new lines, with their names -/
def nwL : Nat → List Int64 → List (Int64 × Int)
  | _, [] => []
  | n, l :: ls => (l, (n : Int)) :: nwL (n + 1) ls
/-- the book with new lines -/
def bkL (F : List (Int64 × Int)) (w : Int) : List Int64 → BR → BR
  | [], b => b
  | l :: ls, b => bkL F w ls (bkP b l (apA F (bkN b) (bkA b) w l) (-1))
theorem nwL_len : ∀ (n : Nat) (ls : List Int64), (nwL n ls).length = ls.length
  | _, [] => rfl
  | n, l :: ls => by show (nwL (n + 1) ls).length + 1 = ls.length + 1; rw [nwL_len]
theorem nwL_get : ∀ (n : Nat) (ls : List Int64) (k : Nat), (nwL n ls)[k]? = (ls[k]?).map (fun l => (l, ((n + k : Nat) : Int)))
  | _, [], k => by simp [nwL]
  | n, l :: ls, 0 => rfl
  | n, l :: ls, k + 1 => by
    show (nwL (n + 1) ls)[k]? = (ls[k]?).map _
    rw [nwL_get (n + 1) ls k, show n + 1 + k = n + (k + 1) by omega]
theorem bkL_snoc {F : List (Int64 × Int)} {w : Int} {l : Int64} : ∀ (ls : List Int64) (b : BR), bkL F w (ls ++ [l]) b = bkP (bkL F w ls b) l (apA F (bkN (bkL F w ls b)) (bkA (bkL F w ls b)) w l) (-1)
  | [], b => rfl
  | x :: ls, b => bkL_snoc ls _
theorem bkL_n {F : List (Int64 × Int)} {w : Int} : ∀ (ls : List Int64) (b : BR), bkN (bkL F w ls b) = bkN b + ls.length
  | [], b => rfl
  | x :: ls, b => by
    show bkN (bkL F w ls _) = _
    rw [bkL_n ls, List.length_cons]
    show bkN b + 1 + ls.length = _
    omega
theorem bkL_s {F : List (Int64 × Int)} {w : Int} : ∀ (ls : List Int64) (b : BR) (i : Nat), i < bkN b → bkS (bkL F w ls b) i = bkS b i
  | [], b, i, _ => rfl
  | x :: ls, b, i, h => by
    show bkS (bkL F w ls _) i = _
    rw [bkL_s ls _ i (by show i < bkN b + 1; omega)]
    show up1 (bkS b) (bkN b) x i = _
    unfold up1; rw [if_neg (by omega)]
theorem bkL_new {F : List (Int64 × Int)} {w : Int} : ∀ (ls : List Int64) (b : BR), ∀ y ∈ nwL (bkN b) ls, (bkN b : Int) ≤ y.2 ∧ y.2 < bkN (bkL F w ls b) ∧ bkS (bkL F w ls b) y.2.toNat = y.1 ∧ y.1 ∈ ls
  | [], b, y, h => by cases h
  | x :: ls, b, y, h => by
    have en := bkL_n (F := F) (w := w) (x :: ls) b
    rw [List.length_cons] at en
    rcases List.mem_cons.mp h with e | g
    · subst e
      refine ⟨Int.le_refl _, by show (bkN b : Int) < _; omega, ?_, List.mem_cons_self ..⟩
      show bkS (bkL F w ls _) (bkN b : Int).toNat = x
      rw [Int.toNat_natCast, bkL_s ls _ _ (Nat.lt_succ_self _)]
      show up1 (bkS b) (bkN b) x (bkN b) = x
      unfold up1; rw [if_pos rfl]
    · obtain ⟨g1, g2, g3, g4⟩ := bkL_new (F := F) (w := w) ls (bkP b x (apA F (bkN b) (bkA b) w x) (-1)) y g
      refine ⟨?_, g2, g3, List.mem_cons_of_mem _ g4⟩
      have : ((bkN b + 1 : Nat) : Int) ≤ y.2 := g1
      omega
theorem nmL_new {F : List (Int64 × Int)} {w : Int} : ∀ (ls : List Int64) (b : BR), nmL F w (ls.map (fun l => (l, (-1 : Int)))) (bkN b) (bkA b) (bkO b) = (nwL (bkN b) ls, bkN (bkL F w ls b), bkA (bkL F w ls b), bkO (bkL F w ls b))
  | [], b => rfl
  | x :: ls, b => by
    show nmL F w ((x, -1) :: ls.map _) _ _ _ = _
    rw [nmL, if_pos rfl]
    have ih := nmL_new (F := F) (w := w) ls (bkP b x (apA F (bkN b) (bkA b) w x) (-1))
    have e1 : bkN (bkP b x (apA F (bkN b) (bkA b) w x) (-1)) = bkN b + 1 := rfl
    have e2 : bkA (bkP b x (apA F (bkN b) (bkA b) w x) (-1)) = up1 (bkA b) (bkN b) (apA F (bkN b) (bkA b) w x) := rfl
    have e3 : bkO (bkP b x (apA F (bkN b) (bkA b) w x) (-1)) = up1 (bkO b) (bkN b) (-1) := rfl
    rw [e1, e2, e3] at ih
    show ((x, (bkN b : Int)) :: (nmL F w _ (bkN b + 1) (up1 (bkA b) (bkN b) (apA F (bkN b) (bkA b) w x)) (up1 (bkO b) (bkN b) (-1))).1, (nmL F w _ (bkN b + 1) (up1 (bkA b) (bkN b) (apA F (bkN b) (bkA b) w x)) (up1 (bkO b) (bkN b) (-1))).2) = _
    rw [ih]; rfl
theorem Nm.bk {F T : List (Int64 × Int)} {w : Int} {b : BR} (ls : List Int64) (h : Nm b T) : Nm (bkL F w ls b) T := fun y hy => by
  obtain ⟨h1, h2, h3, h4⟩ := h y hy
  have := bkL_n (F := F) (w := w) ls b
  exact ⟨h1, by omega, by rw [bkL_s ls b _ (by omega)]; exact h3, h4⟩
theorem AuI.bk {F : List (Int64 × Int)} {w : Int} : ∀ (ls : List Int64) (b : BR), Nm b F → AuI b → isP w → AuI (bkL F w ls b)
  | [], b, _, h, _ => h
  | x :: ls, b, hN, h, hw => by
    refine AuI.bk ls _ ?_ (fun i hi => ?_) hw
    · have := Nm.bk (F := F) (w := w) [x] hN
      exact this
    · show isP (up1 (bkA b) (bkN b) _ i)
      have hi' : i < bkN b + 1 := hi
      unfold up1
      split
      · exact apA_p hN h hw
      · exact h i (by omega)
/-- the row of work, by names -/
def WkB (T : List (Int64 × Int)) (μ : Mu) : Prop := mI μ 53 = T.length ∧ T.length ≤ 60 ∧ ∀ (i : Nat) y, T[i]? = some y → mA μ 37 i = y.2
theorem WkB.s {T : List (Int64 × Int)} {μ : Mu} {b : BR} (h : WkB T μ) (hI : IdV b μ) (hN : Nm b T) : WkS T μ := by
  refine ⟨h.1, h.2.1, fun i y hy => ⟨h.2.2 i y hy, ?_⟩⟩
  obtain ⟨n1, n2, n3, -⟩ := hN y (List.mem_of_getElem? hy)
  have := hI.2.1
  exact ⟨n1, by omega, by rw [(hI.2.2 y.2.toNat (by omega)).1]; exact n3⟩
theorem WkB.fr {T : List (Int64 × Int)} {μ μ' : Mu} {fs js gs : List Nat} (h : WkB T μ) (k : Fr fs js gs μ μ') (h1 : 53 ∉ fs) (h2 : 37 ∉ js) : WkB T μ' :=
  ⟨(k.1 53 h1).trans h.1, h.2.1, fun i y hy => by rw [k.2.1 37 h2]; exact h.2.2 i y hy⟩
section EXC
variable {Ω : Om} {m : Nat} {μ μ0 : Mu} {V : List VR} {b : BR} {T : List (Int64 × Int)} {H : Hun} {q x : Nat} {w1 a more : Int}
theorem exc_put {σ0 : Sto} {F0 : QF} {v4 : Int} (hV : VeV V μ) (hI : IdV b μ) (e12 : mI μ 12 = w1) (e14 : mI μ 14 = a) (h0 : 0 ≤ w1) (h1 : w1 < V.length) (hN : Nm b (vtx V w1)) (h20 : (vtx V w1).length ≤ 20) (hA : AuI b) (ha : isP a) (h12 : bkN b + (hnF H).length ≤ 12000) (hl : ∀ l ∈ hnF H, isLn l = true) (hK : HkM μ q H) (hB : HnB H) (hq : q < 210) (hx : x ≤ 60) (hm : Q32 more)
    (out : ∀ μ1, Fr [1] [2, 3, 37] [1] μ μ1 → IdV (bkL (vtx V w1) a (hnF H) b) μ1 → (∀ j, j < x → mA μ1 37 j = mA μ 37 j) → (∀ j, x + (hnF H).length ≤ j → mA μ1 37 j = mA μ 37 j) → (∀ j, j < (hnF H).length → mA μ1 37 (x + j) = ((bkN b + j : Nat) : Int)) → Mw Ω σ0 m M_Mdl_exchange rm_Mdl_exchange F0 153 [xr (some m), xi q, xi x, xi more, xi v4, xi (hnF H).length] [] μ1) :
    ∀ (d k : Nat) (μ1 : Mu), k + d = (hnF H).length → Fr [1] [2, 3, 37] [1] μ μ1 → IdV (bkL (vtx V w1) a ((hnF H).take k) b) μ1 → (∀ j, j < x → mA μ1 37 j = mA μ 37 j) → (∀ j, x + (hnF H).length ≤ j → mA μ1 37 j = mA μ 37 j) → (∀ j, j < k → mA μ1 37 (x + j) = ((bkN b + j : Nat) : Int)) → Mw Ω σ0 m M_Mdl_exchange rm_Mdl_exchange F0 104 [xr (some m), xi q, xi x, xi more, xi v4, xi k] [] μ1 := by
  obtain ⟨b1, b2, b3, b4, b5, b6⟩ := hB
  have c41 := hK.2.1.2.1
  intro d
  induction d with
  | zero =>
    intro k μ1 hk hF hI1 g1 g2 g3
    have ek : k = (hnF H).length := by omega
    subst ek
    rw [List.take_length] at hI1
    refine B_exchange_104 ?_
    rw [show (4 * (q : Int) + 1).toNat = 4 * q + 1 by omega, hF.2.1 20 (by decide), c41]
    exact ⟨by omega, by omega, by omega, fun _ => out μ1 hF hI1 g1 g2 g3, fun z => absurd (Int.le_refl _) z⟩
  | succ d ih =>
    intro k μ1 hk hF hI1 g1 g2 g3
    obtain ⟨l, hl'⟩ : ∃ l, (hnF H)[k]? = some l := ⟨_, List.getElem?_eq_getElem (by omega)⟩
    have eg : gx (hnF H) k = l := by unfold gx; rw [List.getD_eq_getElem?_getD, hl']; rfl
    have lt : ((hnF H).take k).length = k := by rw [List.length_take]; omega
    have en := bkL_n (F := vtx V w1) (w := a) ((hnF H).take k) b
    rw [lt] at en
    have hA1 := AuI.bk (w := a) ((hnF H).take k) b hN hA ha
    have hN1 := Nm.bk (F := vtx V w1) (w := a) ((hnF H).take k) hN
    refine B_exchange_104 ?_
    rw [show (4 * (q : Int) + 1).toNat = 4 * q + 1 by omega, show (40 * (q : Int) + 20 + (k : Int)).toNat = 40 * q + 20 + k by omega, hF.2.1 20 (by decide), c41, hF.2.2 21 (by decide), hK.2.2.2.1 k (by omega), eg]
    refine ⟨by omega, by omega, by omega, fun z => absurd z (by omega), fun _ => ⟨by omega, by omega, ?_⟩⟩
    refine C_exchange_143 (K_putIn (hV.fr hF (by decide) (by decide)) hI1 ((hF.1 12 (by decide)).trans e12) ((hF.1 14 (by decide)).trans e14) h0 h1 hN1 h20 hA1 ha (by omega) (hl l (List.mem_of_getElem? hl'))) fun y μ2 hq2 => ?_
    obtain ⟨rfl, k2, hI2⟩ := hq2
    refine B_exchange_146 ?_
    rw [en, show ((x : Int) + (k : Int)).toNat = x + k by omega]
    refine ⟨by omega, by omega, by omega, ih (k + 1) _ (by omega) ((hF.trans (k2.mono (by decide) (by decide) (by decide))).trans (Fr.wA (by decide))) ?_ (fun j hj => ?_) (fun j hj => ?_) (fun j hj => ?_)⟩
    · have e : (hnF H).take (k + 1) = (hnF H).take k ++ [l] := by rw [List.take_add_one, hl']; rfl
      rw [e, bkL_snoc]
      exact hI2.fr (Fr.wA (fs := []) (js := [37]) (gs := []) (by decide)) (by decide) (by decide) (by decide) (by decide)
    · rw [wA_r, if_neg (by omega), k2.2.1 37 (by decide)]; exact g1 j hj
    · rw [wA_r, if_neg (by omega), k2.2.1 37 (by decide)]; exact g2 j hj
    · rw [wA_r]
      by_cases e : j = k
      · subst e; rw [if_pos rfl]
      · rw [if_neg (by omega), k2.2.1 37 (by decide)]; exact g3 j (by omega)
/-- lines behind moved up -/
theorem exc_right {σ0 : Sto} {F0 : QF} {e L : Nat} {mr : Nat} (h53 : mI μ 53 = L) (hL : L + mr ≤ 100) (he : e ≤ L) (hm : 0 < mr)
    (out : ∀ μ1, Fr [] [37] [] μ μ1 → (∀ j, j < e → mA μ1 37 j = mA μ 37 j) → (∀ j, e ≤ j → j < L → mA μ1 37 (j + mr) = mA μ 37 j) → Mw Ω σ0 m M_Mdl_exchange rm_Mdl_exchange F0 104 [xr (some m), xi q, xi x, xi mr, xi e, xi 0] [] (wI μ1 53 ((L : Int) + mr))) :
    ∀ (d : Nat) (k : Int) (μ1 : Mu), k + 1 - e = d → k < L → Fr [] [37] [] μ μ1 → (∀ j : Nat, (j : Int) ≤ k + mr → mA μ1 37 j = mA μ 37 j) → (∀ j : Nat, k < (j : Int) → j < L → mA μ1 37 (j + mr) = mA μ 37 j) → Mw Ω σ0 m M_Mdl_exchange rm_Mdl_exchange F0 24 [xr (some m), xi q, xi x, xi mr, xi e, xi k] [] μ1 := by
  intro d
  induction d with
  | zero =>
    intro k μ1 hk hkl hF g1 g2
    refine B_exchange_24 ?_
    rw [hF.1 53 (by decide), h53]
    exact ⟨by omega, by omega, fun _ => ⟨by omega, out μ1 hF (fun j hj => g1 j (by omega)) (fun j j1 j2 => g2 j (by omega) j2)⟩, fun z => absurd (by omega) z⟩
  | succ d ih =>
    intro k μ1 hk hkl hF g1 g2
    refine B_exchange_24 ⟨by omega, by omega, fun z => absurd z (by omega), fun _ => ⟨by omega, by omega, by omega, by omega, ?_⟩⟩
    refine ih (k + -1) _ (by omega) (by omega) (hF.trans (Fr.wA (by decide))) (fun j hj => ?_) (fun j j1 j2 => ?_)
    · rw [wA_r, if_neg (by omega)]; exact g1 j (by omega)
    · rw [wA_r]
      by_cases ej : (j : Int) = k
      · rw [if_pos (by omega), g1 k.toNat (by omega)]; congr 1; omega
      · rw [if_neg (by omega)]; exact g2 j (by omega) j2
theorem exc_left {σ0 : Sto} {F0 : QF} {e L ml : Nat} (h53 : mI μ 53 = L) (hL : L ≤ 100) (he : e ≤ L) (hm : ml ≤ e)
    (out : ∀ (z : Int) μ1, Fr [] [37] [] μ μ1 → (∀ j, j < e - ml → mA μ1 37 j = mA μ 37 j) → (∀ j, e ≤ j → j < L → mA μ1 37 (j - ml) = mA μ 37 j) → Mw Ω σ0 m M_Mdl_exchange rm_Mdl_exchange F0 104 [xr (some m), xi q, xi x, xi (-(ml : Int)), xi e, xi 0] [] (wI μ1 53 ((L : Int) + -(ml : Int)))) :
    ∀ (d k : Nat) (μ1 : Mu), k + d = L → e ≤ k → Fr [] [37] [] μ μ1 → (∀ j, k - ml ≤ j → mA μ1 37 j = mA μ 37 j) → (∀ j, j < e - ml → mA μ1 37 j = mA μ 37 j) → (∀ j, e ≤ j → j < k → mA μ1 37 (j - ml) = mA μ 37 j) → Mw Ω σ0 m M_Mdl_exchange rm_Mdl_exchange F0 60 [xr (some m), xi q, xi x, xi (-(ml : Int)), xi e, xi k] [] μ1 := by
  intro d
  induction d with
  | zero =>
    intro k μ1 hk hke hF g1 g2 g3
    refine B_exchange_60 ?_
    rw [hF.1 53 (by decide), h53]
    exact ⟨by omega, fun _ => ⟨by omega, out 0 μ1 hF g2 (fun j j1 j2 => g3 j j1 (by omega))⟩, fun z => absurd (by omega) z⟩
  | succ d ih =>
    intro k μ1 hk hke hF g1 g2 g3
    refine B_exchange_60 ?_
    rw [hF.1 53 (by decide), h53, show ((k : Int) + -(ml : Int)).toNat = k - ml by omega, Int.toNat_natCast]
    refine ⟨by omega, fun z => absurd z (by omega), fun _ => ⟨by omega, by omega, by omega, by omega, ?_⟩⟩
    refine ih (k + 1) _ (by omega) (by omega) (hF.trans (Fr.wA (by decide))) (fun j hj => ?_) (fun j hj => ?_) (fun j j1 j2 => ?_)
    · rw [wA_r]
      by_cases ej : j = k - ml
      · rw [if_pos ej, g1 k (by omega), ej]
        by_cases z : ml = 0
        · congr 1; omega
        · omega
      · rw [if_neg ej]; exact g1 j (by omega)
    · rw [wA_r, if_neg (by omega)]; exact g2 j hj
    · rw [wA_r]
      by_cases ej : j = k
      · subst ej; rw [if_pos rfl]; exact g1 j (by omega)
      · rw [if_neg (by omega)]; exact g3 j j1 (by omega)
theorem K_exchange (hW : WkB T μ) (hV : VeV V μ) (hI : IdV b μ) (e12 : mI μ 12 = w1) (e14 : mI μ 14 = a) (h0 : 0 ≤ w1) (h1 : w1 < V.length) (hN : Nm b (vtx V w1)) (h20 : (vtx V w1).length ≤ 20) (hA : AuI b) (ha : isP a) (h12 : bkN b + (hnF H).length ≤ 12000) (hl : ∀ l ∈ hnF H, isLn l = true) (hK : HkM μ q H) (hB : HnB H) (hq : q < 210) (hx : x + (hnG H).length ≤ T.length) (hT : T.length ≤ 40) : MMv Ω m M_Mdl_exchange rm_Mdl_exchange (fun μ' => Fr [1, 53] [2, 3, 37] [1] μ μ' ∧ IdV (bkL (vtx V w1) a (hnF H) b) μ' ∧ WkB (T.take x ++ nwL (bkN b) (hnF H) ++ T.drop (x + (hnG H).length)) μ') μ [xi q, xi x, xi (((hnF H).length : Int) - (hnG H).length)] := by
  have hB' := hB
  obtain ⟨b1, b2, b3, b4, b5, b6⟩ := hB'
  obtain ⟨w53, w60, wT⟩ := hW
  have c4 := hK.2.1.1
  have K104 : ∀ {σ0 : Sto} (more : Int) (μ1 : Mu), more = ((hnF H).length : Int) - (hnG H).length → Fr [] [37] [] μ μ1 → (∀ j, j < x → mA μ1 37 j = mA μ 37 j) → (∀ j, x + (hnG H).length ≤ j → j < T.length → mA μ1 37 (j + (hnF H).length - (hnG H).length) = mA μ 37 j) → Mw Ω σ0 m M_Mdl_exchange rm_Mdl_exchange (MQv Ω σ0 m rm_Mdl_exchange (fun μ' => Fr [1, 53] [2, 3, 37] [1] μ μ' ∧ IdV (bkL (vtx V w1) a (hnF H) b) μ' ∧ WkB (T.take x ++ nwL (bkN b) (hnF H) ++ T.drop (x + (hnG H).length)) μ')) 104 [xr (some m), xi q, xi x, xi more, xi ((x + (hnG H).length : Nat) : Int), xi 0] [] (wI μ1 53 ((T.length : Int) + more)) := fun {σ0} more μ1 em hF g1 g2 => by
    have k2 : Fr [53] [] [] μ1 (wI μ1 53 ((T.length : Int) + more)) := Fr.wI (by decide)
    have e53 : mI (wI μ1 53 ((T.length : Int) + more)) 53 = (T.length : Int) + more := by rw [mI_wI, if_pos rfl]
    have eA : mA (wI μ1 53 ((T.length : Int) + more)) = mA μ1 := mA_wI _ _ _
    generalize wI μ1 53 ((T.length : Int) + more) = μ2 at k2 e53 eA ⊢
    have k02 : Fr [53] [37] [] μ μ2 := (hF.mono (by decide) (by decide) (by decide)).trans (k2.mono (by decide) (by decide) (by decide))
    refine exc_put (hV.fr k02 (by decide) (by decide)) (hI.fr k02 (by decide) (by decide) (by decide) (by decide)) ((k02.1 12 (by decide)).trans e12) ((k02.1 14 (by decide)).trans e14) h0 h1 hN h20 hA ha h12 hl (hK.fr k02 (by decide) (by decide)) hB hq (by omega) (by omega) (fun μ3 k3 hI3 f1 f2 f3 => R_exchange_153 ⟨(k02.mono (by decide) (by decide) (by decide)).trans (k3.mono (by decide) (by decide) (by decide)), hI3, ?_, ?_, fun i y hy => ?_⟩) (hnF H).length 0 μ2 (Nat.zero_add _) Fr.rf (hI.fr k02 (by decide) (by decide) (by decide) (by decide)) (fun _ _ => rfl) (fun _ _ => rfl) (fun j j1 => absurd j1 (Nat.not_lt_zero _))
    · rw [k3.1 53 (by decide), e53, List.length_append, List.length_append, List.length_take, List.length_drop, nwL_len]; omega
    · rw [List.length_append, List.length_append, List.length_take, List.length_drop, nwL_len]; omega
    · have lA : (T.take x).length = x := by rw [List.length_take]; omega
      rw [List.append_assoc, List.getElem?_append, lA] at hy
      split at hy
      · rename_i hi
        rw [List.getElem?_take, if_pos hi] at hy
        rw [f1 i hi, eA, g1 i hi]; exact wT i y hy
      · rename_i hi
        rw [List.getElem?_append, nwL_len] at hy
        split at hy
        · rename_i hi2
          rw [nwL_get] at hy
          obtain ⟨l, _, e⟩ := Option.map_eq_some_iff.mp hy
          have := f3 (i - x) hi2
          rw [show x + (i - x) = i by omega] at this
          rw [this, ← e]
        · rename_i hi2
          rw [List.getElem?_drop] at hy
          have hlt := (List.getElem?_eq_some_iff.mp hy).1
          have := g2 (x + (hnG H).length + (i - x - (hnF H).length)) (by omega) hlt
          rw [show x + (hnG H).length + (i - x - (hnF H).length) + (hnF H).length - (hnG H).length = i by omega] at this
          rw [f2 i (by omega), eA, this]; exact wT _ y hy
  refine E_exchange fun σ0 => B_exchange_0 ?_
  rw [show (4 * (q : Int)).toNat = 4 * q by omega, c4, w53, show (x : Int) + ((hnG H).length : Int) = ((x + (hnG H).length : Nat) : Int) by omega]
  refine ⟨by omega, by omega, by omega, fun z => ?_, fun z => ?_⟩
  · obtain ⟨ml, hml⟩ : ∃ ml : Nat, ((hnF H).length : Int) - (hnG H).length = -(ml : Int) := ⟨(hnG H).length - (hnF H).length, by omega⟩
    have em := hml.symm
    rw [hml]
    refine exc_left w53 (by omega) hx (by omega) (fun z μ1 k1 f1 f2 => K104 _ μ1 em k1 (fun j hj => f1 j (by omega)) (fun j j1 j2 => ?_)) (T.length - (x + (hnG H).length)) _ μ (by omega) (Nat.le_refl _) Fr.rf (fun _ _ => rfl) (fun _ _ => rfl) (fun j j1 j2 => absurd j2 (by omega))
    have := f2 j j1 j2
    rw [← this]; congr 1; omega
  · obtain ⟨mr, hmr⟩ : ∃ mr : Nat, ((hnF H).length : Int) - (hnG H).length = (mr : Int) := ⟨(hnF H).length - (hnG H).length, by omega⟩
    have em := hmr.symm
    rw [hmr]
    refine exc_right w53 (by omega) hx (by omega) (fun μ1 k1 f1 f2 => K104 _ μ1 em k1 (fun j hj => f1 j (by omega)) (fun j j1 j2 => ?_)) (T.length - (x + (hnG H).length)) _ μ (by omega) (by omega) Fr.rf (fun _ _ => rfl) (fun j j1 j2 => absurd j2 (by omega))
    have := f2 j j1 j2
    rw [← this]; congr 1; omega
end EXC
