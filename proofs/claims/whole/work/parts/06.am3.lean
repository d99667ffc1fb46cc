/-! THE ABSTRACT MACHINE, 3: locals, the judgement, rows of stack, locals, numbers, branches -/
def st1 : Nat → PV → List PV → List PV
  | 0, v, _ :: t => v :: t
  | 1, v, x :: t => (bif isL x then xu else x) :: st1 0 v t
  | n + 2, v, x :: t => x :: st1 (n + 1) v t
  | _, _, [] => []
def st2 : Nat → PV → List PV → List PV
  | 0, v, _ :: _ :: t => v :: xu :: t
  | 1, v, x :: t => (bif isL x then xu else x) :: st2 0 v t
  | n + 2, v, x :: t => x :: st2 (n + 1) v t
  | _, _, L => L
theorem st1_len : ∀ (i : Nat) (v : PV) (L : List PV), (st1 i v L).length = L.length
  | 0, v, [] => rfl
  | 0, v, _ :: t => rfl
  | 1, v, [] => rfl
  | 1, v, x :: t => by simp only [st1, List.length_cons, st1_len 0 v t]
  | n + 2, v, [] => rfl
  | n + 2, v, x :: t => by simp only [st1, List.length_cons, st1_len (n + 1) v t]
theorem st1_get : ∀ (i : Nat) (v : PV) (L : List PV) (j : Nat) (w : PV), (st1 i v L)[j]? = some w → (j = i ∧ w = v) ∨ (j ≠ i ∧ (isU w = true ∨ (L[j]? = some w ∧ ¬ (j + 1 = i ∧ isL w = true))))
  | 0, v, [], j, w, h => by simp [st1] at h
  | 0, v, x :: t, 0, w, h => by simp [st1] at h; exact Or.inl ⟨rfl, h.symm⟩
  | 0, v, x :: t, j + 1, w, h => by simp [st1] at h; exact Or.inr ⟨by omega, Or.inr ⟨by simpa using h, by omega⟩⟩
  | 1, v, [], j, w, h => by simp [st1] at h
  | 1, v, x :: t, 0, w, h => by
    simp only [st1, List.getElem?_cons_zero, Option.some.injEq] at h
    cases hx : isL x with
    | true => rw [hx] at h; exact Or.inr ⟨by omega, Or.inl (by rw [← h]; rfl)⟩
    | false => rw [hx] at h; exact Or.inr ⟨by omega, Or.inr ⟨by rw [← h]; rfl, fun q => by rw [← h] at q; have q2 := q.2; simp [hx] at q2⟩⟩
  | 1, v, x :: t, j + 1, w, h => by
    simp only [st1, List.getElem?_cons_succ] at h
    rcases st1_get 0 v t j w h with ⟨a, b⟩ | ⟨a, b⟩
    · exact Or.inl ⟨by omega, b⟩
    · exact Or.inr ⟨by omega, b.imp id (fun q => ⟨by simpa using q.1, by omega⟩)⟩
  | n + 2, v, [], j, w, h => by simp [st1] at h
  | n + 2, v, x :: t, 0, w, h => by
    simp only [st1, List.getElem?_cons_zero] at h
    exact Or.inr ⟨by omega, Or.inr ⟨by simpa using h, by omega⟩⟩
  | n + 2, v, x :: t, j + 1, w, h => by
    simp only [st1, List.getElem?_cons_succ] at h
    rcases st1_get (n + 1) v t j w h with ⟨a, b⟩ | ⟨a, b⟩
    · exact Or.inl ⟨by omega, b⟩
    · exact Or.inr ⟨by omega, b.imp id (fun q => ⟨by simpa using q.1, fun z => q.2 ⟨by omega, z.2⟩⟩)⟩
theorem st2_len : ∀ (i : Nat) (v : PV) (L : List PV), (st2 i v L).length = L.length
  | 0, v, [] => rfl
  | 0, v, [_] => rfl
  | 0, v, _ :: _ :: t => rfl
  | 1, v, [] => rfl
  | 1, v, x :: t => by simp only [st2, List.length_cons, st2_len 0 v t]
  | n + 2, v, [] => rfl
  | n + 2, v, x :: t => by simp only [st2, List.length_cons, st2_len (n + 1) v t]
theorem st2_get : ∀ (i : Nat) (v : PV) (L : List PV) (j : Nat) (w : PV), i + 1 < L.length → (st2 i v L)[j]? = some w → (j = i ∧ w = v) ∨ (j ≠ i ∧ (isU w = true ∨ (j ≠ i + 1 ∧ L[j]? = some w ∧ ¬ (j + 1 = i ∧ isL w = true))))
  | 0, v, [], j, w, hl, h => by simp at hl
  | 0, v, [_], j, w, hl, h => by simp at hl
  | 0, v, x :: y :: t, 0, w, hl, h => by simp [st2] at h; exact Or.inl ⟨rfl, h.symm⟩
  | 0, v, x :: y :: t, 1, w, hl, h => by simp [st2] at h; exact Or.inr ⟨by omega, Or.inl (by rw [← h]; rfl)⟩
  | 0, v, x :: y :: t, j + 2, w, hl, h => by simp [st2] at h; exact Or.inr ⟨by omega, Or.inr ⟨by omega, by simpa using h, by omega⟩⟩
  | 1, v, [], j, w, hl, h => by simp at hl
  | 1, v, x :: t, 0, w, hl, h => by
    simp only [st2, List.getElem?_cons_zero, Option.some.injEq] at h
    cases hx : isL x with
    | true => rw [hx] at h; exact Or.inr ⟨by omega, Or.inl (by rw [← h]; rfl)⟩
    | false => rw [hx] at h; exact Or.inr ⟨by omega, Or.inr ⟨by omega, by rw [← h]; rfl, fun q => by rw [← h] at q; have q2 := q.2; simp [hx] at q2⟩⟩
  | 1, v, x :: t, j + 1, w, hl, h => by
    simp only [st2, List.getElem?_cons_succ] at h
    rcases st2_get 0 v t j w (by simp only [List.length_cons] at hl; omega) h with ⟨a, b⟩ | ⟨a, b⟩
    · exact Or.inl ⟨by omega, b⟩
    · exact Or.inr ⟨by omega, b.imp id (fun q => ⟨by omega, by simpa using q.2.1, by omega⟩)⟩
  | n + 2, v, [], j, w, hl, h => by simp at hl
  | n + 2, v, x :: t, 0, w, hl, h => by
    simp only [st2, List.getElem?_cons_zero] at h
    exact Or.inr ⟨by omega, Or.inr ⟨by omega, by simpa using h, by omega⟩⟩
  | n + 2, v, x :: t, j + 1, w, hl, h => by
    simp only [st2, List.getElem?_cons_succ] at h
    rcases st2_get (n + 1) v t j w (by simp only [List.length_cons] at hl; omega) h with ⟨a, b⟩ | ⟨a, b⟩
    · exact Or.inl ⟨by omega, b⟩
    · exact Or.inr ⟨by omega, b.imp id (fun q => ⟨by omega, by simpa using q.2.1, fun z => q.2.2 ⟨by omega, z.2⟩⟩)⟩
def LR (ls : Array Slot) (nL : Nat) (L : List PV) : Prop := L.length = nL ∧ ls.size = nL ∧ lv_wf ls ∧ ∀ (i : Nat) (v : PV), L[i]? = some v → isU v = false → ls[i]? = some (.val (xV v))
def prs (L : List PV) : List (Nat × Value) := (List.range L.length).filterMap (fun i => (L[i]?).bind (fun v => if isU v = true then none else some (i, xV v)))
theorem prs_mem {L : List PV} {q : Nat × Value} (h : q ∈ prs L) : ∃ v, L[q.1]? = some v ∧ isU v = false ∧ q.2 = xV v := by
  obtain ⟨i, -, hi⟩ := List.mem_filterMap.mp h
  obtain ⟨v, h1, h2⟩ := Option.bind_eq_some_iff.mp hi
  by_cases hu : isU v = true
  · rw [if_pos hu] at h2; cases h2
  · rw [if_neg hu] at h2; cases h2
    exact ⟨v, h1, by simpa using hu, rfl⟩
theorem mem_prs {L : List PV} {j : Nat} {v : PV} (h : L[j]? = some v) (hu : isU v = false) : (j, xV v) ∈ prs L :=
  List.mem_filterMap.mpr ⟨j, List.mem_range.mpr (List.getElem?_eq_some_iff.mp h).1, by rw [h, Option.bind_some, if_neg (by rw [hu]; decide)]⟩
theorem LR.has {ls : Array Slot} {nL : Nat} {L : List PV} (h : LR ls nL L) : lv_has ls nL (prs L) := by
  refine ⟨h.2.1, h.2.2.1, fun q hq => ?_⟩
  obtain ⟨v, h1, h2, h3⟩ := prs_mem hq
  rw [h3]; exact h.2.2.2 _ _ h1 h2
theorem LR.get {ls : Array Slot} {nL : Nat} {L : List PV} (h : LR ls nL L) {i : Nat} {v : PV} (hi : L[i]? = some v) (hu : isU v = false) : ls[i]? = some (.val (xV v)) := h.2.2.2 _ _ hi hu
theorem xV_cat_ne {w : PV} (h : ¬ isL w = true) : ¬ (xV w).category = 2 := by rw [xV_cat1 (by simpa using h)]; decide
theorem LR.s1 {ls' : Array Slot} {nL : Nat} {L : List PV} {i : Nat} {v : PV} (hL : L.length = nL) (h : lv_has ls' nL ((i, xV v) :: (prs L).filter (fun q => !(q.1 == i) && !(q.1 + 1 == i && q.2.category == 2)))) : LR ls' nL (st1 i v L) := by
  refine ⟨by rw [st1_len, hL], h.1, h.2.1, fun j w hj hu => ?_⟩
  rcases st1_get i v L j w hj with ⟨a, b⟩ | ⟨a, b | ⟨b, d⟩⟩
  · rw [a, b]; exact h.2.2 (i, xV v) List.mem_cons_self
  · rw [hu] at b; cases b
  · refine h.2.2 (j, xV w) (List.mem_cons_of_mem _ (List.mem_filter.mpr ⟨mem_prs b hu, ?_⟩))
    have h1 : (j == i) = false := beq_eq_false_iff_ne.mpr a
    simp only [h1, Bool.not_false, Bool.true_and, Bool.not_eq_true', Bool.and_eq_false_iff, beq_eq_false_iff_ne]
    by_cases e : j + 1 = i
    · exact Or.inr (xV_cat_ne (fun z => d ⟨e, z⟩))
    · exact Or.inl e
theorem LR.s2 {ls' : Array Slot} {nL : Nat} {L : List PV} {i : Nat} {v : PV} (hL : L.length = nL) (hi : i + 1 < nL) (h : lv_has ls' nL ((i, xV v) :: (prs L).filter (fun q => !(q.1 == i) && (!(q.1 == i + 1) && !(q.1 + 1 == i && q.2.category == 2))))) : LR ls' nL (st2 i v L) := by
  refine ⟨by rw [st2_len, hL], h.1, h.2.1, fun j w hj hu => ?_⟩
  rcases st2_get i v L j w (by omega) hj with ⟨a, b⟩ | ⟨a, b | ⟨a2, b, d⟩⟩
  · rw [a, b]; exact h.2.2 (i, xV v) List.mem_cons_self
  · rw [hu] at b; cases b
  · refine h.2.2 (j, xV w) (List.mem_cons_of_mem _ (List.mem_filter.mpr ⟨mem_prs b hu, ?_⟩))
    have h1 : (j == i) = false := beq_eq_false_iff_ne.mpr a
    have h2 : (j == i + 1) = false := beq_eq_false_iff_ne.mpr a2
    simp only [h1, h2, Bool.not_false, Bool.true_and, Bool.not_eq_true', Bool.and_eq_false_iff, beq_eq_false_iff_ne]
    by_cases e : j + 1 = i
    · exact Or.inr (xV_cat_ne (fun z => d ⟨e, z⟩))
    · exact Or.inl e
/-! a method: its name, its class's name, its bytes, how many locals, what it returns, its table -/
abbrev MI : Type := MethodName × String × ByteArray × Nat × Option FieldType × List (Nat × Nat × Nat × Nat)
abbrev my (M : MI) : MethodName := M.1
abbrev mo (M : MI) : String := M.2.1
abbrev mb (M : MI) : ByteArray := M.2.2.1
abbrev mL (M : MI) : Nat := M.2.2.2.1
abbrev mr (M : MI) : Option FieldType := M.2.2.2.2.1
abbrev mh (M : MI) : List (Nat × Nat × Nat × Nat) := M.2.2.2.2.2
abbrev QF : Type := List Frame → Array Value → State → State → Prop
def Bd (Ω : Om) (M : MI) (p : Program) (e : Env) (s : State) (m : MethodId) (args : Array Value) (below : List Frame) (meth : Method) (c : Code) : Prop :=
  p.tables.exec = Jvm.exec ∧ c.code = mb M ∧ c.maxLocals = mL M ∧ meth.sig.returnType = mr M ∧ s.vm.findClass (mo M) = some m.cls ∧ meth.locks = false ∧ c.exceptionTable.toList = tableOf (mh M) ∧ ((my M).name = "<init>" → meth.name = "<init>") ∧ Kn Ω s ∧ (oH Ω).size ≤ s.heap.size ∧ ∀ q, q < (oH Ω).size → s.heap[q]? = (oH Ω)[q]?
def Aw (Ω : Om) (M : MI) (R : Room) (F : QF) (k n pc : Nat) (L st : List PV) (σ : Sto) : Prop :=
  ∀ (p : Program) (e : Env) (s : State) (m : MethodId) (args : Array Value) (below : List Frame) (meth : Method) (c : Code) (H : Heap) (locs : List Loc) (ls : Array Slot),
    Bd Ω M p e s m args below meth c → Rep Ω σ H → va_S (oA Ω) s.heap H locs → LR ls (mL M) L → W p (oL Ω) e R s m args below meth c H locs k n (F below args s) (F0 m pc ls (st.map xV))
/-- an exception of the class E is thrown over the frame -/
def Ax (Ω : Om) (M : MI) (R : Room) (F : QF) (k n pc : Nat) (L st : List PV) (σ : Sto) (E : String) : Prop :=
  ∀ (p : Program) (e : Env) (s : State) (m : MethodId) (args : Array Value) (below : List Frame) (meth : Method) (c : Code) (H : Heap) (locs : List Loc) (ls : Array Slot) (q : Nat) (ce : Cell),
    Bd Ω M p e s m args below meth c → Rep Ω σ H → va_S (oA Ω) s.heap H locs → LR ls (mL M) L → H[q]? = some ce → ce.vm = .none → s.vm.findClass E = some ce.cls → vx_W p (oL Ω) e R s m args below meth c H locs k n (F below args s) (F0 m pc ls (st.map xV)) q
section AW
variable {Ω : Om} {M : MI} {R : Room} {F : QF} {k n pc : Nat} {L st : List PV} {σ : Sto}
theorem Aw.at {pc' : Nat} (h : Aw Ω M R F k n pc' L st σ) (e : pc' = pc := by rfl) : Aw Ω M R F k n pc L st σ := e ▸ h
theorem Aw.wide {k' n' : Nat} (h1 : k ≤ k') (h2 : n ≤ n') (h : Aw Ω M R F k' n' pc L st σ) : Aw Ω M R F k n pc L st σ :=
  fun p e s m args below meth c H locs ls B hR hS hL => W.widen h1 h2 (h p e s m args below meth c H locs ls B hR hS hL)
theorem Aw.iconst {v : Int} (d : decode (mb M) pc = .ok (.iconst v, 1)) (kk : Aw Ω M R F k n (pc + 1) L (xi v :: st) σ) : Aw Ω M R F k n pc L (st) σ := by
  intro p e s m args below meth c H locs ls B hR hS hL
  refine lv_iconst B.1 B.2.1 d rfl ?_
  exact kk p e s m args below meth c H locs ls B hR hS hL
theorem Aw.bipush {v : Int} (hv : (Int8.ofInt v).toInt32 = Int32.ofInt v) (d : decode (mb M) pc = .ok (.bipush v, 2)) (kk : Aw Ω M R F k n (pc + 2) L (xi v :: st) σ) : Aw Ω M R F k n pc L (st) σ := by
  intro p e s m args below meth c H locs ls B hR hS hL
  refine lv_bipush B.1 B.2.1 d hv ?_
  exact kk p e s m args below meth c H locs ls B hR hS hL
theorem Aw.sipush {v : Int} (hv : (Int16.ofInt v).toInt32 = Int32.ofInt v) (d : decode (mb M) pc = .ok (.sipush v, 3)) (kk : Aw Ω M R F k n (pc + 3) L (xi v :: st) σ) : Aw Ω M R F k n pc L (st) σ := by
  intro p e s m args below meth c H locs ls B hR hS hL
  refine lv_sipush B.1 B.2.1 d hv ?_
  exact kk p e s m args below meth c H locs ls B hR hS hL
theorem Aw.lconst {v : Fin 2} {w : Int64} (hv : Int64.ofNat (v : Nat) = w) (d : decode (mb M) pc = .ok (.lconst v, 1)) (kk : Aw Ω M R F k n (pc + 1) L (xl w :: st) σ) : Aw Ω M R F k n pc L (st) σ := by
  intro p e s m args below meth c H locs ls B hR hS hL
  refine lv_lconst B.1 B.2.1 d hv ?_
  exact kk p e s m args below meth c H locs ls B hR hS hL
theorem Aw.null  (d : decode (mb M) pc = .ok (.aconst_null, 1)) (kk : Aw Ω M R F k n (pc + 1) L (xr none :: st) σ) : Aw Ω M R F k n pc L (st) σ := by
  intro p e s m args below meth c H locs ls B hR hS hL
  refine lv_null B.1 B.2.1 d ?_
  exact kk p e s m args below meth c H locs ls B hR hS hL
theorem Aw.iload_n {j : Fin 4} {x : Int} (hl : L[(j : Nat)]? = some (xi x)) (d : decode (mb M) pc = .ok (.iload_n j, 1)) (kk : Aw Ω M R F k n (pc + 1) L (xi x :: st) σ) : Aw Ω M R F k n pc L (st) σ := by
  intro p e s m args below meth c H locs ls B hR hS hL
  refine lv_iload_n B.1 B.2.1 d rfl (hL.get hl rfl) ?_
  exact kk p e s m args below meth c H locs ls B hR hS hL
theorem Aw.iload {j : Nat} {x : Int} (hl : L[j]? = some (xi x)) (d : decode (mb M) pc = .ok (.iload j, 2)) (kk : Aw Ω M R F k n (pc + 2) L (xi x :: st) σ) : Aw Ω M R F k n pc L (st) σ := by
  intro p e s m args below meth c H locs ls B hR hS hL
  refine lv_iload B.1 B.2.1 d (hL.get hl rfl) ?_
  exact kk p e s m args below meth c H locs ls B hR hS hL
theorem Aw.lload_n {j : Fin 4} {x : Int64} (hl : L[(j : Nat)]? = some (xl x)) (d : decode (mb M) pc = .ok (.lload_n j, 1)) (kk : Aw Ω M R F k n (pc + 1) L (xl x :: st) σ) : Aw Ω M R F k n pc L (st) σ := by
  intro p e s m args below meth c H locs ls B hR hS hL
  refine lv_lload_n B.1 B.2.1 d rfl (hL.get hl rfl) ?_
  exact kk p e s m args below meth c H locs ls B hR hS hL
theorem Aw.lload {j : Nat} {x : Int64} (hl : L[j]? = some (xl x)) (d : decode (mb M) pc = .ok (.lload j, 2)) (kk : Aw Ω M R F k n (pc + 2) L (xl x :: st) σ) : Aw Ω M R F k n pc L (st) σ := by
  intro p e s m args below meth c H locs ls B hR hS hL
  refine lv_lload B.1 B.2.1 d (hL.get hl rfl) ?_
  exact kk p e s m args below meth c H locs ls B hR hS hL
theorem Aw.aload_n {j : Fin 4} {x : Option Nat} (hl : L[(j : Nat)]? = some (xr x)) (d : decode (mb M) pc = .ok (.aload_n j, 1)) (kk : Aw Ω M R F k n (pc + 1) L (xr x :: st) σ) : Aw Ω M R F k n pc L st σ := by
  intro p e s m args below meth c H locs ls B hR hS hL
  cases x with
  | none => exact lv_aload_nN B.1 B.2.1 d rfl (hL.get hl rfl) (kk p e s m args below meth c H locs ls B hR hS hL)
  | some a => exact lv_aload_n B.1 B.2.1 d rfl (hL.get hl rfl) (kk p e s m args below meth c H locs ls B hR hS hL)
theorem Aw.aload {j : Nat} {x : Option Nat} (hl : L[j]? = some (xr x)) (d : decode (mb M) pc = .ok (.aload j, 2)) (kk : Aw Ω M R F k n (pc + 2) L (xr x :: st) σ) : Aw Ω M R F k n pc L st σ := by
  intro p e s m args below meth c H locs ls B hR hS hL
  cases x with
  | none => exact lv_aloadN B.1 B.2.1 d (hL.get hl rfl) (kk p e s m args below meth c H locs ls B hR hS hL)
  | some a => exact lv_aload B.1 B.2.1 d (hL.get hl rfl) (kk p e s m args below meth c H locs ls B hR hS hL)
theorem Aw.istore_n {j : Fin 4} {x : Int} (hj : (j : Nat) < mL M) (d : decode (mb M) pc = .ok (.istore_n j, 1)) (kk : Aw Ω M R F k n (pc + 1) (st1 (j : Nat) (xi x) L) st σ) : Aw Ω M R F k n pc L (xi x :: st) σ := by
  intro p e s m args below meth c H locs ls B hR hS hL
  exact lv_istore_n B.1 B.2.1 d rfl hL.has hj rfl (fun ls' h' => kk p e s m args below meth c H locs ls' B hR hS (LR.s1 hL.1 h'))
theorem Aw.lstore_n {j : Fin 4} {x : Int64} (hj : (j : Nat) + 1 < mL M) (d : decode (mb M) pc = .ok (.lstore_n j, 1)) (kk : Aw Ω M R F k n (pc + 1) (st2 (j : Nat) (xl x) L) st σ) : Aw Ω M R F k n pc L (xl x :: st) σ := by
  intro p e s m args below meth c H locs ls B hR hS hL
  exact lv_lstore_n B.1 B.2.1 d rfl hL.has hj rfl (fun ls' h' => kk p e s m args below meth c H locs ls' B hR hS (LR.s2 hL.1 hj h'))
theorem Aw.astore_n {j : Fin 4} {x : Option Nat} (hj : (j : Nat) < mL M) (d : decode (mb M) pc = .ok (.astore_n j, 1)) (kk : Aw Ω M R F k n (pc + 1) (st1 (j : Nat) (xr x) L) st σ) : Aw Ω M R F k n pc L (xr x :: st) σ := by
  intro p e s m args below meth c H locs ls B hR hS hL
  cases x with
  | none => exact lv_astore_nN B.1 B.2.1 d rfl hL.has hj rfl (fun ls' h' => kk p e s m args below meth c H locs ls' B hR hS (LR.s1 hL.1 h'))
  | some a => exact lv_astore_n B.1 B.2.1 d rfl hL.has hj rfl (fun ls' h' => kk p e s m args below meth c H locs ls' B hR hS (LR.s1 hL.1 h'))
theorem Aw.istore {j : Nat} {x : Int} (hj : j < mL M) (d : decode (mb M) pc = .ok (.istore j, 2)) (kk : Aw Ω M R F k n (pc + 2) (st1 j (xi x) L) st σ) : Aw Ω M R F k n pc L (xi x :: st) σ := by
  intro p e s m args below meth c H locs ls B hR hS hL
  exact lv_istore B.1 B.2.1 d hL.has hj rfl (fun ls' h' => kk p e s m args below meth c H locs ls' B hR hS (LR.s1 hL.1 h'))
theorem Aw.lstore {j : Nat} {x : Int64} (hj : j + 1 < mL M) (d : decode (mb M) pc = .ok (.lstore j, 2)) (kk : Aw Ω M R F k n (pc + 2) (st2 j (xl x) L) st σ) : Aw Ω M R F k n pc L (xl x :: st) σ := by
  intro p e s m args below meth c H locs ls B hR hS hL
  exact lv_lstore B.1 B.2.1 d hL.has hj rfl (fun ls' h' => kk p e s m args below meth c H locs ls' B hR hS (LR.s2 hL.1 hj h'))
theorem Aw.astore {j : Nat} {x : Option Nat} (hj : j < mL M) (d : decode (mb M) pc = .ok (.astore j, 2)) (kk : Aw Ω M R F k n (pc + 2) (st1 j (xr x) L) st σ) : Aw Ω M R F k n pc L (xr x :: st) σ := by
  intro p e s m args below meth c H locs ls B hR hS hL
  cases x with
  | none => exact lv_astoreN B.1 B.2.1 d hL.has hj rfl (fun ls' h' => kk p e s m args below meth c H locs ls' B hR hS (LR.s1 hL.1 h'))
  | some a => exact lv_astore B.1 B.2.1 d hL.has hj rfl (fun ls' h' => kk p e s m args below meth c H locs ls' B hR hS (LR.s1 hL.1 h'))
theorem Aw.iinc {j : Nat} {v x : Int} (hl : L[j]? = some (xi x)) (d : decode (mb M) pc = .ok (.iinc j v, 3)) (kk : Aw Ω M R F k n (pc + 3) (st1 j (xi (x + v)) L) st σ) : Aw Ω M R F k n pc L st σ := by
  intro p e s m args below meth c H locs ls B hR hS hL
  obtain ⟨q, hq⟩ := List.getElem?_of_mem (mem_prs hl rfl)
  exact lv_iinc B.1 B.2.1 d hL.has (k := q) hq (v := Int32.ofInt (x + v)) (by rw [Int32.ofInt_add]) (by have := (List.getElem?_eq_some_iff.mp hl).1; rw [hL.1] at this; exact this) rfl (fun ls' h' => kk p e s m args below meth c H locs ls' B hR hS (LR.s1 (v := xi (x + v)) hL.1 h'))
theorem Aw.iadd {x y : Int} (d : decode (mb M) pc = .ok (.iadd, 1)) (kk : Aw Ω M R F k n (pc + 1) L (xi (x + y) :: st) σ) : Aw Ω M R F k n pc L (xi y :: xi x :: st) σ := by
  intro p e s m args below meth c H locs ls B hR hS hL
  refine lv_iadd B.1 B.2.1 d ?_
  have h := kk p e s m args below meth c H locs ls B hR hS hL
  simp only [List.map_cons, xV_i, Int32.ofInt_add] at h ⊢
  exact h
theorem Aw.isub {x y : Int} (d : decode (mb M) pc = .ok (.isub, 1)) (kk : Aw Ω M R F k n (pc + 1) L (xi (x - y) :: st) σ) : Aw Ω M R F k n pc L (xi y :: xi x :: st) σ := by
  intro p e s m args below meth c H locs ls B hR hS hL
  refine lv_isub B.1 B.2.1 d ?_
  have h := kk p e s m args below meth c H locs ls B hR hS hL
  simp only [List.map_cons, xV_i, Int32.ofInt_sub] at h ⊢
  exact h
theorem Aw.imul {x y : Int} (d : decode (mb M) pc = .ok (.imul, 1)) (kk : Aw Ω M R F k n (pc + 1) L (xi (x * y) :: st) σ) : Aw Ω M R F k n pc L (xi y :: xi x :: st) σ := by
  intro p e s m args below meth c H locs ls B hR hS hL
  refine lv_imul B.1 B.2.1 d ?_
  have h := kk p e s m args below meth c H locs ls B hR hS hL
  simp only [List.map_cons, xV_i, Int32.ofInt_mul] at h ⊢
  exact h
def bAnd (x y : Int) : Int := (Int32.ofInt x &&& Int32.ofInt y).toInt
def bOr (x y : Int) : Int := (Int32.ofInt x ||| Int32.ofInt y).toInt
def bShl (x y : Int) : Int := (Int32.ofInt x <<< (Int32.ofInt y &&& 31)).toInt
def bShr (x y : Int) : Int := (Int32.ofInt x >>> (Int32.ofInt y &&& 31)).toInt
def bDiv (x y : Int) : Int := (Int32.ofInt x / Int32.ofInt y).toInt
theorem Aw.iand {x y : Int} (d : decode (mb M) pc = .ok (.iand, 1)) (kk : Aw Ω M R F k n (pc + 1) L (xi (bAnd x y) :: st) σ) : Aw Ω M R F k n pc L (xi y :: xi x :: st) σ := by
  intro p e s m args below meth c H locs ls B hR hS hL
  refine lv_iand B.1 B.2.1 d ?_
  have h := kk p e s m args below meth c H locs ls B hR hS hL
  simp only [List.map_cons, xV_i, bAnd, ofInt_toInt] at h ⊢
  exact h
theorem Aw.ior {x y : Int} (d : decode (mb M) pc = .ok (.ior, 1)) (kk : Aw Ω M R F k n (pc + 1) L (xi (bOr x y) :: st) σ) : Aw Ω M R F k n pc L (xi y :: xi x :: st) σ := by
  intro p e s m args below meth c H locs ls B hR hS hL
  refine lv_ior B.1 B.2.1 d ?_
  have h := kk p e s m args below meth c H locs ls B hR hS hL
  simp only [List.map_cons, xV_i, bOr, ofInt_toInt] at h ⊢
  exact h
theorem Aw.ishl {x y : Int} (d : decode (mb M) pc = .ok (.ishl, 1)) (kk : Aw Ω M R F k n (pc + 1) L (xi (bShl x y) :: st) σ) : Aw Ω M R F k n pc L (xi y :: xi x :: st) σ := by
  intro p e s m args below meth c H locs ls B hR hS hL
  refine lv_ishl B.1 B.2.1 d ?_
  have h := kk p e s m args below meth c H locs ls B hR hS hL
  simp only [List.map_cons, xV_i, bShl, ofInt_toInt] at h ⊢
  exact h
theorem Aw.ishr {x y : Int} (d : decode (mb M) pc = .ok (.ishr, 1)) (kk : Aw Ω M R F k n (pc + 1) L (xi (bShr x y) :: st) σ) : Aw Ω M R F k n pc L (xi y :: xi x :: st) σ := by
  intro p e s m args below meth c H locs ls B hR hS hL
  refine lv_ishr B.1 B.2.1 d ?_
  have h := kk p e s m args below meth c H locs ls B hR hS hL
  simp only [List.map_cons, xV_i, bShr, ofInt_toInt] at h ⊢
  exact h
theorem Aw.idiv {x y : Int} (hy : R32 y) (h0 : y ≠ 0) (d : decode (mb M) pc = .ok (.idiv, 1)) (kk : Aw Ω M R F k n (pc + 1) L (xi (bDiv x y) :: st) σ) : Aw Ω M R F k n pc L (xi y :: xi x :: st) σ := by
  intro p e s m args below meth c H locs ls B hR hS hL
  refine lv_idiv B.1 B.2.1 d (fun q => h0 (hy.zero.mp q)) ?_
  have h := kk p e s m args below meth c H locs ls B hR hS hL
  simp only [List.map_cons, xV_i, bDiv, ofInt_toInt] at h ⊢
  exact h
theorem Aw.ineg {x : Int} (d : decode (mb M) pc = .ok (.ineg, 1)) (kk : Aw Ω M R F k n (pc + 1) L (xi (-x) :: st) σ) : Aw Ω M R F k n pc L (xi x :: st) σ := by
  intro p e s m args below meth c H locs ls B hR hS hL
  refine lv_ineg B.1 B.2.1 d ?_
  have h := kk p e s m args below meth c H locs ls B hR hS hL
  simp only [List.map_cons, xV_i, Int32.ofInt_neg] at h ⊢
  exact h
theorem Aw.ladd {x y : Int64} (d : decode (mb M) pc = .ok (.ladd, 1)) (kk : Aw Ω M R F k n (pc + 1) L (xl (x + y) :: st) σ) : Aw Ω M R F k n pc L (xl y :: xl x :: st) σ := by
  intro p e s m args below meth c H locs ls B hR hS hL
  refine lv_ladd B.1 B.2.1 d ?_
  exact kk p e s m args below meth c H locs ls B hR hS hL
theorem Aw.land {x y : Int64} (d : decode (mb M) pc = .ok (.land, 1)) (kk : Aw Ω M R F k n (pc + 1) L (xl (x &&& y) :: st) σ) : Aw Ω M R F k n pc L (xl y :: xl x :: st) σ := by
  intro p e s m args below meth c H locs ls B hR hS hL
  refine lv_land B.1 B.2.1 d ?_
  exact kk p e s m args below meth c H locs ls B hR hS hL
theorem Aw.lor {x y : Int64} (d : decode (mb M) pc = .ok (.lor, 1)) (kk : Aw Ω M R F k n (pc + 1) L (xl (x ||| y) :: st) σ) : Aw Ω M R F k n pc L (xl y :: xl x :: st) σ := by
  intro p e s m args below meth c H locs ls B hR hS hL
  refine lv_lor B.1 B.2.1 d ?_
  exact kk p e s m args below meth c H locs ls B hR hS hL
def lUsh (x : Int64) (y : Int) : Int64 := (x.toUInt64 >>> ((Int32.ofInt y).toInt64.toUInt64 &&& Int64.toUInt64 63)).toInt64
def lShl (x : Int64) (y : Int) : Int64 := x <<< ((Int32.ofInt y).toInt64 &&& 63)
def lShr (x : Int64) (y : Int) : Int64 := x >>> ((Int32.ofInt y).toInt64 &&& 63)
def lOf (x : Int) : Int64 := (Int32.ofInt x).toInt64
def iOf (x : Int64) : Int := (x.toInt32).toInt
def cmpL (x y : Int64) : Int := (lg_cmp x y).toInt
theorem Aw.lushr {x : Int64} {y : Int} (d : decode (mb M) pc = .ok (.lushr, 1)) (kk : Aw Ω M R F k n (pc + 1) L (xl (lUsh x y) :: st) σ) : Aw Ω M R F k n pc L (xi y :: xl x :: st) σ := by
  intro p e s m args below meth c H locs ls B hR hS hL
  refine lv_lushr B.1 B.2.1 d rfl ?_
  exact kk p e s m args below meth c H locs ls B hR hS hL
theorem Aw.lshl {x : Int64} {y : Int} (d : decode (mb M) pc = .ok (.lshl, 1)) (kk : Aw Ω M R F k n (pc + 1) L (xl (lShl x y) :: st) σ) : Aw Ω M R F k n pc L (xi y :: xl x :: st) σ := by
  intro p e s m args below meth c H locs ls B hR hS hL
  refine lv_lshl B.1 B.2.1 d rfl ?_
  exact kk p e s m args below meth c H locs ls B hR hS hL
theorem Aw.lshr {x : Int64} {y : Int} (d : decode (mb M) pc = .ok (.lshr, 1)) (kk : Aw Ω M R F k n (pc + 1) L (xl (lShr x y) :: st) σ) : Aw Ω M R F k n pc L (xi y :: xl x :: st) σ := by
  intro p e s m args below meth c H locs ls B hR hS hL
  refine lv_lshr B.1 B.2.1 d rfl ?_
  exact kk p e s m args below meth c H locs ls B hR hS hL
theorem Aw.i2l {x : Int} (d : decode (mb M) pc = .ok (.i2l, 1)) (kk : Aw Ω M R F k n (pc + 1) L (xl (lOf x) :: st) σ) : Aw Ω M R F k n pc L (xi x :: st) σ := by
  intro p e s m args below meth c H locs ls B hR hS hL
  refine lv_i2l B.1 B.2.1 d rfl ?_
  exact kk p e s m args below meth c H locs ls B hR hS hL
theorem Aw.l2i {x : Int64} (d : decode (mb M) pc = .ok (.l2i, 1)) (kk : Aw Ω M R F k n (pc + 1) L (xi (iOf x) :: st) σ) : Aw Ω M R F k n pc L (xl x :: st) σ := by
  intro p e s m args below meth c H locs ls B hR hS hL
  refine lv_l2i B.1 B.2.1 d rfl ?_
  have h := kk p e s m args below meth c H locs ls B hR hS hL
  simp only [List.map_cons, xV_i, xV_l, iOf, ofInt_toInt] at h ⊢
  exact h
theorem Aw.lcmp {x y : Int64} (d : decode (mb M) pc = .ok (.lcmp, 1)) (kk : Aw Ω M R F k n (pc + 1) L (xi (cmpL x y) :: st) σ) : Aw Ω M R F k n pc L (xl y :: xl x :: st) σ := by
  intro p e s m args below meth c H locs ls B hR hS hL
  refine W.lcmp B.1 B.2.1 d ?_
  have h := kk p e s m args below meth c H locs ls B hR hS hL
  simp only [List.map_cons, xV_i, cmpL, ofInt_toInt] at h ⊢
  exact h
theorem Aw.dup {v : PV} (h1 : isL v = false) (d : decode (mb M) pc = .ok (.dup, 1)) (kk : Aw Ω M R F k n (pc + 1) L (v :: v :: st) σ) : Aw Ω M R F k n pc L (v :: st) σ := by
  intro p e s m args below meth c H locs ls B hR hS hL
  refine lv_dup B.1 B.2.1 d (xV_cat1 h1) ?_
  exact kk p e s m args below meth c H locs ls B hR hS hL
theorem Aw.pop {v : PV} (h1 : isL v = false) (d : decode (mb M) pc = .ok (.pop, 1)) (kk : Aw Ω M R F k n (pc + 1) L (st) σ) : Aw Ω M R F k n pc L (v :: st) σ := by
  intro p e s m args below meth c H locs ls B hR hS hL
  refine lv_pop B.1 B.2.1 d (xV_cat1 h1) ?_
  exact kk p e s m args below meth c H locs ls B hR hS hL
theorem Aw.dup_x1 {v w : PV} (h1 : isL v = false) (h2 : isL w = false) (d : decode (mb M) pc = .ok (.dup_x1, 1)) (kk : Aw Ω M R F k n (pc + 1) L (v :: w :: v :: st) σ) : Aw Ω M R F k n pc L (v :: w :: st) σ := by
  intro p e s m args below meth c H locs ls B hR hS hL
  refine lv_dup_x1 B.1 B.2.1 d (xV_cat1 h1) (xV_cat1 h2) ?_
  exact kk p e s m args below meth c H locs ls B hR hS hL
theorem Aw.goto {off : Int} {tgt : Nat} (ht : (pc : Int) + off = (tgt : Int)) (d : decode (mb M) pc = .ok (.goto off, 3)) (kk : Aw Ω M R F k n tgt L (st) σ) : Aw Ω M R F k n pc L (st) σ := by
  intro p e s m args below meth c H locs ls B hR hS hL
  refine lv_goto B.1 B.2.1 d ht ?_
  exact kk p e s m args below meth c H locs ls B hR hS hL
theorem Aw.icmp_eq {x y : Int} {off : Int} {tgt : Nat} (hx : R32 x) (hy : R32 y) (ht : (pc : Int) + off = (tgt : Int)) (d : decode (mb M) pc = .ok (.if_icmp .eq off, 3)) (kt : x = y → Aw Ω M R F k n tgt L st σ) (kf : ¬ x = y → Aw Ω M R F k n (pc + 3) L st σ) : Aw Ω M R F k n pc L (xi y :: xi x :: st) σ := by
  intro p e s m args below meth c H locs ls B hR hS hL
  exact lv_icmp_eq B.1 B.2.1 d ht (fun q => kt ((hx.eq hy).mp q) p e s m args below meth c H locs ls B hR hS hL) (fun q => kf (fun z => q ((hx.eq hy).mpr z)) p e s m args below meth c H locs ls B hR hS hL)
theorem Aw.if_eq {x : Int} {off : Int} {tgt : Nat} (hx : R32 x) (ht : (pc : Int) + off = (tgt : Int)) (d : decode (mb M) pc = .ok (.ifCond .eq off, 3)) (kt : x = 0 → Aw Ω M R F k n tgt L st σ) (kf : ¬ x = 0 → Aw Ω M R F k n (pc + 3) L st σ) : Aw Ω M R F k n pc L (xi x :: st) σ := by
  intro p e s m args below meth c H locs ls B hR hS hL
  have hy : R32 0 := ⟨by decide, by decide⟩
  exact lv_if_eq B.1 B.2.1 d ht (fun q => kt ((hx.eq hy).mp q) p e s m args below meth c H locs ls B hR hS hL) (fun q => kf (fun z => q ((hx.eq hy).mpr z)) p e s m args below meth c H locs ls B hR hS hL)
theorem Aw.icmp_ne {x y : Int} {off : Int} {tgt : Nat} (hx : R32 x) (hy : R32 y) (ht : (pc : Int) + off = (tgt : Int)) (d : decode (mb M) pc = .ok (.if_icmp .ne off, 3)) (kt : ¬ x = y → Aw Ω M R F k n tgt L st σ) (kf : x = y → Aw Ω M R F k n (pc + 3) L st σ) : Aw Ω M R F k n pc L (xi y :: xi x :: st) σ := by
  intro p e s m args below meth c H locs ls B hR hS hL
  exact lv_icmp_ne B.1 B.2.1 d ht (fun q => kt (fun z => q ((hx.eq hy).mpr z)) p e s m args below meth c H locs ls B hR hS hL) (fun q => kf ((hx.eq hy).mp q) p e s m args below meth c H locs ls B hR hS hL)
theorem Aw.if_ne {x : Int} {off : Int} {tgt : Nat} (hx : R32 x) (ht : (pc : Int) + off = (tgt : Int)) (d : decode (mb M) pc = .ok (.ifCond .ne off, 3)) (kt : ¬ x = 0 → Aw Ω M R F k n tgt L st σ) (kf : x = 0 → Aw Ω M R F k n (pc + 3) L st σ) : Aw Ω M R F k n pc L (xi x :: st) σ := by
  intro p e s m args below meth c H locs ls B hR hS hL
  have hy : R32 0 := ⟨by decide, by decide⟩
  exact lv_if_ne B.1 B.2.1 d ht (fun q => kt (fun z => q ((hx.eq hy).mpr z)) p e s m args below meth c H locs ls B hR hS hL) (fun q => kf ((hx.eq hy).mp q) p e s m args below meth c H locs ls B hR hS hL)
theorem Aw.icmp_lt {x y : Int} {off : Int} {tgt : Nat} (hx : R32 x) (hy : R32 y) (ht : (pc : Int) + off = (tgt : Int)) (d : decode (mb M) pc = .ok (.if_icmp .lt off, 3)) (kt : x < y → Aw Ω M R F k n tgt L st σ) (kf : ¬ x < y → Aw Ω M R F k n (pc + 3) L st σ) : Aw Ω M R F k n pc L (xi y :: xi x :: st) σ := by
  intro p e s m args below meth c H locs ls B hR hS hL
  exact lv_icmp_lt B.1 B.2.1 d ht (fun q => kt ((hx.lt hy).mp q) p e s m args below meth c H locs ls B hR hS hL) (fun q => kf (fun z => q ((hx.lt hy).mpr z)) p e s m args below meth c H locs ls B hR hS hL)
theorem Aw.if_lt {x : Int} {off : Int} {tgt : Nat} (hx : R32 x) (ht : (pc : Int) + off = (tgt : Int)) (d : decode (mb M) pc = .ok (.ifCond .lt off, 3)) (kt : x < 0 → Aw Ω M R F k n tgt L st σ) (kf : ¬ x < 0 → Aw Ω M R F k n (pc + 3) L st σ) : Aw Ω M R F k n pc L (xi x :: st) σ := by
  intro p e s m args below meth c H locs ls B hR hS hL
  have hy : R32 0 := ⟨by decide, by decide⟩
  exact lv_if_lt B.1 B.2.1 d ht (fun q => kt ((hx.lt hy).mp q) p e s m args below meth c H locs ls B hR hS hL) (fun q => kf (fun z => q ((hx.lt hy).mpr z)) p e s m args below meth c H locs ls B hR hS hL)
theorem Aw.icmp_ge {x y : Int} {off : Int} {tgt : Nat} (hx : R32 x) (hy : R32 y) (ht : (pc : Int) + off = (tgt : Int)) (d : decode (mb M) pc = .ok (.if_icmp .ge off, 3)) (kt : y ≤ x → Aw Ω M R F k n tgt L st σ) (kf : ¬ y ≤ x → Aw Ω M R F k n (pc + 3) L st σ) : Aw Ω M R F k n pc L (xi y :: xi x :: st) σ := by
  intro p e s m args below meth c H locs ls B hR hS hL
  exact lv_icmp_ge B.1 B.2.1 d ht (fun q => kt ((hy.le hx).mp q) p e s m args below meth c H locs ls B hR hS hL) (fun q => kf (fun z => q ((hy.le hx).mpr z)) p e s m args below meth c H locs ls B hR hS hL)
theorem Aw.if_ge {x : Int} {off : Int} {tgt : Nat} (hx : R32 x) (ht : (pc : Int) + off = (tgt : Int)) (d : decode (mb M) pc = .ok (.ifCond .ge off, 3)) (kt : 0 ≤ x → Aw Ω M R F k n tgt L st σ) (kf : ¬ 0 ≤ x → Aw Ω M R F k n (pc + 3) L st σ) : Aw Ω M R F k n pc L (xi x :: st) σ := by
  intro p e s m args below meth c H locs ls B hR hS hL
  have hy : R32 0 := ⟨by decide, by decide⟩
  exact lv_if_ge B.1 B.2.1 d ht (fun q => kt ((hy.le hx).mp q) p e s m args below meth c H locs ls B hR hS hL) (fun q => kf (fun z => q ((hy.le hx).mpr z)) p e s m args below meth c H locs ls B hR hS hL)
theorem Aw.icmp_gt {x y : Int} {off : Int} {tgt : Nat} (hx : R32 x) (hy : R32 y) (ht : (pc : Int) + off = (tgt : Int)) (d : decode (mb M) pc = .ok (.if_icmp .gt off, 3)) (kt : y < x → Aw Ω M R F k n tgt L st σ) (kf : ¬ y < x → Aw Ω M R F k n (pc + 3) L st σ) : Aw Ω M R F k n pc L (xi y :: xi x :: st) σ := by
  intro p e s m args below meth c H locs ls B hR hS hL
  exact lv_icmp_gt B.1 B.2.1 d ht (fun q => kt ((hy.lt hx).mp q) p e s m args below meth c H locs ls B hR hS hL) (fun q => kf (fun z => q ((hy.lt hx).mpr z)) p e s m args below meth c H locs ls B hR hS hL)
theorem Aw.if_gt {x : Int} {off : Int} {tgt : Nat} (hx : R32 x) (ht : (pc : Int) + off = (tgt : Int)) (d : decode (mb M) pc = .ok (.ifCond .gt off, 3)) (kt : 0 < x → Aw Ω M R F k n tgt L st σ) (kf : ¬ 0 < x → Aw Ω M R F k n (pc + 3) L st σ) : Aw Ω M R F k n pc L (xi x :: st) σ := by
  intro p e s m args below meth c H locs ls B hR hS hL
  have hy : R32 0 := ⟨by decide, by decide⟩
  exact lv_if_gt B.1 B.2.1 d ht (fun q => kt ((hy.lt hx).mp q) p e s m args below meth c H locs ls B hR hS hL) (fun q => kf (fun z => q ((hy.lt hx).mpr z)) p e s m args below meth c H locs ls B hR hS hL)
theorem Aw.icmp_le {x y : Int} {off : Int} {tgt : Nat} (hx : R32 x) (hy : R32 y) (ht : (pc : Int) + off = (tgt : Int)) (d : decode (mb M) pc = .ok (.if_icmp .le off, 3)) (kt : x ≤ y → Aw Ω M R F k n tgt L st σ) (kf : ¬ x ≤ y → Aw Ω M R F k n (pc + 3) L st σ) : Aw Ω M R F k n pc L (xi y :: xi x :: st) σ := by
  intro p e s m args below meth c H locs ls B hR hS hL
  exact lv_icmp_le B.1 B.2.1 d ht (fun q => kt ((hx.le hy).mp q) p e s m args below meth c H locs ls B hR hS hL) (fun q => kf (fun z => q ((hx.le hy).mpr z)) p e s m args below meth c H locs ls B hR hS hL)
theorem Aw.if_le {x : Int} {off : Int} {tgt : Nat} (hx : R32 x) (ht : (pc : Int) + off = (tgt : Int)) (d : decode (mb M) pc = .ok (.ifCond .le off, 3)) (kt : x ≤ 0 → Aw Ω M R F k n tgt L st σ) (kf : ¬ x ≤ 0 → Aw Ω M R F k n (pc + 3) L st σ) : Aw Ω M R F k n pc L (xi x :: st) σ := by
  intro p e s m args below meth c H locs ls B hR hS hL
  have hy : R32 0 := ⟨by decide, by decide⟩
  exact lv_if_le B.1 B.2.1 d ht (fun q => kt ((hx.le hy).mp q) p e s m args below meth c H locs ls B hR hS hL) (fun q => kf (fun z => q ((hx.le hy).mpr z)) p e s m args below meth c H locs ls B hR hS hL)
theorem Aw.acmp_eq {x y : Option Nat} {off : Int} {tgt : Nat} (ht : (pc : Int) + off = (tgt : Int)) (d : decode (mb M) pc = .ok (.if_acmp .eq off, 3)) (kt : x = y → Aw Ω M R F k n tgt L st σ) (kf : ¬ x = y → Aw Ω M R F k n (pc + 3) L st σ) : Aw Ω M R F k n pc L (xr y :: xr x :: st) σ := by
  intro p e s m args below meth c H locs ls B hR hS hL
  exact lv_acmp_eq B.1 B.2.1 d ht (fun q => kt q p e s m args below meth c H locs ls B hR hS hL) (fun q => kf q p e s m args below meth c H locs ls B hR hS hL)
theorem Aw.acmp_ne {x y : Option Nat} {off : Int} {tgt : Nat} (ht : (pc : Int) + off = (tgt : Int)) (d : decode (mb M) pc = .ok (.if_acmp .ne off, 3)) (kt : ¬ x = y → Aw Ω M R F k n tgt L st σ) (kf : x = y → Aw Ω M R F k n (pc + 3) L st σ) : Aw Ω M R F k n pc L (xr y :: xr x :: st) σ := by
  intro p e s m args below meth c H locs ls B hR hS hL
  exact lv_acmp_ne B.1 B.2.1 d ht (fun q => kt q p e s m args below meth c H locs ls B hR hS hL) (fun q => kf q p e s m args below meth c H locs ls B hR hS hL)
theorem Aw.ifnull {x : Option Nat} {off : Int} {tgt : Nat} (ht : (pc : Int) + off = (tgt : Int)) (d : decode (mb M) pc = .ok (.ifnull off, 3)) (kt : x = none → Aw Ω M R F k n tgt L st σ) (kf : ¬ x = none → Aw Ω M R F k n (pc + 3) L st σ) : Aw Ω M R F k n pc L (xr x :: st) σ := by
  intro p e s m args below meth c H locs ls B hR hS hL
  cases x with
  | none => exact lv_ifnullN B.1 B.2.1 d ht (kt rfl p e s m args below meth c H locs ls B hR hS hL)
  | some a => exact lv_ifnull B.1 B.2.1 d (kf (fun z => by cases z) p e s m args below meth c H locs ls B hR hS hL)
theorem Aw.ifnonnull {x : Option Nat} {off : Int} {tgt : Nat} (ht : (pc : Int) + off = (tgt : Int)) (d : decode (mb M) pc = .ok (.ifnonnull off, 3)) (kt : ¬ x = none → Aw Ω M R F k n tgt L st σ) (kf : x = none → Aw Ω M R F k n (pc + 3) L st σ) : Aw Ω M R F k n pc L (xr x :: st) σ := by
  intro p e s m args below meth c H locs ls B hR hS hL
  cases x with
  | none => exact lv_ifnonnullN B.1 B.2.1 d (kf rfl p e s m args below meth c H locs ls B hR hS hL)
  | some a => exact lv_ifnonnull B.1 B.2.1 d ht (kt (fun z => by cases z) p e s m args below meth c H locs ls B hR hS hL)
theorem Aw.swOut {dflt lo hi : Int} {offs : Array Int} {len tgt : Nat} {x : Int} (hx : R32 x) (h : x < lo ∨ hi < x) (ht : (pc : Int) + dflt = (tgt : Int)) (d : decode (mb M) pc = .ok (.tableswitch dflt lo hi offs, len)) (kk : Aw Ω M R F k n tgt L st σ) : Aw Ω M R F k n pc L (xi x :: st) σ := by
  intro p e s m args below meth c H locs ls B hR hS hL
  exact lv_tableOut B.1 B.2.1 d (by rw [hx.toInt]; exact h) ht (kk p e s m args below meth c H locs ls B hR hS hL)
theorem Aw.swIn {dflt lo hi off : Int} {offs : Array Int} {len tgt : Nat} {x : Int} (hx : R32 x) (h1 : ¬ x < lo) (h2 : ¬ hi < x) (ho : offs[(x - lo).toNat]? = some off) (ht : (pc : Int) + off = (tgt : Int)) (d : decode (mb M) pc = .ok (.tableswitch dflt lo hi offs, len)) (kk : Aw Ω M R F k n tgt L st σ) : Aw Ω M R F k n pc L (xi x :: st) σ := by
  intro p e s m args below meth c H locs ls B hR hS hL
  exact lv_tableIn B.1 B.2.1 d (by rw [hx.toInt]; exact h1) (by rw [hx.toInt]; exact h2) (by rw [hx.toInt]; exact ho) ht (kk p e s m args below meth c H locs ls B hR hS hL)
end AW
