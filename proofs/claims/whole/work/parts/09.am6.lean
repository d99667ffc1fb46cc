/-! THE ABSTRACT MACHINE, 6: contracts; calls, returns, throws -/
def mcode (M : MI) : Cond := match mh M with
  | [] => .code (my M) (mb M) (mL M) (mr M)
  | q :: r => .codeWith (my M) (mb M) (mL M) (mr M) (q :: r)
def Pc_ (Ω : Om) (σ : Sto) (as : List PV) : Array Value → State → Prop := fun v U => v = (as.map xV).toArray ∧ Rep Ω σ U.heap ∧ Kn Ω U
def Qc_ (Ω : Om) (QR : Option PV → Sto → Prop) : Array Value → State → Outcome → State → Prop := fun _ st o t => (∃ (r : Option PV) (σ' : Sto), o = .returned (r.map xV) ∧ Rep Ω σ' t.heap ∧ QR r σ') ∧ st.heap.size ≤ t.heap.size
def Xc_ (Ω : Om) (QX : String → Sto → Prop) : String → State → State → Prop := fun E st t => ∃ σ', Rep Ω σ' t.heap ∧ QX E σ' ∧ st.heap.size ≤ t.heap.size
def MC (Ω : Om) (M : MI) (R : Room) (QR : Option PV → Sto → Prop) (QX : String → Sto → Prop) (σ : Sto) (as : List PV) : Prop := vx_Met (oL Ω) (my M) [mcode M] R (Pc_ Ω σ as) (Qc_ Ω QR) (Xc_ Ω QX) R.cells R.slots (oA Ω)
def MF (Ω : Om) (R : Room) (QR : Option PV → Sto → Prop) (QX : String → Sto → Prop) : QF := fun below args s => vx_MQ below (Qc_ Ω QR) (Xc_ Ω QX) args s R.cells R.slots (oA Ω)
def lay (as : List PV) : List PV := as.flatMap fun v => if isL v = true then [v, xu] else [v]
theorem lay_len : ∀ as : List PV, (lg_sl (as.map xV)).length = (lay as).length
  | [] => rfl
  | v :: t => by
    have ih := lay_len t
    simp only [lg_sl, lay] at ih ⊢
    rw [List.map_cons, List.flatMap_cons, List.flatMap_cons, List.length_append, List.length_append, ih]
    cases h : isL v with
    | true => rw [if_pos (xV_cat2 h), if_pos rfl]; rfl
    | false => rw [if_neg (by rw [xV_cat1 h]; decide), if_neg (by decide)]; rfl
theorem lay_get (n : Nat) : ∀ (as : List PV) (i : Nat) (v : PV), (lay as ++ List.replicate n xu)[i]? = some v → isU v = false → (lg_sl (as.map xV) ++ List.replicate n Slot.unset)[i]? = some (.val (xV v))
  | [], i, v, h, hu => by
    have h1 : v ∈ List.replicate n xu := by simpa [lay] using List.mem_of_getElem? h
    rw [(List.mem_replicate.mp h1).2] at hu; cases hu
  | w :: t, i, v, h, hu => by
    have ih := lay_get n t
    simp only [lg_sl, lay] at ih h ⊢
    rw [List.map_cons, List.flatMap_cons, List.append_assoc]
    rw [List.flatMap_cons, List.append_assoc] at h
    cases hw : isL w with
    | true =>
      rw [if_pos (xV_cat2 hw)]
      rw [hw, if_pos rfl] at h
      match i, h with
      | 0, h => simp at h; subst h; rfl
      | 1, h => simp at h; subst h; cases hu
      | i + 2, h => exact ih i v (by simpa using h) hu
    | false =>
      rw [if_neg (by rw [xV_cat1 hw]; decide)]
      rw [hw, if_neg (by decide)] at h
      match i, h with
      | 0, h => simp at h; subst h; rfl
      | i + 1, h => exact ih i v (by simpa using h) hu
section MCb
variable {Ω : Om} {M : MI} {R : Room} {QR : Option PV → Sto → Prop} {QX : String → Sto → Prop} {σ : Sto}
/-- a contract out of a walk of the body -/
theorem MC.body {as L : List PV} (hy : plainName (my M).cls = true) (ho : mo M = (my M).cls) (hlen : (lay as).length ≤ mL M) (hL : lay as ++ List.replicate (mL M - (lay as).length) xu = L) (h : Aw Ω M R (MF Ω R QR QX) 0 0 0 L [] σ) : MC Ω M R QR QX σ as := by
  have key : ∀ (p : Program) (e : Env) (s : State) (m : MethodId) (args : Array Value) (below : List Frame) (meth : Method) (c : Code) (s₁ : State), BodyLoose p (oL Ω) (my M) (headSpec [mcode M] R) (mb M) (mL M) (mr M) e s m args below meth c s₁ → c.maxLocals = mL M → c.exceptionTable.toList = tableOf (mh M) → Pc_ Ω σ as args s →
      W p (oL Ω) e (headSpec [mcode M] R).room s m args below meth c s.heap [] 0 0 (vx_MQ below (Qc_ Ω QR) (Xc_ Ω QX) args s R.cells R.slots (oA Ω)) (entryFrame m args (mL M)) := by
    intro p e s m args below meth c s₁ B hml ht hP
    obtain ⟨rfl, hR, hK⟩ := hP
    have hB : Bd Ω M p e s m (as.map xV).toArray below meth c := ⟨B.exec, B.bytes, hml, B.returns, by rw [ho]; exact findClass_of_methodNamed B.named, B.notSynchronized, ht, fun hi => by rw [(name_of_methodNamed B.named B.method).1]; exact hi, hK, by rw [hR.1]; exact hR.2.1, hR.2.2.1⟩
    have hl := lv_entry (as.map xV) (n := mL M) (by rw [lay_len]; exact hlen)
    rw [lg_entry_eq]
    have hLR : LR ((lg_sl (as.map xV) ++ List.replicate (mL M - (lg_sl (as.map xV)).length) Slot.unset).toArray) (mL M) L := by
      refine ⟨by rw [← hL, List.length_append, List.length_replicate]; omega, hl.1, hl.2.1, fun i v hi hu => ?_⟩
      rw [← hL] at hi
      rw [lay_len]
      rw [List.getElem?_toArray]
      exact lay_get _ as i v hi hu
    exact h p e s m _ below meth c s.heap [] _ hB hR va_S.rf hLR
  unfold MC
  cases hh : mh M with
  | nil =>
    have hc : mcode M = Cond.code (my M) (mb M) (mL M) (mr M) := by unfold mcode; rw [hh]
    refine vx_ofW (cc := mb M) (maxL := mL M) (ret := mr M) (ws' := []) hy (by rw [hc]) ?_
    intro p e s m args below meth c s₁ B hml ht hP
    refine key p e s m args below meth c s₁ B hml ?_ hP
    rw [hh]
    cases hq : c.exceptionTable.toList with
    | nil => rfl
    | cons q r => exact absurd (ht q (by rw [hq]; exact List.mem_cons_self)) id
  | cons q r =>
    have hc : mcode M = Cond.codeWith (my M) (mb M) (mL M) (mr M) (q :: r) := by unfold mcode; rw [hh]
    refine vx_ofWH (cc := mb M) (maxL := mL M) (ret := mr M) (hh := q :: r) (ws' := []) hy (by rw [hc]) ?_
    intro p e s m args below meth c s₁ B hml hP
    refine key p e s m args below meth c s₁ B hml ?_ hP
    rw [hh]
    exact vx_table (x := my M) B (hc ▸ atoms_spec (ws := [mcode M]) B.pre _ List.mem_cons_self)
theorem Pc_blind {as : List PV} : FrameBlind (Pc_ Ω σ as) := by
  intro a U g mk ⟨h1, h2, h3⟩
  exact ⟨h1, h2, Kn.moved (s := U) (U := U.calling g mk a) (State.WarmedH.refl U) h3⟩
/-- a contract that says less -/
theorem MC.mono {as : List PV} {QR' : Option PV → Sto → Prop} {QX' : String → Sto → Prop} (h : MC Ω M R QR QX σ as) (h1 : ∀ r σ', QR r σ' → QR' r σ') (h2 : ∀ E σ', QX E σ' → QX' E σ') : MC Ω M R QR' QX' σ as := by
  intro p e ha hc hk s m args below hf hfit hP hK
  obtain ⟨k, o, a1, a2, a3, a4⟩ := h p e ha hc hk s m args below hf hfit hP hK
  refine ⟨k, o, a1, a2, a3, ?_⟩
  rcases a4 with ⟨⟨⟨r, σ', e1, e2, e3⟩, e4⟩, e5⟩ | ⟨q, e1, E, ce, L, ⟨σ', e2, e3, e4⟩, e5⟩
  · exact Or.inl ⟨⟨⟨r, σ', e1, e2, h1 _ _ e3⟩, e4⟩, e5⟩
  · exact Or.inr ⟨q, e1, E, ce, L, ⟨σ', e2, h2 _ _ e3, e4⟩, e5⟩
end MCb
/-! what the tables say of a method that is called -/
def MOK (M : MI) (n : Nat) : Prop := mcode M ∈ am_tb ∧ Cond.initialized (my M).cls ∈ am_tb ∧ ((my M).cls ≠ "java/lang/invoke/MethodHandle" ∧ (my M).cls ≠ "java/lang/invoke/VarHandle") ∧ (parseMethodDescriptor (my M).desc).map (fun d => d.parameters.length) = some n
section CALLS
variable {Ω : Om} {M M' : MI} {p : Program} {e : Env} {R R' : Room} {s : State} {m : MethodId} {args : Array Value} {below : List Frame} {meth : Method} {c : Code} {H : Heap} {locs : List Loc} {k n : Nat} {Q : State → Prop} {pc : Nat} {ls : Array Slot} {σ : Sto} {QR : Option PV → Sto → Prop} {QX : String → Sto → Prop}
theorem w_run {mc ms : Nat} {st0 rest : List Value} {a : Array Value} (B : Bd Ω M p e s m args below meth c) (hS : va_S (oA Ω) s.heap H locs) (hr : vx_Run p (oL Ω) e R s m args below meth c H locs k n mc ms (F0 m pc ls st0) rest (Qc_ Ω QR a) (Xc_ Ω QX) (oA Ω))
    (kk : ∀ (r : Option PV) (σ' : Sto) (H1 : Heap) (locs1 : List Loc), QR r σ' → Rep Ω σ' H1 → va_S (oA Ω) s.heap H1 locs1 → W p (oL Ω) e R s m args below meth c H1 locs1 (k + mc) (n + ms) Q (F0 m (pc + 3) ls ((r.map xV).toList ++ rest)))
    (kx : ∀ (E : String) (σ' : Sto) (H1 : Heap) (locs1 : List Loc) (q : Nat) (ce : Cell), QX E σ' → Rep Ω σ' H1 → va_S (oA Ω) s.heap H1 locs1 → H1[q]? = some ce → ce.vm = .none → s.vm.findClass E = some ce.cls → vx_W p (oL Ω) e R s m args below meth c H1 locs1 (k + mc) (n + ms) Q (F0 m pc ls rest) q) :
    W p (oL Ω) e R s m args below meth c H locs k n Q (F0 m pc ls st0) := by
  have hold := B.2.2.2.2.2.2.2.2.2.2
  have mkS : ∀ {σ' : Sto} {H1 : Heap} {L : List Loc}, Rep Ω σ' H1 → H.size ≤ H1.size → (∀ q ∈ L, oA Ω q.base) → va_S (oA Ω) s.heap H1 (locs ++ L) := by
    intro σ' H1 L h1 h2 h3
    refine ⟨Nat.le_trans hS.1 h2, fun q q1 q2 => ?_, fun q hq => ?_⟩
    · have q3 : q < (oH Ω).size := Nat.not_le.mp q2
      rw [h1.2.2.1 q q3, hold q q3]
    · rcases List.mem_append.mp hq with h | h
      · exact hS.2.2 q h
      · exact h3 q h
  intro T hT X
  rcases hr T hT X with ⟨v, st₀, t, T', L, h0, X', hL, e1, e2, ⟨⟨r, σ', hv, hrep, hq⟩, hz⟩, st⟩ | ⟨q, st₀, t, T', L, E, ce, h0, X', hL, e1, e2, ⟨σ', hrep, hq, hz⟩, hce, hcv, hcl, st⟩
  · cases hv
    rw [← e1] at hrep
    rw [h0, ← e1] at hz
    obtain ⟨t2, a1, b1⟩ := kk r σ' T'.heap (locs ++ L) hq hrep (mkS hrep hz hL) T' rfl X'
    exact ⟨t2, st t2 a1, b1⟩
  · rw [← e1] at hrep hce
    rw [h0, ← e1] at hz
    obtain ⟨t2, a1, b1⟩ := kx E σ' T'.heap (locs ++ L) q ce hq hrep (mkS hrep hz hL) hce hcv hcl T' rfl X'
    exact ⟨t2, st.trans a1, b1⟩
theorem w_pay (hKn : Kn Ω s) (hM : mcode M' ∈ am_tb) : ∀ w ∈ [mcode M'], ∀ (a' : Array Value) (U : State), s.WarmedH U.vm → w.before a' U = true := by
  intro w hw a' U hW
  rw [List.mem_singleton.mp hw]
  exact am_warm (List.mem_filter.mp hM).2 hW (hKn.1 _ hM)
theorem w_len {M' : MI} {n : Nat} (h : MOK M' n) : ∀ sig, parseMethodDescriptor (my M').desc = some sig → n = sig.parameters.length := by
  intro sig hs
  have h2 := h.2.2.2
  rw [hs] at h2
  exact (Option.some.inj h2).symm
theorem w_callB {idx nn : Nat} (hKn : Kn Ω s) (ok : MOK M' nn) (hh : mh M' = []) (hl : Cond.methodLink (mo M) idx (my M') ∈ am_tb) (hroom : R'.frames + 1 ≤ R.frames ∧ 8 + (mL M' + 11) + R'.locals ≤ R.locals) : CallB R s args (mo M) idx (my M') (mb M') (mL M') (mr M') [mcode M'] R' R'.cells R'.slots nn := by
  have hc : mcode M' = Cond.code (my M') (mb M') (mL M') (mr M') := by unfold mcode; rw [hh]
  have hts := hKn.hts args
  exact ⟨rfl, rfl, hroom.1, hroom.2, w_pay hKn ok.1, by rw [hc]; exact List.mem_singleton.mpr rfl, hc ▸ hts _ ok.1, hts _ ok.2.1, ok.2.2.1, w_len ok, hts _ hl⟩
end CALLS
section AW9
variable {Ω : Om} {M : MI} {R : Room} {F : QF} {k n pc : Nat} {L st : List PV} {σ : Sto} {R' : Room} {QR' : Option PV → Sto → Prop} {QX' : String → Sto → Prop}
theorem opt_st (r : Option PV) (st : List PV) : (r.map xV).toList ++ st.map xV = (r.toList ++ st).map xV := by cases r <;> rfl
theorem cat8 {m : MethodId} {pc : Nat} {ls : Array Slot} {rest : List Value} (st : List PV) (h : (st.map catP).sum ≤ 8) : 2 * (F0 m pc ls rest).monitorRoom + ((st.map xV).map fun v => v.category).sum ≤ 8 := by
  have h1 := lv_room (m := m) (pc := pc) (ls := ls) (rest := rest) (st := st.map xV) (by rw [cat_sum]; exact h)
  exact h1
theorem Aw.callV {idx a nn : Nat} {As stk : List PV} (ci : Nat) (M' : MI) (hc : MC Ω M' R' QR' QX' σ (xr (some a) :: As)) (ok : MOK M' nn) (hh : mh M' = []) (hci : ci < 14) (hcls : am_C ci = (my M').cls) (hk : sK σ a = ci + 1) (hl : Cond.methodLink (mo M) idx (my M') ∈ am_tb) (hin : Cond.instanceMethod (my M') ∈ am_tb) (hsel : Cond.selects (my M').cls (my M') (my M') ∈ am_tb)
    (hroom : R'.frames + 1 ≤ R.frames ∧ 8 + (mL M' + 11) + R'.locals ≤ R.locals) (hn : As.length = nn) (hbud : k + R'.cells ≤ R.cells ∧ n + R'.slots ≤ R.slots) (hst : (st.map catP).sum ≤ 8) (hstk : stk = As.reverse ++ xr (some a) :: st) (d : decode (mb M) pc = .ok (.invokevirtual idx, 3))
    (kk : ∀ r σ', QR' r σ' → Aw Ω M R F (k + R'.cells) (n + R'.slots) (pc + 3) L (r.toList ++ st) σ') (kx : ∀ E σ', QX' E σ' → Ax Ω M R F (k + R'.cells) (n + R'.slots) pc L st σ' E) : Aw Ω M R F k n pc L stk σ := by
  intro p e s m args below meth c H locs ls B hR hS hL
  have hKn := B.2.2.2.2.2.2.2.2.1
  have hts := hKn.hts args
  have hcl := (hKn.2.1.1 ci _ (am_cls hci)).2
  obtain ⟨cell, g1, g2, g3, -⟩ := (hR.2.2.2.2.2 a).1 ci hci hk
  rw [hstk, List.map_append, List.map_reverse, List.map_cons, xV_ra]
  refine w_run B hS (vx_runV (C := (my M').cls) (As := As.map xV) (b := a) (rest := st.map xV) ⟨B.1, B.2.1, B.2.2.1, B.2.2.2.2.1, hts⟩ hc ⟨w_callB hKn ok hh hl hroom, hts _ hin, hts _ hsel⟩ ⟨Pc_blind, ⟨cell, g1, by rw [g3]; rfl, by rw [g2, ← hcls]; exact hcl.1⟩, fun U hU hW => ⟨rfl, by rw [hU]; exact hR, Kn.moved hW hKn⟩⟩ rfl (by rw [List.length_map]; exact hn) hL.2.1 rfl (cat8 st hst) d hbud) (fun r σ' H1 locs1 h1 h2 h3 => ?_) (fun E σ' H1 locs1 q ce h1 h2 h3 h4 h5 h6 => ?_)
  · rw [opt_st]
    exact kk r σ' h1 p e s m args below meth c H1 locs1 ls B h2 h3 hL
  · exact kx E σ' h1 p e s m args below meth c H1 locs1 ls q ce B h2 h3 hL h4 h5 h6
theorem Aw.callS {idx nn : Nat} {As stk : List PV} (M' : MI) (hc : MC Ω M' R' QR' QX' σ As) (ok : MOK M' nn) (hh : mh M' = []) (hl : Cond.methodLink (mo M) idx (my M') ∈ am_tb) (hsta : Cond.static (my M') ∈ am_tb)
    (hroom : R'.frames + 1 ≤ R.frames ∧ 8 + (mL M' + 11) + R'.locals ≤ R.locals) (hn : As.length = nn) (hbud : k + R'.cells ≤ R.cells ∧ n + R'.slots ≤ R.slots) (hst : (st.map catP).sum ≤ 8) (hstk : stk = As.reverse ++ st) (d : decode (mb M) pc = .ok (.invokestatic idx, 3))
    (kk : ∀ r σ', QR' r σ' → Aw Ω M R F (k + R'.cells) (n + R'.slots) (pc + 3) L (r.toList ++ st) σ') (kx : ∀ E σ', QX' E σ' → Ax Ω M R F (k + R'.cells) (n + R'.slots) pc L st σ' E) : Aw Ω M R F k n pc L stk σ := by
  intro p e s m args below meth c H locs ls B hR hS hL
  have hKn := B.2.2.2.2.2.2.2.2.1
  have hts := hKn.hts args
  rw [hstk, List.map_append, List.map_reverse]
  refine w_run B hS (vx_runS (As := As.map xV) (rest := st.map xV) ⟨B.1, B.2.1, B.2.2.1, B.2.2.2.2.1, hts⟩ hc ⟨w_callB hKn ok hh hl hroom, hts _ hsta⟩ ⟨Pc_blind, fun U hU hW => ⟨rfl, by rw [hU]; exact hR, Kn.moved hW hKn⟩⟩ rfl (by rw [List.length_map]; exact hn) hL.2.1 rfl (cat8 st hst) d hbud) (fun r σ' H1 locs1 h1 h2 h3 => ?_) (fun E σ' H1 locs1 q ce h1 h2 h3 h4 h5 h6 => ?_)
  · rw [opt_st]
    exact kk r σ' h1 p e s m args below meth c H1 locs1 ls B h2 h3 hL
  · exact kx E σ' h1 p e s m args below meth c H1 locs1 ls q ce B h2 h3 hL h4 h5 h6
theorem Aw.callSX {idx nn : Nat} {As stk : List PV} (M' : MI) (hc : MC Ω M' R' QR' QX' σ As) (ok : MOK M' nn) (hh : mh M' ≠ []) (hl : Cond.methodLink (mo M) idx (my M') ∈ am_tb) (hsta : Cond.static (my M') ∈ am_tb)
    (hroom : R'.frames + 1 ≤ R.frames ∧ 8 + (mL M' + 11) + R'.locals ≤ R.locals) (hn : As.length = nn) (hbud : k + R'.cells ≤ R.cells ∧ n + R'.slots ≤ R.slots) (hst : (st.map catP).sum ≤ 8) (hstk : stk = As.reverse ++ st) (d : decode (mb M) pc = .ok (.invokestatic idx, 3))
    (kk : ∀ r σ', QR' r σ' → Aw Ω M R F (k + R'.cells) (n + R'.slots) (pc + 3) L (r.toList ++ st) σ') (kx : ∀ E σ', QX' E σ' → Ax Ω M R F (k + R'.cells) (n + R'.slots) pc L st σ' E) : Aw Ω M R F k n pc L stk σ := by
  intro p e s m args below meth c H locs ls B hR hS hL
  have hKn := B.2.2.2.2.2.2.2.2.1
  have hts := hKn.hts args
  obtain ⟨q0, r0, hq0⟩ := List.exists_cons_of_ne_nil hh
  have hcc : mcode M' = Cond.codeWith (my M') (mb M') (mL M') (mr M') (q0 :: r0) := by unfold mcode; rw [hq0]
  rw [hstk, List.map_append, List.map_reverse]
  refine w_run B hS (vx_runSX (hh := q0 :: r0) (bytes := mb M') (maxL := mL M') (ret := mr M') (n := nn) (As := As.map xV) (rest := st.map xV) ⟨B.1, B.2.1, B.2.2.1, B.2.2.2.2.1, hts⟩ hc ⟨⟨rfl, rfl, hroom.1, hroom.2, w_pay hKn ok.1, by rw [hcc]; exact List.mem_singleton.mpr rfl⟩, hcc ▸ hts _ ok.1, hts _ ok.2.1, ok.2.2.1, w_len ok, hts _ hl, hts _ hsta⟩ ⟨Pc_blind, fun U hU hW => ⟨rfl, by rw [hU]; exact hR, Kn.moved hW hKn⟩⟩ rfl (by rw [List.length_map]; exact hn) hL.2.1 rfl (cat8 st hst) d hbud) (fun r σ' H1 locs1 h1 h2 h3 => ?_) (fun E σ' H1 locs1 q ce h1 h2 h3 h4 h5 h6 => ?_)
  · rw [opt_st]
    exact kk r σ' h1 p e s m args below meth c H1 locs1 ls B h2 h3 hL
  · exact kx E σ' h1 p e s m args below meth c H1 locs1 ls q ce B h2 h3 hL h4 h5 h6
theorem Aw.callI {idx a nn : Nat} {As stk : List PV} (M' : MI) (hc : MC Ω M' R' QR' QX' σ (xr (some a) :: As)) (ok : MOK M' nn) (hh : mh M' = []) (hr : mr M' = none) (hnm : (my M').name = "<init>") (hin : Cond.instanceMethod (my M') ∈ am_tb)
    (hl : Cond.methodLink (mo M) idx (my M') ∈ am_tb ∨ ∃ host, Cond.methodLinkNest (mo M) idx (my M') host ∈ am_tb)
    (hroom : R'.frames + 1 ≤ R.frames ∧ 8 + (mL M' + 11) + R'.locals ≤ R.locals) (hn : As.length = nn) (hbud : k + R'.cells ≤ R.cells ∧ n + R'.slots ≤ R.slots) (hst : (st.map catP).sum ≤ 8) (hstk : stk = As.reverse ++ xr (some a) :: st) (d : decode (mb M) pc = .ok (.invokespecial idx, 3))
    (kk : ∀ r σ', QR' r σ' → Aw Ω M R F (k + R'.cells) (n + R'.slots) (pc + 3) L (r.toList ++ st) σ') (kx : ∀ E σ', QX' E σ' → Ax Ω M R F (k + R'.cells) (n + R'.slots) pc L st σ' E) : Aw Ω M R F k n pc L stk σ := by
  intro p e s m args below meth c H locs ls B hR hS hL
  have hKn := B.2.2.2.2.2.2.2.2.1
  have hts := hKn.hts args
  have hcc : mcode M' = Cond.code (my M') (mb M') (mL M') none := by unfold mcode; rw [hh, hr]
  have hP : PreS s H (Pc_ Ω σ (xr (some a) :: As)) (.ref a :: As.map xV) := ⟨Pc_blind, fun U hU hW => ⟨rfl, by rw [hU]; exact hR, Kn.moved hW hKn⟩⟩
  rw [hstk, List.map_append, List.map_reverse, List.map_cons, xV_ra]
  have kk' : ∀ (r : Option PV) (σ' : Sto) (H1 : Heap) (locs1 : List Loc), QR' r σ' → Rep Ω σ' H1 → va_S (oA Ω) s.heap H1 locs1 → W p (oL Ω) e R s m args below meth c H1 locs1 (k + R'.cells) (n + R'.slots) (F below args s) (F0 m (pc + 3) ls ((r.map xV).toList ++ st.map xV)) := by
    intro r σ' H1 locs1 h1 h2 h3
    rw [opt_st]
    exact kk r σ' h1 p e s m args below meth c H1 locs1 ls B h2 h3 hL
  have kx' : ∀ (E : String) (σ' : Sto) (H1 : Heap) (locs1 : List Loc) (q : Nat) (ce : Cell), QX' E σ' → Rep Ω σ' H1 → va_S (oA Ω) s.heap H1 locs1 → H1[q]? = some ce → ce.vm = .none → s.vm.findClass E = some ce.cls → vx_W p (oL Ω) e R s m args below meth c H1 locs1 (k + R'.cells) (n + R'.slots) (F below args s) (F0 m pc ls (st.map xV)) q := by
    intro E σ' H1 locs1 q ce h1 h2 h3 h4 h5 h6
    exact kx E σ' h1 p e s m args below meth c H1 locs1 ls q ce B h2 h3 hL h4 h5 h6
  rcases hl with hl | ⟨host, hl⟩
  · have hcb := w_callB (M := M) (args := args) hKn ok hh hl hroom
    rw [hr] at hcb
    exact w_run B hS (vx_runI (As := As.map xV) (b := a) (rest := st.map xV) ⟨B.1, B.2.1, B.2.2.1, B.2.2.2.2.1, hts⟩ hc ⟨hcb, hnm, hts _ hin⟩ hP rfl (by rw [List.length_map]; exact hn) hL.2.1 rfl (cat8 st hst) d hbud) kk' kx'
  · exact w_run B hS (vx_runIN (host := host) (As := As.map xV) (b := a) (rest := st.map xV) (n := nn) (bytes := mb M') (maxL := mL M') ⟨B.1, B.2.1, B.2.2.1, B.2.2.2.2.1, hts⟩ hc ⟨⟨⟨rfl, rfl, hroom.1, hroom.2, w_pay hKn ok.1, by rw [hcc]; exact List.mem_singleton.mpr rfl⟩, hcc ▸ hts _ ok.1, hts _ ok.2.1, ok.2.2.1, w_len ok, hts _ hl⟩, hnm, hts _ hin⟩ hP rfl (by rw [List.length_map]; exact hn) hL.2.1 rfl (cat8 st hst) d hbud) kk' kx'
theorem Aw.objInit {idx a : Nat} (hl : Cond.methodLink (mo M) idx Lib.objectInit ∈ am_tb) (hin : Cond.instanceMethod Lib.objectInit ∈ am_tb) (hco : Cond.code Lib.objectInit ⟨#[0xb1]⟩ 1 none ∈ am_tb) (hf : 1 ≤ R.frames) (hlo : (st.map catP).sum + 12 ≤ R.locals) (d : decode (mb M) pc = .ok (.invokespecial idx, 3)) (kk : Aw Ω M R F k n (pc + 3) L st σ) : Aw Ω M R F k n pc L (xr (some a) :: st) σ := by
  intro p e s m args below meth c H locs ls B hR hS hL
  have hts := B.2.2.2.2.2.2.2.2.1.hts args
  refine W.objInit B.1 B.2.1 B.2.2.2.2.1 (hts _ hl) (hts _ hin) (hts _ hco) rfl (by rw [B.2.2.1]; exact hL.2.1) rfl d hf ?_ (kk p e s m args below meth c H locs ls B hR hS hL)
  show 2 * 0 + _ + 12 ≤ _
  rw [cat_sum]; omega
end AW9
section ENDS
variable {Ω : Om} {M : MI} {R : Room} {k n pc : Nat} {L : List PV} {σ : Sto} {QR : Option PV → Sto → Prop} {QX : String → Sto → Prop}
theorem Aw.iret {x : Int} (hr : mr M = some .int) (h : QR (some (xi x)) σ) (h1 : k ≤ R.cells) (h2 : n ≤ R.slots) (d : decode (mb M) pc = .ok (.ireturn, 1)) : Aw Ω M R (MF Ω R QR QX) k n pc L [xi x] σ := by
  intro p e s m args below meth c H locs ls B hR hS hL
  exact W.widen h1 h2 (vx_ret (W.iret (v := Int32.ofInt x) B.1 B.2.1 (B.2.2.2.1.trans hr) (fun t ht hW => ⟨⟨some (xi x), σ, rfl, by rw [ht]; exact hR, h⟩, by rw [ht]; exact hS.1⟩) hS.2.2 d B.2.2.2.2.2.1))
theorem Aw.zret {x : Int} (hr : mr M = some .boolean) (hx : x = 0 ∨ x = 1) (h : QR (some (xi x)) σ) (h1 : k ≤ R.cells) (h2 : n ≤ R.slots) (d : decode (mb M) pc = .ok (.ireturn, 1)) : Aw Ω M R (MF Ω R QR QX) k n pc L [xi x] σ := by
  intro p e s m args below meth c H locs ls B hR hS hL
  exact W.widen h1 h2 (vx_ret (W.zret (v := Int32.ofInt x) B.1 B.2.1 (B.2.2.2.1.trans hr) (by rcases hx with rfl | rfl <;> rfl) (fun t ht hW => ⟨⟨some (xi x), σ, rfl, by rw [ht]; exact hR, h⟩, by rw [ht]; exact hS.1⟩) hS.2.2 d B.2.2.2.2.2.1))
theorem Aw.lret {x : Int64} (hr : mr M = some .long) (h : QR (some (xl x)) σ) (h1 : k ≤ R.cells) (h2 : n ≤ R.slots) (d : decode (mb M) pc = .ok (.lreturn, 1)) : Aw Ω M R (MF Ω R QR QX) k n pc L [xl x] σ := by
  intro p e s m args below meth c H locs ls B hR hS hL
  exact W.widen h1 h2 (vx_ret (W.lret (v := x) B.1 B.2.1 (B.2.2.2.1.trans hr) (fun t ht hW => ⟨⟨some (xl x), σ, rfl, by rw [ht]; exact hR, h⟩, by rw [ht]; exact hS.1⟩) hS.2.2 d B.2.2.2.2.2.1))
theorem Aw.aret {x : Option Nat} {rt : FieldType} (hr : mr M = some rt) (hrt : (∃ n, rt = .object n) ∨ ∃ t, rt = .array t) (h : QR (some (xr x)) σ) (h1 : k ≤ R.cells) (h2 : n ≤ R.slots) (d : decode (mb M) pc = .ok (.areturn, 1)) : Aw Ω M R (MF Ω R QR QX) k n pc L [xr x] σ := by
  intro p e s m args below meth c H locs ls B hR hS hL
  exact W.widen h1 h2 (vx_ret (W.aret (v := va_rf x) B.1 B.2.1 (B.2.2.2.1.trans hr) hrt (va_rf_or x) (fun t ht hW => ⟨⟨some (xr x), σ, rfl, by rw [ht]; exact hR, h⟩, by rw [ht]; exact hS.1⟩) hS.2.2 d B.2.2.2.2.2.1))
theorem Aw.vret (hr : mr M = none) (h : QR none σ) (h1 : k ≤ R.cells) (h2 : n ≤ R.slots) (d : decode (mb M) pc = .ok (.return_, 1)) : Aw Ω M R (MF Ω R QR QX) k n pc L [] σ := by
  intro p e s m args below meth c H locs ls B hR hS hL
  exact W.widen h1 h2 (vx_ret (W.vret B.1 B.2.1 (B.2.2.2.1.trans hr) (fun t ht hW => ⟨⟨none, σ, rfl, by rw [ht]; exact hR, h⟩, by rw [ht]; exact hS.1⟩) hS.2.2 d B.2.2.2.2.2.1))
theorem Ax.out {E : String} {st : List PV} (h0 : mh M = []) (h : QX E σ) (h1 : k ≤ R.cells) (h2 : n ≤ R.slots) : Ax Ω M R (MF Ω R QR QX) k n pc L st σ E := by
  intro p e s m args below meth c H locs ls q ce B hR hS hL hce hcv hcl
  refine vx_out (XC := Xc_ Ω QX) (Qc := Qc_ Ω QR) (fun x hx => ?_) B.2.2.2.2.2.1 hce hcv hcl (fun t ht hW => ⟨σ, by rw [ht]; exact hR, h, by rw [ht]; exact hS.1⟩) hS.2.2 h1 h2
  rw [B.2.2.2.2.2.2.1, h0] at hx
  cases hx
/-- 'throw new E("text")' in a body without a table -/
theorem Aw.throwS {st : List PV} {cls text : String} {names : List String} {ik is ic : Nat} (h0 : mh M = []) (hcls : Bundle.fit cls = true) (hnames : ∀ n ∈ names, Bundle.fit n = true) (hk : Cond.classLink (mo M) ik cls ∈ am_tb) (hini : Cond.initialized cls ∈ am_tb) (hstr : Cond.stringRef (mo M) is text ∈ lw_tbl) (hat : ∀ w ∈ vx_atS (mo M) ic cls names, w ∈ am_tb)
    (hgood : ∀ w ∈ Cond.classLink (mo M) ik cls :: Cond.initialized cls :: vx_atS (mo M) ic cls names, vx_ot w = true)
    (d0 : decode (mb M) pc = .ok (.new ik, 3)) (d3 : decode (mb M) (pc + 3) = .ok (.dup, 1)) (d4 : decode (mb M) (pc + 4) = .ok (.ldc is, 2)) (d6 : decode (mb M) (pc + 6) = .ok (.invokespecial ic, 3)) (d9 : decode (mb M) (pc + 9) = .ok (.athrow, 1))
    (hRf : names.length + 3 < R.frames) (hRl : (st.map catP).sum + (13 * (names.length + 1) + 43) ≤ R.locals) (hc : k + 1 ≤ R.cells) (hs : n + 6 ≤ R.slots) (hx : ∀ n', sN σ ≤ n' → QX cls (nX σ n')) : Aw Ω M R (MF Ω R QR QX) k n pc L st σ := by
  intro p e s m args below meth c H locs ls B hR hS hL
  have hKn := B.2.2.2.2.2.2.2.2.1
  have hts := hKn.hts args
  have hold := B.2.2.2.2.2.2.2.2.2.2
  obtain ⟨-, -, hstrs, hU, hN, -, -, htr, -⟩ := id hKn
  refine vx_throwS (A := oA Ω) B.1 B.2.1 htr B.2.2.2.2.1 hcls hnames (hts _ hk) (hts _ hini) (hstrs _ _ _ hstr) (fun w hw => hts _ (hat w hw)) hgood (hU.kept fun a h1 h2 => hold a h1) (hN.kept fun a h1 h2 => hold a h1) hS (by rw [B.2.2.1]; exact hL.2.1) d0 d3 d4 d6 d9 (fun x hx => ?_) hRf (by rw [cat_sum]; exact hRl) hc hs B.2.2.2.2.2.1 (fun t _ hz ho => ⟨nX σ t.heap.size, hR.more hz ho, hx _ (by rw [← hR.1]; exact hz), Nat.le_trans hS.1 hz⟩) hS.2.2 hc hs
  rw [B.2.2.2.2.2.2.1, h0] at hx
  cases hx
theorem Aw.throwSW {st : List PV} {cls text : String} {names : List String} {ik is ic : Nat} (h0 : mh M = []) (hcls : Bundle.fit cls = true) (hnames : ∀ n ∈ names, Bundle.fit n = true) (hk : Cond.classLink (mo M) ik cls ∈ am_tb) (hini : Cond.initialized cls ∈ am_tb) (hstr : Cond.stringRef (mo M) is text ∈ lw_tbl) (hat : ∀ w ∈ vx_atS (mo M) ic cls names, w ∈ am_tb)
    (hgood : ∀ w ∈ Cond.classLink (mo M) ik cls :: Cond.initialized cls :: vx_atS (mo M) ic cls names, vx_ot w = true)
    (d0 : decode (mb M) pc = .ok (.new ik, 3)) (d3 : decode (mb M) (pc + 3) = .ok (.dup, 1)) (d4 : decode (mb M) (pc + 4) = .ok (.ldc_w is, 3)) (d7 : decode (mb M) (pc + 7) = .ok (.invokespecial ic, 3)) (d10 : decode (mb M) (pc + 10) = .ok (.athrow, 1))
    (hRf : names.length + 3 < R.frames) (hRl : (st.map catP).sum + (13 * (names.length + 1) + 43) ≤ R.locals) (hc : k + 1 ≤ R.cells) (hs : n + 6 ≤ R.slots) (hx : ∀ n', sN σ ≤ n' → QX cls (nX σ n')) : Aw Ω M R (MF Ω R QR QX) k n pc L st σ := by
  intro p e s m args below meth c H locs ls B hR hS hL
  have hKn := B.2.2.2.2.2.2.2.2.1
  have hts := hKn.hts args
  have hold := B.2.2.2.2.2.2.2.2.2.2
  obtain ⟨-, -, hstrs, hU, hN, -, -, htr, -⟩ := id hKn
  refine vx_throwSW (A := oA Ω) B.1 B.2.1 htr B.2.2.2.2.1 hcls hnames (hts _ hk) (hts _ hini) (hstrs _ _ _ hstr) (fun w hw => hts _ (hat w hw)) hgood (hU.kept fun a h1 h2 => hold a h1) (hN.kept fun a h1 h2 => hold a h1) hS (by rw [B.2.2.1]; exact hL.2.1) d0 d3 d4 d7 d10 (fun x hx => ?_) hRf (by rw [cat_sum]; exact hRl) hc hs B.2.2.2.2.2.1 (fun t _ hz ho => ⟨nX σ t.heap.size, hR.more hz ho, hx _ (by rw [← hR.1]; exact hz), Nat.le_trans hS.1 hz⟩) hS.2.2 hc hs
  rw [B.2.2.2.2.2.2.1, h0] at hx
  cases hx
end ENDS
