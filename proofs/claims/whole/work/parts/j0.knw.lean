/-! BY HAND: what the launch says, in the words of the abstract machine -/
theorem kn_ins {ci : Nat} (h : ci < 14) : Cond.instantiable (am_C ci) (am_n ci) ∈ am_tb := am_ci (P := fun ci => Cond.instantiable (am_C ci) (am_n ci) ∈ am_tb) h ins_0 ins_1 ins_2 ins_3 ins_4 ins_5 ins_6 ins_7 ins_8 ins_9 ins_10 ins_11 ins_12 ins_13
section KNW
variable {s : State}
theorem kn_arr {t : FieldType} {c comp : ClassId} {k : Class} (h2 : s.vm.classes[c]? = some k) (h3 : k.kind = .array comp t) : ArrOfT s c t := fun _ _ => ⟨(fun k h => by cases h), k, h2, comp, h3⟩
theorem kn_p {args : Array Value} {t : FieldType} (h : (Cond.arrayClass t).before args s = true) : ∃ c, ArrOfT s c t ∧ s.vm.findClass ("[" ++ t.toString) = some c := by
  obtain ⟨c, k, comp, h1, h2, h3⟩ := Cond.arrayClass_spec h
  exact ⟨c, kn_arr h2 h3, h1⟩
theorem kn_o {args : Array Value} {C : String} (h : (Cond.arrayOver (.object C)).before args s = true) : ∃ c, ArrOfT s c (.object C) ∧ va_RA s c (.object C) := by
  obtain ⟨comp, c, k, h1, -, h3, h4, h5⟩ := Cond.arrayOver_spec h
  exact ⟨c, kn_arr h3 h4, k, comp, h3, h4, h1, h5⟩
theorem kn_ty (h : ∀ w ∈ am_tb, w.before #[] s = true) {t : Nat} (ht : t < 10) : ∃ c, ArrOfT s c (am_aty t) ∧ va_RA s c (am_aty t) := by
  match t, ht with
  | 0, _ => exact kn_p (h _ arc_0)
  | 1, _ => exact kn_p (h _ arc_1)
  | 2, _ => exact kn_p (h _ arc_2)
  | 3, _ =>
    obtain ⟨comp, c, k, h1, h2, h3, h4, h5⟩ := ao_spec (h _ aov_3)
    exact ⟨c, kn_arr h3 h4, h5⟩
  | 4, _ => exact kn_o (h _ aov_4)
  | 5, _ => exact kn_o (h _ aov_5)
  | 6, _ => exact kn_o (h _ aov_6)
  | 7, _ => exact kn_o (h _ aov_7)
  | 8, _ => exact kn_o (h _ aov_8)
  | 9, _ => exact kn_o (h _ aov_9)
theorem kn_cl (h : ∀ w ∈ am_tb, w.before #[] s = true) : ∃ D : va_G, ∀ (c : Nat) (q : vw_C), am_cl[c]? = some q → u_Kn s q.1 q.2.1 q.2.2 (D.1 c) (D.2 c) := by
  have hc : ∀ ci : Nat, ∃ q : ClassId × (Nat → Nat), ci < 14 → u_Kn s (am_C ci) (am_T ci) (am_n ci) q.1 q.2 := by
    intro ci
    by_cases hi : ci < 14
    · obtain ⟨cC, iS, hK⟩ := u_known h (am_win hi) (h _ (kn_ins hi))
      exact ⟨(cC, iS), fun _ => hK⟩
    · exact ⟨(0, fun _ => 0), fun z => absurd z hi⟩
  refine ⟨(fun ci => (Classical.choose (hc ci)).1, fun ci => (Classical.choose (hc ci)).2), fun c q hq => ?_⟩
  have hi : c < 14 := (List.getElem?_eq_some_iff.mp hq).1
  rw [am_cls hi] at hq
  cases hq
  exact Classical.choose_spec (hc c) hi
theorem kn_ts (h : ∀ w ∈ am_tb, w.before #[] s = true) : ∃ T : Nat → ClassId, ∀ t, t < 10 → ArrOfT s (T t) (am_aty t) ∧ va_RA s (T t) (am_aty t) := by
  have hc : ∀ t : Nat, ∃ c : ClassId, t < 10 → ArrOfT s c (am_aty t) ∧ va_RA s c (am_aty t) := by
    intro t
    by_cases ht : t < 10
    · obtain ⟨c, hK⟩ := kn_ty h ht
      exact ⟨c, fun _ => hK⟩
    · exact ⟨0, fun z => absurd z ht⟩
  exact ⟨fun t => Classical.choose (hc t), fun t => Classical.choose_spec (hc t)⟩
/-- no class that is called "[" has texts -/
def kn_nb (w : Cond) : Bool := match w with | .stringRef o _ _ => decide (o ≠ "[") | _ => true
theorem kn_nbs : lw_tbl.all kn_nb = true := by decide +kernel
theorem kn_str {args : Array Value} (h : ∀ w ∈ lw_tbl, w.before args s = true) (mi : Nat) : ∃ g : String → Nat → Nat, g "[" 0 = mi ∧ ∀ (own : String) (k : Nat) (tx : String), Cond.stringRef own k tx ∈ lw_tbl → vk_R own k tx (g own k) s := by
  have hc : ∀ (own : String) (k : Nat), ∃ a : Nat, (∃ b : Nat, (Term.string own k).eval args s none [] s = some (.ref b)) → (Term.string own k).eval args s none [] s = some (.ref a) := by
    intro own k
    by_cases hb : ∃ b : Nat, (Term.string own k).eval args s none [] s = some (.ref b)
    · obtain ⟨b, hb⟩ := hb
      exact ⟨b, fun _ => hb⟩
    · exact ⟨0, fun z => absurd z hb⟩
  refine ⟨fun own k => if own = "[" then mi else Classical.choose (hc own k), if_pos rfl, fun own k tx hm => ?_⟩
  have hne : own ≠ "[" := of_decide_eq_true (List.all_eq_true.mp kn_nbs _ hm)
  show vk_R own k tx (if own = "[" then mi else Classical.choose (hc own k)) s
  rw [if_neg hne]
  have h1 := h _ hm
  refine vk_R.of h1 (Classical.choose_spec (hc own k) ?_)
  cases hf : s.vm.findClass own with
  | none => simp [Cond.before, Cond.holds, Cond.value, hf] at h1
  | some cur =>
    obtain ⟨-, -, -, a, -, -, -, -, -, he⟩ := Cond.stringRef_spec hf h1
    exact ⟨a, he⟩
theorem kn_size {args : Array Value} {t : Term} {a : Addr} {cell : Cell} (h : (Cond.eq (.length t) (.int 0)).before args s = true) (ht : t.eval args s none [] s = some (.ref a)) (hcell : s.heap[a]? = some cell) : cell.slots.size = 0 := by
  have hv := va_eqt h
  obtain ⟨a', cell', h1, h2, h3⟩ := Term.length_spec hv
  cases ht.symm.trans h1
  obtain ⟨g1, -⟩ := State.arrayAt?_spec h2
  cases hcell.symm.trans g1
  have hlt : cell.slots.size < 2147483648 := by
    simp only [Term.eval, ht, h2, Option.bind_eq_bind, Option.bind_some] at hv
    by_cases hlt : cell.slots.size < 2147483648
    · exact hlt
    · simp [hlt] at hv
  have h4 : cell.slots.size.toInt32 = 0 := (Value.int.inj h3).symm
  have h5 := congrArg Int32.toInt h4
  have h6 : cell.slots.size.toInt32.toInt = (cell.slots.size : Int) := Int32.toInt_ofNat_small hlt
  rw [h6] at h5
  have h7 : ((cell.slots.size : Nat) : Int) = 0 := h5
  omega
theorem kn_de {args : Array Value} {A : Nat → Prop} (h : ∀ w ∈ lw_tbl, w.before args s = true) (hn : ∀ w ∈ flatC (Jvm.Cond.and given_1 narrow_1), w.before args s = true) (hA : ∀ a : Nat, a < s.heap.size → ¬ A a) : ∃ t : Nat, va_Z "java/util/ArrayList" "DEFAULTCAPACITY_EMPTY_ELEMENTDATA" "[Ljava/lang/Object;" (.ref t) A s s.heap ∧ t < s.heap.size ∧ ∃ cell : Cell, s.heap[t]? = some cell ∧ s.isArrayOf cell (.object "java/lang/Object") ∧ cell.vm ≠ .unknown ∧ cell.slots.size = 0 := by
  have e1 : (Cond.exactly (.static "java/util/ArrayList" "DEFAULTCAPACITY_EMPTY_ELEMENTDATA" "[Ljava/lang/Object;") "[Ljava/lang/Object;").before args s = true := hn _ (by decide +kernel)
  have e2 : (Cond.arrayOf (.static "java/util/ArrayList" "DEFAULTCAPACITY_EMPTY_ELEMENTDATA" "[Ljava/lang/Object;") (.object "java/lang/Object")).before args s = true := hn _ (by decide +kernel)
  have e3 : (Cond.eq (.length (.static "java/util/ArrayList" "DEFAULTCAPACITY_EMPTY_ELEMENTDATA" "[Ljava/lang/Object;")) (.int 0)).before args s = true := hn _ (by decide +kernel)
  obtain ⟨a, c, cell, k, h1, h2, h3, -⟩ := Cond.exactly_spec e1
  obtain ⟨h4, h5⟩ := Cond.arrayOf_spec e2 h1 h3
  refine ⟨a, va_Zref (h _ (List.mem_of_getElem? (i := 256) (by decide +kernel))) (h _ (List.mem_of_getElem? (i := 91) (by decide +kernel))) h1 hA, (Array.getElem?_eq_some_iff.mp h3).1, cell, h3, h4, h5, kn_size e3 h1 h3⟩
/-- the launch, known to the abstract machine -/
theorem kn_all {l : Launch} {b L : Nat} {xs : Nat → Int32} (hflags : l.flags = flags0) (hts : ∀ w ∈ lw_tbl, w.before #[Value.ref b] s = true) (hX : va_X b L xs s s.heap) (hb : b < s.heap.size) (hg : (Jvm.Cond.and given_1 narrow_1).before #[Value.ref b] s = true) : ∃ Ω : Om, (oL Ω = l ∧ oH Ω = s.heap ∧ oB Ω = b ∧ oN Ω = L) ∧ oE Ω < s.heap.size ∧ Kn Ω s := by
  have hn := flat_of_before _ hg
  have h0 : ∀ w ∈ am_tb, w.before #[] s = true := fun w hw => am_warm (List.mem_filter.mp hw).2 (State.WarmedH.refl s) (hts w (List.mem_filter.mp hw).1)
  have hA : ∀ a : Nat, a < s.heap.size → ¬ (fun q : Nat => s.heap.size ≤ q) a := fun a h z => absurd h (Nat.not_lt.mpr z)
  obtain ⟨D, hD⟩ := kn_cl h0
  obtain ⟨T, hT⟩ := kn_ts h0
  obtain ⟨mi, hmi⟩ := va_Mi.of (hn (Cond.isRef (.mirror "[Ljava/lang/Object;")) (by decide +kernel))
  obtain ⟨g, hgm, hgs⟩ := kn_str hts mi
  obtain ⟨t, ht1, ht2, ht3⟩ := kn_de hts hn hA
  refine ⟨(l, D, T, s.heap, g, t, b, L, xs), ⟨rfl, rfl, rfl, rfl⟩, ht2, h0, ⟨hD, fun k q hk => ?_⟩, hgs, ?_, ?_, hX, hb, ?_, ⟨va_Nc.of (hn _ (by decide +kernel)), va_Nc.of (hn _ (by decide +kernel)), va_Nc.of (hn _ (by decide +kernel))⟩, ⟨ht1, ht2, ht3⟩, ?_⟩
  · have hi : k < 10 := (List.getElem?_eq_some_iff.mp hk).1
    rw [am_tys_t _ hi] at hk
    cases hk
    exact hT k hi
  · exact vx_Zqof (hts _ (List.mem_of_getElem? (i := 530) (by decide +kernel))) (hts _ (List.mem_of_getElem? (i := 97) (by decide +kernel))) (hn _ (by decide +kernel)) hA
  · exact vx_Zqof (hts _ (List.mem_of_getElem? (i := 532) (by decide +kernel))) (hts _ (List.mem_of_getElem? (i := 97) (by decide +kernel))) (hn _ (by decide +kernel)) hA
  · show (!l.flags.contains noTraceFlag) = false
    rw [hflags]
    decide
  · show va_Mi "[Ljava/lang/Object;" (g "[" 0) s
    rw [hgm]
    exact hmi
/-- nothing has been made yet -/
theorem kn_rep {Ω : Om} (h : oH Ω = s.heap) : Rep Ω (s.heap.size, fun _ => 0, fun _ => 0, fun _ _ => 0, fun _ _ => 0, fun _ _ => none, fun _ _ => 0, fun _ _ => 0, fun _ _ => none) s.heap := by
  refine ⟨rfl, by rw [h]; exact Nat.le_refl _, fun q _ => by rw [h], fun a _ => rfl, ⟨fun _ _ => ⟨(by show (-2147483648 : Int) ≤ 0; decide), (by show (0 : Int) < 2147483648; decide)⟩, fun _ _ => ⟨(by show (-2147483648 : Int) ≤ 0; decide), (by show (0 : Int) < 2147483648; decide)⟩, fun _ => (by show 0 < 2147483648; decide)⟩, fun a => ⟨fun ci _ hk => ?_, fun t _ hk => ?_⟩⟩
  · have h0 : 0 = ci + 1 := hk
    omega
  · have h0 : 0 = 50 + t := hk
    omega
end KNW
/-- a method's body in a larger room -/
theorem kn_room {p : Program} {l : Launch} {e : Env} {R R' : Room} {s : State} {m : MethodId} {args : Array Value} {below : List Frame} {meth : Method} {c : Code} {H : Heap} {locs : List Loc} {cells slots : Nat} {Q : State → Prop} {g : JFrame} (hf : R.frames ≤ R'.frames) (hl : R.locals ≤ R'.locals) (hc : R.cells ≤ R'.cells) (hs : R.slots ≤ R'.slots) (k : W p l e R s m args below meth c H locs cells slots Q g) : W p l e R' s m args below meth c H locs cells slots Q g := by
  intro T hT X
  refine k T hT { X with room := ?_ }
  have h := X.room
  simp only [State.hasRoom, Bool.and_eq_true, decide_eq_true_eq] at h ⊢
  obtain ⟨⟨⟨⟨y, a, b, c, d, e⟩, f⟩, g⟩, i⟩ := h
  exact ⟨⟨⟨⟨by omega, by omega, by omega, by omega, by omega, e⟩, by omega⟩, by omega⟩, i⟩
