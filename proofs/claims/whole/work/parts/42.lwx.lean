/-! the law's helpers: what they catch -/
theorem Ax.catchG {Ω : Om} {M : MI} {R : Room} {F : QF} {k n pc : Nat} {L : List PV} {σ : Sto} {E : String} {st : List PV} (pre suf : List ExceptionTableEntry) (x : ExceptionTableEntry) (hs : tableOf (mh M) = pre ++ x :: suf) (hpass : ∀ z ∈ pre, z.catchType ≠ 0 ∧ ∃ nm, Cond.classLink (mo M) z.catchType nm ∈ am_tb ∧ ∀ s, am_ncs s → va_Nc E nm s) (hx : covers x pc = true) (h0 : x.catchType ≠ 0) (hl : Cond.classLink (mo M) x.catchType E ∈ am_tb) (hc : Cond.castable E E ∈ am_tb) (kk : ∀ q, Aw Ω M R F k n x.handlerPc L [xr (some q)] σ) : Ax Ω M R F k n pc L st σ E := by
  intro p e s m args below meth c H locs ls q ce B hR hS hL hce hcv hcl
  have hKn := B.2.2.2.2.2.2.2.2.1
  have hts := hKn.hts args
  refine vx_catch (E := E) B.2.2.2.2.1 pre x suf (B.2.2.2.2.2.2.1.trans hs) (fun z hz => ?_) hx h0 (hts _ hl) (hts _ hc) hce hcv hcl (kk q p e s m args below meth c H locs ls B hR hS hL)
  obtain ⟨z1, nm, z2, z3⟩ := hpass z hz
  exact Or.inr ⟨z1, nm, hts _ z2, z3 s hKn.2.2.2.2.2.2.2.2.1⟩
theorem cx_I : Cond.castable "java/lang/IndexOutOfBoundsException" "java/lang/IndexOutOfBoundsException" ∈ am_tb := am_mem 505 (by decide +kernel) (by decide +kernel)
theorem cx_A : Cond.castable "java/lang/IllegalArgumentException" "java/lang/IllegalArgumentException" ∈ am_tb := am_mem 629 (by decide +kernel) (by decide +kernel)
theorem cx_S : Cond.castable "java/lang/IllegalStateException" "java/lang/IllegalStateException" ∈ am_tb := am_mem 653 (by decide +kernel) (by decide +kernel)
theorem x_Law_base_1 {Ω : Om} {R : Room} {F : QF} {k n : Nat} {L st : List PV} {σ : Sto} (kk : ∀ q, Aw Ω M_Law_base R F k n 13 L [xr (some q)] σ) : Ax Ω M_Law_base R F k n 5 L st σ "java/lang/IndexOutOfBoundsException" :=
  Ax.catchG [] [] ⟨0, 10, 13, 13⟩ rfl (fun z hz => nomatch hz) (by decide) (by decide) cl_Law_13 cx_I kk
theorem x_Law_begin_1 {Ω : Om} {R : Room} {F : QF} {k n : Nat} {L st : List PV} {σ : Sto} (kk : ∀ q, Aw Ω M_Law_begin R F k n 13 L [xr (some q)] σ) : Ax Ω M_Law_begin R F k n 5 L st σ "java/lang/IndexOutOfBoundsException" :=
  Ax.catchG [] [] ⟨0, 10, 13, 13⟩ rfl (fun z hz => nomatch hz) (by decide) (by decide) cl_Law_13 cx_I kk
theorem x_Law_blame_1 {Ω : Om} {R : Room} {F : QF} {k n : Nat} {L st : List PV} {σ : Sto} (kk : ∀ q, Aw Ω M_Law_blame R F k n 13 L [xr (some q)] σ) : Ax Ω M_Law_blame R F k n 5 L st σ "java/lang/IndexOutOfBoundsException" :=
  Ax.catchG [] [] ⟨0, 10, 13, 13⟩ rfl (fun z hz => nomatch hz) (by decide) (by decide) cl_Law_13 cx_I kk
theorem x_Law_change_1 {Ω : Om} {R : Room} {F : QF} {k n : Nat} {L st : List PV} {σ : Sto} (kk : ∀ q, Aw Ω M_Law_change R F k n 14 L [xr (some q)] σ) : Ax Ω M_Law_change R F k n 6 L st σ "java/lang/IndexOutOfBoundsException" :=
  Ax.catchG [] [⟨0, 11, 18, 19⟩, ⟨0, 11, 22, 21⟩] ⟨0, 11, 14, 13⟩ rfl (fun z hz => nomatch hz) (by decide) (by decide) cl_Law_13 cx_I kk
theorem x_Law_change_2 {Ω : Om} {R : Room} {F : QF} {k n : Nat} {L st : List PV} {σ : Sto} (kk : ∀ q, Aw Ω M_Law_change R F k n 18 L [xr (some q)] σ) : Ax Ω M_Law_change R F k n 6 L st σ "java/lang/IllegalArgumentException" :=
  Ax.catchG [⟨0, 11, 14, 13⟩] [⟨0, 11, 22, 21⟩] ⟨0, 11, 18, 19⟩ rfl (fun z hz => by rw [List.mem_singleton.mp hz]; exact ⟨by decide, _, cl_Law_13, fun s h => h.1⟩) (by decide) (by decide) cl_Law_19 cx_A kk
theorem x_Law_change_3 {Ω : Om} {R : Room} {F : QF} {k n : Nat} {L st : List PV} {σ : Sto} (kk : ∀ q, Aw Ω M_Law_change R F k n 22 L [xr (some q)] σ) : Ax Ω M_Law_change R F k n 6 L st σ "java/lang/IllegalStateException" :=
  Ax.catchG [⟨0, 11, 14, 13⟩, ⟨0, 11, 18, 19⟩] [] ⟨0, 11, 22, 21⟩ rfl (fun z hz => (List.mem_cons.mp hz).elim (fun hz => by rw [hz]; exact ⟨by decide, _, cl_Law_13, fun s h => h.2.1⟩) (fun hz => by rw [List.mem_singleton.mp hz]; exact ⟨by decide, _, cl_Law_19, fun s h => h.2.2⟩)) (by decide) (by decide) cl_Law_21 cx_S kk
theorem x_Law_commit_1 {Ω : Om} {R : Room} {F : QF} {k n : Nat} {L st : List PV} {σ : Sto} (kk : ∀ q, Aw Ω M_Law_commit R F k n 11 L [xr (some q)] σ) : Ax Ω M_Law_commit R F k n 3 L st σ "java/lang/IllegalStateException" :=
  Ax.catchG [] [] ⟨0, 8, 11, 21⟩ rfl (fun z hz => nomatch hz) (by decide) (by decide) cl_Law_21 cx_S kk
theorem x_Law_compare_1 {Ω : Om} {R : Room} {F : QF} {k n : Nat} {L st : List PV} {σ : Sto} (kk : ∀ q, Aw Ω M_Law_compare R F k n 15 L [xr (some q)] σ) : Ax Ω M_Law_compare R F k n 7 L st σ "java/lang/IndexOutOfBoundsException" :=
  Ax.catchG [] [] ⟨0, 12, 15, 13⟩ rfl (fun z hz => nomatch hz) (by decide) (by decide) cl_Law_13 cx_I kk
theorem x_Law_draftLine_1 {Ω : Om} {R : Room} {F : QF} {k n : Nat} {L st : List PV} {σ : Sto} (kk : ∀ q, Aw Ω M_Law_draftLine R F k n 11 L [xr (some q)] σ) : Ax Ω M_Law_draftLine R F k n 4 L st σ "java/lang/IndexOutOfBoundsException" :=
  Ax.catchG [] [] ⟨0, 8, 11, 13⟩ rfl (fun z hz => nomatch hz) (by decide) (by decide) cl_Law_13 cx_I kk
theorem x_Law_hunk_1 {Ω : Om} {R : Room} {F : QF} {k n : Nat} {L st : List PV} {σ : Sto} (kk : ∀ q, Aw Ω M_Law_hunk R F k n 15 L [xr (some q)] σ) : Ax Ω M_Law_hunk R F k n 7 L st σ "java/lang/IndexOutOfBoundsException" :=
  Ax.catchG [] [⟨0, 12, 19, 19⟩] ⟨0, 12, 15, 13⟩ rfl (fun z hz => nomatch hz) (by decide) (by decide) cl_Law_13 cx_I kk
theorem x_Law_hunk_2 {Ω : Om} {R : Room} {F : QF} {k n : Nat} {L st : List PV} {σ : Sto} (kk : ∀ q, Aw Ω M_Law_hunk R F k n 19 L [xr (some q)] σ) : Ax Ω M_Law_hunk R F k n 7 L st σ "java/lang/IllegalArgumentException" :=
  Ax.catchG [⟨0, 12, 15, 13⟩] [] ⟨0, 12, 19, 19⟩ rfl (fun z hz => by rw [List.mem_singleton.mp hz]; exact ⟨by decide, _, cl_Law_13, fun s h => h.1⟩) (by decide) (by decide) cl_Law_19 cx_A kk
theorem x_Law_insert_1 {Ω : Om} {R : Room} {F : QF} {k n : Nat} {L st : List PV} {σ : Sto} (kk : ∀ q, Aw Ω M_Law_insert R F k n 14 L [xr (some q)] σ) : Ax Ω M_Law_insert R F k n 6 L st σ "java/lang/IndexOutOfBoundsException" :=
  Ax.catchG [] [⟨0, 11, 18, 19⟩, ⟨0, 11, 22, 21⟩] ⟨0, 11, 14, 13⟩ rfl (fun z hz => nomatch hz) (by decide) (by decide) cl_Law_13 cx_I kk
theorem x_Law_insert_2 {Ω : Om} {R : Room} {F : QF} {k n : Nat} {L st : List PV} {σ : Sto} (kk : ∀ q, Aw Ω M_Law_insert R F k n 18 L [xr (some q)] σ) : Ax Ω M_Law_insert R F k n 6 L st σ "java/lang/IllegalArgumentException" :=
  Ax.catchG [⟨0, 11, 14, 13⟩] [⟨0, 11, 22, 21⟩] ⟨0, 11, 18, 19⟩ rfl (fun z hz => by rw [List.mem_singleton.mp hz]; exact ⟨by decide, _, cl_Law_13, fun s h => h.1⟩) (by decide) (by decide) cl_Law_19 cx_A kk
theorem x_Law_insert_3 {Ω : Om} {R : Room} {F : QF} {k n : Nat} {L st : List PV} {σ : Sto} (kk : ∀ q, Aw Ω M_Law_insert R F k n 22 L [xr (some q)] σ) : Ax Ω M_Law_insert R F k n 6 L st σ "java/lang/IllegalStateException" :=
  Ax.catchG [⟨0, 11, 14, 13⟩, ⟨0, 11, 18, 19⟩] [] ⟨0, 11, 22, 21⟩ rfl (fun z hz => (List.mem_cons.mp hz).elim (fun hz => by rw [hz]; exact ⟨by decide, _, cl_Law_13, fun s h => h.2.1⟩) (fun hz => by rw [List.mem_singleton.mp hz]; exact ⟨by decide, _, cl_Law_19, fun s h => h.2.2⟩)) (by decide) (by decide) cl_Law_21 cx_S kk
theorem x_Law_isAbove_1 {Ω : Om} {R : Room} {F : QF} {k n : Nat} {L st : List PV} {σ : Sto} (kk : ∀ q, Aw Ω M_Law_isAbove R F k n 20 L [xr (some q)] σ) : Ax Ω M_Law_isAbove R F k n 5 L st σ "java/lang/IndexOutOfBoundsException" :=
  Ax.catchG [] [] ⟨0, 17, 20, 13⟩ rfl (fun z hz => nomatch hz) (by decide) (by decide) cl_Law_13 cx_I kk
theorem x_Law_land_1 {Ω : Om} {R : Room} {F : QF} {k n : Nat} {L st : List PV} {σ : Sto} (kk : ∀ q, Aw Ω M_Law_land R F k n 12 L [xr (some q)] σ) : Ax Ω M_Law_land R F k n 4 L st σ "java/lang/IndexOutOfBoundsException" :=
  Ax.catchG [] [⟨0, 9, 15, 21⟩] ⟨0, 9, 12, 13⟩ rfl (fun z hz => nomatch hz) (by decide) (by decide) cl_Law_13 cx_I kk
theorem x_Law_land_2 {Ω : Om} {R : Room} {F : QF} {k n : Nat} {L st : List PV} {σ : Sto} (kk : ∀ q, Aw Ω M_Law_land R F k n 15 L [xr (some q)] σ) : Ax Ω M_Law_land R F k n 4 L st σ "java/lang/IllegalStateException" :=
  Ax.catchG [⟨0, 9, 12, 13⟩] [] ⟨0, 9, 15, 21⟩ rfl (fun z hz => by rw [List.mem_singleton.mp hz]; exact ⟨by decide, _, cl_Law_13, fun s h => h.2.1⟩) (by decide) (by decide) cl_Law_21 cx_S kk
theorem x_Law_lay_1 {Ω : Om} {R : Room} {F : QF} {k n : Nat} {L st : List PV} {σ : Sto} (kk : ∀ q, Aw Ω M_Law_lay R F k n 13 L [xr (some q)] σ) : Ax Ω M_Law_lay R F k n 5 L st σ "java/lang/IndexOutOfBoundsException" :=
  Ax.catchG [] [⟨0, 10, 17, 19⟩, ⟨0, 10, 21, 21⟩] ⟨0, 10, 13, 13⟩ rfl (fun z hz => nomatch hz) (by decide) (by decide) cl_Law_13 cx_I kk
theorem x_Law_lay_2 {Ω : Om} {R : Room} {F : QF} {k n : Nat} {L st : List PV} {σ : Sto} (kk : ∀ q, Aw Ω M_Law_lay R F k n 17 L [xr (some q)] σ) : Ax Ω M_Law_lay R F k n 5 L st σ "java/lang/IllegalArgumentException" :=
  Ax.catchG [⟨0, 10, 13, 13⟩] [⟨0, 10, 21, 21⟩] ⟨0, 10, 17, 19⟩ rfl (fun z hz => by rw [List.mem_singleton.mp hz]; exact ⟨by decide, _, cl_Law_13, fun s h => h.1⟩) (by decide) (by decide) cl_Law_19 cx_A kk
theorem x_Law_lay_3 {Ω : Om} {R : Room} {F : QF} {k n : Nat} {L st : List PV} {σ : Sto} (kk : ∀ q, Aw Ω M_Law_lay R F k n 21 L [xr (some q)] σ) : Ax Ω M_Law_lay R F k n 5 L st σ "java/lang/IllegalStateException" :=
  Ax.catchG [⟨0, 10, 13, 13⟩, ⟨0, 10, 17, 19⟩] [] ⟨0, 10, 21, 21⟩ rfl (fun z hz => (List.mem_cons.mp hz).elim (fun hz => by rw [hz]; exact ⟨by decide, _, cl_Law_13, fun s h => h.2.1⟩) (fun hz => by rw [List.mem_singleton.mp hz]; exact ⟨by decide, _, cl_Law_19, fun s h => h.2.2⟩)) (by decide) (by decide) cl_Law_21 cx_S kk
theorem x_Law_likeness_1 {Ω : Om} {R : Room} {F : QF} {k n : Nat} {L st : List PV} {σ : Sto} (kk : ∀ q, Aw Ω M_Law_likeness R F k n 14 L [xr (some q)] σ) : Ax Ω M_Law_likeness R F k n 6 L st σ "java/lang/IllegalArgumentException" :=
  Ax.catchG [] [] ⟨0, 11, 14, 19⟩ rfl (fun z hz => nomatch hz) (by decide) (by decide) cl_Law_19 cx_A kk
theorem x_Law_lineAnew_1 {Ω : Om} {R : Room} {F : QF} {k n : Nat} {L st : List PV} {σ : Sto} (kk : ∀ q, Aw Ω M_Law_lineAnew R F k n 12 L [xr (some q)] σ) : Ax Ω M_Law_lineAnew R F k n 5 L st σ "java/lang/IndexOutOfBoundsException" :=
  Ax.catchG [] [] ⟨0, 9, 12, 13⟩ rfl (fun z hz => nomatch hz) (by decide) (by decide) cl_Law_13 cx_I kk
theorem x_Law_lineOf_1 {Ω : Om} {R : Room} {F : QF} {k n : Nat} {L st : List PV} {σ : Sto} (kk : ∀ q, Aw Ω M_Law_lineOf R F k n 12 L [xr (some q)] σ) : Ax Ω M_Law_lineOf R F k n 5 L st σ "java/lang/IndexOutOfBoundsException" :=
  Ax.catchG [] [] ⟨0, 9, 12, 13⟩ rfl (fun z hz => nomatch hz) (by decide) (by decide) cl_Law_13 cx_I kk
theorem x_Law_lines_1 {Ω : Om} {R : Room} {F : QF} {k n : Nat} {L st : List PV} {σ : Sto} (kk : ∀ q, Aw Ω M_Law_lines R F k n 12 L [xr (some q)] σ) : Ax Ω M_Law_lines R F k n 4 L st σ "java/lang/IndexOutOfBoundsException" :=
  Ax.catchG [] [] ⟨0, 9, 12, 13⟩ rfl (fun z hz => nomatch hz) (by decide) (by decide) cl_Law_13 cx_I kk
theorem x_Law_merge_1 {Ω : Om} {R : Room} {F : QF} {k n : Nat} {L st : List PV} {σ : Sto} (kk : ∀ q, Aw Ω M_Law_merge R F k n 15 L [xr (some q)] σ) : Ax Ω M_Law_merge R F k n 7 L st σ "java/lang/IndexOutOfBoundsException" :=
  Ax.catchG [] [⟨0, 12, 19, 19⟩, ⟨0, 12, 23, 21⟩] ⟨0, 12, 15, 13⟩ rfl (fun z hz => nomatch hz) (by decide) (by decide) cl_Law_13 cx_I kk
theorem x_Law_merge_2 {Ω : Om} {R : Room} {F : QF} {k n : Nat} {L st : List PV} {σ : Sto} (kk : ∀ q, Aw Ω M_Law_merge R F k n 19 L [xr (some q)] σ) : Ax Ω M_Law_merge R F k n 7 L st σ "java/lang/IllegalArgumentException" :=
  Ax.catchG [⟨0, 12, 15, 13⟩] [⟨0, 12, 23, 21⟩] ⟨0, 12, 19, 19⟩ rfl (fun z hz => by rw [List.mem_singleton.mp hz]; exact ⟨by decide, _, cl_Law_13, fun s h => h.1⟩) (by decide) (by decide) cl_Law_19 cx_A kk
theorem x_Law_merge_3 {Ω : Om} {R : Room} {F : QF} {k n : Nat} {L st : List PV} {σ : Sto} (kk : ∀ q, Aw Ω M_Law_merge R F k n 23 L [xr (some q)] σ) : Ax Ω M_Law_merge R F k n 7 L st σ "java/lang/IllegalStateException" :=
  Ax.catchG [⟨0, 12, 15, 13⟩, ⟨0, 12, 19, 19⟩] [] ⟨0, 12, 23, 21⟩ rfl (fun z hz => (List.mem_cons.mp hz).elim (fun hz => by rw [hz]; exact ⟨by decide, _, cl_Law_13, fun s h => h.2.1⟩) (fun hz => by rw [List.mem_singleton.mp hz]; exact ⟨by decide, _, cl_Law_19, fun s h => h.2.2⟩)) (by decide) (by decide) cl_Law_21 cx_S kk
theorem x_Law_move_1 {Ω : Om} {R : Room} {F : QF} {k n : Nat} {L st : List PV} {σ : Sto} (kk : ∀ q, Aw Ω M_Law_move R F k n 9 L [xr (some q)] σ) : Ax Ω M_Law_move R F k n 3 L st σ "java/lang/IndexOutOfBoundsException" :=
  Ax.catchG [] [⟨0, 6, 12, 21⟩] ⟨0, 6, 9, 13⟩ rfl (fun z hz => nomatch hz) (by decide) (by decide) cl_Law_13 cx_I kk
theorem x_Law_move_2 {Ω : Om} {R : Room} {F : QF} {k n : Nat} {L st : List PV} {σ : Sto} (kk : ∀ q, Aw Ω M_Law_move R F k n 12 L [xr (some q)] σ) : Ax Ω M_Law_move R F k n 3 L st σ "java/lang/IllegalStateException" :=
  Ax.catchG [⟨0, 6, 9, 13⟩] [] ⟨0, 6, 12, 21⟩ rfl (fun z hz => by rw [List.mem_singleton.mp hz]; exact ⟨by decide, _, cl_Law_13, fun s h => h.2.1⟩) (by decide) (by decide) cl_Law_21 cx_S kk
theorem x_Law_movedTo_1 {Ω : Om} {R : Room} {F : QF} {k n : Nat} {L st : List PV} {σ : Sto} (kk : ∀ q, Aw Ω M_Law_movedTo R F k n 12 L [xr (some q)] σ) : Ax Ω M_Law_movedTo R F k n 4 L st σ "java/lang/IndexOutOfBoundsException" :=
  Ax.catchG [] [] ⟨0, 9, 12, 13⟩ rfl (fun z hz => nomatch hz) (by decide) (by decide) cl_Law_13 cx_I kk
theorem x_Law_note_1 {Ω : Om} {R : Room} {F : QF} {k n : Nat} {L st : List PV} {σ : Sto} (kk : ∀ q, Aw Ω M_Law_note R F k n 13 L [xr (some q)] σ) : Ax Ω M_Law_note R F k n 5 L st σ "java/lang/IndexOutOfBoundsException" :=
  Ax.catchG [] [⟨0, 10, 17, 21⟩] ⟨0, 10, 13, 13⟩ rfl (fun z hz => nomatch hz) (by decide) (by decide) cl_Law_13 cx_I kk
theorem x_Law_note_2 {Ω : Om} {R : Room} {F : QF} {k n : Nat} {L st : List PV} {σ : Sto} (kk : ∀ q, Aw Ω M_Law_note R F k n 17 L [xr (some q)] σ) : Ax Ω M_Law_note R F k n 5 L st σ "java/lang/IllegalStateException" :=
  Ax.catchG [⟨0, 10, 13, 13⟩] [] ⟨0, 10, 17, 21⟩ rfl (fun z hz => by rw [List.mem_singleton.mp hz]; exact ⟨by decide, _, cl_Law_13, fun s h => h.2.1⟩) (by decide) (by decide) cl_Law_21 cx_S kk
theorem x_Law_noteAt_1 {Ω : Om} {R : Room} {F : QF} {k n : Nat} {L st : List PV} {σ : Sto} (kk : ∀ q, Aw Ω M_Law_noteAt R F k n 13 L [xr (some q)] σ) : Ax Ω M_Law_noteAt R F k n 5 L st σ "java/lang/IndexOutOfBoundsException" :=
  Ax.catchG [] [] ⟨0, 10, 13, 13⟩ rfl (fun z hz => nomatch hz) (by decide) (by decide) cl_Law_13 cx_I kk
theorem x_Law_pairOf_1 {Ω : Om} {R : Room} {F : QF} {k n : Nat} {L st : List PV} {σ : Sto} (kk : ∀ q, Aw Ω M_Law_pairOf R F k n 12 L [xr (some q)] σ) : Ax Ω M_Law_pairOf R F k n 4 L st σ "java/lang/IndexOutOfBoundsException" :=
  Ax.catchG [] [] ⟨0, 9, 12, 13⟩ rfl (fun z hz => nomatch hz) (by decide) (by decide) cl_Law_13 cx_I kk
theorem x_Law_patch_1 {Ω : Om} {R : Room} {F : QF} {k n : Nat} {L st : List PV} {σ : Sto} (kk : ∀ q, Aw Ω M_Law_patch R F k n 15 L [xr (some q)] σ) : Ax Ω M_Law_patch R F k n 7 L st σ "java/lang/IndexOutOfBoundsException" :=
  Ax.catchG [] [⟨0, 12, 19, 19⟩, ⟨0, 12, 23, 21⟩] ⟨0, 12, 15, 13⟩ rfl (fun z hz => nomatch hz) (by decide) (by decide) cl_Law_13 cx_I kk
theorem x_Law_patch_2 {Ω : Om} {R : Room} {F : QF} {k n : Nat} {L st : List PV} {σ : Sto} (kk : ∀ q, Aw Ω M_Law_patch R F k n 19 L [xr (some q)] σ) : Ax Ω M_Law_patch R F k n 7 L st σ "java/lang/IllegalArgumentException" :=
  Ax.catchG [⟨0, 12, 15, 13⟩] [⟨0, 12, 23, 21⟩] ⟨0, 12, 19, 19⟩ rfl (fun z hz => by rw [List.mem_singleton.mp hz]; exact ⟨by decide, _, cl_Law_13, fun s h => h.1⟩) (by decide) (by decide) cl_Law_19 cx_A kk
theorem x_Law_patch_3 {Ω : Om} {R : Room} {F : QF} {k n : Nat} {L st : List PV} {σ : Sto} (kk : ∀ q, Aw Ω M_Law_patch R F k n 23 L [xr (some q)] σ) : Ax Ω M_Law_patch R F k n 7 L st σ "java/lang/IllegalStateException" :=
  Ax.catchG [⟨0, 12, 15, 13⟩, ⟨0, 12, 19, 19⟩] [] ⟨0, 12, 23, 21⟩ rfl (fun z hz => (List.mem_cons.mp hz).elim (fun hz => by rw [hz]; exact ⟨by decide, _, cl_Law_13, fun s h => h.2.1⟩) (fun hz => by rw [List.mem_singleton.mp hz]; exact ⟨by decide, _, cl_Law_19, fun s h => h.2.2⟩)) (by decide) (by decide) cl_Law_21 cx_S kk
theorem x_Law_pieceOf_1 {Ω : Om} {R : Room} {F : QF} {k n : Nat} {L st : List PV} {σ : Sto} (kk : ∀ q, Aw Ω M_Law_pieceOf R F k n 13 L [xr (some q)] σ) : Ax Ω M_Law_pieceOf R F k n 5 L st σ "java/lang/IndexOutOfBoundsException" :=
  Ax.catchG [] [⟨0, 10, 17, 19⟩] ⟨0, 10, 13, 13⟩ rfl (fun z hz => nomatch hz) (by decide) (by decide) cl_Law_13 cx_I kk
theorem x_Law_pieceOf_2 {Ω : Om} {R : Room} {F : QF} {k n : Nat} {L st : List PV} {σ : Sto} (kk : ∀ q, Aw Ω M_Law_pieceOf R F k n 17 L [xr (some q)] σ) : Ax Ω M_Law_pieceOf R F k n 5 L st σ "java/lang/IllegalArgumentException" :=
  Ax.catchG [⟨0, 10, 13, 13⟩] [] ⟨0, 10, 17, 19⟩ rfl (fun z hz => by rw [List.mem_singleton.mp hz]; exact ⟨by decide, _, cl_Law_13, fun s h => h.1⟩) (by decide) (by decide) cl_Law_19 cx_A kk
theorem x_Law_remove_1 {Ω : Om} {R : Room} {F : QF} {k n : Nat} {L st : List PV} {σ : Sto} (kk : ∀ q, Aw Ω M_Law_remove R F k n 12 L [xr (some q)] σ) : Ax Ω M_Law_remove R F k n 4 L st σ "java/lang/IndexOutOfBoundsException" :=
  Ax.catchG [] [⟨0, 9, 15, 21⟩] ⟨0, 9, 12, 13⟩ rfl (fun z hz => nomatch hz) (by decide) (by decide) cl_Law_13 cx_I kk
theorem x_Law_remove_2 {Ω : Om} {R : Room} {F : QF} {k n : Nat} {L st : List PV} {σ : Sto} (kk : ∀ q, Aw Ω M_Law_remove R F k n 15 L [xr (some q)] σ) : Ax Ω M_Law_remove R F k n 4 L st σ "java/lang/IllegalStateException" :=
  Ax.catchG [⟨0, 9, 12, 13⟩] [] ⟨0, 9, 15, 21⟩ rfl (fun z hz => by rw [List.mem_singleton.mp hz]; exact ⟨by decide, _, cl_Law_13, fun s h => h.2.1⟩) (by decide) (by decide) cl_Law_21 cx_S kk
theorem x_Law_renew_1 {Ω : Om} {R : Room} {F : QF} {k n : Nat} {L st : List PV} {σ : Sto} (kk : ∀ q, Aw Ω M_Law_renew R F k n 13 L [xr (some q)] σ) : Ax Ω M_Law_renew R F k n 5 L st σ "java/lang/IndexOutOfBoundsException" :=
  Ax.catchG [] [⟨0, 10, 17, 21⟩] ⟨0, 10, 13, 13⟩ rfl (fun z hz => nomatch hz) (by decide) (by decide) cl_Law_13 cx_I kk
theorem x_Law_renew_2 {Ω : Om} {R : Room} {F : QF} {k n : Nat} {L st : List PV} {σ : Sto} (kk : ∀ q, Aw Ω M_Law_renew R F k n 17 L [xr (some q)] σ) : Ax Ω M_Law_renew R F k n 5 L st σ "java/lang/IllegalStateException" :=
  Ax.catchG [⟨0, 10, 13, 13⟩] [] ⟨0, 10, 17, 21⟩ rfl (fun z hz => by rw [List.mem_singleton.mp hz]; exact ⟨by decide, _, cl_Law_13, fun s h => h.2.1⟩) (by decide) (by decide) cl_Law_21 cx_S kk
theorem x_Law_review_1 {Ω : Om} {R : Room} {F : QF} {k n : Nat} {L st : List PV} {σ : Sto} (kk : ∀ q, Aw Ω M_Law_review R F k n 13 L [xr (some q)] σ) : Ax Ω M_Law_review R F k n 5 L st σ "java/lang/IndexOutOfBoundsException" :=
  Ax.catchG [] [⟨0, 10, 17, 21⟩] ⟨0, 10, 13, 13⟩ rfl (fun z hz => nomatch hz) (by decide) (by decide) cl_Law_13 cx_I kk
theorem x_Law_review_2 {Ω : Om} {R : Room} {F : QF} {k n : Nat} {L st : List PV} {σ : Sto} (kk : ∀ q, Aw Ω M_Law_review R F k n 17 L [xr (some q)] σ) : Ax Ω M_Law_review R F k n 5 L st σ "java/lang/IllegalStateException" :=
  Ax.catchG [⟨0, 10, 13, 13⟩] [] ⟨0, 10, 17, 21⟩ rfl (fun z hz => by rw [List.mem_singleton.mp hz]; exact ⟨by decide, _, cl_Law_13, fun s h => h.2.1⟩) (by decide) (by decide) cl_Law_21 cx_S kk
theorem x_Law_reviewState_1 {Ω : Om} {R : Room} {F : QF} {k n : Nat} {L st : List PV} {σ : Sto} (kk : ∀ q, Aw Ω M_Law_reviewState R F k n 12 L [xr (some q)] σ) : Ax Ω M_Law_reviewState R F k n 4 L st σ "java/lang/IndexOutOfBoundsException" :=
  Ax.catchG [] [] ⟨0, 9, 12, 13⟩ rfl (fun z hz => nomatch hz) (by decide) (by decide) cl_Law_13 cx_I kk
theorem x_Law_settle_1 {Ω : Om} {R : Room} {F : QF} {k n : Nat} {L st : List PV} {σ : Sto} (kk : ∀ q, Aw Ω M_Law_settle R F k n 13 L [xr (some q)] σ) : Ax Ω M_Law_settle R F k n 5 L st σ "java/lang/IndexOutOfBoundsException" :=
  Ax.catchG [] [⟨0, 10, 17, 19⟩, ⟨0, 10, 21, 21⟩] ⟨0, 10, 13, 13⟩ rfl (fun z hz => nomatch hz) (by decide) (by decide) cl_Law_13 cx_I kk
theorem x_Law_settle_2 {Ω : Om} {R : Room} {F : QF} {k n : Nat} {L st : List PV} {σ : Sto} (kk : ∀ q, Aw Ω M_Law_settle R F k n 17 L [xr (some q)] σ) : Ax Ω M_Law_settle R F k n 5 L st σ "java/lang/IllegalArgumentException" :=
  Ax.catchG [⟨0, 10, 13, 13⟩] [⟨0, 10, 21, 21⟩] ⟨0, 10, 17, 19⟩ rfl (fun z hz => by rw [List.mem_singleton.mp hz]; exact ⟨by decide, _, cl_Law_13, fun s h => h.1⟩) (by decide) (by decide) cl_Law_19 cx_A kk
theorem x_Law_settle_3 {Ω : Om} {R : Room} {F : QF} {k n : Nat} {L st : List PV} {σ : Sto} (kk : ∀ q, Aw Ω M_Law_settle R F k n 21 L [xr (some q)] σ) : Ax Ω M_Law_settle R F k n 5 L st σ "java/lang/IllegalStateException" :=
  Ax.catchG [⟨0, 10, 13, 13⟩, ⟨0, 10, 17, 19⟩] [] ⟨0, 10, 21, 21⟩ rfl (fun z hz => (List.mem_cons.mp hz).elim (fun hz => by rw [hz]; exact ⟨by decide, _, cl_Law_13, fun s h => h.2.1⟩) (fun hz => by rw [List.mem_singleton.mp hz]; exact ⟨by decide, _, cl_Law_19, fun s h => h.2.2⟩)) (by decide) (by decide) cl_Law_21 cx_S kk
theorem x_Law_since_1 {Ω : Om} {R : Room} {F : QF} {k n : Nat} {L st : List PV} {σ : Sto} (kk : ∀ q, Aw Ω M_Law_since R F k n 13 L [xr (some q)] σ) : Ax Ω M_Law_since R F k n 5 L st σ "java/lang/IndexOutOfBoundsException" :=
  Ax.catchG [] [] ⟨0, 10, 13, 13⟩ rfl (fun z hz => nomatch hz) (by decide) (by decide) cl_Law_13 cx_I kk
theorem x_Law_treeCost_1 {Ω : Om} {R : Room} {F : QF} {k n : Nat} {L st : List PV} {σ : Sto} (kk : ∀ q, Aw Ω M_Law_treeCost R F k n 13 L [xr (some q)] σ) : Ax Ω M_Law_treeCost R F k n 5 L st σ "java/lang/IndexOutOfBoundsException" :=
  Ax.catchG [] [] ⟨0, 10, 13, 13⟩ rfl (fun z hz => nomatch hz) (by decide) (by decide) cl_Law_13 cx_I kk
theorem x_Law_turn_1 {Ω : Om} {R : Room} {F : QF} {k n : Nat} {L st : List PV} {σ : Sto} (kk : ∀ q, Aw Ω M_Law_turn R F k n 12 L [xr (some q)] σ) : Ax Ω M_Law_turn R F k n 4 L st σ "java/lang/IndexOutOfBoundsException" :=
  Ax.catchG [] [⟨0, 9, 15, 21⟩] ⟨0, 9, 12, 13⟩ rfl (fun z hz => nomatch hz) (by decide) (by decide) cl_Law_13 cx_I kk
theorem x_Law_turn_2 {Ω : Om} {R : Room} {F : QF} {k n : Nat} {L st : List PV} {σ : Sto} (kk : ∀ q, Aw Ω M_Law_turn R F k n 15 L [xr (some q)] σ) : Ax Ω M_Law_turn R F k n 4 L st σ "java/lang/IllegalStateException" :=
  Ax.catchG [⟨0, 9, 12, 13⟩] [] ⟨0, 9, 15, 21⟩ rfl (fun z hz => by rw [List.mem_singleton.mp hz]; exact ⟨by decide, _, cl_Law_13, fun s h => h.2.1⟩) (by decide) (by decide) cl_Law_21 cx_S kk
theorem x_Law_undo_1 {Ω : Om} {R : Room} {F : QF} {k n : Nat} {L st : List PV} {σ : Sto} (kk : ∀ q, Aw Ω M_Law_undo R F k n 11 L [xr (some q)] σ) : Ax Ω M_Law_undo R F k n 3 L st σ "java/lang/IllegalStateException" :=
  Ax.catchG [] [] ⟨0, 8, 11, 21⟩ rfl (fun z hz => nomatch hz) (by decide) (by decide) cl_Law_21 cx_S kk
theorem x_Law_verdict_1 {Ω : Om} {R : Room} {F : QF} {k n : Nat} {L st : List PV} {σ : Sto} (kk : ∀ q, Aw Ω M_Law_verdict R F k n 15 L [xr (some q)] σ) : Ax Ω M_Law_verdict R F k n 7 L st σ "java/lang/IndexOutOfBoundsException" :=
  Ax.catchG [] [⟨0, 12, 19, 21⟩] ⟨0, 12, 15, 13⟩ rfl (fun z hz => nomatch hz) (by decide) (by decide) cl_Law_13 cx_I kk
theorem x_Law_verdict_2 {Ω : Om} {R : Room} {F : QF} {k n : Nat} {L st : List PV} {σ : Sto} (kk : ∀ q, Aw Ω M_Law_verdict R F k n 19 L [xr (some q)] σ) : Ax Ω M_Law_verdict R F k n 7 L st σ "java/lang/IllegalStateException" :=
  Ax.catchG [⟨0, 12, 15, 13⟩] [] ⟨0, 12, 19, 21⟩ rfl (fun z hz => by rw [List.mem_singleton.mp hz]; exact ⟨by decide, _, cl_Law_13, fun s h => h.2.1⟩) (by decide) (by decide) cl_Law_21 cx_S kk
