/-! the shape of the reference's object (by program) -/
def Sh (σ : Sto) (m : Nat) : Prop := m + 37 < sN σ ∧ sK σ m = 13 ∧ (fR σ 770 m = some (m + 1) ∧ sK σ (m + 1) = 51 ∧ sZ σ (m + 1) = 16384) ∧ (fR σ 771 m = some (m + 2) ∧ sK σ (m + 2) = 50 ∧ sZ σ (m + 2) = 16384) ∧ (fR σ 772 m = some (m + 3) ∧ sK σ (m + 3) = 50 ∧ sZ σ (m + 3) = 16384) ∧ (fR σ 774 m = some (m + 4) ∧ sK σ (m + 4) = 50 ∧ sZ σ (m + 4) = 40) ∧ (fR σ 775 m = some (m + 5) ∧ sK σ (m + 5) = 50 ∧ sZ σ (m + 5) = 800) ∧ (fR σ 776 m = some (m + 6) ∧ sK σ (m + 6) = 50 ∧ sZ σ (m + 6) = 40) ∧ (fR σ 777 m = some (m + 7) ∧ sK σ (m + 7) = 50 ∧ sZ σ (m + 7) = 40) ∧ (fR σ 778 m = some (m + 8) ∧ sK σ (m + 8) = 50 ∧ sZ σ (m + 8) = 40) ∧ (fR σ 784 m = some (m + 9) ∧ sK σ (m + 9) = 50 ∧ sZ σ (m + 9) = 64) ∧ (fR σ 787 m = some (m + 10) ∧ sK σ (m + 10) = 50 ∧ sZ σ (m + 10) = 63) ∧ (fR σ 788 m = some (m + 11) ∧ sK σ (m + 11) = 50 ∧ sZ σ (m + 11) = 1260) ∧ (fR σ 790 m = some (m + 12) ∧ sK σ (m + 12) = 50 ∧ sZ σ (m + 12) = 640) ∧ (fR σ 791 m = some (m + 13) ∧ sK σ (m + 13) = 50 ∧ sZ σ (m + 13) = 640) ∧ (fR σ 792 m = some (m + 14) ∧ sK σ (m + 14) = 50 ∧ sZ σ (m + 14) = 30720) ∧ (fR σ 795 m = some (m + 15) ∧ sK σ (m + 15) = 50 ∧ sZ σ (m + 15) = 20) ∧ (fR σ 796 m = some (m + 16) ∧ sK σ (m + 16) = 50 ∧ sZ σ (m + 16) = 20) ∧ (fR σ 798 m = some (m + 17) ∧ sK σ (m + 17) = 50 ∧ sZ σ (m + 17) = 10) ∧ (fR σ 799 m = some (m + 18) ∧ sK σ (m + 18) = 50 ∧ sZ σ (m + 18) = 210) ∧ (fR σ 800 m = some (m + 19) ∧ sK σ (m + 19) = 50 ∧ sZ σ (m + 19) = 210) ∧ (fR σ 801 m = some (m + 20) ∧ sK σ (m + 20) = 50 ∧ sZ σ (m + 20) = 840) ∧ (fR σ 802 m = some (m + 21) ∧ sK σ (m + 21) = 51 ∧ sZ σ (m + 21) = 8400) ∧ (fR σ 803 m = some (m + 22) ∧ sK σ (m + 22) = 51 ∧ sZ σ (m + 22) = 1260) ∧ (fR σ 805 m = some (m + 23) ∧ sK σ (m + 23) = 50 ∧ sZ σ (m + 23) = 20) ∧ (fR σ 807 m = some (m + 24) ∧ sK σ (m + 24) = 50 ∧ sZ σ (m + 24) = 20) ∧ (fR σ 808 m = some (m + 25) ∧ sK σ (m + 25) = 50 ∧ sZ σ (m + 25) = 20) ∧ (fR σ 809 m = some (m + 26) ∧ sK σ (m + 26) = 52 ∧ sZ σ (m + 26) = 20) ∧ (fR σ 810 m = some (m + 27) ∧ sK σ (m + 27) = 50 ∧ sZ σ (m + 27) = 120) ∧ (fR σ 811 m = some (m + 28) ∧ sK σ (m + 28) = 50 ∧ sZ σ (m + 28) = 81) ∧ (fR σ 812 m = some (m + 29) ∧ sK σ (m + 29) = 50 ∧ sZ σ (m + 29) = 441) ∧ (fR σ 813 m = some (m + 30) ∧ sK σ (m + 30) = 50 ∧ sZ σ (m + 30) = 20) ∧ (fR σ 814 m = some (m + 31) ∧ sK σ (m + 31) = 50 ∧ sZ σ (m + 31) = 20) ∧ (fR σ 815 m = some (m + 32) ∧ sK σ (m + 32) = 50 ∧ sZ σ (m + 32) = 44) ∧ (fR σ 816 m = some (m + 33) ∧ sK σ (m + 33) = 50 ∧ sZ σ (m + 33) = 44) ∧ (fR σ 817 m = some (m + 34) ∧ sK σ (m + 34) = 50 ∧ sZ σ (m + 34) = 20) ∧ (fR σ 818 m = some (m + 35) ∧ sK σ (m + 35) = 50 ∧ sZ σ (m + 35) = 484) ∧ (fR σ 819 m = some (m + 36) ∧ sK σ (m + 36) = 50 ∧ sZ σ (m + 36) = 484) ∧ (fR σ 820 m = some (m + 37) ∧ sK σ (m + 37) = 50 ∧ sZ σ (m + 37) = 128)
theorem Sh.r1 {σ : Sto} {m : Nat} (h : Sh σ m) : fR σ 770 m = some (m + 1) := h.2.2.1.1
theorem Sh.k1 {σ : Sto} {m : Nat} (h : Sh σ m) : sK σ (m + 1) = 51 := h.2.2.1.2.1
theorem Sh.b1 {σ : Sto} {m : Nat} (h : Sh σ m) {e : Int} (he : e < 16384) : e < (sZ σ (m + 1) : Int) := by rw [h.2.2.1.2.2]; exact he
theorem Sh.r2 {σ : Sto} {m : Nat} (h : Sh σ m) : fR σ 771 m = some (m + 2) := h.2.2.2.1.1
theorem Sh.k2 {σ : Sto} {m : Nat} (h : Sh σ m) : sK σ (m + 2) = 50 := h.2.2.2.1.2.1
theorem Sh.b2 {σ : Sto} {m : Nat} (h : Sh σ m) {e : Int} (he : e < 16384) : e < (sZ σ (m + 2) : Int) := by rw [h.2.2.2.1.2.2]; exact he
theorem Sh.r3 {σ : Sto} {m : Nat} (h : Sh σ m) : fR σ 772 m = some (m + 3) := h.2.2.2.2.1.1
theorem Sh.k3 {σ : Sto} {m : Nat} (h : Sh σ m) : sK σ (m + 3) = 50 := h.2.2.2.2.1.2.1
theorem Sh.b3 {σ : Sto} {m : Nat} (h : Sh σ m) {e : Int} (he : e < 16384) : e < (sZ σ (m + 3) : Int) := by rw [h.2.2.2.2.1.2.2]; exact he
theorem Sh.r4 {σ : Sto} {m : Nat} (h : Sh σ m) : fR σ 774 m = some (m + 4) := h.2.2.2.2.2.1.1
theorem Sh.k4 {σ : Sto} {m : Nat} (h : Sh σ m) : sK σ (m + 4) = 50 := h.2.2.2.2.2.1.2.1
theorem Sh.b4 {σ : Sto} {m : Nat} (h : Sh σ m) {e : Int} (he : e < 40) : e < (sZ σ (m + 4) : Int) := by rw [h.2.2.2.2.2.1.2.2]; exact he
theorem Sh.r5 {σ : Sto} {m : Nat} (h : Sh σ m) : fR σ 775 m = some (m + 5) := h.2.2.2.2.2.2.1.1
theorem Sh.k5 {σ : Sto} {m : Nat} (h : Sh σ m) : sK σ (m + 5) = 50 := h.2.2.2.2.2.2.1.2.1
theorem Sh.b5 {σ : Sto} {m : Nat} (h : Sh σ m) {e : Int} (he : e < 800) : e < (sZ σ (m + 5) : Int) := by rw [h.2.2.2.2.2.2.1.2.2]; exact he
theorem Sh.r6 {σ : Sto} {m : Nat} (h : Sh σ m) : fR σ 776 m = some (m + 6) := h.2.2.2.2.2.2.2.1.1
theorem Sh.k6 {σ : Sto} {m : Nat} (h : Sh σ m) : sK σ (m + 6) = 50 := h.2.2.2.2.2.2.2.1.2.1
theorem Sh.b6 {σ : Sto} {m : Nat} (h : Sh σ m) {e : Int} (he : e < 40) : e < (sZ σ (m + 6) : Int) := by rw [h.2.2.2.2.2.2.2.1.2.2]; exact he
theorem Sh.r7 {σ : Sto} {m : Nat} (h : Sh σ m) : fR σ 777 m = some (m + 7) := h.2.2.2.2.2.2.2.2.1.1
theorem Sh.k7 {σ : Sto} {m : Nat} (h : Sh σ m) : sK σ (m + 7) = 50 := h.2.2.2.2.2.2.2.2.1.2.1
theorem Sh.b7 {σ : Sto} {m : Nat} (h : Sh σ m) {e : Int} (he : e < 40) : e < (sZ σ (m + 7) : Int) := by rw [h.2.2.2.2.2.2.2.2.1.2.2]; exact he
theorem Sh.r8 {σ : Sto} {m : Nat} (h : Sh σ m) : fR σ 778 m = some (m + 8) := h.2.2.2.2.2.2.2.2.2.1.1
theorem Sh.k8 {σ : Sto} {m : Nat} (h : Sh σ m) : sK σ (m + 8) = 50 := h.2.2.2.2.2.2.2.2.2.1.2.1
theorem Sh.b8 {σ : Sto} {m : Nat} (h : Sh σ m) {e : Int} (he : e < 40) : e < (sZ σ (m + 8) : Int) := by rw [h.2.2.2.2.2.2.2.2.2.1.2.2]; exact he
theorem Sh.r9 {σ : Sto} {m : Nat} (h : Sh σ m) : fR σ 784 m = some (m + 9) := h.2.2.2.2.2.2.2.2.2.2.1.1
theorem Sh.k9 {σ : Sto} {m : Nat} (h : Sh σ m) : sK σ (m + 9) = 50 := h.2.2.2.2.2.2.2.2.2.2.1.2.1
theorem Sh.b9 {σ : Sto} {m : Nat} (h : Sh σ m) {e : Int} (he : e < 64) : e < (sZ σ (m + 9) : Int) := by rw [h.2.2.2.2.2.2.2.2.2.2.1.2.2]; exact he
theorem Sh.r10 {σ : Sto} {m : Nat} (h : Sh σ m) : fR σ 787 m = some (m + 10) := h.2.2.2.2.2.2.2.2.2.2.2.1.1
theorem Sh.k10 {σ : Sto} {m : Nat} (h : Sh σ m) : sK σ (m + 10) = 50 := h.2.2.2.2.2.2.2.2.2.2.2.1.2.1
theorem Sh.b10 {σ : Sto} {m : Nat} (h : Sh σ m) {e : Int} (he : e < 63) : e < (sZ σ (m + 10) : Int) := by rw [h.2.2.2.2.2.2.2.2.2.2.2.1.2.2]; exact he
theorem Sh.r11 {σ : Sto} {m : Nat} (h : Sh σ m) : fR σ 788 m = some (m + 11) := h.2.2.2.2.2.2.2.2.2.2.2.2.1.1
theorem Sh.k11 {σ : Sto} {m : Nat} (h : Sh σ m) : sK σ (m + 11) = 50 := h.2.2.2.2.2.2.2.2.2.2.2.2.1.2.1
theorem Sh.b11 {σ : Sto} {m : Nat} (h : Sh σ m) {e : Int} (he : e < 1260) : e < (sZ σ (m + 11) : Int) := by rw [h.2.2.2.2.2.2.2.2.2.2.2.2.1.2.2]; exact he
theorem Sh.r12 {σ : Sto} {m : Nat} (h : Sh σ m) : fR σ 790 m = some (m + 12) := h.2.2.2.2.2.2.2.2.2.2.2.2.2.1.1
theorem Sh.k12 {σ : Sto} {m : Nat} (h : Sh σ m) : sK σ (m + 12) = 50 := h.2.2.2.2.2.2.2.2.2.2.2.2.2.1.2.1
theorem Sh.b12 {σ : Sto} {m : Nat} (h : Sh σ m) {e : Int} (he : e < 640) : e < (sZ σ (m + 12) : Int) := by rw [h.2.2.2.2.2.2.2.2.2.2.2.2.2.1.2.2]; exact he
theorem Sh.r13 {σ : Sto} {m : Nat} (h : Sh σ m) : fR σ 791 m = some (m + 13) := h.2.2.2.2.2.2.2.2.2.2.2.2.2.2.1.1
theorem Sh.k13 {σ : Sto} {m : Nat} (h : Sh σ m) : sK σ (m + 13) = 50 := h.2.2.2.2.2.2.2.2.2.2.2.2.2.2.1.2.1
theorem Sh.b13 {σ : Sto} {m : Nat} (h : Sh σ m) {e : Int} (he : e < 640) : e < (sZ σ (m + 13) : Int) := by rw [h.2.2.2.2.2.2.2.2.2.2.2.2.2.2.1.2.2]; exact he
theorem Sh.r14 {σ : Sto} {m : Nat} (h : Sh σ m) : fR σ 792 m = some (m + 14) := h.2.2.2.2.2.2.2.2.2.2.2.2.2.2.2.1.1
theorem Sh.k14 {σ : Sto} {m : Nat} (h : Sh σ m) : sK σ (m + 14) = 50 := h.2.2.2.2.2.2.2.2.2.2.2.2.2.2.2.1.2.1
theorem Sh.b14 {σ : Sto} {m : Nat} (h : Sh σ m) {e : Int} (he : e < 30720) : e < (sZ σ (m + 14) : Int) := by rw [h.2.2.2.2.2.2.2.2.2.2.2.2.2.2.2.1.2.2]; exact he
theorem Sh.r15 {σ : Sto} {m : Nat} (h : Sh σ m) : fR σ 795 m = some (m + 15) := h.2.2.2.2.2.2.2.2.2.2.2.2.2.2.2.2.1.1
theorem Sh.k15 {σ : Sto} {m : Nat} (h : Sh σ m) : sK σ (m + 15) = 50 := h.2.2.2.2.2.2.2.2.2.2.2.2.2.2.2.2.1.2.1
theorem Sh.b15 {σ : Sto} {m : Nat} (h : Sh σ m) {e : Int} (he : e < 20) : e < (sZ σ (m + 15) : Int) := by rw [h.2.2.2.2.2.2.2.2.2.2.2.2.2.2.2.2.1.2.2]; exact he
theorem Sh.r16 {σ : Sto} {m : Nat} (h : Sh σ m) : fR σ 796 m = some (m + 16) := h.2.2.2.2.2.2.2.2.2.2.2.2.2.2.2.2.2.1.1
theorem Sh.k16 {σ : Sto} {m : Nat} (h : Sh σ m) : sK σ (m + 16) = 50 := h.2.2.2.2.2.2.2.2.2.2.2.2.2.2.2.2.2.1.2.1
theorem Sh.b16 {σ : Sto} {m : Nat} (h : Sh σ m) {e : Int} (he : e < 20) : e < (sZ σ (m + 16) : Int) := by rw [h.2.2.2.2.2.2.2.2.2.2.2.2.2.2.2.2.2.1.2.2]; exact he
theorem Sh.r17 {σ : Sto} {m : Nat} (h : Sh σ m) : fR σ 798 m = some (m + 17) := h.2.2.2.2.2.2.2.2.2.2.2.2.2.2.2.2.2.2.1.1
theorem Sh.k17 {σ : Sto} {m : Nat} (h : Sh σ m) : sK σ (m + 17) = 50 := h.2.2.2.2.2.2.2.2.2.2.2.2.2.2.2.2.2.2.1.2.1
theorem Sh.b17 {σ : Sto} {m : Nat} (h : Sh σ m) {e : Int} (he : e < 10) : e < (sZ σ (m + 17) : Int) := by rw [h.2.2.2.2.2.2.2.2.2.2.2.2.2.2.2.2.2.2.1.2.2]; exact he
theorem Sh.r18 {σ : Sto} {m : Nat} (h : Sh σ m) : fR σ 799 m = some (m + 18) := h.2.2.2.2.2.2.2.2.2.2.2.2.2.2.2.2.2.2.2.1.1
theorem Sh.k18 {σ : Sto} {m : Nat} (h : Sh σ m) : sK σ (m + 18) = 50 := h.2.2.2.2.2.2.2.2.2.2.2.2.2.2.2.2.2.2.2.1.2.1
theorem Sh.b18 {σ : Sto} {m : Nat} (h : Sh σ m) {e : Int} (he : e < 210) : e < (sZ σ (m + 18) : Int) := by rw [h.2.2.2.2.2.2.2.2.2.2.2.2.2.2.2.2.2.2.2.1.2.2]; exact he
theorem Sh.r19 {σ : Sto} {m : Nat} (h : Sh σ m) : fR σ 800 m = some (m + 19) := h.2.2.2.2.2.2.2.2.2.2.2.2.2.2.2.2.2.2.2.2.1.1
theorem Sh.k19 {σ : Sto} {m : Nat} (h : Sh σ m) : sK σ (m + 19) = 50 := h.2.2.2.2.2.2.2.2.2.2.2.2.2.2.2.2.2.2.2.2.1.2.1
theorem Sh.b19 {σ : Sto} {m : Nat} (h : Sh σ m) {e : Int} (he : e < 210) : e < (sZ σ (m + 19) : Int) := by rw [h.2.2.2.2.2.2.2.2.2.2.2.2.2.2.2.2.2.2.2.2.1.2.2]; exact he
theorem Sh.r20 {σ : Sto} {m : Nat} (h : Sh σ m) : fR σ 801 m = some (m + 20) := h.2.2.2.2.2.2.2.2.2.2.2.2.2.2.2.2.2.2.2.2.2.1.1
theorem Sh.k20 {σ : Sto} {m : Nat} (h : Sh σ m) : sK σ (m + 20) = 50 := h.2.2.2.2.2.2.2.2.2.2.2.2.2.2.2.2.2.2.2.2.2.1.2.1
theorem Sh.b20 {σ : Sto} {m : Nat} (h : Sh σ m) {e : Int} (he : e < 840) : e < (sZ σ (m + 20) : Int) := by rw [h.2.2.2.2.2.2.2.2.2.2.2.2.2.2.2.2.2.2.2.2.2.1.2.2]; exact he
theorem Sh.r21 {σ : Sto} {m : Nat} (h : Sh σ m) : fR σ 802 m = some (m + 21) := h.2.2.2.2.2.2.2.2.2.2.2.2.2.2.2.2.2.2.2.2.2.2.1.1
theorem Sh.k21 {σ : Sto} {m : Nat} (h : Sh σ m) : sK σ (m + 21) = 51 := h.2.2.2.2.2.2.2.2.2.2.2.2.2.2.2.2.2.2.2.2.2.2.1.2.1
theorem Sh.b21 {σ : Sto} {m : Nat} (h : Sh σ m) {e : Int} (he : e < 8400) : e < (sZ σ (m + 21) : Int) := by rw [h.2.2.2.2.2.2.2.2.2.2.2.2.2.2.2.2.2.2.2.2.2.2.1.2.2]; exact he
theorem Sh.r22 {σ : Sto} {m : Nat} (h : Sh σ m) : fR σ 803 m = some (m + 22) := h.2.2.2.2.2.2.2.2.2.2.2.2.2.2.2.2.2.2.2.2.2.2.2.1.1
theorem Sh.k22 {σ : Sto} {m : Nat} (h : Sh σ m) : sK σ (m + 22) = 51 := h.2.2.2.2.2.2.2.2.2.2.2.2.2.2.2.2.2.2.2.2.2.2.2.1.2.1
theorem Sh.b22 {σ : Sto} {m : Nat} (h : Sh σ m) {e : Int} (he : e < 1260) : e < (sZ σ (m + 22) : Int) := by rw [h.2.2.2.2.2.2.2.2.2.2.2.2.2.2.2.2.2.2.2.2.2.2.2.1.2.2]; exact he
theorem Sh.r23 {σ : Sto} {m : Nat} (h : Sh σ m) : fR σ 805 m = some (m + 23) := h.2.2.2.2.2.2.2.2.2.2.2.2.2.2.2.2.2.2.2.2.2.2.2.2.1.1
theorem Sh.k23 {σ : Sto} {m : Nat} (h : Sh σ m) : sK σ (m + 23) = 50 := h.2.2.2.2.2.2.2.2.2.2.2.2.2.2.2.2.2.2.2.2.2.2.2.2.1.2.1
theorem Sh.b23 {σ : Sto} {m : Nat} (h : Sh σ m) {e : Int} (he : e < 20) : e < (sZ σ (m + 23) : Int) := by rw [h.2.2.2.2.2.2.2.2.2.2.2.2.2.2.2.2.2.2.2.2.2.2.2.2.1.2.2]; exact he
theorem Sh.r24 {σ : Sto} {m : Nat} (h : Sh σ m) : fR σ 807 m = some (m + 24) := h.2.2.2.2.2.2.2.2.2.2.2.2.2.2.2.2.2.2.2.2.2.2.2.2.2.1.1
theorem Sh.k24 {σ : Sto} {m : Nat} (h : Sh σ m) : sK σ (m + 24) = 50 := h.2.2.2.2.2.2.2.2.2.2.2.2.2.2.2.2.2.2.2.2.2.2.2.2.2.1.2.1
theorem Sh.b24 {σ : Sto} {m : Nat} (h : Sh σ m) {e : Int} (he : e < 20) : e < (sZ σ (m + 24) : Int) := by rw [h.2.2.2.2.2.2.2.2.2.2.2.2.2.2.2.2.2.2.2.2.2.2.2.2.2.1.2.2]; exact he
theorem Sh.r25 {σ : Sto} {m : Nat} (h : Sh σ m) : fR σ 808 m = some (m + 25) := h.2.2.2.2.2.2.2.2.2.2.2.2.2.2.2.2.2.2.2.2.2.2.2.2.2.2.1.1
theorem Sh.k25 {σ : Sto} {m : Nat} (h : Sh σ m) : sK σ (m + 25) = 50 := h.2.2.2.2.2.2.2.2.2.2.2.2.2.2.2.2.2.2.2.2.2.2.2.2.2.2.1.2.1
theorem Sh.b25 {σ : Sto} {m : Nat} (h : Sh σ m) {e : Int} (he : e < 20) : e < (sZ σ (m + 25) : Int) := by rw [h.2.2.2.2.2.2.2.2.2.2.2.2.2.2.2.2.2.2.2.2.2.2.2.2.2.2.1.2.2]; exact he
theorem Sh.r26 {σ : Sto} {m : Nat} (h : Sh σ m) : fR σ 809 m = some (m + 26) := h.2.2.2.2.2.2.2.2.2.2.2.2.2.2.2.2.2.2.2.2.2.2.2.2.2.2.2.1.1
theorem Sh.k26 {σ : Sto} {m : Nat} (h : Sh σ m) : sK σ (m + 26) = 52 := h.2.2.2.2.2.2.2.2.2.2.2.2.2.2.2.2.2.2.2.2.2.2.2.2.2.2.2.1.2.1
theorem Sh.b26 {σ : Sto} {m : Nat} (h : Sh σ m) {e : Int} (he : e < 20) : e < (sZ σ (m + 26) : Int) := by rw [h.2.2.2.2.2.2.2.2.2.2.2.2.2.2.2.2.2.2.2.2.2.2.2.2.2.2.2.1.2.2]; exact he
theorem Sh.r27 {σ : Sto} {m : Nat} (h : Sh σ m) : fR σ 810 m = some (m + 27) := h.2.2.2.2.2.2.2.2.2.2.2.2.2.2.2.2.2.2.2.2.2.2.2.2.2.2.2.2.1.1
theorem Sh.k27 {σ : Sto} {m : Nat} (h : Sh σ m) : sK σ (m + 27) = 50 := h.2.2.2.2.2.2.2.2.2.2.2.2.2.2.2.2.2.2.2.2.2.2.2.2.2.2.2.2.1.2.1
theorem Sh.b27 {σ : Sto} {m : Nat} (h : Sh σ m) {e : Int} (he : e < 120) : e < (sZ σ (m + 27) : Int) := by rw [h.2.2.2.2.2.2.2.2.2.2.2.2.2.2.2.2.2.2.2.2.2.2.2.2.2.2.2.2.1.2.2]; exact he
theorem Sh.r28 {σ : Sto} {m : Nat} (h : Sh σ m) : fR σ 811 m = some (m + 28) := h.2.2.2.2.2.2.2.2.2.2.2.2.2.2.2.2.2.2.2.2.2.2.2.2.2.2.2.2.2.1.1
theorem Sh.k28 {σ : Sto} {m : Nat} (h : Sh σ m) : sK σ (m + 28) = 50 := h.2.2.2.2.2.2.2.2.2.2.2.2.2.2.2.2.2.2.2.2.2.2.2.2.2.2.2.2.2.1.2.1
theorem Sh.b28 {σ : Sto} {m : Nat} (h : Sh σ m) {e : Int} (he : e < 81) : e < (sZ σ (m + 28) : Int) := by rw [h.2.2.2.2.2.2.2.2.2.2.2.2.2.2.2.2.2.2.2.2.2.2.2.2.2.2.2.2.2.1.2.2]; exact he
theorem Sh.r29 {σ : Sto} {m : Nat} (h : Sh σ m) : fR σ 812 m = some (m + 29) := h.2.2.2.2.2.2.2.2.2.2.2.2.2.2.2.2.2.2.2.2.2.2.2.2.2.2.2.2.2.2.1.1
theorem Sh.k29 {σ : Sto} {m : Nat} (h : Sh σ m) : sK σ (m + 29) = 50 := h.2.2.2.2.2.2.2.2.2.2.2.2.2.2.2.2.2.2.2.2.2.2.2.2.2.2.2.2.2.2.1.2.1
theorem Sh.b29 {σ : Sto} {m : Nat} (h : Sh σ m) {e : Int} (he : e < 441) : e < (sZ σ (m + 29) : Int) := by rw [h.2.2.2.2.2.2.2.2.2.2.2.2.2.2.2.2.2.2.2.2.2.2.2.2.2.2.2.2.2.2.1.2.2]; exact he
theorem Sh.r30 {σ : Sto} {m : Nat} (h : Sh σ m) : fR σ 813 m = some (m + 30) := h.2.2.2.2.2.2.2.2.2.2.2.2.2.2.2.2.2.2.2.2.2.2.2.2.2.2.2.2.2.2.2.1.1
theorem Sh.k30 {σ : Sto} {m : Nat} (h : Sh σ m) : sK σ (m + 30) = 50 := h.2.2.2.2.2.2.2.2.2.2.2.2.2.2.2.2.2.2.2.2.2.2.2.2.2.2.2.2.2.2.2.1.2.1
theorem Sh.b30 {σ : Sto} {m : Nat} (h : Sh σ m) {e : Int} (he : e < 20) : e < (sZ σ (m + 30) : Int) := by rw [h.2.2.2.2.2.2.2.2.2.2.2.2.2.2.2.2.2.2.2.2.2.2.2.2.2.2.2.2.2.2.2.1.2.2]; exact he
theorem Sh.r31 {σ : Sto} {m : Nat} (h : Sh σ m) : fR σ 814 m = some (m + 31) := h.2.2.2.2.2.2.2.2.2.2.2.2.2.2.2.2.2.2.2.2.2.2.2.2.2.2.2.2.2.2.2.2.1.1
theorem Sh.k31 {σ : Sto} {m : Nat} (h : Sh σ m) : sK σ (m + 31) = 50 := h.2.2.2.2.2.2.2.2.2.2.2.2.2.2.2.2.2.2.2.2.2.2.2.2.2.2.2.2.2.2.2.2.1.2.1
theorem Sh.b31 {σ : Sto} {m : Nat} (h : Sh σ m) {e : Int} (he : e < 20) : e < (sZ σ (m + 31) : Int) := by rw [h.2.2.2.2.2.2.2.2.2.2.2.2.2.2.2.2.2.2.2.2.2.2.2.2.2.2.2.2.2.2.2.2.1.2.2]; exact he
theorem Sh.r32 {σ : Sto} {m : Nat} (h : Sh σ m) : fR σ 815 m = some (m + 32) := h.2.2.2.2.2.2.2.2.2.2.2.2.2.2.2.2.2.2.2.2.2.2.2.2.2.2.2.2.2.2.2.2.2.1.1
theorem Sh.k32 {σ : Sto} {m : Nat} (h : Sh σ m) : sK σ (m + 32) = 50 := h.2.2.2.2.2.2.2.2.2.2.2.2.2.2.2.2.2.2.2.2.2.2.2.2.2.2.2.2.2.2.2.2.2.1.2.1
theorem Sh.b32 {σ : Sto} {m : Nat} (h : Sh σ m) {e : Int} (he : e < 44) : e < (sZ σ (m + 32) : Int) := by rw [h.2.2.2.2.2.2.2.2.2.2.2.2.2.2.2.2.2.2.2.2.2.2.2.2.2.2.2.2.2.2.2.2.2.1.2.2]; exact he
theorem Sh.r33 {σ : Sto} {m : Nat} (h : Sh σ m) : fR σ 816 m = some (m + 33) := h.2.2.2.2.2.2.2.2.2.2.2.2.2.2.2.2.2.2.2.2.2.2.2.2.2.2.2.2.2.2.2.2.2.2.1.1
theorem Sh.k33 {σ : Sto} {m : Nat} (h : Sh σ m) : sK σ (m + 33) = 50 := h.2.2.2.2.2.2.2.2.2.2.2.2.2.2.2.2.2.2.2.2.2.2.2.2.2.2.2.2.2.2.2.2.2.2.1.2.1
theorem Sh.b33 {σ : Sto} {m : Nat} (h : Sh σ m) {e : Int} (he : e < 44) : e < (sZ σ (m + 33) : Int) := by rw [h.2.2.2.2.2.2.2.2.2.2.2.2.2.2.2.2.2.2.2.2.2.2.2.2.2.2.2.2.2.2.2.2.2.2.1.2.2]; exact he
theorem Sh.r34 {σ : Sto} {m : Nat} (h : Sh σ m) : fR σ 817 m = some (m + 34) := h.2.2.2.2.2.2.2.2.2.2.2.2.2.2.2.2.2.2.2.2.2.2.2.2.2.2.2.2.2.2.2.2.2.2.2.1.1
theorem Sh.k34 {σ : Sto} {m : Nat} (h : Sh σ m) : sK σ (m + 34) = 50 := h.2.2.2.2.2.2.2.2.2.2.2.2.2.2.2.2.2.2.2.2.2.2.2.2.2.2.2.2.2.2.2.2.2.2.2.1.2.1
theorem Sh.b34 {σ : Sto} {m : Nat} (h : Sh σ m) {e : Int} (he : e < 20) : e < (sZ σ (m + 34) : Int) := by rw [h.2.2.2.2.2.2.2.2.2.2.2.2.2.2.2.2.2.2.2.2.2.2.2.2.2.2.2.2.2.2.2.2.2.2.2.1.2.2]; exact he
theorem Sh.r35 {σ : Sto} {m : Nat} (h : Sh σ m) : fR σ 818 m = some (m + 35) := h.2.2.2.2.2.2.2.2.2.2.2.2.2.2.2.2.2.2.2.2.2.2.2.2.2.2.2.2.2.2.2.2.2.2.2.2.1.1
theorem Sh.k35 {σ : Sto} {m : Nat} (h : Sh σ m) : sK σ (m + 35) = 50 := h.2.2.2.2.2.2.2.2.2.2.2.2.2.2.2.2.2.2.2.2.2.2.2.2.2.2.2.2.2.2.2.2.2.2.2.2.1.2.1
theorem Sh.b35 {σ : Sto} {m : Nat} (h : Sh σ m) {e : Int} (he : e < 484) : e < (sZ σ (m + 35) : Int) := by rw [h.2.2.2.2.2.2.2.2.2.2.2.2.2.2.2.2.2.2.2.2.2.2.2.2.2.2.2.2.2.2.2.2.2.2.2.2.1.2.2]; exact he
theorem Sh.r36 {σ : Sto} {m : Nat} (h : Sh σ m) : fR σ 819 m = some (m + 36) := h.2.2.2.2.2.2.2.2.2.2.2.2.2.2.2.2.2.2.2.2.2.2.2.2.2.2.2.2.2.2.2.2.2.2.2.2.2.1.1
theorem Sh.k36 {σ : Sto} {m : Nat} (h : Sh σ m) : sK σ (m + 36) = 50 := h.2.2.2.2.2.2.2.2.2.2.2.2.2.2.2.2.2.2.2.2.2.2.2.2.2.2.2.2.2.2.2.2.2.2.2.2.2.1.2.1
theorem Sh.b36 {σ : Sto} {m : Nat} (h : Sh σ m) {e : Int} (he : e < 484) : e < (sZ σ (m + 36) : Int) := by rw [h.2.2.2.2.2.2.2.2.2.2.2.2.2.2.2.2.2.2.2.2.2.2.2.2.2.2.2.2.2.2.2.2.2.2.2.2.2.1.2.2]; exact he
theorem Sh.r37 {σ : Sto} {m : Nat} (h : Sh σ m) : fR σ 820 m = some (m + 37) := h.2.2.2.2.2.2.2.2.2.2.2.2.2.2.2.2.2.2.2.2.2.2.2.2.2.2.2.2.2.2.2.2.2.2.2.2.2.2.1
theorem Sh.k37 {σ : Sto} {m : Nat} (h : Sh σ m) : sK σ (m + 37) = 50 := h.2.2.2.2.2.2.2.2.2.2.2.2.2.2.2.2.2.2.2.2.2.2.2.2.2.2.2.2.2.2.2.2.2.2.2.2.2.2.2.1
theorem Sh.b37 {σ : Sto} {m : Nat} (h : Sh σ m) {e : Int} (he : e < 128) : e < (sZ σ (m + 37) : Int) := by rw [h.2.2.2.2.2.2.2.2.2.2.2.2.2.2.2.2.2.2.2.2.2.2.2.2.2.2.2.2.2.2.2.2.2.2.2.2.2.2.2.2]; exact he
/-! BY HAND: the reference's memory: its ints, its rows of ints, its rows of longs -/
abbrev Mu : Type := (Nat → Int) × (Nat → Nat → Int) × (Nat → Nat → Int64)
def mI (μ : Mu) : Nat → Int := μ.1
def mA (μ : Mu) : Nat → Nat → Int := μ.2.1
def mG (μ : Mu) : Nat → Nat → Int64 := μ.2.2
def wI (μ : Mu) (f : Nat) (v : Int) : Mu := (fun g => if g = f then v else mI μ g, mA μ, mG μ)
def wA (μ : Mu) (j i : Nat) (v : Int) : Mu := (mI μ, up2 (mA μ) j i v, mG μ)
def wG (μ : Mu) (j i : Nat) (v : Int64) : Mu := (mI μ, mA μ, up2 (mG μ) j i v)
theorem mI_wI (μ : Mu) (f : Nat) (v : Int) (g : Nat) : mI (wI μ f v) g = if g = f then v else mI μ g := Eq.trans rfl rfl
theorem mI_wA (μ : Mu) (j i : Nat) (v : Int) : mI (wA μ j i v) = mI μ := Eq.trans rfl rfl
theorem mI_wG (μ : Mu) (j i : Nat) (v : Int64) : mI (wG μ j i v) = mI μ := Eq.trans rfl rfl
theorem mA_wI (μ : Mu) (f : Nat) (v : Int) : mA (wI μ f v) = mA μ := Eq.trans rfl rfl
theorem mA_wG (μ : Mu) (j i : Nat) (v : Int64) : mA (wG μ j i v) = mA μ := Eq.trans rfl rfl
theorem mA_wA (μ : Mu) (j i : Nat) (v : Int) (j' i' : Nat) : mA (wA μ j i v) j' i' = if j' = j ∧ i' = i then v else mA μ j' i' := Eq.trans rfl rfl
theorem mG_wI (μ : Mu) (f : Nat) (v : Int) : mG (wI μ f v) = mG μ := Eq.trans rfl rfl
theorem mG_wA (μ : Mu) (j i : Nat) (v : Int) : mG (wA μ j i v) = mG μ := Eq.trans rfl rfl
theorem mG_wG (μ : Mu) (j i : Nat) (v : Int64) (j' i' : Nat) : mG (wG μ j i v) j' i' = if j' = j ∧ i' = i then v else mG μ j' i' := Eq.trans rfl rfl
def mu (σ : Sto) (m : Nat) : Mu := (fun f => fI σ (768 + f) m, fun j => aI σ (m + j), fun j => aL σ (m + j))
theorem mu_uI {σ : Sto} {m f : Nat} {v : Int} : mu (uI σ (768 + f) m v) m = wI (mu σ m) f v := by
  refine Prod.ext (funext fun g => ?_) (Prod.ext rfl rfl)
  show fI (uI σ (768 + f) m v) (768 + g) m = if g = f then v else fI σ (768 + g) m
  rw [fI_uI]
  by_cases h : g = f
  · rw [if_pos ⟨by rw [h], rfl⟩, if_pos h]
  · rw [if_neg (fun z => h (by have := z.1; omega)), if_neg h]
theorem mu_vI {σ : Sto} {m j i : Nat} {v : Int} : mu (vI σ (m + j) i v) m = wA (mu σ m) j i v := by
  refine Prod.ext rfl (Prod.ext (funext fun j' => funext fun i' => ?_) rfl)
  show aI (vI σ (m + j) i v) (m + j') i' = if j' = j ∧ i' = i then v else aI σ (m + j') i'
  rw [aI_vI]
  by_cases h : j' = j ∧ i' = i
  · rw [if_pos ⟨by rw [h.1], h.2⟩, if_pos h]
  · rw [if_neg (fun z => h ⟨by have := z.1; omega, z.2⟩), if_neg h]
theorem mu_vL {σ : Sto} {m j i : Nat} {v : Int64} : mu (vL σ (m + j) i v) m = wG (mu σ m) j i v := by
  refine Prod.ext rfl (Prod.ext rfl (funext fun j' => funext fun i' => ?_))
  show aL (vL σ (m + j) i v) (m + j') i' = if j' = j ∧ i' = i then v else aL σ (m + j') i'
  rw [aL_vL]
  by_cases h : j' = j ∧ i' = i
  · rw [if_pos ⟨by rw [h.1], h.2⟩, if_pos h]
  · rw [if_neg (fun z => h ⟨by have := z.1; omega, z.2⟩), if_neg h]
/-- the store holds the memory; of what was there before nothing else is changed -/
def MR (σ0 σ : Sto) (m : Nat) (μ : Mu) : Prop := Sh σ m ∧ Keep σ0 σ (In m (m + 38)) ∧ mu σ m = μ
theorem MR.uI {σ0 σ : Sto} {m f : Nat} {μ : Mu} {v : Int} (h : MR σ0 σ m μ) : MR σ0 (uI σ (768 + f) m v) m (wI μ f v) := by
  obtain ⟨h1, h2, rfl⟩ := h
  exact ⟨h1, h2.trans (Keep.uI ⟨Nat.le_refl _, by omega⟩), mu_uI⟩
theorem MR.vI {σ0 σ : Sto} {m j i : Nat} {μ : Mu} {v : Int} (hj : j < 38) (h : MR σ0 σ m μ) : MR σ0 (vI σ (m + j) i v) m (wA μ j i v) := by
  obtain ⟨h1, h2, rfl⟩ := h
  exact ⟨h1, h2.trans (Keep.vI ⟨by omega, by omega⟩), mu_vI⟩
theorem MR.vL {σ0 σ : Sto} {m j i : Nat} {μ : Mu} {v : Int64} (hj : j < 38) (h : MR σ0 σ m μ) : MR σ0 (vL σ (m + j) i v) m (wG μ j i v) := by
  obtain ⟨h1, h2, rfl⟩ := h
  exact ⟨h1, h2.trans (Keep.vL ⟨by omega, by omega⟩), mu_vL⟩
def Mw (Ω : Om) (σ0 : Sto) (m : Nat) (M : MI) (R : Room) (F : QF) (pc : Nat) (L st : List PV) (μ : Mu) : Prop := ∀ σ, MR σ0 σ m μ → Aw Ω M R F 0 0 pc L st σ
abbrev MQi (Ω : Om) (σ0 : Sto) (m : Nat) (R : Room) (Q : Int → Mu → Prop) : QF := MF Ω R (RI fun y σ' => ∃ μ', MR σ0 σ' m μ' ∧ Q y μ') XN
abbrev MQl (Ω : Om) (σ0 : Sto) (m : Nat) (R : Room) (Q : Int64 → Mu → Prop) : QF := MF Ω R (RL fun y σ' => ∃ μ', MR σ0 σ' m μ' ∧ Q y μ') XN
abbrev MQv (Ω : Om) (σ0 : Sto) (m : Nat) (R : Room) (Q : Mu → Prop) : QF := MF Ω R (RV fun σ' => ∃ μ', MR σ0 σ' m μ' ∧ Q μ') XN
def MMi (Ω : Om) (m : Nat) (M : MI) (R : Room) (Q : Int → Mu → Prop) (μ : Mu) (as : List PV) : Prop := ∀ σ0 σ, MR σ0 σ m μ → MC Ω M R (RI fun y σ' => ∃ μ', MR σ0 σ' m μ' ∧ Q y μ') XN σ (xr (some m) :: as)
def MMl (Ω : Om) (m : Nat) (M : MI) (R : Room) (Q : Int64 → Mu → Prop) (μ : Mu) (as : List PV) : Prop := ∀ σ0 σ, MR σ0 σ m μ → MC Ω M R (RL fun y σ' => ∃ μ', MR σ0 σ' m μ' ∧ Q y μ') XN σ (xr (some m) :: as)
def MMv (Ω : Om) (m : Nat) (M : MI) (R : Room) (Q : Mu → Prop) (μ : Mu) (as : List PV) : Prop := ∀ σ0 σ, MR σ0 σ m μ → MC Ω M R (RV fun σ' => ∃ μ', MR σ0 σ' m μ' ∧ Q μ') XN σ (xr (some m) :: as)
def MPi (Ω : Om) (M : MI) (R : Room) (P : Int → Prop) (as : List PV) : Prop := ∀ σ, MC Ω M R (RI fun y σ' => σ' = σ ∧ P y) XN σ as
def MPl (Ω : Om) (M : MI) (R : Room) (P : Int64 → Prop) (as : List PV) : Prop := ∀ σ, MC Ω M R (RL fun y σ' => σ' = σ ∧ P y) XN σ as
