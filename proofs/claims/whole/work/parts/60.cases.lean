/-! ===== the law's cases out of the calls (by program) ===== -/
theorem op_1 {x4 : Int32} {m : Mem} (hx : Sx x4 m) (h : ∀ x1, Pair (fun m => r_L_land x1 m) (fun m => r_X12_land x1 m) m) : Tot (r_L_op_1 x4 m) (fun m7 => Inv m7 ∧ ∀ i, m7 100 i = m 100 i) := by
  have i1 : inb (x4 + 1) (m 100 1 0).toNatClampNeg = true := hx 1 (by decide)
  have hp := h (m 100 0 (x4 + 1).toNatClampNeg)
  unfold r_L_op_1
  rw [if_pos i1, tot_bd2]
  refine Tot.mono hp ?_
  rintro ⟨z2, m3⟩ ⟨h1, h2⟩
  dsimp only at h1 h2 ⊢
  simp only [h1, if_pos i1]
  exact tail2 h2
theorem op_2 {x4 : Int32} {m : Mem} (hx : Sx x4 m) (h : ∀ x1, Pair (fun m => r_L_law x1 m) (fun m => r_X12_law x1 m) m) : Tot (r_L_op_2 x4 m) (fun m7 => Inv m7 ∧ ∀ i, m7 100 i = m 100 i) := by
  have i1 : inb (x4 + 1) (m 100 1 0).toNatClampNeg = true := hx 1 (by decide)
  have hp := h (m 100 0 (x4 + 1).toNatClampNeg)
  unfold r_L_op_2
  rw [if_pos i1, tot_bd2]
  refine Tot.mono hp ?_
  rintro ⟨z2, m3⟩ ⟨h1, h2⟩
  dsimp only at h1 h2 ⊢
  simp only [h1, if_pos i1]
  exact tail2 h2
theorem op_3 {x4 : Int32} {m : Mem} (hx : Sx x4 m) (h : ∀ x1, Pair (fun m => r_L_work x1 m) (fun m => r_X12_work x1 m) m) : Tot (r_L_op_3 x4 m) (fun m7 => Inv m7 ∧ ∀ i, m7 100 i = m 100 i) := by
  have i1 : inb (x4 + 1) (m 100 1 0).toNatClampNeg = true := hx 1 (by decide)
  have hp := h (m 100 0 (x4 + 1).toNatClampNeg)
  unfold r_L_op_3
  rw [if_pos i1, tot_bd2]
  refine Tot.mono hp ?_
  rintro ⟨z2, m3⟩ ⟨h1, h2⟩
  dsimp only at h1 h2 ⊢
  simp only [h1, if_pos i1]
  exact tail2 h2
theorem op_4 {x4 : Int32} {m : Mem} (hx : Sx x4 m) (h : ∀ x1, Pair (fun m => r_L_book x1 m) (fun m => r_X12_book x1 m) m) : Tot (r_L_op_4 x4 m) (fun m7 => Inv m7 ∧ ∀ i, m7 100 i = m 100 i) := by
  have i1 : inb (x4 + 1) (m 100 1 0).toNatClampNeg = true := hx 1 (by decide)
  have hp := h (m 100 0 (x4 + 1).toNatClampNeg)
  unfold r_L_op_4
  rw [if_pos i1, tot_bd2]
  refine Tot.mono hp ?_
  rintro ⟨z2, m3⟩ ⟨h1, h2⟩
  dsimp only at h1 h2 ⊢
  simp only [h1, if_pos i1]
  exact tail2 h2
theorem op_7 {x4 : Int32} {m : Mem} (hx : Sx x4 m) (h : ∀ x1, Pair (fun m => r_L_told x1 m) (fun m => r_X12_told x1 m) m) : Tot (r_L_op_7 x4 m) (fun m7 => Inv m7 ∧ ∀ i, m7 100 i = m 100 i) := by
  have i1 : inb (x4 + 1) (m 100 1 0).toNatClampNeg = true := hx 1 (by decide)
  have hp := h (m 100 0 (x4 + 1).toNatClampNeg)
  unfold r_L_op_7
  rw [if_pos i1, tot_bd2]
  refine Tot.mono hp ?_
  rintro ⟨z2, m3⟩ ⟨h1, h2⟩
  dsimp only at h1 h2 ⊢
  simp only [h1, if_pos i1]
  exact tail2 h2
theorem op_8 {x4 : Int32} {m : Mem} (hx : Sx x4 m) (h : ∀ x1 x2, Pair (fun m => r_L_place x1 x2 m) (fun m => r_X12_place x1 x2 m) m) : Tot (r_L_op_8 x4 m) (fun m7 => Inv m7 ∧ ∀ i, m7 100 i = m 100 i) := by
  have i1 : inb (x4 + 1) (m 100 1 0).toNatClampNeg = true := hx 1 (by decide)
  have i2 : inb (x4 + 2) (m 100 1 0).toNatClampNeg = true := hx 2 (by decide)
  have hp := h (m 100 0 (x4 + 1).toNatClampNeg) (m 100 0 (x4 + 2).toNatClampNeg)
  unfold r_L_op_8
  rw [if_pos i1, if_pos i2, tot_bd2]
  refine Tot.mono hp ?_
  rintro ⟨z2, m3⟩ ⟨h1, h2⟩
  dsimp only at h1 h2 ⊢
  simp only [h1, if_pos i1, if_pos i2]
  exact tail2 h2
theorem op_9 {x4 : Int32} {m : Mem} (hx : Sx x4 m) (h : ∀ x1 x2, Pair (fun m => r_L_ditch x1 x2 m) (fun m => r_X12_ditch x1 x2 m) m) : Tot (r_L_op_9 x4 m) (fun m7 => Inv m7 ∧ ∀ i, m7 100 i = m 100 i) := by
  have i1 : inb (x4 + 1) (m 100 1 0).toNatClampNeg = true := hx 1 (by decide)
  have i2 : inb (x4 + 2) (m 100 1 0).toNatClampNeg = true := hx 2 (by decide)
  have hp := h (m 100 0 (x4 + 1).toNatClampNeg) (m 100 0 (x4 + 2).toNatClampNeg)
  unfold r_L_op_9
  rw [if_pos i1, if_pos i2, tot_bd2]
  refine Tot.mono hp ?_
  rintro ⟨z2, m3⟩ ⟨h1, h2⟩
  dsimp only at h1 h2 ⊢
  simp only [h1, if_pos i1, if_pos i2]
  exact tail2 h2
theorem op_10 {x4 : Int32} {m : Mem} (hx : Sx x4 m) (h : ∀ x1 x2, Pair (fun m => r_L_person x1 x2 m) (fun m => r_X12_person x1 x2 m) m) : Tot (r_L_op_10 x4 m) (fun m7 => Inv m7 ∧ ∀ i, m7 100 i = m 100 i) := by
  have i1 : inb (x4 + 1) (m 100 1 0).toNatClampNeg = true := hx 1 (by decide)
  have i2 : inb (x4 + 2) (m 100 1 0).toNatClampNeg = true := hx 2 (by decide)
  have hp := h (m 100 0 (x4 + 1).toNatClampNeg) (m 100 0 (x4 + 2).toNatClampNeg)
  unfold r_L_op_10
  rw [if_pos i1, if_pos i2, tot_bd2]
  refine Tot.mono hp ?_
  rintro ⟨z2, m3⟩ ⟨h1, h2⟩
  dsimp only at h1 h2 ⊢
  simp only [h1, if_pos i1, if_pos i2]
  exact tail2 h2
theorem op_11 {x4 : Int32} {m : Mem} (hx : Sx x4 m) (h : ∀ x1 x2, Pair (fun m => r_L_belief x1 x2 m) (fun m => r_X12_belief x1 x2 m) m) : Tot (r_L_op_11 x4 m) (fun m7 => Inv m7 ∧ ∀ i, m7 100 i = m 100 i) := by
  have i1 : inb (x4 + 1) (m 100 1 0).toNatClampNeg = true := hx 1 (by decide)
  have i2 : inb (x4 + 2) (m 100 1 0).toNatClampNeg = true := hx 2 (by decide)
  have hp := h (m 100 0 (x4 + 1).toNatClampNeg) (m 100 0 (x4 + 2).toNatClampNeg)
  unfold r_L_op_11
  rw [if_pos i1, if_pos i2, tot_bd2]
  refine Tot.mono hp ?_
  rintro ⟨z2, m3⟩ ⟨h1, h2⟩
  dsimp only at h1 h2 ⊢
  simp only [h1, if_pos i1, if_pos i2]
  exact tail2 h2
theorem op_12 {x4 : Int32} {m : Mem} (hx : Sx x4 m) (h : ∀ x1 x2, Pair (fun m => r_L_pull x1 x2 m) (fun m => r_X12_pull x1 x2 m) m) : Tot (r_L_op_12 x4 m) (fun m7 => Inv m7 ∧ ∀ i, m7 100 i = m 100 i) := by
  have i1 : inb (x4 + 1) (m 100 1 0).toNatClampNeg = true := hx 1 (by decide)
  have i2 : inb (x4 + 2) (m 100 1 0).toNatClampNeg = true := hx 2 (by decide)
  have hp := h (m 100 0 (x4 + 1).toNatClampNeg) (m 100 0 (x4 + 2).toNatClampNeg)
  unfold r_L_op_12
  rw [if_pos i1, if_pos i2, tot_bd2]
  refine Tot.mono hp ?_
  rintro ⟨z2, m3⟩ ⟨h1, h2⟩
  dsimp only at h1 h2 ⊢
  simp only [h1, if_pos i1, if_pos i2]
  exact tail2 h2
theorem op_13 {x4 : Int32} {m : Mem} (hx : Sx x4 m) (h : ∀ x1 x2 x3 x4 x5 x6 x7 x8 x9, Pair (fun m => r_L_would x1 x2 x3 x4 x5 x6 x7 x8 x9 m) (fun m => r_X12_would x1 x2 x3 x4 x5 x6 x7 x8 x9 m) m) : Tot (r_L_op_13 x4 m) (fun m7 => Inv m7 ∧ ∀ i, m7 100 i = m 100 i) := by
  have i1 : inb (x4 + 1) (m 100 1 0).toNatClampNeg = true := hx 1 (by decide)
  have i2 : inb (x4 + 2) (m 100 1 0).toNatClampNeg = true := hx 2 (by decide)
  have i3 : inb (x4 + 3) (m 100 1 0).toNatClampNeg = true := hx 3 (by decide)
  have i4 : inb (x4 + 4) (m 100 1 0).toNatClampNeg = true := hx 4 (by decide)
  have i5 : inb (x4 + 5) (m 100 1 0).toNatClampNeg = true := hx 5 (by decide)
  have i6 : inb (x4 + 6) (m 100 1 0).toNatClampNeg = true := hx 6 (by decide)
  have i7 : inb (x4 + 7) (m 100 1 0).toNatClampNeg = true := hx 7 (by decide)
  have i8 : inb (x4 + 8) (m 100 1 0).toNatClampNeg = true := hx 8 (by decide)
  have i9 : inb (x4 + 9) (m 100 1 0).toNatClampNeg = true := hx 9 (by decide)
  have hp := h (m 100 0 (x4 + 1).toNatClampNeg) (m 100 0 (x4 + 2).toNatClampNeg) (m 100 0 (x4 + 3).toNatClampNeg) (m 100 0 (x4 + 4).toNatClampNeg) (m 100 0 (x4 + 5).toNatClampNeg) (m 100 0 (x4 + 6).toNatClampNeg) (m 100 0 (x4 + 7).toNatClampNeg) (m 100 0 (x4 + 8).toNatClampNeg) (m 100 0 (x4 + 9).toNatClampNeg)
  unfold r_L_op_13
  rw [if_pos i1, if_pos i2, if_pos i3, if_pos i4, if_pos i5, if_pos i6, if_pos i7, if_pos i8, if_pos i9, tot_bd2]
  refine Tot.mono hp ?_
  rintro ⟨z2, m3⟩ ⟨h1, h2⟩
  dsimp only at h1 h2 ⊢
  simp only [h1, if_pos i1, if_pos i2, if_pos i3, if_pos i4, if_pos i5, if_pos i6, if_pos i7, if_pos i8, if_pos i9]
  exact tail2 h2
theorem op_14 {x4 : Int32} {m : Mem} (hx : Sx x4 m) (h : ∀ x1, Pair (fun m => r_L_course x1 m) (fun m => r_X12_course x1 m) m) : Tot (r_L_op_14 x4 m) (fun m7 => Inv m7 ∧ ∀ i, m7 100 i = m 100 i) := by
  have i1 : inb (x4 + 1) (m 100 1 0).toNatClampNeg = true := hx 1 (by decide)
  have hp := h (m 100 0 (x4 + 1).toNatClampNeg)
  unfold r_L_op_14
  rw [if_pos i1, tot_bd2]
  refine Tot.mono hp ?_
  rintro ⟨z2, m3⟩ ⟨h1, h2⟩
  dsimp only at h1 h2 ⊢
  simp only [h1, if_pos i1]
  exact tail2 h2
theorem op_15 {x4 : Int32} {m : Mem} (hx : Sx x4 m) (h : ∀ x1 x2, Pair (fun m => r_L_ahead x1 x2 m) (fun m => r_X12_ahead x1 x2 m) m) : Tot (r_L_op_15 x4 m) (fun m7 => Inv m7 ∧ ∀ i, m7 100 i = m 100 i) := by
  have i1 : inb (x4 + 1) (m 100 1 0).toNatClampNeg = true := hx 1 (by decide)
  have i2 : inb (x4 + 2) (m 100 1 0).toNatClampNeg = true := hx 2 (by decide)
  have hp := h (m 100 0 (x4 + 1).toNatClampNeg) (m 100 0 (x4 + 2).toNatClampNeg)
  unfold r_L_op_15
  rw [if_pos i1, if_pos i2, tot_bd2]
  refine Tot.mono hp ?_
  rintro ⟨z2, m3⟩ ⟨h1, h2⟩
  dsimp only at h1 h2 ⊢
  simp only [h1, if_pos i1, if_pos i2]
  exact tail2 h2
theorem op_17 {x4 : Int32} {m : Mem} (hx : Sx x4 m) (h : ∀ x1 x2 x3, Pair (fun m => r_L_tellings x1 x2 x3 m) (fun m => r_X12_tellings x1 x2 x3 m) m) : Tot (r_L_op_17 x4 m) (fun m7 => Inv m7 ∧ ∀ i, m7 100 i = m 100 i) := by
  have i1 : inb (x4 + 1) (m 100 1 0).toNatClampNeg = true := hx 1 (by decide)
  have i2 : inb (x4 + 2) (m 100 1 0).toNatClampNeg = true := hx 2 (by decide)
  have i3 : inb (x4 + 3) (m 100 1 0).toNatClampNeg = true := hx 3 (by decide)
  have hp := h (m 100 0 (x4 + 1).toNatClampNeg) (m 100 0 (x4 + 2).toNatClampNeg) (m 100 0 (x4 + 3).toNatClampNeg)
  unfold r_L_op_17
  rw [if_pos i1, if_pos i2, if_pos i3, tot_bd2]
  refine Tot.mono hp ?_
  rintro ⟨z2, m3⟩ ⟨h1, h2⟩
  dsimp only at h1 h2 ⊢
  simp only [h1, if_pos i1, if_pos i2, if_pos i3]
  exact tail2 h2
theorem op_18 {x4 : Int32} {m : Mem} (hx : Sx x4 m) (h : ∀ x1, Pair (fun m => r_L_silence x1 m) (fun m => r_X12_silence x1 m) m) : Tot (r_L_op_18 x4 m) (fun m7 => Inv m7 ∧ ∀ i, m7 100 i = m 100 i) := by
  have i1 : inb (x4 + 1) (m 100 1 0).toNatClampNeg = true := hx 1 (by decide)
  have hp := h (m 100 0 (x4 + 1).toNatClampNeg)
  unfold r_L_op_18
  rw [if_pos i1, tot_bd2]
  refine Tot.mono hp ?_
  rintro ⟨z2, m3⟩ ⟨h1, h2⟩
  dsimp only at h1 h2 ⊢
  simp only [h1, if_pos i1]
  exact tail2 h2
theorem op_19 {x4 : Int32} {m : Mem} (hx : Sx x4 m) (h : ∀ x1, Pair (fun m => r_L_who x1 m) (fun m => r_X12_who x1 m) m) : Tot (r_L_op_19 x4 m) (fun m7 => Inv m7 ∧ ∀ i, m7 100 i = m 100 i) := by
  have i1 : inb (x4 + 1) (m 100 1 0).toNatClampNeg = true := hx 1 (by decide)
  have hp := h (m 100 0 (x4 + 1).toNatClampNeg)
  unfold r_L_op_19
  rw [if_pos i1, tot_bd2]
  refine Tot.mono hp ?_
  rintro ⟨z2, m3⟩ ⟨h1, h2⟩
  dsimp only at h1 h2 ⊢
  simp only [h1, if_pos i1]
  exact tail2 h2
theorem op_20 {x4 : Int32} {m : Mem} (hx : Sx x4 m) (h : ∀ x1, Pair (fun m => r_L_look x1 m) (fun m => r_X12_look x1 m) m) : Tot (r_L_op_20 x4 m) (fun m7 => Inv m7 ∧ ∀ i, m7 100 i = m 100 i) := by
  have i1 : inb (x4 + 1) (m 100 1 0).toNatClampNeg = true := hx 1 (by decide)
  have hp := h (m 100 0 (x4 + 1).toNatClampNeg)
  unfold r_L_op_20
  rw [if_pos i1, tot_bd2]
  refine Tot.mono hp ?_
  rintro ⟨z2, m3⟩ ⟨h1, h2⟩
  dsimp only at h1 h2 ⊢
  simp only [h1, if_pos i1]
  exact tail2 h2
theorem op_21 {x4 : Int32} {m : Mem} (hx : Sx x4 m) (h : ∀ x1 x2, Pair (fun m => r_L_digs x1 x2 m) (fun m => r_X12_digs x1 x2 m) m) : Tot (r_L_op_21 x4 m) (fun m7 => Inv m7 ∧ ∀ i, m7 100 i = m 100 i) := by
  have i1 : inb (x4 + 1) (m 100 1 0).toNatClampNeg = true := hx 1 (by decide)
  have i2 : inb (x4 + 2) (m 100 1 0).toNatClampNeg = true := hx 2 (by decide)
  have hp := h (m 100 0 (x4 + 1).toNatClampNeg) (m 100 0 (x4 + 2).toNatClampNeg)
  unfold r_L_op_21
  rw [if_pos i1, if_pos i2, tot_bd2]
  refine Tot.mono hp ?_
  rintro ⟨z2, m3⟩ ⟨h1, h2⟩
  dsimp only at h1 h2 ⊢
  simp only [h1, if_pos i1, if_pos i2]
  exact tail2 h2
theorem op_22 {x4 : Int32} {m : Mem} (hx : Sx x4 m) (h : ∀ x1 x2, Pair (fun m => r_L_way x1 x2 m) (fun m => r_X12_way x1 x2 m) m) : Tot (r_L_op_22 x4 m) (fun m7 => Inv m7 ∧ ∀ i, m7 100 i = m 100 i) := by
  have i1 : inb (x4 + 1) (m 100 1 0).toNatClampNeg = true := hx 1 (by decide)
  have i2 : inb (x4 + 2) (m 100 1 0).toNatClampNeg = true := hx 2 (by decide)
  have hp := h (m 100 0 (x4 + 1).toNatClampNeg) (m 100 0 (x4 + 2).toNatClampNeg)
  unfold r_L_op_22
  rw [if_pos i1, if_pos i2, tot_bd2]
  refine Tot.mono hp ?_
  rintro ⟨z2, m3⟩ ⟨h1, h2⟩
  dsimp only at h1 h2 ⊢
  simp only [h1, if_pos i1, if_pos i2]
  exact tail2 h2
theorem op_23 {x4 : Int32} {m : Mem} (hx : Sx x4 m) (h : ∀ x1 x2 x3, Pair (fun m => r_L_meet x1 x2 x3 m) (fun m => r_X12_meet x1 x2 x3 m) m) : Tot (r_L_op_23 x4 m) (fun m7 => Inv m7 ∧ ∀ i, m7 100 i = m 100 i) := by
  have i1 : inb (x4 + 1) (m 100 1 0).toNatClampNeg = true := hx 1 (by decide)
  have i2 : inb (x4 + 2) (m 100 1 0).toNatClampNeg = true := hx 2 (by decide)
  have i3 : inb (x4 + 3) (m 100 1 0).toNatClampNeg = true := hx 3 (by decide)
  have hp := h (m 100 0 (x4 + 1).toNatClampNeg) (m 100 0 (x4 + 2).toNatClampNeg) (m 100 0 (x4 + 3).toNatClampNeg)
  unfold r_L_op_23
  rw [if_pos i1, if_pos i2, if_pos i3, tot_bd2]
  refine Tot.mono hp ?_
  rintro ⟨z2, m3⟩ ⟨h1, h2⟩
  dsimp only at h1 h2 ⊢
  simp only [h1, if_pos i1, if_pos i2, if_pos i3]
  exact tail2 h2
theorem op_26 {x4 : Int32} {m : Mem} (hx : Sx x4 m) (h : ∀ x1 x2, Pair (fun m => r_L_leaders x1 x2 m) (fun m => r_X12_leaders x1 x2 m) m) : Tot (r_L_op_26 x4 m) (fun m7 => Inv m7 ∧ ∀ i, m7 100 i = m 100 i) := by
  have i1 : inb (x4 + 1) (m 100 1 0).toNatClampNeg = true := hx 1 (by decide)
  have i2 : inb (x4 + 2) (m 100 1 0).toNatClampNeg = true := hx 2 (by decide)
  have hp := h (m 100 0 (x4 + 1).toNatClampNeg) (m 100 0 (x4 + 2).toNatClampNeg)
  unfold r_L_op_26
  rw [if_pos i1, if_pos i2, tot_bd2]
  refine Tot.mono hp ?_
  rintro ⟨z2, m3⟩ ⟨h1, h2⟩
  dsimp only at h1 h2 ⊢
  simp only [h1, if_pos i1, if_pos i2]
  exact tail2 h2
theorem op_27 {x4 : Int32} {m : Mem} (hx : Sx x4 m) (h : ∀ x1 x2 x3, Pair (fun m => r_L_share x1 x2 x3 m) (fun m => r_X12_share x1 x2 x3 m) m) : Tot (r_L_op_27 x4 m) (fun m7 => Inv m7 ∧ ∀ i, m7 100 i = m 100 i) := by
  have i1 : inb (x4 + 1) (m 100 1 0).toNatClampNeg = true := hx 1 (by decide)
  have i2 : inb (x4 + 2) (m 100 1 0).toNatClampNeg = true := hx 2 (by decide)
  have i3 : inb (x4 + 3) (m 100 1 0).toNatClampNeg = true := hx 3 (by decide)
  have hp := h (m 100 0 (x4 + 1).toNatClampNeg) (m 100 0 (x4 + 2).toNatClampNeg) (m 100 0 (x4 + 3).toNatClampNeg)
  unfold r_L_op_27
  rw [if_pos i1, if_pos i2, if_pos i3, tot_bd2]
  refine Tot.mono hp ?_
  rintro ⟨z2, m3⟩ ⟨h1, h2⟩
  dsimp only at h1 h2 ⊢
  simp only [h1, if_pos i1, if_pos i2, if_pos i3]
  exact tail2 h2
theorem op_28 {x4 : Int32} {m : Mem} (hx : Sx x4 m) (h : ∀ x1 x2, Pair (fun m => r_L_right x1 x2 m) (fun m => r_X12_right x1 x2 m) m) : Tot (r_L_op_28 x4 m) (fun m7 => Inv m7 ∧ ∀ i, m7 100 i = m 100 i) := by
  have i1 : inb (x4 + 1) (m 100 1 0).toNatClampNeg = true := hx 1 (by decide)
  have i2 : inb (x4 + 2) (m 100 1 0).toNatClampNeg = true := hx 2 (by decide)
  have hp := h (m 100 0 (x4 + 1).toNatClampNeg) (m 100 0 (x4 + 2).toNatClampNeg)
  unfold r_L_op_28
  rw [if_pos i1, if_pos i2, tot_bd2]
  refine Tot.mono hp ?_
  rintro ⟨z2, m3⟩ ⟨h1, h2⟩
  dsimp only at h1 h2 ⊢
  simp only [h1, if_pos i1, if_pos i2]
  exact tail2 h2
theorem op_29 {x4 : Int32} {m : Mem} (hx : Sx x4 m) (h : ∀ x1, Pair (fun m => r_L_blank x1 m) (fun m => r_X12_blank x1 m) m) : Tot (r_L_op_29 x4 m) (fun m7 => Inv m7 ∧ ∀ i, m7 100 i = m 100 i) := by
  have i1 : inb (x4 + 1) (m 100 1 0).toNatClampNeg = true := hx 1 (by decide)
  have hp := h (m 100 0 (x4 + 1).toNatClampNeg)
  unfold r_L_op_29
  rw [if_pos i1, tot_bd2]
  refine Tot.mono hp ?_
  rintro ⟨z2, m3⟩ ⟨h1, h2⟩
  dsimp only at h1 h2 ⊢
  simp only [h1, if_pos i1]
  exact tail2 h2
theorem op_31 {x4 : Int32} {m : Mem} (hx : Sx x4 m) (h : ∀ x1 x2 x3 x4, Pair (fun m => r_L_year x1 x2 x3 x4 m) (fun m => r_X12_year x1 x2 x3 x4 m) m) : Tot (r_L_op_31 x4 m) (fun m7 => Inv m7 ∧ ∀ i, m7 100 i = m 100 i) := by
  have i1 : inb (x4 + 1) (m 100 1 0).toNatClampNeg = true := hx 1 (by decide)
  have i2 : inb (x4 + 2) (m 100 1 0).toNatClampNeg = true := hx 2 (by decide)
  have i3 : inb (x4 + 3) (m 100 1 0).toNatClampNeg = true := hx 3 (by decide)
  have i4 : inb (x4 + 4) (m 100 1 0).toNatClampNeg = true := hx 4 (by decide)
  have hp := h (m 100 0 (x4 + 1).toNatClampNeg) (m 100 0 (x4 + 2).toNatClampNeg) (m 100 0 (x4 + 3).toNatClampNeg) (m 100 0 (x4 + 4).toNatClampNeg)
  unfold r_L_op_31
  rw [if_pos i1, if_pos i2, if_pos i3, if_pos i4, tot_bd2]
  refine Tot.mono hp ?_
  rintro ⟨z2, m3⟩ ⟨h1, h2⟩
  dsimp only at h1 h2 ⊢
  simp only [h1, if_pos i1, if_pos i2, if_pos i3, if_pos i4]
  exact tail2 h2
theorem op_32 {x4 : Int32} {m : Mem} (hx : Sx x4 m) (h : ∀ x1 x2 x3 x4 x5 x6, Pair (fun m => r_L_span x1 x2 x3 x4 x5 x6 m) (fun m => r_X12_span x1 x2 x3 x4 x5 x6 m) m) : Tot (r_L_op_32 x4 m) (fun m7 => Inv m7 ∧ ∀ i, m7 100 i = m 100 i) := by
  have i1 : inb (x4 + 1) (m 100 1 0).toNatClampNeg = true := hx 1 (by decide)
  have i2 : inb (x4 + 2) (m 100 1 0).toNatClampNeg = true := hx 2 (by decide)
  have i3 : inb (x4 + 3) (m 100 1 0).toNatClampNeg = true := hx 3 (by decide)
  have i4 : inb (x4 + 4) (m 100 1 0).toNatClampNeg = true := hx 4 (by decide)
  have i5 : inb (x4 + 5) (m 100 1 0).toNatClampNeg = true := hx 5 (by decide)
  have i6 : inb (x4 + 6) (m 100 1 0).toNatClampNeg = true := hx 6 (by decide)
  have hp := h (m 100 0 (x4 + 1).toNatClampNeg) (m 100 0 (x4 + 2).toNatClampNeg) (m 100 0 (x4 + 3).toNatClampNeg) (m 100 0 (x4 + 4).toNatClampNeg) (m 100 0 (x4 + 5).toNatClampNeg) (m 100 0 (x4 + 6).toNatClampNeg)
  unfold r_L_op_32
  rw [if_pos i1, if_pos i2, if_pos i3, if_pos i4, if_pos i5, if_pos i6, tot_bd2]
  refine Tot.mono hp ?_
  rintro ⟨z2, m3⟩ ⟨h1, h2⟩
  dsimp only at h1 h2 ⊢
  simp only [h1, if_pos i1, if_pos i2, if_pos i3, if_pos i4, if_pos i5, if_pos i6]
  exact tail2 h2
