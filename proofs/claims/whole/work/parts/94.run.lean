/-! ===== the law's run: every script, call by call ===== -/
set_option maxRecDepth 20000 in
theorem step_t {x4 : Int32} {m : Mem} (hI : Inv m) (hx : Sx x4 m) : Tot (r_L_step x4 m) (fun m7 => Inv m7 ∧ ∀ i, m7 100 i = m 100 i) := by
  have i0 : inb x4 (m 100 1 0).toNatClampNeg = true := by
    have := hx 0 (by decide)
    rwa [show nI 0 = 0 from rfl, Int32.add_zero] at this
  unfold r_L_step
  rw [if_pos i0]
  by_cases d0 : (m 100 0 x4.toNatClampNeg &&& 63) = 0
  · rw [if_pos d0]
    exact op_0 hI hx
  rw [if_neg d0]
  by_cases d1 : (m 100 0 x4.toNatClampNeg &&& 63) = 1
  · rw [if_pos d1]
    exact op_1 hx (fun y0 => pair_land hI y0)
  rw [if_neg d1]
  by_cases d2 : (m 100 0 x4.toNatClampNeg &&& 63) = 2
  · rw [if_pos d2]
    exact op_2 hx (fun y0 => pair_law hI y0)
  rw [if_neg d2]
  by_cases d3 : (m 100 0 x4.toNatClampNeg &&& 63) = 3
  · rw [if_pos d3]
    exact op_3 hx (fun y0 => pair_work hI y0)
  rw [if_neg d3]
  by_cases d4 : (m 100 0 x4.toNatClampNeg &&& 63) = 4
  · rw [if_pos d4]
    exact op_4 hx (fun y0 => pair_book hI y0)
  rw [if_neg d4]
  by_cases d5 : (m 100 0 x4.toNatClampNeg &&& 63) = 5
  · rw [if_pos d5]
    exact op_5 hI
  rw [if_neg d5]
  by_cases d6 : (m 100 0 x4.toNatClampNeg &&& 63) = 6
  · rw [if_pos d6]
    exact op_6 hI
  rw [if_neg d6]
  by_cases d7 : (m 100 0 x4.toNatClampNeg &&& 63) = 7
  · rw [if_pos d7]
    exact op_7 hx (fun y0 => pair_told hI y0)
  rw [if_neg d7]
  by_cases d8 : (m 100 0 x4.toNatClampNeg &&& 63) = 8
  · rw [if_pos d8]
    exact op_8 hx (fun y0 y1 => pair_place hI y0 y1)
  rw [if_neg d8]
  by_cases d9 : (m 100 0 x4.toNatClampNeg &&& 63) = 9
  · rw [if_pos d9]
    exact op_9 hx (fun y0 y1 => pair_ditch hI y0 y1)
  rw [if_neg d9]
  by_cases d10 : (m 100 0 x4.toNatClampNeg &&& 63) = 10
  · rw [if_pos d10]
    exact op_10 hx (fun y0 y1 => pair_person hI y0 y1)
  rw [if_neg d10]
  by_cases d11 : (m 100 0 x4.toNatClampNeg &&& 63) = 11
  · rw [if_pos d11]
    exact op_11 hx (fun y0 y1 => pair_belief hI y0 y1)
  rw [if_neg d11]
  by_cases d12 : (m 100 0 x4.toNatClampNeg &&& 63) = 12
  · rw [if_pos d12]
    exact op_12 hx (fun y0 y1 => pair_pull hI y0 y1)
  rw [if_neg d12]
  by_cases d13 : (m 100 0 x4.toNatClampNeg &&& 63) = 13
  · rw [if_pos d13]
    exact op_13 hx (fun y0 y1 y2 y3 y4 y5 y6 y7 y8 => pair_would hI y0 y1 y2 y3 y4 y5 y6 y7 y8)
  rw [if_neg d13]
  by_cases d14 : (m 100 0 x4.toNatClampNeg &&& 63) = 14
  · rw [if_pos d14]
    exact op_14 hx (fun y0 => pair_course hI y0)
  rw [if_neg d14]
  by_cases d15 : (m 100 0 x4.toNatClampNeg &&& 63) = 15
  · rw [if_pos d15]
    exact op_15 hx (fun y0 y1 => pair_ahead hI y0 y1)
  rw [if_neg d15]
  by_cases d16 : (m 100 0 x4.toNatClampNeg &&& 63) = 16
  · rw [if_pos d16]
    exact op_16 hI
  rw [if_neg d16]
  by_cases d17 : (m 100 0 x4.toNatClampNeg &&& 63) = 17
  · rw [if_pos d17]
    exact op_17 hx (fun y0 y1 y2 => pair_tellings hI y0 y1 y2)
  rw [if_neg d17]
  by_cases d18 : (m 100 0 x4.toNatClampNeg &&& 63) = 18
  · rw [if_pos d18]
    exact op_18 hx (fun y0 => pair_silence hI y0)
  rw [if_neg d18]
  by_cases d19 : (m 100 0 x4.toNatClampNeg &&& 63) = 19
  · rw [if_pos d19]
    exact op_19 hx (fun y0 => pair_who hI y0)
  rw [if_neg d19]
  by_cases d20 : (m 100 0 x4.toNatClampNeg &&& 63) = 20
  · rw [if_pos d20]
    exact op_20 hx (fun y0 => pair_look hI y0)
  rw [if_neg d20]
  by_cases d21 : (m 100 0 x4.toNatClampNeg &&& 63) = 21
  · rw [if_pos d21]
    exact op_21 hx (fun y0 y1 => pair_digs hI y0 y1)
  rw [if_neg d21]
  by_cases d22 : (m 100 0 x4.toNatClampNeg &&& 63) = 22
  · rw [if_pos d22]
    exact op_22 hx (fun y0 y1 => pair_way hI y0 y1)
  rw [if_neg d22]
  by_cases d23 : (m 100 0 x4.toNatClampNeg &&& 63) = 23
  · rw [if_pos d23]
    exact op_23 hx (fun y0 y1 y2 => pair_meet hI y0 y1 y2)
  rw [if_neg d23]
  by_cases d24 : (m 100 0 x4.toNatClampNeg &&& 63) = 24
  · rw [if_pos d24]
    exact op_24 hI
  rw [if_neg d24]
  by_cases d25 : (m 100 0 x4.toNatClampNeg &&& 63) = 25
  · rw [if_pos d25]
    exact op_25 hI hx
  rw [if_neg d25]
  by_cases d26 : (m 100 0 x4.toNatClampNeg &&& 63) = 26
  · rw [if_pos d26]
    exact op_26 hx (fun y0 y1 => pair_leaders hI y0 y1)
  rw [if_neg d26]
  by_cases d27 : (m 100 0 x4.toNatClampNeg &&& 63) = 27
  · rw [if_pos d27]
    exact op_27 hx (fun y0 y1 y2 => pair_share hI y0 y1 y2)
  rw [if_neg d27]
  by_cases d28 : (m 100 0 x4.toNatClampNeg &&& 63) = 28
  · rw [if_pos d28]
    exact op_28 hx (fun y0 y1 => pair_right hI y0 y1)
  rw [if_neg d28]
  by_cases d29 : (m 100 0 x4.toNatClampNeg &&& 63) = 29
  · rw [if_pos d29]
    exact op_29 hx (fun y0 => pair_blank hI y0)
  rw [if_neg d29]
  by_cases d30 : (m 100 0 x4.toNatClampNeg &&& 63) = 30
  · rw [if_pos d30]
    exact op_30 hI
  rw [if_neg d30]
  by_cases d31 : (m 100 0 x4.toNatClampNeg &&& 63) = 31
  · rw [if_pos d31]
    exact op_31 hx (fun y0 y1 y2 y3 => pair_year hI y0 y1 y2 y3)
  rw [if_neg d31]
  by_cases d32 : (m 100 0 x4.toNatClampNeg &&& 63) = 32
  · rw [if_pos d32]
    exact op_32 hx (fun y0 y1 y2 y3 y4 y5 => pair_span hI y0 y1 y2 y3 y4 y5)
  rw [if_neg d32]
  by_cases d33 : (m 100 0 x4.toNatClampNeg &&& 63) = 33
  · rw [if_pos d33]
    exact op_33 hI
  rw [if_neg d33]
  by_cases d34 : (m 100 0 x4.toNatClampNeg &&& 63) = 34
  · rw [if_pos d34]
    exact op_34 hI
  rw [if_neg d34]
  by_cases d35 : (m 100 0 x4.toNatClampNeg &&& 63) = 35
  · rw [if_pos d35]
    exact op_35 hI hx
  rw [if_neg d35]
  by_cases d36 : (m 100 0 x4.toNatClampNeg &&& 63) = 36
  · rw [if_pos d36]
    exact op_36 hI hx
  rw [if_neg d36]
  unfold r_L_op_37
  exact tot_some.mpr ⟨hI, fun _ => rfl⟩
theorem sx_of {k L : Nat} {m : Mem} (hl : m 100 1 0 = nI L) (hL : L ≤ 5120) (h : ¬ (m 100 1 0 - 10) < nI k) (hk : k ≤ 5120) : Sx (nI k) m ∧ k + 10 ≤ L := by
  have e0 := Int32.lt_iff_toInt_lt (x := m 100 1 0 - 10) (y := nI k)
  have e1 : (m 100 1 0 - 10).toInt = (L : Int) - 10 := by
    rw [hl, Int32.toInt_sub, nI_toInt (by omega), show (10 : Int32).toInt = 10 by decide]
    refine Int.bmod_eq_of_le ?_ ?_ <;> omega
  have e2 : (nI k).toInt = (k : Int) := nI_toInt (by omega)
  rw [e0, e1, e2] at h
  have hkL : k + 10 ≤ L := by omega
  refine ⟨fun j hj => ?_, hkL⟩
  rw [nI_add, hl, clamp_nI (by omega)]
  exact inb_nI (by omega) (by omega)
theorem run_t {L : Nat} (hL : L ≤ 5120) : ∀ (n k : Nat) (m : Mem), Inv m → m 100 1 0 = nI L → L < k + 10 * n + 10 → k ≤ 5120 → Tot (r_L_run n (nI k) m) (fun _ => True)
  | 0, k, m, hI, hl, hn, hk => by
    unfold r_L_run
    by_cases h : (m 100 1 0 - 10) < nI k
    · rw [if_pos h]
      exact tot_some.mpr trivial
    · have := (sx_of hl hL h hk).2
      omega
  | n + 1, k, m, hI, hl, hn, hk => by
    unfold r_L_run
    by_cases h : (m 100 1 0 - 10) < nI k
    · rw [if_pos h]
      exact tot_some.mpr trivial
    · obtain ⟨h1, h2⟩ := sx_of hl hL h hk
      rw [if_neg h, tot_bd1]
      refine (step_t hI h1).mono ?_
      rintro m7 ⟨q1, q2⟩
      rw [show nI k + 10 = nI (k + 10) from nI_add k 10]
      exact run_t hL n (k + 10) m7 q1 (by rw [q2]; exact hl) (by omega) (by omega)
