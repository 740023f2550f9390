/-! ===== count, status, fault, belief, ditch, pull, would, course ===== -/
theorem in_le {a : Int32} {n : Nat} (hn : n ≤ 1000000) (h : 0 ≤ a ∧ a ≤ nI n) : ∃ k, k ≤ n ∧ a = nI k := by
  have h1 := (fa_le 0 a).mp h.1
  have h2 := (fa_le a (nI n)).mp h.2
  rw [nI_toInt (by omega)] at h2
  have h0 : (0 : Int32).toInt = 0 := by decide
  obtain ⟨k, hk, e⟩ := inb_of (x := a) (n := n + 1) (inb_iff.mpr ⟨by omega, by omega⟩)
  exact ⟨k, by omega, e⟩
theorem th_row (m : Mem) (x : Int32) {k i : Nat} (h : ¬ k = 12) : wr m 12 0 0 x k i = m k i := by
  funext j
  exact wr_k h
theorem th_100 (m : Mem) (x : Int32) (i : Nat) : wr m 12 0 0 x 100 i = m 100 i := th_row m x (by decide)
theorem th_z (m : Mem) (x : Int32) : wr m 12 0 0 x 12 0 0 = x := wr_eq _ _ _ _ _
theorem th_fj (m : Mem) (x : Int32) : Fj [] [(12, 0)] m (wr m 12 0 0 x) := Fj.rf.wrJ (by decide) _ _
theorem op_36 {x4 : Int32} {m : Mem} (hI : Inv m) (hx : Sx x4 m) : Tot (r_L_op_36 x4 m) (fun m7 => Inv m7 ∧ ∀ i, m7 100 i = m 100 i) := by
  have i1 : inb (x4 + 1) (m 100 1 0).toNatClampNeg = true := hx 1 (by decide)
  obtain ⟨⟨f, -, f1, f2, -⟩, -⟩ := hI.2.1
  obtain ⟨k, -, k1, k2, -⟩ := hI.2.2.1
  obtain ⟨n, -, n1, n2, -⟩ := hI.2.2.2.1
  unfold r_L_op_36
  rw [if_pos i1, tot_bd2]
  generalize m 100 0 (x4 + 1).toNatClampNeg = x
  have fin : ∀ z, r_X11_count x m = z → Tot (some (z, wr m 12 0 0 0)) (fun q => Tot (if r_X11_count x m = q.1 then some q.2 else none) (fun m7 => Inv m7 ∧ ∀ i, m7 100 i = m 100 i)) := by
    intro z hz
    refine tot_some.mpr ?_
    rw [if_pos hz]
    exact tot_some.mpr ⟨hI.th 0, th_100 m 0⟩
  unfold r_X12_count
  by_cases h0 : x = 0
  · rw [if_pos h0]
    exact fin _ (by unfold r_X11_count; rw [if_pos h0, n1, n2])
  · rw [if_neg h0]
    by_cases h1 : x = 1
    · rw [if_pos h1]
      exact fin _ (by unfold r_X11_count; rw [if_neg h0, if_pos h1, f1, f2])
    · rw [if_neg h1]
      by_cases h2 : x = 2
      · rw [if_pos h2]
        exact fin _ (by unfold r_X11_count; rw [if_neg h0, if_neg h1, if_pos h2, k1, k2])
      · rw [if_neg h2]
        exact fin _ (by unfold r_X11_count; rw [if_neg h0, if_neg h1, if_neg h2])
theorem op_35 {x4 : Int32} {m : Mem} (hI : Inv m) (hx : Sx x4 m) : Tot (r_L_op_35 x4 m) (fun m7 => Inv m7 ∧ ∀ i, m7 100 i = m 100 i) := by
  have i1 : inb (x4 + 1) (m 100 1 0).toNatClampNeg = true := hx 1 (by decide)
  obtain ⟨c1, c2, -⟩ := hI.2.2.2.2.2.1
  rw [add0] at c1 c2
  unfold r_L_op_35
  rw [if_pos i1, tot_bd2]
  generalize m 100 0 (x4 + 1).toNatClampNeg = x
  have fin : ∀ z, r_X11_status x m = z → Tot (some (z, wr m 12 0 0 0)) (fun q => Tot (if r_X11_status x m = q.1 then some q.2 else none) (fun m7 => Inv m7 ∧ ∀ i, m7 100 i = m 100 i)) := by
    intro z hz
    refine tot_some.mpr ?_
    rw [if_pos hz]
    exact tot_some.mpr ⟨hI.th 0, th_100 m 0⟩
  unfold r_X12_status
  by_cases h0 : x = 0
  · subst h0
    rw [if_pos (in_t (by decide)), if_pos (by decide)]
    exact fin _ c1
  · by_cases h1 : x = 1
    · subst h1
      rw [if_pos (in_t (by decide)), if_pos (by decide)]
      exact fin _ c2
    · have hno : ¬ (0 ≤ x ∧ x ≤ 1) := by
        rintro ⟨a1, a2⟩
        obtain ⟨k, hk, rfl⟩ := in_le (n := 1) (by decide) ⟨a1, a2⟩
        match k, hk with
        | 0, _ => exact h0 rfl
        | 1, _ => exact h1 rfl
      rw [if_neg (by rw [in_f hno]; decide)]
      exact fin _ (by unfold r_X11_status; rw [if_neg h0, if_neg h1])
theorem op_5 {x4 : Int32} {m : Mem} (hI : Inv m) : Tot (r_L_op_5 x4 m) (fun m7 => Inv m7 ∧ ∀ i, m7 100 i = m 100 i) := by
  unfold r_L_op_5 r_X12_fault
  rw [tot_bd2]
  refine tot_some.mpr ?_
  rw [if_pos (show r_X11_fault m = m 12 0 3 from hI.2.1.2)]
  exact tot_some.mpr ⟨hI.th 0, th_100 m 0⟩
theorem pair_belief {m : Mem} (hI : Inv m) (p a : Int32) : Pair (fun m => r_L_belief p a m) (fun m => r_X12_belief p a m) m := by
  obtain ⟨hW, hR, hL, hC, hS⟩ := hI.1
  have bad : ¬ (isPe (mW m) p ∧ isPl (mW m) a) → ∀ m3, mW m3 = mW m → (∀ k i, ¬ k = 11 → m3 k i = m k i) → r_X12_belief p a m3 = some (0, badm m3 1 0) := by
    intro h m3 hm _
    have hW3 : WF (mW (wr m3 12 0 0 0)) := by rw [mW_th, hm]; exact hW
    have e : mW (wr m3 12 0 0 0) = mW m := by rw [mW_th, hm]
    have j : r_X12_belief_j22 p a (wr m3 12 0 0 0) = some (0, badm m3 1 0) := by
      unfold r_X12_belief_j22 r_X12_belief_j27
      rw [bd2_s (bad_10 (by decide)), if_pos rfl]
    unfold r_X12_belief
    by_cases hp : isPe (mW m) p
    · rw [bd1_s (isPerson_t hW3 (by rw [e]; exact hp)), if_pos rfl, bd1_s (isPlace_f hW3 (by rw [e]; exact fun q => h ⟨hp, q⟩)), if_neg (by decide)]
      exact j
    · rw [bd1_s (isPerson_f hW3 (by rw [e]; exact hp)), if_neg (by decide)]
      exact j
  by_cases hp : isPe (mW m) p
  · by_cases ha : isPl (mW m) a
    · obtain ⟨q, hq, rfl⟩ := isPe_of hW hp
      obtain ⟨b, hb, rfl⟩ := isPl_of hW ha
      have hP := hW.1.2
      have hN := hW.2.2.1.2
      refine Pair.ok (z := m 60 0 (12 * q + b)) [] [] [] [(12, 0)] hI ?_ ?_ rfl rfl rfl rfl rfl rfl
      · unfold r_X11_belief r_X7_believes
        rw [thr_l (needPerson_t hL hp), thr_l (needPlace_t hL ha), show (nI q * 12) + nI b = nI (12 * q + b) by (show nI q * nI 12 + nI b = _; rw [nI_mul, nI_add, Nat.mul_comm]), if_pos (inb_nI (by omega) (by omega)), clamp_nI (by omega)]
        exact tot_some.mpr ⟨by rw [hS.2.2.2.1 q b hq (by omega)], Fj.rf⟩
      · intro m3 hI3 hF
        have hm : mW m3 = mW m := mW_fj hF (by decide) (by simp)
        have e : mW (wr m3 12 0 0 0) = mW m := by rw [mW_th, hm]
        have hW3 : WF (mW (wr m3 12 0 0 0)) := by rw [e]; exact hW
        unfold r_X12_belief r_X12_belief_j27
        rw [bd1_s (isPerson_t hW3 (by rw [e]; exact hp)), if_pos rfl, bd1_s (isPlace_t hW3 (by rw [e]; exact ha)), if_pos rfl, bd2_s bad_0, if_neg (by decide), show (0 + (12 * nI q)) + nI b = nI (12 * q + b) by (rw [Int32.zero_add]; show nI 12 * nI q + nI b = _; rw [nI_mul, nI_add]), if_pos (inb_nI (by omega) (by omega)), clamp_nI (by omega)]
        refine tot_some.mpr ⟨?_, th_z m3 0, th_fj m3 0⟩
        show wr m3 12 0 0 0 60 0 (12 * q + b) = _
        rw [wr_k (by decide), hF.rw' 60 0 (by decide) (by simp)]
    · refine Pair.b0 (c := 1) hI rfl (by decide) ?_ (bad (fun q => ha q.2))
      unfold r_X11_belief
      rw [thr_l (needPerson_t hL hp), thr_r (needPlace_f hL ha)]
  · refine Pair.b0 (c := 1) hI rfl (by decide) ?_ (bad (fun q => hp q.1))
    unfold r_X11_belief
    rw [thr_r (needPerson_f hL hp)]
theorem pair_pull {m : Mem} (hI : Inv m) (p a : Int32) : Pair (fun m => r_L_pull p a m) (fun m => r_X12_pull p a m) m := by
  obtain ⟨hW, hR, hL, hC, hS⟩ := hI.1
  have bad : ¬ (isPl (mW m) p ∧ isPl (mW m) a) → ∀ m3, mW m3 = mW m → (∀ k i, ¬ k = 11 → m3 k i = m k i) → r_X12_pull p a m3 = some (0, badm m3 1 0) := by
    intro h m3 hm _
    have e : mW (wr m3 12 0 0 0) = mW m := by rw [mW_th, hm]
    have hW3 : WF (mW (wr m3 12 0 0 0)) := by rw [e]; exact hW
    have j : r_X12_pull_j22 p a (wr m3 12 0 0 0) = some (0, badm m3 1 0) := by
      unfold r_X12_pull_j22 r_X12_pull_j27
      rw [bd2_s (bad_10 (by decide)), if_pos rfl]
    unfold r_X12_pull
    by_cases hp : isPl (mW m) p
    · rw [bd1_s (isPlace_t hW3 (by rw [e]; exact hp)), if_pos rfl, bd1_s (isPlace_f hW3 (by rw [e]; exact fun q => h ⟨hp, q⟩)), if_neg (by decide)]
      exact j
    · rw [bd1_s (isPlace_f hW3 (by rw [e]; exact hp)), if_neg (by decide)]
      exact j
  by_cases hp : isPl (mW m) p
  · by_cases ha : isPl (mW m) a
    · obtain ⟨q, hq, rfl⟩ := isPl_of hW hp
      obtain ⟨b, hb, rfl⟩ := isPl_of hW ha
      have hP := hW.1.2
      refine Pair.ok (z := if bw (mW m) q b = -1 then -100 else drq (mW m) (m 60 0) q b) [(33, 0), (35, 0)] [] [(55, 0), (56, 0)] [(12, 0)] hI ?_ ?_ rfl rfl rfl rfl rfl rfl
      · unfold r_X11_pull r_X3_between
        rw [thr_l (needPlace_t hL hp), thr_l (needPlace_t hL ha), show (nI q * 12) + nI b = nI (12 * q + b) by (show nI q * nI 12 + nI b = _; rw [nI_mul, nI_add, Nat.mul_comm]), if_pos (inb_nI (by omega) (by omega)), clamp_nI (by omega), hL.2.2.2.2.2.2.1 q b (by omega) (by omega), bd1_s rfl]
        by_cases hz : bw (mW m) q b = -1
        · rw [if_pos hz, if_pos hz]
          exact tot_some.mpr ⟨rfl, Fj.rf⟩
        · rw [if_neg hz, if_neg hz, tot_bd2]
          exact (draw_tot hW hL hC hS hq hb hz).mono fun r hr => tot_some.mpr ⟨by rw [hr.1], hr.2.j⟩
      · intro m3 hI3 hF
        have hm : mW m3 = mW m := mW_fj hF (by decide) (by simp)
        have e : mW (wr m3 12 0 0 0) = mW m := by rw [mW_th, hm]
        have hW3 : WF (mW (wr m3 12 0 0 0)) := by rw [e]; exact hW
        have h60 : wr m3 12 0 0 0 60 0 = m 60 0 := by rw [th_row m3 0 (by decide), hF.rw' 60 0 (by decide) (by simp)]
        unfold r_X12_pull r_X12_pull_j27
        rw [bd1_s (isPlace_t hW3 (by rw [e]; exact hp)), if_pos rfl, bd1_s (isPlace_t hW3 (by rw [e]; exact ha)), if_pos rfl, bd2_s bad_0, if_neg (by decide), bd1_s (btw_eq (D := wD (mW m)) (by rw [← e]; exact hW3.2.1.1) hW.2.1.2), e]
        by_cases hz : bw (mW m) q b = -1
        · rw [if_pos hz, if_pos hz]
          exact tot_some.mpr ⟨rfl, th_z m3 0, (th_fj m3 0).mono (by simp) (by simp)⟩
        · rw [if_neg hz, if_neg hz, tot_bd2]
          obtain ⟨d, hd, hde, -⟩ := (bw_or (mW m) q b).resolve_left hz
          have hD := hW.2.1.2
          rw [show btw (mW m) (wD (mW m)) (nI q) (nI b) = nI d from hde]
          refine (drawWith_tot (n := wn (mW m)) (N := wN (mW m)) (by rw [← e]; exact hW3.2.2.2.2.1) (by rw [e]; exact hW.2.2.2.2.2.1) (by rw [← e]; exact hW3.2.2.1.1) hW.2.2.1.2 (by omega) (by omega) (by omega)).mono ?_
          rintro ⟨z, m4⟩ ⟨g1, g2⟩
          dsimp only at g1 g2 ⊢
          refine tot_some.mpr ⟨?_, ?_, ((th_fj m3 0).mono (by simp) (by simp)).tr g2.j⟩
          · show z = _
            rw [g1, e, h60]
            unfold drq
            rw [hde, clamp_nI (by omega)]
          · show m4 12 0 0 = 0
            rw [g2 12 0 (by decide)]
            exact wr_eq _ _ _ _ _
    · refine Pair.b0 (c := 1) hI rfl (by decide) ?_ (bad (fun q => ha q.2))
      unfold r_X11_pull
      rw [thr_l (needPlace_t hL hp), thr_r (needPlace_f hL ha)]
  · refine Pair.b0 (c := 1) hI rfl (by decide) ?_ (bad (fun q => hp q.1))
    unfold r_X11_pull
    rw [thr_r (needPlace_f hL hp)]
