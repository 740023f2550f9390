/-! ===== ahead ===== -/
def itd (w : Wd) (r : Rw) : Nat → Rw
  | 0 => r
  | k + 1 => dayR w (itd w r k)
theorem itd_er {w : Wd} {r r' : Rw} (hW : WF w) (h : Er r r') : ∀ k, Er (itd w r k) (itd w r' k)
  | 0 => h
  | k + 1 => dayR_er hW (itd_er hW h k)
theorem itd_RF {w : Wd} {r : Rw} (hW : WF w) (hR : RF w r) : ∀ k, RF w (itd w r k)
  | 0 => hR
  | k + 1 => dayR_RF hW (itd_RF hW hR k)
/-- what stands in the class's cells behind a trace of the row r -/
def Trc (w : Wd) (r : Rw) (m : Mem) : Prop := m 6 0 3 = nI (cL w r) ∧ m 6 0 4 = cB w r ∧ ∀ k, k < cL w r → m 38 0 k = cP w r k
abbrev KC : List (Nat × Nat) := [(33, 0), (35, 0), (38, 0), (7, 1), (20, 1), (21, 1), (22, 1), (23, 1), (24, 1)]
abbrev JC : List (Nat × Nat) := [(6, 3), (6, 4)]
abbrev KM : List (Nat × Nat) := [(55, 0), (56, 0), (57, 0), (58, 0), (60, 1)]
abbrev JM : List (Nat × Nat) := [(12, 0), (12, 42)]
theorem ahead_c {w : Wd} {r : Rw} {m : Mem} {n : Nat} (hW : WF w) (hL : CL w m) (hC : CW w m) (hS : StC w r m 0) (hn : n ≤ 99) : Tot (r_X0_traceAhead 0 (nI n) m) (fun m' => StC w (itd w r n) m' 1 ∧ Trc w (itd w r n) m' ∧ Fj KC JC m m') := by
  unfold r_X0_traceAhead
  rw [tot_bd1]
  refine (copyFrom_tot (i0 := 1) (i1 := 0) (by decide)).mono ?_
  rintro m1 ⟨c1, -, -, -, -, -, c2⟩
  have hF1 : Fj KC JC m m1 := (c2.mono (by simp)).j
  rw [tot_bd1]
  refine (trace_tot hW (hL.fj hF1 (by decide) (by decide)) (hC.fj hF1 (by decide) (by decide)) (c1 _ _ hW hS)).mono ?_
  rintro m2 ⟨t1, t2, t3, t4⟩
  have hF2 : Fj KC JC m m2 := hF1.tr (t4.mono (by simp) (by simp))
  have hS2 : StC w r m2 1 := (c1 _ _ hW hS).fj t4 (by decide) (by decide)
  unfold r_X0_traceAhead_l21
  rw [tot_bd1]
  refine tot_for (fun k (s : Int32 × Mem) => s.1 = nI k ∧ StC w (itd w r k) s.2 1 ∧ Trc w (itd w r k) s.2 ∧ Fj KC JC m s.2) n ?_ ?_ 0 _ (Nat.zero_le _) ⟨rfl, hS2, ⟨t1, t2, t3⟩, hF2⟩
  · rintro k ⟨x3, m3⟩ hk ⟨e1, hS3, hT, hF3⟩
    dsimp only at e1 hS3 hT hF3 ⊢
    subst e1
    have hL3 : CL w m3 := hL.fj hF3 (by decide) (by decide)
    have hC3 : CW w m3 := hC.fj hF3 (by decide) (by decide)
    unfold r_X0_traceAhead_b21
    rw [if_neg (nI_ge hk (by omega)), tot_bd1]
    refine (flowOneDay_tot hW hL3 hS3 hT.1 hT.2.2).mono ?_
    rintro m4 ⟨d1, d2⟩
    have hF4 : Fj [(7, 1), (22, 1), (24, 1)] [] m3 m4 := d2.j
    rw [tot_bd1]
    refine (trace_tot hW (hL3.fj hF4 (by decide) (by simp)) (hC3.fj hF4 (by decide) (by simp)) d1).mono ?_
    rintro m5 ⟨u1, u2, u3, u4⟩
    exact tot_some.mpr ⟨(nI_succ k).symm, d1.fj u4 (by decide) (by decide), ⟨u1, u2, u3⟩, (hF3.tr (hF4.mono (by simp) (by simp))).tr (u4.mono (by simp) (by simp))⟩
  · rintro ⟨x3, m3⟩ ⟨e1, hS3, hT, hF3⟩
    dsimp only at e1 hS3 hT hF3 ⊢
    subst e1
    unfold r_X0_traceAhead_b21
    rw [if_pos (nI_le (Nat.le_refl _) (by omega)), tot_some]
    exact tot_some.mpr ⟨hS3, hT, hF3⟩
theorem days_m {m : Mem} {n : Nat} {y : Int32} {r : Rw} (hW : WF (mW m)) (hr : Er (m 60 1) r) (hn : n ≤ 99) : Tot (loopO (fun s => r_X12_ahead_b53 (nI n) y s.1 s.2) (0, m)) (fun m' => Er (m' 60 1) (itd (mW m) r n) ∧ Fj KM [(12, 42)] m m') := by
  refine tot_for (fun k (s : Int32 × Mem) => s.1 = nI k ∧ Er (s.2 60 1) (itd (mW m) r k) ∧ Fj KM [(12, 42)] m s.2) n ?_ ?_ 0 _ (Nat.zero_le _) ⟨rfl, hr, Fj.rf⟩
  · rintro k ⟨x3, m3⟩ hk ⟨e1, hE, hF⟩
    dsimp only at e1 hE hF ⊢
    subst e1
    have fW : mW m3 = mW m := mW_fj hF (by decide) (by decide)
    unfold r_X12_ahead_b53
    rw [if_neg (nI_ge hk (by omega)), tot_bd1]
    refine (dayEnds_tot (i := 1) (by rw [fW]; exact hW)).mono ?_
    rintro m4 ⟨d1, d2⟩
    rw [fW] at d1
    refine tot_some.mpr ⟨(nI_succ k).symm, ?_, hF.tr (d2.mono (by simp) (by simp))⟩
    show Er (m4 60 1) (dayR (mW m) (itd (mW m) r k))
    rw [d1]
    exact dayR_er hW hE
  · rintro ⟨x3, m3⟩ ⟨e1, hE, hF⟩
    dsimp only at e1 hE hF ⊢
    subst e1
    unfold r_X12_ahead_b53
    rw [if_pos (nI_le (Nat.le_refl _) (by omega)), tot_some]
    exact ⟨hE, hF⟩
theorem pair_ahead {m : Mem} (hI : Inv m) (x y : Int32) : Pair (fun m => r_L_ahead x y m) (fun m => r_X12_ahead x y m) m := by
  obtain ⟨hW, hR, hL, hC, hS⟩ := hI.1
  have bad : ∀ m3, r_X12_ahead_j25 x y (wr m3 12 0 0 0) = some (0, badm m3 1 1) := fun m3 => by
    unfold r_X12_ahead_j25 r_X12_ahead_j30
    rw [bd2_s (bad_11 (by decide)), if_pos rfl]
  by_cases hx : 0 ≤ x ∧ x ≤ 99
  case neg =>
    refine Pair.b1 (c := 1) hI rfl (by decide) ?_ (fun m3 e h3 => ?_)
    · unfold r_X11_ahead
      rw [thr_r (needRange_f hx)]
    · unfold r_X12_ahead
      rw [if_neg (by rw [in_f hx]; decide)]
      exact bad m3
  by_cases hy : 0 ≤ y ∧ y ≤ 1
  case neg =>
    refine Pair.b1 (c := 1) hI rfl (by decide) ?_ (fun m3 e h3 => ?_)
    · unfold r_X11_ahead
      rw [thr_l (needRange_t hx), thr_r (needRange_f hy)]
    · unfold r_X12_ahead
      rw [if_pos (in_t hx), if_neg (by rw [in_f hy]; decide)]
      exact bad m3
  obtain ⟨n, hn, rfl⟩ := in_le (n := 99) (by decide) hx
  obtain ⟨k, hk, rfl⟩ := in_le (n := 1) (by decide) hy
  refine Pair.ok (z := if k = 0 then cB (mW m) (itd (mW m) (m 60 0) n) else cE (mW m) (itd (mW m) (m 60 0) n)) KC JC KM JM hI ?_ (fun m3 _ hF => ?_) rfl rfl rfl rfl rfl rfl
  · unfold r_X11_ahead
    rw [thr_l (needRange_t hx), thr_l (needRange_t hy), tot_bd1]
    refine (ahead_c hW hL hC hS hn).mono ?_
    rintro m1 ⟨h1, h2, h3⟩
    match k, hk with
    | 0, _ =>
      rw [if_pos (by decide), if_pos rfl, h2.2.1]
      exact tot_some.mpr ⟨rfl, h3⟩
    | 1, _ =>
      rw [if_neg (by decide), if_neg (by decide), bd1_s (end_tot hW h2.1 h2.2.2)]
      exact tot_some.mpr ⟨rfl, h3⟩
  · obtain ⟨e, h60⟩ := pre3 hF (by decide) (by decide) (by decide) (by decide)
    have hW3 : WF (mW (wr m3 12 0 0 0)) := by rw [e]; exact hW
    unfold r_X12_ahead r_X12_ahead_j30
    rw [if_pos (in_t hx), if_pos (in_t hy), bd2_s bad_0, if_neg (by decide), tot_bd1]
    refine (copies_tot (i0 := 0) (i1 := 1) (by decide)).mono ?_
    rintro m4 ⟨g1, g2⟩
    rw [h60] at g1
    have fW4 : mW m4 = mW m := (mW_fj (J := []) g2.j (by decide) (by simp)).trans e
    have hF4 : Fj KM JM m3 m4 := ((th_fj m3 0).mono (by simp) (by simp)).tr ((g2.mono (by simp)).j)
    have z4 : m4 12 0 0 = 0 := by rw [g2 12 0 (by decide)]; exact th_z m3 0
    unfold r_X12_ahead_l53
    rw [tot_bd1]
    refine (days_m (by rw [fW4]; exact hW) g1 hn).mono ?_
    rintro m5 ⟨i1, i2⟩
    rw [fW4] at i1
    have fW5 : mW m5 = mW m := (mW_fj i2 (by decide) (by decide)).trans fW4
    have hF5 : Fj KM JM m3 m5 := hF4.tr (i2.mono (by simp) (by simp))
    have z5 : m5 12 0 0 = 0 := (i2 12 0 0 (by decide) (by decide)).trans z4
    obtain ⟨q1, q2, q3, q4⟩ := crs_er hW i1
    unfold r_X12_ahead_e72_h53
    match k, hk with
    | 0, _ =>
      rw [if_pos (by decide), if_pos rfl, tot_bd2]
      refine (courseOf_tot (i := 1) (by rw [fW5]; exact hW)).mono ?_
      rintro ⟨z, m6⟩ ⟨j1, j2, j3, j4, j5⟩
      dsimp only at j1 j5 ⊢
      rw [fW5] at j1
      exact tot_some.mpr ⟨j1.trans q2, (j5 12 0 0 (by decide) (by decide)).trans z5, hF5.tr (j5.mono (by simp) (by simp))⟩
    | 1, _ =>
      rw [if_neg (by decide), if_neg (by decide), tot_bd2]
      refine (endOf_tot (i := 1) (by rw [fW5]; exact hW)).mono ?_
      rintro ⟨z, m6⟩ ⟨j1, j5⟩
      dsimp only at j1 j5 ⊢
      rw [fW5] at j1
      exact tot_some.mpr ⟨j1.trans q3, (j5 12 0 0 (by decide) (by decide)).trans z5, hF5.tr (j5.mono (by simp) (by simp))⟩
