/-! ===== ditch, told ===== -/
theorem pair_ditch {m : Mem} (hI : Inv m) (x y : Int32) : Pair (fun m => r_L_ditch x y m) (fun m => r_X12_ditch x y m) m := by
  obtain ⟨hW, hR, hL, hC, hS⟩ := hI.1
  have hD := hW.2.1
  by_cases hx : 0 ≤ x ∧ x < nI (wD (mW m))
  case neg =>
    refine Pair.b0 (c := 1) hI rfl (by decide) ?_ (fun m3 e h3 => ?_)
    · unfold r_X11_ditch
      rw [thr_r (needMember_f (by rw [hL.2.1, hD.1]; exact hx))]
    · unfold r_X12_ditch r_X12_ditch_j27
      rw [h3 52 0 (by decide), show m 52 0 1 = nI (wD (mW m)) from hD.1, if_neg (by rw [in_f (fun q => hx ((below (by omega)).mp q))]; decide), bd2_s (bad_10 (by decide)), if_pos rfl]
  have hx1 : r_X11_needMember x (m 3 0 1) m = some (Sum.inl (), m) := needMember_t (by rw [hL.2.1, hD.1]; exact hx)
  have hx2 : r_X12_in x 0 (nI (wD (mW m)) - 1) = true := in_t ((below (by omega)).mpr hx)
  by_cases hy : 0 ≤ y ∧ y ≤ 3
  case neg =>
    refine Pair.b1 (c := 2) hI rfl (by decide) ?_ (fun m3 e h3 => ?_)
    · unfold r_X11_ditch
      rw [thr_l hx1, thr_r (needRange_f hy)]
    · unfold r_X12_ditch r_X12_ditch_j27 r_X12_ditch_j50
      rw [h3 52 0 (by decide), show m 52 0 1 = nI (wD (mW m)) from hD.1, if_pos hx2, bd2_s bad_0, if_neg (by decide), if_neg (by rw [in_f hy]; decide), bd2_s (bad_11 (by decide)), if_pos rfl]
  obtain ⟨e, he, rfl⟩ := in_of (by omega) hx
  obtain ⟨k, hk, rfl⟩ := in_le (n := 3) (by decide) hy
  refine Pair.ok (z := if k = 0 then m 63 e 0 else if k = 1 then m 63 e 1 else if k = 2 then m 60 0 (78 + e) else m 60 0 (94 + e)) [] [] [] [(12, 0)] hI ?_ ?_ rfl rfl rfl rfl rfl rfl
  · unfold r_X11_ditch
    rw [thr_l hx1, thr_l (needRange_t hy), clamp_nI (by omega)]
    simp only [if_pos (inb_nI (show e < 16 by omega) (by omega)), (hL.2.2.2.2.2.1 e he).1, (hL.2.2.2.2.2.1 e he).2, (hS.2.2.2.2 e (by omega)).1, (hS.2.2.2.2 e (by omega)).2]
    match k, hk with
    | 0, _ => exact tot_some.mpr ⟨rfl, Fj.rf⟩
    | 1, _ => exact tot_some.mpr ⟨rfl, Fj.rf⟩
    | 2, _ => exact tot_some.mpr ⟨rfl, Fj.rf⟩
    | 3, _ => exact tot_some.mpr ⟨rfl, Fj.rf⟩
  · intro m3 hI3 hF
    have h63 : m3 63 e = m 63 e := hF.rw' 63 e (by simp) (by simp)
    have h52 : m3 52 0 = m 52 0 := hF.rw' 52 0 (by decide) (by simp)
    have h60 : m3 60 0 = m 60 0 := hF.rw' 60 0 (by decide) (by simp)
    unfold r_X12_ditch r_X12_ditch_j27 r_X12_ditch_j50
    rw [h52, show m 52 0 1 = nI (wD (mW m)) from hD.1, if_pos hx2, bd2_s bad_0, if_neg (by decide), if_pos (in_t hy), bd2_s bad_0, if_neg (by decide), show 78 + nI e = nI (78 + e) from nI_add 78 e, show 94 + nI e = nI (94 + e) from nI_add 94 e, if_pos (inb_nI (by omega) (by omega)), if_pos (inb_nI (by omega) (by omega)), if_pos (inb_nI (by omega) (by omega)), clamp_nI (by omega), clamp_nI (by omega), clamp_nI (by omega), th_row m3 0 (by decide), th_row m3 0 (by decide), h63, h60]
    match k, hk with
    | 0, _ => exact tot_some.mpr ⟨rfl, th_z m3 0, th_fj m3 0⟩
    | 1, _ => exact tot_some.mpr ⟨rfl, th_z m3 0, th_fj m3 0⟩
    | 2, _ => exact tot_some.mpr ⟨rfl, th_z m3 0, th_fj m3 0⟩
    | 3, _ => exact tot_some.mpr ⟨rfl, th_z m3 0, th_fj m3 0⟩
set_option maxHeartbeats 1000000 in
theorem pair_told {m : Mem} (hI : Inv m) (x : Int32) : Pair (fun m => r_L_told x m) (fun m => r_X12_told x m) m := by
  obtain ⟨hW, hR, hL, hC, hS⟩ := hI.1
  obtain ⟨bk, -, bk1, bk2, -⟩ := hI.2.2.2.2.1
  have hrs : m 11 0 14 = m 12 0 37 := hI.2.2.2.2.2.1.2.2
  have hN := hW.2.2.1
  by_cases hx : 0 ≤ x ∧ x ≤ 10
  case neg =>
    refine Pair.b1 (c := 1) hI rfl (by decide) ?_ (fun m3 e h3 => ?_)
    · unfold r_X11_told
      rw [thr_r (needRange_f hx)]
    · unfold r_X12_told r_X12_told_j21
      rw [if_neg (by rw [in_f hx]; decide), bd2_s (bad_11 (by decide)), if_pos rfl]
  obtain ⟨k, hk, rfl⟩ := in_le (n := 10) (by decide) hx
  have crs : ∀ x : Int32, ∀ z : Int32, (∀ m1 : Mem, m1 6 0 3 = nI (cL (mW m) (m 60 0)) → m1 6 0 4 = cB (mW m) (m 60 0) → r_X6_end m1 = some (cE (mW m) (m 60 0)) → (if x = 5 then (some ((m1 6 0 3), m1)) else if x = 6 then (some ((m1 6 0 4), m1)) else (bd1 (r_X6_end m1) fun z6 => (some (z6, m1)))) = some (z, m1)) → Tot (bd2 (r_X11_toldOfCourse x m) fun z12 m11 => (some (Sum.inl z12, m11) : Option ((Int32 ⊕ Nat) × Mem))) (fun q => q.1 = Sum.inl z ∧ Fj [(33, 0), (35, 0), (38, 0)] [(6, 3), (6, 4)] m q.2) := by
    intro x z hz
    unfold r_X11_toldOfCourse
    rw [tot_bd2, tot_bd1]
    refine (trace_tot hW hL hC hS).mono ?_
    rintro m1 ⟨h1, h2, h3, h4⟩
    rw [hz m1 h1 h2 (end_tot hW h1 h3)]
    exact tot_some.mpr (tot_some.mpr ⟨rfl, h4⟩)
  have mdl : ∀ x z : Int32, 0 ≤ x ∧ x ≤ 10 → ∀ m3, Fj [(92, 0), (33, 0), (35, 0), (38, 0)] [(6, 3), (6, 4)] m m3 → (∀ (z8 : Int32) (m7 : Mem), z8 = cB (mW m) (m 60 0) → m7 12 0 42 = nI (cL (mW m) (m 60 0)) → m7 52 0 = m 52 0 → m7 60 0 = m 60 0 → m7 12 0 35 = m 12 0 35 → m7 12 0 37 = m 12 0 37 → mW m7 = mW m → Tot (if x = 0 then (if inb x 4 = true then (some ((m7 52 0 x.toNatClampNeg), m7)) else none) else if x = 1 then (if inb x 4 = true then (some ((m7 52 0 x.toNatClampNeg), m7)) else none) else if x = 2 then (if inb x 4 = true then (some ((m7 52 0 x.toNatClampNeg), m7)) else none) else if x = 3 then (some ((m7 60 0 110), m7)) else if x = 4 then (some ((m7 52 0 3), m7)) else if x = 5 then (some ((m7 12 0 42), m7)) else if x = 6 then (some (z8, m7)) else if x = 7 then (bd2 (r_X12_endOf 0 m7) fun z22 m21 => (some (z22, m21))) else if x = 8 then (bd1 (r_X12_believedIn 0 m7) fun z25 => (some (z25, m7))) else if x = 9 then (some ((m7 12 0 35), m7)) else (some ((m7 12 0 37), m7))) (fun p => p.1 = z ∧ Fj [(55, 0), (56, 0), (57, 0), (58, 0)] [(12, 42)] m7 p.2)) → Tot (r_X12_told x m3) (fun p => p.1 = z ∧ p.2 12 0 0 = 0 ∧ Fj [(55, 0), (56, 0), (57, 0), (58, 0)] [(12, 0), (12, 42)] m3 p.2) := by
    intro x z hx m3 hF hz
    obtain ⟨e, h60⟩ := pre3 hF (by decide) (by decide) (by decide) (by decide)
    have hW3 : WF (mW (wr m3 12 0 0 0)) := by rw [e]; exact hW
    unfold r_X12_told r_X12_told_j21
    rw [if_pos (in_t hx), bd2_s bad_0, if_neg (by decide), tot_bd2]
    refine (courseOf_tot (i := 0) hW3).mono ?_
    rintro ⟨z8, m4⟩ ⟨h1, h2, h3, h4, h5⟩
    dsimp only at h1 h2 h3 h4 h5 ⊢
    rw [e, h60] at h1 h2 h3 h4
    have hF5 := ((th_fj m3 0).mono (K' := [(55, 0), (56, 0), (57, 0), (58, 0)]) (J' := [(12, 0), (12, 42)]) (by simp) (by simp)).tr (h5.mono (by simp) (by simp))
    have ht : m4 12 0 0 = 0 := (h5 12 0 0 (by decide) (by decide)).trans (th_z m3 0)
    refine (hz z8 m4 h1 h2 ((hF5.rw' 52 0 (by decide) (by decide)).trans (hF.rw' 52 0 (by decide) (by decide))) ((hF5.rw' 60 0 (by decide) (by decide)).trans (hF.rw' 60 0 (by decide) (by decide))) ((hF5 12 0 35 (by decide) (by decide)).trans (hF 12 0 35 (by decide) (by decide))) ((hF5 12 0 37 (by decide) (by decide)).trans (hF 12 0 37 (by decide) (by decide))) ((mW_fj hF5 (by decide) (by decide)).trans (mW_fj hF (by decide) (by decide)))).mono ?_
    rintro ⟨z9, m9⟩ ⟨i1, i2⟩
    exact ⟨i1, (i2 12 0 0 (by decide) (by decide)).trans ht, hF5.tr (i2.mono (by simp) (by simp))⟩
  match k, hk with
  | 0, _ =>
    refine Pair.ok (z := m 52 0 0) [(33, 0), (35, 0), (38, 0)] [(6, 3), (6, 4)] [(55, 0), (56, 0), (57, 0), (58, 0)] [(12, 0), (12, 42)] hI ?_ (fun m3 _ hF => mdl (nI 0) _ hx m3 hF ?_) rfl rfl rfl rfl rfl rfl
    · unfold r_X11_told
      rw [thr_l (needRange_t hx), if_pos (by decide)]
      exact tot_some.mpr ⟨congrArg Sum.inl hL.1, Fj.rf⟩
    · intro z8 m7 h1 h2 h52 h60 h35 h37 hw
      rw [if_pos (by decide)]
      rw [if_pos (by decide), h52]
      exact tot_some.mpr ⟨rfl, Fj.rf⟩
  | 1, _ =>
    refine Pair.ok (z := m 52 0 1) [(33, 0), (35, 0), (38, 0)] [(6, 3), (6, 4)] [(55, 0), (56, 0), (57, 0), (58, 0)] [(12, 0), (12, 42)] hI ?_ (fun m3 _ hF => mdl (nI 1) _ hx m3 hF ?_) rfl rfl rfl rfl rfl rfl
    · unfold r_X11_told
      rw [thr_l (needRange_t hx), if_neg (by decide), if_pos (by decide)]
      exact tot_some.mpr ⟨congrArg Sum.inl hL.2.1, Fj.rf⟩
    · intro z8 m7 h1 h2 h52 h60 h35 h37 hw
      rw [if_neg (by decide), if_pos (by decide)]
      rw [if_pos (by decide), h52]
      exact tot_some.mpr ⟨rfl, Fj.rf⟩
  | 2, _ =>
    refine Pair.ok (z := m 52 0 2) [(33, 0), (35, 0), (38, 0)] [(6, 3), (6, 4)] [(55, 0), (56, 0), (57, 0), (58, 0)] [(12, 0), (12, 42)] hI ?_ (fun m3 _ hF => mdl (nI 2) _ hx m3 hF ?_) rfl rfl rfl rfl rfl rfl
    · unfold r_X11_told
      rw [thr_l (needRange_t hx), if_neg (by decide), if_neg (by decide), if_pos (by decide)]
      exact tot_some.mpr ⟨congrArg Sum.inl hL.2.2.1, Fj.rf⟩
    · intro z8 m7 h1 h2 h52 h60 h35 h37 hw
      rw [if_neg (by decide), if_neg (by decide), if_pos (by decide)]
      rw [if_pos (by decide), h52]
      exact tot_some.mpr ⟨rfl, Fj.rf⟩
  | 3, _ =>
    refine Pair.ok (z := m 60 0 110) [(33, 0), (35, 0), (38, 0)] [(6, 3), (6, 4)] [(55, 0), (56, 0), (57, 0), (58, 0)] [(12, 0), (12, 42)] hI ?_ (fun m3 _ hF => mdl (nI 3) _ hx m3 hF ?_) rfl rfl rfl rfl rfl rfl
    · unfold r_X11_told
      rw [thr_l (needRange_t hx), if_neg (by decide), if_neg (by decide), if_neg (by decide), if_pos (by decide)]
      exact tot_some.mpr ⟨congrArg Sum.inl hS.1, Fj.rf⟩
    · intro z8 m7 h1 h2 h52 h60 h35 h37 hw
      rw [if_neg (by decide), if_neg (by decide), if_neg (by decide), if_pos (by decide)]
      rw [h60]
      exact tot_some.mpr ⟨rfl, Fj.rf⟩
  | 4, _ =>
    refine Pair.ok (z := m 52 0 3) [(33, 0), (35, 0), (38, 0)] [(6, 3), (6, 4)] [(55, 0), (56, 0), (57, 0), (58, 0)] [(12, 0), (12, 42)] hI ?_ (fun m3 _ hF => mdl (nI 4) _ hx m3 hF ?_) rfl rfl rfl rfl rfl rfl
    · unfold r_X11_told
      rw [thr_l (needRange_t hx), if_neg (by decide), if_neg (by decide), if_neg (by decide), if_neg (by decide), if_pos (by decide)]
      exact tot_some.mpr ⟨congrArg Sum.inl hL.2.2.2.1, Fj.rf⟩
    · intro z8 m7 h1 h2 h52 h60 h35 h37 hw
      rw [if_neg (by decide), if_neg (by decide), if_neg (by decide), if_neg (by decide), if_pos (by decide)]
      rw [h52]
      exact tot_some.mpr ⟨rfl, Fj.rf⟩
  | 5, _ =>
    refine Pair.ok (z := nI (cL (mW m) (m 60 0))) [(33, 0), (35, 0), (38, 0)] [(6, 3), (6, 4)] [(55, 0), (56, 0), (57, 0), (58, 0)] [(12, 0), (12, 42)] hI ?_ (fun m3 _ hF => mdl (nI 5) _ hx m3 hF ?_) rfl rfl rfl rfl rfl rfl
    · unfold r_X11_told
      rw [thr_l (needRange_t hx), if_neg (by decide), if_neg (by decide), if_neg (by decide), if_neg (by decide), if_neg (by decide), if_pos (by decide)]
      exact crs (nI 5) _ (fun m1 h1 h2 h3 => by rw [if_pos (by decide), h1])
    · intro z8 m7 h1 h2 h52 h60 h35 h37 hw
      rw [if_neg (by decide), if_neg (by decide), if_neg (by decide), if_neg (by decide), if_neg (by decide), if_pos (by decide)]
      rw [h2]
      exact tot_some.mpr ⟨rfl, Fj.rf⟩
  | 6, _ =>
    refine Pair.ok (z := cB (mW m) (m 60 0)) [(33, 0), (35, 0), (38, 0)] [(6, 3), (6, 4)] [(55, 0), (56, 0), (57, 0), (58, 0)] [(12, 0), (12, 42)] hI ?_ (fun m3 _ hF => mdl (nI 6) _ hx m3 hF ?_) rfl rfl rfl rfl rfl rfl
    · unfold r_X11_told
      rw [thr_l (needRange_t hx), if_neg (by decide), if_neg (by decide), if_neg (by decide), if_neg (by decide), if_neg (by decide), if_neg (by decide), if_pos (by decide)]
      exact crs (nI 6) _ (fun m1 h1 h2 h3 => by rw [if_neg (by decide), if_pos (by decide), h2])
    · intro z8 m7 h1 h2 h52 h60 h35 h37 hw
      rw [if_neg (by decide), if_neg (by decide), if_neg (by decide), if_neg (by decide), if_neg (by decide), if_neg (by decide), if_pos (by decide)]
      exact tot_some.mpr ⟨h1, Fj.rf⟩
  | 7, _ =>
    refine Pair.ok (z := cE (mW m) (m 60 0)) [(33, 0), (35, 0), (38, 0)] [(6, 3), (6, 4)] [(55, 0), (56, 0), (57, 0), (58, 0)] [(12, 0), (12, 42)] hI ?_ (fun m3 _ hF => mdl (nI 7) _ hx m3 hF ?_) rfl rfl rfl rfl rfl rfl
    · unfold r_X11_told
      rw [thr_l (needRange_t hx), if_neg (by decide), if_neg (by decide), if_neg (by decide), if_neg (by decide), if_neg (by decide), if_neg (by decide), if_neg (by decide), if_pos (by decide)]
      exact crs (nI 7) _ (fun m1 h1 h2 h3 => by rw [if_neg (by decide), if_neg (by decide), bd1_s h3])
    · intro z8 m7 h1 h2 h52 h60 h35 h37 hw
      rw [if_neg (by decide), if_neg (by decide), if_neg (by decide), if_neg (by decide), if_neg (by decide), if_neg (by decide), if_neg (by decide), if_pos (by decide)]
      rw [tot_bd2]
      refine (endOf_tot (i := 0) (by rw [hw]; exact hW)).mono ?_
      rintro ⟨z9, m9⟩ ⟨i1, i2⟩
      rw [hw, h60] at i1
      exact tot_some.mpr ⟨i1, i2⟩
  | 8, _ =>
    refine Pair.ok (z := cnt (m 60 0) (12 * wN (mW m))) [(33, 0), (35, 0), (38, 0)] [(6, 3), (6, 4)] [(55, 0), (56, 0), (57, 0), (58, 0)] [(12, 0), (12, 42)] hI ?_ (fun m3 _ hF => mdl (nI 8) _ hx m3 hF ?_) rfl rfl rfl rfl rfl rfl
    · unfold r_X11_told
      rw [thr_l (needRange_t hx), if_neg (by decide), if_neg (by decide), if_neg (by decide), if_neg (by decide), if_neg (by decide), if_neg (by decide), if_neg (by decide), if_neg (by decide), if_pos (by decide)]
      rw [bd1_s (believedInAll_eq (N := wN (mW m)) (hS.2.1.trans hN.1) (by omega)), cnt_st hS]
      exact tot_some.mpr ⟨rfl, Fj.rf⟩
    · intro z8 m7 h1 h2 h52 h60 h35 h37 hw
      rw [if_neg (by decide), if_neg (by decide), if_neg (by decide), if_neg (by decide), if_neg (by decide), if_neg (by decide), if_neg (by decide), if_neg (by decide), if_pos (by decide)]
      rw [bd1_s (believedIn_eq (N := wN (mW m)) (by rw [h52]; exact hN.1) hN.2), h60]
      exact tot_some.mpr ⟨rfl, Fj.rf⟩
  | 9, _ =>
    refine Pair.ok (z := m 12 0 35) [(33, 0), (35, 0), (38, 0)] [(6, 3), (6, 4)] [(55, 0), (56, 0), (57, 0), (58, 0)] [(12, 0), (12, 42)] hI ?_ (fun m3 _ hF => mdl (nI 9) _ hx m3 hF ?_) rfl rfl rfl rfl rfl rfl
    · unfold r_X11_told
      rw [thr_l (needRange_t hx), if_neg (by decide), if_neg (by decide), if_neg (by decide), if_neg (by decide), if_neg (by decide), if_neg (by decide), if_neg (by decide), if_neg (by decide), if_neg (by decide), if_pos (by decide)]
      exact tot_some.mpr ⟨congrArg Sum.inl (bk1.trans bk2.symm), Fj.rf⟩
    · intro z8 m7 h1 h2 h52 h60 h35 h37 hw
      rw [if_neg (by decide), if_neg (by decide), if_neg (by decide), if_neg (by decide), if_neg (by decide), if_neg (by decide), if_neg (by decide), if_neg (by decide), if_neg (by decide), if_pos (by decide)]
      rw [h35]
      exact tot_some.mpr ⟨rfl, Fj.rf⟩
  | 10, _ =>
    refine Pair.ok (z := m 12 0 37) [(33, 0), (35, 0), (38, 0)] [(6, 3), (6, 4)] [(55, 0), (56, 0), (57, 0), (58, 0)] [(12, 0), (12, 42)] hI ?_ (fun m3 _ hF => mdl (nI 10) _ hx m3 hF ?_) rfl rfl rfl rfl rfl rfl
    · unfold r_X11_told
      rw [thr_l (needRange_t hx), if_neg (by decide), if_neg (by decide), if_neg (by decide), if_neg (by decide), if_neg (by decide), if_neg (by decide), if_neg (by decide), if_neg (by decide), if_neg (by decide), if_neg (by decide), if_pos (by decide)]
      exact tot_some.mpr ⟨congrArg Sum.inl hrs, Fj.rf⟩
    · intro z8 m7 h1 h2 h52 h60 h35 h37 hw
      rw [if_neg (by decide), if_neg (by decide), if_neg (by decide), if_neg (by decide), if_neg (by decide), if_neg (by decide), if_neg (by decide), if_neg (by decide), if_neg (by decide), if_neg (by decide)]
      rw [h37]
      exact tot_some.mpr ⟨rfl, Fj.rf⟩
