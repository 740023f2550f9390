/-! ===== would, course, ditch, told ===== -/
/-- how many are not -1 -/
def cnt (f : Nat → Int32) : Nat → Int32
  | 0 => 0
  | k + 1 => cnt f k + (if f k = -1 then 0 else 1)
theorem cnt_add (f : Nat → Int32) (n : Nat) : ∀ k, cnt f (n + k) = cnt f n + cnt (fun j => f (n + j)) k
  | 0 => (add0 _).symm
  | k + 1 => by
    show cnt f (n + k) + _ = cnt f n + (cnt (fun j => f (n + j)) k + _)
    rw [cnt_add f n k, Int32.add_assoc]
    rfl
theorem cnt_cong {f g : Nat → Int32} : ∀ {n : Nat}, (∀ k, k < n → f k = g k) → cnt f n = cnt g n
  | 0, _ => rfl
  | k + 1, h => by
    unfold cnt
    rw [h k (Nat.lt_succ_self k), cnt_cong (fun j hj => h j (Nat.lt_succ_of_lt hj))]
theorem ix12 (q b : Nat) : (nI q * 12) + nI b = nI (12 * q + b) := by
  show nI q * nI 12 + nI b = _
  rw [nI_mul, nI_add, Nat.mul_comm]
theorem ix12' (q b : Nat) : (0 + (12 * nI q)) + nI b = nI (12 * q + b) := by
  rw [Int32.zero_add]
  show nI 12 * nI q + nI b = _
  rw [nI_mul, nI_add]
theorem believedBy_eq {m : Mem} {i p : Nat} (hp : p < 8) : r_X7_believedBy i (nI p) m = some (cnt (fun a => m 22 i (12 * p + a)) 12) := by
  apply Tot.eq
  unfold r_X7_believedBy r_X7_believedBy_l4
  rw [tot_bd1]
  refine tot_for (fun k s => s = (cnt (fun a => m 22 i (12 * p + a)) k, nI k)) 12 ?_ ?_ 0 _ (Nat.zero_le _) rfl
  · rintro k s hk rfl
    dsimp only
    unfold r_X7_believedBy_b4 r_X7_believes r_X7_believedBy_j23_c4
    rw [if_neg (show ¬ (12 : Int32) ≤ nI (k) from nI_ge (b := 12) (a := k) (by omega) (by omega)), ix12, if_pos (inb_nI (by omega) (by omega)), clamp_nI (by omega), bd1_s rfl]
    by_cases h : m 22 i (12 * p + k) = -1
    · rw [if_pos h]
      exact tot_some.mpr (by show _ = (cnt _ k + (if m 22 i (12 * p + k) = -1 then 0 else 1), _); rw [if_pos h, add0, nI_succ])
    · rw [if_neg h]
      exact tot_some.mpr (by show _ = (cnt _ k + (if m 22 i (12 * p + k) = -1 then 0 else 1), _); rw [if_neg h, nI_succ])
  · rintro s rfl
    dsimp only
    unfold r_X7_believedBy_b4
    rw [if_pos (by decide), tot_some]
    exact tot_some.mpr rfl
theorem believedInAll_eq {m : Mem} {i N : Nat} (hN : m 7 i 1 = nI N) (h8 : N ≤ 8) : r_X7_believedInAll i m = some (cnt (m 22 i) (12 * N)) := by
  apply Tot.eq
  unfold r_X7_believedInAll r_X7_believedInAll_l4
  rw [tot_bd1]
  refine tot_for (fun k s => s = (cnt (m 22 i) (12 * k), nI k)) N ?_ ?_ 0 _ (Nat.zero_le _) rfl
  · rintro k s hk rfl
    dsimp only
    unfold r_X7_believedInAll_b4
    rw [hN, if_neg (nI_ge hk (by omega)), bd1_s (believedBy_eq (by omega)), tot_some]
    show (_, _) = (_, _)
    rw [nI_succ, Nat.mul_add, cnt_add]
  · rintro s rfl
    dsimp only
    unfold r_X7_believedInAll_b4
    rw [hN, if_pos (nI_le (Nat.le_refl _) (by omega)), tot_some]
    exact tot_some.mpr rfl
theorem believedIn_eq {m : Mem} {i N : Nat} (hN : m 52 0 2 = nI N) (h6 : N ≤ 6) : r_X12_believedIn i m = some (cnt (m 60 i) (12 * N)) := by
  apply Tot.eq
  unfold r_X12_believedIn r_X12_believedIn_l4
  rw [tot_bd1]
  have e12 : 12 * nI N = nI (12 * N) := nI_mul 12 N
  refine tot_for (fun k s => s = (cnt (m 60 i) k, nI k)) (12 * N) ?_ ?_ 0 _ (Nat.zero_le _) rfl
  · rintro k s hk rfl
    dsimp only
    unfold r_X12_believedIn_b4 r_X12_believedIn_j32_c4
    rw [hN, e12, if_neg (nI_ge hk (by omega)), Int32.zero_add, if_pos (inb_nI (by omega) (by omega)), clamp_nI (by omega)]
    by_cases h : m 60 i k = -1
    · rw [if_pos h]
      exact tot_some.mpr (by show _ = (cnt _ k + (if m 60 i k = -1 then 0 else 1), _); rw [if_pos h, nI_succ])
    · rw [if_neg h]
      exact tot_some.mpr (by show _ = (cnt _ k + (if m 60 i k = -1 then 0 else 1), _); rw [if_neg h, nI_succ])
  · rintro s rfl
    dsimp only
    unfold r_X12_believedIn_b4
    rw [hN, e12, if_pos (nI_le (Nat.le_refl _) (by omega)), tot_some]
    exact tot_some.mpr rfl
theorem cnt_st {w : Wd} {r : Rw} {m : Mem} {i : Nat} (hS : StC w r m i) : cnt (m 22 i) (12 * wN w) = cnt r (12 * wN w) := by
  refine cnt_cong (fun k hk => ?_)
  have h := hS.2.2.2.1 (k / 12) (k % 12) (by omega) (Nat.mod_lt _ (by decide))
  rw [Nat.div_add_mod] at h
  exact h
/-- the reference, where it isn't refused: its own world, rows and fields -/
theorem pre3 {m m3 : Mem} {K J : List (Nat × Nat)} (hF : Fj K J m m3) (hK : ∀ q ∈ K, q.1 ∉ [12, 52, 54, 63, 67, 73]) (hJ : ∀ q ∈ J, q.1 ∉ [52, 54, 63, 67, 73] ∧ ¬ q = (12, 21)) (hK2 : ∀ q ∈ K, ¬ q.1 = 60) (hJ2 : ∀ q ∈ J, ¬ q.1 = 60) : mW (wr m3 12 0 0 0) = mW m ∧ ∀ i, wr m3 12 0 0 0 60 i = m 60 i := by
  refine ⟨by rw [mW_th, mW_fj hF hK hJ], fun i => ?_⟩
  rw [th_row m3 0 (by decide)]
  exact hF.rw' 60 i (fun q hq e => hK2 q hq (by rw [e])) hJ2
theorem pair_course {m : Mem} (hI : Inv m) (x : Int32) : Pair (fun m => r_L_course x m) (fun m => r_X12_course x m) m := by
  obtain ⟨hW, hR, hL, hC, hS⟩ := hI.1
  have hP := hW.1.2
  have hf := FF_of hW (m 60 0)
  have hle := cln_le hf
  by_cases hx : 0 ≤ x
  · have hx2 : ¬ x < 0 := fun e => lt_iff.mp e hx
    refine Pair.ok (z := if nI (cL (mW m) (m 60 0)) ≤ x then -1 else cP (mW m) (m 60 0) x.toNatClampNeg) [(33, 0), (35, 0), (38, 0)] [(6, 3), (6, 4)] [(55, 0), (56, 0), (57, 0), (58, 0)] [(12, 0), (12, 42)] hI ?_ ?_ rfl rfl rfl rfl rfl rfl
    · unfold r_X11_course r_X11_course_j10
      rw [if_neg hx2, thr_l (show r_X11_need 1 m = some (Sum.inl (), m) from rfl), tot_bd1]
      refine (trace_tot hW hL hC hS).mono ?_
      rintro m1 ⟨h1, h2, h3, h4⟩
      rw [h1]
      by_cases hc : nI (cL (mW m) (m 60 0)) ≤ x
      · rw [if_pos hc, if_pos hc]
        exact tot_some.mpr ⟨rfl, h4⟩
      · rw [if_neg hc, if_neg hc]
        obtain ⟨k, hk, rfl⟩ := in_of (n := cL (mW m) (m 60 0)) (by show cln _ _ ≤ _; omega) ⟨hx, lt_iff.mpr hc⟩
        have hk12 : k < 12 := by have : k < cln (nxt (mW m) (m 60 0)) (spr (mW m)) := hk; omega
        rw [if_pos (inb_nI (by omega) (by omega)), clamp_nI (by omega), h3 k hk]
        exact tot_some.mpr ⟨rfl, h4⟩
    · intro m3 hI3 hF
      obtain ⟨e, h60⟩ := pre3 hF (by decide) (by decide) (by decide) (by decide)
      unfold r_X12_course r_X12_course_j15
      rw [if_pos hx, bd2_s bad_0, if_neg (by decide), tot_bd2]
      refine (courseOf_tot (i := 0) (by rw [e]; exact hW)).mono ?_
      rintro ⟨z, m4⟩ ⟨h1, h2, h3, h4, h5⟩
      dsimp only at h1 h2 h3 h4 h5 ⊢
      rw [e, h60] at h1 h2 h3 h4
      have hF5 := ((th_fj m3 0).mono (K' := [(55, 0), (56, 0), (57, 0), (58, 0)]) (J' := [(12, 0), (12, 42)]) (by simp) (by simp)).tr (h5.mono (by simp) (by simp))
      have ht : m4 12 0 0 = 0 := (h5 12 0 0 (by decide) (by decide)).trans (th_z m3 0)
      simp only [h2]
      by_cases hc : nI (cL (mW m) (m 60 0)) ≤ x
      · rw [if_pos hc, if_pos hc]
        exact tot_some.mpr ⟨rfl, ht, hF5⟩
      · rw [if_neg hc, if_neg hc]
        obtain ⟨k, hk, rfl⟩ := in_of (n := cL (mW m) (m 60 0)) (by show cln _ _ ≤ _; omega) ⟨hx, lt_iff.mpr hc⟩
        have hk12 : k < 12 := by have : k < cln (nxt (mW m) (m 60 0)) (spr (mW m)) := hk; omega
        rw [if_pos (inb_nI (by omega) (by omega)), clamp_nI (by omega), h3 k hk]
        exact tot_some.mpr ⟨rfl, ht, hF5⟩
  · refine Pair.b1 (c := 1) hI rfl (by decide) ?_ (fun m3 _ _ => ?_)
    · unfold r_X11_course r_X11_course_j10
      rw [if_pos (lt_iff.mpr hx), thr_r (show r_X11_need 0 m = some (Sum.inr 1, wr m 11 0 16 (m 11 0 16 + 1)) from rfl)]
    · unfold r_X12_course r_X12_course_j15
      rw [if_neg hx, bd2_s (bad_11 (by decide)), if_pos rfl]
theorem pair_would {m : Mem} (hI : Inv m) (x1 x2 x3 x4 x5 x6 x7 x8 x9 : Int32) : Pair (fun m => r_L_would x1 x2 x3 x4 x5 x6 x7 x8 x9 m) (fun m => r_X12_would x1 x2 x3 x4 x5 x6 x7 x8 x9 m) m := by
  obtain ⟨hW, hR, hL, hC, hS⟩ := hI.1
  have j : ∀ m3, r_X12_would_j105 x1 x2 x3 x4 x5 x6 x7 x8 x9 (wr m3 12 0 0 0) = some (0, badm m3 1 1) := by
    intro m3
    unfold r_X12_would_j105 r_X12_would_j110
    rw [bd2_s (bad_11 (by decide)), if_pos rfl]
  by_cases h1 : (-60) ≤ x1 ∧ x1 ≤ 60
  case neg =>
    refine Pair.b1 (c := 1) hI rfl (by decide) ?_ (fun m3 _ _ => ?_)
    · unfold r_X11_would
      rw [thr_r (needRange_f h1)]
    · unfold r_X12_would
      rw [if_neg (by rw [in_f h1]; decide)]
      exact j m3
  by_cases h2 : 0 ≤ x2 ∧ x2 ≤ 54
  case neg =>
    refine Pair.b1 (c := 1) hI rfl (by decide) ?_ (fun m3 _ _ => ?_)
    · unfold r_X11_would
      rw [thr_l (needRange_t h1), thr_r (needRange_f h2)]
    · unfold r_X12_would
      rw [if_pos (in_t h1), if_neg (by rw [in_f h2]; decide)]
      exact j m3
  by_cases h3 : 0 ≤ x3 ∧ x3 ≤ 54
  case neg =>
    refine Pair.b1 (c := 1) hI rfl (by decide) ?_ (fun m3 _ _ => ?_)
    · unfold r_X11_would
      rw [thr_l (needRange_t h1), thr_l (needRange_t h2), thr_r (needRange_f h3)]
    · unfold r_X12_would
      rw [if_pos (in_t h1), if_pos (in_t h2), if_neg (by rw [in_f h3]; decide)]
      exact j m3
  by_cases h4 : 0 ≤ x4 ∧ x4 ≤ 6
  case neg =>
    refine Pair.b1 (c := 1) hI rfl (by decide) ?_ (fun m3 _ _ => ?_)
    · unfold r_X11_would
      rw [thr_l (needRange_t h1), thr_l (needRange_t h2), thr_l (needRange_t h3), thr_r (needRange_f h4)]
    · unfold r_X12_would
      rw [if_pos (in_t h1), if_pos (in_t h2), if_pos (in_t h3), if_neg (by rw [in_f h4]; decide)]
      exact j m3
  by_cases h5 : 0 ≤ x5 ∧ x5 ≤ 9
  case neg =>
    refine Pair.b1 (c := 1) hI rfl (by decide) ?_ (fun m3 _ _ => ?_)
    · unfold r_X11_would
      rw [thr_l (needRange_t h1), thr_l (needRange_t h2), thr_l (needRange_t h3), thr_l (needRange_t h4), thr_r (needRange_f h5)]
    · unfold r_X12_would
      rw [if_pos (in_t h1), if_pos (in_t h2), if_pos (in_t h3), if_pos (in_t h4), if_neg (by rw [in_f h5]; decide)]
      exact j m3
  by_cases h6 : 0 ≤ x6 ∧ x6 ≤ 999
  case neg =>
    refine Pair.b1 (c := 1) hI rfl (by decide) ?_ (fun m3 _ _ => ?_)
    · unfold r_X11_would
      rw [thr_l (needRange_t h1), thr_l (needRange_t h2), thr_l (needRange_t h3), thr_l (needRange_t h4), thr_l (needRange_t h5), thr_r (needRange_f h6)]
    · unfold r_X12_would
      rw [if_pos (in_t h1), if_pos (in_t h2), if_pos (in_t h3), if_pos (in_t h4), if_pos (in_t h5), if_neg (by rw [in_f h6]; decide)]
      exact j m3
  by_cases h7 : 0 ≤ x7 ∧ x7 ≤ 500
  case neg =>
    refine Pair.b1 (c := 1) hI rfl (by decide) ?_ (fun m3 _ _ => ?_)
    · unfold r_X11_would
      rw [thr_l (needRange_t h1), thr_l (needRange_t h2), thr_l (needRange_t h3), thr_l (needRange_t h4), thr_l (needRange_t h5), thr_l (needRange_t h6), thr_r (needRange_f h7)]
    · unfold r_X12_would
      rw [if_pos (in_t h1), if_pos (in_t h2), if_pos (in_t h3), if_pos (in_t h4), if_pos (in_t h5), if_pos (in_t h6), if_neg (by rw [in_f h7]; decide)]
      exact j m3
  by_cases h8 : 0 ≤ x8 ∧ x8 ≤ 11
  case neg =>
    refine Pair.b1 (c := 1) hI rfl (by decide) ?_ (fun m3 _ _ => ?_)
    · unfold r_X11_would
      rw [thr_l (needRange_t h1), thr_l (needRange_t h2), thr_l (needRange_t h3), thr_l (needRange_t h4), thr_l (needRange_t h5), thr_l (needRange_t h6), thr_l (needRange_t h7), thr_r (needRange_f h8)]
    · unfold r_X12_would
      rw [if_pos (in_t h1), if_pos (in_t h2), if_pos (in_t h3), if_pos (in_t h4), if_pos (in_t h5), if_pos (in_t h6), if_pos (in_t h7), if_neg (by rw [in_f h8]; decide)]
      exact j m3
  by_cases h9 : 0 ≤ x9 ∧ x9 ≤ 11
  case neg =>
    refine Pair.b1 (c := 1) hI rfl (by decide) ?_ (fun m3 _ _ => ?_)
    · unfold r_X11_would
      rw [thr_l (needRange_t h1), thr_l (needRange_t h2), thr_l (needRange_t h3), thr_l (needRange_t h4), thr_l (needRange_t h5), thr_l (needRange_t h6), thr_l (needRange_t h7), thr_l (needRange_t h8), thr_r (needRange_f h9)]
    · unfold r_X12_would
      rw [if_pos (in_t h1), if_pos (in_t h2), if_pos (in_t h3), if_pos (in_t h4), if_pos (in_t h5), if_pos (in_t h6), if_pos (in_t h7), if_pos (in_t h8), if_neg (by rw [in_f h9]; decide)]
      exact j m3
  refine Pair.ok (z := lawv (wn (mW m)) (mW m 5) (mW m 6) (kns x1 x2 x3 x4 x5 x6 x7 x8 x9)) [(33, 0), (35, 0)] [] [(55, 0), (56, 0)] [(12, 0)] hI ?_ ?_ rfl rfl rfl rfl rfl rfl
  · unfold r_X11_would
    rw [thr_l (needRange_t h1), thr_l (needRange_t h2), thr_l (needRange_t h3), thr_l (needRange_t h4), thr_l (needRange_t h5), thr_l (needRange_t h6), thr_l (needRange_t h7), thr_l (needRange_t h8), thr_l (needRange_t h9), tot_bd2]
    have hF : Fr [(33, 0)] m (wr (wr (wr (wr (wr (wr (wr (wr (wr m 33 0 0 x1) 33 0 1 x2) 33 0 2 x3) 33 0 3 x4) 33 0 4 x5) 33 0 5 x6) 33 0 6 x7) 33 0 7 x8) 33 0 8 x9) := ((((((((Fr.rf.wr (by decide) _ _).wr (by decide) _ _).wr (by decide) _ _).wr (by decide) _ _).wr (by decide) _ _).wr (by decide) _ _).wr (by decide) _ _).wr (by decide) _ _).wr (by decide) _ _
    refine (drawOf_tot (n := wn (mW m)) (cw := mW m 5) (cv := mW m 6) (hC.fr (hF 4 0 (by decide)) (hF 34 0 (by decide))) hW.2.2.2.2.2.1).mono ?_
    intro r hr
    exact tot_some.mpr ⟨congrArg Sum.inl (hr.1.trans (lawv_cong hW.2.2.2.2.2.1 (nine (by simp [wr, kns]) (by simp [wr, kns]) (by simp [wr, kns]) (by simp [wr, kns]) (by simp [wr, kns]) (by simp [wr, kns]) (by simp [wr, kns]) (by simp [wr, kns]) (by simp [wr, kns])))), ((hF.mono (by simp)).tr (hr.2.mono (by simp))).j⟩
  · intro m3 hI3 hF
    obtain ⟨e, h60⟩ := pre3 hF (by decide) (by decide) (by decide) (by decide)
    have hW3 : WF (mW (wr m3 12 0 0 0)) := by rw [e]; exact hW
    unfold r_X12_would r_X12_would_j110
    rw [if_pos (in_t h1), if_pos (in_t h2), if_pos (in_t h3), if_pos (in_t h4), if_pos (in_t h5), if_pos (in_t h6), if_pos (in_t h7), if_pos (in_t h8), if_pos (in_t h9), bd2_s bad_0, if_neg (by decide), tot_bd2]
    refine (drawBy_tot (n := wn (mW m)) (by rw [← e]; exact hW3.2.2.2.2.1) (by rw [e]; exact hW.2.2.2.2.2.1)).mono ?_
    rintro ⟨z, m4⟩ ⟨g1, g2⟩
    dsimp only at g1 g2 ⊢
    rw [e] at g1
    refine tot_some.mpr ⟨g1, ?_, ((th_fj m3 0).mono (by simp) (by simp)).tr g2.j⟩
    show m4 12 0 0 = 0
    rw [g2 12 0 (by decide)]
    exact th_z m3 0
