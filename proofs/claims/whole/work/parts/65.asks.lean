/-! ===== person, right ===== -/
theorem cnt_0 {f : Nat → Int32} : ∀ {n : Nat}, (∀ k, k < n → f k = -1) → cnt f n = 0
  | 0, _ => rfl
  | k + 1, h => by
    unfold cnt
    rw [h k (Nat.lt_succ_self k), cnt_0 (fun j hj => h j (Nat.lt_succ_of_lt hj)), if_pos rfl]
    rfl
theorem cnt_P {w : Wd} {r : Rw} (hW : WF w) (hR : RF w r) {p : Nat} (hp : p < wN w) : cnt (fun a => r (12 * p + a)) 12 = cnt (fun a => r (12 * p + a)) (wP w) := by
  have hP := hW.1.2
  have e : 12 = wP w + (12 - wP w) := by omega
  have h := cnt_add (fun a => r (12 * p + a)) (wP w) (12 - wP w)
  rw [← e] at h
  rw [h, cnt_0 (f := fun j => r (12 * p + (wP w + j))), add0]
  intro k hk
  rcases hR.2.1 p (wP w + k) hp (by omega) with q | ⟨q, -⟩
  · exact q
  · omega
/-- how many beliefs are right -/
def rgc (w : Wd) (r : Rw) (p : Nat) : Nat → Int32
  | 0 => 0
  | a + 1 => rgc w r p a + (if ¬ r (12 * p + a) = -1 ∧ r (12 * p + a) = nxt w r a then 1 else 0)
set_option maxHeartbeats 1000000 in
theorem rightBeliefs_tot {w : Wd} {r : Rw} {m : Mem} {p : Nat} (hW : WF w) (hL : CL w m) (hC : CW w m) (hS : StC w r m 0) (hp : p < wN w) : Tot (r_X11_rightBeliefs (nI p) m) (fun q => q.1 = rgc w r p (wP w) ∧ Fr [(33, 0), (35, 0)] m q.2) := by
  have hP := hW.1.2
  have hN := hW.2.2.1.2
  unfold r_X11_rightBeliefs r_X11_rightBeliefs_l4
  rw [tot_bd1]
  refine tot_for (fun k s => s.1 = rgc w r p k ∧ s.2.1 = nI k ∧ Fr [(33, 0), (35, 0)] m s.2.2) (wP w) ?_ ?_ 0 _ (Nat.zero_le _) ⟨rfl, rfl, Fr.rf⟩
  · rintro k ⟨x2, x3, m1⟩ hk ⟨e1, e2, hF⟩
    dsimp only at e1 e2 hF ⊢
    subst e2
    have hF' : Fj [(33, 0), (35, 0)] [] m m1 := hF.j
    have hL1 : CL w m1 := hL.fj hF' (by decide) (by simp)
    have hC1 : CW w m1 := hC.fj hF' (by decide) (by simp)
    have hS1 : StC w r m1 0 := hS.fj hF' (by decide) (by simp)
    unfold r_X11_rightBeliefs_b4 r_X7_believes r_X11_rightBeliefs_j52_c4
    rw [hL1.1, hW.1.1, if_neg (nI_ge hk (by omega)), ix12, if_pos (inb_nI (by omega) (by omega)), clamp_nI (by omega), bd1_s rfl, hS1.2.2.2.1 p k hp (by omega)]
    have hst : rgc w r p (k + 1) = rgc w r p k + (if ¬ r (12 * p + k) = -1 ∧ r (12 * p + k) = nxt w r k then 1 else 0) := rfl
    by_cases h1 : r (12 * p + k) = -1
    · rw [if_pos h1]
      exact tot_some.mpr ⟨by rw [hst, if_neg (fun q => q.1 h1), add0]; exact e1, (nI_succ k).symm, hF⟩
    · rw [if_neg h1, tot_bd2]
      refine (goesOn_tot hW hL1 hC1 hS1 hk).mono ?_
      rintro ⟨z, m2⟩ ⟨g1, g2⟩
      dsimp only at g1 g2 ⊢
      by_cases h2 : r (12 * p + k) = z
      · rw [if_pos h2]
        exact tot_some.mpr ⟨by rw [hst, if_pos ⟨h1, h2.trans g1⟩, ← e1], (nI_succ k).symm, hF.tr g2⟩
      · rw [if_neg h2]
        exact tot_some.mpr ⟨by rw [hst, if_neg (fun q => h2 (q.2.trans g1.symm)), add0]; exact e1, (nI_succ k).symm, hF.tr g2⟩
  · rintro ⟨x2, x3, m1⟩ ⟨e1, e2, hF⟩
    dsimp only at e1 e2 hF ⊢
    subst e2
    unfold r_X11_rightBeliefs_b4
    rw [hF 3 0 (by decide), hL.1, hW.1.1, if_pos (nI_le (Nat.le_refl _) (by omega)), tot_some]
    exact tot_some.mpr ⟨e1, hF⟩
set_option maxHeartbeats 1000000 in
theorem person_m {m : Mem} {p : Nat} {y : Int32} (hW : WF (mW m)) (hp : p < wN (mW m)) : Tot (loopO (fun s => r_X12_person_b60 (nI p) y s.1 s.2.1 s.2.2.1 s.2.2.2) (0, 0, 0, m)) (fun q => q.1 = cnt (fun a => m 60 0 (12 * p + a)) (wP (mW m)) ∧ q.2.1 = rgc (mW m) (m 60 0) p (wP (mW m)) ∧ Fr [(55, 0), (56, 0)] m q.2.2) := by
  have hP := hW.1.2
  have hN := hW.2.2.1.2
  refine tot_for (fun k s => s.1 = cnt (fun a => m 60 0 (12 * p + a)) k ∧ s.2.1 = rgc (mW m) (m 60 0) p k ∧ s.2.2.1 = nI k ∧ Fr [(55, 0), (56, 0)] m s.2.2.2) (wP (mW m)) ?_ ?_ 0 _ (Nat.zero_le _) ⟨rfl, rfl, rfl, Fr.rf⟩
  · rintro k ⟨x3, x4, x5, m1⟩ hk ⟨e1, e2, e3, hF⟩
    dsimp only at e1 e2 e3 hF ⊢
    subst e3
    have hF' : Fj [(55, 0), (56, 0)] [] m m1 := hF.j
    have fW : mW m1 = mW m := mW_fj hF' (by decide) (by simp)
    have f60 : m1 60 0 = m 60 0 := hF 60 0 (by decide)
    have c1 : cnt (fun a => m 60 0 (12 * p + a)) (k + 1) = cnt (fun a => m 60 0 (12 * p + a)) k + (if m 60 0 (12 * p + k) = -1 then 0 else 1) := rfl
    have hst : rgc (mW m) (m 60 0) p (k + 1) = rgc (mW m) (m 60 0) p k + (if ¬ m 60 0 (12 * p + k) = -1 ∧ m 60 0 (12 * p + k) = nxt (mW m) (m 60 0) k then 1 else 0) := rfl
    unfold r_X12_person_b60 r_X12_person_j99_c60 r_X12_person_j128_c60 r_X12_person_j129_c60
    rw [hF 52 0 (by decide), show m 52 0 0 = nI (wP (mW m)) from hW.1.1, if_neg (nI_ge hk (by omega)), ix12', if_pos (inb_nI (by omega) (by omega)), clamp_nI (by omega), f60]
    by_cases h1 : m 60 0 (12 * p + k) = -1
    · rw [if_pos h1, if_pos h1]
      exact tot_some.mpr ⟨by rw [c1, if_pos h1, ← e1], by rw [hst, if_neg (fun q => q.1 h1), ← e2], (nI_succ k).symm, hF⟩
    · rw [if_neg h1, if_neg h1, tot_bd2]
      refine (nextOf_tot (m := m1) (i := 0) (by rw [fW]; exact hW) (by omega)).mono ?_
      rintro ⟨z, m2⟩ ⟨g1, g2⟩
      dsimp only at g1 g2 ⊢
      rw [fW, f60] at g1
      by_cases h2 : m 60 0 (12 * p + k) = z
      · rw [if_pos h2]
        exact tot_some.mpr ⟨by rw [c1, if_neg h1, ← e1], by rw [hst, if_pos ⟨h1, h2.trans g1⟩, ← e2], (nI_succ k).symm, hF.tr g2⟩
      · rw [if_neg h2]
        exact tot_some.mpr ⟨by rw [c1, if_neg h1, ← e1], by rw [hst, if_neg (fun q => h2 (q.2.trans g1.symm)), ← e2], (nI_succ k).symm, hF.tr g2⟩
  · rintro ⟨x3, x4, x5, m1⟩ ⟨e1, e2, e3, hF⟩
    dsimp only at e1 e2 e3 hF ⊢
    subst e3
    unfold r_X12_person_b60
    rw [hF 52 0 (by decide), show m 52 0 0 = nI (wP (mW m)) from hW.1.1, if_pos (nI_le (Nat.le_refl _) (by omega)), tot_some]
    exact ⟨e1, e2, hF⟩
theorem pair_person {m : Mem} (hI : Inv m) (x y : Int32) : Pair (fun m => r_L_person x y m) (fun m => r_X12_person x y m) m := by
  obtain ⟨hW, hR, hL, hC, hS⟩ := hI.1
  have hP := hW.1.2
  have hN := hW.2.2.1
  by_cases hx : isPe (mW m) x
  case neg =>
    refine Pair.b0 (c := 1) hI rfl (by decide) ?_ (fun m3 e h3 => ?_)
    · unfold r_X11_person
      rw [thr_r (needPerson_f hL hx)]
    · have hW3 : WF (mW (wr m3 12 0 0 0)) := by rw [mW_th, e]; exact hW
      unfold r_X12_person r_X12_person_j19
      rw [bd1_s (isPerson_f hW3 (by rw [mW_th, e]; exact hx)), if_neg (by decide), bd2_s (bad_10 (by decide)), if_pos rfl]
  by_cases hy : 0 ≤ y ∧ y ≤ 3
  case neg =>
    refine Pair.b1 (c := 2) hI rfl (by decide) ?_ (fun m3 e h3 => ?_)
    · unfold r_X11_person
      rw [thr_l (needPerson_t hL hx), thr_r (needRange_f hy)]
    · have hW3 : WF (mW (wr m3 12 0 0 0)) := by rw [mW_th, e]; exact hW
      unfold r_X12_person r_X12_person_j19 r_X12_person_j42
      rw [bd1_s (isPerson_t hW3 (by rw [mW_th, e]; exact hx)), if_pos rfl, bd2_s bad_0, if_neg (by decide), if_neg (by rw [in_f hy]; decide), bd2_s (bad_11 (by decide)), if_pos rfl]
  obtain ⟨p, hp, rfl⟩ := isPe_of hW hx
  obtain ⟨k, hk, rfl⟩ := in_le (n := 3) (by decide) hy
  have mdl : ∀ y z : Int32, 0 ≤ y ∧ y ≤ 3 → ∀ m3, Fj [(92, 0), (33, 0), (35, 0)] [] m m3 → (∀ m7 : Mem, m7 60 0 = m 60 0 → m7 67 p 0 = m 67 p 0 → r_X12_person_e138_h60 (nI p) y (cnt (fun a => m 60 0 (12 * p + a)) (wP (mW m))) (rgc (mW m) (m 60 0) p (wP (mW m))) m7 = some (z, m7)) → Tot (r_X12_person (nI p) y m3) (fun q => q.1 = z ∧ q.2 12 0 0 = 0 ∧ Fj [(55, 0), (56, 0)] [(12, 0)] m3 q.2) := by
    intro y z hy m3 hF hz
    obtain ⟨e, h60⟩ := pre3 hF (by decide) (by simp) (by decide) (by simp)
    have hW3 : WF (mW (wr m3 12 0 0 0)) := by rw [e]; exact hW
    unfold r_X12_person r_X12_person_j19 r_X12_person_j42 r_X12_person_l60
    rw [bd1_s (isPerson_t hW3 (by rw [e]; exact hx)), if_pos rfl, bd2_s bad_0, if_neg (by decide), if_pos (in_t hy), bd2_s bad_0, if_neg (by decide), tot_bd1]
    refine (person_m hW3 (by rw [e]; exact hp)).mono ?_
    rintro ⟨q1, q2, m4⟩ ⟨h1, h2, h3⟩
    dsimp only at h1 h2 h3 ⊢
    rw [e, h60] at h1 h2
    rw [h1, h2, hz m4 (by rw [h3 60 0 (by decide)]; exact h60 0) (by rw [h3 67 p (by simp), th_row m3 0 (by decide), hF.rw' 67 p (by simp) (by simp)])]
    refine tot_some.mpr ⟨rfl, ?_, ((th_fj m3 0).mono (by simp) (by simp)).tr h3.j⟩
    show m4 12 0 0 = 0
    rw [h3 12 0 (by decide)]
    exact th_z m3 0
  have c8 : inb (nI p) 8 = true := (inb_nI (by omega) (by omega))
  match k, hk with
  | 0, _ =>
    refine Pair.ok (z := m 67 p 0) [(33, 0), (35, 0)] [] [(55, 0), (56, 0)] [(12, 0)] hI ?_ (fun m3 _ hF => mdl (nI 0) _ hy m3 hF ?_) rfl rfl rfl rfl rfl rfl
    · unfold r_X11_person
      rw [thr_l (needPerson_t hL hx), thr_l (needRange_t hy), if_pos (by decide), if_pos c8, clamp_nI (by omega)]
      exact tot_some.mpr ⟨congrArg Sum.inl (hS.2.2.1 p hp).1, Fj.rf⟩
    · intro m7 w1 w2
      unfold r_X12_person_e138_h60
      rw [if_pos (by decide), if_pos (inb_nI (by omega) (by omega)), clamp_nI (by omega), w2]
  | 1, _ =>
    refine Pair.ok (z := m 60 0 (72 + p)) [(33, 0), (35, 0)] [] [(55, 0), (56, 0)] [(12, 0)] hI ?_ (fun m3 _ hF => mdl (nI 1) _ hy m3 hF ?_) rfl rfl rfl rfl rfl rfl
    · unfold r_X11_person
      rw [thr_l (needPerson_t hL hx), thr_l (needRange_t hy), if_neg (by decide), if_pos (by decide), if_pos c8, clamp_nI (by omega)]
      exact tot_some.mpr ⟨congrArg Sum.inl (hS.2.2.1 p hp).2, Fj.rf⟩
    · intro m7 w1 w2
      unfold r_X12_person_e138_h60
      rw [if_neg (by decide), if_pos (by decide), show 72 + nI p = nI (72 + p) from nI_add 72 p, if_pos (inb_nI (by omega) (by omega)), clamp_nI (by omega), w1]
  | 2, _ =>
    refine Pair.ok (z := cnt (fun a => m 60 0 (12 * p + a)) (wP (mW m))) [(33, 0), (35, 0)] [] [(55, 0), (56, 0)] [(12, 0)] hI ?_ (fun m3 _ hF => mdl (nI 2) _ hy m3 hF ?_) rfl rfl rfl rfl rfl rfl
    · unfold r_X11_person
      rw [thr_l (needPerson_t hL hx), thr_l (needRange_t hy), if_neg (by decide), if_neg (by decide), if_pos (by decide), bd1_s (believedBy_eq (by omega)), cnt_cong (g := fun a => m 60 0 (12 * p + a)) (fun a ha => hS.2.2.2.1 p a hp ha), cnt_P hW hR hp]
      exact tot_some.mpr ⟨rfl, Fj.rf⟩
    · intro m7 w1 w2
      unfold r_X12_person_e138_h60
      rw [if_neg (by decide), if_neg (by decide), if_pos (by decide)]
  | 3, _ =>
    refine Pair.ok (z := rgc (mW m) (m 60 0) p (wP (mW m))) [(33, 0), (35, 0)] [] [(55, 0), (56, 0)] [(12, 0)] hI ?_ (fun m3 _ hF => mdl (nI 3) _ hy m3 hF ?_) rfl rfl rfl rfl rfl rfl
    · unfold r_X11_person
      rw [thr_l (needPerson_t hL hx), thr_l (needRange_t hy), if_neg (by decide), if_neg (by decide), if_neg (by decide), tot_bd2]
      exact (rightBeliefs_tot hW hL hC hS hp).mono fun q hq => tot_some.mpr ⟨congrArg Sum.inl hq.1, hq.2.j⟩
    · intro m7 w1 w2
      unfold r_X12_person_e138_h60
      rw [if_neg (by decide), if_neg (by decide), if_neg (by decide)]
/-- the persons who believe as it goes, and those who believe otherwise -/
def rgs (r : Rw) (a : Nat) (to : Int32) (y : Nat) (p : Nat) : Bool := decide (¬ r (12 * p + a) = -1 ∧ (r (12 * p + a) = to ↔ y = 0))
set_option maxHeartbeats 1000000 in
theorem right_c {w : Wd} {r : Rw} {m : Mem} {a : Nat} {y to : Int32} (hW : WF w) (hL : CL w m) (hS : StC w r m 0) (ha : a < 12) : loopO (fun s => r_X11_right_b34 (nI a) y to m s.1 s.2.1 s.2.2) (0, 0, 0) = some (bsf (rgs r a to 0) (wN w), bsf (rgs r a to 1) (wN w)) := by
  have hN := hW.2.2.1
  apply Tot.eq
  refine tot_for (fun k s => s = (bsf (rgs r a to 0) k, bsf (rgs r a to 1) k, nI k)) (wN w) ?_ ?_ 0 _ (Nat.zero_le _) rfl
  · rintro k s hk rfl
    dsimp only
    have s0 : bsf (rgs r a to 0) (k + 1) = bsf (rgs r a to 0) k ||| (if rgs r a to 0 k = true then 1 <<< (nI k &&& 31) else 0) := rfl
    have s1 : bsf (rgs r a to 1) (k + 1) = bsf (rgs r a to 1) k ||| (if rgs r a to 1 k = true then 1 <<< (nI k &&& 31) else 0) := rfl
    unfold r_X11_right_b34 r_X7_believes r_X11_right_j82_2_c34 r_X11_right_j97_2_c34
    rw [hL.2.2.1, hN.1, if_neg (nI_ge hk (by omega)), ix12, if_pos (inb_nI (by omega) (by omega)), clamp_nI (by omega), bd1_s rfl, hS.2.2.2.1 k a hk ha, s0, s1]
    unfold rgs
    by_cases h1 : r (12 * k + a) = -1
    · rw [if_pos h1, if_pos h1]
      refine tot_some.mpr ?_
      simp [h1, or0, nI_succ]
    · by_cases h2 : r (12 * k + a) = to
      · rw [if_neg h1, if_pos h2]
        refine tot_some.mpr ?_
        have h3 : ¬ to = -1 := by rw [← h2]; exact h1
        simp [h2, h3, or0, nI_succ]
      · rw [if_neg h1, if_neg h2, if_neg h1]
        refine tot_some.mpr ?_
        simp [h1, h2, or0, nI_succ]
  · rintro s rfl
    dsimp only
    unfold r_X11_right_b34
    rw [hL.2.2.1, hN.1, if_pos (nI_le (Nat.le_refl _) (by omega)), tot_some]
    rfl
set_option maxHeartbeats 1000000 in
theorem right_m {m : Mem} {a k9 : Nat} {to : Int32} (hW : WF (mW m)) (ha : a < 12) (hk9 : k9 ≤ 1) : loopO (fun s => r_X12_right_b68 (nI a) (nI k9) to m s.1 s.2) (0, 0) = some (bsf (rgs (m 60 0) a to k9) (wN (mW m))) := by
  have hN := hW.2.2.1
  apply Tot.eq
  refine tot_for (fun k s => s = (bsf (rgs (m 60 0) a to k9) k, nI k)) (wN (mW m)) ?_ ?_ 0 _ (Nat.zero_le _) rfl
  · rintro k s hk rfl
    dsimp only
    have s0 : bsf (rgs (m 60 0) a to k9) (k + 1) = bsf (rgs (m 60 0) a to k9) k ||| (if rgs (m 60 0) a to k9 k = true then 1 <<< (nI k &&& 31) else 0) := rfl
    unfold r_X12_right_b68 r_X12_right_j114_c68 r_X12_right_j123_c68 r_X12_right_j133_c68 r_X12_right_j134_c68
    rw [show m 52 0 2 = nI (wN (mW m)) from hN.1, if_neg (nI_ge hk (by omega)), ix12', if_pos (inb_nI (by omega) (by omega)), clamp_nI (by omega), s0]
    unfold rgs
    by_cases h1 : m 60 0 (12 * k + a) = -1
    · rw [if_pos h1]
      refine tot_some.mpr ?_
      simp [h1, nI_succ]
    · rw [if_neg h1]
      match k9, hk9 with
      | 0, _ =>
        by_cases h2 : m 60 0 (12 * k + a) = to
        · rw [if_pos h2, if_pos (by decide), if_pos rfl]
          have h3 : ¬ to = -1 := by rw [← h2]; exact h1
          refine tot_some.mpr ?_
          simp [h2, h3, nI_succ]
        · rw [if_neg h2, if_pos (by decide), if_neg (by decide)]
          refine tot_some.mpr ?_
          simp [h1, h2, nI_succ]
      | 1, _ =>
        by_cases h2 : m 60 0 (12 * k + a) = to
        · rw [if_pos h2, if_neg (by decide), if_neg (by decide)]
          have h3 : ¬ to = -1 := by rw [← h2]; exact h1
          refine tot_some.mpr ?_
          simp [h2, nI_succ]
        · rw [if_neg h2, if_neg (by decide), if_pos rfl]
          refine tot_some.mpr ?_
          simp [h1, h2, nI_succ]
  · rintro s rfl
    dsimp only
    unfold r_X12_right_b68
    rw [show m 52 0 2 = nI (wN (mW m)) from hN.1, if_pos (nI_le (Nat.le_refl _) (by omega)), tot_some]
    rfl
theorem pair_right {m : Mem} (hI : Inv m) (x y : Int32) : Pair (fun m => r_L_right x y m) (fun m => r_X12_right x y m) m := by
  obtain ⟨hW, hR, hL, hC, hS⟩ := hI.1
  have hP := hW.1.2
  by_cases hx : isPl (mW m) x
  case neg =>
    refine Pair.b0 (c := 1) hI rfl (by decide) ?_ (fun m3 e h3 => ?_)
    · unfold r_X11_right
      rw [thr_r (needPlace_f hL hx)]
    · have hW3 : WF (mW (wr m3 12 0 0 0)) := by rw [mW_th, e]; exact hW
      unfold r_X12_right r_X12_right_j19
      rw [bd1_s (isPlace_f hW3 (by rw [mW_th, e]; exact hx)), if_neg (by decide), bd2_s (bad_10 (by decide)), if_pos rfl]
  by_cases hy : 0 ≤ y ∧ y ≤ 1
  case neg =>
    refine Pair.b1 (c := 2) hI rfl (by decide) ?_ (fun m3 e h3 => ?_)
    · unfold r_X11_right
      rw [thr_l (needPlace_t hL hx), thr_r (needRange_f hy)]
    · have hW3 : WF (mW (wr m3 12 0 0 0)) := by rw [mW_th, e]; exact hW
      unfold r_X12_right r_X12_right_j19 r_X12_right_j42
      rw [bd1_s (isPlace_t hW3 (by rw [mW_th, e]; exact hx)), if_pos rfl, bd2_s bad_0, if_neg (by decide), if_neg (by rw [in_f hy]; decide), bd2_s (bad_11 (by decide)), if_pos rfl]
  obtain ⟨a, ha, rfl⟩ := isPl_of hW hx
  obtain ⟨k, hk, rfl⟩ := in_le (n := 1) (by decide) hy
  refine Pair.ok (z := bsf (rgs (m 60 0) a (nxt (mW m) (m 60 0) a) k) (wN (mW m))) [(33, 0), (35, 0)] [] [(55, 0), (56, 0)] [(12, 0)] hI ?_ (fun m3 _ hF => ?_) rfl rfl rfl rfl rfl rfl
  · unfold r_X11_right
    rw [thr_l (needPlace_t hL hx), thr_l (needRange_t hy), tot_bd2]
    refine (goesOn_tot hW hL hC hS ha).mono ?_
    rintro ⟨z, m1⟩ ⟨g1, g2⟩
    dsimp only at g1 g2 ⊢
    have hF1 : Fj [(33, 0), (35, 0)] [] m m1 := g2.j
    unfold r_X11_right_l34 r_X11_right_e103_h34
    rw [bd1_s (right_c hW (hL.fj hF1 (by decide) (by simp)) (hS.fj hF1 (by decide) (by simp)) (by omega)), g1]
    match k, hk with
    | 0, _ =>
      rw [if_pos (by decide)]
      exact tot_some.mpr ⟨rfl, hF1⟩
    | 1, _ =>
      rw [if_neg (by decide)]
      exact tot_some.mpr ⟨rfl, hF1⟩
  · obtain ⟨e, h60⟩ := pre3 hF (by decide) (by simp) (by decide) (by simp)
    have hW3 : WF (mW (wr m3 12 0 0 0)) := by rw [e]; exact hW
    unfold r_X12_right r_X12_right_j19 r_X12_right_j42
    rw [bd1_s (isPlace_t hW3 (by rw [e]; exact hx)), if_pos rfl, bd2_s bad_0, if_neg (by decide), if_pos (in_t hy), bd2_s bad_0, if_neg (by decide), tot_bd2]
    refine (nextOf_tot (i := 0) hW3 (by omega)).mono ?_
    rintro ⟨z, m4⟩ ⟨g1, g2⟩
    dsimp only at g1 g2 ⊢
    rw [e, h60] at g1
    have hw4 : mW m4 = mW m := (mW_fj (J := []) g2.j (by decide) (by simp)).trans e
    have h604 : m4 60 0 = m 60 0 := (g2 60 0 (by decide)).trans (h60 0)
    unfold r_X12_right_l68 r_X12_right_e142_h68
    rw [bd1_s (right_m (by rw [hw4]; exact hW) (by omega) hk), g1, hw4, h604]
    refine tot_some.mpr ⟨rfl, ?_, ((th_fj m3 0).mono (by simp) (by simp)).tr g2.j⟩
    show m4 12 0 0 = 0
    rw [g2 12 0 (by decide)]
    exact th_z m3 0
