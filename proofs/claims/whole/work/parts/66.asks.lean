/-! ===== blank, uphill, digs; a state copied ===== -/
theorem cnt_nI (f : Nat → Int32) : ∀ n, ∃ j, j ≤ n ∧ cnt f n = nI j
  | 0 => ⟨0, Nat.le_refl 0, rfl⟩
  | k + 1 => by
    obtain ⟨j, hj, e⟩ := cnt_nI f k
    unfold cnt
    by_cases h : f k = -1
    · rw [if_pos h, add0]
      exact ⟨j, by omega, e⟩
    · rw [if_neg h, e]
      exact ⟨j + 1, by omega, (nI_succ j).symm⟩
/-- who believes nothing and is trusted most -/
def blk (w : Wd) (r : Rw) : Nat → Int32 × Int32
  | 0 => (-1, -1)
  | p + 1 => if cnt (fun a => r (12 * p + a)) 12 = 0 ∧ ¬ w 4 p ≤ (blk w r p).2 then (nI p, w 4 p) else blk w r p
theorem blank_c {w : Wd} {r : Rw} {m : Mem} {x : Int32} (hW : WF w) (hL : CL w m) (hS : StC w r m 0) : loopO (fun s => r_X11_blank_b14 x m s.1 s.2.1 s.2.2) (-1, -1, 0) = some (blk w r (wN w)) := by
  have hN := hW.2.2.1
  apply Tot.eq
  refine tot_for (fun k s => s = ((blk w r k).1, (blk w r k).2, nI k)) (wN w) ?_ ?_ 0 _ (Nat.zero_le _) rfl
  · rintro k s hk rfl
    dsimp only
    have st : blk w r (k + 1) = if cnt (fun a => r (12 * k + a)) 12 = 0 ∧ ¬ w 4 k ≤ (blk w r k).2 then (nI k, w 4 k) else blk w r k := rfl
    unfold r_X11_blank_b14 r_X11_blank_j66_1_c14
    rw [hL.2.2.1, hN.1, if_neg (nI_ge hk (by omega)), bd1_s (believedBy_eq (by omega)), cnt_cong (g := fun a => r (12 * k + a)) (fun a ha => hS.2.2.2.1 k a hk ha), if_pos (inb_nI (by omega) (by omega)), clamp_nI (by omega), (hS.2.2.1 k hk).1]
    by_cases h1 : cnt (fun a => r (12 * k + a)) 12 = 0
    · rw [if_pos h1]
      by_cases h2 : w 4 k ≤ (blk w r k).2
      · rw [if_pos h2]
        exact tot_some.mpr (by rw [st, if_neg (fun q => q.2 h2), nI_succ]; rfl)
      · rw [if_neg h2]
        exact tot_some.mpr (by rw [st, if_pos ⟨h1, h2⟩, nI_succ]; rfl)
    · rw [if_neg h1]
      exact tot_some.mpr (by rw [st, if_neg (fun q => h1 q.1), nI_succ]; rfl)
  · rintro s rfl
    dsimp only
    unfold r_X11_blank_b14
    rw [hL.2.2.1, hN.1, if_pos (nI_le (Nat.le_refl _) (by omega)), tot_some]
    rfl
theorem blank_mi {m : Mem} {x y z : Int32} {p : Nat} (hp : p < 6) : loopO (fun s => r_X12_blank_b54_c37 x y z (nI p) m s.1 s.2) (0, 0) = some (cnt (fun a => m 60 0 (12 * p + a)) 12) := by
  apply Tot.eq
  refine tot_for (fun k s => s = (cnt (fun a => m 60 0 (12 * p + a)) k, nI k)) 12 ?_ ?_ 0 _ (Nat.zero_le _) rfl
  · rintro k s hk rfl
    dsimp only
    unfold r_X12_blank_b54_c37 r_X12_blank_j87_c54
    rw [if_neg (show ¬ (12 : Int32) ≤ nI (k) from nI_ge (b := 12) (a := k) (by omega) (by omega)), ix12', if_pos (inb_nI (by omega) (by omega)), clamp_nI (by omega)]
    by_cases h : m 60 0 (12 * p + k) = -1
    · rw [if_pos h]
      exact tot_some.mpr (by show _ = (cnt _ k + (if m 60 0 (12 * p + k) = -1 then 0 else 1), _); rw [if_pos h, nI_succ])
    · rw [if_neg h]
      exact tot_some.mpr (by show _ = (cnt _ k + (if m 60 0 (12 * p + k) = -1 then 0 else 1), _); rw [if_neg h, nI_succ])
  · rintro s rfl
    dsimp only
    unfold r_X12_blank_b54_c37
    rw [if_pos (by decide), tot_some]
    rfl
theorem blank_m {m : Mem} {x : Int32} (hW : WF (mW m)) : loopO (fun s => r_X12_blank_b37 x m s.1 s.2.1 s.2.2) (-1, -1, 0) = some (blk (mW m) (m 60 0) (wN (mW m))) := by
  have hN := hW.2.2.1
  apply Tot.eq
  refine tot_for (fun k s => s = ((blk (mW m) (m 60 0) k).1, (blk (mW m) (m 60 0) k).2, nI k)) (wN (mW m)) ?_ ?_ 0 _ (Nat.zero_le _) rfl
  · rintro k s hk rfl
    dsimp only
    have st : blk (mW m) (m 60 0) (k + 1) = if cnt (fun a => m 60 0 (12 * k + a)) 12 = 0 ∧ ¬ mW m 4 k ≤ (blk (mW m) (m 60 0) k).2 then (nI k, mW m 4 k) else blk (mW m) (m 60 0) k := rfl
    unfold r_X12_blank_b37 r_X12_blank_l54_c37
    rw [show m 52 0 2 = nI (wN (mW m)) from hN.1, if_neg (nI_ge hk (by omega)), bd1_s (blank_mi (by omega))]
    unfold r_X12_blank_e96_h54_c37 r_X12_blank_j130_c37
    rw [if_pos (inb_nI (by omega) (by omega)), clamp_nI (by omega), show m 67 k 0 = mW m 4 k from rfl]
    obtain ⟨j, hj, e⟩ := cnt_nI (fun a => m 60 0 (12 * k + a)) 12
    by_cases h1 : cnt (fun a => m 60 0 (12 * k + a)) 12 = 0
    · rw [if_neg (by rw [h1]; decide)]
      by_cases h2 : mW m 4 k ≤ (blk (mW m) (m 60 0) k).2
      · rw [if_neg (fun q => lt_iff.mp q h2)]
        exact tot_some.mpr (by rw [st, if_neg (fun q => q.2 h2), nI_succ]; rfl)
      · rw [if_pos (lt_iff.mpr h2)]
        exact tot_some.mpr (by rw [st, if_pos ⟨h1, h2⟩, nI_succ]; rfl)
    · have hj0 : ¬ j = 0 := fun q => h1 (by rw [e, q]; rfl)
      rw [if_pos (show (0 : Int32) < cnt (fun a => m 60 0 (12 * k + a)) 12 by rw [e]; exact nI_lt (a := 0) (b := j) (by omega) (by omega))]
      exact tot_some.mpr (by rw [st, if_neg (fun q => h1 q.1), nI_succ]; rfl)
  · rintro s rfl
    dsimp only
    unfold r_X12_blank_b37
    rw [show m 52 0 2 = nI (wN (mW m)) from hN.1, if_pos (nI_le (Nat.le_refl _) (by omega)), tot_some]
    rfl
theorem pair_blank {m : Mem} (hI : Inv m) (x : Int32) : Pair (fun m => r_L_blank x m) (fun m => r_X12_blank x m) m := by
  obtain ⟨hW, hR, hL, hC, hS⟩ := hI.1
  by_cases hx : 0 ≤ x ∧ x ≤ 1
  case neg =>
    refine Pair.b1 (c := 1) hI rfl (by decide) ?_ (fun m3 e h3 => ?_)
    · unfold r_X11_blank
      rw [thr_r (needRange_f hx)]
    · unfold r_X12_blank r_X12_blank_j20
      rw [if_neg (by rw [in_f hx]; decide), bd2_s (bad_11 (by decide)), if_pos rfl]
  obtain ⟨k, hk, rfl⟩ := in_le (n := 1) (by decide) hx
  refine Pair.ok (z := if k = 0 then (blk (mW m) (m 60 0) (wN (mW m))).1 else (blk (mW m) (m 60 0) (wN (mW m))).2) [] [] [] [(12, 0)] hI ?_ (fun m3 _ hF => ?_) rfl rfl rfl rfl rfl rfl
  · unfold r_X11_blank r_X11_blank_l14 r_X11_blank_e72_h14
    rw [thr_l (needRange_t hx), bd1_s (blank_c hW hL hS)]
    match k, hk with
    | 0, _ =>
      rw [if_pos (by decide), if_pos rfl]
      exact tot_some.mpr ⟨rfl, Fj.rf⟩
    | 1, _ =>
      rw [if_neg (by decide), if_neg (by decide)]
      exact tot_some.mpr ⟨rfl, Fj.rf⟩
  · obtain ⟨e, h60⟩ := pre3 hF (by decide) (by simp) (by decide) (by simp)
    have hW3 : WF (mW (wr m3 12 0 0 0)) := by rw [e]; exact hW
    unfold r_X12_blank r_X12_blank_j20 r_X12_blank_l37 r_X12_blank_e136_h37
    rw [if_pos (in_t hx), bd2_s bad_0, if_neg (by decide), bd1_s (blank_m hW3), e, h60]
    match k, hk with
    | 0, _ =>
      rw [if_pos (by decide), if_pos rfl]
      exact tot_some.mpr ⟨rfl, th_z m3 0, th_fj m3 0⟩
    | 1, _ =>
      rw [if_neg (by decide), if_neg (by decide)]
      exact tot_some.mpr ⟨rfl, th_z m3 0, th_fj m3 0⟩
def uph (w : Wd) (r : Rw) (a : Nat) : Bool := decide (¬ nxt w r a = -1 ∧ ¬ w 1 (nxt w r a).toNatClampNeg ≤ w 1 a)
set_option maxHeartbeats 1000000 in
theorem uphill_c {w : Wd} {r : Rw} {m : Mem} (hW : WF w) (hL : CL w m) (hC : CW w m) (hS : StC w r m 0) : Tot (r_X11_uphill m) (fun q => q.1 = bsf (uph w r) (wP w) ∧ Fr [(33, 0), (35, 0)] m q.2) := by
  have hP := hW.1.2
  unfold r_X11_uphill r_X11_uphill_l4
  rw [tot_bd1]
  refine tot_for (fun k s => s.1 = bsf (uph w r) k ∧ s.2.1 = nI k ∧ Fr [(33, 0), (35, 0)] m s.2.2) (wP w) ?_ ?_ 0 _ (Nat.zero_le _) ⟨rfl, rfl, Fr.rf⟩
  · rintro k ⟨x1, x2, m1⟩ hk ⟨e1, e2, hF⟩
    dsimp only at e1 e2 hF ⊢
    subst e2
    have hF' : Fj [(33, 0), (35, 0)] [] m m1 := hF.j
    have hL1 : CL w m1 := hL.fj hF' (by decide) (by simp)
    have st : bsf (uph w r) (k + 1) = bsf (uph w r) k ||| (if decide (¬ nxt w r k = -1 ∧ ¬ w 1 (nxt w r k).toNatClampNeg ≤ w 1 k) = true then 1 <<< (nI k &&& 31) else 0) := rfl
    unfold r_X11_uphill_b4 r_X11_uphill_j60_c4
    rw [hL1.1, hW.1.1, if_neg (nI_ge hk (by omega)), tot_bd2]
    refine (goesOn_tot hW hL1 (hC.fj hF' (by decide) (by simp)) (hS.fj hF' (by decide) (by simp)) hk).mono ?_
    rintro ⟨z, m2⟩ ⟨g1, g2⟩
    dsimp only at g1 g2 ⊢
    have hL2 : CL w m2 := hL1.fj (J := []) g2.j (by decide) (by simp)
    rw [← g1] at st
    by_cases h1 : z = -1
    · rw [if_pos h1]
      exact tot_some.mpr ⟨by rw [st, if_neg (by simp [h1]), or0]; exact e1, (nI_succ k).symm, hF.tr g2⟩
    · rw [if_neg h1]
      rcases nxt_or w r k with q | ⟨b, hb, q, -⟩
      · exact absurd (g1.trans q) h1
      · have hz : z = nI b := g1.trans q
        subst hz
        rw [clamp_nI (by omega)] at st
        rw [if_pos (inb_nI (by omega) (by omega)), if_pos (inb_nI (by omega) (by omega)), clamp_nI (by omega), clamp_nI (by omega)]
        simp only [hL2.2.2.2.2.1 b hb, hL2.2.2.2.2.1 k hk]
        by_cases h2 : w 1 b ≤ w 1 k
        · rw [if_pos h2]
          exact tot_some.mpr ⟨by rw [st, if_neg (by simp [h2]), or0]; exact e1, (nI_succ k).symm, hF.tr g2⟩
        · rw [if_neg h2]
          exact tot_some.mpr ⟨by rw [st, if_pos (by simp [h1, h2]), e1], (nI_succ k).symm, hF.tr g2⟩
  · rintro ⟨x1, x2, m1⟩ ⟨e1, e2, hF⟩
    dsimp only at e1 e2 hF ⊢
    subst e2
    unfold r_X11_uphill_b4
    rw [hF 3 0 (by decide), hL.1, hW.1.1, if_pos (nI_le (Nat.le_refl _) (by omega)), tot_some]
    exact tot_some.mpr ⟨e1, hF⟩
theorem uphill_m {m : Mem} {w : Wd} {r : Rw} (hW : WF w) (hm : mW m = w) (h57 : ∀ a, a < wP w → m 57 0 a = nxt w r a) : loopO (fun s => r_X12_uphill_b17 m s.1 s.2) (0, 0) = some (bsf (uph w r) (wP w)) := by
  have hP := hW.1.2
  have h52 : m 52 0 0 = nI (wP w) := by rw [← hW.1.1, ← hm]; rfl
  have h54 : ∀ a, m 54 0 a = w 1 a := fun a => by rw [← hm]; rfl
  apply Tot.eq
  refine tot_for (fun k s => s = (bsf (uph w r) k, nI k)) (wP w) ?_ ?_ 0 _ (Nat.zero_le _) rfl
  · rintro k s hk rfl
    dsimp only
    have st : bsf (uph w r) (k + 1) = bsf (uph w r) k ||| (if decide (¬ nxt w r k = -1 ∧ ¬ w 1 (nxt w r k).toNatClampNeg ≤ w 1 k) = true then 1 <<< (nI k &&& 31) else 0) := rfl
    unfold r_X12_uphill_b17 r_X12_uphill_j64_c17 r_X12_uphill_j65_c17
    rw [h52, if_neg (nI_ge hk (by omega)), if_pos (inb_nI (by omega) (by omega)), clamp_nI (by omega), h57 k hk]
    by_cases h1 : nxt w r k = -1
    · rw [if_pos h1]
      exact tot_some.mpr (by rw [st, if_neg (by simp [h1]), nI_succ]; rfl)
    · rw [if_neg h1]
      rcases nxt_or w r k with q | ⟨b, hb, q, -⟩
      · exact absurd q h1
      · rw [q, clamp_nI (by omega)] at st
        rw [q, if_pos (inb_nI (by omega) (by omega)), clamp_nI (by omega), h54, h54]
        by_cases h2 : w 1 b ≤ w 1 k
        · rw [if_pos h2]
          exact tot_some.mpr (by rw [st, if_neg (by simp [h2]), nI_succ]; rfl)
        · rw [if_neg h2]
          exact tot_some.mpr (by rw [st, if_pos (by rw [← q]; simp [h1, h2]), nI_succ]; rfl)
  · rintro s rfl
    dsimp only
    unfold r_X12_uphill_b17
    rw [h52, if_pos (nI_le (Nat.le_refl _) (by omega)), tot_some]
    rfl
theorem op_30 {x4 : Int32} {m : Mem} (hI : Inv m) : Tot (r_L_op_30 x4 m) (fun m7 => Inv m7 ∧ ∀ i, m7 100 i = m 100 i) := by
  obtain ⟨hW, hR, hL, hC, hS⟩ := hI.1
  unfold r_L_op_30
  rw [tot_bd2]
  refine (uphill_c hW hL hC hS).mono ?_
  rintro ⟨z, m1⟩ ⟨h1, h2⟩
  dsimp only at h1 h2 ⊢
  have hF : Fj [(33, 0), (35, 0)] [] m m1 := h2.j
  have hI1 : Inv m1 := InvX.fj hF rfl rfl hI
  obtain ⟨e, h60⟩ := pre3 hF (by decide) (by simp) (by decide) (by simp)
  have hW3 : WF (mW (wr m1 12 0 0 0)) := by rw [e]; exact hW
  unfold r_X12_uphill r_X12_uphill_l17
  rw [tot_bd2, tot_bd1]
  refine (laysNext_tot (i := 0) hW3).mono ?_
  rintro m2 ⟨g1, g2⟩
  rw [e, h60] at g1
  have hw2 : mW m2 = mW m := (mW_fj g2 (by decide) (by simp)).trans e
  rw [bd1_s (uphill_m hW hw2 g1)]
  refine tot_some.mpr ?_
  rw [if_pos h1]
  have hF2 : Fj [(55, 0), (56, 0), (57, 0)] [(12, 0)] m1 m2 := ((th_fj m1 0).mono (by simp) (by simp)).tr (g2.mono (by simp) (by simp))
  refine tot_some.mpr ⟨InvX.fj hF2 rfl rfl hI1, fun i => ?_⟩
  show m2 100 i = m 100 i
  rw [hF2.rw' 100 i (by simp) (by simp), hF.rw' 100 i (by simp) (by simp)]
