/-! ===== a day goes by ===== -/
/-- those who are in a learn that it goes on to b -/
def tel (a b : Nat) (r : Rw) : Nat → Rw
  | 0 => r
  | p + 1 => fun q => if q = 12 * p + a ∧ r (72 + p) = nI a then nI b else tel a b r p q
def rn1 (e : Nat) (r : Rw) : Rw := fun q => if q = 94 + e then r q + 1 else r q
/-- behind k steps of the course c -/
def flw (w : Wd) (c : Nat → Nat) (r : Rw) : Nat → Rw
  | 0 => r
  | k + 1 => tel (c k) (c (k + 1)) (rn1 (bw w (c k) (c (k + 1))).toNatClampNeg (flw w c r k)) (wN w)
def cN (w : Wd) (r : Rw) (k : Nat) : Nat := (cP w r k).toNatClampNeg
def dayR (w : Wd) (r : Rw) : Rw := fun q => if q = 110 then flw w (cN w r) r (cL w r - 1) q + 1 else flw w (cN w r) r (cL w r - 1) q
theorem tel_out {a b : Nat} {r : Rw} {q : Nat} (hq : 72 ≤ q) (ha : a < 12) : ∀ {n : Nat}, n ≤ 6 → tel a b r n q = r q
  | 0, _ => rfl
  | p + 1, h => by
    show (if q = 12 * p + a ∧ r (72 + p) = nI a then nI b else tel a b r p q) = r q
    rw [if_neg (by omega)]
    exact tel_out hq ha (by omega)
theorem tel_er {a b : Nat} {r r' : Rw} (h : Er r r') : ∀ {n : Nat}, n ≤ 6 → Er (tel a b r n) (tel a b r' n)
  | 0, _ => h
  | p + 1, hp => fun q hq => by
    show (if q = 12 * p + a ∧ r (72 + p) = nI a then nI b else tel a b r p q) = (if q = 12 * p + a ∧ r' (72 + p) = nI a then nI b else tel a b r' p q)
    rw [h (72 + p) (by omega), tel_er h (by omega) q hq]
theorem rn1_er {e : Nat} {r r' : Rw} (h : Er r r') : Er (rn1 e r) (rn1 e r') := fun q hq => by
  unfold rn1
  rw [h q hq]
theorem flw_er {w : Wd} {c : Nat → Nat} {r r' : Rw} (hW : WF w) (h : Er r r') : ∀ k, Er (flw w c r k) (flw w c r' k)
  | 0 => h
  | k + 1 => tel_er (rn1_er (flw_er hW h k)) hW.2.2.1.2
theorem dayR_er {w : Wd} {r r' : Rw} (hW : WF w) (h : Er r r') : Er (dayR w r) (dayR w r') := by
  obtain ⟨c1, -, -, c4⟩ := crs_er hW h
  have hc : cN w r = cN w r' := by
    funext k
    unfold cN
    rw [c4]
  intro q hq
  unfold dayR
  rw [hc, c1, flw_er hW h _ q hq]
/-- the course's places are there, and ditches join them -/
theorem cN_at {w : Wd} (hW : WF w) (r : Rw) {k : Nat} (hk : k < cL w r) : cN w r k < wP w ∧ cP w r k = nI (cN w r k) := by
  have hP := hW.1.2
  obtain ⟨b, hb, e⟩ := pth_at (FF_of hW r) hk
  have e2 : cN w r k = b := by
    unfold cN
    rw [show cP w r k = nI b from e, clamp_nI (by omega)]
  rw [e2]
  exact ⟨hb, e⟩
theorem cN_bw {w : Wd} (hW : WF w) (r : Rw) {k : Nat} (hk : k + 1 < cL w r) : ¬ bw w (cN w r k) (cN w r (k + 1)) = -1 := by
  have hP := hW.1.2
  obtain ⟨h1, h2⟩ := cN_at hW r (k := k) (by omega)
  obtain ⟨h3, h4⟩ := cN_at hW r (k := k + 1) hk
  have e : cP w r (k + 1) = nxt w r (cN w r k) := by
    show (if pth (nxt w r) (spr w) k = -1 then -1 else nxt w r (pth (nxt w r) (spr w) k).toNatClampNeg) = _
    rw [show pth (nxt w r) (spr w) k = nI (cN w r k) from h2, if_neg (m1_ne (by omega)), clamp_nI (by omega)]
  rcases nxt_or w r (cN w r k) with h | ⟨b, hb, h, h5⟩
  · rw [h4, h] at e
    exact absurd e (m1_ne (by omega))
  · have e3 : nI (cN w r (k + 1)) = nI b := h4.symm.trans (e.trans h)
    have e4 : cN w r (k + 1) = b := (nI_eq (by omega) (by omega)).mp e3
    rw [e4]
    exact h5
theorem tel_RF {w : Wd} {r : Rw} (hW : WF w) (hR : RF w r) {a b : Nat} (ha : a < wP w) (hb : b < wP w) : ∀ {n : Nat}, n ≤ 6 → RF w (tel a b r n)
  | 0, _ => hR
  | n + 1, hn => by
    have hP := hW.1.2
    have hN := hW.2.2.1.2
    have ih := tel_RF hW hR ha hb (n := n) (by omega)
    refine ⟨fun p hp => ?_, fun p c hp hc => ?_, fun e he => ?_⟩
    · rw [tel_out (by omega) (by omega) hn]
      exact hR.1 p hp
    · show (if 12 * p + c = 12 * n + a ∧ r (72 + n) = nI a then nI b else tel a b r n (12 * p + c)) = -1 ∨ (c < wP w ∧ ∃ d, d < wP w ∧ (if 12 * p + c = 12 * n + a ∧ r (72 + n) = nI a then nI b else tel a b r n (12 * p + c)) = nI d)
      by_cases h : 12 * p + c = 12 * n + a ∧ r (72 + n) = nI a
      · rw [if_pos h]
        exact Or.inr ⟨by omega, b, hb, rfl⟩
      · rw [if_neg h]
        exact ih.2.1 p c hp hc
    · rw [tel_out (by omega) (by omega) hn]
      exact hR.2.2 e he
theorem rn1_RF {w : Wd} {r : Rw} (hW : WF w) (hR : RF w r) (e : Nat) : RF w (rn1 e r) := by
  have hN := hW.2.2.1.2
  refine ⟨fun p hp => ?_, fun p c hp hc => ?_, fun d hd => ?_⟩
  · unfold rn1
    rw [if_neg (by omega)]
    exact hR.1 p hp
  · unfold rn1
    rw [if_neg (by omega)]
    exact hR.2.1 p c hp hc
  · unfold rn1
    rw [if_neg (by omega)]
    exact hR.2.2 d hd
theorem flw_RF {w : Wd} {r s : Rw} (hW : WF w) (hR : RF w r) : ∀ k, k + 1 ≤ cL w s → RF w (flw w (cN w s) r k)
  | 0, _ => hR
  | k + 1, hk => tel_RF hW (rn1_RF hW (flw_RF hW hR k (by omega)) _) (cN_at hW s (by omega)).1 (cN_at hW s (by omega)).1 hW.2.2.1.2
theorem dayR_RF {w : Wd} {r : Rw} (hW : WF w) (hR : RF w r) : RF w (dayR w r) := by
  have hN := hW.2.2.1.2
  have h : RF w (flw w (cN w r) r (cL w r - 1)) := by
    by_cases h0 : cL w r = 0
    · rw [h0]
      exact hR
    · exact flw_RF hW hR _ (by omega)
  refine ⟨fun p hp => ?_, fun p c hp hc => ?_, fun d hd => ?_⟩
  · unfold dayR
    rw [if_neg (by omega)]
    exact h.1 p hp
  · unfold dayR
    rw [if_neg (by omega)]
    exact h.2.1 p c hp hc
  · unfold dayR
    rw [if_neg (by omega)]
    exact h.2.2 d hd
set_option maxHeartbeats 1000000 in
theorem tel_m {m : Mem} {i a b : Nat} {x : Int32} {N : Nat} (hN : m 52 0 2 = nI N) (hN6 : N ≤ 6) (ha : a < 12) : Tot (loopO (fun s => r_X12_dayEnds_b54_c8 i x (nI a) (nI b) s.1 s.2) (0, m)) (fun m' => m' 60 i = tel a b (m 60 i) N ∧ Fr [(60, i)] m m') := by
  refine tot_for (fun k s => s.1 = nI k ∧ s.2 60 i = tel a b (m 60 i) k ∧ Fr [(60, i)] m s.2) N ?_ ?_ 0 _ (Nat.zero_le _) ⟨rfl, rfl, Fr.rf⟩
  · rintro k ⟨x5, m1⟩ hk ⟨e1, e2, hF⟩
    dsimp only at e1 e2 hF ⊢
    subst e1
    unfold r_X12_dayEnds_b54_c8 r_X12_dayEnds_j102_c54
    rw [hF 52 0 (by simp), hN, if_neg (nI_ge hk (by omega)), show 72 + nI k = nI (72 + k) from nI_add 72 k, ix12', if_pos (inb_nI (show 72 + k < 111 by omega) (by omega))]
    simp only [if_pos (inb_nI (show 12 * k + a < 111 by omega) (by omega)), clamp_nI (show 72 + k ≤ 1000000 by omega), clamp_nI (show 12 * k + a ≤ 1000000 by omega), e2, tel_out (show 72 ≤ 72 + k by omega) ha (show k ≤ 6 by omega)]
    by_cases h : m 60 i (72 + k) = nI a
    · rw [if_pos h]
      refine tot_some.mpr ⟨(nI_succ k).symm, ?_, hF.wr (by simp) _ _⟩
      funext q
      show wr m1 60 i (12 * k + a) (nI b) 60 i q = (if q = 12 * k + a ∧ m 60 i (72 + k) = nI a then nI b else tel a b (m 60 i) k q)
      rw [wr_if, e2]
      by_cases hq : q = 12 * k + a
      · rw [if_pos hq, if_pos ⟨hq, h⟩]
      · rw [if_neg hq, if_neg (fun z => hq z.1)]
    · rw [if_neg h]
      refine tot_some.mpr ⟨(nI_succ k).symm, ?_, hF.wr (by simp) _ _⟩
      funext q
      show wr m1 60 i (12 * k + a) (tel a b (m 60 i) k (12 * k + a)) 60 i q = (if q = 12 * k + a ∧ m 60 i (72 + k) = nI a then nI b else tel a b (m 60 i) k q)
      rw [wr_if, e2, if_neg (c := q = 12 * k + a ∧ m 60 i (72 + k) = nI a) (fun z => h z.2)]
      by_cases hq : q = 12 * k + a
      · rw [if_pos hq, hq]
      · rw [if_neg hq]
  · rintro ⟨x5, m1⟩ ⟨e1, e2, hF⟩
    dsimp only at e1 e2 hF ⊢
    subst e1
    unfold r_X12_dayEnds_b54_c8
    rw [hF 52 0 (by simp), hN, if_pos (nI_le (Nat.le_refl _) (by omega)), tot_some]
    exact ⟨e2, hF⟩
set_option maxHeartbeats 1000000 in
theorem dayEnds_tot {m : Mem} {i : Nat} (hW : WF (mW m)) : Tot (r_X12_dayEnds i m) (fun m' => m' 60 i = dayR (mW m) (m 60 i) ∧ Fj [(55, 0), (56, 0), (57, 0), (58, 0), (60, i)] [(12, 42)] m m') := by
  have hP := hW.1.2
  have hD := hW.2.1.2
  have hN := hW.2.2.1
  unfold r_X12_dayEnds
  rw [tot_bd2]
  refine (courseOf_tot (i := i) hW).mono ?_
  rintro ⟨z, m1⟩ ⟨h1, h2, h3, h4, h5⟩
  dsimp only at h1 h2 h3 h4 h5 ⊢
  have hle : cL (mW m) (m 60 i) ≤ wP (mW m) := cln_le (FF_of hW (m 60 i))
  have f60 : m1 60 i = m 60 i := h5.rw' 60 i (by simp) (by simp)
  have fW : mW m1 = mW m := mW_fj h5 (by decide) (by decide)
  unfold r_X12_dayEnds_l8
  rw [tot_bd1]
  have fin : ∀ m2 : Mem, m2 60 i = flw (mW m) (cN (mW m) (m 60 i)) (m 60 i) (cL (mW m) (m 60 i) - 1) → Fr [(60, i)] m1 m2 → Tot (r_X12_dayEnds_e115_h8 i m2) (fun m' => m' 60 i = dayR (mW m) (m 60 i) ∧ Fj [(55, 0), (56, 0), (57, 0), (58, 0), (60, i)] [(12, 42)] m m') := by
    intro m2 g1 g2
    unfold r_X12_dayEnds_e115_h8
    refine tot_some.mpr ⟨?_, ((h5.mono (by simp) (by simp)).tr ((g2.mono (by simp)).j)).wrK (by simp) _ _⟩
    funext q
    rw [wr_if, g1]
    unfold dayR
    by_cases hq : q = 110
    · rw [if_pos hq, if_pos hq, hq]
    · rw [if_neg hq, if_neg hq]
  refine tot_for (fun k s => s.1 = nI k ∧ s.2 60 i = flw (mW m) (cN (mW m) (m 60 i)) (m 60 i) k ∧ Fr [(60, i)] m1 s.2) (cL (mW m) (m 60 i) - 1) ?_ ?_ 0 _ (Nat.zero_le _) ⟨rfl, f60, Fr.rf⟩
  · rintro k ⟨x2, m2⟩ hk ⟨e1, e2, hF⟩
    dsimp only at e1 e2 hF ⊢
    subst e1
    obtain ⟨a1, a2⟩ := cN_at hW (m 60 i) (k := k) (by omega)
    obtain ⟨b1, b2⟩ := cN_at hW (m 60 i) (k := k + 1) (by omega)
    have hz := cN_bw hW (m 60 i) (k := k) (by omega)
    obtain ⟨e, he, hze, -⟩ := (bw_or _ _ _).resolve_left hz
    have g12 : m2 12 0 42 = nI (cL (mW m) (m 60 i)) := by rw [hF 12 0 (by simp)]; exact h2
    have g58 : ∀ j, j < cL (mW m) (m 60 i) → m2 58 0 j = nI (cN (mW m) (m 60 i) j) := fun j hj => by
      rw [hF 58 0 (by simp), h3 j hj]
      exact (cN_at hW (m 60 i) hj).2
    have fW2 : mW m2 = mW m := (mW_fj (J := []) hF.j (by simp) (by simp)).trans fW
    have hW2 : WF (mW m2) := by rw [fW2]; exact hW
    unfold r_X12_dayEnds_b8
    rw [← nI_succ, g12, if_neg (nI_ge (by omega) (by omega)), if_pos (inb_nI (by omega) (by omega)), if_pos (inb_nI (by omega) (by omega)), clamp_nI (by omega), clamp_nI (by omega), g58 k (by omega), g58 (k + 1) (by omega), bd1_s (btw_eq (D := wD (mW m)) (by rw [← fW2]; exact hW2.2.1.1) hD), fW2, show btw (mW m) (wD (mW m)) (nI (cN (mW m) (m 60 i) k)) (nI (cN (mW m) (m 60 i) (k + 1))) = nI e from hze, show 94 + nI e = nI (94 + e) from nI_add 94 e, if_pos (inb_nI (by omega) (by omega)), clamp_nI (by omega)]
    unfold r_X12_dayEnds_l54_c8
    rw [tot_bd1]
    refine (tel_m (N := wN (mW m)) (by rw [wr_k (by decide)]; rw [← fW2]; exact hW2.2.2.1.1) hN.2 (by omega)).mono ?_
    rintro m3 ⟨g1, g2⟩
    unfold r_X12_dayEnds_e109_h54_c8
    refine tot_some.mpr ⟨(nI_succ k).symm, ?_, (hF.wr (by simp) _ _).tr g2⟩
    show m3 60 i = _
    rw [g1]
    show tel _ _ _ _ = tel (cN (mW m) (m 60 i) k) (cN (mW m) (m 60 i) (k + 1)) (rn1 (bw (mW m) (cN (mW m) (m 60 i) k) (cN (mW m) (m 60 i) (k + 1))).toNatClampNeg (flw (mW m) (cN (mW m) (m 60 i)) (m 60 i) k)) (wN (mW m))
    congr 1
    funext q
    rw [hze, clamp_nI (by omega), wr_if, e2]
    unfold rn1
    by_cases hq : q = 94 + e
    · rw [if_pos hq, if_pos hq, hq]
    · rw [if_neg hq, if_neg hq]
  · rintro ⟨x2, m2⟩ ⟨e1, e2, hF⟩
    dsimp only at e1 e2 hF ⊢
    subst e1
    have g12 : m2 12 0 42 = nI (cL (mW m) (m 60 i)) := by rw [hF 12 0 (by simp)]; exact h2
    unfold r_X12_dayEnds_b8
    rw [← nI_succ, g12, if_pos (nI_le (by omega) (by omega)), tot_some]
    exact fin m2 e2 hF
/-! the class's day -/
theorem tell_eq {m : Mem} {i p a : Nat} {b : Int32} (hp : p < 8) (ha : a < 12) : r_X7_tell i (nI p) (nI a) b m = some (decide (¬ m 22 i (12 * p + a) = b), wr m 22 i (12 * p + a) b) := by
  unfold r_X7_tell r_X7_tell_j24
  rw [ix12]
  simp only [if_pos (inb_nI (show 12 * p + a < 96 by omega) (by omega)), clamp_nI (show 12 * p + a ≤ 1000000 by omega)]
  by_cases h : m 22 i (12 * p + a) = b
  · rw [if_pos h, if_pos (by decide), decide_eq_false (p := ¬ m 22 i (12 * p + a) = b) (fun q => q h)]
    rfl
  · rw [if_neg h, if_pos (by decide), decide_eq_true h]
    rfl
set_option maxHeartbeats 1000000 in
theorem tel_c {w : Wd} {r : Rw} {m : Mem} {i a b : Nat} {x : Int32} (hW : WF w) (hS : StC w r m i) (ha : a < 12) : Tot (loopO (fun s => r_X6_flowOneDay_b61_c2 i x (nI a) (nI b) s.1 s.2) (0, m)) (fun m' => StC w (tel a b r (wN w)) m' i ∧ Fr [(22, i)] m m') := by
  have hN := hW.2.2.1
  refine tot_for (fun k (s : Int32 × Mem) => s.1 = nI k ∧ StC w (tel a b r k) s.2 i ∧ Fr [(22, i)] m s.2) (wN w) ?_ ?_ 0 _ (Nat.zero_le _) ⟨rfl, hS, Fr.rf⟩
  · rintro k ⟨x6, m1⟩ hk ⟨e1, hS1, hF⟩
    dsimp only at e1 hS1 hF ⊢
    subst e1
    unfold r_X6_flowOneDay_b61_c2 r_X6_flowOneDay_j91_c61
    rw [hS1.2.1, hN.1, if_neg (nI_ge hk (by omega)), if_pos (inb_nI (by omega) (by omega)), clamp_nI (by omega), (hS1.2.2.1 k hk).2, tel_out (by omega) ha (by omega)]
    by_cases h : r (72 + k) = nI a
    · rw [if_pos h, bd2_s (tell_eq (by omega) ha)]
      refine tot_some.mpr ⟨(nI_succ k).symm, ?_, hF.wr (by simp) _ _⟩
      have o : ∀ q, ¬ q = 12 * k + a → tel a b r (k + 1) q = tel a b r k q := fun q hq => if_neg (fun z => hq z.1)
      refine ⟨?_, ?_, fun p hp => ⟨?_, ?_⟩, fun p c hp hc => ?_, fun e he => ⟨?_, ?_⟩⟩
      · show wr m1 22 i (12 * k + a) (nI b) 7 i 0 = _
        rw [wr_k (by decide), hS1.1, o 110 (by omega)]
      · show wr m1 22 i (12 * k + a) (nI b) 7 i 1 = _
        rw [wr_k (by decide), hS1.2.1]
      · show wr m1 22 i (12 * k + a) (nI b) 20 i p = _
        rw [wr_k (by decide), (hS1.2.2.1 p hp).1]
      · show wr m1 22 i (12 * k + a) (nI b) 21 i p = _
        rw [wr_k (by decide), (hS1.2.2.1 p hp).2, o _ (by omega)]
      · show wr m1 22 i (12 * k + a) (nI b) 22 i (12 * p + c) = (if 12 * p + c = 12 * k + a ∧ r (72 + k) = nI a then nI b else tel a b r k (12 * p + c))
        rw [wr_if]
        by_cases hq : 12 * p + c = 12 * k + a
        · rw [if_pos hq, if_pos ⟨hq, h⟩]
        · rw [if_neg hq, if_neg (fun z => hq z.1), hS1.2.2.2.1 p c hp hc]
      · show wr m1 22 i (12 * k + a) (nI b) 23 i e = _
        rw [wr_k (by decide), (hS1.2.2.2.2 e he).1, o _ (by omega)]
      · show wr m1 22 i (12 * k + a) (nI b) 24 i e = _
        rw [wr_k (by decide), (hS1.2.2.2.2 e he).2, o _ (by omega)]
    · rw [if_neg h]
      refine tot_some.mpr ⟨(nI_succ k).symm, ?_, hF⟩
      have o : tel a b r (k + 1) = tel a b r k := by
        funext q
        exact if_neg (fun z => h z.2)
      rw [o]
      exact hS1
  · rintro ⟨x6, m1⟩ ⟨e1, hS1, hF⟩
    dsimp only at e1 hS1 hF ⊢
    subst e1
    unfold r_X6_flowOneDay_b61_c2
    rw [hS1.2.1, hN.1, if_pos (nI_le (Nat.le_refl _) (by omega)), tot_some]
    exact ⟨hS1, hF⟩
set_option maxHeartbeats 1000000 in
theorem flowOneDay_tot {w : Wd} {r : Rw} {m : Mem} {i : Nat} (hW : WF w) (hL : CL w m) (hS : StC w r m i) (h1 : m 6 0 3 = nI (cL w r)) (h3 : ∀ k, k < cL w r → m 38 0 k = cP w r k) : Tot (r_X6_flowOneDay i m) (fun m' => StC w (dayR w r) m' i ∧ Fr [(7, i), (22, i), (24, i)] m m') := by
  have hP := hW.1.2
  have hD := hW.2.1.2
  have hN := hW.2.2.1
  have hle : cL w r ≤ wP w := cln_le (FF_of hW r)
  unfold r_X6_flowOneDay r_X6_flowOneDay_l2
  rw [tot_bd1]
  refine tot_for (fun k (s : Int32 × Mem) => s.1 = nI k ∧ StC w (flw w (cN w r) r k) s.2 i ∧ Fr [(22, i), (24, i)] m s.2) (cL w r - 1) ?_ ?_ 0 _ (Nat.zero_le _) ⟨rfl, hS, Fr.rf⟩
  · rintro k ⟨x2, m1⟩ hk ⟨e1, hS1, hF⟩
    dsimp only at e1 hS1 hF ⊢
    subst e1
    obtain ⟨a1, a2⟩ := cN_at hW r (k := k) (by omega)
    obtain ⟨b1, b2⟩ := cN_at hW r (k := k + 1) (by omega)
    have hz := cN_bw hW r (k := k) (by omega)
    obtain ⟨e, he, hze, -⟩ := (bw_or _ _ _).resolve_left hz
    have g6 : m1 6 0 3 = nI (cL w r) := by rw [hF 6 0 (by simp)]; exact h1
    have g38 : ∀ j, j < cL w r → m1 38 0 j = nI (cN w r j) := fun j hj => by
      rw [hF 38 0 (by simp), h3 j hj]
      exact (cN_at hW r hj).2
    have hL1 : CL w m1 := hL.fj (J := []) hF.j (by simp) (by simp)
    unfold r_X6_flowOneDay_b2 r_X3_between
    rw [← nI_succ, g6, if_neg (nI_ge (by omega) (by omega)), if_pos (inb_nI (by omega) (by omega)), if_pos (inb_nI (by omega) (by omega)), clamp_nI (by omega), clamp_nI (by omega), g38 k (by omega), g38 (k + 1) (by omega), ix12, if_pos (inb_nI (by omega) (by omega)), clamp_nI (by omega), hL1.2.2.2.2.2.2.1 _ _ (by omega) (by omega), bd1_s rfl, if_neg hz, hze, if_pos (inb_nI (by omega) (by omega)), clamp_nI (by omega)]
    unfold r_X6_flowOneDay_j58_c2 r_X6_flowOneDay_l61_c2
    rw [tot_bd1]
    have hS2 : StC w (rn1 e (flw w (cN w r) r k)) (wr m1 24 i e (m1 24 i e + 1)) i := by
      refine ⟨?_, ?_, fun p hp => ⟨?_, ?_⟩, fun p c hp hc => ?_, fun e9 he9 => ⟨?_, ?_⟩⟩
      · rw [wr_k (by decide), hS1.1]
        exact (if_neg (by omega)).symm
      · rw [wr_k (by decide), hS1.2.1]
      · rw [wr_k (by decide), (hS1.2.2.1 p hp).1]
      · rw [wr_k (by decide), (hS1.2.2.1 p hp).2]
        exact (if_neg (by omega)).symm
      · rw [wr_k (by decide), hS1.2.2.2.1 p c hp hc]
        exact (if_neg (by omega)).symm
      · rw [wr_k (by decide), (hS1.2.2.2.2 e9 he9).1]
        exact (if_neg (by omega)).symm
      · rw [wr_if]
        unfold rn1
        by_cases h9 : e9 = e
        · rw [if_pos h9, if_pos (by omega), h9, (hS1.2.2.2.2 e (by omega)).2]
        · rw [if_neg h9, if_neg (by omega), (hS1.2.2.2.2 e9 he9).2]
    refine (tel_c hW hS2 (by omega)).mono ?_
    rintro m3 ⟨g1, g2⟩
    unfold r_X6_flowOneDay_e97_h61_c2
    refine tot_some.mpr ⟨(nI_succ k).symm, ?_, (hF.wr (by simp) _ _).tr (g2.mono (by simp))⟩
    show StC w (tel (cN w r k) (cN w r (k + 1)) (rn1 (bw w (cN w r k) (cN w r (k + 1))).toNatClampNeg (flw w (cN w r) r k)) (wN w)) m3 i
    rw [hze, clamp_nI (by omega)]
    exact g1
  · rintro ⟨x2, m1⟩ ⟨e1, hS1, hF⟩
    dsimp only at e1 hS1 hF ⊢
    subst e1
    have g6 : m1 6 0 3 = nI (cL w r) := by rw [hF 6 0 (by simp)]; exact h1
    unfold r_X6_flowOneDay_b2
    rw [← nI_succ, g6, if_pos (nI_le (by omega) (by omega)), tot_some]
    show Tot (r_X6_flowOneDay_e103_h2 i m1) _
    unfold r_X6_flowOneDay_e103_h2
    refine tot_some.mpr ⟨?_, ((hF.mono (by simp)).wr (by simp) _ _)⟩
    have o : ∀ q, ¬ q = 110 → dayR w r q = flw w (cN w r) r (cL w r - 1) q := fun q hq => if_neg hq
    refine ⟨?_, ?_, fun p hp => ⟨?_, ?_⟩, fun p c hp hc => ?_, fun e9 he9 => ⟨?_, ?_⟩⟩
    · rw [wr_eq, hS1.1]
      exact (if_pos rfl).symm
    · rw [wr_j (by decide), hS1.2.1]
    · rw [wr_k (by decide), (hS1.2.2.1 p hp).1]
    · rw [wr_k (by decide), (hS1.2.2.1 p hp).2, o _ (by omega)]
    · rw [wr_k (by decide), hS1.2.2.2.1 p c hp hc, o _ (by omega)]
    · rw [wr_k (by decide), (hS1.2.2.2.2 e9 he9).1, o _ (by omega)]
    · rw [wr_k (by decide), (hS1.2.2.2.2 e9 he9).2, o _ (by omega)]
