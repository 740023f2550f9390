/-! ===== sets of bits; place ===== -/
def bsf (f : Nat → Bool) : Nat → Int32
  | 0 => 0
  | k + 1 => bsf f k ||| (if f k = true then 1 <<< (nI k &&& 31) else 0)
theorem or0 (x : Int32) : x ||| 0 = x := by
  apply b_ext
  intro i _
  rw [b_or, b_0, Bool.or_false]
theorem bsf_bt (f : Nat → Bool) : ∀ n, n ≤ 32 → ∀ b, b < 32 → bt (bsf f n) b = (decide (b < n) && f b)
  | 0, _, b, _ => by
    show bt 0 b = _
    rw [b_0, decide_eq_false (Nat.not_lt_zero b), Bool.false_and]
  | k + 1, hn, b, hb => by
    show bt (bsf f k ||| _) b = _
    rw [b_or, bsf_bt f k (by omega) b hb]
    by_cases hf : f k = true
    · rw [if_pos hf, bt_shl1 (by omega) hb]
      by_cases e : b = k
      · subst e
        rw [decide_eq_true rfl, Bool.or_true, decide_eq_true (Nat.lt_succ_self b), hf]
        rfl
      · rw [decide_eq_false e, Bool.or_false]
        by_cases h2 : b < k
        · rw [decide_eq_true h2, decide_eq_true (by omega)]
        · rw [decide_eq_false h2, decide_eq_false (by omega)]
    · rw [if_neg hf, b_0, Bool.or_false]
      by_cases e : b = k
      · subst e
        rw [ts_nt' hf, Bool.and_false, Bool.and_false]
      · by_cases h2 : b < k
        · rw [decide_eq_true h2, decide_eq_true (by omega)]
        · rw [decide_eq_false h2, decide_eq_false (by omega)]
theorem bsf_cong {f g : Nat → Bool} : ∀ {n : Nat}, (∀ k, k < n → f k = g k) → bsf f n = bsf g n
  | 0, _ => rfl
  | k + 1, h => by
    unfold bsf
    rw [h k (Nat.lt_succ_self k), bsf_cong (fun j hj => h j (Nat.lt_succ_of_lt hj))]
/-- a ditch joins places that there are -/
theorem bw_in {w : Wd} (hW : WF w) {a b : Nat} (ha : a < 12) (hb : b < 12) (h : ¬ bw w a b = -1) : a < wP w ∧ b < wP w ∧ ¬ a = b := by
  have hP := hW.1.2
  obtain ⟨e, he, -, h2⟩ := (bw_or w a b).resolve_left h
  obtain ⟨c, d, hc, hd, hcd, e1, e2⟩ := hW.2.2.2.2.2.2.1 e he
  have h3 := of_decide_eq_true h2
  rw [e1, e2] at h3
  rcases h3 with ⟨q1, q2⟩ | ⟨q1, q2⟩
  · have r1 := (nI_eq (by omega) (by omega)).mp q1
    have r2 := (nI_eq (by omega) (by omega)).mp q2
    omega
  · have r1 := (nI_eq (by omega) (by omega)).mp q1
    have r2 := (nI_eq (by omega) (by omega)).mp q2
    omega
/-- the places to which ditches go from a -/
def lnk (w : Wd) (a : Nat) : Int32 := bsf (fun b => decide (¬ bw w a b = -1)) (wP w)
theorem links_eq {w : Wd} {m : Mem} (hW : WF w) (hL : CL w m) {a : Nat} (ha : a < 12) : m 26 0 a = lnk w a := by
  have hP := hW.1.2
  apply b_ext
  intro b hb
  rw [hL.2.2.2.2.2.2.2 a ha b hb]
  unfold lnk
  rw [bsf_bt _ _ (by omega) b hb]
  by_cases h : bw w a b = -1
  · rw [decide_eq_false (fun q => q.2 h), decide_eq_false (p := ¬ bw w a b = -1) (fun q => q h), Bool.and_false]
  · rw [decide_eq_true h, Bool.and_true]
    by_cases h12 : b < 12
    · rw [decide_eq_true ⟨h12, h⟩, decide_eq_true (bw_in hW ha h12 h).2.1]
    · rw [decide_eq_false (fun q => h12 q.1), decide_eq_false (by omega)]
theorem ditchesOf_eq {m : Mem} {a : Nat} (hW : WF (mW m)) : r_X12_ditchesOf (nI a) m = some (lnk (mW m) a) := by
  have hP := hW.1.2
  apply Tot.eq
  unfold r_X12_ditchesOf r_X12_ditchesOf_l4 lnk
  rw [tot_bd1]
  refine tot_for (fun k s => s = (bsf (fun b => decide (¬ bw (mW m) a b = -1)) k, nI k)) (wP (mW m)) ?_ ?_ 0 _ (Nat.zero_le _) rfl
  · rintro k s hk rfl
    dsimp only
    unfold r_X12_ditchesOf_b4 r_X12_ditchesOf_j32_c4
    rw [show m 52 0 0 = nI (wP (mW m)) from hW.1.1, if_neg (nI_ge hk (by omega)), bd1_s (btw_eq (D := wD (mW m)) hW.2.1.1 hW.2.1.2)]
    by_cases h : bw (mW m) a k = -1
    · rw [if_pos h]
      exact tot_some.mpr (by show _ = (bsf _ k ||| (if decide (¬ bw (mW m) a k = -1) = true then _ else _), _); rw [if_neg (by simp [h]), nI_succ])
    · rw [if_neg h]
      exact tot_some.mpr (by show _ = (bsf _ k ||| (if decide (¬ bw (mW m) a k = -1) = true then _ else _), _); rw [if_pos (by simp [h]), nI_succ])
  · rintro s rfl
    dsimp only
    unfold r_X12_ditchesOf_b4
    rw [show m 52 0 0 = nI (wP (mW m)) from hW.1.1, if_pos (nI_le (Nat.le_refl _) (by omega)), tot_some]
    exact tot_some.mpr rfl
theorem personsIn_eq {m : Mem} {i N : Nat} {x : Int32} (hN : m 7 i 1 = nI N) (h8 : N ≤ 8) : r_X7_personsIn i x m = some (bsf (fun p => decide (m 21 i p = x)) N) := by
  apply Tot.eq
  unfold r_X7_personsIn r_X7_personsIn_l4
  rw [tot_bd1]
  refine tot_for (fun k s => s = (bsf (fun p => decide (m 21 i p = x)) k, nI k)) N ?_ ?_ 0 _ (Nat.zero_le _) rfl
  · rintro k s hk rfl
    dsimp only
    unfold r_X7_personsIn_b4 r_X7_personsIn_j28_c4
    rw [hN, if_neg (nI_ge hk (by omega)), if_pos (inb_nI (by omega) (by omega)), clamp_nI (by omega)]
    by_cases h : m 21 i k = x
    · rw [if_pos h]
      exact tot_some.mpr (by show _ = (bsf _ k ||| (if decide (m 21 i k = x) = true then _ else _), _); rw [if_pos (decide_eq_true h), nI_succ])
    · rw [if_neg h]
      exact tot_some.mpr (by show _ = (bsf _ k ||| (if decide (m 21 i k = x) = true then _ else _), _); rw [if_neg (by simp [h]), or0, nI_succ])
  · rintro s rfl
    dsimp only
    unfold r_X7_personsIn_b4
    rw [hN, if_pos (nI_le (Nat.le_refl _) (by omega)), tot_some]
    exact tot_some.mpr rfl
/-- which in the course -/
def rnk (w : Wd) (r : Rw) (x : Int32) : Int32 := if fa_first (fun k => decide (cP w r k = x)) (cL w r) < cL w r then nI (fa_first (fun k => decide (cP w r k = x)) (cL w r)) else -1
theorem rank_eq {w : Wd} {r : Rw} {m : Mem} {x : Int32} (hW : WF w) (h1 : m 6 0 3 = nI (cL w r)) (h2 : ∀ k, k < cL w r → m 38 0 k = cP w r k) : r_X6_rank x m = some (rnk w r x) := by
  have hle : cL w r ≤ wP w := cln_le (FF_of hW r)
  have hP := hW.1.2
  unfold rnk
  generalize cL w r = L at h1 h2 hle ⊢
  apply Tot.eq
  unfold r_X6_rank r_X6_rank_l2
  rw [tot_bdS]
  refine tot_for (fun k s => s = nI k ∧ ∀ j, j < k → decide (cP w r j = x) = false) L ?_ ?_ 0 _ (Nat.zero_le _) ⟨rfl, fun j hj => absurd hj (Nat.not_lt_zero j)⟩
  · rintro k s hk ⟨rfl, hn⟩
    unfold r_X6_rank_b2
    rw [h1, if_neg (nI_ge hk (by omega)), if_pos (inb_nI (by omega) (by omega)), clamp_nI (by omega), h2 k hk]
    by_cases h : cP w r k = x
    · rw [if_pos h]
      refine tot_some.mpr (tot_some.mpr ?_)
      rw [first_at hk (decide_eq_true h) hn, if_pos hk]
    · rw [if_neg h]
      refine tot_some.mpr ⟨(nI_succ k).symm, fun j hj => ?_⟩
      by_cases e : j = k
      · rw [e]; exact decide_eq_false h
      · exact hn j (by omega)
  · rintro s ⟨rfl, hn⟩
    unfold r_X6_rank_b2
    rw [h1, if_pos (nI_le (Nat.le_refl _) (by omega)), tot_some]
    show Tot (r_X6_rank_e28_h2 m) _
    unfold r_X6_rank_e28_h2
    refine tot_some.mpr ?_
    rw [first_none (p := fun k => decide (cP w r k = x)) hn, if_neg (Nat.lt_irrefl L)]
theorem rank_m {w : Wd} {r : Rw} {m : Mem} {x y z u : Int32} (hW : WF w) (h1 : m 12 0 42 = nI (cL w r)) (h2 : ∀ k, k < cL w r → m 58 0 k = cP w r k) : loopO (fun s => r_X12_place_b114 x y z m s.1 s.2) ((-1 : Int32), (0 : Int32)) = some (rnk w r x) := by
  have hf := FF_of hW r
  have hle : cL w r ≤ wP w := cln_le hf
  have hP := hW.1.2
  have huq : ∀ i j, i < j → j < cL w r → ¬ cP w r i = cP w r j := fun i j hij hj => pth_ne hf (k := cL w r) (fun j hj => cln_no hj) i j hij hj
  unfold rnk
  generalize cL w r = L at h1 h2 hle huq ⊢
  apply Tot.eq
  refine tot_for (fun k s => s.2 = nI k ∧ ((s.1 = -1 ∧ ∀ j, j < k → decide (cP w r j = x) = false) ∨ ∃ j, j < k ∧ s.1 = nI j ∧ cP w r j = x ∧ ∀ i, i < j → decide (cP w r i = x) = false)) L ?_ ?_ 0 _ (Nat.zero_le _) ⟨rfl, Or.inl ⟨rfl, fun j hj => absurd hj (Nat.not_lt_zero j)⟩⟩
  · rintro k ⟨x4, x5⟩ hk ⟨e1, hn⟩
    dsimp only at e1 hn ⊢
    subst e1
    unfold r_X12_place_b114 r_X12_place_j141_c114
    rw [h1, if_neg (nI_ge hk (by omega)), if_pos (inb_nI (by omega) (by omega)), clamp_nI (by omega), h2 k hk]
    by_cases h : cP w r k = x
    · rw [if_pos h]
      refine tot_some.mpr ⟨(nI_succ k).symm, Or.inr ⟨k, by omega, rfl, h, fun i hi => ?_⟩⟩
      exact decide_eq_false (fun q => huq i k hi hk (q.trans h.symm))
    · rw [if_neg h]
      refine tot_some.mpr ⟨(nI_succ k).symm, ?_⟩
      rcases hn with ⟨n1, n2⟩ | ⟨j, n1, n2, n3, n4⟩
      · refine Or.inl ⟨n1, fun j hj => ?_⟩
        by_cases e : j = k
        · rw [e]; exact decide_eq_false h
        · exact n2 j (by omega)
      · exact Or.inr ⟨j, by omega, n2, n3, n4⟩
  · rintro ⟨x4, x5⟩ ⟨e1, hn⟩
    dsimp only at e1 hn ⊢
    subst e1
    unfold r_X12_place_b114
    rw [h1, if_pos (nI_le (Nat.le_refl _) (by omega)), tot_some]
    show x4 = _
    rcases hn with ⟨n1, n2⟩ | ⟨j, n1, n2, n3, n4⟩
    · rw [n1, first_none (p := fun k => decide (cP w r k = x)) n2, if_neg (Nat.lt_irrefl L)]
    · rw [n2, first_at (p := fun k => decide (cP w r k = x)) n1 (decide_eq_true n3) n4, if_pos n1]
theorem persons_m {m : Mem} {N : Nat} {x y z : Int32} (hN : m 52 0 2 = nI N) (h6 : N ≤ 6) : loopO (fun s => r_X12_place_b60 x y z m s.1 s.2) ((0 : Int32), (0 : Int32)) = some (bsf (fun p => decide (m 60 0 (72 + p) = x)) N) := by
  apply Tot.eq
  refine tot_for (fun k s => s = (bsf (fun p => decide (m 60 0 (72 + p) = x)) k, nI k)) N ?_ ?_ 0 _ (Nat.zero_le _) rfl
  · rintro k s hk rfl
    dsimp only
    unfold r_X12_place_b60 r_X12_place_j94_c60
    rw [hN, if_neg (nI_ge hk (by omega)), show 72 + nI k = nI (72 + k) from nI_add 72 k, if_pos (inb_nI (by omega) (by omega)), clamp_nI (by omega)]
    by_cases h : m 60 0 (72 + k) = x
    · rw [if_pos h]
      exact tot_some.mpr (by show _ = (bsf _ k ||| (if decide (m 60 0 (72 + k) = x) = true then _ else _), _); rw [if_pos (decide_eq_true h), nI_succ])
    · rw [if_neg h]
      exact tot_some.mpr (by show _ = (bsf _ k ||| (if decide (m 60 0 (72 + k) = x) = true then _ else _), _); rw [if_neg (by simp [h]), nI_succ])
  · rintro s rfl
    dsimp only
    unfold r_X12_place_b60
    rw [hN, if_pos (nI_le (Nat.le_refl _) (by omega)), tot_some]
    rfl
set_option maxHeartbeats 1000000 in
theorem pair_place {m : Mem} (hI : Inv m) (x y : Int32) : Pair (fun m => r_L_place x y m) (fun m => r_X12_place x y m) m := by
  obtain ⟨hW, hR, hL, hC, hS⟩ := hI.1
  have hP := hW.1.2
  have hN := hW.2.2.1
  by_cases hx : isPl (mW m) x
  case neg =>
    refine Pair.b0 (c := 1) hI rfl (by decide) ?_ (fun m3 e h3 => ?_)
    · unfold r_X11_place
      rw [thr_r (needPlace_f hL hx)]
    · have hW3 : WF (mW (wr m3 12 0 0 0)) := by rw [mW_th, e]; exact hW
      unfold r_X12_place r_X12_place_j19
      rw [bd1_s (isPlace_f hW3 (by rw [mW_th, e]; exact hx)), if_neg (by decide), bd2_s (bad_10 (by decide)), if_pos rfl]
  by_cases hy : 0 ≤ y ∧ y ≤ 4
  case neg =>
    refine Pair.b1 (c := 2) hI rfl (by decide) ?_ (fun m3 e h3 => ?_)
    · unfold r_X11_place
      rw [thr_l (needPlace_t hL hx), thr_r (needRange_f hy)]
    · have hW3 : WF (mW (wr m3 12 0 0 0)) := by rw [mW_th, e]; exact hW
      unfold r_X12_place r_X12_place_j19 r_X12_place_j42
      rw [bd1_s (isPlace_t hW3 (by rw [mW_th, e]; exact hx)), if_pos rfl, bd2_s bad_0, if_neg (by decide), if_neg (by rw [in_f hy]; decide), bd2_s (bad_11 (by decide)), if_pos rfl]
  obtain ⟨a, ha, rfl⟩ := isPl_of hW hx
  obtain ⟨k, hk, rfl⟩ := in_le (n := 4) (by decide) hy
  have hPe : bsf (fun p => decide (m 21 0 p = nI a)) (wN (mW m)) = bsf (fun p => decide (m 60 0 (72 + p) = nI a)) (wN (mW m)) := bsf_cong (fun p hp => by rw [(hS.2.2.1 p hp).2])
  have mdl : ∀ y z : Int32, 0 ≤ y ∧ y ≤ 4 → ∀ m3, Fj [(92, 0), (33, 0), (35, 0), (38, 0)] [(6, 3), (6, 4)] m m3 → (∀ m7 : Mem, mW m7 = mW m → m7 57 0 a = nxt (mW m) (m 60 0) a → m7 54 0 a = mW m 1 a → r_X12_place_e149_h114 (nI a) y (bsf (fun p => decide (m 60 0 (72 + p) = nI a)) (wN (mW m))) (rnk (mW m) (m 60 0) (nI a)) m7 = some (z, m7)) → Tot (r_X12_place (nI a) y m3) (fun p => p.1 = z ∧ p.2 12 0 0 = 0 ∧ Fj [(55, 0), (56, 0), (57, 0), (58, 0)] [(12, 0), (12, 42)] m3 p.2) := by
    intro y z hy m3 hF hz
    obtain ⟨e, h60⟩ := pre3 hF (by decide) (by decide) (by decide) (by decide)
    have hW3 : WF (mW (wr m3 12 0 0 0)) := by rw [e]; exact hW
    unfold r_X12_place r_X12_place_j19 r_X12_place_j42 r_X12_place_l60
    rw [bd1_s (isPlace_t hW3 (by rw [e]; exact hx)), if_pos rfl, bd2_s bad_0, if_neg (by decide), if_pos (in_t hy), bd2_s bad_0, if_neg (by decide), bd1_s (persons_m (N := wN (mW m)) (by rw [← e]; exact hW3.2.2.1.1) hN.2), h60]
    unfold r_X12_place_e102_h60
    rw [tot_bd2]
    refine (courseOf_tot (i := 0) hW3).mono ?_
    rintro ⟨z8, m4⟩ ⟨h1, h2, h3, h4, h5⟩
    dsimp only at h1 h2 h3 h4 h5 ⊢
    rw [e, h60] at h1 h2 h3 h4
    have hF5 := ((th_fj m3 0).mono (K' := [(55, 0), (56, 0), (57, 0), (58, 0)]) (J' := [(12, 0), (12, 42)]) (by simp) (by simp)).tr (h5.mono (by simp) (by simp))
    have ht : m4 12 0 0 = 0 := (h5 12 0 0 (by decide) (by decide)).trans (th_z m3 0)
    have hw4 : mW m4 = mW m := (mW_fj hF5 (by decide) (by decide)).trans (mW_fj hF (by decide) (by decide))
    unfold r_X12_place_l114
    rw [bd1_s (rank_m (u := 0) hW h2 h3), hz m4 hw4 (h4 a ha) (by rw [← hw4]; rfl)]
    exact tot_some.mpr ⟨rfl, ht, hF5⟩
  have c12 : inb (nI a) 12 = true := (inb_nI (by omega) (by omega))
  match k, hk with
  | 0, _ =>
    refine Pair.ok (z := mW m 1 a) [(33, 0), (35, 0), (38, 0)] [(6, 3), (6, 4)] [(55, 0), (56, 0), (57, 0), (58, 0)] [(12, 0), (12, 42)] hI ?_ (fun m3 _ hF => mdl (nI 0) _ hy m3 hF ?_) rfl rfl rfl rfl rfl rfl
    · unfold r_X11_place
      rw [thr_l (needPlace_t hL hx), thr_l (needRange_t hy), if_pos (by decide), if_pos c12, clamp_nI (by omega)]
      exact tot_some.mpr ⟨congrArg Sum.inl (hL.2.2.2.2.1 a ha), Fj.rf⟩
    · intro m7 w1 w2 w3
      unfold r_X12_place_e149_h114
      rw [if_pos (by decide), if_pos c12, clamp_nI (by omega), w3]
  | 1, _ =>
    refine Pair.ok (z := lnk (mW m) a) [(33, 0), (35, 0), (38, 0)] [(6, 3), (6, 4)] [(55, 0), (56, 0), (57, 0), (58, 0)] [(12, 0), (12, 42)] hI ?_ (fun m3 _ hF => mdl (nI 1) _ hy m3 hF ?_) rfl rfl rfl rfl rfl rfl
    · unfold r_X11_place
      rw [thr_l (needPlace_t hL hx), thr_l (needRange_t hy), if_neg (by decide), if_pos (by decide), if_pos c12, clamp_nI (by omega)]
      exact tot_some.mpr ⟨congrArg Sum.inl (links_eq hW hL (by omega)), Fj.rf⟩
    · intro m7 w1 w2 w3
      unfold r_X12_place_e149_h114
      rw [if_neg (by decide), if_pos (by decide), bd1_s (ditchesOf_eq (by rw [w1]; exact hW)), w1]
  | 2, _ =>
    refine Pair.ok (z := bsf (fun p => decide (m 60 0 (72 + p) = nI a)) (wN (mW m))) [(33, 0), (35, 0), (38, 0)] [(6, 3), (6, 4)] [(55, 0), (56, 0), (57, 0), (58, 0)] [(12, 0), (12, 42)] hI ?_ (fun m3 _ hF => mdl (nI 2) _ hy m3 hF ?_) rfl rfl rfl rfl rfl rfl
    · unfold r_X11_place
      rw [thr_l (needPlace_t hL hx), thr_l (needRange_t hy), if_neg (by decide), if_neg (by decide), if_pos (by decide), bd1_s (personsIn_eq (N := wN (mW m)) (hS.2.1.trans hN.1) (by omega)), hPe]
      exact tot_some.mpr ⟨rfl, Fj.rf⟩
    · intro m7 w1 w2 w3
      unfold r_X12_place_e149_h114
      rw [if_neg (by decide), if_neg (by decide), if_pos (by decide)]
  | 3, _ =>
    refine Pair.ok (z := nxt (mW m) (m 60 0) a) [(33, 0), (35, 0), (38, 0)] [(6, 3), (6, 4)] [(55, 0), (56, 0), (57, 0), (58, 0)] [(12, 0), (12, 42)] hI ?_ (fun m3 _ hF => mdl (nI 3) _ hy m3 hF ?_) rfl rfl rfl rfl rfl rfl
    · unfold r_X11_place
      rw [thr_l (needPlace_t hL hx), thr_l (needRange_t hy), if_neg (by decide), if_neg (by decide), if_neg (by decide), if_pos (by decide), tot_bd2]
      exact (goesOn_tot hW hL hC hS ha).mono fun q hq => tot_some.mpr ⟨congrArg Sum.inl hq.1, (hq.2.mono (by simp)).j⟩
    · intro m7 w1 w2 w3
      unfold r_X12_place_e149_h114
      rw [if_neg (by decide), if_neg (by decide), if_neg (by decide), if_pos (by decide), if_pos c12, clamp_nI (by omega), w2]
  | 4, _ =>
    refine Pair.ok (z := rnk (mW m) (m 60 0) (nI a)) [(33, 0), (35, 0), (38, 0)] [(6, 3), (6, 4)] [(55, 0), (56, 0), (57, 0), (58, 0)] [(12, 0), (12, 42)] hI ?_ (fun m3 _ hF => mdl (nI 4) _ hy m3 hF ?_) rfl rfl rfl rfl rfl rfl
    · unfold r_X11_place
      rw [thr_l (needPlace_t hL hx), thr_l (needRange_t hy), if_neg (by decide), if_neg (by decide), if_neg (by decide), if_neg (by decide), tot_bd1]
      refine (trace_tot hW hL hC hS).mono ?_
      rintro m1 ⟨h1, h2, h3, h4⟩
      rw [bd1_s (rank_eq hW h1 h3)]
      exact tot_some.mpr ⟨rfl, h4⟩
    · intro m7 w1 w2 w3
      unfold r_X12_place_e149_h114
      rw [if_neg (by decide), if_neg (by decide), if_neg (by decide), if_neg (by decide)]
