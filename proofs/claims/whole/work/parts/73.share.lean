/-! ===== share ===== -/
/-- what is given with that bound -/
def gvn (t : Nat → Nat) (s b : Nat) : Nat → Nat
  | 0 => 0
  | p + 1 => gvn t s b p + (if bt (nI s) p = true then (if b < t p then b else t p) else 0)
theorem gvn_mono (t : Nat → Nat) (s : Nat) {b b' : Nat} (h : b ≤ b') : ∀ n, gvn t s b n ≤ gvn t s b' n
  | 0 => Nat.le_refl 0
  | p + 1 => by
    have ih := gvn_mono t s h p
    show gvn t s b p + _ ≤ gvn t s b' p + _
    refine Nat.add_le_add ih ?_
    by_cases hb : bt (nI s) p = true
    · rw [if_pos hb, if_pos hb]
      by_cases h1 : b < t p
      · rw [if_pos h1]
        split <;> omega
      · rw [if_neg h1, if_neg (by omega)]
        exact Nat.le_refl _
    · rw [if_neg hb, if_neg hb]
      exact Nat.le_refl _
theorem gvn_le (t : Nat → Nat) (s b : Nat) : ∀ n, gvn t s b n ≤ b * n
  | 0 => Nat.le_refl 0
  | p + 1 => by
    have ih := gvn_le t s b p
    show gvn t s b p + _ ≤ b * (p + 1)
    rw [Nat.mul_add]
    refine Nat.add_le_add ih ?_
    by_cases hb : bt (nI s) p = true
    · rw [if_pos hb]
      split <;> omega
    · rw [if_neg hb]
      exact Nat.zero_le _
theorem gvn_0 (t : Nat → Nat) (s : Nat) (n : Nat) : gvn t s 0 n = 0 := by
  have := gvn_le t s 0 n
  omega
theorem nmin {b t : Nat} (hb : b < 100) (ht : t < 100) : (if nI b < nI t then nI b else nI t) = nI (if b < t then b else t) := by
  by_cases h : b < t
  · rw [if_pos h, if_pos (nI_lt h (by omega))]
  · rw [if_neg h, if_neg (nI_nlt (by omega) (by omega))]
theorem imin_eq {b t : Nat} (hb : b < 100) (ht : t < 100) : imin (nI b) (nI t) = nI (if b < t then b else t) := by
  unfold imin
  by_cases h : b < t
  · rw [if_neg (nI_nlt (by omega) (by omega)), if_pos h]
  · by_cases h2 : t < b
    · rw [if_pos (nI_lt h2 (by omega)), if_neg h]
    · rw [if_neg (nI_nlt (by omega) (by omega)), if_neg h]
      congr 1
      omega
theorem given_c {w : Wd} {r : Rw} {m : Mem} {t : Nat → Nat} {s b : Nat} (hW : WF w) (hL : CL w m) (hS : StC w r m 0) (ht : ∀ p, p < wN w → t p ≤ 9 ∧ w 4 p = nI (t p)) (hb : b ≤ 9) : r_X11_givenBy (nI b) (nI s) m = some (nI (gvn t s b (wN w))) := by
  have hN := hW.2.2.1
  apply Tot.eq
  unfold r_X11_givenBy r_X11_givenBy_l5
  rw [tot_bd1]
  refine tot_for (fun k (q : Int32 × Int32) => q = (nI (gvn t s b k), nI k)) (wN w) ?_ ?_ 0 _ (Nat.zero_le _) rfl
  · rintro k q hk rfl
    dsimp only
    have st : gvn t s b (k + 1) = gvn t s b k + (if bt (nI s) k = true then (if b < t k then b else t k) else 0) := rfl
    obtain ⟨t1, t2⟩ := ht k hk
    unfold r_X11_givenBy_b5 r_X11_givenBy_j43_c5
    rw [hL.2.2.1, hN.1, if_neg (nI_ge hk (by omega)), if_pos (inb_nI (by omega) (by omega)), clamp_nI (by omega), (hS.2.2.1 k hk).1, t2, imin_eq (by omega) (by omega)]
    by_cases h : bt (nI s) k = true
    · rw [if_neg (fun z => by have := (bit_0 (by omega)).mp z; rw [h] at this; cases this)]
      exact tot_some.mpr (by rw [st, if_pos h, nI_add, nI_succ]; rfl)
    · rw [if_pos ((bit_0 (by omega)).mpr (ts_nt' h))]
      exact tot_some.mpr (by rw [st, if_neg h, nI_succ]; rfl)
  · rintro q rfl
    dsimp only
    unfold r_X11_givenBy_b5
    rw [hL.2.2.1, hN.1, if_pos (nI_le (Nat.le_refl _) (by omega)), tot_some]
    exact tot_some.mpr rfl
theorem given_m {m : Mem} {t : Nat → Nat} {s b : Nat} (hW : WF (mW m)) (ht : ∀ p, p < wN (mW m) → t p ≤ 9 ∧ mW m 4 p = nI (t p)) (hb : b ≤ 9) : r_X12_givenBy (nI s) (nI b) m = some (nI (gvn t s b (wN (mW m)))) := by
  have hN := hW.2.2.1
  apply Tot.eq
  unfold r_X12_givenBy r_X12_givenBy_l5
  rw [tot_bd1]
  refine tot_for (fun k (q : Int32 × Int32) => q = (nI (gvn t s b k), nI k)) (wN (mW m)) ?_ ?_ 0 _ (Nat.zero_le _) rfl
  · rintro k q hk rfl
    dsimp only
    have st : gvn t s b (k + 1) = gvn t s b k + (if bt (nI s) k = true then (if b < t k then b else t k) else 0) := rfl
    obtain ⟨t1, t2⟩ := ht k hk
    unfold r_X12_givenBy_b5 r_X12_givenBy_j43_c5
    rw [show m 52 0 2 = nI (wN (mW m)) from hN.1, if_neg (nI_ge hk (by omega)), has_eq (by omega), if_pos (inb_nI (by omega) (by omega)), clamp_nI (by omega), show m 67 k 0 = nI (t k) from t2, less_eq, nmin (by omega) (by omega)]
    by_cases h : bt (nI s) k = true
    · rw [if_pos h]
      exact tot_some.mpr (by rw [st, if_pos h, nI_add, nI_succ]; rfl)
    · rw [if_neg h]
      exact tot_some.mpr (by rw [st, if_neg h, add0, nI_succ]; rfl)
  · rintro q rfl
    dsimp only
    unfold r_X12_givenBy_b5
    rw [show m 52 0 2 = nI (wN (mW m)) from hN.1, if_pos (nI_le (Nat.le_refl _) (by omega)), tot_some]
    exact tot_some.mpr rfl
/-- the greatest bound at which no more than n is given -/
def bnd (t : Nat → Nat) (s n N : Nat) : Nat → Nat
  | 0 => 0
  | b + 1 => if gvn t s (b + 1) N ≤ n then b + 1 else bnd t s n N b
theorem bnd_le (t : Nat → Nat) (s n N : Nat) : ∀ b, bnd t s n N b ≤ b
  | 0 => Nat.le_refl 0
  | b + 1 => by
    have ih := bnd_le t s n N b
    unfold bnd
    split <;> omega
theorem bnd_ok (t : Nat → Nat) (s n N : Nat) : ∀ b, gvn t s (bnd t s n N b) N ≤ n
  | 0 => by
    show gvn t s 0 N ≤ n
    rw [gvn_0]
    exact Nat.zero_le _
  | b + 1 => by
    unfold bnd
    by_cases h : gvn t s (b + 1) N ≤ n
    · rw [if_pos h]
      exact h
    · rw [if_neg h]
      exact bnd_ok t s n N b
theorem bnd_max (t : Nat → Nat) (s n N : Nat) : ∀ b c, bnd t s n N b < c → c ≤ b → ¬ gvn t s c N ≤ n
  | 0, c, h1, h2 => by
    have : bnd t s n N 0 = 0 := rfl
    omega
  | b + 1, c, h1, h2 => by
    unfold bnd at h1
    by_cases h : gvn t s (b + 1) N ≤ n
    · rw [if_pos h] at h1
      omega
    · rw [if_neg h] at h1
      by_cases hc : c = b + 1
      · rw [hc]
        exact h
      · exact bnd_max t s n N b c h1 (by omega)
theorem bound_c {w : Wd} {r : Rw} {m : Mem} {t : Nat → Nat} {x : Int32} {s n : Nat} (hW : WF w) (hL : CL w m) (hS : StC w r m 0) (ht : ∀ p, p < wN w → t p ≤ 9 ∧ w 4 p = nI (t p)) (hn : n ≤ 99) : loopO (fun q => r_X11_share_b44 x (nI s) (nI n) m q) 9 = some (nI (bnd t s n (wN w) 9)) := by
  have hN := hW.2.2.1
  apply Tot.eq
  refine tot_for (fun k q => q = nI (9 - k) ∧ bnd t s n (wN w) 9 ≤ 9 - k) 9 ?_ ?_ 0 _ (Nat.zero_le _) ⟨rfl, bnd_le t s n (wN w) 9⟩
  · rintro k q hk ⟨rfl, hle⟩
    have hg := gvn_le t s (9 - k) (wN w)
    have hg2 : (9 - k) * wN w ≤ 9 * 6 := Nat.mul_le_mul (by omega) hN.2
    unfold r_X11_share_b44
    rw [if_neg (show ¬ nI (9 - k) ≤ 0 from nI_nle (by omega) (by omega)), bd1_s (given_c hW hL hS ht (by omega))]
    by_cases h : gvn t s (9 - k) (wN w) ≤ n
    · rw [if_pos (nI_le h (by omega))]
      refine tot_some.mpr ?_
      show nI (9 - k) = nI (bnd t s n (wN w) 9)
      congr 1
      by_cases e : bnd t s n (wN w) 9 = 9 - k
      · exact e.symm
      · exact absurd h (bnd_max t s n (wN w) 9 (9 - k) (by omega) (by omega))
    · rw [if_neg (nI_ge (by omega) (by omega))]
      have e1 : 9 - k = (9 - (k + 1)) + 1 := by omega
      refine tot_some.mpr ⟨by rw [e1, nI_neg1], ?_⟩
      have h1 := bnd_ok t s n (wN w) 9
      by_cases e : bnd t s n (wN w) 9 = 9 - k
      · rw [e] at h1
        exact absurd h1 h
      · omega
  · rintro q ⟨rfl, hle⟩
    unfold r_X11_share_b44
    rw [if_pos (by decide)]
    refine tot_some.mpr ?_
    show nI (9 - 9) = nI (bnd t s n (wN w) 9)
    congr 1
    omega
theorem bound_m {m : Mem} {t : Nat → Nat} {x : Int32} {s n : Nat} (hW : WF (mW m)) (ht : ∀ p, p < wN (mW m) → t p ≤ 9 ∧ mW m 4 p = nI (t p)) (hn : n ≤ 99) : loopO (fun q => r_X12_share_b74 x (nI s) (nI n) m q) 0 = some (nI (bnd t s n (wN (mW m)) 9)) := by
  have hN := hW.2.2.1
  apply Tot.eq
  refine tot_for (fun k q => q = nI k ∧ gvn t s k (wN (mW m)) ≤ n) 9 ?_ ?_ 0 _ (Nat.zero_le _) ⟨rfl, by rw [gvn_0]; exact Nat.zero_le _⟩
  · rintro k q hk ⟨rfl, hle⟩
    have hg := gvn_le t s (k + 1) (wN (mW m))
    have hg2 : (k + 1) * wN (mW m) ≤ 9 * 6 := Nat.mul_le_mul (by omega) hN.2
    unfold r_X12_share_b74
    rw [if_neg (show ¬ (9 : Int32) ≤ nI (k) from nI_ge (b := 9) (a := k) (by omega) (by omega)), ← nI_succ, bd1_s (given_m hW ht (by omega))]
    by_cases h : gvn t s (k + 1) (wN (mW m)) ≤ n
    · rw [if_neg (nI_nlt h (by omega))]
      exact tot_some.mpr ⟨rfl, h⟩
    · rw [if_pos (nI_lt (by omega) (by omega))]
      refine tot_some.mpr ?_
      show nI k = nI (bnd t s n (wN (mW m)) 9)
      congr 1
      have h1 := bnd_ok t s n (wN (mW m)) 9
      have h2 := bnd_le t s n (wN (mW m)) 9
      by_cases e : bnd t s n (wN (mW m)) 9 < k
      · exact absurd hle (bnd_max t s n (wN (mW m)) 9 k e (by omega))
      · by_cases e2 : bnd t s n (wN (mW m)) 9 = k
        · exact e2.symm
        · have h3 := gvn_mono t s (b := k + 1) (b' := bnd t s n (wN (mW m)) 9) (by omega) (wN (mW m))
          omega
  · rintro q ⟨rfl, hle⟩
    unfold r_X12_share_b74
    rw [if_pos (by decide)]
    refine tot_some.mpr ?_
    show nI 9 = nI (bnd t s n (wN (mW m)) 9)
    congr 1
    have h2 := bnd_le t s n (wN (mW m)) 9
    by_cases e : bnd t s n (wN (mW m)) 9 < 9
    · exact absurd hle (bnd_max t s n (wN (mW m)) 9 9 e (by omega))
    · omega
set_option maxHeartbeats 1000000 in
theorem pair_share {m : Mem} (hI : Inv m) (x y z : Int32) : Pair (fun m => r_L_share x y z m) (fun m => r_X12_share x y z m) m := by
  obtain ⟨hW, hR, hL, hC, hS⟩ := hI.1
  have hN := hW.2.2.1
  have hp1 : 1 ≤ 2 ^ wN (mW m) := Nat.one_le_two_pow
  have hp64 : 2 ^ wN (mW m) ≤ 2 ^ 6 := Nat.pow_le_pow_right (by decide) hN.2
  have hsh : ∀ v : Int32, v = nI (wN (mW m)) → (1 <<< (v &&& 31)) - 1 = nI (2 ^ wN (mW m) - 1) := fun v hv => by
    rw [hv, shl_pow _ (by omega)]
    exact nI_sub (b := 1) hp1
  by_cases hx : isPe (mW m) x
  case neg =>
    refine Pair.b0 (c := 1) hI rfl (by decide) ?_ (fun m3 e h3 => ?_)
    · unfold r_X11_share
      rw [thr_r (needPerson_f hL hx)]
    · have hW3 : WF (mW (wr m3 12 0 0 0)) := by rw [mW_th, e]; exact hW
      unfold r_X12_share r_X12_share_j19
      rw [bd1_s (isPerson_f hW3 (by rw [mW_th, e]; exact hx)), if_neg (by decide), bd2_s (bad_10 (by decide)), if_pos rfl]
  have bad : ¬ ((0 ≤ z ∧ z ≤ 99) ∧ (0 ≤ y ∧ y ≤ nI (2 ^ wN (mW m) - 1))) → ∀ m3, mW m3 = mW m → (∀ k i, ¬ k = 11 → m3 k i = m k i) → r_X12_share x y z m3 = some (0, badm m3 2 1) := by
    intro h m3 e _
    have hW3 : WF (mW (wr m3 12 0 0 0)) := by rw [mW_th, e]; exact hW
    have e9 : wr m3 12 0 0 0 52 0 2 = nI (wN (mW m)) := by rw [← e, ← mW_th m3 0]; exact hW3.2.2.1.1
    have j : r_X12_share_j56 x y z (wr m3 12 0 0 0) = some (0, badm m3 2 1) := by
      unfold r_X12_share_j56 r_X12_share_j61
      rw [bd2_s (bad_11 (by decide)), if_pos rfl]
    unfold r_X12_share r_X12_share_j19
    rw [bd1_s (isPerson_t hW3 (by rw [mW_th, e]; exact hx)), if_pos rfl, bd2_s bad_0, if_neg (by decide), hsh _ e9]
    by_cases hy : 0 ≤ y ∧ y ≤ nI (2 ^ wN (mW m) - 1)
    · rw [if_pos (in_t hy), if_neg (by rw [in_f (fun q => h ⟨q, hy⟩)]; decide)]
      exact j
    · rw [if_neg (by rw [in_f hy]; decide)]
      exact j
  by_cases hz : 0 ≤ z ∧ z ≤ 99
  case neg =>
    refine Pair.b1 (c := 2) hI rfl (by decide) ?_ (bad (fun q => hz q.1))
    unfold r_X11_share
    rw [thr_l (needPerson_t hL hx), thr_r (needRange_f hz)]
  by_cases hy : 0 ≤ y ∧ y ≤ nI (2 ^ wN (mW m) - 1)
  case neg =>
    refine Pair.b1 (c := 2) hI rfl (by decide) ?_ (bad (fun q => hy q.2))
    unfold r_X11_share
    rw [thr_l (needPerson_t hL hx), thr_l (needRange_t hz), hsh _ (hL.2.2.1.trans hN.1), thr_r (needRange_f hy)]
  obtain ⟨p, hp, rfl⟩ := isPe_of hW hx
  obtain ⟨n, hn, rfl⟩ := in_le (n := 99) (by decide) hz
  obtain ⟨s, hs, rfl⟩ := in_le (n := 2 ^ wN (mW m) - 1) (by omega) hy
  let t : Nat → Nat := fun p => (mW m 4 p).toNatClampNeg
  have ht : ∀ p, p < wN (mW m) → t p ≤ 9 ∧ mW m 4 p = nI (t p) := fun p hp => by
    obtain ⟨v, -, v9, hv⟩ := hW.2.2.2.2.2.2.2.2 p hp
    have : t p = v := by
      show (mW m 4 p).toNatClampNeg = v
      rw [hv, clamp_nI (by omega)]
    rw [this]
    exact ⟨v9, hv⟩
  obtain ⟨t1, t2⟩ := ht p hp
  have hbl := bnd_le t s n (wN (mW m)) 9
  refine Pair.ok (z := if bt (nI s) p = true then nI (if bnd t s n (wN (mW m)) 9 < t p then bnd t s n (wN (mW m)) 9 else t p) else 0) [] [] [] [(12, 0)] hI ?_ (fun m3 _ hF => ?_) rfl rfl rfl rfl rfl rfl
  · unfold r_X11_share r_X11_share_l44
    rw [thr_l (needPerson_t hL hx), thr_l (needRange_t hz), hsh _ (hL.2.2.1.trans hN.1), thr_l (needRange_t hy)]
    by_cases hb : bt (nI s) p = true
    · rw [if_neg (fun q => by have := (bit_0 (by omega)).mp q; rw [hb] at this; cases this), if_pos hb, bd1_s (bound_c hW hL hS ht hn)]
      unfold r_X11_share_e66_h44 r_X11_share_j66_3
      rw [if_pos (inb_nI (by omega) (by omega)), clamp_nI (by omega), (hS.2.2.1 p hp).1, t2, imin_eq (by omega) (by omega)]
      exact tot_some.mpr ⟨rfl, Fj.rf⟩
    · rw [if_pos ((bit_0 (by omega)).mpr (ts_nt' hb)), if_neg hb]
      exact tot_some.mpr ⟨rfl, Fj.rf⟩
  · obtain ⟨e, h60⟩ := pre3 hF (by decide) (by simp) (by decide) (by simp)
    have hW3 : WF (mW (wr m3 12 0 0 0)) := by rw [e]; exact hW
    have e9 : wr m3 12 0 0 0 52 0 2 = nI (wN (mW m)) := by rw [← e]; exact hW3.2.2.1.1
    have e67 : wr m3 12 0 0 0 67 p 0 = nI (t p) := by
      have : mW (wr m3 12 0 0 0) 4 p = nI (t p) := by rw [e]; exact t2
      exact this
    unfold r_X12_share r_X12_share_j19 r_X12_share_j61 r_X12_share_l74
    rw [bd1_s (isPerson_t hW3 (by rw [e]; exact hx)), if_pos rfl, bd2_s bad_0, if_neg (by decide), hsh _ e9, if_pos (in_t hy), if_pos (in_t hz), bd2_s bad_0, if_neg (by decide), bd1_s (bound_m (t := t) hW3 (by rw [e]; exact ht) hn), e]
    unfold r_X12_share_e100_h74 r_X12_share_j100
    rw [has_eq (by omega), if_pos (inb_nI (by omega) (by omega)), clamp_nI (by omega), e67, less_eq, nmin (by omega) (by omega)]
    by_cases hb : bt (nI s) p = true
    · rw [if_pos hb, if_pos hb]
      exact tot_some.mpr ⟨rfl, th_z m3 0, th_fj m3 0⟩
    · rw [if_neg hb, if_neg hb]
      exact tot_some.mpr ⟨rfl, th_z m3 0, th_fj m3 0⟩
