/-! ===== the year and the span ===== -/
theorem in_le1 {a : Int32} {n : Nat} (hn : n ≤ 1000000) (h : 1 ≤ a ∧ a ≤ nI n) : ∃ k, 1 ≤ k ∧ k ≤ n ∧ a = nI k := by
  have h0 : (0 : Int32) ≤ a := by
    have h1 := h.1
    rw [fa_le] at h1 ⊢
    have : (1 : Int32).toInt = 1 := by decide
    have : (0 : Int32).toInt = 0 := by decide
    omega
  obtain ⟨k, hk, e⟩ := in_le hn ⟨h0, h.2⟩
  refine ⟨k, ?_, hk, e⟩
  by_cases hk0 : k = 0
  · rw [e, hk0] at h
    exact absurd h.1 (by decide)
  · omega
/-- how many of the first places are in the set -/
def onc (x : Int32) : Nat → Nat
  | 0 => 0
  | k + 1 => onc x k + (if bt x k = true then 1 else 0)
theorem onc_le (x : Int32) : ∀ n, onc x n ≤ n
  | 0 => Nat.le_refl _
  | k + 1 => by
    have := onc_le x k
    show onc x k + _ ≤ _
    split <;> omega
theorem bit_if {x : Int32} {k : Nat} (hk : k < 32) : (x >>> (nI k &&& 31)) &&& 1 = nI (if bt x k = true then 1 else 0) := by
  by_cases h : bt x k = true
  · rw [if_pos h]
    exact (bit_1 hk).mpr h
  · rw [if_neg h]
    exact (bit_0 hk).mpr (ts_nt' h)
theorem ones_eq (x : Int32) : r_X12_ones x = some (nI (onc x 12)) := by
  have h : Tot (r_X12_ones x) (fun z => z = nI (onc x 12)) := by
    unfold r_X12_ones r_X12_ones_l4
    rw [tot_bd1]
    refine tot_for (fun k (s : Int32 × Int32) => s.1 = nI (onc x k) ∧ s.2 = nI k) 12 ?_ ?_ 0 _ (Nat.zero_le _) ⟨rfl, rfl⟩
    · rintro k ⟨x1, x2⟩ hk ⟨e1, e2⟩
      dsimp only at e1 e2 ⊢
      subst e1 e2
      unfold r_X12_ones_b4
      rw [if_neg (show ¬ (12 : Int32) ≤ nI (k) from nI_ge (b := 12) (a := k) (by omega) (by omega)), tot_some, bit_if (by omega)]
      exact ⟨nI_add _ _, (nI_succ k).symm⟩
    · rintro ⟨x1, x2⟩ ⟨e1, e2⟩
      dsimp only at e1 e2 ⊢
      subst e1 e2
      unfold r_X12_ones_b4
      rw [if_pos (by decide), tot_some]
      exact tot_some.mpr rfl
  obtain ⟨z, hz, e⟩ := h
  rw [hz, e]
theorem onc_or {x : Int32} {b : Nat} (hb : b < 32) (h : bt x b = false) : ∀ n, n ≤ 32 → onc (x ||| (1 <<< (nI b &&& 31))) n = onc x n + (if b < n then 1 else 0)
  | 0, _ => rfl
  | k + 1, hk => by
    show onc (x ||| (1 <<< (nI b &&& 31))) k + _ = onc x k + _ + _
    rw [onc_or hb h k (by omega), b_or, bt_shl1 hb (by omega)]
    by_cases e : k = b
    · rw [e, h, if_neg (Nat.lt_irrefl b), if_pos (show b < b + 1 by omega)]
      simp
    · rw [decide_eq_false e, Bool.or_false]
      by_cases h2 : b < k
      · rw [if_pos h2, if_pos (show b < k + 1 by omega)]
        omega
      · rw [if_neg h2, if_neg (show ¬ b < k + 1 by omega)]
        omega
theorem onc_0 : ∀ n, onc 0 n = 0
  | 0 => rfl
  | k + 1 => by
    show onc 0 k + _ = 0
    rw [onc_0 k, b_0, if_neg (by decide)]
theorem onc_bse {P : Nat} {f : Nat → Int32} {s : Int32} (hf : FF P f s) {k : Nat} (hk : ∀ j, j < k → stp f s j = false) : ∀ i, i ≤ k → onc (bse f s i) 12 = i
  | 0, _ => onc_0 12
  | i + 1, hi => by
    have h12 := hf.1
    have hs := hk i hi
    show onc (bse f s i ||| (1 <<< (pth f s i &&& 31))) 12 = i + 1
    rcases pth_in hf i with h | ⟨b, hb, h⟩
    · exact absurd h (stp_no hs)
    · have hbf : bt (bse f s i) b = false := by
        unfold stp at hs
        rw [h, clamp_nI (by omega)] at hs
        exact (Bool.or_eq_false_iff.mp hs).2
      rw [h, onc_or (by omega) hbf 12 (by decide), onc_bse hf hk i (by omega), if_pos (by omega)]
theorem onc_cB {w : Wd} (hW : WF w) (r : Rw) : onc (cB w r) 12 = cL w r := onc_bse (FF_of hW r) (fun j hj => fa_first_no (stp (nxt w r) (spr w)) 13 j hj) _ (Nat.le_refl _)
theorem cL_le {w : Wd} (hW : WF w) (r : Rw) : cL w r ≤ 12 := Nat.le_trans (cln_le (FF_of hW r)) hW.1.2
theorem isYear_t {n q : Int32} (h : 1 ≤ n ∧ n ≤ 96) (h2 : 0 ≤ q ∧ q ≤ 16) : r_X12_isYear n q = true := by
  unfold r_X12_isYear
  rw [if_pos (in_t h), if_pos (in_t h2)]
theorem isYear_f {n q : Int32} (h : ¬ ((1 ≤ n ∧ n ≤ 96) ∧ (0 ≤ q ∧ q ≤ 16))) : r_X12_isYear n q = false := by
  unfold r_X12_isYear
  by_cases h1 : 1 ≤ n ∧ n ≤ 96
  · rw [if_pos (in_t h1), if_neg (by rw [in_f (fun q => h ⟨h1, q⟩)]; decide)]
  · rw [if_neg (by rw [in_f h1]; decide)]
def yrz (w : Wd) (r : Rw) (sd : Int32) (n q : Nat) : Nat → Int32
  | 0 => cE w (yrs w q (r, sd, 0) n).1
  | 1 => cnt (yrs w q (r, sd, 0) n).1 (12 * wN w)
  | 2 => (yrs w q (r, sd, 0) n).2.2
  | _ + 3 => cB w (yrs w q (r, sd, 0) n).1
set_option maxHeartbeats 1000000 in
theorem pair_year {m : Mem} (hI : Inv m) (x y z u : Int32) : Pair (fun m => r_L_year x y z u m) (fun m => r_X12_year x y z u m) m := by
  obtain ⟨hW, hR, hL, hC, hS⟩ := hI.1
  have hN := hW.2.2.1
  have bad : ∀ m3, r_X12_year_j24 x y z u (wr m3 12 0 0 0) = some (0, badm m3 1 1) := fun m3 => by
    unfold r_X12_year_j24 r_X12_year_j29
    rw [bd2_s (bad_11 (by decide)), if_pos rfl]
  have bad2 : ¬ ((1 ≤ y ∧ y ≤ 96) ∧ (0 ≤ z ∧ z ≤ 16)) → ∀ m3, mW m3 = mW m → (∀ k i, ¬ k = 11 → m3 k i = m k i) → r_X12_year x y z u m3 = some (0, badm m3 1 1) := by
    intro h m3 _ _
    unfold r_X12_year
    rw [if_neg (by rw [isYear_f h]; decide)]
    exact bad m3
  by_cases hy : 1 ≤ y ∧ y ≤ 96
  case neg =>
    refine Pair.b1 (c := 1) hI rfl (by decide) ?_ (bad2 (fun q => hy q.1))
    unfold r_X11_year
    rw [thr_r (needRange_f hy)]
  by_cases hz : 0 ≤ z ∧ z ≤ 16
  case neg =>
    refine Pair.b1 (c := 1) hI rfl (by decide) ?_ (bad2 (fun q => hz q.2))
    unfold r_X11_year
    rw [thr_l (needRange_t hy), thr_r (needRange_f hz)]
  by_cases hu : 0 ≤ u ∧ u ≤ 3
  case neg =>
    refine Pair.b1 (c := 1) hI rfl (by decide) ?_ (fun m3 _ _ => ?_)
    · unfold r_X11_year
      rw [thr_l (needRange_t hy), thr_l (needRange_t hz), thr_r (needRange_f hu)]
    · unfold r_X12_year
      rw [if_pos (isYear_t hy hz), if_neg (by rw [in_f hu]; decide)]
      exact bad m3
  obtain ⟨n, hn1, hn, rfl⟩ := in_le1 (n := 96) (by decide) hy
  obtain ⟨q, hq, rfl⟩ := in_le (n := 16) (by decide) hz
  obtain ⟨k, hk, rfl⟩ := in_le (n := 3) (by decide) hu
  have hRn := yrs_RF (q := q) (x := (m 60 0, x, 0)) hW hR n
  refine Pair.ok (z := yrz (mW m) (m 60 0) x n q k) KY JY KM ((12, 0) :: JZ) hI ?_ (fun m3 _ hF => ?_) rfl rfl rfl rfl rfl rfl
  · unfold r_X11_year
    rw [thr_l (needRange_t hy), thr_l (needRange_t hz), thr_l (needRange_t hu), tot_bd1]
    refine (live_c (sd := x) hW hR hL hC hS hn hq).mono ?_
    rintro m1 ⟨h1, h2, h3, h4⟩
    match k, hk with
    | 0, _ =>
      rw [if_pos (by decide), bd1_s (end_tot hW h2.1 h2.2.2)]
      exact tot_some.mpr ⟨rfl, h4⟩
    | 1, _ =>
      rw [if_neg (by decide), if_pos (by decide), bd1_s (believedInAll_eq (N := wN (mW m)) (h1.2.1.trans hN.1) (by omega)), cnt_st h1]
      exact tot_some.mpr ⟨rfl, h4⟩
    | 2, _ =>
      rw [if_neg (by decide), if_neg (by decide), if_pos (by decide), h3]
      exact tot_some.mpr ⟨rfl, h4⟩
    | 3, _ =>
      rw [if_neg (by decide), if_neg (by decide), if_neg (by decide), h2.2.1]
      exact tot_some.mpr ⟨rfl, h4⟩
  · obtain ⟨e, h60⟩ := pre3 hF (by decide) (by decide) (by decide) (by decide)
    have hW3 : WF (mW (wr m3 12 0 0 0)) := by rw [e]; exact hW
    unfold r_X12_year r_X12_year_j29
    rw [if_pos (isYear_t hy hz), if_pos (in_t hu), bd2_s bad_0, if_neg (by decide), tot_bd1]
    refine (year_m (sd := x) hW3 (by rw [e, h60]; exact hR) hn hq).mono ?_
    rw [e, h60]
    rintro m4 ⟨g1, g2, g3⟩
    have fW4 : mW m4 = mW m := (mW_fj g3 (by decide) (by decide)).trans e
    have hF4 : Fj KM ((12, 0) :: JZ) m3 m4 := ((th_fj m3 0).mono (by simp) (by simp)).tr (g3.mono (by simp) (by simp))
    have z4 : m4 12 0 0 = 0 := (g3 12 0 0 (by decide) (by decide)).trans (th_z m3 0)
    obtain ⟨q1, q2, q3, q4⟩ := crs_er hW g1
    match k, hk with
    | 0, _ =>
      rw [if_pos (by decide), tot_bd2]
      refine (endOf_tot (i := 1) (by rw [fW4]; exact hW)).mono ?_
      rintro ⟨z, m6⟩ ⟨j1, j5⟩
      dsimp only at j1 j5 ⊢
      rw [fW4] at j1
      exact tot_some.mpr ⟨j1.trans q3, (j5 12 0 0 (by decide) (by decide)).trans z4, hF4.tr (j5.mono (by simp) (by simp))⟩
    | 1, _ =>
      have h52 : m4 52 0 2 = nI (wN (mW m)) := by rw [← fW4]; exact (show WF (mW m4) by rw [fW4]; exact hW).2.2.1.1
      rw [if_neg (by decide), if_pos (by decide), bd1_s (believedIn_eq (N := wN (mW m)) h52 hN.2), cnt_cong (fun z hz => g1 z (by omega))]
      exact tot_some.mpr ⟨rfl, z4, hF4⟩
    | 2, _ =>
      rw [if_neg (by decide), if_neg (by decide), if_pos (by decide), g2]
      exact tot_some.mpr ⟨rfl, z4, hF4⟩
    | 3, _ =>
      rw [if_neg (by decide), if_neg (by decide), if_neg (by decide), tot_bd2]
      refine (courseOf_tot (i := 1) (by rw [fW4]; exact hW)).mono ?_
      rintro ⟨z, m6⟩ ⟨j1, j2, j3, j4, j5⟩
      dsimp only at j1 j5 ⊢
      rw [fW4] at j1
      exact tot_some.mpr ⟨j1.trans q2, (j5 12 0 0 (by decide) (by decide)).trans z4, hF4.tr (j5.mono (by simp) (by simp))⟩
/-- the years of a span: fewest places, most, how often a place -/
def spn (f : Nat → Nat) (g : Nat → Nat) : Nat → Nat × Nat × Nat
  | 0 => (12, 0, 0)
  | k + 1 => (if (spn f g k).1 < f k then (spn f g k).1 else f k, if f k < (spn f g k).2.1 then (spn f g k).2.1 else f k, (spn f g k).2.2 + g k)
theorem spn_b {f g : Nat → Nat} (hf : ∀ k, f k ≤ 12) (hg : ∀ k, g k ≤ 1) : ∀ k, (spn f g k).1 ≤ 12 ∧ (spn f g k).2.1 ≤ 12 ∧ (spn f g k).2.2 ≤ k
  | 0 => ⟨Nat.le_refl _, Nat.zero_le _, Nat.le_refl _⟩
  | k + 1 => by
    obtain ⟨h1, h2, h3⟩ := spn_b hf hg k
    have := hf k
    have := hg k
    refine ⟨?_, ?_, ?_⟩
    · show (if _ then _ else _) ≤ 12
      split <;> omega
    · show (if _ then _ else _) ≤ 12
      split <;> omega
    · show _ + _ ≤ _
      omega
theorem nmax {b t : Nat} (hb : b < 100) (ht : t < 100) : (if nI b < nI t then nI t else nI b) = nI (if b < t then t else b) := by
  by_cases h : b < t
  · rw [if_pos h, if_pos (nI_lt h (by omega))]
  · rw [if_neg h, if_neg (nI_nlt (by omega) (by omega))]
theorem more_nI {b t : Nat} (hb : b < 100) (ht : t < 100) : r_X12_more (nI b) (nI t) = nI (if t < b then b else t) := by
  rw [more_eq, nmax (by omega) (by omega)]
theorem imax_nI {b t : Nat} (hb : b < 100) (ht : t < 100) : imax (nI b) (nI t) = nI (if t < b then b else t) := by
  unfold imax
  rw [nmax hb ht]
  congr 1
  split <;> split <;> omega
theorem less_nI {b t : Nat} (hb : b < 100) (ht : t < 100) : r_X12_less (nI b) (nI t) = nI (if b < t then b else t) := by
  rw [less_eq, nmin hb ht]
def spz (x : Nat × Nat × Nat) : Nat → Int32
  | 0 => nI x.1
  | 1 => nI x.2.1
  | _ + 2 => nI x.2.2
theorem rng_pred {v : Int32} {P : Nat} (hP : P ≤ 12) : (0 ≤ v ∧ v ≤ nI P - 1) ↔ (0 ≤ v ∧ v < nI P) := by
  have e : (nI P - 1).toInt = (P : Int) - 1 := (by decide : ∀ P, P ≤ 12 → (nI P - 1).toInt = (P : Int) - 1) P hP
  have e2 : (nI P).toInt = (P : Int) := (by decide : ∀ P, P ≤ 12 → (nI P).toInt = (P : Int)) P hP
  rw [fa_le, fa_le, fa_lt, e, e2]
  omega
set_option maxHeartbeats 1000000 in
theorem pair_span {m : Mem} (hI : Inv m) (x c y z u v : Int32) : Pair (fun m => r_L_span x c y z u v m) (fun m => r_X12_span x c y z u v m) m := by
  obtain ⟨hW, hR, hL, hC, hS⟩ := hI.1
  have hN := hW.2.2.1
  have hP := hW.1
  have bad : ∀ m3, r_X12_span_j44 x c y z u v (wr m3 12 0 0 0) = some (0, badm m3 1 1) := fun m3 => by
    unfold r_X12_span_j44 r_X12_span_j49
    rw [bd2_s (bad_11 (by decide)), if_pos rfl]
  have bad2 : ¬ ((1 ≤ c ∧ c ≤ 20) ∧ ((1 ≤ y ∧ y ≤ 96) ∧ (0 ≤ z ∧ z ≤ 16)) ∧ (0 ≤ u ∧ u ≤ 2) ∧ isPl (mW m) v) → ∀ m3, mW m3 = mW m → (∀ k i, ¬ k = 11 → m3 k i = m k i) → r_X12_span x c y z u v m3 = some (0, badm m3 1 1) := by
    intro h m3 e _
    have hW3 : WF (mW (wr m3 12 0 0 0)) := by rw [mW_th, e]; exact hW
    unfold r_X12_span
    by_cases h1 : 1 ≤ c ∧ c ≤ 20
    · rw [if_pos (in_t h1)]
      by_cases h2 : (1 ≤ y ∧ y ≤ 96) ∧ (0 ≤ z ∧ z ≤ 16)
      · rw [if_pos (isYear_t h2.1 h2.2)]
        by_cases h3 : 0 ≤ u ∧ u ≤ 2
        · rw [if_pos (in_t h3), bd1_s (isPlace_f hW3 (by rw [mW_th, e]; exact fun q => h ⟨h1, h2, h3, q⟩)), if_neg (by decide)]
          exact bad m3
        · rw [if_neg (by rw [in_f h3]; decide)]
          exact bad m3
      · rw [if_neg (by rw [isYear_f h2]; decide)]
        exact bad m3
    · rw [if_neg (by rw [in_f h1]; decide)]
      exact bad m3
  by_cases hc : 1 ≤ c ∧ c ≤ 20
  case neg =>
    refine Pair.b1 (c := 1) hI rfl (by decide) ?_ (bad2 (fun q => hc q.1))
    unfold r_X11_span
    rw [thr_r (needRange_f hc)]
  by_cases hy : 1 ≤ y ∧ y ≤ 96
  case neg =>
    refine Pair.b1 (c := 1) hI rfl (by decide) ?_ (bad2 (fun q => hy q.2.1.1))
    unfold r_X11_span
    rw [thr_l (needRange_t hc), thr_r (needRange_f hy)]
  by_cases hz : 0 ≤ z ∧ z ≤ 16
  case neg =>
    refine Pair.b1 (c := 1) hI rfl (by decide) ?_ (bad2 (fun q => hz q.2.1.2))
    unfold r_X11_span
    rw [thr_l (needRange_t hc), thr_l (needRange_t hy), thr_r (needRange_f hz)]
  by_cases hu : 0 ≤ u ∧ u ≤ 2
  case neg =>
    refine Pair.b1 (c := 1) hI rfl (by decide) ?_ (bad2 (fun q => hu q.2.2.1))
    unfold r_X11_span
    rw [thr_l (needRange_t hc), thr_l (needRange_t hy), thr_l (needRange_t hz), thr_r (needRange_f hu)]
  have hrg : (0 ≤ v ∧ v ≤ m 3 0 0 - 1) ↔ isPl (mW m) v := by
    have e3 : m 3 0 0 = nI (wP (mW m)) := hL.1.trans hP.1
    have e0 : mW m 0 0 = nI (wP (mW m)) := hP.1
    unfold isPl
    rw [e3, e0]
    exact rng_pred hP.2
  by_cases hv : isPl (mW m) v
  case neg =>
    refine Pair.b1 (c := 1) hI rfl (by decide) ?_ (bad2 (fun q => hv q.2.2.2))
    unfold r_X11_span
    rw [thr_l (needRange_t hc), thr_l (needRange_t hy), thr_l (needRange_t hz), thr_l (needRange_t hu), thr_r (needRange_f (fun q => hv (hrg.mp q)))]
  obtain ⟨n, hn1, hn, rfl⟩ := in_le1 (n := 96) (by decide) hy
  obtain ⟨t, ht1, ht, rfl⟩ := in_le1 (n := 20) (by decide) hc
  obtain ⟨q, hq, rfl⟩ := in_le (n := 16) (by decide) hz
  obtain ⟨k, hk, rfl⟩ := in_le (n := 2) (by decide) hu
  obtain ⟨a, ha, rfl⟩ := isPl_of hW hv
  have hf : ∃ f : Nat → Nat, f = fun i => cL (mW m) (yrs (mW m) q (m 60 0, x + nI i, 0) n).1 := ⟨_, rfl⟩
  obtain ⟨f, hf⟩ := hf
  have hg : ∃ g : Nat → Nat, g = fun i => if bt (cB (mW m) (yrs (mW m) q (m 60 0, x + nI i, 0) n).1) a = true then 1 else 0 := ⟨_, rfl⟩
  obtain ⟨g, hg⟩ := hg
  have hfb : ∀ i, f i ≤ 12 := fun i => by rw [hf]; exact cL_le hW _
  have hgb : ∀ i, g i ≤ 1 := fun i => by
    rw [hg]
    show (if _ then _ else _) ≤ 1
    split <;> omega
  have hfe : ∀ i, cL (mW m) (yrs (mW m) q (m 60 0, x + nI i, 0) n).1 = f i := fun i => by rw [hf]
  have hge : ∀ i, (if bt (cB (mW m) (yrs (mW m) q (m 60 0, x + nI i, 0) n).1) a = true then 1 else 0) = g i := fun i => by rw [hg]
  have hsb := spn_b hfb hgb
  refine Pair.ok (z := spz (spn f g t) k) KY JY KM ((12, 0) :: JZ) hI ?_ (fun m3 _ hF => ?_) rfl rfl rfl rfl rfl rfl
  · unfold r_X11_span r_X11_span_l62
    rw [thr_l (needRange_t hc), thr_l (needRange_t hy), thr_l (needRange_t hz), thr_l (needRange_t hu), thr_l (needRange_t (hrg.mpr hv)), tot_bd1]
    refine tot_for (fun i (s : Int32 × Int32 × Int32 × Int32 × Mem) => s.1 = nI (spn f g i).1 ∧ s.2.1 = nI (spn f g i).2.1 ∧ s.2.2.1 = nI (spn f g i).2.2 ∧ s.2.2.2.1 = nI i ∧ Fj KY JY m s.2.2.2.2) t ?_ ?_ 0 _ (Nat.zero_le _) ⟨rfl, rfl, rfl, rfl, Fj.rf⟩
    · rintro i ⟨x7, x8, x9, x10, m1⟩ hi ⟨e1, e2, e3, e4, hF1⟩
      dsimp only at e1 e2 e3 e4 hF1 ⊢
      subst e1 e2 e3 e4
      unfold r_X11_span_b62
      rw [if_neg (nI_ge hi (by omega)), tot_bd1]
      refine (live_c (sd := x + nI i) hW hR (hL.fj hF1 (by decide) (by decide)) (hC.fj hF1 (by decide) (by decide)) (hS.fj hF1 (by decide) (by decide)) hn hq).mono ?_
      rintro m2 ⟨h1, h2, h3, h4⟩
      obtain ⟨b1, b2, b3⟩ := hsb i
      have b4 := hfb i
      rw [h2.1, h2.2.1, hfe, bit_if (by omega), hge, imin_eq (by omega) (by omega), imax_nI (by omega) (by omega)]
      exact tot_some.mpr ⟨rfl, rfl, nI_add _ _, (nI_succ i).symm, hF1.tr h4⟩
    · rintro ⟨x7, x8, x9, x10, m1⟩ ⟨e1, e2, e3, e4, hF1⟩
      dsimp only at e1 e2 e3 e4 hF1 ⊢
      subst e1 e2 e3 e4
      unfold r_X11_span_b62
      rw [if_pos (nI_le (Nat.le_refl _) (by omega)), tot_some]
      show Tot (r_X11_span_e137_h62 _ _ _ _ _) _
      unfold r_X11_span_e137_h62
      match k, hk with
      | 0, _ =>
        rw [if_pos (by decide)]
        exact tot_some.mpr ⟨rfl, hF1⟩
      | 1, _ =>
        rw [if_neg (by decide), if_pos (by decide)]
        exact tot_some.mpr ⟨rfl, hF1⟩
      | 2, _ =>
        rw [if_neg (by decide), if_neg (by decide)]
        exact tot_some.mpr ⟨rfl, hF1⟩
  · obtain ⟨e, h60⟩ := pre3 hF (by decide) (by decide) (by decide) (by decide)
    have hW3 : WF (mW (wr m3 12 0 0 0)) := by rw [e]; exact hW
    unfold r_X12_span r_X12_span_j49 r_X12_span_l71
    rw [if_pos (in_t hc), if_pos (isYear_t hy hz), if_pos (in_t hu), bd1_s (isPlace_t hW3 (by rw [e]; exact hv)), if_pos rfl, bd2_s bad_0, if_neg (by decide), tot_bd1]
    refine tot_for (fun i (s : Int32 × Int32 × Int32 × Int32 × Mem) => s.1 = (if i = 0 then -1 else nI (spn f g i).1) ∧ s.2.1 = nI (spn f g i).2.1 ∧ s.2.2.1 = nI (spn f g i).2.2 ∧ s.2.2.2.1 = nI i ∧ Fj KM JZ (wr m3 12 0 0 0) s.2.2.2.2) t ?_ ?_ 0 _ (Nat.zero_le _) ⟨rfl, rfl, rfl, rfl, Fj.rf⟩
    · rintro i ⟨x7, x8, x9, x10, m1⟩ hi ⟨e1, e2, e3, e4, hF1⟩
      dsimp only at e1 e2 e3 e4 hF1 ⊢
      subst e2 e3 e4
      have fW1 : mW m1 = mW m := (mW_fj hF1 (by decide) (by decide)).trans e
      have h60b : m1 60 0 = m 60 0 := (hF1.rw' 60 0 (by decide) (by decide)).trans (h60 0)
      unfold r_X12_span_b71
      rw [if_neg (nI_ge hi (by omega)), tot_bd1]
      refine (year_m (sd := x + nI i) (by rw [fW1]; exact hW) (by rw [fW1, h60b]; exact hR) hn hq).mono ?_
      rw [fW1, h60b]
      rintro m4 ⟨g1, g2, g3⟩
      have fW4 : mW m4 = mW m := (mW_fj g3 (by decide) (by decide)).trans fW1
      obtain ⟨q1, q2, q3, q4⟩ := crs_er hW g1
      rw [tot_bd2]
      refine (courseOf_tot (i := 1) (by rw [fW4]; exact hW)).mono ?_
      rintro ⟨z16, m6⟩ ⟨j1, j2, j3, j4, j5⟩
      dsimp only at j1 j5 ⊢
      rw [fW4, q2] at j1
      obtain ⟨b1, b2, b3⟩ := hsb i
      have b4 := hfb i
      have hF6 : Fj KM JZ (wr m3 12 0 0 0) m6 := (hF1.tr g3).tr (j5.mono (by simp) (by simp))
      rw [j1, bd1_s (ones_eq _), onc_cB hW, hfe]
      have e8 := hge i
      generalize cB (mW m) (yrs (mW m) q (m 60 0, x + nI i, 0) n).1 = B at e8 ⊢
      unfold r_X12_span_j123_c71 r_X12_span_j151_c71
      rw [has_eq (by omega), more_nI (by omega) (by omega), e1]
      have hh : (if bt B a = true then (some (Sum.inl ((if i = 0 then nI (f i) else r_X12_less (nI (spn f g i).1) (nI (f i))), nI (if f i < (spn f g i).2.1 then (spn f g i).2.1 else f i), nI (spn f g i).2.2 + 1, nI i + 1, m6)) : Option ((Int32 × Int32 × Int32 × Int32 × Mem) ⊕ (Int32 × Int32 × Int32 × Mem))) else some (Sum.inl ((if i = 0 then nI (f i) else r_X12_less (nI (spn f g i).1) (nI (f i))), nI (if f i < (spn f g i).2.1 then (spn f g i).2.1 else f i), nI (spn f g i).2.2 + 0, nI i + 1, m6))) = some (Sum.inl (nI (spn f g (i + 1)).1, nI (spn f g (i + 1)).2.1, nI (spn f g (i + 1)).2.2, nI (i + 1), m6)) := by
        have e9 : (if i = 0 then nI (f i) else r_X12_less (nI (spn f g i).1) (nI (f i))) = nI (spn f g (i + 1)).1 := by
          by_cases h0 : i = 0
          · rw [if_pos h0]
            subst h0
            show nI (f 0) = nI (if 12 < f 0 then 12 else f 0)
            rw [if_neg (by omega)]
          · rw [if_neg h0, less_nI (by omega) (by omega)]
            rfl
        rw [e9, show nI i + 1 = nI (i + 1) from (nI_succ i).symm]
        by_cases hb : bt B a = true
        · rw [if_pos hb] at e8 ⊢
          rw [show nI (spn f g i).2.2 + 1 = nI (spn f g (i + 1)).2.2 from (by show _ = nI ((spn f g i).2.2 + g i); rw [← e8]; exact (nI_succ _).symm)]
          rfl
        · rw [if_neg hb] at e8 ⊢
          rw [show nI (spn f g i).2.2 + 0 = nI (spn f g (i + 1)).2.2 from (by show _ = nI ((spn f g i).2.2 + g i); rw [← e8, add0]; rfl)]
          rfl
      have hgo : ∀ o : Option ((Int32 × Int32 × Int32 × Int32 × Mem) ⊕ (Int32 × Int32 × Int32 × Mem)), o = some (Sum.inl (nI (spn f g (i + 1)).1, nI (spn f g (i + 1)).2.1, nI (spn f g (i + 1)).2.2, nI (i + 1), m6)) → Tot o (Sum.elim (fun s2 : Int32 × Int32 × Int32 × Int32 × Mem => s2.1 = (if i + 1 = 0 then -1 else nI (spn f g (i + 1)).1) ∧ s2.2.1 = nI (spn f g (i + 1)).2.1 ∧ s2.2.2.1 = nI (spn f g (i + 1)).2.2 ∧ s2.2.2.2.1 = nI (i + 1) ∧ Fj KM JZ (wr m3 12 0 0 0) s2.2.2.2.2) (fun e => Tot (r_X12_span_e160_h71 (nI k) e.1 e.2.1 e.2.2.1 e.2.2.2) (fun p => p.1 = spz (spn f g t) k ∧ p.2 12 0 0 = 0 ∧ Fj KM ((12, 0) :: JZ) m3 p.2))) := by
        intro o ho
        rw [ho]
        exact tot_some.mpr ⟨(if_neg (Nat.succ_ne_zero i)).symm, rfl, rfl, rfl, hF6⟩
      refine hgo _ (Eq.trans ?_ hh)
      by_cases h0 : i = 0
      · rw [if_pos h0, if_pos rfl, if_pos h0]
      · rw [if_neg h0, if_neg (m1_ne (by omega)), if_neg h0]
    · rintro ⟨x7, x8, x9, x10, m1⟩ ⟨e1, e2, e3, e4, hF1⟩
      dsimp only at e1 e2 e3 e4 hF1 ⊢
      rw [if_neg (by omega)] at e1
      subst e1 e2 e3 e4
      have z4 : m1 12 0 0 = 0 := (hF1 12 0 0 (by decide) (by decide)).trans (th_z m3 0)
      have hF4 : Fj KM ((12, 0) :: JZ) m3 m1 := ((th_fj m3 0).mono (by simp) (by simp)).tr (hF1.mono (by simp) (by simp))
      unfold r_X12_span_b71
      rw [if_pos (nI_le (Nat.le_refl _) (by omega)), tot_some]
      show Tot (r_X12_span_e160_h71 _ _ _ _ _) _
      unfold r_X12_span_e160_h71
      match k, hk with
      | 0, _ =>
        rw [if_pos (by decide)]
        exact tot_some.mpr ⟨rfl, z4, hF4⟩
      | 1, _ =>
        rw [if_neg (by decide), if_pos (by decide)]
        exact tot_some.mpr ⟨rfl, z4, hF4⟩
      | 2, _ =>
        rw [if_neg (by decide), if_neg (by decide)]
        exact tot_some.mpr ⟨rfl, z4, hF4⟩
