/-! ===== whom to silence ===== -/
theorem nI_le_iff {a b : Nat} (ha : a < 1000000) (hb : b < 1000000) : nI a ≤ nI b ↔ a ≤ b :=
  ⟨fun h => by
    by_cases h2 : a ≤ b
    · exact h2
    · exact absurd h (nI_ge (by omega) (by omega)), fun h => nI_le h (by omega)⟩
theorem bcnt : ∀ s, s < 64 → r_J6_bitCount_0f7a4 (nI s) = nI (onc (nI s) 12) := by decide +kernel
theorem onc_N : ∀ N, N ≤ 6 → ∀ s, s < 2 ^ N → onc (nI s) 12 ≤ N := by decide +kernel
/-- the smallest set with fewest in it, among those from lo to hi -/
def MB (ok : Nat → Bool) (lo hi : Nat) (b : Int32) : Prop := (b = -1 ∧ ∀ s, lo ≤ s → s < hi → ok s = false) ∨ ∃ t, b = nI t ∧ lo ≤ t ∧ t < hi ∧ ok t = true ∧ ∀ s, lo ≤ s → s < hi → ok s = true → onc (nI t) 12 < onc (nI s) 12 ∨ (onc (nI t) 12 = onc (nI s) 12 ∧ t ≤ s)
theorem MB.uq {ok : Nat → Bool} {hi : Nat} {b c : Int32} (h : MB ok 0 hi b) (h2 : MB ok 0 hi c) : b = c := by
  rcases h with ⟨e, h⟩ | ⟨t, e, h0, h1, h3, h4⟩
  · rcases h2 with ⟨e2, -⟩ | ⟨t2, e2, -, g1, g3, -⟩
    · rw [e, e2]
    · rw [h t2 (Nat.zero_le _) g1] at g3
      cases g3
  · rcases h2 with ⟨e2, g⟩ | ⟨t2, e2, g0, g1, g3, g4⟩
    · rw [g t h0 h1] at h3
      cases h3
    · have a1 := h4 t2 g0 g1 g3
      have a2 := g4 t h0 h1 h3
      have : t = t2 := by omega
      rw [e, e2, this]
theorem silT_c {w : Wd} {r : Rw} {m : Mem} {a : Nat} (hW : WF w) (hL : CL w m) (hC : CW w m) (hS : StC w r m 0) (ha : a < wP w) : Tot (r_X0_findSilence 0 (nI a) m) (fun q => MB (fun s => bt (cB w (silQ r s (12 * wN w))) a) 0 (2 ^ wN w) q.1 ∧ Fj KC JC m q.2) := by
  have hN := hW.2.2.1
  have hP := hW.1
  have hp64 : 2 ^ wN w ≤ 2 ^ 6 := Nat.pow_le_pow_right (by decide) hN.2
  have h3 : ∀ m', Fj KC JC m m' → m' 3 0 2 = nI (wN w) := fun m' hF => by
    rw [(hL.fj hF (by decide) (by decide)).2.2.1, hN.1]
  unfold r_X0_findSilence r_X0_findSilence_l16
  rw [h3 m Fj.rf, tot_bd1]
  generalize hok : (fun s => bt (cB w (silQ r s (12 * wN w))) a) = ok
  have hoe : ∀ s, bt (cB w (silQ r s (12 * wN w))) a = ok s := fun s => by rw [← hok]
  refine tot_for (fun s (t : Int32 × Int32 × Int32 × Mem) => MB ok 0 s t.1 ∧ t.2.1 = (if t.1 = -1 then nI (wN w) + 1 else nI (onc t.1 12)) ∧ t.2.2.1 = nI s ∧ Fj KC JC m t.2.2.2) (2 ^ wN w) ?_ ?_ 0 _ (Nat.zero_le _) ⟨Or.inl ⟨rfl, fun s _ hs => absurd hs (Nat.not_lt_zero s)⟩, rfl, rfl, Fj.rf⟩
  · rintro s ⟨x3, x4, x5, m1⟩ hs ⟨e1, e2, e3, hF⟩
    dsimp only at e1 e2 e3 hF ⊢
    subst e3
    have o1 := onc_N (wN w) hN.2 s hs
    unfold r_X0_findSilence_b16
    rw [h3 m1 hF, shl_pow _ (by omega), if_neg (nI_ge hs (by omega)), bcnt s (by omega)]
    by_cases hx : x4 ≤ nI (onc (nI s) 12)
    · rw [if_pos hx]
      unfold r_X0_findSilence_j82_c16
      refine tot_some.mpr ⟨?_, e2, (nI_succ s).symm, hF⟩
      rcases e1 with ⟨f1, f2⟩ | ⟨t, f1, f2, f3, f4, f5⟩
      · rw [if_pos f1] at e2
        rw [e2, ← nI_succ] at hx
        exact absurd hx (nI_ge (by omega) (by omega))
      · have o2 := onc_N (wN w) hN.2 t (by omega)
        rw [if_neg (by rw [f1]; exact m1_ne (by omega)), f1] at e2
        rw [e2, nI_le_iff (by omega) (by omega)] at hx
        refine Or.inr ⟨t, f1, f2, by omega, f4, fun s2 g1 g2 g3 => ?_⟩
        by_cases hh : s2 = s
        · rw [hh]
          omega
        · exact f5 s2 g1 (by omega) g3
    · rw [if_neg hx, tot_bd1]
      refine (forgotten_c (s := s) hW (hS.fj hF (by decide) (by decide))).mono ?_
      rintro m2 ⟨c1, c2⟩
      have hF2 : Fj KC JC m m2 := hF.tr ((c2.mono (by simp)).j)
      rw [tot_bd1]
      refine (trace_tot hW (hL.fj hF2 (by decide) (by decide)) (hC.fj hF2 (by decide) (by decide)) c1).mono ?_
      rintro m3 ⟨t1, t2, t3, t4⟩
      have hF3 : Fj KC JC m m3 := hF2.tr (t4.mono (by simp) (by simp))
      have hk := hoe s
      rw [t2]
      generalize cB w (silQ r s (12 * wN w)) = B at hk ⊢
      unfold r_X0_findSilence_j82_c16
      by_cases hb : bt B a = true
      · rw [if_neg (fun q => by have := (bit_0 (by omega)).mp q; rw [hb] at this; cases this)]
        rw [hb] at hk
        refine tot_some.mpr ⟨Or.inr ⟨s, rfl, Nat.zero_le _, by omega, hk.symm, fun s2 g1 g2 g3 => ?_⟩, (if_neg (m1_ne (by omega))).symm, (nI_succ s).symm, hF3⟩
        by_cases hh : s2 = s
        · rw [hh]
          omega
        · left
          rcases e1 with ⟨f1, f2⟩ | ⟨t, f1, f2, f3, f4, f5⟩
          · rw [f2 s2 g1 (by omega)] at g3
            cases g3
          · have o2 := onc_N (wN w) hN.2 t (by omega)
            rw [if_neg (by rw [f1]; exact m1_ne (by omega)), f1] at e2
            rw [e2, nI_le_iff (by omega) (by omega)] at hx
            have := f5 s2 g1 (by omega) g3
            omega
      · rw [if_pos ((bit_0 (by omega)).mpr (ts_nt' hb))]
        rw [ts_nt' hb] at hk
        refine tot_some.mpr ⟨?_, e2, (nI_succ s).symm, hF3⟩
        rcases e1 with ⟨f1, f2⟩ | ⟨t, f1, f2, f3, f4, f5⟩
        · refine Or.inl ⟨f1, fun s2 g1 g2 => ?_⟩
          by_cases hh : s2 = s
          · rw [hh, ← hk]
          · exact f2 s2 g1 (by omega)
        · refine Or.inr ⟨t, f1, f2, by omega, f4, fun s2 g1 g2 g3 => ?_⟩
          by_cases hh : s2 = s
          · rw [hh, ← hk] at g3
            cases g3
          · exact f5 s2 g1 (by omega) g3
  · rintro ⟨x3, x4, x5, m1⟩ ⟨e1, e2, e3, hF⟩
    dsimp only at e1 e2 e3 hF ⊢
    subst e3
    unfold r_X0_findSilence_b16
    rw [h3 m1 hF, shl_pow _ (by omega), if_pos (nI_le (Nat.le_refl _) (by omega)), tot_some]
    exact tot_some.mpr ⟨e1, hF⟩
set_option maxHeartbeats 1000000 in
theorem silT_m {m : Mem} {a : Nat} (hW : WF (mW m)) (ha : a < wP (mW m)) : Tot (loopO (fun s => r_X12_silence_b42 (nI a) s.1 s.2.1 s.2.2) (-1, nI (2 ^ wN (mW m)) - 1, m)) (fun q => MB (fun s => bt (cB (mW m) (silQ (m 60 0) s (12 * wN (mW m)))) a) 0 (2 ^ wN (mW m)) q.1 ∧ Fj KM [(12, 42)] m q.2) := by
  have hN := hW.2.2.1
  have hP := hW.1
  have hp1 : 1 ≤ 2 ^ wN (mW m) := Nat.one_le_two_pow
  have hp64 : 2 ^ wN (mW m) ≤ 2 ^ 6 := Nat.pow_le_pow_right (by decide) hN.2
  generalize hok : (fun s => bt (cB (mW m) (silQ (m 60 0) s (12 * wN (mW m)))) a) = ok
  have hoe : ∀ s, bt (cB (mW m) (silQ (m 60 0) s (12 * wN (mW m)))) a = ok s := fun s => by rw [← hok]
  refine tot_for (fun k (t : Int32 × Int32 × Mem) => MB ok (2 ^ wN (mW m) - k) (2 ^ wN (mW m)) t.1 ∧ t.2.1 = nI (2 ^ wN (mW m) - k) - 1 ∧ Fj KM [(12, 42)] m t.2.2) (2 ^ wN (mW m)) ?_ ?_ 0 _ (Nat.zero_le _) ⟨Or.inl ⟨rfl, fun s h1 hs => by omega⟩, rfl, Fj.rf⟩
  · rintro k ⟨x2, x3, m1⟩ hk ⟨e1, e2, hF⟩
    dsimp only at e1 e2 hF ⊢
    obtain ⟨s, hs⟩ : ∃ s, 2 ^ wN (mW m) - k = s + 1 := ⟨2 ^ wN (mW m) - k - 1, by omega⟩
    have hs2 : 2 ^ wN (mW m) - (k + 1) = s := by omega
    rw [hs] at e1 e2
    rw [hs2]
    rw [show nI (s + 1) - 1 = nI s from nI_sub (a := s + 1) (b := 1) (by omega)] at e2
    subst e2
    have fW : mW m1 = mW m := mW_fj hF (by decide) (by decide)
    have h60 : m1 60 0 = m 60 0 := hF.rw' 60 0 (by decide) (by decide)
    unfold r_X12_silence_b42
    rw [if_neg (show ¬ nI (s) < (0 : Int32) from nI_nlt (a := s) (b := 0) (by omega) (by omega)), tot_bd1]
    refine (silences_m (s := s) (by rw [fW]; exact hW)).mono ?_
    rw [fW, h60]
    rintro m2 ⟨c1, c2⟩
    have hF2 : Fj KM [(12, 42)] m m2 := hF.tr ((c2.mono (by simp)).j)
    have fW2 : mW m2 = mW m := mW_fj hF2 (by decide) (by decide)
    obtain ⟨q1, q2, q3, q4⟩ := crs_er hW c1
    rw [tot_bd2]
    refine (courseOf_tot (i := 1) (by rw [fW2]; exact hW)).mono ?_
    rintro ⟨z16, m6⟩ ⟨j1, j2, j3, j4, j5⟩
    dsimp only at j1 j5 ⊢
    rw [fW2, q2] at j1
    have hF6 : Fj KM [(12, 42)] m m6 := hF2.tr (j5.mono (by simp) (by simp))
    have hko := hoe s
    rw [j1]
    generalize cB (mW m) (silQ (m 60 0) s (12 * wN (mW m))) = B at hko ⊢
    have enx : nI s + (-1) = nI s - 1 := by rw [Int32.sub_eq_add_neg]
    unfold r_X12_silence_j82_c42 r_X12_silence_j86_c42 r_X12_silence_j87_c42
    rw [has_eq (by omega), enx]
    by_cases hb : bt B a = true
    · rw [if_pos hb]
      rw [hb] at hko
      rcases e1 with ⟨f1, f2⟩ | ⟨t, f1, f2, f3, f4, f5⟩
      · rw [if_pos f1]
        refine tot_some.mpr ⟨Or.inr ⟨s, rfl, Nat.le_refl _, by omega, hko.symm, fun s2 g1 g2 g3 => ?_⟩, rfl, hF6⟩
        by_cases hh : s2 = s
        · rw [hh]
          omega
        · rw [f2 s2 (by omega) g2] at g3
          cases g3
      · have o1 := onc_le (nI t) 12
        have o2 := onc_le (nI s) 12
        rw [f1, if_neg (m1_ne (by omega)), bd1_s (ones_eq _), bd1_s (ones_eq _)]
        by_cases hlt : onc (nI t) 12 < onc (nI s) 12
        · rw [if_pos (nI_lt hlt (by omega))]
          refine tot_some.mpr ⟨Or.inr ⟨t, rfl, by omega, f3, f4, fun s2 g1 g2 g3 => ?_⟩, rfl, hF6⟩
          by_cases hh : s2 = s
          · rw [hh]
            exact Or.inl hlt
          · exact f5 s2 (by omega) g2 g3
        · rw [if_neg (nI_nlt (by omega) (by omega))]
          refine tot_some.mpr ⟨Or.inr ⟨s, rfl, Nat.le_refl _, by omega, hko.symm, fun s2 g1 g2 g3 => ?_⟩, rfl, hF6⟩
          by_cases hh : s2 = s
          · rw [hh]
            omega
          · have := f5 s2 (by omega) g2 g3
            omega
    · rw [if_neg hb]
      rw [ts_nt' hb] at hko
      refine tot_some.mpr ⟨?_, rfl, hF6⟩
      rcases e1 with ⟨f1, f2⟩ | ⟨t, f1, f2, f3, f4, f5⟩
      · refine Or.inl ⟨f1, fun s2 g1 g2 => ?_⟩
        by_cases hh : s2 = s
        · rw [hh, ← hko]
        · exact f2 s2 (by omega) g2
      · refine Or.inr ⟨t, f1, by omega, f3, f4, fun s2 g1 g2 g3 => ?_⟩
        by_cases hh : s2 = s
        · rw [hh, ← hko] at g3
          cases g3
        · exact f5 s2 (by omega) g2 g3
  · rintro ⟨x2, x3, m1⟩ ⟨e1, e2, hF⟩
    dsimp only at e1 e2 hF ⊢
    rw [Nat.sub_self] at e1 e2
    subst e2
    unfold r_X12_silence_b42
    rw [if_pos (by decide), tot_some]
    exact ⟨e1, hF⟩
set_option maxHeartbeats 1000000 in
theorem pair_silence {m : Mem} (hI : Inv m) (x : Int32) : Pair (fun m => r_L_silence x m) (fun m => r_X12_silence x m) m := by
  obtain ⟨hW, hR, hL, hC, hS⟩ := hI.1
  have hN := hW.2.2.1
  by_cases hx : isPl (mW m) x
  case neg =>
    refine Pair.b0 (c := 1) hI rfl (by decide) ?_ (fun m3 e h3 => ?_)
    · unfold r_X11_silence
      rw [thr_r (needPlace_f hL hx)]
    · have hW3 : WF (mW (wr m3 12 0 0 0)) := by rw [mW_th, e]; exact hW
      unfold r_X12_silence r_X12_silence_j19
      rw [bd1_s (isPlace_f hW3 (by rw [mW_th, e]; exact hx)), if_neg (by decide), bd2_s (bad_10 (by decide)), if_pos rfl]
  obtain ⟨a, ha, rfl⟩ := isPl_of hW hx
  obtain ⟨⟨z, m9⟩, hz, h1, h2⟩ := silT_c hW hL hC hS ha
  refine Pair.ok (z := z) KC JC KM JM hI ?_ (fun m3 _ hF => ?_) rfl rfl rfl rfl rfl rfl
  · unfold r_X11_silence
    rw [thr_l (needPlace_t hL hx), bd2_s hz]
    exact tot_some.mpr ⟨rfl, h2⟩
  · obtain ⟨e, h60⟩ := pre3 hF (by decide) (by decide) (by decide) (by decide)
    have hW3 : WF (mW (wr m3 12 0 0 0)) := by rw [e]; exact hW
    have e9 : wr m3 12 0 0 0 52 0 2 = nI (wN (mW m)) := by rw [← e]; exact hW3.2.2.1.1
    unfold r_X12_silence r_X12_silence_j19 r_X12_silence_l42
    rw [bd1_s (isPlace_t hW3 (by rw [e]; exact hx)), if_pos rfl, bd2_s bad_0, if_neg (by decide), e9, shl_pow _ (by omega), tot_bd1]
    have hh := silT_m (m := wr m3 12 0 0 0) (a := a) hW3 (by rw [e]; exact ha)
    rw [e, h60] at hh
    refine hh.mono ?_
    rintro ⟨z2, m4⟩ ⟨g1, g2⟩
    exact tot_some.mpr ⟨MB.uq g1 h1, (g2 12 0 0 (by decide) (by decide)).trans (th_z m3 0), ((th_fj m3 0).mono (by simp) (by simp)).tr (g2.mono (by simp) (by simp))⟩
