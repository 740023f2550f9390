/-! ===== the book, alike ===== -/
theorem lim_no {x : Int32} {f lim : Nat} (hf : f ≤ 600) (hl : lim ≤ 600) (h : ¬ (0 ≤ x ∧ x ≤ nI (min lim f))) : ¬ ((0 ≤ x ∧ x ≤ nI f) ∧ x ≤ nI lim) := by
  rintro ⟨h1, h2⟩
  obtain ⟨k, hk, rfl⟩ := le_nI (by omega) h1
  exact h ⟨h1.1, nI_le (by have := (nI_le_iff (by omega) (by omega)).mp h2; omega) (by omega)⟩
abbrev KKb : List (Nat × Nat) := [(36, 1), (1, 1), (36, 0), (1, 0), (92, 0), (79, 0), (79, 1), (79, 2), (79, 3), (79, 4), (79, 5), (79, 6), (79, 7), (79, 8), (79, 9), (79, 10), (79, 11), (77, 0), (77, 1), (77, 2), (77, 3), (77, 4), (77, 5), (77, 6), (77, 7), (77, 8), (77, 9), (77, 10), (77, 11)]
abbrev JJb : List (Nat × Nat) := [(8, 1), (8, 2), (8, 3), (8, 4), (8, 5), (8, 6), (12, 0), (12, 1), (12, 2), (12, 3), (12, 4), (12, 5), (12, 6), (12, 7), (12, 8), (12, 35)]
set_option maxHeartbeats 2000000 in
theorem pair_book {m : Mem} (hI : Inv m) (x : Int32) : Pair (fun m => r_L_book x m) (fun m => r_X12_book x m) m := by
  obtain ⟨hW, hR, hL, hC, hS⟩ := hI.1
  obtain ⟨⟨f, f1, f2, f3, f4⟩, f5⟩ := hI.2.1
  by_cases hx : 0 ≤ x ∧ x ≤ nI (min 60 f)
  case neg =>
    refine Pair.b1 (c := 1) hI rfl (by decide) ?_ (fun m3 e h3 => ?_)
    · have ho : r_X11_openText x 60 m = some (Sum.inr 1, wr m 11 0 16 (m 11 0 16 + 1)) := openT_f (lim := 60) f2 f1 (by omega) hx
      unfold r_X11_book
      rw [thr_r ho]
    · have e1 : m3 12 0 1 = nI f := by
        rw [h3 12 0 (by decide)]
        exact f3
      have hno := lim_no f1 (by omega) hx
      have bad : r_X12_book_j24 x (wr m3 12 0 0 0) = some (0, badm m3 1 1) := by
        unfold r_X12_book_j24 r_X12_book_j29
        rw [bd2_s (bad_11 (by decide)), if_pos rfl]
      unfold r_X12_book
      rw [e1]
      by_cases h1 : 0 ≤ x ∧ x ≤ nI f
      · rw [if_pos (in_t h1), if_neg (show ¬ x ≤ 60 from fun q => hno ⟨h1, q⟩)]
        exact bad
      · rw [if_neg (by rw [in_f h1]; decide)]
        exact bad
  obtain ⟨L, hLm, rfl⟩ := le_nI (by omega) hx
  have hby : ∀ k, k < L → ¬ m 49 0 k = -1 := fun k hk => by
    obtain ⟨-, c, hc, e⟩ := f4 k (by omega)
    rw [e]
    exact m1_ne (by omega)
  refine Pair.gen ?_
  obtain ⟨m2, ho, tc, v1, v3, v4, hF2⟩ := openT_t (b := m 49 0) (lim := 60) (L := L) f2 f1 (by omega) (by omega) (by omega) (fun k hk => (f4 k hk).1)
  have ho' : r_X11_openText (nI L) 60 m = some (Sum.inl (), m2) := ho
  unfold r_X11_book
  rw [thr_l ho', tot_bd2]
  refine (readB_c hW (hL.fj hF2 (by simp) (by decide)) tc hby (by omega)).mono ?_
  rintro ⟨ok, m5⟩ ⟨⟨n, hB, h1, h2⟩, hF5⟩
  dsimp only at hB h1 h2 hF5 ⊢
  have ref : ∀ (m9 m3 : Mem), Fj [(36, 1), (1, 1), (36, 0), (1, 0)] JO m m9 → m9 8 0 1 = 0 → Fj [(92, 0)] [] m9 m3 → Tot (r_X12_book (nI L) m3) (fun q => (ok = true → q.1 = nI n ∧ (∀ i, i < n → q.2 77 i 0 = lA (m 49 0) L i ∧ q.2 77 i 1 = lC (m 49 0) L i) ∧ q.2 12 0 35 = nI n ∧ q.2 12 0 3 = -1) ∧ (ok = false → q.1 = (lnE (mW m) (m 49 0) L n).1 - 10 ∧ q.2 12 0 3 = nI (lnE (mW m) (m 49 0) L n).2 ∧ q.2 12 0 35 = m3 12 0 35 ∧ ∀ i, q.2 77 i = m3 77 i) ∧ q.2 12 0 0 = 0 ∧ q.2 12 0 1 = 0 ∧ (∀ a b c, ¬ a = 12 → ¬ a = 77 → ¬ a = 79 → q.2 a b c = m3 a b c) ∧ Fj KKb JJb m q.2) := fun m9 m3 hF9 h91 hF3 => by
    have hFm : Fj KKb JJb m m3 := (hF9.mono (by simp) (by simp)).tr (hF3.mono (by simp) (by simp))
    have e1 : m3 12 0 1 = nI f := by
      rw [hF3 12 0 1 (by simp) (by simp), hF9 12 0 1 (by simp) (by simp)]
      exact f3
    unfold r_X12_book r_X12_book_j29
    rw [e1, if_pos (in_t ⟨nI_pos' (by omega), nI_le (by omega) (by omega)⟩), if_pos (show nI L ≤ 60 from nI_le (b := 60) (by omega) (by omega)), bd2_s bad_0, if_neg (by decide), tot_bd1]
    have hFt : Fj KKb JJb m (wr m3 12 0 0 0) := hFm.wrJ (by simp) _ _
    have t0 := th_z m3 0
    have ot : ∀ a b c, ¬ a = 12 → wr m3 12 0 0 0 a b c = m3 a b c := fun a b c h => wr_k h
    have o35 : wr m3 12 0 0 0 12 0 35 = m3 12 0 35 := wr_j (by decide)
    generalize wr m3 12 0 0 0 = m4 at hFt t0 ot o35 ⊢
    refine (starts_m (b := m 49 0) (L := L) (by omega) (fun k hk => by rw [hFt 49 0 k (by decide) (by simp)])).mono ?_
    rintro m8 ⟨s1, s2, s3, -, -, hF8⟩
    have hFq : Fj KKb JJb m m8 := hFt.tr (hF8.mono (by simp) (by simp))
    have eW8 : mW m8 = mW m := mW_fj hFq (by decide) (by decide)
    have hrd := readB_m (ok := ok) (n := n) (by rw [eW8]; exact hW) s1 s2 (by rw [eW8]; exact hB)
    rw [eW8] at hrd
    refine hrd.mono ?_
    rintro ⟨z, m7⟩ ⟨r1, r2, hF7⟩
    dsimp only at r1 r2 hF7 ⊢
    refine ⟨r1, fun e => ?_, ?_, ?_, fun a b c h1 h2 h3 => ?_, hFq.tr (hF7.mono (by simp) (by simp))⟩
    · obtain ⟨y1, y2, y3, y4⟩ := r2 e
      refine ⟨y1, y2, y3.trans ?_, fun i => (y4 i).trans ?_⟩
      · rw [hF8 12 0 35 (by simp) (by simp)]
        exact o35
      · funext c
        rw [hF8 77 i c (by simp) (by simp), ot 77 i c (by decide)]
    · rw [hF7 12 0 0 (by simp) (by simp), hF8 12 0 0 (by simp) (by simp)]
      exact t0
    · rw [hF7 12 0 1 (by simp) (by simp)]
      exact s3
    · rw [hF7 a b c (fun hq => by simp at hq; omega) (fun hq => by simp at hq; omega), hF8 a b c (by simp) (fun hq => by simp at hq; omega), ot a b c h1]
  have hF5' : Fj [(36, 1), (1, 1), (36, 0), (1, 0)] JO m m5 := (hF2.mono (by simp) (by simp)).tr (hF5.mono (by simp) (by simp))
  have v5 : m5 8 0 1 = 0 := by
    rw [hF5 8 0 1 (by simp) (by simp)]
    exact v1
  cases ok with
  | false =>
    rw [if_neg (by decide)]
    have d := h2 rfl
    refine tot_some.mpr ⟨(lnE (mW m) (m 49 0) L n).1 - 10, ?_, fun i => ?_, fun m3 hF3 => (ref m5 m3 hF5' v5 hF3).mono ?_⟩
    · show Sum.inl (m5 8 0 4 - 10) = _
      rw [d.1]
    · funext c
      exact hF5' 100 i c (by simp) (by simp)
    · rintro ⟨z, M⟩ ⟨-, r2, r3, r4, r5, r6⟩
      dsimp only at r2 r3 r4 r5 r6 hF3 ⊢
      obtain ⟨y1, y2, y3, y4⟩ := r2 rfl
      have o8 : ∀ c, M 8 0 c = m5 8 0 c := fun c => (r5 8 0 c (by decide) (by decide) (by decide)).trans (hF3 8 0 c (by simp) (by simp))
      refine ⟨y1, r3, ?_, fun i => ?_, Inv.rd hI r6 rfl rfl (by rw [o8]; exact v5) r4 (by rw [o8, y2]; exact d.2) ?_⟩
      · funext c
        exact r5 92 0 c (by decide) (by decide) (by decide)
      · funext c
        exact r5 100 i c (by decide) (by decide) (by decide)
      · have hWM : mW M = mW m := mW_fj r6 (by decide) (by decide)
        refine hI.2.2.2.2.1.c hWM ?_ ?_ (fun j => ?_) ?_
        · funext c
          rw [r5 1 0 c (by decide) (by decide) (by decide), hF3 1 0 c (by simp) (by simp), hF5 1 0 c (by simp) (by simp), hF2 1 0 c (by simp) (by simp)]
        · rw [y3, hF3 12 0 35 (by simp) (by simp), hF5 12 0 35 (by simp) (by simp), hF2 12 0 35 (by simp) (by simp)]
        · rw [y4 j]
          funext c
          rw [hF3 77 j c (by simp) (by simp), hF5 77 j c (by simp) (by simp), hF2 77 j c (by simp) (by simp)]
        · funext c
          rw [r5 36 0 c (by decide) (by decide) (by decide), hF3 36 0 c (by simp) (by simp), hF5 36 0 c (by simp) (by simp), hF2 36 0 c (by simp) (by simp)]
  | true =>
    rw [if_pos rfl]
    obtain ⟨u1, u2, u3⟩ := h1 rfl
    unfold r_X1_copyFrom
    rw [bd1_s rfl]
    have w1 : ∀ a b c, ¬ a = 1 → ¬ a = 36 → cpM (wr m5 1 0 0 (m5 1 1 0)) 36 1 0 36 0 0 12 a b c = m5 a b c := fun a b c h1 h2 => by
      rw [cp_k h2, wr_k h1]
    have w2 : cpM (wr m5 1 0 0 (m5 1 1 0)) 36 1 0 36 0 0 12 1 0 0 = nI n := by
      rw [cp_k (by decide), wr_eq]
      exact u2
    have w3 : ∀ a, a < 12 → cpM (wr m5 1 0 0 (m5 1 1 0)) 36 1 0 36 0 0 12 36 0 a = us (m 49 0) L n a := fun a ha => by
      rw [cp_at _ _ _ _ _ _ ha, wr_k (by decide)]
      exact u1 a ha
    have hF9 : Fj [(36, 1), (1, 1), (36, 0), (1, 0)] JO m (cpM (wr m5 1 0 0 (m5 1 1 0)) 36 1 0 36 0 0 12) := hF5'.tr ((cp_fr (Fr.rf.wr (by simp) _ _) (by simp)).j)
    generalize cpM (wr m5 1 0 0 (m5 1 1 0)) 36 1 0 36 0 0 12 = m9 at w1 w2 w3 hF9 ⊢
    refine tot_some.mpr ⟨nI n, congrArg Sum.inl w2, fun i => ?_, fun m3 hF3 => (ref m9 m3 hF9 (by rw [w1 8 0 1 (by decide) (by decide)]; exact v5) hF3).mono ?_⟩
    · funext c
      exact hF9 100 i c (by simp) (by simp)
    · rintro ⟨z, M⟩ ⟨r1, -, r3, r4, r5, r6⟩
      dsimp only at r1 r3 r4 r5 r6 hF3 ⊢
      obtain ⟨y1, y2, y3, y4⟩ := r1 rfl
      have o8 : ∀ c, M 8 0 c = m5 8 0 c := fun c => ((r5 8 0 c (by decide) (by decide) (by decide)).trans (hF3 8 0 c (by simp) (by simp))).trans (w1 8 0 c (by decide) (by decide))
      refine ⟨y1, r3, ?_, fun i => ?_, Inv.rd hI r6 rfl rfl (by rw [o8]; exact v5) r4 (by rw [o8, y4]; exact u3) ?_⟩
      · funext c
        exact r5 92 0 c (by decide) (by decide) (by decide)
      · funext c
        exact r5 100 i c (by decide) (by decide) (by decide)
      · have hWM : mW M = mW m := mW_fj r6 (by decide) (by decide)
        refine book_i5 (b := m 49 0) (L := L) (n := n) hW hWM (fun j hj => (hB.1 j hj).2) ?_ y3 y2 (fun a ha => ?_)
        · rw [r5 1 0 0 (by decide) (by decide) (by decide), hF3 1 0 0 (by simp) (by simp)]
          exact w2
        · rw [r5 36 0 a (by decide) (by decide) (by decide), hF3 36 0 a (by simp) (by simp)]
          exact w3 a ha
