/-! ===== work, alike: the two sides ===== -/
set_option maxHeartbeats 2000000 in
theorem pair_work {m : Mem} (hI : Inv m) (x : Int32) : Pair (fun m => r_L_work x m) (fun m => r_X12_work x m) m := by
  obtain ⟨hW, hR, hL, hC, hS⟩ := hI.1
  obtain ⟨⟨f, f1, f2, f3, f4⟩, f5⟩ := hI.2.1
  obtain ⟨k, kk1, kk2, kk3, kk4⟩ := hI.2.2.1
  by_cases hx : 0 ≤ x ∧ x ≤ nI (min 150 f)
  case neg =>
    refine Pair.b1 (c := 1) hI rfl (by decide) ?_ (fun m3 e h3 => ?_)
    · have ho : r_X11_openText x 150 m = some (Sum.inr 1, wr m 11 0 16 (m 11 0 16 + 1)) := openT_f (lim := 150) f2 f1 (by omega) hx
      unfold r_X11_work
      rw [thr_r ho]
    · have e1 : m3 12 0 1 = nI f := by
        rw [h3 12 0 (by decide)]
        exact f3
      have hno := lim_no f1 (by omega) hx
      have bad : r_X12_work_j25 x (wr m3 12 0 0 0) = some (0, badm m3 1 1) := by
        unfold r_X12_work_j25 r_X12_work_j30
        rw [bd2_s (bad_11 (by decide)), if_pos rfl]
      unfold r_X12_work
      rw [e1]
      by_cases h1 : 0 ≤ x ∧ x ≤ nI f
      · rw [if_pos (in_t h1), if_neg (show ¬ x ≤ 150 from fun q => hno ⟨h1, q⟩)]
        exact bad
      · rw [if_neg (by rw [in_f h1]; decide)]
        exact bad
  obtain ⟨L, hLm, rfl⟩ := le_nI (by omega) hx
  have hby : ∀ k, k < L → ¬ m 49 0 k = -1 := fun k hk => by
    obtain ⟨-, c, hc, e⟩ := f4 k (by omega)
    rw [e]
    exact m1_ne (by omega)
  refine Pair.gen ?_
  obtain ⟨m2, ho, tc, v1, v3, v4, hF2⟩ := openT_t (b := m 49 0) (lim := 150) (L := L) f2 f1 (by omega) (by omega) (by omega) (fun k hk => (f4 k hk).1)
  have ho' : r_X11_openText (nI L) 150 m = some (Sum.inl (), m2) := ho
  have h52 : m2 5 0 0 = nI k := by
    rw [hF2.kd 5 0 rfl]
    exact kk2
  unfold r_X11_work
  rw [thr_l ho']
  by_cases hk : k < 16
  case neg =>
    rw [if_neg (show ¬ m2 5 0 0 < 16 by rw [h52]; exact (show ¬ nI (k) < (16 : Int32) from nI_nlt (a := k) (b := 16) (by omega) (by omega)))]
    refine tot_some.mpr ⟨-20, rfl, fun i => hF2.kd 100 i rfl, fun m3 (hF3 : Fj [(92, 0)] [] m2 m3) => ?_⟩
    have e1 : m3 12 0 1 = nI f := by
      rw [hF3.kd 12 0 rfl, hF2.kd 12 0 rfl]
      exact f3
    have e36 : wr m3 12 0 0 0 12 0 36 = 16 := by
      rw [wr_j (by decide), hF3.kd 12 0 rfl, hF2.kd 12 0 rfl, kk3, show k = 16 by omega]
      rfl
    unfold r_X12_work r_X12_work_j30
    rw [e1, if_pos (in_t ⟨nI_pos' (by omega), nI_le (by omega) (by omega)⟩), if_pos (show nI L ≤ 150 from nI_le (b := 150) (by omega) (by omega)), bd2_s bad_0, if_neg (by decide), if_pos e36]
    have hF4 : Fj [] [(12, 0), (12, 1), (12, 3)] m3 (wr (wr (wr m3 12 0 0 0) 12 0 1 0) 12 0 3 (-1)) := ((Fj.rf.wrJ (by simp) _ _).wrJ (by simp) _ _).wrJ (by simp) _ _
    have z0 : wr (wr (wr m3 12 0 0 0) 12 0 1 0) 12 0 3 (-1) 12 0 0 = 0 := by rw [wr_j (by decide), wr_j (by decide), wr_eq]
    have z1 : wr (wr (wr m3 12 0 0 0) 12 0 1 0) 12 0 3 (-1) 12 0 1 = 0 := by rw [wr_j (by decide), wr_eq]
    have z3 : wr (wr (wr m3 12 0 0 0) 12 0 1 0) 12 0 3 (-1) 12 0 3 = -1 := wr_eq _ _ _ _ _
    generalize wr (wr (wr m3 12 0 0 0) 12 0 1 0) 12 0 3 (-1) = M at hF4 z0 z1 z3 ⊢
    have o8 : ∀ c, M 8 0 c = m2 8 0 c := fun c => by rw [hF4.kd 8 0 rfl, hF3.kd 8 0 rfl]
    refine tot_some.mpr ⟨rfl, z0, hF4.kd 92 0 rfl, fun i => hF4.kd 100 i rfl, ?_⟩
    show Inv M
    refine Inv.rx hI (fun k i hk => ?_) ?_ ?_ (fun c hc => ?_) (by rw [o8]; exact v1) z1 (by rw [o8, z3]; exact v3)
    · rw [hF4.kr rfl rfl k i hk, hF3.kr rfl rfl k i hk, hF2.kr rfl rfl k i hk]
    · rw [hF4.kd 11 0 rfl, hF3.kd 11 0 rfl, hF2.kd 11 0 rfl]
    · rw [hF4.kd 50 0 rfl, hF3.kd 50 0 rfl, hF2.kd 50 0 rfl]
    · rw [hF4 12 0 c (by simp) (fun hq => by simp at hq; omega), hF3.kd 12 0 rfl, hF2.kd 12 0 rfl]
  rw [if_pos (show m2 5 0 0 < 16 by rw [h52]; exact (show nI (k) < (16 : Int32) from nI_lt (a := k) (b := 16) (by omega) (by omega))), tot_bd2]
  refine (readK_c hW (by omega) hby tc (hL.fj hF2 (by simp) (by decide))).mono ?_
  rintro ⟨ok, m5⟩ ⟨h1, h2, hF5⟩
  dsimp only at h1 h2 hF5 ⊢
  have hF5' : Fj KSc [(8, 1), (8, 2), (8, 3), (8, 4), (8, 5), (8, 6), (9, 3)] m m5 := (hF2.mono (by simp) (by simp)).tr (hF5.mono (fun q hq => hq) (by simp))
  have v5 : m5 8 0 1 = 0 := by
    rw [hF5 8 0 1 (by simp) (by simp)]
    exact v1
  cases hV : wkP (m 49 0) L (mW m) with
  | inl e =>
    obtain ⟨d1, d2⟩ := h2 e hV
    rw [if_neg (by rw [d1]; decide)]
    refine tot_some.mpr ⟨e.1 - 10, ?_, fun i => ?_, fun m3 (hF3 : Fj [(92, 0)] [] m5 m3) => ?_⟩
    · show Sum.inl (m5 8 0 4 - 10) = _
      rw [d2.1]
    · exact hF5'.kd 100 i rfl
    · have eW : mW m3 = mW m := by rw [mW_fj hF3 (by decide) (by simp), mW_fj hF5' (by decide) (by decide)]
      have e60 : m3 60 0 = m 60 0 := by rw [hF3.kd 60 0 rfl, hF5'.kd 60 0 rfl]
      have rf := ref_work (b := m 49 0) (f := f) (k := k) (m := m3) (by rw [hF3.kd 12 0 rfl, hF5'.kd 12 0 rfl]; exact f3) (by omega) f1 (by omega) (fun k hk => by rw [hF3.kd 49 0 rfl, hF5'.kd 49 0 rfl]) hby (by rw [eW]; exact hW) (by rw [eW, e60]; exact hR) (by rw [hF3.kd 12 0 rfl, hF5'.kd 12 0 rfl]; exact kk3) hk
      rw [eW] at rf
      refine rf.mono ?_
      rintro ⟨z, M⟩ ⟨-, r2, r3, r4, -⟩
      dsimp only at r2 r3 r4 ⊢
      obtain ⟨y1, y2, y3⟩ := r2 e hV
      have o8 : ∀ c, M 8 0 c = m5 8 0 c := fun c => by rw [y3.kd 8 0 rfl, hF3.kd 8 0 rfl]
      refine ⟨y1, r3, y3.kd 92 0 rfl, fun i => y3.kd 100 i rfl, Inv.rx hI (fun k i hk => ?_) ?_ ?_ (fun c hc => ?_) (by rw [o8]; exact v5) r4 (by rw [o8, y2]; exact d2.2)⟩
      · rw [y3.kr (fun k i hk => by unfold P81 at hk; rw [beq_iff_eq] at hk; subst hk; simp [kR]) rfl k i hk, hF3.kr rfl rfl k i hk, hF5'.kr rfl rfl k i hk]
      · rw [y3.kd 11 0 rfl, hF3.kd 11 0 rfl, hF5'.kd 11 0 rfl]
      · rw [y3.kd 50 0 rfl, hF3.kd 50 0 rfl, hF5'.kd 50 0 rfl]
      · rw [y3 12 0 c rfl (fun hq => by simp at hq; omega), hF3.kd 12 0 rfl, hF5'.kd 12 0 rfl]
  | inr pl =>
    obtain ⟨p, l⟩ := pl
    obtain ⟨d1, d2, d3, d4⟩ := h1 p l hV
    obtain ⟨-, hN, n, hVr⟩ := wkP_end hW (show L ≤ 150 by omega) hby hV
    rw [if_pos d1]
    have h55 : m5 5 0 0 = nI k := by
      rw [hF5'.kd 5 0 rfl]
      exact kk2
    have hS5 : StC (mW m) (m 60 0) m5 0 := hS.fr (hF5'.kd 7 0 rfl) (hF5'.kd 20 0 rfl) (hF5'.kd 21 0 rfl) (hF5'.kd 22 0 rfl) (hF5'.kd 23 0 rfl) (hF5'.kd 24 0 rfl)
    unfold r_X5_push
    rw [if_neg (show ¬ 16 ≤ m5 5 0 0 by rw [h55]; exact (show ¬ (16 : Int32) ≤ nI (k) from nI_ge (b := 16) (a := k) (by omega) (by omega))), h55, tot_bd1, tot_bd1]
    refine (keepAt_c (i0 := 0) (v := k) (i2 := 0) hk (by omega) (fun e => ?_)).mono ?_
    · have e' : m 46 0 k = 0 := by
        rw [← hF5'.kd 46 0 rfl]
        exact e
      have := hI.2.2.2.2.2.2.1 0 k (by omega) hk e'
      unfold mk0 at this ⊢
      rw [hF5'.kd 94 307 rfl, hF5'.kd 94 7 rfl, hF5'.kd 94 20 rfl, hF5'.kd 94 21 rfl, hF5'.kd 94 22 rfl, hF5'.kd 94 23 rfl, hF5'.kd 94 24 rfl]
      exact this
    rintro m6 ⟨g1, g2, g3⟩
    refine tot_some.mpr ?_
    have kno : ∀ a b c, ¬ a = 94 → ¬ a = 46 → ¬ (StO a ∧ b = 3 + 16 * 0 + k) → ¬ KA 0 k a b c := fun a b c q1 q2 q3 h => by
      rcases h with h | h | h
      · exact q3 h
      · exact q2 h.1
      · exact q1 h.1
    have r6 : ∀ a b, ¬ a = 94 → ¬ a = 46 → ¬ (StO a ∧ b = 3 + 16 * 0 + k) → m6 a b = m5 a b := fun a b q1 q2 q3 => g3.row (fun c => kno a b c q1 q2 q3)
    have s0 : ∀ a, ¬ (StO a ∧ 0 = 3 + 16 * 0 + k) := fun a h => by have := h.2; omega
    have nst : ∀ a b, (a = 3 ∨ a = 4 ∨ a = 34 ∨ a = 25 ∨ a = 26 ∨ a = 27 ∨ a = 28 ∨ a = 29 ∨ a = 9 ∨ a = 39 ∨ a = 40 ∨ a = 41 ∨ a = 42 ∨ a = 5 ∨ a = 8) → m6 a b = m5 a b := fun a b ha => r6 a b (by omega) (by omega) (fun h => by unfold StO at h; omega)
    have m655 : m6 5 0 0 = nI k := by
      rw [nst 5 0 (by omega)]
      exact h55
    rw [m655]
    have sk0 : ∀ a b, ¬ a = 5 → wr m6 5 0 0 (nI k + 1) a b = m6 a b := fun a b ha => by
      funext c
      exact wr_k ha
    have St7 : StC (mW m) (m 60 0) (wr m6 5 0 0 (nI k + 1)) 0 := hS5.fr (by rw [sk0 7 0 (by decide), r6 7 0 (by decide) (by decide) (s0 7)]) (by rw [sk0 20 0 (by decide), r6 20 0 (by decide) (by decide) (s0 20)]) (by rw [sk0 21 0 (by decide), r6 21 0 (by decide) (by decide) (s0 21)]) (by rw [sk0 22 0 (by decide), r6 22 0 (by decide) (by decide) (s0 22)]) (by rw [sk0 23 0 (by decide), r6 23 0 (by decide) (by decide) (s0 23)]) (by rw [sk0 24 0 (by decide), r6 24 0 (by decide) (by decide) (s0 24)])
    have Sk7 : StC (mW m) (m 60 0) (wr m6 5 0 0 (nI k + 1)) (3 + k) := by
      have q := g1 (mW m) (m 60 0) hW hS5
      have q' : StC (mW m) (m 60 0) m6 (3 + k) := by
        have e3 : 3 + 16 * 0 + k = 3 + k := by omega
        rw [e3] at q
        exact q
      exact q'.fr (sk0 7 _ (by decide)) (sk0 20 _ (by decide)) (sk0 21 _ (by decide)) (sk0 22 _ (by decide)) (sk0 23 _ (by decide)) (sk0 24 _ (by decide))
    have CL7 : CL (mW m) (wr m6 5 0 0 (nI k + 1)) := hL.fr (by rw [sk0 3 0 (by decide), nst 3 0 (by omega), hF5'.kd 3 0 rfl]) (by rw [sk0 25 0 (by decide), nst 25 0 (by omega), hF5'.kd 25 0 rfl]) (by rw [sk0 26 0 (by decide), nst 26 0 (by omega), hF5'.kd 26 0 rfl]) (by rw [sk0 27 0 (by decide), nst 27 0 (by omega), hF5'.kd 27 0 rfl]) (by rw [sk0 28 0 (by decide), nst 28 0 (by omega), hF5'.kd 28 0 rfl]) (by rw [sk0 29 0 (by decide), nst 29 0 (by omega), hF5'.kd 29 0 rfl])
    have CW7 : CW (mW m) (wr m6 5 0 0 (nI k + 1)) := lawC.fr hC (by rw [sk0 4 0 (by decide), nst 4 0 (by omega), hF5'.kd 4 0 rfl]) (by rw [sk0 34 0 (by decide), nst 34 0 (by omega), hF5'.kd 34 0 rfl])
    have CR7 : ∀ j, j < l.length → CR (wr m6 5 0 0 (nI k + 1)) j (tf l j) := fun j hj => by
      have h0 := d3 j hj
      unfold CR at h0 ⊢
      rw [sk0 39 0 (by decide), sk0 40 0 (by decide), sk0 41 0 (by decide), sk0 42 0 (by decide), nst 39 0 (by omega), nst 40 0 (by omega), nst 41 0 (by omega), nst 42 0 (by omega)]
      exact h0
    have n7 : wr m6 5 0 0 (nI k + 1) 9 0 3 = nI l.length := by
      rw [wr_k (by decide), nst 9 0 (by omega)]
      exact d2
    have F7 : Fp (SW k) m (wr m6 5 0 0 (nI k + 1)) := (((hF5'.pp (fun q hq c => by
      simp only [List.mem_cons, List.not_mem_nil, or_false] at hq
      rcases hq with rfl | rfl | rfl | rfl <;> simp [SW, SC, StO]) (fun q hq c => by
      simp only [List.mem_cons, List.not_mem_nil, or_false] at hq
      rcases hq with rfl | rfl | rfl | rfl | rfl | rfl | rfl <;> simp [SW, SC, StO])).tr (g3.mono (fun a b c h => Or.inl h))).w (by simp [SW, SC]))
    have e57 : wr m6 5 0 0 (nI k + 1) 5 0 0 = nI (k + 1) := by rw [wr_eq, nI_succ]
    have e467 : ¬ wr m6 5 0 0 (nI k + 1) 46 0 k = 0 := by
      rw [wr_k (by decide)]
      exact g2
    have e87 : ∀ c, wr m6 5 0 0 (nI k + 1) 8 0 c = m5 8 0 c := fun c => by
      rw [wr_k (by decide), nst 8 0 (by omega)]
    have E7 : ∀ i, wr m6 5 0 0 (nI k + 1) 100 i = m 100 i ∧ wr m6 5 0 0 (nI k + 1) 12 i = m 12 i ∧ wr m6 5 0 0 (nI k + 1) 49 i = m 49 i ∧ wr m6 5 0 0 (nI k + 1) 60 i = m 60 i := fun i => by
      have nS : ∀ a, (a = 100 ∨ a = 12 ∨ a = 49 ∨ a = 60) → ¬ (StO a ∧ i = 3 + 16 * 0 + k) := fun a ha h => by
        have := StO_or h.1
        omega
      rw [sk0 100 i (by decide), sk0 12 i (by decide), sk0 49 i (by decide), sk0 60 i (by decide), r6 100 i (by decide) (by decide) (nS _ (by omega)), r6 12 i (by decide) (by decide) (nS _ (by omega)), r6 49 i (by decide) (by decide) (nS _ (by omega)), r6 60 i (by decide) (by decide) (nS _ (by omega)), hF5'.kd 100 i rfl, hF5'.kd 12 i rfl, hF5'.kd 49 i rfl, hF5'.kd 60 i rfl]
      exact ⟨rfl, rfl, rfl, rfl⟩
    generalize wr m6 5 0 0 (nI k + 1) = m7 at St7 Sk7 CL7 CW7 CR7 n7 F7 e57 e467 e87 E7 ⊢
    unfold r_X9_perform r_X9_run_t
    rw [n7]
    have hF8 : Fj [] [(9, 0), (9, 1), (9, 2)] m7 (wr (wr (wr m7 9 0 2 0) 9 0 0 0) 9 0 1 0) := ((Fj.rf.wrJ (by simp) _ _).wrJ (by simp) _ _).wrJ (by simp) _ _
    have P8 : PC (mW m) (m 60 0, 0, 0, 0) (wr (wr (wr m7 9 0 2 0) 9 0 0 0) 9 0 1 0) := by
      refine ⟨St7.fr (hF8.kd 7 0 rfl) (hF8.kd 20 0 rfl) (hF8.kd 21 0 rfl) (hF8.kd 22 0 rfl) (hF8.kd 23 0 rfl) (hF8.kd 24 0 rfl), hR, by show 0 ≤ 200; omega, ?_, ?_, ?_, CL7.fj hF8 (by simp) (by decide), CW7.fj hF8 rfl rfl⟩
      · rw [wr_j (by decide), wr_j (by decide), wr_eq]
        rfl
      · rw [wr_j (by decide), wr_eq]
        rfl
      · rw [wr_eq]
        rfl
    have C8 : ∀ j, j < l.length → CR (wr (wr (wr m7 9 0 2 0) 9 0 0 0) 9 0 1 0) j (tf l j) := fun j hj => (CR7 j hj).fk (hF8.mono (by simp) (by simp))
    generalize wr (wr (wr m7 9 0 2 0) 9 0 0 0) 9 0 1 0 = m8 at hF8 P8 C8 ⊢
    rw [tot_bd1, tot_bd1]
    refine Tot.mono (run_c (T := tf l) (N := l.length) hW (by omega) 6 2 (by omega) n 0 l.length (m 60 0, 0, 0, 0) m8 hVr (Nat.le_refl _) C8 P8) ?_
    rintro m9 ⟨p1, p2⟩
    refine tot_some.mpr ?_
    have hF9 : Fj KRc JRc m7 m9 := (hF8.mono (by simp) (by simp)).tr p2
    have F9 : Fp (SW k) m (wr m9 11 0 14 (m9 9 0 1)) := (F7.tr (hF9.pp (fun q hq c => by
      simp only [List.mem_cons, List.not_mem_nil, or_false] at hq
      rcases hq with rfl | rfl | rfl | rfl | rfl | rfl | rfl | rfl <;> simp [SW, SC, StO]) (fun q hq c => by
      simp only [List.mem_cons, List.not_mem_nil, or_false] at hq
      rcases hq with rfl | rfl | rfl | rfl | rfl <;> simp [SW, SC, StO]))).w (by simp [SW, SC])
    obtain ⟨p3, p4, p5, p6, p7, p8, p9, p10⟩ := p1
    have k11 : ∀ a b, ¬ a = 11 → wr m9 11 0 14 (m9 9 0 1) a b = m9 a b := fun a b ha => by
      funext c
      exact wr_k ha
    have St9 : StC (mW m) (rnR (mW m) (tf l) 7 0 l.length (m 60 0, 0, 0, 0)).1 (wr m9 11 0 14 (m9 9 0 1)) 0 := StC.fr p3 (k11 7 0 (by decide)) (k11 20 0 (by decide)) (k11 21 0 (by decide)) (k11 22 0 (by decide)) (k11 23 0 (by decide)) (k11 24 0 (by decide))
    have kk : ∀ a, (a = 7 ∨ (20 ≤ a ∧ a ≤ 24)) → wr m9 11 0 14 (m9 9 0 1) a (3 + k) = m7 a (3 + k) := fun a ha => by
      rw [k11 a _ (by omega)]
      exact hF9.rw' a (3 + k) (fun q hq e => by
        simp only [List.mem_cons, List.not_mem_nil, or_false] at hq
        rcases hq with rfl | rfl | rfl | rfl | rfl | rfl | rfl | rfl <;> simp at e <;> omega) (fun q hq e => by
        simp only [List.mem_cons, List.not_mem_nil, or_false] at hq
        rcases hq with rfl | rfl | rfl | rfl | rfl <;> simp at e <;> omega)
    have Sk9 : StC (mW m) (m 60 0) (wr m9 11 0 14 (m9 9 0 1)) (3 + k) := Sk7.fr (kk 7 (by omega)) (kk 20 (by omega)) (kk 21 (by omega)) (kk 22 (by omega)) (kk 23 (by omega)) (kk 24 (by omega))
    have CL9 : CL (mW m) (wr m9 11 0 14 (m9 9 0 1)) := CL.fr p9 (k11 3 0 (by decide)) (k11 25 0 (by decide)) (k11 26 0 (by decide)) (k11 27 0 (by decide)) (k11 28 0 (by decide)) (k11 29 0 (by decide))
    have e59 : wr m9 11 0 14 (m9 9 0 1) 5 0 0 = nI (k + 1) := by
      rw [wr_k (by decide), hF9.kd 5 0 rfl]
      exact e57
    have e469 : ¬ wr m9 11 0 14 (m9 9 0 1) 46 0 k = 0 := by
      rw [wr_k (by decide), hF9.kd 46 0 rfl]
      exact e467
    have e89 : ∀ c, wr m9 11 0 14 (m9 9 0 1) 8 0 c = m5 8 0 c := fun c => by
      rw [wr_k (by decide), hF9.kd 8 0 rfl]
      exact e87 c
    have e119 : wr m9 11 0 14 (m9 9 0 1) 11 0 14 = nI (rnR (mW m) (tf l) 7 0 l.length (m 60 0, 0, 0, 0)).2.2.2 := by
      rw [wr_eq]
      exact p8
    have E9 : ∀ i, wr m9 11 0 14 (m9 9 0 1) 100 i = m 100 i ∧ wr m9 11 0 14 (m9 9 0 1) 12 i = m 12 i ∧ wr m9 11 0 14 (m9 9 0 1) 49 i = m 49 i ∧ wr m9 11 0 14 (m9 9 0 1) 60 i = m 60 i := fun i => by
      rw [k11 100 i (by decide), k11 12 i (by decide), k11 49 i (by decide), k11 60 i (by decide), hF9.kd 100 i rfl, hF9.kd 12 i rfl, hF9.kd 49 i rfl, hF9.kd 60 i rfl]
      exact E7 i
    generalize wr m9 11 0 14 (m9 9 0 1) = m10 at F9 St9 Sk9 CL9 e59 e469 e89 e119 E9 ⊢
    refine tot_some.mpr ⟨nI (rnR (mW m) (tf l) 7 0 l.length (m 60 0, 0, 0, 0)).2.2.1, congrArg Sum.inl p7, fun i => (E9 i).1, fun m3 (hF3 : Fj [(92, 0)] [] m10 m3) => ?_⟩
    have F3 : Fp (SW k) m m3 := F9.tr (hF3.pp (fun q hq c => by
      rw [List.mem_singleton.mp hq]
      simp [SW, SC]) (by simp))
    have eW : mW m3 = mW m := mW_fp F3 (fun a b c ha => sw_no (by simp; omega)) (sw_12 (by omega))
    have E3 : m3 12 0 = m 12 0 ∧ m3 49 0 = m 49 0 ∧ m3 60 0 = m 60 0 := by
      rw [hF3.kd 12 0 rfl, hF3.kd 49 0 rfl, hF3.kd 60 0 rfl]
      exact (E9 0).2
    have rf := ref_work (b := m 49 0) (f := f) (k := k) (m := m3) (by rw [E3.1]; exact f3) (by omega) f1 (by omega) (fun k hk => by rw [E3.2.1]) hby (by rw [eW]; exact hW) (by rw [eW, E3.2.2]; exact hR) (by rw [E3.1]; exact kk3) hk
    rw [eW, E3.2.2] at rf
    refine rf.mono ?_
    rintro ⟨z, M⟩ ⟨r1, -, r3, r4, r5⟩
    dsimp only at r1 r3 r4 r5 ⊢
    obtain ⟨⟨y1, y2, y3, y4, y5, y6, y7⟩, z1, z2, z3, z4⟩ := r1 p l hV
    have rr : ∀ a b, a ∈ [92, 100, 8, 11, 5, 46, 3, 25, 26, 27, 28, 29, 7, 20, 21, 22, 23, 24] → M a b = m3 a b := fun a b ha => r5.row (fun c => sr_no ha)
    have r3m : ∀ a b, ¬ a = 92 → m3 a b = m10 a b := fun a b ha => hF3.rw' a b (fun q hq e => by
      rw [List.mem_singleton.mp hq] at e
      exact ha (by cases e; rfl)) (by simp)
    have rM : ∀ a b, a ∈ [8, 11, 5, 46, 3, 25, 26, 27, 28, 29, 7, 20, 21, 22, 23, 24] → M a b = m10 a b := fun a b ha => by
      rw [rr a b (List.mem_cons_of_mem _ (List.mem_cons_of_mem _ ha)), r3m a b (fun e => by rw [e] at ha; revert ha; decide)]
    refine ⟨z1.trans y5, r3, rr 92 0 (by decide), fun i => rr 100 i (by decide), ?_⟩
    refine inv_work hI hk kk2 (F3.tr (r5.mono (fun a b c h => Or.inr (Or.inr h)))) ?_ z2 ?_ ?_ z4 ?_ ?_ ?_ ?_ r4 ?_ ?_
    · rw [rM 5 0 (by decide)]
      exact e59
    · rw [rM 46 0 (by decide)]
      exact e469
    · exact Sk9.fr (rM 7 _ (by decide)) (rM 20 _ (by decide)) (rM 21 _ (by decide)) (rM 22 _ (by decide)) (rM 23 _ (by decide)) (rM 24 _ (by decide))
    · rw [y1]
      exact St9.fr (rM 7 _ (by decide)) (rM 20 _ (by decide)) (rM 21 _ (by decide)) (rM 22 _ (by decide)) (rM 23 _ (by decide)) (rM 24 _ (by decide))
    · rw [y1]
      exact y2
    · exact CL9.fr (rM 3 _ (by decide)) (rM 25 _ (by decide)) (rM 26 _ (by decide)) (rM 27 _ (by decide)) (rM 28 _ (by decide)) (rM 29 _ (by decide))
    · rw [rM 8 0 (by decide), e89]
      exact v5
    · rw [rM 8 0 (by decide), e89, z3]
      exact d4
    · rw [rM 11 0 (by decide), e119, y6]
