/-! ===== the land, alike: both sides ===== -/
theorem Fj.kd {K J : List (Nat × Nat)} {m m1 : Mem} (h : Fj K J m m1) (k i : Nat) (hk : (K.all (fun q => q.1 != k) && J.all (fun q => q.1 != k)) = true) : m1 k i = m k i := by
  rw [Bool.and_eq_true, List.all_eq_true, List.all_eq_true] at hk
  refine h.rw' k i (fun q hq e => ?_) (fun q hq e => ?_)
  · have := hk.1 q hq
    rw [e] at this
    simp at this
  · have := hk.2 q hq
    rw [e] at this
    simp at this
abbrev KRl : List (Nat × Nat) := KLm ++ KBg
abbrev JRl : List (Nat × Nat) := [(12, 0), (12, 1), (12, 2), (12, 3), (12, 4), (12, 5), (12, 6), (12, 7), (12, 8), (12, 21), (12, 35), (12, 36), (12, 37), (12, 38)]
abbrev JRf : List (Nat × Nat) := [(12, 0), (12, 1), (12, 2), (12, 3), (12, 4), (12, 5), (12, 6), (12, 7), (12, 8)]
set_option maxHeartbeats 1000000 in
theorem ref_land {b : Nat → Int32} {L f n : Nat} {ok : Bool} {m : Mem} (hf : m 12 0 1 = nI f) (hLf : L ≤ f) (h6 : f ≤ 600) (hb : ∀ k, k < L → m 49 0 k = b k) (hn : Ln b L n ok) : Tot (r_X12_land (nI L) m) (fun q => (ok = true → q.1 = (lz b L n).1 0 0 ∧ BgP (lz b L n).1 q.2 ∧ q.2 12 0 3 = -1) ∧ (ok = false → q.1 = (lzE b L n).1 - 10 ∧ q.2 12 0 3 = nI (lzE b L n).2 ∧ Fj KLm JRf m q.2) ∧ q.2 12 0 0 = 0 ∧ q.2 12 0 1 = 0 ∧ Fj KRl JRl m q.2) := by
  unfold r_X12_land r_X12_land_j23
  rw [hf, if_pos (in_t ⟨nI_pos' (by omega), nI_le (by omega) (by omega)⟩), bd2_s bad_0, if_neg (by decide), tot_bd1]
  have hFt : Fj KLm JRf m (wr m 12 0 0 0) := Fj.rf.wrJ (by simp) _ _
  have t0 := th_z m 0
  have o49 : ∀ k, k < L → wr m 12 0 0 0 49 0 k = b k := fun k hk => by rw [wr_k (by decide)]; exact hb k hk
  generalize wr m 12 0 0 0 = m4 at hFt t0 o49 ⊢
  refine (starts_m (b := b) (L := L) (by omega) o49).mono ?_
  rintro m8 ⟨s1, s2, s3, s4, -, hF8⟩
  have hFq : Fj KLm JRf m m8 := hFt.tr (hF8.mono (by simp) (by simp))
  have t8 : m8 12 0 0 = 0 := by rw [hF8 12 0 0 (by simp) (by simp)]; exact t0
  rw [tot_bd1]
  refine tellsN_m.mono ?_
  rintro m9 ⟨a1, hF9⟩
  have hF9' : Fj KLm JRf m m9 := hFq.tr (hF9.mono (fun q hq => hq) (by simp))
  have o12 : ∀ c, m9 12 0 c = m8 12 0 c := fun c => by rw [hF9.kd 12 0 rfl]
  have t9 : TM b L (sk b L 0) m9 := s1.fj hF9 (by decide) (by simp)
  unfold r_X12_land_l42
  rw [tot_bd1]
  refine (loopL_m t9 (by rw [o12]; exact s2) (by rw [o12]; exact s4) a1 hn).mono ?_
  rintro m1 ⟨b1, b2, hF1⟩
  have hF1' : Fj KLm JRf m m1 := hF9'.tr (hF1.mono (fun q hq => hq) (by simp))
  have u0 : m1 12 0 0 = 0 := by rw [hF1 12 0 0 (by simp) (by simp), o12]; exact t8
  have u1 : m1 12 0 1 = 0 := by rw [hF1 12 0 1 (by simp) (by simp), o12]; exact s3
  unfold r_X12_land_e71_h42 r_X12_land_j71
  cases ok with
  | true =>
    obtain ⟨c1, c2⟩ := b1 rfl
    have hW : LW (lz b L n).1 := lz_W n (fun j hj => (hn.1 j hj).2)
    have hFw : Fj [] [(12, 3)] m1 (wr m1 12 0 3 (-1)) := Fj.rf.wrJ (by simp) _ _
    rw [if_pos c1, tot_bd1]
    refine (begins_m hW (c2.fj hFw (by simp) (by decide))).mono ?_
    rintro m2 ⟨e1, e2⟩
    refine tot_some.mpr ⟨fun _ => ⟨e1.1 0 (by omega), e1, ?_⟩, fun e => Bool.noConfusion e, ?_, ?_, ?_⟩
    · show m2 12 0 3 = -1
      rw [e2 12 0 3 (by simp) (by simp), wr_eq]
    · show m2 12 0 0 = 0
      rw [e2 12 0 0 (by simp) (by simp), wr_j (by decide)]
      exact u0
    · show m2 12 0 1 = 0
      rw [e2 12 0 1 (by simp) (by simp), wr_j (by decide)]
      exact u1
    · exact ((hF1'.mono (fun q hq => List.mem_append_left _ hq) (by simp)).tr (hFw.mono (by simp) (by simp))).tr (e2.mono (fun q hq => List.mem_append_right _ hq) (by simp))
  | false =>
    have d := b2 rfl
    unfold r_X12_ends
    rw [if_neg (by rw [d.1]; exact d.2.1), bd2_s rfl]
    refine tot_some.mpr ⟨fun e => Bool.noConfusion e, fun _ => ⟨by show m1 12 0 5 - 10 = _; rw [d.1], ?_, hF1'.wrJ (by simp) _ _⟩, ?_, ?_, ?_⟩
    · dsimp only
      rw [wr_eq, d.2.2.1]
    · dsimp only
      rw [wr_j (by decide)]
      exact u0
    · dsimp only
      rw [wr_j (by decide)]
      exact u1
    · exact (hF1'.wrJ (by simp) _ _).mono (fun q hq => List.mem_append_left _ hq) (by simp)
abbrev KCl : List (Nat × Nat) := [(3, 0), (25, 0), (26, 0), (27, 0), (28, 0), (29, 0), (30, 0), (31, 0), (32, 0), (4, 0), (34, 0), (1, 0), (36, 0), (7, 0), (20, 0), (21, 0), (22, 0), (23, 0), (24, 0), (5, 0), (2, 0)]
set_option maxHeartbeats 1000000 in
theorem cls_land {S : Wd} {m : Mem} (hW : LW S) (hC : LC S m) : Tot (bd1 (r_X3_copyFrom 0 1 m) fun m9 => (bd1 (r_X4_clear 0 m9) fun m11 => (bd1 (r_X1_clear 0 m11) fun m13 => (bd1 (r_X7_begin 0 0 m13) fun m15 => (bd1 (r_X5_clear 0 m15) fun m17 => (bd1 (r_X2_clear m17) fun m19 => (some ((Sum.inl (m19 3 0 0) : Int32 ⊕ Nat), (wr m19 11 0 14 0))))))))) (fun q => q.1 = Sum.inl (S 0 0) ∧ CsP S q.2 ∧ Fj KCl [(11, 14)] m q.2) := by
  have hP := hW.1
  have hD := hW.2.1
  have hN := hW.2.2.1
  obtain ⟨l1, l2, l3, l4, l5, l6, l7⟩ := hC
  rw [tot_bd1]
  refine copyL_c.mono ?_
  rintro m9 ⟨a1, a2, a3, a4, a5, a6, a7, a8, a9, aF⟩
  rw [tot_bd1]
  refine clear4.mono ?_
  rintro m11 ⟨b1, b2, bF⟩
  unfold r_X1_clear
  rw [tot_bd1, tot_bd1]
  refine fill36.mono ?_
  rintro m12 ⟨c1, cF⟩
  refine tot_some.mpr ?_
  have z2 : ∀ a c, a = 3 ∨ a = 25 ∨ a = 26 ∨ a = 27 ∨ a = 28 ∨ a = 29 ∨ a = 30 ∨ a = 31 ∨ a = 32 → m12 a 0 c = m9 a 0 c := fun a c ha => by
    rw [cF a 0 (by simp; omega), wr_k (by omega), bF a 0 (by simp; omega)]
  have z3 : m12 4 0 3 = 7 := by
    rw [cF 4 0 (by simp), wr_k (by decide)]
    exact b1
  have z4 : ∀ k, k < 7 → m12 34 0 k = wtL.getD k 0 := fun k hk => by
    rw [cF 34 0 (by simp), wr_k (by decide)]
    exact b2 k hk
  have z5 : m12 1 0 0 = 0 := by
    rw [cF 1 0 (by simp), wr_eq]
  rw [tot_bd1]
  refine begin7.mono ?_
  rintro m15 ⟨d1, d2, d3, d4, d5, dF⟩
  unfold r_X5_clear r_X2_clear
  rw [bd1_s rfl, bd1_s rfl]
  have o : ∀ a c, ¬ a = 5 → ¬ a = 2 → ¬ a = 11 → wr (wr (wr m15 5 0 0 0) 2 0 0 0) 11 0 14 0 a 0 c = m15 a 0 c := fun a c h1 h2 h3 => by
    rw [wr_k h3, wr_k h2, wr_k h1]
  have o2 : ∀ a c, a = 3 ∨ a = 25 ∨ a = 26 ∨ a = 27 ∨ a = 28 ∨ a = 29 → wr (wr (wr m15 5 0 0 0) 2 0 0 0) 11 0 14 0 a 0 c = m9 a 0 c := fun a c ha => by
    rw [o a c (by omega) (by omega) (by omega), dF a 0 (by simp; omega), z2 a c (by omega)]
  have r0 : (wr (wr m15 5 0 0 0) 2 0 0 0) 3 0 0 = S 0 0 := by
    rw [wr_k (by decide), wr_k (by decide), dF 3 0 (by simp), z2 3 0 (by omega), a1 0 (by omega)]
    exact l1 0 (by omega)
  have hF9 : Fj KCl [(11, 14)] m m9 := (aF.mono (by simp)).j
  have hF12 : Fj KCl [(11, 14)] m m12 := (hF9.tr (bF.mono (by simp)).j).tr (((Fr.rf.wr (by simp) _ _ : Fr KCl m11 (wr m11 1 0 0 0)).tr (cF.mono (by simp))).j)
  have hF15 : Fj KCl [(11, 14)] m m15 := hF12.tr (dF.mono (by simp)).j
  refine tot_some.mpr ⟨congrArg Sum.inl r0, ⟨fun k hk => ?_, fun a ha => ?_, fun e he => ?_, fun a c ha hc => ?_, fun a ha x hx => ?_, ⟨?_, fun k hk => ?_⟩, ⟨?_, fun a ha => ?_⟩, ⟨?_, ?_, fun p hp => ?_, fun q hq => ?_, fun e he => ?_⟩, ?_, ?_, ?_⟩, ((hF15.wrK (by simp) _ _).wrK (by simp) _ _).wrJ (by simp) _ _⟩
  · dsimp only
    rw [o2 3 k (by omega), a1 k hk]
    exact l1 k hk
  · dsimp only
    rw [o2 25 a (by omega), a2 a (by omega)]
    exact l2 a ha
  · dsimp only
    rw [o2 27 e (by omega), o2 28 e (by omega), a4 e (by omega), a5 e (by omega)]
    exact l3 e he
  · dsimp only
    rw [o2 29 _ (by omega), a6 _ (by omega)]
    exact l4 a c (by omega) (by omega)
  · dsimp only
    rw [o2 26 a (by omega), a3 a ha]
    exact l5 a ha x hx
  · dsimp only
    rw [o 4 3 (by decide) (by decide) (by decide), dF 4 0 (by simp)]
    exact z3
  · dsimp only
    rw [o 34 k (by decide) (by decide) (by decide), dF 34 0 (by simp)]
    exact z4 k hk
  · dsimp only
    rw [o 1 0 (by decide) (by decide) (by decide), dF 1 0 (by simp)]
    exact z5
  · dsimp only
    rw [o 36 a (by decide) (by decide) (by decide), dF 36 0 (by simp)]
    exact c1 a ha
  · dsimp only
    rw [o 7 0 (by decide) (by decide) (by decide)]
    exact d1
  · dsimp only
    rw [o 7 1 (by decide) (by decide) (by decide), d2, z2 3 2 (by omega), a1 2 (by omega)]
    exact l1 2 (by omega)
  · dsimp only
    rw [o 20 p (by decide) (by decide) (by decide), o 21 p (by decide) (by decide) (by decide), (d3 p (by omega)).1, (d3 p (by omega)).2, z2 30 p (by omega), z2 31 p (by omega), a7 p (by omega), a8 p (by omega)]
    exact l6 p hp
  · dsimp only
    rw [o 22 q (by decide) (by decide) (by decide), d4 q hq, z2 32 q (by omega), a9 q hq]
    exact l7 q hq
  · dsimp only
    rw [o 23 e (by decide) (by decide) (by decide), o 24 e (by decide) (by decide) (by decide)]
    exact d5 e he
  · dsimp only
    rw [wr_k (by decide), wr_k (by decide), wr_eq]
  · dsimp only
    rw [wr_k (by decide), wr_eq]
  · dsimp only
    rw [wr_eq]
theorem CsP.fj {K J : List (Nat × Nat)} {S : Wd} {m m' : Mem} (h : CsP S m) (hF : Fj K J m m') (hK : ∀ k, k ∈ [3, 25, 27, 28, 29, 26, 4, 34, 1, 36, 7, 20, 21, 22, 23, 24, 5, 2, 11] → (K.all (fun q => q.1 != k) && J.all (fun q => q.1 != k)) = true) : CsP S m' := by
  have hr : ∀ k, k ∈ [3, 25, 27, 28, 29, 26, 4, 34, 1, 36, 7, 20, 21, 22, 23, 24, 5, 2, 11] → m' k 0 = m k 0 := fun k hk => hF.kd k 0 (hK k hk)
  unfold CsP at h ⊢
  rw [hr 3 (by decide), hr 25 (by decide), hr 27 (by decide), hr 28 (by decide), hr 29 (by decide), hr 26 (by decide), hr 4 (by decide), hr 34 (by decide), hr 1 (by decide), hr 36 (by decide), hr 7 (by decide), hr 20 (by decide), hr 21 (by decide), hr 22 (by decide), hr 23 (by decide), hr 24 (by decide), hr 5 (by decide), hr 2 (by decide), hr 11 (by decide)]
  exact h
set_option maxHeartbeats 2000000 in
theorem pair_land {m : Mem} (hI : Inv m) (x : Int32) : Pair (fun m => r_L_land x m) (fun m => r_X12_land x m) m := by
  obtain ⟨⟨f, f1, f2, f3, f4⟩, f5⟩ := hI.2.1
  by_cases hx : 0 ≤ x ∧ x ≤ nI (min 600 f)
  case neg =>
    refine Pair.b1 (c := 1) hI rfl (by decide) ?_ (fun m3 e h3 => ?_)
    · have ho : r_X11_openText x 600 m = some (Sum.inr 1, wr m 11 0 16 (m 11 0 16 + 1)) := openT_f (lim := 600) f2 f1 (by omega) hx
      unfold r_X11_land
      rw [thr_r ho]
    · have e1 : m3 12 0 1 = nI f := by
        rw [h3 12 0 (by decide)]
        exact f3
      rw [Nat.min_eq_right f1] at hx
      unfold r_X12_land r_X12_land_j23
      rw [e1, if_neg (by rw [in_f hx]; decide), bd2_s (bad_11 (by decide)), if_pos rfl]
  rw [Nat.min_eq_right f1] at hx
  obtain ⟨L, hLm, rfl⟩ := le_nI (by omega) hx
  have hby : ∀ k, k < L → ¬ m 49 0 k = -1 := fun k hk => by
    obtain ⟨-, c, hc, e⟩ := f4 k (by omega)
    rw [e]
    exact m1_ne (by omega)
  refine Pair.gen ?_
  obtain ⟨m2, ho, tc, v1, v3, v4, hF2⟩ := openT_t (b := m 49 0) (lim := 600) (L := L) f2 f1 (by omega) (by omega) (by omega) (fun k hk => (f4 k hk).1)
  have ho' : r_X11_openText (nI L) 600 m = some (Sum.inl (), m2) := ho
  unfold r_X11_land
  rw [thr_l ho', tot_bd2]
  refine (readL_c tc hby).mono ?_
  rintro ⟨ok, m5⟩ ⟨⟨n, hB, h1, h2⟩, hF5⟩
  dsimp only at hB h1 h2 hF5 ⊢
  have hF5' : Fj KLd JO m m5 := (hF2.mono (by simp) (by simp)).tr (hF5.mono (fun q hq => hq) (by simp))
  have v5 : m5 8 0 1 = 0 := by
    rw [hF5 8 0 1 (by simp) (by simp)]
    exact v1
  cases ok with
  | false =>
    rw [if_neg (by decide)]
    have d := h2 rfl
    refine tot_some.mpr ⟨(lzE (m 49 0) L n).1 - 10, ?_, fun i => ?_, fun m3 (hF3 : Fj [(92, 0)] [] m5 m3) => (ref_land (b := m 49 0) (f := f) (by rw [hF3.kd 12 0 rfl, hF5'.kd 12 0 rfl]; exact f3) hLm f1 (fun k hk => by rw [hF3.kd 49 0 rfl, hF5'.kd 49 0 rfl]) hB).mono ?_⟩
    · show Sum.inl (m5 8 0 4 - 10) = _
      rw [d.1]
    · exact hF5'.kd 100 i rfl
    · rintro ⟨z, M⟩ ⟨-, r2, r3, r4, -⟩
      dsimp only at r2 r3 r4 hF3 ⊢
      obtain ⟨y1, y2, y3⟩ := r2 rfl
      have o8 : ∀ c, M 8 0 c = m5 8 0 c := fun c => by rw [y3.kd 8 0 rfl, hF3.kd 8 0 rfl]
      have o12 : M 12 0 35 = m 12 0 35 := by rw [y3 12 0 35 (by simp) (by simp), hF3.kd 12 0 rfl, hF5'.kd 12 0 rfl]
      have hW : mW M = mW m := by
        rw [mW_fj y3 (by decide) (by decide), mW_fj hF3 (by decide) (by simp), mW_fj hF5' (by decide) (by decide)]
      have hFa : Fj (KLd ++ ((92, 0) :: KLm)) (JO ++ JRf) m M := ((hF5'.mono (fun q hq => List.mem_append_left _ hq) (fun q hq => List.mem_append_left _ hq)).tr (hF3.mono (fun q hq => List.mem_append_right _ (by rw [List.mem_singleton.mp hq]; exact List.mem_cons_self)) (by simp))).tr (y3.mono (fun q hq => List.mem_append_right _ (List.mem_cons_of_mem _ hq)) (fun q hq => List.mem_append_right _ hq))
      refine ⟨y1, r3, y3.kd 92 0 rfl, fun i => y3.kd 100 i rfl, Inv.rd hI hFa rfl rfl (by rw [o8]; exact v5) r4 (by rw [o8, y2]; exact d.2) ?_⟩
      exact hI.2.2.2.2.1.c hW (hFa.kd 1 0 rfl) o12 (fun j => hFa.kd 77 j rfl) (hFa.kd 36 0 rfl)
  | true =>
    rw [if_pos rfl]
    obtain ⟨u1, u2⟩ := h1 rfl
    have hW : LW (lz (m 49 0) L n).1 := lz_W n (fun j hj => (hB.1 j hj).2)
    refine (cls_land hW u1).mono ?_
    rintro ⟨z9, m9⟩ ⟨w1, w2, hF9⟩
    dsimp only at w1 w2 hF9 ⊢
    refine ⟨(lz (m 49 0) L n).1 0 0, w1, fun i => ?_, fun m3 hF3 => (ref_land (b := m 49 0) (f := f) (by rw [hF3.kd 12 0 rfl, hF9.kd 12 0 rfl, hF5'.kd 12 0 rfl]; exact f3) hLm f1 (fun k hk => by rw [hF3.kd 49 0 rfl, hF9.kd 49 0 rfl, hF5'.kd 49 0 rfl]) hB).mono ?_⟩
    · rw [hF9.kd 100 i rfl, hF5'.kd 100 i rfl]
    · rintro ⟨z, M⟩ ⟨r1, -, r3, r4, r5⟩
      dsimp only at r1 r3 r4 r5 hF3 ⊢
      obtain ⟨y1, y2, y3⟩ := r1 rfl
      have o8 : ∀ c, M 8 0 c = m5 8 0 c := fun c => by rw [r5.kd 8 0 rfl, hF3.kd 8 0 rfl, hF9.kd 8 0 rfl]
      have hC : CsP (lz (m 49 0) L n).1 M := (w2.fj hF3 (by decide)).fj r5 (by decide +kernel)
      have o11 : ∀ c, ¬ c = 14 → M 11 0 c = m 11 0 c := fun c hc => by
        rw [r5.kd 11 0 rfl, hF3.kd 11 0 rfl, hF9 11 0 c (by simp) (by simp [hc]), hF5'.kd 11 0 rfl]
      have o50 : M 50 0 = m 50 0 := by rw [r5.kd 50 0 rfl, hF3.kd 50 0 rfl, hF9.kd 50 0 rfl, hF5'.kd 50 0 rfl]
      obtain ⟨i1, i2, -⟩ := hI.2.2.2.2.2.1
      have h7 : I7 M := hI.2.2.2.2.2.2.c (fun i => by rw [r5.kd 94 i rfl, hF3.kd 94 i rfl, hF9.kd 94 i rfl, hF5'.kd 94 i rfl]) (fun p => by rw [r5.kd 46 p rfl, hF3.kd 46 p rfl, hF9.kd 46 p rfl, hF5'.kd 46 p rfl]) (by rw [r5.kd 47 0 rfl, hF3.kd 47 0 rfl, hF9.kd 47 0 rfl, hF5'.kd 47 0 rfl]) (by rw [r5.kd 48 0 rfl, hF3.kd 48 0 rfl, hF9.kd 48 0 rfl, hF5'.kd 48 0 rfl])
      refine ⟨y1, r3, r5.kd 92 0 rfl, fun i => r5.kd 100 i rfl, inv_new hW y2 hC (by rw [o8]; exact v5) r4 (by rw [o8, y3]; exact u2) ?_ ?_ h7⟩
      · rw [o11 15 (by decide), o50, i1, Int32.add_zero]
      · rw [o11 16 (by decide), o50, i2, Int32.add_zero]
