/-! ===== where two meet ===== -/
def mtg (f : Nat → Nat) : Nat → Int32 × Nat
  | 0 => (-1, 99)
  | a + 1 => if f a < (mtg f a).2 then (nI a, f a) else mtg f a
theorem mtg_b (f : Nat → Nat) : ∀ k, (mtg f k).2 ≤ 99 ∧ ((mtg f k).1 = -1 ∧ (mtg f k).2 = 99 ∨ ∃ t, t < k ∧ (mtg f k).1 = nI t ∧ (mtg f k).2 < 99)
  | 0 => ⟨Nat.le_refl _, Or.inl ⟨rfl, rfl⟩⟩
  | a + 1 => by
    obtain ⟨h1, h2⟩ := mtg_b f a
    have st : mtg f (a + 1) = if f a < (mtg f a).2 then (nI a, f a) else mtg f a := rfl
    rw [st]
    by_cases h : f a < (mtg f a).2
    · rw [if_pos h]
      exact ⟨by dsimp only; omega, Or.inr ⟨a, by omega, rfl, by dsimp only; omega⟩⟩
    · rw [if_neg h]
      refine ⟨h1, h2.elim Or.inl (fun ⟨t, ht, h3⟩ => Or.inr ⟨t, by omega, h3⟩)⟩
set_option maxHeartbeats 1000000 in
theorem pair_meet {m : Mem} (hI : Inv m) (x y z : Int32) : Pair (fun m => r_L_meet x y z m) (fun m => r_X12_meet x y z m) m := by
  obtain ⟨hW, hR, hL, hC, hS⟩ := hI.1
  have hP := hW.1
  have hN := hW.2.2.1
  have bad : ¬ (isPe (mW m) x ∧ isPe (mW m) y) → ∀ m3, mW m3 = mW m → (∀ k i, ¬ k = 11 → m3 k i = m k i) → r_X12_meet x y z m3 = some (0, badm m3 1 0) := by
    intro h m3 e _
    have hW3 : WF (mW (wr m3 12 0 0 0)) := by rw [mW_th, e]; exact hW
    have j : r_X12_meet_j22 x y z (wr m3 12 0 0 0) = some (0, badm m3 1 0) := by
      unfold r_X12_meet_j22 r_X12_meet_j27
      rw [bd2_s (bad_10 (by decide)), if_pos rfl]
    unfold r_X12_meet
    by_cases hx : isPe (mW m) x
    · rw [bd1_s (isPerson_t hW3 (by rw [mW_th, e]; exact hx)), if_pos rfl, bd1_s (isPerson_f hW3 (by rw [mW_th, e]; exact fun q => h ⟨hx, q⟩)), if_neg (by decide)]
      exact j
    · rw [bd1_s (isPerson_f hW3 (by rw [mW_th, e]; exact hx)), if_neg (by decide)]
      exact j
  by_cases hx : isPe (mW m) x
  case neg =>
    refine Pair.b0 (c := 1) hI rfl (by decide) ?_ (bad (fun q => hx q.1))
    unfold r_X11_meet
    rw [thr_r (needPerson_f hL hx)]
  by_cases hy : isPe (mW m) y
  case neg =>
    refine Pair.b0 (c := 1) hI rfl (by decide) ?_ (bad (fun q => hy q.2))
    unfold r_X11_meet
    rw [thr_l (needPerson_t hL hx), thr_r (needPerson_f hL hy)]
  by_cases hz : 0 ≤ z ∧ z ≤ 1
  case neg =>
    refine Pair.b1 (c := 2) hI rfl (by decide) ?_ (fun m3 e _ => ?_)
    · unfold r_X11_meet
      rw [thr_l (needPerson_t hL hx), thr_l (needPerson_t hL hy), thr_r (needRange_f hz)]
    · have hW3 : WF (mW (wr m3 12 0 0 0)) := by rw [mW_th, e]; exact hW
      unfold r_X12_meet r_X12_meet_j27 r_X12_meet_j50
      rw [bd1_s (isPerson_t hW3 (by rw [mW_th, e]; exact hx)), if_pos rfl, bd1_s (isPerson_t hW3 (by rw [mW_th, e]; exact hy)), if_pos rfl, bd2_s bad_0, if_neg (by decide), if_neg (by rw [in_f hz]; decide), bd2_s (bad_11 (by decide)), if_pos rfl]
  obtain ⟨p, hp, rfl⟩ := isPe_of hW hx
  obtain ⟨q, hq, rfl⟩ := isPe_of hW hy
  obtain ⟨a, ha, ea⟩ := hR.1 p hp
  obtain ⟨b, hb, eb⟩ := hR.1 q hq
  have hf : ∃ f : Nat → Nat, f = fun c => fws (mW m) (wP (mW m)) a c + fws (mW m) (wP (mW m)) b c := ⟨_, rfl⟩
  obtain ⟨f, hf⟩ := hf
  have hfe : ∀ c, fws (mW m) (wP (mW m)) a c + fws (mW m) (wP (mW m)) b c = f c := fun c => by rw [hf]
  have hmb := mtg_b f
  refine Pair.ok (z := if z = 0 then (mtg f (wP (mW m))).1 else if (mtg f (wP (mW m))).1 = -1 then -1 else nI (mtg f (wP (mW m))).2) [] [] K89 [(12, 0)] hI ?_ (fun m3 _ hF => ?_) rfl rfl rfl rfl rfl rfl
  · unfold r_X11_meet r_X11_meet_l26
    rw [thr_l (needPerson_t hL hx), thr_l (needPerson_t hL hy), thr_l (needRange_t hz), tot_bd1]
    refine tot_for (fun k (t : Int32 × Int32 × Int32) => t.1 = (mtg f k).1 ∧ t.2.1 = (if (mtg f k).1 = -1 then -1 else nI (mtg f k).2) ∧ t.2.2 = nI k) (wP (mW m)) ?_ ?_ 0 _ (Nat.zero_le _) ⟨rfl, rfl, rfl⟩
    · rintro k ⟨x4, x5, x6⟩ hk ⟨e1, e2, e3⟩
      dsimp only at e1 e2 e3 ⊢
      subst e1 e2 e3
      obtain ⟨b1, b2⟩ := hmb k
      have st : mtg f (k + 1) = if f k < (mtg f k).2 then (nI k, f k) else mtg f k := rfl
      have fe := hfe k
      unfold r_X11_meet_b26 r_X11_meet_j106_3_c26 r_X11_meet_j117_3_c26
      rw [hL.1, hP.1, if_neg (nI_ge hk (by omega)), if_pos (inb_nI (by omega) (by omega)), clamp_nI (k := p) (by omega), (hS.2.2.1 p hp).2, ea, bd1_s (way_c hW hL ha hk), if_pos (inb_nI (by omega) (by omega)), clamp_nI (k := q) (by omega), (hS.2.2.1 q hq).2, eb, bd1_s (way_c hW hL hb hk)]
      have l1 := fws_lt (mW m) ha hk
      have l2 := fws_lt (mW m) hb hk
      unfold far
      have keep : ¬ f k < (mtg f k).2 → Tot (some (Sum.inl ((mtg f k).1, (if (mtg f k).1 = -1 then -1 else nI (mtg f k).2), nI k + 1)) : Option ((Int32 × Int32 × Int32) ⊕ (Int32 × Int32))) (Sum.elim (fun t : Int32 × Int32 × Int32 => t.1 = (mtg f (k + 1)).1 ∧ t.2.1 = (if (mtg f (k + 1)).1 = -1 then -1 else nI (mtg f (k + 1)).2) ∧ t.2.2 = nI (k + 1)) (fun e => Tot (r_X11_meet_e123_h26 z e.1 e.2 m) (fun q => q.1 = Sum.inl (if z = 0 then (mtg f (wP (mW m))).1 else if (mtg f (wP (mW m))).1 = -1 then -1 else nI (mtg f (wP (mW m))).2) ∧ Fj [] [] m q.2))) := by
        intro h
        rw [st, if_neg h]
        exact tot_some.mpr ⟨rfl, rfl, (nI_succ k).symm⟩
      by_cases h1 : fws (mW m) (wP (mW m)) a k < 99
      · rw [if_pos h1, if_neg (m1_ne (by omega))]
        by_cases h2 : fws (mW m) (wP (mW m)) b k < 99
        · have l1' := l1 h1
          have l2' := l2 h2
          rw [if_pos h2, if_neg (m1_ne (by omega)), nI_add, fe]
          have take : f k < (mtg f k).2 → Tot (some (Sum.inl (nI k, nI (f k), nI k + 1)) : Option ((Int32 × Int32 × Int32) ⊕ (Int32 × Int32))) (Sum.elim (fun t : Int32 × Int32 × Int32 => t.1 = (mtg f (k + 1)).1 ∧ t.2.1 = (if (mtg f (k + 1)).1 = -1 then -1 else nI (mtg f (k + 1)).2) ∧ t.2.2 = nI (k + 1)) (fun e => Tot (r_X11_meet_e123_h26 z e.1 e.2 m) (fun q => q.1 = Sum.inl (if z = 0 then (mtg f (wP (mW m))).1 else if (mtg f (wP (mW m))).1 = -1 then -1 else nI (mtg f (wP (mW m))).2) ∧ Fj [] [] m q.2))) := by
            intro h
            rw [st, if_pos h]
            exact tot_some.mpr ⟨rfl, (if_neg (m1_ne (by omega))).symm, (nI_succ k).symm⟩
          rcases b2 with ⟨b3, b4⟩ | ⟨t, ht, b3, b4⟩
          · rw [if_pos b3]
            exact take (by omega)
          · have hne : ¬ (mtg f k).1 = -1 := by rw [b3]; exact m1_ne (by omega)
            rw [if_neg hne, if_neg hne]
            by_cases hlt : f k < (mtg f k).2
            · rw [if_neg (nI_ge hlt (by omega))]
              exact take hlt
            · rw [if_pos (nI_le (by omega) (by omega))]
              have := keep hlt
              rw [if_neg hne] at this
              exact this
        · rw [if_neg h2, if_pos rfl]
          exact keep (by omega)
      · rw [if_neg h1, if_pos rfl]
        exact keep (by omega)
    · rintro ⟨x4, x5, x6⟩ ⟨e1, e2, e3⟩
      dsimp only at e1 e2 e3 ⊢
      subst e1 e2 e3
      unfold r_X11_meet_b26
      rw [hL.1, hP.1, if_pos (nI_le (Nat.le_refl _) (by omega)), tot_some]
      show Tot (r_X11_meet_e123_h26 _ _ _ _) _
      unfold r_X11_meet_e123_h26
      by_cases h0 : z = 0
      · rw [if_pos h0, if_pos h0]
        exact tot_some.mpr ⟨rfl, Fj.rf⟩
      · rw [if_neg h0, if_neg h0]
        exact tot_some.mpr ⟨rfl, Fj.rf⟩
  · obtain ⟨e, h60⟩ := pre3 hF (by decide) (by simp) (by decide) (by simp)
    have hW3 : WF (mW (wr m3 12 0 0 0)) := by rw [e]; exact hW
    unfold r_X12_meet r_X12_meet_j27 r_X12_meet_j50
    rw [bd1_s (isPerson_t hW3 (by rw [e]; exact hx)), if_pos rfl, bd1_s (isPerson_t hW3 (by rw [e]; exact hy)), if_pos rfl, bd2_s bad_0, if_neg (by decide), if_pos (in_t hz), bd2_s bad_0, if_neg (by decide), tot_bd1]
    have hm := far_m hW3
    rw [e] at hm
    refine hm.mono ?_
    rintro m4 ⟨g1, g2⟩
    have z4 : m4 12 0 0 = 0 := (g2 12 0 0 (by decide) (by decide)).trans (th_z m3 0)
    have hF4 : Fj K89 [(12, 0)] m3 m4 := ((th_fj m3 0).mono (by simp) (by simp)).tr (g2.mono (by simp) (by simp))
    have h52 : m4 52 0 0 = nI (wP (mW m)) := by
      rw [g2.rw' 52 0 (by decide) (by simp), ← e]
      exact hW3.1.1
    have e60 : m4 60 0 = m 60 0 := (g2.rw' 60 0 (by decide) (by simp)).trans (h60 0)
    unfold r_X12_meet_l74
    rw [tot_bd1]
    refine tot_for (fun k (t : Int32 × Int32 × Int32) => t.1 = (mtg f k).1 ∧ t.2.1 = nI (mtg f k).2 ∧ t.2.2 = nI k) (wP (mW m)) ?_ ?_ 0 _ (Nat.zero_le _) ⟨rfl, rfl, rfl⟩
    · rintro k ⟨x4, x5, x6⟩ hk ⟨e1, e2, e3⟩
      dsimp only at e1 e2 e3 ⊢
      subst e1 e2 e3
      obtain ⟨b1, b2⟩ := hmb k
      have st : mtg f (k + 1) = if f k < (mtg f k).2 then (nI k, f k) else mtg f k := rfl
      have fe := hfe k
      have le1 := fws_le (mW m) (wP (mW m)) a k
      have le2 := fws_le (mW m) (wP (mW m)) b k
      unfold r_X12_meet_b74 r_X12_meet_j140_c74
      rw [h52, if_neg (nI_ge hk (by omega)), show 72 + nI p = nI (72 + p) from nI_add 72 p, show 72 + nI q = nI (72 + q) from nI_add 72 q, if_pos (inb_nI (by omega) (by omega)), clamp_nI (k := 72 + p) (by omega), clamp_nI (k := 72 + q) (by omega), e60, ea, eb, if_pos (inb_nI (by omega) (by omega)), if_pos (inb_nI (by omega) (by omega)), if_pos (inb_nI (by omega) (by omega)), if_pos (inb_nI (by omega) (by omega)), clamp_nI (k := a) (by omega), clamp_nI (k := b) (by omega), clamp_nI (k := k) (by omega), g1 a k ha hk, g1 b k hb hk, nI_add, fe]
      by_cases hlt : f k < (mtg f k).2
      · rw [if_pos (nI_lt hlt (by omega)), st, if_pos hlt]
        exact tot_some.mpr ⟨rfl, rfl, (nI_succ k).symm⟩
      · rw [if_neg (nI_nlt (by omega) (by omega)), st, if_neg hlt]
        exact tot_some.mpr ⟨rfl, rfl, (nI_succ k).symm⟩
    · rintro ⟨x4, x5, x6⟩ ⟨e1, e2, e3⟩
      dsimp only at e1 e2 e3 ⊢
      subst e1 e2 e3
      unfold r_X12_meet_b74
      rw [h52, if_pos (nI_le (Nat.le_refl _) (by omega)), tot_some]
      show Tot (r_X12_meet_e146_h74 _ _ _ _) _
      unfold r_X12_meet_e146_h74
      by_cases h0 : z = 0
      · rw [if_pos h0, if_pos h0]
        exact tot_some.mpr ⟨rfl, z4, hF4⟩
      · rw [if_neg h0, if_neg h0]
        by_cases h1 : (mtg f (wP (mW m))).1 = -1
        · rw [if_pos h1, if_pos h1]
          exact tot_some.mpr ⟨h1, z4, hF4⟩
        · rw [if_neg h1, if_neg h1]
          exact tot_some.mpr ⟨rfl, z4, hF4⟩
