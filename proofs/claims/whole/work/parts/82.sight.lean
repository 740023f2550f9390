/-! ===== the fewest places from which all see it ===== -/
theorem bcnt12a : ∀ a, a < 64 → ∀ b, b < 64 → r_J6_bitCount_0f7a4 (nI (64 * a + b)) = nI (onc (nI (64 * a + b)) 12) := by decide +kernel
theorem bcnt12 (s : Nat) (h : s < 4096) : r_J6_bitCount_0f7a4 (nI s) = nI (onc (nI s) 12) := by
  have := bcnt12a (s / 64) (by omega) (s % 64) (by omega)
  rw [Nat.div_add_mod] at this
  exact this
theorem onc_12a : ∀ N, N ≤ 12 → ∀ a, a < 64 → ∀ b, b < 64 → 64 * a + b < 2 ^ N → onc (nI (64 * a + b)) 12 ≤ N := by decide +kernel
theorem onc_12 (N : Nat) (hN : N ≤ 12) (s : Nat) (h : s < 2 ^ N) : onc (nI s) 12 ≤ N := by
  have h12 : 2 ^ N ≤ 2 ^ 12 := Nat.pow_le_pow_right (by decide) hN
  have := onc_12a N hN (s / 64) (by omega) (s % 64) (by omega)
  rw [Nat.div_add_mod] at this
  exact this h
theorem all_bt : ∀ P, P ≤ 12 → ∀ b, b < P → bt (nI (2 ^ P - 1)) b = true := by decide +kernel
theorem bt_above : ∀ b, b < 32 → bt (-1) b = true := b_m1
theorem sub_bt {B y : Int32} : (B &&& (y ^^^ (-1))) = 0 ↔ ∀ b, b < 32 → bt B b = true → bt y b = true := by
  constructor
  · intro h b hb hB
    have h2 : bt (B &&& (y ^^^ (-1))) b = false := by rw [h, b_0]
    rw [b_and, b_xor, bt_above b hb, hB] at h2
    cases hy : bt y b with
    | true => rfl
    | false =>
      rw [hy] at h2
      cases h2
  · intro h
    apply b_ext
    intro b hb
    rw [b_and, b_xor, bt_above b hb, b_0]
    cases hB : bt B b with
    | false => rfl
    | true =>
      rw [h b hb hB]
      rfl
noncomputable def cov (w : Wd) (B : Int32) (s : Nat) : Bool := @decide (∀ b, b < 32 → bt B b = true → (bt (nI s) b = true ∨ ∃ i, i < wP w ∧ bt (nI s) i = true ∧ bt (lnk w i) b = true)) (Classical.propDecidable _)
theorem cov_if {w : Wd} {B : Int32} {s : Nat} : cov w B s = true ↔ ∀ b, b < 32 → bt B b = true → (bt (nI s) b = true ∨ ∃ i, i < wP w ∧ bt (nI s) i = true ∧ bt (lnk w i) b = true) := by
  unfold cov
  exact @decide_eq_true_iff _ (Classical.propDecidable _)
theorem cov_eq {w : Wd} {B y : Int32} {s : Nat} (h : ∀ b, b < 32 → (bt y b = true ↔ bt (nI s) b = true ∨ ∃ i, i < wP w ∧ bt (nI s) i = true ∧ bt (lnk w i) b = true)) : (B &&& (y ^^^ (-1))) = 0 ↔ cov w B s = true := by
  rw [sub_bt, cov_if]
  exact ⟨fun g b hb hB => (h b hb).mp (g b hb hB), fun g b hb hB => (h b hb).mpr (g b hb hB)⟩
theorem cB_in {w : Wd} (hW : WF w) (r : Rw) {b : Nat} (hb : b < 32) (h : bt (cB w r) b = true) : b < wP w := by
  have hP := hW.1.2
  have hf := FF_of hW r
  have hno : ∀ j, j < cL w r → stp (nxt w r) (spr w) j = false := fun j hj => fa_first_no (stp (nxt w r) (spr w)) 13 j hj
  obtain ⟨j, hj, e⟩ := (bse_bit hf (cL w r) (fun j hj => stp_no (hno j hj)) b hb).mp h
  rcases pth_in hf j with h2 | ⟨c, hc, h2⟩
  · exact absurd h2 (stp_no (hno j hj))
  · rw [h2] at e
    have := (nI_eq (by omega) (by omega)).mp e
    omega
theorem cov_all {w : Wd} (hW : WF w) (r : Rw) : cov w (cB w r) (2 ^ wP w - 1) = true := by
  rw [cov_if]
  intro b hb h
  exact Or.inl (all_bt _ hW.1.2 b (cB_in hW r hb h))
theorem sight_c {w : Wd} {m : Mem} (hW : WF w) (hL : CL w m) : Tot (r_X11_sight_l25 (-1) (nI (wP w) + 1) 0 m) (fun q => MB (cov w (m 6 0 4)) 0 (2 ^ wP w) q.1 ∧ q.2 = m) := by
  have hP := hW.1
  have hp64 : 2 ^ wP w ≤ 2 ^ 12 := Nat.pow_le_pow_right (by decide) hP.2
  unfold r_X11_sight_l25
  rw [tot_bd1]
  generalize hok : cov w (m 6 0 4) = ok
  refine tot_for (fun s (t : Int32 × Int32 × Int32) => MB ok 0 s t.1 ∧ t.2.1 = (if t.1 = -1 then nI (wP w) + 1 else nI (onc t.1 12)) ∧ t.2.2 = nI s) (2 ^ wP w) ?_ ?_ 0 _ (Nat.zero_le _) ⟨Or.inl ⟨rfl, fun s _ hs => absurd hs (Nat.not_lt_zero s)⟩, rfl, rfl⟩
  · rintro s ⟨x3, x4, x5⟩ hs ⟨e1, e2, e3⟩
    dsimp only at e1 e2 e3 ⊢
    subst e3
    have o1 := onc_12 (wP w) hP.2 s hs
    unfold r_X11_sight_b25 r_X11_sight_j78_c25
    rw [hL.1, hP.1, shl_pow _ (by omega), if_neg (nI_ge hs (by omega)), bcnt12 s (by omega)]
    by_cases hx : x4 ≤ nI (onc (nI s) 12)
    · rw [if_pos hx]
      refine tot_some.mpr ⟨?_, e2, (nI_succ s).symm⟩
      rcases e1 with ⟨f1, f2⟩ | ⟨t, f1, f2, f3, f4, f5⟩
      · rw [if_pos f1] at e2
        rw [e2, ← nI_succ] at hx
        exact absurd hx (nI_ge (by omega) (by omega))
      · have o2 := onc_12 (wP w) hP.2 t (by omega)
        rw [if_neg (by rw [f1]; exact m1_ne (by omega)), f1] at e2
        rw [e2, nI_le_iff (by omega) (by omega)] at hx
        refine Or.inr ⟨t, f1, f2, by omega, f4, fun s2 g1 g2 g3 => ?_⟩
        by_cases hh : s2 = s
        · rw [hh]
          omega
        · exact f5 s2 g1 (by omega) g3
    · rw [if_neg hx, tot_bd1]
      refine (linked_c hW hL).mono ?_
      intro z hz
      have hc : ((m 6 0 4) &&& ((nI s ||| z) ^^^ (-1))) = 0 ↔ ok s = true := by
        rw [← hok]
        refine cov_eq (fun b hb => ?_)
        rw [b_or, Bool.or_eq_true, hz b hb]
      by_cases hb : ok s = true
      · rw [if_pos (hc.mpr hb)]
        refine tot_some.mpr ⟨Or.inr ⟨s, rfl, Nat.zero_le _, by omega, hb, fun s2 g1 g2 g3 => ?_⟩, (if_neg (m1_ne (by omega))).symm, (nI_succ s).symm⟩
        by_cases hh : s2 = s
        · rw [hh]
          omega
        · left
          rcases e1 with ⟨f1, f2⟩ | ⟨t, f1, f2, f3, f4, f5⟩
          · rw [f2 s2 g1 (by omega)] at g3
            cases g3
          · have o2 := onc_12 (wP w) hP.2 t (by omega)
            rw [if_neg (by rw [f1]; exact m1_ne (by omega)), f1] at e2
            rw [e2, nI_le_iff (by omega) (by omega)] at hx
            have := f5 s2 g1 (by omega) g3
            omega
      · rw [if_neg (fun q => hb (hc.mp q))]
        refine tot_some.mpr ⟨?_, e2, (nI_succ s).symm⟩
        rcases e1 with ⟨f1, f2⟩ | ⟨t, f1, f2, f3, f4, f5⟩
        · refine Or.inl ⟨f1, fun s2 g1 g2 => ?_⟩
          by_cases hh : s2 = s
          · rw [hh]
            exact ts_nt' hb
          · exact f2 s2 g1 (by omega)
        · refine Or.inr ⟨t, f1, f2, by omega, f4, fun s2 g1 g2 g3 => ?_⟩
          by_cases hh : s2 = s
          · rw [hh] at g3
            exact absurd g3 hb
          · exact f5 s2 g1 (by omega) g3
  · rintro ⟨x3, x4, x5⟩ ⟨e1, e2, e3⟩
    dsimp only at e1 e2 e3 ⊢
    subst e3
    unfold r_X11_sight_b25
    rw [hL.1, hP.1, shl_pow _ (by omega), if_pos (nI_le (Nat.le_refl _) (by omega)), tot_some]
    exact tot_some.mpr ⟨e1, rfl⟩
set_option maxHeartbeats 1000000 in
theorem sight_m {m : Mem} {B : Int32} (hW : WF (mW m)) (hall : cov (mW m) B (2 ^ wP (mW m) - 1) = true) : Tot (r_X12_sight_l27 B (nI (2 ^ wP (mW m)) - 1) (nI (2 ^ wP (mW m)) - 1) m) (fun q => MB (cov (mW m) B) 0 (2 ^ wP (mW m)) q.1 ∧ q.2 = m) := by
  have hP := hW.1
  have hp1 : 1 ≤ 2 ^ wP (mW m) := Nat.one_le_two_pow
  have hp64 : 2 ^ wP (mW m) ≤ 2 ^ 12 := Nat.pow_le_pow_right (by decide) hP.2
  have h52 : m 52 0 0 = nI (wP (mW m)) := hP.1
  unfold r_X12_sight_l27
  rw [tot_bd1]
  generalize hok : cov (mW m) B = ok at hall ⊢
  refine tot_for (fun k (t : Int32 × Int32) => (∃ c, t.1 = nI c ∧ c < 2 ^ wP (mW m) ∧ ok c = true ∧ ∀ s, 2 ^ wP (mW m) - k ≤ s → s < 2 ^ wP (mW m) → ok s = true → onc (nI c) 12 < onc (nI s) 12 ∨ (onc (nI c) 12 = onc (nI s) 12 ∧ c ≤ s)) ∧ t.2 = nI (2 ^ wP (mW m) - k) - 1) (2 ^ wP (mW m)) ?_ ?_ 0 _ (Nat.zero_le _) ⟨⟨2 ^ wP (mW m) - 1, nI_sub (b := 1) hp1, by omega, hall, fun s h1 h2 => by omega⟩, rfl⟩
  · rintro k ⟨x2, x3⟩ hk ⟨⟨c, e1, c1, c2, c3⟩, e2⟩
    dsimp only at e1 e2 ⊢
    obtain ⟨s, hs⟩ : ∃ s, 2 ^ wP (mW m) - k = s + 1 := ⟨2 ^ wP (mW m) - k - 1, by omega⟩
    have hs2 : 2 ^ wP (mW m) - (k + 1) = s := by omega
    rw [hs] at c3 e2
    rw [hs2]
    rw [show nI (s + 1) - 1 = nI s from nI_sub (a := s + 1) (b := 1) (by omega)] at e2
    subst e1 e2
    have enx : nI s + (-1) = nI s - 1 := by rw [Int32.sub_eq_add_neg]
    have o1 := onc_le (nI s) 12
    have o2 := onc_le (nI c) 12
    unfold r_X12_sight_b27
    rw [if_neg (show ¬ nI (s) < (0 : Int32) from nI_nlt (a := s) (b := 0) (by omega) (by omega)), bd1_s (ones_eq _), bd1_s (ones_eq _)]
    have keep : (ok s = true → onc (nI c) 12 < onc (nI s) 12) → ∃ c2, nI c = nI c2 ∧ c2 < 2 ^ wP (mW m) ∧ ok c2 = true ∧ ∀ s2, s ≤ s2 → s2 < 2 ^ wP (mW m) → ok s2 = true → onc (nI c2) 12 < onc (nI s2) 12 ∨ (onc (nI c2) 12 = onc (nI s2) 12 ∧ c2 ≤ s2) := by
      intro h
      refine ⟨c, rfl, c1, c2, fun s2 g1 g2 g3 => ?_⟩
      by_cases hh : s2 = s
      · rw [hh] at g3 ⊢
        exact Or.inl (h g3)
      · exact c3 s2 (by omega) g2 g3
    by_cases hle : onc (nI s) 12 ≤ onc (nI c) 12
    · rw [if_pos (nI_le hle (by omega))]
      unfold r_X12_sight_l51_c27
      rw [tot_bd1]
      refine tot_for (fun j (t : Int32 × Int32) => (∀ b, b < 32 → (bt t.1 b = true ↔ bt (nI s) b = true ∨ ∃ i, i < j ∧ bt (nI s) i = true ∧ bt (lnk (mW m) i) b = true)) ∧ t.2 = nI j) (wP (mW m)) ?_ ?_ 0 _ (Nat.zero_le _) ⟨fun b hb => ⟨Or.inl, fun h => h.elim id (fun ⟨i, hi, _⟩ => absurd hi (Nat.not_lt_zero i))⟩, rfl⟩
      · rintro j ⟨x4, x5⟩ hj ⟨f1, f2⟩
        dsimp only at f1 f2 ⊢
        subst f2
        unfold r_X12_sight_b51_c27 r_X12_sight_j83_c51
        rw [h52, if_neg (nI_ge hj (by omega)), has_eq (by omega)]
        by_cases hb : bt (nI s) j = true
        · rw [if_pos hb, bd1_s (ditchesOf_eq hW)]
          refine tot_some.mpr ⟨fun b hb2 => ?_, (nI_succ j).symm⟩
          show bt (x4 ||| lnk (mW m) j) b = true ↔ _
          rw [b_or, Bool.or_eq_true, f1 b hb2, or_assoc]
          constructor
          · rintro (h | ⟨i, hi, h⟩ | h)
            · exact Or.inl h
            · exact Or.inr ⟨i, by omega, h⟩
            · exact Or.inr ⟨j, by omega, hb, h⟩
          · rintro (h | ⟨i, hi, h⟩)
            · exact Or.inl h
            · by_cases hij : i = j
              · rw [hij] at h
                exact Or.inr (Or.inr h.2)
              · exact Or.inr (Or.inl ⟨i, by omega, h⟩)
        · rw [if_neg hb]
          refine tot_some.mpr ⟨fun b hb2 => ?_, (nI_succ j).symm⟩
          show bt (x4 ||| 0) b = true ↔ _
          rw [b_or, b_0, Bool.or_false, f1 b hb2]
          constructor
          · rintro (h | ⟨i, hi, h⟩)
            · exact Or.inl h
            · exact Or.inr ⟨i, by omega, h⟩
          · rintro (h | ⟨i, hi, h⟩)
            · exact Or.inl h
            · by_cases hij : i = j
              · rw [hij] at h
                exact absurd h.1 hb
              · exact Or.inr ⟨i, by omega, h⟩
      · rintro ⟨x4, x5⟩ ⟨f1, f2⟩
        dsimp only at f1 f2 ⊢
        subst f2
        unfold r_X12_sight_b51_c27
        rw [h52, if_pos (nI_le (Nat.le_refl _) (by omega)), tot_some]
        show Tot (r_X12_sight_e92_h51_c27 _ _ _ _ _) _
        unfold r_X12_sight_e92_h51_c27 r_X12_sight_j106_c27 r_X12_sight_j107_c27
        have hc : (B &&& (x4 ^^^ (-1))) = 0 ↔ ok s = true := by
          rw [← hok]
          exact cov_eq f1
        rw [enx]
        by_cases hb : ok s = true
        · rw [if_pos (hc.mpr hb)]
          refine tot_some.mpr ⟨⟨s, rfl, by omega, hb, fun s2 g1 g2 g3 => ?_⟩, rfl⟩
          by_cases hh : s2 = s
          · rw [hh]
            omega
          · have := c3 s2 (by omega) g2 g3
            omega
        · rw [if_neg (fun q => hb (hc.mp q))]
          exact tot_some.mpr ⟨keep (fun q => absurd q hb), rfl⟩
    · rw [if_neg (nI_ge (by omega) (by omega))]
      unfold r_X12_sight_j107_c27
      rw [enx]
      exact tot_some.mpr ⟨keep (fun _ => by omega), rfl⟩
  · rintro ⟨x2, x3⟩ ⟨⟨c, e1, c1, c2, c3⟩, e2⟩
    dsimp only at e1 e2 ⊢
    rw [Nat.sub_self] at c3 e2
    subst e1 e2
    unfold r_X12_sight_b27
    rw [if_pos (by decide), tot_some]
    exact tot_some.mpr ⟨Or.inr ⟨c, rfl, Nat.zero_le _, c1, c2, c3⟩, rfl⟩
theorem op_24 {x4 : Int32} {m : Mem} (hI : Inv m) : Tot (r_L_op_24 x4 m) (fun m7 => Inv m7 ∧ ∀ i, m7 100 i = m 100 i) := by
  obtain ⟨hW, hR, hL, hC, hS⟩ := hI.1
  have hP := hW.1
  unfold r_L_op_24 r_X11_sight
  rw [tot_bd2, tot_bd1]
  refine (trace_tot hW hL hC hS).mono ?_
  rintro m1 ⟨t1, t2, t3, hF⟩
  have hL1 : CL (mW m) m1 := hL.fj hF (by decide) (by decide)
  have hI1 : Inv m1 := InvX.fj hF rfl rfl hI
  have h3 : m1 3 0 0 = nI (wP (mW m)) := hL1.1.trans hP.1
  obtain ⟨e, h60⟩ := pre3 hF (by decide) (by decide) (by decide) (by decide)
  have hW3 : WF (mW (wr m1 12 0 0 0)) := by rw [e]; exact hW
  rw [h3]
  refine (sight_c hW hL1).mono ?_
  rintro ⟨z, m2⟩ ⟨g1, g2⟩
  dsimp only at g1 g2 ⊢
  subst g2
  rw [t2] at g1
  unfold r_X12_sight
  rw [tot_bd2, tot_bd2]
  refine (courseOf_tot (i := 0) hW3).mono ?_
  rintro ⟨z3, m3⟩ ⟨j1, j2, j3, j4, j5⟩
  dsimp only at j1 j5 ⊢
  rw [e, h60] at j1
  have fW3 : mW m3 = mW m := (mW_fj j5 (by decide) (by decide)).trans e
  have h52 : m3 52 0 0 = nI (wP (mW m)) := by rw [← fW3]; exact (show WF (mW m3) by rw [fW3]; exact hW).1.1
  have hs := sight_m (m := m3) (B := z3) (by rw [fW3]; exact hW) (by rw [fW3, j1]; exact cov_all hW _)
  rw [fW3] at hs
  rw [h52, shl_pow _ (by omega)]
  refine hs.mono ?_
  rintro ⟨z4, m4⟩ ⟨k1, k2⟩
  dsimp only at k1 k2 ⊢
  subst k2
  rw [j1] at k1
  rw [if_pos (MB.uq g1 k1)]
  have hF2 : Fj [(55, 0), (56, 0), (57, 0), (58, 0)] [(12, 0), (12, 42)] m2 m4 := ((th_fj m2 0).mono (by simp) (by simp)).tr (j5.mono (by simp) (by simp))
  refine tot_some.mpr ⟨InvX.fj hF2 rfl rfl hI1, fun i => ?_⟩
  rw [hF2.rw' 100 i (by simp) (by simp), hF.rw' 100 i (by simp) (by simp)]
