/-! ===== the land, alike ===== -/
theorem fst_cong {p q : Nat → Bool} {n : Nat} (h : ∀ j, j < n → p j = q j) : fa_first p n = fa_first q n := by
  have hle := fa_first_le q n
  by_cases hn : fa_first q n < n
  · exact first_at hn (by rw [h _ hn]; exact fa_first_yes q n hn) (fun j hj => by rw [h j (by omega)]; exact fa_first_no q n j hj)
  · rw [show fa_first q n = n by omega]
    exact first_none (fun j hj => by rw [h j hj]; exact fa_first_no q n j (by omega))
theorem bw_c2 {S w : Wd} (h : ∀ e, e < wD S → w 2 e = S 2 e ∧ w 3 e = S 3 e) (hD : wD w = wD S) (a c : Nat) : bw w a c = bw S a c := by
  unfold bw btw
  rw [hD, fst_cong (q := hit S (nI a) (nI c)) (fun e he => by unfold hit; rw [(h e he).1, (h e he).2])]
/-- the class's land anew -/
def CsP (S : Wd) (M : Mem) : Prop := (∀ k, k < 4 → M 3 0 k = S 0 k) ∧ (∀ a, a < wP S → M 25 0 a = S 1 a) ∧ (∀ e, e < wD S → M 27 0 e = S 2 e ∧ M 28 0 e = S 3 e) ∧ (∀ a c, a < wP S → c < wP S → M 29 0 (12 * a + c) = bw S a c) ∧ (∀ a, a < 12 → ∀ x, x < 32 → bt (M 26 0 a) x = decide (x < 12 ∧ ¬ bw S a x = -1)) ∧ (M 4 0 3 = 7 ∧ ∀ k, k < 7 → M 34 0 k = wtL.getD k 0) ∧ (M 1 0 0 = 0 ∧ ∀ a, a < 12 → M 36 0 a = -1) ∧ (M 7 0 0 = 0 ∧ M 7 0 1 = S 0 2 ∧ (∀ p, p < wN S → M 20 0 p = S 4 p ∧ M 21 0 p = S 5 p) ∧ (∀ q, q < 72 → M 22 0 q = S 6 q) ∧ ∀ e, e < 16 → M 23 0 e = 0 ∧ M 24 0 e = 0) ∧ M 5 0 0 = 0 ∧ M 2 0 0 = 0 ∧ M 11 0 14 = 0
set_option maxHeartbeats 1000000 in
theorem inv_new {S : Wd} {M : Mem} (hW : LW S) (hB : BgP S M) (hC : CsP S M) (h81 : M 8 0 1 = 0) (h121 : M 12 0 1 = 0) (h3 : M 8 0 3 = M 12 0 3) (h15 : M 11 0 15 = M 50 0 0) (h16 : M 11 0 16 = M 50 0 1) (h7 : I7 M) : Inv M := by
  obtain ⟨⟨p1, p2⟩, ⟨d1, d2⟩, ⟨n1, n2⟩, ⟨s1, s2⟩, w5, w6, w7, w8, w9⟩ := hW
  obtain ⟨b1, b2, b3, b4, b5, b6, b7, b8, b9, b10, b11, b12⟩ := hB
  obtain ⟨c1, c2, c3, c4, c5, ⟨c6, c7⟩, ⟨c8, c9⟩, ⟨c10, c11, c12, c13, c14⟩, c15, c16, c17⟩ := hC
  have z0 : mW M 0 0 = S 0 0 := b1 0 (by omega)
  have z1 : mW M 0 1 = S 0 1 := b1 1 (by omega)
  have z2 : mW M 0 2 = S 0 2 := b1 2 (by omega)
  have z3 : mW M 0 3 = S 0 3 := b1 3 (by omega)
  have eP : wP (mW M) = wP S := by unfold wP; rw [z0]
  have eD : wD (mW M) = wD S := by unfold wD; rw [z1]
  have eN : wN (mW M) = wN S := by unfold wN; rw [z2]
  have eS : wS (mW M) = wS S := by unfold wS; rw [z3]
  have z7 : mW M 7 0 = 0 := b8
  have en : wn (mW M) = 0 := by unfold wn; rw [z7]; rfl
  have eB : ∀ a c, bw (mW M) a c = bw S a c := bw_c2 (fun e he => b3 e he) eD
  have hWF : WF (mW M) := by
    unfold WF
    rw [eP, eD, eN, eS, en, z0, z1, z2, z3, z7]
    refine ⟨⟨p1, p2⟩, ⟨d1, d2⟩, ⟨n1, n2⟩, ⟨s1, s2⟩, rfl, ⟨by omega, fun k hk => absurd hk (Nat.not_lt_zero k)⟩, fun e he => ?_, w6, fun p hp => ?_⟩
    · obtain ⟨a, c, ha, hc, hac, e1, e2⟩ := w5 e he
      exact ⟨a, c, ha, hc, hac, (b3 e he).1.trans e1, (b3 e he).2.trans e2⟩
    · obtain ⟨t, t1, t2, t3⟩ := w7 p hp
      exact ⟨t, t1, t2, (b4 p hp).1.trans t3⟩
  refine ⟨⟨hWF, ?_, ?_, ?_, ?_⟩, ⟨⟨0, by omega, h81, h121, fun k hk => absurd hk (Nat.not_lt_zero k)⟩, h3⟩, ⟨0, by omega, c15, b10, fun j hj => absurd hj (Nat.not_lt_zero j)⟩, ⟨0, by omega, c16, b12, fun j hj => absurd hj (Nat.not_lt_zero j)⟩, ⟨0, by omega, c8, b9, fun j hj => absurd hj (Nat.not_lt_zero j), fun a ha => Or.inl (c9 a ha)⟩, ⟨by rw [h15, Int32.add_zero], by rw [h16, Int32.add_zero], c17.trans b11.symm⟩, h7⟩
  · unfold RF
    rw [eP, eN]
    refine ⟨fun p hp => ?_, fun p a hp ha => ?_, fun e he => ⟨0, by omega, b7 _ (by omega) (by omega)⟩⟩
    · rw [b6 p hp]
      exact w8 p hp
    · rw [b5 _ (by omega)]
      rcases w9 (12 * p + a) with h | ⟨e1, e2, c, hc, e3⟩
      · exact Or.inl h
      · exact Or.inr ⟨by omega, c, hc, e3⟩
  · unfold CL
    rw [eP, eD, z0, z1, z2, z3]
    refine ⟨c1 0 (by omega), c1 1 (by omega), c1 2 (by omega), c1 3 (by omega), fun a ha => (c2 a ha).trans (b2 a ha).symm, fun e he => ⟨(c3 e he).1.trans (b3 e he).1.symm, (c3 e he).2.trans (b3 e he).2.symm⟩, fun a c ha hc => ?_, fun a ha x hx => ?_⟩
    · rw [eB]
      exact c4 a c ha hc
    · rw [eB]
      exact c5 a ha x hx
  · unfold CW lawC
    rw [en]
    exact Or.inl ⟨rfl, c6, c7⟩
  · unfold StC
    rw [eN, z2]
    refine ⟨c10.trans (b7 110 (by omega) (by omega)).symm, c11, fun p hp => ⟨(c12 p hp).1.trans (b4 p hp).1.symm, (c12 p hp).2.trans (b6 p hp).symm⟩, fun p a hp ha => (c13 _ (by omega)).trans (b5 _ (by omega)).symm, fun e he => ⟨(c14 e he).1.trans (b7 _ (by omega) (by omega)).symm, (c14 e he).2.trans (b7 _ (by omega) (by omega)).symm⟩⟩
abbrev KL0 : List (Nat × Nat) := [(3, 0), (25, 0), (26, 0), (27, 0), (28, 0), (29, 0), (30, 0), (31, 0), (32, 0)]
set_option maxHeartbeats 1000000 in
theorem copyL_c {m : Mem} : Tot (r_X3_copyFrom 0 1 m) (fun M => (∀ k, k < 4 → M 3 0 k = m 3 1 k) ∧ (∀ j, j < 12 → M 25 0 j = m 25 1 j) ∧ (∀ j, j < 12 → M 26 0 j = m 26 1 j) ∧ (∀ j, j < 16 → M 27 0 j = m 27 1 j) ∧ (∀ j, j < 16 → M 28 0 j = m 28 1 j) ∧ (∀ j, j < 144 → M 29 0 j = m 29 1 j) ∧ (∀ j, j < 6 → M 30 0 j = m 30 1 j) ∧ (∀ j, j < 6 → M 31 0 j = m 31 1 j) ∧ (∀ j, j < 72 → M 32 0 j = m 32 1 j) ∧ Fr KL0 m M) := by
  unfold r_X3_copyFrom
  have y1 : (wr m 3 0 0 (m 3 1 0)) 3 1 1 = m 3 1 1 := wr_i (by decide)
  rw [y1]
  have y2 : (wr (wr m 3 0 0 (m 3 1 0)) 3 0 1 (m 3 1 1)) 3 1 2 = m 3 1 2 := by rw [wr_i (by decide), wr_i (by decide)]
  rw [y2]
  have y3 : (wr (wr (wr m 3 0 0 (m 3 1 0)) 3 0 1 (m 3 1 1)) 3 0 2 (m 3 1 2)) 3 1 3 = m 3 1 3 := by rw [wr_i (by decide), wr_i (by decide), wr_i (by decide)]
  rw [y3]
  have hF0 : Fr KL0 m (wr (wr (wr (wr m 3 0 0 (m 3 1 0)) 3 0 1 (m 3 1 1)) 3 0 2 (m 3 1 2)) 3 0 3 (m 3 1 3)) := (((Fr.rf.wr (by simp) _ _).wr (by simp) _ _).wr (by simp) _ _).wr (by simp) _ _
  have v3 : ∀ k, k < 4 → wr (wr (wr (wr m 3 0 0 (m 3 1 0)) 3 0 1 (m 3 1 1)) 3 0 2 (m 3 1 2)) 3 0 3 (m 3 1 3) 3 0 k = m 3 1 k := fun k hk => by
    rw [wr_if, wr_if, wr_if, wr_if]
    by_cases e3 : k = 3
    · rw [if_pos e3, e3]
    rw [if_neg e3]
    by_cases e2 : k = 2
    · rw [if_pos e2, e2]
    rw [if_neg e2]
    by_cases e1 : k = 1
    · rw [if_pos e1, e1]
    rw [if_neg e1, if_pos (by omega), show k = 0 by omega]
  have vo : ∀ a c, ¬ a = 3 → wr (wr (wr (wr m 3 0 0 (m 3 1 0)) 3 0 1 (m 3 1 1)) 3 0 2 (m 3 1 2)) 3 0 3 (m 3 1 3) a 1 c = m a 1 c := fun a c h => by
    rw [wr_k h, wr_k h, wr_k h, wr_k h]
  generalize wr (wr (wr (wr m 3 0 0 (m 3 1 0)) 3 0 1 (m 3 1 1)) 3 0 2 (m 3 1 2)) 3 0 3 (m 3 1 3) = m0 at hF0 v3 vo ⊢
  refine tot_some.mpr ⟨fun k hk => ?_, fun j hj => ?_, fun j hj => ?_, fun j hj => ?_, fun j hj => ?_, fun j hj => ?_, fun j hj => ?_, fun j hj => ?_, fun j hj => ?_, ?_⟩
  · rw [cp_k (by decide), cp_k (by decide), cp_k (by decide), cp_k (by decide), cp_k (by decide), cp_k (by decide), cp_k (by decide), cp_k (by decide)]
    exact v3 k hk
  · rw [cp_k (by decide), cp_k (by decide), cp_k (by decide), cp_k (by decide), cp_k (by decide), cp_k (by decide), cp_k (by decide), cp_at _ _ _ _ _ _ hj]
    exact vo 25 j (by decide)
  · rw [cp_k (by decide), cp_k (by decide), cp_k (by decide), cp_k (by decide), cp_k (by decide), cp_k (by decide), cp_at _ _ _ _ _ _ hj, cp_k (by decide)]
    exact vo 26 j (by decide)
  · rw [cp_k (by decide), cp_k (by decide), cp_k (by decide), cp_k (by decide), cp_k (by decide), cp_at _ _ _ _ _ _ hj, cp_k (by decide), cp_k (by decide)]
    exact vo 27 j (by decide)
  · rw [cp_k (by decide), cp_k (by decide), cp_k (by decide), cp_k (by decide), cp_at _ _ _ _ _ _ hj, cp_k (by decide), cp_k (by decide), cp_k (by decide)]
    exact vo 28 j (by decide)
  · rw [cp_k (by decide), cp_k (by decide), cp_k (by decide), cp_at _ _ _ _ _ _ hj, cp_k (by decide), cp_k (by decide), cp_k (by decide), cp_k (by decide)]
    exact vo 29 j (by decide)
  · rw [cp_k (by decide), cp_k (by decide), cp_at _ _ _ _ _ _ hj, cp_k (by decide), cp_k (by decide), cp_k (by decide), cp_k (by decide), cp_k (by decide)]
    exact vo 30 j (by decide)
  · rw [cp_k (by decide), cp_at _ _ _ _ _ _ hj, cp_k (by decide), cp_k (by decide), cp_k (by decide), cp_k (by decide), cp_k (by decide), cp_k (by decide)]
    exact vo 31 j (by decide)
  · rw [cp_at _ _ _ _ _ _ hj, cp_k (by decide), cp_k (by decide), cp_k (by decide), cp_k (by decide), cp_k (by decide), cp_k (by decide), cp_k (by decide)]
    exact vo 32 j (by decide)
  · exact cp_fr (cp_fr (cp_fr (cp_fr (cp_fr (cp_fr (cp_fr (cp_fr hF0 (by simp)) (by simp)) (by simp)) (by simp)) (by simp)) (by simp)) (by simp)) (by simp)
theorem clear4 {m : Mem} {i : Nat} : Tot (r_X4_clear i m) (fun M => M 4 i 3 = 7 ∧ (∀ k, k < 7 → M 34 i k = wtL.getD k 0) ∧ Fr [(4, i), (34, i)] m M) := by
  unfold r_X4_clear
  refine tot_some.mpr ⟨?_, fun k hk => ?_, fun a b hab => ?_⟩
  · rw [cpL_ne (fun e => absurd e.1 (by decide)), wr_eq]
  · rw [cpL_at]
    unfold va_cpy
    rw [if_pos ⟨Nat.zero_le _, by omega⟩]
    congr 1
    omega
  · rw [cpL_ne (fun e => hab (by rw [e.1, e.2]; simp))]
    funext c
    unfold wr
    rw [if_neg (fun e => hab (by rw [e.1, e.2.1]; simp))]
theorem begin7 {m : Mem} : Tot (r_X7_begin 0 0 m) (fun M => M 7 0 0 = 0 ∧ M 7 0 1 = m 3 0 2 ∧ (∀ p, p < 6 → M 20 0 p = m 30 0 p ∧ M 21 0 p = m 31 0 p) ∧ (∀ q, q < 72 → M 22 0 q = m 32 0 q) ∧ (∀ e, e < 16 → M 23 0 e = 0 ∧ M 24 0 e = 0) ∧ Fr [(7, 0), (20, 0), (21, 0), (22, 0), (23, 0), (24, 0)] m M) := by
  unfold r_X7_begin r_X7_begin_l63
  have hF0 : Fr [(7, 0), (20, 0), (21, 0), (22, 0), (23, 0), (24, 0)] m (cpM (cpM (cpM (wr (wr m 7 0 0 0) 7 0 1 (m 3 0 2)) 30 0 0 20 0 0 6) 31 0 0 21 0 0 6) 32 0 0 22 0 0 72) := cp_fr (cp_fr (cp_fr ((Fr.rf.wr (by simp) _ _).wr (by simp) _ _) (by simp)) (by simp)) (by simp)
  have v1 : cpM (cpM (cpM (wr (wr m 7 0 0 0) 7 0 1 (m 3 0 2)) 30 0 0 20 0 0 6) 31 0 0 21 0 0 6) 32 0 0 22 0 0 72 7 0 0 = 0 := by
    rw [cp_k (by decide), cp_k (by decide), cp_k (by decide), wr_j (by decide), wr_eq]
  have v2 : cpM (cpM (cpM (wr (wr m 7 0 0 0) 7 0 1 (m 3 0 2)) 30 0 0 20 0 0 6) 31 0 0 21 0 0 6) 32 0 0 22 0 0 72 7 0 1 = m 3 0 2 := by
    rw [cp_k (by decide), cp_k (by decide), cp_k (by decide), wr_eq]
  have v3 : ∀ p, p < 6 → cpM (cpM (cpM (wr (wr m 7 0 0 0) 7 0 1 (m 3 0 2)) 30 0 0 20 0 0 6) 31 0 0 21 0 0 6) 32 0 0 22 0 0 72 20 0 p = m 30 0 p := fun p hp => by
    rw [cp_k (by decide), cp_k (by decide), cp_at _ _ _ _ _ _ hp, wr_k (by decide), wr_k (by decide)]
  have v4 : ∀ p, p < 6 → cpM (cpM (cpM (wr (wr m 7 0 0 0) 7 0 1 (m 3 0 2)) 30 0 0 20 0 0 6) 31 0 0 21 0 0 6) 32 0 0 22 0 0 72 21 0 p = m 31 0 p := fun p hp => by
    rw [cp_k (by decide), cp_at _ _ _ _ _ _ hp, cp_k (by decide), wr_k (by decide), wr_k (by decide)]
  have v5 : ∀ p, p < 72 → cpM (cpM (cpM (wr (wr m 7 0 0 0) 7 0 1 (m 3 0 2)) 30 0 0 20 0 0 6) 31 0 0 21 0 0 6) 32 0 0 22 0 0 72 22 0 p = m 32 0 p := fun p hp => by
    rw [cp_at _ _ _ _ _ _ hp, cp_k (by decide), cp_k (by decide), wr_k (by decide), wr_k (by decide)]
  generalize cpM (cpM (cpM (wr (wr m 7 0 0 0) 7 0 1 (m 3 0 2)) 30 0 0 20 0 0 6) 31 0 0 21 0 0 6) 32 0 0 22 0 0 72 = m0 at hF0 v1 v2 v3 v4 v5 ⊢
  rw [tot_bd1]
  refine tot_for (fun k (t : Int32 × Mem) => t.1 = nI k ∧ (∀ e, e < k → t.2 23 0 e = 0 ∧ t.2 24 0 e = 0) ∧ (∀ a, ¬ a = 23 → ¬ a = 24 → t.2 a 0 = m0 a 0) ∧ Fr [(7, 0), (20, 0), (21, 0), (22, 0), (23, 0), (24, 0)] m t.2) 16 ?_ ?_ 0 _ (Nat.zero_le _) ⟨rfl, fun a h => absurd h (Nat.not_lt_zero a), fun _ _ _ => rfl, hF0⟩
  · rintro k ⟨x1, m1⟩ hk ⟨e1, e2, e3, hF⟩
    dsimp only at e1 e2 e3 hF ⊢
    subst e1
    unfold r_X7_begin_b63
    rw [if_neg (show ¬ (16 : Int32) ≤ nI (k) from nI_ge (b := 16) (a := k) (by omega) (by omega)), if_pos (inb_nI (by omega) (by omega)), clamp_nI (by omega)]
    refine tot_some.mpr ⟨(nI_succ k).symm, fun a ha => ?_, fun a h1 h2 => ?_, (hF.wr (by simp) _ _).wr (by simp) _ _⟩
    · dsimp only
      rw [wr_if, wr_k (a := 23) (by decide), wr_k (a := 24) (by decide), wr_if]
      by_cases hak : a = k
      · rw [if_pos hak, if_pos hak]
        exact ⟨rfl, rfl⟩
      · rw [if_neg hak, if_neg hak]
        exact e2 a (by omega)
    · dsimp only
      rw [← e3 a h1 h2]
      funext c
      rw [wr_k h2, wr_k h1]
  · rintro ⟨x1, m1⟩ ⟨e1, e2, e3, hF⟩
    dsimp only at e1 e2 e3 hF ⊢
    subst e1
    unfold r_X7_begin_b63
    rw [if_pos (by decide), tot_some]
    refine tot_some.mpr ⟨?_, ?_, fun p hp => ?_, fun q hq => ?_, e2, hF⟩
    · rw [e3 7 (by decide) (by decide)]
      exact v1
    · rw [e3 7 (by decide) (by decide)]
      exact v2
    · rw [e3 20 (by decide) (by decide), e3 21 (by decide) (by decide)]
      exact ⟨v3 p hp, v4 p hp⟩
    · rw [e3 22 (by decide) (by decide)]
      exact v5 q hq
theorem tellsN_m {m : Mem} : Tot (r_X12_tellsNothing m) (fun m' => LM bad0 m' ∧ Fj KLm [] m m') := by
  unfold r_X12_tellsNothing r_X12_tellsNothing_l2
  rw [tot_bd1]
  refine tot_for (fun k (t : Int32 × Mem) => t.1 = nI k ∧ (∀ a, a < k → t.2 51 0 a = 0) ∧ Fj KLm [] m t.2) 4 ?_ ?_ 0 _ (Nat.zero_le _) ⟨rfl, fun a h => absurd h (Nat.not_lt_zero a), Fj.rf⟩
  · rintro k ⟨x1, m1⟩ hk ⟨e1, e2, hF⟩
    dsimp only at e1 e2 hF ⊢
    subst e1
    unfold r_X12_tellsNothing_b2
    rw [if_neg (show ¬ (4 : Int32) ≤ nI (k) from nI_ge (b := 4) (a := k) (by omega) (by omega)), if_pos (inb_nI (by omega) (by omega)), clamp_nI (by omega)]
    refine tot_some.mpr ⟨(nI_succ k).symm, fun a ha => ?_, hF.wrK (by simp) _ _⟩
    dsimp only
    rw [wr_if]
    by_cases hak : a = k
    · rw [if_pos hak]
    · rw [if_neg hak]
      exact e2 a (by omega)
  · rintro ⟨x1, m1⟩ ⟨e1, e2, hF⟩
    dsimp only at e1 e2 hF ⊢
    subst e1
    unfold r_X12_tellsNothing_b2
    rw [if_pos (by decide), tot_some]
    show Tot (r_X12_tellsNothing_e20_h2 m1) _
    unfold r_X12_tellsNothing_e20_h2 r_X12_tellsNothing_l22
    rw [tot_bd1]
    refine tot_for (fun k (t : Int32 × Mem) => t.1 = nI k ∧ (∀ p a, p < k → a < 12 → t.2 69 p a = -1) ∧ (∀ a, a < 4 → t.2 51 0 a = 0) ∧ Fj KLm [] m t.2) 6 ?_ ?_ 0 _ (Nat.zero_le _) ⟨rfl, fun p a h => absurd h (Nat.not_lt_zero p), e2, hF⟩
    · rintro k ⟨x1, m2⟩ hk ⟨f1, f2, f3, hF2⟩
      dsimp only at f1 f2 f3 hF2 ⊢
      subst f1
      unfold r_X12_tellsNothing_b22 r_X12_tellsNothing_l30_c22
      rw [if_neg (show ¬ (6 : Int32) ≤ nI (k) from nI_ge (b := 6) (a := k) (by omega) (by omega)), tot_bd1]
      refine tot_for (fun l (t : Int32 × Mem) => t.1 = nI l ∧ (∀ a, a < l → t.2 69 k a = -1) ∧ (∀ p, ¬ p = k → t.2 69 p = m2 69 p) ∧ t.2 51 0 = m2 51 0 ∧ Fj KLm [] m t.2) 12 ?_ ?_ 0 _ (Nat.zero_le _) ⟨rfl, fun a h => absurd h (Nat.not_lt_zero a), fun _ _ => rfl, rfl, hF2⟩
      · rintro l ⟨x4, m3⟩ hl ⟨g1, g2, g3, g4, hF3⟩
        dsimp only at g1 g2 g3 g4 hF3 ⊢
        subst g1
        unfold r_X12_tellsNothing_b30_c22
        rw [if_neg (show ¬ (12 : Int32) ≤ nI (l) from nI_ge (b := 12) (a := l) (by omega) (by omega)), if_pos (inb_nI (k := k) (by omega) (by omega)), if_pos (inb_nI (k := l) (by omega) (by omega)), clamp_nI (k := k) (by omega), clamp_nI (k := l) (by omega)]
        refine tot_some.mpr ⟨(nI_succ l).symm, fun a ha => ?_, fun p hp => ?_, ?_, hF3.wrK (in69 k (by omega)) _ _⟩
        · dsimp only
          rw [wr_if]
          by_cases hak : a = l
          · rw [if_pos hak]
          · rw [if_neg hak]
            exact g2 a (by omega)
        · dsimp only
          rw [← g3 p hp]
          funext c
          exact wr_i hp
        · dsimp only
          rw [← g4]
          funext c
          exact wr_k (by decide)
      · rintro ⟨x4, m3⟩ ⟨g1, g2, g3, g4, hF3⟩
        dsimp only at g1 g2 g3 g4 hF3 ⊢
        subst g1
        unfold r_X12_tellsNothing_b30_c22
        rw [if_pos (by decide), tot_some]
        refine tot_some.mpr ⟨(nI_succ k).symm, fun p a hp ha => ?_, fun a ha => ?_, hF3⟩
        · dsimp only
          by_cases h : p = k
          · rw [h]
            exact g2 a ha
          · rw [g3 p h]
            exact f2 p a (by omega) ha
        · dsimp only
          rw [g4]
          exact f3 a ha
    · rintro ⟨x1, m2⟩ ⟨f1, f2, f3, hF2⟩
      dsimp only at f1 f2 f3 hF2 ⊢
      subst f1
      unfold r_X12_tellsNothing_b22
      rw [if_pos (by decide), tot_some]
      exact tot_some.mpr ⟨⟨f3, fun a ha => absurd ha (Nat.not_lt_zero a), fun a ha => absurd ha (Nat.not_lt_zero a), fun a ha => absurd ha (Nat.not_lt_zero a), f2⟩, hF2⟩
