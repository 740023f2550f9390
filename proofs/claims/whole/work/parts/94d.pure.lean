/-! ===== the start: what the constructors make fits; the law comes to its end ===== -/
theorem inv_start {M : Mem} (b1 : ∀ k, k < 4 → M 52 0 k = 0) (b7 : ∀ j, 78 ≤ j → j < 111 → M 60 0 j = 0) (b8 : M 12 0 21 = 0) (b9 : M 12 0 35 = 0) (b10 : M 12 0 36 = 0) (b11 : M 12 0 37 = 0) (b12 : M 12 0 38 = 0) (c1 : ∀ k, k < 4 → M 3 0 k = 0) (c5 : ∀ a, M 26 0 a = 0) (c6 : M 4 0 3 = 7) (c7 : ∀ k, k < 7 → M 34 0 k = wtL.getD k 0) (c8 : M 1 0 0 = 0) (c9 : ∀ a, a < 12 → M 36 0 a = -1) (c10 : M 7 0 0 = 0) (c11 : M 7 0 1 = 0) (c14 : ∀ e, M 23 0 e = 0 ∧ M 24 0 e = 0) (c15 : M 5 0 0 = 0) (c16 : M 2 0 0 = 0) (c17 : M 11 0 14 = 0) (h81 : M 8 0 1 = 0) (h121 : M 12 0 1 = 0) (h3 : M 8 0 3 = M 12 0 3) (h15 : M 11 0 15 = M 50 0 0) (h16 : M 11 0 16 = M 50 0 1) (h7 : I7 M) : Inv M := by
  have z0 : mW M 0 0 = 0 := b1 0 (by omega)
  have z1 : mW M 0 1 = 0 := b1 1 (by omega)
  have z2 : mW M 0 2 = 0 := b1 2 (by omega)
  have z3 : mW M 0 3 = 0 := b1 3 (by omega)
  have eP : wP (mW M) = 0 := by unfold wP; rw [z0]; rfl
  have eD : wD (mW M) = 0 := by unfold wD; rw [z1]; rfl
  have eN : wN (mW M) = 0 := by unfold wN; rw [z2]; rfl
  have eS : wS (mW M) = 0 := by unfold wS; rw [z3]; rfl
  have z7 : mW M 7 0 = 0 := b8
  have en : wn (mW M) = 0 := by unfold wn; rw [z7]; rfl
  have eB : ∀ a c, bw (mW M) a c = -1 := fun a c => (bw_or (mW M) a c).resolve_right (fun ⟨e, he, _⟩ => by rw [eD] at he; exact absurd he (Nat.not_lt_zero e))
  have hWF : WF (mW M) := by
    unfold WF
    rw [eP, eD, eN, eS, en, z0, z1, z2, z3, z7]
    exact ⟨⟨rfl, by omega⟩, ⟨rfl, by omega⟩, ⟨rfl, by omega⟩, ⟨rfl, Or.inr ⟨rfl, rfl⟩⟩, rfl, ⟨by omega, fun k hk => absurd hk (Nat.not_lt_zero k)⟩, fun e he => absurd he (Nat.not_lt_zero e), fun h => h, fun p hp => absurd hp (Nat.not_lt_zero p)⟩
  refine ⟨⟨hWF, ?_, ?_, ?_, ?_⟩, ⟨⟨0, by omega, h81, h121, fun k hk => absurd hk (Nat.not_lt_zero k)⟩, h3⟩, ⟨0, by omega, c15, b10, fun j hj => absurd hj (Nat.not_lt_zero j)⟩, ⟨0, by omega, c16, b12, fun j hj => absurd hj (Nat.not_lt_zero j)⟩, ⟨0, by omega, c8, b9, fun j hj => absurd hj (Nat.not_lt_zero j), fun a ha => Or.inl (c9 a ha)⟩, ⟨by rw [h15, Int32.add_zero], by rw [h16, Int32.add_zero], c17.trans b11.symm⟩, h7⟩
  · unfold RF
    rw [eP, eN]
    exact ⟨fun p hp => absurd hp (Nat.not_lt_zero p), fun p a hp => absurd hp (Nat.not_lt_zero p), fun e he => ⟨0, by omega, b7 _ (by omega) (by omega)⟩⟩
  · unfold CL
    rw [eP, eD, z0, z1, z2, z3]
    refine ⟨c1 0 (by omega), c1 1 (by omega), c1 2 (by omega), c1 3 (by omega), fun a ha => absurd ha (Nat.not_lt_zero a), fun e he => absurd he (Nat.not_lt_zero e), fun a c ha => absurd ha (Nat.not_lt_zero a), fun a ha x hx => ?_⟩
    rw [eB, c5, decide_eq_false (fun h => h.2 rfl)]
    unfold bt
    simp
  · unfold CW lawC
    rw [en]
    exact Or.inl ⟨rfl, c6, c7⟩
  · unfold StC
    rw [eN, z2]
    exact ⟨c10.trans (b7 110 (by omega) (by omega)).symm, c11, fun p hp => absurd hp (Nat.not_lt_zero p), fun p a hp => absurd hp (Nat.not_lt_zero p), fun e he => ⟨(c14 e).1.trans (b7 _ (by omega) (by omega)).symm, (c14 e).2.trans (b7 _ (by omega) (by omega)).symm⟩⟩
theorem tCc_hi {b c : Nat} (h : 49 ≤ b) (h2 : b < 93) : tCc xC b c = false := by
  have k : xC.all (fun x => x.1.all (fun a => decide (a < 49 ∨ 300 ≤ a))) = true := rfl
  rw [List.all_eq_true] at k
  unfold tCc
  rw [List.any_eq_false]
  intro x hx hq
  rw [Bool.and_eq_true, List.contains_iff_mem] at hq
  have k1 := k x hx
  rw [List.all_eq_true] at k1
  have := of_decide_eq_true (k1 b hq.1)
  omega
theorem tCc_ge {b c : Nat} (h : 3 ≤ c) : tCc xC b c = false := by
  have k : xC.all (fun x => decide (x.2 < 3)) = true := rfl
  rw [List.all_eq_true] at k
  unfold tCc
  rw [List.any_eq_false]
  intro x hx hq
  rw [Bool.and_eq_true, beq_iff_eq] at hq
  have := of_decide_eq_true (k x hx)
  omega
theorem tCc_pa {b c : Nat} (h : 1 ≤ c) (hb : b = 305 ∨ b = 5 ∨ b = 46) : tCc xC b c = false := by
  have k : xC.all (fun x => x.2 == 0 || (!x.1.contains 305 && (!x.1.contains 5 && !x.1.contains 46))) = true := rfl
  rw [List.all_eq_true] at k
  unfold tCc
  rw [List.any_eq_false]
  intro x hx hq
  rw [Bool.and_eq_true, beq_iff_eq] at hq
  have k1 := k x hx
  have h0 : (x.2 == 0) = false := beq_eq_false_iff_ne.mpr (by omega)
  rw [h0, Bool.false_or, Bool.and_eq_true, Bool.and_eq_true] at k1
  have hc := hq.1
  rcases hb with rfl | rfl | rfl
  · rw [hc] at k1
    exact absurd k1.1 (by decide)
  · rw [hc] at k1
    exact absurd k1.2.1 (by decide)
  · rw [hc] at k1
    exact absurd k1.2.2 (by decide)
theorem uM_lo {b c : Nat} (h : b < 49 ∨ 300 ≤ b) : uM uX b c = false := by
  have k : uX.all (fun x => decide (49 ≤ x.1 ∧ x.1 < 300)) = true := rfl
  rw [List.all_eq_true] at k
  unfold uM
  rw [List.any_eq_false]
  intro x hx hq
  rw [Bool.and_eq_true, beq_iff_eq] at hq
  have := of_decide_eq_true (k x hx)
  omega
set_option maxHeartbeats 1000000 in
theorem law_t {m : Mem} {L : Nat} (hz : ∀ a b c, ¬ a = 100 → m a b c = 0) (hl : m 100 1 0 = nI L) (hL : L ≤ 5120) : Tot (r_L_law_ m) (fun _ => True) := by
  unfold r_L_law_
  rw [if_pos (hz 94 311 0 (by decide)), tot_bd1]
  have hz1 : ∀ b c, ¬ b = 311 → nw m 311 0 94 b c = 0 := fun b c hb => nzc (by decide) hb (hz _ _ _ (by decide))
  have hr1 : ∀ a b c, ¬ a = 94 → ¬ a = 100 → nw m 311 0 a b c = 0 := fun a b c h1 h2 => by
    unfold nw
    by_cases e : a = bas 311 ∧ b = 0
    · rw [if_pos e]
    · rw [if_neg e, if_neg (fun q => h1 q.1)]
      exact hz a b c h2
  have hs1 : nw m 311 0 100 = m 100 := by
    funext b c
    unfold nw
    rw [if_neg (fun e => absurd e.1 (by decide)), if_neg (fun e => absurd e.1 (by decide))]
  generalize nw m 311 0 = m0 at hz1 hr1 hs1 ⊢
  refine (mk_X11 hz1 (fun c => hr1 11 0 c (by decide) (by decide))).mono ?_
  rintro m1 ⟨a1, F, ⟨v81, v83⟩, ⟨v30, v31, v32, v33, v26⟩, ⟨v43, v34⟩, ⟨v10, v36⟩, ⟨v70, v71, v23, v24⟩, ⟨v50, v46⟩, ⟨v20, v47, v48⟩, v11⟩
  have g1 : m1 94 312 0 = 0 := (F.2 312 0 rfl).trans (hz1 _ _ (by decide))
  rw [if_neg a1, if_pos g1, tot_bd1]
  have n94 : ∀ b c, ¬ b = 312 → nw m1 312 0 94 b c = m1 94 b c := fun b c hb => nw_94 (by decide) hb
  have nlo : ∀ a b, ¬ a = 94 → ¬ a = 12 → nw m1 312 0 a b = m1 a b := fun a b h1 h2 => by
    funext c
    unfold nw
    rw [if_neg (fun e => h2 e.1), if_neg (fun e => h1 e.1)]
  have n12 : nw m1 312 0 12 0 1 = 0 := nw_at m1 312 0 1
  generalize nw m1 312 0 = m1' at n94 nlo n12 ⊢
  have hi : ∀ c, m1' 50 0 c = 0 := fun c => by
    rw [nlo 50 0 (by decide) (by decide), F.1 50 0 (by decide) (tCc_hi (by decide) (by decide))]
    exact hr1 50 0 c (by decide) (by decide)
  refine (mk_X12 (fun b c h1 h2 => ?_) ?_ n12 ⟨hi 0, hi 1⟩).mono ?_
  · rw [n94 b c (by omega), F.2 b c (tCc_hi h1 h2)]
    exact hz1 b c (by omega)
  · rw [n94 12 0 (by decide), F.2 12 0 rfl]
    exact hz1 _ _ (by decide)
  rintro m2 ⟨b1, b92, ⟨B1, -, -, -, -, -, B7, B8, B9, B10, B11, B12⟩, b94, blo, b100, b121, b123, b500, b501⟩
  rw [if_neg b1, if_pos b92]
  have e94 : ∀ b c, (b < 49 ∧ ¬ b = 12 ∧ ¬ b = 11) ∨ (300 ≤ b ∧ b < 311) → nw m2 92 0 94 b c = m1 94 b c := fun b c hb => by
    rw [nw_94 (by decide) (by omega), b94 b c (by omega) (uM_lo (by omega)), n94 b c (by omega)]
  have eh : ∀ a b, ¬ a = 92 → ¬ a = 94 → nw m2 92 0 a b = m2 a b := fun a b h1 h2 => by
    funext c
    unfold nw
    rw [if_neg (fun e => h1 e.1), if_neg (fun e => h2 e.1)]
  have elo : ∀ a b, a < 49 → ¬ a = 12 → nw m2 92 0 a b = m1 a b := fun a b h1 h2 => by
    rw [eh a b (by omega) (by omega), blo a b h1 h2, nlo a b (by omega) h2]
  have e100 : nw m2 92 0 100 1 0 = nI L := by
    rw [eh 100 1 (by decide) (by decide), b100, nlo 100 1 (by decide) (by decide), F.1 100 1 (by decide) rfl, hs1]
    exact hl
  have hE : ∀ a c, ¬ a = 92 → ¬ a = 94 → nw m2 92 0 a 0 c = m2 a 0 c := fun a c h1 h2 => by rw [eh a 0 h1 h2]
  generalize nw m2 92 0 = M at e94 eh elo e100 hE ⊢
  have hmk : ∀ q, 3 ≤ q → mk0 M q := fun q hq => by
    have k : ∀ b, (b < 49 ∧ ¬ b = 12 ∧ ¬ b = 11) ∨ (300 ≤ b ∧ b < 311) → M 94 b q = 0 := fun b hb => by
      rw [e94 b q hb, F.2 b q (tCc_ge hq)]
      exact hz1 b q (by omega)
    exact ⟨k 307 (by decide), k 7 (by decide), k 20 (by decide), k 21 (by decide), k 22 (by decide), k 23 (by decide), k 24 (by decide)⟩
  have hpk : ∀ p, 1 ≤ p → pk0 M p := fun p hp => by
    have k : ∀ b, b = 305 ∨ b = 5 ∨ b = 46 → M 94 b p = 0 := fun b hb => by
      rw [e94 b p (by omega), F.2 b p (tCc_pa hp hb)]
      exact hz1 b p (by omega)
    exact ⟨k 305 (by decide), k 5 (by decide), k 46 (by decide)⟩
  have hI : Inv M := by
    refine inv_start (fun k hk => ?_) (fun j h1 h2 => ?_) ?_ ?_ ?_ ?_ ?_ (fun k hk => ?_) (fun a => ?_) ?_ (fun k hk => ?_) ?_ (fun a ha => ?_) ?_ ?_ (fun e => ?_) ?_ ?_ ?_ ?_ ?_ ?_ ?_ ?_ ?_
    · rw [hE 52 k (by decide) (by decide)]
      exact B1 k hk
    · rw [hE 60 j (by decide) (by decide)]
      exact B7 j h1 h2
    · rw [hE 12 21 (by decide) (by decide)]
      exact B8
    · rw [hE 12 35 (by decide) (by decide)]
      exact B9
    · rw [hE 12 36 (by decide) (by decide)]
      exact B10
    · rw [hE 12 37 (by decide) (by decide)]
      exact B11
    · rw [hE 12 38 (by decide) (by decide)]
      exact B12
    · rw [elo 3 0 (by decide) (by decide)]
      have : k = 0 ∨ k = 1 ∨ k = 2 ∨ k = 3 := by omega
      rcases this with rfl | rfl | rfl | rfl
      · exact v30
      · exact v31
      · exact v32
      · exact v33
    · rw [elo 26 0 (by decide) (by decide)]
      exact v26 a
    · rw [elo 4 0 (by decide) (by decide)]
      exact v43
    · rw [elo 34 0 (by decide) (by decide)]
      exact v34 k hk
    · rw [elo 1 0 (by decide) (by decide)]
      exact v10
    · rw [elo 36 0 (by decide) (by decide)]
      exact v36 a ha
    · rw [elo 7 0 (by decide) (by decide)]
      exact v70
    · rw [elo 7 0 (by decide) (by decide)]
      exact v71
    · rw [elo 23 0 (by decide) (by decide), elo 24 0 (by decide) (by decide)]
      exact ⟨v23 e, v24 e⟩
    · rw [elo 5 0 (by decide) (by decide)]
      exact v50
    · rw [elo 2 0 (by decide) (by decide)]
      exact v20
    · rw [elo 11 0 (by decide) (by decide)]
      exact v11 14 (by decide)
    · rw [elo 8 0 (by decide) (by decide)]
      exact v81
    · rw [hE 12 1 (by decide) (by decide)]
      exact b121
    · rw [elo 8 0 (by decide) (by decide), hE 12 3 (by decide) (by decide), v83, b123]
    · rw [elo 11 0 (by decide) (by decide), hE 50 0 (by decide) (by decide), v11 15 (by decide), b500]
    · rw [elo 11 0 (by decide) (by decide), hE 50 1 (by decide) (by decide), v11 16 (by decide), b501]
    · refine ⟨fun p k _ _ _ => hmk _ (by omega), fun j hj => Or.inl ⟨?_, ?_, hmk _ (by omega), hpk _ (by omega), fun k hk => hmk _ (by omega)⟩⟩
      · rw [elo 47 0 (by decide) (by decide)]
        exact v47 j
      · rw [elo 48 0 (by decide) (by decide)]
        exact v48 j
  exact run_t hL 512 0 M hI e100 (by omega) (by omega)
