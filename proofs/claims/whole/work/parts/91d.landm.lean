/-! ===== the land's clauses, one after the other: the class ===== -/
theorem full_c {b : Nat → Int32} {L s : Nat} {S : Wd} {m : Mem} (hW : LW S) (hC : LC S m) : r_X3_isFull 1 (lkd b L s) m = lfl b L S s := by
  have hP := hW.1
  have hD := hW.2.1
  have hN := hW.2.2.1
  unfold r_X3_isFull lfl
  rw [(hC.1 0 (by omega)).trans hP.1, (hC.1 1 (by omega)).trans hD.1, (hC.1 2 (by omega)).trans hN.1]
  by_cases l0 : lkd b L s = 0
  · rw [if_pos l0]
    by_cases q : wP S = 12
    · rw [if_neg (show ¬ nI (wP S) < (12 : Int32) from nI_nlt (a := wP S) (b := 12) (by omega) (by omega)), decide_eq_true (Or.inl ⟨l0, q⟩)]
    · rw [if_pos (show nI (wP S) < (12 : Int32) from nI_lt (a := wP S) (b := 12) (by omega) (by omega)), decide_eq_false (fun o => by
        rcases o with ⟨-, h⟩ | ⟨h, -⟩ | ⟨h, -⟩
        · exact q h
        · rw [l0] at h
          exact absurd h (by decide)
        · rw [l0] at h
          exact absurd h (by decide))]
  rw [if_neg l0]
  by_cases l1 : lkd b L s = 1
  · rw [if_pos l1]
    by_cases q : wD S = 16
    · rw [if_neg (show ¬ nI (wD S) < (16 : Int32) from nI_nlt (a := wD S) (b := 16) (by omega) (by omega)), decide_eq_true (Or.inr (Or.inl ⟨l1, q⟩))]
    · rw [if_pos (show nI (wD S) < (16 : Int32) from nI_lt (a := wD S) (b := 16) (by omega) (by omega)), decide_eq_false (fun o => by
        rcases o with ⟨h, -⟩ | ⟨-, h⟩ | ⟨h, -⟩
        · exact l0 h
        · exact q h
        · rw [l1] at h
          exact absurd h (by decide))]
  rw [if_neg l1]
  by_cases l2 : lkd b L s = 2
  · rw [if_pos l2]
    by_cases q : wN S = 6
    · rw [if_neg (show ¬ nI (wN S) < (6 : Int32) from nI_nlt (a := wN S) (b := 6) (by omega) (by omega)), decide_eq_true (Or.inr (Or.inr ⟨l2, q⟩))]
    · rw [if_pos (show nI (wN S) < (6 : Int32) from nI_lt (a := wN S) (b := 6) (by omega) (by omega)), decide_eq_false (fun o => by
        rcases o with ⟨h, -⟩ | ⟨h, -⟩ | ⟨-, h⟩
        · exact l0 h
        · exact l1 h
        · exact q h)]
  rw [if_neg l2, decide_eq_false (fun o => by
    rcases o with ⟨h, -⟩ | ⟨h, -⟩ | ⟨h, -⟩
    · exact l0 h
    · exact l1 h
    · exact l2 h)]
/-- a clause was read by the class -/
def ClP (b : Nat → Int32) (L : Nat) (S : Wd) (n s : Nat) (m : Mem) (q : Bool × Mem) : Prop := ((q.1 = true ∧ (¬ lkd b L s = -1 ∧ ¬ n = 60 ∧ ¬ lfl b L S s = true ∧ (clB b L S s).1 = 0) ∧ TC b L (clP b L s) q.2 ∧ LC (clS b L S s) q.2) ∨ (q.1 = false ∧ ¬ (clE b L S n s).1 = 0 ∧ FtC (clE b L S n s).1 (clE b L S n s).2 q.2)) ∧ Fj KLd JTc m q.2
theorem ClP.bad {b : Nat → Int32} {L n s e : Nat} {S : Wd} {k : Int32} {m m2 : Mem} (hE : clE b L S n s = (k, e)) (hk : ¬ k = 0) (hf : FtC k e m2) (hF : Fj KLd JTc m m2) : ClP b L S n s m (false, m2) := by
  unfold ClP
  rw [hE]
  exact ⟨Or.inr ⟨rfl, hk, hf⟩, hF⟩
set_option maxHeartbeats 1000000 in
theorem clause_c {b : Nat → Int32} {L p n s : Nat} {S : Wd} {m : Mem} (h : TC b L p m) (hp : sk b L p = s) (hn : n ≤ 60) (hW : LW S) (hC : LC S m) : Tot (r_X3_readClause 1 (nI n) m) (ClP b L S n s m) := by
  have hs : s ≤ L := by
    rw [← hp]
    exact rn_le h.2.2.1
  unfold r_X3_readClause r_X3_readClause_j44
  rw [tot_bd2]
  refine (word_c h).mono ?_
  rw [hp]
  rintro ⟨z, m2⟩ ⟨g1, g2, g3⟩
  dsimp only at g1 g2 g3 ⊢
  have hF2 : Fj KLd JTc m m2 := g3.mono (by simp) (by simp)
  by_cases c0 : ltF (bA b L s) = true
  case neg =>
    obtain ⟨e1, e2⟩ := g2 c0
    rw [if_neg (by rw [e1]; decide)]
    exact tot_some.mpr (ClP.bad (by unfold clE; rw [if_pos (lkd_no hs c0)]) (by decide) e2 hF2)
  obtain ⟨e1, e2, e3⟩ := g1 c0
  have hC2 : LC S m2 := hC.fj g3 (by simp) (by decide)
  rw [if_pos e1, bd1_s (kind_c e2 e3), e3]
  by_cases c1 : lkd b L s = -1
  · obtain ⟨mw, w1, w2, w3⟩ := wrong_c (m := m2) (k := 1) (e := s)
    rw [if_pos c1, bd2_s w1]
    exact tot_some.mpr (ClP.bad (by unfold clE; rw [if_pos c1]) (by decide) w2 (hF2.tr (w3.mono (by simp) (by simp))))
  rw [if_neg c1]
  obtain ⟨mw, w1, w2, w3⟩ := wrong_c (m := m2) (k := 3) (e := s)
  by_cases c2 : n = 60
  · rw [if_pos (show (60 : Int32) ≤ nI (n) from nI_le (a := 60) (b := n) (by omega) (by omega)), bd2_s w1]
    exact tot_some.mpr (ClP.bad (by unfold clE; rw [if_neg c1, if_pos c2]) (by decide) w2 (hF2.tr (w3.mono (by simp) (by simp))))
  rw [if_neg (show ¬ (60 : Int32) ≤ nI (n) from nI_ge (b := 60) (a := n) (by omega) (by omega))]
  by_cases c3 : lfl b L S s = true
  · rw [if_pos (show r_X3_isFull 1 (lkd b L s) m2 = true by rw [full_c hW hC2]; exact c3), bd2_s w1]
    exact tot_some.mpr (ClP.bad (by unfold clE; rw [if_neg c1, if_neg c2, if_pos c3]) (by decide) w2 (hF2.tr (w3.mono (by simp) (by simp))))
  rw [if_neg (show ¬ r_X3_isFull 1 (lkd b L s) m2 = true by rw [full_c hW hC2]; exact c3)]
  have fin : ∀ q : Bool × Mem, CPost b L S s m2 q → ClP b L S n s m q := by
    rintro ⟨z, m3⟩ ⟨a1, a2, a3⟩
    by_cases c4 : (clB b L S s).1 = 0
    · obtain ⟨b1, b2, b3⟩ := a1 c4
      exact ⟨Or.inl ⟨b1, ⟨c1, c2, c3, c4⟩, b2, b3⟩, hF2.tr a3⟩
    · obtain ⟨b1, b2⟩ := a2 c4
      have hE : clE b L S n s = clB b L S s := by unfold clE; rw [if_neg c1, if_neg c2, if_neg c3, if_neg c4]
      unfold ClP
      rw [hE]
      exact ⟨Or.inr ⟨b1, c4, b2⟩, hF2.tr a3⟩
  have fn : ∀ o : Option (Bool × Mem), Tot o (CPost b L S s m2) → Tot (bd2 o fun z m => some (z, m)) (ClP b L S n s m) := fun o ho => by
    rw [tot_bd2]
    refine ho.mono ?_
    rintro ⟨z, m3⟩ hz
    exact tot_some.mpr (fin _ hz)
  rcases lkd_or b L s with l | l | l | l | l | l
  · exact absurd l c1
  · rw [if_pos l]
    exact fn _ (cPlace e2 l hW hC2 (fun q => c3 (decide_eq_true (Or.inl ⟨l, q⟩))))
  · rw [if_neg (by rw [l]; decide), if_pos l]
    exact fn _ (cDitch e2 l hW hC2 (fun q => c3 (decide_eq_true (Or.inr (Or.inl ⟨l, q⟩)))))
  · rw [if_neg (by rw [l]; decide), if_neg (by rw [l]; decide), if_pos l]
    exact fn _ (cPerson e2 l hW hC2 (fun q => c3 (decide_eq_true (Or.inr (Or.inr ⟨l, q⟩)))))
  · rw [if_neg (by rw [l]; decide), if_neg (by rw [l]; decide), if_neg (by rw [l]; decide), if_pos l]
    exact fn _ (cClaim e2 l hW hC2)
  · rw [if_neg (by rw [l]; decide), if_neg (by rw [l]; decide), if_neg (by rw [l]; decide), if_neg (by rw [l]; decide)]
    exact fn _ (cSpring e2 l hW hC2)
/-- the land after n clauses, and where the next begins -/
noncomputable def lz (b : Nat → Int32) (L : Nat) : Nat → Wd × Nat
  | 0 => (bad0, sk b L 0)
  | j + 1 => (clS b L (lz b L j).1 (lz b L j).2, sk b L (sk b L (clP b L (lz b L j).2) + 1))
noncomputable abbrev lzE (b : Nat → Int32) (L j : Nat) : Int32 × Nat := clE b L (lz b L j).1 j (lz b L j).2
theorem lz_W {b : Nat → Int32} {L : Nat} : ∀ n, (∀ j, j < n → (lzE b L j).1 = 0) → LW (lz b L n).1
  | 0, _ => LW_0
  | n + 1, h => ((lz_W n (fun j hj => h j (by omega))).cl (h n (Nat.lt_succ_self n))).1
theorem lz_sk {b : Nat → Int32} {L : Nat} : ∀ n, sk b L (lz b L n).2 = (lz b L n).2
  | 0 => ps_sk b L 0
  | n + 1 => by
    have key : ∀ p, sk b L (sk b L p) = sk b L p := fun p => by
      by_cases h : p ≤ L
      · exact sk_sk h
      · have h1 : sk b L p = p := by
          have := fa_first_le (fun i => !(isB (b (p + i)))) (L - p)
          show p + fa_first (fun i => !(isB (b (p + i)))) (L - p) = p
          omega
        rw [h1, h1]
    exact key _
def Ln (b : Nat → Int32) (L n : Nat) (ok : Bool) : Prop := (∀ j, j < n → (lz b L j).2 < L ∧ (lzE b L j).1 = 0) ∧ ((ok = true ∧ ¬ (lz b L n).2 < L) ∨ (ok = false ∧ (lz b L n).2 < L ∧ ¬ (lzE b L n).1 = 0))
theorem fill29 {m : Mem} {i0 : Nat} : Tot (r_X11_fillWithNone_29 i0 m) (fun m' => (∀ a, a < 144 → m' 29 i0 a = -1) ∧ Fr [(29, i0)] m m') := by
  unfold r_X11_fillWithNone_29 r_X11_fillWithNone_29_l2
  rw [tot_bd1]
  refine tot_for (fun k (t : Int32 × Mem) => t.1 = nI k ∧ (∀ a, a < k → t.2 29 i0 a = -1) ∧ Fr [(29, i0)] m t.2) 144 ?_ ?_ 0 _ (Nat.zero_le _) ⟨rfl, fun a h => absurd h (Nat.not_lt_zero a), Fr.rf⟩
  · rintro k ⟨x1, m1⟩ hk ⟨e1, e2, hF⟩
    dsimp only at e1 e2 hF ⊢
    subst e1
    unfold r_X11_fillWithNone_29_b2
    rw [if_neg (show ¬ (144 : Int32) ≤ nI (k) from nI_ge (b := 144) (a := k) (by omega) (by omega)), if_pos (inb_nI (by omega) (by omega)), clamp_nI (by omega)]
    refine tot_some.mpr ⟨(nI_succ k).symm, fun a ha => ?_, hF.wr (by simp) _ _⟩
    dsimp only
    rw [wr_if]
    by_cases hak : a = k
    · rw [if_pos hak]
    · rw [if_neg hak]
      exact e2 a (by omega)
  · rintro ⟨x1, m1⟩ ⟨e1, e2, hF⟩
    dsimp only at e1 e2 hF ⊢
    subst e1
    unfold r_X11_fillWithNone_29_b2
    rw [if_pos (by decide), tot_some]
    exact tot_some.mpr ⟨e2, hF⟩
theorem fill32 {m : Mem} {i0 : Nat} : Tot (r_X11_fillWithNone_32 i0 m) (fun m' => (∀ a, a < 72 → m' 32 i0 a = -1) ∧ Fr [(32, i0)] m m') := by
  unfold r_X11_fillWithNone_32 r_X11_fillWithNone_32_l2
  rw [tot_bd1]
  refine tot_for (fun k (t : Int32 × Mem) => t.1 = nI k ∧ (∀ a, a < k → t.2 32 i0 a = -1) ∧ Fr [(32, i0)] m t.2) 72 ?_ ?_ 0 _ (Nat.zero_le _) ⟨rfl, fun a h => absurd h (Nat.not_lt_zero a), Fr.rf⟩
  · rintro k ⟨x1, m1⟩ hk ⟨e1, e2, hF⟩
    dsimp only at e1 e2 hF ⊢
    subst e1
    unfold r_X11_fillWithNone_32_b2
    rw [if_neg (show ¬ (72 : Int32) ≤ nI (k) from nI_ge (b := 72) (a := k) (by omega) (by omega)), if_pos (inb_nI (by omega) (by omega)), clamp_nI (by omega)]
    refine tot_some.mpr ⟨(nI_succ k).symm, fun a ha => ?_, hF.wr (by simp) _ _⟩
    dsimp only
    rw [wr_if]
    by_cases hak : a = k
    · rw [if_pos hak]
    · rw [if_neg hak]
      exact e2 a (by omega)
  · rintro ⟨x1, m1⟩ ⟨e1, e2, hF⟩
    dsimp only at e1 e2 hF ⊢
    subst e1
    unfold r_X11_fillWithNone_32_b2
    rw [if_pos (by decide), tot_some]
    exact tot_some.mpr ⟨e2, hF⟩
theorem bw_0 (a c : Nat) : bw bad0 a c = -1 := rfl
theorem clearL_c {m : Mem} : Tot (r_X3_clear 1 m) (fun m' => LC bad0 m' ∧ Fr KLd m m') := by
  unfold r_X3_clear r_X3_clear_l22
  rw [tot_bd1]
  have hF0 : Fr KLd m (wr (wr (wr (wr m 3 1 0 0) 3 1 1 0) 3 1 2 0) 3 1 3 0) := (((Fr.rf.wr (by simp) _ _).wr (by simp) _ _).wr (by simp) _ _).wr (by simp) _ _
  have v0 : ∀ k, k < 4 → wr (wr (wr (wr m 3 1 0 0) 3 1 1 0) 3 1 2 0) 3 1 3 0 3 1 k = 0 := fun k hk => by
    rw [wr_if, wr_if, wr_if, wr_if]
    by_cases h3 : k = 3
    · rw [if_pos h3]
    rw [if_neg h3]
    by_cases h2 : k = 2
    · rw [if_pos h2]
    rw [if_neg h2]
    by_cases h1 : k = 1
    · rw [if_pos h1]
    rw [if_neg h1, if_pos (by omega)]
  generalize wr (wr (wr (wr m 3 1 0 0) 3 1 1 0) 3 1 2 0) 3 1 3 0 = m0 at hF0 v0 ⊢
  refine tot_for (fun k (t : Int32 × Mem) => t.1 = nI k ∧ (∀ a, a < k → t.2 26 1 a = 0) ∧ (∀ k, k < 4 → t.2 3 1 k = 0) ∧ Fr KLd m t.2) 12 ?_ ?_ 0 _ (Nat.zero_le _) ⟨rfl, fun a h => absurd h (Nat.not_lt_zero a), v0, hF0⟩
  · rintro k ⟨x1, m1⟩ hk ⟨e1, e2, e3, hF⟩
    dsimp only at e1 e2 e3 hF ⊢
    subst e1
    unfold r_X3_clear_b22
    rw [if_neg (show ¬ (12 : Int32) ≤ nI (k) from nI_ge (b := 12) (a := k) (by omega) (by omega)), if_pos (inb_nI (by omega) (by omega)), clamp_nI (by omega)]
    refine tot_some.mpr ⟨(nI_succ k).symm, fun a ha => ?_, fun j hj => ?_, hF.wr (by simp) _ _⟩
    · dsimp only
      rw [wr_if]
      by_cases hak : a = k
      · rw [if_pos hak]
      · rw [if_neg hak]
        exact e2 a (by omega)
    · dsimp only
      rw [wr_k (by decide)]
      exact e3 j hj
  · rintro ⟨x1, m1⟩ ⟨e1, e2, e3, hF⟩
    dsimp only at e1 e2 e3 hF ⊢
    subst e1
    unfold r_X3_clear_b22
    rw [if_pos (by decide), tot_some]
    show Tot (r_X3_clear_e41_h22 1 m1) _
    unfold r_X3_clear_e41_h22
    rw [tot_bd1]
    refine fill29.mono ?_
    rintro m2 ⟨f1, f2⟩
    rw [tot_bd1]
    refine fill32.mono ?_
    rintro m3 ⟨h1, h2⟩
    refine tot_some.mpr ⟨⟨fun k hk => ?_, fun a ha => absurd ha (Nat.not_lt_zero a), fun a ha => absurd ha (Nat.not_lt_zero a), fun a c ha hc => ?_, fun a ha x hx => ?_, fun a ha => absurd ha (Nat.not_lt_zero a), fun q hq => ?_⟩, (hF.tr (f2.mono (by simp))).tr (h2.mono (by simp))⟩
    · rw [h2 3 1 (by simp), f2 3 1 (by simp)]
      exact e3 k hk
    · rw [h2 29 1 (by simp), bw_0]
      exact f1 _ (by omega)
    · rw [h2 26 1 (by simp), f2 26 1 (by simp), e2 a ha, b_0, bw_0]
      exact (decide_eq_false (fun q => q.2 rfl)).symm
    · exact h1 q hq
set_option maxHeartbeats 1000000 in
theorem readL_c {b : Nat → Int32} {L : Nat} {m : Mem} (h : TC b L 0 m) (hby : ∀ k, k < L → ¬ b k = -1) : Tot (r_X3_readFrom 1 m) (fun q => (∃ n, Ln b L n q.1 ∧ (q.1 = true → LC (lz b L n).1 q.2 ∧ q.2 8 0 3 = -1) ∧ (q.1 = false → FtC (lzE b L n).1 (lzE b L n).2 q.2)) ∧ Fj KLd JTc m q.2) := by
  unfold r_X3_readFrom
  rw [tot_bd1]
  refine clearL_c.mono ?_
  rintro m1 ⟨c1, c2⟩
  have hF1 : Fj KLd JTc m m1 := c2.j
  have t1 : TC b L 0 m1 := h.fj (K := KLd) (J := []) c2.j (by decide) (by simp)
  unfold r_X3_readFrom_l6
  rw [tot_bdS]
  refine tot_for (fun j (t : Int32 × Mem) => t.1 = nI j ∧ (∀ i, i < j → (lz b L i).2 < L ∧ (lzE b L i).1 = 0) ∧ (∃ p, TC b L p t.2 ∧ sk b L p = (lz b L j).2) ∧ LC (lz b L j).1 t.2 ∧ Fj KLd JTc m t.2) 61 ?_ ?_ 0 _ (Nat.zero_le _) ⟨rfl, fun i hi => absurd hi (Nat.not_lt_zero i), ⟨0, t1, rfl⟩, c1, hF1⟩
  · rintro j ⟨x3, m2⟩ hj ⟨e1, e2, ⟨p, e3, e4⟩, e5, hF⟩
    dsimp only at e1 e2 e3 e5 hF ⊢
    subst e1
    have hW : LW (lz b L j).1 := lz_W j (fun i hi => (e2 i hi).2)
    unfold r_X3_readFrom_b6
    rw [if_neg (show ¬ (60 : Int32) < nI j from nI_nlt (a := 60) (b := j) (by omega) (by omega)), tot_bd2]
    refine (peek_c e3).mono ?_
    rw [e4]
    rintro ⟨z, m3⟩ ⟨g1, g2, g3⟩
    dsimp only at g1 g2 g3 ⊢
    have hF3 : Fj KLd JTc m m3 := hF.tr (g3.mono (by simp) (by simp))
    have hC3 : LC (lz b L j).1 m3 := e5.fj g3 (by simp) (by decide)
    rw [g1]
    by_cases hx : (lz b L j).2 < L
    · rw [bA_in hx, if_neg (hby _ hx), tot_bd2]
      refine (clause_c (n := j) g2 (lz_sk j) (by omega) hW hC3).mono ?_
      rintro ⟨z10, m9⟩ ⟨l1, l3⟩
      dsimp only at l1 l3 ⊢
      have hF9 : Fj KLd JTc m m9 := hF3.tr l3
      rcases l1 with ⟨r1, ⟨d1, d2, d3, d4⟩, r2, r3⟩ | ⟨r1, r2, r3⟩
      · rw [if_pos r1, tot_bd2]
        refine (sign_c (c := 59) r2 (by decide)).mono ?_
        rintro ⟨z14, m13⟩ ⟨s1, s2, s3⟩
        dsimp only at s1 s2 s3 ⊢
        have hF13 : Fj KLd JTc m m13 := hF9.tr (s3.mono (by simp) (by simp))
        by_cases c5 : bA b L (sk b L (clP b L (lz b L j).2)) = 59
        · obtain ⟨u1, u2, u3⟩ := s1 c5
          have hE : lzE b L j = (0, 0) := by
            unfold lzE clE
            rw [if_neg d1, if_neg d2, if_neg d3, if_pos d4, if_pos c5]
          rw [if_pos u1]
          exact tot_some.mpr ⟨(nI_succ j).symm, lt_ex e2 ⟨hx, by rw [hE]⟩, ⟨_, u3, rfl⟩, r3.fj s3 (by simp) (by decide), hF13⟩
        · obtain ⟨u1, u2⟩ := s2 c5
          have hE : lzE b L j = (1, sk b L (clP b L (lz b L j).2)) := by
            unfold lzE clE
            rw [if_neg d1, if_neg d2, if_neg d3, if_pos d4, if_neg c5]
          rw [if_neg (by rw [u1]; decide)]
          refine tot_some.mpr ?_
          show Tot (some (false, m13)) _
          exact tot_some.mpr ⟨⟨j, ⟨e2, Or.inr ⟨rfl, hx, by rw [hE]; exact (show ¬ (1 : Int32) = 0 by decide)⟩⟩, fun e => Bool.noConfusion e, fun _ => by rw [hE]; exact u2⟩, hF13⟩
      · rw [if_neg (by rw [r1]; decide)]
        refine tot_some.mpr ?_
        show Tot (some (false, m9)) _
        exact tot_some.mpr ⟨⟨j, ⟨e2, Or.inr ⟨rfl, hx, r2⟩⟩, fun e => Bool.noConfusion e, fun _ => r3⟩, hF9⟩
    · rw [bA_out hx, if_pos rfl, tot_some]
      show Tot (r_X3_readFrom_e46_h6 m3) _
      unfold r_X3_readFrom_e46_h6
      exact tot_some.mpr ⟨⟨j, ⟨e2, Or.inl ⟨rfl, hx⟩⟩, fun _ => ⟨hC3, g2.2.2.2.1.2⟩, fun e => Bool.noConfusion e⟩, hF3⟩
  · rintro ⟨x3, m2⟩ ⟨e1, e2, ⟨p, e3, e4⟩, e5, hF⟩
    have h60 := ((lz_W (b := b) (L := L) 60 (fun i hi => (e2 i (by omega)).2)).cl (e2 60 (by omega)).2).2.2.1
    exact absurd rfl h60
