/-! ===== the land's clauses: the reference ===== -/
def LM (S : Wd) (m : Mem) : Prop := (∀ k, k < 4 → m 51 0 k = S 0 k) ∧ (∀ a, a < wP S → m 53 0 a = S 1 a) ∧ (∀ e, e < wD S → m 61 e 0 = S 2 e ∧ m 61 e 1 = S 3 e) ∧ (∀ p, p < wN S → m 65 p 0 = S 4 p ∧ m 65 p 1 = S 5 p) ∧ ∀ p a, p < 6 → a < 12 → m 69 p a = S 6 (12 * p + a)
theorem LM.fj {K J : List (Nat × Nat)} {S : Wd} {m m' : Mem} (h : LM S m) (hF : Fj K J m m') (hK : ∀ q ∈ K, q.1 ∉ [51, 53, 61, 65, 69]) (hJ : ∀ q ∈ J, q.1 ∉ [51, 53, 61, 65, 69]) : LM S m' := by
  have hr : ∀ k i, k ∈ [51, 53, 61, 65, 69] → m' k i = m k i := fun k i hk => hF.rw' k i (fun q hq e => hK q hq (by rw [e]; exact hk)) (fun q hq e => hJ q hq (by rw [e]; exact hk))
  obtain ⟨h1, h2, h3, h4, h5⟩ := h
  refine ⟨fun k hk => ?_, fun a ha => ?_, fun e he => ?_, fun p hp => ?_, fun p a hp ha => ?_⟩
  · rw [hr 51 0 (by decide)]
    exact h1 k hk
  · rw [hr 53 0 (by decide)]
    exact h2 a ha
  · rw [hr 61 e (by decide)]
    exact h3 e he
  · rw [hr 65 p (by decide)]
    exact h4 p hp
  · rw [hr 69 p (by decide)]
    exact h5 p a hp ha
theorem FtM.fj {K J : List (Nat × Nat)} {b : Nat → Int32} {L e : Nat} {k : Int32} {m m' : Mem} (h : FtM b L k e m) (hF : Fj K J m m') (hK : ∀ q ∈ K, ¬ q.1 = 12 ∧ ¬ q.1 = 49) (hJ : ∀ q ∈ J, ¬ q.1 = 49 ∧ ¬ q = (12, 2) ∧ ¬ q = (12, 4) ∧ ¬ q = (12, 5) ∧ ¬ q = (12, 6)) : FtM b L k e m' := by
  obtain ⟨h1, h2, h3, p, h4⟩ := h
  refine ⟨?_, h2, ?_, p, h4.fj hF hK (fun q hq => ⟨(hJ q hq).1, (hJ q hq).2.1, (hJ q hq).2.2.1⟩)⟩
  · rw [hF 12 0 5 (fun q => (hK _ q).1 rfl) (fun q => (hJ _ q).2.2.2.1 rfl)]
    exact h1
  · rw [hF 12 0 6 (fun q => (hK _ q).1 rfl) (fun q => (hJ _ q).2.2.2.2 rfl)]
    exact h3
abbrev KLm : List (Nat × Nat) := [(51, 0), (53, 0), (61, 0), (61, 1), (61, 2), (61, 3), (61, 4), (61, 5), (61, 6), (61, 7), (61, 8), (61, 9), (61, 10), (61, 11), (61, 12), (61, 13), (61, 14), (61, 15), (65, 0), (65, 1), (65, 2), (65, 3), (65, 4), (65, 5), (69, 0), (69, 1), (69, 2), (69, 3), (69, 4), (69, 5)]
abbrev JLm : List (Nat × Nat) := [(12, 4), (12, 5), (12, 6), (12, 7)]
theorem in61 : ∀ a, a < 16 → (61, a) ∈ KLm := by decide
theorem in65 : ∀ a, a < 6 → (65, a) ∈ KLm := by decide
theorem in69 : ∀ a, a < 6 → (69, a) ∈ KLm := by decide
noncomputable def rkd (b : Nat → Int32) (L s : Nat) : Int32 := if lkd b L s = 3 then 4 else if lkd b L s = 4 then 3 else lkd b L s
theorem kindHere_m {b : Nat → Int32} {L s : Nat} {m : Mem} (h : TM b L s m) (hs : sk b L s = s) (h5 : m 12 0 5 = 0) : Tot (r_X12_kindHere m) (fun q => q.1 = rkd b L s ∧ TM b L s q.2 ∧ q.2 12 0 5 = 0 ∧ Fj [] [(12, 4)] m q.2) := by
  obtain ⟨x1, x2, x3, x4, x5⟩ := six_1
  have n45 := scd_ne.1
  unfold r_X12_kindHere rkd
  rw [tot_bd2]
  refine (isWord_m h h5).mono ?_
  rw [hs, x1]
  rintro ⟨z1, m1⟩ ⟨a1, a2, a3, a4⟩
  dsimp only at a1 a2 a3 a4 ⊢
  by_cases c1 : wcd b L s = nI (scd 1)
  · have e : lkd b L s = 0 := by unfold lkd; rw [if_pos c1]
    rw [a1, decide_eq_true c1, if_pos rfl, e, if_neg (by decide), if_neg (by decide)]
    exact tot_some.mpr ⟨rfl, a2, a3, a4⟩
  rw [a1, decide_eq_false c1, if_neg (by decide), tot_bd2]
  refine (isWord_m a2 a3).mono ?_
  rw [hs, x2]
  rintro ⟨z2, m2⟩ ⟨b1, b2, b3, b4⟩
  dsimp only at b1 b2 b3 b4 ⊢
  have f2 := a4.tr b4
  by_cases c2 : wcd b L s = nI (scd 2)
  · have e : lkd b L s = 1 := by unfold lkd; rw [if_neg c1, if_pos c2]
    rw [b1, decide_eq_true c2, if_pos rfl, e, if_neg (by decide), if_neg (by decide)]
    exact tot_some.mpr ⟨rfl, b2, b3, f2⟩
  rw [b1, decide_eq_false c2, if_neg (by decide), tot_bd2]
  refine (isWord_m b2 b3).mono ?_
  rw [hs, x3]
  rintro ⟨z3, m3⟩ ⟨d1, d2, d3, d4⟩
  dsimp only at d1 d2 d3 d4 ⊢
  have f3 := f2.tr d4
  by_cases c3 : wcd b L s = nI (scd 3)
  · have e : lkd b L s = 2 := by unfold lkd; rw [if_neg c1, if_neg c2, if_pos c3]
    rw [d1, decide_eq_true c3, if_pos rfl, e, if_neg (by decide), if_neg (by decide)]
    exact tot_some.mpr ⟨rfl, d2, d3, f3⟩
  rw [d1, decide_eq_false c3, if_neg (by decide), tot_bd2]
  refine (isWord_m d2 d3).mono ?_
  rw [hs, x5]
  rintro ⟨z4, m4⟩ ⟨e1, e2, e3, e4⟩
  dsimp only at e1 e2 e3 e4 ⊢
  have f4 := f3.tr e4
  by_cases c5 : wcd b L s = nI (scd 5)
  · have c4 : ¬ wcd b L s = nI (scd 4) := fun q => n45 (q.symm.trans c5)
    have e : lkd b L s = 4 := by unfold lkd; rw [if_neg c1, if_neg c2, if_neg c3, if_neg c4, if_pos c5]
    rw [e1, decide_eq_true c5, if_pos rfl, e, if_neg (by decide), if_pos rfl]
    exact tot_some.mpr ⟨rfl, e2, e3, f4⟩
  rw [e1, decide_eq_false c5, if_neg (by decide), tot_bd2]
  refine (isWord_m e2 e3).mono ?_
  rw [hs, x4]
  rintro ⟨z6, m6⟩ ⟨g1, g2, g3, g4⟩
  dsimp only at g1 g2 g3 g4 ⊢
  have f6 := f4.tr g4
  by_cases c4 : wcd b L s = nI (scd 4)
  · have e : lkd b L s = 3 := by unfold lkd; rw [if_neg c1, if_neg c2, if_neg c3, if_pos c4]
    rw [g1, decide_eq_true c4, if_pos rfl, if_pos e]
    exact tot_some.mpr ⟨rfl, g2, g3, f6⟩
  have e : lkd b L s = -1 := by unfold lkd; rw [if_neg c1, if_neg c2, if_neg c3, if_neg c4, if_neg c5]
  rw [g1, decide_eq_false c4, if_neg (by decide), e, if_neg (by decide), if_neg (by decide)]
  exact tot_some.mpr ⟨rfl, g2, g3, f6⟩
theorem rbt_eq {m : Mem} {S : Wd} {a b : Int32} {D : Nat} (hD : m 51 0 1 = nI D) (h16 : D ≤ 16) (hr : ∀ e, e < D → m 61 e 0 = S 2 e ∧ m 61 e 1 = S 3 e) : r_X12_readBetween a b m = some (btw S D a b) := by
  apply Tot.eq
  unfold r_X12_readBetween r_X12_readBetween_l2
  rw [tot_bdS]
  refine tot_for (fun k s => s = nI k ∧ ∀ j, j < k → hit S a b j = false) D ?_ ?_ 0 _ (Nat.zero_le _) ⟨rfl, fun j hj => absurd hj (Nat.not_lt_zero j)⟩
  · rintro k s hk ⟨rfl, hn⟩
    obtain ⟨r0, r1⟩ := hr k hk
    have fin : hit S a b k = true → btw S D a b = nI k := fun h => by
      unfold btw
      rw [first_at hk h hn, if_pos hk]
    have step : hit S a b k = false → ∀ j, j < k + 1 → hit S a b j = false := fun h j hj => by
      by_cases e : j = k
      · rw [e]; exact h
      · exact hn j (by omega)
    unfold r_X12_readBetween_b2
    rw [hD, if_neg (nI_ge hk (by omega)), if_pos (inb_nI (by omega) (by omega)), clamp_nI (by omega), r0, r1]
    have j62 : hit S a b k = false → Tot (r_X12_readBetween_j62_c2 a b (nI k) m) (Sum.elim (fun s2 => s2 = nI (k + 1) ∧ ∀ j, j < k + 1 → hit S a b j = false) (Sum.elim (fun x => Tot (r_X12_readBetween_e68_h2 m) (fun r => r = btw S D a b)) (fun y => Tot (some y) (fun r => r = btw S D a b)))) := fun h => by
      unfold r_X12_readBetween_j62_c2
      exact tot_some.mpr ⟨(nI_succ k).symm, step h⟩
    have j36 : ¬ (S 2 k = a ∧ S 3 k = b) → Tot (r_X12_readBetween_j36_c2 a b (nI k) m) (Sum.elim (fun s2 => s2 = nI (k + 1) ∧ ∀ j, j < k + 1 → hit S a b j = false) (Sum.elim (fun x => Tot (r_X12_readBetween_e68_h2 m) (fun r => r = btw S D a b)) (fun y => Tot (some y) (fun r => r = btw S D a b)))) := fun h => by
      unfold r_X12_readBetween_j36_c2
      rw [if_pos (inb_nI (by omega) (by omega)), clamp_nI (by omega), r0, r1]
      by_cases h1 : S 2 k = b
      · rw [if_pos h1]
        by_cases h2 : S 3 k = a
        · rw [if_pos h2]
          exact tot_some.mpr (tot_some.mpr (fin (decide_eq_true (Or.inr ⟨h1, h2⟩))).symm)
        · rw [if_neg h2]
          exact j62 (decide_eq_false (fun e => e.elim h (fun q => h2 q.2)))
      · rw [if_neg h1]
        exact j62 (decide_eq_false (fun e => e.elim h (fun q => h1 q.1)))
    by_cases h1 : S 2 k = a
    · rw [if_pos h1]
      by_cases h2 : S 3 k = b
      · rw [if_pos h2]
        exact tot_some.mpr (tot_some.mpr (fin (decide_eq_true (Or.inl ⟨h1, h2⟩))).symm)
      · rw [if_neg h2]
        exact j36 (fun q => h2 q.2)
    · rw [if_neg h1]
      exact j36 (fun q => h1 q.1)
  · rintro s ⟨rfl, hn⟩
    unfold r_X12_readBetween_b2
    rw [hD, if_pos (nI_le (Nat.le_refl _) (by omega)), tot_some]
    show Tot (r_X12_readBetween_e68_h2 m) _
    unfold r_X12_readBetween_e68_h2 btw
    rw [tot_some, first_none hn, if_neg (Nat.lt_irrefl D)]
/-- a clause was read by the reference -/
def CmP (b : Nat → Int32) (L : Nat) (S : Wd) (n s : Nat) (m m' : Mem) : Prop := ((clE b L S n s).1 = 0 → TM b L (sk b L (clP b L s) + 1) m' ∧ m' 12 0 5 = 0 ∧ m' 12 0 7 = nI (n + 1) ∧ LM (clS b L S s) m') ∧ (¬ (clE b L S n s).1 = 0 → FtM b L (clE b L S n s).1 (clE b L S n s).2 m') ∧ Fj KLm JLm m m'
theorem CmP.bad {b : Nat → Int32} {L n s e : Nat} {S : Wd} {k : Int32} {m m2 : Mem} (hE : clE b L S n s = (k, e)) (hf : FtM b L k e m2) (hF : Fj KLm JLm m m2) : CmP b L S n s m m2 := by
  unfold CmP
  rw [hE]
  exact ⟨fun q => absurd q hf.2.1, fun _ => hf, hF⟩
theorem clE_b {b : Nat → Int32} {L n s e : Nat} {S : Wd} {k : Int32} (c1 : ¬ lkd b L s = -1) (c2 : ¬ n = 60) (c3 : ¬ lfl b L S s = true) (h : clB b L S s = (k, e)) (hk : ¬ k = 0) : clE b L S n s = (k, e) := by
  unfold clE
  rw [if_neg c1, if_neg c2, if_neg c3, h, if_neg (show ¬ (k, e).1 = 0 from hk)]
theorem j353_bad {b : Nat → Int32} {L n s e kd : Nat} {S : Wd} {k : Int32} {m m5 : Mem} (hkd : kd ≤ 4) (h : FtM b L k e m5) (hF : Fj KLm JLm m m5) (hE : clE b L S n s = (k, e)) : Tot (r_X12_clause_j353 (nI kd) m5) (CmP b L S n s m) := by
  unfold r_X12_clause_j353
  rw [bd1_s h.sign]
  by_cases hk3 : 3 ≤ kd
  · rw [if_pos (show (3 : Int32) ≤ nI (kd) from nI_le (a := 3) (b := kd) (by omega) (by omega))]
    exact tot_some.mpr (CmP.bad hE h hF)
  · rw [if_neg (show ¬ (3 : Int32) ≤ nI (kd) from nI_ge (b := 3) (a := kd) (by omega) (by omega)), if_pos (inb_nI (by omega) (by omega)), if_neg (by rw [h.1]; exact h.2.1), clamp_nI (by omega)]
    have hF7 : Fj [(51, 0)] [] m5 (wr m5 51 0 kd (m5 51 0 kd + 0)) := Fj.rf.wrK (by simp) _ _
    exact tot_some.mpr (CmP.bad hE (h.fj hF7 (by decide) (by simp)) (hF.tr (hF7.mono (by simp) (by simp))))
theorem jtm12 : ∀ q ∈ JTm, q.1 = 12 := by decide
set_option maxHeartbeats 1000000 in
theorem j353_ok {b : Nat → Int32} {L n s kd : Nat} {S : Wd} {m m5 : Mem} (hkd : kd ≤ 4) (t : TM b L (clP b L s) m5) (h5 : m5 12 0 5 = 0) (h7 : m5 12 0 7 = nI (n + 1)) (hF : Fj KLm JLm m m5) (c1 : ¬ lkd b L s = -1) (c2 : ¬ n = 60) (c3 : ¬ lfl b L S s = true) (c4 : (clB b L S s).1 = 0) (hL : ∀ m', (∀ j, m' 51 0 j = if j = kd ∧ kd < 3 then m5 51 0 j + 1 else m5 51 0 j) → (∀ a i, ¬ a = 12 → ¬ a = 51 → m' a i = m5 a i) → LM (clS b L S s) m') : Tot (r_X12_clause_j353 (nI kd) m5) (CmP b L S n s m) := by
  unfold r_X12_clause_j353
  rw [tot_bd1]
  refine (sign_m (c := 59) t h5 (by decide)).mono ?_
  rintro m6 ⟨s1, s2, s3⟩
  have hF6 : Fj KLm JLm m m6 := hF.tr (s3.mono (by simp) (by simp))
  have h76 : m6 12 0 7 = nI (n + 1) := by rw [s3 12 0 7 (by simp) (by simp)]; exact h7
  have hr6 : ∀ a i, ¬ a = 12 → m6 a i = m5 a i := fun a i ha => s3.rw' a i (by simp) (fun q hq e => ha (by rw [← e]; exact jtm12 q hq))
  have h51 : ∀ j, m6 51 0 j = m5 51 0 j := fun j => by rw [hr6 51 0 (by decide)]
  by_cases c5 : bA b L (sk b L (clP b L s)) = 59
  · obtain ⟨u1, u2⟩ := s1 c5
    have hE : (clE b L S n s).1 = 0 := by
      unfold clE
      rw [if_neg c1, if_neg c2, if_neg c3, if_pos c4, if_pos c5]
    by_cases hk3 : 3 ≤ kd
    · rw [if_pos (show (3 : Int32) ≤ nI (kd) from nI_le (a := 3) (b := kd) (by omega) (by omega))]
      exact tot_some.mpr ⟨fun _ => ⟨u1, u2, h76, hL m6 (fun j => by rw [if_neg (by omega)]; exact h51 j) (fun a i h1 _ => hr6 a i h1)⟩, fun q => absurd hE q, hF6⟩
    · rw [if_neg (show ¬ (3 : Int32) ≤ nI (kd) from nI_ge (b := 3) (a := kd) (by omega) (by omega)), if_pos (inb_nI (by omega) (by omega)), if_pos u2, clamp_nI (by omega)]
      have hF7 : Fj [(51, 0)] [] m6 (wr m6 51 0 kd (m6 51 0 kd + 1)) := Fj.rf.wrK (by simp) _ _
      refine tot_some.mpr ⟨fun _ => ⟨u1.fj hF7 (by decide) (by simp), ?_, ?_, hL _ (fun j => ?_) (fun a i h1 h2 => ?_)⟩, fun q => absurd hE q, hF6.tr (hF7.mono (by simp) (by simp))⟩
      · rw [wr_k (by decide)]
        exact u2
      · rw [wr_k (by decide)]
        exact h76
      · rw [wr_if]
        by_cases e : j = kd
        · rw [if_pos e, if_pos ⟨e, by omega⟩, e, h51]
        · rw [if_neg e, if_neg (fun q => e q.1), h51]
      · rw [← hr6 a i h1]
        funext c
        exact wr_k h2
  · have d := s2 c5
    have hE : clE b L S n s = (1, sk b L (clP b L s)) := by
      unfold clE
      rw [if_neg c1, if_neg c2, if_neg c3, if_pos c4, if_neg c5]
    by_cases hk3 : 3 ≤ kd
    · rw [if_pos (show (3 : Int32) ≤ nI (kd) from nI_le (a := 3) (b := kd) (by omega) (by omega))]
      exact tot_some.mpr (CmP.bad hE d hF6)
    · rw [if_neg (show ¬ (3 : Int32) ≤ nI (kd) from nI_ge (b := 3) (a := kd) (by omega) (by omega)), if_pos (inb_nI (by omega) (by omega)), if_neg (by rw [d.1]; decide), clamp_nI (by omega)]
      have hF7 : Fj [(51, 0)] [] m6 (wr m6 51 0 kd (m6 51 0 kd + 0)) := Fj.rf.wrK (by simp) _ _
      exact tot_some.mpr (CmP.bad hE (d.fj hF7 (by decide) (by simp)) (hF6.tr (hF7.mono (by simp) (by simp))))
theorem FtM.rdPl {b : Nat → Int32} {L e : Nat} {k : Int32} {m : Mem} (h : FtM b L k e m) : r_X12_readPlace m = some (0, m) := by
  unfold r_X12_readPlace
  rw [bd2_s h.number]
theorem rdPl_m {b : Nat → Int32} {L p P : Nat} {m : Mem} (h : TM b L p m) (h5 : m 12 0 5 = 0) (hP : m 51 0 0 = nI P) : Tot (r_X12_readPlace m) (fun q => (nmE b L 0 (nI P - 1) (sk b L p) = 0 → q.1 = nmV b L (sk b L p) ∧ TM b L (nmN b L (sk b L p)) q.2 ∧ q.2 12 0 5 = 0) ∧ (¬ nmE b L 0 (nI P - 1) (sk b L p) = 0 → q.1 = 0 ∧ FtM b L (nmE b L 0 (nI P - 1) (sk b L p)) (sk b L p) q.2) ∧ Fj [] JTm m q.2) := by
  unfold r_X12_readPlace
  rw [hP, tot_bd2]
  refine (number_m h h5).mono ?_
  rintro ⟨z, m2⟩ hz
  exact tot_some.mpr hz
/-- the clause's head was read -/
def Hd (b : Nat → Int32) (L : Nat) (S : Wd) (n s : Nat) (m m1 : Mem) : Prop := TM b L (wE b L s) m1 ∧ m1 12 0 5 = 0 ∧ m1 12 0 7 = nI (n + 1) ∧ LM S m1 ∧ Fj KLm JLm m m1
theorem mPlace {b : Nat → Int32} {L n s : Nat} {S : Wd} {m m1 : Mem} (h : Hd b L S n s m m1) (l : lkd b L s = 0) (hW : LW S) (c2 : ¬ n = 60) (c3 : ¬ lfl b L S s = true) : Tot (r_X12_clause_j95 (nI 0) (nI (wP S)) m1) (CmP b L S n s m) := by
  obtain ⟨t, h5, h7, hM, hF⟩ := h
  have hP := hW.1
  have c1 : ¬ lkd b L s = -1 := by rw [l]; decide
  have hnf : ¬ wP S = 12 := fun q => c3 (decide_eq_true (Or.inl ⟨l, q⟩))
  unfold r_X12_clause_j95
  rw [if_pos (show nI 0 = 0 from rfl), tot_bd2]
  refine (number_m t h5).mono ?_
  rintro ⟨z, m2⟩ ⟨g1, g2, g3⟩
  dsimp only at g1 g2 g3 ⊢
  have hF2 : Fj KLm JLm m m2 := hF.tr (g3.mono (by simp) (by simp))
  have hM2 : LM S m2 := hM.fj g3 (by simp) (by decide)
  have h72 : m2 12 0 7 = nI (n + 1) := by rw [g3 12 0 7 (by simp) (by simp)]; exact h7
  have hF3 : Fj [(53, 0)] [] m2 (wr m2 53 0 (wP S) z) := Fj.rf.wrK (by simp) _ _
  have hF3' : Fj KLm JLm m (wr m2 53 0 (wP S) z) := hF2.tr (hF3.mono (by simp) (by simp))
  have hB : clB b L S s = (nmE b L 0 60 (k1 b L s), k1 b L s) := by
    unfold clB
    rw [if_pos l]
  rw [if_pos (inb_nI (by omega) (by omega)), clamp_nI (by omega)]
  by_cases e0 : nmE b L 0 60 (k1 b L s) = 0
  case neg =>
    obtain ⟨-, d⟩ := g2 e0
    exact j353_bad (kd := 0) (by omega) (d.fj hF3 (by decide) (by simp)) hF3' (clE_b c1 c2 c3 hB e0)
  obtain ⟨v1, v2, v3⟩ := g1 e0
  refine j353_ok (kd := 0) (by omega) ?_ (by rw [wr_k (by decide)]; exact v3) (by rw [wr_k (by decide)]; exact h72) hF3' c1 c2 c3 (by rw [hB]; exact e0) (fun m' q1 q2 => ?_)
  · unfold clP
    rw [if_pos l]
    exact v2.fj hF3 (by decide) (by simp)
  · unfold clS
    rw [if_pos l]
    have o : ∀ x y, ¬ x = 0 → ¬ x = 1 → upS (upS S 1 (wP S) (nmV b L (k1 b L s))) 0 0 (nI (wP S + 1)) x y = S x y := fun x y h1 h2 => by rw [upS_i h1, upS_i h2]
    have oz : ∀ y, ¬ y = 0 → upS (upS S 1 (wP S) (nmV b L (k1 b L s))) 0 0 (nI (wP S + 1)) 0 y = S 0 y := fun y h1 => by rw [upS_j h1, upS_i (by decide)]
    have eP : wP (upS (upS S 1 (wP S) (nmV b L (k1 b L s))) 0 0 (nI (wP S + 1))) = wP S + 1 := lw_ex (upS_at _ _ _ _) (by omega)
    have eD : wD (upS (upS S 1 (wP S) (nmV b L (k1 b L s))) 0 0 (nI (wP S + 1))) = wD S := lw_eD ((oz 1 (by decide)).trans hW.2.1.1) (by have := hW.2.1.2; omega)
    have eN : wN (upS (upS S 1 (wP S) (nmV b L (k1 b L s))) 0 0 (nI (wP S + 1))) = wN S := lw_eN ((oz 2 (by decide)).trans hW.2.2.1.1) (by have := hW.2.2.1.2; omega)
    have w : ∀ a i, ¬ a = 12 → ¬ a = 51 → ¬ a = 53 → m' a i = m2 a i := fun a i h1 h2 h3 => by
      rw [q2 a i h1 h2]
      funext c
      exact wr_k h3
    unfold LM
    rw [eP, eD, eN]
    refine ⟨fun k hk => ?_, fun a ha => ?_, fun e he => ?_, fun p hp => ?_, fun p a hp ha => ?_⟩
    · rw [q1, wr_k (by decide)]
      by_cases e : k = 0
      · rw [if_pos ⟨e, by omega⟩, e, upS_at, (hM2.1 0 (by omega)).trans hP.1, nI_succ]
      · rw [if_neg (fun q => e q.1), oz k e]
        exact hM2.1 k hk
    · rw [q2 53 0 (by decide) (by decide), wr_if, upS_i (by decide)]
      by_cases e : a = wP S
      · rw [if_pos e, e, upS_at]
        exact v1
      · rw [if_neg e, upS_j e]
        exact hM2.2.1 a (by omega)
    · rw [w 61 e (by decide) (by decide) (by decide), o 2 e (by decide) (by decide), o 3 e (by decide) (by decide)]
      exact hM2.2.2.1 e he
    · rw [w 65 p (by decide) (by decide) (by decide), o 4 p (by decide) (by decide), o 5 p (by decide) (by decide)]
      exact hM2.2.2.2.1 p hp
    · rw [w 69 p (by decide) (by decide) (by decide), o 6 _ (by decide) (by decide)]
      exact hM2.2.2.2.2 p a hp ha
theorem mSpring {b : Nat → Int32} {L n s : Nat} {S : Wd} {m m1 : Mem} (h : Hd b L S n s m m1) (l : lkd b L s = 4) (hW : LW S) (c2 : ¬ n = 60) (c3 : ¬ lfl b L S s = true) : Tot (r_X12_clause_j95 (nI 3) 0 m1) (CmP b L S n s m) := by
  obtain ⟨t, h5, h7, hM, hF⟩ := h
  have hP := hW.1
  have l0 : ¬ lkd b L s = 0 := by rw [l]; decide
  have l1 : ¬ lkd b L s = 1 := by rw [l]; decide
  have l2 : ¬ lkd b L s = 2 := by rw [l]; decide
  have l3 : ¬ lkd b L s = 3 := by rw [l]; decide
  have c1 : ¬ lkd b L s = -1 := by rw [l]; decide
  unfold r_X12_clause_j95
  rw [if_neg (by decide), if_neg (by decide), if_neg (by decide), if_pos (show nI 3 = 3 from rfl), tot_bd2]
  refine (rdPl_m t h5 ((hM.1 0 (by omega)).trans hP.1)).mono ?_
  rintro ⟨z, m2⟩ ⟨g1, g2, g3⟩
  dsimp only at g1 g2 g3 ⊢
  have hF2 : Fj KLm JLm m m2 := hF.tr (g3.mono (by simp) (by simp))
  have hM2 : LM S m2 := hM.fj g3 (by simp) (by decide)
  have h72 : m2 12 0 7 = nI (n + 1) := by rw [g3 12 0 7 (by simp) (by simp)]; exact h7
  have hB : clB b L S s = (nmE b L 0 (nI (wP S) - 1) (k1 b L s), k1 b L s) := by
    unfold clB
    rw [if_neg l0, if_neg l1, if_neg l2, if_neg l3]
  by_cases e0 : nmE b L 0 (nI (wP S) - 1) (k1 b L s) = 0
  case neg =>
    obtain ⟨-, d⟩ := g2 e0
    rw [if_neg (by rw [d.1]; exact d.2.1)]
    exact j353_bad (kd := 3) (by omega) d hF2 (clE_b c1 c2 c3 hB e0)
  obtain ⟨v1, v2, v3⟩ := g1 e0
  have hF3 : Fj [(51, 0)] [] m2 (wr m2 51 0 3 z) := Fj.rf.wrK (by simp) _ _
  have hF3' : Fj KLm JLm m (wr m2 51 0 3 z) := hF2.tr (hF3.mono (by simp) (by simp))
  rw [if_pos v3]
  refine j353_ok (kd := 3) (by omega) ?_ (by rw [wr_k (by decide)]; exact v3) (by rw [wr_k (by decide)]; exact h72) hF3' c1 c2 c3 (by rw [hB]; exact e0) (fun m' q1 q2 => ?_)
  · unfold clP
    rw [if_neg l0, if_neg l1, if_neg l2, if_neg l3]
    exact v2.fj hF3 (by decide) (by simp)
  · unfold clS
    rw [if_neg l0, if_neg l1, if_neg l2, if_neg l3]
    have o : ∀ x y, ¬ x = 0 → upS S 0 3 (nmV b L (k1 b L s)) x y = S x y := fun x y h1 => upS_i h1
    have oz : ∀ y, ¬ y = 3 → upS S 0 3 (nmV b L (k1 b L s)) 0 y = S 0 y := fun y h1 => upS_j h1
    have eP : wP (upS S 0 3 (nmV b L (k1 b L s))) = wP S := lw_ex ((oz 0 (by decide)).trans hP.1) (by omega)
    have eD : wD (upS S 0 3 (nmV b L (k1 b L s))) = wD S := lw_eD ((oz 1 (by decide)).trans hW.2.1.1) (by have := hW.2.1.2; omega)
    have eN : wN (upS S 0 3 (nmV b L (k1 b L s))) = wN S := lw_eN ((oz 2 (by decide)).trans hW.2.2.1.1) (by have := hW.2.2.1.2; omega)
    have w : ∀ a i, ¬ a = 12 → ¬ a = 51 → m' a i = m2 a i := fun a i h1 h2 => by
      rw [q2 a i h1 h2]
      funext c
      exact wr_k h2
    unfold LM
    rw [eP, eD, eN]
    refine ⟨fun k hk => ?_, fun a ha => ?_, fun e he => ?_, fun p hp => ?_, fun p a hp ha => ?_⟩
    · rw [q1, if_neg (by omega), wr_if]
      by_cases e : k = 3
      · rw [if_pos e, e, upS_at]
        exact v1
      · rw [if_neg e, oz k e]
        exact hM2.1 k hk
    · rw [w 53 0 (by decide) (by decide), o 1 a (by decide)]
      exact hM2.2.1 a ha
    · rw [w 61 e (by decide) (by decide), o 2 e (by decide), o 3 e (by decide)]
      exact hM2.2.2.1 e he
    · rw [w 65 p (by decide) (by decide), o 4 p (by decide), o 5 p (by decide)]
      exact hM2.2.2.2.1 p hp
    · rw [w 69 p (by decide) (by decide), o 6 _ (by decide)]
      exact hM2.2.2.2.2 p a hp ha
set_option maxHeartbeats 1000000 in
theorem mPerson {b : Nat → Int32} {L n s : Nat} {S : Wd} {m m1 : Mem} (h : Hd b L S n s m m1) (l : lkd b L s = 2) (hW : LW S) (c2 : ¬ n = 60) (c3 : ¬ lfl b L S s = true) : Tot (r_X12_clause_j95 (nI 2) (nI (wN S)) m1) (CmP b L S n s m) := by
  obtain ⟨t, h5, h7, hM, hF⟩ := h
  have hP := hW.1
  have hN := hW.2.2.1
  have l0 : ¬ lkd b L s = 0 := by rw [l]; decide
  have l1 : ¬ lkd b L s = 1 := by rw [l]; decide
  have c1 : ¬ lkd b L s = -1 := by rw [l]; decide
  have hnf : ¬ wN S = 6 := fun q => c3 (decide_eq_true (Or.inr (Or.inr ⟨l, q⟩)))
  unfold r_X12_clause_j95
  rw [if_neg (by decide), if_neg (by decide), if_pos (show nI 2 = 2 from rfl), if_pos (inb_nI (by omega) (by omega)), clamp_nI (by omega), tot_bd2]
  refine (number_m t h5).mono ?_
  rintro ⟨z, m2⟩ ⟨g1, g2, g3⟩
  dsimp only at g1 g2 g3 ⊢
  have hF2 : Fj KLm JLm m m2 := hF.tr (g3.mono (by simp) (by simp))
  have hM2 : LM S m2 := hM.fj g3 (by simp) (by decide)
  have h72 : m2 12 0 7 = nI (n + 1) := by rw [g3 12 0 7 (by simp) (by simp)]; exact h7
  have hF3 : Fj [(65, wN S)] [] m2 (wr m2 65 (wN S) 0 z) := Fj.rf.wrK (by simp) _ _
  have hF3' : Fj KLm JLm m (wr m2 65 (wN S) 0 z) := hF2.wrK (in65 _ (by omega)) _ _
  rw [tot_bd2]
  by_cases e0 : nmE b L 1 9 (k1 b L s) = 0
  case neg =>
    obtain ⟨-, d⟩ := g2 e0
    have d3 := d.fj hF3 (by simp) (by simp)
    have hB : clB b L S s = (nmE b L 1 9 (k1 b L s), k1 b L s) := by
      unfold clB
      rw [if_neg l0, if_neg l1, if_pos l, if_neg e0]
    rw [d3.rdPl]
    refine tot_some.mpr ?_
    exact j353_bad (kd := 2) (by omega) (d3.fj (K := [(65, wN S)]) (J := []) (Fj.rf.wrK (by simp) _ _) (by simp) (by simp)) (hF3'.wrK (in65 _ (by omega)) _ _) (clE_b c1 c2 c3 hB e0)
  obtain ⟨v1, v2, v3⟩ := g1 e0
  have t3 := v2.fj hF3 (by simp) (by simp)
  have h53 : wr m2 65 (wN S) 0 z 12 0 5 = 0 := by rw [wr_k (by decide)]; exact v3
  have h73 : wr m2 65 (wN S) 0 z 12 0 7 = nI (n + 1) := by rw [wr_k (by decide)]; exact h72
  have hB : clB b L S s = (nmE b L 0 (nI (wP S) - 1) (k2 b L s), k2 b L s) := by
    unfold clB
    rw [if_neg l0, if_neg l1, if_pos l, if_pos e0]
  refine (rdPl_m t3 h53 (P := wP S) (by rw [wr_k (by decide)]; exact (hM2.1 0 (by omega)).trans hP.1)).mono ?_
  rintro ⟨z4, m4⟩ ⟨f1, f2, f3⟩
  dsimp only at f1 f2 f3 ⊢
  have hF4 : Fj KLm JLm m m4 := hF3'.tr (f3.mono (by simp) (by simp))
  have hF5 : Fj [(65, wN S)] [] m4 (wr m4 65 (wN S) 1 z4) := Fj.rf.wrK (by simp) _ _
  have hF5' : Fj KLm JLm m (wr m4 65 (wN S) 1 z4) := hF4.wrK (in65 _ (by omega)) _ _
  by_cases e1 : nmE b L 0 (nI (wP S) - 1) (k2 b L s) = 0
  case neg =>
    obtain ⟨-, d⟩ := f2 e1
    exact j353_bad (kd := 2) (by omega) (d.fj hF5 (by simp) (by simp)) hF5' (clE_b c1 c2 c3 hB e1)
  obtain ⟨u1, u2, u3⟩ := f1 e1
  refine j353_ok (kd := 2) (by omega) ?_ (by rw [wr_k (by decide)]; exact u3) (by rw [wr_k (by decide), f3 12 0 7 (by simp) (by simp)]; exact h73) hF5' c1 c2 c3 (by rw [hB]; exact e1) (fun m' q1 q2 => ?_)
  · unfold clP
    rw [if_neg l0, if_neg l1, if_pos l]
    exact u2.fj hF5 (by simp) (by simp)
  · unfold clS
    rw [if_neg l0, if_neg l1, if_pos l]
    generalize nmV b L (k1 b L s) = w1 at v1 ⊢
    have u1' : z4 = nmV b L (k2 b L s) := u1
    generalize nmV b L (k2 b L s) = w2 at u1' ⊢
    have o : ∀ x y, ¬ x = 0 → ¬ x = 4 → ¬ x = 5 → upS (upS (upS S 4 (wN S) w1) 5 (wN S) w2) 0 2 (nI (wN S + 1)) x y = S x y := fun x y h1 h2 h3 => by rw [upS_i h1, upS_i h3, upS_i h2]
    have oz : ∀ y, ¬ y = 2 → upS (upS (upS S 4 (wN S) w1) 5 (wN S) w2) 0 2 (nI (wN S + 1)) 0 y = S 0 y := fun y h1 => by rw [upS_j h1, upS_i (by decide), upS_i (by decide)]
    have eP : wP (upS (upS (upS S 4 (wN S) w1) 5 (wN S) w2) 0 2 (nI (wN S + 1))) = wP S := lw_ex ((oz 0 (by decide)).trans hP.1) (by omega)
    have eD : wD (upS (upS (upS S 4 (wN S) w1) 5 (wN S) w2) 0 2 (nI (wN S + 1))) = wD S := lw_eD ((oz 1 (by decide)).trans hW.2.1.1) (by have := hW.2.1.2; omega)
    have eN : wN (upS (upS (upS S 4 (wN S) w1) 5 (wN S) w2) 0 2 (nI (wN S + 1))) = wN S + 1 := lw_eN (upS_at _ _ _ _) (by omega)
    have w4 : ∀ a i, ¬ a = 12 → ¬ a = 65 → m4 a i = m2 a i := fun a i h1 h2 => by
      rw [f3.rw' a i (by simp) (fun q hq e => h1 (by rw [← e]; exact jtm12 q hq))]
      funext c
      exact wr_k h2
    have w : ∀ a i, ¬ a = 12 → ¬ a = 51 → ¬ a = 65 → m' a i = m2 a i := fun a i h1 h2 h3 => by
      rw [q2 a i h1 h2, ← w4 a i h1 h3]
      funext c
      exact wr_k h3
    unfold LM
    rw [eP, eD, eN]
    refine ⟨fun k hk => ?_, fun a ha => ?_, fun e he => ?_, fun p hp => ?_, fun p a hp ha => ?_⟩
    · rw [q1, wr_k (by decide), w4 51 0 (by decide) (by decide)]
      by_cases e : k = 2
      · rw [if_pos ⟨e, by omega⟩, e, upS_at, (hM2.1 2 (by omega)).trans hN.1, nI_succ]
      · rw [if_neg (fun q => e q.1), oz k e]
        exact hM2.1 k hk
    · rw [w 53 0 (by decide) (by decide) (by decide), o 1 a (by decide) (by decide) (by decide)]
      exact hM2.2.1 a ha
    · rw [w 61 e (by decide) (by decide) (by decide), o 2 e (by decide) (by decide) (by decide), o 3 e (by decide) (by decide) (by decide)]
      exact hM2.2.2.1 e he
    · have y1 : upS (upS (upS S 4 (wN S) w1) 5 (wN S) w2) 0 2 (nI (wN S + 1)) 4 p = upS S 4 (wN S) w1 4 p := by rw [upS_i (by decide), upS_i (by decide)]
      have y2 : upS (upS (upS S 4 (wN S) w1) 5 (wN S) w2) 0 2 (nI (wN S + 1)) 5 p = upS (upS S 4 (wN S) w1) 5 (wN S) w2 5 p := upS_i (by decide)
      rw [q2 65 p (by decide) (by decide), y1, y2]
      by_cases e : p = wN S
      · rw [e, wr_j (by decide), wr_eq, f3 65 (wN S) 0 (by simp) (by simp), wr_eq, upS_at, upS_at]
        exact ⟨v1, u1'⟩
      · rw [wr_i e, wr_i e, f3 65 p 0 (by simp) (by simp), f3 65 p 1 (by simp) (by simp), wr_i e, wr_i e, upS_j e, upS_j e, upS_i (by decide)]
        exact hM2.2.2.2.1 p (by omega)
    · rw [w 69 p (by decide) (by decide) (by decide), o 6 _ (by decide) (by decide) (by decide)]
      exact hM2.2.2.2.2 p a hp ha
