/-! ===== those who have forgotten all; who ===== -/
def silQ (r : Rw) (s k : Nat) : Rw := fun q => if q < k ∧ bt (nI s) (q / 12) = true then -1 else r q
abbrev KS : List (Nat × Nat) := [(7, 1), (20, 1), (21, 1), (22, 1), (23, 1), (24, 1)]
theorem silQ_er {r r' : Rw} (h : Er r r') (s k : Nat) : Er (silQ r s k) (silQ r' s k) := fun q hq => by
  unfold silQ
  rw [h q hq]
theorem silQ_next {r : Rw} {s p a : Nat} (ha : a < 12) (hb : bt (nI s) p = true) : silQ r s (12 * p + (a + 1)) = fun q => if q = 12 * p + a then -1 else silQ r s (12 * p + a) q := by
  funext q
  unfold silQ
  by_cases hq : q = 12 * p + a
  · have e : q / 12 = p := by omega
    rw [if_pos hq, if_pos ⟨by omega, by rw [e]; exact hb⟩]
  · rw [if_neg hq]
    by_cases h2 : q < 12 * p + a ∧ bt (nI s) (q / 12) = true
    · rw [if_pos h2, if_pos ⟨by omega, h2.2⟩]
    · rw [if_neg h2, if_neg (fun z => h2 ⟨by omega, z.2⟩)]
theorem silQ_skip {r : Rw} {s p : Nat} (hb : bt (nI s) p = false) : silQ r s (12 * (p + 1)) = silQ r s (12 * p) := by
  funext q
  unfold silQ
  by_cases h2 : q < 12 * p ∧ bt (nI s) (q / 12) = true
  · rw [if_pos h2, if_pos ⟨by omega, h2.2⟩]
  · rw [if_neg h2, if_neg ?_]
    rintro ⟨z1, z2⟩
    by_cases h3 : q < 12 * p
    · exact h2 ⟨h3, z2⟩
    · have e : q / 12 = p := by omega
      rw [e, hb] at z2
      cases z2
theorem forgetOf_c {w : Wd} {r : Rw} {m : Mem} {s p : Nat} (hW : WF w) (hS : StC w (silQ r s (12 * p)) m 1) (hp : p < wN w) (hb : bt (nI s) p = true) : Tot (r_X7_forgetAllOf 1 (nI p) m) (fun m' => StC w (silQ r s (12 * (p + 1))) m' 1 ∧ Fr [(22, 1)] m m') := by
  have hN := hW.2.2.1.2
  unfold r_X7_forgetAllOf r_X7_forgetAllOf_l2
  rw [tot_bd1]
  refine tot_for (fun k (t : Int32 × Mem) => t.1 = nI k ∧ StC w (silQ r s (12 * p + k)) t.2 1 ∧ Fr [(22, 1)] m t.2) 12 ?_ ?_ 0 _ (Nat.zero_le _) ⟨rfl, hS, Fr.rf⟩
  · rintro k ⟨x2, m1⟩ hk ⟨e1, hS1, hF⟩
    dsimp only at e1 hS1 hF ⊢
    subst e1
    unfold r_X7_forgetAllOf_b2
    rw [if_neg (show ¬ (12 : Int32) ≤ nI (k) from nI_ge (b := 12) (a := k) (by omega) (by omega)), ix12, if_pos (inb_nI (by omega) (by omega)), clamp_nI (by omega)]
    refine tot_some.mpr ⟨(nI_succ k).symm, ?_, hF.wr (by simp) _ _⟩
    rw [silQ_next hk hb]
    refine ⟨?_, ?_, fun p9 hp9 => ⟨?_, ?_⟩, fun p9 c hp9 hc => ?_, fun e9 he9 => ⟨?_, ?_⟩⟩
    · show wr m1 22 1 (12 * p + k) (-1) 7 1 0 = _
      rw [wr_k (by decide), hS1.1]
      exact (if_neg (by omega)).symm
    · show wr m1 22 1 (12 * p + k) (-1) 7 1 1 = _
      rw [wr_k (by decide), hS1.2.1]
    · show wr m1 22 1 (12 * p + k) (-1) 20 1 p9 = _
      rw [wr_k (by decide), (hS1.2.2.1 p9 hp9).1]
    · show wr m1 22 1 (12 * p + k) (-1) 21 1 p9 = _
      rw [wr_k (by decide), (hS1.2.2.1 p9 hp9).2]
      exact (if_neg (by omega)).symm
    · show wr m1 22 1 (12 * p + k) (-1) 22 1 (12 * p9 + c) = _
      rw [wr_if]
      by_cases hq : 12 * p9 + c = 12 * p + k
      · rw [if_pos hq]
        exact (if_pos hq).symm
      · rw [if_neg hq, hS1.2.2.2.1 p9 c hp9 hc]
        exact (if_neg hq).symm
    · show wr m1 22 1 (12 * p + k) (-1) 23 1 e9 = _
      rw [wr_k (by decide), (hS1.2.2.2.2 e9 he9).1]
      exact (if_neg (by omega)).symm
    · show wr m1 22 1 (12 * p + k) (-1) 24 1 e9 = _
      rw [wr_k (by decide), (hS1.2.2.2.2 e9 he9).2]
      exact (if_neg (by omega)).symm
  · rintro ⟨x2, m1⟩ ⟨e1, hS1, hF⟩
    dsimp only at e1 hS1 hF ⊢
    subst e1
    unfold r_X7_forgetAllOf_b2
    rw [if_pos (by decide), tot_some]
    exact tot_some.mpr ⟨hS1, hF⟩
theorem forgotten_c {w : Wd} {r : Rw} {m : Mem} {s : Nat} (hW : WF w) (hS : StC w r m 0) : Tot (r_X0_tryForgotten 0 (nI s) m) (fun m' => StC w (silQ r s (12 * wN w)) m' 1 ∧ Fr KS m m') := by
  have hN := hW.2.2.1
  unfold r_X0_tryForgotten
  rw [tot_bd1]
  refine (copyFrom_tot (i0 := 1) (i1 := 0) (by decide)).mono ?_
  rintro m1 ⟨c1, -, -, -, -, -, c2⟩
  have e0 : silQ r s (12 * 0) = r := by
    funext q
    exact if_neg (by omega)
  unfold r_X7_forgetAll r_X7_forgetAll_l2
  rw [tot_bd1, tot_bd1]
  refine tot_for (fun k (t : Int32 × Mem) => t.1 = nI k ∧ StC w (silQ r s (12 * k)) t.2 1 ∧ Fr KS m t.2) (wN w) ?_ ?_ 0 _ (Nat.zero_le _) ⟨rfl, by rw [e0]; exact c1 _ _ hW hS, c2⟩
  · rintro k ⟨x2, m2⟩ hk ⟨e1, hS2, hF⟩
    dsimp only at e1 hS2 hF ⊢
    subst e1
    unfold r_X7_forgetAll_b2 r_X7_forgetAll_j23_c2
    rw [hS2.2.1, hN.1, if_neg (nI_ge hk (by omega))]
    by_cases hb : bt (nI s) k = true
    · rw [if_neg (fun q => by have := (bit_0 (by omega)).mp q; rw [hb] at this; cases this), tot_bd1]
      refine (forgetOf_c hW hS2 hk hb).mono ?_
      rintro m3 ⟨g1, g2⟩
      exact tot_some.mpr ⟨(nI_succ k).symm, g1, hF.tr (g2.mono (by simp))⟩
    · rw [if_pos ((bit_0 (by omega)).mpr (ts_nt' hb))]
      exact tot_some.mpr ⟨(nI_succ k).symm, by rw [silQ_skip (ts_nt' hb)]; exact hS2, hF⟩
  · rintro ⟨x2, m2⟩ ⟨e1, hS2, hF⟩
    dsimp only at e1 hS2 hF ⊢
    subst e1
    unfold r_X7_forgetAll_b2
    rw [hS2.2.1, hN.1, if_pos (nI_le (Nat.le_refl _) (by omega)), tot_some]
    exact tot_some.mpr (tot_some.mpr ⟨hS2, hF⟩)
theorem sil1_m {m : Mem} {r : Rw} {s p : Nat} (hE : Er (m 60 1) (silQ r s (12 * p))) (hp : p < 6) : Tot (loopO (fun t => r_X12_silences_b25_c13 (nI s) (nI p) t.1 t.2) (0, m)) (fun m' => Er (m' 60 1) (silQ r s (12 * (p + 1))) ∧ Fr [(60, 1)] m m') := by
  by_cases hb : bt (nI s) p = true
  · refine tot_for (fun k (t : Int32 × Mem) => t.1 = nI k ∧ Er (t.2 60 1) (silQ r s (12 * p + k)) ∧ Fr [(60, 1)] m t.2) 12 ?_ ?_ 0 _ (Nat.zero_le _) ⟨rfl, hE, Fr.rf⟩
    · rintro k ⟨x3, m1⟩ hk ⟨e1, hE1, hF⟩
      dsimp only at e1 hE1 hF ⊢
      subst e1
      unfold r_X12_silences_b25_c13
      rw [if_neg (show ¬ (12 : Int32) ≤ nI (k) from nI_ge (b := 12) (a := k) (by omega) (by omega)), has_eq (by omega), hb, if_pos rfl, ix12', if_pos (inb_nI (by omega) (by omega)), clamp_nI (by omega)]
      refine tot_some.mpr ⟨(nI_succ k).symm, fun q hq => ?_, hF.wr (by simp) _ _⟩
      show wr m1 60 1 (12 * p + k) (-1) 60 1 q = _
      rw [silQ_next hk hb, wr_if]
      by_cases h9 : q = 12 * p + k
      · rw [if_pos h9]
        exact (if_pos h9).symm
      · rw [if_neg h9, hE1 q hq]
        exact (if_neg h9).symm
    · rintro ⟨x3, m1⟩ ⟨e1, hE1, hF⟩
      dsimp only at e1 hE1 hF ⊢
      subst e1
      unfold r_X12_silences_b25_c13
      rw [if_pos (by decide), tot_some]
      exact ⟨hE1, hF⟩
  · refine ⟨m, loopO_out ?_, by rw [silQ_skip (ts_nt' hb)]; exact hE, Fr.rf⟩
    show r_X12_silences_b25_c13 (nI s) (nI p) 0 m = _
    unfold r_X12_silences_b25_c13
    rw [if_neg (by decide), has_eq (by omega), if_neg hb]
theorem silences_m {m : Mem} {s : Nat} (hW : WF (mW m)) : Tot (r_X12_silences (nI s) m) (fun m' => Er (m' 60 1) (silQ (m 60 0) s (12 * wN (mW m))) ∧ Fr [(60, 1)] m m') := by
  have hN := hW.2.2.1
  unfold r_X12_silences
  rw [tot_bd1]
  refine (copies_tot (i0 := 0) (i1 := 1) (by decide)).mono ?_
  rintro m1 ⟨c1, c2⟩
  have e0 : silQ (m 60 0) s (12 * 0) = m 60 0 := by
    funext q
    exact if_neg (by omega)
  unfold r_X12_silences_l13
  rw [tot_bd1]
  refine tot_for (fun k (t : Int32 × Mem) => t.1 = nI k ∧ Er (t.2 60 1) (silQ (m 60 0) s (12 * k)) ∧ Fr [(60, 1)] m t.2) (wN (mW m)) ?_ ?_ 0 _ (Nat.zero_le _) ⟨rfl, by rw [e0]; exact c1, c2⟩
  · rintro k ⟨x2, m2⟩ hk ⟨e1, hE, hF⟩
    dsimp only at e1 hE hF ⊢
    subst e1
    unfold r_X12_silences_b13 r_X12_silences_l25_c13
    rw [hF 52 0 (by decide), show m 52 0 2 = nI (wN (mW m)) from hN.1, if_neg (nI_ge hk (by omega)), tot_bd1]
    refine (sil1_m hE (by omega)).mono ?_
    rintro m3 ⟨g1, g2⟩
    exact tot_some.mpr ⟨(nI_succ k).symm, g1, hF.tr g2⟩
  · rintro ⟨x2, m2⟩ ⟨e1, hE, hF⟩
    dsimp only at e1 hE hF ⊢
    subst e1
    unfold r_X12_silences_b13
    rw [hF 52 0 (by decide), show m 52 0 2 = nI (wN (mW m)) from hN.1, if_pos (nI_le (Nat.le_refl _) (by omega)), tot_some]
    exact tot_some.mpr ⟨hE, hF⟩
/-- it would go as the book has it -/
noncomputable def ast (w : Wd) (b : Nat → Int32) (r : Rw) : Bool := by classical exact decide (∀ a, a < wP w → b a = -1 ∨ nxt w r a = b a)
theorem ast_t {w : Wd} {b : Nat → Int32} {r : Rw} (h : ∀ a, a < wP w → b a = -1 ∨ nxt w r a = b a) : ast w b r = true := by
  unfold ast
  exact decide_eq_true h
theorem ast_f {w : Wd} {b : Nat → Int32} {r : Rw} {a : Nat} (ha : a < wP w) (h1 : ¬ b a = -1) (h2 : ¬ nxt w r a = b a) : ast w b r = false := by
  unfold ast
  exact decide_eq_false (fun q => (q a ha).elim h1 h2)
theorem asTold_c {w : Wd} {r : Rw} {m : Mem} (hW : WF w) (hL : CL w m) (hC : CW w m) (hS : StC w r m 1) : Tot (r_X0_goesAsTold 0 m) (fun q => q.1 = ast w (m 36 0) r ∧ Fr [(33, 0), (35, 0)] m q.2) := by
  have hP := hW.1.2
  unfold r_X0_goesAsTold r_X0_goesAsTold_l2
  rw [tot_bdS]
  refine tot_for (fun k (t : Int32 × Mem) => t.1 = nI k ∧ Fr [(33, 0), (35, 0)] m t.2 ∧ ∀ a, a < k → m 36 0 a = -1 ∨ nxt w r a = m 36 0 a) (wP w) ?_ ?_ 0 _ (Nat.zero_le _) ⟨rfl, Fr.rf, fun a ha => absurd ha (Nat.not_lt_zero a)⟩
  · rintro k ⟨x2, m1⟩ hk ⟨e1, hF, e2⟩
    dsimp only at e1 hF e2 ⊢
    subst e1
    have hF' : Fj [(33, 0), (35, 0)] [] m m1 := hF.j
    have hL1 : CL w m1 := hL.fj hF' (by decide) (by simp)
    have ext : (m 36 0 k = -1 ∨ nxt w r k = m 36 0 k) → ∀ a, a < k + 1 → m 36 0 a = -1 ∨ nxt w r a = m 36 0 a := fun h a ha => by
      by_cases hak : a = k
      · rw [hak]; exact h
      · exact e2 a (by omega)
    unfold r_X0_goesAsTold_b2 r_X0_goesAsTold_j43_c2
    rw [hL1.1, hW.1.1, if_neg (nI_ge hk (by omega)), if_pos (inb_nI (by omega) (by omega)), clamp_nI (by omega), hF 36 0 (by decide)]
    by_cases h1 : m 36 0 k = -1
    · rw [if_pos h1]
      exact tot_some.mpr ⟨(nI_succ k).symm, hF, ext (Or.inl h1)⟩
    · rw [if_neg h1, tot_bd2]
      refine (goesOn_tot hW hL1 (hC.fj hF' (by decide) (by simp)) (hS.fj hF' (by decide) (by simp)) hk).mono ?_
      rintro ⟨z, m2⟩ ⟨g1, g2⟩
      dsimp only at g1 g2 ⊢
      by_cases h2 : z = m 36 0 k
      · rw [if_pos h2]
        exact tot_some.mpr ⟨(nI_succ k).symm, hF.tr g2, ext (Or.inr (g1.symm.trans h2))⟩
      · rw [if_neg h2]
        exact tot_some.mpr (tot_some.mpr ⟨(ast_f hk h1 (fun q => h2 (g1.trans q))).symm, hF.tr g2⟩)
  · rintro ⟨x2, m1⟩ ⟨e1, hF, e2⟩
    dsimp only at e1 hF e2 ⊢
    subst e1
    unfold r_X0_goesAsTold_b2
    rw [hF 3 0 (by decide), hL.1, hW.1.1, if_pos (nI_le (Nat.le_refl _) (by omega)), tot_some]
    exact tot_some.mpr ⟨(ast_t e2).symm, hF⟩
/-- the reference's lines and the class's book are one -/
def Bks (w : Wd) (b : Nat → Int32) (k : Nat) (m : Mem) : Prop := k ≤ 12 ∧ m 12 0 35 = nI k ∧ (∀ j, j < k → ∃ a c, a < wP w ∧ c < wP w ∧ m 77 j 0 = nI a ∧ m 77 j 1 = nI c ∧ b a = nI c) ∧ ∀ a, a < 12 → b a = -1 ∨ ∃ j, j < k ∧ m 77 j 0 = nI a
theorem Bks.fj {K J : List (Nat × Nat)} {w : Wd} {b : Nat → Int32} {k : Nat} {m m' : Mem} (h : Bks w b k m) (hF : Fj K J m m') (hK : ∀ q ∈ K, ¬ q.1 = 12 ∧ ¬ q.1 = 77) (hJ : ∀ q ∈ J, ¬ q = (12, 35) ∧ ¬ q.1 = 77) : Bks w b k m' := by
  have h77 : ∀ j, m' 77 j = m 77 j := fun j => hF.rw' 77 j (fun q hq e => (hK q hq).2 (by rw [e])) (fun q hq e => (hJ q hq).2 e)
  have h35 : m' 12 0 35 = m 12 0 35 := hF 12 0 35 (fun hq => (hK _ hq).1 rfl) (fun hq => (hJ _ hq).1 rfl)
  obtain ⟨h1, h2, h3, h4⟩ := h
  refine ⟨h1, by rw [h35]; exact h2, fun j hj => by rw [h77]; exact h3 j hj, fun a ha => ?_⟩
  rcases h4 a ha with q | ⟨j, hj, e⟩
  · exact Or.inl q
  · exact Or.inr ⟨j, hj, by rw [h77]; exact e⟩
theorem isForgotten_m {m : Mem} {b : Nat → Int32} {s k : Nat} (hW : WF (mW m)) (hB : Bks (mW m) b k m) : Tot (r_X12_isForgotten (nI s) m) (fun q => q.1 = ast (mW m) b (silQ (m 60 0) s (12 * wN (mW m))) ∧ Er (q.2 60 1) (silQ (m 60 0) s (12 * wN (mW m))) ∧ Fr [(55, 0), (56, 0), (60, 1)] m q.2) := by
  have hP := hW.1.2
  unfold r_X12_isForgotten
  rw [tot_bd1]
  refine (silences_m hW).mono ?_
  rintro m1 ⟨g1, g2⟩
  have fW1 : mW m1 = mW m := mW_fj (J := []) g2.j (by decide) (by simp)
  unfold r_X12_isForgotten_l7
  rw [tot_bdS]
  refine tot_for (fun j (t : Int32 × Mem) => t.1 = nI j ∧ Fr [(55, 0), (56, 0)] m1 t.2 ∧ ∀ i, i < j → ∀ a, m 77 i 0 = nI a → a < wP (mW m) → nxt (mW m) (silQ (m 60 0) s (12 * wN (mW m))) a = b a) k ?_ ?_ 0 _ (Nat.zero_le _) ⟨rfl, Fr.rf, fun i hi => absurd hi (Nat.not_lt_zero i)⟩
  · rintro j ⟨x2, m2⟩ hj ⟨e1, hF, e2⟩
    dsimp only at e1 hF e2 ⊢
    subst e1
    obtain ⟨a, c, ha, hc, l1, l2, l3⟩ := hB.2.2.1 j hj
    have hk12 := hB.1
    have f77 : m2 77 j = m 77 j := (hF 77 j (by simp)).trans (g2 77 j (by simp))
    have f60 : m2 60 1 = m1 60 1 := hF 60 1 (by decide)
    have fW2 : mW m2 = mW m := (mW_fj (J := []) hF.j (by decide) (by simp)).trans fW1
    unfold r_X12_isForgotten_b7
    rw [hF 12 0 (by decide), g2 12 0 (by decide), hB.2.1, if_neg (nI_ge hj (by omega)), if_pos (inb_nI (by omega) (by omega)), clamp_nI (by omega), f77, l1, tot_bd2]
    refine (nextOf_tot (m := m2) (i := 1) (a := a) (by rw [fW2]; exact hW) (by omega)).mono ?_
    rintro ⟨z, m3⟩ ⟨i1, i2⟩
    dsimp only at i1 i2 ⊢
    rw [fW2, f60, nxt_er hW g1 (by omega)] at i1
    have f773 : m3 77 j 1 = nI c := by
      rw [i2 77 j (by simp), f77]
      exact l2
    simp only [f773]
    have hF3 : Fr [(55, 0), (56, 0)] m1 m3 := hF.tr i2
    by_cases hz : z = nI c
    · rw [if_pos hz]
      refine tot_some.mpr ⟨(nI_succ j).symm, hF3, fun i hi a9 h9 ha9 => ?_⟩
      by_cases hij : i = j
      · rw [hij, l1] at h9
        have : a = a9 := (nI_eq (by omega) (by omega)).mp h9
        rw [← this, ← i1, hz, l3]
      · exact e2 i (by omega) a9 h9 ha9
    · rw [if_neg hz]
      refine tot_some.mpr (tot_some.mpr ⟨?_, by show Er (m3 60 1) _; rw [hF3 60 1 (by decide)]; exact g1, (g2.mono (by simp)).tr (hF3.mono (by simp))⟩)
      exact (ast_f ha (by rw [l3]; exact m1_ne (by omega)) (fun q => hz (i1.trans (q.trans l3)))).symm
  · rintro ⟨x2, m2⟩ ⟨e1, hF, e2⟩
    dsimp only at e1 hF e2 ⊢
    subst e1
    have hk12 := hB.1
    unfold r_X12_isForgotten_b7
    rw [hF 12 0 (by decide), g2 12 0 (by decide), hB.2.1, if_pos (nI_le (Nat.le_refl _) (by omega)), tot_some]
    refine tot_some.mpr ⟨(ast_t (fun a ha => ?_)).symm, by show Er (m2 60 1) _; rw [hF 60 1 (by decide)]; exact g1, (g2.mono (by simp)).tr (hF.mono (by simp))⟩
    rcases hB.2.2.2 a (by omega) with q | ⟨j, hj, e⟩
    · exact Or.inl q
    · exact Or.inr (e2 j hj a e ha)
theorem shl_pow : ∀ n, n < 13 → (1 : Int32) <<< (nI n &&& 31) = nI (2 ^ n) := by decide +kernel
/-- how many sets, the first, what is in all -/
def whr (ok : Nat → Bool) : Nat → Nat × Int32 × Int32
  | 0 => (0, -1, 0)
  | s + 1 => if ok s = true then ((whr ok s).1 + 1, if (whr ok s).1 = 0 then nI s else (whr ok s).2.1, if (whr ok s).1 = 0 then nI s else (whr ok s).2.2 &&& nI s) else whr ok s
theorem whr_le (ok : Nat → Bool) : ∀ s, (whr ok s).1 ≤ s
  | 0 => Nat.le_refl 0
  | s + 1 => by
    have := whr_le ok s
    unfold whr
    split
    · show (whr ok s).1 + 1 ≤ s + 1
      omega
    · omega
noncomputable abbrev okS (w : Wd) (b : Nat → Int32) (r : Rw) (s : Nat) : Bool := ast w b (silQ r s (12 * wN w))
abbrev KW : List (Nat × Nat) := [(33, 0), (35, 0), (7, 1), (20, 1), (21, 1), (22, 1), (23, 1), (24, 1)]
set_option maxHeartbeats 1000000 in
theorem sets_c {w : Wd} {r : Rw} {m : Mem} (hW : WF w) (hL : CL w m) (hC : CW w m) (hS : StC w r m 0) : Tot (r_X0_findSets 0 0 m) (fun m' => m' 0 0 2 = nI (whr (okS w (m 36 0) r) (2 ^ wN w)).1 ∧ m' 0 0 3 = (whr (okS w (m 36 0) r) (2 ^ wN w)).2.1 ∧ m' 0 0 4 = (whr (okS w (m 36 0) r) (2 ^ wN w)).2.2 ∧ Fj KW [(0, 2), (0, 3), (0, 4)] m m') := by
  have hN := hW.2.2.1
  have hp64 : 2 ^ wN w ≤ 2 ^ 6 := Nat.pow_le_pow_right (by decide) hN.2
  unfold r_X0_findSets r_X0_findSets_l17
  rw [tot_bd1]
  refine tot_for (fun k (t : Int32 × Mem) => t.1 = nI k ∧ t.2 0 0 2 = nI (whr (okS w (m 36 0) r) k).1 ∧ t.2 0 0 3 = (whr (okS w (m 36 0) r) k).2.1 ∧ t.2 0 0 4 = (whr (okS w (m 36 0) r) k).2.2 ∧ Fj KW [(0, 2), (0, 3), (0, 4)] m t.2) (2 ^ wN w) ?_ ?_ 0 _ (Nat.zero_le _) ⟨rfl, ?_, ?_, ?_, ?_⟩
  · rintro k ⟨x3, m1⟩ hk ⟨e1, e2, e3, e4, hF⟩
    dsimp only at e1 e2 e3 e4 hF ⊢
    subst e1
    have hL1 : CL w m1 := hL.fj hF (by decide) (by decide)
    have hC1 : CW w m1 := hC.fj hF (by decide) (by decide)
    have hS1 : StC w r m1 0 := hS.fj hF (by decide) (by decide)
    have hle := whr_le (okS w (m 36 0) r) k
    unfold r_X0_findSets_b17
    rw [hL1.2.2.1, hN.1, shl_pow _ (by omega), if_neg (nI_ge hk (by omega)), tot_bd1]
    refine (forgotten_c hW hS1).mono ?_
    rintro m2 ⟨g1, g2⟩
    have hF2 : Fj KS [] m1 m2 := g2.j
    rw [tot_bd2]
    refine (asTold_c hW (hL1.fj hF2 (by decide) (by simp)) (hC1.fj hF2 (by decide) (by simp)) g1).mono ?_
    rintro ⟨z, m3⟩ ⟨i1, i2⟩
    dsimp only at i1 i2 ⊢
    have h36 : m2 36 0 = m 36 0 := (g2 36 0 (by decide)).trans (hF.rw' 36 0 (by decide) (by decide))
    rw [h36] at i1
    have h0 : m3 0 0 = m1 0 0 := (i2 0 0 (by decide)).trans (g2 0 0 (by decide))
    have hF3 : Fj KW [(0, 2), (0, 3), (0, 4)] m m3 := (hF.tr (hF2.mono (by simp) (by simp))).tr ((i2.mono (by simp)).j)
    unfold r_X0_findSets_j60_c17 r_X0_findSets_j81_c17 r_X0_findSets_j94_c17
    by_cases hz : z = true
    · have hok : okS w (m 36 0) r k = true := i1.symm.trans hz
      have st : whr (okS w (m 36 0) r) (k + 1) = ((whr (okS w (m 36 0) r) k).1 + 1, if (whr (okS w (m 36 0) r) k).1 = 0 then nI k else (whr (okS w (m 36 0) r) k).2.1, if (whr (okS w (m 36 0) r) k).1 = 0 then nI k else (whr (okS w (m 36 0) r) k).2.2 &&& nI k) := if_pos hok
      rw [if_pos hz, st]
      have f9 : ∀ (x y : Int32) (n : Nat), x = (if (whr (okS w (m 36 0) r) k).1 = 0 then nI k else (whr (okS w (m 36 0) r) k).2.1) → y = (if (whr (okS w (m 36 0) r) k).1 = 0 then nI k else (whr (okS w (m 36 0) r) k).2.2 &&& nI k) → n = (whr (okS w (m 36 0) r) k).1 → Tot (some (Sum.inl (nI k + 1, wr (wr (wr m3 0 0 3 x) 0 0 4 y) 0 0 2 (nI n + 1))) : Option ((Int32 × Mem) ⊕ Mem)) (Sum.elim (fun t : Int32 × Mem => t.1 = nI (k + 1) ∧ t.2 0 0 2 = nI ((whr (okS w (m 36 0) r) k).1 + 1) ∧ t.2 0 0 3 = (if (whr (okS w (m 36 0) r) k).1 = 0 then nI k else (whr (okS w (m 36 0) r) k).2.1) ∧ t.2 0 0 4 = (if (whr (okS w (m 36 0) r) k).1 = 0 then nI k else (whr (okS w (m 36 0) r) k).2.2 &&& nI k) ∧ Fj KW [(0, 2), (0, 3), (0, 4)] m t.2) (fun x => Tot (r_X0_findSets_e100_h17 x) (fun m' => m' 0 0 2 = nI (whr (okS w (m 36 0) r) (2 ^ wN w)).1 ∧ m' 0 0 3 = (whr (okS w (m 36 0) r) (2 ^ wN w)).2.1 ∧ m' 0 0 4 = (whr (okS w (m 36 0) r) (2 ^ wN w)).2.2 ∧ Fj KW [(0, 2), (0, 3), (0, 4)] m m'))) := by
        intro x y n hx hy hn
        rw [← hx, ← hy, ← hn]
        refine tot_some.mpr ⟨(nI_succ k).symm, ?_, ?_, ?_, ((hF3.wrJ (by simp) _ _).wrJ (by simp) _ _).wrJ (by simp) _ _⟩
        · show wr (wr (wr m3 0 0 3 x) 0 0 4 y) 0 0 2 (nI n + 1) 0 0 2 = _
          rw [wr_eq, nI_succ]
        · show wr (wr (wr m3 0 0 3 x) 0 0 4 y) 0 0 2 (nI n + 1) 0 0 3 = _
          rw [wr_j (by decide), wr_j (by decide), wr_eq]
        · show wr (wr (wr m3 0 0 3 x) 0 0 4 y) 0 0 2 (nI n + 1) 0 0 4 = _
          rw [wr_j (by decide), wr_eq]
      have w2 : ∀ x : Int32, wr m3 0 0 3 x 0 0 2 = nI (whr (okS w (m 36 0) r) k).1 := fun x => by rw [wr_j (by decide), h0, e2]
      have w4 : ∀ x : Int32, wr m3 0 0 3 x 0 0 4 = (whr (okS w (m 36 0) r) k).2.2 := fun x => by rw [wr_j (by decide), h0, e4]
      have v2 : m3 0 0 2 = nI (whr (okS w (m 36 0) r) k).1 := by rw [h0, e2]
      have v3 : m3 0 0 3 = (whr (okS w (m 36 0) r) k).2.1 := by rw [h0, e3]
      have v4 : m3 0 0 4 = (whr (okS w (m 36 0) r) k).2.2 := by rw [h0, e4]
      simp only [w2, w4, v2, v3]
      by_cases hq : (whr (okS w (m 36 0) r) k).1 = 0
      · have hq' : nI (whr (okS w (m 36 0) r) k).1 = 0 := by rw [hq]; rfl
        rw [if_pos hq', if_pos hq']
        exact f9 _ _ _ (by rw [if_pos hq]) (by rw [if_pos hq]) rfl
      · have hq' : ¬ nI (whr (okS w (m 36 0) r) k).1 = 0 := nI_ne0 (by omega) (by omega)
        rw [if_neg hq', if_neg hq']
        exact f9 _ _ _ (by rw [if_neg hq]) (by rw [if_neg hq, ← v4]) rfl
    · have hok : ¬ okS w (m 36 0) r k = true := fun q => hz (i1.trans q)
      have st : whr (okS w (m 36 0) r) (k + 1) = whr (okS w (m 36 0) r) k := if_neg hok
      rw [if_neg hz, st]
      exact tot_some.mpr ⟨(nI_succ k).symm, by show m3 0 0 2 = _; rw [h0, e2], by show m3 0 0 3 = _; rw [h0, e3], by show m3 0 0 4 = _; rw [h0, e4], hF3⟩
  · rintro ⟨x3, m1⟩ ⟨e1, e2, e3, e4, hF⟩
    dsimp only at e1 e2 e3 e4 hF ⊢
    subst e1
    have hL1 : CL w m1 := hL.fj hF (by decide) (by decide)
    unfold r_X0_findSets_b17
    rw [hL1.2.2.1, hN.1, shl_pow _ (by omega), if_pos (nI_le (Nat.le_refl _) (by omega)), tot_some]
    exact tot_some.mpr ⟨e2, e3, e4, hF⟩
  · show wr (wr (wr m 0 0 2 0) 0 0 3 (-1)) 0 0 4 0 0 0 2 = 0
    rw [wr_j (by decide), wr_j (by decide), wr_eq]
  · show wr (wr (wr m 0 0 2 0) 0 0 3 (-1)) 0 0 4 0 0 0 3 = -1
    rw [wr_j (by decide), wr_eq]
  · show wr (wr (wr m 0 0 2 0) 0 0 3 (-1)) 0 0 4 0 0 0 4 = 0
    exact wr_eq _ _ _ _ _
  · exact ((Fj.rf.wrJ (by simp) _ _).wrJ (by simp) _ _).wrJ (by simp) _ _
abbrev KF : List (Nat × Nat) := [(55, 0), (56, 0), (60, 1)]
set_option maxHeartbeats 1000000 in
theorem who_m {m : Mem} {b : Nat → Int32} {n : Nat} {x : Int32} (hW : WF (mW m)) (hB : Bks (mW m) b n m) : Tot (loopO (fun s => r_X12_who_b49 x s.1 s.2.1 s.2.2.1 s.2.2.2.1 s.2.2.2.2) (0, -1, nI (2 ^ wN (mW m)) - 1, 0, m)) (fun q => q.1 = nI (whr (okS (mW m) b (m 60 0)) (2 ^ wN (mW m))).1 ∧ q.2.1 = (whr (okS (mW m) b (m 60 0)) (2 ^ wN (mW m))).2.1 ∧ (¬ (whr (okS (mW m) b (m 60 0)) (2 ^ wN (mW m))).1 = 0 → q.2.2.1 = (whr (okS (mW m) b (m 60 0)) (2 ^ wN (mW m))).2.2) ∧ Fr KF m q.2.2.2) := by
  have hN := hW.2.2.1
  have hp64 : 2 ^ wN (mW m) ≤ 2 ^ 6 := Nat.pow_le_pow_right (by decide) hN.2
  have hp1 : 1 ≤ 2 ^ wN (mW m) := Nat.one_le_two_pow
  generalize hok : okS (mW m) b (m 60 0) = ok
  refine tot_for (fun k (t : Int32 × Int32 × Int32 × Int32 × Mem) => t.1 = nI (whr ok k).1 ∧ t.2.1 = (whr ok k).2.1 ∧ ((whr ok k).1 = 0 → t.2.2.1 = nI (2 ^ wN (mW m) - 1)) ∧ (¬ (whr ok k).1 = 0 → t.2.2.1 = (whr ok k).2.2) ∧ t.2.2.2.1 = nI k ∧ Fr KF m t.2.2.2.2) (2 ^ wN (mW m)) ?_ ?_ 0 _ (Nat.zero_le _) ⟨rfl, rfl, fun _ => (nI_sub (b := 1) hp1), fun q => absurd rfl q, rfl, Fr.rf⟩
  · rintro k ⟨x2, x3, x4, x5, m1⟩ hk ⟨e1, e2, e3, e4, e5, hF⟩
    dsimp only at e1 e2 e3 e4 e5 hF ⊢
    subst e1 e2 e5
    have hle := whr_le ok k
    have fW : mW m1 = mW m := mW_fj (J := []) hF.j (by decide) (by simp)
    have f60 : m1 60 0 = m 60 0 := hF 60 0 (by decide)
    have hB1 : Bks (mW m1) b n m1 := by rw [fW]; exact hB.fj (J := []) hF.j (by decide) (by simp)
    unfold r_X12_who_b49
    rw [hF 52 0 (by decide), show m 52 0 2 = nI (wN (mW m)) from hN.1, shl_pow _ (by omega), if_neg (nI_ge hk (by omega)), tot_bd2]
    refine (isForgotten_m (by rw [fW]; exact hW) hB1).mono ?_
    rintro ⟨z, m2⟩ ⟨i1, -, i2⟩
    dsimp only at i1 i2 ⊢
    rw [fW, f60] at i1
    have i1' : z = ok k := by rw [← hok]; exact i1
    unfold r_X12_who_j84_c49 r_X12_who_j95_c49
    by_cases hz : z = true
    · have st : whr ok (k + 1) = ((whr ok k).1 + 1, if (whr ok k).1 = 0 then nI k else (whr ok k).2.1, if (whr ok k).1 = 0 then nI k else (whr ok k).2.2 &&& nI k) := if_pos (i1'.symm.trans hz)
      rw [if_pos hz, st]
      by_cases hq : (whr ok k).1 = 0
      · rw [if_pos (show nI (whr ok k).1 = 0 by rw [hq]; rfl)]
        refine tot_some.mpr ⟨(nI_succ _).symm, by rw [if_pos hq], fun q => absurd q (by show ¬ (whr ok k).1 + 1 = 0; omega), fun _ => ?_, (nI_succ k).symm, hF.tr i2⟩
        show x4 &&& nI k = (if (whr ok k).1 = 0 then nI k else (whr ok k).2.2 &&& nI k)
        rw [if_pos hq, e3 hq, fa_and, Nat.and_comm, Nat.and_two_pow_sub_one_eq_mod, Nat.mod_eq_of_lt hk]
      · rw [if_neg (show ¬ nI (whr ok k).1 = 0 from nI_ne0 (by omega) (by omega))]
        refine tot_some.mpr ⟨(nI_succ _).symm, by rw [if_neg hq], fun q => absurd q (by show ¬ (whr ok k).1 + 1 = 0; omega), fun _ => ?_, (nI_succ k).symm, hF.tr i2⟩
        show x4 &&& nI k = (if (whr ok k).1 = 0 then nI k else (whr ok k).2.2 &&& nI k)
        rw [if_neg hq, e4 hq]
    · have st : whr ok (k + 1) = whr ok k := if_neg (fun q => hz (i1'.trans q))
      rw [if_neg hz, st]
      exact tot_some.mpr ⟨rfl, rfl, e3, e4, (nI_succ k).symm, hF.tr i2⟩
  · rintro ⟨x2, x3, x4, x5, m1⟩ ⟨e1, e2, e3, e4, e5, hF⟩
    dsimp only at e1 e2 e3 e4 e5 hF ⊢
    subst e5
    unfold r_X12_who_b49
    rw [hF 52 0 (by decide), show m 52 0 2 = nI (wN (mW m)) from hN.1, shl_pow _ (by omega), if_pos (nI_le (Nat.le_refl _) (by omega)), tot_some]
    exact ⟨e1, e2, e4, hF⟩
theorem whr_0 (ok : Nat → Bool) : ∀ s, (whr ok s).1 = 0 → (whr ok s).2.2 = 0
  | 0, _ => rfl
  | s + 1, h => by
    unfold whr at h ⊢
    by_cases hk : ok s = true
    · rw [if_pos hk] at h
      exact absurd h (by show ¬ (whr ok s).1 + 1 = 0; omega)
    · rw [if_neg hk] at h ⊢
      exact whr_0 ok s h
theorem pair_who {m : Mem} (hI : Inv m) (x : Int32) : Pair (fun m => r_L_who x m) (fun m => r_X12_who x m) m := by
  obtain ⟨hW, hR, hL, hC, hS⟩ := hI.1
  obtain ⟨bk, b1, b2, b3, b4, b5⟩ := hI.2.2.2.2.1
  have hB : Bks (mW m) (m 36 0) bk m := ⟨b1, b3, b4, b5⟩
  have hN := hW.2.2.1
  by_cases hx : 0 ≤ x ∧ x ≤ 2
  case neg =>
    refine Pair.b1 (c := 1) hI rfl (by decide) ?_ (fun m3 e h3 => ?_)
    · unfold r_X11_who
      rw [thr_r (needRange_f hx)]
    · unfold r_X12_who r_X12_who_j20
      rw [if_neg (by rw [in_f hx]; decide), bd2_s (bad_11 (by decide)), if_pos rfl]
  obtain ⟨k, hk, rfl⟩ := in_le (n := 2) (by decide) hx
  have hle := whr_le (okS (mW m) (m 36 0) (m 60 0)) (2 ^ wN (mW m))
  have hp64 : 2 ^ wN (mW m) ≤ 2 ^ 6 := Nat.pow_le_pow_right (by decide) hN.2
  refine Pair.ok (z := if k = 0 then nI (whr (okS (mW m) (m 36 0) (m 60 0)) (2 ^ wN (mW m))).1 else if k = 1 then (whr (okS (mW m) (m 36 0) (m 60 0)) (2 ^ wN (mW m))).2.1 else (whr (okS (mW m) (m 36 0) (m 60 0)) (2 ^ wN (mW m))).2.2) KW [(0, 2), (0, 3), (0, 4)] KF [(12, 0)] hI ?_ (fun m3 _ hF => ?_) rfl rfl rfl rfl rfl rfl
  · unfold r_X11_who
    rw [thr_l (needRange_t hx), tot_bd1]
    refine (sets_c hW hL hC hS).mono ?_
    rintro m1 ⟨h1, h2, h3, h4⟩
    match k, hk with
    | 0, _ =>
      rw [if_pos (by decide), if_pos rfl, h1]
      exact tot_some.mpr ⟨rfl, h4⟩
    | 1, _ =>
      rw [if_neg (by decide), if_pos (by decide), if_neg (by decide), if_pos rfl, h2]
      exact tot_some.mpr ⟨rfl, h4⟩
    | 2, _ =>
      rw [if_neg (by decide), if_neg (by decide), if_neg (by decide), if_neg (by decide), h3]
      exact tot_some.mpr ⟨rfl, h4⟩
  · obtain ⟨e, h60⟩ := pre3 hF (by decide) (by decide) (by decide) (by decide)
    have hW3 : WF (mW (wr m3 12 0 0 0)) := by rw [e]; exact hW
    have hB3 : Bks (mW (wr m3 12 0 0 0)) (m 36 0) bk (wr m3 12 0 0 0) := by
      rw [e]
      exact (hB.fj hF (by decide) (by decide)).fj (th_fj m3 0) (by simp) (by decide)
    have h52 : wr m3 12 0 0 0 52 0 2 = nI (wN (mW m)) := by rw [← e]; exact hW3.2.2.1.1
    unfold r_X12_who r_X12_who_j20 r_X12_who_l49
    rw [if_pos (in_t hx), bd2_s bad_0, if_neg (by decide), h52, shl_pow _ (by omega), tot_bd1]
    have hm := who_m (x := nI k) hW3 hB3
    rw [e, h60] at hm
    refine hm.mono ?_
    rintro ⟨q1, q2, q3, m4⟩ ⟨g1, g2, g3, g4⟩
    dsimp only at g1 g2 g3 g4 ⊢
    have z4 : m4 12 0 0 = 0 := by rw [g4 12 0 (by decide)]; exact th_z m3 0
    have hF4 : Fj KF [(12, 0)] m3 m4 := ((th_fj m3 0).mono (by simp) (by simp)).tr g4.j
    unfold r_X12_who_e101_h49
    match k, hk with
    | 0, _ =>
      rw [if_pos (by decide), if_pos rfl]
      exact tot_some.mpr ⟨g1, z4, hF4⟩
    | 1, _ =>
      rw [if_neg (by decide), if_pos (by decide), if_neg (by decide), if_pos rfl]
      exact tot_some.mpr ⟨g2, z4, hF4⟩
    | 2, _ =>
      rw [if_neg (show ¬ nI 2 = (0 : Int32) by decide), if_neg (show ¬ nI 2 = (1 : Int32) by decide), if_neg (show ¬ 2 = 0 by decide), if_neg (show ¬ 2 = 1 by decide), g1]
      by_cases h0 : (whr (okS (mW m) (m 36 0) (m 60 0)) (2 ^ wN (mW m))).1 = 0
      · rw [if_pos (by rw [h0]; rfl), whr_0 _ _ h0]
        exact tot_some.mpr ⟨rfl, z4, hF4⟩
      · rw [if_neg (nI_ne0 (by omega) (by omega))]
        exact tot_some.mpr ⟨g3 h0, z4, hF4⟩
