/-! ===== two leaders: where neither would say otherwise ===== -/
def ldS (sd : Nat → Bool) (R : Nat → Nat → Bool) (H : Nat → Nat → Int32) (c1 : Nat) (s : Int32 × Int32 × Int32) : Nat → Int32 × Int32 × Int32
  | 0 => s
  | k + 1 => if sd c1 = true ∧ sd k = true ∧ R c1 k = true then ((ldS sd R H c1 s k).1 + 1, if (ldS sd R H c1 s k).1 = 0 then 100 * nI c1 + nI k else (ldS sd R H c1 s k).2.1, if (ldS sd R H c1 s k).1 = 0 then H c1 k + H k c1 else (ldS sd R H c1 s k).2.2) else ldS sd R H c1 s k
def ldO (sd : Nat → Bool) (R : Nat → Nat → Bool) (H : Nat → Nat → Int32) (P : Nat) : Nat → Int32 × Int32 × Int32
  | 0 => (0, -1, 0)
  | c + 1 => ldS sd R H c (ldO sd R H P c) P
noncomputable abbrev ldz (w : Wd) (r : Rw) (x : Int32) : Int32 × Int32 × Int32 := ldO (sdd w) (isr (wP w) (sdd w) (hbv w r x)) (hbv w r x) (wP w) (wP w)
abbrev JR : List (Nat × Nat) := [(0, 7), (0, 8), (0, 9)]
set_option maxHeartbeats 1000000 in
theorem rests_c {w : Wd} {r : Rw} {m : Mem} {x : Int32} (hW : WF w) (hL : CL w m) (hC : CW w m) (hS : StC w r m 0) : Tot (r_X0_findRests 0 x m) (fun m' => m' 0 0 7 = (ldz w r x).1 ∧ m' 0 0 8 = (ldz w r x).2.1 ∧ m' 0 0 9 = (ldz w r x).2.2 ∧ Fj KR JR m m') := by
  have hP := hW.1
  have hF0 : Fj KR JR m (wr (wr (wr m 0 0 7 0) 0 0 8 (-1)) 0 0 9 0) := ((Fj.rf.wrJ (by simp) _ _).wrJ (by simp) _ _).wrJ (by simp) _ _
  have v7 : wr (wr (wr m 0 0 7 0) 0 0 8 (-1)) 0 0 9 0 0 0 7 = 0 := by rw [wr_j (by decide), wr_j (by decide), wr_eq]
  have v8 : wr (wr (wr m 0 0 7 0) 0 0 8 (-1)) 0 0 9 0 0 0 8 = -1 := by rw [wr_j (by decide), wr_eq]
  have v9 : wr (wr (wr m 0 0 7 0) 0 0 8 (-1)) 0 0 9 0 0 0 9 = 0 := wr_eq _ _ _ _ _
  unfold r_X0_findRests
  generalize wr (wr (wr m 0 0 7 0) 0 0 8 (-1)) 0 0 9 0 = ma at hF0 v7 v8 v9 ⊢
  rw [tot_bd1]
  refine (sayings_c (x := x) hW (hL.fj hF0 (by decide) (by decide)) (hC.fj hF0 (by decide) (by decide)) (hS.fj hF0 (by decide) (by decide))).mono ?_
  rintro m1 ⟨hsay, hF1⟩
  have hFm1 : Fj KR JR m m1 := hF0.tr (hF1.mono (by simp) (by simp))
  have h0 : m1 0 0 = ma 0 0 := hF1.rw' 0 0 (by decide) (by simp)
  generalize hR : isr (wP w) (sdd w) (hbv w r x) = R
  have hz : ldz w r x = ldO (sdd w) R (hbv w r x) (wP w) (wP w) := by rw [← hR]
  rw [hz]
  generalize hH : hbv w r x = H
  unfold r_X0_findRests_l23
  rw [tot_bd1]
  refine tot_for (fun k (t : Int32 × Mem) => t.1 = nI k ∧ t.2 44 0 = m1 44 0 ∧ t.2 0 0 7 = (ldO (sdd w) R H (wP w) k).1 ∧ t.2 0 0 8 = (ldO (sdd w) R H (wP w) k).2.1 ∧ t.2 0 0 9 = (ldO (sdd w) R H (wP w) k).2.2 ∧ Fj KR JR m t.2) (wP w) ?_ ?_ 0 _ (Nat.zero_le _) ⟨rfl, rfl, by show m1 0 0 7 = 0; rw [h0]; exact v7, by show m1 0 0 8 = -1; rw [h0]; exact v8, by show m1 0 0 9 = 0; rw [h0]; exact v9, hFm1⟩
  · rintro k ⟨x3, m2⟩ hk ⟨e1, e44, e7, e8, e9, hF⟩
    dsimp only at e1 e44 e7 e8 e9 hF ⊢
    subst e1
    unfold r_X0_findRests_b23 r_X0_findRests_l37_c23
    rw [(hL.fj hF (by decide) (by decide)).1, hP.1, if_neg (nI_ge hk (by omega)), tot_bd1]
    refine tot_for (fun l (t : Int32 × Mem) => t.1 = nI l ∧ t.2 44 0 = m1 44 0 ∧ t.2 0 0 7 = (ldS (sdd w) R H k (ldO (sdd w) R H (wP w) k) l).1 ∧ t.2 0 0 8 = (ldS (sdd w) R H k (ldO (sdd w) R H (wP w) k) l).2.1 ∧ t.2 0 0 9 = (ldS (sdd w) R H k (ldO (sdd w) R H (wP w) k) l).2.2 ∧ Fj KR JR m t.2) (wP w) ?_ ?_ 0 _ (Nat.zero_le _) ⟨rfl, e44, e7, e8, e9, hF⟩
    · rintro l ⟨x4, m3⟩ hl ⟨f1, f44, f7, f8, f9, hF3⟩
      dsimp only at f1 f44 f7 f8 f9 hF3 ⊢
      subst f1
      have hL3 : CL w m3 := hL.fj hF3 (by decide) (by decide)
      have hs3 : ∀ c1 c2, c1 < wP w → c2 < wP w → sdd w c1 = true → sdd w c2 = true → m3 44 0 (12 * c1 + c2) = ldt w r x c1 c2 := fun c1 c2 a1 a2 a3 a4 => by
        rw [f44]
        exact hsay c1 c2 a1 a2 a3 a4
      have st : ldS (sdd w) R H k (ldO (sdd w) R H (wP w) k) (l + 1) = if sdd w k = true ∧ sdd w l = true ∧ R k l = true then ((ldS (sdd w) R H k (ldO (sdd w) R H (wP w) k) l).1 + 1, if (ldS (sdd w) R H k (ldO (sdd w) R H (wP w) k) l).1 = 0 then 100 * nI k + nI l else (ldS (sdd w) R H k (ldO (sdd w) R H (wP w) k) l).2.1, if (ldS (sdd w) R H k (ldO (sdd w) R H (wP w) k) l).1 = 0 then H k l + H l k else (ldS (sdd w) R H k (ldO (sdd w) R H (wP w) k) l).2.2) else ldS (sdd w) R H k (ldO (sdd w) R H (wP w) k) l := rfl
      generalize ldS (sdd w) R H k (ldO (sdd w) R H (wP w) k) l = T at f7 f8 f9 st
      rw [st]
      unfold r_X0_findRests_b37_c23 r_X0_findRests_j115_c37 r_X0_findRests_j125_c37
      rw [hL3.1, hP.1, if_neg (nI_ge hl (by omega)), bd1_s (said_c hW hL3 (by omega))]
      by_cases s1 : sdd w k = true
      · rw [if_pos s1, bd1_s (said_c hW hL3 (by omega))]
        by_cases s2 : sdd w l = true
        · have hr : r_X0_isRest (nI k) (nI l) m3 = some (R k l) := by
            rw [← hR]
            exact rest_c hW hL3 hs3 hk hl s1 s2
          rw [if_pos s2, bd1_s hr]
          by_cases s3 : R k l = true
          · rw [if_pos s3, f7, if_pos (show sdd w k = true ∧ sdd w l = true ∧ R k l = true from ⟨s1, s2, s3⟩)]
            by_cases h70 : T.1 = 0
            · have hg : ∀ v, wr m3 0 0 8 v 44 0 (12 * k + l) = ldt w r x k l := fun v => by
                rw [wr_k (by decide)]
                exact hs3 k l hk hl s1 s2
              rw [if_pos h70, bd1_s (gain1_c (by omega) (by omega) (hg _)), bd1_s (gain0_c (by omega) (by omega) (hg _)), if_pos h70, if_pos h70, hH]
              refine tot_some.mpr ⟨(nI_succ l).symm, ?_, ?_, ?_, ?_, ((hF3.wrJ (by simp) _ _).wrJ (by simp) _ _).wrJ (by simp) _ _⟩
              · funext q
                dsimp only
                rw [wr_k (by decide), wr_k (by decide), wr_k (by decide), f44]
              · dsimp only
                rw [wr_eq, wr_j (by decide), wr_j (by decide), f7]
              · dsimp only
                rw [wr_j (by decide), wr_j (by decide), wr_eq]
              · dsimp only
                rw [wr_j (by decide), wr_eq]
            · rw [if_neg h70, if_neg h70, if_neg h70]
              refine tot_some.mpr ⟨(nI_succ l).symm, ?_, ?_, ?_, ?_, hF3.wrJ (by simp) _ _⟩
              · funext q
                dsimp only
                rw [wr_k (by decide), f44]
              · dsimp only
                rw [wr_eq]
              · dsimp only
                rw [wr_j (by decide), f8]
              · dsimp only
                rw [wr_j (by decide), f9]
          · rw [if_neg s3, if_neg (fun q => s3 q.2.2)]
            exact tot_some.mpr ⟨(nI_succ l).symm, f44, f7, f8, f9, hF3⟩
        · rw [if_neg s2, if_neg (fun q => s2 q.2.1)]
          exact tot_some.mpr ⟨(nI_succ l).symm, f44, f7, f8, f9, hF3⟩
      · rw [if_neg s1, if_neg (fun q => s1 q.1)]
        exact tot_some.mpr ⟨(nI_succ l).symm, f44, f7, f8, f9, hF3⟩
    · rintro ⟨x4, m3⟩ ⟨f1, f44, f7, f8, f9, hF3⟩
      dsimp only at f1 f44 f7 f8 f9 hF3 ⊢
      subst f1
      unfold r_X0_findRests_b37_c23
      rw [(hL.fj hF3 (by decide) (by decide)).1, hP.1, if_pos (nI_le (Nat.le_refl _) (by omega)), tot_some]
      exact tot_some.mpr ⟨(nI_succ k).symm, f44, f7, f8, f9, hF3⟩
  · rintro ⟨x3, m2⟩ ⟨e1, e44, e7, e8, e9, hF⟩
    dsimp only at e1 e44 e7 e8 e9 hF ⊢
    subst e1
    unfold r_X0_findRests_b23
    rw [(hL.fj hF (by decide) (by decide)).1, hP.1, if_pos (nI_le (Nat.le_refl _) (by omega)), tot_some]
    exact tot_some.mpr ⟨e7, e8, e9, hF⟩
abbrev KD : List (Nat × Nat) := [(55, 0), (56, 0)]
theorem led_m {m : Mem} {x : Int32} {c1 c2 : Nat} (hW : WF (mW m)) (h1 : c1 < 12) (h2 : c2 < 12) : Tot (r_X12_ledTo (nI c1) (nI c2) x m) (fun q => q.1 = ldt (mW m) (m 60 0) x c1 c2 ∧ Fr KD m q.2) := by
  have hP := hW.1
  have hD := hW.2.1
  have hN := hW.2.2.1
  have hs := wS_12 hW
  have e52 : ∀ m', Fr KD m m' → m' 52 0 = m 52 0 := fun m' hF => hF 52 0 (by decide)
  have e520 : m 52 0 0 = nI (wP (mW m)) := hP.1
  have e521 : m 52 0 1 = nI (wD (mW m)) := hD.1
  have e522 : m 52 0 2 = nI (wN (mW m)) := hN.1
  have e523 : m 52 0 3 = nI (wS (mW m)) := hW.2.2.2.1.1
  unfold r_X12_ledTo r_X12_ledTo_l9
  rw [tot_bd1]
  refine tot_for (fun k (s : Int32 × Int32 × Int32 × Mem) => s.1 = (bst (fun b => if bw (mW m) (wS (mW m)) b = -1 then none else some (ldd (mW m) (m 60 0) x c1 c2 b)) k).1 ∧ s.2.1 = (bst (fun b => if bw (mW m) (wS (mW m)) b = -1 then none else some (ldd (mW m) (m 60 0) x c1 c2 b)) k).2 ∧ s.2.2.1 = nI k ∧ Fr KD m s.2.2.2) (wP (mW m)) ?_ ?_ 0 _ (Nat.zero_le _) ⟨rfl, rfl, rfl, Fr.rf⟩
  · rintro k ⟨x4, x5, x6, m1⟩ hk ⟨e1, e2, e3, hF⟩
    dsimp only at e1 e2 e3 hF ⊢
    subst e3
    have fW : mW m1 = mW m := mW_fj (J := []) hF.j (by decide) (by simp)
    have h60 : m1 60 0 = m 60 0 := hF 60 0 (by decide)
    have hstep : bst (fun b => if bw (mW m) (wS (mW m)) b = -1 then none else some (ldd (mW m) (m 60 0) x c1 c2 b)) (k + 1) = (match (if bw (mW m) (wS (mW m)) k = -1 then none else some (ldd (mW m) (m 60 0) x c1 c2 k)) with
      | none => bst (fun b => if bw (mW m) (wS (mW m)) b = -1 then none else some (ldd (mW m) (m 60 0) x c1 c2 b)) k
      | some x9 => if x9 ≤ (bst (fun b => if bw (mW m) (wS (mW m)) b = -1 then none else some (ldd (mW m) (m 60 0) x c1 c2 b)) k).2 then bst (fun b => if bw (mW m) (wS (mW m)) b = -1 then none else some (ldd (mW m) (m 60 0) x c1 c2 b)) k else (nI k, x9)) := rfl
    have hbe : r_X12_between (nI (wS (mW m))) (nI k) m1 = some (bw (mW m) (wS (mW m)) k) := by
      rw [btw_eq (D := wD (mW m)) (by rw [e52 m1 hF]; exact e521) hD.2, fW]
    unfold r_X12_ledTo_b9
    rw [e52 m1 hF, e520, e523, if_neg (nI_ge hk (by omega)), bd1_s hbe]
    unfold r_X12_ledTo_j54_c9 r_X12_ledTo_j65_c9 r_X12_ledTo_j115_c9
    by_cases hz : bw (mW m) (wS (mW m)) k = -1
    · rw [if_pos hz]
      rw [if_pos hz] at hstep
      exact tot_some.mpr ⟨by rw [hstep]; exact e1, by rw [hstep]; exact e2, (nI_succ k).symm, hF⟩
    · rw [if_neg hz]
      rw [if_neg hz] at hstep
      dsimp only at hstep
      rw [e52 m1 hF, e523]
      have hgo : ∀ b0 : Int32, b0 = lsb x c1 c2 k → Tot (bd2 (r_X12_drawWith 0 (bw (mW m) (wS (mW m)) k) (nI (wS (mW m))) (nI k) b0 ((2 * x) - b0) 0 m1) fun z9 m8 => (if x5 < z9 then (some (Sum.inl (nI k, z9, nI k + 1, m8)) : Option ((Int32 × Int32 × Int32 × Mem) ⊕ (Int32 × Mem))) else (some (Sum.inl (x4, x5, nI k + 1, m8))))) (Sum.elim (fun s : Int32 × Int32 × Int32 × Mem => s.1 = (bst (fun b => if bw (mW m) (wS (mW m)) b = -1 then none else some (ldd (mW m) (m 60 0) x c1 c2 b)) (k + 1)).1 ∧ s.2.1 = (bst (fun b => if bw (mW m) (wS (mW m)) b = -1 then none else some (ldd (mW m) (m 60 0) x c1 c2 b)) (k + 1)).2 ∧ s.2.2.1 = nI (k + 1) ∧ Fr KD m s.2.2.2) (fun e => Tot (r_X12_ledTo_e121_h9 e.1 e.2) (fun q => q.1 = ldt (mW m) (m 60 0) x c1 c2 ∧ Fr KD m q.2))) := by
        intro b0 hb0
        rcases bw_or (mW m) (wS (mW m)) k with h | ⟨e, he, h, -⟩
        · exact absurd h hz
        · have he2 := hW.2.1.2
          rw [h, tot_bd2]
          refine (drawWith_tot (n := wn (mW m)) (N := wN (mW m)) (by rw [hF 12 0 (by decide)]; exact hW.2.2.2.2.1) (by rw [fW]; exact hW.2.2.2.2.2.1) (by rw [e52 m1 hF]; exact e522) hN.2 (show e < 16 by omega) hs (by omega)).mono ?_
          rintro ⟨z, m2⟩ ⟨g1, g2⟩
          dsimp only at g1 g2 ⊢
          have g1' : z = ldd (mW m) (m 60 0) x c1 c2 k := by
            rw [g1, fW, h60, hb0]
            unfold ldd
            rw [h, clamp_nI (by omega)]
          rw [← g1', ← e2] at hstep
          by_cases hx : z ≤ x5
          · rw [if_neg (fun q => (lt_iff.mp q) hx)]
            rw [if_pos hx] at hstep
            exact tot_some.mpr ⟨by rw [hstep]; exact e1, by rw [hstep]; exact e2, (nI_succ k).symm, hF.tr g2⟩
          · rw [if_pos (lt_iff.mpr hx)]
            rw [if_neg hx] at hstep
            exact tot_some.mpr ⟨by rw [hstep], by rw [hstep], (nI_succ k).symm, hF.tr g2⟩
      have q1 : (nI c1 = nI k) ↔ c1 = k := nI_eq (by omega) (by omega)
      have q2 : (nI c2 = nI k) ↔ c2 = k := nI_eq (by omega) (by omega)
      by_cases h1k : c1 = k
      · rw [if_pos (q1.mpr h1k)]
        by_cases h2k : c2 = k
        · rw [if_pos (q2.mpr h2k)]
          exact hgo _ (by unfold lsb; rw [if_pos h1k, if_pos h2k])
        · rw [if_neg (fun q => h2k (q2.mp q))]
          exact hgo _ (by unfold lsb; rw [if_pos h1k, if_neg h2k])
      · rw [if_neg (fun q => h1k (q1.mp q))]
        by_cases h2k : c2 = k
        · rw [if_pos (q2.mpr h2k)]
          exact hgo _ (by unfold lsb; rw [if_neg h1k, if_pos h2k])
        · rw [if_neg (fun q => h2k (q2.mp q))]
          exact hgo _ (by unfold lsb; rw [if_neg h1k, if_neg h2k])
  · rintro ⟨x4, x5, x6, m1⟩ ⟨e1, e2, e3, hF⟩
    dsimp only at e1 e2 e3 hF ⊢
    subst e3
    unfold r_X12_ledTo_b9
    rw [e52 m1 hF, e520, if_pos (nI_le (Nat.le_refl _) (by omega)), tot_some]
    show Tot (r_X12_ledTo_e121_h9 x4 m1) _
    unfold r_X12_ledTo_e121_h9
    exact tot_some.mpr ⟨e1, hF⟩
theorem hasBy_m {m : Mem} {x : Int32} {c1 c2 : Nat} (hW : WF (mW m)) (h1 : c1 < 12) (h2 : c2 < 12) : Tot (r_X12_hasBy (nI c1) (nI c2) x m) (fun q => q.1 = hbv (mW m) (m 60 0) x c1 c2 ∧ Fr KD m q.2) := by
  unfold r_X12_hasBy
  rw [tot_bd2]
  refine (led_m hW h1 h2).mono ?_
  rintro ⟨z, m1⟩ ⟨g1, g2⟩
  dsimp only at g1 g2 ⊢
  unfold hbv
  rw [g1]
  by_cases e : ldt (mW m) (m 60 0) x c1 c2 = nI c1
  · rw [if_pos e, if_pos e]
    by_cases e2 : c1 = c2
    · rw [if_pos (by rw [e2]), if_pos e2]
      exact tot_some.mpr ⟨rfl, g2⟩
    · rw [if_neg (fun q => e2 ((nI_eq (by omega) (by omega)).mp q)), if_neg e2]
      exact tot_some.mpr ⟨rfl, g2⟩
  · rw [if_neg e, if_neg e]
    exact tot_some.mpr ⟨rfl, g2⟩
/-- the same, seen from an earlier memory -/
theorem hasBy_f {m m1 : Mem} {x : Int32} {c1 c2 : Nat} (hW : WF (mW m)) (hF : Fr KD m m1) (h1 : c1 < 12) (h2 : c2 < 12) : Tot (r_X12_hasBy (nI c1) (nI c2) x m1) (fun q => q.1 = hbv (mW m) (m 60 0) x c1 c2 ∧ Fr KD m q.2) := by
  have fW : mW m1 = mW m := mW_fj (J := []) hF.j (by decide) (by simp)
  have h60 : m1 60 0 = m 60 0 := hF 60 0 (by decide)
  have := hasBy_m (m := m1) (x := x) (c1 := c1) (c2 := c2) (by rw [fW]; exact hW) h1 h2
  rw [fW, h60] at this
  exact this.mono (fun q hq => ⟨hq.1, hF.tr hq.2⟩)
theorem rest_m {m m0 : Mem} {x : Int32} {c1 c2 : Nat} (hW : WF (mW m)) (hF0 : Fr KD m m0) (h1 : c1 < 12) (h2 : c2 < 12) : Tot (r_X12_isRest (nI c1) (nI c2) x m0) (fun q => q.1 = isr (wP (mW m)) (sdd (mW m)) (hbv (mW m) (m 60 0) x) c1 c2 ∧ Fr KD m q.2) := by
  have hP := hW.1
  have hD := hW.2.1
  have e52 : ∀ m', Fr KD m m' → m' 52 0 = m 52 0 := fun m' hF => hF 52 0 (by decide)
  have e520 : m 52 0 0 = nI (wP (mW m)) := hP.1
  have e523 : m 52 0 3 = nI (wS (mW m)) := hW.2.2.2.1.1
  generalize hH : hbv (mW m) (m 60 0) x = H
  unfold r_X12_isRest r_X12_isRest_l3
  rw [tot_bdS]
  refine tot_for (fun k (t : Int32 × Mem) => t.1 = nI k ∧ (∀ c, c < k → sdd (mW m) c = true → ¬ H c1 c2 < H c c2 ∧ H c c1 ≤ H c2 c1) ∧ Fr KD m t.2) (wP (mW m)) ?_ ?_ 0 _ (Nat.zero_le _) ⟨rfl, fun c hc => absurd hc (Nat.not_lt_zero c), hF0⟩
  · rintro k ⟨x4, m1⟩ hk ⟨e1, e2, hF⟩
    dsimp only at e1 e2 hF ⊢
    subst e1
    have fW : mW m1 = mW m := mW_fj (J := []) hF.j (by decide) (by simp)
    have hbe : r_X12_between (nI (wS (mW m))) (nI k) m1 = some (bw (mW m) (wS (mW m)) k) := by
      rw [btw_eq (D := wD (mW m)) (by rw [e52 m1 hF]; exact hD.1) hD.2, fW]
    unfold r_X12_isRest_b3 r_X12_isRest_j68_c3
    rw [e52 m1 hF, e520, e523, if_neg (nI_ge hk (by omega)), bd1_s hbe]
    by_cases hz : bw (mW m) (wS (mW m)) k = -1
    · rw [if_pos hz]
      refine tot_some.mpr ⟨(nI_succ k).symm, fun c hc sc => ?_, hF⟩
      by_cases hck : c = k
      · rw [hck] at sc
        exact absurd hz (of_decide_eq_true sc)
      · exact e2 c (by omega) sc
    · have s : sdd (mW m) k = true := decide_eq_true hz
      rw [if_neg hz, tot_bd2]
      refine (hasBy_f (x := x) (c1 := k) (c2 := c2) hW hF (by omega) h2).mono ?_
      rintro ⟨z7, m2⟩ ⟨g1, hF2⟩
      dsimp only at g1 hF2 ⊢
      rw [tot_bd2]
      refine (hasBy_f (x := x) (c1 := c1) (c2 := c2) hW hF2 h1 h2).mono ?_
      rintro ⟨z10, m3⟩ ⟨g2, hF3⟩
      dsimp only at g2 hF3 ⊢
      rw [g1, g2, hH]
      by_cases hlt : H c1 c2 < H k c2
      · rw [if_pos hlt, tot_some]
        exact tot_some.mpr ⟨(isr_f (fun q => (q k hk s).1 hlt)).symm, hF3⟩
      · rw [if_neg hlt, tot_bd2]
        refine (hasBy_f (x := x) (c1 := k) (c2 := c1) hW hF3 (by omega) h1).mono ?_
        rintro ⟨z14, m4⟩ ⟨g3, hF4⟩
        dsimp only at g3 hF4 ⊢
        rw [tot_bd2]
        refine (hasBy_f (x := x) (c1 := c2) (c2 := c1) hW hF4 h2 h1).mono ?_
        rintro ⟨z17, m5⟩ ⟨g4, hF5⟩
        dsimp only at g4 hF5 ⊢
        rw [g3, g4, hH]
        by_cases hle : H k c1 ≤ H c2 c1
        · rw [if_pos hle]
          refine tot_some.mpr ⟨(nI_succ k).symm, fun c hc sc => ?_, hF5⟩
          by_cases hck : c = k
          · rw [hck]
            exact ⟨hlt, hle⟩
          · exact e2 c (by omega) sc
        · rw [if_neg hle, tot_some]
          exact tot_some.mpr ⟨(isr_f (fun q => hle (q k hk s).2)).symm, hF5⟩
  · rintro ⟨x4, m1⟩ ⟨e1, e2, hF⟩
    dsimp only at e1 e2 hF ⊢
    subst e1
    unfold r_X12_isRest_b3
    rw [e52 m1 hF, e520, if_pos (nI_le (Nat.le_refl _) (by omega)), tot_some]
    exact tot_some.mpr ⟨(isr_t e2).symm, hF⟩
set_option maxHeartbeats 1000000 in
theorem leads_m {m : Mem} {x x2 : Int32} (hW : WF (mW m)) : Tot (r_X12_leaders_l51 x x2 0 (-1) 0 0 m) (fun q => q.1 = (if x2 = 0 then (ldz (mW m) (m 60 0) x).1 else if x2 = 1 then (ldz (mW m) (m 60 0) x).2.1 else (ldz (mW m) (m 60 0) x).2.2) ∧ Fr KD m q.2) := by
  have hP := hW.1
  have hD := hW.2.1
  have e52 : ∀ m', Fr KD m m' → m' 52 0 = m 52 0 := fun m' hF => hF 52 0 (by decide)
  have e520 : m 52 0 0 = nI (wP (mW m)) := hP.1
  have e523 : m 52 0 3 = nI (wS (mW m)) := hW.2.2.2.1.1
  generalize hR : isr (wP (mW m)) (sdd (mW m)) (hbv (mW m) (m 60 0) x) = R
  have hz : ldz (mW m) (m 60 0) x = ldO (sdd (mW m)) R (hbv (mW m) (m 60 0) x) (wP (mW m)) (wP (mW m)) := by rw [← hR]
  rw [hz]
  generalize hH : hbv (mW m) (m 60 0) x = H
  unfold r_X12_leaders_l51
  rw [tot_bd1]
  refine tot_for (fun k (t : Int32 × Int32 × Int32 × Int32 × Mem) => t.1 = (ldO (sdd (mW m)) R H (wP (mW m)) k).1 ∧ t.2.1 = (ldO (sdd (mW m)) R H (wP (mW m)) k).2.1 ∧ t.2.2.1 = (ldO (sdd (mW m)) R H (wP (mW m)) k).2.2 ∧ t.2.2.2.1 = nI k ∧ Fr KD m t.2.2.2.2) (wP (mW m)) ?_ ?_ 0 _ (Nat.zero_le _) ⟨rfl, rfl, rfl, rfl, Fr.rf⟩
  · rintro k ⟨y3, y4, y5, y6, m1⟩ hk ⟨e1, e2, e3, e4, hF⟩
    dsimp only at e1 e2 e3 e4 hF ⊢
    subst e4
    unfold r_X12_leaders_b51 r_X12_leaders_l65_c51
    rw [e52 m1 hF, e520, if_neg (nI_ge hk (by omega)), tot_bd1]
    refine tot_for (fun l (t : Int32 × Int32 × Int32 × Int32 × Mem) => t.1 = (ldS (sdd (mW m)) R H k (ldO (sdd (mW m)) R H (wP (mW m)) k) l).1 ∧ t.2.1 = (ldS (sdd (mW m)) R H k (ldO (sdd (mW m)) R H (wP (mW m)) k) l).2.1 ∧ t.2.2.1 = (ldS (sdd (mW m)) R H k (ldO (sdd (mW m)) R H (wP (mW m)) k) l).2.2 ∧ t.2.2.2.1 = nI l ∧ Fr KD m t.2.2.2.2) (wP (mW m)) ?_ ?_ 0 _ (Nat.zero_le _) ⟨e1, e2, e3, rfl, hF⟩
    · rintro l ⟨z3, z4, z5, z7, m2⟩ hl ⟨f1, f2, f3, f4, hF2⟩
      dsimp only at f1 f2 f3 f4 hF2 ⊢
      subst f4
      have fW : mW m2 = mW m := mW_fj (J := []) hF2.j (by decide) (by simp)
      have hbe : ∀ c, r_X12_between (nI (wS (mW m))) (nI c) m2 = some (bw (mW m) (wS (mW m)) c) := fun c => by
        rw [btw_eq (D := wD (mW m)) (by rw [e52 m2 hF2]; exact hD.1) hD.2, fW]
      have st : ldS (sdd (mW m)) R H k (ldO (sdd (mW m)) R H (wP (mW m)) k) (l + 1) = if sdd (mW m) k = true ∧ sdd (mW m) l = true ∧ R k l = true then ((ldS (sdd (mW m)) R H k (ldO (sdd (mW m)) R H (wP (mW m)) k) l).1 + 1, if (ldS (sdd (mW m)) R H k (ldO (sdd (mW m)) R H (wP (mW m)) k) l).1 = 0 then 100 * nI k + nI l else (ldS (sdd (mW m)) R H k (ldO (sdd (mW m)) R H (wP (mW m)) k) l).2.1, if (ldS (sdd (mW m)) R H k (ldO (sdd (mW m)) R H (wP (mW m)) k) l).1 = 0 then H k l + H l k else (ldS (sdd (mW m)) R H k (ldO (sdd (mW m)) R H (wP (mW m)) k) l).2.2) else ldS (sdd (mW m)) R H k (ldO (sdd (mW m)) R H (wP (mW m)) k) l := rfl
      generalize ldS (sdd (mW m)) R H k (ldO (sdd (mW m)) R H (wP (mW m)) k) l = T at f1 f2 f3 st
      rw [st]
      subst f1 f2 f3
      unfold r_X12_leaders_b65_c51 r_X12_leaders_j151_c65 r_X12_leaders_j170_c65 r_X12_leaders_j175_c65
      rw [e52 m2 hF2, e520, e523, if_neg (nI_ge hl (by omega)), bd1_s (hbe k)]
      by_cases s1 : bw (mW m) (wS (mW m)) k = -1
      · rw [if_pos s1, if_neg (fun q => (of_decide_eq_true q.1) s1)]
        exact tot_some.mpr ⟨rfl, rfl, rfl, (nI_succ l).symm, hF2⟩
      · rw [if_neg s1, bd1_s (hbe l)]
        by_cases s2 : bw (mW m) (wS (mW m)) l = -1
        · rw [if_pos s2, if_neg (fun q => (of_decide_eq_true q.2.1) s2)]
          exact tot_some.mpr ⟨rfl, rfl, rfl, (nI_succ l).symm, hF2⟩
        · rw [if_neg s2, tot_bd2]
          refine (rest_m (x := x) (c1 := k) (c2 := l) hW hF2 (by omega) (by omega)).mono ?_
          rw [hR]
          rintro ⟨b, m3⟩ ⟨g1, hF3⟩
          dsimp only at g1 hF3 ⊢
          rw [g1]
          by_cases s3 : R k l = true
          · rw [if_pos s3, if_pos (show sdd (mW m) k = true ∧ sdd (mW m) l = true ∧ R k l = true from ⟨decide_eq_true s1, decide_eq_true s2, s3⟩)]
            by_cases h0 : T.1 = 0
            · rw [if_pos h0, tot_bd2]
              refine (hasBy_f (x := x) (c1 := k) (c2 := l) hW hF3 (by omega) (by omega)).mono ?_
              rintro ⟨z22, m4⟩ ⟨g2, hF4⟩
              dsimp only at g2 hF4 ⊢
              rw [tot_bd2]
              refine (hasBy_f (x := x) (c1 := l) (c2 := k) hW hF4 (by omega) (by omega)).mono ?_
              rintro ⟨z25, m5⟩ ⟨g3, hF5⟩
              dsimp only at g3 hF5 ⊢
              rw [if_pos h0, if_pos h0, if_pos h0, g2, g3, hH]
              exact tot_some.mpr ⟨rfl, rfl, rfl, (nI_succ l).symm, hF5⟩
            · rw [if_neg h0, if_neg h0, if_neg h0, if_neg h0]
              exact tot_some.mpr ⟨rfl, rfl, rfl, (nI_succ l).symm, hF3⟩
          · rw [if_neg s3, if_neg (fun q => s3 q.2.2)]
            exact tot_some.mpr ⟨rfl, rfl, rfl, (nI_succ l).symm, hF3⟩
    · rintro ⟨z3, z4, z5, z7, m2⟩ ⟨f1, f2, f3, f4, hF2⟩
      dsimp only at f1 f2 f3 f4 hF2 ⊢
      subst f4
      unfold r_X12_leaders_b65_c51
      rw [e52 m2 hF2, e520, if_pos (nI_le (Nat.le_refl _) (by omega)), tot_some]
      exact tot_some.mpr ⟨f1, f2, f3, (nI_succ k).symm, hF2⟩
  · rintro ⟨y3, y4, y5, y6, m1⟩ ⟨e1, e2, e3, e4, hF⟩
    dsimp only at e1 e2 e3 e4 hF ⊢
    subst e4
    unfold r_X12_leaders_b51
    rw [e52 m1 hF, e520, if_pos (nI_le (Nat.le_refl _) (by omega)), tot_some]
    show Tot (r_X12_leaders_e187_h51 _ _ _ _ _) _
    unfold r_X12_leaders_e187_h51
    rw [e1, e2, e3]
    by_cases h0 : x2 = 0
    · rw [if_pos h0, if_pos h0]
      exact tot_some.mpr ⟨rfl, hF⟩
    · rw [if_neg h0, if_neg h0]
      by_cases h1 : x2 = 1
      · rw [if_pos h1, if_pos h1]
        exact tot_some.mpr ⟨rfl, hF⟩
      · rw [if_neg h1, if_neg h1]
        exact tot_some.mpr ⟨rfl, hF⟩
theorem pair_leaders {m : Mem} (hI : Inv m) (x y : Int32) : Pair (fun m => r_L_leaders x y m) (fun m => r_X12_leaders x y m) m := by
  obtain ⟨hW, hR, hL, hC, hS⟩ := hI.1
  have bad : ∀ m3, r_X12_leaders_j25 x y (wr m3 12 0 0 0) = some (0, badm m3 1 1) := fun m3 => by
    unfold r_X12_leaders_j25 r_X12_leaders_j30
    rw [bd2_s (bad_11 (by decide)), if_pos rfl]
  by_cases hx : 0 ≤ x ∧ x ≤ 30
  case neg =>
    refine Pair.b1 (c := 1) hI rfl (by decide) ?_ (fun m3 e h3 => ?_)
    · unfold r_X11_leaders
      rw [thr_r (needRange_f hx)]
    · unfold r_X12_leaders
      rw [if_neg (by rw [in_f hx]; decide)]
      exact bad m3
  by_cases hy : 0 ≤ y ∧ y ≤ 2
  case neg =>
    refine Pair.b1 (c := 1) hI rfl (by decide) ?_ (fun m3 e h3 => ?_)
    · unfold r_X11_leaders
      rw [thr_l (needRange_t hx), thr_r (needRange_f hy)]
    · unfold r_X12_leaders
      rw [if_pos (in_t hx), if_neg (by rw [in_f hy]; decide)]
      exact bad m3
  refine Pair.ok (z := if y = 0 then (ldz (mW m) (m 60 0) x).1 else if y = 1 then (ldz (mW m) (m 60 0) x).2.1 else (ldz (mW m) (m 60 0) x).2.2) KR JR KD [(12, 0)] hI ?_ (fun m3 _ hF => ?_) rfl rfl rfl rfl rfl rfl
  · unfold r_X11_leaders
    rw [thr_l (needRange_t hx), thr_l (needRange_t hy), tot_bd1]
    refine (rests_c hW hL hC hS).mono ?_
    rintro m1 ⟨h1, h2, h3, h4⟩
    rw [h1, h2, h3]
    by_cases h0 : y = 0
    · rw [if_pos h0, if_pos h0]
      exact tot_some.mpr ⟨rfl, h4⟩
    · rw [if_neg h0, if_neg h0]
      by_cases h1 : y = 1
      · rw [if_pos h1, if_pos h1]
        exact tot_some.mpr ⟨rfl, h4⟩
      · rw [if_neg h1, if_neg h1]
        exact tot_some.mpr ⟨rfl, h4⟩
  · obtain ⟨e, h60⟩ := pre3 hF (by decide) (by decide) (by decide) (by decide)
    have hW3 : WF (mW (wr m3 12 0 0 0)) := by rw [e]; exact hW
    unfold r_X12_leaders r_X12_leaders_j30
    rw [if_pos (in_t hx), if_pos (in_t hy), bd2_s bad_0, if_neg (by decide)]
    have hm := leads_m (x := x) (x2 := y) hW3
    rw [e, h60] at hm
    refine hm.mono ?_
    rintro ⟨q1, m4⟩ ⟨g1, g4⟩
    dsimp only at g1 g4 ⊢
    exact ⟨g1, by rw [g4 12 0 (by decide)]; exact th_z m3 0, ((th_fj m3 0).mono (by simp) (by simp)).tr g4.j⟩
