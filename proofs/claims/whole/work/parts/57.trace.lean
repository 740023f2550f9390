/-! ===== the course in both ===== -/
theorem Fj.rw' {K J : List (Nat × Nat)} {m m1 : Mem} (h : Fj K J m m1) (k i : Nat) (hk : ∀ q ∈ K, ¬ q = (k, i)) (hj : ∀ q ∈ J, ¬ q.1 = k) : m1 k i = m k i := by
  funext c
  exact h k i c (fun hq => hk _ hq rfl) (fun hq => hj _ hq rfl)
theorem mW_fj {K J : List (Nat × Nat)} {m m' : Mem} (h : Fj K J m m') (hK : ∀ q ∈ K, q.1 ∉ [12, 52, 54, 63, 67, 73]) (hJ : ∀ q ∈ J, q.1 ∉ [52, 54, 63, 67, 73] ∧ ¬ q = (12, 21)) : mW m' = mW m := by
  have hr : ∀ k i, k ∈ [52, 54, 63, 67, 73] → m' k i = m k i := fun k i hk => h.rw' k i (fun q hq e => hK q hq (by rw [e]; exact List.mem_cons_of_mem _ hk)) (fun q hq e => (hJ q hq).1 (by rw [e]; exact hk))
  have h21 : m' 12 0 21 = m 12 0 21 := h 12 0 21 (fun hq => hK _ hq (by simp)) (fun hq => (hJ _ hq).2 rfl)
  funext p q
  unfold mW
  rw [hr 52 0 (by simp), hr 54 0 (by simp), hr 63 q (by simp), hr 67 q (by simp), hr 73 q (by simp), h21]
theorem CL.fj {K J : List (Nat × Nat)} {w : Wd} {m m' : Mem} (hL : CL w m) (h : Fj K J m m') (hK : ∀ q ∈ K, q.1 ∈ [3, 25, 26, 27, 28, 29] → ¬ q.2 = 0) (hJ : ∀ q ∈ J, q.1 ∉ [3, 25, 26, 27, 28, 29]) : CL w m' := by
  have hr : ∀ k, k ∈ [3, 25, 26, 27, 28, 29] → m' k 0 = m k 0 := fun k hk => h.rw' k 0 (fun q hq e => hK q hq (by rw [e]; exact hk) (by rw [e])) (fun q hq e => hJ q hq (by rw [e]; exact hk))
  exact hL.fr (hr 3 (by simp)) (hr 25 (by simp)) (hr 26 (by simp)) (hr 27 (by simp)) (hr 28 (by simp)) (hr 29 (by simp))
theorem StC.fj {K J : List (Nat × Nat)} {w : Wd} {r : Rw} {m m' : Mem} {i : Nat} (hS : StC w r m i) (h : Fj K J m m') (hK : ∀ q ∈ K, q.1 ∈ [7, 20, 21, 22, 23, 24] → ¬ q.2 = i) (hJ : ∀ q ∈ J, q.1 ∉ [7, 20, 21, 22, 23, 24]) : StC w r m' i := by
  have hr : ∀ k, k ∈ [7, 20, 21, 22, 23, 24] → m' k i = m k i := fun k hk => h.rw' k i (fun q hq e => hK q hq (by rw [e]; exact hk) (by rw [e])) (fun q hq e => hJ q hq (by rw [e]; exact hk))
  exact hS.fr (hr 7 (by simp)) (hr 20 (by simp)) (hr 21 (by simp)) (hr 22 (by simp)) (hr 23 (by simp)) (hr 24 (by simp))
theorem lawC.fj {K J : List (Nat × Nat)} {n : Nat} {cw cv : Nat → Int32} {m m' : Mem} (hC : lawC 0 n cw cv m) (h : Fj K J m m') (hK : ∀ q ∈ K, q.1 ∈ [4, 34] → ¬ q.2 = 0) (hJ : ∀ q ∈ J, q.1 ∉ [4, 34]) : lawC 0 n cw cv m' := by
  have hr : ∀ k, k ∈ [4, 34] → m' k 0 = m k 0 := fun k hk => h.rw' k 0 (fun q hq e => hK q hq (by rw [e]; exact hk) (by rw [e])) (fun q hq e => hJ q hq (by rw [e]; exact hk))
  exact hC.fr (hr 4 (by simp)) (hr 34 (by simp))
/-- where the river springs, or -1 -/
def spr (w : Wd) : Int32 := if wP w = 0 then -1 else w 0 3
theorem FF_of {w : Wd} (hW : WF w) (r : Rw) : FF (wP w) (nxt w r) (spr w) := by
  refine ⟨hW.1.2, ?_, fun a _ => ?_⟩
  · unfold spr
    by_cases h : wP w = 0
    · rw [if_pos h]; exact Or.inl rfl
    · rw [if_neg h]
      rcases hW.2.2.2.1.2 with h2 | h2
      · exact Or.inr ⟨wS w, h2, hW.2.2.2.1.1⟩
      · exact absurd h2.1 h
  · rcases nxt_or w r a with h | ⟨b, hb, h, -⟩
    · exact Or.inl h
    · exact Or.inr ⟨b, hb, h⟩
abbrev cL (w : Wd) (r : Rw) : Nat := cln (nxt w r) (spr w)
abbrev cB (w : Wd) (r : Rw) : Int32 := cbi (nxt w r) (spr w)
abbrev cE (w : Wd) (r : Rw) : Int32 := cen (nxt w r) (spr w)
abbrev cP (w : Wd) (r : Rw) (k : Nat) : Int32 := pth (nxt w r) (spr w) k
theorem laysNext_tot {m : Mem} {i : Nat} (hW : WF (mW m)) : Tot (r_X12_laysNext i m) (fun m' => (∀ a, a < wP (mW m) → m' 57 0 a = nxt (mW m) (m 60 i) a) ∧ Fj [(55, 0), (56, 0), (57, 0)] [] m m') := by
  have hP := hW.1.2
  unfold r_X12_laysNext r_X12_laysNext_l2
  rw [tot_bd1]
  refine tot_for (fun k s => s.1 = nI k ∧ (∀ a, a < k → s.2 57 0 a = nxt (mW m) (m 60 i) a) ∧ Fj [(55, 0), (56, 0), (57, 0)] [] m s.2) (wP (mW m)) ?_ ?_ 0 _ (Nat.zero_le _) ⟨rfl, fun a ha => absurd ha (Nat.not_lt_zero a), Fj.rf⟩
  · rintro k ⟨x2, m1⟩ hk ⟨e1, e2, hF⟩
    dsimp only at e1 e2 hF ⊢
    subst e1
    have fW : mW m1 = mW m := mW_fj hF (by decide) (by simp)
    have f60 : m1 60 i = m 60 i := hF.rw' 60 i (by simp) (by simp)
    have f52 : m1 52 0 = m 52 0 := hF.rw' 52 0 (by simp) (by simp)
    unfold r_X12_laysNext_b2
    rw [f52, show m 52 0 0 = nI (wP (mW m)) from hW.1.1, if_neg (nI_ge hk (by omega)), tot_bd2]
    refine (nextOf_tot (m := m1) (i := i) (a := k) (by rw [fW]; exact hW) (by omega)).mono ?_
    rintro ⟨z, m2⟩ ⟨hz, hF2⟩
    dsimp only at hz hF2 ⊢
    rw [fW, f60] at hz
    rw [if_pos (inb_nI (by omega) (by omega)), clamp_nI (by omega), tot_some]
    refine ⟨(nI_succ k).symm, fun a ha => ?_, (hF.tr ((hF2.mono (by simp)).j)).wrK (by decide) _ _⟩
    show wr m2 57 0 k z 57 0 a = _
    rw [wr_if]
    by_cases hak : a = k
    · rw [if_pos hak, hak, hz]
    · rw [if_neg hak, hF2 57 0 (by decide)]
      exact e2 a (by omega)
  · rintro ⟨x2, m1⟩ ⟨e1, e2, hF⟩
    dsimp only at e1 e2 hF ⊢
    subst e1
    have f52 : m1 52 0 = m 52 0 := hF.rw' 52 0 (by simp) (by simp)
    unfold r_X12_laysNext_b2
    rw [f52, show m 52 0 0 = nI (wP (mW m)) from hW.1.1, if_pos (nI_le (Nat.le_refl _) (by omega)), tot_some]
    show Tot (r_X12_laysNext_e30_h2 m1) _
    unfold r_X12_laysNext_e30_h2
    exact tot_some.mpr ⟨e2, hF⟩
theorem spr_eq {m : Mem} : spr (mW m) = if wP (mW m) = 0 then -1 else m 52 0 3 := rfl
theorem courseOf_tot {m : Mem} {i : Nat} (hW : WF (mW m)) : Tot (r_X12_courseOf i m) (fun q => q.1 = cB (mW m) (m 60 i) ∧ q.2 12 0 42 = nI (cL (mW m) (m 60 i)) ∧ (∀ k, k < cL (mW m) (m 60 i) → q.2 58 0 k = cP (mW m) (m 60 i) k) ∧ (∀ a, a < wP (mW m) → q.2 57 0 a = nxt (mW m) (m 60 i) a) ∧ Fj [(55, 0), (56, 0), (57, 0), (58, 0)] [(12, 42)] m q.2) := by
  unfold r_X12_courseOf
  rw [tot_bd1]
  refine (laysNext_tot hW).mono ?_
  rintro m1 ⟨hn, hF⟩
  rw [tot_bd2]
  have hf := FF_of hW (m 60 i)
  have hf1 : FF (wP (mW m)) (m1 57 0) (spr (mW m)) := ⟨hf.1, hf.2.1, fun a ha => by rw [hn a ha]; exact hf.2.2 a ha⟩
  have f52 : m1 52 0 = m 52 0 := hF.rw' 52 0 (by simp) (by simp)
  obtain ⟨c1, c2, c3⟩ := cln_cong hf1 hn
  refine (courseBits_tot (P := wP (mW m)) (s := spr (mW m)) (by rw [f52]; exact hW.1.1) (by rw [f52]; exact spr_eq) hf1).mono ?_
  rintro ⟨z, m2⟩ ⟨h1, h2, h3, h4⟩
  dsimp only at h1 h2 h3 h4 ⊢
  refine tot_some.mpr ⟨h1.trans c2, h2.trans (by rw [c1]), fun k hk => ?_, fun a ha => ?_, (hF.mono (by simp) (by simp)).tr (h4.mono (by simp) (by simp))⟩
  · show m2 58 0 k = _
    rw [h3 k (by rw [c1]; exact hk)]
    exact pth_cong hf1 hn k
  · show m2 57 0 a = _
    rw [h4.rw' 57 0 (by simp) (by simp)]
    exact hn a ha
theorem endOf_tot {m : Mem} {i : Nat} (hW : WF (mW m)) : Tot (r_X12_endOf i m) (fun q => q.1 = cE (mW m) (m 60 i) ∧ Fj [(55, 0), (56, 0), (57, 0), (58, 0)] [(12, 42)] m q.2) := by
  unfold r_X12_endOf
  rw [tot_bd2]
  have hf := FF_of hW (m 60 i)
  have hle := cln_le hf
  have hP := hW.1.2
  refine (courseOf_tot hW).mono ?_
  rintro ⟨z, m2⟩ ⟨h1, h2, h3, h4, h5⟩
  dsimp only at h1 h2 h3 h4 h5 ⊢
  simp only [h2]
  unfold cE cen
  by_cases h0 : cln (nxt (mW m) (m 60 i)) (spr (mW m)) = 0
  · rw [if_pos (by rw [show cL (mW m) (m 60 i) = 0 from h0]; rfl), if_pos h0]
    exact tot_some.mpr ⟨rfl, h5⟩
  · obtain ⟨c, hc⟩ : ∃ c, cln (nxt (mW m) (m 60 i)) (spr (mW m)) = c + 1 := ⟨_, (Nat.succ_pred_eq_of_pos (Nat.pos_of_ne_zero h0)).symm⟩
    have hc' : cL (mW m) (m 60 i) = c + 1 := hc
    have hcc : c + 1 ≤ 12 := by omega
    rw [hc', hc, if_neg (nI_ne0 (by omega) (by omega)), nI_pred, if_pos (inb_nI (by omega) (by omega)), clamp_nI (by omega), if_neg (show ¬ c + 1 = 0 by omega)]
    exact tot_some.mpr ⟨h3 c (by rw [hc']; omega), h5⟩
set_option maxHeartbeats 1000000 in
theorem trace_tot {w : Wd} {r : Rw} {m : Mem} {i : Nat} (hW : WF w) (hL : CL w m) (hC : CW w m) (hS : StC w r m i) : Tot (r_X6_trace i m) (fun m' => m' 6 0 3 = nI (cL w r) ∧ m' 6 0 4 = cB w r ∧ (∀ k, k < cL w r → m' 38 0 k = cP w r k) ∧ Fj [(33, 0), (35, 0), (38, 0)] [(6, 3), (6, 4)] m m') := by
  have hf := FF_of hW r
  have hle := cln_le hf
  have hP := hW.1.2
  unfold r_X6_trace r_X6_trace_l18
  rw [tot_bdS]
  refine tot_for (fun k s => s.2 6 0 3 = nI k ∧ s.2 6 0 4 = bse (nxt w r) (spr w) k ∧ (∀ j, j < k → s.2 38 0 j = cP w r j) ∧ k ≤ cL w r ∧ (k < wP w → k < cL w r ∧ s.1 = cP w r k) ∧ Fj [(33, 0), (35, 0), (38, 0)] [(6, 3), (6, 4)] m s.2) (wP w) ?_ ?_ 0 _ (Nat.zero_le _) ?_
  · rintro k ⟨x2, m1⟩ hk ⟨e1, e2, e3, e4, e5, hF⟩
    dsimp only at e1 e2 e3 e4 e5 hF ⊢
    obtain ⟨hkc, hx⟩ := e5 hk
    obtain ⟨b, hb, hbk⟩ := pth_at hf hkc
    have hx2 : x2 = nI b := hx.trans hbk
    subst hx2
    have hL1 : CL w m1 := hL.fj hF (by decide) (by decide)
    have hp : cP w r (k + 1) = nxt w r b := by
      show (if pth (nxt w r) (spr w) k = -1 then -1 else nxt w r (pth (nxt w r) (spr w) k).toNatClampNeg) = _
      rw [hbk, if_neg (m1_ne (by omega)), clamp_nI (by omega)]
    have hb2 : bse (nxt w r) (spr w) (k + 1) = bse (nxt w r) (spr w) k ||| (1 <<< (nI b &&& 31)) := by
      show bse (nxt w r) (spr w) k ||| (1 <<< (pth (nxt w r) (spr w) k &&& 31)) = _
      rw [hbk]
    unfold r_X6_trace_b18
    rw [hL1.1, hW.1.1, e1, if_neg (nI_ge hk (by omega)), if_pos (inb_nI (by omega) (by omega)), clamp_nI (by omega), e2, ← hb2, ← nI_succ, tot_bd2]
    have hF1 : Fj [(33, 0), (35, 0), (38, 0)] [(6, 3), (6, 4)] m (wr (wr (wr m1 38 0 k (nI b)) 6 0 3 (nI (k + 1))) 6 0 4 (bse (nxt w r) (spr w) (k + 1))) := ((hF.wrK (by decide) _ _).wrJ (by decide) _ _).wrJ (by decide) _ _
    refine (goesOn_tot hW (hL.fj hF1 (by decide) (by decide)) (hC.fj hF1 (by decide) (by decide)) (hS.fj hF1 (by simp) (by simp)) hb).mono ?_
    rintro ⟨z, m2⟩ ⟨hz, hF2⟩
    dsimp only at hz hF2 ⊢
    have g1 : m2 6 0 3 = nI (k + 1) := by
      rw [hF2 6 0 (by decide), wr_j (by decide), wr_eq]
    have g2 : m2 6 0 4 = bse (nxt w r) (spr w) (k + 1) := by
      rw [hF2 6 0 (by decide), wr_eq]
    have g3 : ∀ j, j < k + 1 → m2 38 0 j = cP w r j := fun j hj => by
      rw [hF2 38 0 (by decide), wr_k (by decide), wr_k (by decide), wr_if]
      by_cases hjk : j = k
      · rw [if_pos hjk, hjk]; exact hbk.symm
      · rw [if_neg hjk]; exact e3 j (by omega)
    have hF3 := hF1.tr ((hF2.mono (K' := [(33, 0), (35, 0), (38, 0)]) (by simp)).j)
    have hzp : z = cP w r (k + 1) := hz.trans hp.symm
    have stop : stp (nxt w r) (spr w) (k + 1) = true → Tot (some (Sum.inr (Sum.inr m2)) : Option ((Int32 × Mem) ⊕ (Mem ⊕ Mem))) (Sum.elim (fun s2 => s2.2 6 0 3 = nI (k + 1) ∧ s2.2 6 0 4 = bse (nxt w r) (spr w) (k + 1) ∧ (∀ j, j < k + 1 → s2.2 38 0 j = cP w r j) ∧ k + 1 ≤ cL w r ∧ (k + 1 < wP w → k + 1 < cL w r ∧ s2.1 = cP w r (k + 1)) ∧ Fj [(33, 0), (35, 0), (38, 0)] [(6, 3), (6, 4)] m s2.2) (Sum.elim (fun x => Tot (r_X6_trace_e93_h18 x) (fun m' => m' 6 0 3 = nI (cL w r) ∧ m' 6 0 4 = cB w r ∧ (∀ k, k < cL w r → m' 38 0 k = cP w r k) ∧ Fj [(33, 0), (35, 0), (38, 0)] [(6, 3), (6, 4)] m m')) (fun y => Tot (some y) (fun m' => m' 6 0 3 = nI (cL w r) ∧ m' 6 0 4 = cB w r ∧ (∀ k, k < cL w r → m' 38 0 k = cP w r k) ∧ Fj [(33, 0), (35, 0), (38, 0)] [(6, 3), (6, 4)] m m')))) := by
      intro hs
      have hc : k + 1 = cL w r := (cln_at hf (by show k + 1 ≤ cL w r; omega)).mpr hs
      refine tot_some.mpr (tot_some.mpr ⟨by rw [← hc]; exact g1, ?_, fun j hj => g3 j (by omega), hF3⟩)
      rw [g2]
      show bse (nxt w r) (spr w) (k + 1) = bse (nxt w r) (spr w) (cL w r)
      rw [← hc]
    by_cases hm : z = -1
    · rw [if_pos hm]
      exact stop (by unfold stp; rw [show pth (nxt w r) (spr w) (k + 1) = -1 from hzp.symm.trans hm]; rfl)
    · rw [if_neg hm]
      simp only [g2]
      rcases pth_in hf (k + 1) with h2 | ⟨c, hc, hck⟩
      · exact absurd (hzp.trans h2) hm
      · have hzc : z = nI c := hzp.trans hck
        by_cases hbt : bt (bse (nxt w r) (spr w) (k + 1)) c = true
        · rw [if_neg (by rw [hzc, bit_0 (by omega), hbt]; decide)]
          exact stop (by unfold stp; rw [hck, clamp_nI (by omega), hbt, Bool.or_true])
        · have hbf : bt (bse (nxt w r) (spr w) (k + 1)) c = false := ts_nt' hbt
          rw [if_pos (by rw [hzc, bit_0 (by omega)]; exact hbf)]
          have hns : stp (nxt w r) (spr w) (k + 1) = false := by
            unfold stp
            rw [hck, clamp_nI (by omega), hbf, decide_eq_false (m1_ne (by omega))]
            rfl
          have hlt : k + 1 < cL w r := by
            have h9 : ¬ k + 1 = cL w r := fun e => by
              have := (cln_at hf (by show k + 1 ≤ cL w r; omega)).mp e
              rw [hns] at this
              cases this
            omega
          exact tot_some.mpr ⟨g1, g2, g3, by omega, fun _ => ⟨hlt, hzp⟩, hF3⟩
  · rintro ⟨x2, m1⟩ ⟨e1, e2, e3, e4, e5, hF⟩
    dsimp only at e1 e2 e3 e4 e5 hF ⊢
    have hL1 : CL w m1 := hL.fj hF (by decide) (by decide)
    have hc : wP w = cL w r := by
      have : cL w r ≤ wP w := hle
      omega
    unfold r_X6_trace_b18
    rw [hL1.1, hW.1.1, e1, if_pos (nI_le (Nat.le_refl _) (by omega)), tot_some]
    show Tot (r_X6_trace_e93_h18 m1) _
    unfold r_X6_trace_e93_h18
    refine tot_some.mpr ⟨by rw [← hc]; exact e1, ?_, fun j hj => e3 j (by omega), hF⟩
    rw [e2]
    show bse (nxt w r) (spr w) (wP w) = bse (nxt w r) (spr w) (cL w r)
    rw [← hc]
  · refine ⟨(show wr (wr m 6 0 3 0) 6 0 4 0 6 0 3 = 0 from (wr_j (by decide)).trans (wr_eq _ _ _ _ _)), (show wr (wr m 6 0 3 0) 6 0 4 0 6 0 4 = 0 from wr_eq _ _ _ _ _), fun j hj => absurd hj (Nat.not_lt_zero j), Nat.zero_le _, fun h0 => ?_, (Fj.rf.wrJ (by decide) _ _).wrJ (by decide) _ _⟩
    have hs : ¬ spr w = -1 := by
      unfold spr
      rw [if_neg (by omega), hW.2.2.2.1.1]
      exact m1_ne (by have := hW.2.2.2.1.2; omega)
    refine ⟨clen_pos hf hs, ?_⟩
    show m 3 0 3 = spr w
    rw [hL.2.2.2.1]
    unfold spr
    rw [if_neg (by omega)]
theorem end_tot {w : Wd} {r : Rw} {m : Mem} (hW : WF w) (h1 : m 6 0 3 = nI (cL w r)) (h2 : ∀ k, k < cL w r → m 38 0 k = cP w r k) : r_X6_end m = some (cE w r) := by
  have hf := FF_of hW r
  have hle := cln_le hf
  have hP := hW.1.2
  unfold r_X6_end cE cen
  rw [h1]
  by_cases h0 : cln (nxt w r) (spr w) = 0
  · rw [if_pos (by rw [show cL w r = 0 from h0]; rfl), if_pos h0]
  · obtain ⟨c, hc⟩ : ∃ c, cln (nxt w r) (spr w) = c + 1 := ⟨_, (Nat.succ_pred_eq_of_pos (Nat.pos_of_ne_zero h0)).symm⟩
    have hc' : cL w r = c + 1 := hc
    have hcc : c + 1 ≤ 12 := by omega
    rw [hc', hc, if_neg (nI_ne0 (by omega) (by omega)), nI_pred, if_pos (inb_nI (by omega) (by omega)), clamp_nI (by omega), if_neg (show ¬ c + 1 = 0 by omega), h2 c (by rw [hc']; omega)]
    rfl
