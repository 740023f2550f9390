/-! ===== the parts of what holds, each by its own rows; undo, feed ===== -/
theorem SvC.c {m m' : Mem} {i : Nat} {r : Rw} (hW : mW m' = mW m) (hk : ∀ k, k ∈ [7, 20, 21, 22, 23, 24] → m' k i = m k i) (hS : SvC m i r) : SvC m' i r := by
  unfold SvC at hS ⊢
  rw [hW]
  exact ⟨hS.1.fr (hk 7 (by simp)) (hk 20 (by simp)) (hk 21 (by simp)) (hk 22 (by simp)) (hk 23 (by simp)) (hk 24 (by simp)), hS.2⟩
/-- the states that are kept -/
def EqS (m m' : Mem) : Prop := ∀ i k, 3 ≤ i → k ∈ [7, 20, 21, 22, 23, 24] → m' k i = m k i
theorem EqS.of {K J : List (Nat × Nat)} {m m' : Mem} (h : Fj K J m m') (hK : ∀ q ∈ K, q.1 ∈ [7, 20, 21, 22, 23, 24] → q.2 < 3) (hJ : ∀ q ∈ J, q.1 ∉ [7, 20, 21, 22, 23, 24]) : EqS m m' := fun i k hi hk => h.rw' k i (fun q hq e => by have := hK q hq (by rw [e]; exact hk); rw [e] at this; exact absurd hi (by show ¬ 3 ≤ i; have : i < 3 := this; omega)) (fun q hq e => hJ q hq (by rw [e]; exact hk))
theorem I1.c {m m' : Mem} (hW : mW m' = mW m) (h60 : m' 60 0 = m 60 0) (hL : ∀ k, k ∈ [3, 25, 26, 27, 28, 29, 4, 34] → m' k 0 = m k 0) (hs : ∀ k, k ∈ [7, 20, 21, 22, 23, 24] → m' k 0 = m k 0) (hI : I1 m) : I1 m' := by
  obtain ⟨a1, a2, a3, a4, a5⟩ := hI
  unfold I1
  rw [h60, hW]
  exact ⟨a1, a2, a3.fr (hL 3 (by simp)) (hL 25 (by simp)) (hL 26 (by simp)) (hL 27 (by simp)) (hL 28 (by simp)) (hL 29 (by simp)), a4.fr (hL 4 (by simp)) (hL 34 (by simp)), a5.fr (hs 7 (by simp)) (hs 20 (by simp)) (hs 21 (by simp)) (hs 22 (by simp)) (hs 23 (by simp)) (hs 24 (by simp))⟩
theorem I2.c {m m' : Mem} (h8 : m' 8 0 1 = m 8 0 1) (h83 : m' 8 0 3 = m 8 0 3) (h1 : m' 12 0 1 = m 12 0 1) (h3 : m' 12 0 3 = m 12 0 3) (h37 : m' 37 0 = m 37 0) (h49 : m' 49 0 = m 49 0) (hI : I2 m) : I2 m' := by
  unfold I2 at hI ⊢
  rw [h8, h83, h1, h3, h37, h49]
  exact hI
theorem I3.c {m m' : Mem} (hW : mW m' = mW m) (h5 : m' 5 0 = m 5 0) (h36 : m' 12 0 36 = m 12 0 36) (h46 : m' 46 0 = m 46 0) (h60 : ∀ j, m' 60 (2 + j) = m 60 (2 + j)) (hs : EqS m m') (hI : I3 m) : I3 m' := by
  obtain ⟨k, h1, h2, h3, h4⟩ := hI
  refine ⟨k, h1, by rw [h5]; exact h2, by rw [h36]; exact h3, fun j hj => ⟨by rw [h46]; exact (h4 j hj).1, ?_⟩⟩
  rw [h60]
  exact (h4 j hj).2.c hW (fun k9 hk9 => hs _ k9 (by omega) hk9)
theorem I4.c {m m' : Mem} (hW : mW m' = mW m) (h2 : m' 2 0 = m 2 0) (h38 : m' 12 0 38 = m 12 0 38) (h47 : m' 47 0 = m 47 0) (h48 : m' 48 0 = m 48 0) (h83 : ∀ j, m' 83 j = m 83 j) (h5 : ∀ j, m' 5 (1 + j) = m 5 (1 + j)) (h46 : ∀ j, m' 46 (1 + j) = m 46 (1 + j)) (hs : EqS m m') (hI : I4 m) : I4 m' := by
  obtain ⟨k, a1, a2, a3, a4⟩ := hI
  refine ⟨k, a1, by rw [h2]; exact a2, by rw [h38]; exact a3, fun j hj => ?_⟩
  obtain ⟨b1, b2, b3, n, b4, b5, b6, b7⟩ := a4 j hj
  rw [h47, h48, h83, h5, h46]
  exact ⟨b1, b2, b3.c hW (fun k9 hk9 => hs _ k9 (by omega) hk9), n, b4, b5, b6, fun v hv => ⟨(b7 v hv).1, (b7 v hv).2.c hW (fun k9 hk9 => hs _ k9 (by omega) hk9)⟩⟩
theorem I5.c {m m' : Mem} (hW : mW m' = mW m) (h1 : m' 1 0 = m 1 0) (h35 : m' 12 0 35 = m 12 0 35) (h77 : ∀ j, m' 77 j = m 77 j) (h36 : m' 36 0 = m 36 0) (hI : I5 m) : I5 m' := by
  obtain ⟨k, a1, a2, a3, a4, a5⟩ := hI
  refine ⟨k, a1, by rw [h1]; exact a2, by rw [h35]; exact a3, fun j hj => ?_, fun a ha => ?_⟩
  · rw [hW, h77, h36]
    exact a4 j hj
  · rw [h36]
    rcases a5 a ha with q | ⟨j, hj, e⟩
    · exact Or.inl q
    · exact Or.inr ⟨j, hj, by rw [h77]; exact e⟩
theorem I7.c {m m' : Mem} (h94 : ∀ i, m' 94 i = m 94 i) (h46 : ∀ p, m' 46 p = m 46 p) (h47 : m' 47 0 = m 47 0) (h48 : m' 48 0 = m 48 0) (hI : I7 m) : I7 m' := by
  have e94 : m' 94 = m 94 := funext h94
  unfold I7 mk0 pk0 at hI ⊢
  rw [e94, h47, h48]
  exact ⟨fun p k hp hk e => hI.1 p k hp hk (by rw [← h46 p]; exact e), hI.2⟩
set_option maxHeartbeats 1000000 in
theorem op_6 {x4 : Int32} {m : Mem} (hI : Inv m) : Tot (r_L_op_6 x4 m) (fun m7 => Inv m7 ∧ ∀ i, m7 100 i = m 100 i) := by
  obtain ⟨a1, a2, a3, a4, a5, a6, a7⟩ := hI
  obtain ⟨hW, hR, hL, hC, hS⟩ := id a1
  obtain ⟨n, n1, n2, n3, n4⟩ := id a3
  unfold r_L_op_6 r_X11_undo
  by_cases h0 : n = 0
  · rw [n2, if_pos (by rw [h0]; rfl), tot_bd2]
    refine tot_some.mpr ?_
    dsimp only
    unfold r_X12_undo
    rw [n3, if_pos (by rw [h0]; rfl), tot_bd2]
    refine tot_some.mpr ?_
    rw [if_pos rfl]
    exact tot_some.mpr ⟨InvX.th ⟨a1, a2, a3, a4, a5, a6, a7⟩ 0, th_100 m 0⟩
  · obtain ⟨j, hj⟩ : ∃ j, n = j + 1 := ⟨n - 1, by omega⟩
    subst hj
    obtain ⟨s1, s2, s3⟩ := n4 j (by omega)
    unfold r_X5_popInto
    rw [n2, if_neg (nI_ne0 (by omega) (by omega)), if_neg (show ¬ nI (j + 1) ≤ 0 from nI_nle (by omega) (by omega)), nI_pred, if_pos (inb_nI (by omega) (by omega)), clamp_nI (by omega), if_neg s1, if_neg s1, tot_bd2, tot_bd1, tot_bd1]
    have e3 : 3 + 16 * 0 + j = 3 + j := by omega
    rw [e3]
    refine (copyFrom_tot (i0 := 0) (i1 := 3 + j) (by omega)).mono ?_
    rintro m1 ⟨c1, -, -, -, -, -, c2⟩
    refine tot_some.mpr (tot_some.mpr ?_)
    dsimp only
    have hF1 : Fj [(5, 0), (7, 0), (20, 0), (21, 0), (22, 0), (23, 0), (24, 0)] [(11, 14)] m (wr m1 11 0 14 0) := ((Fj.rf.wrK (k := 5) (i := 0) (by simp) 0 (nI j)).tr ((c2.mono (by simp)).j)).wrJ (by simp) _ _
    have g5 : m1 5 0 0 = nI j := by
      rw [c2 5 0 (by simp)]
      exact wr_eq _ _ _ _ _
    have hW1 : mW (wr m1 11 0 14 0) = mW m := mW_fj hF1 (by decide) (by decide)
    have hw5 : WF (mW (wr m 5 0 0 (nI j))) := by rw [mW_fj (K := [(5, 0)]) (J := []) (Fj.rf.wrK (by decide) _ _) (by decide) (by simp)]; exact hW
    have hS5 : StC (mW m) (m 60 (2 + j)) (wr m 5 0 0 (nI j)) (3 + j) := s2.fr (by funext z; exact wr_k (by decide)) (by funext z; exact wr_k (by decide)) (by funext z; exact wr_k (by decide)) (by funext z; exact wr_k (by decide)) (by funext z; exact wr_k (by decide)) (by funext z; exact wr_k (by decide))
    have hS1 := c1 _ _ hW hS5
    have p36 : wr m1 11 0 14 0 12 0 36 = nI (j + 1) := (hF1 12 0 36 (by decide) (by decide)).trans n3
    unfold r_X12_undo
    rw [p36, if_neg (nI_ne0 (by omega) (by omega)), nI_pred, if_pos (inb_nI (by omega) (by omega)), clamp_nI (by omega), tot_bd2, tot_bd1]
    refine (copies_tot (i0 := 2 + j) (i1 := 0) (by omega)).mono ?_
    rintro m2 ⟨d1, d2⟩
    have hF2 : Fj [(60, 0)] [(12, 0), (12, 36), (12, 37)] (wr m1 11 0 14 0) (wr m2 12 0 37 0) := (((Fj.rf.wrJ (k := 12) (j := 0) (by simp) 0 0).wrJ (k := 12) (j := 36) (by simp) 0 (nI j)).tr (d2.mono (by simp)).j).wrJ (by simp) _ _
    have q36 : m2 12 0 36 = nI j := by
      rw [d2 12 0 (by simp)]
      exact wr_eq _ _ _ _ _
    refine tot_some.mpr ?_
    rw [if_pos (show m1 5 0 0 = m2 12 0 36 from g5.trans q36.symm)]
    refine tot_some.mpr ⟨?_, fun i => ?_⟩
    · have hW2 : mW (wr m2 12 0 37 0) = mW m := (mW_fj hF2 (by decide) (by decide)).trans hW1
      have rr : ∀ k i, (¬ k = 5 ∧ ¬ k = 11 ∧ ¬ k = 12 ∧ (i = 0 → ¬ k = 7 ∧ ¬ k = 20 ∧ ¬ k = 21 ∧ ¬ k = 22 ∧ ¬ k = 23 ∧ ¬ k = 24 ∧ ¬ k = 60)) → wr m2 12 0 37 0 k i = m k i := fun k i b => by
        rw [hF2.rw' k i (by simp; omega) (by simp; omega), hF1.rw' k i (by simp; omega) (by simp; omega)]
      have ff : ∀ j9, ¬ j9 = 0 → ¬ j9 = 36 → ¬ j9 = 37 → wr m2 12 0 37 0 12 0 j9 = m 12 0 j9 := fun j9 b1 b2 b3 => by
        rw [hF2 12 0 j9 (by simp) (by simp; omega), hF1 12 0 j9 (by simp) (by simp)]
      have r60 : Er (wr m2 12 0 37 0 60 0) (m 60 (2 + j)) := by
        have e1 : wr m2 12 0 37 0 60 0 = m2 60 0 := by funext z; exact wr_k (by decide)
        have e2 : wr (wr (wr m1 11 0 14 0) 12 0 0 0) 12 0 36 (nI j) 60 (2 + j) = m 60 (2 + j) := by
          funext z
          rw [wr_k (by decide), wr_k (by decide)]
          exact congrFun (hF1.rw' 60 (2 + j) (by simp) (by simp)) z
        rw [e1, ← e2]
        exact d1
      have st0 : ∀ k, k ∈ [7, 20, 21, 22, 23, 24] → wr m2 12 0 37 0 k 0 = m1 k 0 := fun k hk => by
        simp only [List.mem_cons, List.not_mem_nil, or_false] at hk
        rw [hF2.rw' k 0 (by simp; omega) (by simp; omega)]
        funext z
        exact wr_k (by omega)
      have hsS : EqS m (wr m2 12 0 37 0) := fun i k hi hk => by
        simp only [List.mem_cons, List.not_mem_nil, or_false] at hk
        exact rr k i (by omega)
      refine ⟨?_, ?_, ?_, ?_, ?_, ?_, ?_⟩
      · unfold I1
        rw [hW2]
        refine ⟨hW, s3.er hW r60.sy, ?_, ?_, ?_⟩
        · exact hL.fr (rr 3 0 (by omega)) (rr 25 0 (by omega)) (rr 26 0 (by omega)) (rr 27 0 (by omega)) (rr 28 0 (by omega)) (rr 29 0 (by omega))
        · exact hC.fr (rr 4 0 (by omega)) (rr 34 0 (by omega))
        · exact (hS1.fr (st0 7 (by simp)) (st0 20 (by simp)) (st0 21 (by simp)) (st0 22 (by simp)) (st0 23 (by simp)) (st0 24 (by simp))).er hW r60.sy
      · exact a2.c (congrFun (rr 8 0 (by omega)) 1) (congrFun (rr 8 0 (by omega)) 3) (ff 1 (by decide) (by decide) (by decide)) (ff 3 (by decide) (by decide) (by decide)) (rr 37 0 (by omega)) (rr 49 0 (by omega))
      · refine ⟨j, by omega, ?_, ?_, fun i hi => ⟨?_, ?_⟩⟩
        · show wr m2 12 0 37 0 5 0 0 = nI j
          rw [congrFun (hF2.rw' 5 0 (by decide) (by decide)) 0, wr_k (by decide)]
          exact g5
        · show wr m2 12 0 37 0 12 0 36 = nI j
          rw [wr_j (by decide)]
          exact q36
        · show ¬ wr m2 12 0 37 0 46 0 i = 0
          rw [rr 46 0 (by omega)]
          exact (n4 i (by omega)).1
        · show SvC (wr m2 12 0 37 0) (3 + i) (wr m2 12 0 37 0 60 (2 + i))
          rw [rr 60 (2 + i) (by omega)]
          exact (n4 i (by omega)).2.c hW2 (fun k9 hk9 => hsS _ k9 (by omega) hk9)
      · exact a4.c hW2 (rr 2 0 (by omega)) (ff 38 (by decide) (by decide) (by decide)) (rr 47 0 (by omega)) (rr 48 0 (by omega)) (fun i => rr 83 i (by omega)) (fun i => by show wr m2 12 0 37 0 5 (1 + i) = _; rw [hF2.rw' 5 (1 + i) (by simp) (by simp), hF1.rw' 5 (1 + i) (by simp; omega) (by simp)]) (fun i => rr 46 (1 + i) (by omega)) hsS
      · exact a5.c hW2 (rr 1 0 (by omega)) (ff 35 (by decide) (by decide) (by decide)) (fun i => rr 77 i (by omega)) (rr 36 0 (by omega))
      · obtain ⟨b1, b2, b3⟩ := a6
        have e11 : ∀ j9, ¬ j9 = 14 → wr m2 12 0 37 0 11 0 j9 = m 11 0 j9 := fun j9 h9 => by
          rw [hF2 11 0 j9 (by decide) (by simp), hF1 11 0 j9 (by decide) (by simp [h9])]
        have e50 := rr 50 0 (by omega)
        show I6 0 0 (wr m2 12 0 37 0)
        unfold I6
        rw [e50, e11 15 (by decide), e11 16 (by decide), hF2 11 0 14 (by decide) (by decide), wr_eq, wr_eq]
        exact ⟨b1, b2, rfl⟩
      · exact a7.c (fun i => rr 94 i (by omega)) (fun i => rr 46 i (by omega)) (rr 47 0 (by omega)) (rr 48 0 (by omega))
    · show wr m2 12 0 37 0 100 i = m 100 i
      rw [hF2.rw' 100 i (by simp) (by simp), hF1.rw' 100 i (by simp) (by simp)]
/-! feed -/
theorem and255 (x : Int32) : ∃ c, c < 256 ∧ x &&& 255 = nI c := by
  obtain ⟨n, -, rfl⟩ := wb_of32 x
  exact ⟨n % 256, Nat.mod_lt _ (by decide), fa_mask n 8⟩
/-- the j-th byte of a number -/
def byt (x : Int32) (j : Nat) : Int32 := (x >>> (nI (24 - 8 * j) &&& 31)) &&& 255
theorem byt_u (x : Int32) {j : Nat} (hj : j < 4) : ((x.toUInt32 >>> ((nI (24 - 8 * j)).toUInt32 &&& Int32.toUInt32 31)).toInt32) &&& 255 = byt x j := by
  unfold byt
  apply b_ext
  intro i hi
  rw [b_and, b_and, b_255]
  by_cases h : i < 8
  · rw [b_ushr _ (by omega), b_sshr _ (by omega) _ hi, if_pos (by omega)]
  · rw [decide_eq_false h, Bool.and_false, Bool.and_false]
set_option maxHeartbeats 1000000 in
theorem append_c {m : Mem} {x : Int32} {f : Nat} (hf : m 8 0 1 = nI f) (h6 : f + 4 ≤ 600) : Tot (r_X8_append x m) (fun m' => m' 8 0 1 = nI (f + 4) ∧ (∀ j, j < 4 → m' 37 0 (f + j) = byt x j) ∧ (∀ j, j < f → m' 37 0 j = m 37 0 j) ∧ Fj [(37, 0)] [(8, 1)] m m') := by
  unfold r_X8_append r_X8_append_l3
  rw [tot_bd1]
  have hx : ∀ k, k < 4 → [(24 : Int32), 16, 8, 0, -8].getD k 0 = nI (24 - 8 * k) := by decide
  have hx2 : ∀ k, k < 4 → nI (24 - 8 * k) + (-8) = [(24 : Int32), 16, 8, 0, -8].getD (k + 1) 0 := by decide
  refine tot_for (fun k (t : Int32 × Mem) => t.1 = [(24 : Int32), 16, 8, 0, -8].getD k 0 ∧ t.2 8 0 1 = nI (f + k) ∧ (∀ j, j < k → t.2 37 0 (f + j) = byt x j) ∧ (∀ j, j < f → t.2 37 0 j = m 37 0 j) ∧ Fj [(37, 0)] [(8, 1)] m t.2) 4 ?_ ?_ 0 _ (Nat.zero_le _) ⟨rfl, hf, fun j hj => absurd hj (Nat.not_lt_zero j), fun _ _ => rfl, Fj.rf⟩
  · rintro k ⟨x2, m1⟩ hk ⟨e1, e2, e3, e4, hF⟩
    dsimp only at e1 e2 e3 e4 hF ⊢
    rw [hx k hk] at e1
    subst e1
    unfold r_X8_append_b3
    rw [if_neg (nI_pos (by omega)), e2, if_neg (show ¬ (600 : Int32) ≤ nI (f + k) from nI_ge (b := 600) (a := f + k) (by omega) (by omega)), if_pos (inb_nI (by omega) (by omega)), clamp_nI (by omega), byt_u x hk]
    refine tot_some.mpr ⟨hx2 k hk, ?_, fun j hj => ?_, fun j hj => ?_, (hF.wrK (by decide) _ _).wrJ (by decide) _ _⟩
    · show wr (wr m1 37 0 (f + k) (byt x k)) 8 0 1 (nI (f + k) + 1) 8 0 1 = _
      rw [wr_eq, ← nI_succ]
      rfl
    · show wr (wr m1 37 0 (f + k) (byt x k)) 8 0 1 (nI (f + k) + 1) 37 0 (f + j) = _
      rw [wr_k (by decide), wr_if]
      by_cases hjk : j = k
      · rw [if_pos (by rw [hjk]), hjk]
      · rw [if_neg (by omega)]
        exact e3 j (by omega)
    · show wr (wr m1 37 0 (f + k) (byt x k)) 8 0 1 (nI (f + k) + 1) 37 0 j = _
      rw [wr_k (by decide), wr_if, if_neg (by omega)]
      exact e4 j hj
  · rintro ⟨x2, m1⟩ ⟨e1, e2, e3, e4, hF⟩
    dsimp only at e1 e2 e3 e4 hF ⊢
    subst e1
    unfold r_X8_append_b3
    rw [if_pos (by decide), tot_some]
    exact tot_some.mpr ⟨e2, e3, e4, hF⟩
def fbt (x1 x2 x3 x4 x5 : Int32) (q : Nat) : Int32 := byt ([x1, x2, x3, x4, x5].getD (q / 4) 0) (q % 4)
set_option maxHeartbeats 1000000 in
theorem feed_c {m : Mem} {x1 x2 x3 x4 x5 : Int32} {f : Nat} (hf : m 8 0 1 = nI f) (h6 : f + 20 ≤ 600) : Tot (r_X11_feed x1 x2 x3 x4 x5 m) (fun q => q.1 = nI (f + 20) ∧ q.2 8 0 1 = nI (f + 20) ∧ (∀ j, j < 20 → q.2 37 0 (f + j) = fbt x1 x2 x3 x4 x5 j) ∧ (∀ j, j < f → q.2 37 0 j = m 37 0 j) ∧ Fj [(37, 0)] [(8, 1)] m q.2) := by
  unfold r_X11_feed
  have e20 : nI f + 20 = nI (f + 20) := nI_add f 20
  rw [hf, e20, if_pos (show nI (f + 20) ≤ (600 : Int32) from nI_le (a := f + 20) (b := 600) h6 (by omega)), tot_bd1]
  refine (append_c hf (by omega)).mono ?_
  rintro m1 ⟨a1, a2, a3, a4⟩
  rw [tot_bd1]
  refine (append_c a1 (by omega)).mono ?_
  rintro m2 ⟨b1, b2, b3, b4⟩
  rw [tot_bd1]
  refine (append_c b1 (by omega)).mono ?_
  rintro m3 ⟨c1, c2, c3, c4⟩
  rw [tot_bd1]
  refine (append_c c1 (by omega)).mono ?_
  rintro m4 ⟨d1, d2, d3, d4⟩
  rw [tot_bd1]
  refine (append_c d1 (by omega)).mono ?_
  rintro m5 ⟨e1, e2, e3, e4⟩
  have e1' : m5 8 0 1 = nI (f + 20) := e1
  refine tot_some.mpr ⟨e1', e1', fun j hj => ?_, fun j hj => ?_, (((a4.tr b4).tr c4).tr d4).tr e4⟩
  · show m5 37 0 (f + j) = _
    unfold fbt
    have h5 : j / 4 < 5 := by omega
    have hm : j = 4 * (j / 4) + j % 4 := by omega
    have hr : j % 4 < 4 := Nat.mod_lt _ (by decide)
    generalize j / 4 = i at h5 hm ⊢
    generalize j % 4 = k at hm hr ⊢
    subst hm
    match i, h5 with
    | 0, _ =>
      rw [e3 _ (by omega), d3 _ (by omega), c3 _ (by omega), b3 _ (by omega), show f + (4 * 0 + k) = f + k by omega, a2 k hr]
      rfl
    | 1, _ =>
      rw [e3 _ (by omega), d3 _ (by omega), c3 _ (by omega), show f + (4 * 1 + k) = f + 4 + k by omega, b2 k hr]
      rfl
    | 2, _ =>
      rw [e3 _ (by omega), d3 _ (by omega), show f + (4 * 2 + k) = f + 4 + 4 + k by omega, c2 k hr]
      rfl
    | 3, _ =>
      rw [e3 _ (by omega), show f + (4 * 3 + k) = f + 4 + 4 + 4 + k by omega, d2 k hr]
      rfl
    | 4, _ =>
      rw [show f + (4 * 4 + k) = f + 4 + 4 + 4 + 4 + k by omega, e2 k hr]
      rfl
  · show m5 37 0 j = _
    rw [e3 j (by omega), d3 j (by omega), c3 j (by omega), b3 j (by omega), a3 j hj]
set_option maxHeartbeats 1000000 in
theorem feed_m {m : Mem} {x1 x2 x3 x4 x5 : Int32} {f : Nat} (hf : m 12 0 1 = nI f) (h6 : f + 20 ≤ 600) : Tot (r_X12_feed x1 x2 x3 x4 x5 m) (fun q => q.1 = nI (f + 20) ∧ q.2 12 0 1 = nI (f + 20) ∧ (∀ j, j < 20 → q.2 49 0 (f + j) = fbt x1 x2 x3 x4 x5 j) ∧ (∀ j, j < f → q.2 49 0 j = m 49 0 j) ∧ Fj [(49, 0)] [(12, 0), (12, 1)] m q.2) := by
  unfold r_X12_feed r_X12_feed_l23
  have e20 : nI f + 20 = nI (f + 20) := nI_add f 20
  rw [hf, e20, if_pos (show nI (f + 20) ≤ (600 : Int32) from nI_le (a := f + 20) (b := 600) h6 (by omega)), tot_bd1]
  refine tot_for (fun k (t : Int32 × Mem) => t.1 = nI k ∧ t.2 12 0 1 = nI (f + k) ∧ (∀ j, j < k → t.2 49 0 (f + j) = fbt x1 x2 x3 x4 x5 j) ∧ (∀ j, j < f → t.2 49 0 j = m 49 0 j) ∧ Fj [(49, 0)] [(12, 0), (12, 1)] m t.2) 20 ?_ ?_ 0 _ (Nat.zero_le _) ⟨rfl, (show wr m 12 0 0 0 12 0 1 = nI f from (wr_j (by decide)).trans hf), fun j hj => absurd hj (Nat.not_lt_zero j), fun j _ => (show wr m 12 0 0 0 49 0 j = m 49 0 j from wr_k (by decide)), Fj.rf.wrJ (by decide) _ _⟩
  · rintro k ⟨x6, m1⟩ hk ⟨e1, e2, e3, e4, hF⟩
    dsimp only at e1 e2 e3 e4 hF ⊢
    subst e1
    have sh : 24 - 8 * remI (nI k) 4 = nI (24 - 8 * (k % 4)) := by
      have h1 : remI (nI k) 4 = nI (k % 4) := fa_rem (a := k) (k := 2) (by omega) (by decide)
      rw [h1]
      show nI 24 - nI 8 * nI (k % 4) = _
      rw [nI_mul, nI_sub (by omega)]
    have key : ∀ v : Int32, v = [x1, x2, x3, x4, x5].getD (k / 4) 0 → Tot (r_X12_feed_j76_c23 x1 x2 x3 x4 x5 (nI k) v m1) (Sum.elim (fun t : Int32 × Mem => t.1 = nI (k + 1) ∧ t.2 12 0 1 = nI (f + (k + 1)) ∧ (∀ j, j < k + 1 → t.2 49 0 (f + j) = fbt x1 x2 x3 x4 x5 j) ∧ (∀ j, j < f → t.2 49 0 j = m 49 0 j) ∧ Fj [(49, 0)] [(12, 0), (12, 1)] m t.2) (fun x => Tot (r_X12_feed_e120_h23 x) (fun q => q.1 = nI (f + 20) ∧ q.2 12 0 1 = nI (f + 20) ∧ (∀ j, j < 20 → q.2 49 0 (f + j) = fbt x1 x2 x3 x4 x5 j) ∧ (∀ j, j < f → q.2 49 0 j = m 49 0 j) ∧ Fj [(49, 0)] [(12, 0), (12, 1)] m q.2))) := by
      intro v hv
      unfold r_X12_feed_j76_c23
      rw [e2, if_pos (inb_nI (by omega) (by omega)), clamp_nI (by omega), sh]
      have hb : (v >>> (nI (24 - 8 * (k % 4)) &&& 31)) &&& 255 = fbt x1 x2 x3 x4 x5 k := by
        rw [hv]
        rfl
      rw [hb]
      refine tot_some.mpr ⟨(nI_succ k).symm, ?_, fun j hj => ?_, fun j hj => ?_, (hF.wrK (by decide) _ _).wrJ (by decide) _ _⟩
      · show wr (wr m1 49 0 (f + k) (fbt x1 x2 x3 x4 x5 k)) 12 0 1 (nI (f + k) + 1) 12 0 1 = _
        rw [wr_eq, ← nI_succ]
        rfl
      · show wr (wr m1 49 0 (f + k) (fbt x1 x2 x3 x4 x5 k)) 12 0 1 (nI (f + k) + 1) 49 0 (f + j) = _
        rw [wr_k (by decide), wr_if]
        by_cases hjk : j = k
        · rw [if_pos (by rw [hjk]), hjk]
        · rw [if_neg (by omega)]
          exact e3 j (by omega)
      · show wr (wr m1 49 0 (f + k) (fbt x1 x2 x3 x4 x5 k)) 12 0 1 (nI (f + k) + 1) 49 0 j = _
        rw [wr_k (by decide), wr_if, if_neg (by omega)]
        exact e4 j hj
    unfold r_X12_feed_b23
    rw [if_neg (show ¬ (20 : Int32) ≤ nI (k) from nI_ge (b := 20) (a := k) (by omega) (by omega))]
    by_cases h4 : k < 4
    · rw [if_neg (show ¬ (4 : Int32) ≤ nI (k) from nI_ge (b := 4) (a := k) (by omega) (by omega))]
      exact key x1 (by rw [show k / 4 = 0 by omega]; rfl)
    · rw [if_pos (show (4 : Int32) ≤ nI (k) from nI_le (a := 4) (b := k) (by omega) (by omega))]
      by_cases h8 : k < 8
      · rw [if_neg (show ¬ (8 : Int32) ≤ nI (k) from nI_ge (b := 8) (a := k) (by omega) (by omega))]
        exact key x2 (by rw [show k / 4 = 1 by omega]; rfl)
      · rw [if_pos (show (8 : Int32) ≤ nI (k) from nI_le (a := 8) (b := k) (by omega) (by omega))]
        by_cases h12 : k < 12
        · rw [if_neg (show ¬ (12 : Int32) ≤ nI (k) from nI_ge (b := 12) (a := k) (by omega) (by omega))]
          exact key x3 (by rw [show k / 4 = 2 by omega]; rfl)
        · rw [if_pos (show (12 : Int32) ≤ nI (k) from nI_le (a := 12) (b := k) (by omega) (by omega))]
          by_cases h16 : k < 16
          · rw [if_neg (show ¬ (16 : Int32) ≤ nI (k) from nI_ge (b := 16) (a := k) (by omega) (by omega))]
            exact key x4 (by rw [show k / 4 = 3 by omega]; rfl)
          · rw [if_pos (show (16 : Int32) ≤ nI (k) from nI_le (a := 16) (b := k) (by omega) (by omega))]
            exact key x5 (by rw [show k / 4 = 4 by omega]; rfl)
  · rintro ⟨x6, m1⟩ ⟨e1, e2, e3, e4, hF⟩
    dsimp only at e1 e2 e3 e4 hF ⊢
    subst e1
    unfold r_X12_feed_b23
    rw [if_pos (by decide), tot_some]
    exact tot_some.mpr ⟨e2, e2, e3, e4, hF⟩
theorem op_0 {x4 : Int32} {m : Mem} (hI : Inv m) (hx : Sx x4 m) : Tot (r_L_op_0 x4 m) (fun m7 => Inv m7 ∧ ∀ i, m7 100 i = m 100 i) := by
  have i1 : inb (x4 + 1) (m 100 1 0).toNatClampNeg = true := hx 1 (by decide)
  have i2 : inb (x4 + 2) (m 100 1 0).toNatClampNeg = true := hx 2 (by decide)
  have i3 : inb (x4 + 3) (m 100 1 0).toNatClampNeg = true := hx 3 (by decide)
  have i4 : inb (x4 + 4) (m 100 1 0).toNatClampNeg = true := hx 4 (by decide)
  have i5 : inb (x4 + 5) (m 100 1 0).toNatClampNeg = true := hx 5 (by decide)
  obtain ⟨a1, a2, a3, a4, a5, a6, a7⟩ := hI
  obtain ⟨⟨f, f6, f1, f2, f3⟩, f4⟩ := id a2
  unfold r_L_op_0
  rw [if_pos i1, if_pos i2, if_pos i3, if_pos i4, if_pos i5, tot_bd2]
  have e20 : nI f + 20 = nI (f + 20) := nI_add f 20
  by_cases h6 : f + 20 ≤ 600
  · refine (feed_c f1 h6).mono ?_
    rintro ⟨z, m1⟩ ⟨g1, g2, g3, g4, g5⟩
    dsimp only at g1 g2 g3 g4 g5 ⊢
    have h100 : ∀ i, m1 100 i = m 100 i := fun i => g5.rw' 100 i (by simp) (by simp)
    simp only [h100, if_pos i1, if_pos i2, if_pos i3, if_pos i4, if_pos i5]
    rw [tot_bd2]
    refine (feed_m (f := f) ((g5 12 0 1 (by decide) (by decide)).trans f2) h6).mono ?_
    rintro ⟨z2, m2⟩ ⟨k1, k2, k3, k4, k5⟩
    dsimp only at k1 k2 k3 k4 k5 ⊢
    rw [if_pos (g1.trans k1.symm)]
    have hF : Fj [(37, 0), (49, 0)] [(8, 1), (12, 0), (12, 1)] m m2 := (g5.mono (by simp) (by simp)).tr (k5.mono (by simp) (by simp))
    have rr : ∀ k i, ¬ k = 37 → ¬ k = 49 → ¬ k = 8 → ¬ k = 12 → m2 k i = m k i := fun k i b1 b2 b3 b4 => hF.rw' k i (by simp; omega) (by simp; omega)
    have ff : ∀ j, ¬ j = 0 → ¬ j = 1 → m2 12 0 j = m 12 0 j := fun j b1 b2 => hF 12 0 j (by simp) (by simp [b1, b2])
    have hW2 : mW m2 = mW m := mW_fj hF (by decide) (by decide)
    have hs : EqS m m2 := EqS.of hF (by simp) (by decide)
    refine tot_some.mpr ⟨⟨?_, ?_, ?_, ?_, ?_, ?_, ?_⟩, fun i => rr 100 i (by decide) (by decide) (by decide) (by decide)⟩
    · exact a1.c hW2 (rr 60 0 (by decide) (by decide) (by decide) (by decide)) (fun k hk => by simp only [List.mem_cons, List.not_mem_nil, or_false] at hk; exact rr k 0 (by omega) (by omega) (by omega) (by omega)) (fun k hk => by simp only [List.mem_cons, List.not_mem_nil, or_false] at hk; exact rr k 0 (by omega) (by omega) (by omega) (by omega))
    · refine ⟨⟨f + 20, h6, ?_, k2, fun k hk => ?_⟩, ?_⟩
      · rw [k5 8 0 1 (by decide) (by decide)]
        exact g2
      · have e37 : m2 37 0 k = m1 37 0 k := congrFun (k5.rw' 37 0 (by decide) (by decide)) k
        by_cases hkf : k < f
        · rw [e37, g4 k hkf, k4 k hkf, congrFun (g5.rw' 49 0 (by decide) (by decide)) k]
          exact f3 k hkf
        · obtain ⟨q, hq⟩ : ∃ q, k = f + q := ⟨k - f, by omega⟩
          subst hq
          rw [e37, g3 q (by omega), k3 q (by omega)]
          exact ⟨rfl, and255 _⟩
      · rw [hF 8 0 3 (by decide) (by decide), ff 3 (by decide) (by decide)]
        exact f4
    · exact a3.c hW2 (rr 5 0 (by decide) (by decide) (by decide) (by decide)) (ff 36 (by decide) (by decide)) (rr 46 0 (by decide) (by decide) (by decide) (by decide)) (fun j => rr 60 _ (by decide) (by decide) (by decide) (by decide)) hs
    · exact a4.c hW2 (rr 2 0 (by decide) (by decide) (by decide) (by decide)) (ff 38 (by decide) (by decide)) (rr 47 0 (by decide) (by decide) (by decide) (by decide)) (rr 48 0 (by decide) (by decide) (by decide) (by decide)) (fun j => rr 83 _ (by decide) (by decide) (by decide) (by decide)) (fun j => rr 5 _ (by decide) (by decide) (by decide) (by decide)) (fun j => rr 46 _ (by decide) (by decide) (by decide) (by decide)) hs
    · exact a5.c hW2 (rr 1 0 (by decide) (by decide) (by decide) (by decide)) (ff 35 (by decide) (by decide)) (fun j => rr 77 _ (by decide) (by decide) (by decide) (by decide)) (rr 36 0 (by decide) (by decide) (by decide) (by decide))
    · unfold I6 at a6 ⊢
      rw [rr 11 0 (by decide) (by decide) (by decide) (by decide), rr 50 0 (by decide) (by decide) (by decide) (by decide), ff 37 (by decide) (by decide)]
      exact a6
    · exact a7.c (fun i => rr 94 i (by decide) (by decide) (by decide) (by decide)) (fun p => rr 46 p (by decide) (by decide) (by decide) (by decide)) (rr 47 0 (by decide) (by decide) (by decide) (by decide)) (rr 48 0 (by decide) (by decide) (by decide) (by decide))
  · have hno : ¬ nI (f + 20) ≤ (600 : Int32) := (show ¬ nI (f + 20) ≤ nI 600 from nI_ge (by omega) (by omega))
    unfold r_X11_feed
    rw [f1, e20, if_neg hno]
    refine tot_some.mpr ?_
    simp only [if_pos i1, if_pos i2, if_pos i3, if_pos i4, if_pos i5]
    unfold r_X12_feed
    rw [f2, e20, if_neg hno, tot_bd2]
    refine tot_some.mpr ?_
    rw [if_pos rfl]
    exact tot_some.mpr ⟨InvX.th ⟨a1, a2, a3, a4, a5, a6, a7⟩ 0, th_100 m 0⟩
