/-! ===== rows alike; a state, a row copied; digs ===== -/
def Er (r r' : Rw) : Prop := ∀ q, q < 111 → r q = r' q
theorem Er.rf {r : Rw} : Er r r := fun _ _ => rfl
theorem Er.sy {r r' : Rw} (h : Er r r') : Er r' r := fun q hq => (h q hq).symm
theorem Er.tr {r r' r'' : Rw} (h : Er r r') (h2 : Er r' r'') : Er r r'' := fun q hq => (h q hq).trans (h2 q hq)
theorem drq_er {w : Wd} {r r' : Rw} (hW : WF w) (h : Er r r') {a b : Nat} (ha : a < 12) (hz : ¬ bw w a b = -1) : drq w r a b = drq w r' a b := by
  have hN := hW.2.2.1.2
  have hD := hW.2.1.2
  obtain ⟨e, he, hze, -⟩ := (bw_or w a b).resolve_left hz
  unfold drq drw
  rw [hze, clamp_nI (by omega), h (78 + e) (by omega), h (94 + e) (by omega), h 110 (by omega), pds_cong (tr' := w 4) (wh' := fun p => r' (72 + p)) (bl' := fun p => r' (12 * p + a)) (fun p hp => ⟨rfl, h (72 + p) (by omega), h (12 * p + a) (by omega)⟩)]
theorem nxt_er {w : Wd} {r r' : Rw} (hW : WF w) (h : Er r r') {a : Nat} (ha : a < 12) : nxt w r a = nxt w r' a := by
  unfold nxt
  rw [bst_cong (g' := fun b => if bw w a b = -1 then none else some (drq w r' a b))]
  intro b _
  by_cases hz : bw w a b = -1
  · rw [if_pos hz, if_pos hz]
  · rw [if_neg hz, if_neg hz, drq_er hW h ha hz]
theorem crs_er {w : Wd} {r r' : Rw} (hW : WF w) (h : Er r r') : cL w r = cL w r' ∧ cB w r = cB w r' ∧ cE w r = cE w r' ∧ ∀ k, cP w r k = cP w r' k := by
  have hP := hW.1.2
  have hn : ∀ a, a < wP w → nxt w r a = nxt w r' a := fun a ha => nxt_er hW h (by omega)
  obtain ⟨c1, c2, c3⟩ := cln_cong (FF_of hW r) hn
  exact ⟨c1, c2, c3, pth_cong (FF_of hW r) hn⟩
theorem StC.er {w : Wd} {r r' : Rw} {m : Mem} {i : Nat} (hW : WF w) (hS : StC w r m i) (h : Er r r') : StC w r' m i := by
  have hN := hW.2.2.1.2
  exact ⟨hS.1.trans (h 110 (by omega)), hS.2.1, fun p hp => ⟨(hS.2.2.1 p hp).1, (hS.2.2.1 p hp).2.trans (h _ (by omega))⟩, fun p a hp ha => (hS.2.2.2.1 p a hp ha).trans (h _ (by omega)), fun e he => ⟨(hS.2.2.2.2 e he).1.trans (h _ (by omega)), (hS.2.2.2.2 e he).2.trans (h _ (by omega))⟩⟩
theorem RF.er {w : Wd} {r r' : Rw} (hW : WF w) (hR : RF w r) (h : Er r r') : RF w r' := by
  have hN := hW.2.2.1.2
  refine ⟨fun p hp => ?_, fun p a hp ha => ?_, fun e he => ?_⟩
  · rw [← h (72 + p) (by omega)]
    exact hR.1 p hp
  · rw [← h (12 * p + a) (by omega)]
    exact hR.2.1 p a hp ha
  · rw [← h (78 + e) (by omega)]
    exact hR.2.2 e he
theorem cp_fr {m : Mem} {K : List (Nat × Nat)} {m1 : Mem} (h : Fr K m m1) {k0 i0 k1 i1 n : Nat} (hk : (k1, i1) ∈ K) : Fr K m (cpM m1 k0 i0 0 k1 i1 0 n) := by
  intro a b hab
  rw [← h a b hab]
  funext c
  unfold cpM
  rw [if_neg (fun e => hab (by rw [e.1, e.2]; exact hk))]
theorem cp_at (m : Mem) (k0 i0 k1 i1 n : Nat) {j : Nat} (hj : j < n) : cpM m k0 i0 0 k1 i1 0 n k1 i1 j = m k0 i0 j := by
  unfold cpM
  rw [if_pos ⟨rfl, rfl⟩]
  unfold va_cpy
  rw [if_pos ⟨Nat.zero_le _, by omega⟩]
  congr 1
  omega
theorem cp_k {m : Mem} {k0 i0 k1 i1 n a b : Nat} (h : ¬ a = k1) : cpM m k0 i0 0 k1 i1 0 n a b = m a b := by
  funext c
  unfold cpM
  rw [if_neg (fun e => h e.1)]
/-- a state copied into another -/
theorem copyFrom_tot {m : Mem} {i0 i1 : Nat} (hi : ¬ i0 = i1) : Tot (r_X7_copyFrom i0 i1 m) (fun m' => (∀ w r, WF w → StC w r m i1 → StC w r m' i0) ∧ m' 7 i0 0 = m 7 i1 0 ∧ m' 7 i0 1 = m 7 i1 1 ∧ (∀ j, j < 8 → m' 20 i0 j = m 20 i1 j ∧ m' 21 i0 j = m 21 i1 j) ∧ (∀ j, j < 96 → m' 22 i0 j = m 22 i1 j) ∧ (∀ j, j < 16 → m' 23 i0 j = m 23 i1 j ∧ m' 24 i0 j = m 24 i1 j) ∧ Fr [(7, i0), (20, i0), (21, i0), (22, i0), (23, i0), (24, i0)] m m') := by
  unfold r_X7_copyFrom
  refine tot_some.mpr ?_
  have hi' : ¬ i1 = i0 := fun e => hi e.symm
  have e1 : wr m 7 i0 0 (m 7 i1 0) 7 i1 1 = m 7 i1 1 := wr_i hi'
  rw [e1]
  have a7 : ∀ j, (cpM (cpM (cpM (cpM (cpM (wr (wr m 7 i0 0 (m 7 i1 0)) 7 i0 1 (m 7 i1 1)) 20 i1 0 20 i0 0 8) 21 i1 0 21 i0 0 8) 22 i1 0 22 i0 0 96) 23 i1 0 23 i0 0 16) 24 i1 0 24 i0 0 16) 7 i0 j = wr (wr m 7 i0 0 (m 7 i1 0)) 7 i0 1 (m 7 i1 1) 7 i0 j := fun j => by
    rw [cp_k (by decide), cp_k (by decide), cp_k (by decide), cp_k (by decide), cp_k (by decide)]
  have b0 : _ = m 7 i1 0 := (a7 0).trans ((wr_j (by decide)).trans (wr_eq _ _ _ _ _))
  have b1 : _ = m 7 i1 1 := (a7 1).trans (wr_eq _ _ _ _ _)
  have w9 : ∀ k j, ¬ k = 7 → wr (wr m 7 i0 0 (m 7 i1 0)) 7 i0 1 (m 7 i1 1) k i1 j = m k i1 j := fun k j hk => by rw [wr_k hk, wr_k hk]
  have b20 : ∀ j, j < 8 → (cpM (cpM (cpM (cpM (cpM (wr (wr m 7 i0 0 (m 7 i1 0)) 7 i0 1 (m 7 i1 1)) 20 i1 0 20 i0 0 8) 21 i1 0 21 i0 0 8) 22 i1 0 22 i0 0 96) 23 i1 0 23 i0 0 16) 24 i1 0 24 i0 0 16) 20 i0 j = m 20 i1 j := fun j hj => by
    rw [cp_k (by decide), cp_k (by decide), cp_k (by decide), cp_k (by decide), cp_at _ _ _ _ _ _ hj, w9 20 j (by decide)]
  have b21 : ∀ j, j < 8 → (cpM (cpM (cpM (cpM (cpM (wr (wr m 7 i0 0 (m 7 i1 0)) 7 i0 1 (m 7 i1 1)) 20 i1 0 20 i0 0 8) 21 i1 0 21 i0 0 8) 22 i1 0 22 i0 0 96) 23 i1 0 23 i0 0 16) 24 i1 0 24 i0 0 16) 21 i0 j = m 21 i1 j := fun j hj => by
    rw [cp_k (by decide), cp_k (by decide), cp_k (by decide), cp_at _ _ _ _ _ _ hj, cp_k (by decide), w9 21 j (by decide)]
  have b22 : ∀ j, j < 96 → (cpM (cpM (cpM (cpM (cpM (wr (wr m 7 i0 0 (m 7 i1 0)) 7 i0 1 (m 7 i1 1)) 20 i1 0 20 i0 0 8) 21 i1 0 21 i0 0 8) 22 i1 0 22 i0 0 96) 23 i1 0 23 i0 0 16) 24 i1 0 24 i0 0 16) 22 i0 j = m 22 i1 j := fun j hj => by
    rw [cp_k (by decide), cp_k (by decide), cp_at _ _ _ _ _ _ hj, cp_k (by decide), cp_k (by decide), w9 22 j (by decide)]
  have b23 : ∀ j, j < 16 → (cpM (cpM (cpM (cpM (cpM (wr (wr m 7 i0 0 (m 7 i1 0)) 7 i0 1 (m 7 i1 1)) 20 i1 0 20 i0 0 8) 21 i1 0 21 i0 0 8) 22 i1 0 22 i0 0 96) 23 i1 0 23 i0 0 16) 24 i1 0 24 i0 0 16) 23 i0 j = m 23 i1 j := fun j hj => by
    rw [cp_k (by decide), cp_at _ _ _ _ _ _ hj, cp_k (by decide), cp_k (by decide), cp_k (by decide), w9 23 j (by decide)]
  have b24 : ∀ j, j < 16 → (cpM (cpM (cpM (cpM (cpM (wr (wr m 7 i0 0 (m 7 i1 0)) 7 i0 1 (m 7 i1 1)) 20 i1 0 20 i0 0 8) 21 i1 0 21 i0 0 8) 22 i1 0 22 i0 0 96) 23 i1 0 23 i0 0 16) 24 i1 0 24 i0 0 16) 24 i0 j = m 24 i1 j := fun j hj => by
    rw [cp_at _ _ _ _ _ _ hj, cp_k (by decide), cp_k (by decide), cp_k (by decide), cp_k (by decide), w9 24 j (by decide)]
  refine ⟨fun w r hW hS => ?_, b0, b1, fun j hj => ⟨b20 j hj, b21 j hj⟩, b22, fun j hj => ⟨b23 j hj, b24 j hj⟩, ?_⟩
  · have hN := hW.2.2.1.2
    exact ⟨b0.trans hS.1, b1.trans hS.2.1, fun p hp => ⟨(b20 p (by omega)).trans (hS.2.2.1 p hp).1, (b21 p (by omega)).trans (hS.2.2.1 p hp).2⟩, fun p a hp ha => (b22 _ (by omega)).trans (hS.2.2.2.1 p a hp ha), fun e he => ⟨(b23 e he).trans (hS.2.2.2.2 e he).1, (b24 e he).trans (hS.2.2.2.2 e he).2⟩⟩
  · exact cp_fr (cp_fr (cp_fr (cp_fr (cp_fr ((Fr.rf.wr (by simp) _ _).wr (by simp) _ _) (by simp)) (by simp)) (by simp)) (by simp)) (by simp)
/-- a row copied into another -/
theorem copies_tot {m : Mem} {i0 i1 : Nat} (hi : ¬ i0 = i1) : Tot (r_X12_copies i0 i1 m) (fun m' => Er (m' 60 i1) (m 60 i0) ∧ Fr [(60, i1)] m m') := by
  unfold r_X12_copies r_X12_copies_l2
  rw [tot_bd1]
  refine tot_for (fun k s => s.1 = nI k ∧ (∀ q, q < k → s.2 60 i1 q = m 60 i0 q) ∧ Fr [(60, i1)] m s.2) 111 ?_ ?_ 0 _ (Nat.zero_le _) ⟨rfl, fun q hq => absurd hq (Nat.not_lt_zero q), Fr.rf⟩
  · rintro k ⟨x2, m1⟩ hk ⟨e1, e2, hF⟩
    dsimp only at e1 e2 hF ⊢
    subst e1
    unfold r_X12_copies_b2
    rw [if_neg (show ¬ (111 : Int32) ≤ nI (k) from nI_ge (b := 111) (a := k) (by omega) (by omega)), if_pos (inb_nI (by omega) (by omega)), clamp_nI (by omega), hF 60 i0 (by simp [hi])]
    refine tot_some.mpr ⟨(nI_succ k).symm, fun q hq => ?_, hF.wr (by simp) _ _⟩
    show wr m1 60 i1 k (m 60 i0 k) 60 i1 q = _
    rw [wr_if]
    by_cases h : q = k
    · rw [if_pos h, h]
    · rw [if_neg h]
      exact e2 q (by omega)
  · rintro ⟨x2, m1⟩ ⟨e1, e2, hF⟩
    dsimp only at e1 e2 hF ⊢
    subst e1
    unfold r_X12_copies_b2
    rw [if_pos (by decide), tot_some]
    exact tot_some.mpr ⟨e2, hF⟩
/-- the row with the ditch e dug to v -/
def dgr (r : Rw) (e : Nat) (v : Int32) : Rw := fun q => if q = 78 + e then v else r q
theorem dig_nxt {w : Wd} {r : Rw} (hW : WF w) {a e : Nat} (ha : a < 12) (he : e < 16) {k : Int32} : (bst (nxg w (wn w) (wD w) (wN w) r a (nI e) k) (wP w)).1 = nxt w (dgr r e (r (78 + e) + k)) a := by
  have hN := hW.2.2.1.2
  have hD := hW.2.1.2
  unfold nxt
  rw [bst_cong (g' := fun b => if bw w a b = -1 then none else some (drq w (dgr r e (r (78 + e) + k)) a b))]
  intro b _
  unfold nxg
  by_cases hz : bw w a b = -1
  · rw [if_pos hz, if_pos hz]
  · rw [if_neg hz, if_neg hz]
    obtain ⟨d, hd, hze, -⟩ := (bw_or w a b).resolve_left hz
    have hze' : btw w (wD w) (nI a) (nI b) = nI d := hze
    congr 1
    unfold drq drw
    rw [hze, hze', clamp_nI (by omega)]
    have p1 : pds (w 4) (fun p => dgr r e (r (78 + e) + k) (72 + p)) (fun p => dgr r e (r (78 + e) + k) (12 * p + a)) (nI a) (nI b) (0, 0, 0) (wN w) = pds (w 4) (fun p => r (72 + p)) (fun p => r (12 * p + a)) (nI a) (nI b) (0, 0, 0) (wN w) := pds_cong (fun p hp => ⟨rfl, if_neg (by omega), if_neg (by omega)⟩)
    have p2 : dgr r e (r (78 + e) + k) (78 + d) + 0 = r (78 + d) + (if nI d = nI e then k else 0) := by
      unfold dgr
      by_cases hde : d = e
      · rw [if_pos (by omega), if_pos (by rw [hde]), hde, add0]
      · rw [if_neg (by omega), if_neg (fun q => hde ((nI_eq (by omega) (by omega)).mp q))]
    have p3 : dgr r e (r (78 + e) + k) (94 + d) = r (94 + d) := if_neg (by omega)
    have p4 : dgr r e (r (78 + e) + k) 110 = r 110 := if_neg (by omega)
    rw [p1, p2, p3, p4]
/-- how much deeper: the first that turns it -/
def dgs (w : Wd) (r : Rw) (a b e d : Nat) : Int32 := if fa_first (fun k => decide (nxt w (dgr r e (nI (d + k))) a = nI b)) (10 - d) < 10 - d then nI (fa_first (fun k => decide (nxt w (dgr r e (nI (d + k))) a = nI b)) (10 - d)) else -1
set_option maxHeartbeats 1000000 in
theorem digs_c {w : Wd} {r : Rw} {m : Mem} {a b e d : Nat} (hW : WF w) (hL : CL w m) (hC : CW w m) (hS : StC w r m 1) (ha : a < wP w) (he : e < 16) (hd : m 23 0 e = nI d) (hd9 : d ≤ 9) : Tot (r_X0_findDigs_l36 0 (nI a) (nI b) (nI e) (nI d) m) (fun q => q.1 = dgs w r a b e d ∧ Fr [(33, 0), (35, 0), (23, 1)] m q.2) := by
  have hP := hW.1.2
  unfold r_X0_findDigs_l36
  rw [tot_bdS]
  refine tot_for (fun k s => s.1 = nI (d + k) ∧ (∀ j, j < k → decide (nxt w (dgr r e (nI (d + j))) a = nI b) = false) ∧ Fr [(33, 0), (35, 0), (23, 1)] m s.2 ∧ ∀ j, j < 16 → ¬ j = e → s.2 23 1 j = m 23 1 j) (10 - d) ?_ ?_ 0 _ (Nat.zero_le _) ⟨rfl, fun j hj => absurd hj (Nat.not_lt_zero j), Fr.rf, fun _ _ _ => rfl⟩
  · rintro k ⟨x5, m1⟩ hk ⟨e1, e2, hF, e3⟩
    dsimp only at e1 e2 hF e3 ⊢
    subst e1
    have hF1 : Fr [(33, 0), (35, 0), (23, 1)] m (wr m1 23 1 e (nI (d + k))) := hF.wr (by decide) _ _
    have hF1' : Fj [(33, 0), (35, 0), (23, 1)] [] m (wr m1 23 1 e (nI (d + k))) := hF1.j
    have hS1 : StC w (dgr r e (nI (d + k))) (wr m1 23 1 e (nI (d + k))) 1 := by
      have hN := hW.2.2.1.2
      refine ⟨?_, ?_, fun p hp => ⟨?_, ?_⟩, fun p c hp hc => ?_, fun e9 he9 => ⟨?_, ?_⟩⟩
      · rw [hF1 7 1 (by decide), hS.1]
        exact (if_neg (by omega)).symm
      · rw [hF1 7 1 (by decide), hS.2.1]
      · rw [hF1 20 1 (by decide), (hS.2.2.1 p hp).1]
      · rw [hF1 21 1 (by decide), (hS.2.2.1 p hp).2]
        exact (if_neg (by omega)).symm
      · rw [hF1 22 1 (by decide), hS.2.2.2.1 p c hp hc]
        exact (if_neg (by omega)).symm
      · rw [wr_if]
        unfold dgr
        by_cases h9 : e9 = e
        · rw [if_pos h9, if_pos (by omega)]
        · rw [if_neg h9, if_neg (by omega), e3 e9 he9 h9, (hS.2.2.2.2 e9 he9).1]
      · rw [hF1 24 1 (by decide), (hS.2.2.2.2 e9 he9).2]
        exact (if_neg (by omega)).symm
    unfold r_X0_findDigs_b36
    rw [if_neg (show ¬ (9 : Int32) < nI (d + k) from nI_nlt (a := 9) (b := d + k) (by omega) (by omega)), if_pos (inb_nI (by omega) (by omega)), clamp_nI (by omega), tot_bd2]
    refine (goesOn_tot hW (hL.fj hF1' (by decide) (by simp)) (hC.fj hF1' (by decide) (by simp)) hS1 ha).mono ?_
    rintro ⟨z, m2⟩ ⟨g1, g2⟩
    dsimp only at g1 g2 ⊢
    have hF2 : Fr [(33, 0), (35, 0), (23, 1)] m m2 := hF1.tr (g2.mono (by simp))
    by_cases hz : z = nI b
    · rw [if_pos hz]
      refine tot_some.mpr (tot_some.mpr ⟨?_, hF2⟩)
      show nI (d + k) - m2 23 0 e = _
      unfold dgs
      rw [hF2 23 0 (by decide), hd, nI_sub (by omega), show d + k - d = k by omega, first_at (p := fun k => decide (nxt w (dgr r e (nI (d + k))) a = nI b)) hk (decide_eq_true (g1.symm.trans hz)) e2, if_pos hk]
    · rw [if_neg hz]
      refine tot_some.mpr ⟨by rw [← nI_succ]; rfl, fun j hj => ?_, hF2, fun j hj hje => ?_⟩
      · by_cases hjk : j = k
        · rw [hjk]
          exact decide_eq_false (fun q => hz (g1.trans q))
        · exact e2 j (by omega)
      · show m2 23 1 j = _
        rw [g2 23 1 (by decide), wr_j hje]
        exact e3 j hj hje
  · rintro ⟨x5, m1⟩ ⟨e1, e2, hF, e3⟩
    dsimp only at e1 e2 hF e3 ⊢
    subst e1
    unfold r_X0_findDigs_b36
    rw [if_pos (show (9 : Int32) < nI (d + (10 - d)) from nI_lt (a := 9) (b := d + (10 - d)) (by omega) (by omega)), tot_some]
    show Tot (r_X0_findDigs_e88_h36 m1) _
    unfold r_X0_findDigs_e88_h36 dgs
    rw [tot_some, first_none (p := fun k => decide (nxt w (dgr r e (nI (d + k))) a = nI b)) e2, if_neg (Nat.lt_irrefl _)]
    exact ⟨rfl, hF⟩
set_option maxHeartbeats 1000000 in
theorem digs_m {m : Mem} {a b e d : Nat} (hW : WF (mW m)) (ha : a < 12) (he : e < 16) (hd : m 60 0 (78 + e) = nI d) (hd9 : d ≤ 9) : Tot (r_X12_digs_l47 (nI a) (nI b) (nI e) 0 m) (fun q => q.1 = dgs (mW m) (m 60 0) a b e d ∧ Fr [(55, 0), (56, 0)] m q.2) := by
  unfold r_X12_digs_l47
  rw [tot_bdS]
  refine tot_for (fun k s => s.1 = nI k ∧ (∀ j, j < k → decide (nxt (mW m) (dgr (m 60 0) e (nI (d + j))) a = nI b) = false) ∧ Fr [(55, 0), (56, 0)] m s.2) (10 - d) ?_ ?_ 0 _ (Nat.zero_le _) ⟨rfl, fun j hj => absurd hj (Nat.not_lt_zero j), Fr.rf⟩
  · rintro k ⟨x4, m1⟩ hk ⟨e1, e2, hF⟩
    dsimp only at e1 e2 hF ⊢
    subst e1
    have f60 : m1 60 0 = m 60 0 := hF 60 0 (by decide)
    have fW : mW m1 = mW m := mW_fj (J := []) hF.j (by decide) (by simp)
    have hW1 : WF (mW m1) := by rw [fW]; exact hW
    unfold r_X12_digs_b47
    rw [if_neg (m1_ne (by omega)), show 78 + nI e = nI (78 + e) from nI_add 78 e, if_pos (inb_nI (by omega) (by omega)), clamp_nI (by omega), f60, hd, nI_add, if_neg (show ¬ (9 : Int32) < nI (d + k) from nI_nlt (a := 9) (b := d + k) (by omega) (by omega)), tot_bd2]
    refine (nextWith_tot (n := wn (mW m1)) (P := wP (mW m1)) (D := wD (mW m1)) (N := wN (mW m1)) hW1.2.2.2.2.1 hW1.2.2.2.2.2.1 hW1.1.1 hW1.1.2 hW1.2.1.1 hW1.2.1.2 hW1.2.2.1.1 hW1.2.2.1.2 ha).mono ?_
    rintro ⟨z, m2⟩ ⟨g1, g2⟩
    dsimp only at g1 g2 ⊢
    rw [fW, f60, dig_nxt hW ha he, hd, nI_add] at g1
    by_cases hz : z = nI b
    · rw [if_pos hz]
      refine tot_some.mpr (tot_some.mpr ⟨?_, hF.tr g2⟩)
      show nI k = _
      unfold dgs
      rw [first_at (p := fun k => decide (nxt (mW m) (dgr (m 60 0) e (nI (d + k))) a = nI b)) hk (decide_eq_true (g1.symm.trans hz)) e2, if_pos hk]
    · rw [if_neg hz]
      refine tot_some.mpr ⟨(nI_succ k).symm, fun j hj => ?_, hF.tr g2⟩
      by_cases hjk : j = k
      · rw [hjk]
        exact decide_eq_false (fun q => hz (g1.trans q))
      · exact e2 j (by omega)
  · rintro ⟨x4, m1⟩ ⟨e1, e2, hF⟩
    dsimp only at e1 e2 hF ⊢
    subst e1
    have f60 : m1 60 0 = m 60 0 := hF 60 0 (by decide)
    unfold r_X12_digs_b47
    rw [if_neg (m1_ne (by omega)), show 78 + nI e = nI (78 + e) from nI_add 78 e, if_pos (inb_nI (by omega) (by omega)), clamp_nI (by omega), f60, hd, nI_add, if_pos (show (9 : Int32) < nI (d + (10 - d)) from nI_lt (a := 9) (b := d + (10 - d)) (by omega) (by omega)), tot_some]
    show Tot (r_X12_digs_e94_h47 m1) _
    unfold r_X12_digs_e94_h47 dgs
    rw [tot_some, first_none (p := fun k => decide (nxt (mW m) (dgr (m 60 0) e (nI (d + k))) a = nI b)) e2, if_neg (Nat.lt_irrefl _)]
    exact ⟨rfl, hF⟩
theorem pair_digs {m : Mem} (hI : Inv m) (p a : Int32) : Pair (fun m => r_L_digs p a m) (fun m => r_X12_digs p a m) m := by
  obtain ⟨hW, hR, hL, hC, hS⟩ := hI.1
  have bad : ¬ (isPl (mW m) p ∧ isPl (mW m) a) → ∀ m3, mW m3 = mW m → (∀ k i, ¬ k = 11 → m3 k i = m k i) → r_X12_digs p a m3 = some (0, badm m3 1 0) := by
    intro h m3 hm _
    have e : mW (wr m3 12 0 0 0) = mW m := by rw [mW_th, hm]
    have hW3 : WF (mW (wr m3 12 0 0 0)) := by rw [e]; exact hW
    have j : r_X12_digs_j22 p a (wr m3 12 0 0 0) = some (0, badm m3 1 0) := by
      unfold r_X12_digs_j22 r_X12_digs_j27
      rw [bd2_s (bad_10 (by decide)), if_pos rfl]
    unfold r_X12_digs
    by_cases hp : isPl (mW m) p
    · rw [bd1_s (isPlace_t hW3 (by rw [e]; exact hp)), if_pos rfl, bd1_s (isPlace_f hW3 (by rw [e]; exact fun q => h ⟨hp, q⟩)), if_neg (by decide)]
      exact j
    · rw [bd1_s (isPlace_f hW3 (by rw [e]; exact hp)), if_neg (by decide)]
      exact j
  by_cases hp : isPl (mW m) p
  case neg =>
    refine Pair.b0 (c := 1) hI rfl (by decide) ?_ (bad (fun q => hp q.1))
    unfold r_X11_digs
    rw [thr_r (needPlace_f hL hp)]
  by_cases ha : isPl (mW m) a
  case neg =>
    refine Pair.b0 (c := 1) hI rfl (by decide) ?_ (bad (fun q => ha q.2))
    unfold r_X11_digs
    rw [thr_l (needPlace_t hL hp), thr_r (needPlace_f hL ha)]
  obtain ⟨q, hq, rfl⟩ := isPl_of hW hp
  obtain ⟨b, hb, rfl⟩ := isPl_of hW ha
  have hP := hW.1.2
  have hD := hW.2.1.2
  by_cases hz : bw (mW m) q b = -1
  · refine Pair.ok (z := -1) [] [] [] [(12, 0)] hI ?_ (fun m3 _ hF => ?_) rfl rfl rfl rfl rfl rfl
    · unfold r_X11_digs r_X0_findDigs r_X3_between
      rw [thr_l (needPlace_t hL hp), thr_l (needPlace_t hL ha), ix12, if_pos (inb_nI (by omega) (by omega)), clamp_nI (by omega), hL.2.2.2.2.2.2.1 q b (by omega) (by omega), bd1_s rfl, if_pos hz]
      exact tot_some.mpr ⟨rfl, Fj.rf⟩
    · obtain ⟨e, h60⟩ := pre3 hF (by decide) (by simp) (by decide) (by simp)
      have hW3 : WF (mW (wr m3 12 0 0 0)) := by rw [e]; exact hW
      unfold r_X12_digs r_X12_digs_j27 r_X12_digs_l47
      rw [bd1_s (isPlace_t hW3 (by rw [e]; exact hp)), if_pos rfl, bd1_s (isPlace_t hW3 (by rw [e]; exact ha)), if_pos rfl, bd2_s bad_0, if_neg (by decide), bd1_s (btw_eq (D := wD (mW m)) (by rw [← e]; exact hW3.2.1.1) hD), e, show btw (mW m) (wD (mW m)) (nI q) (nI b) = -1 from hz, loopO_out (r := Sum.inl (wr m3 12 0 0 0)) (show r_X12_digs_b47 (nI q) (nI b) (-1) 0 (wr m3 12 0 0 0) = _ by unfold r_X12_digs_b47; rw [if_pos rfl])]
      exact tot_some.mpr ⟨rfl, th_z m3 0, th_fj m3 0⟩
  · obtain ⟨e0, he0, hze, -⟩ := (bw_or (mW m) q b).resolve_left hz
    obtain ⟨d, hd9, hd⟩ := hR.2.2 e0 (by omega)
    refine Pair.ok (z := dgs (mW m) (m 60 0) q b e0 d) [(33, 0), (35, 0), (7, 1), (20, 1), (21, 1), (22, 1), (23, 1), (24, 1)] [] [(55, 0), (56, 0)] [(12, 0)] hI ?_ (fun m3 _ hF => ?_) rfl rfl rfl rfl rfl rfl
    · unfold r_X11_digs r_X0_findDigs r_X3_between
      rw [thr_l (needPlace_t hL hp), thr_l (needPlace_t hL ha), ix12, if_pos (inb_nI (by omega) (by omega)), clamp_nI (by omega), hL.2.2.2.2.2.2.1 q b (by omega) (by omega), bd1_s rfl, if_neg hz, hze, tot_bd2, tot_bd1]
      refine (copyFrom_tot (i0 := 1) (i1 := 0) (by decide)).mono ?_
      rintro m1 ⟨c1, -, -, -, -, -, c2⟩
      have hF1 : Fj [(7, 1), (20, 1), (21, 1), (22, 1), (23, 1), (24, 1)] [] m m1 := c2.j
      rw [if_pos (inb_nI (by omega) (by omega)), clamp_nI (by omega), c2 23 0 (by decide), (hS.2.2.2.2 e0 (by omega)).1, hd]
      refine (digs_c hW (hL.fj hF1 (by decide) (by simp)) (hC.fj hF1 (by decide) (by simp)) (c1 _ _ hW hS) hq (by omega) (by rw [c2 23 0 (by decide), (hS.2.2.2.2 e0 (by omega)).1, hd]) hd9).mono ?_
      rintro ⟨z, m2⟩ ⟨g1, g2⟩
      exact tot_some.mpr ⟨congrArg Sum.inl g1, (hF1.mono (by simp) (by simp)).tr ((g2.mono (by simp)).j)⟩
    · obtain ⟨e, h60⟩ := pre3 hF (by decide) (by simp) (by decide) (by simp)
      have hW3 : WF (mW (wr m3 12 0 0 0)) := by rw [e]; exact hW
      unfold r_X12_digs r_X12_digs_j27
      rw [bd1_s (isPlace_t hW3 (by rw [e]; exact hp)), if_pos rfl, bd1_s (isPlace_t hW3 (by rw [e]; exact ha)), if_pos rfl, bd2_s bad_0, if_neg (by decide), bd1_s (btw_eq (D := wD (mW m)) (by rw [← e]; exact hW3.2.1.1) hD), e, show btw (mW m) (wD (mW m)) (nI q) (nI b) = nI e0 from hze]
      refine (digs_m (d := d) hW3 (by omega) (by omega) (by rw [h60]; exact hd) hd9).mono ?_
      rintro ⟨z, m4⟩ ⟨g1, g2⟩
      dsimp only at g1 g2 ⊢
      rw [e, h60] at g1
      refine ⟨g1, ?_, ((th_fj m3 0).mono (by simp) (by simp)).tr g2.j⟩
      rw [g2 12 0 (by decide)]
      exact th_z m3 0
