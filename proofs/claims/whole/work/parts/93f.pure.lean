/-! ===== work's doing: the reference ===== -/
abbrev KRg : List (Nat × Nat) := [(55, 0), (56, 0), (57, 0), (58, 0), (60, 0)]
abbrev JRg : List (Nat × Nat) := [(12, 42), (12, 43), (12, 44), (12, 37)]
theorem row_w (m : Mem) (k : Nat) (v : Int32) : wr m 60 0 k v 60 0 = putR (m 60 0) k v := by
  funext q
  rw [wr_if]
  rfl
theorem putR_id {r : Rw} {k : Nat} {v : Int32} (h : r k = v) : putR r k v = r := by
  funext q
  by_cases e : q = k
  · rw [e, putR_at, h]
  · exact putR_ne e
set_option maxHeartbeats 1000000 in
theorem does_m {m : Mem} {x : Sd} {j : Nat} (hW : WF (mW m)) (hR : RF (mW m) (m 60 0)) (hx : okSt (mW m) x) (hr : R4 m j x) : Tot (r_X12_does 0 j m) (fun q => q.1 = (doR (mW m) x (m 60 0)).1 ∧ q.2 60 0 = (doR (mW m) x (m 60 0)).2 ∧ Fj KRg [(12, 42)] m q.2) := by
  have hP := hW.1.2
  have hN := hW.2.2.1.2
  have hD := hW.2.1
  obtain ⟨r0, r1, r2, r3⟩ := hr
  unfold r_X12_does
  rw [r0]
  unfold doR
  rcases hx with ⟨k, p, a, c, hp, ha, hc, ep, ea, ec, hb⟩ | ⟨k, p, a, hp, ha, ep, ea⟩ | ⟨k, p, a, hp, ha, ep, ea⟩ | ⟨k, a, c, ha, hc, ea, ec, hb⟩ | k
  · have e1 : sP1 x = 12 * p + a := by unfold sP1; rw [ep, ea, clamp_nI (k := p) (by omega), clamp_nI (k := a) (by omega)]
    rw [if_pos k, if_pos k, r1 (Or.inl k), r2 (Or.inl k), r3 (Or.inl k), ep, ea, ec, e1, ix12', if_pos (inb_nI (by omega) (by omega)), clamp_nI (by omega)]
    by_cases q : m 60 0 (12 * p + a) = nI c
    · rw [if_pos q]
      refine tot_some.mpr ⟨(decide_eq_false (fun n => n q)).symm, ?_, Fj.rf⟩
      exact (putR_id q).symm
    · rw [if_neg q]
      exact tot_some.mpr ⟨(decide_eq_true q).symm, row_w _ _ _, Fj.rf.wrK (by simp) _ _⟩
  · have e1 : sP1 x = 12 * p + a := by unfold sP1; rw [ep, ea, clamp_nI (k := p) (by omega), clamp_nI (k := a) (by omega)]
    have n0 : ¬ sK x = 0 := by rw [k]; decide
    rw [if_neg n0, if_neg n0, if_pos k, if_pos k, r1 (Or.inr (Or.inl k)), r2 (Or.inr (Or.inl k)), ep, ea, e1, bd2_s (forgets_eq (by omega) (by omega))]
    exact tot_some.mpr ⟨rfl, row_w _ _ _, Fj.rf.wrK (by simp) _ _⟩
  · have n0 : ¬ sK x = 0 := by rw [k]; decide
    have n1 : ¬ sK x = 1 := by rw [k]; decide
    rw [if_neg n0, if_neg n0, if_neg n1, if_neg n1, if_pos k, if_pos k, r1 (Or.inr (Or.inr (Or.inl k))), r2 (Or.inr (Or.inr (Or.inl k))), ep, ea, clamp_nI (k := p) (by omega), clamp_nI (k := a) (by omega), bd2_s (walk_m hW (by omega))]
    refine tot_some.mpr ⟨rfl, ?_, ?_⟩
    · dsimp only
      unfold rw1
      by_cases q : mov (mW m) (m 60 0) p a = true
      · rw [if_pos q, if_pos q]
        exact row_w _ _ _
      · rw [if_neg q, if_neg q]
    · dsimp only
      by_cases q : mov (mW m) (m 60 0) p a = true
      · rw [if_pos q]
        exact Fj.rf.wrK (by simp) _ _
      · rw [if_neg q]
        exact Fj.rf
  · have n0 : ¬ sK x = 0 := by rw [k]; decide
    have n1 : ¬ sK x = 1 := by rw [k]; decide
    have n2 : ¬ sK x = 2 := by rw [k]; decide
    obtain ⟨e, he, ee⟩ := bw_e hW hb
    have eE : sE (mW m) x = e := by
      unfold sE
      rw [ea, ec, clamp_nI (k := a) (by omega), clamp_nI (k := c) (by omega), ee, clamp_nI (by omega)]
    obtain ⟨d, hd, ed⟩ := hR.2.2 e he
    have hbt : r_X12_between (nI a) (nI c) m = some (nI e) := by
      rw [btw_eq (D := wD (mW m)) hD.1 hD.2]
      exact congrArg some ee
    have e78 : (78 : Int32) + nI e = nI (78 + e) := nI_add 78 e
    rw [if_neg n0, if_neg n0, if_neg n1, if_neg n1, if_neg n2, if_neg n2, if_pos k, if_pos k, r2 (Or.inr (Or.inr (Or.inr k))), r3 (Or.inr k), ea, ec, eE, bd1_s hbt, e78, if_pos (inb_nI (k := 78 + e) (by omega) (by omega)), clamp_nI (k := 78 + e) (by omega), ed]
    by_cases q : d < 9
    · rw [if_neg (show ¬ nI d = 9 from fun h => by have := (nI_eq (a := d) (b := 9) (by omega) (by omega)).mp h; omega), bd1_s hbt, e78, if_pos (inb_nI (k := 78 + e) (by omega) (by omega)), clamp_nI (k := 78 + e) (by omega), if_pos (show nI (d) < (9 : Int32) from nI_lt (a := d) (b := 9) (by omega) (by omega)), ed]
      exact tot_some.mpr ⟨rfl, row_w _ _ _, Fj.rf.wrK (by simp) _ _⟩
    · rw [if_pos (show nI d = 9 by rw [show d = 9 by omega]; rfl), if_neg (show ¬ nI (d) < (9 : Int32) from nI_nlt (a := d) (b := 9) (by omega) (by omega))]
      exact tot_some.mpr ⟨rfl, rfl, Fj.rf⟩
  · have n0 : ¬ sK x = 0 := by rw [k]; decide
    have n1 : ¬ sK x = 1 := by rw [k]; decide
    have n2 : ¬ sK x = 2 := by rw [k]; decide
    have n3 : ¬ sK x = 3 := by rw [k]; decide
    rw [if_neg n0, if_neg n0, if_neg n1, if_neg n1, if_neg n2, if_neg n2, if_neg n3, if_neg n3]
    by_cases q : m 60 0 110 < 500
    · rw [if_pos q, if_pos q, tot_bd1]
      refine (dayEnds_tot hW).mono ?_
      rintro m2 ⟨a1, a2⟩
      exact tot_some.mpr ⟨rfl, a1, a2⟩
    · rw [if_neg q, if_neg q]
      exact tot_some.mpr ⟨rfl, rfl, Fj.rf⟩
theorem doR_RF {w : Wd} {r : Rw} {x : Sd} (hW : WF w) (hR : RF w r) (hx : okSt w x) : RF w (doR w x r).2 := by
  have hP := hW.1.2
  have hN := hW.2.2.1.2
  unfold doR
  rcases hx with ⟨k, p, a, c, hp, ha, hc, ep, ea, ec, hb⟩ | ⟨k, p, a, hp, ha, ep, ea⟩ | ⟨k, p, a, hp, ha, ep, ea⟩ | ⟨k, a, c, ha, hc, ea, ec, hb⟩ | k
  · have e1 : sP1 x = 12 * p + a := by unfold sP1; rw [ep, ea, clamp_nI (k := p) (by omega), clamp_nI (k := a) (by omega)]
    rw [if_pos k, e1, ec]
    exact putR_RF hW hR hp (by omega) (Or.inr ⟨ha, c, hc, rfl⟩)
  · have e1 : sP1 x = 12 * p + a := by unfold sP1; rw [ep, ea, clamp_nI (k := p) (by omega), clamp_nI (k := a) (by omega)]
    rw [if_neg (by rw [k]; decide), if_pos k, e1]
    exact putR_RF hW hR hp (by omega) (Or.inl rfl)
  · rw [if_neg (by rw [k]; decide), if_neg (by rw [k]; decide), if_pos k, ep, ea, clamp_nI (k := p) (by omega), clamp_nI (k := a) (by omega)]
    exact rw1_RF hW hR hp ha
  · obtain ⟨e, he, ee⟩ := bw_e hW hb
    have eE : sE w x = e := by
      unfold sE
      rw [ea, ec, clamp_nI (k := a) (by omega), clamp_nI (k := c) (by omega), ee, clamp_nI (by omega)]
    obtain ⟨d, hd, ed⟩ := hR.2.2 e he
    rw [if_neg (by rw [k]; decide), if_neg (by rw [k]; decide), if_neg (by rw [k]; decide), if_pos k, eE, ed]
    by_cases q : d < 9
    · rw [if_pos (show nI (d) < (9 : Int32) from nI_lt (a := d) (b := 9) (by omega) (by omega)), ← nI_succ]
      exact dgr_RF hW hR (by omega)
    · rw [if_neg (show ¬ nI (d) < (9 : Int32) from nI_nlt (a := d) (b := 9) (by omega) (by omega))]
      exact hR
  · rw [if_neg (by rw [k]; decide), if_neg (by rw [k]; decide), if_neg (by rw [k]; decide), if_neg (by rw [k]; decide)]
    by_cases q : r 110 < 500
    · rw [if_pos q]
      exact dayR_RF hW hR
    · rw [if_neg q]
      exact hR
/-- the reference as it does the work -/
def PM (w : Wd) (s : PS) (m : Mem) : Prop := m 60 0 = s.1 ∧ RF w s.1 ∧ s.2.1 ≤ 200 ∧ m 12 0 43 = nI s.2.1 ∧ m 12 0 44 = nI s.2.2.1 ∧ m 12 0 37 = nI s.2.2.2 ∧ mW m = w
theorem PM.w {w : Wd} {s s' : PS} {m : Mem} {c : Nat} {v : Int32} (h : PM w s m) (hc : ¬ c = 21) (e1 : s'.1 = s.1) (hb : s'.2.1 ≤ 200) (h2 : wr m 12 0 c v 12 0 43 = nI s'.2.1) (h0 : wr m 12 0 c v 12 0 44 = nI s'.2.2.1) (h1 : wr m 12 0 c v 12 0 37 = nI s'.2.2.2) : PM w s' (wr m 12 0 c v) := by
  obtain ⟨a1, a2, a3, a4, a5, a6, a7⟩ := h
  have hF : Fj [] [(12, c)] m (wr m 12 0 c v) := Fj.rf.wrJ (by simp) _ _
  rw [PM, e1]
  refine ⟨?_, a2, hb, h2, h0, h1, ?_⟩
  · rw [← a1]
    funext j
    exact wr_k (by decide)
  · rw [mW_fj hF (by simp) (fun q hq => by rw [List.mem_singleton.mp hq]; exact ⟨by simp, fun e => hc (by cases e; rfl)⟩)]
    exact a7
theorem RR.fk {m m' : Mem} {j : Nat} {x : Sd} (h : RR m j x) (hF : Fj KRg JRg m m') : RR m' j x := h.c (hF.kd 81 j rfl)
set_option maxHeartbeats 1000000 in
theorem stepR_m {w : Wd} {s : PS} {m : Mem} {x : Sd} {j : Nat} {rec : Nat → Nat → List Int32 → Mem → Option Mem} {x2 : Int32} {Q : (Int32 × Mem) ⊕ Mem → Prop} (hW : WF w) (h : PM w s m) (hs : s.2.1 < 200) (hx : okSt w x) (hr : RR m j x) (hj : j < 80) (hQ : ∀ m', PM w (stepR w x s) m' → Fj KRg JRg m m' → Q (Sum.inl (nI (sN x), m'))) : Tot (bd2 (r_X12_does 0 j (wr m 12 0 43 (nI s.2.1 + 1))) fun z13 m12 => (if z13 = true then (r_X12_goes_j120_c2 rec x2 (nI j) (b2i z13) 1 (m12 12 0 44) m12) else (r_X12_goes_j120_c2 rec x2 (nI j) (b2i z13) 0 (m12 12 0 44) m12))) Q := by
  have h1 : PM w (bump s) (wr m 12 0 43 (nI s.2.1 + 1)) := h.w (by decide) rfl (by show s.2.1 + 1 ≤ 200; omega) (by rw [wr_eq, ← nI_succ]; rfl) (by rw [wr_j (by decide)]; exact h.2.2.2.2.1) (by rw [wr_j (by decide)]; exact h.2.2.2.2.2.1)
  have F1 : Fj KRg JRg m (wr m 12 0 43 (nI s.2.1 + 1)) := Fj.rf.wrJ (by simp) _ _
  have r1 := hr.fk F1
  generalize wr m 12 0 43 (nI s.2.1 + 1) = m1 at h1 F1 r1 ⊢
  obtain ⟨a1, a2, a3, a4, a5, a6, a7⟩ := h1
  have a1' : m1 60 0 = s.1 := a1
  have dd := does_m (by rw [a7]; exact hW) (by rw [a7, a1']; exact a2) (by rw [a7]; exact hx) r1.1
  rw [a7, a1'] at dd
  rw [tot_bd2]
  refine dd.mono ?_
  rintro ⟨z, m2⟩ ⟨b1, b2, b3⟩
  dsimp only at b1 b2 b3 ⊢
  have F2 : Fj KRg JRg m m2 := F1.tr (b3.mono (fun q hq => hq) (by simp))
  have hm2 : PM w ((doR w x s.1).2, s.2.1 + 1, s.2.2.1, s.2.2.2) m2 := ⟨b2, doR_RF hW h.2.1 hx, a3, by rw [b3 12 0 43 (by simp) (by simp)]; exact a4, by rw [b3 12 0 44 (by simp) (by simp)]; exact a5, by rw [b3 12 0 37 (by simp) (by simp)]; exact a6, by rw [mW_fj b3 (by decide) (by decide)]; exact a7⟩
  have r2 : m2 81 j 4 = nI (sN x) := by
    rw [b3.kd 81 j rfl]
    exact r1.2
  have fin : ∀ d f : Nat, stepR w x s = ((doR w x s.1).2, s.2.1 + 1, d, f) → ∀ u v : Int32, u = nI d → v = nI f → Tot (r_X12_goes_j143_c2 rec x2 (nI j) (wr (wr m2 12 0 44 u) 12 0 37 v)) Q := fun d f he u v hu hv => by
    unfold r_X12_goes_j143_c2
    rw [if_pos (inb_nI (by omega) (by omega)), clamp_nI (by omega), wr_k (by decide), wr_k (by decide), r2]
    refine tot_some.mpr (hQ _ ?_ ((F2.wrJ (by simp) _ _).wrJ (by simp) _ _))
    have hA : PM w ((doR w x s.1).2, s.2.1 + 1, d, s.2.2.2) (wr m2 12 0 44 u) := hm2.w (by decide) rfl a3 (by rw [wr_j (by decide)]; exact hm2.2.2.2.1) (by rw [wr_eq]; exact hu) (by rw [wr_j (by decide)]; exact hm2.2.2.2.2.2.1)
    rw [he]
    exact hA.w (by decide) rfl a3 (by rw [wr_j (by decide)]; exact hA.2.2.2.1) (by rw [wr_j (by decide)]; exact hA.2.2.2.2.1) (by rw [wr_eq]; exact hv)
  have q44 : m2 12 0 44 = nI s.2.2.1 := hm2.2.2.2.2.1
  have q37 : ∀ u, wr m2 12 0 44 u 12 0 37 = m2 12 0 37 := fun u => wr_j (by decide)
  have p37 : m2 12 0 37 = nI s.2.2.2 := hm2.2.2.2.2.2.1
  unfold r_X12_goes_j120_c2 r_X12_goes_j139_c2
  by_cases hz : (doR w x s.1).1 = true
  · have ez : z = true := b1.trans hz
    subst ez
    have e : stepR w x s = ((doR w x s.1).2, s.2.1 + 1, s.2.2.1 + 1, s.2.2.2) := by
      unfold stepR
      rw [if_pos hz, if_pos hz]
    rw [if_pos rfl, if_neg (show ¬ b2i true = 0 by decide)]
    exact fin _ _ e _ _ (by rw [q44, nI_succ]) (by rw [p37, Int32.add_zero])
  · have ez : z = false := b1.trans (ts_nt' hz)
    subst ez
    have e : stepR w x s = ((doR w x s.1).2, s.2.1 + 1, s.2.2.1, s.2.2.2 + 1) := by
      unfold stepR
      rw [if_neg hz, if_neg hz]
    rw [if_neg (by decide), if_pos (show b2i false = 0 from rfl)]
    exact fin _ _ e _ _ (by rw [q44, Int32.add_zero]) (by rw [p37, nI_succ])
def HRm (w : Wd) (T : Nat → Sd) (N d : Nat) (rec : Nat → Nat → List Int32 → Mem → Option Mem) : Prop := 0 < d → ∀ n lo hi s m, Vr w T n (d - 1) lo hi → hi ≤ N → (∀ j, j < N → RR m j (T j)) → PM w s m → Tot (rec 0 0 [nI lo, nI hi] m) (fun m' => PM w (rnR w T d lo hi s) m' ∧ Fj KRg JRg m m')
theorem forR_m {w : Wd} {T : Nat → Sd} {N d n lo v : Nat} {x2 : Int32} {rec : Nat → Nat → List Int32 → Mem → Option Mem} (hN : N ≤ 38) (hH : HRm w T N d rec) (hd : 0 < d) (hlo : lo < N) (hv : v ≤ 60) (hk : sK (T lo) = 5) (hA : sA (T lo) = nI v) (hnx : sN (T lo) ≤ N) (hV : Vr w T n (d - 1) (lo + 1) (sN (T lo))) : ∀ c s m, c ≤ v → (∀ j, j < N → RR m j (T j)) → PM w s m → Tot (loopO (fun s => r_X12_goes_b42_c2 rec x2 (nI lo) s.1 s.2) (nI (v - c), m)) (fun m' => PM w (forR (rnR w T d (lo + 1) (sN (T lo))) c s) m' ∧ Fj KRg JRg m m') := by
  intro c
  induction c with
  | zero =>
    intro s m hc hT hP
    have cr := hT lo hlo
    refine tot_step ?_
    show Tot (r_X12_goes_b42_c2 rec x2 (nI lo) (nI (v - 0)) m) _
    unfold r_X12_goes_b42_c2
    rw [if_pos (inb_nI (by omega) (by omega)), clamp_nI (by omega), cr.1.2.1 (Or.inr (Or.inr (Or.inr hk))), hA, if_pos (nI_le (by omega) (by omega))]
    exact tot_some.mpr ⟨hP, Fj.rf⟩
  | succ c ih =>
    intro s m hc hT hP
    have cr := hT lo hlo
    refine tot_step ?_
    show Tot (r_X12_goes_b42_c2 rec x2 (nI lo) (nI (v - (c + 1))) m) _
    generalize hl : (fun s : Int32 × Mem => r_X12_goes_b42_c2 rec x2 (nI lo) s.1 s.2) = lf
    unfold r_X12_goes_b42_c2
    rw [if_pos (inb_nI (by omega) (by omega)), clamp_nI (by omega), cr.1.2.1 (Or.inr (Or.inr (Or.inr hk))), hA, if_neg (nI_ge (by omega) (by omega)), hP.2.2.2.1]
    by_cases h2 : 200 ≤ s.2.1
    · have hb := hP.2.2.1
      rw [if_pos (show (200 : Int32) ≤ nI (s.2.1) from nI_le (a := 200) (b := s.2.1) (by omega) (by omega))]
      have e : forR (rnR w T d (lo + 1) (sN (T lo))) (c + 1) s = s := by
        show (if 200 ≤ s.2.1 then s else _) = s
        rw [if_pos h2]
      refine tot_some.mpr ?_
      show PM w (forR (rnR w T d (lo + 1) (sN (T lo))) (c + 1) s) m ∧ _
      rw [e]
      exact ⟨hP, Fj.rf⟩
    · rw [if_neg (show ¬ (200 : Int32) ≤ nI (s.2.1) from nI_ge (b := 200) (a := s.2.1) (by omega) (by omega)), cr.2, ← nI_succ, tot_bd1]
      have e : forR (rnR w T d (lo + 1) (sN (T lo))) (c + 1) s = forR (rnR w T d (lo + 1) (sN (T lo))) c (rnR w T d (lo + 1) (sN (T lo)) s) := by
        show (if 200 ≤ s.2.1 then s else _) = _
        rw [if_neg h2]
      refine (hH hd n (lo + 1) (sN (T lo)) s m hV hnx hT hP).mono ?_
      rintro m2 ⟨a1, a2⟩
      refine tot_some.mpr ?_
      have en : nI (v - (c + 1) + 1) = nI (v - c) := congrArg nI (by omega)
      show Tot (loopO lf (nI (v - (c + 1)) + 1, m2)) _
      rw [← nI_succ, en, e, ← hl]
      refine (ih _ m2 (by omega) (fun j hj => (hT j hj).fk a2) a1).mono ?_
      rintro m3 ⟨b1, b2⟩
      exact ⟨b1, a2.tr b2⟩
set_option maxHeartbeats 1000000 in
theorem lpR_m {w : Wd} {T : Nat → Sd} {N d hi : Nat} {rec : Nat → Nat → List Int32 → Mem → Option Mem} (hW : WF w) (hN : N ≤ 38) (hH : HRm w T N d rec) (hhi : hi ≤ N) : ∀ k n lo s m, hi ≤ lo + k → Vr w T n d lo hi → (∀ j, j < N → RR m j (T j)) → PM w s m → Tot (loopO (fun s => r_X12_goes_b2 rec (nI hi) s.1 s.2) (nI lo, m)) (fun m' => PM w (lpR w T (rnR w T d) hi k lo s) m' ∧ Fj KRg JRg m m') := by
  intro k
  induction k with
  | zero =>
    intro n lo s m hk hV hT hP
    have hle := hV.le
    refine tot_step ?_
    show Tot (r_X12_goes_b2 rec (nI hi) (nI lo) m) _
    unfold r_X12_goes_b2
    rw [if_pos (nI_le (by omega) (by omega))]
    exact tot_some.mpr ⟨hP, Fj.rf⟩
  | succ k ih =>
    intro n lo s m hk hV hT hP
    have hle := hV.le
    have hb := hP.2.2.1
    refine tot_step ?_
    show Tot (r_X12_goes_b2 rec (nI hi) (nI lo) m) _
    generalize hl : (fun s : Int32 × Mem => r_X12_goes_b2 rec (nI hi) s.1 s.2) = lf
    unfold r_X12_goes_b2
    by_cases c0 : hi ≤ lo
    · have e : lpR w T (rnR w T d) hi (k + 1) lo s = s := by
        show (if hi ≤ lo then s else _) = s
        rw [if_pos c0]
      rw [if_pos (nI_le c0 (by omega))]
      refine tot_some.mpr ?_
      show PM w (lpR w T (rnR w T d) hi (k + 1) lo s) m ∧ _
      rw [e]
      exact ⟨hP, Fj.rf⟩
    rw [if_neg (nI_ge (by omega) (by omega)), hP.2.2.2.1]
    by_cases c1 : 200 ≤ s.2.1
    · have e : lpR w T (rnR w T d) hi (k + 1) lo s = s := by
        show (if hi ≤ lo then s else if 200 ≤ s.2.1 then s else _) = s
        rw [if_neg c0, if_pos c1]
      rw [if_pos (show (200 : Int32) ≤ nI (s.2.1) from nI_le (a := 200) (b := s.2.1) (by omega) (by omega))]
      refine tot_some.mpr ?_
      show PM w (lpR w T (rnR w T d) hi (k + 1) lo s) m ∧ _
      rw [e]
      exact ⟨hP, Fj.rf⟩
    have cr := hT lo (by omega)
    rw [if_neg (show ¬ (200 : Int32) ≤ nI (s.2.1) from nI_ge (b := 200) (a := s.2.1) (by omega) (by omega)), if_pos (inb_nI (by omega) (by omega)), clamp_nI (by omega), cr.1.1]
    match n, hV with
    | 0, hV => exact absurd (Nat.le_of_eq (Eq.symm hV)) c0
    | n + 1, hV =>
      rcases hV with hV | ⟨-, ⟨h5, hok, hn, hV⟩ | ⟨h5, ⟨v, hv, hA⟩, hd, hnh, hln, hV1, hV2⟩⟩
      · exact absurd (Nat.le_of_eq (Eq.symm hV)) c0
      · have e : lpR w T (rnR w T d) hi (k + 1) lo s = lpR w T (rnR w T d) hi k (lo + 1) (stepR w (T lo) s) := by
          show (if hi ≤ lo then s else if 200 ≤ s.2.1 then s else if sK (T lo) = 5 then _ else _) = _
          rw [if_neg c0, if_neg c1, if_neg h5]
        rw [if_neg h5]
        refine stepR_m hW hP (by omega) hok cr (by omega) (fun m2 a1 a2 => ?_)
        show Tot (loopO lf (nI (sN (T lo)), m2)) _
        rw [hn, e, ← hl]
        refine (ih n (lo + 1) _ m2 (by omega) hV (fun j hj => (hT j hj).fk a2) a1).mono ?_
        rintro m4 ⟨b1, b2⟩
        exact ⟨b1, a2.tr b2⟩
      · have e : lpR w T (rnR w T d) hi (k + 1) lo s = lpR w T (rnR w T d) hi k (sN (T lo)) (forR (rnR w T d (lo + 1) (sN (T lo))) v (bump s)) := by
          show (if hi ≤ lo then s else if 200 ≤ s.2.1 then s else if sK (T lo) = 5 then lpR w T (rnR w T d) hi k (sN (T lo)) (forR (rnR w T d (lo + 1) (sN (T lo))) (sA (T lo)).toNatClampNeg (bump s)) else _) = _
          rw [if_neg c0, if_neg c1, if_pos h5, hA, clamp_nI (by omega)]
        rw [if_pos h5]
        have h1 : PM w (bump s) (wr m 12 0 43 (nI s.2.1 + 1)) := hP.w (by decide) rfl (by show s.2.1 + 1 ≤ 200; omega) (by rw [wr_eq, ← nI_succ]; rfl) (by rw [wr_j (by decide)]; exact hP.2.2.2.2.1) (by rw [wr_j (by decide)]; exact hP.2.2.2.2.2.1)
        have F1 : Fj KRg JRg m (wr m 12 0 43 (nI s.2.1 + 1)) := Fj.rf.wrJ (by simp) _ _
        generalize wr m 12 0 43 (nI s.2.1 + 1) = m1 at h1 F1 ⊢
        unfold r_X12_goes_l42_c2
        rw [tot_bd1]
        have fr := forR_m (x2 := nI hi) hN hH hd (show lo < N by omega) hv h5 hA (by omega) hV1 v (bump s) m1 (Nat.le_refl _) (fun j hj => (hT j hj).fk F1) h1
        rw [Nat.sub_self] at fr
        refine Tot.mono fr ?_
        rintro m2 ⟨a1, a2⟩
        have cr2 := ((hT lo (by omega)).fk F1).fk a2
        unfold r_X12_goes_e86_h42_c2 r_X12_goes_j86_c2 r_X12_goes_j143_c2
        rw [if_pos (inb_nI (by omega) (by omega)), clamp_nI (by omega), cr2.2]
        refine tot_some.mpr ?_
        show Tot (loopO lf (nI (sN (T lo)), m2)) _
        rw [e, ← hl]
        refine (ih n (sN (T lo)) _ m2 (by omega) hV2 (fun j hj => ((hT j hj).fk F1).fk a2) a1).mono ?_
        rintro m4 ⟨b1, b2⟩
        exact ⟨b1, (F1.tr a2).tr b2⟩
theorem goes_m {w : Wd} {T : Nat → Sd} {N : Nat} (hW : WF w) (hN : N ≤ 38) : ∀ d g, d ≤ 6 → ∀ n lo hi s m, Vr w T n d lo hi → hi ≤ N → (∀ j, j < N → RR m j (T j)) → PM w s m → Tot (rec_goe (d + g + 1) 0 0 [nI lo, nI hi] m) (fun m' => PM w (rnR w T (d + 1) lo hi s) m' ∧ Fj KRg JRg m m') := by
  intro d
  have key : ∀ d g, d ≤ 6 → HRm w T N d (rec_goe (d + g)) → ∀ n lo hi s m, Vr w T n d lo hi → hi ≤ N → (∀ j, j < N → RR m j (T j)) → PM w s m → Tot (rec_goe (d + g + 1) 0 0 [nI lo, nI hi] m) (fun m' => PM w (rnR w T (d + 1) lo hi s) m' ∧ Fj KRg JRg m m') := by
    intro d g hd hH n lo hi s m hV hhi hT hP
    show Tot (r_X12_goes (rec_goe (d + g)) (nI lo) (nI hi) m) _
    unfold r_X12_goes r_X12_goes_l2
    rw [tot_bd1]
    have := lpR_m hW hN hH hhi 38 n lo s m (by omega) hV hT hP
    refine Tot.mono this ?_
    intro m' hm'
    exact tot_some.mpr hm'
  induction d with
  | zero => exact fun g hd => key 0 g hd (fun h => by omega)
  | succ d ih =>
    intro g hd
    refine key (d + 1) g hd (fun _ n lo hi s m hV hhi hT hP => ?_)
    rw [show d + 1 + g = d + g + 1 by omega]
    exact ih g (by omega) n lo hi s m hV hhi hT hP
