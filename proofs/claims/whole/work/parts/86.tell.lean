/-! ===== fewest tellings: the class ===== -/
/-- a way changed at one place -/
def upF (f : Nat → Int32) (a : Nat) (v : Int32) : Nat → Int32 := fun x => if x = a then v else f x
def okV (P : Nat) (v : Int32) : Prop := v = -1 ∨ ∃ b, b < P ∧ v = nI b
theorem FF.up {P : Nat} {f : Nat → Int32} {s v : Int32} {a : Nat} (h : FF P f s) (hv : okV P v) : FF P (upF f a v) s := by
  refine ⟨h.1, h.2.1, fun x hx => ?_⟩
  unfold upF
  by_cases e : x = a
  · rw [if_pos e]
    exact hv
  · rw [if_neg e]
    exact h.2.2 x hx
theorem upF_at (f : Nat → Int32) (a : Nat) (v : Int32) : upF f a v a = v := if_pos rfl
theorem upF_ne {f : Nat → Int32} {a x : Nat} {v : Int32} (h : ¬ x = a) : upF f a v x = f x := if_neg h
theorem upF_id (f : Nat → Int32) (a : Nat) : upF f a (f a) = f := by
  funext x
  unfold upF
  by_cases e : x = a
  · rw [if_pos e, e]
  · rw [if_neg e]
theorem upF_up (f : Nat → Int32) (a : Nat) (u v : Int32) : upF (upF f a u) a v = upF f a v := by
  funext x
  unfold upF
  by_cases e : x = a
  · rw [if_pos e, if_pos e]
  · rw [if_neg e, if_neg e, if_neg e]
theorem pth_m1 {f : Nat → Int32} {s : Int32} {k : Nat} (h : pth f s k = -1) : ∀ d, pth f s (k + d) = -1
  | 0 => h
  | d + 1 => by
    show (if pth f s (k + d) = -1 then -1 else f (pth f s (k + d)).toNatClampNeg) = -1
    rw [if_pos (pth_m1 h d)]
theorem pth_end {P : Nat} {f : Nat → Int32} {s : Int32} (hf : FF P f s) : pth f s (cln f s) = -1 ∨ ∃ j, j < cln f s ∧ pth f s j = pth f s (cln f s) := by
  have h12 := hf.1
  have hy := cln_yes hf
  rcases pth_in hf (cln f s) with h | ⟨b, hb, h⟩
  · exact Or.inl h
  · right
    unfold stp at hy
    rw [h, clamp_nI (by omega), Bool.or_eq_true, decide_eq_true_iff] at hy
    rcases hy with hy | hy
    · exact absurd hy (m1_ne (by omega))
    · obtain ⟨j, hj, e⟩ := (bse_bit hf (cln f s) (fun j hj => stp_no (cln_no hj)) b (by omega)).mp hy
      exact ⟨j, hj, by rw [e, h]⟩
theorem pth_all {P : Nat} {f : Nat → Int32} {s : Int32} (hf : FF P f s) : ∀ k, pth f s k = -1 ∨ ∃ j, j < cln f s ∧ pth f s j = pth f s k
  | 0 => by
    by_cases h : 0 < cln f s
    · exact Or.inr ⟨0, h, rfl⟩
    · have := pth_end hf
      rw [show cln f s = 0 by omega] at this ⊢
      exact this
  | k + 1 => by
    rcases pth_all hf k with h | ⟨j, hj, e⟩
    · exact Or.inl (pth_m1 h 1)
    · have e2 : pth f s (j + 1) = pth f s (k + 1) := by
        show (if pth f s j = -1 then -1 else f (pth f s j).toNatClampNeg) = (if pth f s k = -1 then -1 else f (pth f s k).toNatClampNeg)
        rw [e]
      by_cases h : j + 1 < cln f s
      · exact Or.inr ⟨j + 1, h, e2⟩
      · have h3 : j + 1 = cln f s := by omega
        rw [← e2, h3]
        exact pth_end hf
theorem cbi_bit {P : Nat} {f : Nat → Int32} {s : Int32} {b : Nat} (hf : FF P f s) (hb : b < 32) : bt (cbi f s) b = true ↔ ∃ k, k < cln f s ∧ pth f s k = nI b :=
  bse_bit hf (cln f s) (fun j hj => stp_no (cln_no hj)) b hb
theorem cbi_any {P : Nat} {f : Nat → Int32} {s : Int32} {b k : Nat} (hf : FF P f s) (hb : b < 32) (h : pth f s k = nI b) : bt (cbi f s) b = true := by
  rw [cbi_bit hf hb]
  rcases pth_all hf k with h2 | ⟨j, hj, e⟩
  · rw [h] at h2
    exact absurd h2 (m1_ne (by omega))
  · exact ⟨j, hj, e.trans h⟩
theorem comesTo_c {m : Mem} {P b : Nat} {s : Int32} {g : Nat → Int32} (hf : FF P g s) (hP : m 3 0 0 = nI P) (hs : m 3 0 3 = s) (hg : ∀ a, a < P → m 43 0 a = g a) (hb : b < P) : r_X0_comesTo (nI b) m = some (bt (cbi g s) b) := by
  have h12 := hf.1
  refine Tot.eq ?_
  unfold r_X0_comesTo r_X0_comesTo_l10
  rw [tot_bdS]
  refine tot_for (fun k (t : Int32 × Int32) => t.1 = pth g s k ∧ t.2 = nI k ∧ ∀ j, j < k → ¬ pth g s j = nI b) P ?_ ?_ 0 _ (Nat.zero_le _) ⟨hs, rfl, fun j h => absurd h (Nat.not_lt_zero j)⟩
  · rintro k ⟨x2, x3⟩ hk ⟨e1, e2, e3⟩
    dsimp only at e1 e2 e3 ⊢
    subst e1 e2
    unfold r_X0_comesTo_b10
    rw [hP, if_neg (nI_ge hk (by omega))]
    by_cases h1 : pth g s k = -1
    · rw [if_pos h1]
      refine tot_some.mpr ?_
      show Tot (r_X0_comesTo_e46_h10 m) _
      unfold r_X0_comesTo_e46_h10
      refine tot_some.mpr (ts_nt' fun q => ?_).symm
      obtain ⟨j, hj, e⟩ := (cbi_bit hf (by omega)).mp q
      by_cases hjk : j < k
      · exact e3 j hjk e
      · have := pth_m1 h1 (j - k)
        rw [show k + (j - k) = j by omega, e] at this
        exact m1_ne (by omega) this
    · rw [if_neg h1]
      by_cases h2 : pth g s k = nI b
      · rw [if_pos h2]
        refine tot_some.mpr ?_
        show Tot (some true) _
        exact tot_some.mpr (cbi_any hf (by omega) h2).symm
      · rw [if_neg h2]
        obtain ⟨c, hc, h3⟩ := (pth_in hf k).resolve_left h1
        have h4 : pth g s (k + 1) = g c := by
          show (if pth g s k = -1 then -1 else g (pth g s k).toNatClampNeg) = _
          rw [if_neg h1, h3, clamp_nI (by omega)]
        rw [h3, if_pos (inb_nI (by omega) (by omega)), clamp_nI (by omega), hg c hc]
        refine tot_some.mpr ⟨h4.symm, (nI_succ k).symm, fun j hj => ?_⟩
        by_cases hjk : j = k
        · rw [hjk]
          exact h2
        · exact e3 j (by omega)
  · rintro ⟨x2, x3⟩ ⟨e1, e2, e3⟩
    dsimp only at e1 e2 e3 ⊢
    subst e1 e2
    unfold r_X0_comesTo_b10
    rw [hP, if_pos (nI_le (Nat.le_refl _) (by omega)), tot_some]
    show Tot (r_X0_comesTo_e46_h10 m) _
    unfold r_X0_comesTo_e46_h10
    refine tot_some.mpr (ts_nt' fun q => ?_).symm
    obtain ⟨j, hj, e⟩ := (cbi_bit hf (by omega)).mp q
    exact e3 j (Nat.lt_of_lt_of_le hj (cln_le hf)) e
/-- a row with one told otherwise -/
def tlr (r : Rw) (q : Nat) (v : Int32) : Rw := fun x => if x = q then v else r x
def trn (w : Wd) (r : Rw) (p a c : Nat) : Int32 := nxt w (tlr r (12 * p + a) (nI c)) a
theorem nxt_loc {w : Wd} {r r' : Rw} {a : Nat} (hW : WF w) (h1 : ∀ p, p < 6 → r (12 * p + a) = r' (12 * p + a)) (h2 : ∀ q, 72 ≤ q → q < 111 → r q = r' q) : nxt w r a = nxt w r' a := by
  have hN := hW.2.2.1.2
  have hD := hW.2.1.2
  unfold nxt
  rw [bst_cong (g' := fun b => if bw w a b = -1 then none else some (drq w r' a b))]
  intro b _
  by_cases hz : bw w a b = -1
  · rw [if_pos hz, if_pos hz]
  · rw [if_neg hz, if_neg hz]
    obtain ⟨e, he, hze, -⟩ := (bw_or w a b).resolve_left hz
    unfold drq drw
    rw [hze, clamp_nI (by omega), h2 (78 + e) (by omega) (by omega), h2 (94 + e) (by omega) (by omega), h2 110 (by omega) (by omega), pds_cong (tr' := w 4) (wh' := fun p => r' (72 + p)) (bl' := fun p => r' (12 * p + a)) (fun p hp => ⟨rfl, h2 (72 + p) (by omega) (by omega), h1 p (by omega)⟩)]
theorem trn_same {w : Wd} {r : Rw} {p a c : Nat} (h : r (12 * p + a) = nI c) : trn w r p a c = nxt w r a := by
  have e : tlr r (12 * p + a) (nI c) = r := by
    funext x
    unfold tlr
    by_cases hx : x = 12 * p + a
    · rw [if_pos hx, hx, h]
    · rw [if_neg hx]
  unfold trn
  rw [e]
theorem nxt_okV (w : Wd) (r : Rw) (a : Nat) : okV (wP w) (nxt w r a) := by
  rcases nxt_or w r a with h | ⟨b, hb, h, -⟩
  · exact Or.inl h
  · exact Or.inr ⟨b, hb, h⟩
theorem trn_ok (w : Wd) (r : Rw) (p a c : Nat) : okV (wP w) (trn w r p a c) := nxt_okV w _ _
theorem StC.tl {w : Wd} {r : Rw} {m : Mem} {p a : Nat} {v : Int32} (hW : WF w) (hS : StC w r m 1) (hp : p < wN w) (ha : a < 12) : StC w (tlr r (12 * p + a) v) (wr m 22 1 (12 * p + a) v) 1 := by
  have hN := hW.2.2.1.2
  have o : ∀ q, ¬ q = 12 * p + a → tlr r (12 * p + a) v q = r q := fun q hq => if_neg hq
  refine ⟨?_, ?_, fun x hx => ⟨?_, ?_⟩, fun x c hx hc => ?_, fun e he => ⟨?_, ?_⟩⟩
  · rw [wr_k (by decide), hS.1, o 110 (by omega)]
  · rw [wr_k (by decide), hS.2.1]
  · rw [wr_k (by decide), (hS.2.2.1 x hx).1]
  · rw [wr_k (by decide), (hS.2.2.1 x hx).2, o _ (by omega)]
  · rw [wr_if]
    by_cases hq : 12 * x + c = 12 * p + a
    · rw [if_pos hq, hq]
      exact (if_pos rfl).symm
    · rw [if_neg hq, hS.2.2.2.1 x c hx hc, o _ hq]
  · rw [wr_k (by decide), (hS.2.2.2.2 e he).1, o _ (by omega)]
  · rw [wr_k (by decide), (hS.2.2.2.2 e he).2, o _ (by omega)]
/-- the row is as it was but at the first k places of this person -/
def Lo (r r1 : Rw) (p k : Nat) : Prop := ∀ q, (∀ x, x < k → ¬ q = 12 * p + x) → r1 q = r q
theorem Lo.nx {w : Wd} {r r1 : Rw} {p a : Nat} (hW : WF w) (hp : p < 6) (ha : a < 12) (h : Lo r r1 p a) : nxt w r1 a = nxt w r a :=
  nxt_loc hW (fun x _ => h _ (fun y hy e => by omega)) (fun q h1 _ => h q (fun y hy e => by omega))
theorem Lo.tn {w : Wd} {r r1 : Rw} {p a c : Nat} (hW : WF w) (hp : p < 6) (ha : a < 12) (h : Lo r r1 p (a + 1)) : nxt w (tlr r1 (12 * p + a) (nI c)) a = trn w r p a c := by
  refine nxt_loc hW (fun x _ => ?_) (fun q h1 _ => ?_)
  · unfold tlr
    by_cases e : 12 * x + a = 12 * p + a
    · rw [if_pos e, if_pos e]
    · rw [if_neg e, if_neg e]
      exact h _ (fun y hy e2 => by omega)
  · unfold tlr
    rw [if_neg (by omega), if_neg (by omega)]
    exact h q (fun y hy e2 => by omega)
abbrev KU : List (Nat × Nat) := [(33, 0), (35, 0), (43, 0), (44, 0), (7, 1), (20, 1), (21, 1), (22, 1), (23, 1), (24, 1)]
theorem btwC {w : Wd} {m : Mem} {a b : Nat} (hP : wP w ≤ 12) (hL : CL w m) (ha : a < wP w) (hb : b < wP w) : r_X3_between 0 (nI a) (nI b) m = some (bw w a b) := by
  unfold r_X3_between
  rw [ix12, if_pos (inb_nI (by omega) (by omega)), clamp_nI (by omega), hL.2.2.2.2.2.2.1 a b ha hb]
set_option maxHeartbeats 1000000 in
theorem turnBy_c {w : Wd} {r : Rw} {m m0 : Mem} {p a : Nat} (hW : WF w) (hL : CL w m0) (hC : CW w m0) (hp : p < wN w) (ha : a < wP w) (hS : ∃ r1, StC w r1 m 1 ∧ Lo r r1 p (a + 1)) (hF0 : Fj KU [] m0 m) : Tot (r_X0_turnByTells (nI p) (nI a) m) (fun m' => (∀ c, c < wP w → ¬ bw w a c = -1 → m' 44 0 (12 * a + c) = trn w r p a c) ∧ (∀ q, ¬ (12 * a ≤ q ∧ q < 12 * a + 12) → m' 44 0 q = m 44 0 q) ∧ m' 43 0 = m 43 0 ∧ (∃ r1, StC w r1 m' 1 ∧ Lo r r1 p (a + 1)) ∧ Fj KU [] m0 m') := by
  have hP := hW.1
  have hN := hW.2.2.1.2
  unfold r_X0_turnByTells r_X0_turnByTells_l2
  rw [tot_bd1]
  refine tot_for (fun l (t : Int32 × Mem) => t.1 = nI l ∧ (∀ c, c < l → ¬ bw w a c = -1 → t.2 44 0 (12 * a + c) = trn w r p a c) ∧ (∀ q, ¬ (12 * a ≤ q ∧ q < 12 * a + 12) → t.2 44 0 q = m 44 0 q) ∧ t.2 43 0 = m 43 0 ∧ (∃ r1, StC w r1 t.2 1 ∧ Lo r r1 p (a + 1)) ∧ Fj KU [] m0 t.2) (wP w) ?_ ?_ 0 _ (Nat.zero_le _) ⟨rfl, fun c h => absurd h (Nat.not_lt_zero c), fun _ _ => rfl, rfl, hS, hF0⟩
  · rintro l ⟨x3, m1⟩ hl ⟨e1, e2, e3, e4, ⟨r1, hS1, hLo⟩, hF⟩
    dsimp only at e1 e2 e3 e4 hS1 hF ⊢
    subst e1
    have hL1 : CL w m1 := hL.fj hF (by decide) (by simp)
    unfold r_X0_turnByTells_b2 r_X0_turnByTells_j60_c2
    rw [hL1.1, hP.1, if_neg (nI_ge hl (by omega)), bd1_s (btwC hW.1.2 hL1 (by omega) (by omega))]
    by_cases hz : bw w a l = -1
    · rw [if_pos hz]
      refine tot_some.mpr ⟨(nI_succ l).symm, fun c hc h => ?_, e3, e4, ⟨r1, hS1, hLo⟩, hF⟩
      by_cases hcl : c = l
      · rw [hcl] at h
        exact absurd hz h
      · exact e2 c (by omega) h
    · rw [if_neg hz, bd2_s (tell_eq (by omega) (by omega)), tot_bd2]
      have hS2 := hS1.tl (v := nI l) hW hp (by omega : a < 12)
      have hF2 : Fj KU [] m0 (wr m1 22 1 (12 * p + a) (nI l)) := hF.wrK (by simp) _ _
      have w44 : ∀ i j, wr m1 22 1 (12 * p + a) (nI l) 44 i j = m1 44 i j := fun i j => wr_k (by decide)
      have w43 : ∀ i j, wr m1 22 1 (12 * p + a) (nI l) 43 i j = m1 43 i j := fun i j => wr_k (by decide)
      generalize wr m1 22 1 (12 * p + a) (nI l) = m2 at hS2 hF2 w44 w43 ⊢
      refine (goesOn_tot hW (hL.fj hF2 (by decide) (by simp)) (hC.fj hF2 (by decide) (by simp)) hS2 ha).mono ?_
      rintro ⟨z, m3⟩ ⟨g1, g2⟩
      dsimp only at g1 g2 ⊢
      have hF3 : Fj KU [] m0 m3 := hF2.tr ((g2.mono (by simp)).j)
      rw [ix12, if_pos (inb_nI (by omega) (by omega)), clamp_nI (by omega), g1, hLo.tn hW (by omega) (by omega)]
      have hS3 := hS2.fj (g2.j (J := [])) (by decide) (by simp)
      have hS4 := hS3.fj (m' := wr m3 44 0 (12 * a + l) (trn w r p a l)) (K := [(44, 0)]) (J := []) (Fj.rf.wrK (by simp) _ _) (by decide) (by simp)
      refine tot_some.mpr ⟨(nI_succ l).symm, fun c hc h => ?_, fun q hq => ?_, ?_, ⟨_, hS4, fun q hq => ?_⟩, hF3.wrK (by simp) _ _⟩
      · dsimp only
        rw [wr_if]
        by_cases hcl : c = l
        · rw [if_pos (by rw [hcl]), hcl]
        · rw [if_neg (by omega), g2 44 0 (by decide), w44]
          exact e2 c (by omega) h
      · dsimp only
        rw [wr_j (by omega), g2 44 0 (by decide), w44]
        exact e3 q hq
      · dsimp only
        funext j
        rw [wr_k (by decide), g2 43 0 (by decide), w43, e4]
      · rw [← hLo q hq]
        exact if_neg (hq a (by omega))
  · rintro ⟨x3, m1⟩ ⟨e1, e2, e3, e4, hS1, hF⟩
    dsimp only at e1 e2 e3 e4 hS1 hF ⊢
    subst e1
    have hL1 : CL w m1 := hL.fj hF (by decide) (by simp)
    unfold r_X0_turnByTells_b2
    rw [hL1.1, hP.1, if_pos (nI_le (Nat.le_refl _) (by omega)), tot_some]
    exact tot_some.mpr ⟨e2, e3, e4, hS1, hF⟩
/-- the turns by tellings lie ready -/
def TB (w : Wd) (r : Rw) (p : Nat) (m : Mem) : Prop := (∀ a, a < wP w → m 43 0 a = nxt w r a) ∧ ∀ a c, a < wP w → c < wP w → ¬ bw w a c = -1 → m 44 0 (12 * a + c) = trn w r p a c
set_option maxHeartbeats 1000000 in
theorem turns_c {w : Wd} {r : Rw} {m : Mem} {p : Nat} {x : Int32} (hW : WF w) (hL : CL w m) (hC : CW w m) (hS : StC w r m 1) (hp : p < wN w) : Tot (loopO (fun s => r_X0_findTellings_b11 (nI p) x s.1 s.2) (0, m)) (fun m' => TB w r p m' ∧ Fj KU [] m m') := by
  have hP := hW.1
  have hN := hW.2.2.1.2
  refine tot_for (fun k (t : Int32 × Mem) => t.1 = nI k ∧ (∀ a, a < k → t.2 43 0 a = nxt w r a) ∧ (∀ a c, a < k → c < wP w → ¬ bw w a c = -1 → t.2 44 0 (12 * a + c) = trn w r p a c) ∧ (∃ r1, StC w r1 t.2 1 ∧ Lo r r1 p k) ∧ Fj KU [] m t.2) (wP w) ?_ ?_ 0 _ (Nat.zero_le _) ⟨rfl, fun a h => absurd h (Nat.not_lt_zero a), fun a c h => absurd h (Nat.not_lt_zero a), ⟨r, hS, fun _ _ => rfl⟩, Fj.rf⟩
  · rintro k ⟨x4, m1⟩ hk ⟨e1, e2, e3, ⟨r1, hS1, hLo⟩, hF⟩
    dsimp only at e1 e2 e3 hS1 hF ⊢
    subst e1
    have hL1 : CL w m1 := hL.fj hF (by decide) (by simp)
    unfold r_X0_findTellings_b11
    rw [hL1.1, hP.1, if_neg (nI_ge hk (by omega)), tot_bd2]
    refine (goesOn_tot hW hL1 (hC.fj hF (by decide) (by simp)) hS1 hk).mono ?_
    rintro ⟨z, m2⟩ ⟨g1, g2⟩
    dsimp only at g1 g2 ⊢
    have hF2 : Fj KU [] m m2 := hF.tr ((g2.mono (by simp)).j)
    rw [if_pos (inb_nI (by omega) (by omega)), clamp_nI (by omega), g1, hLo.nx hW (by omega) (by omega), tot_bd1]
    have hS2 := hS1.fj (g2.j (J := [])) (by decide) (by simp)
    have hS3 := hS2.fj (m' := wr m2 43 0 k (nxt w r k)) (K := [(43, 0)]) (J := []) (Fj.rf.wrK (by simp) _ _) (by decide) (by simp)
    refine (turnBy_c (m0 := m) (r := r) hW hL hC hp hk ⟨r1, hS3, fun q hq => hLo q (fun x hx => hq x (by omega))⟩ (hF2.wrK (by simp) _ _)).mono ?_
    rintro m3 ⟨t1, t2, t3, t4, t5⟩
    refine tot_some.mpr ⟨(nI_succ k).symm, fun a ha => ?_, fun a c ha hc h => ?_, t4, t5⟩
    · dsimp only
      rw [t3, wr_if]
      by_cases hak : a = k
      · rw [if_pos hak, hak]
      · rw [if_neg hak, g2 43 0 (by decide)]
        exact e2 a (by omega)
    · dsimp only
      by_cases hak : a = k
      · rw [hak] at h ⊢
        exact t1 c hc h
      · rw [t2 _ (by omega), wr_k (by decide), g2 44 0 (by decide)]
        exact e3 a c (by omega) hc h
  · rintro ⟨x4, m1⟩ ⟨e1, e2, e3, e4, hF⟩
    dsimp only at e1 e2 e3 hF ⊢
    subst e1
    have hL1 : CL w m1 := hL.fj hF (by decide) (by simp)
    unfold r_X0_findTellings_b11
    rw [hL1.1, hP.1, if_pos (nI_le (Nat.le_refl _) (by omega)), tot_some]
    exact ⟨⟨e2, e3⟩, hF⟩
/-- the first telling, in the order of the places -/
def Fst (P : Nat) (pr : Nat → Nat → Prop) (z : Int32) : Prop := (z = -1 ∧ ∀ a c, a < P → c < P → ¬ pr a c) ∨ ∃ a c, a < P ∧ c < P ∧ pr a c ∧ z = nI (100 * a + c) ∧ ∀ a' c', a' < P → c' < P → pr a' c' → a < a' ∨ (a = a' ∧ c ≤ c')
theorem Fst.uq {P : Nat} {pr : Nat → Nat → Prop} {z z' : Int32} (h : Fst P pr z) (h' : Fst P pr z') : z = z' := by
  rcases h with ⟨e, h⟩ | ⟨a, c, ha, hc, hp, e, h⟩
  · rcases h' with ⟨e', -⟩ | ⟨a', c', ha', hc', hp', -, -⟩
    · rw [e, e']
    · exact absurd hp' (h a' c' ha' hc')
  · rcases h' with ⟨-, h'⟩ | ⟨a', c', ha', hc', hp', e', h'⟩
    · exact absurd hp (h' a c ha hc)
    · have h1 := h a' c' ha' hc' hp'
      have h2 := h' a c ha hc hp
      have h3 : a = a' ∧ c = c' := by omega
      rw [e, e', h3.1, h3.2]
theorem cbi_cg {P : Nat} {f g : Nat → Int32} {s : Int32} (hf : FF P f s) (h : ∀ a, a < P → f a = g a) : cbi f s = cbi g s := (cln_cong hf h).2.1
theorem ix100 (q b : Nat) : (100 * nI q) + nI b = nI (100 * q + b) := by
  show nI 100 * nI q + nI b = _
  rw [nI_mul, nI_add]
theorem lt_ex {Q : Nat → Prop} {l : Nat} (h : ∀ c, c < l → Q c) (h2 : Q l) : ∀ c, c < l + 1 → Q c := fun c hc => by
  by_cases e : c = l
  · rw [e]
    exact h2
  · exact h c (by omega)
theorem Fr43 {w : Wd} {m m' : Mem} (hL : CL w m) (h : Fr [(43, 0)] m m') : CL w m' := hL.fj (h.j (J := [])) (by decide) (by simp)
/-- a second telling, at another place, helps -/
def SQ (w : Wd) (r : Rw) (p b a1 : Nat) (g : Nat → Int32) (a c : Nat) : Prop := ¬ a = a1 ∧ ¬ bw w a c = -1 ∧ bt (cbi (upF g a (trn w r p a c)) (spr w)) b = true
theorem spr_w {w : Wd} {b : Nat} (hb : b < wP w) : spr w = w 0 3 := if_neg (by omega)
set_option maxHeartbeats 1000000 in
theorem second_c {w : Wd} {r : Rw} {m : Mem} {p a1 b : Nat} {g : Nat → Int32} (hW : WF w) (hL : CL w m) (ha1 : a1 < wP w) (hb : b < wP w) (hg : FF (wP w) g (spr w)) (h43 : ∀ x, x < wP w → m 43 0 x = g x) (h44 : ∀ a c, a < wP w → c < wP w → ¬ bw w a c = -1 → m 44 0 (12 * a + c) = trn w r p a c) : Tot (r_X0_secondHelps (nI b) (nI a1) m) (fun q => (q.1 = true ↔ ∃ a c, a < wP w ∧ c < wP w ∧ SQ w r p b a1 g a c) ∧ (q.1 = false → ∀ x, x < wP w → q.2 43 0 x = g x) ∧ Fr [(43, 0)] m q.2) := by
  have hP := hW.1
  unfold r_X0_secondHelps r_X0_secondHelps_l2
  rw [tot_bdS]
  refine tot_for (fun k (t : Int32 × Mem) => t.1 = nI k ∧ (∀ a, a < k → ∀ c, c < wP w → ¬ SQ w r p b a1 g a c) ∧ (∀ x, x < wP w → t.2 43 0 x = g x) ∧ Fr [(43, 0)] m t.2) (wP w) ?_ ?_ 0 _ (Nat.zero_le _) ⟨rfl, fun a h => absurd h (Nat.not_lt_zero a), h43, Fr.rf⟩
  · rintro k ⟨x3, m1⟩ hk ⟨e1, e2, e3, hF⟩
    dsimp only at e1 e2 e3 hF ⊢
    subst e1
    have hL1 := Fr43 hL hF
    unfold r_X0_secondHelps_b2 r_X0_secondHelps_l24_c2
    rw [hL1.1, hP.1, if_neg (nI_ge hk (by omega)), if_pos (inb_nI (by omega) (by omega)), clamp_nI (by omega), e3 k hk, tot_bdS]
    refine tot_for (fun l (t : Int32 × Mem) => t.1 = nI l ∧ (∀ c, c < l → ¬ SQ w r p b a1 g k c) ∧ (∀ x, x < wP w → ¬ x = k → t.2 43 0 x = g x) ∧ Fr [(43, 0)] m t.2) (wP w) ?_ ?_ 0 _ (Nat.zero_le _) ⟨rfl, fun c h => absurd h (Nat.not_lt_zero c), fun x hx _ => e3 x hx, hF⟩
    · rintro l ⟨x5, m2⟩ hl ⟨f1, f2, f3, hF2⟩
      dsimp only at f1 f2 f3 hF2 ⊢
      subst f1
      have hL2 := Fr43 hL hF2
      unfold r_X0_secondHelps_b24_c2 r_X0_secondHelps_j83_c24
      rw [hL2.1, hP.1, if_neg (nI_ge hl (by omega))]
      by_cases hka : k = a1
      · rw [if_pos (by rw [hka])]
        exact tot_some.mpr ⟨(nI_succ l).symm, lt_ex f2 (fun q => q.1 hka), f3, hF2⟩
      · rw [if_neg (fun q => hka ((nI_eq (by omega) (by omega)).mp q)), bd1_s (btwC hW.1.2 hL2 (by omega) (by omega))]
        by_cases hz : bw w k l = -1
        · rw [if_pos hz]
          exact tot_some.mpr ⟨(nI_succ l).symm, lt_ex f2 (fun q => q.2.1 hz), f3, hF2⟩
        · rw [if_neg hz, ix12, if_pos (inb_nI (by omega) (by omega)), clamp_nI (by omega), if_pos (inb_nI (by omega) (by omega)), clamp_nI (by omega), hF2 44 0 (by decide), h44 k l hk hl hz]
          have hF3 : Fr [(43, 0)] m (wr m2 43 0 k (trn w r p k l)) := hF2.wr (by simp) _ _
          have h3 : ∀ x, x < wP w → wr m2 43 0 k (trn w r p k l) 43 0 x = upF g k (trn w r p k l) x := fun x hx => by
            rw [wr_if]
            unfold upF
            by_cases hxk : x = k
            · rw [if_pos hxk, if_pos hxk]
            · rw [if_neg hxk, if_neg hxk, f3 x hx hxk]
          have hL3 := Fr43 hL hF3
          rw [bd1_s (comesTo_c (hg.up (trn_ok w r p k l)) (hL3.1.trans hP.1) (hL3.2.2.2.1.trans (spr_w hb).symm) h3 hb)]
          by_cases hq : bt (cbi (upF g k (trn w r p k l)) (spr w)) b = true
          · rw [if_pos hq]
            refine tot_some.mpr ?_
            show Tot (some (Sum.inr (Sum.inr (true, wr m2 43 0 k (trn w r p k l))))) _
            refine tot_some.mpr ?_
            show Tot (some (true, wr m2 43 0 k (trn w r p k l))) _
            exact tot_some.mpr ⟨⟨fun _ => ⟨k, l, hk, hl, hka, hz, hq⟩, fun _ => rfl⟩, fun e => Bool.noConfusion e, hF3⟩
          · rw [if_neg hq]
            exact tot_some.mpr ⟨(nI_succ l).symm, lt_ex f2 (fun q => hq q.2.2), fun x hx hxk => (h3 x hx).trans (upF_ne hxk), hF3⟩
    · rintro ⟨x5, m2⟩ ⟨f1, f2, f3, hF2⟩
      dsimp only at f1 f2 f3 hF2 ⊢
      subst f1
      have hL2 := Fr43 hL hF2
      unfold r_X0_secondHelps_b24_c2
      rw [hL2.1, hP.1, if_pos (nI_le (Nat.le_refl _) (by omega)), tot_some]
      show Tot (r_X0_secondHelps_e89_h24_c2 _ _ _ _ m2) _
      unfold r_X0_secondHelps_e89_h24_c2
      rw [if_pos (inb_nI (by omega) (by omega)), clamp_nI (by omega)]
      refine tot_some.mpr ⟨(nI_succ k).symm, lt_ex e2 f2, fun x hx => ?_, hF2.wr (by simp) _ _⟩
      dsimp only
      rw [wr_if]
      by_cases hxk : x = k
      · rw [if_pos hxk, hxk]
      · rw [if_neg hxk, f3 x hx hxk]
  · rintro ⟨x3, m1⟩ ⟨e1, e2, e3, hF⟩
    dsimp only at e1 e2 e3 hF ⊢
    subst e1
    have hL1 := Fr43 hL hF
    unfold r_X0_secondHelps_b2
    rw [hL1.1, hP.1, if_pos (nI_le (Nat.le_refl _) (by omega)), tot_some]
    show Tot (r_X0_secondHelps_e103_h2 m1) _
    unfold r_X0_secondHelps_e103_h2
    exact tot_some.mpr ⟨⟨fun h => Bool.noConfusion h, fun ⟨a, c, ha, hc, h⟩ => absurd h (e2 a ha c hc)⟩, fun _ => e3, hF⟩
set_option maxHeartbeats 1000000 in
theorem firstOf_c {w : Wd} {r : Rw} {m : Mem} {p b : Nat} {x2 : Int32} {PR : Nat → Nat → Prop} (hW : WF w) (hL : CL w m) (h43 : ∀ x, x < wP w → m 43 0 x = nxt w r x) (h44 : ∀ a c, a < wP w → c < wP w → ¬ bw w a c = -1 → m 44 0 (12 * a + c) = trn w r p a c) (H : ∀ m1 a c, a < wP w → c < wP w → ¬ bw w a c = -1 → (∀ x, x < wP w → m1 43 0 x = upF (nxt w r) a (trn w r p a c) x) → Fr [(43, 0)] m m1 → (x2 = 0 ∧ ∃ z, r_X0_comesTo (nI b) m1 = some z ∧ (z = true ↔ PR a c)) ∨ (¬ x2 = 0 ∧ Tot (r_X0_secondHelps (nI b) (nI a) m1) (fun q => (q.1 = true ↔ PR a c) ∧ (q.1 = false → ∀ x, x < wP w → q.2 43 0 x = m1 43 0 x) ∧ Fr [(43, 0)] m1 q.2))) : Tot (r_X0_firstOfTellings (nI b) x2 m) (fun q => Fst (wP w) (fun a c => ¬ bw w a c = -1 ∧ PR a c) q.1 ∧ (q.1 = -1 → ∀ x, x < wP w → q.2 43 0 x = nxt w r x) ∧ Fr [(43, 0)] m q.2) := by
  have hP := hW.1
  unfold r_X0_firstOfTellings r_X0_firstOfTellings_l2
  rw [tot_bdS]
  refine tot_for (fun k (t : Int32 × Mem) => t.1 = nI k ∧ (∀ a, a < k → ∀ c, c < wP w → ¬ (¬ bw w a c = -1 ∧ PR a c)) ∧ (∀ x, x < wP w → t.2 43 0 x = nxt w r x) ∧ Fr [(43, 0)] m t.2) (wP w) ?_ ?_ 0 _ (Nat.zero_le _) ⟨rfl, fun a h => absurd h (Nat.not_lt_zero a), h43, Fr.rf⟩
  · rintro k ⟨x3, m1⟩ hk ⟨e1, e2, e3, hF⟩
    dsimp only at e1 e2 e3 hF ⊢
    subst e1
    have hL1 := Fr43 hL hF
    unfold r_X0_firstOfTellings_b2 r_X0_firstOfTellings_l24_c2
    rw [hL1.1, hP.1, if_neg (nI_ge hk (by omega)), if_pos (inb_nI (by omega) (by omega)), clamp_nI (by omega), e3 k hk, tot_bdS]
    refine tot_for (fun l (t : Int32 × Mem) => t.1 = nI l ∧ (∀ c, c < l → ¬ (¬ bw w k c = -1 ∧ PR k c)) ∧ (∀ x, x < wP w → ¬ x = k → t.2 43 0 x = nxt w r x) ∧ Fr [(43, 0)] m t.2) (wP w) ?_ ?_ 0 _ (Nat.zero_le _) ⟨rfl, fun c h => absurd h (Nat.not_lt_zero c), fun x hx _ => e3 x hx, hF⟩
    · rintro l ⟨x5, m2⟩ hl ⟨f1, f2, f3, hF2⟩
      dsimp only at f1 f2 f3 hF2 ⊢
      subst f1
      have hL2 := Fr43 hL hF2
      unfold r_X0_firstOfTellings_b24_c2 r_X0_firstOfTellings_j100_c24
      rw [hL2.1, hP.1, if_neg (nI_ge hl (by omega)), bd1_s (btwC hW.1.2 hL2 (by omega) (by omega))]
      by_cases hz : bw w k l = -1
      · rw [if_pos hz]
        exact tot_some.mpr ⟨(nI_succ l).symm, lt_ex f2 (fun q => q.1 hz), f3, hF2⟩
      · rw [if_neg hz, ix12, if_pos (inb_nI (by omega) (by omega)), clamp_nI (by omega), if_pos (inb_nI (by omega) (by omega)), clamp_nI (by omega), hF2 44 0 (by decide), h44 k l hk hl hz, ix100]
        have hF3 : Fr [(43, 0)] m (wr m2 43 0 k (trn w r p k l)) := hF2.wr (by simp) _ _
        have h3 : ∀ x, x < wP w → wr m2 43 0 k (trn w r p k l) 43 0 x = upF (nxt w r) k (trn w r p k l) x := fun x hx => by
          rw [wr_if]
          unfold upF
          by_cases hxk : x = k
          · rw [if_pos hxk, if_pos hxk]
          · rw [if_neg hxk, if_neg hxk, f3 x hx hxk]
        generalize wr m2 43 0 k (trn w r p k l) = m3 at hF3 h3 ⊢
        have fnd : PR k l → ∀ m4, Fr [(43, 0)] m m4 → Fst (wP w) (fun a c => ¬ bw w a c = -1 ∧ PR a c) (nI (100 * k + l)) ∧ (nI (100 * k + l) = -1 → ∀ x, x < wP w → m4 43 0 x = nxt w r x) ∧ Fr [(43, 0)] m m4 := fun hq m4 hF4 => by
          refine ⟨Or.inr ⟨k, l, hk, hl, ⟨hz, hq⟩, rfl, fun a c ha hc h => ?_⟩, fun e => absurd e (m1_ne (by omega)), hF4⟩
          by_cases h1 : a < k
          · exact absurd h (e2 a h1 c hc)
          · by_cases h2 : a = k ∧ c < l
            · obtain ⟨rfl, h2⟩ := h2
              exact absurd h (f2 c h2)
            · omega
        rcases H m3 k l hk hl hz h3 hF3 with ⟨h0, z, hz1, hz2⟩ | ⟨h0, hT⟩
        · rw [if_pos h0, bd1_s hz1]
          by_cases hq : z = true
          · rw [if_pos hq]
            refine tot_some.mpr ?_
            show Tot (some (Sum.inr (Sum.inr (nI (100 * k + l), m3)))) _
            refine tot_some.mpr ?_
            show Tot (some (nI (100 * k + l), m3)) _
            exact tot_some.mpr (fnd (hz2.mp hq) m3 hF3)
          · rw [if_neg hq]
            exact tot_some.mpr ⟨(nI_succ l).symm, lt_ex f2 (fun q => hq (hz2.mpr q.2)), fun x hx hxk => (h3 x hx).trans (upF_ne hxk), hF3⟩
        · rw [if_neg h0, tot_bd2]
          refine hT.mono ?_
          rintro ⟨z, m4⟩ ⟨g1, g2, g3⟩
          dsimp only at g1 g2 g3 ⊢
          have hF4 : Fr [(43, 0)] m m4 := hF3.tr g3
          by_cases hq : z = true
          · rw [if_pos hq]
            refine tot_some.mpr ?_
            show Tot (some (Sum.inr (Sum.inr (nI (100 * k + l), m4)))) _
            refine tot_some.mpr ?_
            show Tot (some (nI (100 * k + l), m4)) _
            exact tot_some.mpr (fnd (g1.mp hq) m4 hF4)
          · rw [if_neg hq]
            exact tot_some.mpr ⟨(nI_succ l).symm, lt_ex f2 (fun q => hq (g1.mpr q.2)), fun x hx hxk => (g2 (ts_nt' hq) x hx).trans ((h3 x hx).trans (upF_ne hxk)), hF4⟩
    · rintro ⟨x5, m2⟩ ⟨f1, f2, f3, hF2⟩
      dsimp only at f1 f2 f3 hF2 ⊢
      subst f1
      have hL2 := Fr43 hL hF2
      unfold r_X0_firstOfTellings_b24_c2
      rw [hL2.1, hP.1, if_pos (nI_le (Nat.le_refl _) (by omega)), tot_some]
      show Tot (r_X0_firstOfTellings_e106_h24_c2 _ _ _ _ m2) _
      unfold r_X0_firstOfTellings_e106_h24_c2
      rw [if_pos (inb_nI (by omega) (by omega)), clamp_nI (by omega)]
      refine tot_some.mpr ⟨(nI_succ k).symm, lt_ex e2 f2, fun x hx => ?_, hF2.wr (by simp) _ _⟩
      dsimp only
      rw [wr_if]
      by_cases hxk : x = k
      · rw [if_pos hxk, hxk]
      · rw [if_neg hxk, f3 x hx hxk]
  · rintro ⟨x3, m1⟩ ⟨e1, e2, e3, hF⟩
    dsimp only at e1 e2 e3 hF ⊢
    subst e1
    have hL1 := Fr43 hL hF
    unfold r_X0_firstOfTellings_b2
    rw [hL1.1, hP.1, if_pos (nI_le (Nat.le_refl _) (by omega)), tot_some]
    show Tot (r_X0_firstOfTellings_e120_h2 m1) _
    unfold r_X0_firstOfTellings_e120_h2
    exact tot_some.mpr ⟨Or.inl ⟨rfl, fun a c ha hc => e2 a ha c hc⟩, fun _ => e3, hF⟩
def rc0 (w : Wd) (r : Rw) (b : Nat) : Bool := bt (cbi (nxt w r) (spr w)) b
def PR1 (w : Wd) (r : Rw) (p b a c : Nat) : Prop := ¬ bw w a c = -1 ∧ bt (cbi (upF (nxt w r) a (trn w r p a c)) (spr w)) b = true
def PR2 (w : Wd) (r : Rw) (p b a c : Nat) : Prop := ¬ bw w a c = -1 ∧ ∃ a2 c2, a2 < wP w ∧ c2 < wP w ∧ SQ w r p b a (upF (nxt w r) a (trn w r p a c)) a2 c2
/-- how many tellings, and the first -/
def TA (w : Wd) (r : Rw) (p b : Nat) (z0 z1 : Int32) : Prop := (rc0 w r b = true ∧ z0 = 0 ∧ z1 = -1) ∨ (rc0 w r b = false ∧ ∃ y, Fst (wP w) (PR1 w r p b) y ∧ ((¬ y = -1 ∧ z0 = 1 ∧ z1 = y) ∨ (y = -1 ∧ ∃ y2, Fst (wP w) (PR2 w r p b) y2 ∧ z1 = y2 ∧ z0 = if y2 = -1 then -1 else 2)))
theorem TA.uq {w : Wd} {r : Rw} {p b : Nat} {z0 z1 t0 t1 : Int32} (h : TA w r p b z0 z1) (h' : TA w r p b t0 t1) : z0 = t0 ∧ z1 = t1 := by
  rcases h with ⟨h0, h1, h2⟩ | ⟨h0, y, hy, h⟩
  · rcases h' with ⟨g0, g1, g2⟩ | ⟨g0, -⟩
    · rw [h1, h2, g1, g2]
      exact ⟨rfl, rfl⟩
    · rw [h0] at g0
      cases g0
  · rcases h' with ⟨g0, -⟩ | ⟨g0, y', hy', h'⟩
    · rw [h0] at g0
      cases g0
    · have ey := hy.uq hy'
      subst ey
      rcases h with ⟨h1, h2, h3⟩ | ⟨h1, y2, hy2, h2, h3⟩
      · rcases h' with ⟨-, g2, g3⟩ | ⟨g1, -⟩
        · rw [h2, h3, g2, g3]
          exact ⟨rfl, rfl⟩
        · exact absurd g1 h1
      · rcases h' with ⟨g1, -⟩ | ⟨-, y3, hy3, g2, g3⟩
        · exact absurd h1 g1
        · have e2 := hy2.uq hy3
          subst e2
          rw [h2, h3, g2, g3]
          exact ⟨rfl, rfl⟩
abbrev JT : List (Nat × Nat) := [(0, 0), (0, 1)]
set_option maxHeartbeats 1000000 in
theorem findT_c {w : Wd} {r : Rw} {m : Mem} {p b : Nat} (hW : WF w) (hL : CL w m) (hC : CW w m) (hS : StC w r m 0) (hp : p < wN w) (hb : b < wP w) : Tot (r_X0_findTellings 0 (nI p) (nI b) m) (fun m' => TA w r p b (m' 0 0 0) (m' 0 0 1) ∧ Fj KU JT m m') := by
  have hP := hW.1
  have hff := FF_of hW r
  unfold r_X0_findTellings
  rw [tot_bd1]
  refine (copyFrom_tot (i0 := 1) (i1 := 0) (by decide)).mono ?_
  rintro m1 ⟨c1, -, -, -, -, -, c2⟩
  have hS1 := c1 w r hW hS
  have hF1 : Fj KU JT m m1 := (c2.mono (by simp)).j
  unfold r_X0_findTellings_l11
  rw [tot_bd1]
  refine (turns_c hW (hL.fj hF1 (by decide) (by decide)) (hC.fj hF1 (by decide) (by decide)) hS1 hp).mono ?_
  rintro m2 ⟨⟨b1, b2⟩, hF2'⟩
  have hF2 : Fj KU JT m m2 := hF1.tr (hF2'.mono (by simp) (by simp))
  unfold r_X0_findTellings_e56_h11
  have hF3 : Fj KU JT m (wr (wr m2 0 0 0 0) 0 0 1 (-1)) := (hF2.wrJ (by simp) _ _).wrJ (by simp) _ _
  have k3 : ∀ k i j, ¬ k = 0 → wr (wr m2 0 0 0 0) 0 0 1 (-1) k i j = m2 k i j := fun k i j hk => by rw [wr_k hk, wr_k hk]
  have v0 : wr (wr m2 0 0 0 0) 0 0 1 (-1) 0 0 0 = 0 := by rw [wr_j (by decide), wr_eq]
  have v1 : wr (wr m2 0 0 0 0) 0 0 1 (-1) 0 0 1 = -1 := wr_eq _ _ _ _ _
  generalize wr (wr m2 0 0 0 0) 0 0 1 (-1) = m3 at hF3 k3 v0 v1 ⊢
  have hL3 : CL w m3 := hL.fj hF3 (by decide) (by decide)
  rw [bd1_s (comesTo_c hff (hL3.1.trans hP.1) (hL3.2.2.2.1.trans (spr_w hb).symm) (fun a ha => by rw [k3 43 0 a (by decide)]; exact b1 a ha) hb)]
  by_cases h0 : bt (cbi (nxt w r) (spr w)) b = true
  · rw [if_pos h0]
    exact tot_some.mpr ⟨Or.inl ⟨h0, v0, v1⟩, hF3⟩
  · rw [if_neg h0, tot_bd2]
    have hF4 : Fj KU JT m (wr m3 0 0 0 1) := hF3.wrJ (by simp) _ _
    have k4 : ∀ k i j, ¬ k = 0 → wr m3 0 0 0 1 k i j = m2 k i j := fun k i j hk => by rw [wr_k hk, k3 k i j hk]
    have u0 : wr m3 0 0 0 1 0 0 0 = 1 := wr_eq _ _ _ _ _
    generalize wr m3 0 0 0 1 = m4 at hF4 k4 u0 ⊢
    have hL4 : CL w m4 := hL.fj hF4 (by decide) (by decide)
    refine (firstOf_c (r := r) (p := p) (PR := fun a c => bt (cbi (upF (nxt w r) a (trn w r p a c)) (spr w)) b = true) hW hL4 (fun x hx => by rw [k4 43 0 x (by decide)]; exact b1 x hx) (fun a c ha hc h => by rw [k4 44 0 _ (by decide)]; exact b2 a c ha hc h) (fun n1 a c ha hc h h3 hFn => Or.inl ⟨rfl, _, comesTo_c (hff.up (trn_ok w r p a c)) ((Fr43 hL4 hFn).1.trans hP.1) ((Fr43 hL4 hFn).2.2.2.1.trans (spr_w hb).symm) h3 hb, Iff.rfl⟩)).mono ?_
    rintro ⟨y, m5⟩ ⟨g1, g2, g3⟩
    dsimp only at g1 g2 g3 ⊢
    have hF5 : Fj KU JT m m5 := hF4.tr ((g3.mono (by simp)).j)
    by_cases hy : y = -1
    · rw [if_pos hy, tot_bd2]
      have hF6 : Fj KU JT m (wr (wr m5 0 0 1 y) 0 0 0 2) := (hF5.wrJ (by simp) _ _).wrJ (by simp) _ _
      have k6 : ∀ k i j, ¬ k = 0 → wr (wr m5 0 0 1 y) 0 0 0 2 k i j = m5 k i j := fun k i j hk => by rw [wr_k hk, wr_k hk]
      have t0 : wr (wr m5 0 0 1 y) 0 0 0 2 0 0 0 = 2 := wr_eq _ _ _ _ _
      generalize wr (wr m5 0 0 1 y) 0 0 0 2 = m6 at hF6 k6 t0 ⊢
      have hL6 : CL w m6 := hL.fj hF6 (by decide) (by decide)
      have h43 : ∀ x, x < wP w → m6 43 0 x = nxt w r x := fun x hx => by rw [k6 43 0 x (by decide)]; exact g2 hy x hx
      have h44 : ∀ a c, a < wP w → c < wP w → ¬ bw w a c = -1 → m6 44 0 (12 * a + c) = trn w r p a c := fun a c ha hc h => by
        rw [k6 44 0 _ (by decide), g3 44 0 (by decide), k4 44 0 _ (by decide)]
        exact b2 a c ha hc h
      refine (firstOf_c (r := r) (p := p) (PR := fun a c => ∃ a2 c2, a2 < wP w ∧ c2 < wP w ∧ SQ w r p b a (upF (nxt w r) a (trn w r p a c)) a2 c2) hW hL6 h43 h44 (fun n1 a c ha hc h h3 hFn => Or.inr ⟨by decide, ?_⟩)).mono ?_
      · refine (second_c (r := r) (p := p) hW (Fr43 hL6 hFn) ha hb (hff.up (trn_ok w r p a c)) h3 (fun a c ha hc h => by rw [hFn 44 0 (by decide)]; exact h44 a c ha hc h)).mono ?_
        rintro ⟨z, n2⟩ ⟨q1, q2, q3⟩
        exact ⟨q1, fun e x hx => by rw [q2 e x hx, h3 x hx], q3⟩
      · rintro ⟨y2, m7⟩ ⟨j1, -, j3⟩
        dsimp only at j1 j3 ⊢
        have hF7 : Fj KU JT m m7 := hF6.tr ((j3.mono (by simp)).j)
        have n0 : m7 0 0 0 = 2 := by rw [j3 0 0 (by decide)]; exact t0
        unfold r_X0_findTellings_j113
        rw [wr_eq]
        by_cases hy2 : y2 = -1
        · rw [if_pos hy2]
          refine tot_some.mpr ⟨Or.inr ⟨ts_nt' h0, y, g1, Or.inr ⟨hy, y2, j1, ?_, ?_⟩⟩, (hF7.wrJ (by simp) _ _).wrJ (by simp) _ _⟩
          · rw [wr_j (by decide), wr_eq]
          · rw [wr_eq, if_pos hy2]
        · rw [if_neg hy2]
          refine tot_some.mpr ⟨Or.inr ⟨ts_nt' h0, y, g1, Or.inr ⟨hy, y2, j1, ?_, ?_⟩⟩, hF7.wrJ (by simp) _ _⟩
          · rw [wr_eq]
          · rw [wr_j (by decide), n0, if_neg hy2]
    · rw [if_neg hy]
      have n0 : m5 0 0 0 = 1 := by rw [g3 0 0 (by decide)]; exact u0
      unfold r_X0_findTellings_j113
      rw [wr_eq, if_neg hy]
      refine tot_some.mpr ⟨Or.inr ⟨ts_nt' h0, y, g1, Or.inl ⟨hy, ?_, wr_eq _ _ _ _ _⟩⟩, hF5.wrJ (by simp) _ _⟩
      rw [wr_j (by decide), n0]
