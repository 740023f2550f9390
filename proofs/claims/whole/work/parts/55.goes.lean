/-! ===== the world as it is told, the class's cells of it, where it goes on ===== -/
def wP (w : Wd) : Nat := (w 0 0).toNatClampNeg
def wD (w : Wd) : Nat := (w 0 1).toNatClampNeg
def wN (w : Wd) : Nat := (w 0 2).toNatClampNeg
def wS (w : Wd) : Nat := (w 0 3).toNatClampNeg
def wn (w : Wd) : Nat := (w 7 0).toNatClampNeg
/-- a world that can stand -/
def WF (w : Wd) : Prop := (w 0 0 = nI (wP w) ∧ wP w ≤ 12) ∧ (w 0 1 = nI (wD w) ∧ wD w ≤ 16) ∧ (w 0 2 = nI (wN w) ∧ wN w ≤ 6) ∧ (w 0 3 = nI (wS w) ∧ (wS w < wP w ∨ (wP w = 0 ∧ wS w = 0))) ∧ w 7 0 = nI (wn w) ∧ lwf (wn w) (w 5) (w 6) ∧ (∀ e, e < wD w → ∃ a b, a < wP w ∧ b < wP w ∧ ¬ a = b ∧ w 2 e = nI a ∧ w 3 e = nI b) ∧ (0 < wN w → 0 < wP w) ∧ ∀ p, p < wN w → ∃ t, 1 ≤ t ∧ t ≤ 9 ∧ w 4 p = nI t
/-- a row that can stand in it: where the persons are, what they believe, how deep the ditches are dug -/
def RF (w : Wd) (r : Rw) : Prop := (∀ p, p < wN w → ∃ a, a < wP w ∧ r (72 + p) = nI a) ∧ (∀ p a, p < wN w → a < 12 → r (12 * p + a) = -1 ∨ (a < wP w ∧ ∃ b, b < wP w ∧ r (12 * p + a) = nI b)) ∧ ∀ e, e < 16 → ∃ d, d ≤ 9 ∧ r (78 + e) = nI d
abbrev bw (w : Wd) (a b : Nat) : Int32 := btw w (wD w) (nI a) (nI b)
theorem bw_or (w : Wd) (a b : Nat) : bw w a b = -1 ∨ ∃ e, e < wD w ∧ bw w a b = nI e ∧ hit w (nI a) (nI b) e = true := btw_or w (wD w) (nI a) (nI b)
/-- the class's land -/
def CL (w : Wd) (m : Mem) : Prop := m 3 0 0 = w 0 0 ∧ m 3 0 1 = w 0 1 ∧ m 3 0 2 = w 0 2 ∧ m 3 0 3 = w 0 3 ∧ (∀ a, a < wP w → m 25 0 a = w 1 a) ∧ (∀ e, e < wD w → m 27 0 e = w 2 e ∧ m 28 0 e = w 3 e) ∧ (∀ a b, a < wP w → b < wP w → m 29 0 (12 * a + b) = bw w a b) ∧ ∀ a, a < 12 → ∀ b, b < 32 → bt (m 26 0 a) b = decide (b < 12 ∧ ¬ bw w a b = -1)
/-- the class's state i is the row r -/
def StC (w : Wd) (r : Rw) (m : Mem) (i : Nat) : Prop := m 7 i 0 = r 110 ∧ m 7 i 1 = w 0 2 ∧ (∀ p, p < wN w → m 20 i p = w 4 p ∧ m 21 i p = r (72 + p)) ∧ (∀ p a, p < wN w → a < 12 → m 22 i (12 * p + a) = r (12 * p + a)) ∧ ∀ e, e < 16 → m 23 i e = r (78 + e) ∧ m 24 i e = r (94 + e)
abbrev CW (w : Wd) (m : Mem) : Prop := lawC 0 (wn w) (w 5) (w 6) m
/-- how the ditch between a and b draws -/
def drq (w : Wd) (r : Rw) (a b : Nat) : Int32 := drw w (wn w) (wN w) r (bw w a b).toNatClampNeg a b 0 0 0
def nxt (w : Wd) (r : Rw) (a : Nat) : Int32 := (bst (fun b => if bw w a b = -1 then none else some (drq w r a b)) (wP w)).1
theorem nxg_eq (w : Wd) (r : Rw) (a : Nat) (ed : Int32) : nxg w (wn w) (wD w) (wN w) r a ed 0 = fun b => if bw w a b = -1 then none else some (drq w r a b) := by
  funext b
  unfold nxg drq
  rw [ite_self]
theorem nxt_or (w : Wd) (r : Rw) (a : Nat) : nxt w r a = -1 ∨ ∃ b, b < wP w ∧ nxt w r a = nI b ∧ ¬ bw w a b = -1 := by
  rcases bst_or (fun b => if bw w a b = -1 then none else some (drq w r a b)) (wP w) with h | ⟨b, hb, h, h2⟩
  · exact Or.inl h
  · refine Or.inr ⟨b, hb, h, fun e => h2 ?_⟩
    rw [if_pos e]
/-! bits -/
theorem bt_1 (i : Nat) : bt 1 i = decide (i = 0) := by
  rcases Nat.lt_or_ge i 32 with h | h
  · exact (by decide +kernel : ∀ i, i < 32 → bt 1 i = decide (i = 0)) i h
  · rw [b_big h, decide_eq_false (by omega)]
theorem and1_0 (x : Int32) : x &&& 1 = 0 ↔ bt x 0 = false := by
  constructor
  · intro h
    have := congrArg (fun y => bt y 0) h
    rw [b_and, bt_1, b_0] at this
    simpa using this
  · intro h
    apply b_ext
    intro i hi
    rw [b_and, bt_1, b_0]
    by_cases e : i = 0
    · rw [e, h]; rfl
    · rw [decide_eq_false e, Bool.and_false]
theorem and1_1 (x : Int32) : x &&& 1 = 1 ↔ bt x 0 = true := by
  constructor
  · intro h
    have := congrArg (fun y => bt y 0) h
    rw [b_and, bt_1] at this
    simpa using this
  · intro h
    apply b_ext
    intro i hi
    rw [b_and, bt_1]
    by_cases e : i = 0
    · rw [e, h]; rfl
    · rw [decide_eq_false e, Bool.and_false]
theorem bit_0 {x : Int32} {k : Nat} (hk : k < 32) : (x >>> (nI k &&& 31)) &&& 1 = 0 ↔ bt x k = false := by
  rw [and1_0, b_sshr k hk x (by decide), if_pos (by omega), Nat.add_zero]
theorem bit_1 {x : Int32} {k : Nat} (hk : k < 32) : (x >>> (nI k &&& 31)) &&& 1 = 1 ↔ bt x k = true := by
  rw [and1_1, b_sshr k hk x (by decide), if_pos (by omega), Nat.add_zero]
theorem bt_shl1 {k : Nat} (hk : k < 32) {i : Nat} (hi : i < 32) : bt (1 <<< (nI k &&& 31)) i = decide (i = k) := by
  rw [b_shl k hk 1 hi, bt_1]
  by_cases e : i = k
  · rw [decide_eq_true e, decide_eq_true (by omega), decide_eq_true (by omega)]; rfl
  · rw [decide_eq_false e]
    by_cases e2 : k ≤ i
    · rw [decide_eq_false (by omega : ¬ i - k = 0), Bool.and_false]
    · rw [decide_eq_false e2, Bool.false_and]
theorem has_eq {x : Int32} {k : Nat} (hk : k < 32) : r_X12_has x (nI k) = bt x k := by
  unfold r_X12_has
  by_cases h : bt x k = true
  · rw [if_pos ((bit_1 hk).mpr h), h]
  · rw [if_neg (fun e => h ((bit_1 hk).mp e))]
    cases hb : bt x k with
    | true => exact absurd hb h
    | false => rfl
/-! the class's draw and where it goes on are the world's -/
theorem pds_cong {tr tr' wh wh' bl bl' : Nat → Int32} {a b : Int32} {s : Int32 × Int32 × Int32} : ∀ {n : Nat}, (∀ p, p < n → tr p = tr' p ∧ wh p = wh' p ∧ bl p = bl' p) → pds tr wh bl a b s n = pds tr' wh' bl' a b s n
  | 0, _ => rfl
  | p + 1, h => by
    unfold pds
    obtain ⟨h1, h2, h3⟩ := h p (Nat.lt_succ_self p)
    rw [pds_cong (fun q hq => h q (Nat.lt_succ_of_lt hq)), h1, h2, h3]
theorem cdr_eq {w : Wd} {r : Rw} {m : Mem} {i a b : Nat} (hW : WF w) (hL : CL w m) (hS : StC w r m i) (ha : a < wP w) (hb : b < wP w) (hz : ¬ bw w a b = -1) : cdr m i (wn w) (wN w) (w 5) (w 6) (bw w a b) a b = drq w r a b := by
  have hP := hW.1.2
  unfold cdr drq drw
  rw [if_neg hz, if_neg hz, hL.2.2.2.2.1 a ha, hL.2.2.2.2.1 b hb, hS.1]
  rcases bw_or w a b with h | ⟨e, he, h, -⟩
  · exact absurd h hz
  · have he2 := hW.2.1.2
    rw [h, clamp_nI (by omega), (hS.2.2.2.2 e (by omega)).1, (hS.2.2.2.2 e (by omega)).2, pds_cong (tr' := w 4) (wh' := fun p => r (72 + p)) (bl' := fun p => r (12 * p + a)) (fun p hp => ⟨(hS.2.2.1 p hp).1, (hS.2.2.1 p hp).2, hS.2.2.2.1 p a hp (by omega)⟩), add0]
theorem draw_tot {w : Wd} {r : Rw} {m : Mem} {i a b : Nat} (hW : WF w) (hL : CL w m) (hC : CW w m) (hS : StC w r m i) (ha : a < wP w) (hb : b < wP w) (hz : ¬ bw w a b = -1) : Tot (r_X6_draw i (nI a) (nI b) m) (fun q => q.1 = drq w r a b ∧ Fr [(33, 0), (35, 0)] m q.2) := by
  have hP := hW.1.2
  have hN := hW.2.2.1
  refine (cdraw_tot (n := wn w) (N := wN w) (cw := w 5) (cv := w 6) (z := bw w a b) hC hW.2.2.2.2.2.1 (hS.2.1.trans hN.1) (by omega) (by omega) (by omega) (hL.2.2.2.2.2.2.1 a b (by omega) (by omega)) ?_).mono fun q hq => ⟨hq.1.trans (cdr_eq hW hL hS ha hb hz), hq.2⟩
  rcases bw_or w a b with h | ⟨e, he, h, -⟩
  · exact absurd h hz
  · have he2 := hW.2.1.2
    exact Or.inr (by rw [h]; exact (inb_nI (by omega) (by omega)))
theorem CL.fr {w : Wd} {m m' : Mem} (h : CL w m) (h3 : m' 3 0 = m 3 0) (h25 : m' 25 0 = m 25 0) (h26 : m' 26 0 = m 26 0) (h27 : m' 27 0 = m 27 0) (h28 : m' 28 0 = m 28 0) (h29 : m' 29 0 = m 29 0) : CL w m' := by
  unfold CL at h ⊢
  rw [h3, h25, h26, h27, h28, h29]
  exact h
theorem StC.fr {w : Wd} {r : Rw} {m m' : Mem} {i : Nat} (h : StC w r m i) (h7 : m' 7 i = m 7 i) (h20 : m' 20 i = m 20 i) (h21 : m' 21 i = m 21 i) (h22 : m' 22 i = m 22 i) (h23 : m' 23 i = m 23 i) (h24 : m' 24 i = m 24 i) : StC w r m' i := by
  unfold StC at h ⊢
  rw [h7, h20, h21, h22, h23, h24]
  exact h
theorem lawC.fr {i n : Nat} {cw cv : Nat → Int32} {m m' : Mem} (h : lawC i n cw cv m) (h4 : m' 4 i = m 4 i) (h34 : m' 34 i = m 34 i) : lawC i n cw cv m' := by
  unfold lawC at h ⊢
  rw [h4, h34]
  exact h
set_option maxHeartbeats 1000000 in
theorem goesOn_tot {w : Wd} {r : Rw} {m : Mem} {i a : Nat} (hW : WF w) (hL : CL w m) (hC : CW w m) (hS : StC w r m i) (ha : a < wP w) : Tot (r_X6_goesOn i (nI a) m) (fun q => q.1 = nxt w r a ∧ Fr [(33, 0), (35, 0)] m q.2) := by
  have hP := hW.1.2
  unfold r_X6_goesOn r_X6_goesOn_l8
  rw [tot_bd1]
  refine tot_for (fun k s => s.2.1 = (bst (fun b => if bw w a b = -1 then none else some (drq w r a b)) k).1 ∧ s.1 = (bst (fun b => if bw w a b = -1 then none else some (drq w r a b)) k).2 ∧ s.2.2.1 = nI k ∧ Fr [(33, 0), (35, 0)] m s.2.2.2) (wP w) ?_ ?_ 0 _ (Nat.zero_le _) ⟨rfl, rfl, rfl, Fr.rf⟩
  · rintro k ⟨x3, x4, x5, m1⟩ hk ⟨e1, e2, e3, hF⟩
    dsimp only at e1 e2 e3 hF ⊢
    subst e3
    have hL1 : CL w m1 := hL.fr (hF 3 0 (by decide)) (hF 25 0 (by decide)) (hF 26 0 (by decide)) (hF 27 0 (by decide)) (hF 28 0 (by decide)) (hF 29 0 (by decide))
    have hC1 : CW w m1 := hC.fr (hF 4 0 (by decide)) (hF 34 0 (by decide))
    have hS1 : StC w r m1 i := hS.fr (hF 7 i (by simp)) (hF 20 i (by simp)) (hF 21 i (by simp)) (hF 22 i (by simp)) (hF 23 i (by simp)) (hF 24 i (by simp))
    have hbit := hL1.2.2.2.2.2.2.2 a (by omega) k (by omega)
    have hstep : bst (fun b => if bw w a b = -1 then none else some (drq w r a b)) (k + 1) = (match (if bw w a k = -1 then none else some (drq w r a k)) with
      | none => bst (fun b => if bw w a b = -1 then none else some (drq w r a b)) k
      | some x => if x ≤ (bst (fun b => if bw w a b = -1 then none else some (drq w r a b)) k).2 then bst (fun b => if bw w a b = -1 then none else some (drq w r a b)) k else (nI k, x)) := rfl
    unfold r_X6_goesOn_b8
    rw [hL1.1, hW.1.1, if_neg (nI_ge hk (by omega)), if_pos (inb_nI (by omega) (by omega)), clamp_nI (by omega)]
    unfold r_X6_goesOn_j60_c8
    by_cases hz : bw w a k = -1
    · rw [if_pos ((bit_0 (by omega)).mpr (by rw [hbit]; exact decide_eq_false (fun q => q.2 hz)))]
      rw [if_pos hz] at hstep
      exact tot_some.mpr ⟨by rw [hstep]; exact e1, by rw [hstep]; exact e2, (nI_succ k).symm, hF⟩
    · rw [if_neg (fun q => by have := (bit_0 (by omega)).mp q; rw [hbit, decide_eq_true ⟨by omega, hz⟩] at this; cases this), tot_bd2]
      rw [if_neg hz] at hstep
      dsimp only at hstep
      refine (draw_tot hW hL1 hC1 hS1 ha (by omega) hz).mono ?_
      rintro ⟨z, m2⟩ ⟨hz1, hF2⟩
      dsimp only at hz1 hF2 ⊢
      rw [← hz1, ← e2] at hstep
      by_cases hx : z ≤ x3
      · rw [if_pos hx]
        rw [if_pos hx] at hstep
        exact tot_some.mpr ⟨by rw [hstep]; exact e1, by rw [hstep]; exact e2, (nI_succ k).symm, hF.tr hF2⟩
      · rw [if_neg hx]
        rw [if_neg hx] at hstep
        exact tot_some.mpr ⟨by rw [hstep], by rw [hstep], (nI_succ k).symm, hF.tr hF2⟩
  · rintro ⟨x3, x4, x5, m1⟩ ⟨e1, e2, e3, hF⟩
    dsimp only at e1 e2 e3 hF ⊢
    subst e3
    unfold r_X6_goesOn_b8
    rw [hF 3 0 (by decide), hL.1, hW.1.1, if_pos (nI_le (Nat.le_refl _) (by omega)), tot_some]
    show Tot (r_X6_goesOn_e66_h8 x4 m1) _
    unfold r_X6_goesOn_e66_h8
    exact tot_some.mpr ⟨e1, hF⟩
theorem nextOf_tot {m : Mem} {i a : Nat} (hW : WF (mW m)) (ha : a < 12) : Tot (r_X12_nextOf i (nI a) m) (fun q => q.1 = nxt (mW m) (m 60 i) a ∧ Fr [(55, 0), (56, 0)] m q.2) := by
  unfold r_X12_nextOf
  rw [tot_bd2]
  refine (nextWith_tot (n := wn (mW m)) (P := wP (mW m)) (D := wD (mW m)) (N := wN (mW m)) hW.2.2.2.2.1 hW.2.2.2.2.2.1 hW.1.1 hW.1.2 hW.2.1.1 hW.2.1.2 hW.2.2.1.1 hW.2.2.1.2 ha).mono fun q hq => tot_some.mpr ⟨?_, hq.2⟩
  rw [hq.1, nxg_eq]
  rfl
