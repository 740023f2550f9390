/-! ===== two leaders ===== -/
set_option maxHeartbeats 1000000 in
theorem goesOnG {w : Wd} {m : Mem} {i a : Nat} (hW : WF w) (hL : CL w m) (ha : a < 12) (dq : Nat → Int32) (hd : ∀ m1 b, Fr [(33, 0), (35, 0)] m m1 → b < wP w → ¬ bw w a b = -1 → Tot (r_X6_draw i (nI a) (nI b) m1) (fun q => q.1 = dq b ∧ Fr [(33, 0), (35, 0)] m1 q.2)) : Tot (r_X6_goesOn i (nI a) m) (fun q => q.1 = (bst (fun b => if bw w a b = -1 then none else some (dq b)) (wP w)).1 ∧ Fr [(33, 0), (35, 0)] m q.2) := by
  have hP := hW.1.2
  unfold r_X6_goesOn r_X6_goesOn_l8
  rw [tot_bd1]
  refine tot_for (fun k s => s.2.1 = (bst (fun b => if bw w a b = -1 then none else some (dq b)) k).1 ∧ s.1 = (bst (fun b => if bw w a b = -1 then none else some (dq b)) k).2 ∧ s.2.2.1 = nI k ∧ Fr [(33, 0), (35, 0)] m s.2.2.2) (wP w) ?_ ?_ 0 _ (Nat.zero_le _) ⟨rfl, rfl, rfl, Fr.rf⟩
  · rintro k ⟨x3, x4, x5, m1⟩ hk ⟨e1, e2, e3, hF⟩
    dsimp only at e1 e2 e3 hF ⊢
    subst e3
    have hL1 : CL w m1 := hL.fr (hF 3 0 (by decide)) (hF 25 0 (by decide)) (hF 26 0 (by decide)) (hF 27 0 (by decide)) (hF 28 0 (by decide)) (hF 29 0 (by decide))
    have hbit := hL1.2.2.2.2.2.2.2 a (by omega) k (by omega)
    have hstep : bst (fun b => if bw w a b = -1 then none else some (dq b)) (k + 1) = (match (if bw w a k = -1 then none else some (dq k)) with
      | none => bst (fun b => if bw w a b = -1 then none else some (dq b)) k
      | some x => if x ≤ (bst (fun b => if bw w a b = -1 then none else some (dq b)) k).2 then bst (fun b => if bw w a b = -1 then none else some (dq b)) k else (nI k, x)) := rfl
    unfold r_X6_goesOn_b8
    rw [hL1.1, hW.1.1, if_neg (nI_ge hk (by omega)), if_pos (inb_nI (by omega) (by omega)), clamp_nI (by omega)]
    unfold r_X6_goesOn_j60_c8
    by_cases hz : bw w a k = -1
    · rw [if_pos ((bit_0 (by omega)).mpr (by rw [hbit]; exact decide_eq_false (fun q => q.2 hz)))]
      rw [if_pos hz] at hstep
      exact tot_some.mpr ⟨by rw [hstep]; exact e1, by rw [hstep]; exact e2, (nI_succ k).symm, hF⟩
    · rw [if_neg (fun q => by have := (bit_0 (by omega)).mp q; rw [hbit, decide_eq_true ⟨by omega, hz⟩] at this; cases this), tot_bd2]
      rw [if_neg hz] at hstep
      dsimp only at hstep
      refine (hd m1 k hF hk hz).mono ?_
      rintro ⟨z, m2⟩ ⟨hz1, hF2⟩
      dsimp only at hz1 hF2 ⊢
      rw [← hz1, ← e2] at hstep
      by_cases hx : z ≤ x3
      · rw [if_pos hx]
        rw [if_pos hx] at hstep
        exact tot_some.mpr ⟨by rw [hstep]; exact e1, by rw [hstep]; exact e2, (nI_succ k).symm, hF.tr hF2⟩
      · rw [if_neg hx]
        rw [if_neg hx] at hstep
        exact tot_some.mpr ⟨by rw [hstep], by rw [hstep], (nI_succ k).symm, hF.tr hF2⟩
  · rintro ⟨x3, x4, x5, m1⟩ ⟨e1, e2, e3, hF⟩
    dsimp only at e1 e2 e3 hF ⊢
    subst e3
    unfold r_X6_goesOn_b8
    rw [hF 3 0 (by decide), hL.1, hW.1.1, if_pos (nI_le (Nat.le_refl _) (by omega)), tot_some]
    show Tot (r_X6_goesOn_e66_h8 x4 m1) _
    unfold r_X6_goesOn_e66_h8
    exact tot_some.mpr ⟨e1, hF⟩
theorem pds_sh {tr wh bl : Nat → Int32} {a b u v z : Int32} : ∀ n, pds tr wh bl a b (u, v, z) n = ((pds tr wh bl a b (0, 0, 0) n).1 + u, (pds tr wh bl a b (0, 0, 0) n).2.1 + v, (pds tr wh bl a b (0, 0, 0) n).2.2 + z)
  | 0 => by
    show (u, v, z) = (0 + u, 0 + v, 0 + z)
    rw [Int32.zero_add, Int32.zero_add, Int32.zero_add]
  | n + 1 => by
    have c : ∀ x y t : Int32, x + y + t = x + t + y := fun x y t => by rw [Int32.add_assoc, Int32.add_comm y t, ← Int32.add_assoc]
    unfold pds
    rw [pds_sh n]
    dsimp only
    rw [c _ u, c _ v, c _ z]
/-- what a leader's saying adds -/
def lsb (x : Int32) (c1 c2 b : Nat) : Int32 := (if c1 = b then x else 0) + (if c2 = b then x else 0)
theorem lsb_sy (x : Int32) (c1 c2 b : Nat) : lsb x c1 c2 b = lsb x c2 c1 b := Int32.add_comm _ _
theorem lsd (x : Int32) (c1 c2 b : Nat) : 2 * x - lsb x c1 c2 b = (if c1 = b then 0 else x) + (if c2 = b then 0 else x) := by
  have h2 : 2 * x = x + x := by
    rw [show (2 : Int32) = 1 + 1 from by decide, Int32.add_mul, Int32.one_mul]
  unfold lsb
  rw [h2]
  have e1 : ∀ t : Int32, t + x - x = t := fun t => by rw [Int32.sub_eq_add_neg, Int32.add_assoc, Int32.add_right_neg, Int32.add_zero]
  by_cases h1 : c1 = b <;> by_cases h3 : c2 = b
  · rw [if_pos h1, if_pos h3, if_pos h1, if_pos h3, Int32.sub_self, Int32.add_zero]
  · rw [if_pos h1, if_neg h3, if_pos h1, if_neg h3, Int32.add_zero, Int32.zero_add, e1]
  · rw [if_neg h1, if_pos h3, if_neg h1, if_pos h3, Int32.add_zero, Int32.zero_add, e1]
  · rw [if_neg h1, if_neg h3, if_neg h1, if_neg h3, Int32.add_zero, Int32.sub_zero]
/-- how a ditch draws from the spring, with two leaders -/
def ldd (w : Wd) (r : Rw) (x : Int32) (c1 c2 b : Nat) : Int32 := drw w (wn w) (wN w) r (bw w (wS w) b).toNatClampNeg (wS w) b (lsb x c1 c2 b) (2 * x - lsb x c1 c2 b) 0
def ldt (w : Wd) (r : Rw) (x : Int32) (c1 c2 : Nat) : Int32 := (bst (fun b => if bw w (wS w) b = -1 then none else some (ldd w r x c1 c2 b)) (wP w)).1
theorem ldt_sy (w : Wd) (r : Rw) (x : Int32) (c1 c2 : Nat) : ldt w r x c1 c2 = ldt w r x c2 c1 := by
  unfold ldt
  have : ldd w r x c1 c2 = ldd w r x c2 c1 := by
    funext b
    unfold ldd
    rw [lsb_sy]
  rw [this]
def LdC (w : Wd) (r : Rw) (x : Int32) (m : Mem) : Prop := m 7 1 0 = r 110 ∧ m 7 1 1 = nI (wN w + 2) ∧ (∀ p, p < wN w → m 20 1 p = w 4 p ∧ m 21 1 p = r (72 + p)) ∧ (∀ p a, p < wN w → a < 12 → m 22 1 (12 * p + a) = r (12 * p + a)) ∧ (∀ e, e < 16 → m 23 1 e = r (78 + e) ∧ m 24 1 e = r (94 + e)) ∧ (m 20 1 (wN w) = x ∧ m 20 1 (wN w + 1) = x) ∧ m 21 1 (wN w) = -1 ∧ m 21 1 (wN w + 1) = -1
theorem LdC.fj {K J : List (Nat × Nat)} {w : Wd} {r : Rw} {x : Int32} {m m' : Mem} (hS : LdC w r x m) (h : Fj K J m m') (hK : ∀ q ∈ K, q.1 ∈ [7, 20, 21, 22, 23, 24] → ¬ q.2 = 1) (hJ : ∀ q ∈ J, q.1 ∉ [7, 20, 21, 22, 23, 24]) : LdC w r x m' := by
  have hr : ∀ k, k ∈ [7, 20, 21, 22, 23, 24] → m' k 1 = m k 1 := fun k hk => h.rw' k 1 (fun q hq e => hK q hq (by rw [e]; exact hk) (by rw [e])) (fun q hq e => hJ q hq (by rw [e]; exact hk))
  unfold LdC at hS ⊢
  rw [hr 7 (by decide), hr 20 (by decide), hr 21 (by decide), hr 22 (by decide), hr 23 (by decide), hr 24 (by decide)]
  exact hS
theorem LdC.w22 {w : Wd} {r : Rw} {x v : Int32} {m : Mem} {q : Nat} (hS : LdC w r x m) (hq : 12 * wN w ≤ q) : LdC w r x (wr m 22 1 q v) := by
  have h : ∀ k, ¬ k = 22 → wr m 22 1 q v k 1 = m k 1 := fun k hk => by
    funext j
    exact wr_k hk
  unfold LdC at hS ⊢
  rw [h 7 (by decide), h 20 (by decide), h 21 (by decide), h 23 (by decide), h 24 (by decide)]
  refine ⟨hS.1, hS.2.1, hS.2.2.1, fun p a hp ha => ?_, hS.2.2.2.2⟩
  rw [wr_j (by omega)]
  exact hS.2.2.2.1 p a hp ha
theorem wS_12 {w : Wd} (hW : WF w) : wS w < 12 := by
  have hP := hW.1.2
  rcases hW.2.2.2.1.2 with h | h <;> omega
theorem ldraw_c {w : Wd} {r : Rw} {x : Int32} {m : Mem} {c1 c2 b : Nat} (hW : WF w) (hL : CL w m) (hC : CW w m) (hS : LdC w r x m) (h1 : m 22 1 (12 * wN w + wS w) = nI c1) (h2 : m 22 1 (12 * (wN w + 1) + wS w) = nI c2) (hc1 : c1 < 12) (hc2 : c2 < 12) (hb : b < wP w) (hz : ¬ bw w (wS w) b = -1) : Tot (r_X6_draw 1 (nI (wS w)) (nI b) m) (fun q => q.1 = ldd w r x c1 c2 b ∧ Fr [(33, 0), (35, 0)] m q.2) := by
  have hP := hW.1.2
  have hN := hW.2.2.1
  have hs := wS_12 hW
  have hin := bw_in hW hs (by omega) hz
  refine (cdraw_tot (n := wn w) (N := wN w + 2) (cw := w 5) (cv := w 6) (z := bw w (wS w) b) hC hW.2.2.2.2.2.1 hS.2.1 (by omega) hs (by omega) (hL.2.2.2.2.2.2.1 (wS w) b (by have := hW.2.2.2.1.2; omega) hb) ?_).mono fun q hq => ⟨hq.1.trans ?_, hq.2⟩
  · rcases bw_or w (wS w) b with h | ⟨e, he, h, -⟩
    · exact absurd h hz
    · have he2 := hW.2.1.2
      exact Or.inr (by rw [h]; exact (inb_nI (by omega) (by omega)))
  · unfold cdr ldd drw
    rw [if_neg hz, if_neg hz, hL.2.2.2.2.1 (wS w) hin.1, hL.2.2.2.2.1 b hb, hS.1]
    rcases bw_or w (wS w) b with h | ⟨e, he, h, -⟩
    · exact absurd h hz
    · have he2 := hW.2.1.2
      have n1 : ¬ (-1 : Int32) = nI (wS w) := fun e => m1_ne (by omega) e.symm
      have n2 : ¬ (-1 : Int32) = nI b := fun e => m1_ne (by omega) e.symm
      have n3 : ¬ nI c1 = (-1 : Int32) := m1_ne (by omega)
      have n4 : ¬ nI c2 = (-1 : Int32) := m1_ne (by omega)
      have q1 : ∀ c, c < 12 → ((nI c = nI b) ↔ c = b) := fun c hc => nI_eq (by omega) (by omega)
      have hp2 : pds (m 20 1) (m 21 1) (fun p => m 22 1 (12 * p + wS w)) (nI (wS w)) (nI b) (0, 0, 0) (wN w + 2) = pds (w 4) (fun p => r (72 + p)) (fun p => r (12 * p + wS w)) (nI (wS w)) (nI b) (lsb x c1 c2 b, 2 * x - lsb x c1 c2 b, 0) (wN w) := by
        rw [pds_sh (u := lsb x c1 c2 b), lsd]
        show ((pds _ _ _ _ _ _ (wN w)).1 + (if m 22 1 (12 * wN w + wS w) = nI b then m 20 1 (wN w) else 0) + (if m 22 1 (12 * (wN w + 1) + wS w) = nI b then m 20 1 (wN w + 1) else 0), (pds _ _ _ _ _ _ (wN w)).2.1 + (if m 22 1 (12 * wN w + wS w) = -1 ∨ m 22 1 (12 * wN w + wS w) = nI b then 0 else m 20 1 (wN w)) + (if m 22 1 (12 * (wN w + 1) + wS w) = -1 ∨ m 22 1 (12 * (wN w + 1) + wS w) = nI b then 0 else m 20 1 (wN w + 1)), (pds _ _ _ _ _ _ (wN w)).2.2 + (if m 21 1 (wN w) = nI (wS w) ∨ m 21 1 (wN w) = nI b then 1 else 0) + (if m 21 1 (wN w + 1) = nI (wS w) ∨ m 21 1 (wN w + 1) = nI b then 1 else 0)) = _
        rw [h1, h2, hS.2.2.2.2.2.1.1, hS.2.2.2.2.2.1.2, hS.2.2.2.2.2.2.1, hS.2.2.2.2.2.2.2, pds_cong (tr' := w 4) (wh' := fun p => r (72 + p)) (bl' := fun p => r (12 * p + wS w)) (fun p hp => ⟨(hS.2.2.1 p hp).1, (hS.2.2.1 p hp).2, hS.2.2.2.1 p (wS w) hp hs⟩)]
        unfold lsb
        simp only [n1, n2, n3, n4, q1 c1 hc1, q1 c2 hc2, false_or, or_self, if_false, Int32.add_assoc, Int32.add_zero]
      rw [h, clamp_nI (by omega), (hS.2.2.2.2.1 e (by omega)).1, (hS.2.2.2.2.1 e (by omega)).2, hp2, add0]
theorem tell1_eq {m : Mem} {p a : Nat} {v : Int32} (hp : p < 8) (ha : a < 12) : ∃ z, r_X7_tell 1 (nI p) (nI a) v m = some (z, wr m 22 1 (12 * p + a) v) := by
  unfold r_X7_tell r_X7_tell_j24
  rw [ix12, if_pos (inb_nI (by omega) (by omega)), clamp_nI (by omega)]
  by_cases h : m 22 1 (12 * p + a) = v
  · rw [if_pos h, if_pos (inb_nI (by omega) (by omega)), if_pos (by decide)]
    exact ⟨_, rfl⟩
  · rw [if_neg h, if_pos (inb_nI (by omega) (by omega)), if_pos (by decide)]
    exact ⟨_, rfl⟩
theorem forgA_c {m : Mem} {p : Nat} (hp : p < 8) : Tot (r_X7_forgetAllOf 1 (nI p) m) (fun m' => (∀ q, q < 12 * p → m' 22 1 q = m 22 1 q) ∧ Fr [(22, 1)] m m') := by
  unfold r_X7_forgetAllOf r_X7_forgetAllOf_l2
  rw [tot_bd1]
  refine tot_for (fun k (t : Int32 × Mem) => t.1 = nI k ∧ (∀ q, q < 12 * p → t.2 22 1 q = m 22 1 q) ∧ Fr [(22, 1)] m t.2) 12 ?_ ?_ 0 _ (Nat.zero_le _) ⟨rfl, fun _ _ => rfl, Fr.rf⟩
  · rintro k ⟨x2, m1⟩ hk ⟨e1, e2, hF⟩
    dsimp only at e1 e2 hF ⊢
    subst e1
    unfold r_X7_forgetAllOf_b2
    rw [if_neg (show ¬ (12 : Int32) ≤ nI (k) from nI_ge (b := 12) (a := k) (by omega) (by omega)), ix12, if_pos (inb_nI (by omega) (by omega)), clamp_nI (by omega)]
    refine tot_some.mpr ⟨(nI_succ k).symm, fun q hq => ?_, hF.wr (by simp) _ _⟩
    show wr m1 22 1 (12 * p + k) (-1) 22 1 q = _
    rw [wr_j (by omega)]
    exact e2 q hq
  · rintro ⟨x2, m1⟩ ⟨e1, e2, hF⟩
    dsimp only at e1 e2 hF ⊢
    subst e1
    unfold r_X7_forgetAllOf_b2
    rw [if_pos (by decide), tot_some]
    exact tot_some.mpr ⟨e2, hF⟩
abbrev KT : List (Nat × Nat) := [(7, 1), (20, 1), (21, 1), (22, 1)]
theorem addL_c {m : Mem} {p : Nat} {x : Int32} (hp : p < 8) (h7 : m 7 1 1 = nI p) : Tot (r_X7_addLeader 1 x m) (fun m' => m' 7 1 0 = m 7 1 0 ∧ m' 7 1 1 = nI (p + 1) ∧ (∀ q, q < p → m' 20 1 q = m 20 1 q ∧ m' 21 1 q = m 21 1 q) ∧ (∀ q, q < 12 * p → m' 22 1 q = m 22 1 q) ∧ m' 20 1 p = x ∧ m' 21 1 p = -1 ∧ Fr KT m m') := by
  unfold r_X7_addLeader
  rw [h7, if_neg (show ¬ (8 : Int32) ≤ nI (p) from nI_ge (b := 8) (a := p) (by omega) (by omega)), if_pos (inb_nI (by omega) (by omega)), clamp_nI (by omega), tot_bd1]
  refine (forgA_c hp).mono ?_
  rintro m1 ⟨e1, hF⟩
  have e7 : m1 7 1 = m 7 1 := by
    rw [hF 7 1 (by decide)]
    funext j
    rw [wr_k (by decide), wr_k (by decide)]
  have e20 : m1 20 1 = wr m 20 1 p x 20 1 := by
    rw [hF 20 1 (by decide)]
    funext j
    rw [wr_k (by decide)]
  have e21 : ∀ j, m1 21 1 j = if j = p then -1 else m 21 1 j := fun j => by
    rw [hF 21 1 (by decide), wr_if]
    by_cases h : j = p
    · rw [if_pos h, if_pos h]
    · rw [if_neg h, if_neg h, wr_k (by decide)]
  have w1 : ∀ k j, ¬ k = 7 → wr m1 7 1 1 (m1 7 1 1 + 1) k 1 j = m1 k 1 j := fun k j hk => wr_k hk
  refine tot_some.mpr ⟨?_, ?_, fun q hq => ⟨?_, ?_⟩, fun q hq => ?_, ?_, ?_, ?_⟩
  · rw [wr_j (by decide), e7]
  · rw [wr_eq, e7, h7, nI_succ]
  · rw [w1 20 q (by decide), e20, wr_j (by omega)]
  · rw [w1 21 q (by decide), e21, if_neg (by omega)]
  · rw [w1 22 q (by decide), e1 q hq, wr_k (by decide), wr_k (by decide)]
  · rw [w1 20 p (by decide), e20, wr_eq]
  · rw [w1 21 p (by decide), e21, if_pos rfl]
  · exact (((Fr.rf.wr (by simp) _ _).wr (by simp) _ _).tr (hF.mono (by simp))).wr (by simp) _ _
theorem said_c {w : Wd} {m : Mem} {c : Nat} (hW : WF w) (hL : CL w m) (hc : c < 12) : r_X0_isSaid (nI c) m = some (decide (¬ bw w (wS w) c = -1)) := by
  have hs := wS_12 hW
  unfold r_X0_isSaid
  rw [hL.2.2.2.1, hW.2.2.2.1.1, if_pos (inb_nI (by omega) (by omega)), clamp_nI (by omega)]
  have hbit := hL.2.2.2.2.2.2.2 (wS w) hs c (by omega)
  by_cases h : bw w (wS w) c = -1
  · rw [if_pos ((bit_0 (by omega)).mpr (by rw [hbit]; exact decide_eq_false (fun q => q.2 h))), decide_eq_false (fun q => q h)]
  · rw [if_neg (fun q => by have := (bit_0 (by omega)).mp q; rw [hbit, decide_eq_true ⟨hc, h⟩] at this; cases this), decide_eq_true h]
abbrev KR : List (Nat × Nat) := [(44, 0), (33, 0), (35, 0), (7, 1), (20, 1), (21, 1), (22, 1), (23, 1), (24, 1)]
abbrev sdd (w : Wd) (c : Nat) : Bool := decide (¬ bw w (wS w) c = -1)
set_option maxHeartbeats 1000000 in
theorem sayings_c {w : Wd} {r : Rw} {m : Mem} {x : Int32} (hW : WF w) (hL : CL w m) (hC : CW w m) (hS : StC w r m 0) : Tot (r_X0_tryAllSayings 0 x m) (fun m' => (∀ c1 c2, c1 < wP w → c2 < wP w → sdd w c1 = true → sdd w c2 = true → m' 44 0 (12 * c1 + c2) = ldt w r x c1 c2) ∧ Fj KR [] m m') := by
  have hP := hW.1
  have hN := hW.2.2.1
  have hs := wS_12 hW
  unfold r_X0_tryAllSayings
  rw [tot_bd1]
  refine (copyFrom_tot (i0 := 1) (i1 := 0) (by decide)).mono ?_
  rintro m1 ⟨c1, -, -, -, -, -, c2⟩
  have hS1 := c1 w r hW hS
  rw [tot_bd1]
  refine (addL_c (p := wN w) (by omega) (hS1.2.1.trans hN.1)).mono ?_
  rintro m2 ⟨a1, a2, a3, a4, a5, a6, a7⟩
  rw [tot_bd1]
  refine (addL_c (p := wN w + 1) (by omega) a2).mono ?_
  rintro m3 ⟨b1, b2, b3, b4, b5, b6, b7⟩
  have hLd : LdC w r x m3 := by
    refine ⟨by rw [b1, a1]; exact hS1.1, b2, fun p hp => ⟨?_, ?_⟩, fun p a hp ha => ?_, fun e he => ⟨?_, ?_⟩, ⟨?_, b5⟩, ?_, b6⟩
    · rw [(b3 p (by omega)).1, (a3 p hp).1]
      exact (hS1.2.2.1 p hp).1
    · rw [(b3 p (by omega)).2, (a3 p hp).2]
      exact (hS1.2.2.1 p hp).2
    · rw [b4 _ (by omega), a4 _ (by omega)]
      exact hS1.2.2.2.1 p a hp ha
    · rw [b7 23 1 (by decide), a7 23 1 (by decide)]
      exact (hS1.2.2.2.2 e he).1
    · rw [b7 24 1 (by decide), a7 24 1 (by decide)]
      exact (hS1.2.2.2.2 e he).2
    · rw [(b3 _ (Nat.lt_succ_self _)).1]
      exact a5
    · rw [(b3 _ (Nat.lt_succ_self _)).2]
      exact a6
  have hF3 : Fj KR [] m m3 := (((c2.mono (by simp)).tr (a7.mono (by simp))).tr (b7.mono (by simp))).j
  unfold r_X0_tryAllSayings_l26
  rw [tot_bd1]
  refine tot_for (fun k (t : Int32 × Mem) => t.1 = nI k ∧ (∀ c1 c2, c1 < k → c2 < wP w → sdd w c1 = true → sdd w c2 = true → t.2 44 0 (12 * c1 + c2) = ldt w r x c1 c2) ∧ LdC w r x t.2 ∧ Fj KR [] m t.2) (wP w) ?_ ?_ 0 _ (Nat.zero_le _) ⟨rfl, fun c1 c2 h => absurd h (Nat.not_lt_zero c1), hLd, hF3⟩
  · rintro k ⟨x3, m4⟩ hk ⟨e1, e2, hD, hF⟩
    dsimp only at e1 e2 hD hF ⊢
    subst e1
    unfold r_X0_tryAllSayings_b26 r_X0_tryAllSayings_l40_c26
    rw [(hL.fj hF (by decide) (by simp)).1, hP.1, if_neg (nI_ge hk (by omega)), tot_bd1]
    refine tot_for (fun l (t : Int32 × Mem) => t.1 = nI l ∧ (∀ c2, c2 < l → sdd w k = true → sdd w c2 = true → t.2 44 0 (12 * k + c2) = ldt w r x k c2) ∧ (∀ q, ¬ (12 * k ≤ q ∧ q < 12 * k + 12) → t.2 44 0 q = m4 44 0 q) ∧ LdC w r x t.2 ∧ Fj KR [] m t.2) (wP w) ?_ ?_ 0 _ (Nat.zero_le _) ⟨rfl, fun c2 h => absurd h (Nat.not_lt_zero c2), fun _ _ => rfl, hD, hF⟩
    · rintro l ⟨x4, m5⟩ hl ⟨f1, f2, f3, hD5, hF5⟩
      dsimp only at f1 f2 f3 hD5 hF5 ⊢
      subst f1
      have hL5 : CL w m5 := hL.fj hF5 (by decide) (by simp)
      have skip : ¬ (sdd w k = true ∧ sdd w l = true) → Tot (r_X0_tryAllSayings_j148_c40 (nI k) (nI l) m5) (Sum.elim (fun t : Int32 × Mem => t.1 = nI (l + 1) ∧ (∀ c2, c2 < l + 1 → sdd w k = true → sdd w c2 = true → t.2 44 0 (12 * k + c2) = ldt w r x k c2) ∧ (∀ q, ¬ (12 * k ≤ q ∧ q < 12 * k + 12) → t.2 44 0 q = m4 44 0 q) ∧ LdC w r x t.2 ∧ Fj KR [] m t.2) (fun y => Tot (r_X0_tryAllSayings_e154_h40_c26 (nI k) y) (Sum.elim (fun t : Int32 × Mem => t.1 = nI (k + 1) ∧ (∀ c1 c2, c1 < k + 1 → c2 < wP w → sdd w c1 = true → sdd w c2 = true → t.2 44 0 (12 * c1 + c2) = ldt w r x c1 c2) ∧ LdC w r x t.2 ∧ Fj KR [] m t.2) (fun y => Tot (r_X0_tryAllSayings_e160_h26 y) (fun m' => (∀ c1 c2, c1 < wP w → c2 < wP w → sdd w c1 = true → sdd w c2 = true → m' 44 0 (12 * c1 + c2) = ldt w r x c1 c2) ∧ Fj KR [] m m'))))) := by
        intro h
        unfold r_X0_tryAllSayings_j148_c40
        refine tot_some.mpr ⟨(nI_succ l).symm, fun c2 hc2 g1 g2 => ?_, f3, hD5, hF5⟩
        by_cases hcl : c2 = l
        · rw [hcl] at g2
          exact absurd ⟨g1, g2⟩ h
        · exact f2 c2 (by omega) g1 g2
      unfold r_X0_tryAllSayings_b40_c26
      rw [hL5.1, hP.1, if_neg (nI_ge hl (by omega)), bd1_s (said_c hW hL5 (by omega))]
      by_cases s1 : sdd w k = true
      · rw [if_pos s1, bd1_s (said_c hW hL5 (by omega))]
        by_cases s2 : sdd w l = true
        · rw [if_pos s2, hL5.2.2.1, hL5.2.2.2.1, hN.1, hW.2.2.2.1.1]
          obtain ⟨y1, t1⟩ := tell1_eq (m := m5) (p := wN w) (a := wS w) (v := nI k) (by omega) hs
          have hFa : Fj KR [] m (wr m5 22 1 (12 * wN w + wS w) (nI k)) := hF5.wrK (by simp) _ _
          have hLa : CL w (wr m5 22 1 (12 * wN w + wS w) (nI k)) := hL.fj hFa (by decide) (by simp)
          rw [bd2_s t1, hLa.2.2.1, hLa.2.2.2.1, hN.1, hW.2.2.2.1.1, show nI (wN w) + 1 = nI (wN w + 1) from (nI_succ _).symm]
          obtain ⟨y2, t2⟩ := tell1_eq (m := wr m5 22 1 (12 * wN w + wS w) (nI k)) (p := wN w + 1) (a := wS w) (v := nI l) (by omega) hs
          rw [bd2_s t2]
          have hFb : Fj KR [] m (wr (wr m5 22 1 (12 * wN w + wS w) (nI k)) 22 1 (12 * (wN w + 1) + wS w) (nI l)) := hFa.wrK (by simp) _ _
          have hDb : LdC w r x (wr (wr m5 22 1 (12 * wN w + wS w) (nI k)) 22 1 (12 * (wN w + 1) + wS w) (nI l)) := (hD5.w22 (by omega)).w22 (by omega)
          have hv1 : wr (wr m5 22 1 (12 * wN w + wS w) (nI k)) 22 1 (12 * (wN w + 1) + wS w) (nI l) 22 1 (12 * wN w + wS w) = nI k := by rw [wr_j (by omega), wr_eq]
          have hv2 : wr (wr m5 22 1 (12 * wN w + wS w) (nI k)) 22 1 (12 * (wN w + 1) + wS w) (nI l) 22 1 (12 * (wN w + 1) + wS w) = nI l := wr_eq _ _ _ _ _
          have hb44 : wr (wr m5 22 1 (12 * wN w + wS w) (nI k)) 22 1 (12 * (wN w + 1) + wS w) (nI l) 44 0 = m5 44 0 := by
            funext q
            rw [wr_k (by decide), wr_k (by decide)]
          generalize wr (wr m5 22 1 (12 * wN w + wS w) (nI k)) 22 1 (12 * (wN w + 1) + wS w) (nI l) = mb at hFb hDb hv1 hv2 hb44 ⊢
          have hLb : CL w mb := hL.fj hFb (by decide) (by simp)
          rw [hLb.2.2.2.1, hW.2.2.2.1.1, tot_bd2]
          refine (goesOnG (i := 1) hW hLb hs (ldd w r x k l) (fun m9 b hF9 hb hz => ?_)).mono ?_
          · have hF9' : Fj [(33, 0), (35, 0)] [] mb m9 := hF9.j
            refine ldraw_c hW (hLb.fj hF9' (by decide) (by simp)) (hC.fj (hFb.tr (hF9'.mono (by simp) (by simp))) (by decide) (by simp)) (hDb.fj hF9' (by decide) (by simp)) ?_ ?_ (by omega) (by omega) hb hz
            · rw [hF9 22 1 (by decide)]
              exact hv1
            · rw [hF9 22 1 (by decide)]
              exact hv2
          · rintro ⟨z, m9⟩ ⟨g1, g2⟩
            dsimp only at g1 g2 ⊢
            have g1' : z = ldt w r x k l := g1
            rw [ix12, if_pos (inb_nI (by omega) (by omega)), clamp_nI (by omega)]
            unfold r_X0_tryAllSayings_j148_c40
            have h44 : m9 44 0 = m5 44 0 := (g2 44 0 (by decide)).trans hb44
            have g2' : Fj [(33, 0), (35, 0)] [] mb m9 := g2.j
            refine tot_some.mpr ⟨(nI_succ l).symm, fun c2 hc2 u1 u2 => ?_, fun q hq => ?_, (hDb.fj g2' (by decide) (by simp)).fj (K := [(44, 0)]) (J := []) (Fj.rf.wrK (by simp) _ _) (by decide) (by simp), (hFb.tr (g2'.mono (by simp) (by simp))).wrK (by simp) _ _⟩
            · dsimp only
              rw [wr_if]
              by_cases hcl : c2 = l
              · rw [if_pos (by omega), hcl, g1']
              · rw [if_neg (by omega), h44]
                exact f2 c2 (by omega) u1 u2
            · dsimp only
              rw [wr_j (by omega), h44]
              exact f3 q hq
        · rw [if_neg s2]
          exact skip (fun q => s2 q.2)
      · rw [if_neg s1]
        exact skip (fun q => s1 q.1)
    · rintro ⟨x4, m5⟩ ⟨f1, f2, f3, hD5, hF5⟩
      dsimp only at f1 f2 f3 hD5 hF5 ⊢
      subst f1
      unfold r_X0_tryAllSayings_b40_c26
      rw [(hL.fj hF5 (by decide) (by simp)).1, hP.1, if_pos (nI_le (Nat.le_refl _) (by omega)), tot_some]
      refine tot_some.mpr ⟨(nI_succ k).symm, fun c1 c2 h1 h2 u1 u2 => ?_, hD5, hF5⟩
      dsimp only
      by_cases hck : c1 = k
      · rw [hck] at u1 ⊢
        exact f2 c2 h2 u1 u2
      · rw [f3 _ (by omega)]
        exact e2 c1 c2 (by omega) h2 u1 u2
  · rintro ⟨x3, m4⟩ ⟨e1, e2, hD, hF⟩
    dsimp only at e1 e2 hD hF ⊢
    subst e1
    unfold r_X0_tryAllSayings_b26
    rw [(hL.fj hF (by decide) (by simp)).1, hP.1, if_pos (nI_le (Nat.le_refl _) (by omega)), tot_some]
    exact tot_some.mpr ⟨e2, hF⟩
/-- what the first has -/
def hbv (w : Wd) (r : Rw) (x : Int32) (c1 c2 : Nat) : Int32 := if ldt w r x c1 c2 = nI c1 then (if c1 = c2 then 1 else 2) else 0
theorem gain1_c {w : Wd} {r : Rw} {m : Mem} {x : Int32} {c1 c2 : Nat} (h1 : c1 < 12) (h2 : c2 < 12) (h : m 44 0 (12 * c1 + c2) = ldt w r x c1 c2) : r_X0_gain (nI c1) (nI c2) 1 m = some (hbv w r x c1 c2) := by
  unfold r_X0_gain r_X0_gain_j24 hbv
  rw [ix12, if_pos (inb_nI (by omega) (by omega)), clamp_nI (by omega), if_neg (by decide), h]
  by_cases e : ldt w r x c1 c2 = nI c1
  · rw [if_pos e, if_pos e]
    by_cases e2 : c1 = c2
    · rw [if_pos (by rw [e2]), if_pos e2]
    · rw [if_neg (fun q => e2 ((nI_eq (by omega) (by omega)).mp q)), if_neg e2]
  · rw [if_neg e, if_neg e]
theorem gain0_c {w : Wd} {r : Rw} {m : Mem} {x : Int32} {c1 c2 : Nat} (h1 : c1 < 12) (h2 : c2 < 12) (h : m 44 0 (12 * c1 + c2) = ldt w r x c1 c2) : r_X0_gain (nI c1) (nI c2) 0 m = some (hbv w r x c2 c1) := by
  unfold r_X0_gain r_X0_gain_j24 hbv
  rw [ix12, if_pos (inb_nI (by omega) (by omega)), clamp_nI (by omega), if_pos rfl, h, ldt_sy w r x c1 c2]
  by_cases e : ldt w r x c2 c1 = nI c2
  · rw [if_pos e, if_pos e]
    by_cases e2 : c1 = c2
    · rw [if_pos (by rw [e2]), if_pos e2.symm]
    · rw [if_neg (fun q => e2 ((nI_eq (by omega) (by omega)).mp q)), if_neg (Ne.symm e2)]
  · rw [if_neg e, if_neg e]
noncomputable def isr (P : Nat) (sd : Nat → Bool) (H : Nat → Nat → Int32) (c1 c2 : Nat) : Bool := @decide (∀ c, c < P → sd c = true → ¬ H c1 c2 < H c c2 ∧ H c c1 ≤ H c2 c1) (Classical.propDecidable _)
theorem isr_t {P : Nat} {sd : Nat → Bool} {H : Nat → Nat → Int32} {c1 c2 : Nat} (h : ∀ c, c < P → sd c = true → ¬ H c1 c2 < H c c2 ∧ H c c1 ≤ H c2 c1) : isr P sd H c1 c2 = true := by
  unfold isr
  exact (@decide_eq_true_iff _ (Classical.propDecidable _)).mpr h
theorem isr_f {P : Nat} {sd : Nat → Bool} {H : Nat → Nat → Int32} {c1 c2 : Nat} (h : ¬ ∀ c, c < P → sd c = true → ¬ H c1 c2 < H c c2 ∧ H c c1 ≤ H c2 c1) : isr P sd H c1 c2 = false := by
  cases e : isr P sd H c1 c2 with
  | false => rfl
  | true =>
    unfold isr at e
    exact absurd ((@decide_eq_true_iff _ (Classical.propDecidable _)).mp e) h
theorem rest_c {w : Wd} {r : Rw} {m : Mem} {x : Int32} {c1 c2 : Nat} (hW : WF w) (hL : CL w m) (h : ∀ c1 c2, c1 < wP w → c2 < wP w → sdd w c1 = true → sdd w c2 = true → m 44 0 (12 * c1 + c2) = ldt w r x c1 c2) (h1 : c1 < wP w) (h2 : c2 < wP w) (s1 : sdd w c1 = true) (s2 : sdd w c2 = true) : r_X0_isRest (nI c1) (nI c2) m = some (isr (wP w) (sdd w) (hbv w r x) c1 c2) := by
  have hP := hW.1
  have h0 := h c1 c2 h1 h2 s1 s2
  apply Tot.eq
  unfold r_X0_isRest r_X0_isRest_l20
  rw [bd1_s (gain1_c (by omega) (by omega) h0), bd1_s (gain0_c (by omega) (by omega) h0), tot_bdS]
  refine tot_for (fun k (t : Int32) => t = nI k ∧ ∀ c, c < k → sdd w c = true → ¬ hbv w r x c1 c2 < hbv w r x c c2 ∧ hbv w r x c c1 ≤ hbv w r x c2 c1) (wP w) ?_ ?_ 0 _ (Nat.zero_le _) ⟨rfl, fun c hc => absurd hc (Nat.not_lt_zero c)⟩
  · rintro k t hk ⟨e1, e2⟩
    subst e1
    unfold r_X0_isRest_b20 r_X0_isRest_j68_c20
    rw [hL.1, hP.1, if_neg (nI_ge hk (by omega)), bd1_s (said_c hW hL (by omega))]
    by_cases s : sdd w k = true
    · rw [if_pos s, bd1_s (gain1_c (by omega) (by omega) (h k c2 hk h2 s s2))]
      by_cases g1 : hbv w r x c1 c2 < hbv w r x k c2
      · rw [if_pos g1, tot_some]
        exact tot_some.mpr (isr_f (fun q => (q k hk s).1 g1)).symm
      · rw [if_neg g1, bd1_s (gain0_c (by omega) (by omega) (h c1 k h1 hk s1 s))]
        by_cases g2 : hbv w r x k c1 ≤ hbv w r x c2 c1
        · rw [if_pos g2]
          refine tot_some.mpr ⟨(nI_succ k).symm, fun c hc sc => ?_⟩
          by_cases hck : c = k
          · rw [hck]
            exact ⟨g1, g2⟩
          · exact e2 c (by omega) sc
        · rw [if_neg g2, tot_some]
          exact tot_some.mpr (isr_f (fun q => g2 (q k hk s).2)).symm
    · rw [if_neg s]
      refine tot_some.mpr ⟨(nI_succ k).symm, fun c hc sc => ?_⟩
      by_cases hck : c = k
      · rw [hck] at sc
        exact absurd sc s
      · exact e2 c (by omega) sc
  · rintro t ⟨e1, e2⟩
    subst e1
    unfold r_X0_isRest_b20
    rw [hL.1, hP.1, if_pos (nI_le (Nat.le_refl _) (by omega)), tot_some]
    exact tot_some.mpr (isr_t e2).symm
