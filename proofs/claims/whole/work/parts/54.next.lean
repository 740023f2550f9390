/-! ===== the class's draw; where it goes on, in both ===== -/
set_option maxHeartbeats 1000000 in
theorem cdraw_step {m : Mem} {i N a b k : Nat} {q1 q2 q3 : Int32} (hN : m 7 i 1 = nI N) (hN8 : N ≤ 8) (ha : a < 12) (hb : b < 12) (hk : k < N) : r_X6_draw_b12 i (nI a) (nI b) m q1 q2 q3 (nI k) = some (Sum.inl (q1 + (if m 22 i (12 * k + a) = nI b then m 20 i k else 0), q2 + (if m 22 i (12 * k + a) = -1 ∨ m 22 i (12 * k + a) = nI b then 0 else m 20 i k), q3 + (if m 21 i k = nI a ∨ m 21 i k = nI b then 1 else 0), nI (k + 1))) := by
  have ix : (nI k * 12) + nI a = nI (12 * k + a) := by
    show nI k * nI 12 + nI a = _
    rw [nI_mul, nI_add, Nat.mul_comm]
  unfold r_X6_draw_b12 r_X7_believes r_X6_draw_j69_c12 r_X6_draw_j91_c12 r_X6_draw_j94_c12
  simp only [hN, if_neg (nI_ge hk (show N < 2 ^ 31 by omega)), ix, if_pos (inb_nI (show 12 * k + a < 96 by omega) (by omega)), clamp_nI (show 12 * k + a ≤ 1000000 by omega), clamp_nI (show k ≤ 1000000 by omega), if_pos (inb_nI (show k < 8 by omega) (by omega)), nI_succ, bd1]
  generalize m 20 i k = t
  generalize m 21 i k = h
  generalize m 22 i (12 * k + a) = z
  have m1 : ¬ nI b = -1 := m1_ne (by omega)
  have m2 : ¬ (-1 : Int32) = nI b := fun e => m1 e.symm
  by_cases hz : z = nI b <;> by_cases hm : z = -1 <;> by_cases h1 : h = nI a <;> by_cases h2 : h = nI b <;> first | exact absurd (hz.symm.trans hm) m1 | simp [hz, hm, h1, h2, m1, m2]
/-- what the class's ditch draws, by its own cells; z: the ditch, or -1 -/
def cdr (m : Mem) (i n N : Nat) (cw cv : Nat → Int32) (z : Int32) (a b : Nat) : Int32 :=
  lawv n cw cv (kns (m 25 0 a - m 25 0 b) (pds (m 20 i) (m 21 i) (fun p => m 22 i (12 * p + a)) (nI a) (nI b) (0, 0, 0) N).1 (pds (m 20 i) (m 21 i) (fun p => m 22 i (12 * p + a)) (nI a) (nI b) (0, 0, 0) N).2.1 (pds (m 20 i) (m 21 i) (fun p => m 22 i (12 * p + a)) (nI a) (nI b) (0, 0, 0) N).2.2 (if z = -1 then 0 else m 23 i z.toNatClampNeg) (if z = -1 then 0 else m 24 i z.toNatClampNeg) (m 7 i 0) (nI a) (nI b))
set_option maxHeartbeats 1000000 in
theorem cdraw_tot {m : Mem} {i n N a b : Nat} {cw cv : Nat → Int32} {z : Int32} (hl : lawC 0 n cw cv m) (hw : lwf n cw cv) (hN : m 7 i 1 = nI N) (hN8 : N ≤ 8) (ha : a < 12) (hb : b < 12) (hz : m 29 0 (12 * a + b) = z) (hz2 : z = -1 ∨ inb z 16 = true) : Tot (r_X6_draw i (nI a) (nI b) m) (fun r => r.1 = cdr m i n N cw cv z a b ∧ Fr [(33, 0), (35, 0)] m r.2) := by
  unfold r_X6_draw r_X6_draw_l12
  rw [tot_bd1]
  refine tot_for (fun k s => s = ((pds (m 20 i) (m 21 i) (fun p => m 22 i (12 * p + a)) (nI a) (nI b) (0, 0, 0) k).1, (pds (m 20 i) (m 21 i) (fun p => m 22 i (12 * p + a)) (nI a) (nI b) (0, 0, 0) k).2.1, (pds (m 20 i) (m 21 i) (fun p => m 22 i (12 * p + a)) (nI a) (nI b) (0, 0, 0) k).2.2, nI k)) N ?_ ?_ 0 _ (Nat.zero_le _) rfl
  · rintro k s hk rfl
    dsimp only
    rw [cdraw_step hN hN8 ha hb hk]
    exact tot_some.mpr rfl
  · rintro s rfl
    dsimp only
    unfold r_X6_draw_b12
    rw [hN, if_pos (nI_le (Nat.le_refl _) (by omega)), tot_some]
    show Tot (r_X6_draw_e100_h12 i (nI a) (nI b) _ _ _ m) _
    unfold cdr
    generalize (pds (m 20 i) (m 21 i) (fun p => m 22 i (12 * p + a)) (nI a) (nI b) (0, 0, 0) N).1 = q1
    generalize (pds (m 20 i) (m 21 i) (fun p => m 22 i (12 * p + a)) (nI a) (nI b) (0, 0, 0) N).2.1 = q2
    generalize (pds (m 20 i) (m 21 i) (fun p => m 22 i (12 * p + a)) (nI a) (nI b) (0, 0, 0) N).2.2 = q3
    have ix : (nI a * 12) + nI b = nI (12 * a + b) := by
      show nI a * nI 12 + nI b = _
      rw [nI_mul, nI_add, Nat.mul_comm]
    have i4 : inb 4 9 = true := by decide
    have i5 : inb 5 9 = true := by decide
    have c4 : (4 : Int32).toNatClampNeg = 4 := by decide
    have c5 : (5 : Int32).toNatClampNeg = 5 := by decide
    have fin : ∀ x y : Int32, Tot (r_X4_drawOfInputs 0 (wr (wr (wr (wr (wr (wr (wr (wr (wr m 33 0 0 (m 25 0 a - m 25 0 b)) 33 0 1 q1) 33 0 2 q2) 33 0 3 q3) 33 0 4 x) 33 0 5 y) 33 0 6 (m 7 i 0)) 33 0 7 (nI a)) 33 0 8 (nI b))) (fun r => Tot (some (r.1, r.2)) (fun r => r.1 = lawv n cw cv (kns (m 25 0 a - m 25 0 b) q1 q2 q3 x y (m 7 i 0) (nI a) (nI b)) ∧ Fr [(33, 0), (35, 0)] m r.2)) := by
      intro x y
      have hF : Fr [(33, 0)] m (wr (wr (wr (wr (wr (wr (wr (wr (wr m 33 0 0 (m 25 0 a - m 25 0 b)) 33 0 1 q1) 33 0 2 q2) 33 0 3 q3) 33 0 4 x) 33 0 5 y) 33 0 6 (m 7 i 0)) 33 0 7 (nI a)) 33 0 8 (nI b)) := ((((((((Fr.rf.wr (by decide) _ _).wr (by decide) _ _).wr (by decide) _ _).wr (by decide) _ _).wr (by decide) _ _).wr (by decide) _ _).wr (by decide) _ _).wr (by decide) _ _).wr (by decide) _ _
      refine (drawOf_tot (n := n) (cw := cw) (cv := cv) ?_ hw).mono ?_
      · unfold lawC at hl ⊢
        rw [hF 4 0 (by decide), hF 34 0 (by decide)]
        exact hl
      · intro r hr
        refine tot_some.mpr ⟨?_, (hF.mono (by simp)).tr (hr.2.mono (by simp))⟩
        rw [hr.1]
        exact lawv_cong hw (nine (by simp [wr, kns]) (by simp [wr, kns]) (by simp [wr, kns]) (by simp [wr, kns]) (by simp [wr, kns]) (by simp [wr, kns]) (by simp [wr, kns]) (by simp [wr, kns]) (by simp [wr, kns]))
    have w7 : ∀ (M : Mem) (j : Nat) (x : Int32), wr M 33 0 j x 7 i 0 = M 7 i 0 := fun M j x => wr_k (by decide)
    have w24 : ∀ (M : Mem) (j c : Nat) (x : Int32), wr M 33 0 j x 24 i c = M 24 i c := fun M j c x => wr_k (by decide)
    unfold r_X6_draw_e100_h12 r_X3_between
    rw [ix, if_pos (inb_nI (by omega) (by omega)), clamp_nI (by omega), hz, tot_bd1, tot_some, if_pos (inb_nI (by omega) (by omega)), if_pos (inb_nI (by omega) (by omega)), clamp_nI (by omega), clamp_nI (by omega)]
    unfold r_X6_draw_j181 r_X6_draw_j202
    simp only [if_pos i4, if_pos i5, c4, c5, w7, w24, tot_bd2]
    rcases hz2 with h | h
    · simp only [if_pos h]
      exact tot_bd2.mpr (fin 0 0)
    · have hne : ¬ z = -1 := by
        obtain ⟨v, hv, rfl⟩ := inb_of h
        exact m1_ne (by omega)
      simp only [if_neg hne, if_pos h]
      exact tot_bd2.mpr (fin _ _)
/-- the best so far: of those that there are, the first of the greatest above 0 -/
def bst (g : Nat → Option Int32) : Nat → Int32 × Int32
  | 0 => (-1, 0)
  | b + 1 => match g b with
    | none => bst g b
    | some x => if x ≤ (bst g b).2 then bst g b else (nI b, x)
theorem bst_cong {g g' : Nat → Option Int32} : ∀ {n : Nat}, (∀ b, b < n → g b = g' b) → bst g n = bst g' n
  | 0, _ => rfl
  | b + 1, h => by
    unfold bst
    rw [h b (Nat.lt_succ_self b), bst_cong (fun j hj => h j (Nat.lt_succ_of_lt hj))]
theorem bst_or (g : Nat → Option Int32) : ∀ n, (bst g n).1 = -1 ∨ ∃ b, b < n ∧ (bst g n).1 = nI b ∧ g b ≠ none
  | 0 => Or.inl rfl
  | b + 1 => by
    unfold bst
    cases hg : g b with
    | none =>
      rcases bst_or g b with h | ⟨c, hc, h, h2⟩
      · exact Or.inl h
      · exact Or.inr ⟨c, by omega, h, h2⟩
    | some x =>
      dsimp only
      by_cases hx : x ≤ (bst g b).2
      · rw [if_pos hx]
        rcases bst_or g b with h | ⟨c, hc, h, h2⟩
        · exact Or.inl h
        · exact Or.inr ⟨c, by omega, h, h2⟩
      · rw [if_neg hx]
        exact Or.inr ⟨b, by omega, rfl, by rw [hg]; exact Option.some_ne_none x⟩
theorem btw_or (w : Wd) (D : Nat) (a b : Int32) : btw w D a b = -1 ∨ ∃ e, e < D ∧ btw w D a b = nI e ∧ hit w a b e = true := by
  unfold btw
  by_cases h : fa_first (hit w a b) D < D
  · rw [if_pos h]
    exact Or.inr ⟨_, h, rfl, fa_first_yes _ _ h⟩
  · rw [if_neg h]
    exact Or.inl rfl
/-- where it goes on from a, with the ditch ed dug dg more -/
def nxg (w : Wd) (n D N : Nat) (r : Rw) (a : Nat) (ed dg : Int32) : Nat → Option Int32 := fun b => if btw w D (nI a) (nI b) = -1 then none else some (drw w n N r (btw w D (nI a) (nI b)).toNatClampNeg a b 0 0 (if btw w D (nI a) (nI b) = ed then dg else 0))
set_option maxHeartbeats 1000000 in
theorem nextWith_tot {m : Mem} {i n P D N a : Nat} {ed dg : Int32} (hn : m 12 0 21 = nI n) (hw : lwf n (mW m 5) (mW m 6)) (hP : m 52 0 0 = nI P) (hP12 : P ≤ 12) (hD : m 52 0 1 = nI D) (hD16 : D ≤ 16) (hN : m 52 0 2 = nI N) (hN6 : N ≤ 6) (ha : a < 12) : Tot (r_X12_nextWith i (nI a) ed dg m) (fun r => r.1 = (bst (nxg (mW m) n D N (m 60 i) a ed dg) P).1 ∧ Fr [(55, 0), (56, 0)] m r.2) := by
  unfold r_X12_nextWith r_X12_nextWith_l9
  rw [tot_bd1]
  refine tot_for (fun k s => s.1 = (bst (nxg (mW m) n D N (m 60 i) a ed dg) k).1 ∧ s.2.1 = (bst (nxg (mW m) n D N (m 60 i) a ed dg) k).2 ∧ s.2.2.1 = nI k ∧ Fr [(55, 0), (56, 0)] m s.2.2.2) P ?_ ?_ 0 _ (Nat.zero_le _) ⟨rfl, rfl, rfl, Fr.rf⟩
  · rintro k ⟨x5, x6, x7, m1⟩ hk ⟨e1, e2, e3, hF⟩
    dsimp only at e1 e2 e3 hF ⊢
    subst e3
    have f52 : m1 52 0 = m 52 0 := hF 52 0 (by decide)
    have f12 : m1 12 0 = m 12 0 := hF 12 0 (by decide)
    have f60 : m1 60 i = m 60 i := hF 60 i (by simp)
    have fW : mW m1 = mW m := by
      funext p q
      unfold mW
      rw [f52, f12, hF 54 0 (by decide), hF 63 q (by simp), hF 67 q (by simp), hF 73 q (by simp)]
    have hstep : bst (nxg (mW m) n D N (m 60 i) a ed dg) (k + 1) = (match nxg (mW m) n D N (m 60 i) a ed dg k with
      | none => bst (nxg (mW m) n D N (m 60 i) a ed dg) k
      | some x => if x ≤ (bst (nxg (mW m) n D N (m 60 i) a ed dg) k).2 then bst (nxg (mW m) n D N (m 60 i) a ed dg) k else (nI k, x)) := rfl
    unfold r_X12_nextWith_b9
    rw [f52, hP, if_neg (nI_ge hk (by omega)), tot_bd1, btw_eq (D := D) (by rw [f52]; exact hD) hD16, tot_some, fW]
    rcases btw_or (mW m) D (nI a) (nI k) with hz | ⟨e, he, hz, -⟩
    · rw [if_pos hz]
      unfold r_X12_nextWith_j82_c9
      have hg : nxg (mW m) n D N (m 60 i) a ed dg k = none := if_pos hz
      rw [hg] at hstep
      exact tot_some.mpr ⟨by rw [hstep]; exact e1, by rw [hstep]; exact e2, (nI_succ k).symm, hF⟩
    · have hne : ¬ btw (mW m) D (nI a) (nI k) = -1 := by rw [hz]; exact m1_ne (by omega)
      have hg : nxg (mW m) n D N (m 60 i) a ed dg k = some (drw (mW m) n N (m 60 i) e a k 0 0 (if nI e = ed then dg else 0)) := by
        unfold nxg
        rw [if_neg hne, hz, clamp_nI (by omega)]
      rw [hg] at hstep
      dsimp only at hstep
      have key : ∀ d : Int32, d = (if nI e = ed then dg else 0) → Tot (r_X12_nextWith_j59_c9 i (nI a) ed dg x5 x6 (nI k) d 0 0 (nI k) (nI a) (nI e) i m1) (Sum.elim (fun s2 => s2.1 = (bst (nxg (mW m) n D N (m 60 i) a ed dg) (k + 1)).1 ∧ s2.2.1 = (bst (nxg (mW m) n D N (m 60 i) a ed dg) (k + 1)).2 ∧ s2.2.2.1 = nI (k + 1) ∧ Fr [(55, 0), (56, 0)] m s2.2.2.2) (fun x => Tot (r_X12_nextWith_e88_h9 x.1 x.2) (fun r => r.1 = (bst (nxg (mW m) n D N (m 60 i) a ed dg) P).1 ∧ Fr [(55, 0), (56, 0)] m r.2))) := by
        intro d hd
        unfold r_X12_nextWith_j59_c9
        rw [tot_bd2]
        refine (drawWith_tot (n := n) (N := N) (by rw [f12]; exact hn) (by rw [fW]; exact hw) (by rw [f52]; exact hN) hN6 (by omega) ha (by omega)).mono ?_
        rintro ⟨z, m2⟩ ⟨hz1, hF2⟩
        dsimp only at hz1 hF2 ⊢
        rw [fW, f60, hd] at hz1
        rw [← hz1, ← e2] at hstep
        unfold r_X12_nextWith_j82_c9
        by_cases hx : x6 < z
        · rw [if_pos hx]
          rw [if_neg (lt_iff.mp hx)] at hstep
          exact tot_some.mpr ⟨by rw [hstep], by rw [hstep], (nI_succ k).symm, hF.tr hF2⟩
        · rw [if_neg hx]
          rw [if_pos (Classical.not_not.mp (fun q => hx (lt_iff.mpr q)))] at hstep
          exact tot_some.mpr ⟨by rw [hstep]; exact e1, by rw [hstep]; exact e2, (nI_succ k).symm, hF.tr hF2⟩
      rw [if_neg hne, hz]
      by_cases hed : nI e = ed
      · rw [if_pos hed]
        exact key dg (by rw [if_pos hed])
      · rw [if_neg hed]
        exact key 0 (by rw [if_neg hed])
  · rintro ⟨x5, x6, x7, m1⟩ ⟨e1, e2, e3, hF⟩
    dsimp only at e1 e2 e3 hF ⊢
    subst e3
    have f52 : m1 52 0 = m 52 0 := hF 52 0 (by decide)
    unfold r_X12_nextWith_b9
    rw [f52, hP, if_pos (nI_le (Nat.le_refl _) (by omega)), tot_some]
    show Tot (r_X12_nextWith_e88_h9 x5 m1) _
    unfold r_X12_nextWith_e88_h9
    exact tot_some.mpr ⟨e1, hF⟩
