/-! ===== between, the draw of a ditch, where it goes on ===== -/
abbrev Wd : Type := Nat → Nat → Int32
abbrev Rw : Type := Nat → Int32
/-- the reference's land, persons and law: told, heights, the ditches' ends, trust, the law's codes and values, how many codes -/
def mW (m : Mem) : Wd := fun i j => match i with
  | 0 => m 52 0 j
  | 1 => m 54 0 j
  | 2 => m 63 j 0
  | 3 => m 63 j 1
  | 4 => m 67 j 0
  | 5 => m 73 j 0
  | 6 => m 73 j 1
  | _ => m 12 0 21
def hit (w : Wd) (a b : Int32) (e : Nat) : Bool := decide ((w 2 e = a ∧ w 3 e = b) ∨ (w 2 e = b ∧ w 3 e = a))
def btw (w : Wd) (D : Nat) (a b : Int32) : Int32 := if fa_first (hit w a b) D < D then nI (fa_first (hit w a b) D) else -1
theorem first_at {p : Nat → Bool} {n k : Nat} (hk : k < n) (h : p k = true) (hl : ∀ j, j < k → p j = false) : fa_first p n = k := by
  have h1 : ¬ k < fa_first p n := fun e => by have := fa_first_no p n k e; rw [h] at this; cases this
  have h2 := fa_first_yes p n (by omega)
  have h3 : ¬ fa_first p n < k := fun e => by have := hl _ e; rw [h2] at this; cases this
  omega
theorem first_none {p : Nat → Bool} {n : Nat} (hl : ∀ j, j < n → p j = false) : fa_first p n = n := by
  have h1 := fa_first_le p n
  by_cases h : fa_first p n < n
  · have := fa_first_yes p n h
    rw [hl _ h] at this
    cases this
  · omega
theorem btw_eq {m : Mem} {a b : Int32} {D : Nat} (hD : m 52 0 1 = nI D) (h16 : D ≤ 16) : r_X12_between a b m = some (btw (mW m) D a b) := by
  apply Tot.eq
  unfold r_X12_between r_X12_between_l2
  rw [tot_bdS]
  refine tot_for (fun k s => s = nI k ∧ ∀ j, j < k → hit (mW m) a b j = false) D ?_ ?_ 0 _ (Nat.zero_le _) ⟨rfl, fun j hj => absurd hj (Nat.not_lt_zero j)⟩
  · rintro k s hk ⟨rfl, hn⟩
    have fin : hit (mW m) a b k = true → btw (mW m) D a b = nI k := fun h => by
      unfold btw
      rw [first_at hk h hn, if_pos hk]
    have step : hit (mW m) a b k = false → ∀ j, j < k + 1 → hit (mW m) a b j = false := fun h j hj => by
      by_cases e : j = k
      · rw [e]; exact h
      · exact hn j (by omega)
    unfold r_X12_between_b2
    rw [hD, if_neg (nI_ge hk (by omega)), if_pos (inb_nI (by omega) (by omega)), clamp_nI (by omega)]
    have j62 : hit (mW m) a b k = false → Tot (r_X12_between_j62_c2 a b (nI k) m) (Sum.elim (fun s2 => s2 = nI (k + 1) ∧ ∀ j, j < k + 1 → hit (mW m) a b j = false) (Sum.elim (fun x => Tot (r_X12_between_e68_h2 m) (fun r => r = btw (mW m) D a b)) (fun y => Tot (some y) (fun r => r = btw (mW m) D a b)))) := fun h => by
      unfold r_X12_between_j62_c2
      exact tot_some.mpr ⟨(nI_succ k).symm, step h⟩
    have j36 : ¬ (m 63 k 0 = a ∧ m 63 k 1 = b) → Tot (r_X12_between_j36_c2 a b (nI k) m) (Sum.elim (fun s2 => s2 = nI (k + 1) ∧ ∀ j, j < k + 1 → hit (mW m) a b j = false) (Sum.elim (fun x => Tot (r_X12_between_e68_h2 m) (fun r => r = btw (mW m) D a b)) (fun y => Tot (some y) (fun r => r = btw (mW m) D a b)))) := fun h => by
      unfold r_X12_between_j36_c2
      rw [if_pos (inb_nI (by omega) (by omega)), clamp_nI (by omega)]
      by_cases h1 : m 63 k 0 = b
      · rw [if_pos h1]
        by_cases h2 : m 63 k 1 = a
        · rw [if_pos h2]
          exact tot_some.mpr (tot_some.mpr (fin (decide_eq_true (Or.inr ⟨h1, h2⟩))).symm)
        · rw [if_neg h2]
          exact j62 (decide_eq_false (fun e => e.elim h (fun q => h2 q.2)))
      · rw [if_neg h1]
        exact j62 (decide_eq_false (fun e => e.elim h (fun q => h1 q.1)))
    by_cases h1 : m 63 k 0 = a
    · rw [if_pos h1]
      by_cases h2 : m 63 k 1 = b
      · rw [if_pos h2]
        exact tot_some.mpr (tot_some.mpr (fin (decide_eq_true (Or.inl ⟨h1, h2⟩))).symm)
      · rw [if_neg h2]
        exact j36 (fun q => h2 q.2)
    · rw [if_neg h1]
      exact j36 (fun q => h1 q.1)
  · rintro s ⟨rfl, hn⟩
    unfold r_X12_between_b2
    rw [hD, if_pos (nI_le (Nat.le_refl _) (by omega)), tot_some]
    show Tot (r_X12_between_e68_h2 m) _
    unfold r_X12_between_e68_h2 btw
    rw [tot_some, first_none hn, if_neg (Nat.lt_irrefl D)]
/-- what the persons come to: belief, doubt, near -/
def pds (tr wh bl : Nat → Int32) (a b : Int32) (s : Int32 × Int32 × Int32) : Nat → Int32 × Int32 × Int32
  | 0 => s
  | p + 1 => ((pds tr wh bl a b s p).1 + (if bl p = b then tr p else 0), (pds tr wh bl a b s p).2.1 + (if bl p = -1 ∨ bl p = b then 0 else tr p), (pds tr wh bl a b s p).2.2 + (if wh p = a ∨ wh p = b then 1 else 0))
def kns (x0 x1 x2 x3 x4 x5 x6 x7 x8 : Int32) : Nat → Int32 := fun j => match j with
  | 0 => x0
  | 1 => x1
  | 2 => x2
  | 3 => x3
  | 4 => x4
  | 5 => x5
  | 6 => x6
  | 7 => x7
  | 8 => x8
  | _ => 0
theorem lst_cong {cw cv kn kn' : Nat → Int32} {n : Nat} (hw : lwf n cw cv) (h : ∀ j, j < 9 → kn j = kn' j) : ∀ k, k ≤ n → lst cw cv kn k = lst cw cv kn' k
  | 0, _ => rfl
  | k + 1, hk => by
    unfold lst
    rw [lst_cong hw h k (by omega)]
    rcases hw.2 k (by omega) with ⟨c0, -⟩ | ⟨c0, c1⟩ | ⟨j, hj, c0, -⟩
    · rw [if_pos c0, if_pos c0]
    · obtain ⟨v, hv, e⟩ := inb_of c1
      rw [h (cv k).toNatClampNeg (by rw [e, clamp_nI (by omega)]; exact hv)]
    · obtain ⟨n0, n1, -⟩ := op_dpt hj c0
      rw [if_neg n0, if_neg n1, if_neg n0, if_neg n1]
theorem lawv_cong {cw cv kn kn' : Nat → Int32} {n : Nat} (hw : lwf n cw cv) (h : ∀ j, j < 9 → kn j = kn' j) : lawv n cw cv kn = lawv n cw cv kn' := by
  unfold lawv
  rw [lst_cong hw h n (Nat.le_refl n), h 0 (by decide), h 1 (by decide), h 2 (by decide)]
theorem nine {f g : Nat → Int32} (h0 : f 0 = g 0) (h1 : f 1 = g 1) (h2 : f 2 = g 2) (h3 : f 3 = g 3) (h4 : f 4 = g 4) (h5 : f 5 = g 5) (h6 : f 6 = g 6) (h7 : f 7 = g 7) (h8 : f 8 = g 8) : ∀ j, j < 9 → f j = g j := by
  intro j hj
  match j, hj with
  | 0, _ => exact h0
  | 1, _ => exact h1
  | 2, _ => exact h2
  | 3, _ => exact h3
  | 4, _ => exact h4
  | 5, _ => exact h5
  | 6, _ => exact h6
  | 7, _ => exact h7
  | 8, _ => exact h8
theorem drawBy_tot {m : Mem} {n : Nat} {x0 x1 x2 x3 x4 x5 x6 x7 x8 : Int32} (hn : m 12 0 21 = nI n) (hw : lwf n (mW m 5) (mW m 6)) : Tot (r_X12_drawBy x0 x1 x2 x3 x4 x5 x6 x7 x8 m) (fun r => r.1 = lawv n (mW m 5) (mW m 6) (kns x0 x1 x2 x3 x4 x5 x6 x7 x8) ∧ Fr [(55, 0), (56, 0)] m r.2) := by
  unfold r_X12_drawBy
  rw [tot_bd2]
  have hF : Fr [(55, 0), (56, 0)] m (wr (wr (wr (wr (wr (wr (wr (wr (wr m 56 0 0 x0) 56 0 1 x1) 56 0 2 x2) 56 0 3 x3) 56 0 4 x4) 56 0 5 x5) 56 0 6 x6) 56 0 7 x7) 56 0 8 x8) := ((((((((Fr.rf.wr (by decide) _ _).wr (by decide) _ _).wr (by decide) _ _).wr (by decide) _ _).wr (by decide) _ _).wr (by decide) _ _).wr (by decide) _ _).wr (by decide) _ _).wr (by decide) _ _
  refine (byLaw_tot (n := n) (cw := mW m 5) (cv := mW m 6) ?_ ?_ ?_ hw).mono ?_
  · rw [hF 12 0 (by decide)]; exact hn
  · intro k; rw [hF 73 k (by simp)]; rfl
  · intro k; rw [hF 73 k (by simp)]; rfl
  · intro r hr
    refine tot_some.mpr ⟨?_, hF.tr (hr.2.mono (by simp))⟩
    rw [hr.1]
    exact lawv_cong hw (nine (by simp [wr, kns]) (by simp [wr, kns]) (by simp [wr, kns]) (by simp [wr, kns]) (by simp [wr, kns]) (by simp [wr, kns]) (by simp [wr, kns]) (by simp [wr, kns]) (by simp [wr, kns]))
/-- how a ditch draws -/
def drw (w : Wd) (n N : Nat) (r : Rw) (e a b : Nat) (b0 d0 dg : Int32) : Int32 :=
  lawv n (w 5) (w 6) (kns (w 1 a - w 1 b) (pds (w 4) (fun p => r (72 + p)) (fun p => r (12 * p + a)) (nI a) (nI b) (b0, d0, 0) N).1 (pds (w 4) (fun p => r (72 + p)) (fun p => r (12 * p + a)) (nI a) (nI b) (b0, d0, 0) N).2.1 (pds (w 4) (fun p => r (72 + p)) (fun p => r (12 * p + a)) (nI a) (nI b) (b0, d0, 0) N).2.2 (r (78 + e) + dg) (r (94 + e)) (r 110) (nI a) (nI b))
theorem add0 (x : Int32) : x + 0 = x := Int32.add_zero x
set_option maxHeartbeats 1000000 in
theorem drawWith_step {m : Mem} {i N e a b k : Nat} {dg q1 q2 q3 : Int32} (hN : m 52 0 2 = nI N) (hN6 : N ≤ 6) (ha : a < 12) (hb : b < 12) (hk : k < N) : r_X12_drawWith_b14 i (nI e) (nI a) (nI b) dg m q1 q2 q3 (nI k) = some (Sum.inl (q1 + (if m 60 i (12 * k + a) = nI b then mW m 4 k else 0), q2 + (if m 60 i (12 * k + a) = -1 ∨ m 60 i (12 * k + a) = nI b then 0 else mW m 4 k), q3 + (if m 60 i (72 + k) = nI a ∨ m 60 i (72 + k) = nI b then 1 else 0), nI (k + 1))) := by
  have ix : (0 + (12 * nI k)) + nI a = nI (12 * k + a) := by
    rw [Int32.zero_add]
    show nI 12 * nI k + nI a = _
    rw [nI_mul, nI_add]
  have ix2 : 72 + nI k = nI (72 + k) := nI_add 72 k
  have tr : m 67 k 0 = mW m 4 k := rfl
  unfold r_X12_drawWith_b14 r_X12_drawWith_j60_c14 r_X12_drawWith_j90_c14 r_X12_drawWith_j91_c14 r_X12_drawWith_j119_c14 r_X12_drawWith_j124_c14
  simp only [hN, if_neg (nI_ge hk (show N < 2 ^ 31 by omega)), ix, ix2, if_pos (inb_nI (show 12 * k + a < 111 by omega) (by omega)), clamp_nI (show 12 * k + a ≤ 1000000 by omega), clamp_nI (show k ≤ 1000000 by omega), clamp_nI (show 72 + k ≤ 1000000 by omega), if_pos (inb_nI (show k < 6 by omega) (by omega)), if_pos (inb_nI (show 72 + k < 111 by omega) (by omega)), tr, nI_succ]
  generalize mW m 4 k = t
  generalize m 60 i (72 + k) = h
  generalize m 60 i (12 * k + a) = z
  have m1 : ¬ nI b = -1 := m1_ne (by omega)
  have m2 : ¬ (-1 : Int32) = nI b := fun e => m1 e.symm
  by_cases hz : z = nI b <;> by_cases hm : z = -1 <;> by_cases h1 : h = nI a <;> by_cases h2 : h = nI b <;> first | exact absurd (hz.symm.trans hm) m1 | simp [hz, hm, h1, h2, m1, m2]
theorem drawWith_tot {m : Mem} {i n N e a b : Nat} {b0 d0 dg : Int32} (hn : m 12 0 21 = nI n) (hw : lwf n (mW m 5) (mW m 6)) (hN : m 52 0 2 = nI N) (hN6 : N ≤ 6) (he : e < 16) (ha : a < 12) (hb : b < 12) : Tot (r_X12_drawWith i (nI e) (nI a) (nI b) b0 d0 dg m) (fun r => r.1 = drw (mW m) n N (m 60 i) e a b b0 d0 dg ∧ Fr [(55, 0), (56, 0)] m r.2) := by
  unfold r_X12_drawWith r_X12_drawWith_l14
  rw [tot_bd1]
  refine tot_for (fun k s => s = ((pds (mW m 4) (fun p => m 60 i (72 + p)) (fun p => m 60 i (12 * p + a)) (nI a) (nI b) (b0, d0, 0) k).1, (pds (mW m 4) (fun p => m 60 i (72 + p)) (fun p => m 60 i (12 * p + a)) (nI a) (nI b) (b0, d0, 0) k).2.1, (pds (mW m 4) (fun p => m 60 i (72 + p)) (fun p => m 60 i (12 * p + a)) (nI a) (nI b) (b0, d0, 0) k).2.2, nI k)) N ?_ ?_ 0 _ (Nat.zero_le _) rfl
  · rintro k s hk rfl
    dsimp only
    rw [drawWith_step hN hN6 ha hb hk]
    exact tot_some.mpr rfl
  · rintro s rfl
    dsimp only
    unfold r_X12_drawWith_b14
    rw [hN, if_pos (nI_le (Nat.le_refl _) (by omega)), tot_some]
    show Tot (r_X12_drawWith_e133_h14 i (nI e) (nI a) (nI b) dg _ _ _ m) _
    unfold r_X12_drawWith_e133_h14
    rw [show 78 + nI e = nI (78 + e) from nI_add 78 e, show 94 + nI e = nI (94 + e) from nI_add 94 e, if_pos (inb_nI (by omega) (by omega)), if_pos (inb_nI (by omega) (by omega)), if_pos (inb_nI (by omega) (by omega)), if_pos (inb_nI (by omega) (by omega)), tot_bd2, clamp_nI (by omega), clamp_nI (by omega), clamp_nI (by omega), clamp_nI (by omega)]
    exact (drawBy_tot hn hw).mono fun r hr => tot_some.mpr ⟨hr.1, hr.2⟩
