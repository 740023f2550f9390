/-! ===== the course ===== -/
/-- nothing but these rows and these fields has changed -/
def Fj (K J : List (Nat × Nat)) (m m' : Mem) : Prop := ∀ k i j, (k, i) ∉ K → (k, j) ∉ J → m' k i j = m k i j
theorem Fr.j {K J : List (Nat × Nat)} {m m' : Mem} (h : Fr K m m') : Fj K J m m' := fun k i j hk _ => by rw [h k i hk]
theorem Fj.rf {K J : List (Nat × Nat)} {m : Mem} : Fj K J m m := fun _ _ _ _ _ => rfl
theorem Fj.tr {K J : List (Nat × Nat)} {m m1 m2 : Mem} (h : Fj K J m m1) (h2 : Fj K J m1 m2) : Fj K J m m2 := fun k i j hk hj => (h2 k i j hk hj).trans (h k i j hk hj)
theorem Fj.mono {K K' J J' : List (Nat × Nat)} {m m1 : Mem} (h : Fj K J m m1) (hs : ∀ q ∈ K, q ∈ K') (ht : ∀ q ∈ J, q ∈ J') : Fj K' J' m m1 := fun k i j hk hj => h k i j (fun hq => hk (hs _ hq)) (fun hq => hj (ht _ hq))
theorem Fj.wrK {K J : List (Nat × Nat)} {m m1 : Mem} {k i : Nat} (h : Fj K J m m1) (hk : (k, i) ∈ K) (j : Nat) (x : Int32) : Fj K J m (wr m1 k i j x) := by
  intro a b c ha hc
  rw [← h a b c ha hc]
  unfold wr
  rw [if_neg (fun e => ha (by rw [e.1, e.2.1]; exact hk))]
theorem Fj.wrJ {K J : List (Nat × Nat)} {m m1 : Mem} {k j : Nat} (h : Fj K J m m1) (hk : (k, j) ∈ J) (i : Nat) (x : Int32) : Fj K J m (wr m1 k i j x) := by
  intro a b c ha hc
  rw [← h a b c ha hc]
  unfold wr
  rw [if_neg (fun e => hc (by rw [e.1, e.2.2]; exact hk))]
theorem Fj.row {K J : List (Nat × Nat)} {m m1 : Mem} (h : Fj K J m m1) (k i : Nat) (hk : (k, i) ∉ K) (hj : k ∉ J.map (fun q => q.1)) : m1 k i = m k i := by
  funext c
  exact h k i c hk (fun hq => hj (List.mem_map.mpr ⟨_, hq, rfl⟩))
theorem ts_nt' {x : Bool} (h : ¬ x = true) : x = false := by
  cases x with
  | false => rfl
  | true => exact absurd rfl h
def pth (f : Nat → Int32) (s : Int32) : Nat → Int32
  | 0 => s
  | k + 1 => if pth f s k = -1 then -1 else f (pth f s k).toNatClampNeg
def bse (f : Nat → Int32) (s : Int32) : Nat → Int32
  | 0 => 0
  | k + 1 => bse f s k ||| (1 <<< (pth f s k &&& 31))
/-- the course stands at the k-th place: there is none, or it has been there -/
def stp (f : Nat → Int32) (s : Int32) (k : Nat) : Bool := decide (pth f s k = -1) || bt (bse f s k) (pth f s k).toNatClampNeg
def cln (f : Nat → Int32) (s : Int32) : Nat := fa_first (stp f s) 13
def cbi (f : Nat → Int32) (s : Int32) : Int32 := bse f s (cln f s)
def cen (f : Nat → Int32) (s : Int32) : Int32 := if cln f s = 0 then -1 else pth f s (cln f s - 1)
/-- the ways of a world of P places -/
def FF (P : Nat) (f : Nat → Int32) (s : Int32) : Prop := P ≤ 12 ∧ (s = -1 ∨ ∃ b, b < P ∧ s = nI b) ∧ ∀ a, a < P → f a = -1 ∨ ∃ b, b < P ∧ f a = nI b
theorem pth_in {P : Nat} {f : Nat → Int32} {s : Int32} (hf : FF P f s) : ∀ k, pth f s k = -1 ∨ ∃ b, b < P ∧ pth f s k = nI b
  | 0 => hf.2.1
  | k + 1 => by
    have h12 := hf.1
    show (if pth f s k = -1 then -1 else f (pth f s k).toNatClampNeg) = -1 ∨ ∃ b, b < P ∧ (if pth f s k = -1 then -1 else f (pth f s k).toNatClampNeg) = nI b
    rcases pth_in hf k with h | ⟨b, hb, h⟩
    · rw [if_pos h]
      exact Or.inl rfl
    · rw [if_neg (by rw [h]; exact m1_ne (by omega)), h, clamp_nI (by omega)]
      exact hf.2.2 b hb
theorem pth_cong {P : Nat} {f g : Nat → Int32} {s : Int32} (hf : FF P f s) (h : ∀ a, a < P → f a = g a) : ∀ k, pth f s k = pth g s k
  | 0 => rfl
  | k + 1 => by
    have h12 := hf.1
    show (if pth f s k = -1 then -1 else f (pth f s k).toNatClampNeg) = (if pth g s k = -1 then -1 else g (pth g s k).toNatClampNeg)
    rw [← pth_cong hf h k]
    rcases pth_in hf k with h1 | ⟨b, hb, h1⟩
    · rw [if_pos h1, if_pos h1]
    · rw [h1, clamp_nI (by omega), h b hb]
theorem bse_cong {f g : Nat → Int32} {s : Int32} (h : ∀ k, pth f s k = pth g s k) : ∀ k, bse f s k = bse g s k
  | 0 => rfl
  | k + 1 => by
    show bse f s k ||| (1 <<< (pth f s k &&& 31)) = bse g s k ||| (1 <<< (pth g s k &&& 31))
    rw [bse_cong h k, h k]
theorem first_cong {p q : Nat → Bool} (h : ∀ k, p k = q k) : ∀ n, fa_first p n = fa_first q n := by
  have : p = q := funext h
  subst this
  exact fun _ => rfl
theorem cln_cong {P : Nat} {f g : Nat → Int32} {s : Int32} (hf : FF P f s) (h : ∀ a, a < P → f a = g a) : cln f s = cln g s ∧ cbi f s = cbi g s ∧ cen f s = cen g s := by
  have h1 := pth_cong hf h
  have h2 := bse_cong h1
  have h3 : cln f s = cln g s := first_cong (fun k => by unfold stp; rw [h1, h2]) 13
  refine ⟨h3, ?_, ?_⟩
  · unfold cbi; rw [h3, h2]
  · unfold cen; rw [h3, h1]
theorem bse_bit {P : Nat} {f : Nat → Int32} {s : Int32} (hf : FF P f s) : ∀ k, (∀ j, j < k → ¬ pth f s j = -1) → ∀ b, b < 32 → (bt (bse f s k) b = true ↔ ∃ j, j < k ∧ pth f s j = nI b)
  | 0, _, b, _ => by
    show bt 0 b = true ↔ _
    rw [b_0]
    exact ⟨fun h => absurd h (by decide), fun ⟨j, hj, _⟩ => absurd hj (Nat.not_lt_zero j)⟩
  | k + 1, hk, b, hb => by
    have h12 := hf.1
    show bt (bse f s k ||| (1 <<< (pth f s k &&& 31))) b = true ↔ _
    rw [b_or, Bool.or_eq_true, bse_bit hf k (fun j hj => hk j (Nat.lt_succ_of_lt hj)) b hb]
    rcases pth_in hf k with h | ⟨c, hc, h⟩
    · exact absurd h (hk k (Nat.lt_succ_self k))
    · rw [h, bt_shl1 (by omega) hb, decide_eq_true_iff]
      constructor
      · rintro (⟨j, hj, e⟩ | e)
        · exact ⟨j, by omega, e⟩
        · exact ⟨k, by omega, by rw [h, e]⟩
      · rintro ⟨j, hj, e⟩
        by_cases hjk : j = k
        · right
          rw [hjk, h] at e
          exact ((nI_eq (by omega) (by omega)).mp e).symm
        · exact Or.inl ⟨j, by omega, e⟩
theorem stp_no {f : Nat → Int32} {s : Int32} {k : Nat} (h : stp f s k = false) : ¬ pth f s k = -1 := by
  intro e
  unfold stp at h
  rw [decide_eq_true e] at h
  cases h
/-- as long as it doesn't stand, the places are different ones -/
theorem pth_ne {P : Nat} {f : Nat → Int32} {s : Int32} (hf : FF P f s) {k : Nat} (hk : ∀ j, j < k → stp f s j = false) : ∀ i j, i < j → j < k → ¬ pth f s i = pth f s j := by
  intro i j hij hjk e
  have h12 := hf.1
  have hs := hk j hjk
  rcases pth_in hf j with h | ⟨b, hb, h⟩
  · exact stp_no hs h
  · have h2 : bt (bse f s j) b = true := (bse_bit hf j (fun i hi => stp_no (hk i (by omega))) b (by omega)).mpr ⟨i, hij, by rw [e, h]⟩
    unfold stp at hs
    rw [h, clamp_nI (by omega), h2, Bool.or_true] at hs
    cases hs
theorem cln_le {P : Nat} {f : Nat → Int32} {s : Int32} (hf : FF P f s) : cln f s ≤ P := by
  have h12 := hf.1
  have hno : ∀ j, j < cln f s → stp f s j = false := fun j hj => fa_first_no (stp f s) 13 j hj
  refine fb_holes P (cln f s) (fun i => (pth f s i).toNatClampNeg) ?_ ?_
  · intro i hi
    rcases pth_in hf i with h | ⟨b, hb, h⟩
    · exact absurd h (stp_no (hno i hi))
    · show (pth f s i).toNatClampNeg < P
      rw [h, clamp_nI (by omega)]
      exact hb
  · intro i j hij hj e
    have e2 : (pth f s i).toNatClampNeg = (pth f s j).toNatClampNeg := e
    refine pth_ne hf hno i j hij hj ?_
    rcases pth_in hf i with h | ⟨b, hb, h⟩
    · exact absurd h (stp_no (hno i (by omega)))
    · rcases pth_in hf j with h2 | ⟨c, hc, h2⟩
      · exact absurd h2 (stp_no (hno j hj))
      · rw [h, h2, clamp_nI (by omega), clamp_nI (by omega)] at e2
        rw [h, h2, e2]
theorem cln_no {f : Nat → Int32} {s : Int32} {j : Nat} (hj : j < cln f s) : stp f s j = false := fa_first_no (stp f s) 13 j hj
theorem cln_yes {P : Nat} {f : Nat → Int32} {s : Int32} (hf : FF P f s) : stp f s (cln f s) = true := fa_first_yes (stp f s) 13 (by have := cln_le hf; have := hf.1; show cln f s < 13; omega)
theorem cln_at {P : Nat} {f : Nat → Int32} {s : Int32} (hf : FF P f s) {k : Nat} (hk : k ≤ cln f s) : k = cln f s ↔ stp f s k = true := by
  constructor
  · intro h
    rw [h]
    exact cln_yes hf
  · intro h
    by_cases e : k = cln f s
    · exact e
    · have := cln_no (f := f) (s := s) (j := k) (by omega)
      rw [h] at this
      cases this
theorem clen_pos {P : Nat} {f : Nat → Int32} {s : Int32} (hf : FF P f s) (hs : ¬ s = -1) : 0 < cln f s := by
  rcases Nat.eq_zero_or_pos (cln f s) with h | h
  · have := cln_yes hf
    rw [h] at this
    unfold stp at this
    rw [show pth f s 0 = s from rfl, show bse f s 0 = 0 from rfl, b_0, decide_eq_false hs] at this
    cases this
  · exact h
theorem pth_at {P : Nat} {f : Nat → Int32} {s : Int32} (hf : FF P f s) {k : Nat} (hk : k < cln f s) : ∃ b, b < P ∧ pth f s k = nI b := by
  rcases pth_in hf k with h | h
  · exact absurd h (stp_no (cln_no hk))
  · exact h
set_option maxHeartbeats 1000000 in
theorem courseBits_tot {m : Mem} {P : Nat} {s : Int32} (hP : m 52 0 0 = nI P) (hs : s = if P = 0 then -1 else m 52 0 3) (hf : FF P (m 57 0) s) : Tot (r_X12_courseBits m) (fun q => q.1 = cbi (m 57 0) s ∧ q.2 12 0 42 = nI (cln (m 57 0) s) ∧ (∀ k, k < cln (m 57 0) s → q.2 58 0 k = pth (m 57 0) s k) ∧ Fj [(58, 0)] [(12, 42)] m q.2) := by
  have h12 := hf.1
  have hle := cln_le hf
  have main : Tot (r_X12_courseBits_l27 0 s (wr m 12 0 42 0)) (fun q => q.1 = cbi (m 57 0) s ∧ q.2 12 0 42 = nI (cln (m 57 0) s) ∧ (∀ k, k < cln (m 57 0) s → q.2 58 0 k = pth (m 57 0) s k) ∧ Fj [(58, 0)] [(12, 42)] m q.2) := by
    unfold r_X12_courseBits_l27
    rw [tot_bd1]
    refine tot_for (fun k t => t.1 = bse (m 57 0) s k ∧ t.2.1 = pth (m 57 0) s k ∧ t.2.2 12 0 42 = nI k ∧ (∀ j, j < k → t.2.2 58 0 j = pth (m 57 0) s j) ∧ Fj [(58, 0)] [(12, 42)] m t.2.2) (cln (m 57 0) s) ?_ ?_ 0 _ (Nat.zero_le _) ⟨rfl, rfl, (show wr m 12 0 42 0 12 0 42 = nI 0 from wr_eq _ _ _ _ _), fun j hj => absurd hj (Nat.not_lt_zero j), Fj.rf.wrJ (by decide) _ _⟩
    · rintro k ⟨x1, x2, m1⟩ hk ⟨e1, e2, e3, e4, hF⟩
      dsimp only at e1 e2 e3 e4 hF ⊢
      subst e1 e2
      have hno := cln_no hk
      obtain ⟨b, hb, hbk⟩ := pth_at hf hk
      have f57 : m1 57 0 = m 57 0 := hF.row 57 0 (by decide) (by decide)
      have hnb : bt (bse (m 57 0) s k) b = false := by
        unfold stp at hno
        rw [hbk, clamp_nI (by omega)] at hno
        cases hq : bt (bse (m 57 0) s k) b with
        | false => rfl
        | true => rw [hq, Bool.or_true] at hno; cases hno
      have hp : pth (m 57 0) s (k + 1) = m 57 0 b := by
        show (if pth (m 57 0) s k = -1 then -1 else m 57 0 (pth (m 57 0) s k).toNatClampNeg) = _
        rw [if_neg (stp_no hno), hbk, clamp_nI (by omega)]
      have hb2 : bse (m 57 0) s (k + 1) = bse (m 57 0) s k ||| (1 <<< (nI b &&& 31)) := by
        show bse (m 57 0) s k ||| (1 <<< (pth (m 57 0) s k &&& 31)) = _
        rw [hbk]
      unfold r_X12_courseBits_b27
      rw [if_neg (stp_no hno), hbk, has_eq (by omega), hnb, if_neg (by decide), e3, if_pos (inb_nI (by omega) (by omega)), if_pos (inb_nI (by omega) (by omega)), clamp_nI (by omega), clamp_nI (by omega), f57, tot_some]
      refine ⟨hb2.symm, hp.symm, by rw [nI_succ]; exact (show wr (wr m1 58 0 k (nI b)) 12 0 42 (nI k + 1) 12 0 42 = nI k + 1 from wr_eq _ _ _ _ _), fun j hj => ?_, (hF.wrK (by decide) _ _).wrJ (by decide) _ _⟩
      show wr (wr m1 58 0 k (nI b)) 12 0 42 (nI k + 1) 58 0 j = _
      rw [wr_k (by decide), wr_if]
      by_cases hjk : j = k
      · rw [if_pos hjk, hjk, hbk]
      · rw [if_neg hjk]
        exact e4 j (by omega)
    · rintro ⟨x1, x2, m1⟩ ⟨e1, e2, e3, e4, hF⟩
      dsimp only at e1 e2 e3 e4 hF ⊢
      have hy := cln_yes hf
      have fin : Tot (some (Sum.inr (x1, m1)) : Option ((Int32 × Int32 × Mem) ⊕ (Int32 × Mem))) (Sum.elim (fun _ => False) (fun x => Tot (r_X12_courseBits_e76_h27 x.1 x.2) (fun q => q.1 = cbi (m 57 0) s ∧ q.2 12 0 42 = nI (cln (m 57 0) s) ∧ (∀ k, k < cln (m 57 0) s → q.2 58 0 k = pth (m 57 0) s k) ∧ Fj [(58, 0)] [(12, 42)] m q.2))) := by
        refine tot_some.mpr ?_
        show Tot (r_X12_courseBits_e76_h27 x1 m1) _
        unfold r_X12_courseBits_e76_h27
        exact tot_some.mpr ⟨e1, e3, e4, hF⟩
      unfold r_X12_courseBits_b27
      by_cases h1 : x2 = -1
      · rw [if_pos h1]
        exact fin
      · rw [if_neg h1]
        rcases pth_in hf (cln (m 57 0) s) with h2 | ⟨b, hb, hbk⟩
        · exact absurd (e2.trans h2) h1
        · rw [hbk] at e2
          unfold stp at hy
          rw [hbk, decide_eq_false (m1_ne (by omega)), clamp_nI (by omega), Bool.false_or, ← e1] at hy
          rw [e2, has_eq (by omega), hy, if_pos rfl]
          exact fin
  unfold r_X12_courseBits r_X12_courseBits_j21
  rw [hP]
  by_cases h0 : P = 0
  · rw [if_pos (by rw [h0]; rfl)]
    rw [if_pos h0] at hs
    rw [hs] at main ⊢
    exact main
  · rw [if_neg (nI_ne0 (by omega) (by omega))]
    rw [if_neg h0] at hs
    rw [← hs]
    exact main
