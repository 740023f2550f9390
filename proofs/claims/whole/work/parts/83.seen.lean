/-! ===== how likely it is seen ===== -/
def pwF (y : Int64) (x : Int32) : Option Int64 := loopN (fun s : Int64 × Int32 => if x ≤ s.2 then some (Sum.inr s.1) else some (Sum.inl (s.1 * y, s.2 + 1))) 20 (1, 0)
theorem loopO_N {σ ρ : Type} {b : σ → Option (σ ⊕ ρ)} {s : σ} {r : ρ} (n : Nat) (h : loopN b n s = some r) : loopO b s = some r := loopO_iff.mpr ⟨n, h⟩
theorem pwF_ok {y : Int64} {x : Int32} {z : Int64} (h : pwF y x = some z) : r_X11_power y x = some z := by
  unfold r_X11_power r_X11_power_l5
  rw [bd1_s (loopO_N 20 (show loopN (fun s => r_X11_power_b5 y x s.1 s.2) 20 (1, 0) = some z from h))]
  rfl
/-- the class's two: what it is out of, how many -/
def seC (x q : Int32) (t s0 p : Int64) : Option (Int64 × Int64) := loopN (fun s : Int64 × Int64 × Int32 => if 48 ≤ s.2.2 then (some (Sum.inr (s.1, s.2.1))) else (if (lg_cmp (remL s.2.1 2) 0) = 0 then (if (lg_cmp (remL s.1 2) 0) = 0 then (some (Sum.inl ((s.1 / 2), (s.2.1 / 2), s.2.2 + 1))) else (some (Sum.inr (s.1, s.2.1)))) else (some (Sum.inr (s.1, s.2.1))))) 60 (t, (t - p) - s0, 0)
def seM1 (x q : Int32) : Option (Int64 × Int64) := loopN (fun s : Int64 × Int64 × Int32 => if x ≤ s.2.2 then (some (Sum.inr (s.1, s.2.1))) else (some (Sum.inl ((s.1 * ((16 - q).toInt64)), ((s.2.1 * ((16 - q).toInt64)) + (s.1 * q.toInt64)), s.2.2 + 1)))) 20 (1, 0, 0)
def seM2 (a b : Int64) : Option Int64 := loopN (fun s : Int64 × Int64 => if (lg_cmp s.2 0) = 0 then (some (Sum.inr s.1)) else (if s.2 = 0 then none else (some (Sum.inl (s.2, (remL s.1 s.2)))))) 100 (a, b)
def seS (n q : Nat) : Option Int64 := if n = 0 then some 0 else (pwF ((16 - nI q).toInt64) (nI n - 1)).map (fun z => ((nI n * nI q).toInt64) * z)
def seK (n q : Nat) : Bool :=
  match pwF 16 (nI n), pwF ((16 - nI q).toInt64) (nI n), seS n q, seM1 (nI n) (nI q) with
  | some t, some p, some s0, some (y4, y6) =>
    match seC (nI n) (nI q) t s0 p, seM2 (1 <<< ((4 * nI n).toInt64 &&& 63)) (((1 <<< ((4 * nI n).toInt64 &&& 63)) - y4) - y6) with
    | some (a, b), some g => !decide (g = 0) && decide ((((1 <<< ((4 * nI n).toInt64 &&& 63)) - y4) - y6) / g = b) && decide ((1 <<< ((4 * nI n).toInt64 &&& 63)) / g = a)
    | _, _ => false
  | _, _, _, _ => false
theorem seK_t : ∀ n, n ≤ 12 → ∀ q, q ≤ 16 → seK n q = true := by decide +kernel
theorem seen_eq {n q : Nat} (h : seK n q = true) (x3 : Int32) : ∃ z : Int64, (∀ m : Mem, (bd1 (r_X11_power 16 (nI n)) fun z11 => (if nI n = 0 then (r_X11_seen_j56_3 (nI n) (nI q) x3 z11 0 m) else (bd1 (r_X11_power ((16 - nI q).toInt64) (nI n - 1)) fun z20 => (r_X11_seen_j56_3 (nI n) (nI q) x3 z11 (((nI n * nI q).toInt64) * z20) m)))) = some (Sum.inl z, m)) ∧ ∀ m : Mem, r_X12_seen_l66 (nI n) (nI q) x3 1 0 (1 <<< ((4 * nI n).toInt64 &&& 63)) 0 m = some (z, m) := by
  unfold seK at h
  cases h1 : pwF 16 (nI n) with
  | none => rw [h1] at h; cases h
  | some t =>
  cases h2 : pwF ((16 - nI q).toInt64) (nI n) with
  | none => rw [h1, h2] at h; cases h
  | some p =>
  cases h3 : seS n q with
  | none => rw [h1, h2, h3] at h; cases h
  | some s0 =>
  cases h4 : seM1 (nI n) (nI q) with
  | none => rw [h1, h2, h3, h4] at h; cases h
  | some y =>
  obtain ⟨y4, y6⟩ := y
  rw [h1, h2, h3, h4] at h
  dsimp only at h
  cases h5 : seC (nI n) (nI q) t s0 p with
  | none => rw [h5] at h; cases h
  | some ab =>
  obtain ⟨a, b⟩ := ab
  rw [h5] at h
  generalize hT : (1 <<< ((4 * nI n).toInt64 &&& 63) : Int64) = T at h ⊢
  cases h6 : seM2 T ((T - y4) - y6) with
  | none => rw [h6] at h; cases h
  | some g =>
  rw [h6] at h
  dsimp only at h
  rw [Bool.and_eq_true, Bool.and_eq_true, decide_eq_true_iff, decide_eq_true_iff] at h
  obtain ⟨⟨hg, hb⟩, ha⟩ := h
  have hg0 : ¬ g = 0 := fun q => by rw [q] at hg; cases hg
  refine ⟨if x3 = 0 then b else a, fun m => ?_, fun m => ?_⟩
  · rw [bd1_s (pwF_ok h1)]
    have fin : r_X11_seen_j56_3 (nI n) (nI q) x3 t s0 m = some (Sum.inl (if x3 = 0 then b else a), m) := by
      unfold r_X11_seen_j56_3 r_X11_seen_l78
      rw [bd1_s (pwF_ok h2), bd1_s (loopO_N 60 (show loopN (fun s => r_X11_seen_b78 x3 m s.1 s.2.1 s.2.2) 60 (t, (t - p) - s0, 0) = some (a, b) from h5))]
      unfold r_X11_seen_e129_h78 r_X11_seen_j129_3
      by_cases hx : x3 = 0
      · rw [if_pos hx, if_pos hx]
      · rw [if_neg hx, if_neg hx]
    unfold seS at h3
    by_cases hn : n = 0
    · rw [if_pos hn] at h3
      cases h3
      rw [if_pos (by rw [hn]; rfl)]
      exact fin
    · rw [if_neg hn] at h3
      by_cases hn0 : nI n = 0
      · rw [if_pos hn0]
        cases h7 : pwF ((16 - nI q).toInt64) (nI n - 1) with
        | none => rw [h7] at h3; cases h3
        | some z =>
          rw [h7] at h3
          have e3 : ((nI n * nI q).toInt64) * z = s0 := Option.some.inj h3
          rw [hn0, Int32.zero_mul] at e3
          have e0 : s0 = 0 := by
            rw [← e3]
            exact Int64.zero_mul
          rw [← e0]
          exact fin
      · rw [if_neg hn0]
        cases h7 : pwF ((16 - nI q).toInt64) (nI n - 1) with
        | none => rw [h7] at h3; cases h3
        | some z =>
          rw [h7] at h3
          have e3 : ((nI n * nI q).toInt64) * z = s0 := Option.some.inj h3
          rw [bd1_s (pwF_ok h7), e3]
          exact fin
  · unfold r_X12_seen_l66
    rw [bd1_s (loopO_N 20 (show loopN (fun s => r_X12_seen_b66 (nI n) (nI q) x3 T m s.1 s.2.1 s.2.2) 20 (1, 0, 0) = some (y4, y6) from h4))]
    unfold r_X12_seen_e104_h66 r_X12_seen_l122
    rw [bd1_s (loopO_N 100 (show loopN (fun s => r_X12_seen_b122 x3 T ((T - y4) - y6) m s.1 s.2) 100 (T, (T - y4) - y6) = some g from h6))]
    unfold r_X12_seen_e147_h122
    by_cases hx : x3 = 0
    · rw [if_pos hx, if_pos hx, if_neg hg0, hb]
    · rw [if_neg hx, if_neg hx, if_neg hg0, ha]
theorem op_25 {x4 : Int32} {m : Mem} (hI : Inv m) (hx : Sx x4 m) : Tot (r_L_op_25 x4 m) (fun m7 => Inv m7 ∧ ∀ i, m7 100 i = m 100 i) := by
  have i1 : inb (x4 + 1) (m 100 1 0).toNatClampNeg = true := hx 1 (by decide)
  have i2 : inb (x4 + 2) (m 100 1 0).toNatClampNeg = true := hx 2 (by decide)
  have i3 : inb (x4 + 3) (m 100 1 0).toNatClampNeg = true := hx 3 (by decide)
  unfold r_L_op_25
  rw [if_pos i1, if_pos i2, if_pos i3]
  generalize hX : m 100 0 (x4 + 1).toNatClampNeg = x
  generalize hY : m 100 0 (x4 + 2).toNatClampNeg = y
  generalize hZ : m 100 0 (x4 + 3).toNatClampNeg = z
  by_cases hg : (0 ≤ x ∧ x ≤ 12) ∧ (0 ≤ y ∧ y ≤ 16) ∧ (0 ≤ z ∧ z ≤ 1)
  · obtain ⟨h1, h2, h3⟩ := hg
    obtain ⟨n, hn, en⟩ := in_le (n := 12) (by decide) h1
    obtain ⟨q, hq, eq⟩ := in_le (n := 16) (by decide) h2
    obtain ⟨v, s1, s2⟩ := seen_eq (seK_t n hn q hq) z
    have hc : r_L_seen x y z m = some (0, wrL m 92 0 0 v) := by
      unfold r_L_seen r_X11_seen
      rw [thr_l (needRange_t h1), thr_l (needRange_t h2), thr_l (needRange_t h3), en, eq, s1 m]
      rfl
    have hF : Fj [(92, 0)] [] m (wrL m 92 0 0 v) := (wrL_fr m v).j
    have hI1 : Inv (wrL m 92 0 0 v) := InvX.fj hF rfl rfl hI
    have e100 : ∀ i, wrL m 92 0 0 v 100 i = m 100 i := fun i => hF.rw' 100 i (by simp) (by simp)
    have hm : r_X12_seen x y z (wrL m 92 0 0 v) = some (v, wr (wrL m 92 0 0 v) 12 0 0 0) := by
      unfold r_X12_seen r_X12_seen_j40
      rw [if_pos (in_t h1), if_pos (in_t h2), if_pos (in_t h3), bd2_s bad_0, if_neg (by decide), en, eq, s2]
    rw [bd2_s hc, e100, e100, if_pos i1, if_pos i2, if_pos i3, hX, hY, hZ, bd2_s hm]
    have e9 : jL (wr (wrL m 92 0 0 v) 12 0 0 0 92 0 0) (wr (wrL m 92 0 0 v) 12 0 0 0 92 0 1) = v := by
      rw [wr_k (by decide), wr_k (by decide)]
      exact wrL_rd m v
    rw [if_pos (show r_X12_thrown (wr (wrL m 92 0 0 v) 12 0 0 0) = 0 from wr_eq _ _ _ _ _), if_pos rfl, e9, if_pos (cmp_0 v)]
    refine tot_some.mpr ⟨InvX.fj (th_fj _ 0) rfl rfl hI1, fun i => ?_⟩
    rw [(th_fj (wrL m 92 0 0 v) 0).rw' 100 i (by simp) (by simp), e100]
  · have hc : r_L_seen x y z m = some (1, wr m 11 0 16 (m 11 0 16 + 1)) := by
      unfold r_L_seen r_X11_seen
      by_cases h1 : 0 ≤ x ∧ x ≤ 12
      · by_cases h2 : 0 ≤ y ∧ y ≤ 16
        · rw [thr_l (needRange_t h1), thr_l (needRange_t h2), thr_r (needRange_f (fun q => hg ⟨h1, h2, q⟩))]
          rfl
        · rw [thr_l (needRange_t h1), thr_r (needRange_f h2)]
          rfl
      · rw [thr_r (needRange_f h1)]
        rfl
    have hm : r_X12_seen x y z (wr m 11 0 16 (m 11 0 16 + 1)) = some (0, badm (wr m 11 0 16 (m 11 0 16 + 1)) 1 1) := by
      have bad : r_X12_seen_j35 x y z (wr (wr m 11 0 16 (m 11 0 16 + 1)) 12 0 0 0) = some (0, badm (wr m 11 0 16 (m 11 0 16 + 1)) 1 1) := by
        unfold r_X12_seen_j35 r_X12_seen_j40
        rw [bd2_s (bad_11 (by decide)), if_pos rfl]
      unfold r_X12_seen
      by_cases h1 : 0 ≤ x ∧ x ≤ 12
      · rw [if_pos (in_t h1)]
        by_cases h2 : 0 ≤ y ∧ y ≤ 16
        · rw [if_pos (in_t h2), if_neg (by rw [in_f (fun q => hg ⟨h1, h2, q⟩)]; decide)]
          exact bad
        · rw [if_neg (by rw [in_f h2]; decide)]
          exact bad
      · rw [if_neg (by rw [in_f h1]; decide)]
        exact bad
    have e100 : ∀ i, wr m 11 0 16 (m 11 0 16 + 1) 100 i = m 100 i := fun i => by
      funext j
      exact wr_k (by decide)
    rw [bd2_s hc, e100, e100, if_pos i1, if_pos i2, if_pos i3, hX, hY, hZ, bd2_s hm]
    rw [if_pos (show r_X12_thrown (badm (wr m 11 0 16 (m 11 0 16 + 1)) 1 1) = 1 from badm_12 _ 1 1), if_neg (by decide)]
    refine tot_some.mpr ⟨badm_i1 hI 1, fun i => ?_⟩
    rw [badm_r, e100]
