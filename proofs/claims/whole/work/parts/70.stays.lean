/-! ===== lN n to 2^64: shifts, and, or, masks, one bit ===== -/
theorem wb_tb (n : Nat) : (lN n).toBitVec = BitVec.ofNat 64 n := rfl
theorem wb_inj {a b : Int64} (h : a.toBitVec = b.toBitVec) : a = b := Int64.toBitVec_inj.mp h
theorem wb_tn {n : Nat} (h : n < 2 ^ 64) : (lN n).toBitVec.toNat = n := by rw [wb_tb, BitVec.toNat_ofNat, Nat.mod_eq_of_lt h]
theorem wb_of (x : Int64) : ∃ n, n < 2 ^ 64 ∧ x = lN n := ⟨x.toBitVec.toNat, x.toBitVec.isLt, wb_inj (by rw [wb_tb]; simp)⟩
theorem wb_of32 (x : Int32) : ∃ n, n < 2 ^ 32 ∧ x = nI n := ⟨x.toBitVec.toNat, x.toBitVec.isLt, Int32.toBitVec_inj.mp (by show _ = BitVec.ofNat 32 _; simp)⟩
theorem wb_c : ∀ k, k < 64 → ((nI k).toInt64 &&& 63) = lN k := by decide +kernel
theorem wb_cu : ∀ k, k < 64 → ((nI k).toInt64.toUInt64 &&& Int64.toUInt64 63) = UInt64.ofNat k := by decide +kernel
theorem wb_sm : ∀ k, k < 64 → (BitVec.ofNat 64 k).smod 64 = BitVec.ofNat 64 k := by decide +kernel
theorem wb_pw {a b : Nat} (h : a ≤ b) : 2 ^ b = 2 ^ a * 2 ^ (b - a) := by rw [← Nat.pow_add]; congr 1; omega
theorem wb_lt2 {a b : Nat} (h : a < b) : 2 ^ a < 2 ^ b := Nat.pow_lt_pow_right (by decide) h
theorem wb_mod (n : Nat) : lN n = lN (n % 2 ^ 64) := wb_inj (by rw [wb_tb, wb_tb]; apply BitVec.eq_of_toNat_eq; rw [BitVec.toNat_ofNat, BitVec.toNat_ofNat, Nat.mod_mod])
theorem wb_shr {n k : Nat} (hn : n < 2 ^ 64) (hk : k < 64) : ((lN n).toUInt64 >>> ((nI k).toInt64.toUInt64 &&& Int64.toUInt64 63)).toInt64 = lN (n / 2 ^ k) := by
  rw [wb_cu k hk]
  apply wb_inj
  apply BitVec.eq_of_toNat_eq
  show ((lN n).toUInt64 >>> UInt64.ofNat k).toNat = (BitVec.ofNat 64 _).toNat
  have h1 : (UInt64.ofNat k).toNat = k := by
    show (BitVec.ofNat 64 k).toNat = k
    rw [BitVec.toNat_ofNat, Nat.mod_eq_of_lt (by omega)]
  have h2 : (lN n).toUInt64.toNat = n := wb_tn hn
  rw [UInt64.toNat_shiftRight, h1, h2, Nat.mod_eq_of_lt hk, Nat.shiftRight_eq_div_pow, BitVec.toNat_ofNat, Nat.mod_eq_of_lt (Nat.lt_of_le_of_lt (Nat.div_le_self _ _) hn)]
theorem wb_shl (n : Nat) {k : Nat} (hk : k < 64) : lN n <<< ((nI k).toInt64 &&& 63) = lN (n * 2 ^ k) := by
  rw [wb_c k hk]
  apply wb_inj
  rw [Int64.toBitVec_shiftLeft, wb_tb, wb_tb, wb_tb, wb_sm k hk]
  apply BitVec.eq_of_toNat_eq
  rw [BitVec.shiftLeft_eq', BitVec.toNat_shiftLeft, BitVec.toNat_ofNat, BitVec.toNat_ofNat, BitVec.toNat_ofNat, Nat.mod_eq_of_lt (show k < 2 ^ 64 by omega), Nat.shiftLeft_eq, Nat.mul_mod, Nat.mod_mod, ← Nat.mul_mod]
theorem wb_and {a b : Nat} (ha : a < 2 ^ 64) (hb : b < 2 ^ 64) : lN a &&& lN b = lN (a &&& b) := by
  apply wb_inj
  rw [Int64.toBitVec_and, wb_tb, wb_tb, wb_tb]
  apply BitVec.eq_of_toNat_eq
  rw [BitVec.toNat_and, BitVec.toNat_ofNat, BitVec.toNat_ofNat, BitVec.toNat_ofNat, Nat.mod_eq_of_lt ha, Nat.mod_eq_of_lt hb, Nat.mod_eq_of_lt (Nat.and_lt_two_pow _ hb)]
theorem wb_or {a b : Nat} (ha : a < 2 ^ 64) (hb : b < 2 ^ 64) : lN a ||| lN b = lN (a ||| b) := by
  apply wb_inj
  rw [Int64.toBitVec_or, wb_tb, wb_tb, wb_tb]
  apply BitVec.eq_of_toNat_eq
  rw [BitVec.toNat_or, BitVec.toNat_ofNat, BitVec.toNat_ofNat, BitVec.toNat_ofNat, Nat.mod_eq_of_lt ha, Nat.mod_eq_of_lt hb, Nat.mod_eq_of_lt (Nat.or_lt_two_pow ha hb)]
theorem wb_mask {n k : Nat} (hn : n < 2 ^ 64) (hk : k < 64) : lN n &&& lN (2 ^ k - 1) = lN (n % 2 ^ k) := by
  rw [wb_and hn (by have := wb_lt2 hk; omega), Nat.and_two_pow_sub_one_eq_mod]
theorem wb_a1 {n : Nat} (hn : n < 2 ^ 64) : lN n &&& 1 = lN (n % 2) := wb_mask (k := 1) hn (by decide)
theorem wb_bit {n k : Nat} (hn : n < 2 ^ 64) (hk : k < 64) : ((lN n).toUInt64 >>> ((nI k).toInt64.toUInt64 &&& Int64.toUInt64 63)).toInt64 &&& 1 = lN (n / 2 ^ k % 2) := by
  rw [wb_shr hn hk, wb_a1 (Nat.lt_of_le_of_lt (Nat.div_le_self _ _) hn)]
theorem wb_xor {q k : Nat} (hk : k < 63) (h : 2 ^ k ≤ q) (h2 : q < 2 ^ (k + 1)) : lN q ^^^ lN (2 ^ k) = lN (q - 2 ^ k) := by
  obtain ⟨r, rfl⟩ : ∃ r, q = 2 ^ k + r := ⟨q - 2 ^ k, by omega⟩
  have hr : r < 2 ^ k := by rw [Nat.pow_succ] at h2; omega
  have hx : (2 ^ k + r) ^^^ 2 ^ k = r := by
    apply Nat.eq_of_testBit_eq
    intro i
    rw [Nat.testBit_xor, Nat.testBit_two_pow]
    rcases Nat.lt_trichotomy i k with h | h | h
    · rw [Nat.testBit_two_pow_add_gt h]
      simp [show ¬ k = i by omega]
    · subst h
      rw [Nat.testBit_two_pow_add_eq]
      simp
    · have a1 : 2 ^ (k + 1) ≤ 2 ^ i := Nat.pow_le_pow_right (by decide) h
      rw [Nat.testBit_lt_two_pow (show 2 ^ k + r < 2 ^ i by omega), Nat.testBit_lt_two_pow (show r < 2 ^ i by omega)]
      simp [show ¬ k = i by omega]
  have b1 := wb_lt2 (show k + 1 < 64 by omega)
  have b2 := wb_lt2 (show k < 64 by omega)
  apply wb_inj
  rw [Int64.toBitVec_xor, wb_tb, wb_tb, wb_tb]
  apply BitVec.eq_of_toNat_eq
  rw [BitVec.toNat_xor, BitVec.toNat_ofNat, BitVec.toNat_ofNat, BitVec.toNat_ofNat, Nat.mod_eq_of_lt (by omega : 2 ^ k + r < 2 ^ 64), Nat.mod_eq_of_lt b2, hx, Nat.add_sub_cancel_left, Nat.mod_eq_of_lt (by omega)]
/-! ===== stays ===== -/
/-- a course as one number -/
def kN (b : Nat) (c : Nat → Nat) : Nat → Nat
  | 0 => 0
  | k + 1 => b * kN b c k + (c k + 1)
theorem kN_cong {b : Nat} {c c' : Nat → Nat} : ∀ {n : Nat}, (∀ k, k < n → c k = c' k) → kN b c n = kN b c' n
  | 0, _ => rfl
  | k + 1, h => by
    unfold kN
    rw [h k (Nat.lt_succ_self k), kN_cong (fun j hj => h j (Nat.lt_succ_of_lt hj))]
theorem kN16_inj {c c' : Nat → Nat} : ∀ n n', (∀ k, k < n → c k < 12) → (∀ k, k < n' → c' k < 12) → kN 16 c n = kN 16 c' n' → n = n' ∧ ∀ k, k < n → c k = c' k
  | 0, 0, _, _, _ => ⟨rfl, fun k hk => absurd hk (Nat.not_lt_zero k)⟩
  | 0, n' + 1, _, _, h => by
    have h2 : 0 = 16 * kN 16 c' n' + (c' n' + 1) := h
    omega
  | n + 1, 0, _, _, h => by
    have h2 : 16 * kN 16 c n + (c n + 1) = 0 := h
    omega
  | n + 1, n' + 1, h1, h2, h => by
    have h3 : 16 * kN 16 c n + (c n + 1) = 16 * kN 16 c' n' + (c' n' + 1) := h
    have a1 := h1 n (Nat.lt_succ_self n)
    have a2 := h2 n' (Nat.lt_succ_self n')
    obtain ⟨e1, e2⟩ := kN16_inj n n' (fun k hk => h1 k (by omega)) (fun k hk => h2 k (by omega)) (by omega)
    refine ⟨by omega, fun k hk => ?_⟩
    by_cases hkn : k = n
    · subst hkn
      subst e1
      omega
    · exact e2 k (by omega)
theorem kN16_lt {c : Nat → Nat} : ∀ n, (∀ k, k < n → c k < 12) → kN 16 c n < 16 ^ n
  | 0, _ => (show (0 : Nat) < 16 ^ 0 by decide)
  | n + 1, h => by
    have ih := kN16_lt n (fun k hk => h k (by omega))
    have a1 := h n (Nat.lt_succ_self n)
    show 16 * kN 16 c n + (c n + 1) < 16 ^ (n + 1)
    rw [Nat.pow_succ]
    omega
theorem kN13_inj {c c' : Nat → Nat} : ∀ n n', (∀ k, k < n → c k < 12) → (∀ k, k < n' → c' k < 12) → kN 13 c n = kN 13 c' n' → n = n' ∧ ∀ k, k < n → c k = c' k
  | 0, 0, _, _, _ => ⟨rfl, fun k hk => absurd hk (Nat.not_lt_zero k)⟩
  | 0, n' + 1, _, _, h => by
    have h2 : 0 = 13 * kN 13 c' n' + (c' n' + 1) := h
    omega
  | n + 1, 0, _, _, h => by
    have h2 : 13 * kN 13 c n + (c n + 1) = 0 := h
    omega
  | n + 1, n' + 1, h1, h2, h => by
    have h3 : 13 * kN 13 c n + (c n + 1) = 13 * kN 13 c' n' + (c' n' + 1) := h
    have a1 := h1 n (Nat.lt_succ_self n)
    have a2 := h2 n' (Nat.lt_succ_self n')
    obtain ⟨e1, e2⟩ := kN13_inj n n' (fun k hk => h1 k (by omega)) (fun k hk => h2 k (by omega)) (by omega)
    refine ⟨by omega, fun k hk => ?_⟩
    by_cases hkn : k = n
    · subst hkn
      subst e1
      omega
    · exact e2 k (by omega)
theorem kN13_lt {c : Nat → Nat} : ∀ n, (∀ k, k < n → c k < 12) → kN 13 c n < 13 ^ n
  | 0, _ => (show (0 : Nat) < 13 ^ 0 by decide)
  | n + 1, h => by
    have ih := kN13_lt n (fun k hk => h k (by omega))
    have a1 := h n (Nat.lt_succ_self n)
    show 13 * kN 13 c n + (c n + 1) < 13 ^ (n + 1)
    rw [Nat.pow_succ]
    omega
abbrev key (w : Wd) (r : Rw) : Nat := kN 16 (cN w r) (cL w r)
abbrev nam (w : Wd) (r : Rw) : Nat := kN 13 (cN w r) (cL w r)
theorem cN_12 {w : Wd} (hW : WF w) (r : Rw) {k : Nat} (hk : k < cL w r) : cN w r k < 12 := by
  have hP := hW.1.2
  have := (cN_at hW r hk).1
  omega
theorem cL_12 {w : Wd} (hW : WF w) (r : Rw) : cL w r ≤ 12 := by
  have hP := hW.1.2
  have : cL w r ≤ wP w := cln_le (FF_of hW r)
  omega
theorem key_nam {w : Wd} (hW : WF w) (r s : Rw) : key w r = key w s ↔ nam w r = nam w s := by
  constructor
  · intro h
    obtain ⟨e1, e2⟩ := kN16_inj _ _ (fun k hk => cN_12 hW r hk) (fun k hk => cN_12 hW s hk) h
    show kN 13 (cN w r) (cL w r) = kN 13 (cN w s) (cL w s)
    rw [← e1]
    exact kN_cong e2
  · intro h
    obtain ⟨e1, e2⟩ := kN13_inj _ _ (fun k hk => cN_12 hW r hk) (fun k hk => cN_12 hW s hk) h
    show kN 16 (cN w r) (cL w r) = kN 16 (cN w s) (cL w s)
    rw [← e1]
    exact kN_cong e2
theorem key_lt {w : Wd} (hW : WF w) (r : Rw) : key w r < 2 ^ 48 := by
  have h1 := kN16_lt (c := cN w r) (cL w r) (fun k hk => cN_12 hW r hk)
  have h2 : 16 ^ cL w r ≤ 16 ^ 12 := Nat.pow_le_pow_right (by decide) (cL_12 hW r)
  have h3 : (16 : Nat) ^ 12 = 2 ^ 48 := by decide
  show kN 16 (cN w r) (cL w r) < 2 ^ 48
  omega
theorem nam_lt {w : Wd} (hW : WF w) (r : Rw) : nam w r < 2 ^ 48 := by
  have h1 := kN13_lt (c := cN w r) (cL w r) (fun k hk => cN_12 hW r hk)
  have h2 : 13 ^ cL w r ≤ 13 ^ 12 := Nat.pow_le_pow_right (by decide) (cL_12 hW r)
  have h3 : (13 : Nat) ^ 12 < 2 ^ 48 := by decide
  show kN 13 (cN w r) (cL w r) < 2 ^ 48
  omega
theorem lN_inj {a b : Nat} (ha : a < 2 ^ 48) (hb : b < 2 ^ 48) : lN a = lN b ↔ a = b := by
  constructor
  · intro h
    have h1 := congrArg (fun z => z.toBitVec.toNat) h
    rw [wb_tn (by omega), wb_tn (by omega)] at h1
    exact h1
  · rintro rfl
    rfl
theorem lN_m1 {a : Nat} (ha : a < 2 ^ 48) : ¬ lN a = -1 := by
  intro h
  have h1 := congrArg (fun z => z.toBitVec.toNat) h
  rw [wb_tn (by omega)] at h1
  have h2 : (-1 : Int64).toBitVec.toNat = 18446744073709551615 := by decide
  omega
theorem cmp_iff {a b : Int64} : lg_cmp a b = 0 ↔ a = b := by
  constructor
  · intro h
    unfold lg_cmp at h
    by_cases h1 : a > b
    · rw [if_pos h1] at h
      exact absurd h (by decide)
    · rw [if_neg h1] at h
      by_cases h2 : a = b
      · exact h2
      · rw [if_neg h2] at h
        exact absurd h (by decide)
  · rintro rfl
    exact cmp_0 a
theorem key_c {w : Wd} {r : Rw} {m : Mem} (hW : WF w) (hT : Trc w r m) : r_X6_key m = some (lN (key w r)) := by
  have h12 := cL_12 hW r
  apply Tot.eq
  unfold r_X6_key r_X6_key_l4
  rw [tot_bd1]
  refine tot_for (fun k (s : Int64 × Int32) => s = (lN (kN 16 (cN w r) k), nI k)) (cL w r) ?_ ?_ 0 _ (Nat.zero_le _) rfl
  · rintro k s hk rfl
    dsimp only
    have a1 := cN_12 hW r hk
    have a2 := kN16_lt (c := cN w r) k (fun j hj => cN_12 hW r (by omega))
    have a3 : 16 ^ k ≤ 16 ^ 11 := Nat.pow_le_pow_right (by decide) (by omega)
    have a4 : (16 : Nat) ^ 11 = 2 ^ 44 := by decide
    unfold r_X6_key_b4
    rw [hT.1, if_neg (nI_ge hk (by omega)), if_pos (inb_nI (by omega) (by omega)), clamp_nI (by omega), hT.2.2 k hk, (cN_at hW r hk).2, ← nI_succ, nI_l (by omega), show (4 : Int32) = nI 4 from rfl, wb_shl _ (by decide), wb_or (by omega) (by omega)]
    refine tot_some.mpr ?_
    show (_, _) = (_, _)
    rw [← nI_succ]
    congr 2
    show kN 16 (cN w r) k * 2 ^ 4 ||| (cN w r k + 1) = 16 * kN 16 (cN w r) k + (cN w r k + 1)
    rw [Nat.mul_comm, ← Nat.two_pow_add_eq_or_of_lt (by omega)]
  · rintro s rfl
    dsimp only
    unfold r_X6_key_b4
    rw [hT.1, if_pos (nI_le (Nat.le_refl _) (by omega)), tot_some]
    exact tot_some.mpr rfl
theorem name_m {m : Mem} {i : Nat} (hW : WF (mW m)) : Tot (r_X12_courseName i m) (fun q => q.1 = lN (nam (mW m) (m 60 i)) ∧ Fj [(55, 0), (56, 0), (57, 0), (58, 0)] [(12, 42)] m q.2) := by
  have h12 := cL_12 hW (m 60 i)
  unfold r_X12_courseName
  rw [tot_bd2]
  refine (courseOf_tot (i := i) hW).mono ?_
  rintro ⟨z, m1⟩ ⟨h1, h2, h3, h4, h5⟩
  dsimp only at h1 h2 h3 h4 h5 ⊢
  unfold r_X12_courseName_l11
  rw [tot_bd1]
  refine tot_for (fun k (s : Int64 × Int32) => s = (lN (kN 13 (cN (mW m) (m 60 i)) k), nI k)) (cL (mW m) (m 60 i)) ?_ ?_ 0 _ (Nat.zero_le _) rfl
  · rintro k s hk rfl
    dsimp only
    have a1 := cN_12 hW (m 60 i) hk
    unfold r_X12_courseName_b11
    rw [h2, if_neg (nI_ge hk (by omega)), if_pos (inb_nI (by omega) (by omega)), clamp_nI (by omega), h3 k hk, (cN_at hW (m 60 i) hk).2, nI_l (by omega), show (13 : Int64) = lN 13 from rfl, lN_mul, lN_add, lN_1]
    refine tot_some.mpr ?_
    show (_, _) = (_, _)
    rw [← nI_succ]
    rfl
  · rintro s rfl
    dsimp only
    unfold r_X12_courseName_b11
    rw [h2, if_pos (nI_le (Nat.le_refl _) (by omega)), tot_some]
    exact tot_some.mpr ⟨rfl, h5⟩
/-- since which day the course is what it is on day k -/
def snc (w : Wd) (r : Rw) : Nat → Nat
  | 0 => 0
  | k + 1 => if key w (itd w r (k + 1)) = key w (itd w r k) then snc w r k else k + 1
theorem snc_succ (w : Wd) (r : Rw) (k : Nat) : snc w r (k + 1) = if key w (itd w r (k + 1)) = key w (itd w r k) then snc w r k else k + 1 := rfl
theorem snc_le (w : Wd) (r : Rw) : ∀ k, snc w r k ≤ k
  | 0 => Nat.le_refl 0
  | k + 1 => by
    have h := snc_le w r k
    rw [snc_succ]
    by_cases hk : key w (itd w r (k + 1)) = key w (itd w r k)
    · rw [if_pos hk]
      omega
    · rw [if_neg hk]
      exact Nat.le_refl _
def sty (w : Wd) (r : Rw) : Int32 := if fa_first (fun k => decide (k - snc w r k = 20)) 81 < 81 then nI (snc w r (fa_first (fun k => decide (k - snc w r k = 20)) 81)) else -1
theorem sty_at {w : Wd} {r : Rw} {k : Nat} (hk : k < 81) (h : k - snc w r k = 20) (hl : ∀ j, j < k → decide (j - snc w r j = 20) = false) : sty w r = nI (snc w r k) := by
  unfold sty
  rw [first_at (p := fun k => decide (k - snc w r k = 20)) hk (decide_eq_true h) hl, if_pos hk]
theorem sty_no {w : Wd} {r : Rw} (hl : ∀ j, j < 81 → decide (j - snc w r j = 20) = false) : sty w r = -1 := by
  unfold sty
  rw [first_none (p := fun k => decide (k - snc w r k = 20)) hl, if_neg (Nat.lt_irrefl 81)]
theorem twenty {w : Wd} {r : Rw} {k : Nat} (hk : k < 81) : nI k - nI (snc w r k) = 20 ↔ k - snc w r k = 20 := by
  have h := snc_le w r k
  rw [nI_sub h]
  exact nI_eq (b := 20) (by omega) (by omega)
set_option maxHeartbeats 1000000 in
theorem stay_c {w : Wd} {r : Rw} {m : Mem} (hW : WF w) (hL : CL w m) (hC : CW w m) (hS : StC w r m 0) : Tot (r_X0_findStay 0 m) (fun q => q.1 = sty w r ∧ Fj KC JC m q.2) := by
  unfold r_X0_findStay
  rw [tot_bd1]
  refine (copyFrom_tot (i0 := 1) (i1 := 0) (by decide)).mono ?_
  rintro m1 ⟨c1, -, -, -, -, -, c2⟩
  have hF1 : Fj KC JC m m1 := (c2.mono (by simp)).j
  unfold r_X0_findStay_l18
  rw [tot_bdS]
  refine tot_for (fun k (s : Int64 × Int32 × Int32 × Mem) => s.2.2.1 = nI k ∧ StC w (itd w r k) s.2.2.2 1 ∧ Fj KC JC m s.2.2.2 ∧ (k = 0 → s.1 = -1 ∧ s.2.1 = 0) ∧ (∀ j, k = j + 1 → s.1 = lN (key w (itd w r j)) ∧ s.2.1 = nI (snc w r j)) ∧ ∀ j, j < k → decide (j - snc w r j = 20) = false) 81 ?_ ?_ 0 _ (Nat.zero_le _) ⟨rfl, c1 _ _ hW hS, hF1, fun _ => ⟨rfl, rfl⟩, fun j hj => absurd hj (by omega), fun j hj => absurd hj (Nat.not_lt_zero j)⟩
  · rintro k ⟨y2, x4, x5, m2⟩ hk ⟨e1, hS2, hF2, e3, e4, e5⟩
    dsimp only at e1 hS2 hF2 e3 e4 e5 ⊢
    subst e1
    have hL2 : CL w m2 := hL.fj hF2 (by decide) (by decide)
    have hC2 : CW w m2 := hC.fj hF2 (by decide) (by decide)
    unfold r_X0_findStay_b18
    rw [if_neg (show ¬ (80 : Int32) < nI k from nI_nlt (a := 80) (b := k) (by omega) (by omega)), tot_bd1]
    refine (trace_tot hW hL2 hC2 hS2).mono ?_
    rintro m3 ⟨t1, t2, t3, t4⟩
    have hT : Trc w (itd w r k) m3 := ⟨t1, t2, t3⟩
    have hF3 : Fj KC JC m m3 := hF2.tr (t4.mono (by simp) (by simp))
    have hS3 : StC w (itd w r k) m3 1 := hS2.fj t4 (by decide) (by decide)
    have hL3 : CL w m3 := hL.fj hF3 (by decide) (by decide)
    rw [bd1_s (key_c hW hT)]
    have fin : Tot (r_X0_findStay_j60_c18 (lN (key w (itd w r k))) (nI (snc w r k)) (nI k) m3) (Sum.elim (fun s2 : Int64 × Int32 × Int32 × Mem => s2.2.2.1 = nI (k + 1) ∧ StC w (itd w r (k + 1)) s2.2.2.2 1 ∧ Fj KC JC m s2.2.2.2 ∧ (k + 1 = 0 → s2.1 = -1 ∧ s2.2.1 = 0) ∧ (∀ j, k + 1 = j + 1 → s2.1 = lN (key w (itd w r j)) ∧ s2.2.1 = nI (snc w r j)) ∧ ∀ j, j < k + 1 → decide (j - snc w r j = 20) = false) (Sum.elim (fun x => Tot (r_X0_findStay_e90_h18 x) (fun q => q.1 = sty w r ∧ Fj KC JC m q.2)) (fun y => Tot (some y) (fun q => q.1 = sty w r ∧ Fj KC JC m q.2)))) := by
      unfold r_X0_findStay_j60_c18
      by_cases h20 : k - snc w r k = 20
      · rw [if_pos ((twenty hk).mpr h20)]
        exact tot_some.mpr (tot_some.mpr ⟨(sty_at hk h20 e5).symm, hF3⟩)
      · rw [if_neg (fun q => h20 ((twenty hk).mp q)), tot_bd1]
        refine (flowOneDay_tot hW hL3 hS3 hT.1 hT.2.2).mono ?_
        rintro m4 ⟨d1, d2⟩
        refine tot_some.mpr ⟨(nI_succ k).symm, d1, hF3.tr ((d2.mono (by simp)).j), fun q => absurd q (by omega), fun j hj => ?_, fun j hj => ?_⟩
        · have hjk : j = k := by omega
          rw [hjk]
          exact ⟨rfl, rfl⟩
        · by_cases hjk : j = k
          · rw [hjk]
            exact decide_eq_false h20
          · exact e5 j (by omega)
    by_cases h0 : k = 0
    · obtain ⟨q1, q2⟩ := e3 h0
      have s0 : snc w r k = k := by rw [h0]; exact Nat.le_zero.mp (snc_le w r 0)
      rw [s0] at fin
      rw [q1, if_neg (fun q => lN_m1 (key_lt hW _) (cmp_iff.mp q)), bd1_s (key_c hW hT)]
      exact fin
    · obtain ⟨j, hj⟩ : ∃ j, k = j + 1 := ⟨k - 1, by omega⟩
      obtain ⟨q1, q2⟩ := e4 j hj
      have st : snc w r k = if key w (itd w r k) = key w (itd w r j) then snc w r j else k := by rw [hj]; exact snc_succ w r j
      by_cases hk2 : key w (itd w r k) = key w (itd w r j)
      · rw [if_pos hk2] at st
        rw [q1, q2, if_pos (cmp_iff.mpr (by rw [hk2])), ← st, ← hk2]
        exact fin
      · rw [if_neg hk2] at st
        rw [q1, if_neg (fun q => hk2 ((lN_inj (key_lt hW _) (key_lt hW _)).mp (cmp_iff.mp q))), bd1_s (key_c hW hT)]
        rw [st] at fin
        exact fin
  · rintro ⟨y2, x4, x5, m2⟩ ⟨e1, hS2, hF2, e3, e4, e5⟩
    dsimp only at e1 hS2 hF2 e3 e4 e5 ⊢
    subst e1
    unfold r_X0_findStay_b18
    rw [if_pos (by decide), tot_some]
    exact tot_some.mpr ⟨(sty_no e5).symm, hF2⟩
set_option maxHeartbeats 1000000 in
theorem stay_m {m : Mem} {r : Rw} (hW : WF (mW m)) (hr : Er (m 60 1) r) : Tot (r_X12_stays_l25 (-1) 0 0 m) (fun q => q.1 = sty (mW m) r ∧ Fj KM [(12, 42)] m q.2) := by
  unfold r_X12_stays_l25
  rw [tot_bdS]
  refine tot_for (fun k (s : Int64 × Int32 × Int32 × Mem) => s.2.2.1 = nI k ∧ Er (s.2.2.2 60 1) (itd (mW m) r k) ∧ Fj KM [(12, 42)] m s.2.2.2 ∧ (k = 0 → s.1 = -1 ∧ s.2.1 = 0) ∧ (∀ j, k = j + 1 → s.1 = lN (nam (mW m) (itd (mW m) r j)) ∧ s.2.1 = nI (snc (mW m) r j)) ∧ ∀ j, j < k → decide (j - snc (mW m) r j = 20) = false) 81 ?_ ?_ 0 _ (Nat.zero_le _) ⟨rfl, hr, Fj.rf, fun _ => ⟨rfl, rfl⟩, fun j hj => absurd hj (by omega), fun j hj => absurd hj (Nat.not_lt_zero j)⟩
  · rintro k ⟨y1, x3, x4, m2⟩ hk ⟨e1, hE, hF2, e3, e4, e5⟩
    dsimp only at e1 hE hF2 e3 e4 e5 ⊢
    subst e1
    have fW : mW m2 = mW m := mW_fj hF2 (by decide) (by decide)
    unfold r_X12_stays_b25
    rw [if_neg (show ¬ (80 : Int32) < nI k from nI_nlt (a := 80) (b := k) (by omega) (by omega)), tot_bd2]
    refine (name_m (i := 1) (by rw [fW]; exact hW)).mono ?_
    rintro ⟨z, m3⟩ ⟨g1, g2⟩
    dsimp only at g1 g2 ⊢
    have hnm : nam (mW m) (m2 60 1) = nam (mW m) (itd (mW m) r k) := by
      obtain ⟨q1, -, -, q4⟩ := crs_er hW hE
      have hc : cN (mW m) (m2 60 1) = cN (mW m) (itd (mW m) r k) := by
        funext j
        unfold cN
        rw [q4]
      show kN 13 (cN (mW m) (m2 60 1)) (cL (mW m) (m2 60 1)) = _
      rw [hc, q1]
    rw [fW, hnm] at g1
    have fW3 : mW m3 = mW m := (mW_fj g2 (by decide) (by decide)).trans fW
    have hF3 : Fj KM [(12, 42)] m m3 := hF2.tr (g2.mono (by simp) (by simp))
    have hE3 : Er (m3 60 1) (itd (mW m) r k) := by
      rw [g2.rw' 60 1 (by decide) (by decide)]
      exact hE
    have fin : Tot (r_X12_stays_j55_c25 (nI k) (lN (nam (mW m) (itd (mW m) r k))) (nI (snc (mW m) r k)) m3) (Sum.elim (fun s2 : Int64 × Int32 × Int32 × Mem => s2.2.2.1 = nI (k + 1) ∧ Er (s2.2.2.2 60 1) (itd (mW m) r (k + 1)) ∧ Fj KM [(12, 42)] m s2.2.2.2 ∧ (k + 1 = 0 → s2.1 = -1 ∧ s2.2.1 = 0) ∧ (∀ j, k + 1 = j + 1 → s2.1 = lN (nam (mW m) (itd (mW m) r j)) ∧ s2.2.1 = nI (snc (mW m) r j)) ∧ ∀ j, j < k + 1 → decide (j - snc (mW m) r j = 20) = false) (Sum.elim (fun x => Tot (r_X12_stays_e84_h25 x) (fun q => q.1 = sty (mW m) r ∧ Fj KM [(12, 42)] m q.2)) (fun y => Tot (some y) (fun q => q.1 = sty (mW m) r ∧ Fj KM [(12, 42)] m q.2)))) := by
      unfold r_X12_stays_j55_c25
      by_cases h20 : k - snc (mW m) r k = 20
      · rw [if_pos ((twenty hk).mpr h20)]
        exact tot_some.mpr (tot_some.mpr ⟨(sty_at hk h20 e5).symm, hF3⟩)
      · rw [if_neg (fun q => h20 ((twenty hk).mp q)), tot_bd1]
        refine (dayEnds_tot (i := 1) (by rw [fW3]; exact hW)).mono ?_
        rintro m4 ⟨d1, d2⟩
        rw [fW3] at d1
        refine tot_some.mpr ⟨(nI_succ k).symm, ?_, hF3.tr (d2.mono (by simp) (by simp)), fun q => absurd q (by omega), fun j hj => ?_, fun j hj => ?_⟩
        · show Er (m4 60 1) (dayR (mW m) (itd (mW m) r k))
          rw [d1]
          exact dayR_er hW hE3
        · have hjk : j = k := by omega
          rw [hjk]
          exact ⟨rfl, rfl⟩
        · by_cases hjk : j = k
          · rw [hjk]
            exact decide_eq_false h20
          · exact e5 j (by omega)
    rw [g1]
    by_cases h0 : k = 0
    · obtain ⟨q1, q2⟩ := e3 h0
      have s0 : snc (mW m) r k = k := by rw [h0]; exact Nat.le_zero.mp (snc_le (mW m) r 0)
      rw [s0] at fin
      rw [q1, if_neg (fun q => lN_m1 (nam_lt hW _) (cmp_iff.mp q))]
      exact fin
    · obtain ⟨j, hj⟩ : ∃ j, k = j + 1 := ⟨k - 1, by omega⟩
      obtain ⟨q1, q2⟩ := e4 j hj
      have st : snc (mW m) r k = if key (mW m) (itd (mW m) r k) = key (mW m) (itd (mW m) r j) then snc (mW m) r j else k := by rw [hj]; exact snc_succ (mW m) r j
      by_cases hk2 : key (mW m) (itd (mW m) r k) = key (mW m) (itd (mW m) r j)
      · rw [if_pos hk2] at st
        rw [q1, q2, if_pos (cmp_iff.mpr (by rw [(key_nam hW _ _).mp hk2])), ← st]
        exact fin
      · rw [if_neg hk2] at st
        rw [q1, if_neg (fun q => hk2 ((key_nam hW _ _).mpr ((lN_inj (nam_lt hW _) (nam_lt hW _)).mp (cmp_iff.mp q))))]
        rw [st] at fin
        exact fin
  · rintro ⟨y1, x3, x4, m2⟩ ⟨e1, hE, hF2, e3, e4, e5⟩
    dsimp only at e1 hE hF2 e3 e4 e5 ⊢
    subst e1
    unfold r_X12_stays_b25
    rw [if_pos (by decide), tot_some]
    exact tot_some.mpr ⟨(sty_no e5).symm, hF2⟩
theorem op_16 {x4 : Int32} {m : Mem} (hI : Inv m) : Tot (r_L_op_16 x4 m) (fun m7 => Inv m7 ∧ ∀ i, m7 100 i = m 100 i) := by
  obtain ⟨hW, hR, hL, hC, hS⟩ := hI.1
  unfold r_L_op_16 r_X11_stays
  rw [tot_bd2, tot_bd2]
  refine (stay_c hW hL hC hS).mono ?_
  rintro ⟨z, m1⟩ ⟨h1, hF⟩
  dsimp only at h1 hF ⊢
  refine tot_some.mpr ?_
  dsimp only
  have hI1 : Inv m1 := InvX.fj hF rfl rfl hI
  obtain ⟨e, h60⟩ := pre3 hF (by decide) (by decide) (by decide) (by decide)
  unfold r_X12_stays
  rw [tot_bd2, tot_bd1]
  refine (copies_tot (i0 := 0) (i1 := 1) (by decide)).mono ?_
  rintro m2 ⟨g1, g2⟩
  rw [h60] at g1
  have fW2 : mW m2 = mW m := (mW_fj (J := []) g2.j (by decide) (by simp)).trans e
  refine (stay_m (by rw [fW2]; exact hW) g1).mono ?_
  rintro ⟨z2, m3⟩ ⟨i1, i2⟩
  dsimp only at i1 i2 ⊢
  rw [fW2] at i1
  rw [if_pos (h1.trans i1.symm)]
  have hF2 : Fj KM JM m1 m3 := (((th_fj m1 0).mono (by simp) (by simp)).tr ((g2.mono (by simp)).j)).tr (i2.mono (by simp) (by simp))
  refine tot_some.mpr ⟨InvX.fj hF2 rfl rfl hI1, fun i => ?_⟩
  rw [hF2.rw' 100 i (by simp) (by simp), hF.rw' 100 i (by simp) (by simp)]
