/-! ===== words ===== -/
noncomputable abbrev ltF : Int32 → Bool := r_X8_isLetter
theorem small_eq (x : Int32) : r_X12_isSmall x = ltF x := rfl
noncomputable abbrev wE (b : Nat → Int32) (L s : Nat) : Nat := rn ltF b L s
theorem lt_k {x : Int32} (h : ltF x = true) : ∃ c, c < 26 ∧ x = nI (97 + c) := by
  have h' : (if x < 97 then false else if 122 < x then false else true) = true := h
  by_cases h1 : x < 97
  · rw [if_pos h1] at h'
    cases h'
  · rw [if_neg h1] at h'
    by_cases h2 : 122 < x
    · rw [if_pos h2] at h'
      cases h'
    · have a1 : (97 : Int32) ≤ x := fa_of_nlt h1
      have a2 : x ≤ 122 := fa_of_nlt h2
      obtain ⟨k, hk, rfl⟩ := le_nI (n := 122) (by omega) ⟨by
        rw [fa_le] at a1 ⊢
        have : (97 : Int32).toInt = 97 := rfl
        have : (0 : Int32).toInt = 0 := rfl
        omega, a2⟩
      have a3 := (nI_le_iff (a := 97) (by omega) (by omega)).mp a1
      exact ⟨k - 97, by omega, by rw [show 97 + (k - 97) = k by omega]⟩
theorem kN27_inj {c c' : Nat → Nat} : ∀ n n', (∀ k, k < n → c k < 26) → (∀ k, k < n' → c' k < 26) → kN 27 c n = kN 27 c' n' → n = n' ∧ ∀ k, k < n → c k = c' k
  | 0, 0, _, _, _ => ⟨rfl, fun k hk => absurd hk (Nat.not_lt_zero k)⟩
  | 0, n' + 1, _, _, h => by
    have h2 : 0 = 27 * kN 27 c' n' + (c' n' + 1) := h
    omega
  | n + 1, 0, _, _, h => by
    have h2 : 27 * kN 27 c n + (c n + 1) = 0 := h
    omega
  | n + 1, n' + 1, h1, h2, h => by
    have h3 : 27 * kN 27 c n + (c n + 1) = 27 * kN 27 c' n' + (c' n' + 1) := h
    have a1 := h1 n (Nat.lt_succ_self n)
    have a2 := h2 n' (Nat.lt_succ_self n')
    obtain ⟨e1, e2⟩ := kN27_inj n n' (fun k hk => h1 k (by omega)) (fun k hk => h2 k (by omega)) (by omega)
    refine ⟨by omega, fun k hk => ?_⟩
    by_cases hkn : k = n
    · subst hkn
      subst e1
      omega
    · exact e2 k (by omega)
theorem kN27_lt {c : Nat → Nat} : ∀ n, (∀ k, k < n → c k < 26) → kN 27 c n < 27 ^ n
  | 0, _ => (show (0 : Nat) < 27 ^ 0 by decide)
  | n + 1, h => by
    have ih := kN27_lt n (fun k hk => h k (by omega))
    have a1 := h n (Nat.lt_succ_self n)
    show 27 * kN 27 c n + (c n + 1) < 27 ^ (n + 1)
    rw [Nat.pow_succ]
    omega
theorem nI_big {a c : Nat} (ha : a < 2147483648) (hc : c < 2147483648) (h : nI a = nI c) : a = c := by
  have h2 : (BitVec.ofNat 32 a).toNat = (BitVec.ofNat 32 c).toNat := congrArg (fun x : Int32 => x.toBitVec.toNat) h
  rw [BitVec.toNat_ofNat, BitVec.toNat_ofNat] at h2
  omega
theorem m1_big {a : Nat} (ha : a < 2147483648) : ¬ nI a = -1 := fun h => by
  have h2 : (BitVec.ofNat 32 a).toNat = (BitVec.ofNat 32 4294967295).toNat := congrArg (fun x : Int32 => x.toBitVec.toNat) h
  rw [BitVec.toNat_ofNat, BitVec.toNat_ofNat] at h2
  omega
def lcN (b : Nat → Int32) (s k : Nat) : Nat := (b (s + k)).toNatClampNeg - 97
theorem lcN_at {b : Nat → Int32} {s k : Nat} (h : ltF (b (s + k)) = true) : lcN b s k < 26 ∧ b (s + k) = nI (97 + lcN b s k) := by
  obtain ⟨c, hc, e⟩ := lt_k h
  unfold lcN
  rw [e, clamp_nI (by omega), show 97 + c - 97 = c by omega]
  exact ⟨hc, rfl⟩
/-- the word at s as one number -/
noncomputable def wcd (b : Nat → Int32) (L s : Nat) : Int32 := if wE b L s - s ≤ 6 then nI (kN 27 (lcN b s) (wE b L s - s)) else -1
theorem word_c {b : Nat → Int32} {L p : Nat} {m : Mem} (h : TC b L p m) : Tot (r_X8_word m) (fun q => (ltF (bA b L (sk b L p)) = true → q.1 = true ∧ TC b L (wE b L (sk b L p)) q.2 ∧ q.2 8 0 2 = nI (sk b L p)) ∧ (¬ ltF (bA b L (sk b L p)) = true → q.1 = false ∧ FtC 1 (sk b L p) q.2) ∧ Fj [] JTc m q.2) := by
  have hL := h.2.2.2.1.1
  unfold r_X8_word
  rw [tot_bd2]
  refine (peek_c h).mono ?_
  rintro ⟨z, m2⟩ ⟨h1, h2, h3⟩
  dsimp only at h1 h2 h3 ⊢
  have hF2 : Fj [] JTc m m2 := h3.mono (by simp) (by simp)
  rw [h1]
  generalize sk b L p = s at h2 ⊢
  have hs : s ≤ L := h2.2.2.1
  by_cases hd : ltF (bA b L s) = true
  · rw [if_pos hd, h2.2.1]
    have hF3 : Fj [] [(8, 2), (8, 6)] m2 (wr m2 8 0 2 (nI s)) := Fj.rf.wrJ (by simp) _ _
    have t3 := h2.mv hF3 (by simp) (by decide) (by rw [wr_j (by decide)]; exact h2.2.1) hs
    have q3 : wr m2 8 0 2 (nI s) 8 0 2 = nI s := wr_eq _ _ _ _ _
    generalize wr m2 8 0 2 (nI s) = m3 at hF3 t3 q3 ⊢
    have hF3' : Fj [] JTc m m3 := hF2.tr (hF3.mono (by simp) (by simp))
    have hnL : wE b L s ≤ L := rn_le hs
    unfold r_X8_word_l29
    rw [tot_bd1]
    refine tot_for (fun k (t : Mem) => s ≤ k ∧ TC b L k t ∧ t 8 0 2 = nI s ∧ Fj [] JTc m t) (wE b L s) ?_ ?_ s _ (rn_ge _ _ _ _) ⟨Nat.le_refl _, t3, q3, hF3'⟩
    · rintro k m4 hk ⟨e2, e3, e4, hF⟩
      have hdk : ltF (b k) = true := rn_in e2 hk
      unfold r_X8_word_b29
      rw [e3.1, e3.2.1, if_neg (nI_ge (by omega) (by omega)), if_pos (inb_nI (by omega) (by omega)), clamp_nI (by omega), e3.2.2.2.2 k (by omega), if_pos hdk]
      have hF4 : Fj [] [(8, 2), (8, 6)] m4 (wr m4 8 0 6 (nI k + 1)) := Fj.rf.wrJ (by simp) _ _
      have t4 := e3.mv (p' := k + 1) hF4 (by simp) (by decide) (by rw [wr_eq, nI_succ]) (by omega)
      refine tot_some.mpr ⟨by omega, t4, ?_, hF.tr (hF4.mono (by simp) (by simp))⟩
      rw [wr_j (by decide)]
      exact e4
    · rintro m4 ⟨e2, e3, e4, hF⟩
      have ex : Tot (r_X8_word_e69_h29 m4) (fun q => (ltF (bA b L s) = true → q.1 = true ∧ TC b L (wE b L s) q.2 ∧ q.2 8 0 2 = nI s) ∧ (¬ ltF (bA b L s) = true → q.1 = false ∧ FtC 1 s q.2) ∧ Fj [] JTc m q.2) := tot_some.mpr ⟨fun _ => ⟨rfl, e3, e4⟩, fun n => absurd hd n, hF⟩
      unfold r_X8_word_b29
      rw [e3.1, e3.2.1]
      by_cases hx : wE b L s < L
      · have hdk : ltF (b (wE b L s)) = false := rn_out hx
        rw [if_neg (nI_ge hx (by omega)), if_pos (inb_nI (by omega) (by omega)), clamp_nI (by omega), e3.2.2.2.2 _ hx, if_neg (fun q => by have := hdk.symm.trans q; cases this), tot_some]
        exact ex
      · rw [if_pos (nI_le (by omega) (by omega)), tot_some]
        exact ex
  · rw [if_neg hd, h2.2.1]
    obtain ⟨m3, g1, g2, g3⟩ := wrong_c (m := m2) (k := 1) (e := s)
    rw [bd2_s g1]
    exact tot_some.mpr ⟨fun e => absurd e hd, fun _ => ⟨rfl, g2⟩, hF2.tr (g3.mono (by simp) (by simp))⟩
/-- the word is this text -/
def WI (b : Nat → Int32) (L s i : Nat) : Prop := wE b L s - s = (strQ i).2.2.2.length ∧ ∀ k, k < (strQ i).2.2.2.length → b (s + k) = (strQ i).2.2.2.getD k 0
theorem strLen : strL.length = 24 := rfl
theorem strB : ∀ i, i < 24 → (strQ i).2.2.2.length ≤ 30 ∧ ∀ k, k < (strQ i).2.2.2.length → inb (((((strQ i).2.2.2.getD k 0) &&& 255).toUInt32 % 65536).toInt32) 65536 = true ∧ ((((strQ i).2.2.2.getD k 0) &&& 255).toUInt32 % 65536).toInt32 = (strQ i).2.2.2.getD k 0 := by decide +kernel
theorem slen_c {i : Nat} {m : Mem} (hi : i < 24) : r_J0_length_8abf5 i m = some (nI (strQ i).2.2.2.length) := by
  unfold r_J0_length_8abf5 r_J0_coder_7d493
  rw [strLen, if_pos hi, if_pos hi, bd1_s rfl]
  have : ∀ n, n ≤ 30 → (nI n) >>> ((0 : Int32) &&& 31) = nI n := by decide +kernel
  rw [this _ (strB i hi).1]
theorem char_c {i k : Nat} {m : Mem} (hi : i < 24) (hk : k < (strQ i).2.2.2.length) : r_J0_charAt_5068e i (nI k) m = some ((strQ i).2.2.2.getD k 0) := by
  have h30 := (strB i hi).1
  obtain ⟨h1, h2⟩ := (strB i hi).2 k hk
  unfold r_J0_charAt_5068e r_J0_isLatin1_aae02 r_J1_charAt_3b067 r_J0_checkIndex_df160 r_J3_checkIndex_8e157_N
  rw [strLen, if_pos hi, if_pos hi, bd1_s rfl, if_pos rfl, if_pos hi, if_neg (show ¬ nI (k) < (0 : Int32) from nI_nlt (a := k) (b := 0) (by omega) (by omega)), if_pos (nI_lt hk (by omega)), bd1_s rfl, bd1_s rfl, if_pos (inb_nI hk (by omega)), clamp_nI (by omega), if_pos h1, h2, bd1_s rfl, if_pos (by rw [← h2]; exact h1)]
theorem wordIs_c {b : Nat → Int32} {L s i : Nat} {m : Mem} (h : TC b L (wE b L s) m) (h2 : m 8 0 2 = nI s) (hi : i < 24) : ∃ z, r_X8_wordIs i m = some z ∧ (z = true ↔ WI b L s i) := by
  have hL := h.2.2.2.1.1
  have hge : s ≤ wE b L s := rn_ge _ _ _ _
  have hle : wE b L s ≤ L := h.2.2.1
  have h30 := (strB i hi).1
  have key : Tot (r_X8_wordIs i m) (fun z => z = true ↔ WI b L s i) := by
    unfold r_X8_wordIs
    rw [strLen, if_pos hi, bd1_s (slen_c hi), h.2.1, h2, nI_sub hge]
    by_cases hl : wE b L s - s = (strQ i).2.2.2.length
    · rw [if_pos (by rw [hl])]
      unfold r_X8_wordIs_l20
      rw [tot_bdS]
      refine tot_for (fun k (t : Int32) => t = nI k ∧ ∀ j, j < k → b (s + j) = (strQ i).2.2.2.getD j 0) (strQ i).2.2.2.length ?_ ?_ 0 _ (Nat.zero_le _) ⟨rfl, fun j hj => absurd hj (Nat.not_lt_zero j)⟩
      · rintro k x2 hk ⟨e1, e2⟩
        subst e1
        unfold r_X8_wordIs_b20
        rw [strLen, if_pos hi, bd1_s (slen_c hi), if_neg (nI_ge hk (by omega)), h2, nI_add, if_pos (inb_nI (by omega) (by omega)), clamp_nI (by omega), bd1_s (char_c hi hk), h.2.2.2.2 _ (by omega)]
        by_cases hc : b (s + k) = (strQ i).2.2.2.getD k 0
        · rw [if_pos hc]
          exact tot_some.mpr ⟨(nI_succ k).symm, lt_ex e2 hc⟩
        · rw [if_neg hc]
          refine tot_some.mpr ?_
          show Tot (some false) _
          exact tot_some.mpr ⟨fun e => Bool.noConfusion e, fun q => absurd (q.2 k hk) hc⟩
      · rintro x2 ⟨e1, e2⟩
        subst e1
        unfold r_X8_wordIs_b20
        rw [strLen, if_pos hi, bd1_s (slen_c hi), if_pos (nI_le (Nat.le_refl _) (by omega)), tot_some]
        show Tot (some true) _
        exact tot_some.mpr ⟨fun _ => ⟨hl, e2⟩, fun _ => rfl⟩
    · rw [if_neg (fun q => hl ((nI_eq (by omega) (by omega)).mp q))]
      exact tot_some.mpr ⟨fun e => Bool.noConfusion e, fun q => absurd q.1 hl⟩
  obtain ⟨z, h3, h4⟩ := key
  exact ⟨z, h3, h4⟩
/-- a text as one number -/
def scd (i : Nat) : Nat := kN 27 (fun k => ((strQ i).2.2.2.getD k 0).toNatClampNeg - 97) (strQ i).2.2.2.length
theorem strW : ∀ i, i < 22 → (strQ (1 + i)).2.2.2.length ≤ 6 ∧ ∀ k, k < (strQ (1 + i)).2.2.2.length → r_X8_isLetter ((strQ (1 + i)).2.2.2.getD k 0) = true := by
  unfold r_X8_isLetter
  decide +kernel
theorem wi_cd {b : Nat → Int32} {L s i : Nat} (hi : i < 22) : WI b L s (1 + i) ↔ wcd b L s = nI (scd (1 + i)) := by
  obtain ⟨h1, h2⟩ := strW i hi
  have c' : ∀ k, k < (strQ (1 + i)).2.2.2.length → ((strQ (1 + i)).2.2.2.getD k 0).toNatClampNeg - 97 < 26 ∧ (strQ (1 + i)).2.2.2.getD k 0 = nI (97 + (((strQ (1 + i)).2.2.2.getD k 0).toNatClampNeg - 97)) := fun k hk => by
    obtain ⟨c, hc, e⟩ := lt_k (h2 k hk)
    rw [e, clamp_nI (by omega), show 97 + c - 97 = c by omega]
    exact ⟨hc, rfl⟩
  have lt' : scd (1 + i) < 27 ^ 6 := Nat.lt_of_lt_of_le (kN27_lt _ (fun k hk => (c' k hk).1)) (Nat.pow_le_pow_right (by decide) h1)
  have cl : ∀ k, k < wE b L s - s → ltF (b (s + k)) = true := fun k hk => rn_in (f := ltF) (L := L) (p := s) (i := s + k) (by omega) (show s + k < wE b L s by omega)
  unfold wcd
  constructor
  · rintro ⟨a1, a2⟩
    rw [if_pos (by omega), a1]
    unfold scd
    rw [kN_cong (fun k hk => by unfold lcN; rw [a2 k hk])]
  · intro h
    by_cases hl : wE b L s - s ≤ 6
    · rw [if_pos hl] at h
      have lt2 : kN 27 (lcN b s) (wE b L s - s) < 27 ^ 6 := Nat.lt_of_lt_of_le (kN27_lt _ (fun k hk => (lcN_at (cl k hk)).1)) (Nat.pow_le_pow_right (by decide) hl)
      have e := nI_big (by omega) (by omega) h
      obtain ⟨e1, e2⟩ := kN27_inj _ _ (fun k hk => (lcN_at (cl k hk)).1) (fun k hk => (c' k hk).1) e
      refine ⟨e1, fun k hk => ?_⟩
      rw [(lcN_at (cl k (by omega))).2, (c' k hk).2, e2 k (by omega)]
    · rw [if_neg hl] at h
      exact absurd h.symm (m1_big (by omega))
theorem wordHere_m {b : Nat → Int32} {L p : Nat} {m : Mem} (h : TM b L p m) : Tot (r_X12_wordHere m) (fun q => q.1 = wcd b L (sk b L p) ∧ TM b L (sk b L p) q.2 ∧ Fj [] [(12, 4)] m q.2) := by
  have hL := h.2.2.2.1
  unfold r_X12_wordHere
  rw [tot_bd1]
  refine (blanks_m h).mono ?_
  rintro m2 ⟨h2, h3⟩
  generalize sk b L p = s at h2 ⊢
  have hs : s ≤ L := h2.2.2.1
  have hge : s ≤ wE b L s := rn_ge _ _ _ _
  have hle : wE b L s ≤ L := rn_le hs
  unfold r_X12_wordHere_l8
  rw [tot_bd1]
  refine tot_for (fun k (t : Int32 × Int32) => t.2 = nI k ∧ t.1 = nI (kN 27 (lcN b s) (min k 6))) (wE b L s - s) ?_ ?_ 0 _ (Nat.zero_le _) ⟨rfl, rfl⟩
  · rintro k ⟨x1, x2⟩ hk ⟨e1, e2⟩
    dsimp only at e1 e2 ⊢
    subst e1 e2
    have hlt : ltF (b (s + k)) = true := rn_in (f := ltF) (L := L) (p := s) (i := s + k) (by omega) (show s + k < wE b L s by omega)
    unfold r_X12_wordHere_b8 r_X12_wordHere_j54_c8
    rw [h2.2.1, nI_add, bd1_s (byteAt_m h2 (by omega)), bA_in (by omega), small_eq, if_pos hlt]
    by_cases h6 : 6 ≤ k
    · rw [if_pos (show (6 : Int32) ≤ nI (k) from nI_le (a := 6) (b := k) (by omega) (by omega))]
      refine tot_some.mpr ⟨(nI_succ k).symm, ?_⟩
      dsimp only
      rw [show min (k + 1) 6 = min k 6 by omega]
    · rw [if_neg (show ¬ (6 : Int32) ≤ nI (k) from nI_ge (b := 6) (a := k) (by omega) (by omega)), bd1_s (byteAt_m h2 (by omega)), bA_in (by omega)]
      refine tot_some.mpr ⟨(nI_succ k).symm, ?_⟩
      dsimp only
      rw [show min (k + 1) 6 = k + 1 by omega, show min k 6 = k by omega, (lcN_at hlt).2]
      show nI 27 * nI (kN 27 (lcN b s) k) + nI (97 + lcN b s k) - nI 97 + nI 1 = nI (27 * kN 27 (lcN b s) k + (lcN b s k + 1))
      rw [nI_mul, nI_add, nI_sub (by omega), nI_add]
      rw [show 27 * kN 27 (lcN b s) k + (97 + lcN b s k) - 97 + 1 = 27 * kN 27 (lcN b s) k + (lcN b s k + 1) by omega]
  · rintro ⟨x1, x2⟩ ⟨e1, e2⟩
    dsimp only at e1 e2 ⊢
    subst e1 e2
    unfold r_X12_wordHere_b8
    have hlt : ¬ ltF (bA b L (s + (wE b L s - s))) = true := by
      rw [show s + (wE b L s - s) = wE b L s by omega]
      by_cases hx : wE b L s < L
      · rw [bA_in hx, show ltF (b (wE b L s)) = false from rn_out hx]
        decide
      · rw [bA_out hx]
        decide
    rw [h2.2.1, nI_add, bd1_s (byteAt_m h2 (by omega)), small_eq, if_neg hlt, tot_some]
    show Tot (r_X12_wordHere_e61_h8 _ _ m2) _
    unfold r_X12_wordHere_e61_h8 wcd
    by_cases hl : wE b L s - s ≤ 6
    · rw [if_pos (show nI (wE b L s - s) ≤ 6 from nI_le (b := 6) hl (by omega)), if_pos hl]
      refine tot_some.mpr ⟨?_, h2, h3⟩
      dsimp only
      rw [show min (wE b L s - s) 6 = wE b L s - s by omega]
    · rw [if_neg (show ¬ nI (wE b L s - s) ≤ 6 from nI_ge (b := wE b L s - s) (a := 6) (by omega) (by omega)), if_neg hl]
      exact tot_some.mpr ⟨rfl, h2, h3⟩
theorem isWord_m {b : Nat → Int32} {L p : Nat} {x1 x2 x3 x4 x5 x6 : Int32} {m : Mem} (h : TM b L p m) (h5 : m 12 0 5 = 0) : Tot (r_X12_isWord x1 x2 x3 x4 x5 x6 m) (fun q => q.1 = decide (wcd b L (sk b L p) = r_X12_six x1 x2 x3 x4 x5 x6) ∧ TM b L (sk b L p) q.2 ∧ q.2 12 0 5 = 0 ∧ Fj [] [(12, 4)] m q.2) := by
  unfold r_X12_isWord
  rw [if_pos h5, tot_bd2]
  refine (wordHere_m h).mono ?_
  rintro ⟨z, m2⟩ ⟨g1, g2, g3⟩
  dsimp only at g1 g2 g3 ⊢
  have f5 : m2 12 0 5 = 0 := by rw [g3 12 0 5 (by simp) (by simp)]; exact h5
  rw [g1]
  by_cases hz : wcd b L (sk b L p) = r_X12_six x1 x2 x3 x4 x5 x6
  · rw [if_pos hz]
    exact tot_some.mpr ⟨(decide_eq_true hz).symm, g2, f5, g3⟩
  · rw [if_neg hz]
    exact tot_some.mpr ⟨(decide_eq_false hz).symm, g2, f5, g3⟩
theorem skipW_m {b : Nat → Int32} {L s : Nat} {m : Mem} (h : TM b L s m) : Tot (r_X12_skipWord m) (fun m' => TM b L (wE b L s) m' ∧ Fj [] [(12, 4)] m m') := by
  have hL := h.2.2.2.1
  have hsL : wE b L s ≤ L := rn_le h.2.2.1
  unfold r_X12_skipWord r_X12_skipWord_l0
  rw [tot_bd1]
  refine tot_for (fun k (t : Mem) => s ≤ k ∧ TM b L k t ∧ Fj [] [(12, 4)] m t) (wE b L s) ?_ ?_ s _ (rn_ge _ _ _ _) ⟨Nat.le_refl _, h, Fj.rf⟩
  · rintro k m1 hk ⟨e1, e2, hF⟩
    have h32 : ltF (b k) = true := rn_in e1 hk
    unfold r_X12_skipWord_b0
    rw [e2.2.1, bd1_s (byteAt_m e2 (by omega)), bA_in (by omega), small_eq, if_pos h32]
    have hF2 : Fj [] [(12, 4)] m1 (wr m1 12 0 4 (nI k + 1)) := Fj.rf.wrJ (by simp) _ _
    exact tot_some.mpr ⟨by omega, e2.mv hF2 (by simp) (by decide) (by rw [wr_eq, nI_succ]) (by omega), hF.tr hF2⟩
  · rintro m1 ⟨e1, e2, hF⟩
    unfold r_X12_skipWord_b0
    have hlt : ¬ ltF (bA b L (wE b L s)) = true := by
      by_cases hx : wE b L s < L
      · rw [bA_in hx, show ltF (b (wE b L s)) = false from rn_out hx]
        decide
      · rw [bA_out hx]
        decide
    rw [e2.2.1, bd1_s (byteAt_m e2 (by omega)), small_eq, if_neg hlt, tot_some]
    exact tot_some.mpr ⟨e2, hF⟩
