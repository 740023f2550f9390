/-! ===== the reference: the clauses one after the other, and the land anew ===== -/
theorem lz_60 {b : Nat → Int32} {L n : Nat} (h : ∀ j, j < n → (lzE b L j).1 = 0) : n ≤ 60 := by
  by_cases hn : n ≤ 60
  · exact hn
  · exact absurd rfl ((lz_W (b := b) (L := L) 60 (fun i hi => h i (by omega))).cl (h 60 (by omega))).2.2.1
def NL (b : Nat → Int32) (L j : Nat) (m0 m : Mem) : Prop := TM b L (lz b L j).2 m ∧ m 12 0 5 = 0 ∧ m 12 0 7 = nI j ∧ LM (lz b L j).1 m ∧ Fj KLm JLm m0 m
theorem stepL_m {b : Nat → Int32} {L j : Nat} {m0 m : Mem} (h : NL b L j m0 m) (hx : (lz b L j).2 < L) (hj : j ≤ 60) (hW : LW (lz b L j).1) : Tot (r_X12_land_b42 m) (Sum.elim (fun t => ((lzE b L j).1 = 0 → NL b L (j + 1) m0 t) ∧ (¬ (lzE b L j).1 = 0 → FtM b L (lzE b L j).1 (lzE b L j).2 t ∧ Fj KLm JLm m0 t)) (fun _ => False)) := by
  obtain ⟨t, h5, h7, hM, hF⟩ := h
  have hL := t.2.2.2.1
  unfold r_X12_land_b42
  rw [if_pos h5, t.1, t.2.1, if_neg (nI_ge hx (by omega)), tot_bd1]
  refine (clause_m t (lz_sk j) h5 h7 hj hW hM).mono ?_
  rintro m2 ⟨a1, a2, a3⟩
  have hF2 := hF.tr a3
  rw [tot_bd1]
  by_cases hE : (lzE b L j).1 = 0
  · obtain ⟨b1, b2, b3, b4⟩ := a1 hE
    refine (blanks_m b1).mono ?_
    rintro m3 ⟨d1, d2⟩
    exact tot_some.mpr ⟨fun _ => ⟨d1, by rw [d2 12 0 5 (by simp) (by simp)]; exact b2, by rw [d2 12 0 7 (by simp) (by simp)]; exact b3, b4.fj d2 (by simp) (by decide), hF2.tr (d2.mono (by simp) (by simp))⟩, fun q => absurd hE q⟩
  · refine (a2 hE).bl.mono ?_
    rintro m3 ⟨d1, d2⟩
    exact tot_some.mpr ⟨fun q => absurd q hE, fun _ => ⟨d1, hF2.tr (d2.mono (by simp) (by simp))⟩⟩
theorem loopL_m {b : Nat → Int32} {L n : Nat} {ok : Bool} {m : Mem} (t : TM b L (sk b L 0) m) (h5 : m 12 0 5 = 0) (h7 : m 12 0 7 = 0) (hM : LM bad0 m) (hn : Ln b L n ok) : Tot (loopO (fun s => r_X12_land_b42 s) m) (fun m' => (ok = true → m' 12 0 5 = 0 ∧ LM (lz b L n).1 m') ∧ (ok = false → FtM b L (lzE b L n).1 (lzE b L n).2 m') ∧ Fj KLm JLm m m') := by
  have hL := t.2.2.2.1
  have N0 : NL b L 0 m m := ⟨t, h5, h7, hM, Fj.rf⟩
  have hle : n ≤ 60 := lz_60 (fun j hj => (hn.1 j hj).2)
  rcases hn with ⟨hn1, ⟨ho, hx⟩ | ⟨ho, hx, hE⟩⟩
  · subst ho
    refine tot_for (fun j (t : Mem) => NL b L j m t) n ?_ ?_ 0 _ (Nat.zero_le _) N0
    · rintro j m1 hj hN
      refine (stepL_m hN (hn1 j hj).1 (by omega) (lz_W j (fun i hi => (hn1 i (by omega)).2))).mono ?_
      rintro (t | t) ht
      · exact ht.1 (hn1 j hj).2
      · exact ht.elim
    · rintro m1 ⟨n3, n4, n5, n6, hF⟩
      have hpl : (lz b L n).2 ≤ L := n3.2.2.1
      unfold r_X12_land_b42
      rw [if_pos n4, n3.1, n3.2.1, if_pos (nI_le (by omega) (by omega)), tot_some]
      exact ⟨fun _ => ⟨n4, n6⟩, fun e => Bool.noConfusion e, hF⟩
  · subst ho
    refine tot_for (fun j (t : Mem) => (j ≤ n → NL b L j m t) ∧ (n < j → FtM b L (lzE b L n).1 (lzE b L n).2 t ∧ Fj KLm JLm m t)) (n + 1) ?_ ?_ 0 _ (Nat.zero_le _) ⟨fun _ => N0, fun h => absurd h (Nat.not_lt_zero n)⟩
    · rintro j m1 hj ⟨hN, -⟩
      have hxj : (lz b L j).2 < L := by
        by_cases e : j = n
        · rw [e]
          exact hx
        · exact (hn1 j (by omega)).1
      refine (stepL_m (hN (by omega)) hxj (by omega) (lz_W j (fun i hi => (hn1 i (by omega)).2))).mono ?_
      rintro (t | t) ht
      · refine ⟨fun hle2 => ht.1 (hn1 j (by omega)).2, fun hlt => ?_⟩
        have e : j = n := by omega
        subst e
        exact ht.2 hE
      · exact ht.elim
    · rintro m1 ⟨-, hT⟩
      obtain ⟨d, hF⟩ := hT (by omega)
      unfold r_X12_land_b42
      rw [if_neg (by rw [d.1]; exact d.2.1), tot_some]
      exact ⟨fun e => Bool.noConfusion e, fun _ => d, hF⟩
abbrev KY63 : List (Nat × Nat) := [(63, 0), (63, 1), (63, 2), (63, 3), (63, 4), (63, 5), (63, 6), (63, 7), (63, 8), (63, 9), (63, 10), (63, 11), (63, 12), (63, 13), (63, 14), (63, 15)]
theorem inY63 : ∀ a, a < 16 → (63, a) ∈ KY63 := by decide
theorem lays63 {m : Mem} {n : Nat} (hn : n ≤ 16) : Tot (r_X12_lays_62_64 (nI n) m) (fun m' => (∀ i, i < n → ∀ c, c < 2 → m' 63 i c = m 61 i c) ∧ Fj KY63 [] m m') := by
  unfold r_X12_lays_62_64 r_X12_lays_62_64_l2
  rw [tot_bd1]
  refine tot_for (fun k (t : Int32 × Mem) => t.1 = nI k ∧ (∀ i, i < k → ∀ c, c < 2 → t.2 63 i c = m 61 i c) ∧ Fj KY63 [] m t.2) n ?_ ?_ 0 _ (Nat.zero_le _) ⟨rfl, fun i h => absurd h (Nat.not_lt_zero i), Fj.rf⟩
  · rintro k ⟨x3, m1⟩ hk ⟨e1, e2, hF⟩
    dsimp only at e1 e2 hF ⊢
    subst e1
    unfold r_X12_lays_62_64_b2 r_X12_lays_62_64_l10_c2
    rw [if_neg (nI_ge hk (by omega)), tot_bd1]
    refine tot_for (fun l (t : Int32 × Mem) => t.1 = nI l ∧ (∀ c, c < l → t.2 63 k c = m 61 k c) ∧ (∀ i, ¬ i = k → t.2 63 i = m1 63 i) ∧ Fj KY63 [] m t.2) 2 ?_ ?_ 0 _ (Nat.zero_le _) ⟨rfl, fun c h => absurd h (Nat.not_lt_zero c), fun _ _ => rfl, hF⟩
    · rintro l ⟨x4, m2⟩ hl ⟨f1, f2, f3, hF2⟩
      dsimp only at f1 f2 f3 hF2 ⊢
      subst f1
      unfold r_X12_lays_62_64_b10_c2
      rw [if_pos (inb_nI (k := k) (by omega) (by omega)), if_neg (show ¬ (2 : Int32) ≤ nI (l) from nI_ge (b := 2) (a := l) (by omega) (by omega)), if_pos (inb_nI (k := l) (by omega) (by omega)), clamp_nI (k := k) (by omega), clamp_nI (k := l) (by omega), hF2 61 k l (by simp) (by simp)]
      refine tot_some.mpr ⟨(nI_succ l).symm, fun c hc => ?_, fun i hi => ?_, hF2.wrK (inY63 k (by omega)) _ _⟩
      · dsimp only
        rw [wr_if]
        by_cases h : c = l
        · rw [if_pos h, h]
        · rw [if_neg h]
          exact f2 c (by omega)
      · dsimp only
        rw [← f3 i hi]
        funext c
        exact wr_i hi
    · rintro ⟨x4, m2⟩ ⟨f1, f2, f3, hF2⟩
      dsimp only at f1 f2 f3 hF2 ⊢
      subst f1
      unfold r_X12_lays_62_64_b10_c2
      rw [if_pos (inb_nI (k := k) (by omega) (by omega)), if_pos (by decide), tot_some]
      refine tot_some.mpr ⟨(nI_succ k).symm, fun i hi c hc => ?_, hF2⟩
      dsimp only
      by_cases h : i = k
      · rw [h]
        exact f2 c hc
      · rw [f3 i h]
        exact e2 i (by omega) c hc
  · rintro ⟨x3, m1⟩ ⟨e1, e2, hF⟩
    dsimp only at e1 e2 hF ⊢
    subst e1
    unfold r_X12_lays_62_64_b2
    rw [if_pos (nI_le (Nat.le_refl _) (by omega)), tot_some]
    exact tot_some.mpr ⟨e2, hF⟩
abbrev KY67 : List (Nat × Nat) := [(67, 0), (67, 1), (67, 2), (67, 3), (67, 4), (67, 5)]
theorem inY67 : ∀ a, a < 6 → (67, a) ∈ KY67 := by decide
theorem lays67 {m : Mem} {n : Nat} (hn : n ≤ 6) : Tot (r_X12_lays_66_68 (nI n) m) (fun m' => (∀ i, i < n → ∀ c, c < 2 → m' 67 i c = m 65 i c) ∧ Fj KY67 [] m m') := by
  unfold r_X12_lays_66_68 r_X12_lays_66_68_l2
  rw [tot_bd1]
  refine tot_for (fun k (t : Int32 × Mem) => t.1 = nI k ∧ (∀ i, i < k → ∀ c, c < 2 → t.2 67 i c = m 65 i c) ∧ Fj KY67 [] m t.2) n ?_ ?_ 0 _ (Nat.zero_le _) ⟨rfl, fun i h => absurd h (Nat.not_lt_zero i), Fj.rf⟩
  · rintro k ⟨x3, m1⟩ hk ⟨e1, e2, hF⟩
    dsimp only at e1 e2 hF ⊢
    subst e1
    unfold r_X12_lays_66_68_b2 r_X12_lays_66_68_l10_c2
    rw [if_neg (nI_ge hk (by omega)), tot_bd1]
    refine tot_for (fun l (t : Int32 × Mem) => t.1 = nI l ∧ (∀ c, c < l → t.2 67 k c = m 65 k c) ∧ (∀ i, ¬ i = k → t.2 67 i = m1 67 i) ∧ Fj KY67 [] m t.2) 2 ?_ ?_ 0 _ (Nat.zero_le _) ⟨rfl, fun c h => absurd h (Nat.not_lt_zero c), fun _ _ => rfl, hF⟩
    · rintro l ⟨x4, m2⟩ hl ⟨f1, f2, f3, hF2⟩
      dsimp only at f1 f2 f3 hF2 ⊢
      subst f1
      unfold r_X12_lays_66_68_b10_c2
      rw [if_pos (inb_nI (k := k) (by omega) (by omega)), if_neg (show ¬ (2 : Int32) ≤ nI (l) from nI_ge (b := 2) (a := l) (by omega) (by omega)), if_pos (inb_nI (k := l) (by omega) (by omega)), clamp_nI (k := k) (by omega), clamp_nI (k := l) (by omega), hF2 65 k l (by simp) (by simp)]
      refine tot_some.mpr ⟨(nI_succ l).symm, fun c hc => ?_, fun i hi => ?_, hF2.wrK (inY67 k (by omega)) _ _⟩
      · dsimp only
        rw [wr_if]
        by_cases h : c = l
        · rw [if_pos h, h]
        · rw [if_neg h]
          exact f2 c (by omega)
      · dsimp only
        rw [← f3 i hi]
        funext c
        exact wr_i hi
    · rintro ⟨x4, m2⟩ ⟨f1, f2, f3, hF2⟩
      dsimp only at f1 f2 f3 hF2 ⊢
      subst f1
      unfold r_X12_lays_66_68_b10_c2
      rw [if_pos (inb_nI (k := k) (by omega) (by omega)), if_pos (by decide), tot_some]
      refine tot_some.mpr ⟨(nI_succ k).symm, fun i hi c hc => ?_, hF2⟩
      dsimp only
      by_cases h : i = k
      · rw [h]
        exact f2 c hc
      · rw [f3 i h]
        exact e2 i (by omega) c hc
  · rintro ⟨x3, m1⟩ ⟨e1, e2, hF⟩
    dsimp only at e1 e2 hF ⊢
    subst e1
    unfold r_X12_lays_66_68_b2
    rw [if_pos (nI_le (Nat.le_refl _) (by omega)), tot_some]
    exact tot_some.mpr ⟨e2, hF⟩
abbrev KY71 : List (Nat × Nat) := [(71, 0), (71, 1), (71, 2), (71, 3), (71, 4), (71, 5)]
theorem inY71 : ∀ a, a < 6 → (71, a) ∈ KY71 := by decide
theorem lays71 {m : Mem} {n : Nat} (hn : n ≤ 6) : Tot (r_X12_lays_70_72 (nI n) m) (fun m' => (∀ i, i < n → ∀ c, c < 12 → m' 71 i c = m 69 i c) ∧ Fj KY71 [] m m') := by
  unfold r_X12_lays_70_72 r_X12_lays_70_72_l2
  rw [tot_bd1]
  refine tot_for (fun k (t : Int32 × Mem) => t.1 = nI k ∧ (∀ i, i < k → ∀ c, c < 12 → t.2 71 i c = m 69 i c) ∧ Fj KY71 [] m t.2) n ?_ ?_ 0 _ (Nat.zero_le _) ⟨rfl, fun i h => absurd h (Nat.not_lt_zero i), Fj.rf⟩
  · rintro k ⟨x3, m1⟩ hk ⟨e1, e2, hF⟩
    dsimp only at e1 e2 hF ⊢
    subst e1
    unfold r_X12_lays_70_72_b2 r_X12_lays_70_72_l10_c2
    rw [if_neg (nI_ge hk (by omega)), tot_bd1]
    refine tot_for (fun l (t : Int32 × Mem) => t.1 = nI l ∧ (∀ c, c < l → t.2 71 k c = m 69 k c) ∧ (∀ i, ¬ i = k → t.2 71 i = m1 71 i) ∧ Fj KY71 [] m t.2) 12 ?_ ?_ 0 _ (Nat.zero_le _) ⟨rfl, fun c h => absurd h (Nat.not_lt_zero c), fun _ _ => rfl, hF⟩
    · rintro l ⟨x4, m2⟩ hl ⟨f1, f2, f3, hF2⟩
      dsimp only at f1 f2 f3 hF2 ⊢
      subst f1
      unfold r_X12_lays_70_72_b10_c2
      rw [if_pos (inb_nI (k := k) (by omega) (by omega)), if_neg (show ¬ (12 : Int32) ≤ nI (l) from nI_ge (b := 12) (a := l) (by omega) (by omega)), if_pos (inb_nI (k := l) (by omega) (by omega)), clamp_nI (k := k) (by omega), clamp_nI (k := l) (by omega), hF2 69 k l (by simp) (by simp)]
      refine tot_some.mpr ⟨(nI_succ l).symm, fun c hc => ?_, fun i hi => ?_, hF2.wrK (inY71 k (by omega)) _ _⟩
      · dsimp only
        rw [wr_if]
        by_cases h : c = l
        · rw [if_pos h, h]
        · rw [if_neg h]
          exact f2 c (by omega)
      · dsimp only
        rw [← f3 i hi]
        funext c
        exact wr_i hi
    · rintro ⟨x4, m2⟩ ⟨f1, f2, f3, hF2⟩
      dsimp only at f1 f2 f3 hF2 ⊢
      subst f1
      unfold r_X12_lays_70_72_b10_c2
      rw [if_pos (inb_nI (k := k) (by omega) (by omega)), if_pos (by decide), tot_some]
      refine tot_some.mpr ⟨(nI_succ k).symm, fun i hi c hc => ?_, hF2⟩
      dsimp only
      by_cases h : i = k
      · rw [h]
        exact f2 c hc
      · rw [f3 i h]
        exact e2 i (by omega) c hc
  · rintro ⟨x3, m1⟩ ⟨e1, e2, hF⟩
    dsimp only at e1 e2 hF ⊢
    subst e1
    unfold r_X12_lays_70_72_b2
    rw [if_pos (nI_le (Nat.le_refl _) (by omega)), tot_some]
    exact tot_some.mpr ⟨e2, hF⟩

abbrev KBg : List (Nat × Nat) := [(52, 0), (54, 0), (60, 0), (63, 0), (63, 1), (63, 2), (63, 3), (63, 4), (63, 5), (63, 6), (63, 7), (63, 8), (63, 9), (63, 10), (63, 11), (63, 12), (63, 13), (63, 14), (63, 15), (67, 0), (67, 1), (67, 2), (67, 3), (67, 4), (67, 5), (71, 0), (71, 1), (71, 2), (71, 3), (71, 4), (71, 5)]
abbrev JBg : List (Nat × Nat) := [(12, 21), (12, 35), (12, 36), (12, 37), (12, 38)]
/-- the reference's land anew -/
def BgP (S : Wd) (m : Mem) : Prop := (∀ k, k < 4 → m 52 0 k = S 0 k) ∧ (∀ a, a < wP S → m 54 0 a = S 1 a) ∧ (∀ e, e < wD S → m 63 e 0 = S 2 e ∧ m 63 e 1 = S 3 e) ∧ (∀ p, p < wN S → m 67 p 0 = S 4 p ∧ m 67 p 1 = S 5 p) ∧ (∀ q, q < 72 → m 60 0 q = S 6 q) ∧ (∀ p, p < wN S → m 60 0 (72 + p) = S 5 p) ∧ (∀ j, 78 ≤ j → j < 111 → m 60 0 j = 0) ∧ m 12 0 21 = 0 ∧ m 12 0 35 = 0 ∧ m 12 0 36 = 0 ∧ m 12 0 37 = 0 ∧ m 12 0 38 = 0
theorem bg1 {m : Mem} : Tot (loopO (fun s => r_X12_beginsAnew_b2 s.1 s.2) (0, m)) (fun m' => (∀ k, k < 4 → m' 52 0 k = m 51 0 k) ∧ Fr [(52, 0)] m m') := by
  refine tot_for (fun k (t : Int32 × Mem) => t.1 = nI k ∧ (∀ a, a < k → t.2 52 0 a = m 51 0 a) ∧ Fr [(52, 0)] m t.2) 4 ?_ ?_ 0 _ (Nat.zero_le _) ⟨rfl, fun a h => absurd h (Nat.not_lt_zero a), Fr.rf⟩
  · rintro k ⟨x1, m1⟩ hk ⟨e1, e2, hF⟩
    dsimp only at e1 e2 hF ⊢
    subst e1
    unfold r_X12_beginsAnew_b2
    rw [if_neg (show ¬ (4 : Int32) ≤ nI (k) from nI_ge (b := 4) (a := k) (by omega) (by omega)), if_pos (inb_nI (by omega) (by omega)), clamp_nI (by omega), hF 51 0 (by simp)]
    refine tot_some.mpr ⟨(nI_succ k).symm, fun a ha => ?_, hF.wr (by simp) _ _⟩
    dsimp only
    rw [wr_if]
    by_cases hak : a = k
    · rw [if_pos hak, hak]
    · rw [if_neg hak]
      exact e2 a (by omega)
  · rintro ⟨x1, m1⟩ ⟨e1, e2, hF⟩
    dsimp only at e1 e2 hF ⊢
    subst e1
    unfold r_X12_beginsAnew_b2
    rw [if_pos (by decide)]
    exact tot_some.mpr ⟨e2, hF⟩
theorem bg2 {m : Mem} {P : Nat} (hP : m 52 0 0 = nI P) (h12 : P ≤ 12) : Tot (loopO (fun s => r_X12_beginsAnew_b27 s.1 s.2) (0, m)) (fun m' => (∀ k, k < P → m' 54 0 k = m 53 0 k) ∧ Fr [(54, 0)] m m') := by
  refine tot_for (fun k (t : Int32 × Mem) => t.1 = nI k ∧ (∀ a, a < k → t.2 54 0 a = m 53 0 a) ∧ Fr [(54, 0)] m t.2) P ?_ ?_ 0 _ (Nat.zero_le _) ⟨rfl, fun a h => absurd h (Nat.not_lt_zero a), Fr.rf⟩
  · rintro k ⟨x1, m1⟩ hk ⟨e1, e2, hF⟩
    dsimp only at e1 e2 hF ⊢
    subst e1
    unfold r_X12_beginsAnew_b27
    rw [hF 52 0 (by simp), hP, if_neg (nI_ge hk (by omega)), if_pos (inb_nI (by omega) (by omega)), clamp_nI (by omega), hF 53 0 (by simp)]
    refine tot_some.mpr ⟨(nI_succ k).symm, fun a ha => ?_, hF.wr (by simp) _ _⟩
    dsimp only
    rw [wr_if]
    by_cases hak : a = k
    · rw [if_pos hak, hak]
    · rw [if_neg hak]
      exact e2 a (by omega)
  · rintro ⟨x1, m1⟩ ⟨e1, e2, hF⟩
    dsimp only at e1 e2 hF ⊢
    subst e1
    unfold r_X12_beginsAnew_b27
    rw [hF 52 0 (by simp), hP, if_pos (nI_le (Nat.le_refl _) (by omega))]
    exact tot_some.mpr ⟨e2, hF⟩
theorem bg3 {m : Mem} : Tot (loopO (fun s => r_X12_beginsAnew_b104 s.1 s.2) (0, m)) (fun m' => (∀ k, k < 111 → m' 60 0 k = 0) ∧ Fr [(60, 0)] m m') := by
  refine tot_for (fun k (t : Int32 × Mem) => t.1 = nI k ∧ (∀ a, a < k → t.2 60 0 a = 0) ∧ Fr [(60, 0)] m t.2) 111 ?_ ?_ 0 _ (Nat.zero_le _) ⟨rfl, fun a h => absurd h (Nat.not_lt_zero a), Fr.rf⟩
  · rintro k ⟨x1, m1⟩ hk ⟨e1, e2, hF⟩
    dsimp only at e1 e2 hF ⊢
    subst e1
    unfold r_X12_beginsAnew_b104
    rw [if_neg (show ¬ (111 : Int32) ≤ nI (k) from nI_ge (b := 111) (a := k) (by omega) (by omega)), if_pos (inb_nI (by omega) (by omega)), clamp_nI (by omega)]
    refine tot_some.mpr ⟨(nI_succ k).symm, fun a ha => ?_, hF.wr (by simp) _ _⟩
    dsimp only
    rw [wr_if]
    by_cases hak : a = k
    · rw [if_pos hak]
    · rw [if_neg hak]
      exact e2 a (by omega)
  · rintro ⟨x1, m1⟩ ⟨e1, e2, hF⟩
    dsimp only at e1 e2 hF ⊢
    subst e1
    unfold r_X12_beginsAnew_b104
    rw [if_pos (by decide)]
    exact tot_some.mpr ⟨e2, hF⟩
theorem ix72 (p : Nat) : (72 : Int32) + nI p = nI (72 + p) := nI_add 72 p
/-- the persons' rows -/
def PR (m : Mem) (N k : Nat) (r : Nat → Int32) : Prop := (∀ p a, p < k → a < 12 → r (12 * p + a) = m 71 p a) ∧ (∀ p, p < k → p < N → r (72 + p) = m 67 p 1) ∧ ∀ j, 78 ≤ j → j < 111 → r j = 0
theorem bg4i {m m1 : Mem} {N k : Nat} (hk : k < 6) (h1 : PR m N k (m1 60 0)) (h2 : k < N → m1 60 0 (72 + k) = m 67 k 1) (hF : Fr [(60, 0)] m m1) : Tot (r_X12_beginsAnew_l164_c125 (nI k) 0 m1) (Sum.elim (fun t => t.1 = nI (k + 1) ∧ PR m N (k + 1) (t.2 60 0) ∧ Fr [(60, 0)] m t.2) (fun _ => False)) := by
  unfold r_X12_beginsAnew_l164_c125
  rw [tot_bd1]
  refine tot_for (fun l (t : Int32 × Mem) => t.1 = nI l ∧ (∀ a, a < l → t.2 60 0 (12 * k + a) = m 71 k a) ∧ (∀ j, ¬ (12 * k ≤ j ∧ j < 12 * k + 12) → t.2 60 0 j = m1 60 0 j) ∧ Fr [(60, 0)] m t.2) 12 ?_ ?_ 0 _ (Nat.zero_le _) ⟨rfl, fun a h => absurd h (Nat.not_lt_zero a), fun _ _ => rfl, hF⟩
  · rintro l ⟨x2, m2⟩ hl ⟨e1, e2, e3, hF2⟩
    dsimp only at e1 e2 e3 hF2 ⊢
    subst e1
    unfold r_X12_beginsAnew_b164_c125
    rw [if_neg (show ¬ (12 : Int32) ≤ nI (l) from nI_ge (b := 12) (a := l) (by omega) (by omega)), ix12', if_pos (inb_nI (k := k) (by omega) (by omega)), if_pos (inb_nI (k := l) (by omega) (by omega)), if_pos (inb_nI (k := 12 * k + l) (by omega) (by omega)), clamp_nI (k := 12 * k + l) (by omega), clamp_nI (k := k) (by omega), clamp_nI (k := l) (by omega), hF2 71 k (by simp)]
    refine tot_some.mpr ⟨(nI_succ l).symm, fun a ha => ?_, fun j hj => ?_, hF2.wr (by simp) _ _⟩
    · dsimp only
      rw [wr_if]
      by_cases h : a = l
      · rw [if_pos (by omega), h]
      · rw [if_neg (by omega)]
        exact e2 a (by omega)
    · dsimp only
      rw [wr_if, if_neg (by omega)]
      exact e3 j hj
  · rintro ⟨x2, m2⟩ ⟨e1, e2, e3, hF2⟩
    dsimp only at e1 e2 e3 hF2 ⊢
    subst e1
    unfold r_X12_beginsAnew_b164_c125
    rw [if_pos (by decide), tot_some]
    show Tot (r_X12_beginsAnew_e197_h164_c125 (nI k) m2) _
    unfold r_X12_beginsAnew_e197_h164_c125
    refine tot_some.mpr ⟨(nI_succ k).symm, ⟨fun p a hp ha => ?_, fun p hp hpN => ?_, fun j h3 h4 => ?_⟩, hF2⟩
    · dsimp only
      by_cases h : p = k
      · rw [h]
        exact e2 a ha
      · rw [e3 _ (by omega)]
        exact h1.1 p a (by omega) ha
    · dsimp only
      rw [e3 _ (by omega)]
      by_cases h : p = k
      · rw [h]
        rw [h] at hpN
        exact h2 hpN
      · exact h1.2.1 p (by omega) hpN
    · dsimp only
      rw [e3 _ (by omega)]
      exact h1.2.2 j h3 h4
theorem bg4 {m : Mem} {N : Nat} (hN : m 52 0 2 = nI N) (h6 : N ≤ 6) (h0 : ∀ k, k < 111 → m 60 0 k = 0) : Tot (loopO (fun s => r_X12_beginsAnew_b125 s.1 s.2) (0, m)) (fun m' => PR m N 6 (m' 60 0) ∧ Fr [(60, 0)] m m') := by
  refine tot_for (fun k (t : Int32 × Mem) => t.1 = nI k ∧ PR m N k (t.2 60 0) ∧ Fr [(60, 0)] m t.2) 6 ?_ ?_ 0 _ (Nat.zero_le _) ⟨rfl, ⟨fun p a h => absurd h (Nat.not_lt_zero p), fun p h => absurd h (Nat.not_lt_zero p), fun j _ h => h0 j h⟩, Fr.rf⟩
  · rintro k ⟨x1, m1⟩ hk ⟨e1, e2, hF⟩
    dsimp only at e1 e2 hF ⊢
    subst e1
    have up : ∀ x : Int32, PR m N k (wr m1 60 0 (72 + k) x 60 0) := fun x => ⟨fun p a hp ha => by rw [wr_j (by omega)]; exact e2.1 p a hp ha, fun p hp hpN => by rw [wr_j (by omega)]; exact e2.2.1 p hp hpN, fun j h3 h4 => by rw [wr_j (by omega)]; exact e2.2.2 j h3 h4⟩
    unfold r_X12_beginsAnew_b125 r_X12_beginsAnew_j161_c125
    rw [if_neg (show ¬ (6 : Int32) ≤ nI (k) from nI_ge (b := 6) (a := k) (by omega) (by omega)), hF 52 0 (by simp), hN, ix72, if_pos (inb_nI (k := 72 + k) (by omega) (by omega)), clamp_nI (k := 72 + k) (by omega)]
    by_cases hkN : N ≤ k
    · rw [if_pos (nI_le hkN (by omega))]
      refine (bg4i hk (up _) (fun h => by omega) (hF.wr (by simp) _ _)).mono ?_
      rintro (t | t) ht
      · exact ht
      · exact ht.elim
    · rw [if_neg (nI_ge (by omega) (by omega)), if_pos (inb_nI (k := k) (by omega) (by omega)), clamp_nI (k := k) (by omega), if_pos (inb_nI (k := 72 + k) (by omega) (by omega)), hF 67 k (by simp)]
      refine (bg4i hk (up _) (fun h => wr_eq _ _ _ _ _) (hF.wr (by simp) _ _)).mono ?_
      rintro (t | t) ht
      · exact ht
      · exact ht.elim
  · rintro ⟨x1, m1⟩ ⟨e1, e2, hF⟩
    dsimp only at e1 e2 hF ⊢
    subst e1
    unfold r_X12_beginsAnew_b125
    rw [if_pos (by decide)]
    exact tot_some.mpr ⟨e2, hF⟩
set_option maxHeartbeats 1000000 in
theorem begins_m {S : Wd} {m : Mem} (hW : LW S) (hM : LM S m) : Tot (r_X12_beginsAnew m) (fun m' => BgP S m' ∧ Fj KBg JBg m m') := by
  have hP := hW.1
  have hD := hW.2.1
  have hN := hW.2.2.1
  unfold r_X12_beginsAnew r_X12_beginsAnew_l2
  rw [tot_bd1]
  refine bg1.mono ?_
  rintro m1 ⟨a1, a2⟩
  unfold r_X12_beginsAnew_e25_h2 r_X12_beginsAnew_l27
  have v52 : ∀ k, k < 4 → m1 52 0 k = S 0 k := fun k hk => (a1 k hk).trans (hM.1 k hk)
  rw [tot_bd1]
  refine (bg2 (P := wP S) ((v52 0 (by omega)).trans hP.1) hP.2).mono ?_
  rintro m2 ⟨b1, b2⟩
  unfold r_X12_beginsAnew_e55_h27
  have q1 : m2 52 0 1 = nI (wD S) := by
    rw [b2 52 0 (by simp)]
    exact (v52 1 (by omega)).trans hD.1
  rw [q1, tot_bd1]
  refine (lays63 hD.2).mono ?_
  rintro m3 ⟨d1, d2⟩
  have q2 : m3 52 0 2 = nI (wN S) := by
    rw [d2 52 0 2 (by simp) (by simp), b2 52 0 (by simp)]
    exact (v52 2 (by omega)).trans hN.1
  rw [q2, tot_bd1]
  refine (lays67 hN.2).mono ?_
  rintro m4 ⟨e1, e2⟩
  rw [tot_bd1]
  refine (lays71 (n := 6) (by omega)).mono ?_
  rintro m5 ⟨f1, f2⟩
  unfold r_X12_beginsAnew_l104
  rw [tot_bd1]
  refine bg3.mono ?_
  rintro m6 ⟨g1, g2⟩
  unfold r_X12_beginsAnew_e123_h104 r_X12_beginsAnew_l125
  have q6 : m6 52 0 2 = nI (wN S) := by
    rw [g2 52 0 (by simp), f2 52 0 2 (by simp) (by simp), e2 52 0 2 (by simp) (by simp)]
    exact q2
  rw [tot_bd1]
  refine (bg4 q6 hN.2 g1).mono ?_
  rintro m7 ⟨h1, h2⟩
  unfold r_X12_beginsAnew_e203_h125
  have F3 : Fj KBg JBg m m3 := ((a2.mono (by simp)).j.tr (b2.mono (by simp)).j).tr (d2.mono (by simp) (by simp))
  have F5 : Fj KBg JBg m m5 := (F3.tr (e2.mono (by simp) (by simp))).tr (f2.mono (by simp) (by simp))
  have F7 : Fj KBg JBg m m7 := (F5.tr (g2.mono (by simp)).j).tr (h2.mono (by simp)).j
  refine tot_some.mpr ⟨⟨fun k hk => ?_, fun a ha => ?_, fun e he => ?_, fun p hp => ?_, fun q hq => ?_, fun p hp => ?_, fun j h3 h4 => ?_, ?_, ?_, ?_, ?_, ?_⟩, ((((F7.wrJ (by simp) _ _).wrJ (by simp) _ _).wrJ (by simp) _ _).wrJ (by simp) _ _).wrJ (by simp) _ _⟩
  · rw [wr_k (by decide), wr_k (by decide), wr_k (by decide), wr_k (by decide), wr_k (by decide), h2 52 0 (by simp), g2 52 0 (by simp), f2 52 0 k (by simp) (by simp), e2 52 0 k (by simp) (by simp), d2 52 0 k (by simp) (by simp), b2 52 0 (by simp)]
    exact v52 k hk
  · rw [wr_k (by decide), wr_k (by decide), wr_k (by decide), wr_k (by decide), wr_k (by decide), h2 54 0 (by simp), g2 54 0 (by simp), f2 54 0 a (by simp) (by simp), e2 54 0 a (by simp) (by simp), d2 54 0 a (by simp) (by simp), b1 a ha, a2 53 0 (by simp)]
    exact hM.2.1 a ha
  · have hy : ∀ c, c < 2 → wr (wr (wr (wr (wr m7 12 0 21 0) 12 0 35 0) 12 0 36 0) 12 0 37 0) 12 0 38 0 63 e c = m 61 e c := fun c hc => by
      rw [wr_k (by decide), wr_k (by decide), wr_k (by decide), wr_k (by decide), wr_k (by decide), h2 63 e (by simp), g2 63 e (by simp), f2 63 e c (by simp) (by simp), e2 63 e c (by simp) (by simp), d1 e he c hc, b2 61 e (by simp), a2 61 e (by simp)]
    rw [hy 0 (by omega), hy 1 (by omega)]
    exact hM.2.2.1 e he
  · have hy : ∀ c, c < 2 → wr (wr (wr (wr (wr m7 12 0 21 0) 12 0 35 0) 12 0 36 0) 12 0 37 0) 12 0 38 0 67 p c = m 65 p c := fun c hc => by
      rw [wr_k (by decide), wr_k (by decide), wr_k (by decide), wr_k (by decide), wr_k (by decide), h2 67 p (by simp), g2 67 p (by simp), f2 67 p c (by simp) (by simp), e1 p hp c hc, d2 65 p c (by simp) (by simp), b2 65 p (by simp), a2 65 p (by simp)]
    rw [hy 0 (by omega), hy 1 (by omega)]
    exact hM.2.2.2.1 p hp
  · rw [wr_k (by decide), wr_k (by decide), wr_k (by decide), wr_k (by decide), wr_k (by decide), show q = 12 * (q / 12) + q % 12 by omega, h1.1 (q / 12) (q % 12) (by omega) (by omega), g2 71 _ (by simp), f1 (q / 12) (by omega) (q % 12) (by omega), e2 69 _ _ (by simp) (by simp), d2 69 _ _ (by simp) (by simp), b2 69 _ (by simp), a2 69 _ (by simp)]
    exact hM.2.2.2.2 (q / 12) (q % 12) (by omega) (by omega)
  · rw [wr_k (by decide), wr_k (by decide), wr_k (by decide), wr_k (by decide), wr_k (by decide), h1.2.1 p (by omega) hp, g2 67 p (by simp), f2 67 p 1 (by simp) (by simp), e1 p hp 1 (by omega), d2 65 p 1 (by simp) (by simp), b2 65 p (by simp), a2 65 p (by simp)]
    exact (hM.2.2.2.1 p hp).2
  · rw [wr_k (by decide), wr_k (by decide), wr_k (by decide), wr_k (by decide), wr_k (by decide)]
    exact h1.2.2 j h3 h4
  · rw [wr_j (by decide), wr_j (by decide), wr_j (by decide), wr_j (by decide), wr_eq]
  · rw [wr_j (by decide), wr_j (by decide), wr_j (by decide), wr_eq]
  · rw [wr_j (by decide), wr_j (by decide), wr_eq]
  · rw [wr_j (by decide), wr_eq]
  · rw [wr_eq]
