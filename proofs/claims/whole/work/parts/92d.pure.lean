/-! ===== the law, alike ===== -/
theorem unP_sk {b : Nat → Int32} {L p : Nat} {sub : Option (Nat → Rz)} (h : p ≤ L) : unP b L sub (sk b L p) = unP b L sub p := by
  unfold unP
  rw [sk_sk h]
theorem sP_sk {b : Nat → Int32} {L p : Nat} (h : p ≤ L) (d : Nat) : sP b L d (sk b L p) = sP b L d p := by
  have key : ∀ sub, suP b L sub (sk b L p) = suP b L sub p := fun sub => by
    unfold suP prP
    rw [unP_sk h]
  match d with
  | 0 => exact key none
  | d + 1 => exact key (some (sP b L d))
/-- the law's codes, or what is wrong -/
noncomputable def lwV (b : Nat → Int32) (L : Nat) : (Int32 × Nat) ⊕ List Cd := match sP b L 6 0 with
  | .inl e => .inl e
  | .inr q => if sk b L q.1 < L then .inl (1, sk b L q.1) else .inr q.2
theorem lwV_l {b : Nat → Int32} {L : Nat} {e : Int32 × Nat} (h : sP b L 6 0 = .inl e) : lwV b L = .inl e := by unfold lwV; rw [h]
theorem lwV_r {b : Nat → Int32} {L p : Nat} {l : List Cd} (h : sP b L 6 0 = .inr (p, l)) : lwV b L = if sk b L p < L then .inl (1, sk b L p) else .inr l := by unfold lwV; rw [h]
theorem ends_c {b : Nat → Int32} {L p : Nat} {m : Mem} (h : TC b L p m) (hby : ∀ k, k < L → ¬ b k = -1) : Tot (r_X8_endsHere m) (fun q => (¬ sk b L p < L → q.1 = true ∧ TC b L (sk b L p) q.2) ∧ (sk b L p < L → q.1 = false ∧ FtC 1 (sk b L p) q.2) ∧ Fj [] JTc m q.2) := by
  unfold r_X8_endsHere
  rw [tot_bd2]
  refine (peek_c h).mono ?_
  rintro ⟨z, m2⟩ ⟨h1, h2, h3⟩
  dsimp only at h1 h2 h3 ⊢
  have hF2 : Fj [] JTc m m2 := h3.mono (by simp) (by simp)
  rw [h1]
  by_cases hx : sk b L p < L
  · obtain ⟨mw, w1, w2, w3⟩ := wrong_c (m := m2) (k := 1) (e := sk b L p)
    rw [bA_in hx, if_neg (hby _ hx), h2.2.1, bd2_s w1, if_neg (by decide)]
    exact tot_some.mpr ⟨fun n => absurd hx n, fun _ => ⟨rfl, w2⟩, hF2.tr (w3.mono (by simp) (by simp))⟩
  · rw [bA_out hx, if_pos rfl]
    exact tot_some.mpr ⟨fun _ => ⟨rfl, h2⟩, fun n => absurd n hx, hF2⟩
theorem readW_c {b : Nat → Int32} {L : Nat} {m : Mem} (h : TC b L 0 m) (hL : L ≤ 150) (hby : ∀ k, k < L → ¬ b k = -1) : Tot (r_X4_readFrom 1 m) (fun q => (∀ l, lwV b L = .inr l → q.1 = true ∧ CC l q.2 ∧ q.2 8 0 3 = -1) ∧ (∀ e, lwV b L = .inl e → q.1 = false ∧ FtC e.1 e.2 q.2) ∧ Fj KPc JTc m q.2) := by
  unfold r_X4_readFrom r_X4_readSum_t
  have hF0 : Fj KPc [] m (wr m 4 1 3 0) := Fj.rf.wrK (by simp) _ _
  have hC0 : CC [] (wr m 4 1 3 0) := ⟨wr_eq _ _ _ _ _, fun k hk => absurd hk (Nat.not_lt_zero k)⟩
  rw [tot_bd2]
  have e9 := sumAll_c (b := b) (L := L) hL 6 4 (by omega) 0 [] (wr m 4 1 3 0) (h.fj hF0 (by decide) (by simp)) hC0 (Nat.zero_le _)
  refine Tot.mono e9 ?_
  rintro ⟨z, m2⟩ ⟨a1, a2, a3⟩
  dsimp only at a1 a2 a3 ⊢
  have hF2 : Fj KPc JTc m m2 := (hF0.mono (fun q hq => hq) (by simp)).tr a3
  cases hs : sP b L 6 0 with
  | inl e =>
    obtain ⟨b1, b2⟩ := a2 e hs
    rw [if_neg (by rw [b1]; decide), lwV_l hs]
    exact tot_some.mpr ⟨fun l he => (by cases he), fun e' he => by cases he; exact ⟨rfl, b2⟩, hF2⟩
  | inr pl =>
    obtain ⟨p, l⟩ := pl
    obtain ⟨b1, b2, b3⟩ := a1 p l hs
    rw [if_pos b1, tot_bd2, lwV_r hs]
    refine (ends_c b2 hby).mono ?_
    rintro ⟨z7, m6⟩ ⟨d1, d2, d3⟩
    dsimp only at d1 d2 d3 ⊢
    have hF6 : Fj KPc JTc m m6 := hF2.tr (d3.mono (by simp) (by simp))
    by_cases hx : sk b L p < L
    · obtain ⟨u1, u2⟩ := d2 hx
      rw [if_neg (by rw [u1]; decide), if_pos hx]
      exact tot_some.mpr ⟨fun l he => (by cases he), fun e' he => by cases he; exact ⟨rfl, u2⟩, hF6⟩
    · obtain ⟨u1, u2⟩ := d1 hx
      rw [if_pos u1, if_neg hx]
      exact tot_some.mpr ⟨fun l' he => by cases he; exact ⟨rfl, b3.fj d3 (by simp) (by decide), u2.2.2.2.1.2⟩, fun e' he => (by cases he), hF6⟩
theorem lwV_lwf {b : Nat → Int32} {L : Nat} {l : List Cd} (hL : L ≤ 150) (h : lwV b L = .inr l) : lwf l.length (cwf l) (cvf l) ∧ 0 < l.length ∧ l.length ≤ 150 := by
  cases hs : sP b L 6 0 with
  | inl e =>
    rw [lwV_l hs] at h
    cases h
  | inr pl =>
    obtain ⟨p, l'⟩ := pl
    rw [lwV_r hs] at h
    obtain ⟨g1, g2, g3⟩ := Gd.s (b := b) (L := L) 6 0 (Nat.zero_le _) p l' hs
    by_cases hx : sk b L p < L
    · rw [if_pos hx] at h
      cases h
    · rw [if_neg hx] at h
      cases h
      obtain ⟨o1, o2⟩ := okc_lwf (g3 0) (by omega)
      exact ⟨o1, o2, by omega⟩
/-! the reference -/
def P73 (k : Nat) : Bool := k == 73
theorem lays73 {m : Mem} {n : Nat} (hn : n ≤ 150) : Tot (r_X12_lays_76_74 (nI n) m) (fun m' => (∀ i, i < n → ∀ c, c < 2 → m' 73 i c = m 75 i c) ∧ Fq P73 [] m m') := by
  unfold r_X12_lays_76_74 r_X12_lays_76_74_l2
  rw [tot_bd1]
  refine tot_for (fun k (t : Int32 × Mem) => t.1 = nI k ∧ (∀ i, i < k → ∀ c, c < 2 → t.2 73 i c = m 75 i c) ∧ Fq P73 [] m t.2) n ?_ ?_ 0 _ (Nat.zero_le _) ⟨rfl, fun i h => absurd h (Nat.not_lt_zero i), Fq.rf⟩
  · rintro k ⟨x3, m1⟩ hk ⟨e1, e2, hF⟩
    dsimp only at e1 e2 hF ⊢
    subst e1
    unfold r_X12_lays_76_74_b2 r_X12_lays_76_74_l10_c2
    rw [if_neg (nI_ge hk (by omega)), tot_bd1]
    refine tot_for (fun l (t : Int32 × Mem) => t.1 = nI l ∧ (∀ c, c < l → t.2 73 k c = m 75 k c) ∧ (∀ i, ¬ i = k → t.2 73 i = m1 73 i) ∧ Fq P73 [] m t.2) 2 ?_ ?_ 0 _ (Nat.zero_le _) ⟨rfl, fun c h => absurd h (Nat.not_lt_zero c), fun _ _ => rfl, hF⟩
    · rintro l ⟨x4, m2⟩ hl ⟨f1, f2, f3, hF2⟩
      dsimp only at f1 f2 f3 hF2 ⊢
      subst f1
      unfold r_X12_lays_76_74_b10_c2
      rw [if_pos (inb_nI (k := k) (by omega) (by omega)), if_neg (show ¬ (2 : Int32) ≤ nI (l) from nI_ge (b := 2) (a := l) (by omega) (by omega)), if_pos (inb_nI (k := l) (by omega) (by omega)), clamp_nI (k := k) (by omega), clamp_nI (k := l) (by omega), hF2 75 k l rfl (by simp)]
      refine tot_some.mpr ⟨(nI_succ l).symm, fun c hc => ?_, fun i hi => ?_, hF2.wrP rfl _ _ _⟩
      · dsimp only
        rw [wr_if]
        by_cases h : c = l
        · rw [if_pos h, h]
        · rw [if_neg h]
          exact f2 c (by omega)
      · dsimp only
        rw [← f3 i hi]
        funext c
        exact wr_i hi
    · rintro ⟨x4, m2⟩ ⟨f1, f2, f3, hF2⟩
      dsimp only at f1 f2 f3 hF2 ⊢
      subst f1
      unfold r_X12_lays_76_74_b10_c2
      rw [if_pos (inb_nI (k := k) (by omega) (by omega)), if_pos (by decide), tot_some]
      refine tot_some.mpr ⟨(nI_succ k).symm, fun i hi c hc => ?_, hF2⟩
      dsimp only
      by_cases h : i = k
      · rw [h]
        exact f2 c hc
      · rw [f3 i h]
        exact e2 i (by omega) c hc
  · rintro ⟨x3, m1⟩ ⟨e1, e2, hF⟩
    dsimp only at e1 e2 hF ⊢
    subst e1
    unfold r_X12_lays_76_74_b2
    rw [if_pos (nI_le (Nat.le_refl _) (by omega)), tot_some]
    exact tot_some.mpr ⟨e2, hF⟩
def PW (k : Nat) : Bool := k == 73 || k == 75
abbrev JWf : List (Nat × Nat) := [(12, 0), (12, 1), (12, 2), (12, 3), (12, 4), (12, 5), (12, 6), (12, 7), (12, 8), (12, 22)]
abbrev JW : List (Nat × Nat) := [(12, 0), (12, 1), (12, 2), (12, 3), (12, 4), (12, 5), (12, 6), (12, 7), (12, 8), (12, 22), (12, 21)]
theorem Fq.wide {P P' : Nat → Bool} {J J' : List (Nat × Nat)} {m m1 : Mem} (h : Fq P J m m1) (hP : ∀ k, P k = true → P' k = true) (hj : ∀ q ∈ J, q ∈ J') : Fq P' J' m m1 := fun k i j hk hq => h k i j (by
  cases hp : P k with
  | false => rfl
  | true =>
    rw [hP k hp] at hk
    cases hk) (fun q => hq (hj _ q))
set_option maxHeartbeats 1000000 in
theorem ref_law {b : Nat → Int32} {L f : Nat} {m : Mem} (hf : m 12 0 1 = nI f) (hLf : L ≤ f) (h6 : f ≤ 600) (hL : L ≤ 150) (hb : ∀ k, k < L → m 49 0 k = b k) : Tot (r_X12_law (nI L) m) (fun q => (∀ l, lwV b L = .inr l → q.1 = 1 ∧ q.2 12 0 21 = nI l.length ∧ (∀ k, k < l.length → q.2 73 k 0 = cwf l k ∧ q.2 73 k 1 = cvf l k) ∧ q.2 12 0 3 = -1) ∧ (∀ e, lwV b L = .inl e → q.1 = e.1 - 10 ∧ q.2 12 0 3 = nI e.2 ∧ Fq P75 JWf m q.2) ∧ q.2 12 0 0 = 0 ∧ q.2 12 0 1 = 0 ∧ Fq PW JW m q.2) := by
  unfold r_X12_law r_X12_law_j30
  rw [hf, if_pos (in_t ⟨nI_pos' (by omega), nI_le (by omega) (by omega)⟩), if_pos (show nI L ≤ 150 from nI_le (b := 150) hL (by omega)), bd2_s bad_0, if_neg (by decide), tot_bd1]
  have hFt : Fq P75 JWf m (wr m 12 0 0 0) := Fq.rf.wrJ (by simp) _ _
  have t0 := th_z m 0
  have o49 : ∀ k, k < L → wr m 12 0 0 0 49 0 k = b k := fun k hk => by rw [wr_k (by decide)]; exact hb k hk
  generalize wr m 12 0 0 0 = m4 at hFt t0 o49 ⊢
  refine (starts_m (b := b) (L := L) (by omega) o49).mono ?_
  rintro m8 ⟨s1, s2, s3, s4, s5, hF8⟩
  have hFq : Fq P75 JWf m m8 := hFt.tr (hF8.p (by simp))
  have t8 : m8 12 0 0 = 0 := by rw [hF8 12 0 0 (by simp) (by simp)]; exact t0
  have hF9 : Fj [] [(12, 22)] m8 (wr m8 12 0 22 0) := Fj.rf.wrJ (by simp) _ _
  have t9 : TM b L (sk b L 0) (wr m8 12 0 22 0) := s1.fj hF9 (by simp) (by decide)
  have e9 := sumAll_m (b := b) (L := L) hL 6 3 (by omega) (sk b L 0) [] (wr m8 12 0 22 0) t9 (by rw [wr_j (by decide)]; exact s2) (by rw [wr_j (by decide)]; exact s5) ⟨wr_eq _ _ _ _ _, fun k hk => absurd hk (Nat.not_lt_zero k)⟩ (Nat.zero_le _)
  rw [sP_sk (Nat.zero_le _)] at e9
  unfold r_X12_sum_t
  rw [tot_bd1]
  refine Tot.mono e9 ?_
  rintro m10 ⟨a1, a2, a3⟩
  have hF10 : Fq P75 JWf m m10 := (hFq.tr (hF9.p (by simp))).tr (a3.mono (by simp))
  have u0 : m10 12 0 0 = 0 := by rw [a3 12 0 0 rfl (by simp), wr_j (by decide)]; exact t8
  have u1 : m10 12 0 1 = 0 := by rw [a3 12 0 1 rfl (by simp), wr_j (by decide)]; exact s3
  have wd : ∀ {m9 : Mem}, Fq P75 JWf m m9 → Fq PW JW m m9 := fun h => h.wide (fun k hk => by
    unfold P75 at hk
    unfold PW
    rw [hk, Bool.or_true]) (by simp)
  have bad : ∀ (e : Int32 × Nat) (m9 : Mem), lwV b L = .inl e → FtM b L e.1 e.2 m9 → Fq P75 JWf m m9 → m9 12 0 0 = 0 → m9 12 0 1 = 0 → Tot (r_X12_law_j85 m9) (fun q => (∀ l, lwV b L = .inr l → q.1 = 1 ∧ q.2 12 0 21 = nI l.length ∧ (∀ k, k < l.length → q.2 73 k 0 = cwf l k ∧ q.2 73 k 1 = cvf l k) ∧ q.2 12 0 3 = -1) ∧ (∀ e, lwV b L = .inl e → q.1 = e.1 - 10 ∧ q.2 12 0 3 = nI e.2 ∧ Fq P75 JWf m q.2) ∧ q.2 12 0 0 = 0 ∧ q.2 12 0 1 = 0 ∧ Fq PW JW m q.2) := fun e m9 hV d hF h0 h1 => by
    unfold r_X12_law_j85 r_X12_ends
    rw [if_neg (by rw [d.1]; exact d.2.1), bd2_s rfl, hV]
    have hF' : Fq P75 JWf m (wr m9 12 0 3 (m9 12 0 6)) := hF.wrJ (by simp) _ _
    refine tot_some.mpr ⟨fun l he => (by cases he), fun e' he => ?_, ?_, ?_, wd hF'⟩
    · cases he
      refine ⟨by show m9 12 0 5 - 10 = _; rw [d.1], ?_, hF'⟩
      dsimp only
      rw [wr_eq, d.2.2.1]
    · dsimp only
      rw [wr_j (by decide)]
      exact h0
    · dsimp only
      rw [wr_j (by decide)]
      exact h1
  rw [tot_bd1]
  cases hs : sP b L 6 0 with
  | inl e =>
    have d := a2 e hs
    refine d.bl.mono ?_
    rintro m12 ⟨d2, g2⟩
    rw [if_neg (by rw [d2.1]; exact d2.2.1)]
    exact bad e m12 (lwV_l hs) d2 (hF10.tr (g2.p (by simp))) (by rw [g2 12 0 0 (by simp) (by simp)]; exact u0) (by rw [g2 12 0 1 (by simp) (by simp)]; exact u1)
  | inr pl =>
    obtain ⟨p, l⟩ := pl
    obtain ⟨b1, b2, b3, b4⟩ := a1 p l hs
    have hV := lwV_r hs
    have hp := b1.2.2.1
    obtain ⟨k1, k2⟩ := sk_le (b := b) hp
    refine (blanks_m b1).mono ?_
    rintro m12 ⟨d1, g2⟩
    have v5 : m12 12 0 5 = 0 := by rw [g2 12 0 5 (by simp) (by simp)]; exact b2
    have v0 : m12 12 0 0 = 0 := by rw [g2 12 0 0 (by simp) (by simp)]; exact u0
    have v1 : m12 12 0 1 = 0 := by rw [g2 12 0 1 (by simp) (by simp)]; exact u1
    have hF12 : Fq P75 JWf m m12 := hF10.tr (g2.p (by simp))
    rw [if_pos v5, d1.1, d1.2.1]
    by_cases hx : sk b L p < L
    · rw [if_pos hx] at hV
      obtain ⟨mw, w1, w2, w3⟩ := wrong_m (e := sk b L p) (k := 1) d1 v5 (by decide)
      rw [if_neg (nI_ge hx (by omega)), bd1_s w1]
      exact bad _ mw hV w2 (hF12.tr (w3.p (by simp))) (by rw [w3 12 0 0 (by simp) (by simp)]; exact v0) (by rw [w3 12 0 1 (by simp) (by simp)]; exact v1)
    · rw [if_neg hx] at hV
      have hC12 : CMm l m12 := b4.fj g2 (by decide)
      obtain ⟨-, -, hn⟩ := lwV_lwf hL hV
      rw [if_pos (nI_le (by omega) (by omega))]
      unfold r_X12_law_j85
      rw [if_pos v5, hC12.1, tot_bd1, hV]
      refine (lays73 hn).mono ?_
      rintro m17 ⟨x1, x2⟩
      have y : ∀ k c, (wr (wr m12 12 0 3 (-1)) 12 0 21 (nI l.length)) 75 k c = m12 75 k c := fun k c => by rw [wr_k (by decide), wr_k (by decide)]
      have z : ∀ c, m17 12 0 c = (wr (wr m12 12 0 3 (-1)) 12 0 21 (nI l.length)) 12 0 c := fun c => by rw [x2.kd 12 0 rfl]
      refine tot_some.mpr ⟨fun l' he => ?_, fun e' he => (by cases he), ?_, ?_, ?_⟩
      · cases he
        refine ⟨rfl, ?_, fun k hk => ?_, ?_⟩
        · show m17 12 0 21 = _
          rw [z, wr_eq]
        · show m17 73 k 0 = _ ∧ m17 73 k 1 = _
          rw [x1 k hk 0 (by omega), x1 k hk 1 (by omega), y, y]
          exact hC12.2 k hk
        · show m17 12 0 3 = -1
          rw [z, wr_j (by decide), wr_eq]
      · show m17 12 0 0 = 0
        rw [z, wr_j (by decide), wr_j (by decide)]
        exact v0
      · show m17 12 0 1 = 0
        rw [z, wr_j (by decide), wr_j (by decide)]
        exact v1
      · exact (((wd hF12).wrJ (by simp) _ _).wrJ (by simp) _ _).tr (x2.wide (fun k hk => by
          unfold P73 at hk
          unfold PW
          rw [hk, Bool.true_or]) (by simp))
/-! what is kept -/
def kz (k : Nat) : Bool := k == 0 || k == 6 || k == 8 || k == 9 || k == 10 || k == 11 || k == 12 || k == 50
theorem kz_kR {k : Nat} (h : kz k = true) (i : Nat) : kR k i = false := by
  unfold kz at h
  simp only [Bool.or_eq_true, beq_iff_eq] at h
  rcases h with ((((((h | h) | h) | h) | h) | h) | h) | h <;> subst h <;> simp [kR]
theorem Fj.kr {K J : List (Nat × Nat)} {m m' : Mem} (h : Fj K J m m') (hK : K.all (fun q => !kR q.1 q.2) = true) (hJ : J.all (fun q => kz q.1) = true) : ∀ k i, kR k i = true → m' k i = m k i := fun k i hk => by
  rw [List.all_eq_true] at hK hJ
  refine h.rw' k i (fun q hq e => ?_) (fun q hq e => ?_)
  · have := hK q hq
    rw [e, show kR (k, i).1 (k, i).2 = kR k i from rfl, hk] at this
    cases this
  · have := kz_kR (hJ q hq) i
    rw [e, hk] at this
    cases this
theorem Fq.kr {P : Nat → Bool} {J : List (Nat × Nat)} {m m' : Mem} (h : Fq P J m m') (hP : ∀ k i, P k = true → kR k i = false) (hJ : J.all (fun q => kz q.1) = true) : ∀ k i, kR k i = true → m' k i = m k i := fun k i hk => by
  rw [List.all_eq_true] at hJ
  funext j
  refine h k i j ?_ (fun hq => ?_)
  · cases hp : P k with
    | false => rfl
    | true =>
      rw [hP k i hp] at hk
      cases hk
  · have := kz_kR (hJ _ hq) i
    rw [show ((k, j) : Nat × Nat).1 = k from rfl, hk] at this
    cases this
theorem Inv.rx {m M : Mem} (hI : Inv m) (rr : ∀ k i, kR k i = true → M k i = m k i) (r11 : M 11 0 = m 11 0) (r50 : M 50 0 = m 50 0) (f12 : ∀ c, c = 21 ∨ c = 35 ∨ c = 36 ∨ c = 37 ∨ c = 38 → M 12 0 c = m 12 0 c) (h8 : M 8 0 1 = 0) (h12 : M 12 0 1 = 0) (h3 : M 8 0 3 = M 12 0 3) : Inv M := by
  obtain ⟨a1, a2, a3, a4, a5, a6, a7⟩ := hI
  have hW : mW M = mW m := by
    funext p q
    unfold mW
    rw [rr 52 0 rfl, rr 54 0 rfl, rr 63 q rfl, rr 67 q rfl, rr 73 q rfl, f12 21 (by omega)]
  have hs : EqS m M := fun i k hi hk => by
    have h1 : ¬ i = 1 := by omega
    have h2 : ¬ i = 2 := by omega
    simp only [List.mem_cons, List.not_mem_nil, or_false] at hk
    rcases hk with rfl | rfl | rfl | rfl | rfl | rfl <;> exact rr _ i (by simp [kR, h1, h2])
  refine ⟨a1.c hW (rr 60 0 rfl) (fun k hk => ?_) (fun k hk => ?_), ⟨⟨0, by omega, h8, h12, fun k hk => absurd hk (Nat.not_lt_zero k)⟩, h3⟩, a3.c hW (rr 5 0 rfl) (f12 36 (by omega)) (rr 46 0 rfl) (fun j => rr 60 (2 + j) (by simp [kR]; omega)) hs, a4.c hW (rr 2 0 rfl) (f12 38 (by omega)) (rr 47 0 rfl) (rr 48 0 rfl) (fun j => rr 83 j rfl) (fun j => rr 5 (1 + j) rfl) (fun j => rr 46 (1 + j) rfl) hs, a5.c hW (rr 1 0 rfl) (f12 35 (by omega)) (fun j => rr 77 j rfl) (rr 36 0 rfl), ?_, a7.c (fun i => rr 94 i rfl) (fun p => rr 46 p rfl) (rr 47 0 rfl) (rr 48 0 rfl)⟩
  · simp only [List.mem_cons, List.not_mem_nil, or_false] at hk
    rcases hk with rfl | rfl | rfl | rfl | rfl | rfl | rfl | rfl <;> exact rr _ 0 rfl
  · simp only [List.mem_cons, List.not_mem_nil, or_false] at hk
    rcases hk with rfl | rfl | rfl | rfl | rfl | rfl <;> exact rr _ 0 rfl
  · unfold I6
    rw [r11, r50, f12 37 (by omega)]
    exact a6
/-! another law over the same land -/
theorem w5_all {w w' : Wd} (h : ∀ i j, i < 5 → w' i j = w i j) : wP w' = wP w ∧ wD w' = wD w ∧ wN w' = wN w ∧ wS w' = wS w ∧ ∀ a c, bw w' a c = bw w a c := by
  have eD : wD w' = wD w := by unfold wD; rw [h 0 1 (by omega)]
  exact ⟨by unfold wP; rw [h 0 0 (by omega)], eD, by unfold wN; rw [h 0 2 (by omega)], by unfold wS; rw [h 0 3 (by omega)], fun a c => bw_cg (fun e => h 2 e (by omega)) (fun e => h 3 e (by omega)) eD a c⟩
theorem RF.w5 {w w' : Wd} {r : Rw} (h : ∀ i j, i < 5 → w' i j = w i j) (hR : RF w r) : RF w' r := by
  obtain ⟨eP, -, eN, -, -⟩ := w5_all h
  unfold RF at hR ⊢
  rw [eP, eN]
  exact hR
theorem StC.w5 {w w' : Wd} {r : Rw} {m : Mem} {i : Nat} (h : ∀ i j, i < 5 → w' i j = w i j) (hS : StC w r m i) : StC w' r m i := by
  obtain ⟨-, -, eN, -, -⟩ := w5_all h
  obtain ⟨s1, s2, s3, s4, s5⟩ := hS
  unfold StC
  rw [eN, h 0 2 (by omega)]
  exact ⟨s1, s2, fun p hp => ⟨(s3 p hp).1.trans (h 4 p (by omega)).symm, (s3 p hp).2⟩, s4, s5⟩
theorem CL.w5 {w w' : Wd} {m : Mem} (h : ∀ i j, i < 5 → w' i j = w i j) (hL : CL w m) : CL w' m := by
  obtain ⟨eP, eD, -, -, eB⟩ := w5_all h
  obtain ⟨s1, s2, s3, s4, s5, s6, s7, s8⟩ := hL
  unfold CL
  rw [eP, eD, h 0 0 (by omega), h 0 1 (by omega), h 0 2 (by omega), h 0 3 (by omega)]
  refine ⟨s1, s2, s3, s4, fun a ha => (s5 a ha).trans (h 1 a (by omega)).symm, fun e he => ⟨(s6 e he).1.trans (h 2 e (by omega)).symm, (s6 e he).2.trans (h 3 e (by omega)).symm⟩, fun a c ha hc => ?_, fun a ha x hx => ?_⟩
  · rw [eB]
    exact s7 a c ha hc
  · rw [eB]
    exact s8 a ha x hx
set_option maxHeartbeats 1000000 in
theorem Inv.law {m M : Mem} {n : Nat} (hI : Inv m) (rr : ∀ k i, kR k i = true → ¬ k = 73 → ¬ k = 4 → ¬ k = 34 → M k i = m k i) (r11 : M 11 0 = m 11 0) (r50 : M 50 0 = m 50 0) (f12 : ∀ c, c = 35 ∨ c = 36 ∨ c = 37 ∨ c = 38 → M 12 0 c = m 12 0 c) (h8 : M 8 0 1 = 0) (h12 : M 12 0 1 = 0) (h3 : M 8 0 3 = M 12 0 3) (hn : M 12 0 21 = nI n) (hl : lwf n (fun k => M 73 k 0) (fun k => M 73 k 1)) (hC : lawC 0 n (fun k => M 73 k 0) (fun k => M 73 k 1) M) : Inv M := by
  obtain ⟨⟨b1, b2, b3, b4, b5⟩, a2, a3, a4, a5, a6, a7⟩ := hI
  have h150 := hl.1
  have r2 : ∀ k i, kR k i = true → k ∉ [73, 4, 34] → M k i = m k i := fun k i hk hx => rr k i hk (fun e => hx (by rw [e]; simp)) (fun e => hx (by rw [e]; simp)) (fun e => hx (by rw [e]; simp))
  have h5 : ∀ i j, i < 5 → mW M i j = mW m i j := fun i j hi => by
    have : i = 0 ∨ i = 1 ∨ i = 2 ∨ i = 3 ∨ i = 4 := by omega
    rcases this with rfl | rfl | rfl | rfl | rfl
    · exact congrFun (r2 52 0 rfl (by decide)) j
    · exact congrFun (r2 54 0 rfl (by decide)) j
    · exact congrFun (r2 63 j rfl (by decide)) 0
    · exact congrFun (r2 63 j rfl (by decide)) 1
    · exact congrFun (r2 67 j rfl (by decide)) 0
  obtain ⟨eP, eD, eN, eS, eB⟩ := w5_all h5
  have en : wn (mW M) = n := by
    show (M 12 0 21).toNatClampNeg = n
    rw [hn, clamp_nI (by omega)]
  have st : ∀ i k, ¬ i = 1 → ¬ i = 2 → k ∈ [7, 20, 21, 22, 23, 24] → M k i = m k i := fun i k h1 h2 hk => by
    simp only [List.mem_cons, List.not_mem_nil, or_false] at hk
    rcases hk with rfl | rfl | rfl | rfl | rfl | rfl <;> exact r2 _ i (by simp [kR, h1, h2]) (by decide)
  have stc : ∀ i r, ¬ i = 1 → ¬ i = 2 → StC (mW m) r m i → StC (mW M) r M i := fun i r h1 h2 hS => StC.w5 h5 (hS.fr (st i 7 h1 h2 (by simp)) (st i 20 h1 h2 (by simp)) (st i 21 h1 h2 (by simp)) (st i 22 h1 h2 (by simp)) (st i 23 h1 h2 (by simp)) (st i 24 h1 h2 (by simp)))
  have sv : ∀ i r, ¬ i = 1 → ¬ i = 2 → SvC m i r → SvC M i r := fun i r h1 h2 hS => ⟨stc i r h1 h2 hS.1, RF.w5 h5 hS.2⟩
  have hW : WF (mW M) := by
    obtain ⟨p1, p2, p3, p4, -, -, p7, p8, p9⟩ := b1
    unfold WF
    rw [eP, eD, eN, eS, en, h5 0 0 (by omega), h5 0 1 (by omega), h5 0 2 (by omega), h5 0 3 (by omega)]
    refine ⟨p1, p2, p3, p4, hn, hl, fun e he => ?_, p8, fun p hp => ?_⟩
    · rw [h5 2 e (by omega), h5 3 e (by omega)]
      exact p7 e he
    · rw [h5 4 p (by omega)]
      exact p9 p hp
  refine ⟨⟨hW, ?_, ?_, ?_, ?_⟩, ⟨⟨0, by omega, h8, h12, fun k hk => absurd hk (Nat.not_lt_zero k)⟩, h3⟩, ?_, ?_, ?_, ?_, a7.c (fun i => r2 94 i rfl (by decide)) (fun p => r2 46 p rfl (by decide)) (r2 47 0 rfl (by decide)) (r2 48 0 rfl (by decide))⟩
  · rw [r2 60 0 rfl (by decide)]
    exact RF.w5 h5 b2
  · exact CL.w5 h5 (b3.fr (r2 3 0 rfl (by decide)) (r2 25 0 rfl (by decide)) (r2 26 0 rfl (by decide)) (r2 27 0 rfl (by decide)) (r2 28 0 rfl (by decide)) (r2 29 0 rfl (by decide)))
  · unfold CW
    rw [en]
    exact hC
  · rw [r2 60 0 rfl (by decide)]
    exact stc 0 _ (by decide) (by decide) b5
  · obtain ⟨k, h1, h2, h3, h4⟩ := a3
    refine ⟨k, h1, by rw [r2 5 0 rfl (by decide)]; exact h2, by rw [f12 36 (by omega)]; exact h3, fun j hj => ⟨by rw [r2 46 0 rfl (by decide)]; exact (h4 j hj).1, ?_⟩⟩
    rw [r2 60 (2 + j) (by simp [kR]; omega) (by decide)]
    exact sv _ _ (by omega) (by omega) (h4 j hj).2
  · obtain ⟨k, h1, h2, h3, h4⟩ := a4
    refine ⟨k, h1, by rw [r2 2 0 rfl (by decide)]; exact h2, by rw [f12 38 (by omega)]; exact h3, fun j hj => ?_⟩
    obtain ⟨c1, c2, c3, n', c4, c5, c6, c7⟩ := h4 j hj
    rw [r2 47 0 rfl (by decide), r2 48 0 rfl (by decide), r2 83 j rfl (by decide), r2 5 (1 + j) rfl (by decide), r2 46 (1 + j) rfl (by decide)]
    exact ⟨c1, c2, sv _ _ (by omega) (by omega) c3, n', c4, c5, c6, fun v hv => ⟨(c7 v hv).1, sv _ _ (by omega) (by omega) (c7 v hv).2⟩⟩
  · obtain ⟨k, h1, h2, h3, h4, h5'⟩ := a5
    refine ⟨k, h1, by rw [r2 1 0 rfl (by decide)]; exact h2, by rw [f12 35 (by omega)]; exact h3, fun j hj => ?_, fun a ha => ?_⟩
    · rw [eP, r2 77 j rfl (by decide), r2 36 0 rfl (by decide)]
      exact h4 j hj
    · rw [r2 36 0 rfl (by decide)]
      rcases h5' a ha with q | ⟨j, hj, e⟩
      · exact Or.inl q
      · exact Or.inr ⟨j, hj, by rw [r2 77 j rfl (by decide)]; exact e⟩
  · unfold I6
    rw [r11, r50, f12 37 (by omega)]
    exact a6
set_option maxHeartbeats 2000000 in
theorem pair_law {m : Mem} (hI : Inv m) (x : Int32) : Pair (fun m => r_L_law x m) (fun m => r_X12_law x m) m := by
  obtain ⟨⟨f, f1, f2, f3, f4⟩, f5⟩ := hI.2.1
  by_cases hx : 0 ≤ x ∧ x ≤ nI (min 150 f)
  case neg =>
    refine Pair.b1 (c := 1) hI rfl (by decide) ?_ (fun m3 e h3 => ?_)
    · have ho : r_X11_openText x 150 m = some (Sum.inr 1, wr m 11 0 16 (m 11 0 16 + 1)) := openT_f (lim := 150) f2 f1 (by omega) hx
      unfold r_X11_law
      rw [thr_r ho]
    · have e1 : m3 12 0 1 = nI f := by
        rw [h3 12 0 (by decide)]
        exact f3
      have hno := lim_no f1 (by omega) hx
      have bad : r_X12_law_j25 x (wr m3 12 0 0 0) = some (0, badm m3 1 1) := by
        unfold r_X12_law_j25 r_X12_law_j30
        rw [bd2_s (bad_11 (by decide)), if_pos rfl]
      unfold r_X12_law
      rw [e1]
      by_cases h1 : 0 ≤ x ∧ x ≤ nI f
      · rw [if_pos (in_t h1), if_neg (show ¬ x ≤ 150 from fun q => hno ⟨h1, q⟩)]
        exact bad
      · rw [if_neg (by rw [in_f h1]; decide)]
        exact bad
  obtain ⟨L, hLm, rfl⟩ := le_nI (by omega) hx
  have hby : ∀ k, k < L → ¬ m 49 0 k = -1 := fun k hk => by
    obtain ⟨-, c, hc, e⟩ := f4 k (by omega)
    rw [e]
    exact m1_ne (by omega)
  refine Pair.gen ?_
  obtain ⟨m2, ho, tc, v1, v3, v4, hF2⟩ := openT_t (b := m 49 0) (lim := 150) (L := L) f2 f1 (by omega) (by omega) (by omega) (fun k hk => (f4 k hk).1)
  have ho' : r_X11_openText (nI L) 150 m = some (Sum.inl (), m2) := ho
  unfold r_X11_law
  rw [thr_l ho', tot_bd2]
  refine (readW_c tc (by omega) hby).mono ?_
  rintro ⟨ok, m5⟩ ⟨h1, h2, hF5⟩
  dsimp only at h1 h2 hF5 ⊢
  have hF5' : Fj KPc JO m m5 := (hF2.mono (by simp) (by simp)).tr (hF5.mono (fun q hq => hq) (by simp))
  have v5 : m5 8 0 1 = 0 := by
    rw [hF5 8 0 1 (by simp) (by simp)]
    exact v1
  cases hV : lwV (m 49 0) L with
  | inl e =>
    obtain ⟨d1, d2⟩ := h2 e hV
    rw [if_neg (by rw [d1]; decide)]
    refine tot_some.mpr ⟨e.1 - 10, ?_, fun i => ?_, fun m3 (hF3 : Fj [(92, 0)] [] m5 m3) => (ref_law (b := m 49 0) (f := f) (by rw [hF3.kd 12 0 rfl, hF5'.kd 12 0 rfl]; exact f3) (by omega) f1 (by omega) (fun k hk => by rw [hF3.kd 49 0 rfl, hF5'.kd 49 0 rfl])).mono ?_⟩
    · show Sum.inl (m5 8 0 4 - 10) = _
      rw [d2.1]
    · exact hF5'.kd 100 i rfl
    · rintro ⟨z, M⟩ ⟨-, r2, r3, r4, -⟩
      dsimp only at r2 r3 r4 ⊢
      obtain ⟨y1, y2, y3⟩ := r2 e hV
      have o8 : ∀ c, M 8 0 c = m5 8 0 c := fun c => by rw [y3.kd 8 0 rfl, hF3.kd 8 0 rfl]
      refine ⟨y1, r3, y3.kd 92 0 rfl, fun i => y3.kd 100 i rfl, Inv.rx hI (fun k i hk => ?_) ?_ ?_ (fun c hc => ?_) (by rw [o8]; exact v5) r4 (by rw [o8, y2]; exact d2.2)⟩
      · rw [y3.kr (fun k i hk => by unfold P75 at hk; rw [beq_iff_eq] at hk; subst hk; simp [kR]) rfl k i hk, hF3.kr rfl rfl k i hk, hF5'.kr rfl rfl k i hk]
      · rw [y3.kd 11 0 rfl, hF3.kd 11 0 rfl, hF5'.kd 11 0 rfl]
      · rw [y3.kd 50 0 rfl, hF3.kd 50 0 rfl, hF5'.kd 50 0 rfl]
      · rw [y3 12 0 c rfl (fun hq => by simp at hq; omega), hF3.kd 12 0 rfl, hF5'.kd 12 0 rfl]
  | inr l =>
    obtain ⟨d1, d2, d3⟩ := h1 l hV
    obtain ⟨l1, l2, l3⟩ := lwV_lwf (by omega) hV
    rw [if_pos d1]
    unfold r_X4_copyFrom
    rw [if_pos (show leb (m5 4 1 3) 150 = true by rw [d2.1]; exact leb_nI l3 (by omega)), bd1_s rfl]
    have w0 : ∀ a b c, ¬ a = 4 → ¬ a = 34 → cpM (wr m5 4 0 3 (m5 4 1 3)) 34 1 0 34 0 0 (m5 4 1 3).toNatClampNeg a b c = m5 a b c := fun a b c h1 h2 => by
      rw [cp_k h2, wr_k h1]
    have w1 : cpM (wr m5 4 0 3 (m5 4 1 3)) 34 1 0 34 0 0 (m5 4 1 3).toNatClampNeg 4 0 3 = nI l.length := by
      rw [cp_k (by decide), wr_eq]
      exact d2.1
    have w2 : ∀ k, k < l.length → cpM (wr m5 4 0 3 (m5 4 1 3)) 34 1 0 34 0 0 (m5 4 1 3).toNatClampNeg 34 0 k = en (l.getD k (0, 0)) := fun k hk => by
      rw [cp_at _ _ _ _ _ _ (by rw [d2.1, clamp_nI (by omega)]; exact hk), wr_k (by decide)]
      exact d2.2 k hk
    have hF9 : Fj [(4, 0), (34, 0)] [] m5 (cpM (wr m5 4 0 3 (m5 4 1 3)) 34 1 0 34 0 0 (m5 4 1 3).toNatClampNeg) := (cp_fr (Fr.rf.wr (by simp) _ _) (by simp)).j
    generalize cpM (wr m5 4 0 3 (m5 4 1 3)) 34 1 0 34 0 0 (m5 4 1 3).toNatClampNeg = m9 at w0 w1 w2 hF9 ⊢
    refine tot_some.mpr ⟨1, rfl, fun i => ?_, fun m3 (hF3 : Fj [(92, 0)] [] m9 m3) => (ref_law (b := m 49 0) (f := f) (by rw [hF3.kd 12 0 rfl, hF9.kd 12 0 rfl, hF5'.kd 12 0 rfl]; exact f3) (by omega) f1 (by omega) (fun k hk => by rw [hF3.kd 49 0 rfl, hF9.kd 49 0 rfl, hF5'.kd 49 0 rfl])).mono ?_⟩
    · show m9 100 i = m 100 i
      rw [hF9.kd 100 i rfl, hF5'.kd 100 i rfl]
    · rintro ⟨z, M⟩ ⟨r1, -, r3, r4, r5⟩
      dsimp only at r1 r3 r4 r5 ⊢
      obtain ⟨y1, y2, y3, y4⟩ := r1 l hV
      have o8 : ∀ c, M 8 0 c = m5 8 0 c := fun c => by rw [r5.kd 8 0 rfl, hF3.kd 8 0 rfl, hF9.kd 8 0 rfl]
      refine ⟨y1, r3, r5.kd 92 0 rfl, fun i => r5.kd 100 i rfl, Inv.law (n := l.length) hI (fun k i hk k1 k2 k3 => ?_) ?_ ?_ (fun c hc => ?_) (by rw [o8]; exact v5) r4 (by rw [o8, y4]; exact d3) y2 (lwf_cong (fun k hk => y3 k hk) l1) (Or.inr ⟨l2, ?_, fun k hk => ?_⟩)⟩
      · funext j
        have hj : ∀ J : List (Nat × Nat), J.all (fun q => kz q.1) = true → (k, j) ∉ J := fun J hJ hq => by
          have := kz_kR ((List.all_eq_true.mp hJ) _ hq) i
          rw [show ((k, j) : Nat × Nat).1 = k from rfl, hk] at this
          cases this
        have h75 : PW k = false := by
          cases hp : PW k with
          | false => rfl
          | true =>
            unfold PW at hp
            rw [Bool.or_eq_true, beq_iff_eq, beq_iff_eq] at hp
            rcases hp with e | e
            · exact absurd e k1
            · subst e
              simp [kR] at hk
        rw [r5 k i j h75 (hj _ rfl), congrFun (hF3.kr rfl rfl k i hk) j, hF9 k i j (fun hq => by simp at hq; omega) (by simp), congrFun (hF5'.kr rfl rfl k i hk) j]
      · rw [r5.kd 11 0 rfl, hF3.kd 11 0 rfl, hF9.kd 11 0 rfl, hF5'.kd 11 0 rfl]
      · rw [r5.kd 50 0 rfl, hF3.kd 50 0 rfl, hF9.kd 50 0 rfl, hF5'.kd 50 0 rfl]
      · rw [r5 12 0 c rfl (fun hq => by simp at hq; omega), hF3.kd 12 0 rfl, hF9.kd 12 0 rfl, hF5'.kd 12 0 rfl]
      · rw [r5.kd 4 0 rfl, hF3.kd 4 0 rfl]
        exact w1
      · rw [r5.kd 34 0 rfl, hF3.kd 34 0 rfl, w2 k hk]
        show _ = (if M 73 k 0 = 0 then M 73 k 1 else if M 73 k 0 = 1 then 1000 + M 73 k 1 else 1998 + M 73 k 0)
        rw [(y3 k hk).1, (y3 k hk).2]
        rfl
