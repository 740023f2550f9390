/-! ===== the book: the reference, and alike ===== -/
/-- rows and fields that a reader may change, the book's among them -/
def scR (q : Nat × Nat) : Bool := (!kR q.1 q.2 || q.1 == 77 || q.1 == 36 || q.1 == 1) && (q.1 != 12 && (q.1 != 8 && (q.1 != 11 && q.1 != 50)))
def scQ (q : Nat × Nat) : Bool := (q.1 == 12 && (q.2 != 21 && (q.2 != 36 && (q.2 != 37 && q.2 != 38)))) || q.1 == 8
theorem rdR {K J : List (Nat × Nat)} {m M : Mem} (hF : Fj K J m M) (hK : K.all scR = true) (hJ : J.all scQ = true) : (∀ k i, kR k i = true → ¬ k = 77 → ¬ k = 36 → ¬ k = 1 → M k i = m k i) ∧ M 11 0 = m 11 0 ∧ M 50 0 = m 50 0 ∧ ∀ c, c = 21 ∨ c = 36 ∨ c = 37 ∨ c = 38 → M 12 0 c = m 12 0 c := by
  rw [List.all_eq_true] at hK hJ
  have k1 : ∀ q ∈ K, (kR q.1 q.2 = false ∨ q.1 = 77 ∨ q.1 = 36 ∨ q.1 = 1) ∧ ¬ q.1 = 12 ∧ ¬ q.1 = 8 ∧ ¬ q.1 = 11 ∧ ¬ q.1 = 50 := fun q hq => by
    have := hK q hq
    simp only [scR, Bool.and_eq_true, Bool.or_eq_true, beq_iff_eq, Bool.not_eq_true', bne_iff_ne, ne_eq] at this
    exact ⟨by rcases this.1 with ((h | h) | h) | h <;> simp [h], this.2⟩
  have j1 : ∀ q ∈ J, (q.1 = 12 ∧ ¬ q.2 = 21 ∧ ¬ q.2 = 36 ∧ ¬ q.2 = 37 ∧ ¬ q.2 = 38) ∨ q.1 = 8 := fun q hq => by
    have := hJ q hq
    simp only [scQ, Bool.and_eq_true, Bool.or_eq_true, beq_iff_eq, bne_iff_ne, ne_eq] at this
    exact this
  refine ⟨fun k i hk h1 h2 h3 => hF.rw' k i (fun q hq e => ?_) (fun q hq e => ?_), hF.rw' 11 0 (fun q hq e => (k1 q hq).2.2.2.1 (by rw [e])) (fun q hq e => ?_), hF.rw' 50 0 (fun q hq e => (k1 q hq).2.2.2.2 (by rw [e])) (fun q hq e => ?_), fun c hc => hF 12 0 c (fun hq => (k1 _ hq).2.1 rfl) (fun hq => ?_)⟩
  · have := (k1 q hq).1
    rw [e] at this
    rcases this with h | h | h | h
    · rw [show kR (k, i).1 (k, i).2 = kR k i from rfl, hk] at h
      cases h
    · exact h1 h
    · exact h2 h
    · exact h3 h
  · rcases j1 q hq with h | h
    · have h2 : k = 12 := by rw [← e]; exact h.1
      subst h2
      simp [kR] at hk
    · have h2 : k = 8 := by rw [← e]; exact h
      subst h2
      simp [kR] at hk
  · have := j1 q hq
    omega
  · have := j1 q hq
    omega
  · rcases j1 _ hq with h | h
    · dsimp only at h
      omega
    · exact absurd (show (12 : Nat) = 8 from h) (by decide)
theorem Inv.rd {K J : List (Nat × Nat)} {m M : Mem} (hI : Inv m) (hF : Fj K J m M) (hK : K.all scR = true) (hJ : J.all scQ = true) (h8 : M 8 0 1 = 0) (h12 : M 12 0 1 = 0) (h3 : M 8 0 3 = M 12 0 3) (h5 : I5 M) : Inv M := by
  obtain ⟨rr, r11, r50, f12⟩ := rdR hF hK hJ
  obtain ⟨a1, a2, a3, a4, a5, a6, a7⟩ := hI
  have hW : mW M = mW m := by
    funext p q
    unfold mW
    rw [rr 52 0 rfl (by decide) (by decide) (by decide), rr 54 0 rfl (by decide) (by decide) (by decide), rr 63 q rfl (by decide) (by decide) (by decide), rr 67 q rfl (by decide) (by decide) (by decide), rr 73 q rfl (by decide) (by decide) (by decide), f12 21 (by omega)]
  have hs : EqS m M := fun i k hi hk => by
    have h1 : ¬ i = 1 := by omega
    have h2 : ¬ i = 2 := by omega
    simp only [List.mem_cons, List.not_mem_nil, or_false] at hk
    rcases hk with rfl | rfl | rfl | rfl | rfl | rfl <;> exact rr _ i (by simp [kR, h1, h2]) (by decide) (by decide) (by decide)
  refine ⟨a1.c hW (rr 60 0 rfl (by decide) (by decide) (by decide)) (fun k hk => ?_) (fun k hk => ?_), ⟨⟨0, by omega, h8, h12, fun k hk => absurd hk (Nat.not_lt_zero k)⟩, h3⟩, a3.c hW (rr 5 0 rfl (by decide) (by decide) (by decide)) (f12 36 (by omega)) (rr 46 0 rfl (by decide) (by decide) (by decide)) (fun j => rr 60 (2 + j) (by simp [kR]; omega) (by decide) (by decide) (by decide)) hs, a4.c hW (rr 2 0 rfl (by decide) (by decide) (by decide)) (f12 38 (by omega)) (rr 47 0 rfl (by decide) (by decide) (by decide)) (rr 48 0 rfl (by decide) (by decide) (by decide)) (fun j => rr 83 j rfl (by decide) (by decide) (by decide)) (fun j => rr 5 (1 + j) rfl (by decide) (by decide) (by decide)) (fun j => rr 46 (1 + j) rfl (by decide) (by decide) (by decide)) hs, h5, ?_, a7.c (fun i => rr 94 i rfl (by decide) (by decide) (by decide)) (fun p => rr 46 p rfl (by decide) (by decide) (by decide)) (rr 47 0 rfl (by decide) (by decide) (by decide)) (rr 48 0 rfl (by decide) (by decide) (by decide))⟩
  · simp only [List.mem_cons, List.not_mem_nil, or_false] at hk
    rcases hk with rfl | rfl | rfl | rfl | rfl | rfl | rfl | rfl <;> exact rr _ 0 rfl (by decide) (by decide) (by decide)
  · simp only [List.mem_cons, List.not_mem_nil, or_false] at hk
    rcases hk with rfl | rfl | rfl | rfl | rfl | rfl <;> exact rr _ 0 rfl (by decide) (by decide) (by decide)
  · unfold I6
    rw [r11, r50, f12 37 (by omega)]
    exact a6
theorem ps_sk (b : Nat → Int32) (L : Nat) : ∀ j, sk b L (ps b L j) = ps b L j := by
  have key : ∀ p, sk b L (sk b L p) = sk b L p := fun p => by
    by_cases h : p ≤ L
    · exact sk_sk h
    · have h1 : sk b L p = p := by
        have := fa_first_le (fun i => !(isB (b (p + i)))) (L - p)
        show p + fa_first (fun i => !(isB (b (p + i)))) (L - p) = p
        omega
      rw [h1, h1]
  intro j
  cases j with
  | zero => exact key 0
  | succ j => exact key _
abbrev K79 : List (Nat × Nat) := [(79, 0), (79, 1), (79, 2), (79, 3), (79, 4), (79, 5), (79, 6), (79, 7), (79, 8), (79, 9), (79, 10), (79, 11)]
theorem in79 : ∀ a, a < 12 → (79, a) ∈ K79 := by decide
abbrev K77 : List (Nat × Nat) := [(77, 0), (77, 1), (77, 2), (77, 3), (77, 4), (77, 5), (77, 6), (77, 7), (77, 8), (77, 9), (77, 10), (77, 11)]
theorem in77 : ∀ a, a < 12 → (77, a) ∈ K77 := by decide
def NB (b : Nat → Int32) (L j : Nat) (x2 x3 : Int32) (m0 m : Mem) : Prop := x2 = nI j ∧ (∀ a, a < 12 → bt x3 a = decide (¬ us b L j a = -1)) ∧ TM b L (ps b L j) m ∧ m 12 0 5 = 0 ∧ (∀ i, i < j → m 79 i 0 = lA b L i ∧ m 79 i 1 = lC b L i) ∧ Fj K79 JTm m0 m
theorem tail_b {b : Nat → Int32} {L e : Nat} {k x2 x3 x5 : Int32} {m : Mem} (h : FtM b L k e m) : Tot (r_X12_book_j101_c48 x2 x3 x5 m) (Sum.elim (fun t => FtM b L k e t.2.2 ∧ Fj [] [(12, 4)] m t.2.2) (fun _ => False)) := by
  unfold r_X12_book_j101_c48 r_X12_book_j152_c48
  rw [tot_bd2]
  refine h.next.mono ?_
  rintro ⟨z, m2⟩ ⟨h2, h3⟩
  dsimp only at h2 h3 ⊢
  rw [bd1_s h2.sign, if_neg (by rw [h2.1]; exact h2.2.1), tot_bd1]
  refine h2.bl.mono ?_
  rintro m4 ⟨h4, h5⟩
  exact tot_some.mpr ⟨h4, h3.tr h5⟩
set_option maxHeartbeats 1000000 in
theorem line_m {b : Nat → Int32} {L j : Nat} {x2 x3 : Int32} {m0 m : Mem} (hW : WF (mW m0)) (hN : NB b L j x2 x3 m0 m) (hx : ps b L j < L) (hok : ∀ i, i < j → (lnE (mW m0) b L i).1 = 0) : Tot (r_X12_book_b48 x2 x3 m) (Sum.elim (fun t => ((lnE (mW m0) b L j).1 = 0 → NB b L (j + 1) t.1 t.2.1 m0 t.2.2) ∧ (¬ (lnE (mW m0) b L j).1 = 0 → FtM b L (lnE (mW m0) b L j).1 (lnE (mW m0) b L j).2 t.2.2 ∧ Fj K79 JTm m0 t.2.2)) (fun _ => False)) := by
  obtain ⟨n1, n2, n3, n4, n5, hF⟩ := hN
  subst n1
  have hL := n3.2.2.2.1
  have eW : mW m = mW m0 := mW_fj hF (by decide) (by decide)
  have hP : wP (mW m0) ≤ 12 := hW.1.2
  have p52 : m 52 0 0 = nI (wP (mW m0)) := by
    rw [hF.rw' 52 0 (by decide) (by decide)]
    exact hW.1.1
  unfold r_X12_book_b48 r_X12_placeHere
  rw [if_pos n4, n3.1, n3.2.1, if_neg (nI_ge hx (by omega)), p52, tot_bd2, tot_bd2]
  generalize hw : mW m0 = w at hW eW hP hok ⊢
  refine (number_m n3 n4).mono ?_
  rw [ps_sk]
  rintro ⟨z, m2⟩ ⟨g1, g2, g3⟩
  dsimp only at g1 g2 g3 ⊢
  refine tot_some.mpr ?_
  dsimp only
  have hF2 : Fj K79 JTm m0 m2 := hF.tr (g3.mono (by simp) (by simp))
  have bad : ∀ (k : Int32) (e : Nat) (x5 : Int32) (m5 : Mem), FtM b L k e m5 → Fj K79 JTm m0 m5 → lnE w b L j = (k, e) → Tot (r_X12_book_j101_c48 (nI j) x3 x5 m5) (Sum.elim (fun t => ((lnE w b L j).1 = 0 → NB b L (j + 1) t.1 t.2.1 m0 t.2.2) ∧ (¬ (lnE w b L j).1 = 0 → FtM b L (lnE w b L j).1 (lnE w b L j).2 t.2.2 ∧ Fj K79 JTm m0 t.2.2)) (fun _ => False)) := fun k e x5 m5 h5 hF5 hE => by
    refine (tail_b h5).mono ?_
    rintro (t | t) ht
    · rw [hE]
      exact ⟨fun q => absurd q h5.2.1, fun _ => ⟨ht.1, hF5.tr (ht.2.mono (by simp) (by simp))⟩⟩
    · exact ht
  by_cases c1 : nmE b L 0 (nI (wP w) - 1) (ps b L j) = 0
  case neg =>
    have hE : lnE w b L j = (nmE b L 0 (nI (wP w) - 1) (ps b L j), ps b L j) := by
      unfold lnE
      rw [if_neg c1]
    obtain ⟨e1, e2⟩ := g2 c1
    rw [if_neg (by rw [e2.1]; exact e2.2.1)]
    exact bad _ _ _ _ e2 hF2 hE
  obtain ⟨e1, e2, e3⟩ := g1 c1
  obtain ⟨a, ha, ea⟩ := nm_k (by omega) c1
  have ca : (lA b L j).toNatClampNeg = a := by
    rw [show lA b L j = nI a from ea]
    exact clamp_nI (by omega)
  rw [if_pos e3, e1, ea, has_eq (by omega), n2 a (by omega)]
  by_cases c2 : us b L j a = -1
  case neg =>
    have hE : lnE w b L j = (2, ps b L j) := by
      unfold lnE
      rw [if_pos c1, ca, if_neg c2]
    rw [if_pos (decide_eq_true c2)]
    obtain ⟨m4, w1, w2, w3⟩ := wrong_m (e := ps b L j) (k := 2) e2 e3 (by decide)
    rw [bd1_s w1]
    exact bad _ _ _ _ w2 (hF2.tr (w3.mono (by simp) (by simp))) hE
  rw [if_neg (fun q => (of_decide_eq_true q) c2)]
  unfold r_X12_book_j101_c48 r_X12_book_j152_c48
  rw [tot_bd2]
  have eW2 : mW m2 = w := by
    rw [← hw]
    exact mW_fj hF2 (by decide) (by decide)
  have hnx := nextHere_m (a := a) (by rw [eW2]; exact hW) e2 e3
  rw [eW2] at hnx
  refine hnx.mono ?_
  rintro ⟨z20, m3⟩ ⟨f1, f2, f3⟩
  dsimp only at f1 f2 f3 ⊢
  have hF3 : Fj K79 JTm m0 m3 := hF2.tr (f3.mono (by simp) (by simp))
  rw [tot_bd1]
  by_cases c3 : ngE b L (wP w) (bw w a) (q1 b L (ps b L j)) = 0
  case neg =>
    have hE : lnE w b L j = (ngE b L (wP w) (bw w a) (q1 b L (ps b L j)), q1 b L (ps b L j)) := by
      unfold lnE
      rw [if_pos c1, ca, if_pos c2, if_neg c3]
    have d := f2 c3
    rw [d.sign]
    refine tot_some.mpr ?_
    rw [if_neg (by rw [d.1]; exact d.2.1), tot_bd1]
    refine d.bl.mono ?_
    rintro m4 ⟨h4, h5⟩
    rw [hE]
    exact tot_some.mpr ⟨fun q => absurd q d.2.1, fun _ => ⟨h4, hF3.tr (h5.mono (by simp) (by simp))⟩⟩
  obtain ⟨d1, d2, d3⟩ := f1 c3
  obtain ⟨c, hc, ec⟩ := nm_k (by omega) (ng_0 c3).1
  refine (sign_m (c := 59) d2 d3 (by decide)).mono ?_
  rintro m4 ⟨s1, s2, s3⟩
  have hF4 : Fj K79 JTm m0 m4 := hF3.tr (s3.mono (by simp) (by simp))
  by_cases c4 : bA b L (q2 b L (ps b L j)) = 59
  · have hE : lnE w b L j = (0, 0) := by
      unfold lnE
      rw [if_pos c1, ca, if_pos c2, if_pos c3, if_pos c4]
    obtain ⟨r1, r2⟩ := s1 c4
    have hj : j + 1 ≤ 12 := bk_le (w := w) (b := b) (L := L) hW (fun i hi => by
      by_cases h : i = j
      · rw [h, hE]
      · exact hok i (by omega))
    rw [if_pos r2, if_pos (inb_nI (by omega) (by omega)), clamp_nI (by omega), tot_bd1]
    have hF5 : Fj K79 JTm m0 (wr (wr m4 79 j 0 (nI a)) 79 j 1 z20) := (hF4.wrK (in79 j (by omega)) _ _).wrK (in79 j (by omega)) _ _
    have t5 : TM b L (q2 b L (ps b L j) + 1) (wr (wr m4 79 j 0 (nI a)) 79 j 1 z20) := r1.fj (K := K79) (J := []) ((Fj.rf.wrK (in79 j (by omega)) _ _).wrK (in79 j (by omega)) _ _) (by decide) (by simp)
    have v5 : wr (wr m4 79 j 0 (nI a)) 79 j 1 z20 12 0 5 = 0 := by
      rw [wr_k (by decide), wr_k (by decide)]
      exact r2
    have l5 : ∀ i, i < j + 1 → wr (wr m4 79 j 0 (nI a)) 79 j 1 z20 79 i 0 = lA b L i ∧ wr (wr m4 79 j 0 (nI a)) 79 j 1 z20 79 i 1 = lC b L i := fun i hi => by
      by_cases h : i = j
      · rw [h, wr_j (by decide), wr_eq, wr_eq]
        exact ⟨ea.symm, d1⟩
      · rw [wr_i h, wr_i h, wr_i h, wr_i h, s3 79 i 0 (by simp) (by simp), s3 79 i 1 (by simp) (by simp), f3 79 i 0 (by simp) (by simp), f3 79 i 1 (by simp) (by simp), g3 79 i 0 (by simp) (by simp), g3 79 i 1 (by simp) (by simp)]
        exact n5 i (by omega)
    generalize wr (wr m4 79 j 0 (nI a)) 79 j 1 z20 = m5 at hF5 t5 v5 l5 ⊢
    refine (blanks_m t5).mono ?_
    rintro m6 ⟨h6, h7⟩
    rw [hE]
    refine tot_some.mpr ⟨fun _ => ⟨(nI_succ j).symm, fun x hx2 => ?_, h6, by show m6 12 0 5 = 0; rw [h7 12 0 5 (by simp) (by simp)]; exact v5, fun i hi => ?_, hF5.tr (h7.mono (by simp) (by simp))⟩, fun q => absurd rfl q⟩
    · dsimp only
      rw [b_or, bt_shl1 (by omega) (by omega), n2 x hx2, us_s (by omega) ea ec]
      by_cases h : x = a
      · rw [h, upF_at, decide_eq_true rfl, Bool.or_true, decide_eq_true (m1_ne (by omega))]
      · rw [upF_ne h, decide_eq_false h, Bool.or_false]
    · show m6 79 i 0 = _ ∧ m6 79 i 1 = _
      rw [h7 79 i 0 (by simp) (by simp), h7 79 i 1 (by simp) (by simp)]
      exact l5 i hi
  · have hE : lnE w b L j = (1, q2 b L (ps b L j)) := by
      unfold lnE
      rw [if_pos c1, ca, if_pos c2, if_pos c3, if_neg c4]
    have d := s2 c4
    rw [if_neg (by rw [d.1]; exact d.2.1), tot_bd1]
    refine d.bl.mono ?_
    rintro m5 ⟨h4, h5⟩
    rw [hE]
    exact tot_some.mpr ⟨fun q => absurd q d.2.1, fun _ => ⟨h4, hF4.tr (h5.mono (by simp) (by simp))⟩⟩
theorem lays77 {m : Mem} {n : Nat} (hn : n ≤ 12) : Tot (r_X12_lays_80_78 (nI n) m) (fun m' => (∀ i, i < n → m' 77 i 0 = m 79 i 0 ∧ m' 77 i 1 = m 79 i 1) ∧ Fj K77 [] m m') := by
  unfold r_X12_lays_80_78 r_X12_lays_80_78_l2
  rw [tot_bd1]
  refine tot_for (fun k (t : Int32 × Mem) => t.1 = nI k ∧ (∀ i, i < k → t.2 77 i 0 = m 79 i 0 ∧ t.2 77 i 1 = m 79 i 1) ∧ Fj K77 [] m t.2) n ?_ ?_ 0 _ (Nat.zero_le _) ⟨rfl, fun i h => absurd h (Nat.not_lt_zero i), Fj.rf⟩
  · rintro k ⟨x3, m1⟩ hk ⟨e1, e2, hF⟩
    dsimp only at e1 e2 hF ⊢
    subst e1
    unfold r_X12_lays_80_78_b2 r_X12_lays_80_78_l10_c2
    rw [if_neg (nI_ge hk (by omega)), tot_bd1]
    refine tot_for (fun l (t : Int32 × Mem) => t.1 = nI l ∧ (∀ c, c < l → t.2 77 k c = m 79 k c) ∧ (∀ i, ¬ i = k → t.2 77 i = m1 77 i) ∧ Fj K77 [] m t.2) 2 ?_ ?_ 0 _ (Nat.zero_le _) ⟨rfl, fun c h => absurd h (Nat.not_lt_zero c), fun _ _ => rfl, hF⟩
    · rintro l ⟨x4, m2⟩ hl ⟨f1, f2, f3, hF2⟩
      dsimp only at f1 f2 f3 hF2 ⊢
      subst f1
      unfold r_X12_lays_80_78_b10_c2
      rw [if_pos (inb_nI (k := k) (by omega) (by omega)), if_neg (show ¬ (2 : Int32) ≤ nI (l) from nI_ge (b := 2) (a := l) (by omega) (by omega)), if_pos (inb_nI (k := l) (by omega) (by omega)), clamp_nI (k := k) (by omega), clamp_nI (k := l) (by omega), hF2 79 k l (by simp) (by simp)]
      refine tot_some.mpr ⟨(nI_succ l).symm, fun c hc => ?_, fun i hi => ?_, hF2.wrK (in77 k (by omega)) _ _⟩
      · dsimp only
        rw [wr_if]
        by_cases h : c = l
        · rw [if_pos h, h]
        · rw [if_neg h]
          exact f2 c (by omega)
      · dsimp only
        rw [← f3 i hi]
        funext c
        exact wr_i hi
    · rintro ⟨x4, m2⟩ ⟨f1, f2, f3, hF2⟩
      dsimp only at f1 f2 f3 hF2 ⊢
      subst f1
      unfold r_X12_lays_80_78_b10_c2
      rw [if_pos (inb_nI (k := k) (by omega) (by omega)), if_pos (by decide), tot_some]
      refine tot_some.mpr ⟨(nI_succ k).symm, fun i hi => ?_, hF2⟩
      dsimp only
      by_cases h : i = k
      · rw [h]
        exact ⟨f2 0 (by omega), f2 1 (by omega)⟩
      · rw [f3 i h]
        exact e2 i (by omega)
  · rintro ⟨x3, m1⟩ ⟨e1, e2, hF⟩
    dsimp only at e1 e2 hF ⊢
    subst e1
    unfold r_X12_lays_80_78_b2
    rw [if_pos (nI_le (Nat.le_refl _) (by omega)), tot_some]
    exact tot_some.mpr ⟨e2, hF⟩
abbrev K7779 : List (Nat × Nat) := [(79, 0), (79, 1), (79, 2), (79, 3), (79, 4), (79, 5), (79, 6), (79, 7), (79, 8), (79, 9), (79, 10), (79, 11), (77, 0), (77, 1), (77, 2), (77, 3), (77, 4), (77, 5), (77, 6), (77, 7), (77, 8), (77, 9), (77, 10), (77, 11)]
abbrev JBm : List (Nat × Nat) := [(12, 3), (12, 4), (12, 5), (12, 6), (12, 35)]
set_option maxHeartbeats 1000000 in
theorem readB_m {b : Nat → Int32} {L n : Nat} {ok : Bool} {m : Mem} (hW : WF (mW m)) (h : TM b L (ps b L 0) m) (h5 : m 12 0 5 = 0) (hn : Bn (mW m) b L n ok) : Tot (r_X12_book_l48 0 0 m) (fun q => (ok = true → q.1 = nI n ∧ (∀ i, i < n → q.2 77 i 0 = lA b L i ∧ q.2 77 i 1 = lC b L i) ∧ q.2 12 0 35 = nI n ∧ q.2 12 0 3 = -1) ∧ (ok = false → q.1 = (lnE (mW m) b L n).1 - 10 ∧ q.2 12 0 3 = nI (lnE (mW m) b L n).2 ∧ q.2 12 0 35 = m 12 0 35 ∧ ∀ i, q.2 77 i = m 77 i) ∧ Fj K7779 JBm m q.2) := by
  have hP : wP (mW m) ≤ 12 := hW.1.2
  have hL := h.2.2.2.1
  have hle : n ≤ 12 := bk_le (w := mW m) (b := b) (L := L) hW (fun j hj => (hn.1 j hj).2)
  have N0 : NB b L 0 0 0 m m := ⟨rfl, fun a ha => by rw [b_0]; exact (decide_eq_false (fun q => q rfl)).symm, h, h5, fun i hi => absurd hi (Nat.not_lt_zero i), Fj.rf⟩
  unfold r_X12_book_l48
  rw [tot_bd1]
  rcases hn with ⟨hn1, ⟨ho, hx⟩ | ⟨ho, hx, hE⟩⟩
  · subst ho
    refine tot_for (fun j (t : Int32 × Int32 × Mem) => NB b L j t.1 t.2.1 m t.2.2) n ?_ ?_ 0 _ (Nat.zero_le _) N0
    · rintro j ⟨x2, x3, m1⟩ hj hN
      dsimp only at hN ⊢
      refine (line_m hW hN (hn1 j hj).1 (fun i hi => (hn1 i (by omega)).2)).mono ?_
      rintro (t | t) ht
      · exact ht.1 (hn1 j hj).2
      · exact ht.elim
    · rintro ⟨x2, x3, m1⟩ hN
      dsimp only at hN ⊢
      obtain ⟨n1, n2, n3, n4, n5, hF⟩ := hN
      have hpl : ps b L n ≤ L := n3.2.2.1
      unfold r_X12_book_b48
      rw [if_pos n4, n3.1, n3.2.1, if_pos (nI_le (by omega) (by omega)), tot_some]
      show Tot (r_X12_book_j159 x2 m1) _
      unfold r_X12_book_j159
      rw [if_pos n4, n1, tot_bd1]
      refine (lays77 hle).mono ?_
      rintro m2 ⟨d1, d2⟩
      have o : ∀ i c, wr (wr m1 12 0 3 (-1)) 12 0 35 (nI n) 79 i c = m1 79 i c := fun i c => by rw [wr_k (by decide), wr_k (by decide)]
      refine tot_some.mpr ⟨fun _ => ⟨rfl, fun i hi => ?_, ?_, ?_⟩, fun e => Bool.noConfusion e, ?_⟩
      · dsimp only
        rw [(d1 i hi).1, (d1 i hi).2, o, o]
        exact n5 i hi
      · dsimp only
        rw [d2 12 0 35 (by simp) (by simp), wr_eq]
      · dsimp only
        rw [d2 12 0 3 (by simp) (by simp), wr_j (by decide), wr_eq]
      · exact ((hF.mono (by simp) (by simp)).tr ((Fj.rf.wrJ (by simp) _ _).wrJ (by simp) _ _)).tr (d2.mono (by simp) (by simp))
  · subst ho
    refine tot_for (fun j (t : Int32 × Int32 × Mem) => (j ≤ n → NB b L j t.1 t.2.1 m t.2.2) ∧ (n < j → FtM b L (lnE (mW m) b L n).1 (lnE (mW m) b L n).2 t.2.2 ∧ Fj K79 JTm m t.2.2)) (n + 1) ?_ ?_ 0 _ (Nat.zero_le _) ⟨fun _ => N0, fun h => absurd h (Nat.not_lt_zero n)⟩
    · rintro j ⟨x2, x3, m1⟩ hj ⟨hN, -⟩
      dsimp only at hN ⊢
      have hN' := hN (by omega)
      have hxj : ps b L j < L := by
        by_cases e : j = n
        · rw [e]
          exact hx
        · exact (hn1 j (by omega)).1
      refine (line_m hW hN' hxj (fun i hi => (hn1 i (by omega)).2)).mono ?_
      rintro (t | t) ht
      · refine ⟨fun hle2 => ht.1 (hn1 j (by omega)).2, fun hlt => ?_⟩
        have e : j = n := by omega
        subst e
        exact ht.2 hE
      · exact ht.elim
    · rintro ⟨x2, x3, m1⟩ ⟨-, hT⟩
      dsimp only at hT ⊢
      obtain ⟨d, hF⟩ := hT (by omega)
      unfold r_X12_book_b48
      rw [if_neg (by rw [d.1]; exact d.2.1), tot_some]
      show Tot (r_X12_book_j159 x2 m1) _
      unfold r_X12_book_j159 r_X12_ends
      rw [if_neg (by rw [d.1]; exact d.2.1), bd2_s rfl]
      refine tot_some.mpr ⟨fun e => Bool.noConfusion e, fun _ => ⟨by show m1 12 0 5 - 10 = _; rw [d.1], ?_, ?_, fun i => ?_⟩, (hF.mono (by simp) (by simp)).wrJ (by simp) _ _⟩
      · dsimp only
        rw [wr_eq, d.2.2.1]
      · dsimp only
        rw [wr_j (by decide), hF 12 0 35 (by simp) (by simp)]
      · dsimp only
        funext c
        rw [wr_k (by decide), hF 77 i c (by simp) (by simp)]
theorem book_i5 {w : Wd} {b : Nat → Int32} {L n : Nat} {M : Mem} (hW : WF w) (hM : mW M = w) (hok : ∀ j, j < n → (lnE w b L j).1 = 0) (h1 : M 1 0 0 = nI n) (h35 : M 12 0 35 = nI n) (h77 : ∀ i, i < n → M 77 i 0 = lA b L i ∧ M 77 i 1 = lC b L i) (h36 : ∀ a, a < 12 → M 36 0 a = us b L n a) : I5 M := by
  have hP := hW.1.2
  refine ⟨n, bk_le hW hok, h1, h35, fun j hj => ?_, fun a ha => ?_⟩
  · obtain ⟨a, c, ha, hc, ea, ec, -⟩ := ln_k hW (hok j hj)
    refine ⟨a, c, by rw [hM]; exact ha, by rw [hM]; exact hc, (h77 j hj).1.trans ea, (h77 j hj).2.trans ec, ?_⟩
    rw [h36 a (by omega)]
    exact us_at hW n hok j a c hj ea ec (by omega)
  · rw [h36 a ha]
    rcases us_or hW n hok a with h | ⟨i, hi, h⟩
    · exact Or.inl h
    · exact Or.inr ⟨i, hi, (h77 i hi).1.trans h⟩
