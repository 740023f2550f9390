/-! ===== fewest tellings: the reference, and alike ===== -/
/-- a list of tellings in their order -/
def LTl (w : Wd) (r : Rw) (p B n : Nat) (A C : Nat → Nat) : Prop := (∀ j, j < n → A j < wP w ∧ C j < wP w ∧ ¬ bw w (A j) (C j) = -1 ∧ ¬ r (12 * p + A j) = nI (C j) ∧ 12 * A j + C j < B) ∧ (∀ i j, i < j → j < n → 12 * A i + C i < 12 * A j + C j) ∧ ∀ a c, a < wP w → c < wP w → 12 * a + c < B → ¬ bw w a c = -1 → ¬ r (12 * p + a) = nI c → ∃ j, j < n ∧ A j = a ∧ C j = c
theorem LTl.le {w : Wd} {r : Rw} {p B n : Nat} {A C : Nat → Nat} (hW : WF w) (h : LTl w r p B n A C) : n ≤ 32 := by
  have hP := hW.1.2
  have hD := hW.2.1.2
  refine fb_holes 32 n (fun j => 2 * (bw w (A j) (C j)).toNatClampNeg + (if w 2 (bw w (A j) (C j)).toNatClampNeg = nI (A j) then 0 else 1)) ?_ ?_
  · intro j hj
    obtain ⟨e, he, h1, -⟩ := (bw_or w (A j) (C j)).resolve_left (h.1 j hj).2.2.1
    show 2 * (bw w (A j) (C j)).toNatClampNeg + (if w 2 (bw w (A j) (C j)).toNatClampNeg = nI (A j) then 0 else 1) < 32
    rw [h1, clamp_nI (by omega)]
    by_cases hx : w 2 e = nI (A j)
    · rw [if_pos hx]
      omega
    · rw [if_neg hx]
      omega
  · intro i j hij hj e
    have hi := h.1 i (by omega)
    have hjj := h.1 j hj
    obtain ⟨e1, he1, h1, t1⟩ := (bw_or w (A i) (C i)).resolve_left hi.2.2.1
    obtain ⟨e2, he2, h2, t2⟩ := (bw_or w (A j) (C j)).resolve_left hjj.2.2.1
    have hlt := h.2.1 i j hij hj
    have e' : 2 * (bw w (A i) (C i)).toNatClampNeg + (if w 2 (bw w (A i) (C i)).toNatClampNeg = nI (A i) then 0 else 1) = 2 * (bw w (A j) (C j)).toNatClampNeg + (if w 2 (bw w (A j) (C j)).toNatClampNeg = nI (A j) then 0 else 1) := e
    rw [h1, h2, clamp_nI (by omega), clamp_nI (by omega)] at e'
    have q : ∀ {a b : Nat}, a < wP w → b < wP w → nI a = nI b → a = b := fun ha hb z => (nI_eq (by omega) (by omega)).mp z
    have s1 := of_decide_eq_true t1
    have s2 := of_decide_eq_true t2
    by_cases x1 : w 2 e1 = nI (A i)
    · rw [if_pos x1] at e'
      by_cases x2 : w 2 e2 = nI (A j)
      · rw [if_pos x2] at e'
        have ee : e1 = e2 := by omega
        subst ee
        have a1 : A i = A j := q hi.1 hjj.1 (x1.symm.trans x2)
        have a2 : C i = C j := by
          rcases s1 with ⟨y1, y2⟩ | ⟨y1, y2⟩ <;> rcases s2 with ⟨z1, z2⟩ | ⟨z1, z2⟩
          · exact q hi.2.1 hjj.2.1 (y2.symm.trans z2)
          · have := q hjj.2.1 hjj.1 (z1.symm.trans x2)
            have := q hi.2.1 hjj.1 (y2.symm.trans z2)
            omega
          · have := q hi.2.1 hi.1 (y1.symm.trans x1)
            have := q hi.1 hjj.2.1 (y2.symm.trans z2)
            omega
          · exact q hi.2.1 hjj.2.1 (y1.symm.trans z1)
        rw [a1, a2] at hlt
        exact Nat.lt_irrefl _ hlt
      · rw [if_neg x2] at e'
        omega
    · rw [if_neg x1] at e'
      by_cases x2 : w 2 e2 = nI (A j)
      · rw [if_pos x2] at e'
        omega
      · rw [if_neg x2] at e'
        have ee : e1 = e2 := by omega
        subst ee
        rcases s1 with ⟨y1, y2⟩ | ⟨y1, y2⟩
        · exact absurd y1 x1
        · rcases s2 with ⟨z1, z2⟩ | ⟨z1, z2⟩
          · exact absurd z1 x2
          · have a1 : A i = A j := q hi.1 hjj.1 (y2.symm.trans z2)
            have a2 : C i = C j := q hi.2.1 hjj.2.1 (y1.symm.trans z1)
            rw [a1, a2] at hlt
            exact Nat.lt_irrefl _ hlt
theorem LTl.skip {w : Wd} {r : Rw} {p n a c : Nat} {A C : Nat → Nat} (hW : WF w) (h : LTl w r p (12 * a + c) n A C) (hc : c < wP w) (hx : bw w a c = -1 ∨ r (12 * p + a) = nI c) : LTl w r p (12 * a + (c + 1)) n A C := by
  have hP := hW.1.2
  refine ⟨fun j hj => ?_, h.2.1, fun a' c' ha' hc' hB h1 h2 => ?_⟩
  · obtain ⟨g1, g2, g3, g4, g5⟩ := h.1 j hj
    exact ⟨g1, g2, g3, g4, by omega⟩
  · by_cases e : 12 * a' + c' < 12 * a + c
    · exact h.2.2 a' c' ha' hc' e h1 h2
    · have e1 : a' = a := by omega
      have e2 : c' = c := by omega
      rw [e1, e2] at h1
      rw [e1, e2] at h2
      rcases hx with hx | hx
      · exact absurd hx h1
      · exact absurd hx h2
theorem LTl.add {w : Wd} {r : Rw} {p n a c : Nat} {A C : Nat → Nat} (hW : WF w) (h : LTl w r p (12 * a + c) n A C) (ha : a < wP w) (hc : c < wP w) (h1 : ¬ bw w a c = -1) (h2 : ¬ r (12 * p + a) = nI c) : LTl w r p (12 * a + (c + 1)) (n + 1) (fun j => if j = n then a else A j) (fun j => if j = n then c else C j) := by
  have hP := hW.1.2
  have eA : ∀ j, j < n → (if j = n then a else A j) = A j := fun j hj => if_neg (by omega)
  have eC : ∀ j, j < n → (if j = n then c else C j) = C j := fun j hj => if_neg (by omega)
  have nA : (if n = n then a else A n) = a := if_pos rfl
  have nC : (if n = n then c else C n) = c := if_pos rfl
  refine ⟨fun j hj => ?_, fun i j hij hj => ?_, fun a' c' ha' hc' hB g1 g2 => ?_⟩
  · by_cases e : j = n
    · subst e
      dsimp only
      rw [nA, nC]
      exact ⟨ha, hc, h1, h2, by omega⟩
    · dsimp only
      rw [eA j (by omega), eC j (by omega)]
      obtain ⟨g1, g2, g3, g4, g5⟩ := h.1 j (by omega)
      exact ⟨g1, g2, g3, g4, by omega⟩
  · dsimp only
    rw [eA i (by omega), eC i (by omega)]
    by_cases e : j = n
    · subst e
      rw [nA, nC]
      exact (h.1 i hij).2.2.2.2
    · rw [eA j (by omega), eC j (by omega)]
      exact h.2.1 i j hij (by omega)
  · by_cases e : 12 * a' + c' < 12 * a + c
    · obtain ⟨j, hj, q1, q2⟩ := h.2.2 a' c' ha' hc' e g1 g2
      exact ⟨j, by omega, by dsimp only; rw [eA j hj, q1], by dsimp only; rw [eC j hj, q2]⟩
    · exact ⟨n, by omega, by dsimp only; rw [nA]; omega, by dsimp only; rw [nC]; omega⟩
theorem LTl.row {w : Wd} {r : Rw} {p n a : Nat} {A C : Nat → Nat} (hW : WF w) (h : LTl w r p (12 * a + wP w) n A C) : LTl w r p (12 * (a + 1) + 0) n A C := by
  have hP := hW.1.2
  refine ⟨fun j hj => ?_, h.2.1, fun a' c' ha' hc' hB h1 h2 => h.2.2 a' c' ha' hc' (by omega) h1 h2⟩
  obtain ⟨g1, g2, g3, g4, g5⟩ := h.1 j hj
  exact ⟨g1, g2, g3, g4, by omega⟩
/-- the list in the memory -/
def LTm (w : Wd) (r : Rw) (p n : Nat) (A C : Nat → Nat) (m : Mem) : Prop := m 12 0 47 = nI n ∧ ∀ j, j < n → m 85 j 0 = nI (A j) ∧ m 85 j 1 = nI (C j) ∧ m 59 0 j = trn w r p (A j) (C j)
abbrev K85 : List (Nat × Nat) := [(85, 0), (85, 1), (85, 2), (85, 3), (85, 4), (85, 5), (85, 6), (85, 7), (85, 8), (85, 9), (85, 10), (85, 11), (85, 12), (85, 13), (85, 14), (85, 15), (85, 16), (85, 17), (85, 18), (85, 19), (85, 20), (85, 21), (85, 22), (85, 23), (85, 24), (85, 25), (85, 26), (85, 27), (85, 28), (85, 29), (85, 30), (85, 31), (55, 0), (56, 0), (60, 1), (59, 0)]
theorem in85 : ∀ a, a < 32 → (85, a) ∈ K85 := by decide
abbrev J85 : List (Nat × Nat) := [(12, 47)]
set_option maxHeartbeats 1000000 in
theorem laysT_m {m : Mem} {p : Nat} (hW : WF (mW m)) (hp : p < wN (mW m)) : Tot (r_X12_laysTells (nI p) m) (fun m' => (∃ n A C, LTl (mW m) (m 60 0) p (12 * wP (mW m) + 0) n A C ∧ LTm (mW m) (m 60 0) p n A C m') ∧ Fj K85 J85 m m') := by
  have hP := hW.1
  have hD := hW.2.1
  have hN := hW.2.2.1.2
  have eW : ∀ m', Fj K85 J85 m m' → mW m' = mW m := fun m' hF => mW_fj hF (by decide) (by decide)
  have e60 : ∀ m', Fj K85 J85 m m' → m' 60 0 = m 60 0 := fun m' hF => hF.rw' 60 0 (by decide) (by decide)
  have e52 : ∀ m', Fj K85 J85 m m' → m' 52 0 = m 52 0 := fun m' hF => hF.rw' 52 0 (by decide) (by decide)
  have p52 : m 52 0 0 = nI (wP (mW m)) := hP.1
  have d52 : m 52 0 1 = nI (wD (mW m)) := hD.1
  generalize hw : mW m = w at hW hP hD hN eW p52 d52 hp ⊢
  generalize hr : m 60 0 = r at e60 ⊢
  unfold r_X12_laysTells r_X12_laysTells_l7
  rw [tot_bd1]
  refine tot_for (fun k (t : Int32 × Mem) => t.1 = nI k ∧ (∃ n A C, LTl w r p (12 * k + 0) n A C ∧ LTm w r p n A C t.2) ∧ Fj K85 J85 m t.2) (wP w) ?_ ?_ 0 _ (Nat.zero_le _) ⟨rfl, ⟨0, fun _ => 0, fun _ => 0, ⟨fun j hj => absurd hj (Nat.not_lt_zero j), fun i j _ hj => absurd hj (Nat.not_lt_zero j), fun a c _ _ h => absurd h (Nat.not_lt_zero _)⟩, ⟨show wr m 12 0 47 0 12 0 47 = (0 : Int32) from wr_eq _ _ _ _ _, fun j hj => absurd hj (Nat.not_lt_zero j)⟩⟩, Fj.rf.wrJ (by simp) _ _⟩
  · rintro k ⟨x2, m1⟩ hk ⟨e1, e2, hF⟩
    dsimp only at e1 e2 hF ⊢
    subst e1
    unfold r_X12_laysTells_b7 r_X12_laysTells_l19_c7
    rw [e52 m1 hF, p52, if_neg (nI_ge hk (by omega)), tot_bd1]
    refine tot_for (fun l (t : Int32 × Mem) => t.1 = nI l ∧ (∃ n A C, LTl w r p (12 * k + l) n A C ∧ LTm w r p n A C t.2) ∧ Fj K85 J85 m t.2) (wP w) ?_ ?_ 0 _ (Nat.zero_le _) ⟨rfl, e2, hF⟩
    · rintro l ⟨x3, m2⟩ hl ⟨f1, ⟨n, A, C, hl1, hl2⟩, hF2⟩
      dsimp only at f1 hl2 hF2 ⊢
      subst f1
      unfold r_X12_laysTells_b19_c7 r_X12_laysTells_j136_c19
      rw [e52 m2 hF2, p52, if_neg (nI_ge hl (by omega)), bd1_s (btw_eq (D := wD w) (by rw [e52 m2 hF2]; exact d52) hD.2), eW m2 hF2]
      by_cases hz : bw w k l = -1
      · rw [if_pos hz]
        exact tot_some.mpr ⟨(nI_succ l).symm, ⟨n, A, C, hl1.skip hW hl (Or.inl hz), hl2⟩, hF2⟩
      · rw [if_neg hz, ix12', if_pos (inb_nI (by omega) (by omega)), clamp_nI (by omega), e60 m2 hF2]
        by_cases hq : r (12 * p + k) = nI l
        · rw [if_pos hq]
          exact tot_some.mpr ⟨(nI_succ l).symm, ⟨n, A, C, hl1.skip hW hl (Or.inr hq), hl2⟩, hF2⟩
        · rw [if_neg hq, tot_bd1]
          have hl3 := hl1.add hW hk hl hz hq
          have hn := hl3.le hW
          refine (copies_tot (i0 := 0) (i1 := 1) (by decide)).mono ?_
          rintro m3 ⟨c1, c2⟩
          rw [e60 m2 hF2] at c1
          have hF3 : Fj K85 J85 m m3 := hF2.tr ((c2.mono (by simp)).j)
          have q47 : m3 12 0 47 = nI n := by rw [c2 12 0 (by decide)]; exact hl2.1
          rw [q47, if_pos (inb_nI (by omega) (by omega)), clamp_nI (by omega), tot_bd2]
          have hF4 : Fj K85 J85 m (wr (wr (wr m3 60 1 (12 * p + k) (nI l)) 85 n 0 (nI k)) 85 n 1 (nI l)) := ((hF3.wrK (by simp) _ _).wrK (in85 n (by omega)) _ _).wrK (in85 n (by omega)) _ _
          have r4 : Er (wr (wr (wr m3 60 1 (12 * p + k) (nI l)) 85 n 0 (nI k)) 85 n 1 (nI l) 60 1) (tlr r (12 * p + k) (nI l)) := fun q hq => by
            rw [wr_k (by decide), wr_k (by decide), wr_if]
            unfold tlr
            by_cases h : q = 12 * p + k
            · rw [if_pos h, if_pos h]
            · rw [if_neg h, if_neg h, c1 q hq]
          have k4 : ∀ a b c, ¬ a = 60 → ¬ a = 85 → wr (wr (wr m3 60 1 (12 * p + k) (nI l)) 85 n 0 (nI k)) 85 n 1 (nI l) a b c = m2 a b c := fun a b c h1 h2 => by
            rw [wr_k h2, wr_k h2, wr_k h1, c2 a b (fun h => by simp at h; exact h1 h.1)]
          have l4 : ∀ j c, ¬ j = n → wr (wr (wr m3 60 1 (12 * p + k) (nI l)) 85 n 0 (nI k)) 85 n 1 (nI l) 85 j c = m2 85 j c := fun j c hj => by
            rw [wr_i hj, wr_i hj, wr_k (by decide), c2 85 j (by simp)]
          have n40 : wr (wr (wr m3 60 1 (12 * p + k) (nI l)) 85 n 0 (nI k)) 85 n 1 (nI l) 85 n 0 = nI k := by rw [wr_j (by decide), wr_eq]
          have n41 : wr (wr (wr m3 60 1 (12 * p + k) (nI l)) 85 n 0 (nI k)) 85 n 1 (nI l) 85 n 1 = nI l := wr_eq _ _ _ _ _
          generalize wr (wr (wr m3 60 1 (12 * p + k) (nI l)) 85 n 0 (nI k)) 85 n 1 (nI l) = m4 at hF4 r4 k4 l4 n40 n41 ⊢
          have hW4 : WF (mW m4) := by rw [eW m4 hF4]; exact hW
          refine (nextOf_tot (i := 1) hW4 (by omega)).mono ?_
          rintro ⟨z, m5⟩ ⟨g1, g2⟩
          dsimp only at g1 g2 ⊢
          rw [eW m4 hF4, nxt_er hW r4 (by omega)] at g1
          have hF5 : Fj K85 J85 m m5 := hF4.tr ((g2.mono (by simp)).j)
          refine tot_some.mpr ⟨(nI_succ l).symm, ⟨n + 1, _, _, hl3, ?_, fun j hj => ?_⟩, (hF5.wrK (by simp) _ _).wrJ (by simp) _ _⟩
          · dsimp only
            rw [wr_eq, g2 12 0 (by decide), k4 12 0 47 (by decide) (by decide), hl2.1, nI_succ]
          · dsimp only
            by_cases hjn : j = n
            · rw [if_pos hjn, if_pos hjn, hjn, wr_k (by decide), wr_k (by decide), wr_k (by decide), wr_k (by decide), wr_k (by decide), wr_eq, g2 85 n (by simp)]
              exact ⟨n40, n41, g1⟩
            · rw [if_neg hjn, if_neg hjn, wr_k (by decide), wr_k (by decide), wr_k (by decide), wr_k (by decide), wr_k (by decide), wr_j hjn, g2 85 j (by simp), g2 59 0 (by decide), l4 j 0 hjn, l4 j 1 hjn, k4 59 0 j (by decide) (by decide)]
              exact hl2.2 j (by omega)
    · rintro ⟨x3, m2⟩ ⟨f1, ⟨n, A, C, hl1, hl2⟩, hF2⟩
      dsimp only at f1 hl2 hF2 ⊢
      subst f1
      unfold r_X12_laysTells_b19_c7
      rw [e52 m2 hF2, p52, if_pos (nI_le (Nat.le_refl _) (by omega)), tot_some]
      exact tot_some.mpr ⟨(nI_succ k).symm, ⟨n, A, C, hl1.row hW, hl2⟩, hF2⟩
  · rintro ⟨x2, m1⟩ ⟨e1, e2, hF⟩
    dsimp only at e1 e2 hF ⊢
    subst e1
    unfold r_X12_laysTells_b7
    rw [e52 m1 hF, p52, if_pos (nI_le (Nat.le_refl _) (by omega)), tot_some]
    exact tot_some.mpr ⟨e2, hF⟩
theorem FF.cg {P : Nat} {f g : Nat → Int32} {s : Int32} (h : FF P f s) (e : ∀ a, a < P → f a = g a) : FF P g s := ⟨h.1, h.2.1, fun a ha => by rw [← e a ha]; exact h.2.2 a ha⟩
abbrev KB : List (Nat × Nat) := [(57, 0), (58, 0)]
def RC (w : Wd) (r : Rw) (p b a c a2 c2 : Nat) : Prop := bt (cbi (upF (upF (nxt w r) a (trn w r p a c)) a2 (trn w r p a2 c2)) (spr w)) b = true
set_option maxHeartbeats 1000000 in
theorem comesBy_m {m : Mem} {w : Wd} {r : Rw} {p B n b i j : Nat} {A C : Nat → Nat} (hW : WF w) (hm : mW m = w) (hl : LTl w r p B n A C) (h2 : LTm w r p n A C m) (h57 : ∀ a, a < wP w → m 57 0 a = nxt w r a) (hi : i < n) (hj : j < n) (hb : b < wP w) : Tot (r_X12_comesBy (nI i) (nI j) (nI b) m) (fun q => (q.1 = true ↔ RC w r p b (A i) (C i) (A j) (C j)) ∧ q.2 57 0 = m 57 0 ∧ Fj KB [(12, 42)] m q.2) := by
  have hP := hW.1
  have hn := hl.le hW
  have hAi := (hl.1 i hi).1
  have hAj := (hl.1 j hj).1
  have p52 : m 52 0 0 = nI (wP w) := by rw [← hP.1, ← hm]; rfl
  have s52 : m 52 0 3 = w 0 3 := by rw [← hm]; rfl
  unfold r_X12_comesBy
  rw [if_pos (inb_nI (k := i) (by omega) (by omega)), if_pos (inb_nI (k := j) (by omega) (by omega)), clamp_nI (k := i) (by omega), clamp_nI (k := j) (by omega), (h2.2 i hi).1, (h2.2 j hj).1, if_pos (inb_nI (k := A i) (by omega) (by omega)), if_pos (inb_nI (k := A j) (by omega) (by omega)), clamp_nI (k := A i) (by omega), clamp_nI (k := A j) (by omega), (h2.2 i hi).2.2, (h2.2 j hj).2.2, tot_bd2]
  generalize hTi : trn w r p (A i) (C i) = Ti
  generalize hTj : trn w r p (A j) (C j) = Tj
  have oi : okV (wP w) Ti := by rw [← hTi]; exact trn_ok w r p _ _
  have oj : okV (wP w) Tj := by rw [← hTj]; exact trn_ok w r p _ _
  have hFF := ((FF_of hW r).up (a := A i) oi).up (a := A j) oj
  have eF : ∀ a, a < wP w → upF (upF (nxt w r) (A i) Ti) (A j) Tj a = wr (wr m 57 0 (A i) Ti) 57 0 (A j) Tj 57 0 a := fun a ha => by
    rw [wr_if, wr_if, h57 a ha]
    rfl
  have hF0 : Fj KB [(12, 42)] m (wr (wr m 57 0 (A i) Ti) 57 0 (A j) Tj) := (Fj.rf.wrK (by simp) _ _).wrK (by simp) _ _
  have e57 : ∀ x, ¬ x = A i → ¬ x = A j → wr (wr m 57 0 (A i) Ti) 57 0 (A j) Tj 57 0 x = m 57 0 x := fun x h1 h2 => by rw [wr_j h2, wr_j h1]
  generalize wr (wr m 57 0 (A i) Ti) 57 0 (A j) Tj = m1 at eF hF0 e57 ⊢
  have e52 : m1 52 0 = m 52 0 := hF0.rw' 52 0 (by decide) (by decide)
  refine (courseBits_tot (P := wP w) (s := spr w) (by rw [e52]; exact p52) (by rw [e52, s52]; rfl) (hFF.cg eF)).mono ?_
  rintro ⟨z, m2⟩ ⟨g1, -, -, g2⟩
  dsimp only at g1 g2 ⊢
  rw [has_eq (by omega), g1, ← cbi_cg hFF eF]
  refine tot_some.mpr ⟨?_, ?_, ((hF0.tr (g2.mono (by simp) (by simp))).wrK (by simp) _ _).wrK (by simp) _ _⟩
  · unfold RC
    rw [hTi, hTj]
  · dsimp only
    funext x
    rw [wr_if]
    by_cases h1 : x = A i
    · rw [if_pos h1, h1]
    · rw [if_neg h1, wr_if]
      by_cases h3 : x = A j
      · rw [if_pos h3, h3]
      · rw [if_neg h3, g2.rw' 57 0 (by decide) (by decide), e57 x h1 h3]
def PQ (w : Wd) (r : Rw) (p b n : Nat) (A C : Nat → Nat) (xx j : Nat) : Prop := ∃ j2, j2 < n ∧ (xx = 1 → j2 = j) ∧ RC w r p b (A j) (C j) (A j2) (C j2)
def Kp (m0 m1 : Mem) : Prop := Fj KB [(12, 42)] m0 m1 ∧ m1 57 0 = m0 57 0
theorem LTm.kp {w : Wd} {r : Rw} {p n : Nat} {A C : Nat → Nat} {m m' : Mem} (h : LTm w r p n A C m) (hF : Fj KB [(12, 42)] m m') : LTm w r p n A C m' := by
  refine ⟨by rw [hF 12 0 47 (by decide) (by decide)]; exact h.1, fun j hj => ?_⟩
  rw [hF.rw' 85 j (by simp) (by simp), hF.rw' 59 0 (by decide) (by decide)]
  exact h.2 j hj
set_option maxHeartbeats 1000000 in
theorem tell_in {m0 m : Mem} {w : Wd} {r : Rw} {p B n b j xx lo hi : Nat} {x3 : Int32} {A C : Nat → Nat} (hW : WF w) (hm : mW m0 = w) (hl : LTl w r p B n A C) (h2 : LTm w r p n A C m0) (h57 : ∀ a, a < wP w → m0 57 0 a = nxt w r a) (hb : b < wP w) (hj : j < n) (hc : (xx = 1 ∧ lo = j ∧ hi = j + 1) ∨ (xx = 2 ∧ lo = 0 ∧ hi = n)) (hK : Kp m0 m) : Tot (r_X12_tellings_l125_c102 (nI b) x3 (nI xx) (nI j) (nI lo) m) (Sum.elim (fun t : Int32 × Mem => t.1 = nI (j + 1) ∧ ¬ PQ w r p b n A C xx j ∧ Kp m0 t.2) (Sum.elim (fun _ : Mem => False) (fun y : Int32 × Mem => PQ w r p b n A C xx j ∧ y.1 = (if x3 = 0 then nI xx else nI (100 * A j + C j)) ∧ Fj KB [(12, 42)] m0 y.2))) := by
  have hP := hW.1
  have hn := hl.le hW
  unfold r_X12_tellings_l125_c102
  rw [tot_bdS]
  have hb1 : ∀ x6 m1, Kp m0 m1 → r_X12_tellings_b125_c102 (nI b) x3 (nI xx) (nI j) x6 m1 = r_X12_tellings_j144_c125 (nI b) x3 (nI xx) (nI j) x6 (nI hi) x6 m1 := fun x6 m1 hK1 => by
    unfold r_X12_tellings_b125_c102
    rcases hc with ⟨h1, -, h3⟩ | ⟨h1, -, h3⟩
    · subst h1
      rw [if_pos (show nI 1 = 1 from rfl), h3, nI_succ j]
    · subst h1
      rw [if_neg (by decide), (h2.kp hK1.1).1, h3]
  refine tot_for (fun k (t : Int32 × Mem) => t.1 = nI k ∧ lo ≤ k ∧ (∀ j2, lo ≤ j2 → j2 < k → ¬ RC w r p b (A j) (C j) (A j2) (C j2)) ∧ Kp m0 t.2) hi ?_ ?_ lo _ (by omega) ⟨rfl, Nat.le_refl _, fun j2 h1 h2 => by omega, hK⟩
  · rintro k ⟨x6, m1⟩ hk ⟨e1, e2, e3, hK1⟩
    dsimp only at e1 e2 e3 hK1 ⊢
    subst e1
    rw [hb1 _ _ hK1]
    unfold r_X12_tellings_j144_c125
    have hkn : k < n := by omega
    have hm1 : mW m1 = w := (mW_fj hK1.1 (by decide) (by decide)).trans hm
    rw [if_neg (nI_ge hk (by omega)), tot_bd2]
    refine (comesBy_m hW hm1 hl (h2.kp hK1.1) (fun a ha => by rw [hK1.2]; exact h57 a ha) hj hkn hb).mono ?_
    rintro ⟨z, m2⟩ ⟨g1, g2, g3⟩
    dsimp only at g1 g2 g3 ⊢
    have hF2 := hK1.1.tr g3
    by_cases hz : z = true
    · have hq : PQ w r p b n A C xx j := ⟨k, hkn, fun h => by omega, g1.mp hz⟩
      rw [if_pos hz]
      by_cases h0 : x3 = 0
      · rw [if_pos h0, if_pos h0]
        refine tot_some.mpr ?_
        show Tot (some (Sum.inr (Sum.inr (nI xx, m2)))) _
        exact tot_some.mpr ⟨hq, rfl, hF2⟩
      · rw [if_neg h0, if_neg h0, if_pos (inb_nI (k := j) (by omega) (by omega)), clamp_nI (k := j) (by omega), ((h2.kp hF2).2 j hj).1, ((h2.kp hF2).2 j hj).2.1, ix100]
        refine tot_some.mpr ?_
        show Tot (some (Sum.inr (Sum.inr (nI (100 * A j + C j), m2)))) _
        exact tot_some.mpr ⟨hq, rfl, hF2⟩
    · rw [if_neg hz]
      refine tot_some.mpr ⟨(nI_succ k).symm, by omega, fun j2 q1 q2 => ?_, hF2, g2.trans hK1.2⟩
      by_cases h : j2 = k
      · rw [h]
        exact fun q => hz (g1.mpr q)
      · exact e3 j2 q1 (by omega)
  · rintro ⟨x6, m1⟩ ⟨e1, e2, e3, hK1⟩
    dsimp only at e1 e2 e3 hK1 ⊢
    subst e1
    rw [hb1 _ _ hK1]
    unfold r_X12_tellings_j144_c125
    rw [if_pos (nI_le (Nat.le_refl _) (by omega)), tot_some]
    show Tot (r_X12_tellings_e197_h125_c102 _ _ _ _ m1) _
    unfold r_X12_tellings_e197_h125_c102
    refine tot_some.mpr ⟨(nI_succ j).symm, ?_, hK1⟩
    rintro ⟨j2, q1, q2, q3⟩
    exact e3 j2 (by omega) (by omega) q3
set_option maxHeartbeats 1000000 in
theorem tell_rows {m0 m : Mem} {w : Wd} {r : Rw} {p B n b xx : Nat} {x3 : Int32} {A C : Nat → Nat} (hW : WF w) (hm : mW m0 = w) (hl : LTl w r p B n A C) (h2 : LTm w r p n A C m0) (h57 : ∀ a, a < wP w → m0 57 0 a = nxt w r a) (hb : b < wP w) (hx : xx = 1 ∨ xx = 2) (hK : Kp m0 m) : Tot (r_X12_tellings_l102_c93 (nI b) x3 (nI xx) 0 m) (Sum.elim (fun t : Int32 × Mem => t.1 = nI (xx + 1) ∧ (∀ j, j < n → ¬ PQ w r p b n A C xx j) ∧ Kp m0 t.2) (Sum.elim (fun _ : Mem => False) (fun y : Int32 × Mem => (∃ j, j < n ∧ PQ w r p b n A C xx j ∧ (∀ i, i < j → ¬ PQ w r p b n A C xx i) ∧ y.1 = (if x3 = 0 then nI xx else nI (100 * A j + C j))) ∧ Fj KB [(12, 42)] m0 y.2))) := by
  have hn := hl.le hW
  unfold r_X12_tellings_l102_c93
  rw [tot_bdS]
  refine tot_for (fun k (t : Int32 × Mem) => t.1 = nI k ∧ (∀ j, j < k → ¬ PQ w r p b n A C xx j) ∧ Kp m0 t.2) n ?_ ?_ 0 _ (Nat.zero_le _) ⟨rfl, fun j h => absurd h (Nat.not_lt_zero j), hK⟩
  · rintro k ⟨x5, m1⟩ hk ⟨e1, e2, hK1⟩
    dsimp only at e1 e2 hK1 ⊢
    subst e1
    unfold r_X12_tellings_b102_c93 r_X12_tellings_j123_c102
    rw [(h2.kp hK1.1).1, if_neg (nI_ge hk (by omega))]
    have hin : Tot (if nI xx = 1 then r_X12_tellings_l125_c102 (nI b) x3 (nI xx) (nI k) (nI k) m1 else r_X12_tellings_l125_c102 (nI b) x3 (nI xx) (nI k) 0 m1) (Sum.elim (fun t : Int32 × Mem => t.1 = nI (k + 1) ∧ ¬ PQ w r p b n A C xx k ∧ Kp m0 t.2) (Sum.elim (fun _ : Mem => False) (fun y : Int32 × Mem => PQ w r p b n A C xx k ∧ y.1 = (if x3 = 0 then nI xx else nI (100 * A k + C k)) ∧ Fj KB [(12, 42)] m0 y.2))) := by
      rcases hx with h | h
      · subst h
        rw [if_pos (show nI 1 = 1 from rfl)]
        exact tell_in (lo := k) (hi := k + 1) hW hm hl h2 h57 hb hk (Or.inl ⟨rfl, rfl, rfl⟩) hK1
      · subst h
        rw [if_neg (by decide)]
        exact tell_in (lo := 0) (hi := n) hW hm hl h2 h57 hb hk (Or.inr ⟨rfl, rfl, rfl⟩) hK1
    refine hin.mono ?_
    rintro (⟨y1, y2⟩ | y | ⟨y1, y2⟩) hy
    · exact ⟨hy.1, lt_ex e2 hy.2.1, hy.2.2⟩
    · exact hy.elim
    · exact tot_some.mpr ⟨⟨k, hk, hy.1, e2, hy.2.1⟩, hy.2.2⟩
  · rintro ⟨x5, m1⟩ ⟨e1, e2, hK1⟩
    dsimp only at e1 e2 hK1 ⊢
    subst e1
    unfold r_X12_tellings_b102_c93
    rw [(h2.kp hK1.1).1, if_pos (nI_le (Nat.le_refl _) (by omega)), tot_some]
    exact tot_some.mpr ⟨(nI_succ xx).symm, e2, hK1⟩
theorem Fst.of {w : Wd} {r : Rw} {p n : Nat} {A C : Nat → Nat} {pr : Nat → Nat → Prop} {pq : Nat → Prop} (hW : WF w) (hl : LTl w r p (12 * wP w + 0) n A C) (h1 : ∀ a c, a < wP w → c < wP w → pr a c → ∃ j, j < n ∧ A j = a ∧ C j = c) (h2 : ∀ j, j < n → (pq j ↔ pr (A j) (C j))) : ((∀ j, j < n → ¬ pq j) → Fst (wP w) pr (-1)) ∧ ∀ j, j < n → pq j → (∀ i, i < j → ¬ pq i) → Fst (wP w) pr (nI (100 * A j + C j)) := by
  have hP := hW.1.2
  constructor
  · intro h
    refine Or.inl ⟨rfl, fun a c ha hc q => ?_⟩
    obtain ⟨j, hj, rfl, rfl⟩ := h1 a c ha hc q
    exact h j hj ((h2 j hj).mpr q)
  · intro j hj hq hmin
    refine Or.inr ⟨A j, C j, (hl.1 j hj).1, (hl.1 j hj).2.1, (h2 j hj).mp hq, rfl, fun a c ha hc q => ?_⟩
    obtain ⟨i, hi, rfl, rfl⟩ := h1 a c ha hc q
    have h3 : ¬ i < j := fun h => hmin i h ((h2 i hi).mpr q)
    have h4 := (hl.1 j hj).2.1
    by_cases e : i = j
    · subst e
      right
      exact ⟨rfl, Nat.le_refl _⟩
    · have := hl.2.1 j i (by omega) hi
      omega
theorem pr1_in {w : Wd} {r : Rw} {p b n : Nat} {A C : Nat → Nat} (hW : WF w) (hl : LTl w r p (12 * wP w + 0) n A C) (h0 : rc0 w r b = false) {a c : Nat} (ha : a < wP w) (hc : c < wP w) (h : PR1 w r p b a c) : ∃ j, j < n ∧ A j = a ∧ C j = c := by
  have hP := hW.1.2
  refine hl.2.2 a c ha hc (by omega) h.1 (fun e => ?_)
  have := h.2
  rw [trn_same e, upF_id] at this
  unfold rc0 at h0
  rw [h0] at this
  cases this
theorem pr2_in {w : Wd} {r : Rw} {p b n : Nat} {A C : Nat → Nat} (hW : WF w) (hl : LTl w r p (12 * wP w + 0) n A C) (hno : ∀ a c, a < wP w → c < wP w → ¬ PR1 w r p b a c) {a c : Nat} (ha : a < wP w) (hc : c < wP w) (h : PR2 w r p b a c) : ∃ j, j < n ∧ A j = a ∧ C j = c := by
  have hP := hW.1.2
  refine hl.2.2 a c ha hc (by omega) h.1 (fun e => ?_)
  obtain ⟨-, a2, c2, ha2, hc2, h1, h2, h3⟩ := h
  rw [trn_same e, upF_id] at h3
  exact hno a2 c2 ha2 hc2 ⟨h2, h3⟩
theorem pq1_pr {w : Wd} {r : Rw} {p b n : Nat} {A C : Nat → Nat} (hl : LTl w r p (12 * wP w + 0) n A C) {j : Nat} (hj : j < n) : PQ w r p b n A C 1 j ↔ PR1 w r p b (A j) (C j) := by
  constructor
  · rintro ⟨j2, h1, h2, h3⟩
    rw [h2 rfl] at h3
    unfold RC at h3
    rw [upF_up] at h3
    exact ⟨(hl.1 j hj).2.2.1, h3⟩
  · rintro ⟨-, h⟩
    refine ⟨j, hj, fun _ => rfl, ?_⟩
    unfold RC
    rw [upF_up]
    exact h
theorem pq2_pr {w : Wd} {r : Rw} {p b n : Nat} {A C : Nat → Nat} (hW : WF w) (hl : LTl w r p (12 * wP w + 0) n A C) (hno : ∀ a c, a < wP w → c < wP w → ¬ PR1 w r p b a c) {j : Nat} (hj : j < n) : PQ w r p b n A C 2 j ↔ PR2 w r p b (A j) (C j) := by
  have hP := hW.1.2
  have hjj := hl.1 j hj
  constructor
  · rintro ⟨j2, h1, -, h3⟩
    have hj2 := hl.1 j2 h1
    refine ⟨hjj.2.2.1, A j2, C j2, hj2.1, hj2.2.1, fun e => ?_, hj2.2.2.1, h3⟩
    unfold RC at h3
    rw [← e, upF_up] at h3
    exact hno _ _ hj2.1 hj2.2.1 ⟨hj2.2.2.1, h3⟩
  · rintro ⟨-, a2, c2, ha2, hc2, h1, h2, h3⟩
    have hin : ∃ k, k < n ∧ A k = a2 ∧ C k = c2 := by
      refine hl.2.2 a2 c2 ha2 hc2 (by omega) h2 (fun e => ?_)
      rw [trn_same e, show nxt w r a2 = upF (nxt w r) (A j) (trn w r p (A j) (C j)) a2 from (upF_ne h1).symm, upF_id] at h3
      exact hno _ _ hjj.1 hjj.2.1 ⟨hjj.2.2.1, h3⟩
    obtain ⟨k, hk, rfl, rfl⟩ := hin
    exact ⟨k, hk, fun h => absurd h (by decide), h3⟩
set_option maxHeartbeats 1000000 in
theorem tells_m {m0 : Mem} {w : Wd} {r : Rw} {p n b : Nat} {x3 : Int32} {A C : Nat → Nat} (hW : WF w) (hm : mW m0 = w) (hl : LTl w r p (12 * wP w + 0) n A C) (h2 : LTm w r p n A C m0) (h57 : ∀ a, a < wP w → m0 57 0 a = nxt w r a) (hb : b < wP w) (h0 : rc0 w r b = false) : Tot (r_X12_tellings_l93 (nI b) x3 1 m0) (fun q => (∃ z0 z1, TA w r p b z0 z1 ∧ q.1 = if x3 = 0 then z0 else z1) ∧ Fj KB [(12, 42)] m0 q.2) := by
  have F1 := Fst.of (pr := PR1 w r p b) (pq := PQ w r p b n A C 1) hW hl (fun a c ha hc h => pr1_in hW hl h0 ha hc h) (fun j hj => pq1_pr hl hj)
  have no1 : (∀ j, j < n → ¬ PQ w r p b n A C 1 j) → ∀ a c, a < wP w → c < wP w → ¬ PR1 w r p b a c := fun h a c ha hc q => by
    obtain ⟨j, hj, rfl, rfl⟩ := pr1_in hW hl h0 ha hc q
    exact h j hj ((pq1_pr hl hj).mpr q)
  have F2 := fun hno => Fst.of (pr := PR2 w r p b) (pq := PQ w r p b n A C 2) hW hl (fun a c ha hc h => pr2_in hW hl (no1 hno) ha hc h) (fun j hj => pq2_pr hW hl (no1 hno) hj)
  have hP := hW.1.2
  have ne : ∀ j, j < n → ¬ nI (100 * A j + C j) = (-1 : Int32) := fun j hj => by
    have := hl.1 j hj
    exact m1_ne (by omega)
  unfold r_X12_tellings_l93
  rw [tot_bdS]
  refine tot_for (fun k (t : Int32 × Mem) => t.1 = nI (k + 1) ∧ (∀ xx, 1 ≤ xx → xx ≤ k → ∀ j, j < n → ¬ PQ w r p b n A C xx j) ∧ Kp m0 t.2) 2 ?_ ?_ 0 _ (Nat.zero_le _) ⟨rfl, fun xx h1 h2 => by omega, Fj.rf, rfl⟩
  · rintro k ⟨x4, m1⟩ hk ⟨e1, e2, hK1⟩
    dsimp only at e1 e2 hK1 ⊢
    subst e1
    unfold r_X12_tellings_b93
    rw [if_neg (show ¬ (3 : Int32) ≤ nI (k + 1) from nI_ge (b := 3) (a := k + 1) (by omega) (by omega))]
    refine (tell_rows (xx := k + 1) (x3 := x3) hW hm hl h2 h57 hb (by omega) hK1).mono ?_
    rintro (⟨y1, y2⟩ | y | ⟨y1, y2⟩) hy
    · refine ⟨hy.1, fun xx q1 q2 => ?_, hy.2.2⟩
      by_cases h : xx = k + 1
      · rw [h]
        exact hy.2.1
      · exact e2 xx q1 (by omega)
    · exact hy.elim
    · obtain ⟨⟨j, hj, hq, hmin, hv⟩, hF⟩ := hy
      dsimp only at hv hF
      refine tot_some.mpr ⟨?_, hF⟩
      dsimp only
      rw [hv]
      rcases (by omega : k = 0 ∨ k = 1) with h | h
      · subst h
        refine ⟨1, nI (100 * A j + C j), Or.inr ⟨h0, _, F1.2 j hj hq hmin, Or.inl ⟨ne j hj, rfl, rfl⟩⟩, rfl⟩
      · subst h
        have hno := e2 1 (by omega) (by omega)
        refine ⟨2, nI (100 * A j + C j), Or.inr ⟨h0, _, F1.1 hno, Or.inr ⟨rfl, _, (F2 hno).2 j hj hq hmin, rfl, ?_⟩⟩, rfl⟩
        rw [if_neg (ne j hj)]
  · rintro ⟨x4, m1⟩ ⟨e1, e2, hK1⟩
    dsimp only at e1 e2 hK1 ⊢
    subst e1
    unfold r_X12_tellings_b93
    rw [if_pos (by decide), tot_some]
    show Tot (r_X12_tellings_e209_h93 m1) _
    unfold r_X12_tellings_e209_h93
    have hno := e2 1 (by omega) (by omega)
    refine tot_some.mpr ⟨⟨-1, -1, Or.inr ⟨h0, _, F1.1 hno, Or.inr ⟨rfl, _, (F2 hno).1 (e2 2 (by omega) (by omega)), rfl, rfl⟩⟩, ?_⟩, hK1.1⟩
    by_cases h : x3 = 0
    · rw [if_pos h]
    · rw [if_neg h]
abbrev KV : List (Nat × Nat) := [(85, 0), (85, 1), (85, 2), (85, 3), (85, 4), (85, 5), (85, 6), (85, 7), (85, 8), (85, 9), (85, 10), (85, 11), (85, 12), (85, 13), (85, 14), (85, 15), (85, 16), (85, 17), (85, 18), (85, 19), (85, 20), (85, 21), (85, 22), (85, 23), (85, 24), (85, 25), (85, 26), (85, 27), (85, 28), (85, 29), (85, 30), (85, 31), (55, 0), (56, 0), (60, 1), (59, 0), (57, 0), (58, 0)]
abbrev JV : List (Nat × Nat) := [(12, 0), (12, 42), (12, 47)]
set_option maxHeartbeats 1000000 in
theorem pair_tellings {m : Mem} (hI : Inv m) (x y v : Int32) : Pair (fun m => r_L_tellings x y v m) (fun m => r_X12_tellings x y v m) m := by
  obtain ⟨hW, hR, hL, hC, hS⟩ := hI.1
  have bad : ¬ (isPe (mW m) x ∧ isPl (mW m) y) → ∀ m3, mW m3 = mW m → (∀ k i, ¬ k = 11 → m3 k i = m k i) → r_X12_tellings x y v m3 = some (0, badm m3 1 0) := by
    intro h m3 hm _
    have e : mW (wr m3 12 0 0 0) = mW m := by rw [mW_th, hm]
    have hW3 : WF (mW (wr m3 12 0 0 0)) := by rw [e]; exact hW
    have j : r_X12_tellings_j22 x y v (wr m3 12 0 0 0) = some (0, badm m3 1 0) := by
      unfold r_X12_tellings_j22 r_X12_tellings_j27
      rw [bd2_s (bad_10 (by decide)), if_pos rfl]
    unfold r_X12_tellings
    by_cases hp : isPe (mW m) x
    · rw [bd1_s (isPerson_t hW3 (by rw [e]; exact hp)), if_pos rfl, bd1_s (isPlace_f hW3 (by rw [e]; exact fun q => h ⟨hp, q⟩)), if_neg (by decide)]
      exact j
    · rw [bd1_s (isPerson_f hW3 (by rw [e]; exact hp)), if_neg (by decide)]
      exact j
  by_cases hp : isPe (mW m) x
  case neg =>
    refine Pair.b0 (c := 1) hI rfl (by decide) ?_ (bad (fun q => hp q.1))
    unfold r_X11_tellings
    rw [thr_r (needPerson_f hL hp)]
  by_cases ha : isPl (mW m) y
  case neg =>
    refine Pair.b0 (c := 1) hI rfl (by decide) ?_ (bad (fun q => ha q.2))
    unfold r_X11_tellings
    rw [thr_l (needPerson_t hL hp), thr_r (needPlace_f hL ha)]
  by_cases hv : 0 ≤ v ∧ v ≤ 1
  case neg =>
    refine Pair.b1 (c := 2) hI rfl (by decide) ?_ (fun m3 hm h3 => ?_)
    · unfold r_X11_tellings
      rw [thr_l (needPerson_t hL hp), thr_l (needPlace_t hL ha), thr_r (needRange_f hv)]
    · have e : mW (wr m3 12 0 0 0) = mW m := by rw [mW_th, hm]
      have hW3 : WF (mW (wr m3 12 0 0 0)) := by rw [e]; exact hW
      unfold r_X12_tellings r_X12_tellings_j27 r_X12_tellings_j50
      rw [bd1_s (isPerson_t hW3 (by rw [e]; exact hp)), if_pos rfl, bd1_s (isPlace_t hW3 (by rw [e]; exact ha)), if_pos rfl, bd2_s bad_0, if_neg (by decide), if_neg (by rw [in_f hv]; decide), bd2_s (bad_11 (by decide)), if_pos rfl]
  obtain ⟨p, hp2, rfl⟩ := isPe_of hW hp
  obtain ⟨b, hb, rfl⟩ := isPl_of hW ha
  have hP := hW.1.2
  obtain ⟨mA, hA1, hA2, hA3⟩ := findT_c hW hL hC hS hp2 hb
  refine Pair.ok (z := if v = 0 then mA 0 0 0 else mA 0 0 1) KU JT KV JV hI ?_ (fun m3 _ hF => ?_) rfl rfl rfl rfl rfl rfl
  · unfold r_X11_tellings
    rw [thr_l (needPerson_t hL hp), thr_l (needPlace_t hL ha), thr_l (needRange_t hv), bd1_s hA1]
    by_cases h0 : v = 0
    · rw [if_pos h0, if_pos h0]
      exact tot_some.mpr ⟨rfl, hA3⟩
    · rw [if_neg h0, if_neg h0]
      exact tot_some.mpr ⟨rfl, hA3⟩
  · obtain ⟨e, h60⟩ := pre3 hF (by decide) (by decide) (by decide) (by decide)
    have hW3 : WF (mW (wr m3 12 0 0 0)) := by rw [e]; exact hW
    unfold r_X12_tellings r_X12_tellings_j27 r_X12_tellings_j50
    rw [bd1_s (isPerson_t hW3 (by rw [e]; exact hp)), if_pos rfl, bd1_s (isPlace_t hW3 (by rw [e]; exact ha)), if_pos rfl, bd2_s bad_0, if_neg (by decide), if_pos (in_t hv), bd2_s bad_0, if_neg (by decide), tot_bd2]
    have t0 := th_z m3 0
    have hFt : Fj KV JV m3 (wr m3 12 0 0 0) := (th_fj m3 0).mono (by simp) (by simp)
    generalize wr m3 12 0 0 0 = m4 at e h60 hW3 t0 hFt ⊢
    refine (courseOf_tot (i := 0) hW3).mono ?_
    rw [e, h60]
    rintro ⟨z, m5⟩ ⟨g1, -, -, g4, g5⟩
    dsimp only at g1 g4 g5 ⊢
    have hF5 : Fj KV JV m3 m5 := hFt.tr (g5.mono (by simp) (by simp))
    have z5 : m5 12 0 0 = 0 := by rw [g5 12 0 0 (by decide) (by decide)]; exact t0
    rw [has_eq (by omega), g1]
    by_cases h0 : rc0 (mW m) (m 60 0) b = true
    · rw [if_pos (show bt (cB (mW m) (m 60 0)) b = true from h0)]
      have u := hA2.uq (Or.inl ⟨h0, rfl, rfl⟩)
      rw [u.1, u.2]
      by_cases hv0 : v = 0
      · rw [if_pos hv0, if_pos hv0]
        exact tot_some.mpr ⟨rfl, z5, hF5⟩
      · rw [if_neg hv0, if_neg hv0]
        exact tot_some.mpr ⟨rfl, z5, hF5⟩
    · rw [if_neg (show ¬ bt (cB (mW m) (m 60 0)) b = true from h0), tot_bd1]
      have e5 : mW m5 = mW m := (mW_fj g5 (by decide) (by decide)).trans e
      have f60 : m5 60 0 = m 60 0 := (g5.rw' 60 0 (by decide) (by decide)).trans (h60 0)
      have hL5 := laysT_m (m := m5) (p := p) (by rw [e5]; exact hW) (by rw [e5]; exact hp2)
      rw [e5, f60] at hL5
      refine hL5.mono ?_
      rintro m6 ⟨⟨n, A, C, l1, l2⟩, hF6⟩
      have e6 : mW m6 = mW m := (mW_fj hF6 (by decide) (by decide)).trans e5
      refine (tells_m (x3 := v) hW e6 l1 l2 (fun a ha => by rw [hF6.rw' 57 0 (by decide) (by decide)]; exact g4 a ha) hb (ts_nt' h0)).mono ?_
      rintro ⟨z9, m7⟩ ⟨⟨z0, z1, hT, hz⟩, hF7⟩
      dsimp only at hz hF7 ⊢
      have u := hA2.uq hT
      refine ⟨by rw [hz, u.1, u.2], ?_, (hF5.tr (hF6.mono (by simp) (by simp))).tr (hF7.mono (by simp) (by simp))⟩
      rw [hF7 12 0 0 (by decide) (by decide), hF6 12 0 0 (by decide) (by decide)]
      exact z5
