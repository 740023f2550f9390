/-! ===== the book ===== -/
theorem Pair.gen {a b : Option Int32} {cl : Mem → Option ((Int32 ⊕ Nat) × Mem)} {mod : Mem → Option (Int32 × Mem)} {m : Mem} (h1 : Tot (cl m) (fun q => ∃ z, q.1 = Sum.inl z ∧ (∀ i, q.2 100 i = m 100 i) ∧ ∀ m3, Fj [(92, 0)] [] q.2 m3 → Tot (mod m3) (fun p => p.1 = z ∧ p.2 12 0 0 = 0 ∧ p.2 92 0 = m3 92 0 ∧ (∀ i, p.2 100 i = m3 100 i) ∧ Inv p.2))) : Pair (fun m => wrapI a b (cl m)) mod m := by
  obtain ⟨⟨o, m1⟩, h2, z, h3, h4, h5⟩ := h1
  dsimp only at h3 h4 h5
  subst h3
  unfold Pair
  refine (wrapI_tot (sp := Sum.inl z) (Q := fun m' => m' = m1) (c := 0) (tot_eq h2 ⟨rfl, rfl⟩) rfl).mono ?_
  rintro ⟨c, m3⟩ ⟨e1, m2, e2, e3⟩
  dsimp only at e1 e2 e3 ⊢
  subst e1
  subst e2
  have e3' : m3 = wrL m2 92 0 0 z.toInt64 := e3
  have hF : Fr [(92, 0)] m2 m3 := by
    rw [e3']
    exact wrL_fr _ _
  refine ⟨fun i => by rw [hF 100 i (by simp)]; exact h4 i, (h5 m3 hF.j).mono ?_⟩
  rintro ⟨y, m4⟩ ⟨g1, g2, g3, g4, g5⟩
  dsimp only at g1 g2 g3 g4 g5 ⊢
  refine ⟨g2, fun _ => ?_, fun i => ?_, g5⟩
  · rw [g3, e3', wrL_rd, g1]
  · rw [g4 i, hF 100 i (by simp), h4 i]
theorem imin_nI {a b : Nat} (ha : a < 1000000) (hb : b < 1000000) : imin (nI a) (nI b) = nI (min a b) := by
  unfold imin
  by_cases h : b < a
  · rw [if_pos (nI_lt h (by omega)), Nat.min_eq_right (by omega)]
  · rw [if_neg (nI_nlt (by omega) (by omega)), Nat.min_eq_left (by omega)]
theorem le_nI {x : Int32} {n : Nat} (hn : n < 1000000) (h : 0 ≤ x ∧ x ≤ nI n) : ∃ k, k ≤ n ∧ x = nI k := by
  have h2 : x < nI (n + 1) := by
    have h3 : nI n < nI (n + 1) := nI_lt (by omega) (by omega)
    rw [fa_lt] at h3 ⊢
    have := h.2
    rw [fa_le] at this
    omega
  obtain ⟨k, hk, e⟩ := in_of (n := n + 1) (by omega) ⟨h.1, h2⟩
  exact ⟨k, by omega, e⟩
abbrev JO : List (Nat × Nat) := [(8, 1), (8, 2), (8, 3), (8, 4), (8, 5), (8, 6)]
theorem openT_t {m : Mem} {f lim L : Nat} (hf : m 8 0 1 = nI f) (h6 : f ≤ 600) (hl : lim ≤ 600) (h1 : L ≤ lim) (h2 : L ≤ f) {b : Nat → Int32} (hb : ∀ k, k < f → m 37 0 k = b k) : ∃ m', r_X11_openText (nI L) (nI lim) m = some (Sum.inl (), m') ∧ TC b L 0 m' ∧ m' 8 0 1 = 0 ∧ m' 8 0 3 = -1 ∧ m' 8 0 4 = 0 ∧ Fj [] JO m m' := by
  unfold r_X11_openText
  rw [hf, imin_nI (by omega) (by omega), thr_l (needRange_t ⟨nI_pos' (by omega), nI_le (by omega) (by omega)⟩)]
  have hF : Fj [] JO m (wr (wr (wr (wr (wr (wr m 8 0 5 (nI L)) 8 0 1 0) 8 0 6 0) 8 0 2 0) 8 0 4 0) 8 0 3 (-1)) := (((((Fj.rf.wrJ (by simp) _ _).wrJ (by simp) _ _).wrJ (by simp) _ _).wrJ (by simp) _ _).wrJ (by simp) _ _).wrJ (by simp) _ _
  refine ⟨_, rfl, ⟨?_, ?_, Nat.zero_le _, ⟨by omega, wr_eq _ _ _ _ _⟩, fun k hk => ?_⟩, ?_, ?_, ?_, hF⟩
  · rw [wr_j (by decide), wr_j (by decide), wr_j (by decide), wr_j (by decide), wr_j (by decide), wr_eq]
  · rw [wr_j (by decide), wr_j (by decide), wr_j (by decide), wr_eq]
    rfl
  · rw [hF 37 0 k (by simp) (by simp)]
    exact hb k (by omega)
  · rw [wr_j (by decide), wr_j (by decide), wr_j (by decide), wr_j (by decide), wr_eq]
  · rw [wr_eq]
  · rw [wr_j (by decide), wr_eq]
theorem openT_f {m : Mem} {f lim : Nat} {x : Int32} (hf : m 8 0 1 = nI f) (h6 : f ≤ 600) (hl : lim ≤ 600) (h : ¬ (0 ≤ x ∧ x ≤ nI (min lim f))) : r_X11_openText x (nI lim) m = some (Sum.inr 1, wr m 11 0 16 (m 11 0 16 + 1)) := by
  unfold r_X11_openText
  rw [hf, imin_nI (by omega) (by omega), thr_r (needRange_f h)]
abbrev JS : List (Nat × Nat) := [(12, 1), (12, 2), (12, 4), (12, 5), (12, 6), (12, 7), (12, 8)]
theorem starts_m {m : Mem} {L : Nat} {b : Nat → Int32} (hL : L ≤ 600) (hb : ∀ k, k < L → m 49 0 k = b k) : Tot (r_X12_starts (nI L) m) (fun m' => TM b L (sk b L 0) m' ∧ m' 12 0 5 = 0 ∧ m' 12 0 1 = 0 ∧ m' 12 0 7 = 0 ∧ m' 12 0 8 = 0 ∧ Fj [] JS m m') := by
  unfold r_X12_starts
  rw [tot_bd1]
  have hF : Fj [] JS m (wr (wr (wr (wr (wr (wr (wr m 12 0 1 0) 12 0 2 (nI L)) 12 0 4 0) 12 0 5 0) 12 0 6 (-1)) 12 0 7 0) 12 0 8 0) := ((((((Fj.rf.wrJ (by simp) _ _).wrJ (by simp) _ _).wrJ (by simp) _ _).wrJ (by simp) _ _).wrJ (by simp) _ _).wrJ (by simp) _ _).wrJ (by simp) _ _
  have t0 : TM b L 0 (wr (wr (wr (wr (wr (wr (wr m 12 0 1 0) 12 0 2 (nI L)) 12 0 4 0) 12 0 5 0) 12 0 6 (-1)) 12 0 7 0) 12 0 8 0) := by
    refine ⟨?_, ?_, Nat.zero_le _, hL, fun k hk => ?_⟩
    · rw [wr_j (by decide), wr_j (by decide), wr_j (by decide), wr_j (by decide), wr_j (by decide), wr_eq]
    · rw [wr_j (by decide), wr_j (by decide), wr_j (by decide), wr_j (by decide), wr_eq]
      rfl
    · rw [hF 49 0 k (by simp) (by simp)]
      exact hb k hk
  have v5 : wr (wr (wr (wr (wr (wr (wr m 12 0 1 0) 12 0 2 (nI L)) 12 0 4 0) 12 0 5 0) 12 0 6 (-1)) 12 0 7 0) 12 0 8 0 12 0 5 = 0 := by
    rw [wr_j (by decide), wr_j (by decide), wr_j (by decide), wr_eq]
  have v1 : wr (wr (wr (wr (wr (wr (wr m 12 0 1 0) 12 0 2 (nI L)) 12 0 4 0) 12 0 5 0) 12 0 6 (-1)) 12 0 7 0) 12 0 8 0 12 0 1 = 0 := by
    rw [wr_j (by decide), wr_j (by decide), wr_j (by decide), wr_j (by decide), wr_j (by decide), wr_j (by decide), wr_eq]
  have v7 : wr (wr (wr (wr (wr (wr (wr m 12 0 1 0) 12 0 2 (nI L)) 12 0 4 0) 12 0 5 0) 12 0 6 (-1)) 12 0 7 0) 12 0 8 0 12 0 7 = 0 := by
    rw [wr_j (by decide), wr_eq]
  have v8 : wr (wr (wr (wr (wr (wr (wr m 12 0 1 0) 12 0 2 (nI L)) 12 0 4 0) 12 0 5 0) 12 0 6 (-1)) 12 0 7 0) 12 0 8 0 12 0 8 = 0 := wr_eq _ _ _ _ _
  generalize wr (wr (wr (wr (wr (wr (wr m 12 0 1 0) 12 0 2 (nI L)) 12 0 4 0) 12 0 5 0) 12 0 6 (-1)) 12 0 7 0) 12 0 8 0 = m1 at hF t0 v5 v1 v7 v8 ⊢
  refine (blanks_m t0).mono ?_
  rintro m2 ⟨h1, h2⟩
  have o : ∀ c, ¬ c = 4 → m2 12 0 c = m1 12 0 c := fun c hc => h2 12 0 c (by simp) (by simp [hc])
  exact tot_some.mpr ⟨h1, by rw [o 5 (by decide), v5], by rw [o 1 (by decide), v1], by rw [o 7 (by decide), v7], by rw [o 8 (by decide), v8], hF.tr (h2.mono (by simp) (by simp))⟩
/-- a place that a ditch leads to, or what is wrong -/
noncomputable def ngE (b : Nat → Int32) (L P : Nat) (g : Nat → Int32) (s : Nat) : Int32 := if nmE b L 0 (nI P - 1) s = 0 then (if g (nmV b L s).toNatClampNeg = -1 then 2 else 0) else nmE b L 0 (nI P - 1) s
theorem ng_0 {b : Nat → Int32} {L P s : Nat} {g : Nat → Int32} (h : ngE b L P g s = 0) : nmE b L 0 (nI P - 1) s = 0 ∧ ¬ g (nmV b L s).toNatClampNeg = -1 := by
  unfold ngE at h
  by_cases c1 : nmE b L 0 (nI P - 1) s = 0
  · rw [if_pos c1] at h
    by_cases c2 : g (nmV b L s).toNatClampNeg = -1
    · rw [if_pos c2] at h
      exact absurd h (by decide)
    · exact ⟨c1, c2⟩
  · rw [if_neg c1] at h
    exact absurd h c1
theorem linkedN_c {b : Nat → Int32} {L p P a i1 : Nat} {g : Nat → Int32} {m : Mem} (h : TC b L p m) (h3 : m 3 i1 0 = nI P) (hP : P ≤ 12) (ha : a < 12) (hg : ∀ c, c < P → m 29 i1 (12 * a + c) = g c) : Tot (r_X8_linkedNumber i1 (nI a) m) (fun q => (ngE b L P g (sk b L p) = 0 → q.1 = nmV b L (sk b L p) ∧ TC b L (nmN b L (sk b L p)) q.2) ∧ (¬ ngE b L P g (sk b L p) = 0 → q.1 = -1 ∧ FtC (ngE b L P g (sk b L p)) (sk b L p) q.2) ∧ Fj [] JTc m q.2) := by
  unfold r_X8_linkedNumber
  rw [h3, tot_bd2]
  refine (number_c h).mono ?_
  rintro ⟨z, m2⟩ ⟨g1, g2, g3⟩
  dsimp only at g1 g2 g3 ⊢
  unfold ngE
  by_cases c1 : nmE b L 0 (nI P - 1) (sk b L p) = 0
  · obtain ⟨e1, e2, e3⟩ := g1 c1
    obtain ⟨c, hc, ec⟩ := nm_k (by omega) c1
    have hb : r_X3_between i1 (nI a) (nI c) m2 = some (g c) := by
      unfold r_X3_between
      rw [ix12, if_pos (inb_nI (by omega) (by omega)), clamp_nI (by omega), g3 29 i1 _ (by simp) (by simp), hg c hc]
    rw [if_pos c1, e1, if_neg (nm_m1 c1 (by decide)), ec, bd1_s hb, clamp_nI (by omega)]
    by_cases c2 : g c = -1
    · rw [if_pos c2, if_pos c2, e3]
      obtain ⟨m3, w1, w2, w3⟩ := wrong_c (m := m2) (k := 2) (e := sk b L p)
      rw [bd2_s w1]
      exact tot_some.mpr ⟨fun e => absurd e (by decide), fun _ => ⟨rfl, w2⟩, g3.tr (w3.mono (by simp) (by simp))⟩
    · rw [if_neg c2, if_neg c2]
      exact tot_some.mpr ⟨fun _ => ⟨rfl, e2⟩, fun n => absurd rfl n, g3⟩
  · obtain ⟨e1, e2⟩ := g2 c1
    rw [if_neg c1, e1, if_pos rfl]
    exact tot_some.mpr ⟨fun e => absurd e c1, fun _ => ⟨rfl, e2⟩, g3⟩
theorem FtM.next {b : Nat → Int32} {L e : Nat} {k x : Int32} {m : Mem} (h : FtM b L k e m) : Tot (r_X12_nextHere x m) (fun q => FtM b L k e q.2 ∧ Fj [] [(12, 4)] m q.2) := by
  unfold r_X12_nextHere r_X12_placeHere
  rw [tot_bd1]
  refine h.bl.mono ?_
  rintro m2 ⟨h2, h3⟩
  rw [bd2_s (show bd2 (r_X12_number 0 (m2 52 0 0 - 1) m2) (fun z3 m2 => some (z3, m2)) = some (0, m2) by rw [bd2_s h2.number]), if_neg (by rw [h2.1]; exact h2.2.1)]
  exact tot_some.mpr ⟨h2, h3⟩
theorem nextHere_m {b : Nat → Int32} {L p a : Nat} {m : Mem} (hW : WF (mW m)) (h : TM b L p m) (h5 : m 12 0 5 = 0) : Tot (r_X12_nextHere (nI a) m) (fun q => (ngE b L (wP (mW m)) (bw (mW m) a) (sk b L p) = 0 → q.1 = nmV b L (sk b L p) ∧ TM b L (nmN b L (sk b L p)) q.2 ∧ q.2 12 0 5 = 0) ∧ (¬ ngE b L (wP (mW m)) (bw (mW m) a) (sk b L p) = 0 → FtM b L (ngE b L (wP (mW m)) (bw (mW m) a) (sk b L p)) (sk b L p) q.2) ∧ Fj [] JTm m q.2) := by
  have hP := hW.1
  have hD := hW.2.1
  unfold r_X12_nextHere r_X12_placeHere
  rw [tot_bd1]
  refine (blanks_m h).mono ?_
  rintro m2 ⟨h2, h3⟩
  have f5 : m2 12 0 5 = 0 := by rw [h3 12 0 5 (by simp) (by simp)]; exact h5
  have hF2 : Fj [] JTm m m2 := h3.mono (by simp) (by simp)
  have hs : sk b L (sk b L p) = sk b L p := sk_sk h.2.2.1
  have p52 : m2 52 0 0 = nI (wP (mW m)) := by
    rw [h3 52 0 0 (by simp) (by simp)]
    exact hP.1
  rw [p52, tot_bd2, tot_bd2]
  refine (number_m h2 f5).mono ?_
  rw [hs]
  rintro ⟨z, m3⟩ ⟨g1, g2, g3⟩
  dsimp only at g1 g2 g3 ⊢
  refine tot_some.mpr ?_
  dsimp only
  have hF3 : Fj [] JTm m m3 := hF2.tr g3
  have hW3 : mW m3 = mW m := mW_fj hF3 (by simp) (by decide)
  unfold ngE
  by_cases c1 : nmE b L 0 (nI (wP (mW m)) - 1) (sk b L p) = 0
  · obtain ⟨e1, e2, e3⟩ := g1 c1
    obtain ⟨c, hc, ec⟩ := nm_k (by have := hP.2; omega) c1
    have hP2 := hP.2
    rw [if_pos c1, if_pos e3, e1, ec, bd1_s (btw_eq (D := wD (mW m)) (by rw [hF3 52 0 1 (by simp) (by simp)]; exact hD.1) hD.2), hW3, clamp_nI (by omega)]
    by_cases c2 : bw (mW m) a c = -1
    · rw [if_pos c2, if_pos c2, h2.2.1]
      obtain ⟨m4, w1, w2, w3⟩ := wrong_m (e := sk b L p) (k := 2) e2 e3 (by decide)
      rw [bd1_s w1]
      exact tot_some.mpr ⟨fun e => absurd e (by decide), fun _ => w2, hF3.tr (w3.mono (by simp) (by simp))⟩
    · rw [if_neg c2, if_neg c2]
      exact tot_some.mpr ⟨fun _ => ⟨rfl, e2, e3⟩, fun n => absurd rfl n, hF3⟩
  · obtain ⟨e1, e2⟩ := g2 c1
    rw [if_neg c1, if_neg (by rw [e2.1]; exact e2.2.1)]
    exact tot_some.mpr ⟨fun e => absurd e c1, fun _ => e2, hF3⟩
/-- the lines: where each begins, what it says -/
noncomputable abbrev q1 (b : Nat → Int32) (L s : Nat) : Nat := sk b L (nmN b L s)
noncomputable abbrev q2 (b : Nat → Int32) (L s : Nat) : Nat := sk b L (nmN b L (q1 b L s))
noncomputable def ps (b : Nat → Int32) (L : Nat) : Nat → Nat
  | 0 => sk b L 0
  | j + 1 => sk b L (q2 b L (ps b L j) + 1)
noncomputable abbrev lA (b : Nat → Int32) (L j : Nat) : Int32 := nmV b L (ps b L j)
noncomputable abbrev lC (b : Nat → Int32) (L j : Nat) : Int32 := nmV b L (q1 b L (ps b L j))
noncomputable def us (b : Nat → Int32) (L : Nat) : Nat → Nat → Int32
  | 0 => fun _ => -1
  | j + 1 => upF (us b L j) (lA b L j).toNatClampNeg (lC b L j)
noncomputable def lnE (w : Wd) (b : Nat → Int32) (L j : Nat) : Int32 × Nat :=
  if nmE b L 0 (nI (wP w) - 1) (ps b L j) = 0 then
    (if us b L j (lA b L j).toNatClampNeg = -1 then
      (if ngE b L (wP w) (bw w (lA b L j).toNatClampNeg) (q1 b L (ps b L j)) = 0 then
        (if bA b L (q2 b L (ps b L j)) = 59 then (0, 0) else (1, q2 b L (ps b L j)))
      else (ngE b L (wP w) (bw w (lA b L j).toNatClampNeg) (q1 b L (ps b L j)), q1 b L (ps b L j)))
    else (2, ps b L j))
  else (nmE b L 0 (nI (wP w) - 1) (ps b L j), ps b L j)
theorem ln_0 {w : Wd} {b : Nat → Int32} {L j : Nat} (h : (lnE w b L j).1 = 0) : nmE b L 0 (nI (wP w) - 1) (ps b L j) = 0 ∧ us b L j (lA b L j).toNatClampNeg = -1 ∧ ngE b L (wP w) (bw w (lA b L j).toNatClampNeg) (q1 b L (ps b L j)) = 0 ∧ bA b L (q2 b L (ps b L j)) = 59 := by
  unfold lnE at h
  by_cases c1 : nmE b L 0 (nI (wP w) - 1) (ps b L j) = 0
  · rw [if_pos c1] at h
    by_cases c2 : us b L j (lA b L j).toNatClampNeg = -1
    · rw [if_pos c2] at h
      by_cases c3 : ngE b L (wP w) (bw w (lA b L j).toNatClampNeg) (q1 b L (ps b L j)) = 0
      · rw [if_pos c3] at h
        by_cases c4 : bA b L (q2 b L (ps b L j)) = 59
        · exact ⟨c1, c2, c3, c4⟩
        · rw [if_neg c4] at h
          exact absurd (show (1 : Int32) = 0 from h) (by decide)
      · rw [if_neg c3] at h
        exact absurd h c3
    · rw [if_neg c2] at h
      exact absurd (show (2 : Int32) = 0 from h) (by decide)
  · rw [if_neg c1] at h
    exact absurd h c1
theorem ln_k {w : Wd} {b : Nat → Int32} {L j : Nat} (hW : WF w) (h : (lnE w b L j).1 = 0) : ∃ a c, a < wP w ∧ c < wP w ∧ lA b L j = nI a ∧ lC b L j = nI c ∧ us b L j a = -1 := by
  have hP := hW.1.2
  obtain ⟨h1, h2, h3, -⟩ := ln_0 h
  obtain ⟨a, ha, ea⟩ := nm_k (by omega) h1
  obtain ⟨c, hc, ec⟩ := nm_k (by omega) (ng_0 h3).1
  refine ⟨a, c, ha, hc, ea, ec, ?_⟩
  rw [show (lA b L j).toNatClampNeg = a by rw [show lA b L j = nI a from ea]; exact clamp_nI (by omega)] at h2
  exact h2
theorem us_s {b : Nat → Int32} {L j a c : Nat} (ha : a < 12) (ea : lA b L j = nI a) (ec : lC b L j = nI c) : us b L (j + 1) = upF (us b L j) a (nI c) := by
  show upF (us b L j) (lA b L j).toNatClampNeg (lC b L j) = _
  rw [ea, ec, clamp_nI (by omega)]
theorem us_hit {w : Wd} {b : Nat → Int32} {L : Nat} (hW : WF w) : ∀ n, (∀ j, j < n → (lnE w b L j).1 = 0) → ∀ i a, i < n → lA b L i = nI a → a < 12 → ¬ us b L n a = -1
  | 0, _, i, _, hi, _, _ => absurd hi (Nat.not_lt_zero i)
  | n + 1, h, i, a, hi, ea, ha => by
    have hP := hW.1.2
    obtain ⟨a2, c2, ha2, hc2, ea2, ec2, -⟩ := ln_k hW (h n (Nat.lt_succ_self n))
    rw [us_s (by omega) ea2 ec2]
    by_cases e : a = a2
    · rw [e, upF_at]
      exact m1_ne (by omega)
    · rw [upF_ne e]
      refine us_hit hW n (fun j hj => h j (by omega)) i a ?_ ea ha
      by_cases e2 : i = n
      · rw [e2, ea2] at ea
        exact absurd ((nI_eq (by omega) (by omega)).mp ea).symm e
      · omega
theorem us_or {w : Wd} {b : Nat → Int32} {L : Nat} (hW : WF w) : ∀ n, (∀ j, j < n → (lnE w b L j).1 = 0) → ∀ a, us b L n a = -1 ∨ ∃ i, i < n ∧ lA b L i = nI a
  | 0, _, a => Or.inl rfl
  | n + 1, h, a => by
    have hP := hW.1.2
    obtain ⟨a2, c2, ha2, hc2, ea2, ec2, -⟩ := ln_k hW (h n (Nat.lt_succ_self n))
    rw [us_s (by omega) ea2 ec2]
    by_cases e : a = a2
    · right
      exact ⟨n, Nat.lt_succ_self n, by rw [e]; exact ea2⟩
    · rw [upF_ne e]
      rcases us_or hW n (fun j hj => h j (by omega)) a with q | ⟨i, hi, q⟩
      · exact Or.inl q
      · exact Or.inr ⟨i, by omega, q⟩
theorem us_at {w : Wd} {b : Nat → Int32} {L : Nat} (hW : WF w) : ∀ n, (∀ j, j < n → (lnE w b L j).1 = 0) → ∀ i a c, i < n → lA b L i = nI a → lC b L i = nI c → a < 12 → us b L n a = nI c
  | 0, _, i, _, _, hi, _, _, _ => absurd hi (Nat.not_lt_zero i)
  | n + 1, h, i, a, c, hi, ea, ec, ha => by
    have hP := hW.1.2
    obtain ⟨a2, c2, ha2, hc2, ea2, ec2, eu⟩ := ln_k hW (h n (Nat.lt_succ_self n))
    rw [us_s (by omega) ea2 ec2]
    by_cases e2 : i = n
    · rw [e2] at ea ec
      rw [ea2] at ea
      rw [show a = a2 from ((nI_eq (by omega) (by omega)).mp ea).symm, upF_at, ← ec2, ec]
    · have hin : i < n := by omega
      have e : ¬ a = a2 := fun e => by
        have := us_hit hW n (fun j hj => h j (by omega)) i a hin ea ha
        rw [e] at this
        exact this eu
      rw [upF_ne e]
      exact us_at hW n (fun j hj => h j (by omega)) i a c hin ea ec ha
theorem bk_le {w : Wd} {b : Nat → Int32} {L n : Nat} (hW : WF w) (h : ∀ j, j < n → (lnE w b L j).1 = 0) : n ≤ 12 := by
  have hP := hW.1.2
  refine fb_holes 12 n (fun i => (lA b L i).toNatClampNeg) ?_ ?_
  · intro i hi
    obtain ⟨a, c, ha, hc, ea, ec, -⟩ := ln_k hW (h i hi)
    show (lA b L i).toNatClampNeg < 12
    rw [ea, clamp_nI (by omega)]
    omega
  · intro i j hij hj e
    obtain ⟨a, c, ha, hc, ea, ec, -⟩ := ln_k hW (h i (by omega))
    obtain ⟨a2, c2, ha2, hc2, ea2, ec2, eu⟩ := ln_k hW (h j hj)
    have e2 : (lA b L i).toNatClampNeg = (lA b L j).toNatClampNeg := e
    rw [ea, ea2, clamp_nI (k := a) (by omega), clamp_nI (k := a2) (by omega)] at e2
    have := us_hit hW j (fun k hk => h k (by omega)) i a hij ea (by omega)
    rw [e2] at this
    exact this eu
theorem ps_le {b : Nat → Int32} {L : Nat} (h : ∀ j, bA b L (q2 b L (ps b L j)) = 59 → q2 b L (ps b L j) < L) : ∀ n, (∀ j, j < n → bA b L (q2 b L (ps b L j)) = 59) → ps b L n ≤ L
  | 0, _ => rn_le (Nat.zero_le _)
  | n + 1, hn => rn_le (by have := h n (hn n (Nat.lt_succ_self n)); omega)
theorem in59 {b : Nat → Int32} {L s : Nat} (h : bA b L s = 59) : s < L := by
  by_cases hx : s < L
  · exact hx
  · rw [bA_out hx] at h
    exact absurd h (by decide)
theorem ps_up {w : Wd} {b : Nat → Int32} {L j : Nat} (h : (lnE w b L j).1 = 0) : ps b L j < ps b L (j + 1) := by
  obtain ⟨h1, h2, h3, h4⟩ := ln_0 h
  have a1 := (nm_in h1).2.2
  have a2 : nmN b L (ps b L j) ≤ q1 b L (ps b L j) := rn_ge _ _ _ _
  have a3 : q1 b L (ps b L j) ≤ nmN b L (q1 b L (ps b L j)) := rn_ge _ _ _ _
  have a4 : nmN b L (q1 b L (ps b L j)) ≤ q2 b L (ps b L j) := rn_ge _ _ _ _
  have a5 : q2 b L (ps b L j) + 1 ≤ ps b L (j + 1) := rn_ge _ _ _ _
  omega
theorem ps_ge {w : Wd} {b : Nat → Int32} {L : Nat} : ∀ n, (∀ j, j < n → (lnE w b L j).1 = 0) → n ≤ ps b L n
  | 0, _ => Nat.zero_le _
  | n + 1, h => by
    have h1 := ps_ge n (fun j hj => h j (by omega))
    have h2 := ps_up (h n (Nat.lt_succ_self n))
    omega
abbrev KBk : List (Nat × Nat) := [(36, 1), (1, 1)]
set_option maxHeartbeats 1000000 in
theorem line_c {w : Wd} {b : Nat → Int32} {L p j : Nat} {m : Mem} (hW : WF w) (hL : CL w m) (h : TC b L p m) (hp : sk b L p = ps b L j) (h36 : ∀ a, a < 12 → m 36 1 a = us b L j a) (h1 : m 1 1 0 = nI j) : Tot (r_X1_readLine 1 0 m) (fun q => ((lnE w b L j).1 = 0 → q.1 = true ∧ (∃ p', TC b L p' q.2 ∧ sk b L p' = ps b L (j + 1)) ∧ (∀ a, a < 12 → q.2 36 1 a = us b L (j + 1) a) ∧ q.2 1 1 0 = nI (j + 1)) ∧ (¬ (lnE w b L j).1 = 0 → q.1 = false ∧ FtC (lnE w b L j).1 (lnE w b L j).2 q.2) ∧ Fj KBk JTc m q.2) := by
  have hP := hW.1
  unfold r_X1_readLine
  rw [hL.1, hP.1, tot_bd2]
  refine (number_c h).mono ?_
  rw [hp]
  rintro ⟨z, m2⟩ ⟨g1, g2, g3⟩
  dsimp only at g1 g2 g3 ⊢
  have hF2 : Fj KBk JTc m m2 := g3.mono (by simp) (by simp)
  by_cases c1 : nmE b L 0 (nI (wP w) - 1) (ps b L j) = 0
  case neg =>
    have hE : lnE w b L j = (nmE b L 0 (nI (wP w) - 1) (ps b L j), ps b L j) := by
      unfold lnE
      rw [if_neg c1]
    obtain ⟨e1, e2⟩ := g2 c1
    rw [e1, if_pos rfl, hE]
    exact tot_some.mpr ⟨fun e => absurd e c1, fun _ => ⟨rfl, e2⟩, hF2⟩
  obtain ⟨e1, e2, e3⟩ := g1 c1
  obtain ⟨a, ha, ea⟩ := nm_k (by omega) c1
  have ca : (lA b L j).toNatClampNeg = a := by
    rw [show lA b L j = nI a from ea]
    exact clamp_nI (by omega)
  rw [e1, if_neg (nm_m1 c1 (by decide)), ea, if_pos (inb_nI (by omega) (by omega)), clamp_nI (by omega)]
  have q36 : m2 36 1 a = us b L j a := (g3 36 1 a (by simp) (by simp)).trans (h36 a (by omega))
  by_cases c2 : us b L j a = -1
  case neg =>
    have hE : lnE w b L j = (2, ps b L j) := by
      unfold lnE
      rw [if_pos c1, ca, if_neg c2]
    rw [if_neg (by rw [q36]; exact c2), e3]
    obtain ⟨m3, w1, w2, w3⟩ := wrong_c (m := m2) (k := 2) (e := ps b L j)
    rw [bd2_s w1, hE]
    exact tot_some.mpr ⟨fun e => absurd (show (2 : Int32) = 0 from e) (by decide), fun _ => ⟨rfl, w2⟩, hF2.tr (w3.mono (by simp) (by simp))⟩
  rw [if_pos (by rw [q36]; exact c2), tot_bd2]
  have hL2 : CL w m2 := hL.fj g3 (by simp) (by decide)
  refine (linkedN_c (g := bw w a) (a := a) e2 (hL2.1.trans hP.1) hP.2 (by omega) (fun c hc => hL2.2.2.2.2.2.2.1 a c (by omega) (by omega))).mono ?_
  rintro ⟨z9, m8⟩ ⟨f1, f2, f3⟩
  dsimp only at f1 f2 f3 ⊢
  have hF8 : Fj KBk JTc m m8 := hF2.tr (f3.mono (by simp) (by simp))
  by_cases c3 : ngE b L (wP w) (bw w a) (q1 b L (ps b L j)) = 0
  case neg =>
    have hE : lnE w b L j = (ngE b L (wP w) (bw w a) (q1 b L (ps b L j)), q1 b L (ps b L j)) := by
      unfold lnE
      rw [if_pos c1, ca, if_pos c2, if_neg c3]
    obtain ⟨d1, d2⟩ := f2 c3
    rw [d1, if_pos rfl, hE]
    exact tot_some.mpr ⟨fun e => absurd e c3, fun _ => ⟨rfl, d2⟩, hF8⟩
  obtain ⟨d1, d2⟩ := f1 c3
  obtain ⟨c, hc, ec⟩ := nm_k (by omega) (ng_0 c3).1
  rw [d1, if_neg (nm_m1 (ng_0 c3).1 (by decide)), tot_bd2]
  have hF9 : Fj KBk JTc m8 (wr (wr m8 36 1 a (nmV b L (q1 b L (ps b L j)))) 1 1 0 (m8 1 1 0 + 1)) := (Fj.rf.wrK (by simp) _ _).wrK (by simp) _ _
  have t9 := d2.fj (m' := wr (wr m8 36 1 a (nmV b L (q1 b L (ps b L j)))) 1 1 0 (m8 1 1 0 + 1)) (K := KBk) (J := []) ((Fj.rf.wrK (by simp) _ _).wrK (by simp) _ _) (by decide) (by simp)
  have u9 : ∀ x, x < 12 → wr (wr m8 36 1 a (nmV b L (q1 b L (ps b L j)))) 1 1 0 (m8 1 1 0 + 1) 36 1 x = us b L (j + 1) x := fun x hx => by
    rw [us_s (by omega) ea ec, wr_k (by decide), wr_if]
    unfold upF
    by_cases hxa : x = a
    · rw [if_pos hxa, if_pos hxa]
      exact ec
    · rw [if_neg hxa, if_neg hxa, f3 36 1 x (by simp) (by simp), g3 36 1 x (by simp) (by simp), h36 x hx]
  have n9 : wr (wr m8 36 1 a (nmV b L (q1 b L (ps b L j)))) 1 1 0 (m8 1 1 0 + 1) 1 1 0 = nI (j + 1) := by
    rw [wr_eq, f3 1 1 0 (by simp) (by simp), g3 1 1 0 (by simp) (by simp), h1, nI_succ]
  generalize wr (wr m8 36 1 a (nmV b L (q1 b L (ps b L j)))) 1 1 0 (m8 1 1 0 + 1) = m9 at hF9 t9 u9 n9 ⊢
  refine (sign_c (c := 59) t9 (by decide)).mono ?_
  rintro ⟨z13, m12⟩ ⟨s1, s2, s3⟩
  dsimp only at s1 s2 s3 ⊢
  have hF12 : Fj KBk JTc m m12 := (hF8.tr hF9).tr (s3.mono (by simp) (by simp))
  by_cases c4 : bA b L (q2 b L (ps b L j)) = 59
  · have hE : lnE w b L j = (0, 0) := by
      unfold lnE
      rw [if_pos c1, ca, if_pos c2, if_pos c3, if_pos c4]
    rw [hE]
    obtain ⟨r1, r2, r3⟩ := s1 c4
    exact tot_some.mpr ⟨fun _ => ⟨r1, ⟨_, r3, rfl⟩, fun x hx => by show m12 36 1 x = _; rw [s3 36 1 x (by simp) (by simp)]; exact u9 x hx, by show m12 1 1 0 = _; rw [s3 1 1 0 (by simp) (by simp)]; exact n9⟩, fun n => absurd rfl n, hF12⟩
  · have hE : lnE w b L j = (1, q2 b L (ps b L j)) := by
      unfold lnE
      rw [if_pos c1, ca, if_pos c2, if_pos c3, if_neg c4]
    rw [hE]
    exact tot_some.mpr ⟨fun e => absurd (show (1 : Int32) = 0 from e) (by decide), fun _ => s2 c4, hF12⟩
theorem fill36 {m : Mem} {i0 : Nat} : Tot (r_X11_fillWithNone_36 i0 m) (fun m' => (∀ a, a < 12 → m' 36 i0 a = -1) ∧ Fr [(36, i0)] m m') := by
  unfold r_X11_fillWithNone_36 r_X11_fillWithNone_36_l2
  rw [tot_bd1]
  refine tot_for (fun k (t : Int32 × Mem) => t.1 = nI k ∧ (∀ a, a < k → t.2 36 i0 a = -1) ∧ Fr [(36, i0)] m t.2) 12 ?_ ?_ 0 _ (Nat.zero_le _) ⟨rfl, fun a h => absurd h (Nat.not_lt_zero a), Fr.rf⟩
  · rintro k ⟨x1, m1⟩ hk ⟨e1, e2, hF⟩
    dsimp only at e1 e2 hF ⊢
    subst e1
    unfold r_X11_fillWithNone_36_b2
    rw [if_neg (show ¬ (12 : Int32) ≤ nI (k) from nI_ge (b := 12) (a := k) (by omega) (by omega)), if_pos (inb_nI (by omega) (by omega)), clamp_nI (by omega)]
    refine tot_some.mpr ⟨(nI_succ k).symm, fun a ha => ?_, hF.wr (by simp) _ _⟩
    dsimp only
    rw [wr_if]
    by_cases hak : a = k
    · rw [if_pos hak]
    · rw [if_neg hak]
      exact e2 a (by omega)
  · rintro ⟨x1, m1⟩ ⟨e1, e2, hF⟩
    dsimp only at e1 e2 hF ⊢
    subst e1
    unfold r_X11_fillWithNone_36_b2
    rw [if_pos (by decide), tot_some]
    exact tot_some.mpr ⟨e2, hF⟩
/-- the reading ends after n lines: well, or not -/
def Bn (w : Wd) (b : Nat → Int32) (L n : Nat) (ok : Bool) : Prop := (∀ j, j < n → ps b L j < L ∧ (lnE w b L j).1 = 0) ∧ ((ok = true ∧ ¬ ps b L n < L) ∨ (ok = false ∧ ps b L n < L ∧ ¬ (lnE w b L n).1 = 0))
set_option maxHeartbeats 1000000 in
theorem readB_c {w : Wd} {b : Nat → Int32} {L : Nat} {m : Mem} (hW : WF w) (hL : CL w m) (h : TC b L 0 m) (hby : ∀ k, k < L → ¬ b k = -1) (h60 : L ≤ 60) : Tot (r_X1_readFrom 1 0 m) (fun q => (∃ n, Bn w b L n q.1 ∧ (q.1 = true → (∀ a, a < 12 → q.2 36 1 a = us b L n a) ∧ q.2 1 1 0 = nI n ∧ q.2 8 0 3 = -1) ∧ (q.1 = false → FtC (lnE w b L n).1 (lnE w b L n).2 q.2)) ∧ Fj KBk JTc m q.2) := by
  unfold r_X1_readFrom r_X1_clear
  rw [tot_bd1, tot_bd1]
  refine fill36.mono ?_
  rintro m1 ⟨c1, c2⟩
  refine tot_some.mpr ?_
  have hF1 : Fj KBk JTc m m1 := (Fj.rf.wrK (by simp) _ _).tr ((c2.mono (by simp)).j)
  have n1 : m1 1 1 0 = nI 0 := by
    rw [c2 1 1 (by simp), wr_eq]
    rfl
  have t1 : TC b L 0 m1 := h.fj (K := KBk) (J := []) ((Fj.rf.wrK (by simp) _ _).tr ((c2.mono (by simp)).j)) (by decide) (by simp)
  unfold r_X1_readFrom_l6
  rw [tot_bdS]
  refine tot_for (fun j (t : Int32 × Mem) => t.1 = nI j ∧ (∀ i, i < j → ps b L i < L ∧ (lnE w b L i).1 = 0) ∧ (∃ p, TC b L p t.2 ∧ sk b L p = ps b L j) ∧ (∀ a, a < 12 → t.2 36 1 a = us b L j a) ∧ t.2 1 1 0 = nI j ∧ Fj KBk JTc m t.2) 60 ?_ ?_ 0 _ (Nat.zero_le _) ⟨rfl, fun i hi => absurd hi (Nat.not_lt_zero i), ⟨0, t1, rfl⟩, c1, n1, hF1⟩
  · rintro j ⟨x3, m2⟩ hj ⟨e1, e2, ⟨p, e3, e4⟩, e5, e6, hF⟩
    dsimp only at e1 e2 e3 e5 e6 hF ⊢
    subst e1
    unfold r_X1_readFrom_b6
    rw [if_neg (show ¬ (60 : Int32) ≤ nI (j) from nI_ge (b := 60) (a := j) (by omega) (by omega)), tot_bd2]
    refine (peek_c e3).mono ?_
    rw [e4]
    rintro ⟨z, m3⟩ ⟨g1, g2, g3⟩
    dsimp only at g1 g2 g3 ⊢
    have hF3 : Fj KBk JTc m m3 := hF.tr (g3.mono (by simp) (by simp))
    rw [g1]
    have hp3 : ps b L j ≤ L := g2.2.2.1
    by_cases hx : ps b L j < L
    · rw [bA_in hx, if_neg (hby _ hx), tot_bd2]
      refine (line_c hW (hL.fj hF3 (by decide) (by decide)) g2 (by rw [← e4, sk_sk e3.2.2.1]) (fun a ha => by rw [g3 36 1 a (by simp) (by simp)]; exact e5 a ha) (by rw [g3 1 1 0 (by simp) (by simp)]; exact e6)).mono ?_
      rintro ⟨z10, m9⟩ ⟨l1, l2, l3⟩
      dsimp only at l1 l2 l3 ⊢
      by_cases hE : (lnE w b L j).1 = 0
      · obtain ⟨r1, r2, r3, r4⟩ := l1 hE
        rw [if_pos r1]
        exact tot_some.mpr ⟨(nI_succ j).symm, lt_ex e2 ⟨hx, hE⟩, r2, r3, r4, hF3.tr l3⟩
      · obtain ⟨r1, r2⟩ := l2 hE
        rw [if_neg (by rw [r1]; decide)]
        refine tot_some.mpr ?_
        show Tot (some (false, m9)) _
        exact tot_some.mpr ⟨⟨j, ⟨e2, Or.inr ⟨rfl, hx, hE⟩⟩, fun e => Bool.noConfusion e, fun _ => r2⟩, hF3.tr l3⟩
    · rw [bA_out hx, if_pos rfl, tot_some]
      show Tot (r_X1_readFrom_e37_h6 m3) _
      unfold r_X1_readFrom_e37_h6
      exact tot_some.mpr ⟨⟨j, ⟨e2, Or.inl ⟨rfl, hx⟩⟩, fun _ => ⟨fun a ha => by show m3 36 1 a = _; rw [g3 36 1 a (by simp) (by simp)]; exact e5 a ha, by show m3 1 1 0 = _; rw [g3 1 1 0 (by simp) (by simp)]; exact e6, g2.2.2.2.1.2⟩, fun e => Bool.noConfusion e⟩, hF3⟩
  · rintro ⟨x3, m2⟩ ⟨e1, e2, ⟨p, e3, e4⟩, e5, e6, hF⟩
    dsimp only at e1 e2 e3 e5 e6 hF ⊢
    subst e1
    have h1 := ps_ge 60 (fun j hj => (e2 j hj).2)
    have hx : ¬ ps b L 60 < L := by omega
    unfold r_X1_readFrom_b6
    rw [if_pos (by decide), tot_some]
    show Tot (r_X1_readFrom_e37_h6 m2) _
    unfold r_X1_readFrom_e37_h6
    exact tot_some.mpr ⟨⟨60, ⟨e2, Or.inl ⟨rfl, hx⟩⟩, fun _ => ⟨e5, e6, e3.2.2.2.1.2⟩, fun e => Bool.noConfusion e⟩, hF⟩
