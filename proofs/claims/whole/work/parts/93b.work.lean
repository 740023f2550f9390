/-! ===== work's text: the class ===== -/
abbrev KSc : List (Nat × Nat) := [(39, 0), (40, 0), (41, 0), (42, 0)]
abbrev JSc : List (Nat × Nat) := [(8, 2), (8, 3), (8, 4), (8, 6), (9, 3)]
/-- a step as the class keeps it -/
def CR (m : Mem) (j : Nat) (x : Sd) : Prop := m 39 0 j = sK x ∧ ((sK x = 0 ∨ sK x = 1 ∨ sK x = 2 ∨ sK x = 5) → m 40 0 j = sA x) ∧ ((sK x = 0 ∨ sK x = 1 ∨ sK x = 2 ∨ sK x = 3) → m 41 0 j = sF x) ∧ ((sK x = 0 ∨ sK x = 3) → m 42 0 j = sT x) ∧ (sK x = 5 → m 42 0 j = nI (sN x))
/-- the steps ahead are as they were -/
def Low (i : Nat) (m m' : Mem) : Prop := ∀ k j, (k = 39 ∨ k = 40 ∨ k = 41 ∨ k = 42) → j < i → m' k 0 j = m k 0 j
theorem Low.rf {i : Nat} {m : Mem} : Low i m m := fun _ _ _ _ => rfl
theorem Low.tr {i : Nat} {m m1 m2 : Mem} (h : Low i m m1) (h2 : Low i m1 m2) : Low i m m2 := fun k j hk hj => (h2 k j hk hj).trans (h k j hk hj)
theorem Low.mono {i i' : Nat} {m m1 : Mem} (h : Low i m m1) (hi : i' ≤ i) : Low i' m m1 := fun k j hk hj => h k j hk (by omega)
theorem Low.w {i a c : Nat} {x : Int32} {m m1 : Mem} (h : Low i m m1) (hc : i ≤ c) : Low i m (wr m1 a 0 c x) := fun k j hk hj => by
  rw [← h k j hk hj]
  unfold wr
  rw [if_neg (fun e => by have := e.2.2; omega)]
theorem Low.wk {i a b c : Nat} {x : Int32} {m m1 : Mem} (h : Low i m m1) (ha : a < 39) : Low i m (wr m1 a b c x) := fun k j hk hj => by
  rw [← h k j hk hj]
  exact wr_k (by omega)
theorem Low.of {i : Nat} {J : List (Nat × Nat)} {m m1 : Mem} (h : Fj [] J m m1) (hJ : ∀ q ∈ J, q.1 < 39) : Low i m m1 := fun k j hk _ => h k 0 j (by simp) (fun q => by have := hJ _ q; dsimp only at this; omega)
theorem CR.lo {n j : Nat} {x : Sd} {m m' : Mem} (h : CR m j x) (hl : Low n m m') (hj : j < n) : CR m' j x := by
  unfold CR at h ⊢
  rw [hl 39 j (by omega) hj, hl 40 j (by omega) hj, hl 41 j (by omega) hj, hl 42 j (by omega) hj]
  exact h
theorem FtC.w {k x : Int32} {e a b c : Nat} {m : Mem} (h : FtC k e m) (ha : ¬ a = 8) : FtC k e (wr m a b c x) := by
  unfold FtC
  rw [wr_k (fun q => ha q.symm), wr_k (fun q => ha q.symm)]
  exact h
theorem TC.w {b : Nat → Int32} {L p a i j : Nat} {x : Int32} {m : Mem} (h : TC b L p m) (h1 : ¬ a = 8) (h2 : ¬ a = 37) : TC b L p (wr m a i j x) :=
  h.fj (K := [(a, i)]) (J := []) (Fj.rf.wrK (by simp) _ _) (fun q hq => by rw [List.mem_singleton.mp hq]; exact ⟨h1, h2⟩) (by simp)
/-- the class read what the text says -/
def SsC (b : Nat → Int32) (L : Nat) (R : Rs) (i : Nat) (m : Mem) (q : Bool × Mem) : Prop := (∀ p l, R = .inr (p, l) → q.1 = true ∧ TC b L p q.2 ∧ q.2 9 0 3 = nI (i + l.length) ∧ ∀ j, j < l.length → CR q.2 (i + j) (tf l j)) ∧ (∀ e, R = .inl e → q.1 = false ∧ FtC e.1 e.2 q.2) ∧ Low i m q.2 ∧ Fj KSc JSc m q.2
theorem SsC.bad {b : Nat → Int32} {L i e : Nat} {R : Rs} {k : Int32} {m m2 : Mem} (hR : R = .inl (k, e)) (hf : FtC k e m2) (hl : Low i m m2) (hF : Fj KSc JSc m m2) : SsC b L R i m (false, m2) := by
  rw [hR]
  exact ⟨fun p l e => (by cases e), fun e' he => by cases he; exact ⟨rfl, hf⟩, hl, hF⟩
theorem SsC.ok {b : Nat → Int32} {L i p : Nat} {R : Rs} {l : List Sd} {m m2 : Mem} {z : Bool} (hz : z = true) (hR : R = .inr (p, l)) (ht : TC b L p m2) (h9 : m2 9 0 3 = nI (i + l.length)) (hC : ∀ j, j < l.length → CR m2 (i + j) (tf l j)) (hl : Low i m m2) (hF : Fj KSc JSc m m2) : SsC b L R i m (z, m2) := by
  rw [hR]
  exact ⟨fun p l e => by cases e; exact ⟨hz, ht, h9, hC⟩, fun e' he => (by cases he), hl, hF⟩
theorem SsC.one {b : Nat → Int32} {L i p : Nat} {R : Rs} {x : Sd} {m m2 : Mem} {z : Bool} (hz : z = true) (hR : R = .inr (p, [x])) (ht : TC b L p m2) (h9 : m2 9 0 3 = nI (i + 1)) (hC : CR m2 i x) (hl : Low i m m2) (hF : Fj KSc JSc m m2) : SsC b L R i m (z, m2) :=
  SsC.ok hz hR ht h9 (fun j hj => by
    have : j = 0 := by
      have hj' : j < 1 := hj
      omega
    subst this
    exact hC) hl hF
theorem SsC.cat {b : Nat → Int32} {L i : Nat} {R R2 : Rs} {l1 : List Sd} {m m2 : Mem} {q : Bool × Mem} (h : SsC b L R2 (i + l1.length) m2 q) (hR : R = bs R2 fun p2 l2 => .inr (p2, l1 ++ l2)) (h1 : ∀ j, j < l1.length → CR m2 (i + j) (tf l1 j)) (hl : Low i m m2) (hF : Fj KSc JSc m m2) : SsC b L R i m q := by
  obtain ⟨a1, a2, a3, a4⟩ := h
  match R2, a1, a2, hR with
  | .inl e, a1, a2, hR =>
    have hR' : R = .inl e := hR
    rw [hR']
    exact ⟨fun p l e => (by cases e), a2, hl.tr (a3.mono (by omega)), hF.tr a4⟩
  | .inr (p2, l2), a1, a2, hR =>
    have hR' : R = .inr (p2, l1 ++ l2) := hR
    rw [hR']
    refine ⟨fun p l e => ?_, fun e he => (by cases he), hl.tr (a3.mono (by omega)), hF.tr a4⟩
    cases e
    obtain ⟨b1, b2, b3, b4⟩ := a1 p2 l2 rfl
    refine ⟨b1, b2, by rw [b3, List.length_append, Nat.add_assoc], fun j hj => ?_⟩
    rw [List.length_append] at hj
    by_cases hj1 : j < l1.length
    · rw [tf_lo hj1]
      exact (h1 j hj1).lo a3 (by omega)
    · have e1 : j = l1.length + (j - l1.length) := by omega
      rw [e1, tf_off, ← Nat.add_assoc]
      exact b4 _ (by omega)
theorem who_c {b : Nat → Int32} {L p i N : Nat} {m : Mem} (h : TC b L p m) (hN : m 3 0 2 = nI N) (hi : i < 38) : Tot (r_X9_readWho (nI i) m) (fun q => (nmE b L 0 (nI N - 1) (sk b L p) = 0 → q.1 = true ∧ TC b L (nmN b L (sk b L p)) q.2 ∧ q.2 40 0 i = nmV b L (sk b L p)) ∧ (¬ nmE b L 0 (nI N - 1) (sk b L p) = 0 → q.1 = false ∧ FtC (nmE b L 0 (nI N - 1) (sk b L p)) (sk b L p) q.2) ∧ Low i m q.2 ∧ Fj [(40, 0)] JTc m q.2) := by
  unfold r_X9_readWho
  rw [hN, tot_bd2]
  refine (number_c h).mono ?_
  rintro ⟨z, m2⟩ ⟨g1, g2, g3⟩
  dsimp only at g1 g2 g3 ⊢
  rw [if_pos (inb_nI (by omega) (by omega)), clamp_nI (by omega)]
  have hl : Low i m (wr m2 40 0 i z) := (Low.of g3 (by decide)).w (Nat.le_refl _)
  have hF : Fj [(40, 0)] JTc m (wr m2 40 0 i z) := (g3.mono (by simp) (fun q hq => hq)).wrK (by simp) _ _
  by_cases e0 : nmE b L 0 (nI N - 1) (sk b L p) = 0
  · obtain ⟨v1, v2, -⟩ := g1 e0
    rw [if_neg (by rw [v1]; exact nm_m1 e0 (by decide))]
    exact tot_some.mpr ⟨fun _ => ⟨rfl, v2.w (by decide) (by decide), by dsimp only; rw [wr_eq]; exact v1⟩, fun n => absurd e0 n, hl, hF⟩
  · obtain ⟨v1, v2⟩ := g2 e0
    rw [if_pos v1]
    exact tot_some.mpr ⟨fun n => absurd n e0, fun _ => ⟨rfl, v2.w (by decide)⟩, hl, hF⟩
theorem start_c {b : Nat → Int32} {L p i P : Nat} {m : Mem} (h : TC b L p m) (hN : m 3 0 0 = nI P) (hi : i < 38) : Tot (r_X9_readStart (nI i) m) (fun q => (nmE b L 0 (nI P - 1) (sk b L p) = 0 → q.1 = true ∧ TC b L (nmN b L (sk b L p)) q.2 ∧ q.2 41 0 i = nmV b L (sk b L p)) ∧ (¬ nmE b L 0 (nI P - 1) (sk b L p) = 0 → q.1 = false ∧ FtC (nmE b L 0 (nI P - 1) (sk b L p)) (sk b L p) q.2) ∧ Low i m q.2 ∧ Fj [(41, 0)] JTc m q.2) := by
  unfold r_X9_readStart
  rw [hN, tot_bd2]
  refine (number_c h).mono ?_
  rintro ⟨z, m2⟩ ⟨g1, g2, g3⟩
  dsimp only at g1 g2 g3 ⊢
  rw [if_pos (inb_nI (by omega) (by omega)), clamp_nI (by omega)]
  have hl : Low i m (wr m2 41 0 i z) := (Low.of g3 (by decide)).w (Nat.le_refl _)
  have hF : Fj [(41, 0)] JTc m (wr m2 41 0 i z) := (g3.mono (by simp) (fun q hq => hq)).wrK (by simp) _ _
  by_cases e0 : nmE b L 0 (nI P - 1) (sk b L p) = 0
  · obtain ⟨v1, v2, -⟩ := g1 e0
    rw [if_neg (by rw [v1]; exact nm_m1 e0 (by decide))]
    exact tot_some.mpr ⟨fun _ => ⟨rfl, v2.w (by decide) (by decide), by dsimp only; rw [wr_eq]; exact v1⟩, fun n => absurd e0 n, hl, hF⟩
  · obtain ⟨v1, v2⟩ := g2 e0
    rw [if_pos v1]
    exact tot_some.mpr ⟨fun n => absurd n e0, fun _ => ⟨rfl, v2.w (by decide)⟩, hl, hF⟩
theorem goal_c {b : Nat → Int32} {L p i a : Nat} {w : Wd} {m : Mem} (h : TC b L p m) (hW : WF w) (hL : CL w m) (hi : i < 38) (ha : a < wP w) (h41 : m 41 0 i = nI a) : Tot (r_X9_readGoal (nI i) m) (fun q => (ngE b L (wP w) (bw w a) (sk b L p) = 0 → q.1 = true ∧ TC b L (nmN b L (sk b L p)) q.2 ∧ q.2 42 0 i = nmV b L (sk b L p)) ∧ (¬ ngE b L (wP w) (bw w a) (sk b L p) = 0 → q.1 = false ∧ FtC (ngE b L (wP w) (bw w a) (sk b L p)) (sk b L p) q.2) ∧ Low i m q.2 ∧ Fj [(42, 0)] JTc m q.2) := by
  have hP := hW.1
  unfold r_X9_readGoal
  rw [if_pos (inb_nI (by omega) (by omega)), clamp_nI (by omega), h41, tot_bd2]
  refine (linkedN_c (g := bw w a) (a := a) (i1 := 0) h (hL.1.trans hP.1) hP.2 (by omega) (fun c hc => hL.2.2.2.2.2.2.1 a c (by omega) (by omega))).mono ?_
  rintro ⟨z, m2⟩ ⟨g1, g2, g3⟩
  dsimp only at g1 g2 g3 ⊢
  have hl : Low i m (wr m2 42 0 i z) := (Low.of g3 (by decide)).w (Nat.le_refl _)
  have hF : Fj [(42, 0)] JTc m (wr m2 42 0 i z) := (g3.mono (by simp) (fun q hq => hq)).wrK (by simp) _ _
  by_cases e0 : ngE b L (wP w) (bw w a) (sk b L p) = 0
  · obtain ⟨v1, v2⟩ := g1 e0
    rw [if_neg (by rw [v1]; exact nm_m1 (ng_0 e0).1 (by decide))]
    exact tot_some.mpr ⟨fun _ => ⟨rfl, v2.w (by decide) (by decide), by dsimp only; rw [wr_eq]; exact v1⟩, fun n => absurd e0 n, hl, hF⟩
  · obtain ⟨v1, v2⟩ := g2 e0
    rw [if_pos v1]
    exact tot_some.mpr ⟨fun n => absurd n e0, fun _ => ⟨rfl, v2.w (by decide)⟩, hl, hF⟩
theorem jt_js : ∀ q ∈ JTc, q ∈ JSc := by decide
/-- the class's step has begun -/
def Hc (b : Nat → Int32) (L : Nat) (w : Wd) (i s : Nat) (k : Int32) (m m1 : Mem) : Prop := TC b L (wE b L s) m1 ∧ CL w m1 ∧ m1 9 0 3 = nI (i + 1) ∧ m1 39 0 i = k ∧ Low i m m1 ∧ Fj KSc JSc m m1
theorem two_c {b : Nat → Int32} {L i s : Nat} {w : Wd} {sub : Option (Nat → Nat → Rs)} {rec : Nat → Nat → List Int32 → Mem → Option (Bool × Mem)} {m m1 : Mem} (hW : WF w) (hi : i < 38) (hl : lw b L s = 1 ∨ lw b L s = 2) (h : Hc b L w i s (nI (lw b L s)) m m1) : Tot (r_X9_readStep_j160 rec (nI i) m1) (SsC b L (stB b L w sub i s) i m) := by
  obtain ⟨h1, h2, h3, h4, h5, h6⟩ := h
  have hP := hW.1
  have hN := hW.2.2.1
  have l0 : ¬ lw b L s = 0 := by omega
  unfold r_X9_readStep_j160
  rw [tot_bd2]
  refine (who_c h1 (h2.2.2.1.trans hN.1) hi).mono ?_
  rintro ⟨z, m2⟩ ⟨a1, a2, a3, a4⟩
  dsimp only at a1 a2 a3 a4 ⊢
  have F2 : Fj KSc JSc m m2 := h6.tr (a4.mono (by simp) jt_js)
  by_cases g1 : nmE b L 0 (nI (wN w) - 1) (k1 b L s) = 0
  case neg =>
    obtain ⟨v1, v2⟩ := a2 g1
    rw [if_neg (by rw [v1]; decide)]
    exact tot_some.mpr (SsC.bad (by unfold stB; rw [if_neg l0, if_pos hl, if_neg g1]) v2 (h5.tr a3) F2)
  obtain ⟨v1, v2, v3⟩ := a1 g1
  have hL2 : CL w m2 := h2.fj a4 (by simp) (by decide)
  rw [if_pos v1, tot_bd2]
  refine (start_c v2 (hL2.1.trans hP.1) hi).mono ?_
  rintro ⟨z7, m6⟩ ⟨b1, b2, b3, b4⟩
  dsimp only at b1 b2 b3 b4 ⊢
  have F6 : Fj KSc JSc m m6 := F2.tr (b4.mono (by simp) jt_js)
  by_cases g2 : nmE b L 0 (nI (wP w) - 1) (k2 b L s) = 0
  case neg =>
    obtain ⟨u1, u2⟩ := b2 g2
    rw [if_neg (by rw [u1]; decide)]
    exact tot_some.mpr (SsC.bad (by unfold stB; rw [if_neg l0, if_pos hl, if_pos g1, if_neg g2]) u2 ((h5.tr a3).tr b3) F6)
  obtain ⟨u1, u2, u3⟩ := b1 g2
  rw [if_pos u1]
  refine tot_some.mpr (SsC.one rfl (x := (nI (lw b L s), nmV b L (k1 b L s), nmV b L (k2 b L s), 0, i + 1)) (by unfold stB; rw [if_neg l0, if_pos hl, if_pos g1, if_pos g2]) u2 ?_ ?_ ((h5.tr a3).tr b3) F6)
  · rw [b4 9 0 3 (by simp) (by simp), a4 9 0 3 (by simp) (by simp)]
    exact h3
  · unfold CR
    rw [sK_mk, sA_mk, sF_mk]
    refine ⟨?_, fun _ => ?_, fun _ => u3, fun e => ?_, fun e => ?_⟩
    · rw [b4 39 0 i (by simp) (by simp), a4 39 0 i (by simp) (by simp)]
      exact h4
    · rw [b4 40 0 i (by simp) (by simp)]
      exact v3
    · exfalso
      rcases hl with q | q <;> rw [q] at e <;> exact absurd e (by decide)
    · exfalso
      rcases hl with q | q <;> rw [q] at e <;> exact absurd e (by decide)
set_option maxHeartbeats 1000000 in
theorem tell_c {b : Nat → Int32} {L i s : Nat} {w : Wd} {sub : Option (Nat → Nat → Rs)} {m m1 : Mem} (hW : WF w) (hi : i < 38) (hl : lw b L s = 0) (h : Hc b L w i s 0 m m1) : Tot (bd2 (r_X9_readWho (nI i) m1) fun z21 m20 => (if z21 = true then (bd2 (r_X9_readStart (nI i) m20) fun z25 m24 => (if z25 = true then (bd2 (r_X9_readGoal (nI i) m24) fun z29 m28 => (if z29 = true then (some (true, m28)) else (some (false, m28)))) else (some (false, m24)))) else (some (false, m20)))) (SsC b L (stB b L w sub i s) i m) := by
  obtain ⟨h1, h2, h3, h4, h5, h6⟩ := h
  have hP := hW.1
  have hN := hW.2.2.1
  rw [tot_bd2]
  refine (who_c h1 (h2.2.2.1.trans hN.1) hi).mono ?_
  rintro ⟨z, m2⟩ ⟨a1, a2, a3, a4⟩
  dsimp only at a1 a2 a3 a4 ⊢
  have F2 : Fj KSc JSc m m2 := h6.tr (a4.mono (by simp) jt_js)
  by_cases g1 : nmE b L 0 (nI (wN w) - 1) (k1 b L s) = 0
  case neg =>
    obtain ⟨v1, v2⟩ := a2 g1
    rw [if_neg (by rw [v1]; decide)]
    exact tot_some.mpr (SsC.bad (by unfold stB; rw [if_pos hl, if_neg g1]) v2 (h5.tr a3) F2)
  obtain ⟨v1, v2, v3⟩ := a1 g1
  have hL2 : CL w m2 := h2.fj a4 (by simp) (by decide)
  rw [if_pos v1, tot_bd2]
  refine (start_c v2 (hL2.1.trans hP.1) hi).mono ?_
  rintro ⟨z7, m6⟩ ⟨b1, b2, b3, b4⟩
  dsimp only at b1 b2 b3 b4 ⊢
  have F6 : Fj KSc JSc m m6 := F2.tr (b4.mono (by simp) jt_js)
  by_cases g2 : nmE b L 0 (nI (wP w) - 1) (k2 b L s) = 0
  case neg =>
    obtain ⟨u1, u2⟩ := b2 g2
    rw [if_neg (by rw [u1]; decide)]
    exact tot_some.mpr (SsC.bad (by unfold stB; rw [if_pos hl, if_pos g1, if_neg g2]) u2 ((h5.tr a3).tr b3) F6)
  obtain ⟨u1, u2, u3⟩ := b1 g2
  obtain ⟨a, ha, ea⟩ := nm_k (by omega) g2
  have hL6 : CL w m6 := hL2.fj b4 (by simp) (by decide)
  rw [if_pos u1, tot_bd2]
  refine (goal_c u2 hW hL6 hi ha (u3.trans ea)).mono ?_
  rintro ⟨z9, m8⟩ ⟨d1, d2, d3, d4⟩
  dsimp only at d1 d2 d3 d4 ⊢
  have F8 : Fj KSc JSc m m8 := F6.tr (d4.mono (by simp) jt_js)
  by_cases g3 : ngE b L (wP w) (bw w a) (k3 b L s) = 0
  case neg =>
    obtain ⟨t1, t2⟩ := d2 g3
    rw [if_neg (by rw [t1]; decide)]
    exact tot_some.mpr (SsC.bad (by unfold stB; rw [if_pos hl, if_pos g1, if_pos g2, ea, clamp_nI (by omega), if_neg g3]) t2 (((h5.tr a3).tr b3).tr d3) F8)
  obtain ⟨t1, t2, t3⟩ := d1 g3
  rw [if_pos t1]
  refine tot_some.mpr (SsC.one rfl (x := (0, nmV b L (k1 b L s), nmV b L (k2 b L s), nmV b L (k3 b L s), i + 1)) (by unfold stB; rw [if_pos hl, if_pos g1, if_pos g2, ea, clamp_nI (by omega), if_pos g3]) t2 ?_ ?_ (((h5.tr a3).tr b3).tr d3) F8)
  · rw [d4 9 0 3 (by simp) (by simp), b4 9 0 3 (by simp) (by simp), a4 9 0 3 (by simp) (by simp)]
    exact h3
  · unfold CR
    rw [sK_mk, sA_mk, sF_mk, sT_mk]
    refine ⟨?_, fun _ => ?_, fun _ => ?_, fun _ => t3, fun e => absurd e (by decide)⟩
    · rw [d4 39 0 i (by simp) (by simp), b4 39 0 i (by simp) (by simp), a4 39 0 i (by simp) (by simp)]
      exact h4
    · rw [d4 40 0 i (by simp) (by simp), b4 40 0 i (by simp) (by simp)]
      exact v3
    · rw [d4 41 0 i (by simp) (by simp)]
      exact u3
theorem dig_c {b : Nat → Int32} {L i s : Nat} {w : Wd} {sub : Option (Nat → Nat → Rs)} {m m1 : Mem} (hW : WF w) (hi : i < 38) (hl : lw b L s = 3) (h : Hc b L w i s 3 m m1) : Tot (bd2 (r_X9_readStart (nI i) m1) fun z44 m43 => (if z44 = true then (bd2 (r_X9_readGoal (nI i) m43) fun z48 m47 => (if z48 = true then (some (true, m47)) else (some (false, m47)))) else (some (false, m43)))) (SsC b L (stB b L w sub i s) i m) := by
  obtain ⟨h1, h2, h3, h4, h5, h6⟩ := h
  have hP := hW.1
  have l0 : ¬ lw b L s = 0 := by omega
  have l1 : ¬ (lw b L s = 1 ∨ lw b L s = 2) := by omega
  rw [tot_bd2]
  refine (start_c h1 (h2.1.trans hP.1) hi).mono ?_
  rintro ⟨z7, m6⟩ ⟨b1, b2, b3, b4⟩
  dsimp only at b1 b2 b3 b4 ⊢
  have F6 : Fj KSc JSc m m6 := h6.tr (b4.mono (by simp) jt_js)
  by_cases g2 : nmE b L 0 (nI (wP w) - 1) (k1 b L s) = 0
  case neg =>
    obtain ⟨u1, u2⟩ := b2 g2
    rw [if_neg (by rw [u1]; decide)]
    exact tot_some.mpr (SsC.bad (by unfold stB; rw [if_neg l0, if_neg l1, if_pos hl, if_neg g2]) u2 (h5.tr b3) F6)
  obtain ⟨u1, u2, u3⟩ := b1 g2
  obtain ⟨a, ha, ea⟩ := nm_k (by omega) g2
  have hL6 : CL w m6 := h2.fj b4 (by simp) (by decide)
  rw [if_pos u1, tot_bd2]
  refine (goal_c u2 hW hL6 hi ha (u3.trans ea)).mono ?_
  rintro ⟨z9, m8⟩ ⟨d1, d2, d3, d4⟩
  dsimp only at d1 d2 d3 d4 ⊢
  have F8 : Fj KSc JSc m m8 := F6.tr (d4.mono (by simp) jt_js)
  by_cases g3 : ngE b L (wP w) (bw w a) (k2 b L s) = 0
  case neg =>
    obtain ⟨t1, t2⟩ := d2 g3
    rw [if_neg (by rw [t1]; decide)]
    exact tot_some.mpr (SsC.bad (by unfold stB; rw [if_neg l0, if_neg l1, if_pos hl, if_pos g2, ea, clamp_nI (by omega), if_neg g3]) t2 ((h5.tr b3).tr d3) F8)
  obtain ⟨t1, t2, t3⟩ := d1 g3
  rw [if_pos t1]
  refine tot_some.mpr (SsC.one rfl (x := (3, 0, nmV b L (k1 b L s), nmV b L (k2 b L s), i + 1)) (by unfold stB; rw [if_neg l0, if_neg l1, if_pos hl, if_pos g2, ea, clamp_nI (by omega), if_pos g3]) t2 ?_ ?_ ((h5.tr b3).tr d3) F8)
  · rw [d4 9 0 3 (by simp) (by simp), b4 9 0 3 (by simp) (by simp)]
    exact h3
  · unfold CR
    rw [sK_mk, sF_mk, sT_mk]
    refine ⟨?_, fun e => absurd e (by decide), fun _ => ?_, fun _ => t3, fun e => absurd e (by decide)⟩
    · rw [d4 39 0 i (by simp) (by simp), b4 39 0 i (by simp) (by simp)]
      exact h4
    · rw [d4 41 0 i (by simp) (by simp)]
      exact u3
/-- what is inside brackets -/
def HTc (b : Nat → Int32) (L : Nat) (w : Wd) (o : Nat) (sub : Option (Nat → Nat → Rs)) (rec : Nat → Nat → List Int32 → Mem → Option (Bool × Mem)) : Prop := o ≤ 6 ∧ (o < 6 → ∃ f, sub = some f ∧ Gs L w (5 - o) f ∧ ∀ i p m, TC b L p m → CL w m → m 9 0 3 = nI i → 4 * i ≤ p → Tot (rec 0 0 [nI (o + 1)] m) (SsC b L (f i p) i m)) ∧ (o = 6 → sub = none)
theorem HTc.gs {b : Nat → Int32} {L o : Nat} {w : Wd} {sub : Option (Nat → Nat → Rs)} {rec : Nat → Nat → List Int32 → Mem → Option (Bool × Mem)} (h : HTc b L w o sub rec) : ∀ f, sub = some f → ∃ d', 6 - o = d' + 1 ∧ Gs L w d' f := fun f hf => by
  by_cases ho : o < 6
  · obtain ⟨f2, e, g, -⟩ := h.2.1 ho
    rw [e] at hf
    cases hf
    exact ⟨5 - o, by omega, g⟩
  · rw [h.2.2 (by have := h.1; omega)] at hf
    cases hf
set_option maxHeartbeats 1000000 in
theorem again_c {b : Nat → Int32} {L i s o : Nat} {w : Wd} {sub : Option (Nat → Nat → Rs)} {rec : Nat → Nat → List Int32 → Mem → Option (Bool × Mem)} {m m1 : Mem} (hW : WF w) (hL : L ≤ 150) (hi : i < 38) (hs : s ≤ L) (h4i : 4 * i ≤ s) (hl : lw b L s = 5) (ho : o < 6) (hT : HTc b L w o sub rec) (h : Hc b L w i s 5 m m1) : Tot (r_X9_readAgain rec (nI o) (nI i) m1) (SsC b L (stB b L w sub i s) i m) := by
  obtain ⟨h1, h2, h3, h4, h5, h6⟩ := h
  obtain ⟨f, hf, hG, hr⟩ := hT.2.1 ho
  obtain ⟨u1, u2, u3, u4, u5, -⟩ := k_up (b := b) hs
  obtain ⟨w1, w2, -⟩ := lw_3 hs (show lw b L s < 6 by omega)
  have hR : stB b L w sub i s = if nmE b L 0 60 (k1 b L s) = 0 then
        (if bA b L (k2 b L s) = 91 then bs (f (i + 1) (k2 b L s + 1)) fun p1 l1 => if bA b L (sk b L p1) = 93 then .inr (sk b L p1 + 1, (5, nmV b L (k1 b L s), 0, 0, i + 1 + l1.length) :: l1) else .inl (1, sk b L p1)
        else .inl (1, k2 b L s))
      else .inl (nmE b L 0 60 (k1 b L s), k1 b L s) := by
    unfold stB
    rw [if_neg (by omega), if_neg (by omega), if_neg (by omega), if_neg (by omega), if_pos hl, hf]
  unfold r_X9_readAgain
  rw [tot_bd2]
  refine (number_c h1).mono ?_
  rintro ⟨z, m2⟩ ⟨g1, g2, g3⟩
  dsimp only at g1 g2 g3 ⊢
  rw [if_pos (inb_nI (by omega) (by omega)), clamp_nI (by omega)]
  have hl2 : Low i m (wr m2 40 0 i z) := (h5.tr (Low.of g3 (by decide))).w (Nat.le_refl _)
  have F2 : Fj KSc JSc m (wr m2 40 0 i z) := (h6.tr (g3.mono (by simp) jt_js)).wrK (by simp) _ _
  by_cases e0 : nmE b L 0 60 (k1 b L s) = 0
  case neg =>
    obtain ⟨v1, v2⟩ := g2 e0
    rw [if_neg e0] at hR
    rw [if_pos v1]
    exact tot_some.mpr (SsC.bad hR (v2.w (by decide)) hl2 F2)
  obtain ⟨v1, v2, -⟩ := g1 e0
  have zz := (nm_in e0).2.2
  rw [if_pos e0] at hR
  rw [if_neg (by rw [v1]; exact nm_m1 e0 (by decide)), tot_bd2]
  have t2 : TC b L (nmN b L (k1 b L s)) (wr m2 40 0 i z) := v2.w (by decide) (by decide)
  have q40 : wr m2 40 0 i z 40 0 i = nmV b L (k1 b L s) := by rw [wr_eq]; exact v1
  have q39 : wr m2 40 0 i z 39 0 i = 5 := by rw [wr_k (by decide), g3 39 0 i (by simp) (by simp)]; exact h4
  have q9 : wr m2 40 0 i z 9 0 3 = nI (i + 1) := by rw [wr_k (by decide), g3 9 0 3 (by simp) (by simp)]; exact h3
  have hL2 : CL w (wr m2 40 0 i z) := (h2.fj g3 (by simp) (by decide)).fj (K := [(40, 0)]) (J := []) (Fj.rf.wrK (by simp) _ _) (by decide) (by simp)
  generalize wr m2 40 0 i z = m3 at hl2 F2 t2 q40 q39 q9 hL2 ⊢
  refine (sign_c (c := 91) t2 (by decide)).mono ?_
  rintro ⟨z8, m7⟩ ⟨s1, s2, s3⟩
  dsimp only at s1 s2 s3 ⊢
  have hl7 : Low i m m7 := hl2.tr (Low.of s3 (by decide))
  have F7 : Fj KSc JSc m m7 := F2.tr (s3.mono (by simp) jt_js)
  by_cases c5 : bA b L (k2 b L s) = 91
  case neg =>
    obtain ⟨x1, x2⟩ := s2 c5
    rw [if_neg c5] at hR
    rw [if_neg (by rw [x1]; decide)]
    exact tot_some.mpr (SsC.bad hR x2 hl7 F7)
  obtain ⟨x1, x2, x3⟩ := s1 c5
  have x2' := bA_lt c5 (by decide)
  rw [if_pos c5] at hR
  rw [if_pos x1, ← nI_succ, tot_bd2]
  refine (hr (i + 1) (k2 b L s + 1) m7 x3 (hL2.fj s3 (by simp) (by decide)) (by rw [s3 9 0 3 (by simp) (by simp)]; exact q9) (by omega)).mono ?_
  rintro ⟨z12, m11⟩ ⟨y1, y2, y3, y4⟩
  dsimp only at y1 y2 y3 y4 ⊢
  have hl11 : Low i m m11 := hl7.tr (y3.mono (by omega))
  have F11 : Fj KSc JSc m m11 := F7.tr y4
  cases hq : f (i + 1) (k2 b L s + 1) with
  | inl e =>
    obtain ⟨d1, d2⟩ := y2 e hq
    rw [bs_l hq] at hR
    rw [if_neg (by rw [d1]; decide)]
    exact tot_some.mpr (SsC.bad hR d2 hl11 F11)
  | inr pl =>
    obtain ⟨p1, l1⟩ := pl
    obtain ⟨d1, d2, d3, d4⟩ := y1 p1 l1 hq
    rw [bs_r hq] at hR
    rw [if_pos d1, d3, tot_bd2]
    have t12 : TC b L p1 (wr m11 42 0 i (nI (i + 1 + l1.length))) := d2.w (by decide) (by decide)
    have hl12 : Low i m (wr m11 42 0 i (nI (i + 1 + l1.length))) := hl11.w (Nat.le_refl _)
    have F12 : Fj KSc JSc m (wr m11 42 0 i (nI (i + 1 + l1.length))) := F11.wrK (by simp) _ _
    have e9 : wr m11 42 0 i (nI (i + 1 + l1.length)) 9 0 3 = nI (i + (l1.length + 1)) := by
      rw [wr_k (by decide), d3]
      exact congrArg nI (by omega)
    have cr0 : CR (wr m11 42 0 i (nI (i + 1 + l1.length))) i (5, nmV b L (k1 b L s), 0, 0, i + 1 + l1.length) := by
      unfold CR
      rw [sK_mk, sA_mk, sN_mk]
      refine ⟨?_, fun _ => ?_, fun e => absurd e (by decide), fun e => absurd e (by decide), fun _ => wr_eq _ _ _ _ _⟩
      · rw [wr_k (by decide), y3 39 i (by omega) (by omega), s3 39 0 i (by simp) (by simp)]
        exact q39
      · rw [wr_k (by decide), y3 40 i (by omega) (by omega), s3 40 0 i (by simp) (by simp)]
        exact q40
    have crj : ∀ j, j < l1.length → CR (wr m11 42 0 i (nI (i + 1 + l1.length))) (i + 1 + j) (tf l1 j) := fun j hj => by
      have h0 := d4 j hj
      unfold CR at h0 ⊢
      rw [wr_k (a := 39) (by decide), wr_k (a := 40) (by decide), wr_k (a := 41) (by decide), wr_j (show ¬ i + 1 + j = i by omega)]
      exact h0
    generalize wr m11 42 0 i (nI (i + 1 + l1.length)) = m12 at t12 hl12 F12 e9 cr0 crj ⊢
    refine (sign_c (c := 93) t12 (by decide)).mono ?_
    rintro ⟨z16, m15⟩ ⟨s4, s5, s6⟩
    dsimp only at s4 s5 s6 ⊢
    have hl15 : Low i m m15 := hl12.tr (Low.of s6 (by decide))
    have F15 : Fj KSc JSc m m15 := F12.tr (s6.mono (by simp) jt_js)
    by_cases c6 : bA b L (sk b L p1) = 93
    · obtain ⟨r1, r2, r3⟩ := s4 c6
      rw [if_pos c6] at hR
      have cc : ∀ n x, CR m12 n x → CR m15 n x := fun n x hx => hx.lo (n := n + 1) (Low.of s6 (by decide)) (by omega)
      refine tot_some.mpr (SsC.ok r1 hR r3 (by rw [s6 9 0 3 (by simp) (by simp), List.length_cons]; exact e9) (fun j hj => ?_) hl15 F15)
      match j, hj with
      | 0, _ => exact cc _ _ cr0
      | j + 1, hj =>
        have := cc _ _ (crj j (by rw [List.length_cons] at hj; omega))
        rw [show i + (j + 1) = i + 1 + j by omega]
        exact this
    · obtain ⟨r1, r2⟩ := s5 c6
      rw [if_neg c6] at hR
      rw [r1]
      exact tot_some.mpr (SsC.bad hR r2 hl15 F15)
theorem swd_c {b : Nat → Int32} {L s : Nat} {m : Mem} (h : TC b L (wE b L s) m) (h2 : m 8 0 2 = nI s) {i : Nat} (hi : i < 6) : r_X8_wordIs (17 + i) m = some (decide (lw b L s = i)) := by
  have := wiB (i := 16 + i) h h2 (by omega)
  rw [show 1 + (16 + i) = 17 + i by omega] at this
  rw [this]
  exact congrArg some (decide_eq_decide.mpr (lw_iff hi))
theorem kindW_c {b : Nat → Int32} {L s : Nat} {m : Mem} (h : TC b L (wE b L s) m) (h2 : m 8 0 2 = nI s) : r_X9_kindOf m = some (if lw b L s < 6 then nI (lw b L s) else -1) := by
  have w : ∀ i, i < 6 → r_X8_wordIs (17 + i) m = some (decide (lw b L s = i)) := fun i hi => swd_c h h2 hi
  unfold r_X9_kindOf
  rw [bd1_s (w 0 (by omega)), bd1_s (w 1 (by omega)), bd1_s (w 2 (by omega)), bd1_s (w 3 (by omega)), bd1_s (w 4 (by omega)), bd1_s (w 5 (by omega))]
  simp only [decide_eq_true_eq]
  generalize lw b L s = k
  by_cases hk : k < 6
  · rw [if_pos hk]
    have : k = 0 ∨ k = 1 ∨ k = 2 ∨ k = 3 ∨ k = 4 ∨ k = 5 := by omega
    rcases this with rfl | rfl | rfl | rfl | rfl | rfl <;> rfl
  · rw [if_neg hk, if_neg (by omega), if_neg (by omega), if_neg (by omega), if_neg (by omega), if_neg (by omega), if_neg (by omega)]
set_option maxHeartbeats 1000000 in
theorem step_c {b : Nat → Int32} {L i p o g : Nat} {w : Wd} {sub : Option (Nat → Nat → Rs)} {m : Mem} (hW : WF w) (hL : L ≤ 150) (hT : HTc b L w o sub (rec_stp g)) (h : TC b L p m) (hCL : CL w m) (h9 : m 9 0 3 = nI i) (h4i : 4 * i ≤ p) : Tot (r_X9_readStep (rec_stp (g + 1)) (nI o) m) (SsC b L (stB b L w sub i (sk b L p)) i m) := by
  have hp := h.2.2.1
  obtain ⟨s1, s2⟩ := sk_le (b := b) hp
  have ho6 := hT.1
  unfold r_X9_readStep
  rw [tot_bd2]
  refine (word_c h).mono ?_
  generalize sk b L p = s at s1 s2 ⊢
  rintro ⟨z, m2⟩ ⟨g1, g2, g3⟩
  dsimp only at g1 g2 g3 ⊢
  have F2 : Fj KSc JSc m m2 := g3.mono (by simp) jt_js
  have l2 : Low i m m2 := Low.of g3 (by decide)
  by_cases c0 : ltF (bA b L s) = true
  case neg =>
    obtain ⟨e1, e2⟩ := g2 c0
    have h6 := lw_no s2 c0
    rw [if_neg (by rw [e1]; decide)]
    exact tot_some.mpr (SsC.bad (by unfold stB; rw [if_neg (by omega), if_neg (by omega), if_neg (by omega), if_neg (by omega), if_neg (by omega)]) e2 l2 F2)
  obtain ⟨e1, e2, e3⟩ := g1 c0
  have hCL2 : CL w m2 := hCL.fj g3 (by simp) (by decide)
  have h92 : m2 9 0 3 = nI i := by rw [g3 9 0 3 (by simp) (by simp)]; exact h9
  rw [if_pos e1, bd1_s (kindW_c e2 e3)]
  by_cases c6 : lw b L s < 6
  case neg =>
    obtain ⟨mw, w1, w2, w3⟩ := wrong_c (m := m2) (k := 1) (e := s)
    rw [if_neg c6, if_pos rfl, e3, bd2_s w1]
    exact tot_some.mpr (SsC.bad (by unfold stB; rw [if_neg (by omega), if_neg (by omega), if_neg (by omega), if_neg (by omega), if_neg (by omega)]) w2 (l2.tr (Low.of w3 (by decide))) (F2.tr (w3.mono (by simp) (by decide))))
  obtain ⟨w1, w2, -⟩ := lw_3 s2 c6
  have hi : i < 38 := by omega
  rw [if_pos c6, if_neg (m1_ne (by omega))]
  have hd : ∀ k, Hc b L w i s k m (wr (wr m2 9 0 3 (nI i + 1)) 39 0 i k) := fun k => ⟨(e2.w (by decide) (by decide)).w (by decide) (by decide), hCL2.fj (K := [(39, 0)]) (J := [(9, 3)]) ((Fj.rf.wrJ (by simp) _ _).wrK (by simp) _ _) (by decide) (by decide), by rw [wr_k (by decide), wr_eq, nI_succ], wr_eq _ _ _ _ _, (l2.wk (by decide)).w (Nat.le_refl _), (F2.wrJ (by simp) _ _).wrK (by simp) _ _⟩
  have ed : ∀ o2 : Option (Bool × Mem), Tot o2 (SsC b L (stB b L w sub i s) i m) → Tot (bd2 o2 fun z m => some (z, m)) (SsC b L (stB b L w sub i s) i m) := fun o2 ho => by
    rw [tot_bd2]
    refine ho.mono ?_
    rintro ⟨z, m3⟩ hz
    exact tot_some.mpr hz
  have body : (lw b L s = 5 → o < 6) → Tot (r_X9_readStep_j41 (rec_stp (g + 1)) (nI o) (nI (lw b L s)) m2) (SsC b L (stB b L w sub i s) i m) := fun hok => by
    unfold r_X9_readStep_j41
    rw [h92, if_pos (show nI (i) < (38 : Int32) from nI_lt (a := i) (b := 38) (by omega) (by omega)), if_pos (inb_nI (by omega) (by omega)), clamp_nI (by omega)]
    have : lw b L s = 0 ∨ lw b L s = 1 ∨ lw b L s = 2 ∨ lw b L s = 3 ∨ lw b L s = 4 ∨ lw b L s = 5 := by omega
    rcases this with l | l | l | l | l | l
    · rw [if_pos (show nI (lw b L s) = 0 by rw [l]; rfl)]
      have hh := hd (nI (lw b L s))
      exact tell_c hW hi l (by rw [l] at hh ⊢; exact hh)
    · rw [if_neg (show ¬ nI (lw b L s) = 0 by rw [l]; decide), if_pos (show nI (lw b L s) = 1 by rw [l]; rfl)]
      exact two_c hW hi (Or.inl l) (hd _)
    · rw [if_neg (show ¬ nI (lw b L s) = 0 by rw [l]; decide), if_neg (show ¬ nI (lw b L s) = 1 by rw [l]; decide), if_pos (show nI (lw b L s) = 2 by rw [l]; rfl)]
      exact two_c hW hi (Or.inr l) (hd _)
    · rw [if_neg (show ¬ nI (lw b L s) = 0 by rw [l]; decide), if_neg (show ¬ nI (lw b L s) = 1 by rw [l]; decide), if_neg (show ¬ nI (lw b L s) = 2 by rw [l]; decide), if_pos (show nI (lw b L s) = 3 by rw [l]; rfl)]
      have hh := hd (nI (lw b L s))
      exact dig_c hW hi l (by rw [l] at hh ⊢; exact hh)
    · rw [if_neg (show ¬ nI (lw b L s) = 0 by rw [l]; decide), if_neg (show ¬ nI (lw b L s) = 1 by rw [l]; decide), if_neg (show ¬ nI (lw b L s) = 2 by rw [l]; decide), if_neg (show ¬ nI (lw b L s) = 3 by rw [l]; decide), if_pos (show nI (lw b L s) = 4 by rw [l]; rfl)]
      obtain ⟨q1, q2, q3, q4, q5, q6⟩ := hd (nI (lw b L s))
      refine tot_some.mpr (SsC.one rfl (x := (4, 0, 0, 0, i + 1)) (by unfold stB; rw [if_neg (by omega), if_neg (by omega), if_neg (by omega), if_pos l]) q1 q3 ?_ q5 q6)
      unfold CR
      rw [sK_mk]
      exact ⟨q4.trans (by rw [l]; rfl), fun e => absurd e (by decide), fun e => absurd e (by decide), fun e => absurd e (by decide), fun e => absurd e (by decide)⟩
    · rw [if_neg (show ¬ nI (lw b L s) = 0 by rw [l]; decide), if_neg (show ¬ nI (lw b L s) = 1 by rw [l]; decide), if_neg (show ¬ nI (lw b L s) = 2 by rw [l]; decide), if_neg (show ¬ nI (lw b L s) = 3 by rw [l]; decide), if_neg (show ¬ nI (lw b L s) = 4 by rw [l]; decide), if_pos (show nI (lw b L s) = 5 by rw [l]; rfl)]
      have hh := hd (nI (lw b L s))
      exact ed _ (again_c hW hL hi s2 (by omega) l (hok l) hT (by rw [l] at hh ⊢; exact hh))
  by_cases c5 : lw b L s = 5
  · rw [if_pos (show nI (lw b L s) = 5 by rw [c5]; rfl)]
    by_cases ho : o < 6
    · rw [if_neg (show ¬ (6 : Int32) ≤ nI (o) from nI_ge (b := 6) (a := o) (by omega) (by omega))]
      exact body (fun _ => ho)
    · obtain ⟨mw, x1, x2, x3⟩ := wrong_c (m := m2) (k := 3) (e := s)
      rw [if_pos (show (6 : Int32) ≤ nI (o) from nI_le (a := 6) (b := o) (by omega) (by omega))]
      unfold r_X9_readStep_j50
      rw [e3, bd2_s x1]
      exact tot_some.mpr (SsC.bad (by unfold stB; rw [if_neg (by omega), if_neg (by omega), if_neg (by omega), if_neg (by omega), if_pos c5, hT.2.2 (by omega)]) x2 (l2.tr (Low.of x3 (by decide))) (F2.tr (x3.mono (by simp) (by decide))))
  · rw [if_neg (show ¬ nI (lw b L s) = 5 from fun q => c5 ((nI_eq (a := lw b L s) (b := 5) (by omega) (by omega)).mp q))]
    exact body (fun q => absurd q c5)
set_option maxHeartbeats 1000000 in
theorem lsq_c {b : Nat → Int32} {L o d : Nat} {w : Wd} {sub : Option (Nat → Nat → Rs)} {stop : Int32} {rec : Nat → Nat → List Int32 → Mem → Option (Bool × Mem)} (hL : L ≤ 150) (hG : Gs L w d (stP b L w sub)) (ho : o ≤ 6) (hst : (o = 0 ∧ stop = -1) ∨ (0 < o ∧ stop = 93)) (HU : ∀ i p m, TC b L p m → CL w m → m 9 0 3 = nI i → 4 * i ≤ p → Tot (rec 1 0 [nI o] m) (SsC b L (stB b L w sub i (sk b L p)) i m)) : ∀ k i p m, k ≤ 150 → TC b L p m → CL w m → m 9 0 3 = nI i → 4 * i ≤ p → Tot (loopO (fun s => r_X9_readSteps_b2 rec (nI o) s.1 s.2) (nI (150 - k), m)) (Sum.elim (fun m' => SsC b L (lsP b L (stP b L w sub) stop k i p) i m (true, m')) (fun q => SsC b L (lsP b L (stP b L w sub) stop k i p) i m q)) := by
  intro k
  induction k with
  | zero =>
    intro i p m hk h hCL h9 h4
    refine tot_step ?_
    unfold r_X9_readSteps_b2
    rw [if_pos (show (150 : Int32) ≤ nI (150 - 0) by decide)]
    refine tot_some.mpr ?_
    exact SsC.ok rfl (show lsP b L (stP b L w sub) stop 0 i p = .inr (p, []) from rfl) h h9 (fun j hj => absurd hj (Nat.not_lt_zero j)) Low.rf Fj.rf
  | succ k ih =>
    intro i p m hk h hCL h9 h4
    have hp := h.2.2.1
    obtain ⟨s1, s2⟩ := sk_le (b := b) hp
    refine tot_step ?_
    unfold r_X9_readSteps_b2
    rw [if_neg (show ¬ (150 : Int32) ≤ nI (150 - (k + 1)) from nI_ge (b := 150) (a := 150 - (k + 1)) (by omega) (by omega)), tot_bd2]
    refine (peek_c h).mono ?_
    rintro ⟨z, m3⟩ ⟨g1, g2, g3⟩
    dsimp only at g1 g2 g3 ⊢
    have hCL3 : CL w m3 := hCL.fj g3 (by simp) (by decide)
    have h93 : m3 9 0 3 = nI i := by rw [g3 9 0 3 (by simp) (by simp)]; exact h9
    have F3 : Fj KSc JSc m m3 := g3.mono (by simp) (by simp)
    have l3 : Low i m m3 := Low.of g3 (by decide)
    have stopd : bA b L (sk b L p) = stop → SsC b L (lsP b L (stP b L w sub) stop (k + 1) i p) i m (true, m3) := fun e => SsC.ok (l := []) (p := sk b L p) rfl (by unfold lsP; rw [if_pos e]) g2 h93 (fun j hj => absurd hj (Nat.not_lt_zero j)) l3 F3
    have go : ¬ bA b L (sk b L p) = stop → Tot (r_X9_readSteps_j37_c2 rec (nI o) (nI (150 - (k + 1))) m3) (Sum.elim (fun s2 => Tot (loopO (fun s => r_X9_readSteps_b2 rec (nI o) s.1 s.2) s2) (Sum.elim (fun m' => SsC b L (lsP b L (stP b L w sub) stop (k + 1) i p) i m (true, m')) (fun q => SsC b L (lsP b L (stP b L w sub) stop (k + 1) i p) i m q))) (Sum.elim (fun m' => SsC b L (lsP b L (stP b L w sub) stop (k + 1) i p) i m (true, m')) (fun q => SsC b L (lsP b L (stP b L w sub) stop (k + 1) i p) i m q))) := fun ne => by
      unfold r_X9_readSteps_j37_c2
      rw [tot_bd2]
      have hu := HU i (sk b L p) m3 g2 hCL3 h93 (by omega)
      rw [sk_sk hp] at hu
      refine hu.mono ?_
      rintro ⟨z9, m8⟩ ⟨a1, a2, a3, a4⟩
      dsimp only at a1 a2 a3 a4 ⊢
      have F8 : Fj KSc JSc m m8 := F3.tr a4
      have l8 : Low i m m8 := l3.tr a3
      cases hf : stB b L w sub i (sk b L p) with
      | inl e =>
        obtain ⟨b1, b2⟩ := a2 e hf
        have hR : lsP b L (stP b L w sub) stop (k + 1) i p = .inl e := by
          unfold lsP stP
          rw [if_neg ne, bs_l (bs_l hf)]
        rw [if_neg (by rw [b1]; decide)]
        refine tot_some.mpr ?_
        exact SsC.bad hR b2 l8 F8
      | inr pl =>
        obtain ⟨p1, l1⟩ := pl
        obtain ⟨b1, b2, b3, b4⟩ := a1 p1 l1 hf
        rw [if_pos b1, tot_bd2]
        refine (sign_c (c := 59) b2 (by decide)).mono ?_
        rintro ⟨z13, m12⟩ ⟨e1, e2, e3⟩
        dsimp only at e1 e2 e3 ⊢
        have F12 : Fj KSc JSc m m12 := F8.tr (e3.mono (by simp) jt_js)
        have l12 : Low i m m12 := l8.tr (Low.of e3 (by decide))
        by_cases c5 : bA b L (sk b L p1) = 59
        · obtain ⟨u1, u2, u3⟩ := e1 c5
          have hs : stP b L w sub i p = .inr (sk b L p1 + 1, l1) := by
            unfold stP
            rw [bs_r hf, if_pos c5]
          obtain ⟨x1, x2, -⟩ := hG i p hp _ _ hs
          rw [if_pos u1]
          refine tot_some.mpr ?_
          have hn : nI (150 - (k + 1)) + 1 = nI (150 - k) := by
            rw [← nI_succ]
            exact congrArg nI (by omega)
          show Tot (loopO _ (nI (150 - (k + 1)) + 1, m12)) _
          rw [hn]
          have e9 := ih (i + l1.length) (sk b L p1 + 1) m12 (by omega) u3 ((hCL3.fj a4 (by decide) (by decide)).fj e3 (by simp) (by decide)) (by rw [e3 9 0 3 (by simp) (by simp)]; exact b3) (by omega)
          have hR : lsP b L (stP b L w sub) stop (k + 1) i p = bs (lsP b L (stP b L w sub) stop k (i + l1.length) (sk b L p1 + 1)) fun p2 l2 => .inr (p2, l1 ++ l2) := by
            show (if bA b L (sk b L p) = stop then _ else _) = _
            rw [if_neg ne, bs_r hs]
          have cr : ∀ j, j < l1.length → CR m12 (i + j) (tf l1 j) := fun j hj => (b4 j hj).lo (n := i + j + 1) (Low.of e3 (by decide)) (by omega)
          refine e9.mono ?_
          rintro (m' | q) hq
          · exact SsC.cat hq hR cr l12 F12
          · exact SsC.cat hq hR cr l12 F12
        · obtain ⟨u1, u2⟩ := e2 c5
          have hR : lsP b L (stP b L w sub) stop (k + 1) i p = .inl (1, sk b L p1) := by
            have hs : stP b L w sub i p = .inl (1, sk b L p1) := by
              unfold stP
              rw [bs_r hf, if_neg c5]
            show (if bA b L (sk b L p) = stop then _ else _) = _
            rw [if_neg ne, bs_l hs]
          rw [if_neg (by rw [u1]; decide)]
          refine tot_some.mpr ?_
          exact SsC.bad hR u2 l12 F12
    rw [g1]
    rcases hst with ⟨q1, q2⟩ | ⟨q1, q2⟩
    · rw [if_pos (show nI o = 0 by rw [q1]; rfl)]
      by_cases e : bA b L (sk b L p) = -1
      · rw [if_pos e]
        refine tot_some.mpr ?_
        exact stopd (by rw [q2]; exact e)
      · rw [if_neg e]
        exact go (by rw [q2]; exact e)
    · rw [if_neg (show ¬ nI o = 0 from fun q => by have := (nI_eq (a := o) (b := 0) (by omega) (by omega)).mp q; omega)]
      by_cases e : bA b L (sk b L p) = 93
      · rw [if_pos e]
        refine tot_some.mpr ?_
        exact stopd (by rw [q2]; exact e)
      · rw [if_neg e]
        exact go (by rw [q2]; exact e)
theorem steps_c {b : Nat → Int32} {L o d i p : Nat} {w : Wd} {sub : Option (Nat → Nat → Rs)} {stop : Int32} {rec : Nat → Nat → List Int32 → Mem → Option (Bool × Mem)} {m : Mem} (hL : L ≤ 150) (hG : Gs L w d (stP b L w sub)) (ho : o ≤ 6) (hst : (o = 0 ∧ stop = -1) ∨ (0 < o ∧ stop = 93)) (HU : ∀ i p m, TC b L p m → CL w m → m 9 0 3 = nI i → 4 * i ≤ p → Tot (rec 1 0 [nI o] m) (SsC b L (stB b L w sub i (sk b L p)) i m)) (h : TC b L p m) (hCL : CL w m) (h9 : m 9 0 3 = nI i) (h4 : 4 * i ≤ p) : Tot (r_X9_readSteps rec (nI o) m) (SsC b L (lsP b L (stP b L w sub) stop 150 i p) i m) := by
  unfold r_X9_readSteps r_X9_readSteps_l2
  rw [tot_bdS]
  have e9 := lsq_c hL hG ho hst HU 150 i p m (Nat.le_refl _) h hCL h9 h4
  refine Tot.mono e9 ?_
  rintro (m' | q) hq
  · exact tot_some.mpr hq
  · exact tot_some.mpr hq
theorem inAll_c {b : Nat → Int32} {L : Nat} {w : Wd} (hW : WF w) (hL : L ≤ 150) : ∀ d g, d ≤ 5 → ∀ i p m, TC b L p m → CL w m → m 9 0 3 = nI i → 4 * i ≤ p → Tot (rec_stp (3 * d + g + 3) 0 0 [nI (6 - d)] m) (SsC b L (inP b L w d i p) i m) := by
  intro d
  induction d with
  | zero =>
    intro g hd i p m h hCL h9 h4
    have hT : HTc b L w 6 none (rec_stp g) := ⟨by omega, fun h => by omega, fun _ => rfl⟩
    rw [show 3 * 0 + g + 3 = ((g + 1) + 1) + 1 by omega]
    exact steps_c (d := 0) (rec := rec_stp ((g + 1) + 1)) hL (Gs.st hW (fun f h => by cases h)) (by omega) (Or.inr ⟨by omega, rfl⟩) (fun i p m h hCL h9 h4 => step_c hW hL hT h hCL h9 h4) h hCL h9 h4
  | succ d ih =>
    intro g hd i p m h hCL h9 h4
    have hT : HTc b L w (6 - (d + 1)) (some (inP b L w d)) (rec_stp (3 * d + g + 3)) := ⟨by omega, fun _ => ⟨_, rfl, by rw [show 5 - (6 - (d + 1)) = d by omega]; exact Gs.inn hW d, fun i p m h hCL h9 h4 => by
      rw [show 6 - (d + 1) + 1 = 6 - d by omega]
      exact ih g (by omega) i p m h hCL h9 h4⟩, fun h => by omega⟩
    rw [show 3 * (d + 1) + g + 3 = (((3 * d + g + 3) + 1) + 1) + 1 by omega]
    exact steps_c (d := d + 1) (rec := rec_stp (((3 * d + g + 3) + 1) + 1)) hL (Gs.st hW (fun f h => by cases h; exact ⟨d, rfl, Gs.inn hW d⟩)) (by omega) (Or.inr ⟨by omega, rfl⟩) (fun i p m h hCL h9 h4 => step_c hW hL hT h hCL h9 h4) h hCL h9 h4
/-- the whole text -/
noncomputable def wkP (b : Nat → Int32) (L : Nat) (w : Wd) : Rs := lsP b L (stP b L w (some (inP b L w 5))) (-1) 150 0 0
theorem Gs.wk {b : Nat → Int32} {L : Nat} {w : Wd} (hW : WF w) : Gs L w 6 (stP b L w (some (inP b L w 5))) := Gs.st hW (fun f h => by cases h; exact ⟨5, rfl, Gs.inn hW 5⟩)
theorem workS_c {b : Nat → Int32} {L : Nat} {w : Wd} {m : Mem} (hW : WF w) (hL : L ≤ 150) (h : TC b L 0 m) (hCL : CL w m) (h9 : m 9 0 3 = nI 0) : Tot (rec_stp 24 0 0 [nI 0] m) (SsC b L (wkP b L w) 0 m) := by
  have hT : HTc b L w 0 (some (inP b L w 5)) (rec_stp 21) := ⟨by omega, fun _ => ⟨_, rfl, Gs.inn hW 5, fun i p m h hCL h9 h4 => inAll_c hW hL 5 3 (by omega) i p m h hCL h9 h4⟩, fun h => by omega⟩
  exact steps_c (d := 6) (rec := rec_stp ((21 + 1) + 1)) hL (Gs.wk hW) (by omega) (Or.inl ⟨rfl, rfl⟩) (fun i p m h hCL h9 h4 => step_c hW hL hT h hCL h9 h4) h hCL h9 (by omega)
