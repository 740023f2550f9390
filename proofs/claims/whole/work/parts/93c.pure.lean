/-! ===== work's text: the reference ===== -/
def P81 (k : Nat) : Bool := k == 81
abbrev JSm : List (Nat × Nat) := [(12, 4), (12, 5), (12, 6), (12, 8), (12, 30)]
def LoM (i : Nat) (m m' : Mem) : Prop := ∀ j, j < i → m' 81 j = m 81 j
theorem LoM.rf {i : Nat} {m : Mem} : LoM i m m := fun _ _ => rfl
theorem LoM.tr {i : Nat} {m m1 m2 : Mem} (h : LoM i m m1) (h2 : LoM i m1 m2) : LoM i m m2 := fun j hj => (h2 j hj).trans (h j hj)
theorem LoM.mono {i i' : Nat} {m m1 : Mem} (h : LoM i m m1) (hi : i' ≤ i) : LoM i' m m1 := fun j hj => h j (by omega)
theorem LoM.w {i a c d : Nat} {x : Int32} {m m1 : Mem} (h : LoM i m m1) (hc : i ≤ c) : LoM i m (wr m1 a c d x) := fun j hj => by
  rw [← h j hj]
  funext e
  unfold wr
  rw [if_neg (fun q => by have := q.2.1; omega)]
theorem LoM.wk {i a c d : Nat} {x : Int32} {m m1 : Mem} (h : LoM i m m1) (ha : ¬ a = 81) : LoM i m (wr m1 a c d x) := fun j hj => by
  rw [← h j hj]
  funext e
  exact wr_k (fun q => ha q.symm)
theorem LoM.of {i : Nat} {J : List (Nat × Nat)} {m m1 : Mem} (h : Fj [] J m m1) (hJ : ∀ q ∈ J, ¬ q.1 = 81) : LoM i m m1 := fun j _ => h.rw' 81 j (by simp) hJ
/-- a step as the reference keeps it, but for what is behind it -/
def R4 (m : Mem) (j : Nat) (x : Sd) : Prop := m 81 j 0 = sK x ∧ ((sK x = 0 ∨ sK x = 1 ∨ sK x = 2 ∨ sK x = 5) → m 81 j 1 = sA x) ∧ ((sK x = 0 ∨ sK x = 1 ∨ sK x = 2 ∨ sK x = 3) → m 81 j 2 = sF x) ∧ ((sK x = 0 ∨ sK x = 3) → m 81 j 3 = sT x)
def RR (m : Mem) (j : Nat) (x : Sd) : Prop := R4 m j x ∧ m 81 j 4 = nI (sN x)
theorem R4.c {m m' : Mem} {j : Nat} {x : Sd} (h : R4 m j x) (e : m' 81 j = m 81 j) : R4 m' j x := by
  unfold R4 at h ⊢
  rw [e]
  exact h
theorem RR.c {m m' : Mem} {j : Nat} {x : Sd} (h : RR m j x) (e : m' 81 j = m 81 j) : RR m' j x := ⟨h.1.c e, by rw [e]; exact h.2⟩
theorem mW_fq {P : Nat → Bool} {J : List (Nat × Nat)} {m m' : Mem} (h : Fq P J m m') (hP : ([52, 54, 63, 67, 73, 12].all (fun k => !P k)) = true) (hJ : (J.all (fun q => q.1 != 52 && q.1 != 54 && q.1 != 63 && q.1 != 67 && q.1 != 73 && !(q.1 == 12 && q.2 == 21))) = true) : mW m' = mW m := by
  rw [List.all_eq_true] at hP hJ
  have hr : ∀ k i j, k ∈ [52, 54, 63, 67, 73] → m' k i j = m k i j := fun k i j hk => h k i j (by simpa using hP k (by simp at hk ⊢; omega)) (fun q => by
    have := hJ _ q
    simp at this hk
    omega)
  have h21 : m' 12 0 21 = m 12 0 21 := h 12 0 21 (by simpa using hP 12 (by simp)) (fun q => by
    have := hJ _ q
    simp at this)
  funext p q
  unfold mW
  split
  · exact hr 52 0 q (by simp)
  · exact hr 54 0 q (by simp)
  · exact hr 63 q 0 (by simp)
  · exact hr 63 q 1 (by simp)
  · exact hr 67 q 0 (by simp)
  · exact hr 73 q 0 (by simp)
  · exact hr 73 q 1 (by simp)
  · exact h21
/-- the reference read what the text says -/
def SsM (b : Nat → Int32) (L : Nat) (R : Rs) (i o : Nat) (m m' : Mem) : Prop := (∀ p l, R = .inr (p, l) → TM b L p m' ∧ m' 12 0 5 = 0 ∧ m' 12 0 8 = nI o ∧ m' 12 0 30 = nI (i + l.length) ∧ ∀ j, j < l.length → RR m' (i + j) (tf l j)) ∧ (∀ e, R = .inl e → FtM b L e.1 e.2 m') ∧ LoM i m m' ∧ Fq P81 JSm m m'
def BT (b : Nat → Int32) (L : Nat) (e : Int32 × Nat) (i : Nat) (m m' : Mem) : Prop := FtM b L e.1 e.2 m' ∧ LoM i m m' ∧ Fq P81 JSm m m'
theorem BT.ss {b : Nat → Int32} {L i o : Nat} {e : Int32 × Nat} {R : Rs} {m m' : Mem} (h : BT b L e i m m') (hR : R = .inl e) : SsM b L R i o m m' := by
  rw [hR]
  exact ⟨fun p l e => (by cases e), fun e' he => by cases he; exact h.1, h.2.1, h.2.2⟩
theorem BT.fj {b : Nat → Int32} {L i : Nat} {e : Int32 × Nat} {J : List (Nat × Nat)} {m m1 m2 : Mem} (h : BT b L e i m m1) (hf : FtM b L e.1 e.2 m2) (hF : Fj [] J m1 m2) (hJ : ∀ q ∈ J, q ∈ JSm) : BT b L e i m m2 := ⟨hf, h.2.1.tr (LoM.of hF (fun q hq => by have := hJ q hq; simp at this; rcases this with rfl | rfl | rfl | rfl | rfl <;> decide)), h.2.2.tr (hF.p hJ)⟩
theorem BT.w {b : Nat → Int32} {L i c : Nat} {e : Int32 × Nat} {x : Int32} {m m1 : Mem} (h : BT b L e i m m1) : BT b L e i m (wr m1 81 i c x) := ⟨h.1.w (by decide) (by decide), h.2.1.w (Nat.le_refl _), h.2.2.wrP rfl _ _ _⟩
theorem BT.t192 {b : Nat → Int32} {L i : Nat} {e : Int32 × Nat} {rec : Nat → Nat → List Int32 → Mem → Option Mem} {m m1 : Mem} (h : BT b L e i m m1) : Tot (r_X12_readsStep_j192 rec i m1) (BT b L e i m) := by
  unfold r_X12_readsStep_j192
  have h2 : BT b L e i m (wr m1 81 i 4 (m1 12 0 30)) := h.w
  rw [bd1_s h2.1.sign]
  exact tot_some.mpr h2
theorem BT.t120 {b : Nat → Int32} {L i : Nat} {e : Int32 × Nat} {x : Int32} {rec : Nat → Nat → List Int32 → Mem → Option Mem} {m m1 : Mem} (h : BT b L e i m m1) : Tot (r_X12_readsStep_j120 rec x i m1) (BT b L e i m) := by
  unfold r_X12_readsStep_j120
  by_cases hx : x = 5
  · rw [if_pos hx, bd2_s h.1.number]
    have h2 : BT b L e i m (wr m1 81 i 1 0) := h.w
    rw [bd1_s h2.1.sign, tot_bd1]
    refine h2.1.bl.mono ?_
    rintro m3 ⟨d3, f3⟩
    have h3 := h2.fj d3 f3 (by simp)
    unfold r_X12_readsStep_l145
    rw [tot_bd1]
    refine tot_step ?_
    unfold r_X12_readsStep_b145
    rw [if_neg (by rw [d3.1]; exact d3.2.1)]
    refine tot_some.mpr ?_
    show Tot (r_X12_readsStep_e176_h145 rec i m3) _
    unfold r_X12_readsStep_e176_h145 r_X12_readsStep_j176
    rw [bd1_s d3.sign]
    exact (h3.fj d3.cl (Fj.rf.wrJ (J := [(12, 8)]) (by simp) _ _) (by simp)).t192
  · rw [if_neg hx]
    exact h.t192
theorem BT.t110 {b : Nat → Int32} {L i : Nat} {e : Int32 × Nat} {x : Int32} {rec : Nat → Nat → List Int32 → Mem → Option Mem} {m m1 : Mem} (h : BT b L e i m m1) : Tot (r_X12_readsStep_j110 rec x i m1) (BT b L e i m) := by
  unfold r_X12_readsStep_j110
  rw [tot_bd2]
  refine h.1.next.mono ?_
  rintro ⟨z, m3⟩ ⟨d3, f3⟩
  dsimp only at d3 f3 ⊢
  exact ((h.fj d3 f3 (by simp)).w).t120
theorem BT.t101 {b : Nat → Int32} {L i : Nat} {e : Int32 × Nat} {x : Int32} {rec : Nat → Nat → List Int32 → Mem → Option Mem} {m m1 : Mem} (h : BT b L e i m m1) : Tot (r_X12_readsStep_j101 rec x i m1) (BT b L e i m) := by
  unfold r_X12_readsStep_j101
  by_cases h0 : x = 0
  · rw [if_pos h0]
    exact h.t110
  · rw [if_neg h0]
    by_cases h3 : x = 3
    · rw [if_pos h3]
      exact h.t110
    · rw [if_neg h3]
      exact h.t120
theorem FtM.plc {b : Nat → Int32} {L e : Nat} {k : Int32} {m : Mem} (h : FtM b L k e m) : r_X12_placeHere m = some (0, m) := by
  unfold r_X12_placeHere
  rw [bd2_s h.number]
theorem BT.t89 {b : Nat → Int32} {L i : Nat} {e : Int32 × Nat} {x : Int32} {rec : Nat → Nat → List Int32 → Mem → Option Mem} {m m1 : Mem} (h : BT b L e i m m1) : Tot (r_X12_readsStep_j89 rec x i m1) (BT b L e i m) := by
  unfold r_X12_readsStep_j89
  by_cases h0 : 4 ≤ x
  · rw [if_pos h0]
    exact h.t101
  · rw [if_neg h0, bd2_s h.1.plc]
    exact h.w.t101
theorem plc_m {b : Nat → Int32} {L p P : Nat} {m : Mem} (h : TM b L p m) (h5 : m 12 0 5 = 0) (hP : m 52 0 0 = nI P) : Tot (r_X12_placeHere m) (fun q => (nmE b L 0 (nI P - 1) (sk b L p) = 0 → q.1 = nmV b L (sk b L p) ∧ TM b L (nmN b L (sk b L p)) q.2 ∧ q.2 12 0 5 = 0) ∧ (¬ nmE b L 0 (nI P - 1) (sk b L p) = 0 → q.1 = 0 ∧ FtM b L (nmE b L 0 (nI P - 1) (sk b L p)) (sk b L p) q.2) ∧ Fj [] JTm m q.2) := by
  unfold r_X12_placeHere
  rw [hP, tot_bd2]
  refine (number_m h h5).mono ?_
  rintro ⟨z, m2⟩ hz
  exact tot_some.mpr hz
theorem jtm_s : ∀ q ∈ JTm, q ∈ JSm := by decide
/-- no fault so far, so deep, so many steps, over this land -/
def Gm (b : Nat → Int32) (L : Nat) (w : Wd) (i n o p : Nat) (m m1 : Mem) : Prop := TM b L p m1 ∧ m1 12 0 5 = 0 ∧ m1 12 0 8 = nI o ∧ m1 12 0 30 = nI n ∧ mW m1 = w ∧ LoM i m m1 ∧ Fq P81 JSm m m1
theorem Gm.fj {b : Nat → Int32} {L i n o p p' : Nat} {w : Wd} {J : List (Nat × Nat)} {m m1 m2 : Mem} (h : Gm b L w i n o p m m1) (t : TM b L p' m2) (h5 : m2 12 0 5 = 0) (hF : Fj [] J m1 m2) (hJ : ∀ q ∈ J, q ∈ JTm) : Gm b L w i n o p' m m2 := by
  obtain ⟨a1, a2, a3, a4, a5, a6, a7⟩ := h
  have hF' : Fj [] JTm m1 m2 := hF.mono (by simp) hJ
  exact ⟨t, h5, by rw [hF' 12 0 8 (by simp) (by simp)]; exact a3, by rw [hF' 12 0 30 (by simp) (by simp)]; exact a4, (mW_fj hF' (by simp) (by decide)).trans a5, a6.tr (LoM.of hF' (by decide)), a7.tr (hF'.p jtm_s)⟩
theorem Gm.bt {b : Nat → Int32} {L i n o p : Nat} {w : Wd} {e : Int32 × Nat} {m m1 m2 : Mem} (h : Gm b L w i n o p m m1) (d : FtM b L e.1 e.2 m2) (hF : Fj [] JTm m1 m2) : BT b L e i m m2 := ⟨d, h.2.2.2.2.2.1.tr (LoM.of hF (by decide)), h.2.2.2.2.2.2.tr (hF.p jtm_s)⟩
theorem Gm.w {b : Nat → Int32} {L i n o p c : Nat} {w : Wd} {x : Int32} {m m1 : Mem} (h : Gm b L w i n o p m m1) : Gm b L w i n o p m (wr m1 81 i c x) := by
  obtain ⟨a1, a2, a3, a4, a5, a6, a7⟩ := h
  exact ⟨a1.w (by decide) (by decide), by rw [wr_k (by decide)]; exact a2, by rw [wr_k (by decide)]; exact a3, by rw [wr_k (by decide)]; exact a4, (mW_fj (K := [(81, i)]) (J := []) (Fj.rf.wrK (by simp) _ _) (by simp) (by simp)).trans a5, a6.w (Nat.le_refl _), a7.wrP rfl _ _ _⟩
set_option maxHeartbeats 1000000 in
theorem j192_m {b : Nat → Int32} {L i o p1 : Nat} {w : Wd} {R : Rs} {x : Sd} {t : List Sd} {rec : Nat → Nat → List Int32 → Mem → Option Mem} {m m5 : Mem} (h : Gm b L w i (i + (t.length + 1)) o p1 m m5) (hx : R4 m5 i x) (hn : sN x = i + (t.length + 1)) (hrow : ∀ j, j < t.length → RR m5 (i + 1 + j) (tf t j)) (hR : R = if bA b L (sk b L p1) = 59 then .inr (sk b L p1 + 1, x :: t) else .inl (1, sk b L p1)) : Tot (r_X12_readsStep_j192 rec i m5) (SsM b L R i o m) := by
  unfold r_X12_readsStep_j192
  have h2 : Gm b L w i (i + (t.length + 1)) o p1 m (wr m5 81 i 4 (m5 12 0 30)) := h.w
  have x2 : RR (wr m5 81 i 4 (m5 12 0 30)) i x := by
    refine ⟨?_, ?_⟩
    · unfold R4 at hx ⊢
      rw [wr_j (show ¬ (0 : Nat) = 4 by decide), wr_j (show ¬ (1 : Nat) = 4 by decide), wr_j (show ¬ (2 : Nat) = 4 by decide), wr_j (show ¬ (3 : Nat) = 4 by decide)]
      exact hx
    · rw [wr_eq, h.2.2.2.1, hn]
  have r2 : ∀ j, j < t.length → RR (wr m5 81 i 4 (m5 12 0 30)) (i + 1 + j) (tf t j) := fun j hj => (hrow j hj).c (by
    funext c
    exact wr_i (by omega))
  generalize wr m5 81 i 4 (m5 12 0 30) = m6 at h2 x2 r2 ⊢
  rw [tot_bd1]
  refine (sign_m (c := 59) h2.1 h2.2.1 (by decide)).mono ?_
  rintro m7 ⟨s1, s2, s3⟩
  refine tot_some.mpr ?_
  have o7 : ∀ j, m7 81 j = m6 81 j := fun j => s3.rw' 81 j (by simp) (by decide)
  by_cases c5 : bA b L (sk b L p1) = 59
  · obtain ⟨u1, u2⟩ := s1 c5
    rw [if_pos c5] at hR
    obtain ⟨v1, v2, v3, v4, v5, v6, v7⟩ := h2.fj u1 u2 s3 (fun q hq => hq)
    rw [hR]
    refine ⟨fun p l e => ?_, fun e he => (by cases he), v6, v7⟩
    cases e
    refine ⟨v1, v2, v3, v4, fun j hj => ?_⟩
    match j, hj with
    | 0, _ => exact x2.c (o7 i)
    | j + 1, hj =>
      rw [show i + (j + 1) = i + 1 + j by omega]
      exact (r2 j (by rw [List.length_cons] at hj; omega)).c (o7 _)
  · rw [if_neg c5] at hR
    exact (h2.bt (e := (1, sk b L p1)) (s2 c5) s3).ss hR
theorem j192_1 {b : Nat → Int32} {L i o p1 : Nat} {w : Wd} {R : Rs} {x : Sd} {rec : Nat → Nat → List Int32 → Mem → Option Mem} {m m5 : Mem} (h : Gm b L w i (i + 1) o p1 m m5) (hx : R4 m5 i x) (hn : sN x = i + 1) (hR : R = if bA b L (sk b L p1) = 59 then .inr (sk b L p1 + 1, [x]) else .inl (1, sk b L p1)) : Tot (r_X12_readsStep_j192 rec i m5) (SsM b L R i o m) :=
  j192_m (t := []) h hx hn (fun j hj => absurd hj (Nat.not_lt_zero j)) hR
theorem six_3 : r_X12_six 20 5 12 12 0 0 = nI (scd 17) ∧ r_X12_six 6 15 18 7 5 20 = nI (scd 18) ∧ r_X12_six 23 1 12 11 0 0 = nI (scd 19) ∧ r_X12_six 4 9 7 0 0 0 = nI (scd 20) ∧ r_X12_six 4 1 25 0 0 0 = nI (scd 21) ∧ r_X12_six 1 7 1 9 14 0 = nI (scd 22) := by
  unfold r_X12_six r_X12_six_j29 r_X12_six_j49
  decide +kernel

set_option maxHeartbeats 1000000 in
theorem stepH_m {b : Nat → Int32} {L s : Nat} {m : Mem} (h : TM b L s m) (hs : sk b L s = s) (h5 : m 12 0 5 = 0) : Tot (r_X12_stepHere m) (fun q => q.1 = (if lw b L s < 6 then nI (lw b L s) else -1) ∧ TM b L s q.2 ∧ q.2 12 0 5 = 0 ∧ Fj [] [(12, 4)] m q.2) := by
  obtain ⟨x0, x1, x2, x3, x4, x5⟩ := six_3
  unfold r_X12_stepHere
  rw [tot_bd2]
  refine (isWord_m h h5).mono ?_
  rw [hs, x0]
  rintro ⟨z0, n0⟩ ⟨a0, t0, y0, g0⟩
  dsimp only at a0 t0 y0 g0 ⊢
  have F0 : Fj [] [(12, 4)] m n0 := g0
  by_cases c0 : wcd b L s = nI (scd 17)
  · have e : lw b L s = 0 := (lw_iff (i := 0) (by omega)).mp c0
    rw [a0, decide_eq_true c0, if_pos rfl]
    exact tot_some.mpr ⟨by rw [e]; rfl, t0, y0, F0⟩
  have e0 : ¬ lw b L s = 0 := fun q => c0 ((lw_iff (i := 0) (by omega)).mpr q)
  rw [a0, decide_eq_false c0, if_neg (by decide), tot_bd2]
  refine (isWord_m t0 y0).mono ?_
  rw [hs, x1]
  rintro ⟨z1, n1⟩ ⟨a1, t1, y1, g1⟩
  dsimp only at a1 t1 y1 g1 ⊢
  have F1 : Fj [] [(12, 4)] m n1 := F0.tr g1
  by_cases c1 : wcd b L s = nI (scd 18)
  · have e : lw b L s = 1 := (lw_iff (i := 1) (by omega)).mp c1
    rw [a1, decide_eq_true c1, if_pos rfl]
    exact tot_some.mpr ⟨by rw [e]; rfl, t1, y1, F1⟩
  have e1 : ¬ lw b L s = 1 := fun q => c1 ((lw_iff (i := 1) (by omega)).mpr q)
  rw [a1, decide_eq_false c1, if_neg (by decide), tot_bd2]
  refine (isWord_m t1 y1).mono ?_
  rw [hs, x2]
  rintro ⟨z2, n2⟩ ⟨a2, t2, y2, g2⟩
  dsimp only at a2 t2 y2 g2 ⊢
  have F2 : Fj [] [(12, 4)] m n2 := F1.tr g2
  by_cases c2 : wcd b L s = nI (scd 19)
  · have e : lw b L s = 2 := (lw_iff (i := 2) (by omega)).mp c2
    rw [a2, decide_eq_true c2, if_pos rfl]
    exact tot_some.mpr ⟨by rw [e]; rfl, t2, y2, F2⟩
  have e2 : ¬ lw b L s = 2 := fun q => c2 ((lw_iff (i := 2) (by omega)).mpr q)
  rw [a2, decide_eq_false c2, if_neg (by decide), tot_bd2]
  refine (isWord_m t2 y2).mono ?_
  rw [hs, x3]
  rintro ⟨z3, n3⟩ ⟨a3, t3, y3, g3⟩
  dsimp only at a3 t3 y3 g3 ⊢
  have F3 : Fj [] [(12, 4)] m n3 := F2.tr g3
  by_cases c3 : wcd b L s = nI (scd 20)
  · have e : lw b L s = 3 := (lw_iff (i := 3) (by omega)).mp c3
    rw [a3, decide_eq_true c3, if_pos rfl]
    exact tot_some.mpr ⟨by rw [e]; rfl, t3, y3, F3⟩
  have e3 : ¬ lw b L s = 3 := fun q => c3 ((lw_iff (i := 3) (by omega)).mpr q)
  rw [a3, decide_eq_false c3, if_neg (by decide), tot_bd2]
  refine (isWord_m t3 y3).mono ?_
  rw [hs, x4]
  rintro ⟨z4, n4⟩ ⟨a4, t4, y4, g4⟩
  dsimp only at a4 t4 y4 g4 ⊢
  have F4 : Fj [] [(12, 4)] m n4 := F3.tr g4
  by_cases c4 : wcd b L s = nI (scd 21)
  · have e : lw b L s = 4 := (lw_iff (i := 4) (by omega)).mp c4
    rw [a4, decide_eq_true c4, if_pos rfl]
    exact tot_some.mpr ⟨by rw [e]; rfl, t4, y4, F4⟩
  have e4 : ¬ lw b L s = 4 := fun q => c4 ((lw_iff (i := 4) (by omega)).mpr q)
  rw [a4, decide_eq_false c4, if_neg (by decide), tot_bd2]
  refine (isWord_m t4 y4).mono ?_
  rw [hs, x5]
  rintro ⟨z5, n5⟩ ⟨a5, t5, y5, g5⟩
  dsimp only at a5 t5 y5 g5 ⊢
  have F5 : Fj [] [(12, 4)] m n5 := F4.tr g5
  by_cases c5 : wcd b L s = nI (scd 22)
  · have e : lw b L s = 5 := (lw_iff (i := 5) (by omega)).mp c5
    rw [a5, decide_eq_true c5, if_pos rfl]
    exact tot_some.mpr ⟨by rw [e]; rfl, t5, y5, F5⟩
  have e5 : ¬ lw b L s = 5 := fun q => c5 ((lw_iff (i := 5) (by omega)).mpr q)
  rw [a5, decide_eq_false c5, if_neg (by decide)]
  have hle := lw_le b L s
  exact tot_some.mpr ⟨by rw [if_neg (by omega)], t5, y5, F5⟩

theorem stP_sk {b : Nat → Int32} {L p i : Nat} {w : Wd} {sub : Option (Nat → Nat → Rs)} (h : p ≤ L) : stP b L w sub i (sk b L p) = stP b L w sub i p := by
  unfold stP
  rw [sk_sk h]
theorem stP_l {b : Nat → Int32} {L s i : Nat} {w : Wd} {sub : Option (Nat → Nat → Rs)} {e : Int32 × Nat} (hs : sk b L s = s) (h : stB b L w sub i s = .inl e) : stP b L w sub i s = .inl e := by
  unfold stP
  rw [hs, bs_l h]
theorem stP_r {b : Nat → Int32} {L s i p : Nat} {w : Wd} {sub : Option (Nat → Nat → Rs)} {l : List Sd} (hs : sk b L s = s) (h : stB b L w sub i s = .inr (p, l)) : stP b L w sub i s = if bA b L (sk b L p) = 59 then .inr (sk b L p + 1, l) else .inl (1, sk b L p) := by
  unfold stP
  rw [hs, bs_r h]
/-- a place, and where a ditch leads from it -/
theorem goal_m {b : Nat → Int32} {L i o p a : Nat} {w : Wd} {R : Rs} {x v1 : Int32} {rec : Nat → Nat → List Int32 → Mem → Option Mem} {m m1 : Mem} (hW : WF w) (h : Gm b L w i (i + 1) o p m m1) (h2 : m1 81 i 2 = nI a) (hx5 : ¬ x = 5) (h0 : m1 81 i 0 = x) (hx : x = 0 ∨ x = 3) (h1 : x = 0 → m1 81 i 1 = v1) (hR1 : ¬ ngE b L (wP w) (bw w a) (sk b L p) = 0 → R = .inl (ngE b L (wP w) (bw w a) (sk b L p), sk b L p)) (hR2 : ngE b L (wP w) (bw w a) (sk b L p) = 0 → R = if bA b L (sk b L (nmN b L (sk b L p))) = 59 then .inr (sk b L (nmN b L (sk b L p)) + 1, [(x, v1, nI a, nmV b L (sk b L p), i + 1)]) else .inl (1, sk b L (nmN b L (sk b L p)))) : Tot (r_X12_readsStep_j110 rec x i m1) (SsM b L R i o m) := by
  unfold r_X12_readsStep_j110
  rw [h2, tot_bd2]
  have hnx := nextHere_m (a := a) (by rw [h.2.2.2.2.1]; exact hW) h.1 h.2.1
  rw [h.2.2.2.2.1] at hnx
  refine hnx.mono ?_
  rintro ⟨z, m2⟩ ⟨g1, g2, g3⟩
  dsimp only at g1 g2 g3 ⊢
  by_cases e0 : ngE b L (wP w) (bw w a) (sk b L p) = 0
  case neg =>
    exact ((h.bt (e := (ngE b L (wP w) (bw w a) (sk b L p), sk b L p)) (g2 e0) g3).w).t120.mono (fun m' hb => hb.ss (hR1 e0))
  obtain ⟨u1, u2, u3⟩ := g1 e0
  have h3 := (h.fj u2 u3 g3 (fun q hq => hq)).w (c := 3) (x := z)
  unfold r_X12_readsStep_j120
  rw [if_neg hx5]
  have o2 : m2 81 i = m1 81 i := g3.rw' 81 i (by simp) (by decide)
  refine j192_1 h3 ?_ (sN_mk _ _ _ _ _) (hR2 e0)
  unfold R4
  rw [sK_mk, sA_mk, sF_mk, sT_mk, wr_j (show ¬ (0 : Nat) = 3 by decide), wr_j (show ¬ (1 : Nat) = 3 by decide), wr_j (show ¬ (2 : Nat) = 3 by decide), wr_eq, o2]
  refine ⟨h0, fun e => ?_, fun _ => h2, fun _ => u1⟩
  rcases hx with q | q
  · exact h1 q
  · rw [q] at e
    exact absurd e (by decide)
