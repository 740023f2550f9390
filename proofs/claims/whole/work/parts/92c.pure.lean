/-! ===== the law's text: the reference ===== -/
/-- kinds that may change, and fields -/
def Fq (P : Nat → Bool) (J : List (Nat × Nat)) (m m' : Mem) : Prop := ∀ k i j, P k = false → (k, j) ∉ J → m' k i j = m k i j
theorem Fq.rf {P : Nat → Bool} {J : List (Nat × Nat)} {m : Mem} : Fq P J m m := fun _ _ _ _ _ => rfl
theorem Fq.tr {P : Nat → Bool} {J : List (Nat × Nat)} {m m1 m2 : Mem} (h : Fq P J m m1) (h2 : Fq P J m1 m2) : Fq P J m m2 := fun k i j hk hj => (h2 k i j hk hj).trans (h k i j hk hj)
theorem Fq.mono {P : Nat → Bool} {J J' : List (Nat × Nat)} {m m1 : Mem} (h : Fq P J m m1) (hj : ∀ q ∈ J, q ∈ J') : Fq P J' m m1 := fun k i j hk hq => h k i j hk (fun q => hq (hj _ q))
theorem Fj.p {P : Nat → Bool} {J J' : List (Nat × Nat)} {m m1 : Mem} (h : Fj [] J m m1) (hj : ∀ q ∈ J, q ∈ J') : Fq P J' m m1 := fun k i j _ hq => h k i j (by simp) (fun q => hq (hj _ q))
theorem Fq.wrP {P : Nat → Bool} {J : List (Nat × Nat)} {m m1 : Mem} {k : Nat} (h : Fq P J m m1) (hk : P k = true) (i j : Nat) (x : Int32) : Fq P J m (wr m1 k i j x) := fun a b c ha hc => by
  rw [← h a b c ha hc]
  exact wr_k (fun e => by rw [e, hk] at ha; cases ha)
theorem Fq.wrJ {P : Nat → Bool} {J : List (Nat × Nat)} {m m1 : Mem} {k j : Nat} (h : Fq P J m m1) (hk : (k, j) ∈ J) (i : Nat) (x : Int32) : Fq P J m (wr m1 k i j x) := fun a b c ha hc => by
  rw [← h a b c ha hc]
  unfold wr
  rw [if_neg (fun e => hc (by rw [e.1, e.2.2]; exact hk))]
theorem Fq.kd {P : Nat → Bool} {J : List (Nat × Nat)} {m m1 : Mem} (h : Fq P J m m1) (k i : Nat) (hk : (!P k && J.all (fun q => q.1 != k)) = true) : m1 k i = m k i := by
  rw [Bool.and_eq_true, List.all_eq_true] at hk
  funext j
  refine h k i j (by simpa using hk.1) (fun q => ?_)
  have := hk.2 _ q
  simp at this
def P75 (k : Nat) : Bool := k == 75
abbrev JPm : List (Nat × Nat) := [(12, 4), (12, 5), (12, 6), (12, 8), (12, 22)]
def CMm (c : List Cd) (m : Mem) : Prop := m 12 0 22 = nI c.length ∧ ∀ k, k < c.length → m 75 k 0 = cwf c k ∧ m 75 k 1 = cvf c k
theorem CMm.fj {J : List (Nat × Nat)} {c : List Cd} {m m' : Mem} (h : CMm c m) (hF : Fj [] J m m') (hJ : ∀ q ∈ J, ¬ q.1 = 75 ∧ ¬ q = (12, 22)) : CMm c m' := by
  refine ⟨?_, fun k hk => ?_⟩
  · rw [hF 12 0 22 (by simp) (fun q => (hJ _ q).2 rfl)]
    exact h.1
  · rw [hF 75 k 0 (by simp) (fun q => (hJ _ q).1 rfl), hF 75 k 1 (by simp) (fun q => (hJ _ q).1 rfl)]
    exact h.2 k hk
theorem FtM.notes {b : Nat → Int32} {L e : Nat} {k w v : Int32} {m : Mem} (h : FtM b L k e m) : r_X12_notes w v m = some m := by
  unfold r_X12_notes
  rw [if_neg (by rw [h.1]; exact h.2.1)]
theorem notesM {b : Nat → Int32} {L p : Nat} {c : List Cd} {w v : Int32} {m : Mem} (t : TM b L p m) (h5 : m 12 0 5 = 0) (h : CMm c m) (hc : c.length < 150) : ∃ m', r_X12_notes w v m = some m' ∧ CMm (c ++ [(w, v)]) m' ∧ TM b L p m' ∧ m' 12 0 5 = 0 ∧ m' 12 0 8 = m 12 0 8 ∧ Fq P75 JPm m m' := by
  unfold r_X12_notes
  rw [if_pos h5, h.1, if_pos (inb_nI (by omega) (by omega)), clamp_nI (by omega)]
  have hF : Fj [] [(12, 22)] (wr (wr m 75 c.length 0 w) 75 c.length 1 v) (wr (wr (wr m 75 c.length 0 w) 75 c.length 1 v) 12 0 22 (nI c.length + 1)) := Fj.rf.wrJ (by simp) _ _
  refine ⟨_, rfl, ⟨?_, fun k hk => ?_⟩, ((t.w (by decide) (by decide)).w (by decide) (by decide)).fj hF (by simp) (by decide), ?_, ?_, ((Fq.rf.wrP rfl _ _ _).wrP rfl _ _ _).wrJ (by simp) _ _⟩
  · rw [wr_eq, List.length_append, List.length_singleton, nI_succ]
  · rw [List.length_append, List.length_singleton] at hk
    have o : ∀ j, wr (wr (wr m 75 c.length 0 w) 75 c.length 1 v) 12 0 22 (nI c.length + 1) 75 k j = wr (wr m 75 c.length 0 w) 75 c.length 1 v 75 k j := fun j => wr_k (by decide)
    rw [o 0, o 1]
    unfold cwf cvf
    by_cases e : k = c.length
    · have q0 : wr (wr m 75 c.length 0 w) 75 c.length 1 v 75 c.length 0 = w := by rw [wr_j (by decide), wr_eq]
      have q1 : wr (wr m 75 c.length 0 w) 75 c.length 1 v 75 c.length 1 = v := wr_eq _ _ _ _ _
      rw [e, q0, q1, getD_end]
      exact ⟨rfl, rfl⟩
    · have q : ∀ j, wr (wr m 75 c.length 0 w) 75 c.length 1 v 75 k j = m 75 k j := fun j => by rw [wr_i e, wr_i e]
      rw [q 0, q 1, getD_app1 (by omega)]
      exact h.2 k (by omega)
  · rw [wr_j (by decide), wr_k (by decide), wr_k (by decide)]
    exact h5
  · rw [wr_j (by decide), wr_k (by decide), wr_k (by decide)]
/-- the reference read what the text says -/
def SmM (b : Nat → Int32) (L : Nat) (R : Rz) (c : List Cd) (o : Nat) (m m' : Mem) : Prop := (∀ p l, R = .inr (p, l) → TM b L p m' ∧ m' 12 0 5 = 0 ∧ m' 12 0 8 = nI o ∧ CMm (c ++ l) m') ∧ (∀ e, R = .inl e → FtM b L e.1 e.2 m') ∧ Fq P75 JPm m m'
theorem SmM.up {b : Nat → Int32} {L o : Nat} {R R2 : Rz} {c l0 : List Cd} {m m2 m' : Mem} (h : SmM b L R2 (c ++ l0) o m2 m') (hR : R = bz R2 fun p2 l2 => .inr (p2, l0 ++ l2)) (hF : Fq P75 JPm m m2) : SmM b L R c o m m' := by
  match R2, h, hR with
  | .inl e, h, hR =>
    have hR' : R = .inl e := hR
    rw [hR']
    exact ⟨fun p l e => (by cases e), h.2.1, hF.tr h.2.2⟩
  | .inr (p2, l2), h, hR =>
    have hR' : R = .inr (p2, l0 ++ l2) := hR
    rw [hR']
    refine ⟨fun p l e => ?_, fun e he => (by cases he), hF.tr h.2.2⟩
    cases e
    have := h.1 p2 l2 rfl
    rw [List.append_assoc] at this
    exact this
theorem SmM.bad {b : Nat → Int32} {L o : Nat} {R : Rz} {c : List Cd} {e : Int32 × Nat} {m m2 : Mem} (hR : R = .inl e) (hf : FtM b L e.1 e.2 m2) (hF : Fq P75 JPm m m2) : SmM b L R c o m m2 := by
  rw [hR]
  exact ⟨fun p l e => (by cases e), fun e' he => by cases he; exact hf, hF⟩
theorem SmM.ok {b : Nat → Int32} {L o p : Nat} {R : Rz} {c l : List Cd} {m m2 : Mem} (hR : R = .inr (p, l)) (ht : TM b L p m2) (h5 : m2 12 0 5 = 0) (h8 : m2 12 0 8 = nI o) (hC : CMm (c ++ l) m2) (hF : Fq P75 JPm m m2) : SmM b L R c o m m2 := by
  rw [hR]
  exact ⟨fun p l e => by cases e; exact ⟨ht, h5, h8, hC⟩, fun e' he => (by cases he), hF⟩
theorem takesSign_m {b : Nat → Int32} {L p : Nat} {c : Int32} {m : Mem} (h : TM b L p m) (h5 : m 12 0 5 = 0) (hc : ¬ c = -1) : Tot (r_X12_takesSign c m) (fun q => (bA b L (sk b L p) = c → q.1 = true ∧ TM b L (sk b L p + 1) q.2) ∧ (¬ bA b L (sk b L p) = c → q.1 = false ∧ TM b L (sk b L p) q.2) ∧ Fj [] [(12, 4)] m q.2) := by
  have hL := h.2.2.2.1
  unfold r_X12_takesSign
  rw [if_pos h5, tot_bd1]
  refine (blanks_m h).mono ?_
  rintro m2 ⟨h2, h3⟩
  have hs : sk b L p ≤ L := h2.2.2.1
  rw [h2.2.1, bd1_s (byteAt_m h2 (by omega))]
  unfold r_X12_takesSign_j30
  by_cases hz : bA b L (sk b L p) = c
  · have hx := bA_lt hz hc
    have hF3 : Fj [] [(12, 4)] m2 (wr m2 12 0 4 (m2 12 0 4 + 1)) := Fj.rf.wrJ (by simp) _ _
    rw [if_pos hz, if_neg (by decide), if_pos (by decide)]
    refine tot_some.mpr ⟨fun _ => ⟨rfl, h2.mv hF3 (by simp) (by decide) (by dsimp only; rw [wr_eq, h2.2.1, nI_succ]) (by omega)⟩, fun n => absurd hz n, h3.tr hF3⟩
  · rw [if_neg hz, if_pos rfl, if_pos (by decide)]
    exact tot_some.mpr ⟨fun e => absurd e hz, fun _ => ⟨rfl, h2⟩, h3⟩
set_option maxHeartbeats 1000000 in
theorem lpm_P {b : Nat → Int32} {L o : Nat} {f : Nat → Rz} {rec : Nat → Nat → List Int32 → Mem → Option Mem} (hL : L ≤ 150) (hG : Gd L f) (HU : ∀ p c m, TM b L p m → m 12 0 5 = 0 → m 12 0 8 = nI o → CMm c m → c.length ≤ p → Tot (rec 2 0 [] m) (SmM b L (f p) c o m)) : ∀ k p c m, 150 ≤ k + p → TM b L p m → m 12 0 5 = 0 → m 12 0 8 = nI o → CMm c m → c.length ≤ p → Tot (loopO (fun s => r_X12_product_b4 rec s) m) (Sum.elim (fun m' => SmM b L (lpP b L opP f k p) c o m m') (fun m' => SmM b L (lpP b L opP f k p) c o m m')) := by
  intro k p
  induction k generalizing p with
  | zero =>
    intro c m hk h h5 h8 hC hc
    have hp := h.2.2.1
    obtain ⟨s1, s2⟩ := sk_le (b := b) hp
    have hs : sk b L p = p := by omega
    have hz : bA b L (sk b L p) = -1 := bA_out (by omega)
    refine tot_step ?_
    unfold r_X12_product_b4
    rw [if_pos h5, tot_bd2]
    refine (takesSign_m (c := 42) h h5 (by decide)).mono ?_
    rintro ⟨z0, n0⟩ ⟨-, f0, g0⟩
    dsimp only at f0 g0 ⊢
    obtain ⟨e0, t0⟩ := f0 (fun q => by rw [q] at hz; exact absurd hz (by decide))
    have F0 : Fj [] [(12, 4)] m n0 := g0
    have y0 : n0 12 0 5 = 0 := by rw [F0 12 0 5 (by simp) (by simp)]; exact h5
    rw [if_neg (by rw [e0]; decide), tot_bd2]
    refine (takesSign_m (c := 47) t0 y0 (by decide)).mono ?_
    rw [sk_sk hp]
    rintro ⟨z1, n1⟩ ⟨-, f1, g1⟩
    dsimp only at f1 g1 ⊢
    obtain ⟨e1, t1⟩ := f1 (fun q => by rw [q] at hz; exact absurd hz (by decide))
    have F1 : Fj [] [(12, 4)] m n1 := F0.tr g1
    have y1 : n1 12 0 5 = 0 := by rw [F1 12 0 5 (by simp) (by simp)]; exact h5
    rw [if_neg (by rw [e1]; decide), tot_bd2]
    refine (takesSign_m (c := 37) t1 y1 (by decide)).mono ?_
    rw [sk_sk hp]
    rintro ⟨z2, n2⟩ ⟨-, f2, g2⟩
    dsimp only at f2 g2 ⊢
    obtain ⟨e2, t2⟩ := f2 (fun q => by rw [q] at hz; exact absurd hz (by decide))
    have F2 : Fj [] [(12, 4)] m n2 := F1.tr g2
    have y2 : n2 12 0 5 = 0 := by rw [F2 12 0 5 (by simp) (by simp)]; exact h5
    rw [if_neg (by rw [e2]; decide)]
    unfold r_X12_product_j52_c4
    rw [if_pos rfl]
    refine tot_some.mpr ?_
    show SmM b L (lpP b L opP f 0 p) c o m n2
    exact SmM.ok (show lpP b L opP f 0 p = .inr (sk b L p, []) by rw [hs]; rfl) t2 y2 (by rw [F2 12 0 8 (by simp) (by simp)]; exact h8) (by rw [List.append_nil]; exact hC.fj F2 (by simp)) (F2.p (by simp))
  | succ k ih =>
    intro c m hk h h5 h8 hC hc
    have hp := h.2.2.1
    obtain ⟨s1, s2⟩ := sk_le (b := b) hp
    refine tot_step ?_
    by_cases c1 : opP (bA b L (sk b L p)) = -1
    · have hR : lpP b L opP f (k + 1) p = .inr (sk b L p, []) := by
        unfold lpP
        rw [if_pos c1]
      unfold r_X12_product_b4
      rw [if_pos h5, tot_bd2]
      refine (takesSign_m (c := 42) h h5 (by decide)).mono ?_
      rintro ⟨z0, n0⟩ ⟨-, f0, g0⟩
      dsimp only at f0 g0 ⊢
      obtain ⟨e0, t0⟩ := f0 (fun q => by rw [q] at c1; exact absurd c1 (by decide))
      have F0 : Fj [] [(12, 4)] m n0 := g0
      have y0 : n0 12 0 5 = 0 := by rw [F0 12 0 5 (by simp) (by simp)]; exact h5
      rw [if_neg (by rw [e0]; decide), tot_bd2]
      refine (takesSign_m (c := 47) t0 y0 (by decide)).mono ?_
      rw [sk_sk hp]
      rintro ⟨z1, n1⟩ ⟨-, f1, g1⟩
      dsimp only at f1 g1 ⊢
      obtain ⟨e1, t1⟩ := f1 (fun q => by rw [q] at c1; exact absurd c1 (by decide))
      have F1 : Fj [] [(12, 4)] m n1 := F0.tr g1
      have y1 : n1 12 0 5 = 0 := by rw [F1 12 0 5 (by simp) (by simp)]; exact h5
      rw [if_neg (by rw [e1]; decide), tot_bd2]
      refine (takesSign_m (c := 37) t1 y1 (by decide)).mono ?_
      rw [sk_sk hp]
      rintro ⟨z2, n2⟩ ⟨-, f2, g2⟩
      dsimp only at f2 g2 ⊢
      obtain ⟨e2, t2⟩ := f2 (fun q => by rw [q] at c1; exact absurd c1 (by decide))
      have F2 : Fj [] [(12, 4)] m n2 := F1.tr g2
      have y2 : n2 12 0 5 = 0 := by rw [F2 12 0 5 (by simp) (by simp)]; exact h5
      rw [if_neg (by rw [e2]; decide)]
      unfold r_X12_product_j52_c4
      rw [if_pos rfl]
      refine tot_some.mpr ?_
      show SmM b L (lpP b L opP f (k + 1) p) c o m n2
      exact SmM.ok hR t2 y2 (by rw [F2 12 0 8 (by simp) (by simp)]; exact h8) (by rw [List.append_nil]; exact hC.fj F2 (by simp)) (F2.p (by simp))
    · have hne : ¬ bA b L (sk b L p) = -1 := by
        rcases op_or opP (Or.inl rfl) (bA b L (sk b L p)) with q | ⟨q, -⟩
        · exact absurd q c1
        · exact q
      have hlt := bA_lt rfl hne
      have body : ∀ m5, TM b L (sk b L p + 1) m5 → Fj [] [(12, 4)] m m5 → Tot (r_X12_product_j52_c4 rec (opP (bA b L (sk b L p))) m5) (Sum.elim (fun s2 => Tot (loopO (fun s => r_X12_product_b4 rec s) s2) (Sum.elim (fun m' => SmM b L (lpP b L opP f (k + 1) p) c o m m') (fun m' => SmM b L (lpP b L opP f (k + 1) p) c o m m'))) (Sum.elim (fun m' => SmM b L (lpP b L opP f (k + 1) p) c o m m') (fun m' => SmM b L (lpP b L opP f (k + 1) p) c o m m'))) := by
        intro m5 t5 hF5
        have v5 : m5 12 0 5 = 0 := by rw [hF5 12 0 5 (by simp) (by simp)]; exact h5
        have v8 : m5 12 0 8 = nI o := by rw [hF5 12 0 8 (by simp) (by simp)]; exact h8
        have hP5 : Fq P75 JPm m m5 := hF5.p (by simp)
        unfold r_X12_product_j52_c4
        rw [if_neg c1, tot_bd1]
        refine (HU (sk b L p + 1) c m5 t5 v5 v8 (hC.fj hF5 (by simp)) (by omega)).mono ?_
        rintro m10 ⟨a1, a2, a3⟩
        have hP10 : Fq P75 JPm m m10 := hP5.tr a3
        cases hf : f (sk b L p + 1) with
        | inl e =>
          have d := a2 e hf
          have hR : lpP b L opP f (k + 1) p = .inl e := by
            unfold lpP
            rw [if_neg c1, bz_l hf]
          rw [bd1_s d.notes]
          refine tot_some.mpr ?_
          show Tot (loopO _ m10) _
          refine tot_step ?_
          unfold r_X12_product_b4
          rw [if_neg (by rw [d.1]; exact d.2.1)]
          refine tot_some.mpr ?_
          show SmM b L (lpP b L opP f (k + 1) p) c o m m10
          exact SmM.bad hR d hP10
        | inr pl =>
          obtain ⟨p1, l1⟩ := pl
          obtain ⟨b1, b2, b3, b4⟩ := a1 p1 l1 hf
          obtain ⟨d1, d2, -⟩ := hG _ (by omega) p1 l1 hf
          obtain ⟨m12, w1, w2, w3, w4, w5, w6⟩ := notesM (w := opP (bA b L (sk b L p))) (v := 0) b1 b2 b4 (by rw [List.length_append]; omega)
          rw [bd1_s w1]
          refine tot_some.mpr ?_
          show Tot (loopO _ m12) _
          have e9 := ih p1 ((c ++ l1) ++ [(opP (bA b L (sk b L p)), 0)]) m12 (by omega) w3 w4 (w5.trans b3) w2 (by rw [List.length_append, List.length_append, List.length_singleton]; omega)
          have hR : lpP b L opP f (k + 1) p = bz (lpP b L opP f k p1) fun p2 l2 => .inr (p2, (l1 ++ [(opP (bA b L (sk b L p)), 0)]) ++ l2) := by
            show (if opP (bA b L (sk b L p)) = -1 then _ else _) = _
            rw [if_neg c1, bz_r hf]
          rw [List.append_assoc] at e9
          refine e9.mono ?_
          rintro (m' | m') hq
          · exact SmM.up hq hR (hP10.tr w6)
          · exact SmM.up hq hR (hP10.tr w6)
      unfold r_X12_product_b4
      rw [if_pos h5, tot_bd2]
      refine (takesSign_m (c := 42) h h5 (by decide)).mono ?_
      rintro ⟨z0, n0⟩ ⟨d0, f0, g0⟩
      dsimp only at d0 f0 g0 ⊢
      have F0 : Fj [] [(12, 4)] m n0 := g0
      by_cases q0 : bA b L (sk b L p) = 42
      · obtain ⟨e0, t0⟩ := d0 q0
        have ev : opP (bA b L (sk b L p)) = 4 := by unfold opP; rw [if_pos q0]
        have bd := body n0 t0 F0
        rw [ev] at bd
        rw [if_pos e0]
        exact bd
      obtain ⟨e0, t0⟩ := f0 q0
      have y0 : n0 12 0 5 = 0 := by rw [F0 12 0 5 (by simp) (by simp)]; exact h5
      rw [if_neg (by rw [e0]; decide), tot_bd2]
      refine (takesSign_m (c := 47) t0 y0 (by decide)).mono ?_
      rw [sk_sk hp]
      rintro ⟨z1, n1⟩ ⟨d1, f1, g1⟩
      dsimp only at d1 f1 g1 ⊢
      have F1 : Fj [] [(12, 4)] m n1 := (F0.tr g1)
      by_cases q1 : bA b L (sk b L p) = 47
      · obtain ⟨e1, t1⟩ := d1 q1
        have ev : opP (bA b L (sk b L p)) = 5 := by unfold opP; rw [if_neg q0, if_pos q1]
        have bd := body n1 t1 F1
        rw [ev] at bd
        rw [if_pos e1]
        exact bd
      obtain ⟨e1, t1⟩ := f1 q1
      have y1 : n1 12 0 5 = 0 := by rw [F1 12 0 5 (by simp) (by simp)]; exact h5
      rw [if_neg (by rw [e1]; decide), tot_bd2]
      refine (takesSign_m (c := 37) t1 y1 (by decide)).mono ?_
      rw [sk_sk hp]
      rintro ⟨z2, n2⟩ ⟨d2, f2, g2⟩
      dsimp only at d2 f2 g2 ⊢
      have F2 : Fj [] [(12, 4)] m n2 := (F1.tr g2)
      by_cases q2 : bA b L (sk b L p) = 37
      · obtain ⟨e2, t2⟩ := d2 q2
        have ev : opP (bA b L (sk b L p)) = 6 := by unfold opP; rw [if_neg q0, if_neg q1, if_pos q2]
        have bd := body n2 t2 F2
        rw [ev] at bd
        rw [if_pos e2]
        exact bd
      obtain ⟨e2, t2⟩ := f2 q2
      have y2 : n2 12 0 5 = 0 := by rw [F2 12 0 5 (by simp) (by simp)]; exact h5
      exfalso
      unfold opP at c1
      rw [if_neg q0, if_neg q1, if_neg q2] at c1
      exact c1 rfl
theorem prod_m {b : Nat → Int32} {L o p : Nat} {f : Nat → Rz} {c : List Cd} {m : Mem} {rec : Nat → Nat → List Int32 → Mem → Option Mem} (hL : L ≤ 150) (hG : Gd L f) (HU : ∀ p c m, TM b L p m → m 12 0 5 = 0 → m 12 0 8 = nI o → CMm c m → c.length ≤ p → Tot (rec 2 0 [] m) (SmM b L (f p) c o m)) (h : TM b L p m) (h5 : m 12 0 5 = 0) (h8 : m 12 0 8 = nI o) (hC : CMm c m) (hc : c.length ≤ p) : Tot (r_X12_product rec m) (SmM b L (bz (f p) fun p1 l1 => bz (lpP b L opP f 150 p1) fun p2 l2 => .inr (p2, l1 ++ l2)) c o m) := by
  unfold r_X12_product
  rw [tot_bd1]
  refine (HU p c m h h5 h8 hC hc).mono ?_
  rintro m2 ⟨a1, a2, a3⟩
  unfold r_X12_product_l4
  rw [tot_bdS]
  cases hf : f p with
  | inl e =>
    have d := a2 e hf
    refine tot_step ?_
    unfold r_X12_product_b4
    rw [if_neg (by rw [d.1]; exact d.2.1)]
    refine tot_some.mpr ?_
    show Tot (r_X12_product_e72_h4 rec m2) _
    unfold r_X12_product_e72_h4
    exact tot_some.mpr (SmM.bad rfl d a3)
  | inr pl =>
    obtain ⟨p1, l1⟩ := pl
    obtain ⟨b1, b2, b3, b4⟩ := a1 p1 l1 hf
    obtain ⟨d1, d2, -⟩ := hG _ h.2.2.1 p1 l1 hf
    have e9 := lpm_P hL hG HU 150 p1 (c ++ l1) m2 (by omega) b1 b2 b3 b4 (by rw [List.length_append]; omega)
    refine Tot.mono e9 ?_
    rintro (m' | m') hq
    · show Tot (r_X12_product_e72_h4 rec m') _
      unfold r_X12_product_e72_h4
      exact tot_some.mpr (SmM.up hq rfl a3)
    · show Tot (some m') _
      exact tot_some.mpr (SmM.up hq rfl a3)
theorem FtM.product {b : Nat → Int32} {L e : Nat} {k : Int32} {m : Mem} {rec : Nat → Nat → List Int32 → Mem → Option Mem} (h : FtM b L k e m) (hr : rec 2 0 [] m = some m) : r_X12_product rec m = some m := by
  apply Tot.eq
  unfold r_X12_product r_X12_product_l4
  rw [bd1_s hr, tot_bdS]
  refine tot_step ?_
  unfold r_X12_product_b4
  rw [if_neg (by rw [h.1]; exact h.2.1)]
  exact tot_some.mpr (tot_some.mpr rfl)
set_option maxHeartbeats 1000000 in
theorem lpm_S {b : Nat → Int32} {L o : Nat} {f : Nat → Rz} {rec : Nat → Nat → List Int32 → Mem → Option Mem} (hL : L ≤ 150) (hG : Gd L f) (HU : ∀ p c m, TM b L p m → m 12 0 5 = 0 → m 12 0 8 = nI o → CMm c m → c.length ≤ p → Tot (rec 1 0 [] m) (SmM b L (f p) c o m)) : ∀ k p c m, 150 ≤ k + p → TM b L p m → m 12 0 5 = 0 → m 12 0 8 = nI o → CMm c m → c.length ≤ p → Tot (loopO (fun s => r_X12_sum_b4 rec s) m) (Sum.elim (fun m' => SmM b L (lpP b L opS f k p) c o m m') (fun m' => SmM b L (lpP b L opS f k p) c o m m')) := by
  intro k p
  induction k generalizing p with
  | zero =>
    intro c m hk h h5 h8 hC hc
    have hp := h.2.2.1
    obtain ⟨s1, s2⟩ := sk_le (b := b) hp
    have hs : sk b L p = p := by omega
    have hz : bA b L (sk b L p) = -1 := bA_out (by omega)
    refine tot_step ?_
    unfold r_X12_sum_b4
    rw [if_pos h5, tot_bd2]
    refine (takesSign_m (c := 43) h h5 (by decide)).mono ?_
    rintro ⟨z0, n0⟩ ⟨-, f0, g0⟩
    dsimp only at f0 g0 ⊢
    obtain ⟨e0, t0⟩ := f0 (fun q => by rw [q] at hz; exact absurd hz (by decide))
    have F0 : Fj [] [(12, 4)] m n0 := g0
    have y0 : n0 12 0 5 = 0 := by rw [F0 12 0 5 (by simp) (by simp)]; exact h5
    rw [if_neg (by rw [e0]; decide), tot_bd2]
    refine (takesSign_m (c := 45) t0 y0 (by decide)).mono ?_
    rw [sk_sk hp]
    rintro ⟨z1, n1⟩ ⟨-, f1, g1⟩
    dsimp only at f1 g1 ⊢
    obtain ⟨e1, t1⟩ := f1 (fun q => by rw [q] at hz; exact absurd hz (by decide))
    have F1 : Fj [] [(12, 4)] m n1 := F0.tr g1
    have y1 : n1 12 0 5 = 0 := by rw [F1 12 0 5 (by simp) (by simp)]; exact h5
    rw [if_neg (by rw [e1]; decide)]
    unfold r_X12_sum_j38_c4
    rw [if_pos rfl]
    refine tot_some.mpr ?_
    show SmM b L (lpP b L opS f 0 p) c o m n1
    exact SmM.ok (show lpP b L opS f 0 p = .inr (sk b L p, []) by rw [hs]; rfl) t1 y1 (by rw [F1 12 0 8 (by simp) (by simp)]; exact h8) (by rw [List.append_nil]; exact hC.fj F1 (by simp)) (F1.p (by simp))
  | succ k ih =>
    intro c m hk h h5 h8 hC hc
    have hp := h.2.2.1
    obtain ⟨s1, s2⟩ := sk_le (b := b) hp
    refine tot_step ?_
    by_cases c1 : opS (bA b L (sk b L p)) = -1
    · have hR : lpP b L opS f (k + 1) p = .inr (sk b L p, []) := by
        unfold lpP
        rw [if_pos c1]
      unfold r_X12_sum_b4
      rw [if_pos h5, tot_bd2]
      refine (takesSign_m (c := 43) h h5 (by decide)).mono ?_
      rintro ⟨z0, n0⟩ ⟨-, f0, g0⟩
      dsimp only at f0 g0 ⊢
      obtain ⟨e0, t0⟩ := f0 (fun q => by rw [q] at c1; exact absurd c1 (by decide))
      have F0 : Fj [] [(12, 4)] m n0 := g0
      have y0 : n0 12 0 5 = 0 := by rw [F0 12 0 5 (by simp) (by simp)]; exact h5
      rw [if_neg (by rw [e0]; decide), tot_bd2]
      refine (takesSign_m (c := 45) t0 y0 (by decide)).mono ?_
      rw [sk_sk hp]
      rintro ⟨z1, n1⟩ ⟨-, f1, g1⟩
      dsimp only at f1 g1 ⊢
      obtain ⟨e1, t1⟩ := f1 (fun q => by rw [q] at c1; exact absurd c1 (by decide))
      have F1 : Fj [] [(12, 4)] m n1 := F0.tr g1
      have y1 : n1 12 0 5 = 0 := by rw [F1 12 0 5 (by simp) (by simp)]; exact h5
      rw [if_neg (by rw [e1]; decide)]
      unfold r_X12_sum_j38_c4
      rw [if_pos rfl]
      refine tot_some.mpr ?_
      show SmM b L (lpP b L opS f (k + 1) p) c o m n1
      exact SmM.ok hR t1 y1 (by rw [F1 12 0 8 (by simp) (by simp)]; exact h8) (by rw [List.append_nil]; exact hC.fj F1 (by simp)) (F1.p (by simp))
    · have hne : ¬ bA b L (sk b L p) = -1 := by
        rcases op_or opS (Or.inr rfl) (bA b L (sk b L p)) with q | ⟨q, -⟩
        · exact absurd q c1
        · exact q
      have hlt := bA_lt rfl hne
      have body : ∀ m5, TM b L (sk b L p + 1) m5 → Fj [] [(12, 4)] m m5 → Tot (r_X12_sum_j38_c4 rec (opS (bA b L (sk b L p))) m5) (Sum.elim (fun s2 => Tot (loopO (fun s => r_X12_sum_b4 rec s) s2) (Sum.elim (fun m' => SmM b L (lpP b L opS f (k + 1) p) c o m m') (fun m' => SmM b L (lpP b L opS f (k + 1) p) c o m m'))) (Sum.elim (fun m' => SmM b L (lpP b L opS f (k + 1) p) c o m m') (fun m' => SmM b L (lpP b L opS f (k + 1) p) c o m m'))) := by
        intro m5 t5 hF5
        have v5 : m5 12 0 5 = 0 := by rw [hF5 12 0 5 (by simp) (by simp)]; exact h5
        have v8 : m5 12 0 8 = nI o := by rw [hF5 12 0 8 (by simp) (by simp)]; exact h8
        have hP5 : Fq P75 JPm m m5 := hF5.p (by simp)
        unfold r_X12_sum_j38_c4
        rw [if_neg c1, tot_bd1]
        refine (HU (sk b L p + 1) c m5 t5 v5 v8 (hC.fj hF5 (by simp)) (by omega)).mono ?_
        rintro m10 ⟨a1, a2, a3⟩
        have hP10 : Fq P75 JPm m m10 := hP5.tr a3
        cases hf : f (sk b L p + 1) with
        | inl e =>
          have d := a2 e hf
          have hR : lpP b L opS f (k + 1) p = .inl e := by
            unfold lpP
            rw [if_neg c1, bz_l hf]
          rw [bd1_s d.notes]
          refine tot_some.mpr ?_
          show Tot (loopO _ m10) _
          refine tot_step ?_
          unfold r_X12_sum_b4
          rw [if_neg (by rw [d.1]; exact d.2.1)]
          refine tot_some.mpr ?_
          show SmM b L (lpP b L opS f (k + 1) p) c o m m10
          exact SmM.bad hR d hP10
        | inr pl =>
          obtain ⟨p1, l1⟩ := pl
          obtain ⟨b1, b2, b3, b4⟩ := a1 p1 l1 hf
          obtain ⟨d1, d2, -⟩ := hG _ (by omega) p1 l1 hf
          obtain ⟨m12, w1, w2, w3, w4, w5, w6⟩ := notesM (w := opS (bA b L (sk b L p))) (v := 0) b1 b2 b4 (by rw [List.length_append]; omega)
          rw [bd1_s w1]
          refine tot_some.mpr ?_
          show Tot (loopO _ m12) _
          have e9 := ih p1 ((c ++ l1) ++ [(opS (bA b L (sk b L p)), 0)]) m12 (by omega) w3 w4 (w5.trans b3) w2 (by rw [List.length_append, List.length_append, List.length_singleton]; omega)
          have hR : lpP b L opS f (k + 1) p = bz (lpP b L opS f k p1) fun p2 l2 => .inr (p2, (l1 ++ [(opS (bA b L (sk b L p)), 0)]) ++ l2) := by
            show (if opS (bA b L (sk b L p)) = -1 then _ else _) = _
            rw [if_neg c1, bz_r hf]
          rw [List.append_assoc] at e9
          refine e9.mono ?_
          rintro (m' | m') hq
          · exact SmM.up hq hR (hP10.tr w6)
          · exact SmM.up hq hR (hP10.tr w6)
      unfold r_X12_sum_b4
      rw [if_pos h5, tot_bd2]
      refine (takesSign_m (c := 43) h h5 (by decide)).mono ?_
      rintro ⟨z0, n0⟩ ⟨d0, f0, g0⟩
      dsimp only at d0 f0 g0 ⊢
      have F0 : Fj [] [(12, 4)] m n0 := g0
      by_cases q0 : bA b L (sk b L p) = 43
      · obtain ⟨e0, t0⟩ := d0 q0
        have ev : opS (bA b L (sk b L p)) = 2 := by unfold opS; rw [if_pos q0]
        have bd := body n0 t0 F0
        rw [ev] at bd
        rw [if_pos e0]
        exact bd
      obtain ⟨e0, t0⟩ := f0 q0
      have y0 : n0 12 0 5 = 0 := by rw [F0 12 0 5 (by simp) (by simp)]; exact h5
      rw [if_neg (by rw [e0]; decide), tot_bd2]
      refine (takesSign_m (c := 45) t0 y0 (by decide)).mono ?_
      rw [sk_sk hp]
      rintro ⟨z1, n1⟩ ⟨d1, f1, g1⟩
      dsimp only at d1 f1 g1 ⊢
      have F1 : Fj [] [(12, 4)] m n1 := (F0.tr g1)
      by_cases q1 : bA b L (sk b L p) = 45
      · obtain ⟨e1, t1⟩ := d1 q1
        have ev : opS (bA b L (sk b L p)) = 3 := by unfold opS; rw [if_neg q0, if_pos q1]
        have bd := body n1 t1 F1
        rw [ev] at bd
        rw [if_pos e1]
        exact bd
      obtain ⟨e1, t1⟩ := f1 q1
      have y1 : n1 12 0 5 = 0 := by rw [F1 12 0 5 (by simp) (by simp)]; exact h5
      exfalso
      unfold opS at c1
      rw [if_neg q0, if_neg q1] at c1
      exact c1 rfl
theorem sum_m {b : Nat → Int32} {L o p : Nat} {f : Nat → Rz} {c : List Cd} {m : Mem} {rec : Nat → Nat → List Int32 → Mem → Option Mem} (hL : L ≤ 150) (hG : Gd L f) (HU : ∀ p c m, TM b L p m → m 12 0 5 = 0 → m 12 0 8 = nI o → CMm c m → c.length ≤ p → Tot (rec 1 0 [] m) (SmM b L (f p) c o m)) (h : TM b L p m) (h5 : m 12 0 5 = 0) (h8 : m 12 0 8 = nI o) (hC : CMm c m) (hc : c.length ≤ p) : Tot (r_X12_sum rec m) (SmM b L (bz (f p) fun p1 l1 => bz (lpP b L opS f 150 p1) fun p2 l2 => .inr (p2, l1 ++ l2)) c o m) := by
  unfold r_X12_sum
  rw [tot_bd1]
  refine (HU p c m h h5 h8 hC hc).mono ?_
  rintro m2 ⟨a1, a2, a3⟩
  unfold r_X12_sum_l4
  rw [tot_bdS]
  cases hf : f p with
  | inl e =>
    have d := a2 e hf
    refine tot_step ?_
    unfold r_X12_sum_b4
    rw [if_neg (by rw [d.1]; exact d.2.1)]
    refine tot_some.mpr ?_
    show Tot (r_X12_sum_e58_h4 rec m2) _
    unfold r_X12_sum_e58_h4
    exact tot_some.mpr (SmM.bad rfl d a3)
  | inr pl =>
    obtain ⟨p1, l1⟩ := pl
    obtain ⟨b1, b2, b3, b4⟩ := a1 p1 l1 hf
    obtain ⟨d1, d2, -⟩ := hG _ h.2.2.1 p1 l1 hf
    have e9 := lpm_S hL hG HU 150 p1 (c ++ l1) m2 (by omega) b1 b2 b3 b4 (by rw [List.length_append]; omega)
    refine Tot.mono e9 ?_
    rintro (m' | m') hq
    · show Tot (r_X12_sum_e58_h4 rec m') _
      unfold r_X12_sum_e58_h4
      exact tot_some.mpr (SmM.up hq rfl a3)
    · show Tot (some m') _
      exact tot_some.mpr (SmM.up hq rfl a3)
theorem FtM.sum {b : Nat → Int32} {L e : Nat} {k : Int32} {m : Mem} {rec : Nat → Nat → List Int32 → Mem → Option Mem} (h : FtM b L k e m) (hr : rec 1 0 [] m = some m) : r_X12_sum rec m = some m := by
  apply Tot.eq
  unfold r_X12_sum r_X12_sum_l4
  rw [bd1_s hr, tot_bdS]
  refine tot_step ?_
  unfold r_X12_sum_b4
  rw [if_neg (by rw [h.1]; exact h.2.1)]
  exact tot_some.mpr (tot_some.mpr rfl)

theorem six_2 : r_X12_six 6 1 12 12 0 0 = nI (scd 6) ∧ r_X12_six 2 5 12 9 5 6 = nI (scd 7) ∧ r_X12_six 4 15 21 2 20 0 = nI (scd 8) ∧ r_X12_six 14 5 1 18 0 0 = nI (scd 9) ∧ r_X12_six 4 21 7 0 0 0 = nI (scd 10) ∧ r_X12_six 18 1 14 0 0 0 = nI (scd 11) ∧ r_X12_six 4 1 25 0 0 0 = nI (scd 12) ∧ r_X12_six 6 18 15 13 0 0 = nI (scd 13) ∧ r_X12_six 12 5 1 19 20 0 = nI (scd 15) ∧ r_X12_six 13 15 19 20 0 0 = nI (scd 16) ∧ (555 : Int32) = nI (scd 14) := by
  unfold r_X12_six r_X12_six_j29 r_X12_six_j49
  decide +kernel

theorem takes_m {b : Nat → Int32} {L s i : Nat} {x1 x2 x3 x4 x5 x6 : Int32} {m : Mem} (hi : i < 11) (hx : r_X12_six x1 x2 x3 x4 x5 x6 = nI (scd (6 + i))) (h : TM b L s m) (hs : sk b L s = s) (h5 : m 12 0 5 = 0) : Tot (r_X12_takes x1 x2 x3 x4 x5 x6 m) (fun q => (lk b L s = i → q.1 = true ∧ TM b L (wE b L s) q.2) ∧ (¬ lk b L s = i → q.1 = false ∧ TM b L s q.2) ∧ q.2 12 0 5 = 0 ∧ Fj [] [(12, 4)] m q.2) := by
  unfold r_X12_takes
  rw [tot_bd2]
  refine (isWord_m h h5).mono ?_
  rw [hs, hx]
  rintro ⟨z, m2⟩ ⟨a1, a2, a3, a4⟩
  dsimp only at a1 a2 a3 a4 ⊢
  by_cases hz : wcd b L s = nI (scd (6 + i))
  · have hk := (lk_iff hi).mp hz
    rw [decide_eq_true hz] at a1
    rw [if_pos a1, tot_bd1]
    refine (skipW_m a2).mono ?_
    rintro m3 ⟨b1, b2⟩
    exact tot_some.mpr ⟨fun _ => ⟨a1, b1⟩, fun n => absurd hk n, by show m3 12 0 5 = 0; rw [b2 12 0 5 (by simp) (by simp)]; exact a3, a4.tr b2⟩
  · have hk : ¬ lk b L s = i := fun q => hz ((lk_iff hi).mpr q)
    rw [decide_eq_false hz] at a1
    rw [if_neg (by rw [a1]; decide)]
    exact tot_some.mpr ⟨fun q => absurd q hk, fun _ => ⟨a1, a2⟩, a3, a4⟩
theorem isTo_m {b : Nat → Int32} {L s : Nat} {m : Mem} (hx : (555 : Int32) = nI (scd 14)) (h : TM b L s m) (hs : sk b L s = s) (h5 : m 12 0 5 = 0) : Tot (r_X12_isTo m) (fun q => (lk b L s = 8 → q.1 = true ∧ TM b L (wE b L s) q.2) ∧ (¬ lk b L s = 8 → q.1 = false ∧ TM b L s q.2) ∧ q.2 12 0 5 = 0 ∧ Fj [] [(12, 4)] m q.2) := by
  unfold r_X12_isTo r_X12_isTo_j21
  rw [if_pos h5, tot_bd2]
  refine (wordHere_m h).mono ?_
  rw [hs]
  rintro ⟨z, m2⟩ ⟨a1, a2, a3⟩
  dsimp only at a1 a2 a3 ⊢
  have v5 : m2 12 0 5 = 0 := by rw [a3 12 0 5 (by simp) (by simp)]; exact h5
  rw [a1, hx]
  unfold r_X12_isTo_j22
  by_cases hz : wcd b L s = nI (scd 14)
  · have hk : lk b L s = 8 := (lk_iff (i := 8) (by omega)).mp hz
    rw [if_pos hz, if_neg (by decide), tot_bd1]
    refine (skipW_m a2).mono ?_
    rintro m3 ⟨b1, b2⟩
    rw [if_pos (by decide)]
    exact tot_some.mpr ⟨fun _ => ⟨rfl, b1⟩, fun n => absurd hk n, by show m3 12 0 5 = 0; rw [b2 12 0 5 (by simp) (by simp)]; exact v5, a3.tr b2⟩
  · have hk : ¬ lk b L s = 8 := fun q => hz ((lk_iff (i := 8) (by omega)).mpr q)
    rw [if_neg hz, if_pos rfl, if_pos (by decide)]
    exact tot_some.mpr ⟨fun q => absurd q hk, fun _ => ⟨rfl, a2⟩, v5, a3⟩
set_option maxHeartbeats 1000000 in
theorem known_m {b : Nat → Int32} {L s : Nat} {m : Mem} (h : TM b L s m) (hs : sk b L s = s) (h5 : m 12 0 5 = 0) : Tot (r_X12_knownHere m) (fun q => (lk b L s < 9 → q.1 = nI (lk b L s) ∧ TM b L (wE b L s) q.2) ∧ (¬ lk b L s < 9 → q.1 = -1 ∧ TM b L s q.2) ∧ q.2 12 0 5 = 0 ∧ Fj [] [(12, 4)] m q.2) := by
  obtain ⟨x0, x1, x2, x3, x4, x5, x6, x7, -, -, x8⟩ := six_2
  unfold r_X12_knownHere
  rw [tot_bd2]
  refine (takes_m (i := 0) (by omega) x0 h hs h5).mono ?_
  rintro ⟨z0, n0⟩ ⟨a0, b0, y0, g0⟩
  dsimp only at a0 b0 y0 g0 ⊢
  have F0 : Fj [] [(12, 4)] m n0 := g0
  by_cases c0 : lk b L s = 0
  · obtain ⟨d1, d2⟩ := a0 c0
    rw [if_pos d1]
    exact tot_some.mpr ⟨fun _ => ⟨by rw [c0]; rfl, d2⟩, fun n => absurd (by omega) n, y0, F0⟩
  obtain ⟨e0, t0⟩ := b0 c0
  rw [if_neg (by rw [e0]; decide), tot_bd2]
  refine (takes_m (i := 1) (by omega) x1 t0 hs y0).mono ?_
  rintro ⟨z1, n1⟩ ⟨a1, b1, y1, g1⟩
  dsimp only at a1 b1 y1 g1 ⊢
  have F1 : Fj [] [(12, 4)] m n1 := F0.tr g1
  by_cases c1 : lk b L s = 1
  · obtain ⟨d1, d2⟩ := a1 c1
    rw [if_pos d1]
    exact tot_some.mpr ⟨fun _ => ⟨by rw [c1]; rfl, d2⟩, fun n => absurd (by omega) n, y1, F1⟩
  obtain ⟨e1, t1⟩ := b1 c1
  rw [if_neg (by rw [e1]; decide), tot_bd2]
  refine (takes_m (i := 2) (by omega) x2 t1 hs y1).mono ?_
  rintro ⟨z2, n2⟩ ⟨a2, b2, y2, g2⟩
  dsimp only at a2 b2 y2 g2 ⊢
  have F2 : Fj [] [(12, 4)] m n2 := F1.tr g2
  by_cases c2 : lk b L s = 2
  · obtain ⟨d1, d2⟩ := a2 c2
    rw [if_pos d1]
    exact tot_some.mpr ⟨fun _ => ⟨by rw [c2]; rfl, d2⟩, fun n => absurd (by omega) n, y2, F2⟩
  obtain ⟨e2, t2⟩ := b2 c2
  rw [if_neg (by rw [e2]; decide), tot_bd2]
  refine (takes_m (i := 3) (by omega) x3 t2 hs y2).mono ?_
  rintro ⟨z3, n3⟩ ⟨a3, b3, y3, g3⟩
  dsimp only at a3 b3 y3 g3 ⊢
  have F3 : Fj [] [(12, 4)] m n3 := F2.tr g3
  by_cases c3 : lk b L s = 3
  · obtain ⟨d1, d2⟩ := a3 c3
    rw [if_pos d1]
    exact tot_some.mpr ⟨fun _ => ⟨by rw [c3]; rfl, d2⟩, fun n => absurd (by omega) n, y3, F3⟩
  obtain ⟨e3, t3⟩ := b3 c3
  rw [if_neg (by rw [e3]; decide), tot_bd2]
  refine (takes_m (i := 4) (by omega) x4 t3 hs y3).mono ?_
  rintro ⟨z4, n4⟩ ⟨a4, b4, y4, g4⟩
  dsimp only at a4 b4 y4 g4 ⊢
  have F4 : Fj [] [(12, 4)] m n4 := F3.tr g4
  by_cases c4 : lk b L s = 4
  · obtain ⟨d1, d2⟩ := a4 c4
    rw [if_pos d1]
    exact tot_some.mpr ⟨fun _ => ⟨by rw [c4]; rfl, d2⟩, fun n => absurd (by omega) n, y4, F4⟩
  obtain ⟨e4, t4⟩ := b4 c4
  rw [if_neg (by rw [e4]; decide), tot_bd2]
  refine (takes_m (i := 5) (by omega) x5 t4 hs y4).mono ?_
  rintro ⟨z5, n5⟩ ⟨a5, b5, y5, g5⟩
  dsimp only at a5 b5 y5 g5 ⊢
  have F5 : Fj [] [(12, 4)] m n5 := F4.tr g5
  by_cases c5 : lk b L s = 5
  · obtain ⟨d1, d2⟩ := a5 c5
    rw [if_pos d1]
    exact tot_some.mpr ⟨fun _ => ⟨by rw [c5]; rfl, d2⟩, fun n => absurd (by omega) n, y5, F5⟩
  obtain ⟨e5, t5⟩ := b5 c5
  rw [if_neg (by rw [e5]; decide), tot_bd2]
  refine (takes_m (i := 6) (by omega) x6 t5 hs y5).mono ?_
  rintro ⟨z6, n6⟩ ⟨a6, b6, y6, g6⟩
  dsimp only at a6 b6 y6 g6 ⊢
  have F6 : Fj [] [(12, 4)] m n6 := F5.tr g6
  by_cases c6 : lk b L s = 6
  · obtain ⟨d1, d2⟩ := a6 c6
    rw [if_pos d1]
    exact tot_some.mpr ⟨fun _ => ⟨by rw [c6]; rfl, d2⟩, fun n => absurd (by omega) n, y6, F6⟩
  obtain ⟨e6, t6⟩ := b6 c6
  rw [if_neg (by rw [e6]; decide), tot_bd2]
  refine (takes_m (i := 7) (by omega) x7 t6 hs y6).mono ?_
  rintro ⟨z7, n7⟩ ⟨a7, b7, y7, g7⟩
  dsimp only at a7 b7 y7 g7 ⊢
  have F7 : Fj [] [(12, 4)] m n7 := F6.tr g7
  by_cases c7 : lk b L s = 7
  · obtain ⟨d1, d2⟩ := a7 c7
    rw [if_pos d1]
    exact tot_some.mpr ⟨fun _ => ⟨by rw [c7]; rfl, d2⟩, fun n => absurd (by omega) n, y7, F7⟩
  obtain ⟨e7, t7⟩ := b7 c7
  rw [if_neg (by rw [e7]; decide), tot_bd2]
  refine (isTo_m x8 t7 hs y7).mono ?_
  rintro ⟨z8, n8⟩ ⟨a8, b8, y8, g8⟩
  dsimp only at a8 b8 y8 g8 ⊢
  have F8 : Fj [] [(12, 4)] m n8 := F7.tr g8
  by_cases c8 : lk b L s = 8
  · obtain ⟨d1, d2⟩ := a8 c8
    rw [if_pos d1]
    exact tot_some.mpr ⟨fun _ => ⟨by rw [c8]; rfl, d2⟩, fun n => absurd (by omega) n, y8, F8⟩
  · obtain ⟨d1, d2⟩ := b8 c8
    rw [if_neg (by rw [d1]; decide)]
    exact tot_some.mpr ⟨fun n => by omega, fun _ => ⟨rfl, d2⟩, y8, F8⟩

theorem opens_m {b : Nat → Int32} {L s o : Nat} {m : Mem} (h : TM b L s m) (h5 : m 12 0 5 = 0) (h8 : m 12 0 8 = nI o) (ho : o ≤ 6) : Tot (r_X12_opensOne m) (fun q => (o = 6 → q.1 = false ∧ FtM b L 3 s q.2) ∧ (¬ o = 6 → q.1 = true ∧ TM b L s q.2 ∧ q.2 12 0 5 = 0 ∧ q.2 12 0 8 = nI (o + 1)) ∧ Fj [] [(12, 5), (12, 6), (12, 8)] m q.2) := by
  unfold r_X12_opensOne
  rw [if_pos h5, h8]
  by_cases e : o = 6
  · obtain ⟨mw, w1, w2, w3⟩ := wrong_m (e := s) (k := 3) h h5 (by decide)
    rw [if_pos (by rw [e]; rfl), h.2.1, bd1_s w1]
    unfold r_X12_opensOne_j45
    rw [if_neg (by rw [w2.1]; exact w2.2.1)]
    exact tot_some.mpr ⟨fun _ => ⟨rfl, w2⟩, fun n => absurd e n, w3.mono (by simp) (by simp)⟩
  · have hF : Fj [] [(12, 8)] m (wr m 12 0 8 (m 12 0 8 + 1)) := Fj.rf.wrJ (by simp) _ _
    rw [if_neg (show ¬ nI o = 6 from fun q => e ((nI_eq (a := o) (b := 6) (by omega) (by omega)).mp q))]
    unfold r_X12_opensOne_j28 r_X12_opensOne_j45
    rw [if_pos h5, if_pos (by rw [wr_j (by decide)]; exact h5)]
    refine tot_some.mpr ⟨fun q => absurd q e, fun _ => ⟨rfl, h.fj hF (by simp) (by decide), ?_, ?_⟩, hF.mono (by simp) (by simp)⟩
    · dsimp only
      rw [wr_j (by decide)]
      exact h5
    · dsimp only
      rw [wr_eq, h8, nI_succ]
def HSm (b : Nat → Int32) (L o : Nat) (sub : Option (Nat → Rz)) (rec : Nat → Nat → List Int32 → Mem → Option Mem) : Prop := o ≤ 6 ∧ (o < 6 → ∃ f, sub = some f ∧ Gd L f ∧ (∀ p c m, TM b L p m → m 12 0 5 = 0 → m 12 0 8 = nI (o + 1) → CMm c m → c.length ≤ p → Tot (rec 0 0 [] m) (SmM b L (f p) c (o + 1) m)) ∧ ∀ k e m, FtM b L k e m → rec 0 0 [] m = some m) ∧ (o = 6 → sub = none)
theorem HSm.gd {b : Nat → Int32} {L o : Nat} {sub : Option (Nat → Rz)} {rec : Nat → Nat → List Int32 → Mem → Option Mem} (h : HSm b L o sub rec) : ∀ f, sub = some f → Gd L f := fun f hf => by
  by_cases ho : o < 6
  · obtain ⟨f2, e, g, -⟩ := h.2.1 ho
    rw [e] at hf
    cases hf
    exact g
  · rw [h.2.2 (by have := h.1; omega)] at hf
    cases hf
theorem lt_nd {x : Int32} (h : ltF x = true) : ¬ dgF x = true ∧ ¬ x = 40 := by
  obtain ⟨c, hc, rfl⟩ := lt_k h
  refine ⟨fun q => ?_, fun q => ?_⟩
  · have q' : (if nI (97 + c) < 48 then false else if 57 < nI (97 + c) then false else true) = true := q
    rw [if_neg (show ¬ nI (97 + c) < (48 : Int32) from nI_nlt (a := 97 + c) (b := 48) (by omega) (by omega)), if_pos (show (57 : Int32) < nI (97 + c) from nI_lt (a := 57) (b := 97 + c) (by omega) (by omega))] at q'
    cases q'
  · have := (nI_eq (a := 97 + c) (b := 40) (by omega) (by omega)).mp q
    omega
/-- the end of what was opened -/
theorem close_m {b : Nat → Int32} {L o : Nat} {m m' : Mem} (h8 : m 12 0 8 = nI (o + 1)) (hm : m' = wr m 12 0 8 (m 12 0 8 - 1)) : m' 12 0 8 = nI o ∧ Fj [] [(12, 8)] m m' := by
  rw [hm]
  exact ⟨by rw [wr_eq, h8, nI_pred], Fj.rf.wrJ (by simp) _ _⟩
theorem FtM.cl {b : Nat → Int32} {L e : Nat} {k x : Int32} {m : Mem} (h : FtM b L k e m) : FtM b L k e (wr m 12 0 8 x) := h.fj (K := []) (J := [(12, 8)]) (Fj.rf.wrJ (by simp) _ _) (by simp) (by decide)
set_option maxHeartbeats 1000000 in
theorem paren_m {b : Nat → Int32} {L o p : Nat} {sub : Option (Nat → Rz)} {c : List Cd} {m m0 : Mem} {rec : Nat → Nat → List Int32 → Mem → Option Mem} (hL : L ≤ 150) (hS : HSm b L o sub rec) (hd : ¬ dgF (bA b L (sk b L p)) = true) (h40 : bA b L (sk b L p) = 40) (h : TM b L (sk b L p) m) (h5 : m 12 0 5 = 0) (h8 : m 12 0 8 = nI o) (hC : CMm c m) (hc : c.length ≤ p) (hp : p ≤ L) (hF : Fq P75 JPm m0 m) : Tot (r_X12_one_j56 rec (-1) m) (SmM b L (unP b L sub p) c o m0) := by
  have hlt := bA_lt h40 (by decide)
  obtain ⟨s1, s2⟩ := sk_le (b := b) hp
  have ho6 := hS.1
  unfold r_X12_one_j56
  rw [if_pos rfl, h.2.1, bd1_s (byteAt_m h (by omega)), if_pos h40, tot_bd2]
  refine (opens_m h h5 h8 ho6).mono ?_
  rintro ⟨z, m2⟩ ⟨a1, a2, a3⟩
  dsimp only at a1 a2 a3 ⊢
  have hF2 : Fq P75 JPm m0 m2 := hF.tr (a3.p (by simp))
  by_cases ho : o = 6
  · obtain ⟨b1, b2⟩ := a1 ho
    have hR : unP b L sub p = .inl (3, sk b L p) := by
      unfold unP
      rw [if_neg hd, if_pos h40, hS.2.2 ho]
    rw [if_neg (by rw [b1]; decide)]
    exact tot_some.mpr (SmM.bad hR b2 hF2)
  obtain ⟨b1, b2, b3, b4⟩ := a2 ho
  obtain ⟨f, hf, hG, hr, hi⟩ := hS.2.1 (by omega)
  have hR : unP b L sub p = bz (f (sk b L p + 1)) fun p1 l1 => if bA b L (sk b L p1) = 41 then .inr (sk b L p1 + 1, l1) else .inl (1, sk b L p1) := by
    unfold unP
    rw [if_neg hd, if_pos h40, hf]
  have hF3 : Fj [] [(12, 4)] m2 (wr m2 12 0 4 (m2 12 0 4 + 1)) := Fj.rf.wrJ (by simp) _ _
  have t3 : TM b L (sk b L p + 1) (wr m2 12 0 4 (m2 12 0 4 + 1)) := b2.mv hF3 (by simp) (by decide) (by rw [wr_eq, b2.2.1, nI_succ]) (by omega)
  have hC3 : CMm c (wr m2 12 0 4 (m2 12 0 4 + 1)) := (hC.fj a3 (by decide)).fj hF3 (by decide)
  rw [if_pos b1, tot_bd1]
  refine (hr (sk b L p + 1) c _ t3 (by rw [wr_j (by decide)]; exact b3) (by rw [wr_j (by decide)]; exact b4) hC3 (by omega)).mono ?_
  rintro m7 ⟨d1, d2, d3⟩
  have hF7 : Fq P75 JPm m0 m7 := (hF2.tr (hF3.p (by simp))).tr d3
  cases hq : f (sk b L p + 1) with
  | inl e =>
    have d := d2 e hq
    rw [bz_l hq] at hR
    rw [bd1_s d.sign]
    exact tot_some.mpr (SmM.bad hR d.cl (hF7.wrJ (by simp) _ _))
  | inr pl =>
    obtain ⟨p1, l1⟩ := pl
    obtain ⟨e1, e2, e3, e4⟩ := d1 p1 l1 hq
    rw [bz_r hq] at hR
    rw [tot_bd1]
    refine (sign_m (c := 41) e1 e2 (by decide)).mono ?_
    rintro m9 ⟨f1, f2, f3⟩
    have hF9 : Fq P75 JPm m0 m9 := hF7.tr (f3.p (by simp))
    by_cases c5 : bA b L (sk b L p1) = 41
    · obtain ⟨u1, u2⟩ := f1 c5
      rw [if_pos c5] at hR
      have v8 : m9 12 0 8 = nI (o + 1) := by rw [f3 12 0 8 (by simp) (by simp)]; exact e3
      have hF10 : Fj [] [(12, 8)] m9 (wr m9 12 0 8 (m9 12 0 8 - 1)) := Fj.rf.wrJ (by simp) _ _
      exact tot_some.mpr (SmM.ok hR (u1.fj hF10 (by simp) (by decide)) (by rw [wr_j (by decide)]; exact u2) (by rw [wr_eq, v8, nI_pred]) ((e4.fj f3 (by decide)).fj hF10 (by decide)) (hF9.wrJ (by simp) _ _))
    · have d := f2 c5
      rw [if_neg c5] at hR
      exact tot_some.mpr (SmM.bad hR d.cl (hF9.wrJ (by simp) _ _))
set_option maxHeartbeats 2000000 in
theorem duo_m {b : Nat → Int32} {L o p : Nat} {sub : Option (Nat → Rz)} {c : List Cd} {m m0 : Mem} {rec : Nat → Nat → List Int32 → Mem → Option Mem} {y : Int32} (hL : L ≤ 150) (hS : HSm b L o sub rec) (hd : ¬ dgF (bA b L (sk b L p)) = true) (h40 : ¬ bA b L (sk b L p) = 40) (h9 : ¬ lk b L (sk b L p) < 9) (h11 : lk b L (sk b L p) < 11) (hy : y = nI (lk b L (sk b L p) - 2)) (h : TM b L (sk b L p) m) (h5 : m 12 0 5 = 0) (h8 : m 12 0 8 = nI o) (hC : CMm c m) (hc : c.length ≤ p) (hp : p ≤ L) (hF : Fq P75 JPm m0 m) : Tot (r_X12_one_j56 rec y m) (SmM b L (unP b L sub p) c o m0) := by
  obtain ⟨s1, s2⟩ := sk_le (b := b) hp
  have ho6 := hS.1
  have hw : sk b L p ≤ wE b L (sk b L p) := rn_ge _ _ _ _
  have hw2 : wE b L (sk b L p) ≤ L := rn_le s2
  obtain ⟨s3, s4⟩ := sk_le (b := b) hw2
  unfold r_X12_one_j56
  rw [if_neg (by rw [hy]; exact m1_ne (by omega)), tot_bd2]
  refine (opens_m h h5 h8 ho6).mono ?_
  rintro ⟨z, m2⟩ ⟨a1, a2, a3⟩
  dsimp only at a1 a2 a3 ⊢
  have hF2 : Fq P75 JPm m0 m2 := hF.tr (a3.p (by simp))
  by_cases ho : o = 6
  · obtain ⟨b1, b2⟩ := a1 ho
    have hR : unP b L sub p = .inl (3, sk b L p) := by
      unfold unP
      rw [if_neg hd, if_neg h40, if_neg h9, if_pos h11, hS.2.2 ho]
    rw [if_neg (by rw [b1]; decide)]
    exact tot_some.mpr (SmM.bad hR b2 hF2)
  obtain ⟨b1, b2, b3, b4⟩ := a2 ho
  obtain ⟨f, hf, hG, hr, hi⟩ := hS.2.1 (by omega)
  have hR : unP b L sub p = if bA b L (sk b L (wE b L (sk b L p))) = 91 then
        bz (f (sk b L (wE b L (sk b L p)) + 1)) fun p1 l1 => if bA b L (sk b L p1) = 44 then
          bz (f (sk b L p1 + 1)) fun p2 l2 => if bA b L (sk b L p2) = 93 then .inr (sk b L p2 + 1, (l1 ++ l2) ++ [(nI (lk b L (sk b L p) - 2), 0)]) else .inl (1, sk b L p2)
        else .inl (1, sk b L p1)
      else .inl (1, sk b L (wE b L (sk b L p))) := by
    unfold unP
    rw [if_neg hd, if_neg h40, if_neg h9, if_pos h11, hf]
  have hC2 : CMm c m2 := hC.fj a3 (by decide)
  have bad1 : ∀ e m9, unP b L sub p = .inl e → FtM b L e.1 e.2 m9 → Fq P75 JPm m0 m9 → Tot (bd1 (r_X12_sign 93 m9) fun m46 => (bd1 (r_X12_notes y 0 m46) fun m48 => (some (wr m48 12 0 8 ((m48 12 0 8) - 1))))) (SmM b L (unP b L sub p) c o m0) := fun e m9 hR9 d hF9 => by
    rw [bd1_s d.sign, bd1_s d.notes]
    exact tot_some.mpr (SmM.bad hR9 d.cl (hF9.wrJ (by simp) _ _))
  have bad2 : ∀ e m9, unP b L sub p = .inl e → FtM b L e.1 e.2 m9 → Fq P75 JPm m0 m9 → Tot (bd1 (r_X12_sign 44 m9) fun m42 => (bd1 (rec 0 0 [] m42) fun m44 => (bd1 (r_X12_sign 93 m44) fun m46 => (bd1 (r_X12_notes y 0 m46) fun m48 => (some (wr m48 12 0 8 ((m48 12 0 8) - 1))))))) (SmM b L (unP b L sub p) c o m0) := fun e m9 hR9 d hF9 => by
    rw [bd1_s d.sign, bd1_s (hi _ _ _ d)]
    exact bad1 e m9 hR9 d hF9
  rw [if_pos b1, tot_bd1]
  refine (skipW_m b2).mono ?_
  rintro m3 ⟨t3, g3⟩
  have v53 : m3 12 0 5 = 0 := by rw [g3 12 0 5 (by simp) (by simp)]; exact b3
  have v83 : m3 12 0 8 = nI (o + 1) := by rw [g3 12 0 8 (by simp) (by simp)]; exact b4
  have hF3 : Fq P75 JPm m0 m3 := hF2.tr (g3.p (by simp))
  rw [tot_bd1]
  refine (sign_m (c := 91) t3 v53 (by decide)).mono ?_
  rintro m4 ⟨e1, e2, e3⟩
  have hF4 : Fq P75 JPm m0 m4 := hF3.tr (e3.p (by simp))
  by_cases c5 : bA b L (sk b L (wE b L (sk b L p))) = 91
  case neg =>
    have d := e2 c5
    rw [if_neg c5] at hR
    rw [bd1_s (hi _ _ _ d)]
    exact bad2 _ m4 hR d hF4
  obtain ⟨u1, u2⟩ := e1 c5
  have x0 := bA_lt c5 (by decide)
  rw [if_pos c5] at hR
  rw [tot_bd1]
  refine (hr _ c m4 u1 u2 (by rw [e3 12 0 8 (by simp) (by simp)]; exact v83) ((hC2.fj g3 (by decide)).fj e3 (by decide)) (by omega)).mono ?_
  rintro m7 ⟨d1, d2, d3⟩
  have hF7 : Fq P75 JPm m0 m7 := hF4.tr d3
  cases hq : f (sk b L (wE b L (sk b L p)) + 1) with
  | inl e =>
    rw [bz_l hq] at hR
    exact bad2 e m7 hR (d2 e hq) hF7
  | inr pl =>
    obtain ⟨p1, l1⟩ := pl
    obtain ⟨y1, y2, y3, y4⟩ := d1 p1 l1 hq
    obtain ⟨x1, x2, -⟩ := hG _ (by omega) p1 l1 hq
    obtain ⟨s5, s6⟩ := sk_le (b := b) x2
    rw [bz_r hq] at hR
    rw [tot_bd1]
    refine (sign_m (c := 44) y1 y2 (by decide)).mono ?_
    rintro m8 ⟨f1, f2, f3⟩
    have hF8 : Fq P75 JPm m0 m8 := hF7.tr (f3.p (by simp))
    by_cases c6 : bA b L (sk b L p1) = 44
    case neg =>
      have d := f2 c6
      rw [if_neg c6] at hR
      rw [bd1_s (hi _ _ _ d)]
      exact bad1 _ m8 hR d hF8
    obtain ⟨u3, u4⟩ := f1 c6
    have x6 := bA_lt c6 (by decide)
    rw [if_pos c6] at hR
    rw [tot_bd1]
    refine (hr _ (c ++ l1) m8 u3 u4 (by rw [f3 12 0 8 (by simp) (by simp)]; exact y3) (y4.fj f3 (by decide)) (by rw [List.length_append]; omega)).mono ?_
    rintro m9 ⟨d4, d5, d6⟩
    have hF9 : Fq P75 JPm m0 m9 := hF8.tr d6
    cases hq2 : f (sk b L p1 + 1) with
    | inl e =>
      rw [bz_l hq2] at hR
      exact bad1 e m9 hR (d5 e hq2) hF9
    | inr pl =>
      obtain ⟨p2, l2⟩ := pl
      obtain ⟨y5, y6, y7, y8⟩ := d4 p2 l2 hq2
      obtain ⟨x3, x4, -⟩ := hG _ (by omega) p2 l2 hq2
      obtain ⟨s7, s8⟩ := sk_le (b := b) x4
      rw [bz_r hq2] at hR
      rw [tot_bd1]
      refine (sign_m (c := 93) y5 y6 (by decide)).mono ?_
      rintro m10 ⟨f4, f5, f6⟩
      have hF10 : Fq P75 JPm m0 m10 := hF9.tr (f6.p (by simp))
      by_cases c7 : bA b L (sk b L p2) = 93
      · obtain ⟨u5, u6⟩ := f4 c7
        have x5 := bA_lt c7 (by decide)
        rw [if_pos c7] at hR
        obtain ⟨m11, w1, w2, w3, w4, w5, w6⟩ := notesM (w := y) (v := 0) u5 u6 (y8.fj f6 (by decide)) (by rw [List.length_append, List.length_append]; omega)
        have v8 : m11 12 0 8 = nI (o + 1) := by
          rw [w5, f6 12 0 8 (by simp) (by simp)]
          exact y7
        have hF12 : Fj [] [(12, 8)] m11 (wr m11 12 0 8 (m11 12 0 8 - 1)) := Fj.rf.wrJ (by simp) _ _
        rw [bd1_s w1]
        rw [List.append_assoc, List.append_assoc, ← List.append_assoc l1, hy] at w2
        exact tot_some.mpr (SmM.ok hR (w3.fj hF12 (by simp) (by decide)) (by rw [wr_j (by decide)]; exact w4) (by rw [wr_eq, v8, nI_pred]) (w2.fj hF12 (by decide)) ((hF10.tr w6).wrJ (by simp) _ _))
      · have d := f5 c7
        rw [if_neg c7] at hR
        rw [bd1_s d.notes]
        exact tot_some.mpr (SmM.bad hR d.cl (hF10.wrJ (by simp) _ _))
set_option maxHeartbeats 1000000 in
theorem one_m {b : Nat → Int32} {L o p : Nat} {sub : Option (Nat → Rz)} {c : List Cd} {m : Mem} {rec : Nat → Nat → List Int32 → Mem → Option Mem} (hL : L ≤ 150) (hS : HSm b L o sub rec) (h : TM b L p m) (h5 : m 12 0 5 = 0) (h8 : m 12 0 8 = nI o) (hC : CMm c m) (hc : c.length ≤ p) : Tot (r_X12_one rec m) (SmM b L (unP b L sub p) c o m) := by
  have hp := h.2.2.1
  obtain ⟨s1, s2⟩ := sk_le (b := b) hp
  obtain ⟨-, -, -, -, -, -, -, -, x9, x10, -⟩ := six_2
  have hss : sk b L (sk b L p) = sk b L p := sk_sk hp
  unfold r_X12_one
  rw [if_pos h5, tot_bd1]
  refine (blanks_m h).mono ?_
  rintro m2 ⟨t2, g2⟩
  have v52 : m2 12 0 5 = 0 := by rw [g2 12 0 5 (by simp) (by simp)]; exact h5
  rw [tot_bd2]
  refine (isWord_m t2 v52).mono ?_
  rw [hss, x9]
  rintro ⟨z3, m3⟩ ⟨a1, a2, a3, a4⟩
  dsimp only at a1 a2 a3 a4 ⊢
  have F3 : Fj [] [(12, 4)] m m3 := g2.tr a4
  have v8 : ∀ m', Fj [] [(12, 4)] m m' → m' 12 0 8 = nI o ∧ CMm c m' ∧ Fq P75 JPm m m' := fun m' hF => ⟨by rw [hF 12 0 8 (by simp) (by simp)]; exact h8, hC.fj hF (by decide), hF.p (by simp)⟩
  have lt11 : lk b L (sk b L p) < 11 → ¬ dgF (bA b L (sk b L p)) = true ∧ ¬ bA b L (sk b L p) = 40 := fun h11 => by
    by_cases hl : ltF (bA b L (sk b L p)) = true
    · exact lt_nd hl
    · have := lk_no s2 hl
      omega
  by_cases c9 : wcd b L (sk b L p) = nI (scd 15)
  · have hk : lk b L (sk b L p) = 9 := (lk_iff (i := 9) (by omega)).mp c9
    rw [a1, decide_eq_true c9, if_pos rfl]
    obtain ⟨q1, q2⟩ := lt11 (by omega)
    obtain ⟨r1, r2, r3⟩ := v8 m3 F3
    exact duo_m hL hS q1 q2 (by omega) (by omega) (by rw [hk]; rfl) a2 a3 r1 r2 hc hp r3
  rw [a1, decide_eq_false c9, if_neg (by decide), tot_bd2]
  refine (isWord_m a2 a3).mono ?_
  rw [hss, x10]
  rintro ⟨z4, m4⟩ ⟨b1, b2, b3, b4⟩
  dsimp only at b1 b2 b3 b4 ⊢
  have F4 : Fj [] [(12, 4)] m m4 := F3.tr b4
  obtain ⟨r1, r2, r3⟩ := v8 m4 F4
  by_cases c10 : wcd b L (sk b L p) = nI (scd 16)
  · have hk : lk b L (sk b L p) = 10 := (lk_iff (i := 10) (by omega)).mp c10
    rw [b1, decide_eq_true c10, if_pos rfl]
    obtain ⟨q1, q2⟩ := lt11 (by omega)
    exact duo_m hL hS q1 q2 (by omega) (by omega) (by rw [hk]; rfl) b2 b3 r1 r2 hc hp r3
  rw [b1, decide_eq_false c10, if_neg (by decide)]
  have n9 : ¬ lk b L (sk b L p) = 9 := fun q => c9 ((lk_iff (i := 9) (by omega)).mpr q)
  have n10 : ¬ lk b L (sk b L p) = 10 := fun q => c10 ((lk_iff (i := 10) (by omega)).mpr q)
  have hle : lk b L (sk b L p) ≤ 11 := fa_first_le _ _
  by_cases h40 : bA b L (sk b L p) = 40
  · exact paren_m hL hS (by rw [h40]; decide) h40 b2 b3 r1 r2 hc hp r3
  unfold r_X12_one_j56
  rw [if_pos rfl, b2.2.1, bd1_s (byteAt_m b2 (by omega)), if_neg h40, tot_bd2]
  refine (known_m b2 hss b3).mono ?_
  rintro ⟨z5, m5⟩ ⟨d1, d2, d3, d4⟩
  dsimp only at d1 d2 d3 d4 ⊢
  have F5 : Fj [] [(12, 4)] m m5 := F4.tr d4
  obtain ⟨r4, r5, r6⟩ := v8 m5 F5
  by_cases h9 : lk b L (sk b L p) < 9
  · obtain ⟨e1, e2⟩ := d1 h9
    obtain ⟨q1, q2⟩ := lt11 (by omega)
    have hR : unP b L sub p = .inr (wE b L (sk b L p), [(1, nI (lk b L (sk b L p)))]) := by
      unfold unP
      rw [if_neg q1, if_neg q2, if_pos h9]
    have hlt : sk b L p < L := by
      by_cases hx : sk b L p < L
      · exact hx
      · have hl : ¬ ltF (bA b L (sk b L p)) = true := by
          rw [bA_out hx]
          decide
        have := lk_no s2 hl
        omega
    obtain ⟨m6, w1, w2, w3, w4, w5, w6⟩ := notesM (w := 1) (v := nI (lk b L (sk b L p))) e2 d3 r5 (by omega)
    rw [e1, if_neg (m1_ne (by omega)), bd1_s w1]
    exact tot_some.mpr (SmM.ok hR w3 w4 (w5.trans r4) w2 (r6.tr w6))
  obtain ⟨e1, e2⟩ := d2 h9
  rw [if_pos e1, tot_bd2]
  refine (number_m e2 d3).mono ?_
  rw [hss]
  rintro ⟨z6, m6⟩ ⟨f1, f2, f3⟩
  dsimp only at f1 f2 f3 ⊢
  have hF6 : Fq P75 JPm m m6 := r6.tr (f3.p (by simp))
  by_cases e0 : nmE b L 0 999 (sk b L p) = 0
  · obtain ⟨u1, u2, u3⟩ := f1 e0
    have hd : dgF (bA b L (sk b L p)) = true := by
      by_cases hd : dgF (bA b L (sk b L p)) = true
      · exact hd
      · unfold nmE at e0
        rw [if_neg hd] at e0
        exact absurd e0 (by decide)
    have hx := (nm_in e0).2.2
    have hnL : nmN b L (sk b L p) ≤ L := rn_le s2
    have hR : unP b L sub p = .inr (nmN b L (sk b L p), [(0, nmV b L (sk b L p))]) := by
      unfold unP
      rw [if_pos hd, if_pos e0]
    obtain ⟨m7, w1, w2, w3, w4, w5, w6⟩ := notesM (w := 0) (v := z6) u2 u3 (r5.fj f3 (by decide)) (by omega)
    rw [u1] at w2
    rw [bd1_s w1]
    exact tot_some.mpr (SmM.ok hR w3 w4 (by rw [w5, f3 12 0 8 (by simp) (by simp)]; exact r4) w2 (hF6.tr w6))
  · obtain ⟨u1, u2⟩ := f2 e0
    have hR : unP b L sub p = .inl (nmE b L 0 999 (sk b L p), sk b L p) := by
      unfold unP
      by_cases hd : dgF (bA b L (sk b L p)) = true
      · rw [if_pos hd, if_neg e0]
      · have e1 : nmE b L 0 999 (sk b L p) = 1 := by
          unfold nmE
          rw [if_neg hd]
        rw [if_neg hd, if_neg h40, if_neg h9, if_neg (by omega), e1]
    rw [bd1_s u2.notes]
    exact tot_some.mpr (SmM.bad hR u2 hF6)
theorem FtM.one {b : Nat → Int32} {L e : Nat} {k : Int32} {m : Mem} {rec : Nat → Nat → List Int32 → Mem → Option Mem} (h : FtM b L k e m) : r_X12_one rec m = some m := by
  unfold r_X12_one
  rw [if_neg (by rw [h.1]; exact h.2.1)]
theorem FtM.sum3 {b : Nat → Int32} {L e : Nat} {k : Int32} {m : Mem} (h : FtM b L k e m) (g : Nat) : rec_sum (((g + 1) + 1) + 1) 0 0 [] m = some m :=
  h.sum (rec := rec_sum ((g + 1) + 1)) (h.product (rec := rec_sum (g + 1)) (h.one (rec := rec_sum g)))
theorem sumAll_m {b : Nat → Int32} {L : Nat} (hL : L ≤ 150) : ∀ d g, d ≤ 6 → ∀ p c m, TM b L p m → m 12 0 5 = 0 → m 12 0 8 = nI (6 - d) → CMm c m → c.length ≤ p → Tot (rec_sum (3 * d + g + 3) 0 0 [] m) (SmM b L (sP b L d p) c (6 - d) m) := by
  intro d
  induction d with
  | zero =>
    intro g hd p c m h h5 h8 hC hc
    have hS : HSm b L 6 none (rec_sum g) := ⟨by omega, fun h => by omega, fun _ => rfl⟩
    rw [show 3 * 0 + g + 3 = ((g + 1) + 1) + 1 by omega]
    exact sum_m hL (Gd.pr hS.gd) (fun p c m h h5 h8 hC hc => prod_m hL (Gd.un hS.gd) (fun p c m h h5 h8 hC hc => one_m hL hS h h5 h8 hC hc) h h5 h8 hC hc) h h5 h8 hC hc
  | succ d ih =>
    intro g hd p c m h h5 h8 hC hc
    have hS : HSm b L (6 - (d + 1)) (some (sP b L d)) (rec_sum (3 * d + g + 3)) := ⟨by omega, fun _ => ⟨_, rfl, Gd.s d, fun p c m h h5 h8 hC hc => by
      rw [show 6 - (d + 1) + 1 = 6 - d by omega] at h8 ⊢
      exact ih g (by omega) p c m h h5 h8 hC hc, fun k e m h => by
      rw [show 3 * d + g + 3 = (((3 * d + g) + 1) + 1) + 1 by omega]
      exact h.sum3 _⟩, fun h => by omega⟩
    rw [show 3 * (d + 1) + g + 3 = (((3 * d + g + 3) + 1) + 1) + 1 by omega]
    exact sum_m hL (Gd.pr hS.gd) (fun p c m h h5 h8 hC hc => prod_m hL (Gd.un hS.gd) (fun p c m h h5 h8 hC hc => one_m hL hS h h5 h8 hC hc) h h5 h8 hC hc) h h5 h8 hC hc
