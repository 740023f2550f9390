/-! ===== work's text: the reference's steps ===== -/
set_option maxHeartbeats 1000000 in
theorem whoS_m {b : Nat → Int32} {L i o s k : Nat} {w : Wd} {sub : Option (Nat → Nat → Rs)} {rec : Nat → Nat → List Int32 → Mem → Option Mem} {m m1 : Mem} (hW : WF w) (hs : sk b L s = s) (hk : k < 3) (hl : lw b L s = k) (h : Gm b L w i (i + 1) o (wE b L s) m m1) (h0 : m1 81 i 0 = nI k) : Tot (bd2 (r_X12_number 0 (nI (wN w) - 1) m1) fun z48 m47 => (r_X12_readsStep_j89 rec (nI k) i (wr m47 81 i 1 z48))) (SsM b L (stP b L w sub i s) i o m) := by
  have hP := hW.1
  rw [tot_bd2]
  refine (number_m h.1 h.2.1).mono ?_
  rintro ⟨z, m2⟩ ⟨g1, g2, g3⟩
  dsimp only at g1 g2 g3 ⊢
  by_cases e1 : nmE b L 0 (nI (wN w) - 1) (k1 b L s) = 0
  case neg =>
    have hB : stB b L w sub i s = .inl (nmE b L 0 (nI (wN w) - 1) (k1 b L s), k1 b L s) := by
      unfold stB
      by_cases c0 : lw b L s = 0
      · rw [if_pos c0, if_neg e1]
      · rw [if_neg c0, if_pos (by omega), if_neg e1]
    obtain ⟨-, d⟩ := g2 e1
    exact (h.bt (e := (nmE b L 0 (nI (wN w) - 1) (k1 b L s), k1 b L s)) d g3).w.t89.mono (fun m' hb => hb.ss (stP_l hs hB))
  obtain ⟨v1, v2, v3⟩ := g1 e1
  have h2 := (h.fj v2 v3 g3 (fun q hq => hq)).w (c := 1) (x := z)
  have o2 : m2 81 i = m1 81 i := g3.rw' 81 i (by simp) (by decide)
  have q0 : wr m2 81 i 1 z 81 i 0 = nI k := by rw [wr_j (by decide), o2]; exact h0
  have q1 : wr m2 81 i 1 z 81 i 1 = nmV b L (k1 b L s) := by rw [wr_eq]; exact v1
  generalize wr m2 81 i 1 z = m3 at h2 q0 q1 ⊢
  unfold r_X12_readsStep_j89
  rw [if_neg (show ¬ (4 : Int32) ≤ nI (k) from nI_ge (b := 4) (a := k) (by omega) (by omega)), tot_bd2]
  have hp52 : m3 52 0 0 = nI (wP w) := by
    have := congrFun (congrFun h2.2.2.2.2.1 0) 0
    exact this.trans hP.1
  refine (plc_m h2.1 h2.2.1 hp52).mono ?_
  rintro ⟨z4, m4⟩ ⟨f1, f2, f3⟩
  dsimp only at f1 f2 f3 ⊢
  by_cases e2 : nmE b L 0 (nI (wP w) - 1) (k2 b L s) = 0
  case neg =>
    have hB : stB b L w sub i s = .inl (nmE b L 0 (nI (wP w) - 1) (k2 b L s), k2 b L s) := by
      unfold stB
      by_cases c0 : lw b L s = 0
      · rw [if_pos c0, if_pos e1, if_neg e2]
      · rw [if_neg c0, if_pos (by omega), if_pos e1, if_neg e2]
    obtain ⟨-, d⟩ := f2 e2
    exact (h2.bt (e := (nmE b L 0 (nI (wP w) - 1) (k2 b L s), k2 b L s)) d f3).w.t101.mono (fun m' hb => hb.ss (stP_l hs hB))
  obtain ⟨u1, u2, u3⟩ := f1 e2
  obtain ⟨a, ha, ea⟩ := nm_k (by omega) e2
  have h4 := (h2.fj u2 u3 f3 (fun q hq => hq)).w (c := 2) (x := z4)
  have o4 : m4 81 i = m3 81 i := f3.rw' 81 i (by simp) (by decide)
  have r0 : wr m4 81 i 2 z4 81 i 0 = nI k := by rw [wr_j (by decide), o4]; exact q0
  have r1 : wr m4 81 i 2 z4 81 i 1 = nmV b L (k1 b L s) := by rw [wr_j (by decide), o4]; exact q1
  have r2 : wr m4 81 i 2 z4 81 i 2 = nmV b L (k2 b L s) := by rw [wr_eq]; exact u1
  generalize wr m4 81 i 2 z4 = m5 at h4 r0 r1 r2 ⊢
  unfold r_X12_readsStep_j101
  by_cases c0 : k = 0
  · have x0 : nI k = 0 := by rw [c0]; rfl
    rw [if_pos x0]
    refine goal_m (v1 := nmV b L (k1 b L s)) hW h4 (r2.trans ea) (by rw [x0]; decide) r0 (Or.inl x0) (fun _ => r1) (fun e3 => stP_l hs ?_) (fun e3 => ?_)
    · unfold stB
      rw [if_pos (by omega), if_pos e1, if_pos e2, ea, clamp_nI (by omega), if_neg e3]
    · have hB : stB b L w sub i s = .inr (nmN b L (k3 b L s), [(0, nmV b L (k1 b L s), nmV b L (k2 b L s), nmV b L (k3 b L s), i + 1)]) := by
        unfold stB
        rw [if_pos (by omega), if_pos e1, if_pos e2, ea, clamp_nI (by omega), if_pos e3]
      rw [stP_r hs hB, x0, ← ea]
  · have n0 : ¬ nI k = 0 := fun q => c0 ((nI_eq (a := k) (b := 0) (by omega) (by omega)).mp q)
    have n3 : ¬ nI k = 3 := fun q => by have := (nI_eq (a := k) (b := 3) (by omega) (by omega)).mp q; omega
    have n5 : ¬ nI k = 5 := fun q => by have := (nI_eq (a := k) (b := 5) (by omega) (by omega)).mp q; omega
    rw [if_neg n0, if_neg n3]
    unfold r_X12_readsStep_j120
    rw [if_neg n5]
    have hB : stB b L w sub i s = .inr (nmN b L (k2 b L s), [(nI (lw b L s), nmV b L (k1 b L s), nmV b L (k2 b L s), 0, i + 1)]) := by
      unfold stB
      rw [if_neg (by omega), if_pos (by omega), if_pos e1, if_pos e2]
    refine j192_1 h4 ?_ (sN_mk _ _ _ _ _) (stP_r hs hB)
    unfold R4
    rw [sK_mk, sA_mk, sF_mk, hl]
    refine ⟨r0, fun _ => r1, fun _ => r2, fun e => ?_⟩
    rcases e with e | e
    · exact absurd e n0
    · exact absurd e n3
theorem digm_m {b : Nat → Int32} {L i o s : Nat} {w : Wd} {sub : Option (Nat → Nat → Rs)} {rec : Nat → Nat → List Int32 → Mem → Option Mem} {m m1 : Mem} (hW : WF w) (hs : sk b L s = s) (hl : lw b L s = 3) (h : Gm b L w i (i + 1) o (wE b L s) m m1) (h0 : m1 81 i 0 = nI 3) : Tot (r_X12_readsStep_j89 rec (nI 3) i m1) (SsM b L (stP b L w sub i s) i o m) := by
  have hP := hW.1
  unfold r_X12_readsStep_j89
  rw [if_neg (by decide), tot_bd2]
  have hp52 : m1 52 0 0 = nI (wP w) := by
    have := congrFun (congrFun h.2.2.2.2.1 0) 0
    exact this.trans hP.1
  refine (plc_m h.1 h.2.1 hp52).mono ?_
  rintro ⟨z4, m4⟩ ⟨f1, f2, f3⟩
  dsimp only at f1 f2 f3 ⊢
  by_cases e2 : nmE b L 0 (nI (wP w) - 1) (k1 b L s) = 0
  case neg =>
    have hB : stB b L w sub i s = .inl (nmE b L 0 (nI (wP w) - 1) (k1 b L s), k1 b L s) := by
      unfold stB
      rw [if_neg (by omega), if_neg (by omega), if_pos hl, if_neg e2]
    obtain ⟨-, d⟩ := f2 e2
    exact (h.bt (e := (nmE b L 0 (nI (wP w) - 1) (k1 b L s), k1 b L s)) d f3).w.t101.mono (fun m' hb => hb.ss (stP_l hs hB))
  obtain ⟨u1, u2, u3⟩ := f1 e2
  obtain ⟨a, ha, ea⟩ := nm_k (by omega) e2
  have h4 := (h.fj u2 u3 f3 (fun q hq => hq)).w (c := 2) (x := z4)
  have o4 : m4 81 i = m1 81 i := f3.rw' 81 i (by simp) (by decide)
  have r0 : wr m4 81 i 2 z4 81 i 0 = nI 3 := by rw [wr_j (by decide), o4]; exact h0
  have r2 : wr m4 81 i 2 z4 81 i 2 = nmV b L (k1 b L s) := by rw [wr_eq]; exact u1
  generalize wr m4 81 i 2 z4 = m5 at h4 r0 r2 ⊢
  unfold r_X12_readsStep_j101
  rw [if_neg (by decide), if_pos (show nI 3 = 3 from rfl)]
  refine goal_m (v1 := 0) hW h4 (r2.trans ea) (by decide) r0 (Or.inr rfl) (fun e => absurd e (by decide)) (fun e3 => stP_l hs ?_) (fun e3 => ?_)
  · unfold stB
    rw [if_neg (by omega), if_neg (by omega), if_pos hl, if_pos e2, ea, clamp_nI (by omega), if_neg e3]
  · have hB : stB b L w sub i s = .inr (nmN b L (k2 b L s), [(3, 0, nmV b L (k1 b L s), nmV b L (k2 b L s), i + 1)]) := by
      unfold stB
      rw [if_neg (by omega), if_neg (by omega), if_pos hl, if_pos e2, ea, clamp_nI (by omega), if_pos e3]
    rw [stP_r hs hB, ← ea]
    rfl
theorem stB_ne {b : Nat → Int32} {L i s p : Nat} {w : Wd} {sub : Option (Nat → Nat → Rs)} {l : List Sd} (he : stB b L w sub i s = .inr (p, l)) : 1 ≤ l.length := by
  unfold stB at he
  by_cases c0 : lw b L s = 0
  · rw [if_pos c0] at he
    by_cases g1 : nmE b L 0 (nI (wN w) - 1) (k1 b L s) = 0
    case neg =>
      rw [if_neg g1] at he
      cases he
    rw [if_pos g1] at he
    by_cases g2 : nmE b L 0 (nI (wP w) - 1) (k2 b L s) = 0
    case neg =>
      rw [if_neg g2] at he
      cases he
    rw [if_pos g2] at he
    by_cases g3 : ngE b L (wP w) (bw w (nmV b L (k2 b L s)).toNatClampNeg) (k3 b L s) = 0
    case neg =>
      rw [if_neg g3] at he
      cases he
    rw [if_pos g3] at he
    cases he
    exact Nat.le_refl _
  rw [if_neg c0] at he
  by_cases c1 : lw b L s = 1 ∨ lw b L s = 2
  · rw [if_pos c1] at he
    by_cases g1 : nmE b L 0 (nI (wN w) - 1) (k1 b L s) = 0
    case neg =>
      rw [if_neg g1] at he
      cases he
    rw [if_pos g1] at he
    by_cases g2 : nmE b L 0 (nI (wP w) - 1) (k2 b L s) = 0
    case neg =>
      rw [if_neg g2] at he
      cases he
    rw [if_pos g2] at he
    cases he
    exact Nat.le_refl _
  rw [if_neg c1] at he
  by_cases c3 : lw b L s = 3
  · rw [if_pos c3] at he
    by_cases g1 : nmE b L 0 (nI (wP w) - 1) (k1 b L s) = 0
    case neg =>
      rw [if_neg g1] at he
      cases he
    rw [if_pos g1] at he
    by_cases g3 : ngE b L (wP w) (bw w (nmV b L (k1 b L s)).toNatClampNeg) (k2 b L s) = 0
    case neg =>
      rw [if_neg g3] at he
      cases he
    rw [if_pos g3] at he
    cases he
    exact Nat.le_refl _
  rw [if_neg c3] at he
  by_cases c4 : lw b L s = 4
  · rw [if_pos c4] at he
    cases he
    exact Nat.le_refl _
  rw [if_neg c4] at he
  by_cases c5 : lw b L s = 5
  case neg =>
    rw [if_neg c5] at he
    cases he
  rw [if_pos c5] at he
  match sub, he with
  | none, he => cases he
  | some f, he =>
    have he' : (if nmE b L 0 60 (k1 b L s) = 0 then (if bA b L (k2 b L s) = 91 then bs (f (i + 1) (k2 b L s + 1)) fun p1 l1 => if bA b L (sk b L p1) = 93 then .inr (sk b L p1 + 1, (5, nmV b L (k1 b L s), 0, 0, i + 1 + l1.length) :: l1) else .inl (1, sk b L p1) else .inl (1, k2 b L s)) else (.inl (nmE b L 0 60 (k1 b L s), k1 b L s) : Rs)) = .inr (p, l) := he
    by_cases g1 : nmE b L 0 60 (k1 b L s) = 0
    case neg =>
      rw [if_neg g1] at he'
      cases he'
    rw [if_pos g1] at he'
    by_cases g2 : bA b L (k2 b L s) = 91
    case neg =>
      rw [if_neg g2] at he'
      cases he'
    rw [if_pos g2] at he'
    obtain ⟨p1, l1, e1, e2⟩ := bs_ok he'
    by_cases g3 : bA b L (sk b L p1) = 93
    case neg =>
      rw [if_neg g3] at e2
      cases e2
    rw [if_pos g3] at e2
    cases e2
    exact Nat.succ_le_succ (Nat.zero_le _)
theorem stP_ne {b : Nat → Int32} {L i s p : Nat} {w : Wd} {sub : Option (Nat → Nat → Rs)} {l : List Sd} (he : stP b L w sub i s = .inr (p, l)) : 1 ≤ l.length := by
  unfold stP at he
  obtain ⟨p0, l0, f1, f2⟩ := bs_ok he
  by_cases g3 : bA b L (sk b L p0) = 59
  · rw [if_pos g3] at f2
    cases f2
    exact stB_ne f1
  · rw [if_neg g3] at f2
    cases f2
theorem SsM.cat {b : Nat → Int32} {L i o : Nat} {R R2 : Rs} {l1 : List Sd} {m m2 m' : Mem} (h : SsM b L R2 (i + l1.length) o m2 m') (hR : R = bs R2 fun p2 l2 => .inr (p2, l1 ++ l2)) (h1 : ∀ j, j < l1.length → RR m2 (i + j) (tf l1 j)) (hl : LoM i m m2) (hF : Fq P81 JSm m m2) : SsM b L R i o m m' := by
  obtain ⟨a1, a2, a3, a4⟩ := h
  match R2, a1, a2, hR with
  | .inl e, a1, a2, hR =>
    have hR' : R = .inl e := hR
    rw [hR']
    exact ⟨fun p l e => (by cases e), a2, hl.tr (a3.mono (by omega)), hF.tr a4⟩
  | .inr (p2, l2), a1, a2, hR =>
    have hR' : R = .inr (p2, l1 ++ l2) := hR
    rw [hR']
    refine ⟨fun p l e => ?_, fun e he => (by cases he), hl.tr (a3.mono (by omega)), hF.tr a4⟩
    cases e
    obtain ⟨b1, b2, b3, b4, b5⟩ := a1 p2 l2 rfl
    refine ⟨b1, b2, b3, by rw [b4, List.length_append, Nat.add_assoc], fun j hj => ?_⟩
    rw [List.length_append] at hj
    by_cases hj1 : j < l1.length
    · rw [tf_lo hj1]
      exact (h1 j hj1).c (a3 _ (by omega))
    · have e1 : j = l1.length + (j - l1.length) := by omega
      rw [e1, tf_off, ← Nat.add_assoc]
      exact b5 _ (by omega)
/-- the reference at a step's beginning -/
def Bm (b : Nat → Int32) (L : Nat) (w : Wd) (i o s : Nat) (m : Mem) : Prop := TM b L s m ∧ m 12 0 5 = 0 ∧ m 12 0 8 = nI o ∧ m 12 0 30 = nI i ∧ mW m = w
theorem Bm.gm {b : Nat → Int32} {L i o s : Nat} {w : Wd} {m : Mem} (h : Bm b L w i o s m) : Gm b L w i i o s m m := ⟨h.1, h.2.1, h.2.2.1, h.2.2.2.1, h.2.2.2.2, LoM.rf, Fq.rf⟩
/-- a step was read, and the blanks behind it -/
theorem nextS_m {b : Nat → Int32} {L i o p : Nat} {w : Wd} {R : Rs} {m m2 : Mem} (hw : mW m = w) (h : SsM b L R i o m m2) : Tot (r_X12_blanks m2) (fun m3 => (∀ p l, R = .inr (p, l) → Bm b L w (i + l.length) o (sk b L p) m3 ∧ ∀ j, j < l.length → RR m3 (i + j) (tf l j)) ∧ (∀ e, R = .inl e → FtM b L e.1 e.2 m3) ∧ LoM i m m3 ∧ Fq P81 JSm m m3) := by
  obtain ⟨a1, a2, a3, a4⟩ := h
  cases hR : R with
  | inl e =>
    refine (a2 e hR).bl.mono ?_
    rintro m3 ⟨d1, d2⟩
    exact ⟨fun p l e => (by cases e), fun e' he => by cases he; exact d1, a3.tr (LoM.of d2 (by decide)), a4.tr (d2.p (by simp))⟩
  | inr pl =>
    obtain ⟨p1, l1⟩ := pl
    obtain ⟨b1, b2, b3, b4, b5⟩ := a1 p1 l1 hR
    refine (blanks_m b1).mono ?_
    rintro m3 ⟨d1, d2⟩
    refine ⟨fun p l e => ?_, fun e he => (by cases he), a3.tr (LoM.of d2 (by decide)), a4.tr (d2.p (by simp))⟩
    cases e
    refine ⟨⟨d1, by rw [d2 12 0 5 (by simp) (by simp)]; exact b2, by rw [d2 12 0 8 (by simp) (by simp)]; exact b3, by rw [d2 12 0 30 (by simp) (by simp)]; exact b4, ?_⟩, fun j hj => (b5 j hj).c (d2.rw' 81 _ (by simp) (by decide))⟩
    rw [mW_fj d2 (by simp) (by decide), mW_fq a4 rfl rfl]
    exact hw
set_option maxHeartbeats 1000000 in
theorem lsq_m {b : Nat → Int32} {L o d i2 : Nat} {w : Wd} {sub : Option (Nat → Nat → Rs)} {rec : Nat → Nat → List Int32 → Mem → Option Mem} (hL : L ≤ 150) (hG : Gs L w d (stP b L w sub)) (HU : ∀ i s m, Bm b L w i o s m → sk b L s = s → 4 * i ≤ s → Tot (rec 0 0 [] m) (SsM b L (stP b L w sub i s) i o m)) : ∀ k i p m, 151 ≤ k + p → p ≤ L → Bm b L w i o (sk b L p) m → 4 * i ≤ p → Tot (loopO (fun s => r_X12_readsStep_b145 rec i2 s) m) (SsM b L (lsP b L (stP b L w sub) 93 k i p) i o m) := by
  intro k
  induction k with
  | zero =>
    intro i p m hk hp
    omega
  | succ k ih =>
    intro i p m hk hp hB h4
    obtain ⟨s1, s2⟩ := sk_le (b := b) hp
    obtain ⟨t, h5, h8, h30, hw⟩ := id hB
    refine tot_step ?_
    unfold r_X12_readsStep_b145
    rw [if_pos h5, t.2.1, bd1_s (byteAt_m t (by omega))]
    by_cases e : bA b L (sk b L p) = 93
    · rw [if_pos e]
      refine tot_some.mpr ?_
      have hR : lsP b L (stP b L w sub) 93 (k + 1) i p = .inr (sk b L p, []) := by
        unfold lsP
        rw [if_pos e]
      show SsM b L _ i o m m
      rw [hR]
      exact ⟨fun p l e => by cases e; exact ⟨t, h5, h8, h30, fun j hj => absurd hj (Nat.not_lt_zero j)⟩, fun e he => (by cases he), LoM.rf, Fq.rf⟩
    rw [if_neg e, tot_bd1]
    have hu := HU i (sk b L p) m hB (sk_sk hp) (by omega)
    rw [stP_sk hp] at hu
    refine hu.mono ?_
    intro m2 hm2
    rw [tot_bd1]
    refine (nextS_m (p := p) hw hm2).mono ?_
    rintro m3 ⟨a1, a2, a3, a4⟩
    refine tot_some.mpr ?_
    show Tot (loopO (fun s => r_X12_readsStep_b145 rec i2 s) m3) (SsM b L (lsP b L (stP b L w sub) 93 (k + 1) i p) i o m)
    cases hf : stP b L w sub i p with
    | inl e' =>
      have d := a2 e' hf
      have hR : lsP b L (stP b L w sub) 93 (k + 1) i p = .inl e' := by
        show (if bA b L (sk b L p) = 93 then _ else _) = _
        rw [if_neg e, bs_l hf]
      refine tot_step ?_
      unfold r_X12_readsStep_b145
      rw [if_neg (by rw [d.1]; exact d.2.1)]
      refine tot_some.mpr ?_
      exact BT.ss ⟨d, a3, a4⟩ hR
    | inr pl =>
      obtain ⟨p1, l1⟩ := pl
      obtain ⟨b1, b2⟩ := a1 p1 l1 hf
      obtain ⟨x1, x2, -⟩ := hG i p hp p1 l1 hf
      have hR : lsP b L (stP b L w sub) 93 (k + 1) i p = bs (lsP b L (stP b L w sub) 93 k (i + l1.length) p1) fun p2 l2 => .inr (p2, l1 ++ l2) := by
        show (if bA b L (sk b L p) = 93 then _ else _) = _
        rw [if_neg e, bs_r hf]
      have hlen := stP_ne hf
      refine (ih (i + l1.length) p1 m3 (by omega) x2 b1 (by omega)).mono ?_
      intro m4 hm4
      exact hm4.cat hR b2 a3 a4
/-- what is inside brackets -/
def HTm (b : Nat → Int32) (L : Nat) (w : Wd) (o : Nat) (sub : Option (Nat → Nat → Rs)) (rec : Nat → Nat → List Int32 → Mem → Option Mem) : Prop := o ≤ 6 ∧ (o < 6 → ∃ sub', sub = some (lsP b L (stP b L w sub') 93 150) ∧ Gs L w (5 - o) (stP b L w sub') ∧ ∀ i s m, Bm b L w i (o + 1) s m → sk b L s = s → 4 * i ≤ s → Tot (rec 0 0 [] m) (SsM b L (stP b L w sub' i s) i (o + 1) m)) ∧ (o = 6 → sub = none)
set_option maxHeartbeats 2000000 in
theorem again_m {b : Nat → Int32} {L i o s : Nat} {w : Wd} {sub : Option (Nat → Nat → Rs)} {rec : Nat → Nat → List Int32 → Mem → Option Mem} {m m1 : Mem} (hL : L ≤ 150) (hs : sk b L s = s) (hsL : s ≤ L) (h4 : 4 * i ≤ s) (hl : lw b L s = 5) (ho : o < 6) (hT : HTm b L w o sub rec) (h : Gm b L w i (i + 1) (o + 1) (wE b L s) m m1) (h0 : m1 81 i 0 = nI 5) : Tot (r_X12_readsStep_j89 rec (nI 5) i m1) (SsM b L (stP b L w sub i s) i o m) := by
  obtain ⟨sub', hsub, hG, hr⟩ := hT.2.1 ho
  obtain ⟨u1, u2, u3, u4, u5, -⟩ := k_up (b := b) hsL
  obtain ⟨w1, w2, -⟩ := lw_3 hsL (show lw b L s < 6 by omega)
  have hB : stB b L w sub i s = if nmE b L 0 60 (k1 b L s) = 0 then
        (if bA b L (k2 b L s) = 91 then bs (lsP b L (stP b L w sub') 93 150 (i + 1) (k2 b L s + 1)) fun p1 l1 => if bA b L (sk b L p1) = 93 then .inr (sk b L p1 + 1, (5, nmV b L (k1 b L s), 0, 0, i + 1 + l1.length) :: l1) else .inl (1, sk b L p1)
        else .inl (1, k2 b L s))
      else .inl (nmE b L 0 60 (k1 b L s), k1 b L s) := by
    unfold stB
    rw [if_neg (by omega), if_neg (by omega), if_neg (by omega), if_neg (by omega), if_pos hl, hsub]
  unfold r_X12_readsStep_j89 r_X12_readsStep_j101 r_X12_readsStep_j120
  rw [if_pos (by decide), if_neg (by decide), if_neg (by decide), if_pos (show nI 5 = 5 from rfl), tot_bd2]
  refine (number_m h.1 h.2.1).mono ?_
  rintro ⟨z, m2⟩ ⟨g1, g2, g3⟩
  dsimp only at g1 g2 g3 ⊢
  have tail : ∀ (e : Int32 × Nat) (m9 : Mem), stB b L w sub i s = .inl e → BT b L e i m m9 → Tot (r_X12_readsStep_j176 rec i m9) (SsM b L (stP b L w sub i s) i o m) := fun e m9 hE hb => by
    unfold r_X12_readsStep_j176
    rw [bd1_s hb.1.sign]
    exact (hb.fj hb.1.cl (Fj.rf.wrJ (J := [(12, 8)]) (by simp) _ _) (by simp)).t192.mono (fun m' hb' => hb'.ss (stP_l hs hE))
  have loopd : ∀ (e : Int32 × Nat) (m9 : Mem), stB b L w sub i s = .inl e → BT b L e i m m9 → Tot (r_X12_readsStep_l145 rec i m9) (SsM b L (stP b L w sub i s) i o m) := fun e m9 hE hb => by
    unfold r_X12_readsStep_l145
    rw [tot_bd1]
    refine tot_step ?_
    unfold r_X12_readsStep_b145
    rw [if_neg (by rw [hb.1.1]; exact hb.1.2.1)]
    refine tot_some.mpr ?_
    show Tot (r_X12_readsStep_e176_h145 rec i m9) _
    unfold r_X12_readsStep_e176_h145
    exact tail e m9 hE hb
  by_cases e1 : nmE b L 0 60 (k1 b L s) = 0
  case neg =>
    rw [if_neg e1] at hB
    obtain ⟨-, d⟩ := g2 e1
    have hb := (h.bt (e := (nmE b L 0 60 (k1 b L s), k1 b L s)) d g3).w (c := 1) (x := z)
    rw [bd1_s hb.1.sign, tot_bd1]
    refine hb.1.bl.mono ?_
    rintro m3 ⟨d3, f3⟩
    exact loopd _ m3 hB (hb.fj d3 f3 (by simp))
  obtain ⟨v1, v2, v3⟩ := g1 e1
  have zz := (nm_in e1).2.2
  rw [if_pos e1] at hB
  have h2 := (h.fj v2 v3 g3 (fun q hq => hq)).w (c := 1) (x := z)
  have o2 : m2 81 i = m1 81 i := g3.rw' 81 i (by simp) (by decide)
  have q0 : wr m2 81 i 1 z 81 i 0 = nI 5 := by rw [wr_j (by decide), o2]; exact h0
  have q1 : wr m2 81 i 1 z 81 i 1 = nmV b L (k1 b L s) := by rw [wr_eq]; exact v1
  generalize wr m2 81 i 1 z = m3 at h2 q0 q1 ⊢
  rw [tot_bd1]
  refine (sign_m (c := 91) h2.1 h2.2.1 (by decide)).mono ?_
  rintro m4 ⟨s1, s2, s3⟩
  rw [tot_bd1]
  by_cases c5 : bA b L (k2 b L s) = 91
  case neg =>
    rw [if_neg c5] at hB
    have hb := h2.bt (e := (1, k2 b L s)) (s2 c5) s3
    refine hb.1.bl.mono ?_
    rintro m5 ⟨d3, f3⟩
    exact loopd _ m5 hB (hb.fj d3 f3 (by simp))
  obtain ⟨x1, x2⟩ := s1 c5
  have x5 := bA_lt c5 (by decide)
  rw [if_pos c5] at hB
  have h4' := h2.fj x1 x2 s3 (fun q hq => hq)
  refine (blanks_m x1).mono ?_
  rintro m5 ⟨t5, f5⟩
  have h5 := h4'.fj t5 (by rw [f5 12 0 5 (by simp) (by simp)]; exact x2) f5 (by decide)
  have o5 : m5 81 i = m3 81 i := (f5.rw' 81 i (by simp) (by decide)).trans (s3.rw' 81 i (by simp) (by decide))
  unfold r_X12_readsStep_l145
  rw [tot_bd1]
  have lp := lsq_m (i2 := i) hL hG hr 150 (i + 1) (k2 b L s + 1) m5 (by omega) (by omega) ⟨h5.1, h5.2.1, h5.2.2.1, h5.2.2.2.1, h5.2.2.2.2.1⟩ (by omega)
  refine lp.mono ?_
  rintro m6 ⟨y1, y2, y3, y4⟩
  unfold r_X12_readsStep_e176_h145
  have l6 : LoM i m m6 := h5.2.2.2.2.2.1.tr (y3.mono (by omega))
  have F6 : Fq P81 JSm m m6 := h5.2.2.2.2.2.2.tr y4
  cases hf : lsP b L (stP b L w sub') 93 150 (i + 1) (k2 b L s + 1) with
  | inl e =>
    rw [bs_l hf] at hB
    exact tail e m6 hB ⟨y2 e hf, l6, F6⟩
  | inr pl =>
    obtain ⟨p1, l1⟩ := pl
    obtain ⟨z1, z2, z3, z4, z5⟩ := y1 p1 l1 hf
    rw [bs_r hf] at hB
    have h6 : Gm b L w i (i + (l1.length + 1)) (o + 1) p1 m m6 := ⟨z1, z2, z3, by rw [z4]; exact congrArg nI (by omega), (mW_fq y4 rfl rfl).trans h5.2.2.2.2.1, l6, F6⟩
    have r0 : m6 81 i = m5 81 i := y3 i (by omega)
    unfold r_X12_readsStep_j176
    rw [tot_bd1]
    refine (sign_m (c := 93) z1 z2 (by decide)).mono ?_
    rintro m7 ⟨s4, s5, s6⟩
    have r7 : ∀ j, m7 81 j = m6 81 j := fun j => s6.rw' 81 j (by simp) (by decide)
    by_cases c6 : bA b L (sk b L p1) = 93
    · obtain ⟨x3, x4⟩ := s4 c6
      rw [if_pos c6] at hB
      obtain ⟨a1, a2, a3, a4, a5, a6, a7⟩ := h6.fj x3 x4 s6 (fun q hq => hq)
      have hF8 : Fj [] [(12, 8)] m7 (wr m7 12 0 8 (m7 12 0 8 - 1)) := Fj.rf.wrJ (by simp) _ _
      have r8 : ∀ j, wr m7 12 0 8 (m7 12 0 8 - 1) 81 j = m6 81 j := fun j => by
        rw [← r7 j]
        funext c
        exact wr_k (by decide)
      have h8 : Gm b L w i (i + (l1.length + 1)) o (sk b L p1 + 1) m (wr m7 12 0 8 (m7 12 0 8 - 1)) := ⟨a1.fj hF8 (by simp) (by decide), by rw [wr_j (by decide)]; exact a2, by rw [wr_eq, a3, nI_pred], by rw [wr_j (by decide)]; exact a4, (mW_fj hF8 (by simp) (by decide)).trans a5, a6.wk (by decide), a7.wrJ (by simp) _ _⟩
      refine j192_m h8 (x := (5, nmV b L (k1 b L s), 0, 0, i + 1 + l1.length)) (t := l1) ?_ (by rw [sN_mk]; omega) (fun j hj => (z5 j hj).c (r8 _)) (stP_r hs hB)
      unfold R4
      rw [sK_mk, sA_mk, r8 i, r0, o5]
      exact ⟨q0, fun _ => q1, fun e => absurd e (by decide), fun e => absurd e (by decide)⟩
    · rw [if_neg c6] at hB
      have hb := h6.bt (e := (1, sk b L p1)) (s5 c6) s6
      exact (hb.fj hb.1.cl (Fj.rf.wrJ (J := [(12, 8)]) (by simp) _ _) (by simp)).t192.mono (fun m' hb' => hb'.ss (stP_l hs hB))
set_option maxHeartbeats 1000000 in
theorem stepM {b : Nat → Int32} {L i o s : Nat} {w : Wd} {sub : Option (Nat → Nat → Rs)} {rec : Nat → Nat → List Int32 → Mem → Option Mem} {m : Mem} (hW : WF w) (hL : L ≤ 150) (hT : HTm b L w o sub rec) (h : Bm b L w i o s m) (hs : sk b L s = s) (h4 : 4 * i ≤ s) : Tot (r_X12_readsStep rec m) (SsM b L (stP b L w sub i s) i o m) := by
  have hsL := h.1.2.2.1
  have ho6 := hT.1
  have hN := hW.2.2.1
  unfold r_X12_readsStep
  rw [tot_bd2]
  refine (stepH_m h.1 hs h.2.1).mono ?_
  rintro ⟨z, m2⟩ ⟨g1, g2, g3, g4⟩
  dsimp only at g1 g2 g3 g4 ⊢
  have h2 : Gm b L w i i o s m m2 := h.gm.fj g2 g3 g4 (by simp)
  by_cases c6 : lw b L s < 6
  case neg =>
    rw [if_neg c6] at g1
    obtain ⟨mw, w1, w2, w3⟩ := wrong_m (e := s) (k := 1) g2 g3 (by decide)
    have hB : stB b L w sub i s = .inl (1, s) := by
      have := lw_le b L s
      unfold stB
      rw [if_neg (by omega), if_neg (by omega), if_neg (by omega), if_neg (by omega), if_neg (by omega)]
    rw [if_pos g1, g2.2.1, bd1_s w1]
    unfold r_X12_readsStep_j19 r_X12_readsStep_j32
    rw [if_neg (by rw [g1]; decide), if_neg (by rw [w2.1]; exact w2.2.1)]
    exact tot_some.mpr ((h2.bt (e := (1, s)) w2 (w3.mono (by simp) (by simp))).ss (stP_l hs hB))
  rw [if_pos c6] at g1
  obtain ⟨x1, x2, -⟩ := lw_3 hsL c6
  rw [if_neg (by rw [g1]; exact m1_ne (by omega)), g1]
  have body : ∀ (o' : Nat) (m3 : Mem), Gm b L w i i o' s m m3 → (∀ m9, Gm b L w i (i + 1) o' (wE b L s) m m9 → m9 81 i 0 = nI (lw b L s) → Tot (if 3 ≤ nI (lw b L s) then r_X12_readsStep_j89 rec (nI (lw b L s)) i m9 else (bd2 (r_X12_number 0 (nI (wN w) - 1) m9) fun z48 m47 => (r_X12_readsStep_j89 rec (nI (lw b L s)) i (wr m47 81 i 1 z48)))) (SsM b L (stP b L w sub i s) i o m)) → Tot (r_X12_readsStep_j32 rec (nI (lw b L s)) m3) (SsM b L (stP b L w sub i s) i o m) := fun o' m3 h3 hgo => by
    unfold r_X12_readsStep_j32
    rw [if_pos h3.2.1, tot_bd1]
    refine (skipW_m h3.1).mono ?_
    rintro m4 ⟨t4, f4⟩
    obtain ⟨a1, a2, a3, a4, a5, a6, a7⟩ := h3.fj t4 (by rw [f4 12 0 5 (by simp) (by simp)]; exact h3.2.1) f4 (by simp)
    have n52 : m4 52 0 2 = nI (wN w) := (congrFun (congrFun a5 0) 2).trans hN.1
    rw [a4, if_pos (inb_nI (by omega) (by omega)), clamp_nI (by omega), n52]
    have hF5 : Fj [] [(12, 30)] m4 (wr m4 12 0 30 (nI i + 1)) := Fj.rf.wrJ (by simp) _ _
    have h5 : Gm b L w i (i + 1) o' (wE b L s) m (wr m4 12 0 30 (nI i + 1)) := ⟨a1.fj hF5 (by simp) (by decide), by rw [wr_j (by decide)]; exact a2, by rw [wr_j (by decide)]; exact a3, by rw [wr_eq, nI_succ], (mW_fj hF5 (by simp) (by decide)).trans a5, a6.wk (by decide), a7.wrJ (by simp) _ _⟩
    exact hgo _ (h5.w (c := 0) (x := nI (lw b L s))) (wr_eq _ _ _ _ _)
  unfold r_X12_readsStep_j19
  by_cases c5 : lw b L s = 5
  · rw [if_pos (show nI (lw b L s) = 5 by rw [c5]; rfl), tot_bd2]
    refine (opens_m g2 g3 h2.2.2.1 ho6).mono ?_
    rintro ⟨z10, m9⟩ ⟨a1, a2, a3⟩
    dsimp only at a1 a2 a3 ⊢
    have l9 : LoM i m m9 := h2.2.2.2.2.2.1.tr (LoM.of a3 (by decide))
    have F9 : Fq P81 JSm m m9 := h2.2.2.2.2.2.2.tr (a3.p (by simp))
    by_cases ho : o = 6
    · obtain ⟨b1, b2⟩ := a1 ho
      have hB : stB b L w sub i s = .inl (3, s) := by
        unfold stB
        rw [if_neg (by omega), if_neg (by omega), if_neg (by omega), if_neg (by omega), if_pos c5, hT.2.2 ho]
      rw [if_neg (by rw [b1]; decide)]
      exact tot_some.mpr (BT.ss (e := (3, s)) ⟨b2, l9, F9⟩ (stP_l hs hB))
    · obtain ⟨b1, b2, b3, b4⟩ := a2 ho
      rw [if_pos b1]
      refine body (o + 1) m9 ⟨b2, b3, b4, by rw [a3 12 0 30 (by simp) (by simp)]; exact h2.2.2.2.1, (mW_fj a3 (by simp) (by decide)).trans h2.2.2.2.2.1, l9, F9⟩ (fun m10 h10 h0 => ?_)
      rw [if_pos (show (3 : Int32) ≤ nI (lw b L s) from nI_le (a := 3) (b := lw b L s) (by omega) (by omega))]
      rw [c5] at h0 ⊢
      exact again_m hL hs hsL h4 c5 (by omega) hT h10 h0
  · rw [if_neg (show ¬ nI (lw b L s) = 5 from fun q => c5 ((nI_eq (a := lw b L s) (b := 5) (by omega) (by omega)).mp q))]
    refine body o m2 h2 (fun m10 h10 h0 => ?_)
    by_cases c3 : lw b L s < 3
    · rw [if_neg (show ¬ (3 : Int32) ≤ nI (lw b L s) from nI_ge (b := 3) (a := lw b L s) (by omega) (by omega))]
      exact whoS_m hW hs c3 rfl h10 h0
    rw [if_pos (show (3 : Int32) ≤ nI (lw b L s) from nI_le (a := 3) (b := lw b L s) (by omega) (by omega))]
    by_cases c4 : lw b L s = 3
    · rw [c4] at h0 ⊢
      exact digm_m hW hs c4 h10 h0
    · have c4' : lw b L s = 4 := by omega
      rw [c4'] at h0 ⊢
      have hB : stB b L w sub i s = .inr (wE b L s, [(4, 0, 0, 0, i + 1)]) := by
        unfold stB
        rw [if_neg (by omega), if_neg (by omega), if_neg (by omega), if_pos c4']
      unfold r_X12_readsStep_j89 r_X12_readsStep_j101 r_X12_readsStep_j120
      rw [if_pos (by decide), if_neg (by decide), if_neg (by decide), if_neg (by decide)]
      refine j192_1 h10 ?_ (sN_mk _ _ _ _ _) (stP_r hs hB)
      unfold R4
      rw [sK_mk]
      exact ⟨h0, fun e => absurd e (by decide), fun e => absurd e (by decide), fun e => absurd e (by decide)⟩
/-- the brackets that may be inside -/
noncomputable def sbd (b : Nat → Int32) (L : Nat) (w : Wd) : Nat → Option (Nat → Nat → Rs)
  | 0 => none
  | d + 1 => some (inP b L w d)
theorem sbd_in {b : Nat → Int32} {L : Nat} {w : Wd} (d : Nat) : inP b L w d = lsP b L (stP b L w (sbd b L w d)) 93 150 := by
  match d with
  | 0 => rfl
  | d + 1 => rfl
theorem sbd_gs {b : Nat → Int32} {L : Nat} {w : Wd} (hW : WF w) (d : Nat) : Gs L w d (stP b L w (sbd b L w d)) := by
  match d with
  | 0 => exact Gs.st hW (fun f h => by cases h)
  | d + 1 => exact Gs.st hW (fun f h => by cases h; exact ⟨d, rfl, Gs.inn hW d⟩)
theorem stepAll_m {b : Nat → Int32} {L : Nat} {w : Wd} (hW : WF w) (hL : L ≤ 150) : ∀ d g, d ≤ 6 → ∀ i s m, Bm b L w i (6 - d) s m → sk b L s = s → 4 * i ≤ s → Tot (rec_rst (d + g + 1) 0 0 [] m) (SsM b L (stP b L w (sbd b L w d) i s) i (6 - d) m) := by
  intro d
  induction d with
  | zero =>
    intro g hd i s m h hs h4
    have hT : HTm b L w 6 none (rec_rst (0 + g)) := ⟨by omega, fun h => by omega, fun _ => rfl⟩
    exact stepM hW hL hT h hs h4
  | succ d ih =>
    intro g hd i s m h hs h4
    have hT : HTm b L w (6 - (d + 1)) (some (inP b L w d)) (rec_rst (d + 1 + g)) := ⟨by omega, fun _ => ⟨sbd b L w d, by rw [sbd_in], by rw [show 5 - (6 - (d + 1)) = d by omega]; exact sbd_gs hW d, fun i s m h hs h4 => by
      rw [show 6 - (d + 1) + 1 = 6 - d by omega] at h ⊢
      rw [show d + 1 + g = d + g + 1 by omega]
      exact ih g (by omega) i s m h hs h4⟩, fun h => by omega⟩
    exact stepM hW hL hT h hs h4
