/-! ===== the land's clauses: the reference, ditches and claims ===== -/
theorem FtM.w {b : Nat → Int32} {L e a i j : Nat} {k x : Int32} {m : Mem} (h : FtM b L k e m) (h1 : ¬ a = 12) (h2 : ¬ a = 49) : FtM b L k e (wr m a i j x) :=
  h.fj (K := [(a, i)]) (J := []) (Fj.rf.wrK (by simp) _ _) (fun q hq => by rw [List.mem_singleton.mp hq]; exact ⟨h1, h2⟩) (by simp)
theorem TM.w {b : Nat → Int32} {L p a i j : Nat} {x : Int32} {m : Mem} (h : TM b L p m) (h1 : ¬ a = 12) (h2 : ¬ a = 49) : TM b L p (wr m a i j x) :=
  h.fj (K := [(a, i)]) (J := []) (Fj.rf.wrK (by simp) _ _) (fun q hq => by rw [List.mem_singleton.mp hq]; exact ⟨h1, h2⟩) (by simp)
set_option maxHeartbeats 1000000 in
theorem mDitch {b : Nat → Int32} {L n s : Nat} {S : Wd} {m m1 : Mem} (h : Hd b L S n s m m1) (l : lkd b L s = 1) (hW : LW S) (c2 : ¬ n = 60) (c3 : ¬ lfl b L S s = true) : Tot (r_X12_clause_j95 (nI 1) (nI (wD S)) m1) (CmP b L S n s m) := by
  obtain ⟨t, h5, h7, hM, hF⟩ := h
  have hP := hW.1
  have hD := hW.2.1
  have l0 : ¬ lkd b L s = 0 := by rw [l]; decide
  have c1 : ¬ lkd b L s = -1 := by rw [l]; decide
  have hnf : ¬ wD S = 16 := fun q => c3 (decide_eq_true (Or.inr (Or.inl ⟨l, q⟩)))
  have bad : ∀ (k : Int32) (e : Nat) (z24 z29 : Int32) (m5 : Mem), FtM b L k e m5 → Fj KLm JLm m m5 → clE b L S n s = (k, e) → Tot (r_X12_clause_j196 (nI 1) (nI (wD S)) z24 z29 m5) (CmP b L S n s m) := fun k e z24 z29 m5 d hF5 hE => by
    unfold r_X12_clause_j196
    rw [if_pos (inb_nI (by omega) (by omega)), clamp_nI (by omega)]
    exact j353_bad (kd := 1) (by omega) ((d.w (by decide) (by decide)).w (by decide) (by decide)) ((hF5.wrK (in61 _ (by omega)) _ _).wrK (in61 _ (by omega)) _ _) hE
  unfold r_X12_clause_j95
  rw [if_neg (by decide), if_pos (show nI 1 = 1 from rfl), tot_bd2]
  refine (rdPl_m t h5 ((hM.1 0 (by omega)).trans hP.1)).mono ?_
  rintro ⟨z, m2⟩ ⟨g1, g2, g3⟩
  dsimp only at g1 g2 g3 ⊢
  have hF2 : Fj KLm JLm m m2 := hF.tr (g3.mono (by simp) (by simp))
  have hM2 : LM S m2 := hM.fj g3 (by simp) (by decide)
  have h72 : m2 12 0 7 = nI (n + 1) := by rw [g3 12 0 7 (by simp) (by simp)]; exact h7
  rw [tot_bd1]
  by_cases e0 : nmE b L 0 (nI (wP S) - 1) (k1 b L s) = 0
  case neg =>
    obtain ⟨-, d⟩ := g2 e0
    refine d.bl.mono ?_
    rintro m3 ⟨d3, f3⟩
    rw [bd2_s d3.rdPl, if_neg (by rw [d3.1]; exact d3.2.1)]
    exact bad _ _ _ _ _ d3 (hF2.tr (f3.mono (by simp) (by simp))) (clE_b c1 c2 c3 (by unfold clB; rw [if_neg l0, if_pos l, if_neg e0]) e0)
  obtain ⟨v1, v2, v3⟩ := g1 e0
  refine (blanks_m v2).mono ?_
  rintro m3 ⟨t3, f3⟩
  have hF3 : Fj KLm JLm m m3 := hF2.tr (f3.mono (by simp) (by simp))
  have hM3 : LM S m3 := hM2.fj f3 (by simp) (by decide)
  have h53 : m3 12 0 5 = 0 := by rw [f3 12 0 5 (by simp) (by simp)]; exact v3
  have h73 : m3 12 0 7 = nI (n + 1) := by rw [f3 12 0 7 (by simp) (by simp)]; exact h72
  have hs2 : sk b L (k2 b L s) = k2 b L s := sk_sk v2.2.2.1
  rw [tot_bd2]
  refine (rdPl_m t3 h53 ((hM3.1 0 (by omega)).trans hP.1)).mono ?_
  rw [hs2]
  rintro ⟨z4, m4⟩ ⟨f1, f2, f4⟩
  dsimp only at f1 f2 f4 ⊢
  have hF4 : Fj KLm JLm m m4 := hF3.tr (f4.mono (by simp) (by simp))
  have hM4 : LM S m4 := hM3.fj f4 (by simp) (by decide)
  have h74 : m4 12 0 7 = nI (n + 1) := by rw [f4 12 0 7 (by simp) (by simp)]; exact h73
  by_cases e1 : nmE b L 0 (nI (wP S) - 1) (k2 b L s) = 0
  case neg =>
    obtain ⟨-, d⟩ := f2 e1
    rw [if_neg (by rw [d.1]; exact d.2.1)]
    exact bad _ _ _ _ _ d hF4 (clE_b c1 c2 c3 (by unfold clB; rw [if_neg l0, if_pos l, if_pos e0, if_neg e1]) e1)
  obtain ⟨u1, u2, u3⟩ := f1 e1
  obtain ⟨a, ha, ea⟩ := nm_k (by omega) e0
  obtain ⟨c, hc, ec⟩ := nm_k (by omega) e1
  have vz : z = nI a := v1.trans ea
  have uz : z4 = nI c := u1.trans ec
  rw [if_pos u3, vz, uz, show m3 12 0 4 = nI (k2 b L s) from t3.2.1, bd1_s (rbt_eq (S := S) (D := wD S) ((hM4.1 1 (by omega)).trans hD.1) hD.2 (fun e he => hM4.2.2.1 e he))]
  have two : clB b L S s = (2, k2 b L s) → Tot (r_X12_clause_j189 (nI 1) (nI (wD S)) (nI a) (nI (k2 b L s)) (nI c) m4) (CmP b L S n s m) := fun hB => by
    obtain ⟨mw, w1, w2, w3⟩ := wrong_m (e := k2 b L s) (k := 2) u2 u3 (by decide)
    unfold r_X12_clause_j189
    rw [bd1_s w1]
    exact bad _ _ _ _ _ w2 (hF4.tr (w3.mono (by simp) (by simp))) (clE_b c1 c2 c3 hB (by decide))
  by_cases c4 : nI a = nI c
  · rw [if_pos c4]
    exact two (by unfold clB; rw [if_neg l0, if_pos l, if_pos e0, if_pos e1, ea, ec, if_pos c4])
  rw [if_neg c4]
  by_cases c5 : btw S (wD S) (nI a) (nI c) = -1
  case neg =>
    rw [if_neg c5]
    exact two (by unfold clB; rw [if_neg l0, if_pos l, if_pos e0, if_pos e1, ea, ec, if_neg c4, if_neg c5])
  rw [if_pos c5]
  have hB : clB b L S s = (0, 0) := by
    unfold clB
    rw [if_neg l0, if_pos l, if_pos e0, if_pos e1, ea, ec, if_neg c4, if_pos c5]
  unfold r_X12_clause_j196
  rw [if_pos (inb_nI (by omega) (by omega)), clamp_nI (by omega)]
  refine j353_ok (kd := 1) (by omega) ?_ (by rw [wr_k (by decide), wr_k (by decide)]; exact u3) (by rw [wr_k (by decide), wr_k (by decide)]; exact h74) ((hF4.wrK (in61 _ (by omega)) _ _).wrK (in61 _ (by omega)) _ _) c1 c2 c3 (by rw [hB]) (fun m' q1 q2 => ?_)
  · unfold clP
    rw [if_neg l0, if_pos l]
    exact (u2.w (by decide) (by decide)).w (by decide) (by decide)
  · unfold clS
    rw [if_neg l0, if_pos l, ea, ec]
    have o : ∀ x y, ¬ x = 0 → ¬ x = 2 → ¬ x = 3 → upS (upS (upS S 2 (wD S) (nI a)) 3 (wD S) (nI c)) 0 1 (nI (wD S + 1)) x y = S x y := fun x y h1 h2 h3 => by rw [upS_i h1, upS_i h3, upS_i h2]
    have oz : ∀ y, ¬ y = 1 → upS (upS (upS S 2 (wD S) (nI a)) 3 (wD S) (nI c)) 0 1 (nI (wD S + 1)) 0 y = S 0 y := fun y h1 => by rw [upS_j h1, upS_i (by decide), upS_i (by decide)]
    have eP : wP (upS (upS (upS S 2 (wD S) (nI a)) 3 (wD S) (nI c)) 0 1 (nI (wD S + 1))) = wP S := lw_ex ((oz 0 (by decide)).trans hP.1) (by omega)
    have eD : wD (upS (upS (upS S 2 (wD S) (nI a)) 3 (wD S) (nI c)) 0 1 (nI (wD S + 1))) = wD S + 1 := lw_eD (upS_at _ _ _ _) (by omega)
    have eN : wN (upS (upS (upS S 2 (wD S) (nI a)) 3 (wD S) (nI c)) 0 1 (nI (wD S + 1))) = wN S := lw_eN ((oz 2 (by decide)).trans hW.2.2.1.1) (by have := hW.2.2.1.2; omega)
    have w : ∀ a i, ¬ a = 12 → ¬ a = 51 → ¬ a = 61 → m' a i = m4 a i := fun a i h1 h2 h3 => by
      rw [q2 a i h1 h2]
      funext x
      rw [wr_k h3, wr_k h3]
    unfold LM
    rw [eP, eD, eN]
    refine ⟨fun k hk => ?_, fun a ha => ?_, fun e he => ?_, fun p hp => ?_, fun p a hp ha => ?_⟩
    · rw [q1, wr_k (by decide), wr_k (by decide)]
      by_cases e : k = 1
      · rw [if_pos ⟨e, by omega⟩, e, upS_at, (hM4.1 1 (by omega)).trans hD.1, nI_succ]
      · rw [if_neg (fun q => e q.1), oz k e]
        exact hM4.1 k hk
    · rw [w 53 0 (by decide) (by decide) (by decide), o 1 a (by decide) (by decide) (by decide)]
      exact hM4.2.1 a ha
    · rw [q2 61 e (by decide) (by decide)]
      by_cases e9 : e = wD S
      · rw [e9, wr_j (by decide), wr_eq, wr_eq, upS_i (by decide), upS_i (by decide), upS_at, upS_i (by decide), upS_at]
        exact ⟨rfl, rfl⟩
      · rw [wr_i e9, wr_i e9, wr_i e9, wr_i e9, upS_i (by decide), upS_i (by decide), upS_j e9, upS_i (by decide), upS_j e9, upS_i (by decide)]
        exact hM4.2.2.1 e (by omega)
    · rw [w 65 p (by decide) (by decide) (by decide), o 4 p (by decide) (by decide) (by decide), o 5 p (by decide) (by decide) (by decide)]
      exact hM4.2.2.2.1 p hp
    · rw [w 69 p (by decide) (by decide) (by decide), o 6 _ (by decide) (by decide) (by decide)]
      exact hM4.2.2.2.2 p a hp ha
set_option maxHeartbeats 1000000 in
theorem mClaim {b : Nat → Int32} {L n s : Nat} {S : Wd} {m m1 : Mem} (h : Hd b L S n s m m1) (l : lkd b L s = 3) (hW : LW S) (c2 : ¬ n = 60) (c3 : ¬ lfl b L S s = true) : Tot (r_X12_clause_j95 (nI 4) 0 m1) (CmP b L S n s m) := by
  obtain ⟨t, h5, h7, hM, hF⟩ := h
  have hP := hW.1
  have hD := hW.2.1
  have hN := hW.2.2.1
  have l0 : ¬ lkd b L s = 0 := by rw [l]; decide
  have l1 : ¬ lkd b L s = 1 := by rw [l]; decide
  have l2 : ¬ lkd b L s = 2 := by rw [l]; decide
  have c1 : ¬ lkd b L s = -1 := by rw [l]; decide
  have bad : ∀ (k : Int32) (e : Nat) (x y z : Int32) (m5 : Mem), FtM b L k e m5 → Fj KLm JLm m m5 → clE b L S n s = (k, e) → Tot (r_X12_clause_j332 (nI 4) x y z m5) (CmP b L S n s m) := fun k e x y z m5 d hF5 hE => by
    unfold r_X12_clause_j332
    rw [if_neg (by rw [d.1]; exact d.2.1)]
    exact j353_bad (kd := 4) (by omega) d hF5 hE
  unfold r_X12_clause_j95
  rw [if_neg (by decide), if_neg (by decide), if_neg (by decide), if_neg (by decide), (hM.1 2 (by omega)).trans hN.1, tot_bd2]
  refine (number_m t h5).mono ?_
  rintro ⟨z, m2⟩ ⟨g1, g2, g3⟩
  dsimp only at g1 g2 g3 ⊢
  have hF2 : Fj KLm JLm m m2 := hF.tr (g3.mono (by simp) (by simp))
  have hM2 : LM S m2 := hM.fj g3 (by simp) (by decide)
  have h72 : m2 12 0 7 = nI (n + 1) := by rw [g3 12 0 7 (by simp) (by simp)]; exact h7
  by_cases e0 : nmE b L 0 (nI (wN S) - 1) (k1 b L s) = 0
  case neg =>
    obtain ⟨-, d⟩ := g2 e0
    rw [bd2_s d.rdPl, tot_bd1]
    refine d.bl.mono ?_
    rintro m3 ⟨d3, f3⟩
    rw [bd2_s d3.rdPl, if_neg (by rw [d3.1]; exact d3.2.1)]
    exact bad _ _ _ _ _ _ d3 (hF2.tr (f3.mono (by simp) (by simp))) (clE_b c1 c2 c3 (by unfold clB; rw [if_neg l0, if_neg l1, if_neg l2, if_pos l, if_neg e0]) e0)
  obtain ⟨v1, v2, v3⟩ := g1 e0
  rw [tot_bd2]
  refine (rdPl_m v2 v3 ((hM2.1 0 (by omega)).trans hP.1)).mono ?_
  rintro ⟨zb, m3⟩ ⟨x1, x2, x3⟩
  dsimp only at x1 x2 x3 ⊢
  have hF3 : Fj KLm JLm m m3 := hF2.tr (x3.mono (by simp) (by simp))
  have hM3 : LM S m3 := hM2.fj x3 (by simp) (by decide)
  have h73 : m3 12 0 7 = nI (n + 1) := by rw [x3 12 0 7 (by simp) (by simp)]; exact h72
  rw [tot_bd1]
  by_cases e1 : nmE b L 0 (nI (wP S) - 1) (k2 b L s) = 0
  case neg =>
    obtain ⟨-, d⟩ := x2 e1
    refine d.bl.mono ?_
    rintro m4 ⟨d3, f3⟩
    rw [bd2_s d3.rdPl, if_neg (by rw [d3.1]; exact d3.2.1)]
    exact bad _ _ _ _ _ _ d3 (hF3.tr (f3.mono (by simp) (by simp))) (clE_b c1 c2 c3 (by unfold clB; rw [if_neg l0, if_neg l1, if_neg l2, if_pos l, if_pos e0, if_neg e1]) e1)
  obtain ⟨y1, y2, y3⟩ := x1 e1
  refine (blanks_m y2).mono ?_
  rintro m4 ⟨t4, f3⟩
  have hF4 : Fj KLm JLm m m4 := hF3.tr (f3.mono (by simp) (by simp))
  have hM4 : LM S m4 := hM3.fj f3 (by simp) (by decide)
  have h54 : m4 12 0 5 = 0 := by rw [f3 12 0 5 (by simp) (by simp)]; exact y3
  have h74 : m4 12 0 7 = nI (n + 1) := by rw [f3 12 0 7 (by simp) (by simp)]; exact h73
  have hs3 : sk b L (k3 b L s) = k3 b L s := sk_sk y2.2.2.1
  rw [tot_bd2]
  refine (rdPl_m t4 h54 ((hM4.1 0 (by omega)).trans hP.1)).mono ?_
  rw [hs3]
  rintro ⟨z5, m5⟩ ⟨f1, f2, f4⟩
  dsimp only at f1 f2 f4 ⊢
  have hF5 : Fj KLm JLm m m5 := hF4.tr (f4.mono (by simp) (by simp))
  have hM5 : LM S m5 := hM4.fj f4 (by simp) (by decide)
  have h75 : m5 12 0 7 = nI (n + 1) := by rw [f4 12 0 7 (by simp) (by simp)]; exact h74
  obtain ⟨p, hp, ep⟩ := nm_k (by omega) e0
  obtain ⟨a, ha, ea⟩ := nm_k (by omega) e1
  have hB : clB b L S s = (ngE b L (wP S) (bw S a) (k3 b L s), k3 b L s) := by
    unfold clB
    rw [if_neg l0, if_neg l1, if_neg l2, if_pos l, if_pos e0, if_pos e1, ea, clamp_nI (by omega)]
  by_cases e2 : nmE b L 0 (nI (wP S) - 1) (k3 b L s) = 0
  case neg =>
    obtain ⟨-, d⟩ := f2 e2
    have hng : ngE b L (wP S) (bw S a) (k3 b L s) = nmE b L 0 (nI (wP S) - 1) (k3 b L s) := by
      unfold ngE
      rw [if_neg e2]
    rw [hng] at hB
    rw [if_neg (by rw [d.1]; exact d.2.1)]
    exact bad _ _ _ _ _ _ d hF5 (clE_b c1 c2 c3 hB e2)
  obtain ⟨u1, u2, u3⟩ := f1 e2
  obtain ⟨c, hc, ec⟩ := nm_k (by omega) e2
  have vz : z = nI p := v1.trans ep
  have yz : zb = nI a := y1.trans ea
  have uz : z5 = nI c := u1.trans ec
  rw [if_pos u3, vz, yz, uz, show m4 12 0 4 = nI (k3 b L s) from t4.2.1, bd1_s (rbt_eq (S := S) (D := wD S) ((hM5.1 1 (by omega)).trans hD.1) hD.2 (fun e he => hM5.2.2.1 e he))]
  by_cases c5 : btw S (wD S) (nI a) (nI c) = -1
  · have hng : ngE b L (wP S) (bw S a) (k3 b L s) = 2 := by
      unfold ngE
      rw [if_pos e2, ec, clamp_nI (by omega), if_pos (show bw S a c = -1 from c5)]
    rw [hng] at hB
    obtain ⟨mw, w1, w2, w3⟩ := wrong_m (e := k3 b L s) (k := 2) u2 u3 (by decide)
    rw [if_pos c5, bd1_s w1]
    exact bad _ _ _ _ _ _ w2 (hF5.tr (w3.mono (by simp) (by simp))) (clE_b c1 c2 c3 hB (by decide))
  have hng : ngE b L (wP S) (bw S a) (k3 b L s) = 0 := by
    unfold ngE
    rw [if_pos e2, ec, clamp_nI (by omega), if_neg (show ¬ bw S a c = -1 from c5)]
  rw [hng] at hB
  rw [if_neg c5]
  unfold r_X12_clause_j332
  rw [if_pos u3, if_pos (inb_nI (k := p) (by omega) (by omega)), if_pos (inb_nI (k := a) (by omega) (by omega)), clamp_nI (k := p) (by omega), clamp_nI (k := a) (by omega)]
  refine j353_ok (kd := 4) (by omega) ?_ (by rw [wr_k (by decide)]; exact u3) (by rw [wr_k (by decide)]; exact h75) (hF5.wrK (in69 _ (by omega)) _ _) c1 c2 c3 (by rw [hB]) (fun m' q1 q2 => ?_)
  · unfold clP
    rw [if_neg l0, if_neg l1, if_neg l2, if_pos l]
    exact u2.w (by decide) (by decide)
  · unfold clS
    rw [if_neg l0, if_neg l1, if_neg l2, if_pos l, ep, ea, ec, clamp_nI (k := p) (by omega), clamp_nI (k := a) (by omega)]
    have o : ∀ x y, ¬ x = 6 → upS S 6 (12 * p + a) (nI c) x y = S x y := fun x y h1 => upS_i h1
    have eP : wP (upS S 6 (12 * p + a) (nI c)) = wP S := lw_ex ((o 0 0 (by decide)).trans hP.1) (by omega)
    have eD : wD (upS S 6 (12 * p + a) (nI c)) = wD S := lw_eD ((o 0 1 (by decide)).trans hD.1) (by omega)
    have eN : wN (upS S 6 (12 * p + a) (nI c)) = wN S := lw_eN ((o 0 2 (by decide)).trans hN.1) (by omega)
    have w : ∀ x i, ¬ x = 12 → ¬ x = 51 → ¬ x = 69 → m' x i = m5 x i := fun x i h1 h2 h3 => by
      rw [q2 x i h1 h2]
      funext y
      exact wr_k h3
    unfold LM
    rw [eP, eD, eN]
    refine ⟨fun k hk => ?_, fun x hx => ?_, fun e he => ?_, fun x hx => ?_, fun x y hx hy => ?_⟩
    · rw [q1, if_neg (by omega), wr_k (by decide), o 0 k (by decide)]
      exact hM5.1 k hk
    · rw [w 53 0 (by decide) (by decide) (by decide), o 1 x (by decide)]
      exact hM5.2.1 x hx
    · rw [w 61 e (by decide) (by decide) (by decide), o 2 e (by decide), o 3 e (by decide)]
      exact hM5.2.2.1 e he
    · rw [w 65 x (by decide) (by decide) (by decide), o 4 x (by decide), o 5 x (by decide)]
      exact hM5.2.2.2.1 x hx
    · rw [q2 69 x (by decide) (by decide)]
      by_cases ex : x = p
      · rw [ex, wr_if]
        by_cases ey : y = a
        · rw [if_pos ey, ey, upS_at]
        · rw [if_neg ey, upS_j (by omega)]
          exact hM5.2.2.2.2 p y (by omega) hy
      · rw [wr_i ex, upS_j (by omega)]
        exact hM5.2.2.2.2 x y hx hy
set_option maxHeartbeats 1000000 in
theorem clause_m {b : Nat → Int32} {L n s : Nat} {S : Wd} {m : Mem} (t : TM b L s m) (hs : sk b L s = s) (h5 : m 12 0 5 = 0) (h7 : m 12 0 7 = nI n) (hn : n ≤ 60) (hW : LW S) (hM : LM S m) : Tot (r_X12_clause m) (CmP b L S n s m) := by
  have hP := hW.1
  have hD := hW.2.1
  have hN := hW.2.2.1
  unfold r_X12_clause
  rw [tot_bd2]
  refine (kindHere_m t hs h5).mono ?_
  rintro ⟨z, m2⟩ ⟨g1, g2, g3, g4⟩
  dsimp only at g1 g2 g3 g4 ⊢
  have hF2 : Fj KLm JLm m m2 := g4.mono (by simp) (by simp)
  have hM2 : LM S m2 := hM.fj g4 (by simp) (by decide)
  have h72 : m2 12 0 7 = nI n := by rw [g4 12 0 7 (by simp) (by simp)]; exact h7
  have h42 : m2 12 0 4 = nI s := g2.2.1
  have bad : ∀ (k : Int32) (z : Int32) (m5 : Mem), FtM b L k s m5 → Fj KLm JLm m m5 → clE b L S n s = (k, s) → Tot (r_X12_clause_j58 z m5) (CmP b L S n s m) := fun k z m5 d hF5 hE => by
    unfold r_X12_clause_j58
    rw [if_neg (by rw [d.1]; exact d.2.1)]
    exact tot_some.mpr (CmP.bad hE d hF5)
  by_cases c1 : lkd b L s = -1
  · have ez : z = -1 := by
      rw [g1]
      unfold rkd
      rw [c1, if_neg (by decide), if_neg (by decide)]
    obtain ⟨mw, w1, w2, w3⟩ := wrong_m (e := s) (k := 1) g2 g3 (by decide)
    rw [if_pos ez, h42, bd1_s w1]
    exact bad _ _ _ w2 (hF2.tr (w3.mono (by simp) (by simp))) (by unfold clE; rw [if_pos c1])
  have ez : ¬ z = -1 := by
    rw [g1]
    unfold rkd
    by_cases q3 : lkd b L s = 3
    · rw [if_pos q3]
      decide
    · rw [if_neg q3]
      by_cases q4 : lkd b L s = 4
      · rw [if_pos q4]
        decide
      · rw [if_neg q4]
        exact c1
  obtain ⟨mw, w1, w2, w3⟩ := wrong_m (e := s) (k := 3) g2 g3 (by decide)
  have hFw : Fj KLm JLm m mw := hF2.tr (w3.mono (by simp) (by simp))
  rw [if_neg ez]
  by_cases c2 : n = 60
  · rw [if_pos (show m2 12 0 7 = 60 by rw [h72, c2]; rfl)]
    unfold r_X12_clause_j49
    rw [h42, bd1_s w1]
    exact bad _ _ _ w2 hFw (by unfold clE; rw [if_neg c1, if_pos c2])
  rw [if_neg (show ¬ m2 12 0 7 = 60 from fun q => c2 ((nI_eq (a := n) (b := 60) (by omega) (by omega)).mp (h72.symm.trans q)))]
  have full : lfl b L S s = true → Tot (r_X12_clause_j49 z m2) (CmP b L S n s m) := fun c3 => by
    unfold r_X12_clause_j49
    rw [h42, bd1_s w1]
    exact bad _ _ _ w2 hFw (by unfold clE; rw [if_neg c1, if_neg c2, if_pos c3])
  have go : ∀ (kd : Nat) (v : Int32), kd ≤ 4 → (kd < 3 → v = S 0 kd) → (3 ≤ kd → v = 0) → (∀ m1, Hd b L S n s m m1 → Tot (r_X12_clause_j95 (nI kd) v m1) (CmP b L S n s m)) → Tot (r_X12_clause_j58 (nI kd) m2) (CmP b L S n s m) := fun kd v hk hv1 hv2 hj => by
    unfold r_X12_clause_j58
    rw [if_pos g3, tot_bd1]
    refine (skipW_m g2).mono ?_
    rintro m9 ⟨a1, a2⟩
    have h79 : m9 12 0 7 = nI n := by rw [a2 12 0 7 (by simp) (by simp)]; exact h72
    have hM9 : LM S m9 := hM2.fj a2 (by simp) (by decide)
    have hF9 : Fj [] [(12, 7)] m9 (wr m9 12 0 7 (m9 12 0 7 + 1)) := Fj.rf.wrJ (by simp) _ _
    have hd : Hd b L S n s m (wr m9 12 0 7 (m9 12 0 7 + 1)) := ⟨a1.fj hF9 (by simp) (by decide), by rw [wr_j (by decide), a2 12 0 5 (by simp) (by simp)]; exact g3, by rw [wr_eq, h79, nI_succ], hM9.fj hF9 (by simp) (by decide), (hF2.tr (a2.mono (by simp) (by simp))).tr (hF9.mono (by simp) (by simp))⟩
    have hj' := hj _ hd
    by_cases hk3 : 3 ≤ kd
    · rw [if_pos (show (3 : Int32) ≤ nI (kd) from nI_le (a := 3) (b := kd) (by omega) (by omega))]
      rw [hv2 hk3] at hj'
      exact hj'
    · rw [if_neg (show ¬ (3 : Int32) ≤ nI (kd) from nI_ge (b := 3) (a := kd) (by omega) (by omega)), if_pos (inb_nI (by omega) (by omega)), clamp_nI (by omega), hM9.1 kd (by omega), ← hv1 (by omega)]
      exact hj'
  rcases lkd_or b L s with l | l | l | l | l | l
  · exact absurd l c1
  · have e : z = nI 0 := by
      rw [g1]
      unfold rkd
      rw [l, if_neg (by decide), if_neg (by decide)]
      rfl
    rw [e, if_neg (by decide), if_pos (by decide)]
    rw [e] at full
    have hv : m2 51 0 (nI 0).toNatClampNeg = nI (wP S) := (hM2.1 0 (by omega)).trans hP.1
    by_cases q : wP S = 12
    · rw [if_pos (show m2 51 0 (nI 0).toNatClampNeg = r_X12_mostOf (nI 0) by rw [hv, q]; rfl)]
      exact full (decide_eq_true (Or.inl ⟨l, q⟩))
    · rw [if_neg (show ¬ m2 51 0 (nI 0).toNatClampNeg = r_X12_mostOf (nI 0) from fun q2 => q ((nI_eq (a := wP S) (b := 12) (by omega) (by omega)).mp (hv.symm.trans q2)))]
      by_cases c3 : lfl b L S s = true
      · rcases of_decide_eq_true c3 with ⟨-, h⟩ | ⟨h, -⟩ | ⟨h, -⟩
        · exact absurd h q
        · rw [l] at h
          exact absurd h (by decide)
        · rw [l] at h
          exact absurd h (by decide)
      · exact go 0 (nI (wP S)) (by omega) (fun _ => hP.1.symm) (fun h => by omega) (fun m1 hd => mPlace hd l hW c2 c3)
  · have e : z = nI 1 := by
      rw [g1]
      unfold rkd
      rw [l, if_neg (by decide), if_neg (by decide)]
      rfl
    rw [e, if_neg (by decide), if_pos (by decide)]
    rw [e] at full
    have hv : m2 51 0 (nI 1).toNatClampNeg = nI (wD S) := (hM2.1 1 (by omega)).trans hD.1
    by_cases q : wD S = 16
    · rw [if_pos (show m2 51 0 (nI 1).toNatClampNeg = r_X12_mostOf (nI 1) by rw [hv, q]; rfl)]
      exact full (decide_eq_true (Or.inr (Or.inl ⟨l, q⟩)))
    · rw [if_neg (show ¬ m2 51 0 (nI 1).toNatClampNeg = r_X12_mostOf (nI 1) from fun q2 => q ((nI_eq (a := wD S) (b := 16) (by omega) (by omega)).mp (hv.symm.trans q2)))]
      by_cases c3 : lfl b L S s = true
      · rcases of_decide_eq_true c3 with ⟨h, -⟩ | ⟨-, h⟩ | ⟨h, -⟩
        · rw [l] at h
          exact absurd h (by decide)
        · exact absurd h q
        · rw [l] at h
          exact absurd h (by decide)
      · exact go 1 (nI (wD S)) (by omega) (fun _ => hD.1.symm) (fun h => by omega) (fun m1 hd => mDitch hd l hW c2 c3)
  · have e : z = nI 2 := by
      rw [g1]
      unfold rkd
      rw [l, if_neg (by decide), if_neg (by decide)]
      rfl
    rw [e, if_neg (by decide), if_pos (by decide)]
    rw [e] at full
    have hv : m2 51 0 (nI 2).toNatClampNeg = nI (wN S) := (hM2.1 2 (by omega)).trans hN.1
    by_cases q : wN S = 6
    · rw [if_pos (show m2 51 0 (nI 2).toNatClampNeg = r_X12_mostOf (nI 2) by rw [hv, q]; rfl)]
      exact full (decide_eq_true (Or.inr (Or.inr ⟨l, q⟩)))
    · rw [if_neg (show ¬ m2 51 0 (nI 2).toNatClampNeg = r_X12_mostOf (nI 2) from fun q2 => q ((nI_eq (a := wN S) (b := 6) (by omega) (by omega)).mp (hv.symm.trans q2)))]
      by_cases c3 : lfl b L S s = true
      · rcases of_decide_eq_true c3 with ⟨h, -⟩ | ⟨h, -⟩ | ⟨-, h⟩
        · rw [l] at h
          exact absurd h (by decide)
        · rw [l] at h
          exact absurd h (by decide)
        · exact absurd h q
      · exact go 2 (nI (wN S)) (by omega) (fun _ => hN.1.symm) (fun h => by omega) (fun m1 hd => mPerson hd l hW c2 c3)
  · have e : z = nI 4 := by
      rw [g1]
      unfold rkd
      rw [if_pos l]
      rfl
    have c3 : ¬ lfl b L S s = true := fun c3 => by
      rcases of_decide_eq_true c3 with ⟨h, -⟩ | ⟨h, -⟩ | ⟨h, -⟩ <;> rw [l] at h <;> exact absurd h (by decide)
    rw [e, if_pos (by decide)]
    exact go 4 0 (by omega) (fun h => by omega) (fun _ => rfl) (fun m1 hd => mClaim hd l hW c2 c3)
  · have e : z = nI 3 := by
      rw [g1]
      unfold rkd
      rw [if_neg (by rw [l]; decide), if_pos l]
      rfl
    have c3 : ¬ lfl b L S s = true := fun c3 => by
      rcases of_decide_eq_true c3 with ⟨h, -⟩ | ⟨h, -⟩ | ⟨h, -⟩ <;> rw [l] at h <;> exact absurd h (by decide)
    rw [e, if_pos (by decide)]
    exact go 3 0 (by omega) (fun h => by omega) (fun _ => rfl) (fun m1 hd => mSpring hd l hW c2 c3)
