/-! ===== where to look next ===== -/
/-- where it goes on to, one more -/
def nix (w : Wd) (r : Rw) (a : Nat) : Nat := (nxt w r a + 1).toNatClampNeg
theorem nix_eq {w : Wd} (hW : WF w) (r : Rw) (a : Nat) : nxt w r a + 1 = nI (nix w r a) ∧ nix w r a < 13 := by
  have hP := hW.1.2
  unfold nix
  rcases nxt_or w r a with h | ⟨b, hb, h, -⟩
  · rw [h]
    decide
  · rw [h, ← nI_succ, clamp_nI (by omega)]
    exact ⟨rfl, by omega⟩
def lkn (ok : Nat → Bool) (g : Nat → Nat) (d : Nat) : Nat → Nat
  | 0 => 0
  | s + 1 => lkn ok g d s + (if ok s = true ∧ g s = d then 1 else 0)
theorem lkn_le (ok : Nat → Bool) (g : Nat → Nat) (d : Nat) : ∀ s, lkn ok g d s ≤ s
  | 0 => Nat.le_refl _
  | s + 1 => by
    have := lkn_le ok g d s
    show lkn ok g d s + _ ≤ _
    split <;> omega
def mxn (f : Nat → Nat) : Nat → Nat
  | 0 => 0
  | k + 1 => if f k < mxn f k then mxn f k else f k
theorem mxn_le {f : Nat → Nat} {b : Nat} (h : ∀ k, f k ≤ b) : ∀ k, mxn f k ≤ b
  | 0 => Nat.zero_le _
  | k + 1 => by
    have h1 := mxn_le h k
    have h2 := h k
    show (if _ then _ else _) ≤ b
    split <;> omega
def lkb (op : Nat → Bool) (f : Nat → Nat) : Nat → Int32 × Int32
  | 0 => (-1, -1)
  | a + 1 => if op a = true ∧ ((lkb op f a).1 = -1 ∨ nI (f a) < (lkb op f a).2) then (nI a, nI (f a)) else lkb op f a
abbrev KL : List (Nat × Nat) := [(45, 0), (33, 0), (35, 0), (7, 1), (20, 1), (21, 1), (22, 1), (23, 1), (24, 1)]
theorem tally_c {w : Wd} {r : Rw} {m : Mem} (hW : WF w) (hL : CL w m) (hC : CW w m) (hS : StC w r m 1) : Tot (r_X0_tallyOpenPlaces 0 m) (fun m' => (∀ a, a < wP w → m 36 0 a = -1 → ∀ d, d < 13 → m' 45 0 (13 * a + d) = m 45 0 (13 * a + d) + (if nix w r a = d then 1 else 0)) ∧ Fr [(45, 0), (33, 0), (35, 0)] m m') := by
  have hP := hW.1.2
  unfold r_X0_tallyOpenPlaces r_X0_tallyOpenPlaces_l2
  rw [tot_bd1]
  refine tot_for (fun k (t : Int32 × Mem) => t.1 = nI k ∧ (∀ a, a < k → m 36 0 a = -1 → ∀ d, d < 13 → t.2 45 0 (13 * a + d) = m 45 0 (13 * a + d) + (if nix w r a = d then 1 else 0)) ∧ (∀ q, 13 * k ≤ q → t.2 45 0 q = m 45 0 q) ∧ Fr [(45, 0), (33, 0), (35, 0)] m t.2) (wP w) ?_ ?_ 0 _ (Nat.zero_le _) ⟨rfl, fun a ha => absurd ha (Nat.not_lt_zero a), fun _ _ => rfl, Fr.rf⟩
  · rintro k ⟨x2, m1⟩ hk ⟨e1, e2, e3, hF⟩
    dsimp only at e1 e2 e3 hF ⊢
    subst e1
    have hF' : Fj [(45, 0), (33, 0), (35, 0)] [] m m1 := hF.j
    have hL1 : CL w m1 := hL.fj hF' (by decide) (by simp)
    unfold r_X0_tallyOpenPlaces_b2 r_X0_tallyOpenPlaces_j51_c2
    rw [hL1.1, hW.1.1, if_neg (nI_ge hk (by omega)), if_pos (inb_nI (by omega) (by omega)), clamp_nI (by omega), hF 36 0 (by decide)]
    by_cases h1 : m 36 0 k = -1
    · rw [if_pos h1, tot_bd2]
      refine (goesOn_tot hW hL1 (hC.fj hF' (by decide) (by simp)) (hS.fj hF' (by decide) (by simp)) hk).mono ?_
      rintro ⟨z, m2⟩ ⟨g1, g2⟩
      dsimp only at g1 g2 ⊢
      obtain ⟨n1, n2⟩ := nix_eq hW r k
      have ix : ((nI k * 13) + 1) + z = nI (13 * k + nix w r k) := by
        rw [g1, Int32.add_assoc, Int32.add_comm 1, n1, show nI k * 13 = nI (k * 13) from nI_mul k 13, nI_add, Nat.mul_comm]
      rw [ix, if_pos (inb_nI (by omega) (by omega)), clamp_nI (by omega)]
      have h45 : m2 45 0 = m1 45 0 := g2 45 0 (by decide)
      refine tot_some.mpr ⟨(nI_succ k).symm, fun a ha hb d hd => ?_, fun q hq => ?_, ?_⟩
      · show wr m2 45 0 (13 * k + nix w r k) _ 45 0 (13 * a + d) = _
        rw [wr_if]
        by_cases hak : a = k
        · rw [hak]
          by_cases hd2 : nix w r k = d
          · rw [if_pos (by omega), if_pos hd2, h45, e3 _ (by omega), hd2]
          · rw [if_neg (by omega), if_neg hd2, h45, e3 _ (by omega), add0]
        · rw [if_neg (by omega), h45, e2 a (by omega) hb d hd]
      · show wr m2 45 0 (13 * k + nix w r k) _ 45 0 q = _
        rw [wr_j (by omega), h45, e3 q (by omega)]
      · exact (hF.tr (g2.mono (by simp))).wr (by simp) _ _
    · rw [if_neg h1]
      refine tot_some.mpr ⟨(nI_succ k).symm, fun a ha hb d hd => ?_, fun q hq => e3 q (by omega), hF⟩
      by_cases hak : a = k
      · rw [hak] at hb
        exact absurd hb h1
      · exact e2 a (by omega) hb d hd
  · rintro ⟨x2, m1⟩ ⟨e1, e2, e3, hF⟩
    dsimp only at e1 e2 e3 hF ⊢
    subst e1
    unfold r_X0_tallyOpenPlaces_b2
    rw [hF 3 0 (by decide), hL.1, hW.1.1, if_pos (nI_le (Nat.le_refl _) (by omega)), tot_some]
    exact tot_some.mpr ⟨e2, hF⟩
theorem worst_c {m : Mem} {a : Nat} {f : Nat → Nat} (ha : a < 12) (hf : ∀ d, f d ≤ 64) (h : ∀ d, d < 13 → m 45 0 (13 * a + d) = nI (f d)) : r_X0_worstOf (nI a) m = some (nI (mxn f 13)) := by
  have hh : Tot (r_X0_worstOf (nI a) m) (fun z => z = nI (mxn f 13)) := by
    unfold r_X0_worstOf r_X0_worstOf_l4
    rw [tot_bd1]
    refine tot_for (fun k (s : Int32 × Int32) => s.1 = nI (mxn f k) ∧ s.2 = nI k) 13 ?_ ?_ 0 _ (Nat.zero_le _) ⟨rfl, rfl⟩
    · rintro k ⟨x1, x2⟩ hk ⟨e1, e2⟩
      dsimp only at e1 e2 ⊢
      subst e1 e2
      have b1 := mxn_le hf k
      have b2 := hf k
      unfold r_X0_worstOf_b4
      rw [if_neg (show ¬ (12 : Int32) < nI k from nI_nlt (a := 12) (b := k) (by omega) (by omega)), show nI a * 13 + nI k = nI (13 * a + k) by rw [show nI a * 13 = nI (a * 13) from nI_mul a 13, nI_add, Nat.mul_comm], if_pos (inb_nI (by omega) (by omega)), clamp_nI (by omega), h k hk, imax_nI (by omega) (by omega)]
      exact tot_some.mpr ⟨rfl, (nI_succ k).symm⟩
    · rintro ⟨x1, x2⟩ ⟨e1, e2⟩
      dsimp only at e1 e2 ⊢
      subst e1 e2
      unfold r_X0_worstOf_b4
      rw [if_pos (by decide), tot_some]
      exact tot_some.mpr rfl
  obtain ⟨z, hz, e⟩ := hh
  rw [hz, e]
/-- how often it would go where, over all that may have been forgotten -/
noncomputable abbrev lkf (w : Wd) (b : Nat → Int32) (r : Rw) (a d : Nat) : Nat := lkn (okS w b r) (fun s => nix w (silQ r s (12 * wN w)) a) d (2 ^ wN w)
noncomputable abbrev lkw (w : Wd) (b : Nat → Int32) (r : Rw) (a : Nat) : Nat := mxn (lkf w b r a) 13
noncomputable abbrev lkz (w : Wd) (b : Nat → Int32) (r : Rw) : Int32 × Int32 := lkb (fun a => decide (b a = -1)) (lkw w b r) (wP w)
set_option maxHeartbeats 1000000 in
theorem look_c {w : Wd} {r : Rw} {m : Mem} (hW : WF w) (hL : CL w m) (hC : CW w m) (hS : StC w r m 0) : Tot (r_X0_findLook 0 0 m) (fun m' => m' 0 0 5 = (lkz w (m 36 0) r).1 ∧ m' 0 0 6 = (lkz w (m 36 0) r).2 ∧ Fj KL [(0, 5), (0, 6)] m m') := by
  have hN := hW.2.2.1
  have hP := hW.1
  have hp64 : 2 ^ wN w ≤ 2 ^ 6 := Nat.pow_le_pow_right (by decide) hN.2
  unfold r_X0_findLook r_X0_findLook_l2
  rw [tot_bd1]
  refine tot_for (fun k (t : Int32 × Mem) => t.1 = nI k ∧ (∀ q, q < k → t.2 45 0 q = 0) ∧ Fj KL [(0, 5), (0, 6)] m t.2) 156 ?_ ?_ 0 _ (Nat.zero_le _) ⟨rfl, fun q hq => absurd hq (Nat.not_lt_zero q), Fj.rf⟩
  · rintro k ⟨x2, m1⟩ hk ⟨e1, e2, hF⟩
    dsimp only at e1 e2 hF ⊢
    subst e1
    unfold r_X0_findLook_b2
    rw [if_neg (show ¬ (156 : Int32) ≤ nI (k) from nI_ge (b := 156) (a := k) (by omega) (by omega)), if_pos (inb_nI (by omega) (by omega)), clamp_nI (by omega)]
    refine tot_some.mpr ⟨(nI_succ k).symm, fun q hq => ?_, hF.wrK (by simp) _ _⟩
    show wr m1 45 0 k 0 45 0 q = 0
    rw [wr_if]
    by_cases h : q = k
    · rw [if_pos h]
    · rw [if_neg h]
      exact e2 q (by omega)
  · rintro ⟨x2, m1⟩ ⟨e1, e2, hF⟩
    dsimp only at e1 e2 hF ⊢
    subst e1
    unfold r_X0_findLook_b2
    rw [if_pos (by decide), tot_some]
    show Tot (r_X0_findLook_e24_h2 0 0 m1) _
    unfold r_X0_findLook_e24_h2 r_X0_findLook_l26
    rw [tot_bd1]
    generalize hok : okS w (m 36 0) r = ok
    refine tot_for (fun k (t : Int32 × Mem) => t.1 = nI k ∧ (∀ a, a < wP w → m 36 0 a = -1 → ∀ d, d < 13 → t.2 45 0 (13 * a + d) = nI (lkn ok (fun s => nix w (silQ r s (12 * wN w)) a) d k)) ∧ Fj KL [(0, 5), (0, 6)] m t.2) (2 ^ wN w) ?_ ?_ 0 _ (Nat.zero_le _) ⟨rfl, fun a ha hb d hd => e2 _ (by omega), hF⟩
    · rintro k ⟨x3, m2⟩ hk ⟨f1, f2, hF2⟩
      dsimp only at f1 f2 hF2 ⊢
      subst f1
      have hL1 : CL w m2 := hL.fj hF2 (by decide) (by decide)
      have hC1 : CW w m2 := hC.fj hF2 (by decide) (by decide)
      have hS1 : StC w r m2 0 := hS.fj hF2 (by decide) (by decide)
      unfold r_X0_findLook_b26
      rw [hL1.2.2.1, hN.1, shl_pow _ (by omega), if_neg (nI_ge hk (by omega)), tot_bd1]
      refine (forgotten_c hW hS1).mono ?_
      rintro m3 ⟨g1, g2⟩
      have hF3 : Fj KS [] m2 m3 := g2.j
      rw [tot_bd2]
      refine (asTold_c hW (hL1.fj hF3 (by decide) (by simp)) (hC1.fj hF3 (by decide) (by simp)) g1).mono ?_
      rintro ⟨z, m4⟩ ⟨i1, i2⟩
      dsimp only at i1 i2 ⊢
      have h36 : m3 36 0 = m 36 0 := (g2 36 0 (by decide)).trans (hF2.rw' 36 0 (by decide) (by decide))
      rw [h36] at i1
      have i1' : z = ok k := by rw [← hok]; exact i1
      have h45 : m4 45 0 = m2 45 0 := (i2 45 0 (by decide)).trans (g2 45 0 (by decide))
      have hF4 : Fj KL [(0, 5), (0, 6)] m m4 := (hF2.tr (hF3.mono (by simp) (by simp))).tr ((i2.mono (by simp)).j)
      unfold r_X0_findLook_j58_c26
      by_cases hz : z = true
      · rw [if_pos hz, tot_bd1]
        have i2' : Fj [(33, 0), (35, 0)] [] m3 m4 := i2.j
        refine (tally_c hW (hL.fj hF4 (by decide) (by decide)) (hC.fj hF4 (by decide) (by decide)) (g1.fj i2' (by decide) (by simp))).mono ?_
        rintro m5 ⟨t1, t2⟩
        refine tot_some.mpr ⟨(nI_succ k).symm, fun a ha hb d hd => ?_, hF4.tr ((t2.mono (by simp)).j)⟩
        have hb4 : m4 36 0 a = -1 := by rw [hF4.rw' 36 0 (by decide) (by decide)]; exact hb
        show m5 45 0 (13 * a + d) = nI (lkn ok (fun s => nix w (silQ r s (12 * wN w)) a) d k + (if ok k = true ∧ nix w (silQ r k (12 * wN w)) a = d then 1 else 0))
        rw [t1 a ha hb4 d hd, h45, f2 a ha hb d hd]
        by_cases hd2 : nix w (silQ r k (12 * wN w)) a = d
        · rw [if_pos hd2, if_pos ⟨i1'.symm.trans hz, hd2⟩]
          exact (nI_succ _).symm
        · rw [if_neg hd2, if_neg (fun q => hd2 q.2), add0]
          rfl
      · rw [if_neg hz]
        refine tot_some.mpr ⟨(nI_succ k).symm, fun a ha hb d hd => ?_, hF4⟩
        show m4 45 0 (13 * a + d) = nI (lkn ok (fun s => nix w (silQ r s (12 * wN w)) a) d k + (if ok k = true ∧ nix w (silQ r k (12 * wN w)) a = d then 1 else 0))
        rw [h45, f2 a ha hb d hd, if_neg (fun q => hz (i1'.trans q.1))]
        rfl
    · rintro ⟨x3, m2⟩ ⟨f1, f2, hF2⟩
      dsimp only at f1 f2 hF2 ⊢
      subst f1
      have hL1 : CL w m2 := hL.fj hF2 (by decide) (by decide)
      unfold r_X0_findLook_b26
      rw [hL1.2.2.1, hN.1, shl_pow _ (by omega), if_pos (nI_le (Nat.le_refl _) (by omega)), tot_some]
      show Tot (r_X0_findLook_e64_h26 0 m2) _
      unfold r_X0_findLook_e64_h26 r_X0_findLook_l76
      rw [tot_bd1]
      generalize hlf : (fun a => mxn (fun d => lkn ok (fun s => nix w (silQ r s (12 * wN w)) a) d (2 ^ wN w)) 13) = lf
      have hlf2 : ∀ a, mxn (fun d => lkn ok (fun s => nix w (silQ r s (12 * wN w)) a) d (2 ^ wN w)) 13 = lf a := fun a => by rw [← hlf]
      have hz : lkz w (m 36 0) r = lkb (fun a => decide (m 36 0 a = -1)) lf (wP w) := by
        rw [← hlf, ← hok]
      rw [hz]
      refine tot_for (fun k (t : Int32 × Mem) => t.1 = nI k ∧ t.2 45 0 = m2 45 0 ∧ t.2 0 0 5 = (lkb (fun a => decide (m 36 0 a = -1)) lf k).1 ∧ t.2 0 0 6 = (lkb (fun a => decide (m 36 0 a = -1)) lf k).2 ∧ Fj KL [(0, 5), (0, 6)] m t.2) (wP w) ?_ ?_ 0 _ (Nat.zero_le _) ⟨rfl, ?_, ?_, ?_, (hF2.wrJ (by simp) _ _).wrJ (by simp) _ _⟩
      · rintro k ⟨x4, m3⟩ hk ⟨u1, u2, u3, u4, hF3⟩
        dsimp only at u1 u2 u3 u4 hF3 ⊢
        subst u1
        have h36 : m3 36 0 = m 36 0 := hF3.rw' 36 0 (by decide) (by decide)
        have st : lkb (fun a => decide (m 36 0 a = -1)) lf (k + 1) = if decide (m 36 0 k = -1) = true ∧ ((lkb (fun a => decide (m 36 0 a = -1)) lf k).1 = -1 ∨ nI (lf k) < (lkb (fun a => decide (m 36 0 a = -1)) lf k).2) then (nI k, nI (lf k)) else lkb (fun a => decide (m 36 0 a = -1)) lf k := rfl
        unfold r_X0_findLook_b76
        rw [(hL.fj hF3 (by decide) (by decide)).1, hP.1, if_neg (nI_ge hk (by omega)), if_pos (inb_nI (by omega) (by omega)), clamp_nI (by omega), h36]
        unfold r_X0_findLook_j121_c76 r_X0_findLook_j132_c76
        by_cases hb : m 36 0 k = -1
        · have hw : r_X0_worstOf (nI k) m3 = some (nI (lf k)) := by
            rw [← hlf2 k]
            refine worst_c (by omega) (fun d => ?_) (fun d hd => ?_)
            · have := lkn_le ok (fun s => nix w (silQ r s (12 * wN w)) k) d (2 ^ wN w)
              omega
            · rw [u2]
              exact f2 k hk hb d hd
          rw [if_pos hb, bd1_s hw, u3, u4]
          have take : lkb (fun a => decide (m 36 0 a = -1)) lf (k + 1) = (nI k, nI (lf k)) → Tot (some (Sum.inl (nI k + 1, wr (wr m3 0 0 5 (nI k)) 0 0 6 (nI (lf k)))) : Option ((Int32 × Mem) ⊕ Mem)) (Sum.elim (fun t : Int32 × Mem => t.1 = nI (k + 1) ∧ t.2 45 0 = m2 45 0 ∧ t.2 0 0 5 = (lkb (fun a => decide (m 36 0 a = -1)) lf (k + 1)).1 ∧ t.2 0 0 6 = (lkb (fun a => decide (m 36 0 a = -1)) lf (k + 1)).2 ∧ Fj KL [(0, 5), (0, 6)] m t.2) (fun x => Tot (r_X0_findLook_e138_h76 x) (fun m' => m' 0 0 5 = (lkb (fun a => decide (m 36 0 a = -1)) lf (wP w)).1 ∧ m' 0 0 6 = (lkb (fun a => decide (m 36 0 a = -1)) lf (wP w)).2 ∧ Fj KL [(0, 5), (0, 6)] m m'))) := by
            intro hst
            rw [hst]
            refine tot_some.mpr ⟨(nI_succ k).symm, ?_, ?_, ?_, (hF3.wrJ (by simp) _ _).wrJ (by simp) _ _⟩
            · funext q
              show wr (wr m3 0 0 5 (nI k)) 0 0 6 (nI (lf k)) 45 0 q = _
              rw [wr_k (by decide), wr_k (by decide), u2]
            · show wr (wr m3 0 0 5 (nI k)) 0 0 6 (nI (lf k)) 0 0 5 = _
              rw [wr_j (by decide), wr_eq]
            · show wr (wr m3 0 0 5 (nI k)) 0 0 6 (nI (lf k)) 0 0 6 = _
              exact wr_eq _ _ _ _ _
          by_cases h5 : (lkb (fun a => decide (m 36 0 a = -1)) lf k).1 = -1
          · rw [if_pos h5]
            exact take (st.trans (if_pos ⟨decide_eq_true hb, Or.inl h5⟩))
          · rw [if_neg h5]
            by_cases h6 : (lkb (fun a => decide (m 36 0 a = -1)) lf k).2 ≤ nI (lf k)
            · rw [if_pos h6, st, if_neg (fun q => q.2.elim h5 (fun q2 => (lt_iff.mp q2) h6))]
              exact tot_some.mpr ⟨(nI_succ k).symm, u2, u3, u4, hF3⟩
            · rw [if_neg h6]
              exact take (st.trans (if_pos ⟨decide_eq_true hb, Or.inr (lt_iff.mpr h6)⟩))
        · rw [if_neg hb, st, if_neg (fun q => hb (of_decide_eq_true q.1))]
          exact tot_some.mpr ⟨(nI_succ k).symm, u2, u3, u4, hF3⟩
      · rintro ⟨x4, m3⟩ ⟨u1, u2, u3, u4, hF3⟩
        dsimp only at u1 u2 u3 u4 hF3 ⊢
        subst u1
        unfold r_X0_findLook_b76
        rw [(hL.fj hF3 (by decide) (by decide)).1, hP.1, if_pos (nI_le (Nat.le_refl _) (by omega)), tot_some]
        exact tot_some.mpr ⟨u3, u4, hF3⟩
      · funext q
        show wr (wr m2 0 0 5 (-1)) 0 0 6 (-1) 45 0 q = _
        rw [wr_k (by decide), wr_k (by decide)]
      · show wr (wr m2 0 0 5 (-1)) 0 0 6 (-1) 0 0 5 = -1
        rw [wr_j (by decide), wr_eq]
      · show wr (wr m2 0 0 5 (-1)) 0 0 6 (-1) 0 0 6 = -1
        exact wr_eq _ _ _ _ _
abbrev K87 : List (Nat × Nat) := [(87, 0), (87, 1), (87, 2), (87, 3), (87, 4), (87, 5), (87, 6), (87, 7), (87, 8), (87, 9), (87, 10), (87, 11), (55, 0), (56, 0), (60, 1)]
theorem in87 : ∀ a, a < 12 → (87, a) ∈ K87 := by decide
theorem isTold_m {w : Wd} {m : Mem} {b : Nat → Int32} {n a : Nat} (hB : Bks w b n m) (hP : wP w ≤ 12) (ha : a < 12) : r_X12_isTold (nI a) m = some (decide (¬ b a = -1)) := by
  have hn := hB.1
  have hh : Tot (r_X12_isTold (nI a) m) (fun z => z = decide (¬ b a = -1)) := by
    unfold r_X12_isTold r_X12_isTold_l2
    rw [tot_bdS]
    refine tot_for (fun k (t : Int32) => t = nI k ∧ ∀ j, j < k → ¬ m 77 j 0 = nI a) n ?_ ?_ 0 _ (Nat.zero_le _) ⟨rfl, fun j hj => absurd hj (Nat.not_lt_zero j)⟩
    · rintro k t hk ⟨e1, e2⟩
      subst e1
      obtain ⟨a2, c, ha2, hc, l1, l2, l3⟩ := hB.2.2.1 k hk
      unfold r_X12_isTold_b2
      rw [hB.2.1, if_neg (nI_ge hk (by omega)), if_pos (inb_nI (by omega) (by omega)), clamp_nI (by omega)]
      by_cases h : m 77 k 0 = nI a
      · rw [if_pos h]
        have : a2 = a := (nI_eq (by omega) (by omega)).mp (l1.symm.trans h)
        refine tot_some.mpr (tot_some.mpr (decide_eq_true ?_).symm)
        rw [← this, l3]
        exact m1_ne (by omega)
      · rw [if_neg h]
        refine tot_some.mpr ⟨(nI_succ k).symm, fun j hj => ?_⟩
        by_cases hjk : j = k
        · rw [hjk]; exact h
        · exact e2 j (by omega)
    · rintro t ⟨e1, e2⟩
      subst e1
      unfold r_X12_isTold_b2
      rw [hB.2.1, if_pos (nI_le (Nat.le_refl _) (by omega)), tot_some]
      refine tot_some.mpr (decide_eq_false ?_).symm
      rcases hB.2.2.2 a ha with h | ⟨j, hj, h⟩
      · exact fun q => q h
      · exact absurd h (e2 j hj)
  obtain ⟨z, hz, e⟩ := hh
  rw [hz, e]
theorem clr87_m {m : Mem} {x : Int32} : Tot (loopO (fun s => r_X12_look_b32 x s.1 s.2) (0, m)) (fun m' => (∀ a d, a < 12 → d < 13 → m' 87 a d = 0) ∧ Fj K87 [] m m') := by
  refine tot_for (fun k (t : Int32 × Mem) => t.1 = nI k ∧ (∀ a d, a < k → d < 13 → t.2 87 a d = 0) ∧ Fj K87 [] m t.2) 12 ?_ ?_ 0 _ (Nat.zero_le _) ⟨rfl, fun a d ha => absurd ha (Nat.not_lt_zero a), Fj.rf⟩
  · rintro k ⟨x2, m1⟩ hk ⟨e1, e2, hF⟩
    dsimp only at e1 e2 hF ⊢
    subst e1
    unfold r_X12_look_b32 r_X12_look_l40_c32
    rw [if_neg (show ¬ (12 : Int32) ≤ nI (k) from nI_ge (b := 12) (a := k) (by omega) (by omega)), tot_bd1]
    refine tot_for (fun d (t : Int32 × Mem) => t.1 = nI d ∧ (∀ d2, d2 < d → t.2 87 k d2 = 0) ∧ (∀ a, ¬ a = k → t.2 87 a = m1 87 a) ∧ Fj K87 [] m t.2) 13 ?_ ?_ 0 _ (Nat.zero_le _) ⟨rfl, fun d hd => absurd hd (Nat.not_lt_zero d), fun _ _ => rfl, hF⟩
    · rintro d ⟨x3, m2⟩ hd ⟨f1, f2, f3, hF2⟩
      dsimp only at f1 f2 f3 hF2 ⊢
      subst f1
      unfold r_X12_look_b40_c32
      rw [if_neg (show ¬ (12 : Int32) < nI d from nI_nlt (a := 12) (b := d) (by omega) (by omega)), if_pos (inb_nI (by omega) (by omega)), if_pos (inb_nI (by omega) (by omega)), clamp_nI (k := k) (by omega), clamp_nI (k := d) (by omega)]
      refine tot_some.mpr ⟨(nI_succ d).symm, fun d2 hd2 => ?_, fun a ha => ?_, hF2.wrK (in87 k hk) _ _⟩
      · show wr m2 87 k d 0 87 k d2 = 0
        rw [wr_if]
        by_cases h : d2 = d
        · rw [if_pos h]
        · rw [if_neg h]; exact f2 d2 (by omega)
      · funext q
        show wr m2 87 k d 0 87 a q = _
        rw [wr_i ha]
        exact congrFun (f3 a ha) q
    · rintro ⟨x3, m2⟩ ⟨f1, f2, f3, hF2⟩
      dsimp only at f1 f2 f3 hF2 ⊢
      subst f1
      unfold r_X12_look_b40_c32
      rw [if_pos (by decide), tot_some]
      refine tot_some.mpr ⟨(nI_succ k).symm, fun a d ha hd => ?_, hF2⟩
      show m2 87 a d = 0
      by_cases h : a = k
      · rw [h]; exact f2 d hd
      · rw [f3 a h]; exact e2 a d (by omega) hd
  · rintro ⟨x2, m1⟩ ⟨e1, e2, hF⟩
    dsimp only at e1 e2 hF ⊢
    subst e1
    unfold r_X12_look_b32
    rw [if_pos (by decide), tot_some]
    exact ⟨e2, hF⟩
/-- the reference tallies -/
theorem tally_m {m : Mem} {x s : Int32} {r : Rw} (hW : WF (mW m)) (hE : Er (m 60 1) r) : Tot (r_X12_look_l91_c69 x s 0 m) (fun q => ∃ m', q = Sum.inl (s + 1, m') ∧ (∀ a d, a < wP (mW m) → d < 13 → m' 87 a d = m 87 a d + (if nix (mW m) r a = d then 1 else 0)) ∧ Fj K87 [] m m' ∧ m' 60 1 = m 60 1) := by
  have hP := hW.1
  unfold r_X12_look_l91_c69
  rw [tot_bd1]
  refine tot_for (fun k (t : Int32 × Mem) => t.1 = nI k ∧ (∀ a d, a < k → d < 13 → t.2 87 a d = m 87 a d + (if nix (mW m) r a = d then 1 else 0)) ∧ (∀ a, k ≤ a → t.2 87 a = m 87 a) ∧ Fj K87 [] m t.2 ∧ t.2 60 1 = m 60 1) (wP (mW m)) ?_ ?_ 0 _ (Nat.zero_le _) ⟨rfl, fun a d ha => absurd ha (Nat.not_lt_zero a), fun _ _ => rfl, Fj.rf, rfl⟩
  · rintro k ⟨x2, m1⟩ hk ⟨e1, e2, e3, hF, e4⟩
    dsimp only at e1 e2 e3 hF e4 ⊢
    subst e1
    have fW : mW m1 = mW m := mW_fj hF (by decide) (by simp)
    have h52 : m1 52 0 0 = nI (wP (mW m)) := by rw [hF.rw' 52 0 (by decide) (by simp)]; exact hP.1
    unfold r_X12_look_b91_c69
    rw [h52, if_neg (nI_ge hk (by omega)), if_pos (inb_nI (by omega) (by omega)), tot_bd2]
    refine (nextOf_tot (i := 1) (a := k) (by rw [fW]; exact hW) (by omega)).mono ?_
    rintro ⟨z, m2⟩ ⟨g1, g2⟩
    dsimp only at g1 g2 ⊢
    rw [fW, e4, nxt_er hW hE (by omega)] at g1
    obtain ⟨n1, n2⟩ := nix_eq hW r k
    have h87 : ∀ a, m2 87 a = m1 87 a := fun a => g2 87 a (by simp)
    rw [g1, n1, if_pos (inb_nI (by omega) (by omega)), clamp_nI (k := k) (by omega), clamp_nI (k := nix (mW m) r k) (by omega)]
    refine tot_some.mpr ⟨(nI_succ k).symm, fun a d ha hd => ?_, fun a ha => ?_, (hF.tr ((g2.mono (by simp)).j)).wrK (in87 k (by omega)) _ _, ?_⟩
    · show wr m2 87 k (nix (mW m) r k) _ 87 a d = _
      by_cases hak : a = k
      · rw [hak, wr_if]
        by_cases hd2 : nix (mW m) r k = d
        · rw [if_pos hd2.symm, if_pos hd2, h87, e3 k (Nat.le_refl _), hd2]
        · rw [if_neg (Ne.symm hd2), if_neg hd2, h87, e3 k (Nat.le_refl _), add0]
      · rw [wr_i hak, h87, e2 a d (by omega) hd]
    · funext q
      show wr m2 87 k (nix (mW m) r k) _ 87 a q = _
      rw [wr_i (by omega), h87, e3 a (by omega)]
    · funext q
      dsimp only
      rw [wr_k (by decide), g2 60 1 (by decide), e4]
  · rintro ⟨x2, m1⟩ ⟨e1, e2, e3, hF, e4⟩
    dsimp only at e1 e2 e3 hF e4 ⊢
    subst e1
    have h52 : m1 52 0 0 = nI (wP (mW m)) := by rw [hF.rw' 52 0 (by decide) (by simp)]; exact hP.1
    unfold r_X12_look_b91_c69
    rw [h52, if_pos (nI_le (Nat.le_refl _) (by omega)), tot_some]
    exact tot_some.mpr ⟨m1, rfl, e2, hF, e4⟩
set_option maxHeartbeats 1000000 in
theorem look_m {m : Mem} {b : Nat → Int32} {n : Nat} {x : Int32} (hW : WF (mW m)) (hB : Bks (mW m) b n m) : Tot (r_X12_look_l32 x 0 m) (fun q => q.1 = (if x = 0 then (lkz (mW m) b (m 60 0)).1 else (lkz (mW m) b (m 60 0)).2) ∧ Fj K87 [] m q.2) := by
  have hP := hW.1
  have hN := hW.2.2.1
  have hp64 : 2 ^ wN (mW m) ≤ 2 ^ 6 := Nat.pow_le_pow_right (by decide) hN.2
  unfold r_X12_look_l32
  rw [tot_bd1]
  refine clr87_m.mono ?_
  rintro m1 ⟨e2, hF⟩
  unfold r_X12_look_e67_h32 r_X12_look_l69
  rw [tot_bd1]
  generalize hok : okS (mW m) b (m 60 0) = ok
  refine tot_for (fun k (t : Int32 × Mem) => t.1 = nI k ∧ (∀ a d, a < wP (mW m) → d < 13 → t.2 87 a d = nI (lkn ok (fun s => nix (mW m) (silQ (m 60 0) s (12 * wN (mW m))) a) d k)) ∧ Fj K87 [] m t.2) (2 ^ wN (mW m)) ?_ ?_ 0 _ (Nat.zero_le _) ⟨rfl, fun a d ha hd => e2 a d (by omega) hd, hF⟩
  · rintro k ⟨x3, m2⟩ hk ⟨f1, f2, hF2⟩
    dsimp only at f1 f2 hF2 ⊢
    subst f1
    have fW : mW m2 = mW m := mW_fj hF2 (by decide) (by simp)
    have h60 : m2 60 0 = m 60 0 := hF2.rw' 60 0 (by decide) (by simp)
    have h52 : m2 52 0 2 = nI (wN (mW m)) := by rw [hF2.rw' 52 0 (by decide) (by simp)]; exact hN.1
    unfold r_X12_look_b69
    rw [h52, shl_pow _ (by omega), if_neg (nI_ge hk (by omega)), tot_bd2]
    refine (isForgotten_m (s := k) (b := b) (k := n) (by rw [fW]; exact hW) (by rw [fW]; exact hB.fj hF2 (by decide) (by simp))).mono ?_
    rw [fW, h60]
    rintro ⟨z, m3⟩ ⟨g1, g2, g3⟩
    dsimp only at g1 g2 g3 ⊢
    have i1' : z = ok k := by rw [← hok]; exact g1
    have hF3 : Fj K87 [] m m3 := hF2.tr ((g3.mono (by simp)).j)
    have fW3 : mW m3 = mW m := mW_fj hF3 (by decide) (by simp)
    have h87 : ∀ a, m3 87 a = m2 87 a := fun a => g3 87 a (by simp)
    by_cases hz : z = true
    · rw [if_pos hz]
      refine (tally_m (r := silQ (m 60 0) k (12 * wN (mW m))) (by rw [fW3]; exact hW) g2).mono ?_
      rw [fW3]
      rintro q ⟨m4, rfl, t1, t2, t3⟩
      refine ⟨(nI_succ k).symm, fun a d ha hd => ?_, hF3.tr t2⟩
      show m4 87 a d = nI (lkn ok (fun s => nix (mW m) (silQ (m 60 0) s (12 * wN (mW m))) a) d k + (if ok k = true ∧ nix (mW m) (silQ (m 60 0) k (12 * wN (mW m))) a = d then 1 else 0))
      rw [t1 a d ha hd, h87, f2 a d ha hd]
      by_cases hd2 : nix (mW m) (silQ (m 60 0) k (12 * wN (mW m))) a = d
      · rw [if_pos hd2, if_pos ⟨i1'.symm.trans hz, hd2⟩]
        exact (nI_succ _).symm
      · rw [if_neg hd2, if_neg (fun q => hd2 q.2), add0]
        rfl
    · rw [if_neg hz]
      unfold r_X12_look_j129_c69
      refine tot_some.mpr ⟨(nI_succ k).symm, fun a d ha hd => ?_, hF3⟩
      show m3 87 a d = nI (lkn ok (fun s => nix (mW m) (silQ (m 60 0) s (12 * wN (mW m))) a) d k + (if ok k = true ∧ nix (mW m) (silQ (m 60 0) k (12 * wN (mW m))) a = d then 1 else 0))
      rw [h87, f2 a d ha hd, if_neg (fun q => hz (i1'.trans q.1))]
      rfl
  · rintro ⟨x3, m2⟩ ⟨f1, f2, hF2⟩
    dsimp only at f1 f2 hF2 ⊢
    subst f1
    have h52 : m2 52 0 2 = nI (wN (mW m)) := by rw [hF2.rw' 52 0 (by decide) (by simp)]; exact hN.1
    have h520 : m2 52 0 0 = nI (wP (mW m)) := by rw [hF2.rw' 52 0 (by decide) (by simp)]; exact hP.1
    unfold r_X12_look_b69
    rw [h52, shl_pow _ (by omega), if_pos (nI_le (Nat.le_refl _) (by omega)), tot_some]
    show Tot (r_X12_look_e135_h69 x m2) _
    unfold r_X12_look_e135_h69 r_X12_look_l142
    rw [tot_bd1]
    generalize hlf : (fun a => mxn (fun d => lkn ok (fun s => nix (mW m) (silQ (m 60 0) s (12 * wN (mW m))) a) d (2 ^ wN (mW m))) 13) = lf
    have hlf2 : ∀ a, mxn (fun d => lkn ok (fun s => nix (mW m) (silQ (m 60 0) s (12 * wN (mW m))) a) d (2 ^ wN (mW m))) 13 = lf a := fun a => by rw [← hlf]
    have hz : lkz (mW m) b (m 60 0) = lkb (fun a => decide (b a = -1)) lf (wP (mW m)) := by
      rw [← hlf, ← hok]
    rw [hz]
    have hB2 : Bks (mW m) b n m2 := hB.fj hF2 (by decide) (by simp)
    refine tot_for (fun k (t : Int32 × Int32 × Int32) => t.1 = (lkb (fun a => decide (b a = -1)) lf k).1 ∧ t.2.1 = (lkb (fun a => decide (b a = -1)) lf k).2 ∧ t.2.2 = nI k) (wP (mW m)) ?_ ?_ 0 _ (Nat.zero_le _) ⟨rfl, rfl, rfl⟩
    · rintro k ⟨x2, x3, x4⟩ hk ⟨u1, u2, u3⟩
      dsimp only at u1 u2 u3 ⊢
      subst u1 u2 u3
      have st : lkb (fun a => decide (b a = -1)) lf (k + 1) = if decide (b k = -1) = true ∧ ((lkb (fun a => decide (b a = -1)) lf k).1 = -1 ∨ nI (lf k) < (lkb (fun a => decide (b a = -1)) lf k).2) then (nI k, nI (lf k)) else lkb (fun a => decide (b a = -1)) lf k := rfl
      unfold r_X12_look_b142
      rw [h520, if_neg (nI_ge hk (by omega)), bd1_s (isTold_m hB2 hP.2 (by omega))]
      unfold r_X12_look_j221_c142 r_X12_look_l171_c142
      by_cases hb : b k = -1
      · rw [if_neg (by simp [hb]), tot_bd1]
        have bb : ∀ d, lkn ok (fun s => nix (mW m) (silQ (m 60 0) s (12 * wN (mW m))) k) d (2 ^ wN (mW m)) ≤ 64 := fun d => by
          have := lkn_le ok (fun s => nix (mW m) (silQ (m 60 0) s (12 * wN (mW m))) k) d (2 ^ wN (mW m))
          omega
        refine tot_for (fun d (t : Int32 × Int32) => t.1 = nI (mxn (fun d => lkn ok (fun s => nix (mW m) (silQ (m 60 0) s (12 * wN (mW m))) k) d (2 ^ wN (mW m))) d) ∧ t.2 = nI d) 13 ?_ ?_ 0 _ (Nat.zero_le _) ⟨rfl, rfl⟩
        · rintro d ⟨x5, x6⟩ hd ⟨v1, v2⟩
          dsimp only at v1 v2 ⊢
          subst v1 v2
          have b1 := mxn_le bb d
          have b2 := bb d
          unfold r_X12_look_b171_c142
          rw [if_neg (show ¬ (12 : Int32) < nI d from nI_nlt (a := 12) (b := d) (by omega) (by omega)), if_pos (inb_nI (by omega) (by omega)), if_pos (inb_nI (by omega) (by omega)), clamp_nI (k := k) (by omega), clamp_nI (k := d) (by omega), f2 k d hk hd, more_nI (by omega) (by omega)]
          exact tot_some.mpr ⟨rfl, (nI_succ d).symm⟩
        · rintro ⟨x5, x6⟩ ⟨v1, v2⟩
          dsimp only at v1 v2 ⊢
          rw [hlf2 k] at v1
          subst v1 v2
          unfold r_X12_look_b171_c142
          rw [if_pos (by decide), tot_some]
          show Tot (r_X12_look_e201_h171_c142 _ _ _ _ _ _) _
          unfold r_X12_look_e201_h171_c142 r_X12_look_j215_c142 r_X12_look_j221_c142
          by_cases h5 : (lkb (fun a => decide (b a = -1)) lf k).1 = -1
          · rw [if_pos h5, st, if_pos ⟨decide_eq_true hb, Or.inl h5⟩]
            exact tot_some.mpr ⟨rfl, rfl, (nI_succ k).symm⟩
          · rw [if_neg h5]
            by_cases h6 : nI (lf k) < (lkb (fun a => decide (b a = -1)) lf k).2
            · rw [if_pos h6, st, if_pos ⟨decide_eq_true hb, Or.inr h6⟩]
              exact tot_some.mpr ⟨rfl, rfl, (nI_succ k).symm⟩
            · rw [if_neg h6, st, if_neg (fun q => q.2.elim h5 h6)]
              exact tot_some.mpr ⟨rfl, rfl, (nI_succ k).symm⟩
      · rw [if_pos (decide_eq_true hb), st, if_neg (fun q => hb (of_decide_eq_true q.1))]
        exact tot_some.mpr ⟨rfl, rfl, (nI_succ k).symm⟩
    · rintro ⟨x2, x3, x4⟩ ⟨u1, u2, u3⟩
      dsimp only at u1 u2 u3 ⊢
      subst u1 u2 u3
      unfold r_X12_look_b142
      rw [h520, if_pos (nI_le (Nat.le_refl _) (by omega)), tot_some]
      show Tot (r_X12_look_e227_h142 _ _ _ _) _
      unfold r_X12_look_e227_h142
      by_cases hx : x = 0
      · rw [if_pos hx, if_pos hx]
        exact tot_some.mpr ⟨rfl, hF2⟩
      · rw [if_neg hx, if_neg hx]
        exact tot_some.mpr ⟨rfl, hF2⟩
theorem pair_look {m : Mem} (hI : Inv m) (x : Int32) : Pair (fun m => r_L_look x m) (fun m => r_X12_look x m) m := by
  obtain ⟨hW, hR, hL, hC, hS⟩ := hI.1
  obtain ⟨bk, b1, b2, b3, b4, b5⟩ := hI.2.2.2.2.1
  have hB : Bks (mW m) (m 36 0) bk m := ⟨b1, b3, b4, b5⟩
  by_cases hx : 0 ≤ x ∧ x ≤ 1
  case neg =>
    refine Pair.b1 (c := 1) hI rfl (by decide) ?_ (fun m3 e h3 => ?_)
    · unfold r_X11_look
      rw [thr_r (needRange_f hx)]
    · unfold r_X12_look r_X12_look_j20
      rw [if_neg (by rw [in_f hx]; decide), bd2_s (bad_11 (by decide)), if_pos rfl]
  refine Pair.ok (z := if x = 0 then (lkz (mW m) (m 36 0) (m 60 0)).1 else (lkz (mW m) (m 36 0) (m 60 0)).2) KL [(0, 5), (0, 6)] K87 [(12, 0)] hI ?_ (fun m3 _ hF => ?_) rfl rfl rfl rfl rfl rfl
  · unfold r_X11_look
    rw [thr_l (needRange_t hx), tot_bd1]
    refine (look_c hW hL hC hS).mono ?_
    rintro m1 ⟨h1, h2, h4⟩
    rw [h1, h2]
    by_cases h0 : x = 0
    · rw [if_pos h0, if_pos h0]
      exact tot_some.mpr ⟨rfl, h4⟩
    · rw [if_neg h0, if_neg h0]
      exact tot_some.mpr ⟨rfl, h4⟩
  · obtain ⟨e, h60⟩ := pre3 hF (by decide) (by decide) (by decide) (by decide)
    have hW3 : WF (mW (wr m3 12 0 0 0)) := by rw [e]; exact hW
    have hB3 : Bks (mW (wr m3 12 0 0 0)) (m 36 0) bk (wr m3 12 0 0 0) := by
      rw [e]
      exact (hB.fj hF (by decide) (by decide)).fj (th_fj m3 0) (by simp) (by decide)
    unfold r_X12_look r_X12_look_j20
    rw [if_pos (in_t hx), bd2_s bad_0, if_neg (by decide)]
    have hm := look_m (x := x) hW3 hB3
    rw [e, h60] at hm
    refine hm.mono ?_
    rintro ⟨q1, m4⟩ ⟨g1, g4⟩
    exact ⟨g1, (g4 12 0 0 (by decide) (by decide)).trans (th_z m3 0), ((th_fj m3 0).mono (by simp) (by simp)).tr (g4.mono (by simp) (by simp))⟩
