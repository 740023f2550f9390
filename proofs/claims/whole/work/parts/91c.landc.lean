/-! ===== the land's clauses: the class ===== -/
def LC (S : Wd) (m : Mem) : Prop := (∀ k, k < 4 → m 3 1 k = S 0 k) ∧ (∀ a, a < wP S → m 25 1 a = S 1 a) ∧ (∀ e, e < wD S → m 27 1 e = S 2 e ∧ m 28 1 e = S 3 e) ∧ (∀ a c, a < 12 → c < 12 → m 29 1 (12 * a + c) = bw S a c) ∧ (∀ a, a < 12 → ∀ x, x < 32 → bt (m 26 1 a) x = decide (x < 12 ∧ ¬ bw S a x = -1)) ∧ (∀ p, p < wN S → m 30 1 p = S 4 p ∧ m 31 1 p = S 5 p) ∧ ∀ q, q < 72 → m 32 1 q = S 6 q
theorem LC.fj {K J : List (Nat × Nat)} {S : Wd} {m m' : Mem} (h : LC S m) (hF : Fj K J m m') (hK : ∀ q ∈ K, q.1 ∈ [3, 25, 26, 27, 28, 29, 30, 31, 32] → ¬ q.2 = 1) (hJ : ∀ q ∈ J, q.1 ∉ [3, 25, 26, 27, 28, 29, 30, 31, 32]) : LC S m' := by
  have hr : ∀ k, k ∈ [3, 25, 26, 27, 28, 29, 30, 31, 32] → m' k 1 = m k 1 := fun k hk => hF.rw' k 1 (fun q hq e => hK q hq (by rw [e]; exact hk) (by rw [e])) (fun q hq e => hJ q hq (by rw [e]; exact hk))
  unfold LC at h ⊢
  rw [hr 3 (by decide), hr 25 (by decide), hr 26 (by decide), hr 27 (by decide), hr 28 (by decide), hr 29 (by decide), hr 30 (by decide), hr 31 (by decide), hr 32 (by decide)]
  exact h
theorem bw_cg {S S' : Wd} (h2 : ∀ e, S' 2 e = S 2 e) (h3 : ∀ e, S' 3 e = S 3 e) (hD : wD S' = wD S) (a c : Nat) : bw S' a c = bw S a c := by
  have : hit S' (nI a) (nI c) = hit S (nI a) (nI c) := by
    funext e
    unfold hit
    rw [h2, h3]
  unfold bw btw
  rw [this, hD]
theorem hit_sy (w : Wd) (a c : Int32) (e : Nat) : hit w a c e = hit w c a e := by
  unfold hit
  exact decide_eq_decide.mpr Or.comm
theorem bw_sy (w : Wd) (a c : Nat) : bw w a c = bw w c a := by
  have : hit w (nI a) (nI c) = hit w (nI c) (nI a) := by
    funext e
    exact hit_sy w _ _ e
  unfold bw btw
  rw [this]
theorem bw_no {w : Wd} {a c : Nat} (h : bw w a c = -1) (hD : wD w ≤ 16) : ∀ e, e < wD w → hit w (nI a) (nI c) e = false := by
  have h' : (if fa_first (hit w (nI a) (nI c)) (wD w) < wD w then nI (fa_first (hit w (nI a) (nI c)) (wD w)) else -1) = (-1 : Int32) := h
  by_cases q : fa_first (hit w (nI a) (nI c)) (wD w) < wD w
  · rw [if_pos q] at h'
    exact absurd h' (m1_ne (by omega))
  · intro e he
    have := fa_first_le (hit w (nI a) (nI c)) (wD w)
    exact fa_first_no (hit w (nI a) (nI c)) (wD w) e (by omega)
theorem bw_add {S : Wd} {a c x y : Nat} (hD : wD S < 16) (ha : a < 12) (hc : c < 12) (hx : x < 12) (hy : y < 12) (h : bw S a c = -1) : bw (upS (upS (upS S 2 (wD S) (nI a)) 3 (wD S) (nI c)) 0 1 (nI (wD S + 1))) x y = if (x = a ∧ y = c) ∨ (x = c ∧ y = a) then nI (wD S) else bw S x y := by
  have eD : wD (upS (upS (upS S 2 (wD S) (nI a)) 3 (wD S) (nI c)) 0 1 (nI (wD S + 1))) = wD S + 1 := lw_eD (upS_at _ _ _ _) (by omega)
  have hlo : ∀ e, e < wD S → hit (upS (upS (upS S 2 (wD S) (nI a)) 3 (wD S) (nI c)) 0 1 (nI (wD S + 1))) (nI x) (nI y) e = hit S (nI x) (nI y) e := fun e he => by
    unfold hit
    rw [upS_i (by decide), upS_i (by decide), upS_j (by omega), upS_i (by decide), upS_j (by omega), upS_i (by decide)]
  have hat : hit (upS (upS (upS S 2 (wD S) (nI a)) 3 (wD S) (nI c)) 0 1 (nI (wD S + 1))) (nI x) (nI y) (wD S) = decide ((x = a ∧ y = c) ∨ (x = c ∧ y = a)) := by
    unfold hit
    rw [upS_i (by decide), upS_i (by decide), upS_at, upS_i (by decide), upS_at]
    refine decide_eq_decide.mpr ?_
    rw [nI_eq (by omega) (by omega), nI_eq (by omega) (by omega), nI_eq (by omega) (by omega), nI_eq (by omega) (by omega)]
    omega
  unfold bw btw
  rw [eD]
  by_cases hz : bw S x y = -1
  · have hno := bw_no hz (by omega)
    by_cases hp : (x = a ∧ y = c) ∨ (x = c ∧ y = a)
    · rw [if_pos hp, first_at (k := wD S) (by omega) (by rw [hat]; exact decide_eq_true hp) (fun j hj => by rw [hlo j hj]; exact hno j hj), if_pos (by omega)]
    · rw [if_neg hp, first_none (n := wD S + 1) (fun j hj => by
        by_cases e : j = wD S
        · rw [e, hat]
          exact decide_eq_false hp
        · rw [hlo j (by omega)]
          exact hno j (by omega)), if_neg (by omega)]
      exact hz.symm
  · have hp : ¬ ((x = a ∧ y = c) ∨ (x = c ∧ y = a)) := by
      rintro (⟨e1, e2⟩ | ⟨e1, e2⟩)
      · rw [e1, e2] at hz
        exact hz h
      · rw [e1, e2, bw_sy] at hz
        exact hz h
    have hlt : fa_first (hit S (nI x) (nI y)) (wD S) < wD S := by
      by_cases q : fa_first (hit S (nI x) (nI y)) (wD S) < wD S
      · exact q
      · exact absurd (show bw S x y = -1 from if_neg q) hz
    rw [if_neg hp, first_at (k := fa_first (hit S (nI x) (nI y)) (wD S)) (by omega) (by rw [hlo _ hlt]; exact fa_first_yes _ _ hlt) (fun j hj => by rw [hlo j (by omega)]; exact fa_first_no _ _ j hj), if_pos (by omega), if_pos hlt]
abbrev KLd : List (Nat × Nat) := [(3, 1), (25, 1), (26, 1), (27, 1), (28, 1), (29, 1), (30, 1), (31, 1), (32, 1)]
def CPost (b : Nat → Int32) (L : Nat) (S : Wd) (s : Nat) (m0 : Mem) (q : Bool × Mem) : Prop := ((clB b L S s).1 = 0 → q.1 = true ∧ TC b L (clP b L s) q.2 ∧ LC (clS b L S s) q.2) ∧ (¬ (clB b L S s).1 = 0 → q.1 = false ∧ FtC (clB b L S s).1 (clB b L S s).2 q.2) ∧ Fj KLd JTc m0 q.2
theorem CPost.bad {b : Nat → Int32} {L s e : Nat} {S : Wd} {k : Int32} {m0 m : Mem} (hE : clB b L S s = (k, e)) (hk : ¬ k = 0) (hf : FtC k e m) (hF : Fj KLd JTc m0 m) : CPost b L S s m0 (false, m) := by
  unfold CPost
  rw [hE]
  exact ⟨fun q => absurd q hk, fun _ => ⟨rfl, hf⟩, hF⟩
theorem cPlace {b : Nat → Int32} {L s : Nat} {S : Wd} {m : Mem} (h : TC b L (wE b L s) m) (hl : lkd b L s = 0) (hW : LW S) (hC : LC S m) (hnf : ¬ wP S = 12) : Tot (r_X3_readPlace 1 m) (CPost b L S s m) := by
  have hP := hW.1
  unfold r_X3_readPlace
  rw [tot_bd2]
  refine (number_c h).mono ?_
  rintro ⟨z, m2⟩ ⟨g1, g2, g3⟩
  dsimp only at g1 g2 g3 ⊢
  have hE : clB b L S s = (nmE b L 0 60 (k1 b L s), k1 b L s) := by
    unfold clB
    rw [if_pos hl]
  have hF2 : Fj KLd JTc m m2 := g3.mono (by simp) (by simp)
  by_cases c1 : nmE b L 0 60 (k1 b L s) = 0
  case neg =>
    obtain ⟨e1, e2⟩ := g2 c1
    rw [e1, if_pos rfl]
    exact tot_some.mpr (CPost.bad hE c1 e2 hF2)
  obtain ⟨e1, e2, -⟩ := g1 c1
  have hC2 : LC S m2 := hC.fj g3 (by simp) (by decide)
  have q3 : m2 3 1 0 = nI (wP S) := (hC2.1 0 (by omega)).trans hP.1
  rw [e1, if_neg (nm_m1 c1 (by decide)), if_pos (show inb (m2 3 1 0) 12 = true by rw [q3]; exact (inb_nI (by omega) (by omega))), q3, clamp_nI (by omega), ← nI_succ]
  have hF3 : Fj KLd [] m2 (wr (wr m2 25 1 (wP S) (nmV b L (k1 b L s))) 3 1 0 (nI (wP S + 1))) := (Fj.rf.wrK (by simp) _ _).wrK (by simp) _ _
  refine tot_some.mpr ⟨fun _ => ⟨rfl, ?_, ?_⟩, fun n => absurd (by rw [hE]; exact c1) n, hF2.tr (hF3.mono (by simp) (by simp))⟩
  · unfold clP
    rw [if_pos hl]
    exact e2.fj hF3 (by decide) (by simp)
  · unfold clS
    rw [if_pos hl]
    have o : ∀ x y, ¬ x = 0 → ¬ x = 1 → upS (upS S 1 (wP S) (nmV b L (k1 b L s))) 0 0 (nI (wP S + 1)) x y = S x y := fun x y h1 h2 => by rw [upS_i h1, upS_i h2]
    have oz : ∀ y, ¬ y = 0 → upS (upS S 1 (wP S) (nmV b L (k1 b L s))) 0 0 (nI (wP S + 1)) 0 y = S 0 y := fun y h1 => by rw [upS_j h1, upS_i (by decide)]
    have eP : wP (upS (upS S 1 (wP S) (nmV b L (k1 b L s))) 0 0 (nI (wP S + 1))) = wP S + 1 := lw_ex (upS_at _ _ _ _) (by omega)
    have eD : wD (upS (upS S 1 (wP S) (nmV b L (k1 b L s))) 0 0 (nI (wP S + 1))) = wD S := lw_eD ((oz 1 (by decide)).trans hW.2.1.1) (by have := hW.2.1.2; omega)
    have eN : wN (upS (upS S 1 (wP S) (nmV b L (k1 b L s))) 0 0 (nI (wP S + 1))) = wN S := lw_eN ((oz 2 (by decide)).trans hW.2.2.1.1) (by have := hW.2.2.1.2; omega)
    have eB := bw_cg (S := S) (S' := upS (upS S 1 (wP S) (nmV b L (k1 b L s))) 0 0 (nI (wP S + 1))) (fun e => o 2 e (by decide) (by decide)) (fun e => o 3 e (by decide) (by decide)) eD
    have w : ∀ k j, ¬ k = 3 → ¬ k = 25 → wr (wr m2 25 1 (wP S) (nmV b L (k1 b L s))) 3 1 0 (nI (wP S + 1)) k 1 j = m2 k 1 j := fun k j h1 h2 => by rw [wr_k h1, wr_k h2]
    unfold LC
    rw [eP, eD, eN]
    refine ⟨fun k hk => ?_, fun a ha => ?_, fun e he => ?_, fun a c ha hc => ?_, fun a ha x hx => ?_, fun p hp => ?_, fun q hq => ?_⟩
    · dsimp only
      rw [wr_if]
      by_cases e : k = 0
      · rw [if_pos e, e, upS_at]
      · rw [if_neg e, wr_k (by decide), oz k e]
        exact hC2.1 k hk
    · dsimp only
      rw [wr_k (by decide), wr_if, upS_i (by decide)]
      by_cases e : a = wP S
      · rw [if_pos e, e, upS_at]
      · rw [if_neg e, upS_j e]
        exact hC2.2.1 a (by omega)
    · dsimp only
      rw [w 27 e (by decide) (by decide), w 28 e (by decide) (by decide), o 2 e (by decide) (by decide), o 3 e (by decide) (by decide)]
      exact hC2.2.2.1 e he
    · dsimp only
      rw [w 29 _ (by decide) (by decide), eB]
      exact hC2.2.2.2.1 a c ha hc
    · dsimp only
      rw [w 26 _ (by decide) (by decide), eB]
      exact hC2.2.2.2.2.1 a ha x hx
    · dsimp only
      rw [w 30 p (by decide) (by decide), w 31 p (by decide) (by decide), o 4 p (by decide) (by decide), o 5 p (by decide) (by decide)]
      exact hC2.2.2.2.2.2.1 p hp
    · dsimp only
      rw [w 32 q (by decide) (by decide), o 6 q (by decide) (by decide)]
      exact hC2.2.2.2.2.2.2 q hq
theorem cPerson {b : Nat → Int32} {L s : Nat} {S : Wd} {m : Mem} (h : TC b L (wE b L s) m) (hl : lkd b L s = 2) (hW : LW S) (hC : LC S m) (hnf : ¬ wN S = 6) : Tot (r_X3_readPerson 1 m) (CPost b L S s m) := by
  have hP := hW.1
  have hN := hW.2.2.1
  have l0 : ¬ lkd b L s = 0 := by rw [hl]; decide
  have l1 : ¬ lkd b L s = 1 := by rw [hl]; decide
  unfold r_X3_readPerson
  rw [tot_bd2]
  refine (number_c h).mono ?_
  rintro ⟨z, m2⟩ ⟨g1, g2, g3⟩
  dsimp only at g1 g2 g3 ⊢
  have hF2 : Fj KLd JTc m m2 := g3.mono (by simp) (by simp)
  by_cases c1 : nmE b L 1 9 (k1 b L s) = 0
  case neg =>
    obtain ⟨e1, e2⟩ := g2 c1
    rw [e1, if_pos rfl]
    exact tot_some.mpr (CPost.bad (by unfold clB; rw [if_neg l0, if_neg l1, if_pos hl, if_neg c1]) c1 e2 hF2)
  obtain ⟨e1, e2, -⟩ := g1 c1
  have hC2 : LC S m2 := hC.fj g3 (by simp) (by decide)
  have q3 : m2 3 1 0 = nI (wP S) := (hC2.1 0 (by omega)).trans hP.1
  rw [e1, if_neg (nm_m1 c1 (by decide)), q3, tot_bd2]
  refine (number_c e2).mono ?_
  rintro ⟨z7, m6⟩ ⟨f1, f2, f3⟩
  dsimp only at f1 f2 f3 ⊢
  have hE : clB b L S s = (nmE b L 0 (nI (wP S) - 1) (k2 b L s), k2 b L s) := by
    unfold clB
    rw [if_neg l0, if_neg l1, if_pos hl, if_pos c1]
  have hF6 : Fj KLd JTc m m6 := hF2.tr (f3.mono (by simp) (by simp))
  by_cases c2 : nmE b L 0 (nI (wP S) - 1) (k2 b L s) = 0
  case neg =>
    obtain ⟨d1, d2⟩ := f2 c2
    rw [d1, if_pos rfl]
    exact tot_some.mpr (CPost.bad hE c2 d2 hF6)
  obtain ⟨d1, d2, -⟩ := f1 c2
  have hC6 : LC S m6 := hC2.fj f3 (by simp) (by decide)
  have q6 : m6 3 1 2 = nI (wN S) := (hC6.1 2 (by omega)).trans hN.1
  rw [d1, if_neg (nm_m1 c2 (by decide)), if_pos (show inb (m6 3 1 2) 6 = true by rw [q6]; exact (inb_nI (by omega) (by omega))), q6, clamp_nI (by omega), ← nI_succ]
  have hF7 : Fj KLd [] m6 (wr (wr (wr m6 30 1 (wN S) (nmV b L (k1 b L s))) 31 1 (wN S) (nmV b L (k2 b L s))) 3 1 2 (nI (wN S + 1))) := ((Fj.rf.wrK (by simp) _ _).wrK (by simp) _ _).wrK (by simp) _ _
  refine tot_some.mpr ⟨fun _ => ⟨rfl, ?_, ?_⟩, fun n => absurd (by rw [hE]; exact c2) n, hF6.tr (hF7.mono (by simp) (by simp))⟩
  · unfold clP
    rw [if_neg l0, if_neg l1, if_pos hl]
    exact d2.fj hF7 (by decide) (by simp)
  · unfold clS
    rw [if_neg l0, if_neg l1, if_pos hl]
    generalize nmV b L (k1 b L s) = v1
    generalize nmV b L (k2 b L s) = v2
    have o : ∀ x y, ¬ x = 0 → ¬ x = 4 → ¬ x = 5 → upS (upS (upS S 4 (wN S) v1) 5 (wN S) v2) 0 2 (nI (wN S + 1)) x y = S x y := fun x y h1 h2 h3 => by rw [upS_i h1, upS_i h3, upS_i h2]
    have oz : ∀ y, ¬ y = 2 → upS (upS (upS S 4 (wN S) v1) 5 (wN S) v2) 0 2 (nI (wN S + 1)) 0 y = S 0 y := fun y h1 => by rw [upS_j h1, upS_i (by decide), upS_i (by decide)]
    have eP : wP (upS (upS (upS S 4 (wN S) v1) 5 (wN S) v2) 0 2 (nI (wN S + 1))) = wP S := lw_ex ((oz 0 (by decide)).trans hP.1) (by omega)
    have eD : wD (upS (upS (upS S 4 (wN S) v1) 5 (wN S) v2) 0 2 (nI (wN S + 1))) = wD S := lw_eD ((oz 1 (by decide)).trans hW.2.1.1) (by have := hW.2.1.2; omega)
    have eN : wN (upS (upS (upS S 4 (wN S) v1) 5 (wN S) v2) 0 2 (nI (wN S + 1))) = wN S + 1 := lw_eN (upS_at _ _ _ _) (by omega)
    have eB := bw_cg (S := S) (S' := upS (upS (upS S 4 (wN S) v1) 5 (wN S) v2) 0 2 (nI (wN S + 1))) (fun e => o 2 e (by decide) (by decide) (by decide)) (fun e => o 3 e (by decide) (by decide) (by decide)) eD
    have w : ∀ k j, ¬ k = 3 → ¬ k = 30 → ¬ k = 31 → wr (wr (wr m6 30 1 (wN S) v1) 31 1 (wN S) v2) 3 1 2 (nI (wN S + 1)) k 1 j = m6 k 1 j := fun k j h1 h2 h3 => by rw [wr_k h1, wr_k h3, wr_k h2]
    unfold LC
    rw [eP, eD, eN]
    refine ⟨fun k hk => ?_, fun a ha => ?_, fun e he => ?_, fun a c ha hc => ?_, fun a ha x hx => ?_, fun p hp => ?_, fun q hq => ?_⟩
    · dsimp only
      rw [wr_if]
      by_cases e : k = 2
      · rw [if_pos e, e, upS_at]
      · rw [if_neg e, wr_k (by decide), wr_k (by decide), oz k e]
        exact hC6.1 k hk
    · dsimp only
      rw [w 25 a (by decide) (by decide) (by decide), o 1 a (by decide) (by decide) (by decide)]
      exact hC6.2.1 a ha
    · dsimp only
      rw [w 27 e (by decide) (by decide) (by decide), w 28 e (by decide) (by decide) (by decide), o 2 e (by decide) (by decide) (by decide), o 3 e (by decide) (by decide) (by decide)]
      exact hC6.2.2.1 e he
    · dsimp only
      rw [w 29 _ (by decide) (by decide) (by decide), eB]
      exact hC6.2.2.2.1 a c ha hc
    · dsimp only
      rw [w 26 _ (by decide) (by decide) (by decide), eB]
      exact hC6.2.2.2.2.1 a ha x hx
    · dsimp only
      have x1 : wr (wr (wr m6 30 1 (wN S) v1) 31 1 (wN S) v2) 3 1 2 (nI (wN S + 1)) 30 1 p = if p = wN S then v1 else m6 30 1 p := by rw [wr_k (by decide), wr_k (by decide), wr_if]
      have x2 : wr (wr (wr m6 30 1 (wN S) v1) 31 1 (wN S) v2) 3 1 2 (nI (wN S + 1)) 31 1 p = if p = wN S then v2 else m6 31 1 p := by rw [wr_k (by decide), wr_if, wr_k (by decide)]
      have y1 : upS (upS (upS S 4 (wN S) v1) 5 (wN S) v2) 0 2 (nI (wN S + 1)) 4 p = upS S 4 (wN S) v1 4 p := by rw [upS_i (by decide), upS_i (by decide)]
      have y2 : upS (upS (upS S 4 (wN S) v1) 5 (wN S) v2) 0 2 (nI (wN S + 1)) 5 p = upS (upS S 4 (wN S) v1) 5 (wN S) v2 5 p := upS_i (by decide)
      rw [x1, x2, y1, y2]
      by_cases e : p = wN S
      · rw [if_pos e, if_pos e, e, upS_at, upS_at]
        exact ⟨rfl, rfl⟩
      · rw [if_neg e, if_neg e, upS_j e, upS_j e, upS_i (by decide)]
        exact hC6.2.2.2.2.2.1 p (by omega)
    · dsimp only
      rw [w 32 q (by decide) (by decide) (by decide), o 6 q (by decide) (by decide) (by decide)]
      exact hC6.2.2.2.2.2.2 q hq
theorem cSpring {b : Nat → Int32} {L s : Nat} {S : Wd} {m : Mem} (h : TC b L (wE b L s) m) (hl : lkd b L s = 4) (hW : LW S) (hC : LC S m) : Tot (r_X3_readSpring 1 m) (CPost b L S s m) := by
  have hP := hW.1
  have l0 : ¬ lkd b L s = 0 := by rw [hl]; decide
  have l1 : ¬ lkd b L s = 1 := by rw [hl]; decide
  have l2 : ¬ lkd b L s = 2 := by rw [hl]; decide
  have l3 : ¬ lkd b L s = 3 := by rw [hl]; decide
  unfold r_X3_readSpring
  rw [(hC.1 0 (by omega)).trans hP.1, tot_bd2]
  refine (number_c h).mono ?_
  rintro ⟨z, m2⟩ ⟨g1, g2, g3⟩
  dsimp only at g1 g2 g3 ⊢
  have hE : clB b L S s = (nmE b L 0 (nI (wP S) - 1) (k1 b L s), k1 b L s) := by
    unfold clB
    rw [if_neg l0, if_neg l1, if_neg l2, if_neg l3]
  have hF2 : Fj KLd JTc m m2 := g3.mono (by simp) (by simp)
  by_cases c1 : nmE b L 0 (nI (wP S) - 1) (k1 b L s) = 0
  case neg =>
    obtain ⟨e1, e2⟩ := g2 c1
    rw [e1, if_pos rfl]
    exact tot_some.mpr (CPost.bad hE c1 e2 hF2)
  obtain ⟨e1, e2, -⟩ := g1 c1
  have hC2 : LC S m2 := hC.fj g3 (by simp) (by decide)
  rw [e1, if_neg (nm_m1 c1 (by decide))]
  generalize hv : nmV b L (k1 b L s) = v1
  have hF3 : Fj KLd [] m2 (wr m2 3 1 3 v1) := Fj.rf.wrK (by simp) _ _
  refine tot_some.mpr ⟨fun _ => ⟨rfl, ?_, ?_⟩, fun n => absurd (by rw [hE]; exact c1) n, hF2.tr (hF3.mono (by simp) (by simp))⟩
  · unfold clP
    rw [if_neg l0, if_neg l1, if_neg l2, if_neg l3]
    exact e2.fj hF3 (by decide) (by simp)
  · unfold clS
    rw [if_neg l0, if_neg l1, if_neg l2, if_neg l3, hv]
    have o : ∀ x y, ¬ x = 0 → upS S 0 3 v1 x y = S x y := fun x y h1 => upS_i h1
    have oz : ∀ y, ¬ y = 3 → upS S 0 3 v1 0 y = S 0 y := fun y h1 => upS_j h1
    have eP : wP (upS S 0 3 v1) = wP S := lw_ex ((oz 0 (by decide)).trans hP.1) (by omega)
    have eD : wD (upS S 0 3 v1) = wD S := lw_eD ((oz 1 (by decide)).trans hW.2.1.1) (by have := hW.2.1.2; omega)
    have eN : wN (upS S 0 3 v1) = wN S := lw_eN ((oz 2 (by decide)).trans hW.2.2.1.1) (by have := hW.2.2.1.2; omega)
    have eB := bw_cg (S := S) (S' := upS S 0 3 v1) (fun e => o 2 e (by decide)) (fun e => o 3 e (by decide)) eD
    have w : ∀ k j, ¬ k = 3 → wr m2 3 1 3 v1 k 1 j = m2 k 1 j := fun k j h1 => wr_k h1
    unfold LC
    rw [eP, eD, eN]
    refine ⟨fun k hk => ?_, fun a ha => ?_, fun e he => ?_, fun a c ha hc => ?_, fun a ha x hx => ?_, fun p hp => ?_, fun q hq => ?_⟩
    · dsimp only
      rw [wr_if]
      by_cases e : k = 3
      · rw [if_pos e, e, upS_at]
      · rw [if_neg e, oz k e]
        exact hC2.1 k hk
    · dsimp only
      rw [w 25 a (by decide), o 1 a (by decide)]
      exact hC2.2.1 a ha
    · dsimp only
      rw [w 27 e (by decide), w 28 e (by decide), o 2 e (by decide), o 3 e (by decide)]
      exact hC2.2.2.1 e he
    · dsimp only
      rw [w 29 _ (by decide), eB]
      exact hC2.2.2.2.1 a c ha hc
    · dsimp only
      rw [w 26 _ (by decide), eB]
      exact hC2.2.2.2.2.1 a ha x hx
    · dsimp only
      rw [w 30 p (by decide), w 31 p (by decide), o 4 p (by decide), o 5 p (by decide)]
      exact hC2.2.2.2.2.2.1 p hp
    · dsimp only
      rw [w 32 q (by decide), o 6 q (by decide)]
      exact hC2.2.2.2.2.2.2 q hq
set_option maxHeartbeats 1000000 in
theorem cClaim {b : Nat → Int32} {L s : Nat} {S : Wd} {m : Mem} (h : TC b L (wE b L s) m) (hl : lkd b L s = 3) (hW : LW S) (hC : LC S m) : Tot (r_X3_readClaim 1 m) (CPost b L S s m) := by
  have hP := hW.1
  have hN := hW.2.2.1
  have l0 : ¬ lkd b L s = 0 := by rw [hl]; decide
  have l1 : ¬ lkd b L s = 1 := by rw [hl]; decide
  have l2 : ¬ lkd b L s = 2 := by rw [hl]; decide
  unfold r_X3_readClaim
  rw [(hC.1 2 (by omega)).trans hN.1, tot_bd2]
  refine (number_c h).mono ?_
  rintro ⟨z, m2⟩ ⟨g1, g2, g3⟩
  dsimp only at g1 g2 g3 ⊢
  have hF2 : Fj KLd JTc m m2 := g3.mono (by simp) (by simp)
  by_cases c1 : nmE b L 0 (nI (wN S) - 1) (k1 b L s) = 0
  case neg =>
    obtain ⟨e1, e2⟩ := g2 c1
    rw [e1, if_pos rfl]
    exact tot_some.mpr (CPost.bad (by unfold clB; rw [if_neg l0, if_neg l1, if_neg l2, if_pos hl, if_neg c1]) c1 e2 hF2)
  obtain ⟨e1, e2, -⟩ := g1 c1
  have hC2 : LC S m2 := hC.fj g3 (by simp) (by decide)
  rw [e1, if_neg (nm_m1 c1 (by decide)), (hC2.1 0 (by omega)).trans hP.1, tot_bd2]
  refine (number_c e2).mono ?_
  rintro ⟨z7, m6⟩ ⟨f1, f2, f3⟩
  dsimp only at f1 f2 f3 ⊢
  have hF6 : Fj KLd JTc m m6 := hF2.tr (f3.mono (by simp) (by simp))
  by_cases c2 : nmE b L 0 (nI (wP S) - 1) (k2 b L s) = 0
  case neg =>
    obtain ⟨d1, d2⟩ := f2 c2
    rw [d1, if_pos rfl]
    exact tot_some.mpr (CPost.bad (by unfold clB; rw [if_neg l0, if_neg l1, if_neg l2, if_pos hl, if_pos c1, if_neg c2]) c2 d2 hF6)
  obtain ⟨d1, d2, -⟩ := f1 c2
  have hC6 : LC S m6 := hC2.fj f3 (by simp) (by decide)
  obtain ⟨p, hp, ep⟩ := nm_k (by omega) c1
  obtain ⟨a, ha, ea⟩ := nm_k (by omega) c2
  rw [d1, if_neg (nm_m1 c2 (by decide)), ea, tot_bd2]
  refine (linkedN_c (g := bw S a) (a := a) (i1 := 1) d2 ((hC6.1 0 (by omega)).trans hP.1) hP.2 (by omega) (fun c hc => hC6.2.2.2.1 a c (by omega) (by omega))).mono ?_
  rintro ⟨z11, m10⟩ ⟨r1, r2, r3⟩
  dsimp only at r1 r2 r3 ⊢
  have hF10 : Fj KLd JTc m m10 := hF6.tr (r3.mono (by simp) (by simp))
  have hE : clB b L S s = (ngE b L (wP S) (bw S a) (k3 b L s), k3 b L s) := by
    unfold clB
    rw [if_neg l0, if_neg l1, if_neg l2, if_pos hl, if_pos c1, if_pos c2, ea, clamp_nI (by omega)]
  by_cases c3 : ngE b L (wP S) (bw S a) (k3 b L s) = 0
  case neg =>
    obtain ⟨t1, t2⟩ := r2 c3
    rw [t1, if_pos rfl]
    exact tot_some.mpr (CPost.bad hE c3 t2 hF10)
  obtain ⟨t1, t2⟩ := r1 c3
  have hC10 : LC S m10 := hC6.fj r3 (by simp) (by decide)
  rw [t1, if_neg (nm_m1 (ng_0 c3).1 (by decide)), ep, ix12, if_pos (inb_nI (by omega) (by omega)), clamp_nI (by omega)]
  generalize hv : nmV b L (k3 b L s) = v3
  have hF11 : Fj KLd [] m10 (wr m10 32 1 (12 * p + a) v3) := Fj.rf.wrK (by simp) _ _
  refine tot_some.mpr ⟨fun _ => ⟨rfl, ?_, ?_⟩, fun n => absurd (by rw [hE]; exact c3) n, hF10.tr (hF11.mono (by simp) (by simp))⟩
  · unfold clP
    rw [if_neg l0, if_neg l1, if_neg l2, if_pos hl]
    exact t2.fj hF11 (by decide) (by simp)
  · unfold clS
    rw [if_neg l0, if_neg l1, if_neg l2, if_pos hl, hv, ep, ea, clamp_nI (k := p) (by omega), clamp_nI (k := a) (by omega)]
    have o : ∀ x y, ¬ x = 6 → upS S 6 (12 * p + a) v3 x y = S x y := fun x y h1 => upS_i h1
    have eP : wP (upS S 6 (12 * p + a) v3) = wP S := lw_ex ((o 0 0 (by decide)).trans hP.1) (by omega)
    have eD : wD (upS S 6 (12 * p + a) v3) = wD S := lw_eD ((o 0 1 (by decide)).trans hW.2.1.1) (by have := hW.2.1.2; omega)
    have eN : wN (upS S 6 (12 * p + a) v3) = wN S := lw_eN ((o 0 2 (by decide)).trans hN.1) (by omega)
    have eB := bw_cg (S := S) (S' := upS S 6 (12 * p + a) v3) (fun e => o 2 e (by decide)) (fun e => o 3 e (by decide)) eD
    have w : ∀ k j, ¬ k = 32 → wr m10 32 1 (12 * p + a) v3 k 1 j = m10 k 1 j := fun k j h1 => wr_k h1
    unfold LC
    rw [eP, eD, eN]
    refine ⟨fun k hk => ?_, fun a ha => ?_, fun e he => ?_, fun a c ha hc => ?_, fun a ha x hx => ?_, fun p hp => ?_, fun q hq => ?_⟩
    · dsimp only
      rw [w 3 k (by decide), o 0 k (by decide)]
      exact hC10.1 k hk
    · dsimp only
      rw [w 25 a (by decide), o 1 a (by decide)]
      exact hC10.2.1 a ha
    · dsimp only
      rw [w 27 e (by decide), w 28 e (by decide), o 2 e (by decide), o 3 e (by decide)]
      exact hC10.2.2.1 e he
    · dsimp only
      rw [w 29 _ (by decide), eB]
      exact hC10.2.2.2.1 a c ha hc
    · dsimp only
      rw [w 26 _ (by decide), eB]
      exact hC10.2.2.2.2.1 a ha x hx
    · dsimp only
      rw [w 30 p (by decide), w 31 p (by decide), o 4 p (by decide), o 5 p (by decide)]
      exact hC10.2.2.2.2.2.1 p hp
    · dsimp only
      rw [wr_if]
      by_cases e : q = 12 * p + a
      · rw [if_pos e, e, upS_at]
      · rw [if_neg e, upS_j e]
        exact hC10.2.2.2.2.2.2 q hq
set_option maxHeartbeats 1000000 in
theorem cDitch {b : Nat → Int32} {L s : Nat} {S : Wd} {m : Mem} (h : TC b L (wE b L s) m) (hl : lkd b L s = 1) (hW : LW S) (hC : LC S m) (hnf : ¬ wD S = 16) : Tot (r_X3_readDitch 1 m) (CPost b L S s m) := by
  have hP := hW.1
  have hD := hW.2.1
  have l0 : ¬ lkd b L s = 0 := by rw [hl]; decide
  unfold r_X3_readDitch r_X3_readDitch_j53
  rw [(hC.1 0 (by omega)).trans hP.1, tot_bd2]
  refine (number_c h).mono ?_
  rintro ⟨z, m2⟩ ⟨g1, g2, g3⟩
  dsimp only at g1 g2 g3 ⊢
  have hF2 : Fj KLd JTc m m2 := g3.mono (by simp) (by simp)
  by_cases c1 : nmE b L 0 (nI (wP S) - 1) (k1 b L s) = 0
  case neg =>
    obtain ⟨e1, e2⟩ := g2 c1
    rw [e1, if_pos rfl]
    exact tot_some.mpr (CPost.bad (by unfold clB; rw [if_neg l0, if_pos hl, if_neg c1]) c1 e2 hF2)
  obtain ⟨e1, e2, -⟩ := g1 c1
  have hC2 : LC S m2 := hC.fj g3 (by simp) (by decide)
  rw [e1, if_neg (nm_m1 c1 (by decide)), (hC2.1 0 (by omega)).trans hP.1, tot_bd2]
  refine (number_c e2).mono ?_
  rintro ⟨z7, m6⟩ ⟨f1, f2, f3⟩
  dsimp only at f1 f2 f3 ⊢
  have hF6 : Fj KLd JTc m m6 := hF2.tr (f3.mono (by simp) (by simp))
  by_cases c2 : nmE b L 0 (nI (wP S) - 1) (k2 b L s) = 0
  case neg =>
    obtain ⟨d1, d2⟩ := f2 c2
    rw [d1, if_pos rfl]
    exact tot_some.mpr (CPost.bad (by unfold clB; rw [if_neg l0, if_pos hl, if_pos c1, if_neg c2]) c2 d2 hF6)
  obtain ⟨d1, d2, d3⟩ := f1 c2
  have hC6 : LC S m6 := hC2.fj f3 (by simp) (by decide)
  obtain ⟨a, ha, ea⟩ := nm_k (by omega) c1
  obtain ⟨c, hc, ec⟩ := nm_k (by omega) c2
  obtain ⟨mw, w1, w2, w3⟩ := wrong_c (m := m6) (k := 2) (e := k2 b L s)
  have hFw : Fj KLd JTc m mw := hF6.tr (w3.mono (by simp) (by simp))
  rw [d1, if_neg (nm_m1 c2 (by decide)), ea, ec, d3]
  by_cases c3 : nI a = nI c
  · rw [if_pos c3, bd2_s w1]
    exact tot_some.mpr (CPost.bad (by unfold clB; rw [if_neg l0, if_pos hl, if_pos c1, if_pos c2, ea, ec, if_pos c3]) (by decide) w2 hFw)
  have hb : r_X3_between 1 (nI a) (nI c) m6 = some (bw S a c) := by
    unfold r_X3_between
    rw [ix12, if_pos (inb_nI (by omega) (by omega)), clamp_nI (by omega), hC6.2.2.2.1 a c (by omega) (by omega)]
  rw [if_neg c3, bd1_s hb]
  by_cases c4 : bw S a c = -1
  case neg =>
    rw [if_neg c4, bd2_s w1]
    exact tot_some.mpr (CPost.bad (by unfold clB; rw [if_neg l0, if_pos hl, if_pos c1, if_pos c2, ea, ec, if_neg c3, if_neg (show ¬ btw S (wD S) (nI a) (nI c) = -1 from c4)]) (by decide) w2 hFw)
  have hE : clB b L S s = (0, 0) := by
    unfold clB
    rw [if_neg l0, if_pos hl, if_pos c1, if_pos c2, ea, ec, if_neg c3, if_pos (show btw S (wD S) (nI a) (nI c) = -1 from c4)]
  have hac : ¬ a = c := fun q => c3 (by rw [q])
  have q6 : m6 3 1 1 = nI (wD S) := (hC6.1 1 (by omega)).trans hD.1
  rw [if_pos c4, if_pos (show inb (m6 3 1 1) 16 = true by rw [q6]; exact (inb_nI (by omega) (by omega))), q6, ix12, ix12, if_pos (inb_nI (k := 12 * a + c) (by omega) (by omega)), if_pos (inb_nI (k := 12 * c + a) (by omega) (by omega)), if_pos (inb_nI (k := a) (by omega) (by omega)), if_pos (inb_nI (k := c) (by omega) (by omega)), clamp_nI (k := wD S) (by omega), clamp_nI (k := 12 * a + c) (by omega), clamp_nI (k := 12 * c + a) (by omega), clamp_nI (k := a) (by omega), clamp_nI (k := c) (by omega), ← nI_succ]
  have t26 : (wr (wr (wr (wr (wr m6 27 1 (wD S) (nI a)) 28 1 (wD S) (nI c)) 29 1 (12 * a + c) (nI (wD S))) 29 1 (12 * c + a) (nI (wD S))) 26 1 a (m6 26 1 a ||| 1 <<< (nI c &&& 31))) 26 1 c = m6 26 1 c := by
    rw [wr_j (fun q => hac q.symm), wr_k (by decide), wr_k (by decide), wr_k (by decide), wr_k (by decide)]
  rw [t26]
  have hF7 : Fj KLd [] m6 (wr (wr (wr (wr (wr (wr (wr m6 27 1 (wD S) (nI a)) 28 1 (wD S) (nI c)) 29 1 (12 * a + c) (nI (wD S))) 29 1 (12 * c + a) (nI (wD S))) 26 1 a (m6 26 1 a ||| 1 <<< (nI c &&& 31))) 26 1 c (m6 26 1 c ||| 1 <<< (nI a &&& 31))) 3 1 1 (nI (wD S + 1))) := ((((((Fj.rf.wrK (by simp) _ _).wrK (by simp) _ _).wrK (by simp) _ _).wrK (by simp) _ _).wrK (by simp) _ _).wrK (by simp) _ _).wrK (by simp) _ _
  have v3 : ∀ k, wr (wr (wr (wr (wr (wr (wr m6 27 1 (wD S) (nI a)) 28 1 (wD S) (nI c)) 29 1 (12 * a + c) (nI (wD S))) 29 1 (12 * c + a) (nI (wD S))) 26 1 a (m6 26 1 a ||| 1 <<< (nI c &&& 31))) 26 1 c (m6 26 1 c ||| 1 <<< (nI a &&& 31))) 3 1 1 (nI (wD S + 1)) 3 1 k = if k = 1 then nI (wD S + 1) else m6 3 1 k := fun k => by
    rw [wr_if, wr_k (by decide), wr_k (by decide), wr_k (by decide), wr_k (by decide), wr_k (by decide), wr_k (by decide)]
  have v27 : ∀ k, wr (wr (wr (wr (wr (wr (wr m6 27 1 (wD S) (nI a)) 28 1 (wD S) (nI c)) 29 1 (12 * a + c) (nI (wD S))) 29 1 (12 * c + a) (nI (wD S))) 26 1 a (m6 26 1 a ||| 1 <<< (nI c &&& 31))) 26 1 c (m6 26 1 c ||| 1 <<< (nI a &&& 31))) 3 1 1 (nI (wD S + 1)) 27 1 k = if k = wD S then nI a else m6 27 1 k := fun k => by
    rw [wr_k (by decide), wr_k (by decide), wr_k (by decide), wr_k (by decide), wr_k (by decide), wr_k (by decide), wr_if]
  have v28 : ∀ k, wr (wr (wr (wr (wr (wr (wr m6 27 1 (wD S) (nI a)) 28 1 (wD S) (nI c)) 29 1 (12 * a + c) (nI (wD S))) 29 1 (12 * c + a) (nI (wD S))) 26 1 a (m6 26 1 a ||| 1 <<< (nI c &&& 31))) 26 1 c (m6 26 1 c ||| 1 <<< (nI a &&& 31))) 3 1 1 (nI (wD S + 1)) 28 1 k = if k = wD S then nI c else m6 28 1 k := fun k => by
    rw [wr_k (by decide), wr_k (by decide), wr_k (by decide), wr_k (by decide), wr_k (by decide), wr_if, wr_k (by decide)]
  have v29 : ∀ k, wr (wr (wr (wr (wr (wr (wr m6 27 1 (wD S) (nI a)) 28 1 (wD S) (nI c)) 29 1 (12 * a + c) (nI (wD S))) 29 1 (12 * c + a) (nI (wD S))) 26 1 a (m6 26 1 a ||| 1 <<< (nI c &&& 31))) 26 1 c (m6 26 1 c ||| 1 <<< (nI a &&& 31))) 3 1 1 (nI (wD S + 1)) 29 1 k = if k = 12 * c + a then nI (wD S) else if k = 12 * a + c then nI (wD S) else m6 29 1 k := fun k => by
    rw [wr_k (by decide), wr_k (by decide), wr_k (by decide), wr_if, wr_if, wr_k (by decide), wr_k (by decide)]
  have v26 : ∀ k, wr (wr (wr (wr (wr (wr (wr m6 27 1 (wD S) (nI a)) 28 1 (wD S) (nI c)) 29 1 (12 * a + c) (nI (wD S))) 29 1 (12 * c + a) (nI (wD S))) 26 1 a (m6 26 1 a ||| 1 <<< (nI c &&& 31))) 26 1 c (m6 26 1 c ||| 1 <<< (nI a &&& 31))) 3 1 1 (nI (wD S + 1)) 26 1 k = if k = c then m6 26 1 c ||| 1 <<< (nI a &&& 31) else if k = a then m6 26 1 a ||| 1 <<< (nI c &&& 31) else m6 26 1 k := fun k => by
    rw [wr_k (by decide), wr_if, wr_if, wr_k (by decide), wr_k (by decide), wr_k (by decide), wr_k (by decide)]
  have vo : ∀ k j, k = 25 ∨ k = 30 ∨ k = 31 ∨ k = 32 → wr (wr (wr (wr (wr (wr (wr m6 27 1 (wD S) (nI a)) 28 1 (wD S) (nI c)) 29 1 (12 * a + c) (nI (wD S))) 29 1 (12 * c + a) (nI (wD S))) 26 1 a (m6 26 1 a ||| 1 <<< (nI c &&& 31))) 26 1 c (m6 26 1 c ||| 1 <<< (nI a &&& 31))) 3 1 1 (nI (wD S + 1)) k 1 j = m6 k 1 j := fun k j hk => by
    rw [wr_k (by omega), wr_k (by omega), wr_k (by omega), wr_k (by omega), wr_k (by omega), wr_k (by omega), wr_k (by omega)]
  generalize wr (wr (wr (wr (wr (wr (wr m6 27 1 (wD S) (nI a)) 28 1 (wD S) (nI c)) 29 1 (12 * a + c) (nI (wD S))) 29 1 (12 * c + a) (nI (wD S))) 26 1 a (m6 26 1 a ||| 1 <<< (nI c &&& 31))) 26 1 c (m6 26 1 c ||| 1 <<< (nI a &&& 31))) 3 1 1 (nI (wD S + 1)) = m7 at hF7 v3 v27 v28 v29 v26 vo ⊢
  refine tot_some.mpr ⟨fun _ => ⟨rfl, ?_, ?_⟩, fun n => absurd (by rw [hE]) n, hF6.tr (hF7.mono (by simp) (by simp))⟩
  · unfold clP
    rw [if_neg l0, if_pos hl]
    exact d2.fj hF7 (by decide) (by simp)
  · unfold clS
    rw [if_neg l0, if_pos hl, ea, ec]
    have o : ∀ x y, ¬ x = 0 → ¬ x = 2 → ¬ x = 3 → upS (upS (upS S 2 (wD S) (nI a)) 3 (wD S) (nI c)) 0 1 (nI (wD S + 1)) x y = S x y := fun x y h1 h2 h3 => by rw [upS_i h1, upS_i h3, upS_i h2]
    have oz : ∀ y, ¬ y = 1 → upS (upS (upS S 2 (wD S) (nI a)) 3 (wD S) (nI c)) 0 1 (nI (wD S + 1)) 0 y = S 0 y := fun y h1 => by rw [upS_j h1, upS_i (by decide), upS_i (by decide)]
    have eP : wP (upS (upS (upS S 2 (wD S) (nI a)) 3 (wD S) (nI c)) 0 1 (nI (wD S + 1))) = wP S := lw_ex ((oz 0 (by decide)).trans hP.1) (by omega)
    have eD : wD (upS (upS (upS S 2 (wD S) (nI a)) 3 (wD S) (nI c)) 0 1 (nI (wD S + 1))) = wD S + 1 := lw_eD (upS_at _ _ _ _) (by omega)
    have eN : wN (upS (upS (upS S 2 (wD S) (nI a)) 3 (wD S) (nI c)) 0 1 (nI (wD S + 1))) = wN S := lw_eN ((oz 2 (by decide)).trans hW.2.2.1.1) (by have := hW.2.2.1.2; omega)
    have eB : ∀ x y, x < 12 → y < 12 → _ := fun x y hx hy => bw_add (S := S) (a := a) (c := c) (x := x) (y := y) (by omega) (by omega) (by omega) hx hy c4
    unfold LC
    rw [eP, eD, eN]
    refine ⟨fun k hk => ?_, fun x hx => ?_, fun e he => ?_, fun x y hx hy => ?_, fun x hx y hy => ?_, fun p hp => ?_, fun q hq => ?_⟩
    · dsimp only
      rw [v3]
      by_cases e : k = 1
      · rw [if_pos e, e, upS_at]
      · rw [if_neg e, oz k e]
        exact hC6.1 k hk
    · dsimp only
      rw [vo 25 x (by omega), o 1 x (by decide) (by decide) (by decide)]
      exact hC6.2.1 x hx
    · dsimp only
      rw [v27, v28]
      by_cases e9 : e = wD S
      · rw [if_pos e9, if_pos e9, e9, upS_i (by decide), upS_i (by decide), upS_at, upS_i (by decide), upS_at]
        exact ⟨rfl, rfl⟩
      · rw [if_neg e9, if_neg e9, upS_i (by decide), upS_i (by decide), upS_j e9, upS_i (by decide), upS_j e9, upS_i (by decide)]
        exact hC6.2.2.1 e (by omega)
    · dsimp only
      rw [v29, eB x y hx hy]
      by_cases h1 : (x = a ∧ y = c) ∨ (x = c ∧ y = a)
      · rw [if_pos h1]
        rcases h1 with ⟨h1, h2⟩ | ⟨h1, h2⟩
        · rw [h1, h2, if_neg (by omega), if_pos rfl]
        · rw [h1, h2, if_pos rfl]
      · rw [if_neg h1, if_neg (by omega), if_neg (by omega)]
        exact hC6.2.2.2.1 x y hx hy
    · dsimp only
      have hold := hC6.2.2.2.2.1 x hx y hy
      have hd : decide (y < 12 ∧ ¬ bw (upS (upS (upS S 2 (wD S) (nI a)) 3 (wD S) (nI c)) 0 1 (nI (wD S + 1))) x y = -1) = (decide (y < 12 ∧ ¬ bw S x y = -1) || decide ((x = a ∧ y = c) ∨ (x = c ∧ y = a))) := by
        by_cases hy12 : y < 12
        · rw [eB x y hx hy12]
          by_cases h1 : (x = a ∧ y = c) ∨ (x = c ∧ y = a)
          · rw [if_pos h1, decide_eq_true h1, Bool.or_true]
            exact decide_eq_true ⟨hy12, m1_ne (by omega)⟩
          · rw [if_neg h1, decide_eq_false h1, Bool.or_false]
        · rw [decide_eq_false (fun q => hy12 q.1), decide_eq_false (fun q => hy12 q.1), decide_eq_false (by omega)]
          rfl
      rw [v26, hd, ← hold]
      by_cases h1 : x = c
      · rw [if_pos h1, b_or, bt_shl1 (by omega) hy, h1]
        congr 1
        exact decide_eq_decide.mpr (by omega)
      · rw [if_neg h1]
        by_cases h2 : x = a
        · rw [if_pos h2, b_or, bt_shl1 (by omega) hy, h2]
          congr 1
          exact decide_eq_decide.mpr (by omega)
        · rw [if_neg h2, decide_eq_false (by omega), Bool.or_false]
    · dsimp only
      rw [vo 30 p (by omega), vo 31 p (by omega), o 4 p (by decide) (by decide) (by decide), o 5 p (by decide) (by decide) (by decide)]
      exact hC6.2.2.2.2.2.1 p hp
    · dsimp only
      rw [vo 32 q (by omega), o 6 q (by decide) (by decide) (by decide)]
      exact hC6.2.2.2.2.2.2 q hq
