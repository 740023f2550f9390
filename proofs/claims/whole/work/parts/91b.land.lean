/-! ===== the land's clauses ===== -/
noncomputable def lkd (b : Nat → Int32) (L s : Nat) : Int32 := if wcd b L s = nI (scd 1) then 0 else if wcd b L s = nI (scd 2) then 1 else if wcd b L s = nI (scd 3) then 2 else if wcd b L s = nI (scd 4) then 3 else if wcd b L s = nI (scd 5) then 4 else -1
theorem scd_ne : ¬ nI (scd 4) = nI (scd 5) ∧ ¬ nI (scd 1) = 0 ∧ ¬ nI (scd 2) = 0 ∧ ¬ nI (scd 3) = 0 ∧ ¬ nI (scd 4) = 0 ∧ ¬ nI (scd 5) = 0 := by decide +kernel
theorem six_1 : r_X12_six 16 12 1 3 5 0 = nI (scd 1) ∧ r_X12_six 4 9 20 3 8 0 = nI (scd 2) ∧ r_X12_six 16 5 18 19 15 14 = nI (scd 3) ∧ r_X12_six 3 12 1 9 13 0 = nI (scd 4) ∧ r_X12_six 19 16 18 9 14 7 = nI (scd 5) := by
  unfold r_X12_six r_X12_six_j29 r_X12_six_j49
  decide +kernel
theorem wiB {b : Nat → Int32} {L s i : Nat} {m : Mem} (h : TC b L (wE b L s) m) (h2 : m 8 0 2 = nI s) (hi : i < 22) : r_X8_wordIs (1 + i) m = some (decide (wcd b L s = nI (scd (1 + i)))) := by
  obtain ⟨z, h3, h4⟩ := wordIs_c (i := 1 + i) h h2 (by omega)
  rw [wi_cd hi] at h4
  rw [h3]
  by_cases q : wcd b L s = nI (scd (1 + i))
  · rw [h4.mpr q, decide_eq_true q]
  · rw [decide_eq_false q, ts_nt' (fun e => q (h4.mp e))]
theorem kind_c {b : Nat → Int32} {L s : Nat} {m : Mem} (h : TC b L (wE b L s) m) (h2 : m 8 0 2 = nI s) : r_X3_kindOf 1 m = some (lkd b L s) := by
  unfold r_X3_kindOf lkd
  rw [bd1_s (wiB (i := 0) h h2 (by omega)), bd1_s (wiB (i := 1) h h2 (by omega)), bd1_s (wiB (i := 2) h h2 (by omega)), bd1_s (wiB (i := 3) h h2 (by omega)), bd1_s (wiB (i := 4) h h2 (by omega))]
  simp only [decide_eq_true_eq, Nat.reduceAdd]
  by_cases c1 : wcd b L s = nI (scd 1)
  · rw [if_pos c1, if_pos c1]
  rw [if_neg c1, if_neg c1]
  by_cases c2 : wcd b L s = nI (scd 2)
  · rw [if_pos c2, if_pos c2]
  rw [if_neg c2, if_neg c2]
  by_cases c3 : wcd b L s = nI (scd 3)
  · rw [if_pos c3, if_pos c3]
  rw [if_neg c3, if_neg c3]
  by_cases c4 : wcd b L s = nI (scd 4)
  · rw [if_pos c4, if_pos c4]
  rw [if_neg c4, if_neg c4]
  by_cases c5 : wcd b L s = nI (scd 5)
  · rw [if_pos c5, if_pos c5]
  rw [if_neg c5, if_neg c5]
theorem lkd_or (b : Nat → Int32) (L s : Nat) : lkd b L s = -1 ∨ lkd b L s = 0 ∨ lkd b L s = 1 ∨ lkd b L s = 2 ∨ lkd b L s = 3 ∨ lkd b L s = 4 := by
  unfold lkd
  by_cases c1 : wcd b L s = nI (scd 1)
  · rw [if_pos c1]
    exact Or.inr (Or.inl rfl)
  rw [if_neg c1]
  by_cases c2 : wcd b L s = nI (scd 2)
  · rw [if_pos c2]
    exact Or.inr (Or.inr (Or.inl rfl))
  rw [if_neg c2]
  by_cases c3 : wcd b L s = nI (scd 3)
  · rw [if_pos c3]
    exact Or.inr (Or.inr (Or.inr (Or.inl rfl)))
  rw [if_neg c3]
  by_cases c4 : wcd b L s = nI (scd 4)
  · rw [if_pos c4]
    exact Or.inr (Or.inr (Or.inr (Or.inr (Or.inl rfl))))
  rw [if_neg c4]
  by_cases c5 : wcd b L s = nI (scd 5)
  · rw [if_pos c5]
    exact Or.inr (Or.inr (Or.inr (Or.inr (Or.inr rfl))))
  rw [if_neg c5]
  exact Or.inl rfl
theorem lkd_no {b : Nat → Int32} {L s : Nat} (hs : s ≤ L) (h : ¬ ltF (bA b L s) = true) : lkd b L s = -1 := by
  have e : wcd b L s = 0 := by
    unfold wcd
    rw [show wE b L s = s from rn_zero hs (ts_nt' h), Nat.sub_self, if_pos (by omega)]
    rfl
  unfold lkd
  rw [e, if_neg (fun q => scd_ne.2.1 q.symm), if_neg (fun q => scd_ne.2.2.1 q.symm), if_neg (fun q => scd_ne.2.2.2.1 q.symm), if_neg (fun q => scd_ne.2.2.2.2.1 q.symm), if_neg (fun q => scd_ne.2.2.2.2.2 q.symm)]
def upS (S : Wd) (i j : Nat) (v : Int32) : Wd := fun x y => if x = i ∧ y = j then v else S x y
theorem upS_at (S : Wd) (i j : Nat) (v : Int32) : upS S i j v i j = v := if_pos ⟨rfl, rfl⟩
theorem upS_i {S : Wd} {i j x y : Nat} {v : Int32} (h : ¬ x = i) : upS S i j v x y = S x y := if_neg (fun e => h e.1)
theorem upS_j {S : Wd} {i j x y : Nat} {v : Int32} (h : ¬ y = j) : upS S i j v x y = S x y := if_neg (fun e => h e.2)
noncomputable abbrev k1 (b : Nat → Int32) (L s : Nat) : Nat := sk b L (wE b L s)
noncomputable abbrev k2 (b : Nat → Int32) (L s : Nat) : Nat := sk b L (nmN b L (k1 b L s))
noncomputable abbrev k3 (b : Nat → Int32) (L s : Nat) : Nat := sk b L (nmN b L (k2 b L s))
noncomputable def clB (b : Nat → Int32) (L : Nat) (S : Wd) (s : Nat) : Int32 × Nat :=
  if lkd b L s = 0 then (nmE b L 0 60 (k1 b L s), k1 b L s)
  else if lkd b L s = 1 then
    (if nmE b L 0 (nI (wP S) - 1) (k1 b L s) = 0 then
      (if nmE b L 0 (nI (wP S) - 1) (k2 b L s) = 0 then
        (if nmV b L (k1 b L s) = nmV b L (k2 b L s) then (2, k2 b L s)
        else if btw S (wD S) (nmV b L (k1 b L s)) (nmV b L (k2 b L s)) = -1 then (0, 0) else (2, k2 b L s))
      else (nmE b L 0 (nI (wP S) - 1) (k2 b L s), k2 b L s))
    else (nmE b L 0 (nI (wP S) - 1) (k1 b L s), k1 b L s))
  else if lkd b L s = 2 then
    (if nmE b L 1 9 (k1 b L s) = 0 then (nmE b L 0 (nI (wP S) - 1) (k2 b L s), k2 b L s) else (nmE b L 1 9 (k1 b L s), k1 b L s))
  else if lkd b L s = 3 then
    (if nmE b L 0 (nI (wN S) - 1) (k1 b L s) = 0 then
      (if nmE b L 0 (nI (wP S) - 1) (k2 b L s) = 0 then (ngE b L (wP S) (bw S (nmV b L (k2 b L s)).toNatClampNeg) (k3 b L s), k3 b L s)
      else (nmE b L 0 (nI (wP S) - 1) (k2 b L s), k2 b L s))
    else (nmE b L 0 (nI (wN S) - 1) (k1 b L s), k1 b L s))
  else (nmE b L 0 (nI (wP S) - 1) (k1 b L s), k1 b L s)
noncomputable def clP (b : Nat → Int32) (L s : Nat) : Nat := if lkd b L s = 0 then nmN b L (k1 b L s) else if lkd b L s = 1 then nmN b L (k2 b L s) else if lkd b L s = 2 then nmN b L (k2 b L s) else if lkd b L s = 3 then nmN b L (k3 b L s) else nmN b L (k1 b L s)
noncomputable def clS (b : Nat → Int32) (L : Nat) (S : Wd) (s : Nat) : Wd :=
  if lkd b L s = 0 then upS (upS S 1 (wP S) (nmV b L (k1 b L s))) 0 0 (nI (wP S + 1))
  else if lkd b L s = 1 then upS (upS (upS S 2 (wD S) (nmV b L (k1 b L s))) 3 (wD S) (nmV b L (k2 b L s))) 0 1 (nI (wD S + 1))
  else if lkd b L s = 2 then upS (upS (upS S 4 (wN S) (nmV b L (k1 b L s))) 5 (wN S) (nmV b L (k2 b L s))) 0 2 (nI (wN S + 1))
  else if lkd b L s = 3 then upS S 6 (12 * (nmV b L (k1 b L s)).toNatClampNeg + (nmV b L (k2 b L s)).toNatClampNeg) (nmV b L (k3 b L s))
  else upS S 0 3 (nmV b L (k1 b L s))
noncomputable def lfl (b : Nat → Int32) (L : Nat) (S : Wd) (s : Nat) : Bool := decide ((lkd b L s = 0 ∧ wP S = 12) ∨ (lkd b L s = 1 ∧ wD S = 16) ∨ (lkd b L s = 2 ∧ wN S = 6))
noncomputable def clE (b : Nat → Int32) (L : Nat) (S : Wd) (n s : Nat) : Int32 × Nat :=
  if lkd b L s = -1 then (1, s)
  else if n = 60 then (3, s)
  else if lfl b L S s = true then (3, s)
  else if (clB b L S s).1 = 0 then (if bA b L (sk b L (clP b L s)) = 59 then (0, 0) else (1, sk b L (clP b L s)))
  else clB b L S s
/-- a land as told so far -/
def LW (S : Wd) : Prop := (S 0 0 = nI (wP S) ∧ wP S ≤ 12) ∧ (S 0 1 = nI (wD S) ∧ wD S ≤ 16) ∧ (S 0 2 = nI (wN S) ∧ wN S ≤ 6) ∧ (S 0 3 = nI (wS S) ∧ (wS S < wP S ∨ (wP S = 0 ∧ wS S = 0))) ∧ (∀ e, e < wD S → ∃ a c, a < wP S ∧ c < wP S ∧ ¬ a = c ∧ S 2 e = nI a ∧ S 3 e = nI c) ∧ (0 < wN S → 0 < wP S) ∧ (∀ p, p < wN S → ∃ t, 1 ≤ t ∧ t ≤ 9 ∧ S 4 p = nI t) ∧ (∀ p, p < wN S → ∃ a, a < wP S ∧ S 5 p = nI a) ∧ ∀ q, S 6 q = -1 ∨ (q / 12 < wN S ∧ q % 12 < wP S ∧ ∃ c, c < wP S ∧ S 6 q = nI c)
theorem lw_ex {S : Wd} {n : Nat} (h : S 0 0 = nI n) (hn : n < 1000000) : wP S = n := by
  unfold wP
  rw [h, clamp_nI (by omega)]
theorem lw_eD {S : Wd} {n : Nat} (h : S 0 1 = nI n) (hn : n < 1000000) : wD S = n := by
  unfold wD
  rw [h, clamp_nI (by omega)]
theorem lw_eN {S : Wd} {n : Nat} (h : S 0 2 = nI n) (hn : n < 1000000) : wN S = n := by
  unfold wN
  rw [h, clamp_nI (by omega)]
theorem lw_eS {S : Wd} {n : Nat} (h : S 0 3 = nI n) (hn : n < 1000000) : wS S = n := by
  unfold wS
  rw [h, clamp_nI (by omega)]
def bad0 : Wd := fun x _ => if x = 6 then -1 else 0
theorem LW_0 : LW bad0 := by
  have e : wP bad0 = 0 ∧ wD bad0 = 0 ∧ wN bad0 = 0 ∧ wS bad0 = 0 := ⟨rfl, rfl, rfl, rfl⟩
  unfold LW
  rw [e.1, e.2.1, e.2.2.1, e.2.2.2]
  exact ⟨⟨rfl, by omega⟩, ⟨rfl, by omega⟩, ⟨rfl, by omega⟩, ⟨rfl, Or.inr ⟨rfl, rfl⟩⟩, fun e he => absurd he (Nat.not_lt_zero e), fun h => absurd h (by omega), fun p hp => absurd hp (Nat.not_lt_zero p), fun p hp => absurd hp (Nat.not_lt_zero p), fun q => Or.inl rfl⟩
set_option maxHeartbeats 1000000 in
theorem LW.cl {b : Nat → Int32} {L n s : Nat} {S : Wd} (h : LW S) (hE : (clE b L S n s).1 = 0) : LW (clS b L S s) ∧ ¬ lkd b L s = -1 ∧ ¬ n = 60 ∧ ¬ lfl b L S s = true ∧ (clB b L S s).1 = 0 ∧ bA b L (sk b L (clP b L s)) = 59 := by
  unfold clE at hE
  by_cases c1 : lkd b L s = -1
  · rw [if_pos c1] at hE
    exact absurd (show (1 : Int32) = 0 from hE) (by decide)
  rw [if_neg c1] at hE
  by_cases c2 : n = 60
  · rw [if_pos c2] at hE
    exact absurd (show (3 : Int32) = 0 from hE) (by decide)
  rw [if_neg c2] at hE
  by_cases c3 : lfl b L S s = true
  · rw [if_pos c3] at hE
    exact absurd (show (3 : Int32) = 0 from hE) (by decide)
  rw [if_neg c3] at hE
  by_cases c4 : (clB b L S s).1 = 0
  case neg =>
    rw [if_neg c4] at hE
    exact absurd hE c4
  rw [if_pos c4] at hE
  by_cases c5 : bA b L (sk b L (clP b L s)) = 59
  case neg =>
    rw [if_neg c5] at hE
    exact absurd (show (1 : Int32) = 0 from hE) (by decide)
  refine ⟨?_, c1, c2, c3, c4, c5⟩
  obtain ⟨⟨p1, p2⟩, ⟨d1, d2⟩, ⟨n1, n2⟩, ⟨s1, s2⟩, h5, h6, h7, h8, h9⟩ := h
  have nf : ¬ ((lkd b L s = 0 ∧ wP S = 12) ∨ (lkd b L s = 1 ∧ wD S = 16) ∨ (lkd b L s = 2 ∧ wN S = 6)) := fun q => c3 (decide_eq_true q)
  unfold clB at c4
  unfold clS
  by_cases l0 : lkd b L s = 0
  · rw [if_pos l0]
    have hfl : ¬ wP S = 12 := fun q => nf (Or.inl ⟨l0, q⟩)
    have eP : wP (upS (upS S 1 (wP S) (nmV b L (k1 b L s))) 0 0 (nI (wP S + 1))) = wP S + 1 := lw_ex (upS_at _ _ _ _) (by omega)
    have o : ∀ x y, ¬ x = 0 → ¬ x = 1 → upS (upS S 1 (wP S) (nmV b L (k1 b L s))) 0 0 (nI (wP S + 1)) x y = S x y := fun x y h1 h2 => by rw [upS_i h1, upS_i h2]
    have oz : ∀ y, ¬ y = 0 → upS (upS S 1 (wP S) (nmV b L (k1 b L s))) 0 0 (nI (wP S + 1)) 0 y = S 0 y := fun y h1 => by rw [upS_j h1, upS_i (by decide)]
    have eD : wD (upS (upS S 1 (wP S) (nmV b L (k1 b L s))) 0 0 (nI (wP S + 1))) = wD S := lw_eD ((oz 1 (by decide)).trans d1) (by omega)
    have eN : wN (upS (upS S 1 (wP S) (nmV b L (k1 b L s))) 0 0 (nI (wP S + 1))) = wN S := lw_eN ((oz 2 (by decide)).trans n1) (by omega)
    have eS : wS (upS (upS S 1 (wP S) (nmV b L (k1 b L s))) 0 0 (nI (wP S + 1))) = wS S := lw_eS ((oz 3 (by decide)).trans s1) (by omega)
    unfold LW
    rw [eP, eD, eN, eS, oz 1 (by decide), oz 2 (by decide), oz 3 (by decide), upS_at]
    refine ⟨⟨rfl, by omega⟩, ⟨d1, d2⟩, ⟨n1, n2⟩, ⟨s1, by omega⟩, fun e he => ?_, fun h => by omega, fun p hp => ?_, fun p hp => ?_, fun q => ?_⟩
    · obtain ⟨a, c, ha, hc, hn, e1, e2⟩ := h5 e he
      exact ⟨a, c, by omega, by omega, hn, by rw [o 2 e (by decide) (by decide)]; exact e1, by rw [o 3 e (by decide) (by decide)]; exact e2⟩
    · rw [o 4 p (by decide) (by decide)]
      exact h7 p hp
    · obtain ⟨a, ha, e1⟩ := h8 p hp
      exact ⟨a, by omega, by rw [o 5 p (by decide) (by decide)]; exact e1⟩
    · rw [o 6 q (by decide) (by decide)]
      rcases h9 q with e | ⟨e1, e2, c, hc, e3⟩
      · exact Or.inl e
      · exact Or.inr ⟨e1, by omega, c, by omega, e3⟩
  rw [if_neg l0] at c4
  rw [if_neg l0]
  by_cases l1 : lkd b L s = 1
  · rw [if_pos l1] at c4
    rw [if_pos l1]
    have hfl : ¬ wD S = 16 := fun q => nf (Or.inr (Or.inl ⟨l1, q⟩))
    by_cases g1 : nmE b L 0 (nI (wP S) - 1) (k1 b L s) = 0
    case neg =>
      rw [if_neg g1] at c4
      exact absurd c4 g1
    rw [if_pos g1] at c4
    by_cases g2 : nmE b L 0 (nI (wP S) - 1) (k2 b L s) = 0
    case neg =>
      rw [if_neg g2] at c4
      exact absurd c4 g2
    rw [if_pos g2] at c4
    by_cases g3 : nmV b L (k1 b L s) = nmV b L (k2 b L s)
    · rw [if_pos g3] at c4
      exact absurd (show (2 : Int32) = 0 from c4) (by decide)
    obtain ⟨a, ha, ea⟩ := nm_k (by omega) g1
    obtain ⟨c, hc, ec⟩ := nm_k (by omega) g2
    rw [ea, ec] at g3
    rw [ea, ec]
    have eD : wD (upS (upS (upS S 2 (wD S) (nI a)) 3 (wD S) (nI c)) 0 1 (nI (wD S + 1))) = wD S + 1 := lw_eD (upS_at _ _ _ _) (by omega)
    have o : ∀ x y, ¬ x = 0 → ¬ x = 2 → ¬ x = 3 → upS (upS (upS S 2 (wD S) (nI a)) 3 (wD S) (nI c)) 0 1 (nI (wD S + 1)) x y = S x y := fun x y h1 h2 h3 => by rw [upS_i h1, upS_i h3, upS_i h2]
    have oz : ∀ y, ¬ y = 1 → upS (upS (upS S 2 (wD S) (nI a)) 3 (wD S) (nI c)) 0 1 (nI (wD S + 1)) 0 y = S 0 y := fun y h1 => by rw [upS_j h1, upS_i (by decide), upS_i (by decide)]
    have eP : wP (upS (upS (upS S 2 (wD S) (nI a)) 3 (wD S) (nI c)) 0 1 (nI (wD S + 1))) = wP S := lw_ex ((oz 0 (by decide)).trans p1) (by omega)
    have eN : wN (upS (upS (upS S 2 (wD S) (nI a)) 3 (wD S) (nI c)) 0 1 (nI (wD S + 1))) = wN S := lw_eN ((oz 2 (by decide)).trans n1) (by omega)
    have eS : wS (upS (upS (upS S 2 (wD S) (nI a)) 3 (wD S) (nI c)) 0 1 (nI (wD S + 1))) = wS S := lw_eS ((oz 3 (by decide)).trans s1) (by omega)
    unfold LW
    rw [eP, eD, eN, eS, oz 0 (by decide), oz 2 (by decide), oz 3 (by decide), upS_at]
    refine ⟨⟨p1, p2⟩, ⟨rfl, by omega⟩, ⟨n1, n2⟩, ⟨s1, s2⟩, fun e he => ?_, h6, fun p hp => ?_, fun p hp => ?_, fun q => ?_⟩
    · by_cases hed : e = wD S
      · subst hed
        refine ⟨a, c, ha, hc, fun q => g3 (by rw [q]), ?_, ?_⟩
        · rw [upS_i (by decide), upS_i (by decide), upS_at]
        · rw [upS_i (by decide), upS_at]
      · obtain ⟨a', c', ha', hc', hn, e1, e2⟩ := h5 e (by omega)
        refine ⟨a', c', ha', hc', hn, ?_, ?_⟩
        · rw [upS_i (by decide), upS_i (by decide), upS_j hed]
          exact e1
        · rw [upS_i (by decide), upS_j hed, upS_i (by decide)]
          exact e2
    · rw [o 4 p (by decide) (by decide) (by decide)]
      exact h7 p hp
    · rw [o 5 p (by decide) (by decide) (by decide)]
      exact h8 p hp
    · rw [o 6 q (by decide) (by decide) (by decide)]
      exact h9 q
  rw [if_neg l1] at c4
  rw [if_neg l1]
  by_cases l2 : lkd b L s = 2
  · rw [if_pos l2] at c4
    rw [if_pos l2]
    have hfl : ¬ wN S = 6 := fun q => nf (Or.inr (Or.inr ⟨l2, q⟩))
    by_cases g1 : nmE b L 1 9 (k1 b L s) = 0
    case neg =>
      rw [if_neg g1] at c4
      exact absurd c4 g1
    rw [if_pos g1] at c4
    have g2 : nmE b L 0 (nI (wP S) - 1) (k2 b L s) = 0 := c4
    obtain ⟨t1, t2, -⟩ := nm_in g1
    obtain ⟨t, ht, et⟩ := le_nI (n := 9) (by omega) ⟨by
      rw [fa_le] at t1 ⊢
      have : (1 : Int32).toInt = 1 := rfl
      have : (0 : Int32).toInt = 0 := rfl
      omega, t2⟩
    rw [et] at t1
    have t3 := (nI_le_iff (a := 1) (by omega) (by omega)).mp t1
    obtain ⟨c, hc, ec⟩ := nm_k (by omega) g2
    rw [et, ec]
    have eN : wN (upS (upS (upS S 4 (wN S) (nI t)) 5 (wN S) (nI c)) 0 2 (nI (wN S + 1))) = wN S + 1 := lw_eN (upS_at _ _ _ _) (by omega)
    have o : ∀ x y, ¬ x = 0 → ¬ x = 4 → ¬ x = 5 → upS (upS (upS S 4 (wN S) (nI t)) 5 (wN S) (nI c)) 0 2 (nI (wN S + 1)) x y = S x y := fun x y h1 h2 h3 => by rw [upS_i h1, upS_i h3, upS_i h2]
    have oz : ∀ y, ¬ y = 2 → upS (upS (upS S 4 (wN S) (nI t)) 5 (wN S) (nI c)) 0 2 (nI (wN S + 1)) 0 y = S 0 y := fun y h1 => by rw [upS_j h1, upS_i (by decide), upS_i (by decide)]
    have eP : wP (upS (upS (upS S 4 (wN S) (nI t)) 5 (wN S) (nI c)) 0 2 (nI (wN S + 1))) = wP S := lw_ex ((oz 0 (by decide)).trans p1) (by omega)
    have eD : wD (upS (upS (upS S 4 (wN S) (nI t)) 5 (wN S) (nI c)) 0 2 (nI (wN S + 1))) = wD S := lw_eD ((oz 1 (by decide)).trans d1) (by omega)
    have eS : wS (upS (upS (upS S 4 (wN S) (nI t)) 5 (wN S) (nI c)) 0 2 (nI (wN S + 1))) = wS S := lw_eS ((oz 3 (by decide)).trans s1) (by omega)
    unfold LW
    rw [eP, eD, eN, eS, oz 0 (by decide), oz 1 (by decide), oz 3 (by decide), upS_at]
    refine ⟨⟨p1, p2⟩, ⟨d1, d2⟩, ⟨rfl, by omega⟩, ⟨s1, s2⟩, fun e he => ?_, fun _ => by omega, fun p hp => ?_, fun p hp => ?_, fun q => ?_⟩
    · rw [o 2 e (by decide) (by decide) (by decide), o 3 e (by decide) (by decide) (by decide)]
      exact h5 e he
    · by_cases hpn : p = wN S
      · subst hpn
        exact ⟨t, by omega, by omega, by rw [upS_i (by decide), upS_i (by decide), upS_at]⟩
      · obtain ⟨t', q1, q2, q3⟩ := h7 p (by omega)
        exact ⟨t', q1, q2, by rw [upS_i (by decide), upS_i (by decide), upS_j hpn]; exact q3⟩
    · by_cases hpn : p = wN S
      · subst hpn
        exact ⟨c, hc, by rw [upS_i (by decide), upS_at]⟩
      · obtain ⟨a', q1, q2⟩ := h8 p (by omega)
        exact ⟨a', q1, by rw [upS_i (by decide), upS_j hpn, upS_i (by decide)]; exact q2⟩
    · rw [o 6 q (by decide) (by decide) (by decide)]
      rcases h9 q with e | ⟨e1, e2, c, hc, e3⟩
      · exact Or.inl e
      · exact Or.inr ⟨by omega, e2, c, hc, e3⟩
  rw [if_neg l2] at c4
  rw [if_neg l2]
  by_cases l3 : lkd b L s = 3
  · rw [if_pos l3] at c4
    rw [if_pos l3]
    by_cases g1 : nmE b L 0 (nI (wN S) - 1) (k1 b L s) = 0
    case neg =>
      rw [if_neg g1] at c4
      exact absurd c4 g1
    rw [if_pos g1] at c4
    by_cases g2 : nmE b L 0 (nI (wP S) - 1) (k2 b L s) = 0
    case neg =>
      rw [if_neg g2] at c4
      exact absurd c4 g2
    rw [if_pos g2] at c4
    have g3 := (ng_0 (show ngE b L (wP S) (bw S (nmV b L (k2 b L s)).toNatClampNeg) (k3 b L s) = 0 from c4)).1
    obtain ⟨p, hp, ep⟩ := nm_k (by omega) g1
    obtain ⟨a, ha, ea⟩ := nm_k (by omega) g2
    obtain ⟨c, hc, ec⟩ := nm_k (by omega) g3
    rw [ep, ea, ec, clamp_nI (k := p) (by omega), clamp_nI (k := a) (by omega)]
    have o : ∀ x y, ¬ x = 6 → upS S 6 (12 * p + a) (nI c) x y = S x y := fun x y h1 => upS_i h1
    have eP : wP (upS S 6 (12 * p + a) (nI c)) = wP S := lw_ex ((o 0 0 (by decide)).trans p1) (by omega)
    have eD : wD (upS S 6 (12 * p + a) (nI c)) = wD S := lw_eD ((o 0 1 (by decide)).trans d1) (by omega)
    have eN : wN (upS S 6 (12 * p + a) (nI c)) = wN S := lw_eN ((o 0 2 (by decide)).trans n1) (by omega)
    have eS : wS (upS S 6 (12 * p + a) (nI c)) = wS S := lw_eS ((o 0 3 (by decide)).trans s1) (by omega)
    unfold LW
    rw [eP, eD, eN, eS, o 0 0 (by decide), o 0 1 (by decide), o 0 2 (by decide), o 0 3 (by decide)]
    refine ⟨⟨p1, p2⟩, ⟨d1, d2⟩, ⟨n1, n2⟩, ⟨s1, s2⟩, fun e he => ?_, h6, fun q hq => ?_, fun q hq => ?_, fun q => ?_⟩
    · rw [o 2 e (by decide), o 3 e (by decide)]
      exact h5 e he
    · rw [o 4 q (by decide)]
      exact h7 q hq
    · rw [o 5 q (by decide)]
      exact h8 q hq
    · by_cases hq : q = 12 * p + a
      · subst hq
        right
        exact ⟨by omega, by omega, c, hc, upS_at _ _ _ _⟩
      · rw [upS_j hq]
        exact h9 q
  rw [if_neg l3] at c4
  rw [if_neg l3]
  have g1 : nmE b L 0 (nI (wP S) - 1) (k1 b L s) = 0 := c4
  obtain ⟨a, ha, ea⟩ := nm_k (by omega) g1
  rw [ea]
  have o : ∀ x y, ¬ x = 0 → upS S 0 3 (nI a) x y = S x y := fun x y h1 => upS_i h1
  have oz : ∀ y, ¬ y = 3 → upS S 0 3 (nI a) 0 y = S 0 y := fun y h1 => upS_j h1
  have eP : wP (upS S 0 3 (nI a)) = wP S := lw_ex ((oz 0 (by decide)).trans p1) (by omega)
  have eD : wD (upS S 0 3 (nI a)) = wD S := lw_eD ((oz 1 (by decide)).trans d1) (by omega)
  have eN : wN (upS S 0 3 (nI a)) = wN S := lw_eN ((oz 2 (by decide)).trans n1) (by omega)
  have eS : wS (upS S 0 3 (nI a)) = a := lw_eS (upS_at _ _ _ _) (by omega)
  unfold LW
  rw [eP, eD, eN, eS, oz 0 (by decide), oz 1 (by decide), oz 2 (by decide), upS_at]
  refine ⟨⟨p1, p2⟩, ⟨d1, d2⟩, ⟨n1, n2⟩, ⟨rfl, Or.inl ha⟩, fun e he => ?_, h6, fun q hq => ?_, fun q hq => ?_, fun q => ?_⟩
  · rw [o 2 e (by decide), o 3 e (by decide)]
    exact h5 e he
  · rw [o 4 q (by decide)]
    exact h7 q hq
  · rw [o 5 q (by decide)]
    exact h8 q hq
  · rw [o 6 q (by decide)]
    exact h9 q
