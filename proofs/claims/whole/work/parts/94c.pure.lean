/-! ===== what the constructors make: the reference ===== -/
/-- the marks that may be set: a kind, from, to -/
def uM (U : List (Nat × Nat × Nat)) (b c : Nat) : Bool := U.any (fun t => b == t.1 && (decide (t.2.1 ≤ c) && decide (c < t.2.2)))
/-- what the reference's constructor leaves as it is -/
def Zx (U : List (Nat × Nat × Nat)) (m M : Mem) : Prop := (∀ k c, uM U k c = false → M 94 k c = m 94 k c) ∧ (∀ a b, a < 49 → ¬ a = 12 → M a b = m a b) ∧ (∀ b, M 100 b = m 100 b) ∧ M 12 0 1 = 0 ∧ M 12 0 3 = -1 ∧ M 50 0 0 = 0 ∧ M 50 0 1 = 0
theorem Zx.w {U : List (Nat × Nat × Nat)} {m M : Mem} {j : Nat} {x : Int32} (h : Zx U m M) (h1 : ¬ j = 1) (h3 : ¬ j = 3) : Zx U m (wr M 12 0 j x) := by
  obtain ⟨a1, a2, a3, a4, a5, a6, a7⟩ := h
  refine ⟨fun k c hk => ?_, fun a b ha hb => ?_, fun b => ?_, ?_, ?_, ?_, ?_⟩
  · rw [wr_k (by decide)]
    exact a1 k c hk
  · rw [← a2 a b ha hb]
    funext c
    exact wr_k hb
  · rw [← a3 b]
    funext c
    exact wr_k (by decide)
  · rw [wr_j (fun e => h1 e.symm), a4]
  · rw [wr_j (fun e => h3 e.symm), a5]
  · rw [wr_k (by decide), a6]
  · rw [wr_k (by decide), a7]
theorem Zx.n {U : List (Nat × Nat × Nat)} {m M : Mem} {k i : Nat} (h : Zx U m M) (hk : 49 ≤ k ∧ k < 93) : Zx ((k, i, i + 1) :: U) m (nw M k i) := by
  obtain ⟨a1, a2, a3, a4, a5, a6, a7⟩ := h
  have hb : bas k = k := bas_self (by omega)
  refine ⟨fun a c ha => ?_, fun a b ha hb => ?_, fun b => ?_, ?_, ?_, ?_, ?_⟩
  · have hu : uM ((k, i, i + 1) :: U) a c = ((a == k && (decide (i ≤ c) && decide (c < i + 1))) || uM U a c) := rfl
    rw [hu, Bool.or_eq_false_iff] at ha
    unfold nw
    rw [hb, if_neg (by omega), if_neg (fun e => by
      have := ha.1
      rw [e.2.1, e.2.2] at this
      simp at this)]
    exact a1 a c ha.2
  · rw [← a2 a b ha hb]
    funext c
    unfold nw
    rw [bas_self (by omega), if_neg (by omega), if_neg (by omega)]
  · rw [← a3 b]
    funext c
    unfold nw
    rw [bas_self (by omega), if_neg (by omega), if_neg (by omega)]
  · unfold nw
    rw [hb, if_neg (by omega), if_neg (by omega), a4]
  · unfold nw
    rw [hb, if_neg (by omega), if_neg (by omega), a5]
  · unfold nw
    rw [hb]
    by_cases e : 50 = k ∧ 0 = i
    · rw [if_pos e]
    · rw [if_neg e, if_neg (by omega), a6]
  · unfold nw
    rw [hb]
    by_cases e : 50 = k ∧ 0 = i
    · rw [if_pos e]
    · rw [if_neg e, if_neg (by omega), a7]
theorem Zx.sub {U V : List (Nat × Nat × Nat)} {m M : Mem} (h : Zx U m M) (hs : ∀ b c, uM V b c = false → uM U b c = false) : Zx V m M := ⟨fun k c hk => h.1 k c (hs k c hk), h.2⟩
theorem mkL_app {a : List (Nat × Nat)} : ∀ {x : Nat × Nat} {M : Mem}, mkL M (a ++ [x]) = nw (mkL M a) x.1 x.2 := by
  induction a with
  | nil => exact fun {x M} => rfl
  | cons y a ih => exact fun {x M} => ih (x := x) (M := nw M y.1 y.2)
theorem Zx.L {U : List (Nat × Nat × Nat)} {m M : Mem} {k o : Nat} (h : Zx U m M) (hk : 49 ≤ k ∧ k < 93) : ∀ N, Zx ((k, o, o + N) :: U) m (mkL M ((List.range N).map (fun j => (k, o + j))))
  | 0 => h.sub (fun b c hb => by
      have hu : uM ((k, o, o + 0) :: U) b c = ((b == k && (decide (o ≤ c) && decide (c < o + 0))) || uM U b c) := rfl
      rw [hu, Bool.or_eq_false_iff] at hb
      exact hb.2)
  | N + 1 => by
    rw [List.range_succ, List.map_append, List.map_cons, List.map_nil, mkL_app]
    refine ((h.L hk N).n (k := k) (i := o + N) hk).sub (fun b c hb => ?_)
    have hu : uM ((k, o, o + (N + 1)) :: U) b c = ((b == k && (decide (o ≤ c) && decide (c < o + (N + 1)))) || uM U b c) := rfl
    have hv : uM ((k, o + N, o + N + 1) :: (k, o, o + N) :: U) b c = ((b == k && (decide (o + N ≤ c) && decide (c < o + N + 1))) || ((b == k && (decide (o ≤ c) && decide (c < o + N))) || uM U b c)) := rfl
    rw [hu, Bool.or_eq_false_iff] at hb
    rw [hv, hb.2, Bool.or_false, Bool.or_eq_false_iff]
    have := hb.1
    by_cases e : b = k
    · rw [e, beq_self_eq_true, Bool.true_and] at this ⊢
      simp only [Bool.and_eq_false_iff, decide_eq_false_iff_not] at this ⊢
      omega
    · rw [beq_eq_false_iff_ne.mpr e, Bool.false_and, Bool.false_and]
      exact ⟨rfl, rfl⟩
theorem Zx.fz {U : List (Nat × Nat × Nat)} {m M : Mem} {k i : Nat} (h : Zx U m M) (hu : uM U k i = false) (hz : m 94 k i = 0) : M 94 k i = 0 := (h.1 k i hu).trans hz
theorem Zx.fs {U : List (Nat × Nat × Nat)} {m M : Mem} {k o N : Nat} (h : Zx U m M) (hu : (List.range N).all (fun j => !uM U k (o + j)) = true) (hz : ∀ c, m 94 k c = 0) : frs M k o N = true := by
  refine List.all_eq_true.mpr (fun j hj => decide_eq_true ?_)
  have := List.all_eq_true.mp hu j hj
  exact (h.1 k (o + j) (by simpa using this)).trans (hz _)
abbrev uX : List (Nat × Nat × Nat) := [(90, 0, 0 + 1), (89, 0, 0 + 12), (88, 0, 0 + 1), (87, 0, 0 + 12), (59, 0, 0 + 1), (86, 0, 0 + 1), (85, 0, 0 + 32), (58, 0, 0 + 1), (57, 0, 0 + 1), (84, 0, 0 + 1), (83, 0, 0 + 3), (91, 0, 0 + 1), (60, 2, 2 + 16), (60, 1, 1 + 1), (60, 0, 0 + 1), (82, 0, 0 + 1), (81, 0, 0 + 80), (56, 0, 0 + 1), (55, 0, 0 + 1), (80, 0, 0 + 1), (79, 0, 0 + 12), (78, 0, 0 + 1), (77, 0, 0 + 12), (76, 0, 0 + 1), (75, 0, 0 + 160), (74, 0, 0 + 1), (73, 0, 0 + 160), (72, 0, 0 + 1), (71, 0, 0 + 6), (70, 0, 0 + 1), (69, 0, 0 + 6), (68, 0, 0 + 1), (67, 0, 0 + 6), (66, 0, 0 + 1), (65, 0, 0 + 6), (64, 0, 0 + 1), (63, 0, 0 + 16), (62, 0, 0 + 1), (61, 0, 0 + 16), (54, 0, 0 + 1), (53, 0, 0 + 1), (52, 0, 0 + 1), (51, 0, 0 + 1), (50, 0, 0 + 1), (49, 0, 0 + 1)]
set_option maxHeartbeats 8000000 in
set_option maxRecDepth 20000 in
theorem mk_X12 {m : Mem} (hz : ∀ b c, 49 ≤ b → b < 93 → m 94 b c = 0) (hz12 : m 94 12 0 = 0) (h1 : m 12 0 1 = 0) (h50 : m 50 0 0 = 0 ∧ m 50 0 1 = 0) : Tot (r_X12_init m) (fun M => ¬ M 94 12 0 = 0 ∧ M 94 92 0 = 0 ∧ BgP bad0 M ∧ (∀ k c, ¬ k = 12 → uM uX k c = false → M 94 k c = m 94 k c) ∧ (∀ a b, a < 49 → ¬ a = 12 → M a b = m a b) ∧ (∀ b, M 100 b = m 100 b) ∧ M 12 0 1 = 0 ∧ M 12 0 3 = -1 ∧ M 50 0 0 = 0 ∧ M 50 0 1 = 0) := by
  unfold r_X12_init
  rw [if_pos (hz 49 0 (by decide) (by decide))]
  rw [if_pos (hz 50 0 (by decide) (by decide))]
  rw [if_pos (hz 51 0 (by decide) (by decide))]
  rw [if_pos (hz 52 0 (by decide) (by decide))]
  rw [if_pos (hz 53 0 (by decide) (by decide))]
  rw [if_pos (hz 54 0 (by decide) (by decide))]
  rw [if_pos (hz 62 0 (by decide) (by decide))]
  have z1 : Zx [] m (wr m 12 0 3 (-1)) := ⟨fun _ _ _ => wr_k (by decide), fun a b _ hb => funext fun c => wr_k hb, fun b => funext fun c => wr_k (by decide), (wr_j (by decide)).trans h1, wr_eq _ _ _ _ _, (wr_k (by decide)).trans h50.1, (wr_k (by decide)).trans h50.2⟩
  generalize wr m 12 0 3 (-1) = b1 at z1 ⊢
  have z2 := z1.n (k := 49) (i := 0) (by decide)
  generalize nw b1 49 0 = b2 at z2 ⊢
  have z3 := z2.w (j := 9) (x := 1) (by decide) (by decide)
  generalize wr b2 12 0 9 1 = b3 at z3 ⊢
  have z4 := z3.n (k := 50) (i := 0) (by decide)
  generalize nw b3 50 0 = b4 at z4 ⊢
  have z5 := z4.w (j := 10) (x := 1) (by decide) (by decide)
  generalize wr b4 12 0 10 1 = b5 at z5 ⊢
  have z6 := z5.n (k := 51) (i := 0) (by decide)
  generalize nw b5 51 0 = b6 at z6 ⊢
  have z7 := z6.w (j := 11) (x := 1) (by decide) (by decide)
  generalize wr b6 12 0 11 1 = b7 at z7 ⊢
  have z8 := z7.n (k := 52) (i := 0) (by decide)
  generalize nw b7 52 0 = b8 at z8 ⊢
  have z9 := z8.w (j := 12) (x := 1) (by decide) (by decide)
  generalize wr b8 12 0 12 1 = b9 at z9 ⊢
  have z10 := z9.n (k := 53) (i := 0) (by decide)
  generalize nw b9 53 0 = b10 at z10 ⊢
  have z11 := z10.w (j := 13) (x := 1) (by decide) (by decide)
  generalize wr b10 12 0 13 1 = b11 at z11 ⊢
  have z12 := z11.n (k := 54) (i := 0) (by decide)
  generalize nw b11 54 0 = b12 at z12 ⊢
  have z13 := z12.w (j := 14) (x := 1) (by decide) (by decide)
  generalize wr b12 12 0 14 1 = b13 at z13 ⊢
  rw [if_pos (z13.fs (k := 61) (o := 0) (N := 16) rfl (fun c => hz _ c (by decide) (by decide)))]
  have z14 := z13.L (k := 61) (o := 0) (by decide) 16
  generalize mkL b13 ((List.range 16).map (fun j => (61, 0 + j))) = b14 at z14 ⊢
  have z15 := z14.n (k := 62) (i := 0) (by decide)
  generalize nw b14 62 0 = b15 at z15 ⊢
  rw [if_pos (z15.fz (k := 64) (i := 0) rfl (hz _ _ (by decide) (by decide)))]
  have z16 := z15.w (j := 15) (x := 1) (by decide) (by decide)
  generalize wr b15 12 0 15 1 = b16 at z16 ⊢
  rw [if_pos (z16.fs (k := 63) (o := 0) (N := 16) rfl (fun c => hz _ c (by decide) (by decide)))]
  have z17 := z16.L (k := 63) (o := 0) (by decide) 16
  generalize mkL b16 ((List.range 16).map (fun j => (63, 0 + j))) = b17 at z17 ⊢
  have z18 := z17.n (k := 64) (i := 0) (by decide)
  generalize nw b17 64 0 = b18 at z18 ⊢
  rw [if_pos (z18.fz (k := 66) (i := 0) rfl (hz _ _ (by decide) (by decide)))]
  have z19 := z18.w (j := 16) (x := 1) (by decide) (by decide)
  generalize wr b18 12 0 16 1 = b19 at z19 ⊢
  rw [if_pos (z19.fs (k := 65) (o := 0) (N := 6) rfl (fun c => hz _ c (by decide) (by decide)))]
  have z20 := z19.L (k := 65) (o := 0) (by decide) 6
  generalize mkL b19 ((List.range 6).map (fun j => (65, 0 + j))) = b20 at z20 ⊢
  have z21 := z20.n (k := 66) (i := 0) (by decide)
  generalize nw b20 66 0 = b21 at z21 ⊢
  rw [if_pos (z21.fz (k := 68) (i := 0) rfl (hz _ _ (by decide) (by decide)))]
  have z22 := z21.w (j := 17) (x := 1) (by decide) (by decide)
  generalize wr b21 12 0 17 1 = b22 at z22 ⊢
  rw [if_pos (z22.fs (k := 67) (o := 0) (N := 6) rfl (fun c => hz _ c (by decide) (by decide)))]
  have z23 := z22.L (k := 67) (o := 0) (by decide) 6
  generalize mkL b22 ((List.range 6).map (fun j => (67, 0 + j))) = b23 at z23 ⊢
  have z24 := z23.n (k := 68) (i := 0) (by decide)
  generalize nw b23 68 0 = b24 at z24 ⊢
  rw [if_pos (z24.fz (k := 70) (i := 0) rfl (hz _ _ (by decide) (by decide)))]
  have z25 := z24.w (j := 18) (x := 1) (by decide) (by decide)
  generalize wr b24 12 0 18 1 = b25 at z25 ⊢
  rw [if_pos (z25.fs (k := 69) (o := 0) (N := 6) rfl (fun c => hz _ c (by decide) (by decide)))]
  have z26 := z25.L (k := 69) (o := 0) (by decide) 6
  generalize mkL b25 ((List.range 6).map (fun j => (69, 0 + j))) = b26 at z26 ⊢
  have z27 := z26.n (k := 70) (i := 0) (by decide)
  generalize nw b26 70 0 = b27 at z27 ⊢
  rw [if_pos (z27.fz (k := 72) (i := 0) rfl (hz _ _ (by decide) (by decide)))]
  have z28 := z27.w (j := 19) (x := 1) (by decide) (by decide)
  generalize wr b27 12 0 19 1 = b28 at z28 ⊢
  rw [if_pos (z28.fs (k := 71) (o := 0) (N := 6) rfl (fun c => hz _ c (by decide) (by decide)))]
  have z29 := z28.L (k := 71) (o := 0) (by decide) 6
  generalize mkL b28 ((List.range 6).map (fun j => (71, 0 + j))) = b29 at z29 ⊢
  have z30 := z29.n (k := 72) (i := 0) (by decide)
  generalize nw b29 72 0 = b30 at z30 ⊢
  rw [if_pos (z30.fz (k := 74) (i := 0) rfl (hz _ _ (by decide) (by decide)))]
  have z31 := z30.w (j := 20) (x := 1) (by decide) (by decide)
  generalize wr b30 12 0 20 1 = b31 at z31 ⊢
  rw [if_pos (z31.fs (k := 73) (o := 0) (N := 160) rfl (fun c => hz _ c (by decide) (by decide)))]
  have z32 := z31.L (k := 73) (o := 0) (by decide) 160
  generalize mkL b31 ((List.range 160).map (fun j => (73, 0 + j))) = b32 at z32 ⊢
  have z33 := z32.n (k := 74) (i := 0) (by decide)
  generalize nw b32 74 0 = b33 at z33 ⊢
  rw [if_pos (z33.fz (k := 76) (i := 0) rfl (hz _ _ (by decide) (by decide)))]
  have z34 := z33.w (j := 23) (x := 1) (by decide) (by decide)
  generalize wr b33 12 0 23 1 = b34 at z34 ⊢
  rw [if_pos (z34.fs (k := 75) (o := 0) (N := 160) rfl (fun c => hz _ c (by decide) (by decide)))]
  have z35 := z34.L (k := 75) (o := 0) (by decide) 160
  generalize mkL b34 ((List.range 160).map (fun j => (75, 0 + j))) = b35 at z35 ⊢
  have z36 := z35.n (k := 76) (i := 0) (by decide)
  generalize nw b35 76 0 = b36 at z36 ⊢
  rw [if_pos (z36.fz (k := 78) (i := 0) rfl (hz _ _ (by decide) (by decide)))]
  have z37 := z36.w (j := 24) (x := 1) (by decide) (by decide)
  generalize wr b36 12 0 24 1 = b37 at z37 ⊢
  rw [if_pos (z37.fs (k := 77) (o := 0) (N := 12) rfl (fun c => hz _ c (by decide) (by decide)))]
  have z38 := z37.L (k := 77) (o := 0) (by decide) 12
  generalize mkL b37 ((List.range 12).map (fun j => (77, 0 + j))) = b38 at z38 ⊢
  have z39 := z38.n (k := 78) (i := 0) (by decide)
  generalize nw b38 78 0 = b39 at z39 ⊢
  rw [if_pos (z39.fz (k := 80) (i := 0) rfl (hz _ _ (by decide) (by decide)))]
  have z40 := z39.w (j := 25) (x := 1) (by decide) (by decide)
  generalize wr b39 12 0 25 1 = b40 at z40 ⊢
  rw [if_pos (z40.fs (k := 79) (o := 0) (N := 12) rfl (fun c => hz _ c (by decide) (by decide)))]
  have z41 := z40.L (k := 79) (o := 0) (by decide) 12
  generalize mkL b40 ((List.range 12).map (fun j => (79, 0 + j))) = b41 at z41 ⊢
  have z42 := z41.n (k := 80) (i := 0) (by decide)
  generalize nw b41 80 0 = b42 at z42 ⊢
  rw [if_pos (z42.fz (k := 55) (i := 0) rfl (hz _ _ (by decide) (by decide)))]
  rw [if_pos (z42.fz (k := 56) (i := 0) rfl (hz _ _ (by decide) (by decide)))]
  rw [if_pos (z42.fz (k := 82) (i := 0) rfl (hz _ _ (by decide) (by decide)))]
  have z43 := z42.w (j := 26) (x := 1) (by decide) (by decide)
  generalize wr b42 12 0 26 1 = b43 at z43 ⊢
  have z44 := z43.n (k := 55) (i := 0) (by decide)
  generalize nw b43 55 0 = b44 at z44 ⊢
  have z45 := z44.w (j := 27) (x := 1) (by decide) (by decide)
  generalize wr b44 12 0 27 1 = b45 at z45 ⊢
  have z46 := z45.n (k := 56) (i := 0) (by decide)
  generalize nw b45 56 0 = b46 at z46 ⊢
  have z47 := z46.w (j := 28) (x := 1) (by decide) (by decide)
  generalize wr b46 12 0 28 1 = b47 at z47 ⊢
  rw [if_pos (z47.fs (k := 81) (o := 0) (N := 80) rfl (fun c => hz _ c (by decide) (by decide)))]
  have z48 := z47.L (k := 81) (o := 0) (by decide) 80
  generalize mkL b47 ((List.range 80).map (fun j => (81, 0 + j))) = b48 at z48 ⊢
  have z49 := z48.n (k := 82) (i := 0) (by decide)
  generalize nw b48 82 0 = b49 at z49 ⊢
  rw [if_pos (z49.fz (k := 60) (i := 0) rfl (hz _ _ (by decide) (by decide)))]
  have z50 := z49.w (j := 29) (x := 1) (by decide) (by decide)
  generalize wr b49 12 0 29 1 = b50 at z50 ⊢
  have z51 := z50.n (k := 60) (i := 0) (by decide)
  generalize nw b50 60 0 = b51 at z51 ⊢
  rw [if_pos (z51.fz (k := 60) (i := 1) rfl (hz _ _ (by decide) (by decide)))]
  rw [if_pos (z49.fz (k := 91) (i := 0) rfl (hz _ _ (by decide) (by decide)))]
  have z52 := z51.w (j := 31) (x := 1) (by decide) (by decide)
  generalize wr b51 12 0 31 1 = b52 at z52 ⊢
  have z53 := z52.n (k := 60) (i := 1) (by decide)
  generalize nw b52 60 1 = b53 at z53 ⊢
  have z54 := z53.w (j := 32) (x := 1) (by decide) (by decide)
  generalize wr b53 12 0 32 1 = b54 at z54 ⊢
  rw [if_pos (z54.fs (k := 60) (o := 2) (N := 16) rfl (fun c => hz _ c (by decide) (by decide)))]
  have z55 := z54.L (k := 60) (o := 2) (by decide) 16
  generalize mkL b54 ((List.range 16).map (fun j => (60, 2 + j))) = b55 at z55 ⊢
  have z56 := z55.n (k := 91) (i := 0) (by decide)
  generalize nw b55 91 0 = b56 at z56 ⊢
  rw [if_pos (z56.fz (k := 84) (i := 0) rfl (hz _ _ (by decide) (by decide)))]
  have z57 := z56.w (j := 33) (x := 1) (by decide) (by decide)
  generalize wr b56 12 0 33 1 = b57 at z57 ⊢
  rw [if_pos (z57.fs (k := 83) (o := 0) (N := 3) rfl (fun c => hz _ c (by decide) (by decide)))]
  have z58 := z57.L (k := 83) (o := 0) (by decide) 3
  generalize mkL b57 ((List.range 3).map (fun j => (83, 0 + j))) = b58 at z58 ⊢
  have z59 := z58.n (k := 84) (i := 0) (by decide)
  generalize nw b58 84 0 = b59 at z59 ⊢
  rw [if_pos (z59.fz (k := 57) (i := 0) rfl (hz _ _ (by decide) (by decide)))]
  rw [if_pos (z59.fz (k := 58) (i := 0) rfl (hz _ _ (by decide) (by decide)))]
  rw [if_pos (z59.fz (k := 86) (i := 0) rfl (hz _ _ (by decide) (by decide)))]
  have z60 := z59.w (j := 34) (x := 1) (by decide) (by decide)
  generalize wr b59 12 0 34 1 = b60 at z60 ⊢
  have z61 := z60.n (k := 57) (i := 0) (by decide)
  generalize nw b60 57 0 = b61 at z61 ⊢
  have z62 := z61.w (j := 40) (x := 1) (by decide) (by decide)
  generalize wr b61 12 0 40 1 = b62 at z62 ⊢
  have z63 := z62.n (k := 58) (i := 0) (by decide)
  generalize nw b62 58 0 = b63 at z63 ⊢
  have z64 := z63.w (j := 41) (x := 1) (by decide) (by decide)
  generalize wr b63 12 0 41 1 = b64 at z64 ⊢
  rw [if_pos (z64.fs (k := 85) (o := 0) (N := 32) rfl (fun c => hz _ c (by decide) (by decide)))]
  have z65 := z64.L (k := 85) (o := 0) (by decide) 32
  generalize mkL b64 ((List.range 32).map (fun j => (85, 0 + j))) = b65 at z65 ⊢
  have z66 := z65.n (k := 86) (i := 0) (by decide)
  generalize nw b65 86 0 = b66 at z66 ⊢
  rw [if_pos (z66.fz (k := 59) (i := 0) rfl (hz _ _ (by decide) (by decide)))]
  rw [if_pos (z66.fz (k := 88) (i := 0) rfl (hz _ _ (by decide) (by decide)))]
  have z67 := z66.w (j := 45) (x := 1) (by decide) (by decide)
  generalize wr b66 12 0 45 1 = b67 at z67 ⊢
  have z68 := z67.n (k := 59) (i := 0) (by decide)
  generalize nw b67 59 0 = b68 at z68 ⊢
  have z69 := z68.w (j := 46) (x := 1) (by decide) (by decide)
  generalize wr b68 12 0 46 1 = b69 at z69 ⊢
  rw [if_pos (z69.fs (k := 87) (o := 0) (N := 12) rfl (fun c => hz _ c (by decide) (by decide)))]
  have z70 := z69.L (k := 87) (o := 0) (by decide) 12
  generalize mkL b69 ((List.range 12).map (fun j => (87, 0 + j))) = b70 at z70 ⊢
  have z71 := z70.n (k := 88) (i := 0) (by decide)
  generalize nw b70 88 0 = b71 at z71 ⊢
  rw [if_pos (z71.fz (k := 90) (i := 0) rfl (hz _ _ (by decide) (by decide)))]
  have z72 := z71.w (j := 48) (x := 1) (by decide) (by decide)
  generalize wr b71 12 0 48 1 = b72 at z72 ⊢
  rw [if_pos (z72.fs (k := 89) (o := 0) (N := 12) rfl (fun c => hz _ c (by decide) (by decide)))]
  have z73 := z72.L (k := 89) (o := 0) (by decide) 12
  generalize mkL b72 ((List.range 12).map (fun j => (89, 0 + j))) = b73 at z73 ⊢
  have z74 := z73.n (k := 90) (i := 0) (by decide)
  generalize nw b73 90 0 = b74 at z74 ⊢
  rw [if_pos (z74.fz (k := 12) (i := 0) rfl hz12)]
  have z75 := z74.w (j := 49) (x := 1) (by decide) (by decide)
  generalize wr b74 12 0 49 1 = b75 at z75 ⊢
  obtain ⟨a1, a2, a3, a4, a5, a6, a7⟩ := z75
  have q0 : (wr b75 94 12 0 1) 94 12 0 = 1 := wr_eq _ _ _ _ _
  have q1 : ∀ k c, ¬ k = 12 → uM uX k c = false → (wr b75 94 12 0 1) 94 k c = m 94 k c := fun k c hk hu => (wr_i hk).trans (a1 k c hu)
  have q2 : ∀ a b, ¬ a = 94 → (wr b75 94 12 0 1) a b = b75 a b := fun a b ha => funext fun c => wr_k ha
  generalize wr b75 94 12 0 1 = n0 at q0 q1 q2 ⊢
  rw [tot_bd1]
  refine tellsN_m.mono ?_
  rintro n1 ⟨c1, c2⟩
  rw [tot_bd1]
  refine (begins_m LW_0 c1).mono ?_
  rintro n2 ⟨d1, d2⟩
  have hF : Fj KRl JBg n0 n2 := (c2.mono (by simp) (by simp)).tr (d2.mono (by simp) (by simp))
  have r94 : ∀ b, n2 94 b = n0 94 b := fun b => hF.kd 94 b rfl
  have rlo : ∀ a b, a < 49 → ¬ a = 12 → n2 a b = n0 a b := fun a b ha hb => by
    have kk : KRl.all (fun q => decide (49 ≤ q.1)) = true := rfl
    have jj : JBg.all (fun q => q.1 == 12) = true := rfl
    rw [List.all_eq_true] at kk jj
    refine hF.rw' a b (fun q hq e => ?_) (fun q hq e => ?_)
    · have := of_decide_eq_true (kk q hq)
      rw [e] at this
      dsimp only at this
      omega
    · have := jj q hq
      rw [e] at this
      exact hb (by simpa using this)
  refine tot_some.mpr ⟨?_, ?_, d1, fun k c hk hu => ?_, fun a b ha hb => ?_, fun b => ?_, ?_, ?_, ?_, ?_⟩
  · rw [r94, q0]
    decide
  · rw [r94, q1 92 0 (by decide) rfl]
    exact hz _ _ (by decide) (by decide)
  · rw [r94]
    exact q1 k c hk hu
  · rw [rlo a b ha hb, q2 a b (by omega)]
    exact a2 a b ha hb
  · rw [hF.kd 100 b rfl, q2 100 b (by decide)]
    exact a3 b
  · rw [hF 12 0 1 (by simp) (by simp), q2 12 0 (by decide)]
    exact a4
  · rw [hF 12 0 3 (by simp) (by simp), q2 12 0 (by decide)]
    exact a5
  · rw [hF.kd 50 0 rfl, q2 50 0 (by decide)]
    exact a6
  · rw [hF.kd 50 0 rfl, q2 50 0 (by decide)]
    exact a7
