/-! ===== what the constructors make: the class ===== -/
/-- the rows and marks named by X, and nothing else, have changed -/
def tCc (X : List (List Nat × Nat)) (a b : Nat) : Bool := X.any (fun x => x.1.contains a && b == x.2)
def Fqc (X : List (List Nat × Nat)) (m M : Mem) : Prop := (∀ a b, ¬ a = 94 → tCc X a b = false → M a b = m a b) ∧ ∀ b c, tCc X b c = false → M 94 b c = m 94 b c
theorem Fqc.rf {X : List (List Nat × Nat)} {m : Mem} : Fqc X m m := ⟨fun _ _ _ _ => rfl, fun _ _ _ => rfl⟩
theorem tCc_app {X Y : List (List Nat × Nat)} {a b : Nat} (h : tCc (X ++ Y) a b = false) : tCc X a b = false ∧ tCc Y a b = false := by
  unfold tCc at h ⊢
  rw [List.any_append, Bool.or_eq_false_iff] at h
  exact h
theorem Fqc.ap {X Y : List (List Nat × Nat)} {m m1 M : Mem} (h : Fqc X m m1) (h2 : Fqc Y m1 M) : Fqc (Y ++ X) m M :=
  ⟨fun a b ha ht => (h2.1 a b ha (tCc_app ht).1).trans (h.1 a b ha (tCc_app ht).2), fun b c ht => (h2.2 b c (tCc_app ht).1).trans (h.2 b c (tCc_app ht).2)⟩
theorem Fqc.tr {X : List (List Nat × Nat)} {m m1 M : Mem} (h : Fqc X m m1) (h2 : Fqc X m1 M) : Fqc X m M :=
  ⟨fun a b ha ht => (h2.1 a b ha ht).trans (h.1 a b ha ht), fun b c ht => (h2.2 b c ht).trans (h.2 b c ht)⟩
theorem Fqc.w {X : List (List Nat × Nat)} {m m1 : Mem} {k i j : Nat} {x : Int32} (h : Fqc X m m1) (hk : ¬ k = 94) (ht : tCc X k i = true) : Fqc X m (wr m1 k i j x) := by
  refine ⟨fun a b ha hb => ?_, fun b c hb => ?_⟩
  · rw [← h.1 a b ha hb]
    funext c
    unfold wr
    rw [if_neg (fun e => by rw [e.1, e.2.1, ht] at hb; cases hb)]
  · rw [wr_k (fun e => hk e.symm)]
    exact h.2 b c hb
theorem Fqc.w9 {X : List (List Nat × Nat)} {m m1 : Mem} {k i : Nat} {x : Int32} (h : Fqc X m m1) (ht : tCc X k i = true) : Fqc X m (wr m1 94 k i x) := by
  refine ⟨fun a b ha hb => ?_, fun b c hb => ?_⟩
  · rw [← h.1 a b ha hb]
    funext c
    rw [wr_k ha]
  · rw [← h.2 b c hb]
    unfold wr
    rw [if_neg (fun e => by rw [e.2.1, e.2.2, ht] at hb; cases hb)]
theorem Fqc.n {X : List (List Nat × Nat)} {m m1 : Mem} {k i : Nat} (h : Fqc X m m1) (hk : ¬ bas k = 94) (ht : tCc X (bas k) i = true) (ht2 : tCc X k i = true) : Fqc X m (nw m1 k i) := by
  refine ⟨fun a b ha hb => ?_, fun b c hb => ?_⟩
  · rw [← h.1 a b ha hb]
    funext c
    unfold nw
    rw [if_neg (fun e => by rw [e.1, e.2, ht] at hb; cases hb), if_neg (fun e => ha e.1)]
  · rw [← h.2 b c hb]
    unfold nw
    rw [if_neg (fun e => hk e.1.symm), if_neg (fun e => by rw [e.2.1, e.2.2, ht2] at hb; cases hb)]
theorem Fqc.fr {X : List (List Nat × Nat)} {K : List (Nat × Nat)} {m m1 M : Mem} (h : Fqc X m m1) (h2 : Fr K m1 M) (hK : ∀ q ∈ K, ¬ q.1 = 94 ∧ tCc X q.1 q.2 = true) : Fqc X m M := by
  refine h.tr ⟨fun a b ha hb => h2 a b (fun hq => by have := (hK _ hq).2; rw [show tCc X a b = false from hb] at this; cases this), fun b c hb => ?_⟩
  rw [h2 94 b (fun hq => (hK _ hq).1 rfl)]
theorem tCc1 {L : List Nat} {i a : Nat} (h : L.contains a = true) : tCc [(L, i)] a i = true := by
  unfold tCc
  rw [List.any_cons, h, beq_self_eq_true]
  rfl
theorem nzc {m : Mem} {k i b c : Nat} (hk : ¬ bas k = 94) (hb : ¬ b = k) (h : m 94 b c = 0) : nw m k i 94 b c = 0 := (nw_94 hk hb).trans h
abbrev lC7 : List Nat := [7, 307, 20, 21, 22, 23, 24]
abbrev lC5 : List Nat := [5, 305, 46]
abbrev lC8 : List Nat := [8, 308, 37]
abbrev lC3 : List Nat := [3, 303, 25, 26, 27, 28, 29, 30, 31, 32]
abbrev lC2 : List Nat := [2, 302, 47, 48]
abbrev lC1 : List Nat := [1, 301, 36]
abbrev lC4 : List Nat := [4, 304, 33, 34, 35]
abbrev lC6 : List Nat := [6, 306, 38]
abbrev lC9 : List Nat := [9, 309, 39, 40, 41, 42]
abbrev lC0 : List Nat := [0, 300, 43, 44, 45]
abbrev lC10 : List Nat := [10, 310]
theorem mk_X7 {m : Mem} {i : Nat} (hz : ∀ b, lC7.contains b = true → m 94 b i = 0) : Tot (r_X7_init i (nw m 307 i)) (fun M => ¬ M 94 7 i = 0 ∧ Fqc [(lC7, i)] m M ∧ (M 7 i 0 = 0 ∧ M 7 i 1 = 0 ∧ (∀ e, M 23 i e = 0) ∧ ∀ e, M 24 i e = 0)) := by
  have n0 : Fqc [(lC7, i)] m (nw m 307 i) := Fqc.rf.n (by decide) (tCc1 rfl) (tCc1 rfl)
  unfold r_X7_init
  rw [if_pos (nzc (by decide) (by decide) (hz 20 rfl)), if_pos (nzc (by decide) (by decide) (hz 21 rfl)), if_pos (nzc (by decide) (by decide) (hz 22 rfl)), if_pos (nzc (by decide) (by decide) (hz 23 rfl)), if_pos (nzc (by decide) (by decide) (hz 24 rfl)), if_pos (nzc (by decide) (by decide) (hz 7 rfl))]
  refine tot_some.mpr ⟨by rw [wr_eq]; decide, ((((((((((((((((((((((n0).n (k := 20) (i := i) (by decide) (tCc1 rfl) (tCc1 rfl))).w (k := 7) (i := i) (by decide) (tCc1 rfl))).n (k := 21) (i := i) (by decide) (tCc1 rfl) (tCc1 rfl))).w (k := 7) (i := i) (by decide) (tCc1 rfl))).n (k := 22) (i := i) (by decide) (tCc1 rfl) (tCc1 rfl))).w (k := 7) (i := i) (by decide) (tCc1 rfl))).n (k := 23) (i := i) (by decide) (tCc1 rfl) (tCc1 rfl))).w (k := 7) (i := i) (by decide) (tCc1 rfl))).n (k := 24) (i := i) (by decide) (tCc1 rfl) (tCc1 rfl))).w (k := 7) (i := i) (by decide) (tCc1 rfl))).w9 (k := 7) (i := i) (tCc1 rfl)), ?_⟩
  refine ⟨?_, ?_, ?_, ?_⟩
  all_goals (intros; simp [wr, nw, bas])
theorem mk_X5 {m : Mem} {i : Nat} (hz : ∀ b, lC5.contains b = true → m 94 b i = 0) : Tot (r_X5_init i (nw m 305 i)) (fun M => ¬ M 94 5 i = 0 ∧ Fqc [(lC5, i)] m M ∧ (M 5 i 0 = 0 ∧ ∀ k, M 46 i k = 0)) := by
  have n0 : Fqc [(lC5, i)] m (nw m 305 i) := Fqc.rf.n (by decide) (tCc1 rfl) (tCc1 rfl)
  unfold r_X5_init
  rw [if_pos (nzc (by decide) (by decide) (hz 46 rfl)), if_pos (nzc (by decide) (by decide) (hz 5 rfl))]
  refine tot_some.mpr ⟨by rw [wr_eq]; decide, ((((((n0).n (k := 46) (i := i) (by decide) (tCc1 rfl) (tCc1 rfl))).w (k := 5) (i := i) (by decide) (tCc1 rfl))).w9 (k := 5) (i := i) (tCc1 rfl)), ?_⟩
  refine ⟨?_, ?_⟩
  all_goals (intros; simp [wr, nw, bas])
theorem mk_X8 {m : Mem} (hz : ∀ b, lC8.contains b = true → m 94 b 0 = 0) : Tot (r_X8_init (nw m 308 0)) (fun M => ¬ M 94 8 0 = 0 ∧ Fqc [(lC8, 0)] m M ∧ (M 8 0 1 = 0 ∧ M 8 0 3 = -1)) := by
  have n0 : Fqc [(lC8, 0)] m (nw m 308 0) := Fqc.rf.n (by decide) (tCc1 rfl) (tCc1 rfl)
  unfold r_X8_init
  rw [if_pos (nzc (by decide) (by decide) (hz 37 rfl)), if_pos (nzc (by decide) (by decide) (hz 8 rfl))]
  refine tot_some.mpr ⟨by rw [wr_eq]; decide, ((((((((n0).n (k := 37) (i := 0) (by decide) (tCc1 rfl) (tCc1 rfl))).w (k := 8) (i := 0) (by decide) (tCc1 rfl))).w (k := 8) (i := 0) (by decide) (tCc1 rfl))).w9 (k := 8) (i := 0) (tCc1 rfl)), ?_⟩
  refine ⟨?_, ?_⟩
  all_goals (intros; simp [wr, nw, bas])
theorem mk_X3 {m : Mem} {i : Nat} (hz : ∀ b, lC3.contains b = true → m 94 b i = 0) : Tot (r_X3_init i (nw m 303 i)) (fun M => ¬ M 94 3 i = 0 ∧ Fqc [(lC3, i)] m M ∧ (M 3 i 0 = 0 ∧ M 3 i 1 = 0 ∧ M 3 i 2 = 0 ∧ M 3 i 3 = 0 ∧ ∀ a, M 26 i a = 0)) := by
  have n0 : Fqc [(lC3, i)] m (nw m 303 i) := Fqc.rf.n (by decide) (tCc1 rfl) (tCc1 rfl)
  unfold r_X3_init
  rw [if_pos (nzc (by decide) (by decide) (hz 25 rfl)), if_pos (nzc (by decide) (by decide) (hz 26 rfl)), if_pos (nzc (by decide) (by decide) (hz 27 rfl)), if_pos (nzc (by decide) (by decide) (hz 28 rfl)), if_pos (nzc (by decide) (by decide) (hz 29 rfl)), if_pos (nzc (by decide) (by decide) (hz 30 rfl)), if_pos (nzc (by decide) (by decide) (hz 31 rfl)), if_pos (nzc (by decide) (by decide) (hz 32 rfl)), if_pos (nzc (by decide) (by decide) (hz 3 rfl))]
  refine tot_some.mpr ⟨by rw [wr_eq]; decide, ((((((((((((((((((((((((((((((((((n0).n (k := 25) (i := i) (by decide) (tCc1 rfl) (tCc1 rfl))).w (k := 3) (i := i) (by decide) (tCc1 rfl))).n (k := 26) (i := i) (by decide) (tCc1 rfl) (tCc1 rfl))).w (k := 3) (i := i) (by decide) (tCc1 rfl))).n (k := 27) (i := i) (by decide) (tCc1 rfl) (tCc1 rfl))).w (k := 3) (i := i) (by decide) (tCc1 rfl))).n (k := 28) (i := i) (by decide) (tCc1 rfl) (tCc1 rfl))).w (k := 3) (i := i) (by decide) (tCc1 rfl))).n (k := 29) (i := i) (by decide) (tCc1 rfl) (tCc1 rfl))).w (k := 3) (i := i) (by decide) (tCc1 rfl))).n (k := 30) (i := i) (by decide) (tCc1 rfl) (tCc1 rfl))).w (k := 3) (i := i) (by decide) (tCc1 rfl))).n (k := 31) (i := i) (by decide) (tCc1 rfl) (tCc1 rfl))).w (k := 3) (i := i) (by decide) (tCc1 rfl))).n (k := 32) (i := i) (by decide) (tCc1 rfl) (tCc1 rfl))).w (k := 3) (i := i) (by decide) (tCc1 rfl))).w9 (k := 3) (i := i) (tCc1 rfl)), ?_⟩
  refine ⟨?_, ?_, ?_, ?_, ?_⟩
  all_goals (intros; simp [wr, nw, bas])
theorem mk_X2 {m : Mem} (hz : ∀ b, lC2.contains b = true → m 94 b 0 = 0) : Tot (r_X2_init (nw m 302 0)) (fun M => ¬ M 94 2 0 = 0 ∧ Fqc [(lC2, 0)] m M ∧ (M 2 0 0 = 0 ∧ (∀ j, M 47 0 j = 0) ∧ ∀ j, M 48 0 j = 0)) := by
  have n0 : Fqc [(lC2, 0)] m (nw m 302 0) := Fqc.rf.n (by decide) (tCc1 rfl) (tCc1 rfl)
  unfold r_X2_init
  rw [if_pos (nzc (by decide) (by decide) (hz 47 rfl)), if_pos (nzc (by decide) (by decide) (hz 48 rfl)), if_pos (nzc (by decide) (by decide) (hz 2 rfl))]
  refine tot_some.mpr ⟨by rw [wr_eq]; decide, ((((((((((n0).n (k := 47) (i := 0) (by decide) (tCc1 rfl) (tCc1 rfl))).w (k := 2) (i := 0) (by decide) (tCc1 rfl))).n (k := 48) (i := 0) (by decide) (tCc1 rfl) (tCc1 rfl))).w (k := 2) (i := 0) (by decide) (tCc1 rfl))).w9 (k := 2) (i := 0) (tCc1 rfl)), ?_⟩
  refine ⟨?_, ?_, ?_⟩
  all_goals (intros; simp [wr, nw, bas])
theorem mk_X6 {m : Mem} (hz : ∀ b, lC6.contains b = true → m 94 b 0 = 0) : Tot (r_X6_init (nw m 306 0)) (fun M => ¬ M 94 6 0 = 0 ∧ Fqc [(lC6, 0)] m M ∧ (True)) := by
  have n0 : Fqc [(lC6, 0)] m (nw m 306 0) := Fqc.rf.n (by decide) (tCc1 rfl) (tCc1 rfl)
  unfold r_X6_init
  rw [if_pos (nzc (by decide) (by decide) (hz 38 rfl)), if_pos (nzc (by decide) (by decide) (hz 6 rfl))]
  refine tot_some.mpr ⟨by rw [wr_eq]; decide, ((((((((((n0).n (k := 38) (i := 0) (by decide) (tCc1 rfl) (tCc1 rfl))).w (k := 6) (i := 0) (by decide) (tCc1 rfl))).w (k := 6) (i := 0) (by decide) (tCc1 rfl))).w (k := 6) (i := 0) (by decide) (tCc1 rfl))).w9 (k := 6) (i := 0) (tCc1 rfl)), ?_⟩
  exact trivial
theorem mk_X9 {m : Mem} (hz : ∀ b, lC9.contains b = true → m 94 b 0 = 0) : Tot (r_X9_init (nw m 309 0)) (fun M => ¬ M 94 9 0 = 0 ∧ Fqc [(lC9, 0)] m M ∧ (True)) := by
  have n0 : Fqc [(lC9, 0)] m (nw m 309 0) := Fqc.rf.n (by decide) (tCc1 rfl) (tCc1 rfl)
  unfold r_X9_init
  rw [if_pos (nzc (by decide) (by decide) (hz 39 rfl)), if_pos (nzc (by decide) (by decide) (hz 40 rfl)), if_pos (nzc (by decide) (by decide) (hz 41 rfl)), if_pos (nzc (by decide) (by decide) (hz 42 rfl)), if_pos (nzc (by decide) (by decide) (hz 9 rfl))]
  refine tot_some.mpr ⟨by rw [wr_eq]; decide, ((((((((((((((((((((((((n0).n (k := 39) (i := 0) (by decide) (tCc1 rfl) (tCc1 rfl))).w (k := 9) (i := 0) (by decide) (tCc1 rfl))).n (k := 40) (i := 0) (by decide) (tCc1 rfl) (tCc1 rfl))).w (k := 9) (i := 0) (by decide) (tCc1 rfl))).n (k := 41) (i := 0) (by decide) (tCc1 rfl) (tCc1 rfl))).w (k := 9) (i := 0) (by decide) (tCc1 rfl))).n (k := 42) (i := 0) (by decide) (tCc1 rfl) (tCc1 rfl))).w (k := 9) (i := 0) (by decide) (tCc1 rfl))).w (k := 9) (i := 0) (by decide) (tCc1 rfl))).w (k := 9) (i := 0) (by decide) (tCc1 rfl))).w (k := 9) (i := 0) (by decide) (tCc1 rfl))).w9 (k := 9) (i := 0) (tCc1 rfl)), ?_⟩
  exact trivial
theorem mk_X1 {m : Mem} {i : Nat} (hz : ∀ b, lC1.contains b = true → m 94 b i = 0) : Tot (r_X1_init i (nw m 301 i)) (fun M => ¬ M 94 1 i = 0 ∧ Fqc [(lC1, i)] m M ∧ (M 1 i 0 = 0 ∧ ∀ a, a < 12 → M 36 i a = -1)) := by
  have n0 : Fqc [(lC1, i)] m (nw m 301 i) := Fqc.rf.n (by decide) (tCc1 rfl) (tCc1 rfl)
  unfold r_X1_init
  rw [if_pos (nzc (by decide) (by decide) (hz 36 rfl)), if_pos (nzc (by decide) (by decide) (hz 1 rfl)), tot_bd1]
  have n1 := ((n0.n (k := 36) (i := i) (by decide) (tCc1 rfl) (tCc1 rfl)).w (k := 1) (i := i) (j := 1) (x := 1) (by decide) (tCc1 rfl)).w9 (k := 1) (i := i) (x := 1) (tCc1 rfl)
  have v1 : (wr (wr (nw (nw m 301 i) 36 i) 1 i 1 1) 94 1 i 1) 94 1 i = 1 := wr_eq _ _ _ _ _
  generalize wr (wr (nw (nw m 301 i) 36 i) 1 i 1 1) 94 1 i 1 = m1 at n1 v1 ⊢
  unfold r_X1_clear
  rw [tot_bd1]
  refine fill36.mono ?_
  rintro m2 ⟨a1, a2⟩
  refine tot_some.mpr (tot_some.mpr ⟨?_, (n1.w (k := 1) (i := i) (j := 0) (x := 0) (by decide) (tCc1 rfl)).fr a2 ?_, ?_, a1⟩)
  · rw [a2 94 1 (by simp), wr_k (by decide), v1]
    decide
  · intro q hq
    rw [List.mem_singleton] at hq
    subst hq
    exact ⟨by show ¬ 36 = 94; decide, tCc1 rfl⟩
  · rw [a2 1 i (by simp), wr_eq]
theorem mk_X4 {m : Mem} {i : Nat} (hz : ∀ b, lC4.contains b = true → m 94 b i = 0) : Tot (r_X4_init i (nw m 304 i)) (fun M => ¬ M 94 4 i = 0 ∧ Fqc [(lC4, i)] m M ∧ (M 4 i 3 = 7 ∧ ∀ k, k < 7 → M 34 i k = wtL.getD k 0)) := by
  have n0 : Fqc [(lC4, i)] m (nw m 304 i) := Fqc.rf.n (by decide) (tCc1 rfl) (tCc1 rfl)
  unfold r_X4_init
  rw [if_pos (nzc (by decide) (by decide) (hz 33 rfl)), if_pos (nzc (by decide) (by decide) (hz 34 rfl)), if_pos (nzc (by decide) (by decide) (hz 35 rfl)), if_pos (nzc (by decide) (by decide) (hz 4 rfl)), tot_bd1]
  have n1 := ((((((n0.n (k := 33) (i := i) (by decide) (tCc1 rfl) (tCc1 rfl)).w (k := 4) (i := i) (j := 0) (x := 1) (by decide) (tCc1 rfl)).n (k := 34) (i := i) (by decide) (tCc1 rfl) (tCc1 rfl)).w (k := 4) (i := i) (j := 1) (x := 1) (by decide) (tCc1 rfl)).n (k := 35) (i := i) (by decide) (tCc1 rfl) (tCc1 rfl)).w (k := 4) (i := i) (j := 2) (x := 1) (by decide) (tCc1 rfl)).w9 (k := 4) (i := i) (x := 1) (tCc1 rfl)
  have v1 : (wr (wr (nw (wr (nw (wr (nw (nw m 304 i) 33 i) 4 i 0 1) 34 i) 4 i 1 1) 35 i) 4 i 2 1) 94 4 i 1) 94 4 i = 1 := wr_eq _ _ _ _ _
  generalize wr (wr (nw (wr (nw (wr (nw (nw m 304 i) 33 i) 4 i 0 1) 34 i) 4 i 1 1) 35 i) 4 i 2 1) 94 4 i 1 = m1 at n1 v1 ⊢
  refine clear4.mono ?_
  rintro m2 ⟨a1, a2, a3⟩
  refine tot_some.mpr ⟨?_, n1.fr a3 ?_, a1, a2⟩
  · rw [a3 94 4 (by simp), v1]
    decide
  · intro q hq
    simp only [List.mem_cons, List.not_mem_nil, or_false] at hq
    rcases hq with rfl | rfl
    · exact ⟨by show ¬ 4 = 94; decide, tCc1 rfl⟩
    · exact ⟨by show ¬ 34 = 94; decide, tCc1 rfl⟩
theorem mk_X0 {m : Mem} (hz : ∀ b, lC0.contains b = true → m 94 b 0 = 0) (hz7 : ∀ b, lC7.contains b = true → m 94 b 1 = 0) : Tot (r_X0_init (nw m 300 0)) (fun M => ¬ M 94 0 0 = 0 ∧ Fqc [(lC7, 1), (lC0, 0)] m M) := by
  have n0 : Fqc [(lC7, 1), (lC0, 0)] m (nw m 300 0) := Fqc.rf.n (by decide) rfl rfl
  have e7 : ∀ b, lC7.contains b = true → nw m 300 0 94 b 1 = 0 := fun b hb => nzc (by decide) (fun e => by rw [e] at hb; revert hb; decide) (hz7 b hb)
  unfold r_X0_init
  rw [if_pos (e7 307 rfl), tot_bd1]
  refine (mk_X7 e7).mono ?_
  rintro m2 ⟨a1, a2, -⟩
  have e2 : ∀ b, lC0.contains b = true → ¬ b = 300 → m2 94 b 0 = 0 := fun b hb hn => by
    rw [a2.2 b 0 (by unfold tCc; simp), nw_94 (by decide) hn]
    exact hz b hb
  rw [if_neg a1, if_pos (e2 43 rfl (by decide)), if_pos (e2 44 rfl (by decide)), if_pos (e2 45 rfl (by decide)), if_pos (e2 0 rfl (by decide))]
  have a3 : Fqc [(lC7, 1), (lC0, 0)] m m2 := n0.tr ⟨fun a b ha hb => a2.1 a b ha (tCc_app (X := [(lC7, 1)]) (Y := [(lC0, 0)]) hb).1, fun b c hb => a2.2 b c (tCc_app (X := [(lC7, 1)]) (Y := [(lC0, 0)]) hb).1⟩
  refine tot_some.mpr ⟨by rw [wr_eq]; decide, ?_⟩
  exact (((((((((a3.w (by decide) rfl).n (by decide) rfl rfl).w (by decide) rfl).n (by decide) rfl rfl).w (by decide) rfl).n (by decide) rfl rfl).w (by decide) rfl).w (by decide) rfl).w (by decide) rfl).w9 rfl
theorem mk_X10 {m : Mem} (hz : ∀ b, lC10.contains b = true → m 94 b 0 = 0) (hz7 : ∀ b, lC7.contains b = true → m 94 b 2 = 0) : Tot (r_X10_init (nw m 310 0)) (fun M => ¬ M 94 10 0 = 0 ∧ Fqc [(lC7, 2), (lC10, 0)] m M) := by
  have n0 : Fqc [(lC7, 2), (lC10, 0)] m (nw m 310 0) := Fqc.rf.n (by decide) rfl rfl
  have e7 : ∀ b, lC7.contains b = true → nw m 310 0 94 b 2 = 0 := fun b hb => nzc (by decide) (fun e => by rw [e] at hb; revert hb; decide) (hz7 b hb)
  unfold r_X10_init
  rw [if_pos (e7 307 rfl), tot_bd1]
  refine (mk_X7 e7).mono ?_
  rintro m2 ⟨a1, a2, -⟩
  have e2 : m2 94 10 0 = 0 := by
    rw [a2.2 10 0 (by unfold tCc; simp), nw_94 (by decide) (by decide)]
    exact hz 10 rfl
  rw [if_neg a1, if_pos e2]
  have a3 : Fqc [(lC7, 2), (lC10, 0)] m m2 := n0.tr ⟨fun a b ha hb => a2.1 a b ha (tCc_app (X := [(lC7, 2)]) (Y := [(lC10, 0)]) hb).1, fun b c hb => a2.2 b c (tCc_app (X := [(lC7, 2)]) (Y := [(lC10, 0)]) hb).1⟩
  refine tot_some.mpr ⟨by rw [wr_eq]; decide, ?_⟩
  exact (((a3.w (by decide) rfl).w (by decide) rfl).w (by decide) rfl).w9 rfl
/-- the whole's own fields -/
def O11 (l : List Nat) (m : Mem) : Prop := (∀ j, l.contains j = true → ¬ m 11 0 j = 0) ∧ ∀ j, 14 ≤ j → m 11 0 j = 0
theorem O11.st {X : List (List Nat × Nat)} {l : List Nat} {m M : Mem} {j : Nat} (h : O11 l m) (hF : Fqc X (wr m 11 0 j 1) M) (hj : j < 14) (hx : tCc X 11 0 = false) : O11 (j :: l) M := by
  have e : M 11 0 = wr m 11 0 j 1 11 0 := hF.1 11 0 (by decide) hx
  unfold O11
  rw [e]
  refine ⟨fun a ha => ?_, fun a ha => ?_⟩
  · rw [wr_if]
    by_cases q : a = j
    · rw [if_pos q]
      decide
    · rw [if_neg q]
      refine h.1 a ?_
      rw [List.contains_cons, Bool.or_eq_true] at ha
      exact ha.resolve_left (fun e => q (by simpa using e))
  · rw [wr_j (by omega)]
    exact h.2 a ha
abbrev xC : List (List Nat × Nat) := [(lC7, 2), (lC10, 0), (lC7, 1), (lC0, 0), (lC9, 0), (lC6, 0), (lC2, 0), (lC5, 0), (lC7, 0), (lC1, 1), (lC1, 0), (lC4, 1), (lC4, 0), (lC3, 1), (lC3, 0), (lC8, 0), ([11], 0)]
set_option maxHeartbeats 4000000 in
set_option maxRecDepth 20000 in
theorem mk_X11 {m : Mem} (hz : ∀ b c, ¬ b = 311 → m 94 b c = 0) (h11 : ∀ c, m 11 0 c = 0) : Tot (r_X11_init m) (fun M => ¬ M 94 11 0 = 0 ∧ Fqc xC m M ∧ (M 8 0 1 = 0 ∧ M 8 0 3 = -1) ∧ (M 3 0 0 = 0 ∧ M 3 0 1 = 0 ∧ M 3 0 2 = 0 ∧ M 3 0 3 = 0 ∧ ∀ a, M 26 0 a = 0) ∧ (M 4 0 3 = 7 ∧ ∀ k, k < 7 → M 34 0 k = wtL.getD k 0) ∧ (M 1 0 0 = 0 ∧ ∀ a, a < 12 → M 36 0 a = -1) ∧ (M 7 0 0 = 0 ∧ M 7 0 1 = 0 ∧ (∀ e, M 23 0 e = 0) ∧ ∀ e, M 24 0 e = 0) ∧ (M 5 0 0 = 0 ∧ ∀ k, M 46 0 k = 0) ∧ (M 2 0 0 = 0 ∧ (∀ j, M 47 0 j = 0) ∧ ∀ j, M 48 0 j = 0) ∧ ∀ j, 14 ≤ j → M 11 0 j = 0) := by
  unfold r_X11_init
  have A0 : Fqc [([11], 0)] m m := Fqc.rf
  have O0 : O11 [] m := ⟨fun j hj => absurd hj (by simp), fun j _ => h11 j⟩
  have B1 : Fqc [([11], 0)] m m := A0
  have f1 : ∀ b c, ¬ b = 311 → tCc ([([11], 0)]) b c = false → m 94 b c = 0 := fun b c hb ht => (B1.2 b c ht).trans (hz b c hb)
  have hd1 : m 94 308 0 = 0 := (A0.2 308 0 rfl).trans (hz _ _ (by decide))
  rw [if_pos hd1, tot_bd1]
  refine (mk_X8 (fun b hb => f1 b 0 (fun e => by rw [e] at hb; revert hb; decide) (by
    simp only [List.contains_cons, Bool.or_eq_true, beq_iff_eq, List.contains_nil, Bool.false_eq_true, or_false] at hb
    rcases hb with rfl | rfl | rfl <;> rfl))).mono ?_
  rintro M1 ⟨a1, F1, v1⟩
  rw [if_neg a1]
  have g1 : M1 94 11 0 = 0 := (F1.2 11 0 rfl).trans (hz _ _ (by decide))
  have O1 : O11 [] M1 := by
    unfold O11
    rw [F1.1 11 0 (by decide) rfl]
    exact O0
  have A1 := B1.ap F1
  have B2 := A1.w (k := 11) (i := 0) (j := 0) (x := 1) (by decide) rfl
  have f2 : ∀ b c, ¬ b = 311 → tCc ([(lC8, 0), ([11], 0)]) b c = false → (wr M1 11 0 0 1) 94 b c = 0 := fun b c hb ht => (B2.2 b c ht).trans (hz b c hb)
  have hd2 : M1 94 303 0 = 0 := (A1.2 303 0 rfl).trans (hz _ _ (by decide))
  rw [if_pos hd2, tot_bd1]
  refine (mk_X3 (fun b hb => f2 b 0 (fun e => by rw [e] at hb; revert hb; decide) (by
    simp only [List.contains_cons, Bool.or_eq_true, beq_iff_eq, List.contains_nil, Bool.false_eq_true, or_false] at hb
    rcases hb with rfl | rfl | rfl | rfl | rfl | rfl | rfl | rfl | rfl | rfl <;> rfl))).mono ?_
  rintro M2 ⟨a2, F2, v2⟩
  rw [if_neg a2]
  have g2 : M2 94 11 0 = 0 := (F2.2 11 0 rfl).trans ((wr_k (by decide)).trans g1)
  have O2 := O1.st F2 (by decide) rfl
  have A2 := B2.ap F2
  have B3 := A2.w (k := 11) (i := 0) (j := 1) (x := 1) (by decide) rfl
  have f3 : ∀ b c, ¬ b = 311 → tCc ([(lC3, 0), (lC8, 0), ([11], 0)]) b c = false → (wr M2 11 0 1 1) 94 b c = 0 := fun b c hb ht => (B3.2 b c ht).trans (hz b c hb)
  have hd3 : M2 94 303 1 = 0 := (A2.2 303 1 rfl).trans (hz _ _ (by decide))
  rw [if_pos hd3, tot_bd1]
  refine (mk_X3 (fun b hb => f3 b 1 (fun e => by rw [e] at hb; revert hb; decide) (by
    simp only [List.contains_cons, Bool.or_eq_true, beq_iff_eq, List.contains_nil, Bool.false_eq_true, or_false] at hb
    rcases hb with rfl | rfl | rfl | rfl | rfl | rfl | rfl | rfl | rfl | rfl <;> rfl))).mono ?_
  rintro M3 ⟨a3, F3, v3⟩
  rw [if_neg a3]
  have g3 : M3 94 11 0 = 0 := (F3.2 11 0 rfl).trans ((wr_k (by decide)).trans g2)
  have O3 := O2.st F3 (by decide) rfl
  have A3 := B3.ap F3
  have B4 := A3.w (k := 11) (i := 0) (j := 2) (x := 1) (by decide) rfl
  have f4 : ∀ b c, ¬ b = 311 → tCc ([(lC3, 1), (lC3, 0), (lC8, 0), ([11], 0)]) b c = false → (wr M3 11 0 2 1) 94 b c = 0 := fun b c hb ht => (B4.2 b c ht).trans (hz b c hb)
  have hd4 : M3 94 304 0 = 0 := (A3.2 304 0 rfl).trans (hz _ _ (by decide))
  rw [if_pos hd4, tot_bd1]
  refine (mk_X4 (fun b hb => f4 b 0 (fun e => by rw [e] at hb; revert hb; decide) (by
    simp only [List.contains_cons, Bool.or_eq_true, beq_iff_eq, List.contains_nil, Bool.false_eq_true, or_false] at hb
    rcases hb with rfl | rfl | rfl | rfl | rfl <;> rfl))).mono ?_
  rintro M4 ⟨a4, F4, v4⟩
  rw [if_neg a4]
  have g4 : M4 94 11 0 = 0 := (F4.2 11 0 rfl).trans ((wr_k (by decide)).trans g3)
  have O4 := O3.st F4 (by decide) rfl
  have A4 := B4.ap F4
  have B5 := A4.w (k := 11) (i := 0) (j := 3) (x := 1) (by decide) rfl
  have f5 : ∀ b c, ¬ b = 311 → tCc ([(lC4, 0), (lC3, 1), (lC3, 0), (lC8, 0), ([11], 0)]) b c = false → (wr M4 11 0 3 1) 94 b c = 0 := fun b c hb ht => (B5.2 b c ht).trans (hz b c hb)
  have hd5 : M4 94 304 1 = 0 := (A4.2 304 1 rfl).trans (hz _ _ (by decide))
  rw [if_pos hd5, tot_bd1]
  refine (mk_X4 (fun b hb => f5 b 1 (fun e => by rw [e] at hb; revert hb; decide) (by
    simp only [List.contains_cons, Bool.or_eq_true, beq_iff_eq, List.contains_nil, Bool.false_eq_true, or_false] at hb
    rcases hb with rfl | rfl | rfl | rfl | rfl <;> rfl))).mono ?_
  rintro M5 ⟨a5, F5, v5⟩
  rw [if_neg a5]
  have g5 : M5 94 11 0 = 0 := (F5.2 11 0 rfl).trans ((wr_k (by decide)).trans g4)
  have O5 := O4.st F5 (by decide) rfl
  have A5 := B5.ap F5
  have B6 := A5.w (k := 11) (i := 0) (j := 4) (x := 1) (by decide) rfl
  have f6 : ∀ b c, ¬ b = 311 → tCc ([(lC4, 1), (lC4, 0), (lC3, 1), (lC3, 0), (lC8, 0), ([11], 0)]) b c = false → (wr M5 11 0 4 1) 94 b c = 0 := fun b c hb ht => (B6.2 b c ht).trans (hz b c hb)
  have hd6 : M5 94 301 0 = 0 := (A5.2 301 0 rfl).trans (hz _ _ (by decide))
  rw [if_pos hd6, tot_bd1]
  refine (mk_X1 (fun b hb => f6 b 0 (fun e => by rw [e] at hb; revert hb; decide) (by
    simp only [List.contains_cons, Bool.or_eq_true, beq_iff_eq, List.contains_nil, Bool.false_eq_true, or_false] at hb
    rcases hb with rfl | rfl | rfl <;> rfl))).mono ?_
  rintro M6 ⟨a6, F6, v6⟩
  rw [if_neg a6]
  have g6 : M6 94 11 0 = 0 := (F6.2 11 0 rfl).trans ((wr_k (by decide)).trans g5)
  have O6 := O5.st F6 (by decide) rfl
  have A6 := B6.ap F6
  have B7 := A6.w (k := 11) (i := 0) (j := 5) (x := 1) (by decide) rfl
  have f7 : ∀ b c, ¬ b = 311 → tCc ([(lC1, 0), (lC4, 1), (lC4, 0), (lC3, 1), (lC3, 0), (lC8, 0), ([11], 0)]) b c = false → (wr M6 11 0 5 1) 94 b c = 0 := fun b c hb ht => (B7.2 b c ht).trans (hz b c hb)
  have hd7 : M6 94 301 1 = 0 := (A6.2 301 1 rfl).trans (hz _ _ (by decide))
  rw [if_pos hd7, tot_bd1]
  refine (mk_X1 (fun b hb => f7 b 1 (fun e => by rw [e] at hb; revert hb; decide) (by
    simp only [List.contains_cons, Bool.or_eq_true, beq_iff_eq, List.contains_nil, Bool.false_eq_true, or_false] at hb
    rcases hb with rfl | rfl | rfl <;> rfl))).mono ?_
  rintro M7 ⟨a7, F7, v7⟩
  rw [if_neg a7]
  have g7 : M7 94 11 0 = 0 := (F7.2 11 0 rfl).trans ((wr_k (by decide)).trans g6)
  have O7 := O6.st F7 (by decide) rfl
  have A7 := B7.ap F7
  have B8 := A7.w (k := 11) (i := 0) (j := 6) (x := 1) (by decide) rfl
  have f8 : ∀ b c, ¬ b = 311 → tCc ([(lC1, 1), (lC1, 0), (lC4, 1), (lC4, 0), (lC3, 1), (lC3, 0), (lC8, 0), ([11], 0)]) b c = false → (wr M7 11 0 6 1) 94 b c = 0 := fun b c hb ht => (B8.2 b c ht).trans (hz b c hb)
  have hd8 : M7 94 307 0 = 0 := (A7.2 307 0 rfl).trans (hz _ _ (by decide))
  rw [if_pos hd8, tot_bd1]
  refine (mk_X7 (fun b hb => f8 b 0 (fun e => by rw [e] at hb; revert hb; decide) (by
    simp only [List.contains_cons, Bool.or_eq_true, beq_iff_eq, List.contains_nil, Bool.false_eq_true, or_false] at hb
    rcases hb with rfl | rfl | rfl | rfl | rfl | rfl | rfl <;> rfl))).mono ?_
  rintro M8 ⟨a8, F8, v8⟩
  rw [if_neg a8]
  have g8 : M8 94 11 0 = 0 := (F8.2 11 0 rfl).trans ((wr_k (by decide)).trans g7)
  have O8 := O7.st F8 (by decide) rfl
  have A8 := B8.ap F8
  have B9 := A8.w (k := 11) (i := 0) (j := 8) (x := 1) (by decide) rfl
  have f9 : ∀ b c, ¬ b = 311 → tCc ([(lC7, 0), (lC1, 1), (lC1, 0), (lC4, 1), (lC4, 0), (lC3, 1), (lC3, 0), (lC8, 0), ([11], 0)]) b c = false → (wr M8 11 0 8 1) 94 b c = 0 := fun b c hb ht => (B9.2 b c ht).trans (hz b c hb)
  have hd9 : M8 94 305 0 = 0 := (A8.2 305 0 rfl).trans (hz _ _ (by decide))
  rw [if_pos hd9, tot_bd1]
  refine (mk_X5 (fun b hb => f9 b 0 (fun e => by rw [e] at hb; revert hb; decide) (by
    simp only [List.contains_cons, Bool.or_eq_true, beq_iff_eq, List.contains_nil, Bool.false_eq_true, or_false] at hb
    rcases hb with rfl | rfl | rfl <;> rfl))).mono ?_
  rintro M9 ⟨a9, F9, v9⟩
  rw [if_neg a9]
  have g9 : M9 94 11 0 = 0 := (F9.2 11 0 rfl).trans ((wr_k (by decide)).trans g8)
  have O9 := O8.st F9 (by decide) rfl
  have A9 := B9.ap F9
  have B10 := A9.w (k := 11) (i := 0) (j := 9) (x := 1) (by decide) rfl
  have f10 : ∀ b c, ¬ b = 311 → tCc ([(lC5, 0), (lC7, 0), (lC1, 1), (lC1, 0), (lC4, 1), (lC4, 0), (lC3, 1), (lC3, 0), (lC8, 0), ([11], 0)]) b c = false → (wr M9 11 0 9 1) 94 b c = 0 := fun b c hb ht => (B10.2 b c ht).trans (hz b c hb)
  have hd10 : M9 94 302 0 = 0 := (A9.2 302 0 rfl).trans (hz _ _ (by decide))
  rw [if_pos hd10, tot_bd1]
  refine (mk_X2 (fun b hb => f10 b 0 (fun e => by rw [e] at hb; revert hb; decide) (by
    simp only [List.contains_cons, Bool.or_eq_true, beq_iff_eq, List.contains_nil, Bool.false_eq_true, or_false] at hb
    rcases hb with rfl | rfl | rfl | rfl <;> rfl))).mono ?_
  rintro M10 ⟨a10, F10, v10⟩
  rw [if_neg a10]
  have g10 : M10 94 11 0 = 0 := (F10.2 11 0 rfl).trans ((wr_k (by decide)).trans g9)
  have O10 := O9.st F10 (by decide) rfl
  have A10 := B10.ap F10
  have B11 := A10.w (k := 11) (i := 0) (j := 10) (x := 1) (by decide) rfl
  have f11 : ∀ b c, ¬ b = 311 → tCc ([(lC2, 0), (lC5, 0), (lC7, 0), (lC1, 1), (lC1, 0), (lC4, 1), (lC4, 0), (lC3, 1), (lC3, 0), (lC8, 0), ([11], 0)]) b c = false → (wr M10 11 0 10 1) 94 b c = 0 := fun b c hb ht => (B11.2 b c ht).trans (hz b c hb)
  have hd11 : M10 94 306 0 = 0 := (A10.2 306 0 rfl).trans (hz _ _ (by decide))
  rw [if_pos hd11, if_neg (O10.1 1 rfl), if_neg (O10.1 3 rfl), tot_bd1]
  refine (mk_X6 (fun b hb => f11 b 0 (fun e => by rw [e] at hb; revert hb; decide) (by
    simp only [List.contains_cons, Bool.or_eq_true, beq_iff_eq, List.contains_nil, Bool.false_eq_true, or_false] at hb
    rcases hb with rfl | rfl | rfl <;> rfl))).mono ?_
  rintro M11 ⟨a11, F11, v11⟩
  rw [if_neg a11]
  have g11 : M11 94 11 0 = 0 := (F11.2 11 0 rfl).trans ((wr_k (by decide)).trans g10)
  have O11 := O10.st F11 (by decide) rfl
  have A11 := B11.ap F11
  have B12 := A11.w (k := 11) (i := 0) (j := 11) (x := 1) (by decide) rfl
  have f12 : ∀ b c, ¬ b = 311 → tCc ([(lC6, 0), (lC2, 0), (lC5, 0), (lC7, 0), (lC1, 1), (lC1, 0), (lC4, 1), (lC4, 0), (lC3, 1), (lC3, 0), (lC8, 0), ([11], 0)]) b c = false → (wr M11 11 0 11 1) 94 b c = 0 := fun b c hb ht => (B12.2 b c ht).trans (hz b c hb)
  have hd12 : M11 94 309 0 = 0 := (A11.2 309 0 rfl).trans (hz _ _ (by decide))
  rw [if_pos hd12, if_neg (O11.1 1 rfl), if_neg (O11.1 8 rfl), tot_bd1]
  refine (mk_X9 (fun b hb => f12 b 0 (fun e => by rw [e] at hb; revert hb; decide) (by
    simp only [List.contains_cons, Bool.or_eq_true, beq_iff_eq, List.contains_nil, Bool.false_eq_true, or_false] at hb
    rcases hb with rfl | rfl | rfl | rfl | rfl | rfl <;> rfl))).mono ?_
  rintro M12 ⟨a12, F12, v12⟩
  rw [if_neg a12]
  have g12 : M12 94 11 0 = 0 := (F12.2 11 0 rfl).trans ((wr_k (by decide)).trans g11)
  have O12 := O11.st F12 (by decide) rfl
  have A12 := B12.ap F12
  have B13 := A12.w (k := 11) (i := 0) (j := 7) (x := 1) (by decide) rfl
  have f13 : ∀ b c, ¬ b = 311 → tCc ([(lC9, 0), (lC6, 0), (lC2, 0), (lC5, 0), (lC7, 0), (lC1, 1), (lC1, 0), (lC4, 1), (lC4, 0), (lC3, 1), (lC3, 0), (lC8, 0), ([11], 0)]) b c = false → (wr M12 11 0 7 1) 94 b c = 0 := fun b c hb ht => (B13.2 b c ht).trans (hz b c hb)
  have hd13 : M12 94 300 0 = 0 := (A12.2 300 0 rfl).trans (hz _ _ (by decide))
  rw [if_pos hd13, if_neg (O12.1 1 rfl), if_neg (O12.1 11 rfl), tot_bd1]
  refine (mk_X0 (fun b hb => f13 b 0 (fun e => by rw [e] at hb; revert hb; decide) (by
    simp only [List.contains_cons, Bool.or_eq_true, beq_iff_eq, List.contains_nil, Bool.false_eq_true, or_false] at hb
    rcases hb with rfl | rfl | rfl | rfl | rfl <;> rfl)) (fun b hb => f13 b 1 (fun e => by rw [e] at hb; revert hb; decide) (by
    simp only [List.contains_cons, Bool.or_eq_true, beq_iff_eq, List.contains_nil, Bool.false_eq_true, or_false] at hb
    rcases hb with rfl | rfl | rfl | rfl | rfl | rfl | rfl <;> rfl))).mono ?_
  rintro M13 ⟨a13, F13⟩
  rw [if_neg a13]
  have g13 : M13 94 11 0 = 0 := (F13.2 11 0 rfl).trans ((wr_k (by decide)).trans g12)
  have O13 := O12.st F13 (by decide) rfl
  have A13 := B13.ap F13
  have B14 := A13.w (k := 11) (i := 0) (j := 12) (x := 1) (by decide) rfl
  have f14 : ∀ b c, ¬ b = 311 → tCc ([(lC7, 1), (lC0, 0), (lC9, 0), (lC6, 0), (lC2, 0), (lC5, 0), (lC7, 0), (lC1, 1), (lC1, 0), (lC4, 1), (lC4, 0), (lC3, 1), (lC3, 0), (lC8, 0), ([11], 0)]) b c = false → (wr M13 11 0 12 1) 94 b c = 0 := fun b c hb ht => (B14.2 b c ht).trans (hz b c hb)
  have hd14 : M13 94 310 0 = 0 := (A13.2 310 0 rfl).trans (hz _ _ (by decide))
  rw [if_pos hd14, if_neg (O13.1 1 rfl), if_neg (O13.1 11 rfl), tot_bd1]
  refine (mk_X10 (fun b hb => f14 b 0 (fun e => by rw [e] at hb; revert hb; decide) (by
    simp only [List.contains_cons, Bool.or_eq_true, beq_iff_eq, List.contains_nil, Bool.false_eq_true, or_false] at hb
    rcases hb with rfl | rfl <;> rfl)) (fun b hb => f14 b 2 (fun e => by rw [e] at hb; revert hb; decide) (by
    simp only [List.contains_cons, Bool.or_eq_true, beq_iff_eq, List.contains_nil, Bool.false_eq_true, or_false] at hb
    rcases hb with rfl | rfl | rfl | rfl | rfl | rfl | rfl <;> rfl))).mono ?_
  rintro M14 ⟨a14, F14⟩
  rw [if_neg a14]
  have g14 : M14 94 11 0 = 0 := (F14.2 11 0 rfl).trans ((wr_k (by decide)).trans g13)
  have O14 := O13.st F14 (by decide) rfl
  have A14 := B14.ap F14
  rw [if_pos g14, if_neg (O14.1 0 rfl), if_neg (O14.1 1 rfl), if_neg (O14.1 2 rfl), if_neg (O14.1 3 rfl), if_neg (O14.1 4 rfl), if_neg (O14.1 5 rfl), if_neg (O14.1 6 rfl), if_neg (O14.1 7 rfl), if_neg (O14.1 8 rfl), if_neg (O14.1 9 rfl), if_neg (O14.1 10 rfl), if_neg (O14.1 11 rfl), if_neg (O14.1 12 rfl)]
  have E14 : Fqc [([11], 0)] M14 (wr (wr M14 11 0 13 1) 94 11 0 1) := (Fqc.rf.w (k := 11) (i := 0) (by decide) rfl).w9 rfl
  generalize hM : wr (wr M14 11 0 13 1) 94 11 0 1 = M at E14 ⊢
  have E13 := ((Fqc.rf (X := [([11], 0)]) (m := M13)).w (k := 11) (i := 0) (j := 12) (x := 1) (by decide) rfl).ap (F14.ap E14)
  have E12 := ((Fqc.rf (X := [([11], 0)]) (m := M12)).w (k := 11) (i := 0) (j := 7) (x := 1) (by decide) rfl).ap (F13.ap E13)
  have E11 := ((Fqc.rf (X := [([11], 0)]) (m := M11)).w (k := 11) (i := 0) (j := 11) (x := 1) (by decide) rfl).ap (F12.ap E12)
  have E10 := ((Fqc.rf (X := [([11], 0)]) (m := M10)).w (k := 11) (i := 0) (j := 10) (x := 1) (by decide) rfl).ap (F11.ap E11)
  have E9 := ((Fqc.rf (X := [([11], 0)]) (m := M9)).w (k := 11) (i := 0) (j := 9) (x := 1) (by decide) rfl).ap (F10.ap E10)
  have E8 := ((Fqc.rf (X := [([11], 0)]) (m := M8)).w (k := 11) (i := 0) (j := 8) (x := 1) (by decide) rfl).ap (F9.ap E9)
  have E7 := ((Fqc.rf (X := [([11], 0)]) (m := M7)).w (k := 11) (i := 0) (j := 6) (x := 1) (by decide) rfl).ap (F8.ap E8)
  have E6 := ((Fqc.rf (X := [([11], 0)]) (m := M6)).w (k := 11) (i := 0) (j := 5) (x := 1) (by decide) rfl).ap (F7.ap E7)
  have E5 := ((Fqc.rf (X := [([11], 0)]) (m := M5)).w (k := 11) (i := 0) (j := 4) (x := 1) (by decide) rfl).ap (F6.ap E6)
  have E4 := ((Fqc.rf (X := [([11], 0)]) (m := M4)).w (k := 11) (i := 0) (j := 3) (x := 1) (by decide) rfl).ap (F5.ap E5)
  have E3 := ((Fqc.rf (X := [([11], 0)]) (m := M3)).w (k := 11) (i := 0) (j := 2) (x := 1) (by decide) rfl).ap (F4.ap E4)
  have E2 := ((Fqc.rf (X := [([11], 0)]) (m := M2)).w (k := 11) (i := 0) (j := 1) (x := 1) (by decide) rfl).ap (F3.ap E3)
  have E1 := ((Fqc.rf (X := [([11], 0)]) (m := M1)).w (k := 11) (i := 0) (j := 0) (x := 1) (by decide) rfl).ap (F2.ap E2)
  have AE := A14.ap E14
  refine tot_some.mpr ⟨by rw [← hM, wr_eq]; decide, ⟨fun a b ha hb => AE.1 a b ha ?_, fun b c hb => AE.2 b c ?_⟩, ?_, ?_, ?_, ?_, ?_, ?_, ?_, fun j hj => ?_⟩
  · unfold tCc at hb ⊢
    simp only [List.any_cons, List.cons_append, List.nil_append, List.any_nil] at hb ⊢
    simp only [Bool.or_eq_false_iff] at hb ⊢
    simp_all
  · unfold tCc at hb ⊢
    simp only [List.any_cons, List.cons_append, List.nil_append, List.any_nil] at hb ⊢
    simp only [Bool.or_eq_false_iff] at hb ⊢
    simp_all
  · rw [E1.1 8 0 (by decide) rfl]
    exact v1
  · rw [E2.1 3 0 (by decide) rfl, E2.1 26 0 (by decide) rfl]
    exact v2
  · rw [E4.1 4 0 (by decide) rfl, E4.1 34 0 (by decide) rfl]
    exact v4
  · rw [E6.1 1 0 (by decide) rfl, E6.1 36 0 (by decide) rfl]
    exact v6
  · rw [E8.1 7 0 (by decide) rfl, E8.1 23 0 (by decide) rfl, E8.1 24 0 (by decide) rfl]
    exact v8
  · rw [E9.1 5 0 (by decide) rfl, E9.1 46 0 (by decide) rfl]
    exact v9
  · rw [E10.1 2 0 (by decide) rfl, E10.1 47 0 (by decide) rfl, E10.1 48 0 (by decide) rfl]
    exact v10
  · rw [← hM, wr_k (by decide), wr_j (by omega)]
    exact O14.2 j hj
