/-! ===== what holds between the calls ===== -/
def SvC (m : Mem) (i : Nat) (r : Rw) : Prop := StC (mW m) r m i ∧ RF (mW m) r
def I1 (m : Mem) : Prop := WF (mW m) ∧ RF (mW m) (m 60 0) ∧ CL (mW m) m ∧ CW (mW m) m ∧ StC (mW m) (m 60 0) m 0
/-- the tape, and where the last text was wrong -/
def I2 (m : Mem) : Prop := (∃ f, f ≤ 600 ∧ m 8 0 1 = nI f ∧ m 12 0 1 = nI f ∧ ∀ k, k < f → m 37 0 k = m 49 0 k ∧ ∃ c, c < 256 ∧ m 49 0 k = nI c) ∧ m 8 0 3 = m 12 0 3
/-- the past -/
def I3 (m : Mem) : Prop := ∃ k, k ≤ 16 ∧ m 5 0 0 = nI k ∧ m 12 0 36 = nI k ∧ ∀ j, j < k → ¬ m 46 0 j = 0 ∧ SvC m (3 + j) (m 60 (2 + j))
/-- the images -/
def I4 (m : Mem) : Prop := ∃ k, k ≤ 3 ∧ m 2 0 0 = nI k ∧ m 12 0 38 = nI k ∧ ∀ j, j < k → ¬ m 47 0 j = 0 ∧ ¬ m 48 0 j = 0 ∧ SvC m (67 + j) (fun q => m 83 j (1 + q)) ∧ ∃ n, n ≤ 16 ∧ m 83 j 0 = nI n ∧ m 5 (1 + j) 0 = nI n ∧ ∀ v, v < n → ¬ m 46 (1 + j) v = 0 ∧ SvC m (3 + 16 * (1 + j) + v) (fun q => m 83 j (112 + 111 * v + q))
/-- the book -/
def I5 (m : Mem) : Prop := ∃ k, k ≤ 12 ∧ m 1 0 0 = nI k ∧ m 12 0 35 = nI k ∧ (∀ j, j < k → ∃ a b, a < wP (mW m) ∧ b < wP (mW m) ∧ m 77 j 0 = nI a ∧ m 77 j 1 = nI b ∧ m 36 0 a = nI b) ∧ ∀ a, a < 12 → m 36 0 a = -1 ∨ ∃ j, j < k ∧ m 77 j 0 = nI a
/-- what was refused: the class may be ahead -/
def I6 (d0 d1 : Int32) (m : Mem) : Prop := m 11 0 15 = m 50 0 0 + d0 ∧ m 11 0 16 = m 50 0 1 + d1 ∧ m 11 0 14 = m 12 0 37
def mk0 (m : Mem) (q : Nat) : Prop := m 94 307 q = 0 ∧ m 94 7 q = 0 ∧ m 94 20 q = 0 ∧ m 94 21 q = 0 ∧ m 94 22 q = 0 ∧ m 94 23 q = 0 ∧ m 94 24 q = 0
def pk0 (m : Mem) (p : Nat) : Prop := m 94 305 p = 0 ∧ m 94 5 p = 0 ∧ m 94 46 p = 0
/-- what isn't made yet isn't marked -/
def I7 (m : Mem) : Prop := (∀ p k, p < 4 → k < 16 → m 46 p k = 0 → mk0 m (3 + 16 * p + k)) ∧ ∀ j, j < 3 → (m 47 0 j = 0 ∧ m 48 0 j = 0 ∧ mk0 m (67 + j) ∧ pk0 m (1 + j) ∧ ∀ k, k < 16 → mk0 m (3 + 16 * (1 + j) + k)) ∨ (¬ m 47 0 j = 0 ∧ ¬ m 48 0 j = 0)
def InvX (d0 d1 : Int32) (m : Mem) : Prop := I1 m ∧ I2 m ∧ I3 m ∧ I4 m ∧ I5 m ∧ I6 d0 d1 m ∧ I7 m
abbrev Inv (m : Mem) : Prop := InvX 0 0 m
/-- the rows and fields that it speaks of -/
def kR (k i : Nat) : Bool := k == 52 || k == 54 || k == 63 || k == 67 || k == 73 || (k == 60 && i != 1) || k == 83 || k == 49 || k == 77 || ((k == 3 || k == 25 || k == 26 || k == 27 || k == 28 || k == 29 || k == 4 || k == 34 || k == 36 || k == 1) && i == 0) || ((k == 7 || k == 20 || k == 21 || k == 22 || k == 23 || k == 24) && (i != 1 && i != 2)) || k == 46 || k == 47 || k == 48 || k == 5 || k == 2 || k == 37 || k == 94
def kF (k j : Nat) : Bool := (k == 12 && (j == 1 || j == 3 || j == 21 || j == 35 || j == 36 || j == 37 || j == 38)) || (k == 8 && (j == 1 || j == 3))
def EqN (m m' : Mem) : Prop := (∀ k i, kR k i = true → m' k i = m k i) ∧ ∀ k j, kF k j = true → m' k 0 j = m k 0 j
theorem EqN.of {K J : List (Nat × Nat)} {m m' : Mem} (h : Fj K J m m') (hK : ∀ q ∈ K, kR q.1 q.2 = false ∧ ¬ q.1 = 12 ∧ ¬ q.1 = 8) (hJ : ∀ q ∈ J, (q.1 = 0 ∨ q.1 = 6 ∨ q.1 = 9 ∨ q.1 = 10 ∨ q.1 = 12 ∨ q.1 = 8 ∨ q.1 = 11) ∧ kF q.1 q.2 = false) : EqN m m' := by
  refine ⟨fun k i hk => h.rw' k i (fun q hq e => ?_) (fun q hq e => ?_), fun k j hk => h k 0 j (fun hq => ?_) (fun hq => ?_)⟩
  · have := (hK q hq).1
    rw [e, hk] at this
    cases this
  · have h1 := (hJ q hq).1
    rw [e] at h1
    rcases h1 with rfl | rfl | rfl | rfl | rfl | rfl | rfl <;> simp [kR] at hk
  · have h1 := hK _ hq
    have h2 : k = 12 ∨ k = 8 := by
      unfold kF at hk
      simp at hk
      omega
    exact h2.elim h1.2.1 h1.2.2
  · have h1 := (hJ _ hq).2
    rw [hk] at h1
    cases h1
theorem EqN.W {m m' : Mem} (h : EqN m m') : mW m' = mW m := by
  funext p q
  unfold mW
  rw [h.1 52 0 rfl, h.1 54 0 rfl, h.1 63 q rfl, h.1 67 q rfl, h.1 73 q rfl, h.2 12 21 rfl]
theorem EqN.st {m m' : Mem} (h : EqN m m') {i : Nat} (h1 : ¬ i = 1) (h2 : ¬ i = 2) {r : Rw} (hS : SvC m i r) : SvC m' i r := by
  have hk : ∀ k, k ∈ [7, 20, 21, 22, 23, 24] → m' k i = m k i := fun k hk => h.1 k i (by
    simp only [List.mem_cons, List.not_mem_nil, or_false] at hk
    rcases hk with rfl | rfl | rfl | rfl | rfl | rfl <;> simp [kR, h1, h2])
  unfold SvC at hS ⊢
  rw [h.W]
  exact ⟨hS.1.fr (hk 7 (by simp)) (hk 20 (by simp)) (hk 21 (by simp)) (hk 22 (by simp)) (hk 23 (by simp)) (hk 24 (by simp)), hS.2⟩
theorem EqN.i1 {m m' : Mem} (h : EqN m m') (hI : I1 m) : I1 m' := by
  obtain ⟨a1, a2, a3, a4, a5⟩ := hI
  have hs := h.st (i := 0) (by decide) (by decide) (r := m 60 0) ⟨a5, a2⟩
  have h60 : m' 60 0 = m 60 0 := h.1 60 0 rfl
  unfold SvC at hs
  unfold I1
  rw [h60]
  rw [h.W] at hs ⊢
  exact ⟨a1, a2, a3.fr (h.1 3 0 rfl) (h.1 25 0 rfl) (h.1 26 0 rfl) (h.1 27 0 rfl) (h.1 28 0 rfl) (h.1 29 0 rfl), a4.fr (h.1 4 0 rfl) (h.1 34 0 rfl), hs.1⟩
theorem EqN.i2 {m m' : Mem} (h : EqN m m') (hI : I2 m) : I2 m' := by
  unfold I2 at hI ⊢
  rw [h.2 8 1 rfl, h.2 12 1 rfl, h.2 8 3 rfl, h.2 12 3 rfl, h.1 37 0 rfl, h.1 49 0 rfl]
  exact hI
theorem EqN.i3 {m m' : Mem} (h : EqN m m') (hI : I3 m) : I3 m' := by
  obtain ⟨k, h1, h2, h3, h4⟩ := hI
  refine ⟨k, h1, by rw [h.1 5 0 rfl]; exact h2, by rw [h.2 12 36 rfl]; exact h3, fun j hj => ⟨by rw [h.1 46 0 rfl]; exact (h4 j hj).1, ?_⟩⟩
  rw [h.1 60 (2 + j) (by simp [kR]; omega)]
  exact h.st (by omega) (by omega) (h4 j hj).2
theorem EqN.i4 {m m' : Mem} (h : EqN m m') (hI : I4 m) : I4 m' := by
  obtain ⟨k, h1, h2, h3, h4⟩ := hI
  refine ⟨k, h1, by rw [h.1 2 0 rfl]; exact h2, by rw [h.2 12 38 rfl]; exact h3, fun j hj => ?_⟩
  obtain ⟨a1, a2, a3, n, a4, a5, a6, a7⟩ := h4 j hj
  rw [h.1 47 0 rfl, h.1 48 0 rfl, h.1 83 j rfl, h.1 5 (1 + j) rfl, h.1 46 (1 + j) rfl]
  exact ⟨a1, a2, h.st (by omega) (by omega) a3, n, a4, a5, a6, fun v hv => ⟨(a7 v hv).1, h.st (by omega) (by omega) (a7 v hv).2⟩⟩
theorem EqN.i5 {m m' : Mem} (h : EqN m m') (hI : I5 m) : I5 m' := by
  obtain ⟨k, h1, h2, h3, h4, h5⟩ := hI
  refine ⟨k, h1, by rw [h.1 1 0 rfl]; exact h2, by rw [h.2 12 35 rfl]; exact h3, fun j hj => ?_, fun a ha => ?_⟩
  · rw [h.W, h.1 77 j rfl, h.1 36 0 rfl]
    exact h4 j hj
  · rw [h.1 36 0 rfl]
    rcases h5 a ha with q | ⟨j, hj, e⟩
    · exact Or.inl q
    · exact Or.inr ⟨j, hj, by rw [h.1 77 j rfl]; exact e⟩
theorem EqN.i7 {m m' : Mem} (h : EqN m m') (hI : I7 m) : I7 m' := by
  have h94 : m' 94 = m 94 := by
    funext i
    exact h.1 94 i rfl
  have h46 : ∀ p, m' 46 p = m 46 p := fun p => h.1 46 p rfl
  unfold I7 mk0 pk0 at hI ⊢
  rw [h94, h.1 47 0 rfl, h.1 48 0 rfl]
  refine ⟨fun p k hp hk e => hI.1 p k hp hk (by rw [← h46 p]; exact e), hI.2⟩
theorem EqN.inv {m m' : Mem} (h : EqN m m') {d0 d1 e0 e1 : Int32} (hI : InvX d0 d1 m) (h6 : I6 e0 e1 m') : InvX e0 e1 m' := ⟨h.i1 hI.1, h.i2 hI.2.1, h.i3 hI.2.2.1, h.i4 hI.2.2.2.1, h.i5 hI.2.2.2.2.1, h6, h.i7 hI.2.2.2.2.2.2⟩
/-- rows and fields that a call may use as it likes -/
def scK (q : Nat × Nat) : Bool := !kR q.1 q.2 && (q.1 != 12 && (q.1 != 8 && (q.1 != 11 && q.1 != 50)))
def scJ (q : Nat × Nat) : Bool := (q.1 == 0 || q.1 == 6 || q.1 == 9 || q.1 == 10 || q.1 == 12 || q.1 == 8) && !kF q.1 q.2
theorem InvX.fj {K J : List (Nat × Nat)} {m m' : Mem} (h : Fj K J m m') (hK : K.all scK = true) (hJ : J.all scJ = true) {d0 d1 : Int32} (hI : InvX d0 d1 m) : InvX d0 d1 m' := by
  rw [List.all_eq_true] at hK hJ
  have k1 : ∀ q ∈ K, kR q.1 q.2 = false ∧ ¬ q.1 = 12 ∧ ¬ q.1 = 8 ∧ ¬ q.1 = 11 ∧ ¬ q.1 = 50 := fun q hq => by
    have := hK q hq
    simpa [scK] using this
  have j1 : ∀ q ∈ J, (q.1 = 0 ∨ q.1 = 6 ∨ q.1 = 9 ∨ q.1 = 10 ∨ q.1 = 12 ∨ q.1 = 8) ∧ kF q.1 q.2 = false := fun q hq => by
    have := hJ q hq
    simp only [scJ, Bool.and_eq_true, Bool.or_eq_true, beq_iff_eq, Bool.not_eq_true'] at this
    exact ⟨by omega, this.2⟩
  have hE : EqN m m' := EqN.of h (fun q hq => ⟨(k1 q hq).1, (k1 q hq).2.1, (k1 q hq).2.2.1⟩) (fun q hq => ⟨by have := (j1 q hq).1; omega, (j1 q hq).2⟩)
  refine hE.inv hI ?_
  have h6 := hI.2.2.2.2.2.1
  unfold I6 at h6 ⊢
  rw [h.rw' 11 0 (fun q hq e => (k1 q hq).2.2.2.1 (by rw [e])) (fun q hq e => by have := (j1 q hq).1; omega), h.rw' 50 0 (fun q hq e => (k1 q hq).2.2.2.2 (by rw [e])) (fun q hq e => by have := (j1 q hq).1; omega), hE.2 12 37 rfl]
  exact h6
/-! a refusal, on both sides -/
theorem InvX.c0 {d0 d1 : Int32} {m : Mem} (hI : InvX d0 d1 m) : InvX (d0 + 1) d1 (wr m 11 0 15 (m 11 0 15 + 1)) := by
  have h : Fj [] [(11, 15)] m (wr m 11 0 15 (m 11 0 15 + 1)) := Fj.rf.wrJ (by decide) _ _
  refine (EqN.of h (by simp) (by decide)).inv hI ?_
  obtain ⟨b1, b2, b3⟩ := hI.2.2.2.2.2.1
  unfold I6
  rw [h.rw' 50 0 (by simp) (by simp), h.rw' 12 0 (by simp) (by simp), wr_eq, wr_j (by decide), wr_j (by decide), b1, Int32.add_assoc]
  exact ⟨rfl, b2, b3⟩
theorem InvX.c1 {d0 d1 : Int32} {m : Mem} (hI : InvX d0 d1 m) : InvX d0 (d1 + 1) (wr m 11 0 16 (m 11 0 16 + 1)) := by
  have h : Fj [] [(11, 16)] m (wr m 11 0 16 (m 11 0 16 + 1)) := Fj.rf.wrJ (by decide) _ _
  refine (EqN.of h (by simp) (by decide)).inv hI ?_
  obtain ⟨b1, b2, b3⟩ := hI.2.2.2.2.2.1
  unfold I6
  rw [h.rw' 50 0 (by simp) (by simp), h.rw' 12 0 (by simp) (by simp), wr_eq, wr_j (by decide), wr_j (by decide), b2, Int32.add_assoc]
  exact ⟨b1, rfl, b3⟩
theorem InvX.m0 {d0 d1 : Int32} {m : Mem} (hI : InvX (d0 + 1) d1 m) : InvX d0 d1 (wr m 50 0 0 (m 50 0 0 + 1)) := by
  have h : Fj [(50, 0)] [] m (wr m 50 0 0 (m 50 0 0 + 1)) := Fj.rf.wrK (by decide) _ _
  refine (EqN.of h (by decide) (by simp)).inv hI ?_
  obtain ⟨b1, b2, b3⟩ := hI.2.2.2.2.2.1
  unfold I6
  rw [h.rw' 11 0 (by simp) (by simp), h.rw' 12 0 (by simp) (by simp), wr_eq, wr_j (by decide), b1, Int32.add_assoc, Int32.add_comm d0 1]
  exact ⟨rfl, b2, b3⟩
theorem InvX.m1 {d0 d1 : Int32} {m : Mem} (hI : InvX d0 (d1 + 1) m) : InvX d0 d1 (wr m 50 0 1 (m 50 0 1 + 1)) := by
  have h : Fj [(50, 0)] [] m (wr m 50 0 1 (m 50 0 1 + 1)) := Fj.rf.wrK (by decide) _ _
  refine (EqN.of h (by decide) (by simp)).inv hI ?_
  obtain ⟨b1, b2, b3⟩ := hI.2.2.2.2.2.1
  unfold I6
  rw [h.rw' 11 0 (by simp) (by simp), h.rw' 12 0 (by simp) (by simp), wr_eq, wr_j (by decide), b2, Int32.add_assoc, Int32.add_comm d1 1]
  exact ⟨b1, rfl, b3⟩
theorem InvX.th {d0 d1 : Int32} {m : Mem} (hI : InvX d0 d1 m) (x : Int32) : InvX d0 d1 (wr m 12 0 0 x) := InvX.fj (K := []) (J := [(12, 0)]) (Fj.rf.wrJ (by decide) _ _) rfl rfl hI
/-! ===== the two answers of a call ===== -/
/-- the wrapper's number for an end -/
def cod (a b : Option Int32) : (Int32 ⊕ Nat) → Option Int32
  | .inl _ => some 0
  | .inr 0 => a
  | .inr 1 => b
  | .inr _ => none
theorem wrapI_tot {a b : Option Int32} {r : Option ((Int32 ⊕ Nat) × Mem)} {sp : Int32 ⊕ Nat} {Q : Mem → Prop} {c : Int32} (h : Tot r (fun q => q.1 = sp ∧ Q q.2)) (hc : cod a b sp = some c) : Tot (wrapI a b r) (fun q => q.1 = c ∧ ∃ m1, Q m1 ∧ q.2 = Sum.elim (fun z => wrL m1 92 0 0 z.toInt64) (fun _ => m1) sp) := by
  obtain ⟨⟨o, m1⟩, h1, h2, h3⟩ := h
  dsimp only at h2 h3
  subst h2
  rw [h1]
  match o, hc with
  | .inl z, hc =>
    cases hc
    exact tot_some.mpr ⟨rfl, m1, h3, rfl⟩
  | .inr 0, hc =>
    have hc' : a = some c := hc
    subst hc'
    exact tot_some.mpr ⟨rfl, m1, h3, rfl⟩
  | .inr 1, hc =>
    have hc' : b = some c := hc
    subst hc'
    exact tot_some.mpr ⟨rfl, m1, h3, rfl⟩
theorem wrL_fr (m : Mem) (z : Int64) : Fr [(92, 0)] m (wrL m 92 0 0 z) := (Fr.rf.wr (by decide) _ _).wr (by decide) _ _
theorem wrL_rd (m : Mem) (z : Int64) : jL (wrL m 92 0 0 z 92 0 0) (wrL m 92 0 0 z 92 0 1) = z := by
  have h1 : wrL m 92 0 0 z 92 0 0 = loL z := by
    unfold wrL
    rw [wr_j (by decide)]
    exact wr_eq _ _ _ _ _
  have h2 : wrL m 92 0 0 z 92 0 1 = hiL z := wr_eq _ _ _ _ _
  rw [h1, h2, jL_of]
theorem cmp_0 (x : Int64) : lg_cmp x x = 0 := by
  unfold lg_cmp
  rw [if_neg (by rw [gt_iff_lt, fa_lt64]; omega), if_pos rfl]
/-- the wrapper's end, and the reference's: one step of the law -/
theorem op_tail {sp : Int32 ⊕ Nat} {c : Int32} {m1 m3 : Mem} {r : Option (Int32 × Mem)} (hm3 : m3 = Sum.elim (fun z => wrL m1 92 0 0 z.toInt64) (fun _ => m1) sp) (hc0 : ∀ k, sp = .inr k → ¬ c = 0) (hr : Tot r (fun q => q.2 12 0 0 = c ∧ (∀ z, sp = .inl z → c = 0 ∧ q.1 = z) ∧ q.2 92 0 = m3 92 0 ∧ Inv q.2)) : Tot (bd2 r fun z8 m7 => (if (r_X12_thrown m7) = c then (if c = 0 then (if (lg_cmp (jL (m7 92 0 0) (m7 92 0 1)) z8.toInt64) = 0 then (some m7) else (none)) else (some m7)) else (none))) Inv := by
  rw [tot_bd2]
  refine hr.mono ?_
  rintro ⟨z8, m7⟩ ⟨h1, h2, h3, h4⟩
  dsimp only at h1 h2 h3 h4 ⊢
  rw [if_pos (show r_X12_thrown m7 = c from h1)]
  match sp, hm3, hc0, h2 with
  | .inl z, hm3, _, h2 =>
    obtain ⟨rfl, rfl⟩ := h2 z rfl
    have e : jL (m7 92 0 0) (m7 92 0 1) = z8.toInt64 := by
      rw [h3, hm3]
      exact wrL_rd m1 z8.toInt64
    rw [if_pos rfl, if_pos (by rw [e]; exact cmp_0 _)]
    exact tot_some.mpr h4
  | .inr k, _, hc0, _ =>
    rw [if_neg (hc0 k rfl)]
    exact tot_some.mpr h4
