/-! ===== images: what is kept ===== -/
/-- nothing but what S names has changed -/
def Fp (S : Nat → Nat → Nat → Prop) (m m' : Mem) : Prop := ∀ a b c, ¬ S a b c → m' a b c = m a b c
theorem Fp.rf {S : Nat → Nat → Nat → Prop} {m : Mem} : Fp S m m := fun _ _ _ _ => rfl
theorem Fp.tr {S : Nat → Nat → Nat → Prop} {m m1 m2 : Mem} (h : Fp S m m1) (h2 : Fp S m1 m2) : Fp S m m2 := fun a b c hs => (h2 a b c hs).trans (h a b c hs)
theorem Fp.mono {S S' : Nat → Nat → Nat → Prop} {m m' : Mem} (h : Fp S m m') (hs : ∀ a b c, S a b c → S' a b c) : Fp S' m m' := fun a b c h' => h a b c (fun q => h' (hs a b c q))
theorem Fp.w {S : Nat → Nat → Nat → Prop} {m m1 : Mem} {k i j : Nat} {x : Int32} (h : Fp S m m1) (hs : S k i j) : Fp S m (wr m1 k i j x) := fun a b c h' => by
  unfold wr
  rw [if_neg (fun e => h' (by rw [e.1, e.2.1, e.2.2]; exact hs))]
  exact h a b c h'
theorem Fp.n {S : Nat → Nat → Nat → Prop} {m m1 : Mem} {k i : Nat} (h : Fp S m m1) (h1 : ∀ c, S (bas k) i c) (h2 : S 94 k i) : Fp S m (nw m1 k i) := fun a b c h' => by
  unfold nw
  rw [if_neg (fun e => h' (by rw [e.1, e.2]; exact h1 c)), if_neg (fun e => h' (by rw [e.1, e.2.1, e.2.2]; exact h2))]
  exact h a b c h'
theorem Fr.p {S : Nat → Nat → Nat → Prop} {K : List (Nat × Nat)} {m m' : Mem} (h : Fr K m m') (hs : ∀ q ∈ K, ∀ c, S q.1 q.2 c) : Fp S m m' := fun a b c h' => by
  rw [h a b (fun hq => h' (hs _ hq c))]
theorem Fp.row {S : Nat → Nat → Nat → Prop} {m m' : Mem} (h : Fp S m m') {a b : Nat} (hs : ∀ c, ¬ S a b c) : m' a b = m a b := by
  funext c
  exact h a b c (hs c)
theorem mW_fp {S : Nat → Nat → Nat → Prop} {m m' : Mem} (h : Fp S m m') (h1 : ∀ a b c, a = 52 ∨ a = 54 ∨ a = 63 ∨ a = 67 ∨ a = 73 → ¬ S a b c) (h2 : ¬ S 12 0 21) : mW m' = mW m := by
  have e : ∀ a b, a = 52 ∨ a = 54 ∨ a = 63 ∨ a = 67 ∨ a = 73 → m' a b = m a b := fun a b ha => h.row (fun c => h1 a b c ha)
  funext i j
  unfold mW
  rw [e 52 0 (by omega), e 54 0 (by omega), e 63 j (by omega), e 67 j (by omega), e 73 j (by omega), h 12 0 21 h2]
def StO (a : Nat) : Prop := a = 7 ∨ (20 ≤ a ∧ a ≤ 24)
theorem StC.fp {S : Nat → Nat → Nat → Prop} {w : Wd} {r : Rw} {m m' : Mem} {i : Nat} (hS : StC w r m i) (h : Fp S m m') (hs : ∀ a c, StO a → ¬ S a i c) : StC w r m' i := by
  have e : ∀ a, StO a → m' a i = m a i := fun a ha => h.row (fun c => hs a c ha)
  exact hS.fr (e 7 (by unfold StO; omega)) (e 20 (by unfold StO; omega)) (e 21 (by unfold StO; omega)) (e 22 (by unfold StO; omega)) (e 23 (by unfold StO; omega)) (e 24 (by unfold StO; omega))
theorem nw_94 {m : Mem} {k i b c : Nat} (hk : ¬ bas k = 94) (hb : ¬ b = k) : nw m k i 94 b c = m 94 b c := by
  unfold nw
  rw [if_neg (fun e => hk e.1.symm), if_neg (fun e => hb e.2.1)]
theorem bas307 : bas 307 = 7 := rfl
theorem bas305 : bas 305 = 5 := rfl
def KN (Q a b c : Nat) : Prop := (StO a ∧ b = Q) ∨ (a = 94 ∧ (b = 307 ∨ StO b) ∧ c = Q)
theorem newSt {m : Mem} {Q : Nat} (h : mk0 m Q) : Tot (r_X7_init Q (nw m 307 Q)) (fun m' => ¬ m' 94 7 Q = 0 ∧ Fp (KN Q) m m') := by
  obtain ⟨-, h7, h20, h21, h22, h23, h24⟩ := h
  have e : ∀ b, ¬ b = 307 → nw m 307 Q 94 b Q = m 94 b Q := fun b hb => nw_94 (by decide) hb
  unfold r_X7_init
  rw [if_pos (by rw [e 20 (by decide), h20]), if_pos (by rw [e 21 (by decide), h21]), if_pos (by rw [e 22 (by decide), h22]), if_pos (by rw [e 23 (by decide), h23]), if_pos (by rw [e 24 (by decide), h24]), if_pos (by rw [e 7 (by decide), h7])]
  refine tot_some.mpr ⟨by rw [wr_eq]; decide, ?_⟩
  have s1 : ∀ a c, StO a → KN Q a Q c := fun a c ha => Or.inl ⟨ha, rfl⟩
  have s2 : ∀ b, b = 307 ∨ StO b → KN Q 94 b Q := fun b hb => Or.inr ⟨rfl, hb, rfl⟩
  have t : ∀ a, 20 ≤ a → a ≤ 24 → StO a := fun a h1 h2 => Or.inr ⟨h1, h2⟩
  have t7 : StO 7 := Or.inl rfl
  have n0 : Fp (KN Q) m (nw m 307 Q) := Fp.rf.n (fun c => s1 7 c t7) (s2 307 (Or.inl rfl))
  have n1 := (n0.n (k := 20) (i := Q) (fun c => s1 20 c (t 20 (by decide) (by decide))) (s2 20 (Or.inr (t 20 (by decide) (by decide))))).w (x := 1) (s1 7 2 t7)
  have n2 := (n1.n (k := 21) (i := Q) (fun c => s1 21 c (t 21 (by decide) (by decide))) (s2 21 (Or.inr (t 21 (by decide) (by decide))))).w (x := 1) (s1 7 3 t7)
  have n3 := (n2.n (k := 22) (i := Q) (fun c => s1 22 c (t 22 (by decide) (by decide))) (s2 22 (Or.inr (t 22 (by decide) (by decide))))).w (x := 1) (s1 7 4 t7)
  have n4 := (n3.n (k := 23) (i := Q) (fun c => s1 23 c (t 23 (by decide) (by decide))) (s2 23 (Or.inr (t 23 (by decide) (by decide))))).w (x := 1) (s1 7 5 t7)
  have n5 := (n4.n (k := 24) (i := Q) (fun c => s1 24 c (t 24 (by decide) (by decide))) (s2 24 (Or.inr (t 24 (by decide) (by decide))))).w (x := 1) (s1 7 6 t7)
  exact n5.w (s2 7 (Or.inr t7))
theorem copyP {m : Mem} {i0 i1 : Nat} (hi : ¬ i0 = i1) : Tot (r_X7_copyFrom i0 i1 m) (fun m' => (∀ w r, WF w → StC w r m i1 → StC w r m' i0) ∧ Fp (fun a b _ => StO a ∧ b = i0) m m') := by
  refine (copyFrom_tot hi).mono ?_
  rintro m' ⟨c1, -, -, -, -, -, c2⟩
  refine ⟨c1, c2.p ?_⟩
  intro q hq c
  simp only [List.mem_cons, List.not_mem_nil, or_false] at hq
  rcases hq with rfl | rfl | rfl | rfl | rfl | rfl
  · exact ⟨Or.inl rfl, rfl⟩
  · exact ⟨Or.inr (by omega), rfl⟩
  · exact ⟨Or.inr (by omega), rfl⟩
  · exact ⟨Or.inr (by omega), rfl⟩
  · exact ⟨Or.inr (by omega), rfl⟩
  · exact ⟨Or.inr (by omega), rfl⟩
def KA (i0 v a b c : Nat) : Prop := (StO a ∧ b = 3 + 16 * i0 + v) ∨ (a = 46 ∧ b = i0 ∧ c = v) ∨ (a = 94 ∧ (b = 307 ∨ StO b) ∧ c = 3 + 16 * i0 + v)
theorem keepAt_c {m : Mem} {i0 v i2 : Nat} (hv : v < 16) (h2 : ¬ i2 = 3 + 16 * i0 + v) (hm : m 46 i0 v = 0 → mk0 m (3 + 16 * i0 + v)) : Tot (r_X5_keepAt i0 (nI v) i2 m) (fun m' => (∀ w r, WF w → StC w r m i2 → StC w r m' (3 + 16 * i0 + v)) ∧ ¬ m' 46 i0 v = 0 ∧ Fp (KA i0 v) m m') := by
  have st46 : ¬ StO 46 := by unfold StO; omega
  unfold r_X5_keepAt
  rw [if_pos (inb_nI (by omega) (by omega)), clamp_nI (by omega)]
  by_cases h0 : m 46 i0 v = 0
  · rw [if_pos h0, if_pos (hm h0).1, tot_bd1]
    refine (newSt (hm h0)).mono ?_
    rintro m4 ⟨a1, a2⟩
    rw [if_neg a1]
    unfold r_X5_keepAt_j22_6
    rw [if_pos (inb_nI (by omega) (by omega)), clamp_nI (by omega), if_neg (by rw [wr_eq]; decide), tot_bd1]
    have hF5 : Fp (KA i0 v) m (wr m4 46 i0 v 1) := (a2.mono (fun a b c q => by
      rcases q with q | q
      · exact Or.inl q
      · exact Or.inr (Or.inr q))).w (Or.inr (Or.inl ⟨rfl, rfl, rfl⟩))
    have q5 : wr m4 46 i0 v 1 46 i0 v = 1 := wr_eq _ _ _ _ _
    generalize wr m4 46 i0 v 1 = m5 at hF5 q5 ⊢
    refine (copyP (fun e => h2 e.symm)).mono ?_
    rintro m6 ⟨c1, c2⟩
    refine tot_some.mpr ⟨fun w r hW hS => c1 w r hW (hS.fp hF5 (fun a c ha q => ?_)), ?_, hF5.tr (c2.mono (fun a b c q => Or.inl q))⟩
    · rcases q with ⟨-, q⟩ | ⟨q, -⟩ | ⟨q, -⟩
      · exact h2 q
      · rw [q] at ha
        exact st46 ha
      · rw [q] at ha
        unfold StO at ha
        omega
    · rw [c2 46 i0 v (fun q => st46 q.1), q5]
      decide
  · rw [if_neg h0]
    unfold r_X5_keepAt_j22
    rw [if_pos (inb_nI (by omega) (by omega)), clamp_nI (by omega), if_neg h0, tot_bd1]
    refine (copyP (fun e => h2 e.symm)).mono ?_
    rintro m6 ⟨c1, c2⟩
    refine tot_some.mpr ⟨c1, ?_, c2.mono (fun a b c q => Or.inl q)⟩
    rw [c2 46 i0 v (fun q => st46 q.1)]
    exact h0
def KP (i0 a b c : Nat) : Prop := (StO a ∧ 3 + 16 * i0 ≤ b ∧ b < 19 + 16 * i0) ∨ (a = 46 ∧ b = i0) ∨ (a = 5 ∧ b = i0 ∧ c = 0) ∨ (a = 94 ∧ (b = 307 ∨ StO b) ∧ 3 + 16 * i0 ≤ c ∧ c < 19 + 16 * i0)
theorem KA_KP {i0 v a b c : Nat} (hv : v < 16) (h : KA i0 v a b c) : KP i0 a b c := by
  rcases h with ⟨h1, h2⟩ | ⟨h1, h2, h3⟩ | ⟨h1, h2, h3⟩
  · exact Or.inl ⟨h1, by omega, by omega⟩
  · exact Or.inr (Or.inl ⟨h1, h2⟩)
  · exact Or.inr (Or.inr (Or.inr ⟨h1, h2, by omega, by omega⟩))
theorem mk0.fp {S : Nat → Nat → Nat → Prop} {m m' : Mem} {q : Nat} (h : mk0 m q) (hF : Fp S m m') (hs : ∀ b, b = 307 ∨ StO b → ¬ S 94 b q) : mk0 m' q := by
  obtain ⟨h0, h7, h20, h21, h22, h23, h24⟩ := h
  have t : ∀ a, 20 ≤ a → a ≤ 24 → StO a := fun a h1 h2 => Or.inr ⟨h1, h2⟩
  exact ⟨(hF 94 307 q (hs 307 (Or.inl rfl))).trans h0, (hF 94 7 q (hs 7 (Or.inr (Or.inl rfl)))).trans h7, (hF 94 20 q (hs 20 (Or.inr (t 20 (by decide) (by decide))))).trans h20, (hF 94 21 q (hs 21 (Or.inr (t 21 (by decide) (by decide))))).trans h21, (hF 94 22 q (hs 22 (Or.inr (t 22 (by decide) (by decide))))).trans h22, (hF 94 23 q (hs 23 (Or.inr (t 23 (by decide) (by decide))))).trans h23, (hF 94 24 q (hs 24 (Or.inr (t 24 (by decide) (by decide))))).trans h24⟩
theorem pastC {m : Mem} {i0 i1 n : Nat} (hne : ¬ i0 = i1) (hn : n ≤ 16) (h5 : m 5 i1 0 = nI n) (h46 : ∀ v, v < n → ¬ m 46 i1 v = 0) (hmk : ∀ v, v < 16 → m 46 i0 v = 0 → mk0 m (3 + 16 * i0 + v)) : Tot (r_X5_copyFrom i0 i1 m) (fun m' => m' 5 i0 0 = nI n ∧ (∀ v, v < n → ¬ m' 46 i0 v = 0 ∧ ∀ w r, WF w → StC w r m (3 + 16 * i1 + v) → StC w r m' (3 + 16 * i0 + v)) ∧ (∀ v, v < 16 → m' 46 i0 v = 0 → mk0 m' (3 + 16 * i0 + v)) ∧ Fp (KP i0) m m') := by
  have st : ∀ a, StO a → ¬ a = 46 ∧ ¬ a = 5 ∧ ¬ a = 94 := fun a ha => by unfold StO at ha; omega
  have k5 : ∀ m', Fp (KP i0) m m' → m' 5 i1 0 = nI n := fun m' hF => by
    rw [hF 5 i1 0 (fun q => by unfold KP StO at q; omega)]
    exact h5
  unfold r_X5_copyFrom r_X5_copyFrom_l2
  rw [tot_bd1]
  refine tot_for (fun k (t : Int32 × Mem) => t.1 = nI k ∧ (∀ v, v < k → ¬ t.2 46 i0 v = 0 ∧ ∀ w r, WF w → StC w r m (3 + 16 * i1 + v) → StC w r t.2 (3 + 16 * i0 + v)) ∧ (∀ v, v < 16 → t.2 46 i0 v = 0 → mk0 t.2 (3 + 16 * i0 + v)) ∧ Fp (KP i0) m t.2) n ?_ ?_ 0 _ (Nat.zero_le _) ⟨rfl, fun v h => absurd h (Nat.not_lt_zero v), hmk, Fp.rf⟩
  · rintro k ⟨x2, m1⟩ hk ⟨e1, e2, e3, hF⟩
    dsimp only at e1 e2 e3 hF ⊢
    subst e1
    have q46 : m1 46 i1 k = m 46 i1 k := hF 46 i1 k (fun q => by unfold KP StO at q; omega)
    unfold r_X5_copyFrom_b2
    rw [if_pos (leb_nI (by omega) (by omega)), k5 m1 hF, if_neg (nI_ge hk (by omega)), if_pos (inb_nI (by omega) (by omega)), clamp_nI (by omega), if_neg (by rw [q46]; exact h46 k hk), if_neg (by rw [q46]; exact h46 k hk), tot_bd1]
    refine (keepAt_c (i0 := i0) (v := k) (i2 := 3 + 16 * i1 + k) (by omega) (by omega) (e3 k (by omega))).mono ?_
    rintro m2 ⟨c1, c2, c3⟩
    refine tot_some.mpr ⟨(nI_succ k).symm, fun v hv => ?_, fun v hv h0 => ?_, hF.tr (c3.mono (fun a b c q => KA_KP (by omega) q))⟩
    · dsimp only
      by_cases hvk : v = k
      · subst hvk
        exact ⟨c2, fun w r hW hS => c1 w r hW (hS.fp hF (fun a c ha q => by
          have := st a ha
          unfold KP at q
          omega))⟩
      · refine ⟨?_, fun w r hW hS => ((e2 v (by omega)).2 w r hW hS).fp c3 (fun a c ha q => ?_)⟩
        · rw [c3 46 i0 v (fun q => by unfold KA StO at q; omega)]
          exact (e2 v (by omega)).1
        · have := st a ha
          unfold KA at q
          omega
    · dsimp only at h0 ⊢
      by_cases hvk : v = k
      · rw [hvk] at h0
        exact absurd h0 c2
      · rw [c3 46 i0 v (fun q => by unfold KA StO at q; omega)] at h0
        exact (e3 v hv h0).fp c3 (fun b hb q => by
          unfold KA StO at q
          omega)
  · rintro ⟨x2, m1⟩ ⟨e1, e2, e3, hF⟩
    dsimp only at e1 e2 e3 hF ⊢
    subst e1
    unfold r_X5_copyFrom_b2
    rw [if_pos (leb_nI (by omega) (by omega)), k5 m1 hF, if_pos (nI_le (Nat.le_refl _) (by omega)), tot_some]
    show Tot (r_X5_copyFrom_e36_h2 i0 i1 m1) _
    unfold r_X5_copyFrom_e36_h2
    rw [k5 m1 hF]
    have hw : Fp (fun a b c => a = 5 ∧ b = i0 ∧ c = 0) m1 (wr m1 5 i0 0 (nI n)) := Fp.rf.w ⟨rfl, rfl, rfl⟩
    refine tot_some.mpr ⟨wr_eq _ _ _ _ _, fun v hv => ⟨?_, fun w r hW hS => ((e2 v hv).2 w r hW hS).fp hw (fun a c ha q => (st a ha).2.1 q.1)⟩, fun v hv h0 => ?_, hF.w (Or.inr (Or.inr (Or.inl ⟨rfl, rfl, rfl⟩)))⟩
    · rw [wr_k (by decide)]
      exact (e2 v hv).1
    · rw [wr_k (by decide)] at h0
      exact (e3 v hv h0).fp hw (fun b hb q => absurd q.1 (by decide))
/-- the reference's image: the place of each number, and where it comes from -/
def rwO (t : Nat) : Nat := if (t - 1) / 111 = 0 then 0 else (t - 1) / 111 + 1
def src (m : Mem) (t : Nat) : Int32 := if t = 0 then m 12 0 36 else m 60 (rwO t) ((t - 1) % 111)
def vlP (m0 : Mem) (i : Nat) (x2 : Int32) (t : Nat) : Int32 := if x2 = 0 then src m0 t else m0 83 i t
def KQ (i a b c : Nat) : Prop := (a = 83 ∧ b = i ∧ c < 1888) ∨ (a = 60 ∧ (b = 0 ∨ (2 ≤ b ∧ b ≤ 17)) ∧ c < 111) ∨ (a = 12 ∧ b = 0 ∧ (c = 36 ∨ c = 39))
def PA (m0 : Mem) (i : Nat) (x2 : Int32) (T : Nat) (m : Mem) : Prop := m 12 0 39 = nI T ∧ (∀ t, t < T → t < 1888 → m 83 i t = vlP m0 i x2 t ∧ src m t = vlP m0 i x2 t) ∧ (∀ t, T ≤ t → t < 1888 → m 83 i t = m0 83 i t ∧ src m t = src m0 t) ∧ Fp (KQ i) m0 m
theorem rwO_eq {t T : Nat} (ht : 0 < t) (hT : 0 < T) (h1 : rwO t = rwO T) (h2 : (t - 1) % 111 = (T - 1) % 111) : t = T := by
  unfold rwO at h1
  by_cases a : (t - 1) / 111 = 0
  · by_cases b : (T - 1) / 111 = 0
    · omega
    · rw [if_pos a, if_neg b] at h1
      omega
  · by_cases b : (T - 1) / 111 = 0
    · rw [if_neg a, if_pos b] at h1
      omega
    · rw [if_neg a, if_neg b] at h1
      omega
theorem rwO_in {t : Nat} (ht : t < 1888) : rwO t = 0 ∨ (2 ≤ rwO t ∧ rwO t ≤ 17) := by
  unfold rwO
  by_cases a : (t - 1) / 111 = 0
  · rw [if_pos a]
    omega
  · rw [if_neg a]
    omega
theorem puts_st {m m0 : Mem} {i T : Nat} {x2 : Int32} (h : PA m0 i x2 T m) (hT : T < 1888) : ∃ m1, r_X12_puts i (src m T) x2 m = some (vlP m0 i x2 T, m1) ∧ m1 83 i T = vlP m0 i x2 T ∧ m1 12 0 39 = nI (T + 1) ∧ (∀ t, ¬ t = T → m1 83 i t = m 83 i t) ∧ (∀ a b c, ¬ a = 83 → ¬ (a = 12 ∧ c = 39) → m1 a b c = m a b c) ∧ Fp (KQ i) m m1 := by
  have hs := (h.2.2.1 T (Nat.le_refl _) hT).2
  have h8 := (h.2.2.1 T (Nat.le_refl _) hT).1
  unfold r_X12_puts r_X12_puts_j11 vlP
  by_cases h0 : x2 = 0
  · rw [if_pos h0, h.1, if_pos (inb_nI (by omega) (by omega)), clamp_nI (by omega), wr_k (by decide), h.1, ← nI_succ, nI_pred, if_pos (inb_nI (by omega) (by omega)), clamp_nI (by omega), wr_eq, if_pos h0]
    refine ⟨_, by rw [hs], ?_, wr_eq _ _ _ _ _, fun t ht => ?_, fun a b c h1 h2 => ?_, (Fp.rf.w (Or.inl ⟨rfl, rfl, hT⟩)).w (Or.inr (Or.inr ⟨rfl, rfl, Or.inr rfl⟩))⟩
    · rw [wr_k (by decide), wr_eq]
    · rw [wr_k (by decide), wr_j ht]
    · have e : ∀ (M : Mem) (x : Int32), wr M 12 0 39 x a b c = M a b c := fun M x => by
        unfold wr
        rw [if_neg (fun e => h2 ⟨e.1, e.2.2⟩)]
      rw [e, wr_k h1]
  · rw [if_neg h0, h.1, ← nI_succ, nI_pred, if_pos (inb_nI (by omega) (by omega)), clamp_nI (by omega), if_neg h0]
    refine ⟨_, by rw [h8], ?_, wr_eq _ _ _ _ _, fun t ht => ?_, fun a b c h1 h2 => ?_, Fp.rf.w (Or.inr (Or.inr ⟨rfl, rfl, Or.inr rfl⟩))⟩
    · rw [wr_k (by decide), h8]
    · rw [wr_k (by decide)]
    · unfold wr
      rw [if_neg (fun e => h2 ⟨e.1, e.2.2⟩)]
theorem PA.row {m m0 m1 : Mem} {i T : Nat} {x2 : Int32} (h : PA m0 i x2 T m) (hT : T < 1888) (h0 : 0 < T) (a1 : m1 83 i T = vlP m0 i x2 T) (a2 : m1 12 0 39 = nI (T + 1)) (a3 : ∀ t, ¬ t = T → m1 83 i t = m 83 i t) (a4 : ∀ a b c, ¬ a = 83 → ¬ (a = 12 ∧ c = 39) → m1 a b c = m a b c) (a5 : Fp (KQ i) m m1) : PA m0 i x2 (T + 1) (wr m1 60 (rwO T) ((T - 1) % 111) (vlP m0 i x2 T)) := by
  have hsT : src (wr m1 60 (rwO T) ((T - 1) % 111) (vlP m0 i x2 T)) T = vlP m0 i x2 T := by
    unfold src
    rw [if_neg (by omega), wr_eq]
  have hso : ∀ t, ¬ t = T → src (wr m1 60 (rwO T) ((T - 1) % 111) (vlP m0 i x2 T)) t = src m t := fun t ht => by
    unfold src
    by_cases e : t = 0
    · rw [if_pos e, if_pos e, wr_k (by decide), a4 12 0 36 (by decide) (by decide)]
    · rw [if_neg e, if_neg e]
      unfold wr
      rw [if_neg (fun q => ht (rwO_eq (by omega) h0 q.2.1 q.2.2)), a4 60 _ _ (by decide) (by simp)]
  refine ⟨by rw [wr_k (by decide), a2], fun t h1 h2 => ?_, fun t h1 h2 => ?_, (h.2.2.2.tr a5).w (Or.inr (Or.inl ⟨rfl, rwO_in hT, by omega⟩))⟩
  · by_cases e : t = T
    · rw [e, wr_k (by decide), a1]
      exact ⟨rfl, hsT⟩
    · rw [wr_k (by decide), a3 t e, hso t e]
      exact h.2.1 t (by omega) h2
  · rw [wr_k (by decide), a3 t (by omega), hso t (by omega)]
    exact h.2.2.1 t (by omega) h2
theorem PA.zero {m m0 m1 : Mem} {i : Nat} {x2 : Int32} (h : PA m0 i x2 0 m) (a1 : m1 83 i 0 = vlP m0 i x2 0) (a2 : m1 12 0 39 = nI 1) (a3 : ∀ t, ¬ t = 0 → m1 83 i t = m 83 i t) (a4 : ∀ a b c, ¬ a = 83 → ¬ (a = 12 ∧ c = 39) → m1 a b c = m a b c) (a5 : Fp (KQ i) m m1) : PA m0 i x2 1 (wr m1 12 0 36 (vlP m0 i x2 0)) := by
  refine ⟨by rw [wr_j (by decide), a2], fun t h1 h2 => ?_, fun t h1 h2 => ?_, (h.2.2.2.tr a5).w (Or.inr (Or.inr ⟨rfl, rfl, Or.inl rfl⟩))⟩
  · have e : t = 0 := by omega
    subst e
    rw [wr_k (by decide), a1]
    refine ⟨rfl, ?_⟩
    unfold src
    rw [if_pos rfl, wr_eq]
  · rw [wr_k (by decide), a3 t (by omega)]
    refine ⟨(h.2.2.1 t (by omega) h2).1, ?_⟩
    rw [← (h.2.2.1 t (by omega) h2).2]
    unfold src
    rw [if_neg (by omega), if_neg (by omega), wr_k (by decide), a4 60 _ _ (by decide) (by simp)]
theorem putsAll_m {m : Mem} {i : Nat} {x2 : Int32} : Tot (r_X12_putsAll i x2 m) (fun m' => (∀ t, t < 1888 → m' 83 i t = vlP m i x2 t ∧ src m' t = vlP m i x2 t) ∧ Fp (KQ i) m m') := by
  unfold r_X12_putsAll
  have hF0 : Fp (KQ i) m (wr m 12 0 39 0) := Fp.rf.w (Or.inr (Or.inr ⟨rfl, rfl, Or.inr rfl⟩))
  have hsrc : ∀ t, src (wr m 12 0 39 0) t = src m t := fun t => by
    unfold src
    by_cases e : t = 0
    · rw [if_pos e, if_pos e, wr_j (by decide)]
    · rw [if_neg e, if_neg e, wr_k (by decide)]
  have h0 : PA m i x2 0 (wr m 12 0 39 0) := ⟨wr_eq _ _ _ _ _, fun t h => absurd h (Nat.not_lt_zero t), fun t _ _ => ⟨by rw [wr_k (by decide)], hsrc t⟩, hF0⟩
  have e36 : m 12 0 36 = src (wr m 12 0 39 0) 0 := by
    rw [hsrc]
    rfl
  obtain ⟨m1, b0, b1, b2, b3, b4, b5⟩ := puts_st h0 (by omega)
  rw [e36, bd2_s b0]
  have h1 := h0.zero b1 b2 b3 b4 b5
  generalize wr m1 12 0 36 (vlP m i x2 0) = m2 at h1 ⊢
  have st : ∀ T m3, PA m i x2 T m3 → 0 < T → T < 1888 → ∃ m4, r_X12_puts i (m3 60 (rwO T) ((T - 1) % 111)) x2 m3 = some (vlP m i x2 T, m4) ∧ PA m i x2 (T + 1) (wr m4 60 (rwO T) ((T - 1) % 111) (vlP m i x2 T)) := fun T m3 h ht hT => by
    obtain ⟨m4, c0, c1, c2, c3, c4, c5⟩ := puts_st h hT
    have e : src m3 T = m3 60 (rwO T) ((T - 1) % 111) := by
      unfold src
      rw [if_neg (by omega)]
    rw [e] at c0
    exact ⟨m4, c0, h.row hT ht c1 c2 c3 c4 c5⟩
  unfold r_X12_putsAll_l21
  rw [tot_bd1]
  refine tot_for (fun k (t : Int32 × Mem) => t.1 = nI k ∧ PA m i x2 (1 + k) t.2) 111 ?_ ?_ 0 _ (Nat.zero_le _) ⟨rfl, h1⟩
  · rintro k ⟨x3, m3⟩ hk ⟨e1, e2⟩
    dsimp only at e1 e2 ⊢
    subst e1
    unfold r_X12_putsAll_b21
    obtain ⟨m4, c0, c1⟩ := st (1 + k) m3 e2 (by omega) (by omega)
    have r1 : rwO (1 + k) = 0 := by
      unfold rwO
      rw [if_pos (by omega)]
    rw [r1, show (1 + k - 1) % 111 = k by omega] at c0 c1
    rw [if_neg (show ¬ (111 : Int32) ≤ nI (k) from nI_ge (b := 111) (a := k) (by omega) (by omega)), if_pos (inb_nI (by omega) (by omega)), clamp_nI (by omega), bd2_s c0]
    exact tot_some.mpr ⟨(nI_succ k).symm, c1⟩
  · rintro ⟨x3, m3⟩ ⟨e1, e2⟩
    dsimp only at e1 e2 ⊢
    subst e1
    unfold r_X12_putsAll_b21
    rw [if_pos (by decide), tot_some]
    show Tot (r_X12_putsAll_e51_h21 i x2 m3) _
    unfold r_X12_putsAll_e51_h21 r_X12_putsAll_l53
    rw [tot_bd1]
    refine tot_for (fun v (t : Int32 × Mem) => t.1 = nI v ∧ PA m i x2 (112 + 111 * v) t.2) 16 ?_ ?_ 0 _ (Nat.zero_le _) ⟨rfl, e2⟩
    · rintro v ⟨x4, m4⟩ hv ⟨f1, f2⟩
      dsimp only at f1 f2 ⊢
      subst f1
      unfold r_X12_putsAll_b53 r_X12_putsAll_l62_c53
      rw [if_neg (show ¬ (16 : Int32) ≤ nI (v) from nI_ge (b := 16) (a := v) (by omega) (by omega)), tot_bd1]
      refine tot_for (fun k (t : Int32 × Mem) => t.1 = nI k ∧ PA m i x2 (112 + 111 * v + k) t.2) 111 ?_ ?_ 0 _ (Nat.zero_le _) ⟨rfl, f2⟩
      · rintro k ⟨x5, m5⟩ hk ⟨g1, g2⟩
        dsimp only at g1 g2 ⊢
        subst g1
        unfold r_X12_putsAll_b62_c53
        obtain ⟨m6, c0, c1⟩ := st (112 + 111 * v + k) m5 g2 (by omega) (by omega)
        have r1 : rwO (112 + 111 * v + k) = 2 + v := by
          unfold rwO
          rw [if_neg (by omega)]
          omega
        rw [r1, show (112 + 111 * v + k - 1) % 111 = k by omega] at c0 c1
        rw [if_neg (show ¬ (111 : Int32) ≤ nI (k) from nI_ge (b := 111) (a := k) (by omega) (by omega)), if_pos (inb_nI (k := v) (by omega) (by omega)), if_pos (inb_nI (k := k) (by omega) (by omega)), clamp_nI (k := v) (by omega), clamp_nI (k := k) (by omega), bd2_s c0]
        exact tot_some.mpr ⟨(nI_succ k).symm, c1⟩
      · rintro ⟨x5, m5⟩ ⟨g1, g2⟩
        dsimp only at g1 g2 ⊢
        subst g1
        unfold r_X12_putsAll_b62_c53
        rw [if_pos (by decide), tot_some]
        refine tot_some.mpr ⟨(nI_succ v).symm, ?_⟩
        dsimp only
        rw [show 112 + 111 * (v + 1) = 112 + 111 * v + 111 by omega]
        exact g2
    · rintro ⟨x4, m4⟩ ⟨f1, f2⟩
      dsimp only at f1 f2 ⊢
      subst f1
      unfold r_X12_putsAll_b53
      rw [if_pos (by decide), tot_some]
      refine tot_some.mpr ⟨fun t ht => f2.2.1 t (by omega) ht, f2.2.2.2⟩
theorem src_0 (m : Mem) : src m 0 = m 12 0 36 := rfl
theorem src_1 (m : Mem) {q : Nat} (hq : q < 111) : src m (1 + q) = m 60 0 q := by
  unfold src rwO
  rw [if_neg (by omega), if_pos (by omega), show (1 + q - 1) % 111 = q by omega]
theorem src_2 (m : Mem) {v q : Nat} (hq : q < 111) : src m (112 + 111 * v + q) = m 60 (2 + v) q := by
  unfold src rwO
  rw [if_neg (by omega), if_neg (by omega), show (112 + 111 * v + q - 1) % 111 = q by omega, show (112 + 111 * v + q - 1) / 111 + 1 = 2 + v by omega]
theorem putsAll_0 {m : Mem} {i : Nat} : Tot (r_X12_putsAll i 0 m) (fun m' => (∀ t, t < 1888 → m' 83 i t = src m t) ∧ Fp (fun a b c => (a = 83 ∧ b = i ∧ c < 1888) ∨ (a = 12 ∧ b = 0 ∧ c = 39)) m m') := by
  refine putsAll_m.mono ?_
  rintro m' ⟨h1, h2⟩
  have e : ∀ t, vlP m i 0 t = src m t := fun t => if_pos rfl
  refine ⟨fun t ht => (h1 t ht).1.trans (e t), fun a b c hs => ?_⟩
  by_cases hq : KQ i a b c
  · rcases hq with q | ⟨q1, q2, q3⟩ | ⟨q1, q2, q3⟩
    · exact absurd (Or.inl q) hs
    · rw [q1]
      rcases q2 with q2 | q2
      · rw [q2, ← src_1 m' q3, ← src_1 m q3, (h1 (1 + c) (by omega)).2, e]
      · obtain ⟨v, hv⟩ : ∃ v, b = 2 + v := ⟨b - 2, by omega⟩
        rw [hv, ← src_2 m' q3, ← src_2 m q3, (h1 (112 + 111 * v + c) (by omega)).2, e]
    · rcases q3 with q3 | q3
      · rw [q1, q2, q3, ← src_0 m', ← src_0 m, (h1 0 (by omega)).2, e]
      · exact absurd (Or.inr ⟨q1, q2, q3⟩) hs
  · exact h2 a b c hq
theorem putsAll_1 {m : Mem} {i : Nat} : Tot (r_X12_putsAll i 1 m) (fun m' => (∀ t, t < 1888 → src m' t = m 83 i t) ∧ Fp (fun a b c => (a = 60 ∧ (b = 0 ∨ (2 ≤ b ∧ b ≤ 17)) ∧ c < 111) ∨ (a = 12 ∧ b = 0 ∧ (c = 36 ∨ c = 39))) m m') := by
  refine putsAll_m.mono ?_
  rintro m' ⟨h1, h2⟩
  have e : ∀ t, vlP m i 1 t = m 83 i t := fun t => if_neg (by decide)
  refine ⟨fun t ht => (h1 t ht).2.trans (e t), fun a b c hs => ?_⟩
  by_cases hq : KQ i a b c
  · rcases hq with ⟨q1, q2, q3⟩ | q | q
    · rw [q1, q2, (h1 c q3).1, e]
    · exact absurd (Or.inl q) hs
    · exact absurd (Or.inr q) hs
  · exact h2 a b c hq
theorem SvC.fp {S : Nat → Nat → Nat → Prop} {m m' : Mem} {i : Nat} {r : Rw} (h : SvC m i r) (hW : mW m' = mW m) (hF : Fp S m m') (hs : ∀ a c, StO a → ¬ S a i c) : SvC m' i r := by
  unfold SvC
  rw [hW]
  exact ⟨h.1.fp hF hs, h.2⟩
theorem pk0.fp {S : Nat → Nat → Nat → Prop} {m m' : Mem} {p : Nat} (h : pk0 m p) (hF : Fp S m m') (hs : ∀ b, b = 305 ∨ b = 5 ∨ b = 46 → ¬ S 94 b p) : pk0 m' p := by
  obtain ⟨h1, h2, h3⟩ := h
  exact ⟨(hF 94 305 p (hs 305 (by omega))).trans h1, (hF 94 5 p (hs 5 (by omega))).trans h2, (hF 94 46 p (hs 46 (by omega))).trans h3⟩
