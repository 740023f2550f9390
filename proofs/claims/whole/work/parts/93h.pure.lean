/-! ===== work, alike: what is kept ===== -/
def SC (a b c : Nat) : Prop := (a = 5 ∧ b = 0) ∨ (StO a ∧ b = 0) ∨ (a ∈ [33, 35, 38, 6, 8, 9, 39, 40, 41, 42, 92]) ∨ (a = 11 ∧ c = 14)
def SW (k a b c : Nat) : Prop := KA 0 k a b c ∨ SC a b c ∨ SR k a b c
theorem StO_or {a : Nat} (h : StO a) : a = 7 ∨ a = 20 ∨ a = 21 ∨ a = 22 ∨ a = 23 ∨ a = 24 := by
  unfold StO at h
  omega
theorem sw_no {k a b c : Nat} (ha : a ∈ [52, 54, 63, 67, 73, 4, 34, 2, 47, 48, 83, 1, 36, 77, 50, 3, 25, 26, 27, 28, 29, 49, 100]) : ¬ SW k a b c := by
  simp only [List.mem_cons, List.not_mem_nil, or_false] at ha
  rcases ha with rfl | rfl | rfl | rfl | rfl | rfl | rfl | rfl | rfl | rfl | rfl | rfl | rfl | rfl | rfl | rfl | rfl | rfl | rfl | rfl | rfl | rfl | rfl <;> simp [SW, KA, SC, SR, StO]
theorem sw_st {k a i c : Nat} (ha : StO a) (h0 : ¬ i = 0) (h1 : ¬ i = 3 + k) : ¬ SW k a i c := by
  rcases StO_or ha with rfl | rfl | rfl | rfl | rfl | rfl <;> simp [SW, KA, SC, SR, StO] <;> omega
theorem sw_94 {k b q : Nat} (h : ¬ q = 3 + k) : ¬ SW k 94 b q := by
  simp [SW, KA, SC, SR, StO]
  omega
theorem sw_94b {k b q : Nat} (h : b = 305 ∨ b = 5 ∨ b = 46) : ¬ SW k 94 b q := by
  rcases h with rfl | rfl | rfl <;> simp [SW, KA, SC, SR, StO]
theorem sw_46 {k p q : Nat} (h : ¬ (p = 0 ∧ q = k)) : ¬ SW k 46 p q := by
  simp [SW, KA, SC, SR, StO]
  omega
theorem sw_5 {k p q : Nat} (h : ¬ p = 0) : ¬ SW k 5 p q := by
  simp [SW, KA, SC, SR, StO]
  omega
theorem sw_60 {k p q : Nat} (h : ¬ p = 0) (h2 : ¬ p = 2 + k) : ¬ SW k 60 p q := by
  simp [SW, KA, SC, SR, StO]
  omega
theorem sw_12 {k p q : Nat} (h : q = 21 ∨ q = 35 ∨ q = 38) : ¬ SW k 12 p q := by
  rcases h with rfl | rfl | rfl <;> simp [SW, KA, SC, SR, StO]
theorem sw_11 {k p q : Nat} (h : ¬ q = 14) : ¬ SW k 11 p q := by
  simp [SW, KA, SC, SR, StO]
  omega
theorem sr_no {k a b c : Nat} (ha : a ∈ [92, 100, 8, 11, 5, 46, 3, 25, 26, 27, 28, 29, 7, 20, 21, 22, 23, 24]) : ¬ SR k a b c := by
  simp only [List.mem_cons, List.not_mem_nil, or_false] at ha
  rcases ha with rfl | rfl | rfl | rfl | rfl | rfl | rfl | rfl | rfl | rfl | rfl | rfl | rfl | rfl | rfl | rfl | rfl | rfl <;> simp [SR]
set_option maxHeartbeats 2000000 in
theorem inv_work {m M : Mem} {k : Nat} (hI : Inv m) (hk : k < 16) (hold : m 5 0 0 = nI k) (hF : Fp (SW k) m M) (h5 : M 5 0 0 = nI (k + 1)) (h36 : M 12 0 36 = nI (k + 1)) (h46 : ¬ M 46 0 k = 0) (hst : StC (mW m) (m 60 0) M (3 + k)) (her : Er (M 60 (2 + k)) (m 60 0)) (hnow : StC (mW m) (M 60 0) M 0) (hrf : RF (mW m) (M 60 0)) (hCL : CL (mW m) M) (h8 : M 8 0 1 = 0) (h12 : M 12 0 1 = 0) (h3 : M 8 0 3 = M 12 0 3) (h14 : M 11 0 14 = M 12 0 37) : Inv M := by
  obtain ⟨⟨b1, b2, b3, b4, b5⟩, a2, a3, a4, a5, a6, a7⟩ := hI
  have hW : mW M = mW m := mW_fp hF (fun a b c ha => sw_no (by simp; omega)) (sw_12 (by omega))
  have rw0 : ∀ a b, a ∈ [52, 54, 63, 67, 73, 4, 34, 2, 47, 48, 83, 1, 36, 77, 50, 3, 25, 26, 27, 28, 29, 49, 100] → M a b = m a b := fun a b ha => hF.row (fun c => sw_no ha)
  have sv : ∀ i r, ¬ i = 0 → ¬ i = 3 + k → SvC m i r → SvC M i r := fun i r h1 h2 hS => hS.fp hW hF (fun a c ha => sw_st ha h1 h2)
  have e35 : M 12 0 35 = m 12 0 35 := hF 12 0 35 (sw_12 (by omega))
  have e38 : M 12 0 38 = m 12 0 38 := hF 12 0 38 (sw_12 (by omega))
  refine ⟨⟨by rw [hW]; exact b1, by rw [hW]; exact hrf, by rw [hW]; exact hCL, ?_, by rw [hW]; exact hnow⟩, ⟨⟨0, by omega, h8, h12, fun k hk => absurd hk (Nat.not_lt_zero k)⟩, h3⟩, ?_, ?_, ?_, ?_, ?_, ?_⟩
  · rw [hW]
    exact lawC.fr b4 (rw0 4 0 (by decide)) (rw0 34 0 (by decide))
  · obtain ⟨k', h1, h2, h3', h4⟩ := a3
    have ek : k' = k := (nI_eq (by omega) (by omega)).mp (h2.symm.trans hold)
    subst ek
    refine ⟨k' + 1, by omega, h5, h36, fun j hj => ?_⟩
    by_cases e : j = k'
    · subst e
      exact ⟨h46, by rw [SvC, hW]; exact ⟨hst.er b1 her.sy, b2.er b1 her.sy⟩⟩
    · have hj' : j < k' := by omega
      refine ⟨?_, ?_⟩
      · rw [hF 46 0 j (sw_46 (by omega))]
        exact (h4 j hj').1
      · rw [hF.row (a := 60) (b := 2 + j) (fun c => sw_60 (by omega) (by omega))]
        exact sv _ _ (by omega) (by omega) (h4 j hj').2
  · obtain ⟨k', h1, h2, h3', h4⟩ := a4
    refine ⟨k', h1, by rw [rw0 2 0 (by decide)]; exact h2, by rw [e38]; exact h3', fun j hj => ?_⟩
    obtain ⟨c1, c2, c3, n', c4, c5, c6, c7⟩ := h4 j hj
    rw [rw0 47 0 (by decide), rw0 48 0 (by decide), rw0 83 j (by decide), hF.row (a := 5) (b := 1 + j) (fun c => sw_5 (by omega)), hF.row (a := 46) (b := 1 + j) (fun c => sw_46 (by omega))]
    exact ⟨c1, c2, sv _ _ (by omega) (by omega) c3, n', c4, c5, c6, fun v hv => ⟨(c7 v hv).1, sv _ _ (by omega) (by omega) (c7 v hv).2⟩⟩
  · obtain ⟨k', h1, h2, h3', h4, h5'⟩ := a5
    refine ⟨k', h1, by rw [rw0 1 0 (by decide)]; exact h2, by rw [e35]; exact h3', fun j hj => ?_, fun a ha => ?_⟩
    · rw [hW, rw0 77 j (by decide), rw0 36 0 (by decide)]
      exact h4 j hj
    · rw [rw0 36 0 (by decide)]
      rcases h5' a ha with q | ⟨j, hj, e⟩
      · exact Or.inl q
      · exact Or.inr ⟨j, hj, by rw [rw0 77 j (by decide)]; exact e⟩
  · obtain ⟨i1, i2, -⟩ := a6
    refine ⟨?_, ?_, h14⟩
    · rw [hF 11 0 15 (sw_11 (by decide)), rw0 50 0 (by decide)]
      exact i1
    · rw [hF 11 0 16 (sw_11 (by decide)), rw0 50 0 (by decide)]
      exact i2
  · intro p q hp hq e
    by_cases hpq : p = 0 ∧ q = k
    · rw [hpq.1, hpq.2] at e
      exact absurd e h46
    · refine (a7.1 p q hp hq ?_).fp hF (fun b hb => sw_94 (by omega))
      rw [← hF 46 p q (sw_46 (by omega))]
      exact e
  · intro j hj
    rw [rw0 47 0 (by decide), rw0 48 0 (by decide)]
    rcases a7.2 j hj with ⟨c1, c2, c3, c4, c5⟩ | c
    · exact Or.inl ⟨c1, c2, c3.fp hF (fun b hb => sw_94 (by omega)), c4.fp hF (fun b hb => sw_94b hb), fun q hq => (c5 q hq).fp hF (fun b hb => sw_94 (by omega))⟩
    · exact Or.inr c
