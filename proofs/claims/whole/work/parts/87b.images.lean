/-! ===== image ===== -/
def KPn (p a b c : Nat) : Prop := ((a = 5 ∨ a = 46) ∧ b = p) ∨ (a = 94 ∧ (b = 305 ∨ b = 5 ∨ b = 46) ∧ c = p)
theorem newPa {m : Mem} {p : Nat} (h : m 94 46 p = 0 ∧ m 94 5 p = 0) : Tot (r_X5_init p (nw m 305 p)) (fun m' => ¬ m' 94 5 p = 0 ∧ (∀ v, m' 46 p v = 0) ∧ Fp (KPn p) m m') := by
  have e : ∀ b, ¬ b = 305 → nw m 305 p 94 b p = m 94 b p := fun b hb => nw_94 (by decide) hb
  unfold r_X5_init
  rw [if_pos (by rw [e 46 (by decide), h.1]), if_pos (by rw [e 5 (by decide), h.2])]
  refine tot_some.mpr ⟨by rw [wr_eq]; decide, fun v => ?_, ?_⟩
  · rw [wr_k (by decide), wr_k (by decide)]
    unfold nw
    rw [if_pos ⟨rfl, rfl⟩]
  · have n0 : Fp (KPn p) m (nw m 305 p) := Fp.rf.n (fun c => Or.inl ⟨Or.inl rfl, rfl⟩) (Or.inr ⟨rfl, Or.inl rfl, rfl⟩)
    exact ((n0.n (k := 46) (i := p) (fun c => Or.inl ⟨Or.inr rfl, rfl⟩) (Or.inr ⟨rfl, by omega, rfl⟩)).w (Or.inl ⟨Or.inl rfl, rfl⟩)).w (Or.inr ⟨rfl, by omega, rfl⟩)
def KJ (k a b c : Nat) : Prop := (a = 2 ∧ b = 0 ∧ c = 0) ∨ (StO a ∧ b = 67 + k) ∨ KP (1 + k) a b c
theorem st_no {a : Nat} (h : StO a) : ¬ a = 2 ∧ ¬ a = 5 ∧ ¬ a = 46 ∧ ¬ a = 47 ∧ ¬ a = 48 ∧ ¬ a = 94 ∧ ¬ a = 12 ∧ ¬ a = 83 ∧ ¬ a = 60 ∧ ¬ a = 11 ∧ ¬ a = 307 ∧ ¬ a = 305 := by
  unfold StO at h
  omega
theorem keepJ {m : Mem} {k n : Nat} (hk : k < 3) (h2 : m 2 0 0 = nI k) (h47 : ¬ m 47 0 k = 0) (h48 : ¬ m 48 0 k = 0) (hn : n ≤ 16) (h5 : m 5 0 0 = nI n) (h46 : ∀ v, v < n → ¬ m 46 0 v = 0) (hmk : ∀ v, v < 16 → m 46 (1 + k) v = 0 → mk0 m (3 + 16 * (1 + k) + v)) : Tot (r_X2_keep_j66 0 0 m) (fun q => q.1 = true ∧ q.2 2 0 0 = nI (k + 1) ∧ (∀ w r, WF w → StC w r m 0 → StC w r q.2 (67 + k)) ∧ q.2 5 (1 + k) 0 = nI n ∧ (∀ v, v < n → ¬ q.2 46 (1 + k) v = 0 ∧ ∀ w r, WF w → StC w r m (3 + 16 * 0 + v) → StC w r q.2 (3 + 16 * (1 + k) + v)) ∧ (∀ v, v < 16 → q.2 46 (1 + k) v = 0 → mk0 q.2 (3 + 16 * (1 + k) + v)) ∧ Fp (KJ k) m q.2) := by
  unfold r_X2_keep_j66
  rw [h2, if_pos (inb_nI (by omega) (by omega)), clamp_nI (by omega), if_neg h47, tot_bd1]
  refine (copyP (i0 := 67 + k) (i1 := 0) (by omega)).mono ?_
  rintro m1 ⟨c1, c2⟩
  have o1 : ∀ a b c, ¬ StO a → m1 a b c = m a b c := fun a b c h => c2 a b c (fun q => h q.1)
  have ns : ∀ a, a = 2 ∨ a = 48 ∨ a = 5 ∨ a = 46 ∨ a = 94 → ¬ StO a := fun a h q => by
    have := st_no q
    omega
  rw [o1 2 0 0 (ns 2 (by omega)), h2, if_pos (inb_nI (by omega) (by omega)), clamp_nI (by omega), o1 48 0 k (ns 48 (by omega)), if_neg h48, tot_bd1]
  refine (pastC (i0 := 1 + k) (i1 := 0) (by omega) hn (by rw [o1 5 0 0 (ns 5 (by omega))]; exact h5) (fun v hv => by rw [o1 46 0 v (ns 46 (by omega))]; exact h46 v hv) (fun v hv h0 => ?_)).mono ?_
  · rw [o1 46 (1 + k) v (ns 46 (by omega))] at h0
    exact (hmk v hv h0).fp c2 (fun b hb q => ns 94 (by omega) q.1)
  · rintro m2 ⟨d1, d2, d3, d4⟩
    have e2 : m2 2 0 0 = nI k := by
      rw [d4 2 0 0 (fun q => by unfold KP StO at q; omega), o1 2 0 0 (ns 2 (by omega))]
      exact h2
    have hw : Fp (fun a b c => a = 2 ∧ b = 0 ∧ c = 0) m2 (wr m2 2 0 0 (m2 2 0 0 + 1)) := Fp.rf.w ⟨rfl, rfl, rfl⟩
    refine tot_some.mpr ⟨rfl, ?_, fun w r hW hS => ?_, ?_, fun v hv => ⟨?_, fun w r hW hS => ?_⟩, fun v hv h0 => ?_, ?_⟩
    · dsimp only
      rw [wr_eq, e2, nI_succ]
    · refine ((c1 w r hW hS).fp d4 (fun a c ha q => ?_)).fp hw (fun a c ha q => (st_no ha).1 q.1)
      have := st_no ha
      unfold KP at q
      omega
    · dsimp only
      rw [wr_k (by decide)]
      exact d1
    · dsimp only
      rw [wr_k (by decide)]
      exact (d2 v hv).1
    · refine ((d2 v hv).2 w r hW (hS.fp c2 (fun a c ha q => ?_))).fp hw (fun a c ha q => (st_no ha).1 q.1)
      have := q.2
      omega
    · dsimp only at h0 ⊢
      rw [wr_k (by decide)] at h0
      exact (d3 v hv h0).fp hw (fun b hb q => absurd q.1 (by decide))
    · exact ((c2.mono (fun a b c q => Or.inr (Or.inl q))).tr (d4.mono (fun a b c q => Or.inr (Or.inr q)))).tr (hw.mono (fun a b c q => Or.inl q))
def KI (k a b c : Nat) : Prop := KJ k a b c ∨ (a = 47 ∧ b = 0 ∧ c = k) ∨ (a = 48 ∧ b = 0 ∧ c = k) ∨ KN (67 + k) a b c ∨ KPn (1 + k) a b c
theorem keep_c {m : Mem} {k n : Nat} (hk : k < 3) (h2 : m 2 0 0 = nI k) (hn : n ≤ 16) (h5 : m 5 0 0 = nI n) (h46 : ∀ v, v < n → ¬ m 46 0 v = 0) (h7 : I7 m) : Tot (r_X2_keep 0 0 m) (fun q => q.1 = true ∧ q.2 2 0 0 = nI (k + 1) ∧ (∀ w r, WF w → StC w r m 0 → StC w r q.2 (67 + k)) ∧ q.2 5 (1 + k) 0 = nI n ∧ (∀ v, v < n → ¬ q.2 46 (1 + k) v = 0 ∧ ∀ w r, WF w → StC w r m (3 + 16 * 0 + v) → StC w r q.2 (3 + 16 * (1 + k) + v)) ∧ (∀ v, v < 16 → q.2 46 (1 + k) v = 0 → mk0 q.2 (3 + 16 * (1 + k) + v)) ∧ (¬ q.2 47 0 k = 0 ∧ ¬ q.2 48 0 k = 0) ∧ Fp (KI k) m q.2) := by
  unfold r_X2_keep
  rw [h2, if_pos (show nI (k) < (3 : Int32) from nI_lt (a := k) (b := 3) (by omega) (by omega)), if_pos (inb_nI (by omega) (by omega)), clamp_nI (by omega)]
  have nj : ∀ a b c, a = 47 ∨ a = 48 → ¬ KJ k a b c := fun a b c h q => by
    unfold KJ KP StO at q
    omega
  rcases h7.2 k hk with ⟨a47, a48, amk, apk, amks⟩ | ⟨b47, b48⟩
  · rw [if_pos a47]
    unfold r_X2_keep_j34
    rw [h2, clamp_nI (by omega), if_pos amk.1, tot_bd1]
    refine (newSt amk).mono ?_
    rintro m5 ⟨c1, c2⟩
    have o5 : ∀ a b c, ¬ StO a → ¬ a = 94 → m5 a b c = m a b c := fun a b c h h' => c2 a b c (fun q => by
      rcases q with q | q
      · exact h q.1
      · exact h' q.1)
    have ns : ∀ a, a = 2 ∨ a = 47 ∨ a = 48 ∨ a = 5 ∨ a = 46 → ¬ StO a := fun a h q => by
      have := st_no q
      omega
    have p5 : ∀ b, b = 305 ∨ b = 5 ∨ b = 46 → m5 94 b (1 + k) = m 94 b (1 + k) := fun b hb => c2 94 b (1 + k) (fun q => by
      unfold KN StO at q
      omega)
    rw [if_neg c1, if_pos (inb_nI (by omega) (by omega)), o5 2 0 0 (ns 2 (by omega)) (by decide), h2, clamp_nI (by omega), if_pos (by rw [p5 305 (by omega)]; exact apk.1), tot_bd1]
    have hF6 : Fp (fun a b c => KN (67 + k) a b c ∨ (a = 47 ∧ b = 0 ∧ c = k)) m (wr m5 47 0 k 1) := (c2.mono (fun a b c q => Or.inl q)).w (Or.inr ⟨rfl, rfl, rfl⟩)
    have q6 : wr m5 47 0 k 1 47 0 k = 1 := wr_eq _ _ _ _ _
    have z6 : ∀ b, b = 305 ∨ b = 5 ∨ b = 46 → wr m5 47 0 k 1 94 b (1 + k) = m 94 b (1 + k) := fun b hb => by rw [wr_k (by decide), p5 b hb]
    generalize wr m5 47 0 k 1 = m6 at hF6 q6 z6 ⊢
    refine (newPa (p := 1 + k) ⟨by rw [z6 46 (by omega)]; exact apk.2.2, by rw [z6 5 (by omega)]; exact apk.2.1⟩).mono ?_
    rintro m10 ⟨d1, d2, d3⟩
    rw [if_neg d1, if_pos (inb_nI (by omega) (by omega))]
    have hF11 : Fp (fun a b c => (a = 47 ∧ b = 0 ∧ c = k) ∨ (a = 48 ∧ b = 0 ∧ c = k) ∨ KN (67 + k) a b c ∨ KPn (1 + k) a b c) m (wr m10 48 0 k 1) := ((hF6.mono (fun a b c q => by
      rcases q with q | q
      · exact Or.inr (Or.inr (Or.inl q))
      · exact Or.inl q)).tr (d3.mono (fun a b c q => Or.inr (Or.inr (Or.inr q))))).w (Or.inr (Or.inl ⟨rfl, rfl, rfl⟩))
    have e47 : ¬ wr m10 48 0 k 1 47 0 k = 0 := by
      rw [wr_k (by decide), d3 47 0 k (fun q => by unfold KPn at q; omega), q6]
      decide
    have e48 : ¬ wr m10 48 0 k 1 48 0 k = 0 := by
      rw [wr_eq]
      decide
    generalize wr m10 48 0 k 1 = m11 at hF11 e47 e48 ⊢
    show Tot (r_X2_keep_j66 0 0 m11) _
    refine (keepJ (n := n) hk ?_ e47 e48 hn ?_ (fun v hv => ?_) (fun v hv h0 => ?_)).mono ?_
    · rw [hF11 2 0 0 (fun q => by unfold KN KPn StO at q; omega)]
      exact h2
    · rw [hF11 5 0 0 (fun q => by unfold KN KPn StO at q; omega)]
      exact h5
    · rw [hF11 46 0 v (fun q => by unfold KN KPn StO at q; omega)]
      exact h46 v hv
    · exact (amks v hv).fp hF11 (fun b hb q => by
        unfold KN KPn StO at q
        unfold StO at hb
        omega)
    · rintro ⟨z, m2⟩ ⟨g1, g2, g3, g4, g5, g6, g7⟩
      dsimp only at g1 g2 g3 g4 g5 g6 g7 ⊢
      refine ⟨g1, g2, fun w r hW hS => g3 w r hW (hS.fp hF11 (fun a c ha q => ?_)), g4, fun v hv => ⟨(g5 v hv).1, fun w r hW hS => (g5 v hv).2 w r hW (hS.fp hF11 (fun a c ha q => ?_))⟩, g6, ⟨?_, ?_⟩, (hF11.mono (fun a b c q => Or.inr q)).tr (g7.mono (fun a b c q => Or.inl q))⟩
      · have := st_no ha
        unfold KN KPn at q
        omega
      · have := st_no ha
        unfold KN KPn at q
        omega
      · rw [g7 47 0 k (nj 47 0 k (by omega))]
        exact e47
      · rw [g7 48 0 k (nj 48 0 k (by omega))]
        exact e48
  · rw [if_neg b47, if_neg b48]
    refine (keepJ (n := n) hk h2 b47 b48 hn h5 h46 (fun v hv h0 => h7.1 (1 + k) v (by omega) hv h0)).mono ?_
    rintro ⟨z, m2⟩ ⟨g1, g2, g3, g4, g5, g6, g7⟩
    dsimp only at g1 g2 g3 g4 g5 g6 g7 ⊢
    refine ⟨g1, g2, g3, g4, g5, g6, ⟨?_, ?_⟩, g7.mono (fun a b c q => Or.inl q)⟩
    · rw [g7 47 0 k (nj 47 0 k (by omega))]
      exact b47
    · rw [g7 48 0 k (nj 48 0 k (by omega))]
      exact b48
/-- what an image changes -/
def KFi (k a b c : Nat) : Prop := KI k a b c ∨ (a = 83 ∧ b = k ∧ c < 1888) ∨ (a = 12 ∧ b = 0 ∧ (c = 0 ∨ c = 38 ∨ c = 39))
def KFr (k a b c : Nat) : Prop := (a = 83 ∧ b = k ∧ c < 1888) ∨ (a = 12 ∧ b = 0 ∧ (c = 0 ∨ c = 38 ∨ c = 39))
set_option maxHeartbeats 1000000 in
theorem op_33 {x4 : Int32} {m : Mem} (hI : Inv m) : Tot (r_L_op_33 x4 m) (fun m7 => Inv m7 ∧ ∀ i, m7 100 i = m 100 i) := by
  obtain ⟨a1, a2, a3, a4, a5, a6, a7⟩ := hI
  obtain ⟨hW, hR, hL, hC, hS⟩ := id a1
  obtain ⟨n, n1, n2, n3, n4⟩ := id a3
  obtain ⟨k, k1, k2, k3, k4⟩ := id a4
  unfold r_L_op_33 r_X11_image
  rw [tot_bd2, tot_bd2]
  by_cases h3 : k = 3
  · unfold r_X2_keep
    rw [k2, h3, if_neg (by decide)]
    refine tot_some.mpr ?_
    dsimp only
    rw [if_neg (by decide)]
    refine tot_some.mpr ?_
    dsimp only
    unfold r_X12_image
    rw [k3, h3, if_pos (show nI 3 = 3 from rfl), tot_bd2]
    refine tot_some.mpr ?_
    dsimp only
    rw [if_pos rfl]
    exact tot_some.mpr ⟨InvX.th ⟨a1, a2, a3, a4, a5, a6, a7⟩ 0, th_100 m 0⟩
  · refine (keep_c (k := k) (by omega) k2 n1 n2 (fun v hv => (n4 v hv).1) a7).mono ?_
    rintro ⟨z, m2⟩ ⟨g1, g2, g3, g4, g5, g6, g7, g8⟩
    dsimp only at g1 g2 g3 g4 g5 g6 g7 g8 ⊢
    rw [if_pos g1]
    refine tot_some.mpr ?_
    dsimp only
    unfold r_X12_image
    have e38 : m2 12 0 38 = nI k := by
      rw [g8 12 0 38 (fun q => by unfold KI KJ KP KN KPn StO at q; omega)]
      exact k3
    rw [e38, if_neg (fun q => h3 ((nI_eq (by omega) (by omega)).mp (q.trans (show (3 : Int32) = nI 3 from rfl)))), if_pos (inb_nI (by omega) (by omega)), clamp_nI (by omega), tot_bd2, tot_bd1]
    refine putsAll_0.mono ?_
    rintro m4 ⟨p1, p2⟩
    refine tot_some.mpr ?_
    dsimp only
    have f38 : m4 12 0 38 = nI k := by
      rw [p2 12 0 38 (by omega), wr_j (by decide)]
      exact e38
    rw [f38, ← nI_succ, g2, if_pos rfl]
    have hFr : Fp (KFr k) m2 (wr m4 12 0 38 (nI (k + 1))) := (((Fp.rf.w (Or.inr ⟨rfl, rfl, Or.inl rfl⟩)).tr (p2.mono (fun a b c q => by unfold KFr; omega)))).w (Or.inr ⟨rfl, rfl, by omega⟩)
    have v83 : ∀ t, t < 1888 → wr m4 12 0 38 (nI (k + 1)) 83 k t = src m2 t := fun t ht => by
      rw [wr_k (by decide), p1 t ht]
      unfold src
      by_cases e : t = 0
      · rw [if_pos e, if_pos e, wr_j (by decide)]
      · rw [if_neg e, if_neg e, wr_k (by decide)]
    have v38 : wr m4 12 0 38 (nI (k + 1)) 12 0 38 = nI (k + 1) := wr_eq _ _ _ _ _
    generalize wr m4 12 0 38 (nI (k + 1)) = M at hFr v83 v38 ⊢
    have hF : Fp (KFi k) m M := (g8.mono (fun a b c q => Or.inl q)).tr (hFr.mono (fun a b c q => Or.inr q))
    have nK : ∀ a b c, ¬ a = 2 → ¬ StO a → ¬ a = 5 → ¬ a = 46 → ¬ a = 47 → ¬ a = 48 → ¬ a = 94 → ¬ a = 83 → (a = 12 → ¬ c = 0 ∧ ¬ c = 38 ∧ ¬ c = 39) → ¬ KFi k a b c := fun a b c h1 h2 h3 h4 h5 h6 h7 h8 h9 q => by
      unfold KFi KI KJ KP KN KPn StO at q
      unfold StO at h2
      omega
    have rr : ∀ a b, ¬ a = 2 → ¬ StO a → ¬ a = 5 → ¬ a = 46 → ¬ a = 47 → ¬ a = 48 → ¬ a = 94 → ¬ a = 83 → ¬ a = 12 → M a b = m a b := fun a b h1 h2 h3 h4 h5 h6 h7 h8 h9 => hF.row (fun c => nK a b c h1 h2 h3 h4 h5 h6 h7 h8 (fun e => absurd e h9))
    have sn : ∀ a, ¬ a = 7 → ¬ (20 ≤ a ∧ a ≤ 24) → ¬ StO a := fun a h1 h2 q => by
      unfold StO at q
      omega
    have r1 : ∀ a b, a = 1 ∨ a = 3 ∨ a = 4 ∨ a = 8 ∨ a = 11 ∨ (24 < a ∧ a < 46) ∨ (48 < a ∧ a < 83) ∨ a = 100 → M a b = m a b := fun a b h => rr a b (by omega) (sn a (by omega) (by omega)) (by omega) (by omega) (by omega) (by omega) (by omega) (by omega) (by omega)
    have f12 : ∀ c, ¬ c = 0 → ¬ c = 38 → ¬ c = 39 → M 12 0 c = m 12 0 c := fun c h1 h2 h3 => hF 12 0 c (nK 12 0 c (by decide) (sn 12 (by decide) (by decide)) (by decide) (by decide) (by decide) (by decide) (by decide) (by decide) (fun _ => ⟨h1, h2, h3⟩))
    have hWM : mW M = mW m := mW_fp hF (fun a b c ha => nK a b c (by omega) (sn a (by omega) (by omega)) (by omega) (by omega) (by omega) (by omega) (by omega) (by omega) (by omega)) (nK 12 0 21 (by decide) (sn 12 (by decide) (by decide)) (by decide) (by decide) (by decide) (by decide) (by decide) (by decide) (by omega))
    have oldS : ∀ i, ¬ i = 67 + k → ¬ (3 + 16 * (1 + k) ≤ i ∧ i < 19 + 16 * (1 + k)) → ∀ a c, StO a → ¬ KFi k a i c := fun i h1 h2 a c ha q => by
      have := st_no ha
      unfold KFi KI KJ KP KN KPn at q
      omega
    have newS : ∀ i a c, StO a → ¬ KFr k a i c := fun i a c ha q => by
      have := st_no ha
      unfold KFr at q
      omega
    have s60 : ∀ b, m2 60 b = m 60 b := fun b => g8.row (fun c q => by unfold KI KJ KP KN KPn StO at q; omega)
    have s36 : m2 12 0 36 = m 12 0 36 := g8 12 0 36 (fun q => by unfold KI KJ KP KN KPn StO at q; omega)
    refine tot_some.mpr ⟨⟨?_, ?_, ?_, ?_, ?_, ?_, ?_⟩, fun i => r1 100 i (by omega)⟩
    · refine a1.c hWM (r1 60 0 (by omega)) (fun a ha => ?_) (fun a ha => ?_)
      · simp only [List.mem_cons, List.not_mem_nil, or_false] at ha
        exact r1 a 0 (by omega)
      · simp only [List.mem_cons, List.not_mem_nil, or_false] at ha
        exact hF.row (fun c => oldS 0 (by omega) (by omega) a c (by unfold StO; omega))
    · exact a2.c (congrFun (r1 8 0 (by omega)) 1) (congrFun (r1 8 0 (by omega)) 3) (f12 1 (by decide) (by decide) (by decide)) (f12 3 (by decide) (by decide) (by decide)) (r1 37 0 (by omega)) (r1 49 0 (by omega))
    · refine ⟨n, n1, ?_, ?_, fun j hj => ⟨?_, ?_⟩⟩
      · rw [hF 5 0 0 (fun q => by unfold KFi KI KJ KP KN KPn StO at q; omega)]
        exact n2
      · rw [f12 36 (by decide) (by decide) (by decide)]
        exact n3
      · rw [hF 46 0 j (fun q => by unfold KFi KI KJ KP KN KPn StO at q; omega)]
        exact (n4 j hj).1
      · rw [r1 60 (2 + j) (by omega)]
        exact (n4 j hj).2.fp hWM hF (oldS (3 + j) (by omega) (by omega))
    · refine ⟨k + 1, by omega, ?_, v38, fun j hj => ?_⟩
      · rw [hFr 2 0 0 (fun q => by unfold KFr at q; omega)]
        exact g2
      · by_cases hjk : j = k
        · subst hjk
          refine ⟨?_, ?_, ?_, n, n1, ?_, ?_, fun v hv => ⟨?_, ?_⟩⟩
          · rw [hFr 47 0 j (fun q => by unfold KFr at q; omega)]
            exact g7.1
          · rw [hFr 48 0 j (fun q => by unfold KFr at q; omega)]
            exact g7.2
          · have er : Er (m 60 0) (fun q => M 83 j (1 + q)) := fun q hq => by
              dsimp only
              rw [v83 (1 + q) (by omega), src_1 m2 hq, s60 0]
            unfold SvC
            rw [hWM]
            exact ⟨((g3 _ _ hW hS).fp hFr (newS _)).er hW er, hR.er hW er⟩
          · rw [v83 0 (by omega), src_0, s36]
            exact n3
          · rw [hFr 5 (1 + j) 0 (fun q => by unfold KFr at q; omega)]
            exact g4
          · rw [hFr 46 (1 + j) v (fun q => by unfold KFr at q; omega)]
            exact (g5 v hv).1
          · have er : Er (m 60 (2 + v)) (fun q => M 83 j (112 + 111 * v + q)) := fun q hq => by
              dsimp only
              rw [v83 (112 + 111 * v + q) (by omega), src_2 m2 hq, s60 (2 + v)]
            have h9 := (n4 v hv).2
            unfold SvC at h9 ⊢
            rw [hWM]
            exact ⟨(((g5 v hv).2 _ _ hW (by rw [show 3 + 16 * 0 + v = 3 + v by omega]; exact h9.1)).fp hFr (newS _)).er hW er, h9.2.er hW er⟩
        · obtain ⟨b1, b2, b3, n', b4, b5, b6, b7⟩ := k4 j (by omega)
          have e83 : M 83 j = m 83 j := hF.row (fun c q => by unfold KFi KI KJ KP KN KPn StO at q; omega)
          refine ⟨?_, ?_, ?_, n', b4, ?_, ?_, fun v hv => ⟨?_, ?_⟩⟩
          · rw [hF 47 0 j (fun q => by unfold KFi KI KJ KP KN KPn StO at q; omega)]
            exact b1
          · rw [hF 48 0 j (fun q => by unfold KFi KI KJ KP KN KPn StO at q; omega)]
            exact b2
          · rw [e83]
            exact b3.fp hWM hF (oldS (67 + j) (by omega) (by omega))
          · rw [e83]
            exact b5
          · rw [hF 5 (1 + j) 0 (fun q => by unfold KFi KI KJ KP KN KPn StO at q; omega)]
            exact b6
          · rw [hF 46 (1 + j) v (fun q => by unfold KFi KI KJ KP KN KPn StO at q; omega)]
            exact (b7 v hv).1
          · rw [e83]
            exact (b7 v hv).2.fp hWM hF (oldS (3 + 16 * (1 + j) + v) (by omega) (by omega))
    · exact a5.c hWM (r1 1 0 (by omega)) (f12 35 (by decide) (by decide) (by decide)) (fun j => r1 77 j (by omega)) (r1 36 0 (by omega))
    · unfold I6
      rw [r1 11 0 (by omega), r1 50 0 (by omega), f12 37 (by decide) (by decide) (by decide)]
      exact a6
    · have mk : ∀ q, mk0 m q → ¬ q = 67 + k → ¬ (3 + 16 * (1 + k) ≤ q ∧ q < 19 + 16 * (1 + k)) → mk0 M q := fun q h h1 h2 => h.fp hF (fun b hb s => by
        unfold KFi KI KJ KP KN KPn StO at s
        unfold StO at hb
        omega)
      refine ⟨fun p v hp hv h0 => ?_, fun j hj => ?_⟩
      · by_cases hpk : p = 1 + k
        · subst hpk
          rw [hFr 46 (1 + k) v (fun q => by unfold KFr at q; omega)] at h0
          exact (g6 v hv h0).fp hFr (fun b hb s => by
            unfold KFr at s
            omega)
        · rw [hF 46 p v (fun q => by unfold KFi KI KJ KP KN KPn StO at q; omega)] at h0
          exact mk _ (a7.1 p v hp hv h0) (by omega) (by omega)
      · by_cases hjk : j = k
        · subst hjk
          right
          rw [hFr 47 0 j (fun q => by unfold KFr at q; omega), hFr 48 0 j (fun q => by unfold KFr at q; omega)]
          exact g7
        · rw [hF 47 0 j (fun q => by unfold KFi KI KJ KP KN KPn StO at q; omega), hF 48 0 j (fun q => by unfold KFi KI KJ KP KN KPn StO at q; omega)]
          rcases a7.2 j hj with ⟨b1, b2, b3, b4, b5⟩ | b
          · left
            refine ⟨b1, b2, mk _ b3 (by omega) (by omega), b4.fp hF (fun b hb s => ?_), fun v hv => mk _ (b5 v hv) (by omega) (by omega)⟩
            unfold KFi KI KJ KP KN KPn StO at s
            omega
          · exact Or.inr b
