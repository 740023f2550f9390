/-! ===== restore ===== -/
def KR2 (a b c : Nat) : Prop := (a = 2 ∧ b = 0 ∧ c = 0) ∨ (StO a ∧ b = 0) ∨ KP 0 a b c ∨ (a = 11 ∧ b = 0 ∧ c = 14)
def KRm (a b c : Nat) : Prop := (a = 60 ∧ (b = 0 ∨ (2 ≤ b ∧ b ≤ 17)) ∧ c < 111) ∨ (a = 12 ∧ b = 0 ∧ (c = 0 ∨ c = 36 ∨ c = 37 ∨ c = 38 ∨ c = 39))
theorem back_c {m : Mem} {j n : Nat} (hj : j < 3) (h2 : m 2 0 0 = nI (j + 1)) (h47 : ¬ m 47 0 j = 0) (h48 : ¬ m 48 0 j = 0) (hn : n ≤ 16) (h5 : m 5 (1 + j) 0 = nI n) (h46 : ∀ v, v < n → ¬ m 46 (1 + j) v = 0) (h7 : I7 m) : Tot (r_X11_restore m) (fun q => q.1 = nI j ∧ q.2 2 0 0 = nI j ∧ q.2 11 0 14 = 0 ∧ (∀ w r, WF w → StC w r m (67 + j) → StC w r q.2 0) ∧ q.2 5 0 0 = nI n ∧ (∀ v, v < n → ¬ q.2 46 0 v = 0 ∧ ∀ w r, WF w → StC w r m (3 + 16 * (1 + j) + v) → StC w r q.2 (3 + 16 * 0 + v)) ∧ (∀ v, v < 16 → q.2 46 0 v = 0 → mk0 q.2 (3 + 16 * 0 + v)) ∧ Fp KR2 m q.2) := by
  unfold r_X11_restore r_X2_putBack
  rw [h2, if_neg (nI_ne0 (by omega) (by omega)), nI_pred, if_pos (inb_nI (by omega) (by omega)), clamp_nI (by omega), if_neg h47, if_neg h48, if_neg h47, tot_bd2, tot_bd1]
  have hw : Fp (fun a b c => a = 2 ∧ b = 0 ∧ c = 0) m (wr m 2 0 0 (nI j)) := Fp.rf.w ⟨rfl, rfl, rfl⟩
  have q2 : wr m 2 0 0 (nI j) 2 0 0 = nI j := wr_eq _ _ _ _ _
  generalize wr m 2 0 0 (nI j) = m1 at hw q2 ⊢
  have o1 : ∀ a b c, ¬ a = 2 → m1 a b c = m a b c := fun a b c h => hw a b c (fun q => h q.1)
  refine (copyP (i0 := 0) (i1 := 67 + j) (by omega)).mono ?_
  rintro m2 ⟨c1, c2⟩
  have o2 : ∀ a b c, ¬ StO a → m2 a b c = m1 a b c := fun a b c h => c2 a b c (fun q => h q.1)
  have ns : ∀ a, a = 2 ∨ a = 48 ∨ a = 5 ∨ a = 46 ∨ a = 94 ∨ a = 11 → ¬ StO a := fun a h q => by
    have := st_no q
    omega
  rw [o2 2 0 0 (ns 2 (by omega)), q2, if_pos (inb_nI (by omega) (by omega)), clamp_nI (by omega), o2 48 0 j (ns 48 (by omega)), o1 48 0 j (by decide), if_neg h48, tot_bd1]
  refine (pastC (i0 := 0) (i1 := 1 + j) (by omega) hn (by rw [o2 5 _ 0 (ns 5 (by omega)), o1 5 _ 0 (by decide)]; exact h5) (fun v hv => by rw [o2 46 _ v (ns 46 (by omega)), o1 46 _ v (by decide)]; exact h46 v hv) (fun v hv h0 => ?_)).mono ?_
  · rw [o2 46 0 v (ns 46 (by omega)), o1 46 0 v (by decide)] at h0
    exact ((h7.1 0 v (by omega) hv h0).fp hw (fun b hb q => absurd q.1 (by decide))).fp c2 (fun b hb q => ns 94 (by omega) q.1)
  · rintro m3 ⟨d1, d2, d3, d4⟩
    refine tot_some.mpr ?_
    dsimp only
    rw [if_pos rfl]
    have e2 : m3 2 0 0 = nI j := by
      rw [d4 2 0 0 (fun q => by unfold KP StO at q; omega), o2 2 0 0 (ns 2 (by omega))]
      exact q2
    have hv : Fp (fun a b c => a = 11 ∧ b = 0 ∧ c = 14) m3 (wr m3 11 0 14 0) := Fp.rf.w ⟨rfl, rfl, rfl⟩
    refine tot_some.mpr ⟨e2, ?_, wr_eq m3 11 0 14 0, fun w r hW hS => ?_, ?_, fun v hv' => ⟨?_, fun w r hW hS => ?_⟩, fun v hv' h0 => ?_, ?_⟩
    · dsimp only
      rw [wr_k (by decide)]
      exact e2
    · refine ((c1 w r hW (hS.fp hw (fun a c ha q => (st_no ha).1 q.1))).fp d4 (fun a c ha q => ?_)).fp hv (fun a c ha q => (st_no ha).2.2.2.2.2.2.2.2.2.1 q.1)
      have := st_no ha
      unfold KP at q
      omega
    · dsimp only
      rw [wr_k (by decide)]
      exact d1
    · dsimp only
      rw [wr_k (by decide)]
      exact (d2 v hv').1
    · refine ((d2 v hv').2 w r hW ((hS.fp hw (fun a c ha q => (st_no ha).1 q.1)).fp c2 (fun a c ha q => ?_))).fp hv (fun a c ha q => (st_no ha).2.2.2.2.2.2.2.2.2.1 q.1)
      have := q.2
      omega
    · dsimp only at h0 ⊢
      rw [wr_k (by decide)] at h0
      exact (d3 v hv' h0).fp hv (fun b hb q => absurd q.1 (by decide))
    · exact (((hw.mono (fun a b c q => Or.inl q)).tr (c2.mono (fun a b c q => Or.inr (Or.inl q)))).tr (d4.mono (fun a b c q => Or.inr (Or.inr (Or.inl q))))).tr (hv.mono (fun a b c q => Or.inr (Or.inr (Or.inr q))))
def KG (a b c : Nat) : Prop := KR2 a b c ∨ KRm a b c
set_option maxHeartbeats 1000000 in
theorem op_34 {x4 : Int32} {m : Mem} (hI : Inv m) : Tot (r_L_op_34 x4 m) (fun m7 => Inv m7 ∧ ∀ i, m7 100 i = m 100 i) := by
  obtain ⟨a1, a2, a3, a4, a5, a6, a7⟩ := hI
  obtain ⟨hW, hR, hL, hC, hS⟩ := id a1
  obtain ⟨k, k1, k2, k3, k4⟩ := id a4
  unfold r_L_op_34
  rw [tot_bd2]
  by_cases h0 : k = 0
  · unfold r_X11_restore r_X2_putBack
    rw [k2, h0, if_pos (show nI 0 = 0 from rfl), tot_bd2]
    refine tot_some.mpr ?_
    dsimp only
    rw [if_neg (by decide)]
    refine tot_some.mpr ?_
    dsimp only
    unfold r_X12_restore
    rw [k3, h0, if_pos (show nI 0 = 0 from rfl), tot_bd2]
    refine tot_some.mpr ?_
    dsimp only
    rw [if_pos rfl]
    exact tot_some.mpr ⟨InvX.th ⟨a1, a2, a3, a4, a5, a6, a7⟩ 0, th_100 m 0⟩
  · obtain ⟨j, hj⟩ : ∃ j, k = j + 1 := ⟨k - 1, by omega⟩
    subst hj
    obtain ⟨b1, b2, b3, n, b4, b5, b6, b7⟩ := k4 j (by omega)
    refine (back_c (j := j) (by omega) k2 b1 b2 b4 b6 (fun v hv => (b7 v hv).1) a7).mono ?_
    rintro ⟨z, m2⟩ ⟨g1, g2, g3, g4, g5, g6, g7, g8⟩
    dsimp only at g1 g2 g3 g4 g5 g6 g7 g8 ⊢
    unfold r_X12_restore
    have e38 : m2 12 0 38 = nI (j + 1) := by
      rw [g8 12 0 38 (fun q => by unfold KR2 KP StO at q; omega)]
      exact k3
    rw [e38, if_neg (nI_ne0 (by omega) (by omega)), nI_pred, if_pos (inb_nI (by omega) (by omega)), clamp_nI (by omega), tot_bd2, tot_bd1]
    refine putsAll_1.mono ?_
    rintro m4 ⟨p1, p2⟩
    refine tot_some.mpr ?_
    dsimp only
    have f38 : m4 12 0 38 = nI j := by
      rw [p2 12 0 38 (by omega), wr_eq]
    rw [f38, g1, if_pos rfl]
    have hFr : Fp KRm m2 (wr m4 12 0 37 0) := (((Fp.rf.w (Or.inr ⟨rfl, rfl, Or.inl rfl⟩)).w (Or.inr ⟨rfl, rfl, by omega⟩)).tr (p2.mono (fun a b c q => by unfold KRm; omega))).w (Or.inr ⟨rfl, rfl, by omega⟩)
    have vs : ∀ t, t < 1888 → src (wr m4 12 0 37 0) t = m2 83 j t := fun t ht => by
      have e : src (wr m4 12 0 37 0) t = src m4 t := by
        unfold src
        by_cases e : t = 0
        · rw [if_pos e, if_pos e, wr_j (by decide)]
        · rw [if_neg e, if_neg e, wr_k (by decide)]
      rw [e, p1 t ht, wr_k (by decide), wr_k (by decide)]
    have v38 : wr m4 12 0 37 0 12 0 38 = nI j := by rw [wr_j (by decide)]; exact f38
    have v37 : wr m4 12 0 37 0 12 0 37 = 0 := wr_eq _ _ _ _ _
    generalize wr m4 12 0 37 0 = M at hFr vs v38 v37 ⊢
    have hF : Fp KG m M := (g8.mono (fun a b c q => Or.inl q)).tr (hFr.mono (fun a b c q => Or.inr q))
    have sn : ∀ a, ¬ a = 7 → ¬ (20 ≤ a ∧ a ≤ 24) → ¬ StO a := fun a h1 h2 q => by
      unfold StO at q
      omega
    have r1 : ∀ a b, a = 1 ∨ a = 3 ∨ a = 4 ∨ a = 8 ∨ (24 < a ∧ a < 46) ∨ (46 < a ∧ a < 60) ∨ (60 < a ∧ a < 94) ∨ a = 100 → M a b = m a b := fun a b h => hF.row (fun c q => by
      unfold KG KR2 KRm KP StO at q
      omega)
    have f12 : ∀ c, ¬ c = 0 → ¬ c = 36 → ¬ c = 37 → ¬ c = 38 → ¬ c = 39 → M 12 0 c = m 12 0 c := fun c h1 h2 h3 h4 h5 => hF 12 0 c (fun q => by
      unfold KG KR2 KRm KP StO at q
      omega)
    have hWM : mW M = mW m := mW_fp hF (fun a b c ha q => by
      unfold KG KR2 KRm KP StO at q
      omega) (fun q => by
      unfold KG KR2 KRm KP StO at q
      omega)
    have oldS : ∀ i, 19 ≤ i → ∀ a c, StO a → ¬ KG a i c := fun i h1 a c ha q => by
      have := st_no ha
      unfold KG KR2 KRm KP at q
      omega
    have newS : ∀ i a c, StO a → ¬ KRm a i c := fun i a c ha q => by
      have := st_no ha
      unfold KRm at q
      omega
    have s83 : m2 83 j = m 83 j := g8.row (fun c q => by unfold KR2 KP StO at q; omega)
    have er0 : Er (fun q => m 83 j (1 + q)) (M 60 0) := fun q hq => by
      dsimp only
      rw [← src_1 M hq, vs (1 + q) (by omega), s83]
    have er2 : ∀ v, v < 16 → Er (fun q => m 83 j (112 + 111 * v + q)) (M 60 (2 + v)) := fun v hv q hq => by
      dsimp only
      rw [← src_2 M hq, vs (112 + 111 * v + q) (by omega), s83]
    refine tot_some.mpr ⟨⟨?_, ?_, ?_, ?_, ?_, ?_, ?_⟩, fun i => r1 100 i (by omega)⟩
    · unfold I1
      rw [hWM]
      refine ⟨hW, b3.2.er hW er0, ?_, ?_, ?_⟩
      · exact hL.fr (r1 3 0 (by omega)) (r1 25 0 (by omega)) (r1 26 0 (by omega)) (r1 27 0 (by omega)) (r1 28 0 (by omega)) (r1 29 0 (by omega))
      · exact hC.fr (r1 4 0 (by omega)) (r1 34 0 (by omega))
      · exact ((g4 _ _ hW b3.1).fp hFr (newS _)).er hW er0
    · exact a2.c (congrFun (r1 8 0 (by omega)) 1) (congrFun (r1 8 0 (by omega)) 3) (f12 1 (by decide) (by decide) (by decide) (by decide) (by decide)) (f12 3 (by decide) (by decide) (by decide) (by decide) (by decide)) (r1 37 0 (by omega)) (r1 49 0 (by omega))
    · refine ⟨n, b4, ?_, ?_, fun v hv => ⟨?_, ?_⟩⟩
      · rw [hFr 5 0 0 (fun q => by unfold KRm at q; omega)]
        exact g5
      · rw [← src_0 M, vs 0 (by omega), s83]
        exact b5
      · rw [hFr 46 0 v (fun q => by unfold KRm at q; omega)]
        exact (g6 v hv).1
      · have h9 := (b7 v hv).2
        unfold SvC at h9 ⊢
        rw [hWM]
        have h8 := ((g6 v hv).2 _ _ hW h9.1).fp hFr (newS _)
        rw [show 3 + 16 * 0 + v = 3 + v by omega] at h8
        exact ⟨h8.er hW (er2 v (by omega)), h9.2.er hW (er2 v (by omega))⟩
    · refine ⟨j, by omega, ?_, v38, fun i hi => ?_⟩
      · rw [hFr 2 0 0 (fun q => by unfold KRm at q; omega)]
        exact g2
      · obtain ⟨t1, t2, t3, n', t4, t5, t6, t7⟩ := k4 i (by omega)
        refine ⟨?_, ?_, ?_, n', t4, ?_, ?_, fun v hv => ⟨?_, ?_⟩⟩
        · rw [r1 47 0 (by omega)]
          exact t1
        · rw [r1 48 0 (by omega)]
          exact t2
        · rw [r1 83 i (by omega)]
          exact t3.fp hWM hF (oldS (67 + i) (by omega))
        · rw [r1 83 i (by omega)]
          exact t5
        · rw [hF 5 (1 + i) 0 (fun q => by unfold KG KR2 KRm KP StO at q; omega)]
          exact t6
        · rw [hF 46 (1 + i) v (fun q => by unfold KG KR2 KRm KP StO at q; omega)]
          exact (t7 v hv).1
        · rw [r1 83 i (by omega)]
          exact (t7 v hv).2.fp hWM hF (oldS (3 + 16 * (1 + i) + v) (by omega))
    · exact a5.c hWM (r1 1 0 (by omega)) (f12 35 (by decide) (by decide) (by decide) (by decide) (by decide)) (fun j => r1 77 j (by omega)) (r1 36 0 (by omega))
    · obtain ⟨c1, c2, c3⟩ := a6
      have e11 : ∀ c, ¬ c = 14 → M 11 0 c = m 11 0 c := fun c hc => hF 11 0 c (fun q => by unfold KG KR2 KRm KP StO at q; omega)
      unfold I6
      rw [e11 15 (by decide), e11 16 (by decide), r1 50 0 (by omega), hFr 11 0 14 (fun q => by unfold KRm at q; omega), g3, v37]
      exact ⟨c1, c2, rfl⟩
    · have mk : ∀ q, mk0 m q → 19 ≤ q → mk0 M q := fun q h h1 => h.fp hF (fun b hb s => by
        unfold KG KR2 KRm KP StO at s
        unfold StO at hb
        omega)
      refine ⟨fun p v hp hv q0 => ?_, fun i hi => ?_⟩
      · by_cases hp0 : p = 0
        · subst hp0
          rw [hFr 46 0 v (fun q => by unfold KRm at q; omega)] at q0
          exact (g7 v hv q0).fp hFr (fun b hb s => by
            unfold KRm at s
            omega)
        · rw [hF 46 p v (fun q => by unfold KG KR2 KRm KP StO at q; omega)] at q0
          exact mk _ (a7.1 p v hp hv q0) (by omega)
      · rw [r1 47 0 (by omega), r1 48 0 (by omega)]
        rcases a7.2 i hi with ⟨t1, t2, t3, t4, t5⟩ | t
        · left
          refine ⟨t1, t2, mk _ t3 (by omega), t4.fp hF (fun b hb s => ?_), fun v hv => mk _ (t5 v hv) (by omega)⟩
          unfold KG KR2 KRm KP StO at s
          omega
        · exact Or.inr t
