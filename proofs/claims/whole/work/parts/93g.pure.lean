/-! ===== work, alike ===== -/
theorem Fj.pp {S : Nat → Nat → Nat → Prop} {K J : List (Nat × Nat)} {m m' : Mem} (h : Fj K J m m') (hK : ∀ q ∈ K, ∀ c, S q.1 q.2 c) (hJ : ∀ q ∈ J, ∀ b, S q.1 b q.2) : Fp S m m' := fun a b c hs => h a b c (fun q => hs (hK _ q c)) (fun q => hs (hJ _ q b))
theorem Fq.pp {S : Nat → Nat → Nat → Prop} {P : Nat → Bool} {J : List (Nat × Nat)} {m m' : Mem} (h : Fq P J m m') (hP : ∀ k, P k = true → ∀ b c, S k b c) (hJ : ∀ q ∈ J, ∀ b, S q.1 b q.2) : Fp S m m' := fun a b c hs => h a b c (by
  cases hp : P a with
  | false => rfl
  | true => exact absurd (hP a hp b c) hs) (fun q => hs (hJ _ q b))
theorem lsP_end {b : Nat → Int32} {L d : Nat} {w : Wd} {sub : Option (Nat → Nat → Rs)} (hL : L ≤ 150) (hG : Gs L w d (stP b L w sub)) (hby : ∀ k, k < L → ¬ b k = -1) : ∀ k i p, 150 ≤ k + p → p ≤ L → ∀ p' l, lsP b L (stP b L w sub) (-1) k i p = .inr (p', l) → ¬ sk b L p' < L
  | 0, i, p, hk, hp, p', l, he => by
    cases he
    have := sk_le (b := b) hp
    omega
  | k + 1, i, p, hk, hp, p', l, he => by
    unfold lsP at he
    by_cases c1 : bA b L (sk b L p) = -1
    · rw [if_pos c1] at he
      cases he
      rw [sk_sk hp]
      intro hx
      rw [bA_in hx] at c1
      exact hby _ hx c1
    rw [if_neg c1] at he
    obtain ⟨p1, l1, e1, e2⟩ := bs_ok he
    obtain ⟨g1, g2, -⟩ := hG i p hp p1 l1 e1
    have hn := stP_ne e1
    obtain ⟨p2, l2, e3, e4⟩ := bs_ok e2
    have := lsP_end hL hG hby k (i + l1.length) p1 (by omega) g2 p2 l2 e3
    cases e4
    exact this
theorem wkP_end {b : Nat → Int32} {L p : Nat} {w : Wd} {l : List Sd} (hW : WF w) (hL : L ≤ 150) (hby : ∀ k, k < L → ¬ b k = -1) (h : wkP b L w = .inr (p, l)) : ¬ sk b L p < L ∧ l.length ≤ 37 ∧ ∃ n, Vr w (tf l) n 6 0 l.length := by
  obtain ⟨g1, g2, g3⟩ := Gs.ls (stop := -1) (Gs.wk (b := b) (L := L) hW) 150 0 0 (Nat.zero_le _) p l h
  refine ⟨lsP_end hL (Gs.wk hW) hby 150 0 0 (by omega) (Nat.zero_le _) p l h, by omega, ?_⟩
  obtain ⟨n, hn⟩ := g3 [] [] rfl
  rw [List.append_nil, Nat.zero_add] at hn
  exact ⟨n, hn⟩
theorem readK_c {b : Nat → Int32} {L : Nat} {w : Wd} {m : Mem} (hW : WF w) (hL : L ≤ 150) (hby : ∀ k, k < L → ¬ b k = -1) (h : TC b L 0 m) (hCL : CL w m) : Tot (r_X9_readFrom m) (fun q => (∀ p l, wkP b L w = .inr (p, l) → q.1 = true ∧ q.2 9 0 3 = nI l.length ∧ (∀ j, j < l.length → CR q.2 j (tf l j)) ∧ q.2 8 0 3 = -1) ∧ (∀ e, wkP b L w = .inl e → q.1 = false ∧ FtC e.1 e.2 q.2) ∧ Fj KSc JSc m q.2) := by
  unfold r_X9_readFrom r_X9_readSteps_t
  have hF0 : Fj [] [(9, 3)] m (wr m 9 0 3 0) := Fj.rf.wrJ (by simp) _ _
  rw [tot_bd2]
  have e9 := workS_c (b := b) (L := L) (m := wr m 9 0 3 0) hW hL (h.fj hF0 (by simp) (by decide)) (hCL.fj hF0 (by simp) (by decide)) (wr_eq _ _ _ _ _)
  refine Tot.mono e9 ?_
  rintro ⟨z, m2⟩ ⟨a1, a2, -, a4⟩
  dsimp only at a1 a2 a4 ⊢
  have F2 : Fj KSc JSc m m2 := (hF0.mono (by simp) (by simp)).tr a4
  cases hR : wkP b L w with
  | inl e =>
    obtain ⟨b1, b2⟩ := a2 e hR
    rw [if_neg (by rw [b1]; decide)]
    exact tot_some.mpr ⟨fun p l e => (by cases e), fun e' he => by cases he; exact ⟨rfl, b2⟩, F2⟩
  | inr pl =>
    obtain ⟨p, l⟩ := pl
    obtain ⟨b1, b2, b3, b4⟩ := a1 p l hR
    obtain ⟨hx, -, -⟩ := wkP_end hW hL hby hR
    rw [if_pos b1, tot_bd2]
    refine (ends_c b2 hby).mono ?_
    rintro ⟨z7, m6⟩ ⟨d1, -, d3⟩
    dsimp only at d1 d3 ⊢
    obtain ⟨u1, u2⟩ := d1 hx
    rw [if_pos u1]
    refine tot_some.mpr ⟨fun p' l' e => ?_, fun e he => (by cases he), F2.tr (d3.mono (by simp) jt_js)⟩
    cases e
    refine ⟨rfl, ?_, fun j hj => ?_, u2.2.2.2.1.2⟩
    · show m6 9 0 3 = _
      rw [d3 9 0 3 (by simp) (by simp), b3, Nat.zero_add]
    · have := (b4 j hj).lo (n := 0 + j + 1) (Low.of d3 (by decide)) (by omega)
      rw [Nat.zero_add] at this
      exact this
set_option maxHeartbeats 1000000 in
theorem wkM {b : Nat → Int32} {L : Nat} {w : Wd} (hW : WF w) (hL : L ≤ 150) (hby : ∀ k, k < L → ¬ b k = -1) : ∀ k i p m, 150 ≤ k + p → p ≤ L → Bm b L w i 0 (sk b L p) m → 4 * i ≤ p → Tot (loopO (fun s => r_X12_work_b72 s) m) (SsM b L (lsP b L (stP b L w (some (inP b L w 5))) (-1) k i p) i 0 m) := by
  have hG := Gs.wk (b := b) (L := L) hW
  intro k
  induction k with
  | zero =>
    intro i p m hk hp hB h4
    obtain ⟨s1, s2⟩ := sk_le (b := b) hp
    have hs : sk b L p = p := by omega
    obtain ⟨t, h5, h8, h30, hw⟩ := hB
    refine tot_step ?_
    unfold r_X12_work_b72
    rw [if_pos h5, t.1, t.2.1, if_pos (nI_le (by omega) (by omega))]
    refine tot_some.mpr ?_
    show SsM b L (.inr (p, [])) i 0 m m
    rw [hs] at t
    exact ⟨fun p l e => by cases e; exact ⟨t, h5, h8, h30, fun j hj => absurd hj (Nat.not_lt_zero j)⟩, fun e he => (by cases he), LoM.rf, Fq.rf⟩
  | succ k ih =>
    intro i p m hk hp hB h4
    obtain ⟨s1, s2⟩ := sk_le (b := b) hp
    obtain ⟨t, h5, h8, h30, hw⟩ := id hB
    refine tot_step ?_
    show Tot (r_X12_work_b72 m) _
    generalize hl : (fun s : Mem => r_X12_work_b72 s) = lf
    unfold r_X12_work_b72 r_X12_readsStep_t
    rw [if_pos h5, t.1, t.2.1]
    by_cases hx : sk b L p < L
    case neg =>
      rw [if_pos (nI_le (by omega) (by omega))]
      refine tot_some.mpr ?_
      have hR : lsP b L (stP b L w (some (inP b L w 5))) (-1) (k + 1) i p = .inr (sk b L p, []) := by
        show (if bA b L (sk b L p) = -1 then _ else _) = _
        rw [if_pos (bA_out hx)]
      show SsM b L _ i 0 m m
      rw [hR]
      exact ⟨fun p l e => by cases e; exact ⟨t, h5, h8, h30, fun j hj => absurd hj (Nat.not_lt_zero j)⟩, fun e he => (by cases he), LoM.rf, Fq.rf⟩
    have e : ¬ bA b L (sk b L p) = -1 := by
      rw [bA_in hx]
      exact hby _ hx
    rw [if_neg (nI_ge hx (by omega)), tot_bd1]
    have hu := stepAll_m (b := b) (L := L) hW hL 6 2 (by omega) i (sk b L p) m hB (sk_sk hp) (by omega)
    rw [stP_sk hp] at hu
    refine Tot.mono hu ?_
    intro m2 hm2
    rw [tot_bd1]
    refine (nextS_m (p := p) hw hm2).mono ?_
    rintro m3 ⟨a1, a2, a3, a4⟩
    refine tot_some.mpr ?_
    show Tot (loopO lf m3) (SsM b L (lsP b L (stP b L w (some (inP b L w 5))) (-1) (k + 1) i p) i 0 m)
    rw [← hl]
    cases hf : stP b L w (some (inP b L w 5)) i p with
    | inl e' =>
      have d := a2 e' hf
      have hR : lsP b L (stP b L w (some (inP b L w 5))) (-1) (k + 1) i p = .inl e' := by
        show (if bA b L (sk b L p) = -1 then _ else _) = _
        rw [if_neg e, bs_l hf]
      refine tot_step ?_
      unfold r_X12_work_b72
      rw [if_neg (by rw [d.1]; exact d.2.1)]
      refine tot_some.mpr ?_
      exact BT.ss ⟨d, a3, a4⟩ hR
    | inr pl =>
      obtain ⟨p1, l1⟩ := pl
      obtain ⟨b1, b2⟩ := a1 p1 l1 hf
      obtain ⟨x1, x2, -⟩ := hG i p hp p1 l1 hf
      have hR : lsP b L (stP b L w (some (inP b L w 5))) (-1) (k + 1) i p = bs (lsP b L (stP b L w (some (inP b L w 5))) (-1) k (i + l1.length) p1) fun p2 l2 => .inr (p2, l1 ++ l2) := by
        show (if bA b L (sk b L p) = -1 then _ else _) = _
        rw [if_neg e, bs_r hf]
      have hlen := stP_ne hf
      refine (ih (i + l1.length) p1 m3 (by omega) x2 b1 (by omega)).mono ?_
      intro m4 hm4
      exact hm4.cat hR b2 a3 a4
def SR (k a b c : Nat) : Prop := a = 81 ∨ (55 ≤ a ∧ a ≤ 58) ∨ (a = 60 ∧ (b = 0 ∨ b = 2 + k)) ∨ (a = 12 ∧ ¬ c = 21 ∧ ¬ c = 35 ∧ ¬ c = 38)
abbrev JWk : List (Nat × Nat) := [(12, 0), (12, 1), (12, 2), (12, 3), (12, 4), (12, 5), (12, 6), (12, 7), (12, 8), (12, 30)]
theorem jwk_sr {k : Nat} : ∀ q ∈ JWk, ∀ b, SR k q.1 b q.2 := by
  intro q hq b
  unfold SR
  simp only [List.mem_cons, List.not_mem_nil, or_false] at hq
  rcases hq with rfl | rfl | rfl | rfl | rfl | rfl | rfl | rfl | rfl | rfl <;> simp
theorem p81_sr {k : Nat} : ∀ a, P81 a = true → ∀ b c, SR k a b c := fun a ha b c => by
  unfold P81 at ha
  rw [beq_iff_eq] at ha
  exact Or.inl ha
set_option maxHeartbeats 1000000 in
theorem ref_work {b : Nat → Int32} {L f k : Nat} {m : Mem} (hf : m 12 0 1 = nI f) (hLf : L ≤ f) (h6 : f ≤ 600) (hL : L ≤ 150) (hb : ∀ k, k < L → m 49 0 k = b k) (hby : ∀ k, k < L → ¬ b k = -1) (hW : WF (mW m)) (hR : RF (mW m) (m 60 0)) (h36 : m 12 0 36 = nI k) (hk : k < 16) : Tot (r_X12_work (nI L) m) (fun q => (∀ p l, wkP b L (mW m) = .inr (p, l) → PM (mW m) (rnR (mW m) (tf l) 7 0 l.length (m 60 0, 0, 0, 0)) q.2 ∧ q.1 = q.2 12 0 44 ∧ q.2 12 0 36 = nI (k + 1) ∧ q.2 12 0 3 = -1 ∧ Er (q.2 60 (2 + k)) (m 60 0)) ∧ (∀ e, wkP b L (mW m) = .inl e → q.1 = e.1 - 10 ∧ q.2 12 0 3 = nI e.2 ∧ Fq P81 JWk m q.2) ∧ q.2 12 0 0 = 0 ∧ q.2 12 0 1 = 0 ∧ Fp (SR k) m q.2) := by
  unfold r_X12_work r_X12_work_j30
  rw [hf, if_pos (in_t ⟨nI_pos' (by omega), nI_le (by omega) (by omega)⟩), if_pos (show nI L ≤ 150 from nI_le (b := 150) hL (by omega)), bd2_s bad_0, if_neg (by decide)]
  have hFt : Fq P81 JWk m (wr m 12 0 0 0) := Fq.rf.wrJ (by simp) _ _
  have t0 := th_z m 0
  have o49 : ∀ k, k < L → wr m 12 0 0 0 49 0 k = b k := fun k hk => by rw [wr_k (by decide)]; exact hb k hk
  have o36 : wr m 12 0 0 0 12 0 36 = nI k := by rw [wr_j (by decide)]; exact h36
  generalize wr m 12 0 0 0 = m4 at hFt t0 o49 o36 ⊢
  rw [if_neg (show ¬ m4 12 0 36 = 16 by rw [o36]; intro q; have := (nI_eq (a := k) (b := 16) (by omega) (by omega)).mp q; omega), tot_bd1]
  refine (starts_m (b := b) (L := L) (by omega) o49).mono ?_
  rintro m8 ⟨s1, s2, s3, s4, s5, hF8⟩
  have hF8' : Fq P81 JWk m m8 := hFt.tr (hF8.p (by simp))
  have hF9 : Fj [] [(12, 30)] m8 (wr m8 12 0 30 0) := Fj.rf.wrJ (by simp) _ _
  have hF9' : Fq P81 JWk m (wr m8 12 0 30 0) := hF8'.wrJ (by simp) _ _
  have B9 : Bm b L (mW m) 0 0 (sk b L 0) (wr m8 12 0 30 0) := ⟨s1.fj hF9 (by simp) (by decide), by rw [wr_j (by decide)]; exact s2, by rw [wr_j (by decide)]; exact s5, wr_eq _ _ _ _ _, mW_fq hF9' rfl rfl⟩
  have u0 : wr m8 12 0 30 0 12 0 0 = 0 := by rw [wr_j (by decide), hF8 12 0 0 (by simp) (by simp)]; exact t0
  have u1 : wr m8 12 0 30 0 12 0 1 = 0 := by rw [wr_j (by decide)]; exact s3
  have u36 : wr m8 12 0 30 0 12 0 36 = nI k := by rw [wr_j (by decide), hF8 12 0 36 (by simp) (by simp)]; exact o36
  generalize wr m8 12 0 30 0 = m9 at hF9' B9 u0 u1 u36 ⊢
  unfold r_X12_work_l72
  rw [tot_bd1]
  refine (wkM hW hL hby 150 0 0 m9 (by omega) (Nat.zero_le _) B9 (by omega)).mono ?_
  rintro m1 ⟨a1, a2, -, a4⟩
  have F1 : Fq P81 JWk m m1 := hF9'.tr (a4.mono (by simp))
  have v0 : m1 12 0 0 = 0 := by rw [a4 12 0 0 rfl (by simp)]; exact u0
  have v1 : m1 12 0 1 = 0 := by rw [a4 12 0 1 rfl (by simp)]; exact u1
  have v36 : m1 12 0 36 = nI k := by rw [a4 12 0 36 rfl (by simp)]; exact u36
  unfold r_X12_work_e101_h72 r_X12_work_j101
  cases hR9 : wkP b L (mW m) with
  | inl e =>
    have d := a2 e hR9
    unfold r_X12_ends
    have hF' : Fq P81 JWk m (wr m1 12 0 3 (m1 12 0 6)) := F1.wrJ (by simp) _ _
    rw [if_neg (by rw [d.1]; exact d.2.1), bd2_s rfl]
    refine tot_some.mpr ⟨fun p l e => (by cases e), fun e' he => ?_, ?_, ?_, hF'.pp p81_sr jwk_sr⟩
    · cases he
      refine ⟨by show m1 12 0 5 - 10 = _; rw [d.1], ?_, hF'⟩
      dsimp only
      rw [wr_eq, d.2.2.1]
    · dsimp only
      rw [wr_j (by decide)]
      exact v0
    · dsimp only
      rw [wr_j (by decide)]
      exact v1
  | inr pl =>
    obtain ⟨p, l⟩ := pl
    obtain ⟨b1, b2, b3, b4, b5⟩ := a1 p l hR9
    obtain ⟨-, hN, n, hV⟩ := wkP_end hW hL hby hR9
    rw [if_pos b2, v36, if_pos (inb_nI (by omega) (by omega)), clamp_nI (by omega), tot_bd1]
    refine (copies_tot (i0 := 0) (i1 := 2 + k) (by omega)).mono ?_
    rintro m2 ⟨c1, c2⟩
    have q : ∀ c, m2 12 0 c = wr m1 12 0 3 (-1) 12 0 c := fun c => by rw [c2 12 0 (by simp)]
    have r81 : ∀ j, m2 81 j = m1 81 j := fun j => by
      rw [c2 81 j (by simp)]
      funext c
      exact wr_k (by decide)
    have r60 : m2 60 0 = m 60 0 := by
      rw [c2 60 0 (by simp; omega)]
      have h1 : m1 60 0 = m 60 0 := F1.kd 60 0 rfl
      rw [← h1]
      funext c
      exact wr_k (by decide)
    have e30 : m2 12 0 30 = nI l.length := by
      rw [q, wr_j (by decide), b4, Nat.zero_add]
    have e36 : m2 12 0 36 = nI k := by
      rw [q, wr_j (by decide)]
      exact v36
    rw [e30, e36]
    have F2 : Fp (SR k) m m2 := ((F1.wrJ (show (12, 3) ∈ JWk by simp) 0 (-1)).pp p81_sr jwk_sr).tr (c2.p (fun q hq c => by
      rw [List.mem_singleton.mp hq]
      exact Or.inr (Or.inr (Or.inl ⟨rfl, Or.inr rfl⟩))))
    have F3 : Fp (SR k) m (wr (wr (wr (wr m2 12 0 36 (nI k + 1)) 12 0 43 0) 12 0 44 0) 12 0 37 0) := (((F2.w (by unfold SR; simp)).w (by unfold SR; simp)).w (by unfold SR; simp)).w (by unfold SR; simp)
    have hWe : mW (wr (wr (wr (wr m2 12 0 36 (nI k + 1)) 12 0 43 0) 12 0 44 0) 12 0 37 0) = mW m := mW_fp F3 (fun a b c ha h => by unfold SR at h; omega) (fun h => by unfold SR at h; omega)
    have P0 : PM (mW m) (m 60 0, 0, 0, 0) (wr (wr (wr (wr m2 12 0 36 (nI k + 1)) 12 0 43 0) 12 0 44 0) 12 0 37 0) := by
      refine ⟨?_, hR, by show 0 ≤ 200; omega, ?_, ?_, ?_, hWe⟩
      · rw [← r60]
        funext c
        rw [wr_k (by decide), wr_k (by decide), wr_k (by decide), wr_k (by decide)]
      · rw [wr_j (by decide), wr_j (by decide), wr_eq]
        rfl
      · rw [wr_j (by decide), wr_eq]
        rfl
      · rw [wr_eq]
        rfl
    have T0 : ∀ j, j < l.length → RR (wr (wr (wr (wr m2 12 0 36 (nI k + 1)) 12 0 43 0) 12 0 44 0) 12 0 37 0) j (tf l j) := fun j hj => by
      have h1 := b5 j hj
      rw [Nat.zero_add] at h1
      refine h1.c ?_
      rw [← r81 j]
      funext c
      rw [wr_k (by decide), wr_k (by decide), wr_k (by decide), wr_k (by decide)]
    have g0 : wr (wr (wr (wr m2 12 0 36 (nI k + 1)) 12 0 43 0) 12 0 44 0) 12 0 37 0 12 0 0 = 0 := by
      rw [wr_j (by decide), wr_j (by decide), wr_j (by decide), wr_j (by decide), q, wr_j (by decide)]
      exact v0
    have g1 : wr (wr (wr (wr m2 12 0 36 (nI k + 1)) 12 0 43 0) 12 0 44 0) 12 0 37 0 12 0 1 = 0 := by
      rw [wr_j (by decide), wr_j (by decide), wr_j (by decide), wr_j (by decide), q, wr_j (by decide)]
      exact v1
    have g3 : wr (wr (wr (wr m2 12 0 36 (nI k + 1)) 12 0 43 0) 12 0 44 0) 12 0 37 0 12 0 3 = -1 := by
      rw [wr_j (by decide), wr_j (by decide), wr_j (by decide), wr_j (by decide), q, wr_eq]
    have g36 : wr (wr (wr (wr m2 12 0 36 (nI k + 1)) 12 0 43 0) 12 0 44 0) 12 0 37 0 12 0 36 = nI (k + 1) := by
      rw [wr_j (by decide), wr_j (by decide), wr_j (by decide), wr_eq, nI_succ]
    have g60 : Er (wr (wr (wr (wr m2 12 0 36 (nI k + 1)) 12 0 43 0) 12 0 44 0) 12 0 37 0 60 (2 + k)) (m 60 0) := fun z hz => by
      rw [wr_k (by decide), wr_k (by decide), wr_k (by decide), wr_k (by decide), c1 z hz, wr_k (by decide)]
      exact congrFun (F1.kd 60 0 rfl) z
    generalize wr (wr (wr (wr m2 12 0 36 (nI k + 1)) 12 0 43 0) 12 0 44 0) 12 0 37 0 = m3 at F3 P0 T0 g0 g1 g3 g36 g60 ⊢
    unfold r_X12_goes_t
    rw [tot_bd1]
    refine Tot.mono (goes_m (T := tf l) (N := l.length) hW (by omega) 6 2 (by omega) n 0 l.length (m 60 0, 0, 0, 0) m3 hV (Nat.le_refl _) T0 P0) ?_
    rintro m5 ⟨x1, x2⟩
    refine tot_some.mpr ⟨fun p' l' e => ?_, fun e he => (by cases he), ?_, ?_, F3.tr (x2.pp (fun q hq c => by
      unfold SR
      simp only [List.mem_cons, List.not_mem_nil, or_false] at hq
      rcases hq with rfl | rfl | rfl | rfl | rfl <;> simp) (fun q hq c => by
      unfold SR
      simp only [List.mem_cons, List.not_mem_nil, or_false] at hq
      rcases hq with rfl | rfl | rfl | rfl <;> simp))⟩
    · cases e
      refine ⟨x1, rfl, ?_, ?_, ?_⟩
      · show m5 12 0 36 = _
        rw [x2 12 0 36 (by simp) (by simp)]
        exact g36
      · show m5 12 0 3 = -1
        rw [x2 12 0 3 (by simp) (by simp)]
        exact g3
      · show Er (m5 60 (2 + k)) _
        rw [x2.rw' 60 (2 + k) (fun q hq e => by
          simp only [List.mem_cons, List.not_mem_nil, or_false] at hq
          rcases hq with rfl | rfl | rfl | rfl | rfl <;> simp at e
          omega) (by decide)]
        exact g60
    · show m5 12 0 0 = 0
      rw [x2 12 0 0 (by simp) (by simp)]
      exact g0
    · show m5 12 0 1 = 0
      rw [x2 12 0 1 (by simp) (by simp)]
      exact g1
