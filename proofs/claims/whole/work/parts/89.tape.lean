/-! ===== the tape: what both readers read ===== -/
/-- the byte at p, none past the end -/
def bA (b : Nat → Int32) (L p : Nat) : Int32 := if p < L then b p else -1
theorem bA_in {b : Nat → Int32} {L p : Nat} (h : p < L) : bA b L p = b p := if_pos h
theorem bA_out {b : Nat → Int32} {L p : Nat} (h : ¬ p < L) : bA b L p = -1 := if_neg h
/-- the end of a run of such bytes -/
def rn (f : Int32 → Bool) (b : Nat → Int32) (L p : Nat) : Nat := p + fa_first (fun i => !(f (b (p + i)))) (L - p)
theorem rn_le {f : Int32 → Bool} {b : Nat → Int32} {L p : Nat} (h : p ≤ L) : rn f b L p ≤ L := by
  have := fa_first_le (fun i => !(f (b (p + i)))) (L - p)
  unfold rn
  omega
theorem rn_ge (f : Int32 → Bool) (b : Nat → Int32) (L p : Nat) : p ≤ rn f b L p := by
  unfold rn
  omega
theorem rn_in {f : Int32 → Bool} {b : Nat → Int32} {L p i : Nat} (h1 : p ≤ i) (h2 : i < rn f b L p) : f (b i) = true := by
  have h := fa_first_no (fun i => !(f (b (p + i)))) (L - p) (i - p) (by unfold rn at h2; omega)
  rw [show p + (i - p) = i by omega] at h
  cases hf : f (b i) with
  | true => rfl
  | false =>
    rw [hf] at h
    cases h
theorem rn_out {f : Int32 → Bool} {b : Nat → Int32} {L p : Nat} (h : rn f b L p < L) : f (b (rn f b L p)) = false := by
  have h2 := fa_first_yes (fun i => !(f (b (p + i)))) (L - p) (by unfold rn at h; omega)
  show f (b (p + fa_first (fun i => !(f (b (p + i)))) (L - p))) = false
  cases hf : f (b (p + fa_first (fun i => !(f (b (p + i)))) (L - p))) with
  | false => rfl
  | true =>
    rw [hf] at h2
    cases h2
theorem rn_at {f : Int32 → Bool} {b : Nat → Int32} {L p k : Nat} (h1 : p ≤ k) (h2 : k ≤ L) (hin : ∀ i, p ≤ i → i < k → f (b i) = true) (hout : k < L → f (b k) = false) : rn f b L p = k := by
  have g1 := rn_ge f b L p
  have g2 : rn f b L p ≤ L := rn_le (by omega)
  by_cases a : rn f b L p < k
  · have := rn_out (f := f) (b := b) (L := L) (p := p) (by omega)
    rw [hin _ g1 a] at this
    cases this
  · by_cases c : k < rn f b L p
    · have h3 := rn_in h1 c
      rw [hout (by omega)] at h3
      cases h3
    · omega
def isB (x : Int32) : Bool := decide (x = 32)
/-- past the blanks -/
abbrev sk (b : Nat → Int32) (L p : Nat) : Nat := rn isB b L p
theorem sk_sk {b : Nat → Int32} {L p : Nat} (h : p ≤ L) : sk b L (sk b L p) = sk b L p :=
  rn_at (Nat.le_refl _) (rn_le h) (fun i h1 h2 => by omega) (fun h2 => rn_out h2)
theorem rn_zero {f : Int32 → Bool} {b : Nat → Int32} {L s : Nat} (hs : s ≤ L) (h : f (bA b L s) = false) : rn f b L s = s :=
  rn_at (Nat.le_refl _) hs (fun i h1 h2 => by omega) (fun h2 => by rw [bA_in h2] at h; exact h)
theorem rn_pos {f : Int32 → Bool} {b : Nat → Int32} {L s : Nat} (h1 : s < L) (h : f (b s) = true) : s < rn f b L s := by
  have g := rn_ge f b L s
  by_cases e : rn f b L s = s
  · have := rn_out (f := f) (b := b) (L := L) (p := s) (by omega)
    rw [e, h] at this
    cases this
  · omega
/-- a number's worth -/
def nvI (b : Nat → Int32) (s : Nat) : Nat → Int32
  | 0 => 0
  | k + 1 => imin 100000 (((nvI b s k * 10) + b (s + k)) - 48)
noncomputable abbrev dgF : Int32 → Bool := r_X8_isDigit
noncomputable abbrev nmN (b : Nat → Int32) (L s : Nat) : Nat := rn dgF b L s
noncomputable def nmV (b : Nat → Int32) (L s : Nat) : Int32 := nvI b s (nmN b L s - s)
noncomputable def nmE (b : Nat → Int32) (L : Nat) (lo hi : Int32) (s : Nat) : Int32 := if dgF (bA b L s) = true then (if nmV b L s < lo then 2 else if nmV b L s ≤ hi then 0 else 2) else 1
/-- the class's tape stands at p -/
def TC (b : Nat → Int32) (L p : Nat) (m : Mem) : Prop := m 8 0 5 = nI L ∧ m 8 0 6 = nI p ∧ p ≤ L ∧ (L ≤ 600 ∧ m 8 0 3 = -1) ∧ ∀ k, k < L → m 37 0 k = b k
/-- the reference's tape stands at p -/
def TM (b : Nat → Int32) (L p : Nat) (m : Mem) : Prop := m 12 0 2 = nI L ∧ m 12 0 4 = nI p ∧ p ≤ L ∧ L ≤ 600 ∧ ∀ k, k < L → m 49 0 k = b k
theorem TC.mv {K J : List (Nat × Nat)} {b : Nat → Int32} {L p p' : Nat} {m m' : Mem} (h : TC b L p m) (hF : Fj K J m m') (hK : ∀ q ∈ K, ¬ q.1 = 8 ∧ ¬ q.1 = 37) (hJ : ∀ q ∈ J, ¬ q.1 = 37 ∧ ¬ q = (8, 5) ∧ ¬ q = (8, 3)) (h6 : m' 8 0 6 = nI p') (hp : p' ≤ L) : TC b L p' m' := by
  refine ⟨?_, h6, hp, ⟨h.2.2.2.1.1, ?_⟩, fun k hk => ?_⟩
  · rw [hF 8 0 5 (fun q => (hK _ q).1 rfl) (fun q => (hJ _ q).2.1 rfl)]
    exact h.1
  · rw [hF 8 0 3 (fun q => (hK _ q).1 rfl) (fun q => (hJ _ q).2.2 rfl)]
    exact h.2.2.2.1.2
  · rw [hF 37 0 k (fun q => (hK _ q).2 rfl) (fun q => (hJ _ q).1 rfl)]
    exact h.2.2.2.2 k hk
theorem TC.fj {K J : List (Nat × Nat)} {b : Nat → Int32} {L p : Nat} {m m' : Mem} (h : TC b L p m) (hF : Fj K J m m') (hK : ∀ q ∈ K, ¬ q.1 = 8 ∧ ¬ q.1 = 37) (hJ : ∀ q ∈ J, ¬ q.1 = 37 ∧ ¬ q = (8, 5) ∧ ¬ q = (8, 3) ∧ ¬ q = (8, 6)) : TC b L p m' :=
  h.mv hF hK (fun q hq => ⟨(hJ q hq).1, (hJ q hq).2.1, (hJ q hq).2.2.1⟩) (by rw [hF 8 0 6 (fun q => (hK _ q).1 rfl) (fun q => (hJ _ q).2.2.2 rfl)]; exact h.2.1) h.2.2.1
theorem TM.mv {K J : List (Nat × Nat)} {b : Nat → Int32} {L p p' : Nat} {m m' : Mem} (h : TM b L p m) (hF : Fj K J m m') (hK : ∀ q ∈ K, ¬ q.1 = 12 ∧ ¬ q.1 = 49) (hJ : ∀ q ∈ J, ¬ q.1 = 49 ∧ ¬ q = (12, 2)) (h6 : m' 12 0 4 = nI p') (hp : p' ≤ L) : TM b L p' m' := by
  refine ⟨?_, h6, hp, h.2.2.2.1, fun k hk => ?_⟩
  · rw [hF 12 0 2 (fun q => (hK _ q).1 rfl) (fun q => (hJ _ q).2 rfl)]
    exact h.1
  · rw [hF 49 0 k (fun q => (hK _ q).2 rfl) (fun q => (hJ _ q).1 rfl)]
    exact h.2.2.2.2 k hk
theorem TM.fj {K J : List (Nat × Nat)} {b : Nat → Int32} {L p : Nat} {m m' : Mem} (h : TM b L p m) (hF : Fj K J m m') (hK : ∀ q ∈ K, ¬ q.1 = 12 ∧ ¬ q.1 = 49) (hJ : ∀ q ∈ J, ¬ q.1 = 49 ∧ ¬ q = (12, 2) ∧ ¬ q = (12, 4)) : TM b L p m' :=
  h.mv hF hK (fun q hq => ⟨(hJ q hq).1, (hJ q hq).2.1⟩) (by rw [hF 12 0 4 (fun q => (hK _ q).1 rfl) (fun q => (hJ _ q).2.2 rfl)]; exact h.2.1) h.2.2.1
/-! ===== the class's ===== -/
theorem peek_c {b : Nat → Int32} {L p : Nat} {m : Mem} (h : TC b L p m) : Tot (r_X8_peek m) (fun q => q.1 = bA b L (sk b L p) ∧ TC b L (sk b L p) q.2 ∧ Fj [] [(8, 6)] m q.2) := by
  have hL := h.2.2.2.1.1
  have hp := h.2.2.1
  have hsL : sk b L p ≤ L := rn_le hp
  unfold r_X8_peek r_X8_peek_l0
  rw [tot_bd1]
  refine tot_for (fun k (t : Mem) => p ≤ k ∧ TC b L k t ∧ Fj [] [(8, 6)] m t) (sk b L p) ?_ ?_ p _ (rn_ge _ _ _ _) ⟨Nat.le_refl _, h, Fj.rf⟩
  · rintro k m1 hk ⟨e1, e2, hF⟩
    have h32 : b k = 32 := of_decide_eq_true (rn_in e1 hk)
    unfold r_X8_peek_b0
    rw [e2.1, e2.2.1, if_neg (nI_ge (by omega) (by omega)), if_pos (inb_nI (by omega) (by omega)), clamp_nI (by omega), e2.2.2.2.2 k (by omega), if_pos h32]
    have hF2 : Fj [] [(8, 6)] m1 (wr m1 8 0 6 (nI k + 1)) := Fj.rf.wrJ (by simp) _ _
    refine tot_some.mpr ⟨by omega, e2.mv hF2 (by simp) (by decide) (by rw [wr_eq, nI_succ]) (by omega), hF.tr hF2⟩
  · rintro m1 ⟨e1, e2, hF⟩
    unfold r_X8_peek_b0
    rw [e2.1, e2.2.1]
    by_cases hx : sk b L p < L
    · have h32 : ¬ b (sk b L p) = 32 := of_decide_eq_false (rn_out hx)
      rw [if_neg (nI_ge hx (by omega)), if_pos (inb_nI (by omega) (by omega)), clamp_nI (by omega), e2.2.2.2.2 _ hx, if_neg h32, tot_some]
      show Tot (r_X8_peek_j38 m1) _
      unfold r_X8_peek_j38
      rw [e2.1, e2.2.1, if_neg (nI_ge hx (by omega)), if_pos (inb_nI (by omega) (by omega)), clamp_nI (by omega), e2.2.2.2.2 _ hx]
      exact tot_some.mpr ⟨(bA_in hx).symm, e2, hF⟩
    · rw [if_pos (nI_le (by omega) (by omega)), tot_some]
      show Tot (r_X8_peek_j38 m1) _
      unfold r_X8_peek_j38
      rw [e2.1, e2.2.1, if_pos (nI_le (by omega) (by omega))]
      exact tot_some.mpr ⟨(bA_out hx).symm, e2, hF⟩
abbrev JTc : List (Nat × Nat) := [(8, 2), (8, 3), (8, 4), (8, 6)]
/-- a fault was told -/
def FtC (k : Int32) (e : Nat) (m : Mem) : Prop := m 8 0 4 = k ∧ m 8 0 3 = nI e
theorem wrong_c {m : Mem} {k : Int32} {e : Nat} : ∃ m', r_X8_wrong k (nI e) m = some (false, m') ∧ FtC k e m' ∧ Fj [] [(8, 3), (8, 4)] m m' :=
  ⟨_, rfl, ⟨by rw [wr_j (by decide), wr_eq], wr_eq _ _ _ _ _⟩, (Fj.rf.wrJ (by simp) _ _).wrJ (by simp) _ _⟩
theorem sign_c {b : Nat → Int32} {L p : Nat} {c : Int32} {m : Mem} (h : TC b L p m) (hc : ¬ c = -1) : Tot (r_X8_sign c m) (fun q => (bA b L (sk b L p) = c → q.1 = true ∧ sk b L p < L ∧ TC b L (sk b L p + 1) q.2) ∧ (¬ bA b L (sk b L p) = c → q.1 = false ∧ FtC 1 (sk b L p) q.2) ∧ Fj [] JTc m q.2) := by
  unfold r_X8_sign
  rw [tot_bd2]
  refine (peek_c h).mono ?_
  rintro ⟨z, m2⟩ ⟨h1, h2, h3⟩
  dsimp only at h1 h2 h3 ⊢
  have hF2 : Fj [] JTc m m2 := h3.mono (by simp) (by simp)
  rw [h1]
  by_cases hz : bA b L (sk b L p) = c
  · have hx : sk b L p < L := by
      by_cases hx : sk b L p < L
      · exact hx
      · rw [bA_out hx] at hz
        exact absurd hz.symm hc
    rw [if_pos hz]
    have hF3 : Fj [] [(8, 2), (8, 6)] m2 (wr (wr m2 8 0 2 (m2 8 0 6)) 8 0 6 (m2 8 0 6 + 1)) := (Fj.rf.wrJ (by simp) _ _).wrJ (by simp) _ _
    refine tot_some.mpr ⟨fun _ => ⟨rfl, hx, h2.mv hF3 (by simp) (by decide) ?_ (by omega)⟩, fun n => absurd hz n, hF2.tr (hF3.mono (by simp) (by simp))⟩
    dsimp only
    rw [wr_eq, h2.2.1, nI_succ]
  · rw [if_neg hz, h2.2.1]
    obtain ⟨m3, g1, g2, g3⟩ := wrong_c (m := m2) (k := 1) (e := sk b L p)
    rw [bd2_s g1]
    exact tot_some.mpr ⟨fun e => absurd e hz, fun _ => ⟨rfl, g2⟩, hF2.tr (g3.mono (by simp) (by simp))⟩
set_option maxHeartbeats 1000000 in
theorem number_c {b : Nat → Int32} {L p : Nat} {lo hi : Int32} {m : Mem} (h : TC b L p m) : Tot (r_X8_number lo hi m) (fun q => (nmE b L lo hi (sk b L p) = 0 → q.1 = nmV b L (sk b L p) ∧ TC b L (nmN b L (sk b L p)) q.2 ∧ q.2 8 0 2 = nI (sk b L p)) ∧ (¬ nmE b L lo hi (sk b L p) = 0 → q.1 = -1 ∧ FtC (nmE b L lo hi (sk b L p)) (sk b L p) q.2) ∧ Fj [] JTc m q.2) := by
  have hL := h.2.2.2.1.1
  unfold r_X8_number
  rw [tot_bd2]
  refine (peek_c h).mono ?_
  rintro ⟨z, m2⟩ ⟨h1, h2, h3⟩
  dsimp only at h1 h2 h3 ⊢
  have hF2 : Fj [] JTc m m2 := h3.mono (by simp) (by simp)
  rw [h1]
  generalize sk b L p = s at h2 ⊢
  have hs : s ≤ L := h2.2.2.1
  unfold nmE
  by_cases hd : dgF (bA b L s) = true
  · rw [if_pos hd, if_pos hd, h2.2.1]
    have hF3 : Fj [] [(8, 2), (8, 6)] m2 (wr m2 8 0 2 (nI s)) := Fj.rf.wrJ (by simp) _ _
    have t3 := h2.mv hF3 (by simp) (by decide) (by rw [wr_j (by decide)]; exact h2.2.1) hs
    have q3 : wr m2 8 0 2 (nI s) 8 0 2 = nI s := wr_eq _ _ _ _ _
    generalize wr m2 8 0 2 (nI s) = m3 at hF3 t3 q3 ⊢
    have hF3' : Fj [] JTc m m3 := hF2.tr (hF3.mono (by simp) (by simp))
    have hnL : nmN b L s ≤ L := rn_le hs
    unfold r_X8_number_l33
    rw [tot_bd1]
    refine tot_for (fun k (t : Int32 × Mem) => t.1 = nvI b s (k - s) ∧ s ≤ k ∧ TC b L k t.2 ∧ t.2 8 0 2 = nI s ∧ Fj [] JTc m t.2) (nmN b L s) ?_ ?_ s _ (rn_ge _ _ _ _) ⟨by rw [Nat.sub_self]; rfl, Nat.le_refl _, t3, q3, hF3'⟩
    · rintro k ⟨x3, m4⟩ hk ⟨e1, e2, e3, e4, hF⟩
      dsimp only at e1 e2 e3 e4 hF ⊢
      subst e1
      have hdk : dgF (b k) = true := rn_in e2 hk
      unfold r_X8_number_b33
      rw [e3.1, e3.2.1, if_neg (nI_ge (by omega) (by omega)), if_pos (inb_nI (by omega) (by omega)), clamp_nI (by omega), e3.2.2.2.2 k (by omega), if_pos hdk]
      have hF4 : Fj [] [(8, 2), (8, 6)] m4 (wr m4 8 0 6 (nI k + 1)) := Fj.rf.wrJ (by simp) _ _
      have t4 := e3.mv (p' := k + 1) hF4 (by simp) (by decide) (by rw [wr_eq, nI_succ]) (by omega)
      refine tot_some.mpr ⟨?_, by omega, t4, ?_, hF.tr (hF4.mono (by simp) (by simp))⟩
      · dsimp only
        rw [show k + 1 - s = (k - s) + 1 by omega]
        show _ = imin 100000 (((nvI b s (k - s) * 10) + b (s + (k - s))) - 48)
        rw [show s + (k - s) = k by omega]
      · dsimp only
        rw [wr_j (by decide)]
        exact e4
    · rintro ⟨x3, m4⟩ ⟨e1, e2, e3, e4, hF⟩
      dsimp only at e1 e2 e3 e4 hF ⊢
      have ex : Tot (r_X8_number_j96 lo hi x3 m4) (fun q => ((if nmV b L s < lo then (2 : Int32) else if nmV b L s ≤ hi then 0 else 2) = 0 → q.1 = nmV b L s ∧ TC b L (nmN b L s) q.2 ∧ q.2 8 0 2 = nI s) ∧ (¬ (if nmV b L s < lo then (2 : Int32) else if nmV b L s ≤ hi then 0 else 2) = 0 → q.1 = -1 ∧ FtC (if nmV b L s < lo then (2 : Int32) else if nmV b L s ≤ hi then 0 else 2) s q.2) ∧ Fj [] JTc m q.2) := by
        have ev : x3 = nmV b L s := e1
        obtain ⟨m5, g1, g2, g3⟩ := wrong_c (m := m4) (k := 2) (e := s)
        unfold r_X8_number_j96 r_X8_number_j106
        rw [ev, e4]
        by_cases c1 : nmV b L s < lo
        · rw [if_pos c1, if_pos c1, bd2_s g1]
          exact tot_some.mpr ⟨fun e => absurd e (by decide), fun _ => ⟨rfl, g2⟩, hF.tr (g3.mono (by simp) (by simp))⟩
        · rw [if_neg c1, if_neg c1]
          by_cases c2 : nmV b L s ≤ hi
          · rw [if_pos c2, if_pos c2]
            exact tot_some.mpr ⟨fun _ => ⟨rfl, e3, e4⟩, fun n => absurd rfl n, hF⟩
          · rw [if_neg c2, if_neg c2, bd2_s g1]
            exact tot_some.mpr ⟨fun e => absurd e (by decide), fun _ => ⟨rfl, g2⟩, hF.tr (g3.mono (by simp) (by simp))⟩
      unfold r_X8_number_b33
      rw [e3.1, e3.2.1]
      by_cases hx : nmN b L s < L
      · have hdk : dgF (b (nmN b L s)) = false := rn_out hx
        rw [if_neg (nI_ge hx (by omega)), if_pos (inb_nI (by omega) (by omega)), clamp_nI (by omega), e3.2.2.2.2 _ hx, if_neg (fun q => by have := hdk.symm.trans q; cases this), tot_some]
        exact ex
      · rw [if_pos (nI_le (by omega) (by omega)), tot_some]
        exact ex
  · rw [if_neg hd, if_neg hd, h2.2.1]
    obtain ⟨m3, g1, g2, g3⟩ := wrong_c (m := m2) (k := 1) (e := s)
    rw [bd2_s g1]
    exact tot_some.mpr ⟨fun e => absurd e (by decide), fun _ => ⟨rfl, g2⟩, hF2.tr (g3.mono (by simp) (by simp))⟩
/-! ===== the reference's ===== -/
abbrev JTm : List (Nat × Nat) := [(12, 4), (12, 5), (12, 6)]
/-- a fault was told -/
def FtM (b : Nat → Int32) (L : Nat) (k : Int32) (e : Nat) (m : Mem) : Prop := m 12 0 5 = k ∧ ¬ k = 0 ∧ m 12 0 6 = nI e ∧ ∃ p, TM b L p m
theorem byteAt_m {b : Nat → Int32} {L p i : Nat} {m : Mem} (h : TM b L p m) (hi : i ≤ 1000) : r_X12_byteAt (nI i) m = some (bA b L i) := by
  have hL := h.2.2.2.1
  unfold r_X12_byteAt
  rw [h.1]
  by_cases hx : i < L
  · rw [if_pos (nI_lt hx (by omega)), if_pos (inb_nI (by omega) (by omega)), clamp_nI (by omega), h.2.2.2.2 i hx, bA_in hx]
  · rw [if_neg (nI_nlt (by omega) (by omega)), bA_out hx]
theorem blanks_m {b : Nat → Int32} {L p : Nat} {m : Mem} (h : TM b L p m) : Tot (r_X12_blanks m) (fun m' => TM b L (sk b L p) m' ∧ Fj [] [(12, 4)] m m') := by
  have hL := h.2.2.2.1
  have hsL : sk b L p ≤ L := rn_le h.2.2.1
  unfold r_X12_blanks r_X12_blanks_l0
  rw [tot_bd1]
  refine tot_for (fun k (t : Mem) => p ≤ k ∧ TM b L k t ∧ Fj [] [(12, 4)] m t) (sk b L p) ?_ ?_ p _ (rn_ge _ _ _ _) ⟨Nat.le_refl _, h, Fj.rf⟩
  · rintro k m1 hk ⟨e1, e2, hF⟩
    have h32 : b k = 32 := of_decide_eq_true (rn_in e1 hk)
    unfold r_X12_blanks_b0
    rw [e2.2.1, bd1_s (byteAt_m e2 (by omega)), bA_in (by omega), if_pos h32]
    have hF2 : Fj [] [(12, 4)] m1 (wr m1 12 0 4 (nI k + 1)) := Fj.rf.wrJ (by simp) _ _
    exact tot_some.mpr ⟨by omega, e2.mv hF2 (by simp) (by decide) (by rw [wr_eq, nI_succ]) (by omega), hF.tr hF2⟩
  · rintro m1 ⟨e1, e2, hF⟩
    unfold r_X12_blanks_b0
    rw [e2.2.1, bd1_s (byteAt_m e2 (by omega))]
    have h32 : ¬ bA b L (sk b L p) = 32 := by
      by_cases hx : sk b L p < L
      · rw [bA_in hx]
        exact of_decide_eq_false (rn_out hx)
      · rw [bA_out hx]
        decide
    rw [if_neg h32, tot_some]
    exact tot_some.mpr ⟨e2, hF⟩
theorem FtM.bl {b : Nat → Int32} {L e : Nat} {k : Int32} {m : Mem} (h : FtM b L k e m) : Tot (r_X12_blanks m) (fun m' => FtM b L k e m' ∧ Fj [] [(12, 4)] m m') := by
  obtain ⟨h1, h2, h3, p, h4⟩ := h
  refine (blanks_m h4).mono ?_
  rintro m' ⟨g1, g2⟩
  exact ⟨⟨by rw [g2 12 0 5 (by simp) (by simp)]; exact h1, h2, by rw [g2 12 0 6 (by simp) (by simp)]; exact h3, _, g1⟩, g2⟩
theorem FtM.wrong {b : Nat → Int32} {L e : Nat} {k k2 x : Int32} {m : Mem} (h : FtM b L k e m) : r_X12_wrong k2 x m = some m := by
  unfold r_X12_wrong
  rw [if_neg (by rw [h.1]; exact h.2.1)]
theorem wrong_m {b : Nat → Int32} {L p e : Nat} {k : Int32} {m : Mem} (h : TM b L p m) (h5 : m 12 0 5 = 0) (hk : ¬ k = 0) : ∃ m', r_X12_wrong k (nI e) m = some m' ∧ FtM b L k e m' ∧ Fj [] [(12, 5), (12, 6)] m m' := by
  unfold r_X12_wrong
  rw [if_pos h5]
  have hF : Fj [] [(12, 5), (12, 6)] m (wr (wr m 12 0 5 k) 12 0 6 (nI e)) := (Fj.rf.wrJ (by simp) _ _).wrJ (by simp) _ _
  exact ⟨_, rfl, ⟨by rw [wr_j (by decide), wr_eq], hk, wr_eq _ _ _ _ _, p, h.fj hF (by simp) (by decide)⟩, hF⟩
theorem FtM.sign {b : Nat → Int32} {L e : Nat} {k c : Int32} {m : Mem} (h : FtM b L k e m) : r_X12_sign c m = some m := by
  unfold r_X12_sign
  rw [if_neg (by rw [h.1]; exact h.2.1)]
theorem FtM.number {b : Nat → Int32} {L e : Nat} {k lo hi : Int32} {m : Mem} (h : FtM b L k e m) : r_X12_number lo hi m = some (0, m) := by
  unfold r_X12_number
  rw [if_neg (by rw [h.1]; exact h.2.1)]
theorem sign_m {b : Nat → Int32} {L p : Nat} {c : Int32} {m : Mem} (h : TM b L p m) (h5 : m 12 0 5 = 0) (hc : ¬ c = -1) : Tot (r_X12_sign c m) (fun m' => (bA b L (sk b L p) = c → TM b L (sk b L p + 1) m' ∧ m' 12 0 5 = 0) ∧ (¬ bA b L (sk b L p) = c → FtM b L 1 (sk b L p) m') ∧ Fj [] JTm m m') := by
  have hL := h.2.2.2.1
  unfold r_X12_sign
  rw [if_pos h5, tot_bd1]
  refine (blanks_m h).mono ?_
  rintro m2 ⟨h2, h3⟩
  have hs : sk b L p ≤ L := h2.2.2.1
  have g5 : m2 12 0 5 = 0 := by rw [h3 12 0 5 (by simp) (by simp)]; exact h5
  have hF2 : Fj [] JTm m m2 := h3.mono (by simp) (by simp)
  rw [h2.2.1, bd1_s (byteAt_m h2 (by omega))]
  by_cases hz : bA b L (sk b L p) = c
  · have hx : sk b L p < L := by
      by_cases hx : sk b L p < L
      · exact hx
      · rw [bA_out hx] at hz
        exact absurd hz.symm hc
    rw [if_pos hz]
    have hF3 : Fj [] [(12, 4)] m2 (wr m2 12 0 4 (nI (sk b L p) + 1)) := Fj.rf.wrJ (by simp) _ _
    refine tot_some.mpr ⟨fun _ => ⟨h2.mv hF3 (by simp) (by decide) (by rw [wr_eq, nI_succ]) (by omega), ?_⟩, fun n => absurd hz n, hF2.tr (hF3.mono (by simp) (by simp))⟩
    rw [wr_j (by decide)]
    exact g5
  · rw [if_neg hz]
    obtain ⟨m3, w1, w2, w3⟩ := wrong_m (e := sk b L p) (k := 1) h2 g5 (by decide)
    rw [bd1_s w1]
    exact tot_some.mpr ⟨fun e => absurd e hz, fun _ => w2, hF2.tr (w3.mono (by simp) (by simp))⟩
theorem cap_eq (x v : Int32) : (if ((10 * x) + v) - 48 ≤ 100000 then ((10 * x) + v) - 48 else 100000) = imin 100000 (((x * 10) + v) - 48) := by
  rw [Int32.mul_comm 10 x]
  unfold imin
  generalize ((x * 10) + v) - 48 = y
  by_cases h : y ≤ 100000
  · rw [if_pos h]
    by_cases h2 : y < 100000
    · rw [if_pos h2]
    · rw [if_neg h2]
      rw [fa_le] at h
      rw [fa_lt] at h2
      rw [fa_eq]
      omega
  · rw [if_neg h, if_neg (fun q => h (fa_of_lt q).1)]
theorem dig_eq (x : Int32) : r_X12_isDigit x = dgF x := rfl
set_option maxHeartbeats 1000000 in
theorem digits_m {b : Nat → Int32} {L s : Nat} {lo hi x : Int32} {m : Mem} (h : TM b L s m) : Tot (loopO (fun t => r_X12_number_b44 lo hi x t.1 t.2) (0, m)) (fun q => q.1 = nmV b L s ∧ TM b L (nmN b L s) q.2 ∧ Fj [] [(12, 4)] m q.2) := by
  have hL := h.2.2.2.1
  have hs : s ≤ L := h.2.2.1
  have hnL : nmN b L s ≤ L := rn_le hs
  refine tot_for (fun k (t : Int32 × Mem) => t.1 = nvI b s (k - s) ∧ s ≤ k ∧ TM b L k t.2 ∧ Fj [] [(12, 4)] m t.2) (nmN b L s) ?_ ?_ s _ (rn_ge _ _ _ _) ⟨by rw [Nat.sub_self]; rfl, Nat.le_refl _, h, Fj.rf⟩
  · rintro k ⟨x4, m4⟩ hk ⟨e1, e2, e3, hF⟩
    dsimp only at e1 e2 e3 hF ⊢
    subst e1
    have hdk : dgF (b k) = true := rn_in e2 hk
    unfold r_X12_number_b44 r_X12_number_j91_c44
    rw [e3.2.1, bd1_s (byteAt_m e3 (by omega)), bA_in (by omega), dig_eq, if_pos hdk, bd1_s (byteAt_m e3 (by omega)), bA_in (by omega)]
    have hF4 : Fj [] [(12, 4)] m4 (wr m4 12 0 4 (nI k + 1)) := Fj.rf.wrJ (by simp) _ _
    have t4 := e3.mv (p' := k + 1) hF4 (by simp) (by decide) (by rw [wr_eq, nI_succ]) (by omega)
    have hv := cap_eq (nvI b s (k - s)) (b k)
    have hn : nvI b s (k + 1 - s) = imin 100000 (((nvI b s (k - s) * 10) + b k) - 48) := by
      rw [show k + 1 - s = (k - s) + 1 by omega]
      show imin 100000 (((nvI b s (k - s) * 10) + b (s + (k - s))) - 48) = _
      rw [show s + (k - s) = k by omega]
    by_cases c1 : ((10 * nvI b s (k - s)) + b k) - 48 ≤ 100000
    · rw [if_pos c1] at hv ⊢
      rw [hv]
      exact tot_some.mpr ⟨hn.symm, by omega, t4, hF.tr hF4⟩
    · rw [if_neg c1] at hv ⊢
      rw [hv]
      exact tot_some.mpr ⟨hn.symm, by omega, t4, hF.tr hF4⟩
  · rintro ⟨x4, m4⟩ ⟨e1, e2, e3, hF⟩
    dsimp only at e1 e2 e3 hF ⊢
    unfold r_X12_number_b44
    have hdk : ¬ dgF (bA b L (nmN b L s)) = true := by
      by_cases hx : nmN b L s < L
      · rw [bA_in hx, show dgF (b (nmN b L s)) = false from rn_out hx]
        decide
      · rw [bA_out hx]
        decide
    rw [e3.2.1, bd1_s (byteAt_m e3 (by omega)), dig_eq, if_neg hdk]
    exact tot_some.mpr ⟨e1, e3, hF⟩
set_option maxHeartbeats 1000000 in
theorem number_m {b : Nat → Int32} {L p : Nat} {lo hi : Int32} {m : Mem} (h : TM b L p m) (h5 : m 12 0 5 = 0) : Tot (r_X12_number lo hi m) (fun q => (nmE b L lo hi (sk b L p) = 0 → q.1 = nmV b L (sk b L p) ∧ TM b L (nmN b L (sk b L p)) q.2 ∧ q.2 12 0 5 = 0) ∧ (¬ nmE b L lo hi (sk b L p) = 0 → q.1 = 0 ∧ FtM b L (nmE b L lo hi (sk b L p)) (sk b L p) q.2) ∧ Fj [] JTm m q.2) := by
  have hL := h.2.2.2.1
  unfold r_X12_number
  rw [if_pos h5, tot_bd1]
  refine (blanks_m h).mono ?_
  rintro m2 ⟨h2, h3⟩
  have g5 : m2 12 0 5 = 0 := by rw [h3 12 0 5 (by simp) (by simp)]; exact h5
  have hF2 : Fj [] JTm m m2 := h3.mono (by simp) (by simp)
  generalize sk b L p = s at h2 ⊢
  have hs : s ≤ L := h2.2.2.1
  rw [h2.2.1, bd1_s (byteAt_m h2 (by omega)), dig_eq]
  unfold nmE
  by_cases hd : dgF (bA b L s) = true
  · rw [if_pos hd, if_pos hd]
    unfold r_X12_number_l44
    rw [tot_bd1]
    refine (digits_m h2).mono ?_
    rintro ⟨v, m3⟩ ⟨e1, e2, hF⟩
    dsimp only at e1 e2 hF ⊢
    have hF3 : Fj [] JTm m m3 := hF2.tr (hF.mono (by simp) (by simp))
    have f5 : m3 12 0 5 = 0 := by rw [hF 12 0 5 (by simp) (by simp)]; exact g5
    unfold r_X12_number_e106_h44 r_X12_number_j122
    rw [e1]
    obtain ⟨m4, w1, w2, w3⟩ := wrong_m (e := s) (k := 2) e2 f5 (by decide)
    by_cases c1 : nmV b L s < lo
    · rw [if_pos c1, if_neg (by rw [in_f (fun q => (fa_of_lt c1).2.1 q.1)]; decide), bd1_s w1, if_neg (by rw [w2.1]; decide)]
      exact tot_some.mpr ⟨fun e => absurd e (by decide), fun _ => ⟨rfl, w2⟩, hF3.tr (w3.mono (by simp) (by simp))⟩
    · rw [if_neg c1]
      by_cases c2 : nmV b L s ≤ hi
      · rw [if_pos c2, if_pos (in_t ⟨fa_of_nlt c1, c2⟩), if_pos f5]
        exact tot_some.mpr ⟨fun _ => ⟨rfl, e2, f5⟩, fun n => absurd rfl n, hF3⟩
      · rw [if_neg c2, if_neg (by rw [in_f (fun q => c2 q.2)]; decide), bd1_s w1, if_neg (by rw [w2.1]; decide)]
        exact tot_some.mpr ⟨fun e => absurd e (by decide), fun _ => ⟨rfl, w2⟩, hF3.tr (w3.mono (by simp) (by simp))⟩
  · rw [if_neg hd, if_neg hd]
    obtain ⟨m3, w1, w2, w3⟩ := wrong_m (e := s) (k := 1) h2 g5 (by decide)
    rw [bd1_s w1]
    have t3 : TM b L s m3 := h2.fj w3 (by simp) (by decide)
    unfold r_X12_number_l44
    rw [tot_bd1]
    refine (digits_m t3).mono ?_
    rintro ⟨v, m4⟩ ⟨e1, e2, hF⟩
    dsimp only at e1 e2 hF ⊢
    have w4 : FtM b L 1 s m4 := ⟨by rw [hF 12 0 5 (by simp) (by simp)]; exact w2.1, by decide, by rw [hF 12 0 6 (by simp) (by simp)]; exact w2.2.2.1, _, e2⟩
    have hF4 : Fj [] JTm m m4 := (hF2.tr (w3.mono (by simp) (by simp))).tr (hF.mono (by simp) (by simp))
    unfold r_X12_number_e106_h44 r_X12_number_j122
    rw [w4.wrong]
    by_cases c1 : r_X12_in v lo hi = true
    · rw [if_pos c1, if_neg (by rw [w4.1]; decide)]
      exact tot_some.mpr ⟨fun e => absurd e (by decide), fun _ => ⟨rfl, w4⟩, hF4⟩
    · rw [if_neg c1, bd1_s rfl, if_neg (by rw [w4.1]; decide)]
      exact tot_some.mpr ⟨fun e => absurd e (by decide), fun _ => ⟨rfl, w4⟩, hF4⟩
theorem nm_in {b : Nat → Int32} {L s : Nat} {lo hi : Int32} (h : nmE b L lo hi s = 0) : lo ≤ nmV b L s ∧ nmV b L s ≤ hi ∧ s < nmN b L s := by
  unfold nmE at h
  by_cases hd : dgF (bA b L s) = true
  · rw [if_pos hd] at h
    have hx : s < L := by
      by_cases hx : s < L
      · exact hx
      · rw [bA_out hx] at hd
        exact absurd hd (by decide)
    rw [bA_in hx] at hd
    by_cases c1 : nmV b L s < lo
    · rw [if_pos c1] at h
      exact absurd h (by decide)
    · rw [if_neg c1] at h
      by_cases c2 : nmV b L s ≤ hi
      · exact ⟨fa_of_nlt c1, c2, rn_pos hx hd⟩
      · rw [if_neg c2] at h
        exact absurd h (by decide)
  · rw [if_neg hd] at h
    exact absurd h (by decide)
theorem nm_k {b : Nat → Int32} {L s n : Nat} (hn : n ≤ 1000) (h : nmE b L 0 (nI n - 1) s = 0) : ∃ k, k < n ∧ nmV b L s = nI k := by
  obtain ⟨h1, h2, -⟩ := nm_in h
  exact in_of (by omega) ((below (by omega)).mp ⟨h1, h2⟩)
theorem nm_m1 {b : Nat → Int32} {L s : Nat} {lo hi : Int32} (h : nmE b L lo hi s = 0) (hl : 0 ≤ lo) : ¬ nmV b L s = -1 := by
  obtain ⟨h1, -, -⟩ := nm_in h
  intro e
  rw [e, fa_le] at h1
  rw [fa_le] at hl
  rw [show (-1 : Int32).toInt = -1 from rfl] at h1
  rw [show (0 : Int32).toInt = 0 from rfl] at hl
  omega
