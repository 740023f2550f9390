/-! ===== years ===== -/
def lcg (s : Int32) : Int32 := s * 1103515245 + 12345
def hv (s : Int32) : Nat := ((s >>> (16 &&& 31)) &&& 32767).toNatClampNeg
theorem b_32767 (i : Nat) : bt 32767 i = decide (i < 15) := by
  rcases Nat.lt_or_ge i 32 with h | h
  · exact (by decide +kernel : ∀ i, i < 32 → bt 32767 i = decide (i < 15)) i h
  · rw [b_big h, decide_eq_false (by omega)]
theorem hv_eq (s : Int32) : (s >>> (16 &&& 31)) &&& 32767 = nI (hv s) ∧ hv s < 32768 := by
  obtain ⟨n, -, h⟩ := wb_of32 (s >>> (16 &&& 31))
  have e : (s >>> (16 &&& 31)) &&& 32767 = nI (n % 32768) := by
    rw [h]
    exact fa_mask n 15
  have h2 : n % 32768 < 32768 := Nat.mod_lt _ (by decide)
  have e2 : hv s = n % 32768 := by
    unfold hv
    rw [e, clamp_nI (by omega)]
  rw [e2]
  exact ⟨e, h2⟩
theorem hv_u (s : Int32) : ((s.toUInt32 >>> ((16 : Int32).toUInt32 &&& Int32.toUInt32 31)).toInt32) &&& 32767 = nI (hv s) := by
  rw [← (hv_eq s).1]
  apply b_ext
  intro i hi
  rw [b_and, b_and, b_32767]
  by_cases h : i < 15
  · rw [show (16 : Int32) = nI 16 from rfl, b_ushr 16 (by decide), b_sshr 16 (by decide) _ hi, if_pos (by omega)]
  · rw [decide_eq_false h, Bool.and_false, Bool.and_false]
theorem rem_nI {a n : Nat} (ha : a < 2 ^ 31) (h0 : 0 < n) (hn : n < 2 ^ 31) : remI (nI a) (nI n) = nI (a % n) := pk_rem ha h0 hn
theorem drawn_eq {m : Mem} {n : Nat} (h0 : 0 < n) (hn : n ≤ 16) : r_X10_drawn (nI n) m = some (nI (hv (lcg (m 10 0 4)) % n), wr m 10 0 4 (lcg (m 10 0 4))) := by
  have h := (hv_eq (lcg (m 10 0 4))).2
  have e : remI ((((lcg (m 10 0 4)).toUInt32 >>> ((16 : Int32).toUInt32 &&& Int32.toUInt32 31)).toInt32) &&& 32767) (nI n) = nI (hv (lcg (m 10 0 4)) % n) := by
    rw [hv_u]
    exact rem_nI (by omega) h0 (by omega)
  unfold r_X10_drawn
  rw [if_pos (show (0 : Int32) < nI n from nI_lt (a := 0) (b := n) h0 (by omega)), if_neg (nI_ne0 h0 (by omega))]
  exact congrArg (fun z => some (z, wr m 10 0 4 (lcg (m 10 0 4)))) e
theorem drawm_eq {m : Mem} {n : Nat} (h0 : 0 < n) (hn : n ≤ 16) : r_X12_draw (nI n) m = some (nI (hv (lcg (m 12 0 50)) % n), wr m 12 0 50 (lcg (m 12 0 50))) := by
  have h := hv_eq (lcg (m 12 0 50))
  have e : remI (((lcg (m 12 0 50)) >>> (16 &&& 31)) &&& 32767) (nI n) = nI (hv (lcg (m 12 0 50)) % n) := by
    rw [h.1]
    exact rem_nI (by have := h.2; omega) h0 (by omega)
  unfold r_X12_draw
  rw [if_neg (nI_ne0 h0 (by omega))]
  exact congrArg (fun z => some (z, wr m 12 0 50 (lcg (m 12 0 50)))) e
def mov (w : Wd) (r : Rw) (p a : Nat) : Bool := decide (¬ btw w (wD w) (r (72 + p)) (nI a) = -1)
def wlk (r : Rw) (p a : Nat) : Rw := fun q => if q = 72 + p then nI a else r q
def fog (r : Rw) (p c : Nat) : Rw := fun q => if q = 12 * p + c then -1 else r q
def rw1 (w : Wd) (r : Rw) (p a : Nat) : Rw := if mov w r p a = true then wlk r p a else r
/-- a person stirs: the row, the seed, how many walks -/
def sti (w : Wd) (q : Nat) (x : Rw × Int32 × Int32) : Rw × Int32 × Int32 :=
  (if hv (lcg (lcg (lcg x.2.1))) % 16 < q then fog (rw1 w x.1 (hv (lcg x.2.1) % wN w) (hv (lcg (lcg x.2.1)) % wP w)) (hv (lcg x.2.1) % wN w) (rw1 w x.1 (hv (lcg x.2.1) % wN w) (hv (lcg (lcg x.2.1)) % wP w) (72 + hv (lcg x.2.1) % wN w)).toNatClampNeg else rw1 w x.1 (hv (lcg x.2.1) % wN w) (hv (lcg (lcg x.2.1)) % wP w), lcg (lcg (lcg x.2.1)), x.2.2 + (if mov w x.1 (hv (lcg x.2.1) % wN w) (hv (lcg (lcg x.2.1)) % wP w) = true then 1 else 0))
theorem wlk_RF {w : Wd} {r : Rw} (hW : WF w) (hR : RF w r) {p a : Nat} (hp : p < wN w) (ha : a < wP w) : RF w (wlk r p a) := by
  have hN := hW.2.2.1.2
  refine ⟨fun p9 hp9 => ?_, fun p9 c hp9 hc => ?_, fun d hd => ?_⟩
  · unfold wlk
    by_cases h : 72 + p9 = 72 + p
    · rw [if_pos h]
      exact ⟨a, ha, rfl⟩
    · rw [if_neg h]
      exact hR.1 p9 hp9
  · unfold wlk
    rw [if_neg (by omega)]
    exact hR.2.1 p9 c hp9 hc
  · unfold wlk
    rw [if_neg (by omega)]
    exact hR.2.2 d hd
theorem fog_RF {w : Wd} {r : Rw} (hW : WF w) (hR : RF w r) {p c : Nat} (hp : p < wN w) (hc : c < 12) : RF w (fog r p c) := by
  have hN := hW.2.2.1.2
  refine ⟨fun p9 hp9 => ?_, fun p9 d hp9 hd => ?_, fun d hd => ?_⟩
  · unfold fog
    rw [if_neg (by omega)]
    exact hR.1 p9 hp9
  · unfold fog
    by_cases h : 12 * p9 + d = 12 * p + c
    · rw [if_pos h]
      exact Or.inl rfl
    · rw [if_neg h]
      exact hR.2.1 p9 d hp9 hd
  · unfold fog
    rw [if_neg (by omega)]
    exact hR.2.2 d hd
theorem rw1_RF {w : Wd} {r : Rw} (hW : WF w) (hR : RF w r) {p a : Nat} (hp : p < wN w) (ha : a < wP w) : RF w (rw1 w r p a) := by
  unfold rw1
  by_cases h : mov w r p a = true
  · rw [if_pos h]
    exact wlk_RF hW hR hp ha
  · rw [if_neg h]
    exact hR
theorem sti_RF {w : Wd} {x : Rw × Int32 × Int32} {q : Nat} (hW : WF w) (hR : RF w x.1) (h0 : 0 < wN w) : RF w (sti w q x).1 := by
  have hP := hW.1.2
  have hp : hv (lcg x.2.1) % wN w < wN w := Nat.mod_lt _ h0
  have ha : hv (lcg (lcg x.2.1)) % wP w < wP w := Nat.mod_lt _ (hW.2.2.2.2.2.2.2.1 h0)
  have h1 := rw1_RF hW hR hp ha
  unfold sti
  dsimp only
  by_cases h : hv (lcg (lcg (lcg x.2.1))) % 16 < q
  · rw [if_pos h]
    obtain ⟨c, hc, e⟩ := h1.1 _ hp
    rw [e, clamp_nI (by omega)]
    exact fog_RF hW h1 hp (by omega)
  · rw [if_neg h]
    exact h1
theorem StC.u21 {w : Wd} {r : Rw} {m : Mem} {i p : Nat} {v : Int32} (hW : WF w) (hp : p < wN w) (hS : StC w r m i) : StC w (fun q => if q = 72 + p then v else r q) (wr m 21 i p v) i := by
  have hN := hW.2.2.1.2
  refine ⟨?_, ?_, fun p9 hp9 => ⟨?_, ?_⟩, fun p9 c hp9 hc => ?_, fun e9 he9 => ⟨?_, ?_⟩⟩
  · rw [wr_k (by decide), hS.1]
    exact (if_neg (by omega)).symm
  · rw [wr_k (by decide), hS.2.1]
  · rw [wr_k (by decide), (hS.2.2.1 p9 hp9).1]
  · rw [wr_if]
    by_cases h : p9 = p
    · rw [if_pos h]
      exact (if_pos (by rw [h])).symm
    · rw [if_neg h, (hS.2.2.1 p9 hp9).2]
      exact (if_neg (by omega)).symm
  · rw [wr_k (by decide), hS.2.2.2.1 p9 c hp9 hc]
    exact (if_neg (by omega)).symm
  · rw [wr_k (by decide), (hS.2.2.2.2 e9 he9).1]
    exact (if_neg (by omega)).symm
  · rw [wr_k (by decide), (hS.2.2.2.2 e9 he9).2]
    exact (if_neg (by omega)).symm
theorem StC.u22 {w : Wd} {r : Rw} {m : Mem} {i p c : Nat} {v : Int32} (hW : WF w) (hp : p < wN w) (hc : c < 12) (hS : StC w r m i) : StC w (fun q => if q = 12 * p + c then v else r q) (wr m 22 i (12 * p + c) v) i := by
  have hN := hW.2.2.1.2
  refine ⟨?_, ?_, fun p9 hp9 => ⟨?_, ?_⟩, fun p9 d hp9 hd => ?_, fun e9 he9 => ⟨?_, ?_⟩⟩
  · rw [wr_k (by decide), hS.1]
    exact (if_neg (by omega)).symm
  · rw [wr_k (by decide), hS.2.1]
  · rw [wr_k (by decide), (hS.2.2.1 p9 hp9).1]
  · rw [wr_k (by decide), (hS.2.2.1 p9 hp9).2]
    exact (if_neg (by omega)).symm
  · rw [wr_if]
    by_cases h : 12 * p9 + d = 12 * p + c
    · rw [if_pos h]
      exact (if_pos h).symm
    · rw [if_neg h, hS.2.2.2.1 p9 d hp9 hd]
      exact (if_neg h).symm
  · rw [wr_k (by decide), (hS.2.2.2.2 e9 he9).1]
    exact (if_neg (by omega)).symm
  · rw [wr_k (by decide), (hS.2.2.2.2 e9 he9).2]
    exact (if_neg (by omega)).symm
theorem forget_eq {m : Mem} {i p a : Nat} (hp : p < 8) (ha : a < 12) : r_X7_forget i (nI p) (nI a) m = some (decide (¬ m 22 i (12 * p + a) = -1), wr m 22 i (12 * p + a) (-1)) := by
  unfold r_X7_forget r_X7_forget_j22
  rw [ix12]
  simp only [if_pos (inb_nI (show 12 * p + a < 96 by omega) (by omega)), clamp_nI (show 12 * p + a ≤ 1000000 by omega)]
  by_cases h : m 22 i (12 * p + a) = -1
  · rw [if_pos h, if_pos (by decide), decide_eq_false (p := ¬ m 22 i (12 * p + a) = -1) (fun q => q h)]
    rfl
  · rw [if_neg h, if_pos (by decide), decide_eq_true h]
    rfl
theorem forgets_eq {m : Mem} {i p a : Nat} (hp : p < 6) (ha : a < 12) : r_X12_forgets i (nI p) (nI a) m = some (decide (¬ m 60 i (12 * p + a) = -1), wr m 60 i (12 * p + a) (-1)) := by
  unfold r_X12_forgets r_X12_forgets_j19
  rw [ix12']
  simp only [if_pos (inb_nI (show 12 * p + a < 111 by omega) (by omega)), clamp_nI (show 12 * p + a ≤ 1000000 by omega)]
  by_cases h : m 60 i (12 * p + a) = -1
  · rw [if_pos h, if_pos (by decide), decide_eq_false (p := ¬ m 60 i (12 * p + a) = -1) (fun q => q h)]
    rfl
  · rw [if_neg h, if_pos (by decide), decide_eq_true h]
    rfl
theorem walk_c {w : Wd} {r : Rw} {m : Mem} {i p a : Nat} (hW : WF w) (hR : RF w r) (hL : CL w m) (hS : StC w r m i) (hp : p < wN w) (ha : a < wP w) : r_X6_walk i (nI p) (nI a) m = some (mov w r p a, if mov w r p a = true then wr m 21 i p (nI a) else m) := by
  have hP := hW.1.2
  have hN := hW.2.2.1.2
  obtain ⟨c, hc, e⟩ := hR.1 p hp
  unfold r_X6_walk r_X3_between
  rw [if_pos (inb_nI (by omega) (by omega)), clamp_nI (by omega), (hS.2.2.1 p hp).2, e, ix12, if_pos (inb_nI (by omega) (by omega)), clamp_nI (by omega), hL.2.2.2.2.2.2.1 c a (by omega) ha, bd1_s rfl]
  unfold mov
  rw [e]
  by_cases h : bw w c a = -1
  · rw [if_pos h, decide_eq_false (p := ¬ btw w (wD w) (nI c) (nI a) = -1) (fun q => q h)]
    rfl
  · rw [if_neg h, decide_eq_true (p := ¬ btw w (wD w) (nI c) (nI a) = -1) h]
    rfl
theorem walk_m {m : Mem} {i p a : Nat} (hW : WF (mW m)) (hp : p < 6) : r_X12_walks i (nI p) (nI a) m = some (mov (mW m) (m 60 i) p a, if mov (mW m) (m 60 i) p a = true then wr m 60 i (72 + p) (nI a) else m) := by
  unfold r_X12_walks
  rw [show 72 + nI p = nI (72 + p) from nI_add 72 p, if_pos (inb_nI (by omega) (by omega)), clamp_nI (by omega), bd1_s (btw_eq (D := wD (mW m)) hW.2.1.1 hW.2.1.2)]
  unfold mov
  by_cases h : btw (mW m) (wD (mW m)) (m 60 i (72 + p)) (nI a) = -1
  · rw [if_pos h, decide_eq_false (p := ¬ btw (mW m) (wD (mW m)) (m 60 i (72 + p)) (nI a) = -1) (fun q => q h)]
    rfl
  · rw [if_neg h, decide_eq_true (p := ¬ btw (mW m) (wD (mW m)) (m 60 i (72 + p)) (nI a) = -1) h]
    rfl
set_option maxHeartbeats 1000000 in
theorem stir_c {w : Wd} {r : Rw} {m : Mem} {q : Nat} (hW : WF w) (hR : RF w r) (hL : CL w m) (hS : StC w r m 2) (h0 : 0 < wN w) (hq : q ≤ 16) : Tot (r_X10_stir (nI q) m) (fun m' => StC w (sti w q (r, m 10 0 4, m 10 0 1)).1 m' 2 ∧ m' 10 0 4 = (sti w q (r, m 10 0 4, m 10 0 1)).2.1 ∧ m' 10 0 1 = (sti w q (r, m 10 0 4, m 10 0 1)).2.2 ∧ Fj [(21, 2), (22, 2)] [(10, 1), (10, 4)] m m') := by
  have hP := hW.1.2
  have hN := hW.2.2.1
  have hP0 := hW.2.2.2.2.2.2.2.1 h0
  generalize hs : m 10 0 4 = s
  generalize hk : m 10 0 1 = k
  have hp : hv (lcg s) % wN w < wN w := Nat.mod_lt _ h0
  have ha : hv (lcg (lcg s)) % wP w < wP w := Nat.mod_lt _ hP0
  have e30 : wr m 10 0 4 (lcg s) 3 0 0 = nI (wP w) := by rw [wr_k (by decide), hL.1, hW.1.1]
  unfold sti r_X10_stir
  dsimp only
  rw [hL.2.2.1, hN.1, bd2_s (drawn_eq h0 (by omega)), hs, e30, bd2_s (drawn_eq hP0 (by omega)), wr_eq]
  generalize hv (lcg s) % wN w = p at hp ⊢
  generalize hv (lcg (lcg s)) % wP w = a at ha ⊢
  have hF5 : Fj [] [(10, 4)] m (wr (wr m 10 0 4 (lcg s)) 10 0 4 (lcg (lcg s))) := (Fj.rf.wrJ (by decide) _ _).wrJ (by decide) _ _
  have hS5 := hS.fj hF5 (by simp) (by decide)
  rw [bd2_s (walk_c hW hR (hL.fj hF5 (by simp) (by decide)) hS5 hp (by omega))]
  have fin : ∀ (m8 : Mem) (r1 : Rw), StC w r1 m8 2 → RF w r1 → m8 10 0 4 = lcg (lcg s) → Fj [(21, 2), (22, 2)] [(10, 1), (10, 4)] m m8 → Tot (r_X10_stir_j50 (nI q) (nI p) m8) (fun m' => StC w (if hv (lcg (lcg (lcg s))) % 16 < q then fog r1 p (r1 (72 + p)).toNatClampNeg else r1) m' 2 ∧ m' 10 0 4 = lcg (lcg (lcg s)) ∧ m' 10 0 1 = m8 10 0 1 ∧ Fj [(21, 2), (22, 2)] [(10, 1), (10, 4)] m m') := by
    intro m8 r1 g1 g2 g3 g4
    obtain ⟨c, hc, e⟩ := g2.1 p hp
    unfold r_X10_stir_j50
    rw [bd2_s (show r_X10_drawn 16 m8 = _ from drawn_eq (n := 16) (by decide) (by decide)), g3]
    have hF8 : Fj [] [(10, 4)] m8 (wr m8 10 0 4 (lcg (lcg (lcg s)))) := Fj.rf.wrJ (by decide) _ _
    have hS8 := g1.fj hF8 (by simp) (by decide)
    have hF9 : Fj [(21, 2), (22, 2)] [(10, 1), (10, 4)] m (wr m8 10 0 4 (lcg (lcg (lcg s)))) := g4.wrJ (by simp) _ _
    by_cases hd : hv (lcg (lcg (lcg s))) % 16 < q
    · rw [if_pos hd, if_neg (nI_ge hd (by omega)), if_pos (inb_nI (by omega) (by omega)), clamp_nI (by omega), (hS8.2.2.1 p hp).2, e, bd2_s (forget_eq (by omega) (by omega)), clamp_nI (by omega)]
      refine tot_some.mpr ⟨hS8.u22 hW hp (by omega), ?_, ?_, hF9.wrK (by simp) _ _⟩
      · rw [wr_k (by decide), wr_eq]
      · rw [wr_k (by decide), wr_j (by decide)]
    · rw [if_neg hd, if_pos (nI_le (by omega) (by omega))]
      exact tot_some.mpr ⟨hS8, wr_eq _ _ _ _ _, wr_j (by decide), hF9⟩
  have hF5' : Fj [(21, 2), (22, 2)] [(10, 1), (10, 4)] m (wr (wr m 10 0 4 (lcg s)) 10 0 4 (lcg (lcg s))) := hF5.mono (by simp) (by simp)
  unfold rw1
  by_cases hmv : mov w r p a = true
  · simp only [hmv, if_true]
    refine (fin _ (wlk r p a) ((hS5.u21 hW hp).fj (K := []) (J := [(10, 1)]) (Fj.rf.wrJ (by decide) _ _) (by simp) (by decide)) (wlk_RF hW hR hp ha) ?_ ((hF5'.wrK (by simp) _ _).wrJ (by simp) _ _)).mono ?_
    · rw [wr_j (by decide), wr_k (by decide), wr_eq]
    · rintro m' ⟨q1, q2, q3, q4⟩
      refine ⟨q1, q2, ?_, q4⟩
      rw [q3, wr_eq, wr_k (by decide), wr_j (by decide), wr_j (by decide), hk]
  · simp only [hmv, if_false, Bool.false_eq_true]
    refine (fin _ r hS5 hR (wr_eq _ _ _ _ _) hF5').mono ?_
    rintro m' ⟨q1, q2, q3, q4⟩
    refine ⟨q1, q2, ?_, q4⟩
    rw [q3, wr_j (by decide), wr_j (by decide), hk, add0]
set_option maxHeartbeats 1000000 in
theorem stir_m {m : Mem} {r : Rw} {q : Nat} {x2 x4 : Int32} {Q : (Int32 × Mem) ⊕ Mem → Prop} (hW : WF (mW m)) (hR : RF (mW m) r) (hE : Er (m 60 1) r) (h0 : 0 < wN (mW m)) (hq : q ≤ 16) (hQ : ∀ m', Er (m' 60 1) (sti (mW m) q (r, m 12 0 50, m 12 0 51)).1 → m' 12 0 50 = (sti (mW m) q (r, m 12 0 50, m 12 0 51)).2.1 → m' 12 0 51 = (sti (mW m) q (r, m 12 0 50, m 12 0 51)).2.2 → Fj [(60, 1)] [(12, 50), (12, 51)] m m' → Tot (r_X12_yearBy_j118_c24 x2 (nI q) x4 m') Q) :
    Tot (bd2 (r_X12_draw (m 52 0 2) m) fun z9 m8 => (bd2 (r_X12_draw (m8 52 0 0) m8) fun z12 m11 => (bd2 (r_X12_walks 1 z9 z12 m11) fun z15 m14 => (if z15 = true then (r_X12_yearBy_j84_c24 x2 (nI q) x4 z9 1 (m8 12 0 51) m14) else (r_X12_yearBy_j84_c24 x2 (nI q) x4 z9 0 (m8 12 0 51) m14))))) Q := by
  have hP := hW.1
  have hN := hW.2.2.1
  have hP0 := hW.2.2.2.2.2.2.2.1 h0
  generalize hs : m 12 0 50 = s at hQ
  generalize hk : m 12 0 51 = k at hQ
  have hp : hv (lcg s) % wN (mW m) < wN (mW m) := Nat.mod_lt _ h0
  have ha : hv (lcg (lcg s)) % wP (mW m) < wP (mW m) := Nat.mod_lt _ hP0
  have e52 : wr m 12 0 50 (lcg s) 52 0 0 = nI (wP (mW m)) := by rw [wr_k (by decide)]; exact hP.1
  unfold sti at hQ
  dsimp only at hQ
  rw [show m 52 0 2 = nI (wN (mW m)) from hN.1, bd2_s (drawm_eq h0 (by omega)), hs, e52, bd2_s (drawm_eq hP0 (by omega)), wr_eq]
  generalize hv (lcg s) % wN (mW m) = p at hp hQ ⊢
  generalize hv (lcg (lcg s)) % wP (mW m) = a at ha hQ ⊢
  have hF5 : Fj [] [(12, 50)] m (wr (wr m 12 0 50 (lcg s)) 12 0 50 (lcg (lcg s))) := (Fj.rf.wrJ (by decide) _ _).wrJ (by decide) _ _
  have fW5 : mW (wr (wr m 12 0 50 (lcg s)) 12 0 50 (lcg (lcg s))) = mW m := mW_fj hF5 (by simp) (by decide)
  have f60 : wr (wr m 12 0 50 (lcg s)) 12 0 50 (lcg (lcg s)) 60 1 = m 60 1 := hF5.rw' 60 1 (by simp) (by decide)
  rw [bd2_s (walk_m (by rw [fW5]; exact hW) (by omega)), fW5, f60]
  have hmm : mov (mW m) (m 60 1) p a = mov (mW m) r p a := by
    unfold mov
    rw [hE (72 + p) (by omega)]
  rw [hmm, show wr m 12 0 50 (lcg s) 12 0 51 = k by rw [wr_j (by decide), hk]]
  have fin : ∀ (m8 : Mem) (r1 : Rw) (k9 : Int32), Er (m8 60 1) r1 → RF (mW m) r1 → m8 12 0 50 = lcg (lcg s) → Fj [(60, 1)] [(12, 50), (12, 51)] m m8 → (∀ m', Er (m' 60 1) (if hv (lcg (lcg (lcg s))) % 16 < q then fog r1 p (r1 (72 + p)).toNatClampNeg else r1) → m' 12 0 50 = lcg (lcg (lcg s)) → m' 12 0 51 = k + k9 → Fj [(60, 1)] [(12, 50), (12, 51)] m m' → Tot (r_X12_yearBy_j118_c24 x2 (nI q) x4 m') Q) → Tot (r_X12_yearBy_j84_c24 x2 (nI q) x4 (nI p) k9 k m8) Q := by
    intro m8 r1 k9 g1 g2 g3 g4 g5
    obtain ⟨c, hc, e⟩ := g2.1 p hp
    have hF9 : Fj [(60, 1)] [(12, 50), (12, 51)] m (wr (wr m8 12 0 51 (k + k9)) 12 0 50 (lcg (lcg (lcg s)))) := (g4.wrJ (by simp) _ _).wrJ (by simp) _ _
    have h60 : wr (wr m8 12 0 51 (k + k9)) 12 0 50 (lcg (lcg (lcg s))) 60 1 = m8 60 1 := by
      funext z
      rw [wr_k (by decide), wr_k (by decide)]
    unfold r_X12_yearBy_j84_c24
    rw [bd2_s (show r_X12_draw 16 (wr m8 12 0 51 (k + k9)) = _ from drawm_eq (n := 16) (by decide) (by decide)), wr_j (by decide), g3]
    by_cases hd : hv (lcg (lcg (lcg s))) % 16 < q
    · rw [if_pos hd] at g5
      rw [if_neg (nI_ge hd (by omega)), show 72 + nI p = nI (72 + p) from nI_add 72 p, if_pos (inb_nI (by omega) (by omega)), clamp_nI (by omega), h60, g1 (72 + p) (by omega), e, bd2_s (forgets_eq (by omega) (by omega))]
      rw [e, clamp_nI (by omega)] at g5
      refine g5 _ (fun z hz => ?_) ?_ ?_ (hF9.wrK (by simp) _ _)
      · rw [wr_if, h60]
        unfold fog
        by_cases h9 : z = 12 * p + c
        · rw [if_pos h9, if_pos h9]
        · rw [if_neg h9, if_neg h9, g1 z hz]
      · rw [wr_k (by decide), wr_eq]
      · rw [wr_k (by decide), wr_j (by decide), wr_eq]
    · rw [if_neg hd] at g5
      rw [if_pos (nI_le (by omega) (by omega))]
      exact g5 _ (by rw [h60]; exact g1) (wr_eq _ _ _ _ _) (by rw [wr_j (by decide), wr_eq]) hF9
  have hF5' : Fj [(60, 1)] [(12, 50), (12, 51)] m (wr (wr m 12 0 50 (lcg s)) 12 0 50 (lcg (lcg s))) := hF5.mono (by simp) (by simp)
  unfold rw1 at hQ
  by_cases hmv : mov (mW m) r p a = true
  · simp only [hmv, if_true] at hQ ⊢
    refine fin _ (wlk r p a) 1 (fun z hz => ?_) (wlk_RF hW hR hp ha) ?_ (hF5'.wrK (by simp) _ _) hQ
    · rw [wr_if, f60]
      unfold wlk
      by_cases h9 : z = 72 + p
      · rw [if_pos h9, if_pos h9]
      · rw [if_neg h9, if_neg h9, hE z hz]
    · rw [wr_k (by decide), wr_eq]
  · simp only [hmv, if_false, Bool.false_eq_true] at hQ ⊢
    exact fin _ r 0 (by rw [f60]; exact hE) hR (wr_eq _ _ _ _ _) hF5' hQ
/-- days of a year: the row, the seed, the walks -/
def yst (w : Wd) (q : Nat) (x : Rw × Int32 × Int32) : Rw × Int32 × Int32 := if wN w = 0 then x else sti w q x
def yrs (w : Wd) (q : Nat) (x : Rw × Int32 × Int32) : Nat → Rw × Int32 × Int32
  | 0 => x
  | k + 1 => (dayR w (yst w q (yrs w q x k)).1, (yst w q (yrs w q x k)).2)
theorem yst_RF {w : Wd} {x : Rw × Int32 × Int32} {q : Nat} (hW : WF w) (hR : RF w x.1) : RF w (yst w q x).1 := by
  unfold yst
  by_cases h : wN w = 0
  · rw [if_pos h]
    exact hR
  · rw [if_neg h]
    exact sti_RF hW hR (by omega)
theorem yrs_RF {w : Wd} {x : Rw × Int32 × Int32} {q : Nat} (hW : WF w) (hR : RF w x.1) : ∀ k, RF w (yrs w q x k).1
  | 0 => hR
  | k + 1 => dayR_RF hW (yst_RF hW (yrs_RF hW hR k))
abbrev KY : List (Nat × Nat) := [(33, 0), (35, 0), (38, 0), (7, 2), (20, 2), (21, 2), (22, 2), (23, 2), (24, 2)]
abbrev JY : List (Nat × Nat) := [(6, 3), (6, 4), (10, 1), (10, 4)]
set_option maxHeartbeats 1000000 in
theorem live_c {w : Wd} {r : Rw} {m : Mem} {n q : Nat} {sd : Int32} (hW : WF w) (hR : RF w r) (hL : CL w m) (hC : CW w m) (hS : StC w r m 0) (hn : n ≤ 96) (hq : q ≤ 16) : Tot (r_X10_live 0 sd (nI n) (nI q) m) (fun m' => StC w (yrs w q (r, sd, 0) n).1 m' 2 ∧ Trc w (yrs w q (r, sd, 0) n).1 m' ∧ m' 10 0 1 = (yrs w q (r, sd, 0) n).2.2 ∧ Fj KY JY m m') := by
  have hN := hW.2.2.1
  unfold r_X10_live
  rw [tot_bd1]
  refine (copyFrom_tot (i0 := 2) (i1 := 0) (by decide)).mono ?_
  rintro m1 ⟨c1, -, -, -, -, -, c2⟩
  have hF1 : Fj KY JY m m1 := (c2.mono (by simp)).j
  have hS1 : StC w r (wr (wr m1 10 0 4 sd) 10 0 1 0) 2 := (c1 _ _ hW hS).fj (K := []) (J := [(10, 4), (10, 1)]) ((Fj.rf.wrJ (by decide) _ _).wrJ (by decide) _ _) (by simp) (by decide)
  unfold r_X10_live_l21
  rw [tot_bd1]
  refine tot_for (fun k (t : Int32 × Mem) => t.1 = nI k ∧ StC w (yrs w q (r, sd, 0) k).1 t.2 2 ∧ t.2 10 0 4 = (yrs w q (r, sd, 0) k).2.1 ∧ t.2 10 0 1 = (yrs w q (r, sd, 0) k).2.2 ∧ Fj KY JY m t.2) n ?_ ?_ 0 _ (Nat.zero_le _) ⟨rfl, hS1, (show wr (wr m1 10 0 4 sd) 10 0 1 0 10 0 4 = sd from (wr_j (by decide)).trans (wr_eq _ _ _ _ _)), (show wr (wr m1 10 0 4 sd) 10 0 1 0 10 0 1 = 0 from wr_eq _ _ _ _ _), (hF1.wrJ (by simp) _ _).wrJ (by simp) _ _⟩
  · rintro k ⟨x5, m2⟩ hk ⟨e1, hS2, e2, e3, hF2⟩
    dsimp only at e1 hS2 e2 e3 hF2 ⊢
    subst e1
    have hL2 : CL w m2 := hL.fj hF2 (by decide) (by decide)
    have hR2 := yrs_RF (q := q) (x := (r, sd, 0)) hW hR k
    have day : ∀ m3 : Mem, StC w (yst w q (yrs w q (r, sd, 0) k)).1 m3 2 → m3 10 0 4 = (yst w q (yrs w q (r, sd, 0) k)).2.1 → m3 10 0 1 = (yst w q (yrs w q (r, sd, 0) k)).2.2 → Fj KY JY m m3 → Tot (r_X10_live_j43_c21 (nI n) (nI q) (nI k) m3) (Sum.elim (fun t : Int32 × Mem => t.1 = nI (k + 1) ∧ StC w (yrs w q (r, sd, 0) (k + 1)).1 t.2 2 ∧ t.2 10 0 4 = (yrs w q (r, sd, 0) (k + 1)).2.1 ∧ t.2 10 0 1 = (yrs w q (r, sd, 0) (k + 1)).2.2 ∧ Fj KY JY m t.2) (fun x => Tot (r_X10_live_e71_h21 x) (fun m' => StC w (yrs w q (r, sd, 0) n).1 m' 2 ∧ Trc w (yrs w q (r, sd, 0) n).1 m' ∧ m' 10 0 1 = (yrs w q (r, sd, 0) n).2.2 ∧ Fj KY JY m m'))) := by
      intro m3 g1 g2 g3 g4
      have hL3 : CL w m3 := hL.fj g4 (by decide) (by decide)
      have hC3 : CW w m3 := hC.fj g4 (by decide) (by decide)
      unfold r_X10_live_j43_c21
      rw [tot_bd1]
      refine (trace_tot hW hL3 hC3 g1).mono ?_
      rintro m4 ⟨t1, t2, t3, t4⟩
      rw [tot_bd1]
      refine (flowOneDay_tot hW (hL3.fj t4 (by decide) (by decide)) (g1.fj t4 (by decide) (by decide)) t1 t3).mono ?_
      rintro m5 ⟨d1, d2⟩
      refine tot_some.mpr ⟨(nI_succ k).symm, d1, ?_, ?_, (g4.tr (t4.mono (by simp) (by simp))).tr ((d2.mono (by simp)).j)⟩
      · show m5 10 0 4 = (yst w q (yrs w q (r, sd, 0) k)).2.1
        rw [d2 10 0 (by decide), t4.rw' 10 0 (by decide) (by decide), g2]
      · show m5 10 0 1 = (yst w q (yrs w q (r, sd, 0) k)).2.2
        rw [d2 10 0 (by decide), t4.rw' 10 0 (by decide) (by decide), g3]
    unfold r_X10_live_b21
    rw [if_neg (nI_ge hk (by omega)), hL2.2.2.1, hN.1]
    by_cases h0 : wN w = 0
    · rw [if_pos (show nI (wN w) ≤ (0 : Int32) by rw [h0]; decide)]
      have ey : yst w q (yrs w q (r, sd, 0) k) = yrs w q (r, sd, 0) k := if_pos h0
      exact day m2 (by rw [ey]; exact hS2) (by rw [ey]; exact e2) (by rw [ey]; exact e3) hF2
    · rw [if_neg (nI_nle (by omega) (by omega)), tot_bd1]
      have ey : yst w q (yrs w q (r, sd, 0) k) = sti w q (yrs w q (r, sd, 0) k) := if_neg h0
      refine (stir_c hW hR2 hL2 hS2 (by omega) hq).mono ?_
      rintro m3 ⟨g1, g2, g3, g4⟩
      rw [e2, e3] at g1 g2 g3
      exact day m3 (by rw [ey]; exact g1) (by rw [ey]; exact g2) (by rw [ey]; exact g3) (hF2.tr (g4.mono (by simp) (by simp)))
  · rintro ⟨x5, m2⟩ ⟨e1, hS2, e2, e3, hF2⟩
    dsimp only at e1 hS2 e2 e3 hF2 ⊢
    subst e1
    unfold r_X10_live_b21
    rw [if_pos (nI_le (Nat.le_refl _) (by omega)), tot_some]
    show Tot (r_X10_live_e71_h21 m2) _
    unfold r_X10_live_e71_h21
    rw [tot_bd1]
    refine (trace_tot hW (hL.fj hF2 (by decide) (by decide)) (hC.fj hF2 (by decide) (by decide)) hS2).mono ?_
    rintro m3 ⟨t1, t2, t3, t4⟩
    exact tot_some.mpr ⟨hS2.fj t4 (by decide) (by decide), ⟨t1, t2, t3⟩, by rw [t4.rw' 10 0 (by decide) (by decide)]; exact e3, hF2.tr (t4.mono (by simp) (by simp))⟩
abbrev JZ : List (Nat × Nat) := [(12, 42), (12, 50), (12, 51)]
set_option maxHeartbeats 1000000 in
theorem year_m {m : Mem} {n q : Nat} {sd : Int32} (hW : WF (mW m)) (hR : RF (mW m) (m 60 0)) (hn : n ≤ 96) (hq : q ≤ 16) : Tot (r_X12_yearBy sd (nI n) (nI q) m) (fun m' => Er (m' 60 1) (yrs (mW m) q (m 60 0, sd, 0) n).1 ∧ m' 12 0 51 = (yrs (mW m) q (m 60 0, sd, 0) n).2.2 ∧ Fj KM JZ m m') := by
  have hN := hW.2.2.1
  unfold r_X12_yearBy
  rw [tot_bd1]
  refine (copies_tot (i0 := 0) (i1 := 1) (by decide)).mono ?_
  rintro m1 ⟨c1, c2⟩
  unfold r_X12_yearBy_l24
  rw [tot_bd1]
  refine tot_for (fun k (t : Int32 × Mem) => t.1 = nI k ∧ Er (t.2 60 1) (yrs (mW m) q (m 60 0, sd, 0) k).1 ∧ t.2 12 0 50 = (yrs (mW m) q (m 60 0, sd, 0) k).2.1 ∧ t.2 12 0 51 = (yrs (mW m) q (m 60 0, sd, 0) k).2.2 ∧ Fj KM JZ m t.2) n ?_ ?_ 0 _ (Nat.zero_le _) ⟨rfl, ?_, (show wr (wr m1 12 0 50 sd) 12 0 51 0 12 0 50 = sd from (wr_j (by decide)).trans (wr_eq _ _ _ _ _)), (show wr (wr m1 12 0 50 sd) 12 0 51 0 12 0 51 = 0 from wr_eq _ _ _ _ _), (((c2.mono (by simp)).j).wrJ (by simp) _ _).wrJ (by simp) _ _⟩
  · rintro k ⟨x4, m2⟩ hk ⟨e1, hE, e2, e3, hF2⟩
    dsimp only at e1 hE e2 e3 hF2 ⊢
    subst e1
    have fW : mW m2 = mW m := mW_fj hF2 (by decide) (by decide)
    have hR2 := yrs_RF (q := q) (x := (m 60 0, sd, 0)) hW hR k
    have day : ∀ m3 : Mem, Er (m3 60 1) (yst (mW m) q (yrs (mW m) q (m 60 0, sd, 0) k)).1 → m3 12 0 50 = (yst (mW m) q (yrs (mW m) q (m 60 0, sd, 0) k)).2.1 → m3 12 0 51 = (yst (mW m) q (yrs (mW m) q (m 60 0, sd, 0) k)).2.2 → Fj KM JZ m m3 → Tot (r_X12_yearBy_j118_c24 (nI n) (nI q) (nI k) m3) (Sum.elim (fun t : Int32 × Mem => t.1 = nI (k + 1) ∧ Er (t.2 60 1) (yrs (mW m) q (m 60 0, sd, 0) (k + 1)).1 ∧ t.2 12 0 50 = (yrs (mW m) q (m 60 0, sd, 0) (k + 1)).2.1 ∧ t.2 12 0 51 = (yrs (mW m) q (m 60 0, sd, 0) (k + 1)).2.2 ∧ Fj KM JZ m t.2) (fun x => Tot (r_X12_yearBy_e132_h24 x) (fun m' => Er (m' 60 1) (yrs (mW m) q (m 60 0, sd, 0) n).1 ∧ m' 12 0 51 = (yrs (mW m) q (m 60 0, sd, 0) n).2.2 ∧ Fj KM JZ m m'))) := by
      intro m3 g1 g2 g3 g4
      have fW3 : mW m3 = mW m := mW_fj g4 (by decide) (by decide)
      unfold r_X12_yearBy_j118_c24
      rw [tot_bd1]
      refine (dayEnds_tot (i := 1) (by rw [fW3]; exact hW)).mono ?_
      rintro m4 ⟨d1, d2⟩
      rw [fW3] at d1
      refine tot_some.mpr ⟨(nI_succ k).symm, ?_, ?_, ?_, g4.tr (d2.mono (by simp) (by simp))⟩
      · show Er (m4 60 1) (dayR (mW m) (yst (mW m) q (yrs (mW m) q (m 60 0, sd, 0) k)).1)
        rw [d1]
        exact dayR_er hW g1
      · exact (d2 12 0 50 (by decide) (by decide)).trans g2
      · exact (d2 12 0 51 (by decide) (by decide)).trans g3
    unfold r_X12_yearBy_b24
    rw [if_neg (nI_ge hk (by omega)), hF2.rw' 52 0 (by decide) (by decide), show m 52 0 2 = nI (wN (mW m)) from hN.1]
    by_cases h0 : wN (mW m) = 0
    · rw [if_pos (show nI (wN (mW m)) ≤ (0 : Int32) by rw [h0]; decide)]
      have ey : yst (mW m) q (yrs (mW m) q (m 60 0, sd, 0) k) = yrs (mW m) q (m 60 0, sd, 0) k := if_pos h0
      exact day m2 (by rw [ey]; exact hE) (by rw [ey]; exact e2) (by rw [ey]; exact e3) hF2
    · rw [if_neg (nI_nle (by omega) (by omega))]
      have ey : yst (mW m) q (yrs (mW m) q (m 60 0, sd, 0) k) = sti (mW m) q (yrs (mW m) q (m 60 0, sd, 0) k) := if_neg h0
      have e52 : nI (wN (mW m)) = m2 52 0 2 := by rw [hF2.rw' 52 0 (by decide) (by decide)]; exact hN.1.symm
      rw [e52]
      refine stir_m (m := m2) (r := (yrs (mW m) q (m 60 0, sd, 0) k).1) (by rw [fW]; exact hW) (by rw [fW]; exact hR2) hE (by rw [fW]; omega) hq ?_
      intro m3 g1 g2 g3 g4
      rw [fW, e2, e3] at g1 g2 g3
      exact day m3 (by rw [ey]; exact g1) (by rw [ey]; exact g2) (by rw [ey]; exact g3) (hF2.tr (g4.mono (by simp) (by simp)))
  · rintro ⟨x4, m2⟩ ⟨e1, hE, e2, e3, hF2⟩
    dsimp only at e1 hE e2 e3 hF2 ⊢
    subst e1
    unfold r_X12_yearBy_b24
    rw [if_pos (nI_le (Nat.le_refl _) (by omega)), tot_some]
    exact tot_some.mpr ⟨hE, e3, hF2⟩
  · show Er (wr (wr m1 12 0 50 sd) 12 0 51 0 60 1) (m 60 0)
    have : wr (wr m1 12 0 50 sd) 12 0 51 0 60 1 = m1 60 1 := by
      funext z
      rw [wr_k (by decide), wr_k (by decide)]
    rw [this]
    exact c1
