/-! ===== work's doing: what it comes to, and the class ===== -/
abbrev PS : Type := Rw × Nat × Nat × Nat
def sP1 (x : Sd) : Nat := 12 * (sA x).toNatClampNeg + (sF x).toNatClampNeg
def sE (w : Wd) (x : Sd) : Nat := (bw w (sF x).toNatClampNeg (sT x).toNatClampNeg).toNatClampNeg
def putR (r : Rw) (k : Nat) (v : Int32) : Rw := fun q => if q = k then v else r q
def doR (w : Wd) (x : Sd) (r : Rw) : Bool × Rw :=
  if sK x = 0 then (decide (¬ r (sP1 x) = sT x), putR r (sP1 x) (sT x))
  else if sK x = 1 then (decide (¬ r (sP1 x) = -1), putR r (sP1 x) (-1))
  else if sK x = 2 then (mov w r (sA x).toNatClampNeg (sF x).toNatClampNeg, rw1 w r (sA x).toNatClampNeg (sF x).toNatClampNeg)
  else if sK x = 3 then (if r (78 + sE w x) < 9 then (true, dgr r (sE w x) (r (78 + sE w x) + 1)) else (false, r))
  else (if r 110 < 500 then (true, dayR w r) else (false, r))
def bump (s : PS) : PS := (s.1, s.2.1 + 1, s.2.2.1, s.2.2.2)
def stepR (w : Wd) (x : Sd) (s : PS) : PS := ((doR w x s.1).2, s.2.1 + 1, (if (doR w x s.1).1 = true then s.2.2.1 + 1 else s.2.2.1), if (doR w x s.1).1 = true then s.2.2.2 else s.2.2.2 + 1)
def forR (f : PS → PS) : Nat → PS → PS
  | 0, s => s
  | c + 1, s => if 200 ≤ s.2.1 then s else forR f c (f s)
def lpR (w : Wd) (T : Nat → Sd) (g : Nat → Nat → PS → PS) (hi : Nat) : Nat → Nat → PS → PS
  | 0, _, s => s
  | k + 1, j, s => if hi ≤ j then s else if 200 ≤ s.2.1 then s else if sK (T j) = 5 then lpR w T g hi k (sN (T j)) (forR (g (j + 1) (sN (T j))) (sA (T j)).toNatClampNeg (bump s)) else lpR w T g hi k (j + 1) (stepR w (T j) s)
def rnR (w : Wd) (T : Nat → Sd) : Nat → Nat → Nat → PS → PS
  | 0, _, _, s => s
  | d + 1, lo, hi, s => lpR w T (rnR w T d) hi 38 lo s
theorem putR_at (r : Rw) (k : Nat) (v : Int32) : putR r k v k = v := if_pos rfl
theorem putR_ne {r : Rw} {k q : Nat} {v : Int32} (h : ¬ q = k) : putR r k v q = r q := if_neg h
theorem dgr_at (r : Rw) (e : Nat) (v : Int32) : dgr r e v (78 + e) = v := if_pos rfl
theorem dgr_ne {r : Rw} {e q : Nat} {v : Int32} (h : ¬ q = 78 + e) : dgr r e v q = r q := if_neg h
theorem putR_RF {w : Wd} {r : Rw} (hW : WF w) (hR : RF w r) {p a : Nat} {v : Int32} (hp : p < wN w) (ha : a < 12) (hv : v = -1 ∨ (a < wP w ∧ ∃ c, c < wP w ∧ v = nI c)) : RF w (putR r (12 * p + a) v) := by
  have hN := hW.2.2.1.2
  obtain ⟨h1, h2, h3⟩ := hR
  refine ⟨fun q hq => ?_, fun q c hq hc => ?_, fun e he => ?_⟩
  · rw [putR_ne (by omega)]
    exact h1 q hq
  · by_cases e : 12 * q + c = 12 * p + a
    · have e1 : q = p := by omega
      have e2 : c = a := by omega
      subst e1 e2
      rw [putR_at]
      exact hv
    · rw [putR_ne e]
      exact h2 q c hq hc
  · rw [putR_ne (by omega)]
    exact h3 e he
theorem dgr_RF {w : Wd} {r : Rw} (hW : WF w) (hR : RF w r) {e d : Nat} (hd : d ≤ 9) : RF w (dgr r e (nI d)) := by
  have hN := hW.2.2.1.2
  obtain ⟨h1, h2, h3⟩ := hR
  refine ⟨fun q hq => ?_, fun q c hq hc => ?_, fun e' he => ?_⟩
  · rw [dgr_ne (by omega)]
    exact h1 q hq
  · rw [dgr_ne (by omega)]
    exact h2 q c hq hc
  · by_cases q : e' = e
    · rw [q, dgr_at]
      exact ⟨d, hd, rfl⟩
    · rw [dgr_ne (by omega)]
      exact h3 e' he
theorem StC.u23 {w : Wd} {r : Rw} {m : Mem} {i e : Nat} {v : Int32} (hW : WF w) (he : e < 16) (hS : StC w r m i) : StC w (dgr r e v) (wr m 23 i e v) i := by
  have hN := hW.2.2.1.2
  obtain ⟨s1, s2, s3, s4, s5⟩ := hS
  refine ⟨?_, ?_, fun p hp => ?_, fun p a hp ha => ?_, fun e' he' => ?_⟩
  · rw [wr_k (by decide), dgr_ne (by omega)]
    exact s1
  · rw [wr_k (by decide)]
    exact s2
  · rw [wr_k (a := 20) (by decide), wr_k (a := 21) (by decide), dgr_ne (by omega)]
    exact s3 p hp
  · rw [wr_k (by decide), dgr_ne (by omega)]
    exact s4 p a hp ha
  · have a1 : wr m 23 i e v 24 i e' = m 24 i e' := wr_k (by decide)
    rw [wr_if, a1, dgr_ne (q := 94 + e') (by omega)]
    by_cases q : e' = e
    · rw [if_pos q, q, dgr_at]
      exact ⟨rfl, (s5 e (by omega)).2⟩
    · rw [if_neg q, dgr_ne (by omega)]
      exact s5 e' he'
theorem bw_e {w : Wd} (hW : WF w) {a c : Nat} (h : ¬ bw w a c = -1) : ∃ e, e < 16 ∧ bw w a c = nI e := by
  have hD := hW.2.1.2
  rcases bw_or w a c with q | ⟨e, he, q, -⟩
  · exact absurd q h
  · exact ⟨e, by omega, q⟩
abbrev KRc : List (Nat × Nat) := [(7, 0), (21, 0), (22, 0), (23, 0), (24, 0), (33, 0), (35, 0), (38, 0)]
abbrev JRc : List (Nat × Nat) := [(6, 3), (6, 4), (9, 0), (9, 1), (9, 2)]
abbrev JRd : List (Nat × Nat) := [(6, 3), (6, 4)]
theorem jrd_c : ∀ q ∈ JRd, q ∈ JRc := by decide
theorem CR.fk {m m' : Mem} {j : Nat} {x : Sd} (h : CR m j x) (hF : Fj KRc JRc m m') : CR m' j x := by
  unfold CR at h ⊢
  rw [hF.kd 39 0 rfl, hF.kd 40 0 rfl, hF.kd 41 0 rfl, hF.kd 42 0 rfl]
  exact h
theorem CW.fj {w : Wd} {m m' : Mem} {K J : List (Nat × Nat)} (h : CW w m) (hF : Fj K J m m') (h4 : (K.all (fun q => q.1 != 4) && J.all (fun q => q.1 != 4)) = true) (h34 : (K.all (fun q => q.1 != 34) && J.all (fun q => q.1 != 34)) = true) : CW w m' := lawC.fr h (hF.kd 4 0 h4) (hF.kd 34 0 h34)
set_option maxHeartbeats 1000000 in
theorem done_c {w : Wd} {r : Rw} {m : Mem} {x : Sd} {j : Nat} (hW : WF w) (hR : RF w r) (hL : CL w m) (hC : CW w m) (hS : StC w r m 0) (hx : okSt w x) (hr : CR m j x) (hj : j < 38) : Tot (r_X9_isDone (nI j) m) (fun q => q.1 = (doR w x r).1 ∧ StC w (doR w x r).2 q.2 0 ∧ RF w (doR w x r).2 ∧ Fj KRc JRd m q.2) := by
  have hP := hW.1.2
  have hN := hW.2.2.1.2
  obtain ⟨r0, r1, r2, r3, -⟩ := hr
  unfold r_X9_isDone
  rw [if_pos (inb_nI (by omega) (by omega)), clamp_nI (by omega), r0]
  unfold doR
  rcases hx with ⟨k, p, a, c, hp, ha, hc, ep, ea, ec, hb⟩ | ⟨k, p, a, hp, ha, ep, ea⟩ | ⟨k, p, a, hp, ha, ep, ea⟩ | ⟨k, a, c, ha, hc, ea, ec, hb⟩ | k
  · have e1 : sP1 x = 12 * p + a := by unfold sP1; rw [ep, ea, clamp_nI (k := p) (by omega), clamp_nI (k := a) (by omega)]
    rw [if_pos k, if_pos k, r1 (Or.inl k), r2 (Or.inl k), r3 (Or.inl k), ep, ea, ec, e1, bd2_s (tell_eq (by omega) (by omega)), hS.2.2.2.1 p a hp (by omega)]
    exact tot_some.mpr ⟨rfl, StC.u22 hW hp (by omega) hS, putR_RF hW hR hp (by omega) (Or.inr ⟨ha, c, hc, rfl⟩), Fj.rf.wrK (by simp) _ _⟩
  · have e1 : sP1 x = 12 * p + a := by unfold sP1; rw [ep, ea, clamp_nI (k := p) (by omega), clamp_nI (k := a) (by omega)]
    have n0 : ¬ sK x = 0 := by rw [k]; decide
    rw [if_neg n0, if_neg n0, if_pos k, if_pos k, r1 (Or.inr (Or.inl k)), r2 (Or.inr (Or.inl k)), ep, ea, e1, bd2_s (forget_eq (by omega) (by omega)), hS.2.2.2.1 p a hp (by omega)]
    exact tot_some.mpr ⟨rfl, StC.u22 hW hp (by omega) hS, putR_RF hW hR hp (by omega) (Or.inl rfl), Fj.rf.wrK (by simp) _ _⟩
  · have n0 : ¬ sK x = 0 := by rw [k]; decide
    have n1 : ¬ sK x = 1 := by rw [k]; decide
    rw [if_neg n0, if_neg n0, if_neg n1, if_neg n1, if_pos k, if_pos k, r1 (Or.inr (Or.inr (Or.inl k))), r2 (Or.inr (Or.inr (Or.inl k))), ep, ea, clamp_nI (k := p) (by omega), clamp_nI (k := a) (by omega), bd2_s (walk_c hW hR hL hS hp (by omega))]
    refine tot_some.mpr ⟨rfl, ?_, rw1_RF hW hR hp ha, ?_⟩
    · dsimp only
      unfold rw1
      by_cases q : mov w r p a = true
      · rw [if_pos q, if_pos q]
        exact StC.u21 hW hp hS
      · rw [if_neg q, if_neg q]
        exact hS
    · dsimp only
      by_cases q : mov w r p a = true
      · rw [if_pos q]
        exact Fj.rf.wrK (by simp) _ _
      · rw [if_neg q]
        exact Fj.rf
  · have n0 : ¬ sK x = 0 := by rw [k]; decide
    have n1 : ¬ sK x = 1 := by rw [k]; decide
    have n2 : ¬ sK x = 2 := by rw [k]; decide
    obtain ⟨e, he, ee⟩ := bw_e hW hb
    have eE : sE w x = e := by
      unfold sE
      rw [ea, ec, clamp_nI (k := a) (by omega), clamp_nI (k := c) (by omega), ee, clamp_nI (by omega)]
    obtain ⟨d, hd, ed⟩ := hR.2.2 e he
    rw [if_neg n0, if_neg n0, if_neg n1, if_neg n1, if_neg n2, if_neg n2, if_pos k, if_pos k, r2 (Or.inr (Or.inr (Or.inr k))), r3 (Or.inr k), ea, ec, eE, ed]
    have hbt : r_X3_between 0 (nI a) (nI c) m = some (nI e) := by
      unfold r_X3_between
      rw [ix12, if_pos (inb_nI (by omega) (by omega)), clamp_nI (by omega), hL.2.2.2.2.2.2.1 a c (by omega) (by omega), ee]
    unfold r_X6_dig
    rw [bd1_s hbt, if_neg (m1_ne (by omega)), if_pos (inb_nI (k := e) (by omega) (by omega)), clamp_nI (k := e) (by omega), (hS.2.2.2.2 e he).1, ed]
    by_cases q : d < 9
    · rw [if_pos (show nI (d) < (9 : Int32) from nI_lt (a := d) (b := 9) (by omega) (by omega)), if_pos (show nI (d) < (9 : Int32) from nI_lt (a := d) (b := 9) (by omega) (by omega)), bd2_s rfl, ← nI_succ]
      exact tot_some.mpr ⟨rfl, StC.u23 hW he hS, dgr_RF hW hR (by omega), Fj.rf.wrK (by simp) _ _⟩
    · rw [if_neg (show ¬ nI (d) < (9 : Int32) from nI_nlt (a := d) (b := 9) (by omega) (by omega)), if_neg (show ¬ nI (d) < (9 : Int32) from nI_nlt (a := d) (b := 9) (by omega) (by omega)), bd2_s rfl]
      exact tot_some.mpr ⟨rfl, hS, hR, Fj.rf⟩
  · have n0 : ¬ sK x = 0 := by rw [k]; decide
    have n1 : ¬ sK x = 1 := by rw [k]; decide
    have n2 : ¬ sK x = 2 := by rw [k]; decide
    have n3 : ¬ sK x = 3 := by rw [k]; decide
    rw [if_neg n0, if_neg n0, if_neg n1, if_neg n1, if_neg n2, if_neg n2, if_neg n3, if_neg n3, hS.1]
    by_cases q : r 110 < 500
    · rw [if_pos q, if_pos q, tot_bd1]
      refine (trace_tot hW hL hC hS).mono ?_
      rintro m2 ⟨a1, a2, a3, a4⟩
      have hL2 : CL w m2 := hL.fj a4 (by decide) (by decide)
      have hS2 : StC w r m2 0 := hS.fr (a4.kd 7 0 rfl) (a4.kd 20 0 rfl) (a4.kd 21 0 rfl) (a4.kd 22 0 rfl) (a4.kd 23 0 rfl) (a4.kd 24 0 rfl)
      rw [tot_bd1]
      refine (flowOneDay_tot hW hL2 hS2 a1 a3).mono ?_
      rintro m3 ⟨b1, b2⟩
      exact tot_some.mpr ⟨rfl, b1, dayR_RF hW hR, (a4.mono (by simp) (by simp)).tr (b2.mono (by simp)).j⟩
    · rw [if_neg q, if_neg q]
      exact tot_some.mpr ⟨rfl, hS, hR, Fj.rf⟩
/-- the class as it does the work -/
def PC (w : Wd) (s : PS) (m : Mem) : Prop := StC w s.1 m 0 ∧ RF w s.1 ∧ s.2.1 ≤ 200 ∧ m 9 0 2 = nI s.2.1 ∧ m 9 0 0 = nI s.2.2.1 ∧ m 9 0 1 = nI s.2.2.2 ∧ CL w m ∧ CW w m
theorem PC.w {w : Wd} {s s' : PS} {m : Mem} {c : Nat} {v : Int32} (h : PC w s m) (e1 : s'.1 = s.1) (hb : s'.2.1 ≤ 200) (h2 : wr m 9 0 c v 9 0 2 = nI s'.2.1) (h0 : wr m 9 0 c v 9 0 0 = nI s'.2.2.1) (h1 : wr m 9 0 c v 9 0 1 = nI s'.2.2.2) : PC w s' (wr m 9 0 c v) := by
  obtain ⟨a1, a2, a3, a4, a5, a6, a7, a8⟩ := h
  have hF : Fj [] [(9, c)] m (wr m 9 0 c v) := Fj.rf.wrJ (by simp) _ _
  have k : ∀ k i, ¬ k = 9 → wr m 9 0 c v k i = m k i := fun k i hk => by
    funext j
    exact wr_k hk
  rw [PC, e1]
  exact ⟨a1.fr (k 7 0 (by decide)) (k 20 0 (by decide)) (k 21 0 (by decide)) (k 22 0 (by decide)) (k 23 0 (by decide)) (k 24 0 (by decide)), a2, hb, h2, h0, h1, a7.fr (k 3 0 (by decide)) (k 25 0 (by decide)) (k 26 0 (by decide)) (k 27 0 (by decide)) (k 28 0 (by decide)) (k 29 0 (by decide)), lawC.fr a8 (k 4 0 (by decide)) (k 34 0 (by decide))⟩
set_option maxHeartbeats 1000000 in
theorem stepR_c {w : Wd} {s : PS} {m : Mem} {x : Sd} {j : Nat} (hW : WF w) (h : PC w s m) (hs : s.2.1 < 200) (hx : okSt w x) (hr : CR m j x) (hj : j < 38) : Tot (bd2 (r_X9_isDone (nI j) (wr m 9 0 2 ((m 9 0 2) + 1))) fun z14 m13 => (if z14 = true then (some (wr m13 9 0 0 ((m13 9 0 0) + 1))) else (some (wr m13 9 0 1 ((m13 9 0 1) + 1))))) (fun m' => PC w (stepR w x s) m' ∧ Fj KRc JRc m m') := by
  have h1 : PC w (bump s) (wr m 9 0 2 ((m 9 0 2) + 1)) := h.w rfl (by show s.2.1 + 1 ≤ 200; omega) (by rw [wr_eq, h.2.2.2.1, ← nI_succ]; rfl) (by rw [wr_j (by decide)]; exact h.2.2.2.2.1) (by rw [wr_j (by decide)]; exact h.2.2.2.2.2.1)
  have F1 : Fj KRc JRc m (wr m 9 0 2 ((m 9 0 2) + 1)) := Fj.rf.wrJ (by simp) _ _
  have r1 := hr.fk F1
  generalize wr m 9 0 2 ((m 9 0 2) + 1) = m1 at h1 F1 r1 ⊢
  obtain ⟨a1, a2, a3, a4, a5, a6, a7, a8⟩ := h1
  rw [tot_bd2]
  refine (done_c hW a2 a7 a8 a1 hx r1 hj).mono ?_
  rintro ⟨z, m2⟩ ⟨b1, b2, b3, b4⟩
  dsimp only at b1 b2 b3 b4 ⊢
  have b1' : z = (doR w x s.1).1 := b1
  have hm2 : PC w ((doR w x s.1).2, s.2.1 + 1, s.2.2.1, s.2.2.2) m2 := ⟨b2, b3, a3, by rw [b4 9 0 2 (by simp) (by simp)]; exact a4, by rw [b4 9 0 0 (by simp) (by simp)]; exact a5, by rw [b4 9 0 1 (by simp) (by simp)]; exact a6, a7.fj b4 (by decide) (by decide), a8.fj b4 rfl rfl⟩
  have b4 : Fj KRc JRc m1 m2 := b4.mono (fun q hq => hq) jrd_c
  by_cases hz : (doR w x s.1).1 = true
  · rw [if_pos (by rw [b1']; exact hz)]
    have e : stepR w x s = ((doR w x s.1).2, s.2.1 + 1, s.2.2.1 + 1, s.2.2.2) := by
      unfold stepR
      rw [if_pos hz, if_pos hz]
    rw [e]
    exact tot_some.mpr ⟨hm2.w rfl (by show s.2.1 + 1 ≤ 200; omega) (by rw [wr_j (by decide)]; exact hm2.2.2.2.1) (by rw [wr_eq, hm2.2.2.2.2.1, ← nI_succ]) (by rw [wr_j (by decide)]; exact hm2.2.2.2.2.2.1), (F1.tr b4).wrJ (by simp) _ _⟩
  · rw [if_neg (by rw [b1']; exact hz)]
    have e : stepR w x s = ((doR w x s.1).2, s.2.1 + 1, s.2.2.1, s.2.2.2 + 1) := by
      unfold stepR
      rw [if_neg hz, if_neg hz]
    rw [e]
    exact tot_some.mpr ⟨hm2.w rfl (by show s.2.1 + 1 ≤ 200; omega) (by rw [wr_j (by decide)]; exact hm2.2.2.2.1) (by rw [wr_j (by decide)]; exact hm2.2.2.2.2.1) (by rw [wr_eq, hm2.2.2.2.2.2.1, ← nI_succ]), (F1.tr b4).wrJ (by simp) _ _⟩
/-- the run of what stands deeper -/
def HRc (w : Wd) (T : Nat → Sd) (N d : Nat) (rec : Nat → Nat → List Int32 → Mem → Option Mem) : Prop := 0 < d → ∀ n lo hi s m, Vr w T n (d - 1) lo hi → hi ≤ N → (∀ j, j < N → CR m j (T j)) → PC w s m → Tot (rec 0 0 [nI lo, nI hi, nI (6 - d + 1)] m) (fun m' => PC w (rnR w T d lo hi s) m' ∧ Fj KRc JRc m m')
theorem forR_c {w : Wd} {T : Nat → Sd} {N d n lo v : Nat} {x2 : Int32} {rec : Nat → Nat → List Int32 → Mem → Option Mem} (hN : N ≤ 38) (hH : HRc w T N d rec) (hd : 0 < d) (hlo : lo < N) (hv : v ≤ 60) (hk : sK (T lo) = 5) (hA : sA (T lo) = nI v) (hnx : sN (T lo) ≤ N) (hV : Vr w T n (d - 1) (lo + 1) (sN (T lo))) : ∀ c s m, c ≤ v → (∀ j, j < N → CR m j (T j)) → PC w s m → Tot (loopO (fun s => r_X9_run_b49_c3 rec x2 (nI (6 - d)) (nI lo) s.1 s.2) (nI (v - c), m)) (fun m' => PC w (forR (rnR w T d (lo + 1) (sN (T lo))) c s) m' ∧ Fj KRc JRc m m') := by
  intro c
  induction c with
  | zero =>
    intro s m hc hT hP
    have cr := hT lo hlo
    refine tot_step ?_
    show Tot (r_X9_run_b49_c3 rec x2 (nI (6 - d)) (nI lo) (nI (v - 0)) m) _
    unfold r_X9_run_b49_c3
    rw [if_pos (inb_nI (by omega) (by omega)), clamp_nI (by omega), cr.2.1 (Or.inr (Or.inr (Or.inr hk))), hA, if_pos (nI_le (by omega) (by omega))]
    exact tot_some.mpr ⟨hP, Fj.rf⟩
  | succ c ih =>
    intro s m hc hT hP
    have cr := hT lo hlo
    refine tot_step ?_
    show Tot (r_X9_run_b49_c3 rec x2 (nI (6 - d)) (nI lo) (nI (v - (c + 1))) m) _
    generalize hl : (fun s : Int32 × Mem => r_X9_run_b49_c3 rec x2 (nI (6 - d)) (nI lo) s.1 s.2) = lf
    unfold r_X9_run_b49_c3
    rw [if_pos (inb_nI (by omega) (by omega)), clamp_nI (by omega), cr.2.1 (Or.inr (Or.inr (Or.inr hk))), hA, if_neg (nI_ge (by omega) (by omega)), hP.2.2.2.1]
    by_cases h2 : 200 ≤ s.2.1
    · have hb := hP.2.2.1
      rw [if_pos (show (200 : Int32) ≤ nI (s.2.1) from nI_le (a := 200) (b := s.2.1) (by omega) (by omega))]
      have e : forR (rnR w T d (lo + 1) (sN (T lo))) (c + 1) s = s := by
        show (if 200 ≤ s.2.1 then s else _) = s
        rw [if_pos h2]
      refine tot_some.mpr ?_
      show PC w (forR (rnR w T d (lo + 1) (sN (T lo))) (c + 1) s) m ∧ _
      rw [e]
      exact ⟨hP, Fj.rf⟩
    · rw [if_neg (show ¬ (200 : Int32) ≤ nI (s.2.1) from nI_ge (b := 200) (a := s.2.1) (by omega) (by omega)), cr.2.2.2.2 hk, ← nI_succ, ← nI_succ, tot_bd1]
      have e : forR (rnR w T d (lo + 1) (sN (T lo))) (c + 1) s = forR (rnR w T d (lo + 1) (sN (T lo))) c (rnR w T d (lo + 1) (sN (T lo)) s) := by
        show (if 200 ≤ s.2.1 then s else _) = _
        rw [if_neg h2]
      refine (hH hd n (lo + 1) (sN (T lo)) s m hV hnx hT hP).mono ?_
      rintro m2 ⟨a1, a2⟩
      refine tot_some.mpr ?_
      have en : nI (v - (c + 1) + 1) = nI (v - c) := congrArg nI (by omega)
      show Tot (loopO lf (nI (v - (c + 1)) + 1, m2)) _
      rw [← nI_succ, en, e, ← hl]
      refine (ih _ m2 (by omega) (fun j hj => (hT j hj).fk a2) a1).mono ?_
      rintro m3 ⟨b1, b2⟩
      exact ⟨b1, a2.tr b2⟩
set_option maxHeartbeats 1000000 in
theorem lpR_c {w : Wd} {T : Nat → Sd} {N d hi : Nat} {rec : Nat → Nat → List Int32 → Mem → Option Mem} (hW : WF w) (hN : N ≤ 38) (hd6 : d ≤ 6) (hH : HRc w T N d rec) (hhi : hi ≤ N) : ∀ k n lo s m, hi ≤ lo + k → Vr w T n d lo hi → (∀ j, j < N → CR m j (T j)) → PC w s m → Tot (loopO (fun s => r_X9_run_b3 rec (nI hi) (nI (6 - d)) s.1 s.2) (nI lo, m)) (fun m' => PC w (lpR w T (rnR w T d) hi k lo s) m' ∧ Fj KRc JRc m m') := by
  intro k
  induction k with
  | zero =>
    intro n lo s m hk hV hT hP
    have hle := hV.le
    refine tot_step ?_
    show Tot (r_X9_run_b3 rec (nI hi) (nI (6 - d)) (nI lo) m) _
    unfold r_X9_run_b3
    rw [if_pos (nI_le (by omega) (by omega))]
    exact tot_some.mpr ⟨hP, Fj.rf⟩
  | succ k ih =>
    intro n lo s m hk hV hT hP
    have hle := hV.le
    have hb := hP.2.2.1
    refine tot_step ?_
    show Tot (r_X9_run_b3 rec (nI hi) (nI (6 - d)) (nI lo) m) _
    unfold r_X9_run_b3
    by_cases c0 : hi ≤ lo
    · have e : lpR w T (rnR w T d) hi (k + 1) lo s = s := by
        show (if hi ≤ lo then s else _) = s
        rw [if_pos c0]
      rw [if_pos (nI_le c0 (by omega))]
      refine tot_some.mpr ?_
      show PC w (lpR w T (rnR w T d) hi (k + 1) lo s) m ∧ _
      rw [e]
      exact ⟨hP, Fj.rf⟩
    rw [if_neg (nI_ge (by omega) (by omega)), hP.2.2.2.1]
    by_cases c1 : 200 ≤ s.2.1
    · have e : lpR w T (rnR w T d) hi (k + 1) lo s = s := by
        show (if hi ≤ lo then s else if 200 ≤ s.2.1 then s else _) = s
        rw [if_neg c0, if_pos c1]
      rw [if_pos (show (200 : Int32) ≤ nI (s.2.1) from nI_le (a := 200) (b := s.2.1) (by omega) (by omega))]
      refine tot_some.mpr ?_
      show PC w (lpR w T (rnR w T d) hi (k + 1) lo s) m ∧ _
      rw [e]
      exact ⟨hP, Fj.rf⟩
    have cr := hT lo (by omega)
    rw [if_neg (show ¬ (200 : Int32) ≤ nI (s.2.1) from nI_ge (b := 200) (a := s.2.1) (by omega) (by omega)), if_neg (show ¬ (6 : Int32) < nI (6 - d) from nI_nlt (a := 6) (b := 6 - d) (by omega) (by omega)), if_pos (inb_nI (by omega) (by omega)), clamp_nI (by omega), cr.1]
    match n, hV with
    | 0, hV => exact absurd (Nat.le_of_eq (Eq.symm hV)) c0
    | n + 1, hV =>
      rcases hV with hV | ⟨-, ⟨h5, hok, hn, hV⟩ | ⟨h5, ⟨v, hv, hA⟩, hd, hnh, hln, hV1, hV2⟩⟩
      · exact absurd (Nat.le_of_eq (Eq.symm hV)) c0
      · have e : lpR w T (rnR w T d) hi (k + 1) lo s = lpR w T (rnR w T d) hi k (lo + 1) (stepR w (T lo) s) := by
          show (if hi ≤ lo then s else if 200 ≤ s.2.1 then s else if sK (T lo) = 5 then _ else _) = _
          rw [if_neg c0, if_neg c1, if_neg h5]
        rw [if_neg h5]
        have st := stepR_c hW hP (by omega) hok cr (show lo < 38 by omega)
        rw [hP.2.2.2.1] at st
        rw [tot_bd2] at st ⊢
        refine st.mono ?_
        rintro ⟨z, m2⟩ hz
        dsimp only at hz ⊢
        have key : ∀ m3, (PC w (stepR w (T lo) s) m3 ∧ Fj KRc JRc m m3) → Tot (r_X9_run_j139_c3 rec (nI hi) (nI (6 - d)) (nI lo) m3) (Sum.elim (fun s2 => Tot (loopO (fun s => r_X9_run_b3 rec (nI hi) (nI (6 - d)) s.1 s.2) s2) (fun m' => PC w (lpR w T (rnR w T d) hi (k + 1) lo s) m' ∧ Fj KRc JRc m m')) (fun m' => PC w (lpR w T (rnR w T d) hi (k + 1) lo s) m' ∧ Fj KRc JRc m m')) := by
          rintro m3 ⟨a1, a2⟩
          unfold r_X9_run_j139_c3
          refine tot_some.mpr ?_
          show Tot (loopO (fun s => r_X9_run_b3 rec (nI hi) (nI (6 - d)) s.1 s.2) (nI lo + 1, m3)) _
          rw [← nI_succ, e]
          refine (ih n (lo + 1) _ m3 (by omega) hV (fun j hj => (hT j hj).fk a2) a1).mono ?_
          rintro m4 ⟨b1, b2⟩
          exact ⟨b1, a2.tr b2⟩
        by_cases hzt : z = true
        · rw [if_pos hzt] at hz ⊢
          obtain ⟨r9, q1, q2⟩ := hz
          cases q1
          exact key _ q2
        · rw [if_neg hzt] at hz ⊢
          obtain ⟨r9, q1, q2⟩ := hz
          cases q1
          exact key _ q2
      · have e : lpR w T (rnR w T d) hi (k + 1) lo s = lpR w T (rnR w T d) hi k (sN (T lo)) (forR (rnR w T d (lo + 1) (sN (T lo))) v (bump s)) := by
          show (if hi ≤ lo then s else if 200 ≤ s.2.1 then s else if sK (T lo) = 5 then lpR w T (rnR w T d) hi k (sN (T lo)) (forR (rnR w T d (lo + 1) (sN (T lo))) (sA (T lo)).toNatClampNeg (bump s)) else _) = _
          rw [if_neg c0, if_neg c1, if_pos h5, hA, clamp_nI (by omega)]
        rw [if_pos h5]
        have h1 : PC w (bump s) (wr m 9 0 2 (nI s.2.1 + 1)) := hP.w rfl (by show s.2.1 + 1 ≤ 200; omega) (by rw [wr_eq, ← nI_succ]; rfl) (by rw [wr_j (by decide)]; exact hP.2.2.2.2.1) (by rw [wr_j (by decide)]; exact hP.2.2.2.2.2.1)
        have F1 : Fj KRc JRc m (wr m 9 0 2 (nI s.2.1 + 1)) := Fj.rf.wrJ (by simp) _ _
        generalize wr m 9 0 2 (nI s.2.1 + 1) = m1 at h1 F1 ⊢
        unfold r_X9_run_l49_c3
        rw [tot_bd1]
        have fr := forR_c (x2 := nI hi) hN hH hd (show lo < N by omega) hv h5 hA (by omega) hV1 v (bump s) m1 (Nat.le_refl _) (fun j hj => (hT j hj).fk F1) h1
        rw [Nat.sub_self] at fr
        refine Tot.mono fr ?_
        rintro m2 ⟨a1, a2⟩
        have cr2 := ((hT lo (by omega)).fk F1).fk a2
        unfold r_X9_run_e95_h49_c3 r_X9_run_j95_c3
        rw [if_pos (inb_nI (by omega) (by omega)), clamp_nI (by omega), cr2.2.2.2.2 h5]
        refine tot_some.mpr ?_
        show Tot (loopO (fun s => r_X9_run_b3 rec (nI hi) (nI (6 - d)) s.1 s.2) (nI (sN (T lo)), m2)) _
        rw [e]
        refine (ih n (sN (T lo)) _ m2 (by omega) hV2 (fun j hj => ((hT j hj).fk F1).fk a2) a1).mono ?_
        rintro m4 ⟨b1, b2⟩
        exact ⟨b1, (F1.tr a2).tr b2⟩
theorem run_c {w : Wd} {T : Nat → Sd} {N : Nat} (hW : WF w) (hN : N ≤ 38) : ∀ d g, d ≤ 6 → ∀ n lo hi s m, Vr w T n d lo hi → hi ≤ N → (∀ j, j < N → CR m j (T j)) → PC w s m → Tot (rec_run (d + g + 1) 0 0 [nI lo, nI hi, nI (6 - d)] m) (fun m' => PC w (rnR w T (d + 1) lo hi s) m' ∧ Fj KRc JRc m m') := by
  intro d
  have key : ∀ d g, d ≤ 6 → HRc w T N d (rec_run (d + g)) → ∀ n lo hi s m, Vr w T n d lo hi → hi ≤ N → (∀ j, j < N → CR m j (T j)) → PC w s m → Tot (rec_run (d + g + 1) 0 0 [nI lo, nI hi, nI (6 - d)] m) (fun m' => PC w (rnR w T (d + 1) lo hi s) m' ∧ Fj KRc JRc m m') := by
    intro d g hd hH n lo hi s m hV hhi hT hP
    show Tot (r_X9_run (rec_run (d + g)) (nI lo) (nI hi) (nI (6 - d)) m) _
    unfold r_X9_run r_X9_run_l3
    rw [tot_bd1]
    have := lpR_c hW hN hd hH hhi 38 n lo s m (by omega) hV hT hP
    refine Tot.mono this ?_
    intro m' hm'
    exact tot_some.mpr hm'
  induction d with
  | zero => exact fun g hd => key 0 g hd (fun h => by omega)
  | succ d ih =>
    intro g hd
    refine key (d + 1) g hd (fun _ n lo hi s m hV hhi hT hP => ?_)
    rw [show d + 1 + g = d + g + 1 by omega, show 6 - (d + 1) + 1 = 6 - d by omega]
    exact ih g (by omega) n lo hi s m hV hhi hT hP
