/-! ===== the law's text: the class ===== -/
theorem tot_step {σ ρ : Type} {b : σ → Option (σ ⊕ ρ)} {Q : ρ → Prop} {s : σ} (h : Tot (b s) (Sum.elim (fun s2 => Tot (loopO b s2) Q) Q)) : Tot (loopO b s) Q := by
  obtain ⟨r, h1, h2⟩ := h
  match r, h1, h2 with
  | .inl s2, h1, h2 =>
    rw [loopO_in h1]
    exact h2
  | .inr q, h1, h2 => exact ⟨q, loopO_out h1, h2⟩
def en (x : Cd) : Int32 := if x.1 = 0 then x.2 else if x.1 = 1 then 1000 + x.2 else 1998 + x.1
def CC (c : List Cd) (m : Mem) : Prop := m 4 1 3 = nI c.length ∧ ∀ k, k < c.length → m 34 1 k = en (c.getD k (0, 0))
abbrev KPc : List (Nat × Nat) := [(4, 1), (34, 1)]
theorem CC.fj {K J : List (Nat × Nat)} {c : List Cd} {m m' : Mem} (h : CC c m) (hF : Fj K J m m') (hK : ∀ q ∈ K, ¬ q.1 = 4 ∧ ¬ q.1 = 34) (hJ : ∀ q ∈ J, ¬ q.1 = 4 ∧ ¬ q.1 = 34) : CC c m' := by
  have h4 : m' 4 1 = m 4 1 := hF.rw' 4 1 (fun q hq e => (hK q hq).1 (by rw [e])) (fun q hq e => (hJ q hq).1 e)
  have h34 : m' 34 1 = m 34 1 := hF.rw' 34 1 (fun q hq e => (hK q hq).2 (by rw [e])) (fun q hq e => (hJ q hq).2 e)
  unfold CC at h ⊢
  rw [h4, h34]
  exact h
theorem putC {c : List Cd} {m : Mem} {x : Cd} {y : Int32} (h : CC c m) (hc : c.length < 150) (hy : y = en x) : ∃ m', r_X4_put 1 y m = some m' ∧ CC (c ++ [x]) m' ∧ Fj KPc [] m m' := by
  unfold r_X4_put
  rw [h.1, if_neg (show ¬ (150 : Int32) ≤ nI (c.length) from nI_ge (b := 150) (a := c.length) (by omega) (by omega)), if_pos (inb_nI (by omega) (by omega)), clamp_nI (by omega)]
  refine ⟨_, rfl, ⟨?_, fun k hk => ?_⟩, (Fj.rf.wrK (by simp) _ _).wrK (by simp) _ _⟩
  · rw [wr_eq, List.length_append, List.length_singleton, nI_succ]
  · rw [List.length_append, List.length_singleton] at hk
    rw [wr_k (by decide), wr_if]
    by_cases e : k = c.length
    · rw [if_pos e, e, getD_end]
      exact hy
    · rw [if_neg e, getD_app1 (by omega)]
      exact h.2 k (by omega)
theorem en_1 (v : Int32) : 1000 + v = en (1, v) := by
  show 1000 + v = (if (1 : Int32) = 0 then v else if (1 : Int32) = 1 then 1000 + v else 1998 + 1)
  rw [if_neg (by decide), if_pos rfl]
theorem en_op {op : Int32 → Int32} {c : Int32} (ho : op = opP ∨ op = opS) (h : ¬ op c = -1) : 1998 + op c = en (op c, 0) := by
  rcases op_or op ho c with q | ⟨-, j, hj, q⟩
  · exact absurd q h
  · unfold en
    rw [if_neg (show ¬ (op c, (0 : Int32)).1 = 0 from fun e => by
      have := (nI_eq (a := 2 + j) (b := 0) (by omega) (by omega)).mp (q.symm.trans e)
      omega), if_neg (show ¬ (op c, (0 : Int32)).1 = 1 from fun e => by
      have := (nI_eq (a := 2 + j) (b := 1) (by omega) (by omega)).mp (q.symm.trans e)
      omega)]
/-- the class read what the text says -/
def SmC (b : Nat → Int32) (L : Nat) (R : Rz) (c : List Cd) (m : Mem) (q : Bool × Mem) : Prop := (∀ p l, R = .inr (p, l) → q.1 = true ∧ TC b L p q.2 ∧ CC (c ++ l) q.2) ∧ (∀ e, R = .inl e → q.1 = false ∧ FtC e.1 e.2 q.2) ∧ Fj KPc JTc m q.2
theorem SmC.up {b : Nat → Int32} {L : Nat} {R R2 : Rz} {c l0 : List Cd} {m m2 : Mem} {q : Bool × Mem} (h : SmC b L R2 (c ++ l0) m2 q) (hR : R = bz R2 fun p2 l2 => .inr (p2, l0 ++ l2)) (hF : Fj KPc JTc m m2) : SmC b L R c m q := by
  match R2, h, hR with
  | .inl e, h, hR =>
    have hR' : R = .inl e := hR
    rw [hR']
    exact ⟨fun p l e => (by cases e), h.2.1, hF.tr h.2.2⟩
  | .inr (p2, l2), h, hR =>
    have hR' : R = .inr (p2, l0 ++ l2) := hR
    rw [hR']
    refine ⟨fun p l e => ?_, fun e he => (by cases he), hF.tr h.2.2⟩
    cases e
    have := h.1 p2 l2 rfl
    rw [List.append_assoc] at this
    exact this
theorem SmC.bad {b : Nat → Int32} {L e : Nat} {R : Rz} {c : List Cd} {k : Int32} {m m2 : Mem} (hR : R = .inl (k, e)) (hf : FtC k e m2) (hF : Fj KPc JTc m m2) : SmC b L R c m (false, m2) := by
  rw [hR]
  exact ⟨fun p l e => (by cases e), fun e' he => by cases he; exact ⟨rfl, hf⟩, hF⟩
theorem SmC.ok {b : Nat → Int32} {L p : Nat} {R : Rz} {c l : List Cd} {m m2 : Mem} {z : Bool} (hz : z = true) (hR : R = .inr (p, l)) (ht : TC b L p m2) (hC : CC (c ++ l) m2) (hF : Fj KPc JTc m m2) : SmC b L R c m (z, m2) := by
  rw [hR]
  exact ⟨fun p l e => by cases e; exact ⟨hz, ht, hC⟩, fun e' he => (by cases he), hF⟩
set_option maxHeartbeats 1000000 in
theorem lpc_P {b : Nat → Int32} {L o : Nat} {f : Nat → Rz} {rec : Nat → Nat → List Int32 → Mem → Option (Bool × Mem)} (hL : L ≤ 150) (hG : Gd L f) (HU : ∀ p c m, TC b L p m → CC c m → c.length ≤ p → Tot (rec 2 1 [nI o] m) (SmC b L (f p) c m)) : ∀ k p c m, k ≤ 150 → TC b L p m → CC c m → c.length ≤ p → Tot (loopO (fun s => r_X4_readProduct_b13 rec 1 (nI o) s.1 s.2) (nI (150 - k), m)) (Sum.elim (fun m' => SmC b L (lpP b L opP f k p) c m (true, m')) (fun q => SmC b L (lpP b L opP f k p) c m q)) := by
  intro k
  induction k with
  | zero =>
    intro p c m hk h hC hc
    refine tot_step ?_
    unfold r_X4_readProduct_b13
    rw [if_pos (show (150 : Int32) ≤ nI (150 - 0) by decide)]
    refine tot_some.mpr ?_
    exact ⟨fun p' l e => by cases e; exact ⟨rfl, h, by rw [List.append_nil]; exact hC⟩, fun e he => (by cases he), Fj.rf⟩
  | succ k ih =>
    intro p c m hk h hC hc
    have hp := h.2.2.1
    obtain ⟨s1, s2⟩ := sk_le (b := b) hp
    refine tot_step ?_
    unfold r_X4_readProduct_b13
    rw [if_neg (show ¬ (150 : Int32) ≤ nI (150 - (k + 1)) from nI_ge (b := 150) (a := 150 - (k + 1)) (by omega) (by omega)), tot_bd2]
    refine (peek_c h).mono ?_
    rintro ⟨z, m7⟩ ⟨g1, g2, g3⟩
    dsimp only at g1 g2 g3 ⊢
    have hC7 : CC c m7 := hC.fj g3 (by simp) (by decide)
    have hF7 : Fj KPc JTc m m7 := g3.mono (by simp) (by simp)
    by_cases c1 : opP (bA b L (sk b L p)) = -1
    · have hR : lpP b L opP f (k + 1) p = .inr (sk b L p, []) := by
        unfold lpP
        rw [if_pos c1]
      have n1 : ¬ z = 42 := fun q => by rw [← g1, q] at c1; exact absurd c1 (by decide)
      have n2 : ¬ z = 47 := fun q => by rw [← g1, q] at c1; exact absurd c1 (by decide)
      have n3 : ¬ z = 37 := fun q => by rw [← g1, q] at c1; exact absurd c1 (by decide)
      rw [if_neg n1, if_neg n2, if_neg n3]
      refine tot_some.mpr ?_
      show SmC b L (lpP b L opP f (k + 1) p) c m (true, m7)
      rw [hR]
      exact ⟨fun p' l e => by cases e; exact ⟨rfl, g2, by rw [List.append_nil]; exact hC7⟩, fun e he => (by cases he), hF7⟩
    · have hne : ¬ bA b L (sk b L p) = -1 := by
        rcases op_or opP (Or.inl rfl) (bA b L (sk b L p)) with q | ⟨q, -⟩
        · exact absurd q c1
        · exact q
      have hlt := bA_lt rfl hne
      have body : Tot (r_X4_readProduct_j49_c13 rec 1 (nI o) (nI (150 - (k + 1))) z m7) (Sum.elim (fun s2 => Tot (loopO (fun s => r_X4_readProduct_b13 rec 1 (nI o) s.1 s.2) s2) (Sum.elim (fun m' => SmC b L (lpP b L opP f (k + 1) p) c m (true, m')) (fun q => SmC b L (lpP b L opP f (k + 1) p) c m q))) (Sum.elim (fun m' => SmC b L (lpP b L opP f (k + 1) p) c m (true, m')) (fun q => SmC b L (lpP b L opP f (k + 1) p) c m q))) := by
        have hx : ∀ m15, (if z = 42 then (r_X4_readProduct_j99_c13 rec 1 (nI o) (nI (150 - (k + 1))) 2002 1 m15) else (if z = 47 then (r_X4_readProduct_j99_c13 rec 1 (nI o) (nI (150 - (k + 1))) 2003 1 m15) else (r_X4_readProduct_j99_c13 rec 1 (nI o) (nI (150 - (k + 1))) 2004 1 m15))) = r_X4_readProduct_j99_c13 rec 1 (nI o) (nI (150 - (k + 1))) (1998 + opP (bA b L (sk b L p))) 1 m15 := fun m15 => by
          unfold opP at c1 ⊢
          rw [g1]
          by_cases h1 : bA b L (sk b L p) = 42
          · rw [if_pos h1, if_pos h1]
            rfl
          rw [if_neg h1] at c1
          rw [if_neg h1, if_neg h1]
          by_cases h2 : bA b L (sk b L p) = 47
          · rw [if_pos h2, if_pos h2]
            rfl
          rw [if_neg h2] at c1
          rw [if_neg h2, if_neg h2]
          by_cases h3 : bA b L (sk b L p) = 37
          · rw [if_pos h3]
            rfl
          rw [if_neg h3] at c1
          exact absurd rfl c1
        unfold r_X4_readProduct_j49_c13
        rw [tot_bd2]
        refine (sign_c (c := z) g2 (by rw [g1]; exact hne)).mono ?_
        rw [sk_sk hp]
        rintro ⟨z12, m11⟩ ⟨s3, -, s5⟩
        dsimp only at s3 s5 ⊢
        obtain ⟨u1, u2, u3⟩ := s3 g1.symm
        have hC11 : CC c m11 := hC7.fj s5 (by simp) (by decide)
        have hF11 : Fj KPc JTc m m11 := hF7.tr (s5.mono (by simp) (by simp))
        rw [if_pos u1, tot_bd2]
        refine (HU (sk b L p + 1) c m11 u3 hC11 (by omega)).mono ?_
        rintro ⟨z16, m15⟩ ⟨a1, a2, a3⟩
        dsimp only at a1 a2 a3 ⊢
        have hF15 : Fj KPc JTc m m15 := hF11.tr a3
        cases hf : f (sk b L p + 1) with
        | inl e =>
          obtain ⟨b1, b2⟩ := a2 e hf
          have hR : lpP b L opP f (k + 1) p = .inl e := by
            unfold lpP
            rw [if_neg c1, bz_l hf]
          rw [if_neg (by rw [b1]; decide)]
          refine tot_some.mpr ?_
          show SmC b L (lpP b L opP f (k + 1) p) c m (false, m15)
          rw [hR]
          exact ⟨fun p' l e => (by cases e), fun e' he => by cases he; exact ⟨rfl, b2⟩, hF15⟩
        | inr pl =>
          obtain ⟨p1, l1⟩ := pl
          obtain ⟨b1, b2, b3⟩ := a1 p1 l1 hf
          obtain ⟨d1, d2, -⟩ := hG _ (by omega) p1 l1 hf
          rw [if_pos b1, hx]
          unfold r_X4_readProduct_j99_c13
          obtain ⟨m20, w1, w2, w3⟩ := putC (x := (opP (bA b L (sk b L p)), 0)) b3 (by rw [List.length_append]; omega) (en_op (Or.inl rfl) c1)
          rw [bd1_s w1]
          refine tot_some.mpr ?_
          have hn : nI (150 - (k + 1)) + 1 = nI (150 - k) := by
            rw [← nI_succ]
            exact congrArg nI (by omega)
          have e9 := ih p1 ((c ++ l1) ++ [(opP (bA b L (sk b L p)), 0)]) m20 (by omega) (b2.fj w3 (by decide) (by simp)) w2 (by rw [List.length_append, List.length_append, List.length_singleton]; omega)
          show Tot (loopO _ (nI (150 - (k + 1)) + 1, m20)) _
          rw [hn]
          have hR : lpP b L opP f (k + 1) p = bz (lpP b L opP f k p1) fun p2 l2 => .inr (p2, (l1 ++ [(opP (bA b L (sk b L p)), 0)]) ++ l2) := by
            show (if opP (bA b L (sk b L p)) = -1 then _ else _) = _
            rw [if_neg c1, bz_r hf]
          have hF20 : Fj KPc JTc m m20 := hF15.tr (w3.mono (fun q hq => hq) (by simp))
          rw [List.append_assoc] at e9
          refine e9.mono ?_
          rintro (m' | q) hq
          · exact SmC.up hq hR hF20
          · exact SmC.up hq hR hF20
      rw [g1] at body ⊢
      by_cases h1 : bA b L (sk b L p) = 42
      · rw [if_pos h1]
        exact body
      rw [if_neg h1]
      by_cases h2 : bA b L (sk b L p) = 47
      · rw [if_pos h2]
        exact body
      rw [if_neg h2]
      by_cases h3 : bA b L (sk b L p) = 37
      · rw [if_pos h3]
        exact body
      · unfold opP at c1
        rw [if_neg h1, if_neg h2, if_neg h3] at c1
        exact absurd rfl c1
theorem prod_c {b : Nat → Int32} {L o p : Nat} {f : Nat → Rz} {c : List Cd} {m : Mem} {rec : Nat → Nat → List Int32 → Mem → Option (Bool × Mem)} (hL : L ≤ 150) (hG : Gd L f) (HU : ∀ p c m, TC b L p m → CC c m → c.length ≤ p → Tot (rec 2 1 [nI o] m) (SmC b L (f p) c m)) (h : TC b L p m) (hC : CC c m) (hc : c.length ≤ p) : Tot (r_X4_readProduct rec 1 (nI o) m) (SmC b L (bz (f p) fun p1 l1 => bz (lpP b L opP f 150 p1) fun p2 l2 => .inr (p2, l1 ++ l2)) c m) := by
  unfold r_X4_readProduct
  rw [tot_bd2]
  refine (HU p c m h hC hc).mono ?_
  rintro ⟨z, m2⟩ ⟨a1, a2, a3⟩
  dsimp only at a1 a2 a3 ⊢
  cases hf : f p with
  | inl e =>
    obtain ⟨b1, b2⟩ := a2 e hf
    rw [if_neg (by rw [b1]; decide)]
    exact tot_some.mpr ⟨fun p' l e => (by cases e), fun e' he => by cases he; exact ⟨rfl, b2⟩, a3⟩
  | inr pl =>
    obtain ⟨p1, l1⟩ := pl
    obtain ⟨b1, b2, b3⟩ := a1 p1 l1 hf
    obtain ⟨d1, d2, -⟩ := hG _ h.2.2.1 p1 l1 hf
    rw [if_pos b1]
    unfold r_X4_readProduct_l13
    rw [tot_bdS]
    have e9 := lpc_P hL hG HU 150 p1 (c ++ l1) m2 (Nat.le_refl _) b2 b3 (by rw [List.length_append]; omega)
    refine Tot.mono e9 ?_
    rintro (m' | q) hq
    · show Tot (r_X4_readProduct_e108_h13 rec m') _
      unfold r_X4_readProduct_e108_h13
      exact tot_some.mpr (SmC.up hq rfl a3)
    · show Tot (some q) _
      exact tot_some.mpr (SmC.up hq rfl a3)
set_option maxHeartbeats 1000000 in
theorem lpc_S {b : Nat → Int32} {L o : Nat} {f : Nat → Rz} {rec : Nat → Nat → List Int32 → Mem → Option (Bool × Mem)} (hL : L ≤ 150) (hG : Gd L f) (HU : ∀ p c m, TC b L p m → CC c m → c.length ≤ p → Tot (rec 1 1 [nI o] m) (SmC b L (f p) c m)) : ∀ k p c m, k ≤ 150 → TC b L p m → CC c m → c.length ≤ p → Tot (loopO (fun s => r_X4_readSum_b13 rec 1 (nI o) s.1 s.2) (nI (150 - k), m)) (Sum.elim (fun m' => SmC b L (lpP b L opS f k p) c m (true, m')) (fun q => SmC b L (lpP b L opS f k p) c m q)) := by
  intro k
  induction k with
  | zero =>
    intro p c m hk h hC hc
    refine tot_step ?_
    unfold r_X4_readSum_b13
    rw [if_pos (show (150 : Int32) ≤ nI (150 - 0) by decide)]
    refine tot_some.mpr ?_
    exact ⟨fun p' l e => by cases e; exact ⟨rfl, h, by rw [List.append_nil]; exact hC⟩, fun e he => (by cases he), Fj.rf⟩
  | succ k ih =>
    intro p c m hk h hC hc
    have hp := h.2.2.1
    obtain ⟨s1, s2⟩ := sk_le (b := b) hp
    refine tot_step ?_
    unfold r_X4_readSum_b13
    rw [if_neg (show ¬ (150 : Int32) ≤ nI (150 - (k + 1)) from nI_ge (b := 150) (a := 150 - (k + 1)) (by omega) (by omega)), tot_bd2]
    refine (peek_c h).mono ?_
    rintro ⟨z, m7⟩ ⟨g1, g2, g3⟩
    dsimp only at g1 g2 g3 ⊢
    have hC7 : CC c m7 := hC.fj g3 (by simp) (by decide)
    have hF7 : Fj KPc JTc m m7 := g3.mono (by simp) (by simp)
    by_cases c1 : opS (bA b L (sk b L p)) = -1
    · have hR : lpP b L opS f (k + 1) p = .inr (sk b L p, []) := by
        unfold lpP
        rw [if_pos c1]
      have n1 : ¬ z = 43 := fun q => by rw [← g1, q] at c1; exact absurd c1 (by decide)
      have n2 : ¬ z = 45 := fun q => by rw [← g1, q] at c1; exact absurd c1 (by decide)
      rw [if_neg n1, if_neg n2]
      refine tot_some.mpr ?_
      show SmC b L (lpP b L opS f (k + 1) p) c m (true, m7)
      rw [hR]
      exact ⟨fun p' l e => by cases e; exact ⟨rfl, g2, by rw [List.append_nil]; exact hC7⟩, fun e he => (by cases he), hF7⟩
    · have hne : ¬ bA b L (sk b L p) = -1 := by
        rcases op_or opS (Or.inr rfl) (bA b L (sk b L p)) with q | ⟨q, -⟩
        · exact absurd q c1
        · exact q
      have hlt := bA_lt rfl hne
      have body : Tot (r_X4_readSum_j42_c13 rec 1 (nI o) (nI (150 - (k + 1))) z m7) (Sum.elim (fun s2 => Tot (loopO (fun s => r_X4_readSum_b13 rec 1 (nI o) s.1 s.2) s2) (Sum.elim (fun m' => SmC b L (lpP b L opS f (k + 1) p) c m (true, m')) (fun q => SmC b L (lpP b L opS f (k + 1) p) c m q))) (Sum.elim (fun m' => SmC b L (lpP b L opS f (k + 1) p) c m (true, m')) (fun q => SmC b L (lpP b L opS f (k + 1) p) c m q))) := by
        have hx : ∀ m15, (if z = 43 then (r_X4_readSum_j79_c13 rec 1 (nI o) (nI (150 - (k + 1))) 2000 1 m15) else (r_X4_readSum_j79_c13 rec 1 (nI o) (nI (150 - (k + 1))) 2001 1 m15)) = r_X4_readSum_j79_c13 rec 1 (nI o) (nI (150 - (k + 1))) (1998 + opS (bA b L (sk b L p))) 1 m15 := fun m15 => by
          unfold opS at c1 ⊢
          rw [g1]
          by_cases h1 : bA b L (sk b L p) = 43
          · rw [if_pos h1, if_pos h1]
            rfl
          rw [if_neg h1] at c1
          rw [if_neg h1, if_neg h1]
          by_cases h2 : bA b L (sk b L p) = 45
          · rw [if_pos h2]
            rfl
          rw [if_neg h2] at c1
          exact absurd rfl c1
        unfold r_X4_readSum_j42_c13
        rw [tot_bd2]
        refine (sign_c (c := z) g2 (by rw [g1]; exact hne)).mono ?_
        rw [sk_sk hp]
        rintro ⟨z12, m11⟩ ⟨s3, -, s5⟩
        dsimp only at s3 s5 ⊢
        obtain ⟨u1, u2, u3⟩ := s3 g1.symm
        have hC11 : CC c m11 := hC7.fj s5 (by simp) (by decide)
        have hF11 : Fj KPc JTc m m11 := hF7.tr (s5.mono (by simp) (by simp))
        rw [if_pos u1, tot_bd2]
        refine (HU (sk b L p + 1) c m11 u3 hC11 (by omega)).mono ?_
        rintro ⟨z16, m15⟩ ⟨a1, a2, a3⟩
        dsimp only at a1 a2 a3 ⊢
        have hF15 : Fj KPc JTc m m15 := hF11.tr a3
        cases hf : f (sk b L p + 1) with
        | inl e =>
          obtain ⟨b1, b2⟩ := a2 e hf
          have hR : lpP b L opS f (k + 1) p = .inl e := by
            unfold lpP
            rw [if_neg c1, bz_l hf]
          rw [if_neg (by rw [b1]; decide)]
          refine tot_some.mpr ?_
          show SmC b L (lpP b L opS f (k + 1) p) c m (false, m15)
          rw [hR]
          exact ⟨fun p' l e => (by cases e), fun e' he => by cases he; exact ⟨rfl, b2⟩, hF15⟩
        | inr pl =>
          obtain ⟨p1, l1⟩ := pl
          obtain ⟨b1, b2, b3⟩ := a1 p1 l1 hf
          obtain ⟨d1, d2, -⟩ := hG _ (by omega) p1 l1 hf
          rw [if_pos b1, hx]
          unfold r_X4_readSum_j79_c13
          obtain ⟨m20, w1, w2, w3⟩ := putC (x := (opS (bA b L (sk b L p)), 0)) b3 (by rw [List.length_append]; omega) (en_op (Or.inr rfl) c1)
          rw [bd1_s w1]
          refine tot_some.mpr ?_
          have hn : nI (150 - (k + 1)) + 1 = nI (150 - k) := by
            rw [← nI_succ]
            exact congrArg nI (by omega)
          have e9 := ih p1 ((c ++ l1) ++ [(opS (bA b L (sk b L p)), 0)]) m20 (by omega) (b2.fj w3 (by decide) (by simp)) w2 (by rw [List.length_append, List.length_append, List.length_singleton]; omega)
          show Tot (loopO _ (nI (150 - (k + 1)) + 1, m20)) _
          rw [hn]
          have hR : lpP b L opS f (k + 1) p = bz (lpP b L opS f k p1) fun p2 l2 => .inr (p2, (l1 ++ [(opS (bA b L (sk b L p)), 0)]) ++ l2) := by
            show (if opS (bA b L (sk b L p)) = -1 then _ else _) = _
            rw [if_neg c1, bz_r hf]
          have hF20 : Fj KPc JTc m m20 := hF15.tr (w3.mono (fun q hq => hq) (by simp))
          rw [List.append_assoc] at e9
          refine e9.mono ?_
          rintro (m' | q) hq
          · exact SmC.up hq hR hF20
          · exact SmC.up hq hR hF20
      rw [g1] at body ⊢
      by_cases h1 : bA b L (sk b L p) = 43
      · rw [if_pos h1]
        exact body
      rw [if_neg h1]
      by_cases h2 : bA b L (sk b L p) = 45
      · rw [if_pos h2]
        exact body
      · unfold opS at c1
        rw [if_neg h1, if_neg h2] at c1
        exact absurd rfl c1
theorem sum_c {b : Nat → Int32} {L o p : Nat} {f : Nat → Rz} {c : List Cd} {m : Mem} {rec : Nat → Nat → List Int32 → Mem → Option (Bool × Mem)} (hL : L ≤ 150) (hG : Gd L f) (HU : ∀ p c m, TC b L p m → CC c m → c.length ≤ p → Tot (rec 1 1 [nI o] m) (SmC b L (f p) c m)) (h : TC b L p m) (hC : CC c m) (hc : c.length ≤ p) : Tot (r_X4_readSum rec 1 (nI o) m) (SmC b L (bz (f p) fun p1 l1 => bz (lpP b L opS f 150 p1) fun p2 l2 => .inr (p2, l1 ++ l2)) c m) := by
  unfold r_X4_readSum
  rw [tot_bd2]
  refine (HU p c m h hC hc).mono ?_
  rintro ⟨z, m2⟩ ⟨a1, a2, a3⟩
  dsimp only at a1 a2 a3 ⊢
  cases hf : f p with
  | inl e =>
    obtain ⟨b1, b2⟩ := a2 e hf
    rw [if_neg (by rw [b1]; decide)]
    exact tot_some.mpr ⟨fun p' l e => (by cases e), fun e' he => by cases he; exact ⟨rfl, b2⟩, a3⟩
  | inr pl =>
    obtain ⟨p1, l1⟩ := pl
    obtain ⟨b1, b2, b3⟩ := a1 p1 l1 hf
    obtain ⟨d1, d2, -⟩ := hG _ h.2.2.1 p1 l1 hf
    rw [if_pos b1]
    unfold r_X4_readSum_l13
    rw [tot_bdS]
    have e9 := lpc_S hL hG HU 150 p1 (c ++ l1) m2 (Nat.le_refl _) b2 b3 (by rw [List.length_append]; omega)
    refine Tot.mono e9 ?_
    rintro (m' | q) hq
    · show Tot (r_X4_readSum_e88_h13 rec m') _
      unfold r_X4_readSum_e88_h13
      exact tot_some.mpr (SmC.up hq rfl a3)
    · show Tot (some q) _
      exact tot_some.mpr (SmC.up hq rfl a3)

/-- what is inside brackets -/
def HSc (b : Nat → Int32) (L o : Nat) (sub : Option (Nat → Rz)) (rec : Nat → Nat → List Int32 → Mem → Option (Bool × Mem)) : Prop := o ≤ 6 ∧ (o < 6 → ∃ f, sub = some f ∧ Gd L f ∧ ∀ p c m, TC b L p m → CC c m → c.length ≤ p → Tot (rec 0 1 [nI (o + 1)] m) (SmC b L (f p) c m)) ∧ (o = 6 → sub = none)
theorem HSc.gd {b : Nat → Int32} {L o : Nat} {sub : Option (Nat → Rz)} {rec : Nat → Nat → List Int32 → Mem → Option (Bool × Mem)} (h : HSc b L o sub rec) : ∀ f, sub = some f → Gd L f := fun f hf => by
  by_cases ho : o < 6
  · obtain ⟨f2, e, g, -⟩ := h.2.1 ho
    rw [e] at hf
    cases hf
    exact g
  · rw [h.2.2 (by have := h.1; omega)] at hf
    cases hf
theorem six_c {b : Nat → Int32} {L s : Nat} {m : Mem} (h : TC b L (wE b L s) m) (h2 : m 8 0 2 = nI s) {i : Nat} (hi : i < 11) : r_X8_wordIs (6 + i) m = some (decide (lk b L s = i)) := by
  have := wiB (i := 5 + i) h h2 (by omega)
  rw [show 1 + (5 + i) = 6 + i by omega] at this
  rw [this]
  exact congrArg some (decide_eq_decide.mpr (lk_iff hi))
theorem inputOf_c {b : Nat → Int32} {L s : Nat} {m : Mem} (h : TC b L (wE b L s) m) (h2 : m 8 0 2 = nI s) : r_X4_inputOf 1 m = some (if lk b L s < 9 then nI (lk b L s) else -1) := by
  have w : ∀ i, i < 11 → r_X8_wordIs (6 + i) m = some (decide (lk b L s = i)) := fun i hi => six_c h h2 hi
  unfold r_X4_inputOf
  rw [bd1_s (w 0 (by omega)), bd1_s (w 1 (by omega)), bd1_s (w 2 (by omega)), bd1_s (w 3 (by omega)), bd1_s (w 4 (by omega)), bd1_s (w 5 (by omega)), bd1_s (w 6 (by omega)), bd1_s (w 7 (by omega)), bd1_s (w 8 (by omega))]
  simp only [decide_eq_true_eq]
  generalize lk b L s = k
  by_cases hk : k < 9
  · rw [if_pos hk]
    have : k = 0 ∨ k = 1 ∨ k = 2 ∨ k = 3 ∨ k = 4 ∨ k = 5 ∨ k = 6 ∨ k = 7 ∨ k = 8 := by omega
    rcases this with rfl | rfl | rfl | rfl | rfl | rfl | rfl | rfl | rfl <;> rfl
  · rw [if_neg hk, if_neg (by omega), if_neg (by omega), if_neg (by omega), if_neg (by omega), if_neg (by omega), if_neg (by omega), if_neg (by omega), if_neg (by omega), if_neg (by omega)]
theorem brackets_c {b : Nat → Int32} {L o p : Nat} {sub : Option (Nat → Rz)} {c : List Cd} {m m0 : Mem} {rec : Nat → Nat → List Int32 → Mem → Option (Bool × Mem)} (hS : HSc b L o sub rec) (hd : ¬ dgF (bA b L (sk b L p)) = true) (h40 : bA b L (sk b L p) = 40) (h : TC b L (sk b L p) m) (hC : CC c m) (hc : c.length ≤ p) (hp : p ≤ L) (hF : Fj KPc JTc m0 m) : Tot (r_X4_readBrackets rec 1 (nI o) m) (SmC b L (unP b L sub p) c m0) := by
  have hlt := bA_lt h40 (by decide)
  obtain ⟨s1, s2⟩ := sk_le (b := b) hp
  unfold r_X4_readBrackets
  rw [tot_bd2]
  have q2 : Tot (r_X8_sign 40 m) (fun q => q.1 = true ∧ TC b L (sk b L p + 1) q.2 ∧ q.2 8 0 2 = nI (sk b L p) ∧ Fj [] JTc m q.2) := by
    unfold r_X8_sign
    rw [tot_bd2]
    refine (peek_c h).mono ?_
    rw [sk_sk hp]
    rintro ⟨z, m2⟩ ⟨h1, h2, h3⟩
    dsimp only at h1 h2 h3 ⊢
    rw [h1, if_pos h40]
    have hF3 : Fj [] [(8, 2), (8, 6)] m2 (wr (wr m2 8 0 2 (m2 8 0 6)) 8 0 6 (m2 8 0 6 + 1)) := (Fj.rf.wrJ (by simp) _ _).wrJ (by simp) _ _
    refine tot_some.mpr ⟨rfl, h2.mv hF3 (by simp) (by decide) ?_ (by omega), ?_, (h3.mono (by simp) (by simp)).tr (hF3.mono (by simp) (by simp))⟩
    · dsimp only
      rw [wr_eq, h2.2.1, nI_succ]
    · dsimp only
      rw [wr_j (by decide), wr_eq, h2.2.1]
  refine q2.mono ?_
  rintro ⟨z, m2⟩ ⟨a1, a2, a3, a4⟩
  dsimp only at a1 a2 a3 a4 ⊢
  have hF2 : Fj KPc JTc m0 m2 := hF.tr (a4.mono (by simp) (by simp))
  have ho6 := hS.1
  rw [if_pos a1]
  by_cases ho : o < 6
  · obtain ⟨f, hf, hG, hr⟩ := hS.2.1 ho
    have hR : unP b L sub p = bz (f (sk b L p + 1)) fun p1 l1 => if bA b L (sk b L p1) = 41 then .inr (sk b L p1 + 1, l1) else .inl (1, sk b L p1) := by
      unfold unP
      rw [if_neg hd, if_pos h40, hf]
    rw [if_pos (show nI (o) < (6 : Int32) from nI_lt (a := o) (b := 6) (by omega) (by omega)), ← nI_succ, tot_bd2]
    refine (hr (sk b L p + 1) c m2 a2 (hC.fj a4 (by simp) (by decide)) (by omega)).mono ?_
    rintro ⟨z8, m7⟩ ⟨b1, b2, b3⟩
    dsimp only at b1 b2 b3 ⊢
    have hF7 : Fj KPc JTc m0 m7 := hF2.tr b3
    cases hq : f (sk b L p + 1) with
    | inl e =>
      obtain ⟨d1, d2⟩ := b2 e hq
      rw [bz_l hq] at hR
      rw [if_neg (by rw [d1]; decide)]
      exact tot_some.mpr (SmC.bad hR d2 hF7)
    | inr pl =>
      obtain ⟨p1, l1⟩ := pl
      obtain ⟨d1, d2, d3⟩ := b1 p1 l1 hq
      rw [bz_r hq] at hR
      rw [if_pos d1, tot_bd2]
      refine (sign_c (c := 41) d2 (by decide)).mono ?_
      rintro ⟨z12, m11⟩ ⟨e1, e2, e3⟩
      dsimp only at e1 e2 e3 ⊢
      have hF11 : Fj KPc JTc m0 m11 := hF7.tr (e3.mono (by simp) (by simp))
      by_cases c5 : bA b L (sk b L p1) = 41
      · obtain ⟨u1, u2, u3⟩ := e1 c5
        rw [if_pos c5] at hR
        rw [if_pos u1]
        exact tot_some.mpr (SmC.ok rfl hR u3 (d3.fj e3 (by simp) (by decide)) hF11)
      · obtain ⟨u1, u2⟩ := e2 c5
        rw [if_neg c5] at hR
        rw [if_neg (by rw [u1]; decide)]
        exact tot_some.mpr (SmC.bad hR u2 hF11)
  · have hR : unP b L sub p = .inl (3, sk b L p) := by
      unfold unP
      rw [if_neg hd, if_pos h40, hS.2.2 (by omega)]
    obtain ⟨mw, w1, w2, w3⟩ := wrong_c (m := m2) (k := 3) (e := sk b L p)
    rw [if_neg (show ¬ nI (o) < (6 : Int32) from nI_nlt (a := o) (b := 6) (by omega) (by omega)), a3, bd2_s w1]
    exact tot_some.mpr (SmC.bad hR w2 (hF2.tr (w3.mono (by simp) (by simp))))
set_option maxHeartbeats 1000000 in
theorem pair_c {b : Nat → Int32} {L o p : Nat} {sub : Option (Nat → Rz)} {c : List Cd} {m m0 : Mem} {rec : Nat → Nat → List Int32 → Mem → Option (Bool × Mem)} {y : Int32} (hL : L ≤ 150) (hS : HSc b L o sub rec) (hd : ¬ dgF (bA b L (sk b L p)) = true) (h40 : ¬ bA b L (sk b L p) = 40) (h9 : ¬ lk b L (sk b L p) < 9) (h11 : lk b L (sk b L p) < 11) (hy : y = en (nI (lk b L (sk b L p) - 2), 0)) (h : TC b L (wE b L (sk b L p)) m) (h2 : m 8 0 2 = nI (sk b L p)) (hC : CC c m) (hc : c.length ≤ p) (hp : p ≤ L) (hF : Fj KPc JTc m0 m) : Tot (r_X4_readPair rec 1 (nI o) y m) (SmC b L (unP b L sub p) c m0) := by
  obtain ⟨s1, s2⟩ := sk_le (b := b) hp
  have ho6 := hS.1
  have hw : sk b L p ≤ wE b L (sk b L p) := rn_ge _ _ _ _
  have hw2 := h.2.2.1
  obtain ⟨s3, s4⟩ := sk_le (b := b) hw2
  unfold r_X4_readPair
  by_cases ho : o < 6
  case neg =>
    have hR : unP b L sub p = .inl (3, sk b L p) := by
      unfold unP
      rw [if_neg hd, if_neg h40, if_neg h9, if_pos h11, hS.2.2 (by omega)]
    obtain ⟨mw, w1, w2, w3⟩ := wrong_c (m := m) (k := 3) (e := sk b L p)
    rw [if_neg (show ¬ nI (o) < (6 : Int32) from nI_nlt (a := o) (b := 6) (by omega) (by omega)), h2, bd2_s w1]
    exact tot_some.mpr (SmC.bad hR w2 (hF.tr (w3.mono (by simp) (by simp))))
  obtain ⟨f, hf, hG, hr⟩ := hS.2.1 ho
  have hR : unP b L sub p = if bA b L (sk b L (wE b L (sk b L p))) = 91 then
        bz (f (sk b L (wE b L (sk b L p)) + 1)) fun p1 l1 => if bA b L (sk b L p1) = 44 then
          bz (f (sk b L p1 + 1)) fun p2 l2 => if bA b L (sk b L p2) = 93 then .inr (sk b L p2 + 1, (l1 ++ l2) ++ [(nI (lk b L (sk b L p) - 2), 0)]) else .inl (1, sk b L p2)
        else .inl (1, sk b L p1)
      else .inl (1, sk b L (wE b L (sk b L p))) := by
    unfold unP
    rw [if_neg hd, if_neg h40, if_neg h9, if_pos h11, hf]
  rw [if_pos (show nI (o) < (6 : Int32) from nI_lt (a := o) (b := 6) (by omega) (by omega)), ← nI_succ, tot_bd2]
  refine (sign_c (c := 91) h (by decide)).mono ?_
  rintro ⟨z4, m3⟩ ⟨e1, e2, e3⟩
  dsimp only at e1 e2 e3 ⊢
  have hF3 : Fj KPc JTc m0 m3 := hF.tr (e3.mono (by simp) (by simp))
  by_cases c5 : bA b L (sk b L (wE b L (sk b L p))) = 91
  case neg =>
    obtain ⟨u1, u2⟩ := e2 c5
    rw [if_neg c5] at hR
    rw [if_neg (by rw [u1]; decide)]
    exact tot_some.mpr (SmC.bad hR u2 hF3)
  obtain ⟨u1, u2, u3⟩ := e1 c5
  rw [if_pos c5] at hR
  rw [if_pos u1, tot_bd2]
  refine (hr _ c m3 u3 (hC.fj e3 (by simp) (by decide)) (by omega)).mono ?_
  rintro ⟨z8, m7⟩ ⟨b1, b2, b3⟩
  dsimp only at b1 b2 b3 ⊢
  have hF7 : Fj KPc JTc m0 m7 := hF3.tr b3
  cases hq : f (sk b L (wE b L (sk b L p)) + 1) with
  | inl e =>
    obtain ⟨d1, d2⟩ := b2 e hq
    rw [bz_l hq] at hR
    rw [if_neg (by rw [d1]; decide)]
    exact tot_some.mpr (SmC.bad hR d2 hF7)
  | inr pl =>
    obtain ⟨p1, l1⟩ := pl
    obtain ⟨d1, d2, d3⟩ := b1 p1 l1 hq
    obtain ⟨x1, x2, -⟩ := hG _ (by omega) p1 l1 hq
    obtain ⟨s5, s6⟩ := sk_le (b := b) x2
    rw [bz_r hq] at hR
    rw [if_pos d1, tot_bd2]
    refine (sign_c (c := 44) d2 (by decide)).mono ?_
    rintro ⟨z12, m11⟩ ⟨e4, e5, e6⟩
    dsimp only at e4 e5 e6 ⊢
    have hF11 : Fj KPc JTc m0 m11 := hF7.tr (e6.mono (by simp) (by simp))
    by_cases c6 : bA b L (sk b L p1) = 44
    case neg =>
      obtain ⟨v1, v2⟩ := e5 c6
      rw [if_neg c6] at hR
      rw [if_neg (by rw [v1]; decide)]
      exact tot_some.mpr (SmC.bad hR v2 hF11)
    obtain ⟨v1, v2, v3⟩ := e4 c6
    rw [if_pos c6] at hR
    rw [if_pos v1, tot_bd2]
    refine (hr _ (c ++ l1) m11 v3 (d3.fj e6 (by simp) (by decide)) (by rw [List.length_append]; omega)).mono ?_
    rintro ⟨z16, m15⟩ ⟨b4, b5, b6⟩
    dsimp only at b4 b5 b6 ⊢
    have hF15 : Fj KPc JTc m0 m15 := hF11.tr b6
    cases hq2 : f (sk b L p1 + 1) with
    | inl e =>
      obtain ⟨d4, d5⟩ := b5 e hq2
      rw [bz_l hq2] at hR
      rw [if_neg (by rw [d4]; decide)]
      exact tot_some.mpr (SmC.bad hR d5 hF15)
    | inr pl =>
      obtain ⟨p2, l2⟩ := pl
      obtain ⟨d4, d5, d6⟩ := b4 p2 l2 hq2
      obtain ⟨x3, x4, -⟩ := hG _ (by omega) p2 l2 hq2
      rw [bz_r hq2] at hR
      rw [if_pos d4]
      obtain ⟨m19, w1, w2, w3⟩ := putC (x := (nI (lk b L (sk b L p) - 2), 0)) d6 (by rw [List.length_append, List.length_append]; omega) hy
      rw [bd1_s w1, tot_bd2]
      have hF19 : Fj KPc JTc m0 m19 := hF15.tr (w3.mono (fun q hq => hq) (by simp))
      refine (sign_c (c := 93) (d5.fj w3 (by decide) (by simp)) (by decide)).mono ?_
      rintro ⟨z22, m21⟩ ⟨e7, e8, e9⟩
      dsimp only at e7 e8 e9 ⊢
      have hF21 : Fj KPc JTc m0 m21 := hF19.tr (e9.mono (by simp) (by simp))
      by_cases c7 : bA b L (sk b L p2) = 93
      · obtain ⟨t1, t2, t3⟩ := e7 c7
        rw [if_pos c7] at hR
        refine tot_some.mpr (SmC.ok t1 hR t3 ?_ hF21)
        have := w2.fj e9 (by simp) (by decide)
        rw [List.append_assoc, List.append_assoc, ← List.append_assoc l1] at this
        exact this
      · obtain ⟨t1, t2⟩ := e8 c7
        rw [if_neg c7] at hR
        rw [t1]
        exact tot_some.mpr (SmC.bad hR t2 hF21)
set_option maxHeartbeats 1000000 in
theorem unit_c {b : Nat → Int32} {L o p g : Nat} {sub : Option (Nat → Rz)} {c : List Cd} {m : Mem} (hL : L ≤ 150) (hS : HSc b L o sub (rec_law g)) (h : TC b L p m) (hC : CC c m) (hc : c.length ≤ p) : Tot (r_X4_readUnit (rec_law (g + 1)) 1 (nI o) m) (SmC b L (unP b L sub p) c m) := by
  have hp := h.2.2.1
  obtain ⟨s1, s2⟩ := sk_le (b := b) hp
  unfold r_X4_readUnit
  rw [tot_bd2]
  refine (peek_c h).mono ?_
  rintro ⟨z, m2⟩ ⟨g1, g2, g3⟩
  dsimp only at g1 g2 g3 ⊢
  have hC2 : CC c m2 := hC.fj g3 (by simp) (by decide)
  have hF2 : Fj KPc JTc m m2 := g3.mono (by simp) (by simp)
  rw [g1]
  by_cases hd : dgF (bA b L (sk b L p)) = true
  · rw [if_pos hd, tot_bd2]
    unfold r_X4_readNumber
    rw [tot_bd2]
    refine (number_c g2).mono ?_
    rw [sk_sk hp]
    rintro ⟨z3, m3⟩ ⟨a1, a2, a3⟩
    dsimp only at a1 a2 a3 ⊢
    have hF3 : Fj KPc JTc m m3 := hF2.tr (a3.mono (by simp) (by simp))
    by_cases e0 : nmE b L 0 999 (sk b L p) = 0
    · obtain ⟨v1, v2, v3⟩ := a1 e0
      have hx := (nm_in e0).2.2
      have hR : unP b L sub p = .inr (nmN b L (sk b L p), [(0, nmV b L (sk b L p))]) := by
        unfold unP
        rw [if_pos hd, if_pos e0]
      have hnL : nmN b L (sk b L p) ≤ L := rn_le s2
      obtain ⟨m6, w1, w2, w3⟩ := putC (x := (0, nmV b L (sk b L p))) (y := z3) (hC2.fj a3 (by simp) (by decide)) (by omega) (by rw [v1]; rfl)
      rw [if_neg (by rw [v1]; exact nm_m1 e0 (by decide)), bd1_s w1]
      refine tot_some.mpr ?_
      exact tot_some.mpr (SmC.ok rfl hR (v2.fj w3 (by decide) (by simp)) w2 (hF3.tr (w3.mono (fun q hq => hq) (by simp))))
    · obtain ⟨v1, v2⟩ := a2 e0
      have hR : unP b L sub p = .inl (nmE b L 0 999 (sk b L p), sk b L p) := by
        unfold unP
        rw [if_pos hd, if_neg e0]
      rw [if_pos v1]
      refine tot_some.mpr ?_
      exact tot_some.mpr (SmC.bad hR v2 hF3)
  rw [if_neg hd]
  have ed : ∀ o2 : Option (Bool × Mem), Tot o2 (SmC b L (unP b L sub p) c m) → Tot (bd2 o2 fun z m => some (z, m)) (SmC b L (unP b L sub p) c m) := fun o2 ho => by
    rw [tot_bd2]
    refine ho.mono ?_
    rintro ⟨z, m3⟩ hz
    exact tot_some.mpr hz
  by_cases h40 : bA b L (sk b L p) = 40
  · rw [if_pos h40]
    exact ed _ (brackets_c hS hd h40 g2 hC2 hc hp hF2)
  rw [if_neg h40, tot_bd2]
  refine (word_c g2).mono ?_
  rw [sk_sk hp]
  rintro ⟨z14, m13⟩ ⟨a1, a2, a3⟩
  dsimp only at a1 a2 a3 ⊢
  have hF13 : Fj KPc JTc m m13 := hF2.tr (a3.mono (by simp) (by simp))
  have hC13 : CC c m13 := hC2.fj a3 (by simp) (by decide)
  by_cases hl : ltF (bA b L (sk b L p)) = true
  case neg =>
    obtain ⟨v1, v2⟩ := a2 hl
    have h11 := lk_no s2 hl
    have hR : unP b L sub p = .inl (1, sk b L p) := by
      unfold unP
      rw [if_neg hd, if_neg h40, if_neg (by omega), if_neg (by omega)]
    rw [if_neg (by rw [v1]; decide)]
    exact tot_some.mpr (SmC.bad hR v2 hF13)
  obtain ⟨v1, v2, v3⟩ := a1 hl
  have hlt : sk b L p < L := by
    by_cases hx : sk b L p < L
    · exact hx
    · rw [bA_out hx] at hl
      exact absurd hl (by decide)
  rw [if_pos v1, bd1_s (inputOf_c v2 v3)]
  by_cases h9 : lk b L (sk b L p) < 9
  · have hR : unP b L sub p = .inr (wE b L (sk b L p), [(1, nI (lk b L (sk b L p)))]) := by
      unfold unP
      rw [if_neg hd, if_neg h40, if_pos h9]
    obtain ⟨m6, w1, w2, w3⟩ := putC (x := (1, nI (lk b L (sk b L p)))) (y := 1000 + nI (lk b L (sk b L p))) hC13 (by omega) (en_1 _)
    rw [if_pos h9, if_neg (m1_ne (by omega)), bd1_s w1]
    exact tot_some.mpr (SmC.ok rfl hR (v2.fj w3 (by decide) (by simp)) w2 (hF13.tr (w3.mono (fun q hq => hq) (by simp))))
  rw [if_neg h9, if_pos rfl, bd1_s (six_c v2 v3 (i := 9) (by omega))]
  by_cases h9' : lk b L (sk b L p) = 9
  · rw [decide_eq_true h9', if_pos rfl]
    exact ed _ (pair_c hL hS hd h40 h9 (by omega) (by rw [h9']; rfl) v2 v3 hC13 hc hp hF13)
  rw [decide_eq_false h9', if_neg (by decide), bd1_s (six_c v2 v3 (i := 10) (by omega))]
  by_cases h10 : lk b L (sk b L p) = 10
  · rw [decide_eq_true h10, if_pos rfl]
    exact ed _ (pair_c hL hS hd h40 h9 (by omega) (by rw [h10]; rfl) v2 v3 hC13 hc hp hF13)
  have hle : lk b L (sk b L p) ≤ 11 := fa_first_le _ _
  have hR : unP b L sub p = .inl (1, sk b L p) := by
    unfold unP
    rw [if_neg hd, if_neg h40, if_neg h9, if_neg (by omega)]
  obtain ⟨mw, w1, w2, w3⟩ := wrong_c (m := m13) (k := 1) (e := sk b L p)
  rw [decide_eq_false h10, if_neg (by decide), v3, bd2_s w1]
  exact tot_some.mpr (SmC.bad hR w2 (hF13.tr (w3.mono (by simp) (by simp))))
theorem sumAll_c {b : Nat → Int32} {L : Nat} (hL : L ≤ 150) : ∀ d g, d ≤ 6 → ∀ p c m, TC b L p m → CC c m → c.length ≤ p → Tot (rec_law (4 * d + g + 4) 0 1 [nI (6 - d)] m) (SmC b L (sP b L d p) c m) := by
  intro d
  induction d with
  | zero =>
    intro g hd p c m h hC hc
    have hS : HSc b L 6 none (rec_law g) := ⟨by omega, fun h => by omega, fun _ => rfl⟩
    rw [show 4 * 0 + g + 4 = (((g + 1) + 1) + 1) + 1 by omega]
    exact sum_c hL (Gd.pr hS.gd) (fun p c m h hC hc => prod_c hL (Gd.un hS.gd) (fun p c m h hC hc => unit_c hL hS h hC hc) h hC hc) h hC hc
  | succ d ih =>
    intro g hd p c m h hC hc
    have hS : HSc b L (6 - (d + 1)) (some (sP b L d)) (rec_law (4 * d + g + 4)) := ⟨by omega, fun _ => ⟨_, rfl, Gd.s d, fun p c m h hC hc => by
      rw [show 6 - (d + 1) + 1 = 6 - d by omega]
      exact ih g (by omega) p c m h hC hc⟩, fun h => by omega⟩
    rw [show 4 * (d + 1) + g + 4 = ((((4 * d + g + 4) + 1) + 1) + 1) + 1 by omega]
    exact sum_c hL (Gd.pr hS.gd) (fun p c m h hC hc => prod_c hL (Gd.un hS.gd) (fun p c m h hC hc => unit_c hL hS h hC hc) h hC hc) h hC hc
