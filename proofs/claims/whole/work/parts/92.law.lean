/-! ===== the law's text: what it says, or what is wrong ===== -/
abbrev Cd : Type := Int32 × Int32
abbrev Rz : Type := (Int32 × Nat) ⊕ (Nat × List Cd)
def bz (r : Rz) (f : Nat → List Cd → Rz) : Rz := match r with
  | .inl e => .inl e
  | .inr q => f q.1 q.2
theorem bz_l {r : Rz} {e : Int32 × Nat} {f : Nat → List Cd → Rz} (h : r = .inl e) : bz r f = .inl e := by rw [h]; rfl
theorem bz_r {r : Rz} {p : Nat} {l : List Cd} {f : Nat → List Cd → Rz} (h : r = .inr (p, l)) : bz r f = f p l := by rw [h]; rfl
theorem bz_ok {r : Rz} {f : Nat → List Cd → Rz} {q : Nat × List Cd} (h : bz r f = .inr q) : ∃ p l, r = .inr (p, l) ∧ f p l = .inr q := by
  match r, h with
  | .inl e, h => exact absurd h (by intro h2; cases h2)
  | .inr (p, l), h => exact ⟨p, l, rfl, h⟩
/-- which of the law's words -/
noncomputable def lk (b : Nat → Int32) (L s : Nat) : Nat := fa_first (fun i => decide (wcd b L s = nI (scd (6 + i)))) 11
theorem scd_dj : ∀ i, i < 11 → ∀ j, j < 11 → nI (scd (6 + i)) = nI (scd (6 + j)) → i = j := by decide +kernel
theorem scd_nz : ∀ i, i < 11 → ¬ nI (scd (6 + i)) = 0 := by decide +kernel
theorem lk_at {b : Nat → Int32} {L s i : Nat} (hi : i < 11) (h : wcd b L s = nI (scd (6 + i))) : lk b L s = i :=
  first_at hi (decide_eq_true h) (fun j hj => decide_eq_false (fun q => by
    have := scd_dj j (by omega) i hi (q.symm.trans h)
    omega))
theorem lk_of {b : Nat → Int32} {L s : Nat} (h : lk b L s < 11) : wcd b L s = nI (scd (6 + lk b L s)) := of_decide_eq_true (fa_first_yes _ _ h)
theorem lk_iff {b : Nat → Int32} {L s i : Nat} (hi : i < 11) : wcd b L s = nI (scd (6 + i)) ↔ lk b L s = i :=
  ⟨lk_at hi, fun h => by
    have := lk_of (b := b) (L := L) (s := s) (by omega)
    rw [h] at this
    exact this⟩
theorem wcd_no {b : Nat → Int32} {L s : Nat} (hs : s ≤ L) (h : ¬ ltF (bA b L s) = true) : wcd b L s = 0 := by
  unfold wcd
  rw [show wE b L s = s from rn_zero hs (ts_nt' h), Nat.sub_self, if_pos (by omega)]
  rfl
theorem lk_no {b : Nat → Int32} {L s : Nat} (hs : s ≤ L) (h : ¬ ltF (bA b L s) = true) : lk b L s = 11 :=
  first_none (fun j hj => decide_eq_false (fun q => by
    rw [wcd_no hs h] at q
    exact scd_nz j hj q.symm))
noncomputable def unP (b : Nat → Int32) (L : Nat) (sub : Option (Nat → Rz)) (p : Nat) : Rz :=
  if dgF (bA b L (sk b L p)) = true then (if nmE b L 0 999 (sk b L p) = 0 then .inr (nmN b L (sk b L p), [(0, nmV b L (sk b L p))]) else .inl (nmE b L 0 999 (sk b L p), sk b L p))
  else if bA b L (sk b L p) = 40 then (match sub with
    | none => .inl (3, sk b L p)
    | some f => bz (f (sk b L p + 1)) fun p1 l1 => if bA b L (sk b L p1) = 41 then .inr (sk b L p1 + 1, l1) else .inl (1, sk b L p1))
  else if lk b L (sk b L p) < 9 then .inr (wE b L (sk b L p), [(1, nI (lk b L (sk b L p)))])
  else if lk b L (sk b L p) < 11 then (match sub with
    | none => .inl (3, sk b L p)
    | some f => if bA b L (sk b L (wE b L (sk b L p))) = 91 then
        bz (f (sk b L (wE b L (sk b L p)) + 1)) fun p1 l1 => if bA b L (sk b L p1) = 44 then
          bz (f (sk b L p1 + 1)) fun p2 l2 => if bA b L (sk b L p2) = 93 then .inr (sk b L p2 + 1, (l1 ++ l2) ++ [(nI (lk b L (sk b L p) - 2), 0)]) else .inl (1, sk b L p2)
        else .inl (1, sk b L p1)
      else .inl (1, sk b L (wE b L (sk b L p))))
  else .inl (1, sk b L p)
noncomputable def lpP (b : Nat → Int32) (L : Nat) (op : Int32 → Int32) (f : Nat → Rz) : Nat → Nat → Rz
  | 0, p => .inr (p, [])
  | k + 1, p => if op (bA b L (sk b L p)) = -1 then .inr (sk b L p, []) else bz (f (sk b L p + 1)) fun p1 l1 => bz (lpP b L op f k p1) fun p2 l2 => .inr (p2, (l1 ++ [(op (bA b L (sk b L p)), 0)]) ++ l2)
def opP (c : Int32) : Int32 := if c = 42 then 4 else if c = 47 then 5 else if c = 37 then 6 else -1
def opS (c : Int32) : Int32 := if c = 43 then 2 else if c = 45 then 3 else -1
noncomputable def prP (b : Nat → Int32) (L : Nat) (sub : Option (Nat → Rz)) (p : Nat) : Rz := bz (unP b L sub p) fun p1 l1 => bz (lpP b L opP (unP b L sub) 150 p1) fun p2 l2 => .inr (p2, l1 ++ l2)
noncomputable def suP (b : Nat → Int32) (L : Nat) (sub : Option (Nat → Rz)) (p : Nat) : Rz := bz (prP b L sub p) fun p1 l1 => bz (lpP b L opS (prP b L sub) 150 p1) fun p2 l2 => .inr (p2, l1 ++ l2)
noncomputable def sP (b : Nat → Int32) (L : Nat) : Nat → Nat → Rz
  | 0 => suP b L none
  | d + 1 => suP b L (some (sP b L d))
/-- codes that can stand, from so many values on the stack to so many -/
def Okc : Nat → List Cd → Nat → Prop
  | d, [], e => d = e
  | d, x :: t, e => (((x.1 = 0 ∧ inb x.2 1000 = true) ∨ (x.1 = 1 ∧ inb x.2 9 = true)) ∧ Okc (d + 1) t e) ∨ ((∃ j, j < 7 ∧ x.1 = nI (2 + j)) ∧ 2 ≤ d ∧ Okc (d - 1) t e)
theorem Okc.app : ∀ {l1 l2 : List Cd} {d e f : Nat}, Okc d l1 e → Okc e l2 f → Okc d (l1 ++ l2) f
  | [], l2, d, e, f, h1, h2 => by
    have h3 : d = e := h1
    rw [h3]
    exact h2
  | x :: t, l2, d, e, f, h1, h2 => by
    rcases h1 with ⟨a, h⟩ | ⟨a, c, h⟩
    · exact Or.inl ⟨a, Okc.app h h2⟩
    · exact Or.inr ⟨a, c, Okc.app h h2⟩
/-- what a reader says is well: it takes a byte for a code, stays in the text, and leaves one value more -/
def Gd (L : Nat) (f : Nat → Rz) : Prop := ∀ s, s ≤ L → ∀ p l, f s = .inr (p, l) → s + l.length ≤ p ∧ p ≤ L ∧ ∀ d, Okc d l (d + 1)
theorem sk_le {b : Nat → Int32} {L p : Nat} (h : p ≤ L) : p ≤ sk b L p ∧ sk b L p ≤ L := ⟨rn_ge _ _ _ _, rn_le h⟩
theorem bA_lt {b : Nat → Int32} {L s : Nat} {c : Int32} (h : bA b L s = c) (hc : ¬ c = -1) : s < L := by
  by_cases hx : s < L
  · exact hx
  · rw [bA_out hx] at h
    exact absurd h.symm hc
theorem nm_1000 {b : Nat → Int32} {L s : Nat} (h : nmE b L 0 999 s = 0) : inb (nmV b L s) 1000 = true := by
  obtain ⟨h1, h2, -⟩ := nm_in h
  obtain ⟨k, hk, e⟩ := le_nI (n := 999) (by omega) ⟨h1, h2⟩
  rw [e]
  exact inb_nI (by omega) (by omega)
theorem Gd.un {b : Nat → Int32} {L : Nat} {sub : Option (Nat → Rz)} (h : ∀ f, sub = some f → Gd L f) : Gd L (unP b L sub) := by
  intro s hs p l he
  obtain ⟨s1, s2⟩ := sk_le (b := b) hs
  unfold unP at he
  by_cases c1 : dgF (bA b L (sk b L s)) = true
  · rw [if_pos c1] at he
    by_cases c2 : nmE b L 0 999 (sk b L s) = 0
    · rw [if_pos c2] at he
      cases he
      have h3 := (nm_in c2).2.2
      have h4 : nmN b L (sk b L s) ≤ L := rn_le s2
      exact ⟨by show s + 1 ≤ _; omega, h4, fun d => Or.inl ⟨Or.inl ⟨rfl, nm_1000 c2⟩, rfl⟩⟩
    · rw [if_neg c2] at he
      cases he
  rw [if_neg c1] at he
  by_cases c2 : bA b L (sk b L s) = 40
  · rw [if_pos c2] at he
    have hlt := bA_lt c2 (by decide)
    match sub, h, he with
    | none, _, he => cases he
    | some f, h, he =>
      obtain ⟨p1, l1, e1, e2⟩ := bz_ok he
      obtain ⟨g1, g2, g3⟩ := h f rfl _ (by omega) p1 l1 e1
      obtain ⟨t1, t2⟩ := sk_le (b := b) g2
      by_cases c3 : bA b L (sk b L p1) = 41
      · rw [if_pos c3] at e2
        cases e2
        have := bA_lt c3 (by decide)
        exact ⟨by omega, by omega, g3⟩
      · rw [if_neg c3] at e2
        cases e2
  rw [if_neg c2] at he
  have hlt : lk b L (sk b L s) < 11 → sk b L s < wE b L (sk b L s) ∧ wE b L (sk b L s) ≤ L := fun h11 => by
    by_cases hl : ltF (bA b L (sk b L s)) = true
    · have hx : sk b L s < L := by
        by_cases hx : sk b L s < L
        · exact hx
        · rw [bA_out hx] at hl
          exact absurd hl (by decide)
      rw [bA_in hx] at hl
      exact ⟨rn_pos hx hl, rn_le s2⟩
    · have := lk_no s2 hl
      omega
  by_cases c3 : lk b L (sk b L s) < 9
  · rw [if_pos c3] at he
    cases he
    have := hlt (by omega)
    exact ⟨by show s + 1 ≤ _; omega, by omega, fun d => Or.inl ⟨Or.inr ⟨rfl, inb_nI c3 (by omega)⟩, rfl⟩⟩
  rw [if_neg c3] at he
  by_cases c4 : lk b L (sk b L s) < 11
  case neg =>
    rw [if_neg c4] at he
    cases he
  rw [if_pos c4] at he
  obtain ⟨w1, w2⟩ := hlt c4
  obtain ⟨w3, w4⟩ := sk_le (b := b) w2
  match sub, h, he with
  | none, _, he => cases he
  | some f, h, he =>
    by_cases c5 : bA b L (sk b L (wE b L (sk b L s))) = 91
    case neg =>
      have he' : (if bA b L (sk b L (wE b L (sk b L s))) = 91 then _ else (.inl (1, sk b L (wE b L (sk b L s))) : Rz)) = _ := he
      rw [if_neg c5] at he'
      cases he'
    have he' : (if bA b L (sk b L (wE b L (sk b L s))) = 91 then _ else (.inl (1, sk b L (wE b L (sk b L s))) : Rz)) = _ := he
    rw [if_pos c5] at he'
    have x1 := bA_lt c5 (by decide)
    obtain ⟨p1, l1, e1, e2⟩ := bz_ok he'
    obtain ⟨g1, g2, g3⟩ := h f rfl _ (by omega) p1 l1 e1
    obtain ⟨t1, t2⟩ := sk_le (b := b) g2
    by_cases c6 : bA b L (sk b L p1) = 44
    case neg =>
      rw [if_neg c6] at e2
      cases e2
    rw [if_pos c6] at e2
    have x2 := bA_lt c6 (by decide)
    obtain ⟨p2, l2, e3, e4⟩ := bz_ok e2
    obtain ⟨g4, g5, g6⟩ := h f rfl _ (by omega) p2 l2 e3
    obtain ⟨t3, t4⟩ := sk_le (b := b) g5
    by_cases c7 : bA b L (sk b L p2) = 93
    case neg =>
      rw [if_neg c7] at e4
      cases e4
    rw [if_pos c7] at e4
    cases e4
    have x3 := bA_lt c7 (by decide)
    refine ⟨?_, by omega, fun d => ?_⟩
    · rw [List.length_append, List.length_append, List.length_singleton]
      omega
    · refine ((g3 d).app (g6 (d + 1))).app ?_
      refine Or.inr ⟨⟨lk b L (sk b L s) - 4, by omega, ?_⟩, by omega, rfl⟩
      exact congrArg nI (show lk b L (sk b L s) - 2 = 2 + (lk b L (sk b L s) - 4) by omega)
theorem op_or (op : Int32 → Int32) (ho : op = opP ∨ op = opS) (c : Int32) : op c = -1 ∨ (¬ c = -1 ∧ ∃ j, j < 7 ∧ op c = nI (2 + j)) := by
  rcases ho with rfl | rfl
  · unfold opP
    by_cases h1 : c = 42
    · rw [if_pos h1, h1]
      exact Or.inr ⟨by decide, 2, by omega, rfl⟩
    rw [if_neg h1]
    by_cases h2 : c = 47
    · rw [if_pos h2, h2]
      exact Or.inr ⟨by decide, 3, by omega, rfl⟩
    rw [if_neg h2]
    by_cases h3 : c = 37
    · rw [if_pos h3, h3]
      exact Or.inr ⟨by decide, 4, by omega, rfl⟩
    rw [if_neg h3]
    exact Or.inl rfl
  · unfold opS
    by_cases h1 : c = 43
    · rw [if_pos h1, h1]
      exact Or.inr ⟨by decide, 0, by omega, rfl⟩
    rw [if_neg h1]
    by_cases h2 : c = 45
    · rw [if_pos h2, h2]
      exact Or.inr ⟨by decide, 1, by omega, rfl⟩
    rw [if_neg h2]
    exact Or.inl rfl
theorem Gd.lp {b : Nat → Int32} {L : Nat} {op : Int32 → Int32} {f : Nat → Rz} (ho : op = opP ∨ op = opS) (h : Gd L f) : ∀ k s, s ≤ L → ∀ p l, lpP b L op f k s = .inr (p, l) → s + l.length ≤ p ∧ p ≤ L ∧ ∀ d, Okc (d + 1) l (d + 1)
  | 0, s, hs, p, l, he => by
    cases he
    exact ⟨Nat.le_refl _, hs, fun d => rfl⟩
  | k + 1, s, hs, p, l, he => by
    obtain ⟨s1, s2⟩ := sk_le (b := b) hs
    unfold lpP at he
    by_cases c1 : op (bA b L (sk b L s)) = -1
    · rw [if_pos c1] at he
      cases he
      exact ⟨by show s + 0 ≤ _; omega, s2, fun d => rfl⟩
    rw [if_neg c1] at he
    rcases op_or op ho (bA b L (sk b L s)) with q | ⟨q1, j, hj, q2⟩
    · exact absurd q c1
    have hlt := bA_lt rfl q1
    obtain ⟨p1, l1, e1, e2⟩ := bz_ok he
    obtain ⟨g1, g2, g3⟩ := h _ (by omega) p1 l1 e1
    obtain ⟨p2, l2, e3, e4⟩ := bz_ok e2
    obtain ⟨g4, g5, g6⟩ := Gd.lp ho h k p1 g2 p2 l2 e3
    cases e4
    refine ⟨?_, g5, fun d => ?_⟩
    · rw [List.length_append, List.length_append, List.length_singleton]
      omega
    · refine ((g3 (d + 1)).app ?_).app (g6 d)
      exact Or.inr ⟨⟨j, hj, q2⟩, by omega, rfl⟩
theorem Gd.pr {b : Nat → Int32} {L : Nat} {sub : Option (Nat → Rz)} (h : ∀ f, sub = some f → Gd L f) : Gd L (prP b L sub) := by
  intro s hs p l he
  unfold prP at he
  obtain ⟨p1, l1, e1, e2⟩ := bz_ok he
  obtain ⟨g1, g2, g3⟩ := Gd.un h s hs p1 l1 e1
  obtain ⟨p2, l2, e3, e4⟩ := bz_ok e2
  obtain ⟨g4, g5, g6⟩ := Gd.lp (Or.inl rfl) (Gd.un h) 150 p1 g2 p2 l2 e3
  cases e4
  exact ⟨by rw [List.length_append]; omega, g5, fun d => (g3 d).app (g6 d)⟩
theorem Gd.su {b : Nat → Int32} {L : Nat} {sub : Option (Nat → Rz)} (h : ∀ f, sub = some f → Gd L f) : Gd L (suP b L sub) := by
  intro s hs p l he
  unfold suP at he
  obtain ⟨p1, l1, e1, e2⟩ := bz_ok he
  obtain ⟨g1, g2, g3⟩ := Gd.pr h s hs p1 l1 e1
  obtain ⟨p2, l2, e3, e4⟩ := bz_ok e2
  obtain ⟨g4, g5, g6⟩ := Gd.lp (Or.inr rfl) (Gd.pr h) 150 p1 g2 p2 l2 e3
  cases e4
  exact ⟨by rw [List.length_append]; omega, g5, fun d => (g3 d).app (g6 d)⟩
theorem Gd.s {b : Nat → Int32} {L : Nat} : ∀ d, Gd L (sP b L d)
  | 0 => Gd.su (fun f h => by cases h)
  | d + 1 => Gd.su (fun f h => by cases h; exact Gd.s d)
/-! codes as rows -/
def cwf (c : List Cd) (k : Nat) : Int32 := (c.getD k (0, 0)).1
def cvf (c : List Cd) (k : Nat) : Int32 := (c.getD k (0, 0)).2
theorem getD_app1 {c l : List Cd} {k : Nat} (h : k < c.length) : (c ++ l).getD k (0, 0) = c.getD k (0, 0) := by
  rw [List.getD_eq_getElem?_getD, List.getD_eq_getElem?_getD, List.getElem?_append_left h]
theorem getD_end (c : List Cd) (x : Cd) : (c ++ [x]).getD c.length (0, 0) = x := by
  rw [List.getD_eq_getElem?_getD, List.getElem?_append_right (Nat.le_refl _), Nat.sub_self]
  rfl
theorem getD_mid (c t : List Cd) (x : Cd) : (c ++ x :: t).getD c.length (0, 0) = x := by
  rw [List.getD_eq_getElem?_getD, List.getElem?_append_right (Nat.le_refl _), Nat.sub_self]
  rfl
theorem okc_at : ∀ (l pre : List Cd) (d e : Nat), dpt (cwf (pre ++ l)) pre.length = d → Okc d l e → ∀ k, pre.length ≤ k → k < (pre ++ l).length → (cwf (pre ++ l) k = 0 ∧ inb (cvf (pre ++ l) k) 1000 = true) ∨ (cwf (pre ++ l) k = 1 ∧ inb (cvf (pre ++ l) k) 9 = true) ∨ ∃ j, j < 7 ∧ cwf (pre ++ l) k = nI (2 + j) ∧ 2 ≤ dpt (cwf (pre ++ l)) k
  | [], pre, d, e, _, _, k, h1, h2 => by
    rw [List.append_nil] at h2
    omega
  | x :: t, pre, d, e, hd, ho, k, h1, h2 => by
    have hx : (pre ++ x :: t).getD pre.length (0, 0) = x := getD_mid pre t x
    have hw : cwf (pre ++ x :: t) pre.length = x.1 := by unfold cwf; rw [hx]
    have hv : cvf (pre ++ x :: t) pre.length = x.2 := by unfold cvf; rw [hx]
    have ha : pre ++ x :: t = (pre ++ [x]) ++ t := by rw [List.append_assoc]; rfl
    have hl : (pre ++ [x]).length = pre.length + 1 := by rw [List.length_append]; rfl
    have hs : dpt (cwf (pre ++ x :: t)) (pre.length + 1) = if x.1 = 0 ∨ x.1 = 1 then d + 1 else d - 1 := by
      show (if cwf (pre ++ x :: t) pre.length = 0 ∨ cwf (pre ++ x :: t) pre.length = 1 then dpt (cwf (pre ++ x :: t)) pre.length + 1 else dpt (cwf (pre ++ x :: t)) pre.length - 1) = _
      rw [hw, hd]
    by_cases hk : k = pre.length
    · rw [hk, hw, hv, hd]
      rcases ho with ⟨a | a, -⟩ | ⟨⟨j, hj, a⟩, c, -⟩
      · exact Or.inl a
      · exact Or.inr (Or.inl a)
      · exact Or.inr (Or.inr ⟨j, hj, a, c⟩)
    · have hgo : ∀ d2, dpt (cwf (pre ++ x :: t)) (pre.length + 1) = d2 → Okc d2 t e → _ := fun d2 hd2 ho2 => okc_at t (pre ++ [x]) d2 e (by rw [← ha, hl]; exact hd2) ho2 k (by rw [hl]; omega) (by rw [← ha]; exact h2)
      rw [← ha] at hgo
      rcases ho with ⟨a, h⟩ | ⟨⟨j, hj, a⟩, c, h⟩
      · refine hgo (d + 1) ?_ h
        rw [hs, if_pos (a.imp (fun q => q.1) (fun q => q.1))]
      · refine hgo (d - 1) ?_ h
        rw [hs, if_neg (fun q => by
          rcases q with q | q
          · have := (nI_eq (a := 2 + j) (b := 0) (by omega) (by omega)).mp (a.symm.trans q)
            omega
          · have := (nI_eq (a := 2 + j) (b := 1) (by omega) (by omega)).mp (a.symm.trans q)
            omega)]
theorem okc_lwf {l : List Cd} (h : Okc 0 l 1) (hn : l.length ≤ 150) : lwf l.length (cwf l) (cvf l) ∧ 0 < l.length := by
  refine ⟨⟨hn, fun k hk => ?_⟩, ?_⟩
  · have := okc_at l [] 0 1 rfl h k (Nat.zero_le _) hk
    exact this
  · match l, h with
    | [], h => exact absurd (show 0 = 1 from h) (by decide)
    | x :: t, _ => exact Nat.succ_pos _
theorem dpt_cong {cw cw' : Nat → Int32} : ∀ {n : Nat}, (∀ k, k < n → cw k = cw' k) → dpt cw n = dpt cw' n
  | 0, _ => rfl
  | n + 1, h => by
    show (if cw n = 0 ∨ cw n = 1 then dpt cw n + 1 else dpt cw n - 1) = (if cw' n = 0 ∨ cw' n = 1 then dpt cw' n + 1 else dpt cw' n - 1)
    rw [h n (Nat.lt_succ_self n), dpt_cong (fun k hk => h k (Nat.lt_succ_of_lt hk))]
theorem lwf_cong {n : Nat} {cw cw' cv cv' : Nat → Int32} (h : ∀ k, k < n → cw' k = cw k ∧ cv' k = cv k) (hw : lwf n cw cv) : lwf n cw' cv' := by
  refine ⟨hw.1, fun k hk => ?_⟩
  rw [(h k hk).1, (h k hk).2, dpt_cong (cw := cw') (cw' := cw) (fun j hj => (h j (by omega)).1)]
  exact hw.2 k hk
