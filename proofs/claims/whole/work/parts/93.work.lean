/-! ===== work's text: what it says, or what is wrong ===== -/
abbrev Sd : Type := Int32 × Int32 × Int32 × Int32 × Nat
abbrev Rs : Type := (Int32 × Nat) ⊕ (Nat × List Sd)
def sK (x : Sd) : Int32 := x.1
def sA (x : Sd) : Int32 := x.2.1
def sF (x : Sd) : Int32 := x.2.2.1
def sT (x : Sd) : Int32 := x.2.2.2.1
def sN (x : Sd) : Nat := x.2.2.2.2
def d0 : Sd := (4, 0, 0, 0, 0)
def bs (r : Rs) (f : Nat → List Sd → Rs) : Rs := match r with
  | .inl e => .inl e
  | .inr q => f q.1 q.2
theorem bs_l {r : Rs} {e : Int32 × Nat} {f : Nat → List Sd → Rs} (h : r = .inl e) : bs r f = .inl e := by rw [h]; rfl
theorem bs_r {r : Rs} {p : Nat} {l : List Sd} {f : Nat → List Sd → Rs} (h : r = .inr (p, l)) : bs r f = f p l := by rw [h]; rfl
theorem bs_ok {r : Rs} {f : Nat → List Sd → Rs} {q : Nat × List Sd} (h : bs r f = .inr q) : ∃ p l, r = .inr (p, l) ∧ f p l = .inr q := by
  match r, h with
  | .inl e, h => exact absurd h (by intro h2; cases h2)
  | .inr (p, l), h => exact ⟨p, l, rfl, h⟩
/-- which of work's words -/
noncomputable def lw (b : Nat → Int32) (L s : Nat) : Nat := fa_first (fun i => decide (wcd b L s = nI (scd (17 + i)))) 6
theorem swd_dj : ∀ i, i < 6 → ∀ j, j < 6 → nI (scd (17 + i)) = nI (scd (17 + j)) → i = j := by decide +kernel
theorem swd_nz : ∀ i, i < 6 → ¬ nI (scd (17 + i)) = 0 ∧ 3 ≤ (strQ (17 + i)).2.2.2.length := by decide +kernel
theorem lw_at {b : Nat → Int32} {L s i : Nat} (hi : i < 6) (h : wcd b L s = nI (scd (17 + i))) : lw b L s = i :=
  first_at hi (decide_eq_true h) (fun j hj => decide_eq_false (fun q => by
    have := swd_dj j (by omega) i hi (q.symm.trans h)
    omega))
theorem lw_iff {b : Nat → Int32} {L s i : Nat} (hi : i < 6) : wcd b L s = nI (scd (17 + i)) ↔ lw b L s = i :=
  ⟨lw_at hi, fun h => by
    have : wcd b L s = nI (scd (17 + lw b L s)) := of_decide_eq_true (fa_first_yes _ _ (by show lw b L s < 6; omega))
    rw [h] at this
    exact this⟩
theorem lw_no {b : Nat → Int32} {L s : Nat} (hs : s ≤ L) (h : ¬ ltF (bA b L s) = true) : lw b L s = 6 :=
  first_none (fun j hj => decide_eq_false (fun q => by
    rw [wcd_no hs h] at q
    exact (swd_nz j hj).1 q.symm))
theorem lw_le (b : Nat → Int32) (L s : Nat) : lw b L s ≤ 6 := fa_first_le _ _
theorem lw_3 {b : Nat → Int32} {L s : Nat} (hs : s ≤ L) (h : lw b L s < 6) : s + 3 ≤ wE b L s ∧ wE b L s ≤ L ∧ ltF (bA b L s) = true := by
  have h1 := (lw_iff (b := b) (L := L) (s := s) h).mpr rfl
  have h2 : WI b L s (1 + (16 + lw b L s)) := (wi_cd (b := b) (L := L) (s := s) (i := 16 + lw b L s) (by omega)).mpr (by rw [show 1 + (16 + lw b L s) = 17 + lw b L s by omega]; exact h1)
  have h3 := h2.1
  rw [show 1 + (16 + lw b L s) = 17 + lw b L s by omega] at h3
  have h4 := (swd_nz _ h).2
  refine ⟨by omega, rn_le hs, ?_⟩
  by_cases hl : ltF (bA b L s) = true
  · exact hl
  · have := lw_no hs hl
    omega
/-- a step, up to its sign -/
noncomputable def stB (b : Nat → Int32) (L : Nat) (w : Wd) (sub : Option (Nat → Nat → Rs)) (i s : Nat) : Rs :=
  if lw b L s = 0 then
    (if nmE b L 0 (nI (wN w) - 1) (k1 b L s) = 0 then
      (if nmE b L 0 (nI (wP w) - 1) (k2 b L s) = 0 then
        (if ngE b L (wP w) (bw w (nmV b L (k2 b L s)).toNatClampNeg) (k3 b L s) = 0 then .inr (nmN b L (k3 b L s), [(0, nmV b L (k1 b L s), nmV b L (k2 b L s), nmV b L (k3 b L s), i + 1)])
        else .inl (ngE b L (wP w) (bw w (nmV b L (k2 b L s)).toNatClampNeg) (k3 b L s), k3 b L s))
      else .inl (nmE b L 0 (nI (wP w) - 1) (k2 b L s), k2 b L s))
    else .inl (nmE b L 0 (nI (wN w) - 1) (k1 b L s), k1 b L s))
  else if lw b L s = 1 ∨ lw b L s = 2 then
    (if nmE b L 0 (nI (wN w) - 1) (k1 b L s) = 0 then
      (if nmE b L 0 (nI (wP w) - 1) (k2 b L s) = 0 then .inr (nmN b L (k2 b L s), [(nI (lw b L s), nmV b L (k1 b L s), nmV b L (k2 b L s), 0, i + 1)])
      else .inl (nmE b L 0 (nI (wP w) - 1) (k2 b L s), k2 b L s))
    else .inl (nmE b L 0 (nI (wN w) - 1) (k1 b L s), k1 b L s))
  else if lw b L s = 3 then
    (if nmE b L 0 (nI (wP w) - 1) (k1 b L s) = 0 then
      (if ngE b L (wP w) (bw w (nmV b L (k1 b L s)).toNatClampNeg) (k2 b L s) = 0 then .inr (nmN b L (k2 b L s), [(3, 0, nmV b L (k1 b L s), nmV b L (k2 b L s), i + 1)])
      else .inl (ngE b L (wP w) (bw w (nmV b L (k1 b L s)).toNatClampNeg) (k2 b L s), k2 b L s))
    else .inl (nmE b L 0 (nI (wP w) - 1) (k1 b L s), k1 b L s))
  else if lw b L s = 4 then .inr (wE b L s, [(4, 0, 0, 0, i + 1)])
  else if lw b L s = 5 then (match sub with
    | none => .inl (3, s)
    | some f => if nmE b L 0 60 (k1 b L s) = 0 then
        (if bA b L (k2 b L s) = 91 then bs (f (i + 1) (k2 b L s + 1)) fun p1 l1 => if bA b L (sk b L p1) = 93 then .inr (sk b L p1 + 1, (5, nmV b L (k1 b L s), 0, 0, i + 1 + l1.length) :: l1) else .inl (1, sk b L p1)
        else .inl (1, k2 b L s))
      else .inl (nmE b L 0 60 (k1 b L s), k1 b L s))
  else .inl (1, s)
noncomputable def stP (b : Nat → Int32) (L : Nat) (w : Wd) (sub : Option (Nat → Nat → Rs)) (i p : Nat) : Rs := bs (stB b L w sub i (sk b L p)) fun p1 l1 => if bA b L (sk b L p1) = 59 then .inr (sk b L p1 + 1, l1) else .inl (1, sk b L p1)
noncomputable def lsP (b : Nat → Int32) (L : Nat) (f : Nat → Nat → Rs) (stop : Int32) : Nat → Nat → Nat → Rs
  | 0, _, p => .inr (p, [])
  | k + 1, i, p => if bA b L (sk b L p) = stop then .inr (sk b L p, []) else bs (f i p) fun p1 l1 => bs (lsP b L f stop k (i + l1.length) p1) fun p2 l2 => .inr (p2, l1 ++ l2)
noncomputable def inP (b : Nat → Int32) (L : Nat) (w : Wd) : Nat → Nat → Nat → Rs
  | 0 => lsP b L (stP b L w none) 93 150
  | d + 1 => lsP b L (stP b L w (some (inP b L w d))) 93 150
/-- a step that can be done -/
def okSt (w : Wd) (x : Sd) : Prop := (sK x = 0 ∧ ∃ p a c, p < wN w ∧ a < wP w ∧ c < wP w ∧ sA x = nI p ∧ sF x = nI a ∧ sT x = nI c ∧ ¬ bw w a c = -1) ∨ (sK x = 1 ∧ ∃ p a, p < wN w ∧ a < wP w ∧ sA x = nI p ∧ sF x = nI a) ∨ (sK x = 2 ∧ ∃ p a, p < wN w ∧ a < wP w ∧ sA x = nI p ∧ sF x = nI a) ∨ (sK x = 3 ∧ ∃ a c, a < wP w ∧ c < wP w ∧ sF x = nI a ∧ sT x = nI c ∧ ¬ bw w a c = -1) ∨ sK x = 4
theorem ok_0 {w : Wd} {v1 v2 v3 : Int32} {n p a c : Nat} (hp : p < wN w) (ha : a < wP w) (hc : c < wP w) (e1 : v1 = nI p) (e2 : v2 = nI a) (e3 : v3 = nI c) (hb : ¬ bw w a c = -1) : okSt w (0, v1, v2, v3, n) := Or.inl ⟨rfl, p, a, c, hp, ha, hc, e1, e2, e3, hb⟩
theorem ok_1 {w : Wd} {k v1 v2 v3 : Int32} {n p a : Nat} (hk : k = 1) (hp : p < wN w) (ha : a < wP w) (e1 : v1 = nI p) (e2 : v2 = nI a) : okSt w (k, v1, v2, v3, n) := Or.inr (Or.inl ⟨hk, p, a, hp, ha, e1, e2⟩)
theorem ok_2 {w : Wd} {k v1 v2 v3 : Int32} {n p a : Nat} (hk : k = 2) (hp : p < wN w) (ha : a < wP w) (e1 : v1 = nI p) (e2 : v2 = nI a) : okSt w (k, v1, v2, v3, n) := Or.inr (Or.inr (Or.inl ⟨hk, p, a, hp, ha, e1, e2⟩))
theorem ok_3 {w : Wd} {v1 v2 v3 : Int32} {n a c : Nat} (ha : a < wP w) (hc : c < wP w) (e2 : v2 = nI a) (e3 : v3 = nI c) (hb : ¬ bw w a c = -1) : okSt w (3, v1, v2, v3, n) := Or.inr (Or.inr (Or.inr (Or.inl ⟨rfl, a, c, ha, hc, e2, e3, hb⟩)))
theorem ok_4 {w : Wd} {v1 v2 v3 : Int32} {n : Nat} : okSt w (4, v1, v2, v3, n) := Or.inr (Or.inr (Or.inr (Or.inr rfl)))
theorem sN_mk (k v1 v2 v3 : Int32) (n : Nat) : sN (k, v1, v2, v3, n) = n := rfl
theorem sK_mk (k v1 v2 v3 : Int32) (n : Nat) : sK (k, v1, v2, v3, n) = k := rfl
theorem sA_mk (k v1 v2 v3 : Int32) (n : Nat) : sA (k, v1, v2, v3, n) = v1 := rfl
theorem sF_mk (k v1 v2 v3 : Int32) (n : Nat) : sF (k, v1, v2, v3, n) = v2 := rfl
theorem sT_mk (k v1 v2 v3 : Int32) (n : Nat) : sT (k, v1, v2, v3, n) = v3 := rfl
/-- steps that stand well, so deep in brackets at most -/
def Vr (w : Wd) (T : Nat → Sd) : Nat → Nat → Nat → Nat → Prop
  | 0, _, lo, hi => lo = hi
  | n + 1, d, lo, hi => lo = hi ∨ (lo < hi ∧ ((¬ sK (T lo) = 5 ∧ okSt w (T lo) ∧ sN (T lo) = lo + 1 ∧ Vr w T n d (lo + 1) hi) ∨ (sK (T lo) = 5 ∧ (∃ v, v ≤ 60 ∧ sA (T lo) = nI v) ∧ 0 < d ∧ sN (T lo) ≤ hi ∧ lo < sN (T lo) ∧ Vr w T n (d - 1) (lo + 1) (sN (T lo)) ∧ Vr w T n d (sN (T lo)) hi)))
theorem Vr.le {w : Wd} {T : Nat → Sd} : ∀ {n d lo hi : Nat}, Vr w T n d lo hi → lo ≤ hi
  | 0, _, _, _, h => Nat.le_of_eq h
  | n + 1, _, _, _, h => by
    rcases h with h | ⟨h, -⟩
    · exact Nat.le_of_eq h
    · exact Nat.le_of_lt h
theorem Vr.mono {w : Wd} {T : Nat → Sd} : ∀ {n d lo hi : Nat} (k : Nat), Vr w T n d lo hi → Vr w T (n + k) d lo hi
  | 0, d, lo, hi, k, h => by
    match k with
    | 0 => exact h
    | k + 1 =>
      rw [Nat.zero_add]
      exact Or.inl h
  | n + 1, d, lo, hi, k, h => by
    rw [show n + 1 + k = (n + k) + 1 by omega]
    rcases h with h | ⟨h1, ⟨a, b, c, e⟩ | ⟨a, b, c, e, f, g, g2⟩⟩
    · exact Or.inl h
    · exact Or.inr ⟨h1, Or.inl ⟨a, b, c, Vr.mono k e⟩⟩
    · exact Or.inr ⟨h1, Or.inr ⟨a, b, c, e, f, Vr.mono k g, Vr.mono k g2⟩⟩
theorem Vr.cat {w : Wd} {T : Nat → Sd} {d mid hi n' : Nat} (h2 : Vr w T n' d mid hi) : ∀ {n lo : Nat}, Vr w T n d lo mid → Vr w T (n + n') d lo hi
  | 0, lo, h => by
    have h' : lo = mid := h
    rw [h', Nat.zero_add]
    exact h2
  | n + 1, lo, h => by
    have hle := h2.le
    rcases h with h | ⟨h1, ⟨a, b, c, e⟩ | ⟨a, b, c, e, f, g, g2⟩⟩
    · rw [h, Nat.add_comm]
      exact h2.mono (n + 1)
    · rw [show n + 1 + n' = (n + n') + 1 by omega]
      exact Or.inr ⟨by omega, Or.inl ⟨a, b, c, Vr.cat h2 e⟩⟩
    · rw [show n + 1 + n' = (n + n') + 1 by omega]
      exact Or.inr ⟨by omega, Or.inr ⟨a, b, c, by omega, f, Vr.mono n' g, Vr.cat h2 g2⟩⟩
def tf (l : List Sd) (j : Nat) : Sd := l.getD j d0
theorem tf_mid (c t : List Sd) (x : Sd) : tf (c ++ x :: t) c.length = x := by
  unfold tf
  rw [List.getD_eq_getElem?_getD, List.getElem?_append_right (Nat.le_refl _), Nat.sub_self]
  rfl
theorem tf_off (c l : List Sd) (j : Nat) : tf (c ++ l) (c.length + j) = tf l j := by
  unfold tf
  rw [List.getD_eq_getElem?_getD, List.getD_eq_getElem?_getD, List.getElem?_append_right (Nat.le_add_right _ _), Nat.add_sub_cancel_left]
theorem tf_lo {c l : List Sd} {j : Nat} (h : j < c.length) : tf (c ++ l) j = tf c j := by
  unfold tf
  rw [List.getD_eq_getElem?_getD, List.getD_eq_getElem?_getD, List.getElem?_append_left h]
/-- what a reader of steps says is well -/
def Gs (L : Nat) (w : Wd) (d : Nat) (f : Nat → Nat → Rs) : Prop := ∀ i s, s ≤ L → ∀ p l, f i s = .inr (p, l) → s + 4 * l.length ≤ p ∧ p ≤ L ∧ ∀ c r : List Sd, c.length = i → ∃ n, Vr w (tf (c ++ (l ++ r))) n d i (i + l.length)
theorem vr_one {w : Wd} {c r : List Sd} {x : Sd} {d i : Nat} (hc : c.length = i) (h5 : ¬ sK x = 5) (hx : okSt w x) (hn : sN x = i + 1) : ∃ n, Vr w (tf (c ++ ([x] ++ r))) n d i (i + [x].length) := by
  have e : tf (c ++ ([x] ++ r)) i = x := by
    rw [← hc]
    exact tf_mid c r x
  refine ⟨1, Or.inr ⟨by show i < i + 1; omega, Or.inl ?_⟩⟩
  rw [e]
  exact ⟨h5, hx, hn, rfl⟩
theorem k_up {b : Nat → Int32} {L s : Nat} (hs : s ≤ L) : wE b L s ≤ k1 b L s ∧ k1 b L s ≤ L ∧ k1 b L s ≤ nmN b L (k1 b L s) ∧ nmN b L (k1 b L s) ≤ k2 b L s ∧ k2 b L s ≤ L ∧ k2 b L s ≤ nmN b L (k2 b L s) ∧ nmN b L (k2 b L s) ≤ k3 b L s ∧ k3 b L s ≤ L ∧ k3 b L s ≤ nmN b L (k3 b L s) ∧ nmN b L (k3 b L s) ≤ L ∧ nmN b L (k2 b L s) ≤ L := by
  have a0 : wE b L s ≤ L := rn_le hs
  have a1 := sk_le (b := b) a0
  have a2 : nmN b L (k1 b L s) ≤ L := rn_le a1.2
  have a3 := sk_le (b := b) a2
  have a4 : nmN b L (k2 b L s) ≤ L := rn_le a3.2
  have a5 := sk_le (b := b) a4
  exact ⟨a1.1, a1.2, rn_ge _ _ _ _, a3.1, a3.2, rn_ge _ _ _ _, a5.1, a5.2, rn_ge _ _ _ _, rn_le a5.2, a4⟩
set_option maxHeartbeats 1000000 in
theorem gs_stB {b : Nat → Int32} {L : Nat} {w : Wd} {sub : Option (Nat → Nat → Rs)} {d i s : Nat} (hW : WF w) (h : ∀ f, sub = some f → ∃ d', d = d' + 1 ∧ Gs L w d' f) (hs : s ≤ L) {p : Nat} {l : List Sd} (he : stB b L w sub i s = .inr (p, l)) : s + 4 * l.length ≤ p + 1 ∧ p ≤ L ∧ ∀ c r : List Sd, c.length = i → ∃ n, Vr w (tf (c ++ (l ++ r))) n d i (i + l.length) := by
  have hP := hW.1.2
  have hN := hW.2.2.1.2
  obtain ⟨u1, u2, u3, u4, u5, u6, u7, u8, u9, u10, u11⟩ := k_up (b := b) hs
  unfold stB at he
  by_cases c0 : lw b L s = 0
  · rw [if_pos c0] at he
    obtain ⟨w1, w2, -⟩ := lw_3 hs (show lw b L s < 6 by omega)
    by_cases g1 : nmE b L 0 (nI (wN w) - 1) (k1 b L s) = 0
    case neg =>
      rw [if_neg g1] at he
      cases he
    rw [if_pos g1] at he
    by_cases g2 : nmE b L 0 (nI (wP w) - 1) (k2 b L s) = 0
    case neg =>
      rw [if_neg g2] at he
      cases he
    rw [if_pos g2] at he
    by_cases g3 : ngE b L (wP w) (bw w (nmV b L (k2 b L s)).toNatClampNeg) (k3 b L s) = 0
    case neg =>
      rw [if_neg g3] at he
      cases he
    rw [if_pos g3] at he
    cases he
    obtain ⟨q, hq, eq⟩ := nm_k (by omega) g1
    obtain ⟨a, ha, ea⟩ := nm_k (by omega) g2
    obtain ⟨g4, g5⟩ := ng_0 g3
    obtain ⟨c, hc, ec⟩ := nm_k (by omega) g4
    rw [ea, clamp_nI (k := a) (by omega), ec, clamp_nI (k := c) (by omega)] at g5
    exact ⟨by show s + 4 * 1 ≤ _; omega, by omega, fun c' r hcl => vr_one hcl (show ¬ (0 : Int32) = 5 by decide) (ok_0 hq ha hc eq ea ec g5) (sN_mk _ _ _ _ _)⟩
  rw [if_neg c0] at he
  by_cases c1 : lw b L s = 1 ∨ lw b L s = 2
  · rw [if_pos c1] at he
    obtain ⟨w1, w2, -⟩ := lw_3 hs (show lw b L s < 6 by omega)
    by_cases g1 : nmE b L 0 (nI (wN w) - 1) (k1 b L s) = 0
    case neg =>
      rw [if_neg g1] at he
      cases he
    rw [if_pos g1] at he
    by_cases g2 : nmE b L 0 (nI (wP w) - 1) (k2 b L s) = 0
    case neg =>
      rw [if_neg g2] at he
      cases he
    rw [if_pos g2] at he
    cases he
    obtain ⟨q, hq, eq⟩ := nm_k (by omega) g1
    obtain ⟨a, ha, ea⟩ := nm_k (by omega) g2
    refine ⟨by show s + 4 * 1 ≤ _; omega, by omega, fun c' r hcl => vr_one hcl ?_ ?_ (sN_mk _ _ _ _ _)⟩
    · rw [sK_mk]
      rcases c1 with e | e <;> rw [e] <;> decide
    · rcases c1 with e | e
      · exact ok_1 (by rw [e]; rfl) hq ha eq ea
      · exact ok_2 (by rw [e]; rfl) hq ha eq ea
  rw [if_neg c1] at he
  by_cases c3 : lw b L s = 3
  · rw [if_pos c3] at he
    obtain ⟨w1, w2, -⟩ := lw_3 hs (show lw b L s < 6 by omega)
    by_cases g1 : nmE b L 0 (nI (wP w) - 1) (k1 b L s) = 0
    case neg =>
      rw [if_neg g1] at he
      cases he
    rw [if_pos g1] at he
    by_cases g3 : ngE b L (wP w) (bw w (nmV b L (k1 b L s)).toNatClampNeg) (k2 b L s) = 0
    case neg =>
      rw [if_neg g3] at he
      cases he
    rw [if_pos g3] at he
    cases he
    obtain ⟨a, ha, ea⟩ := nm_k (by omega) g1
    obtain ⟨g4, g5⟩ := ng_0 g3
    obtain ⟨c, hc, ec⟩ := nm_k (by omega) g4
    rw [ea, clamp_nI (k := a) (by omega), ec, clamp_nI (k := c) (by omega)] at g5
    have z1 := (nm_in g1).2.2
    exact ⟨by show s + 4 * 1 ≤ _; omega, by omega, fun c' r hcl => vr_one hcl (show ¬ (3 : Int32) = 5 by decide) (ok_3 ha hc ea ec g5) (sN_mk _ _ _ _ _)⟩
  rw [if_neg c3] at he
  by_cases c4 : lw b L s = 4
  · rw [if_pos c4] at he
    obtain ⟨w1, w2, -⟩ := lw_3 hs (show lw b L s < 6 by omega)
    cases he
    exact ⟨by show s + 4 * 1 ≤ _; omega, w2, fun c' r hcl => vr_one hcl (show ¬ (4 : Int32) = 5 by decide) ok_4 rfl⟩
  rw [if_neg c4] at he
  by_cases c5 : lw b L s = 5
  case neg =>
    rw [if_neg c5] at he
    cases he
  rw [if_pos c5] at he
  obtain ⟨w1, w2, -⟩ := lw_3 hs (show lw b L s < 6 by omega)
  match sub, h, he with
  | none, _, he => cases he
  | some f, h, he =>
    obtain ⟨d', hd, hG⟩ := h f rfl
    have he' : (if nmE b L 0 60 (k1 b L s) = 0 then (if bA b L (k2 b L s) = 91 then bs (f (i + 1) (k2 b L s + 1)) fun p1 l1 => if bA b L (sk b L p1) = 93 then .inr (sk b L p1 + 1, (5, nmV b L (k1 b L s), 0, 0, i + 1 + l1.length) :: l1) else .inl (1, sk b L p1) else .inl (1, k2 b L s)) else (.inl (nmE b L 0 60 (k1 b L s), k1 b L s) : Rs)) = .inr (p, l) := he
    by_cases g1 : nmE b L 0 60 (k1 b L s) = 0
    case neg =>
      rw [if_neg g1] at he'
      cases he'
    rw [if_pos g1] at he'
    by_cases g2 : bA b L (k2 b L s) = 91
    case neg =>
      rw [if_neg g2] at he'
      cases he'
    rw [if_pos g2] at he'
    have x1 := bA_lt g2 (by decide)
    obtain ⟨p1, l1, e1, e2⟩ := bs_ok he'
    obtain ⟨y1, y2, y3⟩ := hG _ _ (by omega) p1 l1 e1
    obtain ⟨t1, t2⟩ := sk_le (b := b) y2
    by_cases g3 : bA b L (sk b L p1) = 93
    case neg =>
      rw [if_neg g3] at e2
      cases e2
    rw [if_pos g3] at e2
    cases e2
    have x2 := bA_lt g3 (by decide)
    have z1 := nm_in g1
    obtain ⟨v, hv, ev⟩ := le_nI (n := 60) (by omega) ⟨z1.1, z1.2.1⟩
    refine ⟨by rw [List.length_cons]; omega, by omega, fun c r hcl => ?_⟩
    obtain ⟨n, hn⟩ := y3 (c ++ [(5, nmV b L (k1 b L s), 0, 0, i + 1 + l1.length)]) r (by rw [List.length_append, hcl]; rfl)
    have ea : (c ++ [((5, nmV b L (k1 b L s), 0, 0, i + 1 + l1.length) : Sd)]) ++ (l1 ++ r) = c ++ (((5, nmV b L (k1 b L s), 0, 0, i + 1 + l1.length) :: l1) ++ r) := by
      rw [List.append_assoc]
      rfl
    rw [ea] at hn
    have ex : tf (c ++ (((5, nmV b L (k1 b L s), 0, 0, i + 1 + l1.length) :: l1) ++ r)) i = (5, nmV b L (k1 b L s), 0, 0, i + 1 + l1.length) := by
      rw [← hcl]
      exact tf_mid c (l1 ++ r) _
    refine ⟨n + 1, Or.inr ⟨by rw [List.length_cons]; omega, Or.inr ?_⟩⟩
    rw [ex, List.length_cons, sK_mk, sA_mk, sN_mk]
    have ehi : i + (l1.length + 1) = i + 1 + l1.length := by omega
    rw [ehi]
    refine ⟨rfl, ⟨v, hv, ev⟩, by omega, Nat.le_refl _, by omega, ?_, ?_⟩
    · rw [show d - 1 = d' by omega]
      exact hn
    · have : Vr w (tf (c ++ (((5, nmV b L (k1 b L s), 0, 0, i + 1 + l1.length) :: l1) ++ r))) 0 d (i + 1 + l1.length) (i + 1 + l1.length) := rfl
      have t := this.mono n
      rw [Nat.zero_add] at t
      exact t
theorem Gs.st {b : Nat → Int32} {L : Nat} {w : Wd} {sub : Option (Nat → Nat → Rs)} {d : Nat} (hW : WF w) (h : ∀ f, sub = some f → ∃ d', d = d' + 1 ∧ Gs L w d' f) : Gs L w d (stP b L w sub) := by
  intro i s hs p l he
  obtain ⟨s1, s2⟩ := sk_le (b := b) hs
  unfold stP at he
  obtain ⟨p1, l1, e1, e2⟩ := bs_ok he
  obtain ⟨y1, y2, y3⟩ := gs_stB hW h s2 e1
  obtain ⟨t1, t2⟩ := sk_le (b := b) y2
  by_cases g3 : bA b L (sk b L p1) = 59
  · rw [if_pos g3] at e2
    cases e2
    have x2 := bA_lt g3 (by decide)
    exact ⟨by omega, by omega, y3⟩
  · rw [if_neg g3] at e2
    cases e2
theorem Gs.ls {b : Nat → Int32} {L : Nat} {w : Wd} {f : Nat → Nat → Rs} {d : Nat} {stop : Int32} (h : Gs L w d f) : ∀ k, Gs L w d (lsP b L f stop k)
  | 0, i, s, hs, p, l, he => by
    cases he
    exact ⟨Nat.le_refl _, hs, fun c r hc => ⟨0, rfl⟩⟩
  | k + 1, i, s, hs, p, l, he => by
    obtain ⟨s1, s2⟩ := sk_le (b := b) hs
    unfold lsP at he
    by_cases c1 : bA b L (sk b L s) = stop
    · rw [if_pos c1] at he
      cases he
      exact ⟨by show s + 4 * 0 ≤ _; omega, s2, fun c r hc => ⟨0, rfl⟩⟩
    rw [if_neg c1] at he
    obtain ⟨p1, l1, e1, e2⟩ := bs_ok he
    obtain ⟨g1, g2, g3⟩ := h i s hs p1 l1 e1
    obtain ⟨p2, l2, e3, e4⟩ := bs_ok e2
    obtain ⟨g4, g5, g6⟩ := Gs.ls h k (i + l1.length) p1 g2 p2 l2 e3
    cases e4
    refine ⟨by rw [List.length_append]; omega, g5, fun c r hc => ?_⟩
    obtain ⟨n1, h1⟩ := g3 c (l2 ++ r) hc
    obtain ⟨n2, h2⟩ := g6 (c ++ l1) r (by rw [List.length_append, hc])
    rw [List.append_assoc] at h2
    rw [List.append_assoc, List.length_append, ← Nat.add_assoc]
    exact ⟨_, Vr.cat h2 h1⟩
theorem Gs.inn {b : Nat → Int32} {L : Nat} {w : Wd} (hW : WF w) : ∀ d, Gs L w d (inP b L w d)
  | 0 => Gs.ls (Gs.st hW (fun f h => by cases h)) 150
  | d + 1 => Gs.ls (Gs.st hW (fun f h => by cases h; exact ⟨d, rfl, Gs.inn hW d⟩)) 150
