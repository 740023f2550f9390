/-! ===== the law: what its codes come to ===== -/
def opv (c u v : Int32) : Int32 := if c = 2 then u + v else if c = 3 then u - v else if c = 4 then u * v else if c = 5 then (if v = 0 then 0 else u / v) else if c = 6 then (if v = 0 then 0 else remI u v) else if c = 7 then (if u < v then u else v) else (if v < u then u else v)
def lst (cw cv kn : Nat → Int32) : Nat → List Int32
  | 0 => []
  | k + 1 => if cw k = 0 then cv k :: lst cw cv kn k else if cw k = 1 then kn (cv k).toNatClampNeg :: lst cw cv kn k else match lst cw cv kn k with
    | y :: x :: t => opv (cw k) x y :: t
    | s => s
def dpt (cw : Nat → Int32) : Nat → Nat
  | 0 => 0
  | k + 1 => if cw k = 0 ∨ cw k = 1 then dpt cw k + 1 else dpt cw k - 1
def stk (f : Nat → Int32) : Nat → List Int32
  | 0 => []
  | d + 1 => f d :: stk f d
theorem stk_cong {f g : Nat → Int32} : ∀ {d : Nat}, (∀ j, j < d → f j = g j) → stk f d = stk g d
  | 0, _ => rfl
  | d + 1, h => by
    show f d :: stk f d = g d :: stk g d
    rw [h d (Nat.lt_succ_self d), stk_cong (fun j hj => h j (Nat.lt_succ_of_lt hj))]
theorem stk_last (f : Nat → Int32) : ∀ d, (stk f (d + 1)).getLastD 0 = f 0
  | 0 => rfl
  | d + 1 => by
    show (f (d + 1) :: stk f (d + 1)).getLastD 0 = f 0
    rw [← stk_last f d]
    rfl
theorem dpt_le (cw : Nat → Int32) : ∀ k, dpt cw k ≤ k
  | 0 => Nat.le_refl 0
  | k + 1 => by
    have := dpt_le cw k
    show (if cw k = 0 ∨ cw k = 1 then dpt cw k + 1 else dpt cw k - 1) ≤ k + 1
    split <;> omega
/-- a text of the law that stands: its codes, and that two are there to be joined -/
def lwf (n : Nat) (cw cv : Nat → Int32) : Prop := n ≤ 150 ∧ ∀ k, k < n → (cw k = 0 ∧ inb (cv k) 1000 = true) ∨ (cw k = 1 ∧ inb (cv k) 9 = true) ∨ (∃ j, j < 7 ∧ cw k = nI (2 + j) ∧ 2 ≤ dpt cw k)
def cl99 (x : Int32) : Int32 := if x ≤ 99 then (if (-99) ≤ x then x else (-99)) else 99
def lawv (n : Nat) (cw cv kn : Nat → Int32) : Int32 := cl99 (if n = 0 then kn 0 + 3 * kn 1 - kn 2 else (lst cw cv kn n).getLastD 0)
theorem lt_iff {a b : Int32} : a < b ↔ ¬ b ≤ a := by
  rw [fa_lt, fa_le]
  omega
theorem div_m1 (u : Int32) : u / (-1) = -u := by
  apply Int32.toInt_inj.mp
  have h2 : (-1 : Int32).toInt = -1 := by decide
  rw [Int32.toInt_div, h2, Int.tdiv_neg, Int.tdiv_one, Int32.toInt_neg]
theorem rem_m1 (u : Int32) : remI u (-1) = 0 := by
  unfold remI
  rw [div_m1, Int32.mul_neg, Int32.mul_one, Int32.neg_neg, Int32.sub_self]
theorem less_eq (a b : Int32) : r_X12_less a b = if a < b then a else b := by
  unfold r_X12_less
  by_cases h : a < b
  · rw [if_pos h, if_neg (lt_iff.mp h)]
  · rw [if_neg h]
    split <;> first | rfl | (rename_i h2; exact absurd (lt_iff.mpr h2) h)
theorem more_eq (a b : Int32) : r_X12_more a b = if b < a then a else b := by
  unfold r_X12_more
  by_cases h : b < a
  · rw [if_pos h, if_neg (lt_iff.mp h)]
  · rw [if_neg h]
    split <;> first | rfl | (rename_i h2; exact absurd (lt_iff.mpr h2) h)
theorem by_eq (c u v : Int32) : r_X12_by c u v = some (opv c u v) := by
  unfold r_X12_by opv
  rw [less_eq, more_eq]
  by_cases h2 : c = 2
  · rw [if_pos h2, if_pos h2]
  rw [if_neg h2, if_neg h2]
  by_cases h3 : c = 3
  · rw [if_pos h3, if_pos h3]
  rw [if_neg h3, if_neg h3]
  by_cases h4 : c = 4
  · rw [if_pos h4, if_pos h4]
  rw [if_neg h4, if_neg h4]
  by_cases h5 : c = 5
  · rw [if_pos h5, if_pos h5]
    by_cases h0 : v = 0
    · rw [if_pos h0, if_pos h0]
    rw [if_neg h0]
    by_cases h1 : v = -1
    · subst h1
      rw [if_pos rfl, if_neg (by decide), div_m1]
    · rw [if_neg h1, if_neg h0, if_neg h0]
  rw [if_neg h5, if_neg h5]
  by_cases h6 : c = 6
  · rw [if_pos h6, if_pos h6]
    by_cases h0 : v = 0
    · rw [if_pos h0, if_pos h0]
    rw [if_neg h0]
    by_cases h1 : v = -1
    · subst h1
      rw [if_pos rfl, if_neg (by decide), rem_m1]
    · rw [if_neg h1, if_neg h0, if_neg h0]
  rw [if_neg h6, if_neg h6]
  by_cases h7 : c = 7
  · rw [if_pos h7, if_pos h7]
  rw [if_neg h7, if_neg h7]
theorem cl_eq (x : Int32) : r_X12_less 99 (r_X12_more (-99) x) = cl99 x := by
  rw [less_eq, more_eq]
  unfold cl99
  have a1 := fa_lt x (-99)
  have a2 := fa_le x 99
  have a3 := fa_le (-99) x
  have a4 := fa_lt 99 x
  have a5 : (-99 : Int32).toInt = -99 := by decide
  have a6 : (99 : Int32).toInt = 99 := by decide
  rw [a5] at a1 a3
  rw [a6] at a2 a4
  by_cases h : x < (-99)
  · rw [if_pos h, if_neg (by decide), if_pos (a2.mpr (by have := a1.mp h; omega)), if_neg (fun e => by have := a1.mp h; have := a3.mp e; omega)]
  · rw [if_neg h]
    by_cases h2 : 99 < x
    · rw [if_pos h2, if_neg (fun e => by have := a4.mp h2; have := a2.mp e; omega)]
    · have b1 : ¬ x.toInt < -99 := fun e => h (a1.mpr e)
      have b2 : ¬ 99 < x.toInt := fun e => h2 (a4.mpr e)
      rw [if_neg h2, if_pos (a2.mpr (by omega)), if_pos (a3.mpr (by omega))]
theorem op_dpt {cw : Nat → Int32} {k j : Nat} (hj : j < 7) (hc : cw k = nI (2 + j)) : ¬ cw k = 0 ∧ ¬ cw k = 1 ∧ 2 ≤ cw k := by
  rw [hc]
  refine ⟨fun e => ?_, fun e => ?_, ?_⟩
  · have := (nI_eq (a := 2 + j) (b := 0) (by omega) (by omega)).mp e
    omega
  · have := (nI_eq (a := 2 + j) (b := 1) (by omega) (by omega)).mp e
    omega
  · exact (nI_leI (a := 2) (b := 2 + j) (by omega) (by omega)).mpr (by omega)
/-- a code of the law over an array that holds the stack -/
theorem lst_push {cw cv kn : Nat → Int32} {k : Nat} {f : Nat → Int32} (h : lst cw cv kn k = stk f (dpt cw k)) {x : Int32} (hc : (cw k = 0 ∧ x = cv k) ∨ (cw k = 1 ∧ x = kn (cv k).toNatClampNeg)) {g : Nat → Int32} (hg : g (dpt cw k) = x) (hf : ∀ j, j < dpt cw k → g j = f j) : lst cw cv kn (k + 1) = stk g (dpt cw (k + 1)) ∧ dpt cw (k + 1) = dpt cw k + 1 := by
  have hd : dpt cw (k + 1) = dpt cw k + 1 := by
    show (if cw k = 0 ∨ cw k = 1 then dpt cw k + 1 else dpt cw k - 1) = _
    rw [if_pos (hc.imp (fun q => q.1) (fun q => q.1))]
  refine ⟨?_, hd⟩
  rw [hd]
  show (if cw k = 0 then cv k :: lst cw cv kn k else if cw k = 1 then kn (cv k).toNatClampNeg :: lst cw cv kn k else _) = g (dpt cw k) :: stk g (dpt cw k)
  rw [hg, stk_cong hf, ← h]
  rcases hc with ⟨c0, rfl⟩ | ⟨c0, rfl⟩
  · rw [if_pos c0]
  · rw [if_neg (by rw [c0]; decide), if_pos c0]
theorem lst_join {cw cv kn : Nat → Int32} {k j d : Nat} {f : Nat → Int32} (hd : dpt cw k = d + 2) (h : lst cw cv kn k = stk f (d + 2)) (hj : j < 7) (hc : cw k = nI (2 + j)) {g : Nat → Int32} (hg : g d = opv (cw k) (f d) (f (d + 1))) (hf : ∀ j, j < d → g j = f j) : lst cw cv kn (k + 1) = stk g (dpt cw (k + 1)) ∧ dpt cw (k + 1) = d + 1 := by
  obtain ⟨c0, c1, -⟩ := op_dpt hj hc
  have hd2 : dpt cw (k + 1) = d + 1 := by
    show (if cw k = 0 ∨ cw k = 1 then dpt cw k + 1 else dpt cw k - 1) = _
    rw [if_neg (fun e => e.elim c0 c1), hd]
    rfl
  refine ⟨?_, hd2⟩
  rw [hd2]
  have hs : lst cw cv kn k = f (d + 1) :: f d :: stk f d := h
  show (if cw k = 0 then cv k :: lst cw cv kn k else if cw k = 1 then kn (cv k).toNatClampNeg :: lst cw cv kn k else match lst cw cv kn k with
    | y :: x :: t => opv (cw k) x y :: t
    | s => s) = g d :: stk g d
  rw [if_neg c0, if_neg c1, hs, hg, stk_cong hf]
theorem lwf_pos {n : Nat} {cw cv : Nat → Int32} (hw : lwf n cw cv) : ∀ k, k < n → 1 ≤ dpt cw (k + 1) := by
  intro k hk
  show 1 ≤ (if cw k = 0 ∨ cw k = 1 then dpt cw k + 1 else dpt cw k - 1)
  rcases hw.2 k hk with ⟨c0, -⟩ | ⟨c0, -⟩ | ⟨j, hj, c0, hd⟩
  · rw [if_pos (Or.inl c0)]; omega
  · rw [if_pos (Or.inr c0)]; omega
  · split <;> omega
set_option maxHeartbeats 1000000 in
theorem byLaw_tot {m : Mem} {n : Nat} {cw cv : Nat → Int32} (hn : m 12 0 21 = nI n) (hcw : ∀ k, m 73 k 0 = cw k) (hcv : ∀ k, m 73 k 1 = cv k) (hw : lwf n cw cv) : Tot (r_X12_byLaw m) (fun r => r.1 = lawv n cw cv (m 56 0) ∧ Fr [(55, 0)] m r.2) := by
  have hn9 := hw.1
  unfold r_X12_byLaw r_X12_byLaw_l32
  rw [tot_bd1]
  refine tot_for (fun k s => s.1 = nI (dpt cw k) ∧ s.2.1 = nI k ∧ Fr [(55, 0)] m s.2.2 ∧ lst cw cv (m 56 0) k = stk (s.2.2 55 0) (dpt cw k) ∧ (k = 0 → s.2.2 55 0 0 = m 56 0 0 + 3 * m 56 0 1 - m 56 0 2)) n ?_ ?_ 0 _ (Nat.zero_le _) ?_
  · rintro k ⟨x1, x2, m1⟩ hk ⟨e1, e2, hF, hl, -⟩
    dsimp only at e1 e2 hF hl ⊢
    subst e1 e2
    have hdk := dpt_le cw k
    have f1 : m1 12 0 = m 12 0 := hF 12 0 (by decide)
    have f2 : ∀ j, m1 73 j = m 73 j := fun j => hF 73 j (by simp)
    have f3 : m1 56 0 = m 56 0 := hF 56 0 (by decide)
    unfold r_X12_byLaw_b32
    rw [f1, hn, if_neg (nI_ge hk (by omega)), if_pos (inb_nI (by omega) (by omega)), clamp_nI (by omega), f2, hcw, hcv, f3]
    rcases hw.2 k hk with ⟨c0, c1⟩ | ⟨c0, c1⟩ | ⟨j, hj, c0, hd⟩
    · rw [if_neg (by rw [c0]; decide), if_pos c0]
      unfold r_X12_byLaw_j92_c32 r_X12_byLaw_j135_c32
      rw [if_pos (inb_nI (by omega) (by omega)), clamp_nI (by omega), tot_some]
      obtain ⟨q1, q2⟩ := lst_push (g := fun j => wr m1 55 0 (dpt cw k) (cv k) 55 0 j) hl (Or.inl ⟨c0, rfl⟩) (wr_eq _ _ _ _ _) (fun j hj => wr_j (by omega))
      exact ⟨by rw [q2, nI_succ], (nI_succ k).symm, hF.wr (by decide) _ _, q1, fun e => by omega⟩
    · obtain ⟨i, hi, e⟩ := inb_of c1
      rw [if_neg (by rw [c0]; decide), if_neg (by rw [c0]; decide), if_pos c1]
      unfold r_X12_byLaw_j92_c32 r_X12_byLaw_j135_c32
      rw [if_pos (inb_nI (by omega) (by omega)), clamp_nI (by omega), tot_some]
      obtain ⟨q1, q2⟩ := lst_push (g := fun j => wr m1 55 0 (dpt cw k) (m 56 0 (cv k).toNatClampNeg) 55 0 j) hl (Or.inr ⟨c0, rfl⟩) (wr_eq _ _ _ _ _) (fun j hj => wr_j (by omega))
      exact ⟨by rw [q2, nI_succ], (nI_succ k).symm, hF.wr (by decide) _ _, q1, fun e => by omega⟩
    · obtain ⟨d, hd2⟩ : ∃ d, dpt cw k = d + 2 := ⟨dpt cw k - 2, by omega⟩
      rw [hd2] at hl hdk ⊢
      rw [if_pos (op_dpt hj c0).2.2, nI_neg1, nI_pred, if_pos (inb_nI (by omega) (by omega)), if_pos (inb_nI (by omega) (by omega)), clamp_nI (by omega), clamp_nI (by omega), by_eq, tot_bd1, tot_some]
      unfold r_X12_byLaw_j135_c32
      rw [tot_some]
      obtain ⟨q1, q2⟩ := lst_join (g := fun j => wr m1 55 0 d (opv (cw k) (m1 55 0 d) (m1 55 0 (d + 1))) 55 0 j) hd2 hl hj c0 (wr_eq _ _ _ _ _) (fun j hj => wr_j (by omega))
      exact ⟨by rw [q2], (nI_succ k).symm, hF.wr (by decide) _ _, q1, fun e => by omega⟩
  · rintro ⟨x1, x2, m1⟩ ⟨e1, e2, hF, hl, h0⟩
    dsimp only at e1 e2 hF hl h0 ⊢
    subst e1 e2
    have f1 : m1 12 0 = m 12 0 := hF 12 0 (by decide)
    unfold r_X12_byLaw_b32
    rw [f1, hn, if_pos (nI_le (Nat.le_refl _) (by omega)), tot_some]
    show Tot (r_X12_byLaw_e141_h32 m1) _
    unfold r_X12_byLaw_e141_h32
    rw [tot_some]
    refine ⟨?_, hF⟩
    show r_X12_less 99 (r_X12_more (-99) (m1 55 0 0)) = _
    rw [cl_eq]
    unfold lawv
    congr 1
    by_cases hz : n = 0
    · rw [if_pos hz, h0 hz]
    · rw [if_neg hz]
      obtain ⟨n', rfl⟩ : ∃ n', n = n' + 1 := ⟨n - 1, by omega⟩
      obtain ⟨d, hd⟩ : ∃ d, dpt cw (n' + 1) = d + 1 := ⟨dpt cw (n' + 1) - 1, by have := lwf_pos hw n' (by omega); omega⟩
      rw [hl, hd, stk_last]
  · refine ⟨rfl, rfl, Fr.rf.wr (by decide) _ _, rfl, fun _ => ?_⟩
    show wr m 55 0 0 (m 56 0 0 + 3 * m 56 0 1 - m 56 0 2) 55 0 0 = _
    exact wr_eq _ _ _ _ _
