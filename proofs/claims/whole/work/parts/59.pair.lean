/-! ===== guards; a call on both sides ===== -/
def badm (m : Mem) (c : Int32) (k : Nat) : Mem := wr (wr (wr m 12 0 0 0) 12 0 0 c) 50 0 k (m 50 0 k + 1)
theorem need_eq (x : Int32) (m : Mem) : r_X11_need x m = if x = 0 then some (Sum.inr 1, wr m 11 0 16 (m 11 0 16 + 1)) else some (Sum.inl (), m) := rfl
theorem needRange_t {v lo hi : Int32} {m : Mem} (h : lo ≤ v ∧ v ≤ hi) : r_X11_needRange v lo hi m = some (Sum.inl (), m) := by
  unfold r_X11_needRange
  rw [if_neg (fun e => lt_iff.mp e h.1), if_neg (fun e => lt_iff.mp e h.2)]
  rfl
theorem needRange_f {v lo hi : Int32} {m : Mem} (h : ¬ (lo ≤ v ∧ v ≤ hi)) : r_X11_needRange v lo hi m = some (Sum.inr 1, wr m 11 0 16 (m 11 0 16 + 1)) := by
  unfold r_X11_needRange
  by_cases h1 : v < lo
  · rw [if_pos h1]
    rfl
  · rw [if_neg h1]
    have h2 : hi < v := lt_iff.mpr (fun e => h ⟨Classical.not_not.mp (fun q => h1 (lt_iff.mpr q)), e⟩)
    rw [if_pos h2]
    rfl
theorem needMember_t {v n : Int32} {m : Mem} (h : 0 ≤ v ∧ v < n) : r_X11_needMember v n m = some (Sum.inl (), m) := by
  unfold r_X11_needMember
  rw [if_neg (fun e => lt_iff.mp e h.1), if_pos h.2]
theorem needMember_f {v n : Int32} {m : Mem} (h : ¬ (0 ≤ v ∧ v < n)) : r_X11_needMember v n m = some (Sum.inr 0, wr m 11 0 15 (m 11 0 15 + 1)) := by
  unfold r_X11_needMember r_X11_needMember_j9
  by_cases h1 : v < 0
  · rw [if_pos h1]
  · rw [if_neg h1, if_neg (fun e => h ⟨Classical.not_not.mp (fun q => h1 (lt_iff.mpr q)), e⟩)]
def isPl (w : Wd) (a : Int32) : Prop := 0 ≤ a ∧ a < w 0 0
def isPe (w : Wd) (p : Int32) : Prop := 0 ≤ p ∧ p < w 0 2
theorem in_of {a : Int32} {n : Nat} (hn : n ≤ 1000000) (h : 0 ≤ a ∧ a < nI n) : ∃ k, k < n ∧ a = nI k := by
  have h1 := (fa_le 0 a).mp h.1
  have h2 := (fa_lt a (nI n)).mp h.2
  rw [nI_toInt (by omega)] at h2
  have h0 : (0 : Int32).toInt = 0 := by decide
  exact inb_of (inb_iff.mpr ⟨by omega, h2⟩)
theorem in_to {k n : Nat} (hn : n ≤ 1000000) (h : k < n) : 0 ≤ nI k ∧ nI k < nI n := ⟨nI_pos' (by omega), nI_lt h (by omega)⟩
theorem isPl_of {w : Wd} (hW : WF w) {a : Int32} (h : isPl w a) : ∃ k, k < wP w ∧ a = nI k := by
  have hP := hW.1.2
  exact in_of (by omega) ⟨h.1, by rw [← hW.1.1]; exact h.2⟩
theorem isPe_of {w : Wd} (hW : WF w) {a : Int32} (h : isPe w a) : ∃ k, k < wN w ∧ a = nI k := by
  have hP := hW.2.2.1.2
  exact in_of (by omega) ⟨h.1, by rw [← hW.2.2.1.1]; exact h.2⟩
theorem needPlace_t {w : Wd} {m : Mem} {a : Int32} (hL : CL w m) (h : isPl w a) : r_X11_needPlace a m = some (Sum.inl (), m) := by
  unfold r_X11_needPlace
  rw [needMember_t (by rw [hL.1]; exact h)]
  rfl
theorem needPlace_f {w : Wd} {m : Mem} {a : Int32} (hL : CL w m) (h : ¬ isPl w a) : r_X11_needPlace a m = some (Sum.inr 0, wr m 11 0 15 (m 11 0 15 + 1)) := by
  unfold r_X11_needPlace
  rw [needMember_f (by rw [hL.1]; exact h)]
  rfl
theorem needPerson_t {w : Wd} {m : Mem} {a : Int32} (hL : CL w m) (h : isPe w a) : r_X11_needPerson a m = some (Sum.inl (), m) := by
  unfold r_X11_needPerson
  rw [needMember_t (by rw [hL.2.2.1]; exact h)]
  rfl
theorem needPerson_f {w : Wd} {m : Mem} {a : Int32} (hL : CL w m) (h : ¬ isPe w a) : r_X11_needPerson a m = some (Sum.inr 0, wr m 11 0 15 (m 11 0 15 + 1)) := by
  unfold r_X11_needPerson
  rw [needMember_f (by rw [hL.2.2.1]; exact h)]
  rfl
theorem in_t {v lo hi : Int32} (h : lo ≤ v ∧ v ≤ hi) : r_X12_in v lo hi = true := by
  unfold r_X12_in
  rw [if_neg (fun e => lt_iff.mp e h.1), if_neg (fun e => lt_iff.mp e h.2)]
theorem in_f {v lo hi : Int32} (h : ¬ (lo ≤ v ∧ v ≤ hi)) : r_X12_in v lo hi = false := by
  unfold r_X12_in
  by_cases h1 : v < lo
  · rw [if_pos h1]
  · rw [if_neg h1, if_pos (lt_iff.mpr (fun e => h ⟨Classical.not_not.mp (fun q => h1 (lt_iff.mpr q)), e⟩))]
theorem below {a : Int32} {n : Nat} (hn : n ≤ 1000000) : (0 ≤ a ∧ a ≤ nI n - 1) ↔ (0 ≤ a ∧ a < nI n) := by
  have e1 : (nI n - 1).toInt = (n : Int) - 1 := by
    rcases n with _ | n
    · decide
    · rw [nI_pred, nI_toInt (by omega)]
      omega
  rw [fa_le a, fa_lt a, e1, nI_toInt (by omega)]
  constructor
  · rintro ⟨h1, h2⟩
    exact ⟨h1, by omega⟩
  · rintro ⟨h1, h2⟩
    exact ⟨h1, by omega⟩
theorem mW_th (m : Mem) (x : Int32) : mW (wr m 12 0 0 x) = mW m := mW_fj (K := []) (J := [(12, 0)]) (Fj.rf.wrJ (by decide) _ _) (by simp) (by decide)
theorem isPlace_t {m : Mem} {a : Int32} (hW : WF (mW m)) (h : isPl (mW m) a) : r_X12_isPlace a m = some true := by
  unfold r_X12_isPlace
  have hP := hW.1
  rw [in_t (by rw [show m 52 0 0 = nI (wP (mW m)) from hP.1]; exact (below (by omega)).mpr (by rw [← hP.1]; exact h))]
theorem isPlace_f {m : Mem} {a : Int32} (hW : WF (mW m)) (h : ¬ isPl (mW m) a) : r_X12_isPlace a m = some false := by
  unfold r_X12_isPlace
  have hP := hW.1
  rw [in_f (fun e => h (by rw [show m 52 0 0 = nI (wP (mW m)) from hP.1] at e; have := (below (by omega)).mp e; rw [← hP.1] at this; exact this))]
theorem isPerson_t {m : Mem} {a : Int32} (hW : WF (mW m)) (h : isPe (mW m) a) : r_X12_isPerson a m = some true := by
  unfold r_X12_isPerson
  have hP := hW.2.2.1
  rw [in_t (by rw [show m 52 0 2 = nI (wN (mW m)) from hP.1]; exact (below (by omega)).mpr (by rw [← hP.1]; exact h))]
theorem isPerson_f {m : Mem} {a : Int32} (hW : WF (mW m)) (h : ¬ isPe (mW m) a) : r_X12_isPerson a m = some false := by
  unfold r_X12_isPerson
  have hP := hW.2.2.1
  rw [in_f (fun e => h (by rw [show m 52 0 2 = nI (wN (mW m)) from hP.1] at e; have := (below (by omega)).mp e; rw [← hP.1] at this; exact this))]
theorem bad_0 {c k : Int32} {m : Mem} : r_X12_bad 0 c k (wr m 12 0 0 0) = some (false, wr m 12 0 0 0) := by
  unfold r_X12_bad r_X12_bad_j26
  rw [if_pos rfl, wr_eq, if_pos rfl]
theorem bad_10 {c : Int32} {m : Mem} (hc : ¬ c = 0) : r_X12_bad 1 c 0 (wr m 12 0 0 0) = some (true, badm m c 0) := by
  unfold r_X12_bad r_X12_bad_j26 badm
  rw [if_neg (by decide), wr_eq, if_pos rfl, if_pos (by decide), show (0 : Int32).toNatClampNeg = 0 from rfl, wr_k (a := 50) (by decide), wr_k (a := 12) (by decide), wr_eq, if_neg hc]
theorem bad_11 {c : Int32} {m : Mem} (hc : ¬ c = 0) : r_X12_bad 1 c 1 (wr m 12 0 0 0) = some (true, badm m c 1) := by
  unfold r_X12_bad r_X12_bad_j26 badm
  rw [if_neg (by decide), wr_eq, if_pos rfl, if_pos (by decide), show (1 : Int32).toNatClampNeg = 1 from rfl, wr_k (a := 50) (by decide), wr_k (a := 12) (by decide), wr_eq, if_neg hc]
theorem badm_12 (m : Mem) (c : Int32) (k : Nat) : badm m c k 12 0 0 = c := by
  unfold badm
  rw [wr_k (by decide), wr_eq]
theorem badm_r (m : Mem) (c : Int32) (k i : Nat) : badm m c k 100 i = m 100 i := by
  funext j
  unfold badm
  rw [wr_k (by decide), wr_k (by decide), wr_k (by decide)]
theorem badm_i0 {m : Mem} (hI : Inv m) (c : Int32) : Inv (badm (wr m 11 0 15 (m 11 0 15 + 1)) c 0) := by
  have h := ((hI.c0).th 0).th c
  have h2 := InvX.m0 (d0 := 0) (d1 := 0) h
  rw [wr_k (a := 50) (by decide), wr_k (a := 50) (by decide)] at h2
  exact h2
theorem badm_i1 {m : Mem} (hI : Inv m) (c : Int32) : Inv (badm (wr m 11 0 16 (m 11 0 16 + 1)) c 1) := by
  have h := ((hI.c1).th 0).th c
  have h2 := InvX.m1 (d0 := 0) (d1 := 0) h
  rw [wr_k (a := 50) (by decide), wr_k (a := 50) (by decide)] at h2
  exact h2
/-- a call on both sides: the wrapper's number is what the reference says to be thrown, the answers are alike -/
def Pair (wrp mod : Mem → Option (Int32 × Mem)) (m : Mem) : Prop := Tot (wrp m) (fun q => (∀ i, q.2 100 i = m 100 i) ∧ Tot (mod q.2) (fun p => p.2 12 0 0 = q.1 ∧ (q.1 = 0 → jL (p.2 92 0 0) (p.2 92 0 1) = p.1.toInt64) ∧ (∀ i, p.2 100 i = m 100 i) ∧ Inv p.2))
theorem Pair.b0 {a b : Option Int32} {c : Int32} {cl : Mem → Option ((Int32 ⊕ Nat) × Mem)} {mod : Mem → Option (Int32 × Mem)} {m : Mem} (hI : Inv m) (ha : a = some c) (hc : ¬ c = 0) (h1 : cl m = some (Sum.inr 0, wr m 11 0 15 (m 11 0 15 + 1))) (h2 : ∀ m3, mW m3 = mW m → (∀ k i, ¬ k = 11 → m3 k i = m k i) → mod m3 = some (0, badm m3 c 0)) : Pair (fun m => wrapI a b (cl m)) mod m := by
  unfold Pair
  dsimp only
  rw [h1, ha]
  refine tot_some.mpr ⟨fun i => ?_, ?_⟩
  · show wr m 11 0 15 (m 11 0 15 + 1) 100 i = m 100 i
    funext j
    exact wr_k (by decide)
  · show Tot (mod (wr m 11 0 15 (m 11 0 15 + 1))) _
    rw [h2 _ (mW_fj (K := []) (J := [(11, 15)]) (Fj.rf.wrJ (by decide) _ _) (by simp) (by decide)) (fun k i hk => by funext j; exact wr_k hk)]
    refine tot_some.mpr ⟨badm_12 (wr m 11 0 15 (m 11 0 15 + 1)) c 0, fun e => absurd e hc, fun i => ?_, badm_i0 hI c⟩
    show badm (wr m 11 0 15 (m 11 0 15 + 1)) c 0 100 i = m 100 i
    rw [badm_r]
    funext j
    exact wr_k (a := 100) (k := 11) (by decide)
theorem Pair.b1 {a b : Option Int32} {c : Int32} {cl : Mem → Option ((Int32 ⊕ Nat) × Mem)} {mod : Mem → Option (Int32 × Mem)} {m : Mem} (hI : Inv m) (hb : b = some c) (hc : ¬ c = 0) (h1 : cl m = some (Sum.inr 1, wr m 11 0 16 (m 11 0 16 + 1))) (h2 : ∀ m3, mW m3 = mW m → (∀ k i, ¬ k = 11 → m3 k i = m k i) → mod m3 = some (0, badm m3 c 1)) : Pair (fun m => wrapI a b (cl m)) mod m := by
  unfold Pair
  dsimp only
  rw [h1, hb]
  refine tot_some.mpr ⟨fun i => ?_, ?_⟩
  · show wr m 11 0 16 (m 11 0 16 + 1) 100 i = m 100 i
    funext j
    exact wr_k (by decide)
  · show Tot (mod (wr m 11 0 16 (m 11 0 16 + 1))) _
    rw [h2 _ (mW_fj (K := []) (J := [(11, 16)]) (Fj.rf.wrJ (by decide) _ _) (by simp) (by decide)) (fun k i hk => by funext j; exact wr_k hk)]
    refine tot_some.mpr ⟨badm_12 (wr m 11 0 16 (m 11 0 16 + 1)) c 1, fun e => absurd e hc, fun i => ?_, badm_i1 hI c⟩
    show badm (wr m 11 0 16 (m 11 0 16 + 1)) c 1 100 i = m 100 i
    rw [badm_r]
    funext j
    exact wr_k (a := 100) (k := 11) (by decide)
theorem scK_100 {q : Nat × Nat} {K : List (Nat × Nat)} (h : K.all (fun q => q.1 != 100) = true) (hq : q ∈ K) : ¬ q.1 = 100 := by
  have := List.all_eq_true.mp h q hq
  simpa using this
theorem Pair.ok {a b : Option Int32} {cl : Mem → Option ((Int32 ⊕ Nat) × Mem)} {mod : Mem → Option (Int32 × Mem)} {m : Mem} {z : Int32} (K J K' J' : List (Nat × Nat)) (hI : Inv m) (h1 : Tot (cl m) (fun q => q.1 = Sum.inl z ∧ Fj K J m q.2)) (h2 : ∀ m3, Inv m3 → Fj ((92, 0) :: K) J m m3 → Tot (mod m3) (fun p => p.1 = z ∧ p.2 12 0 0 = 0 ∧ Fj K' J' m3 p.2))
    (s1 : K.all scK = true) (s2 : J.all scJ = true) (s3 : K'.all scK = true) (s4 : J'.all scJ = true) (t1 : (K ++ K').all (fun q => q.1 != 100) = true) (t3 : K'.all (fun q => q.1 != 92) = true) : Pair (fun m => wrapI a b (cl m)) mod m := by
  unfold Pair
  have no100 : ∀ {L : List (Nat × Nat)}, L.all scJ = true → ∀ q ∈ L, ¬ q.1 = 100 ∧ ¬ q.1 = 92 := fun hL q hq => by
    have := List.all_eq_true.mp hL q hq
    simp only [scJ, Bool.and_eq_true, Bool.or_eq_true, beq_iff_eq] at this
    omega
  have tK : ∀ q ∈ K, ¬ q.1 = 100 := fun q hq => scK_100 t1 (List.mem_append_left _ hq)
  have tK' : ∀ q ∈ K', ¬ q.1 = 100 := fun q hq => scK_100 t1 (List.mem_append_right _ hq)
  have t92 : ∀ q ∈ K', ¬ q.1 = 92 := fun q hq => by
    have := List.all_eq_true.mp t3 q hq
    simpa using this
  refine (wrapI_tot (a := a) (b := b) (sp := Sum.inl z) (c := 0) (Q := fun m1 => Fj K J m m1) h1 rfl).mono ?_
  rintro ⟨c, m3⟩ ⟨h3, m1, h4, h5⟩
  dsimp only [Sum.elim_inl] at h3 h5 ⊢
  subst h3
  have hF : Fj ((92, 0) :: K) J m m3 := by
    rw [h5]
    exact (h4.mono (fun q hq => List.mem_cons_of_mem _ hq) (fun q hq => hq)).tr ((wrL_fr m1 z.toInt64).mono (by simp)).j
  have hI3 : Inv m3 := InvX.fj hF (by rw [List.all_cons, s1]; rfl) s2 hI
  have e100 : ∀ i, m3 100 i = m 100 i := fun i => hF.rw' 100 i (fun q hq e => by
    rcases List.mem_cons.mp hq with rfl | hq
    · cases e
    · exact tK q hq (by rw [e])) (fun q hq e => (no100 s2 q hq).1 e)
  refine ⟨e100, (h2 m3 hI3 hF).mono ?_⟩
  rintro ⟨z8, m7⟩ ⟨g1, g2, g3⟩
  dsimp only at g1 g2 g3 ⊢
  subst g1
  refine ⟨g2, fun _ => ?_, fun i => (g3.rw' 100 i (fun q hq e => tK' q hq (by rw [e])) (fun q hq e => (no100 s4 q hq).1 e)).trans (e100 i), InvX.fj g3 s3 s4 hI3⟩
  rw [g3.rw' 92 0 (fun q hq e => t92 q hq (by rw [e])) (fun q hq e => (no100 s4 q hq).2 e), h5]
  exact wrL_rd m1 _
theorem tail2 {r : Option (Int32 × Mem)} {z2 : Int32} {m : Mem} (h2 : Tot r (fun p => p.2 12 0 0 = z2 ∧ (z2 = 0 → jL (p.2 92 0 0) (p.2 92 0 1) = p.1.toInt64) ∧ (∀ i, p.2 100 i = m 100 i) ∧ Inv p.2)) : Tot (bd2 r fun z8 m7 => (if (r_X12_thrown m7) = z2 then (if z2 = 0 then (if (lg_cmp (jL (m7 92 0 0) (m7 92 0 1)) z8.toInt64) = 0 then (some m7) else (none)) else (some m7)) else (none))) (fun m7 => Inv m7 ∧ ∀ i, m7 100 i = m 100 i) := by
  rw [tot_bd2]
  refine h2.mono ?_
  rintro ⟨z8, m7⟩ ⟨g1, g2, g3, g4⟩
  dsimp only at g1 g2 g3 g4 ⊢
  rw [if_pos (show r_X12_thrown m7 = z2 from g1)]
  by_cases h0 : z2 = 0
  · rw [if_pos h0, if_pos (by rw [g2 h0]; exact cmp_0 _)]
    exact tot_some.mpr ⟨g4, g3⟩
  · rw [if_neg h0]
    exact tot_some.mpr ⟨g4, g3⟩
theorem thr_l {α β : Type} {o : Option ((α ⊕ Nat) × Mem)} {f : α → Mem → Option ((β ⊕ Nat) × Mem)} {x : α} {m : Mem} (h : o = some (Sum.inl x, m)) : thr o f = f x m := by rw [h]; rfl
theorem thr_r {α β : Type} {o : Option ((α ⊕ Nat) × Mem)} {f : α → Mem → Option ((β ⊕ Nat) × Mem)} {k : Nat} {m : Mem} (h : o = some (Sum.inr k, m)) : thr o f = some (Sum.inr k, m) := by rw [h]; rfl
theorem bd1_s {α β : Type} {o : Option α} {f : α → Option β} {x : α} (h : o = some x) : bd1 o f = f x := by rw [h]; rfl
theorem bd2_s {α β : Type} {o : Option (α × Mem)} {f : α → Mem → Option β} {x : α} {m : Mem} (h : o = some (x, m)) : bd2 o f = f x m := by rw [h]; rfl
/-- the script has the call's ints -/
def Sx (x4 : Int32) (m : Mem) : Prop := ∀ j, j < 10 → inb (x4 + nI j) (m 100 1 0).toNatClampNeg = true
