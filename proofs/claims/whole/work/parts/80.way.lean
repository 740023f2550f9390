/-! ===== ways ===== -/
/-- reached from a in at most k steps -/
def rch (P : Nat) (E : Nat → Nat → Prop) (a : Nat) : Nat → Nat → Prop
  | 0, b => b = a
  | k + 1, b => rch P E a k b ∨ ∃ i, i < P ∧ rch P E a k i ∧ E i b
theorem rch_add {P : Nat} {E : Nat → Nat → Prop} {a c : Nat} {n : Nat} (hc : c < P) (h : rch P E a n c) : ∀ k b, rch P E c k b → rch P E a (n + k) b
  | 0, b, h2 => by
    have : b = c := h2
    rw [this]
    exact h
  | k + 1, b, h2 => by
    rcases h2 with h2 | ⟨i, hi, h2, h3⟩
    · exact Or.inl (rch_add hc h k b h2)
    · exact Or.inr ⟨i, hi, rch_add hc h k i h2, h3⟩
def fw0 (w : Wd) (i j : Nat) : Nat := if i = j then 0 else if bw w i j = -1 then 99 else 1
def fws (w : Wd) : Nat → Nat → Nat → Nat
  | 0 => fw0 w
  | k + 1 => fun i j => if fws w k i k + fws w k k j ≤ fws w k i j then fws w k i k + fws w k k j else fws w k i j
theorem fws_s (w : Wd) (k i j : Nat) : fws w (k + 1) i j = if fws w k i k + fws w k k j ≤ fws w k i j then fws w k i k + fws w k k j else fws w k i j := rfl
theorem fws_d (w : Wd) : ∀ k i, fws w k i i = 0
  | 0, i => if_pos rfl
  | k + 1, i => by
    have h := fws_d w k i
    rw [fws_s]
    split <;> omega
theorem fws_le (w : Wd) : ∀ k i j, fws w k i j ≤ 99
  | 0, i, j => by
    show (if _ then _ else if _ then _ else _) ≤ 99
    split
    · omega
    · split <;> omega
  | k + 1, i, j => by
    have h := fws_le w k i j
    rw [fws_s]
    split <;> omega
theorem fws_dn (w : Wd) (k i j : Nat) : fws w (k + 1) i j ≤ fws w k i j := by
  rw [fws_s]
  split <;> omega
theorem fws_0 (w : Wd) (i j : Nat) : ∀ k, fws w k i j ≤ fw0 w i j
  | 0 => Nat.le_refl _
  | k + 1 => Nat.le_trans (fws_dn w k i j) (fws_0 w i j k)
theorem fws_tri (w : Wd) : ∀ k c, c < k → ∀ i j, fws w k i j ≤ fws w k i c + fws w k c j
  | 0, c, hc, _, _ => absurd hc (Nat.not_lt_zero c)
  | k + 1, c, hc, i, j => by
    have d1 := fws_d w k k
    have key : ∀ i j, fws w (k + 1) i j = if fws w k i k + fws w k k j ≤ fws w k i j then fws w k i k + fws w k k j else fws w k i j := fun _ _ => rfl
    by_cases h : c = k
    · subst h
      rw [key i j, key i c, key c j]
      split <;> split <;> split <;> omega
    · have t1 := fws_tri w k c (by omega) i j
      have t2 := fws_tri w k c (by omega) k j
      have t3 := fws_tri w k c (by omega) i k
      have t4 := fws_tri w k c (by omega) k k
      rw [key i j, key i c, key c j]
      split <;> split <;> split <;> omega
abbrev EE (w : Wd) : Nat → Nat → Prop := fun i j => ¬ bw w i j = -1
theorem fws_so (w : Wd) {P : Nat} : ∀ k, k ≤ P → ∀ i j, i < P → j < P → fws w k i j < 99 → rch P (EE w) i (fws w k i j) j
  | 0, _, i, j, hi, hj, h => by
    have e : fws w 0 i j = fw0 w i j := rfl
    rw [e] at h ⊢
    unfold fw0 at h ⊢
    by_cases hij : i = j
    · rw [if_pos hij]
      exact hij.symm
    · rw [if_neg hij] at h ⊢
      by_cases hb : bw w i j = -1
      · rw [if_pos hb] at h
        omega
      · rw [if_neg hb]
        exact Or.inr ⟨i, hi, rfl, hb⟩
  | k + 1, hk, i, j, hi, hj, h => by
    have key : fws w (k + 1) i j = if fws w k i k + fws w k k j ≤ fws w k i j then fws w k i k + fws w k k j else fws w k i j := rfl
    rw [key] at h ⊢
    by_cases hh : fws w k i k + fws w k k j ≤ fws w k i j
    · rw [if_pos hh] at h ⊢
      exact rch_add (by omega) (fws_so w k (by omega) i k hi (by omega) (by omega)) _ _ (fws_so w k (by omega) k j (by omega) hj (by omega))
    · rw [if_neg hh] at h ⊢
      exact fws_so w k (by omega) i j hi hj h
theorem fws_co (w : Wd) {P a : Nat} (ha : a < P) : ∀ n b, b < P → rch P (EE w) a n b → fws w P a b ≤ n
  | 0, b, hb, h => by
    have : b = a := h
    rw [this, fws_d]
    exact Nat.le_refl _
  | n + 1, b, hb, h => by
    rcases h with h | ⟨i, hi, h, hE⟩
    · exact Nat.le_succ_of_le (fws_co w ha n b hb h)
    · have h1 := fws_co w ha n i hi h
      have h2 := fws_tri w P i hi a b
      have h3 := fws_0 w i b P
      have h4 : fw0 w i b ≤ 1 := by
        unfold fw0
        rw [if_neg hE]
        split <;> omega
      omega
/-- on a shortest way there are places at every distance -/
theorem fws_all (w : Wd) {P a : Nat} (ha : a < P) : ∀ v b, b < P → fws w P a b = v → v < 99 → ∀ t, t ≤ v → ∃ c, c < P ∧ fws w P a c = t
  | 0, b, hb, h, _, t, ht => ⟨b, hb, by omega⟩
  | v + 1, b, hb, h, h9, t, ht => by
    by_cases e : t = v + 1
    · exact ⟨b, hb, by omega⟩
    · have h1 := fws_so w P (Nat.le_refl _) a b ha hb (by omega)
      rw [h] at h1
      rcases h1 with h1 | ⟨i, hi, h1, hE⟩
      · have := fws_co w ha v b hb h1
        omega
      · have h2 := fws_co w ha v i hi h1
        have h3 := fws_tri w P i hi a b
        have h4 := fws_0 w i b P
        have h5 : fw0 w i b ≤ 1 := by
          unfold fw0
          rw [if_neg hE]
          split <;> omega
        exact fws_all w ha v i hi (by omega) (by omega) t (by omega)
theorem fws_lt (w : Wd) {P a b : Nat} (ha : a < P) (hb : b < P) (h : fws w P a b < 99) : fws w P a b < P := by
  have hall := fws_all w ha _ b hb rfl h
  have hx : ∀ t, t ≤ fws w P a b → fa_first (fun c => decide (fws w P a c = t)) P < P ∧ fws w P a (fa_first (fun c => decide (fws w P a c = t)) P) = t := by
    intro t ht
    obtain ⟨c, hc, e⟩ := hall t ht
    have hlt : fa_first (fun c => decide (fws w P a c = t)) P < P := by
      have hle := fa_first_le (fun c => decide (fws w P a c = t)) P
      by_cases hh : fa_first (fun c => decide (fws w P a c = t)) P < P
      · exact hh
      · have hno := fa_first_no (fun c => decide (fws w P a c = t)) P c (by omega)
        rw [decide_eq_true e] at hno
        cases hno
    exact ⟨hlt, of_decide_eq_true (fa_first_yes _ P hlt)⟩
  have := fb_holes P (fws w P a b + 1) (fun t => fa_first (fun c => decide (fws w P a c = t)) P) (fun t ht => (hx t (by omega)).1) (fun i j hij hj e => by
    have e1 := (hx i (by omega)).2
    have e2 := (hx j (by omega)).2
    have e9 : fa_first (fun c => decide (fws w P a c = i)) P = fa_first (fun c => decide (fws w P a c = j)) P := e
    rw [e9] at e1
    omega)
  omega
/-- how far, or -1 -/
def far (w : Wd) (a b : Nat) : Int32 := if fws w (wP w) a b < 99 then nI (fws w (wP w) a b) else -1
theorem lnk_bt {w : Wd} (hW : WF w) {a b : Nat} (hb : b < wP w) : bt (lnk w a) b = true ↔ EE w a b := by
  have hP := hW.1.2
  unfold lnk
  rw [bsf_bt _ _ (by omega) b (by omega), decide_eq_true hb, Bool.true_and, decide_eq_true_iff]
theorem linked_c {w : Wd} {m : Mem} {x : Int32} (hW : WF w) (hL : CL w m) : Tot (r_X3_linkedTo 0 x m) (fun z => ∀ b, b < 32 → (bt z b = true ↔ ∃ i, i < wP w ∧ bt x i = true ∧ bt (lnk w i) b = true)) := by
  have hP := hW.1
  unfold r_X3_linkedTo r_X3_linkedTo_l4
  rw [tot_bd1]
  refine tot_for (fun k (t : Int32 × Int32) => (∀ b, b < 32 → (bt t.1 b = true ↔ ∃ i, i < k ∧ bt x i = true ∧ bt (lnk w i) b = true)) ∧ t.2 = nI k) (wP w) ?_ ?_ 0 _ (Nat.zero_le _) ⟨fun b _ => ⟨fun h => (by rw [b_0] at h; cases h), fun ⟨i, hi, _⟩ => absurd hi (Nat.not_lt_zero i)⟩, rfl⟩
  · rintro k ⟨x2, x3⟩ hk ⟨e1, e2⟩
    dsimp only at e1 e2 ⊢
    subst e2
    unfold r_X3_linkedTo_b4 r_X3_linkedTo_j29_c4
    rw [hL.1, hP.1, if_neg (nI_ge hk (by omega))]
    by_cases hx : bt x k = true
    · rw [if_neg (fun q => by have := (bit_0 (by omega)).mp q; rw [hx] at this; cases this), if_pos (inb_nI (by omega) (by omega)), clamp_nI (by omega), links_eq hW hL (by omega)]
      refine tot_some.mpr ⟨fun b hb => ?_, (nI_succ k).symm⟩
      show bt (x2 ||| lnk w k) b = true ↔ _
      rw [b_or, Bool.or_eq_true, e1 b hb]
      constructor
      · rintro (⟨i, hi, h⟩ | h)
        · exact ⟨i, by omega, h⟩
        · exact ⟨k, by omega, hx, h⟩
      · rintro ⟨i, hi, h⟩
        by_cases hik : i = k
        · rw [hik] at h
          exact Or.inr h.2
        · exact Or.inl ⟨i, by omega, h⟩
    · rw [if_pos ((bit_0 (by omega)).mpr (ts_nt' hx))]
      refine tot_some.mpr ⟨fun b hb => ?_, (nI_succ k).symm⟩
      show bt x2 b = true ↔ _
      rw [e1 b hb]
      constructor
      · rintro ⟨i, hi, h⟩
        exact ⟨i, by omega, h⟩
      · rintro ⟨i, hi, h⟩
        by_cases hik : i = k
        · rw [hik] at h
          exact absurd h.1 hx
        · exact ⟨i, by omega, h⟩
  · rintro ⟨x2, x3⟩ ⟨e1, e2⟩
    dsimp only at e1 e2 ⊢
    subst e2
    unfold r_X3_linkedTo_b4
    rw [hL.1, hP.1, if_pos (nI_le (Nat.le_refl _) (by omega)), tot_some]
    exact tot_some.mpr e1
theorem way_c {w : Wd} {m : Mem} {a b : Nat} (hW : WF w) (hL : CL w m) (ha : a < wP w) (hb : b < wP w) : r_X3_wayLength 0 (nI a) (nI b) m = some (far w a b) := by
  have hP := hW.1
  apply Tot.eq
  unfold r_X3_wayLength r_X3_wayLength_l7
  rw [tot_bdS]
  refine tot_for (fun k (t : Int32 × Int32) => (∀ c, c < wP w → (bt t.1 c = true ↔ rch (wP w) (EE w) a k c)) ∧ t.2 = nI k ∧ ∀ j, j < k → ¬ rch (wP w) (EE w) a j b) (wP w) ?_ ?_ 0 _ (Nat.zero_le _) ⟨fun c hc => ?_, rfl, fun j hj => absurd hj (Nat.not_lt_zero j)⟩
  · rintro k ⟨x3, x4⟩ hk ⟨e1, e2, e3⟩
    dsimp only at e1 e2 e3 ⊢
    subst e2
    unfold r_X3_wayLength_b7
    rw [hL.1, hP.1, if_neg (nI_ge hk (by omega))]
    by_cases hx : bt x3 b = true
    · rw [if_neg (fun q => by have := (bit_0 (by omega)).mp q; rw [hx] at this; cases this), tot_some]
      refine tot_some.mpr ?_
      have h1 := fws_co w ha k b hb ((e1 b hb).mp hx)
      have h2 : ¬ fws w (wP w) a b < k := fun q => e3 _ q (fws_so w (wP w) (Nat.le_refl _) a b ha hb (by omega))
      unfold far
      rw [if_pos (by omega)]
      congr 1
      omega
    · rw [if_pos ((bit_0 (by omega)).mpr (ts_nt' hx)), tot_bd1]
      refine (linked_c hW hL).mono ?_
      intro z hz
      refine tot_some.mpr ⟨fun c hc => ?_, (nI_succ k).symm, fun j hj => ?_⟩
      · show bt (x3 ||| z) c = true ↔ _
        rw [b_or, Bool.or_eq_true, e1 c hc, hz c (by omega)]
        constructor
        · rintro (h | ⟨i, hi, h1, h2⟩)
          · exact Or.inl h
          · exact Or.inr ⟨i, hi, (e1 i hi).mp h1, (lnk_bt hW hc).mp h2⟩
        · rintro (h | ⟨i, hi, h1, h2⟩)
          · exact Or.inl h
          · exact Or.inr ⟨i, hi, (e1 i hi).mpr h1, (lnk_bt hW hc).mpr h2⟩
      · by_cases hjk : j = k
        · rw [hjk]
          exact fun q => hx ((e1 b hb).mpr q)
        · exact e3 j (by omega)
  · rintro ⟨x3, x4⟩ ⟨e1, e2, e3⟩
    dsimp only at e1 e2 e3 ⊢
    subst e2
    unfold r_X3_wayLength_b7
    rw [hL.1, hP.1, if_pos (nI_le (Nat.le_refl _) (by omega)), tot_some]
    show Tot (r_X3_wayLength_e41_h7 m) _
    unfold r_X3_wayLength_e41_h7
    refine tot_some.mpr ?_
    unfold far
    by_cases h : fws w (wP w) a b < 99
    · exact absurd (fws_so w (wP w) (Nat.le_refl _) a b ha hb h) (e3 _ (fws_lt w ha hb h))
    · rw [if_neg h]
  · show bt (1 <<< (nI a &&& 31)) c = true ↔ c = a
    rw [bt_shl1 (by omega) (by omega), decide_eq_true_iff]
abbrev K89 : List (Nat × Nat) := [(89, 0), (89, 1), (89, 2), (89, 3), (89, 4), (89, 5), (89, 6), (89, 7), (89, 8), (89, 9), (89, 10), (89, 11)]
theorem in89 : ∀ a, a < 12 → (89, a) ∈ K89 := by decide
set_option maxHeartbeats 1000000 in
theorem far_m {m : Mem} (hW : WF (mW m)) : Tot (r_X12_laysFar m) (fun m' => (∀ i j, i < wP (mW m) → j < wP (mW m) → m' 89 i j = nI (fws (mW m) (wP (mW m)) i j)) ∧ Fj K89 [] m m') := by
  have hP := hW.1
  have hD := hW.2.1
  have h52 : ∀ m', Fj K89 [] m m' → m' 52 0 0 = nI (wP (mW m)) := fun m' hF => by
    rw [hF.rw' 52 0 (by decide) (by simp)]
    exact hP.1
  unfold r_X12_laysFar r_X12_laysFar_l2
  rw [tot_bd1]
  refine tot_for (fun k (t : Int32 × Mem) => t.1 = nI k ∧ (∀ i j, i < k → j < wP (mW m) → t.2 89 i j = nI (fw0 (mW m) i j)) ∧ Fj K89 [] m t.2) (wP (mW m)) ?_ ?_ 0 _ (Nat.zero_le _) ⟨rfl, fun i j hi => absurd hi (Nat.not_lt_zero i), Fj.rf⟩
  · rintro k ⟨x1, m1⟩ hk ⟨e1, e2, hF⟩
    dsimp only at e1 e2 hF ⊢
    subst e1
    unfold r_X12_laysFar_b2 r_X12_laysFar_l14_c2
    rw [h52 m1 hF, if_neg (nI_ge hk (by omega)), tot_bd1]
    refine tot_for (fun l (t : Int32 × Mem) => t.1 = nI l ∧ (∀ j, j < l → t.2 89 k j = nI (fw0 (mW m) k j)) ∧ (∀ i, ¬ i = k → t.2 89 i = m1 89 i) ∧ Fj K89 [] m t.2) (wP (mW m)) ?_ ?_ 0 _ (Nat.zero_le _) ⟨rfl, fun j hj => absurd hj (Nat.not_lt_zero j), fun _ _ => rfl, hF⟩
    · rintro l ⟨x2, m2⟩ hl ⟨f1, f2, f3, hF2⟩
      dsimp only at f1 f2 f3 hF2 ⊢
      subst f1
      have fW : mW m2 = mW m := mW_fj hF2 (by decide) (by simp)
      have h521 : m2 52 0 1 = nI (wD (mW m)) := by rw [hF2.rw' 52 0 (by decide) (by simp)]; exact hD.1
      have put : ∀ v : Nat, fw0 (mW m) k l = v → Tot (r_X12_laysFar_j56_c14 (nI k) (nI l) (nI v) (nI l) (nI k).toNatClampNeg m2) (Sum.elim (fun t : Int32 × Mem => t.1 = nI (l + 1) ∧ (∀ j, j < l + 1 → t.2 89 k j = nI (fw0 (mW m) k j)) ∧ (∀ i, ¬ i = k → t.2 89 i = m1 89 i) ∧ Fj K89 [] m t.2) (fun x => Tot (r_X12_laysFar_e63_h14_c2 (nI k) x) (Sum.elim (fun t : Int32 × Mem => t.1 = nI (k + 1) ∧ (∀ i j, i < k + 1 → j < wP (mW m) → t.2 89 i j = nI (fw0 (mW m) i j)) ∧ Fj K89 [] m t.2) (fun x => Tot (r_X12_laysFar_e69_h2 x) (fun m' => (∀ i j, i < wP (mW m) → j < wP (mW m) → m' 89 i j = nI (fws (mW m) (wP (mW m)) i j)) ∧ Fj K89 [] m m'))))) := by
        intro v hv
        unfold r_X12_laysFar_j56_c14
        rw [if_pos (inb_nI (by omega) (by omega)), clamp_nI (k := k) (by omega), clamp_nI (k := l) (by omega)]
        refine tot_some.mpr ⟨(nI_succ l).symm, fun j hj => ?_, fun i hi => ?_, hF2.wrK (in89 k (by omega)) _ _⟩
        · show wr m2 89 k l (nI v) 89 k j = _
          rw [wr_if]
          by_cases h : j = l
          · rw [if_pos h, h, hv]
          · rw [if_neg h]
            exact f2 j (by omega)
        · funext q
          dsimp only
          rw [wr_i hi]
          exact congrFun (f3 i hi) q
      unfold r_X12_laysFar_b14_c2
      rw [h52 m2 hF2, if_neg (nI_ge hl (by omega)), if_pos (inb_nI (by omega) (by omega))]
      by_cases hkl : k = l
      · rw [if_pos (by rw [hkl])]
        exact put 0 (if_pos hkl)
      · rw [if_neg (fun q => hkl ((nI_eq (by omega) (by omega)).mp q)), bd1_s (btw_eq h521 hD.2), fW]
        have hv : fw0 (mW m) k l = if bw (mW m) k l = -1 then 99 else 1 := if_neg hkl
        by_cases hb : bw (mW m) k l = -1
        · rw [if_pos hb]
          exact put 99 (hv.trans (if_pos hb))
        · rw [if_neg hb]
          exact put 1 (hv.trans (if_neg hb))
    · rintro ⟨x2, m2⟩ ⟨f1, f2, f3, hF2⟩
      dsimp only at f1 f2 f3 hF2 ⊢
      subst f1
      unfold r_X12_laysFar_b14_c2
      rw [h52 m2 hF2, if_pos (nI_le (Nat.le_refl _) (by omega)), tot_some]
      refine tot_some.mpr ⟨(nI_succ k).symm, fun i j hi hj => ?_, hF2⟩
      show m2 89 i j = _
      by_cases hik : i = k
      · rw [hik]
        exact f2 j hj
      · rw [f3 i hik]
        exact e2 i j (by omega) hj
  · rintro ⟨x1, m1⟩ ⟨e1, e2, hF⟩
    dsimp only at e1 e2 hF ⊢
    subst e1
    unfold r_X12_laysFar_b2
    rw [h52 m1 hF, if_pos (nI_le (Nat.le_refl _) (by omega)), tot_some]
    show Tot (r_X12_laysFar_e69_h2 m1) _
    unfold r_X12_laysFar_e69_h2 r_X12_laysFar_l71
    rw [tot_bd1]
    refine tot_for (fun k (t : Int32 × Mem) => t.1 = nI k ∧ (∀ i j, i < wP (mW m) → j < wP (mW m) → t.2 89 i j = nI (fws (mW m) k i j)) ∧ Fj K89 [] m t.2) (wP (mW m)) ?_ ?_ 0 _ (Nat.zero_le _) ⟨rfl, e2, hF⟩
    · rintro k ⟨x2, m2⟩ hk ⟨f1, f2, hF2⟩
      dsimp only at f1 f2 hF2 ⊢
      subst f1
      have dk := fws_d (mW m) k k
      have le := fws_le (mW m) k
      have ck : ∀ i, fws (mW m) (k + 1) i k = fws (mW m) k i k := fun i => by
        rw [fws_s]
        split <;> omega
      have rk : ∀ j, fws (mW m) (k + 1) k j = fws (mW m) k k j := fun j => by
        rw [fws_s]
        split <;> omega
      unfold r_X12_laysFar_b71 r_X12_laysFar_l83_c71
      rw [h52 m2 hF2, if_neg (nI_ge hk (by omega)), tot_bd1]
      refine tot_for (fun i (t : Int32 × Mem) => t.1 = nI i ∧ (∀ i2 j, i2 < i → j < wP (mW m) → t.2 89 i2 j = nI (fws (mW m) (k + 1) i2 j)) ∧ (∀ i2 j, i ≤ i2 → i2 < wP (mW m) → j < wP (mW m) → t.2 89 i2 j = nI (fws (mW m) k i2 j)) ∧ Fj K89 [] m t.2) (wP (mW m)) ?_ ?_ 0 _ (Nat.zero_le _) ⟨rfl, fun i j hi => absurd hi (Nat.not_lt_zero i), fun i j _ hi hj => f2 i j hi hj, hF2⟩
      · rintro i ⟨x3, m3⟩ hi ⟨g1, g2, g3, hF3⟩
        dsimp only at g1 g2 g3 hF3 ⊢
        subst g1
        unfold r_X12_laysFar_b83_c71 r_X12_laysFar_l95_c83
        rw [h52 m3 hF3, if_neg (nI_ge hi (by omega)), tot_bd1]
        refine tot_for (fun j (t : Int32 × Mem) => t.1 = nI j ∧ (∀ j2, j2 < j → t.2 89 i j2 = nI (fws (mW m) (k + 1) i j2)) ∧ (∀ j2, j ≤ j2 → j2 < wP (mW m) → t.2 89 i j2 = nI (fws (mW m) k i j2)) ∧ (∀ i2, ¬ i2 = i → t.2 89 i2 = m3 89 i2) ∧ Fj K89 [] m t.2) (wP (mW m)) ?_ ?_ 0 _ (Nat.zero_le _) ⟨rfl, fun j hj => absurd hj (Nat.not_lt_zero j), fun j _ hj => g3 i j (Nat.le_refl _) hi hj, fun _ _ => rfl, hF3⟩
        · rintro j ⟨x4, m4⟩ hj ⟨u1, u2, u3, u4, hF4⟩
          dsimp only at u1 u2 u3 u4 hF4 ⊢
          subst u1
          have a1 : m4 89 i j = nI (fws (mW m) k i j) := u3 j (Nat.le_refl _) hj
          have a2 : m4 89 i k = nI (fws (mW m) k i k) := by
            by_cases h : k < j
            · rw [u2 k h, ck]
            · exact u3 k (by omega) hk
          have a3 : m4 89 k j = nI (fws (mW m) k k j) := by
            by_cases h : k = i
            · rw [h] at a1 ⊢
              exact a1
            · rw [u4 k h]
              by_cases h2 : k < i
              · rw [g2 k j h2 hj, rk]
              · exact g3 k j (by omega) hk hj
          have l1 := le i j
          have l2 := le i k
          have l3 := le k j
          unfold r_X12_laysFar_b95_c83
          rw [h52 m4 hF4, if_neg (nI_ge hj (by omega)), if_pos (inb_nI (by omega) (by omega)), if_pos (inb_nI (by omega) (by omega)), if_pos (inb_nI (by omega) (by omega)), clamp_nI (k := i) (by omega), clamp_nI (k := j) (by omega), clamp_nI (k := k) (by omega), a1, a2, a3, nI_add]
          have a4 : r_X12_less (nI (fws (mW m) k i j)) (nI (fws (mW m) k i k + fws (mW m) k k j)) = nI (fws (mW m) (k + 1) i j) := by
            unfold r_X12_less
            rw [fws_s]
            by_cases h : fws (mW m) k i k + fws (mW m) k k j ≤ fws (mW m) k i j
            · rw [if_pos (nI_le h (by omega)), if_pos h]
            · rw [if_neg (nI_ge (by omega) (by omega)), if_neg h]
          rw [a4]
          refine tot_some.mpr ⟨(nI_succ j).symm, fun j2 hj2 => ?_, fun j2 h1 h2 => ?_, fun i2 hi2 => ?_, hF4.wrK (in89 i (by omega)) _ _⟩
          · dsimp only
            rw [wr_if]
            by_cases h : j2 = j
            · rw [if_pos h, h]
            · rw [if_neg h]
              exact u2 j2 (by omega)
          · dsimp only
            rw [wr_j (by omega)]
            exact u3 j2 (by omega) h2
          · funext q
            dsimp only
            rw [wr_i hi2]
            exact congrFun (u4 i2 hi2) q
        · rintro ⟨x4, m4⟩ ⟨u1, u2, u3, u4, hF4⟩
          dsimp only at u1 u2 u3 u4 hF4 ⊢
          subst u1
          unfold r_X12_laysFar_b95_c83
          rw [h52 m4 hF4, if_pos (nI_le (Nat.le_refl _) (by omega)), tot_some]
          refine tot_some.mpr ⟨(nI_succ i).symm, fun i2 j h1 h2 => ?_, fun i2 j h0 h1 h2 => ?_, hF4⟩
          · dsimp only
            by_cases h : i2 = i
            · rw [h]
              exact u2 j h2
            · rw [u4 i2 h]
              exact g2 i2 j (by omega) h2
          · dsimp only
            rw [u4 i2 (by omega)]
            exact g3 i2 j (by omega) h1 h2
      · rintro ⟨x3, m3⟩ ⟨g1, g2, g3, hF3⟩
        dsimp only at g1 g2 g3 hF3 ⊢
        subst g1
        unfold r_X12_laysFar_b83_c71
        rw [h52 m3 hF3, if_pos (nI_le (Nat.le_refl _) (by omega)), tot_some]
        exact tot_some.mpr ⟨(nI_succ k).symm, fun i j hi hj => g2 i j hi hj, hF3⟩
    · rintro ⟨x2, m2⟩ ⟨f1, f2, hF2⟩
      dsimp only at f1 f2 hF2 ⊢
      subst f1
      unfold r_X12_laysFar_b71
      rw [h52 m2 hF2, if_pos (nI_le (Nat.le_refl _) (by omega)), tot_some]
      exact tot_some.mpr ⟨f2, hF2⟩
set_option maxHeartbeats 1000000 in
theorem pair_way {m : Mem} (hI : Inv m) (x y : Int32) : Pair (fun m => r_L_way x y m) (fun m => r_X12_way x y m) m := by
  obtain ⟨hW, hR, hL, hC, hS⟩ := hI.1
  have hP := hW.1
  have bad : ¬ (isPl (mW m) x ∧ isPl (mW m) y) → ∀ m3, mW m3 = mW m → (∀ k i, ¬ k = 11 → m3 k i = m k i) → r_X12_way x y m3 = some (0, badm m3 1 0) := by
    intro h m3 e _
    have hW3 : WF (mW (wr m3 12 0 0 0)) := by rw [mW_th, e]; exact hW
    have j : r_X12_way_j22 x y (wr m3 12 0 0 0) = some (0, badm m3 1 0) := by
      unfold r_X12_way_j22 r_X12_way_j27
      rw [bd2_s (bad_10 (by decide)), if_pos rfl]
    unfold r_X12_way
    by_cases hx : isPl (mW m) x
    · rw [bd1_s (isPlace_t hW3 (by rw [mW_th, e]; exact hx)), if_pos rfl, bd1_s (isPlace_f hW3 (by rw [mW_th, e]; exact fun q => h ⟨hx, q⟩)), if_neg (by decide)]
      exact j
    · rw [bd1_s (isPlace_f hW3 (by rw [mW_th, e]; exact hx)), if_neg (by decide)]
      exact j
  by_cases hx : isPl (mW m) x
  case neg =>
    refine Pair.b0 (c := 1) hI rfl (by decide) ?_ (bad (fun q => hx q.1))
    unfold r_X11_way
    rw [thr_r (needPlace_f hL hx)]
  by_cases hy : isPl (mW m) y
  case neg =>
    refine Pair.b0 (c := 1) hI rfl (by decide) ?_ (bad (fun q => hy q.2))
    unfold r_X11_way
    rw [thr_l (needPlace_t hL hx), thr_r (needPlace_f hL hy)]
  obtain ⟨a, ha, rfl⟩ := isPl_of hW hx
  obtain ⟨b, hb, rfl⟩ := isPl_of hW hy
  refine Pair.ok (z := far (mW m) a b) [] [] K89 [(12, 0)] hI ?_ (fun m3 _ hF => ?_) rfl rfl rfl rfl rfl rfl
  · unfold r_X11_way
    rw [thr_l (needPlace_t hL hx), thr_l (needPlace_t hL hy), bd1_s (way_c hW hL ha hb)]
    exact tot_some.mpr ⟨rfl, Fj.rf⟩
  · obtain ⟨e, h60⟩ := pre3 hF (by decide) (by simp) (by decide) (by simp)
    have hW3 : WF (mW (wr m3 12 0 0 0)) := by rw [e]; exact hW
    unfold r_X12_way r_X12_way_j27
    rw [bd1_s (isPlace_t hW3 (by rw [e]; exact hx)), if_pos rfl, bd1_s (isPlace_t hW3 (by rw [e]; exact hy)), if_pos rfl, bd2_s bad_0, if_neg (by decide), tot_bd1]
    have hm := far_m hW3
    rw [e] at hm
    refine hm.mono ?_
    rintro m4 ⟨g1, g2⟩
    have z4 : m4 12 0 0 = 0 := (g2 12 0 0 (by decide) (by decide)).trans (th_z m3 0)
    have hF4 : Fj K89 [(12, 0)] m3 m4 := ((th_fj m3 0).mono (by simp) (by simp)).tr (g2.mono (by simp) (by simp))
    have le := fws_le (mW m) (wP (mW m)) a b
    rw [if_pos (inb_nI (by omega) (by omega)), if_pos (inb_nI (by omega) (by omega)), clamp_nI (k := a) (by omega), clamp_nI (k := b) (by omega), g1 a b ha hb]
    unfold far
    by_cases h : fws (mW m) (wP (mW m)) a b < 99
    · rw [if_pos (show nI (fws (mW m) (wP (mW m)) a b) < (99 : Int32) from nI_lt (b := 99) h (by omega)), if_pos h]
      exact tot_some.mpr ⟨rfl, z4, hF4⟩
    · rw [if_neg (show ¬ nI (fws (mW m) (wP (mW m)) a b) < (99 : Int32) from nI_nlt (b := 99) (by omega) (by omega)), if_neg h]
      exact tot_some.mpr ⟨rfl, z4, hF4⟩
