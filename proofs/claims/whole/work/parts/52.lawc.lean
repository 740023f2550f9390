/-! ===== the class's evaluation of the law ===== -/
def enc (cw cv : Nat → Int32) (k : Nat) : Int32 := if cw k = 0 then cv k else if cw k = 1 then 1000 + cv k else 1998 + cw k
theorem join_eq (i d k j : Nat) (m : Mem) (hj : j < 7) (hd : d + 1 < 150) : r_X4_drawOfInputs_j68_c4 i (nI (d + 2)) (nI k) (nI (2000 + j)) m = some (Sum.inl (nI (d + 1), nI k + 1, wr m 35 i d (opv (nI (2 + j)) (m 35 i d) (m 35 i (d + 1))))) := by
  unfold r_X4_drawOfInputs_j68_c4
  rw [if_neg (show ¬ nI (d + 2) < (2 : Int32) from nI_nlt (a := d + 2) (b := 2) (by omega) (by omega)), nI_neg1, nI_pred, if_pos (inb_nI (by omega) (by omega)), if_pos (inb_nI (by omega) (by omega)), clamp_nI (by omega), clamp_nI (by omega)]
  unfold r_X4_drawOfInputs_j176_c4 r_X4_drawOfInputs_j195_c4 r_X4_drawOfInputs_j214_c4 r_X4_drawOfInputs_j233_c4 r_X4_drawOfInputs_j235_c4 r_X4_drawOfInputs_j245_c4
  have hin : inb (nI d) 150 = true := inb_nI (by omega) (by omega)
  simp only [nI_pred, if_pos hin, clamp_nI (show d ≤ 1000000 by omega)]
  generalize m 35 i d = u
  generalize m 35 i (d + 1) = v
  have e0 : ∀ a b : Nat, a < 3000 → b < 3000 → (nI a = nI b ↔ a = b) := fun a b ha hb => nI_eq (by omega) (by omega)
  have l : ∀ n : Nat, (OfNat.ofNat n : Int32) = nI n := fun _ => rfl
  match j, hj with
  | 0, _ =>
    rw [if_pos (show nI (2000 + 0) = 2000 from rfl)]
    rfl
  | 1, _ =>
    rw [if_neg (by decide), if_pos (show nI (2000 + 1) = 2001 from rfl)]
    rfl
  | 2, _ =>
    rw [if_neg (by decide), if_neg (by decide), if_pos (show nI (2000 + 2) = 2002 from rfl)]
    rfl
  | 3, _ =>
    rw [if_neg (by decide), if_neg (by decide), if_neg (by decide), if_pos (show nI (2000 + 3) = 2003 from rfl)]
    show _ = some (Sum.inl (nI (d + 1), nI k + 1, wr m 35 i d (if v = 0 then 0 else u / v)))
    by_cases h0 : v = 0
    · rw [if_pos h0, if_pos h0]
    · rw [if_neg h0, if_neg h0, if_neg h0]
  | 4, _ =>
    rw [if_neg (by decide), if_neg (by decide), if_neg (by decide), if_neg (by decide), if_pos (show nI (2000 + 4) = 2004 from rfl)]
    show _ = some (Sum.inl (nI (d + 1), nI k + 1, wr m 35 i d (if v = 0 then 0 else remI u v)))
    by_cases h0 : v = 0
    · rw [if_pos h0, if_pos h0]
    · rw [if_neg h0, if_neg h0, if_neg h0]
  | 5, _ =>
    rw [if_neg (by decide), if_neg (by decide), if_neg (by decide), if_neg (by decide), if_neg (by decide), if_pos (show nI (2000 + 5) = 2005 from rfl)]
    show _ = some (Sum.inl (nI (d + 1), nI k + 1, wr m 35 i d (if u < v then u else v)))
    by_cases h0 : v ≤ u
    · rw [if_pos h0, if_neg (fun e => lt_iff.mp e h0)]
    · rw [if_neg h0, if_pos (lt_iff.mpr h0)]
  | 6, _ =>
    rw [if_neg (by decide), if_neg (by decide), if_neg (by decide), if_neg (by decide), if_neg (by decide), if_neg (by decide)]
    show _ = some (Sum.inl (nI (d + 1), nI k + 1, wr m 35 i d (if v < u then u else v)))
    by_cases h0 : u ≤ v
    · rw [if_pos h0, if_neg (fun e => lt_iff.mp e h0)]
    · rw [if_neg h0, if_pos (lt_iff.mpr h0)]
set_option maxHeartbeats 1000000 in
theorem drawIn_tot {m : Mem} {i n : Nat} {cw cv : Nat → Int32} (hn : m 4 i 3 = nI n) (h0 : 0 < n) (hc : ∀ k, k < n → m 34 i k = enc cw cv k) (hw : lwf n cw cv) : Tot (r_X4_drawOfInputs i m) (fun r => r.1 = cl99 ((lst cw cv (m 33 i) n).getLastD 0) ∧ Fr [(35, i)] m r.2) := by
  have hn9 := hw.1
  unfold r_X4_drawOfInputs r_X4_drawOfInputs_l4
  rw [tot_bd1]
  refine tot_for (fun k s => s.1 = nI (dpt cw k) ∧ s.2.1 = nI k ∧ Fr [(35, i)] m s.2.2 ∧ lst cw cv (m 33 i) k = stk (s.2.2 35 i) (dpt cw k)) n ?_ ?_ 0 _ (Nat.zero_le _) ?_
  · rintro k ⟨x1, x2, m1⟩ hk ⟨e1, e2, hF, hl⟩
    dsimp only at e1 e2 hF hl ⊢
    subst e1 e2
    have hdk := dpt_le cw k
    have f1 : m1 4 i = m 4 i := hF 4 i (by simp)
    have f2 : m1 34 i = m 34 i := hF 34 i (by simp)
    have f3 : m1 33 i = m 33 i := hF 33 i (by simp)
    unfold r_X4_drawOfInputs_b4
    rw [f1, hn, if_neg (nI_ge hk (by omega)), if_pos (inb_nI (by omega) (by omega)), clamp_nI (by omega), f2, hc k hk, f3]
    rcases hw.2 k hk with ⟨c0, c1⟩ | ⟨c0, c1⟩ | ⟨j, hj, c0, hd⟩
    · obtain ⟨v, hv, e⟩ := inb_of c1
      have ee : enc cw cv k = nI v := by unfold enc; rw [if_pos c0, e]
      rw [ee, if_neg (show ¬ (2000 : Int32) ≤ nI (v) from nI_ge (b := 2000) (a := v) (by omega) (by omega)), if_neg (show ¬ (150 : Int32) ≤ nI (dpt cw k) from nI_ge (b := 150) (a := dpt cw k) (by omega) (by omega)), if_neg (show ¬ (1000 : Int32) ≤ nI (v) from nI_ge (b := 1000) (a := v) (by omega) (by omega))]
      unfold r_X4_drawOfInputs_j61_c4 r_X4_drawOfInputs_j245_c4
      rw [if_pos (inb_nI (by omega) (by omega)), clamp_nI (by omega), tot_some]
      obtain ⟨q1, q2⟩ := lst_push (g := fun j => wr m1 35 i (dpt cw k) (nI v) 35 i j) hl (Or.inl ⟨c0, e.symm⟩) (wr_eq _ _ _ _ _) (fun j hj => wr_j (by omega))
      exact ⟨by rw [q2, nI_succ], (nI_succ k).symm, hF.wr (by simp) _ _, q1⟩
    · obtain ⟨v, hv, e⟩ := inb_of c1
      have ee : enc cw cv k = nI (1000 + v) := by unfold enc; rw [if_neg (by rw [c0]; decide), if_pos c0, e]; exact nI_add 1000 v
      have es : nI (1000 + v) - 1000 = nI v := by
        show nI (1000 + v) - nI 1000 = nI v
        rw [nI_sub (by omega), show 1000 + v - 1000 = v by omega]
      rw [ee, if_neg (show ¬ (2000 : Int32) ≤ nI (1000 + v) from nI_ge (b := 2000) (a := 1000 + v) (by omega) (by omega)), if_neg (show ¬ (150 : Int32) ≤ nI (dpt cw k) from nI_ge (b := 150) (a := dpt cw k) (by omega) (by omega)), if_pos (show (1000 : Int32) ≤ nI (1000 + v) from nI_le (a := 1000) (b := 1000 + v) (by omega) (by omega)), es, if_pos (inb_nI (by omega) (by omega))]
      unfold r_X4_drawOfInputs_j61_c4 r_X4_drawOfInputs_j245_c4
      rw [if_pos (inb_nI (by omega) (by omega)), clamp_nI (by omega), tot_some]
      obtain ⟨q1, q2⟩ := lst_push (g := fun j => wr m1 35 i (dpt cw k) (m 33 i (nI v).toNatClampNeg) 35 i j) hl (Or.inr ⟨c0, by rw [e]⟩) (wr_eq _ _ _ _ _) (fun j hj => wr_j (by omega))
      exact ⟨by rw [q2, nI_succ], (nI_succ k).symm, hF.wr (by simp) _ _, q1⟩
    · obtain ⟨d, hd2⟩ : ∃ d, dpt cw k = d + 2 := ⟨dpt cw k - 2, by omega⟩
      obtain ⟨n0, n1, -⟩ := op_dpt hj c0
      have ee : enc cw cv k = nI (2000 + j) := by unfold enc; rw [if_neg n0, if_neg n1, c0]; exact (nI_add 1998 (2 + j)).trans (by congr 1; omega)
      rw [hd2] at hl hdk ⊢
      rw [ee, if_pos (show (2000 : Int32) ≤ nI (2000 + j) from nI_le (a := 2000) (b := 2000 + j) (by omega) (by omega)), join_eq i d k j m1 hj (by omega), tot_some]
      obtain ⟨q1, q2⟩ := lst_join (g := fun j9 => wr m1 35 i d (opv (nI (2 + j)) (m1 35 i d) (m1 35 i (d + 1))) 35 i j9) hd2 hl hj c0 (by rw [c0]; exact wr_eq _ _ _ _ _) (fun j hj => wr_j (by omega))
      exact ⟨by rw [q2], (nI_succ k).symm, hF.wr (by simp) _ _, q1⟩
  · rintro ⟨x1, x2, m1⟩ ⟨e1, e2, hF, hl⟩
    dsimp only at e1 e2 hF hl ⊢
    subst e1 e2
    have f1 : m1 4 i = m 4 i := hF 4 i (by simp)
    unfold r_X4_drawOfInputs_b4
    rw [f1, hn, if_pos (nI_le (Nat.le_refl _) (by omega)), tot_some]
    show Tot (r_X4_drawOfInputs_e251_h4 i m1) _
    obtain ⟨n', rfl⟩ : ∃ n', n = n' + 1 := ⟨n - 1, by omega⟩
    obtain ⟨d, hd⟩ : ∃ d, dpt cw (n' + 1) = d + 1 := ⟨dpt cw (n' + 1) - 1, by have := lwf_pos hw n' (by omega); omega⟩
    rw [hl, hd, stk_last]
    unfold r_X4_drawOfInputs_e251_h4 cl99
    split
    · split
      · exact tot_some.mpr ⟨rfl, hF⟩
      · exact tot_some.mpr ⟨rfl, hF⟩
    · exact tot_some.mpr ⟨rfl, hF⟩
  · exact ⟨rfl, rfl, Fr.rf, rfl⟩
/-- the law without a text, as codes -/
def wtw : Nat → Int32 := fun k => [1, 1, 0, 4, 2, 1, 3].getD k 0
def wtv : Nat → Int32 := fun k => [0, 1, 3, 0, 0, 2, 0].getD k 0
theorem wt_enc : ∀ k, k < 7 → wtL.getD k 0 = enc wtw wtv k := by decide
theorem wt_lwf : lwf 7 wtw wtv := by
  refine ⟨by decide, fun k hk => ?_⟩
  match k, hk with
  | 0, _ => exact Or.inr (Or.inl ⟨rfl, by decide⟩)
  | 1, _ => exact Or.inr (Or.inl ⟨rfl, by decide⟩)
  | 2, _ => exact Or.inl ⟨rfl, by decide⟩
  | 3, _ => exact Or.inr (Or.inr ⟨2, by decide, rfl, by decide⟩)
  | 4, _ => exact Or.inr (Or.inr ⟨0, by decide, rfl, by decide⟩)
  | 5, _ => exact Or.inr (Or.inl ⟨rfl, by decide⟩)
  | 6, _ => exact Or.inr (Or.inr ⟨1, by decide, rfl, by decide⟩)
theorem wt_lst (kn : Nat → Int32) : (lst wtw wtv kn 7).getLastD 0 = kn 0 + 3 * kn 1 - kn 2 := by
  show kn 0 + kn 1 * 3 - kn 2 = _
  rw [Int32.mul_comm]
/-- the class's law is that of the codes: its own text, or none -/
def lawC (i n : Nat) (cw cv : Nat → Int32) (m : Mem) : Prop := (n = 0 ∧ m 4 i 3 = 7 ∧ ∀ k, k < 7 → m 34 i k = wtL.getD k 0) ∨ (0 < n ∧ m 4 i 3 = nI n ∧ ∀ k, k < n → m 34 i k = enc cw cv k)
theorem drawOf_tot {m : Mem} {i n : Nat} {cw cv : Nat → Int32} (h : lawC i n cw cv m) (hw : lwf n cw cv) : Tot (r_X4_drawOfInputs i m) (fun r => r.1 = lawv n cw cv (m 33 i) ∧ Fr [(35, i)] m r.2) := by
  rcases h with ⟨h0, h1, h2⟩ | ⟨h0, h1, h2⟩
  · refine (drawIn_tot (n := 7) (cw := wtw) (cv := wtv) h1 (by decide) (fun k hk => (h2 k hk).trans (wt_enc k hk)) wt_lwf).mono fun r hr => ⟨?_, hr.2⟩
    rw [hr.1, wt_lst]
    unfold lawv
    rw [if_pos h0]
  · refine (drawIn_tot h1 h0 h2 hw).mono fun r hr => ⟨?_, hr.2⟩
    rw [hr.1]
    unfold lawv
    rw [if_neg (by omega)]
