/-! ===== what the Statement gives of the start ===== -/
abbrev gvL : List Cond := flatC (Jvm.Cond.and given_1 narrow_1)
def tmS (q : String × Nat × String × List Int32) : Term := .string q.1 q.2.1
def tmV (q : String × Nat × String × List Int32) : Term := .field (tmS q) "java/lang/String" "value" "[B"
theorem st_nest : ∀ w ∈ nestL, w ∈ lw_tbl ∨ w ∈ gvL := by decide +kernel
theorem st_ref : ∀ q ∈ strL, Cond.stringRef q.1 q.2.1 q.2.2.1 ∈ lw_tbl := by decide +kernel
theorem st_ex : ∀ q ∈ strL, Cond.exactly (tmS q) "java/lang/String" ∈ gvL := by decide +kernel
theorem st_co : ∀ q ∈ strL, Cond.eq (.field (tmS q) "java/lang/String" "coder" "B") (.int 0) ∈ gvL := by decide +kernel
theorem st_ar : ∀ q ∈ strL, Cond.arrayOf (tmV q) .byte ∈ gvL := by decide +kernel
theorem st_le : ∀ q ∈ strL, Cond.eq (.length (tmV q)) (.int (Int32.ofNat q.2.2.2.length)) ∈ gvL := by decide +kernel
def elI : List Nat := [85, 106, 116, 127, 140, 153, 168, 182, 199, 216, 233, 250, 268, 287, 308, 328, 352, 376, 401, 429, 456, 483, 511, 542]
def elC (q : String × Nat × String × List Int32) (j : Nat) : Cond := Cond.eq (.elem (tmV q) (.int (Int32.ofNat j))) (.int (q.2.2.2.getD j 0))
theorem st_el0 : ∀ n ∈ List.range 24, (gvL.drop (elI.getD n 0)).take (strL.getD n ("", 0, "", [])).2.2.2.length = (List.range (strL.getD n ("", 0, "", [])).2.2.2.length).map (elC (strL.getD n ("", 0, "", []))) := by decide +kernel
theorem st_el {n : Nat} {q : String × Nat × String × List Int32} (h : strL[n]? = some q) {j : Nat} (hj : j < q.2.2.2.length) : Cond.eq (.elem (tmV q) (.int (Int32.ofNat j))) (.int (q.2.2.2.getD j 0)) ∈ gvL := by
  have e : strL.getD n ("", 0, "", []) = q := by rw [List.getD_eq_getElem?_getD, h]; rfl
  have h0 := st_el0 n (List.mem_range.mpr (List.getElem?_eq_some_iff.mp h).1)
  rw [e] at h0
  have h1 : elC q j ∈ (List.range q.2.2.2.length).map (elC q) := List.mem_map.mpr ⟨j, List.mem_range.mpr hj, rfl⟩
  rw [← h0] at h1
  exact List.mem_of_mem_drop (List.mem_of_mem_take h1)
theorem st_wt : ∀ j ∈ List.range 7, Cond.eq (.elem (.static "BeliefRiver$Law" "WITHOUT_TEXT" "[I") (.int (Int32.ofNat j))) (.int (wtL.getD j 0)) ∈ gvL := by decide +kernel
theorem st_tbl : ∀ w ∈ [Cond.laysStatic Bundle.tN "UNASSIGNED_STACK" Bundle.steD, Cond.laysStatic Bundle.tN "SUPPRESSED_SENTINEL" Bundle.listD, Cond.initialized Bundle.tN, Cond.laysStatic "java/lang/String" "COMPACT_STRINGS" "Z", Cond.initialized "java/lang/String", Cond.laysStatic "jdk/internal/util/Preconditions" "SIOOBE_FORMATTER" "Ljava/util/function/BiFunction;", Cond.initialized "jdk/internal/util/Preconditions", Cond.laysStatic "BeliefRiver$Law" "WITHOUT_TEXT" "[I", Cond.initialized "BeliefRiver$Law", Cond.arrayClass .int, Cond.arrayClass .long], w ∈ lw_tbl := by decide +kernel
theorem st_gv : ∀ w ∈ [Cond.isRef (.static Bundle.tN "UNASSIGNED_STACK" Bundle.steD), Cond.isRef (.static Bundle.tN "SUPPRESSED_SENTINEL" Bundle.listD), Cond.eq (.static "java/lang/String" "COMPACT_STRINGS" "Z") (.int 1), Cond.isRef (.static "jdk/internal/util/Preconditions" "SIOOBE_FORMATTER" "Ljava/util/function/BiFunction;"), Cond.arrayOf (.static "BeliefRiver$Law" "WITHOUT_TEXT" "[I") .int, Cond.eq (.length (.static "BeliefRiver$Law" "WITHOUT_TEXT" "[I")) (.int 7)], w ∈ gvL := by decide +kernel
theorem arr_k {args : Array Value} {s : State} {ty : FieldType} (h : (Cond.arrayClass ty).before args s = true) : ∃ c, ArrOfT s c ty ∧ s.vm.findClass ("[" ++ ty.toString) = some c := by
  obtain ⟨c, k, comp, h1, h2, h3⟩ := Cond.arrayClass_spec (args := args) (first := s) (o := none) (s := s) (idx := []) h
  exact ⟨c, fun n z => ⟨fun k h => (by cases h), k, h2, comp, h3⟩, h1⟩
theorem arr_a {args : Array Value} {s : State} {t : FieldType} (h : (Cond.arrayOver (.array t)).before args s = true) : ∃ c, ArrOfT s c (.array t) ∧ va_RA s c (.array t) := by
  simp only [Cond.before, Cond.holds, Cond.value, beq_iff_eq] at h
  cases hc : s.vm.findClass (FieldType.array t).toString with
  | none => simp [hc] at h
  | some comp =>
    simp only [hc, Option.bind_some, Option.bind_eq_some_iff, Option.map_eq_some_iff] at h
    obtain ⟨c, hi, k, hk, hb⟩ := h
    cases hkind : k.kind with
    | array comp1 ty =>
      rw [hkind] at hb
      simp only [Bool.and_eq_true, decide_eq_true_eq] at hb
      obtain ⟨rfl, h5⟩ := hb
      exact ⟨c, fun n z => ⟨fun k h => (by cases h), k, hk, comp1, hkind⟩, h5⟩
    | _ =>
      rw [hkind] at hb
      simp at hb
theorem arr_o {args : Array Value} {s : State} {C : String} (h : (Cond.arrayOver (.object C)).before args s = true) : ∃ c, ArrOfT s c (.object C) ∧ va_RA s c (.object C) := by
  obtain ⟨comp, c, k, h1, -, h3, h4, h5⟩ := Cond.arrayOver_spec (args := args) (first := s) (o := none) (s := s) (idx := []) h
  exact ⟨c, fun n z => ⟨fun k h => (by cases h), k, h3, comp, h4⟩, k, comp, h3, h4, h1, h5⟩
theorem kn_c {args : Array Value} {s : State} (hW : ∀ w ∈ W0, w.before args s = true) : ∀ c : Nat, ∃ p : ClassId × (Nat → Nat), ∀ q : vw_C, vwCl[c]? = some q → u_Kn s q.1 q.2.1 q.2.2 p.1 p.2
  | 0 => by
    obtain ⟨a, b, h⟩ := u_known hW ul_0 (hW _ wt_337)
    exact ⟨(a, b), fun q hq => by cases hq; exact h⟩
  | 1 => by
    obtain ⟨a, b, h⟩ := u_known hW ul_1 (hW _ wt_169)
    exact ⟨(a, b), fun q hq => by cases hq; exact h⟩
  | 2 => by
    obtain ⟨a, b, h⟩ := u_known hW ul_2 (hW _ wt_249)
    exact ⟨(a, b), fun q hq => by cases hq; exact h⟩
  | 3 => by
    obtain ⟨a, b, h⟩ := u_known hW ul_3 (hW _ wt_70)
    exact ⟨(a, b), fun q hq => by cases hq; exact h⟩
  | 4 => by
    obtain ⟨a, b, h⟩ := u_known hW ul_4 (hW _ wt_139)
    exact ⟨(a, b), fun q hq => by cases hq; exact h⟩
  | 5 => by
    obtain ⟨a, b, h⟩ := u_known hW ul_5 (hW _ wt_233)
    exact ⟨(a, b), fun q hq => by cases hq; exact h⟩
  | 6 => by
    obtain ⟨a, b, h⟩ := u_known hW ul_6 (hW _ wt_269)
    exact ⟨(a, b), fun q hq => by cases hq; exact h⟩
  | 7 => by
    obtain ⟨a, b, h⟩ := u_known hW ul_7 (hW _ wt_191)
    exact ⟨(a, b), fun q hq => by cases hq; exact h⟩
  | 8 => by
    obtain ⟨a, b, h⟩ := u_known hW ul_8 (hW _ wt_35)
    exact ⟨(a, b), fun q hq => by cases hq; exact h⟩
  | 9 => by
    obtain ⟨a, b, h⟩ := u_known hW ul_9 (hW _ wt_295)
    exact ⟨(a, b), fun q hq => by cases hq; exact h⟩
  | 10 => by
    obtain ⟨a, b, h⟩ := u_known hW ul_10 (hW _ wt_404)
    exact ⟨(a, b), fun q hq => by cases hq; exact h⟩
  | 11 => by
    obtain ⟨a, b, h⟩ := u_known hW ul_11 (hW _ wt_27)
    exact ⟨(a, b), fun q hq => by cases hq; exact h⟩
  | 12 => by
    obtain ⟨a, b, h⟩ := u_known hW ul_12 (hW _ wt_1393)
    exact ⟨(a, b), fun q hq => by cases hq; exact h⟩
  | n + 13 => ⟨(0, fun _ => 0), fun q hq => by cases hq⟩
theorem st_s {args : Array Value} {s : State} (hts : ∀ w ∈ lw_tbl, w.before args s = true) (hg : ∀ w ∈ gvL, w.before args s = true) (hA : ∀ a : Nat, a < s.heap.size → ¬ Ab s a) (n : Nat) : ∃ a : Nat × Nat, ∀ q, strL[n]? = some q → vk_R q.1 q.2.1 q.2.2.1 a.1 s ∧ va_O "java/lang/String" a.1 (Ab s) s s.heap ∧ va_OF "java/lang/String" "coder" "B" (.int 0) a.1 (Ab s) s s.heap ∧ va_OF "java/lang/String" "value" "[B" (.ref a.2) a.1 (Ab s) s s.heap ∧ va_T .byte a.2 q.2.2.2.length (fun j => .int (q.2.2.2.getD j 0)) (Ab s) s s.heap := by
  cases hr : strL[n]? with
  | none => exact ⟨(0, 0), fun q hq => by cases hq⟩
  | some r =>
    have hm := List.mem_of_getElem? hr
    have hsm : r.2.2.2.length < 2 ^ 31 := by
      have : ∀ q ∈ strL, q.2.2.2.length < 2 ^ 31 := by decide +kernel
      exact this r hm
    obtain ⟨a, c, cA, kA, q1, q2, q3, q4, q5, q6, -⟩ := Cond.exactly_spec (args := args) (first := s) (o := none) (s := s) (idx := []) (t := tmS r) (cls := "java/lang/String") (hg _ (st_ex r hm))
    obtain ⟨t, ht, hT⟩ := va_Tof (args := args) (s := s) (tm := tmV r) (ty := .byte) (f := fun j => .int (r.2.2.2.getD j 0)) (A := Ab s) hsm (hg _ (st_ar r hm)) (va_eqt (hg _ (st_le r hm))) (fun j hj => va_eqt (hg _ (st_el hr hj))) hA
    exact ⟨(a, t), fun q hq => by
      cases hq
      exact ⟨vk_R.of (A := args) (hts _ (st_ref r hm)) q1, ⟨cA, q3, q5, by rw [q6]; exact q2, hA a (Array.getElem?_eq_some_iff.mp q3).1⟩, vk_OFof q1 (va_eqt (hg _ (st_co r hm))) hA, vk_OFof q1 ht hA, hT⟩⟩
theorem st_w {args : Array Value} {s : State} (hts : ∀ w ∈ lw_tbl, w.before args s = true) (hg : ∀ w ∈ gvL, w.before args s = true) (hA : ∀ a : Nat, a < s.heap.size → ¬ Ab s a) : ∃ t : Nat, va_Z "BeliefRiver$Law" "WITHOUT_TEXT" "[I" (.ref t) (Ab s) s s.heap ∧ va_X t 7 (fun j => wtL.getD j 0) s s.heap ∧ t < s.heap.size := by
  have hlen := va_eqt (hg (Cond.eq (.length (.static "BeliefRiver$Law" "WITHOUT_TEXT" "[I")) (.int 7)) (st_gv _ (by simp)))
  obtain ⟨t, ht, cell, h1, h2, h3, h4, h5, h6, h7⟩ := va_Tof (args := args) (s := s) (tm := .static "BeliefRiver$Law" "WITHOUT_TEXT" "[I") (ty := .int) (N := 7) (f := fun j => .int (wtL.getD j 0)) (A := Ab s) (by decide) (hg _ (st_gv _ (by simp))) hlen (fun j hj => va_eqt (hg _ (st_wt j (List.mem_range.mpr hj)))) hA
  obtain ⟨t2, cell2, g1, g2, -⟩ := Term.length_spec hlen
  have hsz : cell2.slots.size < 2 ^ 31 := by
    simp only [Term.eval, Option.bind_eq_bind] at hlen g1
    simp only [g1, g2, Option.bind_some] at hlen
    by_cases hlt : cell2.slots.size < 2147483648
    · exact hlt
    · simp [hlt] at hlen
  cases g1.symm.trans ht
  cases (State.arrayAt?_spec g2).1.symm.trans h1
  have e : cell.slots.size = 7 := by
    have h9 := congrArg Int32.toNatClampNeg h5
    rw [show (Int32.ofNat 7).toNatClampNeg = 7 by decide] at h9
    rw [← h9]
    exact (Int32.toNatClampNeg_ofNat_of_lt hsz).symm
  exact ⟨t, va_Zof (hts _ (st_tbl _ (by simp))) (hts _ (st_tbl _ (by simp))) ht hA, ⟨cell, h1, h2, h3, e, h6⟩, (Array.getElem?_eq_some_iff.mp h1).1⟩
set_option maxHeartbeats 1000000 in
theorem gf_start {l : Launch} {args : Array Value} {s : State} (hl : l.stackTraces = false) (hts : ∀ w ∈ lw_tbl, w.before args s = true) (hgv : (Jvm.Cond.and given_1 narrow_1).before args s = true) (b : Nat) : ∃ (D : va_G) (cA : Nat → ClassId), GF l s D cA ∧ cA 100000 = b := by
  have hg : ∀ w ∈ gvL, w.before args s = true := flat_of_before _ hgv
  have hW : ∀ w ∈ W0, w.before args s = true := fun w hw => hts w (List.mem_filter.mp hw).1
  have hA : ∀ a : Nat, a < s.heap.size → ¬ Ab s a := fun a h q => Nat.not_le.mpr h q
  have hN : ∀ w ∈ nestL, w.before args s = true := fun w hw => (st_nest w hw).elim (hts w) (hg w)
  obtain ⟨d, hd⟩ := Classical.axiomOfChoice (kn_c hW)
  obtain ⟨sa, hsa⟩ := Classical.axiomOfChoice (st_s hts hg hA)
  obtain ⟨t, w1, w2, w3⟩ := st_w hts hg hA
  obtain ⟨cI, i1, i2⟩ := arr_k (hts (Cond.arrayClass .int) (st_tbl _ (by simp)))
  obtain ⟨cJ, j1, j2⟩ := arr_k (hts (Cond.arrayClass .long) (st_tbl _ (by simp)))
  obtain ⟨cQ, k1, k2⟩ := arr_a (t := .int) (hN _ (by simp [nestL]))
  obtain ⟨c7, l1, l2⟩ := arr_o (C := RX7) (hN _ (by simp [nestL]))
  obtain ⟨c5, n1, n2⟩ := arr_o (C := RX5) (hN _ (by simp [nestL]))
  have z1 := vx_Zqof (A := Ab s) (hts (Cond.laysStatic Bundle.tN "UNASSIGNED_STACK" Bundle.steD) (st_tbl _ (by simp))) (hts (Cond.initialized Bundle.tN) (st_tbl _ (by simp))) (hg _ (st_gv _ (by simp))) hA
  have z2 := vx_Zqof (A := Ab s) (hts (Cond.laysStatic Bundle.tN "SUPPRESSED_SENTINEL" Bundle.listD) (st_tbl _ (by simp))) (hts (Cond.initialized Bundle.tN) (st_tbl _ (by simp))) (hg _ (st_gv _ (by simp))) hA
  have z3 : va_Z "java/lang/String" "COMPACT_STRINGS" "Z" (.int 1) (Ab s) s s.heap := va_Zof (hts _ (st_tbl _ (by simp))) (hts _ (st_tbl _ (by simp))) (va_eqi (hg _ (st_gv _ (by simp)))) hA
  have z4 : va_Zq "jdk/internal/util/Preconditions" "SIOOBE_FORMATTER" "Ljava/util/function/BiFunction;" (Ab s) s s.heap := va_Zqof (hts _ (st_tbl _ (by simp))) (hts _ (st_tbl _ (by simp))) (hg _ (st_gv _ (by simp))) hA
  obtain ⟨f, z5⟩ : ∃ f : Nat, va_Z "jdk/internal/util/Preconditions" "SIOOBE_FORMATTER" "Ljava/util/function/BiFunction;" .null (Ab s) s s.heap ∨ va_Z "jdk/internal/util/Preconditions" "SIOOBE_FORMATTER" "Ljava/util/function/BiFunction;" (.ref f) (Ab s) s s.heap := by
    rcases z4 with z | ⟨f, z⟩
    · exact ⟨0, Or.inl z⟩
    · exact ⟨f, Or.inr z⟩
  let cA : Nat → ClassId := fun k => if k = 0 then cI else if k = 1 then cI else if k = 2 then cJ else if k = 3 then cQ else if k = 4 then c7 else if k = 5 then c5 else if k = 100000 then b else if k = 101000 then t else if k = 107000 then f else if k < 106000 then (sa (k - 105000)).1 else (sa (k - 106000)).2
  have eK : ∀ n, n < 24 → cA (105000 + n) = (sa n).1 := fun n hn => by
    show (if _ then _ else _) = _
    rw [if_neg (by omega), if_neg (by omega), if_neg (by omega), if_neg (by omega), if_neg (by omega), if_neg (by omega), if_neg (by omega), if_neg (by omega), if_neg (by omega), if_pos (by omega), Nat.add_sub_cancel_left]
  have eV : ∀ n, n < 24 → cA (106000 + n) = (sa n).2 := fun n hn => by
    show (if _ then _ else _) = _
    rw [if_neg (by omega), if_neg (by omega), if_neg (by omega), if_neg (by omega), if_neg (by omega), if_neg (by omega), if_neg (by omega), if_neg (by omega), if_neg (by omega), if_neg (by omega), Nat.add_sub_cancel_left]
  refine ⟨(fun c => (d c).1, fun c => (d c).2), cA, ⟨hl, ⟨fun c q hq => hd c q hq, fun k q hq => ?_⟩, z1, z2, fun n q hq => ?_, z3, z5, w1, ⟨w2, w3⟩, fun w hw => ?_⟩, rfl⟩
  · match k, hq with
    | 0, hq => cases hq; exact ⟨i1, i2⟩
    | 1, hq => cases hq; exact ⟨i1, i2⟩
    | 2, hq => cases hq; exact ⟨j1, j2⟩
    | 3, hq => cases hq; exact ⟨k1, k2⟩
    | 4, hq => cases hq; exact ⟨l1, l2⟩
    | 5, hq => cases hq; exact ⟨n1, n2⟩
    | k + 6, hq => cases hq
  · have hn : n < 24 := (List.getElem?_eq_some_iff.mp hq).1
    unfold StrAt
    rw [eK n hn, eV n hn]
    exact hsa n q hq
  · have ho : ∀ w ∈ nestL, w.onTables = true ∨ w ∈ [Cond.arrayOver (.object RX7), Cond.arrayOver (.object RX5), Cond.arrayOver (.array .int), Cond.not (.castable "java/lang/IllegalArgumentException" "java/util/NoSuchElementException")] := by decide +kernel
    rcases ho w hw with h | h
    · exact va_Nw.of h (hN w hw)
    · simp only [List.mem_cons, List.not_mem_nil, or_false] at h
      rcases h with rfl | rfl | rfl | rfl <;> exact hN _ hw
