/-! ### throws, copies, texts and statics, a private static of the nest -/
theorem va_AOA.moved {ty : FieldType} {u U : State} (hvm : u.vm.Alike U.vm) (h : va_AOA ty u) : va_AOA ty U := over_moved hvm h
theorem ncst {C T : String} {s0 s : State} (hW : s0.WarmedH s.vm) (h : va_Nw (.not (.castable C T)) s0) {args : Array Value} : (Cond.not (.castable C T)).before args s = true := by
  obtain ⟨c, t, h1, h2, h3⟩ := va_Nc.moved hW.alike (va_Nc.of h)
  simp [Cond.before, Cond.holds, Cond.value, h1, h2, h3]
theorem nestL_at {w : Cond} (hw : w ∈ nestL) {s0 s : State} (h : va_Nw w s0) (hW : s0.WarmedH s.vm) {args : Array Value} : w.before args s = true := by
  simp only [nestL, List.mem_cons, List.not_mem_nil, or_false] at hw
  rcases hw with rfl | rfl | rfl | rfl | rfl | rfl | rfl | rfl | rfl | rfl | rfl | rfl | rfl | rfl | rfl | rfl | rfl | rfl | rfl | rfl | rfl <;> first | exact ncst hW h | exact va_AO.use (va_AO.moved hW.alike h) | exact va_AOA.use (va_AOA.moved hW.alike h) | exact va_Nw.use rfl (va_Nw.warmM hW h) | exact va_Nw.use rfl (va_Nw.warmC hW h) | exact va_Nw.use rfl (va_Nw.warmD hW h)
abbrev nm2 : List String := ["java/lang/RuntimeException", "java/lang/Exception"]
theorem old_kept {s0 s : State} (h0 : ∀ q, q < s0.heap.size → s.heap[q]? = s0.heap[q]?) : ∀ a : Nat, a < s0.heap.size → ¬ Ab s0 a → s.heap[a]? = s0.heap[a]? := fun a ha _ => h0 a ha
def cpM (M : Mem) (k0 i0 sp k1 i1 dp n : Nat) : Mem := fun a b c => if a = k1 ∧ b = i1 then va_cpy (M k0 i0) (M k1 i1) sp dp n c else M a b c
theorem cpM_ne {M : Mem} {k0 i0 sp k1 i1 dp n a b : Nat} (h : ¬ (a = k1 ∧ b = i1)) : cpM M k0 i0 sp k1 i1 dp n a b = M a b := by
  funext c
  unfold cpM
  rw [if_neg h]
theorem cpM_at (M : Mem) (k0 i0 sp k1 i1 dp n : Nat) : cpM M k0 i0 sp k1 i1 dp n k1 i1 = va_cpy (M k0 i0) (M k1 i1) sp dp n := by
  funext c
  unfold cpM
  rw [if_pos ⟨rfl, rfl⟩]
/-- ints out of a list, from dp on -/
def cpL (M : Mem) (f : Nat → Int32) (k1 i1 dp n : Nat) : Mem := fun a b c => if a = k1 ∧ b = i1 then va_cpy f (M k1 i1) 0 dp n c else M a b c
theorem cpL_ne {M : Mem} {f : Nat → Int32} {k1 i1 dp n a b : Nat} (h : ¬ (a = k1 ∧ b = i1)) : cpL M f k1 i1 dp n a b = M a b := by
  funext c
  unfold cpL
  rw [if_neg h]
theorem cpL_at (M : Mem) (f : Nat → Int32) (k1 i1 dp n : Nat) : cpL M f k1 i1 dp n k1 i1 = va_cpy f (M k1 i1) 0 dp n := by
  funext c
  unfold cpL
  rw [if_pos ⟨rfl, rfl⟩]
/-- another memory that differs in one array of ints -/
theorem Rel.arr {s0 : State} {D : va_G} {cA : Nat → ClassId} {ad : AD} {L : AL} {M M2 : Mem} {H H1 : Heap} {k i : Nat} (hR : Rel s0 D cA ad L M H) (hT : shT k = 1) (hk : k < 100) (ho : ∀ a b, ¬ (a = k ∧ b = i) → M2 a b = M a b)
    (hP : va_P D vwCl (wl cA ad M2 L) H1) (hD : va_D (Ab s0) (wl cA ad M2 L)) (hold : (∀ q, q < s0.heap.size → H1[q]? = s0.heap[q]?) ∧ s0.heap.size ≤ H1.size) : Rel s0 D cA ad L M2 H1 := by
  refine ⟨hP, hD, ?_, ?_, hold⟩
  · have h94 : ∀ a, M2 94 a = M 94 a := fun a => ho 94 a (fun q => by rw [← q.1] at hT; exact absurd hT (by decide))
    have key : ∀ a b c t, shR a b c = some t → M2 a b c = M a b c := by
      intro a b c t ht
      by_cases e : a = k ∧ b = i
      · obtain ⟨rfl, rfl⟩ := e
        rw [shR_int hT] at ht
        cases ht
      · rw [ho a b e]
    refine ⟨?_, ?_, ?_, ?_⟩
    · intro a b hab c9 hc t ht hz
      rw [key a b c9 t ht] at hz
      exact hR.2.2.1.1 a b hab c9 hc t ht hz
    · intro q hq
      rw [h94]
      exact hR.2.2.1.2.1 q hq
    · intro a b ha hab
      obtain ⟨c1, c2, c3⟩ := hR.2.2.1.2.2.1 a b ha hab
      refine ⟨c1, c2, fun c hc t ht => ?_⟩
      rw [key a b c t ht]
      exact c3 c hc t ht
    · intro a b ha hab
      rw [h94] at hab
      exact hR.2.2.1.2.2.2 a b ha hab
  · have e1 : M2 100 1 = M 100 1 := ho 100 1 (fun q => by omega)
    have e0 : M2 100 0 = M 100 0 := ho 100 0 (fun q => by omega)
    unfold RO
    rw [e1, e0]
    exact hR.2.2.2.1
abbrev acw : Nat := nativeFrameWords "java/lang/System" "arraycopy" 5 + 11
/-- the words of a call of System.arraycopy -/
def CP (own : String) (idx : Nat) : Prop := Cond.methodLink own idx arraycopyName ∈ W0 ∧ Cond.native arraycopyName ∈ W0 ∧ Cond.static arraycopyName ∈ W0 ∧ Cond.initialized "java/lang/System" ∈ W0
/-- the words of a throw -/
def TH (own : String) (ik is ic ex n : Nat) : Prop := ∃ (ix : Nat) (rx : ByteArray) (tx : String) (bs : List Int32), (decode rx 0 = .ok (.aload_n 0, 1) ∧ decode rx 1 = .ok (.aload_n 1, 1) ∧ decode rx 2 = .ok (.invokespecial ix, 3) ∧ decode rx 5 = .ok (.return_, 1)) ∧ strL[n]? = some (own, is, tx, bs) ∧ Cond.classLink own ik (exN ex) ∈ W0 ∧ Cond.initialized (exN ex) ∈ W0 ∧ Bundle.fit (exN ex) = true ∧ (∀ w ∈ vx_atX own ic (exN ex) ix rx nm2, (w ∈ W0 ∨ w ∈ nestL) ∧ vx_ot w = true)
section XR
variable {own : String} {cc : ByteArray} {nL : Nat} {rt : Option FieldType} {fr lo mc ms u v pc : Nat} {ls : List (Nat × AV)} {st : List AV} {M : Mem} {o : Ou} {M' : Mem}
theorem xj_throw {ik is ic ex n : Nat} (d0 : decode cc pc = .ok (.new ik, 3)) (d3 : decode cc (pc + 3) = .ok (.dup, 1)) (d4 : decode cc (pc + 4) = .ok (.ldc_w is, 3)) (d7 : decode cc (pc + 7) = .ok (.invokespecial ic, 3)) (d10 : decode cc (pc + 10) = .ok (.athrow, 1)) (hT : TH own ik is ic ex n) (h1 : 5 < fr) (h2 : wgt st + 82 ≤ lo) (h3 : u + 1 ≤ mc) (h4 : v + 6 ≤ ms) (hlw : ¬ own = "BeliefRiverLaw") : Xj own cc nL rt fr lo mc ms u v pc ls st M (.inr ex) M := by
  intro l s0 D cA p e s m args below meth c C adE LE ad L H locs lsA hE hR hl hs hS hv
  obtain ⟨ix, rx, tx, bs, ⟨x0, x1, x2, x5⟩, hstr, hk, hini, hfit, hat⟩ := hT
  have hG := C.2.2.2.2.2.2.2.2.2.1
  have hW := C.2.2.2.2.2.2.2.2.1
  have hst := (hG.2.2.2.2.1 n _ hstr).1.warm hW
  have hk0 := old_kept C.2.2.2.2.2.2.2.2.2.2.2
  have hnm : ∀ x ∈ nm2, Bundle.fit x = true := by decide +kernel
  refine vx_throwX C.1 C.2.1 hG.1 x0 x1 x2 x5 C.2.2.2.2.1 hfit hnm (C.2.2.2.2.2.1 _ hk) (C.2.2.2.2.2.1 _ hini) hst (fun w hw => (hat w hw).1.elim (fun h => C.2.2.2.2.2.1 _ h) (fun h => nestL_at h (hG.2.2.2.2.2.2.2.2.2 w h) hW)) ?_ (vx_Zq.moved hW.alike (hG.2.2.1.kept hk0)) (vx_Zq.moved hW.alike (hG.2.2.2.1.kept hk0)) hS (hv.1.trans C.2.2.1.symm) d0 d3 d4 d7 d10 (fun x hx => absurd hx (fun h => no_row C.2.2.2.2.2.2.2.1.1 hlw x h)) h1 ?_ h3 h4 C.2.2.2.2.2.2.1 ?_ hS.2.2 h3 h4
  · intro w hw
    rcases List.mem_cons.mp hw with rfl | hw
    · rfl
    · rcases List.mem_cons.mp hw with rfl | hw
      · rfl
      · exact (hat w hw).2
  · have := wgt_eq ad st
    show ((stc ad st).map fun z => z.category).sum + _ ≤ lo
    rw [this]
    exact h2
  · intro t hal hz hq
    have hlt : ∀ (n : Nat) (q : Nat × va_E), (wl cA ad M L)[n]? = some q → t.heap[q.1]? = H[q.1]? := fun n q hn => hq q.1 ((hR.1 n q hn).lt)
    refine ⟨⟨ex, rfl, rfl⟩, ⟨ad, L, hE, hR.1.kept hlt, hR.2.1, hR.2.2.1, hR.2.2.2.1, fun q h => ?_, ?_⟩, ?_, fun q h9 h8 => ?_⟩
    · rw [hq q (by have := hR.2.2.2.2.2; omega)]
      exact hR.2.2.2.2.1 q h
    · have := hR.2.2.2.2.2; omega
    · have := hS.1; omega
    · rw [hq q (by have := hS.1; omega)]
      exact hS.2.1 q h9 h8
theorem xj_copy {k0 i0 k1 i1 idx : Nat} {sp dp n : Int32} (hd : decode cc pc = .ok (.invokestatic idx, 3)) (hc : CP own idx) (hT0 : shT k0 = 1) (hT1 : shT k1 = 1) (hk0 : k0 < 100) (hk1 : k1 < 100) (h1 : ¬ sp < 0) (h2 : ¬ dp < 0) (h3 : ¬ n < 0) (h4 : sp.toNatClampNeg + n.toNatClampNeg ≤ shN k0) (h5 : dp.toNatClampNeg + n.toNatClampNeg ≤ shN k1) (hf : 1 ≤ fr) (hl9 : wgt st + acw ≤ lo)
    (kk : Xj own cc nL rt fr lo mc ms u v (pc + 3) ls st (cpM M k0 i0 sp.toNatClampNeg k1 i1 dp.toNatClampNeg n.toNatClampNeg) o M') : Xj own cc nL rt fr lo mc ms u v pc ls (vI n :: vI dp :: vR k1 i1 :: vI sp :: vR k0 i0 :: st) M o M' := by
  intro l s0 D cA p e s m args below meth c C adE LE ad L H locs lsA hE hR hl hs hS hv
  obtain ⟨w1, w2, w3, w4⟩ := hc
  obtain ⟨q0, hq0, hg0⟩ := wl_get (cA := cA) hR.2.2.1 (avk_in hs.2.2.2.2.1 hk0) hk0 (by rw [hT0]; decide)
  obtain ⟨q1, hq1, hg1⟩ := wl_get (cA := cA) hR.2.2.1 (avk_in hs.2.2.1 hk1) hk1 (by rw [hT1]; decide)
  have hg1' := hg1
  rw [cellE_int hT0] at hg0
  rw [cellE_int hT1] at hg1
  refine va_copyi C.1 C.2.1 (C.2.2.1.trans hv.1.symm) C.2.2.2.2.1 (C.2.2.2.2.2.1 _ w1) (C.2.2.2.2.2.1 _ w2) (C.2.2.2.2.2.1 _ w3) (C.2.2.2.2.2.1 _ w4) (GF.K C.2.2.2.2.2.2.2.2.2.1 C.2.2.2.2.2.2.2.2.1.alike) hR.1 hR.2.1 hS q0 q1 1 1 (ty := .int) hg0 hg1 rfl rfl rfl h1 h2 h3 h4 h5 (fun _ _ => rfl) hf (by show ((stc ad st).map fun z => z.category).sum + _ ≤ lo; rw [wgt_eq]; exact hl9) hd ?_
  intro H1 locs1 hP hD hS1
  have hw2 := wl_set (M2 := cpM M k0 i0 sp.toNatClampNeg k1 i1 dp.toNatClampNeg n.toNatClampNeg) (e := .inl (cA 1, shN k1, .inl (va_cpy (fun j => M k0 i0 j) (fun j => M k1 i1 j) sp.toNatClampNeg dp.toNatClampNeg n.toNatClampNeg))) hR.2.1 hk1 hq1 hg1' (by rw [cellE_int hT1]; show _ = Sum.inl (cA 1, shN k1, Sum.inl (cpM M k0 i0 sp.toNatClampNeg k1 i1 dp.toNatClampNeg n.toNatClampNeg k1 i1)); rw [cpM_at]) (fun a b hab => cellE_congr (cpM_ne hab))
  rw [hw2] at hP hD
  exact kk l s0 D cA p e s m args below meth c C adE LE ad L H1 locs1 lsA hE (hR.arr hT1 hk1 (fun a b h => cpM_ne h) hP hD (keep_old C.2.2.2.2.2.2.2.2.2.2.2 C.2.2.2.2.2.2.2.2.2.2.1 hS1)) hl hs.2.2.2.2.2 hS1 hv
theorem xj_copyW {k1 i1 idx : Nat} {dp n : Int32} (hd : decode cc pc = .ok (.invokestatic idx, 3)) (hc : CP own idx) (hT1 : shT k1 = 1) (hk1 : k1 < 100) (h2 : ¬ dp < 0) (h3 : ¬ n < 0) (h4 : n.toNatClampNeg ≤ 7) (h5 : dp.toNatClampNeg + n.toNatClampNeg ≤ shN k1) (hf : 1 ≤ fr) (hl9 : wgt st + acw ≤ lo)
    (kk : Xj own cc nL rt fr lo mc ms u v (pc + 3) ls st (cpL M (fun j => wtL.getD j 0) k1 i1 dp.toNatClampNeg n.toNatClampNeg) o M') : Xj own cc nL rt fr lo mc ms u v pc ls (vI n :: vI dp :: vR k1 i1 :: vI 0 :: vR 101 0 :: st) M o M' := by
  intro l s0 D cA p e s m args below meth c C adE LE ad L H locs lsA hE hR hl hs hS hv
  obtain ⟨w1, w2, w3, w4⟩ := hc
  obtain ⟨q1, hq1, hg1⟩ := wl_get (cA := cA) hR.2.2.1 (avk_in hs.2.2.1 hk1) hk1 (by rw [hT1]; decide)
  have hg1' := hg1
  rw [cellE_int hT1] at hg1
  have hG := C.2.2.2.2.2.2.2.2.2.1
  have hW := C.2.2.2.2.2.2.2.2.1
  have hX := hG.2.2.2.2.2.2.2.2.1
  have e101 : ad 101 0 = cA 101000 := hR.2.2.2.1.2.2.2 101 0 (by omega) (by omega)
  have hXs : va_X (ad 101 0) 7 (fun j => wtL.getD j 0) s s.heap := by
    rw [e101]
    exact va_X.moved hW.alike (va_X.kept hX.1 (C.2.2.2.2.2.2.2.2.2.2.2 _ hX.2))
  refine va_copyx (f := fun j => wtL.getD j 0) C.1 C.2.1 (C.2.2.1.trans hv.1.symm) C.2.2.2.2.1 (C.2.2.2.2.2.1 _ w1) (C.2.2.2.2.2.1 _ w2) (C.2.2.2.2.2.1 _ w3) (C.2.2.2.2.2.1 _ w4) (GF.K hG hW.alike) hR.1 hR.2.1 hS hXs (by rw [e101]; exact Nat.lt_of_lt_of_le hX.2 C.2.2.2.2.2.2.2.2.2.2.1) (by rw [e101]; exact Nat.not_le.mpr hX.2) q1 1 hg1 rfl (by decide) h2 h3 (by show 0 + _ ≤ 7; omega) h5 hf (by show ((stc ad st).map fun z => z.category).sum + _ ≤ lo; rw [wgt_eq]; exact hl9) hd ?_
  intro H1 locs1 hP hD hS1
  have hw2 := wl_set (M2 := cpL M (fun j => wtL.getD j 0) k1 i1 dp.toNatClampNeg n.toNatClampNeg) (e := .inl (cA 1, shN k1, .inl (va_cpy (fun j => wtL.getD j 0) (fun j => M k1 i1 j) (0 : Int32).toNatClampNeg dp.toNatClampNeg n.toNatClampNeg))) hR.2.1 hk1 hq1 hg1' (by rw [cellE_int hT1]; show _ = Sum.inl (cA 1, shN k1, Sum.inl (cpL M (fun j => wtL.getD j 0) k1 i1 dp.toNatClampNeg n.toNatClampNeg k1 i1)); rw [cpL_at]; rfl) (fun a b hab => cellE_congr (cpL_ne hab))
  rw [hw2] at hP hD
  exact kk l s0 D cA p e s m args below meth c C adE LE ad L H1 locs1 lsA hE (hR.arr hT1 hk1 (fun a b h => cpL_ne h) hP hD (keep_old C.2.2.2.2.2.2.2.2.2.2.2 C.2.2.2.2.2.2.2.2.2.2.1 hS1)) hl hs.2.2.2.2.2 hS1 hv
theorem xj_getW {idx : Nat} (hd : decode cc pc = .ok (.getstatic idx, 3)) (hw : Cond.fieldLink own idx "BeliefRiver$Law" "WITHOUT_TEXT" "[I" ∈ W0) (kk : Xj own cc nL rt fr lo mc ms u v (pc + 3) ls (vR 101 0 :: st) M o M') : Xj own cc nL rt fr lo mc ms u v pc ls st M o M' := by
  intro l s0 D cA p e s m args below meth c C adE LE ad L H locs lsA hE hR hl hs hS hv
  have hG := C.2.2.2.2.2.2.2.2.2.1
  have hW := C.2.2.2.2.2.2.2.2.1
  have e101 : ad 101 0 = cA 101000 := hR.2.2.2.1.2.2.2 101 0 (by omega) (by omega)
  have hZ := va_Z.moved hW.alike (hG.2.2.2.2.2.2.2.1.kept (old_kept C.2.2.2.2.2.2.2.2.2.2.2))
  rw [← e101] at hZ
  exact va_gets C.1 C.2.1 hZ hS C.2.2.2.2.1 (C.2.2.2.2.2.1 _ hw) (fun _ h => h) hd (kk l s0 D cA p e s m args below meth c C adE LE ad L H locs lsA hE hR hl ⟨Or.inr ⟨by show 100 ≤ 101; omega, by show 101 < 300; omega⟩, hs⟩ hS hv)
theorem xj_lenW (hd : decode cc pc = .ok (.arraylength, 1)) (kk : Xj own cc nL rt fr lo mc ms u v (pc + 1) ls (vI 7 :: st) M o M') : Xj own cc nL rt fr lo mc ms u v pc ls (vR 101 0 :: st) M o M' := by
  intro l s0 D cA p e s m args below meth c C adE LE ad L H locs lsA hE hR hl hs hS hv
  have hG := C.2.2.2.2.2.2.2.2.2.1
  have hW := C.2.2.2.2.2.2.2.2.1
  have hX := hG.2.2.2.2.2.2.2.2.1
  have e101 : ad 101 0 = cA 101000 := hR.2.2.2.1.2.2.2 101 0 (by omega) (by omega)
  have hXs : va_X (ad 101 0) 7 (fun j => wtL.getD j 0) s s.heap := by
    rw [e101]
    exact va_X.moved hW.alike (va_X.kept hX.1 (C.2.2.2.2.2.2.2.2.2.2.2 _ hX.2))
  exact va_slen C.1 C.2.1 hXs (by rw [e101]; exact Nat.lt_of_lt_of_le hX.2 C.2.2.2.2.2.2.2.2.2.2.1) (by rw [e101]; exact Nat.not_le.mpr hX.2) hS hd (kk l s0 D cA p e s m args below meth c C adE LE ad L H locs lsA hE hR hl ⟨trivial, hs.2⟩ hS hv)
/-- the script: its length, its ints -/
theorem xj_lenS (hd : decode cc pc = .ok (.arraylength, 1)) (kk : Xj own cc nL rt fr lo mc ms u v (pc + 1) ls (vI (M 100 1 0) :: st) M o M') : Xj own cc nL rt fr lo mc ms u v pc ls (vR 100 0 :: st) M o M' := by
  intro l s0 D cA p e s m args below meth c C adE LE ad L H locs lsA hE hR hl hs hS hv
  have hW := C.2.2.2.2.2.2.2.2.1
  obtain ⟨hX, hlt, hng, hro⟩ := hR.2.2.2.1
  have e100 : ad 100 0 = cA 100000 := hro 100 0 (by omega) (by omega)
  have hXs : va_X (ad 100 0) (M 100 1 0).toNatClampNeg (M 100 0) s s.heap := by
    rw [e100]
    exact va_X.moved hW.alike (va_X.kept hX (C.2.2.2.2.2.2.2.2.2.2.2 _ hlt))
  have ez : Int32.ofNat (M 100 1 0).toNatClampNeg = M 100 1 0 := by
    obtain ⟨j, hj, e⟩ := nI_of hng
    rw [e, nI_clamp hj]; rfl
  refine va_slen C.1 C.2.1 hXs (by rw [e100]; exact Nat.lt_of_lt_of_le hlt C.2.2.2.2.2.2.2.2.2.2.1) (by rw [e100]; exact Nat.not_le.mpr hlt) hS hd ?_
  rw [ez]
  exact kk l s0 D cA p e s m args below meth c C adE LE ad L H locs lsA hE hR hl ⟨trivial, hs.2⟩ hS hv
theorem xj_ialdS {x : Int32} (hd : decode cc pc = .ok (.iaload, 1)) (hx : vp_in x (M 100 1 0).toNatClampNeg) (kk : Xj own cc nL rt fr lo mc ms u v (pc + 1) ls (vI (M 100 0 x.toNatClampNeg) :: st) M o M') : Xj own cc nL rt fr lo mc ms u v pc ls (vI x :: vR 100 0 :: st) M o M' := by
  intro l s0 D cA p e s m args below meth c C adE LE ad L H locs lsA hE hR hl hs hS hv
  have hW := C.2.2.2.2.2.2.2.2.1
  obtain ⟨hX, hlt, hng, hro⟩ := hR.2.2.2.1
  have e100 : ad 100 0 = cA 100000 := hro 100 0 (by omega) (by omega)
  have hXs : va_X (ad 100 0) (M 100 1 0).toNatClampNeg (M 100 0) s s.heap := by
    rw [e100]
    exact va_X.moved hW.alike (va_X.kept hX (C.2.2.2.2.2.2.2.2.2.2.2 _ hlt))
  exact va_sld C.1 C.2.1 hXs (by rw [e100]; exact Nat.lt_of_lt_of_le hlt C.2.2.2.2.2.2.2.2.2.2.1) (by rw [e100]; exact Nat.not_le.mpr hlt) hS hx hd (kk l s0 D cA p e s m args below meth c C adE LE ad L H locs lsA hE hR hl ⟨trivial, hs.2.2⟩ hS hv)
end XR
