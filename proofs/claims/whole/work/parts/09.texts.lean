/-! ### texts: their fields, their bytes; String's own methods -/
theorem StrAt.at {s0 s : State} {cA : Nat → ClassId} {n : Nat} {q : String × Nat × String × List Int32} (h : StrAt s0 cA n q) (hW : s0.WarmedH s.vm) (h0 : ∀ q, q < s0.heap.size → s.heap[q]? = s0.heap[q]?) :
    va_O "java/lang/String" (cA (105000 + n)) (Ab s0) s s.heap ∧ va_OF "java/lang/String" "coder" "B" (.int 0) (cA (105000 + n)) (Ab s0) s s.heap ∧ va_OF "java/lang/String" "value" "[B" (.ref (cA (106000 + n))) (cA (105000 + n)) (Ab s0) s s.heap ∧ va_T .byte (cA (106000 + n)) q.2.2.2.length (fun j => .int (q.2.2.2.getD j 0)) (Ab s0) s s.heap := by
  have hk := old_kept h0
  exact ⟨va_O.moved hW.alike (h.2.1.kept hk), va_OF.moved hW.alike (h.2.2.1.kept hk), va_OF.moved hW.alike (h.2.2.2.1.kept hk), va_T.moved hW.alike (h.2.2.2.2.kept hk)⟩
section XR
variable {own : String} {cc : ByteArray} {nL : Nat} {rt : Option FieldType} {fr lo mc ms u v pc : Nat} {ls : List (Nat × AV)} {st : List AV} {M : Mem} {o : Ou} {M' : Mem}
theorem xj_i2c {x : Int32} (hd : decode cc pc = .ok (.i2c, 1)) (k : Xj own cc nL rt fr lo mc ms u v (pc + 1) ls (vI ((x.toUInt32 % 65536).toInt32) :: st) M o M') : Xj own cc nL rt fr lo mc ms u v pc ls (vI x :: st) M o M' :=
  fun l s0 D cA p e s m args below meth c C adE LE ad L H locs lsA hE hR hl hs hS hv => lv_i2c C.1 C.2.1 hd rfl (k l s0 D cA p e s m args below meth c C adE LE ad L H locs lsA hE hR hl ⟨trivial, hs.2⟩ hS hv)
theorem xj_ldcS {idx n : Nat} {tx : String} {bs : List Int32} (hd : decode cc pc = .ok (.ldc idx, 2)) (hq : strL[n]? = some (own, idx, tx, bs)) (kk : Xj own cc nL rt fr lo mc ms u v (pc + 2) ls (vR 105 n :: st) M o M') : Xj own cc nL rt fr lo mc ms u v pc ls st M o M' := by
  intro l s0 D cA p e s m args below meth c C adE LE ad L H locs lsA hE hR hl hs hS hv
  have hG := C.2.2.2.2.2.2.2.2.2.1
  have hW := C.2.2.2.2.2.2.2.2.1
  have e5 : ad 105 n = cA (105000 + n) := hR.2.2.2.1.2.2.2 105 n (by omega) (by omega)
  have hst := (hG.2.2.2.2.1 n _ hq).1.warm hW
  rw [← e5] at hst
  exact va_ldcS C.1 C.2.1 C.2.2.2.2.1 hst hd (kk l s0 D cA p e s m args below meth c C adE LE ad L H locs lsA hE hR hl ⟨Or.inr ⟨by show 100 ≤ 105; omega, by show 105 < 300; omega⟩, hs⟩ hS hv)
theorem xj_sval {idx n : Nat} {q : String × Nat × String × List Int32} (hd : decode cc pc = .ok (.getfield idx, 3)) (hq : strL[n]? = some q) (hw : Cond.fieldLink own idx "java/lang/String" "value" "[B" ∈ W0) (kk : Xj own cc nL rt fr lo mc ms u v (pc + 3) ls (vR 106 n :: st) M o M') : Xj own cc nL rt fr lo mc ms u v pc ls (vR 105 n :: st) M o M' := by
  intro l s0 D cA p e s m args below meth c C adE LE ad L H locs lsA hE hR hl hs hS hv
  have hst := (C.2.2.2.2.2.2.2.2.2.1.2.2.2.2.1 n _ hq).at C.2.2.2.2.2.2.2.2.1 C.2.2.2.2.2.2.2.2.2.2.2
  rw [← (hR.2.2.2.1.2.2.2 105 n (by omega) (by omega) : ad 105 n = cA (105000 + n)), ← (hR.2.2.2.1.2.2.2 106 n (by omega) (by omega) : ad 106 n = cA (106000 + n))] at hst
  exact vk_getf C.1 C.2.1 hst.2.2.1 hS C.2.2.2.2.1 (C.2.2.2.2.2.1 _ hw) (fun _ h => h) hd (kk l s0 D cA p e s m args below meth c C adE LE ad L H locs lsA hE hR hl ⟨Or.inr ⟨by show 100 ≤ 106; omega, by show 106 < 300; omega⟩, hs.2⟩ hS hv)
theorem xj_scod {idx n : Nat} {q : String × Nat × String × List Int32} (hd : decode cc pc = .ok (.getfield idx, 3)) (hq : strL[n]? = some q) (hw : Cond.fieldLink own idx "java/lang/String" "coder" "B" ∈ W0) (kk : Xj own cc nL rt fr lo mc ms u v (pc + 3) ls (vI 0 :: st) M o M') : Xj own cc nL rt fr lo mc ms u v pc ls (vR 105 n :: st) M o M' := by
  intro l s0 D cA p e s m args below meth c C adE LE ad L H locs lsA hE hR hl hs hS hv
  have hst := (C.2.2.2.2.2.2.2.2.2.1.2.2.2.2.1 n _ hq).at C.2.2.2.2.2.2.2.2.1 C.2.2.2.2.2.2.2.2.2.2.2
  rw [← (hR.2.2.2.1.2.2.2 105 n (by omega) (by omega) : ad 105 n = cA (105000 + n))] at hst
  exact vk_getf C.1 C.2.1 hst.2.1 hS C.2.2.2.2.1 (C.2.2.2.2.2.1 _ hw) (fun _ h => h) hd (kk l s0 D cA p e s m args below meth c C adE LE ad L H locs lsA hE hR hl ⟨trivial, hs.2⟩ hS hv)
theorem xj_compact {idx : Nat} (hd : decode cc pc = .ok (.getstatic idx, 3)) (hw : Cond.fieldLink own idx "java/lang/String" "COMPACT_STRINGS" "Z" ∈ W0) (kk : Xj own cc nL rt fr lo mc ms u v (pc + 3) ls (vI 1 :: st) M o M') : Xj own cc nL rt fr lo mc ms u v pc ls st M o M' := by
  intro l s0 D cA p e s m args below meth c C adE LE ad L H locs lsA hE hR hl hs hS hv
  have hZ := va_Z.moved C.2.2.2.2.2.2.2.2.1.alike (C.2.2.2.2.2.2.2.2.2.1.2.2.2.2.2.1.kept (old_kept C.2.2.2.2.2.2.2.2.2.2.2))
  exact va_gets C.1 C.2.1 hZ hS C.2.2.2.2.1 (C.2.2.2.2.2.1 _ hw) (fun _ h => h) hd (kk l s0 D cA p e s m args below meth c C adE LE ad L H locs lsA hE hR hl ⟨trivial, hs⟩ hS hv)
theorem xj_sioobe {idx : Nat} (hd : decode cc pc = .ok (.getstatic idx, 3)) (hw : Cond.fieldLink own idx "jdk/internal/util/Preconditions" "SIOOBE_FORMATTER" "Ljava/util/function/BiFunction;" ∈ W0) (kn : Xj own cc nL rt fr lo mc ms u v (pc + 3) ls (vN :: st) M o M') (kk : Xj own cc nL rt fr lo mc ms u v (pc + 3) ls (vR 107 0 :: st) M o M') : Xj own cc nL rt fr lo mc ms u v pc ls st M o M' := by
  intro l s0 D cA p e s m args below meth c C adE LE ad L H locs lsA hE hR hl hs hS hv
  have hk0 := old_kept C.2.2.2.2.2.2.2.2.2.2.2
  have hal := C.2.2.2.2.2.2.2.2.1.alike
  rcases C.2.2.2.2.2.2.2.2.2.1.2.2.2.2.2.2.1 with hZ | hZ
  · exact va_gets C.1 C.2.1 (va_Z.moved hal (hZ.kept hk0)) hS C.2.2.2.2.1 (C.2.2.2.2.2.1 _ hw) (fun _ h => h) hd (kn l s0 D cA p e s m args below meth c C adE LE ad L H locs lsA hE hR hl ⟨trivial, hs⟩ hS hv)
  · rw [← (hR.2.2.2.1.2.2.2 107 0 (by omega) (by omega) : ad 107 0 = cA (107000))] at hZ
    exact va_gets C.1 C.2.1 (va_Z.moved hal (hZ.kept hk0)) hS C.2.2.2.2.1 (C.2.2.2.2.2.1 _ hw) (fun _ h => h) hd (kk l s0 D cA p e s m args below meth c C adE LE ad L H locs lsA hE hR hl ⟨Or.inr ⟨by show 100 ≤ 107; omega, by show 107 < 300; omega⟩, hs⟩ hS hv)
theorem xj_slenb {n : Nat} {q : String × Nat × String × List Int32} (hd : decode cc pc = .ok (.arraylength, 1)) (hq : strL[n]? = some q) (kk : Xj own cc nL rt fr lo mc ms u v (pc + 1) ls (vI (nI q.2.2.2.length) :: st) M o M') : Xj own cc nL rt fr lo mc ms u v pc ls (vR 106 n :: st) M o M' := by
  intro l s0 D cA p e s m args below meth c C adE LE ad L H locs lsA hE hR hl hs hS hv
  have hst := (C.2.2.2.2.2.2.2.2.2.1.2.2.2.2.1 n _ hq).at C.2.2.2.2.2.2.2.2.1 C.2.2.2.2.2.2.2.2.2.2.2
  rw [← (hR.2.2.2.1.2.2.2 106 n (by omega) (by omega) : ad 106 n = cA (106000 + n))] at hst
  exact va_tlen C.1 C.2.1 hst.2.2.2 hS rfl hd (kk l s0 D cA p e s m args below meth c C adE LE ad L H locs lsA hE hR hl ⟨trivial, hs.2⟩ hS hv)
theorem xj_sbald {n : Nat} {x : Int32} {q : String × Nat × String × List Int32} (hd : decode cc pc = .ok (.baload, 1)) (hq : strL[n]? = some q) (hx : vp_in x q.2.2.2.length) (kk : Xj own cc nL rt fr lo mc ms u v (pc + 1) ls (vI (q.2.2.2.getD x.toNatClampNeg 0) :: st) M o M') : Xj own cc nL rt fr lo mc ms u v pc ls (vI x :: vR 106 n :: st) M o M' := by
  intro l s0 D cA p e s m args below meth c C adE LE ad L H locs lsA hE hR hl hs hS hv
  have hst := (C.2.2.2.2.2.2.2.2.2.1.2.2.2.2.1 n _ hq).at C.2.2.2.2.2.2.2.2.1 C.2.2.2.2.2.2.2.2.2.2.2
  rw [← (hR.2.2.2.1.2.2.2 106 n (by omega) (by omega) : ad 106 n = cA (106000 + n))] at hst
  exact va_tb C.1 C.2.1 hst.2.2.2 hS hx rfl hd (kk l s0 D cA p e s m args below meth c C adE LE ad L H locs lsA hE hR hl ⟨trivial, hs.2.2⟩ hS hv)
/-- a call of a method of String -/
def CT (own : String) (idx : Nat) (y : MethodName) (cc : ByteArray) (nL : Nat) (rt : Option FieldType) (n : Nat) : Prop := y.cls = "java/lang/String" ∧ Cond.methodLink own idx y ∈ W0 ∧ Cond.instanceMethod y ∈ W0 ∧ Cond.selects y.cls y y ∈ W0 ∧ Cond.code y cc nL rt ∈ W0 ∧ Cond.initialized y.cls ∈ W0 ∧ (parseMethodDescriptor y.desc).map (fun d => d.parameters.length) = some n
theorem xj_callT {y : MethodName} {cc' : ByteArray} {nL' : Nat} {rt' : Option FieldType} {fr' lo' mc' ms' idx n k : Nat} {q : String × Nat × String × List Int32} {vs : List AV} {w : Option AV} {M1 : Mem} (hM : Mt y cc' nL' rt' fr' lo' mc' ms' (vR 105 k :: vs) M (.inl w) M1) (hd : decode cc pc = .ok (.invokevirtual idx, 3)) (hq : strL[k]? = some q) (hc : CT own idx y cc' nL' rt' n) (hn : vs.length = n) {sk : List AV} (hsk : vs.reverse ++ vR 105 k :: st = sk) (hw : wgt st ≤ 8) (h1 : fr' + 1 ≤ fr) (h2 : 8 + (nL' + 11) + lo' ≤ lo) (h3 : u + mc' ≤ mc) (h4 : v + ms' ≤ ms)
    (kk : Xj own cc nL rt fr lo mc ms (u + mc') (v + ms') (pc + 3) ls (w.toList ++ st) M1 o M') : Xj own cc nL rt fr lo mc ms u v pc ls sk M o M' := by
  subst hsk
  intro l s0 D cA p e s m args below meth c C adE LE ad L H locs lsA hE hR hl hs hS hv
  have hs2 := oks_app.mp hs
  have hvs : oks L (vR 105 k :: vs) := ⟨hs2.2.1, oks_mem.mpr fun z hz => oks_mem.mp hs2.1 z (List.mem_reverse.mpr hz)⟩
  obtain ⟨hy, w1, w2, w3, w4, w5, n3⟩ := hc
  have hts := C.2.2.2.2.2.1
  have hst := (C.2.2.2.2.2.2.2.2.2.1.2.2.2.2.1 k _ hq).at C.2.2.2.2.2.2.2.2.1 C.2.2.2.2.2.2.2.2.2.2.2
  rw [← (hR.2.2.2.1.2.2.2 105 k (by omega) (by omega) : ad 105 k = cA (105000 + k))] at hst
  obtain ⟨cell, g1, g2, g3, -⟩ := hst.1.kept hS.2.1
  have hcw : CallW { frames := fr, cells := mc, slots := ms, locals := lo } s args own y.cls idx y cc' nL' rt' (.code y cc' nL' rt' :: W0) { frames := fr', cells := mc', slots := ms', locals := lo' } mc' ms' n :=
    ⟨callB_of n hts (W0_good (ws := W0) w4) rfl rfl rfl (hts _ w5) (hts _ w1) ⟨by rw [hy]; decide, by rw [hy]; decide, n3⟩ ⟨h1, h2⟩, hts _ w2, hts _ w3⟩
  have hrun := vx_runV (p := p) (l := l) (e := e) (below := below) (meth := meth) (H := H) (locs := locs) (cells := u) (slots := v) (As := stc ad vs) (rest := stc ad st) (b := ad 105 k) (g := F0 m pc lsA (stc ad (vs.reverse ++ vR 105 k :: st))) (nL := nL) (cc := cc) ⟨C.1, C.2.1, C.2.2.1, C.2.2.2.2.1, C.2.2.2.2.2.1⟩ (hM l s0 D cA C.2.2.2.2.2.2.2.2.2.1 ad L hvs) hcw
    ⟨blind_Pc, ⟨cell, g1, g2, by rw [hy]; exact g3⟩, fun U hU hW => ⟨rfl, State.WarmedH.trans C.2.2.2.2.2.2.2.2.1 hW, by rw [hU]; exact hR⟩⟩ rfl (by rw [← hn]; unfold stc; rw [List.length_map]) hv.1 (by show stc ad _ = _; unfold stc; rw [List.map_append, List.map_reverse]; rfl) (lv_room (by rw [wgt_eq]; exact hw)) hd ⟨h3, h4⟩
  exact run_ret C hE hl hs2.2.2 hS hv hrun kk
/-- a call of a private static of the nest -/
def CN (own : String) (idx : Nat) (y : MethodName) (cc : ByteArray) (nL : Nat) (rt : Option FieldType) (n : Nat) : Prop := Cond.methodLinkNest own idx y "BeliefRiver" ∈ nestL ∧ Cond.static y ∈ W0 ∧ Cond.initialized y.cls ∈ W0 ∧ Cond.code y cc nL rt ∈ W0 ∧ y.cls ≠ "java/lang/invoke/MethodHandle" ∧ y.cls ≠ "java/lang/invoke/VarHandle" ∧ (parseMethodDescriptor y.desc).map (fun d => d.parameters.length) = some n
theorem met_vx {l : Launch} {y : MethodName} {ws : List Cond} {rm : Room} {Pc : Array Value → State → Prop} {s0 : State} {D : va_G} {cA : Nat → ClassId} {ad : AD} {L : AL} {w : Option AV} {M1 : Mem} {mc ms : Nat} {free : Addr → Prop} (h : vx_Met l y ws rm Pc (QC s0 D cA ad L (.inl w) M1) (XQ s0 D cA ad L (.inl w) M1) mc ms free) : Met l y ws rm Pc (QC s0 D cA ad L (.inl w) M1) mc ms free := by
  intro p e ha hc hk s m args below hf happ hP hK
  obtain ⟨n, o, h1, h2, h3, h4⟩ := h p e ha hc hk s m args below hf happ hP hK
  refine ⟨n, o, h1, h2, h3, ?_⟩
  rcases h4 with h4 | ⟨q, -, E, ce, Lc, ⟨⟨k, hk9, -⟩, -⟩, -⟩
  · exact h4
  · cases hk9
theorem xj_callN {y : MethodName} {cc' : ByteArray} {nL' : Nat} {rt' : Option FieldType} {fr' lo' mc' ms' idx n : Nat} {vs : List AV} {w : Option AV} {M1 : Mem} (hM : Mt y cc' nL' rt' fr' lo' mc' ms' vs M (.inl w) M1) (hd : decode cc pc = .ok (.invokestatic idx, 3)) (hc : CN own idx y cc' nL' rt' n) (hn : vs.length = n) {sk : List AV} (hsk : vs.reverse ++ st = sk) (hw : wgt st ≤ 8) (h1 : fr' + 1 ≤ fr) (h2 : 8 + (nL' + 11) + lo' ≤ lo) (h3 : u + mc' ≤ mc) (h4 : v + ms' ≤ ms)
    (kk : Xj own cc nL rt fr lo mc ms (u + mc') (v + ms') (pc + 3) ls (w.toList ++ st) M1 o M') : Xj own cc nL rt fr lo mc ms u v pc ls sk M o M' := by
  subst hsk
  intro l s0 D cA p e s m args below meth c C adE LE ad L H locs lsA hE hR hl hs hS hv
  have hs2 := oks_app.mp hs
  have hvs : oks L vs := oks_mem.mpr fun z hz => oks_mem.mp hs2.1 z (List.mem_reverse.mpr hz)
  obtain ⟨w1, w2, w3, w4, n1, n2, n3⟩ := hc
  have hts := C.2.2.2.2.2.1
  have hG := C.2.2.2.2.2.2.2.2.2.1
  have hWm := C.2.2.2.2.2.2.2.2.1
  have hcn : va_CN { frames := fr, cells := mc, slots := ms, locals := lo } s args own idx y "BeliefRiver" cc' nL' rt' (.code y cc' nL' rt' :: W0) { frames := fr', cells := mc', slots := ms', locals := lo' } mc' ms' n := va_cnB n hts (W0_good (ws := W0) w4) rfl rfl rfl (va_Nw.warmM hWm (hG.2.2.2.2.2.2.2.2.2 _ w1)) (hts _ w3) ⟨n1, n2, n3⟩ ⟨h1, h2⟩
  have hrun := va_runSN (p := p) (l := l) (e := e) (below := below) (meth := meth) (H := H) (locs := locs) (cells := u) (slots := v) (As := stc ad vs) (rest := stc ad st) (g := F0 m pc lsA (stc ad (vs.reverse ++ st))) (nL := nL) (cc := cc) ⟨C.1, C.2.1, C.2.2.1, C.2.2.2.2.1, C.2.2.2.2.2.1⟩ (met_vx (hM l s0 D cA hG ad L hvs)) ⟨hcn, hts _ w2, trivial⟩
    ⟨blind_Pc, fun U hU hW => ⟨rfl, State.WarmedH.trans hWm hW, by rw [hU]; exact hR⟩⟩ rfl (by rw [← hn]; unfold stc; rw [List.length_map]) hv.1 (by show stc ad _ = _; unfold stc; rw [List.map_append, List.map_reverse]) (lv_room (by rw [wgt_eq]; exact hw)) hd ⟨h3, h4⟩
  refine run_ret C hE hl hs2.2 hS hv (a := (stc ad vs).toArray) (w := w) (M1 := M1) (mc' := mc') (ms' := ms') ?_ kk
  intro T hT X
  obtain ⟨v9, st₀, t, T', Lc, g0, g1, g2, g3, g4, g5, g6⟩ := hrun T hT X
  exact Or.inl ⟨v9, st₀, t, T', Lc, g0, g1, g2, g3, g4, g5, g6⟩
end XR
