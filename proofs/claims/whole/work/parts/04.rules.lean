/-! ### the rules, an instruction each -/
def isL : AV → Bool
  | .inr (.inl _) => true
  | _ => false
theorem cat_cv (ad : AD) (z : AV) : ((cv ad z).category == 2) = isL z := by
  match z with
  | .inl x => rfl
  | .inr (.inl y) => rfl
  | .inr (.inr none) => rfl
  | .inr (.inr (some q)) => rfl
theorem cat1 (ad : AD) {z : AV} (h : isL z = false) : (cv ad z).category = 1 := by
  match z, h with
  | .inl x, _ => rfl
  | .inr (.inr none), _ => rfl
  | .inr (.inr (some q)), _ => rfl
theorem lsc_getE (ad : AD) {ls : List (Nat × AV)} {j i : Nat} {z : AV} (h : ls[j]? = some (i, z)) : (lsc ad ls)[j]? = some (i, cv ad z) := by
  unfold lsc
  rw [List.getElem?_map, h]
  rfl
theorem lsc_get (ad : AD) {ls : List (Nat × AV)} {j i : Nat} {z : AV} (h : ls[j]? = some (i, z)) : (i, cv ad z) ∈ lsc ad ls := List.mem_of_getElem? (lsc_getE ad h)
theorem okl_filter {L : AL} {ls : List (Nat × AV)} {f : Nat × AV → Bool} (h : okl L ls) : okl L (ls.filter f) := okl_mem.mpr fun q hq => okl_mem.mp h q (List.mem_filter.mp hq).1
theorem okl_pick {L : AL} {ls : List (Nat × AV)} {ks : List Nat} (h : okl L ls) : okl L (ks.filterMap (fun k => ls[k]?)) := okl_mem.mpr fun q hq => by
  obtain ⟨k, -, hk⟩ := List.mem_filterMap.mp hq
  exact okl_mem.mp h q (List.mem_of_getElem? hk)
theorem lsc_pick (ad : AD) (ls : List (Nat × AV)) (ks : List Nat) : lv_pick (lsc ad ls) ks = lsc ad (ks.filterMap (fun k => ls[k]?)) := by
  unfold lv_pick lsc
  rw [List.map_filterMap]
  congr 1
  funext k
  rw [List.getElem?_map]
theorem lsc_st1 {ad : AD} {lsB : Array Slot} {nL i : Nat} {z : AV} {ls : List (Nat × AV)} (h : lv_has lsB nL ((i, cv ad z) :: (lsc ad ls).filter (fun q => !(q.1 == i) && !(q.1 + 1 == i && q.2.category == 2)))) : lv_has lsB nL (lsc ad ((i, z) :: ls.filter (fun q => !(q.1 == i) && !(q.1 + 1 == i && isL q.2)))) := by
  have e : (lsc ad ls).filter (fun q => !(q.1 == i) && !(q.1 + 1 == i && q.2.category == 2)) = lsc ad (ls.filter (fun q => !(q.1 == i) && !(q.1 + 1 == i && isL q.2))) := by
    unfold lsc
    rw [List.filter_map]
    congr 1
    refine congrArg (fun f => List.filter f ls) (funext fun q => ?_)
    simp only [Function.comp, cat_cv]
  rw [e] at h
  exact h
theorem lsc_st2 {ad : AD} {lsB : Array Slot} {nL i : Nat} {z : AV} {ls : List (Nat × AV)} (h : lv_has lsB nL ((i, cv ad z) :: (lsc ad ls).filter (fun q => !(q.1 == i) && (!(q.1 == i + 1) && !(q.1 + 1 == i && q.2.category == 2))))) : lv_has lsB nL (lsc ad ((i, z) :: ls.filter (fun q => !(q.1 == i) && (!(q.1 == i + 1) && !(q.1 + 1 == i && isL q.2))))) := by
  have e : (lsc ad ls).filter (fun q => !(q.1 == i) && (!(q.1 == i + 1) && !(q.1 + 1 == i && q.2.category == 2))) = lsc ad (ls.filter (fun q => !(q.1 == i) && (!(q.1 == i + 1) && !(q.1 + 1 == i && isL q.2)))) := by
    unfold lsc
    rw [List.filter_map]
    congr 1
    refine congrArg (fun f => List.filter f ls) (funext fun q => ?_)
    simp only [Function.comp, cat_cv]
  rw [e] at h
  exact h
section XR
variable {own : String} {cc : ByteArray} {nL : Nat} {rt : Option FieldType} {fr lo mc ms u v pc : Nat} {ls : List (Nat × AV)} {st : List AV} {M : Mem} {o : Ou} {M' : Mem}
theorem xj_iadd {x y : Int32} (hd : decode cc pc = .ok (.iadd, 1)) (k : Xj own cc nL rt fr lo mc ms u v (pc + 1) ls (vI (x + y) :: st) M o M') : Xj own cc nL rt fr lo mc ms u v pc ls (vI y :: vI x :: st) M o M' :=
  fun l s0 D cA p e s m args below meth c C adE LE ad L H locs lsA hE hR hl hs hS hv => lv_iadd C.1 C.2.1 hd (k l s0 D cA p e s m args below meth c C adE LE ad L H locs lsA hE hR hl ⟨trivial, hs.2.2⟩ hS hv)
theorem xj_isub {x y : Int32} (hd : decode cc pc = .ok (.isub, 1)) (k : Xj own cc nL rt fr lo mc ms u v (pc + 1) ls (vI (x - y) :: st) M o M') : Xj own cc nL rt fr lo mc ms u v pc ls (vI y :: vI x :: st) M o M' :=
  fun l s0 D cA p e s m args below meth c C adE LE ad L H locs lsA hE hR hl hs hS hv => lv_isub C.1 C.2.1 hd (k l s0 D cA p e s m args below meth c C adE LE ad L H locs lsA hE hR hl ⟨trivial, hs.2.2⟩ hS hv)
theorem xj_imul {x y : Int32} (hd : decode cc pc = .ok (.imul, 1)) (k : Xj own cc nL rt fr lo mc ms u v (pc + 1) ls (vI (x * y) :: st) M o M') : Xj own cc nL rt fr lo mc ms u v pc ls (vI y :: vI x :: st) M o M' :=
  fun l s0 D cA p e s m args below meth c C adE LE ad L H locs lsA hE hR hl hs hS hv => lv_imul C.1 C.2.1 hd (k l s0 D cA p e s m args below meth c C adE LE ad L H locs lsA hE hR hl ⟨trivial, hs.2.2⟩ hS hv)
theorem xj_iand {x y : Int32} (hd : decode cc pc = .ok (.iand, 1)) (k : Xj own cc nL rt fr lo mc ms u v (pc + 1) ls (vI (x &&& y) :: st) M o M') : Xj own cc nL rt fr lo mc ms u v pc ls (vI y :: vI x :: st) M o M' :=
  fun l s0 D cA p e s m args below meth c C adE LE ad L H locs lsA hE hR hl hs hS hv => lv_iand C.1 C.2.1 hd (k l s0 D cA p e s m args below meth c C adE LE ad L H locs lsA hE hR hl ⟨trivial, hs.2.2⟩ hS hv)
theorem xj_ior {x y : Int32} (hd : decode cc pc = .ok (.ior, 1)) (k : Xj own cc nL rt fr lo mc ms u v (pc + 1) ls (vI (x ||| y) :: st) M o M') : Xj own cc nL rt fr lo mc ms u v pc ls (vI y :: vI x :: st) M o M' :=
  fun l s0 D cA p e s m args below meth c C adE LE ad L H locs lsA hE hR hl hs hS hv => lv_ior C.1 C.2.1 hd (k l s0 D cA p e s m args below meth c C adE LE ad L H locs lsA hE hR hl ⟨trivial, hs.2.2⟩ hS hv)
theorem xj_ixor {x y : Int32} (hd : decode cc pc = .ok (.ixor, 1)) (k : Xj own cc nL rt fr lo mc ms u v (pc + 1) ls (vI (x ^^^ y) :: st) M o M') : Xj own cc nL rt fr lo mc ms u v pc ls (vI y :: vI x :: st) M o M' :=
  fun l s0 D cA p e s m args below meth c C adE LE ad L H locs lsA hE hR hl hs hS hv => lv_ixor C.1 C.2.1 hd (k l s0 D cA p e s m args below meth c C adE LE ad L H locs lsA hE hR hl ⟨trivial, hs.2.2⟩ hS hv)
theorem xj_ishl {x y : Int32} (hd : decode cc pc = .ok (.ishl, 1)) (k : Xj own cc nL rt fr lo mc ms u v (pc + 1) ls (vI (x <<< (y &&& 31)) :: st) M o M') : Xj own cc nL rt fr lo mc ms u v pc ls (vI y :: vI x :: st) M o M' :=
  fun l s0 D cA p e s m args below meth c C adE LE ad L H locs lsA hE hR hl hs hS hv => lv_ishl C.1 C.2.1 hd (k l s0 D cA p e s m args below meth c C adE LE ad L H locs lsA hE hR hl ⟨trivial, hs.2.2⟩ hS hv)
theorem xj_ishr {x y : Int32} (hd : decode cc pc = .ok (.ishr, 1)) (k : Xj own cc nL rt fr lo mc ms u v (pc + 1) ls (vI (x >>> (y &&& 31)) :: st) M o M') : Xj own cc nL rt fr lo mc ms u v pc ls (vI y :: vI x :: st) M o M' :=
  fun l s0 D cA p e s m args below meth c C adE LE ad L H locs lsA hE hR hl hs hS hv => lv_ishr C.1 C.2.1 hd (k l s0 D cA p e s m args below meth c C adE LE ad L H locs lsA hE hR hl ⟨trivial, hs.2.2⟩ hS hv)
theorem xj_iushr {x y : Int32} (hd : decode cc pc = .ok (.iushr, 1)) (k : Xj own cc nL rt fr lo mc ms u v (pc + 1) ls (vI ((x.toUInt32 >>> (y.toUInt32 &&& Int32.toUInt32 31)).toInt32) :: st) M o M') : Xj own cc nL rt fr lo mc ms u v pc ls (vI y :: vI x :: st) M o M' :=
  fun l s0 D cA p e s m args below meth c C adE LE ad L H locs lsA hE hR hl hs hS hv => lv_iushr C.1 C.2.1 hd rfl (k l s0 D cA p e s m args below meth c C adE LE ad L H locs lsA hE hR hl ⟨trivial, hs.2.2⟩ hS hv)
theorem xj_ineg {x : Int32} (hd : decode cc pc = .ok (.ineg, 1)) (k : Xj own cc nL rt fr lo mc ms u v (pc + 1) ls (vI (-x) :: st) M o M') : Xj own cc nL rt fr lo mc ms u v pc ls (vI x :: st) M o M' :=
  fun l s0 D cA p e s m args below meth c C adE LE ad L H locs lsA hE hR hl hs hS hv => lv_ineg C.1 C.2.1 hd (k l s0 D cA p e s m args below meth c C adE LE ad L H locs lsA hE hR hl ⟨trivial, hs.2⟩ hS hv)
theorem xj_idiv {x y : Int32} (hd : decode cc pc = .ok (.idiv, 1)) (hne : ¬ y = 0) (k : Xj own cc nL rt fr lo mc ms u v (pc + 1) ls (vI (x / y) :: st) M o M') : Xj own cc nL rt fr lo mc ms u v pc ls (vI y :: vI x :: st) M o M' :=
  fun l s0 D cA p e s m args below meth c C adE LE ad L H locs lsA hE hR hl hs hS hv => lv_idiv C.1 C.2.1 hd hne (k l s0 D cA p e s m args below meth c C adE LE ad L H locs lsA hE hR hl ⟨trivial, hs.2.2⟩ hS hv)
theorem xj_irem {x y : Int32} (hd : decode cc pc = .ok (.irem, 1)) (hne : ¬ y = 0) (k : Xj own cc nL rt fr lo mc ms u v (pc + 1) ls (vI (x - x / y * y) :: st) M o M') : Xj own cc nL rt fr lo mc ms u v pc ls (vI y :: vI x :: st) M o M' :=
  fun l s0 D cA p e s m args below meth c C adE LE ad L H locs lsA hE hR hl hs hS hv => lv_irem C.1 C.2.1 hd hne (k l s0 D cA p e s m args below meth c C adE LE ad L H locs lsA hE hR hl ⟨trivial, hs.2.2⟩ hS hv)
theorem xj_ladd {x y : Int64} (hd : decode cc pc = .ok (.ladd, 1)) (k : Xj own cc nL rt fr lo mc ms u v (pc + 1) ls (vL (x + y) :: st) M o M') : Xj own cc nL rt fr lo mc ms u v pc ls (vL y :: vL x :: st) M o M' :=
  fun l s0 D cA p e s m args below meth c C adE LE ad L H locs lsA hE hR hl hs hS hv => lv_ladd C.1 C.2.1 hd (k l s0 D cA p e s m args below meth c C adE LE ad L H locs lsA hE hR hl ⟨trivial, hs.2.2⟩ hS hv)
theorem xj_lsub {x y : Int64} (hd : decode cc pc = .ok (.lsub, 1)) (k : Xj own cc nL rt fr lo mc ms u v (pc + 1) ls (vL (x - y) :: st) M o M') : Xj own cc nL rt fr lo mc ms u v pc ls (vL y :: vL x :: st) M o M' :=
  fun l s0 D cA p e s m args below meth c C adE LE ad L H locs lsA hE hR hl hs hS hv => lv_lsub C.1 C.2.1 hd (k l s0 D cA p e s m args below meth c C adE LE ad L H locs lsA hE hR hl ⟨trivial, hs.2.2⟩ hS hv)
theorem xj_lmul {x y : Int64} (hd : decode cc pc = .ok (.lmul, 1)) (k : Xj own cc nL rt fr lo mc ms u v (pc + 1) ls (vL (x * y) :: st) M o M') : Xj own cc nL rt fr lo mc ms u v pc ls (vL y :: vL x :: st) M o M' :=
  fun l s0 D cA p e s m args below meth c C adE LE ad L H locs lsA hE hR hl hs hS hv => lv_lmul C.1 C.2.1 hd (k l s0 D cA p e s m args below meth c C adE LE ad L H locs lsA hE hR hl ⟨trivial, hs.2.2⟩ hS hv)
theorem xj_lor {x y : Int64} (hd : decode cc pc = .ok (.lor, 1)) (k : Xj own cc nL rt fr lo mc ms u v (pc + 1) ls (vL (x ||| y) :: st) M o M') : Xj own cc nL rt fr lo mc ms u v pc ls (vL y :: vL x :: st) M o M' :=
  fun l s0 D cA p e s m args below meth c C adE LE ad L H locs lsA hE hR hl hs hS hv => lv_lor C.1 C.2.1 hd (k l s0 D cA p e s m args below meth c C adE LE ad L H locs lsA hE hR hl ⟨trivial, hs.2.2⟩ hS hv)
theorem xj_ldiv {x y : Int64} (hd : decode cc pc = .ok (.ldiv, 1)) (hne : ¬ y = 0) (k : Xj own cc nL rt fr lo mc ms u v (pc + 1) ls (vL (x / y) :: st) M o M') : Xj own cc nL rt fr lo mc ms u v pc ls (vL y :: vL x :: st) M o M' :=
  fun l s0 D cA p e s m args below meth c C adE LE ad L H locs lsA hE hR hl hs hS hv => lv_ldiv C.1 C.2.1 hd hne (k l s0 D cA p e s m args below meth c C adE LE ad L H locs lsA hE hR hl ⟨trivial, hs.2.2⟩ hS hv)
theorem xj_lrem {x y : Int64} (hd : decode cc pc = .ok (.lrem, 1)) (hne : ¬ y = 0) (k : Xj own cc nL rt fr lo mc ms u v (pc + 1) ls (vL (x - x / y * y) :: st) M o M') : Xj own cc nL rt fr lo mc ms u v pc ls (vL y :: vL x :: st) M o M' :=
  fun l s0 D cA p e s m args below meth c C adE LE ad L H locs lsA hE hR hl hs hS hv => lv_lrem C.1 C.2.1 hd hne (k l s0 D cA p e s m args below meth c C adE LE ad L H locs lsA hE hR hl ⟨trivial, hs.2.2⟩ hS hv)
theorem xj_lshl {x : Int64} {y : Int32} (hd : decode cc pc = .ok (.lshl, 1)) (k : Xj own cc nL rt fr lo mc ms u v (pc + 1) ls (vL (x <<< (y.toInt64 &&& 63)) :: st) M o M') : Xj own cc nL rt fr lo mc ms u v pc ls (vI y :: vL x :: st) M o M' :=
  fun l s0 D cA p e s m args below meth c C adE LE ad L H locs lsA hE hR hl hs hS hv => lv_lshl C.1 C.2.1 hd rfl (k l s0 D cA p e s m args below meth c C adE LE ad L H locs lsA hE hR hl ⟨trivial, hs.2.2⟩ hS hv)
theorem xj_i2l {x : Int32} (hd : decode cc pc = .ok (.i2l, 1)) (k : Xj own cc nL rt fr lo mc ms u v (pc + 1) ls (vL x.toInt64 :: st) M o M') : Xj own cc nL rt fr lo mc ms u v pc ls (vI x :: st) M o M' :=
  fun l s0 D cA p e s m args below meth c C adE LE ad L H locs lsA hE hR hl hs hS hv => lv_i2l C.1 C.2.1 hd rfl (k l s0 D cA p e s m args below meth c C adE LE ad L H locs lsA hE hR hl ⟨trivial, hs.2⟩ hS hv)
theorem xj_iconst {n : Int} {z : Int32} (hd : decode cc pc = .ok (.iconst n, 1)) (hz : Int32.ofInt n = z) (k : Xj own cc nL rt fr lo mc ms u v (pc + 1) ls (vI z :: st) M o M') : Xj own cc nL rt fr lo mc ms u v pc ls (st) M o M' :=
  fun l s0 D cA p e s m args below meth c C adE LE ad L H locs lsA hE hR hl hs hS hv => lv_iconst C.1 C.2.1 hd hz (k l s0 D cA p e s m args below meth c C adE LE ad L H locs lsA hE hR hl ⟨trivial, hs⟩ hS hv)
theorem xj_bipush {n : Int} {z : Int32} (hd : decode cc pc = .ok (.bipush n, 2)) (hz : (Int8.ofInt n).toInt32 = z) (k : Xj own cc nL rt fr lo mc ms u v (pc + 2) ls (vI z :: st) M o M') : Xj own cc nL rt fr lo mc ms u v pc ls (st) M o M' :=
  fun l s0 D cA p e s m args below meth c C adE LE ad L H locs lsA hE hR hl hs hS hv => lv_bipush C.1 C.2.1 hd hz (k l s0 D cA p e s m args below meth c C adE LE ad L H locs lsA hE hR hl ⟨trivial, hs⟩ hS hv)
theorem xj_sipush {n : Int} {z : Int32} (hd : decode cc pc = .ok (.sipush n, 3)) (hz : (Int16.ofInt n).toInt32 = z) (k : Xj own cc nL rt fr lo mc ms u v (pc + 3) ls (vI z :: st) M o M') : Xj own cc nL rt fr lo mc ms u v pc ls (st) M o M' :=
  fun l s0 D cA p e s m args below meth c C adE LE ad L H locs lsA hE hR hl hs hS hv => lv_sipush C.1 C.2.1 hd hz (k l s0 D cA p e s m args below meth c C adE LE ad L H locs lsA hE hR hl ⟨trivial, hs⟩ hS hv)
theorem xj_lconst {n : Fin 2} {z : Int64} (hd : decode cc pc = .ok (.lconst n, 1)) (hz : Int64.ofNat (n : Nat) = z) (k : Xj own cc nL rt fr lo mc ms u v (pc + 1) ls (vL z :: st) M o M') : Xj own cc nL rt fr lo mc ms u v pc ls (st) M o M' :=
  fun l s0 D cA p e s m args below meth c C adE LE ad L H locs lsA hE hR hl hs hS hv => lv_lconst C.1 C.2.1 hd hz (k l s0 D cA p e s m args below meth c C adE LE ad L H locs lsA hE hR hl ⟨trivial, hs⟩ hS hv)
theorem xj_ldc {idx : Nat} {z : Int32} (hd : decode cc pc = .ok (.ldc idx, 2)) (hw : Cond.constant own idx z ∈ W0) (k : Xj own cc nL rt fr lo mc ms u v (pc + 2) ls (vI z :: st) M o M') : Xj own cc nL rt fr lo mc ms u v pc ls (st) M o M' :=
  fun l s0 D cA p e s m args below meth c C adE LE ad L H locs lsA hE hR hl hs hS hv => lv_ldc C.1 C.2.1 C.2.2.2.2.1 (C.2.2.2.2.2.1 _ hw) hd (k l s0 D cA p e s m args below meth c C adE LE ad L H locs lsA hE hR hl ⟨trivial, hs⟩ hS hv)
theorem xj_ldcw {idx : Nat} {z : Int32} (hd : decode cc pc = .ok (.ldc_w idx, 3)) (hw : Cond.constant own idx z ∈ W0) (k : Xj own cc nL rt fr lo mc ms u v (pc + 3) ls (vI z :: st) M o M') : Xj own cc nL rt fr lo mc ms u v pc ls (st) M o M' :=
  fun l s0 D cA p e s m args below meth c C adE LE ad L H locs lsA hE hR hl hs hS hv => lv_ldcw C.1 C.2.1 C.2.2.2.2.1 (C.2.2.2.2.2.1 _ hw) hd (k l s0 D cA p e s m args below meth c C adE LE ad L H locs lsA hE hR hl ⟨trivial, hs⟩ hS hv)
theorem xj_ldc2 {idx : Nat} {z : Int64} (hd : decode cc pc = .ok (.ldc2_w idx, 3)) (hw : Cond.constantLong own idx z ∈ W0) (k : Xj own cc nL rt fr lo mc ms u v (pc + 3) ls (vL z :: st) M o M') : Xj own cc nL rt fr lo mc ms u v pc ls (st) M o M' :=
  fun l s0 D cA p e s m args below meth c C adE LE ad L H locs lsA hE hR hl hs hS hv => lv_ldc2 C.1 C.2.1 C.2.2.2.2.1 (C.2.2.2.2.2.1 _ hw) hd (k l s0 D cA p e s m args below meth c C adE LE ad L H locs lsA hE hR hl ⟨trivial, hs⟩ hS hv)
theorem xj_iload_n {n : Fin 4} {x : Int32} (j : Nat) (hd : decode cc pc = .ok (.iload_n n, 1)) (h : ls[j]? = some ((n : Nat), vI x)) (k : Xj own cc nL rt fr lo mc ms u v (pc + 1) ls (vI x :: st) M o M') : Xj own cc nL rt fr lo mc ms u v pc ls st M o M' :=
  fun l s0 D cA p e s m args below meth c C adE LE ad L H locs lsA hE hR hl hs hS hv => lv_iload_n C.1 C.2.1 hd rfl (hv.2.2 _ (lsc_get ad h)) (k l s0 D cA p e s m args below meth c C adE LE ad L H locs lsA hE hR hl ⟨trivial, hs⟩ hS hv)
theorem xj_iload {n : Nat} {x : Int32} (j : Nat) (hd : decode cc pc = .ok (.iload n, 2)) (h : ls[j]? = some (n, vI x)) (k : Xj own cc nL rt fr lo mc ms u v (pc + 2) ls (vI x :: st) M o M') : Xj own cc nL rt fr lo mc ms u v pc ls st M o M' :=
  fun l s0 D cA p e s m args below meth c C adE LE ad L H locs lsA hE hR hl hs hS hv => lv_iload C.1 C.2.1 hd (hv.2.2 _ (lsc_get ad h)) (k l s0 D cA p e s m args below meth c C adE LE ad L H locs lsA hE hR hl ⟨trivial, hs⟩ hS hv)
theorem xj_lload_n {n : Fin 4} {x : Int64} (j : Nat) (hd : decode cc pc = .ok (.lload_n n, 1)) (h : ls[j]? = some ((n : Nat), vL x)) (k : Xj own cc nL rt fr lo mc ms u v (pc + 1) ls (vL x :: st) M o M') : Xj own cc nL rt fr lo mc ms u v pc ls st M o M' :=
  fun l s0 D cA p e s m args below meth c C adE LE ad L H locs lsA hE hR hl hs hS hv => lv_lload_n C.1 C.2.1 hd rfl (hv.2.2 _ (lsc_get ad h)) (k l s0 D cA p e s m args below meth c C adE LE ad L H locs lsA hE hR hl ⟨trivial, hs⟩ hS hv)
theorem xj_lload {n : Nat} {x : Int64} (j : Nat) (hd : decode cc pc = .ok (.lload n, 2)) (h : ls[j]? = some (n, vL x)) (k : Xj own cc nL rt fr lo mc ms u v (pc + 2) ls (vL x :: st) M o M') : Xj own cc nL rt fr lo mc ms u v pc ls st M o M' :=
  fun l s0 D cA p e s m args below meth c C adE LE ad L H locs lsA hE hR hl hs hS hv => lv_lload C.1 C.2.1 hd (hv.2.2 _ (lsc_get ad h)) (k l s0 D cA p e s m args below meth c C adE LE ad L H locs lsA hE hR hl ⟨trivial, hs⟩ hS hv)
theorem xj_aload_n {n : Fin 4} {a b : Nat} (j : Nat) (hd : decode cc pc = .ok (.aload_n n, 1)) (h : ls[j]? = some ((n : Nat), vR a b)) (k : Xj own cc nL rt fr lo mc ms u v (pc + 1) ls (vR a b :: st) M o M') : Xj own cc nL rt fr lo mc ms u v pc ls st M o M' :=
  fun l s0 D cA p e s m args below meth c C adE LE ad L H locs lsA hE hR hl hs hS hv => lv_aload_n C.1 C.2.1 hd rfl (hv.2.2 _ (lsc_get ad h)) (k l s0 D cA p e s m args below meth c C adE LE ad L H locs lsA hE hR hl ⟨okl_mem.mp hl _ (List.mem_of_getElem? h), hs⟩ hS hv)
theorem xj_aload {n a b : Nat} (j : Nat) (hd : decode cc pc = .ok (.aload n, 2)) (h : ls[j]? = some (n, vR a b)) (k : Xj own cc nL rt fr lo mc ms u v (pc + 2) ls (vR a b :: st) M o M') : Xj own cc nL rt fr lo mc ms u v pc ls st M o M' :=
  fun l s0 D cA p e s m args below meth c C adE LE ad L H locs lsA hE hR hl hs hS hv => lv_aload C.1 C.2.1 hd (hv.2.2 _ (lsc_get ad h)) (k l s0 D cA p e s m args below meth c C adE LE ad L H locs lsA hE hR hl ⟨okl_mem.mp hl _ (List.mem_of_getElem? h), hs⟩ hS hv)
theorem xj_istore_n {n : Fin 4} {i : Nat} {x : Int32} {ls' : List (Nat × AV)} (hd : decode cc pc = .ok (.istore_n n, 1)) (hn : (n : Nat) = i) (hi : i < nL) (h : (i, vI x) :: ls.filter (fun q => !(q.1 == i) && !(q.1 + 1 == i && isL q.2)) = ls') (k : Xj own cc nL rt fr lo mc ms u v (pc + 1) ls' st M o M') : Xj own cc nL rt fr lo mc ms u v pc ls (vI x :: st) M o M' := by
  subst h
  intro l s0 D cA p e s m args below meth c C adE LE ad L H locs lsA hE hR hl hs hS hv
  exact lv_istore_n C.1 C.2.1 hd hn hv hi rfl (fun lsB hB => k l s0 D cA p e s m args below meth c C adE LE ad L H locs lsB hE hR ⟨trivial, okl_filter hl⟩ hs.2 hS (lsc_st1 hB))
theorem xj_istore {i : Nat} {x : Int32} {ls' : List (Nat × AV)} (hd : decode cc pc = .ok (.istore i, 2)) (hi : i < nL) (h : (i, vI x) :: ls.filter (fun q => !(q.1 == i) && !(q.1 + 1 == i && isL q.2)) = ls') (k : Xj own cc nL rt fr lo mc ms u v (pc + 2) ls' st M o M') : Xj own cc nL rt fr lo mc ms u v pc ls (vI x :: st) M o M' := by
  subst h
  intro l s0 D cA p e s m args below meth c C adE LE ad L H locs lsA hE hR hl hs hS hv
  exact lv_istore C.1 C.2.1 hd  hv hi rfl (fun lsB hB => k l s0 D cA p e s m args below meth c C adE LE ad L H locs lsB hE hR ⟨trivial, okl_filter hl⟩ hs.2 hS (lsc_st1 hB))
theorem xj_lstore_n {n : Fin 4} {i : Nat} {x : Int64} {ls' : List (Nat × AV)} (hd : decode cc pc = .ok (.lstore_n n, 1)) (hn : (n : Nat) = i) (hi : i + 1 < nL) (h : (i, vL x) :: ls.filter (fun q => !(q.1 == i) && (!(q.1 == i + 1) && !(q.1 + 1 == i && isL q.2))) = ls') (k : Xj own cc nL rt fr lo mc ms u v (pc + 1) ls' st M o M') : Xj own cc nL rt fr lo mc ms u v pc ls (vL x :: st) M o M' := by
  subst h
  intro l s0 D cA p e s m args below meth c C adE LE ad L H locs lsA hE hR hl hs hS hv
  exact lv_lstore_n C.1 C.2.1 hd hn hv hi rfl (fun lsB hB => k l s0 D cA p e s m args below meth c C adE LE ad L H locs lsB hE hR ⟨trivial, okl_filter hl⟩ hs.2 hS (lsc_st2 hB))
theorem xj_lstore {i : Nat} {x : Int64} {ls' : List (Nat × AV)} (hd : decode cc pc = .ok (.lstore i, 2)) (hi : i + 1 < nL) (h : (i, vL x) :: ls.filter (fun q => !(q.1 == i) && (!(q.1 == i + 1) && !(q.1 + 1 == i && isL q.2))) = ls') (k : Xj own cc nL rt fr lo mc ms u v (pc + 2) ls' st M o M') : Xj own cc nL rt fr lo mc ms u v pc ls (vL x :: st) M o M' := by
  subst h
  intro l s0 D cA p e s m args below meth c C adE LE ad L H locs lsA hE hR hl hs hS hv
  exact lv_lstore C.1 C.2.1 hd  hv hi rfl (fun lsB hB => k l s0 D cA p e s m args below meth c C adE LE ad L H locs lsB hE hR ⟨trivial, okl_filter hl⟩ hs.2 hS (lsc_st2 hB))
theorem xj_astore_n {n : Fin 4} {i a b : Nat} {ls' : List (Nat × AV)} (hd : decode cc pc = .ok (.astore_n n, 1)) (hn : (n : Nat) = i) (hi : i < nL) (h : (i, vR a b) :: ls.filter (fun q => !(q.1 == i) && !(q.1 + 1 == i && isL q.2)) = ls') (k : Xj own cc nL rt fr lo mc ms u v (pc + 1) ls' st M o M') : Xj own cc nL rt fr lo mc ms u v pc ls (vR a b :: st) M o M' := by
  subst h
  intro l s0 D cA p e s m args below meth c C adE LE ad L H locs lsA hE hR hl hs hS hv
  exact lv_astore_n C.1 C.2.1 hd hn hv hi rfl (fun lsB hB => k l s0 D cA p e s m args below meth c C adE LE ad L H locs lsB hE hR ⟨hs.1, okl_filter hl⟩ hs.2 hS (lsc_st1 hB))
theorem xj_astore {i a b : Nat} {ls' : List (Nat × AV)} (hd : decode cc pc = .ok (.astore i, 2)) (hi : i < nL) (h : (i, vR a b) :: ls.filter (fun q => !(q.1 == i) && !(q.1 + 1 == i && isL q.2)) = ls') (k : Xj own cc nL rt fr lo mc ms u v (pc + 2) ls' st M o M') : Xj own cc nL rt fr lo mc ms u v pc ls (vR a b :: st) M o M' := by
  subst h
  intro l s0 D cA p e s m args below meth c C adE LE ad L H locs lsA hE hR hl hs hS hv
  exact lv_astore C.1 C.2.1 hd  hv hi rfl (fun lsB hB => k l s0 D cA p e s m args below meth c C adE LE ad L H locs lsB hE hR ⟨hs.1, okl_filter hl⟩ hs.2 hS (lsc_st1 hB))
theorem xj_iinc {i : Nat} {n : Int} {x z : Int32} {ls' : List (Nat × AV)} (j : Nat) (hd : decode cc pc = .ok (.iinc i n, 3)) (hj : ls[j]? = some (i, vI x)) (hz : x + Int32.ofInt n = z) (hi : i < nL) (h : (i, vI z) :: ls.filter (fun q => !(q.1 == i) && !(q.1 + 1 == i && isL q.2)) = ls') (k : Xj own cc nL rt fr lo mc ms u v (pc + 3) ls' st M o M') : Xj own cc nL rt fr lo mc ms u v pc ls st M o M' := by
  subst h
  intro l s0 D cA p e s m args below meth c C adE LE ad L H locs lsA hE hR hl hs hS hv
  exact lv_iinc (k := j) C.1 C.2.1 hd hv (lsc_getE ad hj) hz hi rfl (fun lsB hB => k l s0 D cA p e s m args below meth c C adE LE ad L H locs lsB hE hR ⟨trivial, okl_filter hl⟩ hs hS (lsc_st1 hB))
theorem xj_pick {ls' : List (Nat × AV)} (ks : List Nat) (h : ks.filterMap (fun k => ls[k]?) = ls') (k : Xj own cc nL rt fr lo mc ms u v pc ls' st M o M') : Xj own cc nL rt fr lo mc ms u v pc ls st M o M' := by
  subst h
  intro l s0 D cA p e s m args below meth c C adE LE ad L H locs lsA hE hR hl hs hS hv
  exact k l s0 D cA p e s m args below meth c C adE LE ad L H locs lsA hE hR (okl_pick hl) hs hS (lv_sub hv ks (lsc_pick ad ls ks))
theorem xj_dup {z : AV} (hd : decode cc pc = .ok (.dup, 1)) (hc : isL z = false) (k : Xj own cc nL rt fr lo mc ms u v (pc + 1) ls (z :: z :: st) M o M') : Xj own cc nL rt fr lo mc ms u v pc ls (z :: st) M o M' :=
  fun l s0 D cA p e s m args below meth c C adE LE ad L H locs lsA hE hR hl hs hS hv => lv_dup C.1 C.2.1 hd (cat1 ad hc) (k l s0 D cA p e s m args below meth c C adE LE ad L H locs lsA hE hR hl ⟨hs.1, hs⟩ hS hv)
theorem xj_dup2 {z y : AV} (hd : decode cc pc = .ok (.dup2, 1)) (hc : isL z = false) (hy : isL y = false) (k : Xj own cc nL rt fr lo mc ms u v (pc + 1) ls (z :: y :: z :: y :: st) M o M') : Xj own cc nL rt fr lo mc ms u v pc ls (z :: y :: st) M o M' :=
  fun l s0 D cA p e s m args below meth c C adE LE ad L H locs lsA hE hR hl hs hS hv => lv_dup2_11 C.1 C.2.1 hd (cat1 ad hc) (cat1 ad hy) (k l s0 D cA p e s m args below meth c C adE LE ad L H locs lsA hE hR hl ⟨hs.1, hs.2.1, hs⟩ hS hv)
theorem xj_pop {z : AV} (hd : decode cc pc = .ok (.pop, 1)) (hc : isL z = false) (k : Xj own cc nL rt fr lo mc ms u v (pc + 1) ls st M o M') : Xj own cc nL rt fr lo mc ms u v pc ls (z :: st) M o M' :=
  fun l s0 D cA p e s m args below meth c C adE LE ad L H locs lsA hE hR hl hs hS hv => lv_pop C.1 C.2.1 hd (cat1 ad hc) (k l s0 D cA p e s m args below meth c C adE LE ad L H locs lsA hE hR hl hs.2 hS hv)
theorem xj_if_eq {x : Int32} {off : Int} {tgt : Nat} (hd : decode cc pc = .ok (.ifCond .eq off, 3)) (ht : (pc : Int) + off = (tgt : Int)) (kt : x = 0 → Xj own cc nL rt fr lo mc ms u v tgt ls st M o M') (kf : ¬ (x = 0) → Xj own cc nL rt fr lo mc ms u v (pc + 3) ls st M o M') : Xj own cc nL rt fr lo mc ms u v pc ls (vI x :: st) M o M' :=
  fun l s0 D cA p e s m args below meth c C adE LE ad L H locs lsA hE hR hl hs hS hv => lv_if_eq C.1 C.2.1 hd ht (fun h => kt h l s0 D cA p e s m args below meth c C adE LE ad L H locs lsA hE hR hl hs.2 hS hv) (fun h => kf h l s0 D cA p e s m args below meth c C adE LE ad L H locs lsA hE hR hl hs.2 hS hv)
theorem xj_if_ne {x : Int32} {off : Int} {tgt : Nat} (hd : decode cc pc = .ok (.ifCond .ne off, 3)) (ht : (pc : Int) + off = (tgt : Int)) (kt : ¬ x = 0 → Xj own cc nL rt fr lo mc ms u v tgt ls st M o M') (kf : x = 0 → Xj own cc nL rt fr lo mc ms u v (pc + 3) ls st M o M') : Xj own cc nL rt fr lo mc ms u v pc ls (vI x :: st) M o M' :=
  fun l s0 D cA p e s m args below meth c C adE LE ad L H locs lsA hE hR hl hs hS hv => lv_if_ne C.1 C.2.1 hd ht (fun h => kt h l s0 D cA p e s m args below meth c C adE LE ad L H locs lsA hE hR hl hs.2 hS hv) (fun h => kf h l s0 D cA p e s m args below meth c C adE LE ad L H locs lsA hE hR hl hs.2 hS hv)
theorem xj_if_lt {x : Int32} {off : Int} {tgt : Nat} (hd : decode cc pc = .ok (.ifCond .lt off, 3)) (ht : (pc : Int) + off = (tgt : Int)) (kt : x < 0 → Xj own cc nL rt fr lo mc ms u v tgt ls st M o M') (kf : ¬ (x < 0) → Xj own cc nL rt fr lo mc ms u v (pc + 3) ls st M o M') : Xj own cc nL rt fr lo mc ms u v pc ls (vI x :: st) M o M' :=
  fun l s0 D cA p e s m args below meth c C adE LE ad L H locs lsA hE hR hl hs hS hv => lv_if_lt C.1 C.2.1 hd ht (fun h => kt h l s0 D cA p e s m args below meth c C adE LE ad L H locs lsA hE hR hl hs.2 hS hv) (fun h => kf h l s0 D cA p e s m args below meth c C adE LE ad L H locs lsA hE hR hl hs.2 hS hv)
theorem xj_if_ge {x : Int32} {off : Int} {tgt : Nat} (hd : decode cc pc = .ok (.ifCond .ge off, 3)) (ht : (pc : Int) + off = (tgt : Int)) (kt : 0 ≤ x → Xj own cc nL rt fr lo mc ms u v tgt ls st M o M') (kf : ¬ (0 ≤ x) → Xj own cc nL rt fr lo mc ms u v (pc + 3) ls st M o M') : Xj own cc nL rt fr lo mc ms u v pc ls (vI x :: st) M o M' :=
  fun l s0 D cA p e s m args below meth c C adE LE ad L H locs lsA hE hR hl hs hS hv => lv_if_ge C.1 C.2.1 hd ht (fun h => kt h l s0 D cA p e s m args below meth c C adE LE ad L H locs lsA hE hR hl hs.2 hS hv) (fun h => kf h l s0 D cA p e s m args below meth c C adE LE ad L H locs lsA hE hR hl hs.2 hS hv)
theorem xj_if_gt {x : Int32} {off : Int} {tgt : Nat} (hd : decode cc pc = .ok (.ifCond .gt off, 3)) (ht : (pc : Int) + off = (tgt : Int)) (kt : 0 < x → Xj own cc nL rt fr lo mc ms u v tgt ls st M o M') (kf : ¬ (0 < x) → Xj own cc nL rt fr lo mc ms u v (pc + 3) ls st M o M') : Xj own cc nL rt fr lo mc ms u v pc ls (vI x :: st) M o M' :=
  fun l s0 D cA p e s m args below meth c C adE LE ad L H locs lsA hE hR hl hs hS hv => lv_if_gt C.1 C.2.1 hd ht (fun h => kt h l s0 D cA p e s m args below meth c C adE LE ad L H locs lsA hE hR hl hs.2 hS hv) (fun h => kf h l s0 D cA p e s m args below meth c C adE LE ad L H locs lsA hE hR hl hs.2 hS hv)
theorem xj_if_le {x : Int32} {off : Int} {tgt : Nat} (hd : decode cc pc = .ok (.ifCond .le off, 3)) (ht : (pc : Int) + off = (tgt : Int)) (kt : x ≤ 0 → Xj own cc nL rt fr lo mc ms u v tgt ls st M o M') (kf : ¬ (x ≤ 0) → Xj own cc nL rt fr lo mc ms u v (pc + 3) ls st M o M') : Xj own cc nL rt fr lo mc ms u v pc ls (vI x :: st) M o M' :=
  fun l s0 D cA p e s m args below meth c C adE LE ad L H locs lsA hE hR hl hs hS hv => lv_if_le C.1 C.2.1 hd ht (fun h => kt h l s0 D cA p e s m args below meth c C adE LE ad L H locs lsA hE hR hl hs.2 hS hv) (fun h => kf h l s0 D cA p e s m args below meth c C adE LE ad L H locs lsA hE hR hl hs.2 hS hv)
theorem xj_icmp_eq {x y : Int32} {off : Int} {tgt : Nat} (hd : decode cc pc = .ok (.if_icmp .eq off, 3)) (ht : (pc : Int) + off = (tgt : Int)) (kt : x = y → Xj own cc nL rt fr lo mc ms u v tgt ls st M o M') (kf : ¬ (x = y) → Xj own cc nL rt fr lo mc ms u v (pc + 3) ls st M o M') : Xj own cc nL rt fr lo mc ms u v pc ls (vI y :: vI x :: st) M o M' :=
  fun l s0 D cA p e s m args below meth c C adE LE ad L H locs lsA hE hR hl hs hS hv => lv_icmp_eq C.1 C.2.1 hd ht (fun h => kt h l s0 D cA p e s m args below meth c C adE LE ad L H locs lsA hE hR hl hs.2.2 hS hv) (fun h => kf h l s0 D cA p e s m args below meth c C adE LE ad L H locs lsA hE hR hl hs.2.2 hS hv)
theorem xj_icmp_ne {x y : Int32} {off : Int} {tgt : Nat} (hd : decode cc pc = .ok (.if_icmp .ne off, 3)) (ht : (pc : Int) + off = (tgt : Int)) (kt : ¬ x = y → Xj own cc nL rt fr lo mc ms u v tgt ls st M o M') (kf : x = y → Xj own cc nL rt fr lo mc ms u v (pc + 3) ls st M o M') : Xj own cc nL rt fr lo mc ms u v pc ls (vI y :: vI x :: st) M o M' :=
  fun l s0 D cA p e s m args below meth c C adE LE ad L H locs lsA hE hR hl hs hS hv => lv_icmp_ne C.1 C.2.1 hd ht (fun h => kt h l s0 D cA p e s m args below meth c C adE LE ad L H locs lsA hE hR hl hs.2.2 hS hv) (fun h => kf h l s0 D cA p e s m args below meth c C adE LE ad L H locs lsA hE hR hl hs.2.2 hS hv)
theorem xj_icmp_lt {x y : Int32} {off : Int} {tgt : Nat} (hd : decode cc pc = .ok (.if_icmp .lt off, 3)) (ht : (pc : Int) + off = (tgt : Int)) (kt : x < y → Xj own cc nL rt fr lo mc ms u v tgt ls st M o M') (kf : ¬ (x < y) → Xj own cc nL rt fr lo mc ms u v (pc + 3) ls st M o M') : Xj own cc nL rt fr lo mc ms u v pc ls (vI y :: vI x :: st) M o M' :=
  fun l s0 D cA p e s m args below meth c C adE LE ad L H locs lsA hE hR hl hs hS hv => lv_icmp_lt C.1 C.2.1 hd ht (fun h => kt h l s0 D cA p e s m args below meth c C adE LE ad L H locs lsA hE hR hl hs.2.2 hS hv) (fun h => kf h l s0 D cA p e s m args below meth c C adE LE ad L H locs lsA hE hR hl hs.2.2 hS hv)
theorem xj_icmp_ge {x y : Int32} {off : Int} {tgt : Nat} (hd : decode cc pc = .ok (.if_icmp .ge off, 3)) (ht : (pc : Int) + off = (tgt : Int)) (kt : y ≤ x → Xj own cc nL rt fr lo mc ms u v tgt ls st M o M') (kf : ¬ (y ≤ x) → Xj own cc nL rt fr lo mc ms u v (pc + 3) ls st M o M') : Xj own cc nL rt fr lo mc ms u v pc ls (vI y :: vI x :: st) M o M' :=
  fun l s0 D cA p e s m args below meth c C adE LE ad L H locs lsA hE hR hl hs hS hv => lv_icmp_ge C.1 C.2.1 hd ht (fun h => kt h l s0 D cA p e s m args below meth c C adE LE ad L H locs lsA hE hR hl hs.2.2 hS hv) (fun h => kf h l s0 D cA p e s m args below meth c C adE LE ad L H locs lsA hE hR hl hs.2.2 hS hv)
theorem xj_icmp_gt {x y : Int32} {off : Int} {tgt : Nat} (hd : decode cc pc = .ok (.if_icmp .gt off, 3)) (ht : (pc : Int) + off = (tgt : Int)) (kt : y < x → Xj own cc nL rt fr lo mc ms u v tgt ls st M o M') (kf : ¬ (y < x) → Xj own cc nL rt fr lo mc ms u v (pc + 3) ls st M o M') : Xj own cc nL rt fr lo mc ms u v pc ls (vI y :: vI x :: st) M o M' :=
  fun l s0 D cA p e s m args below meth c C adE LE ad L H locs lsA hE hR hl hs hS hv => lv_icmp_gt C.1 C.2.1 hd ht (fun h => kt h l s0 D cA p e s m args below meth c C adE LE ad L H locs lsA hE hR hl hs.2.2 hS hv) (fun h => kf h l s0 D cA p e s m args below meth c C adE LE ad L H locs lsA hE hR hl hs.2.2 hS hv)
theorem xj_icmp_le {x y : Int32} {off : Int} {tgt : Nat} (hd : decode cc pc = .ok (.if_icmp .le off, 3)) (ht : (pc : Int) + off = (tgt : Int)) (kt : x ≤ y → Xj own cc nL rt fr lo mc ms u v tgt ls st M o M') (kf : ¬ (x ≤ y) → Xj own cc nL rt fr lo mc ms u v (pc + 3) ls st M o M') : Xj own cc nL rt fr lo mc ms u v pc ls (vI y :: vI x :: st) M o M' :=
  fun l s0 D cA p e s m args below meth c C adE LE ad L H locs lsA hE hR hl hs hS hv => lv_icmp_le C.1 C.2.1 hd ht (fun h => kt h l s0 D cA p e s m args below meth c C adE LE ad L H locs lsA hE hR hl hs.2.2 hS hv) (fun h => kf h l s0 D cA p e s m args below meth c C adE LE ad L H locs lsA hE hR hl hs.2.2 hS hv)
theorem xj_goto {off : Int} {tgt : Nat} (hd : decode cc pc = .ok (.goto off, 3)) (ht : (pc : Int) + off = (tgt : Int)) (k : Xj own cc nL rt fr lo mc ms u v tgt ls st M o M') : Xj own cc nL rt fr lo mc ms u v pc ls st M o M' :=
  fun l s0 D cA p e s m args below meth c C adE LE ad L H locs lsA hE hR hl hs hS hv => lv_goto C.1 C.2.1 hd ht (k l s0 D cA p e s m args below meth c C adE LE ad L H locs lsA hE hR hl hs hS hv)
end XR
