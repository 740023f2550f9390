/-! ### Object's constructor, and what the making rests on -/
def OI (own : String) (idx : Nat) : Prop := Cond.methodLink own idx Lib.objectInit ∈ W0 ∧ Cond.instanceMethod Lib.objectInit ∈ W0 ∧ Cond.code Lib.objectInit ⟨#[0xb1]⟩ 1 none ∈ W0
section XR
variable {own : String} {cc : ByteArray} {nL : Nat} {rt : Option FieldType} {fr lo mc ms u v pc : Nat} {ls : List (Nat × AV)} {st : List AV} {M : Mem} {o : Ou} {M' : Mem}
theorem xj_objI {idx k i : Nat} (hd : decode cc pc = .ok (.invokespecial idx, 3)) (hw : OI own idx) (h1 : 1 ≤ fr) (h2 : wgt st + 12 ≤ lo) (kk : Xj own cc nL rt fr lo mc ms u v (pc + 3) ls st M o M') : Xj own cc nL rt fr lo mc ms u v pc ls (vR k i :: st) M o M' := by
  intro l s0 D cA p e s m args below meth c C adE LE ad L H locs lsA hE hR hl hs hS hv
  have hts := C.2.2.2.2.2.1
  refine W.objInit (g := F0 m pc lsA (stc ad (vR k i :: st))) C.1 C.2.1 C.2.2.2.2.1 (hts _ hw.1) (hts _ hw.2.1) (hts _ hw.2.2) rfl (hv.1.trans C.2.2.1.symm) rfl hd h1 ?_ ?_
  · have := wgt_eq ad st
    show 2 * 0 + ((stc ad st).map fun z => z.category).sum + 12 ≤ lo
    omega
  · exact kk l s0 D cA p e s m args below meth c C adE LE ad L H locs lsA hE hR hl hs.2 hS hv
theorem xj_widen {u2 v2 : Nat} (hu : u ≤ u2) (hvv : v ≤ v2) (kk : Xj own cc nL rt fr lo mc ms u2 v2 pc ls st M o M') : Xj own cc nL rt fr lo mc ms u v pc ls st M o M' := by
  intro l s0 D cA p e s m args below meth c C adE LE ad L H locs lsA hE hR hl hs hS hv
  exact W.widen hu hvv (kk l s0 D cA p e s m args below meth c C adE LE ad L H locs lsA hE hR hl hs hS hv)
end XR
theorem inb_succ {x : Int32} {n : Nat} (h : inb x n = true) (hn : n < 1000) : (x + 1).toNatClampNeg = x.toNatClampNeg + 1 := by
  have h1 := of_decide_eq_true h
  have h2 : (x + 1).toInt = x.toInt + 1 := by
    rw [Int32.toInt_add]
    show (x.toInt + 1).bmod (2 ^ 32) = _
    rw [Int.bmod_def]
    have := h1.1
    have := h1.2
    rw [if_pos (by omega)]
    omega
  show (x + 1).toInt.toNat = x.toInt.toNat + 1
  omega
theorem wt_31 : (Jvm.Cond.methodLink "BeliefRiver" (1 : Nat) ({ cls := "java/lang/Object", name := "<init>", desc := "()V" } : Jvm.MethodName)) ∈ W0 := W0_m (in_t1 (List.mem_of_getElem? (i := 31) rfl)) rfl
theorem wt_32 : (Jvm.Cond.instanceMethod ({ cls := "java/lang/Object", name := "<init>", desc := "()V" } : Jvm.MethodName)) ∈ W0 := W0_m (in_t1 (List.mem_of_getElem? (i := 32) rfl)) rfl
theorem wt_33 : (Jvm.Cond.code ({ cls := "java/lang/Object", name := "<init>", desc := "()V" } : Jvm.MethodName) object_method_1_code (1 : Nat) (Option.none : Option Jvm.ClassFile.FieldType)) ∈ W0 := W0_m (in_t1 (List.mem_of_getElem? (i := 33) rfl)) rfl
theorem wt_35 : (Jvm.Cond.instantiable "BeliefRiver$Tape" (7 : Nat)) ∈ W0 := W0_m (in_t1 (List.mem_of_getElem? (i := 35) rfl)) rfl
theorem wt_37 : (Jvm.Cond.instanceMethod ({ cls := "BeliefRiver$Tape", name := "<init>", desc := "()V" } : Jvm.MethodName)) ∈ W0 := W0_m (in_t1 (List.mem_of_getElem? (i := 37) rfl)) rfl
theorem wt_38 : (Jvm.Cond.code ({ cls := "BeliefRiver$Tape", name := "<init>", desc := "()V" } : Jvm.MethodName) prog_10_method_1_code (1 : Nat) (Option.none : Option Jvm.ClassFile.FieldType)) ∈ W0 := W0_m (in_t1 (List.mem_of_getElem? (i := 38) rfl)) rfl
theorem wt_39 : (Jvm.Cond.methodLink "BeliefRiver$Tape" (3 : Nat) ({ cls := "java/lang/Object", name := "<init>", desc := "()V" } : Jvm.MethodName)) ∈ W0 := W0_m (in_t1 (List.mem_of_getElem? (i := 39) rfl)) rfl
theorem wt_68 : (Jvm.Cond.arrayClass Jvm.ClassFile.FieldType.int) ∈ W0 := W0_m (in_t1 (List.mem_of_getElem? (i := 68) rfl)) rfl
theorem wt_70 : (Jvm.Cond.instantiable "BeliefRiver$Land" (12 : Nat)) ∈ W0 := W0_m (in_t1 (List.mem_of_getElem? (i := 70) rfl)) rfl
theorem wt_72 : (Jvm.Cond.instanceMethod ({ cls := "BeliefRiver$Land", name := "<init>", desc := "()V" } : Jvm.MethodName)) ∈ W0 := W0_m (in_t1 (List.mem_of_getElem? (i := 72) rfl)) rfl
theorem wt_73 : (Jvm.Cond.code ({ cls := "BeliefRiver$Land", name := "<init>", desc := "()V" } : Jvm.MethodName) prog_5_method_1_code (1 : Nat) (Option.none : Option Jvm.ClassFile.FieldType)) ∈ W0 := W0_m (in_t1 (List.mem_of_getElem? (i := 73) rfl)) rfl
theorem wt_74 : (Jvm.Cond.methodLink "BeliefRiver$Land" (3 : Nat) ({ cls := "java/lang/Object", name := "<init>", desc := "()V" } : Jvm.MethodName)) ∈ W0 := W0_m (in_t1 (List.mem_of_getElem? (i := 74) rfl)) rfl
theorem wt_139 : (Jvm.Cond.instantiable "BeliefRiver$Law" (4 : Nat)) ∈ W0 := W0_m (in_t1 (List.mem_of_getElem? (i := 139) rfl)) rfl
theorem wt_140 : (Jvm.Cond.methodLink "BeliefRiver" (28 : Nat) ({ cls := "BeliefRiver$Law", name := "<init>", desc := "()V" } : Jvm.MethodName)) ∈ W0 := W0_m (in_t1 (List.mem_of_getElem? (i := 140) rfl)) rfl
theorem wt_141 : (Jvm.Cond.instanceMethod ({ cls := "BeliefRiver$Law", name := "<init>", desc := "()V" } : Jvm.MethodName)) ∈ W0 := W0_m (in_t1 (List.mem_of_getElem? (i := 141) rfl)) rfl
theorem wt_142 : (Jvm.Cond.code ({ cls := "BeliefRiver$Law", name := "<init>", desc := "()V" } : Jvm.MethodName) prog_6_method_1_code (1 : Nat) (Option.none : Option Jvm.ClassFile.FieldType)) ∈ W0 := W0_m (in_t1 (List.mem_of_getElem? (i := 142) rfl)) rfl
theorem wt_143 : (Jvm.Cond.methodLink "BeliefRiver$Law" (3 : Nat) ({ cls := "java/lang/Object", name := "<init>", desc := "()V" } : Jvm.MethodName)) ∈ W0 := W0_m (in_t1 (List.mem_of_getElem? (i := 143) rfl)) rfl
theorem wt_169 : (Jvm.Cond.instantiable "BeliefRiver$Book" (2 : Nat)) ∈ W0 := W0_m (in_t1 (List.mem_of_getElem? (i := 169) rfl)) rfl
theorem wt_170 : (Jvm.Cond.methodLink "BeliefRiver" (38 : Nat) ({ cls := "BeliefRiver$Book", name := "<init>", desc := "()V" } : Jvm.MethodName)) ∈ W0 := W0_m (in_t1 (List.mem_of_getElem? (i := 170) rfl)) rfl
theorem wt_171 : (Jvm.Cond.instanceMethod ({ cls := "BeliefRiver$Book", name := "<init>", desc := "()V" } : Jvm.MethodName)) ∈ W0 := W0_m (in_t1 (List.mem_of_getElem? (i := 171) rfl)) rfl
theorem wt_172 : (Jvm.Cond.code ({ cls := "BeliefRiver$Book", name := "<init>", desc := "()V" } : Jvm.MethodName) prog_3_method_1_code (1 : Nat) (Option.none : Option Jvm.ClassFile.FieldType)) ∈ W0 := W0_m (in_t1 (List.mem_of_getElem? (i := 172) rfl)) rfl
theorem wt_173 : (Jvm.Cond.methodLink "BeliefRiver$Book" (3 : Nat) ({ cls := "java/lang/Object", name := "<init>", desc := "()V" } : Jvm.MethodName)) ∈ W0 := W0_m (in_t1 (List.mem_of_getElem? (i := 173) rfl)) rfl
theorem wt_191 : (Jvm.Cond.instantiable "BeliefRiver$State" (7 : Nat)) ∈ W0 := W0_m (in_t1 (List.mem_of_getElem? (i := 191) rfl)) rfl
theorem wt_193 : (Jvm.Cond.instanceMethod ({ cls := "BeliefRiver$State", name := "<init>", desc := "()V" } : Jvm.MethodName)) ∈ W0 := W0_m (in_t1 (List.mem_of_getElem? (i := 193) rfl)) rfl
theorem wt_194 : (Jvm.Cond.code ({ cls := "BeliefRiver$State", name := "<init>", desc := "()V" } : Jvm.MethodName) prog_9_method_1_code (1 : Nat) (Option.none : Option Jvm.ClassFile.FieldType)) ∈ W0 := W0_m (in_t1 (List.mem_of_getElem? (i := 194) rfl)) rfl
theorem wt_195 : (Jvm.Cond.methodLink "BeliefRiver$State" (3 : Nat) ({ cls := "java/lang/Object", name := "<init>", desc := "()V" } : Jvm.MethodName)) ∈ W0 := W0_m (in_t1 (List.mem_of_getElem? (i := 195) rfl)) rfl
theorem wt_233 : (Jvm.Cond.instantiable "BeliefRiver$Past" (2 : Nat)) ∈ W0 := W0_m (in_t1 (List.mem_of_getElem? (i := 233) rfl)) rfl
theorem wt_235 : (Jvm.Cond.instanceMethod ({ cls := "BeliefRiver$Past", name := "<init>", desc := "()V" } : Jvm.MethodName)) ∈ W0 := W0_m (in_t1 (List.mem_of_getElem? (i := 235) rfl)) rfl
theorem wt_236 : (Jvm.Cond.code ({ cls := "BeliefRiver$Past", name := "<init>", desc := "()V" } : Jvm.MethodName) prog_7_method_1_code (1 : Nat) (Option.none : Option Jvm.ClassFile.FieldType)) ∈ W0 := W0_m (in_t1 (List.mem_of_getElem? (i := 236) rfl)) rfl
theorem wt_237 : (Jvm.Cond.methodLink "BeliefRiver$Past" (3 : Nat) ({ cls := "java/lang/Object", name := "<init>", desc := "()V" } : Jvm.MethodName)) ∈ W0 := W0_m (in_t1 (List.mem_of_getElem? (i := 237) rfl)) rfl
theorem wt_249 : (Jvm.Cond.instantiable "BeliefRiver$Images" (3 : Nat)) ∈ W0 := W0_m (in_t2 (List.mem_of_getElem? (i := 9) rfl)) rfl
theorem wt_251 : (Jvm.Cond.instanceMethod ({ cls := "BeliefRiver$Images", name := "<init>", desc := "()V" } : Jvm.MethodName)) ∈ W0 := W0_m (in_t2 (List.mem_of_getElem? (i := 11) rfl)) rfl
theorem wt_252 : (Jvm.Cond.code ({ cls := "BeliefRiver$Images", name := "<init>", desc := "()V" } : Jvm.MethodName) prog_4_method_1_code (1 : Nat) (Option.none : Option Jvm.ClassFile.FieldType)) ∈ W0 := W0_m (in_t2 (List.mem_of_getElem? (i := 12) rfl)) rfl
theorem wt_253 : (Jvm.Cond.methodLink "BeliefRiver$Images" (3 : Nat) ({ cls := "java/lang/Object", name := "<init>", desc := "()V" } : Jvm.MethodName)) ∈ W0 := W0_m (in_t2 (List.mem_of_getElem? (i := 13) rfl)) rfl
theorem wt_269 : (Jvm.Cond.instantiable "BeliefRiver$River" (5 : Nat)) ∈ W0 := W0_m (in_t2 (List.mem_of_getElem? (i := 29) rfl)) rfl
theorem wt_270 : (Jvm.Cond.methodLink "BeliefRiver" (69 : Nat) ({ cls := "BeliefRiver$River", name := "<init>", desc := "(LBeliefRiver$Land;LBeliefRiver$Law;)V" } : Jvm.MethodName)) ∈ W0 := W0_m (in_t2 (List.mem_of_getElem? (i := 30) rfl)) rfl
theorem wt_271 : (Jvm.Cond.instanceMethod ({ cls := "BeliefRiver$River", name := "<init>", desc := "(LBeliefRiver$Land;LBeliefRiver$Law;)V" } : Jvm.MethodName)) ∈ W0 := W0_m (in_t2 (List.mem_of_getElem? (i := 31) rfl)) rfl
theorem wt_272 : (Jvm.Cond.code ({ cls := "BeliefRiver$River", name := "<init>", desc := "(LBeliefRiver$Land;LBeliefRiver$Law;)V" } : Jvm.MethodName) prog_8_method_1_code (3 : Nat) (Option.none : Option Jvm.ClassFile.FieldType)) ∈ W0 := W0_m (in_t2 (List.mem_of_getElem? (i := 32) rfl)) rfl
theorem wt_273 : (Jvm.Cond.methodLink "BeliefRiver$River" (3 : Nat) ({ cls := "java/lang/Object", name := "<init>", desc := "()V" } : Jvm.MethodName)) ∈ W0 := W0_m (in_t2 (List.mem_of_getElem? (i := 33) rfl)) rfl
theorem wt_295 : (Jvm.Cond.instantiable "BeliefRiver$Work" (11 : Nat)) ∈ W0 := W0_m (in_t2 (List.mem_of_getElem? (i := 55) rfl)) rfl
theorem wt_296 : (Jvm.Cond.methodLink "BeliefRiver" (78 : Nat) ({ cls := "BeliefRiver$Work", name := "<init>", desc := "(LBeliefRiver$Land;LBeliefRiver$River;LBeliefRiver$State;)V" } : Jvm.MethodName)) ∈ W0 := W0_m (in_t2 (List.mem_of_getElem? (i := 56) rfl)) rfl
theorem wt_297 : (Jvm.Cond.instanceMethod ({ cls := "BeliefRiver$Work", name := "<init>", desc := "(LBeliefRiver$Land;LBeliefRiver$River;LBeliefRiver$State;)V" } : Jvm.MethodName)) ∈ W0 := W0_m (in_t2 (List.mem_of_getElem? (i := 57) rfl)) rfl
theorem wt_298 : (Jvm.Cond.code ({ cls := "BeliefRiver$Work", name := "<init>", desc := "(LBeliefRiver$Land;LBeliefRiver$River;LBeliefRiver$State;)V" } : Jvm.MethodName) prog_11_method_1_code (4 : Nat) (Option.none : Option Jvm.ClassFile.FieldType)) ∈ W0 := W0_m (in_t2 (List.mem_of_getElem? (i := 58) rfl)) rfl
theorem wt_299 : (Jvm.Cond.methodLink "BeliefRiver$Work" (3 : Nat) ({ cls := "java/lang/Object", name := "<init>", desc := "()V" } : Jvm.MethodName)) ∈ W0 := W0_m (in_t2 (List.mem_of_getElem? (i := 59) rfl)) rfl
theorem wt_337 : (Jvm.Cond.instantiable "BeliefRiver$Asker" (16 : Nat)) ∈ W0 := W0_m (in_t2 (List.mem_of_getElem? (i := 97) rfl)) rfl
theorem wt_338 : (Jvm.Cond.methodLink "BeliefRiver" (87 : Nat) ({ cls := "BeliefRiver$Asker", name := "<init>", desc := "(LBeliefRiver$Land;LBeliefRiver$River;)V" } : Jvm.MethodName)) ∈ W0 := W0_m (in_t2 (List.mem_of_getElem? (i := 98) rfl)) rfl
theorem wt_339 : (Jvm.Cond.instanceMethod ({ cls := "BeliefRiver$Asker", name := "<init>", desc := "(LBeliefRiver$Land;LBeliefRiver$River;)V" } : Jvm.MethodName)) ∈ W0 := W0_m (in_t2 (List.mem_of_getElem? (i := 99) rfl)) rfl
theorem wt_340 : (Jvm.Cond.code ({ cls := "BeliefRiver$Asker", name := "<init>", desc := "(LBeliefRiver$Land;LBeliefRiver$River;)V" } : Jvm.MethodName) prog_2_method_1_code (3 : Nat) (Option.none : Option Jvm.ClassFile.FieldType)) ∈ W0 := W0_m (in_t2 (List.mem_of_getElem? (i := 100) rfl)) rfl
theorem wt_341 : (Jvm.Cond.methodLink "BeliefRiver$Asker" (3 : Nat) ({ cls := "java/lang/Object", name := "<init>", desc := "()V" } : Jvm.MethodName)) ∈ W0 := W0_m (in_t2 (List.mem_of_getElem? (i := 101) rfl)) rfl
theorem wt_404 : (Jvm.Cond.instantiable "BeliefRiver$Years" (5 : Nat)) ∈ W0 := W0_m (in_t2 (List.mem_of_getElem? (i := 164) rfl)) rfl
theorem wt_405 : (Jvm.Cond.methodLink "BeliefRiver" (96 : Nat) ({ cls := "BeliefRiver$Years", name := "<init>", desc := "(LBeliefRiver$Land;LBeliefRiver$River;)V" } : Jvm.MethodName)) ∈ W0 := W0_m (in_t2 (List.mem_of_getElem? (i := 165) rfl)) rfl
theorem wt_406 : (Jvm.Cond.instanceMethod ({ cls := "BeliefRiver$Years", name := "<init>", desc := "(LBeliefRiver$Land;LBeliefRiver$River;)V" } : Jvm.MethodName)) ∈ W0 := W0_m (in_t2 (List.mem_of_getElem? (i := 166) rfl)) rfl
theorem wt_407 : (Jvm.Cond.code ({ cls := "BeliefRiver$Years", name := "<init>", desc := "(LBeliefRiver$Land;LBeliefRiver$River;)V" } : Jvm.MethodName) prog_12_method_1_code (3 : Nat) (Option.none : Option Jvm.ClassFile.FieldType)) ∈ W0 := W0_m (in_t2 (List.mem_of_getElem? (i := 167) rfl)) rfl
theorem wt_408 : (Jvm.Cond.methodLink "BeliefRiver$Years" (1 : Nat) ({ cls := "java/lang/Object", name := "<init>", desc := "()V" } : Jvm.MethodName)) ∈ W0 := W0_m (in_t2 (List.mem_of_getElem? (i := 168) rfl)) rfl
theorem wt_1397 : (Jvm.Cond.methodLink "BeliefRiverModel" (1 : Nat) ({ cls := "java/lang/Object", name := "<init>", desc := "()V" } : Jvm.MethodName)) ∈ W0 := W0_m (in_t6 (List.mem_of_getElem? (i := 197) rfl)) rfl
theorem ic_X0_init : cX0_init.data[1]? = some 183 := by decide +kernel
theorem oi_X0_3 : OI RX0 3 := ⟨wt_341, wt_32, wt_33⟩
theorem ck_X0_9 : CK RX0 9 7 := ⟨_, _, _, cf_7, wt_342, wt_191, fun i j hj => match j, hj with | 0, _ => Or.inl ⟨rfl, rfl⟩ | 1, _ => Or.inl ⟨rfl, rfl⟩ | 2, _ => Or.inr ⟨⟨_, rfl, rfl⟩, _, rfl⟩ | 3, _ => Or.inr ⟨⟨_, rfl, rfl⟩, _, rfl⟩ | 4, _ => Or.inr ⟨⟨_, rfl, rfl⟩, _, rfl⟩ | 5, _ => Or.inr ⟨⟨_, rfl, rfl⟩, _, rfl⟩ | 6, _ => Or.inr ⟨⟨_, rfl, rfl⟩, _, rfl⟩ | n + 7, hj => absurd hj (by omega)⟩
theorem cj_X0_11 : CJ RX0 11 yX7_init cX7_init 1 0 := ⟨by decide +kernel, wt_193, wt_7, wt_194, by decide, by decide, by decide +kernel, rfl⟩
theorem fc_X0_12 : FC RX0 12 0 12 := ⟨_, _, cf_0, by decide, wt_366, rfl, rfl, _, rfl, fun _ => ⟨rfl, rfl⟩⟩
theorem fc_X0_18 : FC RX0 18 0 13 := ⟨_, _, cf_0, by decide, wt_367, rfl, rfl, _, rfl, fun _ => ⟨rfl, rfl⟩⟩
theorem fc_X0_22 : FC RX0 22 0 14 := ⟨_, _, cf_0, by decide, wt_368, rfl, rfl, _, rfl, fun _ => ⟨rfl, rfl⟩⟩
theorem fc_X0_25 : FC RX0 25 0 15 := ⟨_, _, cf_0, by decide, wt_369, rfl, rfl, _, rfl, fun _ => ⟨rfl, rfl⟩⟩
theorem fc_X0_28 : FC RX0 28 0 10 := ⟨_, _, cf_0, by decide, wt_364, rfl, rfl, _, rfl, fun _ => ⟨rfl, rfl⟩⟩
theorem fc_X0_32 : FC RX0 32 0 11 := ⟨_, _, cf_0, by decide, wt_365, rfl, rfl, _, rfl, fun _ => ⟨rfl, rfl⟩⟩
theorem ic_X1_init : cX1_init.data[1]? = some 183 := by decide +kernel
theorem oi_X1_3 : OI RX1 3 := ⟨wt_173, wt_32, wt_33⟩
theorem fc_X1_9 : FC RX1 9 1 1 := ⟨_, _, cf_1, by decide, wt_183, rfl, rfl, _, rfl, fun _ => ⟨rfl, rfl⟩⟩
theorem ic_X2_init : cX2_init.data[1]? = some 183 := by decide +kernel
theorem oi_X2_3 : OI RX2 3 := ⟨wt_253, wt_32, wt_33⟩
theorem fc_X2_11 : FC RX2 11 2 1 := ⟨_, _, cf_2, by decide, wt_259, rfl, rfl, _, rfl, fun _ => ⟨rfl, rfl⟩⟩
theorem fc_X2_19 : FC RX2 19 2 2 := ⟨_, _, cf_2, by decide, wt_260, rfl, rfl, _, rfl, fun _ => ⟨rfl, rfl⟩⟩
theorem ck_X2_9 : CK RX2 9 7 := ⟨_, _, _, cf_7, wt_254, wt_191, fun i j hj => match j, hj with | 0, _ => Or.inl ⟨rfl, rfl⟩ | 1, _ => Or.inl ⟨rfl, rfl⟩ | 2, _ => Or.inr ⟨⟨_, rfl, rfl⟩, _, rfl⟩ | 3, _ => Or.inr ⟨⟨_, rfl, rfl⟩, _, rfl⟩ | 4, _ => Or.inr ⟨⟨_, rfl, rfl⟩, _, rfl⟩ | 5, _ => Or.inr ⟨⟨_, rfl, rfl⟩, _, rfl⟩ | 6, _ => Or.inr ⟨⟨_, rfl, rfl⟩, _, rfl⟩ | n + 7, hj => absurd hj (by omega)⟩
theorem cj_X2_27 : CJ RX2 27 yX7_init cX7_init 1 0 := ⟨by decide +kernel, wt_193, wt_7, wt_194, by decide, by decide, by decide +kernel, rfl⟩
theorem ck_X2_17 : CK RX2 17 5 := ⟨_, _, _, cf_5, wt_255, wt_233, fun i j hj => match j, hj with | 0, _ => Or.inl ⟨rfl, rfl⟩ | 1, _ => Or.inr ⟨⟨_, rfl, rfl⟩, _, rfl⟩ | n + 2, hj => absurd hj (by omega)⟩
theorem cj_X2_28 : CJ RX2 28 yX5_init cX5_init 1 0 := ⟨by decide +kernel, wt_235, wt_8, wt_236, by decide, by decide, by decide +kernel, rfl⟩
theorem ic_X3_init : cX3_init.data[1]? = some 183 := by decide +kernel
theorem oi_X3_3 : OI RX3 3 := ⟨wt_74, wt_32, wt_33⟩
theorem fc_X3_9 : FC RX3 9 3 4 := ⟨_, _, cf_3, by decide, wt_95, rfl, rfl, _, rfl, fun _ => ⟨rfl, rfl⟩⟩
theorem fc_X3_15 : FC RX3 15 3 5 := ⟨_, _, cf_3, by decide, wt_98, rfl, rfl, _, rfl, fun _ => ⟨rfl, rfl⟩⟩
theorem fc_X3_18 : FC RX3 18 3 6 := ⟨_, _, cf_3, by decide, wt_102, rfl, rfl, _, rfl, fun _ => ⟨rfl, rfl⟩⟩
theorem fc_X3_21 : FC RX3 21 3 7 := ⟨_, _, cf_3, by decide, wt_104, rfl, rfl, _, rfl, fun _ => ⟨rfl, rfl⟩⟩
theorem fc_X3_24 : FC RX3 24 3 8 := ⟨_, _, cf_3, by decide, wt_106, rfl, rfl, _, rfl, fun _ => ⟨rfl, rfl⟩⟩
theorem fc_X3_27 : FC RX3 27 3 9 := ⟨_, _, cf_3, by decide, wt_107, rfl, rfl, _, rfl, fun _ => ⟨rfl, rfl⟩⟩
theorem fc_X3_30 : FC RX3 30 3 10 := ⟨_, _, cf_3, by decide, wt_109, rfl, rfl, _, rfl, fun _ => ⟨rfl, rfl⟩⟩
theorem fc_X3_33 : FC RX3 33 3 11 := ⟨_, _, cf_3, by decide, wt_111, rfl, rfl, _, rfl, fun _ => ⟨rfl, rfl⟩⟩
theorem ic_X4_init : cX4_init.data[1]? = some 183 := by decide +kernel
theorem oi_X4_3 : OI RX4 3 := ⟨wt_143, wt_32, wt_33⟩
theorem fc_X4_11 : FC RX4 11 4 0 := ⟨_, _, cf_4, by decide, wt_153, rfl, rfl, _, rfl, fun _ => ⟨rfl, rfl⟩⟩
theorem fc_X4_15 : FC RX4 15 4 1 := ⟨_, _, cf_4, by decide, wt_156, rfl, rfl, _, rfl, fun _ => ⟨rfl, rfl⟩⟩
theorem fc_X4_18 : FC RX4 18 4 2 := ⟨_, _, cf_4, by decide, wt_157, rfl, rfl, _, rfl, fun _ => ⟨rfl, rfl⟩⟩
theorem ic_X5_init : cX5_init.data[1]? = some 183 := by decide +kernel
theorem oi_X5_3 : OI RX5 3 := ⟨wt_237, wt_32, wt_33⟩
theorem fc_X5_11 : FC RX5 11 5 1 := ⟨_, _, cf_5, by decide, wt_242, rfl, rfl, _, rfl, fun _ => ⟨rfl, rfl⟩⟩
theorem ck_X5_9 : CK RX5 9 7 := ⟨_, _, _, cf_7, wt_238, wt_191, fun i j hj => match j, hj with | 0, _ => Or.inl ⟨rfl, rfl⟩ | 1, _ => Or.inl ⟨rfl, rfl⟩ | 2, _ => Or.inr ⟨⟨_, rfl, rfl⟩, _, rfl⟩ | 3, _ => Or.inr ⟨⟨_, rfl, rfl⟩, _, rfl⟩ | 4, _ => Or.inr ⟨⟨_, rfl, rfl⟩, _, rfl⟩ | 5, _ => Or.inr ⟨⟨_, rfl, rfl⟩, _, rfl⟩ | 6, _ => Or.inr ⟨⟨_, rfl, rfl⟩, _, rfl⟩ | n + 7, hj => absurd hj (by omega)⟩
theorem cj_X5_25 : CJ RX5 25 yX7_init cX7_init 1 0 := ⟨by decide +kernel, wt_193, wt_7, wt_194, by decide, by decide, by decide +kernel, rfl⟩
theorem ic_X6_init : cX6_init.data[1]? = some 183 := by decide +kernel
theorem oi_X6_3 : OI RX6 3 := ⟨wt_273, wt_32, wt_33⟩
theorem fc_X6_9 : FC RX6 9 6 2 := ⟨_, _, cf_6, by decide, wt_276, rfl, rfl, _, rfl, fun _ => ⟨rfl, rfl⟩⟩
theorem fc_X6_15 : FC RX6 15 6 0 := ⟨_, _, cf_6, by decide, wt_274, rfl, rfl, _, rfl, fun _ => ⟨rfl, rfl⟩⟩
theorem fc_X6_19 : FC RX6 19 6 1 := ⟨_, _, cf_6, by decide, wt_275, rfl, rfl, _, rfl, fun _ => ⟨rfl, rfl⟩⟩
theorem ic_X7_init : cX7_init.data[1]? = some 183 := by decide +kernel
theorem oi_X7_3 : OI RX7 3 := ⟨wt_195, wt_32, wt_33⟩
theorem fc_X7_11 : FC RX7 11 7 2 := ⟨_, _, cf_7, by decide, wt_202, rfl, rfl, _, rfl, fun _ => ⟨rfl, rfl⟩⟩
theorem fc_X7_15 : FC RX7 15 7 3 := ⟨_, _, cf_7, by decide, wt_205, rfl, rfl, _, rfl, fun _ => ⟨rfl, rfl⟩⟩
theorem fc_X7_18 : FC RX7 18 7 4 := ⟨_, _, cf_7, by decide, wt_209, rfl, rfl, _, rfl, fun _ => ⟨rfl, rfl⟩⟩
theorem fc_X7_21 : FC RX7 21 7 5 := ⟨_, _, cf_7, by decide, wt_210, rfl, rfl, _, rfl, fun _ => ⟨rfl, rfl⟩⟩
theorem fc_X7_24 : FC RX7 24 7 6 := ⟨_, _, cf_7, by decide, wt_214, rfl, rfl, _, rfl, fun _ => ⟨rfl, rfl⟩⟩
theorem ic_X8_init : cX8_init.data[1]? = some 183 := by decide +kernel
theorem oi_X8_3 : OI RX8 3 := ⟨wt_39, wt_32, wt_33⟩
theorem fc_X8_9 : FC RX8 9 8 0 := ⟨_, _, cf_8, by decide, wt_40, rfl, rfl, _, rfl, fun _ => ⟨rfl, rfl⟩⟩
theorem ic_X9_init : cX9_init.data[1]? = some 183 := by decide +kernel
theorem oi_X9_3 : OI RX9 3 := ⟨wt_299, wt_32, wt_33⟩
theorem fc_X9_11 : FC RX9 11 9 7 := ⟨_, _, cf_9, by decide, wt_309, rfl, rfl, _, rfl, fun _ => ⟨rfl, rfl⟩⟩
theorem fc_X9_15 : FC RX9 15 9 8 := ⟨_, _, cf_9, by decide, wt_310, rfl, rfl, _, rfl, fun _ => ⟨rfl, rfl⟩⟩
theorem fc_X9_18 : FC RX9 18 9 9 := ⟨_, _, cf_9, by decide, wt_311, rfl, rfl, _, rfl, fun _ => ⟨rfl, rfl⟩⟩
theorem fc_X9_21 : FC RX9 21 9 10 := ⟨_, _, cf_9, by decide, wt_312, rfl, rfl, _, rfl, fun _ => ⟨rfl, rfl⟩⟩
theorem fc_X9_24 : FC RX9 24 9 4 := ⟨_, _, cf_9, by decide, wt_306, rfl, rfl, _, rfl, fun _ => ⟨rfl, rfl⟩⟩
theorem fc_X9_28 : FC RX9 28 9 5 := ⟨_, _, cf_9, by decide, wt_307, rfl, rfl, _, rfl, fun _ => ⟨rfl, rfl⟩⟩
theorem fc_X9_32 : FC RX9 32 9 6 := ⟨_, _, cf_9, by decide, wt_308, rfl, rfl, _, rfl, fun _ => ⟨rfl, rfl⟩⟩
theorem ic_X10_init : cX10_init.data[1]? = some 183 := by decide +kernel
theorem oi_X10_1 : OI RX10 1 := ⟨wt_408, wt_32, wt_33⟩
theorem ck_X10_7 : CK RX10 7 7 := ⟨_, _, _, cf_7, wt_409, wt_191, fun i j hj => match j, hj with | 0, _ => Or.inl ⟨rfl, rfl⟩ | 1, _ => Or.inl ⟨rfl, rfl⟩ | 2, _ => Or.inr ⟨⟨_, rfl, rfl⟩, _, rfl⟩ | 3, _ => Or.inr ⟨⟨_, rfl, rfl⟩, _, rfl⟩ | 4, _ => Or.inr ⟨⟨_, rfl, rfl⟩, _, rfl⟩ | 5, _ => Or.inr ⟨⟨_, rfl, rfl⟩, _, rfl⟩ | 6, _ => Or.inr ⟨⟨_, rfl, rfl⟩, _, rfl⟩ | n + 7, hj => absurd hj (by omega)⟩
theorem cj_X10_9 : CJ RX10 9 yX7_init cX7_init 1 0 := ⟨by decide +kernel, wt_193, wt_7, wt_194, by decide, by decide, by decide +kernel, rfl⟩
theorem fc_X10_10 : FC RX10 10 10 0 := ⟨_, _, cf_10, by decide, wt_411, rfl, rfl, _, rfl, fun _ => ⟨rfl, rfl⟩⟩
theorem fc_X10_16 : FC RX10 16 10 2 := ⟨_, _, cf_10, by decide, wt_415, rfl, rfl, _, rfl, fun _ => ⟨rfl, rfl⟩⟩
theorem fc_X10_20 : FC RX10 20 10 3 := ⟨_, _, cf_10, by decide, wt_416, rfl, rfl, _, rfl, fun _ => ⟨rfl, rfl⟩⟩
theorem ic_X11_init : cX11_init.data[1]? = some 183 := by decide +kernel
theorem oi_X11_1 : OI RX11 1 := ⟨wt_31, wt_32, wt_33⟩
theorem ck_X11_7 : CK RX11 7 8 := ⟨_, _, _, cf_8, wt_34, wt_35, fun i j hj => match j, hj with | 0, _ => Or.inr ⟨⟨_, rfl, rfl⟩, _, rfl⟩ | 1, _ => Or.inl ⟨rfl, rfl⟩ | 2, _ => Or.inl ⟨rfl, rfl⟩ | 3, _ => Or.inl ⟨rfl, rfl⟩ | 4, _ => Or.inl ⟨rfl, rfl⟩ | 5, _ => Or.inl ⟨rfl, rfl⟩ | 6, _ => Or.inl ⟨rfl, rfl⟩ | n + 7, hj => absurd hj (by omega)⟩
theorem cj_X11_9 : CJ RX11 9 yX8_init cX8_init 1 0 := ⟨by decide +kernel, wt_37, wt_2, wt_38, by decide, by decide, by decide +kernel, rfl⟩
theorem fc_X11_10 : FC RX11 10 11 0 := ⟨_, _, cf_11, by decide, wt_429, rfl, rfl, _, rfl, fun _ => ⟨rfl, rfl⟩⟩
theorem ck_X11_16 : CK RX11 16 3 := ⟨_, _, _, cf_3, wt_69, wt_70, fun i j hj => match j, hj with | 0, _ => Or.inl ⟨rfl, rfl⟩ | 1, _ => Or.inl ⟨rfl, rfl⟩ | 2, _ => Or.inl ⟨rfl, rfl⟩ | 3, _ => Or.inl ⟨rfl, rfl⟩ | 4, _ => Or.inr ⟨⟨_, rfl, rfl⟩, _, rfl⟩ | 5, _ => Or.inr ⟨⟨_, rfl, rfl⟩, _, rfl⟩ | 6, _ => Or.inr ⟨⟨_, rfl, rfl⟩, _, rfl⟩ | 7, _ => Or.inr ⟨⟨_, rfl, rfl⟩, _, rfl⟩ | 8, _ => Or.inr ⟨⟨_, rfl, rfl⟩, _, rfl⟩ | 9, _ => Or.inr ⟨⟨_, rfl, rfl⟩, _, rfl⟩ | 10, _ => Or.inr ⟨⟨_, rfl, rfl⟩, _, rfl⟩ | 11, _ => Or.inr ⟨⟨_, rfl, rfl⟩, _, rfl⟩ | n + 12, hj => absurd hj (by omega)⟩
theorem cj_X11_18 : CJ RX11 18 yX3_init cX3_init 1 0 := ⟨by decide +kernel, wt_72, wt_3, wt_73, by decide, by decide, by decide +kernel, rfl⟩
theorem fc_X11_19 : FC RX11 19 11 1 := ⟨_, _, cf_11, by decide, wt_430, rfl, rfl, _, rfl, fun _ => ⟨rfl, rfl⟩⟩
theorem fc_X11_23 : FC RX11 23 11 2 := ⟨_, _, cf_11, by decide, wt_431, rfl, rfl, _, rfl, fun _ => ⟨rfl, rfl⟩⟩
theorem ck_X11_26 : CK RX11 26 4 := ⟨_, _, _, cf_4, wt_138, wt_139, fun i j hj => match j, hj with | 0, _ => Or.inr ⟨⟨_, rfl, rfl⟩, _, rfl⟩ | 1, _ => Or.inr ⟨⟨_, rfl, rfl⟩, _, rfl⟩ | 2, _ => Or.inr ⟨⟨_, rfl, rfl⟩, _, rfl⟩ | 3, _ => Or.inl ⟨rfl, rfl⟩ | n + 4, hj => absurd hj (by omega)⟩
theorem ci_X11_28 : CI RX11 28 yX4_init cX4_init 1 0 := ⟨wt_140, wt_141, wt_4, wt_142, by decide, by decide, by decide +kernel, rfl⟩
theorem fc_X11_29 : FC RX11 29 11 3 := ⟨_, _, cf_11, by decide, wt_432, rfl, rfl, _, rfl, fun _ => ⟨rfl, rfl⟩⟩
theorem fc_X11_33 : FC RX11 33 11 4 := ⟨_, _, cf_11, by decide, wt_433, rfl, rfl, _, rfl, fun _ => ⟨rfl, rfl⟩⟩
theorem ck_X11_36 : CK RX11 36 1 := ⟨_, _, _, cf_1, wt_168, wt_169, fun i j hj => match j, hj with | 0, _ => Or.inl ⟨rfl, rfl⟩ | 1, _ => Or.inr ⟨⟨_, rfl, rfl⟩, _, rfl⟩ | n + 2, hj => absurd hj (by omega)⟩
theorem ci_X11_38 : CI RX11 38 yX1_init cX1_init 1 0 := ⟨wt_170, wt_171, wt_6, wt_172, by decide, by decide, by decide +kernel, rfl⟩
theorem fc_X11_39 : FC RX11 39 11 5 := ⟨_, _, cf_11, by decide, wt_434, rfl, rfl, _, rfl, fun _ => ⟨rfl, rfl⟩⟩
theorem fc_X11_43 : FC RX11 43 11 6 := ⟨_, _, cf_11, by decide, wt_435, rfl, rfl, _, rfl, fun _ => ⟨rfl, rfl⟩⟩
theorem ck_X11_46 : CK RX11 46 7 := ⟨_, _, _, cf_7, wt_190, wt_191, fun i j hj => match j, hj with | 0, _ => Or.inl ⟨rfl, rfl⟩ | 1, _ => Or.inl ⟨rfl, rfl⟩ | 2, _ => Or.inr ⟨⟨_, rfl, rfl⟩, _, rfl⟩ | 3, _ => Or.inr ⟨⟨_, rfl, rfl⟩, _, rfl⟩ | 4, _ => Or.inr ⟨⟨_, rfl, rfl⟩, _, rfl⟩ | 5, _ => Or.inr ⟨⟨_, rfl, rfl⟩, _, rfl⟩ | 6, _ => Or.inr ⟨⟨_, rfl, rfl⟩, _, rfl⟩ | n + 7, hj => absurd hj (by omega)⟩
theorem cj_X11_48 : CJ RX11 48 yX7_init cX7_init 1 0 := ⟨by decide +kernel, wt_193, wt_7, wt_194, by decide, by decide, by decide +kernel, rfl⟩
theorem fc_X11_49 : FC RX11 49 11 8 := ⟨_, _, cf_11, by decide, wt_437, rfl, rfl, _, rfl, fun _ => ⟨rfl, rfl⟩⟩
theorem ck_X11_53 : CK RX11 53 5 := ⟨_, _, _, cf_5, wt_232, wt_233, fun i j hj => match j, hj with | 0, _ => Or.inl ⟨rfl, rfl⟩ | 1, _ => Or.inr ⟨⟨_, rfl, rfl⟩, _, rfl⟩ | n + 2, hj => absurd hj (by omega)⟩
theorem cj_X11_55 : CJ RX11 55 yX5_init cX5_init 1 0 := ⟨by decide +kernel, wt_235, wt_8, wt_236, by decide, by decide, by decide +kernel, rfl⟩
theorem fc_X11_56 : FC RX11 56 11 9 := ⟨_, _, cf_11, by decide, wt_438, rfl, rfl, _, rfl, fun _ => ⟨rfl, rfl⟩⟩
theorem ck_X11_60 : CK RX11 60 2 := ⟨_, _, _, cf_2, wt_248, wt_249, fun i j hj => match j, hj with | 0, _ => Or.inl ⟨rfl, rfl⟩ | 1, _ => Or.inr ⟨⟨_, rfl, rfl⟩, _, rfl⟩ | 2, _ => Or.inr ⟨⟨_, rfl, rfl⟩, _, rfl⟩ | n + 3, hj => absurd hj (by omega)⟩
theorem cj_X11_62 : CJ RX11 62 yX2_init cX2_init 1 0 := ⟨by decide +kernel, wt_251, wt_9, wt_252, by decide, by decide, by decide +kernel, rfl⟩
theorem fc_X11_63 : FC RX11 63 11 10 := ⟨_, _, cf_11, by decide, wt_439, rfl, rfl, _, rfl, fun _ => ⟨rfl, rfl⟩⟩
theorem ck_X11_67 : CK RX11 67 6 := ⟨_, _, _, cf_6, wt_268, wt_269, fun i j hj => match j, hj with | 0, _ => Or.inr ⟨⟨_, rfl, rfl⟩, _, rfl⟩ | 1, _ => Or.inr ⟨⟨_, rfl, rfl⟩, _, rfl⟩ | 2, _ => Or.inr ⟨⟨_, rfl, rfl⟩, _, rfl⟩ | 3, _ => Or.inl ⟨rfl, rfl⟩ | 4, _ => Or.inl ⟨rfl, rfl⟩ | n + 5, hj => absurd hj (by omega)⟩
theorem ci_X11_69 : CI RX11 69 yX6_init cX6_init 3 2 := ⟨wt_270, wt_271, wt_10, wt_272, by decide, by decide, by decide +kernel, rfl⟩
theorem fc_X11_72 : FC RX11 72 11 11 := ⟨_, _, cf_11, by decide, wt_440, rfl, rfl, _, rfl, fun _ => ⟨rfl, rfl⟩⟩
theorem ck_X11_76 : CK RX11 76 9 := ⟨_, _, _, cf_9, wt_294, wt_295, fun i j hj => match j, hj with | 0, _ => Or.inl ⟨rfl, rfl⟩ | 1, _ => Or.inl ⟨rfl, rfl⟩ | 2, _ => Or.inl ⟨rfl, rfl⟩ | 3, _ => Or.inl ⟨rfl, rfl⟩ | 4, _ => Or.inr ⟨⟨_, rfl, rfl⟩, _, rfl⟩ | 5, _ => Or.inr ⟨⟨_, rfl, rfl⟩, _, rfl⟩ | 6, _ => Or.inr ⟨⟨_, rfl, rfl⟩, _, rfl⟩ | 7, _ => Or.inr ⟨⟨_, rfl, rfl⟩, _, rfl⟩ | 8, _ => Or.inr ⟨⟨_, rfl, rfl⟩, _, rfl⟩ | 9, _ => Or.inr ⟨⟨_, rfl, rfl⟩, _, rfl⟩ | 10, _ => Or.inr ⟨⟨_, rfl, rfl⟩, _, rfl⟩ | n + 11, hj => absurd hj (by omega)⟩
theorem ci_X11_78 : CI RX11 78 yX9_init cX9_init 4 3 := ⟨wt_296, wt_297, wt_11, wt_298, by decide, by decide, by decide +kernel, rfl⟩
theorem fc_X11_81 : FC RX11 81 11 7 := ⟨_, _, cf_11, by decide, wt_436, rfl, rfl, _, rfl, fun _ => ⟨rfl, rfl⟩⟩
theorem ck_X11_85 : CK RX11 85 0 := ⟨_, _, _, cf_0, wt_336, wt_337, fun i j hj => match j, hj with | 0, _ => Or.inl ⟨rfl, rfl⟩ | 1, _ => Or.inl ⟨rfl, rfl⟩ | 2, _ => Or.inl ⟨rfl, rfl⟩ | 3, _ => Or.inl ⟨rfl, rfl⟩ | 4, _ => Or.inl ⟨rfl, rfl⟩ | 5, _ => Or.inl ⟨rfl, rfl⟩ | 6, _ => Or.inl ⟨rfl, rfl⟩ | 7, _ => Or.inl ⟨rfl, rfl⟩ | 8, _ => Or.inl ⟨rfl, rfl⟩ | 9, _ => Or.inl ⟨rfl, rfl⟩ | 10, _ => Or.inr ⟨⟨_, rfl, rfl⟩, _, rfl⟩ | 11, _ => Or.inr ⟨⟨_, rfl, rfl⟩, _, rfl⟩ | 12, _ => Or.inr ⟨⟨_, rfl, rfl⟩, _, rfl⟩ | 13, _ => Or.inr ⟨⟨_, rfl, rfl⟩, _, rfl⟩ | 14, _ => Or.inr ⟨⟨_, rfl, rfl⟩, _, rfl⟩ | 15, _ => Or.inr ⟨⟨_, rfl, rfl⟩, _, rfl⟩ | n + 16, hj => absurd hj (by omega)⟩
theorem ci_X11_87 : CI RX11 87 yX0_init cX0_init 3 2 := ⟨wt_338, wt_339, wt_12, wt_340, by decide, by decide, by decide +kernel, rfl⟩
theorem fc_X11_90 : FC RX11 90 11 12 := ⟨_, _, cf_11, by decide, wt_441, rfl, rfl, _, rfl, fun _ => ⟨rfl, rfl⟩⟩
theorem ck_X11_94 : CK RX11 94 10 := ⟨_, _, _, cf_10, wt_403, wt_404, fun i j hj => match j, hj with | 0, _ => Or.inr ⟨⟨_, rfl, rfl⟩, _, rfl⟩ | 1, _ => Or.inl ⟨rfl, rfl⟩ | 2, _ => Or.inr ⟨⟨_, rfl, rfl⟩, _, rfl⟩ | 3, _ => Or.inr ⟨⟨_, rfl, rfl⟩, _, rfl⟩ | 4, _ => Or.inl ⟨rfl, rfl⟩ | n + 5, hj => absurd hj (by omega)⟩
theorem ci_X11_96 : CI RX11 96 yX10_init cX10_init 3 2 := ⟨wt_405, wt_406, wt_13, wt_407, by decide, by decide, by decide +kernel, rfl⟩
theorem fc_X11_97 : FC RX11 97 11 13 := ⟨_, _, cf_11, by decide, wt_442, rfl, rfl, _, rfl, fun _ => ⟨rfl, rfl⟩⟩
theorem ic_X12_init : cX12_init.data[1]? = some 183 := by decide +kernel
theorem oi_X12_1 : OI RX12 1 := ⟨wt_1397, wt_32, wt_33⟩
theorem fc_X12_13 : FC RX12 13 12 9 := ⟨_, _, cf_12, by decide, wt_1420, rfl, rfl, _, rfl, fun _ => ⟨rfl, rfl⟩⟩
theorem fc_X12_17 : FC RX12 17 12 10 := ⟨_, _, cf_12, by decide, wt_1421, rfl, rfl, _, rfl, fun _ => ⟨rfl, rfl⟩⟩
theorem fc_X12_20 : FC RX12 20 12 11 := ⟨_, _, cf_12, by decide, wt_1422, rfl, rfl, _, rfl, fun _ => ⟨rfl, rfl⟩⟩
theorem fc_X12_23 : FC RX12 23 12 12 := ⟨_, _, cf_12, by decide, wt_1423, rfl, rfl, _, rfl, fun _ => ⟨rfl, rfl⟩⟩
theorem fc_X12_26 : FC RX12 26 12 13 := ⟨_, _, cf_12, by decide, wt_1424, rfl, rfl, _, rfl, fun _ => ⟨rfl, rfl⟩⟩
theorem fc_X12_29 : FC RX12 29 12 14 := ⟨_, _, cf_12, by decide, wt_1425, rfl, rfl, _, rfl, fun _ => ⟨rfl, rfl⟩⟩
theorem fc_X12_34 : FC RX12 34 12 15 := ⟨_, _, cf_12, by decide, wt_1426, rfl, rfl, _, rfl, fun _ => ⟨rfl, rfl⟩⟩
theorem fc_X12_37 : FC RX12 37 12 16 := ⟨_, _, cf_12, by decide, wt_1427, rfl, rfl, _, rfl, fun _ => ⟨rfl, rfl⟩⟩
theorem fc_X12_40 : FC RX12 40 12 17 := ⟨_, _, cf_12, by decide, wt_1428, rfl, rfl, _, rfl, fun _ => ⟨rfl, rfl⟩⟩
theorem fc_X12_43 : FC RX12 43 12 18 := ⟨_, _, cf_12, by decide, wt_1429, rfl, rfl, _, rfl, fun _ => ⟨rfl, rfl⟩⟩
theorem fc_X12_46 : FC RX12 46 12 19 := ⟨_, _, cf_12, by decide, wt_1430, rfl, rfl, _, rfl, fun _ => ⟨rfl, rfl⟩⟩
theorem fc_X12_49 : FC RX12 49 12 20 := ⟨_, _, cf_12, by decide, wt_1431, rfl, rfl, _, rfl, fun _ => ⟨rfl, rfl⟩⟩
theorem fc_X12_52 : FC RX12 52 12 23 := ⟨_, _, cf_12, by decide, wt_1434, rfl, rfl, _, rfl, fun _ => ⟨rfl, rfl⟩⟩
theorem fc_X12_55 : FC RX12 55 12 24 := ⟨_, _, cf_12, by decide, wt_1435, rfl, rfl, _, rfl, fun _ => ⟨rfl, rfl⟩⟩
theorem fc_X12_58 : FC RX12 58 12 25 := ⟨_, _, cf_12, by decide, wt_1436, rfl, rfl, _, rfl, fun _ => ⟨rfl, rfl⟩⟩
theorem fc_X12_61 : FC RX12 61 12 26 := ⟨_, _, cf_12, by decide, wt_1437, rfl, rfl, _, rfl, fun _ => ⟨rfl, rfl⟩⟩
theorem fc_X12_64 : FC RX12 64 12 27 := ⟨_, _, cf_12, by decide, wt_1438, rfl, rfl, _, rfl, fun _ => ⟨rfl, rfl⟩⟩
theorem fc_X12_67 : FC RX12 67 12 28 := ⟨_, _, cf_12, by decide, wt_1439, rfl, rfl, _, rfl, fun _ => ⟨rfl, rfl⟩⟩
theorem fc_X12_70 : FC RX12 70 12 29 := ⟨_, _, cf_12, by decide, wt_1440, rfl, rfl, _, rfl, fun _ => ⟨rfl, rfl⟩⟩
theorem fc_X12_73 : FC RX12 73 12 31 := ⟨_, _, cf_12, by decide, wt_1442, rfl, rfl, _, rfl, fun _ => ⟨rfl, rfl⟩⟩
theorem fc_X12_76 : FC RX12 76 12 32 := ⟨_, _, cf_12, by decide, wt_1443, rfl, rfl, _, rfl, fun _ => ⟨rfl, rfl⟩⟩
theorem fc_X12_79 : FC RX12 79 12 33 := ⟨_, _, cf_12, by decide, wt_1444, rfl, rfl, _, rfl, fun _ => ⟨rfl, rfl⟩⟩
theorem fc_X12_82 : FC RX12 82 12 34 := ⟨_, _, cf_12, by decide, wt_1445, rfl, rfl, _, rfl, fun _ => ⟨rfl, rfl⟩⟩
theorem fc_X12_85 : FC RX12 85 12 40 := ⟨_, _, cf_12, by decide, wt_1451, rfl, rfl, _, rfl, fun _ => ⟨rfl, rfl⟩⟩
theorem fc_X12_88 : FC RX12 88 12 41 := ⟨_, _, cf_12, by decide, wt_1452, rfl, rfl, _, rfl, fun _ => ⟨rfl, rfl⟩⟩
theorem fc_X12_91 : FC RX12 91 12 45 := ⟨_, _, cf_12, by decide, wt_1456, rfl, rfl, _, rfl, fun _ => ⟨rfl, rfl⟩⟩
theorem fc_X12_94 : FC RX12 94 12 46 := ⟨_, _, cf_12, by decide, wt_1457, rfl, rfl, _, rfl, fun _ => ⟨rfl, rfl⟩⟩
theorem fc_X12_97 : FC RX12 97 12 48 := ⟨_, _, cf_12, by decide, wt_1459, rfl, rfl, _, rfl, fun _ => ⟨rfl, rfl⟩⟩
theorem fc_X12_100 : FC RX12 100 12 49 := ⟨_, _, cf_12, by decide, wt_1460, rfl, rfl, _, rfl, fun _ => ⟨rfl, rfl⟩⟩
