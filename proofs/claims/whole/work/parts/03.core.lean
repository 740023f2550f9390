/-! ===== one flat memory of ints for the class, the reference and the law; the judgement over it ===== -/
/-- a value: an int, a long, null or a cell by its kind and number -/
abbrev AV : Type := Int32 ⊕ (Int64 ⊕ Option (Nat × Nat))
abbrev vI (x : Int32) : AV := Sum.inl x
abbrev vL (x : Int64) : AV := Sum.inr (Sum.inl x)
abbrev vR (k i : Nat) : AV := Sum.inr (Sum.inr (some (k, i)))
abbrev vN : AV := Sum.inr (Sum.inr none)
abbrev Mem : Type := Nat → Nat → Nat → Int32
/-- how a method ends: with a value or none, or by an exception of that number -/
abbrev Ou : Type := Option AV ⊕ Nat
abbrev AD : Type := Nat → Nat → Nat
abbrev AL : Type := List (Nat × Nat)
def wr (M : Mem) (k i j : Nat) (x : Int32) : Mem := fun a b c => if a = k ∧ b = i ∧ c = j then x else M a b c
def cv (ad : AD) : AV → Value
  | .inl x => .int x
  | .inr (.inl y) => .long y
  | .inr (.inr none) => .null
  | .inr (.inr (some q)) => .ref (ad q.1 q.2)
/-- a value that may be used: a cell that is there, or one of the read-only kinds -/
def avk (L : AL) : AV → Prop
  | .inr (.inr (some q)) => q ∈ L ∨ (100 ≤ q.1 ∧ q.1 < 300)
  | _ => True
def oks (L : AL) : List AV → Prop
  | [] => True
  | v :: r => avk L v ∧ oks L r
def okl (L : AL) : List (Nat × AV) → Prop
  | [] => True
  | q :: r => avk L q.2 ∧ okl L r
def stc (ad : AD) (st : List AV) : List Value := st.map (cv ad)
def lsc (ad : AD) (ls : List (Nat × AV)) : List (Nat × Value) := ls.map (fun q => (q.1, cv ad q.2))
/-- a long out of two ints, and back -/
def jL (lo hi : Int32) : Int64 := Int64.ofBitVec (BitVec.ofNat 64 (lo.toBitVec.toNat + 4294967296 * hi.toBitVec.toNat))
def loL (x : Int64) : Int32 := Int32.ofBitVec (BitVec.ofNat 32 x.toBitVec.toNat)
def hiL (x : Int64) : Int32 := Int32.ofBitVec (BitVec.ofNat 32 (x.toBitVec.toNat / 4294967296))
theorem jL_of (x : Int64) : jL (loL x) (hiL x) = x := by
  have hx := x.toBitVec.isLt
  apply Int64.toBitVec_inj.mp
  apply BitVec.eq_of_toNat_eq
  simp only [jL, loL, hiL, Int64.toBitVec_ofBitVec, Int32.toBitVec_ofBitVec, BitVec.toNat_ofNat]
  omega
def fldV (ad : AD) (M : Mem) (k i j : Nat) : Value := match shR k i j with
  | none => .int (M k i j)
  | some t => if M k i j = 0 then .null else .ref (ad t.1 t.2)
def refO (ad : AD) (k i j : Nat) : Option Nat := if j < shN k then (shR k i j).map (fun t => ad t.1 t.2) else none
def cellE (cA : Nat → ClassId) (ad : AD) (M : Mem) (k i : Nat) : va_E := match shT k with
  | 0 => .inr (k, (List.range (shN k)).map (fldV ad M k i))
  | 1 => .inl (cA 1, shN k, .inl (fun j => M k i j))
  | 2 => .inl (cA 2, shN k, .inr (.inl (fun j => jL (M k i (2 * j)) (M k i (2 * j + 1)))))
  | 3 => .inl (cA 3, shN k, .inr (.inr (.inr (.inr (fun j => refO ad k i j)))))
  | t => .inl (cA t, shN k, .inr (.inr (.inr (.inr (fun j => if M k i j = 0 then none else refO ad k i j)))))
/-- an object lies there under 300 and its class's number from its birth on, and under its class's number once its constructor is through -/
def phk (k : Nat) : Nat := if k < 13 then 300 + k else k
def bas (k : Nat) : Nat := if 300 ≤ k then k - 300 else k
def phys (q : Nat × Nat) : Bool := decide ((13 ≤ q.1 ∧ q.1 < 93) ∨ (300 ≤ q.1 ∧ q.1 < 313))
def wl (cA : Nat → ClassId) (ad : AD) (M : Mem) (L : AL) : va_W := (L.filter phys).map (fun q => (ad q.1 q.2, cellE cA ad M (bas q.1) q.2))
abbrev tyl (cA : Nat → ClassId) : List (ClassId × FieldType) := [(cA 0, .int), (cA 1, .int), (cA 2, .long), (cA 3, .array .int), (cA 4, .object RX7), (cA 5, .object RX5)]
/-- what a cell refers to is there; what is there is marked; an object that is through has all its references -/
def Clo (ad : AD) (L : AL) (M : Mem) : Prop := (∀ k i, (phk k, i) ∈ L → ∀ j, j < shN k → ∀ t, shR k i j = some t → (shT k = 3 ∨ ¬ M k i j = 0) → t ∈ L) ∧ (∀ q ∈ L, ¬ M 94 q.1 q.2 = 0) ∧ (∀ k i, k < 13 → (k, i) ∈ L → (phk k, i) ∈ L ∧ ad k i = ad (phk k) i ∧ ∀ j, j < shN k → ∀ t, shR k i j = some t → ¬ M k i j = 0) ∧ ∀ k i, k < 13 → ¬ M 94 k i = 0 → (k, i) ∈ L
def Ab (s0 : State) : Nat → Prop := fun q => s0.heap.size ≤ q
/-- what is only read: the script, its length as M 100 1 0; the addresses of the read-only kinds -/
def RO (s0 : State) (cA : Nat → ClassId) (ad : AD) (M : Mem) : Prop := va_X (cA 100000) (M 100 1 0).toNatClampNeg (M 100 0) s0 s0.heap ∧ cA 100000 < s0.heap.size ∧ ¬ M 100 1 0 < 0 ∧ ∀ k i, 100 ≤ k → k < 300 → ad k i = cA (1000 * k + i)
def Rel (s0 : State) (D : va_G) (cA : Nat → ClassId) (ad : AD) (L : AL) (M : Mem) (H : Heap) : Prop :=
  va_P D vwCl (wl cA ad M L) H ∧ va_D (Ab s0) (wl cA ad M L) ∧ Clo ad L M ∧ RO s0 cA ad M ∧ (∀ q, q < s0.heap.size → H[q]? = s0.heap[q]?) ∧ s0.heap.size ≤ H.size
def Ext (adE : AD) (LE : AL) (ad : AD) (L : AL) : Prop := (∀ q ∈ LE, q ∈ L ∧ ad q.1 q.2 = adE q.1 q.2) ∧ ∀ k i, 100 ≤ k → k < 300 → ad k i = adE k i
theorem Ext.rf {ad : AD} {L : AL} : Ext ad L ad L := ⟨fun _ h => ⟨h, rfl⟩, fun _ _ _ _ => rfl⟩
theorem Ext.tr {a1 a2 a3 : AD} {L1 L2 L3 : AL} (h : Ext a1 L1 a2 L2) (h2 : Ext a2 L2 a3 L3) : Ext a1 L1 a3 L3 :=
  ⟨fun q hq => ⟨(h2.1 q (h.1 q hq).1).1, (h2.1 q (h.1 q hq).1).2.trans (h.1 q hq).2⟩, fun k i hk hk2 => (h2.2 k i hk hk2).trans (h.2 k i hk hk2)⟩
theorem Ext.cv {a1 a2 : AD} {L1 L2 : AL} (h : Ext a1 L1 a2 L2) {v : AV} (hv : avk L1 v) : cv a2 v = cv a1 v := by
  match v, hv with
  | .inl x, _ => rfl
  | .inr (.inl y), _ => rfl
  | .inr (.inr none), _ => rfl
  | .inr (.inr (some q)), hv =>
    show Value.ref _ = Value.ref _
    rcases hv with hv | hv
    · rw [(h.1 q hv).2]
    · rw [h.2 q.1 q.2 hv.1 hv.2]
theorem Ext.avk {a1 a2 : AD} {L1 L2 : AL} (h : Ext a1 L1 a2 L2) {v : AV} (hv : avk L1 v) : avk L2 v := by
  match v, hv with
  | .inl x, _ => trivial
  | .inr (.inl y), _ => trivial
  | .inr (.inr none), _ => trivial
  | .inr (.inr (some q)), hv => exact hv.elim (fun hv => Or.inl (h.1 q hv).1) Or.inr
theorem Ext.oks {a1 a2 : AD} {L1 L2 : AL} (h : Ext a1 L1 a2 L2) : ∀ {st : List AV}, oks L1 st → oks L2 st
  | [], _ => trivial
  | _ :: _, hs => ⟨h.avk hs.1, h.oks hs.2⟩
theorem Ext.okl {a1 a2 : AD} {L1 L2 : AL} (h : Ext a1 L1 a2 L2) : ∀ {st : List (Nat × AV)}, okl L1 st → okl L2 st
  | [], _ => trivial
  | _ :: _, hs => ⟨h.avk hs.1, h.okl hs.2⟩
theorem Ext.stc {a1 a2 : AD} {L1 L2 : AL} (h : Ext a1 L1 a2 L2) : ∀ {st : List AV}, Jvm.Pilot.@@N@@.oks L1 st → stc a2 st = stc a1 st
  | [], _ => rfl
  | v :: r, hs => by
    show _ :: _ = _ :: _
    rw [h.cv hs.1]
    exact congrArg _ (h.stc hs.2)
theorem Ext.lsc {a1 a2 : AD} {L1 L2 : AL} (h : Ext a1 L1 a2 L2) : ∀ {st : List (Nat × AV)}, Jvm.Pilot.@@N@@.okl L1 st → lsc a2 st = lsc a1 st
  | [], _ => rfl
  | v :: r, hs => by
    show (_, _) :: _ = (_, _) :: _
    rw [h.cv hs.1]
    exact congrArg _ (h.lsc hs.2)
theorem oks_app {L : AL} : ∀ {a b : List AV}, oks L (a ++ b) ↔ oks L a ∧ oks L b
  | [], b => ⟨fun h => ⟨trivial, h⟩, fun h => h.2⟩
  | v :: r, b => by
    show avk L v ∧ oks L (r ++ b) ↔ (avk L v ∧ oks L r) ∧ oks L b
    rw [oks_app (a := r)]
    exact ⟨fun h => ⟨⟨h.1, h.2.1⟩, h.2.2⟩, fun h => ⟨h.1.1, h.1.2, h.2⟩⟩
theorem oks_mem {L : AL} : ∀ {a : List AV}, oks L a ↔ ∀ v ∈ a, avk L v
  | [] => ⟨fun _ v h => (nomatch h), fun _ => trivial⟩
  | v :: r => by
    show avk L v ∧ oks L r ↔ _
    rw [oks_mem (a := r)]
    exact (List.forall_mem_cons (p := fun q : AV => avk L q)).symm
theorem okl_mem {L : AL} : ∀ {a : List (Nat × AV)}, okl L a ↔ ∀ v ∈ a, avk L v.2
  | [] => ⟨fun _ v h => (nomatch h), fun _ => trivial⟩
  | v :: r => by
    show avk L v.2 ∧ okl L r ↔ _
    rw [okl_mem (a := r)]
    exact (List.forall_mem_cons (p := fun q : Nat × AV => avk L q.2)).symm
/-! ### the words that every method rests on; what is known at the law's start -/
def W0 : List Cond := lw_tbl.filter goodWord
theorem W0_in {w : Cond} (n : Nat) (h : lw_tbl[n]? = some w) (hg : goodWord w = true) : w ∈ W0 := List.mem_filter.mpr ⟨List.mem_of_getElem? h, hg⟩
theorem W0_good {ws : List Cond} {c : Cond} (hc : c ∈ W0) : GoodIn W0 (c :: W0) := by
  intro w hw
  rcases List.mem_cons.mp hw with rfl | hw
  · exact ⟨hc, good_of_word (List.mem_filter.mp hc).2⟩
  · exact ⟨hw, good_of_word (List.mem_filter.mp hw).2⟩
/-- the texts, by class and entry -/
def strL : List (String × Nat × String × List Int32) := [("BeliefRiver", 409, "out of its bounds", [111, 117, 116, 32, 111, 102, 32, 105, 116, 115, 32, 98, 111, 117, 110, 100, 115]), ("BeliefRiver$Land", 114, "place", [112, 108, 97, 99, 101]), ("BeliefRiver$Land", 120, "ditch", [100, 105, 116, 99, 104]), ("BeliefRiver$Land", 122, "person", [112, 101, 114, 115, 111, 110]), ("BeliefRiver$Land", 124, "claim", [99, 108, 97, 105, 109]), ("BeliefRiver$Land", 126, "spring", [115, 112, 114, 105, 110, 103]), ("BeliefRiver$Law", 105, "fall", [102, 97, 108, 108]), ("BeliefRiver$Law", 107, "belief", [98, 101, 108, 105, 101, 102]), ("BeliefRiver$Law", 109, "doubt", [100, 111, 117, 98, 116]), ("BeliefRiver$Law", 111, "near", [110, 101, 97, 114]), ("BeliefRiver$Law", 113, "dug", [100, 117, 103]), ("BeliefRiver$Law", 115, "ran", [114, 97, 110]), ("BeliefRiver$Law", 117, "day", [100, 97, 121]), ("BeliefRiver$Law", 119, "from", [102, 114, 111, 109]), ("BeliefRiver$Law", 121, "to", [116, 111]), ("BeliefRiver$Law", 82, "least", [108, 101, 97, 115, 116]), ("BeliefRiver$Law", 92, "most", [109, 111, 115, 116]), ("BeliefRiver$Work", 88, "tell", [116, 101, 108, 108]), ("BeliefRiver$Work", 94, "forget", [102, 111, 114, 103, 101, 116]), ("BeliefRiver$Work", 96, "walk", [119, 97, 108, 107]), ("BeliefRiver$Work", 98, "dig", [100, 105, 103]), ("BeliefRiver$Work", 100, "day", [100, 97, 121]), ("BeliefRiver$Work", 102, "again", [97, 103, 97, 105, 110]), ("BeliefRiver", 402, "no such place, ditch or person", [110, 111, 32, 115, 117, 99, 104, 32, 112, 108, 97, 99, 101, 44, 32, 100, 105, 116, 99, 104, 32, 111, 114, 32, 112, 101, 114, 115, 111, 110])]
/-- calls of private members of the nest -/
def nestL : List Cond := [.methodLinkNest "BeliefRiver" 9 ⟨"BeliefRiver$Tape", "<init>", "()V"⟩ "BeliefRiver", .methodLinkNest "BeliefRiver" 18 ⟨"BeliefRiver$Land", "<init>", "()V"⟩ "BeliefRiver", .methodLinkNest "BeliefRiver$Book" 22 ⟨"BeliefRiver", "fillWithNone", "([I)V"⟩ "BeliefRiver", .methodLinkNest "BeliefRiver" 48 ⟨"BeliefRiver$State", "<init>", "()V"⟩ "BeliefRiver", .methodLinkNest "BeliefRiver" 55 ⟨"BeliefRiver$Past", "<init>", "()V"⟩ "BeliefRiver", .methodLinkNest "BeliefRiver" 62 ⟨"BeliefRiver$Images", "<init>", "()V"⟩ "BeliefRiver", .methodLinkNest "BeliefRiver$Asker" 11 ⟨"BeliefRiver$State", "<init>", "()V"⟩ "BeliefRiver", .methodLinkNest "BeliefRiver$Years" 9 ⟨"BeliefRiver$State", "<init>", "()V"⟩ "BeliefRiver", .methodLinkNest "BeliefRiver$Images" 27 ⟨"BeliefRiver$State", "<init>", "()V"⟩ "BeliefRiver", .methodLinkNest "BeliefRiver$Images" 28 ⟨"BeliefRiver$Past", "<init>", "()V"⟩ "BeliefRiver", .methodLinkNest "BeliefRiver$Past" 25 ⟨"BeliefRiver$State", "<init>", "()V"⟩ "BeliefRiver", .methodLinkNest "BeliefRiver$Land" 49 ⟨"BeliefRiver", "fillWithNone", "([I)V"⟩ "BeliefRiver", .castable "java/lang/IllegalArgumentException" "java/lang/IllegalArgumentException", .castable "java/util/NoSuchElementException" "java/util/NoSuchElementException", .declares (Bundle.initS "java/lang/RuntimeException"), .declares (Bundle.initS "java/lang/Exception"), .declares (Bundle.initS Bundle.tN), .arrayOver (.object RX7), .arrayOver (.object RX5), .arrayOver (.array .int), .not (.castable "java/lang/IllegalArgumentException" "java/util/NoSuchElementException")]
/-- a text lies at its address -/
def StrAt (s0 : State) (cA : Nat → ClassId) (n : Nat) (q : String × Nat × String × List Int32) : Prop := vk_R q.1 q.2.1 q.2.2.1 (cA (105000 + n)) s0 ∧ va_O "java/lang/String" (cA (105000 + n)) (Ab s0) s0 s0.heap ∧ va_OF "java/lang/String" "coder" "B" (.int 0) (cA (105000 + n)) (Ab s0) s0 s0.heap ∧ va_OF "java/lang/String" "value" "[B" (.ref (cA (106000 + n))) (cA (105000 + n)) (Ab s0) s0 s0.heap ∧ va_T .byte (cA (106000 + n)) q.2.2.2.length (fun j => .int (q.2.2.2.getD j 0)) (Ab s0) s0 s0.heap
def wtL : List Int32 := [1000, 1001, 3, 2002, 2000, 1002, 2001]
/-- what is known at the law's start: no stack traces; the classes' layouts; the two statics that a throw reads; the texts; String's own statics; the law without a text; the nest's links -/
def GF (l : Launch) (s0 : State) (D : va_G) (cA : Nat → ClassId) : Prop :=
  l.stackTraces = false ∧ va_K D vwCl (tyl cA) s0 ∧ vx_Zq Bundle.tN "UNASSIGNED_STACK" Bundle.steD (Ab s0) s0 s0.heap ∧ vx_Zq Bundle.tN "SUPPRESSED_SENTINEL" Bundle.listD (Ab s0) s0 s0.heap ∧ (∀ (n : Nat) (q : String × Nat × String × List Int32), strL[n]? = some q → StrAt s0 cA n q) ∧ va_Z "java/lang/String" "COMPACT_STRINGS" "Z" (.int 1) (Ab s0) s0 s0.heap ∧ (va_Z "jdk/internal/util/Preconditions" "SIOOBE_FORMATTER" "Ljava/util/function/BiFunction;" .null (Ab s0) s0 s0.heap ∨ va_Z "jdk/internal/util/Preconditions" "SIOOBE_FORMATTER" "Ljava/util/function/BiFunction;" (.ref (cA 107000)) (Ab s0) s0 s0.heap) ∧ va_Z "BeliefRiver$Law" "WITHOUT_TEXT" "[I" (.ref (cA 101000)) (Ab s0) s0 s0.heap ∧ (va_X (cA 101000) 7 (fun j => wtL.getD j 0) s0 s0.heap ∧ cA 101000 < s0.heap.size) ∧ ∀ w ∈ nestL, va_Nw w s0
/-- the exception tables: the law's own wrappers have them, nothing else has -/
def hhL : List (ByteArray × List (Nat × Nat × Nat × Nat)) := [(method_3_code, [(0, 9, 12, 13)]), (method_4_code, [(0, 9, 12, 13)]), (method_5_code, [(0, 9, 12, 13)]), (method_6_code, [(0, 9, 12, 13)]), (method_7_code, [(0, 9, 12, 13)]), (method_8_code, [(0, 10, 13, 31), (0, 10, 17, 13)]), (method_9_code, [(0, 10, 13, 31), (0, 10, 17, 13)]), (method_10_code, [(0, 10, 13, 31), (0, 10, 17, 13)]), (method_11_code, [(0, 10, 13, 31)]), (method_12_code, [(0, 10, 13, 31)]), (method_13_code, [(0, 24, 27, 13)]), (method_14_code, [(0, 9, 12, 13)]), (method_15_code, [(0, 10, 13, 13)]), (method_16_code, [(0, 12, 15, 31), (0, 12, 19, 13)]), (method_17_code, [(0, 9, 12, 31)]), (method_18_code, [(0, 9, 12, 13)]), (method_19_code, [(0, 9, 12, 13)]), (method_20_code, [(0, 10, 13, 31)]), (method_21_code, [(0, 10, 13, 31)]), (method_22_code, [(0, 12, 15, 31), (0, 12, 19, 13)]), (method_23_code, [(0, 11, 14, 13)]), (method_24_code, [(0, 10, 13, 13)]), (method_25_code, [(0, 12, 15, 31), (0, 12, 19, 13)]), (method_26_code, [(0, 10, 13, 31), (0, 10, 17, 13)]), (method_27_code, [(0, 9, 12, 13)]), (method_28_code, [(0, 14, 17, 13)]), (method_29_code, [(0, 18, 21, 13)])]
def hhF (own : String) (cc : ByteArray) : List (Nat × Nat × Nat × Nat) := if own = "BeliefRiverLaw" then ((hhL.find? (fun q => decide (q.1 = cc))).map (fun q => q.2)).getD [] else []
theorem hhF_ne {own : String} {cc : ByteArray} (h : ¬ own = "BeliefRiverLaw") : hhF own cc = [] := if_neg h
def Cx (l : Launch) (s0 : State) (D : va_G) (cA : Nat → ClassId) (p : Program) (s : State) (m : MethodId) (args : Array Value) (meth : Method) (c : Code) (own : String) (cc : ByteArray) (nL : Nat) (rt : Option FieldType) : Prop :=
  p.tables.exec = Jvm.exec ∧ c.code = cc ∧ c.maxLocals = nL ∧ meth.sig.returnType = rt ∧ s.vm.findClass own = some m.cls ∧ (∀ w ∈ W0, w.before args s = true) ∧ meth.locks = false ∧ (c.exceptionTable.toList = tableOf (hhF own cc) ∧ (cc.data[1]? = some 183 → meth.name = "<init>")) ∧ s0.WarmedH s.vm ∧ GF l s0 D cA ∧ s0.heap.size ≤ s.heap.size ∧ (∀ q, q < s0.heap.size → s.heap[q]? = s0.heap[q]?)
def exN (k : Nat) : String := if k = 0 then "java/util/NoSuchElementException" else "java/lang/IllegalArgumentException"
def PoM (s0 : State) (D : va_G) (cA : Nat → ClassId) (adE : AD) (LE : AL) (M : Mem) (t : State) : Prop := ∃ (ad : AD) (L : AL), Ext adE LE ad L ∧ Rel s0 D cA ad L M t.heap
def noR : AV → Prop
  | .inr (.inr _) => False
  | _ => True
def QC (s0 : State) (D : va_G) (cA : Nat → ClassId) (adE : AD) (LE : AL) (o : Ou) (M : Mem) : Array Value → State → Outcome → State → Prop := fun _ st oc t =>
  (∃ v : Option AV, o = .inl v ∧ oc = .returned (v.map (cv adE)) ∧ ∀ w, v = some w → noR w) ∧ PoM s0 D cA adE LE M t ∧ va_F (Ab s0) st t
def XQ (s0 : State) (D : va_G) (cA : Nat → ClassId) (adE : AD) (LE : AL) (o : Ou) (M : Mem) : String → State → State → Prop := fun E st t =>
  (∃ k : Nat, o = .inr k ∧ E = exN k) ∧ PoM s0 D cA adE LE M t ∧ va_F (Ab s0) st t
/-- from pc on, with these locals, this stack and this memory, the method comes to the end o with the memory M' -/
def Xj (own : String) (cc : ByteArray) (nL : Nat) (rt : Option FieldType) (fr lo mc ms u v pc : Nat) (ls : List (Nat × AV)) (st : List AV) (M : Mem) (o : Ou) (M' : Mem) : Prop :=
  ∀ (l : Launch) (s0 : State) (D : va_G) (cA : Nat → ClassId) (p : Program) (e : Env) (s : State) (m : MethodId) (args : Array Value) (below : List Frame) (meth : Method) (c : Code), Cx l s0 D cA p s m args meth c own cc nL rt →
  ∀ (adE : AD) (LE : AL) (ad : AD) (L : AL) (H : Heap) (locs : List Loc) (lsA : Array Slot), Ext adE LE ad L → Rel s0 D cA ad L M H → okl L ls → oks L st → va_S (Ab s0) s.heap H locs → lv_has lsA nL (lsc ad ls) →
    W p l e { frames := fr, cells := mc, slots := ms, locals := lo } s m args below meth c H locs u v (vx_MQ below (QC s0 D cA adE LE o M') (XQ s0 D cA adE LE o M') args s mc ms (Ab s0)) (F0 m pc lsA (stc ad st))
/-- the method's contract: from the memory M with the arguments vs it comes to o with the memory M' -/
def Mt (y : MethodName) (cc : ByteArray) (nL : Nat) (rt : Option FieldType) (fr lo mc ms : Nat) (vs : List AV) (M : Mem) (o : Ou) (M' : Mem) : Prop :=
  ∀ (l : Launch) (s0 : State) (D : va_G) (cA : Nat → ClassId), GF l s0 D cA → ∀ (ad : AD) (L : AL), oks L vs →
    vx_Met l y (.code y cc nL rt :: W0) { frames := fr, cells := mc, slots := ms, locals := lo } (va_Pc (stc ad vs) (fun U => s0.WarmedH U.vm ∧ Rel s0 D cA ad L M U.heap)) (QC s0 D cA ad L o M') (XQ s0 D cA ad L o M') mc ms (Ab s0)
