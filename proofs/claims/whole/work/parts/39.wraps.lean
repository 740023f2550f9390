/-! ### the law: its wrappers, its one long -/
/-- a wrapper's answer: 0 and the answer put down, or the number of the handler -/
def wrapI (a b : Option Int32) (r : Option ((Int32 ⊕ Nat) × Mem)) : Option (Int32 × Mem) := match r with
  | some (.inl z, m) => some (0, wrL m 92 0 0 z.toInt64)
  | some (.inr 0, m) => a.map (fun x => (x, m))
  | some (.inr 1, m) => b.map (fun x => (x, m))
  | _ => none
def wrapL (a b : Option Int32) (r : Option ((Int64 ⊕ Nat) × Mem)) : Option (Int32 × Mem) := match r with
  | some (.inl z, m) => some (0, wrL m 92 0 0 z)
  | some (.inr 0, m) => a.map (fun x => (x, m))
  | some (.inr 1, m) => b.map (fun x => (x, m))
  | _ => none
theorem wrapI_some {a b : Option Int32} {r : Option ((Int32 ⊕ Nat) × Mem)} {z : Int32} {m : Mem} (h : wrapI a b r = some (z, m)) : (∃ z1 m1, r = some (.inl z1, m1) ∧ z = 0 ∧ m = wrL m1 92 0 0 z1.toInt64) ∨ (r = some (.inr 0, m) ∧ a = some z) ∨ (r = some (.inr 1, m) ∧ b = some z) := by
  unfold wrapI at h
  split at h
  · cases h
    exact Or.inl ⟨_, _, rfl, rfl, rfl⟩
  · obtain ⟨x, h1, h2⟩ := Option.map_eq_some_iff.mp h
    cases h2
    exact Or.inr (Or.inl ⟨rfl, h1⟩)
  · obtain ⟨x, h1, h2⟩ := Option.map_eq_some_iff.mp h
    cases h2
    exact Or.inr (Or.inr ⟨rfl, h1⟩)
  · cases h
theorem wrapL_some {a b : Option Int32} {r : Option ((Int64 ⊕ Nat) × Mem)} {z : Int32} {m : Mem} (h : wrapL a b r = some (z, m)) : (∃ z1 m1, r = some (.inl z1, m1) ∧ z = 0 ∧ m = wrL m1 92 0 0 z1) ∨ (r = some (.inr 0, m) ∧ a = some z) ∨ (r = some (.inr 1, m) ∧ b = some z) := by
  unfold wrapL at h
  split at h
  · cases h
    exact Or.inl ⟨_, _, rfl, rfl, rfl⟩
  · obtain ⟨x, h1, h2⟩ := Option.map_eq_some_iff.mp h
    cases h2
    exact Or.inr (Or.inl ⟨rfl, h1⟩)
  · obtain ⟨x, h1, h2⟩ := Option.map_eq_some_iff.mp h
    cases h2
    exact Or.inr (Or.inr ⟨rfl, h1⟩)
  · cases h
section XR
variable {own : String} {cc : ByteArray} {nL : Nat} {rt : Option FieldType} {fr lo mc ms u v pc : Nat} {ls : List (Nat × AV)} {st : List AV} {M : Mem} {o : Ou} {M' : Mem}
theorem xc_Hi {y : MethodName} {cc' : ByteArray} {nL' : Nat} {rt' : Option FieldType} {hh : List (Nat × Nat × Nat × Nat)} {fr' lo' mc' ms' idx n : Nat} {vs : List AV} {r : Int32} {M1 : Mem} (hM : MtH y cc' nL' rt' hh fr' lo' mc' ms' vs M (.inl (some (vI r))) M1) (hd : decode cc pc = .ok (.invokestatic idx, 3)) (hc : CSH own idx y cc' nL' rt' hh n) (hn : vs.length = n) {sk : List AV} (hsk : vs.reverse ++ st = sk) (hw : wgt st ≤ 8) (h1 : fr' + 1 ≤ fr) (h2 : 8 + (nL' + 11) + lo' ≤ lo) (h3 : u + mc' ≤ mc) (h4 : v + ms' ≤ ms)
    (kk : Xj own cc nL rt fr lo mc ms (u + mc') (v + ms') (pc + 3) ls (vI r :: st) M1 o M') : Xj own cc nL rt fr lo mc ms u v pc ls sk M o M' := xj_callH hM hd hc hn hsk hw h1 h2 h3 h4 kk
theorem xj_lald0 {z : Int64} (hd : decode cc pc = .ok (.laload, 1)) (hz : jL (M 92 0 0) (M 92 0 1) = z) (kk : Xj own cc nL rt fr lo mc ms u v (pc + 1) ls (vL z :: st) M o M') : Xj own cc nL rt fr lo mc ms u v pc ls (vI 0 :: vR 92 0 :: st) M o M' := by
  subst hz
  exact xj_lald hd rfl (by decide) (inb_in (by decide)) kk
theorem xj_last0 {z : Int64} (hd : decode cc pc = .ok (.lastore, 1)) (kk : Xj own cc nL rt fr lo mc ms u v (pc + 1) ls st (wrL M 92 0 0 z) o M') : Xj own cc nL rt fr lo mc ms u v pc ls (vL z :: vI 0 :: vR 92 0 :: st) M o M' :=
  xj_last (x := 0) hd rfl (by decide) (fun _ => rfl) (inb_in (by decide)) kk
end XR
theorem wt_0 : (Jvm.Cond.initialized "BeliefRiverLaw") ∈ W0 := W0_m (in_t1 (List.mem_of_getElem? (i := 0) rfl)) rfl
theorem wt_608 : (Jvm.Cond.methodLink "BeliefRiverLaw" (110 : Nat) ({ cls := "BeliefRiverLaw", name := "land", desc := "(LBeliefRiver;I[J)I" } : Jvm.MethodName)) ∈ W0 := W0_m (in_t3 (List.mem_of_getElem? (i := 128) rfl)) rfl
theorem wt_609 : (Jvm.Cond.static ({ cls := "BeliefRiverLaw", name := "land", desc := "(LBeliefRiver;I[J)I" } : Jvm.MethodName)) ∈ W0 := W0_m (in_t3 (List.mem_of_getElem? (i := 129) rfl)) rfl
theorem wt_610 : (Jvm.Cond.codeWith ({ cls := "BeliefRiverLaw", name := "land", desc := "(LBeliefRiver;I[J)I" } : Jvm.MethodName) method_3_code (4 : Nat) (Option.some Jvm.ClassFile.FieldType.int) [((0 : Nat), (9 : Nat), (12 : Nat), (13 : Nat))]) ∈ W0 := W0_m (in_t3 (List.mem_of_getElem? (i := 130) rfl)) rfl
theorem wt_862 : (Jvm.Cond.methodLink "BeliefRiverLaw" (120 : Nat) ({ cls := "BeliefRiverLaw", name := "law", desc := "(LBeliefRiver;I[J)I" } : Jvm.MethodName)) ∈ W0 := W0_m (in_t4 (List.mem_of_getElem? (i := 142) rfl)) rfl
theorem wt_863 : (Jvm.Cond.static ({ cls := "BeliefRiverLaw", name := "law", desc := "(LBeliefRiver;I[J)I" } : Jvm.MethodName)) ∈ W0 := W0_m (in_t4 (List.mem_of_getElem? (i := 143) rfl)) rfl
theorem wt_864 : (Jvm.Cond.codeWith ({ cls := "BeliefRiverLaw", name := "law", desc := "(LBeliefRiver;I[J)I" } : Jvm.MethodName) method_4_code (4 : Nat) (Option.some Jvm.ClassFile.FieldType.int) [((0 : Nat), (9 : Nat), (12 : Nat), (13 : Nat))]) ∈ W0 := W0_m (in_t4 (List.mem_of_getElem? (i := 144) rfl)) rfl
theorem wt_931 : (Jvm.Cond.methodLink "BeliefRiverLaw" (123 : Nat) ({ cls := "BeliefRiverLaw", name := "work", desc := "(LBeliefRiver;I[J)I" } : Jvm.MethodName)) ∈ W0 := W0_m (in_t4 (List.mem_of_getElem? (i := 211) rfl)) rfl
theorem wt_932 : (Jvm.Cond.static ({ cls := "BeliefRiverLaw", name := "work", desc := "(LBeliefRiver;I[J)I" } : Jvm.MethodName)) ∈ W0 := W0_m (in_t4 (List.mem_of_getElem? (i := 212) rfl)) rfl
theorem wt_933 : (Jvm.Cond.codeWith ({ cls := "BeliefRiverLaw", name := "work", desc := "(LBeliefRiver;I[J)I" } : Jvm.MethodName) method_5_code (4 : Nat) (Option.some Jvm.ClassFile.FieldType.int) [((0 : Nat), (9 : Nat), (12 : Nat), (13 : Nat))]) ∈ W0 := W0_m (in_t4 (List.mem_of_getElem? (i := 213) rfl)) rfl
theorem wt_1015 : (Jvm.Cond.methodLink "BeliefRiverLaw" (126 : Nat) ({ cls := "BeliefRiverLaw", name := "book", desc := "(LBeliefRiver;I[J)I" } : Jvm.MethodName)) ∈ W0 := W0_m (in_t5 (List.mem_of_getElem? (i := 55) rfl)) rfl
theorem wt_1016 : (Jvm.Cond.static ({ cls := "BeliefRiverLaw", name := "book", desc := "(LBeliefRiver;I[J)I" } : Jvm.MethodName)) ∈ W0 := W0_m (in_t5 (List.mem_of_getElem? (i := 56) rfl)) rfl
theorem wt_1017 : (Jvm.Cond.codeWith ({ cls := "BeliefRiverLaw", name := "book", desc := "(LBeliefRiver;I[J)I" } : Jvm.MethodName) method_6_code (4 : Nat) (Option.some Jvm.ClassFile.FieldType.int) [((0 : Nat), (9 : Nat), (12 : Nat), (13 : Nat))]) ∈ W0 := W0_m (in_t5 (List.mem_of_getElem? (i := 57) rfl)) rfl
theorem wt_1040 : (Jvm.Cond.methodLink "BeliefRiverLaw" (137 : Nat) ({ cls := "BeliefRiverLaw", name := "told", desc := "(LBeliefRiver;I[J)I" } : Jvm.MethodName)) ∈ W0 := W0_m (in_t5 (List.mem_of_getElem? (i := 80) rfl)) rfl
theorem wt_1041 : (Jvm.Cond.static ({ cls := "BeliefRiverLaw", name := "told", desc := "(LBeliefRiver;I[J)I" } : Jvm.MethodName)) ∈ W0 := W0_m (in_t5 (List.mem_of_getElem? (i := 81) rfl)) rfl
theorem wt_1042 : (Jvm.Cond.codeWith ({ cls := "BeliefRiverLaw", name := "told", desc := "(LBeliefRiver;I[J)I" } : Jvm.MethodName) method_7_code (4 : Nat) (Option.some Jvm.ClassFile.FieldType.int) [((0 : Nat), (9 : Nat), (12 : Nat), (13 : Nat))]) ∈ W0 := W0_m (in_t5 (List.mem_of_getElem? (i := 82) rfl)) rfl
theorem wt_1064 : (Jvm.Cond.methodLink "BeliefRiverLaw" (140 : Nat) ({ cls := "BeliefRiverLaw", name := "place", desc := "(LBeliefRiver;II[J)I" } : Jvm.MethodName)) ∈ W0 := W0_m (in_t5 (List.mem_of_getElem? (i := 104) rfl)) rfl
theorem wt_1065 : (Jvm.Cond.static ({ cls := "BeliefRiverLaw", name := "place", desc := "(LBeliefRiver;II[J)I" } : Jvm.MethodName)) ∈ W0 := W0_m (in_t5 (List.mem_of_getElem? (i := 105) rfl)) rfl
theorem wt_1066 : (Jvm.Cond.codeWith ({ cls := "BeliefRiverLaw", name := "place", desc := "(LBeliefRiver;II[J)I" } : Jvm.MethodName) method_8_code (5 : Nat) (Option.some Jvm.ClassFile.FieldType.int) [((0 : Nat), (10 : Nat), (13 : Nat), (31 : Nat)), ((0 : Nat), (10 : Nat), (17 : Nat), (13 : Nat))]) ∈ W0 := W0_m (in_t5 (List.mem_of_getElem? (i := 106) rfl)) rfl
theorem wt_1104 : (Jvm.Cond.methodLink "BeliefRiverLaw" (144 : Nat) ({ cls := "BeliefRiverLaw", name := "ditch", desc := "(LBeliefRiver;II[J)I" } : Jvm.MethodName)) ∈ W0 := W0_m (in_t5 (List.mem_of_getElem? (i := 144) rfl)) rfl
theorem wt_1105 : (Jvm.Cond.static ({ cls := "BeliefRiverLaw", name := "ditch", desc := "(LBeliefRiver;II[J)I" } : Jvm.MethodName)) ∈ W0 := W0_m (in_t5 (List.mem_of_getElem? (i := 145) rfl)) rfl
theorem wt_1106 : (Jvm.Cond.codeWith ({ cls := "BeliefRiverLaw", name := "ditch", desc := "(LBeliefRiver;II[J)I" } : Jvm.MethodName) method_9_code (5 : Nat) (Option.some Jvm.ClassFile.FieldType.int) [((0 : Nat), (10 : Nat), (13 : Nat), (31 : Nat)), ((0 : Nat), (10 : Nat), (17 : Nat), (13 : Nat))]) ∈ W0 := W0_m (in_t5 (List.mem_of_getElem? (i := 146) rfl)) rfl
theorem wt_1111 : (Jvm.Cond.methodLink "BeliefRiverLaw" (147 : Nat) ({ cls := "BeliefRiverLaw", name := "person", desc := "(LBeliefRiver;II[J)I" } : Jvm.MethodName)) ∈ W0 := W0_m (in_t5 (List.mem_of_getElem? (i := 151) rfl)) rfl
theorem wt_1112 : (Jvm.Cond.static ({ cls := "BeliefRiverLaw", name := "person", desc := "(LBeliefRiver;II[J)I" } : Jvm.MethodName)) ∈ W0 := W0_m (in_t5 (List.mem_of_getElem? (i := 152) rfl)) rfl
theorem wt_1113 : (Jvm.Cond.codeWith ({ cls := "BeliefRiverLaw", name := "person", desc := "(LBeliefRiver;II[J)I" } : Jvm.MethodName) method_10_code (5 : Nat) (Option.some Jvm.ClassFile.FieldType.int) [((0 : Nat), (10 : Nat), (13 : Nat), (31 : Nat)), ((0 : Nat), (10 : Nat), (17 : Nat), (13 : Nat))]) ∈ W0 := W0_m (in_t5 (List.mem_of_getElem? (i := 153) rfl)) rfl
theorem wt_1128 : (Jvm.Cond.methodLink "BeliefRiverLaw" (150 : Nat) ({ cls := "BeliefRiverLaw", name := "belief", desc := "(LBeliefRiver;II[J)I" } : Jvm.MethodName)) ∈ W0 := W0_m (in_t5 (List.mem_of_getElem? (i := 168) rfl)) rfl
theorem wt_1129 : (Jvm.Cond.static ({ cls := "BeliefRiverLaw", name := "belief", desc := "(LBeliefRiver;II[J)I" } : Jvm.MethodName)) ∈ W0 := W0_m (in_t5 (List.mem_of_getElem? (i := 169) rfl)) rfl
theorem wt_1130 : (Jvm.Cond.codeWith ({ cls := "BeliefRiverLaw", name := "belief", desc := "(LBeliefRiver;II[J)I" } : Jvm.MethodName) method_11_code (5 : Nat) (Option.some Jvm.ClassFile.FieldType.int) [((0 : Nat), (10 : Nat), (13 : Nat), (31 : Nat))]) ∈ W0 := W0_m (in_t5 (List.mem_of_getElem? (i := 170) rfl)) rfl
theorem wt_1135 : (Jvm.Cond.methodLink "BeliefRiverLaw" (153 : Nat) ({ cls := "BeliefRiverLaw", name := "pull", desc := "(LBeliefRiver;II[J)I" } : Jvm.MethodName)) ∈ W0 := W0_m (in_t5 (List.mem_of_getElem? (i := 175) rfl)) rfl
theorem wt_1136 : (Jvm.Cond.static ({ cls := "BeliefRiverLaw", name := "pull", desc := "(LBeliefRiver;II[J)I" } : Jvm.MethodName)) ∈ W0 := W0_m (in_t5 (List.mem_of_getElem? (i := 176) rfl)) rfl
theorem wt_1137 : (Jvm.Cond.codeWith ({ cls := "BeliefRiverLaw", name := "pull", desc := "(LBeliefRiver;II[J)I" } : Jvm.MethodName) method_12_code (5 : Nat) (Option.some Jvm.ClassFile.FieldType.int) [((0 : Nat), (10 : Nat), (13 : Nat), (31 : Nat))]) ∈ W0 := W0_m (in_t5 (List.mem_of_getElem? (i := 177) rfl)) rfl
theorem wt_1144 : (Jvm.Cond.methodLink "BeliefRiverLaw" (156 : Nat) ({ cls := "BeliefRiverLaw", name := "would", desc := "(LBeliefRiver;IIIIIIIII[J)I" } : Jvm.MethodName)) ∈ W0 := W0_m (in_t5 (List.mem_of_getElem? (i := 184) rfl)) rfl
theorem wt_1145 : (Jvm.Cond.static ({ cls := "BeliefRiverLaw", name := "would", desc := "(LBeliefRiver;IIIIIIIII[J)I" } : Jvm.MethodName)) ∈ W0 := W0_m (in_t5 (List.mem_of_getElem? (i := 185) rfl)) rfl
theorem wt_1146 : (Jvm.Cond.codeWith ({ cls := "BeliefRiverLaw", name := "would", desc := "(LBeliefRiver;IIIIIIIII[J)I" } : Jvm.MethodName) method_13_code (12 : Nat) (Option.some Jvm.ClassFile.FieldType.int) [((0 : Nat), (24 : Nat), (27 : Nat), (13 : Nat))]) ∈ W0 := W0_m (in_t5 (List.mem_of_getElem? (i := 186) rfl)) rfl
theorem wt_1152 : (Jvm.Cond.methodLink "BeliefRiverLaw" (160 : Nat) ({ cls := "BeliefRiverLaw", name := "course", desc := "(LBeliefRiver;I[J)I" } : Jvm.MethodName)) ∈ W0 := W0_m (in_t5 (List.mem_of_getElem? (i := 192) rfl)) rfl
theorem wt_1153 : (Jvm.Cond.static ({ cls := "BeliefRiverLaw", name := "course", desc := "(LBeliefRiver;I[J)I" } : Jvm.MethodName)) ∈ W0 := W0_m (in_t5 (List.mem_of_getElem? (i := 193) rfl)) rfl
theorem wt_1154 : (Jvm.Cond.codeWith ({ cls := "BeliefRiverLaw", name := "course", desc := "(LBeliefRiver;I[J)I" } : Jvm.MethodName) method_14_code (4 : Nat) (Option.some Jvm.ClassFile.FieldType.int) [((0 : Nat), (9 : Nat), (12 : Nat), (13 : Nat))]) ∈ W0 := W0_m (in_t5 (List.mem_of_getElem? (i := 194) rfl)) rfl
theorem wt_1159 : (Jvm.Cond.methodLink "BeliefRiverLaw" (163 : Nat) ({ cls := "BeliefRiverLaw", name := "ahead", desc := "(LBeliefRiver;II[J)I" } : Jvm.MethodName)) ∈ W0 := W0_m (in_t5 (List.mem_of_getElem? (i := 199) rfl)) rfl
theorem wt_1160 : (Jvm.Cond.static ({ cls := "BeliefRiverLaw", name := "ahead", desc := "(LBeliefRiver;II[J)I" } : Jvm.MethodName)) ∈ W0 := W0_m (in_t5 (List.mem_of_getElem? (i := 200) rfl)) rfl
theorem wt_1161 : (Jvm.Cond.codeWith ({ cls := "BeliefRiverLaw", name := "ahead", desc := "(LBeliefRiver;II[J)I" } : Jvm.MethodName) method_15_code (5 : Nat) (Option.some Jvm.ClassFile.FieldType.int) [((0 : Nat), (10 : Nat), (13 : Nat), (13 : Nat))]) ∈ W0 := W0_m (in_t5 (List.mem_of_getElem? (i := 201) rfl)) rfl
theorem wt_1170 : (Jvm.Cond.methodLink "BeliefRiverLaw" (170 : Nat) ({ cls := "BeliefRiverLaw", name := "tellings", desc := "(LBeliefRiver;III[J)I" } : Jvm.MethodName)) ∈ W0 := W0_m (in_t5 (List.mem_of_getElem? (i := 210) rfl)) rfl
theorem wt_1171 : (Jvm.Cond.static ({ cls := "BeliefRiverLaw", name := "tellings", desc := "(LBeliefRiver;III[J)I" } : Jvm.MethodName)) ∈ W0 := W0_m (in_t5 (List.mem_of_getElem? (i := 211) rfl)) rfl
theorem wt_1172 : (Jvm.Cond.codeWith ({ cls := "BeliefRiverLaw", name := "tellings", desc := "(LBeliefRiver;III[J)I" } : Jvm.MethodName) method_16_code (6 : Nat) (Option.some Jvm.ClassFile.FieldType.int) [((0 : Nat), (12 : Nat), (15 : Nat), (31 : Nat)), ((0 : Nat), (12 : Nat), (19 : Nat), (13 : Nat))]) ∈ W0 := W0_m (in_t5 (List.mem_of_getElem? (i := 212) rfl)) rfl
theorem wt_1200 : (Jvm.Cond.methodLink "BeliefRiverLaw" (174 : Nat) ({ cls := "BeliefRiverLaw", name := "silence", desc := "(LBeliefRiver;I[J)I" } : Jvm.MethodName)) ∈ W0 := W0_m (in_t6 (List.mem_of_getElem? (i := 0) rfl)) rfl
theorem wt_1201 : (Jvm.Cond.static ({ cls := "BeliefRiverLaw", name := "silence", desc := "(LBeliefRiver;I[J)I" } : Jvm.MethodName)) ∈ W0 := W0_m (in_t6 (List.mem_of_getElem? (i := 1) rfl)) rfl
theorem wt_1202 : (Jvm.Cond.codeWith ({ cls := "BeliefRiverLaw", name := "silence", desc := "(LBeliefRiver;I[J)I" } : Jvm.MethodName) method_17_code (4 : Nat) (Option.some Jvm.ClassFile.FieldType.int) [((0 : Nat), (9 : Nat), (12 : Nat), (31 : Nat))]) ∈ W0 := W0_m (in_t6 (List.mem_of_getElem? (i := 2) rfl)) rfl
theorem wt_1224 : (Jvm.Cond.methodLink "BeliefRiverLaw" (177 : Nat) ({ cls := "BeliefRiverLaw", name := "who", desc := "(LBeliefRiver;I[J)I" } : Jvm.MethodName)) ∈ W0 := W0_m (in_t6 (List.mem_of_getElem? (i := 24) rfl)) rfl
theorem wt_1225 : (Jvm.Cond.static ({ cls := "BeliefRiverLaw", name := "who", desc := "(LBeliefRiver;I[J)I" } : Jvm.MethodName)) ∈ W0 := W0_m (in_t6 (List.mem_of_getElem? (i := 25) rfl)) rfl
theorem wt_1226 : (Jvm.Cond.codeWith ({ cls := "BeliefRiverLaw", name := "who", desc := "(LBeliefRiver;I[J)I" } : Jvm.MethodName) method_18_code (4 : Nat) (Option.some Jvm.ClassFile.FieldType.int) [((0 : Nat), (9 : Nat), (12 : Nat), (13 : Nat))]) ∈ W0 := W0_m (in_t6 (List.mem_of_getElem? (i := 26) rfl)) rfl
theorem wt_1239 : (Jvm.Cond.methodLink "BeliefRiverLaw" (180 : Nat) ({ cls := "BeliefRiverLaw", name := "look", desc := "(LBeliefRiver;I[J)I" } : Jvm.MethodName)) ∈ W0 := W0_m (in_t6 (List.mem_of_getElem? (i := 39) rfl)) rfl
theorem wt_1240 : (Jvm.Cond.static ({ cls := "BeliefRiverLaw", name := "look", desc := "(LBeliefRiver;I[J)I" } : Jvm.MethodName)) ∈ W0 := W0_m (in_t6 (List.mem_of_getElem? (i := 40) rfl)) rfl
theorem wt_1241 : (Jvm.Cond.codeWith ({ cls := "BeliefRiverLaw", name := "look", desc := "(LBeliefRiver;I[J)I" } : Jvm.MethodName) method_19_code (4 : Nat) (Option.some Jvm.ClassFile.FieldType.int) [((0 : Nat), (9 : Nat), (12 : Nat), (13 : Nat))]) ∈ W0 := W0_m (in_t6 (List.mem_of_getElem? (i := 41) rfl)) rfl
theorem wt_1261 : (Jvm.Cond.methodLink "BeliefRiverLaw" (183 : Nat) ({ cls := "BeliefRiverLaw", name := "digs", desc := "(LBeliefRiver;II[J)I" } : Jvm.MethodName)) ∈ W0 := W0_m (in_t6 (List.mem_of_getElem? (i := 61) rfl)) rfl
theorem wt_1262 : (Jvm.Cond.static ({ cls := "BeliefRiverLaw", name := "digs", desc := "(LBeliefRiver;II[J)I" } : Jvm.MethodName)) ∈ W0 := W0_m (in_t6 (List.mem_of_getElem? (i := 62) rfl)) rfl
theorem wt_1263 : (Jvm.Cond.codeWith ({ cls := "BeliefRiverLaw", name := "digs", desc := "(LBeliefRiver;II[J)I" } : Jvm.MethodName) method_20_code (5 : Nat) (Option.some Jvm.ClassFile.FieldType.int) [((0 : Nat), (10 : Nat), (13 : Nat), (31 : Nat))]) ∈ W0 := W0_m (in_t6 (List.mem_of_getElem? (i := 63) rfl)) rfl
theorem wt_1272 : (Jvm.Cond.methodLink "BeliefRiverLaw" (186 : Nat) ({ cls := "BeliefRiverLaw", name := "way", desc := "(LBeliefRiver;II[J)I" } : Jvm.MethodName)) ∈ W0 := W0_m (in_t6 (List.mem_of_getElem? (i := 72) rfl)) rfl
theorem wt_1273 : (Jvm.Cond.static ({ cls := "BeliefRiverLaw", name := "way", desc := "(LBeliefRiver;II[J)I" } : Jvm.MethodName)) ∈ W0 := W0_m (in_t6 (List.mem_of_getElem? (i := 73) rfl)) rfl
theorem wt_1274 : (Jvm.Cond.codeWith ({ cls := "BeliefRiverLaw", name := "way", desc := "(LBeliefRiver;II[J)I" } : Jvm.MethodName) method_21_code (5 : Nat) (Option.some Jvm.ClassFile.FieldType.int) [((0 : Nat), (10 : Nat), (13 : Nat), (31 : Nat))]) ∈ W0 := W0_m (in_t6 (List.mem_of_getElem? (i := 74) rfl)) rfl
theorem wt_1284 : (Jvm.Cond.methodLink "BeliefRiverLaw" (189 : Nat) ({ cls := "BeliefRiverLaw", name := "meet", desc := "(LBeliefRiver;III[J)I" } : Jvm.MethodName)) ∈ W0 := W0_m (in_t6 (List.mem_of_getElem? (i := 84) rfl)) rfl
theorem wt_1285 : (Jvm.Cond.static ({ cls := "BeliefRiverLaw", name := "meet", desc := "(LBeliefRiver;III[J)I" } : Jvm.MethodName)) ∈ W0 := W0_m (in_t6 (List.mem_of_getElem? (i := 85) rfl)) rfl
theorem wt_1286 : (Jvm.Cond.codeWith ({ cls := "BeliefRiverLaw", name := "meet", desc := "(LBeliefRiver;III[J)I" } : Jvm.MethodName) method_22_code (6 : Nat) (Option.some Jvm.ClassFile.FieldType.int) [((0 : Nat), (12 : Nat), (15 : Nat), (31 : Nat)), ((0 : Nat), (12 : Nat), (19 : Nat), (13 : Nat))]) ∈ W0 := W0_m (in_t6 (List.mem_of_getElem? (i := 86) rfl)) rfl
theorem wt_1291 : (Jvm.Cond.methodLink "BeliefRiverLaw" (196 : Nat) ({ cls := "BeliefRiverLaw", name := "seen", desc := "(LBeliefRiver;III[J)I" } : Jvm.MethodName)) ∈ W0 := W0_m (in_t6 (List.mem_of_getElem? (i := 91) rfl)) rfl
theorem wt_1292 : (Jvm.Cond.static ({ cls := "BeliefRiverLaw", name := "seen", desc := "(LBeliefRiver;III[J)I" } : Jvm.MethodName)) ∈ W0 := W0_m (in_t6 (List.mem_of_getElem? (i := 92) rfl)) rfl
theorem wt_1293 : (Jvm.Cond.codeWith ({ cls := "BeliefRiverLaw", name := "seen", desc := "(LBeliefRiver;III[J)I" } : Jvm.MethodName) method_23_code (6 : Nat) (Option.some Jvm.ClassFile.FieldType.int) [((0 : Nat), (11 : Nat), (14 : Nat), (13 : Nat))]) ∈ W0 := W0_m (in_t6 (List.mem_of_getElem? (i := 93) rfl)) rfl
theorem wt_1303 : (Jvm.Cond.methodLink "BeliefRiverLaw" (199 : Nat) ({ cls := "BeliefRiverLaw", name := "leaders", desc := "(LBeliefRiver;II[J)I" } : Jvm.MethodName)) ∈ W0 := W0_m (in_t6 (List.mem_of_getElem? (i := 103) rfl)) rfl
theorem wt_1304 : (Jvm.Cond.static ({ cls := "BeliefRiverLaw", name := "leaders", desc := "(LBeliefRiver;II[J)I" } : Jvm.MethodName)) ∈ W0 := W0_m (in_t6 (List.mem_of_getElem? (i := 104) rfl)) rfl
theorem wt_1305 : (Jvm.Cond.codeWith ({ cls := "BeliefRiverLaw", name := "leaders", desc := "(LBeliefRiver;II[J)I" } : Jvm.MethodName) method_24_code (5 : Nat) (Option.some Jvm.ClassFile.FieldType.int) [((0 : Nat), (10 : Nat), (13 : Nat), (13 : Nat))]) ∈ W0 := W0_m (in_t6 (List.mem_of_getElem? (i := 105) rfl)) rfl
theorem wt_1334 : (Jvm.Cond.methodLink "BeliefRiverLaw" (202 : Nat) ({ cls := "BeliefRiverLaw", name := "share", desc := "(LBeliefRiver;III[J)I" } : Jvm.MethodName)) ∈ W0 := W0_m (in_t6 (List.mem_of_getElem? (i := 134) rfl)) rfl
theorem wt_1335 : (Jvm.Cond.static ({ cls := "BeliefRiverLaw", name := "share", desc := "(LBeliefRiver;III[J)I" } : Jvm.MethodName)) ∈ W0 := W0_m (in_t6 (List.mem_of_getElem? (i := 135) rfl)) rfl
theorem wt_1336 : (Jvm.Cond.codeWith ({ cls := "BeliefRiverLaw", name := "share", desc := "(LBeliefRiver;III[J)I" } : Jvm.MethodName) method_25_code (6 : Nat) (Option.some Jvm.ClassFile.FieldType.int) [((0 : Nat), (12 : Nat), (15 : Nat), (31 : Nat)), ((0 : Nat), (12 : Nat), (19 : Nat), (13 : Nat))]) ∈ W0 := W0_m (in_t6 (List.mem_of_getElem? (i := 136) rfl)) rfl
theorem wt_1345 : (Jvm.Cond.methodLink "BeliefRiverLaw" (205 : Nat) ({ cls := "BeliefRiverLaw", name := "right", desc := "(LBeliefRiver;II[J)I" } : Jvm.MethodName)) ∈ W0 := W0_m (in_t6 (List.mem_of_getElem? (i := 145) rfl)) rfl
theorem wt_1346 : (Jvm.Cond.static ({ cls := "BeliefRiverLaw", name := "right", desc := "(LBeliefRiver;II[J)I" } : Jvm.MethodName)) ∈ W0 := W0_m (in_t6 (List.mem_of_getElem? (i := 146) rfl)) rfl
theorem wt_1347 : (Jvm.Cond.codeWith ({ cls := "BeliefRiverLaw", name := "right", desc := "(LBeliefRiver;II[J)I" } : Jvm.MethodName) method_26_code (5 : Nat) (Option.some Jvm.ClassFile.FieldType.int) [((0 : Nat), (10 : Nat), (13 : Nat), (31 : Nat)), ((0 : Nat), (10 : Nat), (17 : Nat), (13 : Nat))]) ∈ W0 := W0_m (in_t6 (List.mem_of_getElem? (i := 147) rfl)) rfl
theorem wt_1352 : (Jvm.Cond.methodLink "BeliefRiverLaw" (208 : Nat) ({ cls := "BeliefRiverLaw", name := "blank", desc := "(LBeliefRiver;I[J)I" } : Jvm.MethodName)) ∈ W0 := W0_m (in_t6 (List.mem_of_getElem? (i := 152) rfl)) rfl
theorem wt_1353 : (Jvm.Cond.static ({ cls := "BeliefRiverLaw", name := "blank", desc := "(LBeliefRiver;I[J)I" } : Jvm.MethodName)) ∈ W0 := W0_m (in_t6 (List.mem_of_getElem? (i := 153) rfl)) rfl
theorem wt_1354 : (Jvm.Cond.codeWith ({ cls := "BeliefRiverLaw", name := "blank", desc := "(LBeliefRiver;I[J)I" } : Jvm.MethodName) method_27_code (4 : Nat) (Option.some Jvm.ClassFile.FieldType.int) [((0 : Nat), (9 : Nat), (12 : Nat), (13 : Nat))]) ∈ W0 := W0_m (in_t6 (List.mem_of_getElem? (i := 154) rfl)) rfl
theorem wt_1359 : (Jvm.Cond.methodLink "BeliefRiverLaw" (215 : Nat) ({ cls := "BeliefRiverLaw", name := "year", desc := "(LBeliefRiver;IIII[J)I" } : Jvm.MethodName)) ∈ W0 := W0_m (in_t6 (List.mem_of_getElem? (i := 159) rfl)) rfl
theorem wt_1360 : (Jvm.Cond.static ({ cls := "BeliefRiverLaw", name := "year", desc := "(LBeliefRiver;IIII[J)I" } : Jvm.MethodName)) ∈ W0 := W0_m (in_t6 (List.mem_of_getElem? (i := 160) rfl)) rfl
theorem wt_1361 : (Jvm.Cond.codeWith ({ cls := "BeliefRiverLaw", name := "year", desc := "(LBeliefRiver;IIII[J)I" } : Jvm.MethodName) method_28_code (7 : Nat) (Option.some Jvm.ClassFile.FieldType.int) [((0 : Nat), (14 : Nat), (17 : Nat), (13 : Nat))]) ∈ W0 := W0_m (in_t6 (List.mem_of_getElem? (i := 161) rfl)) rfl
theorem wt_1384 : (Jvm.Cond.methodLink "BeliefRiverLaw" (219 : Nat) ({ cls := "BeliefRiverLaw", name := "span", desc := "(LBeliefRiver;IIIIII[J)I" } : Jvm.MethodName)) ∈ W0 := W0_m (in_t6 (List.mem_of_getElem? (i := 184) rfl)) rfl
theorem wt_1385 : (Jvm.Cond.static ({ cls := "BeliefRiverLaw", name := "span", desc := "(LBeliefRiver;IIIIII[J)I" } : Jvm.MethodName)) ∈ W0 := W0_m (in_t6 (List.mem_of_getElem? (i := 185) rfl)) rfl
theorem wt_1386 : (Jvm.Cond.codeWith ({ cls := "BeliefRiverLaw", name := "span", desc := "(LBeliefRiver;IIIIII[J)I" } : Jvm.MethodName) method_29_code (9 : Nat) (Option.some Jvm.ClassFile.FieldType.int) [((0 : Nat), (18 : Nat), (21 : Nat), (13 : Nat))]) ∈ W0 := W0_m (in_t6 (List.mem_of_getElem? (i := 186) rfl)) rfl
theorem ch_110 : CSH RL 110 yL_land cL_land 4 (some .int) [(0, 9, 12, 13)] 3 := ⟨wt_608, wt_609, wt_0, wt_610, by decide, by decide, by decide +kernel⟩
theorem dL_land_0 : decode cL_land 0 = .ok (.aload_n 2, 1) := by decide +kernel
theorem dL_land_1 : decode cL_land 1 = .ok (.iconst 0, 1) := by decide +kernel
theorem dL_land_2 : decode cL_land 2 = .ok (.aload_n 0, 1) := by decide +kernel
theorem dL_land_3 : decode cL_land 3 = .ok (.iload_n 1, 1) := by decide +kernel
theorem dL_land_4 : decode cL_land 4 = .ok (.invokevirtual 7, 3) := by decide +kernel
theorem dL_land_7 : decode cL_land 7 = .ok (.i2l, 1) := by decide +kernel
theorem dL_land_8 : decode cL_land 8 = .ok (.lastore, 1) := by decide +kernel
theorem dL_land_9 : decode cL_land 9 = .ok (.goto 6, 3) := by decide +kernel
theorem dL_land_12 : decode cL_land 12 = .ok (.astore_n 3, 1) := by decide +kernel
theorem dL_land_13 : decode cL_land 13 = .ok (.iconst 1, 1) := by decide +kernel
theorem dL_land_14 : decode cL_land 14 = .ok (.ireturn, 1) := by decide +kernel
theorem dL_land_15 : decode cL_land 15 = .ok (.iconst 0, 1) := by decide +kernel
theorem dL_land_16 : decode cL_land 16 = .ok (.ireturn, 1) := by decide +kernel
noncomputable def r_L_land (x1 : Int32) (m : Mem) : Option (Int32 × Mem) := wrapI none (some 1) (r_X11_land x1 m)
set_option maxHeartbeats 4000000 in
theorem ok_L_land (x1 : Int32) (m : Mem) {z : Int32} {m' : Mem} (h : r_L_land x1 m = some (z, m')) : MtH yL_land cL_land 4 (some .int) [(0, 9, 12, 13)] 10 194 1 6 [vR 11 0, vI x1, vR 92 0] m (.inl (some (vI z))) m' := by
  refine MtH.of (by decide) (Nat.le_of_ble_eq_true rfl) (by decide +kernel) (by decide +kernel) ?_
  show Xj RL cL_land 4 (some .int) 10 194 1 6 0 0 0 [(0, vR 11 0), (1, vI x1), (2, vR 92 0)] [] m (.inl (some (vI z))) m'
  unfold r_L_land at h
  refine xj_aload_n 2 dL_land_0 rfl ?_
  refine xj_iconst (z := 0) dL_land_1 (by decide) ?_
  refine xj_aload_n 0 dL_land_2 rfl ?_
  refine xj_iload_n 1 dL_land_3 rfl ?_
  rcases wrapI_some h with ⟨z1, m1, e1, rfl, rfl⟩ | ⟨e1, ha⟩ | ⟨e1, ha⟩
  · refine xc_Vi (st := [vI 0, vR 92 0]) (ok_X11_land x1 m e1) dL_land_4 cv_L_7 rfl rfl (Nat.le_of_ble_eq_true rfl) (by decide) (by decide) (by decide) (by decide) ?_
    refine xj_i2l dL_land_7 ?_
    refine xj_last0 dL_land_8 ?_
    refine xj_goto (tgt := 15) dL_land_9 (by decide) ?_
    refine xj_iconst (z := 0) dL_land_15 (by decide) ?_
    exact xj_ireturn dL_land_16 rfl (by decide) (by decide)
  · cases ha
  · cases ha
    refine xj_callVc (st := [vI 0, vR 92 0]) (h := 12) (h' := 13) (ok_X11_land x1 m e1) dL_land_4 cv_L_7 rfl rfl (Nat.le_of_ble_eq_true rfl) (by decide) (by decide) (by decide) (by decide) (Or.inl ⟨9, 13, [], by decide +kernel, by decide, by decide, by decide, wt_611⟩) (Or.inl ⟨3, dL_land_12, by decide, rfl⟩) ?_
    refine xj_iconst (z := 1) dL_land_13 (by decide) ?_
    exact xj_ireturn dL_land_14 rfl (by decide) (by decide)
theorem ch_120 : CSH RL 120 yL_law cL_law 4 (some .int) [(0, 9, 12, 13)] 3 := ⟨wt_862, wt_863, wt_0, wt_864, by decide, by decide, by decide +kernel⟩
theorem dL_law_0 : decode cL_law 0 = .ok (.aload_n 2, 1) := by decide +kernel
theorem dL_law_1 : decode cL_law 1 = .ok (.iconst 0, 1) := by decide +kernel
theorem dL_law_2 : decode cL_law 2 = .ok (.aload_n 0, 1) := by decide +kernel
theorem dL_law_3 : decode cL_law 3 = .ok (.iload_n 1, 1) := by decide +kernel
theorem dL_law_4 : decode cL_law 4 = .ok (.invokevirtual 15, 3) := by decide +kernel
theorem dL_law_7 : decode cL_law 7 = .ok (.i2l, 1) := by decide +kernel
theorem dL_law_8 : decode cL_law 8 = .ok (.lastore, 1) := by decide +kernel
theorem dL_law_9 : decode cL_law 9 = .ok (.goto 6, 3) := by decide +kernel
theorem dL_law_12 : decode cL_law 12 = .ok (.astore_n 3, 1) := by decide +kernel
theorem dL_law_13 : decode cL_law 13 = .ok (.iconst 1, 1) := by decide +kernel
theorem dL_law_14 : decode cL_law 14 = .ok (.ireturn, 1) := by decide +kernel
theorem dL_law_15 : decode cL_law 15 = .ok (.iconst 0, 1) := by decide +kernel
theorem dL_law_16 : decode cL_law 16 = .ok (.ireturn, 1) := by decide +kernel
noncomputable def r_L_law (x1 : Int32) (m : Mem) : Option (Int32 × Mem) := wrapI none (some 1) (r_X11_law x1 m)
set_option maxHeartbeats 4000000 in
theorem ok_L_law (x1 : Int32) (m : Mem) {z : Int32} {m' : Mem} (h : r_L_law x1 m = some (z, m')) : MtH yL_law cL_law 4 (some .int) [(0, 9, 12, 13)] 42 962 1 6 [vR 11 0, vI x1, vR 92 0] m (.inl (some (vI z))) m' := by
  refine MtH.of (by decide) (Nat.le_of_ble_eq_true rfl) (by decide +kernel) (by decide +kernel) ?_
  show Xj RL cL_law 4 (some .int) 42 962 1 6 0 0 0 [(0, vR 11 0), (1, vI x1), (2, vR 92 0)] [] m (.inl (some (vI z))) m'
  unfold r_L_law at h
  refine xj_aload_n 2 dL_law_0 rfl ?_
  refine xj_iconst (z := 0) dL_law_1 (by decide) ?_
  refine xj_aload_n 0 dL_law_2 rfl ?_
  refine xj_iload_n 1 dL_law_3 rfl ?_
  rcases wrapI_some h with ⟨z1, m1, e1, rfl, rfl⟩ | ⟨e1, ha⟩ | ⟨e1, ha⟩
  · refine xc_Vi (st := [vI 0, vR 92 0]) (ok_X11_law x1 m e1) dL_law_4 cv_L_15 rfl rfl (Nat.le_of_ble_eq_true rfl) (by decide) (by decide) (by decide) (by decide) ?_
    refine xj_i2l dL_law_7 ?_
    refine xj_last0 dL_law_8 ?_
    refine xj_goto (tgt := 15) dL_law_9 (by decide) ?_
    refine xj_iconst (z := 0) dL_law_15 (by decide) ?_
    exact xj_ireturn dL_law_16 rfl (by decide) (by decide)
  · cases ha
  · cases ha
    refine xj_callVc (st := [vI 0, vR 92 0]) (h := 12) (h' := 13) (ok_X11_law x1 m e1) dL_law_4 cv_L_15 rfl rfl (Nat.le_of_ble_eq_true rfl) (by decide) (by decide) (by decide) (by decide) (Or.inl ⟨9, 13, [], by decide +kernel, by decide, by decide, by decide, wt_611⟩) (Or.inl ⟨3, dL_law_12, by decide, rfl⟩) ?_
    refine xj_iconst (z := 1) dL_law_13 (by decide) ?_
    exact xj_ireturn dL_law_14 rfl (by decide) (by decide)
theorem ch_123 : CSH RL 123 yL_work cL_work 4 (some .int) [(0, 9, 12, 13)] 3 := ⟨wt_931, wt_932, wt_0, wt_933, by decide, by decide, by decide +kernel⟩
theorem dL_work_0 : decode cL_work 0 = .ok (.aload_n 2, 1) := by decide +kernel
theorem dL_work_1 : decode cL_work 1 = .ok (.iconst 0, 1) := by decide +kernel
theorem dL_work_2 : decode cL_work 2 = .ok (.aload_n 0, 1) := by decide +kernel
theorem dL_work_3 : decode cL_work 3 = .ok (.iload_n 1, 1) := by decide +kernel
theorem dL_work_4 : decode cL_work 4 = .ok (.invokevirtual 18, 3) := by decide +kernel
theorem dL_work_7 : decode cL_work 7 = .ok (.i2l, 1) := by decide +kernel
theorem dL_work_8 : decode cL_work 8 = .ok (.lastore, 1) := by decide +kernel
theorem dL_work_9 : decode cL_work 9 = .ok (.goto 6, 3) := by decide +kernel
theorem dL_work_12 : decode cL_work 12 = .ok (.astore_n 3, 1) := by decide +kernel
theorem dL_work_13 : decode cL_work 13 = .ok (.iconst 1, 1) := by decide +kernel
theorem dL_work_14 : decode cL_work 14 = .ok (.ireturn, 1) := by decide +kernel
theorem dL_work_15 : decode cL_work 15 = .ok (.iconst 0, 1) := by decide +kernel
theorem dL_work_16 : decode cL_work 16 = .ok (.ireturn, 1) := by decide +kernel
noncomputable def r_L_work (x1 : Int32) (m : Mem) : Option (Int32 × Mem) := wrapI none (some 1) (r_X11_work x1 m)
set_option maxHeartbeats 4000000 in
theorem ok_L_work (x1 : Int32) (m : Mem) {z : Int32} {m' : Mem} (h : r_L_work x1 m = some (z, m')) : MtH yL_work cL_work 4 (some .int) [(0, 9, 12, 13)] 34 770 7 157 [vR 11 0, vI x1, vR 92 0] m (.inl (some (vI z))) m' := by
  refine MtH.of (by decide) (Nat.le_of_ble_eq_true rfl) (by decide +kernel) (by decide +kernel) ?_
  show Xj RL cL_work 4 (some .int) 34 770 7 157 0 0 0 [(0, vR 11 0), (1, vI x1), (2, vR 92 0)] [] m (.inl (some (vI z))) m'
  unfold r_L_work at h
  refine xj_aload_n 2 dL_work_0 rfl ?_
  refine xj_iconst (z := 0) dL_work_1 (by decide) ?_
  refine xj_aload_n 0 dL_work_2 rfl ?_
  refine xj_iload_n 1 dL_work_3 rfl ?_
  rcases wrapI_some h with ⟨z1, m1, e1, rfl, rfl⟩ | ⟨e1, ha⟩ | ⟨e1, ha⟩
  · refine xc_Vi (st := [vI 0, vR 92 0]) (ok_X11_work x1 m e1) dL_work_4 cv_L_18 rfl rfl (Nat.le_of_ble_eq_true rfl) (by decide) (by decide) (by decide) (by decide) ?_
    refine xj_i2l dL_work_7 ?_
    refine xj_last0 dL_work_8 ?_
    refine xj_goto (tgt := 15) dL_work_9 (by decide) ?_
    refine xj_iconst (z := 0) dL_work_15 (by decide) ?_
    exact xj_ireturn dL_work_16 rfl (by decide) (by decide)
  · cases ha
  · cases ha
    refine xj_callVc (st := [vI 0, vR 92 0]) (h := 12) (h' := 13) (ok_X11_work x1 m e1) dL_work_4 cv_L_18 rfl rfl (Nat.le_of_ble_eq_true rfl) (by decide) (by decide) (by decide) (by decide) (Or.inl ⟨9, 13, [], by decide +kernel, by decide, by decide, by decide, wt_611⟩) (Or.inl ⟨3, dL_work_12, by decide, rfl⟩) ?_
    refine xj_iconst (z := 1) dL_work_13 (by decide) ?_
    exact xj_ireturn dL_work_14 rfl (by decide) (by decide)
theorem ch_126 : CSH RL 126 yL_book cL_book 4 (some .int) [(0, 9, 12, 13)] 3 := ⟨wt_1015, wt_1016, wt_0, wt_1017, by decide, by decide, by decide +kernel⟩
theorem dL_book_0 : decode cL_book 0 = .ok (.aload_n 2, 1) := by decide +kernel
theorem dL_book_1 : decode cL_book 1 = .ok (.iconst 0, 1) := by decide +kernel
theorem dL_book_2 : decode cL_book 2 = .ok (.aload_n 0, 1) := by decide +kernel
theorem dL_book_3 : decode cL_book 3 = .ok (.iload_n 1, 1) := by decide +kernel
theorem dL_book_4 : decode cL_book 4 = .ok (.invokevirtual 21, 3) := by decide +kernel
theorem dL_book_7 : decode cL_book 7 = .ok (.i2l, 1) := by decide +kernel
theorem dL_book_8 : decode cL_book 8 = .ok (.lastore, 1) := by decide +kernel
theorem dL_book_9 : decode cL_book 9 = .ok (.goto 6, 3) := by decide +kernel
theorem dL_book_12 : decode cL_book 12 = .ok (.astore_n 3, 1) := by decide +kernel
theorem dL_book_13 : decode cL_book 13 = .ok (.iconst 1, 1) := by decide +kernel
theorem dL_book_14 : decode cL_book 14 = .ok (.ireturn, 1) := by decide +kernel
theorem dL_book_15 : decode cL_book 15 = .ok (.iconst 0, 1) := by decide +kernel
theorem dL_book_16 : decode cL_book 16 = .ok (.ireturn, 1) := by decide +kernel
noncomputable def r_L_book (x1 : Int32) (m : Mem) : Option (Int32 × Mem) := wrapI none (some 1) (r_X11_book x1 m)
set_option maxHeartbeats 4000000 in
theorem ok_L_book (x1 : Int32) (m : Mem) {z : Int32} {m' : Mem} (h : r_L_book x1 m = some (z, m')) : MtH yL_book cL_book 4 (some .int) [(0, 9, 12, 13)] 10 177 1 6 [vR 11 0, vI x1, vR 92 0] m (.inl (some (vI z))) m' := by
  refine MtH.of (by decide) (Nat.le_of_ble_eq_true rfl) (by decide +kernel) (by decide +kernel) ?_
  show Xj RL cL_book 4 (some .int) 10 177 1 6 0 0 0 [(0, vR 11 0), (1, vI x1), (2, vR 92 0)] [] m (.inl (some (vI z))) m'
  unfold r_L_book at h
  refine xj_aload_n 2 dL_book_0 rfl ?_
  refine xj_iconst (z := 0) dL_book_1 (by decide) ?_
  refine xj_aload_n 0 dL_book_2 rfl ?_
  refine xj_iload_n 1 dL_book_3 rfl ?_
  rcases wrapI_some h with ⟨z1, m1, e1, rfl, rfl⟩ | ⟨e1, ha⟩ | ⟨e1, ha⟩
  · refine xc_Vi (st := [vI 0, vR 92 0]) (ok_X11_book x1 m e1) dL_book_4 cv_L_21 rfl rfl (Nat.le_of_ble_eq_true rfl) (by decide) (by decide) (by decide) (by decide) ?_
    refine xj_i2l dL_book_7 ?_
    refine xj_last0 dL_book_8 ?_
    refine xj_goto (tgt := 15) dL_book_9 (by decide) ?_
    refine xj_iconst (z := 0) dL_book_15 (by decide) ?_
    exact xj_ireturn dL_book_16 rfl (by decide) (by decide)
  · cases ha
  · cases ha
    refine xj_callVc (st := [vI 0, vR 92 0]) (h := 12) (h' := 13) (ok_X11_book x1 m e1) dL_book_4 cv_L_21 rfl rfl (Nat.le_of_ble_eq_true rfl) (by decide) (by decide) (by decide) (by decide) (Or.inl ⟨9, 13, [], by decide +kernel, by decide, by decide, by decide, wt_611⟩) (Or.inl ⟨3, dL_book_12, by decide, rfl⟩) ?_
    refine xj_iconst (z := 1) dL_book_13 (by decide) ?_
    exact xj_ireturn dL_book_14 rfl (by decide) (by decide)
theorem ch_137 : CSH RL 137 yL_told cL_told 4 (some .int) [(0, 9, 12, 13)] 3 := ⟨wt_1040, wt_1041, wt_0, wt_1042, by decide, by decide, by decide +kernel⟩
theorem dL_told_0 : decode cL_told 0 = .ok (.aload_n 2, 1) := by decide +kernel
theorem dL_told_1 : decode cL_told 1 = .ok (.iconst 0, 1) := by decide +kernel
theorem dL_told_2 : decode cL_told 2 = .ok (.aload_n 0, 1) := by decide +kernel
theorem dL_told_3 : decode cL_told 3 = .ok (.iload_n 1, 1) := by decide +kernel
theorem dL_told_4 : decode cL_told 4 = .ok (.invokevirtual 24, 3) := by decide +kernel
theorem dL_told_7 : decode cL_told 7 = .ok (.i2l, 1) := by decide +kernel
theorem dL_told_8 : decode cL_told 8 = .ok (.lastore, 1) := by decide +kernel
theorem dL_told_9 : decode cL_told 9 = .ok (.goto 6, 3) := by decide +kernel
theorem dL_told_12 : decode cL_told 12 = .ok (.astore_n 3, 1) := by decide +kernel
theorem dL_told_13 : decode cL_told 13 = .ok (.iconst 1, 1) := by decide +kernel
theorem dL_told_14 : decode cL_told 14 = .ok (.ireturn, 1) := by decide +kernel
theorem dL_told_15 : decode cL_told 15 = .ok (.iconst 0, 1) := by decide +kernel
theorem dL_told_16 : decode cL_told 16 = .ok (.ireturn, 1) := by decide +kernel
noncomputable def r_L_told (x1 : Int32) (m : Mem) : Option (Int32 × Mem) := wrapI none (some 1) (r_X11_told x1 m)
set_option maxHeartbeats 4000000 in
theorem ok_L_told (x1 : Int32) (m : Mem) {z : Int32} {m' : Mem} (h : r_L_told x1 m = some (z, m')) : MtH yL_told cL_told 4 (some .int) [(0, 9, 12, 13)] 9 155 1 6 [vR 11 0, vI x1, vR 92 0] m (.inl (some (vI z))) m' := by
  refine MtH.of (by decide) (Nat.le_of_ble_eq_true rfl) (by decide +kernel) (by decide +kernel) ?_
  show Xj RL cL_told 4 (some .int) 9 155 1 6 0 0 0 [(0, vR 11 0), (1, vI x1), (2, vR 92 0)] [] m (.inl (some (vI z))) m'
  unfold r_L_told at h
  refine xj_aload_n 2 dL_told_0 rfl ?_
  refine xj_iconst (z := 0) dL_told_1 (by decide) ?_
  refine xj_aload_n 0 dL_told_2 rfl ?_
  refine xj_iload_n 1 dL_told_3 rfl ?_
  rcases wrapI_some h with ⟨z1, m1, e1, rfl, rfl⟩ | ⟨e1, ha⟩ | ⟨e1, ha⟩
  · refine xc_Vi (st := [vI 0, vR 92 0]) (ok_X11_told x1 m e1) dL_told_4 cv_L_24 rfl rfl (Nat.le_of_ble_eq_true rfl) (by decide) (by decide) (by decide) (by decide) ?_
    refine xj_i2l dL_told_7 ?_
    refine xj_last0 dL_told_8 ?_
    refine xj_goto (tgt := 15) dL_told_9 (by decide) ?_
    refine xj_iconst (z := 0) dL_told_15 (by decide) ?_
    exact xj_ireturn dL_told_16 rfl (by decide) (by decide)
  · cases ha
  · cases ha
    refine xj_callVc (st := [vI 0, vR 92 0]) (h := 12) (h' := 13) (ok_X11_told x1 m e1) dL_told_4 cv_L_24 rfl rfl (Nat.le_of_ble_eq_true rfl) (by decide) (by decide) (by decide) (by decide) (Or.inl ⟨9, 13, [], by decide +kernel, by decide, by decide, by decide, wt_611⟩) (Or.inl ⟨3, dL_told_12, by decide, rfl⟩) ?_
    refine xj_iconst (z := 1) dL_told_13 (by decide) ?_
    exact xj_ireturn dL_told_14 rfl (by decide) (by decide)
theorem ch_140 : CSH RL 140 yL_place cL_place 5 (some .int) [(0, 10, 13, 31), (0, 10, 17, 13)] 4 := ⟨wt_1064, wt_1065, wt_0, wt_1066, by decide, by decide, by decide +kernel⟩
theorem dL_place_0 : decode cL_place 0 = .ok (.aload_n 3, 1) := by decide +kernel
theorem dL_place_1 : decode cL_place 1 = .ok (.iconst 0, 1) := by decide +kernel
theorem dL_place_2 : decode cL_place 2 = .ok (.aload_n 0, 1) := by decide +kernel
theorem dL_place_3 : decode cL_place 3 = .ok (.iload_n 1, 1) := by decide +kernel
theorem dL_place_4 : decode cL_place 4 = .ok (.iload_n 2, 1) := by decide +kernel
theorem dL_place_5 : decode cL_place 5 = .ok (.invokevirtual 27, 3) := by decide +kernel
theorem dL_place_8 : decode cL_place 8 = .ok (.i2l, 1) := by decide +kernel
theorem dL_place_9 : decode cL_place 9 = .ok (.lastore, 1) := by decide +kernel
theorem dL_place_10 : decode cL_place 10 = .ok (.goto 11, 3) := by decide +kernel
theorem dL_place_13 : decode cL_place 13 = .ok (.astore 4, 2) := by decide +kernel
theorem dL_place_15 : decode cL_place 15 = .ok (.iconst 1, 1) := by decide +kernel
theorem dL_place_16 : decode cL_place 16 = .ok (.ireturn, 1) := by decide +kernel
theorem dL_place_17 : decode cL_place 17 = .ok (.astore 4, 2) := by decide +kernel
theorem dL_place_19 : decode cL_place 19 = .ok (.iconst 2, 1) := by decide +kernel
theorem dL_place_20 : decode cL_place 20 = .ok (.ireturn, 1) := by decide +kernel
theorem dL_place_21 : decode cL_place 21 = .ok (.iconst 0, 1) := by decide +kernel
theorem dL_place_22 : decode cL_place 22 = .ok (.ireturn, 1) := by decide +kernel
noncomputable def r_L_place (x1 : Int32) (x2 : Int32) (m : Mem) : Option (Int32 × Mem) := wrapI (some 1) (some 2) (r_X11_place x1 x2 m)
set_option maxHeartbeats 4000000 in
theorem ok_L_place (x1 : Int32) (x2 : Int32) (m : Mem) {z : Int32} {m' : Mem} (h : r_L_place x1 x2 m = some (z, m')) : MtH yL_place cL_place 5 (some .int) [(0, 10, 13, 31), (0, 10, 17, 13)] 9 156 2 12 [vR 11 0, vI x1, vI x2, vR 92 0] m (.inl (some (vI z))) m' := by
  refine MtH.of (by decide) (Nat.le_of_ble_eq_true rfl) (by decide +kernel) (by decide +kernel) ?_
  show Xj RL cL_place 5 (some .int) 9 156 2 12 0 0 0 [(0, vR 11 0), (1, vI x1), (2, vI x2), (3, vR 92 0)] [] m (.inl (some (vI z))) m'
  unfold r_L_place at h
  refine xj_aload_n 3 dL_place_0 rfl ?_
  refine xj_iconst (z := 0) dL_place_1 (by decide) ?_
  refine xj_aload_n 0 dL_place_2 rfl ?_
  refine xj_iload_n 1 dL_place_3 rfl ?_
  refine xj_iload_n 2 dL_place_4 rfl ?_
  rcases wrapI_some h with ⟨z1, m1, e1, rfl, rfl⟩ | ⟨e1, ha⟩ | ⟨e1, ha⟩
  · refine xc_Vi (st := [vI 0, vR 92 0]) (ok_X11_place x1 x2 m e1) dL_place_5 cv_L_27 rfl rfl (Nat.le_of_ble_eq_true rfl) (by decide) (by decide) (by decide) (by decide) ?_
    refine xj_i2l dL_place_8 ?_
    refine xj_last0 dL_place_9 ?_
    refine xj_goto (tgt := 21) dL_place_10 (by decide) ?_
    refine xj_iconst (z := 0) dL_place_21 (by decide) ?_
    exact xj_ireturn dL_place_22 rfl (by decide) (by decide)
  · cases ha
    refine xj_callVc (st := [vI 0, vR 92 0]) (h := 13) (h' := 15) (ok_X11_place x1 x2 m e1) dL_place_5 cv_L_27 rfl rfl (Nat.le_of_ble_eq_true rfl) (by decide) (by decide) (by decide) (by decide) (Or.inl ⟨10, 31, [(0, 10, 17, 13)], by decide +kernel, by decide, by decide, by decide, wt_1067⟩) (Or.inr ⟨4, dL_place_13, by decide, rfl⟩) ?_
    refine xj_iconst (z := 1) dL_place_15 (by decide) ?_
    exact xj_ireturn dL_place_16 rfl (by decide) (by decide)
  · cases ha
    refine xj_callVc (st := [vI 0, vR 92 0]) (h := 17) (h' := 19) (ok_X11_place x1 x2 m e1) dL_place_5 cv_L_27 rfl rfl (Nat.le_of_ble_eq_true rfl) (by decide) (by decide) (by decide) (by decide) (Or.inr ⟨10, 13, 10, 31, 13, by decide +kernel, by decide, by decide, by decide, rfl, wt_611, wt_1067⟩) (Or.inr ⟨4, dL_place_17, by decide, rfl⟩) ?_
    refine xj_iconst (z := 2) dL_place_19 (by decide) ?_
    exact xj_ireturn dL_place_20 rfl (by decide) (by decide)
theorem ch_144 : CSH RL 144 yL_ditch cL_ditch 5 (some .int) [(0, 10, 13, 31), (0, 10, 17, 13)] 4 := ⟨wt_1104, wt_1105, wt_0, wt_1106, by decide, by decide, by decide +kernel⟩
theorem dL_ditch_0 : decode cL_ditch 0 = .ok (.aload_n 3, 1) := by decide +kernel
theorem dL_ditch_1 : decode cL_ditch 1 = .ok (.iconst 0, 1) := by decide +kernel
theorem dL_ditch_2 : decode cL_ditch 2 = .ok (.aload_n 0, 1) := by decide +kernel
theorem dL_ditch_3 : decode cL_ditch 3 = .ok (.iload_n 1, 1) := by decide +kernel
theorem dL_ditch_4 : decode cL_ditch 4 = .ok (.iload_n 2, 1) := by decide +kernel
theorem dL_ditch_5 : decode cL_ditch 5 = .ok (.invokevirtual 33, 3) := by decide +kernel
theorem dL_ditch_8 : decode cL_ditch 8 = .ok (.i2l, 1) := by decide +kernel
theorem dL_ditch_9 : decode cL_ditch 9 = .ok (.lastore, 1) := by decide +kernel
theorem dL_ditch_10 : decode cL_ditch 10 = .ok (.goto 11, 3) := by decide +kernel
theorem dL_ditch_13 : decode cL_ditch 13 = .ok (.astore 4, 2) := by decide +kernel
theorem dL_ditch_15 : decode cL_ditch 15 = .ok (.iconst 1, 1) := by decide +kernel
theorem dL_ditch_16 : decode cL_ditch 16 = .ok (.ireturn, 1) := by decide +kernel
theorem dL_ditch_17 : decode cL_ditch 17 = .ok (.astore 4, 2) := by decide +kernel
theorem dL_ditch_19 : decode cL_ditch 19 = .ok (.iconst 2, 1) := by decide +kernel
theorem dL_ditch_20 : decode cL_ditch 20 = .ok (.ireturn, 1) := by decide +kernel
theorem dL_ditch_21 : decode cL_ditch 21 = .ok (.iconst 0, 1) := by decide +kernel
theorem dL_ditch_22 : decode cL_ditch 22 = .ok (.ireturn, 1) := by decide +kernel
noncomputable def r_L_ditch (x1 : Int32) (x2 : Int32) (m : Mem) : Option (Int32 × Mem) := wrapI (some 1) (some 2) (r_X11_ditch x1 x2 m)
set_option maxHeartbeats 4000000 in
theorem ok_L_ditch (x1 : Int32) (x2 : Int32) (m : Mem) {z : Int32} {m' : Mem} (h : r_L_ditch x1 x2 m = some (z, m')) : MtH yL_ditch cL_ditch 5 (some .int) [(0, 10, 13, 31), (0, 10, 17, 13)] 9 156 2 12 [vR 11 0, vI x1, vI x2, vR 92 0] m (.inl (some (vI z))) m' := by
  refine MtH.of (by decide) (Nat.le_of_ble_eq_true rfl) (by decide +kernel) (by decide +kernel) ?_
  show Xj RL cL_ditch 5 (some .int) 9 156 2 12 0 0 0 [(0, vR 11 0), (1, vI x1), (2, vI x2), (3, vR 92 0)] [] m (.inl (some (vI z))) m'
  unfold r_L_ditch at h
  refine xj_aload_n 3 dL_ditch_0 rfl ?_
  refine xj_iconst (z := 0) dL_ditch_1 (by decide) ?_
  refine xj_aload_n 0 dL_ditch_2 rfl ?_
  refine xj_iload_n 1 dL_ditch_3 rfl ?_
  refine xj_iload_n 2 dL_ditch_4 rfl ?_
  rcases wrapI_some h with ⟨z1, m1, e1, rfl, rfl⟩ | ⟨e1, ha⟩ | ⟨e1, ha⟩
  · refine xc_Vi (st := [vI 0, vR 92 0]) (ok_X11_ditch x1 x2 m e1) dL_ditch_5 cv_L_33 rfl rfl (Nat.le_of_ble_eq_true rfl) (by decide) (by decide) (by decide) (by decide) ?_
    refine xj_i2l dL_ditch_8 ?_
    refine xj_last0 dL_ditch_9 ?_
    refine xj_goto (tgt := 21) dL_ditch_10 (by decide) ?_
    refine xj_iconst (z := 0) dL_ditch_21 (by decide) ?_
    exact xj_ireturn dL_ditch_22 rfl (by decide) (by decide)
  · cases ha
    refine xj_callVc (st := [vI 0, vR 92 0]) (h := 13) (h' := 15) (ok_X11_ditch x1 x2 m e1) dL_ditch_5 cv_L_33 rfl rfl (Nat.le_of_ble_eq_true rfl) (by decide) (by decide) (by decide) (by decide) (Or.inl ⟨10, 31, [(0, 10, 17, 13)], by decide +kernel, by decide, by decide, by decide, wt_1067⟩) (Or.inr ⟨4, dL_ditch_13, by decide, rfl⟩) ?_
    refine xj_iconst (z := 1) dL_ditch_15 (by decide) ?_
    exact xj_ireturn dL_ditch_16 rfl (by decide) (by decide)
  · cases ha
    refine xj_callVc (st := [vI 0, vR 92 0]) (h := 17) (h' := 19) (ok_X11_ditch x1 x2 m e1) dL_ditch_5 cv_L_33 rfl rfl (Nat.le_of_ble_eq_true rfl) (by decide) (by decide) (by decide) (by decide) (Or.inr ⟨10, 13, 10, 31, 13, by decide +kernel, by decide, by decide, by decide, rfl, wt_611, wt_1067⟩) (Or.inr ⟨4, dL_ditch_17, by decide, rfl⟩) ?_
    refine xj_iconst (z := 2) dL_ditch_19 (by decide) ?_
    exact xj_ireturn dL_ditch_20 rfl (by decide) (by decide)
theorem ch_147 : CSH RL 147 yL_person cL_person 5 (some .int) [(0, 10, 13, 31), (0, 10, 17, 13)] 4 := ⟨wt_1111, wt_1112, wt_0, wt_1113, by decide, by decide, by decide +kernel⟩
theorem dL_person_0 : decode cL_person 0 = .ok (.aload_n 3, 1) := by decide +kernel
theorem dL_person_1 : decode cL_person 1 = .ok (.iconst 0, 1) := by decide +kernel
theorem dL_person_2 : decode cL_person 2 = .ok (.aload_n 0, 1) := by decide +kernel
theorem dL_person_3 : decode cL_person 3 = .ok (.iload_n 1, 1) := by decide +kernel
theorem dL_person_4 : decode cL_person 4 = .ok (.iload_n 2, 1) := by decide +kernel
theorem dL_person_5 : decode cL_person 5 = .ok (.invokevirtual 36, 3) := by decide +kernel
theorem dL_person_8 : decode cL_person 8 = .ok (.i2l, 1) := by decide +kernel
theorem dL_person_9 : decode cL_person 9 = .ok (.lastore, 1) := by decide +kernel
theorem dL_person_10 : decode cL_person 10 = .ok (.goto 11, 3) := by decide +kernel
theorem dL_person_13 : decode cL_person 13 = .ok (.astore 4, 2) := by decide +kernel
theorem dL_person_15 : decode cL_person 15 = .ok (.iconst 1, 1) := by decide +kernel
theorem dL_person_16 : decode cL_person 16 = .ok (.ireturn, 1) := by decide +kernel
theorem dL_person_17 : decode cL_person 17 = .ok (.astore 4, 2) := by decide +kernel
theorem dL_person_19 : decode cL_person 19 = .ok (.iconst 2, 1) := by decide +kernel
theorem dL_person_20 : decode cL_person 20 = .ok (.ireturn, 1) := by decide +kernel
theorem dL_person_21 : decode cL_person 21 = .ok (.iconst 0, 1) := by decide +kernel
theorem dL_person_22 : decode cL_person 22 = .ok (.ireturn, 1) := by decide +kernel
noncomputable def r_L_person (x1 : Int32) (x2 : Int32) (m : Mem) : Option (Int32 × Mem) := wrapI (some 1) (some 2) (r_X11_person x1 x2 m)
set_option maxHeartbeats 4000000 in
theorem ok_L_person (x1 : Int32) (x2 : Int32) (m : Mem) {z : Int32} {m' : Mem} (h : r_L_person x1 x2 m = some (z, m')) : MtH yL_person cL_person 5 (some .int) [(0, 10, 13, 31), (0, 10, 17, 13)] 9 156 2 12 [vR 11 0, vI x1, vI x2, vR 92 0] m (.inl (some (vI z))) m' := by
  refine MtH.of (by decide) (Nat.le_of_ble_eq_true rfl) (by decide +kernel) (by decide +kernel) ?_
  show Xj RL cL_person 5 (some .int) 9 156 2 12 0 0 0 [(0, vR 11 0), (1, vI x1), (2, vI x2), (3, vR 92 0)] [] m (.inl (some (vI z))) m'
  unfold r_L_person at h
  refine xj_aload_n 3 dL_person_0 rfl ?_
  refine xj_iconst (z := 0) dL_person_1 (by decide) ?_
  refine xj_aload_n 0 dL_person_2 rfl ?_
  refine xj_iload_n 1 dL_person_3 rfl ?_
  refine xj_iload_n 2 dL_person_4 rfl ?_
  rcases wrapI_some h with ⟨z1, m1, e1, rfl, rfl⟩ | ⟨e1, ha⟩ | ⟨e1, ha⟩
  · refine xc_Vi (st := [vI 0, vR 92 0]) (ok_X11_person x1 x2 m e1) dL_person_5 cv_L_36 rfl rfl (Nat.le_of_ble_eq_true rfl) (by decide) (by decide) (by decide) (by decide) ?_
    refine xj_i2l dL_person_8 ?_
    refine xj_last0 dL_person_9 ?_
    refine xj_goto (tgt := 21) dL_person_10 (by decide) ?_
    refine xj_iconst (z := 0) dL_person_21 (by decide) ?_
    exact xj_ireturn dL_person_22 rfl (by decide) (by decide)
  · cases ha
    refine xj_callVc (st := [vI 0, vR 92 0]) (h := 13) (h' := 15) (ok_X11_person x1 x2 m e1) dL_person_5 cv_L_36 rfl rfl (Nat.le_of_ble_eq_true rfl) (by decide) (by decide) (by decide) (by decide) (Or.inl ⟨10, 31, [(0, 10, 17, 13)], by decide +kernel, by decide, by decide, by decide, wt_1067⟩) (Or.inr ⟨4, dL_person_13, by decide, rfl⟩) ?_
    refine xj_iconst (z := 1) dL_person_15 (by decide) ?_
    exact xj_ireturn dL_person_16 rfl (by decide) (by decide)
  · cases ha
    refine xj_callVc (st := [vI 0, vR 92 0]) (h := 17) (h' := 19) (ok_X11_person x1 x2 m e1) dL_person_5 cv_L_36 rfl rfl (Nat.le_of_ble_eq_true rfl) (by decide) (by decide) (by decide) (by decide) (Or.inr ⟨10, 13, 10, 31, 13, by decide +kernel, by decide, by decide, by decide, rfl, wt_611, wt_1067⟩) (Or.inr ⟨4, dL_person_17, by decide, rfl⟩) ?_
    refine xj_iconst (z := 2) dL_person_19 (by decide) ?_
    exact xj_ireturn dL_person_20 rfl (by decide) (by decide)
theorem ch_150 : CSH RL 150 yL_belief cL_belief 5 (some .int) [(0, 10, 13, 31)] 4 := ⟨wt_1128, wt_1129, wt_0, wt_1130, by decide, by decide, by decide +kernel⟩
theorem dL_belief_0 : decode cL_belief 0 = .ok (.aload_n 3, 1) := by decide +kernel
theorem dL_belief_1 : decode cL_belief 1 = .ok (.iconst 0, 1) := by decide +kernel
theorem dL_belief_2 : decode cL_belief 2 = .ok (.aload_n 0, 1) := by decide +kernel
theorem dL_belief_3 : decode cL_belief 3 = .ok (.iload_n 1, 1) := by decide +kernel
theorem dL_belief_4 : decode cL_belief 4 = .ok (.iload_n 2, 1) := by decide +kernel
theorem dL_belief_5 : decode cL_belief 5 = .ok (.invokevirtual 39, 3) := by decide +kernel
theorem dL_belief_8 : decode cL_belief 8 = .ok (.i2l, 1) := by decide +kernel
theorem dL_belief_9 : decode cL_belief 9 = .ok (.lastore, 1) := by decide +kernel
theorem dL_belief_10 : decode cL_belief 10 = .ok (.goto 7, 3) := by decide +kernel
theorem dL_belief_13 : decode cL_belief 13 = .ok (.astore 4, 2) := by decide +kernel
theorem dL_belief_15 : decode cL_belief 15 = .ok (.iconst 1, 1) := by decide +kernel
theorem dL_belief_16 : decode cL_belief 16 = .ok (.ireturn, 1) := by decide +kernel
theorem dL_belief_17 : decode cL_belief 17 = .ok (.iconst 0, 1) := by decide +kernel
theorem dL_belief_18 : decode cL_belief 18 = .ok (.ireturn, 1) := by decide +kernel
noncomputable def r_L_belief (x1 : Int32) (x2 : Int32) (m : Mem) : Option (Int32 × Mem) := wrapI (some 1) none (r_X11_belief x1 x2 m)
set_option maxHeartbeats 4000000 in
theorem ok_L_belief (x1 : Int32) (x2 : Int32) (m : Mem) {z : Int32} {m' : Mem} (h : r_L_belief x1 x2 m = some (z, m')) : MtH yL_belief cL_belief 5 (some .int) [(0, 10, 13, 31)] 9 155 2 12 [vR 11 0, vI x1, vI x2, vR 92 0] m (.inl (some (vI z))) m' := by
  refine MtH.of (by decide) (Nat.le_of_ble_eq_true rfl) (by decide +kernel) (by decide +kernel) ?_
  show Xj RL cL_belief 5 (some .int) 9 155 2 12 0 0 0 [(0, vR 11 0), (1, vI x1), (2, vI x2), (3, vR 92 0)] [] m (.inl (some (vI z))) m'
  unfold r_L_belief at h
  refine xj_aload_n 3 dL_belief_0 rfl ?_
  refine xj_iconst (z := 0) dL_belief_1 (by decide) ?_
  refine xj_aload_n 0 dL_belief_2 rfl ?_
  refine xj_iload_n 1 dL_belief_3 rfl ?_
  refine xj_iload_n 2 dL_belief_4 rfl ?_
  rcases wrapI_some h with ⟨z1, m1, e1, rfl, rfl⟩ | ⟨e1, ha⟩ | ⟨e1, ha⟩
  · refine xc_Vi (st := [vI 0, vR 92 0]) (ok_X11_belief x1 x2 m e1) dL_belief_5 cv_L_39 rfl rfl (Nat.le_of_ble_eq_true rfl) (by decide) (by decide) (by decide) (by decide) ?_
    refine xj_i2l dL_belief_8 ?_
    refine xj_last0 dL_belief_9 ?_
    refine xj_goto (tgt := 17) dL_belief_10 (by decide) ?_
    refine xj_iconst (z := 0) dL_belief_17 (by decide) ?_
    exact xj_ireturn dL_belief_18 rfl (by decide) (by decide)
  · cases ha
    refine xj_callVc (st := [vI 0, vR 92 0]) (h := 13) (h' := 15) (ok_X11_belief x1 x2 m e1) dL_belief_5 cv_L_39 rfl rfl (Nat.le_of_ble_eq_true rfl) (by decide) (by decide) (by decide) (by decide) (Or.inl ⟨10, 31, [], by decide +kernel, by decide, by decide, by decide, wt_1067⟩) (Or.inr ⟨4, dL_belief_13, by decide, rfl⟩) ?_
    refine xj_iconst (z := 1) dL_belief_15 (by decide) ?_
    exact xj_ireturn dL_belief_16 rfl (by decide) (by decide)
  · cases ha
theorem ch_153 : CSH RL 153 yL_pull cL_pull 5 (some .int) [(0, 10, 13, 31)] 4 := ⟨wt_1135, wt_1136, wt_0, wt_1137, by decide, by decide, by decide +kernel⟩
theorem dL_pull_0 : decode cL_pull 0 = .ok (.aload_n 3, 1) := by decide +kernel
theorem dL_pull_1 : decode cL_pull 1 = .ok (.iconst 0, 1) := by decide +kernel
theorem dL_pull_2 : decode cL_pull 2 = .ok (.aload_n 0, 1) := by decide +kernel
theorem dL_pull_3 : decode cL_pull 3 = .ok (.iload_n 1, 1) := by decide +kernel
theorem dL_pull_4 : decode cL_pull 4 = .ok (.iload_n 2, 1) := by decide +kernel
theorem dL_pull_5 : decode cL_pull 5 = .ok (.invokevirtual 42, 3) := by decide +kernel
theorem dL_pull_8 : decode cL_pull 8 = .ok (.i2l, 1) := by decide +kernel
theorem dL_pull_9 : decode cL_pull 9 = .ok (.lastore, 1) := by decide +kernel
theorem dL_pull_10 : decode cL_pull 10 = .ok (.goto 7, 3) := by decide +kernel
theorem dL_pull_13 : decode cL_pull 13 = .ok (.astore 4, 2) := by decide +kernel
theorem dL_pull_15 : decode cL_pull 15 = .ok (.iconst 1, 1) := by decide +kernel
theorem dL_pull_16 : decode cL_pull 16 = .ok (.ireturn, 1) := by decide +kernel
theorem dL_pull_17 : decode cL_pull 17 = .ok (.iconst 0, 1) := by decide +kernel
theorem dL_pull_18 : decode cL_pull 18 = .ok (.ireturn, 1) := by decide +kernel
noncomputable def r_L_pull (x1 : Int32) (x2 : Int32) (m : Mem) : Option (Int32 × Mem) := wrapI (some 1) none (r_X11_pull x1 x2 m)
set_option maxHeartbeats 4000000 in
theorem ok_L_pull (x1 : Int32) (x2 : Int32) (m : Mem) {z : Int32} {m' : Mem} (h : r_L_pull x1 x2 m = some (z, m')) : MtH yL_pull cL_pull 5 (some .int) [(0, 10, 13, 31)] 9 155 2 12 [vR 11 0, vI x1, vI x2, vR 92 0] m (.inl (some (vI z))) m' := by
  refine MtH.of (by decide) (Nat.le_of_ble_eq_true rfl) (by decide +kernel) (by decide +kernel) ?_
  show Xj RL cL_pull 5 (some .int) 9 155 2 12 0 0 0 [(0, vR 11 0), (1, vI x1), (2, vI x2), (3, vR 92 0)] [] m (.inl (some (vI z))) m'
  unfold r_L_pull at h
  refine xj_aload_n 3 dL_pull_0 rfl ?_
  refine xj_iconst (z := 0) dL_pull_1 (by decide) ?_
  refine xj_aload_n 0 dL_pull_2 rfl ?_
  refine xj_iload_n 1 dL_pull_3 rfl ?_
  refine xj_iload_n 2 dL_pull_4 rfl ?_
  rcases wrapI_some h with ⟨z1, m1, e1, rfl, rfl⟩ | ⟨e1, ha⟩ | ⟨e1, ha⟩
  · refine xc_Vi (st := [vI 0, vR 92 0]) (ok_X11_pull x1 x2 m e1) dL_pull_5 cv_L_42 rfl rfl (Nat.le_of_ble_eq_true rfl) (by decide) (by decide) (by decide) (by decide) ?_
    refine xj_i2l dL_pull_8 ?_
    refine xj_last0 dL_pull_9 ?_
    refine xj_goto (tgt := 17) dL_pull_10 (by decide) ?_
    refine xj_iconst (z := 0) dL_pull_17 (by decide) ?_
    exact xj_ireturn dL_pull_18 rfl (by decide) (by decide)
  · cases ha
    refine xj_callVc (st := [vI 0, vR 92 0]) (h := 13) (h' := 15) (ok_X11_pull x1 x2 m e1) dL_pull_5 cv_L_42 rfl rfl (Nat.le_of_ble_eq_true rfl) (by decide) (by decide) (by decide) (by decide) (Or.inl ⟨10, 31, [], by decide +kernel, by decide, by decide, by decide, wt_1067⟩) (Or.inr ⟨4, dL_pull_13, by decide, rfl⟩) ?_
    refine xj_iconst (z := 1) dL_pull_15 (by decide) ?_
    exact xj_ireturn dL_pull_16 rfl (by decide) (by decide)
  · cases ha
theorem ch_156 : CSH RL 156 yL_would cL_would 12 (some .int) [(0, 24, 27, 13)] 11 := ⟨wt_1144, wt_1145, wt_0, wt_1146, by decide, by decide, by decide +kernel⟩
theorem dL_would_0 : decode cL_would 0 = .ok (.aload 10, 2) := by decide +kernel
theorem dL_would_2 : decode cL_would 2 = .ok (.iconst 0, 1) := by decide +kernel
theorem dL_would_3 : decode cL_would 3 = .ok (.aload_n 0, 1) := by decide +kernel
theorem dL_would_4 : decode cL_would 4 = .ok (.iload_n 1, 1) := by decide +kernel
theorem dL_would_5 : decode cL_would 5 = .ok (.iload_n 2, 1) := by decide +kernel
theorem dL_would_6 : decode cL_would 6 = .ok (.iload_n 3, 1) := by decide +kernel
theorem dL_would_7 : decode cL_would 7 = .ok (.iload 4, 2) := by decide +kernel
theorem dL_would_9 : decode cL_would 9 = .ok (.iload 5, 2) := by decide +kernel
theorem dL_would_11 : decode cL_would 11 = .ok (.iload 6, 2) := by decide +kernel
theorem dL_would_13 : decode cL_would 13 = .ok (.iload 7, 2) := by decide +kernel
theorem dL_would_15 : decode cL_would 15 = .ok (.iload 8, 2) := by decide +kernel
theorem dL_would_17 : decode cL_would 17 = .ok (.iload 9, 2) := by decide +kernel
theorem dL_would_19 : decode cL_would 19 = .ok (.invokevirtual 45, 3) := by decide +kernel
theorem dL_would_22 : decode cL_would 22 = .ok (.i2l, 1) := by decide +kernel
theorem dL_would_23 : decode cL_would 23 = .ok (.lastore, 1) := by decide +kernel
theorem dL_would_24 : decode cL_would 24 = .ok (.goto 7, 3) := by decide +kernel
theorem dL_would_27 : decode cL_would 27 = .ok (.astore 11, 2) := by decide +kernel
theorem dL_would_29 : decode cL_would 29 = .ok (.iconst 1, 1) := by decide +kernel
theorem dL_would_30 : decode cL_would 30 = .ok (.ireturn, 1) := by decide +kernel
theorem dL_would_31 : decode cL_would 31 = .ok (.iconst 0, 1) := by decide +kernel
theorem dL_would_32 : decode cL_would 32 = .ok (.ireturn, 1) := by decide +kernel
noncomputable def r_L_would (x1 : Int32) (x2 : Int32) (x3 : Int32) (x4 : Int32) (x5 : Int32) (x6 : Int32) (x7 : Int32) (x8 : Int32) (x9 : Int32) (m : Mem) : Option (Int32 × Mem) := wrapI none (some 1) (r_X11_would x1 x2 x3 x4 x5 x6 x7 x8 x9 m)
set_option maxHeartbeats 4000000 in
theorem ok_L_would (x1 : Int32) (x2 : Int32) (x3 : Int32) (x4 : Int32) (x5 : Int32) (x6 : Int32) (x7 : Int32) (x8 : Int32) (x9 : Int32) (m : Mem) {z : Int32} {m' : Mem} (h : r_L_would x1 x2 x3 x4 x5 x6 x7 x8 x9 m = some (z, m')) : MtH yL_would cL_would 12 (some .int) [(0, 24, 27, 13)] 9 164 9 54 [vR 11 0, vI x1, vI x2, vI x3, vI x4, vI x5, vI x6, vI x7, vI x8, vI x9, vR 92 0] m (.inl (some (vI z))) m' := by
  refine MtH.of (by decide) (Nat.le_of_ble_eq_true rfl) (by decide +kernel) (by decide +kernel) ?_
  show Xj RL cL_would 12 (some .int) 9 164 9 54 0 0 0 [(0, vR 11 0), (1, vI x1), (2, vI x2), (3, vI x3), (4, vI x4), (5, vI x5), (6, vI x6), (7, vI x7), (8, vI x8), (9, vI x9), (10, vR 92 0)] [] m (.inl (some (vI z))) m'
  unfold r_L_would at h
  refine xj_aload 10 dL_would_0 rfl ?_
  refine xj_iconst (z := 0) dL_would_2 (by decide) ?_
  refine xj_aload_n 0 dL_would_3 rfl ?_
  refine xj_iload_n 1 dL_would_4 rfl ?_
  refine xj_iload_n 2 dL_would_5 rfl ?_
  refine xj_iload_n 3 dL_would_6 rfl ?_
  refine xj_iload 4 dL_would_7 rfl ?_
  refine xj_iload 5 dL_would_9 rfl ?_
  refine xj_iload 6 dL_would_11 rfl ?_
  refine xj_iload 7 dL_would_13 rfl ?_
  refine xj_iload 8 dL_would_15 rfl ?_
  refine xj_iload 9 dL_would_17 rfl ?_
  rcases wrapI_some h with ⟨z1, m1, e1, rfl, rfl⟩ | ⟨e1, ha⟩ | ⟨e1, ha⟩
  · refine xc_Vi (st := [vI 0, vR 92 0]) (ok_X11_would x1 x2 x3 x4 x5 x6 x7 x8 x9 m e1) dL_would_19 cv_L_45 rfl rfl (Nat.le_of_ble_eq_true rfl) (by decide) (by decide) (by decide) (by decide) ?_
    refine xj_i2l dL_would_22 ?_
    refine xj_last0 dL_would_23 ?_
    refine xj_goto (tgt := 31) dL_would_24 (by decide) ?_
    refine xj_iconst (z := 0) dL_would_31 (by decide) ?_
    exact xj_ireturn dL_would_32 rfl (by decide) (by decide)
  · cases ha
  · cases ha
    refine xj_callVc (st := [vI 0, vR 92 0]) (h := 27) (h' := 29) (ok_X11_would x1 x2 x3 x4 x5 x6 x7 x8 x9 m e1) dL_would_19 cv_L_45 rfl rfl (Nat.le_of_ble_eq_true rfl) (by decide) (by decide) (by decide) (by decide) (Or.inl ⟨24, 13, [], by decide +kernel, by decide, by decide, by decide, wt_611⟩) (Or.inr ⟨11, dL_would_27, by decide, rfl⟩) ?_
    refine xj_iconst (z := 1) dL_would_29 (by decide) ?_
    exact xj_ireturn dL_would_30 rfl (by decide) (by decide)
theorem ch_160 : CSH RL 160 yL_course cL_course 4 (some .int) [(0, 9, 12, 13)] 3 := ⟨wt_1152, wt_1153, wt_0, wt_1154, by decide, by decide, by decide +kernel⟩
theorem dL_course_0 : decode cL_course 0 = .ok (.aload_n 2, 1) := by decide +kernel
theorem dL_course_1 : decode cL_course 1 = .ok (.iconst 0, 1) := by decide +kernel
theorem dL_course_2 : decode cL_course 2 = .ok (.aload_n 0, 1) := by decide +kernel
theorem dL_course_3 : decode cL_course 3 = .ok (.iload_n 1, 1) := by decide +kernel
theorem dL_course_4 : decode cL_course 4 = .ok (.invokevirtual 49, 3) := by decide +kernel
theorem dL_course_7 : decode cL_course 7 = .ok (.i2l, 1) := by decide +kernel
theorem dL_course_8 : decode cL_course 8 = .ok (.lastore, 1) := by decide +kernel
theorem dL_course_9 : decode cL_course 9 = .ok (.goto 6, 3) := by decide +kernel
theorem dL_course_12 : decode cL_course 12 = .ok (.astore_n 3, 1) := by decide +kernel
theorem dL_course_13 : decode cL_course 13 = .ok (.iconst 1, 1) := by decide +kernel
theorem dL_course_14 : decode cL_course 14 = .ok (.ireturn, 1) := by decide +kernel
theorem dL_course_15 : decode cL_course 15 = .ok (.iconst 0, 1) := by decide +kernel
theorem dL_course_16 : decode cL_course 16 = .ok (.ireturn, 1) := by decide +kernel
noncomputable def r_L_course (x1 : Int32) (m : Mem) : Option (Int32 × Mem) := wrapI none (some 1) (r_X11_course x1 m)
set_option maxHeartbeats 4000000 in
theorem ok_L_course (x1 : Int32) (m : Mem) {z : Int32} {m' : Mem} (h : r_L_course x1 m = some (z, m')) : MtH yL_course cL_course 4 (some .int) [(0, 9, 12, 13)] 8 132 1 6 [vR 11 0, vI x1, vR 92 0] m (.inl (some (vI z))) m' := by
  refine MtH.of (by decide) (Nat.le_of_ble_eq_true rfl) (by decide +kernel) (by decide +kernel) ?_
  show Xj RL cL_course 4 (some .int) 8 132 1 6 0 0 0 [(0, vR 11 0), (1, vI x1), (2, vR 92 0)] [] m (.inl (some (vI z))) m'
  unfold r_L_course at h
  refine xj_aload_n 2 dL_course_0 rfl ?_
  refine xj_iconst (z := 0) dL_course_1 (by decide) ?_
  refine xj_aload_n 0 dL_course_2 rfl ?_
  refine xj_iload_n 1 dL_course_3 rfl ?_
  rcases wrapI_some h with ⟨z1, m1, e1, rfl, rfl⟩ | ⟨e1, ha⟩ | ⟨e1, ha⟩
  · refine xc_Vi (st := [vI 0, vR 92 0]) (ok_X11_course x1 m e1) dL_course_4 cv_L_49 rfl rfl (Nat.le_of_ble_eq_true rfl) (by decide) (by decide) (by decide) (by decide) ?_
    refine xj_i2l dL_course_7 ?_
    refine xj_last0 dL_course_8 ?_
    refine xj_goto (tgt := 15) dL_course_9 (by decide) ?_
    refine xj_iconst (z := 0) dL_course_15 (by decide) ?_
    exact xj_ireturn dL_course_16 rfl (by decide) (by decide)
  · cases ha
  · cases ha
    refine xj_callVc (st := [vI 0, vR 92 0]) (h := 12) (h' := 13) (ok_X11_course x1 m e1) dL_course_4 cv_L_49 rfl rfl (Nat.le_of_ble_eq_true rfl) (by decide) (by decide) (by decide) (by decide) (Or.inl ⟨9, 13, [], by decide +kernel, by decide, by decide, by decide, wt_611⟩) (Or.inl ⟨3, dL_course_12, by decide, rfl⟩) ?_
    refine xj_iconst (z := 1) dL_course_13 (by decide) ?_
    exact xj_ireturn dL_course_14 rfl (by decide) (by decide)
theorem ch_163 : CSH RL 163 yL_ahead cL_ahead 5 (some .int) [(0, 10, 13, 13)] 4 := ⟨wt_1159, wt_1160, wt_0, wt_1161, by decide, by decide, by decide +kernel⟩
theorem dL_ahead_0 : decode cL_ahead 0 = .ok (.aload_n 3, 1) := by decide +kernel
theorem dL_ahead_1 : decode cL_ahead 1 = .ok (.iconst 0, 1) := by decide +kernel
theorem dL_ahead_2 : decode cL_ahead 2 = .ok (.aload_n 0, 1) := by decide +kernel
theorem dL_ahead_3 : decode cL_ahead 3 = .ok (.iload_n 1, 1) := by decide +kernel
theorem dL_ahead_4 : decode cL_ahead 4 = .ok (.iload_n 2, 1) := by decide +kernel
theorem dL_ahead_5 : decode cL_ahead 5 = .ok (.invokevirtual 52, 3) := by decide +kernel
theorem dL_ahead_8 : decode cL_ahead 8 = .ok (.i2l, 1) := by decide +kernel
theorem dL_ahead_9 : decode cL_ahead 9 = .ok (.lastore, 1) := by decide +kernel
theorem dL_ahead_10 : decode cL_ahead 10 = .ok (.goto 7, 3) := by decide +kernel
theorem dL_ahead_13 : decode cL_ahead 13 = .ok (.astore 4, 2) := by decide +kernel
theorem dL_ahead_15 : decode cL_ahead 15 = .ok (.iconst 1, 1) := by decide +kernel
theorem dL_ahead_16 : decode cL_ahead 16 = .ok (.ireturn, 1) := by decide +kernel
theorem dL_ahead_17 : decode cL_ahead 17 = .ok (.iconst 0, 1) := by decide +kernel
theorem dL_ahead_18 : decode cL_ahead 18 = .ok (.ireturn, 1) := by decide +kernel
noncomputable def r_L_ahead (x1 : Int32) (x2 : Int32) (m : Mem) : Option (Int32 × Mem) := wrapI none (some 1) (r_X11_ahead x1 x2 m)
set_option maxHeartbeats 4000000 in
theorem ok_L_ahead (x1 : Int32) (x2 : Int32) (m : Mem) {z : Int32} {m' : Mem} (h : r_L_ahead x1 x2 m = some (z, m')) : MtH yL_ahead cL_ahead 5 (some .int) [(0, 10, 13, 13)] 9 156 2 12 [vR 11 0, vI x1, vI x2, vR 92 0] m (.inl (some (vI z))) m' := by
  refine MtH.of (by decide) (Nat.le_of_ble_eq_true rfl) (by decide +kernel) (by decide +kernel) ?_
  show Xj RL cL_ahead 5 (some .int) 9 156 2 12 0 0 0 [(0, vR 11 0), (1, vI x1), (2, vI x2), (3, vR 92 0)] [] m (.inl (some (vI z))) m'
  unfold r_L_ahead at h
  refine xj_aload_n 3 dL_ahead_0 rfl ?_
  refine xj_iconst (z := 0) dL_ahead_1 (by decide) ?_
  refine xj_aload_n 0 dL_ahead_2 rfl ?_
  refine xj_iload_n 1 dL_ahead_3 rfl ?_
  refine xj_iload_n 2 dL_ahead_4 rfl ?_
  rcases wrapI_some h with ⟨z1, m1, e1, rfl, rfl⟩ | ⟨e1, ha⟩ | ⟨e1, ha⟩
  · refine xc_Vi (st := [vI 0, vR 92 0]) (ok_X11_ahead x1 x2 m e1) dL_ahead_5 cv_L_52 rfl rfl (Nat.le_of_ble_eq_true rfl) (by decide) (by decide) (by decide) (by decide) ?_
    refine xj_i2l dL_ahead_8 ?_
    refine xj_last0 dL_ahead_9 ?_
    refine xj_goto (tgt := 17) dL_ahead_10 (by decide) ?_
    refine xj_iconst (z := 0) dL_ahead_17 (by decide) ?_
    exact xj_ireturn dL_ahead_18 rfl (by decide) (by decide)
  · cases ha
  · cases ha
    refine xj_callVc (st := [vI 0, vR 92 0]) (h := 13) (h' := 15) (ok_X11_ahead x1 x2 m e1) dL_ahead_5 cv_L_52 rfl rfl (Nat.le_of_ble_eq_true rfl) (by decide) (by decide) (by decide) (by decide) (Or.inl ⟨10, 13, [], by decide +kernel, by decide, by decide, by decide, wt_611⟩) (Or.inr ⟨4, dL_ahead_13, by decide, rfl⟩) ?_
    refine xj_iconst (z := 1) dL_ahead_15 (by decide) ?_
    exact xj_ireturn dL_ahead_16 rfl (by decide) (by decide)
theorem ch_170 : CSH RL 170 yL_tellings cL_tellings 6 (some .int) [(0, 12, 15, 31), (0, 12, 19, 13)] 5 := ⟨wt_1170, wt_1171, wt_0, wt_1172, by decide, by decide, by decide +kernel⟩
theorem dL_tellings_0 : decode cL_tellings 0 = .ok (.aload 4, 2) := by decide +kernel
theorem dL_tellings_2 : decode cL_tellings 2 = .ok (.iconst 0, 1) := by decide +kernel
theorem dL_tellings_3 : decode cL_tellings 3 = .ok (.aload_n 0, 1) := by decide +kernel
theorem dL_tellings_4 : decode cL_tellings 4 = .ok (.iload_n 1, 1) := by decide +kernel
theorem dL_tellings_5 : decode cL_tellings 5 = .ok (.iload_n 2, 1) := by decide +kernel
theorem dL_tellings_6 : decode cL_tellings 6 = .ok (.iload_n 3, 1) := by decide +kernel
theorem dL_tellings_7 : decode cL_tellings 7 = .ok (.invokevirtual 55, 3) := by decide +kernel
theorem dL_tellings_10 : decode cL_tellings 10 = .ok (.i2l, 1) := by decide +kernel
theorem dL_tellings_11 : decode cL_tellings 11 = .ok (.lastore, 1) := by decide +kernel
theorem dL_tellings_12 : decode cL_tellings 12 = .ok (.goto 11, 3) := by decide +kernel
theorem dL_tellings_15 : decode cL_tellings 15 = .ok (.astore 5, 2) := by decide +kernel
theorem dL_tellings_17 : decode cL_tellings 17 = .ok (.iconst 1, 1) := by decide +kernel
theorem dL_tellings_18 : decode cL_tellings 18 = .ok (.ireturn, 1) := by decide +kernel
theorem dL_tellings_19 : decode cL_tellings 19 = .ok (.astore 5, 2) := by decide +kernel
theorem dL_tellings_21 : decode cL_tellings 21 = .ok (.iconst 2, 1) := by decide +kernel
theorem dL_tellings_22 : decode cL_tellings 22 = .ok (.ireturn, 1) := by decide +kernel
theorem dL_tellings_23 : decode cL_tellings 23 = .ok (.iconst 0, 1) := by decide +kernel
theorem dL_tellings_24 : decode cL_tellings 24 = .ok (.ireturn, 1) := by decide +kernel
noncomputable def r_L_tellings (x1 : Int32) (x2 : Int32) (x3 : Int32) (m : Mem) : Option (Int32 × Mem) := wrapI (some 1) (some 2) (r_X11_tellings x1 x2 x3 m)
set_option maxHeartbeats 4000000 in
theorem ok_L_tellings (x1 : Int32) (x2 : Int32) (x3 : Int32) (m : Mem) {z : Int32} {m' : Mem} (h : r_L_tellings x1 x2 x3 m = some (z, m')) : MtH yL_tellings cL_tellings 6 (some .int) [(0, 12, 15, 31), (0, 12, 19, 13)] 9 157 3 18 [vR 11 0, vI x1, vI x2, vI x3, vR 92 0] m (.inl (some (vI z))) m' := by
  refine MtH.of (by decide) (Nat.le_of_ble_eq_true rfl) (by decide +kernel) (by decide +kernel) ?_
  show Xj RL cL_tellings 6 (some .int) 9 157 3 18 0 0 0 [(0, vR 11 0), (1, vI x1), (2, vI x2), (3, vI x3), (4, vR 92 0)] [] m (.inl (some (vI z))) m'
  unfold r_L_tellings at h
  refine xj_aload 4 dL_tellings_0 rfl ?_
  refine xj_iconst (z := 0) dL_tellings_2 (by decide) ?_
  refine xj_aload_n 0 dL_tellings_3 rfl ?_
  refine xj_iload_n 1 dL_tellings_4 rfl ?_
  refine xj_iload_n 2 dL_tellings_5 rfl ?_
  refine xj_iload_n 3 dL_tellings_6 rfl ?_
  rcases wrapI_some h with ⟨z1, m1, e1, rfl, rfl⟩ | ⟨e1, ha⟩ | ⟨e1, ha⟩
  · refine xc_Vi (st := [vI 0, vR 92 0]) (ok_X11_tellings x1 x2 x3 m e1) dL_tellings_7 cv_L_55 rfl rfl (Nat.le_of_ble_eq_true rfl) (by decide) (by decide) (by decide) (by decide) ?_
    refine xj_i2l dL_tellings_10 ?_
    refine xj_last0 dL_tellings_11 ?_
    refine xj_goto (tgt := 23) dL_tellings_12 (by decide) ?_
    refine xj_iconst (z := 0) dL_tellings_23 (by decide) ?_
    exact xj_ireturn dL_tellings_24 rfl (by decide) (by decide)
  · cases ha
    refine xj_callVc (st := [vI 0, vR 92 0]) (h := 15) (h' := 17) (ok_X11_tellings x1 x2 x3 m e1) dL_tellings_7 cv_L_55 rfl rfl (Nat.le_of_ble_eq_true rfl) (by decide) (by decide) (by decide) (by decide) (Or.inl ⟨12, 31, [(0, 12, 19, 13)], by decide +kernel, by decide, by decide, by decide, wt_1067⟩) (Or.inr ⟨5, dL_tellings_15, by decide, rfl⟩) ?_
    refine xj_iconst (z := 1) dL_tellings_17 (by decide) ?_
    exact xj_ireturn dL_tellings_18 rfl (by decide) (by decide)
  · cases ha
    refine xj_callVc (st := [vI 0, vR 92 0]) (h := 19) (h' := 21) (ok_X11_tellings x1 x2 x3 m e1) dL_tellings_7 cv_L_55 rfl rfl (Nat.le_of_ble_eq_true rfl) (by decide) (by decide) (by decide) (by decide) (Or.inr ⟨12, 13, 12, 31, 15, by decide +kernel, by decide, by decide, by decide, rfl, wt_611, wt_1067⟩) (Or.inr ⟨5, dL_tellings_19, by decide, rfl⟩) ?_
    refine xj_iconst (z := 2) dL_tellings_21 (by decide) ?_
    exact xj_ireturn dL_tellings_22 rfl (by decide) (by decide)
theorem ch_174 : CSH RL 174 yL_silence cL_silence 4 (some .int) [(0, 9, 12, 31)] 3 := ⟨wt_1200, wt_1201, wt_0, wt_1202, by decide, by decide, by decide +kernel⟩
theorem dL_silence_0 : decode cL_silence 0 = .ok (.aload_n 2, 1) := by decide +kernel
theorem dL_silence_1 : decode cL_silence 1 = .ok (.iconst 0, 1) := by decide +kernel
theorem dL_silence_2 : decode cL_silence 2 = .ok (.aload_n 0, 1) := by decide +kernel
theorem dL_silence_3 : decode cL_silence 3 = .ok (.iload_n 1, 1) := by decide +kernel
theorem dL_silence_4 : decode cL_silence 4 = .ok (.invokevirtual 59, 3) := by decide +kernel
theorem dL_silence_7 : decode cL_silence 7 = .ok (.i2l, 1) := by decide +kernel
theorem dL_silence_8 : decode cL_silence 8 = .ok (.lastore, 1) := by decide +kernel
theorem dL_silence_9 : decode cL_silence 9 = .ok (.goto 6, 3) := by decide +kernel
theorem dL_silence_12 : decode cL_silence 12 = .ok (.astore_n 3, 1) := by decide +kernel
theorem dL_silence_13 : decode cL_silence 13 = .ok (.iconst 1, 1) := by decide +kernel
theorem dL_silence_14 : decode cL_silence 14 = .ok (.ireturn, 1) := by decide +kernel
theorem dL_silence_15 : decode cL_silence 15 = .ok (.iconst 0, 1) := by decide +kernel
theorem dL_silence_16 : decode cL_silence 16 = .ok (.ireturn, 1) := by decide +kernel
noncomputable def r_L_silence (x1 : Int32) (m : Mem) : Option (Int32 × Mem) := wrapI (some 1) none (r_X11_silence x1 m)
set_option maxHeartbeats 4000000 in
theorem ok_L_silence (x1 : Int32) (m : Mem) {z : Int32} {m' : Mem} (h : r_L_silence x1 m = some (z, m')) : MtH yL_silence cL_silence 4 (some .int) [(0, 9, 12, 31)] 9 177 1 6 [vR 11 0, vI x1, vR 92 0] m (.inl (some (vI z))) m' := by
  refine MtH.of (by decide) (Nat.le_of_ble_eq_true rfl) (by decide +kernel) (by decide +kernel) ?_
  show Xj RL cL_silence 4 (some .int) 9 177 1 6 0 0 0 [(0, vR 11 0), (1, vI x1), (2, vR 92 0)] [] m (.inl (some (vI z))) m'
  unfold r_L_silence at h
  refine xj_aload_n 2 dL_silence_0 rfl ?_
  refine xj_iconst (z := 0) dL_silence_1 (by decide) ?_
  refine xj_aload_n 0 dL_silence_2 rfl ?_
  refine xj_iload_n 1 dL_silence_3 rfl ?_
  rcases wrapI_some h with ⟨z1, m1, e1, rfl, rfl⟩ | ⟨e1, ha⟩ | ⟨e1, ha⟩
  · refine xc_Vi (st := [vI 0, vR 92 0]) (ok_X11_silence x1 m e1) dL_silence_4 cv_L_59 rfl rfl (Nat.le_of_ble_eq_true rfl) (by decide) (by decide) (by decide) (by decide) ?_
    refine xj_i2l dL_silence_7 ?_
    refine xj_last0 dL_silence_8 ?_
    refine xj_goto (tgt := 15) dL_silence_9 (by decide) ?_
    refine xj_iconst (z := 0) dL_silence_15 (by decide) ?_
    exact xj_ireturn dL_silence_16 rfl (by decide) (by decide)
  · cases ha
    refine xj_callVc (st := [vI 0, vR 92 0]) (h := 12) (h' := 13) (ok_X11_silence x1 m e1) dL_silence_4 cv_L_59 rfl rfl (Nat.le_of_ble_eq_true rfl) (by decide) (by decide) (by decide) (by decide) (Or.inl ⟨9, 31, [], by decide +kernel, by decide, by decide, by decide, wt_1067⟩) (Or.inl ⟨3, dL_silence_12, by decide, rfl⟩) ?_
    refine xj_iconst (z := 1) dL_silence_13 (by decide) ?_
    exact xj_ireturn dL_silence_14 rfl (by decide) (by decide)
  · cases ha
theorem ch_177 : CSH RL 177 yL_who cL_who 4 (some .int) [(0, 9, 12, 13)] 3 := ⟨wt_1224, wt_1225, wt_0, wt_1226, by decide, by decide, by decide +kernel⟩
theorem dL_who_0 : decode cL_who 0 = .ok (.aload_n 2, 1) := by decide +kernel
theorem dL_who_1 : decode cL_who 1 = .ok (.iconst 0, 1) := by decide +kernel
theorem dL_who_2 : decode cL_who 2 = .ok (.aload_n 0, 1) := by decide +kernel
theorem dL_who_3 : decode cL_who 3 = .ok (.iload_n 1, 1) := by decide +kernel
theorem dL_who_4 : decode cL_who 4 = .ok (.invokevirtual 62, 3) := by decide +kernel
theorem dL_who_7 : decode cL_who 7 = .ok (.i2l, 1) := by decide +kernel
theorem dL_who_8 : decode cL_who 8 = .ok (.lastore, 1) := by decide +kernel
theorem dL_who_9 : decode cL_who 9 = .ok (.goto 6, 3) := by decide +kernel
theorem dL_who_12 : decode cL_who 12 = .ok (.astore_n 3, 1) := by decide +kernel
theorem dL_who_13 : decode cL_who 13 = .ok (.iconst 1, 1) := by decide +kernel
theorem dL_who_14 : decode cL_who 14 = .ok (.ireturn, 1) := by decide +kernel
theorem dL_who_15 : decode cL_who 15 = .ok (.iconst 0, 1) := by decide +kernel
theorem dL_who_16 : decode cL_who 16 = .ok (.ireturn, 1) := by decide +kernel
noncomputable def r_L_who (x1 : Int32) (m : Mem) : Option (Int32 × Mem) := wrapI none (some 1) (r_X11_who x1 m)
set_option maxHeartbeats 4000000 in
theorem ok_L_who (x1 : Int32) (m : Mem) {z : Int32} {m' : Mem} (h : r_L_who x1 m = some (z, m')) : MtH yL_who cL_who 4 (some .int) [(0, 9, 12, 13)] 9 175 1 6 [vR 11 0, vI x1, vR 92 0] m (.inl (some (vI z))) m' := by
  refine MtH.of (by decide) (Nat.le_of_ble_eq_true rfl) (by decide +kernel) (by decide +kernel) ?_
  show Xj RL cL_who 4 (some .int) 9 175 1 6 0 0 0 [(0, vR 11 0), (1, vI x1), (2, vR 92 0)] [] m (.inl (some (vI z))) m'
  unfold r_L_who at h
  refine xj_aload_n 2 dL_who_0 rfl ?_
  refine xj_iconst (z := 0) dL_who_1 (by decide) ?_
  refine xj_aload_n 0 dL_who_2 rfl ?_
  refine xj_iload_n 1 dL_who_3 rfl ?_
  rcases wrapI_some h with ⟨z1, m1, e1, rfl, rfl⟩ | ⟨e1, ha⟩ | ⟨e1, ha⟩
  · refine xc_Vi (st := [vI 0, vR 92 0]) (ok_X11_who x1 m e1) dL_who_4 cv_L_62 rfl rfl (Nat.le_of_ble_eq_true rfl) (by decide) (by decide) (by decide) (by decide) ?_
    refine xj_i2l dL_who_7 ?_
    refine xj_last0 dL_who_8 ?_
    refine xj_goto (tgt := 15) dL_who_9 (by decide) ?_
    refine xj_iconst (z := 0) dL_who_15 (by decide) ?_
    exact xj_ireturn dL_who_16 rfl (by decide) (by decide)
  · cases ha
  · cases ha
    refine xj_callVc (st := [vI 0, vR 92 0]) (h := 12) (h' := 13) (ok_X11_who x1 m e1) dL_who_4 cv_L_62 rfl rfl (Nat.le_of_ble_eq_true rfl) (by decide) (by decide) (by decide) (by decide) (Or.inl ⟨9, 13, [], by decide +kernel, by decide, by decide, by decide, wt_611⟩) (Or.inl ⟨3, dL_who_12, by decide, rfl⟩) ?_
    refine xj_iconst (z := 1) dL_who_13 (by decide) ?_
    exact xj_ireturn dL_who_14 rfl (by decide) (by decide)
theorem ch_180 : CSH RL 180 yL_look cL_look 4 (some .int) [(0, 9, 12, 13)] 3 := ⟨wt_1239, wt_1240, wt_0, wt_1241, by decide, by decide, by decide +kernel⟩
theorem dL_look_0 : decode cL_look 0 = .ok (.aload_n 2, 1) := by decide +kernel
theorem dL_look_1 : decode cL_look 1 = .ok (.iconst 0, 1) := by decide +kernel
theorem dL_look_2 : decode cL_look 2 = .ok (.aload_n 0, 1) := by decide +kernel
theorem dL_look_3 : decode cL_look 3 = .ok (.iload_n 1, 1) := by decide +kernel
theorem dL_look_4 : decode cL_look 4 = .ok (.invokevirtual 65, 3) := by decide +kernel
theorem dL_look_7 : decode cL_look 7 = .ok (.i2l, 1) := by decide +kernel
theorem dL_look_8 : decode cL_look 8 = .ok (.lastore, 1) := by decide +kernel
theorem dL_look_9 : decode cL_look 9 = .ok (.goto 6, 3) := by decide +kernel
theorem dL_look_12 : decode cL_look 12 = .ok (.astore_n 3, 1) := by decide +kernel
theorem dL_look_13 : decode cL_look 13 = .ok (.iconst 1, 1) := by decide +kernel
theorem dL_look_14 : decode cL_look 14 = .ok (.ireturn, 1) := by decide +kernel
theorem dL_look_15 : decode cL_look 15 = .ok (.iconst 0, 1) := by decide +kernel
theorem dL_look_16 : decode cL_look 16 = .ok (.ireturn, 1) := by decide +kernel
noncomputable def r_L_look (x1 : Int32) (m : Mem) : Option (Int32 × Mem) := wrapI none (some 1) (r_X11_look x1 m)
set_option maxHeartbeats 4000000 in
theorem ok_L_look (x1 : Int32) (m : Mem) {z : Int32} {m' : Mem} (h : r_L_look x1 m = some (z, m')) : MtH yL_look cL_look 4 (some .int) [(0, 9, 12, 13)] 9 176 1 6 [vR 11 0, vI x1, vR 92 0] m (.inl (some (vI z))) m' := by
  refine MtH.of (by decide) (Nat.le_of_ble_eq_true rfl) (by decide +kernel) (by decide +kernel) ?_
  show Xj RL cL_look 4 (some .int) 9 176 1 6 0 0 0 [(0, vR 11 0), (1, vI x1), (2, vR 92 0)] [] m (.inl (some (vI z))) m'
  unfold r_L_look at h
  refine xj_aload_n 2 dL_look_0 rfl ?_
  refine xj_iconst (z := 0) dL_look_1 (by decide) ?_
  refine xj_aload_n 0 dL_look_2 rfl ?_
  refine xj_iload_n 1 dL_look_3 rfl ?_
  rcases wrapI_some h with ⟨z1, m1, e1, rfl, rfl⟩ | ⟨e1, ha⟩ | ⟨e1, ha⟩
  · refine xc_Vi (st := [vI 0, vR 92 0]) (ok_X11_look x1 m e1) dL_look_4 cv_L_65 rfl rfl (Nat.le_of_ble_eq_true rfl) (by decide) (by decide) (by decide) (by decide) ?_
    refine xj_i2l dL_look_7 ?_
    refine xj_last0 dL_look_8 ?_
    refine xj_goto (tgt := 15) dL_look_9 (by decide) ?_
    refine xj_iconst (z := 0) dL_look_15 (by decide) ?_
    exact xj_ireturn dL_look_16 rfl (by decide) (by decide)
  · cases ha
  · cases ha
    refine xj_callVc (st := [vI 0, vR 92 0]) (h := 12) (h' := 13) (ok_X11_look x1 m e1) dL_look_4 cv_L_65 rfl rfl (Nat.le_of_ble_eq_true rfl) (by decide) (by decide) (by decide) (by decide) (Or.inl ⟨9, 13, [], by decide +kernel, by decide, by decide, by decide, wt_611⟩) (Or.inl ⟨3, dL_look_12, by decide, rfl⟩) ?_
    refine xj_iconst (z := 1) dL_look_13 (by decide) ?_
    exact xj_ireturn dL_look_14 rfl (by decide) (by decide)
theorem ch_183 : CSH RL 183 yL_digs cL_digs 5 (some .int) [(0, 10, 13, 31)] 4 := ⟨wt_1261, wt_1262, wt_0, wt_1263, by decide, by decide, by decide +kernel⟩
theorem dL_digs_0 : decode cL_digs 0 = .ok (.aload_n 3, 1) := by decide +kernel
theorem dL_digs_1 : decode cL_digs 1 = .ok (.iconst 0, 1) := by decide +kernel
theorem dL_digs_2 : decode cL_digs 2 = .ok (.aload_n 0, 1) := by decide +kernel
theorem dL_digs_3 : decode cL_digs 3 = .ok (.iload_n 1, 1) := by decide +kernel
theorem dL_digs_4 : decode cL_digs 4 = .ok (.iload_n 2, 1) := by decide +kernel
theorem dL_digs_5 : decode cL_digs 5 = .ok (.invokevirtual 68, 3) := by decide +kernel
theorem dL_digs_8 : decode cL_digs 8 = .ok (.i2l, 1) := by decide +kernel
theorem dL_digs_9 : decode cL_digs 9 = .ok (.lastore, 1) := by decide +kernel
theorem dL_digs_10 : decode cL_digs 10 = .ok (.goto 7, 3) := by decide +kernel
theorem dL_digs_13 : decode cL_digs 13 = .ok (.astore 4, 2) := by decide +kernel
theorem dL_digs_15 : decode cL_digs 15 = .ok (.iconst 1, 1) := by decide +kernel
theorem dL_digs_16 : decode cL_digs 16 = .ok (.ireturn, 1) := by decide +kernel
theorem dL_digs_17 : decode cL_digs 17 = .ok (.iconst 0, 1) := by decide +kernel
theorem dL_digs_18 : decode cL_digs 18 = .ok (.ireturn, 1) := by decide +kernel
noncomputable def r_L_digs (x1 : Int32) (x2 : Int32) (m : Mem) : Option (Int32 × Mem) := wrapI (some 1) none (r_X11_digs x1 x2 m)
set_option maxHeartbeats 4000000 in
theorem ok_L_digs (x1 : Int32) (x2 : Int32) (m : Mem) {z : Int32} {m' : Mem} (h : r_L_digs x1 x2 m = some (z, m')) : MtH yL_digs cL_digs 5 (some .int) [(0, 10, 13, 31)] 9 156 2 12 [vR 11 0, vI x1, vI x2, vR 92 0] m (.inl (some (vI z))) m' := by
  refine MtH.of (by decide) (Nat.le_of_ble_eq_true rfl) (by decide +kernel) (by decide +kernel) ?_
  show Xj RL cL_digs 5 (some .int) 9 156 2 12 0 0 0 [(0, vR 11 0), (1, vI x1), (2, vI x2), (3, vR 92 0)] [] m (.inl (some (vI z))) m'
  unfold r_L_digs at h
  refine xj_aload_n 3 dL_digs_0 rfl ?_
  refine xj_iconst (z := 0) dL_digs_1 (by decide) ?_
  refine xj_aload_n 0 dL_digs_2 rfl ?_
  refine xj_iload_n 1 dL_digs_3 rfl ?_
  refine xj_iload_n 2 dL_digs_4 rfl ?_
  rcases wrapI_some h with ⟨z1, m1, e1, rfl, rfl⟩ | ⟨e1, ha⟩ | ⟨e1, ha⟩
  · refine xc_Vi (st := [vI 0, vR 92 0]) (ok_X11_digs x1 x2 m e1) dL_digs_5 cv_L_68 rfl rfl (Nat.le_of_ble_eq_true rfl) (by decide) (by decide) (by decide) (by decide) ?_
    refine xj_i2l dL_digs_8 ?_
    refine xj_last0 dL_digs_9 ?_
    refine xj_goto (tgt := 17) dL_digs_10 (by decide) ?_
    refine xj_iconst (z := 0) dL_digs_17 (by decide) ?_
    exact xj_ireturn dL_digs_18 rfl (by decide) (by decide)
  · cases ha
    refine xj_callVc (st := [vI 0, vR 92 0]) (h := 13) (h' := 15) (ok_X11_digs x1 x2 m e1) dL_digs_5 cv_L_68 rfl rfl (Nat.le_of_ble_eq_true rfl) (by decide) (by decide) (by decide) (by decide) (Or.inl ⟨10, 31, [], by decide +kernel, by decide, by decide, by decide, wt_1067⟩) (Or.inr ⟨4, dL_digs_13, by decide, rfl⟩) ?_
    refine xj_iconst (z := 1) dL_digs_15 (by decide) ?_
    exact xj_ireturn dL_digs_16 rfl (by decide) (by decide)
  · cases ha
theorem ch_186 : CSH RL 186 yL_way cL_way 5 (some .int) [(0, 10, 13, 31)] 4 := ⟨wt_1272, wt_1273, wt_0, wt_1274, by decide, by decide, by decide +kernel⟩
theorem dL_way_0 : decode cL_way 0 = .ok (.aload_n 3, 1) := by decide +kernel
theorem dL_way_1 : decode cL_way 1 = .ok (.iconst 0, 1) := by decide +kernel
theorem dL_way_2 : decode cL_way 2 = .ok (.aload_n 0, 1) := by decide +kernel
theorem dL_way_3 : decode cL_way 3 = .ok (.iload_n 1, 1) := by decide +kernel
theorem dL_way_4 : decode cL_way 4 = .ok (.iload_n 2, 1) := by decide +kernel
theorem dL_way_5 : decode cL_way 5 = .ok (.invokevirtual 71, 3) := by decide +kernel
theorem dL_way_8 : decode cL_way 8 = .ok (.i2l, 1) := by decide +kernel
theorem dL_way_9 : decode cL_way 9 = .ok (.lastore, 1) := by decide +kernel
theorem dL_way_10 : decode cL_way 10 = .ok (.goto 7, 3) := by decide +kernel
theorem dL_way_13 : decode cL_way 13 = .ok (.astore 4, 2) := by decide +kernel
theorem dL_way_15 : decode cL_way 15 = .ok (.iconst 1, 1) := by decide +kernel
theorem dL_way_16 : decode cL_way 16 = .ok (.ireturn, 1) := by decide +kernel
theorem dL_way_17 : decode cL_way 17 = .ok (.iconst 0, 1) := by decide +kernel
theorem dL_way_18 : decode cL_way 18 = .ok (.ireturn, 1) := by decide +kernel
noncomputable def r_L_way (x1 : Int32) (x2 : Int32) (m : Mem) : Option (Int32 × Mem) := wrapI (some 1) none (r_X11_way x1 x2 m)
set_option maxHeartbeats 4000000 in
theorem ok_L_way (x1 : Int32) (x2 : Int32) (m : Mem) {z : Int32} {m' : Mem} (h : r_L_way x1 x2 m = some (z, m')) : MtH yL_way cL_way 5 (some .int) [(0, 10, 13, 31)] 9 155 2 12 [vR 11 0, vI x1, vI x2, vR 92 0] m (.inl (some (vI z))) m' := by
  refine MtH.of (by decide) (Nat.le_of_ble_eq_true rfl) (by decide +kernel) (by decide +kernel) ?_
  show Xj RL cL_way 5 (some .int) 9 155 2 12 0 0 0 [(0, vR 11 0), (1, vI x1), (2, vI x2), (3, vR 92 0)] [] m (.inl (some (vI z))) m'
  unfold r_L_way at h
  refine xj_aload_n 3 dL_way_0 rfl ?_
  refine xj_iconst (z := 0) dL_way_1 (by decide) ?_
  refine xj_aload_n 0 dL_way_2 rfl ?_
  refine xj_iload_n 1 dL_way_3 rfl ?_
  refine xj_iload_n 2 dL_way_4 rfl ?_
  rcases wrapI_some h with ⟨z1, m1, e1, rfl, rfl⟩ | ⟨e1, ha⟩ | ⟨e1, ha⟩
  · refine xc_Vi (st := [vI 0, vR 92 0]) (ok_X11_way x1 x2 m e1) dL_way_5 cv_L_71 rfl rfl (Nat.le_of_ble_eq_true rfl) (by decide) (by decide) (by decide) (by decide) ?_
    refine xj_i2l dL_way_8 ?_
    refine xj_last0 dL_way_9 ?_
    refine xj_goto (tgt := 17) dL_way_10 (by decide) ?_
    refine xj_iconst (z := 0) dL_way_17 (by decide) ?_
    exact xj_ireturn dL_way_18 rfl (by decide) (by decide)
  · cases ha
    refine xj_callVc (st := [vI 0, vR 92 0]) (h := 13) (h' := 15) (ok_X11_way x1 x2 m e1) dL_way_5 cv_L_71 rfl rfl (Nat.le_of_ble_eq_true rfl) (by decide) (by decide) (by decide) (by decide) (Or.inl ⟨10, 31, [], by decide +kernel, by decide, by decide, by decide, wt_1067⟩) (Or.inr ⟨4, dL_way_13, by decide, rfl⟩) ?_
    refine xj_iconst (z := 1) dL_way_15 (by decide) ?_
    exact xj_ireturn dL_way_16 rfl (by decide) (by decide)
  · cases ha
theorem ch_189 : CSH RL 189 yL_meet cL_meet 6 (some .int) [(0, 12, 15, 31), (0, 12, 19, 13)] 5 := ⟨wt_1284, wt_1285, wt_0, wt_1286, by decide, by decide, by decide +kernel⟩
theorem dL_meet_0 : decode cL_meet 0 = .ok (.aload 4, 2) := by decide +kernel
theorem dL_meet_2 : decode cL_meet 2 = .ok (.iconst 0, 1) := by decide +kernel
theorem dL_meet_3 : decode cL_meet 3 = .ok (.aload_n 0, 1) := by decide +kernel
theorem dL_meet_4 : decode cL_meet 4 = .ok (.iload_n 1, 1) := by decide +kernel
theorem dL_meet_5 : decode cL_meet 5 = .ok (.iload_n 2, 1) := by decide +kernel
theorem dL_meet_6 : decode cL_meet 6 = .ok (.iload_n 3, 1) := by decide +kernel
theorem dL_meet_7 : decode cL_meet 7 = .ok (.invokevirtual 74, 3) := by decide +kernel
theorem dL_meet_10 : decode cL_meet 10 = .ok (.i2l, 1) := by decide +kernel
theorem dL_meet_11 : decode cL_meet 11 = .ok (.lastore, 1) := by decide +kernel
theorem dL_meet_12 : decode cL_meet 12 = .ok (.goto 11, 3) := by decide +kernel
theorem dL_meet_15 : decode cL_meet 15 = .ok (.astore 5, 2) := by decide +kernel
theorem dL_meet_17 : decode cL_meet 17 = .ok (.iconst 1, 1) := by decide +kernel
theorem dL_meet_18 : decode cL_meet 18 = .ok (.ireturn, 1) := by decide +kernel
theorem dL_meet_19 : decode cL_meet 19 = .ok (.astore 5, 2) := by decide +kernel
theorem dL_meet_21 : decode cL_meet 21 = .ok (.iconst 2, 1) := by decide +kernel
theorem dL_meet_22 : decode cL_meet 22 = .ok (.ireturn, 1) := by decide +kernel
theorem dL_meet_23 : decode cL_meet 23 = .ok (.iconst 0, 1) := by decide +kernel
theorem dL_meet_24 : decode cL_meet 24 = .ok (.ireturn, 1) := by decide +kernel
noncomputable def r_L_meet (x1 : Int32) (x2 : Int32) (x3 : Int32) (m : Mem) : Option (Int32 × Mem) := wrapI (some 1) (some 2) (r_X11_meet x1 x2 x3 m)
set_option maxHeartbeats 4000000 in
theorem ok_L_meet (x1 : Int32) (x2 : Int32) (x3 : Int32) (m : Mem) {z : Int32} {m' : Mem} (h : r_L_meet x1 x2 x3 m = some (z, m')) : MtH yL_meet cL_meet 6 (some .int) [(0, 12, 15, 31), (0, 12, 19, 13)] 9 162 3 18 [vR 11 0, vI x1, vI x2, vI x3, vR 92 0] m (.inl (some (vI z))) m' := by
  refine MtH.of (by decide) (Nat.le_of_ble_eq_true rfl) (by decide +kernel) (by decide +kernel) ?_
  show Xj RL cL_meet 6 (some .int) 9 162 3 18 0 0 0 [(0, vR 11 0), (1, vI x1), (2, vI x2), (3, vI x3), (4, vR 92 0)] [] m (.inl (some (vI z))) m'
  unfold r_L_meet at h
  refine xj_aload 4 dL_meet_0 rfl ?_
  refine xj_iconst (z := 0) dL_meet_2 (by decide) ?_
  refine xj_aload_n 0 dL_meet_3 rfl ?_
  refine xj_iload_n 1 dL_meet_4 rfl ?_
  refine xj_iload_n 2 dL_meet_5 rfl ?_
  refine xj_iload_n 3 dL_meet_6 rfl ?_
  rcases wrapI_some h with ⟨z1, m1, e1, rfl, rfl⟩ | ⟨e1, ha⟩ | ⟨e1, ha⟩
  · refine xc_Vi (st := [vI 0, vR 92 0]) (ok_X11_meet x1 x2 x3 m e1) dL_meet_7 cv_L_74 rfl rfl (Nat.le_of_ble_eq_true rfl) (by decide) (by decide) (by decide) (by decide) ?_
    refine xj_i2l dL_meet_10 ?_
    refine xj_last0 dL_meet_11 ?_
    refine xj_goto (tgt := 23) dL_meet_12 (by decide) ?_
    refine xj_iconst (z := 0) dL_meet_23 (by decide) ?_
    exact xj_ireturn dL_meet_24 rfl (by decide) (by decide)
  · cases ha
    refine xj_callVc (st := [vI 0, vR 92 0]) (h := 15) (h' := 17) (ok_X11_meet x1 x2 x3 m e1) dL_meet_7 cv_L_74 rfl rfl (Nat.le_of_ble_eq_true rfl) (by decide) (by decide) (by decide) (by decide) (Or.inl ⟨12, 31, [(0, 12, 19, 13)], by decide +kernel, by decide, by decide, by decide, wt_1067⟩) (Or.inr ⟨5, dL_meet_15, by decide, rfl⟩) ?_
    refine xj_iconst (z := 1) dL_meet_17 (by decide) ?_
    exact xj_ireturn dL_meet_18 rfl (by decide) (by decide)
  · cases ha
    refine xj_callVc (st := [vI 0, vR 92 0]) (h := 19) (h' := 21) (ok_X11_meet x1 x2 x3 m e1) dL_meet_7 cv_L_74 rfl rfl (Nat.le_of_ble_eq_true rfl) (by decide) (by decide) (by decide) (by decide) (Or.inr ⟨12, 13, 12, 31, 15, by decide +kernel, by decide, by decide, by decide, rfl, wt_611, wt_1067⟩) (Or.inr ⟨5, dL_meet_19, by decide, rfl⟩) ?_
    refine xj_iconst (z := 2) dL_meet_21 (by decide) ?_
    exact xj_ireturn dL_meet_22 rfl (by decide) (by decide)
theorem ch_196 : CSH RL 196 yL_seen cL_seen 6 (some .int) [(0, 11, 14, 13)] 5 := ⟨wt_1291, wt_1292, wt_0, wt_1293, by decide, by decide, by decide +kernel⟩
theorem dL_seen_0 : decode cL_seen 0 = .ok (.aload 4, 2) := by decide +kernel
theorem dL_seen_2 : decode cL_seen 2 = .ok (.iconst 0, 1) := by decide +kernel
theorem dL_seen_3 : decode cL_seen 3 = .ok (.aload_n 0, 1) := by decide +kernel
theorem dL_seen_4 : decode cL_seen 4 = .ok (.iload_n 1, 1) := by decide +kernel
theorem dL_seen_5 : decode cL_seen 5 = .ok (.iload_n 2, 1) := by decide +kernel
theorem dL_seen_6 : decode cL_seen 6 = .ok (.iload_n 3, 1) := by decide +kernel
theorem dL_seen_7 : decode cL_seen 7 = .ok (.invokevirtual 77, 3) := by decide +kernel
theorem dL_seen_10 : decode cL_seen 10 = .ok (.lastore, 1) := by decide +kernel
theorem dL_seen_11 : decode cL_seen 11 = .ok (.goto 7, 3) := by decide +kernel
theorem dL_seen_14 : decode cL_seen 14 = .ok (.astore 5, 2) := by decide +kernel
theorem dL_seen_16 : decode cL_seen 16 = .ok (.iconst 1, 1) := by decide +kernel
theorem dL_seen_17 : decode cL_seen 17 = .ok (.ireturn, 1) := by decide +kernel
theorem dL_seen_18 : decode cL_seen 18 = .ok (.iconst 0, 1) := by decide +kernel
theorem dL_seen_19 : decode cL_seen 19 = .ok (.ireturn, 1) := by decide +kernel
noncomputable def r_L_seen (x1 : Int32) (x2 : Int32) (x3 : Int32) (m : Mem) : Option (Int32 × Mem) := wrapL none (some 1) (r_X11_seen x1 x2 x3 m)
set_option maxHeartbeats 4000000 in
theorem ok_L_seen (x1 : Int32) (x2 : Int32) (x3 : Int32) (m : Mem) {z : Int32} {m' : Mem} (h : r_L_seen x1 x2 x3 m = some (z, m')) : MtH yL_seen cL_seen 6 (some .int) [(0, 11, 14, 13)] 9 164 3 18 [vR 11 0, vI x1, vI x2, vI x3, vR 92 0] m (.inl (some (vI z))) m' := by
  refine MtH.of (by decide) (Nat.le_of_ble_eq_true rfl) (by decide +kernel) (by decide +kernel) ?_
  show Xj RL cL_seen 6 (some .int) 9 164 3 18 0 0 0 [(0, vR 11 0), (1, vI x1), (2, vI x2), (3, vI x3), (4, vR 92 0)] [] m (.inl (some (vI z))) m'
  unfold r_L_seen at h
  refine xj_aload 4 dL_seen_0 rfl ?_
  refine xj_iconst (z := 0) dL_seen_2 (by decide) ?_
  refine xj_aload_n 0 dL_seen_3 rfl ?_
  refine xj_iload_n 1 dL_seen_4 rfl ?_
  refine xj_iload_n 2 dL_seen_5 rfl ?_
  refine xj_iload_n 3 dL_seen_6 rfl ?_
  rcases wrapL_some h with ⟨z1, m1, e1, rfl, rfl⟩ | ⟨e1, ha⟩ | ⟨e1, ha⟩
  · refine xc_Vl (st := [vI 0, vR 92 0]) (ok_X11_seen x1 x2 x3 m e1) dL_seen_7 cv_L_77 rfl rfl (Nat.le_of_ble_eq_true rfl) (by decide) (by decide) (by decide) (by decide) ?_
    refine xj_last0 dL_seen_10 ?_
    refine xj_goto (tgt := 18) dL_seen_11 (by decide) ?_
    refine xj_iconst (z := 0) dL_seen_18 (by decide) ?_
    exact xj_ireturn dL_seen_19 rfl (by decide) (by decide)
  · cases ha
  · cases ha
    refine xj_callVc (st := [vI 0, vR 92 0]) (h := 14) (h' := 16) (ok_X11_seen x1 x2 x3 m e1) dL_seen_7 cv_L_77 rfl rfl (Nat.le_of_ble_eq_true rfl) (by decide) (by decide) (by decide) (by decide) (Or.inl ⟨11, 13, [], by decide +kernel, by decide, by decide, by decide, wt_611⟩) (Or.inr ⟨5, dL_seen_14, by decide, rfl⟩) ?_
    refine xj_iconst (z := 1) dL_seen_16 (by decide) ?_
    exact xj_ireturn dL_seen_17 rfl (by decide) (by decide)
theorem ch_199 : CSH RL 199 yL_leaders cL_leaders 5 (some .int) [(0, 10, 13, 13)] 4 := ⟨wt_1303, wt_1304, wt_0, wt_1305, by decide, by decide, by decide +kernel⟩
theorem dL_leaders_0 : decode cL_leaders 0 = .ok (.aload_n 3, 1) := by decide +kernel
theorem dL_leaders_1 : decode cL_leaders 1 = .ok (.iconst 0, 1) := by decide +kernel
theorem dL_leaders_2 : decode cL_leaders 2 = .ok (.aload_n 0, 1) := by decide +kernel
theorem dL_leaders_3 : decode cL_leaders 3 = .ok (.iload_n 1, 1) := by decide +kernel
theorem dL_leaders_4 : decode cL_leaders 4 = .ok (.iload_n 2, 1) := by decide +kernel
theorem dL_leaders_5 : decode cL_leaders 5 = .ok (.invokevirtual 81, 3) := by decide +kernel
theorem dL_leaders_8 : decode cL_leaders 8 = .ok (.i2l, 1) := by decide +kernel
theorem dL_leaders_9 : decode cL_leaders 9 = .ok (.lastore, 1) := by decide +kernel
theorem dL_leaders_10 : decode cL_leaders 10 = .ok (.goto 7, 3) := by decide +kernel
theorem dL_leaders_13 : decode cL_leaders 13 = .ok (.astore 4, 2) := by decide +kernel
theorem dL_leaders_15 : decode cL_leaders 15 = .ok (.iconst 1, 1) := by decide +kernel
theorem dL_leaders_16 : decode cL_leaders 16 = .ok (.ireturn, 1) := by decide +kernel
theorem dL_leaders_17 : decode cL_leaders 17 = .ok (.iconst 0, 1) := by decide +kernel
theorem dL_leaders_18 : decode cL_leaders 18 = .ok (.ireturn, 1) := by decide +kernel
noncomputable def r_L_leaders (x1 : Int32) (x2 : Int32) (m : Mem) : Option (Int32 × Mem) := wrapI none (some 1) (r_X11_leaders x1 x2 m)
set_option maxHeartbeats 4000000 in
theorem ok_L_leaders (x1 : Int32) (x2 : Int32) (m : Mem) {z : Int32} {m' : Mem} (h : r_L_leaders x1 x2 m = some (z, m')) : MtH yL_leaders cL_leaders 5 (some .int) [(0, 10, 13, 13)] 9 179 2 12 [vR 11 0, vI x1, vI x2, vR 92 0] m (.inl (some (vI z))) m' := by
  refine MtH.of (by decide) (Nat.le_of_ble_eq_true rfl) (by decide +kernel) (by decide +kernel) ?_
  show Xj RL cL_leaders 5 (some .int) 9 179 2 12 0 0 0 [(0, vR 11 0), (1, vI x1), (2, vI x2), (3, vR 92 0)] [] m (.inl (some (vI z))) m'
  unfold r_L_leaders at h
  refine xj_aload_n 3 dL_leaders_0 rfl ?_
  refine xj_iconst (z := 0) dL_leaders_1 (by decide) ?_
  refine xj_aload_n 0 dL_leaders_2 rfl ?_
  refine xj_iload_n 1 dL_leaders_3 rfl ?_
  refine xj_iload_n 2 dL_leaders_4 rfl ?_
  rcases wrapI_some h with ⟨z1, m1, e1, rfl, rfl⟩ | ⟨e1, ha⟩ | ⟨e1, ha⟩
  · refine xc_Vi (st := [vI 0, vR 92 0]) (ok_X11_leaders x1 x2 m e1) dL_leaders_5 cv_L_81 rfl rfl (Nat.le_of_ble_eq_true rfl) (by decide) (by decide) (by decide) (by decide) ?_
    refine xj_i2l dL_leaders_8 ?_
    refine xj_last0 dL_leaders_9 ?_
    refine xj_goto (tgt := 17) dL_leaders_10 (by decide) ?_
    refine xj_iconst (z := 0) dL_leaders_17 (by decide) ?_
    exact xj_ireturn dL_leaders_18 rfl (by decide) (by decide)
  · cases ha
  · cases ha
    refine xj_callVc (st := [vI 0, vR 92 0]) (h := 13) (h' := 15) (ok_X11_leaders x1 x2 m e1) dL_leaders_5 cv_L_81 rfl rfl (Nat.le_of_ble_eq_true rfl) (by decide) (by decide) (by decide) (by decide) (Or.inl ⟨10, 13, [], by decide +kernel, by decide, by decide, by decide, wt_611⟩) (Or.inr ⟨4, dL_leaders_13, by decide, rfl⟩) ?_
    refine xj_iconst (z := 1) dL_leaders_15 (by decide) ?_
    exact xj_ireturn dL_leaders_16 rfl (by decide) (by decide)
theorem ch_202 : CSH RL 202 yL_share cL_share 6 (some .int) [(0, 12, 15, 31), (0, 12, 19, 13)] 5 := ⟨wt_1334, wt_1335, wt_0, wt_1336, by decide, by decide, by decide +kernel⟩
theorem dL_share_0 : decode cL_share 0 = .ok (.aload 4, 2) := by decide +kernel
theorem dL_share_2 : decode cL_share 2 = .ok (.iconst 0, 1) := by decide +kernel
theorem dL_share_3 : decode cL_share 3 = .ok (.aload_n 0, 1) := by decide +kernel
theorem dL_share_4 : decode cL_share 4 = .ok (.iload_n 1, 1) := by decide +kernel
theorem dL_share_5 : decode cL_share 5 = .ok (.iload_n 2, 1) := by decide +kernel
theorem dL_share_6 : decode cL_share 6 = .ok (.iload_n 3, 1) := by decide +kernel
theorem dL_share_7 : decode cL_share 7 = .ok (.invokevirtual 84, 3) := by decide +kernel
theorem dL_share_10 : decode cL_share 10 = .ok (.i2l, 1) := by decide +kernel
theorem dL_share_11 : decode cL_share 11 = .ok (.lastore, 1) := by decide +kernel
theorem dL_share_12 : decode cL_share 12 = .ok (.goto 11, 3) := by decide +kernel
theorem dL_share_15 : decode cL_share 15 = .ok (.astore 5, 2) := by decide +kernel
theorem dL_share_17 : decode cL_share 17 = .ok (.iconst 1, 1) := by decide +kernel
theorem dL_share_18 : decode cL_share 18 = .ok (.ireturn, 1) := by decide +kernel
theorem dL_share_19 : decode cL_share 19 = .ok (.astore 5, 2) := by decide +kernel
theorem dL_share_21 : decode cL_share 21 = .ok (.iconst 2, 1) := by decide +kernel
theorem dL_share_22 : decode cL_share 22 = .ok (.ireturn, 1) := by decide +kernel
theorem dL_share_23 : decode cL_share 23 = .ok (.iconst 0, 1) := by decide +kernel
theorem dL_share_24 : decode cL_share 24 = .ok (.ireturn, 1) := by decide +kernel
noncomputable def r_L_share (x1 : Int32) (x2 : Int32) (x3 : Int32) (m : Mem) : Option (Int32 × Mem) := wrapI (some 1) (some 2) (r_X11_share x1 x2 x3 m)
set_option maxHeartbeats 4000000 in
theorem ok_L_share (x1 : Int32) (x2 : Int32) (x3 : Int32) (m : Mem) {z : Int32} {m' : Mem} (h : r_L_share x1 x2 x3 m = some (z, m')) : MtH yL_share cL_share 6 (some .int) [(0, 12, 15, 31), (0, 12, 19, 13)] 9 158 3 18 [vR 11 0, vI x1, vI x2, vI x3, vR 92 0] m (.inl (some (vI z))) m' := by
  refine MtH.of (by decide) (Nat.le_of_ble_eq_true rfl) (by decide +kernel) (by decide +kernel) ?_
  show Xj RL cL_share 6 (some .int) 9 158 3 18 0 0 0 [(0, vR 11 0), (1, vI x1), (2, vI x2), (3, vI x3), (4, vR 92 0)] [] m (.inl (some (vI z))) m'
  unfold r_L_share at h
  refine xj_aload 4 dL_share_0 rfl ?_
  refine xj_iconst (z := 0) dL_share_2 (by decide) ?_
  refine xj_aload_n 0 dL_share_3 rfl ?_
  refine xj_iload_n 1 dL_share_4 rfl ?_
  refine xj_iload_n 2 dL_share_5 rfl ?_
  refine xj_iload_n 3 dL_share_6 rfl ?_
  rcases wrapI_some h with ⟨z1, m1, e1, rfl, rfl⟩ | ⟨e1, ha⟩ | ⟨e1, ha⟩
  · refine xc_Vi (st := [vI 0, vR 92 0]) (ok_X11_share x1 x2 x3 m e1) dL_share_7 cv_L_84 rfl rfl (Nat.le_of_ble_eq_true rfl) (by decide) (by decide) (by decide) (by decide) ?_
    refine xj_i2l dL_share_10 ?_
    refine xj_last0 dL_share_11 ?_
    refine xj_goto (tgt := 23) dL_share_12 (by decide) ?_
    refine xj_iconst (z := 0) dL_share_23 (by decide) ?_
    exact xj_ireturn dL_share_24 rfl (by decide) (by decide)
  · cases ha
    refine xj_callVc (st := [vI 0, vR 92 0]) (h := 15) (h' := 17) (ok_X11_share x1 x2 x3 m e1) dL_share_7 cv_L_84 rfl rfl (Nat.le_of_ble_eq_true rfl) (by decide) (by decide) (by decide) (by decide) (Or.inl ⟨12, 31, [(0, 12, 19, 13)], by decide +kernel, by decide, by decide, by decide, wt_1067⟩) (Or.inr ⟨5, dL_share_15, by decide, rfl⟩) ?_
    refine xj_iconst (z := 1) dL_share_17 (by decide) ?_
    exact xj_ireturn dL_share_18 rfl (by decide) (by decide)
  · cases ha
    refine xj_callVc (st := [vI 0, vR 92 0]) (h := 19) (h' := 21) (ok_X11_share x1 x2 x3 m e1) dL_share_7 cv_L_84 rfl rfl (Nat.le_of_ble_eq_true rfl) (by decide) (by decide) (by decide) (by decide) (Or.inr ⟨12, 13, 12, 31, 15, by decide +kernel, by decide, by decide, by decide, rfl, wt_611, wt_1067⟩) (Or.inr ⟨5, dL_share_19, by decide, rfl⟩) ?_
    refine xj_iconst (z := 2) dL_share_21 (by decide) ?_
    exact xj_ireturn dL_share_22 rfl (by decide) (by decide)
theorem ch_205 : CSH RL 205 yL_right cL_right 5 (some .int) [(0, 10, 13, 31), (0, 10, 17, 13)] 4 := ⟨wt_1345, wt_1346, wt_0, wt_1347, by decide, by decide, by decide +kernel⟩
theorem dL_right_0 : decode cL_right 0 = .ok (.aload_n 3, 1) := by decide +kernel
theorem dL_right_1 : decode cL_right 1 = .ok (.iconst 0, 1) := by decide +kernel
theorem dL_right_2 : decode cL_right 2 = .ok (.aload_n 0, 1) := by decide +kernel
theorem dL_right_3 : decode cL_right 3 = .ok (.iload_n 1, 1) := by decide +kernel
theorem dL_right_4 : decode cL_right 4 = .ok (.iload_n 2, 1) := by decide +kernel
theorem dL_right_5 : decode cL_right 5 = .ok (.invokevirtual 87, 3) := by decide +kernel
theorem dL_right_8 : decode cL_right 8 = .ok (.i2l, 1) := by decide +kernel
theorem dL_right_9 : decode cL_right 9 = .ok (.lastore, 1) := by decide +kernel
theorem dL_right_10 : decode cL_right 10 = .ok (.goto 11, 3) := by decide +kernel
theorem dL_right_13 : decode cL_right 13 = .ok (.astore 4, 2) := by decide +kernel
theorem dL_right_15 : decode cL_right 15 = .ok (.iconst 1, 1) := by decide +kernel
theorem dL_right_16 : decode cL_right 16 = .ok (.ireturn, 1) := by decide +kernel
theorem dL_right_17 : decode cL_right 17 = .ok (.astore 4, 2) := by decide +kernel
theorem dL_right_19 : decode cL_right 19 = .ok (.iconst 2, 1) := by decide +kernel
theorem dL_right_20 : decode cL_right 20 = .ok (.ireturn, 1) := by decide +kernel
theorem dL_right_21 : decode cL_right 21 = .ok (.iconst 0, 1) := by decide +kernel
theorem dL_right_22 : decode cL_right 22 = .ok (.ireturn, 1) := by decide +kernel
noncomputable def r_L_right (x1 : Int32) (x2 : Int32) (m : Mem) : Option (Int32 × Mem) := wrapI (some 1) (some 2) (r_X11_right x1 x2 m)
set_option maxHeartbeats 4000000 in
theorem ok_L_right (x1 : Int32) (x2 : Int32) (m : Mem) {z : Int32} {m' : Mem} (h : r_L_right x1 x2 m = some (z, m')) : MtH yL_right cL_right 5 (some .int) [(0, 10, 13, 31), (0, 10, 17, 13)] 9 161 2 12 [vR 11 0, vI x1, vI x2, vR 92 0] m (.inl (some (vI z))) m' := by
  refine MtH.of (by decide) (Nat.le_of_ble_eq_true rfl) (by decide +kernel) (by decide +kernel) ?_
  show Xj RL cL_right 5 (some .int) 9 161 2 12 0 0 0 [(0, vR 11 0), (1, vI x1), (2, vI x2), (3, vR 92 0)] [] m (.inl (some (vI z))) m'
  unfold r_L_right at h
  refine xj_aload_n 3 dL_right_0 rfl ?_
  refine xj_iconst (z := 0) dL_right_1 (by decide) ?_
  refine xj_aload_n 0 dL_right_2 rfl ?_
  refine xj_iload_n 1 dL_right_3 rfl ?_
  refine xj_iload_n 2 dL_right_4 rfl ?_
  rcases wrapI_some h with ⟨z1, m1, e1, rfl, rfl⟩ | ⟨e1, ha⟩ | ⟨e1, ha⟩
  · refine xc_Vi (st := [vI 0, vR 92 0]) (ok_X11_right x1 x2 m e1) dL_right_5 cv_L_87 rfl rfl (Nat.le_of_ble_eq_true rfl) (by decide) (by decide) (by decide) (by decide) ?_
    refine xj_i2l dL_right_8 ?_
    refine xj_last0 dL_right_9 ?_
    refine xj_goto (tgt := 21) dL_right_10 (by decide) ?_
    refine xj_iconst (z := 0) dL_right_21 (by decide) ?_
    exact xj_ireturn dL_right_22 rfl (by decide) (by decide)
  · cases ha
    refine xj_callVc (st := [vI 0, vR 92 0]) (h := 13) (h' := 15) (ok_X11_right x1 x2 m e1) dL_right_5 cv_L_87 rfl rfl (Nat.le_of_ble_eq_true rfl) (by decide) (by decide) (by decide) (by decide) (Or.inl ⟨10, 31, [(0, 10, 17, 13)], by decide +kernel, by decide, by decide, by decide, wt_1067⟩) (Or.inr ⟨4, dL_right_13, by decide, rfl⟩) ?_
    refine xj_iconst (z := 1) dL_right_15 (by decide) ?_
    exact xj_ireturn dL_right_16 rfl (by decide) (by decide)
  · cases ha
    refine xj_callVc (st := [vI 0, vR 92 0]) (h := 17) (h' := 19) (ok_X11_right x1 x2 m e1) dL_right_5 cv_L_87 rfl rfl (Nat.le_of_ble_eq_true rfl) (by decide) (by decide) (by decide) (by decide) (Or.inr ⟨10, 13, 10, 31, 13, by decide +kernel, by decide, by decide, by decide, rfl, wt_611, wt_1067⟩) (Or.inr ⟨4, dL_right_17, by decide, rfl⟩) ?_
    refine xj_iconst (z := 2) dL_right_19 (by decide) ?_
    exact xj_ireturn dL_right_20 rfl (by decide) (by decide)
theorem ch_208 : CSH RL 208 yL_blank cL_blank 4 (some .int) [(0, 9, 12, 13)] 3 := ⟨wt_1352, wt_1353, wt_0, wt_1354, by decide, by decide, by decide +kernel⟩
theorem dL_blank_0 : decode cL_blank 0 = .ok (.aload_n 2, 1) := by decide +kernel
theorem dL_blank_1 : decode cL_blank 1 = .ok (.iconst 0, 1) := by decide +kernel
theorem dL_blank_2 : decode cL_blank 2 = .ok (.aload_n 0, 1) := by decide +kernel
theorem dL_blank_3 : decode cL_blank 3 = .ok (.iload_n 1, 1) := by decide +kernel
theorem dL_blank_4 : decode cL_blank 4 = .ok (.invokevirtual 90, 3) := by decide +kernel
theorem dL_blank_7 : decode cL_blank 7 = .ok (.i2l, 1) := by decide +kernel
theorem dL_blank_8 : decode cL_blank 8 = .ok (.lastore, 1) := by decide +kernel
theorem dL_blank_9 : decode cL_blank 9 = .ok (.goto 6, 3) := by decide +kernel
theorem dL_blank_12 : decode cL_blank 12 = .ok (.astore_n 3, 1) := by decide +kernel
theorem dL_blank_13 : decode cL_blank 13 = .ok (.iconst 1, 1) := by decide +kernel
theorem dL_blank_14 : decode cL_blank 14 = .ok (.ireturn, 1) := by decide +kernel
theorem dL_blank_15 : decode cL_blank 15 = .ok (.iconst 0, 1) := by decide +kernel
theorem dL_blank_16 : decode cL_blank 16 = .ok (.ireturn, 1) := by decide +kernel
noncomputable def r_L_blank (x1 : Int32) (m : Mem) : Option (Int32 × Mem) := wrapI none (some 1) (r_X11_blank x1 m)
set_option maxHeartbeats 4000000 in
theorem ok_L_blank (x1 : Int32) (m : Mem) {z : Int32} {m' : Mem} (h : r_L_blank x1 m = some (z, m')) : MtH yL_blank cL_blank 4 (some .int) [(0, 9, 12, 13)] 9 158 1 6 [vR 11 0, vI x1, vR 92 0] m (.inl (some (vI z))) m' := by
  refine MtH.of (by decide) (Nat.le_of_ble_eq_true rfl) (by decide +kernel) (by decide +kernel) ?_
  show Xj RL cL_blank 4 (some .int) 9 158 1 6 0 0 0 [(0, vR 11 0), (1, vI x1), (2, vR 92 0)] [] m (.inl (some (vI z))) m'
  unfold r_L_blank at h
  refine xj_aload_n 2 dL_blank_0 rfl ?_
  refine xj_iconst (z := 0) dL_blank_1 (by decide) ?_
  refine xj_aload_n 0 dL_blank_2 rfl ?_
  refine xj_iload_n 1 dL_blank_3 rfl ?_
  rcases wrapI_some h with ⟨z1, m1, e1, rfl, rfl⟩ | ⟨e1, ha⟩ | ⟨e1, ha⟩
  · refine xc_Vi (st := [vI 0, vR 92 0]) (ok_X11_blank x1 m e1) dL_blank_4 cv_L_90 rfl rfl (Nat.le_of_ble_eq_true rfl) (by decide) (by decide) (by decide) (by decide) ?_
    refine xj_i2l dL_blank_7 ?_
    refine xj_last0 dL_blank_8 ?_
    refine xj_goto (tgt := 15) dL_blank_9 (by decide) ?_
    refine xj_iconst (z := 0) dL_blank_15 (by decide) ?_
    exact xj_ireturn dL_blank_16 rfl (by decide) (by decide)
  · cases ha
  · cases ha
    refine xj_callVc (st := [vI 0, vR 92 0]) (h := 12) (h' := 13) (ok_X11_blank x1 m e1) dL_blank_4 cv_L_90 rfl rfl (Nat.le_of_ble_eq_true rfl) (by decide) (by decide) (by decide) (by decide) (Or.inl ⟨9, 13, [], by decide +kernel, by decide, by decide, by decide, wt_611⟩) (Or.inl ⟨3, dL_blank_12, by decide, rfl⟩) ?_
    refine xj_iconst (z := 1) dL_blank_13 (by decide) ?_
    exact xj_ireturn dL_blank_14 rfl (by decide) (by decide)
theorem ch_215 : CSH RL 215 yL_year cL_year 7 (some .int) [(0, 14, 17, 13)] 6 := ⟨wt_1359, wt_1360, wt_0, wt_1361, by decide, by decide, by decide +kernel⟩
theorem dL_year_0 : decode cL_year 0 = .ok (.aload 5, 2) := by decide +kernel
theorem dL_year_2 : decode cL_year 2 = .ok (.iconst 0, 1) := by decide +kernel
theorem dL_year_3 : decode cL_year 3 = .ok (.aload_n 0, 1) := by decide +kernel
theorem dL_year_4 : decode cL_year 4 = .ok (.iload_n 1, 1) := by decide +kernel
theorem dL_year_5 : decode cL_year 5 = .ok (.iload_n 2, 1) := by decide +kernel
theorem dL_year_6 : decode cL_year 6 = .ok (.iload_n 3, 1) := by decide +kernel
theorem dL_year_7 : decode cL_year 7 = .ok (.iload 4, 2) := by decide +kernel
theorem dL_year_9 : decode cL_year 9 = .ok (.invokevirtual 93, 3) := by decide +kernel
theorem dL_year_12 : decode cL_year 12 = .ok (.i2l, 1) := by decide +kernel
theorem dL_year_13 : decode cL_year 13 = .ok (.lastore, 1) := by decide +kernel
theorem dL_year_14 : decode cL_year 14 = .ok (.goto 7, 3) := by decide +kernel
theorem dL_year_17 : decode cL_year 17 = .ok (.astore 6, 2) := by decide +kernel
theorem dL_year_19 : decode cL_year 19 = .ok (.iconst 1, 1) := by decide +kernel
theorem dL_year_20 : decode cL_year 20 = .ok (.ireturn, 1) := by decide +kernel
theorem dL_year_21 : decode cL_year 21 = .ok (.iconst 0, 1) := by decide +kernel
theorem dL_year_22 : decode cL_year 22 = .ok (.ireturn, 1) := by decide +kernel
noncomputable def r_L_year (x1 : Int32) (x2 : Int32) (x3 : Int32) (x4 : Int32) (m : Mem) : Option (Int32 × Mem) := wrapI none (some 1) (r_X11_year x1 x2 x3 x4 m)
set_option maxHeartbeats 4000000 in
theorem ok_L_year (x1 : Int32) (x2 : Int32) (x3 : Int32) (x4 : Int32) (m : Mem) {z : Int32} {m' : Mem} (h : r_L_year x1 x2 x3 x4 m = some (z, m')) : MtH yL_year cL_year 7 (some .int) [(0, 14, 17, 13)] 9 158 3 18 [vR 11 0, vI x1, vI x2, vI x3, vI x4, vR 92 0] m (.inl (some (vI z))) m' := by
  refine MtH.of (by decide) (Nat.le_of_ble_eq_true rfl) (by decide +kernel) (by decide +kernel) ?_
  show Xj RL cL_year 7 (some .int) 9 158 3 18 0 0 0 [(0, vR 11 0), (1, vI x1), (2, vI x2), (3, vI x3), (4, vI x4), (5, vR 92 0)] [] m (.inl (some (vI z))) m'
  unfold r_L_year at h
  refine xj_aload 5 dL_year_0 rfl ?_
  refine xj_iconst (z := 0) dL_year_2 (by decide) ?_
  refine xj_aload_n 0 dL_year_3 rfl ?_
  refine xj_iload_n 1 dL_year_4 rfl ?_
  refine xj_iload_n 2 dL_year_5 rfl ?_
  refine xj_iload_n 3 dL_year_6 rfl ?_
  refine xj_iload 4 dL_year_7 rfl ?_
  rcases wrapI_some h with ⟨z1, m1, e1, rfl, rfl⟩ | ⟨e1, ha⟩ | ⟨e1, ha⟩
  · refine xc_Vi (st := [vI 0, vR 92 0]) (ok_X11_year x1 x2 x3 x4 m e1) dL_year_9 cv_L_93 rfl rfl (Nat.le_of_ble_eq_true rfl) (by decide) (by decide) (by decide) (by decide) ?_
    refine xj_i2l dL_year_12 ?_
    refine xj_last0 dL_year_13 ?_
    refine xj_goto (tgt := 21) dL_year_14 (by decide) ?_
    refine xj_iconst (z := 0) dL_year_21 (by decide) ?_
    exact xj_ireturn dL_year_22 rfl (by decide) (by decide)
  · cases ha
  · cases ha
    refine xj_callVc (st := [vI 0, vR 92 0]) (h := 17) (h' := 19) (ok_X11_year x1 x2 x3 x4 m e1) dL_year_9 cv_L_93 rfl rfl (Nat.le_of_ble_eq_true rfl) (by decide) (by decide) (by decide) (by decide) (Or.inl ⟨14, 13, [], by decide +kernel, by decide, by decide, by decide, wt_611⟩) (Or.inr ⟨6, dL_year_17, by decide, rfl⟩) ?_
    refine xj_iconst (z := 1) dL_year_19 (by decide) ?_
    exact xj_ireturn dL_year_20 rfl (by decide) (by decide)
theorem ch_219 : CSH RL 219 yL_span cL_span 9 (some .int) [(0, 18, 21, 13)] 8 := ⟨wt_1384, wt_1385, wt_0, wt_1386, by decide, by decide, by decide +kernel⟩
theorem dL_span_0 : decode cL_span 0 = .ok (.aload 7, 2) := by decide +kernel
theorem dL_span_2 : decode cL_span 2 = .ok (.iconst 0, 1) := by decide +kernel
theorem dL_span_3 : decode cL_span 3 = .ok (.aload_n 0, 1) := by decide +kernel
theorem dL_span_4 : decode cL_span 4 = .ok (.iload_n 1, 1) := by decide +kernel
theorem dL_span_5 : decode cL_span 5 = .ok (.iload_n 2, 1) := by decide +kernel
theorem dL_span_6 : decode cL_span 6 = .ok (.iload_n 3, 1) := by decide +kernel
theorem dL_span_7 : decode cL_span 7 = .ok (.iload 4, 2) := by decide +kernel
theorem dL_span_9 : decode cL_span 9 = .ok (.iload 5, 2) := by decide +kernel
theorem dL_span_11 : decode cL_span 11 = .ok (.iload 6, 2) := by decide +kernel
theorem dL_span_13 : decode cL_span 13 = .ok (.invokevirtual 97, 3) := by decide +kernel
theorem dL_span_16 : decode cL_span 16 = .ok (.i2l, 1) := by decide +kernel
theorem dL_span_17 : decode cL_span 17 = .ok (.lastore, 1) := by decide +kernel
theorem dL_span_18 : decode cL_span 18 = .ok (.goto 7, 3) := by decide +kernel
theorem dL_span_21 : decode cL_span 21 = .ok (.astore 8, 2) := by decide +kernel
theorem dL_span_23 : decode cL_span 23 = .ok (.iconst 1, 1) := by decide +kernel
theorem dL_span_24 : decode cL_span 24 = .ok (.ireturn, 1) := by decide +kernel
theorem dL_span_25 : decode cL_span 25 = .ok (.iconst 0, 1) := by decide +kernel
theorem dL_span_26 : decode cL_span 26 = .ok (.ireturn, 1) := by decide +kernel
noncomputable def r_L_span (x1 : Int32) (x2 : Int32) (x3 : Int32) (x4 : Int32) (x5 : Int32) (x6 : Int32) (m : Mem) : Option (Int32 × Mem) := wrapI none (some 1) (r_X11_span x1 x2 x3 x4 x5 x6 m)
set_option maxHeartbeats 4000000 in
theorem ok_L_span (x1 : Int32) (x2 : Int32) (x3 : Int32) (x4 : Int32) (x5 : Int32) (x6 : Int32) (m : Mem) {z : Int32} {m' : Mem} (h : r_L_span x1 x2 x3 x4 x5 x6 m = some (z, m')) : MtH yL_span cL_span 9 (some .int) [(0, 18, 21, 13)] 9 164 5 30 [vR 11 0, vI x1, vI x2, vI x3, vI x4, vI x5, vI x6, vR 92 0] m (.inl (some (vI z))) m' := by
  refine MtH.of (by decide) (Nat.le_of_ble_eq_true rfl) (by decide +kernel) (by decide +kernel) ?_
  show Xj RL cL_span 9 (some .int) 9 164 5 30 0 0 0 [(0, vR 11 0), (1, vI x1), (2, vI x2), (3, vI x3), (4, vI x4), (5, vI x5), (6, vI x6), (7, vR 92 0)] [] m (.inl (some (vI z))) m'
  unfold r_L_span at h
  refine xj_aload 7 dL_span_0 rfl ?_
  refine xj_iconst (z := 0) dL_span_2 (by decide) ?_
  refine xj_aload_n 0 dL_span_3 rfl ?_
  refine xj_iload_n 1 dL_span_4 rfl ?_
  refine xj_iload_n 2 dL_span_5 rfl ?_
  refine xj_iload_n 3 dL_span_6 rfl ?_
  refine xj_iload 4 dL_span_7 rfl ?_
  refine xj_iload 5 dL_span_9 rfl ?_
  refine xj_iload 6 dL_span_11 rfl ?_
  rcases wrapI_some h with ⟨z1, m1, e1, rfl, rfl⟩ | ⟨e1, ha⟩ | ⟨e1, ha⟩
  · refine xc_Vi (st := [vI 0, vR 92 0]) (ok_X11_span x1 x2 x3 x4 x5 x6 m e1) dL_span_13 cv_L_97 rfl rfl (Nat.le_of_ble_eq_true rfl) (by decide) (by decide) (by decide) (by decide) ?_
    refine xj_i2l dL_span_16 ?_
    refine xj_last0 dL_span_17 ?_
    refine xj_goto (tgt := 25) dL_span_18 (by decide) ?_
    refine xj_iconst (z := 0) dL_span_25 (by decide) ?_
    exact xj_ireturn dL_span_26 rfl (by decide) (by decide)
  · cases ha
  · cases ha
    refine xj_callVc (st := [vI 0, vR 92 0]) (h := 21) (h' := 23) (ok_X11_span x1 x2 x3 x4 x5 x6 m e1) dL_span_13 cv_L_97 rfl rfl (Nat.le_of_ble_eq_true rfl) (by decide) (by decide) (by decide) (by decide) (Or.inl ⟨18, 13, [], by decide +kernel, by decide, by decide, by decide, wt_611⟩) (Or.inr ⟨8, dL_span_21, by decide, rfl⟩) ?_
    refine xj_iconst (z := 1) dL_span_23 (by decide) ?_
    exact xj_ireturn dL_span_24 rfl (by decide) (by decide)
