/-! ### truth values and characters that come back, the program's texts, what is thrown -/
def strQ (n : Nat) : String × Nat × String × List Int32 := strL.getD n ("", 0, "", [])
theorem strQ_at {n : Nat} (h : n < strL.length) : strL[n]? = some (strQ n) := by
  unfold strQ
  rw [List.getD_eq_getElem?_getD, List.getElem?_eq_getElem h]
  rfl
theorem inb2 {x : Int32} (h : inb x 2 = true) : x = b2i (decide (x = 1)) := by
  have h1 := of_decide_eq_true h
  have h2 : x = 0 ∨ x = 1 := by
    have h3 : x.toInt = 0 ∨ x.toInt = 1 := by omega
    rcases h3 with h3 | h3
    · exact Or.inl (Int32.toInt_inj.mp h3)
    · exact Or.inr (Int32.toInt_inj.mp h3)
  rcases h2 with rfl | rfl <;> rfl
theorem nar_ch {x : Int32} (h : inb x 65536 = true) : narrow .char (.int x) = .int x := by
  have h1 := of_decide_eq_true h
  show Value.int _ = Value.int _
  congr 1
  apply Int32.toInt_inj.mp
  have h3 : x.toBitVec.msb = false := by
    rw [BitVec.msb_eq_toInt]
    have : x.toBitVec.toInt = x.toInt := rfl
    rw [this]
    exact decide_eq_false (by omega)
  have h4 : (x.toBitVec.toNat : Int) = x.toInt := by
    have : x.toBitVec.toInt = x.toInt := rfl
    rw [← this, BitVec.toInt_eq_toNat_of_msb h3]
  have h5 : x.toUInt32.toNat = x.toBitVec.toNat := rfl
  have h6 : x.toUInt32.toUInt16.toUInt32.toNat = x.toUInt32.toNat := by
    show x.toUInt32.toNat % 65536 = _
    exact Nat.mod_eq_of_lt (by omega)
  have h7 : x.toUInt32.toUInt16.toUInt32 = x.toUInt32 := UInt32.toNat_inj.mp h6
  rw [h7]
  rfl
section XR
variable {own : String} {cc : ByteArray} {nL : Nat} {rt : Option FieldType} {fr lo mc ms u v pc : Nat} {ls : List (Nat × AV)} {st : List AV} {M : Mem} {o : Ou} {M' : Mem}
theorem xj_iretB {x : Int32} (hd : decode cc pc = .ok (.ireturn, 1)) (h : inb x 2 = true) (hu : u ≤ mc) (hvv : v ≤ ms) : Xj own cc nL (some .boolean) fr lo mc ms u v pc ls [vI x] M (oB (decide (x = 1))) M := by
  have e := inb2 h
  have k := xj_ireturn (own := own) (cc := cc) (nL := nL) (fr := fr) (lo := lo) (ls := ls) (M := M) (x := b2i (decide (x = 1))) hd (nar_b2i _) hu hvv
  rw [← e] at k
  show Xj own cc nL (some .boolean) fr lo mc ms u v pc ls [vI x] M (.inl (some (vI (b2i (decide (x = 1)))))) M
  rw [← e]
  exact k
end XR
theorem th_0 : TH "BeliefRiver" 400 402 404 0 23 := ⟨13, prog_30_method_4_code, _, _, ⟨by decide +kernel, by decide +kernel, by decide +kernel, by decide +kernel⟩, rfl, by decide +kernel, by decide +kernel, by decide +kernel, by decide +kernel⟩
theorem th_1 : TH "BeliefRiver" 407 409 411 1 0 := ⟨7, prog_19_method_2_code, _, _, ⟨by decide +kernel, by decide +kernel, by decide +kernel, by decide +kernel⟩, rfl, by decide +kernel, by decide +kernel, by decide +kernel, by decide +kernel⟩
