/-! ### Math.min and Math.max -/
def imin (x y : Int32) : Int32 := if y < x then y else x
def imax (x y : Int32) : Int32 := if x < y then y else x
/-- the words of a call of Math.min, Math.max -/
def CM (own : String) (idx : Nat) (y : MethodName) (b : ByteArray) : Prop := Cond.methodLink own idx y ∈ W0 ∧ Cond.static y ∈ W0 ∧ Cond.initialized "java/lang/Math" ∈ W0 ∧ Cond.code y b 2 (some .int) ∈ W0
section XR
variable {own : String} {cc : ByteArray} {nL : Nat} {rt : Option FieldType} {fr lo mc ms u v pc : Nat} {ls : List (Nat × AV)} {st : List AV} {M : Mem} {o : Ou} {M' : Mem}
theorem xj_min {idx : Nat} {x y : Int32} (hd : decode cc pc = .ok (.invokestatic idx, 3)) (hc : CM own idx Lib.Math.min.name Lib.Math.min.code) (h1 : 1 ≤ fr) (h2 : wgt st + 13 ≤ lo) (h3 : u ≤ mc) (h4 : v ≤ ms) (kk : Xj own cc nL rt fr lo mc ms u v (pc + 3) ls (vI (imin x y) :: st) M o M') : Xj own cc nL rt fr lo mc ms u v pc ls (vI y :: vI x :: st) M o M' := by
  intro l s0 D cA p e s m args below meth c C adE LE ad L H locs lsA hE hR hl hs hS hv
  obtain ⟨w1, w2, w3, w4⟩ := hc
  have hts := C.2.2.2.2.2.1
  exact va_mmin C.1 C.2.1 (C.2.2.1.trans hv.1.symm) C.2.2.2.2.1 (hts _ w1) (hts _ w2) (hts _ w3) (hts _ w4) h1 (by show ((stc ad st).map fun z => z.category).sum + _ ≤ lo; rw [wgt_eq]; exact h2) h3 h4 hd (kk l s0 D cA p e s m args below meth c C adE LE ad L H locs lsA hE hR hl ⟨trivial, hs.2.2⟩ hS hv)
theorem xj_max {idx : Nat} {x y : Int32} (hd : decode cc pc = .ok (.invokestatic idx, 3)) (hc : CM own idx Lib.Math.max.name Lib.Math.max.code) (h1 : 1 ≤ fr) (h2 : wgt st + 13 ≤ lo) (h3 : u ≤ mc) (h4 : v ≤ ms) (kk : Xj own cc nL rt fr lo mc ms u v (pc + 3) ls (vI (imax x y) :: st) M o M') : Xj own cc nL rt fr lo mc ms u v pc ls (vI y :: vI x :: st) M o M' := by
  intro l s0 D cA p e s m args below meth c C adE LE ad L H locs lsA hE hR hl hs hS hv
  obtain ⟨w1, w2, w3, w4⟩ := hc
  have hts := C.2.2.2.2.2.1
  exact va_mmax C.1 C.2.1 (C.2.2.1.trans hv.1.symm) C.2.2.2.2.1 (hts _ w1) (hts _ w2) (hts _ w3) (hts _ w4) h1 (by show ((stc ad st).map fun z => z.category).sum + _ ≤ lo; rw [wgt_eq]; exact h2) h3 h4 hd (kk l s0 D cA p e s m args below meth c C adE LE ad L H locs lsA hE hR hl ⟨trivial, hs.2.2⟩ hS hv)
end XR
theorem cm_X11_365 : CM RX11 365 Lib.Math.min.name Lib.Math.min.code := ⟨wt_620, wt_621, wt_15, wt_622⟩
theorem cm_X11_380 : CM RX11 380 Lib.Math.max.name Lib.Math.max.code := ⟨wt_1391, wt_1259, wt_15, wt_1260⟩
theorem cm_X0_148 : CM RX0 148 Lib.Math.max.name Lib.Math.max.code := ⟨wt_1258, wt_1259, wt_15, wt_1260⟩
theorem cm_X8_58 : CM RX8 58 Lib.Math.min.name Lib.Math.min.code := ⟨wt_811, wt_621, wt_15, wt_622⟩
