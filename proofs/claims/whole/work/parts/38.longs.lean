/-! ### the law's one long -/
section XR
variable {own : String} {cc : ByteArray} {nL : Nat} {rt : Option FieldType} {fr lo mc ms u v pc : Nat} {ls : List (Nat × AV)} {st : List AV} {M : Mem} {o : Ou} {M' : Mem}
theorem xj_lald {k i : Nat} {x : Int32} (hd : decode cc pc = .ok (.laload, 1)) (hT : shT k = 2) (hk : k < 93) (hx : vp_in x (shN k)) (kk : Xj own cc nL rt fr lo mc ms u v (pc + 1) ls (vL (jL (M k i (2 * x.toNatClampNeg)) (M k i (2 * x.toNatClampNeg + 1))) :: st) M o M') : Xj own cc nL rt fr lo mc ms u v pc ls (vI x :: vR k i :: st) M o M' := by
  intro l s0 D cA p e s m args below meth c C adE LE ad L H locs lsA hE hR hl hs hS hv
  obtain ⟨q0, hq, hg⟩ := wl_get (cA := cA) hR.2.2.1 (avk_in hs.2.1 (by omega)) (by omega) (by rw [hT]; decide)
  rw [cellE_long hT] at hg
  exact va_lald C.1 C.2.1 (GF.K C.2.2.2.2.2.2.2.2.2.1 C.2.2.2.2.2.2.2.2.1.alike) hR.1 q0 2 hg rfl hx hd (kk l s0 D cA p e s m args below meth c C adE LE ad L H locs lsA hE hR hl ⟨trivial, hs.2.2⟩ hS hv)
def wrL (M : Mem) (k i j : Nat) (z : Int64) : Mem := wr (wr M k i (2 * j) (loL z)) k i (2 * j + 1) (hiL z)
theorem xj_last {k i : Nat} {x : Int32} {z : Int64} (hd : decode cc pc = .ok (.lastore, 1)) (hT : shT k = 2) (hk : k < 93) (hr : ∀ j, shR k i j = none) (hx : vp_in x (shN k)) (kk : Xj own cc nL rt fr lo mc ms u v (pc + 1) ls st (wrL M k i x.toNatClampNeg z) o M') : Xj own cc nL rt fr lo mc ms u v pc ls (vL z :: vI x :: vR k i :: st) M o M' := by
  intro l s0 D cA p e s m args below meth c C adE LE ad L H locs lsA hE hR hl hs hS hv
  obtain ⟨q0, hq, hg⟩ := wl_get (cA := cA) hR.2.2.1 (avk_in hs.2.2.1 (by omega)) (by omega) (by rw [hT]; decide)
  have hg0 := hg
  rw [cellE_long hT] at hg
  refine va_last C.1 C.2.1 (GF.K C.2.2.2.2.2.2.2.2.2.1 C.2.2.2.2.2.2.2.2.1.alike) hR.1 hR.2.1 hS q0 2 hg rfl hx hd ?_
  intro H1 locs1 hP hD hS1
  have hfun : vp_updL (fun j => jL (M k i (2 * j)) (M k i (2 * j + 1))) x.toNatClampNeg z = fun j => jL (wrL M k i x.toNatClampNeg z k i (2 * j)) (wrL M k i x.toNatClampNeg z k i (2 * j + 1)) := by
    funext j
    unfold vp_updL wrL wr
    by_cases hj : j = x.toNatClampNeg
    · subst hj
      rw [if_pos rfl, if_neg (by omega), if_pos ⟨rfl, rfl, rfl⟩, if_pos ⟨rfl, rfl, rfl⟩, jL_of]
    · rw [if_neg hj, if_neg (by omega), if_neg (by omega), if_neg (by omega), if_neg (by omega)]
  rw [hfun] at hP hD
  have hw2 := wl_set (M2 := wrL M k i x.toNatClampNeg z) (e := .inl (cA 2, shN k, .inr (.inl (fun j => jL (wrL M k i x.toNatClampNeg z k i (2 * j)) (wrL M k i x.toNatClampNeg z k i (2 * j + 1)))))) hR.2.1 (by omega) hq hg0 (by rw [cellE_long hT]) (fun a b hab => cellE_congr (by unfold wrL; rw [wr_ne hab, wr_ne hab]))
  rw [hw2] at hP hD
  have h94 : ¬ k = 94 := by omega
  exact kk l s0 D cA p e s m args below meth c C adE LE ad L H1 locs1 lsA hE ⟨hP, hD, (hR.2.2.1.wr (hr _) h94).wr (hr _) h94, (hR.2.2.2.1.wr (by omega)).wr (by omega), keep_old C.2.2.2.2.2.2.2.2.2.2.2 C.2.2.2.2.2.2.2.2.2.2.1 hS1⟩ hl hs.2.2.2 hS1 hv
theorem xj_newl {k i : Nat} {n : Int32} (hd : decode cc pc = .ok (.newarray .long, 2)) (ha : Cond.arrayClass .long ∈ W0) (hT : shT k = 2) (hk : k < 93) (hf : M 94 k i = 0) (hn : ¬ n < 0) (hN : n.toNatClampNeg = shN k) (hB : shN k ≤ 100000) (h1 : u + 1 ≤ mc) (h2 : v + shN k ≤ ms) (kk : Xj own cc nL rt fr lo mc ms (u + 1) (v + shN k) (pc + 2) ls (vR k i :: st) (nw M k i) o M') : Xj own cc nL rt fr lo mc ms u v pc ls (vI n :: st) M o M' := by
  intro l s0 D cA p e s m args below meth c C adE LE ad L H locs lsA hE hR hl hs hS hv
  have hts := C.2.2.2.2.2.1
  have hK := GF.K C.2.2.2.2.2.2.2.2.2.1 C.2.2.2.2.2.2.2.2.1.alike
  refine va_newa (atype := .long) (a0 := (shN k, .inr (.inl (fun _ => 0)))) C.1 C.2.1 (hts _ ha) rfl hK hR.1 hR.2.1 hS (fun q hq => Nat.le_trans C.2.2.2.2.2.2.2.2.2.2.1 hq) (fun _ => rfl) hn hN (by show shN k * 8 ≤ _; omega) h1 h2 hd ?_
  intro q cA9 H1 hK9 hP hD hS1
  have e9 : cA9 = cA 2 := Option.some.inj (((hK9.2 6 (cA9, .long) rfl).2 : s.vm.findClass _ = some cA9).symm.trans ((hK.2 2 (cA 2, .long) rfl).2 : s.vm.findClass _ = some (cA 2)))
  refine xj_born C hE hR hl hs.2 hS1 hv (x := (k, i)) (decide_eq_true (Or.inl ⟨arr13 (by rw [hT]; decide) hk, hk⟩)) (by show ¬ shT (bas k) = 3; rw [bas_self (by omega), hT]; decide) hf hP hD ?_ kk
  show _ = cellE cA _ _ (bas k) i
  rw [bas_self (by omega), cellE_long hT, e9]
  have e0 : (fun j => jL (nw M k i k i (2 * j)) (nw M k i k i (2 * j + 1))) = fun _ => (0 : Int64) := by
    funext j
    have a1 := nw_at M k i (2 * j)
    have a2 := nw_at M k i (2 * j + 1)
    rw [bas_self (by omega)] at a1 a2
    rw [a1, a2]
    decide
  show Sum.inl (cA 2, shN k, Sum.inr (Sum.inl (fun _ => 0))) = Sum.inl (cA 2, shN k, Sum.inr (Sum.inl (fun j => jL (nw M k i k i (2 * j)) (nw M k i k i (2 * j + 1)))))
  rw [e0]
end XR
