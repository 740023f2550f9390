/-! ### ends, calls, switches -/
theorem va_SF {s0 s t : State} {H : Heap} {locs : List Loc} (hS : va_S (Ab s0) s.heap H locs) (ht : t.heap = H) : va_F (Ab s0) s t := hS.F ht
section XR
variable {own : String} {cc : ByteArray} {nL : Nat} {rt : Option FieldType} {fr lo mc ms u v pc : Nat} {ls : List (Nat × AV)} {st : List AV} {M : Mem} {o : Ou} {M' : Mem}
theorem xj_ireturn {x : Int32} {ty : FieldType} (hd : decode cc pc = .ok (.ireturn, 1)) (hn : narrow ty (.int x) = .int x) (hu : u ≤ mc) (hvv : v ≤ ms) : Xj own cc nL (some ty) fr lo mc ms u v pc ls [vI x] M (.inl (some (vI x))) M := by
  intro l s0 D cA p e s m args below meth c C adE LE ad L H locs lsA hE hR hl hs hS hv
  refine W.widen hu hvv (vx_ret (W.zret (v := x) C.1 C.2.1 C.2.2.2.1 hn (fun t ht hW => ⟨⟨_, rfl, rfl, fun w hw => by cases hw; trivial⟩, ⟨ad, L, hE, by rw [ht]; exact hR⟩, va_SF hS ht⟩) hS.2.2 hd C.2.2.2.2.2.2.1))
theorem xj_lreturn {x : Int64} (hd : decode cc pc = .ok (.lreturn, 1)) (hu : u ≤ mc) (hvv : v ≤ ms) : Xj own cc nL (some .long) fr lo mc ms u v pc ls [vL x] M (.inl (some (vL x))) M := by
  intro l s0 D cA p e s m args below meth c C adE LE ad L H locs lsA hE hR hl hs hS hv
  refine W.widen hu hvv (vx_ret (W.lret (v := x) C.1 C.2.1 C.2.2.2.1 (fun t ht hW => ⟨⟨_, rfl, rfl, fun w hw => by cases hw; trivial⟩, ⟨ad, L, hE, by rw [ht]; exact hR⟩, va_SF hS ht⟩) hS.2.2 hd C.2.2.2.2.2.2.1))
theorem xj_return (hd : decode cc pc = .ok (.return_, 1)) (hu : u ≤ mc) (hvv : v ≤ ms) : Xj own cc nL none fr lo mc ms u v pc ls [] M (.inl none) M := by
  intro l s0 D cA p e s m args below meth c C adE LE ad L H locs lsA hE hR hl hs hS hv
  refine W.widen hu hvv (vx_ret (W.vret C.1 C.2.1 C.2.2.2.1 (fun t ht hW => ⟨⟨_, rfl, rfl, fun w hw => by cases hw⟩, ⟨ad, L, hE, by rw [ht]; exact hR⟩, va_SF hS ht⟩) hS.2.2 hd C.2.2.2.2.2.2.1))
theorem xj_lcmp {x y : Int64} (hd : decode cc pc = .ok (.lcmp, 1)) (k : Xj own cc nL rt fr lo mc ms u v (pc + 1) ls (vI (lg_cmp x y) :: st) M o M') : Xj own cc nL rt fr lo mc ms u v pc ls (vL y :: vL x :: st) M o M' :=
  fun l s0 D cA p e s m args below meth c C adE LE ad L H locs lsA hE hR hl hs hS hv => W.lcmp C.1 C.2.1 hd (k l s0 D cA p e s m args below meth c C adE LE ad L H locs lsA hE hR hl ⟨trivial, hs.2.2⟩ hS hv)
theorem xj_tableOut {dflt a b : Int} {offs : Array Int} {len : Nat} {x : Int32} {tgt : Nat} (hd : decode cc pc = .ok (.tableswitch dflt a b offs, len)) (h : x.toInt < a ∨ b < x.toInt) (ht : (pc : Int) + dflt = (tgt : Int)) (k : Xj own cc nL rt fr lo mc ms u v tgt ls st M o M') : Xj own cc nL rt fr lo mc ms u v pc ls (vI x :: st) M o M' :=
  fun l s0 D cA p e s m args below meth c C adE LE ad L H locs lsA hE hR hl hs hS hv => lv_tableOut C.1 C.2.1 hd h ht (k l s0 D cA p e s m args below meth c C adE LE ad L H locs lsA hE hR hl hs.2 hS hv)
theorem xj_tableIn {dflt a b : Int} {offs : Array Int} {len : Nat} {x : Int32} {off : Int} {tgt : Nat} (hd : decode cc pc = .ok (.tableswitch dflt a b offs, len)) (h1 : ¬ x.toInt < a) (h2 : ¬ b < x.toInt) (ho : offs[(x.toInt - a).toNat]? = some off) (ht : (pc : Int) + off = (tgt : Int)) (k : Xj own cc nL rt fr lo mc ms u v tgt ls st M o M') : Xj own cc nL rt fr lo mc ms u v pc ls (vI x :: st) M o M' :=
  fun l s0 D cA p e s m args below meth c C adE LE ad L H locs lsA hE hR hl hs hS hv => lv_tableIn C.1 C.2.1 hd h1 h2 ho ht (k l s0 D cA p e s m args below meth c C adE LE ad L H locs lsA hE hR hl hs.2 hS hv)
theorem xj_lookup {dflt : Int} {ps : Array (Int × Int)} {len : Nat} {x : Int32} {off : Int} {tgt : Nat} (hd : decode cc pc = .ok (.lookupswitch dflt ps, len)) (hp : (ps.toList.zip (ps.toList.drop 1)).all (fun (a, next) => a.1 < next.1) = true) (ho : Op.lookupswitch.offset ps.toList dflt x.toInt = off) (ht : (pc : Int) + off = (tgt : Int)) (k : Xj own cc nL rt fr lo mc ms u v tgt ls st M o M') : Xj own cc nL rt fr lo mc ms u v pc ls (vI x :: st) M o M' :=
  fun l s0 D cA p e s m args below meth c C adE LE ad L H locs lsA hE hR hl hs hS hv => lv_lookup C.1 C.2.1 hd hp ho ht (k l s0 D cA p e s m args below meth c C adE LE ad L H locs lsA hE hR hl hs.2 hS hv)
theorem xj_ifnull {k i : Nat} {off : Int} (hd : decode cc pc = .ok (.ifnull off, 3)) (kk : Xj own cc nL rt fr lo mc ms u v (pc + 3) ls st M o M') : Xj own cc nL rt fr lo mc ms u v pc ls (vR k i :: st) M o M' :=
  fun l s0 D cA p e s m args below meth c C adE LE ad L H locs lsA hE hR hl hs hS hv => lv_ifnull C.1 C.2.1 hd (kk l s0 D cA p e s m args below meth c C adE LE ad L H locs lsA hE hR hl hs.2 hS hv)
theorem xj_ifnullN {off : Int} {tgt : Nat} (hd : decode cc pc = .ok (.ifnull off, 3)) (ht : (pc : Int) + off = (tgt : Int)) (kk : Xj own cc nL rt fr lo mc ms u v tgt ls st M o M') : Xj own cc nL rt fr lo mc ms u v pc ls (vN :: st) M o M' :=
  fun l s0 D cA p e s m args below meth c C adE LE ad L H locs lsA hE hR hl hs hS hv => lv_ifnullN C.1 C.2.1 hd ht (kk l s0 D cA p e s m args below meth c C adE LE ad L H locs lsA hE hR hl hs.2 hS hv)
theorem xj_ifnonnull {k i : Nat} {off : Int} {tgt : Nat} (hd : decode cc pc = .ok (.ifnonnull off, 3)) (ht : (pc : Int) + off = (tgt : Int)) (kk : Xj own cc nL rt fr lo mc ms u v tgt ls st M o M') : Xj own cc nL rt fr lo mc ms u v pc ls (vR k i :: st) M o M' :=
  fun l s0 D cA p e s m args below meth c C adE LE ad L H locs lsA hE hR hl hs hS hv => lv_ifnonnull C.1 C.2.1 hd ht (kk l s0 D cA p e s m args below meth c C adE LE ad L H locs lsA hE hR hl hs.2 hS hv)
theorem xj_ifnonnullN {off : Int} (hd : decode cc pc = .ok (.ifnonnull off, 3)) (kk : Xj own cc nL rt fr lo mc ms u v (pc + 3) ls st M o M') : Xj own cc nL rt fr lo mc ms u v pc ls (vN :: st) M o M' :=
  fun l s0 D cA p e s m args below meth c C adE LE ad L H locs lsA hE hR hl hs hS hv => lv_ifnonnullN C.1 C.2.1 hd (kk l s0 D cA p e s m args below meth c C adE LE ad L H locs lsA hE hR hl hs.2 hS hv)
end XR
/-! ### a method out of its body; a call out of a method -/
def lvA : Nat → List AV → List (Nat × AV)
  | _, [] => []
  | i, z :: vs => (i, z) :: lvA (if isL z then i + 2 else i + 1) vs
theorem lvA_args (ad : AD) : ∀ (vs : List AV) (i : Nat), lv_args i (stc ad vs) = lsc ad (lvA i vs)
  | [], _ => rfl
  | z :: vs, i => by
    show (i, cv ad z) :: lv_args _ (stc ad vs) = (i, cv ad z) :: lsc ad (lvA _ vs)
    rw [← lvA_args ad vs]
    congr 2
    have := cat_cv ad z
    cases h : isL z
    · rw [h] at this
      rw [if_neg (by simpa using this), if_neg (by decide)]
    · rw [h] at this
      rw [if_pos (by simpa using this), if_pos rfl]
theorem okl_lvA {L : AL} : ∀ {vs : List AV} {i : Nat}, oks L vs → okl L (lvA i vs)
  | [], _, _ => trivial
  | _ :: _, _, h => ⟨h.1, okl_lvA h.2⟩
def szA (vs : List AV) : Nat := (vs.map (fun z => if isL z then 2 else 1)).sum
theorem szA_eq (ad : AD) : ∀ vs : List AV, (lg_sl (stc ad vs)).length = szA vs
  | [] => rfl
  | z :: vs => by
    have h1 : lg_sl (stc ad (z :: vs)) = (if (cv ad z).category = 2 then [Slot.val (cv ad z), .second] else [.val (cv ad z)]) ++ lg_sl (stc ad vs) := rfl
    have h2 : szA (z :: vs) = (if isL z then 2 else 1) + szA vs := rfl
    rw [h1, h2, List.length_append, szA_eq ad vs]
    have := cat_cv ad z
    cases h : isL z
    · rw [h] at this
      rw [if_neg (by simpa using this)]; rfl
    · rw [h] at this
      rw [if_pos (by simpa using this)]; rfl
theorem blind_Pc {s0 : State} {D : va_G} {cA : Nat → ClassId} {ad : AD} {L : AL} {M : Mem} {vs : List Value} : FrameBlind (va_Pc vs (fun U => s0.WarmedH U.vm ∧ Rel s0 D cA ad L M U.heap)) := by
  intro a U g mk h
  exact h
theorem no_table {c : Code} {own : String} {cc : ByteArray} (h : ∀ x ∈ c.exceptionTable.toList, False) (hn : hhF own cc = []) : c.exceptionTable.toList = tableOf (hhF own cc) := by
  rw [hn]
  exact List.eq_nil_iff_forall_not_mem.mpr (fun x hx => h x hx)
theorem no_row {c : Code} {own : String} {cc : ByteArray} (h : c.exceptionTable.toList = tableOf (hhF own cc)) (hlw : ¬ own = "BeliefRiverLaw") (x : ExceptionTableEntry) (hx : x ∈ c.exceptionTable.toList) : False := by
  rw [h, hhF_ne hlw] at hx
  cases hx
theorem Mt.of {y : MethodName} {cc : ByteArray} {nL : Nat} {rt : Option FieldType} {fr lo mc ms : Nat} {vs : List AV} {M M' : Mem} {o : Ou} (hy : plainName y.cls = true) (hsz : szA vs ≤ nL) (hnm : cc.data[1]? = some 183 → y.name = "<init>") (hnr : hhF y.cls cc = []) (k : Xj y.cls cc nL rt fr lo mc ms 0 0 0 (lvA 0 vs) [] M o M') : Mt y cc nL rt fr lo mc ms vs M o M' := by
  intro l s0 D cA hG ad L hvs
  refine vx_ofW (cc := cc) (maxL := nL) (ret := rt) (ws' := W0) hy rfl ?_
  intro p e s m args below meth c s₁ B hml hex hPc
  obtain ⟨rfl, hal, hR⟩ := hPc
  have hts := atoms_spec (ws := .code y cc nL rt :: W0) B.pre
  have hown : s.vm.findClass y.cls = some m.cls := findClass_of_methodNamed B.named
  have hl := lv_entry (stc ad vs) (n := nL) (by rw [szA_eq]; exact hsz)
  rw [lvA_args] at hl
  rw [lg_entry_eq]
  exact k l s0 D cA p e s m _ below meth c ⟨B.exec, B.bytes, hml, B.returns, hown, fun w hw => hts w (List.mem_cons_of_mem _ hw), B.notSynchronized, ⟨no_table hex hnr, fun q => (name_of_methodNamed B.named B.method).1.trans (hnm q)⟩, hal, hG, hR.2.2.2.2.2, hR.2.2.2.2.1⟩ ad L ad L s.heap [] _ Ext.rf hR (okl_lvA hvs) trivial va_S.rf hl
/-- a call of a method of the class k by its entry idx of own -/
def CV (own : String) (idx k : Nat) (y : MethodName) (cc : ByteArray) (nL : Nat) (rt : Option FieldType) (n : Nat) : Prop := ∃ (T : u_T) (N : Nat), CF k y.cls T N ∧ Cond.methodLink own idx y ∈ W0 ∧ Cond.instanceMethod y ∈ W0 ∧ Cond.selects y.cls y y ∈ W0 ∧ Cond.code y cc nL rt ∈ W0 ∧ y.cls ≠ "java/lang/invoke/MethodHandle" ∧ y.cls ≠ "java/lang/invoke/VarHandle" ∧ (parseMethodDescriptor y.desc).map (fun d => d.parameters.length) = some n
/-- a static call -/
def CS (own : String) (idx : Nat) (y : MethodName) (cc : ByteArray) (nL : Nat) (rt : Option FieldType) (n : Nat) : Prop := Cond.methodLink own idx y ∈ W0 ∧ Cond.static y ∈ W0 ∧ Cond.initialized y.cls ∈ W0 ∧ Cond.code y cc nL rt ∈ W0 ∧ y.cls ≠ "java/lang/invoke/MethodHandle" ∧ y.cls ≠ "java/lang/invoke/VarHandle" ∧ (parseMethodDescriptor y.desc).map (fun d => d.parameters.length) = some n
theorem CV.w {own : String} {idx k : Nat} {y : MethodName} {cc : ByteArray} {nL : Nat} {rt : Option FieldType} {n fr lo mc ms fr' lo' mc' ms' : Nat} {s : State} {args : Array Value} (h : CV own idx k y cc nL rt n) (hts : ∀ w ∈ W0, w.before args s = true) (h1 : fr' + 1 ≤ fr) (h2 : 8 + (nL + 11) + lo' ≤ lo) :
    CallW { frames := fr, cells := mc, slots := ms, locals := lo } s args own y.cls idx y cc nL rt (.code y cc nL rt :: W0) { frames := fr', cells := mc', slots := ms', locals := lo' } mc' ms' n := by
  obtain ⟨T, N, hc, w1, w2, w3, w4, n1, n2, n3⟩ := h
  have hg := W0_good (ws := W0) w4
  exact ⟨callB_of n hts hg rfl rfl rfl (hts _ hc.2.2.2.2.2.2.2) (hts _ w1) ⟨n1, n2, n3⟩ ⟨h1, h2⟩, hts _ w2, hts _ w3⟩
theorem CS.w {own : String} {idx : Nat} {y : MethodName} {cc : ByteArray} {nL : Nat} {rt : Option FieldType} {n fr lo mc ms fr' lo' mc' ms' : Nat} {s : State} {args : Array Value} (h : CS own idx y cc nL rt n) (hts : ∀ w ∈ W0, w.before args s = true) (h1 : fr' + 1 ≤ fr) (h2 : 8 + (nL + 11) + lo' ≤ lo) :
    CallB { frames := fr, cells := mc, slots := ms, locals := lo } s args own idx y cc nL rt (.code y cc nL rt :: W0) { frames := fr', cells := mc', slots := ms', locals := lo' } mc' ms' n ∧ (Cond.static y).before args s = true := by
  obtain ⟨w1, w2, w3, w4, n1, n2, n3⟩ := h
  have hg := W0_good (ws := W0) w4
  exact ⟨callB_of n hts hg rfl rfl rfl (hts _ w3) (hts _ w1) ⟨n1, n2, n3⟩ ⟨h1, h2⟩, hts _ w2⟩
/-- how much of the stack stays under a call -/
def wgt (st : List AV) : Nat := (st.map (fun z => if isL z then 2 else 1)).sum
theorem wgt_eq (ad : AD) : ∀ st : List AV, ((stc ad st).map fun z => z.category).sum = wgt st
  | [] => rfl
  | z :: st => by
    have h1 : ((stc ad (z :: st)).map fun z => z.category).sum = (cv ad z).category + ((stc ad st).map fun z => z.category).sum := rfl
    have h2 : wgt (z :: st) = (if isL z then 2 else 1) + wgt st := rfl
    rw [h1, h2, wgt_eq ad st]
    have := cat_cv ad z
    cases h : isL z
    · rw [cat1 ad h]; rfl
    · rw [h] at this
      have h3 : (cv ad z).category = 2 := by simpa using this
      rw [h3]; rfl
section XR
variable {own : String} {cc : ByteArray} {nL : Nat} {rt : Option FieldType} {fr lo mc ms u v pc : Nat} {ls : List (Nat × AV)} {st : List AV} {M : Mem} {o : Ou} {M' : Mem}
/-- behind a call that has come back -/
theorem run_ret {p : Program} {l : Launch} {e : Env} {s0 s : State} {m : MethodId} {args : Array Value} {below : List Frame} {meth : Method} {c : Code} {D : va_G} {cA : Nat → ClassId} {adE ad : AD} {LE L : AL} {H : Heap} {locs : List Loc} {lsA : Array Slot} {a : Array Value} {sk : List Value} {w : Option AV} {M1 : Mem} {mc' ms' : Nat}
    (C : Cx l s0 D cA p s m args meth c own cc nL rt) (hE : Ext adE LE ad L) (hl : okl L ls) (hs : oks L st) (hS : va_S (Ab s0) s.heap H locs) (hv : lv_has lsA nL (lsc ad ls))
    (hr : vx_Run p l e { frames := fr, cells := mc, slots := ms, locals := lo } s m args below meth c H locs u v mc' ms' (F0 m pc lsA sk) (stc ad st) (QC s0 D cA ad L (.inl w) M1 a) (XQ s0 D cA ad L (.inl w) M1) (Ab s0))
    (kk : Xj own cc nL rt fr lo mc ms (u + mc') (v + ms') (pc + 3) ls (w.toList ++ st) M1 o M') :
    W p l e { frames := fr, cells := mc, slots := ms, locals := lo } s m args below meth c H locs u v (vx_MQ below (QC s0 D cA adE LE o M') (XQ s0 D cA adE LE o M') args s mc ms (Ab s0)) (F0 m pc lsA sk) := by
  intro T hT X
  rcases hr T hT X with ⟨v9, st₀, t, T', Lc, h0, X', hL, e1, e2, ⟨⟨w9, hw1, hw2, hw3⟩, ⟨ad1, L1, hE1, hR1⟩, hF⟩, stp⟩ | ⟨q, st₀, t, T', Lc, E, ce, h0, X', hL, e1, e2, ⟨⟨k, hk, -⟩, -⟩, -⟩
  · cases hw1
    have hv9 : v9 = w.map (cv ad) := by injection hw2
    obtain ⟨k1, k2, k3⟩ := vx_keep (A0 := Ab s0) h0 e1 hS (fun _ _ h => h) (fun _ h => h) hL hF
    have hsx : stc ad1 (w.toList ++ st) = v9.toList ++ stc ad st := by
      rw [hv9]
      unfold stc
      rw [List.map_append]
      have e5 : List.map (cv ad1) st = List.map (cv ad) st := hE1.stc hs
      rw [e5]
      congr 1
      cases w with
      | none => rfl
      | some z =>
        have hz := hw3 z rfl
        show [cv ad1 z] = [cv ad z]
        match z, hz with
        | .inl x, _ => rfl
        | .inr (.inl x), _ => rfl
    have hoks : oks L1 (w.toList ++ st) := by
      refine oks_app.mpr ⟨?_, hE1.oks hs⟩
      cases w with
      | none => trivial
      | some z =>
        have hz := hw3 z rfl
        match z, hz with
        | .inl x, _ => exact ⟨trivial, trivial⟩
        | .inr (.inl x), _ => exact ⟨trivial, trivial⟩
    have hWk := kk l s0 D cA p e s m args below meth c C adE LE ad1 L1 T'.heap (locs ++ Lc) lsA (hE.tr hE1) (by rw [e1]; exact hR1) (hE1.okl hl) hoks k3 (by rw [hE1.lsc hl]; exact hv)
    rw [hsx] at hWk
    obtain ⟨t2, a1, b1⟩ := hWk T' rfl X'
    exact ⟨t2, stp t2 a1, b1⟩
  · cases hk
/-- behind a call that has thrown, where nothing is caught -/
theorem run_thr {p : Program} {l : Launch} {e : Env} {s0 s : State} {m : MethodId} {args : Array Value} {below : List Frame} {meth : Method} {c : Code} {D : va_G} {cA : Nat → ClassId} {adE ad : AD} {LE L : AL} {H : Heap} {locs : List Loc} {lsA : Array Slot} {a : Array Value} {sk : List Value} {ex : Nat} {M1 : Mem} {mc' ms' : Nat}
    (C : Cx l s0 D cA p s m args meth c own cc nL rt) (hE : Ext adE LE ad L) (hS : va_S (Ab s0) s.heap H locs) (hu : u + mc' ≤ mc) (hvv : v + ms' ≤ ms) (hlw : ¬ own = "BeliefRiverLaw")
    (hr : vx_Run p l e { frames := fr, cells := mc, slots := ms, locals := lo } s m args below meth c H locs u v mc' ms' (F0 m pc lsA sk) (stc ad st) (QC s0 D cA ad L (.inr ex) M1 a) (XQ s0 D cA ad L (.inr ex) M1) (Ab s0)) :
    W p l e { frames := fr, cells := mc, slots := ms, locals := lo } s m args below meth c H locs u v (vx_MQ below (QC s0 D cA adE LE (.inr ex) M1) (XQ s0 D cA adE LE (.inr ex) M1) args s mc ms (Ab s0)) (F0 m pc lsA sk) := by
  intro T hT X
  rcases hr T hT X with ⟨v9, st₀, t, T', Lc, h0, X', hL, e1, e2, ⟨⟨w9, hw1, -⟩, -⟩, stp⟩ | ⟨q, st₀, t, T', Lc, E, ce, h0, X', hL, e1, e2, ⟨⟨k, hk, hEk⟩, ⟨ad1, L1, hE1, hR1⟩, hF⟩, hce, hcv, hcl, stp⟩
  · cases hw1
  · cases hk
    obtain ⟨k1, k2, k3⟩ := vx_keep (A0 := Ab s0) h0 e1 hS (fun _ _ h => h) (fun _ h => h) hL hF
    have hout := vx_out (p := p) (l := l) (e := e) (R := { frames := fr, cells := mc, slots := ms, locals := lo }) (s := s) (m := m) (args := args) (below := below) (meth := meth) (c := c) (H := T'.heap) (locs := locs ++ Lc) (cells := u + mc') (slots := v + ms') (free := Ab s0) (ls := lsA) (rest := stc ad st) (Qc := QC s0 D cA adE LE (.inr ex) M1) (XC := XQ s0 D cA adE LE (.inr ex) M1) (pc := pc) (E := E) (ce := ce) (q := q) (mc := mc) (ms := ms) (fun x hx => absurd hx (fun h => no_row C.2.2.2.2.2.2.2.1.1 hlw x h)) C.2.2.2.2.2.2.1 (by rw [e1]; exact hce) hcv hcl (fun t9 ht9 _ => ⟨⟨ex, rfl, hEk⟩, ⟨ad1, L1, hE.tr hE1, by rw [ht9, e1]; exact hR1⟩, va_SF k3 ht9⟩) k3.2.2 hu hvv
    obtain ⟨t2, a1, b1⟩ := hout T' rfl X'
    exact ⟨t2, stp.trans a1, b1⟩
theorem rcv_of {s0 s : State} {D : va_G} {cA : Nat → ClassId} {ad : AD} {L : AL} {M : Mem} {H : Heap} {k i : Nat} {C : String} {T : u_T} {N : Nat} (hc : CF k C T N) (hin : (k, i) ∈ L) (hR : Rel s0 D cA ad L M H) (hK : va_K D vwCl (tyl cA) s) : ∃ cellB : Cell, H[ad k i]? = some cellB ∧ cellB.vm.isStatics = false ∧ s.vm.findClass C = some cellB.cls := by
  obtain ⟨q0, hq, hg⟩ := wl_get (cA := cA) hR.2.2.1 hin hc.2.2.2.1 (by rw [hc.2.1]; decide)
  rw [cellE_obj hc.2.1] at hg
  obtain ⟨r, h1, cell, q1, q2, q3, q4⟩ := hR.1 q0 _ hg
  have hr : r = (C, T, N) := Option.some.inj (h1.symm.trans hc.1)
  subst hr
  exact ⟨cell, q1, by rw [q3]; rfl, by rw [q2]; exact (hK.1 k _ hc.1).2.1⟩
theorem xj_callV {y : MethodName} {cc' : ByteArray} {nL' : Nat} {rt' : Option FieldType} {fr' lo' mc' ms' idx n k i : Nat} {vs : List AV} {w : Option AV} {M1 : Mem} (hM : Mt y cc' nL' rt' fr' lo' mc' ms' (vR k i :: vs) M (.inl w) M1) (hd : decode cc pc = .ok (.invokevirtual idx, 3)) (hc : CV own idx k y cc' nL' rt' n) (hn : vs.length = n) {sk : List AV} (hsk : vs.reverse ++ vR k i :: st = sk) (hw : wgt st ≤ 8) (h1 : fr' + 1 ≤ fr) (h2 : 8 + (nL' + 11) + lo' ≤ lo) (h3 : u + mc' ≤ mc) (h4 : v + ms' ≤ ms)
    (kk : Xj own cc nL rt fr lo mc ms (u + mc') (v + ms') (pc + 3) ls (w.toList ++ st) M1 o M') : Xj own cc nL rt fr lo mc ms u v pc ls sk M o M' := by
  subst hsk
  intro l s0 D cA p e s m args below meth c C adE LE ad L H locs lsA hE hR hl hs hS hv
  have hs2 := oks_app.mp hs
  have hvs : oks L (vR k i :: vs) := ⟨hs2.2.1, oks_mem.mpr fun z hz => oks_mem.mp hs2.1 z (List.mem_reverse.mpr hz)⟩
  have hK := GF.K C.2.2.2.2.2.2.2.2.2.1 C.2.2.2.2.2.2.2.2.1.alike
  obtain ⟨T, N, hcf, -⟩ := id hc
  have hrun := vx_runV (p := p) (l := l) (e := e) (below := below) (meth := meth) (H := H) (locs := locs) (cells := u) (slots := v) (As := stc ad vs) (rest := stc ad st) (b := ad k i) (g := F0 m pc lsA (stc ad (vs.reverse ++ vR k i :: st))) (nL := nL) (cc := cc) ⟨C.1, C.2.1, C.2.2.1, C.2.2.2.2.1, C.2.2.2.2.2.1⟩ (hM l s0 D cA C.2.2.2.2.2.2.2.2.2.1 ad L hvs) (hc.w (mc := mc) (ms := ms) C.2.2.2.2.2.1 h1 h2)
    ⟨blind_Pc, rcv_of hcf (avk_in hs2.2.1 hcf.2.2.2.1) hR hK, fun U hU hW => ⟨rfl, State.WarmedH.trans C.2.2.2.2.2.2.2.2.1 hW, by rw [hU]; exact hR⟩⟩ rfl (by rw [← hn]; unfold stc; rw [List.length_map]) hv.1 (by show stc ad _ = _; unfold stc; rw [List.map_append, List.map_reverse]; rfl) (lv_room (by rw [wgt_eq]; exact hw)) hd ⟨h3, h4⟩
  exact run_ret C hE hl hs2.2.2 hS hv hrun kk
theorem xj_callVx {y : MethodName} {cc' : ByteArray} {nL' : Nat} {rt' : Option FieldType} {fr' lo' mc' ms' idx n k i : Nat} {vs : List AV} {ex : Nat} {M1 : Mem} (hM : Mt y cc' nL' rt' fr' lo' mc' ms' (vR k i :: vs) M (.inr ex) M1) (hd : decode cc pc = .ok (.invokevirtual idx, 3)) (hc : CV own idx k y cc' nL' rt' n) (hn : vs.length = n) {sk : List AV} (hsk : vs.reverse ++ vR k i :: st = sk) (hw : wgt st ≤ 8) (h1 : fr' + 1 ≤ fr) (h2 : 8 + (nL' + 11) + lo' ≤ lo) (h3 : u + mc' ≤ mc) (h4 : v + ms' ≤ ms) (hlw : ¬ own = "BeliefRiverLaw") : Xj own cc nL rt fr lo mc ms u v pc ls sk M (.inr ex) M1 := by
  subst hsk
  intro l s0 D cA p e s m args below meth c C adE LE ad L H locs lsA hE hR hl hs hS hv
  have hs2 := oks_app.mp hs
  have hvs : oks L (vR k i :: vs) := ⟨hs2.2.1, oks_mem.mpr fun z hz => oks_mem.mp hs2.1 z (List.mem_reverse.mpr hz)⟩
  have hK := GF.K C.2.2.2.2.2.2.2.2.2.1 C.2.2.2.2.2.2.2.2.1.alike
  obtain ⟨T, N, hcf, -⟩ := id hc
  have hrun := vx_runV (p := p) (l := l) (e := e) (below := below) (meth := meth) (H := H) (locs := locs) (cells := u) (slots := v) (As := stc ad vs) (rest := stc ad st) (b := ad k i) (g := F0 m pc lsA (stc ad (vs.reverse ++ vR k i :: st))) (nL := nL) (cc := cc) ⟨C.1, C.2.1, C.2.2.1, C.2.2.2.2.1, C.2.2.2.2.2.1⟩ (hM l s0 D cA C.2.2.2.2.2.2.2.2.2.1 ad L hvs) (hc.w (mc := mc) (ms := ms) C.2.2.2.2.2.1 h1 h2)
    ⟨blind_Pc, rcv_of hcf (avk_in hs2.2.1 hcf.2.2.2.1) hR hK, fun U hU hW => ⟨rfl, State.WarmedH.trans C.2.2.2.2.2.2.2.2.1 hW, by rw [hU]; exact hR⟩⟩ rfl (by rw [← hn]; unfold stc; rw [List.length_map]) hv.1 (by show stc ad _ = _; unfold stc; rw [List.map_append, List.map_reverse]; rfl) (lv_room (by rw [wgt_eq]; exact hw)) hd ⟨h3, h4⟩
  exact run_thr C hE hS h3 h4 hlw hrun
theorem xj_callS {y : MethodName} {cc' : ByteArray} {nL' : Nat} {rt' : Option FieldType} {fr' lo' mc' ms' idx n : Nat} {vs : List AV} {w : Option AV} {M1 : Mem} (hM : Mt y cc' nL' rt' fr' lo' mc' ms' vs M (.inl w) M1) (hd : decode cc pc = .ok (.invokestatic idx, 3)) (hc : CS own idx y cc' nL' rt' n) (hn : vs.length = n) {sk : List AV} (hsk : vs.reverse ++ st = sk) (hw : wgt st ≤ 8) (h1 : fr' + 1 ≤ fr) (h2 : 8 + (nL' + 11) + lo' ≤ lo) (h3 : u + mc' ≤ mc) (h4 : v + ms' ≤ ms)
    (kk : Xj own cc nL rt fr lo mc ms (u + mc') (v + ms') (pc + 3) ls (w.toList ++ st) M1 o M') : Xj own cc nL rt fr lo mc ms u v pc ls sk M o M' := by
  subst hsk
  intro l s0 D cA p e s m args below meth c C adE LE ad L H locs lsA hE hR hl hs hS hv
  have hs2 := oks_app.mp hs
  have hvs : oks L vs := oks_mem.mpr fun z hz => oks_mem.mp hs2.1 z (List.mem_reverse.mpr hz)
  have hrun := vx_runS (p := p) (l := l) (e := e) (below := below) (meth := meth) (H := H) (locs := locs) (cells := u) (slots := v) (As := stc ad vs) (rest := stc ad st) (g := F0 m pc lsA (stc ad (vs.reverse ++ st))) (nL := nL) (cc := cc) ⟨C.1, C.2.1, C.2.2.1, C.2.2.2.2.1, C.2.2.2.2.2.1⟩ (hM l s0 D cA C.2.2.2.2.2.2.2.2.2.1 ad L hvs) (hc.w (mc := mc) (ms := ms) C.2.2.2.2.2.1 h1 h2)
    ⟨blind_Pc, fun U hU hW => ⟨rfl, State.WarmedH.trans C.2.2.2.2.2.2.2.2.1 hW, by rw [hU]; exact hR⟩⟩ rfl (by rw [← hn]; unfold stc; rw [List.length_map]) hv.1 (by show stc ad _ = _; unfold stc; rw [List.map_append, List.map_reverse]) (lv_room (by rw [wgt_eq]; exact hw)) hd ⟨h3, h4⟩
  exact run_ret C hE hl hs2.2 hS hv hrun kk
end XR
