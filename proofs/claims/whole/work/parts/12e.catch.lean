/-! ### methods with handlers: the law's wrappers -/
def MtH (y : MethodName) (cc : ByteArray) (nL : Nat) (rt : Option FieldType) (hh : List (Nat × Nat × Nat × Nat)) (fr lo mc ms : Nat) (vs : List AV) (M : Mem) (o : Ou) (M' : Mem) : Prop :=
  ∀ (l : Launch) (s0 : State) (D : va_G) (cA : Nat → ClassId), GF l s0 D cA → ∀ (ad : AD) (L : AL), oks L vs →
    vx_Met l y (.codeWith y cc nL rt hh :: W0) { frames := fr, cells := mc, slots := ms, locals := lo } (va_Pc (stc ad vs) (fun U => s0.WarmedH U.vm ∧ Rel s0 D cA ad L M U.heap)) (QC s0 D cA ad L o M') (XQ s0 D cA ad L o M') mc ms (Ab s0)
theorem MtH.of {y : MethodName} {cc : ByteArray} {nL : Nat} {rt : Option FieldType} {hh : List (Nat × Nat × Nat × Nat)} {fr lo mc ms : Nat} {vs : List AV} {M M' : Mem} {o : Ou} (hy : plainName y.cls = true) (hsz : szA vs ≤ nL) (hnm : ¬ cc.data[1]? = some 183) (hnr : hhF y.cls cc = hh) (k : Xj y.cls cc nL rt fr lo mc ms 0 0 0 (lvA 0 vs) [] M o M') : MtH y cc nL rt hh fr lo mc ms vs M o M' := by
  intro l s0 D cA hG ad L hvs
  refine vx_ofWH (cc := cc) (maxL := nL) (ret := rt) (hh := hh) (ws' := W0) hy rfl ?_
  intro p e s m args below meth c s₁ B hml hPc
  obtain ⟨rfl, hal, hR⟩ := hPc
  have hts := atoms_spec (ws := .codeWith y cc nL rt hh :: W0) B.pre
  have htab := vx_table (x := y) B (hts _ List.mem_cons_self)
  have hown : s.vm.findClass y.cls = some m.cls := findClass_of_methodNamed B.named
  have hl := lv_entry (stc ad vs) (n := nL) (by rw [szA_eq]; exact hsz)
  rw [lvA_args] at hl
  rw [lg_entry_eq]
  exact k l s0 D cA p e s m _ below meth c ⟨B.exec, B.bytes, hml, B.returns, hown, fun w hw => hts w (List.mem_cons_of_mem _ hw), B.notSynchronized, ⟨by rw [hnr]; exact htab, fun q => absurd q hnm⟩, hal, hG, hR.2.2.2.2.2, hR.2.2.2.2.1⟩ ad L ad L s.heap [] _ Ext.rf hR (okl_lvA hvs) trivial va_S.rf hl
def CSH (own : String) (idx : Nat) (y : MethodName) (cc : ByteArray) (nL : Nat) (rt : Option FieldType) (hh : List (Nat × Nat × Nat × Nat)) (n : Nat) : Prop := Cond.methodLink own idx y ∈ W0 ∧ Cond.static y ∈ W0 ∧ Cond.initialized y.cls ∈ W0 ∧ Cond.codeWith y cc nL rt hh ∈ W0 ∧ y.cls ≠ "java/lang/invoke/MethodHandle" ∧ y.cls ≠ "java/lang/invoke/VarHandle" ∧ (parseMethodDescriptor y.desc).map (fun d => d.parameters.length) = some n
theorem CSH.w {own : String} {idx : Nat} {y : MethodName} {cc : ByteArray} {nL : Nat} {rt : Option FieldType} {hh : List (Nat × Nat × Nat × Nat)} {n fr lo mc ms fr' lo' mc' ms' : Nat} {s : State} {args : Array Value} (h : CSH own idx y cc nL rt hh n) (hts : ∀ w ∈ W0, w.before args s = true) (h1 : fr' + 1 ≤ fr) (h2 : 8 + (nL + 11) + lo' ≤ lo) :
    vx_CSW { frames := fr, cells := mc, slots := ms, locals := lo } s args own idx y cc nL rt hh (.codeWith y cc nL rt hh :: W0) { frames := fr', cells := mc', slots := ms', locals := lo' } mc' ms' n := by
  obtain ⟨w1, w2, w3, w4, n1, n2, n3⟩ := h
  have hg := W0_good (ws := W0) w4
  refine ⟨⟨rfl, rfl, h1, h2, pay_in hts hg, List.mem_cons_self⟩, hts _ w4, hts _ w3, ⟨n1, n2⟩, fun sig h => ?_, hts _ w1, hts _ w2⟩
  rw [h] at n3
  exact (Option.some.inj n3).symm
section XR
variable {own : String} {cc : ByteArray} {nL : Nat} {rt : Option FieldType} {fr lo mc ms u v pc : Nat} {ls : List (Nat × AV)} {st : List AV} {M : Mem} {o : Ou} {M' : Mem}
theorem xj_callH {y : MethodName} {cc' : ByteArray} {nL' : Nat} {rt' : Option FieldType} {hh : List (Nat × Nat × Nat × Nat)} {fr' lo' mc' ms' idx n : Nat} {vs : List AV} {w : Option AV} {M1 : Mem} (hM : MtH y cc' nL' rt' hh fr' lo' mc' ms' vs M (.inl w) M1) (hd : decode cc pc = .ok (.invokestatic idx, 3)) (hc : CSH own idx y cc' nL' rt' hh n) (hn : vs.length = n) {sk : List AV} (hsk : vs.reverse ++ st = sk) (hw : wgt st ≤ 8) (h1 : fr' + 1 ≤ fr) (h2 : 8 + (nL' + 11) + lo' ≤ lo) (h3 : u + mc' ≤ mc) (h4 : v + ms' ≤ ms)
    (kk : Xj own cc nL rt fr lo mc ms (u + mc') (v + ms') (pc + 3) ls (w.toList ++ st) M1 o M') : Xj own cc nL rt fr lo mc ms u v pc ls sk M o M' := by
  subst hsk
  intro l s0 D cA p e s m args below meth c C adE LE ad L H locs lsA hE hR hl hs hS hv
  have hs2 := oks_app.mp hs
  have hvs : oks L vs := oks_mem.mpr fun z hz => oks_mem.mp hs2.1 z (List.mem_reverse.mpr hz)
  have hrun := vx_runSX (p := p) (l := l) (e := e) (below := below) (meth := meth) (H := H) (locs := locs) (cells := u) (slots := v) (As := stc ad vs) (rest := stc ad st) (g := F0 m pc lsA (stc ad (vs.reverse ++ st))) (nL := nL) (cc := cc) ⟨C.1, C.2.1, C.2.2.1, C.2.2.2.2.1, C.2.2.2.2.2.1⟩ (hM l s0 D cA C.2.2.2.2.2.2.2.2.2.1 ad L hvs) (hc.w (mc := mc) (ms := ms) C.2.2.2.2.2.1 h1 h2)
    ⟨blind_Pc, fun U hU hW => ⟨rfl, State.WarmedH.trans C.2.2.2.2.2.2.2.2.1 hW, by rw [hU]; exact hR⟩⟩ rfl (by rw [← hn]; unfold stc; rw [List.length_map]) hv.1 (by show stc ad _ = _; unfold stc; rw [List.map_append, List.map_reverse]) (lv_room (by rw [wgt_eq]; exact hw)) hd ⟨h3, h4⟩
  exact run_ret C hE hl hs2.2 hS hv hrun kk
/-- the handler's first row: it puts the exception away -/
def Puts (cc : ByteArray) (nL h h' : Nat) : Prop := (∃ n : Fin 4, decode cc h = .ok (.astore_n n, 1) ∧ (n : Nat) < nL ∧ h' = h + 1) ∨ ∃ i : Nat, decode cc h = .ok (.astore i, 2) ∧ i < nL ∧ h' = h + 2
/-- which row of the table takes the exception ex: the rows ahead are of the other one -/
def Takes (own : String) (cc : ByteArray) (pc ex h : Nat) : Prop :=
  (∃ (e1 t : Nat) (suf : List (Nat × Nat × Nat × Nat)), hhF own cc = (0, e1, h, t) :: suf ∧ pc < e1 ∧ t ≠ 0 ∧ ex < 2 ∧ Cond.classLink own t (exN ex) ∈ W0) ∨
  ∃ (e1 t e2 t2 h2 : Nat), hhF own cc = [(0, e2, h2, t2), (0, e1, h, t)] ∧ pc < e1 ∧ t ≠ 0 ∧ t2 ≠ 0 ∧ ex = 1 ∧ Cond.classLink own t (exN 1) ∈ W0 ∧ Cond.classLink own t2 (exN 0) ∈ W0
theorem covers_of {e1 h t pc : Nat} (hp : pc < e1) : covers (⟨0, e1, h, t⟩ : ExceptionTableEntry) pc = true := by
  simp [covers, hp]
theorem castE {l : Launch} {s0 s : State} {D : va_G} {cA : Nat → ClassId} {args : Array Value} {ex : Nat} (hG : GF l s0 D cA) (hW : s0.WarmedH s.vm) (h : ex < 2) : (Cond.castable (exN ex) (exN ex)).before args s = true := by
  have : ex = 0 ∨ ex = 1 := by omega
  rcases this with rfl | rfl
  · exact nestL_at (by simp [nestL, exN]) (hG.2.2.2.2.2.2.2.2.2 _ (by simp [nestL, exN])) hW
  · exact nestL_at (by simp [nestL, exN]) (hG.2.2.2.2.2.2.2.2.2 _ (by simp [nestL, exN])) hW
theorem xj_callVc {y : MethodName} {cc' : ByteArray} {nL' : Nat} {rt' : Option FieldType} {fr' lo' mc' ms' idx n k i h h' : Nat} {vs : List AV} {ex : Nat} {M1 : Mem} (hM : Mt y cc' nL' rt' fr' lo' mc' ms' (vR k i :: vs) M (.inr ex) M1) (hd : decode cc pc = .ok (.invokevirtual idx, 3)) (hc : CV own idx k y cc' nL' rt' n) (hn : vs.length = n) {sk : List AV} (hsk : vs.reverse ++ vR k i :: st = sk) (hw : wgt st ≤ 8) (h1 : fr' + 1 ≤ fr) (h2 : 8 + (nL' + 11) + lo' ≤ lo) (h3 : u + mc' ≤ mc) (h4 : v + ms' ≤ ms) (htk : Takes own cc pc ex h) (hpt : Puts cc nL h h') (kk : Xj own cc nL rt fr lo mc ms (u + mc') (v + ms') h' [] [] M1 o M') : Xj own cc nL rt fr lo mc ms u v pc ls sk M o M' := by
  subst hsk
  intro l s0 D cA p e s m args below meth c C adE LE ad L H locs lsA hE hR hl hs hS hv
  have hs2 := oks_app.mp hs
  have hvs : oks L (vR k i :: vs) := ⟨hs2.2.1, oks_mem.mpr fun z hz => oks_mem.mp hs2.1 z (List.mem_reverse.mpr hz)⟩
  have hG := C.2.2.2.2.2.2.2.2.2.1
  have hK := GF.K hG C.2.2.2.2.2.2.2.2.1.alike
  obtain ⟨T, N, hcf, -⟩ := id hc
  have hr := vx_runV (p := p) (l := l) (e := e) (below := below) (meth := meth) (H := H) (locs := locs) (cells := u) (slots := v) (As := stc ad vs) (rest := stc ad st) (b := ad k i) (g := F0 m pc lsA (stc ad (vs.reverse ++ vR k i :: st))) (nL := nL) (cc := cc) ⟨C.1, C.2.1, C.2.2.1, C.2.2.2.2.1, C.2.2.2.2.2.1⟩ (hM l s0 D cA hG ad L hvs) (hc.w (mc := mc) (ms := ms) C.2.2.2.2.2.1 h1 h2)
    ⟨blind_Pc, rcv_of hcf (avk_in hs2.2.1 hcf.2.2.2.1) hR hK, fun U hU hW => ⟨rfl, State.WarmedH.trans C.2.2.2.2.2.2.2.2.1 hW, by rw [hU]; exact hR⟩⟩ rfl (by rw [← hn]; unfold stc; rw [List.length_map]) hv.1 (by show stc ad _ = _; unfold stc; rw [List.map_append, List.map_reverse]; rfl) (lv_room (by rw [wgt_eq]; exact hw)) hd ⟨h3, h4⟩
  intro T hT X
  rcases hr T hT X with ⟨v9, st₀, t, T', Lc, h0, X', hL, e1, e2, ⟨⟨w9, hw1, -⟩, -⟩, stp⟩ | ⟨q, st₀, t, T', Lc, E, ce, h0, X', hL, e1, e2, ⟨⟨k, hk, hEk⟩, ⟨ad1, L1, hE1, hR1⟩, hF⟩, hce, hcv, hcl, stp⟩
  · cases hw1
  · cases hk
    obtain ⟨k1, k2, k3⟩ := vx_keep (A0 := Ab s0) h0 e1 hS (fun _ _ h => h) (fun _ h => h) hL hF
    have hbody : W p l e { frames := fr, cells := mc, slots := ms, locals := lo } s m args below meth c T'.heap (locs ++ Lc) (u + mc') (v + ms') (vx_MQ below (QC s0 D cA adE LE o M') (XQ s0 D cA adE LE o M') args s mc ms (Ab s0)) (F0 m h lsA [.ref q]) := by
      rcases hpt with ⟨n9, p1, p2, rfl⟩ | ⟨n9, p1, p2, rfl⟩
      · exact lv_astore_n C.1 C.2.1 p1 rfl hv p2 rfl (fun lsB hB => kk l s0 D cA p e s m args below meth c C adE LE ad1 L1 T'.heap (locs ++ Lc) lsB (hE.tr hE1) (by rw [e1]; exact hR1) trivial trivial k3 (lv_sub hB [] rfl))
      · exact lv_astore C.1 C.2.1 p1 hv p2 rfl (fun lsB hB => kk l s0 D cA p e s m args below meth c C adE LE ad1 L1 T'.heap (locs ++ Lc) lsB (hE.tr hE1) (by rw [e1]; exact hR1) trivial trivial k3 (lv_sub hB [] rfl))
    have hcat : vx_W p l e { frames := fr, cells := mc, slots := ms, locals := lo } s m args below meth c T'.heap (locs ++ Lc) (u + mc') (v + ms') (vx_MQ below (QC s0 D cA adE LE o M') (XQ s0 D cA adE LE o M') args s mc ms (Ab s0)) (F0 m pc lsA (stc ad st)) q := by
      subst hEk
      rcases htk with ⟨a1, a2, suf, b1, b2, b3, b4, b5⟩ | ⟨a1, a2, a3, a4, a5, b1, b2, b3, b4, rfl, b6, b7⟩
      · exact vx_catch C.2.2.2.2.1 [] ⟨0, a1, h, a2⟩ (tableOf suf) (by rw [C.2.2.2.2.2.2.2.1.1, b1]; rfl) (fun z hz => nomatch hz) (covers_of b2) b3 (C.2.2.2.2.2.1 _ b5) (castE hG C.2.2.2.2.2.2.2.2.1 b4) (by rw [e1]; exact hce) hcv hcl hbody
      · refine vx_catch C.2.2.2.2.1 [⟨0, a3, a5, a4⟩] ⟨0, a1, h, a2⟩ [] (by rw [C.2.2.2.2.2.2.2.1.1, b1]; rfl) (fun z hz => ?_) (covers_of b2) b3 (C.2.2.2.2.2.1 _ b6) (castE hG C.2.2.2.2.2.2.2.2.1 (by decide)) (by rw [e1]; exact hce) hcv hcl hbody
        rw [List.mem_singleton.mp hz]
        exact Or.inr ⟨b4, _, C.2.2.2.2.2.1 _ b7, va_Nc.moved C.2.2.2.2.2.2.2.2.1.alike (va_Nc.of (hG.2.2.2.2.2.2.2.2.2 (.not (.castable "java/lang/IllegalArgumentException" "java/util/NoSuchElementException")) (by simp [nestL])))⟩
    obtain ⟨t2, a1, b1⟩ := hcat T' rfl X'
    exact ⟨t2, stp.trans a1, b1⟩
end XR
