/-! ### cells: reading and writing -/
theorem shT_lt {k : Nat} (h : ¬ shT k = 9) : k < 100 := by
  rcases Nat.lt_or_ge k 100 with q | q
  · exact q
  · exfalso
    apply h
    unfold shT
    rw [List.getD_eq_getElem?_getD, List.getElem?_eq_none (by show shTl.length ≤ k; exact Nat.le_trans (by decide) q)]
    rfl
theorem shT_obj : ∀ k : Nat, k < 100 → (shT k = 0 ↔ k < 13) := by decide +kernel
theorem shT_93 : ∀ k : Nat, k < 100 → ¬ shT k = 9 → k < 93 := by decide +kernel
theorem phk_obj {k : Nat} (h : k < 13) : phk k = 300 + k := by unfold phk; rw [if_pos h]
theorem phk_arr {k : Nat} (h : ¬ shT k = 0) (hk : k < 100) : phk k = k := by unfold phk; rw [if_neg (fun q => h ((shT_obj k hk).mpr q))]
theorem bas_phk {k : Nat} (hk : k < 100) : bas (phk k) = k := by
  unfold bas phk
  by_cases h : k < 13
  · rw [if_pos h, if_pos (by omega)]; omega
  · rw [if_neg h, if_neg (by omega)]
theorem bas_inj {a b : Nat × Nat} (ha : phys a = true) (hb : phys b = true) (h : bas a.1 = bas b.1) : a.1 = b.1 := by
  have h1 := of_decide_eq_true ha
  have h2 := of_decide_eq_true hb
  unfold bas at h
  by_cases x : 300 ≤ a.1
  · by_cases y : 300 ≤ b.1
    · rw [if_pos x, if_pos y] at h; omega
    · rw [if_pos x, if_neg y] at h; omega
  · by_cases y : 300 ≤ b.1
    · rw [if_neg x, if_pos y] at h; omega
    · rw [if_neg x, if_neg y] at h; exact h
theorem wl_get {cA : Nat → ClassId} {ad : AD} {M : Mem} {L : AL} {k i : Nat} (hC : Clo ad L M) (h : (k, i) ∈ L) (hk : k < 100) (hT : ¬ shT k = 9) : ∃ q0 : Nat, (L.filter phys)[q0]? = some (phk k, i) ∧ (wl cA ad M L)[q0]? = some (ad k i, cellE cA ad M k i) := by
  have hin : (phk k, i) ∈ L ∧ ad k i = ad (phk k) i := by
    by_cases h13 : k < 13
    · exact ⟨(hC.2.2.1 k i h13 h).1, (hC.2.2.1 k i h13 h).2.1⟩
    · have e : phk k = k := by unfold phk; rw [if_neg h13]
      rw [e]; exact ⟨h, rfl⟩
  have hp : phys (phk k, i) = true := by
    apply decide_eq_true
    have h93 := shT_93 k hk hT
    show (13 ≤ phk k ∧ phk k < 93) ∨ (300 ≤ phk k ∧ phk k < 313)
    unfold phk
    by_cases h13 : k < 13
    · rw [if_pos h13]; omega
    · rw [if_neg h13]; omega
  obtain ⟨q0, hq⟩ := List.getElem?_of_mem (List.mem_filter.mpr ⟨hin.1, hp⟩)
  refine ⟨q0, hq, ?_⟩
  unfold wl
  rw [List.getElem?_map, hq]
  show some (ad (phk k) i, cellE cA ad M (bas (phk k)) i) = _
  rw [bas_phk hk, hin.2]
theorem wl_set {A : Nat → Prop} {cA : Nat → ClassId} {ad : AD} {M M2 : Mem} {L : AL} {k i q0 : Nat} {e : va_E} (hD : va_D A (wl cA ad M L)) (hk : k < 100) (hq : (L.filter phys)[q0]? = some (phk k, i)) (hg : (wl cA ad M L)[q0]? = some (ad k i, cellE cA ad M k i)) (he : e = cellE cA ad M2 k i) (ho : ∀ a b, ¬ (a = k ∧ b = i) → cellE cA ad M2 a b = cellE cA ad M a b) : (wl cA ad M L).set q0 (ad k i, e) = wl cA ad M2 L := by
  apply List.ext_getElem?
  intro n
  have hlen : (wl cA ad M L).length = (L.filter phys).length := by unfold wl; rw [List.length_map]
  have hl0 : q0 < (L.filter phys).length := (List.getElem?_eq_some_iff.mp hq).1
  have had : ad (phk k) i = ad k i := by
    unfold wl at hg
    rw [List.getElem?_map, hq] at hg
    exact congrArg Prod.fst (Option.some.inj hg)
  by_cases hn : n = q0
  · subst hn
    rw [List.getElem?_set_self (by rw [hlen]; exact hl0)]
    unfold wl
    rw [List.getElem?_map, hq, he]
    show _ = some (ad (phk k) i, cellE cA ad M2 (bas (phk k)) i)
    rw [bas_phk hk, had]
  · rw [List.getElem?_set_ne (Ne.symm hn)]
    unfold wl
    rw [List.getElem?_map, List.getElem?_map]
    cases hL : (L.filter phys)[n]? with
    | none => rfl
    | some q =>
      have hq2 : ¬ (bas q.1 = k ∧ q.2 = i) := by
       rintro ⟨e1, e2⟩
       have e3 : q.1 = phk k := bas_inj (a := q) (b := (phk k, i)) (List.mem_filter.mp (List.mem_of_getElem? hL)).2 (List.mem_filter.mp (List.mem_of_getElem? hq)).2 (by rw [e1]; exact (bas_phk hk).symm)
       refine hn (hD.1 n q0 (ad q.1 q.2, cellE cA ad M (bas q.1) q.2) (ad (phk k) i, cellE cA ad M (bas (phk k)) i) ?_ ?_ ?_)
       · unfold wl; rw [List.getElem?_map, hL]; rfl
       · unfold wl; rw [List.getElem?_map, hq]; rfl
       · rw [e3, e2]
      show some (ad q.1 q.2, cellE cA ad M (bas q.1) q.2) = some (ad q.1 q.2, cellE cA ad M2 (bas q.1) q.2)
      rw [ho (bas q.1) q.2 hq2]
theorem cellE_congr {cA : Nat → ClassId} {ad : AD} {M M2 : Mem} {a b : Nat} (h : M2 a b = M a b) : cellE cA ad M2 a b = cellE cA ad M a b := by
  unfold cellE fldV
  rw [h]
theorem wr_ne {M : Mem} {k i j : Nat} {x : Int32} {a b : Nat} (h : ¬ (a = k ∧ b = i)) : wr M k i j x a b = M a b := by
  funext c
  unfold wr
  rw [if_neg (fun q => h ⟨q.1, q.2.1⟩)]
theorem wr_same (M : Mem) (k i j : Nat) (x : Int32) : wr M k i j x k i j = x := by unfold wr; rw [if_pos ⟨rfl, rfl, rfl⟩]
theorem wr_at (M : Mem) (k i j : Nat) (x : Int32) : wr M k i j x k i = upd (M k i) j x := by
  funext c
  unfold wr upd
  by_cases h : c = j
  · subst h; simp
  · simp [h]
/-- the facts of a class: its row, its words, its fields' types -/
def CF (k : Nat) (C : String) (T : u_T) (N : Nat) : Prop := vwCl[k]? = some (C, T, N) ∧ shT k = 0 ∧ shN k = N ∧ k < 100 ∧ (∀ w ∈ u_ws C T N, w ∈ W0) ∧ (∃ ty : Nat → FieldType, ∀ j, j < N → parseFieldDescriptor (T j).2.2.1 = some (ty j)) ∧ (∀ a, a < N → ∀ b, b < N → a ≠ b → (T a).2.1 ≠ (T b).2.1) ∧ Cond.initialized C ∈ W0
/-- the entry idx of own is the field j of the class k -/
def FL (own : String) (idx k j : Nat) : Prop := ∃ (C : String) (T : u_T) (N : Nat), CF k C T N ∧ j < N ∧ Cond.fieldLink own idx C (T j).2.1 (T j).2.2.1 ∈ W0 ∧ (T j).1 = C
/-- .. an int that may be written -/
def FW (own : String) (idx k j : Nat) : Prop := ∃ (C : String) (T : u_T) (N : Nat), CF k C T N ∧ j < N ∧ Cond.fieldLink own idx C (T j).2.1 (T j).2.2.1 ∈ W0 ∧ (T j).1 = C ∧ (T j).2.2.2 = false ∧ parseFieldDescriptor (T j).2.2.1 = some .int
theorem cellE_obj {cA : Nat → ClassId} {ad : AD} {M : Mem} {k i : Nat} (h : shT k = 0) : cellE cA ad M k i = .inr (k, (List.range (shN k)).map (fldV ad M k i)) := by
  unfold cellE; rw [h]; rfl
theorem cellE_int {cA : Nat → ClassId} {ad : AD} {M : Mem} {k i : Nat} (h : shT k = 1) : cellE cA ad M k i = .inl (cA 1, shN k, .inl (fun j => M k i j)) := by
  unfold cellE; rw [h]; rfl
theorem cellE_long {cA : Nat → ClassId} {ad : AD} {M : Mem} {k i : Nat} (h : shT k = 2) : cellE cA ad M k i = .inl (cA 2, shN k, .inr (.inl (fun j => jL (M k i (2 * j)) (M k i (2 * j + 1))))) := by
  unfold cellE; rw [h]; rfl
theorem cellE_grid {cA : Nat → ClassId} {ad : AD} {M : Mem} {k i : Nat} (h : shT k = 3) : cellE cA ad M k i = .inl (cA 3, shN k, .inr (.inr (.inr (.inr (fun j => refO ad k i j))))) := by
  unfold cellE; rw [h]; rfl
theorem cellE_pool4 {cA : Nat → ClassId} {ad : AD} {M : Mem} {k i : Nat} (h : shT k = 4) : cellE cA ad M k i = .inl (cA 4, shN k, .inr (.inr (.inr (.inr (fun j => if M k i j = 0 then none else refO ad k i j))))) := by
  unfold cellE; rw [h]; rfl
theorem cellE_pool5 {cA : Nat → ClassId} {ad : AD} {M : Mem} {k i : Nat} (h : shT k = 5) : cellE cA ad M k i = .inl (cA 5, shN k, .inr (.inr (.inr (.inr (fun j => if M k i j = 0 then none else refO ad k i j))))) := by
  unfold cellE; rw [h]; rfl
theorem avk_in {L : AL} {k i : Nat} (h : avk L (vR k i)) (hk : k < 100) : (k, i) ∈ L := h.elim id (fun q => absurd q.1 (by show ¬ 100 ≤ k; omega))
theorem GF.K {l : Launch} {s0 s : State} {D : va_G} {cA : Nat → ClassId} (h : GF l s0 D cA) (ha : s0.vm.Alike s.vm) : va_K D vwCl (tyl cA) s := va_K.moved ha h.2.1
theorem Clo.wr {ad : AD} {L : AL} {M : Mem} {k i j : Nat} {x : Int32} (h : Clo ad L M) (hr : shR k i j = none) (hk : ¬ k = 94) : Clo ad L (wr M k i j x) := by
  have key : ∀ a b c t, shR a b c = some t → Jvm.Pilot.@@N@@.wr M k i j x a b c = M a b c := by
    intro a b c t ht
    unfold Jvm.Pilot.@@N@@.wr
    rw [if_neg]
    rintro ⟨rfl, rfl, rfl⟩
    rw [hr] at ht
    cases ht
  have e94 : ∀ a b, Jvm.Pilot.@@N@@.wr M k i j x 94 a b = M 94 a b := fun a b => by unfold Jvm.Pilot.@@N@@.wr; rw [if_neg (fun e => hk e.1.symm)]
  refine ⟨?_, ?_, ?_, ?_⟩
  · intro a b hab c hc t ht hz
    rw [key a b c t ht] at hz
    exact h.1 a b hab c hc t ht hz
  · intro q hq
    have e2 : Jvm.Pilot.@@N@@.wr M k i j x 94 q.1 q.2 = M 94 q.1 q.2 := by unfold Jvm.Pilot.@@N@@.wr; rw [if_neg (fun e => hk e.1.symm)]
    rw [e2]
    exact h.2.1 q hq
  · intro a b ha hab
    obtain ⟨c1, c2, c3⟩ := h.2.2.1 a b ha hab
    refine ⟨c1, c2, fun c hc t ht => ?_⟩
    rw [key a b c t ht]
    exact c3 c hc t ht
  · intro a b ha hab
    rw [e94] at hab
    exact h.2.2.2 a b ha hab
theorem RO.wr {s0 : State} {cA : Nat → ClassId} {ad : AD} {M : Mem} {k i j : Nat} {x : Int32} (h : RO s0 cA ad M) (hk : k < 100) : RO s0 cA ad (wr M k i j x) := by
  have e1 : Jvm.Pilot.@@N@@.wr M k i j x 100 1 = M 100 1 := wr_ne (fun q => by omega)
  have e0 : Jvm.Pilot.@@N@@.wr M k i j x 100 0 = M 100 0 := wr_ne (fun q => by omega)
  unfold RO
  rw [e1, e0]
  exact h
theorem shR_int0 : ∀ k ∈ ((List.range 100).filter (fun k => shT k == 1)), ∀ i j, shR k i j = none := by
  have e : ((List.range 100).filter (fun k => shT k == 1)) = [20, 21, 22, 23, 24, 25, 26, 27, 28, 29, 30, 31, 32, 33, 34, 35, 36, 37, 38, 39, 40, 41, 42, 43, 44, 45, 49, 50, 51, 52, 53, 54, 55, 56, 57, 58, 59, 60, 61, 63, 65, 67, 69, 71, 73, 75, 77, 79, 81, 83, 85, 87, 89] := by decide +kernel
  rw [e]
  intro k hk i j
  simp only [List.mem_cons, List.not_mem_nil, or_false] at hk
  rcases hk with rfl | rfl | rfl | rfl | rfl | rfl | rfl | rfl | rfl | rfl | rfl | rfl | rfl | rfl | rfl | rfl | rfl | rfl | rfl | rfl | rfl | rfl | rfl | rfl | rfl | rfl | rfl | rfl | rfl | rfl | rfl | rfl | rfl | rfl | rfl | rfl | rfl | rfl | rfl | rfl | rfl | rfl | rfl | rfl | rfl | rfl | rfl | rfl | rfl | rfl | rfl | rfl | rfl <;> rfl
/-- an array of ints refers to nothing -/
def intK : List Nat := (List.range 100).filter (fun k => shT k == 1)
theorem shR_int {k i j : Nat} (h : shT k = 1) : shR k i j = none := by
  have hk : k < 100 := by
    rcases Nat.lt_or_ge k 100 with q | q
    · exact q
    · exfalso
      unfold shT at h
      rw [List.getD_eq_getElem?_getD, List.getElem?_eq_none (by show shTl.length ≤ k; exact Nat.le_trans (by decide) q)] at h
      exact absurd h (by decide)
  have hm : k ∈ intK := List.mem_filter.mpr ⟨List.mem_range.mpr hk, by rw [h]; rfl⟩
  exact shR_int0 k hm i j
/-- the heap is older behind the law's start -/
theorem keep_old {s0 s : State} {H1 : Heap} {locs1 : List Loc} (h0 : ∀ q, q < s0.heap.size → s.heap[q]? = s0.heap[q]?) (hle : s0.heap.size ≤ s.heap.size) (hS : va_S (Ab s0) s.heap H1 locs1) : (∀ q, q < s0.heap.size → H1[q]? = s0.heap[q]?) ∧ s0.heap.size ≤ H1.size :=
  ⟨fun q hq => by rw [hS.2.1 q (by omega) (by show ¬ s0.heap.size ≤ q; omega)]; exact h0 q hq, Nat.le_trans hle hS.1⟩
section XR
variable {own : String} {cc : ByteArray} {nL : Nat} {rt : Option FieldType} {fr lo mc ms u v pc : Nat} {ls : List (Nat × AV)} {st : List AV} {M : Mem} {o : Ou} {M' : Mem}
theorem xj_getI {k i j idx : Nat} (hd : decode cc pc = .ok (.getfield idx, 3)) (hf : FL own idx k j) (hr : shR k i j = none) (kk : Xj own cc nL rt fr lo mc ms u v (pc + 3) ls (vI (M k i j) :: st) M o M') : Xj own cc nL rt fr lo mc ms u v pc ls (vR k i :: st) M o M' := by
  intro l s0 D cA p e s m args below meth c C adE LE ad L H locs lsA hE hR hl hs hS hv
  obtain ⟨Cn, T, N, ⟨h1, h2, h3, h4, h5, h6, h7, h8⟩, hj, hw, hT⟩ := hf
  have hin := avk_in hs.1 h4
  obtain ⟨q0, hq, hg⟩ := wl_get (cA := cA) hR.2.2.1 hin h4 (by rw [h2]; decide)
  rw [cellE_obj h2, h3] at hg
  refine va_get (v := .int (M k i j)) C.1 C.2.1 C.2.2.2.2.2.1 h5 C.2.2.2.2.1 (GF.K C.2.2.2.2.2.2.2.2.2.1 C.2.2.2.2.2.2.2.2.1.alike) hR.1 q0 hg h1 j hj (C.2.2.2.2.2.1 _ hw) (fun x hx => by rw [hT] at hx; exact hx) ?_ hd (kk l s0 D cA p e s m args below meth c C adE LE ad L H locs lsA hE hR hl ⟨trivial, hs.2⟩ hS hv)
  rw [List.getElem?_map, List.getElem?_range hj]
  simp [fldV, hr]
theorem xj_getR {k i j idx : Nat} {t : Nat × Nat} (hd : decode cc pc = .ok (.getfield idx, 3)) (hf : FL own idx k j) (hr : shR k i j = some t) (kk : Xj own cc nL rt fr lo mc ms u v (pc + 3) ls (vR t.1 t.2 :: st) M o M') : Xj own cc nL rt fr lo mc ms u v pc ls (vR k i :: st) M o M' := by
  intro l s0 D cA p e s m args below meth c C adE LE ad L H locs lsA hE hR hl hs hS hv
  obtain ⟨Cn, T, N, ⟨h1, h2, h3, h4, h5, h6, h7, h8⟩, hj, hw, hT⟩ := hf
  have hin := avk_in hs.1 h4
  obtain ⟨q0, hq, hg⟩ := wl_get (cA := cA) hR.2.2.1 hin h4 (by rw [h2]; decide)
  obtain ⟨c1, -, c3⟩ := hR.2.2.1.2.2.1 k i ((shT_obj k h4).mp h2) hin
  replace c3 := c3 j (by rw [h3]; exact hj) t hr
  rw [cellE_obj h2, h3] at hg
  refine va_get (v := .ref (ad t.1 t.2)) C.1 C.2.1 C.2.2.2.2.2.1 h5 C.2.2.2.2.1 (GF.K C.2.2.2.2.2.2.2.2.2.1 C.2.2.2.2.2.2.2.2.1.alike) hR.1 q0 hg h1 j hj (C.2.2.2.2.2.1 _ hw) (fun x hx => by rw [hT] at hx; exact hx) ?_ hd (kk l s0 D cA p e s m args below meth c C adE LE ad L H locs lsA hE hR hl ⟨Or.inl (hR.2.2.1.1 k i c1 j (by rw [h3]; exact hj) t hr (Or.inr c3)), hs.2⟩ hS hv)
  rw [List.getElem?_map, List.getElem?_range hj]
  simp [fldV, hr, c3]
theorem xj_putI {k i j idx : Nat} {x : Int32} (hd : decode cc pc = .ok (.putfield idx, 3)) (hf : FW own idx k j) (hr : shR k i j = none) (kk : Xj own cc nL rt fr lo mc ms u v (pc + 3) ls st (wr M k i j x) o M') : Xj own cc nL rt fr lo mc ms u v pc ls (vI x :: vR k i :: st) M o M' := by
  intro l s0 D cA p e s m args below meth c C adE LE ad L H locs lsA hE hR hl hs hS hv
  obtain ⟨Cn, T, N, ⟨h1, h2, h3, h4, h5, ⟨ty, h6⟩, h7, h8⟩, hj, hw, hT, hfin, hty⟩ := hf
  have hin := avk_in hs.2.1 h4
  obtain ⟨q0, hq, hg⟩ := wl_get (cA := cA) hR.2.2.1 hin h4 (by rw [h2]; decide)
  have hg0 := hg
  rw [cellE_obj h2, h3] at hg
  refine va_put (v := .int x) (ty := .int) C.1 C.2.1 C.2.2.2.2.2.1 h5 ty h6 h7 C.2.2.2.2.1 (GF.K C.2.2.2.2.2.2.2.2.2.1 C.2.2.2.2.2.2.2.2.1.alike) hR.1 hR.2.1 hS q0 hg h1 j hj (C.2.2.2.2.2.1 _ hw) (fun x hx => by rw [hT] at hx; exact hx) hfin hty rfl rfl (by simp [hj]) hd ?_
  intro H1 locs1 hP hD hS1
  have hset : ((List.range N).map (fldV ad M k i)).set j (.int x) = (List.range N).map (fldV ad (wr M k i j x) k i) := by
    apply List.ext_getElem?
    intro n
    by_cases hn : n = j
    · subst hn
      rw [List.getElem?_set_self (by simp [hj]), List.getElem?_map, List.getElem?_range hj]
      simp [fldV, hr, wr_same]
    · rw [List.getElem?_set_ne (Ne.symm hn), List.getElem?_map, List.getElem?_map]
      by_cases hN : n < N
      · rw [List.getElem?_range hN]
        simp [fldV, wr, hn]
      · rw [List.getElem?_eq_none (by simp; omega)]; rfl
  have hw2 := wl_set (M2 := wr M k i j x) (e := .inr (k, ((List.range N).map (fldV ad M k i)).set j (.int x))) hR.2.1 h4 hq hg0 (by rw [cellE_obj h2, h3, hset]) (fun a b hab => cellE_congr (wr_ne hab))
  rw [hw2] at hP hD
  exact kk l s0 D cA p e s m args below meth c C adE LE ad L H1 locs1 lsA hE ⟨hP, hD, hR.2.2.1.wr hr (fun q => by rw [q] at h2; exact absurd h2 (by decide)), hR.2.2.2.1.wr h4, keep_old C.2.2.2.2.2.2.2.2.2.2.2 C.2.2.2.2.2.2.2.2.2.2.1 hS1⟩ hl hs.2.2 hS1 hv
theorem xj_iald {k i : Nat} {x : Int32} (hd : decode cc pc = .ok (.iaload, 1)) (hT : shT k = 1) (hk : k < 100) (hx : vp_in x (shN k)) (kk : Xj own cc nL rt fr lo mc ms u v (pc + 1) ls (vI (M k i x.toNatClampNeg) :: st) M o M') : Xj own cc nL rt fr lo mc ms u v pc ls (vI x :: vR k i :: st) M o M' := by
  intro l s0 D cA p e s m args below meth c C adE LE ad L H locs lsA hE hR hl hs hS hv
  obtain ⟨q0, hq, hg⟩ := wl_get (cA := cA) hR.2.2.1 (avk_in hs.2.1 hk) hk (by rw [hT]; decide)
  rw [cellE_int hT] at hg
  exact va_iald C.1 C.2.1 (GF.K C.2.2.2.2.2.2.2.2.2.1 C.2.2.2.2.2.2.2.2.1.alike) hR.1 q0 1 hg rfl hx hd (kk l s0 D cA p e s m args below meth c C adE LE ad L H locs lsA hE hR hl ⟨trivial, hs.2.2⟩ hS hv)
theorem xj_iast {k i : Nat} {x z : Int32} (hd : decode cc pc = .ok (.iastore, 1)) (hT : shT k = 1) (hk : k < 100) (hx : vp_in x (shN k)) (kk : Xj own cc nL rt fr lo mc ms u v (pc + 1) ls st (wr M k i x.toNatClampNeg z) o M') : Xj own cc nL rt fr lo mc ms u v pc ls (vI z :: vI x :: vR k i :: st) M o M' := by
  intro l s0 D cA p e s m args below meth c C adE LE ad L H locs lsA hE hR hl hs hS hv
  obtain ⟨q0, hq, hg⟩ := wl_get (cA := cA) hR.2.2.1 (avk_in hs.2.2.1 hk) hk (by rw [hT]; decide)
  have hg0 := hg
  rw [cellE_int hT] at hg
  refine va_iast C.1 C.2.1 (GF.K C.2.2.2.2.2.2.2.2.2.1 C.2.2.2.2.2.2.2.2.1.alike) hR.1 hR.2.1 hS q0 1 hg rfl hx hd ?_
  intro H1 locs1 hP hD hS1
  have hw2 := wl_set (M2 := wr M k i x.toNatClampNeg z) (e := .inl (cA 1, shN k, .inl (upd (fun j => M k i j) x.toNatClampNeg z))) hR.2.1 hk hq hg0 (by rw [cellE_int hT]; show _ = Sum.inl (cA 1, shN k, Sum.inl (wr M k i x.toNatClampNeg z k i)); rw [wr_at]) (fun a b hab => cellE_congr (wr_ne hab))
  rw [hw2] at hP hD
  exact kk l s0 D cA p e s m args below meth c C adE LE ad L H1 locs1 lsA hE ⟨hP, hD, hR.2.2.1.wr (shR_int hT) (fun q => by rw [q] at hT; exact absurd hT (by decide)), hR.2.2.2.1.wr hk, keep_old C.2.2.2.2.2.2.2.2.2.2.2 C.2.2.2.2.2.2.2.2.2.2.1 hS1⟩ hl hs.2.2.2 hS1 hv
theorem xj_alen {k i : Nat} {x : Int32} (hd : decode cc pc = .ok (.arraylength, 1)) (hT : ¬ shT k = 0) (hT5 : shT k ≤ 5) (hk : k < 100) (hx : nI (shN k) = x) (kk : Xj own cc nL rt fr lo mc ms u v (pc + 1) ls (vI x :: st) M o M') : Xj own cc nL rt fr lo mc ms u v pc ls (vR k i :: st) M o M' := by
  intro l s0 D cA p e s m args below meth c C adE LE ad L H locs lsA hE hR hl hs hS hv
  obtain ⟨q0, hq, hg⟩ := wl_get (cA := cA) hR.2.2.1 (avk_in hs.1 hk) hk (by omega)
  have hK := GF.K C.2.2.2.2.2.2.2.2.2.1 C.2.2.2.2.2.2.2.2.1.alike
  have k9 := kk l s0 D cA p e s m args below meth c C adE LE ad L H locs lsA hE hR hl ⟨trivial, hs.2⟩ hS hv
  rcases (show shT k = 1 ∨ shT k = 2 ∨ shT k = 3 ∨ shT k = 4 ∨ shT k = 5 by omega) with h | h | h | h | h
  · rw [cellE_int h] at hg; exact va_alen C.1 C.2.1 hK hR.1 q0 1 hg rfl hx hd k9
  · rw [cellE_long h] at hg; exact va_alen C.1 C.2.1 hK hR.1 q0 2 hg rfl hx hd k9
  · rw [cellE_grid h] at hg; exact va_alen C.1 C.2.1 hK hR.1 q0 3 hg rfl hx hd k9
  · rw [cellE_pool4 h] at hg; exact va_alen C.1 C.2.1 hK hR.1 q0 4 hg rfl hx hd k9
  · rw [cellE_pool5 h] at hg; exact va_alen C.1 C.2.1 hK hR.1 q0 5 hg rfl hx hd k9
/-- a row of a grid -/
theorem xj_aald {k i : Nat} {x : Int32} {t : Nat × Nat} (hd : decode cc pc = .ok (.aaload, 1)) (hT : shT k = 3) (hk : k < 100) (hx : vp_in x (shN k)) (hr : shR k i x.toNatClampNeg = some t) (kk : Xj own cc nL rt fr lo mc ms u v (pc + 1) ls (vR t.1 t.2 :: st) M o M') : Xj own cc nL rt fr lo mc ms u v pc ls (vI x :: vR k i :: st) M o M' := by
  intro l s0 D cA p e s m args below meth c C adE LE ad L H locs lsA hE hR hl hs hS hv
  have hin := avk_in hs.2.1 hk
  obtain ⟨q0, hq, hg⟩ := wl_get (cA := cA) hR.2.2.1 hin hk (by rw [hT]; decide)
  rw [cellE_grid hT] at hg
  have hlt : x.toNatClampNeg < shN k := Nat.not_le.mp fun q => hx (Or.inr q)
  have hK := GF.K C.2.2.2.2.2.2.2.2.2.1 C.2.2.2.2.2.2.2.2.1.alike
  have k9 := kk l s0 D cA p e s m args below meth c C adE LE ad L H locs lsA hE hR hl ⟨Or.inl (hR.2.2.1.1 k i (by rw [phk_arr (by rw [hT]; decide) hk]; exact hin) _ hlt t hr (Or.inl hT)), hs.2.2⟩ hS hv
  exact W.aald (v := .ref (ad t.1 t.2)) (ty := .array .int) C.1 C.2.1 (hR.1 q0 _ hg) ((hK.2 3 _ rfl).1 (shN k) (fun j => va_rf (refO ad k i j))) rfl (fun q => by cases q) (by show ¬ (x < 0 ∨ (arrV _ _ _).slots.size ≤ _); rw [arrV_size]; exact hx) (by show (arrV _ _ _).slots[_]? = _; rw [arrV_read _ _ hlt]; simp [refO, hr, va_rf, hlt]) rfl rfl hd k9
/-- a kept State, if there is one -/
theorem xj_aaldN {k i : Nat} {x : Int32} {t : Nat × Nat} (hd : decode cc pc = .ok (.aaload, 1)) (hT : shT k = 4 ∨ shT k = 5) (hk : k < 100) (hx : vp_in x (shN k)) (hr : shR k i x.toNatClampNeg = some t) (kn : M k i x.toNatClampNeg = 0 → Xj own cc nL rt fr lo mc ms u v (pc + 1) ls (vN :: st) M o M') (kk : ¬ M k i x.toNatClampNeg = 0 → Xj own cc nL rt fr lo mc ms u v (pc + 1) ls (vR t.1 t.2 :: st) M o M') : Xj own cc nL rt fr lo mc ms u v pc ls (vI x :: vR k i :: st) M o M' := by
  intro l s0 D cA p e s m args below meth c C adE LE ad L H locs lsA hE hR hl hs hS hv
  have hin := avk_in hs.2.1 hk
  obtain ⟨q0, hq, hg⟩ := wl_get (cA := cA) hR.2.2.1 hin hk (by rcases hT with q | q <;> rw [q] <;> decide)
  have hlt : x.toNatClampNeg < shN k := Nat.not_le.mp fun q => hx (Or.inr q)
  have hK := GF.K C.2.2.2.2.2.2.2.2.2.1 C.2.2.2.2.2.2.2.2.1.alike
  have hv9 : ∀ W9 : Value, (va_rf (if M k i x.toNatClampNeg = 0 then none else refO ad k i x.toNatClampNeg)) = W9 → W p l e { frames := fr, cells := mc, slots := ms, locals := lo } s m args below meth c H locs u v (vx_MQ below (QC s0 D cA adE LE o M') (XQ s0 D cA adE LE o M') args s mc ms (Ab s0)) (F0 m (pc + 1) lsA (W9 :: stc ad st)) := by
    intro W9 e9
    by_cases hz : M k i x.toNatClampNeg = 0
    · rw [if_pos hz] at e9
      subst e9
      exact kn hz l s0 D cA p e s m args below meth c C adE LE ad L H locs lsA hE hR hl ⟨trivial, hs.2.2⟩ hS hv
    · rw [if_neg hz] at e9
      have e8 : W9 = .ref (ad t.1 t.2) := by rw [← e9]; simp [refO, hr, va_rf, hlt]
      subst e8
      exact kk hz l s0 D cA p e s m args below meth c C adE LE ad L H locs lsA hE hR hl ⟨Or.inl (hR.2.2.1.1 k i (by rw [phk_arr (by rcases hT with q | q <;> rw [q] <;> decide) hk]; exact hin) _ hlt t hr (Or.inr hz)), hs.2.2⟩ hS hv
  rcases hT with hT | hT
  · rw [cellE_pool4 hT] at hg
    exact va_aldq C.1 C.2.1 hK hR.1 q0 4 hg rfl hx hd (hv9 _ rfl)
  · rw [cellE_pool5 hT] at hg
    exact va_aldq C.1 C.2.1 hK hR.1 q0 5 hg rfl hx hd (hv9 _ rfl)
end XR
