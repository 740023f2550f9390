/-! ### making objects and arrays -/
def nw (M : Mem) (k i : Nat) : Mem := fun a b c => if a = bas k ∧ b = i then 0 else if a = 94 ∧ b = k ∧ c = i then 1 else M a b c
theorem lt93 {a b : Nat} (h : a < 93) : ((a, b) : Nat × Nat).1 < 93 := h
theorem shR_lt {k i j : Nat} {t : Nat × Nat} (h : shR k i j = some t) : t.1 < 93 := by
  unfold shR at h
  split at h
  all_goals first
    | (cases h; done)
    | (cases h; exact lt93 (by decide))
    | (split at h <;> first | (cases h; done) | (cases h; exact lt93 (by decide)))
theorem shN_lt {k j : Nat} (h : j < shN k) : k < 93 := by
  rcases Nat.lt_or_ge k 93 with q | q
  · exact q
  · exfalso
    unfold shN at h
    rw [List.getD_eq_getElem?_getD, List.getElem?_eq_none (by show shNl.length ≤ k; exact Nat.le_trans (by decide) q)] at h
    exact absurd h (by simp)
theorem shN_13 : ∀ k : Nat, k < 93 → shN k = 0 ∨ k < 13 ∨ 20 ≤ k := by decide +kernel
theorem phys_phk {k i j : Nat} (h : k < 93) (hj : j < shN k) : phys (phk k, i) = true := by
  have h1 := shN_13 k h
  apply decide_eq_true
  show (13 ≤ phk k ∧ phk k < 93) ∨ (300 ≤ phk k ∧ phk k < 313)
  unfold phk
  by_cases h13 : k < 13
  · rw [if_pos h13]; omega
  · rw [if_neg h13]; omega
theorem phk_bas {q : Nat × Nat} (h : phys q = true) : phk (bas q.1) = q.1 := by
  have h1 := of_decide_eq_true h
  unfold phk bas
  by_cases x : 300 ≤ q.1
  · rw [if_pos x, if_pos (by omega)]; omega
  · rw [if_neg x, if_neg (by omega)]
theorem bas_lt {q : Nat × Nat} (h : phys q = true) : bas q.1 < 93 := by
  have h1 := of_decide_eq_true h
  unfold bas
  by_cases x : 300 ≤ q.1
  · rw [if_pos x]; omega
  · rw [if_neg x]; omega
theorem cellE_ext {cA : Nat → ClassId} {ad ad' : AD} {M M' : Mem} {L : AL} {q : Nat × Nat} (hC : Clo ad L M) (hq : q ∈ L) (hp : phys q = true) (had : ∀ q ∈ L, ad' q.1 q.2 = ad q.1 q.2) (hM : M' (bas q.1) q.2 = M (bas q.1) q.2) : cellE cA ad' M' (bas q.1) q.2 = cellE cA ad M (bas q.1) q.2 := by
  have hin : (phk (bas q.1), q.2) ∈ L := by rw [phk_bas hp]; exact hq
  generalize bas q.1 = k at hin hM ⊢
  generalize q.2 = i at hin hM ⊢
  have hfld : ∀ j, j < shN k → fldV ad' M' k i j = fldV ad M k i j := by
    intro j hj
    unfold fldV
    rw [hM]
    cases hs : shR k i j with
    | none => rfl
    | some t =>
      show (if M k i j = 0 then Value.null else Value.ref (ad' t.1 t.2)) = (if M k i j = 0 then Value.null else Value.ref (ad t.1 t.2))
      by_cases hz : M k i j = 0
      · rw [if_pos hz, if_pos hz]
      · rw [if_neg hz, if_neg hz, had t (hC.1 _ _ hin j hj t hs (Or.inr hz))]
  have href : ∀ j, (shT k = 3 ∨ ¬ M k i j = 0) → refO ad' k i j = refO ad k i j := by
    intro j hz
    unfold refO
    by_cases hj : j < shN k
    · rw [if_pos hj, if_pos hj]
      cases hs : shR k i j with
      | none => rfl
      | some t =>
        show some (ad' t.1 t.2) = some (ad t.1 t.2)
        rw [had t (hC.1 _ _ hin j hj t hs hz)]
    · rw [if_neg hj, if_neg hj]
  have hpool : (fun j => if M k i j = 0 then none else refO ad' k i j) = (fun j => if M k i j = 0 then none else refO ad k i j) := by
    funext j
    by_cases hz : M k i j = 0
    · rw [if_pos hz, if_pos hz]
    · rw [if_neg hz, if_neg hz, href j (Or.inr hz)]
  unfold cellE
  rw [hM]
  split
  · congr 2
    apply List.map_congr_left
    intro j hj
    exact hfld j (List.mem_range.mp hj)
  · rfl
  · rfl
  · have : (fun j => refO ad' k i j) = (fun j => refO ad k i j) := funext fun j => href j (Or.inl (by assumption))
    rw [this]
  · rw [hpool]
theorem wl_grow {cA : Nat → ClassId} {ad ad' : AD} {M M' : Mem} {L : AL} {x : Nat × Nat} (hC : Clo ad L M) (hx : phys x = true) (had : ∀ q ∈ L, ad' q.1 q.2 = ad q.1 q.2) (hM : ∀ q ∈ L, phys q = true → M' (bas q.1) q.2 = M (bas q.1) q.2) : wl cA ad' M' (L ++ [x]) = wl cA ad M L ++ [(ad' x.1 x.2, cellE cA ad' M' (bas x.1) x.2)] := by
  unfold wl
  rw [List.filter_append, List.map_append]
  congr 1
  · apply List.map_congr_left
    intro q hq
    have hq2 := List.mem_filter.mp hq
    show (ad' q.1 q.2, _) = (ad q.1 q.2, _)
    rw [had q hq2.1, cellE_ext hC hq2.1 hq2.2 had (hM q hq2.1 hq2.2)]
  · rw [List.filter_cons_of_pos hx]
    rfl
def adU (ad : AD) (x : Nat × Nat) (q : Nat) : AD := fun a b => if a = x.1 ∧ b = x.2 then q else ad a b
theorem adU_at (ad : AD) (x : Nat × Nat) (q : Nat) : adU ad x q x.1 x.2 = q := by unfold adU; rw [if_pos ⟨rfl, rfl⟩]
theorem adU_ne {ad : AD} {x : Nat × Nat} {q a b : Nat} (h : ¬ (a, b) = x) : adU ad x q a b = ad a b := by
  unfold adU
  rw [if_neg (fun e => h (Prod.ext e.1 e.2))]
/-- a cell more: marked, and all zero -/
theorem Rel.grow {s0 : State} {D : va_G} {cA : Nat → ClassId} {ad : AD} {L : AL} {M : Mem} {H H1 : Heap} {x : Nat × Nat} {q : Nat} {E : va_E} (hR : Rel s0 D cA ad L M H) (hx : phys x = true) (h3 : shT (bas x.1) = 3 → ∀ j, j < shN (bas x.1) → ∀ t, shR (bas x.1) x.2 j = some t → t ∈ L) (hf : M 94 x.1 x.2 = 0)
    (hP : va_P D vwCl (wl cA ad M L ++ [(q, E)]) H1) (hD : va_D (Ab s0) (wl cA ad M L ++ [(q, E)])) (hE : E = cellE cA (adU ad x q) (nw M x.1 x.2) (bas x.1) x.2) (hold : (∀ q, q < s0.heap.size → H1[q]? = s0.heap[q]?) ∧ s0.heap.size ≤ H1.size) : Rel s0 D cA (adU ad x q) (L ++ [x]) (nw M x.1 x.2) H1 ∧ Ext ad L (adU ad x q) (L ++ [x]) := by
  have hC := hR.2.2.1
  have hxL : ¬ x ∈ L := fun h => hC.2.1 x h hf
  have had : ∀ z ∈ L, adU ad x q z.1 z.2 = ad z.1 z.2 := fun z hz => adU_ne (fun e => hxL (by rw [← e]; exact hz))
  have hb := bas_lt hx
  have hM : ∀ z ∈ L, phys z = true → nw M x.1 x.2 (bas z.1) z.2 = M (bas z.1) z.2 := by
    intro z hz hp
    funext c
    unfold nw
    have hb2 := bas_lt hp
    rw [if_neg, if_neg (by omega)]
    rintro ⟨e1, e2⟩
    exact hxL (by rw [← Prod.ext (bas_inj hp hx e1) e2]; exact hz)
  have h94 : ∀ a b, nw M x.1 x.2 94 a b = if a = x.1 ∧ b = x.2 then 1 else M 94 a b := by
    intro a b
    unfold nw
    rw [if_neg (by omega)]
    by_cases e : a = x.1 ∧ b = x.2
    · rw [if_pos ⟨rfl, e.1, e.2⟩, if_pos e]
    · rw [if_neg (fun k => e k.2), if_neg e]
  have hM2 : ∀ k i j, j < shN k → (phk k, i) ∈ L → nw M x.1 x.2 k i = M k i := by
    intro k i j hj hk
    have h93 : k < 93 := shN_lt hj
    have h1 := hM (phk k, i) hk (phys_phk h93 hj)
    rw [show bas (phk k, i).1 = k from bas_phk (by omega)] at h1
    exact h1
  have hx1 := of_decide_eq_true hx
  refine ⟨⟨?_, ?_, ⟨?_, ?_, ?_, ?_⟩, ?_, hold⟩, ⟨fun z hz => ⟨List.mem_append_left _ hz, had z hz⟩, fun k i h1 h2 => adU_ne (fun e => by rw [← e] at hx1; omega)⟩⟩
  · rw [wl_grow hC hx had hM, adU_at, ← hE]; exact hP
  · rw [wl_grow hC hx had hM, adU_at, ← hE]; exact hD
  · intro k i hk j hj t ht hz
    have h93 : k < 93 := shN_lt hj
    rcases List.mem_append.mp hk with hk | hk
    · rw [hM2 k i j hj hk] at hz
      exact List.mem_append_left _ (hC.1 k i hk j hj t ht hz)
    · have e := List.mem_singleton.mp hk
      have e1 : bas x.1 = k := by rw [← e]; exact bas_phk (by omega)
      have e2 : x.2 = i := by rw [← e]
      rcases hz with hz | hz
      · rw [e1] at h3; rw [e2] at h3; exact List.mem_append_left _ (h3 hz j hj t ht)
      · exact absurd (by unfold nw; rw [if_pos ⟨e1.symm, e2.symm⟩]) hz
  · intro z hz
    rw [h94]
    by_cases e : z.1 = x.1 ∧ z.2 = x.2
    · rw [if_pos e]; decide
    · rw [if_neg e]
      rcases List.mem_append.mp hz with hz | hz
      · exact hC.2.1 z hz
      · exact absurd (by rw [List.mem_singleton.mp hz]; exact ⟨rfl, rfl⟩) e
  · intro k i hk hz
    rcases List.mem_append.mp hz with hz | hz
    · obtain ⟨c1, c2, c3⟩ := hC.2.2.1 k i hk hz
      refine ⟨List.mem_append_left _ c1, ?_, fun j hj t ht => ?_⟩
      · rw [had (k, i) hz, had (phk k, i) c1]; exact c2
      · rw [hM2 k i j hj c1]; exact c3 j hj t ht
    · have e := List.mem_singleton.mp hz
      rw [← e] at hx1
      exfalso
      have : (13 ≤ k ∧ k < 93) ∨ (300 ≤ k ∧ k < 313) := hx1
      omega
  · intro k i hk hz
    rw [h94, if_neg (fun e => by omega)] at hz
    exact List.mem_append_left _ (hC.2.2.2 k i hk hz)
  · have e100 : ∀ a, nw M x.1 x.2 100 a = M 100 a := by
      intro a
      funext c
      unfold nw
      rw [if_neg (by omega), if_neg (by omega)]
    obtain ⟨r1, r2, r3, r4⟩ := hR.2.2.2.1
    unfold RO
    rw [e100, e100]
    exact ⟨r1, r2, r3, fun k i h1 h2 => (adU_ne (fun e => by rw [← e] at hx1; omega)).trans (r4 k i h1 h2)⟩
section XR
variable {own : String} {cc : ByteArray} {nL : Nat} {rt : Option FieldType} {fr lo mc ms u v pc : Nat} {ls : List (Nat × AV)} {st : List AV} {M : Mem} {o : Ou} {M' : Mem}
/-- a class that an entry of own makes -/
def CK (own : String) (idx k : Nat) : Prop := ∃ (C : String) (T : u_T) (N : Nat), CF k C T N ∧ Cond.classLink own idx C ∈ W0 ∧ Cond.instantiable C N ∈ W0 ∧ ∀ i j, j < N → (parseFieldDescriptor (T j).2.2.1 = some .int ∧ shR k i j = none) ∨ ((∃ y, parseFieldDescriptor (T j).2.2.1 = some y ∧ defaultValue y = .null) ∧ ∃ t, shR k i j = some t)
theorem xj_born {l : Launch} {s0 : State} {D : va_G} {cA : Nat → ClassId} {p : Program} {e : Env} {s : State} {m : MethodId} {args : Array Value} {below : List Frame} {meth : Method} {c : Code} (C : Cx l s0 D cA p s m args meth c own cc nL rt)
    {adE : AD} {LE : AL} {ad : AD} {L : AL} {H H1 : Heap} {locs : List Loc} {lsA : Array Slot} (hE : Ext adE LE ad L) (hR : Rel s0 D cA ad L M H) (hl : okl L ls) (hs : oks L st) (hS1 : va_S (Ab s0) s.heap H1 locs) (hv : lv_has lsA nL (lsc ad ls)) {x : Nat × Nat} {q : Nat} {E : va_E} (hx : phys x = true) (h3 : ¬ shT (bas x.1) = 3) (hf : M 94 x.1 x.2 = 0)
    (hP : va_P D vwCl (wl cA ad M L ++ [(q, E)]) H1) (hD : va_D (Ab s0) (wl cA ad M L ++ [(q, E)])) (hEe : E = cellE cA (adU ad x q) (nw M x.1 x.2) (bas x.1) x.2)
    (kk : Xj own cc nL rt fr lo mc ms u v pc ls (vR x.1 x.2 :: st) (nw M x.1 x.2) o M') :
    W p l e { frames := fr, cells := mc, slots := ms, locals := lo } s m args below meth c H1 locs u v (vx_MQ below (QC s0 D cA adE LE o M') (XQ s0 D cA adE LE o M') args s mc ms (Ab s0)) (F0 m pc lsA (.ref q :: stc ad st)) := by
  obtain ⟨hR2, hE2⟩ := hR.grow (x := x) (q := q) hx (fun q => absurd q h3) hf hP hD hEe (keep_old C.2.2.2.2.2.2.2.2.2.2.2 C.2.2.2.2.2.2.2.2.2.2.1 hS1)
  have k9 := kk l s0 D cA p e s m args below meth c C adE LE (adU ad x q) (L ++ [x]) H1 locs lsA (hE.tr hE2) hR2 (hE2.okl hl) ⟨Or.inl (List.mem_append_right _ (List.mem_singleton.mpr rfl)), hE2.oks hs⟩ hS1 (by rw [hE2.lsc hl]; exact hv)
  have e1 : stc (adU ad x q) (vR x.1 x.2 :: st) = .ref q :: stc ad st := by
    show Value.ref (adU ad x q x.1 x.2) :: stc (adU ad x q) st = _
    rw [adU_at, hE2.stc hs]
  rw [e1] at k9
  exact k9
theorem nw_at (M : Mem) (k i c : Nat) : nw M k i (bas k) i c = 0 := by unfold nw; rw [if_pos ⟨rfl, rfl⟩]
theorem bas_raw {k : Nat} : bas (300 + k) = k := by unfold bas; rw [if_pos (by omega)]; omega
theorem bas_self {k : Nat} (h : k < 100) : bas k = k := by unfold bas; rw [if_neg (by omega)]
theorem xj_new {idx k i : Nat} (hd : decode cc pc = .ok (.new idx, 3)) (hc : CK own idx k) (hf : M 94 (300 + k) i = 0) (h1 : u + 1 ≤ mc) (h2 : v + shN k ≤ ms) (kk : Xj own cc nL rt fr lo mc ms (u + 1) (v + shN k) (pc + 3) ls (vR (300 + k) i :: st) (nw M (300 + k) i) o M') : Xj own cc nL rt fr lo mc ms u v pc ls st M o M' := by
  intro l s0 D cA p e s m args below meth c C adE LE ad L H locs lsA hE hR hl hs hS hv
  obtain ⟨Cn, T, N, ⟨g1, g2, g3, g4, g5, ⟨ty, g6⟩, g7, g8⟩, hcl, hinst, hdef⟩ := hc
  have hts := C.2.2.2.2.2.1
  have k13 := (shT_obj k g4).mp g2
  refine va_new (fs := (List.range N).map (fldV ad (nw M (300 + k) i) k i)) C.1 C.2.1 hts g5 ty g6 C.2.2.2.2.1 (hts _ hcl) (hts _ hinst) (hts _ g8) (GF.K C.2.2.2.2.2.2.2.2.2.1 C.2.2.2.2.2.2.2.2.1.alike) hR.1 hR.2.1 hS (fun q hq => Nat.le_trans C.2.2.2.2.2.2.2.2.2.2.1 hq) g1 ?_ h1 (by rw [← g3]; exact h2) hd ?_
  · intro j hj
    have e0 : nw M (300 + k) i k i j = 0 := by have := nw_at M (300 + k) i j; rw [bas_raw] at this; exact this
    have e1 : vp_V ((List.range N).map (fldV ad (nw M (300 + k) i) k i)) j = fldV ad (nw M (300 + k) i) k i j := by
      unfold vp_V
      rw [List.getD_eq_getElem?_getD, List.getElem?_map, List.getElem?_range hj]
      rfl
    rw [e1]
    unfold fldV
    rcases hdef i j hj with ⟨y1, y2⟩ | ⟨⟨y, y1, y2⟩, t, y3⟩
    · rw [y2, e0, Option.some.inj ((g6 j hj).symm.trans y1)]; rfl
    · rw [y3, Option.some.inj ((g6 j hj).symm.trans y1), y2]
      show _ = if nw M (300 + k) i k i j = 0 then Value.null else _
      rw [if_pos e0]
  · intro q H1 hP hD hS1
    rw [← g3] at *
    refine xj_born C hE hR hl hs hS1 hv (x := (300 + k, i)) (decide_eq_true (Or.inr (by show 300 ≤ 300 + k ∧ 300 + k < 313; omega))) (by show ¬ shT (bas (300 + k)) = 3; rw [bas_raw, g2]; decide) hf hP hD ?_ kk
    show _ = cellE cA _ _ (bas (300 + k)) i
    rw [bas_raw, cellE_obj g2]
    refine congrArg (fun z => Sum.inr (k, z)) (List.map_congr_left fun j hj => ?_)
    have e0 : nw M (300 + k) i k i j = 0 := by have := nw_at M (300 + k) i j; rw [bas_raw] at this; exact this
    unfold fldV
    show (match shR k i j with | none => Value.int (nw M (300 + k) i k i j) | some t => if nw M (300 + k) i k i j = 0 then Value.null else Value.ref (ad t.1 t.2)) = (match shR k i j with | none => Value.int (nw M (300 + k) i k i j) | some t => if nw M (300 + k) i k i j = 0 then Value.null else Value.ref (adU ad (300 + k, i) q t.1 t.2))
    cases shR k i j with
    | none => rfl
    | some t => show (if _ then _ else _) = (if _ then _ else _); rw [if_pos e0, if_pos e0]
theorem xj_newa {k i : Nat} {n : Int32} (hd : decode cc pc = .ok (.newarray .int, 2)) (ha : Cond.arrayClass .int ∈ W0) (hT : shT k = 1) (hk : k < 93) (hf : M 94 k i = 0) (hn : ¬ n < 0) (hN : n.toNatClampNeg = shN k) (hB : shN k ≤ 100000) (h1 : u + 1 ≤ mc) (h2 : v + shN k ≤ ms) (kk : Xj own cc nL rt fr lo mc ms (u + 1) (v + shN k) (pc + 2) ls (vR k i :: st) (nw M k i) o M') : Xj own cc nL rt fr lo mc ms u v pc ls (vI n :: st) M o M' := by
  intro l s0 D cA p e s m args below meth c C adE LE ad L H locs lsA hE hR hl hs hS hv
  have hts := C.2.2.2.2.2.1
  have hK := GF.K C.2.2.2.2.2.2.2.2.2.1 C.2.2.2.2.2.2.2.2.1.alike
  refine va_newa (atype := .int) (a0 := (shN k, .inl (fun _ => 0))) C.1 C.2.1 (hts _ ha) rfl hK hR.1 hR.2.1 hS (fun q hq => Nat.le_trans C.2.2.2.2.2.2.2.2.2.2.1 hq) (fun _ => rfl) hn hN (by show shN k * 4 ≤ _; omega) h1 h2 hd ?_
  intro q cA9 H1 hK9 hP hD hS1
  have e9 : cA9 = cA 1 := Option.some.inj (((hK9.2 6 (cA9, .int) rfl).2 : s.vm.findClass _ = some cA9).symm.trans ((hK.2 1 (cA 1, .int) rfl).2 : s.vm.findClass _ = some (cA 1)))
  have k20 : 13 ≤ k := by
    rcases Nat.lt_or_ge k 13 with z | z
    · have := (shT_obj k (by omega)).mpr z; rw [this] at hT; exact absurd hT (by decide)
    · exact z
  refine xj_born C hE hR hl hs.2 hS1 hv (x := (k, i)) (decide_eq_true (Or.inl ⟨k20, hk⟩)) (by show ¬ shT (bas k) = 3; rw [bas_self (by omega), hT]; decide) hf hP hD ?_ kk
  show _ = cellE cA _ _ (bas k) i
  rw [bas_self (by omega), cellE_int hT, e9]
  have e0 : (fun j => nw M k i k i j) = fun _ => 0 := by
    funext j
    have := nw_at M k i j
    rw [bas_self (by omega)] at this
    exact this
  show Sum.inl (cA 1, shN k, Sum.inl (fun _ => 0)) = Sum.inl (cA 1, shN k, Sum.inl (fun j => nw M k i k i j))
  rw [e0]
end XR
/-! ### putting into what is being made; it is through -/
theorem wl_getP {cA : Nat → ClassId} {ad : AD} {M : Mem} {L : AL} {q : Nat × Nat} (h : q ∈ L) (hp : phys q = true) : ∃ q0 : Nat, (L.filter phys)[q0]? = some q ∧ (wl cA ad M L)[q0]? = some (ad q.1 q.2, cellE cA ad M (bas q.1) q.2) := by
  obtain ⟨q0, hq⟩ := List.getElem?_of_mem (List.mem_filter.mpr ⟨h, hp⟩)
  refine ⟨q0, hq, ?_⟩
  unfold wl
  rw [List.getElem?_map, hq]
  rfl
theorem wl_setP {A : Nat → Prop} {cA : Nat → ClassId} {ad : AD} {M M2 : Mem} {L : AL} {x : Nat × Nat} {q0 : Nat} {e : va_E} (hD : va_D A (wl cA ad M L)) (hq : (L.filter phys)[q0]? = some x) (he : e = cellE cA ad M2 (bas x.1) x.2) (ho : ∀ a b, ¬ (a = bas x.1 ∧ b = x.2) → cellE cA ad M2 a b = cellE cA ad M a b) : (wl cA ad M L).set q0 (ad x.1 x.2, e) = wl cA ad M2 L := by
  apply List.ext_getElem?
  intro n
  have hlen : (wl cA ad M L).length = (L.filter phys).length := by unfold wl; rw [List.length_map]
  have hl0 : q0 < (L.filter phys).length := (List.getElem?_eq_some_iff.mp hq).1
  by_cases hn : n = q0
  · subst hn
    rw [List.getElem?_set_self (by rw [hlen]; exact hl0)]
    unfold wl
    rw [List.getElem?_map, hq, he]
    rfl
  · rw [List.getElem?_set_ne (Ne.symm hn)]
    unfold wl
    rw [List.getElem?_map, List.getElem?_map]
    cases hL : (L.filter phys)[n]? with
    | none => rfl
    | some q =>
      have hq2 : ¬ (bas q.1 = bas x.1 ∧ q.2 = x.2) := by
       rintro ⟨e1, e2⟩
       have e3 : q.1 = x.1 := bas_inj (List.mem_filter.mp (List.mem_of_getElem? hL)).2 (List.mem_filter.mp (List.mem_of_getElem? hq)).2 e1
       refine hn (hD.1 n q0 (ad q.1 q.2, cellE cA ad M (bas q.1) q.2) (ad x.1 x.2, cellE cA ad M (bas x.1) x.2) ?_ ?_ ?_)
       · unfold wl; rw [List.getElem?_map, hL]; rfl
       · unfold wl; rw [List.getElem?_map, hq]; rfl
       · rw [e3, e2]
      show some (ad q.1 q.2, cellE cA ad M (bas q.1) q.2) = some (ad q.1 q.2, cellE cA ad M2 (bas q.1) q.2)
      rw [ho (bas q.1) q.2 hq2]
theorem Clo.wr1 {ad : AD} {L : AL} {M : Mem} {k i j : Nat} {t : Nat × Nat} (h : Clo ad L M) (hr : shR k i j = some t) (ht : t ∈ L) (hk : ¬ k = 94) : Clo ad L (Jvm.Pilot.@@N@@.wr M k i j 1) := by
  have e94 : ∀ a b, Jvm.Pilot.@@N@@.wr M k i j 1 94 a b = M 94 a b := fun a b => by unfold Jvm.Pilot.@@N@@.wr; rw [if_neg (fun e => hk e.1.symm)]
  have key : ∀ a b c, ¬ (a = k ∧ b = i ∧ c = j) → Jvm.Pilot.@@N@@.wr M k i j 1 a b c = M a b c := by
    intro a b c e
    unfold Jvm.Pilot.@@N@@.wr
    rw [if_neg e]
  refine ⟨?_, ?_, ?_, ?_⟩
  · intro a b hab c hc t' ht' hz
    by_cases e : a = k ∧ b = i ∧ c = j
    · obtain ⟨rfl, rfl, rfl⟩ := e
      rw [hr] at ht'
      cases ht'
      exact ht
    · rw [key a b c e] at hz
      exact h.1 a b hab c hc t' ht' hz
  · intro q hq
    rw [e94]
    exact h.2.1 q hq
  · intro a b ha hab
    obtain ⟨c1, c2, c3⟩ := h.2.2.1 a b ha hab
    refine ⟨c1, c2, fun c hc t' ht' => ?_⟩
    by_cases e : a = k ∧ b = i ∧ c = j
    · obtain ⟨rfl, rfl, rfl⟩ := e
      rw [wr_same]
      decide
    · rw [key a b c e]
      exact c3 c hc t' ht'
  · intro a b ha hab
    rw [e94] at hab
    exact h.2.2.2 a b ha hab
section XR
variable {own : String} {cc : ByteArray} {nL : Nat} {rt : Option FieldType} {fr lo mc ms u v pc : Nat} {ls : List (Nat × AV)} {st : List AV} {M : Mem} {o : Ou} {M' : Mem}
theorem phys_raw {k i : Nat} (h : k < 13) : phys (300 + k, i) = true := decide_eq_true (Or.inr (by show 300 ≤ 300 + k ∧ 300 + k < 313; omega))
theorem avk_raw {L : AL} {k i : Nat} (h : avk L (vR (300 + k) i)) : (300 + k, i) ∈ L := h.elim id (fun q => absurd q.2 (by show ¬ 300 + k < 300; omega))
theorem avk_low {L : AL} {t : Nat × Nat} (h : avk L (vR t.1 t.2)) (ht : t.1 < 93) : t ∈ L := h.elim id (fun q => absurd q.1 (by show ¬ 100 ≤ t.1; omega))
/-- a final field of own's class that refers to a cell -/
def FC (own : String) (idx k j : Nat) : Prop := ∃ (T : u_T) (N : Nat), CF k own T N ∧ j < N ∧ Cond.fieldLink own idx own (T j).2.1 (T j).2.2.1 ∈ W0 ∧ (T j).1 = own ∧ (T j).2.2.2 = true ∧ ∃ y, parseFieldDescriptor (T j).2.2.1 = some y ∧ ∀ a, narrow y (.ref a) = .ref a ∧ fits y (.ref a) = true
theorem xj_putC {k i j idx : Nat} {t : Nat × Nat} {st : List AV} (hd : decode cc pc = .ok (.putfield idx, 3)) (hf : FC own idx k j) (hcc : cc.data[1]? = some 183) (hr : shR k i j = some t) (kk : Xj own cc nL rt fr lo mc ms u v (pc + 3) ls st (wr M k i j 1) o M') : Xj own cc nL rt fr lo mc ms u v pc ls (vR t.1 t.2 :: vR (300 + k) i :: st) M o M' := by
  intro l s0 D cA p e s m args below meth c C adE LE ad L H locs lsA hE hR hl hs hS hv
  obtain ⟨T, N, ⟨h1, h2, h3, h4, h5, ⟨ty, h6⟩, h7, h8⟩, hj, hw, hT, hfin, y, hy, hya⟩ := hf
  have k13 := (shT_obj k h4).mp h2
  have hin := avk_raw hs.2.1
  have htL := avk_low hs.1 (shR_lt hr)
  obtain ⟨q0, hq, hg⟩ := wl_getP (cA := cA) (ad := ad) (M := M) hin (phys_raw k13)
  have hg1 : (wl cA ad M L)[q0]? = some (ad (300 + k) i, .inr (k, (List.range N).map (fldV ad M k i))) := by
    rw [hg]
    show some (_, cellE cA ad M (bas (300 + k)) i) = _
    rw [bas_raw, cellE_obj h2, h3]
  refine va_putF (v := .ref (ad t.1 t.2)) (ty := y) C.1 C.2.1 C.2.2.2.2.2.1 h5 ty h6 h7 C.2.2.2.2.1 (GF.K C.2.2.2.2.2.2.2.2.2.1 C.2.2.2.2.2.2.2.2.1.alike) hR.1 hR.2.1 hS q0 hg1 h1 j hj (C.2.2.2.2.2.1 _ hw) (fun x hx => by rw [hT] at hx; exact hx) hfin (C.2.2.2.2.2.2.2.1.2 hcc) hT hy (hya _).1 (hya _).2 (by simp [hj]) hd ?_
  intro H1 locs1 hP hD hS1
  have hset : ((List.range N).map (fldV ad M k i)).set j (.ref (ad t.1 t.2)) = (List.range N).map (fldV ad (wr M k i j 1) k i) := by
    apply List.ext_getElem?
    intro n
    by_cases hn : n = j
    · subst hn
      rw [List.getElem?_set_self (by simp [hj]), List.getElem?_map, List.getElem?_range hj]
      have e1 : ¬ wr M k i n 1 k i n = 0 := by rw [wr_same]; decide
      simp only [Option.map_some, fldV, hr, if_neg e1]
    · rw [List.getElem?_set_ne (Ne.symm hn), List.getElem?_map, List.getElem?_map]
      by_cases hN : n < N
      · rw [List.getElem?_range hN]
        simp [fldV, wr, hn]
      · rw [List.getElem?_eq_none (by simp; omega)]; rfl
  have hw2 := wl_setP (M2 := wr M k i j 1) (x := (300 + k, i)) (e := .inr (k, ((List.range N).map (fldV ad M k i)).set j (.ref (ad t.1 t.2)))) hR.2.1 hq (by show _ = cellE cA ad _ (bas (300 + k)) i; rw [bas_raw, cellE_obj h2, h3, hset]) (fun a b hab => cellE_congr (wr_ne (by rw [show bas (300 + k, i).1 = k from bas_raw] at hab; exact hab)))
  rw [hw2] at hP hD
  exact kk l s0 D cA p e s m args below meth c C adE LE ad L H1 locs1 lsA hE ⟨hP, hD, hR.2.2.1.wr1 hr htL (by omega), hR.2.2.2.1.wr h4, keep_old C.2.2.2.2.2.2.2.2.2.2.2 C.2.2.2.2.2.2.2.2.2.2.1 hS1⟩ hl hs.2.2 hS1 hv
/-- an int of what is being made -/
theorem xj_putCI {k i j idx : Nat} {x : Int32} (hd : decode cc pc = .ok (.putfield idx, 3)) (hf : FW own idx k j) (hr : shR k i j = none) (kk : Xj own cc nL rt fr lo mc ms u v (pc + 3) ls st (wr M k i j x) o M') : Xj own cc nL rt fr lo mc ms u v pc ls (vI x :: vR (300 + k) i :: st) M o M' := by
  intro l s0 D cA p e s m args below meth c C adE LE ad L H locs lsA hE hR hl hs hS hv
  obtain ⟨Cn, T, N, ⟨h1, h2, h3, h4, h5, ⟨ty, h6⟩, h7, h8⟩, hj, hw, hT, hfin, hty⟩ := hf
  have k13 := (shT_obj k h4).mp h2
  have hin := avk_raw hs.2.1
  obtain ⟨q0, hq, hg⟩ := wl_getP (cA := cA) (ad := ad) (M := M) hin (phys_raw k13)
  have hg1 : (wl cA ad M L)[q0]? = some (ad (300 + k) i, .inr (k, (List.range N).map (fldV ad M k i))) := by
    rw [hg]
    show some (_, cellE cA ad M (bas (300 + k)) i) = _
    rw [bas_raw, cellE_obj h2, h3]
  refine va_put (v := .int x) (ty := .int) C.1 C.2.1 C.2.2.2.2.2.1 h5 ty h6 h7 C.2.2.2.2.1 (GF.K C.2.2.2.2.2.2.2.2.2.1 C.2.2.2.2.2.2.2.2.1.alike) hR.1 hR.2.1 hS q0 hg1 h1 j hj (C.2.2.2.2.2.1 _ hw) (fun x hx => by rw [hT] at hx; exact hx) hfin hty rfl rfl (by simp [hj]) hd ?_
  intro H1 locs1 hP hD hS1
  have hset : ((List.range N).map (fldV ad M k i)).set j (.int x) = (List.range N).map (fldV ad (wr M k i j x) k i) := by
    apply List.ext_getElem?
    intro n
    by_cases hn : n = j
    · subst hn
      rw [List.getElem?_set_self (by simp [hj]), List.getElem?_map, List.getElem?_range hj]
      simp [fldV, hr, wr_same]
    · rw [List.getElem?_set_ne (Ne.symm hn), List.getElem?_map, List.getElem?_map]
      by_cases hN : n < N
      · rw [List.getElem?_range hN]
        simp [fldV, wr, hn]
      · rw [List.getElem?_eq_none (by simp; omega)]; rfl
  have hw2 := wl_setP (M2 := wr M k i j x) (x := (300 + k, i)) (e := .inr (k, ((List.range N).map (fldV ad M k i)).set j (.int x))) hR.2.1 hq (by show _ = cellE cA ad _ (bas (300 + k)) i; rw [bas_raw, cellE_obj h2, h3, hset]) (fun a b hab => cellE_congr (wr_ne (by rw [show bas (300 + k, i).1 = k from bas_raw] at hab; exact hab)))
  rw [hw2] at hP hD
  exact kk l s0 D cA p e s m args below meth c C adE LE ad L H1 locs1 lsA hE ⟨hP, hD, hR.2.2.1.wr hr (by omega), hR.2.2.2.1.wr h4, keep_old C.2.2.2.2.2.2.2.2.2.2.2 C.2.2.2.2.2.2.2.2.2.2.1 hS1⟩ hl hs.2.2 hS1 hv
/-- a reference of what is being made -/
theorem xj_getC {k i j idx : Nat} {t : Nat × Nat} (hd : decode cc pc = .ok (.getfield idx, 3)) (hf : FL own idx k j) (hr : shR k i j = some t) (hz : ¬ M k i j = 0) (kk : Xj own cc nL rt fr lo mc ms u v (pc + 3) ls (vR t.1 t.2 :: st) M o M') : Xj own cc nL rt fr lo mc ms u v pc ls (vR (300 + k) i :: st) M o M' := by
  intro l s0 D cA p e s m args below meth c C adE LE ad L H locs lsA hE hR hl hs hS hv
  obtain ⟨Cn, T, N, ⟨h1, h2, h3, h4, h5, h6, h7, h8⟩, hj, hw, hT⟩ := hf
  have k13 := (shT_obj k h4).mp h2
  have hin := avk_raw hs.1
  obtain ⟨q0, hq, hg⟩ := wl_getP (cA := cA) (ad := ad) (M := M) hin (phys_raw k13)
  have hg1 : (wl cA ad M L)[q0]? = some (ad (300 + k) i, .inr (k, (List.range N).map (fldV ad M k i))) := by
    rw [hg]
    show some (_, cellE cA ad M (bas (300 + k)) i) = _
    rw [bas_raw, cellE_obj h2, h3]
  refine va_get (v := .ref (ad t.1 t.2)) C.1 C.2.1 C.2.2.2.2.2.1 h5 C.2.2.2.2.1 (GF.K C.2.2.2.2.2.2.2.2.2.1 C.2.2.2.2.2.2.2.2.1.alike) hR.1 q0 hg1 h1 j hj (C.2.2.2.2.2.1 _ hw) (fun x hx => by rw [hT] at hx; exact hx) ?_ hd (kk l s0 D cA p e s m args below meth c C adE LE ad L H locs lsA hE hR hl ⟨Or.inl (hR.2.2.1.1 k i (by rw [phk_obj k13]; exact hin) j (by rw [h3]; exact hj) t hr (Or.inr hz)), hs.2⟩ hS hv)
  rw [List.getElem?_map, List.getElem?_range hj]
  simp [fldV, hr, hz]
end XR
/-! ### through with making; constructors' calls; arrays of references -/
theorem Rel.done {s0 : State} {D : va_G} {cA : Nat → ClassId} {ad : AD} {L : AL} {M : Mem} {H : Heap} {k i : Nat} (hR : Rel s0 D cA ad L M H) (hk : k < 13) (hin : (300 + k, i) ∈ L) (hf : M 94 k i = 0) (hfull : ∀ j, j < shN k → ∀ t, shR k i j = some t → ¬ M k i j = 0) : Rel s0 D cA (adU ad (k, i) (ad (300 + k) i)) (L ++ [(k, i)]) (wr M 94 k i 1) H ∧ Ext ad L (adU ad (k, i) (ad (300 + k) i)) (L ++ [(k, i)]) := by
  have hC := hR.2.2.1
  have hxL : ¬ (k, i) ∈ L := fun h => hC.2.1 (k, i) h hf
  have had : ∀ z ∈ L, adU ad (k, i) (ad (300 + k) i) z.1 z.2 = ad z.1 z.2 := fun z hz => adU_ne (fun e => hxL (by rw [← e]; exact hz))
  have hM : ∀ a b, ¬ a = 94 → wr M 94 k i 1 a b = M a b := by
    intro a b h
    funext c
    unfold wr
    rw [if_neg (fun e => h e.1)]
  have h94 : ∀ a b, wr M 94 k i 1 94 a b = if a = k ∧ b = i then 1 else M 94 a b := by
    intro a b
    unfold wr
    by_cases e : a = k ∧ b = i
    · rw [if_pos ⟨rfl, e.1, e.2⟩, if_pos e]
    · rw [if_neg (fun q => e q.2), if_neg e]
  have hwl : wl cA (adU ad (k, i) (ad (300 + k) i)) (wr M 94 k i 1) (L ++ [(k, i)]) = wl cA ad M L := by
    unfold wl
    rw [List.filter_append, List.filter_cons_of_neg (by unfold phys; simp; omega), List.filter_nil, List.append_nil]
    apply List.map_congr_left
    intro q hq
    have hq2 := List.mem_filter.mp hq
    have hb := bas_lt hq2.2
    show (adU ad (k, i) (ad (300 + k) i) q.1 q.2, _) = (ad q.1 q.2, _)
    rw [had q hq2.1, cellE_ext hC hq2.1 hq2.2 had (hM _ _ (by omega))]
  refine ⟨⟨?_, ?_, ⟨?_, ?_, ?_, ?_⟩, ?_, hR.2.2.2.2⟩, ⟨fun z hz => ⟨List.mem_append_left _ hz, had z hz⟩, fun a b h1 h2 => adU_ne (fun e => by cases e; omega)⟩⟩
  · rw [hwl]; exact hR.1
  · rw [hwl]; exact hR.2.1
  · intro a b hab j hj t ht hz
    have h93 := shN_lt hj
    rw [hM a b (by omega)] at hz
    rcases List.mem_append.mp hab with hab | hab
    · exact List.mem_append_left _ (hC.1 a b hab j hj t ht hz)
    · have e := congrArg Prod.fst (List.mem_singleton.mp hab)
      exfalso
      have e2 : phk a = k := e
      unfold phk at e2
      by_cases h13 : a < 13
      · rw [if_pos h13] at e2; omega
      · rw [if_neg h13] at e2; omega
  · intro z hz
    rw [h94]
    by_cases e : z.1 = k ∧ z.2 = i
    · rw [if_pos e]; decide
    · rw [if_neg e]
      rcases List.mem_append.mp hz with hz | hz
      · exact hC.2.1 z hz
      · exact absurd (by rw [List.mem_singleton.mp hz]; exact ⟨rfl, rfl⟩) e
  · intro a b ha hz
    rcases List.mem_append.mp hz with hz | hz
    · obtain ⟨c1, c2, c3⟩ := hC.2.2.1 a b ha hz
      refine ⟨List.mem_append_left _ c1, ?_, fun j hj t ht => ?_⟩
      · rw [had (a, b) hz, had (phk a, b) c1]; exact c2
      · rw [hM a b (by omega)]; exact c3 j hj t ht
    · have e := List.mem_singleton.mp hz
      cases e
      refine ⟨List.mem_append_left _ (by rw [phk_obj hk]; exact hin), ?_, fun j hj t ht => ?_⟩
      · rw [phk_obj hk, had (300 + k, i) hin]
        exact adU_at ad (k, i) _
      · rw [hM k i (by omega)]; exact hfull j hj t ht
  · intro a b ha hz
    rw [h94] at hz
    by_cases e : a = k ∧ b = i
    · rw [e.1, e.2]
      exact List.mem_append_right _ (List.mem_singleton.mpr rfl)
    · rw [if_neg e] at hz
      exact List.mem_append_left _ (hC.2.2.2 a b ha hz)
  · obtain ⟨r1, r2, r3, r4⟩ := hR.2.2.2.1
    unfold RO
    rw [hM 100 1 (by omega), hM 100 0 (by omega)]
    exact ⟨r1, r2, r3, fun a b h1 h2 => (adU_ne (fun e => by cases e; omega)).trans (r4 a b h1 h2)⟩
section XR
variable {own : String} {cc : ByteArray} {nL : Nat} {rt : Option FieldType} {fr lo mc ms u v pc : Nat} {ls : List (Nat × AV)} {st : List AV} {M : Mem} {o : Ou} {M' : Mem}
theorem xj_done {k i n : Nat} (hk : k < 13) (hf : M 94 k i = 0) (hfull : ∀ j, j < shN k → ∀ t, shR k i j = some t → ¬ M k i j = 0) (kk : Xj own cc nL rt fr lo mc ms u v pc ((n, vR k i) :: ls) st (wr M 94 k i 1) o M') : Xj own cc nL rt fr lo mc ms u v pc ((n, vR (300 + k) i) :: ls) st M o M' := by
  intro l s0 D cA p e s m args below meth c C adE LE ad L H locs lsA hE hR hl hs hS hv
  have hin := avk_raw hl.1
  obtain ⟨hR2, hE2⟩ := hR.done hk hin hf hfull
  have k9 := kk l s0 D cA p e s m args below meth c C adE LE _ _ H locs lsA (hE.tr hE2) hR2 ⟨Or.inl (List.mem_append_right _ (List.mem_singleton.mpr rfl)), hE2.okl hl.2⟩ (hE2.oks hs) hS ?_
  · rw [hE2.stc hs] at k9
    exact k9
  · have e1 : lsc (adU ad (k, i) (ad (300 + k) i)) ((n, vR k i) :: ls) = lsc ad ((n, vR (300 + k) i) :: ls) := by
      show (n, Value.ref (adU ad (k, i) (ad (300 + k) i) k i)) :: lsc _ ls = (n, Value.ref (ad (300 + k) i)) :: lsc ad ls
      rw [hE2.lsc hl.2, show adU ad (k, i) (ad (300 + k) i) k i = ad (300 + k) i from adU_at ad (k, i) _]
    rw [e1]
    exact hv
theorem xj_view {k i : Nat} (hk : k < 13) (hf : ¬ M 94 k i = 0) (kk : Xj own cc nL rt fr lo mc ms u v pc ls (vR k i :: st) M o M') : Xj own cc nL rt fr lo mc ms u v pc ls (vR (300 + k) i :: st) M o M' := by
  intro l s0 D cA p e s m args below meth c C adE LE ad L H locs lsA hE hR hl hs hS hv
  have hin := hR.2.2.1.2.2.2 k i hk hf
  have e2 := (hR.2.2.1.2.2.1 k i hk hin).2.1
  have k9 := kk l s0 D cA p e s m args below meth c C adE LE ad L H locs lsA hE hR hl ⟨Or.inl hin, hs.2⟩ hS hv
  have e1 : stc ad (vR k i :: st) = stc ad (vR (300 + k) i :: st) := by
    show Value.ref (ad k i) :: _ = Value.ref (ad (300 + k) i) :: _
    rw [e2, phk_obj hk]
  rw [e1] at k9
  exact k9
/-- a call of a constructor -/
def CI (own : String) (idx : Nat) (y : MethodName) (cc : ByteArray) (nL n : Nat) : Prop := Cond.methodLink own idx y ∈ W0 ∧ Cond.instanceMethod y ∈ W0 ∧ Cond.initialized y.cls ∈ W0 ∧ Cond.code y cc nL none ∈ W0 ∧ y.cls ≠ "java/lang/invoke/MethodHandle" ∧ y.cls ≠ "java/lang/invoke/VarHandle" ∧ (parseMethodDescriptor y.desc).map (fun d => d.parameters.length) = some n ∧ y.name = "<init>"
theorem xj_callI {y : MethodName} {cc' : ByteArray} {nL' : Nat} {fr' lo' mc' ms' idx n k i : Nat} {vs : List AV} {M1 : Mem} (hM : Mt y cc' nL' none fr' lo' mc' ms' (vR k i :: vs) M (.inl none) M1) (hd : decode cc pc = .ok (.invokespecial idx, 3)) (hc : CI own idx y cc' nL' n) (hn : vs.length = n) {sk : List AV} (hsk : vs.reverse ++ vR k i :: st = sk) (hw : wgt st ≤ 8) (h1 : fr' + 1 ≤ fr) (h2 : 8 + (nL' + 11) + lo' ≤ lo) (h3 : u + mc' ≤ mc) (h4 : v + ms' ≤ ms)
    (kk : Xj own cc nL rt fr lo mc ms (u + mc') (v + ms') (pc + 3) ls st M1 o M') : Xj own cc nL rt fr lo mc ms u v pc ls sk M o M' := by
  subst hsk
  intro l s0 D cA p e s m args below meth c C adE LE ad L H locs lsA hE hR hl hs hS hv
  have hs2 := oks_app.mp hs
  have hvs : oks L (vR k i :: vs) := ⟨hs2.2.1, oks_mem.mpr fun z hz => oks_mem.mp hs2.1 z (List.mem_reverse.mpr hz)⟩
  obtain ⟨w1, w2, w3, w4, n1, n2, n3, n4⟩ := hc
  have hts := C.2.2.2.2.2.1
  have hG := C.2.2.2.2.2.2.2.2.2.1
  have hWm := C.2.2.2.2.2.2.2.2.1
  have hcb : CallB { frames := fr, cells := mc, slots := ms, locals := lo } s args own idx y cc' nL' none (.code y cc' nL' none :: W0) { frames := fr', cells := mc', slots := ms', locals := lo' } mc' ms' n := callB_of n hts (W0_good (ws := W0) w4) rfl rfl rfl (hts _ w3) (hts _ w1) ⟨n1, n2, n3⟩ ⟨h1, h2⟩
  have hrun := va_runI (p := p) (l := l) (e := e) (below := below) (meth := meth) (H := H) (locs := locs) (cells := u) (slots := v) (As := stc ad vs) (rest := stc ad st) (b := ad k i) (g := F0 m pc lsA (stc ad (vs.reverse ++ vR k i :: st))) (nL := nL) (cc := cc) ⟨C.1, C.2.1, C.2.2.1, C.2.2.2.2.1, C.2.2.2.2.2.1⟩ (met_vx (hM l s0 D cA hG ad L hvs)) ⟨hcb, n4, hts _ w2⟩
    ⟨blind_Pc, fun U hU hW => ⟨rfl, State.WarmedH.trans hWm hW, by rw [hU]; exact hR⟩⟩ rfl (by rw [← hn]; unfold stc; rw [List.length_map]) hv.1 (by show stc ad _ = _; unfold stc; rw [List.map_append, List.map_reverse]; rfl) (lv_room (by rw [wgt_eq]; exact hw)) hd ⟨h3, h4⟩
  refine run_ret C hE hl hs2.2.2 hS hv (a := (stc ad (vR k i :: vs)).toArray) (w := none) (M1 := M1) (mc' := mc') (ms' := ms') ?_ kk
  intro T hT X
  obtain ⟨v9, st₀, t, T', Lc, g0, g1, g2, g3, g4, g5, g6⟩ := hrun T hT X
  exact Or.inl ⟨v9, st₀, t, T', Lc, g0, g1, g2, g3, g4, g5, g6⟩
/-- .. of the nest -/
def CJ (own : String) (idx : Nat) (y : MethodName) (cc : ByteArray) (nL n : Nat) : Prop := Cond.methodLinkNest own idx y "BeliefRiver" ∈ nestL ∧ Cond.instanceMethod y ∈ W0 ∧ Cond.initialized y.cls ∈ W0 ∧ Cond.code y cc nL none ∈ W0 ∧ y.cls ≠ "java/lang/invoke/MethodHandle" ∧ y.cls ≠ "java/lang/invoke/VarHandle" ∧ (parseMethodDescriptor y.desc).map (fun d => d.parameters.length) = some n ∧ y.name = "<init>"
theorem xj_callJ {y : MethodName} {cc' : ByteArray} {nL' : Nat} {fr' lo' mc' ms' idx n k i : Nat} {vs : List AV} {M1 : Mem} (hM : Mt y cc' nL' none fr' lo' mc' ms' (vR k i :: vs) M (.inl none) M1) (hd : decode cc pc = .ok (.invokespecial idx, 3)) (hc : CJ own idx y cc' nL' n) (hn : vs.length = n) {sk : List AV} (hsk : vs.reverse ++ vR k i :: st = sk) (hw : wgt st ≤ 8) (h1 : fr' + 1 ≤ fr) (h2 : 8 + (nL' + 11) + lo' ≤ lo) (h3 : u + mc' ≤ mc) (h4 : v + ms' ≤ ms)
    (kk : Xj own cc nL rt fr lo mc ms (u + mc') (v + ms') (pc + 3) ls st M1 o M') : Xj own cc nL rt fr lo mc ms u v pc ls sk M o M' := by
  subst hsk
  intro l s0 D cA p e s m args below meth c C adE LE ad L H locs lsA hE hR hl hs hS hv
  have hs2 := oks_app.mp hs
  have hvs : oks L (vR k i :: vs) := ⟨hs2.2.1, oks_mem.mpr fun z hz => oks_mem.mp hs2.1 z (List.mem_reverse.mpr hz)⟩
  obtain ⟨w1, w2, w3, w4, n1, n2, n3, n4⟩ := hc
  have hts := C.2.2.2.2.2.1
  have hG := C.2.2.2.2.2.2.2.2.2.1
  have hWm := C.2.2.2.2.2.2.2.2.1
  have hcn : va_CN { frames := fr, cells := mc, slots := ms, locals := lo } s args own idx y "BeliefRiver" cc' nL' none (.code y cc' nL' none :: W0) { frames := fr', cells := mc', slots := ms', locals := lo' } mc' ms' n := va_cnB n hts (W0_good (ws := W0) w4) rfl rfl rfl (va_Nw.warmM hWm (hG.2.2.2.2.2.2.2.2.2 _ w1)) (hts _ w3) ⟨n1, n2, n3⟩ ⟨h1, h2⟩
  have hrun := va_runIN (p := p) (l := l) (e := e) (below := below) (meth := meth) (H := H) (locs := locs) (cells := u) (slots := v) (As := stc ad vs) (rest := stc ad st) (b := ad k i) (g := F0 m pc lsA (stc ad (vs.reverse ++ vR k i :: st))) (nL := nL) (cc := cc) ⟨C.1, C.2.1, C.2.2.1, C.2.2.2.2.1, C.2.2.2.2.2.1⟩ (met_vx (hM l s0 D cA hG ad L hvs)) ⟨hcn, n4, hts _ w2⟩
    ⟨blind_Pc, fun U hU hW => ⟨rfl, State.WarmedH.trans hWm hW, by rw [hU]; exact hR⟩⟩ rfl (by rw [← hn]; unfold stc; rw [List.length_map]) hv.1 (by show stc ad _ = _; unfold stc; rw [List.map_append, List.map_reverse]; rfl) (lv_room (by rw [wgt_eq]; exact hw)) hd ⟨h3, h4⟩
  refine run_ret C hE hl hs2.2.2 hS hv (a := (stc ad (vR k i :: vs)).toArray) (w := none) (M1 := M1) (mc' := mc') (ms' := ms') ?_ kk
  intro T hT X
  obtain ⟨v9, st₀, t, T', Lc, g0, g1, g2, g3, g4, g5, g6⟩ := hrun T hT X
  exact Or.inl ⟨v9, st₀, t, T', Lc, g0, g1, g2, g3, g4, g5, g6⟩
end XR
section XR
variable {own : String} {cc : ByteArray} {nL : Nat} {rt : Option FieldType} {fr lo mc ms u v pc : Nat} {ls : List (Nat × AV)} {st : List AV} {M : Mem} {o : Ou} {M' : Mem}
theorem arr13 {k : Nat} (hT : ¬ shT k = 0) (hk : k < 93) : 13 ≤ k := by
  rcases Nat.lt_or_ge k 13 with z | z
  · exact absurd ((shT_obj k (by omega)).mpr z) hT
  · exact z
/-- an array of States, an array of Pasts -/
theorem xj_newq {k i idx : Nat} {n : Int32} (hd : decode cc pc = .ok (.anewarray idx, 3)) (hT : (shT k = 4 ∧ Cond.classLink own idx RX7 ∈ W0 ∧ Cond.arrayOver (.object RX7) ∈ nestL) ∨ (shT k = 5 ∧ Cond.classLink own idx RX5 ∈ W0 ∧ Cond.arrayOver (.object RX5) ∈ nestL)) (hk : k < 93) (hf : M 94 k i = 0) (hn : ¬ n < 0) (hN : n.toNatClampNeg = shN k) (hB : shN k ≤ 100000) (h1 : u + 1 ≤ mc) (h2 : v + shN k ≤ ms) (kk : Xj own cc nL rt fr lo mc ms (u + 1) (v + shN k) (pc + 3) ls (vR k i :: st) (nw M k i) o M') : Xj own cc nL rt fr lo mc ms u v pc ls (vI n :: st) M o M' := by
  intro l s0 D cA p e s m args below meth c C adE LE ad L H locs lsA hE hR hl hs hS hv
  have hts := C.2.2.2.2.2.1
  have hK := GF.K C.2.2.2.2.2.2.2.2.2.1 C.2.2.2.2.2.2.2.2.1.alike
  have h0 : ¬ shT k = 0 := by rcases hT with q | q <;> rw [q.1] <;> decide
  have h3 : ¬ shT k = 3 := by rcases hT with q | q <;> rw [q.1] <;> decide
  have e0 : ∀ j, nw M k i k i j = 0 := by
    intro j
    have := nw_at M k i j
    rw [bas_self (by omega)] at this
    exact this
  rcases hT with ⟨hT, w1, w2⟩ | ⟨hT, w1, w2⟩
  · refine va_newq C.1 C.2.1 C.2.2.2.2.1 (hts _ w1) (va_AO.moved C.2.2.2.2.2.2.2.2.1.alike (C.2.2.2.2.2.2.2.2.2.1.2.2.2.2.2.2.2.2.2 _ w2)) hK hR.1 hR.2.1 hS (fun q hq => Nat.le_trans C.2.2.2.2.2.2.2.2.2.2.1 hq) hn hN (by omega) h1 h2 hd ?_
    intro q cA9 H1 hK9 hP hD hS1
    obtain ⟨_, _, _, _, _, f1⟩ := (hK9.2 6 (cA9, .object RX7) rfl).2
    obtain ⟨_, _, _, _, _, f2⟩ := (hK.2 4 (cA 4, .object RX7) rfl).2
    have e9 : cA9 = cA 4 := Option.some.inj (f1.symm.trans f2)
    refine xj_born C hE hR hl hs.2 hS1 hv (x := (k, i)) (decide_eq_true (Or.inl ⟨arr13 h0 hk, hk⟩)) (by show ¬ shT (bas k) = 3; rw [bas_self (by omega)]; exact h3) hf hP hD ?_ kk
    show _ = cellE cA _ _ (bas k) i
    rw [bas_self (by omega), cellE_pool4 hT, e9]
    have e5 : (fun j => if nw M k i k i j = 0 then none else refO (adU ad (k, i) q) k i j) = fun _ => none := by
      funext j
      rw [if_pos (e0 j)]
    show _ = Sum.inl (cA 4, shN k, Sum.inr (Sum.inr (Sum.inr (Sum.inr (fun j => if nw M k i k i j = 0 then none else refO (adU ad (k, i) q) k i j)))))
    rw [e5]
  · refine va_newq C.1 C.2.1 C.2.2.2.2.1 (hts _ w1) (va_AO.moved C.2.2.2.2.2.2.2.2.1.alike (C.2.2.2.2.2.2.2.2.2.1.2.2.2.2.2.2.2.2.2 _ w2)) hK hR.1 hR.2.1 hS (fun q hq => Nat.le_trans C.2.2.2.2.2.2.2.2.2.2.1 hq) hn hN (by omega) h1 h2 hd ?_
    intro q cA9 H1 hK9 hP hD hS1
    obtain ⟨_, _, _, _, _, f1⟩ := (hK9.2 6 (cA9, .object RX5) rfl).2
    obtain ⟨_, _, _, _, _, f2⟩ := (hK.2 5 (cA 5, .object RX5) rfl).2
    have e9 : cA9 = cA 5 := Option.some.inj (f1.symm.trans f2)
    refine xj_born C hE hR hl hs.2 hS1 hv (x := (k, i)) (decide_eq_true (Or.inl ⟨arr13 h0 hk, hk⟩)) (by show ¬ shT (bas k) = 3; rw [bas_self (by omega)]; exact h3) hf hP hD ?_ kk
    show _ = cellE cA _ _ (bas k) i
    rw [bas_self (by omega), cellE_pool5 hT, e9]
    have e5 : (fun j => if nw M k i k i j = 0 then none else refO (adU ad (k, i) q) k i j) = fun _ => none := by
      funext j
      rw [if_pos (e0 j)]
    show _ = Sum.inl (cA 5, shN k, Sum.inr (Sum.inr (Sum.inr (Sum.inr (fun j => if nw M k i k i j = 0 then none else refO (adU ad (k, i) q) k i j)))))
    rw [e5]
/-- a State, a Past into such an array -/
theorem xj_aast {k i c k2 i2 : Nat} {x : Int32} (hd : decode cc pc = .ok (.aastore, 1)) (hT : (shT k = 4 ∧ k2 = 7) ∨ (shT k = 5 ∧ k2 = 5)) (hk : k < 93) (hx : vp_in x (shN k)) (hr : shR k i x.toNatClampNeg = some (k2, i2)) (kk : Xj own cc nL rt fr lo mc ms u v (pc + 1) ls st (wr M k i x.toNatClampNeg 1) o M') : Xj own cc nL rt fr lo mc ms u v pc ls (vR k2 i2 :: vI x :: vR k i :: st) M o M' := by
  intro l s0 D cA p e s m args below meth c C adE LE ad L H locs lsA hE hR hl hs hS hv
  have hK := GF.K C.2.2.2.2.2.2.2.2.2.1 C.2.2.2.2.2.2.2.2.1.alike
  have h9 : ¬ shT k = 9 := by rcases hT with q | q <;> rw [q.1] <;> decide
  have hin := avk_in hs.2.2.1 (by omega)
  have hlt : x.toNatClampNeg < shN k := Nat.not_le.mp fun q => hx (Or.inr q)
  obtain ⟨q0, hq, hg⟩ := wl_get (cA := cA) hR.2.2.1 hin (by omega) h9
  have hg0 := hg
  have hfun : va_up (fun j => if M k i j = 0 then none else refO ad k i j) x.toNatClampNeg (some (ad k2 i2)) = fun j => if wr M k i x.toNatClampNeg 1 k i j = 0 then none else refO ad k i j := by
    funext j
    unfold va_up
    by_cases hj : j = x.toNatClampNeg
    · rw [if_pos hj, hj, if_neg (by rw [wr_same]; decide)]
      unfold refO
      rw [if_pos hlt, hr]
      rfl
    · rw [if_neg hj]
      have e1 : wr M k i x.toNatClampNeg 1 k i j = M k i j := by unfold wr; rw [if_neg (fun q => hj q.2.2)]
      rw [e1]
  rcases hT with ⟨hT, rfl⟩ | ⟨hT, rfl⟩
  · have hin2 := avk_in hs.1 (by omega)
    obtain ⟨q2, hq2, hg2⟩ := wl_get (cA := cA) hR.2.2.1 hin2 (by omega) (by decide)
    rw [cellE_obj (by decide)] at hg2
    rw [cellE_pool4 hT] at hg
    refine va_astq (r := (RX7, TX7, 7)) C.1 C.2.1 hK hR.1 hR.2.1 hS q0 4 q2 7 hg rfl hg2 rfl hx hd ?_
    intro H1 locs1 hP hD hS1
    rw [hfun] at hP hD
    have hw2 := wl_set (M2 := wr M k i x.toNatClampNeg 1) (e := .inl (cA 4, shN k, .inr (.inr (.inr (.inr (fun j => if wr M k i x.toNatClampNeg 1 k i j = 0 then none else refO ad k i j)))))) hR.2.1 (by omega) hq hg0 (by rw [cellE_pool4 hT]) (fun a b hab => cellE_congr (wr_ne hab))
    rw [hw2] at hP hD
    exact kk l s0 D cA p e s m args below meth c C adE LE ad L H1 locs1 lsA hE ⟨hP, hD, hR.2.2.1.wr1 hr hin2 (by omega), hR.2.2.2.1.wr (by omega), keep_old C.2.2.2.2.2.2.2.2.2.2.2 C.2.2.2.2.2.2.2.2.2.2.1 hS1⟩ hl hs.2.2.2 hS1 hv
  · have hin2 := avk_in hs.1 (by omega)
    obtain ⟨q2, hq2, hg2⟩ := wl_get (cA := cA) hR.2.2.1 hin2 (by omega) (by decide)
    rw [cellE_obj (by decide)] at hg2
    rw [cellE_pool5 hT] at hg
    refine va_astq (r := (RX5, TX5, 2)) C.1 C.2.1 hK hR.1 hR.2.1 hS q0 5 q2 5 hg rfl hg2 rfl hx hd ?_
    intro H1 locs1 hP hD hS1
    rw [hfun] at hP hD
    have hw2 := wl_set (M2 := wr M k i x.toNatClampNeg 1) (e := .inl (cA 5, shN k, .inr (.inr (.inr (.inr (fun j => if wr M k i x.toNatClampNeg 1 k i j = 0 then none else refO ad k i j)))))) hR.2.1 (by omega) hq hg0 (by rw [cellE_pool5 hT]) (fun a b hab => cellE_congr (wr_ne hab))
    rw [hw2] at hP hD
    exact kk l s0 D cA p e s m args below meth c C adE LE ad L H1 locs1 lsA hE ⟨hP, hD, hR.2.2.1.wr1 hr hin2 (by omega), hR.2.2.2.1.wr (by omega), keep_old C.2.2.2.2.2.2.2.2.2.2.2 C.2.2.2.2.2.2.2.2.2.2.1 hS1⟩ hl hs.2.2.2 hS1 hv
end XR
