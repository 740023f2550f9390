/-! ### a grid: its rows, then itself -/
def mkL (M : Mem) : List (Nat × Nat) → Mem
  | [] => M
  | x :: xs => mkL (nw M x.1 x.2) xs
theorem va_P.left {D : va_G} {cl : List vw_C} {a b : va_W} {H : Heap} (h : va_P D cl (a ++ b) H) : va_P D cl a H := by
  intro k q hk
  refine h k q ?_
  rw [List.getElem?_append_left (List.getElem?_eq_some_iff.mp hk).1]
  exact hk
theorem va_D.left {A : Nat → Prop} {a b : va_W} (h : va_D A (a ++ b)) : va_D A a := by
  have key : ∀ (k : Nat) (q : Nat × va_E), a[k]? = some q → (a ++ b)[k]? = some q := by
    intro k q hk
    rw [List.getElem?_append_left (List.getElem?_eq_some_iff.mp hk).1]
    exact hk
  exact ⟨fun i j p q hi hj he => h.1 i j p q (key i p hi) (key j q hj) he, fun k q hk => h.2 k q (key k q hk)⟩
theorem Rel.growL {s0 : State} {D : va_G} {cA : Nat → ClassId} {H1 : Heap} {rk : Nat} (hT : shT rk = 1) (hrk : rk < 93) (hold : (∀ q, q < s0.heap.size → H1[q]? = s0.heap[q]?) ∧ s0.heap.size ≤ H1.size) :
    ∀ (xs : List (Nat × Nat)) {ad : AD} {L : AL} {M : Mem} {H : Heap}, Rel s0 D cA ad L M H → (∀ x ∈ xs, M 94 rk x.1 = 0) → (xs.map (·.1)).Nodup →
      va_P D vwCl (wl cA ad M L ++ xs.map (fun x => (x.2, .inl (cA 1, shN rk, .inl (fun _ => 0))))) H1 → va_D (Ab s0) (wl cA ad M L ++ xs.map (fun x => (x.2, .inl (cA 1, shN rk, .inl (fun _ => 0))))) →
      ∃ ad', Rel s0 D cA ad' (L ++ xs.map (fun x => (rk, x.1))) (mkL M (xs.map (fun x => (rk, x.1)))) H1 ∧ Ext ad L ad' (L ++ xs.map (fun x => (rk, x.1))) ∧ (∀ x ∈ xs, ad' rk x.1 = x.2) ∧ wl cA ad' (mkL M (xs.map (fun x => (rk, x.1)))) (L ++ xs.map (fun x => (rk, x.1))) = wl cA ad M L ++ xs.map (fun x => (x.2, .inl (cA 1, shN rk, .inl (fun _ => 0))))
  | [], ad, L, M, H, hR, _, _, hP, hD => by
    refine ⟨ad, ?_, ?_, fun x hx => (nomatch hx), ?_⟩
    · have hP0 : va_P D vwCl (wl cA ad M L) H1 := hP.left
      show Rel s0 D cA ad (L ++ []) M H1
      rw [List.append_nil]
      exact ⟨hP0, hR.2.1, hR.2.2.1, hR.2.2.2.1, hold⟩
    · show Ext ad L ad (L ++ [])
      rw [List.append_nil]
      exact Ext.rf
    · show wl cA ad M (L ++ []) = wl cA ad M L ++ []
      rw [List.append_nil, List.append_nil]
  | x :: xs, ad, L, M, H, hR, hf, hn, hP, hD => by
    have k13 := arr13 (by rw [hT]; decide) hrk
    have hx : phys (rk, x.1) = true := decide_eq_true (Or.inl ⟨k13, hrk⟩)
    have hb : bas rk = rk := bas_self (by omega)
    have hEe : (Sum.inl (cA 1, shN rk, Sum.inl (fun _ => 0)) : va_E) = cellE cA (adU ad (rk, x.1) x.2) (nw M rk x.1) (bas rk) x.1 := by
      rw [hb, cellE_int hT]
      have e0 : (fun j => nw M rk x.1 rk x.1 j) = fun _ => 0 := by
        funext j
        have := nw_at M rk x.1 j
        rw [hb] at this
        exact this
      show _ = Sum.inl (cA 1, shN rk, Sum.inl (fun j => nw M rk x.1 rk x.1 j))
      rw [e0]
    have hP2 : va_P D vwCl ((wl cA ad M L ++ [(x.2, .inl (cA 1, shN rk, .inl (fun _ => 0)))]) ++ xs.map (fun x => (x.2, .inl (cA 1, shN rk, .inl (fun _ => 0))))) H1 := by rw [List.append_assoc]; exact hP
    have hD2 : va_D (Ab s0) ((wl cA ad M L ++ [(x.2, .inl (cA 1, shN rk, .inl (fun _ => 0)))]) ++ xs.map (fun x => (x.2, .inl (cA 1, shN rk, .inl (fun _ => 0))))) := by rw [List.append_assoc]; exact hD
    obtain ⟨hR1, hE1⟩ := hR.grow (x := (rk, x.1)) (q := x.2) (E := .inl (cA 1, shN rk, .inl (fun _ => 0))) hx (fun q => by rw [show bas (rk, x.1).1 = rk from hb, hT] at q; exact absurd q (by decide)) (hf x List.mem_cons_self) hP2.left hD2.left hEe hold
    have hxL : ¬ (rk, x.1) ∈ L := fun h => hR.2.2.1.2.1 _ h (hf x List.mem_cons_self)
    have hwl : wl cA (adU ad (rk, x.1) x.2) (nw M rk x.1) (L ++ [(rk, x.1)]) = wl cA ad M L ++ [(x.2, .inl (cA 1, shN rk, .inl (fun _ => 0)))] := by
      rw [wl_grow hR.2.2.1 hx (fun z hz => adU_ne (fun e => hxL (by rw [← e]; exact hz))) ?_]
      · rw [show adU ad (rk, x.1) x.2 (rk, x.1).1 (rk, x.1).2 = x.2 from adU_at ad (rk, x.1) x.2, hEe]
      · intro z hz hp
        funext c
        unfold nw
        have hb2 := bas_lt hp
        rw [if_neg, if_neg (by omega)]
        rintro ⟨e1, e2⟩
        exact hxL (by rw [← Prod.ext (bas_inj hp hx e1) e2]; exact hz)
    rw [← hwl] at hP2 hD2
    have hn2 := List.nodup_cons.mp hn
    obtain ⟨ad', r1, r2, r3, r4⟩ := Rel.growL hT hrk hold xs hR1 (fun y hy => by
      have hne : ¬ y.1 = x.1 := fun e => hn2.1 (by show x.1 ∈ _; rw [← e]; exact List.mem_map.mpr ⟨y, hy, rfl⟩)
      show nw M rk x.1 94 rk y.1 = 0
      unfold nw
      rw [if_neg (by omega), if_neg (fun q => hne q.2.2)]
      exact hf y (List.mem_cons_of_mem _ hy)) hn2.2 hP2 hD2
    have ea : L ++ (x :: xs).map (fun x => (rk, x.1)) = (L ++ [(rk, x.1)]) ++ xs.map (fun x => (rk, x.1)) := by rw [List.append_assoc]; rfl
    rw [ea]
    refine ⟨ad', r1, hE1.tr r2, ?_, ?_⟩
    · intro y hy
      rcases List.mem_cons.mp hy with e | hy
      · rw [e, (r2.1 (rk, x.1) (List.mem_append_right _ (List.mem_singleton.mpr rfl))).2]
        exact adU_at ad (rk, x.1) x.2
      · exact r3 y hy
    · refine r4.trans ?_
      rw [hwl, List.append_assoc]
      rfl
def frs (M : Mem) (rk off N : Nat) : Bool := (List.range N).all (fun j => decide (M 94 rk (off + j) = 0))
theorem frs_at {M : Mem} {rk off N j : Nat} (h : frs M rk off N = true) (hj : j < N) : M 94 rk (off + j) = 0 := of_decide_eq_true (List.all_eq_true.mp h j (List.mem_range.mpr hj))
theorem mkL_ne {a b c : Nat} (ha : ¬ a = 94) : ∀ (xs : List (Nat × Nat)) {M : Mem}, (∀ x ∈ xs, ¬ a = bas x.1) → mkL M xs a b c = M a b c
  | [], _, _ => rfl
  | x :: xs, M, h => by
    have h0 := h x List.mem_cons_self
    show mkL (nw M x.1 x.2) xs a b c = _
    rw [mkL_ne ha xs (fun y hy => h y (List.mem_cons_of_mem _ hy))]
    unfold nw
    rw [if_neg (fun q => h0 q.1), if_neg (fun q => ha q.1)]
theorem mkR {M : Mem} {a b c rk off N : Nat} (ha : ¬ a = 94) (h : ¬ a = bas rk) : mkL M ((List.range N).map (fun j => (rk, off + j))) a b c = M a b c := mkL_ne ha _ (fun x hx => by
  obtain ⟨j, hj, rfl⟩ := List.mem_map.mp hx
  exact h)
theorem va_P.mem {D : va_G} {cl : List vw_C} {a b : va_W} {H : Heap} (h : va_P D cl a H) (hs : ∀ q ∈ b, q ∈ a) : va_P D cl b H := by
  intro k q hk
  obtain ⟨i, hi⟩ := List.getElem?_of_mem (hs q (List.mem_of_getElem? hk))
  exact h i q hi
theorem va_D.perm {A : Nat → Prop} {a b : va_W} (h : va_D A a) (hp : a.Perm b) : va_D A b := by
  have h1 : (a.map (·.1)).Nodup := by
    show List.Pairwise _ _
    rw [List.pairwise_iff_getElem]
    intro i j hi hj hij he
    rw [List.length_map] at hi hj
    rw [List.getElem_map, List.getElem_map] at he
    have := h.1 i j a[i] a[j] (List.getElem?_eq_getElem hi) (List.getElem?_eq_getElem hj) he
    omega
  have h2 : (b.map (·.1)).Nodup := (hp.map _).nodup_iff.mp h1
  refine ⟨fun i j p q hi hj he => ?_, fun k q hk => ?_⟩
  · refine (List.getElem?_inj (l := b.map (·.1)) (by rw [List.length_map]; exact (List.getElem?_eq_some_iff.mp hi).1) h2).mp ?_
    rw [List.getElem?_map, List.getElem?_map, hi, hj]
    show some p.1 = some q.1
    rw [he]
  · obtain ⟨i, hi⟩ := List.getElem?_of_mem (hp.mem_iff.mpr (List.mem_of_getElem? hk))
    exact h.2 i q hi
theorem mkL_94 {g i : Nat} : ∀ (xs : List (Nat × Nat)) {M : Mem}, (∀ x ∈ xs, ¬ x.1 = g ∧ bas x.1 < 93) → mkL M xs 94 g i = M 94 g i
  | [], _, _ => rfl
  | x :: xs, M, h => by
    have h0 := h x List.mem_cons_self
    show mkL (nw M x.1 x.2) xs 94 g i = _
    rw [mkL_94 xs (fun y hy => h y (List.mem_cons_of_mem _ hy))]
    unfold nw
    rw [if_neg (by omega), if_neg (fun q => h0.1 q.2.1.symm)]
section XR
variable {own : String} {cc : ByteArray} {nL : Nat} {rt : Option FieldType} {fr lo mc ms u v pc : Nat} {ls : List (Nat × AV)} {st : List AV} {M : Mem} {o : Ou} {M' : Mem}
theorem xj_mna {idx g rk off : Nat} {n k2 : Int32} (hd : decode cc pc = .ok (.multianewarray idx 2, 4)) (w1 : Cond.classLink own idx "[[I" ∈ W0) (w2 : Cond.arrayOver (.array .int) ∈ nestL) (w3 : Cond.arrayClass .int ∈ W0) (hg : shT g = 3) (hgk : g < 93) (hT : shT rk = 1) (hrk : rk < 93) (hsh : ∀ j, shR g 0 j = some (rk, off + j)) (hf : M 94 g 0 = 0) (hfr : ∀ j, j < shN g → M 94 rk (off + j) = 0) (hn : ¬ n < 0) (hk : ¬ k2 < 0) (hN : n.toNatClampNeg = shN g) (hK2 : k2.toNatClampNeg = shN rk) (hB1 : shN g ≤ 1000) (hB2 : shN rk ≤ 10000) (h1 : u + (1 + shN g) ≤ mc) (h2 : v + (shN g + shN g * shN rk) ≤ ms)
    (kk : Xj own cc nL rt fr lo mc ms (u + 1 + shN g) (v + shN g + shN g * shN rk) (pc + 4) ls (vR g 0 :: st) (nw (mkL M ((List.range (shN g)).map (fun j => (rk, off + j)))) g 0) o M') : Xj own cc nL rt fr lo mc ms u v pc ls (vI k2 :: vI n :: st) M o M' := by
  intro l s0 D cA p e s m args below meth c C adE LE ad L H locs lsA hE hR hl hs hS hv
  have hts := C.2.2.2.2.2.1
  have hal := C.2.2.2.2.2.2.2.2.1.alike
  have hK := GF.K C.2.2.2.2.2.2.2.2.2.1 hal
  have hgr : ¬ rk = g := fun q => by rw [q, hg] at hT; exact absurd hT (by decide)
  refine va_mna (X := wl cA ad M L) (L := []) (f := fun _ => .inr (0, [])) (ty := .int) (cy := cA 1) (z := (shN rk, .inl (fun _ => 0))) C.1 C.2.1 C.2.2.2.2.1 (hts _ w1) (va_AOA.moved hal (C.2.2.2.2.2.2.2.2.2.1.2.2.2.2.2.2.2.2.2 _ w2)) (hts _ w3) (hK.2 1 _ rfl).2 hK ?_ ?_ hS (fun q hq => Nat.le_trans C.2.2.2.2.2.2.2.2.2.2.1 hq) hn hk hN hK2 (by omega) (by show shN rk * 4 ≤ _; omega) (by omega) rfl rfl h1 h2 ?_ hd ?_
  · show va_P D vwCl (wl cA ad M L ++ []) H
    rw [List.append_nil]; exact hR.1
  · show va_D (Ab s0) (wl cA ad M L ++ [])
    rw [List.append_nil]; exact hR.2.1
  · intro c9
    exact arrV_new c9 (shN rk) (Value.int 0)
  · intro q r cA9 H1 hr1 hr2 hK9 hP hD hS1
    have e9 : cA9 = cA 3 := Option.some.inj (((hK9.2 6 (cA9, .array .int) rfl).2 : s.vm.findClass _ = some cA9).symm.trans ((hK.2 3 (cA 3, .array .int) rfl).2 : s.vm.findClass _ = some (cA 3)))
    have hrow : va_pl ([] ++ (List.range (shN g)).map r) (vr_up (fun _ => .inr (0, [])) ((List.range (shN g)).map r) (.inl (cA 1, (shN rk, .inl (fun _ => 0))))) = ((List.range (shN g)).map (fun j => (off + j, r j))).map (fun x => (x.2, .inl (cA 1, shN rk, .inl (fun _ => 0)))) := by
      unfold va_pl
      rw [List.nil_append, List.map_map, List.map_map]
      apply List.map_congr_left
      intro j hj
      show (r j, vr_up _ _ _ (r j)) = (r j, _)
      unfold vr_up
      rw [if_pos (List.mem_map.mpr ⟨j, hj, rfl⟩)]
    rw [hrow, e9] at hP hD
    have hmm : ((List.range (shN g)).map (fun j => (off + j, r j))).map (fun x => (rk, x.1)) = (List.range (shN g)).map (fun j => (rk, off + j)) := by rw [List.map_map]; rfl
    have hnd : (((List.range (shN g)).map (fun j => (off + j, r j))).map (·.1)).Nodup := by
      rw [List.map_map]
      show List.Pairwise _ _
      rw [List.pairwise_map]
      exact List.Pairwise.imp (fun {a b} h => by show ¬ off + a = off + b; intro q; exact h (by omega)) (List.nodup_range)
    have hfr2 : ∀ x ∈ (List.range (shN g)).map (fun j => (off + j, r j)), M 94 rk x.1 = 0 := by
      intro x hx
      obtain ⟨j, hj, rfl⟩ := List.mem_map.mp hx
      exact hfr j (List.mem_range.mp hj)
    have hmem : ∀ j, j < shN g → (off + j, r j) ∈ (List.range (shN g)).map (fun j => (off + j, r j)) := fun j hj => List.mem_map.mpr ⟨j, List.mem_range.mpr hj, rfl⟩
    generalize (List.range (shN g)).map (fun j => (off + j, r j)) = xs at hP hD hmm hnd hfr2 hmem
    have hold := keep_old C.2.2.2.2.2.2.2.2.2.2.2 C.2.2.2.2.2.2.2.2.2.2.1 hS1
    have hP2 := hP.mem (b := (wl cA ad M L ++ xs.map (fun x => (x.2, .inl (cA 1, shN rk, .inl (fun _ => 0))))) ++ [(q, .inl (cA 3, shN g, .inr (.inr (.inr (.inr (fun i => if i < shN g then some (r i) else none))))))]) (by
      intro z hz
      rcases List.mem_append.mp hz with hz | hz
      · rcases List.mem_append.mp hz with hz | hz
        · exact List.mem_append_left _ (List.mem_append_left _ hz)
        · exact List.mem_append_right _ hz
      · exact List.mem_append_left _ (List.mem_append_right _ hz))
    have hD2 := hD.perm (b := (wl cA ad M L ++ xs.map (fun x => (x.2, .inl (cA 1, shN rk, .inl (fun _ => 0))))) ++ [(q, .inl (cA 3, shN g, .inr (.inr (.inr (.inr (fun i => if i < shN g then some (r i) else none))))))]) (by
      rw [List.append_assoc, List.append_assoc]
      exact List.Perm.append_left _ List.perm_append_comm)
    obtain ⟨ad1, hR1, hE1, had1, hwl1⟩ := Rel.growL hT hrk hold xs hR hfr2 hnd hP2.left hD2.left
    rw [← hwl1] at hP2 hD2
    rw [hmm] at hR1 hE1 hP2 hD2
    have hbg : bas g = g := bas_self (by omega)
    have hEe : (Sum.inl (cA 3, shN g, Sum.inr (Sum.inr (Sum.inr (Sum.inr (fun i => if i < shN g then some (r i) else none))))) : va_E) = cellE cA (adU ad1 (g, 0) q) (nw (mkL M ((List.range (shN g)).map (fun j => (rk, off + j)))) g 0) (bas g) 0 := by
      rw [hbg, cellE_grid hg]
      have e5 : (fun i => if i < shN g then some (r i) else none) = fun j => refO (adU ad1 (g, 0) q) g 0 j := by
        funext j
        unfold refO
        by_cases hj : j < shN g
        · rw [if_pos hj, if_pos hj, hsh j]
          show some (r j) = some (adU ad1 (g, 0) q rk (off + j))
          rw [adU_ne (fun e => hgr (congrArg Prod.fst e)), had1 (off + j, r j) (hmem j hj)]
        · rw [if_neg hj, if_neg hj]
      rw [e5]
    obtain ⟨hR2, hE2⟩ := hR1.grow (x := (g, 0)) (q := q) (decide_eq_true (Or.inl ⟨arr13 (by rw [hg]; decide) hgk, hgk⟩)) (fun _ j hj t ht => by
      rw [show bas (g, 0).1 = g from hbg] at hj ht
      rw [hsh j] at ht
      cases ht
      exact List.mem_append_right _ (List.mem_map.mpr ⟨j, List.mem_range.mpr hj, rfl⟩)) (by
      show mkL M _ 94 g 0 = 0
      rw [mkL_94 _ (fun x hx => by
        obtain ⟨j, hj, rfl⟩ := List.mem_map.mp hx
        exact ⟨hgr, by show bas rk < 93; rw [bas_self (by omega)]; exact hrk⟩)]
      exact hf) hP2 hD2 hEe hold
    have hE12 := hE1.tr hE2
    have k9 := kk l s0 D cA p e s m args below meth c C adE LE _ _ H1 locs lsA (hE.tr hE12) hR2 (hE12.okl hl) ⟨Or.inl (List.mem_append_right _ (List.mem_singleton.mpr rfl)), hE12.oks hs.2.2⟩ hS1 (by rw [hE12.lsc hl]; exact hv)
    have e1 : stc (adU ad1 (g, 0) q) (vR g 0 :: st) = .ref q :: stc ad st := by
      show Value.ref (adU ad1 (g, 0) q g 0) :: stc (adU ad1 (g, 0) q) st = _
      rw [show adU ad1 (g, 0) q g 0 = q from adU_at ad1 (g, 0) q, hE12.stc hs.2.2]
    rw [e1] at k9
    exact k9
end XR
