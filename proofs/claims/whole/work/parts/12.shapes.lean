/-! ### the shapes of the functions that the methods are read as -/
def inb (x : Int32) (n : Nat) : Bool := decide (0 ≤ x.toInt ∧ x.toInt < n)
def leb (x : Int32) (n : Nat) : Bool := decide (0 ≤ x.toInt ∧ x.toInt ≤ n)
theorem inb_in {x : Int32} {n : Nat} (h : inb x n = true) : vp_in x n := vp_in_iff.mpr (of_decide_eq_true h)
theorem leb_n {x : Int32} {n : Nat} (h : leb x n = true) : ¬ x < 0 := by
  have h1 := of_decide_eq_true h
  intro h2
  have h3 := Int32.lt_iff_toInt_lt.mp h2
  have h4 : (0 : Int32).toInt = 0 := rfl
  omega
theorem leb_le {x : Int32} {n : Nat} (h : leb x n = true) : x.toNatClampNeg ≤ n := by
  have h1 := of_decide_eq_true h
  show x.toInt.toNat ≤ n
  omega
def b2i : Bool → Int32
  | true => 1
  | false => 0
theorem b2i_t {b : Bool} (h : ¬ b2i b = 0) : b = true := by
  cases b with
  | true => rfl
  | false => exact absurd rfl h
theorem b2i_f {b : Bool} (h : b2i b = 0) : ¬ b = true := by
  cases b with
  | true => exact absurd h (by decide)
  | false => decide
theorem nar_b2i (b : Bool) : narrow .boolean (.int (b2i b)) = .int (b2i b) := by cases b <;> rfl
def remI (x y : Int32) : Int32 := x - x / y * y
def remL (x y : Int64) : Int64 := x - x / y * y
abbrev oI (z : Int32) : Ou := .inl (some (vI z))
abbrev oB (z : Bool) : Ou := .inl (some (vI (b2i z)))
abbrev oL (z : Int64) : Ou := .inl (some (vL z))
abbrev oV : Ou := .inl none
def oX {α : Type} (f : α → Ou) : α ⊕ Nat → Ou
  | .inl x => f x
  | .inr k => .inr k
def bd1 {α β : Type} (o : Option α) (f : α → Option β) : Option β := match o with
  | none => none
  | some x => f x
def bd2 {α β : Type} (o : Option (α × Mem)) (f : α → Mem → Option β) : Option β := match o with
  | none => none
  | some x => f x.1 x.2
def bdS {α β γ : Type} (o : Option (α ⊕ β)) (f : α → Option γ) (g : β → Option γ) : Option γ := match o with
  | none => none
  | some (.inl x) => f x
  | some (.inr y) => g y
def thr {α β : Type} (o : Option ((α ⊕ Nat) × Mem)) (f : α → Mem → Option ((β ⊕ Nat) × Mem)) : Option ((β ⊕ Nat) × Mem) := match o with
  | none => none
  | some (.inl x, m) => f x m
  | some (.inr k, m) => some (.inr k, m)
theorem bd1_some {α β : Type} {o : Option α} {f : α → Option β} {r : β} (h : bd1 o f = some r) : ∃ x, o = some x ∧ f x = some r := by
  cases o with
  | none => cases h
  | some x => exact ⟨x, rfl, h⟩
theorem bd2_some {α β : Type} {o : Option (α × Mem)} {f : α → Mem → Option β} {r : β} (h : bd2 o f = some r) : ∃ x m, o = some (x, m) ∧ f x m = some r := by
  cases o with
  | none => cases h
  | some x => exact ⟨x.1, x.2, rfl, h⟩
theorem bdS_some {α β γ : Type} {o : Option (α ⊕ β)} {f : α → Option γ} {g : β → Option γ} {r : γ} (h : bdS o f g = some r) : (∃ x, o = some (.inl x) ∧ f x = some r) ∨ ∃ y, o = some (.inr y) ∧ g y = some r := by
  match o, h with
  | none, h => cases h
  | some (.inl x), h => exact Or.inl ⟨x, rfl, h⟩
  | some (.inr y), h => exact Or.inr ⟨y, rfl, h⟩
theorem thr_some {α β : Type} {o : Option ((α ⊕ Nat) × Mem)} {f : α → Mem → Option ((β ⊕ Nat) × Mem)} {z : β ⊕ Nat} {m' : Mem} (h : thr o f = some (z, m')) : (∃ x m, o = some (.inl x, m) ∧ f x m = some (z, m')) ∨ ∃ ex, o = some (.inr ex, m') ∧ z = .inr ex := by
  match o, h with
  | none, h => cases h
  | some (.inl x, m), h => exact Or.inl ⟨x, m, rfl, h⟩
  | some (.inr k, m), h => cases h; exact Or.inr ⟨k, rfl, rfl⟩
/-- a loop: so many rounds at the most -/
def loopN {σ ρ : Type} (b : σ → Option (σ ⊕ ρ)) : Nat → σ → Option ρ
  | 0, _ => none
  | n + 1, s => match b s with
    | none => none
    | some (.inl s2) => loopN b n s2
    | some (.inr r) => some r
theorem loopN_more {σ ρ : Type} {b : σ → Option (σ ⊕ ρ)} : ∀ {n : Nat} {s : σ} {r : ρ}, loopN b n s = some r → ∀ k, loopN b (n + k) s = some r
  | 0, _, _, h, _ => by cases h
  | n + 1, s, r, h, k => by
    rw [Nat.add_right_comm]
    unfold loopN at h ⊢
    match hb : b s, h with
    | some (.inl s2), h => exact loopN_more h k
    | some (.inr r2), h => exact h
theorem loopN_one {σ ρ : Type} {b : σ → Option (σ ⊕ ρ)} {n k : Nat} {s : σ} {r q : ρ} (h : loopN b n s = some r) (h2 : loopN b k s = some q) : r = q := by
  have h3 := loopN_more h k
  have h4 := loopN_more h2 n
  rw [Nat.add_comm] at h4
  exact Option.some.inj (h3.symm.trans h4)
/-- a loop: what comes out, if it ends -/
noncomputable def loopO {σ ρ : Type} (b : σ → Option (σ ⊕ ρ)) (s : σ) : Option ρ := by
  classical exact if h : ∃ r n, loopN b n s = some r then some h.choose else none
theorem loopO_iff {σ ρ : Type} {b : σ → Option (σ ⊕ ρ)} {s : σ} {r : ρ} : loopO b s = some r ↔ ∃ n, loopN b n s = some r := by
  unfold loopO
  constructor
  · intro h
    by_cases hh : ∃ r n, loopN b n s = some r
    · rw [dif_pos hh] at h
      cases h
      exact hh.choose_spec
    · rw [dif_neg hh] at h; cases h
  · rintro ⟨n, h⟩
    have hh : ∃ r n, loopN b n s = some r := ⟨r, n, h⟩
    rw [dif_pos hh]
    obtain ⟨k, hk⟩ := hh.choose_spec
    rw [loopN_one hk h]
theorem loopO_in {σ ρ : Type} {b : σ → Option (σ ⊕ ρ)} {s s2 : σ} (h : b s = some (.inl s2)) : loopO b s = loopO b s2 := by
  apply Option.ext
  intro r
  rw [loopO_iff, loopO_iff]
  constructor
  · rintro ⟨n, hn⟩
    cases n with
    | zero => cases hn
    | succ n =>
      unfold loopN at hn
      rw [h] at hn
      exact ⟨n, hn⟩
  · rintro ⟨n, hn⟩
    refine ⟨n + 1, ?_⟩
    unfold loopN
    rw [h]
    exact hn
theorem loopO_out {σ ρ : Type} {b : σ → Option (σ ⊕ ρ)} {s : σ} {r : ρ} (h : b s = some (.inr r)) : loopO b s = some r := by
  refine loopO_iff.mpr ⟨1, ?_⟩
  unfold loopN
  rw [h]
theorem loopO_ok {σ ρ : Type} {b : σ → Option (σ ⊕ ρ)} {P : σ → Prop} {Q : ρ → Prop} (hb : ∀ s r, b s = some r → (∀ s2, r = .inl s2 → P s2) → (∀ q, r = .inr q → Q q) → P s) : ∀ s r, loopO b s = some r → Q r → P s := by
  intro s r h hQ
  obtain ⟨n, hn⟩ := loopO_iff.mp h
  clear h
  induction n generalizing s with
  | zero => cases hn
  | succ n ih =>
    unfold loopN at hn
    match hbs : b s, hn with
    | some (.inl s2), hn => exact hb s _ hbs (fun s3 e => by cases e; exact ih s2 hn) (fun q e => by cases e)
    | some (.inr q), hn =>
      cases hn
      exact hb s _ hbs (fun s3 e => by cases e) (fun q e => by cases e; exact hQ)
section XR
variable {own : String} {cc : ByteArray} {nL : Nat} {rt : Option FieldType} {fr lo mc ms u v pc : Nat} {ls : List (Nat × AV)} {st : List AV} {M : Mem} {o : Ou} {M' : Mem}
theorem xg_getI {k i j idx : Nat} {x : Int32} (hd : decode cc pc = .ok (.getfield idx, 3)) (hf : FL own idx k j) (hr : shR k i j = none) (hx : M k i j = x) (kk : Xj own cc nL rt fr lo mc ms u v (pc + 3) ls (vI x :: st) M o M') : Xj own cc nL rt fr lo mc ms u v pc ls (vR k i :: st) M o M' := xj_getI hd hf hr (by rw [hx]; exact kk)
theorem xg_getR {k i j idx k' i' : Nat} (hd : decode cc pc = .ok (.getfield idx, 3)) (hf : FL own idx k j) (hr : shR k i j = some (k', i')) (kk : Xj own cc nL rt fr lo mc ms u v (pc + 3) ls (vR k' i' :: st) M o M') : Xj own cc nL rt fr lo mc ms u v pc ls (vR k i :: st) M o M' := xj_getR hd hf hr kk
theorem xg_iald {k i n : Nat} {x z : Int32} (hd : decode cc pc = .ok (.iaload, 1)) (hT : shT k = 1) (hk : k < 100) (hx : vp_in x (shN k)) (hn : x.toNatClampNeg = n) (hz : M k i n = z) (kk : Xj own cc nL rt fr lo mc ms u v (pc + 1) ls (vI z :: st) M o M') : Xj own cc nL rt fr lo mc ms u v pc ls (vI x :: vR k i :: st) M o M' := xj_iald hd hT hk hx (by rw [hn, hz]; exact kk)
theorem xg_ialdS {n : Nat} {x z : Int32} (hd : decode cc pc = .ok (.iaload, 1)) (hx : vp_in x (M 100 1 0).toNatClampNeg) (hn : x.toNatClampNeg = n) (hz : M 100 0 n = z) (kk : Xj own cc nL rt fr lo mc ms u v (pc + 1) ls (vI z :: st) M o M') : Xj own cc nL rt fr lo mc ms u v pc ls (vI x :: vR 100 0 :: st) M o M' := xj_ialdS hd hx (by rw [hn, hz]; exact kk)
theorem xg_iast {k i n : Nat} {x z : Int32} (hd : decode cc pc = .ok (.iastore, 1)) (hT : shT k = 1) (hk : k < 100) (hx : vp_in x (shN k)) (hn : x.toNatClampNeg = n) (kk : Xj own cc nL rt fr lo mc ms u v (pc + 1) ls st (wr M k i n z) o M') : Xj own cc nL rt fr lo mc ms u v pc ls (vI z :: vI x :: vR k i :: st) M o M' := xj_iast hd hT hk hx (by rw [hn]; exact kk)
theorem xg_aald {k i k' i' n : Nat} {x : Int32} (hd : decode cc pc = .ok (.aaload, 1)) (hT : shT k = 3) (hk : k < 100) (hx : vp_in x (shN k)) (hn : x.toNatClampNeg = n) (hr : shR k i n = some (k', i')) (kk : Xj own cc nL rt fr lo mc ms u v (pc + 1) ls (vR k' i' :: st) M o M') : Xj own cc nL rt fr lo mc ms u v pc ls (vI x :: vR k i :: st) M o M' := xj_aald hd hT hk hx (by rw [hn]; exact hr) kk
theorem xg_aaldN {k i k' i' n : Nat} {x z : Int32} (hd : decode cc pc = .ok (.aaload, 1)) (hT : shT k = 4 ∨ shT k = 5) (hk : k < 100) (hx : vp_in x (shN k)) (hn : x.toNatClampNeg = n) (hr : shR k i n = some (k', i')) (hz : M k i n = z) (kn : z = 0 → Xj own cc nL rt fr lo mc ms u v (pc + 1) ls (vN :: st) M o M') (kk : ¬ z = 0 → Xj own cc nL rt fr lo mc ms u v (pc + 1) ls (vR k' i' :: st) M o M') : Xj own cc nL rt fr lo mc ms u v pc ls (vI x :: vR k i :: st) M o M' := by
  subst hn; subst hz
  exact xj_aaldN hd hT hk hx hr kn kk
theorem xg_irem {x y : Int32} (hd : decode cc pc = .ok (.irem, 1)) (hne : ¬ y = 0) (k : Xj own cc nL rt fr lo mc ms u v (pc + 1) ls (vI (remI x y) :: st) M o M') : Xj own cc nL rt fr lo mc ms u v pc ls (vI y :: vI x :: st) M o M' := xj_irem hd hne k
theorem xg_lrem {x y : Int64} (hd : decode cc pc = .ok (.lrem, 1)) (hne : ¬ y = 0) (k : Xj own cc nL rt fr lo mc ms u v (pc + 1) ls (vL (remL x y) :: st) M o M') : Xj own cc nL rt fr lo mc ms u v pc ls (vL y :: vL x :: st) M o M' := xj_lrem hd hne k
theorem xg_copy {k0 i0 k1 i1 idx s' d' n' : Nat} {sp dp n : Int32} (hd : decode cc pc = .ok (.invokestatic idx, 3)) (hc : CP own idx) (hT0 : shT k0 = 1) (hT1 : shT k1 = 1) (hk0 : k0 < 100) (hk1 : k1 < 100) (h1 : ¬ sp < 0) (h2 : ¬ dp < 0) (h3 : ¬ n < 0) (e1 : sp.toNatClampNeg = s') (e2 : dp.toNatClampNeg = d') (e3 : n.toNatClampNeg = n') (h4 : s' + n' ≤ shN k0) (h5 : d' + n' ≤ shN k1) (hf : 1 ≤ fr) (hl9 : wgt st + acw ≤ lo)
    (kk : Xj own cc nL rt fr lo mc ms u v (pc + 3) ls st (cpM M k0 i0 s' k1 i1 d' n') o M') : Xj own cc nL rt fr lo mc ms u v pc ls (vI n :: vI dp :: vR k1 i1 :: vI sp :: vR k0 i0 :: st) M o M' := by
  subst e1; subst e2; subst e3
  exact xj_copy hd hc hT0 hT1 hk0 hk1 h1 h2 h3 h4 h5 hf hl9 kk
theorem xg_copyW {k1 i1 idx n' : Nat} {dp n : Int32} (hd : decode cc pc = .ok (.invokestatic idx, 3)) (hc : CP own idx) (hT1 : shT k1 = 1) (hk1 : k1 < 100) (h2 : dp = 0) (h3 : ¬ n < 0) (e3 : n.toNatClampNeg = n') (h4 : n' ≤ 7) (h5 : n' ≤ shN k1) (hf : 1 ≤ fr) (hl9 : wgt st + acw ≤ lo)
    (kk : Xj own cc nL rt fr lo mc ms u v (pc + 3) ls st (cpL M (fun j => wtL.getD j 0) k1 i1 0 n') o M') : Xj own cc nL rt fr lo mc ms u v pc ls (vI n :: vI dp :: vR k1 i1 :: vI 0 :: vR 101 0 :: st) M o M' := by
  subst e3; subst h2
  exact xj_copyW hd hc hT1 hk1 (by decide) h3 h4 (by show 0 + _ ≤ _; omega) hf hl9 kk
theorem xc_Vi {y : MethodName} {cc' : ByteArray} {nL' : Nat} {rt' : Option FieldType} {fr' lo' mc' ms' idx n k i : Nat} {vs : List AV} {r : Int32} {M1 : Mem} (hM : Mt y cc' nL' rt' fr' lo' mc' ms' (vR k i :: vs) M (.inl (some (vI r))) M1) (hd : decode cc pc = .ok (.invokevirtual idx, 3)) (hc : CV own idx k y cc' nL' rt' n) (hn : vs.length = n) {sk : List AV} (hsk : vs.reverse ++ vR k i :: st = sk) (hw : wgt st ≤ 8) (h1 : fr' + 1 ≤ fr) (h2 : 8 + (nL' + 11) + lo' ≤ lo) (h3 : u + mc' ≤ mc) (h4 : v + ms' ≤ ms) (kk : Xj own cc nL rt fr lo mc ms (u + mc') (v + ms') (pc + 3) ls (vI r :: st) M1 o M') : Xj own cc nL rt fr lo mc ms u v pc ls sk M o M' := xj_callV hM hd hc hn hsk hw h1 h2 h3 h4 kk
theorem xc_Vi0 {y : MethodName} {cc' : ByteArray} {nL' : Nat} {rt' : Option FieldType} {fr' lo' idx n k i : Nat} {vs : List AV} {r : Int32} {M1 : Mem} (hM : Mt y cc' nL' rt' fr' lo' 0 0 (vR k i :: vs) M (.inl (some (vI r))) M1) (hd : decode cc pc = .ok (.invokevirtual idx, 3)) (hc : CV own idx k y cc' nL' rt' n) (hn : vs.length = n) {sk : List AV} (hsk : vs.reverse ++ vR k i :: st = sk) (hw : wgt st ≤ 8) (h1 : fr' + 1 ≤ fr) (h2 : 8 + (nL' + 11) + lo' ≤ lo) (h3 : u ≤ mc) (h4 : v ≤ ms) (kk : Xj own cc nL rt fr lo mc ms u v (pc + 3) ls (vI r :: st) M1 o M') : Xj own cc nL rt fr lo mc ms u v pc ls sk M o M' := xj_callV hM hd hc hn hsk hw h1 h2 h3 h4 kk
theorem xc_Vb {y : MethodName} {cc' : ByteArray} {nL' : Nat} {rt' : Option FieldType} {fr' lo' mc' ms' idx n k i : Nat} {vs : List AV} {r : Bool} {M1 : Mem} (hM : Mt y cc' nL' rt' fr' lo' mc' ms' (vR k i :: vs) M (.inl (some (vI (b2i r)))) M1) (hd : decode cc pc = .ok (.invokevirtual idx, 3)) (hc : CV own idx k y cc' nL' rt' n) (hn : vs.length = n) {sk : List AV} (hsk : vs.reverse ++ vR k i :: st = sk) (hw : wgt st ≤ 8) (h1 : fr' + 1 ≤ fr) (h2 : 8 + (nL' + 11) + lo' ≤ lo) (h3 : u + mc' ≤ mc) (h4 : v + ms' ≤ ms) (kk : Xj own cc nL rt fr lo mc ms (u + mc') (v + ms') (pc + 3) ls (vI (b2i r) :: st) M1 o M') : Xj own cc nL rt fr lo mc ms u v pc ls sk M o M' := xj_callV hM hd hc hn hsk hw h1 h2 h3 h4 kk
theorem xc_Vb0 {y : MethodName} {cc' : ByteArray} {nL' : Nat} {rt' : Option FieldType} {fr' lo' idx n k i : Nat} {vs : List AV} {r : Bool} {M1 : Mem} (hM : Mt y cc' nL' rt' fr' lo' 0 0 (vR k i :: vs) M (.inl (some (vI (b2i r)))) M1) (hd : decode cc pc = .ok (.invokevirtual idx, 3)) (hc : CV own idx k y cc' nL' rt' n) (hn : vs.length = n) {sk : List AV} (hsk : vs.reverse ++ vR k i :: st = sk) (hw : wgt st ≤ 8) (h1 : fr' + 1 ≤ fr) (h2 : 8 + (nL' + 11) + lo' ≤ lo) (h3 : u ≤ mc) (h4 : v ≤ ms) (kk : Xj own cc nL rt fr lo mc ms u v (pc + 3) ls (vI (b2i r) :: st) M1 o M') : Xj own cc nL rt fr lo mc ms u v pc ls sk M o M' := xj_callV hM hd hc hn hsk hw h1 h2 h3 h4 kk
theorem xc_Vl {y : MethodName} {cc' : ByteArray} {nL' : Nat} {rt' : Option FieldType} {fr' lo' mc' ms' idx n k i : Nat} {vs : List AV} {r : Int64} {M1 : Mem} (hM : Mt y cc' nL' rt' fr' lo' mc' ms' (vR k i :: vs) M (.inl (some (vL r))) M1) (hd : decode cc pc = .ok (.invokevirtual idx, 3)) (hc : CV own idx k y cc' nL' rt' n) (hn : vs.length = n) {sk : List AV} (hsk : vs.reverse ++ vR k i :: st = sk) (hw : wgt st ≤ 8) (h1 : fr' + 1 ≤ fr) (h2 : 8 + (nL' + 11) + lo' ≤ lo) (h3 : u + mc' ≤ mc) (h4 : v + ms' ≤ ms) (kk : Xj own cc nL rt fr lo mc ms (u + mc') (v + ms') (pc + 3) ls (vL r :: st) M1 o M') : Xj own cc nL rt fr lo mc ms u v pc ls sk M o M' := xj_callV hM hd hc hn hsk hw h1 h2 h3 h4 kk
theorem xc_Vl0 {y : MethodName} {cc' : ByteArray} {nL' : Nat} {rt' : Option FieldType} {fr' lo' idx n k i : Nat} {vs : List AV} {r : Int64} {M1 : Mem} (hM : Mt y cc' nL' rt' fr' lo' 0 0 (vR k i :: vs) M (.inl (some (vL r))) M1) (hd : decode cc pc = .ok (.invokevirtual idx, 3)) (hc : CV own idx k y cc' nL' rt' n) (hn : vs.length = n) {sk : List AV} (hsk : vs.reverse ++ vR k i :: st = sk) (hw : wgt st ≤ 8) (h1 : fr' + 1 ≤ fr) (h2 : 8 + (nL' + 11) + lo' ≤ lo) (h3 : u ≤ mc) (h4 : v ≤ ms) (kk : Xj own cc nL rt fr lo mc ms u v (pc + 3) ls (vL r :: st) M1 o M') : Xj own cc nL rt fr lo mc ms u v pc ls sk M o M' := xj_callV hM hd hc hn hsk hw h1 h2 h3 h4 kk
theorem xc_Vv {y : MethodName} {cc' : ByteArray} {nL' : Nat} {rt' : Option FieldType} {fr' lo' mc' ms' idx n k i : Nat} {vs : List AV} {M1 : Mem} (hM : Mt y cc' nL' rt' fr' lo' mc' ms' (vR k i :: vs) M (.inl (none)) M1) (hd : decode cc pc = .ok (.invokevirtual idx, 3)) (hc : CV own idx k y cc' nL' rt' n) (hn : vs.length = n) {sk : List AV} (hsk : vs.reverse ++ vR k i :: st = sk) (hw : wgt st ≤ 8) (h1 : fr' + 1 ≤ fr) (h2 : 8 + (nL' + 11) + lo' ≤ lo) (h3 : u + mc' ≤ mc) (h4 : v + ms' ≤ ms) (kk : Xj own cc nL rt fr lo mc ms (u + mc') (v + ms') (pc + 3) ls (st) M1 o M') : Xj own cc nL rt fr lo mc ms u v pc ls sk M o M' := xj_callV hM hd hc hn hsk hw h1 h2 h3 h4 kk
theorem xc_Vv0 {y : MethodName} {cc' : ByteArray} {nL' : Nat} {rt' : Option FieldType} {fr' lo' idx n k i : Nat} {vs : List AV} {M1 : Mem} (hM : Mt y cc' nL' rt' fr' lo' 0 0 (vR k i :: vs) M (.inl (none)) M1) (hd : decode cc pc = .ok (.invokevirtual idx, 3)) (hc : CV own idx k y cc' nL' rt' n) (hn : vs.length = n) {sk : List AV} (hsk : vs.reverse ++ vR k i :: st = sk) (hw : wgt st ≤ 8) (h1 : fr' + 1 ≤ fr) (h2 : 8 + (nL' + 11) + lo' ≤ lo) (h3 : u ≤ mc) (h4 : v ≤ ms) (kk : Xj own cc nL rt fr lo mc ms u v (pc + 3) ls (st) M1 o M') : Xj own cc nL rt fr lo mc ms u v pc ls sk M o M' := xj_callV hM hd hc hn hsk hw h1 h2 h3 h4 kk
theorem xc_Si {y : MethodName} {cc' : ByteArray} {nL' : Nat} {rt' : Option FieldType} {fr' lo' mc' ms' idx n : Nat} {vs : List AV} {r : Int32} {M1 : Mem} (hM : Mt y cc' nL' rt' fr' lo' mc' ms' vs M (.inl (some (vI r))) M1) (hd : decode cc pc = .ok (.invokestatic idx, 3)) (hc : CS own idx y cc' nL' rt' n) (hn : vs.length = n) {sk : List AV} (hsk : vs.reverse ++ st = sk) (hw : wgt st ≤ 8) (h1 : fr' + 1 ≤ fr) (h2 : 8 + (nL' + 11) + lo' ≤ lo) (h3 : u + mc' ≤ mc) (h4 : v + ms' ≤ ms) (kk : Xj own cc nL rt fr lo mc ms (u + mc') (v + ms') (pc + 3) ls (vI r :: st) M1 o M') : Xj own cc nL rt fr lo mc ms u v pc ls sk M o M' := xj_callS hM hd hc hn hsk hw h1 h2 h3 h4 kk
theorem xc_Si0 {y : MethodName} {cc' : ByteArray} {nL' : Nat} {rt' : Option FieldType} {fr' lo' idx n : Nat} {vs : List AV} {r : Int32} {M1 : Mem} (hM : Mt y cc' nL' rt' fr' lo' 0 0 vs M (.inl (some (vI r))) M1) (hd : decode cc pc = .ok (.invokestatic idx, 3)) (hc : CS own idx y cc' nL' rt' n) (hn : vs.length = n) {sk : List AV} (hsk : vs.reverse ++ st = sk) (hw : wgt st ≤ 8) (h1 : fr' + 1 ≤ fr) (h2 : 8 + (nL' + 11) + lo' ≤ lo) (h3 : u ≤ mc) (h4 : v ≤ ms) (kk : Xj own cc nL rt fr lo mc ms u v (pc + 3) ls (vI r :: st) M1 o M') : Xj own cc nL rt fr lo mc ms u v pc ls sk M o M' := xj_callS hM hd hc hn hsk hw h1 h2 h3 h4 kk
theorem xc_Sb {y : MethodName} {cc' : ByteArray} {nL' : Nat} {rt' : Option FieldType} {fr' lo' mc' ms' idx n : Nat} {vs : List AV} {r : Bool} {M1 : Mem} (hM : Mt y cc' nL' rt' fr' lo' mc' ms' vs M (.inl (some (vI (b2i r)))) M1) (hd : decode cc pc = .ok (.invokestatic idx, 3)) (hc : CS own idx y cc' nL' rt' n) (hn : vs.length = n) {sk : List AV} (hsk : vs.reverse ++ st = sk) (hw : wgt st ≤ 8) (h1 : fr' + 1 ≤ fr) (h2 : 8 + (nL' + 11) + lo' ≤ lo) (h3 : u + mc' ≤ mc) (h4 : v + ms' ≤ ms) (kk : Xj own cc nL rt fr lo mc ms (u + mc') (v + ms') (pc + 3) ls (vI (b2i r) :: st) M1 o M') : Xj own cc nL rt fr lo mc ms u v pc ls sk M o M' := xj_callS hM hd hc hn hsk hw h1 h2 h3 h4 kk
theorem xc_Sb0 {y : MethodName} {cc' : ByteArray} {nL' : Nat} {rt' : Option FieldType} {fr' lo' idx n : Nat} {vs : List AV} {r : Bool} {M1 : Mem} (hM : Mt y cc' nL' rt' fr' lo' 0 0 vs M (.inl (some (vI (b2i r)))) M1) (hd : decode cc pc = .ok (.invokestatic idx, 3)) (hc : CS own idx y cc' nL' rt' n) (hn : vs.length = n) {sk : List AV} (hsk : vs.reverse ++ st = sk) (hw : wgt st ≤ 8) (h1 : fr' + 1 ≤ fr) (h2 : 8 + (nL' + 11) + lo' ≤ lo) (h3 : u ≤ mc) (h4 : v ≤ ms) (kk : Xj own cc nL rt fr lo mc ms u v (pc + 3) ls (vI (b2i r) :: st) M1 o M') : Xj own cc nL rt fr lo mc ms u v pc ls sk M o M' := xj_callS hM hd hc hn hsk hw h1 h2 h3 h4 kk
theorem xc_Sl {y : MethodName} {cc' : ByteArray} {nL' : Nat} {rt' : Option FieldType} {fr' lo' mc' ms' idx n : Nat} {vs : List AV} {r : Int64} {M1 : Mem} (hM : Mt y cc' nL' rt' fr' lo' mc' ms' vs M (.inl (some (vL r))) M1) (hd : decode cc pc = .ok (.invokestatic idx, 3)) (hc : CS own idx y cc' nL' rt' n) (hn : vs.length = n) {sk : List AV} (hsk : vs.reverse ++ st = sk) (hw : wgt st ≤ 8) (h1 : fr' + 1 ≤ fr) (h2 : 8 + (nL' + 11) + lo' ≤ lo) (h3 : u + mc' ≤ mc) (h4 : v + ms' ≤ ms) (kk : Xj own cc nL rt fr lo mc ms (u + mc') (v + ms') (pc + 3) ls (vL r :: st) M1 o M') : Xj own cc nL rt fr lo mc ms u v pc ls sk M o M' := xj_callS hM hd hc hn hsk hw h1 h2 h3 h4 kk
theorem xc_Sl0 {y : MethodName} {cc' : ByteArray} {nL' : Nat} {rt' : Option FieldType} {fr' lo' idx n : Nat} {vs : List AV} {r : Int64} {M1 : Mem} (hM : Mt y cc' nL' rt' fr' lo' 0 0 vs M (.inl (some (vL r))) M1) (hd : decode cc pc = .ok (.invokestatic idx, 3)) (hc : CS own idx y cc' nL' rt' n) (hn : vs.length = n) {sk : List AV} (hsk : vs.reverse ++ st = sk) (hw : wgt st ≤ 8) (h1 : fr' + 1 ≤ fr) (h2 : 8 + (nL' + 11) + lo' ≤ lo) (h3 : u ≤ mc) (h4 : v ≤ ms) (kk : Xj own cc nL rt fr lo mc ms u v (pc + 3) ls (vL r :: st) M1 o M') : Xj own cc nL rt fr lo mc ms u v pc ls sk M o M' := xj_callS hM hd hc hn hsk hw h1 h2 h3 h4 kk
theorem xc_Sv {y : MethodName} {cc' : ByteArray} {nL' : Nat} {rt' : Option FieldType} {fr' lo' mc' ms' idx n : Nat} {vs : List AV} {M1 : Mem} (hM : Mt y cc' nL' rt' fr' lo' mc' ms' vs M (.inl (none)) M1) (hd : decode cc pc = .ok (.invokestatic idx, 3)) (hc : CS own idx y cc' nL' rt' n) (hn : vs.length = n) {sk : List AV} (hsk : vs.reverse ++ st = sk) (hw : wgt st ≤ 8) (h1 : fr' + 1 ≤ fr) (h2 : 8 + (nL' + 11) + lo' ≤ lo) (h3 : u + mc' ≤ mc) (h4 : v + ms' ≤ ms) (kk : Xj own cc nL rt fr lo mc ms (u + mc') (v + ms') (pc + 3) ls (st) M1 o M') : Xj own cc nL rt fr lo mc ms u v pc ls sk M o M' := xj_callS hM hd hc hn hsk hw h1 h2 h3 h4 kk
theorem xc_Sv0 {y : MethodName} {cc' : ByteArray} {nL' : Nat} {rt' : Option FieldType} {fr' lo' idx n : Nat} {vs : List AV} {M1 : Mem} (hM : Mt y cc' nL' rt' fr' lo' 0 0 vs M (.inl (none)) M1) (hd : decode cc pc = .ok (.invokestatic idx, 3)) (hc : CS own idx y cc' nL' rt' n) (hn : vs.length = n) {sk : List AV} (hsk : vs.reverse ++ st = sk) (hw : wgt st ≤ 8) (h1 : fr' + 1 ≤ fr) (h2 : 8 + (nL' + 11) + lo' ≤ lo) (h3 : u ≤ mc) (h4 : v ≤ ms) (kk : Xj own cc nL rt fr lo mc ms u v (pc + 3) ls (st) M1 o M') : Xj own cc nL rt fr lo mc ms u v pc ls sk M o M' := xj_callS hM hd hc hn hsk hw h1 h2 h3 h4 kk
theorem xc_Ni {y : MethodName} {cc' : ByteArray} {nL' : Nat} {rt' : Option FieldType} {fr' lo' mc' ms' idx n : Nat} {vs : List AV} {r : Int32} {M1 : Mem} (hM : Mt y cc' nL' rt' fr' lo' mc' ms' vs M (.inl (some (vI r))) M1) (hd : decode cc pc = .ok (.invokestatic idx, 3)) (hc : CN own idx y cc' nL' rt' n) (hn : vs.length = n) {sk : List AV} (hsk : vs.reverse ++ st = sk) (hw : wgt st ≤ 8) (h1 : fr' + 1 ≤ fr) (h2 : 8 + (nL' + 11) + lo' ≤ lo) (h3 : u + mc' ≤ mc) (h4 : v + ms' ≤ ms) (kk : Xj own cc nL rt fr lo mc ms (u + mc') (v + ms') (pc + 3) ls (vI r :: st) M1 o M') : Xj own cc nL rt fr lo mc ms u v pc ls sk M o M' := xj_callN hM hd hc hn hsk hw h1 h2 h3 h4 kk
theorem xc_Ni0 {y : MethodName} {cc' : ByteArray} {nL' : Nat} {rt' : Option FieldType} {fr' lo' idx n : Nat} {vs : List AV} {r : Int32} {M1 : Mem} (hM : Mt y cc' nL' rt' fr' lo' 0 0 vs M (.inl (some (vI r))) M1) (hd : decode cc pc = .ok (.invokestatic idx, 3)) (hc : CN own idx y cc' nL' rt' n) (hn : vs.length = n) {sk : List AV} (hsk : vs.reverse ++ st = sk) (hw : wgt st ≤ 8) (h1 : fr' + 1 ≤ fr) (h2 : 8 + (nL' + 11) + lo' ≤ lo) (h3 : u ≤ mc) (h4 : v ≤ ms) (kk : Xj own cc nL rt fr lo mc ms u v (pc + 3) ls (vI r :: st) M1 o M') : Xj own cc nL rt fr lo mc ms u v pc ls sk M o M' := xj_callN hM hd hc hn hsk hw h1 h2 h3 h4 kk
theorem xc_Nb {y : MethodName} {cc' : ByteArray} {nL' : Nat} {rt' : Option FieldType} {fr' lo' mc' ms' idx n : Nat} {vs : List AV} {r : Bool} {M1 : Mem} (hM : Mt y cc' nL' rt' fr' lo' mc' ms' vs M (.inl (some (vI (b2i r)))) M1) (hd : decode cc pc = .ok (.invokestatic idx, 3)) (hc : CN own idx y cc' nL' rt' n) (hn : vs.length = n) {sk : List AV} (hsk : vs.reverse ++ st = sk) (hw : wgt st ≤ 8) (h1 : fr' + 1 ≤ fr) (h2 : 8 + (nL' + 11) + lo' ≤ lo) (h3 : u + mc' ≤ mc) (h4 : v + ms' ≤ ms) (kk : Xj own cc nL rt fr lo mc ms (u + mc') (v + ms') (pc + 3) ls (vI (b2i r) :: st) M1 o M') : Xj own cc nL rt fr lo mc ms u v pc ls sk M o M' := xj_callN hM hd hc hn hsk hw h1 h2 h3 h4 kk
theorem xc_Nb0 {y : MethodName} {cc' : ByteArray} {nL' : Nat} {rt' : Option FieldType} {fr' lo' idx n : Nat} {vs : List AV} {r : Bool} {M1 : Mem} (hM : Mt y cc' nL' rt' fr' lo' 0 0 vs M (.inl (some (vI (b2i r)))) M1) (hd : decode cc pc = .ok (.invokestatic idx, 3)) (hc : CN own idx y cc' nL' rt' n) (hn : vs.length = n) {sk : List AV} (hsk : vs.reverse ++ st = sk) (hw : wgt st ≤ 8) (h1 : fr' + 1 ≤ fr) (h2 : 8 + (nL' + 11) + lo' ≤ lo) (h3 : u ≤ mc) (h4 : v ≤ ms) (kk : Xj own cc nL rt fr lo mc ms u v (pc + 3) ls (vI (b2i r) :: st) M1 o M') : Xj own cc nL rt fr lo mc ms u v pc ls sk M o M' := xj_callN hM hd hc hn hsk hw h1 h2 h3 h4 kk
theorem xc_Nl {y : MethodName} {cc' : ByteArray} {nL' : Nat} {rt' : Option FieldType} {fr' lo' mc' ms' idx n : Nat} {vs : List AV} {r : Int64} {M1 : Mem} (hM : Mt y cc' nL' rt' fr' lo' mc' ms' vs M (.inl (some (vL r))) M1) (hd : decode cc pc = .ok (.invokestatic idx, 3)) (hc : CN own idx y cc' nL' rt' n) (hn : vs.length = n) {sk : List AV} (hsk : vs.reverse ++ st = sk) (hw : wgt st ≤ 8) (h1 : fr' + 1 ≤ fr) (h2 : 8 + (nL' + 11) + lo' ≤ lo) (h3 : u + mc' ≤ mc) (h4 : v + ms' ≤ ms) (kk : Xj own cc nL rt fr lo mc ms (u + mc') (v + ms') (pc + 3) ls (vL r :: st) M1 o M') : Xj own cc nL rt fr lo mc ms u v pc ls sk M o M' := xj_callN hM hd hc hn hsk hw h1 h2 h3 h4 kk
theorem xc_Nl0 {y : MethodName} {cc' : ByteArray} {nL' : Nat} {rt' : Option FieldType} {fr' lo' idx n : Nat} {vs : List AV} {r : Int64} {M1 : Mem} (hM : Mt y cc' nL' rt' fr' lo' 0 0 vs M (.inl (some (vL r))) M1) (hd : decode cc pc = .ok (.invokestatic idx, 3)) (hc : CN own idx y cc' nL' rt' n) (hn : vs.length = n) {sk : List AV} (hsk : vs.reverse ++ st = sk) (hw : wgt st ≤ 8) (h1 : fr' + 1 ≤ fr) (h2 : 8 + (nL' + 11) + lo' ≤ lo) (h3 : u ≤ mc) (h4 : v ≤ ms) (kk : Xj own cc nL rt fr lo mc ms u v (pc + 3) ls (vL r :: st) M1 o M') : Xj own cc nL rt fr lo mc ms u v pc ls sk M o M' := xj_callN hM hd hc hn hsk hw h1 h2 h3 h4 kk
theorem xc_Nv {y : MethodName} {cc' : ByteArray} {nL' : Nat} {rt' : Option FieldType} {fr' lo' mc' ms' idx n : Nat} {vs : List AV} {M1 : Mem} (hM : Mt y cc' nL' rt' fr' lo' mc' ms' vs M (.inl (none)) M1) (hd : decode cc pc = .ok (.invokestatic idx, 3)) (hc : CN own idx y cc' nL' rt' n) (hn : vs.length = n) {sk : List AV} (hsk : vs.reverse ++ st = sk) (hw : wgt st ≤ 8) (h1 : fr' + 1 ≤ fr) (h2 : 8 + (nL' + 11) + lo' ≤ lo) (h3 : u + mc' ≤ mc) (h4 : v + ms' ≤ ms) (kk : Xj own cc nL rt fr lo mc ms (u + mc') (v + ms') (pc + 3) ls (st) M1 o M') : Xj own cc nL rt fr lo mc ms u v pc ls sk M o M' := xj_callN hM hd hc hn hsk hw h1 h2 h3 h4 kk
theorem xc_Nv0 {y : MethodName} {cc' : ByteArray} {nL' : Nat} {rt' : Option FieldType} {fr' lo' idx n : Nat} {vs : List AV} {M1 : Mem} (hM : Mt y cc' nL' rt' fr' lo' 0 0 vs M (.inl (none)) M1) (hd : decode cc pc = .ok (.invokestatic idx, 3)) (hc : CN own idx y cc' nL' rt' n) (hn : vs.length = n) {sk : List AV} (hsk : vs.reverse ++ st = sk) (hw : wgt st ≤ 8) (h1 : fr' + 1 ≤ fr) (h2 : 8 + (nL' + 11) + lo' ≤ lo) (h3 : u ≤ mc) (h4 : v ≤ ms) (kk : Xj own cc nL rt fr lo mc ms u v (pc + 3) ls (st) M1 o M') : Xj own cc nL rt fr lo mc ms u v pc ls sk M o M' := xj_callN hM hd hc hn hsk hw h1 h2 h3 h4 kk
theorem xc_Ti {y : MethodName} {cc' : ByteArray} {nL' : Nat} {rt' : Option FieldType} {fr' lo' mc' ms' idx n k : Nat} {q : String × Nat × String × List Int32} {vs : List AV} {r : Int32} {M1 : Mem} (hM : Mt y cc' nL' rt' fr' lo' mc' ms' (vR 105 k :: vs) M (.inl (some (vI r))) M1) (hd : decode cc pc = .ok (.invokevirtual idx, 3)) (hq : strL[k]? = some q) (hc : CT own idx y cc' nL' rt' n) (hn : vs.length = n) {sk : List AV} (hsk : vs.reverse ++ vR 105 k :: st = sk) (hw : wgt st ≤ 8) (h1 : fr' + 1 ≤ fr) (h2 : 8 + (nL' + 11) + lo' ≤ lo) (h3 : u + mc' ≤ mc) (h4 : v + ms' ≤ ms) (kk : Xj own cc nL rt fr lo mc ms (u + mc') (v + ms') (pc + 3) ls (vI r :: st) M1 o M') : Xj own cc nL rt fr lo mc ms u v pc ls sk M o M' := xj_callT hM hd hq hc hn hsk hw h1 h2 h3 h4 kk
theorem xc_Ti0 {y : MethodName} {cc' : ByteArray} {nL' : Nat} {rt' : Option FieldType} {fr' lo' idx n k : Nat} {q : String × Nat × String × List Int32} {vs : List AV} {r : Int32} {M1 : Mem} (hM : Mt y cc' nL' rt' fr' lo' 0 0 (vR 105 k :: vs) M (.inl (some (vI r))) M1) (hd : decode cc pc = .ok (.invokevirtual idx, 3)) (hq : strL[k]? = some q) (hc : CT own idx y cc' nL' rt' n) (hn : vs.length = n) {sk : List AV} (hsk : vs.reverse ++ vR 105 k :: st = sk) (hw : wgt st ≤ 8) (h1 : fr' + 1 ≤ fr) (h2 : 8 + (nL' + 11) + lo' ≤ lo) (h3 : u ≤ mc) (h4 : v ≤ ms) (kk : Xj own cc nL rt fr lo mc ms u v (pc + 3) ls (vI r :: st) M1 o M') : Xj own cc nL rt fr lo mc ms u v pc ls sk M o M' := xj_callT hM hd hq hc hn hsk hw h1 h2 h3 h4 kk
theorem xc_Tb {y : MethodName} {cc' : ByteArray} {nL' : Nat} {rt' : Option FieldType} {fr' lo' mc' ms' idx n k : Nat} {q : String × Nat × String × List Int32} {vs : List AV} {r : Bool} {M1 : Mem} (hM : Mt y cc' nL' rt' fr' lo' mc' ms' (vR 105 k :: vs) M (.inl (some (vI (b2i r)))) M1) (hd : decode cc pc = .ok (.invokevirtual idx, 3)) (hq : strL[k]? = some q) (hc : CT own idx y cc' nL' rt' n) (hn : vs.length = n) {sk : List AV} (hsk : vs.reverse ++ vR 105 k :: st = sk) (hw : wgt st ≤ 8) (h1 : fr' + 1 ≤ fr) (h2 : 8 + (nL' + 11) + lo' ≤ lo) (h3 : u + mc' ≤ mc) (h4 : v + ms' ≤ ms) (kk : Xj own cc nL rt fr lo mc ms (u + mc') (v + ms') (pc + 3) ls (vI (b2i r) :: st) M1 o M') : Xj own cc nL rt fr lo mc ms u v pc ls sk M o M' := xj_callT hM hd hq hc hn hsk hw h1 h2 h3 h4 kk
theorem xc_Tb0 {y : MethodName} {cc' : ByteArray} {nL' : Nat} {rt' : Option FieldType} {fr' lo' idx n k : Nat} {q : String × Nat × String × List Int32} {vs : List AV} {r : Bool} {M1 : Mem} (hM : Mt y cc' nL' rt' fr' lo' 0 0 (vR 105 k :: vs) M (.inl (some (vI (b2i r)))) M1) (hd : decode cc pc = .ok (.invokevirtual idx, 3)) (hq : strL[k]? = some q) (hc : CT own idx y cc' nL' rt' n) (hn : vs.length = n) {sk : List AV} (hsk : vs.reverse ++ vR 105 k :: st = sk) (hw : wgt st ≤ 8) (h1 : fr' + 1 ≤ fr) (h2 : 8 + (nL' + 11) + lo' ≤ lo) (h3 : u ≤ mc) (h4 : v ≤ ms) (kk : Xj own cc nL rt fr lo mc ms u v (pc + 3) ls (vI (b2i r) :: st) M1 o M') : Xj own cc nL rt fr lo mc ms u v pc ls sk M o M' := xj_callT hM hd hq hc hn hsk hw h1 h2 h3 h4 kk
theorem xc_Tl {y : MethodName} {cc' : ByteArray} {nL' : Nat} {rt' : Option FieldType} {fr' lo' mc' ms' idx n k : Nat} {q : String × Nat × String × List Int32} {vs : List AV} {r : Int64} {M1 : Mem} (hM : Mt y cc' nL' rt' fr' lo' mc' ms' (vR 105 k :: vs) M (.inl (some (vL r))) M1) (hd : decode cc pc = .ok (.invokevirtual idx, 3)) (hq : strL[k]? = some q) (hc : CT own idx y cc' nL' rt' n) (hn : vs.length = n) {sk : List AV} (hsk : vs.reverse ++ vR 105 k :: st = sk) (hw : wgt st ≤ 8) (h1 : fr' + 1 ≤ fr) (h2 : 8 + (nL' + 11) + lo' ≤ lo) (h3 : u + mc' ≤ mc) (h4 : v + ms' ≤ ms) (kk : Xj own cc nL rt fr lo mc ms (u + mc') (v + ms') (pc + 3) ls (vL r :: st) M1 o M') : Xj own cc nL rt fr lo mc ms u v pc ls sk M o M' := xj_callT hM hd hq hc hn hsk hw h1 h2 h3 h4 kk
theorem xc_Tl0 {y : MethodName} {cc' : ByteArray} {nL' : Nat} {rt' : Option FieldType} {fr' lo' idx n k : Nat} {q : String × Nat × String × List Int32} {vs : List AV} {r : Int64} {M1 : Mem} (hM : Mt y cc' nL' rt' fr' lo' 0 0 (vR 105 k :: vs) M (.inl (some (vL r))) M1) (hd : decode cc pc = .ok (.invokevirtual idx, 3)) (hq : strL[k]? = some q) (hc : CT own idx y cc' nL' rt' n) (hn : vs.length = n) {sk : List AV} (hsk : vs.reverse ++ vR 105 k :: st = sk) (hw : wgt st ≤ 8) (h1 : fr' + 1 ≤ fr) (h2 : 8 + (nL' + 11) + lo' ≤ lo) (h3 : u ≤ mc) (h4 : v ≤ ms) (kk : Xj own cc nL rt fr lo mc ms u v (pc + 3) ls (vL r :: st) M1 o M') : Xj own cc nL rt fr lo mc ms u v pc ls sk M o M' := xj_callT hM hd hq hc hn hsk hw h1 h2 h3 h4 kk
theorem xc_Tv {y : MethodName} {cc' : ByteArray} {nL' : Nat} {rt' : Option FieldType} {fr' lo' mc' ms' idx n k : Nat} {q : String × Nat × String × List Int32} {vs : List AV} {M1 : Mem} (hM : Mt y cc' nL' rt' fr' lo' mc' ms' (vR 105 k :: vs) M (.inl (none)) M1) (hd : decode cc pc = .ok (.invokevirtual idx, 3)) (hq : strL[k]? = some q) (hc : CT own idx y cc' nL' rt' n) (hn : vs.length = n) {sk : List AV} (hsk : vs.reverse ++ vR 105 k :: st = sk) (hw : wgt st ≤ 8) (h1 : fr' + 1 ≤ fr) (h2 : 8 + (nL' + 11) + lo' ≤ lo) (h3 : u + mc' ≤ mc) (h4 : v + ms' ≤ ms) (kk : Xj own cc nL rt fr lo mc ms (u + mc') (v + ms') (pc + 3) ls (st) M1 o M') : Xj own cc nL rt fr lo mc ms u v pc ls sk M o M' := xj_callT hM hd hq hc hn hsk hw h1 h2 h3 h4 kk
theorem xc_Tv0 {y : MethodName} {cc' : ByteArray} {nL' : Nat} {rt' : Option FieldType} {fr' lo' idx n k : Nat} {q : String × Nat × String × List Int32} {vs : List AV} {M1 : Mem} (hM : Mt y cc' nL' rt' fr' lo' 0 0 (vR 105 k :: vs) M (.inl (none)) M1) (hd : decode cc pc = .ok (.invokevirtual idx, 3)) (hq : strL[k]? = some q) (hc : CT own idx y cc' nL' rt' n) (hn : vs.length = n) {sk : List AV} (hsk : vs.reverse ++ vR 105 k :: st = sk) (hw : wgt st ≤ 8) (h1 : fr' + 1 ≤ fr) (h2 : 8 + (nL' + 11) + lo' ≤ lo) (h3 : u ≤ mc) (h4 : v ≤ ms) (kk : Xj own cc nL rt fr lo mc ms u v (pc + 3) ls (st) M1 o M') : Xj own cc nL rt fr lo mc ms u v pc ls sk M o M' := xj_callT hM hd hq hc hn hsk hw h1 h2 h3 h4 kk
end XR
