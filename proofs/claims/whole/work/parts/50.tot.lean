/-! ===== the functions come to an answer, and what it is ===== -/
def Tot {α : Type} (o : Option α) (Q : α → Prop) : Prop := ∃ r, o = some r ∧ Q r
theorem Tot.mono {α : Type} {o : Option α} {Q Q' : α → Prop} (h : Tot o Q) (hq : ∀ r, Q r → Q' r) : Tot o Q' := by
  obtain ⟨r, h1, h2⟩ := h
  exact ⟨r, h1, hq r h2⟩
theorem tot_some {α : Type} {a : α} {Q : α → Prop} : Tot (some a) Q ↔ Q a := by
  constructor
  · rintro ⟨r, h1, h2⟩
    cases h1
    exact h2
  · exact fun h => ⟨a, rfl, h⟩
theorem tot_none {α : Type} {Q : α → Prop} : Tot none Q ↔ False := by
  constructor
  · rintro ⟨r, h1, -⟩
    cases h1
  · exact False.elim
theorem tot_eq {α : Type} {o : Option α} {a : α} {Q : α → Prop} (h : o = some a) (hq : Q a) : Tot o Q := ⟨a, h, hq⟩
theorem Tot.eq {α : Type} {o : Option α} {a : α} (h : Tot o (fun r => r = a)) : o = some a := by
  obtain ⟨r, h1, h2⟩ := h
  rw [h1, h2]
theorem tot_ite {α : Type} {c : Prop} [Decidable c] {x y : Option α} {Q : α → Prop} : Tot (if c then x else y) Q ↔ (c → Tot x Q) ∧ (¬ c → Tot y Q) := by
  by_cases h : c
  · rw [if_pos h]
    exact ⟨fun t => ⟨fun _ => t, fun n => absurd h n⟩, fun t => t.1 h⟩
  · rw [if_neg h]
    exact ⟨fun t => ⟨fun n => absurd n h, fun _ => t⟩, fun t => t.2 h⟩
theorem tot_in {α : Type} {c : Prop} [Decidable c] {x : Option α} {Q : α → Prop} : Tot (if c then x else none) Q ↔ c ∧ Tot x Q := by
  by_cases h : c
  · rw [if_pos h]
    exact ⟨fun t => ⟨h, t⟩, fun t => t.2⟩
  · rw [if_neg h, tot_none]
    exact ⟨False.elim, fun t => h t.1⟩
theorem tot_out {α : Type} {c : Prop} [Decidable c] {x : Option α} {Q : α → Prop} : Tot (if c then none else x) Q ↔ ¬ c ∧ Tot x Q := by
  by_cases h : c
  · rw [if_pos h, tot_none]
    exact ⟨False.elim, fun t => t.1 h⟩
  · rw [if_neg h]
    exact ⟨fun t => ⟨h, t⟩, fun t => t.2⟩
theorem tot_bd1 {α β : Type} {o : Option α} {f : α → Option β} {Q : β → Prop} : Tot (bd1 o f) Q ↔ Tot o (fun x => Tot (f x) Q) := by
  cases o with
  | none => exact ⟨fun h => absurd h tot_none.mp, fun h => absurd h tot_none.mp⟩
  | some x => exact (tot_some (a := x) (Q := fun y => Tot (f y) Q)).symm
theorem tot_bd2 {α β : Type} {o : Option (α × Mem)} {f : α → Mem → Option β} {Q : β → Prop} : Tot (bd2 o f) Q ↔ Tot o (fun x => Tot (f x.1 x.2) Q) := by
  cases o with
  | none => exact ⟨fun h => absurd h tot_none.mp, fun h => absurd h tot_none.mp⟩
  | some x => exact (tot_some (a := x) (Q := fun y => Tot (f y.1 y.2) Q)).symm
theorem tot_bdS {α β γ : Type} {o : Option (α ⊕ β)} {f : α → Option γ} {g : β → Option γ} {Q : γ → Prop} : Tot (bdS o f g) Q ↔ Tot o (Sum.elim (fun x => Tot (f x) Q) (fun y => Tot (g y) Q)) := by
  match o with
  | none => exact ⟨fun h => absurd h tot_none.mp, fun h => absurd h tot_none.mp⟩
  | some (.inl x) => exact (tot_some (a := Sum.inl x) (Q := Sum.elim (fun x => Tot (f x) Q) (fun y => Tot (g y) Q))).symm
  | some (.inr x) => exact (tot_some (a := Sum.inr x) (Q := Sum.elim (fun x => Tot (f x) Q) (fun y => Tot (g y) Q))).symm
theorem tot_thr {α β : Type} {o : Option ((α ⊕ Nat) × Mem)} {f : α → Mem → Option ((β ⊕ Nat) × Mem)} {Q : (β ⊕ Nat) × Mem → Prop} : Tot (thr o f) Q ↔ Tot o (fun p => Sum.elim (fun x => Tot (f x p.2) Q) (fun k => Q (.inr k, p.2)) p.1) := by
  match o with
  | none => exact ⟨fun h => absurd h tot_none.mp, fun h => absurd h tot_none.mp⟩
  | some (.inl x, m) => exact (tot_some (a := ((Sum.inl x : α ⊕ Nat), m)) (Q := fun p => Sum.elim (fun x => Tot (f x p.2) Q) (fun k => Q (.inr k, p.2)) p.1)).symm
  | some (.inr x, m) => exact (tot_some (a := ((Sum.inr x : β ⊕ Nat), m)) (Q := Q)).trans (tot_some (a := ((Sum.inr x : α ⊕ Nat), m)) (Q := fun p => Sum.elim (fun x => Tot (f x p.2) Q) (fun k => Q (.inr k, p.2)) p.1)).symm
/-- a loop: an invariant, and a number that goes down -/
theorem tot_loop {σ ρ : Type} {b : σ → Option (σ ⊕ ρ)} {Q : ρ → Prop} (I : σ → Prop) (μ : σ → Nat) (h : ∀ s, I s → Tot (b s) (Sum.elim (fun s2 => I s2 ∧ μ s2 < μ s) Q)) : ∀ s, I s → Tot (loopO b s) Q := by
  have key : ∀ n s, μ s < n → I s → Tot (loopO b s) Q := by
    intro n
    induction n with
    | zero => intro s hn; exact absurd hn (Nat.not_lt_zero _)
    | succ n ih =>
      intro s hn hI
      obtain ⟨r, h1, h2⟩ := h s hI
      match r, h1, h2 with
      | .inl s2, h1, h2 =>
        rw [loopO_in h1]
        exact ih s2 (by have := h2.2; omega) h2.1
      | .inr q, h1, h2 => exact ⟨q, loopO_out h1, h2⟩
  intro s hI
  exact key _ s (Nat.lt_succ_self _) hI
/-- a loop that counts up from k to n -/
theorem tot_for {σ ρ : Type} {b : σ → Option (σ ⊕ ρ)} {Q : ρ → Prop} (I : Nat → σ → Prop) (n : Nat) (h : ∀ k s, k < n → I k s → Tot (b s) (Sum.elim (fun s2 => I (k + 1) s2) Q)) (he : ∀ s, I n s → Tot (b s) (Sum.elim (fun _ => False) Q)) : ∀ k s, k ≤ n → I k s → Tot (loopO b s) Q := by
  intro k
  have key : ∀ d k s, n - k = d → k ≤ n → I k s → Tot (loopO b s) Q := by
    intro d
    induction d with
    | zero =>
      intro k s hd hk hI
      have : k = n := by omega
      subst this
      obtain ⟨r, h1, h2⟩ := he s hI
      match r, h1, h2 with
      | .inl _, _, h2 => exact h2.elim
      | .inr q, h1, h2 => exact ⟨q, loopO_out h1, h2⟩
    | succ d ih =>
      intro k s hd hk hI
      obtain ⟨r, h1, h2⟩ := h k s (by omega) hI
      match r, h1, h2 with
      | .inl s2, h1, h2 =>
        rw [loopO_in h1]
        exact ih (k + 1) s2 (by omega) (by omega) h2
      | .inr q, h1, h2 => exact ⟨q, loopO_out h1, h2⟩
  intro s hk hI
  exact key _ k s rfl hk hI
/-- nothing but these cells has changed -/
def Fr (K : List (Nat × Nat)) (m m' : Mem) : Prop := ∀ k i, (k, i) ∉ K → m' k i = m k i
theorem Fr.rf {K : List (Nat × Nat)} {m : Mem} : Fr K m m := fun _ _ _ => rfl
theorem Fr.tr {K : List (Nat × Nat)} {m m1 m2 : Mem} (h : Fr K m m1) (h2 : Fr K m1 m2) : Fr K m m2 := fun k i hk => (h2 k i hk).trans (h k i hk)
theorem Fr.mono {K K' : List (Nat × Nat)} {m m1 : Mem} (h : Fr K m m1) (hs : ∀ q ∈ K, q ∈ K') : Fr K' m m1 := fun k i hk => h k i (fun hq => hk (hs _ hq))
theorem Fr.wr {K : List (Nat × Nat)} {m m1 : Mem} {k i : Nat} (h : Fr K m m1) (hk : (k, i) ∈ K) (j : Nat) (x : Int32) : Fr K m (Jvm.Pilot.@@N@@.wr m1 k i j x) := by
  intro a b hab
  have hne : ¬ (a = k ∧ b = i) := fun e => hab (by rw [e.1, e.2]; exact hk)
  rw [← h a b hab]
  funext c
  unfold Jvm.Pilot.@@N@@.wr
  rw [if_neg (fun e => hne ⟨e.1, e.2.1⟩)]
theorem wr_eq (m : Mem) (k i j : Nat) (x : Int32) : wr m k i j x k i j = x := by unfold wr; rw [if_pos ⟨rfl, rfl, rfl⟩]
theorem wr_j {m : Mem} {k i j j' : Nat} {x : Int32} (h : ¬ j' = j) : wr m k i j x k i j' = m k i j' := by unfold wr; rw [if_neg (fun e => h e.2.2)]
theorem wr_k {m : Mem} {k i j a b c : Nat} {x : Int32} (h : ¬ a = k) : wr m k i j x a b c = m a b c := by unfold wr; rw [if_neg (fun e => h e.1)]
theorem wr_i {m : Mem} {k i j a b c : Nat} {x : Int32} (h : ¬ b = i) : wr m k i j x a b c = m a b c := by unfold wr; rw [if_neg (fun e => h e.2.1)]
theorem wr_if (m : Mem) (k i j j' : Nat) (x : Int32) : wr m k i j x k i j' = if j' = j then x else m k i j' := by
  unfold wr
  by_cases h : j' = j
  · rw [if_pos ⟨rfl, rfl, h⟩, if_pos h]
  · rw [if_neg (fun e => h e.2.2), if_neg h]
theorem inb_iff {x : Int32} {n : Nat} : inb x n = true ↔ 0 ≤ x.toInt ∧ x.toInt < n := decide_eq_true_iff
theorem inb_nI {k n : Nat} (h : k < n) (hn : n ≤ 1000000) : inb (nI k) n = true := by
  rw [inb_iff, nI_toInt (by omega)]
  omega
theorem leb_nI {k n : Nat} (h : k ≤ n) (hn : n ≤ 1000000) : leb (nI k) n = true := by
  refine decide_eq_true ?_
  rw [nI_toInt (by omega)]
  omega
theorem clamp_nI {k : Nat} (h : k ≤ 1000000) : (nI k).toNatClampNeg = k := nI_clamp (by omega)
theorem inb_of {x : Int32} {n : Nat} (h : inb x n = true) : ∃ k, k < n ∧ x = nI k := by
  obtain ⟨h1, h2⟩ := inb_iff.mp h
  have hlt := x.toInt_lt
  refine ⟨x.toInt.toNat, by omega, ?_⟩
  apply Int32.toInt_inj.mp
  rw [nI_toInt (by omega)]
  omega
theorem nI_sub {a b : Nat} (h : b ≤ a) : nI a - nI b = nI (a - b) := by
  have e : nI (a - b) + nI b = nI a := by rw [nI_add]; congr 1; omega
  rw [← e, Int32.add_sub_cancel]
theorem nI_mul (a b : Nat) : nI a * nI b = nI (a * b) := (Int32.ofNat_mul a b).symm
theorem nI_neg1 (a : Nat) : nI (a + 1) + (-1) = nI a := by
  rw [← nI_pred a, Int32.sub_eq_add_neg]
theorem m1_ne {k : Nat} (h : k ≤ 1000000) : ¬ nI k = -1 := by
  intro e
  have := congrArg Int32.toInt e
  rw [nI_toInt (by omega)] at this
  have h2 : (-1 : Int32).toInt = -1 := by decide
  omega
