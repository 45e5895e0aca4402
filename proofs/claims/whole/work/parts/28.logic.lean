/-! A LOGIC FOR THE FUNCTIONS: zwp o Q: o answers, and its answer has Q -/
def zwp {β : Type _} (o : Option β) (Q : β → Prop) : Prop := ∃ b, o = some b ∧ Q b
theorem zwp_some {β : Type _} {b : β} {Q : β → Prop} : zwp (some b) Q ↔ Q b := by
  constructor
  · rintro ⟨b', h, hq⟩
    cases h
    exact hq
  · exact fun h => ⟨b, rfl, h⟩
theorem zwp_let {α : Type _} {β : Type _} {e : α} {k : α → Option β} {Q : β → Prop} : zwp (zlet e k) Q ↔ ∀ x, x = e → zwp (k x) Q := by
  constructor
  · intro h x hx
    subst hx
    exact h
  · exact fun h => h e rfl
theorem zwp_letE {α : Type _} {β : Type _} {e : α} {k : α → Option β} {Q : β → Prop} : zwp (zlet e k) Q ↔ zwp (k e) Q := Iff.rfl
theorem zwp_gd {β : Type _} {c : Bool} {k : Option β} {Q : β → Prop} : zwp (zgd c k) Q ↔ c = true ∧ zwp k Q := by
  unfold zgd
  by_cases hc : c = true
  · rw [if_pos hc]
    exact ⟨fun h => ⟨hc, h⟩, fun h => h.2⟩
  · rw [if_neg hc]
    constructor
    · rintro ⟨b, h, -⟩
      cases h
    · exact fun h => absurd h.1 hc
theorem zwp_b1 {α : Type _} {β : Type _} {o : Option α} {k : α → Option β} {Q : β → Prop} : zwp (zb1 o k) Q ↔ zwp o (fun a => zwp (k a) Q) := by
  cases o with
  | none => exact ⟨fun ⟨_, h, _⟩ => (by cases h), fun ⟨_, h, _⟩ => (by cases h)⟩
  | some a =>
    rw [zwp_some]
    exact Iff.rfl
theorem zwp_b {α : Type _} {β : Type _} {o : Option (α × zS)} {k : α → zS → Option β} {Q : β → Prop} : zwp (zb o k) Q ↔ zwp o (fun a => zwp (k a.1 a.2) Q) := by
  cases o with
  | none => exact ⟨fun ⟨_, h, _⟩ => (by cases h), fun ⟨_, h, _⟩ => (by cases h)⟩
  | some a =>
    rw [zwp_some]
    exact Iff.rfl
theorem zwp_ite {β : Type _} {c : Prop} [Decidable c] {a b : Option β} {Q : β → Prop} : zwp (if c then a else b) Q ↔ (c → zwp a Q) ∧ (¬ c → zwp b Q) := by
  by_cases hc : c
  · rw [if_pos hc]
    exact ⟨fun h => ⟨fun _ => h, fun n => absurd hc n⟩, fun h => h.1 hc⟩
  · rw [if_neg hc]
    exact ⟨fun h => ⟨fun p => absurd p hc, fun _ => h⟩, fun h => h.2 hc⟩
theorem zwp_mono {β : Type _} {o : Option β} {P Q : β → Prop} (h : zwp o P) (hpq : ∀ b, P b → Q b) : zwp o Q := by
  obtain ⟨b, h1, h2⟩ := h
  exact ⟨b, h1, hpq b h2⟩
theorem zwp_eq {β : Type _} {o : Option β} {b : β} {Q : β → Prop} (h : o = some b) (hq : Q b) : zwp o Q := ⟨b, h, hq⟩
/-! loops -/
theorem lpn_more {α : Type _} {β : Type _} {f : α → Option (α ⊕ β)} : ∀ (n : Nat) (a : α) (e : β) (m : Nat), lpn f n a = some e → n ≤ m → lpn f m a = some e := by
  intro n
  induction n with
  | zero => intro a e m h; cases h
  | succ n ih =>
    intro a e m h hm
    obtain ⟨m', rfl⟩ : ∃ m', m = m' + 1 := ⟨m - 1, by omega⟩
    rcases lpn_succ h with ⟨a1, h1, h2⟩ | h1
    · show (match f a with
        | none => none
        | some (.inl a') => lpn f m' a'
        | some (.inr b) => some b) = some e
      rw [h1]
      exact ih a1 e m' h2 (by omega)
    · show (match f a with
        | none => none
        | some (.inl a') => lpn f m' a'
        | some (.inr b) => some b) = some e
      rw [h1]
theorem lp_of {α : Type _} {β : Type _} {f : α → Option (α ⊕ β)} {n : Nat} {a : α} {e : β} (h : lpn f n a = some e) : lp f a = some e := by
  have hx : ∃ (b : β) (n : Nat), lpn f n a = some b := ⟨e, n, h⟩
  unfold lp
  rw [dif_pos hx]
  obtain ⟨m, hm⟩ := Classical.choose_spec hx
  have h1 := lpn_more n a e (n + m) h (by omega)
  have h2 := lpn_more m a _ (n + m) hm (by omega)
  rw [← h2, h1]
/-- a step of a loop -/
theorem lp_go {α : Type _} {β : Type _} {f : α → Option (α ⊕ β)} {a a' : α} {e : β} (h : f a = some (.inl a')) (h2 : lp f a' = some e) : lp f a = some e := by
  obtain ⟨n, hn⟩ := lp_some h2
  refine lp_of (n := n + 1) ?_
  show (match f a with
    | none => none
    | some (.inl a') => lpn f n a'
    | some (.inr b) => some b) = some e
  rw [h]
  exact hn
theorem lp_stop {α : Type _} {β : Type _} {f : α → Option (α ⊕ β)} {a : α} {e : β} (h : f a = some (.inr e)) : lp f a = some e := by
  refine lp_of (n := 1) ?_
  show (match f a with
    | none => none
    | some (.inl a') => lpn f 0 a'
    | some (.inr b) => some b) = some e
  rw [h]
/-- the rule for a loop: an invariant, a number that falls -/
theorem zwp_lp {α : Type _} {β : Type _} {f : α → Option (α ⊕ β)} {Q : β → Prop} (I : α → Prop) (μ : α → Nat) (hs : ∀ a, I a → zwp (f a) (fun s => (∀ a', s = .inl a' → I a' ∧ μ a' < μ a) ∧ ∀ b, s = .inr b → Q b)) {a : α} (h : I a) : zwp (lp f a) Q := by
  have key : ∀ (n : Nat) (a : α), μ a < n → I a → zwp (lp f a) Q := by
    intro n
    induction n with
    | zero => intro a hn; omega
    | succ n ih =>
      intro a hn hI
      obtain ⟨s, h1, h2, h3⟩ := hs a hI
      cases s with
      | inl a' =>
        obtain ⟨hI', hm⟩ := h2 a' rfl
        obtain ⟨e, he, hq⟩ := ih a' (by omega) hI'
        exact ⟨e, lp_go h1 he, hq⟩
      | inr b => exact ⟨b, lp_stop h1, h3 b rfl⟩
  exact key (μ a + 1) a (Nat.lt_succ_self _) h
theorem zwp_inl {α : Type _} {β : Type _} {a : α} {P : α → Prop} {Q : β → Prop} (h : P a) : (∀ a', (.inl a : α ⊕ β) = .inl a' → P a') ∧ ∀ b, (.inl a : α ⊕ β) = .inr b → Q b := ⟨fun a' e => (by cases e; exact h), fun b e => (by cases e)⟩
theorem zwp_inr {α : Type _} {β : Type _} {b : β} {P : α → Prop} {Q : β → Prop} (h : Q b) : (∀ a', (.inr b : α ⊕ β) = .inl a' → P a') ∧ ∀ b', (.inr b : α ⊕ β) = .inr b' → Q b' := ⟨fun a' e => (by cases e), fun b' e => (by cases e; exact h)⟩
/-! numbers -/
theorem zin_iff {i : Int32} {n : Nat} : zin i n = true ↔ 0 ≤ i.toInt ∧ i.toInt < n := by
  unfold zin
  exact decide_eq_true_iff
theorem zbl_iff {x : Int32} : zbl x = true ↔ x = 0 ∨ x = 1 := by
  unfold zbl
  exact decide_eq_true_iff
theorem z_tn {i : Int32} (h : 0 ≤ i.toInt) : (i.toNatClampNeg : Int) = i.toInt := by
  show ((i.toInt.toNat : Nat) : Int) = i.toInt
  omega
theorem z_add {x y : Int32} (h1 : -2147483648 ≤ x.toInt + y.toInt) (h2 : x.toInt + y.toInt < 2147483648) : (x + y).toInt = x.toInt + y.toInt := by
  rw [Int32.toInt_add]
  simp only [Int.bmod_def]
  omega
theorem z_sub {x y : Int32} (h1 : -2147483648 ≤ x.toInt - y.toInt) (h2 : x.toInt - y.toInt < 2147483648) : (x - y).toInt = x.toInt - y.toInt := by
  rw [Int32.toInt_sub]
  simp only [Int.bmod_def]
  omega
theorem z_mul {x y : Int32} (h1 : -2147483648 ≤ x.toInt * y.toInt) (h2 : x.toInt * y.toInt < 2147483648) : (x * y).toInt = x.toInt * y.toInt := by
  rw [Int32.toInt_mul]
  simp only [Int.bmod_def]
  omega
theorem z_lt {x y : Int32} : x < y ↔ x.toInt < y.toInt := Int32.lt_iff_toInt_lt
theorem z_le {x y : Int32} : x ≤ y ↔ x.toInt ≤ y.toInt := Int32.le_iff_toInt_le
theorem z_eq {x y : Int32} : x = y ↔ x.toInt = y.toInt := Int32.toInt_inj.symm
theorem z_rng (x : Int32) : -2147483648 ≤ x.toInt ∧ x.toInt < 2147483648 := ⟨Int32.le_toInt x, Int32.toInt_lt x⟩
theorem zI_at {S : zS} {k i a b : Nat} {x : Int32} : (zI S k i x).1 a b = if a = k ∧ b = i then x else S.1 a b := rfl
theorem zI_l {S : zS} {k i : Nat} {x : Int32} : (zI S k i x).2 = S.2 := rfl
theorem zJ_i {S : zS} {k i : Nat} {x : Int64} : (zJ S k i x).1 = S.1 := rfl
theorem zJ_at {S : zS} {k i a b : Nat} {x : Int64} : (zJ S k i x).2 a b = if a = k ∧ b = i then x else S.2 a b := rfl
