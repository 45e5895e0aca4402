/-! CODES: a sum or test as a list of signs (kind, number), values first -/
/-- a sign on a stack of sorts (true: a test's 0 or 1) -/
def cs (w : Nat → Bool) (p : Nat × Nat) (ts : List Bool) : Option (List Bool) :=
  if p.1 = 31 then (if p.2 ≤ 99999 then some (false :: ts) else none)
  else if p.1 = 47 then (if w p.2 = true then some (false :: ts) else none)
  else if p.1 = 18 then (match ts with | true :: r => some (true :: r) | _ => none)
  else if 36 ≤ p.1 ∧ p.1 ≤ 39 then (match ts with | false :: false :: r => some (false :: r) | _ => none)
  else if 40 ≤ p.1 ∧ p.1 ≤ 44 then (match ts with | false :: false :: r => some (true :: r) | _ => none)
  else if p.1 = 16 ∨ p.1 = 17 then (match ts with | true :: true :: r => some (true :: r) | _ => none)
  else none
def chk (w : Nat → Bool) : List (Nat × Nat) → List Bool → Option (List Bool)
  | [], ts => some ts
  | p :: c, ts => (cs w p ts).bind (chk w c)
theorem chk_app {w : Nat → Bool} (a b : List (Nat × Nat)) (ts : List Bool) : chk w (a ++ b) ts = (chk w a ts).bind (chk w b) := by
  induction a generalizing ts with
  | nil => rfl
  | cons p a ih =>
    show (cs w p ts).bind (chk w (a ++ b)) = ((cs w p ts).bind (chk w a)).bind (chk w b)
    cases cs w p ts with
    | none => rfl
    | some ts' => exact ih ts'
def isS (w : Nat → Bool) (c : List (Nat × Nat)) : Prop := ∀ ts, chk w c ts = some (false :: ts)
def isT (w : Nat → Bool) (c : List (Nat × Nat)) : Prop := ∀ ts, chk w c ts = some (true :: ts)
def opv (k : Nat) (a b : Int64) : Int64 :=
  if k = 36 then a + b else if k = 37 then a - b else if k = 38 then a * b else if k = 39 then (if b = 0 then 0 else a / b)
  else if k = 40 then (if a < b then 1 else 0) else if k = 41 then (if a ≤ b then 1 else 0) else if k = 42 then (if a = b then 1 else 0)
  else if k = 43 then (if b ≤ a then 1 else 0) else if k = 44 then (if b < a then 1 else 0) else if k = 17 then a &&& b else a ||| b
def es (env : Nat → Int64) (p : Nat × Nat) (st : List Int64) : List Int64 :=
  if p.1 = 31 then (nI p.2).toInt64 :: st
  else if p.1 = 47 then env p.2 :: st
  else if p.1 = 18 then (match st with | a :: r => (1 - a) :: r | [] => [])
  else match st with | b :: a :: r => opv p.1 a b :: r | _ => []
def ev (env : Nat → Int64) : List (Nat × Nat) → List Int64 → List Int64
  | [], st => st
  | p :: c, st => ev env c (es env p st)
theorem ev_app {env : Nat → Int64} (a b : List (Nat × Nat)) (st : List Int64) : ev env (a ++ b) st = ev env b (ev env a st) := by
  induction a generalizing st with
  | nil => rfl
  | cons p a ih => exact ih _
/-- the stack's values are of the sorts told -/
def tys : List Bool → List Int64 → Prop
  | [], [] => True
  | b :: ts, v :: st => (b = true → v = 0 ∨ v = 1) ∧ tys ts st
  | _, _ => False
theorem tys_len : ∀ {ts : List Bool} {st : List Int64}, tys ts st → ts.length = st.length
  | [], [], _ => rfl
  | _ :: _, _ :: _, h => congrArg (· + 1) (tys_len h.2)
  | [], _ :: _, h => h.elim
  | _ :: _, [], h => h.elim
theorem tys_1 {b : Bool} {ts : List Bool} {st : List Int64} (h : tys (b :: ts) st) : ∃ v r, st = v :: r ∧ (b = true → v = 0 ∨ v = 1) ∧ tys ts r := by
  cases st with
  | nil => exact h.elim
  | cons v r => exact ⟨v, r, rfl, h.1, h.2⟩
theorem cs_cases {w : Nat → Bool} {p : Nat × Nat} {ts ts' : List Bool} (h : cs w p ts = some ts') :
    (p.1 = 31 ∧ p.2 ≤ 99999 ∧ ts' = false :: ts) ∨ (p.1 = 47 ∧ w p.2 = true ∧ ts' = false :: ts) ∨
    (p.1 = 18 ∧ ∃ r, ts = true :: r ∧ ts' = true :: r) ∨ (36 ≤ p.1 ∧ p.1 ≤ 39 ∧ ∃ r, ts = false :: false :: r ∧ ts' = false :: r) ∨
    (40 ≤ p.1 ∧ p.1 ≤ 44 ∧ ∃ r, ts = false :: false :: r ∧ ts' = true :: r) ∨ ((p.1 = 16 ∨ p.1 = 17) ∧ ∃ r, ts = true :: true :: r ∧ ts' = true :: r) := by
  unfold cs at h
  by_cases h1 : p.1 = 31
  · rw [if_pos h1] at h
    by_cases h2 : p.2 ≤ 99999
    · rw [if_pos h2] at h
      exact Or.inl ⟨h1, h2, (Option.some.inj h).symm⟩
    · rw [if_neg h2] at h; cases h
  rw [if_neg h1] at h
  by_cases h3 : p.1 = 47
  · rw [if_pos h3] at h
    by_cases h2 : w p.2 = true
    · rw [if_pos h2] at h
      exact Or.inr (Or.inl ⟨h3, h2, (Option.some.inj h).symm⟩)
    · rw [if_neg h2] at h; cases h
  rw [if_neg h3] at h
  by_cases h4 : p.1 = 18
  · rw [if_pos h4] at h
    match ts, h with
    | true :: r, h => exact Or.inr (Or.inr (Or.inl ⟨h4, r, rfl, (Option.some.inj h).symm⟩))
  rw [if_neg h4] at h
  by_cases h5 : 36 ≤ p.1 ∧ p.1 ≤ 39
  · rw [if_pos h5] at h
    match ts, h with
    | false :: false :: r, h => exact Or.inr (Or.inr (Or.inr (Or.inl ⟨h5.1, h5.2, r, rfl, (Option.some.inj h).symm⟩)))
  rw [if_neg h5] at h
  by_cases h6 : 40 ≤ p.1 ∧ p.1 ≤ 44
  · rw [if_pos h6] at h
    match ts, h with
    | false :: false :: r, h => exact Or.inr (Or.inr (Or.inr (Or.inr (Or.inl ⟨h6.1, h6.2, r, rfl, (Option.some.inj h).symm⟩))))
  rw [if_neg h6] at h
  by_cases h7 : p.1 = 16 ∨ p.1 = 17
  · rw [if_pos h7] at h
    match ts, h with
    | true :: true :: r, h => exact Or.inr (Or.inr (Or.inr (Or.inr (Or.inr ⟨h7, r, rfl, (Option.some.inj h).symm⟩))))
  rw [if_neg h7] at h
  cases h
theorem bit_and {a b : Int64} (ha : a = 0 ∨ a = 1) (hb : b = 0 ∨ b = 1) : a &&& b = 0 ∨ a &&& b = 1 := by
  rcases ha with rfl | rfl <;> rcases hb with rfl | rfl <;> decide
theorem bit_or {a b : Int64} (ha : a = 0 ∨ a = 1) (hb : b = 0 ∨ b = 1) : a ||| b = 0 ∨ a ||| b = 1 := by
  rcases ha with rfl | rfl <;> rcases hb with rfl | rfl <;> decide
theorem bit_not {a : Int64} (ha : a = 0 ∨ a = 1) : 1 - a = 0 ∨ 1 - a = 1 := by
  rcases ha with rfl | rfl <;> decide
theorem if01 {c : Prop} [Decidable c] : (if c then (1 : Int64) else 0) = 0 ∨ (if c then (1 : Int64) else 0) = 1 := by
  by_cases h : c
  · rw [if_pos h]; exact Or.inr rfl
  · rw [if_neg h]; exact Or.inl rfl
theorem opv_cmp {k : Nat} {a b : Int64} (h1 : 40 ≤ k) (h2 : k ≤ 44) : opv k a b = 0 ∨ opv k a b = 1 := by
  have h : k = 40 ∨ k = 41 ∨ k = 42 ∨ k = 43 ∨ k = 44 := by omega
  rcases h with rfl | rfl | rfl | rfl | rfl <;> exact if01
theorem es_tys {w : Nat → Bool} {env : Nat → Int64} {p : Nat × Nat} {ts ts' : List Bool} {st : List Int64} (h : cs w p ts = some ts') (ht : tys ts st) : tys ts' (es env p st) := by
  rcases cs_cases h with ⟨h1, h2, rfl⟩ | ⟨h1, h2, rfl⟩ | ⟨h1, r, rfl, rfl⟩ | ⟨h1, h2, r, rfl, rfl⟩ | ⟨h1, h2, r, rfl, rfl⟩ | ⟨h1, r, rfl, rfl⟩
  · unfold es; rw [if_pos h1]; exact ⟨fun q => (by cases q), ht⟩
  · unfold es; rw [if_neg (by omega), if_pos h1]; exact ⟨fun q => (by cases q), ht⟩
  · obtain ⟨v, s, rfl, hv, hs⟩ := tys_1 ht
    unfold es; rw [if_neg (by omega), if_neg (by omega), if_pos h1]
    exact ⟨fun _ => bit_not (hv rfl), hs⟩
  · obtain ⟨v, s, rfl, hv, hs⟩ := tys_1 ht
    obtain ⟨u, s', rfl, hu, hs'⟩ := tys_1 hs
    unfold es; rw [if_neg (by omega), if_neg (by omega), if_neg (by omega)]
    exact ⟨fun q => (by cases q), hs'⟩
  · obtain ⟨v, s, rfl, hv, hs⟩ := tys_1 ht
    obtain ⟨u, s', rfl, hu, hs'⟩ := tys_1 hs
    unfold es; rw [if_neg (by omega), if_neg (by omega), if_neg (by omega)]
    exact ⟨fun _ => opv_cmp h1 h2, hs'⟩
  · obtain ⟨v, s, rfl, hv, hs⟩ := tys_1 ht
    obtain ⟨u, s', rfl, hu, hs'⟩ := tys_1 hs
    unfold es; rw [if_neg (by omega), if_neg (by omega), if_neg (by omega)]
    refine ⟨fun _ => ?_, hs'⟩
    rcases h1 with h1 | h1 <;> rw [h1]
    · exact bit_or (hu rfl) (hv rfl)
    · exact bit_and (hu rfl) (hv rfl)
theorem ev_tys {w : Nat → Bool} {env : Nat → Int64} : ∀ (c : List (Nat × Nat)) {ts ts' : List Bool} {st : List Int64}, chk w c ts = some ts' → tys ts st → tys ts' (ev env c st)
  | [], ts, ts', st, h, ht => by rw [show ts' = ts from (Option.some.inj h).symm]; exact ht
  | p :: c, ts, ts', st, h, ht => by
    have h' : (cs w p ts).bind (chk w c) = some ts' := h
    cases hc : cs w p ts with
    | none => rw [hc] at h'; cases h'
    | some t1 =>
      rw [hc] at h'
      exact ev_tys c h' (es_tys hc ht)
/-- a sign's step hangs on the words that it names alone -/
theorem es_congr {e1 e2 : Nat → Int64} {p : Nat × Nat} {st : List Int64} (h : p.1 = 47 → e1 p.2 = e2 p.2) : es e1 p st = es e2 p st := by
  unfold es
  by_cases h1 : p.1 = 31
  · rw [if_pos h1, if_pos h1]
  · rw [if_neg h1, if_neg h1]
    by_cases h2 : p.1 = 47
    · rw [if_pos h2, if_pos h2, h h2]
    · rw [if_neg h2, if_neg h2]
theorem ev_congr {e1 e2 : Nat → Int64} : ∀ (c : List (Nat × Nat)) {st : List Int64}, (∀ p, p ∈ c → p.1 = 47 → e1 p.2 = e2 p.2) → ev e1 c st = ev e2 c st
  | [], _, _ => rfl
  | p :: c, st, h => by
    show ev e1 c (es e1 p st) = ev e2 c (es e2 p st)
    rw [es_congr (h p (List.mem_cons_self ..))]
    exact ev_congr c (fun q hq => h q (List.mem_cons_of_mem _ hq))
/-- how many values a code has -/
def nvs : List (Nat × Nat) → Nat
  | [] => 0
  | p :: c => (if p.1 = 31 ∨ p.1 = 47 then 1 else 0) + nvs c
theorem nvs_app (a b : List (Nat × Nat)) : nvs (a ++ b) = nvs a + nvs b := by
  induction a with
  | nil => exact (Nat.zero_add _).symm
  | cons p a ih =>
    show _ + nvs (a ++ b) = _ + nvs a + nvs b
    rw [ih, Nat.add_assoc]
theorem es_len {w : Nat → Bool} {env : Nat → Int64} {p : Nat × Nat} {ts ts' : List Bool} {st : List Int64} (h : cs w p ts = some ts') (ht : tys ts st) : (es env p st).length ≤ st.length + (if p.1 = 31 ∨ p.1 = 47 then 1 else 0) := by
  have e1 := tys_len ht
  have e2 := tys_len (es_tys (env := env) h ht)
  rcases cs_cases h with ⟨h1, h2, rfl⟩ | ⟨h1, h2, rfl⟩ | ⟨h1, r, rfl, rfl⟩ | ⟨h1, h2, r, rfl, rfl⟩ | ⟨h1, h2, r, rfl, rfl⟩ | ⟨h1, r, rfl, rfl⟩
  · rw [if_pos (Or.inl h1)]; simp only [List.length_cons] at e1 e2; omega
  · rw [if_pos (Or.inr h1)]; simp only [List.length_cons] at e1 e2; omega
  all_goals simp only [List.length_cons] at e1 e2; omega
/-- what a code is worth -/
def evv (env : Nat → Int64) (c : List (Nat × Nat)) : Int64 := (ev env c []).headD 0
theorem evv_T {w : Nat → Bool} {env : Nat → Int64} {c : List (Nat × Nat)} (h : isT w c) : ev env c [] = [evv env c] ∧ (evv env c = 0 ∨ evv env c = 1) := by
  have := ev_tys (env := env) c (h []) (st := []) trivial
  obtain ⟨v, r, e, hv, hr⟩ := tys_1 this
  cases r with
  | cons a b => exact hr.elim
  | nil =>
    unfold evv
    rw [e]
    exact ⟨rfl, hv rfl⟩
theorem evv_S {w : Nat → Bool} {env : Nat → Int64} {c : List (Nat × Nat)} (h : isS w c) : ev env c [] = [evv env c] := by
  have := ev_tys (env := env) c (h []) (st := []) trivial
  obtain ⟨v, r, e, hv, hr⟩ := tys_1 this
  cases r with
  | cons a b => exact hr.elim
  | nil =>
    unfold evv
    rw [e]
    rfl
