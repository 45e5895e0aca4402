/-! A TEXT READ, as it must be: tokens by number; sums and tests out of them -/
/-- of token i its kind, its value, its place; which words are values -/
abbrev TK : Type := (Nat → Nat) × (Nat → Nat) × (Nat → Nat) × (Nat → Bool)
/-- a fault (its sort, its place), or: the next token, how many values and comparisons, the code -/
abbrev PR : Type := (Nat × Nat) ⊕ (Nat × Nat × List (Nat × Nat))
def prB (r : PR) (f : Nat → Nat → List (Nat × Nat) → PR) : PR := match r with
  | .inl e => .inl e
  | .inr p => f p.1 p.2.1 p.2.2
def vlE (X : TK) (i : Nat) : Nat × Nat := if X.1 i = 31 then (31, X.2.1 i) else (47, X.1 i)
def valS (X : TK) (i k : Nat) : PR := if X.1 i = 32 then .inl (1, X.2.2.1 i) else if X.1 i = 31 ∨ X.2.2.2 (X.1 i) = true then (if 60 ≤ k then .inl (3, X.2.2.1 i) else .inr (i + 1, k + 1, [vlE X i])) else .inl (0, X.2.2.1 i)
def trmL (X : TK) : Nat → Nat → Nat → List (Nat × Nat) → PR
  | 0, i, k, c => .inr (i, k, c)
  | n + 1, i, k, c => if X.1 i = 38 ∨ X.1 i = 39 then prB (valS X (i + 1) k) (fun j k' c' => trmL X n j k' (c ++ (c' ++ [(X.1 i, 0)]))) else .inr (i, k, c)
def trmS (X : TK) (i k : Nat) : PR := prB (valS X i k) (fun j k' c => trmL X 400 j k' c)
def jnC (jn : Nat) (c : List (Nat × Nat)) : List (Nat × Nat) := if jn = 48 then c else c ++ [(jn, 0)]
def sumJ (X : TK) : Nat → Nat → Nat → Nat → List (Nat × Nat) → PR
  | 0, _, i, k, c => .inr (i, k, c)
  | n + 1, jn, i, k, c => prB (trmS X i k) (fun j k' c' => if X.1 j = 36 ∨ X.1 j = 37 then sumJ X n (X.1 j) (j + 1) k' (c ++ jnC jn c') else .inr (j, k', c ++ jnC jn c'))
def sumS (X : TK) (i k : Nat) : PR := sumJ X 400 48 i k []
def cmpS (X : TK) (i k : Nat) : PR := prB (sumS X i k) (fun j k1 c1 => if 40 ≤ X.1 j ∧ X.1 j ≤ 44 then (if 60 ≤ k1 then .inl (3, X.2.2.1 j) else prB (sumS X (j + 1) (k1 + 1)) (fun j2 k2 c2 => .inr (j2, k2, c1 ++ (c2 ++ [(X.1 j, 0)])))) else .inl (0, X.2.2.1 j))
def aoC (b : Bool) (op : Nat) (c : List (Nat × Nat)) : List (Nat × Nat) := if b = true then c ++ [(op, 0)] else c
/-- facts (false) and tests (true): how deep, from where; whether an and, an or waits -/
def psF (X : TK) : Nat → Bool → Nat → Nat → Nat → Bool → Bool → Option PR
  | 0, _, _, _, _, _, _ => none
  | n + 1, false, d, i, k, _, _ =>
    if X.1 i = 18 then (if d < 10 then (psF X n false (d + 1) (i + 1) k false false).bind (fun r => some (prB r (fun j k' c => .inr (j, k', c ++ [(18, 0)])))) else some (.inl (2, X.2.2.1 i)))
    else if X.1 i = 34 then (if d < 10 then (psF X n true (d + 1) (i + 1) k false false).bind (fun r => some (prB r (fun j k' c => if X.1 j = 35 then .inr (j + 1, k', c) else .inl (0, X.2.2.1 j)))) else some (.inl (2, X.2.2.1 i)))
    else some (cmpS X i k)
  | n + 1, true, d, i, k, a, o => (psF X n false d i k false false).bind (fun r => match r with
    | .inl e => some (.inl e)
    | .inr p => if X.1 p.1 = 17 then (psF X n true d (p.1 + 1) p.2.1 true o).bind (fun r => some (prB r (fun j k' c' => .inr (j, k', aoC a 17 p.2.2 ++ c'))))
      else if X.1 p.1 = 16 then (psF X n true d (p.1 + 1) p.2.1 false true).bind (fun r => some (prB r (fun j k' c' => .inr (j, k', aoC o 16 (aoC a 17 p.2.2) ++ c'))))
      else some (.inr (p.1, p.2.1, aoC o 16 (aoC a 17 p.2.2))))
/-- what tokens are like -/
def okX (X : TK) (m : Nat) : Prop := m ≤ 400 ∧ (∀ i, X.1 i = 46 ↔ m ≤ i) ∧ (∀ i, X.1 i = 31 → X.2.1 i ≤ 99999) ∧ (∀ i, X.2.2.1 i ≤ X.2.2.1 (i + 1)) ∧ (∀ i, X.2.2.1 i ≤ 400) ∧ (∀ i, X.1 i = 18 → X.2.2.1 i + 3 ≤ X.2.2.1 (i + 1)) ∧ (X.2.2.2 = wB ∨ X.2.2.2 = wR) ∧ ∀ i, X.1 i ≤ 46 ∧ X.2.1 i ≤ 99999
theorem w_lt {X : TK} {m : Nat} (h : okX X m) {q : Nat} (hq : X.2.2.2 q = true) : q ≤ 25 := by
  rcases h.2.2.2.2.2.2.1 with e | e
  · rw [e] at hq; have := of_decide_eq_true hq; omega
  · rw [e] at hq; have := of_decide_eq_true hq; omega
theorem prB_inr {r : PR} {f : Nat → Nat → List (Nat × Nat) → PR} {q : Nat × Nat × List (Nat × Nat)} (h : prB r f = .inr q) : ∃ j k c, r = .inr (j, k, c) ∧ f j k c = .inr q := by
  cases r with
  | inl e => cases h
  | inr p => exact ⟨p.1, p.2.1, p.2.2, rfl, h⟩
/-- a sum read -/
def gS (X : TK) (m i k j k' : Nat) (c : List (Nat × Nat)) : Prop := i < j ∧ j ≤ m ∧ k < k' ∧ k' ≤ 60 ∧ isS X.2.2.2 c ∧ c.length + 1 ≤ 2 * (k' - k) ∧ c.length ≤ j - i ∧ nvs c ≤ k' - k
theorem gS_val {X : TK} {m i k j k' : Nat} {c : List (Nat × Nat)} (hX : okX X m) (h : valS X i k = .inr (j, k', c)) : gS X m i k j k' c ∧ j = i + 1 := by
  unfold valS at h
  by_cases h1 : X.1 i = 32
  · rw [if_pos h1] at h; cases h
  · rw [if_neg h1] at h
    by_cases h2 : X.1 i = 31 ∨ X.2.2.2 (X.1 i) = true
    · rw [if_pos h2] at h
      by_cases h3 : 60 ≤ k
      · rw [if_pos h3] at h; cases h
      · rw [if_neg h3] at h
        have h' : (i + 1, k + 1, [vlE X i]) = (j, k', c) := Sum.inr.inj h
        have e1 : i + 1 = j := congrArg (·.1) h'
        have e2 : k + 1 = k' := congrArg (·.2.1) h'
        have e3 : [vlE X i] = c := congrArg (·.2.2) h'
        subst e1 e2 e3
        have hi : i < m := by
          apply Classical.byContradiction
          intro q
          have h46 := (hX.2.1 i).mpr (by omega)
          rcases h2 with h2 | h2
          · omega
          · have := w_lt hX h2; omega
        refine ⟨⟨by omega, by omega, by omega, by omega, fun ts => ?_, ?_, ?_, ?_⟩, rfl⟩
        · unfold vlE
          by_cases y : X.1 i = 31
          · rw [if_pos y]
            show (cs X.2.2.2 (31, X.2.1 i) ts).bind (chk X.2.2.2 []) = _
            unfold cs
            rw [if_pos (rfl : (31, X.2.1 i).1 = 31), if_pos (show (31, X.2.1 i).2 ≤ 99999 from hX.2.2.1 i y)]; rfl
          · rw [if_neg y]
            have h4 : X.2.2.2 (X.1 i) = true := h2.resolve_left y
            show (cs X.2.2.2 (47, X.1 i) ts).bind (chk X.2.2.2 []) = _
            unfold cs
            rw [if_neg (show ¬ (47, X.1 i).1 = 31 by show ¬ 47 = 31; decide), if_pos (rfl : (47, X.1 i).1 = 47), if_pos (show X.2.2.2 (47, X.1 i).2 = true from h4)]; rfl
        · show 1 + 1 ≤ _; omega
        · show 1 ≤ _; omega
        · unfold vlE
          by_cases y : X.1 i = 31
          · rw [if_pos y]
            show (if (31, X.2.1 i).1 = 31 ∨ _ then 1 else 0) + 0 ≤ _
            rw [if_pos (Or.inl rfl)]; omega
          · rw [if_neg y]
            show (if _ ∨ (47, X.1 i).1 = 47 then 1 else 0) + 0 ≤ _
            rw [if_pos (Or.inr rfl)]; omega
    · rw [if_neg h2] at h; cases h
theorem chk_op {w : Nat → Bool} {op : Nat} (h : 36 ≤ op ∧ op ≤ 39) {ts : List Bool} : chk w [(op, 0)] (false :: false :: ts) = some (false :: ts) := by
  show (cs w (op, 0) (false :: false :: ts)).bind (chk w []) = _
  unfold cs
  rw [if_neg (show ¬ (op, 0).1 = 31 by show ¬ op = 31; omega), if_neg (show ¬ (op, 0).1 = 47 by show ¬ op = 47; omega), if_neg (show ¬ (op, 0).1 = 18 by show ¬ op = 18; omega), if_pos (show 36 ≤ (op, 0).1 ∧ (op, 0).1 ≤ 39 from h)]
  rfl
theorem chk_cmp {w : Nat → Bool} {op : Nat} (h : 40 ≤ op ∧ op ≤ 44) {ts : List Bool} : chk w [(op, 0)] (false :: false :: ts) = some (true :: ts) := by
  show (cs w (op, 0) (false :: false :: ts)).bind (chk w []) = _
  unfold cs
  rw [if_neg (show ¬ (op, 0).1 = 31 by show ¬ op = 31; omega), if_neg (show ¬ (op, 0).1 = 47 by show ¬ op = 47; omega), if_neg (show ¬ (op, 0).1 = 18 by show ¬ op = 18; omega), if_neg (show ¬ (36 ≤ (op, 0).1 ∧ (op, 0).1 ≤ 39) by show ¬ (36 ≤ op ∧ op ≤ 39); omega), if_pos (show 40 ≤ (op, 0).1 ∧ (op, 0).1 ≤ 44 from h)]
  rfl
theorem chk_ao {w : Nat → Bool} {op : Nat} (h : op = 16 ∨ op = 17) {ts : List Bool} : chk w [(op, 0)] (true :: true :: ts) = some (true :: ts) := by
  show (cs w (op, 0) (true :: true :: ts)).bind (chk w []) = _
  unfold cs
  rw [if_neg (show ¬ (op, 0).1 = 31 by show ¬ op = 31; omega), if_neg (show ¬ (op, 0).1 = 47 by show ¬ op = 47; omega), if_neg (show ¬ (op, 0).1 = 18 by show ¬ op = 18; omega), if_neg (show ¬ (36 ≤ (op, 0).1 ∧ (op, 0).1 ≤ 39) by show ¬ (36 ≤ op ∧ op ≤ 39); omega), if_neg (show ¬ (40 ≤ (op, 0).1 ∧ (op, 0).1 ≤ 44) by show ¬ (40 ≤ op ∧ op ≤ 44); omega), if_pos (show (op, 0).1 = 16 ∨ (op, 0).1 = 17 from h)]
  rfl
theorem chk_not {w : Nat → Bool} {ts : List Bool} : chk w [(18, 0)] (true :: ts) = some (true :: ts) := rfl
theorem isS_op {w : Nat → Bool} {a b : List (Nat × Nat)} {op : Nat} (h : 36 ≤ op ∧ op ≤ 39) (ha : isS w a) (hb : isS w b) : isS w (a ++ (b ++ [(op, 0)])) := fun ts => by
  rw [chk_app, ha ts]
  show chk w (b ++ [(op, 0)]) (false :: ts) = _
  rw [chk_app, hb]
  exact chk_op h
theorem isT_cmp {w : Nat → Bool} {a b : List (Nat × Nat)} {op : Nat} (h : 40 ≤ op ∧ op ≤ 44) (ha : isS w a) (hb : isS w b) : isT w (a ++ (b ++ [(op, 0)])) := fun ts => by
  rw [chk_app, ha ts]
  show chk w (b ++ [(op, 0)]) (false :: ts) = _
  rw [chk_app, hb]
  exact chk_cmp h
theorem nvs_op {op : Nat} (h : op ≠ 31 ∧ op ≠ 47) : nvs [(op, 0)] = 0 := by
  show (if (op, 0).1 = 31 ∨ (op, 0).1 = 47 then 1 else 0) + 0 = 0
  rw [if_neg (show ¬ (op = 31 ∨ op = 47) by omega)]
theorem gS_trmL {X : TK} {m i0 k0 : Nat} (hX : okX X m) : ∀ n i k c, gS X m i0 k0 i k c → ∀ j k' c', trmL X n i k c = .inr (j, k', c') → gS X m i0 k0 j k' c'
  | 0, i, k, c, g, j, k', c', h => by
    have h' : (i, k, c) = (j, k', c') := Sum.inr.inj h
    injection h' with e1 h'
    injection h' with e2 e3
    subst e1 e2 e3; exact g
  | n + 1, i, k, c, g, j, k', c', h => by
    unfold trmL at h
    by_cases y : X.1 i = 38 ∨ X.1 i = 39
    · rw [if_pos y] at h
      obtain ⟨j1, k1, c1, h1, h2⟩ := prB_inr h
      obtain ⟨⟨a1, a2, a3, a4, a5, a6, a7, a8⟩, -⟩ := gS_val hX h1
      obtain ⟨b1, b2, b3, b4, b5, b6, b7, b8⟩ := g
      refine gS_trmL hX n j1 k1 _ ⟨by omega, a2, by omega, a4, isS_op (by omega) b5 a5, ?_, ?_, ?_⟩ j k' c' h2
      · rw [List.length_append, List.length_append]; show _ + (_ + 1) + 1 ≤ _; omega
      · rw [List.length_append, List.length_append]; show _ + (_ + 1) ≤ _; omega
      · rw [nvs_app, nvs_app, nvs_op (by omega)]; omega
    · rw [if_neg y] at h
      have h' : (i, k, c) = (j, k', c') := Sum.inr.inj h
      injection h' with e1 h'
      injection h' with e2 e3
      subst e1 e2 e3; exact g
theorem gS_trm {X : TK} {m i k j k' : Nat} {c : List (Nat × Nat)} (hX : okX X m) (h : trmS X i k = .inr (j, k', c)) : gS X m i k j k' c := by
  obtain ⟨j1, k1, c1, h1, h2⟩ := prB_inr h
  exact gS_trmL hX 400 j1 k1 c1 (gS_val hX h1).1 j k' c h2
theorem gS_sumJ {X : TK} {m i0 k0 : Nat} (hX : okX X m) : ∀ n jn i k c, (jn = 48 ∧ c = [] ∧ i = i0 ∧ k = k0 ∨ 36 ≤ jn ∧ jn ≤ 39 ∧ 1 ≤ i ∧ gS X m i0 k0 (i - 1) k c) → m < n + i → i ≤ m → ∀ j k' c', sumJ X n jn i k c = .inr (j, k', c') → gS X m i0 k0 j k' c'
  | 0, jn, i, k, c, g, hn, hm, j, k', c', h => absurd hn (by omega)
  | n + 1, jn, i, k, c, g, hn, hm, j, k', c', h => by
    unfold sumJ at h
    obtain ⟨j1, k1, c1, h1, h2⟩ := prB_inr h
    have g1 := gS_trm hX h1
    have g2 : gS X m i0 k0 j1 k1 (c ++ jnC jn c1) := by
      rcases g with ⟨rfl, rfl, rfl, rfl⟩ | ⟨q1, q2, q3, b1, b2, b3, b4, b5, b6, b7, b8⟩
      · unfold jnC
        rw [if_pos rfl, List.nil_append]; exact g1
      · obtain ⟨a1, a2, a3, a4, a5, a6, a7, a8⟩ := g1
        unfold jnC
        rw [if_neg (show ¬ jn = 48 by omega)]
        refine ⟨by omega, a2, by omega, a4, isS_op ⟨q1, q2⟩ b5 a5, ?_, ?_, ?_⟩
        · rw [List.length_append, List.length_append]; show _ + (_ + 1) + 1 ≤ _; omega
        · rw [List.length_append, List.length_append]; show _ + (_ + 1) ≤ _; omega
        · rw [nvs_app, nvs_app, nvs_op (by omega)]; omega
    by_cases y : X.1 j1 = 36 ∨ X.1 j1 = 37
    · rw [if_pos y] at h2
      have hj : j1 < m := by
        apply Classical.byContradiction
        intro q
        have := (hX.2.1 j1).mpr (by omega)
        omega
      have a1 := g1.1
      exact gS_sumJ hX n (X.1 j1) (j1 + 1) k1 _ (Or.inr ⟨by omega, by omega, by omega, by rw [Nat.add_sub_cancel]; exact g2⟩) (by omega) (by omega) j k' c' h2
    · rw [if_neg y] at h2
      have h' : (j1, k1, c ++ jnC jn c1) = (j, k', c') := Sum.inr.inj h2
      injection h' with e1 h'
      injection h' with e2 e3
      subst e1 e2 e3; exact g2
theorem gS_sum {X : TK} {m i k j k' : Nat} {c : List (Nat × Nat)} (hX : okX X m) (h1 : 1 ≤ i) (hi : i ≤ m) (h : sumS X i k = .inr (j, k', c)) : gS X m i k j k' c := gS_sumJ hX 400 48 i k [] (Or.inl ⟨rfl, rfl, rfl, rfl⟩) (by have := hX.1; omega) hi j k' c h
/-- a test read -/
def gT (X : TK) (m i k j k' : Nat) (c : List (Nat × Nat)) : Prop := i < j ∧ j ≤ m ∧ k < k' ∧ k' ≤ 60 ∧ isT X.2.2.2 c ∧ 3 * (c.length + 3) ≤ 6 * (k' - k) + (X.2.2.1 j - X.2.2.1 i) ∧ c.length ≤ j - i ∧ nvs c ≤ k' - k
theorem P_mono {X : TK} {m : Nat} (hX : okX X m) {i : Nat} : ∀ n, X.2.2.1 i ≤ X.2.2.1 (i + n)
  | 0 => Nat.le_refl _
  | n + 1 => Nat.le_trans (P_mono hX n) (hX.2.2.2.1 (i + n))
theorem P_le {X : TK} {m : Nat} (hX : okX X m) {i j : Nat} (h : i ≤ j) : X.2.2.1 i ≤ X.2.2.1 j := by
  have := P_mono hX (i := i) (j - i)
  rwa [show i + (j - i) = j by omega] at this
theorem gT_cmp {X : TK} {m i k j k' : Nat} {c : List (Nat × Nat)} (hX : okX X m) (h1 : 1 ≤ i) (hi : i ≤ m) (h : cmpS X i k = .inr (j, k', c)) : gT X m i k j k' c := by
  unfold cmpS at h
  obtain ⟨j1, k1, c1, h2, h3⟩ := prB_inr h
  obtain ⟨a1, a2, a3, a4, a5, a6, a7, a8⟩ := gS_sum hX h1 hi h2
  by_cases y : 40 ≤ X.1 j1 ∧ X.1 j1 ≤ 44
  · rw [if_pos y] at h3
    by_cases z : 60 ≤ k1
    · rw [if_pos z] at h3; cases h3
    · rw [if_neg z] at h3
      obtain ⟨j2, k2, c2, h4, h5⟩ := prB_inr h3
      have hj : j1 < m := by
        apply Classical.byContradiction
        intro q
        have := (hX.2.1 j1).mpr (by omega)
        omega
      obtain ⟨b1, b2, b3, b4, b5, b6, b7, b8⟩ := gS_sum hX (by omega) (by omega) h4
      have h' : (j2, k2, c1 ++ (c2 ++ [(X.1 j1, 0)])) = (j, k', c) := Sum.inr.inj h5
      injection h' with e1 h'
      injection h' with e2 e3
      subst e1 e2 e3
      refine ⟨by omega, b2, by omega, b4, isT_cmp y a5 b5, ?_, ?_, ?_⟩
      · rw [List.length_append, List.length_append]; show 3 * (_ + (_ + 1) + 3) ≤ _; omega
      · rw [List.length_append, List.length_append]; show _ + (_ + 1) ≤ _; omega
      · rw [nvs_app, nvs_app, nvs_op (by omega)]; omega
  · rw [if_neg y] at h3; cases h3
def bN (b : Bool) : Nat := if b = true then 1 else 0
/-- with what waits on the stack -/
def pend (a o : Bool) (ts : List Bool) : List Bool := (if a = true then [true] else []) ++ ((if o = true then [true] else []) ++ ts)
def gP (X : TK) (m i k : Nat) (a o : Bool) (j k' : Nat) (c : List (Nat × Nat)) : Prop := i < j ∧ j ≤ m ∧ k < k' ∧ k' ≤ 60 ∧ (∀ ts, chk X.2.2.2 c (pend a o ts) = some (true :: ts)) ∧ 3 * (c.length + 3) ≤ 6 * (k' - k) + (X.2.2.1 j - X.2.2.1 i) + 3 * (bN a + bN o) ∧ c.length ≤ j - i + (bN a + bN o) ∧ nvs c ≤ k' - k
theorem gP_T {X : TK} {m i k j k' : Nat} {c : List (Nat × Nat)} (h : gP X m i k false false j k' c) : gT X m i k j k' c := ⟨h.1, h.2.1, h.2.2.1, h.2.2.2.1, h.2.2.2.2.1, h.2.2.2.2.2.1, h.2.2.2.2.2.2.1, h.2.2.2.2.2.2.2⟩
theorem ao_chk {w : Nat → Bool} {b : Bool} {op : Nat} (hop : op = 16 ∨ op = 17) {c : List (Nat × Nat)} {x ts : List Bool} (h : chk w c x = some (true :: ((if b = true then [true] else []) ++ ts))) : chk w (aoC b op c) x = some (true :: ts) := by
  unfold aoC
  cases b with
  | false => exact h
  | true =>
    rw [if_pos rfl, chk_app, h]
    exact chk_ao hop
theorem aoC_len {b : Bool} {op : Nat} {c : List (Nat × Nat)} : (aoC b op c).length = c.length + bN b := by
  unfold aoC bN
  cases b with
  | false => rfl
  | true => rw [if_pos rfl, if_pos rfl, List.length_append]; rfl
theorem aoC_nvs {b : Bool} {op : Nat} (hop : op = 16 ∨ op = 17) {c : List (Nat × Nat)} : nvs (aoC b op c) = nvs c := by
  unfold aoC
  cases b with
  | false => rfl
  | true => rw [if_pos rfl, nvs_app, nvs_op (by omega)]; rfl
theorem ob_inr {o : Option PR} {f : PR → Option PR} {q : PR} (h : o.bind f = some q) : ∃ r, o = some r ∧ f r = some q := by
  cases o with
  | none => cases h
  | some r => exact ⟨r, rfl, h⟩
theorem g_psF {X : TK} {m : Nat} (hX : okX X m) : ∀ n b d i k a o, 1 ≤ i → i ≤ m → ∀ j k' c, psF X n b d i k a o = some (.inr (j, k', c)) → if b = true then gP X m i k a o j k' c else gT X m i k j k' c
  | 0, _, _, _, _, _, _, _, _, _, _, _, h => by cases h
  | n + 1, false, d, i, k, a, o, h1, hi, j, k', c, h => by
    rw [if_neg (by decide)]
    unfold psF at h
    by_cases y : X.1 i = 18
    · have him : i < m := by
        apply Classical.byContradiction
        intro q
        have := (hX.2.1 i).mpr (by omega)
        omega
      rw [if_pos y] at h
      by_cases z : d < 10
      · rw [if_pos z] at h
        obtain ⟨r, e1, e2⟩ := ob_inr h
        obtain ⟨j1, k1, c1, e3, e4⟩ := prB_inr (Option.some.inj e2)
        rw [e3] at e1
        have g := g_psF hX n false (d + 1) (i + 1) k false false (by omega) (by omega) j1 k1 c1 e1
        rw [if_neg (by decide)] at g
        obtain ⟨a1, a2, a3, a4, a5, a6, a7, a8⟩ := g
        have h' : (j1, k1, c1 ++ [(18, 0)]) = (j, k', c) := Sum.inr.inj e4
        injection h' with e5 h'
        injection h' with e6 e7
        subst e5 e6 e7
        have hp := hX.2.2.2.2.2.1 i y
        refine ⟨by omega, a2, a3, a4, fun ts => ?_, ?_, ?_, ?_⟩
        · rw [chk_app, a5]; exact @chk_not X.2.2.2 ts
        · have hpj := P_le hX (show i + 1 ≤ j1 by omega)
          rw [List.length_append]; show 3 * (_ + 1 + 3) ≤ _; omega
        · rw [List.length_append]; show _ + 1 ≤ _; omega
        · rw [nvs_app, nvs_op (by omega)]; omega
      · rw [if_neg z] at h; cases (Option.some.inj h)
    · rw [if_neg y] at h
      by_cases y2 : X.1 i = 34
      · have him : i < m := by
          apply Classical.byContradiction
          intro q
          have := (hX.2.1 i).mpr (by omega)
          omega
        rw [if_pos y2] at h
        by_cases z : d < 10
        · rw [if_pos z] at h
          obtain ⟨r, e1, e2⟩ := ob_inr h
          obtain ⟨j1, k1, c1, e3, e4⟩ := prB_inr (Option.some.inj e2)
          rw [e3] at e1
          have g := g_psF hX n true (d + 1) (i + 1) k false false (by omega) (by omega) j1 k1 c1 e1
          rw [if_pos rfl] at g
          obtain ⟨a1, a2, a3, a4, a5, a6, a7, a8⟩ := gP_T g
          by_cases u : X.1 j1 = 35
          · rw [if_pos u] at e4
            have hjm : j1 < m := by
              apply Classical.byContradiction
              intro q
              have := (hX.2.1 j1).mpr (by omega)
              omega
            have h' : (j1 + 1, k1, c1) = (j, k', c) := Sum.inr.inj e4
            injection h' with e5 h'
            injection h' with e6 e7
            subst e5 e6 e7
            have hp := hX.2.2.2.1 i
            have hp2 := hX.2.2.2.1 j1
            have hpj := P_le hX (show i + 1 ≤ j1 by omega)
            exact ⟨by omega, by omega, a3, a4, a5, by omega, by omega, a8⟩
          · rw [if_neg u] at e4; cases e4
        · rw [if_neg z] at h; cases (Option.some.inj h)
      · rw [if_neg y2] at h
        exact gT_cmp hX h1 hi (Option.some.inj h)
  | n + 1, true, d, i, k, a, o, h1, hi, j, k', c, h => by
    rw [if_pos rfl]
    unfold psF at h
    obtain ⟨r, e1, e2⟩ := ob_inr h
    cases r with
    | inl e => cases (Option.some.inj e2)
    | inr p =>
      obtain ⟨j1, k1, c1⟩ := p
      have g := g_psF hX n false d i k false false h1 hi j1 k1 c1 e1
      rw [if_neg (by decide)] at g
      obtain ⟨a1, a2, a3, a4, a5, a6, a7, a8⟩ := g
      have ba : bN a ≤ 1 := by unfold bN; split <;> omega
      have bo : bN o ≤ 1 := by unfold bN; split <;> omega
      have bt : bN true = 1 := rfl
      have bf : bN false = 0 := rfl
      have t1 : ∀ ts, chk X.2.2.2 (aoC a 17 c1) (pend a o ts) = some (true :: ((if o = true then [true] else []) ++ ts)) := fun ts => ao_chk (Or.inr rfl) (a5 _)
      have e2' : (if X.1 j1 = 17 then (psF X n true d (j1 + 1) k1 true o).bind (fun r => some (prB r (fun j k' c' => .inr (j, k', aoC a 17 c1 ++ c'))))
        else if X.1 j1 = 16 then (psF X n true d (j1 + 1) k1 false true).bind (fun r => some (prB r (fun j k' c' => .inr (j, k', aoC o 16 (aoC a 17 c1) ++ c'))))
        else some (.inr (j1, k1, aoC o 16 (aoC a 17 c1)))) = some (.inr (j, k', c)) := e2
      have nx : X.1 j1 = 17 ∨ X.1 j1 = 16 → j1 < m := by
        intro q
        apply Classical.byContradiction
        intro q2
        have := (hX.2.1 j1).mpr (by omega)
        omega
      by_cases y : X.1 j1 = 17
      · have hjm := nx (Or.inl y)
        rw [if_pos y] at e2'
        obtain ⟨r, e3, e4⟩ := ob_inr e2'
        obtain ⟨j2, k2, c2, e5, e6⟩ := prB_inr (Option.some.inj e4)
        rw [e5] at e3
        have g := g_psF hX n true d (j1 + 1) k1 true o (by omega) (by omega) j2 k2 c2 e3
        rw [if_pos rfl] at g
        obtain ⟨b1, b2, b3, b4, b5, b6, b7, b8⟩ := g
        have h' : (j2, k2, aoC a 17 c1 ++ c2) = (j, k', c) := Sum.inr.inj e6
        injection h' with e7 h'
        injection h' with e8 e9
        subst e7 e8 e9
        have hp := hX.2.2.2.1 j1
        have hp1 := P_le hX (show i ≤ j1 by omega)
        have hp2 := P_le hX (show j1 + 1 ≤ j2 by omega)
        refine ⟨by omega, b2, by omega, b4, fun ts => ?_, ?_, ?_, ?_⟩
        · rw [chk_app, t1]; exact b5 ts
        · rw [List.length_append, aoC_len]; omega
        · rw [List.length_append, aoC_len]; omega
        · rw [nvs_app, aoC_nvs (Or.inr rfl)]; omega
      · rw [if_neg y] at e2'
        have t2 : ∀ ts, chk X.2.2.2 (aoC o 16 (aoC a 17 c1)) (pend a o ts) = some (true :: ts) := fun ts => ao_chk (Or.inl rfl) (t1 ts)
        by_cases y2 : X.1 j1 = 16
        · have hjm := nx (Or.inr y2)
          rw [if_pos y2] at e2'
          obtain ⟨r, e3, e4⟩ := ob_inr e2'
          obtain ⟨j2, k2, c2, e5, e6⟩ := prB_inr (Option.some.inj e4)
          rw [e5] at e3
          have g := g_psF hX n true d (j1 + 1) k1 false true (by omega) (by omega) j2 k2 c2 e3
          rw [if_pos rfl] at g
          obtain ⟨b1, b2, b3, b4, b5, b6, b7, b8⟩ := g
          have h' : (j2, k2, aoC o 16 (aoC a 17 c1) ++ c2) = (j, k', c) := Sum.inr.inj e6
          injection h' with e7 h'
          injection h' with e8 e9
          subst e7 e8 e9
          have hp := hX.2.2.2.1 j1
          have hp1 := P_le hX (show i ≤ j1 by omega)
          have hp2 := P_le hX (show j1 + 1 ≤ j2 by omega)
          refine ⟨by omega, b2, by omega, b4, fun ts => ?_, ?_, ?_, ?_⟩
          · rw [chk_app, t2]; exact b5 ts
          · rw [List.length_append, aoC_len, aoC_len]; omega
          · rw [List.length_append, aoC_len, aoC_len]; omega
          · rw [nvs_app, aoC_nvs (Or.inl rfl), aoC_nvs (Or.inr rfl)]; omega
        · rw [if_neg y2] at e2'
          have h' : (j1, k1, aoC o 16 (aoC a 17 c1)) = (j, k', c) := Sum.inr.inj (Option.some.inj e2')
          injection h' with e7 h'
          injection h' with e8 e9
          subst e7 e8 e9
          refine ⟨a1, a2, a3, a4, t2, ?_, ?_, ?_⟩
          · rw [aoC_len, aoC_len]; omega
          · rw [aoC_len, aoC_len]; omega
          · rw [aoC_nvs (Or.inl rfl), aoC_nvs (Or.inr rfl)]; exact a8
theorem psF_some {X : TK} {m : Nat} (hX : okX X m) : ∀ n b d i k a o, 1 ≤ i → i ≤ m → 2 * (m - i) + bN b < n → ∃ r, psF X n b d i k a o = some r
  | 0, _, _, _, _, _, _, _, _, hn => absurd hn (Nat.not_lt_zero _)
  | n + 1, false, d, i, k, a, o, h1, hi, hn => by
    have bf : bN false = 0 := rfl
    have bt : bN true = 1 := rfl
    unfold psF
    by_cases y : X.1 i = 18
    · have him : i < m := by
        apply Classical.byContradiction
        intro q
        have := (hX.2.1 i).mpr (by omega)
        omega
      rw [if_pos y]
      by_cases z : d < 10
      · obtain ⟨r, e⟩ := psF_some hX n false (d + 1) (i + 1) k false false (by omega) (by omega) (by omega)
        rw [if_pos z, e]; exact ⟨_, rfl⟩
      · rw [if_neg z]; exact ⟨_, rfl⟩
    · rw [if_neg y]
      by_cases y2 : X.1 i = 34
      · have him : i < m := by
          apply Classical.byContradiction
          intro q
          have := (hX.2.1 i).mpr (by omega)
          omega
        rw [if_pos y2]
        by_cases z : d < 10
        · obtain ⟨r, e⟩ := psF_some hX n true (d + 1) (i + 1) k false false (by omega) (by omega) (by omega)
          rw [if_pos z, e]; exact ⟨_, rfl⟩
        · rw [if_neg z]; exact ⟨_, rfl⟩
      · rw [if_neg y2]; exact ⟨_, rfl⟩
  | n + 1, true, d, i, k, a, o, h1, hi, hn => by
    have bf : bN false = 0 := rfl
    have bt : bN true = 1 := rfl
    obtain ⟨r, e⟩ := psF_some hX n false d i k false false h1 hi (by omega)
    unfold psF
    rw [e]
    cases r with
    | inl e => exact ⟨_, rfl⟩
    | inr p =>
      obtain ⟨j1, k1, c1⟩ := p
      have g := g_psF hX n false d i k false false h1 hi j1 k1 c1 e
      rw [if_neg (by decide)] at g
      have g1 := g.1
      show ∃ r, (if X.1 j1 = 17 then (psF X n true d (j1 + 1) k1 true o).bind _ else if X.1 j1 = 16 then (psF X n true d (j1 + 1) k1 false true).bind _ else some _) = some r
      have nx : X.1 j1 = 17 ∨ X.1 j1 = 16 → j1 < m := by
        intro q
        apply Classical.byContradiction
        intro q2
        have := (hX.2.1 j1).mpr (by omega)
        omega
      by_cases y : X.1 j1 = 17
      · have hjm := nx (Or.inl y)
        obtain ⟨r, e2⟩ := psF_some hX n true d (j1 + 1) k1 true o (by omega) (by omega) (by omega)
        rw [if_pos y, e2]; exact ⟨_, rfl⟩
      · rw [if_neg y]
        by_cases y2 : X.1 j1 = 16
        · have hjm := nx (Or.inr y2)
          obtain ⟨r, e2⟩ := psF_some hX n true d (j1 + 1) k1 false true (by omega) (by omega) (by omega)
          rw [if_pos y2, e2]; exact ⟨_, rfl⟩
        · rw [if_neg y2]; exact ⟨_, rfl⟩
