/-! A TEXT AS TOKENS: u its bytes, n how many -/
def rnF (p : Nat → Bool) (u : Nat → Nat) (n : Nat) : Nat → Nat → Nat
  | 0, i => i
  | f + 1, i => if i < n ∧ p (u i) = true then rnF p u n f (i + 1) else i
/-- the end of a run -/
def rn (p : Nat → Bool) (u : Nat → Nat) (n i : Nat) : Nat := rnF p u n (n - i) i
theorem rnF_spec {p : Nat → Bool} {u : Nat → Nat} {n : Nat} : ∀ f i, n - i ≤ f → i ≤ rnF p u n f i ∧ (i ≤ n → rnF p u n f i ≤ n) ∧ (∀ j, i ≤ j → j < rnF p u n f i → j < n ∧ p (u j) = true) ∧ ¬ (rnF p u n f i < n ∧ p (u (rnF p u n f i)) = true)
  | 0, i, h => ⟨Nat.le_refl _, fun q => q, fun j h1 h2 => absurd h2 (Nat.not_lt.mpr h1), fun q => by have := q.1; unfold rnF at this; omega⟩
  | f + 1, i, h => by
    unfold rnF
    by_cases y : i < n ∧ p (u i) = true
    · rw [if_pos y]
      obtain ⟨h1, h2, h3, h4⟩ := rnF_spec (p := p) (u := u) (n := n) f (i + 1) (by omega)
      refine ⟨by omega, fun _ => h2 (by omega), fun j a b => ?_, h4⟩
      by_cases z : j = i
      · rw [z]; exact y
      · exact h3 j (by omega) b
    · rw [if_neg y]
      exact ⟨Nat.le_refl _, fun q => q, fun j h1 h2 => absurd h2 (Nat.not_lt.mpr h1), y⟩
theorem rn_spec {p : Nat → Bool} {u : Nat → Nat} {n i : Nat} : i ≤ rn p u n i ∧ (i ≤ n → rn p u n i ≤ n) ∧ (∀ j, i ≤ j → j < rn p u n i → j < n ∧ p (u j) = true) ∧ ¬ (rn p u n i < n ∧ p (u (rn p u n i)) = true) := rnF_spec (n - i) i (Nat.le_refl _)
theorem rn_uniq {p : Nat → Bool} {u : Nat → Nat} {n i e : Nat} (h1 : i ≤ e) (h2 : ∀ j, i ≤ j → j < e → j < n ∧ p (u j) = true) (h3 : ¬ (e < n ∧ p (u e) = true)) : e = rn p u n i := by
  obtain ⟨a1, -, a3, a4⟩ := rn_spec (p := p) (u := u) (n := n) (i := i)
  apply Classical.byContradiction
  intro z
  by_cases y : e < rn p u n i
  · exact h3 (a3 e h1 y)
  · exact a4 (h2 _ a1 (by omega))
theorem rn_stop {p : Nat → Bool} {u : Nat → Nat} {n i : Nat} (h : ¬ (i < n ∧ p (u i) = true)) : rn p u n i = i := (rn_uniq (Nat.le_refl _) (fun j a b => absurd b (Nat.not_lt.mpr a)) h).symm
theorem rn_go {p : Nat → Bool} {u : Nat → Nat} {n i : Nat} (h : i < n ∧ p (u i) = true) : rn p u n i = rn p u n (i + 1) := by
  obtain ⟨a1, -, a3, a4⟩ := rn_spec (p := p) (u := u) (n := n) (i := i + 1)
  refine (rn_uniq (by omega) (fun j b c => ?_) a4).symm
  by_cases z : j = i
  · rw [z]; exact h
  · exact a3 j (by omega) c
def isBl (x : Nat) : Bool := decide (x = 32)
def isDg (x : Nat) : Bool := decide (48 ≤ x ∧ x ≤ 57)
def isLt (x : Nat) : Bool := decide (97 ≤ x ∧ x ≤ 122)
def skp (u : Nat → Nat) (n i : Nat) : Nat := rn isBl u n i
def dgv (u : Nat → Nat) (i : Nat) : Nat → Nat
  | 0 => 0
  | k + 1 => 10 * dgv u i k + u (i + k) - 48
/-- the class's words: where they begin -/
def wAt (w : Nat) : Nat := [0, 6, 10, 16, 19, 25, 30, 37, 42, 47, 53, 58, 64, 70, 76, 81, 86, 89, 93, 97, 102, 107, 110, 115, 120, 125].getD w 130
def wLen (w : Nat) : Nat := wAt (w + 1) - wAt w - 1
def wc (j : Nat) : Nat := (zsC 0 j).toNatClampNeg
def mtB (u : Nat → Nat) (i len w : Nat) : Bool := decide (len = wLen w ∧ ∀ j, j < len → u (i + j) = wc (wAt w + j))
def findW (p : Nat → Bool) : Nat → Nat → Nat
  | 0, _ => 45
  | f + 1, w => if p w = true then w else findW p f (w + 1)
def twd (u : Nat → Nat) (i len : Nat) : Nat := findW (mtB u i len) 26 0
theorem findW_spec {p : Nat → Bool} : ∀ f w, (findW p f w = 45 ∧ ∀ v, w ≤ v → v < w + f → p v = false) ∨ (w ≤ findW p f w ∧ findW p f w < w + f ∧ p (findW p f w) = true ∧ ∀ v, w ≤ v → v < findW p f w → p v = false)
  | 0, w => Or.inl ⟨rfl, fun v a b => absurd b (Nat.not_lt.mpr a)⟩
  | f + 1, w => by
    unfold findW
    by_cases y : p w = true
    · rw [if_pos y]
      exact Or.inr ⟨Nat.le_refl _, by omega, y, fun v a b => absurd b (Nat.not_lt.mpr a)⟩
    · rw [if_neg y]
      have y' : p w = false := by cases z : p w <;> simp_all
      rcases findW_spec f (w + 1) with ⟨h1, h2⟩ | ⟨h1, h2, h3, h4⟩
      · refine Or.inl ⟨h1, fun v a b => ?_⟩
        by_cases z : v = w
        · rw [z]; exact y'
        · exact h2 v (by omega) (by omega)
      · refine Or.inr ⟨by omega, by omega, h3, fun v a b => ?_⟩
        by_cases z : v = w
        · rw [z]; exact y'
        · exact h4 v (by omega) b
def sgk (c : Nat) : Nat := if c = 42 then 38 else if c = 43 then 36 else if c = 45 then 37 else if c = 47 then 39 else if c = 59 then 33 else if c = 60 then 40 else if c = 61 then 42 else if c = 62 then 44 else if c = 91 then 34 else if c = 93 then 35 else 45
/-- the token at a place: kind, value, end -/
def tok (u : Nat → Nat) (n i : Nat) : Nat × Nat × Nat :=
  if n ≤ i then (46, 0, i)
  else if isDg (u i) = true then (if rn isDg u n i - i ≤ 5 then (31, dgv u i (rn isDg u n i - i), rn isDg u n i) else (32, 0, rn isDg u n i))
  else if isLt (u i) = true then (if rn isLt u n i - i = 1 ∧ u i ≤ 104 then (30, u i - 97, rn isLt u n i) else (twd u i (rn isLt u n i - i), 0, rn isLt u n i))
  else if (u i = 60 ∨ u i = 62) ∧ i + 1 < n ∧ u (i + 1) = 61 then (if u i = 60 then 41 else 43, 0, i + 2)
  else (sgk (u i), 0, i + 1)
def pl (u : Nat → Nat) (n : Nat) : Nat → Nat
  | 0 => skp u n 0
  | i + 1 => skp u n (tok u n (pl u n i)).2.2
def tkX (u : Nat → Nat) (n : Nat) (w : Nat → Bool) : TK := (fun i => (tok u n (pl u n i)).1, fun i => (tok u n (pl u n i)).2.1, fun i => pl u n i, w)
theorem sgk_r {c : Nat} : 33 ≤ sgk c ∧ sgk c ≤ 45 := by
  unfold sgk
  repeat' split
  all_goals omega
theorem twd_r {u : Nat → Nat} {i len : Nat} : twd u i len = 45 ∧ (∀ w, w < 26 → mtB u i len w = false) ∨ twd u i len < 26 ∧ mtB u i len (twd u i len) = true := by
  rcases findW_spec (p := mtB u i len) 26 0 with ⟨h1, h2⟩ | ⟨h1, h2, h3, h4⟩
  · exact Or.inl ⟨h1, fun w hw => h2 w (Nat.zero_le _) (by omega)⟩
  · exact Or.inr ⟨by show findW _ _ _ < 26; omega, h3⟩
theorem dgv_lt {u : Nat → Nat} {i : Nat} : ∀ k, (∀ j, j < k → isDg (u (i + j)) = true) → dgv u i k < 10 ^ k
  | 0, _ => by show 0 < 10 ^ 0; decide
  | k + 1, h => by
    have ih := dgv_lt k (fun j hj => h j (by omega))
    have hd := of_decide_eq_true (h k (Nat.lt_succ_self k))
    show 10 * dgv u i k + u (i + k) - 48 < 10 ^ (k + 1)
    rw [Nat.pow_succ]; omega
/-- what a token is like -/
theorem tok_r {u : Nat → Nat} {n i : Nat} (hi : i < n) : ¬ (tok u n i).1 = 46 ∧ (tok u n i).1 ≤ 45 ∧ (tok u n i).2.1 ≤ 99999 ∧ i < (tok u n i).2.2 ∧ (tok u n i).2.2 ≤ n ∧ ((tok u n i).1 = 18 → i + 3 ≤ (tok u n i).2.2) := by
  unfold tok
  rw [if_neg (by omega)]
  by_cases a1 : isDg (u i) = true
  · rw [if_pos a1]
    obtain ⟨h1, h2, h3, h4⟩ := rn_spec (p := isDg) (u := u) (n := n) (i := i)
    have hlt : i < rn isDg u n i := by
      rw [rn_go ⟨hi, a1⟩]
      have := (rn_spec (p := isDg) (u := u) (n := n) (i := i + 1)).1
      omega
    have hle := h2 (by omega)
    by_cases a2 : rn isDg u n i - i ≤ 5
    · rw [if_pos a2]
      have hd := dgv_lt (u := u) (i := i) (rn isDg u n i - i) (fun j hj => (h3 (i + j) (by omega) (by omega)).2)
      have hp : 10 ^ (rn isDg u n i - i) ≤ 10 ^ 5 := Nat.pow_le_pow_right (by decide) a2
      have e5 : (10 : Nat) ^ 5 = 100000 := by decide
      refine ⟨by show ¬ 31 = 46; decide, by show 31 ≤ 45; decide, ?_, hlt, hle, fun q => absurd q (by show ¬ 31 = 18; decide)⟩
      show dgv u i (rn isDg u n i - i) ≤ 99999
      omega
    · rw [if_neg a2]
      exact ⟨by show ¬ 32 = 46; decide, by show 32 ≤ 45; decide, by show 0 ≤ 99999; decide, hlt, hle, fun q => absurd q (by show ¬ 32 = 18; decide)⟩
  · rw [if_neg a1]
    by_cases a2 : isLt (u i) = true
    · rw [if_pos a2]
      obtain ⟨h1, h2, h3, h4⟩ := rn_spec (p := isLt) (u := u) (n := n) (i := i)
      have hlt : i < rn isLt u n i := by
        rw [rn_go ⟨hi, a2⟩]
        have := (rn_spec (p := isLt) (u := u) (n := n) (i := i + 1)).1
        omega
      have hle := h2 (by omega)
      have hu := of_decide_eq_true a2
      by_cases a3 : rn isLt u n i - i = 1 ∧ u i ≤ 104
      · rw [if_pos a3]
        refine ⟨by show ¬ 30 = 46; decide, by show 30 ≤ 45; decide, by show u i - 97 ≤ 99999; omega, hlt, hle, fun q => absurd q (by show ¬ 30 = 18; decide)⟩
      · rw [if_neg a3]
        rcases twd_r (u := u) (i := i) (len := rn isLt u n i - i) with ⟨q1, -⟩ | ⟨q1, q2⟩
        · exact ⟨by show ¬ twd _ _ _ = 46; omega, by show twd _ _ _ ≤ 45; omega, by show 0 ≤ 99999; decide, hlt, hle, fun q => absurd q (by show ¬ twd _ _ _ = 18; omega)⟩
        · refine ⟨by show ¬ twd _ _ _ = 46; omega, by show twd _ _ _ ≤ 45; omega, by show 0 ≤ 99999; decide, hlt, hle, fun q => ?_⟩
          have q' : twd u i (rn isLt u n i - i) = 18 := q
          rw [q'] at q2
          have q3 := (of_decide_eq_true q2).1
          have e18 : wLen 18 = 3 := by decide
          show i + 3 ≤ rn isLt u n i
          omega
    · rw [if_neg a2]
      by_cases a3 : (u i = 60 ∨ u i = 62) ∧ i + 1 < n ∧ u (i + 1) = 61
      · rw [if_pos a3]
        refine ⟨?_, ?_, by show 0 ≤ 99999; decide, by show i < i + 2; omega, by show i + 2 ≤ n; omega, ?_⟩
        · show ¬ (if u i = 60 then 41 else 43) = 46; split <;> omega
        · show (if u i = 60 then 41 else 43) ≤ 45; split <;> omega
        · intro q
          have q' : (if u i = 60 then 41 else 43) = 18 := q
          split at q' <;> omega
      · rw [if_neg a3]
        have hs := sgk_r (c := u i)
        exact ⟨by show ¬ sgk _ = 46; omega, by show sgk _ ≤ 45; omega, by show 0 ≤ 99999; decide, by show i < i + 1; omega, by show i + 1 ≤ n; omega, fun q => absurd q (by show ¬ sgk _ = 18; omega)⟩
theorem tok_end {u : Nat → Nat} {n i : Nat} (h : n ≤ i) : tok u n i = (46, 0, i) := if_pos h
theorem pl_le {u : Nat → Nat} {n : Nat} : ∀ i, pl u n i ≤ n
  | 0 => (rn_spec (p := isBl) (u := u) (n := n) (i := 0)).2.1 (Nat.zero_le _)
  | i + 1 => by
    have ih := pl_le (u := u) (n := n) i
    refine (rn_spec (p := isBl) (u := u) (n := n) (i := (tok u n (pl u n i)).2.2)).2.1 ?_
    by_cases y : pl u n i < n
    · exact (tok_r (u := u) y).2.2.2.2.1
    · rw [tok_end (by omega)]; exact ih
theorem pl_S {u : Nat → Nat} {n i : Nat} : pl u n (i + 1) = skp u n (tok u n (pl u n i)).2.2 := rfl
theorem pl_mono {u : Nat → Nat} {n : Nat} (i : Nat) : pl u n i ≤ pl u n (i + 1) ∧ (pl u n i < n → pl u n i < pl u n (i + 1) ∧ (tok u n (pl u n i)).2.2 ≤ pl u n (i + 1)) := by
  have h1 := (rn_spec (p := isBl) (u := u) (n := n) (i := (tok u n (pl u n i)).2.2)).1
  have h1' : (tok u n (pl u n i)).2.2 ≤ pl u n (i + 1) := h1
  by_cases y : pl u n i < n
  · have h2 := (tok_r (u := u) y).2.2.2.1
    exact ⟨by omega, fun _ => ⟨by omega, h1'⟩⟩
  · rw [tok_end (show n ≤ pl u n i by omega)] at h1'
    exact ⟨h1', fun q => absurd q y⟩
theorem pl_ge {u : Nat → Nat} {n : Nat} : ∀ i, pl u n i = n ∨ i ≤ pl u n i
  | 0 => Or.inr (Nat.zero_le _)
  | i + 1 => by
    have hl := pl_le (u := u) (n := n) (i + 1)
    have hm := pl_mono (u := u) (n := n) i
    rcases pl_ge (u := u) (n := n) i with h | h
    · left; have := hm.1; omega
    · by_cases y : pl u n i < n
      · right; have := (hm.2 y).1; omega
      · left; have := hm.1; omega
theorem pl_stay {u : Nat → Nat} {n i : Nat} (h : pl u n i = n) : ∀ k, pl u n (i + k) = n
  | 0 => h
  | k + 1 => by
    have ih := pl_stay h k
    have h1 := (pl_mono (u := u) (n := n) (i + k)).1
    have h2 := pl_le (u := u) (n := n) (i + k + 1)
    show pl u n (i + k + 1) = n
    omega
/-- how many tokens -/
theorem pl_m (u : Nat → Nat) (n : Nat) : ∃ m, m ≤ n ∧ pl u n m = n ∧ ∀ i, i < m → pl u n i < n := by
  have key : ∀ k, (∃ m, m ≤ k ∧ pl u n m = n ∧ ∀ i, i < m → pl u n i < n) ∨ ∀ i, i ≤ k → pl u n i < n := by
    intro k
    induction k with
    | zero =>
      by_cases y : pl u n 0 = n
      · exact Or.inl ⟨0, Nat.le_refl _, y, fun i hi => absurd hi (Nat.not_lt_zero _)⟩
      · right
        intro i hi
        have := pl_le (u := u) (n := n) 0
        rw [show i = 0 by omega]; omega
    | succ k ih =>
      rcases ih with ⟨m, h1, h2⟩ | ih
      · exact Or.inl ⟨m, by omega, h2⟩
      · by_cases y : pl u n (k + 1) = n
        · exact Or.inl ⟨k + 1, Nat.le_refl _, y, fun i hi => ih i (by omega)⟩
        · right
          intro i hi
          by_cases z : i = k + 1
          · have := pl_le (u := u) (n := n) (k + 1)
            rw [z]; omega
          · exact ih i (by omega)
  rcases key n with h | h
  · exact h
  · have h1 := h n (Nat.le_refl _)
    rcases pl_ge (u := u) (n := n) n with h2 | h2
    · omega
    · omega
theorem tkX_ok {u : Nat → Nat} {n : Nat} {w : Nat → Bool} (hn : n ≤ 400) (hw : w = wB ∨ w = wR) {m : Nat} (hm : m ≤ n ∧ pl u n m = n ∧ ∀ i, i < m → pl u n i < n) : okX (tkX u n w) m := by
  obtain ⟨h1, h2, h3⟩ := hm
  have hend : ∀ i, m ≤ i → pl u n i = n := fun i hi => by
    have := pl_stay h2 (i - m)
    rwa [show m + (i - m) = i by omega] at this
  refine ⟨by omega, fun i => ⟨fun q => ?_, fun q => ?_⟩, fun i q => ?_, fun i => (pl_mono i).1, fun i => Nat.le_trans (pl_le i) hn, fun i q => ?_, hw, fun i => ?_⟩
  · apply Classical.byContradiction
    intro z
    exact (tok_r (u := u) (h3 i (by omega))).1 q
  · show (tok u n (pl u n i)).1 = 46
    rw [hend i q, tok_end (Nat.le_refl _)]
  · by_cases y : pl u n i < n
    · exact (tok_r (u := u) y).2.2.1
    · show (tok u n (pl u n i)).2.1 ≤ 99999
      rw [tok_end (by omega)]
      show 0 ≤ 99999
      decide
  · by_cases y : pl u n i < n
    · have a := (tok_r (u := u) y).2.2.2.2.2 q
      have b := ((pl_mono (u := u) (n := n) i).2 y).2
      show pl u n i + 3 ≤ pl u n (i + 1)
      omega
    · have q' : (tok u n (pl u n i)).1 = 18 := q
      rw [tok_end (by omega)] at q'; cases q'
  · by_cases y : pl u n i < n
    · exact ⟨by have := (tok_r (u := u) y).2.1; show (tok u n (pl u n i)).1 ≤ 46; omega, (tok_r (u := u) y).2.2.1⟩
    · show (tok u n (pl u n i)).1 ≤ 46 ∧ (tok u n (pl u n i)).2.1 ≤ 99999
      rw [tok_end (by omega)]
      exact ⟨Nat.le_refl _, Nat.zero_le _⟩
