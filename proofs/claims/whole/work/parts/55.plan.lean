/-! PLANS as numbers: the most of a row; sets; costs; a week's step -/
def bst (f : Nat → Int) : Nat → Int
  | 0 => -1
  | n + 1 => if bst f n < f n then f n else bst f n
theorem bst_m1 (f : Nat → Int) : ∀ n, -1 ≤ bst f n
  | 0 => Int.le_refl _
  | n + 1 => by
    show -1 ≤ (if bst f n < f n then f n else bst f n)
    have := bst_m1 f n
    split <;> omega
theorem bst_ge (f : Nat → Int) : ∀ n i, i < n → f i ≤ bst f n
  | 0, i, h => absurd h (Nat.not_lt_zero _)
  | n + 1, i, h => by
    show f i ≤ (if bst f n < f n then f n else bst f n)
    by_cases q : i = n
    · subst q; split <;> omega
    · have := bst_ge f n i (by omega)
      split <;> omega
theorem bst_at (f : Nat → Int) : ∀ n, bst f n = -1 ∨ ∃ i, i < n ∧ bst f n = f i
  | 0 => Or.inl rfl
  | n + 1 => by
    show (if bst f n < f n then f n else bst f n) = -1 ∨ ∃ i, i < n + 1 ∧ (if bst f n < f n then f n else bst f n) = f i
    by_cases q : bst f n < f n
    · rw [if_pos q]; exact Or.inr ⟨n, by omega, rfl⟩
    · rw [if_neg q]
      rcases bst_at f n with h | ⟨i, hi, h⟩
      · exact Or.inl h
      · exact Or.inr ⟨i, by omega, h⟩
theorem bst_uniq {f : Nat → Int} {n : Nat} {v : Int} (h1 : ∀ i, i < n → f i ≤ v) (h2 : v = -1 ∨ ∃ i, i < n ∧ v = f i) (h3 : -1 ≤ v) : v = bst f n := by
  have a := bst_m1 f n
  rcases h2 with h | ⟨i, hi, h⟩
  · rcases bst_at f n with q | ⟨j, hj, q⟩
    · omega
    · have := h1 j hj; omega
  · have b := bst_ge f n i hi
    rcases bst_at f n with q | ⟨j, hj, q⟩
    · omega
    · have := h1 j hj; omega
theorem bst_congr {f g : Nat → Int} : ∀ {n : Nat}, (∀ i, i < n → f i = g i) → bst f n = bst g n
  | 0, _ => rfl
  | n + 1, h => by
    show (if bst f n < f n then f n else bst f n) = (if bst g n < g n then g n else bst g n)
    rw [bst_congr (fun i hi => h i (by omega)), h n (by omega)]
/-- a set by its things -/
def stN (p : Nat → Bool) : Nat → Int32
  | 0 => 0
  | n + 1 => if p n = true then stN p n ||| (1 <<< (nI n &&& 31)) else stN p n
theorem stN_m (p : Nat → Bool) : ∀ n, n ≤ 8 → ∀ t, zm (stN p n) t = (decide (t < n) && p t)
  | 0, _, t => by rw [show stN p 0 = 0 from rfl, m_0, decide_eq_false (Nat.not_lt_zero _)]; rfl
  | n + 1, h, t => by
    have ih := stN_m p n (by omega) t
    show zm (if p n = true then stN p n ||| (1 <<< (nI n &&& 31)) else stN p n) t = _
    by_cases q : p n = true
    · rw [if_pos q, m_or, ih, m_shl8 (by omega)]
      by_cases z : t = n
      · subst z; rw [decide_eq_true rfl, q, decide_eq_true (by omega : t < t + 1)]; simp
      · rw [decide_eq_false z]
        by_cases y : t < n
        · rw [decide_eq_true y, decide_eq_true (by omega : t < n + 1)]; simp
        · rw [decide_eq_false y, decide_eq_false (by omega : ¬ t < n + 1)]; rfl
    · rw [if_neg q, ih]
      by_cases z : t = n
      · subst z; rw [show p t = false by simpa using q]; simp
      · by_cases y : t < n
        · rw [decide_eq_true y, decide_eq_true (by omega : t < n + 1)]
        · rw [decide_eq_false y, decide_eq_false (by omega : ¬ t < n + 1)]
def st8 (p : Nat → Bool) : Int32 := stN p 8
theorem st8_m {p : Nat → Bool} {t : Nat} (ht : t < 8) : zm (st8 p) t = p t := by unfold st8; rw [stN_m p 8 (by omega) t, decide_eq_true ht, Bool.true_and]
theorem st8_is8 {p : Nat → Bool} : is8 (st8 p) := fun t ht => by unfold st8; rw [stN_m p 8 (by omega) t, decide_eq_false (by omega), Bool.false_and]
theorem st8_eq {p : Nat → Bool} {x : Int32} (hx : is8 x) (h : ∀ t, t < 8 → (zm x t = true ↔ p t = true)) : x = st8 p := is8_ext hx st8_is8 (fun t ht => by rw [st8_m ht]; exact b_iff (h t ht))
/-- what things cost -/
def cst (o : Nat → Int) (s : Int32) : Nat → Int
  | 0 => 0
  | n + 1 => cst o s n + if zm s n = true then o n else 0
def cs8 (o : Nat → Int) (s : Int32) : Int := cst o s 8
def sb (x y : Int32) : Prop := x &&& (y ^^^ (-1)) = 0
def mi (x y : Int32) : Int32 := x &&& (y ^^^ (-1))
theorem mi_m {x y : Int32} {t : Nat} : zm (mi x y) t = (zm x t && !zm y t) := m_dif
theorem sb_m {x y : Int32} (hx : is8 x) : sb x y ↔ ∀ t, t < 8 → zm x t = true → zm y t = true := m_sub8 hx
/-- from a set to a set in a week, no gain yet -/
def cdP (prev : Nat → Int) (inn : Int32) (o : Nat → Int) (to fr : Nat) : Int := if 0 ≤ prev fr ∧ mi (nI fr) (nI to) = 0 ∧ mi (mi (nI to) (nI fr)) inn = 0 ∧ cs8 o (mi (nI to) (nI fr)) ≤ prev fr then prev fr - cs8 o (mi (nI to) (nI fr)) else -1
def pst (prev : Nat → Int) (inn : Int32) (o : Nat → Int) (to : Nat) : Int := bst (cdP prev inn o to) 256
/-- a coin and what comes to it; none if that is below nothing -/
def adI (x d : Int) : Int := if x < 0 then -1 else if x + d < 0 then -1 else x + d
def stp (prev : Nat → Int) (inn : Int32) (o g : Nat → Int) (to : Nat) : Int := adI (pst prev inn o to) (g to)
/-- weeks one behind another: line n is ahead of week n -/
def lnG (start : Nat → Int) (adj : Nat → Int → Int) (inn : Nat → Int32) (o g : Nat → Nat → Int) : Nat → Nat → Int
  | 0 => start
  | w + 1 => stp (fun s => adj w (lnG start adj inn o g w s)) (inn w) (o w) (g w)
theorem adI_m1 {x d : Int} : -1 ≤ adI x d := by unfold adI; split <;> (try split) <;> omega
theorem adI_congr {x d d' : Int} (h : 0 ≤ x → d = d') : adI x d = adI x d' := by
  unfold adI
  by_cases q : x < 0
  · rw [if_pos q, if_pos q]
  · rw [if_neg q, if_neg q, h (by omega)]
/-- the same by candidates with their gain -/
theorem stp_bst {prev : Nat → Int} {inn : Int32} {o g : Nat → Int} {to : Nat} : stp prev inn o g to = bst (fun fr => adI (cdP prev inn o to fr) (g to)) 256 := by
  unfold stp
  apply bst_uniq
  · intro i hi
    have h1 := bst_ge (cdP prev inn o to) 256 i hi
    unfold pst adI
    split <;> split <;> (try split) <;> (try split) <;> omega
  · rcases bst_at (cdP prev inn o to) 256 with h | ⟨i, hi, h⟩
    · left
      unfold pst adI
      rw [h, if_pos (by omega)]
    · right
      exact ⟨i, hi, by unfold pst; rw [h]⟩
  · exact adI_m1
/-! what a book tells of weeks -/
def bw (B : Bk) : Nat := (B.1 6 1).toNatClampNeg
def owI (B : Bk) (w t : Nat) : Int := (B.1 0 t).toInt + (B.1 1 t).toInt * w
def lsS (B : Bk) (w : Nat) : Int32 := st8 (fun t => zm (bth B) t && (decide (¬ B.1 2 t = -1) && decide (B.1 2 t ≤ nI w)))
/-- EARNED or NEED, of so many IN -/
def brN (B : Bk) (k : Nat) (w home : Int32) (n : Nat) : Int32 := ern (envB w (nI (pc home)) (nI n)) home (B.2.filter (ofK k))
theorem brN_eq {B : Bk} {k : Nat} {w home inn : Int32} : bern B k w home inn = brN B k w home (pc inn) := rfl
def gnN (B : Bk) (w s n : Nat) : Int := (brN B 1 (nI w) (nI s) n).toInt - (brN B 2 (nI w) (nI s) n).toInt
def inS (B : Bk) (w s : Nat) : Int32 := mi (mi (bth B) (nI s)) (lsS B w)
def stI (h : Nat) (c : Int) (s : Nat) : Int := if s = h then c else -1
/-- all as it is -/
def bsL (B : Bk) : Nat → Nat → Int := lnG (stI 0 (B.1 6 2).toInt) (fun _ x => x) (fun w => mi (bth B) (lsS B w)) (owI B) (fun w s => gnN B w s (pc (inS B w s)))
/-- the least set ahead of a week from which what can be at its end comes -/
def ahd (B : Bk) (w to fr : Nat) : Prop := 0 ≤ bsL B w fr ∧ adI (cdP (bsL B w) (mi (bth B) (lsS B w)) (owI B w) to fr) (gnN B w to (pc (inS B w to))) = bsL B (w + 1) to
def isL (p : Nat → Prop) (i : Nat) : Prop := p i ∧ ∀ j, j < i → ¬ p j
/-- THE PLAN: what is home at the end of each week -/
def plH (B : Bk) (hb : Nat → Nat) : Prop := isL (fun s => s < 256 ∧ bsL B (bw B) s = bst (bsL B (bw B)) 256) (hb (bw B)) ∧ hb 0 = 0 ∧ ∀ w, 1 ≤ w → w < bw B → isL (fun fr => fr < 256 ∧ ahd B w (hb (w + 1)) fr) (hb w)
def ftW (B : Bk) (hb : Nat → Nat) (t : Nat) (x : Int32) : Prop := (x = -1 ∧ ∀ w, 1 ≤ w → w ≤ bw B → zm (nI (hb w)) t = false) ∨ ∃ w, w < bw B ∧ x = nI w ∧ zm (nI (hb (w + 1))) t = true ∧ ∀ v, v ≤ w → zm (nI (hb v)) t = false
def cnt (p : Nat → Bool) : Nat → Nat
  | 0 => 0
  | n + 1 => cnt p n + if p n = true then 1 else 0
/-- what the class's plans hold, once ready -/
def plOK (B : Bk) (s : Nat → Nat → Int32) : Prop :=
  (∀ w, w < bw B → ∀ i, i < 256 → (s 178 (256 * w + i)).toInt = bsL B (w + 1) i) ∧
  (∀ w, w < bw B → ∀ i, i < 256 → mi (nI i) (bth B) = 0 → (s 179 (256 * w + i)).toInt = gnN B w i (pc (inS B w i))) ∧
  (zm (s 22 2) 21 = true → ∀ w, w < bw B → ∀ i, i < 256 → mi (nI i) (bth B) = 0 → (s 180 (256 * w + i)).toInt = gnN B w i (pc (inS B w i) - 1)) ∧
  (s 176 3).toInt = bst (bsL B (bw B)) 256 ∧
  s 176 5 = nI (cnt (fun k => decide (0 ≤ bsL B (k / 256 + 1) (k % 256))) (256 * bw B)) ∧
  s 176 6 = st8 (fun t => (List.range (256 * bw B)).any (fun k => decide (0 ≤ bsL B (k / 256 + 1) (k % 256)) && zm (nI (k % 256)) t)) ∧
  (0 ≤ bst (bsL B (bw B)) 256 → ∃ hb, plH B hb ∧ s 176 4 = nI (hb (bw B)) ∧ ∀ t, t < 8 → ftW B hb t (s 177 t))
