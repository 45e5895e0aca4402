/-! SETS one after another, down -/
theorem and_div2 (a b : Nat) : (a &&& b) / 2 = (a / 2) &&& (b / 2) := by
  apply Nat.eq_of_testBit_eq
  intro i
  rw [Nat.testBit_and, Nat.testBit_div_two, Nat.testBit_div_two, Nat.testBit_div_two, Nat.testBit_and]
theorem and_mod2 (a b : Nat) : (a &&& b) % 2 = if a % 2 = 1 ∧ b % 2 = 1 then 1 else 0 := by
  have h := Nat.testBit_and a b 0
  rw [Nat.testBit_zero, Nat.testBit_zero, Nat.testBit_zero] at h
  by_cases z : a % 2 = 1 ∧ b % 2 = 1
  · rw [if_pos z]
    rw [decide_eq_true z.1, decide_eq_true z.2] at h
    exact of_decide_eq_true h
  · rw [if_neg z]
    have : ¬ (a &&& b) % 2 = 1 := by
      intro q
      rw [decide_eq_true q] at h
      have h' := h.symm
      rw [Bool.and_eq_true] at h'
      exact z ⟨of_decide_eq_true h'.1, of_decide_eq_true h'.2⟩
    omega
theorem sub_next : ∀ s, 0 < s → ∀ m v, s &&& m = s → v &&& m = v → v < s → v ≤ (s - 1) &&& m := by
  intro s
  induction s using Nat.strongRecOn with
  | _ s ih =>
    intro h0 m v hs hv hlt
    have s1 := and_div2 s m
    have s2 := and_mod2 s m
    have v1 := and_div2 v m
    have v2 := and_mod2 v m
    have e1 := and_div2 (s - 1) m
    have e2 := and_mod2 (s - 1) m
    rw [hs] at s1 s2
    rw [hv] at v1 v2
    by_cases odd : s % 2 = 1
    · rw [show (s - 1) / 2 = s / 2 by omega, ← s1] at e1
      generalize (s - 1) &&& m = k at e1 e2 ⊢
      omega
    · have i := ih (s / 2) (by omega) (by omega) (m / 2) (v / 2) s1.symm v1.symm (by omega)
      rw [show (s - 1) / 2 = s / 2 - 1 by omega] at e1
      rw [← e1] at i
      generalize (s - 1) &&& m = k at e1 e2 i ⊢
      by_cases z : m % 2 = 1
      · rw [if_pos ⟨by omega, z⟩] at e2
        omega
      · rw [if_neg (fun q => z q.2)] at v2
        omega
theorem nI_and {a b : Nat} (ha : a < 256) (hb : b < 256) : nI a &&& nI b = nI (a &&& b) := by
  refine is8_ext (is8_and (is8_nI ha)) (is8_nI (Nat.lt_of_le_of_lt Nat.and_le_left ha)) (fun t ht => ?_)
  rw [m_and, zm_nI ha, zm_nI hb, zm_nI (Nat.lt_of_le_of_lt Nat.and_le_left ha), Nat.testBit_and]
