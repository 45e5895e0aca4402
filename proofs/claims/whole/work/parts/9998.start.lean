/-! THE REFERENCE CLEARS A BOOK; THE START -/
def clr7 (S : zS) (b : Nat) : zS := zI (zI (zI (zI (zI (zI (zI S 199 b 0) 200 b 0) 201 b 0) 202 b (-1)) 203 b 0) 204 b 0) 205 b 0
def clV (a : Nat) : Int32 := if a = 202 then -1 else 0
theorem clr7_at {S : zS} {b a c : Nat} : (clr7 S b).1 a c = if 199 ≤ a ∧ a ≤ 205 ∧ c = b then clV a else S.1 a c := by
  unfold clr7
  by_cases h : 199 ≤ a ∧ a ≤ 205 ∧ c = b
  · obtain ⟨h1, h2, rfl⟩ := h
    rw [if_pos ⟨h1, h2, rfl⟩]
    have : a = 199 ∨ a = 200 ∨ a = 201 ∨ a = 202 ∨ a = 203 ∨ a = 204 ∨ a = 205 := by omega
    rcases this with rfl | rfl | rfl | rfl | rfl | rfl | rfl <;> simp (disch := decide) only [zI_eqs, zI_ne] <;> rfl
  · rw [if_neg h, zI_o (by omega), zI_o (by omega), zI_o (by omega), zI_o (by omega), zI_o (by omega), zI_o (by omega), zI_o (by omega)]
/-- one book's cells, cleared -/
def clB (s : Nat) (S S' : zS) : Prop := S'.2 = S.2 ∧ (∀ a t, 199 ≤ a → a ≤ 205 → t < 8 → S'.1 a (8 * s + t) = clV a) ∧ S'.1 206 s = 1000 ∧ S'.1 207 s = 0 ∧ S'.1 208 s = -1 ∧ S'.1 209 s = 0 ∧ S'.1 210 s = 12 ∧ ∀ a b, ¬ (199 ≤ a ∧ a ≤ 205 ∧ 8 * s ≤ b ∧ b < 8 * s + 8) → ¬ (206 ≤ a ∧ a ≤ 210 ∧ b = s) → S'.1 a b = S.1 a b
theorem r_clears {T : zT} (hT : iT T) {s : Nat} (hs : s < 2) (S : zS) : ∃ S', fX12_clears T 187 (nI s) S = some ((), S') ∧ clB s S S' := by
  have key : zwp (lp (fun a => fX12_clears_l5 T 187 (nI s) a.1 a.2) (nI (8 * s), S)) (fun S' => S'.2 = S.2 ∧ ∀ a c, S'.1 a c = if 199 ≤ a ∧ a ≤ 205 ∧ 8 * s ≤ c ∧ c < 8 * s + 8 then clV a else S.1 a c) := by
    refine lp_for (I := fun q a => ∃ S', a = (nI (8 * s + q), S') ∧ S'.2 = S.2 ∧ ∀ a c, S'.1 a c = if 199 ≤ a ∧ a ≤ 205 ∧ 8 * s ≤ c ∧ c < 8 * s + q then clV a else S.1 a c) 8 ?_ ?_ ?_
    · rintro q a hq ⟨S', rfl, h1, h2⟩
      left
      refine ⟨(nI (8 * s + (q + 1)), clr7 S' (8 * s + q)), ?_, _, rfl, h1, fun a c => ?_⟩
      · show fX12_clears_l5 T 187 (nI s) (nI (8 * s + q)) S' = _
        unfold fX12_clears_l5
        rw [show (8 : Int32) * nI s + 8 = nI (8 * s + 8) from by rw [show (8 : Int32) * nI s = nI (8 * s) from by rw [liq, n_mul], n_addL], if_neg (show ¬ nI (8 * s + 8) ≤ nI (8 * s + q) by rw [n_le (by omega) (by omega)]; omega)]
        simp only [g_in (show 8 * s + q < 16 by omega) (show 16 < 2147483648 by decide), tn_nI (show 8 * s + q < 2147483648 by omega), zT_187_22 hT, zT_187_23 hT, zT_187_24 hT, zT_187_25 hT, zT_187_26 hT, zT_187_27 hT, zT_187_28 hT, let_q, n_addL]
        rfl
      · rw [clr7_at, h2]
        by_cases z : 199 ≤ a ∧ a ≤ 205 ∧ c = 8 * s + q
        · rw [if_pos z, if_pos (by omega)]
        · rw [if_neg z]
          by_cases y : 199 ≤ a ∧ a ≤ 205 ∧ 8 * s ≤ c ∧ c < 8 * s + q
          · rw [if_pos y, if_pos (by omega)]
          · rw [if_neg y, if_neg (by omega)]
    · rintro a ⟨S', rfl, h1, h2⟩
      refine ⟨S', ?_, h1, h2⟩
      show fX12_clears_l5 T 187 (nI s) (nI (8 * s + 8)) S' = _
      unfold fX12_clears_l5
      rw [show (8 : Int32) * nI s + 8 = nI (8 * s + 8) from by rw [show (8 : Int32) * nI s = nI (8 * s) from by rw [liq, n_mul], n_addL], if_pos (show nI (8 * s + 8) ≤ nI (8 * s + 8) by rw [n_le (by omega) (by omega)]; omega)]
    · exact ⟨S, rfl, rfl, fun a c => by rw [if_neg (by omega)]⟩
  obtain ⟨S1, e1, h1, h2⟩ := key
  unfold fX12_clears
  rw [show (8 : Int32) * nI s = nI (8 * s) from by rw [liq, n_mul], let_q, e1, b1_q]
  simp only [g_in hs (show 2 < 2147483648 by decide), tn_nI (show s < 2147483648 by omega), zT_187_29 hT, zT_187_30 hT, zT_187_31 hT, zT_187_32 hT, zT_187_33 hT, let_q]
  refine ⟨_, rfl, h1, fun a t q1 q2 q3 => ?_, ?_, ?_, ?_, ?_, ?_, fun a b q1 q2 => ?_⟩
  · rw [zI_ne (by omega), zI_ne (by omega), zI_ne (by omega), zI_ne (by omega), zI_ne (by omega), h2, if_pos (by omega)]
  · simp (disch := decide) only [zI_eqs, zI_ne]
  · simp (disch := decide) only [zI_eqs, zI_ne]
  · simp (disch := decide) only [zI_eqs, zI_ne]
  · simp (disch := decide) only [zI_eqs, zI_ne]
  · simp (disch := decide) only [zI_eqs, zI_ne]
  · rw [zI_o (by omega), zI_o (by omega), zI_o (by omega), zI_o (by omega), zI_o (by omega), h2, if_neg q1]
theorem t0_iT : iT TT462 := Or.inl rfl
/-- the book told first: nothing -/
def bk0 : Bk := (fun j t => if j = 6 then (if t = 1 then 12 else if t = 3 then 1000 else if t = 5 then -1 else 0) else if j = 2 then -1 else 0, [])
theorem bk0_8 : is8 (bth bk0) := fun t ht => m_0
theorem bk0_ok : okB bk0 := by
  refine ⟨bk0_8, fun t ht hz => ?_, by unfold btw; decide +kernel, by unfold btw; decide +kernel, by unfold btw; decide +kernel, by unfold btw; decide +kernel, Or.inl rfl, by decide, fun c hc => by cases hc⟩
  have : zm (bth bk0) t = false := m_0
  rw [this] at hz; cases hz
theorem start_C : SS236.1 0 1 = 0 ∧ SS236.1 0 7 = 0 ∧ SS236.1 187 1 = 0 ∧ SS236.1 187 5 = 0 ∧ SS236.1 187 36 = 0 ∧ SS236.1 191 0 = 0 ∧ SS236.1 176 2 = 0 ∧ SS236.1 41 3 = 0 := by
  refine ⟨?_, ?_, ?_, ?_, ?_, ?_, ?_, ?_⟩ <;> decide +kernel
theorem start_B : (∀ i, i < 6 → SS236.1 7 i = bk0.1 6 i) ∧ SS236.1 14 3 = 0 ∧ SS236.1 18 3 = 0 ∧ SS236.1 22 1 = 0 ∧ ∀ k, k < 4 → SS236.1 162 k = 0 ∧ SS236.1 228 k = 0 := by
  refine ⟨?_, ?_, ?_, ?_, ?_⟩ <;> decide +kernel
theorem start_I : ∃ r : Unit × zS, fX12_clears TT462 187 0 SS236 = some r ∧ invTS TT462 r.2 := by
  obtain ⟨S', e, c1, c2, c3, c4, c5, c6, c7, c8⟩ := r_clears t0_iT (s := 0) (by decide) SS236
  obtain ⟨a1, a2, a3, a4, a5, a6, a7, a8⟩ := start_C
  obtain ⟨b1, b2, b3, b4, b5⟩ := start_B
  refine ⟨((), S'), e, t0_iT, ⟨0, by decide, by rw [c8 _ _ (by decide) (by decide)]; exact a1, by rw [c8 _ _ (by decide) (by decide)]; exact a3, fun i hi => absurd hi (Nat.not_lt_zero _)⟩, ⟨0, by decide, by rw [c8 _ _ (by decide) (by decide)]; exact a2, by rw [c8 _ _ (by decide) (by decide)]; exact a4, fun q hq => absurd hq (Nat.not_lt_zero _)⟩, fun k hk => ?_, bk0, (0, fun _ _ => 0), ⟨bk0_ok, ⟨by decide, fun i hi => absurd hi (Nat.not_lt_zero _)⟩, ⟨fun i hi => ?_, fun t ht hz => ?_, ⟨?_, by decide, fun i c hc => by cases hc⟩, ⟨?_, by decide, fun i c hc => by cases hc⟩, (fun c hc => by cases hc), 0, by decide, ?_⟩, ⟨fun t ht => ?_, fun t ht j hj => ?_, c7, c6, c3, c4, c5, ?_, by decide, fun i c hc => by cases hc⟩, ⟨?_, fun i hi => absurd hi (Nat.not_lt_zero _)⟩, ?_, fun i hi => absurd hi (Nat.not_lt_zero _)⟩, Or.inl ?_⟩
  · rw [c8 _ _ (by omega) (by omega), c8 _ _ (by omega) (by omega), (b5 k hk).1, (b5 k hk).2]
    exact ⟨rfl, Or.inl rfl⟩
  · rw [c8 _ _ (by omega) (by omega)]; exact b1 i hi
  · have : zm (bth bk0) t = false := m_0
    rw [this] at hz; cases hz
  · exact (c8 14 3 (by omega) (by omega)).trans b2
  · exact (c8 18 3 (by omega) (by omega)).trans b3
  · exact (c8 22 1 (by omega) (by omega)).trans b4
  · have := c2 199 t (by omega) (by omega) ht
    rw [Nat.mul_zero, Nat.zero_add] at this
    rw [this]
    have hz : zm (bth bk0) t = false := m_0
    rw [hz]; rfl
  · have := c2 (200 + j) t (by omega) (by omega) ht
    rw [Nat.mul_zero, Nat.zero_add] at this
    rw [this]
    show (if 200 + j = 202 then (-1 : Int32) else 0) = if j = 6 then _ else if j = 2 then -1 else 0
    rw [if_neg (show ¬ j = 6 by omega)]
    by_cases z : j = 2
    · rw [if_pos z, if_pos (by omega)]
    · rw [if_neg z, if_neg (by omega)]
  · rw [c8 _ _ (by omega) (by omega)]; exact a6
  · rw [c8 _ _ (by omega) (by omega)]; exact a8
  · rw [c8 _ _ (by omega) (by omega)]; exact a5
  · rw [c8 _ _ (by omega) (by omega)]; exact a7
