/-! both begin -/
/-- ints differ from S in the cells of K alone, longs not -/
def onlyK (K : Nat → Bool) (S S' : zS) : Prop := S'.2 = S.2 ∧ ∀ a b, K a = false → S'.1 a b = S.1 a b
theorem onlyK_z {K : Nat → Bool} {S S' : zS} {k i : Nat} {x : Int32} (hk : K k = true) (h : onlyK K S S') : onlyK K S (zI S' k i x) := ⟨h.1, fun a b n => (zI_ne (fun q => by rw [q, hk] at n; cases n)).trans (h.2 a b n)⟩
theorem onlyK_refl {K : Nat → Bool} {S : zS} : onlyK K S S := ⟨rfl, fun _ _ _ => rfl⟩
def kLife (a : Nat) : Bool := decide (166 ≤ a ∧ a ≤ 175)
def cBegun (S S' : zS) : Prop := onlyK kLife S S' ∧ S'.1 166 3 = S.1 7 2 ∧ S'.1 166 4 = 0 ∧ S'.1 166 5 = 0 ∧ S'.1 166 6 = -1 ∧ S'.1 166 7 = -1 ∧ S'.1 166 8 = 0 ∧ S'.1 166 15 = 0 ∧ S'.1 166 16 = 0 ∧ ∀ t, t < 8 → S'.1 173 t = S.1 8 t ∧ S'.1 174 t = S.1 9 t ∧ S'.1 175 t = 0 ∧ S'.1 172 t = -1
theorem c_begin {T : zT} (hT : iT T) {S : zS} : ∃ S', fX4_begin T 166 S = some ((), S') ∧ cBegun S S' := by
  unfold fX4_begin
  simp only [let_q, zT_166_0 hT]
  have hS8 : ∀ S8 : zS, onlyK kLife S S8 → S8.1 166 3 = S.1 7 2 → S8.1 166 4 = 0 → S8.1 166 5 = 0 → S8.1 166 6 = -1 → S8.1 166 7 = -1 → S8.1 166 8 = 0 → S8.1 166 15 = 0 → S8.1 166 16 = 0 → ∃ S', zb1 (lp (fun a => fX4_begin_l48 T 166 a.1 a.2) (0, S8)) (fun e21 => some ((), e21)) = some ((), S') ∧ cBegun S S' := by
    intro S8 ho a1 a2 a3 a4 a5 a6 a7 a8
    have key : zwp (lp (fun a => fX4_begin_l48 T 166 a.1 a.2) (0, S8)) (cBegun S) := by
      refine lp_for (I := fun n a => ∃ S', a = (nI n, S') ∧ onlyK kLife S S' ∧ (∀ b, S'.1 166 b = S8.1 166 b) ∧ ∀ t, t < n → S'.1 173 t = S.1 8 t ∧ S'.1 174 t = S.1 9 t ∧ S'.1 175 t = 0 ∧ S'.1 172 t = -1) 8 ?_ ?_ ?_
      · rintro n a hn ⟨S', rfl, h1, h2, h3⟩
        left
        have e8 : S'.1 8 n = S.1 8 n := h1.2 _ _ (by decide)
        have e9 : S'.1 9 n = S.1 9 n := h1.2 _ _ (by decide)
        unfold fX4_begin_l48
        show ∃ a', (if 8 ≤ nI n then _ else _) = _ ∧ _
        rw [if_neg (by rw [liq, n_le (by omega) (by omega)]; omega)]
        simp (disch := omega) only [g_in, tn_nI, let_q, zT_166_0 hT, zT_166_11 hT, zT_166_12 hT, zT_166_13 hT, zT_166_14 hT, zT_7_6 hT, zT_7_7 hT]
        simp only [n_addL]
        refine ⟨_, rfl, _, rfl, onlyK_z (by decide) (onlyK_z (by decide) (onlyK_z (by decide) (onlyK_z (by decide) h1))), fun b => ?_, fun t ht => ?_⟩
        · simp (decide := true) only [zI_ne]
          exact h2 b
        · simp (decide := true) only [zI_ne, zI_eq]
          by_cases q : t = n
          · simp only [if_pos q]
            rw [q]
            exact ⟨e8, e9, trivial, trivial⟩
          · simp only [if_neg q]
            exact h3 t (by omega)
      · rintro a ⟨S', rfl, h1, h2, h3⟩
        refine ⟨S', (by unfold fX4_begin_l48; exact if_pos (show (8 : Int32) ≤ nI 8 by decide)), h1, ?_⟩
        simp only [h2]
        exact ⟨a1, a2, a3, a4, a5, a6, a7, a8, h3⟩
      · exact ⟨S8, rfl, ho, fun _ => rfl, fun t ht => absurd ht (Nat.not_lt_zero _)⟩
    obtain ⟨S', e, q⟩ := key
    exact ⟨S', by rw [e]; rfl, q⟩
  refine hS8 _ (onlyK_z (by decide) (onlyK_z (by decide) (onlyK_z (by decide) (onlyK_z (by decide) (onlyK_z (by decide) (onlyK_z (by decide) (onlyK_z (by decide) (onlyK_z (by decide) onlyK_refl)))))))) ?_ ?_ ?_ ?_ ?_ ?_ ?_ ?_ <;> simp (decide := true) only [zI_eqn, zI_eqs]
def kRl (a : Nat) : Bool := decide (216 ≤ a ∧ a ≤ 222)
def rBegun (S S' : zS) : Prop := S'.2 = S.2 ∧ (∀ a b, ¬ (216 ≤ a ∧ a ≤ 222) → ¬ (a = 187 ∧ 47 ≤ b) → S'.1 a b = S.1 a b) ∧ (∀ b, 52 ≤ b → S'.1 187 b = S.1 187 b) ∧ S'.1 187 48 = S.1 209 0 ∧ S'.1 187 47 = 0 ∧ S'.1 187 49 = -1 ∧ S'.1 187 50 = -1 ∧ S'.1 187 51 = 0 ∧ ∀ t, t < 8 → S'.1 216 t = (if S.1 199 t = 1 then 0 else 2) ∧ S'.1 217 t = S.1 200 t ∧ S'.1 218 t = S.1 201 t ∧ S'.1 219 t = 0 ∧ S'.1 222 t = 0
theorem r_begins {T : zT} (hT : iT T) {S : zS} : ∃ S', fX12_begins T 187 S = some ((), S') ∧ rBegun S S' := by
  unfold fX12_begins
  have key : zwp (lp (fun a => fX12_begins_l2 T 187 a.1 a.2) (0, S)) (fun S' => onlyK kRl S S' ∧ ∀ t, t < 8 → S'.1 216 t = (if S.1 199 t = 1 then 0 else 2) ∧ S'.1 217 t = S.1 200 t ∧ S'.1 218 t = S.1 201 t ∧ S'.1 219 t = 0 ∧ S'.1 222 t = 0) := by
    refine lp_for (I := fun n a => ∃ S', a = (nI n, S') ∧ onlyK kRl S S' ∧ ∀ t, t < n → S'.1 216 t = (if S.1 199 t = 1 then 0 else 2) ∧ S'.1 217 t = S.1 200 t ∧ S'.1 218 t = S.1 201 t ∧ S'.1 219 t = 0 ∧ S'.1 222 t = 0) 8 ?_ ?_ ?_
    · rintro n a hn ⟨S', rfl, h1, h3⟩
      left
      have e199 : S'.1 199 n = S.1 199 n := h1.2 _ _ (by decide)
      have e200 : S'.1 200 n = S.1 200 n := h1.2 _ _ (by decide)
      have e201 : S'.1 201 n = S.1 201 n := h1.2 _ _ (by decide)
      have fin : ∀ v, v = (if S.1 199 n = 1 then 0 else 2) → ∃ a', fX12_begins_b28 T 187 (nI n) v (nI n) 216 8 S' = some (.inl a') ∧ ∃ S'', a' = (nI (n + 1), S'') ∧ onlyK kRl S S'' ∧ ∀ t, t < n + 1 → S''.1 216 t = (if S.1 199 t = 1 then 0 else 2) ∧ S''.1 217 t = S.1 200 t ∧ S''.1 218 t = S.1 201 t ∧ S''.1 219 t = 0 ∧ S''.1 222 t = 0 := by
        intro v hv
        unfold fX12_begins_b28
        simp (disch := omega) only [g_in, tn_nI, let_q, zT_187_41 hT, zT_187_42 hT, zT_187_43 hT, zT_187_46 hT, zT_187_23 hT, zT_187_24 hT]
        simp only [n_addL]
        refine ⟨_, rfl, _, rfl, onlyK_z (by decide) (onlyK_z (by decide) (onlyK_z (by decide) (onlyK_z (by decide) (onlyK_z (by decide) h1)))), fun t ht => ?_⟩
        simp (decide := true) only [zI_ne, zI_eq]
        by_cases q : t = n
        · simp only [if_pos q]
          rw [q]
          exact ⟨hv, e200, e201, trivial, rfl⟩
        · simp only [if_neg q]
          exact h3 t (by omega)
      unfold fX12_begins_l2
      show ∃ a', (if 8 ≤ nI n then _ else _) = _ ∧ _
      rw [if_neg (by rw [liq, n_le (by omega) (by omega)]; omega), g_in (by omega) (by decide), zT_187_22 hT, zT_187_40 hT, tn_nI (by omega), e199]
      by_cases q : S.1 199 n = 1
      · rw [if_pos q]; exact fin 0 (by rw [if_pos q])
      · rw [if_neg q]; exact fin 2 (by rw [if_neg q])
    · rintro a ⟨S', rfl, h1, h3⟩
      exact ⟨S', (by unfold fX12_begins_l2; exact if_pos (show (8 : Int32) ≤ nI 8 by decide)), h1, h3⟩
    · exact ⟨S, rfl, onlyK_refl, fun t ht => absurd ht (Nat.not_lt_zero _)⟩
  obtain ⟨S', e, h1, h2⟩ := key
  rw [e, b1_q, g_t (by decide)]
  simp only [let_q, zT_187_32 hT]
  have t0 : (0 : Int32).toNatClampNeg = 0 := rfl
  have e209 : S'.1 209 0 = S.1 209 0 := h1.2 _ _ (by decide)
  refine ⟨_, rfl, h1.1, fun a b n1 n2 => ?_, fun b hb => ?_, ?_, ?_, ?_, ?_, ?_, fun t ht => ?_⟩
  · simp only [zI_at]
    rw [if_neg (by omega), if_neg (by omega), if_neg (by omega), if_neg (by omega), if_neg (by omega)]
    exact h1.2 a b (decide_eq_false n1)
  · rw [zI_eqn (by omega), zI_eqn (by omega), zI_eqn (by omega), zI_eqn (by omega), zI_eqn (by omega)]
    exact h1.2 _ _ (by decide)
  · simp (decide := true) only [zI_eqn, zI_eqs, t0]; exact e209
  · simp (decide := true) only [zI_eqn, zI_eqs]
  · simp (decide := true) only [zI_eqn, zI_eqs]
  · simp (decide := true) only [zI_eqn, zI_eqs]
  · simp (decide := true) only [zI_eqn, zI_eqs]
  · simp (decide := true) only [zI_ne]
    exact h2 t ht
