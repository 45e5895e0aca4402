theorem z_nlt {x y : Int32} (h : ¬ x < y) : y ≤ x := z_le.mpr (by have q : ¬ x.toInt < y.toInt := fun q => h (z_lt.mpr q); omega)
theorem z_nle {x y : Int32} (h : ¬ x ≤ y) : y < x := z_lt.mpr (by have q : ¬ x.toInt ≤ y.toInt := fun q => h (z_le.mpr q); omega)
/-! loops that gather bits -/
theorem lp_bits {f : Int32 × Int32 → Option ((Int32 × Int32) ⊕ Int32)} (P : Nat → Prop) (h : ∀ n x, n < 8 → (P n ∧ f (x, nI n) = some (.inl (x ||| (1 <<< (nI n &&& 31)), nI (n + 1)))) ∨ (¬ P n ∧ f (x, nI n) = some (.inl (x, nI (n + 1))))) (he : ∀ x, f (x, nI 8) = some (.inr x)) : ∃ p, lp f (0, 0) = some p ∧ is8 p ∧ ∀ t, t < 8 → (zm p t = true ↔ P t) := by
  have key : zwp (lp f (0, 0)) (fun p => is8 p ∧ ∀ t, t < 8 → (zm p t = true ↔ P t)) := by
    refine lp_for (I := fun n a => ∃ x, a = (x, nI n) ∧ (∀ t, t < n → (zm x t = true ↔ P t)) ∧ ∀ t, n ≤ t → zm x t = false) 8 ?_ ?_ ?_
    · rintro n a hn ⟨x, rfl, h1, h2⟩
      left
      rcases h n x hn with ⟨hp, e⟩ | ⟨hp, e⟩
      · refine ⟨_, e, _, rfl, fun t ht => ?_, fun t ht => ?_⟩
        · rw [m_or, m_shl8 hn]
          by_cases q : t = n
          · subst q; rw [decide_eq_true rfl, Bool.or_true]; exact ⟨fun _ => hp, fun _ => rfl⟩
          · rw [decide_eq_false q, Bool.or_false]; exact h1 t (by omega)
        · rw [m_or, m_shl8 hn, h2 t (by omega), decide_eq_false (by omega)]; rfl
      · refine ⟨_, e, _, rfl, fun t ht => ?_, fun t ht => h2 t (by omega)⟩
        by_cases q : t = n
        · subst q; rw [h2 t (Nat.le_refl _)]; exact ⟨fun z => (by cases z), fun z => absurd z hp⟩
        · exact h1 t (by omega)
    · rintro a ⟨x, rfl, h1, h2⟩
      exact ⟨x, he x, h2, h1⟩
    · exact ⟨0, rfl, fun t ht => absurd ht (Nat.not_lt_zero _), fun t _ => m_0⟩
  obtain ⟨p, e, q⟩ := key
  exact ⟨p, e, q⟩
theorem v_isLost {T : zT} {kb t : Nat} {w : Int32} {S : zS} (h8 : zr T kb 8 = kb + 3) (ht : t < 8) : ∃ r : Int32, fX0_isLost T kb (nI t) w S = some r ∧ (r = 1 ∧ (¬ S.1 (kb + 3) t = -1 ∧ S.1 (kb + 3) t ≤ w) ∨ r = 0 ∧ ¬ (¬ S.1 (kb + 3) t = -1 ∧ S.1 (kb + 3) t ≤ w)) := by
  unfold fX0_isLost fX0_isLost_b24 fX0_isLost_b25
  simp (disch := omega) only [g_in, tn_nI, h8]
  by_cases h1 : S.1 (kb + 3) t = -1
  · rw [if_pos h1]; exact ⟨0, rfl, Or.inr ⟨rfl, fun q => q.1 h1⟩⟩
  · rw [if_neg h1]
    by_cases h2 : w < S.1 (kb + 3) t
    · rw [if_pos h2]; exact ⟨0, rfl, Or.inr ⟨rfl, fun q => by have a := z_lt.mp h2; have b := z_le.mp q.2; omega⟩⟩
    · rw [if_neg h2]; exact ⟨1, rfl, Or.inl ⟨rfl, h1, z_nlt h2⟩⟩
theorem v_lostBy {T : zT} (hT : iT T) {w : Int32} {S : zS} : ∃ p, fX0_lostBy T 7 w S = some p ∧ is8 p ∧ ∀ t, t < 8 → (zm p t = true ↔ zm (S.1 7 0) t = true ∧ ¬ S.1 10 t = -1 ∧ S.1 10 t ≤ w) := by
  obtain ⟨p, e, q⟩ := lp_bits (f := fun a => fX0_lostBy_l4 T 7 w S a.1 a.2) (fun t => zm (S.1 7 0) t = true ∧ ¬ S.1 10 t = -1 ∧ S.1 10 t ≤ w) (fun n x hn => by
    unfold fX0_lostBy_l4 fX0_lostBy_b36
    simp only [let_q]
    rw [if_neg (by rw [n_leL (by omega) (by omega)]; omega)]
    simp only [n_addL]
    by_cases h1 : zm (S.1 7 0) n = true
    · rw [if_neg (fun q => by rw [m_sh0 (by omega), h1] at q; cases q)]
      obtain ⟨r, e, ⟨e2, h⟩ | ⟨e2, h⟩⟩ := v_isLost (T := T) (kb := 7) (w := w) (S := S) (zT_7_8 hT) hn
      · rw [e, b1_q, e2, if_neg (by decide)]
        exact Or.inl ⟨⟨h1, h⟩, rfl⟩
      · rw [e, b1_q, e2, if_pos rfl]
        exact Or.inr ⟨fun q => h q.2, rfl⟩
    · rw [if_pos ((m_sh0 (x := S.1 7 0) (t := n) (by omega)).mpr (by simpa using h1))]
      exact Or.inr ⟨fun q => h1 q.1, rfl⟩) (fun x => by
    unfold fX0_lostBy_l4
    exact if_pos (show (8 : Int32) ≤ nI 8 by decide))
  refine ⟨p, ?_, q⟩
  unfold fX0_lostBy
  rw [e]
  rfl
/-! a life in the reference: its small functions -/
theorem r_placed {T : zT} (hT : iT T) {c : Int32} {S : zS} : ∃ p, fX12_placed T 187 c S = some p ∧ is8 p ∧ ∀ t, t < 8 → (zm p t = true ↔ S.1 216 t = c ∧ S.1 199 t = 1) := by
  obtain ⟨p, e, q⟩ := lp_bits (f := fun a => fX12_placed_l4 T 187 c S a.1 a.2) (fun t => S.1 216 t = c ∧ S.1 199 t = 1) (fun n x hn => by
    unfold fX12_placed_l4 fX12_placed_b37 fX12_placed_b38
    simp only [let_q]
    rw [if_neg (by rw [liq, n_le (by omega) (by omega)]; omega), g_in hn (by decide), g_in (by omega) (by decide), zT_187_40 hT, zT_187_22 hT, tn_nI (by omega), Int32.or_zero]
    have e1 : nI n + 1 = nI (n + 1) := n_addL
    rw [e1]
    by_cases h1 : S.1 216 n = c
    · rw [if_pos h1]
      by_cases h2 : S.1 199 n = 1
      · rw [if_pos h2]; exact Or.inl ⟨⟨h1, h2⟩, rfl⟩
      · rw [if_neg h2]; exact Or.inr ⟨fun q => h2 q.2, rfl⟩
    · rw [if_neg h1]; exact Or.inr ⟨fun q => h1 q.1, rfl⟩) (fun x => by
    unfold fX12_placed_l4
    exact if_pos (show (8 : Int32) ≤ nI 8 by decide))
  refine ⟨p, ?_, q⟩
  unfold fX12_placed
  rw [e]
  rfl
theorem r_all {T : zT} (hT : iT T) {B : Bk} {S : zS} (h : bkR S.1 B) (i8 : is8 (bth B)) : fX12_all T 187 S = some (bth B) := by
  obtain ⟨p, e, q1, q2⟩ := lp_bits (f := fun a => fX12_all_l4 T 187 S a.1 a.2) (fun t => zm (bth B) t = true) (fun n x hn => by
    unfold fX12_all_l4
    simp only [let_q]
    rw [if_neg (by rw [liq, n_le (by omega) (by omega)]; omega), g_in (by omega) (by decide), zT_187_22 hT, tn_nI (by omega), h.1 n hn]
    have e1 : nI n + 1 = nI (n + 1) := n_addL
    rw [e1]
    by_cases h1 : zm (bth B) n = true
    · rw [if_pos h1]; exact Or.inl ⟨h1, rfl⟩
    · rw [if_neg h1, show (0 : Int32) <<< (nI n &&& 31) = 0 from by
        have k : ∀ n, n < 8 → (0 : Int32) <<< (nI n &&& 31) = 0 := by decide
        exact k n hn, Int32.or_zero]
      exact Or.inr ⟨h1, rfl⟩) (fun x => by
    unfold fX12_all_l4
    exact if_pos (show (8 : Int32) ≤ nI 8 by decide))
  unfold fX12_all
  rw [e, b1_q]
  congr 1
  refine is8_ext q1 i8 (fun t ht => ?_)
  have := q2 t ht
  cases h1 : zm p t <;> cases h2 : zm (bth B) t <;> simp_all
def rowd (S : zS) (t : Nat) (w : Int32) : Int32 := S.1 217 t + S.1 218 t * (w - S.1 219 t)
theorem r_owedNow {T : zT} (hT : iT T) {S : zS} {t : Nat} {w : Int32} (ht : t < 8) : fX12_owedNow T 187 (nI t) w S = some (rowd S t w) := by
  unfold fX12_owedNow rowd
  simp (disch := omega) only [g_in, tn_nI, zT_187_41 hT, zT_187_42 hT, zT_187_43 hT]
/-- only the ints of cell k differ -/
def onlyI (S S' : zS) (k : Nat) : Prop := S'.2 = S.2 ∧ ∀ a b, a ≠ k → S'.1 a b = S.1 a b
theorem onlyI_refl {S : zS} {k : Nat} : onlyI S S k := ⟨rfl, fun _ _ _ => rfl⟩
theorem onlyI_z {S S' : zS} {k i : Nat} {x : Int32} (h : onlyI S S' k) : onlyI S (zI S' k i x) k := ⟨h.1, fun a b n => (zI_ne n).trans (h.2 a b n)⟩
theorem r_loses {T : zT} (hT : iT T) {w : Int32} {S : zS} : ∃ S', fX12_loses T 187 w S = some ((), S') ∧ onlyI S S' 216 ∧ ∀ t, t < 8 → S'.1 216 t = if S.1 216 t = 0 ∧ ¬ S.1 202 t = -1 ∧ S.1 202 t ≤ w then 2 else S.1 216 t := by
  have key : zwp (lp (fun a => fX12_loses_l2 T 187 w a.1 a.2) (0, S)) (fun S' => onlyI S S' 216 ∧ ∀ t, t < 8 → S'.1 216 t = if S.1 216 t = 0 ∧ ¬ S.1 202 t = -1 ∧ S.1 202 t ≤ w then 2 else S.1 216 t) := by
    refine lp_for (I := fun n a => ∃ S', a = (nI n, S') ∧ onlyI S S' 216 ∧ (∀ t, t < n → S'.1 216 t = if S.1 216 t = 0 ∧ ¬ S.1 202 t = -1 ∧ S.1 202 t ≤ w then 2 else S.1 216 t) ∧ ∀ t, n ≤ t → S'.1 216 t = S.1 216 t) 8 ?_ ?_ ?_
    · rintro n a hn ⟨S', rfl, ho, h1, h2⟩
      left
      have e202 : S'.1 202 n = S.1 202 n := ho.2 _ _ (by decide)
      have e216 := h2 n (Nat.le_refl _)
      have fin : ∀ v, v = (if S.1 216 n = 0 ∧ ¬ S.1 202 n = -1 ∧ S.1 202 n ≤ w then 2 else S.1 216 n) → ∃ a', fX12_loses_b52 T 187 w (nI n) v (nI n) 216 8 S' = some (.inl a') ∧ ∃ S'', a' = (nI (n + 1), S'') ∧ onlyI S S'' 216 ∧ (∀ t, t < n + 1 → S''.1 216 t = if S.1 216 t = 0 ∧ ¬ S.1 202 t = -1 ∧ S.1 202 t ≤ w then 2 else S.1 216 t) ∧ ∀ t, n + 1 ≤ t → S''.1 216 t = S.1 216 t := by
        intro v hv
        unfold fX12_loses_b52
        simp (disch := omega) only [g_in, tn_nI, let_q, n_addL]
        refine ⟨_, rfl, _, rfl, onlyI_z ho, fun t ht => ?_, fun t ht => ?_⟩
        · rw [zI_eq]
          by_cases q : t = n
          · rw [if_pos q, q]; exact hv
          · rw [if_neg q]; exact h1 t (by omega)
        · rw [zI_eqn (by omega)]; exact h2 t (by omega)
      show ∃ a', fX12_loses_l2 T 187 w (nI n) S' = _ ∧ _
      unfold fX12_loses_l2 fX12_loses_b46
      rw [if_neg (by rw [n_leL (by omega) (by omega)]; omega)]
      simp (disch := omega) only [g_in, tn_nI, zT_187_40 hT, zT_187_25 hT]
      by_cases q1 : S'.1 216 n = 0
      · rw [if_pos q1]
        by_cases q2 : S'.1 202 n = -1
        · rw [if_pos q2]
          exact fin _ (by rw [e216, if_neg (fun z => z.2.1 (e202 ▸ q2))])
        · rw [if_neg q2]
          by_cases q3 : w < S'.1 202 n
          · rw [if_pos q3]
            exact fin _ (by rw [e216, if_neg (fun z => by have a := z_lt.mp q3; have b := z_le.mp z.2.2; rw [e202] at a; omega)])
          · rw [if_neg q3]
            exact fin _ (by rw [if_pos ⟨e216 ▸ q1, e202 ▸ q2, z_nlt (e202 ▸ q3)⟩])
      · rw [if_neg q1]
        exact fin _ (by rw [e216, if_neg (fun z => q1 (e216.trans z.1))])
    · rintro a ⟨S', rfl, ho, h1, h2⟩
      exact ⟨S', (by unfold fX12_loses_l2; exact if_pos (show (8 : Int32) ≤ nI 8 by decide)), ho, h1⟩
    · exact ⟨S, rfl, onlyI_refl, fun t ht => absurd ht (Nat.not_lt_zero _), fun t _ => rfl⟩
  obtain ⟨S', e, q⟩ := key
  refine ⟨S', ?_, q⟩
  unfold fX12_loses
  rw [e]
  rfl
