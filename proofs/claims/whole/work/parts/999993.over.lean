/-! A BOOK: the whole call -/
def ovS2 (S : zS) (a k q : Nat) : zS := (fun c b => if c = a ∧ b < q then S.1 a (k + b) else S.1 c b, S.2)
theorem ovS2_0 {S : zS} {a k : Nat} : ovS2 S a k 0 = S := by
  unfold ovS2
  have : (fun c b => if c = a ∧ b < 0 then S.1 a (k + b) else S.1 c b) = S.1 := by
    funext c b
    rw [if_neg (by omega)]
  rw [this]
theorem ovS2_step {S : zS} {a k q : Nat} (hq : q < k) : zI (ovS2 S a k q) a q ((ovS2 S a k q).1 a (k + q)) = ovS2 S a k (q + 1) := by
  have e : (ovS2 S a k q).1 a (k + q) = S.1 a (k + q) := if_neg (by omega)
  rw [e]
  show (fun c b => if c = a ∧ b = q then S.1 a (k + q) else (ovS2 S a k q).1 c b, S.2) = _
  unfold ovS2
  have : (fun c b => if c = a ∧ b = q then S.1 a (k + q) else if c = a ∧ b < q then S.1 a (k + b) else S.1 c b) = (fun c b => if c = a ∧ b < q + 1 then S.1 a (k + b) else S.1 c b) := by
    funext c b
    by_cases z : c = a ∧ b = q
    · rw [if_pos z, if_pos (show c = a ∧ b < q + 1 by omega), z.2]
    · rw [if_neg z]
      by_cases y : c = a ∧ b < q
      · rw [if_pos y, if_pos (show c = a ∧ b < q + 1 by omega)]
      · rw [if_neg y, if_neg (show ¬ (c = a ∧ b < q + 1) by omega)]
  rw [this]
def ovS (S : zS) (a k : Nat) : zS := (fun c b => if c = a ∧ b < k then S.1 a (k + b) else S.1 c b, S.2)
theorem ovS_ne {S : zS} {a k c b : Nat} (h : c ≠ a) : (ovS S a k).1 c b = S.1 c b := if_neg (fun q => h q.1)
theorem ovS_ge {S : zS} {a k c b : Nat} (h : ¬ b < k) : (ovS S a k).1 c b = S.1 c b := if_neg (fun q => h q.2)
theorem ovS_eq {S : zS} {a k b : Nat} (h : b < k) : (ovS S a k).1 a b = S.1 a (k + b) := if_pos ⟨rfl, h⟩
theorem ovS2_all {S : zS} {a k : Nat} : ovS2 S a k k = ovS S a k := rfl
theorem r_over {T : zT} {S : zS} {a n0 k : Nat} (h : 2 * k ≤ n0) (hn : n0 < 2147483648) : fX12_over T a n0 (nI k) S = some ((), ovS S a k) := by
  have key : zwp (lp (fun x => fX12_over_l2 T a n0 (nI k) x.1 x.2) (0, S)) (fun S' => S' = ovS S a k) := by
    refine lp_for (I := fun q x => x = (nI q, ovS2 S a k q)) k ?_ ?_ ?_
    · rintro q x hq rfl
      left
      refine ⟨_, ?_, rfl⟩
      show fX12_over_l2 T a n0 (nI k) (nI q) (ovS2 S a k q) = _
      unfold fX12_over_l2
      rw [if_neg (show ¬ nI k ≤ nI q by rw [n_le (by omega) (by omega)]; omega), n_add, g_in (by omega) hn, g_in (by omega) hn, tn_nI (by omega), tn_nI (by omega), let_q, n_addL, let_q, ovS2_step hq]
    · rintro x rfl
      refine ⟨_, ?_, ovS2_all⟩
      show fX12_over_l2 T a n0 (nI k) (nI k) (ovS2 S a k k) = _
      unfold fX12_over_l2
      rw [if_pos (show nI k ≤ nI k by rw [n_le (by omega) (by omega)]; omega)]
    · show (0, S) = (nI 0, ovS2 S a k 0)
      rw [ovS2_0]; rfl
  obtain ⟨r, e1, rfl⟩ := key
  unfold fX12_over
  rw [e1, b1_q]
