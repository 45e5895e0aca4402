/-! STATES counted, the most, the last set -/
def orN (p : Nat → Bool) : Nat → Int32
  | 0 => 0
  | n + 1 => if p n = true then orN p n ||| nI (n % 256) else orN p n
theorem orN_m (p : Nat → Bool) (t : Nat) : ∀ n, zm (orN p n) t = (List.range n).any (fun k => p k && zm (nI (k % 256)) t)
  | 0 => m_0
  | n + 1 => by
    have ih := orN_m p t n
    rw [List.range_succ, List.any_append]
    show zm (if p n = true then orN p n ||| nI (n % 256) else orN p n) t = _
    cases z : p n with
    | true => rw [if_pos rfl, m_or, ih]; simp [z]
    | false => rw [if_neg (by decide), ih]; simp [z]
theorem orN_is8 (p : Nat → Bool) : ∀ n, is8 (orN p n)
  | 0 => is8_0
  | n + 1 => by
    show is8 (if p n = true then orN p n ||| nI (n % 256) else orN p n)
    split
    · exact is8_or (orN_is8 p n) (is8_nI (Nat.mod_lt _ (by decide)))
    · exact orN_is8 p n
theorem orN_st8 (p : Nat → Bool) (n : Nat) : orN p n = st8 (fun t => (List.range n).any (fun k => p k && zm (nI (k % 256)) t)) := st8_eq (orN_is8 p n) (fun t _ => by rw [orN_m])
theorem cnt_none {p : Nat → Bool} {n : Nat} : ∀ m, (∀ k, n ≤ k → k < n + m → p k = false) → cnt p (n + m) = cnt p n ∧ orN p (n + m) = orN p n
  | 0, _ => ⟨rfl, rfl⟩
  | m + 1, h => by
    obtain ⟨h1, h2⟩ := cnt_none m (fun k a b => h k a (by omega))
    have h3 := h (n + m) (by omega) (by omega)
    constructor
    · show cnt p (n + m) + (if p (n + m) = true then 1 else 0) = _
      rw [h3, if_neg (by decide), h1, Nat.add_zero]
    · show (if p (n + m) = true then orN p (n + m) ||| nI ((n + m) % 256) else orN p (n + m)) = _
      rw [h3, if_neg (by decide), h2]
theorem cnt_le (p : Nat → Bool) : ∀ n, cnt p n ≤ n
  | 0 => Nat.le_refl _
  | n + 1 => by
    have := cnt_le p n
    show cnt p n + (if p n = true then 1 else 0) ≤ _
    split <;> omega
/-- set and week, by their number, hold coin -/
def pL (B : Bk) (k : Nat) : Bool := decide (0 ≤ bsL B (k / 256 + 1) (k % 256))
theorem pL_at {B : Bk} {w s : Nat} (hs : s < 256) : pL B (256 * w + s) = decide (0 ≤ bsL B (w + 1) s) := by
  unfold pL
  rw [show (256 * w + s) / 256 = w by omega, show (256 * w + s) % 256 = s by omega]
theorem v_countStates {T : zT} (hT : iT T) {B : Bk} (hB : okB B) {w : Nat} (hw : w < 60) {c : Int} {S : zS} (hc : bkC S 7 B) (hf : isLn S 181 (bsL B (w + 1))) (hok : okLn B c (bsL B (w + 1))) (h5 : S.1 176 5 = nI (cnt (pL B) (256 * w))) (h6 : S.1 176 6 = orN (pL B) (256 * w)) : ∃ S', fX5_countStates T 176 S = some ((), S') ∧ onlyI S S' 176 ∧ S'.1 176 5 = nI (cnt (pL B) (256 * (w + 1))) ∧ S'.1 176 6 = orN (pL B) (256 * (w + 1)) := by
  obtain ⟨eth, hth⟩ := th_n hB
  have key : zwp (lp (fun a => fX5_countStates_l2 T 176 a.1 a.2) (0, S)) (fun S' => onlyI S S' 176 ∧ S'.1 176 5 = nI (cnt (pL B) (256 * (w + 1))) ∧ S'.1 176 6 = orN (pL B) (256 * (w + 1))) := by
    refine lp_for (I := fun n a => ∃ S', a = (nI n, S') ∧ onlyI S S' 176 ∧ S'.1 176 5 = nI (cnt (pL B) (256 * w + n)) ∧ S'.1 176 6 = orN (pL B) (256 * w + n)) ((bth B).toNatClampNeg + 1) ?_ ?_ ?_
    · rintro n a hn ⟨S', rfl, h1, h2, h3⟩
      left
      show ∃ a', fX5_countStates_l2 T 176 (nI n) S' = _ ∧ _
      have hp := pL_at (B := B) (w := w) (show n < 256 by omega)
      have hv := hf n (by omega)
      have hcs : cnt (pL B) (256 * w + (n + 1)) = cnt (pL B) (256 * w + n) + if pL B (256 * w + n) = true then 1 else 0 := rfl
      have hos : orN (pL B) (256 * w + (n + 1)) = if pL B (256 * w + n) = true then orN (pL B) (256 * w + n) ||| nI ((256 * w + n) % 256) else orN (pL B) (256 * w + n) := rfl
      unfold fX5_countStates_l2 fX5_countStates_b49
      rw [zT_176_0 hT, zT_176_11 hT, h1.2 7 0 (by omega), bkC_th hc, eth, if_neg (show ¬ nI _ < nI n by rw [n_lt (by omega) (by omega)]; omega), if_neg (show ¬ 256 ≤ nI n by rw [n_leL (by omega) (by omega)]; omega), g_in (by omega) (by decide), tn_nI (show n < 2147483648 by omega), h1.2 181 n (by omega)]
      by_cases q : S.1 181 n < 0
      · have q' : (S.1 181 n).toInt < 0 := z_lt.mp q
        have hpf : pL B (256 * w + n) = false := by rw [hp]; exact decide_eq_false (by omega)
        rw [if_pos q, let_q, n_addL]
        refine ⟨_, rfl, S', rfl, h1, ?_, ?_⟩
        · rw [hcs, hpf, if_neg (by decide)]; exact h2
        · rw [hos, hpf, if_neg (by decide)]; exact h3
      · have q' : 0 ≤ (S.1 181 n).toInt := z_le.mp (z_nlt q)
        have hpt : pL B (256 * w + n) = true := by rw [hp]; exact decide_eq_true (by omega)
        rw [if_neg q, let_q, let_q, let_q, n_addL]
        refine ⟨_, rfl, _, rfl, onlyI_z (onlyI_z h1), ?_, ?_⟩
        · rw [zI_eq, if_neg (by decide), zI_eq, if_pos rfl, h2, hcs, hpt, if_pos rfl, n_addL]
        · rw [zI_eq, if_pos rfl, zI_eq, if_neg (by decide), h3, hos, hpt, if_pos rfl, show (256 * w + n) % 256 = n by omega]
    · rintro a ⟨S', rfl, h1, h2, h3⟩
      have none := cnt_none (p := pL B) (n := 256 * w + ((bth B).toNatClampNeg + 1)) (255 - (bth B).toNatClampNeg) (fun k a b => by
        obtain ⟨s, rfl⟩ : ∃ s, k = 256 * w + s := ⟨k - 256 * w, by omega⟩
        rw [pL_at (by omega)]
        refine decide_eq_false (fun z => ?_)
        have := mi_le hB (show s < 256 by omega) ((hok s (by omega)).2.2 z)
        omega)
      rw [show 256 * w + ((bth B).toNatClampNeg + 1) + (255 - (bth B).toNatClampNeg) = 256 * (w + 1) by omega] at none
      refine ⟨S', ?_, h1, ?_, ?_⟩
      · show fX5_countStates_l2 T 176 (nI ((bth B).toNatClampNeg + 1)) S' = _
        unfold fX5_countStates_l2
        rw [zT_176_0 hT, h1.2 7 0 (by omega), bkC_th hc, if_pos (th_lt hB)]
      · rw [none.1]; exact h2
      · rw [none.2]; exact h3
    · exact ⟨S, rfl, onlyI_refl, h5, h6⟩
  obtain ⟨S', e, q⟩ := key
  refine ⟨S', ?_, q⟩
  unfold fX5_countStates fX5_countStates_b55
  rw [e, b1_q]
theorem v_mostIn {T : zT} {k : Nat} {f : Nat → Int} {S : zS} (hf : isLn S k f) : ∃ r, fX5_mostIn T k 256 S = some r ∧ r.toInt = bst f 256 := by
  have key : zwp (lp (fun a => fX5_mostIn_l4 T k 256 S a.1 a.2) ((-1), 0)) (fun r => r.toInt = bst f 256) := by
    refine lp_for (I := fun n a => ∃ v : Int32, a = (v, nI n) ∧ v.toInt = bst f n) 256 ?_ ?_ ?_
    · rintro n a hn ⟨v, rfl, h1⟩
      left
      show ∃ a', fX5_mostIn_l4 T k 256 S v (nI n) = _ ∧ _
      unfold fX5_mostIn_l4
      have hv := hf n hn
      rw [show Int32.ofNat 256 = nI 256 from rfl, if_neg (show ¬ nI 256 ≤ nI n by rw [n_le (by omega) (by omega)]; omega), g_in hn (by decide), tn_nI (by omega), let_q, let_q, n_addL]
      refine ⟨_, rfl, _, rfl, ?_⟩
      show _ = if bst f n < f n then f n else bst f n
      by_cases q : v < S.1 k n
      · have := z_lt.mp q
        rw [if_pos q, if_pos (by omega), hv]
      · have := z_le.mp (z_nlt q)
        rw [if_neg q, if_neg (by omega), h1]
    · rintro a ⟨v, rfl, h1⟩
      refine ⟨v, ?_, h1⟩
      show fX5_mostIn_l4 T k 256 S v (nI 256) = _
      unfold fX5_mostIn_l4
      exact if_pos (show nI 256 ≤ nI 256 by rw [n_le (by omega) (by omega)]; omega)
    · exact ⟨-1, rfl, rfl⟩
  obtain ⟨r, e, q⟩ := key
  refine ⟨r, ?_, q⟩
  unfold fX5_mostIn
  rw [e, b1_q]
theorem v_lastSet {T : zT} (hT : iT T) {f : Nat → Int} {S : zS} (hf : isLn S 181 f) : ∃ r, fX5_lastSet T 176 S = some r ∧ ((∀ i, i < 256 → f i < 0 ∨ ¬ f i = (S.1 176 3).toInt) ∨ ∃ s, r = nI s ∧ isL (fun s => s < 256 ∧ 0 ≤ f s ∧ f s = (S.1 176 3).toInt) s) := by
  have key : zwp (lp (fun a => fX5_lastSet_l2 T 176 S a) 0) (fun r => (r = .inl () ∧ ∀ i, i < 256 → f i < 0 ∨ ¬ f i = (S.1 176 3).toInt) ∨ ∃ s, r = .inr (nI s) ∧ isL (fun s => s < 256 ∧ 0 ≤ f s ∧ f s = (S.1 176 3).toInt) s) := by
    refine lp_for (I := fun n a => a = nI n ∧ ∀ i, i < n → f i < 0 ∨ ¬ f i = (S.1 176 3).toInt) 256 ?_ ?_ ?_
    · rintro n a hn ⟨rfl, h1⟩
      have hv := hf n hn
      unfold fX5_lastSet_l2 fX5_lastSet_b33
      rw [zT_176_11 hT, if_neg (show ¬ 256 ≤ nI n by rw [n_leL (by omega) (by omega)]; omega), g_in hn (by decide), g_in hn (by decide), tn_nI (by omega), let_q, n_addL]
      by_cases q : S.1 181 n < 0
      · have q' : (S.1 181 n).toInt < 0 := z_lt.mp q
        left
        rw [if_pos q]
        refine ⟨_, rfl, rfl, fun i hi => ?_⟩
        by_cases z : i = n
        · subst z; left; omega
        · exact h1 i (by omega)
      · have q' : 0 ≤ (S.1 181 n).toInt := z_le.mp (z_nlt q)
        rw [if_neg q]
        by_cases y : S.1 181 n = S.1 176 3
        · right
          rw [if_pos y]
          refine ⟨_, rfl, Or.inr ⟨n, rfl, ⟨hn, by omega, by rw [← hv, y]⟩, fun j hj hp => ?_⟩⟩
          rcases h1 j hj with g | g
          · omega
          · exact g hp.2.2
        · left
          rw [if_neg y]
          refine ⟨_, rfl, rfl, fun i hi => ?_⟩
          by_cases z : i = n
          · subst z; right; intro g; exact y (z_eq.mpr (by omega))
          · exact h1 i (by omega)
    · rintro a ⟨rfl, h1⟩
      refine ⟨_, ?_, Or.inl ⟨rfl, h1⟩⟩
      unfold fX5_lastSet_l2
      exact if_pos (show 256 ≤ nI 256 by rw [n_leL (by omega) (by omega)]; omega)
    · exact ⟨rfl, fun i hi => absurd hi (Nat.not_lt_zero _)⟩
  obtain ⟨r, e, q⟩ := key
  unfold fX5_lastSet
  rw [e, b1_q]
  rcases q with ⟨rfl, q⟩ | ⟨s, rfl, q⟩
  · exact ⟨0, rfl, Or.inl q⟩
  · exact ⟨nI s, rfl, Or.inr ⟨s, rfl, q⟩⟩
