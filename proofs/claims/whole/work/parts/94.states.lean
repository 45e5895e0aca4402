/-! STATES, by the reference; the most coin -/
theorem n_div {a b : Nat} (ha : a < 2147483648) (hb : b < 2147483648) (h0 : 0 < b) : nI a / nI b = nI (a / b) := by
  refine z_eq.mpr ?_
  have hlt : a / b < 2147483648 := Nat.lt_of_le_of_lt (Nat.div_le_self _ _) ha
  rw [Int32.toInt_div_of_ne_right (nI a) (nI b) (fun q => by have := z_eq.mp q; rw [nI_toInt hb] at this; have e : (-1 : Int32).toInt = -1 := rfl; omega), nI_toInt ha, nI_toInt hb, nI_toInt hlt]
  exact Int.ofNat_tdiv a b ▸ rfl
theorem r_states {T : zT} (hT : iT T) {B : Bk} (hB : okB B) {S : zS} (hr : bkR S.1 B) (hk : ∀ w, w < bw B → ∀ s, s < 256 → (S.1 223 (256 * w + s)).toInt = bsL B (w + 1) s) (x : Int32) : fX12_states T 187 x S = some (if x = 0 then nI (cnt (pL B) (256 * bw B)) else mi (bth B) (orN (pL B) (256 * bw B))) := by
  obtain ⟨ebw, w1, w2⟩ := bw_n hB
  have t0 : (0 : Int32).toNatClampNeg = 0 := rfl
  have em : (-1 : Int32).toInt = -1 := rfl
  have e256 : (256 : Int32) * nI (bw B) = nI (256 * bw B) := by rw [liq, n_mul]
  have key : zwp (lp (fun a => fX12_states_l7 T 187 x S a.1 a.2.1 a.2.2) (0, 0, 0)) (fun e => e = (nI (cnt (pL B) (256 * bw B)), orN (pL B) (256 * bw B))) := by
    refine lp_for (I := fun n a => a = (nI (cnt (pL B) n), orN (pL B) n, nI n)) (256 * bw B) ?_ ?_ ?_
    · rintro n a hn rfl
      left
      show ∃ a', fX12_states_l7 T 187 x S (nI (cnt (pL B) n)) (orN (pL B) n) (nI n) = _ ∧ _
      have hv := hk (n / 256) (by omega) (n % 256) (Nat.mod_lt _ (by decide))
      rw [show 256 * (n / 256) + n % 256 = n by omega] at hv
      have hm := (ok_bsL' hB (show n / 256 + 1 ≤ 60 by omega) (n % 256) (Nat.mod_lt _ (by decide))).1
      have hp : pL B n = decide (0 ≤ bsL B (n / 256 + 1) (n % 256)) := rfl
      have hcs : cnt (pL B) (n + 1) = cnt (pL B) n + if pL B n = true then 1 else 0 := rfl
      have hos : orN (pL B) (n + 1) = if pL B n = true then orN (pL B) n ||| nI (n % 256) else orN (pL B) n := rfl
      unfold fX12_states_l7 fX12_states_b39 fX12_states_b63
      rw [zT_187_33 hT, zT_187_53 hT, t0, hr.2.2.1, ebw, e256, g_t (by decide), if_neg (show ¬ nI (256 * bw B) ≤ nI n by rw [n_le (by omega) (by omega)]; omega), g_in (by omega) (by decide), tn_nI (by omega)]
      by_cases z : S.1 223 n = -1
      · have hpf : pL B n = false := by rw [hp]; refine decide_eq_false ?_; rw [z, em] at hv; omega
        rw [if_pos z, let_q, g_in (by omega) (by decide), if_pos z, let_q, let_q, n_addL, n_addL]
        rw [hcs, hos, hpf, if_neg (by decide), if_neg (by decide), Int32.or_zero]
        exact ⟨_, rfl, rfl⟩
      · have hpt : pL B n = true := by
          rw [hp]
          refine decide_eq_true ?_
          have : ¬ (S.1 223 n).toInt = -1 := fun q => z (z_eq.mpr (q.trans em.symm))
          omega
        rw [if_neg z, let_q, g_in (by omega) (by decide), if_neg z, let_q, let_q, n_addL, n_addL]
        have ed : nI n - nI n / 256 * 256 = nI (n % 256) := by
          rw [show nI n / 256 = nI (n / 256) from by rw [liq]; exact n_div (by omega) (by decide) (by decide), show nI (n / 256) * 256 = nI (n / 256 * 256) from by rw [liq, n_mul], n_sub (by omega), show n - n / 256 * 256 = n % 256 by omega]
        rw [ed, hcs, hos, hpt, if_pos rfl, if_pos rfl]
        exact ⟨_, rfl, rfl⟩
    · rintro a rfl
      refine ⟨_, ?_, rfl⟩
      show fX12_states_l7 T 187 x S (nI (cnt (pL B) (256 * bw B))) (orN (pL B) (256 * bw B)) (nI (256 * bw B)) = _
      unfold fX12_states_l7
      rw [zT_187_33 hT, t0, hr.2.2.1, ebw, e256, g_t (by decide), if_pos (show nI (256 * bw B) ≤ nI (256 * bw B) by rw [n_le (by omega) (by omega)]; omega)]
    · rfl
  obtain ⟨e, a, rfl⟩ := key
  unfold fX12_states fX12_states_b87
  rw [a, b1_q]
  by_cases z : x = 0
  · rw [if_pos z, if_pos z]
  · rw [if_neg z, if_neg z, r_all hT hr hB.1, b1_q]; rfl
