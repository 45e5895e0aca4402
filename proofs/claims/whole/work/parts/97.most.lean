/-! THE MOST COIN, by the reference, however it is asked -/
theorem r_mostCoin {T : zT} (hT : iT T) {B : Bk} (hB : okB B) {G : Cg} (hG : okG B G) {h : Nat} {c : Int32} (hh : h < 256) (hcb : c.toInt ≤ 1000000) {S : zS} (hr : bkR S.1 B) (hc : cfR S G) (h55 : S.1 187 55 = nI h) (h59 : S.1 187 59 = c) : ∃ r S', fX12_mostCoin T 187 S = some (r, S') ∧ qR S S' ∧ r.toInt = bst (rfL B G h (if c.toInt < 0 then -1 else c.toInt) (bw B)) 256 := by
  obtain ⟨ebw, w1, w2⟩ := bw_n hB
  have em : (-1 : Int32).toInt = -1 := rfl
  obtain ⟨S3, e3, o3, k3, -⟩ := r_plans hT hB hG hh hcb hr hc h55 h59
  have r3 := qR_bk o3 hr
  have hcc : -1 ≤ (if c.toInt < 0 then (-1 : Int) else c.toInt) ∧ (if c.toInt < 0 then (-1 : Int) else c.toInt) ≤ 1000000 := by split <;> omega
  have hL : ∀ s, s < 256 → (S3.1 223 (256 * (bw B - 1) + s)).toInt = rfL B G h (if c.toInt < 0 then -1 else c.toInt) (bw B) s := fun s hs => by
    rw [k3 _ (by omega) s hs, show bw B - 1 + 1 = bw B by omega]
  obtain ⟨r, ea, qa⟩ := r_atEnd hT hB r3 hL (fun s hs => (rfL_bd hB hG hcc _ w2 s hs).1)
  unfold fX12_mostCoin fX12_mostCoin_b23
  rw [e3, b_q, ea, b1_q]
  rcases qa with ⟨a1, a2⟩ | ⟨s, a1, a2, a3⟩
  · rw [if_pos a1]
    exact ⟨-1, S3, rfl, o3, by rw [a2, em]⟩
  · rw [if_neg (show ¬ r = -1 by rw [a1]; intro q; have := z_eq.mp q; have hs := a3.1.1; rw [nI_toInt (by omega)] at this; omega), a1, r_planned hT hB r3 a3.1.1, b1_q]
    exact ⟨_, S3, rfl, o3, by rw [hL s a3.1.1]; exact a3.1.2⟩
