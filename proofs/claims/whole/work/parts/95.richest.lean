/-! THE RICHEST END, both -/
def wsm (W : Nat → Int32) (x : Int32) : Nat → Int32
  | 0 => 0
  | n + 1 => wsm W x n + if zm x n = true then W n else 0
def rch (P W : Nat → Int32) : Nat → Int32
  | 0 => -1
  | n + 1 => if P n < 0 then rch P W n else if rch P W n < P n + wsm W (nI n) 8 then P n + wsm W (nI n) 8 else rch P W n
theorem v_worthOf {T : zT} (hT : iT T) {B : Bk} {x : Int32} (hx : ∀ t, t < 8 → zm x t = true → zm (bth B) t = true) {S : zS} (hc : bkC S 7 B) : fX5_worthOf T 176 x S = some (wsm (B.1 5) x 8) := by
  have key := lp_steps (f := fun a => fX5_worthOf_l4 T 176 x S a.1 a.2) (fun n => (wsm (B.1 5) x n, nI n)) 8 (wsm (B.1 5) x 8) (fun n hn => by
    show fX5_worthOf_l4 T 176 x S (wsm (B.1 5) x n) (nI n) = _
    have hs : wsm (B.1 5) x (n + 1) = wsm (B.1 5) x n + if zm x n = true then B.1 5 n else 0 := rfl
    unfold fX5_worthOf_l4 fX5_worthOf_b30
    rw [if_neg (show ¬ 8 ≤ nI n by rw [n_leL (by omega) (by omega)]; omega), let_q, n_addL, hs]
    cases z : zm x n with
    | false => rw [if_pos ((m_sh0 (by omega)).mpr z), if_neg (by decide), Int32.add_zero]
    | true =>
      have e : S.1 13 n = B.1 5 n := hc.2.1 n hn (hx n hn z) 5 (by decide)
      rw [if_neg (fun y => by rw [m_sh0 (by omega), z] at y; cases y), g_in hn (by decide), tn_nI (by omega), zT_176_0 hT, zT_7_11 hT, e, let_q, let_q, if_pos rfl]) (by
    show fX5_worthOf_l4 T 176 x S (wsm (B.1 5) x 8) (nI 8) = _
    unfold fX5_worthOf_l4
    exact if_pos (show (8 : Int32) ≤ nI 8 by decide))
  have key' : lp (fun a => fX5_worthOf_l4 T 176 x S a.1 a.2) (0, 0) = some (wsm (B.1 5) x 8) := key
  unfold fX5_worthOf
  rw [key', b1_q]
theorem rch_stay {P W : Nat → Int32} {n : Nat} : ∀ m, (∀ k, n ≤ k → k < n + m → P k < 0) → rch P W (n + m) = rch P W n
  | 0, _ => rfl
  | m + 1, h => by
    show (if P (n + m) < 0 then rch P W (n + m) else if rch P W (n + m) < P (n + m) + wsm W (nI (n + m)) 8 then P (n + m) + wsm W (nI (n + m)) 8 else rch P W (n + m)) = _
    rw [if_pos (h (n + m) (by omega) (by omega)), rch_stay m (fun k a b => h k a (by omega))]
theorem v_richest {T : zT} (hT : iT T) {B : Bk} (hB : okB B) {S : zS} (hc : bkC S 7 B) (hk : ∀ w, w < bw B → ∀ i, i < 256 → (S.1 178 (256 * w + i)).toInt = bsL B (w + 1) i) : fX5_richest T 176 S = some (rch (fun i => S.1 178 (256 * (bw B - 1) + i)) (B.1 5) 256) := by
  obtain ⟨ebw, w1, w2⟩ := bw_n hB
  obtain ⟨eth, hth⟩ := th_n hB
  have sub : ∀ i, i < 256 → ¬ S.1 178 (256 * (bw B - 1) + i) < 0 → mi (nI i) (bth B) = 0 := fun i hi h => by
    have h1 := z_le.mp (z_nlt h)
    rw [hk _ (by omega) i hi] at h1
    exact (ok_bsL' hB (show bw B - 1 + 1 ≤ 60 by omega) i hi).2.2 h1
  have key := lp_steps (f := fun a => fX5_richest_l4 T 176 S a.1 a.2) (fun n => (rch (fun i => S.1 178 (256 * (bw B - 1) + i)) (B.1 5) n, nI n)) ((bth B).toNatClampNeg + 1) (rch (fun i => S.1 178 (256 * (bw B - 1) + i)) (B.1 5) ((bth B).toNatClampNeg + 1)) (fun n hn => by
    show fX5_richest_l4 T 176 S (rch (fun i => S.1 178 (256 * (bw B - 1) + i)) (B.1 5) n) (nI n) = _
    have hs : rch (fun i => S.1 178 (256 * (bw B - 1) + i)) (B.1 5) (n + 1) = if S.1 178 (256 * (bw B - 1) + n) < 0 then rch (fun i => S.1 178 (256 * (bw B - 1) + i)) (B.1 5) n else if rch (fun i => S.1 178 (256 * (bw B - 1) + i)) (B.1 5) n < S.1 178 (256 * (bw B - 1) + n) + wsm (B.1 5) (nI n) 8 then S.1 178 (256 * (bw B - 1) + n) + wsm (B.1 5) (nI n) 8 else rch (fun i => S.1 178 (256 * (bw B - 1) + i)) (B.1 5) n := rfl
    unfold fX5_richest_l4 fX5_richest_b53
    rw [zT_176_0 hT, bkC_th hc, hc.1 1 (by decide), ebw, n_subL (by omega), v_coinAt hT (by omega) (by omega), b1_q, hs]
    rw [if_neg (show ¬ bth B < nI n by rw [eth, n_lt (by omega) (by omega)]; omega), if_neg (show ¬ 256 ≤ nI n by rw [n_leL (by omega) (by omega)]; omega), let_q, n_addL]
    by_cases z : S.1 178 (256 * (bw B - 1) + n) < 0
    · rw [if_pos z, if_pos z]
    · rw [if_neg z, if_neg z, v_worthOf hT ((mi0 (is8_nI (by omega))).mp (sub n (by omega) z)) hc, b1_q, let_q, let_q]) (by
    show fX5_richest_l4 T 176 S _ (nI ((bth B).toNatClampNeg + 1)) = _
    unfold fX5_richest_l4
    rw [zT_176_0 hT, bkC_th hc, if_pos (th_lt hB)])
  have key' : lp (fun a => fX5_richest_l4 T 176 S a.1 a.2) ((-1), 0) = some (rch (fun i => S.1 178 (256 * (bw B - 1) + i)) (B.1 5) ((bth B).toNatClampNeg + 1)) := key
  have st := rch_stay (P := fun i => S.1 178 (256 * (bw B - 1) + i)) (W := B.1 5) (n := (bth B).toNatClampNeg + 1) (255 - (bth B).toNatClampNeg) (fun k h1 h2 => by
    apply Classical.byContradiction
    intro q
    have := mi_le hB (show k < 256 by omega) (sub k (by omega) q)
    omega)
  rw [show (bth B).toNatClampNeg + 1 + (255 - (bth B).toNatClampNeg) = 256 by omega] at st
  unfold fX5_richest fX5_richest_b59
  rw [key', b1_q, st]
theorem r_richest {T : zT} (hT : iT T) {B : Bk} (hB : okB B) {S : zS} (hr : bkR S.1 B) {P : Nat → Int32} (hP : ∀ i, i < 256 → S.1 223 (256 * (bw B - 1) + i) = P i ∧ -1 ≤ (P i).toInt) : fX12_richest T 187 S = some (rch P (B.1 5) 256) := by
  have em : (-1 : Int32).toInt = -1 := rfl
  have key := lp_steps (f := fun a => fX12_richest_l4 T 187 S a.1 a.2) (fun n => (rch P (B.1 5) n, nI n)) 256 (rch P (B.1 5) 256) (fun n hn => by
    show fX12_richest_l4 T 187 S (rch P (B.1 5) n) (nI n) = _
    have hs : rch P (B.1 5) (n + 1) = if P n < 0 then rch P (B.1 5) n else if rch P (B.1 5) n < P n + wsm (B.1 5) (nI n) 8 then P n + wsm (B.1 5) (nI n) 8 else rch P (B.1 5) n := rfl
    have inner := lp_steps (f := fun a => fX12_richest_l20 T 187 (rch P (B.1 5) n) (nI n) S a.1 a.2) (fun j => (P n + wsm (B.1 5) (nI n) j, nI j)) 8 (P n + wsm (B.1 5) (nI n) 8) (fun j hj => by
      show fX12_richest_l20 T 187 (rch P (B.1 5) n) (nI n) S (P n + wsm (B.1 5) (nI n) j) (nI j) = _
      have hs : wsm (B.1 5) (nI n) (j + 1) = wsm (B.1 5) (nI n) j + if zm (nI n) j = true then B.1 5 j else 0 := rfl
      have e : S.1 205 j = B.1 5 j := hr.2.1 j hj 5 (by decide)
      unfold fX12_richest_l20 fX12_richest_b49
      rw [if_neg (show ¬ 8 ≤ nI j by rw [n_leL (by omega) (by omega)]; omega), hs, ← Int32.add_assoc]
      cases z : zm (nI n) j with
      | false => rw [if_neg (fun y => by rw [m_sh1 (by omega), z] at y; cases y), let_q, let_q, n_addL, if_neg (by decide)]
      | true => rw [if_pos ((m_sh1 (by omega)).mpr z), g_in (by omega) (by decide), tn_nI (by omega), zT_187_28 hT, e, let_q, let_q, n_addL, if_pos rfl]) (by
      show fX12_richest_l20 T 187 (rch P (B.1 5) n) (nI n) S _ (nI 8) = _
      unfold fX12_richest_l20
      exact if_pos (show (8 : Int32) ≤ nI 8 by decide))
    have inner' : lp (fun a => fX12_richest_l20 T 187 (rch P (B.1 5) n) (nI n) S a.1 a.2) (P n, 0) = some (P n + wsm (B.1 5) (nI n) 8) := by
      have e0 : (fun j => (P n + wsm (B.1 5) (nI n) j, nI j)) 0 = (P n, (0 : Int32)) := by
        show (P n + 0, nI 0) = _
        rw [Int32.add_zero]; rfl
      rw [← e0]; exact inner
    have hp := hP n hn
    unfold fX12_richest_l4 fX12_richest_b75 fX12_richest_b76
    rw [if_neg (show ¬ 256 ≤ nI n by rw [n_leL (by omega) (by omega)]; omega), r_planned hT hB hr hn, b1_q, hp.1, inner', b1_q, b1_q, let_q, n_addL, hs]
    by_cases z : P n = -1
    · rw [if_pos z, if_pos (z_lt.mpr (by rw [z]; decide))]
    · have z' : ¬ (P n).toInt = -1 := fun q => z (z_eq.mpr (q.trans em.symm))
      rw [if_neg z, if_neg (show ¬ P n < 0 from fun q => by have := z_lt.mp q; have e0 : (0 : Int32).toInt = 0 := rfl; omega)]
      by_cases y : P n + wsm (B.1 5) (nI n) 8 ≤ rch P (B.1 5) n
      · have := z_le.mp y
        rw [if_pos y, if_neg (show ¬ rch P (B.1 5) n < P n + wsm (B.1 5) (nI n) 8 from fun q => by have := z_lt.mp q; omega)]
      · rw [if_neg y, if_pos (show rch P (B.1 5) n < P n + wsm (B.1 5) (nI n) 8 from z_nle y), let_q]) (by
    show fX12_richest_l4 T 187 S _ (nI 256) = _
    unfold fX12_richest_l4
    exact if_pos (show 256 ≤ nI 256 by rw [n_leL (by omega) (by omega)]; omega))
  have key' : lp (fun a => fX12_richest_l4 T 187 S a.1 a.2) ((-1), 0) = some (rch P (B.1 5) 256) := key
  unfold fX12_richest
  rw [key', b1_q]
