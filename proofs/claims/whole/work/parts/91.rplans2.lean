theorem r_week {T : zT} (hT : iT T) {B : Bk} (hB : okB B) {G : Cg} (hG : okG B G) {h w : Nat} {c : Int32} (hh : h < 256) (hw : w < 60) (hcb : c.toInt ≤ 1000000) {S : zS} (hr : bkR S.1 B) (hc : cfR S G) (h55 : S.1 187 55 = nI h) (h59 : S.1 187 59 = c) (hold : ∀ v, v < w → ∀ s, s < 256 → (S.1 223 (256 * v + s)).toInt = rfL B G h (if c.toInt < 0 then -1 else c.toInt) (v + 1) s) (hnew : ∀ s, s < 256 → S.1 223 (256 * w + s) = -1) : ∃ S', lp (fun a => fX12_plans_l38 T 187 (nI w) a.1 a.2) (0, S) = some S' ∧ qR S S' ∧ (∀ s, s < 256 → (S'.1 223 (256 * w + s)).toInt = rfL B G h (if c.toInt < 0 then -1 else c.toInt) (w + 1) s) ∧ ∀ j, j < 256 * w ∨ 256 * w + 256 ≤ j → S'.1 223 j = S.1 223 j := by
  have em : (-1 : Int32).toInt = -1 := rfl
  have e00 : (0 : Int32).toInt = 0 := rfl
  have hcc : -1 ≤ (if c.toInt < 0 then (-1 : Int) else c.toInt) ∧ (if c.toInt < 0 then (-1 : Int) else c.toInt) ≤ 1000000 := by split <;> omega
  have bd := rfL_bd hB hG (h := h) hcc w (by omega)
  have nxt := rfL_S (B := B) (G := G) (h := h) (c0 := if c.toInt < 0 then -1 else c.toInt) w
  have e0 : rfL B G h (if c.toInt < 0 then -1 else c.toInt) 0 = stI h (if c.toInt < 0 then -1 else c.toInt) := rfl
  refine lp_for (I := fun n a => ∃ S', a = (nI n, S') ∧ qR S S' ∧ (∀ s, s < 256 → (S'.1 223 (256 * w + s)).toInt = bst (cnd B G (rfL B G h (if c.toInt < 0 then -1 else c.toInt) w) w s) n) ∧ ∀ j, j < 256 * w ∨ 256 * w + 256 ≤ j → S'.1 223 j = S.1 223 j) 256 ?_ ?_ ?_
  · rintro n a hn ⟨S', rfl, o1, k1, f1⟩
    left
    show ∃ a', fX12_plans_l38 T 187 (nI w) (nI n) S' = _ ∧ _
    have b := bd n hn
    have go : ∀ x : Int32, x.toInt = rfL B G h (if c.toInt < 0 then -1 else c.toInt) w n → ∃ a', fX12_plans_b89 T 187 (nI w) (nI n) x S' = some (.inl a') ∧ ∃ S'', a' = (nI (n + 1), S'') ∧ qR S S'' ∧ (∀ s, s < 256 → (S''.1 223 (256 * w + s)).toInt = bst (cnd B G (rfL B G h (if c.toInt < 0 then -1 else c.toInt) w) w s) (n + 1)) ∧ ∀ j, j < 256 * w ∨ 256 * w + 256 ≤ j → S''.1 223 j = S.1 223 j := by
      intro x hx
      obtain ⟨S'', e, q1, q2, q3⟩ := r_from hT hB hG hw hn (qR_bk o1 hr) (qR_cf o1 hc) hx (by omega) (by omega) k1
      exact ⟨_, e, S'', rfl, qR_trans o1 q1, q2, fun j hj => (q3 j hj).trans (f1 j hj)⟩
    unfold fX12_plans_l38 fX12_plans_b71
    rw [if_neg (show ¬ 256 ≤ nI n by rw [n_leL (by omega) (by omega)]; omega), o1.1 187 55 (by decide), o1.1 187 59 (by decide), h55, h59]
    by_cases z : w = 0
    · subst z
      rw [if_pos (show nI 0 = 0 from rfl)]
      rw [e0] at go
      by_cases y : n = h
      · rw [if_pos (show nI n = nI h by rw [y])]
        have es : stI h (if c.toInt < 0 then -1 else c.toInt) n = if c.toInt < 0 then -1 else c.toInt := if_pos y
        by_cases v : c < 0
        · have v' : c.toInt < 0 := z_lt.mp v
          rw [if_pos v]; exact go _ (by rw [es, if_pos v', em])
        · have v' : 0 ≤ c.toInt := z_le.mp (z_nlt v)
          rw [if_neg v]; exact go _ (by rw [es, if_neg (by omega)])
      · have es : stI h (if c.toInt < 0 then -1 else c.toInt) n = -1 := if_neg y
        rw [if_neg (show ¬ nI n = nI h by rw [n_eq (by omega) (by omega)]; exact y)]
        exact go _ (by rw [es, em])
    · obtain ⟨v, rfl⟩ : ∃ v, w = v + 1 := ⟨w - 1, by omega⟩
      have e2 : (256 : Int32) * (nI (v + 1) - 1) + nI n = nI (256 * v + n) := by rw [n_subL (by omega), show (256 : Int32) * nI (v + 1 - 1) = nI (256 * v) from by rw [liq, n_mul]; rfl, n_add]
      rw [if_neg (show ¬ nI (v + 1) = 0 by intro q; have := z_eq.mp q; rw [nI_toInt (by omega)] at this; omega), e2, g_in (by omega) (by decide), tn_nI (by omega), zT_187_53 hT]
      exact go _ (by rw [f1 _ (by omega)]; exact hold v (by omega) n hn)
  · rintro a ⟨S', rfl, o1, k1, f1⟩
    refine ⟨S', ?_, o1, fun s hs => by rw [nxt]; exact k1 s hs, f1⟩
    show fX12_plans_l38 T 187 (nI w) (nI 256) S' = _
    unfold fX12_plans_l38
    exact if_pos (show 256 ≤ nI 256 by rw [n_leL (by omega) (by omega)]; omega)
  · exact ⟨S, rfl, qR_refl, fun s hs => by rw [hnew s hs]; rfl, fun _ _ => rfl⟩
theorem r_plans {T : zT} (hT : iT T) {B : Bk} (hB : okB B) {G : Cg} (hG : okG B G) {h : Nat} {c : Int32} (hh : h < 256) (hcb : c.toInt ≤ 1000000) {S : zS} (hr : bkR S.1 B) (hc : cfR S G) (h55 : S.1 187 55 = nI h) (h59 : S.1 187 59 = c) : ∃ S', fX12_plans T 187 S = some ((), S') ∧ qR S S' ∧ (∀ w, w < bw B → ∀ s, s < 256 → (S'.1 223 (256 * w + s)).toInt = rfL B G h (if c.toInt < 0 then -1 else c.toInt) (w + 1) s) ∧ ∀ j, 256 * bw B ≤ j → j < 15360 → S'.1 223 j = -1 := by
  obtain ⟨ebw, b1, b2⟩ := bw_n hB
  have t0 : (0 : Int32).toNatClampNeg = 0 := rfl
  obtain ⟨S1, e1, o1, k1⟩ := r_plan0 hT (S := S)
  have q1 : qR S S1 := ⟨fun a b n => o1.2 a b n, fun a b _ _ => by rw [o1.1]⟩
  have key : zwp (lp (fun a => fX12_plans_l26 T 187 a.1 a.2) (0, S1)) (fun S' => qR S S' ∧ (∀ w, w < bw B → ∀ s, s < 256 → (S'.1 223 (256 * w + s)).toInt = rfL B G h (if c.toInt < 0 then -1 else c.toInt) (w + 1) s) ∧ ∀ j, 256 * bw B ≤ j → j < 15360 → S'.1 223 j = -1) := by
    refine lp_for (I := fun n a => ∃ S', a = (nI n, S') ∧ qR S S' ∧ (∀ w, w < n → ∀ s, s < 256 → (S'.1 223 (256 * w + s)).toInt = rfL B G h (if c.toInt < 0 then -1 else c.toInt) (w + 1) s) ∧ ∀ j, 256 * n ≤ j → j < 15360 → S'.1 223 j = -1) (bw B) ?_ ?_ ?_
    · rintro n a hn ⟨S', rfl, o2, k2, m2⟩
      left
      show ∃ a', fX12_plans_l26 T 187 (nI n) S' = _ ∧ _
      have hr2 := qR_bk o2 hr
      obtain ⟨S3, e3, o3, k3, f3⟩ := r_week hT hB hG (w := n) (c := c) hh (by omega) hcb hr2 (qR_cf o2 hc) ((o2.1 _ _ (by decide)).trans h55) ((o2.1 _ _ (by decide)).trans h59) k2 (fun s hs => m2 _ (by omega) (by omega))
      unfold fX12_plans_l26
      rw [zT_187_33 hT, t0, hr2.2.2.1, ebw, g_t (by decide), if_neg (show ¬ nI (bw B) ≤ nI n by rw [n_le (by omega) (by omega)]; omega), e3, b1_q, let_q, n_addL]
      refine ⟨_, rfl, S3, rfl, qR_trans o2 o3, fun w hw s hs => ?_, fun j h1 h2 => by rw [f3 j (by omega)]; exact m2 j (by omega) h2⟩
      by_cases z : w = n
      · subst z; exact k3 s hs
      · rw [f3 _ (by omega)]; exact k2 w (by omega) s hs
    · rintro a ⟨S', rfl, o2, k2, m2⟩
      refine ⟨S', ?_, o2, k2, m2⟩
      show fX12_plans_l26 T 187 (nI (bw B)) S' = _
      unfold fX12_plans_l26
      rw [zT_187_33 hT, t0, (qR_bk o2 hr).2.2.1, ebw, g_t (by decide), if_pos (show nI (bw B) ≤ nI (bw B) by rw [n_le (by omega) (by omega)]; omega)]
    · exact ⟨S1, rfl, q1, fun w hw => absurd hw (Nat.not_lt_zero _), fun j _ h2 => k1 j h2⟩
  obtain ⟨S', e, q⟩ := key
  refine ⟨S', ?_, q⟩
  unfold fX12_plans
  rw [e1, b1_q, e, b1_q]
