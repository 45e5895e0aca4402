/-! FETCHED, both -/
theorem plH_eq {B : Bk} {hb hb' : Nat → Nat} (h : plH B hb) (g : plH B hb') : ∀ w, w ≤ bw B → hb w = hb' w := by
  have key : ∀ n w, w + n = bw B → hb w = hb' w := by
    intro n
    induction n with
    | zero =>
      intro w hw
      have : w = bw B := by omega
      subst this
      exact isL_eq h.1 g.1
    | succ n ih =>
      intro w hw
      by_cases z : w = 0
      · rw [z, h.2.1, g.2.1]
      · have h1 := h.2.2 w (by omega) (by omega)
        have g1 := g.2.2 w (by omega) (by omega)
        rw [ih (w + 1) (by omega)] at h1
        exact isL_eq h1 g1
  exact fun w hw => key (bw B - w) w (by omega)
theorem ok14 : oK14 invTS := by
  rintro T S ⟨hT, h1, h2, h3, B, A, h4, h5⟩ x1
  have hB := h4.1
  have em : (-1 : Int32).toInt = -1 := rfl
  have e00 : (0 : Int32).toInt = 0 := rfl
  have t0 : (0 : Int32).toNatClampNeg = 0 := rfl
  obtain ⟨ebw, w1, w2⟩ := bw_n hB
  unfold fX11_fetched fX11_fetched_b37 fX12_fetched
  rw [zT_0_3 hT]
  rcases c_has h4.2.2.1 x1 with ⟨⟨t, ht, rfl, hz⟩, e0⟩ | ⟨hn, e0⟩
  · obtain ⟨S1, e1, f1, j1, q1, p1, i1, b1⟩ := c_ready hT h1 h2 h3 h4 h5
    obtain ⟨S2, r, S3, e2, e3, f3, r3, c3, k3, m3⟩ := r_most0 hT hB b1.2.2.2.1
    obtain ⟨-, -, -, pm, -, -, pl⟩ := id p1
    have hh : fX12_has T 187 (nI t) S1 = some 1 := by
      rcases r_has hT b1.2.2.2.1 (nI t) with ⟨-, e⟩ | ⟨h, -⟩
      · exact e
      · exact absurd ⟨t, ht, rfl, hz⟩ h
    rw [e0, b1_q, if_neg n10, e1, b_q, zT_176_7 hT]
    by_cases hm : 0 ≤ S1.1 176 3
    · have hm' : 0 ≤ bst (bsL B (bw B)) 256 := by have := z_le.mp hm; omega
      obtain ⟨hb, c1, c2, c4⟩ := pl hm'
      obtain ⟨S4, e4, o4, hb', d1, d2⟩ := r_goesBack hT hB r3 c3 k3 hm'
      have heq := plH_eq c1 d1
      have fin : S4.1 177 t = S1.1 177 t := by
        rw [o4.1 _ _ (by decide)]
        exact f3 177 t (by omega)
      rw [if_pos hm, g_in ht (by decide), tn_nI (by omega)]
      refine ⟨S1.1 177 t, S1, S4, rfl, ?_, hT, inv_kp (fun a b q => o4.1 a b (by have := of_decide_eq_true q; omega)) (fun a b q => o4.1 a b (by have := of_decide_eq_true q; omega)) (inv_fP f3 i1)⟩
      rw [hh, b1_q, if_neg n10, e2, b_q, e3, b_q, if_neg (show ¬ r = -1 by intro q; rw [q, em] at m3; omega), e4, b_q]
      have key : zwp (lp (fun a => fX12_fetched_l32 T 187 (nI t) S4 a) 0) (fun e => (e = .inl () ∧ ∀ w, w < bw B → zm (nI (hb (w + 1))) t = false) ∨ ∃ w, w < bw B ∧ e = .inr (nI w) ∧ zm (nI (hb (w + 1))) t = true ∧ ∀ v, v < w → zm (nI (hb (v + 1))) t = false) := by
        refine lp_for (I := fun n a => a = nI n ∧ ∀ v, v < n → zm (nI (hb (v + 1))) t = false) (bw B) ?_ ?_ ?_
        · rintro n a hn ⟨rfl, h1⟩
          unfold fX12_fetched_l32
          rw [zT_187_33 hT, zT_187_60 hT, t0, (gbR_bk o4 r3).2.2.1, ebw, g_t (by decide), if_neg (show ¬ nI (bw B) ≤ nI n by rw [n_le (by omega) (by omega)]; omega), g_in (by omega) (by decide), tn_nI (by omega), (d2 n hn).1, ← heq (n + 1) (by omega)]
          cases z : zm (nI (hb (n + 1))) t with
          | true =>
            right
            rw [if_pos ((m_sh1 (by omega)).mpr z)]
            exact ⟨_, rfl, Or.inr ⟨n, hn, rfl, z, h1⟩⟩
          | false =>
            left
            rw [if_neg (fun y => by rw [m_sh1 (by omega), z] at y; cases y), let_q, n_addL]
            refine ⟨_, rfl, rfl, fun v hv => ?_⟩
            by_cases y : v = n
            · rw [y]; exact z
            · exact h1 v (by omega)
        · rintro a ⟨rfl, h1⟩
          refine ⟨.inl (), ?_, Or.inl ⟨rfl, h1⟩⟩
          unfold fX12_fetched_l32
          rw [zT_187_33 hT, t0, (gbR_bk o4 r3).2.2.1, ebw, g_t (by decide), if_pos (show nI (bw B) ≤ nI (bw B) by rw [n_le (by omega) (by omega)]; omega)]
        · exact ⟨rfl, fun v hv => absurd hv (Nat.not_lt_zero _)⟩
      obtain ⟨e, a1, a2⟩ := key
      have hb0 : zm (nI (hb 0)) t = false := by rw [c1.2.1]; exact m_0
      rw [a1, b1_q]
      rcases a2 with ⟨rfl, a2⟩ | ⟨w, hw, rfl, a2, a3⟩
      · rcases c4 t ht with ⟨x, -⟩ | ⟨v, v1, v2, v3, -⟩
        · rw [x]; rfl
        · rw [a2 v v1] at v3; cases v3
      · rcases c4 t ht with ⟨-, x⟩ | ⟨v, v1, v2, v3, v4⟩
        · rw [x (w + 1) (by omega) (by omega)] at a2; cases a2
        · have : v = w := by
            apply Classical.byContradiction
            intro z
            by_cases y : v < w
            · rw [a3 v y] at v3; cases v3
            · rw [v4 (w + 1) (by omega)] at a2; cases a2
          rw [v2, this]; rfl
    · have hm' : bst (bsL B (bw B)) 256 = -1 := by
        have h6 := bst_m1 (bsL B (bw B)) 256
        have h7 := z_lt.mp (z_nle hm)
        omega
      rw [if_neg hm]
      refine ⟨-2, S1, S3, rfl, ?_, hT, inv_fP f3 i1⟩
      rw [hh, b1_q, if_neg n10, e2, b_q, e3, b_q, if_pos (show r = -1 from z_eq.mpr (by omega))]
  · have hh : fX12_has T 187 x1 S = some 0 := by
      rcases r_has hT h4.2.2.2.1 x1 with ⟨h, -⟩ | ⟨-, e⟩
      · exact absurd h hn
      · exact e
    rw [e0, b1_q, if_pos rfl]
    refine ⟨-3, S, S, rfl, ?_, hT, h1, h2, h3, B, A, h4, h5⟩
    rw [hh, b1_q, if_pos rfl]
