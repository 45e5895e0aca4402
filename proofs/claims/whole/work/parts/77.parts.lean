theorem ok25 : oK25 invTS := by
  rintro T S ⟨hT, hi⟩ x1 x2
  obtain ⟨t1, t2, t3, t4⟩ := zT_cells hT
  obtain ⟨-, ⟨r, hr6, hrc, hrr, hru⟩, -, B, A, ⟨b1, b2, b3, b4, b5, b6⟩, -⟩ := id hi
  obtain ⟨w1, w2, w3⟩ := bw_nI b1
  by_cases hall : isRl r x1 ∧ isRl r x2 ∧ ¬ x1 = x2
  · obtain ⟨h1, h2, h3⟩ := hall
    obtain ⟨q1, hq1, rfl⟩ := isRl_q hr6 h1
    obtain ⟨q2, hq2, rfl⟩ := isRl_q hr6 h2
    obtain ⟨L1, l1, l2, l3⟩ := hru q1 hq1
    obtain ⟨L2, m1, m2, m3⟩ := hru q2 hq2
    obtain ⟨u1, -⟩ := rul_T hT (show q1 < 6 by omega)
    obtain ⟨u2, -⟩ := rul_T hT (show q2 < 6 by omega)
    have g : zcg 0 0 8 8 8 = true := by decide
    -- the class: one, then the other
    obtain ⟨Sc1, Sx1, e1, -, -, g1, -⟩ := rule_sim hT b1 l1 (show q1 < 6 by omega) w1 w3 (wrkR_0 (S.2 187 52)) (wrkC_0 w3) b3 b4 l2 l3 rfl
    have gz : gI Sc1 (zCp Sc1 172 186 0 0 8) ∨ True := Or.inr trivial
    have f2 : ∀ a b, ¬ (166 ≤ a ∧ a ≤ 175) → a ≠ 186 → (zCp Sc1 172 186 0 0 8).1 a b = S.1 a b := fun a b n n' => by rw [zCp_n n']; exact g1 a b n
    have hc2 : bkC (zCp Sc1 172 186 0 0 8) 7 B := bkC_cg (fun a b _ _ => f2 a b (by omega) (by omega)) b3
    have hrc2 : ruC (zCp Sc1 172 186 0 0 8) (46 + 5 * q2) L2 := ruC_cg (fun a b _ _ => f2 a b (by omega) (by omega)) m2
    obtain ⟨Sc3, Sx3, e3, -, -, g3, -⟩ := rule_sim hT b1 m1 (show q2 < 6 by omega) w1 w3 (wrkR_0 (S.2 187 52)) (wrkC_0 w3) hc2 b4 hrc2 m3 rfl
    have f3 : ∀ a b, ¬ (166 ≤ a ∧ a ≤ 175) → a ≠ 186 → Sc3.1 a b = S.1 a b := fun a b n n' => (g3 a b n).trans (f2 a b n n')
    have h186 : ∀ t, t < 8 → Sc3.1 186 t = Sc1.1 172 t := fun t ht => by rw [g3 _ _ (by omega)]; exact zCp_e ht
    -- the reference: the other, then the one
    have r4 : bkR Sc3.1 B := bkR_cg (fun a b hab => by have := rN_big hab; exact f3 a b (by omega) (by omega)) b4
    have rm3 : ruR Sc3 (2 + q2) L2 := ruR_cg (by have := m1.1; omega) (fun a b _ _ _ _ _ => f3 a b (by omega) (by omega)) m3
    have rl3 : ruR Sc3 (2 + q1) L1 := ruR_cg (by have := l1.1; omega) (fun a b _ _ _ _ _ => f3 a b (by omega) (by omega)) l3
    obtain ⟨Sy, Sr1, k1, k2, ⟨-, -, -, -, k3, -⟩, -, k4, -⟩ := rule_sim hT b1 m1 (show q2 < 6 by omega) w1 w3 (wrkR_0 (Sc3.2 187 52)) (wrkC_0 w3) hc2 r4 hrc2 rm3 rfl
    rw [e3] at k1
    cases k1
    -- it is put aside
    have key : zwp (lp (fun a => fX12_parts_l31 T 187 (nI q1) a.1 a.2) (0, Sr1)) (fun S' => onlyI Sr1 S' 226 ∧ ∀ t, t < 8 → S'.1 226 t = Sr1.1 225 t) := by
      refine lp_for (I := fun n a => ∃ S', a = (nI n, S') ∧ onlyI Sr1 S' 226 ∧ ∀ t, t < n → S'.1 226 t = Sr1.1 225 t) 8 ?_ ?_ ?_
      · rintro n a hn ⟨S', rfl, h1, h2⟩
        left
        show ∃ a', fX12_parts_l31 T 187 (nI q1) (nI n) S' = _ ∧ _
        unfold fX12_parts_l31
        rw [if_neg (by rw [n_leL (by omega) (by omega)]; omega), g_in hn (by decide), g_in hn (by decide), let_q, let_q, n_addL, zT_187_61 hT, zT_187_62 hT, tn_nI (by omega)]
        refine ⟨_, rfl, _, rfl, onlyI_z h1, fun t ht => ?_⟩
        rw [zI_eq]
        by_cases z : t = n
        · rw [if_pos z, z]; exact h1.2 _ _ (by decide)
        · rw [if_neg z]; exact h2 t (by omega)
      · rintro a ⟨S', rfl, h1, h2⟩
        refine ⟨S', ?_, h1, h2⟩
        show fX12_parts_l31 T 187 (nI q1) (nI 8) S' = _
        unfold fX12_parts_l31
        exact if_pos (show (8 : Int32) ≤ nI 8 by decide)
      · exact ⟨Sr1, rfl, onlyI_refl, fun t ht => absurd ht (Nat.not_lt_zero _)⟩
    obtain ⟨Sr2, e5, o1, o2⟩ := key
    have gq2 : gQ Sc3 Sr2 := fun a b n m => by rw [o1.2 _ _ (by omega)]; exact k4 a b n m
    obtain ⟨Sz, Sr3, n1, n2, ⟨-, -, -, -, n3, -⟩, -, n4, -⟩ := rule_sim hT b1 l1 (show q1 < 6 by omega) w1 w3 (wrkR_0 (Sr2.2 187 52)) (wrkC_0 w3) b3 (bkR_Q gq2 r4) l2 (ruR_Q l1 gq2 rl3) rfl
    rw [e1] at n1
    cases n1
    have h226 : ∀ t, t < 8 → Sr3.1 226 t = Sc3.1 172 t := by
      intro t ht
      have : Sr3.1 226 t = Sr2.1 226 t := by
        have := wI_X12_follows (T := T) (k0 := 187) (x1 := nI q1) (x2 := 0) (S := Sr2) (S0 := Sr2) (a := 226) (b := t) (by rw [zT_187_40 hT]; decide) (by rw [zT_187_41 hT]; decide) (by rw [zT_187_42 hT]; decide) (by rw [zT_187_43 hT]; decide) (by rw [zT_187_46 hT]; decide) (by omega) (by omega) (by omega) (by omega) (by omega) (by rw [zT_187_61 hT]; decide) rfl _ n2
        exact this
      rw [this, o2 t ht, k3 t ht]
    have h225 : ∀ t, t < 8 → Sr3.1 225 t = Sc1.1 172 t := n3
    -- what differs
    have cntC : lp (fun a => fX11_parts_l78 T 0 Sc3 a.1 a.2) (0, 0) = some (nI (cnt (fun t => decide (¬ Sc1.1 172 t = Sc3.1 172 t)) 8)) := by
      refine lp_steps (f := fun a => fX11_parts_l78 T 0 Sc3 a.1 a.2) (fun n => (nI (cnt (fun t => decide (¬ Sc1.1 172 t = Sc3.1 172 t)) n), nI n)) 8 _ (fun n hn => ?_) ?_
      · show fX11_parts_l78 T 0 Sc3 (nI (cnt (fun t => decide (¬ Sc1.1 172 t = Sc3.1 172 t)) n)) (nI n) = some (.inl (nI (cnt (fun t => decide (¬ Sc1.1 172 t = Sc3.1 172 t)) n + if decide (¬ Sc1.1 172 n = Sc3.1 172 n) = true then 1 else 0), nI (n + 1)))
        unfold fX11_parts_l78 fX11_parts_b108
        rw [if_neg (by rw [n_leL (by omega) (by omega)]; omega), g_in hn (by decide), g_in hn (by decide), zT_0_15 hT, t1, zT_166_11 hT, tn_nI (by omega), h186 n hn]
        simp only [let_q, n_addL]
        by_cases z : Sc1.1 172 n = Sc3.1 172 n
        · rw [if_pos z, if_neg (by simp [z])]; rfl
        · rw [if_neg z, if_pos (by simp [z])]
      · show fX11_parts_l78 T 0 Sc3 (nI (cnt (fun t => decide (¬ Sc1.1 172 t = Sc3.1 172 t)) 8)) (nI 8) = _
        unfold fX11_parts_l78
        exact if_pos (show (8 : Int32) ≤ nI 8 by decide)
    have cntR : lp (fun a => fX12_parts_l66 T 187 Sr3 a.1 a.2) (0, 0) = some (nI (cnt (fun t => decide (¬ Sc1.1 172 t = Sc3.1 172 t)) 8)) := by
      refine lp_steps (f := fun a => fX12_parts_l66 T 187 Sr3 a.1 a.2) (fun n => (nI (cnt (fun t => decide (¬ Sc1.1 172 t = Sc3.1 172 t)) n), nI n)) 8 _ (fun n hn => ?_) ?_
      · show fX12_parts_l66 T 187 Sr3 (nI (cnt (fun t => decide (¬ Sc1.1 172 t = Sc3.1 172 t)) n)) (nI n) = some (.inl (nI (cnt (fun t => decide (¬ Sc1.1 172 t = Sc3.1 172 t)) n + if decide (¬ Sc1.1 172 n = Sc3.1 172 n) = true then 1 else 0), nI (n + 1)))
        unfold fX12_parts_l66 fX12_parts_b96
        rw [if_neg (by rw [n_leL (by omega) (by omega)]; omega), g_in hn (by decide), g_in hn (by decide), zT_187_61 hT, zT_187_62 hT, tn_nI (by omega), h226 n hn, h225 n hn]
        simp only [let_q, n_addL, Int32.add_zero]
        by_cases z : Sc1.1 172 n = Sc3.1 172 n
        · rw [if_pos z.symm, if_neg (by simp [z])]; rfl
        · rw [if_neg (fun y => z y.symm), if_pos (by simp [z])]
      · show fX12_parts_l66 T 187 Sr3 (nI (cnt (fun t => decide (¬ Sc1.1 172 t = Sc3.1 172 t)) 8)) (nI 8) = _
        unfold fX12_parts_l66
        exact if_pos (show (8 : Int32) ≤ nI 8 by decide)
    have z8 : ((0 : Int32).toNatClampNeg = 0) ∧ (8 : Int32).toNatClampNeg = 8 := ⟨rfl, rfl⟩
    have hC : fX11_parts T 0 (nI q1) (nI q2) S = some (nI (cnt (fun t => decide (¬ Sc1.1 172 t = Sc3.1 172 t)) 8), Sc3) := by
      unfold fX11_parts
      rcases c_isRule (T := T) hr6 hrc (nI q1) with ⟨-, i1⟩ | ⟨n, -⟩
      · rcases c_isRule (T := T) hr6 hrc (nI q2) with ⟨-, i2⟩ | ⟨n, -⟩
        · rw [i1, b1_q, if_neg n10, i2, b1_q, if_neg n10, if_neg h3, g_in (by omega) (by decide), t1, zT_0_6 hT, tn_nI (by omega), u1, e1, b_q, g_t g, let_q, zT_166_11 hT, zT_0_15 hT, z8.1, z8.2, g_in (by omega) (by decide), tn_nI (by omega), u2, e3, b_q, cntC, b1_q]
        · exact absurd h2 n
      · exact absurd h1 n
    have hR : fX12_parts T 187 (nI q1) (nI q2) Sc3 = some (nI (cnt (fun t => decide (¬ Sc1.1 172 t = Sc3.1 172 t)) 8), Sr3) := by
      unfold fX12_parts
      have h5 : Sc3.1 187 5 = nI r := by rw [f3 _ _ (by omega) (by omega)]; exact hrr
      rcases r_isRule (T := T) (S := Sc3) hr6 h5 (nI q1) with ⟨-, i1⟩ | ⟨n, -⟩
      · rcases r_isRule (T := T) (S := Sc3) hr6 h5 (nI q2) with ⟨-, i2⟩ | ⟨n, -⟩
        · rw [i1, b1_q, if_neg n10, i2, b1_q, if_neg n10, if_neg h3, k2, b_q, e5, b1_q, n2, b_q, cntR, b1_q]
        · exact absurd h2 n
      · exact absurd h1 n
    have k1' := kp_Q n4
    have k2' := kp_Q gq2
    refine ⟨_, _, _, hC, hR, hT, inv_kp k1'.1 k1'.2 (inv_kp k2'.1 k2'.2 (inv_kp (fun a b hk => f3 a b (by have := of_decide_eq_true hk; omega) (by have := of_decide_eq_true hk; omega)) (fun a b hk => f3 a b (by have := of_decide_eq_true hk; omega) (by have := of_decide_eq_true hk; omega)) hi))⟩
  · have hC : fX11_parts T 0 x1 x2 S = some (-1, S) := by
      unfold fX11_parts fX11_parts_b21
      rcases c_isRule (T := T) hr6 hrc x1 with ⟨h1, e⟩ | ⟨-, e⟩
      · rw [e, b1_q, if_neg n10]
        rcases c_isRule (T := T) hr6 hrc x2 with ⟨h2, e⟩ | ⟨-, e⟩
        · rw [e, b1_q, if_neg n10, if_pos (Decidable.byContradiction fun z => hall ⟨h1, h2, z⟩)]
        · rw [e, b1_q, if_pos rfl]
      · rw [e, b1_q, if_pos rfl]
    have hR : fX12_parts T 187 x1 x2 S = some (-1, S) := by
      unfold fX12_parts fX12_parts_b21
      rcases r_isRule (T := T) hr6 hrr x1 with ⟨h1, e⟩ | ⟨-, e⟩
      · rw [e, b1_q, if_neg n10]
        rcases r_isRule (T := T) hr6 hrr x2 with ⟨h2, e⟩ | ⟨-, e⟩
        · rw [e, b1_q, if_neg n10, if_pos (Decidable.byContradiction fun z => hall ⟨h1, h2, z⟩)]
        · rw [e, b1_q, if_pos rfl]
      · rw [e, b1_q, if_pos rfl]
    exact ⟨_, _, _, hC, hR, hT, hi⟩
