theorem ok33 : oK33 invTS := by
  rintro T S ⟨hT, hi⟩ x1
  obtain ⟨hiT, hiR, hiI, B0, A0, ⟨c1, c2, c3, c4, c5, c6⟩, hiP⟩ := id hi
  have ei : ∀ S : zS, fX12_in T x1.toInt64 0 3 S = some (if 0 ≤ x1.toInt ∧ x1.toInt ≤ 3 then 1 else 0) := by
    intro S
    rw [v_in32]
    rfl
  by_cases hx : 0 ≤ x1.toInt ∧ x1.toInt ≤ 3
  · obtain ⟨k, hk, rfl⟩ := k4 hx
    obtain ⟨⟨r1, r2⟩, r3, r4, r5⟩ := row_T hT hk
    obtain ⟨m1, m2⟩ := hiI k hk
    rcases m2 with m2 | ⟨m2, B, A, b1, b2, b3, b4, b5, b6⟩
    · have hC : fX11_back T 0 (nI k) S = some (-1, S) := by
        unfold fX11_back fX11_back_b18
        rw [if_neg (n_lt0 (by omega)), if_neg (by rw [n_leL (by omega) (by omega)]; omega), g_in hk (by decide), zT_0_10 hT, tn_nI (by omega), m2, if_pos rfl]
      have hR : fX12_back T 187 (nI k) S = some (-1, S) := by
        unfold fX12_back fX12_back_b21
        rw [ei, b1_q, if_pos hx, if_neg n10, g_in hk (by decide), zT_187_64 hT, tn_nI (by omega), ← m1, m2, if_pos rfl]
      exact ⟨_, _, _, hC, hR, hT, hi⟩
    · obtain ⟨n, hn, hl⟩ := b3.2.2.2.2.2
      obtain ⟨S6, e1, o1, o2, o3⟩ := v_take (bkT_7 hT) (bkT_im hT hk) (by omega) hn hl
      obtain ⟨S10, e2, p1, p2, p3, p4⟩ := v_take7 (d := 41) (s := 95 + 21 * k) (S := S6) (zT_41_0 hT) (zT_41_1 hT) (zT_41_2 hT) r3 r4 r5 (by omega)
      have h413 : S10.1 41 3 = nI A.1 := by rw [p3, o2 _ _ (by omega)]; exact b5.1
      have hC : fX11_back T 0 (nI k) S = some (nI A.1, zI S10 176 2 0) := by
        unfold fX11_back
        rw [if_neg (n_lt0 (by omega)), if_neg (by rw [n_leL (by omega) (by omega)]; omega), g_in hk (by decide), zT_0_10 hT, tn_nI (by omega), m2, if_neg n10, g_in hk (by decide), zT_0_8 hT, zT_0_3 hT, zT_0_9 hT, zT_0_5 hT, zT_0_13 hT, r1, r2, e1, b_q, g_in hk (by decide), e2, b_q, let_q, zI_ne (by decide), h413]
      have f1 : ∀ a b, ¬ (7 ≤ a ∧ a ≤ 23) → ¬ (41 ≤ a ∧ a ≤ 44) → ¬ (a = 176 ∧ b = 2) → (zI S10 176 2 0).1 a b = S.1 a b := by
        intro a b h1 h2 h3
        rw [zI_o h3, p2 _ _ (by omega), o2 _ _ (by omega)]
      obtain ⟨S', g1, g2, g3, g4⟩ := r_bk hT hk (S := zI (zI S10 176 2 0) 187 66 1) (by rw [zI_eqs])
      have base : ∀ a b, ¬ (7 ≤ a ∧ a ≤ 23) → ¬ (41 ≤ a ∧ a ≤ 44) → ¬ (a = 176 ∧ b = 2) → ¬ (a = 187 ∧ b = 66) → (zI (zI S10 176 2 0) 187 66 1).1 a b = S.1 a b := fun a b h1 h2 h3 h4 => by rw [zI_o h4, f1 a b h1 h2 h3]
      have h36 : S'.1 187 36 = nI A.1 := by rw [g2, base _ _ (by omega) (by omega) (by omega) (by omega), ← imR_36]; exact b6.1
      have hR : fX12_back T 187 (nI k) (zI S10 176 2 0) = some (nI A.1, S') := by
        unfold fX12_back
        rw [ei, b1_q, if_pos hx, if_neg n10, g_in hk (by decide), zT_187_64 hT, tn_nI (by omega), f1 _ _ (by omega) (by omega) (by omega), ← m1, m2, if_neg n10, let_q, g1, b_q, h36]
      -- what is as it was
      have f2 : ∀ a b, ¬ (7 ≤ a ∧ a ≤ 23) → ¬ (41 ≤ a ∧ a ≤ 44) → ¬ (a = 176 ∧ b = 2) → ¬ (b < rN a ∨ 213 ≤ a ∧ a ≤ 215 ∧ b < 60) → ¬ (a = 187 ∧ (b = 65 ∨ b = 36 ∨ b = 66)) → a ≠ 229 → S'.1 a b = S.1 a b := by
        intro a b h1 h2 h3 h4 h5 h6
        rw [g4 a b h4 (by omega) h6, base a b h1 h2 h3 (by omega)]
      have nr : ∀ {a b}, a ≤ 188 ∨ 216 ≤ a → ¬ (b < rN a ∨ 213 ≤ a ∧ a ≤ 215 ∧ b < 60) := by
        intro a b h z
        rcases z with z | z
        · have := rN_big z; omega
        · omega
      have cI : ∀ a b, 7 ≤ a → a ≤ 23 → S'.1 a b = S6.1 a b := fun a b h1 h2 => by rw [g4 a b (nr (by omega)) (by omega) (by omega), zI_ne (by omega), zI_ne (by omega), p2 a b (by omega)]
      refine ⟨nI A.1, zI S10 176 2 0, S', hC, hR, hT, ?_, ?_, fun q hq => ?_, B, A, ⟨b1, b2, ?_, ?_, ?_, ?_⟩, Or.inl ?_⟩
      · obtain ⟨n, t1, t2, t3, t4⟩ := hiT
        refine ⟨n, t1, by rw [f2 _ _ (by omega) (by omega) (by omega) (nr (by omega)) (by omega) (by omega)]; exact t2, by rw [f2 _ _ (by omega) (by omega) (by omega) (nr (by omega)) (by omega) (by omega)]; exact t3, fun i hi => ?_⟩
        rw [f2 188 i (by omega) (by omega) (by omega) (nr (by omega)) (by omega) (by omega), f2 1 i (by omega) (by omega) (by omega) (nr (by omega)) (by omega) (by omega)]
        exact t4 i hi
      · obtain ⟨r, q1, q2, q3, q4⟩ := hiR
        refine ⟨r, q1, by rw [f2 _ _ (by omega) (by omega) (by omega) (nr (by omega)) (by omega) (by omega)]; exact q2, by rw [f2 _ _ (by omega) (by omega) (by omega) (nr (by omega)) (by omega) (by omega)]; exact q3, fun q hq => ?_⟩
        obtain ⟨L, l1, l2, l3⟩ := q4 q hq
        have hlen := l1.1
        refine ⟨L, l1, ruC_cg (fun a b _ _ => f2 a b (by omega) (by omega) (by omega) (nr (by omega)) (by omega) (by omega)) l2, ruR_cg (by omega) (fun a b h1 h2 h3 h4 h5 => f2 a b (by omega) (by omega) (by omega) (fun z => ?_) (by omega) (by omega)) l3⟩
        rcases z with z | z
        · unfold rN at z
          split at z
          · have := h3 (by omega); omega
          · split at z
            · have := h5 (by omega); omega
            · split at z
              · omega
              · split at z
                · have := h4 (by omega); omega
                · omega
        · omega
      · obtain ⟨i1, i2⟩ := hiI q hq
        rw [f2 162 q (by omega) (by omega) (by omega) (nr (by omega)) (by omega) (by omega), f2 228 q (by omega) (by omega) (by omega) (nr (by omega)) (by omega) (by omega), imR_eq (S := S) (S' := S') (k := q) (fun b => f2 227 b (by omega) (by omega) (by omega) (nr (by omega)) (by omega) (by omega))]
        refine ⟨i1, i2.imp id ?_⟩
        rintro ⟨i3, B', A', a1, a2, a3, a4, a5, a6⟩
        exact ⟨i3, B', A', a1, a2, bkC_cg (fun a b h1 h2 => f2 a b (by omega) (by omega) (by omega) (nr (by omega)) (by omega) (by omega)) a3, a4, rwC_cg (fun a b h1 h2 => f2 a b (by omega) (by omega) (by omega) (nr (by omega)) (by omega) (by omega)) a5, a6⟩
      · exact bkC_cg (fun a b h1 h2 => cI a b (by omega) (by omega)) (bkC_cp o3 b3)
      · refine bkR_cg (R := imR S k) (fun a b hab => ?_) b4
        rw [g3 a b (Or.inl hab), base _ _ (by omega) (by omega) (by omega) (by omega), imR_r (Or.inl hab)]
      · refine rwC_cg (S := S10) (fun a b h1 h2 => by rw [g4 a b (nr (by omega)) (by omega) (by omega), zI_ne (by omega), zI_ne (by omega)]) ?_
        exact rwC_cp (s := 95 + 21 * k) (S := S6) b2.1 p3 p4 (rwC_cg (fun a b _ _ => o2 a b (by omega)) b5)
      · refine ⟨h36, fun i hi j hj => ?_⟩
        have h60 := b2.1
        have hab : i < rN (213 + j) ∨ 213 ≤ 213 + j ∧ 213 + j ≤ 215 ∧ i < 60 := Or.inr ⟨by omega, by omega, by omega⟩
        rw [g3 _ _ hab, base _ _ (by omega) (by omega) (by omega) (by omega), ← imR_r hab]
        exact b6.2 i hi j hj
      · rw [g4 _ _ (nr (by omega)) (by omega) (by omega), zI_ne (by decide), zI_eqs]
  · have hC : fX11_back T 0 x1 S = some (-1, S) := by
      unfold fX11_back fX11_back_b18
      by_cases q0 : x1 < 0
      · rw [if_pos q0]
      · rw [if_neg q0, if_pos (by
          have a : 0 ≤ x1.toInt := z_le.mp (z_nlt q0)
          exact z_le.mpr (show (4 : Int) ≤ x1.toInt by omega))]
    have hR : fX12_back T 187 x1 S = some (-1, S) := by
      unfold fX12_back fX12_back_b21
      rw [ei, b1_q, if_neg hx, if_pos rfl]
    exact ⟨_, _, _, hC, hR, hT, hi⟩
