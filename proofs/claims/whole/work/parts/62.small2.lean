/-- what has to do with the row alone -/
theorem inv_row {S S' : zS} {B : Bk} {A : Rw} (e : ∀ a b, ¬ (41 ≤ a ∧ a ≤ 44) → ¬ (213 ≤ a ∧ a ≤ 215) → ¬ (a = 187 ∧ b = 36) → S'.1 a b = S.1 a b) (hi : inv S) (hA : ∀ B' A', invB B' A' S → okRw B' A) (hb : invB B A S → True) (h1 : rwC S' 41 A) (h2 : rwR S'.1 A) : inv S' := by
  obtain ⟨t, ⟨r, r1, r2, r3, r4⟩, h3, B', A', hbb, h5⟩ := hi
  have hok := hA B' A' hbb
  obtain ⟨b1, b2, b3, b4, b5, b6⟩ := hbb
  refine ⟨?_, ⟨r, r1, ?_, ?_, fun q hq => ?_⟩, fun k hk => ?_, B', A, ⟨b1, hok, bkC_cg (fun a b _ _ => e a b (by omega) (by omega) (by omega)) b3, bkR_cg (fun a b hab => by have := rN_big hab; exact e a b (by omega) (by omega) (by omega)) b4, h1, h2⟩, ?_⟩
  · obtain ⟨n, t1, t2, t3, t4⟩ := t
    refine ⟨n, t1, by rw [e _ _ (by omega) (by omega) (by omega)]; exact t2, by rw [e _ _ (by omega) (by omega) (by omega)]; exact t3, fun i hi => ?_⟩
    rw [e 188 i (by omega) (by omega) (by omega), e 1 i (by omega) (by omega) (by omega)]
    exact t4 i hi
  · rw [e _ _ (by omega) (by omega) (by omega)]; exact r2
  · rw [e _ _ (by omega) (by omega) (by omega)]; exact r3
  · obtain ⟨L, l1, l2, l3⟩ := r4 q hq
    exact ⟨L, l1, ruC_cg (fun a b _ _ => e a b (by omega) (by omega) (by omega)) l2, ruR_cg (by have := l1.1; omega) (fun a b _ _ _ _ _ => e a b (by omega) (by omega) (by omega)) l3⟩
  · obtain ⟨i1, i2⟩ := h3 k hk
    rw [e 162 k (by omega) (by omega) (by omega), e 228 k (by omega) (by omega) (by omega)]
    refine ⟨i1, i2.imp id ?_⟩
    rintro ⟨i3, B', A', a1, a2, a3, a4, a5, a6⟩
    rw [imR_eq (S := S) (S' := S') (k := k) (fun b => e 227 b (by omega) (by omega) (by omega))]
    exact ⟨i3, B', A', a1, a2, bkC_cg (fun a b _ _ => e a b (by omega) (by omega) (by omega)) a3, a4, rwC_cg (fun a b _ _ => e a b (by omega) (by omega) (by omega)) a5, a6⟩
  · have e6 : ∀ b, S'.1 176 b = S.1 176 b := fun b => e 176 b (by omega) (by omega) (by omega)
    have e7 : ∀ b, S'.1 177 b = S.1 177 b := fun b => e 177 b (by omega) (by omega) (by omega)
    have e8 : ∀ b, S'.1 178 b = S.1 178 b := fun b => e 178 b (by omega) (by omega) (by omega)
    have e9 : ∀ b, S'.1 179 b = S.1 179 b := fun b => e 179 b (by omega) (by omega) (by omega)
    have e10 : ∀ b, S'.1 180 b = S.1 180 b := fun b => e 180 b (by omega) (by omega) (by omega)
    unfold invP plOK at h5 ⊢
    simp only [e6, e7, e8, e9, e10, e 22 2 (by omega) (by omega) (by omega)]
    exact h5
theorem ok9 : oK9 invTS := by
  rintro T S ⟨hT, hi⟩ x1
  obtain ⟨-, -, -, B, A, ⟨b1, b2, b3, b4, b5, b6⟩, -⟩ := id hi
  have h60 := b2.1
  unfold fX11_row fX12_row fX11_row_b15
  rw [zT_0_5 hT, b5.1]
  have ei : ∀ S : zS, fX12_in T x1.toInt64 0 (nI A.1).toInt64 S = some (if 0 ≤ x1.toInt ∧ x1.toInt ≤ (A.1 : Int) then 1 else 0) := by
    intro S
    rw [v_in32, i2l_t, nI_toInt (by omega)]
    rfl
  by_cases q0 : x1 < 0
  · rw [if_pos q0]
    have a : x1.toInt < 0 := z_lt.mp q0
    exact ⟨_, _, _, rfl, by rw [b6.1, ei, b1_q, if_neg (show ¬ (0 ≤ x1.toInt ∧ x1.toInt ≤ (A.1 : Int)) by omega), if_pos rfl], hT, hi⟩
  · rw [if_neg q0]
    have a0 : 0 ≤ x1.toInt := z_le.mp (z_nlt q0)
    by_cases q1 : x1 ≤ nI A.1
    · rw [if_pos q1, let_q]
      have a1 := z_le.mp q1
      rw [nI_toInt (by omega)] at a1
      have a2 := z_tn a0
      have hx : x1 = nI x1.toNatClampNeg := (nI_n a0).symm
      refine ⟨1, zI S 41 3 x1, zI (zI S 41 3 x1) 187 36 x1, rfl, ?_, hT, inv_row (B := B) (A := (x1.toNatClampNeg, A.2)) (fun a b n1 n2 n3 => by rw [zI_o (by omega), zI_o (by omega)]) hi ?_ (fun _ => trivial) ⟨?_, fun i hi j hj => ?_⟩ ⟨?_, fun i hi j hj => ?_⟩⟩
      · rw [zI_ne (by decide), b6.1, ei, b1_q, if_pos (show 0 ≤ x1.toInt ∧ x1.toInt ≤ (A.1 : Int) from ⟨a0, a1⟩), if_neg n10, let_q]
      · rintro B' A' ⟨c1, c2, c3, c4, c5, c6⟩
        have e1 : nI A'.1 = nI A.1 := c5.1.symm.trans b5.1
        have h60' := c2.1
        rw [n_eq (by omega) (by omega)] at e1
        refine ⟨by show x1.toNatClampNeg ≤ 60; omega, fun i hi => ?_⟩
        have hi' : i < x1.toNatClampNeg := hi
        have e2 : ∀ j, j < 3 → A.2 j i = A'.2 j i := fun j hj => (b5.2 i (by omega) j hj).symm.trans (c5.2 i (by omega) j hj)
        have := c2.2 i (by omega)
        show (∃ w, w ≤ 60 ∧ A.2 0 i = nI w) ∧ (A.2 1 i = 4 ∨ ∃ t, t < 8 ∧ A.2 2 i = nI t ∧ zm (bth B') t = true ∧ (A.2 1 i = 0 ∨ A.2 1 i = 1 ∨ A.2 1 i = 2 ∨ A.2 1 i = 3))
        rw [e2 0 (by omega), e2 1 (by omega), e2 2 (by omega)]
        exact this
      · rw [zI_ne (by decide), zI_eqs]; exact hx
      · have hi' : i < x1.toNatClampNeg := hi
        rw [zI_ne (by omega), zI_o (by omega)]
        exact b5.2 i (by omega) j hj
      · rw [zI_eqs]; exact hx
      · have hi' : i < x1.toNatClampNeg := hi
        rw [zI_ne (by omega), zI_ne (by omega)]
        exact b6.2 i (by omega) j hj
    · rw [if_neg q1]
      have a1 : ¬ x1.toInt ≤ (A.1 : Int) := fun z => q1 (z_le.mpr (by rw [nI_toInt (by omega)]; exact z))
      exact ⟨_, _, _, rfl, by rw [b6.1, ei, b1_q, if_neg (show ¬ (0 ≤ x1.toInt ∧ x1.toInt ≤ (A.1 : Int)) by omega), if_pos rfl], hT, hi⟩
/-- whether an act is as told: 4 of thing 0, or 0 to 3 of a thing -/
def actP (B : Bk) (s x : Int32) : Prop := s = 4 ∧ x = 0 ∨ (0 ≤ s.toInt ∧ s.toInt < 4) ∧ hasP B x
theorem c_act1 {T : zT} (hT : iT T) {B : Bk} {S : zS} (hc : bkC S 7 B) (x1 s x : Int32) : fX11_act T 0 x1 s x S = fX11_act_b42 T 0 x1 s x 1 S ∧ actP B s x ∨ fX11_act T 0 x1 s x S = fX11_act_b42 T 0 x1 s x 0 S ∧ ¬ actP B s x := by
  unfold fX11_act fX11_act_b41
  by_cases q : s = 4
  · rw [if_pos q]
    by_cases q2 : x = 0
    · rw [if_pos q2]; exact Or.inl ⟨rfl, Or.inl ⟨q, q2⟩⟩
    · rw [if_neg q2]
      refine Or.inr ⟨rfl, ?_⟩
      rintro (z | z)
      · exact q2 z.2
      · have := z.1.2; rw [q] at this; exact absurd this (by decide)
  · rw [if_neg q]
    by_cases q1 : s < 0
    · rw [if_pos q1]
      refine Or.inr ⟨rfl, ?_⟩
      have a : s.toInt < 0 := z_lt.mp q1
      rintro (z | z)
      · exact q z.1
      · omega
    · rw [if_neg q1]
      have a : 0 ≤ s.toInt := z_le.mp (z_nlt q1)
      by_cases q2 : 4 ≤ s
      · rw [if_pos q2]
        refine Or.inr ⟨rfl, ?_⟩
        have a : 4 ≤ s.toInt := z_le.mp q2
        rintro (z | z)
        · exact q z.1
        · omega
      · rw [if_neg q2]
        have b : s.toInt < 4 := z_lt.mp (z_nle q2)
        rw [zT_0_3 hT]
        rcases c_has (T := T) hc x with ⟨h, e⟩ | ⟨h, e⟩
        · rw [e, b1_q, if_neg n10]
          exact Or.inl ⟨rfl, Or.inr ⟨⟨a, b⟩, h⟩⟩
        · rw [e, b1_q, if_pos rfl]
          refine Or.inr ⟨rfl, ?_⟩
          rintro (z | z)
          · exact q z.1
          · exact h z.2
theorem r_act1 {T : zT} (hT : iT T) {B : Bk} {S : zS} (hr : bkR S.1 B) (x1 s x : Int32) : fX12_act_b38 T 187 x1 s x S = fX12_act_b72 T 187 x1 s x S ∧ actP B s x ∨ fX12_act_b38 T 187 x1 s x S = some (-1, S) ∧ ¬ actP B s x := by
  unfold fX12_act_b38 fX12_act_b70
  have ei : fX12_in T s.toInt64 0 4 S = some (if 0 ≤ s.toInt ∧ s.toInt ≤ 4 then 1 else 0) := by
    rw [v_in32]
    rfl
  rw [ei, b1_q]
  by_cases q : s = 4
  · rw [if_pos (show 0 ≤ s.toInt ∧ s.toInt ≤ 4 by rw [q]; decide), if_neg n10, if_pos q]
    by_cases q2 : x = 0
    · rw [if_pos q2]; exact Or.inl ⟨rfl, Or.inl ⟨q, q2⟩⟩
    · rw [if_neg q2]
      refine Or.inr ⟨rfl, ?_⟩
      rintro (z | z)
      · exact q2 z.2
      · have := z.1.2; rw [q] at this; exact absurd this (by decide)
  · have ne : s.toInt ≠ 4 := fun z => q (z_eq.mpr z)
    by_cases q1 : 0 ≤ s.toInt ∧ s.toInt ≤ 4
    · rw [if_pos q1, if_neg n10, if_neg q]
      rcases r_has hT hr x with ⟨h, e⟩ | ⟨h, e⟩
      · rw [e, b1_q, if_neg n10]
        exact Or.inl ⟨rfl, Or.inr ⟨⟨q1.1, by omega⟩, h⟩⟩
      · rw [e, b1_q, if_pos rfl]
        refine Or.inr ⟨rfl, ?_⟩
        rintro (z | z)
        · exact q z.1
        · exact h z.2
    · rw [if_neg q1, if_pos rfl]
      refine Or.inr ⟨rfl, ?_⟩
      rintro (z | z)
      · exact q z.1
      · exact q1 ⟨z.1.1, by omega⟩
theorem ok8 : oK8 invTS := by
  rintro T S ⟨hT, hi⟩ x1 x2 x3
  obtain ⟨-, -, -, B, A, ⟨b1, b2, b3, b4, b5, b6⟩, -⟩ := id hi
  have h60 := b2.1
  -- what both take: a week, and room
  have hno : ∀ S' : zS, fX12_act_b70 T S' = some (-1, S') := fun _ => rfl
  have hcno : fX11_act_b67 T S = some (-1, S) := rfl
  have hz : fX11_act_b42 T 0 x1 x2 x3 0 S = some (-1, S) := by
    unfold fX11_act_b42
    rw [if_pos rfl]; rfl
  have last : ∀ (m : Nat), A.1 = m + 1 → S.1 42 m = S.1 213 m := fun m hm => (b5.2 m (by omega) 0 (by decide)).trans (b6.2 m (by omega) 0 (by decide)).symm
  -- the two tests of week and room are one
  by_cases hw : (0 ≤ x1.toInt ∧ x1.toInt ≤ 60) ∧ A.1 < 60 ∧ (A.1 = 0 ∨ ¬ x1 < S.1 213 (A.1 - 1))
  · obtain ⟨hw1, hw2, hw3⟩ := hw
    have hcan : fX7_canTake T 41 x1 S = some 1 := by
      unfold fX7_canTake fX7_canTake_b31 fX7_canTake_b35 fX7_canTake_b36
      rw [b5.1, if_neg (by rw [n_leL (by omega) (by omega)]; omega)]
      by_cases z : A.1 = 0
      · rw [if_pos (by rw [z]; rfl)]; rfl
      · rw [if_neg (by rw [n_eqR (by omega) (by omega)]; exact z), n_subL (by omega), g_in (by omega) (by decide), zT_41_0 hT, tn_nI (by omega)]
        have e := last (A.1 - 1) (by omega)
        have e' : S.1 42 (A.1 - OfNat.ofNat 1) = S.1 213 (A.1 - 1) := e
        rw [e', if_neg (hw3.resolve_left z)]; rfl
    have hR : fX12_act T 187 x1 x2 x3 S = fX12_act_b38 T 187 x1 x2 x3 S := by
      unfold fX12_act
      rw [b6.1, if_neg (by rw [n_eqR (by omega) (by omega)]; omega), v_isWeek, b1_q, if_pos hw1, if_neg n10]
      by_cases z : A.1 = 0
      · rw [if_pos (by rw [n_leR (by omega) (by omega)]; omega)]
      · rw [if_neg (by rw [n_leR (by omega) (by omega)]; omega), n_subL (by omega), g_in (by omega) (by decide), zT_187_37 hT, tn_nI (by omega)]
        rw [if_neg (show ¬ x1 < S.1 213 (A.1 - OfNat.ofNat 1) from hw3.resolve_left z)]
    rcases c_act1 hT b3 x1 x2 x3 with ⟨e1, h1⟩ | ⟨e1, h1⟩
    · -- it is taken
      have hC : fX11_act T 0 x1 x2 x3 S = some (nI (A.1 + 1), zI (zI (zI (zI S 42 A.1 x1) 43 A.1 x2) 44 A.1 x3) 41 3 (nI (A.1 + 1))) := by
        rw [e1]
        unfold fX11_act_b42
        rw [if_neg n10, v_isTellable, b1_q, if_pos hw1, if_neg n10, zT_0_5 hT, hcan, b1_q, if_neg n10]
        unfold fX7_add fX7_add_b49
        rw [b5.1, if_neg (by rw [n_leL (by omega) (by omega)]; omega), g_in hw2 (by decide)]
        simp only [let_q, zT_41_0 hT, zT_41_1 hT, zT_41_2 hT, tn_nI (show A.1 < 2147483648 by omega)]
        have c1 : (zI S 42 A.1 x1).1 41 3 = nI A.1 := by rw [zI_ne (by decide)]; exact b5.1
        have c2 : (zI (zI S 42 A.1 x1) 43 A.1 x2).1 41 3 = nI A.1 := by rw [zI_ne (by decide)]; exact c1
        have c3 : (zI (zI (zI S 42 A.1 x1) 43 A.1 x2) 44 A.1 x3).1 41 3 = nI A.1 := by rw [zI_ne (by decide)]; exact c2
        simp only [c1, tn_nI (show A.1 < 2147483648 by omega), c2, g_in hw2 (show 60 < 2147483648 by decide), c3, b_q, zI_eqs, n_addL]
      -- the reference, from there
      have hR2 : ∀ S' : zS, S'.1 187 36 = nI A.1 → fX12_act_b72 T 187 x1 x2 x3 S' = some (nI (A.1 + 1), zI (zI (zI (zI S' 213 A.1 x1) 214 A.1 x2) 215 A.1 x3) 187 36 (nI (A.1 + 1))) := by
        intro S' h36
        unfold fX12_act_b72
        rw [h36, g_in hw2 (by decide)]
        simp only [let_q, zT_187_37 hT, zT_187_38 hT, zT_187_39 hT, tn_nI (show A.1 < 2147483648 by omega)]
        have c1 : (zI S' 213 A.1 x1).1 187 36 = nI A.1 := by rw [zI_ne (by decide)]; exact h36
        have c2 : (zI (zI S' 213 A.1 x1) 214 A.1 x2).1 187 36 = nI A.1 := by rw [zI_ne (by decide)]; exact c1
        have c3 : (zI (zI (zI S' 213 A.1 x1) 214 A.1 x2) 215 A.1 x3).1 187 36 = nI A.1 := by rw [zI_ne (by decide)]; exact c2
        simp only [c1, tn_nI (show A.1 < 2147483648 by omega), c2, g_in hw2 (show 60 < 2147483648 by decide), c3, zI_eqs, n_addL]
      rw [hC]
      generalize hS1 : zI (zI (zI (zI S 42 A.1 x1) 43 A.1 x2) 44 A.1 x3) 41 3 (nI (A.1 + 1)) = S1
      have f1 : ∀ a b, ¬ (41 ≤ a ∧ a ≤ 44) → S1.1 a b = S.1 a b := fun a b n => by rw [← hS1, zI_ne (by omega), zI_ne (by omega), zI_ne (by omega), zI_ne (by omega)]
      have hb1 : bkR S1.1 B := bkR_cg (fun a b hab => by have := rN_big hab; exact f1 a b (by omega)) b4
      have hRR : fX12_act T 187 x1 x2 x3 S1 = fX12_act_b38 T 187 x1 x2 x3 S1 := by
        unfold fX12_act
        rw [f1 _ _ (by omega), b6.1, if_neg (by rw [n_eqR (by omega) (by omega)]; omega), v_isWeek, b1_q, if_pos hw1, if_neg n10]
        by_cases z : A.1 = 0
        · rw [if_pos (by rw [n_leR (by omega) (by omega)]; omega)]
        · rw [if_neg (by rw [n_leR (by omega) (by omega)]; omega), n_subL (by omega), g_in (by omega) (by decide), zT_187_37 hT, tn_nI (by omega), f1 _ _ (by omega)]
          rw [if_neg (show ¬ x1 < S.1 213 (A.1 - OfNat.ofNat 1) from hw3.resolve_left z)]
      rcases r_act1 hT hb1 x1 x2 x3 with ⟨e2, h2⟩ | ⟨e2, h2⟩
      · refine ⟨_, _, _, rfl, by rw [hRR, e2, hR2 S1 (by rw [f1 _ _ (by omega)]; exact b6.1)], hT, ?_⟩
        refine inv_row (B := B) (A := (A.1 + 1, fun j i => if i = A.1 then (if j = 0 then x1 else if j = 1 then x2 else x3) else A.2 j i)) (fun a b n1 n2 n3 => ?_) hi ?_ (fun _ => trivial) ⟨?_, fun i hi j hj => ?_⟩ ⟨?_, fun i hi j hj => ?_⟩
        · rw [zI_o (by omega), zI_ne (by omega), zI_ne (by omega), zI_ne (by omega)]
          exact f1 a b n1
        · rintro B' A' ⟨c1, c2, c3, c4, c5, c6⟩
          have e1 : nI A'.1 = nI A.1 := c5.1.symm.trans b5.1
          have h60' := c2.1
          rw [n_eq (by omega) (by omega)] at e1
          have eth : bth B' = bth B := (bkC_th c3).symm.trans (bkC_th b3)
          refine ⟨by show A.1 + 1 ≤ 60; omega, fun i hi => ?_⟩
          have hi' : i < A.1 + 1 := hi
          by_cases z : i = A.1
          · subst z
            simp only [if_true]
            refine ⟨⟨x1.toNatClampNeg, by have := z_tn hw1.1; omega, (nI_n hw1.1).symm⟩, ?_⟩
            rcases h1 with y | ⟨⟨y1, y2⟩, t, ht, y3, y4⟩
            · exact Or.inl y.1
            · refine Or.inr ⟨t, ht, y3, by rw [eth]; exact y4, ?_⟩
              have : x2.toInt = 0 ∨ x2.toInt = 1 ∨ x2.toInt = 2 ∨ x2.toInt = 3 := by omega
              rcases this with y | y | y | y
              · exact Or.inl (z_eq.mpr y)
              · exact Or.inr (Or.inl (z_eq.mpr y))
              · exact Or.inr (Or.inr (Or.inl (z_eq.mpr y)))
              · exact Or.inr (Or.inr (Or.inr (z_eq.mpr y)))
          · simp only [if_neg z]
            have e2 : ∀ j, j < 3 → A.2 j i = A'.2 j i := fun j hj => (b5.2 i (by omega) j hj).symm.trans (c5.2 i (by omega) j hj)
            rw [e2 0 (by omega), e2 1 (by omega), e2 2 (by omega)]
            exact c2.2 i (by omega)
        · rw [zI_ne (by decide), zI_ne (by decide), zI_ne (by decide), zI_ne (by decide), ← hS1, zI_eqs]
        · have hi' : i < A.1 + 1 := hi
          rw [zI_ne (by omega), zI_ne (by omega), zI_ne (by omega), zI_ne (by omega), ← hS1]
          have hj' : j = 0 ∨ j = 1 ∨ j = 2 := by omega
          show _ = if i = A.1 then (if j = 0 then x1 else if j = 1 then x2 else x3) else A.2 j i
          by_cases z : i = A.1
          · rw [if_pos z, z]
            rcases hj' with rfl | rfl | rfl <;> simp (decide := true) only [zI_ne, zI_eqs, if_true, if_false]
          · rw [if_neg z]
            rcases hj' with rfl | rfl | rfl <;> simp (decide := true) only [zI_ne, zI_eqn z]
            · exact b5.2 i (by omega) 0 (by decide)
            · exact b5.2 i (by omega) 1 (by decide)
            · exact b5.2 i (by omega) 2 (by decide)
        · rw [zI_eqs]
        · have hi' : i < A.1 + 1 := hi
          have hj' : j = 0 ∨ j = 1 ∨ j = 2 := by omega
          show _ = if i = A.1 then (if j = 0 then x1 else if j = 1 then x2 else x3) else A.2 j i
          by_cases z : i = A.1
          · rw [if_pos z, z]
            rcases hj' with rfl | rfl | rfl <;> simp (decide := true) only [zI_ne, zI_eqs, if_true, if_false]
          · rw [if_neg z]
            rcases hj' with rfl | rfl | rfl <;> simp (decide := true) only [zI_ne, zI_eqn z]
            · rw [f1 _ _ (by omega)]; exact b6.2 i (by omega) 0 (by decide)
            · rw [f1 _ _ (by omega)]; exact b6.2 i (by omega) 1 (by decide)
            · rw [f1 _ _ (by omega)]; exact b6.2 i (by omega) 2 (by decide)
      · exact absurd h1 h2
    · rw [e1, hz]
      rcases r_act1 hT b4 x1 x2 x3 with ⟨e2, h2⟩ | ⟨e2, h2⟩
      · exact absurd h2 h1
      · exact ⟨_, _, _, rfl, by rw [hR, e2], hT, hi⟩
  · -- neither takes it
    have hC : fX11_act T 0 x1 x2 x3 S = some (-1, S) := by
      rcases c_act1 hT b3 x1 x2 x3 with ⟨e1, h1⟩ | ⟨e1, h1⟩
      · rw [e1]
        unfold fX11_act_b42
        rw [if_neg n10, v_isTellable, b1_q]
        by_cases z1 : 0 ≤ x1.toInt ∧ x1.toInt ≤ 60
        · rw [if_pos z1, if_neg n10, zT_0_5 hT]
          have : fX7_canTake T 41 x1 S = some 0 := by
            unfold fX7_canTake fX7_canTake_b31 fX7_canTake_b35 fX7_canTake_b36
            rw [b5.1]
            by_cases z2 : A.1 < 60
            · have z3 : ¬ (A.1 = 0 ∨ ¬ x1 < S.1 213 (A.1 - 1)) := fun z => hw ⟨z1, z2, z⟩
              have z4 : ¬ A.1 = 0 := fun z => z3 (Or.inl z)
              have z5 : x1 < S.1 213 (A.1 - 1) := Decidable.byContradiction fun z => z3 (Or.inr z)
              rw [if_neg (by rw [n_leL (by omega) (by omega)]; omega), if_neg (by rw [n_eqR (by omega) (by omega)]; exact z4), n_subL (by omega), g_in (by omega) (by decide), zT_41_0 hT, tn_nI (by omega)]
              have e' : S.1 42 (A.1 - OfNat.ofNat 1) = S.1 213 (A.1 - 1) := last (A.1 - 1) (by omega)
              rw [e', if_pos z5]; rfl
            · rw [if_pos (by rw [n_leL (by omega) (by omega)]; omega)]; rfl
          rw [this, b1_q, if_pos rfl]; rfl
        · rw [if_neg z1, if_pos rfl]; rfl
      · rw [e1, hz]
    have hR : fX12_act T 187 x1 x2 x3 S = some (-1, S) := by
      unfold fX12_act
      rw [b6.1]
      by_cases z2 : A.1 < 60
      · rw [if_neg (by rw [n_eqR (by omega) (by omega)]; omega), v_isWeek, b1_q]
        by_cases z1 : 0 ≤ x1.toInt ∧ x1.toInt ≤ 60
        · have z3 : ¬ (A.1 = 0 ∨ ¬ x1 < S.1 213 (A.1 - 1)) := fun z => hw ⟨z1, z2, z⟩
          have z4 : ¬ A.1 = 0 := fun z => z3 (Or.inl z)
          have z5 : x1 < S.1 213 (A.1 - 1) := Decidable.byContradiction fun z => z3 (Or.inr z)
          rw [if_pos z1, if_neg n10, if_neg (by rw [n_leR (by omega) (by omega)]; omega), n_subL (by omega), g_in (by omega) (by decide), zT_187_37 hT, tn_nI (by omega)]
          rw [if_pos (show x1 < S.1 213 (A.1 - OfNat.ofNat 1) from z5)]; rfl
        · rw [if_neg z1, if_pos rfl]; rfl
      · rw [if_pos (by rw [n_eqR (by omega) (by omega)]; omega)]; rfl
    exact ⟨_, _, _, hC, hR, hT, hi⟩
