/-! A BOOK: both calls -/
theorem invI_o {S S' : zS} (e : ∀ a b, (78 ≤ a ∧ a ≤ 162 ∨ a = 227 ∨ a = 228) → S'.1 a b = S.1 a b) (h3 : invI S) : invI S' := by
  intro k hk
  obtain ⟨i1, i2⟩ := h3 k hk
  rw [e 162 k (by omega), e 228 k (by omega)]
  refine ⟨i1, i2.imp id ?_⟩
  rintro ⟨i3, B', A', a1, a2, a3, a4, a5, a6⟩
  rw [imR_eq (S := S) (S' := S') (k := k) (fun b => e 227 b (by omega))]
  exact ⟨i3, B', A', a1, a2, bkC_cg (fun a b _ _ => e a b (by omega)) a3, a4, rwC_cg (fun a b _ _ => e a b (by omega)) a5, a6⟩
theorem b_sep {a b : Nat} (q : 7 ≤ a ∧ a ≤ 23 ∨ 41 ≤ a ∧ a ≤ 44 ∨ 78 ≤ a ∧ a ≤ 162 ∨ a = 187 ∧ b = 36 ∨ b < rN a ∨ 213 ≤ a ∧ a ≤ 215 ∨ a = 227 ∨ a = 228 ∨ a = 176 ∧ 2 ≤ b ∨ 177 ≤ a ∧ a ≤ 180) : (¬ (2 ≤ a ∧ a ≤ 6) ∧ (a < 24 ∨ 40 < a) ∧ ¬ (a = 0 ∧ b = 1)) ∧ ¬ (a = 187 ∧ 1 ≤ b ∧ b ≤ 10 ∧ b ≠ 5) ∧ ¬ ((a = 189 ∨ a = 190) ∧ 300 ≤ b ∧ b < 600) ∧ ¬ (192 ≤ a ∧ a ≤ 197 ∧ 24 ≤ b ∧ b < 48) ∧ a ≠ 198 ∧ ¬ (199 ≤ a ∧ a ≤ 205 ∧ 8 ≤ b ∧ b < 16) ∧ ¬ (206 ≤ a ∧ a ≤ 210 ∧ b = 1) ∧ ¬ (a = 191 ∧ b = 1) := by
  have hr : b < rN a → b < 300 ∧ (192 ≤ a → a ≤ 197 → b < 24) ∧ (199 ≤ a → a ≤ 205 → b < 8) ∧ (206 ≤ a → a ≤ 210 → b < 1) ∧ (a = 191 → b < 1) ∧ 189 ≤ a ∧ a ≤ 210 ∧ a ≠ 198 := fun q => by
    have h1 := rN_in q
    have h198 : rN 198 = 0 := by decide
    have n8 : a ≠ 198 := fun z => by rw [z, h198] at q; omega
    unfold rN at q
    split at q
    · omega
    · split at q
      · omega
      · split at q
        · omega
        · split at q
          · omega
          · omega
  rcases q with q | q | q | q | q | q
  · refine ⟨⟨?_, ?_, ?_⟩, ?_, ?_, ?_, ?_, ?_, ?_, ?_⟩ <;> omega
  · refine ⟨⟨?_, ?_, ?_⟩, ?_, ?_, ?_, ?_, ?_, ?_, ?_⟩ <;> omega
  · refine ⟨⟨?_, ?_, ?_⟩, ?_, ?_, ?_, ?_, ?_, ?_, ?_⟩ <;> omega
  · refine ⟨⟨?_, ?_, ?_⟩, ?_, ?_, ?_, ?_, ?_, ?_, ?_⟩ <;> omega
  · obtain ⟨q1, q2, q3, q4, q5, q6, q7, q8⟩ := hr q
    refine ⟨⟨?_, ?_, ?_⟩, ?_, ?_, ?_, ?_, ?_, ?_, ?_⟩ <;> omega
  · refine ⟨⟨?_, ?_, ?_⟩, ?_, ?_, ?_, ?_, ?_, ?_, ?_⟩ <;> omega
theorem ok2 : oK2 invTS := by
  rintro T S ⟨hT, hi⟩
  obtain ⟨n, u, h01, hC1, hR1⟩ := inv_txt hi.1
  obtain ⟨-, ⟨r, hr6, r1, r2, r3⟩, hI, -⟩ := id hi
  have hn4 := hC1.1
  obtain ⟨-, -, -, -, -, -, z12, z13, z14⟩ := zT24 hT
  rw [zT_0_2 hT, zT_0_4 hT, z14]
  have hx : iX2 TT462 39 := by
    have h := zHx.2.2.2.2.1.2.2.2.2.2.2.2.2.2
    rw [zT_0_4 (T := TT462) (Or.inl rfl)] at h
    obtain ⟨-, -, -, -, -, -, -, -, z14'⟩ := zT24 (T := TT462) (Or.inl rfl)
    rw [z14'] at h
    exact h
  have hT' : iT (zQ T 2 9 39) := iT_q hT hx
  have hC : cdT (zQ T 2 9 39) 39 := ⟨hT', zr_qs, (zT31 hT').2.2, by omega⟩
  -- the class's start
  obtain ⟨Sa, ha, fa⟩ : ∃ Sa, fX0_clear T 24 S = some ((), Sa) ∧ Sa = zI (zI (zI (zI (zI (zI (zI (zI (zI (zI S 24 0 0) 24 1 12) 24 2 0) 24 3 1000) 24 4 0) 24 5 (-1)) 31 3 0) 35 3 0) 39 1 0) 39 2 0 := by
    unfold fX0_clear fX2_clear
    rw [let_q, let_q, let_q, let_q, let_q, let_q, z12, let_q, z13, let_q, z14, let_q, let_q, b_q]
    exact ⟨_, rfl, rfl⟩
  have faa : ∀ a b, (a < 24 ∨ 40 < a) → Sa.1 a b = S.1 a b := fun a b q => by
    rw [fa]
    simp (disch := omega) only [zI_ne]
  have hCa : txC u n Sa := ⟨hC1.1, fun i hi => by rw [faa _ _ (by omega)]; exact hC1.2 i hi⟩
  obtain ⟨Sb, m, hb, ob, hm, tb, rb, b5, b6, b7⟩ := c_open hT (w := wB) (Or.inl rfl) hCa (kc := 39)
  have hb' : fX6_open T 2 1 400 (nI n) 39 0 Sa = some ((), Sb) := hb
  have cb : ∀ a b, 7 ≤ a → Sb.1 a b = Sa.1 a b := fun a b q => ob.2 a b (by omega)
  have k391 : Sb.1 39 1 = 0 := by rw [cb _ _ (by omega), fa, zI_eqn (by decide), zI_eqs]
  have bkb : bkC Sb 24 bk0 := by
    refine ⟨fun i hi => ?_, fun t ht hz => ?_, ⟨?_, by decide, fun i c hc => by cases hc⟩, ⟨?_, by decide, fun i c hc => by cases hc⟩, (fun c hc => by cases hc), 0, by decide, k391⟩
    · rw [cb _ _ (by omega), fa]
      have : i = 0 ∨ i = 1 ∨ i = 2 ∨ i = 3 ∨ i = 4 ∨ i = 5 := by omega
      rcases this with rfl | rfl | rfl | rfl | rfl | rfl <;> simp (disch := decide) only [zI_ne, zI_eqn, zI_eqs] <;> rfl
    · have : zm (bth bk0) t = false := m_0
      rw [this] at hz; cases hz
    · show Sb.1 31 3 = _
      rw [cb _ _ (by omega), fa, zI_ne (by decide), zI_ne (by decide), zI_ne (by decide), zI_eqs]; rfl
    · show Sb.1 35 3 = _
      rw [cb _ _ (by omega), fa, zI_ne (by decide), zI_ne (by decide), zI_eqs]; rfl
  have c0 : cB (tkX u n wB) m Sb 0 0 0 bk0 := ⟨⟨tb, Nat.zero_le _, rb, b5, b6, by omega, k391⟩, Nat.le_refl _, by omega, bkb, fun q hq => by
    rw [b7, m_0]
    exact ⟨(fun z => by cases z), fun z => absurd z.2.2 (by show ¬ false = true; decide)⟩⟩
  have eread : ∀ R R1 : zS, txR u n R → R.1 187 4 = nI 1 → clB 1 R R1 → rB u n m (rI R1 3) 0 0 0 bk0 := fun R R1 hR h4 hcl => by
    obtain ⟨d1, d2, d3, d4, d5, d6, d7, d8⟩ := hcl
    have ht : txR u n R1 := txR_o hR (d8 _ _ (by omega) (by omega)) (fun i => d8 _ _ (by omega) (by omega))
    have := rI_st (m := m) (s := 1) ht (by rw [d8 _ _ (by omega) (by omega)]; exact h4) (by omega)
    have e3 : nI (nWS 1) = 3 := rfl
    rw [e3] at this
    refine ⟨this.1, this.2, ⟨fun t ht => ?_, fun t ht j hj => ?_, ?_, ?_, ?_, ?_, ?_⟩, (fun i c hc => by cases hc), fun t ht hz => ⟨rfl, rfl, rfl, rfl⟩, by omega, by omega⟩
    · rw [rI_at (by omega)]
      have := d2 199 t (by omega) (by omega) ht
      rw [show 8 * 1 + t = 8 + t by omega] at this
      rw [this]
      have hz : zm (bth bk0) t = false := m_0
      rw [hz]; rfl
    · rw [rI_at (by omega)]
      have := d2 (200 + j) t (by omega) (by omega) ht
      rw [show 8 * 1 + t = 8 + t by omega] at this
      rw [this]
      show (if 200 + j = 202 then (-1 : Int32) else 0) = if j = 6 then _ else if j = 2 then -1 else 0
      rw [if_neg (show ¬ j = 6 by omega)]
      by_cases z : j = 2
      · rw [if_pos z, if_pos (by omega)]
      · rw [if_neg z, if_neg (by omega)]
    · rw [rI_at (by omega)]; exact d7
    · rw [rI_at (by omega)]; exact d6
    · rw [rI_at (by omega)]; exact d3
    · rw [rI_at (by omega)]; exact d4
    · rw [rI_at (by omega)]; exact d5
  have both := fun R R1 hR h4 hcl => book_both hC hn4 hm 25 Sb (rI R1 3) 0 0 0 0 bk0 rfl c0 (eread R R1 hR h4 hcl) bk0_ok
  obtain ⟨Rx, -, hcx⟩ := r_clears hT' (s := 1) (by decide) (zI S 187 4 1)
  obtain ⟨v, x0, R0, F0, lv, -, fv, -, w5, -, w7⟩ := both (zI S 187 4 1) Rx (txR_o hR1 (by rw [zI_eqn (by decide)]) (fun i => by rw [zI_ne (by decide)])) (by rw [zI_eqs]; rfl) hcx
  have fe : ∀ a b, ¬ (2 ≤ a ∧ a ≤ 6) → (a < 24 ∨ 40 < a) → (endS v).1 a b = S.1 a b := fun a b q1 q2 => by
    rw [fv.2 a b (by omega) q2, ob.2 a b q1, faa a b q2]
  have lv0 : lp (fun a : Int32 × zS => fX6_readBook_l18 (zQ T 2 9 39) 2 24 a.1 a.2) (0, Sb) = some v := lv
  have erd : fX6_readBook T 2 1 400 (nI n) 24 S = some ((endS v).1 2 5, endS v) := by
    unfold fX6_readBook
    rw [ha, b_q, z14, hb', b_q]
    unfold fX6_readBook_b15
    rw [lv0, b1_q]
    cases v <;> rfl
  -- from the class's end to the reference's
  have ref : ∀ S1 : zS, (∀ a b, ¬ (2 ≤ a ∧ a ≤ 6) → (a < 7 ∨ 40 < a) → ¬ (a = 0 ∧ b = 1) → ¬ (a = 41 ∧ b = 3) → ¬ (a = 176 ∧ b = 2) → S1.1 a b = S.1 a b) → ∃ x R' F, fX12_book (zQ T 2 9 39) 187 S1 = (if F ≤ 0 then (zb (fX12_over (zQ T 2 9 39) 189 2400 300 (zI (zI R' 187 1 0) 191 1 x)) fun _ S11 => zb (fX12_over (zQ T 2 9 39) 190 2400 300 S11) fun _ S14 => zb (fX12_over (zQ T 2 9 39) 191 8 1 S14) fun _ S17 => zb (fX12_over (zQ T 2 9 39) 192 192 24 S17) fun _ S20 => zb (fX12_over (zQ T 2 9 39) 193 192 24 S20) fun _ S23 => zb (fX12_over (zQ T 2 9 39) 194 192 24 S23) fun _ S26 => zb (fX12_over (zQ T 2 9 39) 196 192 24 S26) fun _ S29 => zb (fX12_over (zQ T 2 9 39) 197 192 24 S29) fun _ S32 => zb (fX12_over (zQ T 2 9 39) 199 16 8 S32) fun _ S35 => zb (fX12_over (zQ T 2 9 39) 200 16 8 S35) fun _ S38 => zb (fX12_over (zQ T 2 9 39) 201 16 8 S38) fun _ S41 => zb (fX12_over (zQ T 2 9 39) 202 16 8 S41) fun _ S44 => zb (fX12_over (zQ T 2 9 39) 203 16 8 S44) fun _ S47 => zb (fX12_over (zQ T 2 9 39) 204 16 8 S47) fun _ S50 => zb (fX12_over (zQ T 2 9 39) 205 16 8 S50) fun _ S53 => zb (fX12_over (zQ T 2 9 39) 206 2 1 S53) fun _ S56 => zb (fX12_over (zQ T 2 9 39) 207 2 1 S56) fun _ S59 => zb (fX12_over (zQ T 2 9 39) 208 2 1 S59) fun _ S62 => zb (fX12_over (zQ T 2 9 39) 209 2 1 S62) fun _ S65 => zb (fX12_over (zQ T 2 9 39) 210 2 1 S65) fun _ S68 => zlet (zI S68 187 36 0) fun S69 => zb1 (fX12_all (zQ T 2 9 39) 187 S69) fun r70 => zb1 (fX12_bits (zQ T 2 9 39) r70 S69) fun r72 => some (r72, S69)) else some (((-2) - F), zI (zI R' 187 1 0) 191 1 x)) ∧ (endS v).1 2 5 = F ∧ (∀ a b, ¬ (a = 187 ∧ 1 ≤ b ∧ b ≤ 10 ∧ b ≠ 5) → ¬ ((a = 189 ∨ a = 190) ∧ 300 ≤ b ∧ b < 600) → ¬ (192 ≤ a ∧ a ≤ 197 ∧ 24 ≤ b ∧ b < 48) → a ≠ 198 → ¬ (199 ≤ a ∧ a ≤ 205 ∧ 8 ≤ b ∧ b < 16) → ¬ (206 ≤ a ∧ a ≤ 210 ∧ b = 1) → ¬ (a = 191 ∧ b = 1) → (zI (zI R' 187 1 0) 191 1 x).1 a b = S1.1 a b) ∧ ((F = 0 ∧ ∃ B', okB B' ∧ bkC (endS v) 24 B' ∧ rbk R' B' ∧ (∃ e', e' ≤ 300 ∧ rcl R' e' B'.2) ∧ x = nI B'.2.length) ∨ ∃ f, okF f ∧ F = flt f) := by
    intro S1 e1
    have hR2 : txR u n (zI S1 187 4 1) := txR_o hR1 (by rw [zI_eqn (by decide), e1 _ _ (by omega) (by omega) (by omega) (by omega) (by omega)]) (fun i => by rw [zI_ne (by decide), e1 _ _ (by omega) (by omega) (by omega) (by omega) (by omega)])
    obtain ⟨R1, ec, hc1⟩ := r_clears hT' (s := 1) (by decide) (zI S1 187 4 1)
    have ec' : fX12_clears (zQ T 2 9 39) 187 1 (zI S1 187 4 1) = some ((), R1) := ec
    obtain ⟨v', x, R', F, lv', lr, -, fr, u5, u6, u7⟩ := both (zI S1 187 4 1) R1 hR2 (by rw [zI_eqs]; rfl) hc1
    have ev : v' = v := by rw [lv] at lv'; exact (Option.some.inj lv').symm
    subst ev
    obtain ⟨-, -, -, -, -, -, -, d8⟩ := hc1
    have h41 : R1.1 187 4 = nI 1 := by rw [d8 _ _ (by omega) (by omega), zI_eqs]; rfl
    have h4' : R'.1 187 4 = nI 1 := by rw [fr.2 _ _ (by omega) (by omega) (by omega) (by omega) (by omega) (by omega), rI_at (by omega)]; exact h41
    have lr' : lp (fun a : Int32 × Int32 × zS => fX12_reads_l47 (zQ T 2 9 39) 187 a.1 a.2.1 a.2.2) (0, 1, rI R1 3) = some (x, R') := lr
    have er := r_readsB hT' h41 lr' h4'
    refine ⟨x, R', F, ?_, u5, fun a b q1 q2 q3 q4 q5 q6 q7 => ?_, u7⟩
    · unfold fX12_book
      rw [let_q, ec', b_q, er, b_q, u6, zT_187_12 hT', zT_187_13 hT', zT_187_14 hT', zT_187_15 hT', zT_187_16 hT', zT_187_17 hT', zT_187_19 hT', zT_187_20 hT', zT_187_22 hT', zT_187_23 hT', zT_187_24 hT', zT_187_25 hT', zT_187_26 hT', zT_187_27 hT', zT_187_28 hT', zT_187_29 hT', zT_187_30 hT', zT_187_31 hT', zT_187_32 hT', zT_187_33 hT']
    · rw [zI_o q7, zI_o (by omega), fr.2 a b (by omega) q2 q3 q4 q5 q6, rI_at (by omega), d8 a b (by omega) (by omega), zI_o (by omega)]
  have base : ∀ S1 : zS, (∀ a b, ¬ (2 ≤ a ∧ a ≤ 6) → (a < 7 ∨ 40 < a) → ¬ (a = 0 ∧ b = 1) → ¬ (a = 41 ∧ b = 3) → ¬ (a = 176 ∧ b = 2) → S1.1 a b = S.1 a b) → S1.1 0 1 = 0 → ∀ S2 : zS, S2.1 187 1 = 0 → (∀ a b, ¬ (a = 187 ∧ 1 ≤ b ∧ b ≤ 10 ∧ b ≠ 5) → ¬ (a = 187 ∧ b = 36) → ¬ (b < rN a) → ¬ ((a = 189 ∨ a = 190) ∧ 300 ≤ b ∧ b < 600) → ¬ (192 ≤ a ∧ a ≤ 197 ∧ 24 ≤ b ∧ b < 48) → a ≠ 198 → ¬ (199 ≤ a ∧ a ≤ 205 ∧ 8 ≤ b ∧ b < 16) → ¬ (206 ≤ a ∧ a ≤ 210 ∧ b = 1) → ¬ (a = 191 ∧ b = 1) → S2.1 a b = S1.1 a b) → invT S2 ∧ invR S2 ∧ invI S2 := by
    intro S1 e1 c1 S2 c2 e2
    have nr : ∀ a b, a < 189 ∨ 210 < a → ¬ (b < rN a) := fun a b q q2 => by have := rN_in q2; omega
    have eI : ∀ a b, (a = 0 ∨ a = 1 ∨ 46 ≤ a ∧ a ≤ 162 ∨ 211 ≤ a ∨ a = 188 ∨ a = 187 ∧ b = 5) → ¬ (a = 0 ∧ b = 1) → S2.1 a b = S.1 a b := fun a b q q2 => by
      rw [e2 a b (by omega) (by omega) (nr a b (by omega)) (by omega) (by omega) (by omega) (by omega) (by omega) (by omega), e1 a b (by omega) (by omega) q2 (by omega) (by omega)]
    refine ⟨⟨0, by omega, ?_, c2, fun i hi => absurd hi (Nat.not_lt_zero _)⟩, ⟨r, hr6, ?_, ?_, fun q hq => ?_⟩, invI_o (fun a b q => eI a b (by omega) (by omega)) hI⟩
    · rw [e2 _ _ (by omega) (by omega) (nr _ _ (by omega)) (by omega) (by omega) (by omega) (by omega) (by omega) (by omega)]; exact c1
    · rw [eI _ _ (by omega) (by omega)]; exact r1
    · rw [eI _ _ (by omega) (by omega)]; exact r2
    · obtain ⟨L, l1, l2, l3⟩ := r3 q hq
      refine ⟨L, l1, ruC_cg (fun a b q1 q2 => eI a b (by omega) (by omega)) l2, ruR_cg (by have := l1.1; omega) (fun a b q1 q2 q3 q4 q5 => ?_) l3⟩
      have h198 : rN 198 = 0 := by decide
      have hnr : ¬ (b < rN a) := fun z => by
        have := rN_in z
        rcases this with t | t | t | t | t
        · have := q3 (by omega); omega
        · have := q5 (by omega); omega
        · omega
        · have := q4 t.1; omega
        · omega
      have p1 : ¬ ((a = 189 ∨ a = 190) ∧ 300 ≤ b ∧ b < 600) := fun z => by have := q3 (by omega); omega
      have p2 : ¬ (192 ≤ a ∧ a ≤ 197 ∧ 24 ≤ b ∧ b < 48) := fun z => by have := q5 (by omega); omega
      have p3 : ¬ (a = 191 ∧ b = 1) := fun z => by have := q4 z.1; omega
      rw [e2 a b (by omega) (by omega) hnr p1 p2 (by omega) (by omega) (by omega) p3, e1 a b (by omega) (by omega) (by omega) (by omega) (by omega)]
  unfold fX11_book
  rw [zT_0_2 hT, zT_0_0 hT, zT_0_4 hT, h01, erd, b_q, z14]
  unfold fX11_book_b19
  rw [let_q, zT_0_3 hT', zT_0_4 hT', zT_0_5 hT', zT_0_13 hT']
  by_cases z : (endS v).1 2 5 = 0
  · -- told well
    rw [if_pos z]
    obtain ⟨n', h512, h391⟩ : ∃ n', n' ≤ 512 ∧ (endS v).1 39 1 = nI n' := by
      rcases w7 with ⟨-, B1, -, b1, -⟩ | ⟨f, hf, hF⟩
      · exact b1.2.2.2.2.2
      · exact absurd (hF.symm.trans (w5.symm.trans z)) (flt_ok hf)
    obtain ⟨S8, e8, -, f8, cp⟩ := v_take (S := zI (endS v) 0 1 0) (bkT_7 hT') (bkT_24 hT') (Or.inr (by decide)) h512 (by rw [zI_ne (by decide)]; exact h391)
    rw [e8, b_q, let_q, let_q]
    have e1 : ∀ a b, ¬ (2 ≤ a ∧ a ≤ 6) → (a < 7 ∨ 40 < a) → ¬ (a = 0 ∧ b = 1) → ¬ (a = 41 ∧ b = 3) → ¬ (a = 176 ∧ b = 2) → (zI (zI S8 41 3 0) 176 2 0).1 a b = S.1 a b := fun a b q1 q2 q3 q4 q5 => by
      rw [zI_o q5, zI_o q4, f8 a b (by omega), zI_o q3, fe a b q1 (by omega)]
    obtain ⟨x, R', F, eb, u5, fr, u7⟩ := ref _ e1
    have hF0 : F = 0 := u5.symm.trans z
    rcases u7 with ⟨-, B', ob', cb', rb', ⟨e', he', rc'⟩, hx'⟩ | ⟨f, hf, hF⟩
    · have bk7 : bkC (zI (zI S8 41 3 0) 176 2 0) 7 B' := bkC_cg (fun a b q1 q2 => by rw [zI_ne (by omega), zI_ne (by omega)]) (bkC_cp cp (bkC_cg (fun a b q1 q2 => zI_ne (by omega)) cb'))
      have h70 : (zI (zI S8 41 3 0) 176 2 0).1 7 0 = bth B' := bk7.1 0 (by decide)
      have i8 := ob'.1
      have h24 := ob'.2.2.2.2.2.2.2.1
      have o300 : ∀ S a, fX12_over (zQ T 2 9 39) a 2400 300 S = some ((), ovS S a 300) := fun S a => r_over (k := 300) (by decide) (by decide)
      have o81 : ∀ S a, fX12_over (zQ T 2 9 39) a 8 1 S = some ((), ovS S a 1) := fun S a => r_over (k := 1) (by decide) (by decide)
      have o24 : ∀ S a, fX12_over (zQ T 2 9 39) a 192 24 S = some ((), ovS S a 24) := fun S a => r_over (k := 24) (by decide) (by decide)
      have o16 : ∀ S a, fX12_over (zQ T 2 9 39) a 16 8 S = some ((), ovS S a 8) := fun S a => r_over (k := 8) (by decide) (by decide)
      have o2' : ∀ S a, fX12_over (zQ T 2 9 39) a 2 1 S = some ((), ovS S a 1) := fun S a => r_over (k := 1) (by decide) (by decide)
      have bkr : bkR (zI (ov20 (zI (zI R' 187 1 0) 191 1 x)) 187 36 0).1 B' := by
        refine bkR_of (R := R') rb' rc' he' h24 (fun a b q1 q2 => ?_) ?_
        · have := rN_in q2
          rw [zI_ne (by omega), ov20_at, if_pos q2, zI_ne q1, zI_ne (by omega)]
        · have e1 : rN 191 = 1 := by decide
          rw [zI_ne (by decide), ov20_at, e1, if_pos (by decide), zI_eqs]; exact hx'
      rw [hF0, if_pos (show (0 : Int32) ≤ 0 by decide)] at eb
      simp only [o300, o81, o24, o16, o2', b_q] at eb
      have eb' : fX12_book (zQ T 2 9 39) 187 (zI (zI S8 41 3 0) 176 2 0) = (zlet (zI (ov20 (zI (zI R' 187 1 0) 191 1 x)) 187 36 0) fun S69 => zb1 (fX12_all (zQ T 2 9 39) 187 S69) fun r70 => zb1 (fX12_bits (zQ T 2 9 39) r70 S69) fun r72 => some (r72, S69)) := eb
      rw [let_q, r_all hT' bkr i8, b1_q, v_bits i8, b1_q] at eb'
      have e2 : ∀ a b, ¬ (a = 187 ∧ 1 ≤ b ∧ b ≤ 10 ∧ b ≠ 5) → ¬ (a = 187 ∧ b = 36) → ¬ (b < rN a) → ¬ ((a = 189 ∨ a = 190) ∧ 300 ≤ b ∧ b < 600) → ¬ (192 ≤ a ∧ a ≤ 197 ∧ 24 ≤ b ∧ b < 48) → a ≠ 198 → ¬ (199 ≤ a ∧ a ≤ 205 ∧ 8 ≤ b ∧ b < 16) → ¬ (206 ≤ a ∧ a ≤ 210 ∧ b = 1) → ¬ (a = 191 ∧ b = 1) → (zI (ov20 (zI (zI R' 187 1 0) 191 1 x)) 187 36 0).1 a b = (zI (zI S8 41 3 0) 176 2 0).1 a b := fun a b q1 q2 q3 q4 q5 q6 q7 q8 q9 => by
        rw [zI_o q2, ov20_at, if_neg q3]
        exact fr a b q1 q4 q5 q6 q7 q8 q9
      have r187 : rN 187 = 0 := by decide
      obtain ⟨v1, v2, v3⟩ := base _ e1 (by rw [zI_ne (by decide), zI_ne (by decide), f8 _ _ (by omega), zI_eqs]) _ (by rw [zI_eqn (by decide), ov20_at, r187, if_neg (by omega), zI_ne (by decide), zI_eqs]) e2
      have nr : ∀ a b, a < 189 ∨ 210 < a → ¬ (b < rN a) := fun a b q q2 => by have := rN_in q2; omega
      have e3 : ∀ a b, a < 187 → (zI (ov20 (zI (zI R' 187 1 0) 191 1 x)) 187 36 0).1 a b = (zI (zI S8 41 3 0) 176 2 0).1 a b := fun a b q => e2 a b (by omega) (by omega) (nr a b (by omega)) (by omega) (by omega) (by omega) (by omega) (by omega) (by omega)
      refine ⟨nI (pc (bth B')), _, _, by rw [h70, v_bitCount i8, b1_q], eb', hT', v1, v2, v3, B', (0, fun _ _ => 0), ⟨ob', ⟨by decide, fun i hi => absurd hi (Nat.not_lt_zero _)⟩, bkC_cg (fun a b q1 q2 => e3 a b (by omega)) bk7, bkr, ⟨?_, fun i hi => absurd hi (Nat.not_lt_zero _)⟩, ⟨?_, fun i hi => absurd hi (Nat.not_lt_zero _)⟩⟩, Or.inl ?_⟩
      · rw [e3 _ _ (by omega), zI_ne (by decide), zI_eqs]; rfl
      · rw [zI_eqs]; rfl
      · rw [e3 _ _ (by omega), zI_eqs]
    · exact absurd (hF.symm.trans hF0) (flt_ok hf)
  · -- a fault
    rw [if_neg z]
    have e1 : ∀ a b, ¬ (2 ≤ a ∧ a ≤ 6) → (a < 7 ∨ 40 < a) → ¬ (a = 0 ∧ b = 1) → ¬ (a = 41 ∧ b = 3) → ¬ (a = 176 ∧ b = 2) → (zI (endS v) 0 1 0).1 a b = S.1 a b := fun a b q1 q2 q3 _ _ => by
      rw [zI_o q3, fe a b q1 (by omega)]
    obtain ⟨x, R', F, eb, u5, fr, u7⟩ := ref _ e1
    rcases u7 with ⟨z0, -⟩ | ⟨f, hf, hF⟩
    · exact absurd (u5.trans z0) z
    · rw [if_neg (show ¬ F ≤ 0 by rw [hF]; exact flt_pos hf)] at eb
      refine ⟨_, _, _, rfl, by rw [u5]; exact eb, hT', ?_⟩
      obtain ⟨v1, v2, -⟩ := base _ e1 (by rw [zI_eqs]) _ (by rw [zI_ne (by decide), zI_eqs]) (fun a b q1 _ _ q4 q5 q6 q7 q8 q9 => fr a b q1 q4 q5 q6 q7 q8 q9)
      refine inv_new (S := S) (fun a b q => ?_) v1 v2 hi
      obtain ⟨⟨g1, g2, g3⟩, g4, g5, g6, g7, g8, g9, g10⟩ := b_sep q
      rw [fr a b g4 g5 g6 g7 g8 g9 g10, zI_o g3, fe a b g1 g2]
