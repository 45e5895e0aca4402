theorem r_carries {T : zT} (hT : iT T) {k : Nat} (hk : k < 4) {S : zS} : fX12_carries T 187 (nI k) S = zb (fX12_carry T 187 229 1 (nI 1) (zI (zI S 187 65 (nI (980 * k))) 229 0 (S.1 187 36))) fun _ S6 => cyL T cyA (zI S6 187 36 (S6.1 229 0)) := by
  have g : zin 0 1 = true := by decide
  have t0 : (0 : Int32).toNatClampNeg = 0 := rfl
  have e980 : (980 : Int32) * nI k = nI (980 * k) := by rw [liq, n_mul]
  unfold fX12_carries
  rw [e980, let_q, g_t g, let_q, zT_187_67 hT, t0, zI_eqn (by decide)]
  rw [zT_187_12 hT, zT_187_13 hT, zT_187_14 hT, zT_187_15 hT, zT_187_16 hT, zT_187_17 hT, zT_187_19 hT, zT_187_20 hT, zT_187_22 hT, zT_187_23 hT, zT_187_24 hT, zT_187_25 hT, zT_187_26 hT, zT_187_27 hT, zT_187_28 hT, zT_187_29 hT, zT_187_30 hT, zT_187_31 hT, zT_187_32 hT, zT_187_33 hT, zT_187_37 hT, zT_187_38 hT, zT_187_39 hT]
  simp only [g_t g, let_q]
  rfl
/-- an image made, by the reference -/
theorem r_im {T : zT} (hT : iT T) {k : Nat} (hk : k < 4) {S : zS} (h66 : S.1 187 66 = 0) : ∃ S', fX12_carries T 187 (nI k) S = some ((), S') ∧ S'.1 227 (980 * k) = S.1 187 36 ∧ (∀ a b, b < rN a ∨ 213 ≤ a ∧ a ≤ 215 ∧ b < 60 → S'.1 227 (980 * k + iof a + b) = S.1 a b) ∧ ∀ a b, ¬ (a = 227 ∧ 980 * k ≤ b ∧ b < 980 * k + 963) → ¬ (a = 187 ∧ b = 65) → a ≠ 229 → S'.1 a b = S.1 a b := by
  rw [r_carries hT hk]
  have h66' : (zI (zI S 187 65 (nI (980 * k))) 229 0 (S.1 187 36)).1 187 66 = 0 := by rw [zI_ne (by decide), zI_eqn (by decide)]; exact h66
  obtain ⟨S6, e1, f1, f2, f3, f4, -⟩ := v_carry hT (c := 229) (n1 := 1) (m := 1) (at0 := 980 * k) (S := zI (zI S 187 65 (nI (980 * k))) 229 0 (S.1 187 36)) (by omega) (by omega) (by omega) (by rw [zI_ne (by decide), zI_eqs]) (by decide) (Or.inl h66')
  obtain ⟨g1, g2⟩ := f4 h66'
  rw [e1, b_q]
  have e229 : S6.1 229 0 = S.1 187 36 := by rw [g2 _ _ (by omega) (by omega), zI_eqs]
  obtain ⟨S', e2, k1, k2, k3⟩ := cyL_im hT cyA (980 * k + 1) (zI S6 187 36 (S6.1 229 0)) cyA_o (by rw [cyA_n]; omega) (by rw [zI_eqn (by decide)]; exact f2) (by rw [zI_eqn (by decide), f3]; exact h66')
  rw [cyA_n] at k2
  have base : ∀ a b, ¬ (a = 227 ∧ 980 * k ≤ b ∧ b < 980 * k + 1) → ¬ (a = 187 ∧ b = 65) → a ≠ 229 → (zI S6 187 36 (S6.1 229 0)).1 a b = S.1 a b := by
    intro a b n1 n2 n3
    rw [zI_at]
    by_cases z : a = 187 ∧ b = 36
    · rw [if_pos z, z.1, z.2, e229]
    · rw [if_neg z, g2 a b n1 n2, zI_ne n3, zI_o (by omega)]
  refine ⟨S', e2, ?_, fun a b hab => ?_, fun a b n1 n2 n3 => ?_⟩
  · rw [k2 _ _ (by omega) (by omega), zI_ne (by decide)]
    have := g1 0 (by omega)
    rw [Nat.add_zero] at this
    rw [this, zI_eqs]
  · obtain ⟨pre, e, post, h1, h2, h3, h4⟩ := cyA_at hab
    have := k3 pre e post h1 b h3
    rw [show 980 * k + iof a + b = 980 * k + 1 + cyN pre + b by omega, this, h2]
    have ha : a ≠ 227 ∧ a ≠ 187 ∧ a ≠ 229 := by
      rcases hab with q | q
      · have := rN_big q; omega
      · omega
    exact base a b (fun z => ha.1 z.1) (fun z => ha.2.1 z.1) ha.2.2
  · rw [k2 a b (by omega) n2]
    exact base a b (by omega) n2 n3
/-- an image gone back to, by the reference -/
theorem r_bk {T : zT} (hT : iT T) {k : Nat} (hk : k < 4) {S : zS} (h66 : S.1 187 66 = 1) : ∃ S', fX12_carries T 187 (nI k) S = some ((), S') ∧ S'.1 187 36 = S.1 227 (980 * k) ∧ (∀ a b, b < rN a ∨ 213 ≤ a ∧ a ≤ 215 ∧ b < 60 → S'.1 a b = S.1 227 (980 * k + iof a + b)) ∧ ∀ a b, ¬ (b < rN a ∨ 213 ≤ a ∧ a ≤ 215 ∧ b < 60) → ¬ (a = 187 ∧ (b = 65 ∨ b = 36)) → a ≠ 229 → S'.1 a b = S.1 a b := by
  rw [r_carries hT hk]
  have h66' : (zI (zI S 187 65 (nI (980 * k))) 229 0 (S.1 187 36)).1 187 66 = 1 := by rw [zI_ne (by decide), zI_eqn (by decide)]; exact h66
  obtain ⟨S6, e1, f1, f2, f3, -, f5⟩ := v_carry hT (c := 229) (n1 := 1) (m := 1) (at0 := 980 * k) (S := zI (zI S 187 65 (nI (980 * k))) 229 0 (S.1 187 36)) (by omega) (by omega) (by omega) (by rw [zI_ne (by decide), zI_eqs]) (by decide) (Or.inr h66')
  obtain ⟨g1, g2⟩ := f5 h66'
  rw [e1, b_q]
  have e229 : S6.1 229 0 = S.1 227 (980 * k) := by rw [g1 0 (by omega), Nat.add_zero, zI_ne (by decide), zI_ne (by decide)]
  obtain ⟨S', e2, k1, k2, k3⟩ := cyL_bk hT cyA (980 * k + 1) (zI S6 187 36 (S6.1 229 0)) cyA_o cyA_p (by rw [cyA_n]; omega) (by rw [zI_eqn (by decide)]; exact f2) (by rw [zI_eqn (by decide), f3]; exact h66')
  have hcy : ∀ e, e ∈ cyA → ∀ b, b < e.2.2 → b < rN e.1 ∨ 213 ≤ e.1 ∧ e.1 ≤ 215 ∧ b < 60 := by
    have : ∀ e, e ∈ cyA → e.2.2 ≤ rN e.1 ∨ 213 ≤ e.1 ∧ e.1 ≤ 215 ∧ e.2.2 ≤ 60 := by decide
    intro e he b hb
    rcases this e he with q | q
    · left; omega
    · right; omega
  have hcy2 : ∀ e, e ∈ cyA → 189 ≤ e.1 ∧ e.1 ≤ 215 := by decide
  have base : ∀ a b, ¬ (a = 187 ∧ (b = 65 ∨ b = 36)) → a ≠ 229 → (zI S6 187 36 (S6.1 229 0)).1 a b = S.1 a b := by
    intro a b n2 n3
    rw [zI_o (by omega), g2 a b (by omega) (by omega), zI_ne n3, zI_o (by omega)]
  refine ⟨S', e2, ?_, fun a b hab => ?_, fun a b n1 n2 n3 => ?_⟩
  · rw [k2 _ _ (fun e he z => by have := hcy2 e he; omega) (by omega), zI_eqs]; exact e229
  · obtain ⟨pre, e, post, h1, h2, h3, h4⟩ := cyA_at hab
    have := k3 pre e post h1 b h3
    rw [h2] at this
    rw [this, base _ _ (by omega) (by omega), show 980 * k + iof a + b = 980 * k + 1 + cyN pre + b by omega]
  · rw [k2 a b (fun e he z => n1 (by rw [z.1]; exact hcy e he b z.2)) (by omega)]
    exact base a b n2 n3
theorem iof_lt {a b : Nat} (h : b < rN a ∨ 213 ≤ a ∧ a ≤ 215 ∧ b < 60) : 1 ≤ iof a ∧ iof a + b < 963 := by
  have key : ∀ d, d < 27 → (0 < rN (189 + d) → 1 ≤ iof (189 + d) ∧ iof (189 + d) + rN (189 + d) ≤ 963) ∧ (213 ≤ 189 + d → 1 ≤ iof (189 + d) ∧ iof (189 + d) + 60 ≤ 963) := by decide
  rcases h with h | h
  · have h1 := rN_big h
    obtain ⟨d, rfl⟩ : ∃ d, a = 189 + d := ⟨a - 189, by omega⟩
    have := (key d (by omega)).1 (by omega)
    omega
  · obtain ⟨d, rfl⟩ : ∃ d, a = 189 + d := ⟨a - 189, by omega⟩
    have := (key d (by omega)).2 (by omega)
    omega
theorem imR_r {S : zS} {k a b : Nat} (h : b < rN a ∨ 213 ≤ a ∧ a ≤ 215 ∧ b < 60) : imR S k a b = S.1 227 (980 * k + iof a + b) := by
  unfold imR
  rw [if_neg]
  rcases h with h | h
  · have := rN_big h; omega
  · omega
theorem imR_36 {S : zS} {k : Nat} : imR S k 187 36 = S.1 227 (980 * k) := by
  unfold imR
  rw [if_pos rfl]
theorem row_T {T : zT} (hT : iT T) {k : Nat} (hk : k < 4) : (zr T 76 k = 78 + 21 * k ∧ zr T 77 k = 95 + 21 * k) ∧ zr T (95 + 21 * k) 0 = 95 + 21 * k + 1 ∧ zr T (95 + 21 * k) 1 = 95 + 21 * k + 2 ∧ zr T (95 + 21 * k) 2 = 95 + 21 * k + 3 := by
  have : k = 0 ∨ k = 1 ∨ k = 2 ∨ k = 3 := by omega
  rcases this with rfl | rfl | rfl | rfl
  · exact ⟨⟨zT_76_0 hT, zT_77_0 hT⟩, zT_95_0 hT, zT_95_1 hT, zT_95_2 hT⟩
  · exact ⟨⟨zT_76_1 hT, zT_77_1 hT⟩, zT_116_0 hT, zT_116_1 hT, zT_116_2 hT⟩
  · exact ⟨⟨zT_76_2 hT, zT_77_2 hT⟩, zT_137_0 hT, zT_137_1 hT, zT_137_2 hT⟩
  · exact ⟨⟨zT_76_3 hT, zT_77_3 hT⟩, zT_158_0 hT, zT_158_1 hT, zT_158_2 hT⟩
theorem k4 {x : Int32} : (0 ≤ x.toInt ∧ x.toInt ≤ 3) → ∃ k, k < 4 ∧ x = nI k := fun h => ⟨x.toNatClampNeg, by have := z_tn h.1; omega, (nI_n h.1).symm⟩
theorem ok32 : oK32 invTS := by
  rintro T S ⟨hT, hi⟩ x1
  obtain ⟨hiT, hiR, hiI, B, A, ⟨b1, b2, b3, b4, b5, b6⟩, hiP⟩ := id hi
  unfold fX11_image fX12_image fX11_image_b9
  have ei : ∀ S : zS, fX12_in T x1.toInt64 0 3 S = some (if 0 ≤ x1.toInt ∧ x1.toInt ≤ 3 then 1 else 0) := by
    intro S
    rw [v_in32]
    rfl
  by_cases hx : 0 ≤ x1.toInt ∧ x1.toInt ≤ 3
  · obtain ⟨k, hk, rfl⟩ := k4 hx
    obtain ⟨⟨r1, r2⟩, r3, r4, r5⟩ := row_T hT hk
    obtain ⟨n, hn, hl⟩ := b3.2.2.2.2.2
    obtain ⟨S6, e1, o1, o2, o3⟩ := v_take (bkT_im hT hk) (bkT_7 hT) (by omega) hn hl
    obtain ⟨S10, e2, p1, p2, p3, p4⟩ := v_take7 (d := 95 + 21 * k) (s := 41) (S := S6) r3 r4 r5 (zT_41_0 hT) (zT_41_1 hT) (zT_41_2 hT) (by omega)
    have hC : (if nI k < 0 then some (-1, S) else if nI k < 4 then zgd (zin (nI k) 4) (zb (fX0_take T (zr T (zr T 0 8) (nI k).toNatClampNeg) (zr T 0 3) S) fun _ S6 => zgd (zin (nI k) 4) (zb (fX7_take T (zr T (zr T 0 9) (nI k).toNatClampNeg) (zr T 0 5) S6) fun _ S10 => zgd (zin (nI k) 4) (zlet (zI S10 (zr T 0 10) (nI k).toNatClampNeg (vp_nar .boolean 1)) fun S12 => some ((S12.1 (zr T 0 5) 3), S12)))) else some (-1, S)) = some (nI A.1, zI S10 162 k 1) := by
      rw [if_neg (n_lt0 (by omega)), if_pos (by rw [n_ltR (by omega) (by omega)]; exact hk), g_in hk (by decide), zT_0_8 hT, zT_0_3 hT, zT_0_9 hT, zT_0_5 hT, zT_0_10 hT, tn_nI (by omega), r1, r2, e1, b_q, g_in hk (by decide), e2, b_q, g_in hk (by decide), let_q, zI_ne (by decide), p2 _ _ (by omega), o2 _ _ (by omega), b5.1]
      rfl
    rw [hC]
    have f1 : ∀ a b, a < 78 + 21 * k ∨ 98 + 21 * k < a → a ≠ 162 → (zI S10 162 k 1).1 a b = S.1 a b := by
      intro a b h1 h2
      rw [zI_ne h2, p2 _ _ (by omega), o2 _ _ (by omega)]
    obtain ⟨S', g1, g2, g3, g4⟩ := r_im hT hk (S := zI (zI (zI S10 162 k 1) 228 k 1) 187 66 0) (by rw [zI_eqs])
    have h36 : (zI (zI (zI S10 162 k 1) 228 k 1) 187 66 0).1 187 36 = nI A.1 := by rw [zI_eqn (by decide), zI_ne (by decide), f1 _ _ (by omega) (by omega)]; exact b6.1
    have f2 : ∀ a b, a < 78 + 21 * k ∨ 98 + 21 * k < a → a ≠ 162 → a ≠ 227 → a ≠ 229 → ¬ (a = 228 ∧ b = k) → ¬ (a = 187 ∧ (b = 65 ∨ b = 66)) → S'.1 a b = S.1 a b := by
      intro a b h1 h2 h3 h4 h5 h6
      rw [g4 a b (by omega) (by omega) h4, zI_o (by omega), zI_o h5, f1 a b h1 h2]
    refine ⟨nI A.1, zI S10 162 k 1, S', rfl, ?_, hT, ?_⟩
    · rw [ei, b1_q, if_pos hx, if_neg n10, g_in hk (by decide), let_q, let_q, zT_187_64 hT, tn_nI (by omega)]
      have g1' : fX12_carries T 187 (nI k) (zI (zI (zI S10 162 k 1) 228 k (vp_nar .boolean 1)) 187 66 0) = some ((), S') := g1
      rw [g1', b_q, g4 _ _ (by omega) (by omega) (by omega), h36]
    · have b4' : bkR S'.1 B := bkR_cg (fun a b hab => by have := rN_big hab; exact f2 a b (by omega) (by omega) (by omega) (by omega) (by omega) (by omega)) b4
      have b5' : rwC S' 41 A := rwC_cg (fun a b _ _ => f2 a b (by omega) (by omega) (by omega) (by omega) (by omega) (by omega)) b5
      refine ⟨?_, ?_, fun q hq => ?_, B, A, ⟨b1, b2, bkC_cg (fun a b _ _ => f2 a b (by omega) (by omega) (by omega) (by omega) (by omega) (by omega)) b3, b4', b5', rwR_cg b2.1 (f2 _ _ (by omega) (by omega) (by omega) (by omega) (by omega) (by omega)) (fun a b _ _ _ => f2 a b (by omega) (by omega) (by omega) (by omega) (by omega) (by omega)) b6⟩, ?_⟩
      · obtain ⟨n, t1, t2, t3, t4⟩ := hiT
        refine ⟨n, t1, by rw [f2 _ _ (by omega) (by omega) (by omega) (by omega) (by omega) (by omega)]; exact t2, by rw [f2 _ _ (by omega) (by omega) (by omega) (by omega) (by omega) (by omega)]; exact t3, fun i hi => ?_⟩
        rw [f2 188 i (by omega) (by omega) (by omega) (by omega) (by omega) (by omega), f2 1 i (by omega) (by omega) (by omega) (by omega) (by omega) (by omega)]
        exact t4 i hi
      · obtain ⟨r, q1, q2, q3, q4⟩ := hiR
        refine ⟨r, q1, by rw [f2 _ _ (by omega) (by omega) (by omega) (by omega) (by omega) (by omega)]; exact q2, by rw [f2 _ _ (by omega) (by omega) (by omega) (by omega) (by omega) (by omega)]; exact q3, fun q hq => ?_⟩
        obtain ⟨L, l1, l2, l3⟩ := q4 q hq
        exact ⟨L, l1, ruC_cg (fun a b _ _ => f2 a b (by omega) (by omega) (by omega) (by omega) (by omega) (by omega)) l2, ruR_cg (by have := l1.1; omega) (fun a b _ _ _ _ _ => f2 a b (by omega) (by omega) (by omega) (by omega) (by omega) (by omega)) l3⟩
      · by_cases z : q = k
        · subst z
          have m1 : S'.1 162 q = 1 := by rw [g4 _ _ (by omega) (by omega) (by omega), zI_ne (by decide), zI_ne (by decide), zI_eqs]
          have m2 : S'.1 228 q = 1 := by rw [g4 _ _ (by omega) (by omega) (by omega), zI_ne (by decide), zI_eqs]
          have base : ∀ a b, a < 78 + 21 * q ∨ 98 + 21 * q < a → a ≠ 162 → a ≠ 228 → a ≠ 187 → (zI (zI (zI S10 162 q 1) 228 q 1) 187 66 0).1 a b = S.1 a b := fun a b h1 h2 h3 h4 => by rw [zI_ne h4, zI_ne h3, f1 a b h1 h2]
          have cI : ∀ a b, 78 + 21 * q ≤ a → a ≤ 98 + 21 * q → S'.1 a b = S10.1 a b := fun a b h1 h2 => by rw [g4 a b (by omega) (by omega) (by omega), zI_ne (by omega), zI_ne (by omega), zI_ne (by omega)]
          refine ⟨m1.trans m2.symm, Or.inr ⟨m1, B, A, b1, b2, ?_, ?_, ?_, ?_, fun i hi j hj => ?_⟩⟩
          · exact bkC_cg (fun a b h1 h2 => by rw [cI a b (by omega) (by omega), p2 a b (by omega)]) (bkC_cp o3 b3)
          · refine bkR_cg (R := S.1) (fun a b hab => ?_) b4
            have := rN_big hab
            rw [imR_r (Or.inl hab), g3 a b (Or.inl hab)]
            exact base a b (by omega) (by omega) (by omega) (by omega)
          · refine rwC_cg (S := S10) (fun a b h1 h2 => cI a b (by omega) (by omega)) ?_
            exact rwC_cp (s := 41) b2.1 p3 p4 (rwC_cg (fun a b _ _ => o2 a b (by omega)) b5)
          · rw [imR_36, g2]; exact h36
          · have h60 := b2.1
            rw [imR_r (Or.inr ⟨by omega, by omega, by omega⟩), g3 _ _ (Or.inr ⟨by omega, by omega, by omega⟩), base _ _ (by omega) (by omega) (by omega) (by omega)]
            exact b6.2 i hi j hj
        · obtain ⟨i1, i2⟩ := hiI q hq
          have f3 : S'.1 162 q = S.1 162 q := by rw [g4 _ _ (by omega) (by omega) (by omega), zI_ne (by decide), zI_ne (by decide), zI_eqn z, p2 _ _ (by omega), o2 _ _ (by omega)]
          rw [f3, f2 228 q (by omega) (by omega) (by omega) (by omega) (by omega) (by omega)]
          refine ⟨i1, i2.imp id ?_⟩
          rintro ⟨i3, B', A', a1, a2, a3, a4, a5, a6⟩
          have fI : ∀ b, 980 * q ≤ b → b < 980 * q + 963 → S'.1 227 b = S.1 227 b := fun b h1 h2 => by rw [g4 _ _ (by omega) (by omega) (by omega), zI_ne (by decide), zI_ne (by decide), f1 _ _ (by omega) (by omega)]
          refine ⟨i3, B', A', a1, a2, bkC_cg (fun a b h1 h2 => f2 a b (by omega) (by omega) (by omega) (by omega) (by omega) (by omega)) a3, bkR_cg (R := imR S q) (fun a b hab => ?_) a4, rwC_cg (fun a b h1 h2 => f2 a b (by omega) (by omega) (by omega) (by omega) (by omega) (by omega)) a5, ?_, fun i hi j hj => ?_⟩
          · have := iof_lt (Or.inl hab)
            rw [imR_r (Or.inl hab), imR_r (Or.inl hab), fI _ (by omega) (by omega)]
          · rw [imR_36, fI _ (by omega) (by omega), ← imR_36]; exact a6.1
          · have h60 := a2.1
            have hab : i < rN (213 + j) ∨ 213 ≤ 213 + j ∧ 213 + j ≤ 215 ∧ i < 60 := Or.inr ⟨by omega, by omega, by omega⟩
            have := iof_lt hab
            rw [imR_r hab, fI _ (by omega) (by omega), ← imR_r hab]
            exact a6.2 i hi j hj
      · have e6 : ∀ b, S'.1 176 b = S.1 176 b := fun b => f2 176 b (by omega) (by omega) (by omega) (by omega) (by omega) (by omega)
        have e7 : ∀ b, S'.1 177 b = S.1 177 b := fun b => f2 177 b (by omega) (by omega) (by omega) (by omega) (by omega) (by omega)
        have e8 : ∀ b, S'.1 178 b = S.1 178 b := fun b => f2 178 b (by omega) (by omega) (by omega) (by omega) (by omega) (by omega)
        have e9 : ∀ b, S'.1 179 b = S.1 179 b := fun b => f2 179 b (by omega) (by omega) (by omega) (by omega) (by omega) (by omega)
        have e10 : ∀ b, S'.1 180 b = S.1 180 b := fun b => f2 180 b (by omega) (by omega) (by omega) (by omega) (by omega) (by omega)
        unfold invP plOK at hiP ⊢
        simp only [e6, e7, e8, e9, e10, f2 22 2 (by omega) (by omega) (by omega) (by omega) (by omega) (by omega)]
        exact hiP
  · have hC : (if x1 < 0 then some ((-1 : Int32), S) else if x1 < 4 then zgd (zin x1 4) (zb (fX0_take T (zr T (zr T 0 8) x1.toNatClampNeg) (zr T 0 3) S) fun _ S6 => zgd (zin x1 4) (zb (fX7_take T (zr T (zr T 0 9) x1.toNatClampNeg) (zr T 0 5) S6) fun _ S10 => zgd (zin x1 4) (zlet (zI S10 (zr T 0 10) x1.toNatClampNeg (vp_nar .boolean 1)) fun S12 => some ((S12.1 (zr T 0 5) 3), S12)))) else some (-1, S)) = some (-1, S) := by
      by_cases q0 : x1 < 0
      · rw [if_pos q0]
      · rw [if_neg q0, if_neg (fun z => hx ⟨z_le.mp (z_nlt q0), by have a : x1.toInt < 4 := z_lt.mp z; omega⟩)]
    rw [hC]
    exact ⟨_, _, _, rfl, by rw [ei, b1_q, if_neg hx, if_pos rfl], hT, hi⟩
