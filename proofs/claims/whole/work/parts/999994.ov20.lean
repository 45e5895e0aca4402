def ov20 (S : zS) : zS := (ovS (ovS (ovS (ovS (ovS (ovS (ovS (ovS (ovS (ovS (ovS (ovS (ovS (ovS (ovS (ovS (ovS (ovS (ovS (ovS S 189 300) 190 300) 191 1) 192 24) 193 24) 194 24) 196 24) 197 24) 199 8) 200 8) 201 8) 202 8) 203 8) 204 8) 205 8) 206 1) 207 1) 208 1) 209 1) 210 1)
theorem ov20_at {S : zS} {a b : Nat} : (ov20 S).1 a b = if b < rN a then S.1 a (rN a + b) else S.1 a b := by
  by_cases h : 189 ≤ a ∧ a ≤ 210 ∧ a ≠ 195 ∧ a ≠ 198
  · have : a = 189 ∨ a = 190 ∨ a = 191 ∨ a = 192 ∨ a = 193 ∨ a = 194 ∨ a = 196 ∨ a = 197 ∨ a = 199 ∨ a = 200 ∨ a = 201 ∨ a = 202 ∨ a = 203 ∨ a = 204 ∨ a = 205 ∨ a = 206 ∨ a = 207 ∨ a = 208 ∨ a = 209 ∨ a = 210 := by omega
    rcases this with rfl | rfl | rfl | rfl | rfl | rfl | rfl | rfl | rfl | rfl | rfl | rfl | rfl | rfl | rfl | rfl | rfl | rfl | rfl | rfl
    · rw [show rN 189 = 300 from by decide]
      by_cases z : b < 300
      · rw [if_pos z]; unfold ov20
        try simp (disch := decide) only [ovS_ne]
        rw [ovS_eq z]
        try simp (disch := decide) only [ovS_ne]
      · rw [if_neg z]; unfold ov20
        try simp (disch := decide) only [ovS_ne]
        rw [ovS_ge z]
        try simp (disch := decide) only [ovS_ne]
    · rw [show rN 190 = 300 from by decide]
      by_cases z : b < 300
      · rw [if_pos z]; unfold ov20
        try simp (disch := decide) only [ovS_ne]
        rw [ovS_eq z]
        try simp (disch := decide) only [ovS_ne]
      · rw [if_neg z]; unfold ov20
        try simp (disch := decide) only [ovS_ne]
        rw [ovS_ge z]
        try simp (disch := decide) only [ovS_ne]
    · rw [show rN 191 = 1 from by decide]
      by_cases z : b < 1
      · rw [if_pos z]; unfold ov20
        try simp (disch := decide) only [ovS_ne]
        rw [ovS_eq z]
        try simp (disch := decide) only [ovS_ne]
      · rw [if_neg z]; unfold ov20
        try simp (disch := decide) only [ovS_ne]
        rw [ovS_ge z]
        try simp (disch := decide) only [ovS_ne]
    · rw [show rN 192 = 24 from by decide]
      by_cases z : b < 24
      · rw [if_pos z]; unfold ov20
        try simp (disch := decide) only [ovS_ne]
        rw [ovS_eq z]
        try simp (disch := decide) only [ovS_ne]
      · rw [if_neg z]; unfold ov20
        try simp (disch := decide) only [ovS_ne]
        rw [ovS_ge z]
        try simp (disch := decide) only [ovS_ne]
    · rw [show rN 193 = 24 from by decide]
      by_cases z : b < 24
      · rw [if_pos z]; unfold ov20
        try simp (disch := decide) only [ovS_ne]
        rw [ovS_eq z]
        try simp (disch := decide) only [ovS_ne]
      · rw [if_neg z]; unfold ov20
        try simp (disch := decide) only [ovS_ne]
        rw [ovS_ge z]
        try simp (disch := decide) only [ovS_ne]
    · rw [show rN 194 = 24 from by decide]
      by_cases z : b < 24
      · rw [if_pos z]; unfold ov20
        try simp (disch := decide) only [ovS_ne]
        rw [ovS_eq z]
        try simp (disch := decide) only [ovS_ne]
      · rw [if_neg z]; unfold ov20
        try simp (disch := decide) only [ovS_ne]
        rw [ovS_ge z]
        try simp (disch := decide) only [ovS_ne]
    · rw [show rN 196 = 24 from by decide]
      by_cases z : b < 24
      · rw [if_pos z]; unfold ov20
        try simp (disch := decide) only [ovS_ne]
        rw [ovS_eq z]
        try simp (disch := decide) only [ovS_ne]
      · rw [if_neg z]; unfold ov20
        try simp (disch := decide) only [ovS_ne]
        rw [ovS_ge z]
        try simp (disch := decide) only [ovS_ne]
    · rw [show rN 197 = 24 from by decide]
      by_cases z : b < 24
      · rw [if_pos z]; unfold ov20
        try simp (disch := decide) only [ovS_ne]
        rw [ovS_eq z]
        try simp (disch := decide) only [ovS_ne]
      · rw [if_neg z]; unfold ov20
        try simp (disch := decide) only [ovS_ne]
        rw [ovS_ge z]
        try simp (disch := decide) only [ovS_ne]
    · rw [show rN 199 = 8 from by decide]
      by_cases z : b < 8
      · rw [if_pos z]; unfold ov20
        try simp (disch := decide) only [ovS_ne]
        rw [ovS_eq z]
        try simp (disch := decide) only [ovS_ne]
      · rw [if_neg z]; unfold ov20
        try simp (disch := decide) only [ovS_ne]
        rw [ovS_ge z]
        try simp (disch := decide) only [ovS_ne]
    · rw [show rN 200 = 8 from by decide]
      by_cases z : b < 8
      · rw [if_pos z]; unfold ov20
        try simp (disch := decide) only [ovS_ne]
        rw [ovS_eq z]
        try simp (disch := decide) only [ovS_ne]
      · rw [if_neg z]; unfold ov20
        try simp (disch := decide) only [ovS_ne]
        rw [ovS_ge z]
        try simp (disch := decide) only [ovS_ne]
    · rw [show rN 201 = 8 from by decide]
      by_cases z : b < 8
      · rw [if_pos z]; unfold ov20
        try simp (disch := decide) only [ovS_ne]
        rw [ovS_eq z]
        try simp (disch := decide) only [ovS_ne]
      · rw [if_neg z]; unfold ov20
        try simp (disch := decide) only [ovS_ne]
        rw [ovS_ge z]
        try simp (disch := decide) only [ovS_ne]
    · rw [show rN 202 = 8 from by decide]
      by_cases z : b < 8
      · rw [if_pos z]; unfold ov20
        try simp (disch := decide) only [ovS_ne]
        rw [ovS_eq z]
        try simp (disch := decide) only [ovS_ne]
      · rw [if_neg z]; unfold ov20
        try simp (disch := decide) only [ovS_ne]
        rw [ovS_ge z]
        try simp (disch := decide) only [ovS_ne]
    · rw [show rN 203 = 8 from by decide]
      by_cases z : b < 8
      · rw [if_pos z]; unfold ov20
        try simp (disch := decide) only [ovS_ne]
        rw [ovS_eq z]
        try simp (disch := decide) only [ovS_ne]
      · rw [if_neg z]; unfold ov20
        try simp (disch := decide) only [ovS_ne]
        rw [ovS_ge z]
        try simp (disch := decide) only [ovS_ne]
    · rw [show rN 204 = 8 from by decide]
      by_cases z : b < 8
      · rw [if_pos z]; unfold ov20
        try simp (disch := decide) only [ovS_ne]
        rw [ovS_eq z]
        try simp (disch := decide) only [ovS_ne]
      · rw [if_neg z]; unfold ov20
        try simp (disch := decide) only [ovS_ne]
        rw [ovS_ge z]
        try simp (disch := decide) only [ovS_ne]
    · rw [show rN 205 = 8 from by decide]
      by_cases z : b < 8
      · rw [if_pos z]; unfold ov20
        try simp (disch := decide) only [ovS_ne]
        rw [ovS_eq z]
        try simp (disch := decide) only [ovS_ne]
      · rw [if_neg z]; unfold ov20
        try simp (disch := decide) only [ovS_ne]
        rw [ovS_ge z]
        try simp (disch := decide) only [ovS_ne]
    · rw [show rN 206 = 1 from by decide]
      by_cases z : b < 1
      · rw [if_pos z]; unfold ov20
        try simp (disch := decide) only [ovS_ne]
        rw [ovS_eq z]
        try simp (disch := decide) only [ovS_ne]
      · rw [if_neg z]; unfold ov20
        try simp (disch := decide) only [ovS_ne]
        rw [ovS_ge z]
        try simp (disch := decide) only [ovS_ne]
    · rw [show rN 207 = 1 from by decide]
      by_cases z : b < 1
      · rw [if_pos z]; unfold ov20
        try simp (disch := decide) only [ovS_ne]
        rw [ovS_eq z]
        try simp (disch := decide) only [ovS_ne]
      · rw [if_neg z]; unfold ov20
        try simp (disch := decide) only [ovS_ne]
        rw [ovS_ge z]
        try simp (disch := decide) only [ovS_ne]
    · rw [show rN 208 = 1 from by decide]
      by_cases z : b < 1
      · rw [if_pos z]; unfold ov20
        try simp (disch := decide) only [ovS_ne]
        rw [ovS_eq z]
        try simp (disch := decide) only [ovS_ne]
      · rw [if_neg z]; unfold ov20
        try simp (disch := decide) only [ovS_ne]
        rw [ovS_ge z]
        try simp (disch := decide) only [ovS_ne]
    · rw [show rN 209 = 1 from by decide]
      by_cases z : b < 1
      · rw [if_pos z]; unfold ov20
        try simp (disch := decide) only [ovS_ne]
        rw [ovS_eq z]
        try simp (disch := decide) only [ovS_ne]
      · rw [if_neg z]; unfold ov20
        try simp (disch := decide) only [ovS_ne]
        rw [ovS_ge z]
        try simp (disch := decide) only [ovS_ne]
    · rw [show rN 210 = 1 from by decide]
      by_cases z : b < 1
      · rw [if_pos z]; unfold ov20
        try simp (disch := decide) only [ovS_ne]
        rw [ovS_eq z]
        try simp (disch := decide) only [ovS_ne]
      · rw [if_neg z]; unfold ov20
        try simp (disch := decide) only [ovS_ne]
        rw [ovS_ge z]
        try simp (disch := decide) only [ovS_ne]
  · have hz : ¬ b < rN a := fun q => by
      have q1 := rN_in q
      have q2 : rN 195 = 0 := by decide
      by_cases z : a = 195
      · rw [z, q2] at q; omega
      · have q3 : rN 198 = 0 := by decide
        by_cases z3 : a = 198
        · rw [z3, q3] at q; omega
        · omega
    rw [if_neg hz]
    unfold ov20
    simp (disch := omega) only [ovS_ne]
theorem r_readsB {T : zT} (hT : iT T) {R : zS} (h4 : R.1 187 4 = nI 1) {x : Int32} {R' : zS} (hl : lp (fun a : Int32 × Int32 × zS => fX12_reads_l47 T 187 a.1 a.2.1 a.2.2) (0, 1, rI R 3) = some (x, R')) (h4' : R'.1 187 4 = nI 1) : fX12_reads T 187 R = some (R'.1 187 3, zI (zI R' 187 1 0) 191 1 x) := by
  unfold fX12_reads
  simp only [let_q]
  rw [if_pos (show (zI (zI (zI (zI (zI R 187 2 0) 187 3 0) 187 6 0) 187 7 0) 187 8 0).1 187 4 ≤ 1 by simp (disch := decide) only [zI_eqn, h4]; decide)]
  unfold fX12_reads_b40
  rw [let_q]
  have hl' : lp (fun a : Int32 × Int32 × zS => fX12_reads_l47 T 187 a.1 a.2.1 a.2.2) (0, 1, zI (zI (zI (zI (zI (zI R 187 2 0) 187 3 0) 187 6 0) 187 7 0) 187 8 0) 187 10 3) = some (x, R') := hl
  rw [hl', b1_q]
  show (zlet (zI R' 187 1 0) fun S32 => zgd (zin (S32.1 187 4) 8) (zlet (zI S32 (zr T 187 14) ((S32.1 187 4) : Int32).toNatClampNeg x) fun S34 => some ((S34.1 187 3), S34))) = _
  rw [let_q, zI_eqn (show (4 : Nat) ≠ 1 by decide), h4', g_in (by omega) (by decide), tn_nI (by omega), zT_187_14 hT, let_q, zI_ne (by decide), zI_eqn (by decide)]
theorem bkR_of {R S' : zS} {B : Bk} {e : Nat} (hb : rbk R B) (hc : rcl R e B.2) (he : e ≤ 300) (h24 : B.2.length ≤ 24) (h : ∀ a b, a ≠ 191 → b < rN a → S'.1 a b = R.1 a (rN a + b)) (h1 : S'.1 191 0 = nI B.2.length) : bkR S'.1 B := by
  obtain ⟨a1, a2, a3, a4, a5, a6, a7⟩ := hb
  have r1 : ∀ a, 206 ≤ a → a ≤ 210 → S'.1 a 0 = R.1 a 1 := fun a q1 q2 => by
    have e : rN a = 1 := by unfold rN; rw [if_neg (by omega), if_neg (by omega), if_neg (by omega), if_pos (by omega)]
    rw [h a 0 (by omega) (by omega), e]
  have r8 : ∀ a t, 199 ≤ a → a ≤ 205 → t < 8 → S'.1 a t = R.1 a (8 + t) := fun a t q1 q2 q3 => by
    have e : rN a = 8 := by unfold rN; rw [if_neg (by omega), if_neg (by omega), if_pos (by omega)]
    rw [h a t (by omega) (by omega), e]
  have r24 : ∀ a i, 192 ≤ a → a ≤ 197 → a ≠ 195 → i < 24 → S'.1 a i = R.1 a (24 + i) := fun a i q1 q2 q3 q4 => by
    have e : rN a = 24 := by unfold rN; rw [if_neg (by omega), if_pos (by omega)]
    rw [h a i (by omega) (by omega), e]
  have r3 : ∀ a i, a = 189 ∨ a = 190 → i < 300 → S'.1 a i = R.1 a (300 + i) := fun a i q1 q4 => by
    have e : rN a = 300 := by unfold rN; rw [if_pos q1]
    rw [h a i (by omega) (by omega), e]
  refine ⟨fun t ht => by rw [r8 _ _ (by omega) (by omega) ht]; exact a1 t ht, fun t ht j hj => by rw [r8 _ _ (by omega) (by omega) ht]; exact a2 t ht j hj, by rw [r1 _ (by omega) (by omega)]; exact a3, by rw [r1 _ (by omega) (by omega)]; exact a4, by rw [r1 _ (by omega) (by omega)]; exact a5, by rw [r1 _ (by omega) (by omega)]; exact a6, by rw [r1 _ (by omega) (by omega)]; exact a7, h1, h24, fun i c hc' => ?_⟩
  have hi := (List.getElem?_eq_some_iff.mp hc').1
  obtain ⟨b1, b2, b3, b4, b5, b6⟩ := hc i c hc'
  rw [r24 192 i (by omega) (by omega) (by omega) (by omega), r24 193 i (by omega) (by omega) (by omega) (by omega), r24 194 i (by omega) (by omega) (by omega) (by omega), r24 196 i (by omega) (by omega) (by omega) (by omega), r24 197 i (by omega) (by omega) (by omega) (by omega)]
  refine ⟨b1, b2, b3, b4, b5, fun q => ?_⟩
  obtain ⟨d1, s, d2, d3, d4, d5⟩ := b6 q
  refine ⟨d1, s, d2, d3, by omega, fun j p hj => ?_⟩
  have hj' := (List.getElem?_eq_some_iff.mp hj).1
  have := d5 j p hj
  rw [Nat.add_assoc] at this
  rw [r3 189 _ (Or.inl rfl) (by omega), r3 190 _ (Or.inr rfl) (by omega)]
  exact this
