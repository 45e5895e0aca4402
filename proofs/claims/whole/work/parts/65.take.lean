/-! a book taken from another -/
theorem zCp_n {S : zS} {a b n c j : Nat} (h : c ≠ b) : (zCp S a b 0 0 n).1 c j = S.1 c j := by
  show (if c = b ∧ 0 ≤ j ∧ j < 0 + n then S.1 a (0 + (j - 0)) else S.1 c j) = _
  rw [if_neg (fun q => h q.1)]
theorem zCp_e {S : zS} {a b n j : Nat} (h : j < n) : (zCp S a b 0 0 n).1 b j = S.1 a j := by
  show (if b = b ∧ 0 ≤ j ∧ j < 0 + n then S.1 a (0 + (j - 0)) else S.1 b j) = _
  rw [if_pos ⟨rfl, by omega, by omega⟩, Nat.zero_add, Nat.sub_zero]
def bkT (T : zT) (k : Nat) : Prop :=
  (zr T k 6 = k + 1 ∧ zr T k 7 = k + 2 ∧ zr T k 8 = k + 3 ∧ zr T k 9 = k + 4 ∧ zr T k 10 = k + 5 ∧ zr T k 11 = k + 6 ∧ zr T k 12 = k + 7 ∧ zr T k 13 = k + 11 ∧ zr T k 14 = k + 15) ∧
  (zr T (k + 7) 0 = k + 8 ∧ zr T (k + 7) 1 = k + 9 ∧ zr T (k + 7) 2 = k + 10) ∧ (zr T (k + 11) 0 = k + 12 ∧ zr T (k + 11) 1 = k + 13 ∧ zr T (k + 11) 2 = k + 14) ∧ zr T (k + 15) 0 = k + 16
def cpB (s d : Nat) (S S' : zS) : Prop :=
  (∀ b, b < 6 → S'.1 d b = S.1 s b) ∧ (∀ a, 1 ≤ a → a ≤ 6 → ∀ b, b < 8 → S'.1 (d + a) b = S.1 (s + a) b) ∧
  S'.1 (d + 7) 3 = S.1 (s + 7) 3 ∧ (∀ a, 8 ≤ a → a ≤ 10 → ∀ b, b < 24 → S'.1 (d + a) b = S.1 (s + a) b) ∧
  S'.1 (d + 11) 3 = S.1 (s + 11) 3 ∧ (∀ a, 12 ≤ a → a ≤ 14 → ∀ b, b < 24 → S'.1 (d + a) b = S.1 (s + a) b) ∧
  S'.1 (d + 15) 1 = S.1 (s + 15) 1 ∧ S'.1 (d + 15) 2 = S.1 (s + 15) 2 ∧ ∀ b : Nat, (b : Int) < (S.1 (s + 15) 1).toInt → S'.1 (d + 16) b = S.1 (s + 16) b
def sT1 (S : zS) (d s : Nat) : zS := zI (zCp (zCp (zCp S (s + 1) (d + 1) 0 0 24) (s + 2) (d + 2) 0 0 24) (s + 3) (d + 3) 0 0 24) d 3 ((zCp (zCp (zCp S (s + 1) (d + 1) 0 0 24) (s + 2) (d + 2) 0 0 24) (s + 3) (d + 3) 0 0 24).1 s 3)
theorem v_take1 {T : zT} {d s : Nat} {S : zS} (d0 : zr T d 0 = d + 1) (d1 : zr T d 1 = d + 2) (d2 : zr T d 2 = d + 3) (s0 : zr T s 0 = s + 1) (s1 : zr T s 1 = s + 2) (s2 : zr T s 2 = s + 3) : fX1_take T d s S = some ((), sT1 S d s) := by
  have g : zcg 0 0 24 24 24 = true := by decide
  unfold fX1_take
  rw [g_t g, let_q, g_t g, let_q, g_t g, let_q, let_q, d0, d1, d2, s0, s1, s2]
  rfl
theorem sT1_ne {S : zS} {d s a b : Nat} (h : a < d ∨ d + 3 < a) : (sT1 S d s).1 a b = S.1 a b := by
  unfold sT1
  rw [zI_ne (by omega), zCp_n (by omega), zCp_n (by omega), zCp_n (by omega)]
theorem sT1_3 {S : zS} {d s : Nat} (h : s + 3 < d ∨ d + 3 < s) : (sT1 S d s).1 d 3 = S.1 s 3 := by
  unfold sT1
  rw [zI_eqs, zCp_n (by omega), zCp_n (by omega), zCp_n (by omega)]
theorem sT1_a {S : zS} {d s j b : Nat} (h : s + 3 < d ∨ d + 3 < s) (h1 : 1 ≤ j) (h2 : j ≤ 3) (hb : b < 24) : (sT1 S d s).1 (d + j) b = S.1 (s + j) b := by
  unfold sT1
  have : j = 1 ∨ j = 2 ∨ j = 3 := by omega
  rcases this with rfl | rfl | rfl
  · rw [zI_ne (by omega), zCp_n (by omega), zCp_n (by omega), zCp_e hb]
  · rw [zI_ne (by omega), zCp_n (by omega), zCp_e hb, zCp_n (by omega)]
  · rw [zI_ne (by omega), zCp_e hb, zCp_n (by omega), zCp_n (by omega)]
def sT2 (S : zS) (d s : Nat) : zS := zI (zI (zCp S (s + 1) (d + 1) 0 0 (S.1 s 1).toNatClampNeg) d 1 ((zCp S (s + 1) (d + 1) 0 0 (S.1 s 1).toNatClampNeg).1 s 1)) d 2 ((zI (zCp S (s + 1) (d + 1) 0 0 (S.1 s 1).toNatClampNeg) d 1 ((zCp S (s + 1) (d + 1) 0 0 (S.1 s 1).toNatClampNeg).1 s 1)).1 s 2)
theorem v_take2 {T : zT} {d s n : Nat} {S : zS} (d0 : zr T d 0 = d + 1) (s0 : zr T s 0 = s + 1) (hn : n ≤ 512) (hl : S.1 s 1 = nI n) : fX2_take T d s S = some ((), sT2 S d s) := by
  have g : zcg 0 0 (S.1 s 1) 512 512 = true := by
    rw [hl]
    unfold zcg
    refine decide_eq_true ⟨by decide, by decide, n_lt0 (by omega), ?_, ?_⟩
    · rw [tn_nI (by omega)]; show 0 + n ≤ 512; omega
    · rw [tn_nI (by omega)]; show 0 + n ≤ 512; omega
  unfold fX2_take
  rw [g_t g, let_q, let_q, let_q, d0, s0]
  rfl
theorem sT2_ne {S : zS} {d s a b : Nat} (h : a < d ∨ d + 1 < a) : (sT2 S d s).1 a b = S.1 a b := by
  unfold sT2
  rw [zI_ne (by omega), zI_ne (by omega), zCp_n (by omega)]
theorem sT2_1 {S : zS} {d s : Nat} (h : s + 1 < d ∨ d + 1 < s) : (sT2 S d s).1 d 1 = S.1 s 1 ∧ (sT2 S d s).1 d 2 = S.1 s 2 := by
  unfold sT2
  rw [zI_eqn (by omega), zI_eqs, zI_eqs, zI_ne (by omega), zCp_n (by omega), zCp_n (by omega)]
  exact ⟨rfl, rfl⟩
theorem sT2_c {S : zS} {d s n b : Nat} (h : s + 1 < d ∨ d + 1 < s) (hl : S.1 s 1 = nI n) (hn : n ≤ 512) (hb : b < n) : (sT2 S d s).1 (d + 1) b = S.1 (s + 1) b := by
  unfold sT2
  rw [zI_ne (by omega), zI_ne (by omega), zCp_e (by rw [hl, tn_nI (by omega)]; exact hb)]
def sT0 (S : zS) (d s : Nat) : zS := zCp (zCp (zCp (zCp (zCp (zCp (zI (zI (zI (zI (zI (zI S d 0 (S.1 s 0)) d 1 (S.1 s 1)) d 2 (S.1 s 2)) d 3 (S.1 s 3)) d 4 (S.1 s 4)) d 5 (S.1 s 5)) (s + 1) (d + 1) 0 0 8) (s + 2) (d + 2) 0 0 8) (s + 3) (d + 3) 0 0 8) (s + 4) (d + 4) 0 0 8) (s + 5) (d + 5) 0 0 8) (s + 6) (d + 6) 0 0 8
theorem sT0_ne {S : zS} {d s a b : Nat} (h : a < d ∨ d + 6 < a) : (sT0 S d s).1 a b = S.1 a b := by
  unfold sT0
  rw [zCp_n (by omega), zCp_n (by omega), zCp_n (by omega), zCp_n (by omega), zCp_n (by omega), zCp_n (by omega), zI_ne (by omega), zI_ne (by omega), zI_ne (by omega), zI_ne (by omega), zI_ne (by omega), zI_ne (by omega)]
theorem sT0_i {S : zS} {d s b : Nat} (hb : b < 6) : (sT0 S d s).1 d b = S.1 s b := by
  unfold sT0
  rw [zCp_n (by omega), zCp_n (by omega), zCp_n (by omega), zCp_n (by omega), zCp_n (by omega), zCp_n (by omega)]
  have : b = 0 ∨ b = 1 ∨ b = 2 ∨ b = 3 ∨ b = 4 ∨ b = 5 := by omega
  rcases this with rfl | rfl | rfl | rfl | rfl | rfl <;> simp (decide := true) only [zI_eqn, zI_eqs]
theorem sT0_a {S : zS} {d s j b : Nat} (h : s + 6 < d ∨ d + 6 < s) (h1 : 1 ≤ j) (h2 : j ≤ 6) (hb : b < 8) : (sT0 S d s).1 (d + j) b = S.1 (s + j) b := by
  unfold sT0
  have : j = 1 ∨ j = 2 ∨ j = 3 ∨ j = 4 ∨ j = 5 ∨ j = 6 := by omega
  rcases this with rfl | rfl | rfl | rfl | rfl | rfl <;> simp (disch := omega) only [zCp_n, zCp_e, zI_ne]
theorem v_take_eq {T : zT} {d s : Nat} {S : zS} (hd : bkT T d) (hs : bkT T s) (hne : s ≠ d) : fX0_take T d s S = zb (fX1_take T (d + 7) (s + 7) (sT0 S d s)) fun _ S21 => zb (fX1_take T (d + 11) (s + 11) S21) fun _ S24 => zb (fX2_take T (d + 15) (s + 15) S24) fun _ S27 => some ((), S27) := by
  have g : zcg 0 0 8 8 8 = true := by decide
  obtain ⟨⟨d6, d7, d8, d9, d10, d11, d12, d13, d14⟩, -⟩ := hd
  obtain ⟨⟨s6, s7, s8, s9, s10, s11, s12, s13, s14⟩, -⟩ := hs
  unfold fX0_take
  rw [let_q, zI_ne hne, let_q, zI_ne hne, zI_ne hne, let_q, zI_ne hne, zI_ne hne, zI_ne hne, let_q, zI_ne hne, zI_ne hne, zI_ne hne, zI_ne hne, let_q, zI_ne hne, zI_ne hne, zI_ne hne, zI_ne hne, zI_ne hne, let_q, g_t g, let_q, g_t g, let_q, g_t g, let_q, g_t g, let_q, g_t g, let_q, g_t g, let_q]
  rw [d6, d7, d8, d9, d10, d11, d12, d13, d14, s6, s7, s8, s9, s10, s11, s12, s13, s14]
  rfl
theorem v_take {T : zT} {d s n : Nat} {S : zS} (hd : bkT T d) (hs : bkT T s) (h : s + 16 < d ∨ d + 16 < s) (hn : n ≤ 512) (hl : S.1 (s + 15) 1 = nI n) : ∃ S', fX0_take T d s S = some ((), S') ∧ S'.2 = S.2 ∧ (∀ a b, a < d ∨ d + 16 < a → S'.1 a b = S.1 a b) ∧ cpB s d S S' := by
  rw [v_take_eq hd hs (by omega), v_take1 hd.2.1.1 hd.2.1.2.1 hd.2.1.2.2 hs.2.1.1 hs.2.1.2.1 hs.2.1.2.2, b_q, v_take1 hd.2.2.1.1 hd.2.2.1.2.1 hd.2.2.1.2.2 hs.2.2.1.1 hs.2.2.1.2.1 hs.2.2.1.2.2, b_q]
  have hl' : (sT1 (sT1 (sT0 S d s) (d + 7) (s + 7)) (d + 11) (s + 11)).1 (s + 15) 1 = nI n := by rw [sT1_ne (by omega), sT1_ne (by omega), sT0_ne (by omega)]; exact hl
  rw [v_take2 hd.2.2.2 hs.2.2.2 hn hl', b_q]
  refine ⟨_, rfl, rfl, fun a b hab => ?_, fun b hb => ?_, fun a h1 h2 b hb => ?_, ?_, fun a h1 h2 b hb => ?_, ?_, fun a h1 h2 b hb => ?_, ?_, ?_, fun b hb => ?_⟩
  · rw [sT2_ne (by omega), sT1_ne (by omega), sT1_ne (by omega), sT0_ne (by omega)]
  · rw [sT2_ne (by omega), sT1_ne (by omega), sT1_ne (by omega), sT0_i hb]
  · rw [sT2_ne (by omega), sT1_ne (by omega), sT1_ne (by omega), sT0_a (by omega) h1 h2 hb]
  · rw [sT2_ne (by omega), sT1_ne (by omega), sT1_3 (by omega), sT0_ne (by omega)]
  · obtain ⟨j, rfl⟩ : ∃ j, a = 7 + j := ⟨a - 7, by omega⟩
    rw [← Nat.add_assoc, ← Nat.add_assoc, sT2_ne (by omega), sT1_ne (by omega), sT1_a (by omega) (by omega) (by omega) hb, sT0_ne (by omega)]
  · rw [sT2_ne (by omega), sT1_3 (by omega), sT1_ne (by omega), sT0_ne (by omega)]
  · obtain ⟨j, rfl⟩ : ∃ j, a = 11 + j := ⟨a - 11, by omega⟩
    rw [← Nat.add_assoc, ← Nat.add_assoc, sT2_ne (by omega), sT1_a (by omega) (by omega) (by omega) hb, sT1_ne (by omega), sT0_ne (by omega)]
  · rw [(sT2_1 (by omega)).1, sT1_ne (by omega), sT1_ne (by omega), sT0_ne (by omega)]
  · rw [(sT2_1 (by omega)).2, sT1_ne (by omega), sT1_ne (by omega), sT0_ne (by omega)]
  · rw [hl, nI_toInt (by omega)] at hb
    have := sT2_c (d := d + 15) (s := s + 15) (b := b) (by omega) hl' hn (by omega)
    rw [show d + 16 = d + 15 + 1 from rfl, this, sT1_ne (by omega), sT1_ne (by omega), sT0_ne (by omega)]
theorem cAt_cp {S S' : zS} {kc kd i : Nat} {c : List (Nat × Nat)} (e : S'.1 kd 1 = S.1 kc 1) (e2 : ∀ b : Nat, (b : Int) < (S.1 kc 1).toInt → S'.1 (kd + 1) b = S.1 (kc + 1) b) (h : cAt S kc i c) : cAt S' kd i c := by
  intro j p hj
  obtain ⟨h1, h2⟩ := h j p hj
  rw [e, e2 _ h2]
  exact ⟨h1, h2⟩
theorem cTest_cp {S S' : zS} {kc kd : Nat} {x : Int32} {c : List (Nat × Nat)} (e : S'.1 kd 1 = S.1 kc 1) (e2 : ∀ b : Nat, (b : Int) < (S.1 kc 1).toInt → S'.1 (kd + 1) b = S.1 (kc + 1) b) (h : cTest S kc x c) : cTest S' kd x c := by
  rcases h with h | ⟨h1, s, h2, h3, h4⟩
  · exact Or.inl h
  · exact Or.inr ⟨h1, s, h2, h3, cAt_cp e e2 h4⟩
theorem bkC_cp {S S' : zS} {s d : Nat} {B : Bk} (h : cpB s d S S') (hb : bkC S s B) : bkC S' d B := by
  obtain ⟨p1, p2, p3, p4, p5, p6, p7, p8, p9⟩ := h
  obtain ⟨h1, h2, ⟨i1, i2, i3⟩, ⟨j1, j2, j3⟩, h5, n, h6, h7⟩ := hb
  refine ⟨fun i hi => (p1 i hi).trans (h1 i hi), fun t ht hz j hj => ?_, ⟨p3.trans i1, i2, fun i c hc => ?_⟩, ⟨p5.trans j1, j2, fun i c hc => ?_⟩, fun c hc hm => by rw [p8]; exact h5 c hc hm, n, h6, p7.trans h7⟩
  · have := p2 (1 + j) (by omega) (by omega) t ht
    rw [← Nat.add_assoc, ← Nat.add_assoc] at this
    exact this.trans (h2 t ht hz j hj)
  · have hi : i < 24 := by have := (List.getElem?_eq_some_iff.mp hc).1; omega
    obtain ⟨q1, q2, q3, q4⟩ := i3 i c hc
    have r := fun a h1 h2 => p4 a h1 h2 i hi
    exact ⟨q1, (r 8 (by omega) (by omega)).trans q2, (r 9 (by omega) (by omega)).trans q3, by rw [show d + 7 + 3 = d + 10 from rfl, r 10 (by omega) (by omega)]; exact cTest_cp p7 p9 q4⟩
  · have hi : i < 24 := by have := (List.getElem?_eq_some_iff.mp hc).1; omega
    obtain ⟨q1, q2, q3, q4⟩ := j3 i c hc
    have r := fun a h1 h2 => p6 a h1 h2 i hi
    exact ⟨q1, (r 12 (by omega) (by omega)).trans q2, (r 13 (by omega) (by omega)).trans q3, by rw [show d + 11 + 3 = d + 14 from rfl, r 14 (by omega) (by omega)]; exact cTest_cp p7 p9 q4⟩
theorem bkT_7 {T : zT} (h : iT T) : bkT T 7 := ⟨⟨zT_7_6 h, zT_7_7 h, zT_7_8 h, zT_7_9 h, zT_7_10 h, zT_7_11 h, zT_7_12 h, zT_7_13 h, zT_7_14 h⟩, ⟨zT_14_0 h, zT_14_1 h, zT_14_2 h⟩, ⟨zT_18_0 h, zT_18_1 h, zT_18_2 h⟩, zT_22_0 h⟩
theorem bkT_24 {T : zT} (h : iT T) : bkT T 24 := ⟨⟨zT_24_6 h, zT_24_7 h, zT_24_8 h, zT_24_9 h, zT_24_10 h, zT_24_11 h, zT_24_12 h, zT_24_13 h, zT_24_14 h⟩, ⟨zT_31_0 h, zT_31_1 h, zT_31_2 h⟩, ⟨zT_35_0 h, zT_35_1 h, zT_35_2 h⟩, zT_39_0 h⟩
theorem bkT_im {T : zT} (h : iT T) {k : Nat} (hk : k < 4) : bkT T (78 + 21 * k) := by
  have : k = 0 ∨ k = 1 ∨ k = 2 ∨ k = 3 := by omega
  rcases this with rfl | rfl | rfl | rfl
  · exact ⟨⟨zT_78_6 h, zT_78_7 h, zT_78_8 h, zT_78_9 h, zT_78_10 h, zT_78_11 h, zT_78_12 h, zT_78_13 h, zT_78_14 h⟩, ⟨zT_85_0 h, zT_85_1 h, zT_85_2 h⟩, ⟨zT_89_0 h, zT_89_1 h, zT_89_2 h⟩, zT_93_0 h⟩
  · exact ⟨⟨zT_99_6 h, zT_99_7 h, zT_99_8 h, zT_99_9 h, zT_99_10 h, zT_99_11 h, zT_99_12 h, zT_99_13 h, zT_99_14 h⟩, ⟨zT_106_0 h, zT_106_1 h, zT_106_2 h⟩, ⟨zT_110_0 h, zT_110_1 h, zT_110_2 h⟩, zT_114_0 h⟩
  · exact ⟨⟨zT_120_6 h, zT_120_7 h, zT_120_8 h, zT_120_9 h, zT_120_10 h, zT_120_11 h, zT_120_12 h, zT_120_13 h, zT_120_14 h⟩, ⟨zT_127_0 h, zT_127_1 h, zT_127_2 h⟩, ⟨zT_131_0 h, zT_131_1 h, zT_131_2 h⟩, zT_135_0 h⟩
  · exact ⟨⟨zT_141_6 h, zT_141_7 h, zT_141_8 h, zT_141_9 h, zT_141_10 h, zT_141_11 h, zT_141_12 h, zT_141_13 h, zT_141_14 h⟩, ⟨zT_148_0 h, zT_148_1 h, zT_148_2 h⟩, ⟨zT_152_0 h, zT_152_1 h, zT_152_2 h⟩, zT_156_0 h⟩
/-! a row taken from another -/
theorem v_take7 {T : zT} {d s : Nat} {S : zS} (d0 : zr T d 0 = d + 1) (d1 : zr T d 1 = d + 2) (d2 : zr T d 2 = d + 3) (s0 : zr T s 0 = s + 1) (s1 : zr T s 1 = s + 2) (s2 : zr T s 2 = s + 3) (h : s + 3 < d ∨ d + 3 < s) : ∃ S', fX7_take T d s S = some ((), S') ∧ S'.2 = S.2 ∧ (∀ a b, a < d ∨ d + 3 < a → S'.1 a b = S.1 a b) ∧ S'.1 d 3 = S.1 s 3 ∧ ∀ j, j < 3 → ∀ b, b < 60 → S'.1 (d + 1 + j) b = S.1 (s + 1 + j) b := by
  have g : zcg 0 0 60 60 60 = true := by decide
  have eq : fX7_take T d s S = some ((), zI (zCp (zCp (zCp S (s + 1) (d + 1) 0 0 60) (s + 2) (d + 2) 0 0 60) (s + 3) (d + 3) 0 0 60) d 3 ((zCp (zCp (zCp S (s + 1) (d + 1) 0 0 60) (s + 2) (d + 2) 0 0 60) (s + 3) (d + 3) 0 0 60).1 s 3)) := by
    unfold fX7_take
    rw [g_t g, let_q, g_t g, let_q, g_t g, let_q, let_q, d0, d1, d2, s0, s1, s2]
    rfl
  rw [eq]
  refine ⟨_, rfl, rfl, fun a b hab => ?_, ?_, fun j hj b hb => ?_⟩
  · rw [zI_ne (by omega), zCp_n (by omega), zCp_n (by omega), zCp_n (by omega)]
  · rw [zI_eqs, zCp_n (by omega), zCp_n (by omega), zCp_n (by omega)]
  · have : j = 0 ∨ j = 1 ∨ j = 2 := by omega
    rcases this with rfl | rfl | rfl
    · rw [zI_ne (by omega), zCp_n (by omega), zCp_n (by omega)]; exact zCp_e hb
    · rw [zI_ne (by omega), zCp_n (by omega), show d + 1 + 1 = d + 2 from rfl, zCp_e hb, zCp_n (by omega)]
    · rw [zI_ne (by omega), show d + 1 + 2 = d + 3 from rfl, zCp_e hb, zCp_n (by omega), zCp_n (by omega)]
theorem rwC_cp {S S' : zS} {s d : Nat} {A : Rw} (hA : A.1 ≤ 60) (h1 : S'.1 d 3 = S.1 s 3) (h2 : ∀ j, j < 3 → ∀ b, b < 60 → S'.1 (d + 1 + j) b = S.1 (s + 1 + j) b) (h : rwC S s A) : rwC S' d A := ⟨h1.trans h.1, fun i hi j hj => (h2 j hj i (by omega)).trans (h.2 i hi j hj)⟩
