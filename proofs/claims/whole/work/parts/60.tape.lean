/-! THE TAPE: feed, end -/
/-- a byte of a number, as the two put it -/
def byC (x : Int32) (s : Nat) : Int32 := (((x : Int32).toUInt32 >>> ((nI s : Int32).toUInt32 &&& Int32.toUInt32 31)).toInt32) &&& 255
def byR (x : Int32) (s : Nat) : Int32 := vp_nar .byte (((x >>> (nI s &&& 31)) : Int32).toInt8.toInt32)
theorem byR_e (x : Int32) (s : Nat) : byR x s = ((x >>> (nI s &&& 31)) : Int32).toInt8.toInt32.toInt8.toInt32 := rfl
theorem zm_255 : ∀ i, i < 32 → zm 255 i = decide (i < 8) := by decide
theorem zm_i8 {y : Int32} {i : Nat} (h : i < 8) : zm y.toInt8.toInt32 i = zm y i := by
  unfold zm
  rw [Int8.toBitVec_toInt32, Int32.toBitVec_toInt8, BitVec.getLsbD_signExtend, BitVec.getLsbD_signExtend]
  have h32 : i < 32 := by omega
  simp only [h, h32, decide_true, if_true, Bool.true_and]
theorem by_shu : ∀ s, s < 32 → ((nI s : Int32).toUInt32 &&& Int32.toUInt32 31).toBitVec % 32 = BitVec.ofNat 32 s := by decide
theorem byC_m {x : Int32} {s i : Nat} (hs : s ≤ 24) (hi : i < 8) : zm (byC x s) i = zm x (s + i) := by
  unfold byC
  rw [m_and, zm_255 i (by omega), decide_eq_true hi, Bool.and_true]
  unfold zm
  rw [UInt32.toBitVec_toInt32, UInt32.toBitVec_shiftRight, by_shu s (by omega)]
  show (x.toBitVec >>> (BitVec.ofNat 32 s).toNat).getLsbD i = _
  rw [BitVec.getLsbD_ushiftRight]
  congr 1
  simp
  omega
theorem byR_m {x : Int32} {s i : Nat} (hs : s ≤ 24) (hi : i < 8) : zm (byR x s) i = zm x (s + i) := by
  rw [byR_e, zm_i8 hi, zm_i8 hi]
  unfold zm
  rw [Int32.toBitVec_shiftRight, m_sl s (by omega), BitVec.sshiftRight_eq', BitVec.getLsbD_sshiftRight]
  have e1 : (BitVec.ofNat 32 s).toNat = s := by simp; omega
  rw [e1]
  have h1 : decide (32 ≤ i) = false := decide_eq_false (by omega)
  rw [h1]
  by_cases q : s + i < 32
  · rw [if_pos q]; rfl
  · omega
theorem by_eq {x : Int32} {s : Nat} (hs : s ≤ 24) : byC x s = byR x s &&& 255 := by
  refine m_ext (fun i hi => ?_)
  rw [m_and, zm_255 i hi]
  by_cases q : i < 8
  · rw [decide_eq_true q, Bool.and_true, byC_m hs q, byR_m hs q]
  · rw [decide_eq_false q, Bool.and_false]
    unfold byC
    rw [m_and, zm_255 i hi, decide_eq_false q, Bool.and_false]
theorem byR_b {x : Int32} {s : Nat} : btw (byR x s) (-128) 127 := by
  rw [byR_e]
  generalize ((x >>> (nI s &&& 31)) : Int32).toInt8.toInt32.toInt8 = y
  unfold btw
  rw [Int8.toInt_toInt32]
  have h1 := Int8.le_toInt y
  have h2 := Int8.toInt_lt y
  omega
/-- the two tapes, n bytes each -/
def tpR (n : Nat) (Sc Sr : zS) : Prop := Sc.1 0 1 = nI n ∧ Sr.1 187 1 = nI n ∧ ∀ i, i < n → btw (Sr.1 188 i) (-128) 127 ∧ Sc.1 1 i = Sr.1 188 i &&& 255
def tpC (S S' : zS) : Prop := S'.2 = S.2 ∧ ∀ a b, a ≠ 1 → ¬ (a = 0 ∧ b = 1) → S'.1 a b = S.1 a b
def tpS (S S' : zS) : Prop := S'.2 = S.2 ∧ ∀ a b, a ≠ 188 → ¬ (a = 187 ∧ b = 1) → S'.1 a b = S.1 a b
theorem tpC_tr {S S1 S2 : zS} (h : tpC S S1) (h' : tpC S1 S2) : tpC S S2 := ⟨h'.1.trans h.1, fun a b n m => (h'.2 a b n m).trans (h.2 a b n m)⟩
theorem tpS_tr {S S1 S2 : zS} (h : tpS S S1) (h' : tpS S1 S2) : tpS S S2 := ⟨h'.1.trans h.1, fun a b n m => (h'.2 a b n m).trans (h.2 a b n m)⟩
theorem tpC_refl {S : zS} : tpC S S := ⟨rfl, fun _ _ _ _ => rfl⟩
theorem tpS_refl {S : zS} : tpS S S := ⟨rfl, fun _ _ _ _ => rfl⟩
theorem byte_step {T : zT} (hT : iT T) {x : Int32} {s n : Nat} (hs : s ≤ 24) (hn : n < 400) {Sc Sr : zS} (h : tpR n Sc Sr) : ∃ Sc' Sr', fX11_putBytes_l3 T 0 x (nI s) Sc = some (.inl (nI s + (-8), Sc')) ∧ fX12_put_l3 T 187 x (nI s) Sr = some (.inl (nI s + (-8), Sr')) ∧ tpR (n + 1) Sc' Sr' ∧ tpC Sc Sc' ∧ tpS Sr Sr' := by
  obtain ⟨h1, h2, h3⟩ := h
  refine ⟨zI (zI Sc 1 n (byC x s)) 0 1 (nI (n + 1)), zI (zI Sr 188 n (byR x s)) 187 1 (nI (n + 1)), ?_, ?_, ⟨zI_eqs, zI_eqs, fun i hi => ?_⟩, ⟨rfl, fun a b n1 n2 => by rw [zI_o (by omega), zI_ne (by omega)]⟩, ⟨rfl, fun a b n1 n2 => by rw [zI_o (by omega), zI_ne (by omega)]⟩⟩
  · unfold fX11_putBytes_l3 fX11_putBytes_b43
    rw [if_neg (n_lt0 (by omega)), h1, if_neg (by rw [n_leL (by omega) (by omega)]; omega), g_in hn (by decide)]
    simp only [let_q, zT_0_0 hT, tn_nI (show n < 2147483648 by omega)]
    rw [zI_ne (by decide), h1, n_addL]
    rfl
  · unfold fX12_put_l3
    rw [if_neg (n_lt0 (by omega)), h2, g_in hn (by decide)]
    simp only [let_q, zT_187_11 hT, tn_nI (show n < 2147483648 by omega)]
    rw [zI_ne (by decide), h2, n_addL]
    rfl
  · simp (decide := true) only [zI_ne, zI_eq]
    by_cases q : i = n
    · rw [if_pos q, if_pos q]; exact ⟨byR_b, by_eq hs⟩
    · rw [if_neg q, if_neg q]; exact h3 i (by omega)
theorem put_step {T : zT} (hT : iT T) {x : Int32} {n : Nat} (hn : n + 4 ≤ 400) {Sc Sr : zS} (h : tpR n Sc Sr) : ∃ Sc' Sr', fX11_putBytes T 0 x Sc = some ((), Sc') ∧ fX12_put T 187 x Sr = some ((), Sr') ∧ tpR (n + 4) Sc' Sr' ∧ tpC Sc Sc' ∧ tpS Sr Sr' := by
  obtain ⟨Sc1, Sr1, a1, a2, a3, a4, a5⟩ := byte_step hT (x := x) (s := 24) (by omega) (by omega) h
  obtain ⟨Sc2, Sr2, b1, b2, b3, b4, b5⟩ := byte_step hT (x := x) (s := 16) (by omega) (by omega) a3
  obtain ⟨Sc3, Sr3, c1, c2, c3, c4, c5⟩ := byte_step hT (x := x) (s := 8) (by omega) (by omega) b3
  obtain ⟨Sc4, Sr4, d1, d2, d3, d4, d5⟩ := byte_step hT (x := x) (s := 0) (by omega) (by omega) c3
  refine ⟨Sc4, Sr4, ?_, ?_, d3, tpC_tr a4 (tpC_tr b4 (tpC_tr c4 d4)), tpS_tr a5 (tpS_tr b5 (tpS_tr c5 d5))⟩
  · unfold fX11_putBytes
    have e : lp (fun a => fX11_putBytes_l3 T 0 x a.1 a.2) (24, Sc) = some Sc4 := lp_go (a' := (16, Sc1)) a1 (lp_go (a' := (8, Sc2)) b1 (lp_go (a' := (0, Sc3)) c1 (lp_go (a' := (-8, Sc4)) d1 (lp_stop (by
      show fX11_putBytes_l3 T 0 x (-8) Sc4 = _
      unfold fX11_putBytes_l3
      exact if_pos (by decide))))))
    rw [e, b1_q]
  · unfold fX12_put
    have e : lp (fun a => fX12_put_l3 T 187 x a.1 a.2) (24, Sr) = some Sr4 := lp_go (a' := (16, Sr1)) a2 (lp_go (a' := (8, Sr2)) b2 (lp_go (a' := (0, Sr3)) c2 (lp_go (a' := (-8, Sr4)) d2 (lp_stop (by
      show fX12_put_l3 T 187 x (-8) Sr4 = _
      unfold fX12_put_l3
      exact if_pos (by decide))))))
    rw [e, b1_q]
/-- all but the tape, kept -/
theorem inv_tape {n : Nat} {S S' : zS} (hn : n ≤ 400) (e : ∀ a b, a ≠ 1 → ¬ (a = 0 ∧ b = 1) → a ≠ 188 → ¬ (a = 187 ∧ b = 1) → S'.1 a b = S.1 a b) (ht : tpR n S' S') (h : inv S) : inv S' := by
  obtain ⟨h1, ⟨r, r1, r2, r3, r4⟩, h3, B, A, ⟨b1, b2, b3, b4, b5, b6⟩, h5⟩ := h
  refine ⟨⟨n, hn, ht⟩, ⟨r, r1, ?_, ?_, fun q hq => ?_⟩, fun k hk => ?_, B, A, ⟨b1, b2, bkC_cg (fun a b _ _ => e a b (by omega) (by omega) (by omega) (by omega)) b3, bkR_cg (fun a b hab => by have := rN_big hab; exact e a b (by omega) (by omega) (by omega) (by omega)) b4, rwC_cg (fun a b _ _ => e a b (by omega) (by omega) (by omega) (by omega)) b5, rwR_cg b2.1 (e _ _ (by omega) (by omega) (by omega) (by omega)) (fun a b _ _ _ => e a b (by omega) (by omega) (by omega) (by omega)) b6⟩, ?_⟩
  · rw [e _ _ (by omega) (by omega) (by omega) (by omega)]; exact r2
  · rw [e _ _ (by omega) (by omega) (by omega) (by omega)]; exact r3
  · obtain ⟨L, l1, l2, l3⟩ := r4 q hq
    exact ⟨L, l1, ruC_cg (fun a b _ _ => e a b (by omega) (by omega) (by omega) (by omega)) l2, ruR_cg (by have := l1.1; omega) (fun a b _ _ _ _ _ => e a b (by omega) (by omega) (by omega) (by omega)) l3⟩
  · obtain ⟨i1, i2⟩ := h3 k hk
    rw [e 162 k (by omega) (by omega) (by omega) (by omega), e 228 k (by omega) (by omega) (by omega) (by omega)]
    refine ⟨i1, i2.imp id ?_⟩
    rintro ⟨i3, B', A', a1, a2, a3, a4, a5, a6⟩
    rw [imR_eq (S := S) (S' := S') (k := k) (fun b => e 227 b (by omega) (by omega) (by omega) (by omega))]
    exact ⟨i3, B', A', a1, a2, bkC_cg (fun a b _ _ => e a b (by omega) (by omega) (by omega) (by omega)) a3, a4, rwC_cg (fun a b _ _ => e a b (by omega) (by omega) (by omega) (by omega)) a5, a6⟩
  · have e1 : ∀ a b, 177 ≤ a → a ≤ 180 → S'.1 a b = S.1 a b := fun a b _ _ => e a b (by omega) (by omega) (by omega) (by omega)
    have e6 : ∀ b, S'.1 176 b = S.1 176 b := fun b => e 176 b (by omega) (by omega) (by omega) (by omega)
    have e7 : ∀ b, S'.1 177 b = S.1 177 b := fun b => e1 177 b (by omega) (by omega)
    have e8 : ∀ b, S'.1 178 b = S.1 178 b := fun b => e1 178 b (by omega) (by omega)
    have e9 : ∀ b, S'.1 179 b = S.1 179 b := fun b => e1 179 b (by omega) (by omega)
    have e10 : ∀ b, S'.1 180 b = S.1 180 b := fun b => e1 180 b (by omega) (by omega)
    unfold invP plOK at h5 ⊢
    simp only [e6, e7, e8, e9, e10, e 22 2 (by omega) (by omega) (by omega) (by omega)]
    exact h5
theorem ok0 : oK0 invTS := by
  rintro T S ⟨hT, hi⟩ x1 x2 x3 x4 x5
  obtain ⟨n, hn, h1, h2, h3⟩ := hi.1
  unfold fX11_feed fX12_feed
  rw [h1]
  by_cases q : nI n + 20 ≤ 400
  · rw [if_pos q]
    rw [n_addL, n_leR (by omega) (by omega)] at q
    obtain ⟨a, f1, f2⟩ := det (oc := (zb (fX11_putBytes T 0 x1 S) fun _ S4 => zb (fX11_putBytes T 0 x2 S4) fun _ S7 => zb (fX11_putBytes T 0 x3 S7) fun _ S10 => zb (fX11_putBytes T 0 x4 S10) fun _ S13 => zb (fX11_putBytes T 0 x5 S13) fun _ S16 => some ((S16.1 0 1), S16))) (P := fun Sr : zS => Sr.1 187 1 = nI n ∧ ∀ i, Sr.1 188 i = S.1 188 i) (g := fun Sr => (zb (fX12_put T 187 x1 Sr) fun _ S4 => zb (fX12_put T 187 x2 S4) fun _ S7 => zb (fX12_put T 187 x3 S7) fun _ S10 => zb (fX12_put T 187 x4 S10) fun _ S13 => zb (fX12_put T 187 x5 S13) fun _ S16 => some ((S16.1 187 1), S16))) (Q := fun Sr a b => a.1 = b.1 ∧ tpR (n + 20) a.2 b.2 ∧ tpC S a.2 ∧ tpS Sr b.2) (fun Sr hSr => by
      obtain ⟨C1, R1, a1, a2, a3, a4, a5⟩ := put_step hT (x := x1) (by omega) (show tpR n S Sr from ⟨h1, hSr.1, fun i hi => by rw [hSr.2]; exact h3 i hi⟩)
      obtain ⟨C2, R2, b1, b2, b3, b4, b5⟩ := put_step hT (x := x2) (by omega) a3
      obtain ⟨C3, R3, c1, c2, c3, c4, c5⟩ := put_step hT (x := x3) (by omega) b3
      obtain ⟨C4, R4, d1, d2, d3, d4, d5⟩ := put_step hT (x := x4) (by omega) c3
      obtain ⟨C5, R5, e1, e2, e3, e4, e5⟩ := put_step hT (x := x5) (by omega) d3
      refine ⟨(C5.1 0 1, C5), (R5.1 187 1, R5), ?_, ?_, e3.1.trans e3.2.1.symm, e3, tpC_tr a4 (tpC_tr b4 (tpC_tr c4 (tpC_tr d4 e4))), tpS_tr a5 (tpS_tr b5 (tpS_tr c5 (tpS_tr d5 e5)))⟩
      · rw [a1, b_q, b1, b_q, c1, b_q, d1, b_q, e1, b_q]
      · show (zb (fX12_put T 187 x1 Sr) fun _ S4 => _) = _
        rw [a2, b_q, b2, b_q, c2, b_q, d2, b_q, e2, b_q]) (c0 := S) ⟨h2, fun _ => rfl⟩
    obtain ⟨b, g1, g2, g3, g4, g5⟩ := f2 S ⟨h2, fun _ => rfl⟩
    obtain ⟨b', k1, k2, k3, k4, k5⟩ := f2 a.2 ⟨by rw [g4.2 _ _ (by omega) (by omega)]; exact h2, fun i => g4.2 _ _ (by omega) (by omega)⟩
    rw [f1]
    refine ⟨a.1, a.2, b'.2, rfl, ?_, hT, inv_tape (n := n + 20) (by omega) (fun a b n1 n2 n3 n4 => (k5.2 a b n3 n4).trans (g4.2 a b n1 n2)) ⟨?_, k3.2.1, fun i hi => ?_⟩ hi⟩
    · rw [g4.2 _ _ (by omega) (by omega), h2, if_pos (by rw [n_addL, n_leR (by omega) (by omega)]; exact q)]
      have k1' : (zb (fX12_put T 187 x1 a.2) fun _ S4 => zb (fX12_put T 187 x2 S4) fun _ S7 => zb (fX12_put T 187 x3 S7) fun _ S10 => zb (fX12_put T 187 x4 S10) fun _ S13 => zb (fX12_put T 187 x5 S13) fun _ S16 => some ((S16.1 187 1), S16)) = some b' := k1
      rw [k1', k2]
    · rw [k5.2 _ _ (by omega) (by omega)]; exact k3.1
    · rw [k5.2 1 _ (by omega) (by omega)]; exact k3.2.2 i hi
  · rw [if_neg q]
    exact ⟨_, _, _, rfl, by rw [h2, if_neg q], hT, hi⟩
theorem ok1 : oK1 invTS := by
  rintro T S ⟨hT, hi⟩ x1
  obtain ⟨n, hn, h1, h2, h3⟩ := id hi.1
  unfold fX11_end fX12_end fX11_end_b12 fX12_end_b12
  rw [h1]
  by_cases q0 : x1 < 0
  · rw [if_pos q0]
    exact ⟨_, _, _, rfl, by rw [if_pos q0], hT, hi⟩
  · rw [if_neg q0]
    by_cases q1 : x1 ≤ nI n
    · rw [if_pos q1, let_q]
      have a0 : 0 ≤ x1.toInt := z_le.mp (z_nlt q0)
      have hx : x1 = nI x1.toNatClampNeg := (nI_n a0).symm
      have a1 := z_le.mp q1
      rw [nI_toInt (by omega)] at a1
      have a2 := z_tn a0
      refine ⟨x1, zI S 0 1 x1, zI (zI S 0 1 x1) 187 1 x1, rfl, ?_, hT, inv_tape (n := x1.toNatClampNeg) (by omega) (fun a b n1 n2 n3 n4 => by rw [zI_o (by omega), zI_o (by omega)]) ⟨?_, ?_, fun i hi => ?_⟩ hi⟩
      · rw [if_neg q0, zI_ne (by decide), h2, if_pos q1, let_q]
      · rw [zI_ne (by decide), zI_eqs]; exact hx
      · rw [zI_eqs]; exact hx
      · simp (decide := true) only [zI_ne]
        exact h3 i (by omega)
    · rw [if_neg q1]
      exact ⟨_, _, _, rfl, by rw [if_neg q0, h2, if_neg q1], hT, hi⟩
