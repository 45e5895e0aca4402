/-! A RULE: the whole call -/
theorem byte_all : ∀ k : Nat, k < 256 → ((Int32.ofInt ((k : Int) - 128)) &&& 255) = nI (((Int32.ofInt ((k : Int) - 128)) &&& 255).toNatClampNeg) ∧ ((Int32.ofInt ((k : Int) - 128)) &&& 255).toNatClampNeg ≤ 255 ∧ (k : Int) - 128 = if ((Int32.ofInt ((k : Int) - 128)) &&& 255).toNatClampNeg < 128 then ((((Int32.ofInt ((k : Int) - 128)) &&& 255).toNatClampNeg : Nat) : Int) else ((((Int32.ofInt ((k : Int) - 128)) &&& 255).toNatClampNeg : Nat) : Int) - 256 := by decide +kernel
theorem byte_u {x : Int32} (h : btw x (-128) 127) : x &&& 255 = nI (x &&& 255).toNatClampNeg ∧ (x &&& 255).toNatClampNeg ≤ 255 ∧ x.toInt = if (x &&& 255).toNatClampNeg < 128 then (((x &&& 255).toNatClampNeg : Nat) : Int) else (((x &&& 255).toNatClampNeg : Nat) : Int) - 256 := by
  obtain ⟨h1, h2⟩ := h
  have e : (((x.toInt + 128).toNat : Nat) : Int) - 128 = x.toInt := by omega
  have := byte_all (x.toInt + 128).toNat (by omega)
  rw [e, Int32.ofInt_toInt] at this
  exact this
/-- the bytes taped, as both sides see them -/
theorem inv_txt {S : zS} (h : invT S) : ∃ n u, S.1 0 1 = nI n ∧ txC u n S ∧ txR u n S := by
  obtain ⟨n, hn, h1, h2, h3⟩ := h
  refine ⟨n, fun i => (S.1 1 i).toNatClampNeg, h1, ⟨hn, fun i hi => ?_⟩, hn, h2, fun i hi => ?_⟩
  · obtain ⟨a, b⟩ := h3 i hi
    have := byte_u a
    show S.1 1 i = nI (S.1 1 i).toNatClampNeg ∧ (S.1 1 i).toNatClampNeg ≤ 255
    rw [b]
    exact ⟨this.1, this.2.1⟩
  · obtain ⟨a, b⟩ := h3 i hi
    have := byte_u a
    show (S.1 188 i).toInt = (if (S.1 1 i).toNatClampNeg < 128 then (((S.1 1 i).toNatClampNeg : Nat) : Int) else (((S.1 1 i).toNatClampNeg : Nat) : Int) - 256) ∧ S.1 188 i &&& 255 = nI (S.1 1 i).toNatClampNeg ∧ (S.1 1 i).toNatClampNeg ≤ 255
    rw [b]
    exact ⟨this.2.2, this.1, this.2.1⟩
/-- new text and rules, all else as it was -/
theorem inv_new {S S' : zS} (e : ∀ a b, (7 ≤ a ∧ a ≤ 23 ∨ 41 ≤ a ∧ a ≤ 44 ∨ 78 ≤ a ∧ a ≤ 162 ∨ a = 187 ∧ b = 36 ∨ b < rN a ∨ 213 ≤ a ∧ a ≤ 215 ∨ a = 227 ∨ a = 228 ∨ a = 176 ∧ 2 ≤ b ∨ 177 ≤ a ∧ a ≤ 180) → S'.1 a b = S.1 a b) (hT : invT S') (hR : invR S') (h : inv S) : inv S' := by
  obtain ⟨-, -, h3, B, A, ⟨b1, b2, b3, b4, b5, b6⟩, h5⟩ := h
  refine ⟨hT, hR, fun k hk => ?_, B, A, ⟨b1, b2, bkC_cg (fun a b _ _ => e a b (by omega)) b3, bkR_cg (fun a b hab => e a b (by omega)) b4, rwC_cg (fun a b _ _ => e a b (by omega)) b5, rwR_cg b2.1 (e _ _ (by omega)) (fun a b _ _ _ => e a b (by omega)) b6⟩, ?_⟩
  · obtain ⟨i1, i2⟩ := h3 k hk
    rw [e 162 k (by omega), e 228 k (by omega)]
    refine ⟨i1, i2.imp id ?_⟩
    rintro ⟨i3, B', A', a1, a2, a3, a4, a5, a6⟩
    rw [imR_eq (S := S) (S' := S') (k := k) (fun b => e 227 b (by omega))]
    exact ⟨i3, B', A', a1, a2, bkC_cg (fun a b _ _ => e a b (by omega)) a3, a4, rwC_cg (fun a b _ _ => e a b (by omega)) a5, a6⟩
  · have e1 : ∀ a b, 177 ≤ a → a ≤ 180 → S'.1 a b = S.1 a b := fun a b _ _ => e a b (by omega)
    have e7 : ∀ b, S'.1 177 b = S.1 177 b := fun b => e1 177 b (by omega) (by omega)
    have e8 : ∀ b, S'.1 178 b = S.1 178 b := fun b => e1 178 b (by omega) (by omega)
    have e9 : ∀ b, S'.1 179 b = S.1 179 b := fun b => e1 179 b (by omega) (by omega)
    have e10 : ∀ b, S'.1 180 b = S.1 180 b := fun b => e1 180 b (by omega) (by omega)
    unfold invP plOK at h5 ⊢
    simp only [e7, e8, e9, e10, e 176 2 (by omega), e 176 3 (by omega), e 176 4 (by omega), e 176 5 (by omega), e 176 6 (by omega), e 22 2 (by omega)]
    exact h5
/-- the class opens its reader -/
def oO (S S' : zS) : Prop := S'.2 = S.2 ∧ ∀ a b, ¬ (2 ≤ a ∧ a ≤ 6) → S'.1 a b = S.1 a b
theorem c_open {T : zT} (hT : iT T) {u : Nat → Nat} {n : Nat} {w : Nat → Bool} (hw : w = wB ∨ w = wR) {S : zS} (ht : txC u n S) {kc : Nat} : ∃ S' m, fX6_open T 2 1 400 (nI n) kc (if w 22 = true then 1 else 0) S = some ((), S') ∧ oO S S' ∧ (m ≤ n ∧ pl u n m = n ∧ ∀ i, i < m → pl u n i < n) ∧ tkC (tkX u n w) m S' ∧ rdC (tkX u n w) S' 0 ∧ S'.1 2 5 = 0 ∧ S'.1 2 6 = nI 0 ∧ S'.1 2 7 = 0 := by
  obtain ⟨S1, m, e1, o1, f1, hm, h1⟩ := c_split hT ht
  obtain ⟨a1, a2, a3⟩ := h1 0 (Nat.zero_le _)
  unfold fX6_open
  rw [zT_2_0 hT, e1, b_q, let_q]
  unfold fX6_next
  rw [if_pos (show (zI S1 2 1 (-1)).1 2 1 = -1 by rw [zI_eqs])]
  unfold fX6_next_b27 fX6_next_b85
  rw [zI_eqs, show (-1 : Int32) + 1 = nI 0 from rfl, let_q]
  simp only [zT_2_0 hT, zT_3_0 hT, zT_3_1 hT, zT_3_2 hT, zI_eqs, zI_eqn (show (1 : Nat) ≠ 2 by decide), zI_eqn (show (1 : Nat) ≠ 3 by decide), zI_eqn (show (1 : Nat) ≠ 4 by decide), g_in (show 0 < 401 by omega) (show 401 < 2147483648 by decide), let_q, tn_nI (show 0 < 2147483648 by omega), zI_ne (show (4 : Nat) ≠ 2 by decide), zI_ne (show (5 : Nat) ≠ 2 by decide), zI_ne (show (6 : Nat) ≠ 2 by decide), a1, a2, a3, b_q]
  rw [g_t (show zbl (if w 22 = true then (1 : Int32) else 0) = true from zbl_iff.mpr (by by_cases y : w 22 = true <;> simp [y]))]
  refine ⟨_, m, rfl, ⟨o1, fun a b q => ?_⟩, hm, ⟨fun i hi => ?_, ?_⟩, ⟨?_, ?_, ?_, ?_⟩, ?_, ?_, ?_⟩
  · simp (disch := omega) only [zI_ne]
    exact f1 a b (by omega) (by omega) (by omega) (by omega)
  · simp (disch := omega) only [zI_ne]
    exact h1 i hi
  · rw [zI_eqs]; rfl
  · simp (disch := decide) only [zI_eqn, zI_eqs]
  · simp (disch := decide) only [zI_eqn, zI_eqs]; rfl
  · simp (disch := decide) only [zI_eqn, zI_eqs]; rfl
  · simp (disch := decide) only [zI_eqn, zI_eqs]; rfl
  · simp (disch := decide) only [zI_eqn, zI_eqs]
  · simp (disch := decide) only [zI_eqn, zI_eqs]; rfl
  · simp (disch := decide) only [zI_eqn, zI_eqs]
/-- the reference opens its own -/
def rI (R : zS) (w : Int32) : zS := zI (zI (zI (zI (zI (zI R 187 2 0) 187 3 0) 187 6 0) 187 7 0) 187 8 0) 187 10 w
theorem rI_at {R : zS} {w : Int32} {a b : Nat} (h : ¬ (a = 187 ∧ (b = 2 ∨ b = 3 ∨ 6 ≤ b ∧ b ≤ 10))) : (rI R w).1 a b = R.1 a b := by
  unfold rI
  rw [zI_o (by omega), zI_o (by omega), zI_o (by omega), zI_o (by omega), zI_o (by omega), zI_o (by omega)]
theorem rI_st {u : Nat → Nat} {n s m : Nat} {R : zS} (ht : txR u n R) (h4 : R.1 187 4 = nI s) (hs7 : s ≤ 7) : stR u n s m (rI R (nI (nWS s))) 0 0 0 ∧ (rI R (nI (nWS s))).1 187 7 = nI 0 := by
  refine ⟨⟨⟨txR_o ht (rI_at (by omega)) (fun i => rI_at (by omega)), by rw [rI_at (by omega)]; exact h4, hs7, ?_⟩, Nat.zero_le _, ⟨0, Nat.zero_le _, ?_, rfl⟩, ?_, ?_, ?_⟩, ?_⟩
  · unfold rI; rw [zI_eqs]
  · unfold rI; simp (disch := decide) only [zI_eqn, zI_eqs]; rfl
  · unfold rI; simp (disch := decide) only [zI_eqn, zI_eqs]
  · unfold rI; simp (disch := decide) only [zI_eqn, zI_eqs]; rfl
  · unfold rI; simp (disch := decide) only [zI_eqn, zI_eqs]; rfl
  · unfold rI; simp (disch := decide) only [zI_eqn, zI_eqs]; rfl
theorem flt_pos {f : Nat × Nat} (h : okF f) : ¬ flt f ≤ 0 := by
  obtain ⟨h1, h2⟩ := h
  unfold flt
  rw [show (0 : Int32) = nI 0 from rfl, n_le (by omega) (by decide)]
  omega
theorem ruX_R {S : zS} {s e : Nat} {L : List Rc} (h : ruX S s e L) (he : e ≤ 300) (h1 : S.1 191 s = nI L.length) : ruR S s L := by
  refine ⟨h1, fun i c hc => ?_⟩
  obtain ⟨a1, a2, a3⟩ := h i c hc
  refine ⟨a1, a2, fun q => ?_⟩
  obtain ⟨a, b1, b2, b3, b4, b5⟩ := a3 q
  exact ⟨a, b1, b2, b3, by omega, b5⟩
theorem r_readsR {T : zT} (hT : iT T) {R : zS} {s : Nat} (h4 : R.1 187 4 = nI s) (hs2 : 2 ≤ s) (hs7 : s ≤ 7) {x : Int32} {R' : zS} (hl : lp (fun a : Int32 × Int32 × zS => fX12_reads_l47 T 187 a.1 a.2.1 a.2.2) (0, 1, rI R 9) = some (x, R')) (h4' : R'.1 187 4 = nI s) : fX12_reads T 187 R = some (R'.1 187 3, zI (zI R' 187 1 0) 191 s x) := by
  unfold fX12_reads
  simp only [let_q]
  rw [if_neg (show ¬ (zI (zI (zI (zI (zI R 187 2 0) 187 3 0) 187 6 0) 187 7 0) 187 8 0).1 187 4 ≤ 1 by simp (disch := decide) only [zI_eqn, h4]; rw [show (1 : Int32) = nI 1 from rfl, n_le (by omega) (by omega)]; omega)]
  unfold fX12_reads_b40
  rw [let_q]
  have hl' : lp (fun a : Int32 × Int32 × zS => fX12_reads_l47 T 187 a.1 a.2.1 a.2.2) (0, 1, zI (zI (zI (zI (zI (zI R 187 2 0) 187 3 0) 187 6 0) 187 7 0) 187 8 0) 187 10 9) = some (x, R') := hl
  rw [hl', b1_q]
  show (zlet (zI R' 187 1 0) fun S32 => zgd (zin (S32.1 187 4) 8) (zlet (zI S32 (zr T 187 14) ((S32.1 187 4) : Int32).toNatClampNeg x) fun S34 => some ((S34.1 187 3), S34))) = _
  rw [let_q, zI_eqn (show (4 : Nat) ≠ 1 by decide), h4', g_in (by omega) (by decide), tn_nI (by omega), zT_187_14 hT, let_q, zI_ne (by decide), zI_eqn (by decide)]
theorem rN_in {a b : Nat} (h : b < rN a) : (a = 189 ∨ a = 190) ∧ b < 300 ∨ 192 ≤ a ∧ a ≤ 197 ∧ b < 24 ∨ 199 ≤ a ∧ a ≤ 205 ∨ a = 191 ∧ b < 1 ∨ 206 ≤ a ∧ a ≤ 210 := by
  unfold rN at h
  split at h
  · omega
  · split at h
    · omega
    · split at h
      · omega
      · split at h
        · omega
        · omega
theorem q_sep {a b r : Nat} (hr : r ≤ 5) (q : 7 ≤ a ∧ a ≤ 23 ∨ 41 ≤ a ∧ a ≤ 44 ∨ 78 ≤ a ∧ a ≤ 162 ∨ a = 187 ∧ b = 36 ∨ ((a = 189 ∨ a = 190) ∧ b < 300 ∨ 192 ≤ a ∧ a ≤ 197 ∧ b < 24 ∨ 199 ≤ a ∧ a ≤ 205 ∨ a = 191 ∧ b < 1 ∨ 206 ≤ a ∧ a ≤ 210) ∨ 213 ≤ a ∧ a ≤ 215 ∨ a = 227 ∨ a = 228 ∨ a = 176 ∧ 2 ≤ b ∨ 177 ≤ a ∧ a ≤ 180) : (¬ (a = 187 ∧ 1 ≤ b ∧ b ≤ 10) ∧ ¬ ((a = 189 ∨ a = 190) ∧ 300 * (2 + r) ≤ b ∧ b < 300 * (2 + r) + 300) ∧ ¬ (192 ≤ a ∧ a ≤ 197 ∧ 24 * (2 + r) ≤ b ∧ b < 24 * (2 + r) + 24) ∧ a ≠ 198 ∧ ¬ (a = 191 ∧ b = 2 + r)) ∧ ¬ (2 ≤ a ∧ a ≤ 6) ∧ (a < 46 + 5 * r ∨ 46 + 5 * r + 4 < a) ∧ ¬ (a = 0 ∧ (b = 1 ∨ b = 7)) := by
  refine ⟨⟨?_, ?_, ?_, ?_, ?_⟩, ?_, ?_, ?_⟩ <;> omega
theorem ok3 : oK3 invTS := by
  rintro T S ⟨hT, hi⟩
  obtain ⟨n, u, h01, hC1, hR1⟩ := inv_txt hi.1
  obtain ⟨-, ⟨r, hr6, r1, r2, r3⟩, -, -⟩ := id hi
  have hn4 := hC1.1
  unfold fX11_rule fX12_rule fX11_ruleT
  rw [r1]
  by_cases hr : r = 6
  · subst hr
    rw [if_neg (show ¬ nI 6 < 6 by decide), if_neg (show ¬ nI 6 < 6 by decide)]
    exact ⟨-1, S, S, rfl, by rw [r2, if_pos (show nI 6 = 6 from rfl)], hT, hi⟩
  · have hlt : nI r < 6 := by rw [show (6 : Int32) = nI 6 from rfl, n_lt (by omega) (by omega)]; omega
    rw [if_pos hlt, if_pos hlt, g_in (by omega) (by decide), tn_nI (by omega), zT_0_2 hT, zT_0_0 hT, zT_0_6 hT]
    obtain ⟨ek, e0, e1, e4, e30⟩ := rul_T hT (q := r) (by omega)
    rw [ek, e4, h01]
    have hx : iX2 TT462 (46 + 5 * r + 3) := by
      have h := (zHx.2.2.2.2.2.2.1.2 r (by omega)).2.2.2
      rw [zT_0_6 (T := TT462) (Or.inl rfl)] at h
      obtain ⟨ek', -, -, e4', -⟩ := rul_T (T := TT462) (Or.inl rfl) (q := r) (by omega)
      rw [ek', e4'] at h
      exact h
    have hT' : iT (zQ T 2 9 (46 + 5 * r + 3)) := iT_q hT hx
    obtain ⟨-, d0, d1, -, d30⟩ := rul_T hT' (q := r) (by omega)
    have hC : cdT (zQ T 2 9 (46 + 5 * r + 3)) (46 + 5 * r + 3) := ⟨hT', zr_qs, d30, by omega⟩
    have hr5 : r ≤ 5 := by omega
    -- the class's start
    obtain ⟨Sa, ha, fa⟩ : ∃ Sa, fX8_clear T (46 + 5 * r) S = some ((), Sa) ∧ Sa = zI (zI (zI (zI S (46 + 5 * r) 2 0) (46 + 5 * r) 3 0) (46 + 5 * r + 3) 1 0) (46 + 5 * r + 3) 2 0 := by
      unfold fX8_clear fX2_clear
      rw [let_q, let_q, e4, let_q, let_q, b_q]
      exact ⟨_, rfl, rfl⟩
    have faa : ∀ a b, (a < 46 + 5 * r ∨ 46 + 5 * r + 4 < a) → Sa.1 a b = S.1 a b := fun a b q => by
      rw [fa, zI_ne (by omega), zI_ne (by omega), zI_ne (by omega), zI_ne (by omega)]
    have hCa : txC u n Sa := ⟨hC1.1, fun i hi => by rw [faa _ _ (by omega)]; exact hC1.2 i hi⟩
    obtain ⟨Sb, m, hb, ob, hm, tb, rb, b5, b6, b7⟩ := c_open hT (w := wR) (Or.inr rfl) hCa (kc := 46 + 5 * r + 3)
    have hb' : fX6_open T 2 1 400 (nI n) (46 + 5 * r + 3) 1 Sa = some ((), Sb) := hb
    have cb : ∀ a b, 46 + 5 * r ≤ a → Sb.1 a b = Sa.1 a b := fun a b q => ob.2 a b (by omega)
    have k2 : Sb.1 (46 + 5 * r) 2 = 0 := by rw [cb _ _ (by omega), fa, zI_ne (by omega), zI_ne (by omega), zI_eqn (by decide), zI_eqs]
    have k3 : Sb.1 (46 + 5 * r) 3 = 0 := by rw [cb _ _ (by omega), fa, zI_ne (by omega), zI_ne (by omega), zI_eqs]
    have k1 : Sb.1 (46 + 5 * r + 3) 1 = 0 := by rw [cb _ _ (by omega), fa, zI_eqn (by decide), zI_eqs]
    have c0 : cR (tkX u n wR) m (46 + 5 * r) Sb 0 0 0 [] := ⟨⟨tb, Nat.zero_le _, rb, b5, b6, by omega, k1⟩, Nat.le_refl _, by omega, ⟨k2, k3, (fun i c hc => by cases hc), fun c hc => by cases hc⟩, by
      unfold tldC
      rw [b7, m_0, m_0]
      exact ⟨rfl, by constructor <;> intro q <;> cases q⟩⟩
    have eread : ∀ R : zS, txR u n R → R.1 187 4 = nI (2 + r) → rR u n (2 + r) m (rI R 9) 0 0 0 [] := fun R hR h4 => by
      have := rI_st (m := m) hR h4 (by omega)
      have e9 : nI (nWS (2 + r)) = 9 := by unfold nWS; rw [if_neg (by omega)]; rfl
      rw [e9] at this
      exact ⟨this.1, this.2, (fun i c hc => by cases hc), by omega, by omega⟩
    have both := fun R hR h4 => rul_both hC d0 d1 (by omega) (show 2 ≤ 2 + r by omega) (show 2 + r ≤ 7 by omega) hn4 hm 13 [] Sb (rI R 9) 0 0 0 0 rfl c0 (eread R hR h4) ⟨Nat.zero_le _, fun c hc => by cases hc⟩
    obtain ⟨v, -, -, -, lv, -, fv, -⟩ := both (zI S 187 4 (nI (2 + r))) (txR_o hR1 (by rw [zI_eqn (by decide)]) (fun i => by rw [zI_ne (by decide)])) (by rw [zI_eqs])
    have fe : ∀ a b, ¬ (2 ≤ a ∧ a ≤ 6) → (a < 46 + 5 * r ∨ 46 + 5 * r + 4 < a) → (endS v).1 a b = S.1 a b := fun a b q1 q2 => by
      rw [fv.2 a b (by omega) q2, ob.2 a b q1, faa a b q2]
    have e07 : (endS v).1 0 7 = nI r := by rw [fe _ _ (by omega) (by omega)]; exact r1
    have lv0 : lp (fun a : Int32 × zS => fX6_readRule_l18 (zQ T 2 9 (46 + 5 * r + 3)) 2 (46 + 5 * r) a.1 a.2) (0, Sb) = some v := lv
    have erd : fX6_readRule T 2 1 400 (nI n) (46 + 5 * r) S = some ((endS v).1 2 5, endS v) := by
      unfold fX6_readRule
      rw [ha, b_q, e4, hb', b_q]
      unfold fX6_readRule_b15
      rw [lv0, b1_q]
      cases v <;> rfl
    -- the class's end
    obtain ⟨S1, rr, hS1, fS1⟩ : ∃ S1 rr, fX11_rule_b35 (zQ T 2 9 (46 + 5 * r + 3)) 0 ((endS v).1 2 5) (endS v) = some (rr, S1) ∧ ((endS v).1 2 5 = 0 ∧ rr = (nI r + 1) - 1 ∧ S1 = zI (zI (endS v) 0 1 0) 0 7 (nI r + 1) ∨ ¬ (endS v).1 2 5 = 0 ∧ rr = (-2) - (endS v).1 2 5 ∧ S1 = zI (endS v) 0 1 0) := by
      unfold fX11_rule_b35
      rw [let_q]
      by_cases z : (endS v).1 2 5 = 0
      · rw [if_pos z, zI_eqn (by decide), e07, let_q, zI_eqs]
        exact ⟨_, _, rfl, Or.inl ⟨z, rfl, rfl⟩⟩
      · rw [if_neg z]
        exact ⟨_, _, rfl, Or.inr ⟨z, rfl, rfl⟩⟩
    have f1e : ∀ a b, ¬ (a = 0 ∧ (b = 1 ∨ b = 7)) → S1.1 a b = (endS v).1 a b := fun a b q => by
      rcases fS1 with ⟨-, -, rfl⟩ | ⟨-, -, rfl⟩
      · rw [zI_o (by omega), zI_o (by omega)]
      · rw [zI_o (by omega)]
    have eC : ∀ a b, ¬ (2 ≤ a ∧ a ≤ 6) → (a < 46 + 5 * r ∨ 46 + 5 * r + 4 < a) → ¬ (a = 0 ∧ (b = 1 ∨ b = 7)) → S1.1 a b = S.1 a b := fun a b q1 q2 q3 => by rw [f1e a b q3, fe a b q1 q2]
    have h5 : S1.1 187 5 = nI r := by rw [eC _ _ (by omega) (by omega) (by omega)]; exact r2
    have hR2 : txR u n (zI S1 187 4 (nI (2 + r))) := txR_o hR1 (by rw [zI_eqn (by decide), eC _ _ (by omega) (by omega) (by omega)]) (fun i => by rw [zI_ne (by decide), eC _ _ (by omega) (by omega) (by omega)])
    obtain ⟨v', x, R', F, lv', lr, -, fr, u5, u6, u7⟩ := both (zI S1 187 4 (nI (2 + r))) hR2 (by rw [zI_eqs])
    have ev : v' = v := by rw [lv] at lv'; exact (Option.some.inj lv').symm
    subst ev
    have h4' : R'.1 187 4 = nI (2 + r) := by rw [fr.2 _ _ (by omega) (by omega) (by omega) (by omega), rI_at (by omega), zI_eqs]
    have h5' : R'.1 187 5 = nI r := by rw [fr.2 _ _ (by omega) (by omega) (by omega) (by omega), rI_at (by omega), zI_eqn (by decide)]; exact h5
    have er := r_readsR hT' (R := zI S1 187 4 (nI (2 + r))) (by rw [zI_eqs]) (by omega) (by omega) lr h4'
    have eR : ∀ (y : Int32) a b, ¬ (a = 187 ∧ 1 ≤ b ∧ b ≤ 10) → ¬ ((a = 189 ∨ a = 190) ∧ 300 * (2 + r) ≤ b ∧ b < 300 * (2 + r) + 300) → ¬ (192 ≤ a ∧ a ≤ 197 ∧ 24 * (2 + r) ≤ b ∧ b < 24 * (2 + r) + 24) → a ≠ 198 → ¬ (a = 191 ∧ b = 2 + r) → (zI (zI (zI R' 187 1 0) 191 (2 + r) x) 187 5 y).1 a b = S1.1 a b := fun y a b q1 q2 q3 q4 q5 => by
      rw [zI_o (by omega), zI_o q5, zI_o (by omega), fr.2 a b (by omega) q2 q3 q4, rI_at (by omega), zI_o (by omega)]
    have h5z : (zI (zI R' 187 1 0) 191 (2 + r) x).1 187 5 = nI r := by rw [zI_ne (by decide), zI_eqn (by decide)]; exact h5'
    -- what holds afterwards
    have fin : ∀ (y : Int32) (w : Nat), w ≤ 6 → y = nI w → S1.1 0 7 = nI w → (w = r ∨ w = r + 1 ∧ F = 0) → inv (zI (zI (zI R' 187 1 0) 191 (2 + r) x) 187 5 y) := by
      intro y w hw6 hy hw7 hw
      have h01' : S1.1 0 1 = 0 := by
        rcases fS1 with ⟨-, -, rfl⟩ | ⟨-, -, rfl⟩
        · rw [zI_eqn (by decide), zI_eqs]
        · rw [zI_eqs]
      refine inv_new (S := S) (fun a b q => ?_) ⟨0, by omega, ?_, ?_, fun i hi => absurd hi (Nat.not_lt_zero _)⟩ ⟨w, hw6, ?_, ?_, fun q hq => ?_⟩ hi
      · have q' : 7 ≤ a ∧ a ≤ 23 ∨ 41 ≤ a ∧ a ≤ 44 ∨ 78 ≤ a ∧ a ≤ 162 ∨ a = 187 ∧ b = 36 ∨ ((a = 189 ∨ a = 190) ∧ b < 300 ∨ 192 ≤ a ∧ a ≤ 197 ∧ b < 24 ∨ 199 ≤ a ∧ a ≤ 205 ∨ a = 191 ∧ b < 1 ∨ 206 ≤ a ∧ a ≤ 210) ∨ 213 ≤ a ∧ a ≤ 215 ∨ a = 227 ∨ a = 228 ∨ a = 176 ∧ 2 ≤ b ∨ 177 ≤ a ∧ a ≤ 180 := by
          rcases q with q | q | q | q | q | q
          · exact Or.inl q
          · exact Or.inr (Or.inl q)
          · exact Or.inr (Or.inr (Or.inl q))
          · exact Or.inr (Or.inr (Or.inr (Or.inl q)))
          · exact Or.inr (Or.inr (Or.inr (Or.inr (Or.inl (rN_in q)))))
          · exact Or.inr (Or.inr (Or.inr (Or.inr (Or.inr q))))
        obtain ⟨⟨p1, p2, p3, p4, p5⟩, p6, p7, p8⟩ := q_sep hr5 q'
        rw [eR y a b p1 p2 p3 p4 p5, eC a b p6 p7 p8]
      · rw [eR y _ _ (by omega) (by omega) (by omega) (by omega) (by omega)]; exact h01'
      · rw [zI_eqn (by decide), zI_ne (by decide), zI_eqs]; rfl
      · rw [eR y _ _ (by omega) (by omega) (by omega) (by omega) (by omega)]; exact hw7
      · rw [zI_eqs]; exact hy
      · by_cases z : q < r
        · obtain ⟨L, l1, l2, l3⟩ := r3 q z
          refine ⟨L, l1, ruC_cg (fun a b q1 q2 => ?_) l2, ruR_cg (by have := l1.1; omega) (fun a b q1 q2 q3 q4 q5 => ?_) l3⟩
          · rw [eR y a b (by omega) (by omega) (by omega) (by omega) (by omega), eC a b (by omega) (by omega) (by omega)]
          · have q6 : ¬ ((a = 189 ∨ a = 190) ∧ 300 * (2 + r) ≤ b ∧ b < 300 * (2 + r) + 300) := fun z6 => by have := q3 (by omega); omega
            have q7 : ¬ (192 ≤ a ∧ a ≤ 197 ∧ 24 * (2 + r) ≤ b ∧ b < 24 * (2 + r) + 24) := fun z6 => by have := q5 z6.1; omega
            have q8 : ¬ (a = 191 ∧ b = 2 + r) := fun z6 => by have := q4 z6.1; omega
            by_cases z9 : a = 198
            · omega
            · rw [eR y a b (by omega) q6 q7 z9 q8, eC a b (by omega) (by omega) (by omega)]
        · have hqr : q = r := by omega
          have hF : F = 0 := by rcases hw with hw | hw; omega; exact hw.2
          rw [hqr]
          rcases u7 with ⟨-, L', l1, l2, ⟨e', he', l3⟩, l4⟩ | ⟨f, hf, hF'⟩
          · refine ⟨L', l1, ruC_cg (fun a b q1 q2 => ?_) l2, ruX_R (ruX_cg l3 (fun a b q1 q2 _ _ => ?_) (fun a b q1 _ => ?_) (Nat.le_refl _)) he' ?_⟩
            · rw [eR y a b (by omega) (by omega) (by omega) (by omega) (by omega), f1e a b (by omega)]
            · rw [zI_ne (by omega), zI_ne (by omega), zI_ne (by omega)]
            · rw [zI_ne (by omega), zI_ne (by omega), zI_ne (by omega)]
            · rw [zI_ne (by omega), zI_eqs]; exact l4
          · exact absurd (hF'.symm.trans hF) (flt_ok hf)
    refine ⟨rr, S1, if F = 0 then zI (zI (zI R' 187 1 0) 191 (2 + r) x) 187 5 (nI r + 1) else zI (zI (zI R' 187 1 0) 191 (2 + r) x) 187 5 (nI r + 0), ?_, ?_, ?_⟩
    · rw [erd, b_q]; exact hS1
    · rw [h5, if_neg (show ¬ nI r = 6 by rw [show (6 : Int32) = nI 6 from rfl, n_eq (by omega) (by omega)]; exact hr), show (2 : Int32) + nI r = nI (2 + r) from by rw [show (2 : Int32) = nI 2 from rfl, n_add], let_q, er, b_q, u6]
      unfold fX12_rule_b40 fX12_rule_b61
      rw [h5z]
      rcases fS1 with ⟨z, zr, zs⟩ | ⟨z, zr, zs⟩
      · rw [u5] at z
        rw [if_pos z, if_pos z, let_q, zI_eqs, z, if_pos (show (0 : Int32) ≤ 0 by decide), zr]
      · rw [u5] at z zr
        rcases u7 with ⟨z0, -⟩ | ⟨f, hf, hF'⟩
        · exact absurd z0 z
        · rw [if_neg z, if_neg z, let_q, zI_eqs, if_neg (show ¬ F ≤ 0 by rw [hF']; exact flt_pos hf), zr]
    · refine ⟨hT', ?_⟩
      rcases fS1 with ⟨z, zr, zs⟩ | ⟨z, zr, zs⟩
      · rw [u5] at z
        rw [if_pos z]
        exact fin _ (r + 1) (by omega) (by rw [n_addL]) (by rw [zs, zI_eqs, n_addL]) (Or.inr ⟨rfl, z⟩)
      · rw [u5] at z
        rw [if_neg z]
        exact fin _ r (by omega) (by rw [n_addL]; rfl) (by rw [zs, zI_eqn (by decide)]; exact e07) (Or.inl rfl)
