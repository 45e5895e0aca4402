/-! a symbolic run by simp: numbers as nI n -/
theorem lit (n : Nat) : (OfNat.ofNat n : Int32) = nI n := rfl
theorem n_add (a b : Nat) : nI a + nI b = nI (a + b) := (Int32.ofNat_add a b).symm
theorem n_mul (a b : Nat) : nI a * nI b = nI (a * b) := (Int32.ofNat_mul a b).symm
theorem n_sub {a b : Nat} (h : b ≤ a) : nI a - nI b = nI (a - b) := by
  have e : nI a = nI (a - b) + nI b := by rw [n_add]; congr 1; omega
  rw [e]
  exact Int32.add_sub_cancel _ _
theorem n_dec {a : Nat} (h : 1 ≤ a) : nI a + -nI 1 = nI (a - 1) := by
  rw [← n_sub h]
  exact (Int32.sub_eq_add_neg _ _).symm
theorem n_le {a b : Nat} (ha : a < 2147483648) (hb : b < 2147483648) : (nI a ≤ nI b) = (a ≤ b) := by
  rw [z_le, nI_toInt ha, nI_toInt hb]
  exact propext ⟨fun h => by omega, fun h => by omega⟩
theorem n_lt {a b : Nat} (ha : a < 2147483648) (hb : b < 2147483648) : (nI a < nI b) = (a < b) := by
  rw [z_lt, nI_toInt ha, nI_toInt hb]
  exact propext ⟨fun h => by omega, fun h => by omega⟩
theorem n_eq {a b : Nat} (ha : a < 2147483648) (hb : b < 2147483648) : (nI a = nI b) = (a = b) := by
  rw [z_eq, nI_toInt ha, nI_toInt hb]
  exact propext ⟨fun h => by omega, fun h => by omega⟩
theorem n_zin {i n : Nat} (h : i < n) (hn : n < 2147483648) : zin (nI i) n = true := by
  rw [zin_iff, nI_toInt (by omega)]
  omega
theorem g_in {β : Type _} {i n : Nat} {k : Option β} (h : i < n) (hn : n < 2147483648) : zgd (zin (nI i) n) k = k := if_pos (n_zin h hn)
theorem g_t {β : Type _} {c : Bool} {k : Option β} (h : c = true) : zgd c k = k := if_pos h
theorem b1_s {α : Type _} {β : Type _} {a : α} {k : α → Option β} : zb1 (some a) k = k a := rfl
theorem b_s {α : Type _} {β : Type _} {a : α} {S : zS} {k : α → zS → Option β} : zb (some (a, S)) k = k a S := rfl
theorem let_s {α : Sort _} {β : Sort _} {e : α} {k : α → β} : zlet e k = k e := rfl
/-! the class's codes: signs packed into steps -/
def enc (p : Nat × Nat) : Int32 := (nI p.1 <<< (17 &&& 31)) ||| (nI p.2 &&& 131071)
theorem e17 : ((17 : Int32) &&& 31).toBitVec.smod 32 = 17#32 := by decide
theorem zm_big {n t : Nat} (h : n < 2 ^ t) : zm (nI n) t = false := by
  unfold zm nI
  show (BitVec.ofNat 32 n).getLsbD t = _
  rw [BitVec.getLsbD_ofNat, Nat.testBit_lt_two_pow h, Bool.and_false]
theorem enc_m {p : Nat × Nat} {t : Nat} (h : t < 32) : zm (enc p) t = (if t < 17 then zm (nI p.2) t else zm (nI p.1) (t - 17)) := by
  unfold enc
  rw [m_or, m_and]
  have e1 : zm (nI p.1 <<< (17 &&& 31)) t = (if t < 17 then false else zm (nI p.1) (t - 17)) := by
    unfold zm
    rw [Int32.toBitVec_shiftLeft, e17]
    show ((nI p.1).toBitVec <<< (17#32).toNat).getLsbD t = _
    rw [BitVec.getLsbD_shiftLeft, decide_eq_true h, Bool.true_and]
    show (!decide (t < 17) && _) = _
    by_cases h7 : t < 17
    · rw [decide_eq_true h7, if_pos h7]; rfl
    · rw [decide_eq_false h7, if_neg h7]; rfl
  have e2 : zm 131071 t = decide (t < 17) := (by decide : ∀ t, t < 32 → zm 131071 t = decide (t < 17)) t h
  rw [e1, e2]
  by_cases h7 : t < 17
  · rw [if_pos h7, if_pos h7, decide_eq_true h7, Bool.and_true, Bool.false_or]
  · rw [if_neg h7, if_neg h7, decide_eq_false h7, Bool.and_false, Bool.or_false]
theorem enc_v {p : Nat × Nat} (h : p.2 < 131072) : enc p &&& 131071 = nI p.2 := by
  refine m_ext (fun t ht => ?_)
  have e2 : zm 131071 t = decide (t < 17) := (by decide : ∀ t, t < 32 → zm 131071 t = decide (t < 17)) t ht
  rw [m_and, enc_m ht, e2]
  by_cases h7 : t < 17
  · rw [if_pos h7, decide_eq_true h7, Bool.and_true]
  · rw [if_neg h7, decide_eq_false h7, Bool.and_false]
    exact (zm_big (Nat.lt_of_lt_of_le (show p.2 < 2 ^ 17 from h) (Nat.pow_le_pow_right (by decide) (by omega)))).symm
theorem enc_k {p : Nat × Nat} (h : p.1 ≤ 48) : enc p >>> (17 &&& 31) = nI p.1 := by
  refine m_ext (fun t ht => ?_)
  unfold zm
  rw [Int32.toBitVec_shiftRight, e17]
  show ((enc p).toBitVec.sshiftRight (17#32).toNat).getLsbD t = _
  rw [BitVec.getLsbD_sshiftRight]
  show (!decide (32 ≤ t) && if 17 + t < 32 then zm (enc p) (17 + t) else (enc p).toBitVec.msb) = zm (nI p.1) t
  rw [decide_eq_false (by omega), Bool.not_false, Bool.true_and]
  by_cases h5 : 17 + t < 32
  · rw [if_pos h5, enc_m h5, if_neg (by omega)]
    congr 1; omega
  · rw [if_neg h5]
    have e : (enc p).toBitVec.msb = zm (enc p) 31 := by rw [BitVec.msb_eq_getLsbD_last]; rfl
    rw [e, enc_m (by decide), if_neg (by decide)]
    have h6 : p.1 < 2 ^ 6 := by omega
    rw [zm_big (Nat.lt_of_lt_of_le h6 (Nat.pow_le_pow_right (by decide) (by decide))), zm_big (Nat.lt_of_lt_of_le h6 (Nat.pow_le_pow_right (by decide) (by omega)))]
/-- the code c stands in the class's code at cell kc, from place i on -/
def cAt (S : zS) (kc i : Nat) (c : List (Nat × Nat)) : Prop := ∀ j p, c[j]? = some p → S.1 (kc + 1) (i + j) = enc p ∧ ((i + j : Nat) : Int) < (S.1 kc 1).toInt
theorem cAt_h {S : zS} {kc i : Nat} {p : Nat × Nat} {c : List (Nat × Nat)} (h : cAt S kc i (p :: c)) : (S.1 (kc + 1) i = enc p ∧ (i : Int) < (S.1 kc 1).toInt) ∧ cAt S kc (i + 1) c := by
  refine ⟨h 0 p rfl, fun j q hj => ?_⟩
  have := h (j + 1) q hj
  rw [show i + 1 + j = i + (j + 1) by omega]
  exact this
theorem cAt_eq {S S' : zS} {kc i : Nat} {c : List (Nat × Nat)} (e : S'.1 = S.1) (h : cAt S kc i c) : cAt S' kc i c := by
  intro j p hj
  rw [e]
  exact h j p hj
/-- the stack's numbers stand in the row at cell k, the top last -/
def stk (S : zS) (k : Nat) : List Int64 → Prop
  | [] => True
  | v :: r => S.2 k r.length = v ∧ stk S k r
theorem stk_z {S : zS} {k i : Nat} {x : Int64} : ∀ {st : List Int64}, st.length ≤ i → stk S k st → stk (zJ S k i x) k st
  | [], _, _ => trivial
  | v :: r, h, hs => by
    have h' : r.length + 1 ≤ i := h
    refine ⟨?_, stk_z (by omega) hs.2⟩
    rw [zJ_at, if_neg (fun q => by omega)]
    exact hs.1
theorem stk_push {S : zS} {k : Nat} {x : Int64} {st : List Int64} (hs : stk S k st) : stk (zJ S k st.length x) k (x :: st) := ⟨by rw [zJ_at, if_pos ⟨rfl, rfl⟩], stk_z (Nat.le_refl _) hs⟩
theorem v_kindAt {T : zT} {kc i : Nat} {p : Nat × Nat} {S : zS} (hc : zr T kc 0 = kc + 1) (hi : i < 512) (h : S.1 (kc + 1) i = enc p ∧ (i : Int) < (S.1 kc 1).toInt) (hp : p.1 ≤ 48) : fX2_kindAt T kc (nI i) S = some (nI p.1) := by
  unfold fX2_kindAt fX2_kindAt_b26
  have h1 : ¬ nI i < 0 := by rw [z_lt, nI_toInt (by omega)]; exact Int.not_lt.mpr (Int.natCast_nonneg i)
  have h2 : ¬ S.1 kc 1 ≤ nI i := by rw [z_le, nI_toInt (by omega)]; omega
  rw [if_neg h1, if_neg h2, g_in hi (by decide), hc, tn_nI (by omega), h.1, enc_k hp]
theorem v_numberAt {T : zT} {kc i : Nat} {p : Nat × Nat} {S : zS} (hc : zr T kc 0 = kc + 1) (hi : i < 512) (h : S.1 (kc + 1) i = enc p ∧ (i : Int) < (S.1 kc 1).toInt) (hp : p.2 < 131072) : fX2_numberAt T kc (nI i) S = some (nI p.2) := by
  unfold fX2_numberAt fX2_numberAt_b25
  have h1 : ¬ nI i < 0 := by rw [z_lt, nI_toInt (by omega)]; exact Int.not_lt.mpr (Int.natCast_nonneg i)
  have h2 : ¬ S.1 kc 1 ≤ nI i := by rw [z_le, nI_toInt (by omega)]; omega
  rw [if_neg h1, if_neg h2, g_in hi (by decide), hc, tn_nI (by omega), h.1, enc_v hp]
theorem lg0 (a b : Int64) : (lg_cmp a b = 0) = (a = b) := propext (lg_cmp_eq a b)
