/-! A LIFE in the class: what its small functions do -/
theorem zI_ne {S : zS} {k i a b : Nat} {x : Int32} (h : a ≠ k) : (zI S k i x).1 a b = S.1 a b := by rw [zI_at, if_neg (fun q => h q.1)]
theorem zI_eq {S : zS} {k i b : Nat} {x : Int32} : (zI S k i x).1 k b = if b = i then x else S.1 k b := by
  rw [zI_at]
  by_cases h : b = i
  · rw [if_pos ⟨rfl, h⟩, if_pos h]
  · rw [if_neg (fun q => h q.2), if_neg h]
theorem zI_eqs {S : zS} {k i : Nat} {x : Int32} : (zI S k i x).1 k i = x := zI_s
theorem zI_eqn {S : zS} {k i b : Nat} {x : Int32} (h : b ≠ i) : (zI S k i x).1 k b = S.1 k b := by rw [zI_eq, if_neg h]
def linn (S : zS) : Int32 := ((S.1 7 0) &&& ((S.1 166 4) ^^^ (-1))) &&& ((S.1 166 5) ^^^ (-1))
def lowd (S : zS) (t : Nat) (w : Int32) : Int32 := S.1 173 t + S.1 174 t * (w - S.1 175 t)
theorem n_m1 {n : Nat} (h : n < 2147483648) : ¬ nI n = -1 := by rw [z_eq, nI_toInt (by omega)]; show ¬ (n : Int) = -1; omega
theorem n_lt0 {n : Nat} (h : n < 2147483648) : ¬ nI n < 0 := by rw [z_lt, nI_toInt (by omega)]; show ¬ (n : Int) < 0; omega
theorem v_thingsIn {T : zT} (hT : iT T) {S : zS} : fX4_thingsIn T 166 S = some (linn S) := by
  unfold fX4_thingsIn linn
  rw [zT_166_0 hT]
theorem v_isIn {T : zT} (hT : iT T) {S : zS} {t : Nat} (ht : t < 8) : fX4_isIn T 166 (nI t) S = some (if zm (linn S) t = true then 1 else 0) := by
  unfold fX4_isIn fX4_isIn_b25 fX4_isIn_b26
  rw [if_neg (n_lt0 (by omega)), if_neg (by rw [liq, n_le (by omega) (by omega)]; omega), v_thingsIn hT, b1_q]
  cases hz : zm (linn S) t with
  | true => rw [if_neg (fun q => by rw [m_sh0 (by omega), hz] at q; cases q)]; rfl
  | false => rw [if_pos ((m_sh0 (by omega)).mpr hz)]; rfl
theorem v_owedNow {T : zT} (hT : iT T) {S : zS} {t : Nat} {w : Int32} (ht : t < 8) : fX4_owedNow T 166 (nI t) w S = some (lowd S t w) := by
  unfold fX4_owedNow lowd
  simp (disch := omega) only [g_in, tn_nI, zT_166_12 hT, zT_166_13 hT, zT_166_14 hT]
theorem v_isWell {T : zT} {S : zS} : fX4_isWell T 166 S = some (if S.1 166 6 = -1 ∧ S.1 166 7 = -1 then 1 else 0) := by
  unfold fX4_isWell fX4_isWell_b20 fX4_isWell_b21
  by_cases h1 : S.1 166 6 = -1
  · rw [if_pos h1]
    by_cases h2 : S.1 166 7 = -1
    · rw [if_pos h2, if_pos ⟨h1, h2⟩]; rfl
    · rw [if_neg h2, if_neg (fun q => h2 q.2)]; rfl
  · rw [if_neg h1, if_neg (fun q => h1 q.1)]; rfl
def sFetch (S : zS) (t : Nat) (w : Int32) : zS := zI (zI (zI S 166 3 (S.1 166 3 - lowd S t w)) 166 4 (S.1 166 4 ||| (1 <<< (nI t &&& 31)))) 172 t w
theorem v_fetchOne {T : zT} (hT : iT T) {S : zS} {t : Nat} {w : Int32} (ht : t < 8) : fX4_fetchOne T 166 (nI t) w S = some (if zm (linn S) t = true ∧ lowd S t w ≤ S.1 166 3 then (1, sFetch S t w) else (0, S)) := by
  unfold fX4_fetchOne fX4_fetchOne_b21
  rw [v_isIn hT ht, b1_q]
  by_cases h1 : zm (linn S) t = true
  · rw [if_pos h1, if_neg (by decide), v_owedNow hT ht, b1_q, b1_q]
    by_cases h2 : lowd S t w ≤ S.1 166 3
    · rw [if_pos h2, if_pos ⟨h1, h2⟩, let_q, let_q, g_in ht (by decide), let_q, zT_166_11 hT, tn_nI (by omega)]
      unfold sFetch
      rw [zI_eqn (k := 166) (b := 4) (by decide)]
    · rw [if_neg h2, if_neg (fun q => h2 q.2)]
  · rw [if_neg h1, if_pos rfl, if_neg (fun q => h1 q.1)]
def sPut (S : zS) (t : Nat) (w : Int32) : zS := zI (zI (zI (zI (zI (zI S 166 4 (S.1 166 4 &&& ((1 <<< (nI t &&& 31)) ^^^ (-1)))) 166 15 (S.1 166 15 &&& ((1 <<< (nI t &&& 31)) ^^^ (-1)))) 166 3 (S.1 166 3 + S.1 11 t)) 173 t (S.1 11 t)) 174 t (S.1 9 t)) 175 t w
theorem v_putOne {T : zT} (hT : iT T) {S : zS} {t : Nat} {w : Int32} (ht : t < 8) : fX4_putOne T 166 (nI t) w S = some (if zm (S.1 166 4) t = true then (1, sPut S t w) else (0, S)) := by
  unfold fX4_putOne fX4_putOne_b21
  rw [if_neg (n_lt0 (by omega)), if_neg (by rw [liq, n_le (by omega) (by omega)]; omega)]
  by_cases h1 : zm (S.1 166 4) t = true
  · rw [if_neg (fun q => by rw [m_sh0 (by omega), h1] at q; cases q), if_pos h1]
    simp (disch := omega) only [g_in, tn_nI, let_q, zT_166_0 hT, zT_166_12 hT, zT_166_13 hT, zT_166_14 hT, zT_7_7 hT, zT_7_9 hT]
    unfold sPut
    simp (decide := true) only [zI_ne, zI_eqn]
  · rw [if_pos ((m_sh0 (by omega)).mpr (by simpa using h1)), if_neg h1]
def sSell (S : zS) (t : Nat) : zS := zI (zI S 166 5 (S.1 166 5 ||| (1 <<< (nI t &&& 31)))) 166 3 (S.1 166 3 + S.1 12 t)
theorem v_sellOne {T : zT} (hT : iT T) {S : zS} {t : Nat} (ht : t < 8) : fX4_sellOne T 166 (nI t) S = some (if zm (linn S) t = true then (1, sSell S t) else (0, S)) := by
  unfold fX4_sellOne
  rw [v_isIn hT ht, b1_q]
  by_cases h1 : zm (linn S) t = true
  · rw [if_pos h1, if_neg (by decide), if_pos h1]
    simp (disch := omega) only [g_in, tn_nI, let_q, zT_166_0 hT, zT_7_10 hT]
    unfold sSell
    simp (decide := true) only [zI_ne, zI_eqn]
  · rw [if_neg h1, if_pos rfl, if_neg h1]
def lhalf (S : zS) (t : Nat) (w : Int32) : Int32 := (lowd S t w + 1) / 2
def sHalve (S : zS) (t : Nat) (w : Int32) : zS := zI (zI (zI (zI (zI S 166 3 (S.1 166 3 - lhalf S t w)) 166 15 (S.1 166 15 ||| (1 <<< (nI t &&& 31)))) 173 t (lowd S t w - lhalf S t w)) 174 t (S.1 174 t / 2)) 175 t w
theorem v_halveOne {T : zT} (hT : iT T) {S : zS} {t : Nat} {w : Int32} (ht : t < 8) : fX4_halveOne T 166 (nI t) w S = some (if (zm (linn S) t = true ∧ zm (S.1 166 15) t = false) ∧ lhalf S t w ≤ S.1 166 3 then (1, sHalve S t w) else (0, S)) := by
  unfold fX4_halveOne fX4_halveOne_b19
  rw [v_isIn hT ht, b1_q]
  by_cases h1 : zm (linn S) t = true
  · rw [if_pos h1, if_neg (by decide)]
    cases h2 : zm (S.1 166 15) t with
    | true => rw [if_neg (fun q => by rw [m_sh0 (by omega), h2] at q; cases q), if_neg (fun q => by cases q.1.2)]
    | false =>
      rw [if_pos ((m_sh0 (by omega)).mpr h2), v_owedNow hT ht, b1_q, let_q]
      by_cases h3 : lhalf S t w ≤ S.1 166 3
      · rw [if_pos (show (lowd S t w + 1) / 2 ≤ S.1 166 3 from h3), if_pos ⟨⟨h1, rfl⟩, h3⟩]
        simp (disch := omega) only [g_in, tn_nI, let_q, zT_166_12 hT, zT_166_13 hT, zT_166_14 hT]
        unfold sHalve lhalf
        simp (decide := true) only [zI_ne, zI_eqn]
      · rw [if_neg (show ¬ (lowd S t w + 1) / 2 ≤ S.1 166 3 from h3), if_neg (fun q => h3 q.2)]
  · rw [if_neg h1, if_pos rfl, if_neg (fun q => h1 q.1.1)]
def lbor (S : zS) (w : Int32) : Prop := ¬ S.1 7 5 = -1 ∧ ¬ S.1 7 1 ≤ S.1 7 5 ∧ ¬ S.1 7 5 ≤ w
def sBorrow (S : zS) : zS := zI (zI S 166 16 1) 166 3 (S.1 166 3 + S.1 7 4)
theorem v_cousinLendsIn {T : zT} {S : zS} {w : Int32} : ∃ r : Int32, fX0_cousinLendsIn T 7 w S = some r ∧ (r = 1 ∧ lbor S w ∨ r = 0 ∧ ¬ lbor S w) := by
  unfold fX0_cousinLendsIn fX0_cousinLendsIn_b31 fX0_cousinLendsIn_b32
  by_cases h1 : S.1 7 5 = -1
  · rw [if_pos h1]; exact ⟨0, rfl, Or.inr ⟨rfl, fun q => q.1 h1⟩⟩
  · rw [if_neg h1]
    by_cases h2 : S.1 7 1 ≤ S.1 7 5
    · rw [if_pos h2]; exact ⟨0, rfl, Or.inr ⟨rfl, fun q => q.2.1 h2⟩⟩
    · rw [if_neg h2]
      by_cases h3 : S.1 7 5 ≤ w
      · rw [if_pos h3]; exact ⟨0, rfl, Or.inr ⟨rfl, fun q => q.2.2 h3⟩⟩
      · rw [if_neg h3]; exact ⟨1, rfl, Or.inl ⟨rfl, h1, h2, h3⟩⟩
theorem v_borrowOnce {T : zT} (hT : iT T) {S : zS} {w : Int32} : (S.1 166 16 = 0 ∧ lbor S w ∧ fX4_borrowOnce T 166 w S = some (1, sBorrow S)) ∨ (¬ (S.1 166 16 = 0 ∧ lbor S w) ∧ fX4_borrowOnce T 166 w S = some (0, S)) := by
  unfold fX4_borrowOnce fX4_borrowOnce_b18
  by_cases h1 : S.1 166 16 = 0
  · rw [if_pos h1, zT_166_0 hT]
    obtain ⟨r, e, ⟨e2, h⟩ | ⟨e2, h⟩⟩ := v_cousinLendsIn (T := T) (S := S) (w := w)
    · rw [e, b1_q, e2, if_neg (by decide)]
      simp only [let_q]
      refine Or.inl ⟨h1, h, ?_⟩
      unfold sBorrow
      simp (decide := true) only [zI_ne, zI_eqn]
    · rw [e, b1_q, e2, if_pos rfl]
      exact Or.inr ⟨fun q => h q.2, rfl⟩
  · rw [if_neg h1]
    exact Or.inr ⟨fun q => h1 q.1, rfl⟩
