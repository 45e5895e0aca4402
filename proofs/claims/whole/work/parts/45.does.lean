/-! an act in the reference -/
def rFetch (S : zS) (t : Nat) (w : Int32) : zS := zI (zI (zI S 187 48 (S.1 187 48 - rowd S t w)) 187 48 (S.1 187 48 - rowd S t w + 0)) 216 t 1
def rPut (S : zS) (t : Nat) (w : Int32) : zS := zI (zI (zI (zI (zI (zI (zI S 187 48 (S.1 187 48 - 0)) 187 48 (S.1 187 48 - 0 + S.1 203 t)) 216 t 0) 217 t (S.1 203 t)) 218 t (S.1 201 t)) 219 t w) 222 t 0
def rSell (S : zS) (t : Nat) : zS := zI (zI (zI S 187 48 (S.1 187 48 - 0)) 187 48 (S.1 187 48 - 0 + S.1 204 t)) 216 t 2
def rhalf (S : zS) (t : Nat) (w : Int32) : Int32 := (rowd S t w + 1) / 2
def rHalve (S : zS) (t : Nat) (w : Int32) : zS := zI (zI (zI (zI (zI (zI (zI S 187 48 (S.1 187 48 - rhalf S t w)) 187 48 (S.1 187 48 - rhalf S t w + 0)) 216 t 0) 217 t (rowd S t w - rhalf S t w)) 218 t (S.1 218 t / 2)) 219 t w) 222 t 1
def rBorrow (S : zS) (x : Int32) : zS := zI (zI S 187 48 (S.1 187 48 + x)) 187 47 1
section
variable {T : zT} {S : zS} {k t : Nat} {w : Int32}
theorem r_doF (hT : iT T) (hk : k < 60) (ht : t < 8) (h1 : S.1 213 k = w) (h2 : S.1 214 k = 0) (h3 : S.1 215 k = nI t) : fX12_does T 187 (nI k) S = some (if S.1 216 t = 0 ∧ rowd S t w ≤ S.1 187 48 then (1, rFetch S t w) else (0, S)) := by
  unfold fX12_does
  simp (disch := omega) only [g_in, tn_nI, let_q, zT_187_37 hT, zT_187_38 hT, zT_187_39 hT, h1, h2, h3]
  rw [if_neg (by decide), if_pos trivial, r_owedNow hT ht, b1_q]
  unfold fX12_does_b159 fX12_does_b178 fX12_does_b205
  simp (disch := omega) only [g_in, tn_nI, zT_187_40 hT]
  rw [if_neg (by decide)]
  by_cases q1 : S.1 216 t = 0
  · rw [if_pos q1]
    by_cases q2 : S.1 187 48 < rowd S t w
    · rw [if_pos q2, if_neg (fun z => by have a := z_lt.mp q2; have b := z_le.mp z.2; omega)]
    · rw [if_neg q2, if_neg (by decide), if_pos ⟨q1, z_nlt q2⟩]
      unfold fX12_does_b207
      rw [let_q, if_neg (by decide), if_neg (by decide)]
      unfold fX12_does_b254
      rw [let_q, if_pos rfl]
      unfold fX12_does_b283 fX12_does_b376
      rw [g_in ht (by decide), let_q, if_neg (by decide), if_neg (by decide)]
      simp (disch := omega) only [tn_nI, zT_187_40 hT, zI_eqs]
      rfl
  · rw [if_neg q1, if_neg (fun z => q1 z.1)]
theorem r_doP (hT : iT T) (hk : k < 60) (ht : t < 8) (h1 : S.1 213 k = w) (h2 : S.1 214 k = 1) (h3 : S.1 215 k = nI t) : fX12_does T 187 (nI k) S = some (if S.1 216 t = 1 ∧ 0 ≤ S.1 187 48 then (1, rPut S t w) else (0, S)) := by
  unfold fX12_does
  simp (disch := omega) only [g_in, tn_nI, let_q, zT_187_37 hT, zT_187_38 hT, zT_187_39 hT, h1, h2, h3]
  rw [if_neg (by decide), if_neg (by decide), if_neg (by decide)]
  unfold fX12_does_b159 fX12_does_b178 fX12_does_b205
  simp (disch := omega) only [g_in, tn_nI, zT_187_40 hT]
  rw [if_pos trivial]
  by_cases q1 : S.1 216 t = 1
  · rw [if_pos q1]
    by_cases q2 : S.1 187 48 < 0
    · rw [if_pos q2, if_neg (fun z => by have a := z_lt.mp q2; have b := z_le.mp z.2; omega)]
    · rw [if_neg q2, if_neg (by decide), if_pos ⟨q1, z_nlt q2⟩]
      unfold fX12_does_b207
      rw [let_q, if_pos rfl, g_in (by omega) (by decide)]
      unfold fX12_does_b254
      rw [let_q, if_neg (by decide), if_neg (by decide)]
      unfold fX12_does_b283 fX12_does_b376
      rw [g_in ht (by decide), let_q, if_pos rfl]
      simp (disch := omega) only [g_in, let_q, tn_nI, zT_187_40 hT, zT_187_41 hT, zT_187_42 hT, zT_187_43 hT, zT_187_46 hT, zT_187_26 hT, zT_187_24 hT, zI_eqs, zI_ne]
      rfl
  · rw [if_neg q1, if_neg (fun z => q1 z.1)]
theorem r_doS (hT : iT T) (hk : k < 60) (ht : t < 8) (h1 : S.1 213 k = w) (h2 : S.1 214 k = 2) (h3 : S.1 215 k = nI t) : fX12_does T 187 (nI k) S = some (if S.1 216 t = 0 ∧ 0 ≤ S.1 187 48 then (1, rSell S t) else (0, S)) := by
  unfold fX12_does
  simp (disch := omega) only [g_in, tn_nI, let_q, zT_187_37 hT, zT_187_38 hT, zT_187_39 hT, h1, h2, h3]
  rw [if_neg (by decide), if_neg (by decide), if_neg (by decide)]
  unfold fX12_does_b159 fX12_does_b178 fX12_does_b205
  simp (disch := omega) only [g_in, tn_nI, zT_187_40 hT]
  rw [if_neg (by decide)]
  by_cases q1 : S.1 216 t = 0
  · rw [if_pos q1]
    by_cases q2 : S.1 187 48 < 0
    · rw [if_pos q2, if_neg (fun z => by have a := z_lt.mp q2; have b := z_le.mp z.2; omega)]
    · rw [if_neg q2, if_neg (by decide), if_pos ⟨q1, z_nlt q2⟩]
      unfold fX12_does_b207
      rw [let_q, if_neg (by decide), if_pos rfl, g_in (by omega) (by decide)]
      unfold fX12_does_b254
      rw [let_q, if_neg (by decide), if_pos rfl]
      unfold fX12_does_b283 fX12_does_b376
      rw [g_in ht (by decide), let_q, if_neg (by decide), if_neg (by decide)]
      simp (disch := omega) only [tn_nI, zT_187_40 hT, zT_187_27 hT, zI_eqs, zI_ne]
      rfl
  · rw [if_neg q1, if_neg (fun z => q1 z.1)]
theorem r_doH (hT : iT T) (hk : k < 60) (ht : t < 8) (h1 : S.1 213 k = w) (h2 : S.1 214 k = 3) (h3 : S.1 215 k = nI t) : fX12_does T 187 (nI k) S = some (if (S.1 216 t = 0 ∧ S.1 222 t = 0) ∧ rhalf S t w ≤ S.1 187 48 then (1, rHalve S t w) else (0, S)) := by
  unfold fX12_does
  simp (disch := omega) only [g_in, tn_nI, let_q, zT_187_37 hT, zT_187_38 hT, zT_187_39 hT, h1, h2, h3]
  rw [if_neg (by decide), if_neg (by decide), if_pos trivial, r_owedNow hT ht, b1_q]
  show fX12_does_b159 T 187 w (nI t) 3 (rhalf S t w) S = _
  unfold fX12_does_b159 fX12_does_b178 fX12_does_b205
  simp (disch := omega) only [g_in, tn_nI, zT_187_40 hT, zT_187_46 hT]
  rw [if_neg (by decide)]
  by_cases q1 : S.1 216 t = 0
  · rw [if_pos q1]
    by_cases q2 : S.1 187 48 < rhalf S t w
    · rw [if_pos q2, if_neg (fun z => by have a := z_lt.mp q2; have b := z_le.mp z.2; omega)]
    · rw [if_neg q2, if_pos trivial]
      by_cases q3 : S.1 222 t = 0
      · rw [if_pos q3, if_pos ⟨⟨q1, q3⟩, z_nlt q2⟩]
        unfold fX12_does_b207
        rw [let_q, if_neg (by decide), if_neg (by decide)]
        unfold fX12_does_b254
        rw [let_q, if_neg (by decide), if_neg (by decide)]
        unfold fX12_does_b283 fX12_does_b376
        rw [g_in ht (by decide), let_q, if_neg (by decide), if_pos rfl, r_owedNow hT ht, b1_q]
        unfold rowd
        simp (disch := omega) only [g_in, let_q, tn_nI, zT_187_40 hT, zT_187_41 hT, zT_187_42 hT, zT_187_43 hT, zT_187_46 hT, zI_eqs, zI_ne]
        rfl
      · rw [if_neg q3, if_neg (fun z => q3 z.1.2)]
  · rw [if_neg q1, if_neg (fun z => q1 z.1.1)]
def rbor (S : zS) (w : Int32) : Prop := ¬ S.1 208 0 = -1 ∧ ¬ S.1 210 0 ≤ S.1 208 0 ∧ ¬ S.1 208 0 ≤ w
theorem r_doB (hT : iT T) (hk : k < 60) (h1 : S.1 213 k = w) (h2 : S.1 214 k = 4) (hl : S.1 187 47 = 0 ∨ S.1 187 47 = 1) : (S.1 187 47 = 0 ∧ rbor S w ∧ fX12_does T 187 (nI k) S = some (1, rBorrow S (S.1 207 0))) ∨ (¬ (S.1 187 47 = 0 ∧ rbor S w) ∧ fX12_does T 187 (nI k) S = some (0, zI (zI S 187 48 (S.1 187 48 + 0)) 187 47 (S.1 187 47))) := by
  have t0 : (0 : Int32).toNatClampNeg = 0 := rfl
  have i0 : zin 0 2 = true := by decide
  have no : fX12_does_b74 T 187 S = some (0, zI (zI S 187 48 (S.1 187 48 + 0)) 187 47 (S.1 187 47)) := by
    unfold fX12_does_b74 fX12_does_b75 fX12_does_b97 fX12_does_b114 fX12_does_b119
    rw [if_pos rfl]
    simp only [let_q]
    rw [if_pos trivial]
    rcases hl with q | q
    · rw [if_pos (by rw [zI_eqn (by decide)]; exact q), g_t (by decide), g_t (by decide), q]
    · rw [if_neg (by rw [zI_eqn (by decide), q]; decide), g_t (by decide), g_t (by decide), q]
  unfold fX12_does
  simp (disch := omega) only [g_in, tn_nI, let_q, zT_187_37 hT, zT_187_38 hT, zT_187_39 hT, h1, h2]
  rw [if_pos trivial]
  simp only [g_t i0, zT_187_31 hT, zT_187_33 hT, t0]
  by_cases q0 : S.1 187 47 = 0
  · rw [if_pos q0]
    by_cases q1 : S.1 208 0 = -1
    · rw [if_pos q1]
      exact Or.inr ⟨fun z => z.2.1 q1, no⟩
    · rw [if_neg q1]
      by_cases q2 : S.1 210 0 ≤ S.1 208 0
      · rw [if_pos q2]
        exact Or.inr ⟨fun z => z.2.2.1 q2, no⟩
      · rw [if_neg q2]
        by_cases q3 : S.1 208 0 ≤ w
        · rw [if_pos q3]
          exact Or.inr ⟨fun z => z.2.2.2 q3, no⟩
        · rw [if_neg q3]
          refine Or.inl ⟨q0, ⟨q1, q2, q3⟩, ?_⟩
          unfold fX12_does_b75 fX12_does_b97 fX12_does_b114 fX12_does_b119
          rw [if_neg (by decide)]
          simp only [let_q, g_t i0, zT_187_30 hT, t0]
          rw [if_pos (by rw [zI_eqn (by decide)]; exact q0), if_neg (by decide), g_t (by decide), g_t (by decide)]
          rfl
  · rw [if_neg q0]
    exact Or.inr ⟨fun z => q0 z.1, no⟩
end
