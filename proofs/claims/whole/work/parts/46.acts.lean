/-! AN ACT, in both -/
def plc (B : Bk) (home gone : Int32) (t : Nat) : Int32 := if zm home t = true then 1 else if zm (bth B) t = true ∧ zm gone t = false then 0 else 2
def lfP (B : Bk) (Sc Sr : zS) : Prop := is8 (Sc.1 166 4) ∧ is8 (Sc.1 166 5) ∧ (∀ t, t < 8 → zm (Sc.1 166 4) t = true → zm (bth B) t = true ∧ zm (Sc.1 166 5) t = false) ∧ (∀ t, t < 8 → zm (Sc.1 166 5) t = true → zm (bth B) t = true) ∧ ∀ t, t < 8 → Sr.1 216 t = plc B (Sc.1 166 4) (Sc.1 166 5) t
def lfT (B : Bk) (w : Int) (Sc Sr : zS) : Prop := ∀ t, t < 8 → zm (bth B) t = true → (Sr.1 217 t = Sc.1 173 t ∧ Sr.1 218 t = Sc.1 174 t ∧ Sr.1 219 t = Sc.1 175 t ∧ Sr.1 222 t = (if zm (Sc.1 166 15) t = true then 1 else 0)) ∧ btw (Sc.1 173 t) 0 40000 ∧ (zm (Sc.1 166 15) t = false → btw (Sc.1 173 t) 0 9999) ∧ btw (Sc.1 174 t) 0 999 ∧ btw (Sc.1 175 t) 0 w
def lfC (cap : Int) (Sc Sr : zS) : Prop := Sr.1 187 48 = Sc.1 166 3 ∧ btw (Sc.1 166 3) 0 cap
def lfL (Sc Sr : zS) : Prop := Sr.1 187 47 = Sc.1 166 16 ∧ (Sc.1 166 16 = 0 ∨ Sc.1 166 16 = 1)
/-- class and reference live alike: places; what is owed; coin; lent -/
def lfR (B : Bk) (w cap : Int) (Sc Sr : zS) : Prop := lfP B Sc Sr ∧ lfT B w Sc Sr ∧ lfC cap Sc Sr ∧ lfL Sc Sr
/-- what acts leave as it was -/
def fC (S S' : zS) : Prop := S'.2 = S.2 ∧ ∀ a b, ¬ (172 ≤ a ∧ a ≤ 175) → ¬ (a = 166 ∧ (b = 3 ∨ b = 4 ∨ b = 5 ∨ b = 15 ∨ b = 16)) → S'.1 a b = S.1 a b
def fR (S S' : zS) : Prop := S'.2 = S.2 ∧ ∀ a b, ¬ (216 ≤ a ∧ a ≤ 219) → a ≠ 222 → ¬ (a = 187 ∧ (b = 47 ∨ b = 48)) → S'.1 a b = S.1 a b
theorem fC_refl {S : zS} : fC S S := ⟨rfl, fun _ _ _ _ => rfl⟩
theorem fR_refl {S : zS} : fR S S := ⟨rfl, fun _ _ _ _ _ => rfl⟩
theorem fC_z {S S' : zS} {k i : Nat} {x : Int32} (hk : (172 ≤ k ∧ k ≤ 175) ∨ (k = 166 ∧ (i = 3 ∨ i = 4 ∨ i = 5 ∨ i = 15 ∨ i = 16))) (h : fC S S') : fC S (zI S' k i x) := ⟨h.1, fun a b n1 n2 => (zI_o (by omega)).trans (h.2 a b n1 n2)⟩
theorem fR_z {S S' : zS} {k i : Nat} {x : Int32} (hk : (216 ≤ k ∧ k ≤ 219) ∨ k = 222 ∨ (k = 187 ∧ (i = 47 ∨ i = 48))) (h : fR S S') : fR S (zI S' k i x) := ⟨h.1, fun a b n1 n2 n3 => (zI_o (by omega)).trans (h.2 a b n1 n2 n3)⟩
theorem bkC_fC {S S' : zS} {B : Bk} (h : fC S S') (hb : bkC S 7 B) : bkC S' 7 B := bkC_cg (fun a b _ _ => h.2 a b (by omega) (by omega)) hb
theorem rN_big {a b : Nat} (h : b < rN a) : 189 ≤ a ∧ a ≤ 210 := by
  unfold rN at h
  split at h
  · omega
  · split at h
    · omega
    · split at h
      · omega
      · split at h <;> omega
theorem bkR_fR {S S' : zS} {B : Bk} (h : fR S S') (hb : bkR S.1 B) : bkR S'.1 B := bkR_cg (fun a b hab => by have := rN_big hab; exact h.2 a b (by omega) (by omega) (by omega)) hb
theorem bkC_th {S : zS} {k : Nat} {B : Bk} (h : bkC S k B) : S.1 k 0 = bth B := h.1 0 (by decide)
theorem plc_in {B : Bk} {home gone : Int32} {t : Nat} (h : ∀ t, t < 8 → zm home t = true → zm (bth B) t = true ∧ zm gone t = false) (ht : t < 8) : plc B home gone t = 0 ↔ zm ((bth B &&& (home ^^^ (-1))) &&& (gone ^^^ (-1))) t = true := by
  rw [m_dif, m_dif]
  unfold plc
  have := h t ht
  cases h1 : zm home t <;> cases h2 : zm (bth B) t <;> cases h3 : zm gone t <;> simp_all <;> decide
theorem plc_home {B : Bk} {home gone : Int32} {t : Nat} : plc B home gone t = 1 ↔ zm home t = true := by
  unfold plc
  cases h1 : zm home t <;> cases h2 : zm (bth B) t <;> cases h3 : zm gone t <;> simp <;> decide
theorem plc_gone {B : Bk} {home gone : Int32} {t : Nat} (h : ∀ t, t < 8 → zm home t = true → zm (bth B) t = true ∧ zm gone t = false) (hg : ∀ t, t < 8 → zm gone t = true → zm (bth B) t = true) (ht : t < 8) : (plc B home gone t = 2 ∧ zm (bth B) t = true) ↔ zm gone t = true := by
  unfold plc
  have := h t ht
  have := hg t ht
  cases h1 : zm home t <;> cases h2 : zm (bth B) t <;> cases h3 : zm gone t <;> simp_all <;> decide
theorem lfr_owd {B : Bk} {w cap : Int} {Sc Sr : zS} (h : lfR B w cap Sc Sr) {t : Nat} (ht : t < 8) (hz : zm (bth B) t = true) (x : Int32) : rowd Sr t x = lowd Sc t x := by
  obtain ⟨-, h2, -, -⟩ := h
  obtain ⟨⟨e1, e2, e3, -⟩, -⟩ := h2 t ht hz
  unfold rowd lowd
  rw [e1, e2, e3]
theorem lfr_in {B : Bk} {w cap : Int} {Sc Sr : zS} (hc : bkC Sc 7 B) (h : lfR B w cap Sc Sr) {t : Nat} (ht : t < 8) : Sr.1 216 t = 0 ↔ zm (linn Sc) t = true := by
  obtain ⟨⟨a1, a2, a3, a4, a5⟩, -, -, -⟩ := h
  rw [a5 t ht, plc_in a3 ht]
  unfold linn
  rw [bkC_th hc]
theorem linn_th {B : Bk} {Sc : zS} (hc : bkC Sc 7 B) {t : Nat} (h : zm (linn Sc) t = true) : zm (bth B) t = true ∧ zm (Sc.1 166 4) t = false ∧ zm (Sc.1 166 5) t = false := by
  unfold linn at h
  rw [m_dif, m_dif, bkC_th hc] at h
  cases h1 : zm (bth B) t <;> cases h2 : zm (Sc.1 166 4) t <;> cases h3 : zm (Sc.1 166 5) t <;> simp_all
/-- what is owed is no less than nothing -/
theorem lowd_btw {B : Bk} {w : Nat} {cap : Int} {Sc Sr : zS} (hw : w < 61) (h : lfR B w cap Sc Sr) {t : Nat} (ht : t < 8) (hz : zm (bth B) t = true) : btw (lowd Sc t (nI w)) 0 100000 ∧ (zm (Sc.1 166 15) t = false → btw (lowd Sc t (nI w)) 0 69999) := by
  obtain ⟨-, h2, -, -⟩ := h
  obtain ⟨-, ⟨b1, b2⟩, b3, ⟨b4, b5⟩, ⟨b6, b7⟩⟩ := h2 t ht hz
  have ew : (nI w).toInt = w := nI_toInt (by omega)
  have e1 : (nI w - Sc.1 175 t).toInt = w - (Sc.1 175 t).toInt := by rw [z_sub (by omega) (by omega), ew]
  have hm : 0 ≤ (Sc.1 174 t).toInt * (w - (Sc.1 175 t).toInt) ∧ (Sc.1 174 t).toInt * (w - (Sc.1 175 t).toInt) ≤ 999 * 60 :=
    ⟨Int.mul_nonneg b4 (by omega), Int.mul_le_mul b5 (by omega) (by omega) (by decide)⟩
  have e2 : (Sc.1 174 t * (nI w - Sc.1 175 t)).toInt = (Sc.1 174 t).toInt * (w - (Sc.1 175 t).toInt) := by rw [z_mul (by rw [e1]; omega) (by rw [e1]; omega), e1]
  have e3 : (lowd Sc t (nI w)).toInt = (Sc.1 173 t).toInt + (Sc.1 174 t).toInt * (w - (Sc.1 175 t).toInt) := by
    unfold lowd
    rw [z_add (by rw [e2]; omega) (by rw [e2]; omega), e2]
  unfold btw
  rw [e3]
  refine ⟨by omega, fun q => ?_⟩
  have := b3 q
  unfold btw at this
  omega
theorem lfT_w {B : Bk} {w w' : Int} {Sc Sr : zS} (h : lfT B w Sc Sr) (hw : w ≤ w') : lfT B w' Sc Sr := fun t ht hz => by
  obtain ⟨a, b, c, d, e1, e2⟩ := h t ht hz
  exact ⟨a, b, c, d, e1, by omega⟩
theorem btw_le {x : Int32} {a b c d : Int} (h : btw x a b) (h1 : c ≤ a) (h2 : b ≤ d) : btw x c d := ⟨by have := h.1; omega, by have := h.2; omega⟩
