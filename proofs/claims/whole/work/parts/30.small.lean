/-! small functions, said at once -/
theorem l_lt {x y : Int64} : x < y ↔ x.toInt < y.toInt := Int64.lt_iff_toInt_lt
theorem l_le {x y : Int64} : x ≤ y ↔ x.toInt ≤ y.toInt := Int64.le_iff_toInt_le
theorem i2l_t (x : Int32) : x.toInt64.toInt = x.toInt := Int32.toInt_toInt64 x
theorem v_in (T : zT) (l a b : Int64) (S : zS) : fX12_in T l a b S = some (if a.toInt ≤ l.toInt ∧ l.toInt ≤ b.toInt then 1 else 0) := by
  unfold fX12_in fX12_in_b17 fX12_in_b18
  by_cases h1 : l.toInt < a.toInt
  · rw [if_pos ((lg_cmp_lt l a).mpr (l_lt.mpr h1)), if_neg (by omega)]
    rfl
  · rw [if_neg (fun q => h1 (l_lt.mp ((lg_cmp_lt l a).mp q)))]
    by_cases h2 : b.toInt < l.toInt
    · rw [if_pos ((lg_cmp_gt l b).mpr (l_lt.mpr h2)), if_neg (by omega)]
      rfl
    · rw [if_neg (fun q => h2 (l_lt.mp ((lg_cmp_gt l b).mp q))), if_pos (by omega)]
      rfl
theorem v_in32 (T : zT) (x : Int32) (a b : Int64) (S : zS) : fX12_in T x.toInt64 a b S = some (if a.toInt ≤ x.toInt ∧ x.toInt ≤ b.toInt then 1 else 0) := by
  rw [v_in, i2l_t]
theorem zbl_if {c : Prop} [Decidable c] : zbl (if c then 1 else 0) = true := by
  by_cases h : c
  · rw [if_pos h]; rfl
  · rw [if_neg h]; rfl
theorem v_isWeek (T : zT) (x : Int32) (S : zS) : fX12_isWeek T x S = some (if 0 ≤ x.toInt ∧ x.toInt ≤ 60 then 1 else 0) := by
  unfold fX12_isWeek
  rw [v_in32]
  show zgd (zbl (if (0 : Int64).toInt ≤ x.toInt ∧ x.toInt ≤ (60 : Int64).toInt then 1 else 0)) (some (if (0 : Int64).toInt ≤ x.toInt ∧ x.toInt ≤ (60 : Int64).toInt then 1 else 0)) = _
  rw [zbl_if]
  rfl
theorem v_isTellable (T : zT) (x : Int32) (S : zS) : fX11_isTellable T x S = some (if 0 ≤ x.toInt ∧ x.toInt ≤ 60 then 1 else 0) := by
  unfold fX11_isTellable fX11_isTellable_b14 fX11_isTellable_b15
  by_cases h1 : x.toInt < 0
  · rw [if_pos (z_lt.mpr h1), if_neg (by omega)]
    rfl
  · rw [if_neg (fun q => h1 (z_lt.mp q))]
    by_cases h2 : 60 < x.toInt
    · rw [if_pos (z_lt.mpr (show (60 : Int32).toInt < x.toInt from h2)), if_neg (by omega)]
      rfl
    · rw [if_neg (fun q => h2 (show (60 : Int32).toInt < x.toInt from z_lt.mp q)), if_pos (by omega)]
      rfl
/-- bit x of a set -/
def zbit (s x : Int32) : Prop := ¬ ((s >>> (x &&& 31)) &&& 1) = 0
theorem v_has (T : zT) (k : Nat) (x : Int32) (S : zS) : ∃ r : Int32, fX0_has T k x S = some r ∧ (r = 1 ∧ (0 ≤ x.toInt ∧ x.toInt < 8 ∧ zbit (S.1 k 0) x) ∨ r = 0 ∧ ¬ (0 ≤ x.toInt ∧ x.toInt < 8 ∧ zbit (S.1 k 0) x)) := by
  unfold fX0_has fX0_has_b25 fX0_has_b26
  by_cases h1 : x.toInt < 0
  · rw [if_pos (z_lt.mpr h1)]
    exact ⟨0, rfl, Or.inr ⟨rfl, by omega⟩⟩
  · rw [if_neg (fun q => h1 (z_lt.mp q))]
    by_cases h2 : 8 ≤ x.toInt
    · rw [if_pos (z_le.mpr (show (8 : Int32).toInt ≤ x.toInt from h2))]
      exact ⟨0, rfl, Or.inr ⟨rfl, by omega⟩⟩
    · rw [if_neg (fun q => h2 (show (8 : Int32).toInt ≤ x.toInt from z_le.mp q))]
      by_cases h3 : ((S.1 k 0 >>> (x &&& 31)) &&& 1) = 0
      · rw [if_pos h3]
        exact ⟨0, rfl, Or.inr ⟨rfl, fun q => q.2.2 h3⟩⟩
      · rw [if_neg h3]
        exact ⟨1, rfl, Or.inl ⟨rfl, by omega, by omega, h3⟩⟩
theorem v_has12 {T : zT} (hT : iT T) (x : Int32) (S : zS) : ∃ r : Int32, fX12_has T 187 x S = some r ∧ (r = 1 ∧ (0 ≤ x.toInt ∧ x.toInt < 8 ∧ S.1 199 x.toNatClampNeg = 1) ∨ r = 0 ∧ ¬ (0 ≤ x.toInt ∧ x.toInt < 8 ∧ S.1 199 x.toNatClampNeg = 1)) := by
  unfold fX12_has fX12_has_b26 fX12_has_b27
  rw [v_in32, zT_187_22 hT]
  show ∃ r, (if (if (0 : Int64).toInt ≤ x.toInt ∧ x.toInt ≤ (7 : Int64).toInt then (1 : Int32) else 0) = 0 then _ else _) = some r ∧ _
  by_cases h : (0 : Int64).toInt ≤ x.toInt ∧ x.toInt ≤ (7 : Int64).toInt
  · have h' : 0 ≤ x.toInt ∧ x.toInt ≤ 7 := h
    rw [if_pos h, if_neg (by decide), show zin x 16 = true from zin_iff.mpr ⟨by omega, by omega⟩]
    show ∃ r, (if S.1 199 x.toNatClampNeg = 1 then zgd (zbl 1) (some 1) else zgd (zbl 0) (some 0)) = some r ∧ _
    by_cases h3 : S.1 199 x.toNatClampNeg = 1
    · rw [if_pos h3]
      exact ⟨1, rfl, Or.inl ⟨rfl, by omega, by omega, h3⟩⟩
    · rw [if_neg h3]
      exact ⟨0, rfl, Or.inr ⟨rfl, fun q => h3 q.2.2⟩⟩
  · have h' : ¬ (0 ≤ x.toInt ∧ x.toInt ≤ 7) := h
    rw [if_neg h, if_pos rfl]
    exact ⟨0, rfl, Or.inr ⟨rfl, by omega⟩⟩
/-- the things of the class's book at cell k and of the reference's at place o are the same -/
def rThings (S : zS) (k o : Nat) : Prop := ∀ t : Nat, t < 8 → (zbit (S.1 k 0) (nI t) ↔ S.1 199 (o + t) = 1)
theorem has_same {T : zT} (hT : iT T) {S : zS} (h : rThings S 7 0) (x : Int32) : ∃ r : Int32, fX0_has T 7 x S = some r ∧ fX12_has T 187 x S = some r ∧ (r = 0 ∨ (r = 1 ∧ 0 ≤ x.toInt ∧ x.toInt < 8)) := by
  obtain ⟨r1, h1, c1⟩ := v_has T 7 x S
  obtain ⟨r2, h2, c2⟩ := v_has12 hT x S
  have key : (0 ≤ x.toInt ∧ x.toInt < 8 ∧ zbit (S.1 7 0) x) ↔ (0 ≤ x.toInt ∧ x.toInt < 8 ∧ S.1 199 x.toNatClampNeg = 1) := by
    constructor
    · rintro ⟨a, b, c⟩
      refine ⟨a, b, ?_⟩
      have e := z_tn a
      have hx : x = nI x.toNatClampNeg := z_eq.mpr (by rw [nI_toInt (by omega)]; exact e.symm)
      have := (h x.toNatClampNeg (by omega)).mp (by rw [← hx]; exact c)
      rwa [Nat.zero_add] at this
    · rintro ⟨a, b, c⟩
      refine ⟨a, b, ?_⟩
      have e := z_tn a
      have hx : x = nI x.toNatClampNeg := z_eq.mpr (by rw [nI_toInt (by omega)]; exact e.symm)
      rw [hx]
      exact (h x.toNatClampNeg (by omega)).mpr (by rw [Nat.zero_add]; exact c)
  rcases c1 with ⟨e1, p1⟩ | ⟨e1, p1⟩ <;> rcases c2 with ⟨e2, p2⟩ | ⟨e2, p2⟩
  · exact ⟨1, by rw [h1, e1], by rw [h2, e2], Or.inr ⟨rfl, p1.1, p1.2.1⟩⟩
  · exact absurd (key.mp p1) p2
  · exact absurd (key.mpr p2) p1
  · exact ⟨0, by rw [h1, e1], by rw [h2, e2], Or.inl rfl⟩
