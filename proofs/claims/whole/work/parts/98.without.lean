theorem r_asBest {T : zT} (hT : iT T) {B : Bk} (hB : okB B) {S : zS} (hr : bkR S.1 B) : ∃ r S', fX12_asBest T 187 S = some (r, S') ∧ fP S S' ∧ bkR S'.1 B ∧ r.toInt = bst (bsL B (bw B)) 256 := by
  obtain ⟨S1, e1, j1, f1, c1, h55, h59⟩ := r_asItIs hT hr
  have hr1 : bkR S1.1 B := bkR_cg (fun a b hb => f1 a b (fun z => by
    rw [z.1] at hb
    exact absurd hb (by unfold rN; simp))) hr
  obtain ⟨d1, d2⟩ := hB.2.2.2.1
  obtain ⟨r, S2, e2, o2, q⟩ := r_mostCoin hT hB okG_0 (h := 0) (c := B.1 6 2) (by decide) (by omega) hr1 c1 h55 h59
  rw [if_neg (show ¬ (B.1 6 2).toInt < 0 by omega)] at q
  refine ⟨r, S2, ?_, fun a b h => (o2.1 a b (by omega)).trans (f1 a b (by omega)), qR_bk o2 hr1, ?_⟩
  · unfold fX12_asBest
    rw [e1, b_q, e2, b_q]
  · rw [q]
    exact bst_congr (fun s hs => rfL_0 hB (bw B) (bw_n hB).2.2 s hs)
/-- a thing gone at first -/
def G1 (t : Nat) : Cg := (1 <<< (nI t &&& 31), -1, -1, -1)
theorem okG_1 {B : Bk} {t : Nat} (ht : t < 8) : okG B (G1 t) := ⟨fun u hu => by
  show zm (1 <<< (nI t &&& 31)) u = false
  rw [m_shl8 ht, decide_eq_false (by omega)], Or.inl ⟨rfl, rfl⟩⟩
theorem r_without {T : zT} (hT : iT T) {B : Bk} (hB : okB B) {t : Nat} (ht : t < 8) {S : zS} (hr : bkR S.1 B) : ∃ r S', fX12_without T 187 (nI t) S = some (r, S') ∧ fP S S' ∧ bkR S'.1 B ∧ r.toInt = bst (rfL B (G1 t) 0 (B.1 6 2).toInt (bw B)) 256 := by
  obtain ⟨S1, e1, j1, f1, c1, h55, h59⟩ := r_asItIs hT hr
  have f2 : ∀ a b, ¬ (a = 187 ∧ 54 ≤ b ∧ b ≤ 59) → (zI S1 187 54 (1 <<< (nI t &&& 31))).1 a b = S.1 a b := by
    intro a b h
    by_cases z : a = 187
    · subst z; rw [zI_eq, if_neg (fun q => h ⟨rfl, by omega⟩)]; exact f1 _ _ h
    · rw [zI_ne z]; exact f1 _ _ h
  have hr2 : bkR (zI S1 187 54 (1 <<< (nI t &&& 31))).1 B := bkR_cg (fun a b hb => f2 a b (fun z => by
    rw [z.1] at hb
    exact absurd hb (by unfold rN; simp))) hr
  have c2 : cfR (zI S1 187 54 (1 <<< (nI t &&& 31))) (G1 t) := ⟨by rw [zI_eq, if_pos rfl]; rfl, by rw [zI_eq, if_neg (by decide)]; exact c1.2.1, by rw [zI_eq, if_neg (by decide)]; exact c1.2.2.1, by rw [zI_eq, if_neg (by decide)]; exact c1.2.2.2⟩
  obtain ⟨d1, d2⟩ := hB.2.2.2.1
  obtain ⟨r, S2, e2, o2, q⟩ := r_mostCoin hT hB (okG_1 ht) (h := 0) (c := B.1 6 2) (by decide) (by omega) hr2 c2 (by rw [zI_eq, if_neg (by decide)]; exact h55) (by rw [zI_eq, if_neg (by decide)]; exact h59)
  rw [if_neg (show ¬ (B.1 6 2).toInt < 0 by omega)] at q
  refine ⟨r, S2, ?_, fun a b h => (o2.1 a b (by omega)).trans (f2 a b (by omega)), qR_bk o2 hr2, q⟩
  unfold fX12_without
  rw [e1, b_q, let_q, e2, b_q]
