/-- what a week's end leaves -/
def fE (S S' : zS) : Prop := ∀ a b, ¬ (a = 166 ∧ (b = 3 ∨ b = 7 ∨ b = 8)) → a ≠ 170 → a ≠ 171 → S'.1 a b = S.1 a b
def fG (S S' : zS) : Prop := ∀ a b, ¬ (a = 187 ∧ (b = 48 ∨ b = 50 ∨ b = 51)) → S'.1 a b = S.1 a b
theorem rlF_E {B : Bk} {Sc Sr Sc' Sr' : zS} (h : rlF B Sc Sr) (hc : fE Sc Sc') (hr : fG Sr Sr') : rlF B Sc' Sr' := by
  refine ⟨fun t ht hz => ?_, fun t ht => ?_, ?_⟩
  · rw [hc _ _ (by omega) (by omega) (by omega), hc _ _ (by omega) (by omega) (by omega), hc _ _ (by omega) (by omega) (by omega)]
    exact h.1 t ht hz
  · rw [hc _ _ (by omega) (by omega) (by omega), hr _ _ (by omega)]; exact h.2.1 t ht
  · rw [hc _ _ (by omega) (by omega) (by omega)]; exact h.2.2
section
variable {T : zT} {B : Bk} {Sc Sr : zS} {w : Nat} {cap : Int}
theorem need2 (hT : iT T) (hB : okB B) (hw : w < 60) (hc : bkC Sc 7 B) (hr : bkR Sr.1 B) (rel : lfR B w cap Sc Sr) (hcap : cap < 2147483648) (hwl : wel Sc Sr) : ∃ Sc' r Sr', fX4_endWeek_b35 T 166 (nI w) (linn Sc) Sc = some ((), Sc') ∧ rNeed T (nI w) (Sc.1 166 4) (linn Sc) Sr = some (r, Sr') ∧ lfR B (w + 1) cap Sc' Sr' ∧ (r = 1 ∧ wel Sc' Sr' ∨ r = 0 ∧ brk w Sc' Sr') ∧ fE Sc Sc' ∧ fG Sr Sr' ∧ Sr'.2 187 52 = Sr.2 187 52 ∧ Sr'.1 187 51 = Sr.1 187 51 := by
  obtain ⟨⟨r1, S6⟩, e1, p1, o1⟩ := c_need hT (w := nI w) (S := Sc) hc rel.1.1 (linn8 hB hc)
  obtain ⟨⟨r2, S9⟩, e2, p2, o2⟩ := r_ern hT (Or.inr rfl) (w := nI w) (S := Sr) hr rel.1.1 (linn8 hB hc)
  have p1' : r1 = bern B 2 (nI w) (Sc.1 166 4) (linn Sc) := p1
  have p2' : r2 = r1 := p2.trans p1'.symm
  subst p2'
  have o1a : S6.1 = Sc.1 := o1.1
  have o2a : S9.1 = Sr.1 := o2.1
  have hb : btw r2 0 239976 := by rw [p1']; exact bern_btw hB (Or.inr rfl) _ _ _
  obtain ⟨e48, hcn⟩ := rel.2.2.1
  unfold fX4_endWeek_b35 rNeed
  have e2' : fX12_comes T 187 2 (Sc.1 166 4) (linn Sc) (nI w) Sr = some (r2, S9) := e2
  rw [zT_166_0 hT, zT_166_1 hT, e1, b_q, e2', b_q, o1a, o2a, e48]
  have dr9 : S9.2 187 52 = Sr.2 187 52 := o2.2 _ _ (by decide) (by decide)
  have rel6 : lfR B w cap S6 S9 := lfR_e rel o1a o2a
  by_cases q : r2 ≤ Sc.1 166 3
  · rw [if_pos q, if_pos q]
    simp only [let_q]
    unfold fX4_endWeek_b106
    rw [if_neg (by rw [n_leL (by omega) (by omega)]; omega), g_in hw (by decide), g_in hw (by decide)]
    simp only [let_q, zT_166_9 hT, zT_166_10 hT, tn_nI (show w < 2147483648 by omega), zI_eqs, n_addL]
    have e4 : (zI (zI S6 166 3 (Sc.1 166 3 - r2)) 170 w (Sc.1 166 3 - r2)).1 166 4 = Sc.1 166 4 := by
      rw [zI_ne (by decide), zI_eqn (by decide), o1a]
    rw [e4]
    refine ⟨_, _, _, rfl, rfl, lfR_w (lfR_J rel6 ?_ ?_ ?_ ?_) (by omega), Or.inl ⟨rfl, ?_⟩, ?_, ?_, dr9, ?_⟩
    · intro a b n1 n2 n3
      rw [zI_o (by omega), zI_o (by omega), zI_o (by omega), zI_o (by omega)]
    · intro a b n1 n2 n3
      rw [zI_o (by omega)]
    · simp (decide := true) only [zI_eqn, zI_eqs, zI_ne]
    · simp (decide := true) only [zI_eqn, zI_eqs, zI_ne]
      have h2 := z_le.mp q
      obtain ⟨p3, p4⟩ := hcn
      obtain ⟨p5, p6⟩ := hb
      unfold btw
      rw [z_sub (by omega) (by omega)]
      omega
    · unfold wel
      simp (decide := true) only [zI_eqn, zI_ne, o1a, o2a]
      exact hwl
    · intro a b n1 n2 n3
      rw [zI_o (by omega), zI_o (by omega), zI_o (by omega), zI_o (by omega), o1a]
    · intro a b n1
      rw [zI_o (by omega), o2a]
    · rw [zI_eqn (by decide), o2a]
  · rw [if_neg q, if_neg q]
    simp only [let_q]
    refine ⟨_, _, _, rfl, rfl, lfR_w (lfR_J rel6 ?_ ?_ ?_ ?_) (by omega), Or.inr ⟨rfl, ?_⟩, ?_, ?_, dr9, ?_⟩
    · intro a b n1 n2 n3
      rw [zI_o (by omega)]
    · intro a b n1 n2 n3
      rw [zI_o (by omega)]
    · simp (decide := true) only [zI_eqn, o1a, o2a]
      exact e48
    · simp (decide := true) only [zI_eqn, o1a]
      exact hcn
    · unfold brk
      simp (decide := true) only [zI_eqn, zI_eqs, o1a, o2a]
      exact ⟨hwl.1, hwl.2.2.1, trivial⟩
    · intro a b n1 n2 n3
      rw [zI_o (by omega), o1a]
    · intro a b n1
      rw [zI_o (by omega), o2a]
    · rw [zI_eqn (by decide), o2a]
theorem ends_sim (hT : iT T) (hB : okB B) (hw : w < 60) (hc : bkC Sc 7 B) (hr : bkR Sr.1 B) (rel : lfR B w cap Sc Sr) (hcap : cap + 240000 < 2147483648) (hwl : wel Sc Sr) (wk : Int32) : ∃ Sc' r Sr', fX4_endWeek T 166 (nI w) wk Sc = some ((), Sc') ∧ fX12_ends T 187 (nI w) wk Sr = some (r, Sr') ∧ lfR B (w + 1) (cap + 240000) Sc' Sr' ∧ (r = 1 ∧ wel Sc' Sr' ∨ r = 0 ∧ brk w Sc' Sr') ∧ fE Sc Sc' ∧ fG Sr Sr' ∧ Sr'.2 187 52 = Sr.2 187 52 ∧ Sr'.1 187 51 = Sr.1 187 51 := by
  obtain ⟨e48, hcn⟩ := rel.2.2.1
  have hends : fX12_ends T 187 (nI w) wk Sr = if wk = 0 then rNeed T (nI w) (Sc.1 166 4) (linn Sc) (zI Sr 187 48 (Sr.1 187 48 + 0)) else zb (fX12_comes T 187 1 (Sc.1 166 4) (linn Sc) (nI w) Sr) (fun r13 S15 => rNeed T (nI w) (Sc.1 166 4) (linn Sc) (zI S15 187 48 (Sr.1 187 48 + r13))) := by
    unfold fX12_ends
    rw [r_home hT hr rel.1, b1_q, r_in hT hB hc hr rel.1, b1_q]
    unfold fX12_ends_b35 rNeed
    rfl
  have hC : fX4_endWeek T 166 (nI w) wk Sc = if wk = 0 then fX4_endWeek_b35 T 166 (nI w) (linn Sc) Sc else zb (fX0_earnings T 7 163 (nI w) (Sc.1 166 4) (linn Sc) Sc) fun r16 S18 => zlet (zI S18 166 3 ((Sc.1 166 3) + r16)) fun S19 => fX4_endWeek_b35 T 166 (nI w) (linn Sc) S19 := by
    unfold fX4_endWeek
    rw [v_thingsIn hT, b1_q, zT_166_0 hT, zT_166_1 hT]
  rw [hends, hC]
  by_cases q : wk = 0
  · rw [if_pos q, if_pos q]
    have e0 : zI Sr 187 48 (Sr.1 187 48 + 0) = Sr := by
      refine Prod.ext (funext fun a => funext fun b => ?_) rfl
      rw [zI_at]
      by_cases z : a = 187 ∧ b = 48
      · rw [if_pos z, z.1, z.2, Int32.add_zero]
      · rw [if_neg z]
    rw [e0]
    obtain ⟨Sc', r, Sr', g1, g2, g3, g4⟩ := need2 hT hB hw hc hr rel (by omega) hwl
    exact ⟨Sc', r, Sr', g1, g2, lfR_cap g3 (by omega), g4⟩
  · rw [if_neg q, if_neg q]
    obtain ⟨⟨r1, S18⟩, e1, p1, o1⟩ := c_ern hT (w := nI w) (S := Sc) hc rel.1.1 (linn8 hB hc)
    obtain ⟨⟨r2, S15⟩, e2, p2, o2⟩ := r_ern hT (Or.inl rfl) (w := nI w) (S := Sr) hr rel.1.1 (linn8 hB hc)
    have p1' : r1 = bern B 1 (nI w) (Sc.1 166 4) (linn Sc) := p1
    have p2' : r2 = r1 := p2.trans p1'.symm
    subst p2'
    have o1a : S18.1 = Sc.1 := o1.1
    have o2a : S15.1 = Sr.1 := o2.1
    have hb : btw r2 0 239976 := by rw [p1']; exact bern_btw hB (Or.inl rfl) _ _ _
    have e2' : fX12_comes T 187 1 (Sc.1 166 4) (linn Sc) (nI w) Sr = some (r2, S15) := e2
    rw [e1, e2', b_q, b_q, let_q, e48]
    have rel6 : lfR B w cap S18 S15 := lfR_e rel o1a o2a
    have gc1 : fE Sc (zI S18 166 3 (Sc.1 166 3 + r2)) := fun a b n1 n2 n3 => by rw [zI_o (by omega), o1a]
    have gr1 : fG Sr (zI S15 187 48 (Sc.1 166 3 + r2)) := fun a b n1 => by rw [zI_o (by omega), o2a]
    have elin : linn (zI S18 166 3 (Sc.1 166 3 + r2)) = linn Sc := by
      unfold linn
      simp (decide := true) only [zI_eqn, zI_ne, o1a]
    have e4 : (zI S18 166 3 (Sc.1 166 3 + r2)).1 166 4 = Sc.1 166 4 := by rw [zI_eqn (by decide), o1a]
    have rel7 : lfR B w (cap + 240000) (zI S18 166 3 (Sc.1 166 3 + r2)) (zI S15 187 48 (Sc.1 166 3 + r2)) := by
      refine lfR_J rel6 ?_ ?_ ?_ ?_
      · intro a b n1 n2 n3
        rw [zI_o (by omega)]
      · intro a b n1 n2 n3
        rw [zI_o (by omega)]
      · rw [zI_eqs, zI_eqs]
      · rw [zI_eqs]
        obtain ⟨p3, p4⟩ := hcn
        obtain ⟨p5, p6⟩ := hb
        unfold btw
        rw [z_add (by omega) (by omega)]
        omega
    have hwl7 : wel (zI S18 166 3 (Sc.1 166 3 + r2)) (zI S15 187 48 (Sc.1 166 3 + r2)) := by
      unfold wel
      simp (decide := true) only [zI_eqn, o1a, o2a]
      exact hwl
    obtain ⟨Sc', r, Sr', g1, g2, g3, g4, g5, g6, g7, g8⟩ := need2 hT hB hw (bkC_cg (fun a b _ _ => gc1 a b (by omega) (by omega) (by omega)) hc) (bkR_cg (fun a b hab => by have := rN_big hab; exact gr1 a b (by omega)) hr) rel7 (by omega) hwl7
    rw [elin] at g1 g2
    rw [e4] at g2
    exact ⟨Sc', r, Sr', g1, g2, g3, g4, fun a b n1 n2 n3 => (g5 a b n1 n2 n3).trans (gc1 a b n1 n2 n3), fun a b n1 => (g6 a b n1).trans (gr1 a b n1), g7.trans (o2.2 _ _ (by decide) (by decide)), g8.trans (by rw [zI_eqn (by decide), o2a])⟩
end
