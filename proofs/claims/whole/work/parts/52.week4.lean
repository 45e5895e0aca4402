section
variable {T : zT} {B : Bk} {Sc Sr : zS} {w : Nat} {cap : Int}
theorem b_iff {a b : Bool} (h : a = true ↔ b = true) : a = b := by cases a <;> cases b <;> simp_all
theorem r199 (hr : bkR Sr.1 B) {t : Nat} (ht : t < 8) : Sr.1 199 t = 1 ↔ zm (bth B) t = true := by
  rw [hr.1 t ht]
  cases zm (bth B) t <;> simp <;> decide
theorem r_home (hT : iT T) (hr : bkR Sr.1 B) (h : lfP B Sc Sr) : fX12_placed T 187 1 Sr = some (Sc.1 166 4) := by
  obtain ⟨p, e, i8, hp⟩ := r_placed hT (c := 1) (S := Sr)
  obtain ⟨a1, a2, a3, a4, a5⟩ := h
  rw [e]
  congr 1
  refine is8_ext i8 a1 (fun t ht => b_iff ?_)
  rw [hp t ht, a5 t ht, plc_home, r199 hr ht]
  exact ⟨fun z => z.1, fun z => ⟨z, (a3 t ht z).1⟩⟩
theorem linn8 (hB : okB B) (hc : bkC Sc 7 B) : is8 (linn Sc) := by
  unfold linn
  rw [bkC_th hc]
  exact is8_and (is8_and hB.1)
theorem r_in (hT : iT T) (hB : okB B) (hc : bkC Sc 7 B) (hr : bkR Sr.1 B) (h : lfP B Sc Sr) : fX12_placed T 187 0 Sr = some (linn Sc) := by
  obtain ⟨p, e, i8, hp⟩ := r_placed hT (c := 0) (S := Sr)
  obtain ⟨a1, a2, a3, a4, a5⟩ := h
  rw [e]
  congr 1
  refine is8_ext i8 (linn8 hB hc) (fun t ht => b_iff ?_)
  rw [hp t ht, a5 t ht, plc_in a3 ht, r199 hr ht]
  unfold linn
  rw [bkC_th hc]
  refine ⟨fun z => z.1, fun z => ⟨z, ?_⟩⟩
  rw [m_dif, m_dif] at z
  cases q : zm (bth B) t <;> simp_all
theorem r_gone (hT : iT T) (hr : bkR Sr.1 B) (h : lfP B Sc Sr) : fX12_placed T 187 2 Sr = some (Sc.1 166 5) := by
  obtain ⟨p, e, i8, hp⟩ := r_placed hT (c := 2) (S := Sr)
  obtain ⟨a1, a2, a3, a4, a5⟩ := h
  rw [e]
  congr 1
  refine is8_ext i8 a2 (fun t ht => b_iff ?_)
  rw [hp t ht, a5 t ht, r199 hr ht]
  exact plc_gone a3 a4 ht
/-- the class's coin goes up or down, the reference's too -/
theorem lfR_J {w : Int} (rel : lfR B w cap Sc Sr) {Sc' Sr' : zS} (ec : ∀ a b, ¬ (a = 166 ∧ (b = 3 ∨ b = 6 ∨ b = 7 ∨ b = 8)) → a ≠ 170 → a ≠ 171 → Sc'.1 a b = Sc.1 a b) (er : ∀ a b, ¬ (a = 187 ∧ 48 ≤ b) → a ≠ 220 → a ≠ 221 → Sr'.1 a b = Sr.1 a b) {cap' : Int} (e : Sr'.1 187 48 = Sc'.1 166 3) (hb : btw (Sc'.1 166 3) 0 cap') : lfR B w cap' Sc' Sr' := by
  refine ⟨lfP_eq rel.1 (ec _ _ (by omega) (by omega) (by omega)) (ec _ _ (by omega) (by omega) (by omega)) (fun u _ => er _ _ (by omega) (by omega) (by omega)), lfT_eq rel.2.1 ?_ ?_ ?_ ?_ ?_ ?_ ?_ ?_, ⟨e, hb⟩, ?_⟩
  · intro u; exact ec _ _ (by omega) (by omega) (by omega)
  · intro u; exact ec _ _ (by omega) (by omega) (by omega)
  · intro u; exact ec _ _ (by omega) (by omega) (by omega)
  · exact ec _ _ (by omega) (by omega) (by omega)
  · intro u; exact er _ _ (by omega) (by omega) (by omega)
  · intro u; exact er _ _ (by omega) (by omega) (by omega)
  · intro u; exact er _ _ (by omega) (by omega) (by omega)
  · intro u; exact er _ _ (by omega) (by omega) (by omega)
  · unfold lfL
    rw [ec _ _ (by omega) (by omega) (by omega), er _ _ (by omega) (by omega) (by omega)]
    exact rel.2.2.2
theorem lfR_w {w w' : Int} (rel : lfR B w cap Sc Sr) (h : w ≤ w') : lfR B w' cap Sc Sr := ⟨rel.1, lfT_w rel.2.1 h, rel.2.2⟩
/-- the reference's end of a week, as it stands in its loop -/
noncomputable def rEnd (T : zT) (x1 x2 x3 x4 : Int32) (r30 : Int32) (S32 : zS) : Option ((Int32 × Int32 × zS) ⊕ (Int32 × zS)) := if r30 = 0 then fX12_goesBy_b238 T 187 x1 x2 x3 x4 S32 else zgd (zin x4 60) (zlet (zI S32 (zr T 187 44) (x4 : Int32).toNatClampNeg (S32.1 187 48)) fun S35 => zb1 (fX12_placed T 187 1 S35) fun r36 => zgd (zin x4 60) (zlet (zI S35 (zr T 187 45) (x4 : Int32).toNatClampNeg r36) fun S39 => zlet (zI S39 187 51 ((S39.1 187 51) + 1)) fun S40 => fX12_goesBy_b238 T 187 x1 x2 x3 x4 S40))
noncomputable def rNeed (T : zT) (x4 home inn : Int32) (S6 : zS) : Option (Int32 × zS) := zb (fX12_comes T 187 2 home inn x4 S6) fun r7 S9 => if r7 ≤ (S9.1 187 48) then zlet (zI S9 187 48 ((S9.1 187 48) - r7)) fun S11 => some (1, S11) else zlet (zI S9 187 50 x4) fun S12 => some (0, S12)
theorem need_sim (hT : iT T) (hB : okB B) (hw : w < 60) (hc : bkC Sc 7 B) (hr : bkR Sr.1 B) (rel : lfR B w cap Sc Sr) (hcap : cap < 2147483648) (hwl : wel Sc Sr) (hd : lfD w Sc Sr) : ∃ Sc' Sr', fX4_endWeek_b35 T 166 (nI w) (linn Sc) Sc = some ((), Sc') ∧ (∀ x1 x2 x3, zb (rNeed T (nI w) (Sc.1 166 4) (linn Sc) Sr) (rEnd T x1 x2 x3 (nI w)) = some (.inl (x3, nI (w + 1), Sr'))) ∧ lfR B (w + 1) cap Sc' Sr' ∧ (wel Sc' Sr' ∧ lfD (w + 1) Sc' Sr' ∨ brk w Sc' Sr' ∧ lfD w Sc' Sr') ∧ gC Sc Sc' ∧ gR Sr Sr' := by
  obtain ⟨⟨r1, S6⟩, e1, p1, o1⟩ := c_need hT (w := nI w) (S := Sc) hc rel.1.1 (linn8 hB hc)
  obtain ⟨⟨r2, S9⟩, e2, p2, o2⟩ := r_ern hT (Or.inr rfl) (w := nI w) (S := Sr) hr rel.1.1 (linn8 hB hc)
  have p1' : r1 = bern B 2 (nI w) (Sc.1 166 4) (linn Sc) := p1
  have p2' : r2 = r1 := p2.trans p1'.symm
  subst p2'
  have o1a : S6.1 = Sc.1 := o1.1
  have o2a : S9.1 = Sr.1 := o2.1
  have hb : btw r2 0 239976 := by rw [p1']; exact bern_btw hB (Or.inr rfl) _ _ _
  obtain ⟨e48, hcn⟩ := rel.2.2.1
  unfold fX4_endWeek_b35 rNeed
  have e2' : fX12_comes T 187 2 (Sc.1 166 4) (linn Sc) (nI w) Sr = some (r2, S9) := e2
  rw [zT_166_0 hT, zT_166_1 hT, e1, b_q, e2', b_q, o1a, o2a, e48]
  have gc1 : gC Sc S6 := gC_J o1
  have gr1 : gR Sr S9 := gR_J o2
  have rel6 : lfR B w cap S6 S9 := by unfold lfR lfP lfT lfC lfL at rel ⊢; rw [o1a, o2a]; exact rel
  by_cases q : r2 ≤ Sc.1 166 3
  · rw [if_pos q, if_pos q]
    simp only [let_q, b_q]
    have eh : fX12_placed T 187 1 (zI (zI S9 187 48 (Sc.1 166 3 - r2)) 220 w (Sc.1 166 3 - r2)) = some (Sc.1 166 4) := by
      refine r_home hT (bkR_g (gR_z (by omega) (gR_z (by omega) gr1)) hr) (Sc := Sc) ?_
      refine lfP_eq rel.1 rfl rfl (fun u _ => ?_)
      rw [zI_ne (by decide), zI_ne (by decide), o2a]
    unfold fX4_endWeek_b106 rEnd fX12_goesBy_b238
    rw [if_neg (by rw [n_leL (by omega) (by omega)]; omega), g_in hw (by decide), g_in hw (by decide)]
    simp only [if_neg (show ¬ (1 : Int32) = 0 by decide), g_in hw (show 60 < 2147483648 by decide), let_q, zT_187_44 hT, zT_187_45 hT, zT_166_9 hT, zT_166_10 hT, tn_nI (show w < 2147483648 by omega), zI_eqs, eh, b1_q, n_addL]
    have e51 : (zI (zI (zI S9 187 48 (Sc.1 166 3 - r2)) 220 w (Sc.1 166 3 - r2)) 221 w (Sc.1 166 4)).1 187 51 = nI w := by
      rw [zI_ne (by decide), zI_ne (by decide), zI_eqn (by decide), o2a]; exact hd.2.1
    have e4 : (zI (zI S6 166 3 (Sc.1 166 3 - r2)) 170 w (Sc.1 166 3 - r2)).1 166 4 = Sc.1 166 4 := by
      rw [zI_ne (by decide), zI_eqn (by decide), o1a]
    rw [e51, e4, n_addL]
    refine ⟨_, _, rfl, fun _ _ _ => rfl, lfR_w (lfR_J rel6 ?_ ?_ ?_ ?_) (by omega), Or.inl ⟨?_, ?_⟩, gC_z (by omega) (gC_z (by omega) (gC_z (by omega) (gC_z (by omega) gc1))), gR_z (by omega) (gR_z (by omega) (gR_z (by omega) (gR_z (by omega) gr1)))⟩
    · intro a b n1 n2 n3
      rw [zI_o (by omega), zI_o (by omega), zI_o (by omega), zI_o (by omega)]
    · intro a b n1 n2 n3
      rw [zI_o (by omega), zI_o (by omega), zI_o (by omega), zI_o (by omega)]
    · simp (decide := true) only [zI_eqn, zI_eqs, zI_ne]
    · simp (decide := true) only [zI_eqn, zI_eqs, zI_ne]
      have h2 := z_le.mp q
      obtain ⟨p3, p4⟩ := hcn
      obtain ⟨p5, p6⟩ := hb
      unfold btw
      rw [z_sub (by omega) (by omega)]
      omega
    · unfold wel
      simp (decide := true) only [zI_eqn, zI_ne, o1a, o2a]
      exact hwl
    · unfold lfD
      simp (decide := true) only [zI_eqn, zI_ne, zI_eqs, zI_eq, o1a, o2a]
      refine ⟨trivial, trivial, fun i hi => ?_⟩
      by_cases z : i = w
      · rw [if_pos z, if_pos z, if_pos z, if_pos z]
        exact ⟨rfl, rfl⟩
      · rw [if_neg z, if_neg z, if_neg z, if_neg z]
        exact hd.2.2 i (by omega)
  · rw [if_neg q, if_neg q]
    simp only [let_q, b_q]
    unfold rEnd fX12_goesBy_b238
    simp only [if_pos (show (0 : Int32) = 0 from rfl), if_true, let_q, n_addL]
    refine ⟨_, _, rfl, fun _ _ _ => rfl, lfR_w (lfR_J rel6 ?_ ?_ ?_ ?_) (by omega), Or.inr ⟨?_, ?_⟩, gC_z (by omega) gc1, gR_z (by omega) gr1⟩
    · intro a b n1 n2 n3
      rw [zI_o (by omega)]
    · intro a b n1 n2 n3
      rw [zI_o (by omega)]
    · simp (decide := true) only [zI_eqn, o1a, o2a]
      exact e48
    · simp (decide := true) only [zI_eqn, o1a]
      exact hcn
    · unfold brk
      simp (decide := true) only [zI_eqn, zI_eqs, o1a, o2a]
      exact ⟨hwl.1, hwl.2.2.1, trivial⟩
    · unfold lfD
      simp (decide := true) only [zI_eqn, zI_ne, o1a, o2a]
      exact hd
theorem end_sim (hT : iT T) (hB : okB B) (hw : w < 60) (hc : bkC Sc 7 B) (hr : bkR Sr.1 B) (rel : lfR B w cap Sc Sr) (hcap : cap + 240000 < 2147483648) (hwl : wel Sc Sr) (hd : lfD w Sc Sr) (wk : Int32) : ∃ Sc' Sr', fX4_endWeek T 166 (nI w) wk Sc = some ((), Sc') ∧ (∀ x1 x2 x3, fX12_goesBy_b178 T 187 x1 x2 x3 (nI w) wk Sr = some (.inl (x3, nI (w + 1), Sr'))) ∧ lfR B (w + 1) (cap + 240000) Sc' Sr' ∧ (wel Sc' Sr' ∧ lfD (w + 1) Sc' Sr' ∨ brk w Sc' Sr' ∧ lfD w Sc' Sr') ∧ gC Sc Sc' ∧ gR Sr Sr' := by
  obtain ⟨e48, hcn⟩ := rel.2.2.1
  have e178 : ∀ x1 x2 x3, fX12_goesBy_b178 T 187 x1 x2 x3 (nI w) wk Sr = zb (fX12_ends T 187 (nI w) wk Sr) (rEnd T x1 x2 x3 (nI w)) := by
    intro x1 x2 x3
    unfold fX12_goesBy_b178 rEnd
    rw [if_pos hwl.2.2.2, if_pos hwl.2.2.1]
  have hends : fX12_ends T 187 (nI w) wk Sr = if wk = 0 then rNeed T (nI w) (Sc.1 166 4) (linn Sc) (zI Sr 187 48 (Sr.1 187 48 + 0)) else zb (fX12_comes T 187 1 (Sc.1 166 4) (linn Sc) (nI w) Sr) (fun r13 S15 => rNeed T (nI w) (Sc.1 166 4) (linn Sc) (zI S15 187 48 (Sr.1 187 48 + r13))) := by
    unfold fX12_ends
    rw [r_home hT hr rel.1, b1_q, r_in hT hB hc hr rel.1, b1_q]
    unfold fX12_ends_b35 rNeed
    rfl
  have hC : fX4_endWeek T 166 (nI w) wk Sc = if wk = 0 then fX4_endWeek_b35 T 166 (nI w) (linn Sc) Sc else zb (fX0_earnings T 7 163 (nI w) (Sc.1 166 4) (linn Sc) Sc) fun r16 S18 => zlet (zI S18 166 3 ((Sc.1 166 3) + r16)) fun S19 => fX4_endWeek_b35 T 166 (nI w) (linn Sc) S19 := by
    unfold fX4_endWeek
    rw [v_thingsIn hT, b1_q, zT_166_0 hT, zT_166_1 hT]
  simp only [e178, hends, hC]
  by_cases q : wk = 0
  · rw [if_pos q, if_pos q]
    have e0 : zI Sr 187 48 (Sr.1 187 48 + 0) = Sr := by
      refine Prod.ext (funext fun a => funext fun b => ?_) rfl
      rw [zI_at]
      by_cases z : a = 187 ∧ b = 48
      · rw [if_pos z, z.1, z.2, Int32.add_zero]
      · rw [if_neg z]
    rw [e0]
    obtain ⟨Sc', Sr', g1, g2, g3, g4, g5, g6⟩ := need_sim hT hB hw hc hr rel (by omega) hwl hd
    exact ⟨Sc', Sr', g1, g2, lfR_cap g3 (by omega), g4, g5, g6⟩
  · rw [if_neg q, if_neg q]
    obtain ⟨⟨r1, S18⟩, e1, p1, o1⟩ := c_ern hT (w := nI w) (S := Sc) hc rel.1.1 (linn8 hB hc)
    obtain ⟨⟨r2, S15⟩, e2, p2, o2⟩ := r_ern hT (Or.inl rfl) (w := nI w) (S := Sr) hr rel.1.1 (linn8 hB hc)
    have p1' : r1 = bern B 1 (nI w) (Sc.1 166 4) (linn Sc) := p1
    have p2' : r2 = r1 := p2.trans p1'.symm
    subst p2'
    have o1a : S18.1 = Sc.1 := o1.1
    have o2a : S15.1 = Sr.1 := o2.1
    have hb : btw r2 0 239976 := by rw [p1']; exact bern_btw hB (Or.inl rfl) _ _ _
    have e2' : fX12_comes T 187 1 (Sc.1 166 4) (linn Sc) (nI w) Sr = some (r2, S15) := e2
    rw [e1, e2', b_q, b_q, let_q, e48]
    have rel6 : lfR B w cap S18 S15 := by unfold lfR lfP lfT lfC lfL at rel ⊢; rw [o1a, o2a]; exact rel
    have gc1 : gC Sc (zI S18 166 3 (Sc.1 166 3 + r2)) := gC_z (by omega) (gC_J o1)
    have gr1 : gR Sr (zI S15 187 48 (Sc.1 166 3 + r2)) := gR_z (by omega) (gR_J o2)
    have elin : linn (zI S18 166 3 (Sc.1 166 3 + r2)) = linn Sc := by
      unfold linn
      simp (decide := true) only [zI_eqn, zI_ne, o1a]
    have e4 : (zI S18 166 3 (Sc.1 166 3 + r2)).1 166 4 = Sc.1 166 4 := by rw [zI_eqn (by decide), o1a]
    have rel7 : lfR B w (cap + 240000) (zI S18 166 3 (Sc.1 166 3 + r2)) (zI S15 187 48 (Sc.1 166 3 + r2)) := by
      refine lfR_J rel6 ?_ ?_ ?_ ?_
      · intro a b n1 n2 n3
        rw [zI_o (by omega)]
      · intro a b n1 n2 n3
        rw [zI_o (by omega)]
      · rw [zI_eqs, zI_eqs]
      · rw [zI_eqs]
        obtain ⟨p3, p4⟩ := hcn
        obtain ⟨p5, p6⟩ := hb
        unfold btw
        rw [z_add (by omega) (by omega)]
        omega
    have hwl7 : wel (zI S18 166 3 (Sc.1 166 3 + r2)) (zI S15 187 48 (Sc.1 166 3 + r2)) := by
      unfold wel
      simp (decide := true) only [zI_eqn, o1a, o2a]
      exact hwl
    have hd7 : lfD w (zI S18 166 3 (Sc.1 166 3 + r2)) (zI S15 187 48 (Sc.1 166 3 + r2)) := by
      unfold lfD
      simp (decide := true) only [zI_eqn, zI_ne, o1a, o2a]
      exact hd
    obtain ⟨Sc', Sr', g1, g2, g3, g4, g5, g6⟩ := need_sim hT hB hw (bkC_g gc1 hc) (bkR_g gr1 hr) rel7 (by omega) hwl7 hd7
    rw [elin] at g1 g2
    rw [e4] at g2
    exact ⟨Sc', Sr', g1, g2, g3, g4, gC_tr gc1 g5, gR_tr gr1 g6⟩
end
