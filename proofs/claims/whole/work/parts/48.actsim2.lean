theorem z_half {x : Int32} (h : 0 ≤ x.toInt) : (x / 2).toInt = x.toInt / 2 := by
  rw [Int32.toInt_div_of_ne_right _ _ (by decide)]
  show x.toInt.tdiv 2 = _
  exact Int.tdiv_eq_ediv_of_nonneg h
section
variable {T : zT} {B : Bk} {Sc Sr : zS} {w k t : Nat} {cap : Int}
theorem sim_P (hT : iT T) (hB : okB B) (hw : w < 60) (hc : bkC Sc 7 B) (hr : bkR Sr.1 B) (rel : lfR B w cap Sc Sr) (ht : t < 8) (hz : zm (bth B) t = true) (hcap : cap + 10000 < 2147483648) (hk : k < 60) (h1 : Sr.1 213 k = nI w) (h2 : Sr.1 214 k = 1) (h3 : Sr.1 215 k = nI t) : ∃ r Sc' Sr', fX4_putOne T 166 (nI t) (nI w) Sc = some (r, Sc') ∧ fX12_does T 187 (nI k) Sr = some (r, Sr') ∧ (r = 0 ∨ r = 1) ∧ lfR B w (cap + 10000) Sc' Sr' ∧ fC Sc Sc' ∧ fR Sr Sr' := by
  rw [v_putOne hT ht, r_doP hT hk ht h1 h2 h3]
  obtain ⟨e48, hcn⟩ := rel.2.2.1
  have eC : Sc.1 11 t = B.1 3 t := hc.2.1 t ht hz 3 (by decide)
  have eC2 : Sc.1 9 t = B.1 1 t := hc.2.1 t ht hz 1 (by decide)
  have eR : Sr.1 203 t = B.1 3 t := hr.2.1 t ht 3 (by decide)
  have eR2 : Sr.1 201 t = B.1 1 t := hr.2.1 t ht 1 (by decide)
  have hs := (hB.2.1 t ht hz).2.2.2.1
  have hru := (hB.2.1 t ht hz).2.1
  have e216 := rel.1.2.2.2.2 t ht
  by_cases q : zm (Sc.1 166 4) t = true
  · rw [if_pos q, if_pos ⟨by rw [e216]; exact plc_home.mpr q, by rw [e48]; exact z_le.mpr hcn.1⟩]
    obtain ⟨l1, l2⟩ := rel.1.2.2.1 t ht q
    refine ⟨1, _, _, rfl, rfl, Or.inr rfl, ⟨?_, ?_, ⟨?_, ?_⟩, ?_⟩, ?_, ?_⟩
    · refine lfP_up ht rel.1 ?_ ?_ ?_ ?_ ?_ ?_ ?_ ?_
      · simp (decide := true) only [sPut, zI_ne, zI_eqn, zI_eqs]
        exact is8_and rel.1.1
      · simp (decide := true) only [sPut, zI_ne, zI_eqs, zI_eqn]
        exact rel.1.2.1
      · intro u hu hn
        simp (decide := true) only [sPut, zI_ne, zI_eqn, zI_eqs]
        exact m_an_ne ht hn
      · intro u hu hn
        simp (decide := true) only [sPut, zI_ne, zI_eqs, zI_eqn]
      · simp (decide := true) only [sPut, zI_ne, zI_eqn, zI_eqs]
        intro z
        rw [m_an_eq ht] at z; cases z
      · intro _; exact hz
      · simp (decide := true) only [sPut, rPut, zI_ne, zI_eqs, zI_eqn]
        unfold plc
        rw [if_neg (by rw [m_an_eq ht]; decide), if_pos ⟨l1, l2⟩]
      · intro u hu hn
        simp (decide := true) only [rPut, zI_ne, zI_eqn hn]
    · intro u hu hzu
      simp (decide := true) only [sPut, rPut, zI_ne, zI_eqs, zI_eqn, zI_eq]
      by_cases qu : u = t
      · subst qu
        simp only [if_true]
        rw [m_an_eq ht, if_neg (by decide), eC, eC2, eR, eR2]
        refine ⟨⟨rfl, rfl, trivial, rfl⟩, btw_le hs (by decide) (by decide), fun _ => hs, hru, ?_⟩
        unfold btw
        rw [nI_toInt (by omega)]
        omega
      · simp only [if_neg qu]
        rw [m_an_ne ht qu]
        exact rel.2.1 u hu hzu
    · simp (decide := true) only [sPut, rPut, zI_ne, zI_eqn, zI_eqs]
      rw [e48, eC, eR, Int32.sub_zero]
    · simp (decide := true) only [sPut, zI_ne, zI_eqn, zI_eqs]
      obtain ⟨p1, p2⟩ := hs
      obtain ⟨p3, p4⟩ := hcn
      unfold btw
      rw [eC, z_add (by omega) (by omega)]
      omega
    · unfold lfL
      simp (decide := true) only [sPut, rPut, zI_ne, zI_eqn]
      exact rel.2.2.2
    · exact fC_z (by omega) (fC_z (by omega) (fC_z (by omega) (fC_z (by omega) (fC_z (by omega) (fC_z (by omega) fC_refl)))))
    · exact fR_z (by omega) (fR_z (by omega) (fR_z (by omega) (fR_z (by omega) (fR_z (by omega) (fR_z (by omega) (fR_z (by omega) fR_refl))))))
  · rw [if_neg q, if_neg (fun z => q (plc_home.mp (by rw [← e216]; exact z.1)))]
    exact ⟨0, Sc, Sr, rfl, rfl, Or.inl rfl, lfR_cap rel (by omega), fC_refl, fR_refl⟩
theorem sim_H (hT : iT T) (hw : w < 60) (hc : bkC Sc 7 B) (rel : lfR B w cap Sc Sr) (ht : t < 8) (hz : zm (bth B) t = true) (hcap : cap + 10000 < 2147483648) (hk : k < 60) (h1 : Sr.1 213 k = nI w) (h2 : Sr.1 214 k = 3) (h3 : Sr.1 215 k = nI t) : ∃ r Sc' Sr', fX4_halveOne T 166 (nI t) (nI w) Sc = some (r, Sc') ∧ fX12_does T 187 (nI k) Sr = some (r, Sr') ∧ (r = 0 ∨ r = 1) ∧ lfR B w (cap + 10000) Sc' Sr' ∧ fC Sc Sc' ∧ fR Sr Sr' := by
  rw [v_halveOne hT ht, r_doH hT hk ht h1 h2 h3]
  have eo := lfr_owd rel ht hz (nI w)
  have hb := (lowd_btw (by omega) rel ht hz).2
  obtain ⟨e48, hcn⟩ := rel.2.2.1
  obtain ⟨⟨t1, t2, t3, t4⟩, -, -, t5, -⟩ := rel.2.1 t ht hz
  have eh : rhalf Sr t (nI w) = lhalf Sc t (nI w) := by unfold rhalf lhalf; rw [eo]
  have e222 : Sr.1 222 t = 0 ↔ zm (Sc.1 166 15) t = false := by
    rw [t4]
    cases q : zm (Sc.1 166 15) t <;> simp <;> decide
  by_cases q : (zm (linn Sc) t = true ∧ zm (Sc.1 166 15) t = false) ∧ lhalf Sc t (nI w) ≤ Sc.1 166 3
  · rw [if_pos q, if_pos ⟨⟨(lfr_in hc rel ht).mpr q.1.1, e222.mpr q.1.2⟩, by rw [eh, e48]; exact q.2⟩]
    obtain ⟨l1, l2, l3⟩ := linn_th hc q.1.1
    obtain ⟨p1, p2⟩ := hb q.1.2
    have ep : (lowd Sc t (nI w) + 1).toInt = (lowd Sc t (nI w)).toInt + 1 := z_add (y := 1) (by show _ ≤ _ + (1 : Int); omega) (by show _ + (1 : Int) < _; omega)
    have e2 : (lhalf Sc t (nI w)).toInt = ((lowd Sc t (nI w)).toInt + 1) / 2 := by unfold lhalf; rw [z_half (by omega), ep]
    have e216 := rel.1.2.2.2.2 t ht
    refine ⟨1, _, _, rfl, rfl, Or.inr rfl, ⟨?_, ?_, ⟨?_, ?_⟩, ?_⟩, ?_, ?_⟩
    · refine lfP_up ht rel.1 ?_ ?_ ?_ ?_ ?_ ?_ ?_ ?_
      · simp (decide := true) only [sHalve, zI_ne, zI_eqn]
        exact rel.1.1
      · simp (decide := true) only [sHalve, zI_ne, zI_eqn]
        exact rel.1.2.1
      · intro u hu hn
        simp (decide := true) only [sHalve, zI_ne, zI_eqn]
      · intro u hu hn
        simp (decide := true) only [sHalve, zI_ne, zI_eqn]
      · simp (decide := true) only [sHalve, zI_ne, zI_eqn]
        exact rel.1.2.2.1 t ht
      · intro _; exact hz
      · simp (decide := true) only [sHalve, rHalve, zI_ne, zI_eqs, zI_eqn]
        unfold plc
        rw [if_neg (by rw [l2]; decide), if_pos ⟨l1, l3⟩]
      · intro u hu hn
        simp (decide := true) only [rHalve, zI_ne, zI_eqn hn]
    · intro u hu hzu
      simp (decide := true) only [sHalve, rHalve, zI_ne, zI_eqs, zI_eqn, zI_eq]
      by_cases qu : u = t
      · subst qu
        simp only [if_true]
        rw [m_or_eq ht, if_pos rfl, eo, eh, t2]
        refine ⟨⟨rfl, rfl, trivial, rfl⟩, ?_, fun z => (by cases z), ?_, ?_⟩
        · unfold btw
          rw [z_sub (by omega) (by omega), e2]
          omega
        · unfold btw at t5 ⊢
          rw [z_half t5.1]
          omega
        · unfold btw
          rw [nI_toInt (by omega)]
          omega
      · simp only [if_neg qu]
        rw [m_or_ne ht qu]
        exact rel.2.1 u hu hzu
    · simp (decide := true) only [sHalve, rHalve, zI_ne, zI_eqn, zI_eqs]
      rw [e48, eh, Int32.add_zero]
    · simp (decide := true) only [sHalve, zI_ne, zI_eqn, zI_eqs]
      have h2 := z_le.mp q.2
      obtain ⟨p3, p4⟩ := hcn
      unfold btw
      rw [z_sub (by omega) (by omega)]
      omega
    · unfold lfL
      simp (decide := true) only [sHalve, rHalve, zI_ne, zI_eqn]
      exact rel.2.2.2
    · exact fC_z (by omega) (fC_z (by omega) (fC_z (by omega) (fC_z (by omega) (fC_z (by omega) fC_refl))))
    · exact fR_z (by omega) (fR_z (by omega) (fR_z (by omega) (fR_z (by omega) (fR_z (by omega) (fR_z (by omega) (fR_z (by omega) fR_refl))))))
  · rw [if_neg q, if_neg (fun z => q ⟨⟨(lfr_in hc rel ht).mp z.1.1, e222.mp z.1.2⟩, by rw [← eh, ← e48]; exact z.2⟩)]
    exact ⟨0, Sc, Sr, rfl, rfl, Or.inl rfl, lfR_cap rel (by omega), fC_refl, fR_refl⟩
theorem sim_B (hT : iT T) (hB : okB B) (hc : bkC Sc 7 B) (hr : bkR Sr.1 B) (rel : lfR B w cap Sc Sr) (hcap : cap + 10000 < 2147483648) (hk : k < 60) (h1 : Sr.1 213 k = nI w) (h2 : Sr.1 214 k = 4) : ∃ r Sc' Sr', fX4_borrowOnce T 166 (nI w) Sc = some (r, Sc') ∧ fX12_does T 187 (nI k) Sr = some (r, Sr') ∧ (r = 0 ∨ r = 1) ∧ lfR B w (cap + 10000) Sc' Sr' ∧ fC Sc Sc' ∧ fR Sr Sr' := by
  obtain ⟨e48, hcn⟩ := rel.2.2.1
  obtain ⟨e47, hl⟩ := rel.2.2.2
  have c5 : Sc.1 7 5 = B.1 6 5 := hc.1 5 (by decide)
  have c1 : Sc.1 7 1 = B.1 6 1 := hc.1 1 (by decide)
  have c4 : Sc.1 7 4 = B.1 6 4 := hc.1 4 (by decide)
  obtain ⟨-, -, r1, -, -, r4, r5, -⟩ := hr
  have hs := hB.2.2.2.2.2.1
  have eb : rbor Sr (nI w) ↔ lbor Sc (nI w) := by unfold rbor lbor; rw [c5, c1, r1, r5]
  rcases v_borrowOnce hT (S := Sc) (w := nI w) with ⟨a1, a2, a3⟩ | ⟨a1, a3⟩ <;> rcases r_doB hT hk h1 h2 (by rw [e47]; exact hl) with ⟨b1, b2, b3⟩ | ⟨b1, b3⟩
  · refine ⟨1, _, _, a3, b3, Or.inr rfl, ⟨?_, ?_, ⟨?_, ?_⟩, ?_⟩, ?_, ?_⟩
    · refine lfP_eq rel.1 ?_ ?_ ?_ <;> (try intro u _) <;> simp (decide := true) only [sBorrow, rBorrow, zI_ne, zI_eqn]
    · refine lfT_eq rel.2.1 ?_ ?_ ?_ ?_ ?_ ?_ ?_ ?_ <;> (try intro u) <;> simp (decide := true) only [sBorrow, rBorrow, zI_ne, zI_eqn]
    · simp (decide := true) only [sBorrow, rBorrow, zI_eqn, zI_eqs]
      rw [e48, c4, r4]
    · simp (decide := true) only [sBorrow, zI_eqs]
      obtain ⟨p1, p2⟩ := hs
      obtain ⟨p3, p4⟩ := hcn
      unfold btw
      rw [c4, z_add (by omega) (by omega)]
      omega
    · unfold lfL
      simp (decide := true) only [sBorrow, rBorrow, zI_eqn, zI_eqs]
      (try exact ⟨rfl, Or.inr rfl⟩)
    · exact fC_z (by omega) (fC_z (by omega) fC_refl)
    · exact fR_z (by omega) (fR_z (by omega) fR_refl)
  · exact absurd ⟨e47.trans a1, eb.mpr a2⟩ b1
  · exact absurd ⟨e47.symm.trans b1, eb.mp b2⟩ a1
  · refine ⟨0, _, _, a3, b3, Or.inl rfl, lfR_cap ⟨?_, ?_, ⟨?_, hcn⟩, ?_⟩ (by omega), fC_refl, fR_z (by omega) (fR_z (by omega) fR_refl)⟩
    · refine lfP_eq rel.1 rfl rfl ?_ <;> (try intro u _) <;> simp (decide := true) only [zI_ne]
    · refine lfT_eq rel.2.1 ?_ ?_ ?_ ?_ ?_ ?_ ?_ ?_ <;> (try intro u) <;> simp (decide := true) only [zI_ne]
    · simp (decide := true) only [zI_eqn, zI_eqs]
      rw [e48, Int32.add_zero]
    · unfold lfL
      simp (decide := true) only [zI_eqs]
      exact ⟨e47, hl⟩
/-- an act, in both -/
theorem act_sim (hT : iT T) (hB : okB B) (hw : w < 60) (hc : bkC Sc 7 B) (hr : bkR Sr.1 B) (rel : lfR B w cap Sc Sr) (hcap : cap + 10000 < 2147483648) (hk : k < 60) {s x : Int32} (h1 : Sr.1 213 k = nI w) (h2 : Sr.1 214 k = s) (h3 : Sr.1 215 k = x) (hs : s = 4 ∨ ∃ t, t < 8 ∧ x = nI t ∧ zm (bth B) t = true ∧ (s = 0 ∨ s = 1 ∨ s = 2 ∨ s = 3)) : ∃ r Sc' Sr', fX4_doAct T 166 s x (nI w) Sc = some (r, Sc') ∧ fX12_does T 187 (nI k) Sr = some (r, Sr') ∧ (r = 0 ∨ r = 1) ∧ lfR B w (cap + 10000) Sc' Sr' ∧ fC Sc Sc' ∧ fR Sr Sr' := by
  have fin : ∀ {o : Option (Int32 × zS)}, (∃ r Sc' Sr', o = some (r, Sc') ∧ fX12_does T 187 (nI k) Sr = some (r, Sr') ∧ (r = 0 ∨ r = 1) ∧ lfR B w (cap + 10000) Sc' Sr' ∧ fC Sc Sc' ∧ fR Sr Sr') → ∃ r Sc' Sr', zb o (fun r2 S4 => zgd (zbl r2) (some (r2, S4))) = some (r, Sc') ∧ fX12_does T 187 (nI k) Sr = some (r, Sr') ∧ (r = 0 ∨ r = 1) ∧ lfR B w (cap + 10000) Sc' Sr' ∧ fC Sc Sc' ∧ fR Sr Sr' := by
    rintro o ⟨r, Sc', Sr', e1, e2, e3, e4⟩
    refine ⟨r, Sc', Sr', ?_, e2, e3, e4⟩
    rw [e1]
    show zgd (zbl r) (some (r, Sc')) = _
    rw [g_t (zbl_iff.mpr e3)]
  unfold fX4_doAct
  rcases hs with rfl | ⟨t, ht, rfl, hz, rfl | rfl | rfl | rfl⟩
  · rw [if_neg (by decide), if_neg (by decide), if_neg (by decide), if_neg (by decide), if_pos rfl]
    exact fin (sim_B hT hB hc hr rel hcap hk h1 h2)
  · rw [if_pos rfl]
    exact fin (sim_F hT hw hc rel ht hz hcap hk h1 h2 h3)
  · rw [if_neg (by decide), if_pos rfl]
    exact fin (sim_P hT hB hw hc hr rel ht hz hcap hk h1 h2 h3)
  · rw [if_neg (by decide), if_neg (by decide), if_pos rfl]
    exact fin (sim_S hT hB hc hr rel ht hz hcap hk h1 h2 h3)
  · rw [if_neg (by decide), if_neg (by decide), if_neg (by decide), if_pos rfl]
    exact fin (sim_H hT hw hc rel ht hz hcap hk h1 h2 h3)
end
