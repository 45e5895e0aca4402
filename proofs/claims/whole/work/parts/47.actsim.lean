theorem lfP_up {B : Bk} {Sc Sr Sc' Sr' : zS} {t : Nat} (ht : t < 8) (h : lfP B Sc Sr) (i1 : is8 (Sc'.1 166 4)) (i2 : is8 (Sc'.1 166 5)) (n1 : ∀ u, u < 8 → u ≠ t → zm (Sc'.1 166 4) u = zm (Sc.1 166 4) u) (n2 : ∀ u, u < 8 → u ≠ t → zm (Sc'.1 166 5) u = zm (Sc.1 166 5) u) (c1 : zm (Sc'.1 166 4) t = true → zm (bth B) t = true ∧ zm (Sc'.1 166 5) t = false) (c2 : zm (Sc'.1 166 5) t = true → zm (bth B) t = true) (e1 : Sr'.1 216 t = plc B (Sc'.1 166 4) (Sc'.1 166 5) t) (e2 : ∀ u, u < 8 → u ≠ t → Sr'.1 216 u = Sr.1 216 u) : lfP B Sc' Sr' := by
  obtain ⟨-, -, a3, a4, a5⟩ := h
  refine ⟨i1, i2, fun u hu hz => ?_, fun u hu hz => ?_, fun u hu => ?_⟩
  · by_cases q : u = t
    · subst q; exact c1 hz
    · rw [n1 u hu q] at hz
      rw [n2 u hu q]
      exact a3 u hu hz
  · by_cases q : u = t
    · subst q; exact c2 hz
    · rw [n2 u hu q] at hz
      exact a4 u hu hz
  · by_cases q : u = t
    · subst q; exact e1
    · rw [e2 u hu q, a5 u hu]
      unfold plc
      rw [n1 u hu q, n2 u hu q]
theorem lfP_eq {B : Bk} {Sc Sr Sc' Sr' : zS} (h : lfP B Sc Sr) (e1 : Sc'.1 166 4 = Sc.1 166 4) (e2 : Sc'.1 166 5 = Sc.1 166 5) (e3 : ∀ u, u < 8 → Sr'.1 216 u = Sr.1 216 u) : lfP B Sc' Sr' := by
  obtain ⟨a1, a2, a3, a4, a5⟩ := h
  unfold lfP
  rw [e1, e2]
  exact ⟨a1, a2, a3, a4, fun u hu => (e3 u hu).trans (a5 u hu)⟩
theorem lfT_eq {B : Bk} {w : Int} {Sc Sr Sc' Sr' : zS} (h : lfT B w Sc Sr) (e1 : ∀ u, Sc'.1 173 u = Sc.1 173 u) (e2 : ∀ u, Sc'.1 174 u = Sc.1 174 u) (e3 : ∀ u, Sc'.1 175 u = Sc.1 175 u) (e4 : Sc'.1 166 15 = Sc.1 166 15) (f1 : ∀ u, Sr'.1 217 u = Sr.1 217 u) (f2 : ∀ u, Sr'.1 218 u = Sr.1 218 u) (f3 : ∀ u, Sr'.1 219 u = Sr.1 219 u) (f4 : ∀ u, Sr'.1 222 u = Sr.1 222 u) : lfT B w Sc' Sr' := by
  unfold lfT
  simp only [e1, e2, e3, e4, f1, f2, f3, f4]
  exact h
theorem m_or_ne {x : Int32} {t u : Nat} (ht : t < 8) (hu : u ≠ t) : zm (x ||| (1 <<< (nI t &&& 31))) u = zm x u := by rw [m_or, m_shl8 ht, decide_eq_false hu, Bool.or_false]
theorem m_or_eq {x : Int32} {t : Nat} (ht : t < 8) : zm (x ||| (1 <<< (nI t &&& 31))) t = true := by rw [m_or, m_shl8 ht, decide_eq_true rfl, Bool.or_true]
theorem m_an_ne {x : Int32} {t u : Nat} (ht : t < 8) (hu : u ≠ t) : zm (x &&& ((1 <<< (nI t &&& 31)) ^^^ (-1))) u = zm x u := by rw [m_dif, m_shl8 ht, decide_eq_false hu, Bool.not_false, Bool.and_true]
theorem m_an_eq {x : Int32} {t : Nat} (ht : t < 8) : zm (x &&& ((1 <<< (nI t &&& 31)) ^^^ (-1))) t = false := by rw [m_dif, m_shl8 ht, decide_eq_true rfl, Bool.not_true, Bool.and_false]
section
variable {T : zT} {B : Bk} {Sc Sr : zS} {w k t : Nat} {cap : Int}
theorem lfR_cap {c c' : Int} {w : Int} (h : lfR B w c Sc Sr) (hc : c ≤ c') : lfR B w c' Sc Sr := ⟨h.1, h.2.1, ⟨h.2.2.1.1, btw_le h.2.2.1.2 (Int.le_refl _) hc⟩, h.2.2.2⟩
theorem sim_F (hT : iT T) (hw : w < 60) (hc : bkC Sc 7 B) (rel : lfR B w cap Sc Sr) (ht : t < 8) (hz : zm (bth B) t = true) (hcap : cap + 10000 < 2147483648) (hk : k < 60) (h1 : Sr.1 213 k = nI w) (h2 : Sr.1 214 k = 0) (h3 : Sr.1 215 k = nI t) : ∃ r Sc' Sr', fX4_fetchOne T 166 (nI t) (nI w) Sc = some (r, Sc') ∧ fX12_does T 187 (nI k) Sr = some (r, Sr') ∧ (r = 0 ∨ r = 1) ∧ lfR B w (cap + 10000) Sc' Sr' ∧ fC Sc Sc' ∧ fR Sr Sr' := by
  rw [v_fetchOne hT ht, r_doF hT hk ht h1 h2 h3]
  have eo := lfr_owd rel ht hz (nI w)
  have hb := (lowd_btw (by omega) rel ht hz).1
  obtain ⟨e48, hcn⟩ := rel.2.2.1
  by_cases q : zm (linn Sc) t = true ∧ lowd Sc t (nI w) ≤ Sc.1 166 3
  · rw [if_pos q, if_pos ⟨(lfr_in hc rel ht).mpr q.1, by rw [eo, e48]; exact q.2⟩]
    refine ⟨1, _, _, rfl, rfl, Or.inr rfl, ⟨?_, ?_, ⟨?_, ?_⟩, ?_⟩, ?_, ?_⟩
    · obtain ⟨l1, l2, l3⟩ := linn_th hc q.1
      refine lfP_up ht rel.1 ?_ ?_ ?_ ?_ ?_ ?_ ?_ ?_
      · simp (decide := true) only [sFetch, zI_ne, zI_eqs]
        exact is8_or rel.1.1 (is8_shl ht)
      · simp (decide := true) only [sFetch, zI_ne, zI_eqn]
        exact rel.1.2.1
      · intro u hu hn
        simp (decide := true) only [sFetch, zI_ne, zI_eqs]
        exact m_or_ne ht hn
      · intro u hu hn
        simp (decide := true) only [sFetch, zI_ne, zI_eqn]
      · intro _
        simp (decide := true) only [sFetch, zI_ne, zI_eqn]
        exact ⟨hz, l3⟩
      · intro _; exact hz
      · simp (decide := true) only [sFetch, rFetch, zI_ne, zI_eqs]
        exact (plc_home.mpr (m_or_eq ht)).symm
      · intro u hu hn
        simp (decide := true) only [rFetch, zI_ne, zI_eqn hn]
    · refine lfT_eq rel.2.1 ?_ ?_ ?_ ?_ ?_ ?_ ?_ ?_ <;> (try intro u) <;> simp (decide := true) only [sFetch, rFetch, zI_ne, zI_eqn]
    · simp (decide := true) only [sFetch, rFetch, zI_ne, zI_eqn, zI_eqs]
      rw [e48, eo, Int32.add_zero]
    · simp (decide := true) only [sFetch, zI_ne, zI_eqn, zI_eqs]
      have h2 := z_le.mp q.2
      obtain ⟨p1, p2⟩ := hb
      obtain ⟨p3, p4⟩ := hcn
      unfold btw
      rw [z_sub (by omega) (by omega)]
      omega
    · unfold lfL
      simp (decide := true) only [sFetch, rFetch, zI_ne, zI_eqn]
      exact rel.2.2.2
    · exact fC_z (by omega) (fC_z (by omega) (fC_z (by omega) fC_refl))
    · exact fR_z (by omega) (fR_z (by omega) (fR_z (by omega) fR_refl))
  · rw [if_neg q, if_neg (fun z => q ⟨(lfr_in hc rel ht).mp z.1, by rw [← eo, ← e48]; exact z.2⟩)]
    exact ⟨0, Sc, Sr, rfl, rfl, Or.inl rfl, lfR_cap rel (by omega), fC_refl, fR_refl⟩
theorem sim_S (hT : iT T) (hB : okB B) (hc : bkC Sc 7 B) (hr : bkR Sr.1 B) (rel : lfR B w cap Sc Sr) (ht : t < 8) (hz : zm (bth B) t = true) (hcap : cap + 10000 < 2147483648) (hk : k < 60) (h1 : Sr.1 213 k = nI w) (h2 : Sr.1 214 k = 2) (h3 : Sr.1 215 k = nI t) : ∃ r Sc' Sr', fX4_sellOne T 166 (nI t) Sc = some (r, Sc') ∧ fX12_does T 187 (nI k) Sr = some (r, Sr') ∧ (r = 0 ∨ r = 1) ∧ lfR B w (cap + 10000) Sc' Sr' ∧ fC Sc Sc' ∧ fR Sr Sr' := by
  rw [v_sellOne hT ht, r_doS hT hk ht h1 h2 h3]
  obtain ⟨e48, hcn⟩ := rel.2.2.1
  have eC : Sc.1 12 t = B.1 4 t := hc.2.1 t ht hz 4 (by decide)
  have eR : Sr.1 204 t = B.1 4 t := hr.2.1 t ht 4 (by decide)
  have hs := (hB.2.1 t ht hz).2.2.2.2.1
  by_cases q : zm (linn Sc) t = true
  · rw [if_pos q, if_pos ⟨(lfr_in hc rel ht).mpr q, by rw [e48]; exact z_le.mpr hcn.1⟩]
    refine ⟨1, _, _, rfl, rfl, Or.inr rfl, ⟨?_, ?_, ⟨?_, ?_⟩, ?_⟩, ?_, ?_⟩
    · obtain ⟨l1, l2, l3⟩ := linn_th hc q
      refine lfP_up ht rel.1 ?_ ?_ ?_ ?_ ?_ ?_ ?_ ?_
      · simp (decide := true) only [sSell, zI_ne, zI_eqn]
        exact rel.1.1
      · simp (decide := true) only [sSell, zI_ne, zI_eqs, zI_eqn]
        exact is8_or rel.1.2.1 (is8_shl ht)
      · intro u hu hn
        simp (decide := true) only [sSell, zI_ne, zI_eqn]
      · intro u hu hn
        simp (decide := true) only [sSell, zI_ne, zI_eqs, zI_eqn]
        exact m_or_ne ht hn
      · simp (decide := true) only [sSell, zI_ne, zI_eqn]
        intro z
        rw [l2] at z; cases z
      · intro _; exact hz
      · simp (decide := true) only [sSell, rSell, zI_ne, zI_eqs, zI_eqn]
        unfold plc
        rw [if_neg (by rw [l2]; decide), if_neg (by rw [m_or_eq ht]; exact fun z => by cases z.2)]
      · intro u hu hn
        simp (decide := true) only [rSell, zI_ne, zI_eqn hn]
    · refine lfT_eq rel.2.1 ?_ ?_ ?_ ?_ ?_ ?_ ?_ ?_ <;> (try intro u) <;> simp (decide := true) only [sSell, rSell, zI_ne, zI_eqn]
    · simp (decide := true) only [sSell, rSell, zI_ne, zI_eqn, zI_eqs]
      rw [e48, eC, eR, Int32.sub_zero]
    · simp (decide := true) only [sSell, zI_ne, zI_eqn, zI_eqs]
      obtain ⟨p1, p2⟩ := hs
      obtain ⟨p3, p4⟩ := hcn
      unfold btw
      rw [eC, z_add (by omega) (by omega)]
      omega
    · unfold lfL
      simp (decide := true) only [sSell, rSell, zI_ne, zI_eqn]
      exact rel.2.2.2
    · exact fC_z (by omega) (fC_z (by omega) fC_refl)
    · exact fR_z (by omega) (fR_z (by omega) (fR_z (by omega) fR_refl))
  · rw [if_neg q, if_neg (fun z => q ((lfr_in hc rel ht).mp z.1))]
    exact ⟨0, Sc, Sr, rfl, rfl, Or.inl rfl, lfR_cap rel (by omega), fC_refl, fR_refl⟩
end
