/-! A WEEK, in both: its start -/
/-- what weeks leave as it was, in the class and in the reference -/
def gC (S S' : zS) : Prop := (∀ a b, ¬ (166 ≤ a ∧ a ≤ 175) → S'.1 a b = S.1 a b) ∧ ∀ a b, ¬ (a = 164 ∨ a = 165) → S'.2 a b = S.2 a b
def gR (S S' : zS) : Prop := (∀ a b, ¬ (216 ≤ a ∧ a ≤ 222) → ¬ (a = 187 ∧ 47 ≤ b ∧ b ≤ 51) → S'.1 a b = S.1 a b) ∧ ∀ a b, ¬ (a = 211 ∨ a = 212) → S'.2 a b = S.2 a b
theorem gC_refl {S : zS} : gC S S := ⟨fun _ _ _ => rfl, fun _ _ _ => rfl⟩
theorem gR_refl {S : zS} : gR S S := ⟨fun _ _ _ _ => rfl, fun _ _ _ => rfl⟩
theorem gC_tr {S S1 S2 : zS} (h : gC S S1) (h' : gC S1 S2) : gC S S2 := ⟨fun a b n => (h'.1 a b n).trans (h.1 a b n), fun a b n => (h'.2 a b n).trans (h.2 a b n)⟩
theorem gR_tr {S S1 S2 : zS} (h : gR S S1) (h' : gR S1 S2) : gR S S2 := ⟨fun a b n m => (h'.1 a b n m).trans (h.1 a b n m), fun a b n => (h'.2 a b n).trans (h.2 a b n)⟩
theorem gC_z {S S' : zS} {k i : Nat} {x : Int32} (hk : 166 ≤ k ∧ k ≤ 175) (h : gC S S') : gC S (zI S' k i x) := ⟨fun a b n => (zI_o (by omega)).trans (h.1 a b n), h.2⟩
theorem gR_z {S S' : zS} {k i : Nat} {x : Int32} (hk : (216 ≤ k ∧ k ≤ 222) ∨ (k = 187 ∧ 47 ≤ i ∧ i ≤ 51)) (h : gR S S') : gR S (zI S' k i x) := ⟨fun a b n m => (zI_o (by omega)).trans (h.1 a b n m), h.2⟩
theorem gC_f {S S' : zS} (h : fC S S') : gC S S' := ⟨fun a b n => h.2 a b (by omega) (by omega), fun a b _ => by rw [h.1]⟩
theorem gR_f {S S' : zS} (h : fR S S') : gR S S' := ⟨fun a b n m => h.2 a b (by omega) (by omega) (by omega), fun a b _ => by rw [h.1]⟩
theorem gC_J {S S' : zS} (h : onlyJ2 S S' 164) : gC S S' := ⟨fun a b _ => by rw [h.1], fun a b n => h.2 a b (by omega) (by omega)⟩
theorem gR_J {S S' : zS} (h : onlyJ2 S S' 211) : gR S S' := ⟨fun a b _ _ => by rw [h.1], fun a b n => h.2 a b (by omega) (by omega)⟩
theorem bkC_g {S S' : zS} {B : Bk} (h : gC S S') (hb : bkC S 7 B) : bkC S' 7 B := bkC_cg (fun a b _ _ => h.1 a b (by omega)) hb
theorem bkR_g {S S' : zS} {B : Bk} (h : gR S S') (hb : bkR S.1 B) : bkR S'.1 B := bkR_cg (fun a b hab => by have := rN_big hab; exact h.1 a b (by omega) (by omega)) hb
/-- the weeks' record -/
def lfD (d : Nat) (Sc Sr : zS) : Prop := Sc.1 166 8 = nI d ∧ Sr.1 187 51 = nI d ∧ ∀ i, i < d → Sr.1 220 i = Sc.1 170 i ∧ Sr.1 221 i = Sc.1 171 i
def wel (Sc Sr : zS) : Prop := Sc.1 166 6 = -1 ∧ Sc.1 166 7 = -1 ∧ Sr.1 187 49 = -1 ∧ Sr.1 187 50 = -1
/-- broke in the same week -/
def brk (w : Nat) (Sc Sr : zS) : Prop := Sc.1 166 6 = -1 ∧ Sr.1 187 49 = -1 ∧ Sc.1 166 7 = nI w ∧ Sr.1 187 50 = nI w
theorem fC_6 {S S' : zS} (h : fC S S') {b : Nat} (hb : b = 6 ∨ b = 7 ∨ b = 8) : S'.1 166 b = S.1 166 b := h.2 _ _ (by omega) (by omega)
theorem fC_170 {S S' : zS} (h : fC S S') {a b : Nat} (hb : a = 170 ∨ a = 171) : S'.1 a b = S.1 a b := h.2 _ _ (by omega) (by omega)
theorem fR_49 {S S' : zS} (h : fR S S') {b : Nat} (hb : 49 ≤ b ∧ b ≤ 51) : S'.1 187 b = S.1 187 b := h.2 _ _ (by omega) (by omega) (by omega)
theorem fR_220 {S S' : zS} (h : fR S S') {a b : Nat} (hb : a = 220 ∨ a = 221) : S'.1 a b = S.1 a b := h.2 _ _ (by omega) (by omega) (by omega)
theorem lfD_f {d : Nat} {Sc Sr Sc' Sr' : zS} (h : lfD d Sc Sr) (hc : fC Sc Sc') (hr : fR Sr Sr') : lfD d Sc' Sr' := by
  refine ⟨by rw [fC_6 hc (by omega)]; exact h.1, by rw [fR_49 hr (by omega)]; exact h.2.1, fun i hi => ?_⟩
  rw [fR_220 hr (by omega), fR_220 hr (by omega), fC_170 hc (by omega), fC_170 hc (by omega)]
  exact h.2.2 i hi
theorem wel_f {Sc Sr Sc' Sr' : zS} (h : wel Sc Sr) (hc : fC Sc Sc') (hr : fR Sr Sr') : wel Sc' Sr' := by
  unfold wel
  rw [fC_6 hc (by omega), fC_6 hc (by omega), fR_49 hr (by omega), fR_49 hr (by omega)]
  exact h
section
variable {T : zT} {B : Bk} {Sc Sr : zS} {w : Nat} {cap : Int}
/-- the places, once those lost are gone -/
theorem los_sim (hT : iT T) (hc : bkC Sc 7 B) (hr : bkR Sr.1 B) (rel : lfR B w cap Sc Sr) : ∃ p Sr1, fX0_lostBy T 7 (nI w) Sc = some p ∧ fX12_loses T 187 (nI w) Sr = some ((), Sr1) ∧ lfR B w cap (zI Sc 166 5 ((Sc.1 166 5) ||| (p &&& ((Sc.1 166 4) ^^^ (-1))))) Sr1 ∧ fR Sr Sr1 := by
  obtain ⟨p, e1, ip, hp⟩ := v_lostBy hT (w := nI w) (S := Sc)
  obtain ⟨Sr1, e2, ho, h216⟩ := r_loses hT (w := nI w) (S := Sr)
  refine ⟨p, Sr1, e1, e2, ⟨?_, ?_, ?_, ?_⟩, ho.1, fun a b n1 _ _ => ho.2 a b (by omega)⟩
  · obtain ⟨a1, a2, a3, a4, a5⟩ := rel.1
    have g : ∀ t, t < 8 → (zm ((Sc.1 166 5) ||| (p &&& ((Sc.1 166 4) ^^^ (-1)))) t = true ↔ zm (Sc.1 166 5) t = true ∨ (zm p t = true ∧ zm (Sc.1 166 4) t = false)) := by
      intro t ht
      rw [m_or, m_dif]
      cases h1 : zm (Sc.1 166 4) t <;> cases h2 : zm (Sc.1 166 5) t <;> cases h3 : zm p t <;> simp
    unfold lfP
    rw [zI_eqs, zI_eqn (by decide)]
    refine ⟨a1, is8_or a2 (is8_and ip), fun t ht hz => ⟨(a3 t ht hz).1, ?_⟩, fun t ht hz => ?_, fun t ht => ?_⟩
    · cases q : zm ((Sc.1 166 5) ||| (p &&& ((Sc.1 166 4) ^^^ (-1)))) t with
      | false => rfl
      | true =>
        rcases (g t ht).mp q with z | z
        · rw [(a3 t ht hz).2] at z; cases z
        · rw [hz] at z; cases z.2
    · rcases (g t ht).mp hz with z | z
      · exact a4 t ht z
      · have := ((hp t ht).mp z.1).1
        rw [bkC_th hc] at this
        exact this
    · rw [h216 t ht, a5 t ht]
      have eR : Sr.1 202 t = B.1 2 t := hr.2.1 t ht 2 (by decide)
      have hpt := hp t ht
      rw [bkC_th hc] at hpt
      have gt := g t ht
      cases hth : zm (bth B) t with
      | false =>
        have e0 : plc B (Sc.1 166 4) (Sc.1 166 5) t = 2 := by
          unfold plc
          rw [if_neg (fun z => by have := (a3 t ht z).1; rw [hth] at this; cases this), if_neg (fun z => by rw [hth] at z; cases z.1)]
        rw [e0, if_neg (fun z => by cases z.1)]
        unfold plc
        rw [if_neg (fun z => by have := (a3 t ht z).1; rw [hth] at this; cases this), if_neg (fun z => by rw [hth] at z; cases z.1)]
      | true =>
        have eC : Sc.1 10 t = B.1 2 t := hc.2.1 t ht hth 2 (by decide)
        rw [eC, ← eR, hth] at hpt
        by_cases q : plc B (Sc.1 166 4) (Sc.1 166 5) t = 0 ∧ ¬ Sr.1 202 t = -1 ∧ Sr.1 202 t ≤ nI w
        · rw [if_pos q]
          have q1 : zm p t = true := hpt.mpr ⟨rfl, q.2⟩
          have q2 := (plc_in a3 ht).mp q.1
          rw [m_dif, m_dif, hth] at q2
          have q3 : zm (Sc.1 166 4) t = false := by cases z : zm (Sc.1 166 4) t <;> simp_all
          unfold plc
          rw [if_neg (by rw [q3]; decide), if_neg (fun z => by rw [gt.mpr (Or.inr ⟨q1, q3⟩)] at z; cases z.2)]
        · rw [if_neg q]
          unfold plc
          by_cases q4 : zm (Sc.1 166 4) t = true
          · rw [if_pos q4, if_pos q4]
          · rw [if_neg q4, if_neg q4]
            have q3 : zm (Sc.1 166 4) t = false := by simpa using q4
            by_cases q5 : zm (Sc.1 166 5) t = true
            · rw [if_neg (fun z => by rw [q5] at z; cases z.2), if_neg (fun z => by rw [gt.mpr (Or.inl q5)] at z; cases z.2)]
            · have q5' : zm (Sc.1 166 5) t = false := by simpa using q5
              have q6 : plc B (Sc.1 166 4) (Sc.1 166 5) t = 0 := by
                unfold plc
                rw [if_neg q4, if_pos ⟨hth, q5'⟩]
              have q7 : zm ((Sc.1 166 5) ||| (p &&& ((Sc.1 166 4) ^^^ (-1)))) t = false := by
                cases z : zm ((Sc.1 166 5) ||| (p &&& ((Sc.1 166 4) ^^^ (-1)))) t with
                | false => rfl
                | true =>
                  rcases gt.mp z with y | y
                  · exact absurd y q5
                  · exact absurd ⟨q6, (hpt.mp y.1).2⟩ q
              rw [if_pos ⟨hth, q5'⟩, if_pos ⟨hth, q7⟩]
  · refine lfT_eq rel.2.1 ?_ ?_ ?_ ?_ ?_ ?_ ?_ ?_
    · intro u; rw [zI_ne (by decide)]
    · intro u; rw [zI_ne (by decide)]
    · intro u; rw [zI_ne (by decide)]
    · rw [zI_eqn (by decide)]
    · intro u; exact ho.2 _ _ (by decide)
    · intro u; exact ho.2 _ _ (by decide)
    · intro u; exact ho.2 _ _ (by decide)
    · intro u; exact ho.2 _ _ (by decide)
  · unfold lfC
    rw [zI_eqn (by decide), ho.2 _ _ (by decide)]
    exact rel.2.2.1
  · unfold lfL
    rw [zI_eqn (by decide), ho.2 _ _ (by decide)]
    exact rel.2.2.2
end
