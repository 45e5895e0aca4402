section
variable {T : zT} {B : Bk} {Sc Sr : zS} {w : Nat} {cap : Int}
/-- the reference's start of a week, as it stands in its loop -/
noncomputable def rStart (T : zT) (x1 x2 x3 x4 r6 : Int32) (S8 : zS) : Option ((Int32 × Int32 × zS) ⊕ (Int32 × zS)) := zb (fX12_loses T 187 x4 S8) fun _ S14 => if (S14.1 187 47) = 0 then fX12_goesBy_e120 T 187 x1 x2 x3 x4 r6 S14 else zgd (zin 0 2) (if x4 = (S14.1 (zr T 187 31) (0 : Int32).toNatClampNeg) then zgd (zin 0 2) (if (S14.1 (zr T 187 30) (0 : Int32).toNatClampNeg) ≤ (S14.1 187 48) then fX12_goesBy_b90 T 187 x1 x2 x3 x4 r6 (-1) 187 S14 else fX12_goesBy_b90 T 187 x1 x2 x3 x4 r6 x4 187 S14) else fX12_goesBy_e120 T 187 x1 x2 x3 x4 r6 S14)
theorem fC_7 {S S' : zS} {x : Int32} (h : fC S S') : gC S (zI S' 166 7 x) := gC_z (by omega) (gC_f h)
theorem start_sim (hT : iT T) (hB : okB B) (hw : w < 60) (hc : bkC Sc 7 B) (hr : bkR Sr.1 B) (rel : lfR B w cap Sc Sr) (hcap : cap < 2147483648) (hwl : wel Sc Sr) {d : Nat} (hd : lfD d Sc Sr) : ∃ Sc1 Sr1, fX4_startWeek T 166 (nI w) Sc = some ((), Sc1) ∧ (∀ x1 x2 x3 r6, rStart T x1 x2 x3 (nI w) r6 Sr = fX12_goesBy_e120 T 187 x1 x2 x3 (nI w) r6 Sr1) ∧ lfR B w cap Sc1 Sr1 ∧ (wel Sc1 Sr1 ∨ brk w Sc1 Sr1) ∧ lfD d Sc1 Sr1 ∧ gC Sc Sc1 ∧ gR Sr Sr1 := by
  obtain ⟨p, S14, e1, e2, rel1, hf⟩ := los_sim hT hc hr rel
  have i0 : zin 0 2 = true := by decide
  have t0 : (0 : Int32).toNatClampNeg = 0 := rfl
  have f3 : fC Sc (zI Sc 166 5 ((Sc.1 166 5) ||| (p &&& ((Sc.1 166 4) ^^^ (-1))))) := fC_z (by omega) fC_refl
  have e3 : fX4_startWeek T 166 (nI w) Sc = (fun S3 => if (S3.1 166 16) = 0 then fX4_startWeek_b80 T S3 else if nI w = (S3.1 7 5) then if (S3.1 7 4) ≤ (S3.1 166 3) then zlet (zI S3 166 3 ((S3.1 166 3) - (S3.1 7 4))) fun S7 => fX4_startWeek_b80 T S7 else zlet (zI S3 166 7 (nI w)) fun S8 => fX4_startWeek_b80 T S8 else fX4_startWeek_b80 T S3) (zI Sc 166 5 ((Sc.1 166 5) ||| (p &&& ((Sc.1 166 4) ^^^ (-1))))) := by
    unfold fX4_startWeek
    rw [zT_166_0 hT, e1, b1_q, let_q]
  have e4 : ∀ x1 x2 x3 r6, rStart T x1 x2 x3 (nI w) r6 Sr = if (S14.1 187 47) = 0 then fX12_goesBy_e120 T 187 x1 x2 x3 (nI w) r6 S14 else if nI w = S14.1 208 0 then if S14.1 207 0 ≤ S14.1 187 48 then fX12_goesBy_b90 T 187 x1 x2 x3 (nI w) r6 (-1) 187 S14 else fX12_goesBy_b90 T 187 x1 x2 x3 (nI w) r6 (nI w) 187 S14 else fX12_goesBy_e120 T 187 x1 x2 x3 (nI w) r6 S14 := by
    intro x1 x2 x3 r6
    unfold rStart
    rw [e2, b_q]
    simp only [g_t i0, t0, zT_187_31 hT, zT_187_30 hT]
  rw [e3]
  simp only [e4]
  have hc3 := bkC_fC f3 hc
  have hr3 := bkR_fR hf hr
  have hw3 := wel_f hwl f3 hf
  have hd3 := lfD_f hd f3 hf
  have gc3 := gC_f f3
  have gr3 := gR_f hf
  generalize zI Sc 166 5 ((Sc.1 166 5) ||| (p &&& ((Sc.1 166 4) ^^^ (-1)))) = S3 at *
  unfold fX4_startWeek_b80
  obtain ⟨e47, hl⟩ := rel1.2.2.2
  obtain ⟨e48, hcn⟩ := rel1.2.2.1
  rw [e47, e48]
  by_cases q1 : S3.1 166 16 = 0
  · simp only [if_pos q1]
    exact ⟨S3, S14, rfl, fun _ _ _ _ => rfl, rel1, Or.inl hw3, hd3, gc3, gr3⟩
  · simp only [if_neg q1]
    have c5 : S3.1 7 5 = B.1 6 5 := hc3.1 5 (by decide)
    have c4 : S3.1 7 4 = B.1 6 4 := hc3.1 4 (by decide)
    obtain ⟨-, -, -, -, -, r4, r5, -⟩ := hr3
    rw [c5, c4, r4, r5]
    by_cases q2 : nI w = B.1 6 5
    · simp only [if_pos q2]
      by_cases q3 : B.1 6 4 ≤ S3.1 166 3
      · simp only [if_pos q3]
        unfold fX12_goesBy_b90 fX12_goesBy_b116
        have e5 : ∀ (a b : Option ((Int32 × Int32 × zS) ⊕ (Int32 × zS))), (if (zI S14 187 50 (-1)).1 187 50 = -1 then a else b) = a := fun a b => if_pos (by rw [zI_eqs])
        simp only [let_q, e5, g_t i0, t0, zT_187_30 hT]
        refine ⟨_, _, rfl, fun _ _ _ _ => rfl, ⟨?_, ?_, ⟨?_, ?_⟩, ?_⟩, Or.inl ?_, ?_, gC_z (by omega) gc3, gR_z (by omega) (gR_z (by omega) gr3)⟩
        · refine lfP_eq rel1.1 ?_ ?_ ?_ <;> (try intro u _) <;> simp (decide := true) only [zI_ne, zI_eqn]
        · refine lfT_eq rel1.2.1 ?_ ?_ ?_ ?_ ?_ ?_ ?_ ?_ <;> (try intro u) <;> simp (decide := true) only [zI_ne, zI_eqn]
        · simp (decide := true) only [zI_ne, zI_eqn, zI_eqs]
          rw [e48, r4]
        · rw [zI_eqs]
          have h2 := z_le.mp q3
          obtain ⟨p1, p2⟩ := hB.2.2.2.2.2.1
          obtain ⟨p3, p4⟩ := hcn
          unfold btw
          rw [z_sub (by omega) (by omega)]
          omega
        · unfold lfL
          simp (decide := true) only [zI_eqn]
          exact ⟨e47, hl⟩
        · unfold wel
          simp (decide := true) only [zI_eqn, zI_eqs]
          exact ⟨hw3.1, hw3.2.1, hw3.2.2.1, trivial⟩
        · unfold lfD
          simp (decide := true) only [zI_eqn, zI_ne]
          exact hd3
      · simp only [if_neg q3]
        unfold fX12_goesBy_b90 fX12_goesBy_b116
        have e5 : ∀ (a b : Option ((Int32 × Int32 × zS) ⊕ (Int32 × zS))), (if (zI S14 187 50 (nI w)).1 187 50 = -1 then a else b) = b := fun a b => if_neg (by rw [zI_eqs]; exact n_m1 (by omega))
        simp only [let_q, e5]
        refine ⟨_, _, rfl, fun _ _ _ _ => rfl, ⟨?_, ?_, ⟨?_, ?_⟩, ?_⟩, Or.inr ?_, ?_, gC_z (by omega) gc3, gR_z (by omega) (gR_z (by omega) gr3)⟩
        · refine lfP_eq rel1.1 ?_ ?_ ?_ <;> (try intro u _) <;> simp (decide := true) only [zI_ne, zI_eqn]
        · refine lfT_eq rel1.2.1 ?_ ?_ ?_ ?_ ?_ ?_ ?_ ?_ <;> (try intro u) <;> simp (decide := true) only [zI_ne, zI_eqn]
        · simp (decide := true) only [zI_ne, zI_eqn, zI_eqs]
          rw [e48, Int32.sub_zero]
        · rw [zI_eqn (by decide)]
          exact hcn
        · unfold lfL
          simp (decide := true) only [zI_eqn]
          exact ⟨e47, hl⟩
        · unfold brk
          simp (decide := true) only [zI_eqn, zI_eqs]
          exact ⟨hw3.1, hw3.2.2.1, trivial⟩
        · unfold lfD
          simp (decide := true) only [zI_eqn, zI_ne]
          exact hd3
    · simp only [if_neg q2]
      exact ⟨S3, S14, rfl, fun _ _ _ _ => rfl, rel1, Or.inl hw3, hd3, gc3, gr3⟩
end
