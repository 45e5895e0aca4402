section
variable {T : zT} {B : Bk} {A : Rw} {W : Nat} {x1 x2 : Int32} {wk : Nat → Int32} {dr : Nat → Int64} {l2 : Int64}
theorem begun_rel (hB : okB B) {Sc Sr Sc' Sr' : zS} (hc : bkC Sc 7 B) (hr : bkR Sr.1 B) (h1 : cBegun Sc Sc') (h2 : rBegun Sr Sr') : lfR B 0 10000 Sc' Sr' ∧ wel Sc' Sr' ∧ lfD 0 Sc' Sr' ∧ gC Sc Sc' ∧ gR Sr Sr' := by
  obtain ⟨c0, c1, c2, c3, c4, c5, c6, c7, c8, c9⟩ := h1
  obtain ⟨r0, r1, r2, r3, r4, r5, r6, r7, r8⟩ := h2
  have z8 : ∀ t, zm 0 t = false := fun t => m_0
  refine ⟨⟨⟨?_, ?_, ?_, ?_, ?_⟩, ?_, ⟨?_, ?_⟩, ?_⟩, ⟨c4, c5, r5, r6⟩, ⟨c6, r7, fun i hi => absurd hi (Nat.not_lt_zero _)⟩, ⟨fun a b n => c0.2 a b (decide_eq_false n), fun a b _ => by rw [c0.1]⟩, ⟨fun a b n m => ?_, fun a b _ => by rw [r0]⟩⟩
  · rw [c2]; exact is8_0
  · rw [c3]; exact is8_0
  · intro t _ hz
    rw [c2, z8] at hz; cases hz
  · intro t _ hz
    rw [c3, z8] at hz; cases hz
  · intro t ht
    rw [(r8 t ht).1, c2, c3]
    unfold plc
    rw [z8, if_neg (show ¬ false = true by decide)]
    have := r199 hr ht
    by_cases q : Sr.1 199 t = 1
    · rw [if_pos q, if_pos ⟨this.mp q, rfl⟩]
    · rw [if_neg q, if_neg (fun z => q (this.mpr z.1))]
  · intro t ht hz
    obtain ⟨p1, p2, p3, p4⟩ := c9 t ht
    obtain ⟨-, q1, q2, q3, q4⟩ := r8 t ht
    have eC : Sc.1 8 t = B.1 0 t := hc.2.1 t ht hz 0 (by decide)
    have eC1 : Sc.1 9 t = B.1 1 t := hc.2.1 t ht hz 1 (by decide)
    have eR : Sr.1 200 t = B.1 0 t := hr.2.1 t ht 0 (by decide)
    have eR1 : Sr.1 201 t = B.1 1 t := hr.2.1 t ht 1 (by decide)
    have hb := hB.2.1 t ht hz
    rw [p1, p2, p3, q1, q2, q3, q4, eC, eC1, eR, eR1, c7, z8]
    exact ⟨⟨rfl, rfl, rfl, rfl⟩, btw_le hb.1 (by decide) (by decide), fun _ => btw_le hb.1 (by decide) (by decide), hb.2.1, by decide, by decide⟩
  · rw [r3, c1, hr.2.2.2.1]
    exact (hc.1 2 (by decide)).symm
  · rw [c1, show Sc.1 7 2 = B.1 6 2 from hc.1 2 (by decide)]
    exact btw_le hB.2.2.2.1 (by decide) (by decide)
  · unfold lfL
    rw [r4, c8]
    exact ⟨rfl, Or.inl rfl⟩
  · by_cases z : a = 187 ∧ 47 ≤ b
    · rw [z.1]
      exact r2 b (by omega)
    · exact r1 a b n z
/-- the row lived through by both -/
theorem row_sim (hT : iT T) (hB : okB B) (hA : okRw B A) (hW : B.1 6 1 = nI W) (h60 : W ≤ 60) (hwr : wrkR T B W x1 x2 wk dr) (hwc : wrkC W l2 wk) {Sc Sr : zS} (hc : bkC Sc 7 B) (hr : bkR Sr.1 B) (rc : rwC Sc 41 A) (rr : rwR Sr.1 A) (hd : Sr.2 187 52 = dr 0) : ∃ Sc' Sr', fX4_liveByRow T 166 41 l2 Sc = some ((), Sc') ∧ fX12_goesBy T 187 x1 x2 Sr = some ((), Sr') ∧ rowEnd B W Sc' Sr' ∧ gC Sc Sc' ∧ hR Sr Sr' ∧ Sr'.2 187 52 = dr W := by
  obtain ⟨Sc1, e1, b1⟩ := c_begin hT (S := Sc)
  obtain ⟨Sr1, e2, b2⟩ := r_begins hT (S := Sr)
  obtain ⟨rel, hwl, hd0, gc, gr⟩ := begun_rel hB hc hr b1 b2
  obtain ⟨Sc', Sr', q1, q2, q3, q4, q5, q6⟩ := row_loop hT hB hA hW h60 hwr hwc W 0 0 Sc1 Sr1 (by omega) (by omega) (bkC_g gc hc) (bkR_g gr hr) (rwC_g gc rc) (rwR_g gr rr) rel hwl hd0 (by rw [gr.2 _ _ (by omega)]; exact hd)
  refine ⟨Sc', Sr', ?_, ?_, q3, gC_tr gc q4, hR_tr (hR_g gr) q5, q6⟩
  · unfold fX4_liveByRow
    rw [e1, b_q]
    exact q1
  · unfold fX12_goesBy
    rw [e2, b_q]
    exact q2
end
