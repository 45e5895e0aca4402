/-! BEST, both -/
theorem isL_eq {p : Nat → Prop} {i j : Nat} (h : isL p i) (g : isL p j) : i = j := by
  apply Classical.byContradiction
  intro z
  by_cases y : i < j
  · exact g.2 i y h.1
  · exact h.2 j (by omega) g.1
theorem ok13 : oK13 invTS := by
  rintro T S ⟨hT, h1, h2, h3, B, A, h4, h5⟩ x1
  obtain ⟨S1, e1, f1, j1, q1, p1, i1, b1⟩ := c_ready hT h1 h2 h3 h4 h5
  have hB := h4.1
  obtain ⟨S2, S3, e2, e3, f3, r3, k3, -⟩ := r_base hT hB b1.2.2.2.1
  obtain ⟨ebw, w1, w2⟩ := bw_n hB
  have em : (-1 : Int32).toInt = -1 := rfl
  have e0 : (0 : Int32).toInt = 0 := rfl
  have hL : ∀ s, s < 256 → (S3.1 223 (256 * (bw B - 1) + s)).toInt = bsL B (bw B) s := fun s hs => by
    rw [k3 _ (by omega) s hs, show bw B - 1 + 1 = bw B by omega]
  have hC : ∀ s, s < 256 → (S1.1 178 (256 * (bw B - 1) + s)).toInt = bsL B (bw B) s := fun s hs => by
    rw [p1.1 _ (by omega) s hs, show bw B - 1 + 1 = bw B by omega]
  have hm := fun s hs => (ok_bsL' hB w2 s hs).1
  obtain ⟨-, -, -, pm, p5, p6, pl⟩ := id p1
  obtain ⟨r, ea, qa⟩ := r_atEnd hT hB r3 hL hm
  have emc : fX12_mostCoin T 187 S2 = some (S1.1 176 3, S3) := by
    unfold fX12_mostCoin fX12_mostCoin_b23
    rw [e3, b_q, ea, b1_q]
    rcases qa with ⟨a1, a2⟩ | ⟨s, a1, a2, a3⟩
    · rw [if_pos a1, show S1.1 176 3 = -1 from z_eq.mpr (by omega)]
    · rw [if_neg (show ¬ r = -1 by rw [a1]; intro q; have := z_eq.mp q; have hs := a3.1.1; rw [nI_toInt (by omega)] at this; omega), a1, r_planned hT hB r3 a3.1.1, b1_q, show S3.1 223 (256 * (bw B - 1) + s) = S1.1 176 3 from z_eq.mpr (by rw [hL s a3.1.1, pm]; exact a3.1.2)]
  have hin : ∀ S : zS, fX12_in T x1.toInt64 0 5 S = some (if 0 ≤ x1.toInt ∧ x1.toInt ≤ 5 then 1 else 0) := fun S => by
    rw [v_in32]; rfl
  have e03 : S1.1 7 0 = bth B := bkC_th b1.2.2.1
  by_cases hx : 0 ≤ x1.toInt ∧ x1.toInt ≤ 5
  · have nx : x1 = 0 ∨ x1 = 1 ∨ x1 = 2 ∨ x1 = 3 ∨ x1 = 4 ∨ x1 = 5 := by
      have t1 : (1 : Int32).toInt = 1 := rfl
      have t2 : (2 : Int32).toInt = 2 := rfl
      have t3 : (3 : Int32).toInt = 3 := rfl
      have t4 : (4 : Int32).toInt = 4 := rfl
      have t5 : (5 : Int32).toInt = 5 := rfl
      simp only [z_eq]
      omega
    have er : fX12_best T 187 x1 S1 = (if x1 = 3 then fX12_best_b34 T 187 x1 S3 else if x1 = 4 then fX12_best_b34 T 187 x1 S3 else if S1.1 176 3 = (-1) then some ((-2), S3) else if x1 = 0 then fX12_best_b100 T (S1.1 176 3) S3 else if x1 = 1 then zb1 (fX12_atEnd T 187 S3) fun r25 => fX12_best_b100 T r25 S3 else if x1 = 2 then zb1 (fX12_richest T 187 S3) fun r23 => fX12_best_b100 T r23 S3 else zb1 (fX12_all T 187 S3) fun r19 => zb1 (fX12_atEnd T 187 S3) fun r21 => fX12_best_b100 T (r19 &&& (r21 ^^^ (-1))) S3) := by
      unfold fX12_best
      rw [hin, b1_q, if_pos hx, if_neg (by decide), e2, b_q, emc, b_q]
    have ecls : fX11_best T 0 x1 S = (if x1 = 3 then some ((S1.1 176 5), S1) else if x1 = 4 then some (((bth B) &&& ((S1.1 176 6) ^^^ (-1))), S1) else if x1 < 0 then fX11_best_b44 T  S1 else if x1 ≤ 5 then if 0 ≤ (S1.1 176 3) then if x1 = 0 then some ((S1.1 176 3), S1) else if x1 = 1 then some ((S1.1 176 4), S1) else if x1 = 2 then zb1 (fX5_richest T 176 S1) fun r12 => some (r12, S1) else some (((bth B) &&& ((S1.1 176 4) ^^^ (-1))), S1) else some ((-2), S1) else fX11_best_b44 T  S1) := by
      unfold fX11_best
      rw [e1, b_q, zT_0_3 hT, e03]
    -- none of coin: nothing
    have key : (0 ≤ S1.1 176 3 ∧ ¬ S1.1 176 3 = -1 ∧ S1.1 176 4 = r) ∨ (¬ 0 ≤ S1.1 176 3 ∧ S1.1 176 3 = -1) := by
      rcases qa with ⟨a1, a2⟩ | ⟨s, a1, a2, a3⟩
      · right
        exact ⟨fun q => by have := z_le.mp q; omega, z_eq.mpr (by omega)⟩
      · left
        obtain ⟨hb, c1, c2, -⟩ := pl a2
        exact ⟨z_le.mpr (by omega), fun q => by have := z_eq.mp q; omega, by rw [c2, a1, isL_eq c1.1 a3]⟩
    rcases nx with rfl | rfl | rfl | rfl | rfl | rfl
    · rcases key with ⟨m1, m2, m3⟩ | ⟨m1, m2⟩
      · refine ⟨S1.1 176 3, S1, S3, ?_, ?_, hT, inv_fP f3 i1⟩
        · rw [ecls, if_neg (show ¬ (0:Int32) = 3 by decide), if_neg (show ¬ (0:Int32) = 4 by decide), if_neg (show ¬ (0:Int32) < 0 by decide), if_pos (show (0:Int32) ≤ 5 by decide), if_pos m1, if_pos (rfl : (0 : Int32) = 0)]
        · rw [er, if_neg (show ¬ (0:Int32) = 3 by decide), if_neg (show ¬ (0:Int32) = 4 by decide), if_neg m2, if_pos (rfl : (0 : Int32) = 0)]; rfl
      · refine ⟨-2, S1, S3, ?_, ?_, hT, inv_fP f3 i1⟩
        · rw [ecls, if_neg (show ¬ (0:Int32) = 3 by decide), if_neg (show ¬ (0:Int32) = 4 by decide), if_neg (show ¬ (0:Int32) < 0 by decide), if_pos (show (0:Int32) ≤ 5 by decide), if_neg m1]
        · rw [er, if_neg (show ¬ (0:Int32) = 3 by decide), if_neg (show ¬ (0:Int32) = 4 by decide), if_pos m2]
    · rcases key with ⟨m1, m2, m3⟩ | ⟨m1, m2⟩
      · refine ⟨r, S1, S3, ?_, ?_, hT, inv_fP f3 i1⟩
        · rw [ecls, if_neg (show ¬ (1:Int32) = 3 by decide), if_neg (show ¬ (1:Int32) = 4 by decide), if_neg (show ¬ (1:Int32) < 0 by decide), if_pos (show (1:Int32) ≤ 5 by decide), if_pos m1, if_neg (show ¬ (1:Int32) = 0 by decide), if_pos (rfl : (1 : Int32) = 1), m3]
        · rw [er, if_neg (show ¬ (1:Int32) = 3 by decide), if_neg (show ¬ (1:Int32) = 4 by decide), if_neg m2, if_neg (show ¬ (1:Int32) = 0 by decide), if_pos (rfl : (1 : Int32) = 1), ea, b1_q]; rfl
      · refine ⟨-2, S1, S3, ?_, ?_, hT, inv_fP f3 i1⟩
        · rw [ecls, if_neg (show ¬ (1:Int32) = 3 by decide), if_neg (show ¬ (1:Int32) = 4 by decide), if_neg (show ¬ (1:Int32) < 0 by decide), if_pos (show (1:Int32) ≤ 5 by decide), if_neg m1]
        · rw [er, if_neg (show ¬ (1:Int32) = 3 by decide), if_neg (show ¬ (1:Int32) = 4 by decide), if_pos m2]
    · rcases key with ⟨m1, m2, m3⟩ | ⟨m1, m2⟩
      · refine ⟨rch (fun i => S1.1 178 (256 * (bw B - 1) + i)) (B.1 5) 256, S1, S3, ?_, ?_, hT, inv_fP f3 i1⟩
        · rw [ecls, if_neg (show ¬ (2:Int32) = 3 by decide), if_neg (show ¬ (2:Int32) = 4 by decide), if_neg (show ¬ (2:Int32) < 0 by decide), if_pos (show (2:Int32) ≤ 5 by decide), if_pos m1, if_neg (show ¬ (2:Int32) = 0 by decide), if_neg (show ¬ (2:Int32) = 1 by decide), if_pos (rfl : (2 : Int32) = 2), v_richest hT hB b1.2.2.1 p1.1, b1_q]
        · rw [er, if_neg (show ¬ (2:Int32) = 3 by decide), if_neg (show ¬ (2:Int32) = 4 by decide), if_neg m2, if_neg (show ¬ (2:Int32) = 0 by decide), if_neg (show ¬ (2:Int32) = 1 by decide), if_pos (rfl : (2 : Int32) = 2), r_richest hT hB r3 (P := fun i => S1.1 178 (256 * (bw B - 1) + i)) (fun i hi => ⟨z_eq.mpr ((hL i hi).trans (hC i hi).symm), by rw [hC i hi]; exact hm i hi⟩), b1_q]; rfl
      · refine ⟨-2, S1, S3, ?_, ?_, hT, inv_fP f3 i1⟩
        · rw [ecls, if_neg (show ¬ (2:Int32) = 3 by decide), if_neg (show ¬ (2:Int32) = 4 by decide), if_neg (show ¬ (2:Int32) < 0 by decide), if_pos (show (2:Int32) ≤ 5 by decide), if_neg m1]
        · rw [er, if_neg (show ¬ (2:Int32) = 3 by decide), if_neg (show ¬ (2:Int32) = 4 by decide), if_pos m2]
    · refine ⟨S1.1 176 5, S1, S3, ?_, ?_, hT, inv_fP f3 i1⟩
      · rw [ecls, if_pos (rfl : (3 : Int32) = 3)]
      · rw [er, if_pos (rfl : (3 : Int32) = 3)]
        unfold fX12_best_b34 fX12_best_b45
        rw [if_neg (show ¬ (3:Int32) = 4 by decide), r_states hT hB r3 k3, b1_q, if_pos (rfl : (0 : Int32) = 0), p5]; rfl
    · refine ⟨mi (bth B) (S1.1 176 6), S1, S3, ?_, ?_, hT, inv_fP f3 i1⟩
      · rw [ecls, if_neg (show ¬ (4:Int32) = 3 by decide), if_pos (rfl : (4 : Int32) = 4)]; rfl
      · rw [er, if_neg (show ¬ (4:Int32) = 3 by decide), if_pos (rfl : (4 : Int32) = 4)]
        unfold fX12_best_b34 fX12_best_b45
        rw [if_pos (rfl : (4 : Int32) = 4), r_states hT hB r3 k3, b1_q, if_neg (show ¬ (1:Int32) = 0 by decide), p6, orN_st8]; rfl
    · rcases key with ⟨m1, m2, m3⟩ | ⟨m1, m2⟩
      · refine ⟨bth B &&& (r ^^^ (-1)), S1, S3, ?_, ?_, hT, inv_fP f3 i1⟩
        · rw [ecls, if_neg (show ¬ (5:Int32) = 3 by decide), if_neg (show ¬ (5:Int32) = 4 by decide), if_neg (show ¬ (5:Int32) < 0 by decide), if_pos (show (5:Int32) ≤ 5 by decide), if_pos m1, if_neg (show ¬ (5:Int32) = 0 by decide), if_neg (show ¬ (5:Int32) = 1 by decide), if_neg (show ¬ (5:Int32) = 2 by decide), m3]
        · rw [er, if_neg (show ¬ (5:Int32) = 3 by decide), if_neg (show ¬ (5:Int32) = 4 by decide), if_neg m2, if_neg (show ¬ (5:Int32) = 0 by decide), if_neg (show ¬ (5:Int32) = 1 by decide), if_neg (show ¬ (5:Int32) = 2 by decide), r_all hT r3 hB.1, b1_q, ea, b1_q]; rfl
      · refine ⟨-2, S1, S3, ?_, ?_, hT, inv_fP f3 i1⟩
        · rw [ecls, if_neg (show ¬ (5:Int32) = 3 by decide), if_neg (show ¬ (5:Int32) = 4 by decide), if_neg (show ¬ (5:Int32) < 0 by decide), if_pos (show (5:Int32) ≤ 5 by decide), if_neg m1]
        · rw [er, if_neg (show ¬ (5:Int32) = 3 by decide), if_neg (show ¬ (5:Int32) = 4 by decide), if_pos m2]
  · have n3 : ¬ x1 = 3 := fun q => hx (by rw [q]; decide)
    have n4 : ¬ x1 = 4 := fun q => hx (by rw [q]; decide)
    refine ⟨-3, S1, S1, ?_, ?_, hT, i1⟩
    · unfold fX11_best fX11_best_b44
      rw [e1, b_q, if_neg n3, if_neg n4]
      by_cases z : x1 < 0
      · rw [if_pos z]
      · have z' : 0 ≤ x1.toInt := z_le.mp (z_nlt z)
        rw [if_neg z, if_neg (fun q => hx ⟨z', z_le.mp q⟩)]
    · unfold fX12_best
      rw [hin, b1_q, if_neg hx, if_pos rfl]
