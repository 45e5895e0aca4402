/-! RULED, both -/
theorem ok23 : oK23 invTS := by
  rintro T S ⟨hT, hi⟩ x1 x2
  obtain ⟨i1, ⟨r, hr6, hrc, hrr, hru⟩, i3, B, A, b0, bp⟩ := id hi
  obtain ⟨b1, b2, b3, b4, b5, b6⟩ := id b0
  obtain ⟨w1, w2, w3⟩ := bw_nI b1
  have em : (-1 : Int32).toInt = -1 := rfl
  have e00 : (0 : Int32).toInt = 0 := rfl
  have ei : ∀ S : zS, fX12_in T x2.toInt64 0 3 S = some (if 0 ≤ x2.toInt ∧ x2.toInt ≤ 3 then 1 else 0) := by
    intro S
    rw [v_in32]
    rfl
  have t3 : (3 : Int32).toInt = 3 := rfl
  unfold fX11_ruled fX11_ruled_b17 fX11_ruled_b111 fX11_ruled_b126 fX12_ruled fX12_ruled_b20
  rcases c_isRule (T := T) hr6 hrc x1 with ⟨h1, e1⟩ | ⟨h1, e1⟩
  · obtain ⟨q, hq, rfl⟩ := isRl_q hr6 h1
    obtain ⟨L, l1, l2, l3⟩ := hru q hq
    have hR : ∀ Sr : zS, Sr.1 187 5 = nI r → fX12_isRule T 187 (nI q) Sr = some 1 := by
      intro Sr hp
      rcases r_isRule (T := T) (S := Sr) hr6 hp (nI q) with ⟨-, e⟩ | ⟨n, -⟩
      · exact e
      · exact absurd h1 n
    rw [e1, b1_q, if_neg n10]
    by_cases hx : 0 ≤ x2.toInt ∧ x2.toInt ≤ 3
    · obtain ⟨u1, -⟩ := rul_T hT (show q < 6 by omega)
      obtain ⟨Sc1, Sx1, e2, -, -, g1, -⟩ := rule_sim hT b1 l1 (show q < 6 by omega) w1 w3 (wrkR_0 (S.2 187 52)) (wrkC_0 w3) b3 b4 l2 l3 rfl
      -- the reference follows it, from any state with its book and rules
      have fol : ∀ Sr : zS, bkR Sr.1 B → ruR Sr (2 + q) L → ∃ Sr', fX12_follows T 187 (nI q) 0 Sr = some ((), Sr') ∧ rulEnd B Sc1 Sr' ∧ gQ Sr Sr' := by
        intro Sr hr hrr'
        obtain ⟨Sy, Sr1, k1, k2, k3, -, k4, -⟩ := rule_sim hT b1 l1 (show q < 6 by omega) w1 w3 (wrkR_0 (Sr.2 187 52)) (wrkC_0 w3) b3 hr l2 hrr' rfl
        rw [e2] at k1
        cases k1
        exact ⟨Sr1, k2, k3, k4⟩
      have fr : ∀ a b, 187 ≤ a → Sc1.1 a b = S.1 a b := fun a b h => g1 a b (by omega)
      have r1 : bkR Sc1.1 B := bkR_p (S := S) (Sr := Sc1) fr b4
      have rr1 : ruR Sc1 (2 + q) L := ruR_p (S := S) (Sr := Sc1) l1 fr l3
      have k1 := kp_I g1
      have ic1 : inv Sc1 := inv_kp k1.1 k1.2 hi
      rw [if_neg (show ¬ x2 < 0 by intro z; have := z_lt.mp z; omega), if_pos (show x2 ≤ 3 from z_le.mpr (by omega)), g_in (by omega) (by decide), tn_nI (by omega), zT_0_12 hT, zT_0_6 hT, u1, e2, b_q]
      by_cases y3 : x2 = 3
      · subst y3
        rw [if_neg (show ¬ (3 : Int32) = 0 by decide), if_neg (show ¬ (3 : Int32) = 1 by decide), if_neg (show ¬ (3 : Int32) = 2 by decide)]
        obtain ⟨S15, e5, f5, j5, q5, p5, i5, c5⟩ := c_ready hT (invT_kp k1.1 i1) (invR_kp k1.1 ⟨r, hr6, hrc, hrr, hru⟩) (invI_kp k1.1 i3) (invB_kp k1.1 b0) (invP_kp k1.1 k1.2 bp)
        obtain ⟨v, S20, e6, f6, r6, q6⟩ := r_asBest hT b1 c5.2.2.2.1
        have fr5 : ∀ a b, 187 ≤ a → S15.1 a b = S.1 a b := fun a b h => (f5 a b (by omega)).trans (fr a b h)
        have rr6 : ruR S20 (2 + q) L := ruR_cg (by have := l1.1; omega) (fun a b h1 h2 _ _ _ => (f6 a b (by omega)).trans (fr5 a b (by omega))) l3
        obtain ⟨S10, e7, ⟨h1, h2, h3, h4, h5, h6⟩, g7⟩ := fol S20 r6 rr6
        have pm := p5.2.2.2.1
        have ev : v = S15.1 176 3 := z_eq.mpr (by omega)
        have hb := bst_m1 (bsL B (bw B)) 256
        have k7 := kp_Q g7
        have hinv : inv S10 := inv_kp k7.1 k7.2 (inv_fP f6 i5)
        have e50 : S15.1 187 5 = nI r := by rw [fr5 _ _ (by omega)]; exact hrr
        have c7 : S15.1 166 7 = Sc1.1 166 7 := f5 _ _ (by omega)
        have c3 : S15.1 166 3 = Sc1.1 166 3 := f5 _ _ (by omega)
        rw [e5, b_q, let_q, c7, c3]
        have href : ∀ w : Int32, (if v = -1 then some ((-1000000 : Int32), S10) else if Sc1.1 166 7 = -1 then some (v - Sc1.1 166 3, S10) else some ((-1000000 : Int32), S10)) = some (w, S10) → (zb1 (fX12_isRule T 187 (nI q) S15) fun r1 => if r1 = 0 then some ((-2 : Int32), S15) else zb1 (fX12_in T (3 : Int32).toInt64 0 3 S15) fun r4 => if r4 = 0 then some ((-2 : Int32), S15) else if (3 : Int32) = 3 then zb (fX12_asBest T 187 S15) fun r18 S20 => fX12_ruled_b36 T 187 (nI q) 3 r18 S20 else fX12_ruled_b36 T 187 (nI q) 3 0 S15) = some (w, S10) := by
          intro w hw
          rw [hR S15 e50, b1_q, if_neg n10, ei, b1_q, if_pos hx, if_neg n10, if_pos rfl, e6, b_q]
          unfold fX12_ruled_b36 fX12_ruled_b61 fX12_ruled_b73
          rw [e7, b_q, if_pos rfl, h2, h3]
          exact hw
        by_cases y : Sc1.1 166 7 = -1
        · rw [if_pos y]
          by_cases z : 0 ≤ S15.1 176 3
          · have z' := z_le.mp z
            rw [if_pos z]
            exact ⟨_, S15, S10, rfl, href _ (by rw [if_neg (show ¬ v = -1 by rw [ev]; intro u; rw [u] at z'; omega), if_pos y, ev]), hT, hinv⟩
          · have z' := z_lt.mp (z_nle z)
            rw [if_neg z]
            exact ⟨_, S15, S10, rfl, href _ (by rw [if_pos (show v = -1 from z_eq.mpr (by omega))]), hT, hinv⟩
        · rw [if_neg y]
          exact ⟨_, S15, S10, rfl, href _ (by
            by_cases u : v = -1
            · rw [if_pos u]
            · rw [if_neg u, if_neg y]), hT, hinv⟩
      · obtain ⟨S10, e7, ⟨h1, h2, h3, h4, h5, h6⟩, g7⟩ := fol Sc1 r1 rr1
        have k7 := kp_Q g7
        have hinv : inv S10 := inv_kp k7.1 k7.2 ic1
        have e50 : Sc1.1 187 5 = nI r := by rw [fr _ _ (by omega)]; exact hrr
        have r10 : bkR S10.1 B := bkR_Q g7 r1
        have href : ∀ w : Int32, (if x2 = 0 then some (Sc1.1 166 3, S10) else if x2 = 1 then some (Sc1.1 166 4, S10) else some (Sc1.1 166 7, S10)) = some (w, S10) → (zb1 (fX12_isRule T 187 (nI q) Sc1) fun r1 => if r1 = 0 then some ((-2 : Int32), Sc1) else zb1 (fX12_in T x2.toInt64 0 3 Sc1) fun r4 => if r4 = 0 then some ((-2 : Int32), Sc1) else if x2 = 3 then zb (fX12_asBest T 187 Sc1) fun r18 S20 => fX12_ruled_b36 T 187 (nI q) x2 r18 S20 else fX12_ruled_b36 T 187 (nI q) x2 0 Sc1) = some (w, S10) := by
          intro w hw
          rw [hR Sc1 e50, b1_q, if_neg n10, ei, b1_q, if_pos hx, if_neg n10, if_neg y3]
          unfold fX12_ruled_b36 fX12_ruled_b102
          rw [e7, b_q, if_neg y3, h2, h3, r_home hT r10 h4, b1_q]
          exact hw
        by_cases y0 : x2 = 0
        · rw [if_pos y0]
          exact ⟨_, Sc1, S10, rfl, href _ (by rw [if_pos y0]), hT, hinv⟩
        · rw [if_neg y0]
          by_cases y1 : x2 = 1
          · rw [if_pos y1]
            exact ⟨_, Sc1, S10, rfl, href _ (by rw [if_neg y0, if_pos y1]), hT, hinv⟩
          · have y2 : x2 = 2 := by
              have t1 : (1 : Int32).toInt = 1 := rfl
              have t2 : (2 : Int32).toInt = 2 := rfl
              simp only [z_eq] at y0 y1 y3 ⊢
              omega
            rw [if_neg y1, if_pos y2]
            exact ⟨_, Sc1, S10, rfl, href _ (by rw [if_neg y0, if_neg y1]), hT, hinv⟩
    · refine ⟨-2, S, S, ?_, ?_, hT, hi⟩
      · by_cases z : x2 < 0
        · rw [if_pos z]
        · have z' := z_le.mp (z_nlt z)
          rw [if_neg z, if_neg (show ¬ x2 ≤ 3 from fun u => by have := z_le.mp u; exact hx ⟨by omega, by omega⟩)]
      · rw [hR S hrr, b1_q, if_neg n10, ei, b1_q, if_neg hx, if_pos rfl]
  · rw [e1, b1_q, if_pos rfl]
    refine ⟨-2, S, S, rfl, ?_, hT, hi⟩
    rcases r_isRule (T := T) (S := S) hr6 hrr x1 with ⟨h2, -⟩ | ⟨-, e⟩
    · exact absurd h2 h1
    · rw [e, b1_q, if_pos rfl]
