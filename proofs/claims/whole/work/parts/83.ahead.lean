/-! THE SET AHEAD, by the class -/
theorem v_coinAt {T : zT} (hT : iT T) {w s : Nat} (hw : w < 60) (hs : s < 256) {S : zS} : fX5_coinAt T 176 (nI w) (nI s) S = some (S.1 178 (256 * w + s)) := by
  have e2 : nI w * 256 + nI s = nI (256 * w + s) := by rw [show nI w * 256 = nI (256 * w) from by rw [liq, n_mul, Nat.mul_comm], n_add]
  unfold fX5_coinAt fX5_coinAt_b37
  have z0 : ∀ n : Nat, n < 2147483648 → ¬ nI n < 0 := fun n hn h => by have := z_lt.mp h; rw [nI_toInt hn] at this; have e : (0 : Int32).toInt = 0 := rfl; omega
  rw [if_neg (z0 w (by omega)), if_neg (show ¬ 60 ≤ nI w by rw [n_leL (by omega) (by omega)]; omega), if_neg (z0 s (by omega)), if_neg (show ¬ 256 ≤ nI s by rw [n_leL (by omega) (by omega)]; omega), e2, g_in (by omega) (by decide), tn_nI (by omega), zT_176_8 hT]
theorem v_costOf {T : zT} (hT : iT T) {B : Bk} (hB : okB B) {w : Nat} (hw : w < 61) {x : Int32} (hx : ∀ t, t < 8 → zm x t = true → zm (bth B) t = true) {S : zS} (hc : bkC S 7 B) : ∃ r, fX5_costOf T 176 x (nI w) S = some r ∧ r.toInt = cs8 (owI B w) x ∧ 0 ≤ r.toInt ∧ r.toInt ≤ 800000 := by
  have key : zwp (lp (fun a => fX5_costOf_l5 T 176 x (nI w) S a.1 a.2) (0, 0)) (fun r => r.toInt = cs8 (owI B w) x ∧ 0 ≤ r.toInt ∧ r.toInt ≤ 800000) := by
    refine lp_for (I := fun n a => ∃ v : Int32, a = (v, nI n) ∧ v.toInt = cst (owI B w) x n ∧ 0 ≤ v.toInt ∧ v.toInt ≤ 100000 * n) 8 ?_ ?_ ?_
    · rintro n a hn ⟨v, rfl, h1, h2, h3⟩
      left
      show ∃ a', fX5_costOf_l5 T 176 x (nI w) S v (nI n) = _ ∧ _
      unfold fX5_costOf_l5 fX5_costOf_b34
      have hs : cst (owI B w) x (n + 1) = cst (owI B w) x n + if zm x n = true then owI B w n else 0 := rfl
      rw [if_neg (show ¬ 8 ≤ nI n by rw [n_leL (by omega) (by omega)]; omega), let_q, n_addL]
      cases z : zm x n with
      | false =>
        rw [if_pos ((m_sh0 (by omega)).mpr z)]
        refine ⟨_, rfl, v, rfl, ?_, h2, by omega⟩
        rw [hs, z, if_neg (by decide)]; omega
      | true =>
        have hth' := hx n hn z
        obtain ⟨o1, o2, o3⟩ := owI_e hB hn hth' hw
        rw [if_neg (fun y => by rw [m_sh0 (by omega), z] at y; cases y), zT_176_0 hT, c_firstOwed hT hc hn hth', b1_q, let_q, let_q]
        have ea : (v + (B.1 0 n + B.1 1 n * nI w)).toInt = v.toInt + owI B w n := by rw [z_add (by omega) (by omega), o1]
        refine ⟨_, rfl, _, rfl, ?_, ?_, ?_⟩
        · rw [hs, z, if_pos rfl, ea, h1]
        · omega
        · omega
    · rintro a ⟨v, rfl, h1, h2, h3⟩
      refine ⟨v, ?_, h1, h2, by omega⟩
      show fX5_costOf_l5 T 176 x (nI w) S v (nI 8) = _
      unfold fX5_costOf_l5
      exact if_pos (show (8 : Int32) ≤ nI 8 by decide)
    · exact ⟨0, rfl, rfl, Int.le_refl _, Int.le_refl _⟩
  obtain ⟨r, e, q⟩ := key
  refine ⟨r, ?_, q⟩
  unfold fX5_costOf
  rw [e, b1_q]
theorem mi_le2 : ∀ {a b : Nat}, a < 256 → b < 256 → mi (nI a) (nI b) = 0 → a ≤ b := by
  intro a b ha hb h
  have key : (nI a).toBitVec &&& (nI b).toBitVec = (nI a).toBitVec := by
    rw [← Int32.toBitVec_and]
    apply congrArg
    refine is8_ext (is8_and (is8_nI ha)) (is8_nI ha) (fun t ht => ?_)
    rw [m_and]
    cases z : zm (nI a) t with
    | false => rfl
    | true => rw [(mi0 (is8_nI ha)).mp h t ht z]; rfl
  have h2 : (nI a).toBitVec.toNat ≤ (nI b).toBitVec.toNat := by
    rw [← key, BitVec.toNat_and]
    exact Nat.and_le_right
  have e : ∀ n : Nat, n < 256 → (nI n).toBitVec.toNat = n := fun n hn => by
    show (BitVec.ofNat 32 n).toNat = n
    rw [BitVec.toNat_ofNat]
    exact Nat.mod_eq_of_lt (by omega)
  rwa [e a ha, e b hb] at h2
def ahP (B : Bk) (w : Nat) (V : Int) (s fr : Nat) : Prop := mi (nI fr) (nI s) = 0 ∧ mi (mi (nI s) (nI fr)) (mi (bth B) (lsS B w)) = 0 ∧ 0 ≤ bsL B w fr ∧ bsL B w fr - cs8 (owI B w) (mi (nI s) (nI fr)) = V
theorem ah_V {B : Bk} {w s : Nat} (h : 0 ≤ bsL B (w + 1) s) : 0 ≤ pst (bsL B w) (mi (bth B) (lsS B w)) (owI B w) s ∧ bsL B (w + 1) s = pst (bsL B w) (mi (bth B) (lsS B w)) (owI B w) s + gnN B w s (pc (inS B w s)) := adI_nn (x := pst (bsL B w) (mi (bth B) (lsS B w)) (owI B w) s) (d := gnN B w s (pc (inS B w s))) h
theorem ah_iff {B : Bk} {w s fr : Nat} (h : 0 ≤ bsL B (w + 1) s) : ahP B w (pst (bsL B w) (mi (bth B) (lsS B w)) (owI B w) s) s fr ↔ ahd B w s fr := by
  obtain ⟨h1, h2⟩ := ah_V h
  unfold ahP ahd
  generalize pst (bsL B w) (mi (bth B) (lsS B w)) (owI B w) s = V at h1 h2 ⊢
  constructor
  · rintro ⟨a1, a2, a3, a4⟩
    refine ⟨a3, ?_⟩
    unfold cdP
    rw [if_pos ⟨a3, a1, a2, by omega⟩, a4]
    unfold adI
    rw [if_neg (show ¬ V < 0 by omega), if_neg (show ¬ V + gnN B w s (pc (inS B w s)) < 0 by omega)]
    exact h2.symm
  · rintro ⟨a3, a4⟩
    rw [← a4] at h
    obtain ⟨b1, b2⟩ := adI_nn h
    have b3 : cdP (bsL B w) (mi (bth B) (lsS B w)) (owI B w) s fr = V := by omega
    by_cases z : 0 ≤ bsL B w fr ∧ mi (nI fr) (nI s) = 0 ∧ mi (mi (nI s) (nI fr)) (mi (bth B) (lsS B w)) = 0 ∧ cs8 (owI B w) (mi (nI s) (nI fr)) ≤ bsL B w fr
    · unfold cdP at b3
      rw [if_pos z] at b3
      exact ⟨z.2.1, z.2.2.1, z.1, b3⟩
    · unfold cdP at b1
      rw [if_neg z] at b1
      omega
theorem v_setAhead {T : zT} (hT : iT T) {B : Bk} (hB : okB B) {w s : Nat} (hw : w + 1 < 60) (hs : s < 256) {S : zS} (hc : bkC S 7 B) {c : Int} (hc0 : c < 2000000000) (hok : okLn B c (bsL B (w + 2))) (hokw : okLn B c (bsL B (w + 1))) (h0 : 0 ≤ bsL B (w + 2) s) (h8 : ∀ i, i < 256 → (S.1 178 (256 * w + i)).toInt = bsL B (w + 1) i) (h8' : ∀ i, i < 256 → (S.1 178 (256 * (w + 1) + i)).toInt = bsL B (w + 2) i) (h9 : gnAt S B 179 0 (w + 1) s) : ∃ r, fX5_setAhead T 176 (nI (w + 1)) (nI s) S = some (nI r) ∧ isL (fun fr => fr < 256 ∧ ahd B (w + 1) s fr) r := by
  have e2 : nI (w + 1) * 256 + nI s = nI (256 * (w + 1) + s) := by rw [show nI (w + 1) * 256 = nI (256 * (w + 1)) from by rw [liq, n_mul, Nat.mul_comm], n_add]
  obtain ⟨hV1, hV2⟩ := ah_V h0
  have hs0 := hok s hs
  have hgn := h9 (hs0.2.2 h0)
  have hgb := (gn_bounds hB (w + 1) s (pc (inS B (w + 1) s) - 0)).2
  have hr4 := h8' s hs
  have hV : (S.1 178 (256 * (w + 1) + s) - S.1 179 (256 * (w + 1) + s)).toInt = pst (bsL B (w + 1)) (mi (bth B) (lsS B (w + 1))) (owI B (w + 1)) s := by
    rw [z_sub (by omega) (by omega), hr4, hgn, hV2, Nat.sub_zero]; omega
  have hah : ∀ fr, ahP B (w + 1) (pst (bsL B (w + 1)) (mi (bth B) (lsS B (w + 1))) (owI B (w + 1)) s) s fr ↔ ahd B (w + 1) s fr := fun fr => ah_iff h0
  -- some set is ahead
  have some1 : ∃ fr, fr < 256 ∧ fr ≤ s ∧ ahd B (w + 1) s fr := by
    rcases bst_at (cdP (bsL B (w + 1)) (mi (bth B) (lsS B (w + 1))) (owI B (w + 1)) s) 256 with q | ⟨fr, hfr, q⟩
    · have : pst (bsL B (w + 1)) (mi (bth B) (lsS B (w + 1))) (owI B (w + 1)) s = -1 := q
      omega
    · have hq : pst (bsL B (w + 1)) (mi (bth B) (lsS B (w + 1))) (owI B (w + 1)) s = cdP (bsL B (w + 1)) (mi (bth B) (lsS B (w + 1))) (owI B (w + 1)) s fr := q
      by_cases z : 0 ≤ bsL B (w + 1) fr ∧ mi (nI fr) (nI s) = 0 ∧ mi (mi (nI s) (nI fr)) (mi (bth B) (lsS B (w + 1))) = 0 ∧ cs8 (owI B (w + 1)) (mi (nI s) (nI fr)) ≤ bsL B (w + 1) fr
      · refine ⟨fr, hfr, mi_le2 hfr hs z.2.1, (hah fr).mp ⟨z.2.1, z.2.2.1, z.1, ?_⟩⟩
        rw [hq]; unfold cdP; rw [if_pos z]
      · have : cdP (bsL B (w + 1)) (mi (bth B) (lsS B (w + 1))) (owI B (w + 1)) s fr = -1 := by unfold cdP; rw [if_neg z]
        omega
  unfold fX5_setAhead
  rw [zT_176_0 hT, zT_176_9 hT, c_lostBy hT hc, b1_q, bkC_th hc, show bth B &&& (lsS B (w + 1) ^^^ (-1)) = mi (bth B) (lsS B (w + 1)) from rfl, let_q, v_coinAt hT (by omega) hs, b1_q, e2, g_in (by omega) (by decide), tn_nI (by omega)]
  generalize hu : S.1 178 (256 * (w + 1) + s) - S.1 179 (256 * (w + 1) + s) = u at hV
  rw [let_q]
  have key : zwp (lp (fun a => fX5_setAhead_l43 T 176 (nI (w + 1)) (nI s) (mi (bth B) (lsS B (w + 1))) u S a) 0) (fun r => (r = .inl () ∧ ∀ i, i < s → ¬ ahd B (w + 1) s i) ∨ ∃ i, r = .inr (nI i) ∧ isL (fun fr => fr < 256 ∧ ahd B (w + 1) s fr) i) := by
    refine lp_for (I := fun n a => a = nI n ∧ ∀ i, i < n → ¬ ahd B (w + 1) s i) s ?_ ?_ ?_
    · rintro n a hn ⟨rfl, h1⟩
      have hv := h8 n (by omega)
      have hvb := hokw n (by omega)
      have no : ¬ ahd B (w + 1) s n → ∃ a', fX5_setAhead_b109 T 176 (nI (w + 1)) (nI s) (mi (bth B) (lsS B (w + 1))) u (nI n) S = some (.inl a') ∧ a' = nI (n + 1) ∧ ∀ i, i < n + 1 → ¬ ahd B (w + 1) s i := by
        intro hno
        unfold fX5_setAhead_b109
        rw [let_q, n_addL]
        refine ⟨_, rfl, rfl, fun i hi => ?_⟩
        by_cases z : i = n
        · rw [z]; exact hno
        · exact h1 i (by omega)
      unfold fX5_setAhead_l43
      rw [if_neg (show ¬ nI s ≤ nI n by rw [n_le (by omega) (by omega)]; omega), n_subL (by omega), show w + 1 - 1 = w from rfl, v_coinAt hT (by omega) (show n < 256 by omega), b1_q, let_q, show nI s &&& (nI n ^^^ (-1)) = mi (nI s) (nI n) from rfl, show nI n &&& (nI s ^^^ (-1)) = mi (nI n) (nI s) from rfl, show mi (nI s) (nI n) &&& (mi (bth B) (lsS B (w + 1)) ^^^ (-1)) = mi (mi (nI s) (nI n)) (mi (bth B) (lsS B (w + 1))) from rfl]
      by_cases c1 : mi (nI n) (nI s) = 0
      · rw [if_pos c1]
        by_cases c2 : mi (mi (nI s) (nI n)) (mi (bth B) (lsS B (w + 1))) = 0
        · rw [if_pos c2]
          by_cases c3 : S.1 178 (256 * w + n) < 0
          · left
            rw [if_pos c3]
            have c3' : (S.1 178 (256 * w + n)).toInt < 0 := z_lt.mp c3
            exact no (fun h => by have := h.1; omega)
          · have c3' : 0 ≤ (S.1 178 (256 * w + n)).toInt := z_le.mp (z_nlt c3)
            rw [if_neg c3]
            obtain ⟨r, e, q1, q2, q3⟩ := v_costOf hT hB (w := w + 1) (x := mi (nI s) (nI n)) (S := S) (by omega) (fun t ht hz => by
              have h2 := (mi0 (is8_mi (is8_nI hs))).mp c2 t ht hz
              rw [mi_m] at h2
              cases x : zm (bth B) t with
              | true => rfl
              | false => rw [x] at h2; cases h2) hc
            rw [e, b1_q]
            have es : (S.1 178 (256 * w + n) - r).toInt = bsL B (w + 1) n - cs8 (owI B (w + 1)) (mi (nI s) (nI n)) := by rw [z_sub (by omega) (by omega), hv, q1]
            by_cases c4 : S.1 178 (256 * w + n) - r = u
            · right
              rw [if_pos c4]
              refine ⟨_, rfl, Or.inr ⟨n, rfl, ⟨by omega, (hah n).mp ⟨c1, c2, by omega, ?_⟩⟩, fun j hj hp => h1 j hj hp.2⟩⟩
              rw [← es, c4]; exact hV
            · left
              rw [if_neg c4]
              refine no (fun h => c4 (z_eq.mpr ?_))
              have := ((hah n).mpr h).2.2.2
              omega
        · left
          rw [if_neg c2]
          exact no (fun h => c2 ((hah n).mpr h).2.1)
      · left
        rw [if_neg c1]
        exact no (fun h => c1 ((hah n).mpr h).1)
    · rintro a ⟨rfl, h1⟩
      refine ⟨_, ?_, Or.inl ⟨rfl, h1⟩⟩
      unfold fX5_setAhead_l43
      exact if_pos (show nI s ≤ nI s by rw [n_le (by omega) (by omega)]; omega)
    · exact ⟨rfl, fun i hi => absurd hi (Nat.not_lt_zero _)⟩
  obtain ⟨r, e, q⟩ := key
  rw [e, b1_q]
  rcases q with ⟨rfl, q⟩ | ⟨i, rfl, q⟩
  · refine ⟨s, rfl, ?_, fun j hj hp => q j hj hp.2⟩
    obtain ⟨fr, f1, f2, f3⟩ := some1
    have : fr = s := by
      apply Classical.byContradiction
      intro z
      exact q fr (by omega) f3
    exact ⟨hs, this ▸ f3⟩
  · exact ⟨i, rfl, q⟩
