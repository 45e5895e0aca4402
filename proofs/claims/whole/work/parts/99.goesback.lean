/-! THE PLAN TRACED BACK, by the reference -/
theorem r_most0 {T : zT} (hT : iT T) {B : Bk} (hB : okB B) {S : zS} (hr : bkR S.1 B) : ∃ S2 r S3, fX12_asItIs T 187 S = some ((), S2) ∧ fX12_mostCoin T 187 S2 = some (r, S3) ∧ fP S S3 ∧ bkR S3.1 B ∧ cfR S3 G0 ∧ (∀ w, w < bw B → ∀ s, s < 256 → (S3.1 223 (256 * w + s)).toInt = bsL B (w + 1) s) ∧ r.toInt = bst (bsL B (bw B)) 256 := by
  obtain ⟨ebw, w1, w2⟩ := bw_n hB
  have em : (-1 : Int32).toInt = -1 := rfl
  obtain ⟨S1, e1, j1, f1, c1, h55, h59⟩ := r_asItIs hT hr
  have hr1 : bkR S1.1 B := bkR_cg (fun a b hb => f1 a b (fun z => by
    rw [z.1] at hb
    exact absurd hb (by unfold rN; simp))) hr
  obtain ⟨d1, d2⟩ := hB.2.2.2.1
  obtain ⟨S2, e2, o2, k2, m2⟩ := r_plans hT hB okG_0 (h := 0) (c := B.1 6 2) (by decide) (by omega) hr1 c1 h55 h59
  rw [if_neg (show ¬ (B.1 6 2).toInt < 0 by omega)] at k2
  have k3 : ∀ w, w < bw B → ∀ s, s < 256 → (S2.1 223 (256 * w + s)).toInt = bsL B (w + 1) s := fun w hw s hs => by
    rw [k2 w hw s hs]
    exact rfL_0 hB (w + 1) (by omega) s hs
  have r2 := qR_bk o2 hr1
  have hL : ∀ s, s < 256 → (S2.1 223 (256 * (bw B - 1) + s)).toInt = bsL B (bw B) s := fun s hs => by
    rw [k3 _ (by omega) s hs, show bw B - 1 + 1 = bw B by omega]
  obtain ⟨r, ea, qa⟩ := r_atEnd hT hB r2 hL (fun s hs => (ok_bsL' hB w2 s hs).1)
  have fp : fP S S2 := fun a b h => (o2.1 a b (by omega)).trans (f1 a b (by omega))
  have emc : ∃ r', fX12_mostCoin T 187 S1 = some (r', S2) ∧ r'.toInt = bst (bsL B (bw B)) 256 := by
    unfold fX12_mostCoin fX12_mostCoin_b23
    rw [e2, b_q, ea, b1_q]
    rcases qa with ⟨a1, a2⟩ | ⟨s, a1, a2, a3⟩
    · rw [if_pos a1]
      exact ⟨-1, rfl, by rw [a2, em]⟩
    · rw [if_neg (show ¬ r = -1 by rw [a1]; intro q; have := z_eq.mp q; have hs := a3.1.1; rw [nI_toInt (by omega)] at this; omega), a1, r_planned hT hB r2 a3.1.1, b1_q]
      exact ⟨_, rfl, by rw [hL s a3.1.1]; exact a3.1.2⟩
  obtain ⟨r', e3, q3⟩ := emc
  exact ⟨S1, r', S2, e1, e3, fp, r2, qR_cf o2 c1, k3, q3⟩
theorem cnd_0 {B : Bk} (hB : okB B) {w s fr : Nat} (hw : w < 60) (hfr : fr < 256) : cnd B G0 (bsL B w) w s fr = adI (cdP (bsL B w) (mi (bth B) (lsS B w)) (owI B w) s fr) (gnN B w s (pc (inS B w s))) := by
  have e2 : gnC B G0 w s = gnN B w s (pc (inS B w s)) := by
    unfold gnC inS
    rw [goC_0]
  unfold cnd
  rw [innC_0 hB, e2]
  refine congrArg (fun z => adI z (gnN B w s (pc (inS B w s)))) (cdP_congr ?_)
  exact ajC_0 hw (ok_bsL hB w (by omega) fr hfr).1
theorem mi_fet {B : Bk} (hB : okB B) {w to m : Nat} (hto : to < 256) : mi (mi (nI to) (nI m)) (mi (mi (mi (bth B) (nI m)) (goC B G0 (nI w))) (sdB G0)) = 0 ↔ mi (mi (nI to) (nI m)) (mi (bth B) (lsS B w)) = 0 := by
  rw [goC_0, show sdB G0 = 0 from if_pos rfl, mi_0 (is8_mi (is8_mi hB.1)), mi0 (is8_mi (is8_nI hto)), mi0 (is8_mi (is8_nI hto))]
  constructor
  · intro h t ht hz
    have h1 := h t ht hz
    rw [mi_m, mi_m] at h1
    rw [mi_m]
    cases x : zm (bth B) t <;> cases y : zm (lsS B w) t <;> simp_all
  · intro h t ht hz
    have h1 := h t ht hz
    rw [mi_m] at h1 hz
    rw [mi_m, mi_m]
    cases x : zm (bth B) t <;> cases y : zm (lsS B w) t <;> cases v : zm (nI m) t <;> simp_all
/-- a condition and its first set, told from the end -/
theorem r_setAhead {T : zT} (hT : iT T) {B : Bk} (hB : okB B) {w to : Nat} (hw : w + 1 < bw B) (hto : to < 256) {S : zS} (hr : bkR S.1 B) (hc : cfR S G0) (hk : ∀ w, w < bw B → ∀ s, s < 256 → (S.1 223 (256 * w + s)).toInt = bsL B (w + 1) s) (h0 : 0 ≤ bsL B (w + 2) to) : ∃ r S', lp (fun a => fX12_goesBack_l32 T 187 (nI to) (nI (w + 1)) a.1 a.2.1 a.2.2) (0, 255, S) = some (nI r, S') ∧ jR S S' ∧ isL (fun fr => fr < 256 ∧ ahd B (w + 1) to fr) r := by
  obtain ⟨ebw, w1, w2⟩ := bw_n hB
  have em : (-1 : Int32).toInt = -1 := rfl
  have e00 : (0 : Int32).toInt = 0 := rfl
  have hah := fun fr => ah_iff (B := B) (w := w + 1) (s := to) (fr := fr) h0
  obtain ⟨hV1, hV2⟩ := ah_V h0
  have some1 : ∃ fr, fr < 256 ∧ ahd B (w + 1) to fr := by
    rcases bst_at (cdP (bsL B (w + 1)) (mi (bth B) (lsS B (w + 1))) (owI B (w + 1)) to) 256 with q | ⟨fr, hfr, q⟩
    · have : pst (bsL B (w + 1)) (mi (bth B) (lsS B (w + 1))) (owI B (w + 1)) to = -1 := q
      omega
    · have hq : pst (bsL B (w + 1)) (mi (bth B) (lsS B (w + 1))) (owI B (w + 1)) to = cdP (bsL B (w + 1)) (mi (bth B) (lsS B (w + 1))) (owI B (w + 1)) to fr := q
      by_cases z : 0 ≤ bsL B (w + 1) fr ∧ mi (nI fr) (nI to) = 0 ∧ mi (mi (nI to) (nI fr)) (mi (bth B) (lsS B (w + 1))) = 0 ∧ cs8 (owI B (w + 1)) (mi (nI to) (nI fr)) ≤ bsL B (w + 1) fr
      · refine ⟨fr, hfr, (hah fr).mp ⟨z.2.1, z.2.2.1, z.1, ?_⟩⟩
        rw [hq]; unfold cdP; rw [if_pos z]
      · have : cdP (bsL B (w + 1)) (mi (bth B) (lsS B (w + 1))) (owI B (w + 1)) to fr = -1 := by unfold cdP; rw [if_neg z]
        omega
  have key : zwp (lp (fun a => fX12_goesBack_l32 T 187 (nI to) (nI (w + 1)) a.1 a.2.1 a.2.2) (0, 255, S)) (fun e => ∃ r, e.1 = nI r ∧ jR S e.2 ∧ isL (fun fr => fr < 256 ∧ ahd B (w + 1) to fr) r) := by
    refine lp_for (I := fun n a => ∃ r x S', a = (nI r, x, S') ∧ x.toInt = 255 - (n : Int) ∧ jR S S' ∧ (isL (fun fr => 256 - n ≤ fr ∧ fr < 256 ∧ ahd B (w + 1) to fr) r ∨ ∀ fr, 256 - n ≤ fr → fr < 256 → ¬ ahd B (w + 1) to fr)) 256 ?_ ?_ ?_
    · rintro n a hn ⟨r, x, S', rfl, hx, ho, h1⟩
      left
      show ∃ a', fX12_goesBack_l32 T 187 (nI to) (nI (w + 1)) (nI r) x S' = _ ∧ _
      obtain ⟨m, em0⟩ : ∃ m, 255 - n = m := ⟨_, rfl⟩
      have e1 : 256 - n = m + 1 := by omega
      have e2 : 256 - (n + 1) = m := by omega
      rw [e1] at h1
      rw [e2]
      have hm : m < 256 := by omega
      have ex : x = nI m := z_eq.mpr (by rw [nI_toInt (by omega)]; omega)
      have hr' : bkR S'.1 B := by rw [ho.1]; exact hr
      have hc' : cfR S' G0 := by unfold cfR; rw [ho.1]; exact hc
      have hv : (S'.1 223 (256 * w + m)).toInt = bsL B (w + 1) m := by rw [ho.1]; exact hk w (by omega) m hm
      have hvm := ok_bsL' hB (show w + 1 ≤ 60 by omega) m hm
      have hto2 : (S'.1 223 (256 * (w + 1) + to)).toInt = bsL B (w + 2) to := by rw [ho.1]; exact hk (w + 1) hw to hto
      have edec : ∀ (S2 : zS), jR S S2 → ∀ q, (isL (fun fr => m ≤ fr ∧ fr < 256 ∧ ahd B (w + 1) to fr) q ∨ ∀ fr, m ≤ fr → fr < 256 → ¬ ahd B (w + 1) to fr) → ∃ a', fX12_goesBack_b135 T 187 (nI to) (nI (w + 1)) (nI m) (nI q) S2 = some (.inl a') ∧ ∃ r x S', a' = (nI r, x, S') ∧ x.toInt = 255 - ((n + 1 : Nat) : Int) ∧ jR S S' ∧ (isL (fun fr => m ≤ fr ∧ fr < 256 ∧ ahd B (w + 1) to fr) r ∨ ∀ fr, m ≤ fr → fr < 256 → ¬ ahd B (w + 1) to fr) := by
        intro S2 hj q hq
        unfold fX12_goesBack_b135
        rw [let_q]
        refine ⟨_, rfl, q, _, S2, rfl, ?_, hj, hq⟩
        rw [z_add (by rw [nI_toInt (by omega)]; omega) (by rw [nI_toInt (by omega)]; omega), nI_toInt (by omega)]
        omega
      have hno : ¬ ahd B (w + 1) to m → (isL (fun fr => m ≤ fr ∧ fr < 256 ∧ ahd B (w + 1) to fr) r ∨ ∀ fr, m ≤ fr → fr < 256 → ¬ ahd B (w + 1) to fr) := by
        intro h
        rcases h1 with h1 | h1
        · left
          refine ⟨⟨by have := h1.1.1; omega, h1.1.2⟩, fun j hj hp => ?_⟩
          by_cases z : j = m
          · exact h (z ▸ hp.2.2)
          · exact h1.2 j hj ⟨by have := hp.1; omega, hp.2⟩
        · right
          intro fr a b
          by_cases z : fr = m
          · rw [z]; exact h
          · exact h1 fr (by omega) b
      have no : ¬ ahd B (w + 1) to m → ∀ (u : Int32), ∃ a', fX12_goesBack_b96 T 187 (nI to) (nI (w + 1)) (nI r) (nI m) u S' = some (.inl a') ∧ ∃ r x S', a' = (nI r, x, S') ∧ x.toInt = 255 - ((n + 1 : Nat) : Int) ∧ jR S S' ∧ (isL (fun fr => m ≤ fr ∧ fr < 256 ∧ ahd B (w + 1) to fr) r ∨ ∀ fr, m ≤ fr → fr < 256 → ¬ ahd B (w + 1) to fr) := by
        intro h u
        unfold fX12_goesBack_b96 fX12_goesBack_b97 fX12_goesBack_b134
        rw [if_pos (rfl : (0 : Int32) = 0)]
        exact edec S' ho r (hno h)
      have e256 : (256 : Int32) * nI w + nI m = nI (256 * w + m) := by rw [show (256 : Int32) * nI w = nI (256 * w) from by rw [liq, n_mul], n_add]
      unfold fX12_goesBack_l32
      rw [ex, if_neg (show ¬ nI m < 0 by intro h; have := z_lt.mp h; rw [nI_toInt (by omega)] at this; omega), if_neg (show ¬ nI (w + 1) ≤ 0 by intro h; have := z_le.mp h; rw [nI_toInt (by omega)] at this; omega), n_subL (by omega), show w + 1 - 1 = w from rfl, e256, g_in (by omega) (by decide), tn_nI (by omega), zT_187_53 hT, let_q, show nI m &&& (nI to ^^^ (-1)) = mi (nI m) (nI to) from rfl]
      by_cases c0 : S'.1 223 (256 * w + m) = -1
      · rw [if_pos c0]
        rw [c0, em] at hv
        exact no (fun h => by have := h.1; omega) _
      · rw [if_neg c0]
        have c0' : ¬ (S'.1 223 (256 * w + m)).toInt = -1 := fun q => c0 (z_eq.mpr (q.trans em.symm))
        by_cases c1 : mi (nI m) (nI to) = 0
        · rw [if_pos c1, r_fetchable hT hB okG_0 hr' hc', b1_q]
          rw [show (nI to &&& (nI m ^^^ (-1))) &&& (mi (mi (mi (bth B) (nI m)) (goC B G0 (nI (w + 1)))) (sdB G0) ^^^ (-1)) = mi (mi (nI to) (nI m)) (mi (mi (mi (bth B) (nI m)) (goC B G0 (nI (w + 1)))) (sdB G0)) from rfl]
          by_cases c2 : mi (mi (nI to) (nI m)) (mi (bth B) (lsS B (w + 1))) = 0
          · rw [if_pos ((mi_fet hB hto).mpr c2)]
            have hx : ∀ t, t < 8 → zm (mi (nI to) (nI m)) t = true → zm (bth B) t = true := fun t ht hz => by
              have h2 := (mi0 (is8_mi (is8_nI hto))).mp c2 t ht hz
              rw [mi_m] at h2
              cases x : zm (bth B) t with
              | true => rfl
              | false => rw [x] at h2; cases h2
            obtain ⟨v, S17, e17, j17, q17⟩ := r_leads hT hB okG_0 (w := w + 1) (fr := m) (to := to) (x := S'.1 223 (256 * w + m)) (S := S') (by omega) hto hx hr' hc' (by omega) (by omega)
            have eld : ldI B G0 (w + 1) (bsL B (w + 1) m) m to = adI (cdP (bsL B (w + 1)) (mi (bth B) (lsS B (w + 1))) (owI B (w + 1)) to m) (gnN B (w + 1) to (pc (inS B (w + 1) to))) := by
              rw [← cnd_0 hB (by omega) hm, cnd_ok ⟨c1, by rw [innC_0 hB]; exact c2⟩]
            rw [hv, eld] at q17
            unfold fX12_goesBack_b97
            have e256' : (256 : Int32) * nI (w + 1) + nI to = nI (256 * (w + 1) + to) := by rw [show (256 : Int32) * nI (w + 1) = nI (256 * (w + 1)) from by rw [liq, n_mul], n_add]
            rw [if_neg (show ¬ (1 : Int32) = 0 by decide), e17, b_q, e256', g_in (by omega) (by decide), tn_nI (by omega), zT_187_53 hT]
            have hcell : (S17.1 223 (256 * (w + 1) + to)).toInt = bsL B (w + 2) to := by rw [j17.1]; exact hto2
            by_cases c3 : v = S17.1 223 (256 * (w + 1) + to)
            · rw [if_pos c3]
              have hy : ahd B (w + 1) to m := ⟨by omega, by rw [← q17, c3]; exact hcell⟩
              exact edec S17 (jR_trans ho j17) m (Or.inl ⟨⟨Nat.le_refl _, hm, hy⟩, fun j hj hp => by have := hp.1; omega⟩)
            · rw [if_neg c3]
              unfold fX12_goesBack_b134
              refine edec S17 (jR_trans ho j17) r (hno (fun h => c3 (z_eq.mpr ?_)))
              rw [q17, hcell]; exact h.2
          · rw [if_neg (fun h => c2 ((mi_fet hB hto).mp h))]
            exact no (fun h => c2 ((hah m).mpr h).2.1) _
        · rw [if_neg c1]
          exact no (fun h => c1 ((hah m).mpr h).1) _
    · rintro a ⟨r, x, S', rfl, hx, ho, h1⟩
      refine ⟨(nI r, S'), ?_, r, rfl, ho, ?_⟩
      · show fX12_goesBack_l32 T 187 (nI to) (nI (w + 1)) (nI r) x S' = _
        unfold fX12_goesBack_l32
        exact if_pos (z_lt.mpr (by omega))
      · rcases h1 with h1 | h1
        · exact ⟨⟨h1.1.2.1, h1.1.2.2⟩, fun j hj hp => h1.2 j hj ⟨by omega, hp⟩⟩
        · obtain ⟨fr, f1, f2⟩ := some1
          exact absurd f2 (h1 fr (by omega) f1)
    · exact ⟨0, 255, S, rfl, rfl, jR_refl, Or.inr (fun fr a b => by omega)⟩
  obtain ⟨⟨e1, S'⟩, e, r, q1, q⟩ := key
  have q1' : e1 = nI r := q1
  subst q1'
  exact ⟨r, S', e, q⟩
def gbR (S S' : zS) : Prop := (∀ a b, a ≠ 224 → S'.1 a b = S.1 a b) ∧ ∀ a b, a ≠ 211 → a ≠ 212 → S'.2 a b = S.2 a b
theorem gbR_refl {S : zS} : gbR S S := ⟨fun _ _ _ => rfl, fun _ _ _ _ => rfl⟩
theorem gbR_bk {S S' : zS} {B : Bk} (h : gbR S S') (hr : bkR S.1 B) : bkR S'.1 B := bkR_cg (fun a b hb => h.1 a b (fun z => by subst z; exact absurd hb (by unfold rN; rw [if_neg (by decide), if_neg (by decide), if_neg (by decide), if_neg (by decide)]; omega))) hr
theorem r_goesBack {T : zT} (hT : iT T) {B : Bk} (hB : okB B) {S : zS} (hr : bkR S.1 B) (hc : cfR S G0) (hk : ∀ w, w < bw B → ∀ s, s < 256 → (S.1 223 (256 * w + s)).toInt = bsL B (w + 1) s) (h0 : 0 ≤ bst (bsL B (bw B)) 256) : ∃ S', fX12_goesBack T 187 S = some ((), S') ∧ gbR S S' ∧ ∃ hb, plH B hb ∧ ∀ w, w < bw B → S'.1 224 w = nI (hb (w + 1)) ∧ hb (w + 1) < 256 := by
  obtain ⟨ebw, w1, w2⟩ := bw_n hB
  have em : (-1 : Int32).toInt = -1 := rfl
  have e00 : (0 : Int32).toInt = 0 := rfl
  have t0 : (0 : Int32).toNatClampNeg = 0 := rfl
  have hL : ∀ s, s < 256 → (S.1 223 (256 * (bw B - 1) + s)).toInt = bsL B (bw B) s := fun s hs => by
    rw [hk _ (by omega) s hs, show bw B - 1 + 1 = bw B by omega]
  obtain ⟨r, ea, qa⟩ := r_atEnd hT hB hr hL (fun s hs => (ok_bsL' hB w2 s hs).1)
  rcases qa with ⟨-, a2⟩ | ⟨s0, rfl, -, hs0⟩
  · omega
  have key : zwp (lp (fun a => fX12_goesBack_l14 T 187 a.1 a.2.1 a.2.2) (nI s0, nI (bw B - 1), S)) (fun S' => gbR S S' ∧ ∃ hb, plH B hb ∧ ∀ w, w < bw B → S'.1 224 w = nI (hb (w + 1)) ∧ hb (w + 1) < 256) := by
    refine lp_for (I := fun n a => n ≤ bw B ∧ ∃ (S' : zS) (x : Int32) (hb : Nat → Nat), a = (nI (hb (bw B - n)), x, S') ∧ x.toInt = (bw B : Int) - 1 - n ∧ gbR S S' ∧ hb (bw B) = s0 ∧ hb (bw B - n) < 256 ∧ (n < bw B → 0 ≤ bsL B (bw B - n) (hb (bw B - n))) ∧ (n = bw B → hb 0 = 0) ∧ (∀ w, 1 ≤ w → bw B - n ≤ w → w < bw B → isL (fun fr => fr < 256 ∧ ahd B w (hb (w + 1)) fr) (hb w)) ∧ ∀ w, bw B - n ≤ w → w < bw B → S'.1 224 w = nI (hb (w + 1)) ∧ hb (w + 1) < 256) (bw B) ?_ ?_ ?_
    · rintro n a hn ⟨-, S', x, hb, rfl, hx, ho, q1, q2, q3, -, q5, q6⟩
      left
      obtain ⟨m, em1⟩ : ∃ m, bw B - n = m + 1 := ⟨bw B - n - 1, by omega⟩
      have em' : bw B - (n + 1) = m := by omega
      rw [em1] at q2 q3 q5 q6
      rw [em1, em']
      have ex : x = nI m := z_eq.mpr (by rw [nI_toInt (by omega)]; omega)
      have o7 : gbR S (zI S' 224 m (nI (hb (m + 1)))) := ⟨fun a b h => (zI_ne h).trans (ho.1 a b h), ho.2⟩
      have go : ∀ fr S2, jR (zI S' 224 m (nI (hb (m + 1)))) S2 → fr < 256 → (1 ≤ m → isL (fun fr => fr < 256 ∧ ahd B m (hb (m + 1)) fr) fr) → (m = 0 → fr = 0) → ∃ a', fX12_goesBack_b142 T 187 (nI m) (nI fr) S2 = some (.inl a') ∧ n + 1 ≤ bw B ∧ ∃ (S'' : zS) (x' : Int32) (hb' : Nat → Nat), a' = (nI (hb' m), x', S'') ∧ x'.toInt = (bw B : Int) - 1 - ((n + 1 : Nat) : Int) ∧ gbR S S'' ∧ hb' (bw B) = s0 ∧ hb' m < 256 ∧ (n + 1 < bw B → 0 ≤ bsL B m (hb' m)) ∧ (n + 1 = bw B → hb' 0 = 0) ∧ (∀ w, 1 ≤ w → m ≤ w → w < bw B → isL (fun fr => fr < 256 ∧ ahd B w (hb' (w + 1)) fr) (hb' w)) ∧ ∀ w, m ≤ w → w < bw B → S''.1 224 w = nI (hb' (w + 1)) ∧ hb' (w + 1) < 256 := by
        intro fr S2 hj hfr hL h0
        have hne : ∀ w, m + 1 ≤ w → (if w = m then fr else hb w) = hb w := fun w h => if_neg (by omega)
        unfold fX12_goesBack_b142
        rw [let_q]
        refine ⟨_, rfl, by omega, S2, _, fun w => if w = m then fr else hb w, by show _ = (nI (if m = m then fr else hb m), _, S2); rw [if_pos (rfl : m = m)], ?_, ⟨fun a b h => by rw [hj.1]; exact o7.1 a b h, fun a b h1 h2 => (hj.2 a b h1 h2).trans (o7.2 a b h1 h2)⟩, ?_, ?_, ?_, ?_, ?_, ?_⟩
        · rw [z_add (by rw [nI_toInt (by omega)]; omega) (by rw [nI_toInt (by omega)]; omega), nI_toInt (by omega)]
          omega
        · show (if bw B = m then fr else hb (bw B)) = s0
          rw [hne _ (by omega)]; exact q1
        · show (if m = m then fr else hb m) < 256
          rw [if_pos rfl]; exact hfr
        · intro h
          show 0 ≤ bsL B m (if m = m then fr else hb m)
          rw [if_pos rfl]; exact (hL (by omega)).1.2.1
        · intro h
          show (if 0 = m then fr else hb 0) = 0
          rw [if_pos (show 0 = m by omega)]; exact h0 (by omega)
        · intro w w1 w2 w3
          show isL (fun f => f < 256 ∧ ahd B w (if w + 1 = m then fr else hb (w + 1)) f) (if w = m then fr else hb w)
          rw [hne (w + 1) (by omega)]
          by_cases z : w = m
          · subst z; rw [if_pos rfl]; exact hL w1
          · rw [if_neg z]; exact q5 w w1 (by omega) w3
        · intro w h1 h2
          show S2.1 224 w = nI (if w + 1 = m then fr else hb (w + 1)) ∧ (if w + 1 = m then fr else hb (w + 1)) < 256
          rw [hne (w + 1) (by omega), hj.1, zI_eq]
          by_cases z : w = m
          · rw [if_pos z, z]; exact ⟨rfl, q2⟩
          · rw [if_neg z]; exact q6 w (by omega) h2
      show ∃ a', fX12_goesBack_l14 T 187 (nI (hb (m + 1))) x S' = _ ∧ _
      unfold fX12_goesBack_l14
      rw [ex, if_neg (show ¬ nI m < 0 by intro h; have := z_lt.mp h; rw [nI_toInt (by omega)] at this; omega), g_in (by omega) (by decide), tn_nI (by omega), zT_187_60 hT, let_q]
      cases m with
      | zero =>
        have el : lp (fun a => fX12_goesBack_l32 T 187 (nI (hb (0 + 1))) (nI 0) a.1 a.2.1 a.2.2) (0, 255, zI S' 224 0 (nI (hb (0 + 1)))) = some (nI 0, zI S' 224 0 (nI (hb (0 + 1)))) := by
          refine lp_stop ?_
          show fX12_goesBack_l32 T 187 (nI (hb (0 + 1))) (nI 0) 0 255 (zI S' 224 0 (nI (hb (0 + 1)))) = _
          unfold fX12_goesBack_l32
          rw [if_neg (show ¬ (255 : Int32) < 0 by decide), if_pos (show nI 0 ≤ 0 by decide)]; rfl
        rw [el, b1_q]
        exact go 0 _ jR_refl (by decide) (fun h => absurd h (by omega)) (fun _ => rfl)
      | succ w =>
        obtain ⟨fr, S2, e, hj, hL⟩ := r_setAhead hT hB (w := w) (to := hb (w + 1 + 1)) (S := zI S' 224 (w + 1) (nI (hb (w + 1 + 1)))) (by omega) q2 (gbR_bk o7 hr) (by unfold cfR; rw [o7.1 _ _ (by decide), o7.1 _ _ (by decide), o7.1 _ _ (by decide), o7.1 _ _ (by decide)]; exact hc) (fun v hv s hs => by rw [o7.1 _ _ (by decide)]; exact hk v hv s hs) (q3 hn)
        rw [e, b1_q]
        exact go fr S2 hj hL.1.1 (fun _ => hL) (fun h => absurd h (by omega))
    · rintro a ⟨-, S', x, hb, rfl, hx, ho, q1, q2, q3, q4, q5, q6⟩
      have hb0 := q4 rfl
      rw [Nat.sub_self] at q2 q5 q6 ⊢
      refine ⟨S', ?_, ho, hb, ⟨by rw [q1]; exact hs0, hb0, fun w w1 w2 => q5 w w1 (Nat.zero_le _) w2⟩, fun w hw => q6 w (Nat.zero_le _) hw⟩
      show fX12_goesBack_l14 T 187 (nI (hb 0)) x S' = _
      unfold fX12_goesBack_l14
      exact if_pos (z_lt.mpr (by omega))
    · refine ⟨Nat.zero_le _, S, nI (bw B - 1), fun _ => s0, rfl, by rw [nI_toInt (by omega)]; omega, gbR_refl, rfl, hs0.1.1, fun _ => ?_, fun h => absurd h (by omega), fun w _ h1 h2 => absurd h1 (by omega), fun w h1 h2 => absurd h1 (by omega)⟩
      show 0 ≤ bsL B (bw B - 0) s0
      rw [Nat.sub_zero, hs0.1.2]; exact h0
  obtain ⟨S', e, q⟩ := key
  refine ⟨S', ?_, q⟩
  unfold fX12_goesBack
  rw [ea, b1_q, g_t (by decide), zT_187_33 hT, t0, hr.2.2.1, ebw, n_subL (by omega), let_q, e, b1_q]
