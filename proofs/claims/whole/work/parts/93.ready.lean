/-! PLANS READY, both -/
theorem c_ready {T : zT} (hT : iT T) {B : Bk} {A : Rw} {S : zS} (h1 : invT S) (h2 : invR S) (h3 : invI S) (h4 : invB B A S) (h5 : invP B S) : ∃ S', fX11_readyPlans T 0 S = some (176, S') ∧ (∀ a b, a < 176 ∨ 184 < a → S'.1 a b = S.1 a b) ∧ (∀ a b, a < 164 ∨ 165 < a → S'.2 a b = S.2 a b) ∧ S'.1 176 2 = 1 ∧ plOK B S'.1 ∧ inv S' ∧ invB B A S' := by
  have hB := h4.1
  have hc := h4.2.2.1
  unfold fX11_readyPlans
  rw [zT_0_13 hT]
  rcases h5 with z | ⟨z, p⟩
  · obtain ⟨S', e, o, q1, q2⟩ := v_prepare hT hB hc z
    have fr : ∀ a b, a < 176 ∨ 184 < a → S'.1 a b = S.1 a b := fun a b h => o.1 a b (by unfold pP; omega)
    have k : ∀ a b, kp a b = true → S'.1 a b = S.1 a b := fun a b h => fr a b (by have := of_decide_eq_true h; omega)
    rw [e, b_q]
    exact ⟨S', rfl, fr, o.2, q1, q2, ⟨invT_kp k h1, invR_kp k h2, invI_kp k h3, B, A, invB_kp k h4, Or.inr ⟨q1, q2⟩⟩, invB_kp k h4⟩
  · have e : fX5_prepare T 176 S = some ((), S) := by
      unfold fX5_prepare
      rw [if_neg (by rw [z]; decide)]
    rw [e, b_q]
    exact ⟨S, rfl, fun _ _ _ => rfl, fun _ _ _ => rfl, z, p, ⟨h1, h2, h3, B, A, h4, Or.inr ⟨z, p⟩⟩, h4⟩
/-- what the reference's plans may change -/
def fP (S S' : zS) : Prop := ∀ a b, ¬ (a = 223 ∨ a = 187 ∧ 54 ≤ b ∧ b ≤ 59) → S'.1 a b = S.1 a b
theorem inv_fP {S S' : zS} (h : fP S S') (hi : inv S) : inv S' := inv_kp (fun a b q => h a b (by have := of_decide_eq_true q; omega)) (fun a b q => h a b (by have := of_decide_eq_true q; omega)) hi
theorem r_base {T : zT} (hT : iT T) {B : Bk} (hB : okB B) {S : zS} (hr : bkR S.1 B) : ∃ S1 S2, fX12_asItIs T 187 S = some ((), S1) ∧ fX12_plans T 187 S1 = some ((), S2) ∧ fP S S2 ∧ bkR S2.1 B ∧ (∀ w, w < bw B → ∀ s, s < 256 → (S2.1 223 (256 * w + s)).toInt = bsL B (w + 1) s) ∧ ∀ j, 256 * bw B ≤ j → j < 15360 → S2.1 223 j = -1 := by
  obtain ⟨S1, e1, j1, f1, c1, h55, h59⟩ := r_asItIs hT hr
  have hr1 : bkR S1.1 B := bkR_cg (fun a b hb => f1 a b (fun z => by
    rw [z.1] at hb
    exact absurd hb (by unfold rN; simp))) hr
  obtain ⟨d1, d2⟩ := hB.2.2.2.1
  obtain ⟨S2, e2, o2, k2, m2⟩ := r_plans hT hB okG_0 (h := 0) (c := B.1 6 2) (by decide) (by omega) hr1 c1 h55 h59
  rw [if_neg (show ¬ (B.1 6 2).toInt < 0 by omega)] at k2
  refine ⟨S1, S2, e1, e2, fun a b h => (o2.1 a b (by omega)).trans (f1 a b (by omega)), qR_bk o2 hr1, fun w hw s hs => ?_, m2⟩
  rw [k2 w hw s hs]
  exact rfL_0 hB (w + 1) (by have := (bw_n hB).2.2; omega) s hs
theorem ok12 : oK12 invTS := by
  rintro T S ⟨hT, h1, h2, h3, B, A, h4, h5⟩
  obtain ⟨S1, e1, f1, j1, q1, p1, i1, b1⟩ := c_ready hT h1 h2 h3 h4 h5
  have hB := h4.1
  obtain ⟨S2, S3, e2, e3, f3, r3, k3, -⟩ := r_base hT hB b1.2.2.2.1
  obtain ⟨ebw, w1, w2⟩ := bw_n hB
  obtain ⟨eth, hth⟩ := th_n hB
  have t0 : (0 : Int32).toNatClampNeg = 0 := rfl
  have em : (-1 : Int32).toInt = -1 := rfl
  have hc := b1.2.2.1
  have e9 : ∀ n : Nat, (256 : Int32) * nI n + nI (bth B).toNatClampNeg = nI (256 * n + (bth B).toNatClampNeg) := fun n => by rw [show (256 : Int32) * nI n = nI (256 * n) from by rw [liq, n_mul], n_add]
  have both : ∀ k n, n + k = bw B → ∃ e : Unit ⊕ Int32, lp (fun a => fX5_firstAllHome_l2 T 176 S1 a) (nI n) = some e ∧ lp (fun a => fX12_soon_l10 T 187 S3 a) (nI n) = some e := by
    intro k
    induction k with
    | zero =>
      intro n hn
      refine ⟨.inl (), lp_stop ?_, lp_stop ?_⟩
      · unfold fX5_firstAllHome_l2
        rw [zT_176_0 hT, hc.1 1 (by decide), ebw, if_pos (show nI (bw B) ≤ nI n by rw [n_le (by omega) (by omega)]; omega)]
      · unfold fX12_soon_l10
        rw [zT_187_33 hT, t0, r3.2.2.1, ebw, g_t (by decide), if_pos (show nI (bw B) ≤ nI n by rw [n_le (by omega) (by omega)]; omega)]
    | succ k ih =>
      intro n hn
      have hv := k3 n (by omega) _ hth
      have hv1 := p1.1 n (by omega) _ hth
      have hm := (ok_bsL' hB (show n + 1 ≤ 60 by omega) _ hth).1
      have ef : fX5_firstAllHome_l2 T 176 S1 (nI n) = if S1.1 178 (256 * n + (bth B).toNatClampNeg) < 0 then some (.inl (nI (n + 1))) else some (.inr (.inr (nI n))) := by
        unfold fX5_firstAllHome_l2
        rw [zT_176_0 hT, hc.1 1 (by decide), ebw, if_neg (show ¬ nI (bw B) ≤ nI n by rw [n_le (by omega) (by omega)]; omega), bkC_th hc, eth, v_coinAt hT (by omega) hth, b1_q, let_q, n_addL, ← eth]
      have eg : fX12_soon_l10 T 187 S3 (nI n) = if S3.1 223 (256 * n + (bth B).toNatClampNeg) = -1 then some (.inl (nI (n + 1))) else some (.inr (.inr (nI n))) := by
        unfold fX12_soon_l10
        rw [zT_187_33 hT, t0, r3.2.2.1, ebw, g_t (by decide), if_neg (show ¬ nI (bw B) ≤ nI n by rw [n_le (by omega) (by omega)]; omega), r_all hT r3 hB.1, b1_q, eth, e9, g_in (by omega) (by decide), tn_nI (by omega), zT_187_53 hT, let_q, n_addL, ← eth]
      by_cases z : S1.1 178 (256 * n + (bth B).toNatClampNeg) < 0
      · have z' : (S1.1 178 (256 * n + (bth B).toNatClampNeg)).toInt < 0 := z_lt.mp z
        rw [if_pos z] at ef
        rw [if_pos (z_eq.mpr (by omega))] at eg
        obtain ⟨e, a1, a2⟩ := ih (n + 1) (by omega)
        exact ⟨e, lp_go ef a1, lp_go eg a2⟩
      · have z' : 0 ≤ (S1.1 178 (256 * n + (bth B).toNatClampNeg)).toInt := z_le.mp (z_nlt z)
        rw [if_neg z] at ef
        rw [if_neg (fun q => by have := z_eq.mp q; omega)] at eg
        exact ⟨_, lp_stop ef, lp_stop eg⟩
  obtain ⟨e, a1, a2⟩ := both (bw B) 0 (by omega)
  have a1' : lp (fun a => fX5_firstAllHome_l2 T 176 S1 a) 0 = some e := a1
  have a2' : lp (fun a => fX12_soon_l10 T 187 S3 a) 0 = some e := a2
  unfold fX11_soon fX12_soon fX5_firstAllHome
  rw [e1, b_q, a1', b1_q]
  rcases e with u | r
  · refine ⟨-1, S1, S3, rfl, ?_, hT, inv_fP f3 i1⟩
    rw [e2, b_q, e3, b_q, a2', b1_q]; rfl
  · refine ⟨r, S1, S3, rfl, ?_, hT, inv_fP f3 i1⟩
    rw [e2, b_q, e3, b_q, a2', b1_q]; rfl
