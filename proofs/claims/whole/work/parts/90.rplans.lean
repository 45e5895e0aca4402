/-! THE PLANS, by the reference -/
def rfL (B : Bk) (G : Cg) (h : Nat) (c0 : Int) : Nat → Nat → Int := lnG (stI h c0) (fun w x => ajC B G w x) (fun w => innC B G (nI w)) (owI B) (gnC B G)
theorem rfL_S {B : Bk} {G : Cg} {h : Nat} {c0 : Int} (w s : Nat) : rfL B G h c0 (w + 1) s = bst (cnd B G (rfL B G h c0 w) w s) 256 := stp_bst
theorem ajC_bd {B : Bk} (hB : okB B) {G : Cg} (hG : okG B G) {w : Nat} (hw : w < 60) {x : Int} (h : 0 ≤ x) : ajC B G w x ≤ x + 19998 := by
  have bs := slI_bd hB hG hw
  have bl := lnI_bd hB (G := G) (w := w)
  obtain ⟨c1, c2⟩ := hB.2.2.2.2.2.1
  unfold ajC
  rw [if_neg (show ¬ x < 0 by omega)]
  show (if ¬ G.2.2.2 = -1 ∧ nI w = B.1 6 5 ∧ x < (B.1 6 4).toInt then -1 else (if ¬ G.2.2.2 = -1 ∧ nI w = B.1 6 5 then x - (B.1 6 4).toInt else x) + lnI B G w + slI B G w) ≤ x + 19998
  split
  · omega
  · split <;> omega
theorem rfL_bd {B : Bk} (hB : okB B) {G : Cg} (hG : okG B G) {h : Nat} {c0 : Int} (hc : -1 ≤ c0 ∧ c0 ≤ 1000000) : ∀ w : Nat, w ≤ 60 → ∀ s, s < 256 → -1 ≤ rfL B G h c0 w s ∧ rfL B G h c0 w s ≤ 1000000 + 300000 * (w : Int)
  | 0, _, s, _ => by
    show -1 ≤ (if s = h then c0 else -1) ∧ (if s = h then c0 else -1) ≤ _
    split <;> omega
  | w + 1, hw, s, hs => by
    have ih := rfL_bd hB hG (h := h) hc w (by omega)
    rw [rfL_S]
    refine ⟨bst_m1 _ _, ?_⟩
    rcases bst_at (cnd B G (rfL B G h c0 w) w s) 256 with q | ⟨fr, hfr, q⟩
    · rw [q]; omega
    · rw [q]
      have b := ih fr hfr
      by_cases z : rfL B G h c0 w fr < 0
      · rw [cnd_no (Or.inl z)]; omega
      · by_cases o : okS (innC B G (nI w)) fr s
        · rw [cnd_ok o]
          have ha := ajC_bd hB hG (show w < 60 by omega) (show 0 ≤ rfL B G h c0 w fr by omega)
          have hg := (gn_bounds hB w s (pc (mi (mi (bth B) (nI s)) (goC B G (nI w))))).2.2
          have hg' : gnC B G w s ≤ 240000 := hg
          have hcs : 0 ≤ cs8 (owI B w) (mi (nI s) (nI fr)) := cst_nn (fun t ht hz => by
            have i1 := (mi0 (is8_mi (is8_nI hs))).mp o.2 t ht hz
            unfold innC at i1
            rw [mi_m, mi_m] at i1
            have hth : zm (bth B) t = true := by
              cases y : zm (bth B) t with
              | true => rfl
              | false => rw [y] at i1; cases i1
            have := (owI_e hB ht hth (show w < 61 by omega)).2.1
            omega) 8 (Nat.le_refl _)
          unfold ldI adI
          split
          · omega
          · split
            · split
              · omega
              · split <;> omega
            · omega
        · rw [cnd_no (Or.inr o)]; omega
/-- rows of the plan -/
theorem r_plan0 {T : zT} (hT : iT T) {S : zS} : ∃ S', lp (fun a => fX12_plans_l2 T 187 a.1 a.2) (0, S) = some S' ∧ onlyI S S' 223 ∧ ∀ j, j < 15360 → S'.1 223 j = -1 := by
  refine lp_for (I := fun n a => ∃ S', a = (nI n, S') ∧ onlyI S S' 223 ∧ ∀ j, j < n → S'.1 223 j = -1) 15360 ?_ ?_ ?_
  · rintro n a hn ⟨S', rfl, h1, h2⟩
    left
    show ∃ a', fX12_plans_l2 T 187 (nI n) S' = _ ∧ _
    unfold fX12_plans_l2
    rw [show Int32.ofNat 15360 = nI 15360 from rfl, if_neg (show ¬ nI 15360 ≤ nI n by rw [n_le (by omega) (by omega)]; omega), g_in hn (by decide), tn_nI (by omega), zT_187_53 hT, let_q, let_q, n_addL]
    refine ⟨_, rfl, _, rfl, onlyI_z h1, fun j hj => ?_⟩
    rw [zI_eq]
    by_cases e : j = n
    · rw [if_pos e]
    · rw [if_neg e]; exact h2 j (by omega)
  · rintro a ⟨S', rfl, h1, h2⟩
    refine ⟨S', ?_, h1, h2⟩
    show fX12_plans_l2 T 187 (nI 15360) S' = _
    unfold fX12_plans_l2
    exact if_pos (show nI 15360 ≤ nI 15360 by rw [n_le (by omega) (by omega)]; omega)
  · exact ⟨S, rfl, onlyI_refl, fun j hj => absurd hj (Nat.not_lt_zero _)⟩
theorem r_from {T : zT} (hT : iT T) {B : Bk} (hB : okB B) {G : Cg} (hG : okG B G) {L : Nat → Int} {w fr : Nat} (hw : w < 60) (hfr : fr < 256) {x : Int32} {S : zS} (hr : bkR S.1 B) (hc : cfR S G) (hx : x.toInt = L fr) (h0 : -1 ≤ x.toInt) (h1 : x.toInt ≤ 1900000000) (hcell : ∀ s, s < 256 → (S.1 223 (256 * w + s)).toInt = bst (cnd B G L w s) fr) : ∃ S', fX12_plans_b89 T 187 (nI w) (nI fr) x S = some (.inl (nI (fr + 1), S')) ∧ qR S S' ∧ (∀ s, s < 256 → (S'.1 223 (256 * w + s)).toInt = bst (cnd B G L w s) (fr + 1)) ∧ ∀ j, j < 256 * w ∨ 256 * w + 256 ≤ j → S'.1 223 j = S.1 223 j := by
  have em : (-1 : Int32).toInt = -1 := rfl
  unfold fX12_plans_b89 fX12_plans_b205
  by_cases z : x = -1
  · rw [if_pos z, let_q, n_addL]
    refine ⟨S, rfl, qR_refl, fun s hs => ?_, fun _ _ => rfl⟩
    rw [hcell s hs]
    show _ = (if bst (cnd B G L w s) fr < cnd B G L w s fr then cnd B G L w s fr else bst (cnd B G L w s) fr)
    rw [cnd_no (Or.inl (by rw [← hx, z]; decide)), if_neg]
    have := bst_m1 (cnd B G L w s) fr
    omega
  · have : ¬ x.toInt = -1 := fun q => z (z_eq.mpr (q.trans em.symm))
    obtain ⟨e, hm⟩ := is8_n (x := mi (mi (mi (bth B) (nI fr)) (goC B G (nI w))) (sdB G)) (is8_mi (is8_mi (is8_mi hB.1)))
    obtain ⟨S', e1, q⟩ := r_fan hT hB hG hw hfr e.symm hm hr hc hx (by omega) h1 hcell
    rw [if_neg z, r_fetchable hT hB hG hr hc, b1_q, e, e1, b1_q, let_q, n_addL]
    exact ⟨S', rfl, q⟩
