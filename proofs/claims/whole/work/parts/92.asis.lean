/-! ALL AS IT IS -/
def G0 : Cg := (0, -1, -1, -1)
theorem okG_0 {B : Bk} : okG B G0 := ⟨fun _ _ => m_0, Or.inl ⟨rfl, rfl⟩⟩
theorem goC_0 {B : Bk} {w : Nat} : goC B G0 (nI w) = lsS B w := by
  refine st8_eq st8_is8 (fun t ht => ?_)
  have e : goC B G0 (nI w) = st8 (fun t => zm (0 : Int32) t || goP B G0 (nI w) t) := rfl
  rw [e, st8_m ht]
  unfold goP
  rw [m_0, Bool.false_or, show decide (nI t = G0.2.1) = false from decide_eq_false (fun q => n_m1' (show t < 60 by omega) q), Bool.false_and, Bool.or_false]
theorem innC_0 {B : Bk} (hB : okB B) {w : Nat} : innC B G0 (nI w) = mi (bth B) (lsS B w) := by
  unfold innC
  rw [goC_0, show sdB G0 = 0 from if_pos rfl, mi_0 (is8_mi hB.1)]
theorem ajC_0 {B : Bk} {w : Nat} (hw : w < 60) {x : Int} (h : -1 ≤ x) : ajC B G0 w x = x := by
  unfold ajC
  by_cases z : x < 0
  · rw [if_pos z]; omega
  · rw [if_neg z, if_neg (fun q => q.1 rfl), if_neg (fun q => q.1 rfl), show G0.2.2.2 = -1 from rfl, show G0.2.2.1 = -1 from rfl, if_neg (n_m1' hw), if_neg (n_m1' hw)]
    omega
theorem cdP_congr {p q : Nat → Int} {inn : Int32} {o : Nat → Int} {to fr : Nat} (h : p fr = q fr) : cdP p inn o to fr = cdP q inn o to fr := by
  unfold cdP
  rw [h]
theorem rfL_0S {B : Bk} (hB : okB B) {w : Nat} (hw : w < 60) (ih : ∀ s, s < 256 → rfL B G0 0 (B.1 6 2).toInt w s = bsL B w s) {s : Nat} : rfL B G0 0 (B.1 6 2).toInt (w + 1) s = bsL B (w + 1) s := by
  have e2 : gnC B G0 w s = gnN B w s (pc (inS B w s)) := by
    unfold gnC inS
    rw [goC_0]
  rw [rfL_S, bsL_S, stp_bst]
  refine bst_congr (fun fr hfr => ?_)
  unfold cnd
  rw [innC_0 hB, e2]
  refine congrArg (fun z => adI z (gnN B w s (pc (inS B w s)))) (cdP_congr ?_)
  show ajC B G0 w (rfL B G0 0 (B.1 6 2).toInt w fr) = bsL B w fr
  rw [ih fr hfr]
  exact ajC_0 hw (ok_bsL hB w (by omega) fr hfr).1
theorem lnG_0 {st : Nat → Int} {adj : Nat → Int → Int} {inn : Nat → Int32} {o g : Nat → Nat → Int} : lnG st adj inn o g 0 = st := rfl
theorem rfL_0 {B : Bk} (hB : okB B) (w : Nat) (hw : w ≤ 60) : ∀ s, s < 256 → rfL B G0 0 (B.1 6 2).toInt w s = bsL B w s := by
  induction w with
  | zero =>
    intro s _
    unfold rfL bsL
    rw [lnG_0, lnG_0]
  | succ w ih => exact fun s _ => rfL_0S hB (by omega) (ih (by omega))
theorem r_asItIs {T : zT} (hT : iT T) {B : Bk} {S : zS} (hr : bkR S.1 B) : ∃ S', fX12_asItIs T 187 S = some ((), S') ∧ S'.2 = S.2 ∧ (∀ a b, ¬ (a = 187 ∧ 54 ≤ b ∧ b ≤ 59) → S'.1 a b = S.1 a b) ∧ cfR S' G0 ∧ S'.1 187 55 = nI 0 ∧ S'.1 187 59 = B.1 6 2 := by
  have t0 : (0 : Int32).toNatClampNeg = 0 := rfl
  unfold fX12_asItIs
  rw [let_q, let_q, let_q, let_q, let_q, g_t (by decide), zT_187_32 hT, t0, let_q]
  have e9 : (zI (zI (zI (zI (zI S 187 54 0) 187 55 0) 187 56 (-1)) 187 57 (-1)) 187 58 (-1)).1 209 0 = B.1 6 2 := by
    rw [zI_ne (by decide), zI_ne (by decide), zI_ne (by decide), zI_ne (by decide), zI_ne (by decide)]
    exact hr.2.2.2.1
  rw [e9]
  refine ⟨_, rfl, rfl, fun a b h => ?_, ⟨?_, ?_, ?_, ?_⟩, ?_, ?_⟩
  · by_cases z : a = 187
    · subst z
      rw [zI_eq, if_neg (fun q => h ⟨rfl, by omega⟩), zI_eq, if_neg (fun q => h ⟨rfl, by omega⟩), zI_eq, if_neg (fun q => h ⟨rfl, by omega⟩), zI_eq, if_neg (fun q => h ⟨rfl, by omega⟩), zI_eq, if_neg (fun q => h ⟨rfl, by omega⟩), zI_eq, if_neg (fun q => h ⟨rfl, by omega⟩)]
    · rw [zI_ne z, zI_ne z, zI_ne z, zI_ne z, zI_ne z, zI_ne z]
  · rw [zI_eq, if_neg (by decide), zI_eq, if_neg (by decide), zI_eq, if_neg (by decide), zI_eq, if_neg (by decide), zI_eq, if_neg (by decide), zI_eq, if_pos rfl]; rfl
  · rw [zI_eq, if_neg (by decide), zI_eq, if_neg (by decide), zI_eq, if_neg (by decide), zI_eq, if_pos rfl]; rfl
  · rw [zI_eq, if_neg (by decide), zI_eq, if_neg (by decide), zI_eq, if_pos rfl]; rfl
  · rw [zI_eq, if_neg (by decide), zI_eq, if_pos rfl]; rfl
  · rw [zI_eq, if_neg (by decide), zI_eq, if_neg (by decide), zI_eq, if_neg (by decide), zI_eq, if_neg (by decide), zI_eq, if_pos rfl]; rfl
  · rw [zI_eq, if_pos rfl]
/-! the last row -/
theorem r_planned {T : zT} (hT : iT T) {B : Bk} (hB : okB B) {S : zS} (hr : bkR S.1 B) {s : Nat} (hs : s < 256) : fX12_planned T 187 (nI s) S = some (S.1 223 (256 * (bw B - 1) + s)) := by
  obtain ⟨ebw, b1, b2⟩ := bw_n hB
  have t0 : (0 : Int32).toNatClampNeg = 0 := rfl
  have e2 : (256 : Int32) * (nI (bw B) - 1) + nI s = nI (256 * (bw B - 1) + s) := by rw [n_subL (by omega), show (256 : Int32) * nI (bw B - 1) = nI (256 * (bw B - 1)) from by rw [liq, n_mul], n_add]
  unfold fX12_planned
  rw [zT_187_33 hT, zT_187_53 hT, t0, hr.2.2.1, ebw, e2, g_t (by decide), g_in (by omega) (by decide), tn_nI (by omega)]
theorem r_atEnd {T : zT} (hT : iT T) {B : Bk} (hB : okB B) {S : zS} (hr : bkR S.1 B) {L : Nat → Int} (hL : ∀ s, s < 256 → (S.1 223 (256 * (bw B - 1) + s)).toInt = L s) (hm : ∀ s, s < 256 → -1 ≤ L s) : ∃ r, fX12_atEnd T 187 S = some r ∧ (r = -1 ∧ bst L 256 = -1 ∨ ∃ s, r = nI s ∧ 0 ≤ bst L 256 ∧ isL (fun s => s < 256 ∧ L s = bst L 256) s) := by
  have em : (-1 : Int32).toInt = -1 := rfl
  have key : zwp (lp (fun a => fX12_atEnd_l4 T 187 S a.1 a.2) ((-1), 0)) (fun r => r = -1 ∧ bst L 256 = -1 ∨ ∃ s, r = nI s ∧ 0 ≤ bst L 256 ∧ isL (fun s => s < 256 ∧ L s = bst L 256) s) := by
    refine lp_for (I := fun n a => ∃ r, a = (r, nI n) ∧ (r = -1 ∧ bst L n = -1 ∨ ∃ s, r = nI s ∧ 0 ≤ bst L n ∧ isL (fun s => s < n ∧ L s = bst L n) s)) 256 ?_ ?_ ?_
    · rintro n a hn ⟨r, rfl, h1⟩
      left
      show ∃ a', fX12_atEnd_l4 T 187 S r (nI n) = _ ∧ _
      have hv := hL n hn
      have hvm := hm n hn
      have eb : bst L (n + 1) = if bst L n < L n then L n else bst L n := rfl
      -- the first set stays
      have stay : L n ≤ bst L n → ∃ a', fX12_atEnd_b42 T 187 r (nI n) S = some (.inl a') ∧ ∃ r, a' = (r, nI (n + 1)) ∧ (r = -1 ∧ bst L (n + 1) = -1 ∨ ∃ s, r = nI s ∧ 0 ≤ bst L (n + 1) ∧ isL (fun s => s < n + 1 ∧ L s = bst L (n + 1)) s) := by
        intro h
        unfold fX12_atEnd_b42 fX12_atEnd_b43
        rw [let_q, n_addL]
        refine ⟨_, rfl, r, rfl, ?_⟩
        rw [eb, if_neg (by omega)]
        rcases h1 with q | ⟨s, q1, q2, q3⟩
        · exact Or.inl q
        · exact Or.inr ⟨s, q1, q2, ⟨by have := q3.1.1; omega, q3.1.2⟩, fun j hj hp => q3.2 j hj ⟨by have := q3.1.1; omega, hp.2⟩⟩
      have take : bst L n < L n → ∃ a', fX12_atEnd_b38 T 187 (nI n) S = some (.inl a') ∧ ∃ r, a' = (r, nI (n + 1)) ∧ (r = -1 ∧ bst L (n + 1) = -1 ∨ ∃ s, r = nI s ∧ 0 ≤ bst L (n + 1) ∧ isL (fun s => s < n + 1 ∧ L s = bst L (n + 1)) s) := by
        intro h
        unfold fX12_atEnd_b38 fX12_atEnd_b43
        rw [let_q, n_addL]
        refine ⟨_, rfl, _, rfl, Or.inr ⟨n, rfl, ?_, ⟨by omega, ?_⟩, fun j hj hp => ?_⟩⟩
        · rw [eb, if_pos h]; have := bst_m1 L n; omega
        · show L n = bst L (n + 1)
          rw [eb, if_pos h]
        · have := bst_ge L n j hj
          have h2 : L j = bst L (n + 1) := hp.2
          rw [eb, if_pos h] at h2
          omega
      unfold fX12_atEnd_l4
      rw [if_neg (show ¬ 256 ≤ nI n by rw [n_leL (by omega) (by omega)]; omega), r_planned hT hB hr hn, b1_q]
      by_cases z : S.1 223 (256 * (bw B - 1) + n) = -1
      · rw [if_pos z]
        rw [z, em] at hv
        exact stay (by have := bst_m1 L n; omega)
      · rw [if_neg z]
        have z' : ¬ L n = -1 := fun q => z (z_eq.mpr (by omega))
        rcases h1 with ⟨q1, q2⟩ | ⟨s, q1, q2, q3⟩
        · rw [if_pos q1]
          exact take (by omega)
        · have hs : s < 256 := by have := q3.1.1; omega
          have hsv := hL s hs
          have hs2 : L s = bst L n := q3.1.2
          rw [if_neg (show ¬ r = -1 by rw [q1]; intro q; have := z_eq.mp q; rw [nI_toInt (by omega)] at this; omega), b1_q, q1, r_planned hT hB hr hs, b1_q]
          rw [← q1]
          by_cases y : S.1 223 (256 * (bw B - 1) + n) ≤ S.1 223 (256 * (bw B - 1) + s)
          · have y' := z_le.mp y
            rw [if_pos y]; exact stay (by omega)
          · have y' := z_lt.mp (z_nle y)
            rw [if_neg y]; exact take (by omega)
    · rintro a ⟨r, rfl, h1⟩
      refine ⟨r, ?_, h1⟩
      show fX12_atEnd_l4 T 187 S r (nI 256) = _
      unfold fX12_atEnd_l4
      exact if_pos (show 256 ≤ nI 256 by rw [n_leL (by omega) (by omega)]; omega)
    · exact ⟨-1, rfl, Or.inl ⟨rfl, rfl⟩⟩
  obtain ⟨r, e, q⟩ := key
  refine ⟨r, ?_, q⟩
  unfold fX12_atEnd
  rw [e, b1_q]
