/-! THE PLANS MADE READY, by the class -/
theorem mi_0 {x : Int32} (hx : is8 x) : mi x 0 = x := is8_ext (is8_mi hx) hx (fun t _ => by rw [mi_m, m_0]; cases zm x t <;> rfl)
theorem inn_th {B : Bk} {w : Nat} : ∀ t, t < 8 → zm (mi (bth B) (lsS B w)) t = true → zm (bth B) t = true := by
  intro t _ hz
  rw [mi_m] at hz
  cases x : zm (bth B) t with
  | true => rfl
  | false => rw [x, Bool.false_and] at hz; cases hz
theorem bsL_S (B : Bk) (w : Nat) : bsL B (w + 1) = stp (bsL B w) (mi (bth B) (lsS B w)) (owI B w) (fun s => gnN B w s (pc (inS B w s))) := rfl
theorem ok_bsL {B : Bk} (hB : okB B) : ∀ w : Nat, w ≤ 60 → okLn B (9999 + 240000 * (w : Int)) (bsL B w)
  | 0, _ => by
    obtain ⟨h1, h2⟩ := hB.2.2.2.1
    intro s hs
    show -1 ≤ (if s = 0 then (B.1 6 2).toInt else -1) ∧ (if s = 0 then (B.1 6 2).toInt else -1) ≤ 9999 + 240000 * ((0 : Nat) : Int) ∧ (0 ≤ (if s = 0 then (B.1 6 2).toInt else -1) → _)
    by_cases z : s = 0
    · rw [if_pos z]
      refine ⟨by omega, by omega, fun _ => ?_⟩
      rw [z, mi0 (is8_nI (by decide))]
      intro t ht hz
      rw [show nI 0 = 0 from rfl, m_0] at hz; cases hz
    · rw [if_neg z]
      exact ⟨by omega, by omega, fun h => absurd h (by decide)⟩
  | w + 1, h => by
    have ih := ok_bsL hB w (by omega)
    rw [bsL_S]
    have := okLn_stp (G := 240000) (inn := mi (bth B) (lsS B w)) (w := w) (g := fun s => gnN B w s (pc (inS B w s))) hB ih (show w < 61 by omega) (by decide) inn_th (fun s _ _ => (gn_bounds hB w s _).2.2)
    rw [show (9999 : Int) + 240000 * ((w + 1 : Nat) : Int) = 9999 + 240000 * (w : Int) + 240000 by omega]
    exact this
theorem okLn_le {B : Bk} {c c' : Int} {f : Nat → Int} (h : okLn B c f) (hc : c ≤ c') : okLn B c' f := fun s hs => ⟨(h s hs).1, by have := (h s hs).2.1; omega, (h s hs).2.2⟩
theorem ok_bsL' {B : Bk} (hB : okB B) {w : Nat} (hw : w ≤ 60) : okLn B 20000000 (bsL B w) := okLn_le (ok_bsL hB w hw) (by omega)
def pM (a : Nat) : Prop := a = 176 ∨ a = 178 ∨ a = 181
theorem oA_I {p : Nat → Prop} {S S' : zS} {k : Nat} (h : onlyI S S' k) (hk : p k) : oA p S S' := ⟨fun a b n => h.2 a b (fun e => n (e ▸ hk)), fun a b _ => by rw [h.1]⟩
theorem oA_zI {p : Nat → Prop} {S : zS} {k i : Nat} {x : Int32} (hk : p k) : oA p S (zI S k i x) := oA_I (onlyI_z onlyI_refl) hk
theorem v_weeks {T : zT} (hT : iT T) {B : Bk} (hB : okB B) {S : zS} (hc : bkC S 7 B) (hf : isLn S 181 (bsL B 0)) (h9 : ∀ w i, w < bw B → i < 256 → gnAt S B 179 0 w i) (h5 : S.1 176 5 = 0) (h6 : S.1 176 6 = 0) : ∃ S', lp (fun a => fX5_prepare_l68 T 176 a.1 a.2) (0, S) = some S' ∧ oA pM S S' ∧ isLn S' 181 (bsL B (bw B)) ∧ (∀ w, w < bw B → ∀ i, i < 256 → (S'.1 178 (256 * w + i)).toInt = bsL B (w + 1) i) ∧ S'.1 176 5 = nI (cnt (pL B) (256 * bw B)) ∧ S'.1 176 6 = orN (pL B) (256 * bw B) := by
  obtain ⟨ebw, b1, b2⟩ := bw_n hB
  have bk : ∀ {S'}, oA pM S S' → bkC S' 7 B := fun ho => bkC_cg (fun a b _ _ => ho.1 a b (by unfold pM; omega)) hc
  refine lp_for (I := fun n a => ∃ S', a = (nI n, S') ∧ oA pM S S' ∧ isLn S' 181 (bsL B n) ∧ (∀ w, w < n → ∀ i, i < 256 → (S'.1 178 (256 * w + i)).toInt = bsL B (w + 1) i) ∧ S'.1 176 5 = nI (cnt (pL B) (256 * n)) ∧ S'.1 176 6 = orN (pL B) (256 * n)) (bw B) ?_ ?_ ?_
  · rintro n a hn ⟨S1, rfl, o1, l1, k1, c1, d1⟩
    left
    show ∃ a', fX5_prepare_l68 T 176 (nI n) S1 = _ ∧ _
    obtain ⟨S2, e2, o2, l2⟩ := v_pass hT hB (k := 181) (kg := 179) (w := n) (bar := 0) (f := bsL B n) (g := fun s => gnN B n s (pc (inS B n s))) (c := 20000000) (S := S1) (by decide) (by decide) (by omega) (by decide) (bk o1) l1 (ok_bsL' hB (by omega)) (fun s hs hsub _ => ⟨by have := (gnAt_cg (o1.1 _ _ (by unfold pM; omega)) (h9 n s hn hs)) hsub; rw [Nat.sub_zero] at this; exact this, (gn_bounds hB n s _).2⟩)
    rw [mi_0 (is8_mi hB.1), ← bsL_S] at l2
    have e256 : nI n * 256 = nI (256 * n) := by rw [liq, n_mul, Nat.mul_comm]
    have t0 : (0 : Int32).toNatClampNeg = 0 := rfl
    have t256 : (256 : Int32).toNatClampNeg = 256 := rfl
    have ge : zcg 0 (nI (256 * n)) 256 256 15360 = true := by
      refine decide_eq_true ⟨by decide, ?_, by decide, by decide, ?_⟩
      · intro h
        have := z_lt.mp h
        rw [nI_toInt (by omega)] at this
        have e : (0 : Int32).toInt = 0 := rfl
        omega
      · rw [tn_nI (by omega), t256]; omega
    -- the line kept
    have cp : ∀ c j, (zCp S2 181 178 0 (256 * n) 256).1 c j = if c = 178 ∧ 256 * n ≤ j ∧ j < 256 * n + 256 then S2.1 181 (0 + (j - 256 * n)) else S2.1 c j := fun _ _ => rfl
    have o3 : oA pM S (zCp S2 181 178 0 (256 * n) 256) := by
      refine ⟨fun a b hp => ?_, fun a b hp => ?_⟩
      · unfold pM at hp
        rw [cp, if_neg (fun q => hp (Or.inr (Or.inl q.1))), o2.2 _ _ (by omega)]
        exact o1.1 a b (by unfold pM; omega)
      · show S2.2 a b = S.2 a b
        rw [o2.1]; exact o1.2 a b hp
    have l3 : isLn (zCp S2 181 178 0 (256 * n) 256) 181 (bsL B (n + 1)) := fun s hs => by rw [cp, if_neg (fun q => absurd q.1 (by decide))]; exact l2 s hs
    have k3 : ∀ w, w < n + 1 → ∀ i, i < 256 → ((zCp S2 181 178 0 (256 * n) 256).1 178 (256 * w + i)).toInt = bsL B (w + 1) i := by
      intro w hw i hi
      rw [cp]
      by_cases z : w = n
      · subst z
        rw [if_pos ⟨rfl, by omega, by omega⟩, show 0 + (256 * w + i - 256 * w) = i by omega]
        exact l2 i hi
      · rw [if_neg (fun q => by omega), o2.2 _ _ (by decide)]
        exact k1 w (by omega) i hi
    have c3 : (zCp S2 181 178 0 (256 * n) 256).1 176 5 = nI (cnt (pL B) (256 * n)) := by rw [cp, if_neg (fun q => absurd q.1 (by decide)), o2.2 _ _ (by decide)]; exact c1
    have d3 : (zCp S2 181 178 0 (256 * n) 256).1 176 6 = orN (pL B) (256 * n) := by rw [cp, if_neg (fun q => absurd q.1 (by decide)), o2.2 _ _ (by decide)]; exact d1
    have e2' : fX5_pass T 176 181 256 (nI n) 0 179 15360 S1 = some ((), S2) := e2
    unfold fX5_prepare_l68
    rw [zT_176_0 hT, zT_176_8 hT, zT_176_9 hT, zT_176_11 hT, (bk o1).1 1 (by decide), ebw, if_neg (show ¬ nI (bw B) ≤ nI n by rw [n_le (by omega) (by omega)]; omega), if_neg (show ¬ 60 ≤ nI n by rw [n_leL (by omega) (by omega)]; omega), e2', b_q, e256, g_t ge, t0, t256, tn_nI (by omega)]
    generalize zCp S2 181 178 0 (256 * n) 256 = S3 at o3 l3 k3 c3 d3 ⊢
    obtain ⟨S4, e4, o4, c4, d4⟩ := v_countStates hT hB (w := n) (c := 20000000) (S := S3) (by omega) (bk o3) l3 (ok_bsL' hB (by omega)) c3 d3
    rw [let_q, e4, b_q, let_q, n_addL]
    exact ⟨_, rfl, S4, rfl, oA_trans o3 (oA_I o4 (Or.inl rfl)), isLn_o l3 o4 (by decide), fun w hw i hi => by rw [o4.2 _ _ (by decide)]; exact k3 w hw i hi, c4, d4⟩
  · rintro a ⟨S1, rfl, o1, r1⟩
    refine ⟨S1, ?_, o1, r1⟩
    show fX5_prepare_l68 T 176 (nI (bw B)) S1 = _
    unfold fX5_prepare_l68
    rw [zT_176_0 hT, (bk o1).1 1 (by decide), ebw, if_pos (show nI (bw B) ≤ nI (bw B) by rw [n_le (by omega) (by omega)]; omega)]
  · exact ⟨S, rfl, oA_refl, hf, fun w hw => absurd hw (Nat.not_lt_zero _), h5, h6⟩
def pP (a : Nat) : Prop := 176 ≤ a ∧ a ≤ 184
theorem v_prep2 {T : zT} (hT : iT T) {B : Bk} (hB : okB B) {S : zS} (hc : bkC S 7 B) (h9 : ∀ w i, w < bw B → i < 256 → gnAt S B 179 0 w i) (h10 : zm (S.1 22 2) 21 = true → ∀ w i, w < bw B → i < 256 → gnAt S B 180 1 w i) : ∃ S', fX5_prepare_b41 T 176 S = some ((), S') ∧ oA pP S S' ∧ S'.1 176 2 = 1 ∧ plOK B S'.1 := by
  obtain ⟨S1, e1, o1, k1⟩ := v_start (T := T) (k := 181) (h := 0) (c := S.1 7 2) (S := S)
  have mono : ∀ {S S' : zS}, oA pM S S' → oA pP S S' := fun h => oA_mono h (fun a q => by unfold pM at q; unfold pP; omega)
  have l1 : isLn S1 181 (bsL B 0) := by
    intro s hs
    show _ = if s = 0 then (B.1 6 2).toInt else -1
    rw [k1 s hs, hc.1 2 (by decide)]
    by_cases z : s = 0
    · rw [if_pos z, if_pos (show nI s = 0 by rw [z]; rfl)]
    · rw [if_neg z, if_neg (fun q => z (by
        have := z_eq.mp q
        rw [nI_toInt (by omega)] at this
        have e : (0 : Int32).toInt = 0 := rfl
        omega))]; rfl
  have oA1 : oA pP S (zI (zI S1 176 5 0) 176 6 0) := oA_trans (oA_I o1 (by unfold pP; omega)) (oA_trans (oA_zI (by unfold pP; omega)) (oA_zI (by unfold pP; omega)))
  have n1 : ∀ a b, a ≠ 181 → a ≠ 176 → (zI (zI S1 176 5 0) 176 6 0).1 a b = S.1 a b := fun a b h1 h2 => by rw [zI_ne h2, zI_ne h2]; exact o1.2 a b h1
  have f5 : (zI (zI S1 176 5 0) 176 6 0).1 176 5 = 0 := by rw [zI_eq, if_neg (by decide), zI_eq, if_pos rfl]
  have f6 : (zI (zI S1 176 5 0) 176 6 0).1 176 6 = 0 := by rw [zI_eq, if_pos rfl]
  have l2 : isLn (zI (zI S1 176 5 0) 176 6 0) 181 (bsL B 0) := fun s hs => by rw [zI_ne (by decide), zI_ne (by decide)]; exact l1 s hs
  unfold fX5_prepare_b41
  rw [zT_176_0 hT, zT_176_11 hT, e1, b_q, let_q, let_q]
  generalize zI (zI S1 176 5 0) 176 6 0 = S2 at oA1 n1 f5 f6 l2 ⊢
  have bk : ∀ {S'}, oA pP S S' → bkC S' 7 B := fun ho => bkC_cg (fun a b _ _ => ho.1 a b (by unfold pP; omega)) hc
  obtain ⟨S3, e3, o3, l3, k3, c3, d3⟩ := v_weeks hT hB (bk oA1) l2 (fun w i hw hi => gnAt_cg (n1 _ _ (by decide) (by decide)) (h9 w i hw hi)) f5 f6
  have oA3 := oA_trans oA1 (mono o3)
  have n3 : ∀ a b, a ≠ 181 → a ≠ 176 → a ≠ 178 → S3.1 a b = S.1 a b := fun a b h1 h2 h3 => (o3.1 a b (by unfold pM; omega)).trans (n1 a b h1 h2)
  rw [e3, b1_q]
  unfold fX5_prepare_b129
  obtain ⟨r, e4, q4⟩ := v_mostIn (T := T) l3
  rw [zT_176_11 hT, e4, b1_q, let_q]
  have l4 : isLn (zI S3 176 3 r) 181 (bsL B (bw B)) := fun s hs => by rw [zI_ne (by decide)]; exact l3 s hs
  have g3 : (zI S3 176 3 r).1 176 3 = r := by rw [zI_eq, if_pos rfl]
  obtain ⟨s, e5, q5⟩ := v_lastSet hT l4
  rw [g3, q4] at q5
  rw [e5, b1_q, let_q]
  have n5 : ∀ a b, a ≠ 176 → (zI (zI S3 176 3 r) 176 4 s).1 a b = S3.1 a b := fun a b h => by rw [zI_ne h, zI_ne h]
  have f53 : (zI (zI S3 176 3 r) 176 4 s).1 176 3 = r := by rw [zI_eq, if_neg (by decide)]; exact g3
  have f54 : (zI (zI S3 176 3 r) 176 4 s).1 176 4 = s := by rw [zI_eq, if_pos rfl]
  have f55 : (zI (zI S3 176 3 r) 176 4 s).1 176 5 = S3.1 176 5 := by rw [zI_eq, if_neg (by decide), zI_eq, if_neg (by decide)]
  have f56 : (zI (zI S3 176 3 r) 176 4 s).1 176 6 = S3.1 176 6 := by rw [zI_eq, if_neg (by decide), zI_eq, if_neg (by decide)]
  have oA5 : oA pP S (zI (zI S3 176 3 r) 176 4 s) := oA_trans oA3 (oA_trans (oA_zI (by unfold pP; omega)) (oA_zI (by unfold pP; omega)))
  generalize zI (zI S3 176 3 r) 176 4 s = S5 at n5 f53 f54 f55 f56 oA5 ⊢
  have hS : 0 ≤ bst (bsL B (bw B)) 256 → ∃ s, S5.1 176 4 = nI s ∧ isL (fun s => s < 256 ∧ bsL B (bw B) s = bst (bsL B (bw B)) 256) s := by
    intro h0
    rcases q5 with q | ⟨i, q, ⟨q1, q2, q3⟩, q6⟩
    · rcases bst_at (bsL B (bw B)) 256 with z | ⟨i, hi, z⟩
      · omega
      · rcases q i hi with y | y
        · omega
        · exact absurd z.symm y
    · exact ⟨i, by rw [f54, q], ⟨q1, q3⟩, fun j hj hp => q6 j hj ⟨hp.1, by rw [hp.2]; exact h0, hp.2⟩⟩
  have h9' : ∀ w i, w < bw B → i < 256 → gnAt S5 B 179 0 w i := fun w i hw hi => gnAt_cg ((n5 _ _ (by decide)).trans (n3 _ _ (by decide) (by decide) (by decide))) (h9 w i hw hi)
  have k5 : ∀ w, w < bw B → ∀ i, i < 256 → (S5.1 178 (256 * w + i)).toInt = bsL B (w + 1) i := fun w hw i hi => by rw [n5 _ _ (by decide)]; exact k3 w hw i hi
  obtain ⟨S6, e6, o6, hb⟩ := v_tracePlan hT hB (bk oA5) (c := 20000000) (by decide) (fun w hw => ok_bsL' hB (by have := (bw_n hB).2.2; omega)) k5 h9' (by rw [f53, q4]) hS
  rw [e6, b_q, let_q]
  refine ⟨_, rfl, oA_trans oA5 (oA_trans (oA_I o6 (by unfold pP; omega)) (oA_zI (by unfold pP; omega))), by rw [zI_eq, if_pos rfl], ?_⟩
  have n6 : ∀ a b, a ≠ 177 → ¬ (a = 176 ∧ b = 2) → (zI S6 176 2 1).1 a b = S5.1 a b := by
    intro a b h1 h2
    by_cases z : a = 176
    · subst z; rw [zI_eq, if_neg (fun q => h2 ⟨rfl, q⟩)]; exact o6.2 _ _ h1
    · rw [zI_ne z]; exact o6.2 _ _ h1
  refine ⟨fun w hw i hi => ?_, fun w hw i hi hsub => ?_, fun hz w hw i hi hsub => ?_, ?_, ?_, ?_, fun h0 => ?_⟩
  · rw [n6 _ _ (by decide) (fun q => absurd q.1 (by decide))]; exact k5 w hw i hi
  · rw [n6 _ _ (by decide) (fun q => absurd q.1 (by decide))]
    have := h9' w i hw hi hsub
    rw [Nat.sub_zero] at this
    exact this
  · rw [n6 _ _ (by decide) (fun q => absurd q.1 (by decide))] at hz ⊢
    rw [n5 _ _ (by decide), n3 _ _ (by decide) (by decide) (by decide)] at hz ⊢
    exact h10 hz w i hw hi hsub
  · rw [n6 _ _ (by decide) (fun q => absurd q.2 (by decide)), f53, q4]
  · rw [n6 _ _ (by decide) (fun q => absurd q.2 (by decide)), f55]; exact c3
  · rw [n6 _ _ (by decide) (fun q => absurd q.2 (by decide)), f56, d3]; exact orN_st8 (pL B) (256 * bw B)
  · obtain ⟨hb, p1, p2, p3⟩ := hb h0
    refine ⟨hb, p1, ?_, fun t ht => ?_⟩
    · rw [n6 _ _ (by decide) (fun q => absurd q.2 (by decide))]; exact p2
    · rw [zI_ne (by decide)]; exact p3 t ht
theorem v_prepare {T : zT} (hT : iT T) {B : Bk} (hB : okB B) {S : zS} (hc : bkC S 7 B) (h : S.1 176 2 = 0) : ∃ S', fX5_prepare T 176 S = some ((), S') ∧ oA pP S S' ∧ S'.1 176 2 = 1 ∧ plOK B S'.1 := by
  have mono : ∀ {S S' : zS} {kg}, 176 < kg ∧ kg < 183 → oA (pG kg) S S' → oA pP S S' := fun hk h => oA_mono h (fun a q => by unfold pG at q; unfold pP; omega)
  have bk : ∀ {S'}, oA pP S S' → bkC S' 7 B := fun ho => bkC_cg (fun a b _ _ => ho.1 a b (by unfold pP; omega)) hc
  obtain ⟨S1, e1, o1, g1⟩ := v_fillGains hT hB (kg := 179) (f := 0) (by decide) (by decide) hc
  have e1' : fX5_fillGains T 176 179 15360 0 S = some ((), S1) := e1
  have hc1 := bk (mono (by decide) o1)
  have ea : fX2_asks T 22 21 S1 = some (if zm (S1.1 22 2) 21 = true then 1 else 0) := v_asks (q := 21) (by decide)
  unfold fX5_prepare
  rw [if_pos h, zT_176_9 hT, zT_176_10 hT, zT_176_0 hT, zT_7_14 hT, e1', b_q, ea, b1_q]
  cases z : zm (S1.1 22 2) 21 with
  | false =>
    obtain ⟨S2, e2, o2, r2⟩ := v_prep2 hT hB hc1 g1 (fun y => by rw [z] at y; cases y)
    rw [if_pos (show (if false = true then (1 : Int32) else 0) = 0 by rw [if_neg (by decide)]), e2]
    exact ⟨S2, rfl, oA_trans (mono (by decide) o1) o2, r2⟩
  | true =>
    obtain ⟨S3, e3, o3, g3⟩ := v_fillGains hT hB (kg := 180) (f := 1) (by decide) (by decide) hc1
    have e3' : fX5_fillGains T 176 180 15360 1 S1 = some ((), S3) := e3
    have oA3 := oA_trans (mono (by decide) o1) (mono (by decide) o3)
    obtain ⟨S2, e2, o2, r2⟩ := v_prep2 hT hB (bk oA3) (fun w i hw hi => gnAt_cg (o3.1 _ _ (by unfold pG; omega)) (g1 w i hw hi)) (fun _ => g3)
    rw [if_neg (show ¬ (if true = true then (1 : Int32) else 0) = 0 by rw [if_pos rfl]; decide), e3', b_q, e2]
    exact ⟨S2, rfl, oA_trans oA3 o2, r2⟩
