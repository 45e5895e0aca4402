/-! A WEEK'S GAINS, by the class -/
/-- but for cells p of ints and the scene's longs all is as it was -/
def oA (p : Nat → Prop) (S S' : zS) : Prop := (∀ a b, ¬ p a → S'.1 a b = S.1 a b) ∧ ∀ a b, a < 164 ∨ 165 < a → S'.2 a b = S.2 a b
theorem oA_refl {p : Nat → Prop} {S : zS} : oA p S S := ⟨fun _ _ _ => rfl, fun _ _ _ => rfl⟩
theorem oA_trans {p : Nat → Prop} {S S' S'' : zS} (h : oA p S S') (g : oA p S' S'') : oA p S S'' := ⟨fun a b n => (g.1 a b n).trans (h.1 a b n), fun a b n => (g.2 a b n).trans (h.2 a b n)⟩
theorem oA_mono {p q : Nat → Prop} {S S' : zS} (h : oA p S S') (hpq : ∀ a, p a → q a) : oA q S S' := ⟨fun a b n => h.1 a b (fun x => n (hpq a x)), h.2⟩
/-- which clauses hold, at so many home and in -/
def hAt (S : zS) (w : Int32) (h n : Nat) (l : List Cl) (k : Nat) : Prop := ∀ i c, l[i]? = some c → (zm (S.1 k (9 * h + n)) i = true ↔ hld (envB w (nI h) (nI n)) c.2.2.2)
theorem env3 {S : zS} {w h n : Int32} : ∀ q, wB q = true → envB w h n q = (zJ (zJ (zJ S 164 19 w.toInt64) 164 20 h.toInt64) 164 21 n.toInt64).2 164 q := by
  intro q hq
  have hq' := of_decide_eq_true hq
  have : q = 19 ∨ q = 20 ∨ q = 21 := by omega
  rcases this with rfl | rfl | rfl
  · rw [zJ_at, if_neg (by omega), zJ_at, if_neg (by omega), zJ_s]; rfl
  · rw [zJ_at, if_neg (by omega), zJ_s]; rfl
  · rw [zJ_s]; rfl
def pEN (a : Nat) : Prop := a = 183 ∨ a = 184
theorem v_fill1 {T : zT} (hT : iT T) {B : Bk} {w h n : Nat} (hn : h + n ≤ 8) {S : zS} (hc : bkC S 7 B) : ∃ S', fX5_fillHolding_l10 T 176 (nI w) (nI h) (nI n) S = some (.inl (nI (n + 1), S')) ∧ oA pEN S S' ∧ hAt S' (nI w) h n (B.2.filter (ofK 1)) 183 ∧ hAt S' (nI w) h n (B.2.filter (ofK 2)) 184 ∧ ∀ j, j ≠ 9 * h + n → S'.1 183 j = S.1 183 j ∧ S'.1 184 j = S.1 184 j := by
  have e9 : nI h * 9 + nI n = nI (9 * h + n) := by rw [show nI h * 9 = nI (9 * h) from by rw [liq, n_mul, Nat.mul_comm], n_add]
  have ev := env3 (S := S) (w := nI w) (h := nI h) (n := nI n)
  have hJ : ∀ a b, a ≠ 164 → (zJ (zJ (zJ S 164 19 (nI w).toInt64) 164 20 (nI h).toInt64) 164 21 (nI n).toInt64).2 a b = S.2 a b := fun a b hab => by rw [zJ_o hab, zJ_o hab, zJ_o hab]
  have hI : (zJ (zJ (zJ S 164 19 (nI w).toInt64) 164 20 (nI h).toInt64) 164 21 (nI n).toInt64).1 = S.1 := rfl
  unfold fX5_fillHolding_l10
  rw [n_add, if_neg (show ¬ 8 < nI (n + h) by rw [n_ltL (by omega) (by omega)]; omega), zT_176_1 hT, zT_163_0 hT, zT_176_0 hT, zT_7_12 hT, zT_7_13 hT, zT_7_14 hT, zT_176_13 hT, zT_176_14 hT, e9, g_t (by decide), let_q, g_t (by decide), let_q, g_t (by decide), let_q]
  have t19 : (19 : Int32).toNatClampNeg = 19 := rfl
  have t20 : (20 : Int32).toNatClampNeg = 20 := rfl
  have t21 : (21 : Int32).toNatClampNeg = 21 := rfl
  rw [t19, t20, t21]
  generalize zJ (zJ (zJ S 164 19 (nI w).toInt64) 164 20 (nI h).toInt64) 164 21 (nI n).toInt64 = S8 at ev hJ hI ⊢
  have hc8 : bkC S8 7 B := bkC_cg (fun a b _ _ => by rw [hI]) hc
  obtain ⟨⟨r1, S11⟩, e1, p1, o1⟩ := v_holding (T := T) (kk := 14) (kc := 22) (ks := 163) (env := envB (nI w) (nI h) (nI n)) (zT_14_2 hT) (zT_22_0 hT) (zT_163_0 hT) (zT_163_1 hT) hc8.2.2.1 ev
  rw [e1, b_q, g_in (by omega) (by decide), let_q, tn_nI (show 9 * h + n < 2147483648 by omega)]
  have hc13 : bkC (zI S11 183 (9 * h + n) r1) 7 B := bkC_cg (fun a b x y => by rw [zI_ne (by omega), o1.1]) hc8
  obtain ⟨⟨r2, S16⟩, e2, p2, o2⟩ := v_holding (T := T) (kk := 18) (kc := 22) (ks := 163) (S := zI S11 183 (9 * h + n) r1) (env := envB (nI w) (nI h) (nI n)) (zT_18_2 hT) (zT_22_0 hT) (zT_163_0 hT) (zT_163_1 hT) hc13.2.2.2.1 (fun q hq => by rw [ev q hq]; exact (o1.2 _ _ (by decide)).symm)
  rw [e2, b_q, g_in (by omega) (by decide), let_q, let_q, n_addL]
  refine ⟨_, rfl, ⟨fun a b hp => ?_, fun a b hp => ?_⟩, fun i c hi => ?_, fun i c hi => ?_, fun j hj => ⟨?_, ?_⟩⟩
  · unfold pEN at hp
    rw [zI_ne (by omega), o2.1, zI_ne (by omega), o1.1, hI]
  · show S16.2 a b = S.2 a b
    rw [o2.2 _ _ (by omega)]
    show S11.2 a b = S.2 a b
    rw [o1.2 _ _ (by omega), hJ _ _ (by omega)]
  · rw [zI_ne (by decide), o2.1, zI_eq, if_pos rfl]; exact p1 i c hi
  · rw [zI_eq, if_pos rfl]; exact p2 i c hi
  · rw [zI_ne (by decide), o2.1, zI_eq, if_neg hj, o1.1, hI]
  · rw [zI_eq, if_neg hj, o2.1, zI_ne (by decide), o1.1, hI]
theorem hAt_cg {S S' : zS} {w : Int32} {h n : Nat} {l : List Cl} {k : Nat} (e : S'.1 k (9 * h + n) = S.1 k (9 * h + n)) (g : hAt S w h n l k) : hAt S' w h n l k := fun i c hi => by rw [e]; exact g i c hi
theorem v_fillHolding {T : zT} (hT : iT T) {B : Bk} {w : Nat} {S : zS} (hc : bkC S 7 B) : ∃ S', fX5_fillHolding T 176 (nI w) S = some ((), S') ∧ oA pEN S S' ∧ ∀ h n, h + n ≤ 8 → hAt S' (nI w) h n (B.2.filter (ofK 1)) 183 ∧ hAt S' (nI w) h n (B.2.filter (ofK 2)) 184 := by
  have bk : ∀ {S'}, oA pEN S S' → bkC S' 7 B := fun ho => bkC_cg (fun a b _ _ => ho.1 a b (by unfold pEN; omega)) hc
  have key : zwp (lp (fun a => fX5_fillHolding_l2 T 176 (nI w) a.1 a.2) (0, S)) (fun S' => oA pEN S S' ∧ ∀ h n, h + n ≤ 8 → hAt S' (nI w) h n (B.2.filter (ofK 1)) 183 ∧ hAt S' (nI w) h n (B.2.filter (ofK 2)) 184) := by
    refine lp_for (I := fun m a => ∃ S', a = (nI m, S') ∧ oA pEN S S' ∧ ∀ h n, h < m → h + n ≤ 8 → hAt S' (nI w) h n (B.2.filter (ofK 1)) 183 ∧ hAt S' (nI w) h n (B.2.filter (ofK 2)) 184) 9 ?_ ?_ ?_
    · rintro m a hm ⟨S', rfl, h1, h2⟩
      left
      have key2 : zwp (lp (fun a => fX5_fillHolding_l10 T 176 (nI w) (nI m) a.1 a.2) (0, S')) (fun S'' => oA pEN S S'' ∧ ∀ h n, h < m + 1 → h + n ≤ 8 → hAt S'' (nI w) h n (B.2.filter (ofK 1)) 183 ∧ hAt S'' (nI w) h n (B.2.filter (ofK 2)) 184) := by
        refine lp_for (I := fun j a => ∃ S'', a = (nI j, S'') ∧ oA pEN S S'' ∧ ∀ h n, h < m ∨ h = m ∧ n < j → h + n ≤ 8 → hAt S'' (nI w) h n (B.2.filter (ofK 1)) 183 ∧ hAt S'' (nI w) h n (B.2.filter (ofK 2)) 184) (9 - m) ?_ ?_ ?_
        · rintro j a hj ⟨S'', rfl, h3, h4⟩
          left
          obtain ⟨S5, e, q1, q2, q3, q4⟩ := v_fill1 hT (w := w) (h := m) (n := j) (by omega) (bk h3)
          refine ⟨_, e, S5, rfl, oA_trans h3 q1, fun h n hh hn => ?_⟩
          by_cases z : h = m ∧ n = j
          · obtain ⟨rfl, rfl⟩ := z; exact ⟨q2, q3⟩
          · have hne : 9 * h + n ≠ 9 * m + j := by omega
            have g := h4 h n (by omega) hn
            exact ⟨hAt_cg (q4 _ hne).1 g.1, hAt_cg (q4 _ hne).2 g.2⟩
        · rintro a ⟨S'', rfl, h3, h4⟩
          refine ⟨S'', ?_, h3, fun h n hh hn => h4 h n (by omega) hn⟩
          show fX5_fillHolding_l10 T 176 (nI w) (nI m) (nI (9 - m)) S'' = _
          unfold fX5_fillHolding_l10
          rw [n_add, if_pos (show 8 < nI (9 - m + m) by rw [n_ltL (by omega) (by omega)]; omega)]
        · exact ⟨S', rfl, h1, fun h n hh hn => h2 h n (by omega) hn⟩
      obtain ⟨S'', e, q1, q2⟩ := key2
      refine ⟨(nI (m + 1), S''), ?_, S'', rfl, q1, q2⟩
      show fX5_fillHolding_l2 T 176 (nI w) (nI m) S' = _
      unfold fX5_fillHolding_l2
      rw [if_neg (show ¬ 8 < nI m by rw [n_ltL (by omega) (by omega)]; omega), e, b1_q, let_q, n_addL]
    · rintro a ⟨S', rfl, h1, h2⟩
      refine ⟨S', ?_, h1, fun h n hn => h2 h n (by omega) hn⟩
      show fX5_fillHolding_l2 T 176 (nI w) (nI 9) S' = _
      unfold fX5_fillHolding_l2
      exact if_pos (show (8 : Int32) < nI 9 by decide)
    · exact ⟨S, rfl, oA_refl, fun h n hh => absurd hh (Nat.not_lt_zero _)⟩
  obtain ⟨S', e, q⟩ := key
  refine ⟨S', ?_, q⟩
  unfold fX5_fillHolding
  rw [e, b1_q]
