/-! THE PLAN TRACED, by the class -/
theorem v_trace1 {T : zT} (hT : iT T) {x2 x3 u : Int32} {S : zS} : ∃ S', lp (fun a => fX5_tracePlan_l78 T 176 x2 x3 u a.1 a.2) (0, S) = some S' ∧ onlyI S S' 177 ∧ ∀ t, t < 8 → S'.1 177 t = if zm u t = true then x2 else S.1 177 t := by
  refine lp_for (I := fun n a => ∃ S', a = (nI n, S') ∧ onlyI S S' 177 ∧ ∀ t, t < 8 → S'.1 177 t = if t < n ∧ zm u t = true then x2 else S.1 177 t) 8 ?_ ?_ ?_
  · rintro n a hn ⟨S', rfl, h1, h2⟩
    left
    show ∃ a', fX5_tracePlan_l78 T 176 x2 x3 u (nI n) S' = _ ∧ _
    unfold fX5_tracePlan_l78 fX5_tracePlan_b103
    rw [if_neg (show ¬ 8 ≤ nI n by rw [n_leL (by omega) (by omega)]; omega), let_q, n_addL]
    cases z : zm u n with
    | false =>
      rw [if_pos ((m_sh0 (by omega)).mpr z)]
      refine ⟨_, rfl, S', rfl, h1, fun t ht => ?_⟩
      rw [h2 t ht]
      by_cases y : t < n ∧ zm u t = true
      · rw [if_pos y, if_pos ⟨by omega, y.2⟩]
      · rw [if_neg y, if_neg]
        intro q
        by_cases e : t = n
        · subst e; rw [z] at q; cases q.2
        · exact y ⟨by omega, q.2⟩
    | true =>
      rw [if_neg (fun y => by rw [m_sh0 (by omega), z] at y; cases y), g_in hn (by decide), tn_nI (by omega), zT_176_7 hT, let_q, let_q]
      refine ⟨_, rfl, _, rfl, onlyI_z h1, fun t ht => ?_⟩
      rw [zI_eq]
      by_cases e : t = n
      · subst e; rw [if_pos rfl, if_pos ⟨by omega, z⟩]
      · rw [if_neg e, h2 t ht]
        by_cases y : t < n ∧ zm u t = true
        · rw [if_pos y, if_pos ⟨by omega, y.2⟩]
        · rw [if_neg y, if_neg (fun q => y ⟨by omega, q.2⟩)]
  · rintro a ⟨S', rfl, h1, h2⟩
    refine ⟨S', ?_, h1, fun t ht => ?_⟩
    · show fX5_tracePlan_l78 T 176 x2 x3 u (nI 8) S' = _
      unfold fX5_tracePlan_l78
      exact if_pos (show (8 : Int32) ≤ nI 8 by decide)
    · rw [h2 t ht]
      by_cases y : zm u t = true
      · rw [if_pos ⟨ht, y⟩, if_pos y]
      · rw [if_neg (fun q => y q.2), if_neg y]
  · exact ⟨S, rfl, onlyI_refl, fun t ht => by rw [if_neg (fun q => Nat.not_lt_zero _ q.1)]⟩
theorem v_trace0 {T : zT} (hT : iT T) {S : zS} : ∃ S', lp (fun a => fX5_tracePlan_l2 T 176 a.1 a.2) (0, S) = some S' ∧ onlyI S S' 177 ∧ ∀ t, t < 8 → S'.1 177 t = -1 := by
  refine lp_for (I := fun n a => ∃ S', a = (nI n, S') ∧ onlyI S S' 177 ∧ ∀ t, t < n → S'.1 177 t = -1) 8 ?_ ?_ ?_
  · rintro n a hn ⟨S', rfl, h1, h2⟩
    left
    show ∃ a', fX5_tracePlan_l2 T 176 (nI n) S' = _ ∧ _
    unfold fX5_tracePlan_l2
    rw [if_neg (show ¬ 8 ≤ nI n by rw [n_leL (by omega) (by omega)]; omega), g_in hn (by decide), tn_nI (by omega), zT_176_7 hT, let_q, let_q, n_addL]
    refine ⟨_, rfl, _, rfl, onlyI_z h1, fun t ht => ?_⟩
    rw [zI_eq]
    by_cases e : t = n
    · rw [if_pos e]
    · rw [if_neg e]; exact h2 t (by omega)
  · rintro a ⟨S', rfl, h1, h2⟩
    refine ⟨S', ?_, h1, h2⟩
    show fX5_tracePlan_l2 T 176 (nI 8) S' = _
    unfold fX5_tracePlan_l2
    exact if_pos (show (8 : Int32) ≤ nI 8 by decide)
  · exact ⟨S, rfl, onlyI_refl, fun t ht => absurd ht (Nat.not_lt_zero _)⟩
/-- when a thing is fetched, from week m on -/
def ftM (W m : Nat) (hb : Nat → Nat) (t : Nat) (x : Int32) : Prop := zm (nI (hb m)) t = false → (x = -1 ∧ ∀ w, m ≤ w → w ≤ W → zm (nI (hb w)) t = false) ∨ ∃ w, m ≤ w ∧ w < W ∧ x = nI w ∧ zm (nI (hb (w + 1))) t = true ∧ ∀ v, m ≤ v → v ≤ w → zm (nI (hb v)) t = false
theorem ftM_step {W m : Nat} {hb hb' : Nat → Nat} {t : Nat} {x x' : Int32} (hm : m < W) (he : ∀ w, m + 1 ≤ w → hb' w = hb w) (hx : x' = if zm (mi (nI (hb (m + 1))) (nI (hb' m))) t = true then nI m else x) (h : ftM W (m + 1) hb t x) : ftM W m hb' t x' := by
  intro z
  rw [mi_m, z, Bool.not_false, Bool.and_true] at hx
  cases y : zm (nI (hb (m + 1))) t with
  | true =>
    right
    rw [y, if_pos rfl] at hx
    refine ⟨m, Nat.le_refl _, hm, hx, by rw [he _ (Nat.le_refl _)]; exact y, fun v h1 h2 => ?_⟩
    rw [show v = m by omega]; exact z
  | false =>
    rw [y, if_neg (by decide)] at hx
    rcases h y with ⟨a1, a2⟩ | ⟨w, a1, a2, a3, a4, a5⟩
    · left
      refine ⟨hx.trans a1, fun w h1 h2 => ?_⟩
      by_cases e : w = m
      · rw [e]; exact z
      · rw [he w (by omega)]; exact a2 w (by omega) h2
    · right
      refine ⟨w, by omega, a2, hx.trans a3, by rw [he _ (by omega)]; exact a4, fun v h1 h2 => ?_⟩
      by_cases e : v = m
      · rw [e]; exact z
      · rw [he v (by omega)]; exact a5 v (by omega) h2
theorem v_tracePlan {T : zT} (hT : iT T) {B : Bk} (hB : okB B) {S : zS} (hc : bkC S 7 B) {c : Int} (hc0 : c < 2000000000) (hok : ∀ w, w ≤ bw B → okLn B c (bsL B w)) (h8 : ∀ w, w < bw B → ∀ i, i < 256 → (S.1 178 (256 * w + i)).toInt = bsL B (w + 1) i) (h9 : ∀ w i, w < bw B → i < 256 → gnAt S B 179 0 w i) (h3 : (S.1 176 3).toInt = bst (bsL B (bw B)) 256) (h4 : 0 ≤ bst (bsL B (bw B)) 256 → ∃ s, S.1 176 4 = nI s ∧ isL (fun s => s < 256 ∧ bsL B (bw B) s = bst (bsL B (bw B)) 256) s) : ∃ S', fX5_tracePlan T 176 S = some ((), S') ∧ onlyI S S' 177 ∧ (0 ≤ bst (bsL B (bw B)) 256 → ∃ hb, plH B hb ∧ S.1 176 4 = nI (hb (bw B)) ∧ ∀ t, t < 8 → ftW B hb t (S'.1 177 t)) := by
  obtain ⟨ebw, b1, b2⟩ := bw_n hB
  obtain ⟨S5, e5, o5, k5⟩ := v_trace0 hT (S := S)
  unfold fX5_tracePlan
  rw [e5, b1_q, o5.2 176 3 (by decide), o5.2 176 4 (by decide), zT_176_0 hT, o5.2 7 1 (by decide), hc.1 1 (by decide), ebw]
  by_cases hq : 0 ≤ S.1 176 3
  · have hq' : 0 ≤ bst (bsL B (bw B)) 256 := by have := z_le.mp hq; have e0 : (0 : Int32).toInt = 0 := rfl; omega
    obtain ⟨s0, es0, hs0⟩ := h4 hq'
    have bk : ∀ {S'}, onlyI S S' 177 → bkC S' 7 B := fun ho => bkC_cg (fun a b _ _ => ho.2 a b (by omega)) hc
    rw [if_pos hq, let_q, if_neg (show ¬ 60 < nI (bw B) by rw [n_ltL (by omega) (by omega)]; omega), let_q, n_subL (by omega), let_q, es0]
    have key : zwp (lp (fun a => fX5_tracePlan_l49 T 176 a.1 a.2.1 a.2.2) (nI s0, nI (bw B - 1), S5)) (fun S' => onlyI S S' 177 ∧ ∃ hb, plH B hb ∧ hb (bw B) = s0 ∧ ∀ t, t < 8 → ftW B hb t (S'.1 177 t)) := by
      refine lp_for (I := fun n a => n ≤ bw B ∧ ∃ S' x hb, a = (nI (hb (bw B - n)), x, S') ∧ x.toInt = (bw B : Int) - 1 - n ∧ onlyI S S' 177 ∧ hb (bw B) = s0 ∧ hb (bw B - n) < 256 ∧ (n < bw B → 0 ≤ bsL B (bw B - n) (hb (bw B - n))) ∧ (n = bw B → hb 0 = 0) ∧ (∀ w, 1 ≤ w → bw B - n ≤ w → w < bw B → isL (fun fr => fr < 256 ∧ ahd B w (hb (w + 1)) fr) (hb w)) ∧ ∀ t, t < 8 → ftM (bw B) (bw B - n) hb t (S'.1 177 t)) (bw B) ?_ ?_ ?_
      · rintro n a hn ⟨-, S', x, hb, rfl, hx, ho, q1, q2, q3, -, q5, q6⟩
        left
        obtain ⟨m, em⟩ : ∃ m, bw B - n = m + 1 := ⟨bw B - n - 1, by omega⟩
        have em' : bw B - (n + 1) = m := by omega
        rw [em] at q2 q3 q5 q6
        rw [em, em']
        have ex : x = nI m := z_eq.mpr (by rw [nI_toInt (by omega)]; omega)
        -- whatever is ahead
        have go : ∀ fr, fr < 256 → (1 ≤ m → isL (fun fr => fr < 256 ∧ ahd B m (hb (m + 1)) fr) fr) → (m = 0 → fr = 0) → ∃ a', fX5_tracePlan_b67 T 176 (nI (hb (m + 1))) (nI m) (nI fr) S' = some (.inl a') ∧ n + 1 ≤ bw B ∧ ∃ S'' x' hb', a' = (nI (hb' m), x', S'') ∧ x'.toInt = (bw B : Int) - 1 - ((n + 1 : Nat) : Int) ∧ onlyI S S'' 177 ∧ hb' (bw B) = s0 ∧ hb' m < 256 ∧ (n + 1 < bw B → 0 ≤ bsL B m (hb' m)) ∧ (n + 1 = bw B → hb' 0 = 0) ∧ (∀ w, 1 ≤ w → m ≤ w → w < bw B → isL (fun fr => fr < 256 ∧ ahd B w (hb' (w + 1)) fr) (hb' w)) ∧ ∀ t, t < 8 → ftM (bw B) m hb' t (S''.1 177 t) := by
          intro fr hfr hL h0
          obtain ⟨S6, e6, o6, k6⟩ := v_trace1 hT (x2 := nI m) (x3 := nI fr) (u := mi (nI (hb (m + 1))) (nI fr)) (S := S')
          have hne : ∀ w, m + 1 ≤ w → (if w = m then fr else hb w) = hb w := fun w h => if_neg (by omega)
          unfold fX5_tracePlan_b67
          rw [show nI (hb (m + 1)) &&& (nI fr ^^^ (-1)) = mi (nI (hb (m + 1))) (nI fr) from rfl, let_q, e6, b1_q, let_q]
          refine ⟨_, rfl, by omega, S6, _, fun w => if w = m then fr else hb w, by show _ = (nI (if m = m then fr else hb m), _, S6); rw [if_pos (rfl : m = m)], ?_, ⟨o6.1.trans ho.1, fun a b n => (o6.2 a b n).trans (ho.2 a b n)⟩, ?_, ?_, ?_, ?_, ?_, ?_⟩
          · rw [z_add (by rw [nI_toInt (by omega)]; have e1 : (-1 : Int32).toInt = -1 := rfl; omega) (by rw [nI_toInt (by omega)]; have e1 : (-1 : Int32).toInt = -1 := rfl; omega), nI_toInt (by omega)]
            have e1 : (-1 : Int32).toInt = -1 := rfl
            omega
          · show (if bw B = m then fr else hb (bw B)) = s0
            rw [hne _ (by omega)]; exact q1
          · show (if m = m then fr else hb m) < 256
            rw [if_pos rfl]; exact hfr
          · intro h
            show 0 ≤ bsL B m (if m = m then fr else hb m)
            rw [if_pos rfl]; exact (hL (by omega)).1.2.1
          · intro h
            show (if 0 = m then fr else hb 0) = 0
            rw [if_pos (show 0 = m by omega)]; exact h0 (by omega)
          · intro w w1 w2 w3
            show isL (fun f => f < 256 ∧ ahd B w (if w + 1 = m then fr else hb (w + 1)) f) (if w = m then fr else hb w)
            rw [hne (w + 1) (by omega)]
            by_cases z : w = m
            · subst z; rw [if_pos rfl]; exact hL w1
            · rw [if_neg z]; exact q5 w w1 (by omega) w3
          · intro t ht
            refine ftM_step (hb := hb) (by omega) hne ?_ (q6 t ht)
            rw [k6 t ht, if_pos rfl]
        show ∃ a', fX5_tracePlan_l49 T 176 (nI (hb (m + 1))) x S' = _ ∧ _
        unfold fX5_tracePlan_l49
        rw [ex, if_neg (show ¬ nI m < 0 by intro h; have := z_lt.mp h; rw [nI_toInt (by omega)] at this; have e : (0 : Int32).toInt = 0 := rfl; omega)]
        by_cases z : m = 0
        · rw [if_pos (show nI m = 0 by rw [z]; rfl)]
          exact go 0 (by decide) (fun h => absurd h (by omega)) (fun _ => rfl)
        · rw [if_neg (show ¬ nI m = 0 by intro h; have := z_eq.mp h; rw [nI_toInt (by omega)] at this; have e : (0 : Int32).toInt = 0 := rfl; omega)]
          obtain ⟨w, rfl⟩ : ∃ w, m = w + 1 := ⟨m - 1, by omega⟩
          obtain ⟨fr, e, hL⟩ := v_setAhead hT hB (w := w) (s := hb (w + 1 + 1)) (S := S') (by omega) q2 (bk ho) hc0 (hok _ (by omega)) (hok _ (by omega)) (q3 hn) (fun i hi => by rw [ho.2 _ _ (by decide)]; exact h8 w (by omega) i hi) (fun i hi => by rw [ho.2 _ _ (by decide)]; exact h8 (w + 1) (by omega) i hi) (gnAt_cg (ho.2 _ _ (by decide)) (h9 (w + 1) _ (by omega) q2))
          rw [e, b1_q]
          exact go fr hL.1.1 (fun _ => hL) (fun h => absurd h z)
      · rintro a ⟨-, S', x, hb, rfl, hx, ho, q1, q2, q3, q4, q5, q6⟩
        have hb0 := q4 rfl
        rw [Nat.sub_self] at q2 q5 q6 ⊢
        refine ⟨S', ?_, ho, hb, ⟨by rw [q1]; exact hs0, hb0, fun w w1 w2 => q5 w w1 (Nat.zero_le _) w2⟩, q1, fun t ht => ?_⟩
        · show fX5_tracePlan_l49 T 176 (nI (hb 0)) x S' = _
          unfold fX5_tracePlan_l49
          exact if_pos (z_lt.mpr (by have e : (0 : Int32).toInt = 0 := rfl; omega))
        · rcases q6 t ht (by rw [hb0]; exact m_0) with ⟨a1, a2⟩ | ⟨w, -, a2, a3, a4, a5⟩
          · exact Or.inl ⟨a1, fun w _ w2 => a2 w (Nat.zero_le _) w2⟩
          · exact Or.inr ⟨w, a2, a3, a4, fun v hv => a5 v (Nat.zero_le _) hv⟩
      · refine ⟨Nat.zero_le _, S5, nI (bw B - 1), fun _ => s0, rfl, by rw [nI_toInt (by omega)]; omega, o5, rfl, hs0.1.1, fun _ => ?_, fun h => absurd h (by omega), fun w _ h1 h2 => absurd h1 (by omega), fun t ht _ => ?_⟩
        · show 0 ≤ bsL B (bw B - 0) s0
          rw [Nat.sub_zero, hs0.1.2]; exact hq'
        · left
          refine ⟨k5 t ht, fun w h1 h2 => ?_⟩
          assumption
    obtain ⟨S', e, o, hb, p1, p2, p3⟩ := key
    rw [e, b1_q]
    exact ⟨S', rfl, o, fun _ => ⟨hb, p1, by rw [p2], p3⟩⟩
  · rw [if_neg hq]
    refine ⟨S5, rfl, o5, fun h => absurd (z_le.mpr ?_) hq⟩
    have e0 : (0 : Int32).toInt = 0 := rfl
    omega
