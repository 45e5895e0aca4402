/-! A LIFE BY A RULE, in both -/
/-- things as at first; fetched in the same weeks; nothing borrowed -/
def rlF (B : Bk) (Sc Sr : zS) : Prop := (∀ t, t < 8 → zm (bth B) t = true → Sc.1 173 t = B.1 0 t ∧ Sc.1 174 t = B.1 1 t ∧ Sc.1 175 t = 0) ∧ (∀ t, t < 8 → Sr.1 225 t = Sc.1 172 t) ∧ Sc.1 166 16 = 0
theorem rl_owd {B : Bk} {Sc Sr : zS} (h : rlF B Sc Sr) {t : Nat} (ht : t < 8) (hz : zm (bth B) t = true) (w : Int32) : lowd Sc t w = B.1 0 t + B.1 1 t * w := by
  obtain ⟨e1, e2, e3⟩ := h.1 t ht hz
  unfold lowd
  rw [e1, e2, e3, Int32.sub_zero]
section
variable {T : zT} {B : Bk} {L : List Rc} {q : Nat} {w : Int32}
theorem keepF_btw (hL : okRu L) : btw (keepF L) 0 9999 := by
  have key : ∀ (l : List Rc) (k : Int32), (∀ c, c ∈ l → okRc c) → btw k 0 9999 → btw (l.foldl (fun k c => if c.1 = 1 then c.2.1 else k) k) 0 9999 := by
    intro l
    induction l with
    | nil => intro k _ h; exact h
    | cons c l ih =>
      intro k h hk
      refine ih _ (fun d hd => h d (List.mem_cons_of_mem _ hd)) ?_
      show btw (if c.1 = 1 then c.2.1 else k) 0 9999
      split
      · exact (h c (List.mem_cons_self ..)).2.1
      · exact hk
  exact key L 0 hL.2 ⟨by decide, by decide⟩
theorem lm_loop (hT : iT T) (hB : okB B) (hL : okRu L) (hq : q < 6) {Sc0 Sr0 : zS} (hc : bkC Sc0 7 B) (hr : bkR Sr0.1 B) (hrc : ruC Sc0 (46 + 5 * q) L) (hrr : ruR Sr0 (2 + q) L) {cap : Int} {ww : Int} (rel : lfR B ww cap Sc0 Sr0) (hf : rlF B Sc0 Sr0) : ∀ (m t : Nat) (x : Int32) (l : Int64) (Sc Sr : zS), t + m = 8 → Sc.1 = Sc0.1 → Sr.1 = Sr0.1 → ∃ v Sc' Sr', lp (fun a => fX4_likedMost_l8 T 166 (46 + 5 * q) w a.1 a.2.1 a.2.2.1 a.2.2.2) (x, l, nI t, Sc) = some (v, Sc') ∧ lp (fun a => fX12_nextOf_l29 T 187 (nI q) w (Sc0.1 166 4) (linn Sc0) (keepF L) a.1 a.2.1 a.2.2.1 a.2.2.2) (x, l, nI t, Sr) = some (v, Sr') ∧ Sc'.1 = Sc0.1 ∧ Sr'.1 = Sr0.1 ∧ (v = x ∨ ∃ u, u < 8 ∧ v = nI u ∧ zm (linn Sc0) u = true ∧ B.1 0 u + B.1 1 u * w ≤ Sc0.1 166 3 - keepF L) := by
  obtain ⟨t1, t2⟩ := rul_T hT hq
  intro m
  induction m with
  | zero =>
    intro t x l Sc Sr ht hSc hSr
    have e : t = 8 := by omega
    subst e
    refine ⟨x, Sc, Sr, lp_stop ?_, lp_stop ?_, hSc, hSr, Or.inl rfl⟩
    · show fX4_likedMost_l8 T 166 (46 + 5 * q) w x l (nI 8) Sc = _
      unfold fX4_likedMost_l8
      exact if_pos (show (8 : Int32) ≤ nI 8 by decide)
    · show fX12_nextOf_l29 T 187 (nI q) w _ _ _ x l (nI 8) Sr = _
      unfold fX12_nextOf_l29
      exact if_pos (show (8 : Int32) ≤ nI 8 by decide)
  | succ m ih =>
    intro t x l Sc Sr ht' hSc hSr
    have ht : t < 8 := by omega
    have elin : linn Sc = linn Sc0 := by unfold linn; rw [hSc]
    have hcS : bkC Sc 7 B := bkC_cg (fun a b _ _ => by rw [hSc]) hc
    have hrS : bkR Sr.1 B := by rw [hSr]; exact hr
    have s1 : fX4_likedMost_l8 T 166 (46 + 5 * q) w x l (nI t) Sc = if zm (linn Sc0) t = true then if Sc0.1 166 3 - keepF L < lowd Sc t w then some (.inl (x, l, nI (t + 1), Sc)) else zb (fX4_liking T 166 (46 + 5 * q) (nI t) w Sc) (fun r9 S11 => if (lg_cmp r9 l) ≤ 0 then some (.inl (x, l, nI (t + 1), S11)) else some (.inl (nI t, r9, nI (t + 1), S11))) else some (.inl (x, l, nI (t + 1), Sc)) := by
      unfold fX4_likedMost_l8 fX4_likedMost_b68
      rw [if_neg (by rw [n_leL (by omega) (by omega)]; omega), v_isIn hT ht, b1_q, elin]
      simp only [let_q, n_addL, v_owedNow hT ht, b1_q]
      by_cases z : zm (linn Sc0) t = true
      · rw [if_pos z, if_neg n10, if_pos z, hSc, hrc.2.1]
      · rw [if_neg z, if_pos rfl, if_neg z]
    have s2 : fX12_nextOf_l29 T 187 (nI q) w (Sc0.1 166 4) (linn Sc0) (keepF L) x l (nI t) Sr = if zm (linn Sc0) t = true then if Sc0.1 166 3 - keepF L < B.1 0 t + B.1 1 t * w then some (.inl (x, l, nI (t + 1), Sr)) else zb (fX12_likesIt T 187 (nI q) (nI t) w (Sc0.1 166 4) (linn Sc0) (Sc0.1 166 3) Sr) (fun r14 S16 => if (lg_cmp r14 l) ≤ 0 then some (.inl (x, l, nI (t + 1), S16)) else some (.inl (nI t, r14, nI (t + 1), S16))) else some (.inl (x, l, nI (t + 1), Sr)) := by
      unfold fX12_nextOf_l29 fX12_nextOf_b95 fX12_nextOf_b112 fX12_nextOf_b114
      rw [if_neg (by rw [n_leL (by omega) (by omega)]; omega), g_in ht (by decide), zT_187_40 hT, tn_nI (by omega), hSr]
      simp only [let_q, n_addL, r_firstOwed hT hrS ht, b1_q]
      rw [rel.2.2.1.1]
      by_cases z : zm (linn Sc0) t = true
      · rw [if_pos ((lfr_in hc rel ht).mpr z), if_pos z]
        by_cases y : Sc0.1 166 3 - keepF L < B.1 0 t + B.1 1 t * w
        · rw [if_pos y, if_pos y]
        · rw [if_neg y, if_neg y]
          congr 1
          funext r14 S16
          by_cases v : lg_cmp r14 l ≤ 0
          · rw [if_pos v, if_pos v, if_pos v]
          · rw [if_neg v, if_neg v, if_neg v]
      · rw [if_neg (fun y => z ((lfr_in hc rel ht).mp y)), if_neg z]
    by_cases z : zm (linn Sc0) t = true
    · have hz := (linn_th hc z).1
      rw [if_pos z] at s1 s2
      have elow : lowd Sc t w = B.1 0 t + B.1 1 t * w := by
        rw [← rl_owd hf ht hz w]
        unfold lowd
        rw [hSc]
      rw [elow] at s1
      by_cases y : Sc0.1 166 3 - keepF L < B.1 0 t + B.1 1 t * w
      · rw [if_pos y] at s1 s2
        obtain ⟨v, Sc', Sr', p1, p2, p3⟩ := ih (t + 1) x l Sc Sr (by omega) hSc hSr
        exact ⟨v, Sc', Sr', lp_go s1 p1, lp_go s2 p2, p3⟩
      · rw [if_neg y] at s1 s2
        obtain ⟨S11, e1, o1⟩ := v_liking hT t2 hL hB hcS (ruC_cg (fun a b _ _ => by rw [hSc]) hrc) ht hz (w := w) (by rw [hSc]; exact rel.1.1) elow (by rw [hSc]; exact (hf.1 t ht hz).2.1) (okRu_words hL)
        obtain ⟨S16, e2, o2⟩ := r_likesIt hT hB hq ht hL hrS (ruR_cg (by have := hL.1; omega) (fun a b _ _ _ _ _ => by rw [hSr]) hrr) (w := w) (has := Sc0.1 166 3) rel.1.1 (linn8 hB hc)
        rw [elin, hSc] at e1
        rw [e1, b_q] at s1
        rw [e2, b_q] at s2
        generalize lkV (envR B t w (Sc0.1 166 4) (linn Sc0) (Sc0.1 166 3)) L = v at s1 s2
        by_cases hv : lg_cmp v l ≤ 0
        · rw [if_pos hv] at s1 s2
          obtain ⟨v', Sc', Sr', p1, p2, p3⟩ := ih (t + 1) x l S11 S16 (by omega) (o1.trans hSc) (o2.trans hSr)
          exact ⟨v', Sc', Sr', lp_go s1 p1, lp_go s2 p2, p3⟩
        · rw [if_neg hv] at s1 s2
          obtain ⟨v', Sc', Sr', p1, p2, p3, p4, p5⟩ := ih (t + 1) (nI t) v S11 S16 (by omega) (o1.trans hSc) (o2.trans hSr)
          refine ⟨v', Sc', Sr', lp_go s1 p1, lp_go s2 p2, p3, p4, Or.inr ?_⟩
          rcases p5 with p5 | p5
          · exact ⟨t, ht, p5, z, z_nlt y⟩
          · exact p5
    · rw [if_neg z] at s1 s2
      obtain ⟨v, Sc', Sr', p1, p2, p3⟩ := ih (t + 1) x l Sc Sr (by omega) hSc hSr
      exact ⟨v, Sc', Sr', lp_go s1 p1, lp_go s2 p2, p3⟩
theorem lm_sim (hT : iT T) (hB : okB B) (hL : okRu L) (hq : q < 6) {Sc Sr : zS} (hc : bkC Sc 7 B) (hr : bkR Sr.1 B) (hrc : ruC Sc (46 + 5 * q) L) (hrr : ruR Sr (2 + q) L) {cap ww : Int} (rel : lfR B ww cap Sc Sr) (hf : rlF B Sc Sr) : ∃ v Sc' Sr', fX4_likedMost T 166 (46 + 5 * q) w Sc = some (v, Sc') ∧ fX12_nextOf T 187 (nI q) w Sr = some (v, Sr') ∧ Sc'.1 = Sc.1 ∧ Sr'.1 = Sr.1 ∧ Sr'.2 187 52 = Sr.2 187 52 ∧ (v = -1 ∨ ∃ u, u < 8 ∧ v = nI u ∧ zm (linn Sc) u = true ∧ B.1 0 u + B.1 1 u * w ≤ Sc.1 166 3 - keepF L) := by
  obtain ⟨v, Sc', Sr', p1, p2, p3, p4, p5⟩ := lm_loop hT hB hL hq hc hr hrc hrr rel hf (w := w) 8 0 (-1) 0 Sc Sr (by omega) rfl rfl
  have e2 : fX12_nextOf T 187 (nI q) w Sr = some (v, Sr') := by
    unfold fX12_nextOf
    rw [r_home hT hr rel.1, b1_q, r_in hT hB hc hr rel.1, b1_q, r_keeps hT hq hL hrr, b1_q]
    have p2' : lp (fun a => fX12_nextOf_l29 T 187 (nI q) w (Sc.1 166 4) (linn Sc) (keepF L) a.1 a.2.1 a.2.2.1 a.2.2.2) (-1, 0, 0, Sr) = some (v, Sr') := p2
    rw [p2', b1_q]
  refine ⟨v, Sc', Sr', ?_, e2, p3, p4, ?_, p5⟩
  · unfold fX4_likedMost
    have p1' : lp (fun a => fX4_likedMost_l8 T 166 (46 + 5 * q) w a.1 a.2.1 a.2.2.1 a.2.2.2) (-1, 0, 0, Sc) = some (v, Sc') := p1
    rw [p1', b1_q]
  · exact wJ_X12_nextOf (T := T) (a := 187) (b := 52) (S0 := Sr) (by rw [zT_187_34 hT]; decide) (by rw [zT_187_35 hT]; decide) rfl _ e2
end
