/-! ANY CLAUSE OF A BOOK, by the class -/
theorem bIdx_7 {q : Nat} : ¬ bIdx q = 7 ↔ q = 0 ∨ q = 1 ∨ q = 4 ∨ q = 5 ∨ q = 6 ∨ q = 8 ∨ q = 9 := by
  unfold bIdx
  constructor
  · intro h
    apply Classical.byContradiction
    intro g
    refine h ?_
    rw [if_neg (by omega), if_neg (by omega), if_neg (by omega), if_neg (by omega), if_neg (by omega), if_neg (by omega), if_neg (by omega)]
  · rintro (rfl | rfl | rfl | rfl | rfl | rfl | rfl) <;> decide
section
variable {T : zT} {X : TK} {m : Nat}
theorem c_isB {S : zS} {q : Nat} (hq : q ≤ 46) (h8 : S.1 2 8 = 0) (h2 : S.1 2 2 = nI q) : fX6_isClause T 2 S = some (if bIdx q = 7 then 0 else 1) ∧ (¬ bIdx q = 7 → fX6_isOnceOnly T 2 S = some (if 3 ≤ bIdx q then 1 else 0)) := by
  have ne : ∀ c : Nat, c < 100 → q ≠ c → ¬ nI q = nI c := fun c hc h => by rw [n_eq (by omega) (by omega)]; exact h
  constructor
  · by_cases y : bIdx q = 7
    · have hn : ¬ (q = 0 ∨ q = 1 ∨ q = 4 ∨ q = 5 ∨ q = 6 ∨ q = 8 ∨ q = 9) := fun z => bIdx_7.mpr z y
      unfold fX6_isClause
      rw [if_pos h8, h2, if_neg (show ¬ nI q = 0 from ne 0 (by decide) (by omega)), if_neg (show ¬ nI q = 1 from ne 1 (by decide) (by omega)), if_neg (show ¬ nI q = 4 from ne 4 (by decide) (by omega)), if_pos y]
      by_cases z : q = 15
      · rw [if_pos (show nI q = 15 by rw [z]; rfl)]; rfl
      · rw [if_neg (show ¬ nI q = 15 from ne 15 (by decide) z)]
        unfold fX6_isOnceOnly
        rw [h2, if_neg (show ¬ nI q = 5 from ne 5 (by decide) (by omega)), if_neg (show ¬ nI q = 6 from ne 6 (by decide) (by omega)), if_neg (show ¬ nI q = 8 from ne 8 (by decide) (by omega)), if_neg (show ¬ nI q = 9 from ne 9 (by decide) (by omega)), if_neg (show ¬ nI q = 15 from ne 15 (by decide) z)]
        rfl
    · have hn := bIdx_7.mp y
      rw [if_neg y]
      unfold fX6_isClause fX6_isOnceOnly
      rw [if_pos h8, h2]
      rcases hn with rfl | rfl | rfl | rfl | rfl | rfl | rfl <;> rfl
  · intro y
    have hn := bIdx_7.mp y
    unfold fX6_isOnceOnly
    rw [h2]
    rcases hn with rfl | rfl | rfl | rfl | rfl | rfl | rfl <;> rfl
theorem c_startB (hC : cdT T 39) (hX : okX X m) (hw : X.2.2.2 = wB) {S : zS} {i kk l : Nat} (h : stC X m 39 S i kk l) {L : List Cl} (ht : tldL S L) (big : Bool) : ∃ v S', fX6_startClause T 2 (if big = true then 1 else 0) S = some (v, S') ∧ o7 S S' ∧ (if bIdx (X.1 i) = 7 then v = -1 ∧ pfC X m 39 S' (flt (0, X.2.2.1 i)) else if big = true ∨ 3 ≤ bIdx (X.1 i) ∧ toldL L (bIdx (X.1 i)) = true then v = -1 ∧ pfC X m 39 S' (flt (4, X.2.2.1 i)) else v = nI (X.1 i) ∧ i < m ∧ stC X m 39 S' (i + 1) kk l ∧ ∀ c : Cl, c.1 = bIdx (X.1 i) → tldL S' (L ++ [c])) := by
  have hb := hX.2.2.2.2.2.2.2 i
  have hr := h.2.2.1
  have h8 : S.1 2 8 = 0 := by
    rw [h.1.2, hw, if_neg (show ¬ wB 22 = true by decide)]
  obtain ⟨eis, eonce⟩ := c_isB (T := T) hb.1 h8 hr.2.1
  unfold fX6_startClause fX6_startClause_b34 fX6_startClause_b60
  rw [let_q, eis, b1_q, hr.2.1]
  obtain ⟨S0, e0, o0, p0⟩ := st_fail2 (T := T) h (by decide) 0
  obtain ⟨S4, e4, o4, p4⟩ := st_fail2 (T := T) h (by decide) 4
  have e0' : fX6_fail T 2 0 S = some ((), S0) := e0
  have e4' : fX6_fail T 2 4 S = some ((), S4) := e4
  have o27 : ∀ {S'}, o2 S S' → o7 S S' := fun q => ⟨q.1, fun a b x => q.2 a b (by omega)⟩
  rw [e0', b_q, e4', b_q]
  by_cases y : bIdx (X.1 i) = 7
  · rw [if_pos y, if_pos rfl]
    exact ⟨_, S0, rfl, o27 o0, by rw [if_pos y]; exact ⟨rfl, p0⟩⟩
  · rw [if_neg y, if_neg n10]
    have hn := bIdx_7.mp y
    have him : i < m := by
      apply Classical.byContradiction
      intro q
      have := (hX.2.1 i).mpr (by omega)
      omega
    cases big with
    | true =>
      rw [if_neg (show ¬ (if true = true then (1 : Int32) else 0) = 0 by rw [if_pos rfl]; decide)]
      exact ⟨_, S4, rfl, o27 o4, by rw [if_neg y, if_pos (Or.inl rfl)]; exact ⟨rfl, p4⟩⟩
    | false =>
      rw [if_pos (show (if false = true then (1 : Int32) else 0) = 0 by rw [if_neg (by decide)])]
      have h7 : bIdx (X.1 i) < 7 := by rcases hn with q | q | q | q | q | q | q <;> rw [q] <;> decide
      have htq := ht (X.1 i) (by omega)
      by_cases v : 3 ≤ bIdx (X.1 i) ∧ toldL L (bIdx (X.1 i)) = true
      · have z : zm (S.1 2 7) (X.1 i) = true := htq.mpr ⟨v.1, h7, v.2⟩
        rw [if_neg (show ¬ ((S.1 2 7) >>> (nI (X.1 i) &&& 31)) &&& 1 = 0 from fun q => by rw [(m_sh0 (by omega)).mp q] at z; cases z)]
        exact ⟨_, S4, rfl, o27 o4, by rw [if_neg y, if_pos (Or.inr v)]; exact ⟨rfl, p4⟩⟩
      · have z : zm (S.1 2 7) (X.1 i) = false := by
          cases q : zm (S.1 2 7) (X.1 i) with
          | false => rfl
          | true => exact absurd ⟨(htq.mp q).1, (htq.mp q).2.2⟩ v
        rw [if_pos (show ((S.1 2 7) >>> (nI (X.1 i) &&& 31)) &&& 1 = 0 from (m_sh0 (by omega)).mpr z), eonce y, b1_q]
        by_cases a2 : 3 ≤ bIdx (X.1 i)
        · have st7 : stC X m 39 (zI S 2 7 (S.1 2 7 ||| (1 <<< (nI (X.1 i) &&& 31)))) i kk l := ⟨tkC_cg h.1 (fun a b _ _ => zI_ne (by omega)) (zI_eqn (by decide)), h.2.1, rdC_cg hr (fun b _ _ => zI_eqn (by omega)), by rw [zI_eqn (by decide)]; exact h.2.2.2.1, by rw [zI_eqn (by decide)]; exact h.2.2.2.2.1, h.2.2.2.2.2.1, by rw [zI_ne (by omega)]; exact h.2.2.2.2.2.2⟩
          obtain ⟨S2, e2, u1, u2, u3⟩ := st_next hC hX st7 him
          have e7 : S2.1 2 7 = S.1 2 7 ||| (1 <<< (nI (X.1 i) &&& 31)) := by rw [u2 _ _ (by omega), zI_eqs]
          rw [if_pos a2, if_neg n10, let_q, e2, b_q]
          refine ⟨_, S2, rfl, ⟨u1, fun a b x => by rw [u2 a b (by omega), zI_at, if_neg (by omega)]⟩, ?_⟩
          rw [if_neg y, if_neg (show ¬ (false = true ∨ 3 ≤ bIdx (X.1 i) ∧ toldL L (bIdx (X.1 i)) = true) from fun q => q.elim (by decide) v)]
          refine ⟨rfl, him, u3, fun c hc q hq => ?_⟩
          rw [e7, m_or_shl (by omega) (by omega), Bool.or_eq_true, ht q hq, decide_eq_true_iff, toldL_add, Bool.or_eq_true, hc, beq_iff_eq]
          constructor
          · rintro (⟨c1, c2, c3⟩ | rfl)
            · exact ⟨c1, c2, Or.inl c3⟩
            · exact ⟨a2, h7, Or.inr rfl⟩
          · rintro ⟨c1, c2, c3 | c3⟩
            · exact Or.inl ⟨c1, c2, c3⟩
            · right
              have g := bIdx_7.mp (show ¬ bIdx q = 7 by omega)
              clear e7 u1 u2 u3 e2 st7 z htq ht eonce eis p4 p0 e4' e0' o4 o0
              rcases hn with a | a | a | a | a | a | a <;> rcases g with b | b | b | b | b | b | b <;> rw [a, b] at c3 <;> first | exact absurd c3 (by decide) | rw [a, b]
        · obtain ⟨S2, e2, u1, u2, u3⟩ := st_next hC hX h him
          have e7 : S2.1 2 7 = S.1 2 7 := u2 _ _ (by omega)
          rw [if_neg a2, if_pos rfl, e2, b_q]
          refine ⟨_, S2, rfl, ⟨u1, fun a b x => u2 a b (by omega)⟩, ?_⟩
          rw [if_neg y, if_neg (show ¬ (false = true ∨ 3 ≤ bIdx (X.1 i) ∧ toldL L (bIdx (X.1 i)) = true) from fun q => q.elim (by decide) v)]
          refine ⟨rfl, him, u3, fun c hc q hq => ?_⟩
          rw [e7, ht q hq, toldL_add, Bool.or_eq_true, hc, beq_iff_eq]
          constructor
          · rintro ⟨c1, c2, c3⟩
            exact ⟨c1, c2, Or.inl c3⟩
          · rintro ⟨c1, c2, c3 | c3⟩
            · exact ⟨c1, c2, c3⟩
            · exact absurd c1 (by rw [← c3]; exact a2)
theorem c_bc (hC : cdT T 39) (hX : okX X m) (hw : X.2.2.2 = wB) (hL : ∀ i, X.1 i = 30 → X.2.1 i ≤ 7) {S : zS} {i kk l : Nat} {B : Bk} (h : cB X m S i kk l B) (big : Bool) (hb : big = false → B.2.length < 24) {x4 : Int32} : ∃ S1, fX6_readBook_b45 T 2 24 x4 (if big = true then 1 else 0) 2 S = fX6_readBook_b184 T 2 24 x4 S1 ∧ bcR X m S (bcS X B big i kk) S1 := by
  obtain ⟨hs, hl, hk60, hbk, htl⟩ := h
  obtain ⟨v, S0, e0, o0, r0⟩ := c_startB hC hX hw hs htl big
  unfold fX6_readBook_b45 bcS
  rw [e0, b_q]
  by_cases y : bIdx (X.1 i) = 7
  · rw [if_pos y] at r0
    rw [r0.1, if_neg (by decide), if_neg (by decide), if_neg (by decide), if_neg (by decide), if_neg (by decide), if_neg (by decide), if_neg (by decide), if_neg (by decide), if_neg (by decide), if_neg (by decide)]
    refine ⟨S0, rfl, fBc_7 o0, ?_⟩
    rw [if_pos y]
    exact r0.2
  · rw [if_neg y] at r0
    by_cases z : big = true ∨ 3 ≤ bIdx (X.1 i) ∧ toldL B.2 (bIdx (X.1 i)) = true
    · rw [if_pos z] at r0
      rw [r0.1, if_neg (by decide), if_neg (by decide), if_neg (by decide), if_neg (by decide), if_neg (by decide), if_neg (by decide), if_neg (by decide), if_neg (by decide), if_neg (by decide), if_neg (by decide)]
      refine ⟨S0, rfl, fBc_7 o0, ?_⟩
      rw [if_neg y, if_pos z]
      exact r0.2
    · rw [if_neg z] at r0
      obtain ⟨hv, him, st0, t0⟩ := r0
      have h24 : B.2.length < 24 := hb (by cases big with
        | false => rfl
        | true => exact absurd (Or.inl rfl) z)
      have b0 : bkC S0 24 B := bkC_cg (fun a b _ _ => o0.2 a b (by omega)) hbk
      have fin : ∀ {r : BR} {S1 : zS}, bcR X m S0 r S1 → bcR X m S r S1 := fun q => ⟨fBc_tr (fBc_7 o0) q.1, q.2⟩
      rw [if_neg y, if_neg z]
      obtain ⟨-, -, -, -, -, -, z12, z13, -⟩ := zT24 hC.1
      rcases bIdx_7.mp y with q | q | q | q | q | q | q
      · have hv' : v = 0 := by rw [hv, q]; rfl
        obtain ⟨S1, e1, r1⟩ := c_thing hC hX hL st0 (show l ≤ i + 1 by omega) hk60 b0 (fun c hc => t0 c (by rw [q, hc]; rfl))
        rw [hv', if_pos rfl, e1, b_q, if_pos q]
        exact ⟨S1, rfl, fin r1⟩
      · have hv' : v = 1 := by rw [hv, q]; rfl
        obtain ⟨S1, e1, r1⟩ := c_set hC hX hw hL st0 (show l ≤ i + 1 by omega) hk60 b0 h24 (fun c hc => t0 c (by rw [q, hc]; rfl))
        rw [hv', if_neg (by decide), if_pos rfl, e1, b_q, if_neg (by omega), if_pos q]
        exact ⟨S1, rfl, fin r1⟩
      · have hv' : v = 4 := by rw [hv, q]; rfl
        obtain ⟨S1, e1, r1⟩ := c_earn (kd := 2) (x := 0) hC hX hw st0 (show l ≤ i + 1 by omega) hk60 b0 h24 (Or.inr rfl) (fun c hc => t0 c (by rw [q, hc]; rfl))
        have e1' : fX6_readNeed T 2 24 S0 = some ((), S1) := by
          unfold fX6_readNeed
          rw [z13]
          exact e1
        rw [hv', if_neg (by decide), if_neg (by decide), if_neg (by decide), if_neg (by decide), if_pos rfl, e1', b_q, if_neg (by omega), if_neg (by omega), if_pos q]
        exact ⟨S1, rfl, fin r1⟩
      · have hv' : v = 5 := by rw [hv, q]; rfl
        obtain ⟨w, S1, e1, r1⟩ := c_once (low := 0) (top := 1000) (fld := 3) (idx := 3) hC hX st0 (show l ≤ i + 1 by omega) hk60 b0 (fun c hc => t0 c (by rw [q, hc]; rfl)) (by decide) (by decide) (by decide) (by decide)
        have e1' : fX6_number T 2 0 1000 S0 = some (w, S1) := e1
        rw [hv', if_neg (by decide), if_neg (by decide), if_neg (by decide), if_neg (by decide), if_neg (by decide), if_pos rfl, e1', b_q, let_q, if_neg (by omega), if_neg (by omega), if_neg (by omega), if_pos q]
        exact ⟨_, rfl, fin r1⟩
      · have hv' : v = 6 := by rw [hv, q]; rfl
        obtain ⟨S1, e1, r1⟩ := c_cous hC hX st0 (show l ≤ i + 1 by omega) hk60 b0 (fun c hc => t0 c (by rw [q, hc]; rfl))
        rw [hv', if_neg (by decide), if_neg (by decide), if_neg (by decide), if_neg (by decide), if_neg (by decide), if_neg (by decide), if_pos rfl, e1, b_q, if_neg (by omega), if_neg (by omega), if_neg (by omega), if_neg (by omega), if_pos q]
        exact ⟨S1, rfl, fin r1⟩
      · have hv' : v = 8 := by rw [hv, q]; rfl
        obtain ⟨w, S1, e1, r1⟩ := c_once (low := 0) (top := 9999) (fld := 2) (idx := 5) hC hX st0 (show l ≤ i + 1 by omega) hk60 b0 (fun c hc => t0 c (by rw [q, hc]; rfl)) (by decide) (by decide) (by decide) (by decide)
        have e1' : fX6_number T 2 0 9999 S0 = some (w, S1) := e1
        rw [hv', if_neg (by decide), if_neg (by decide), if_neg (by decide), if_neg (by decide), if_neg (by decide), if_neg (by decide), if_neg (by decide), if_neg (by decide), if_pos rfl, e1', b_q, let_q, if_neg (by omega), if_neg (by omega), if_neg (by omega), if_neg (by omega), if_neg (by omega), if_pos q]
        exact ⟨_, rfl, fin r1⟩
      · have hv' : v = 9 := by rw [hv, q]; rfl
        obtain ⟨w, S1, e1, r1⟩ := c_once (low := 1) (top := 60) (fld := 1) (idx := 6) hC hX st0 (show l ≤ i + 1 by omega) hk60 b0 (fun c hc => t0 c (by rw [q, hc]; rfl)) (by decide) (by decide) (by decide) (by decide)
        have e1' : fX6_number T 2 1 60 S0 = some (w, S1) := e1
        rw [hv', if_neg (by decide), if_neg (by decide), if_neg (by decide), if_neg (by decide), if_neg (by decide), if_neg (by decide), if_neg (by decide), if_neg (by decide), if_neg (by decide), if_pos rfl, e1', b_q, let_q, if_neg (by omega), if_neg (by omega), if_neg (by omega), if_neg (by omega), if_neg (by omega), if_neg (by omega)]
        exact ⟨_, rfl, fin r1⟩
end
