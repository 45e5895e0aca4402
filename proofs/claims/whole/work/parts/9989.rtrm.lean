/-! TERMS, SUMS, COMPARISONS, by the reference -/
theorem sgk_c {c : Nat} : (sgk c = 38 ↔ c = 42) ∧ (sgk c = 36 ↔ c = 43) ∧ (sgk c = 37 ↔ c = 45) ∧ (sgk c = 39 ↔ c = 47) ∧ (sgk c = 33 ↔ c = 59) ∧ (sgk c = 40 ↔ c = 60) ∧ (sgk c = 42 ↔ c = 61) ∧ (sgk c = 44 ↔ c = 62) ∧ (sgk c = 34 ↔ c = 91) ∧ (sgk c = 35 ↔ c = 93) := by
  unfold sgk
  refine ⟨?_, ?_, ?_, ?_, ?_, ?_, ?_, ?_, ?_, ?_⟩
  all_goals
    constructor
    · intro h
      repeat' split at h
      all_goals omega
    · intro h
      subst h
      decide
section
variable {T : zT} {u : Nat → Nat} {n s m : Nat} {w : Nat → Bool}
theorem tok_sg {p : Nat} (h : 33 ≤ (tok u n p).1 ∧ (tok u n p).1 ≤ 40 ∨ (tok u n p).1 = 42 ∨ (tok u n p).1 = 44) : p < n ∧ sgk (u p) = (tok u n p).1 ∧ (tok u n p).2.2 = p + 1 ∧ ¬ ((u p = 60 ∨ u p = 62) ∧ p + 1 < n ∧ u (p + 1) = 61) := by
  unfold tok at h ⊢
  by_cases a1 : n ≤ p
  · rw [if_pos a1] at h
    have h' : 33 ≤ 46 ∧ 46 ≤ 40 ∨ 46 = 42 ∨ 46 = 44 := h
    omega
  · rw [if_neg a1] at h ⊢
    by_cases a2 : isDg (u p) = true
    · rw [if_pos a2] at h
      by_cases a3 : rn isDg u n p - p ≤ 5
      · rw [if_pos a3] at h
        have h' : 33 ≤ 31 ∧ 31 ≤ 40 ∨ 31 = 42 ∨ 31 = 44 := h
        omega
      · rw [if_neg a3] at h
        have h' : 33 ≤ 32 ∧ 32 ≤ 40 ∨ 32 = 42 ∨ 32 = 44 := h
        omega
    · rw [if_neg a2] at h ⊢
      by_cases a3 : isLt (u p) = true
      · rw [if_pos a3] at h
        by_cases a4 : rn isLt u n p - p = 1 ∧ u p ≤ 104
        · rw [if_pos a4] at h
          have h' : 33 ≤ 30 ∧ 30 ≤ 40 ∨ 30 = 42 ∨ 30 = 44 := h
          omega
        · rw [if_neg a4] at h
          have h' : 33 ≤ twd u p (rn isLt u n p - p) ∧ twd u p (rn isLt u n p - p) ≤ 40 ∨ twd u p (rn isLt u n p - p) = 42 ∨ twd u p (rn isLt u n p - p) = 44 := h
          rcases twd_r (u := u) (i := p) (len := rn isLt u n p - p) with ⟨q, -⟩ | ⟨q, -⟩ <;> omega
      · rw [if_neg a3] at h ⊢
        by_cases a4 : (u p = 60 ∨ u p = 62) ∧ p + 1 < n ∧ u (p + 1) = 61
        · rw [if_pos a4] at h
          have h' : 33 ≤ (if u p = 60 then 41 else 43) ∧ (if u p = 60 then 41 else 43) ≤ 40 ∨ (if u p = 60 then 41 else 43) = 42 ∨ (if u p = 60 then 41 else 43) = 44 := h
          split at h' <;> omega
        · rw [if_neg a4]
          exact ⟨by omega, rfl, rfl, a4⟩
theorem tok_c {p : Nat} (hp : p < n) (h1 : ¬ isDg (u p) = true) (h2 : ¬ isLt (u p) = true) : tok u n p = if (u p = 60 ∨ u p = 62) ∧ p + 1 < n ∧ u (p + 1) = 61 then (if u p = 60 then 41 else 43, 0, p + 2) else (sgk (u p), 0, p + 1) := by
  unfold tok
  rw [if_neg (by omega), if_neg h1, if_neg h2]
theorem nd_c {c : Nat} (h : c < 48 ∨ 57 < c) : ¬ isDg c = true := fun q => by have := of_decide_eq_true q; omega
theorem nl_c {c : Nat} (h : c < 97 ∨ 122 < c) : ¬ isLt c = true := fun q => by have := of_decide_eq_true q; omega
/-- a sign of one byte stands here -/
theorem sg_iff {p c k : Nat} (hu : ∀ i, i < n → u i ≤ 255) (h : c = 42 ∧ k = 38 ∨ c = 43 ∧ k = 36 ∨ c = 45 ∧ k = 37 ∨ c = 47 ∧ k = 39 ∨ c = 59 ∧ k = 33 ∨ c = 61 ∧ k = 42 ∨ c = 91 ∧ k = 34 ∨ c = 93 ∧ k = 35) : (chI u n p = nI c) ↔ (tok u n p).1 = k := by
  rw [chI_eq hu (by omega)]
  obtain ⟨s1, s2, s3, s4, s5, s6, s7, s8, s9, s10⟩ := sgk_c (c := u p)
  constructor
  · rintro ⟨h1, h2⟩
    rw [tok_c h1 (nd_c (by omega)) (nl_c (by omega)), if_neg (by omega)]
    show sgk (u p) = k
    omega
  · intro q
    obtain ⟨t1, t2, -, -⟩ := tok_sg (u := u) (n := n) (p := p) (by omega)
    exact ⟨t1, by omega⟩
theorem stR_P {S S' : zS} {i e k p : Nat} (h : stR u n s m S i e k) (o : oP S S') (hp : S'.1 187 2 = nI p) (hn : p ≤ n) (hs : skp u n p = pl u n i) : stR u n s m S' i e k := ⟨ctR_o h.1 (oS_P o), h.2.1, ⟨p, hn, hp, hs⟩, by rw [o.2 _ _ (by omega)]; exact h.2.2.2.1, by rw [o.2 _ _ (by omega)]; exact h.2.2.2.2.1, by rw [o.2 _ _ (by omega)]; exact h.2.2.2.2.2⟩
theorem st_blanks (hT : iT T) {S : zS} {i e k : Nat} (h : stR u n s m S i e k) : ∃ S', fX12_blanks T 187 S = some ((), S') ∧ oP S S' ∧ S'.1 187 2 = nI (pl u n i) ∧ stR u n s m S' i e k := by
  obtain ⟨h1, h2, ⟨p, hp, ep, esk⟩, h3⟩ := id h
  have hn := h1.1.1
  obtain ⟨S1, e1, o1, p1⟩ := r_blanks hT h1.1 ep (by omega)
  rw [esk] at p1
  exact ⟨S1, e1, o1, p1, stR_P h o1 p1 (pl_le i) skp_pl⟩
theorem pr_blanks (hT : iT T) {S : zS} {F : Int32} {c : Nat} (hc : c ≤ 1000) (h : pfR u n s c S F) : ∃ S', fX12_blanks T 187 S = some ((), S') ∧ oP S S' ∧ pfR u n s c S' F := by
  obtain ⟨h1, ⟨p, hp, ep⟩, h3⟩ := id h
  have hn := h1.1.1
  obtain ⟨S1, e1, o1, p1⟩ := r_blanks hT h1.1 ep (by omega)
  exact ⟨S1, e1, o1, ctR_o h1 (oS_P o1), ⟨_, skp_le hp, p1⟩, by rw [o1.2 _ _ (by omega)]; exact h3⟩
/-- a step behind a sign of one byte, at exactly its place -/
theorem st_step {S : zS} {i e k : Nat} (h : stR u n s m S i e k) (hp : S.1 187 2 = nI (pl u n i)) (ht : (tok u n (pl u n i)).2.2 = pl u n i + 1) (hpn : pl u n i < n) (him : i < m) : stR u n s m (zI S 187 2 (nI (pl u n i + 1))) (i + 1) e k := by
  refine ⟨ctR_z h.1 (Or.inl rfl), him, ⟨pl u n i + 1, by omega, by rw [zI_eqs], ?_⟩, by rw [zI_eqn (by decide)]; exact h.2.2.2.1, by rw [zI_eqn (by decide)]; exact h.2.2.2.2.1, by rw [zI_eqn (by decide)]; exact h.2.2.2.2.2⟩
  rw [pl_S, ht]
theorem i_lt (hm : m ≤ n ∧ pl u n m = n ∧ ∀ i, i < m → pl u n i < n) {i : Nat} (h : pl u n i < n) : i < m := by
  apply Classical.byContradiction
  intro q
  have := pl_stay hm.2.1 (i - m)
  rw [show m + (i - m) = i by omega] at this
  omega
/-- values joined -/
theorem r_l8 (hT : iT T) (hw : okWs w s) (hn4 : n ≤ 400) (hm : m ≤ n ∧ pl u n m = n ∧ ∀ i, i < m → pl u n i < n) {S0 : zS} {e0 : Nat} : ∀ N S i k c i0 k0, m < N + i + 1 → oS s S0 S → stR u n s m S i (e0 + c.length) k → S.1 187 2 = nI (pl u n i) → wrR s S0 S e0 c → gS (tkX u n w) m i0 k0 i k c → 3 * e0 ≤ 6 * k0 + 400 → ∃ S', lp (fun a => fX12_term_l8 T 187 a) S = some S' ∧ resT u n s m S0 e0 (trmL (tkX u n w) N i k c) S' := by
  have hX := tkX_ok (w := w) hn4 (by rcases hw with ⟨-, q⟩ | ⟨-, q⟩ <;> simp [q]) hm
  have eK : ∀ i, (tkX u n w).1 i = (tok u n (pl u n i)).1 := fun i => rfl
  intro N
  induction N with
  | zero =>
    intro S i k c i0 k0 hN o h hp wr g he
    have hi : m ≤ i := by omega
    have hk46 := (hX.2.1 i).mpr hi
    rw [eK] at hk46
    have hu := txR_255 h.1.1
    have hple := pl_le (u := u) (n := n) i
    refine ⟨S, lp_stop ?_, o, h, hp, wr⟩
    unfold fX12_term_l8
    rw [if_pos h.2.2.2.1, r_sign hT h.1.1 hp (by have := h.1.1.1; omega), b1_q, b1_q, if_neg (show ¬ chI u n (pl u n i) = 42 from fun q => by have := (sg_iff hu (c := 42) (k := 38) (by omega)).mp q; omega), if_neg (show ¬ chI u n (pl u n i) = 47 from fun q => by have := (sg_iff hu (c := 47) (k := 39) (by omega)).mp q; omega)]
  | succ N ih =>
    intro S i k c i0 k0 hN o h hp wr g he
    have hu := txR_255 h.1.1
    have hn := h.1.1.1
    have hple := pl_le (u := u) (n := n) i
    have hsg := r_sign hT h.1.1 hp (by omega)
    have i42 := sg_iff (u := u) (n := n) (p := pl u n i) hu (c := 42) (k := 38) (by omega)
    have i47 := sg_iff (u := u) (n := n) (p := pl u n i) hu (c := 47) (k := 39) (by omega)
    obtain ⟨g1, g2, g3, g4, g5, g6, g7, g8⟩ := id g
    have el : fX12_term_l8 T 187 S = if (tok u n (pl u n i)).1 = 38 ∨ (tok u n (pl u n i)).1 = 39 then fX12_term_b33 T 187 S else some (.inr S) := by
      unfold fX12_term_l8
      rw [if_pos h.2.2.2.1, hsg, b1_q, b1_q]
      by_cases y : (tok u n (pl u n i)).1 = 38
      · rw [if_pos (show chI u n (pl u n i) = 42 from i42.mpr y), if_pos (Or.inl y)]
      · rw [if_neg (show ¬ chI u n (pl u n i) = 42 from fun q => y (i42.mp q))]
        by_cases z : (tok u n (pl u n i)).1 = 39
        · rw [if_pos (show chI u n (pl u n i) = 47 from i47.mpr z), if_pos (Or.inr z)]
        · rw [if_neg (show ¬ chI u n (pl u n i) = 47 from fun q => z (i47.mp q)), if_neg (fun q => q.elim y z)]
    unfold trmL
    rw [eK]
    by_cases y : (tok u n (pl u n i)).1 = 38 ∨ (tok u n (pl u n i)).1 = 39
    · rw [if_pos y] at el ⊢
      obtain ⟨t1, t2, t3, t4⟩ := tok_sg (u := u) (n := n) (p := pl u n i) (by omega)
      have him := i_lt hm t1
      have st1 := st_step h hp t3 t1 him
      have elen : (e0 + c.length) < 300 := by omega
      obtain ⟨S2, e2, o2, r2⟩ := r_value hT hw hn4 st1 g4 elen hm
      have eb : fX12_term_b33 T 187 S = zb (fX12_entry T 187 (nI (rk (tok u n (pl u n i)).1)) 0 S2) fun _ S20 => zb (fX12_blanks T 187 S20) fun _ S23 => some (.inl S23) := by
        unfold fX12_term_b33 fX12_term_b49
        rw [hsg, b1_q, hp, n_addL]
        simp only [let_q]
        rcases y with y | y
        · rw [if_pos (show chI u n (pl u n i) = 42 from i42.mpr y), e2, b_q, y]; rfl
        · rw [if_neg (show ¬ chI u n (pl u n i) = 42 from fun q => by have := i42.mp q; omega), e2, b_q, y]; rfl
      rw [eb] at el
      have ov := oS_tr o (oS_tr (oS_z (s := s) (b := 2) (by omega) (x := nI (pl u n i + 1))) o2)
      cases hv : valS (tkX u n w) (i + 1) k with
      | inl f =>
        rw [hv] at r2
        have hF := flt_ok (okF_val hX hv)
        obtain ⟨S3, e3, o3, p3⟩ := pr_blanks hT (by decide) r2
        rw [pr_entry hF r2, b_q, e3, b_q] at el
        refine ⟨S3, lp_go el (lp_stop ?_), oS_tr ov (oS_P o3), p3⟩
        unfold fX12_term_l8
        rw [p3.2.2, if_neg hF]
      | inr p =>
        obtain ⟨j, k', c'⟩ := p
        obtain ⟨⟨a1, a2, a3, a4, a5, a6, a7, a8⟩, aj⟩ := gS_val hX hv
        rw [hv] at r2
        obtain ⟨s2, w2⟩ := r2
        have s2' : stR u n s m S2 j (e0 + c.length + c'.length) k' := s2
        obtain ⟨S3, e3, o3, b3, c3, w3⟩ := r_entry0 hT s2'.1 s2'.2.2.2.1 s2'.2.2.2.2.1 (by omega) (p := ((tok u n (pl u n i)).1, 0)) (x := nI (rk (tok u n (pl u n i)).1)) (y := 0) rfl (fun q => by have q' : (tok u n (pl u n i)).1 = 31 := q; omega) (fun q => by have q' : (tok u n (pl u n i)).1 = 47 := q; omega)
        have hlen : e0 + (c ++ (c' ++ [((tok u n (pl u n i)).1, 0)])).length = e0 + c.length + c'.length + 1 := by
          rw [List.length_append, List.length_append]; show e0 + (_ + (_ + 1)) = _; omega
        have s3 : stR u n s m S3 j (e0 + (c ++ (c' ++ [((tok u n (pl u n i)).1, 0)])).length) k' := ⟨ctR_o s2'.1 o3, s2'.2.1, by rw [b3 _ (by decide)]; exact s2'.2.2.1, by rw [b3 _ (by decide)]; exact s2'.2.2.2.1, by rw [hlen]; exact c3, by rw [b3 _ (by decide)]; exact s2'.2.2.2.2.2⟩
        obtain ⟨S4, e4, o4, p4, s4⟩ := st_blanks hT s3
        rw [e3, b_q, e4, b_q] at el
        have wz : wrR s (zI S 187 2 (nI (pl u n i + 1))) S2 (e0 + c.length) c' := w2
        have w2' : wrR s S S2 (e0 + c.length) c' := wrR_cg0 wz (fun a b q => zI_ne (by omega))
        have wt := wrR_cg (wrR_app wr (wrR_app w2' w3)) (S2 := S4) (fun a b q => o4.2 a b (by omega))
        have gg : gS (tkX u n w) m i0 k0 j k' (c ++ (c' ++ [((tok u n (pl u n i)).1, 0)])) := by
          refine ⟨by omega, a2, by omega, a4, isS_op (by omega) g5 a5, ?_, ?_, ?_⟩
          · rw [List.length_append, List.length_append]; show _ + (_ + 1) + 1 ≤ _; omega
          · rw [List.length_append, List.length_append]; show _ + (_ + 1) ≤ _; omega
          · rw [nvs_app, nvs_app, nvs_op (by omega)]; omega
        obtain ⟨S5, e5, r5⟩ := ih S4 j k' _ i0 k0 (by omega) (oS_tr ov (oS_tr o3 (oS_P o4))) s4 p4 wt gg he
        exact ⟨S5, lp_go el e5, r5⟩
    · rw [if_neg y] at el ⊢
      exact ⟨S, lp_stop el, o, h, hp, wr⟩
theorem r_term (hT : iT T) (hw : okWs w s) (hn4 : n ≤ 400) (hm : m ≤ n ∧ pl u n m = n ∧ ∀ i, i < m → pl u n i < n) {S : zS} {i e k : Nat} (h : stR u n s m S i e k) (hk : k ≤ 60) (he : 3 * e ≤ 6 * k + 400) : ∃ S', fX12_term T 187 S = some ((), S') ∧ resT u n s m S e (trmS (tkX u n w) i k) S' := by
  have hX := tkX_ok (w := w) hn4 (by rcases hw with ⟨-, q⟩ | ⟨-, q⟩ <;> simp [q]) hm
  obtain ⟨S1, e1, o1, r1⟩ := r_value hT hw hn4 h hk (by omega) hm
  unfold fX12_term fX12_term_b77 trmS
  rw [e1, b_q]
  cases hv : valS (tkX u n w) i k with
  | inl f =>
    rw [hv] at r1
    have hF := flt_ok (okF_val hX hv)
    obtain ⟨S2, e2, o2, p2⟩ := pr_blanks hT (by decide) r1
    have el : lp (fun a => fX12_term_l8 T 187 a) S2 = some S2 := by
      refine lp_stop ?_
      unfold fX12_term_l8
      rw [p2.2.2, if_neg hF]
    rw [e2, b_q, el, b1_q]
    exact ⟨S2, rfl, oS_tr o1 (oS_P o2), p2⟩
  | inr p =>
    obtain ⟨j, k', c⟩ := p
    obtain ⟨g, gj⟩ := gS_val hX hv
    rw [hv] at r1
    obtain ⟨s1, w1⟩ := r1
    obtain ⟨S2, e2, o2, p2, s2⟩ := st_blanks hT s1
    obtain ⟨S3, e3, r3⟩ := r_l8 hT hw hn4 hm (S0 := S) (e0 := e) 400 S2 j k' c i k (by omega) (oS_tr o1 (oS_P o2)) s2 p2 (wrR_cg w1 (fun a b q => o2.2 a b (by omega))) g he
    rw [e2, b_q, e3, b1_q]
    exact ⟨S3, rfl, r3⟩
theorem pr_term (hT : iT T) (hw : okWs w s) {S : zS} {F : Int32} (hF : ¬ F = 0) (h : pfR u n s 0 S F) : ∃ S', fX12_term T 187 S = some ((), S') ∧ oS s S S' ∧ pfR u n s 0 S' F := by
  obtain ⟨S1, e1, o1, p1⟩ := pr_value hT hw hF h
  obtain ⟨S2, e2, o2, p2⟩ := pr_blanks hT (by decide) p1
  have el : lp (fun a => fX12_term_l8 T 187 a) S2 = some S2 := by
    refine lp_stop ?_
    unfold fX12_term_l8
    rw [p2.2.2, if_neg hF]
  unfold fX12_term fX12_term_b77
  rw [e1, b_q, e2, b_q, el, b1_q]
  exact ⟨S2, rfl, oS_tr o1 (oS_P o2), p2⟩
theorem pr_sum (hT : iT T) (hw : okWs w s) {S : zS} {F : Int32} (hF : ¬ F = 0) (h : pfR u n s 0 S F) : ∃ S', fX12_sum T 187 S = some ((), S') ∧ oS s S S' ∧ pfR u n s 0 S' F := by
  obtain ⟨S1, e1, o1, p1⟩ := pr_term hT hw hF h
  have el : lp (fun a => fX12_sum_l4 T 187 a) S1 = some S1 := by
    refine lp_stop ?_
    unfold fX12_sum_l4
    rw [p1.2.2, if_neg hF]
  unfold fX12_sum fX12_sum_b67
  rw [e1, b_q, el, b1_q]
  exact ⟨S1, rfl, o1, p1⟩
def tailS (X : TK) (N j k : Nat) (c : List (Nat × Nat)) : PR := if X.1 j = 36 ∨ X.1 j = 37 then sumJ X N (X.1 j) (j + 1) k c else .inr (j, k, c)
theorem r_l4 (hT : iT T) (hw : okWs w s) (hn4 : n ≤ 400) (hm : m ≤ n ∧ pl u n m = n ∧ ∀ i, i < m → pl u n i < n) {S0 : zS} {e0 : Nat} : ∀ N S i k c i0 k0, m < N + i + 1 → oS s S0 S → stR u n s m S i (e0 + c.length) k → S.1 187 2 = nI (pl u n i) → wrR s S0 S e0 c → gS (tkX u n w) m i0 k0 i k c → 3 * e0 ≤ 6 * k0 + 400 → ∃ S', lp (fun a => fX12_sum_l4 T 187 a) S = some S' ∧ resT u n s m S0 e0 (tailS (tkX u n w) N i k c) S' := by
  have hX := tkX_ok (w := w) hn4 (by rcases hw with ⟨-, q⟩ | ⟨-, q⟩ <;> simp [q]) hm
  have eK : ∀ i, (tkX u n w).1 i = (tok u n (pl u n i)).1 := fun i => rfl
  intro N
  induction N with
  | zero =>
    intro S i k c i0 k0 hN o h hp wr g he
    have hi : m ≤ i := by omega
    have hk46 := (hX.2.1 i).mpr hi
    have hu := txR_255 h.1.1
    have hple := pl_le (u := u) (n := n) i
    unfold tailS
    rw [if_neg (by omega)]
    rw [eK] at hk46
    refine ⟨S, lp_stop ?_, o, h, hp, wr⟩
    unfold fX12_sum_l4
    rw [if_pos h.2.2.2.1, r_sign hT h.1.1 hp (by have := h.1.1.1; omega), b1_q, b1_q, if_neg (show ¬ chI u n (pl u n i) = 43 from fun q => by have := (sg_iff hu (c := 43) (k := 36) (by omega)).mp q; omega), if_neg (show ¬ chI u n (pl u n i) = 45 from fun q => by have := (sg_iff hu (c := 45) (k := 37) (by omega)).mp q; omega)]
  | succ N ih =>
    intro S i k c i0 k0 hN o h hp wr g he
    have hu := txR_255 h.1.1
    have hn := h.1.1.1
    have hple := pl_le (u := u) (n := n) i
    have hsg := r_sign hT h.1.1 hp (by omega)
    have i43 := sg_iff (u := u) (n := n) (p := pl u n i) hu (c := 43) (k := 36) (by omega)
    have i45 := sg_iff (u := u) (n := n) (p := pl u n i) hu (c := 45) (k := 37) (by omega)
    obtain ⟨g1, g2, g3, g4, g5, g6, g7, g8⟩ := id g
    have el : fX12_sum_l4 T 187 S = if (tok u n (pl u n i)).1 = 36 ∨ (tok u n (pl u n i)).1 = 37 then fX12_sum_b29 T 187 S else some (.inr S) := by
      unfold fX12_sum_l4
      rw [if_pos h.2.2.2.1, hsg, b1_q, b1_q]
      by_cases y : (tok u n (pl u n i)).1 = 36
      · rw [if_pos (show chI u n (pl u n i) = 43 from i43.mpr y), if_pos (Or.inl y)]
      · rw [if_neg (show ¬ chI u n (pl u n i) = 43 from fun q => y (i43.mp q))]
        by_cases z : (tok u n (pl u n i)).1 = 37
        · rw [if_pos (show chI u n (pl u n i) = 45 from i45.mpr z), if_pos (Or.inr z)]
        · rw [if_neg (show ¬ chI u n (pl u n i) = 45 from fun q => z (i45.mp q)), if_neg (fun q => q.elim y z)]
    unfold tailS
    rw [eK]
    by_cases y : (tok u n (pl u n i)).1 = 36 ∨ (tok u n (pl u n i)).1 = 37
    · rw [if_pos y] at el ⊢
      obtain ⟨t1, t2, t3, t4⟩ := tok_sg (u := u) (n := n) (p := pl u n i) (by omega)
      have him := i_lt hm t1
      have st1 := st_step h hp t3 t1 him
      obtain ⟨S2, e2, o2, r2⟩ := r_term hT hw hn4 hm st1 g4 (by omega)
      have eb : fX12_sum_b29 T 187 S = zb (fX12_entry T 187 (nI (rk (tok u n (pl u n i)).1)) 0 S2) fun _ S17 => some (.inl S17) := by
        unfold fX12_sum_b29 fX12_sum_b43
        rw [hsg, b1_q, hp, n_addL]
        simp only [let_q]
        rcases y with y | y
        · rw [if_pos (show chI u n (pl u n i) = 43 from i43.mpr y), e2, b_q, y]; rfl
        · rw [if_neg (show ¬ chI u n (pl u n i) = 43 from fun q => by have := i43.mp q; omega), e2, b_q, y]; rfl
      rw [eb] at el
      have ov := oS_tr o (oS_tr (oS_z (s := s) (b := 2) (by omega) (x := nI (pl u n i + 1))) o2)
      unfold sumJ
      cases hv : trmS (tkX u n w) (i + 1) k with
      | inl f =>
        rw [hv] at r2
        have hF := flt_ok (okF_trm hX hv)
        rw [pr_entry hF r2, b_q] at el
        refine ⟨S2, lp_go el (lp_stop ?_), ov, r2⟩
        unfold fX12_sum_l4
        have r2' : S2.1 187 3 = flt f := r2.2.2
        rw [r2', if_neg hF]
      | inr p =>
        obtain ⟨j, k', c'⟩ := p
        obtain ⟨a1, a2, a3, a4, a5, a6, a7, a8⟩ := gS_trm hX hv
        rw [hv] at r2
        obtain ⟨s2, p2, w2⟩ := r2
        have s2' : stR u n s m S2 j (e0 + c.length + c'.length) k' := s2
        obtain ⟨S3, e3, o3, b3, c3, w3⟩ := r_entry0 hT s2'.1 s2'.2.2.2.1 s2'.2.2.2.2.1 (by omega) (p := ((tok u n (pl u n i)).1, 0)) (x := nI (rk (tok u n (pl u n i)).1)) (y := 0) rfl (fun q => by have q' : (tok u n (pl u n i)).1 = 31 := q; omega) (fun q => by have q' : (tok u n (pl u n i)).1 = 47 := q; omega)
        have hlen : e0 + (c ++ (c' ++ [((tok u n (pl u n i)).1, 0)])).length = e0 + c.length + c'.length + 1 := by
          rw [List.length_append, List.length_append]; show e0 + (_ + (_ + 1)) = _; omega
        have s3 : stR u n s m S3 j (e0 + (c ++ (c' ++ [((tok u n (pl u n i)).1, 0)])).length) k' := ⟨ctR_o s2'.1 o3, s2'.2.1, by rw [b3 _ (by decide)]; exact s2'.2.2.1, by rw [b3 _ (by decide)]; exact s2'.2.2.2.1, by rw [hlen]; exact c3, by rw [b3 _ (by decide)]; exact s2'.2.2.2.2.2⟩
        rw [e3, b_q] at el
        have wz : wrR s (zI S 187 2 (nI (pl u n i + 1))) S2 (e0 + c.length) c' := w2
        have w2' : wrR s S S2 (e0 + c.length) c' := wrR_cg0 wz (fun a b q => zI_ne (by omega))
        have wt := wrR_app wr (wrR_app w2' w3)
        have gg : gS (tkX u n w) m i0 k0 j k' (c ++ (c' ++ [((tok u n (pl u n i)).1, 0)])) := by
          refine ⟨by omega, a2, by omega, a4, isS_op (by omega) g5 a5, ?_, ?_, ?_⟩
          · rw [List.length_append, List.length_append]; show _ + (_ + 1) + 1 ≤ _; omega
          · rw [List.length_append, List.length_append]; show _ + (_ + 1) ≤ _; omega
          · rw [nvs_app, nvs_app, nvs_op (by omega)]; omega
        obtain ⟨S5, e5, r5⟩ := ih S3 j k' _ i0 k0 (by omega) (oS_tr ov o3) s3 (by rw [b3 _ (by decide)]; exact p2) wt gg he
        have ej : jnC (tok u n (pl u n i)).1 c' = c' ++ [((tok u n (pl u n i)).1, 0)] := if_neg (by omega)
        refine ⟨S5, lp_go el e5, ?_⟩
        show resT u n s m S0 e0 (if (tkX u n w).1 j = 36 ∨ (tkX u n w).1 j = 37 then sumJ (tkX u n w) N ((tkX u n w).1 j) (j + 1) k' (c ++ jnC (tok u n (pl u n i)).1 c') else .inr (j, k', c ++ jnC (tok u n (pl u n i)).1 c')) S5
        rw [ej]
        exact r5
    · rw [if_neg y] at el ⊢
      exact ⟨S, lp_stop el, o, h, hp, wr⟩
theorem r_sum (hT : iT T) (hw : okWs w s) (hn4 : n ≤ 400) (hm : m ≤ n ∧ pl u n m = n ∧ ∀ i, i < m → pl u n i < n) {S : zS} {i e k : Nat} (h : stR u n s m S i e k) (hk : k ≤ 60) (he : 3 * e ≤ 6 * k + 400) : ∃ S', fX12_sum T 187 S = some ((), S') ∧ resT u n s m S e (sumS (tkX u n w) i k) S' := by
  have hX := tkX_ok (w := w) hn4 (by rcases hw with ⟨-, q⟩ | ⟨-, q⟩ <;> simp [q]) hm
  obtain ⟨S1, e1, o1, r1⟩ := r_term hT hw hn4 hm h hk he
  have es : sumS (tkX u n w) i k = prB (trmS (tkX u n w) i k) (fun j k' c' => tailS (tkX u n w) 399 j k' ([] ++ jnC 48 c')) := rfl
  unfold fX12_sum fX12_sum_b67
  rw [e1, b_q, es]
  cases hv : trmS (tkX u n w) i k with
  | inl f =>
    rw [hv] at r1
    have hF := flt_ok (okF_trm hX hv)
    have el : lp (fun a => fX12_sum_l4 T 187 a) S1 = some S1 := by
      refine lp_stop ?_
      unfold fX12_sum_l4
      have r1' : S1.1 187 3 = flt f := r1.2.2
      rw [r1', if_neg hF]
    rw [el, b1_q]
    exact ⟨S1, rfl, o1, r1⟩
  | inr p =>
    obtain ⟨j, k', c⟩ := p
    have g := gS_trm hX hv
    rw [hv] at r1
    obtain ⟨s1, p1, w1⟩ := r1
    have g1 := g.1
    obtain ⟨S3, e3, r3⟩ := r_l4 hT hw hn4 hm (S0 := S) (e0 := e) 399 S1 j k' c i k (by have := hm.1; omega) o1 s1 p1 w1 g he
    rw [e3, b1_q]
    exact ⟨S3, rfl, r3⟩
end
