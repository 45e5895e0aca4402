/-! VALUES, SUMS, by the class -/
section
variable {T : zT} {X : TK} {m kc : Nat}
theorem nI_eqL {a : Nat} {x : Int32} {n : Nat} (hx : x = nI n) (ha : a < 2147483648) (hn : n < 2147483648) : (nI a = x) = (a = n) := by rw [hx, n_eq ha hn]
/-- a value, or not, after a fault -/
theorem pf_value (hC : cdT T kc) (hX : okX X m) {S : zS} {F : Int32} (hF : ¬ F = 0) (h : pfC X m kc S F) : ∃ S', fX6_readValue T 2 S = some ((), S') ∧ oC kc S S' ∧ pfC X m kc S' F := by
  obtain ⟨h1, ⟨i, hi, hr⟩, h3, l, h4, h5⟩ := id h
  have h9 := hC.2.1
  have b41 : ∃ S', fX6_readValue_b41 T 2 S = some ((), S') ∧ oC kc S S' ∧ pfC X m kc S' F := by
    unfold fX6_readValue_b41 fX6_readValue_b88 fX6_readValue_b115
    by_cases y : S.1 2 6 < 60
    · obtain ⟨p6, o6⟩ := pf_6 hC.2.2.2 (x := S.1 2 6 + 1) h
      have go : ∀ (x y : Int32), ∃ S', fX6_readValue_b108 T 2 x y kc (zI S 2 6 (S.1 2 6 + 1)) = some ((), S') ∧ oC kc S S' ∧ pfC X m kc S' F := by
        intro x y
        obtain ⟨S1, e1, q1, q2⟩ := pf_add hC p6 y x
        obtain ⟨S2, e2, q3, q4⟩ := pf_next hC hX q2
        unfold fX6_readValue_b108 fX6_readValue_b115
        rw [e1, b_q, e2, b_q]
        exact ⟨S2, rfl, oC_tr o6 (oC_tr q1 q3), q4⟩
      rw [if_pos y, let_q, h9]
      by_cases z : (zI S 2 6 (S.1 2 6 + 1)).1 2 2 = 31
      · rw [if_pos z, if_pos z]; exact go _ _
      · rw [if_neg z, if_neg z]; exact go _ _
    · rw [if_neg y, pf_fail hF h, b_q]
      exact ⟨S, rfl, oC_refl, h⟩
  unfold fX6_readValue fX6_readValue_b115
  by_cases y : S.1 2 2 = 32
  · rw [if_pos y, pf_fail hF h, b_q]
    exact ⟨S, rfl, oC_refl, h⟩
  · rw [if_neg y]
    by_cases z : S.1 2 2 = 31
    · rw [if_pos z]; exact b41
    · rw [if_neg z, c_isVal hX hr h1.2, b1_q]
      by_cases v : X.2.2.2 (X.1 i) = true
      · rw [if_pos v, if_neg n10]; exact b41
      · rw [if_neg v, if_pos rfl, pf_fail hF h, b_q]
        exact ⟨S, rfl, oC_refl, h⟩
/-- a fault at token i -/
theorem st_fail {S : zS} {i k l : Nat} (h : stC X m kc S i k l) (hk : 7 ≤ kc) (s : Nat) : ∃ S', fX6_fail T 2 (nI s) S = some ((), S') ∧ oC kc S S' ∧ pfC X m kc S' (flt (s, X.2.2.1 i)) := by
  obtain ⟨h1, h2, h3, h4, h5, h6, h7⟩ := h
  obtain ⟨S', e, q1, q2, q3⟩ := c_fail0 (T := T) (s := s) h3 h4
  exact ⟨S', e, ⟨q1, fun a b n _ _ => q2 a b (by omega)⟩, tkC_cg h1 (fun a b _ _ => q2 a b (by omega)) (q2 2 8 (by omega)), ⟨i, h2, rdC_cg h3 (fun b _ _ => q2 2 b (by omega))⟩, q3, l, h6, by rw [q2 _ _ (by omega)]; exact h7⟩
theorem st_next (hC : cdT T kc) (hX : okX X m) {S : zS} {i k l : Nat} (h : stC X m kc S i k l) (him : i < m) : ∃ S', fX6_next T 2 S = some ((), S') ∧ S'.2 = S.2 ∧ (∀ a b, ¬ (a = 2 ∧ 1 ≤ b ∧ b ≤ 4) → S'.1 a b = S.1 a b) ∧ stC X m kc S' (i + 1) k l := by
  obtain ⟨h1, h2, h3, h4, h5, h6, h7⟩ := h
  have hk := hC.2.2.2
  obtain ⟨S', e, q1, q2, q3⟩ := c_next hC hX h1 h2 h3
  rw [if_neg (show ¬ X.1 i = 46 from fun q => by have := (hX.2.1 i).mp q; omega)] at q3
  exact ⟨S', e, q1, q2, tkC_cg h1 (fun a b _ _ => q2 a b (by omega)) (q2 2 8 (by omega)), by omega, q3, by rw [q2 _ _ (by omega)]; exact h4, by rw [q2 _ _ (by omega)]; exact h5, h6, by rw [q2 _ _ (by omega)]; exact h7⟩
theorem wr_next {S S' S'' : zS} {l : Nat} {c : List (Nat × Nat)} (hk : 7 ≤ kc) (q : ∀ a b, ¬ (a = 2 ∧ 1 ≤ b ∧ b ≤ 4) → S''.1 a b = S'.1 a b) (h : wrC kc S S' l c) : wrC kc S S'' l c := wrC_cg h (fun b => q _ _ (by omega)) (q _ _ (by omega))
theorem st_add (hC : cdT T kc) {S : zS} {i k l : Nat} (h : stC X m kc S i k l) (hl : l < 512) (a b : Nat) : ∃ S', fX2_add T kc (nI a) (nI b) S = some ((), S') ∧ oC kc S S' ∧ stC X m kc S' i k (l + 1) ∧ wrC kc S S' l [(a, b)] := by
  obtain ⟨h1, h2, h3, h4, h5, h6, h7⟩ := h
  obtain ⟨S', e, q1, q2, l', q3, q4, q5⟩ := c_add hC h7 h6 (x := nI a) (y := nI b)
  obtain ⟨q6, q7⟩ := q5 hl
  subst q6
  exact ⟨S', e, q1, ⟨tkC_o h1 hC.2.2.2 q1, h2, rdC_cg h3 (fun b _ _ => q2 b), (q2 5).trans h4, (q2 6).trans h5, q3, q4⟩, q7 a b rfl rfl⟩
theorem oC_14 {S S' : zS} (q1 : S'.2 = S.2) (q : ∀ a b, ¬ (a = 2 ∧ 1 ≤ b ∧ b ≤ 4) → S'.1 a b = S.1 a b) : oC kc S S' := ⟨q1, fun a b n _ _ => q a b (by omega)⟩
theorem c_value (hC : cdT T kc) (hX : okX X m) {S : zS} {i k l : Nat} (h : stC X m kc S i k l) (hk60 : k ≤ 60) (hl : l < 512) : ∃ S', fX6_readValue T 2 S = some ((), S') ∧ resC X m kc S l (valS X i k) S' := by
  obtain ⟨h1, h2, h3, h4, h5, h6, h7⟩ := id h
  have hk := hC.2.2.2
  have h9 := hC.2.1
  have hb := hX.2.2.2.2.2.2.2 i
  have e32 : (nI (X.1 i) = 32) = (X.1 i = 32) := nI_eqL (show (32 : Int32) = nI 32 from rfl) (by omega) (by decide)
  have e31 : (nI (X.1 i) = 31) = (X.1 i = 31) := nI_eqL (show (31 : Int32) = nI 31 from rfl) (by omega) (by decide)
  have b41 : ¬ X.1 i = 32 → X.1 i = 31 ∨ X.2.2.2 (X.1 i) = true → ∃ S', fX6_readValue_b41 T 2 S = some ((), S') ∧ resC X m kc S l (valS X i k) S' := by
    intro n32 hv
    have hvs : valS X i k = if 60 ≤ k then .inl (3, X.2.2.1 i) else .inr (i + 1, k + 1, [vlE X i]) := by
      unfold valS
      rw [if_neg n32, if_pos hv]
    unfold fX6_readValue_b41 fX6_readValue_b88 fX6_readValue_b108 fX6_readValue_b115
    rw [h5, hvs]
    by_cases y : 60 ≤ k
    · obtain ⟨S', e, q1, q2⟩ := st_fail (T := T) h hk 3
      have e' : fX6_fail T 2 3 S = some ((), S') := e
      rw [if_neg (show ¬ nI k < 60 by rw [show (60 : Int32) = nI 60 from rfl, n_lt (by omega) (by omega)]; omega), e', b_q, if_pos y]
      exact ⟨S', rfl, q1, q2⟩
    · rw [if_pos (show nI k < 60 by rw [show (60 : Int32) = nI 60 from rfl, n_lt (by omega) (by omega)]; omega), let_q, n_addL, if_neg y, h9]
      have st6 : stC X m kc (zI S 2 6 (nI (k + 1))) i (k + 1) l := ⟨tkC_cg h1 (fun a b _ _ => zI_ne (by omega)) (zI_eqn (by decide)), h2, rdC_cg h3 (fun b _ _ => zI_eqn (by omega)), (zI_eqn (by decide)).trans h4, zI_eqs, h6, (zI_ne (by omega)).trans h7⟩
      have o6 : oC kc S (zI S 2 6 (nI (k + 1))) := ⟨rfl, fun a b n _ _ => by rw [zI_at, if_neg (by omega)]⟩
      have him : i < m := by
        apply Classical.byContradiction
        intro q
        have h46 := (hX.2.1 i).mpr (by omega)
        rcases hv with hv | hv
        · omega
        · have := w_lt hX hv; omega
      obtain ⟨g1, g2, g3, g4⟩ := st6.2.2.1
      have go : ∀ a b, vlE X i = (a, b) → ∃ S', (zb (fX2_add T kc (nI a) (nI b) (zI S 2 6 (nI (k + 1)))) fun _ S9 => zb (fX6_next T 2 S9) fun _ S12 => some ((), S12)) = some ((), S') ∧ resC X m kc S l (.inr (i + 1, k + 1, [vlE X i])) S' := by
        intro a b hab
        obtain ⟨S1, e1, q1, q2, q3⟩ := st_add hC st6 hl a b
        obtain ⟨S2, e2, u1, u2, u3⟩ := st_next hC hX q2 him
        rw [e1, b_q, e2, b_q]
        refine ⟨S2, rfl, oC_tr o6 (oC_tr q1 (oC_14 u1 u2)), u3, ?_⟩
        have w1 : wrC kc (zI S 2 6 (nI (k + 1))) S2 l [vlE X i] := by rw [hab]; exact wr_next hk u2 q3
        refine ⟨fun b hb => (w1.1 b hb).trans (zI_ne (by omega)), w1.2.1, fun q hq => w1.2.2.1 q (by rw [zI_ne (by omega)]; exact hq), w1.2.2.2⟩
      rw [g2, g3]
      by_cases z : X.1 i = 31
      · rw [if_pos (show nI (X.1 i) = 31 by rw [e31]; exact z), if_pos (show nI (X.1 i) = 31 by rw [e31]; exact z)]
        exact go 31 (X.2.1 i) (by unfold vlE; rw [if_pos z])
      · rw [if_neg (show ¬ nI (X.1 i) = 31 by rw [e31]; exact z), if_neg (show ¬ nI (X.1 i) = 31 by rw [e31]; exact z)]
        exact go 47 (X.1 i) (by unfold vlE; rw [if_neg z])
  unfold fX6_readValue fX6_readValue_b115
  rw [h3.2.1, c_isVal hX h3 h1.2]
  by_cases y : X.1 i = 32
  · obtain ⟨S', e, q1, q2⟩ := st_fail (T := T) h hk 1
    have e' : fX6_fail T 2 1 S = some ((), S') := e
    rw [if_pos (show nI (X.1 i) = 32 by rw [e32]; exact y), e', b_q]
    have hvs : valS X i k = .inl (1, X.2.2.1 i) := by unfold valS; rw [if_pos y]
    rw [hvs]
    exact ⟨S', rfl, q1, q2⟩
  · rw [if_neg (show ¬ nI (X.1 i) = 32 by rw [e32]; exact y)]
    by_cases z : X.1 i = 31
    · rw [if_pos (show nI (X.1 i) = 31 by rw [e31]; exact z)]; exact b41 y (Or.inl z)
    · rw [if_neg (show ¬ nI (X.1 i) = 31 by rw [e31]; exact z), b1_q]
      by_cases v : X.2.2.2 (X.1 i) = true
      · rw [if_pos v, if_neg n10]; exact b41 y (Or.inr v)
      · obtain ⟨S', e, q1, q2⟩ := st_fail (T := T) h hk 0
        have e' : fX6_fail T 2 0 S = some ((), S') := e
        rw [if_neg v, if_pos rfl, e', b_q]
        have hvs : valS X i k = .inl (0, X.2.2.1 i) := by unfold valS; rw [if_neg y, if_neg (fun q => q.elim z v)]
        rw [hvs]
        exact ⟨S', rfl, q1, q2⟩
def okF (e : Nat × Nat) : Prop := e.1 ≤ 5 ∧ e.2 ≤ 400
theorem flt_ok {e : Nat × Nat} (h : okF e) : ¬ flt e = 0 := flt_0 h.2 (by have := h.1; omega)
theorem okF_val (hX : okX X m) {i k : Nat} {e : Nat × Nat} (h : valS X i k = .inl e) : okF e := by
  unfold valS at h
  have hp := hX.2.2.2.2.1 i
  by_cases a1 : X.1 i = 32
  · rw [if_pos a1] at h
    rw [← Sum.inl.inj h]; exact ⟨by show 1 ≤ 5; decide, hp⟩
  · rw [if_neg a1] at h
    by_cases a2 : X.1 i = 31 ∨ X.2.2.2 (X.1 i) = true
    · rw [if_pos a2] at h
      by_cases a3 : 60 ≤ k
      · rw [if_pos a3] at h
        rw [← Sum.inl.inj h]; exact ⟨by show 3 ≤ 5; decide, hp⟩
      · rw [if_neg a3] at h; cases h
    · rw [if_neg a2] at h
      rw [← Sum.inl.inj h]; exact ⟨by show 0 ≤ 5; decide, hp⟩
theorem prB_inl {r : PR} {f : Nat → Nat → List (Nat × Nat) → PR} {e : Nat × Nat} (h : prB r f = .inl e) : r = .inl e ∨ ∃ j k c, r = .inr (j, k, c) ∧ f j k c = .inl e := by
  cases r with
  | inl e' => exact Or.inl h
  | inr p => exact Or.inr ⟨p.1, p.2.1, p.2.2, rfl, h⟩
theorem okF_trmL (hX : okX X m) {e : Nat × Nat} : ∀ n i k c, trmL X n i k c = .inl e → okF e
  | 0, i, k, c, h => by cases h
  | n + 1, i, k, c, h => by
    unfold trmL at h
    by_cases y : X.1 i = 38 ∨ X.1 i = 39
    · rw [if_pos y] at h
      rcases prB_inl h with q | ⟨j, k', c', -, q⟩
      · exact okF_val hX q
      · exact okF_trmL hX n _ _ _ q
    · rw [if_neg y] at h; cases h
theorem okF_trm (hX : okX X m) {e : Nat × Nat} {i k : Nat} (h : trmS X i k = .inl e) : okF e := by
  rcases prB_inl h with q | ⟨j, k', c', -, q⟩
  · exact okF_val hX q
  · exact okF_trmL hX 400 _ _ _ q
theorem okF_sumJ (hX : okX X m) {e : Nat × Nat} : ∀ n jn i k c, sumJ X n jn i k c = .inl e → okF e
  | 0, _, i, k, c, h => by cases h
  | n + 1, jn, i, k, c, h => by
    unfold sumJ at h
    rcases prB_inl h with q | ⟨j, k', c', -, q⟩
    · exact okF_trm hX q
    · by_cases y : X.1 j = 36 ∨ X.1 j = 37
      · rw [if_pos y] at q; exact okF_sumJ hX n _ _ _ _ q
      · rw [if_neg y] at q; cases q
theorem okF_sum (hX : okX X m) {e : Nat × Nat} {i k : Nat} (h : sumS X i k = .inl e) : okF e := okF_sumJ hX 400 48 i k [] h
theorem okF_cmp (hX : okX X m) {e : Nat × Nat} {i k : Nat} (h : cmpS X i k = .inl e) : okF e := by
  rcases prB_inl h with q | ⟨j, k', c', -, q⟩
  · exact okF_sum hX q
  · have hp := hX.2.2.2.2.1 j
    by_cases y : 40 ≤ X.1 j ∧ X.1 j ≤ 44
    · rw [if_pos y] at q
      by_cases z : 60 ≤ k'
      · rw [if_pos z] at q
        rw [← Sum.inl.inj q]; exact ⟨by show 3 ≤ 5; decide, hp⟩
      · rw [if_neg z] at q
        rcases prB_inl q with q | ⟨j2, k2, c2, -, q⟩
        · exact okF_sum hX q
        · cases q
    · rw [if_neg y] at q
      rw [← Sum.inl.inj q]; exact ⟨by show 0 ≤ 5; decide, hp⟩
theorem okF_ps (hX : okX X m) {e : Nat × Nat} : ∀ n b d i k a o, psF X n b d i k a o = some (.inl e) → okF e
  | 0, _, _, _, _, _, _, h => by cases h
  | n + 1, false, d, i, k, a, o, h => by
    unfold psF at h
    have hp := hX.2.2.2.2.1 i
    by_cases y : X.1 i = 18
    · rw [if_pos y] at h
      by_cases z : d < 10
      · rw [if_pos z] at h
        obtain ⟨r, e1, e2⟩ := ob_inr h
        rcases prB_inl (Option.some.inj e2) with q | ⟨j, k', c', -, q⟩
        · rw [q] at e1; exact okF_ps hX n _ _ _ _ _ _ e1
        · cases q
      · rw [if_neg z] at h
        rw [← Sum.inl.inj (Option.some.inj h)]; exact ⟨by show 2 ≤ 5; decide, hp⟩
    · rw [if_neg y] at h
      by_cases y2 : X.1 i = 34
      · rw [if_pos y2] at h
        by_cases z : d < 10
        · rw [if_pos z] at h
          obtain ⟨r, e1, e2⟩ := ob_inr h
          rcases prB_inl (Option.some.inj e2) with q | ⟨j, k', c', -, q⟩
          · rw [q] at e1; exact okF_ps hX n _ _ _ _ _ _ e1
          · by_cases u : X.1 j = 35
            · rw [if_pos u] at q; cases q
            · rw [if_neg u] at q
              rw [← Sum.inl.inj q]; exact ⟨by show 0 ≤ 5; decide, hX.2.2.2.2.1 j⟩
        · rw [if_neg z] at h
          rw [← Sum.inl.inj (Option.some.inj h)]; exact ⟨by show 2 ≤ 5; decide, hp⟩
      · rw [if_neg y2] at h
        exact okF_cmp hX (Option.some.inj h)
  | n + 1, true, d, i, k, a, o, h => by
    unfold psF at h
    obtain ⟨r, e1, e2⟩ := ob_inr h
    cases r with
    | inl e' =>
      have : e' = e := Sum.inl.inj (Option.some.inj e2)
      subst this
      exact okF_ps hX n _ _ _ _ _ _ e1
    | inr p =>
      obtain ⟨j1, k1, c1⟩ := p
      have e2' : (if X.1 j1 = 17 then (psF X n true d (j1 + 1) k1 true o).bind (fun r => some (prB r (fun j k' c' => .inr (j, k', aoC a 17 c1 ++ c'))))
        else if X.1 j1 = 16 then (psF X n true d (j1 + 1) k1 false true).bind (fun r => some (prB r (fun j k' c' => .inr (j, k', aoC o 16 (aoC a 17 c1) ++ c'))))
        else some (.inr (j1, k1, aoC o 16 (aoC a 17 c1)))) = some (.inl e) := e2
      by_cases y : X.1 j1 = 17
      · rw [if_pos y] at e2'
        obtain ⟨r, e3, e4⟩ := ob_inr e2'
        rcases prB_inl (Option.some.inj e4) with q | ⟨j, k', c', -, q⟩
        · rw [q] at e3; exact okF_ps hX n _ _ _ _ _ _ e3
        · cases q
      · rw [if_neg y] at e2'
        by_cases y2 : X.1 j1 = 16
        · rw [if_pos y2] at e2'
          obtain ⟨r, e3, e4⟩ := ob_inr e2'
          rcases prB_inl (Option.some.inj e4) with q | ⟨j, k', c', -, q⟩
          · rw [q] at e3; exact okF_ps hX n _ _ _ _ _ _ e3
          · cases q
        · rw [if_neg y2] at e2'; cases (Option.some.inj e2')
/-- values joined, after a fault -/
theorem pf_l25 (hC : cdT T kc) (hX : okX X m) {F : Int32} (hF : ¬ F = 0) {x1 x2 : Int32} : ∀ n v S, n + v = 400 → pfC X m kc S F → ∃ S', lp (fun a => fX6_readSum_l25 T 2 x1 x2 a.1 a.2) (nI v, S) = some S' ∧ oC kc S S' ∧ pfC X m kc S' F := by
  intro n
  induction n with
  | zero =>
    intro v S hv h
    refine ⟨S, lp_stop ?_, oC_refl, h⟩
    show fX6_readSum_l25 T 2 x1 x2 (nI v) S = _
    unfold fX6_readSum_l25
    rw [if_pos (show 400 ≤ nI v by rw [n_leL (by omega) (by omega)]; omega)]
  | succ n ih =>
    intro v S hv h
    have b50 : ∃ S1, fX6_readSum_b50 T 2 x1 x2 (nI v) S = some (.inl (nI (v + 1), S1)) ∧ oC kc S S1 ∧ pfC X m kc S1 F := by
      obtain ⟨S1, e1, o1, p1⟩ := pf_next hC hX h
      obtain ⟨S2, e2, o2, p2⟩ := pf_value hC hX hF p1
      obtain ⟨S3, e3, o3, p3⟩ := pf_add hC p2 (S.1 2 2) 0
      unfold fX6_readSum_b50
      rw [let_q, e1, b_q, e2, b_q, hC.2.1, e3, b_q, let_q, n_addL]
      exact ⟨S3, rfl, oC_tr o1 (oC_tr o2 o3), p3⟩
    have el : fX6_readSum_l25 T 2 x1 x2 (nI v) S = if S.1 2 2 = 38 then fX6_readSum_b50 T 2 x1 x2 (nI v) S else if S.1 2 2 = 39 then fX6_readSum_b50 T 2 x1 x2 (nI v) S else some (.inr S) := by
      unfold fX6_readSum_l25
      rw [if_neg (show ¬ 400 ≤ nI v by rw [n_leL (by omega) (by omega)]; omega)]
    obtain ⟨S1, e1, o1, p1⟩ := b50
    obtain ⟨S2, e2, o2, p2⟩ := ih (v + 1) S1 (by omega) p1
    by_cases y : S.1 2 2 = 38
    · rw [if_pos y, e1] at el
      exact ⟨S2, lp_go el e2, oC_tr o1 o2, p2⟩
    · rw [if_neg y] at el
      by_cases z : S.1 2 2 = 39
      · rw [if_pos z, e1] at el
        exact ⟨S2, lp_go el e2, oC_tr o1 o2, p2⟩
      · rw [if_neg z] at el
        exact ⟨S, lp_stop el, oC_refl, h⟩
theorem c_l25 (hC : cdT T kc) (hX : okX X m) {S0 : zS} {l0 : Nat} {x1 x2 : Int32} : ∀ n v S i k c, n + v = 400 → oC kc S0 S → stC X m kc S i k (l0 + c.length) → wrC kc S0 S l0 c → k ≤ 60 → l0 + c.length ≤ i → ∃ S', lp (fun a => fX6_readSum_l25 T 2 x1 x2 a.1 a.2) (nI v, S) = some S' ∧ resC X m kc S0 l0 (trmL X n i k c) S' := by
  intro n
  induction n with
  | zero =>
    intro v S i k c hv o h w hk hl
    refine ⟨S, lp_stop ?_, o, h, w⟩
    show fX6_readSum_l25 T 2 x1 x2 (nI v) S = _
    unfold fX6_readSum_l25
    rw [if_pos (show 400 ≤ nI v by rw [n_leL (by omega) (by omega)]; omega)]
  | succ n ih =>
    intro v S i k c hv o h w hk hl
    have hm := hX.1
    have hi := h.2.1
    have hk7 := hC.2.2.2
    have hb := hX.2.2.2.2.2.2.2 i
    have hr := h.2.2.1
    have e38 : (nI (X.1 i) = 38) = (X.1 i = 38) := nI_eqL (show (38 : Int32) = nI 38 from rfl) (by omega) (by decide)
    have e39 : (nI (X.1 i) = 39) = (X.1 i = 39) := nI_eqL (show (39 : Int32) = nI 39 from rfl) (by omega) (by decide)
    have el : fX6_readSum_l25 T 2 x1 x2 (nI v) S = if X.1 i = 38 ∨ X.1 i = 39 then fX6_readSum_b50 T 2 x1 x2 (nI v) S else some (.inr S) := by
      unfold fX6_readSum_l25
      rw [if_neg (show ¬ 400 ≤ nI v by rw [n_leL (by omega) (by omega)]; omega), hr.2.1]
      by_cases y : X.1 i = 38
      · rw [if_pos (show nI (X.1 i) = 38 by rw [e38]; exact y), if_pos (Or.inl y)]
      · rw [if_neg (show ¬ nI (X.1 i) = 38 by rw [e38]; exact y)]
        by_cases z : X.1 i = 39
        · rw [if_pos (show nI (X.1 i) = 39 by rw [e39]; exact z), if_pos (Or.inr z)]
        · rw [if_neg (show ¬ nI (X.1 i) = 39 by rw [e39]; exact z), if_neg (fun q => q.elim y z)]
    unfold trmL
    by_cases y : X.1 i = 38 ∨ X.1 i = 39
    · rw [if_pos y] at el ⊢
      have him : i < m := by
        apply Classical.byContradiction
        intro q
        have := (hX.2.1 i).mpr (by omega)
        omega
      obtain ⟨S1, e1, u1, u2, u3⟩ := st_next hC hX h him
      obtain ⟨S2, e2, o2, r2⟩ := c_value hC hX u3 hk (by omega)
      have o1 : oC kc S S1 := oC_14 u1 u2
      have eb : fX6_readSum_b50 T 2 x1 x2 (nI v) S = zb (fX2_add T kc (nI (X.1 i)) (nI 0) S2) fun _ S17 => some (.inl (nI (v + 1), S17)) := by
        unfold fX6_readSum_b50
        rw [hr.2.1, let_q, e1, b_q, e2, b_q, hC.2.1]
        simp only [let_q, n_addL]
        rfl
      cases hv1 : valS X (i + 1) k with
      | inl e =>
        rw [hv1] at r2
        obtain ⟨S3, e3, o3, p3⟩ := pf_add hC r2 (nI (X.1 i)) (nI 0)
        rw [eb, e3, b_q] at el
        have hF : ¬ flt e = 0 := flt_ok (okF_val hX hv1)
        obtain ⟨S4, e4, o4, p4⟩ := pf_l25 hC hX hF (x1 := x1) (x2 := x2) n (v + 1) S3 (by omega) p3
        exact ⟨S4, lp_go el e4, oC_tr o (oC_tr o1 (oC_tr o2 (oC_tr o3 o4))), p4⟩
      | inr p =>
        obtain ⟨j, k', c'⟩ := p
        obtain ⟨g, gj⟩ := gS_val hX hv1
        rw [hv1] at r2
        obtain ⟨r3, r4⟩ := r2
        have g6 := g.2.2.2.2.2.2.1
        have g1 := g.2.1
        obtain ⟨S3, e3, o3, p3, w3⟩ := st_add hC r3 (show l0 + c.length + c'.length < 512 by omega) (X.1 i) 0
        rw [eb, e3, b_q] at el
        have w1 : wrC kc S0 S1 l0 c := wr_next hk7 u2 w
        have w2 := wrC_app w1 (wrC_app r4 w3)
        have hlen : l0 + (c ++ (c' ++ [(X.1 i, 0)])).length = l0 + c.length + c'.length + 1 := by
          rw [List.length_append, List.length_append]; show l0 + (_ + (_ + 1)) = _; omega
        obtain ⟨S4, e4, r5⟩ := ih (v + 1) S3 j k' (c ++ (c' ++ [(X.1 i, 0)])) (by omega) (oC_tr o (oC_tr o1 (oC_tr o2 o3))) (by rw [hlen]; exact p3) w2 g.2.2.2.1 (by rw [hlen]; omega)
        exact ⟨S4, lp_go el e4, r5⟩
    · rw [if_neg y] at el ⊢
      exact ⟨S, lp_stop el, o, h, w⟩
/-- a term -/
theorem c_trm (hC : cdT T kc) (hX : okX X m) {S : zS} {i k l : Nat} (h : stC X m kc S i k l) (hk : k ≤ 60) (hl : l ≤ i) (hi : i ≤ 500) {x1 x2 : Int32} : ∃ S1 S', fX6_readValue T 2 S = some ((), S1) ∧ lp (fun a => fX6_readSum_l25 T 2 x1 x2 a.1 a.2) (0, S1) = some S' ∧ resC X m kc S l (trmS X i k) S' := by
  obtain ⟨S1, e1, o1, r1⟩ := c_value hC hX h hk (by omega)
  unfold trmS
  cases hv : valS X i k with
  | inl e =>
    rw [hv] at r1
    obtain ⟨S2, e2, o2, p2⟩ := pf_l25 hC hX (flt_ok (okF_val hX hv)) (x1 := x1) (x2 := x2) 400 0 S1 (by omega) r1
    exact ⟨S1, S2, e1, e2, oC_tr o1 o2, p2⟩
  | inr p =>
    obtain ⟨j, k', c⟩ := p
    rw [hv] at r1
    obtain ⟨g, gj⟩ := gS_val hX hv
    have g6 := g.2.2.2.2.2.2.1
    obtain ⟨S2, e2, r2⟩ := c_l25 hC hX (S0 := S) (l0 := l) (x1 := x1) (x2 := x2) 400 0 S1 j k' c (by omega) o1 r1.1 r1.2 g.2.2.2.1 (by omega)
    exact ⟨S1, S2, e1, e2, r2⟩
def endS (v : zS ⊕ zS) : zS := match v with
  | .inl S => S
  | .inr S => S
/-- behind a term, after a fault -/
theorem pf_b80 (hC : cdT T kc) (hX : okX X m) {F : Int32} (hF : ¬ F = 0) {S : zS} (h : pfC X m kc S F) {x1 x2 : Int32} : (∃ S', fX6_readSum_b80 T 2 x1 x2 S = some (.inr (.inr S')) ∧ oC kc S S' ∧ pfC X m kc S' F) ∨ ∃ y S', fX6_readSum_b80 T 2 x1 x2 S = some (.inl (y, x2 + 1, S')) ∧ oC kc S S' ∧ pfC X m kc S' F := by
  have b95 : ∀ S1, oC kc S S1 → pfC X m kc S1 F → (∃ S', fX6_readSum_b95 T 2 x2 S1 = some (.inr (.inr S')) ∧ oC kc S S' ∧ pfC X m kc S' F) ∨ ∃ y S', fX6_readSum_b95 T 2 x2 S1 = some (.inl (y, x2 + 1, S')) ∧ oC kc S S' ∧ pfC X m kc S' F := by
    intro S1 o1 p1
    obtain ⟨S2, e2, o2, p2⟩ := pf_next hC hX p1
    have e114 : fX6_readSum_b114 T 2 x2 S1 = some (.inl (S1.1 2 2, x2 + 1, S2)) := by
      unfold fX6_readSum_b114
      rw [let_q, e2, b_q, let_q]
    unfold fX6_readSum_b95
    by_cases y : S1.1 2 2 = 36
    · rw [if_pos y]; exact Or.inr ⟨_, S2, e114, oC_tr o1 o2, p2⟩
    · rw [if_neg y]
      by_cases z : S1.1 2 2 = 37
      · rw [if_pos z]; exact Or.inr ⟨_, S2, e114, oC_tr o1 o2, p2⟩
      · rw [if_neg z]; exact Or.inl ⟨S1, rfl, o1, p1⟩
  unfold fX6_readSum_b80
  by_cases y : x1 = 48
  · rw [if_pos y]; exact b95 S oC_refl h
  · obtain ⟨S1, e1, o1, p1⟩ := pf_add hC h x1 0
    rw [if_neg y, hC.2.1, e1, b_q]; exact b95 S1 o1 p1
/-- the loop of a sum ends at once after a fault -/
theorem pf_l5 {F : Int32} (hF : ¬ F = 0) {S : zS} (h : pfC X m kc S F) {x1 x2 : Int32} : lp (fun a => fX6_readSum_l5 T 2 a.1 a.2.1 a.2.2) (x1, x2, S) = some (.inl S) := by
  refine lp_stop ?_
  show fX6_readSum_l5 T 2 x1 x2 S = _
  unfold fX6_readSum_l5
  rw [h.2.2.1, if_neg hF]
  split <;> rfl
theorem c_sumJ (hC : cdT T kc) (hX : okX X m) {S0 : zS} {l0 : Nat} : ∀ n t jn S i k c, n + t = 400 → oC kc S0 S → stC X m kc S i k (l0 + c.length) → wrC kc S0 S l0 c → k ≤ 60 → jn ≤ 48 → (jn = 48 ∧ l0 + c.length ≤ i ∨ l0 + c.length + 1 ≤ i) → ∃ v, lp (fun a => fX6_readSum_l5 T 2 a.1 a.2.1 a.2.2) (nI jn, nI t, S) = some v ∧ resC X m kc S0 l0 (sumJ X n jn i k c) (endS v) := by
  intro n
  induction n with
  | zero =>
    intro t jn S i k c ht o h w hk hj hl
    refine ⟨.inl S, lp_stop ?_, o, h, w⟩
    show fX6_readSum_l5 T 2 (nI jn) (nI t) S = _
    unfold fX6_readSum_l5
    rw [if_pos (show 400 ≤ nI t by rw [n_leL (by omega) (by omega)]; omega)]
  | succ n ih =>
    intro t jn S i k c ht o h w hk hj hl
    have hm := hX.1
    have hi := h.2.1
    have hk7 := hC.2.2.2
    have ej : (nI jn = 48) = (jn = 48) := nI_eqL (show (48 : Int32) = nI 48 from rfl) (by omega) (by decide)
    obtain ⟨S1, S2, e1, e2, r2⟩ := c_trm hC hX h hk (by omega) (by omega) (x1 := nI jn) (x2 := nI t)
    have el : fX6_readSum_l5 T 2 (nI jn) (nI t) S = fX6_readSum_b80 T 2 (nI jn) (nI t) S2 := by
      unfold fX6_readSum_l5
      rw [if_neg (show ¬ 400 ≤ nI t by rw [n_leL (by omega) (by omega)]; omega), h.2.2.2.1, if_pos rfl, e1, b_q, e2, b1_q]
    unfold sumJ
    cases hv : trmS X i k with
    | inl e =>
      rw [hv] at r2
      have hF := flt_ok (okF_trm hX hv)
      rcases pf_b80 hC hX hF r2.2 (x1 := nI jn) (x2 := nI t) with ⟨S3, e3, o3, p3⟩ | ⟨y, S3, e3, o3, p3⟩
      · rw [e3] at el
        exact ⟨.inr S3, lp_stop el, oC_tr o (oC_tr r2.1 o3), p3⟩
      · rw [e3] at el
        exact ⟨.inl S3, lp_go el (pf_l5 hF p3), oC_tr o (oC_tr r2.1 o3), p3⟩
    | inr p =>
      obtain ⟨j, k', c'⟩ := p
      have g := gS_trm hX hv
      obtain ⟨g1, g2, g3, g4, -, -, g7, -⟩ := g
      rw [hv] at r2
      obtain ⟨o2, r3, r4⟩ := r2
      have hb := hX.2.2.2.2.2.2.2 j
      -- the sign of the sum, if one waits
      have join : ∃ S3, fX6_readSum_b80 T 2 (nI jn) (nI t) S2 = fX6_readSum_b95 T 2 (nI t) S3 ∧ oC kc S2 S3 ∧ stC X m kc S3 j k' (l0 + (c ++ jnC jn c').length) ∧ wrC kc S0 S3 l0 (c ++ jnC jn c') ∧ l0 + (c ++ jnC jn c').length ≤ j := by
        unfold fX6_readSum_b80 jnC
        by_cases y : jn = 48
        · rw [if_pos (show nI jn = 48 by rw [ej]; exact y), if_pos y]
          refine ⟨S2, rfl, oC_refl, ?_, wrC_app w r4, ?_⟩
          · rw [List.length_append, ← Nat.add_assoc]; exact r3
          · rw [List.length_append]; omega
        · obtain ⟨S3, e3, o3, p3, w3⟩ := st_add hC r3 (show l0 + c.length + c'.length < 512 by omega) jn 0
          have e3' : fX2_add T kc (nI jn) 0 S2 = some ((), S3) := e3
          rw [if_neg (show ¬ nI jn = 48 by rw [ej]; exact y), if_neg y, hC.2.1, e3', b_q]
          have hlen : l0 + (c ++ (c' ++ [(jn, 0)])).length = l0 + c.length + c'.length + 1 := by
            rw [List.length_append, List.length_append]; show l0 + (_ + (_ + 1)) = _; omega
          refine ⟨S3, rfl, o3, by rw [hlen]; exact p3, wrC_app w (wrC_app r4 w3), ?_⟩
          rw [hlen]
          omega
      obtain ⟨S3, e3, o3, p3, w3, l3⟩ := join
      rw [e3] at el
      have e36 : (nI (X.1 j) = 36) = (X.1 j = 36) := nI_eqL (show (36 : Int32) = nI 36 from rfl) (by omega) (by decide)
      have e37 : (nI (X.1 j) = 37) = (X.1 j = 37) := nI_eqL (show (37 : Int32) = nI 37 from rfl) (by omega) (by decide)
      have e95 : fX6_readSum_b95 T 2 (nI t) S3 = if X.1 j = 36 ∨ X.1 j = 37 then fX6_readSum_b114 T 2 (nI t) S3 else some (.inr (.inr S3)) := by
        unfold fX6_readSum_b95
        rw [p3.2.2.1.2.1]
        by_cases y : X.1 j = 36
        · rw [if_pos (show nI (X.1 j) = 36 by rw [e36]; exact y), if_pos (Or.inl y)]
        · rw [if_neg (show ¬ nI (X.1 j) = 36 by rw [e36]; exact y)]
          by_cases z : X.1 j = 37
          · rw [if_pos (show nI (X.1 j) = 37 by rw [e37]; exact z), if_pos (Or.inr z)]
          · rw [if_neg (show ¬ nI (X.1 j) = 37 by rw [e37]; exact z), if_neg (fun q => q.elim y z)]
      show ∃ v, _ ∧ resC X m kc S0 l0 (if X.1 j = 36 ∨ X.1 j = 37 then sumJ X n (X.1 j) (j + 1) k' (c ++ jnC jn c') else .inr (j, k', c ++ jnC jn c')) (endS v)
      have ov := oC_tr o (oC_tr o2 o3)
      by_cases y : X.1 j = 36 ∨ X.1 j = 37
      · rw [if_pos y] at e95 ⊢
        have hjm : j < m := by
          apply Classical.byContradiction
          intro q
          have := (hX.2.1 j).mpr (by omega)
          omega
        obtain ⟨S4, e4, u1, u2, u3⟩ := st_next hC hX p3 hjm
        have e114 : fX6_readSum_b114 T 2 (nI t) S3 = some (.inl (nI (X.1 j), nI (t + 1), S4)) := by
          unfold fX6_readSum_b114
          rw [p3.2.2.1.2.1, let_q, e4, b_q, let_q, n_addL]
        rw [e95, e114] at el
        obtain ⟨v, e5, r5⟩ := ih (t + 1) (X.1 j) S4 (j + 1) k' (c ++ jnC jn c') (by omega) (oC_tr ov (oC_14 u1 u2)) u3 (wr_next hk7 u2 w3) g4 (by omega) (Or.inr (by omega))
        exact ⟨v, lp_go el e5, r5⟩
      · rw [if_neg y] at e95 ⊢
        rw [e95] at el
        exact ⟨.inr S3, lp_stop el, ov, p3, w3⟩
theorem c_sum (hC : cdT T kc) (hX : okX X m) {S : zS} {i k l : Nat} (h : stC X m kc S i k l) (hk : k ≤ 60) (hl : l ≤ i) : ∃ S', fX6_readSum T 2 S = some ((), S') ∧ resC X m kc S l (sumS X i k) S' := by
  obtain ⟨v, e, r⟩ := c_sumJ hC hX (S0 := S) (l0 := l) 400 0 48 S i k [] (by omega) oC_refl h wrC_nil hk (by decide) (Or.inl ⟨rfl, hl⟩)
  have e' : lp (fun a => fX6_readSum_l5 T 2 a.1 a.2.1 a.2.2) (48, 0, S) = some v := e
  unfold fX6_readSum fX6_readSum_b129
  rw [e', b1_q]
  cases v with
  | inl S' => exact ⟨S', rfl, r⟩
  | inr S' => exact ⟨S', rfl, r⟩
theorem pf_sum {F : Int32} (hF : ¬ F = 0) {S : zS} (h : pfC X m kc S F) : fX6_readSum T 2 S = some ((), S) := by
  unfold fX6_readSum fX6_readSum_b129
  rw [pf_l5 hF h, b1_q]; rfl
end
