/-! FACTS, TESTS, by the class -/
section
variable {T : zT} {X : TK} {m kc : Nat}
theorem pf_sign (hC : cdT T kc) (hX : okX X m) {S : zS} {F : Int32} (hF : ¬ F = 0) (h : pfC X m kc S F) : ∃ S', fX6_readSign T 2 S = some (S.1 2 2, S') ∧ oC kc S S' ∧ pfC X m kc S' F := by
  have b17 : ∃ S', fX6_readSign_b17 T 2 (S.1 2 2) S = some (S.1 2 2, S') ∧ oC kc S S' ∧ pfC X m kc S' F := by
    unfold fX6_readSign_b17 fX6_readSign_b56
    rw [pf_fail hF h, b_q]
    exact ⟨S, rfl, oC_refl, h⟩
  unfold fX6_readSign fX6_readSign_b56
  rw [let_q]
  by_cases y : S.1 2 2 < 40
  · rw [if_pos y]; exact b17
  · rw [if_neg y]
    by_cases z : S.1 2 2 ≤ 44
    · rw [if_pos z]
      by_cases v : S.1 2 6 < 60
      · obtain ⟨p6, o6⟩ := pf_6 hC.2.2.2 (x := S.1 2 6 + 1) h
        obtain ⟨S1, e1, o1, p1⟩ := pf_next hC hX p6
        rw [if_pos v, let_q, e1, b_q]
        exact ⟨S1, rfl, oC_tr o6 o1, p1⟩
      · rw [if_neg v, pf_fail hF h, b_q]
        exact ⟨S, rfl, oC_refl, h⟩
    · rw [if_neg z]; exact b17
def sgS (X : TK) (i k : Nat) : PR := if 40 ≤ X.1 i ∧ X.1 i ≤ 44 then (if 60 ≤ k then .inl (3, X.2.2.1 i) else .inr (i + 1, k + 1, [])) else .inl (0, X.2.2.1 i)
theorem c_sign (hC : cdT T kc) (hX : okX X m) {S : zS} {i k l : Nat} (h : stC X m kc S i k l) (hk60 : k ≤ 60) : ∃ S', fX6_readSign T 2 S = some (nI (X.1 i), S') ∧ resC X m kc S l (sgS X i k) S' := by
  obtain ⟨h1, h2, h3, h4, h5, h6, h7⟩ := id h
  have hk := hC.2.2.2
  have hb := hX.2.2.2.2.2.2.2 i
  have b17 : ¬ (40 ≤ X.1 i ∧ X.1 i ≤ 44) → ∃ S', fX6_readSign_b17 T 2 (nI (X.1 i)) S = some (nI (X.1 i), S') ∧ resC X m kc S l (sgS X i k) S' := by
    intro hn
    obtain ⟨S', e, q1, q2⟩ := st_fail (T := T) h hk 0
    have e' : fX6_fail T 2 0 S = some ((), S') := e
    unfold fX6_readSign_b17 fX6_readSign_b56 sgS
    rw [e', b_q, if_neg hn]
    exact ⟨S', rfl, q1, q2⟩
  unfold fX6_readSign fX6_readSign_b56
  rw [let_q, h3.2.1, h5]
  by_cases y : X.1 i < 40
  · rw [if_pos (show nI (X.1 i) < 40 by rw [show (40 : Int32) = nI 40 from rfl, n_lt (by omega) (by omega)]; exact y)]
    exact b17 (by omega)
  · rw [if_neg (show ¬ nI (X.1 i) < 40 by rw [show (40 : Int32) = nI 40 from rfl, n_lt (by omega) (by omega)]; exact y)]
    by_cases z : X.1 i ≤ 44
    · rw [if_pos (show nI (X.1 i) ≤ 44 by rw [show (44 : Int32) = nI 44 from rfl, n_le (by omega) (by omega)]; exact z)]
      have es : sgS X i k = if 60 ≤ k then .inl (3, X.2.2.1 i) else .inr (i + 1, k + 1, []) := if_pos ⟨by omega, z⟩
      rw [es]
      by_cases v : 60 ≤ k
      · obtain ⟨S', e, q1, q2⟩ := st_fail (T := T) h hk 3
        have e' : fX6_fail T 2 3 S = some ((), S') := e
        rw [if_neg (show ¬ nI k < 60 by rw [show (60 : Int32) = nI 60 from rfl, n_lt (by omega) (by omega)]; omega), e', b_q, if_pos v]
        exact ⟨S', rfl, q1, q2⟩
      · have st6 : stC X m kc (zI S 2 6 (nI (k + 1))) i (k + 1) l := ⟨tkC_cg h1 (fun a b _ _ => zI_ne (by omega)) (zI_eqn (by decide)), h2, rdC_cg h3 (fun b _ _ => zI_eqn (by omega)), (zI_eqn (by decide)).trans h4, zI_eqs, h6, (zI_ne (by omega)).trans h7⟩
        have o6 : oC kc S (zI S 2 6 (nI (k + 1))) := ⟨rfl, fun a b n _ _ => by rw [zI_at, if_neg (by omega)]⟩
        have him : i < m := by
          apply Classical.byContradiction
          intro q
          have h46 := (hX.2.1 i).mpr (by omega)
          omega
        obtain ⟨S1, e1, u1, u2, u3⟩ := st_next hC hX st6 him
        rw [if_pos (show nI k < 60 by rw [show (60 : Int32) = nI 60 from rfl, n_lt (by omega) (by omega)]; omega), n_addL, let_q, e1, b_q, if_neg v]
        have o1 := oC_tr o6 (oC_14 (kc := kc) u1 u2)
        have w1 : wrC kc S S1 l [] := wr_next hk u2 ⟨fun b _ => zI_ne (by omega), fun j p hj => (by cases hj), fun q hq => by rw [zI_ne (by omega)]; exact hq, fun q _ hq => (by cases hq)⟩
        exact ⟨S1, rfl, o1, u3, w1⟩
    · rw [if_neg (show ¬ nI (X.1 i) ≤ 44 by rw [show (44 : Int32) = nI 44 from rfl, n_le (by omega) (by omega)]; exact z)]
      exact b17 (by omega)
theorem c_cmp (hC : cdT T kc) (hX : okX X m) {S : zS} {i k l : Nat} (h : stC X m kc S i k l) (h1 : 1 ≤ i) (hk : k ≤ 60) (hl : l ≤ i) : ∃ S', (zb (fX6_readSum T 2 S) fun _ S26 => zb (fX6_readSign T 2 S26) fun r27 S29 => zb (fX6_readSum T 2 S29) fun _ S32 => zb (fX2_add T (zr T 2 9) r27 0 S32) fun _ S35 => some ((), S35)) = some ((), S') ∧ resC X m kc S l (cmpS X i k) S' := by
  have hm := hX.1
  have hi := h.2.1
  rw [hC.2.1]
  obtain ⟨S1, e1, o1, r1⟩ := c_sum hC hX h hk hl
  rw [e1, b_q]
  unfold cmpS
  cases hv : sumS X i k with
  | inl e =>
    rw [hv] at r1
    have hF := flt_ok (okF_sum hX hv)
    obtain ⟨S2, e2, o2, p2⟩ := pf_sign hC hX hF r1
    obtain ⟨S3, e3, o3, p3⟩ := pf_add hC p2 (S1.1 2 2) 0
    rw [e2, b_q, pf_sum hF p2, b_q, e3, b_q]
    exact ⟨S3, rfl, oC_tr o1 (oC_tr o2 o3), p3⟩
  | inr p =>
    obtain ⟨j, k1, c1⟩ := p
    obtain ⟨g1, g2, g3, g4, -, -, g7, -⟩ := gS_sum hX h1 hi hv
    rw [hv] at r1
    obtain ⟨r2, w2⟩ := r1
    obtain ⟨S2, e2, o2, r3⟩ := c_sign hC hX r2 g4
    rw [e2, b_q]
    show ∃ S', _ ∧ resC X m kc S l (if 40 ≤ X.1 j ∧ X.1 j ≤ 44 then (if 60 ≤ k1 then .inl (3, X.2.2.1 j) else prB (sumS X (j + 1) (k1 + 1)) (fun j2 k2 c2 => .inr (j2, k2, c1 ++ (c2 ++ [(X.1 j, 0)])))) else .inl (0, X.2.2.1 j)) S'
    have bad : ∀ F, ¬ F = 0 → pfC X m kc S2 F → ∃ S', (zb (fX6_readSum T 2 S2) fun _ S32 => zb (fX2_add T kc (nI (X.1 j)) 0 S32) fun _ S35 => some ((), S35)) = some ((), S') ∧ oC kc S S' ∧ pfC X m kc S' F := by
      intro F hF p
      obtain ⟨S3, e3, o3, p3⟩ := pf_add hC p (nI (X.1 j)) 0
      rw [pf_sum hF p, b_q, e3, b_q]
      exact ⟨S3, rfl, oC_tr o1 (oC_tr o2 o3), p3⟩
    have hp := hX.2.2.2.2.1 j
    by_cases y : 40 ≤ X.1 j ∧ X.1 j ≤ 44
    · have es : sgS X j k1 = if 60 ≤ k1 then .inl (3, X.2.2.1 j) else .inr (j + 1, k1 + 1, []) := if_pos y
      rw [if_pos y]
      by_cases z : 60 ≤ k1
      · rw [es, if_pos z] at r3
        rw [if_pos z]
        exact bad _ (flt_0 hp (by show 3 ≤ 7; decide)) r3
      · rw [es, if_neg z] at r3
        obtain ⟨r4, w4⟩ := r3
        rw [if_neg z]
        have hjm : j < m := by
          apply Classical.byContradiction
          intro q
          have := (hX.2.1 j).mpr (by omega)
          omega
        have r4' : stC X m kc S2 (j + 1) (k1 + 1) (l + c1.length + 0) := r4
        obtain ⟨S3, e3, o3, r5⟩ := c_sum hC hX r4' (by omega) (by omega)
        rw [e3, b_q]
        cases hv2 : sumS X (j + 1) (k1 + 1) with
        | inl e =>
          rw [hv2] at r5
          obtain ⟨S4, e4, o4, p4⟩ := pf_add hC r5 (nI (X.1 j)) 0
          rw [e4, b_q]
          exact ⟨S4, rfl, oC_tr o1 (oC_tr o2 (oC_tr o3 o4)), p4⟩
        | inr p =>
          obtain ⟨j2, k2, c2⟩ := p
          obtain ⟨f1, f2, f3, f4, -, -, f7, -⟩ := gS_sum hX (by omega) (by omega) hv2
          rw [hv2] at r5
          obtain ⟨r6, w6⟩ := r5
          obtain ⟨S4, e4, o4, p4, w4'⟩ := st_add hC r6 (show l + c1.length + 0 + c2.length < 512 by omega) (X.1 j) 0
          have e4' : fX2_add T kc (nI (X.1 j)) 0 S3 = some ((), S4) := e4
          rw [e4', b_q]
          have hlen : l + (c1 ++ (c2 ++ [(X.1 j, 0)])).length = l + c1.length + 0 + c2.length + 1 := by
            rw [List.length_append, List.length_append]; show l + (_ + (_ + 1)) = _; omega
          have wa : wrC kc S S2 l c1 := by
            have := wrC_app w2 w4
            rwa [List.append_nil] at this
          refine ⟨S4, rfl, oC_tr o1 (oC_tr o2 (oC_tr o3 o4)), by show stC X m kc S4 j2 k2 (l + (c1 ++ (c2 ++ [(X.1 j, 0)])).length); rw [hlen]; exact p4, wrC_app wa ?_⟩
          exact wrC_app w6 w4'
    · have es : sgS X j k1 = .inl (0, X.2.2.1 j) := if_neg y
      rw [es] at r3
      rw [if_neg y]
      exact bad _ (flt_0 hp (by show 0 ≤ 7; decide)) r3
/-- what is left of a test, in the midst of its loops -/
def tE (T : zT) (rc : Nat → zT → Nat → Int32 → zS → Option (Unit × zS)) (d x2 x3 : Int32) (S S' : zS) : Prop := ∃ v, lp (fun a => fX6_readTestB_l11 T rc 2 d x2 a.1 a.2) (x3, S) = some v ∧ ((∃ w, fX6_readTestB_b66 T rc 2 d x2 (endS v) = some (.inr w) ∧ endS w = S') ∨ ∃ x2' S2 w, fX6_readTestB_b66 T rc 2 d x2 (endS v) = some (.inl (x2', S2)) ∧ lp (fun a => fX6_readTestB_l2 T rc 2 d a.1 a.2) (x2', S2) = some w ∧ endS w = S')
theorem tE_go {rc : Nat → zT → Nat → Int32 → zS → Option (Unit × zS)} {d x2 x3 x3' : Int32} {S S1 S' : zS} (h : fX6_readTestB_l11 T rc 2 d x2 x3 S = some (.inl (x3', S1))) (g : tE T rc d x2 x3' S1 S') : tE T rc d x2 x3 S S' := by
  obtain ⟨v, e, q⟩ := g
  exact ⟨v, lp_go h e, q⟩
theorem tE_l2 {rc : Nat → zT → Nat → Int32 → zS → Option (Unit × zS)} {d x2 : Int32} {S S' : zS} (h4 : ¬ 400 ≤ x2) (h : tE T rc d x2 0 S S') : ∃ w, lp (fun a => fX6_readTestB_l2 T rc 2 d a.1 a.2) (x2, S) = some w ∧ endS w = S' := by
  obtain ⟨v, e, q⟩ := h
  have el : fX6_readTestB_l2 T rc 2 d x2 S = fX6_readTestB_b66 T rc 2 d x2 (endS v) := by
    unfold fX6_readTestB_l2
    rw [if_neg h4, e, b1_q]
    cases v <;> rfl
  rcases q with ⟨w, e1, e2⟩ | ⟨x2', S2, w, e1, e2, e3⟩
  · exact ⟨w, lp_stop (el.trans e1), e2⟩
  · exact ⟨w, lp_go (el.trans e1) e2, e3⟩
/-- a test's loops end after a fault -/
theorem pf_tE (hC : cdT T kc) {F : Int32} (hF : ¬ F = 0) {rc : Nat → zT → Nat → Int32 → zS → Option (Unit × zS)} {d x2 x3 : Int32} (h4 : ¬ 400 ≤ x3) {S S1 : zS} (e : rc 0 T 2 d S = some ((), S1)) (h : pfC X m kc S1 F) : ∃ S', tE T rc d x2 x3 S S' ∧ oC kc S1 S' ∧ pfC X m kc S' F := by
  have b37 : ∀ S2, pfC X m kc S2 F → fX6_readTestB_b37 T rc 2 d x2 x3 S2 = some (.inr (.inl S2)) := by
    intro S2 p
    unfold fX6_readTestB_b37
    rw [p.2.2.1, if_neg hF]
  have b80 : ∀ S2, pfC X m kc S2 F → fX6_readTestB_b80 T rc 2 d x2 S2 = some (.inr (.inr S2)) := by
    intro S2 p
    unfold fX6_readTestB_b80
    rw [p.2.2.1, if_neg hF]
  have a1 : ∃ S2, fX6_readTestB_l11 T rc 2 d x2 x3 S = some (.inr (.inl S2)) ∧ oC kc S1 S2 ∧ pfC X m kc S2 F := by
    unfold fX6_readTestB_l11
    rw [if_neg h4, e, b_q]
    by_cases y : x3 ≤ 0
    · rw [if_pos y, b37 _ h]; exact ⟨S1, rfl, oC_refl, h⟩
    · obtain ⟨S2, e2, o2, p2⟩ := pf_add hC h 17 0
      rw [if_neg y, hC.2.1, e2, b_q, b37 _ p2]; exact ⟨S2, rfl, o2, p2⟩
  obtain ⟨S2, e2, o2, p2⟩ := a1
  have a2 : ∃ S3, fX6_readTestB_b66 T rc 2 d x2 S2 = some (.inr (.inr S3)) ∧ oC kc S2 S3 ∧ pfC X m kc S3 F := by
    unfold fX6_readTestB_b66
    by_cases y : x2 ≤ 0
    · rw [if_pos y, b80 _ p2]; exact ⟨S2, rfl, oC_refl, p2⟩
    · obtain ⟨S3, e3, o3, p3⟩ := pf_add hC p2 16 0
      rw [if_neg y, hC.2.1, e3, b_q, b80 _ p3]; exact ⟨S3, rfl, o3, p3⟩
  obtain ⟨S3, e3, o3, p3⟩ := a2
  exact ⟨S3, ⟨.inl S2, lp_stop e2, Or.inl ⟨.inr S3, e3, rfl⟩⟩, oC_tr o2 o3, p3⟩
/-- AND or OR, where one waits -/
theorem st_ao (hC : cdT T kc) {S0 S : zS} {l0 i k : Nat} {c : List (Nat × Nat)} (h : stC X m kc S i k (l0 + c.length)) (w : wrC kc S0 S l0 c) (op p : Nat) (hp : p < 1000) (hl : l0 + c.length < 512) {β : Type} {K : zS → Option β} : ∃ S', (if nI p ≤ 0 then K S else zb (fX2_add T (zr T 2 9) (nI op) 0 S) fun _ S15 => K S15) = K S' ∧ oC kc S S' ∧ stC X m kc S' i k (l0 + (aoC (decide (0 < p)) op c).length) ∧ wrC kc S0 S' l0 (aoC (decide (0 < p)) op c) := by
  by_cases y : 0 < p
  · obtain ⟨S1, e1, o1, p1, w1⟩ := st_add hC h hl op 0
    have e1' : fX2_add T kc (nI op) 0 S = some ((), S1) := e1
    rw [if_neg (show ¬ nI p ≤ 0 by rw [show (0 : Int32) = nI 0 from rfl, n_le (by omega) (by omega)]; omega), hC.2.1, e1', b_q, decide_eq_true y]
    have ea : aoC true op c = c ++ [(op, 0)] := if_pos rfl
    rw [ea]
    have hlen : l0 + (c ++ [(op, 0)]).length = l0 + c.length + 1 := by rw [List.length_append]; rfl
    exact ⟨S1, rfl, o1, by rw [hlen]; exact p1, wrC_app w w1⟩
  · rw [if_pos (show nI p ≤ 0 by rw [show (0 : Int32) = nI 0 from rfl, n_le (by omega) (by omega)]; omega), decide_eq_false y]
    exact ⟨S, rfl, oC_refl, h, w⟩
theorem resC_app {S0 S S' : zS} {l0 : Nat} {c : List (Nat × Nat)} {r : PR} (o : oC kc S0 S) (w : wrC kc S0 S l0 c) (h : resC X m kc S (l0 + c.length) r S') : resC X m kc S0 l0 (prB r (fun j k' c' => .inr (j, k', c ++ c'))) S' := by
  cases r with
  | inl e => exact ⟨oC_tr o h.1, h.2⟩
  | inr p =>
    obtain ⟨j, k', c'⟩ := p
    obtain ⟨o2, s2, w2⟩ := h
    refine ⟨oC_tr o o2, ?_, wrC_app w w2⟩
    show stC X m kc S' j k' (l0 + (c ++ c').length)
    rw [List.length_append, ← Nat.add_assoc]; exact s2
theorem c_ps (hC : cdT T kc) (hX : okX X m) : ∀ n, (∀ f d i k S l r, 2 * (10 - d) + 1 ≤ f → d ≤ 10 → stC X m kc S i k l → 1 ≤ i → k ≤ 60 → l ≤ i → psF X n false d i k false false = some r → ∃ S', fX6_rec f 0 T 2 (nI d) S = some ((), S') ∧ resC X m kc S l r S') ∧ (∀ f d i k p2 p3 S l r, 2 * (10 - d) + 1 ≤ f → d ≤ 10 → stC X m kc S i k l → p2 < i → p3 < i → k ≤ 60 → l + bN (decide (0 < p3)) + bN (decide (0 < p2)) ≤ i → psF X n true d i k (decide (0 < p3)) (decide (0 < p2)) = some r → ∃ S', tE T (fX6_rec f) (nI d) (nI p2) (nI p3) S S' ∧ resC X m kc S l r S') := by
  intro n
  induction n with
  | zero => exact ⟨fun f d i k S l r _ _ _ _ _ _ h => (by cases h), fun f d i k p2 p3 S l r _ _ _ _ _ _ _ h => (by cases h)⟩
  | succ n ih =>
    obtain ⟨ihF, ihT⟩ := ih
    have hm := hX.1
    have hk7 := hC.2.2.2
    refine ⟨?_, ?_⟩
    · intro f d i k S l r hf hd h h1 hk hl hps
      obtain ⟨f', rfl⟩ : ∃ f', f = f' + 1 := ⟨f - 1, by omega⟩
      have hi := h.2.1
      have hr := h.2.2.1
      have hb := hX.2.2.2.2.2.2.2 i
      have e18 : (nI (X.1 i) = 18) = (X.1 i = 18) := nI_eqL (show (18 : Int32) = nI 18 from rfl) (by omega) (by decide)
      have e34 : (nI (X.1 i) = 34) = (X.1 i = 34) := nI_eqL (show (34 : Int32) = nI 34 from rfl) (by omega) (by decide)
      have e10 : (nI d < 10) = (d < 10) := by rw [show (10 : Int32) = nI 10 from rfl, n_lt (by omega) (by omega)]
      have ef : fX6_rec (f' + 1) 0 T 2 (nI d) S = fX6_readFactB T (fX6_rec f') 2 (nI d) S := rfl
      -- too deep
      have deep : ∀ s0, d = 10 → ∃ S', fX6_readFactB_b51 T (fX6_rec f') 2 (nI d) s0 S = some ((), S') ∧ resC X m kc S l (.inl (2, X.2.2.1 i)) S' := by
        intro s0 hd10
        obtain ⟨S', e, q1, q2⟩ := st_fail (T := T) h hk7 2
        have e' : fX6_fail T 2 2 S = some ((), S') := e
        unfold fX6_readFactB_b51
        rw [if_neg (show ¬ nI d < 10 by rw [e10]; omega), e', b_q]
        exact ⟨S', rfl, q1, q2⟩
      unfold psF at hps
      rw [ef]
      unfold fX6_readFactB fX6_readFactB_b14
      rw [hr.2.1]
      by_cases y : X.1 i = 18
      · have him : i < m := by
          apply Classical.byContradiction
          intro q
          have := (hX.2.1 i).mpr (by omega)
          omega
        rw [if_pos y] at hps
        rw [if_pos (show nI (X.1 i) = 18 by rw [e18]; exact y), if_neg n10]
        by_cases z : d < 10
        · rw [if_pos z] at hps
          obtain ⟨r1, e1, e2⟩ := ob_inr hps
          obtain ⟨S1, u1, u2, u3, u4⟩ := st_next hC hX h him
          obtain ⟨S2, e3, o3, r3⟩ := ihF f' (d + 1) (i + 1) k S1 l r1 (by omega) (by omega) u4 (by omega) hk (by omega) e1
          have o1 := oC_14 (kc := kc) u2 u3
          have er := (Option.some.inj e2).symm
          unfold fX6_readFactB_b51 fX6_readFactB_b104
          rw [if_pos (show nI d < 10 by rw [e10]; exact z), u1, b_q, if_neg n10, n_addL, e3, b_q, hC.2.1]
          cases r1 with
          | inl e =>
            obtain ⟨S3, e4, o4, p4⟩ := pf_add hC r3 18 0
            rw [e4, b_q, er]
            exact ⟨S3, rfl, oC_tr o1 (oC_tr o3 o4), p4⟩
          | inr p =>
            obtain ⟨j, k', c⟩ := p
            have g := g_psF hX n false (d + 1) (i + 1) k false false (by omega) (by omega) j k' c e1
            rw [if_neg (by decide)] at g
            obtain ⟨g1, g2, g3, g4, -, -, g7, -⟩ := g
            obtain ⟨r4, w4⟩ := r3
            obtain ⟨S3, e4, o4, p4, w5⟩ := st_add hC r4 (show l + c.length < 512 by omega) 18 0
            have e4' : fX2_add T kc 18 0 S2 = some ((), S3) := e4
            rw [e4', b_q, er]
            refine ⟨S3, rfl, oC_tr o1 (oC_tr o3 o4), ?_, ?_⟩
            · show stC X m kc S3 j k' (l + (c ++ [(18, 0)]).length)
              rw [List.length_append]; exact p4
            · have wa : wrC kc S S2 l c := ⟨fun b hb => (w4.1 b hb).trans (u3 _ _ (by omega)), w4.2.1, fun q hq => w4.2.2.1 q (by rw [u3 _ _ (by omega)]; exact hq), w4.2.2.2⟩
              exact wrC_app wa w5
        · rw [if_neg z] at hps
          obtain ⟨S', e, q⟩ := deep 1 (by omega)
          rw [e, ← Option.some.inj hps]
          exact ⟨S', rfl, q⟩
      · rw [if_neg y] at hps
        rw [if_neg (show ¬ nI (X.1 i) = 18 by rw [e18]; exact y), if_pos rfl]
        by_cases y2 : X.1 i = 34
        · have him : i < m := by
            apply Classical.byContradiction
            intro q
            have := (hX.2.1 i).mpr (by omega)
            omega
          rw [if_pos y2] at hps
          rw [if_pos (show nI (X.1 i) = 34 by rw [e34]; exact y2)]
          by_cases z : d < 10
          · rw [if_pos z] at hps
            obtain ⟨r1, e1, e2⟩ := ob_inr hps
            obtain ⟨S1, u1, u2, u3, u4⟩ := st_next hC hX h him
            obtain ⟨f'', rfl⟩ : ∃ f'', f' = f'' + 1 := ⟨f' - 1, by omega⟩
            have e1' : psF X n true (d + 1) (i + 1) k (decide (0 < 0)) (decide (0 < 0)) = some r1 := e1
            obtain ⟨S2, t2, o3, r3⟩ := ihT f'' (d + 1) (i + 1) k 0 0 S1 l r1 (by omega) (by omega) u4 (by omega) (by omega) hk (by show l + 0 + 0 ≤ i + 1; omega) e1'
            obtain ⟨w, e3, e4⟩ := tE_l2 (show ¬ 400 ≤ nI 0 by decide) t2
            have o1 := oC_14 (kc := kc) u2 u3
            have er := (Option.some.inj e2).symm
            have etest : fX6_rec (f'' + 1) 1 T 2 (nI (d + 1)) S1 = some ((), S2) := by
              have : fX6_rec (f'' + 1) 1 T 2 (nI (d + 1)) S1 = fX6_readTestB T (fX6_rec f'') 2 (nI (d + 1)) S1 := rfl
              rw [this]
              have e3' : lp (fun a => fX6_readTestB_l2 T (fX6_rec f'') 2 (nI (d + 1)) a.1 a.2) (0, S1) = some w := e3
              unfold fX6_readTestB fX6_readTestB_b96
              rw [e3', b1_q, ← e4]
              cases w <;> rfl
            unfold fX6_readFactB_b51 fX6_readFactB_b104
            rw [if_pos (show nI d < 10 by rw [e10]; exact z), u1, b_q, if_pos rfl, n_addL, etest, b_q]
            cases r1 with
            | inl e =>
              have hF := flt_ok (okF_ps hX _ _ _ _ _ _ _ e1)
              have : ∃ S3, fX6_expect T 2 35 S2 = some ((), S3) ∧ oC kc S2 S3 ∧ pfC X m kc S3 (flt e) := by
                unfold fX6_expect fX6_expect_b20
                by_cases v : S2.1 2 2 = 35
                · obtain ⟨S3, e5, o5, p5⟩ := pf_next hC hX r3
                  rw [if_pos v, e5, b_q]; exact ⟨S3, rfl, o5, p5⟩
                · rw [if_neg v, pf_fail hF r3, b_q]; exact ⟨S2, rfl, oC_refl, r3⟩
              obtain ⟨S3, e5, o5, p5⟩ := this
              rw [e5, b_q, er]
              exact ⟨S3, rfl, oC_tr o1 (oC_tr o3 o5), p5⟩
            | inr p =>
              obtain ⟨j, k', c⟩ := p
              have g := g_psF hX n true (d + 1) (i + 1) k false false (by omega) (by omega) j k' c e1
              rw [if_pos rfl] at g
              obtain ⟨g1, g2, g3, g4, -, -, g7, -⟩ := gP_T g
              obtain ⟨r4, w4⟩ := r3
              have hbj := hX.2.2.2.2.2.2.2 j
              have e35 : (nI (X.1 j) = 35) = (X.1 j = 35) := nI_eqL (show (35 : Int32) = nI 35 from rfl) (by omega) (by decide)
              have wa : wrC kc S S2 l c := ⟨fun b hb => (w4.1 b hb).trans (u3 _ _ (by omega)), w4.2.1, fun q hq => w4.2.2.1 q (by rw [u3 _ _ (by omega)]; exact hq), w4.2.2.2⟩
              unfold fX6_expect fX6_expect_b20
              rw [r4.2.2.1.2.1, er]
              show ∃ S', _ ∧ resC X m kc S l (if X.1 j = 35 then .inr (j + 1, k', c) else .inl (0, X.2.2.1 j)) S'
              by_cases v : X.1 j = 35
              · have hjm : j < m := by
                  apply Classical.byContradiction
                  intro q
                  have := (hX.2.1 j).mpr (by omega)
                  omega
                obtain ⟨S3, v1, v2, v3, v4⟩ := st_next hC hX r4 hjm
                rw [if_pos (show nI (X.1 j) = 35 by rw [e35]; exact v), v1, b_q, b_q, if_pos v]
                exact ⟨S3, rfl, oC_tr o1 (oC_tr o3 (oC_14 v2 v3)), v4, wr_next hk7 v3 wa⟩
              · obtain ⟨S3, v1, v2, v3⟩ := st_fail (T := T) r4 hk7 0
                have v1' : fX6_fail T 2 0 S2 = some ((), S3) := v1
                rw [if_neg (show ¬ nI (X.1 j) = 35 by rw [e35]; exact v), v1', b_q, b_q, if_neg v]
                exact ⟨S3, rfl, oC_tr o1 (oC_tr o3 v2), v3⟩
          · rw [if_neg z] at hps
            obtain ⟨S', e, q⟩ := deep 0 (by omega)
            rw [e, ← Option.some.inj hps]
            exact ⟨S', rfl, q⟩
        · rw [if_neg y2] at hps
          rw [if_neg (show ¬ nI (X.1 i) = 34 by rw [e34]; exact y2), ← Option.some.inj hps]
          exact c_cmp hC hX h h1 hk hl
    · intro f d i k p2 p3 S l r hf hd h hp2 hp3 hk hl hps
      have hi := h.2.1
      unfold psF at hps
      obtain ⟨r1, e1, e2⟩ := ob_inr hps
      obtain ⟨S1, e3, o3, r3⟩ := ihF f d i k S l r1 hf hd h (by omega) hk (by omega) e1
      have h4 : ¬ 400 ≤ nI p3 := by rw [n_leL (by omega) (by omega)]; omega
      cases r1 with
      | inl e =>
        have hF := flt_ok (okF_ps hX _ _ _ _ _ _ _ e1)
        obtain ⟨S2, t2, o2, q2⟩ := pf_tE (X := X) (m := m) hC hF (x2 := nI p2) h4 e3 r3
        have er : Sum.inl e = r := Option.some.inj e2
        rw [← er]
        exact ⟨S2, t2, oC_tr o3 o2, q2⟩
      | inr p =>
        obtain ⟨j, k', c⟩ := p
        have g := g_psF hX n false d i k false false (by omega) (by omega) j k' c e1
        rw [if_neg (by decide)] at g
        obtain ⟨g1, g2, g3, g4, -, -, g7, -⟩ := g
        obtain ⟨r4, w4⟩ := r3
        have hbj := hX.2.2.2.2.2.2.2 j
        have e17' : (nI (X.1 j) = 17) = (X.1 j = 17) := nI_eqL (show (17 : Int32) = nI 17 from rfl) (by omega) (by decide)
        have e16' : (nI (X.1 j) = 16) = (X.1 j = 16) := nI_eqL (show (16 : Int32) = nI 16 from rfl) (by omega) (by decide)
        have e2' : (if X.1 j = 17 then (psF X n true d (j + 1) k' true (decide (0 < p2))).bind (fun r => some (prB r (fun j k' c' => .inr (j, k', aoC (decide (0 < p3)) 17 c ++ c'))))
          else if X.1 j = 16 then (psF X n true d (j + 1) k' false true).bind (fun r => some (prB r (fun j k' c' => .inr (j, k', aoC (decide (0 < p2)) 16 (aoC (decide (0 < p3)) 17 c) ++ c'))))
          else some (.inr (j, k', aoC (decide (0 < p2)) 16 (aoC (decide (0 < p3)) 17 c)))) = some r := e2
        have ba : bN (decide (0 < p3)) ≤ 1 := by unfold bN; split <;> omega
        have bo : bN (decide (0 < p2)) ≤ 1 := by unfold bN; split <;> omega
        have bt : bN true = 1 := rfl
        have bf : bN false = 0 := rfl
        -- the AND
        obtain ⟨S2, k2, o2, s2, w2⟩ := st_ao (S0 := S) (l0 := l) hC r4 w4 17 p3 (by omega) (show l + c.length < 512 by omega) (K := fun S => fX6_readTestB_b37 T (fX6_rec f) 2 (nI d) (nI p2) (nI p3) S)
        have la : (aoC (decide (0 < p3)) 17 c).length = c.length + bN (decide (0 < p3)) := aoC_len
        have l11 : fX6_readTestB_l11 T (fX6_rec f) 2 (nI d) (nI p2) (nI p3) S = fX6_readTestB_b37 T (fX6_rec f) 2 (nI d) (nI p2) (nI p3) S2 := by
          rw [← k2]
          unfold fX6_readTestB_l11
          rw [if_neg h4, e3, b_q]
          rfl
        have b37 : fX6_readTestB_b37 T (fX6_rec f) 2 (nI d) (nI p2) (nI p3) S2 = if X.1 j = 17 then zb (fX6_next T 2 S2) fun _ S11 => zlet (nI p3 + 1) fun u12 => some (.inl (u12, S11)) else some (.inr (.inr S2)) := by
          unfold fX6_readTestB_b37
          rw [s2.2.2.2.1, if_pos rfl, s2.2.2.1.2.1]
          by_cases y : X.1 j = 17
          · rw [if_pos (show nI (X.1 j) = 17 by rw [e17']; exact y), if_pos y]
          · rw [if_neg (show ¬ nI (X.1 j) = 17 by rw [e17']; exact y), if_neg y]
        rw [b37] at l11
        have o13 := oC_tr o3 o2
        have nx : X.1 j = 17 ∨ X.1 j = 16 → j < m := by
          intro q
          apply Classical.byContradiction
          intro q2
          have := (hX.2.1 j).mpr (by omega)
          omega
        by_cases y : X.1 j = 17
        · rw [if_pos y] at e2' l11
          obtain ⟨r5, e5, e6⟩ := ob_inr e2'
          obtain ⟨S3, v1, v2, v3, v4⟩ := st_next hC hX s2 (nx (Or.inl y))
          rw [v1, b_q, let_q, n_addL] at l11
          have e5' : psF X n true d (j + 1) k' (decide (0 < p3 + 1)) (decide (0 < p2)) = some r5 := by rw [decide_eq_true (show 0 < p3 + 1 by omega)]; exact e5
          obtain ⟨S4, t4, q4⟩ := ihT f d (j + 1) k' p2 (p3 + 1) S3 _ r5 hf hd v4 (by omega) (by omega) g4 (by rw [decide_eq_true (show 0 < p3 + 1 by omega), la]; omega) e5'
          refine ⟨S4, tE_go l11 t4, ?_⟩
          rw [← Option.some.inj e6]
          exact resC_app (oC_tr o13 (oC_14 v2 v3)) (wr_next hk7 v3 w2) q4
        · rw [if_neg y] at e2' l11
          -- the OR
          obtain ⟨S3, k3, o4, s3, w3⟩ := st_ao (S0 := S) (l0 := l) hC s2 w2 16 p2 (by omega) (show l + (aoC (decide (0 < p3)) 17 c).length < 512 by rw [la]; omega) (K := fun S => fX6_readTestB_b80 T (fX6_rec f) 2 (nI d) (nI p2) S)
          have lo : (aoC (decide (0 < p2)) 16 (aoC (decide (0 < p3)) 17 c)).length = c.length + bN (decide (0 < p3)) + bN (decide (0 < p2)) := by rw [aoC_len, aoC_len]
          have b66 : fX6_readTestB_b66 T (fX6_rec f) 2 (nI d) (nI p2) S2 = fX6_readTestB_b80 T (fX6_rec f) 2 (nI d) (nI p2) S3 := by
            rw [← k3]
            unfold fX6_readTestB_b66
            rfl
          have b80 : fX6_readTestB_b80 T (fX6_rec f) 2 (nI d) (nI p2) S3 = if X.1 j = 16 then zb (fX6_next T 2 S3) fun _ S22 => zlet (nI p2 + 1) fun u23 => some (.inl (u23, S22)) else some (.inr (.inr S3)) := by
            unfold fX6_readTestB_b80
            rw [s3.2.2.2.1, if_pos rfl, s3.2.2.1.2.1]
            by_cases z : X.1 j = 16
            · rw [if_pos (show nI (X.1 j) = 16 by rw [e16']; exact z), if_pos z]
            · rw [if_neg (show ¬ nI (X.1 j) = 16 by rw [e16']; exact z), if_neg z]
          rw [b80] at b66
          have o14 := oC_tr o13 o4
          by_cases z : X.1 j = 16
          · rw [if_pos z] at e2' b66
            obtain ⟨r5, e5, e6⟩ := ob_inr e2'
            obtain ⟨S4, v1, v2, v3, v4⟩ := st_next hC hX s3 (nx (Or.inr z))
            rw [v1, b_q, let_q, n_addL] at b66
            have e5' : psF X n true d (j + 1) k' (decide (0 < 0)) (decide (0 < p2 + 1)) = some r5 := by rw [decide_eq_true (show 0 < p2 + 1 by omega)]; exact e5
            obtain ⟨S5, t5, q5⟩ := ihT f d (j + 1) k' (p2 + 1) 0 S4 _ r5 hf hd v4 (by omega) (by omega) g4 (by rw [decide_eq_true (show 0 < p2 + 1 by omega), lo]; show _ + 0 + 1 ≤ _; omega) e5'
            obtain ⟨w, e7, e8⟩ := tE_l2 (show ¬ 400 ≤ nI (p2 + 1) by rw [n_leL (by omega) (by omega)]; omega) t5
            refine ⟨S5, ⟨.inr S2, lp_stop l11, Or.inr ⟨_, S4, w, b66, e7, e8⟩⟩, ?_⟩
            rw [← Option.some.inj e6]
            exact resC_app (oC_tr o14 (oC_14 v2 v3)) (wr_next hk7 v3 w3) q5
          · rw [if_neg z] at e2' b66
            refine ⟨S3, ⟨.inr S2, lp_stop l11, Or.inl ⟨.inr S3, b66, rfl⟩⟩, ?_⟩
            rw [← Option.some.inj e2']
            exact ⟨o14, s3, w3⟩
/-- a whole test -/
def tstS (X : TK) (i k : Nat) : PR := match psF X 900 true 0 i k false false with
  | some r => r
  | none => .inl (0, 0)
theorem tstS_eq (hX : okX X m) {i k : Nat} (h1 : 1 ≤ i) (hi : i ≤ m) : psF X 900 true 0 i k false false = some (tstS X i k) := by
  obtain ⟨r, e⟩ := psF_some hX 900 true 0 i k false false h1 hi (by have := hX.1; have : bN true = 1 := rfl; omega)
  unfold tstS
  rw [e]
theorem c_test (hC : cdT T kc) (hX : okX X m) {S : zS} {i k l : Nat} (h : stC X m kc S i k l) (h1 : 1 ≤ i) (hk : k ≤ 60) (hl : l ≤ i) : ∃ S', fX6_readTest T 2 0 S = some ((), S') ∧ resC X m kc S l (tstS X i k) S' := by
  have hi := h.2.1
  have ep : psF X 900 true 0 i k (decide (0 < 0)) (decide (0 < 0)) = some (tstS X i k) := tstS_eq hX h1 hi
  obtain ⟨S2, t2, r3⟩ := (c_ps hC hX 900).2 39 0 i k 0 0 S l _ (by omega) (by omega) h (by omega) (by omega) hk (by show l + 0 + 0 ≤ i; omega) ep
  obtain ⟨w, e3, e4⟩ := tE_l2 (show ¬ 400 ≤ nI 0 by decide) t2
  refine ⟨S2, ?_, r3⟩
  have : fX6_readTest T 2 0 S = fX6_readTestB T (fX6_rec 39) 2 (nI 0) S := rfl
  rw [this]
  have e3' : lp (fun a => fX6_readTestB_l2 T (fX6_rec 39) 2 (nI 0) a.1 a.2) (0, S) = some w := e3
  unfold fX6_readTestB fX6_readTestB_b96
  rw [e3', b1_q, ← e4]
  cases w <;> rfl
end
