/-! A SET AND A NEED, by the class -/
theorem zT24 {T : zT} (hT : iT T) : zr T 24 6 = 25 ∧ zr T 24 7 = 26 ∧ zr T 24 8 = 27 ∧ zr T 24 9 = 28 ∧ zr T 24 10 = 29 ∧ zr T 24 11 = 30 ∧ zr T 24 12 = 31 ∧ zr T 24 13 = 35 ∧ zr T 24 14 = 39 := (bkT_24 hT).1
theorem zT31 {T : zT} (hT : iT T) : (zr T 31 0 = 32 ∧ zr T 31 1 = 33 ∧ zr T 31 2 = 34) ∧ (zr T 35 0 = 36 ∧ zr T 35 1 = 37 ∧ zr T 35 2 = 38) ∧ zr T 39 0 = 40 := (bkT_24 hT).2
theorem c_add1 {T : zT} {kk : Nat} (hz : zr T kk 0 = kk + 1 ∧ zr T kk 1 = kk + 2 ∧ zr T kk 2 = kk + 3) {S : zS} {c : Nat} (h : S.1 kk 3 = nI c) (hc : c ≤ 24) {x y z : Int32} : ∃ S', fX1_add T kk x y z S = some ((), S') ∧ S'.2 = S.2 ∧ (∀ a b, ¬ (kk ≤ a ∧ a ≤ kk + 3) → S'.1 a b = S.1 a b) ∧ (c < 24 → S'.1 kk 3 = nI (c + 1) ∧ ∀ j, 1 ≤ j → j ≤ 3 → ∀ b, S'.1 (kk + j) b = if b = c then (if j = 1 then x else if j = 2 then y else z) else S.1 (kk + j) b) := by
  unfold fX1_add fX1_add_b49
  rw [h]
  by_cases q : c = 24
  · rw [if_pos (show 24 ≤ nI c by rw [n_leL (by omega) (by omega)]; omega)]
    exact ⟨S, rfl, rfl, fun _ _ _ => rfl, fun q => absurd q (by omega)⟩
  · rw [if_neg (show ¬ 24 ≤ nI c by rw [n_leL (by omega) (by omega)]; omega), g_in (by omega) (by decide), hz.1, tn_nI (by omega), let_q, zI_ne (by omega), h, g_in (by omega) (by decide), hz.2.1, tn_nI (by omega), let_q, zI_ne (by omega), zI_ne (by omega), h, g_in (by omega) (by decide), hz.2.2, tn_nI (by omega), let_q, zI_ne (by omega), zI_ne (by omega), zI_ne (by omega), h, n_addL, let_q]
    refine ⟨_, rfl, rfl, fun a b q => by rw [zI_ne (by omega), zI_ne (by omega), zI_ne (by omega), zI_ne (by omega)], fun _ => ⟨by rw [zI_eqs], fun j h1 h3 b => ?_⟩⟩
    have : j = 1 ∨ j = 2 ∨ j = 3 := by omega
    rcases this with rfl | rfl | rfl
    · rw [zI_ne (by omega), zI_ne (by omega), zI_ne (by omega), zI_eq]; rfl
    · rw [zI_ne (by omega), zI_ne (by omega), zI_eq, zI_ne (by omega)]; rfl
    · rw [zI_ne (by omega), zI_eq, zI_ne (by omega), zI_ne (by omega)]; rfl
theorem cCls_new {S S' : zS} {kk kc : Nat} {L : List Cl} {c : Cl} {tv : Int32} (h : cCls S kk kc L) (h24 : L.length < 24) (hc : okC c.2.2.2) (e3 : S'.1 kk 3 = nI (L.length + 1)) (e : ∀ j, 1 ≤ j → j ≤ 3 → ∀ b, S'.1 (kk + j) b = if b = L.length then (if j = 1 then c.2.1 else if j = 2 then c.2.2.1 else tv) else S.1 (kk + j) b) (old : ∀ x d, cTest S kc x d → cTest S' kc x d) (new : cTest S' kc tv c.2.2.2) : cCls S' kk kc (L ++ [c]) := by
  obtain ⟨h1, h2, h3⟩ := h
  refine ⟨by rw [e3, List.length_append]; rfl, by rw [List.length_append]; show L.length + 1 ≤ 24; omega, fun i d hd => ?_⟩
  have e1 := e 1 (by decide) (by decide) i
  have e2 := e 2 (by decide) (by decide) i
  have e4 := e 3 (by decide) (by decide) i
  by_cases y : i < L.length
  · rw [List.getElem?_append_left y] at hd
    rw [if_neg (by omega)] at e1 e2 e4
    obtain ⟨a1, a2, a3, a4⟩ := h3 i d hd
    exact ⟨a1, by rw [e1]; exact a2, by rw [e2]; exact a3, by rw [e4]; exact old _ _ a4⟩
  · rw [List.getElem?_append_right (by omega)] at hd
    have hi1 : i - L.length < 1 := (List.getElem?_eq_some_iff.mp hd).1
    have hi : i = L.length := by omega
    rw [hi, Nat.sub_self] at hd
    have hcc := (Option.some.inj hd).symm
    rw [if_pos hi] at e1 e2 e4
    rw [hcc]
    exact ⟨hc, by rw [e1]; rfl, by rw [e2]; rfl, by rw [e4]; exact new⟩
section
variable {T : zT} {X : TK} {m : Nat}
theorem fil_le {L : List Cl} {k : Nat} : (L.filter (ofK k)).length ≤ L.length := List.length_filter_le _ _
/-- a clause of a set or a need, told -/
theorem bkC_new {S S2 S' : zS} {B : Bk} {kd : Nat} {x v tv : Int32} {c2 : List (Nat × Nat)} {l l' : Nat} (hB : bkC S 24 B) (h24 : B.2.length < 24) (hk : kd = 1 ∨ kd = 2) (hc : okC c2) (hl : S.1 39 1 = nI l) (hll : l + (cdI c2).length = l') (h512 : l' ≤ 512) (hl' : S2.1 39 1 = nI l') (o : ∀ a b, 24 ≤ a → a ≤ 38 → S2.1 a b = S.1 a b) (w : wrC 39 S S2 l (cdI c2)) (htv : tv = if c2 = [] then -1 else nI l) (q2 : ∀ a b, ¬ (27 + 4 * kd ≤ a ∧ a ≤ 27 + 4 * kd + 3) → S'.1 a b = S2.1 a b) (q3 : S'.1 (27 + 4 * kd) 3 = nI ((B.2.filter (ofK kd)).length + 1)) (q4 : ∀ j, 1 ≤ j → j ≤ 3 → ∀ b, S'.1 (27 + 4 * kd + j) b = if b = (B.2.filter (ofK kd)).length then (if j = 1 then x else if j = 2 then v else tv) else S2.1 (27 + 4 * kd + j) b) : bkC S' 24 (addB B (kd, x, v, c2)) := by
  obtain ⟨a1, a2, a3, a4, a5, n, a6, a7⟩ := hB
  have hlS' : S'.1 39 1 = nI l' := by rw [q2 _ _ (by omega)]; exact hl'
  have hlen := fil_le (L := B.2) (k := kd)
  have rows : ∀ b, b < l → S'.1 (39 + 1) b = S.1 (39 + 1) b := fun b hb => by rw [q2 _ _ (by omega)]; exact w.1 b hb
  have old : ∀ y d, cTest S 39 y d → cTest S' 39 y d := fun y d hd => cTest_wr hd hl (by omega) hlS' h512 (by omega) rows
  have new : cTest S' 39 tv c2 := by
    by_cases z : c2 = []
    · rw [if_pos z] at htv
      exact Or.inl ⟨z, htv⟩
    · rw [if_neg z] at htv
      have ec : cdI c2 = c2 ++ [(48, 0)] := if_neg z
      have elen : (cdI c2).length = c2.length + 1 := by rw [ec, List.length_append]; rfl
      refine Or.inr ⟨z, l, htv, by omega, ?_⟩
      rw [← ec]
      exact cAt_new (S := S) (fun j p hj => by rw [q2 _ _ (by omega)]; exact w.2.1 j p hj) hlS' h512 (by omega)
  have f1 : (B.2 ++ [((kd, x, v, c2) : Cl)]).filter (ofK kd) = B.2.filter (ofK kd) ++ [(kd, x, v, c2)] := by
    rw [List.filter_append, List.filter_cons_of_pos (by unfold ofK; simp)]
    rfl
  have f0 : ∀ k, k ≠ kd → (B.2 ++ [((kd, x, v, c2) : Cl)]).filter (ofK k) = B.2.filter (ofK k) := fun k hk => by
    rw [List.filter_append, List.filter_cons_of_neg (by unfold ofK; simpa using fun q => hk q.symm)]
    exact List.append_nil _
  have keep : ∀ kk L, (kk = 31 ∨ kk = 35) → kk ≠ 27 + 4 * kd → cCls S kk 39 L → cCls S' kk 39 L := fun kk L h1 h2 h => by
    obtain ⟨b1, b2, b3⟩ := h
    have e : ∀ j b, j ≤ 3 → S'.1 (kk + j) b = S.1 (kk + j) b := fun j b hj => by rw [q2 _ _ (by omega), o _ _ (by omega) (by omega)]
    refine ⟨by rw [show S'.1 kk 3 = S.1 kk 3 from e 0 3 (by decide)]; exact b1, b2, fun i c hc => ?_⟩
    obtain ⟨d1, d2, d3, d4⟩ := b3 i c hc
    exact ⟨d1, by rw [e 1 i (by decide)]; exact d2, by rw [e 2 i (by decide)]; exact d3, by rw [e 3 i (by decide)]; exact old _ _ d4⟩
  have grow : ∀ L, L = B.2.filter (ofK kd) → cCls S (27 + 4 * kd) 39 L → cCls S' (27 + 4 * kd) 39 (L ++ [(kd, x, v, c2)]) := fun L hL h => cCls_new (c := (kd, x, v, c2)) (tv := tv) h (by rw [hL]; omega) hc (by rw [hL]; exact q3) (fun j h1 h3 b => by
    rw [q4 j h1 h3 b, hL]
    by_cases z : b = (B.2.filter (ofK kd)).length
    · rw [if_pos z, if_pos z]
    · rw [if_neg z, if_neg z]; exact o _ _ (by omega) (by omega)) old new
  refine ⟨fun i hi => ?_, fun t ht hz j hj => ?_, ?_, ?_, fun c hc hm => ?_, l', h512, hlS'⟩
  · rw [q2 _ _ (by omega), o _ _ (by omega) (by omega)]; exact a1 i hi
  · rw [q2 _ _ (by omega), o _ _ (by omega) (by omega)]; exact a2 t ht hz j hj
  · show cCls S' 31 39 ((B.2 ++ [((kd, x, v, c2) : Cl)]).filter (ofK 1))
    rcases hk with rfl | rfl
    · rw [f1]; exact grow _ rfl a3
    · rw [f0 1 (by decide)]; exact keep 31 _ (Or.inl rfl) (by decide) a3
  · show cCls S' 35 39 ((B.2 ++ [((kd, x, v, c2) : Cl)]).filter (ofK 2))
    rcases hk with rfl | rfl
    · rw [f0 2 (by decide)]; exact keep 35 _ (Or.inr rfl) (by decide) a4
    · rw [f1]; exact grow _ rfl a4
  · show zm (S'.1 39 2) 21 = true
    rw [q2 _ _ (by omega)]
    rcases List.mem_append.mp hc with hc | hc
    · exact w.2.2.1 21 (a5 c hc hm)
    · rw [List.mem_singleton.mp hc] at hm
      have hm' : (47, 21) ∈ c2 := hm
      refine w.2.2.2 21 (by decide) ?_
      unfold cdI
      rw [if_neg (fun q => by rw [q] at hm'; cases hm')]
      exact List.mem_append.mpr (Or.inl hm')
theorem c_earn (hC : cdT T 39) (hX : okX X m) (hw : X.2.2.2 = wB) {S : zS} {i k l kd : Nat} {B : Bk} {x : Int32} (h : stC X m 39 S i k l) (hl : l ≤ i) (hk : k ≤ 60) (hb : bkC S 24 B) (h24 : B.2.length < 24) (hkd : kd = 1 ∨ kd = 2) (ht : ∀ c : Cl, c.1 = kd → tldL S (B.2 ++ [c])) : ∃ S1, (zb (fX6_number T 2 0 9999 S) fun r1 S3 => zb (fX6_readIf T 2 S3) fun r4 S6 => zb (fX1_add T (27 + 4 * kd) x r1 r4 S6) fun _ S9 => some ((), S9)) = some ((), S1) ∧ bcR X m S (earnS X B kd x i k) S1 := by
  have hz : zr T (27 + 4 * kd) 0 = 27 + 4 * kd + 1 ∧ zr T (27 + 4 * kd) 1 = 27 + 4 * kd + 2 ∧ zr T (27 + 4 * kd) 2 = 27 + 4 * kd + 3 := by
    rcases hkd with rfl | rfl
    · exact (zT31 hC.1).1
    · exact (zT31 hC.1).2.1
  have hcnt : ∀ S' : zS, (∀ a b, 24 ≤ a → a ≤ 38 → S'.1 a b = S.1 a b) → S'.1 (27 + 4 * kd) 3 = nI (B.2.filter (ofK kd)).length := fun S' o => by
    rw [o _ _ (by omega) (by omega)]
    rcases hkd with rfl | rfl
    · exact hb.2.2.1.1
    · exact hb.2.2.2.1.1
  have hlen := fil_le (L := B.2) (k := kd)
  obtain ⟨v, S1, e1, o1, r1⟩ := c_nm hC hX h (low := 0) (top := 9999) (by decide) (by decide)
  have e1' : fX6_number T 2 0 9999 S = some (v, S1) := e1
  rw [e1', b_q]
  unfold earnS
  cases hn : numS X 0 9999 i with
  | inl f =>
    rw [hn] at r1
    have hF := flt_ok (numS_inl hX hn)
    obtain ⟨S2, e2, q1, q2, -⟩ := c_add1 hz (hcnt S1 (fun a b _ _ => o1.2 a b (by omega))) (by omega) (x := x) (y := v) (z := -1)
    rw [pf_if hF r1, b_q, e2, b_q]
    have k2 : oK S1 S2 := ⟨q1, fun a b q => q2 a b (by omega)⟩
    exact ⟨S2, rfl, fBc_tr (fBc_2 o1) (fBc_K k2), pfC_K r1 k2⟩
  | inr V =>
    rw [hn] at r1
    obtain ⟨hv, s1⟩ := r1
    obtain ⟨n1, n2, n3⟩ := num_i hX hn
    obtain ⟨tv, S2, e2, o2', r2⟩ := c_if hC hX s1 hk (show l ≤ i + 1 by omega)
    have c2a : ∀ a b, 24 ≤ a → a ≤ 38 → S2.1 a b = S.1 a b := fun a b h1 h2 => by rw [o2'.2 a b (by omega) (by omega) (by omega), o1.2 a b (by omega)]
    obtain ⟨S3, e3, q1, q2, q3⟩ := c_add1 hz (hcnt S2 c2a) (by omega) (x := x) (y := v) (z := tv)
    rw [e2, b_q, e3, b_q]
    have k3 : oK S2 S3 := ⟨q1, fun a b q => q2 a b (by omega)⟩
    refine ⟨S3, rfl, fBc_tr (fBc_2 o1) (fBc_tr (fBc_C o2') (fBc_K k3)), ?_⟩
    show match (match ifS X (i + 1) k with
      | .inl f => (.inl f : BR)
      | .inr q => .inr (q.1, q.2.1, addB B (kd, x, nI V, q.2.2))) with
      | .inl f => pfC X m 39 S3 (flt f)
      | .inr p => ∃ l', cB X m S3 p.1 p.2.1 l' p.2.2
    cases hv2 : ifS X (i + 1) k with
    | inl f =>
      rw [hv2] at r2
      exact pfC_K r2 k3
    | inr q =>
      obtain ⟨j2, k2, c2⟩ := q
      obtain ⟨x1, x2, x3, x4, x5, x6, x7, x8, x9⟩ := ifS_ok hX n3 hk hv2
      rw [hv2] at r2
      obtain ⟨htv, s2, w2⟩ := r2
      have s2' : stC X m 39 S2 j2 k2 (l + (cdI c2).length) := s2
      have w2' : wrC 39 S1 S2 l (cdI c2) := w2
      obtain ⟨q3a, q3b⟩ := q3 (by omega)
      rw [hw] at x5
      refine ⟨l + (cdI c2).length, stC_K s2' k3, by show l + (cdI c2).length ≤ j2; omega, x4, ?_, ?_⟩
      · rw [← hv]
        exact bkC_new (S := S1) (S2 := S2) (l := l) (l' := l + (cdI c2).length) (tv := tv) (bkC_2 hb o1) h24 hkd (x5.imp id (fun q => ⟨q, by show nvs c2 ≤ 60; omega⟩)) s1.2.2.2.2.2.2 rfl s2'.2.2.2.2.2.1 s2'.2.2.2.2.2.2 (fun a b h1 h2 => o2'.2 a b (by omega) (by omega) (by omega)) w2' htv q2 q3a q3b
      · exact tldL_cg (ht _ rfl) (by rw [k3.2 _ _ (by omega), o2'.2 _ _ (by omega) (by omega) (by omega), o1.2 _ _ (by omega)])
theorem c_earnF (hC : cdT T 39) (hX : okX X m) {S : zS} {F : Int32} (hF : ¬ F = 0) (h : pfC X m 39 S F) {B : Bk} (hb : bkC S 24 B) (h24 : B.2.length < 24) {x : Int32} : ∃ S1, (zb (fX6_number T 2 0 9999 S) fun r1 S3 => zb (fX6_readIf T 2 S3) fun r4 S6 => zb (fX1_add T 31 x r1 r4 S6) fun _ S9 => some ((), S9)) = some ((), S1) ∧ fBc S S1 ∧ pfC X m 39 S1 F := by
  have hlen := fil_le (L := B.2) (k := 1)
  obtain ⟨v, S1, e1, o1, p1⟩ := pf_num hC hX hF h (low := 0) (top := 9999)
  obtain ⟨S2, e2, q1, q2, -⟩ := c_add1 (zT31 hC.1).1 (show S1.1 31 3 = nI (B.2.filter (ofK 1)).length by rw [o1.2 _ _ (by omega)]; exact hb.2.2.1.1) (by omega) (x := x) (y := v) (z := -1)
  have k2 : oK S1 S2 := ⟨q1, fun a b q => q2 a b (by omega)⟩
  rw [e1, b_q, pf_if hF p1, b_q, e2, b_q]
  exact ⟨S2, rfl, fBc_tr (fBc_2 o1) (fBc_K k2), pfC_K p1 k2⟩
/-- a thing told of -/
theorem c_has24 {S : zS} {x : Int32} (h : S.1 24 0 = x) {t : Nat} (ht : t < 8) : fX0_has T 24 (nI t) S = some (if zm x t = true then 1 else 0) := by
  unfold fX0_has fX0_has_b25 fX0_has_b26
  rw [if_neg (show ¬ nI t < 0 by rw [show (0 : Int32) = nI 0 from rfl, n_lt (by omega) (by decide)]; omega), if_neg (show ¬ 8 ≤ nI t by rw [n_leL (by omega) (by omega)]; omega), h]
  by_cases z : zm x t = true
  · rw [if_neg (fun q => by rw [(m_sh0 (by omega)).mp q] at z; cases z), if_pos z]
    exact g_t (by decide)
  · rw [if_pos ((m_sh0 (by omega)).mpr (by simpa using z)), if_neg z]
    exact g_t (by decide)
theorem c_lt (hC : cdT T 39) (hX : okX X m) (hL : ∀ i, X.1 i = 30 → X.2.1 i ≤ 7) {hm : Int32} : ∀ n v S i k l x, n + v = 400 → stC X m 39 S i k l → S.1 24 0 = hm → ∃ e S', lp (fun a => fX6_readSet_l4 T 2 24 a.1 a.2.1 a.2.2) (x, nI v, S) = some e ∧ o2 S S' ∧ match ltS X hm n i x with
    | .inl f => e = .inr S' ∧ ∃ j, stC X m 39 S' j k l ∧ f = (5, X.2.2.1 j)
    | .inr p => e = .inl (p.2, S') ∧ i ≤ p.1 ∧ stC X m 39 S' p.1 k l := by
  intro n
  induction n with
  | zero =>
    intro v S i k l x hv h h0
    refine ⟨.inl (x, S), S, lp_stop ?_, o2_refl, rfl, Nat.le_refl _, h⟩
    show fX6_readSet_l4 T 2 24 x (nI v) S = _
    unfold fX6_readSet_l4
    rw [if_pos (show 400 ≤ nI v by rw [n_leL (by omega) (by omega)]; omega)]
  | succ n ih =>
    intro v S i k l x hv h h0
    have hb := hX.2.2.2.2.2.2.2 i
    have el : fX6_readSet_l4 T 2 24 x (nI v) S = if X.1 i = 30 then (if zm hm (X.2.1 i) = true ∧ zm x (X.2.1 i) = false then zb (fX6_next T 2 S) fun _ S12 => some (.inl (x ||| (1 <<< (nI (X.2.1 i) &&& 31)), nI (v + 1), S12)) else some (.inr (.inr S))) else some (.inr (.inl (x, S))) := by
      unfold fX6_readSet_l4
      rw [if_neg (show ¬ 400 ≤ nI v by rw [n_leL (by omega) (by omega)]; omega), if_pos h.2.2.2.1, h.2.2.1.2.1]
      by_cases y : X.1 i = 30
      · have h7 := hL i y
        rw [if_pos (show nI (X.1 i) = 30 by rw [y]; rfl), if_pos y, h.2.2.1.2.2.1, let_q, c_has24 h0 (by omega), b1_q]
        by_cases z : zm hm (X.2.1 i) = true
        · rw [if_pos z, if_neg n10]
          by_cases w : zm x (X.2.1 i) = false
          · rw [if_pos ((m_sh0 (by omega)).mpr w), if_pos ⟨z, w⟩, let_q, n_addL]
            simp only [let_q]
          · rw [if_neg (fun q => w ((m_sh0 (by omega)).mp q)), if_neg (fun q => w q.2)]
        · rw [if_neg z, if_pos rfl, if_neg (fun q => z q.1)]
      · rw [if_neg (show ¬ nI (X.1 i) = 30 by rw [nI_eqL (show (30 : Int32) = nI 30 from rfl) (by omega) (by decide)]; exact y), if_neg y]
    unfold ltS
    by_cases y : X.1 i = 30
    · rw [if_pos y] at el ⊢
      by_cases z : zm hm (X.2.1 i) = true ∧ zm x (X.2.1 i) = false
      · rw [if_pos z] at el ⊢
        have him : i < m := by
          apply Classical.byContradiction
          intro q
          have := (hX.2.1 i).mpr (by omega)
          omega
        obtain ⟨S2, e2, u1, u2, u3⟩ := st_next hC hX h him
        rw [e2, b_q] at el
        obtain ⟨e, S', e3, o3, r3⟩ := ih (v + 1) S2 (i + 1) k l _ (by omega) u3 (by rw [u2 _ _ (by omega)]; exact h0)
        refine ⟨e, S', lp_go el e3, o2_tr (o2_next u1 u2) o3, ?_⟩
        cases hr : ltS X hm n (i + 1) (x ||| (1 <<< (nI (X.2.1 i) &&& 31))) with
        | inl f => rw [hr] at r3; exact r3
        | inr p => rw [hr] at r3; exact ⟨r3.1, by have := r3.2.1; omega, r3.2.2⟩
      · rw [if_neg z] at el ⊢
        exact ⟨_, S, lp_stop el, o2_refl, rfl, i, h, rfl⟩
    · rw [if_neg y] at el ⊢
      exact ⟨_, S, lp_stop el, o2_refl, rfl, Nat.le_refl _, h⟩
theorem c_set (hC : cdT T 39) (hX : okX X m) (hw : X.2.2.2 = wB) (hL : ∀ i, X.1 i = 30 → X.2.1 i ≤ 7) {S : zS} {i k l : Nat} {B : Bk} (h : stC X m 39 S i k l) (hl : l ≤ i) (hk : k ≤ 60) (hb : bkC S 24 B) (h24 : B.2.length < 24) (ht : ∀ c : Cl, c.1 = 1 → tldL S (B.2 ++ [c])) : ∃ S1, fX6_readSet T 2 24 S = some ((), S1) ∧ bcR X m S (setS X B i k) S1 := by
  obtain ⟨e, S1, e1, o1, r1⟩ := c_lt hC hX hL (hm := bth B) 400 0 S i k l 0 rfl h (hb.1 0 (by decide))
  have e1' : lp (fun a : Int32 × Int32 × zS => fX6_readSet_l4 T 2 24 a.1 a.2.1 a.2.2) (0, 0, S) = some e := e1
  unfold fX6_readSet setS
  rw [e1', b1_q]
  cases hv : ltS X (bth B) 400 i 0 with
  | inl f =>
    rw [hv] at r1
    obtain ⟨rfl, j, s1, rfl⟩ := r1
    obtain ⟨S2, e2, o2', p2⟩ := st_fail2 (T := T) s1 (by decide) 5
    have e2' : fX6_fail T 2 5 S1 = some ((), S2) := e2
    refine ⟨S2, ?_, fBc_tr (fBc_2 o1) (fBc_2 o2'), p2⟩
    show fX6_readSet_b51 T 2 S1 = _
    unfold fX6_readSet_b51
    rw [e2', b_q]
  | inr p =>
    rw [hv] at r1
    obtain ⟨rfl, hij, s1⟩ := r1
    show ∃ S2, fX6_readSet_b74 T 2 24 p.2 S1 = _ ∧ bcR X m S (if p.2 = 0 then .inl (0, X.2.2.1 p.1) else if X.1 p.1 = 2 then earnS X B 1 p.2 (p.1 + 1) k else .inl (0, X.2.2.1 p.1)) S2
    unfold fX6_readSet_b74
    by_cases z : p.2 = 0
    · obtain ⟨S2, e2, o2', p2⟩ := st_fail2 (T := T) s1 (by decide) 0
      have e2' : fX6_fail T 2 0 S1 = some ((), S2) := e2
      rw [if_pos z, if_pos z, e2', b_q]
      exact ⟨S2, rfl, fBc_tr (fBc_2 o1) (fBc_2 o2'), p2⟩
    · obtain ⟨S2, e2, o2', r2⟩ := c_exp hC hX s1 (q := 2) (by decide)
      have e2' : fX6_expect T 2 2 S1 = some ((), S2) := e2
      rw [if_neg z, if_neg z, e2', b_q, (zT24 hC.1).2.2.2.2.2.2.1]
      have o12 := o2_tr o1 o2'
      by_cases y : X.1 p.1 = 2
      · rw [if_pos y] at r2
        rw [if_pos y]
        obtain ⟨S3, e3, f3, r3⟩ := c_earn (x := p.2) hC hX hw r2 (show l ≤ p.1 + 1 by omega) hk (bkC_2 hb o12) h24 (Or.inl rfl) (fun c hc => tldL_cg (ht c hc) (o12.2 _ _ (by omega)))
        exact ⟨S3, e3, fBc_tr (fBc_2 o12) f3, r3⟩
      · rw [if_neg y] at r2
        rw [if_neg y]
        have hF := flt_ok (show okF (0, X.2.2.1 p.1) from ⟨by show 0 ≤ 5; decide, hX.2.2.2.2.1 p.1⟩)
        obtain ⟨S3, e3, f3, r3⟩ := c_earnF (x := p.2) hC hX hF r2 (bkC_2 hb o12) h24
        exact ⟨S3, e3, fBc_tr (fBc_2 o12) f3, r3⟩
end
