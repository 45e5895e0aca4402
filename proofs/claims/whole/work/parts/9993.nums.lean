/-! NUMBERS, words wanted, an if: both sides -/
/-- a number wanted -/
def numS (X : TK) (low top i : Nat) : (Nat × Nat) ⊕ Nat := if X.1 i = 31 then (if low ≤ X.2.1 i ∧ X.2.1 i ≤ top then .inr (X.2.1 i) else .inl (1, X.2.2.1 i)) else if X.1 i = 32 then .inl (1, X.2.2.1 i) else .inl (0, X.2.2.1 i)
theorem numS_inr {X : TK} {m low top i v : Nat} (hX : okX X m) (h : numS X low top i = .inr v) : low ≤ v ∧ v ≤ top ∧ i < m ∧ X.1 i = 31 := by
  unfold numS at h
  by_cases y : X.1 i = 31
  · rw [if_pos y] at h
    have him : i < m := by
      apply Classical.byContradiction
      intro q
      have := (hX.2.1 i).mpr (by omega)
      omega
    by_cases z : low ≤ X.2.1 i ∧ X.2.1 i ≤ top
    · rw [if_pos z] at h
      have : X.2.1 i = v := Sum.inr.inj h
      exact ⟨by omega, by omega, him, y⟩
    · rw [if_neg z] at h; cases h
  · rw [if_neg y] at h
    by_cases z : X.1 i = 32
    · rw [if_pos z] at h; cases h
    · rw [if_neg z] at h; cases h
theorem numS_inl {X : TK} {m low top i : Nat} {f : Nat × Nat} (hX : okX X m) (h : numS X low top i = .inl f) : okF f := by
  have hp := hX.2.2.2.2.1 i
  unfold numS at h
  by_cases y : X.1 i = 31
  · rw [if_pos y] at h
    by_cases z : low ≤ X.2.1 i ∧ X.2.1 i ≤ top
    · rw [if_pos z] at h; cases h
    · rw [if_neg z] at h
      rw [← Sum.inl.inj h]; exact ⟨by show 1 ≤ 5; decide, hp⟩
  · rw [if_neg y] at h
    by_cases z : X.1 i = 32
    · rw [if_pos z] at h
      rw [← Sum.inl.inj h]; exact ⟨by show 1 ≤ 5; decide, hp⟩
    · rw [if_neg z] at h
      rw [← Sum.inl.inj h]; exact ⟨by show 0 ≤ 5; decide, hp⟩
/-- but for the reader's place and fault all is as it was -/
def o2 (S S' : zS) : Prop := S'.2 = S.2 ∧ ∀ a b, ¬ (a = 2 ∧ 1 ≤ b ∧ b ≤ 6) → S'.1 a b = S.1 a b
theorem o2_refl {S : zS} : o2 S S := ⟨rfl, fun _ _ _ => rfl⟩
theorem o2_tr {S S' S'' : zS} (h : o2 S S') (g : o2 S' S'') : o2 S S'' := ⟨g.1.trans h.1, fun a b x => (g.2 a b x).trans (h.2 a b x)⟩
theorem o2_C {kc : Nat} {S S' : zS} (h : o2 S S') : oC kc S S' := ⟨h.1, fun a b x _ _ => h.2 a b x⟩
section
variable {T : zT} {X : TK} {m kc : Nat}
theorem o2_next {S S' : zS} (q1 : S'.2 = S.2) (q2 : ∀ a b, ¬ (a = 2 ∧ 1 ≤ b ∧ b ≤ 4) → S'.1 a b = S.1 a b) : o2 S S' := ⟨q1, fun a b x => q2 a b (by omega)⟩
theorem pf_next2 (hC : cdT T kc) (hX : okX X m) {S : zS} {F : Int32} (h : pfC X m kc S F) : ∃ S', fX6_next T 2 S = some ((), S') ∧ o2 S S' ∧ pfC X m kc S' F := by
  obtain ⟨h1, ⟨i, hi, hr⟩, h3, l, h4, h5⟩ := id h
  have h7 := hC.2.2.2
  obtain ⟨S', e, q1, q2, q3⟩ := c_next hC hX h1 hi hr
  refine ⟨S', e, o2_next q1 q2, tkC_cg h1 (fun a b _ _ => q2 a b (by omega)) (q2 2 8 (by omega)), ⟨_, ?_, q3⟩, by rw [q2 _ _ (by omega)]; exact h3, l, h4, by rw [q2 _ _ (by omega)]; exact h5⟩
  by_cases y : X.1 i = 46
  · rw [if_pos y]; exact hi
  · rw [if_neg y]
    apply Classical.byContradiction
    intro q
    exact y ((hX.2.1 i).mpr (by omega))
theorem pf_num (hC : cdT T kc) (hX : okX X m) {S : zS} {F : Int32} (hF : ¬ F = 0) (h : pfC X m kc S F) {low top : Int32} : ∃ v S', fX6_number T 2 low top S = some (v, S') ∧ o2 S S' ∧ pfC X m kc S' F := by
  have b49 : fX6_number_b49 T 2 low S = some (low, S) := by
    unfold fX6_number_b49
    rw [pf_fail hF h, b_q]
  have b30 : ∃ v S', fX6_number_b30 T 2 low top (S.1 2 3) S = some (v, S') ∧ o2 S S' ∧ pfC X m kc S' F := by
    unfold fX6_number_b30
    by_cases a1 : S.1 2 2 = 32
    · rw [if_pos a1, b49]; exact ⟨_, S, rfl, o2_refl, h⟩
    · rw [if_neg a1]
      by_cases a2 : S.1 2 3 < low
      · rw [if_pos a2, b49]; exact ⟨_, S, rfl, o2_refl, h⟩
      · rw [if_neg a2]
        by_cases a3 : S.1 2 3 ≤ top
        · obtain ⟨S', e, o, p⟩ := pf_next2 hC hX h
          rw [if_pos a3, e, b_q]; exact ⟨_, S', rfl, o, p⟩
        · rw [if_neg a3, b49]; exact ⟨_, S, rfl, o2_refl, h⟩
  unfold fX6_number
  rw [let_q]
  by_cases a1 : S.1 2 2 = 31
  · rw [if_pos a1]; exact b30
  · rw [if_neg a1]
    by_cases a2 : S.1 2 2 = 32
    · rw [if_pos a2]; exact b30
    · rw [if_neg a2, pf_fail hF h, b_q]; exact ⟨_, S, rfl, o2_refl, h⟩
theorem st_fail2 {S : zS} {i k l : Nat} (h : stC X m kc S i k l) (hk : 7 ≤ kc) (s : Nat) : ∃ S', fX6_fail T 2 (nI s) S = some ((), S') ∧ o2 S S' ∧ pfC X m kc S' (flt (s, X.2.2.1 i)) := by
  obtain ⟨h1, h2, h3, h4, h5, h6, h7⟩ := h
  obtain ⟨S', e, q1, q2, q3⟩ := c_fail0 (T := T) (s := s) h3 h4
  exact ⟨S', e, ⟨q1, fun a b n => q2 a b (by omega)⟩, tkC_cg h1 (fun a b _ _ => q2 a b (by omega)) (q2 2 8 (by omega)), ⟨i, h2, rdC_cg h3 (fun b _ _ => q2 2 b (by omega))⟩, q3, l, h6, by rw [q2 _ _ (by omega)]; exact h7⟩
theorem c_nm (hC : cdT T kc) (hX : okX X m) {S : zS} {i k l : Nat} (h : stC X m kc S i k l) {low top : Nat} (hl : low ≤ 99999) (ht : top ≤ 99999) : ∃ v S', fX6_number T 2 (nI low) (nI top) S = some (v, S') ∧ o2 S S' ∧ match numS X low top i with
    | .inl f => pfC X m kc S' (flt f)
    | .inr V => v = nI V ∧ stC X m kc S' (i + 1) k l := by
  obtain ⟨h1, h2, h3, h4, h5, h6, h7⟩ := id h
  have hk := hC.2.2.2
  have hb := hX.2.2.2.2.2.2.2 i
  have e31 : (nI (X.1 i) = 31) = (X.1 i = 31) := nI_eqL (show (31 : Int32) = nI 31 from rfl) (by omega) (by decide)
  have e32 : (nI (X.1 i) = 32) = (X.1 i = 32) := nI_eqL (show (32 : Int32) = nI 32 from rfl) (by omega) (by decide)
  obtain ⟨S1, e1, o1, p1⟩ := st_fail2 (T := T) h hk 1
  obtain ⟨S0, e0, o0, p0⟩ := st_fail2 (T := T) h hk 0
  have e1' : fX6_fail T 2 1 S = some ((), S1) := e1
  have e0' : fX6_fail T 2 0 S = some ((), S0) := e0
  unfold fX6_number fX6_number_b30 fX6_number_b49
  rw [h3.2.1, h3.2.2.1, let_q, e1', b_q, e0', b_q]
  unfold numS
  by_cases y : X.1 i = 31
  · have him : i < m := by
      apply Classical.byContradiction
      intro q
      have := (hX.2.1 i).mpr (by omega)
      omega
    rw [if_pos (show nI (X.1 i) = 31 by rw [e31]; exact y), if_neg (show ¬ nI (X.1 i) = 32 by rw [e32]; omega), if_pos y]
    by_cases a1 : X.2.1 i < low
    · rw [if_pos (show nI (X.2.1 i) < nI low by rw [n_lt (by omega) (by omega)]; exact a1), if_neg (show ¬ (low ≤ X.2.1 i ∧ X.2.1 i ≤ top) by omega)]
      exact ⟨_, S1, rfl, o1, p1⟩
    · rw [if_neg (show ¬ nI (X.2.1 i) < nI low by rw [n_lt (by omega) (by omega)]; exact a1)]
      by_cases a2 : X.2.1 i ≤ top
      · obtain ⟨S2, e2, u1, u2, u3⟩ := st_next hC hX h him
        rw [if_pos (show nI (X.2.1 i) ≤ nI top by rw [n_le (by omega) (by omega)]; exact a2), e2, b_q, if_pos (show low ≤ X.2.1 i ∧ X.2.1 i ≤ top by omega)]
        exact ⟨_, S2, rfl, o2_next u1 u2, rfl, u3⟩
      · rw [if_neg (show ¬ nI (X.2.1 i) ≤ nI top by rw [n_le (by omega) (by omega)]; exact a2), if_neg (show ¬ (low ≤ X.2.1 i ∧ X.2.1 i ≤ top) by omega)]
        exact ⟨_, S1, rfl, o1, p1⟩
  · rw [if_neg (show ¬ nI (X.1 i) = 31 by rw [e31]; exact y), if_neg y]
    by_cases z : X.1 i = 32
    · rw [if_pos (show nI (X.1 i) = 32 by rw [e32]; exact z), if_pos (show nI (X.1 i) = 32 by rw [e32]; exact z), if_pos z]
      exact ⟨_, S1, rfl, o1, p1⟩
    · rw [if_neg (show ¬ nI (X.1 i) = 32 by rw [e32]; exact z), if_neg z]
      exact ⟨_, S0, rfl, o0, p0⟩
theorem pf_exp (hC : cdT T kc) (hX : okX X m) {S : zS} {F : Int32} (hF : ¬ F = 0) (h : pfC X m kc S F) {x : Int32} : ∃ S', fX6_expect T 2 x S = some ((), S') ∧ o2 S S' ∧ pfC X m kc S' F := by
  unfold fX6_expect fX6_expect_b20
  by_cases v : S.1 2 2 = x
  · obtain ⟨S3, e5, o5, p5⟩ := pf_next2 hC hX h
    rw [if_pos v, e5, b_q]; exact ⟨S3, rfl, o5, p5⟩
  · rw [if_neg v, pf_fail hF h, b_q]; exact ⟨S, rfl, o2_refl, h⟩
theorem c_exp (hC : cdT T kc) (hX : okX X m) {S : zS} {i k l : Nat} (h : stC X m kc S i k l) {q : Nat} (hq : q < 46) : ∃ S', fX6_expect T 2 (nI q) S = some ((), S') ∧ o2 S S' ∧ if X.1 i = q then stC X m kc S' (i + 1) k l else pfC X m kc S' (flt (0, X.2.2.1 i)) := by
  have hk := hC.2.2.2
  have hb := hX.2.2.2.2.2.2.2 i
  have hr := h.2.2.1
  unfold fX6_expect fX6_expect_b20
  rw [hr.2.1]
  by_cases y : X.1 i = q
  · have him : i < m := by
      apply Classical.byContradiction
      intro z
      have := (hX.2.1 i).mpr (by omega)
      omega
    obtain ⟨S2, e2, u1, u2, u3⟩ := st_next hC hX h him
    rw [if_pos (show nI (X.1 i) = nI q by rw [y]), e2, b_q]
    exact ⟨S2, rfl, o2_next u1 u2, by rw [if_pos y]; exact u3⟩
  · obtain ⟨S0, e0, o0, p0⟩ := st_fail2 (T := T) h hk 0
    have e0' : fX6_fail T 2 0 S = some ((), S0) := e0
    rw [if_neg (show ¬ nI (X.1 i) = nI q by rw [n_eq (by omega) (by omega)]; exact y), e0', b_q]
    exact ⟨S0, rfl, o0, by rw [if_neg y]; exact p0⟩
/-- an if and its test -/
def ifS (X : TK) (i k : Nat) : PR := if X.1 i = 3 then tstS X (i + 1) k else .inr (i, k, [])
theorem pf_if {S : zS} {F : Int32} (hF : ¬ F = 0) (h : pfC X m kc S F) : fX6_readIf T 2 S = some (-1, S) := by
  unfold fX6_readIf fX6_readIf_b15
  rw [h.2.2.1, if_neg hF]
def cdI (c : List (Nat × Nat)) : List (Nat × Nat) := if c = [] then [] else c ++ [(48, 0)]
theorem tst_ne {i k j k' : Nat} {c : List (Nat × Nat)} (hX : okX X m) (h1 : 1 ≤ i) (hi : i ≤ m) (h : tstS X i k = .inr (j, k', c)) : gT X m i k j k' c ∧ ¬ c = [] := by
  have e := tstS_eq (k := k) hX h1 hi
  rw [h] at e
  have g := g_psF hX 900 true 0 i k false false h1 hi j k' c e
  rw [if_pos rfl] at g
  have g' := gP_T g
  refine ⟨g', fun q => ?_⟩
  have h5 := g'.2.2.2.2.1 []
  rw [q] at h5
  have h5' : some ([] : List Bool) = some [true] := h5
  cases (Option.some.inj h5')
theorem okF_tst {i k : Nat} {f : Nat × Nat} (hX : okX X m) (h1 : 1 ≤ i) (hi : i ≤ m) (h : tstS X i k = .inl f) : okF f := by
  have e := tstS_eq (k := k) hX h1 hi
  rw [h] at e
  exact okF_ps hX 900 true 0 i k false false e
theorem c_if (hC : cdT T kc) (hX : okX X m) {S : zS} {i k l : Nat} (h : stC X m kc S i k l) (hk : k ≤ 60) (hl : l ≤ i) : ∃ v S', fX6_readIf T 2 S = some (v, S') ∧ oC kc S S' ∧ match ifS X i k with
    | .inl f => pfC X m kc S' (flt f)
    | .inr p => v = (if p.2.2 = [] then -1 else nI l) ∧ stC X m kc S' p.1 p.2.1 (l + (cdI p.2.2).length) ∧ wrC kc S S' l (cdI p.2.2) := by
  have hk7 := hC.2.2.2
  have hb := hX.2.2.2.2.2.2.2 i
  have hr := h.2.2.1
  have hm := hX.1
  have hi := h.2.1
  have e3 : (nI (X.1 i) = 3) = (X.1 i = 3) := nI_eqL (show (3 : Int32) = nI 3 from rfl) (by omega) (by decide)
  unfold fX6_readIf fX6_readIf_b15 ifS
  rw [h.2.2.2.1, if_pos rfl, hr.2.1]
  by_cases y : X.1 i = 3
  · have him : i < m := by
      apply Classical.byContradiction
      intro z
      have := (hX.2.1 i).mpr (by omega)
      omega
    obtain ⟨S2, e2, u1, u2, u3⟩ := st_next hC hX h him
    obtain ⟨S3, e4, o4, r4⟩ := c_test hC hX u3 (by omega) hk (by omega)
    have o2' : oC kc S S2 := oC_14 u1 u2
    rw [if_pos (show nI (X.1 i) = 3 by rw [e3]; exact y), e2, b_q, hC.2.1, u3.2.2.2.2.2.2, let_q, e4, b_q, if_pos y]
    cases hv : tstS X (i + 1) k with
    | inl f =>
      rw [hv] at r4
      obtain ⟨S4, e5, o5, p5⟩ := pf_add hC r4 48 0
      rw [e5, b_q]
      exact ⟨_, S4, rfl, oC_tr o2' (oC_tr o4 o5), p5⟩
    | inr p =>
      obtain ⟨j, k', c⟩ := p
      obtain ⟨g, gne⟩ := tst_ne hX (show 1 ≤ i + 1 by omega) (by omega) hv
      rw [hv] at r4
      obtain ⟨s4, w4⟩ := r4
      have g7 := g.2.2.2.2.2.2.1
      have g2 := g.2.1
      have g1 := g.1
      have s4' : stC X m kc S3 j k' (l + c.length) := s4
      obtain ⟨S4, e5, o5, p5, w5⟩ := st_add hC s4' (show l + c.length < 512 by omega) 48 0
      have e5' : fX2_add T kc 48 0 S3 = some ((), S4) := e5
      rw [e5', b_q]
      have ec : cdI c = c ++ [(48, 0)] := if_neg gne
      have w4' : wrC kc S S3 l c := ⟨fun b hb => (w4.1 b hb).trans (u2 _ _ (by omega)), w4.2.1, fun q hq => w4.2.2.1 q (by rw [u2 _ _ (by omega)]; exact hq), w4.2.2.2⟩
      refine ⟨_, S4, rfl, oC_tr o2' (oC_tr o4 o5), (if_neg gne).symm, ?_, ?_⟩
      · show stC X m kc S4 j k' (l + (cdI c).length)
        rw [ec, List.length_append]; exact p5
      · show wrC kc S S4 l (cdI c)
        rw [ec]; exact wrC_app w4' w5
  · rw [if_neg (show ¬ nI (X.1 i) = 3 by rw [e3]; exact y), if_neg y]
    exact ⟨_, S, rfl, oC_refl, rfl, h, wrC_nil⟩
end
/-- but for the place and the fault all is as it was -/
def oN (S S' : zS) : Prop := S'.2 = S.2 ∧ ∀ a b, ¬ (a = 187 ∧ (b = 2 ∨ b = 3)) → S'.1 a b = S.1 a b
theorem oN_refl {S : zS} : oN S S := ⟨rfl, fun _ _ _ => rfl⟩
theorem oN_tr {S S' S'' : zS} (h : oN S S') (g : oN S' S'') : oN S S'' := ⟨g.1.trans h.1, fun a b x => (g.2 a b x).trans (h.2 a b x)⟩
theorem oN_P {S S' : zS} (h : oP S S') : oN S S' := ⟨h.1, fun a b x => h.2 a b (by omega)⟩
theorem oN_S {s : Nat} {S S' : zS} (h : oN S S') : oS s S S' := ⟨h.1, fun a b x _ => h.2 a b (by omega)⟩
theorem oN_z {S : zS} {b : Nat} (hb : b = 2 ∨ b = 3) {x : Int32} : oN S (zI S 187 b x) := ⟨rfl, fun a c y => by rw [zI_at, if_neg (by omega)]⟩
section
variable {T : zT} {u : Nat → Nat} {n s m : Nat} {w : Nat → Bool}
theorem pr_num (hT : iT T) {S : zS} {F : Int32} {c : Nat} (hc : c ≤ 1000) (hF : ¬ F = 0) (h : pfR u n s c S F) {low top : Int32} : ∃ S', fX12_amount T 187 low top S = some (0, S') ∧ oN S S' ∧ pfR u n s c S' F := by
  obtain ⟨S1, e1, o1, p1⟩ := pr_blanks hT hc h
  unfold fX12_amount fX12_amount_b25 fX12_amount_b46
  rw [e1, b_q, let_q, p1.2.2, if_neg hF, if_neg hF]
  exact ⟨S1, rfl, oN_P o1, p1⟩
theorem r_nm (hT : iT T) {S : zS} {i e k : Nat} (h : stR u n s m S i e k) (hm : m ≤ n ∧ pl u n m = n ∧ ∀ i, i < m → pl u n i < n) {low top : Nat} (hl : low ≤ 99999) (ht : top ≤ 99999) : ∃ v S', fX12_amount T 187 (nI low) (nI top) S = some (v, S') ∧ oN S S' ∧ match numS (tkX u n w) low top i with
    | .inl f => pfR u n s 0 S' (flt f)
    | .inr V => v = nI V ∧ stR u n s m S' (i + 1) e k := by
  obtain ⟨S1, e1, o1, p1, s1⟩ := st_blanks hT h
  have hple := pl_le (u := u) (n := n) i
  have hn := h.1.1.1
  obtain ⟨v, S2, e2, q1, q2, ⟨p2, hp2, ep2, hpe⟩, q4, q5⟩ := r_digits0 hT s1.1.1 p1 hple s1.2.2.2.1 (top := top) ht
  have o2 : oN S1 S2 := ⟨q1, fun a b x => q2 a b (by omega)⟩
  have ov := oN_tr (oN_P o1) o2
  have ct2 := ctR_o s1.1 (oN_S o2)
  have eK : (tkX u n w).1 i = (tok u n (pl u n i)).1 := rfl
  have eV : (tkX u n w).2.1 i = (tok u n (pl u n i)).2.1 := rfl
  have eP : (tkX u n w).2.2.1 i = pl u n i := rfl
  have pfx : ∀ f : Nat × Nat, okF f → S2.1 187 3 = flt f → ∃ v' S', fX12_amount_b25 T 187 (nI low) (nI (pl u n i)) v S2 = some (v', S') ∧ oN S S' ∧ pfR u n s 0 S' (flt f) := by
    intro f hf h3
    unfold fX12_amount_b25 fX12_amount_b46
    rw [h3, if_neg (flt_ok hf)]
    exact ⟨v, S2, rfl, ov, ct2, ⟨p2, by omega, ep2⟩, h3⟩
  unfold fX12_amount
  rw [e1, b_q, p1, let_q, if_pos s1.2.2.2.1, e2, b_q]
  unfold numS
  rw [eK, eV, eP]
  by_cases y : (tok u n (pl u n i)).1 = 31
  · rw [if_pos y] at q4 ⊢
    have hv := q5 y
    have hpn : pl u n i < n := by
      apply Classical.byContradiction
      intro z
      rw [tok_end (by omega)] at y; cases y
    have hv5 := (tok_r (u := u) hpn).2.2.1
    by_cases a1 : (tok u n (pl u n i)).2.1 ≤ top
    · rw [if_pos a1] at q4
      unfold fX12_amount_b25 fX12_amount_b46
      rw [q4, if_pos rfl, hv]
      by_cases a2 : low ≤ (tok u n (pl u n i)).2.1
      · rw [if_pos (show nI low ≤ nI (tok u n (pl u n i)).2.1 by rw [n_le (by omega) (by omega)]; exact a2), if_pos ⟨a2, a1⟩]
        refine ⟨_, S2, rfl, ov, rfl, ct2, i_lt hm hpn, ⟨p2, hp2, ep2, by rw [hpe y]; rfl⟩, q4, ?_, ?_⟩
        · rw [q2 _ _ (by omega)]; exact s1.2.2.2.2.1
        · rw [q2 _ _ (by omega)]; exact s1.2.2.2.2.2
      · have ef : fX12_fails T 187 1 (nI (pl u n i)) S2 = some ((), zI S2 187 3 (flt (1, pl u n i))) := r_fails0 q4 (c := 1)
        rw [if_neg (show ¬ nI low ≤ nI (tok u n (pl u n i)).2.1 by rw [n_le (by omega) (by omega)]; exact a2), ef, b_q, if_neg (fun q => a2 q.1)]
        exact ⟨_, _, rfl, oN_tr ov (oN_z (Or.inr rfl)), ctR_z ct2 (by omega), ⟨p2, by omega, by rw [zI_eqn (by decide)]; exact ep2⟩, by rw [zI_eqs]⟩
    · rw [if_neg a1] at q4
      rw [if_neg (fun q => a1 q.2)]
      exact pfx (1, pl u n i) ⟨by show 1 ≤ 5; decide, by show pl u n i ≤ 400; omega⟩ q4
  · rw [if_neg y] at q4 ⊢
    by_cases z : (tok u n (pl u n i)).1 = 32
    · rw [if_pos z] at q4 ⊢
      exact pfx (1, pl u n i) ⟨by show 1 ≤ 5; decide, by show pl u n i ≤ 400; omega⟩ q4
    · rw [if_neg z] at q4 ⊢
      exact pfx (0, pl u n i) ⟨by show 0 ≤ 5; decide, by show pl u n i ≤ 400; omega⟩ q4
/-- a word taken, if it stands here -/
theorem r_takes (hT : iT T) {S : zS} {i e k : Nat} (h : stR u n s m S i e k) (hm : m ≤ n ∧ pl u n m = n ∧ ∀ i, i < m → pl u n i < n) {q : Nat} (hq : q < 27) (hq1 : 1 ≤ q) : ∃ S', fX12_takes T 187 q S = some (if (tok u n (pl u n i)).1 = sW q then 1 else 0, S') ∧ oP S S' ∧ (if (tok u n (pl u n i)).1 = sW q then stR u n s m S' (i + 1) e k else stR u n s m S' i e k ∧ S'.1 187 2 = nI (pl u n i)) := by
  obtain ⟨S1, e1, o1, p1, s1⟩ := st_blanks hT h
  have hple := pl_le (u := u) (n := n) i
  have hn := h.1.1.1
  unfold fX12_takes fX12_takes_b27
  rw [e1, b_q, r_stands hT s1.1.1 p1 (by omega) hq hq1, b1_q, p1]
  by_cases y : (tok u n (pl u n i)).1 = sW q
  · obtain ⟨t1, t2⟩ := tok_wEnd hq hq1 (txR_255 s1.1.1) y
    have hz := (sW_at q hq hq1).2.2.1
    have him := i_lt hm (show pl u n i < n by omega)
    have ez : zsL q = nI (zsN q) := rfl
    rw [if_pos y, if_neg n10, ez, n_add, let_q, ← t1]
    refine ⟨_, rfl, oP_tr o1 oP_z, ?_⟩
    rw [if_pos y]
    refine ⟨ctR_z s1.1 (Or.inl rfl), him, ⟨(tok u n (pl u n i)).2.2, by omega, by rw [zI_eqs], rfl⟩, ?_, ?_, ?_⟩
    · rw [zI_eqn (by decide)]; exact s1.2.2.2.1
    · rw [zI_eqn (by decide)]; exact s1.2.2.2.2.1
    · rw [zI_eqn (by decide)]; exact s1.2.2.2.2.2
  · rw [if_neg y, if_pos rfl, Int32.add_zero, let_q]
    have ez : (zI S1 187 2 (nI (pl u n i))) = S1 := by rw [← p1, zI_self]
    rw [ez]
    exact ⟨S1, rfl, o1, by rw [if_neg y]; exact ⟨s1, p1⟩⟩
theorem pr_if {S : zS} {F : Int32} {c : Nat} (hF : ¬ F = 0) (h : pfR u n s c S F) : fX12_ifTest T 187 S = some ((), S) := by
  unfold fX12_ifTest fX12_ifTest_b21
  rw [h.2.2, if_neg hF]
theorem r_if (hT : iT T) (hw : okWs w s) (hn4 : n ≤ 400) (hm : m ≤ n ∧ pl u n m = n ∧ ∀ i, i < m → pl u n i < n) {S : zS} {i e k : Nat} (h : stR u n s m S i e k) (h7 : S.1 187 7 = nI 0) (hk : k ≤ 60) (he : 3 * e ≤ 6 * k + pl u n i) : ∃ S', fX12_ifTest T 187 S = some ((), S') ∧ resE u n s m S e (ifS (tkX u n w) i k) S' := by
  obtain ⟨S1, e1, o1, r1⟩ := r_takes hT h hm (q := 12) (by decide) (by decide)
  have w12 : sW 12 = 3 := by decide
  rw [w12] at e1 r1
  have hX := tkX_ok (w := w) hn4 (by rcases hw with ⟨-, q⟩ | ⟨-, q⟩ <;> simp [q]) hm
  have eK : (tkX u n w).1 i = (tok u n (pl u n i)).1 := rfl
  unfold fX12_ifTest fX12_ifTest_b21 ifS
  rw [if_pos h.2.2.2.1, e1, b_q, eK]
  by_cases y : (tok u n (pl u n i)).1 = 3
  · rw [if_pos y] at r1
    have hpm := (pl_mono (u := u) (n := n) i).1
    obtain ⟨S2, e2, o2, r2⟩ := r_test hT hw hn4 hm r1 (by rw [o1.2 _ _ (by omega)]; exact h7) (by omega) hk (by omega)
    rw [if_pos y, if_neg n10, e2, b_q, if_pos y]
    refine ⟨S2, rfl, oT_tr (oT_P o1) o2, ?_⟩
    cases hv : tstS (tkX u n w) (i + 1) k with
    | inl f => rw [hv] at r2; exact r2
    | inr p =>
      rw [hv] at r2
      obtain ⟨a1, a2, a3⟩ := r2
      exact ⟨a1, a2, wrR_cg0 a3 (fun a b q => o1.2 a b (by omega))⟩
  · rw [if_neg y] at r1
    rw [if_neg y, if_pos rfl, if_neg y]
    exact ⟨S1, rfl, oT_P o1, r1.1, by rw [o1.2 _ _ (by omega)]; exact h7, wrR_cg0 (wrR_cg wrR_nil (fun a b q => rfl)) (fun a b q => o1.2 a b (by omega))⟩
end
