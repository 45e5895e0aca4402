/-! SUMS AND TESTS READ, by the class -/
def tkC (X : TK) (m : Nat) (S : zS) : Prop := (∀ i, i ≤ m → S.1 4 i = nI (X.1 i) ∧ S.1 5 i = nI (X.2.1 i) ∧ S.1 6 i = nI (X.2.2.1 i)) ∧ S.1 2 8 = if X.2.2.2 22 = true then 1 else 0
/-- the reader at token i -/
def rdC (X : TK) (S : zS) (i : Nat) : Prop := S.1 2 1 = nI i ∧ S.1 2 2 = nI (X.1 i) ∧ S.1 2 3 = nI (X.2.1 i) ∧ S.1 2 4 = nI (X.2.2.1 i)
def oC (kc : Nat) (S S' : zS) : Prop := S'.2 = S.2 ∧ ∀ a b, ¬ (a = 2 ∧ 1 ≤ b ∧ b ≤ 6) → a ≠ kc → a ≠ kc + 1 → S'.1 a b = S.1 a b
theorem oC_refl {kc : Nat} {S : zS} : oC kc S S := ⟨rfl, fun _ _ _ _ _ => rfl⟩
theorem oC_tr {kc : Nat} {S S' S'' : zS} (h : oC kc S S') (g : oC kc S' S'') : oC kc S S'' := ⟨g.1.trans h.1, fun a b x y z => (g.2 a b x y z).trans (h.2 a b x y z)⟩
def cdT (T : zT) (kc : Nat) : Prop := iT T ∧ zr T 2 9 = kc ∧ zr T kc 0 = kc + 1 ∧ 7 ≤ kc
def flt (e : Nat × Nat) : Int32 := nI (1 + 8 * e.2 + e.1)
/-- after a fault -/
def pfC (X : TK) (m kc : Nat) (S : zS) (F : Int32) : Prop := tkC X m S ∧ (∃ i, i ≤ m ∧ rdC X S i) ∧ S.1 2 5 = F ∧ ∃ l, l ≤ 512 ∧ S.1 kc 1 = nI l
def stC (X : TK) (m kc : Nat) (S : zS) (i k l : Nat) : Prop := tkC X m S ∧ i ≤ m ∧ rdC X S i ∧ S.1 2 5 = 0 ∧ S.1 2 6 = nI k ∧ l ≤ 512 ∧ S.1 kc 1 = nI l
def wrC (kc : Nat) (S S' : zS) (l : Nat) (c : List (Nat × Nat)) : Prop := (∀ b, b < l → S'.1 (kc + 1) b = S.1 (kc + 1) b) ∧ (∀ j p, c[j]? = some p → S'.1 (kc + 1) (l + j) = enc p) ∧ (∀ q, zm (S.1 kc 2) q = true → zm (S'.1 kc 2) q = true) ∧ ∀ q, q < 32 → (47, q) ∈ c → zm (S'.1 kc 2) q = true
theorem wrC_nil {kc : Nat} {S : zS} {l : Nat} : wrC kc S S l [] := ⟨fun _ _ => rfl, fun j p h => (by cases h), fun _ h => h, fun q _ h => (by cases h)⟩
theorem wrC_app {kc : Nat} {S S1 S2 : zS} {l : Nat} {c1 c2 : List (Nat × Nat)} (h : wrC kc S S1 l c1) (g : wrC kc S1 S2 (l + c1.length) c2) : wrC kc S S2 l (c1 ++ c2) := by
  obtain ⟨h1, h2, h3, h4⟩ := h
  obtain ⟨g1, g2, g3, g4⟩ := g
  refine ⟨fun b hb => (g1 b (by omega)).trans (h1 b hb), fun j p hj => ?_, fun q hq => g3 q (h3 q hq), fun q hq hm => ?_⟩
  · by_cases y : j < c1.length
    · rw [List.getElem?_append_left y] at hj
      rw [g1 _ (by omega)]; exact h2 j p hj
    · rw [List.getElem?_append_right (by omega)] at hj
      have := g2 _ p hj
      rwa [show l + c1.length + (j - c1.length) = l + j by omega] at this
  · rcases List.mem_append.mp hm with q1 | q1
    · exact g3 q (h4 q hq q1)
    · exact g4 q hq q1
theorem wrC_cg {kc : Nat} {S S1 S2 : zS} {l : Nat} {c : List (Nat × Nat)} (h : wrC kc S S1 l c) (e : ∀ b, S2.1 (kc + 1) b = S1.1 (kc + 1) b) (e2 : S2.1 kc 2 = S1.1 kc 2) : wrC kc S S2 l c := ⟨fun b hb => (e b).trans (h.1 b hb), fun j p hj => (e _).trans (h.2.1 j p hj), fun q hq => by rw [e2]; exact h.2.2.1 q hq, fun q hq hm => by rw [e2]; exact h.2.2.2 q hq hm⟩
def resC (X : TK) (m kc : Nat) (S : zS) (l : Nat) (r : PR) (S' : zS) : Prop := oC kc S S' ∧ match r with
  | .inl e => pfC X m kc S' (flt e)
  | .inr p => stC X m kc S' p.1 p.2.1 (l + p.2.2.length) ∧ wrC kc S S' l p.2.2
theorem flt_0 {e : Nat × Nat} (h1 : e.2 ≤ 400) (h2 : e.1 ≤ 7) : ¬ flt e = 0 := by
  unfold flt
  intro q
  have e0 : (0 : Int32) = nI 0 := rfl
  rw [e0, n_eq (by omega) (by omega)] at q
  omega
section
variable {T : zT} {X : TK} {m kc : Nat}
theorem tkC_o {S S' : zS} (h : tkC X m S) (hk : 7 ≤ kc) (o : oC kc S S') : tkC X m S' := ⟨fun i hi => by
  rw [o.2 4 i (by omega) (by omega) (by omega), o.2 5 i (by omega) (by omega) (by omega), o.2 6 i (by omega) (by omega) (by omega)]
  exact h.1 i hi, by rw [o.2 2 8 (by omega) (by omega) (by omega)]; exact h.2⟩
theorem c_add (hC : cdT T kc) {S : zS} {l : Nat} (hl : S.1 kc 1 = nI l) (h512 : l ≤ 512) {x y : Int32} : ∃ S', fX2_add T kc x y S = some ((), S') ∧ oC kc S S' ∧ (∀ b, S'.1 2 b = S.1 2 b) ∧ ∃ l', l' ≤ 512 ∧ S'.1 kc 1 = nI l' ∧ (l < 512 → l' = l + 1 ∧ ∀ a b, x = nI a → y = nI b → wrC kc S S' l [(a, b)]) := by
  obtain ⟨-, -, hk, h7⟩ := hC
  -- the word asked
  have b38 : ∀ S1 : zS, ∃ S2, fX2_add_b38 T kc x y S1 = some ((), S2) ∧ S2.2 = S1.2 ∧ (∀ a b, ¬ (a = kc ∧ b = 2) → S2.1 a b = S1.1 a b) ∧ (∀ q, zm (S1.1 kc 2) q = true → zm (S2.1 kc 2) q = true) ∧ ∀ b, b < 32 → x = nI 47 → y = nI b → zm (S2.1 kc 2) b = true := by
    intro S1
    unfold fX2_add_b38 fX2_add_b56
    by_cases q : x = 47
    · rw [if_pos q, let_q]
      refine ⟨_, rfl, rfl, fun a b n => ?_, fun u hu => ?_, fun b hb _ hy => ?_⟩
      · rw [zI_at, if_neg n]
      · rw [zI_eq, if_pos rfl, m_or, hu]; rfl
      · rw [zI_eq, if_pos rfl, m_or, hy, m_shl hb hb, decide_eq_true rfl, Bool.or_true]
    · rw [if_neg q]
      exact ⟨S1, rfl, rfl, fun _ _ _ => rfl, fun _ h => h, fun b _ h => absurd h q⟩
  unfold fX2_add
  rw [hl]
  by_cases z : l = 512
  · obtain ⟨S2, e, q1, q2, q3, q4⟩ := b38 S
    rw [if_pos (show 512 ≤ nI l by rw [n_leL (by omega) (by omega)]; omega), e]
    exact ⟨S2, rfl, ⟨q1, fun a b _ n1 _ => q2 a b (fun u => n1 u.1)⟩, fun b => q2 2 b (by omega), l, h512, by rw [q2 _ _ (by omega)]; exact hl, fun h => absurd h (by omega)⟩
  · rw [if_neg (show ¬ 512 ≤ nI l by rw [n_leL (by omega) (by omega)]; omega), g_in (by omega) (by decide), hk, tn_nI (by omega), let_q, let_q]
    have e1 : (zI S (kc + 1) l ((x <<< (17 &&& 31)) ||| (y &&& 131071))).1 kc 1 = nI l := by rw [zI_ne (by omega)]; exact hl
    rw [e1, n_addL]
    obtain ⟨S2, e, q1, q2, q3, q4⟩ := b38 (zI (zI S (kc + 1) l ((x <<< (17 &&& 31)) ||| (y &&& 131071))) kc 1 (nI (l + 1)))
    rw [e]
    refine ⟨S2, rfl, ⟨q1, fun a b _ n1 n2 => by rw [q2 a b (fun u => n1 u.1), zI_ne n1, zI_ne n2]⟩, fun b => by rw [q2 2 b (by omega), zI_ne (by omega), zI_ne (by omega)], l + 1, by omega, by rw [q2 _ _ (by omega), zI_eq, if_pos rfl], fun _ => ⟨rfl, fun a b hx hy => ⟨fun u hu => ?_, fun j p hj => ?_, fun u hu => ?_, fun u hu hm => ?_⟩⟩⟩
    · rw [q2 _ _ (by omega), zI_ne (by omega), zI_eq, if_neg (by omega)]
    · have hj0 : j = 0 := by
        have := (List.getElem?_eq_some_iff.mp hj).1
        have e9 : [(a, b)].length = 1 := rfl
        omega
      subst hj0
      have hp : p = (a, b) := (Option.some.inj hj).symm
      rw [q2 _ _ (by omega), zI_ne (by omega), zI_eq, if_pos (show l + 0 = l from rfl), hp, hx, hy]; rfl
    · refine q3 u ?_
      rw [zI_eq, if_neg (by decide), zI_ne (by omega)]; exact hu
    · have e9 : (47, u) = (a, b) := List.mem_singleton.mp hm
      injection e9 with e10 e11
      exact q4 u hu (by rw [hx, ← e10]) (by rw [hy, e11])
theorem c_next (hC : cdT T kc) (hX : okX X m) {S : zS} {i : Nat} (ht : tkC X m S) (hi : i ≤ m) (hr : rdC X S i) : ∃ S', fX6_next T 2 S = some ((), S') ∧ S'.2 = S.2 ∧ (∀ a b, ¬ (a = 2 ∧ 1 ≤ b ∧ b ≤ 4) → S'.1 a b = S.1 a b) ∧ rdC X S' (if X.1 i = 46 then i else i + 1) := by
  obtain ⟨r1, r2, r3, r4⟩ := hr
  have hm := hX.1
  have hT := hC.1
  unfold fX6_next fX6_next_b85
  rw [r1, r2, if_neg (show ¬ nI i = -1 by intro q; have := z_eq.mp q; rw [nI_toInt (by omega)] at this; have em : (-1 : Int32).toInt = -1 := rfl; omega)]
  have h46 := (hX.2.2.2.2.2.2.2 i).1
  by_cases y : X.1 i = 46
  · rw [if_pos (show nI (X.1 i) = 46 by rw [y]; rfl), if_pos y]
    exact ⟨S, rfl, rfl, fun _ _ _ => rfl, r1, r2, r3, r4⟩
  · have him : i < m := by
      apply Classical.byContradiction
      intro q
      exact y ((hX.2.1 i).mpr (by omega))
    obtain ⟨t1, t2, t3⟩ := ht.1 (i + 1) (by omega)
    rw [if_neg (show ¬ nI (X.1 i) = 46 by rw [show (46 : Int32) = nI 46 from rfl, n_eq (by omega) (by omega)]; exact y), if_neg (show ¬ 400 ≤ nI i by rw [n_leL (by omega) (by omega)]; omega), if_neg y]
    unfold fX6_next_b27 fX6_next_b85
    rw [r1, n_addL, let_q]
    simp only [zT_2_0 hT, zT_3_0 hT, zT_3_1 hT, zT_3_2 hT, zI_eqs, zI_eqn (show (1 : Nat) ≠ 2 by decide), zI_eqn (show (1 : Nat) ≠ 3 by decide), zI_eqn (show (1 : Nat) ≠ 4 by decide), g_in (show i + 1 < 401 by omega) (show 401 < 2147483648 by decide), let_q, tn_nI (show i + 1 < 2147483648 by omega), zI_ne (show (4 : Nat) ≠ 2 by decide), zI_ne (show (5 : Nat) ≠ 2 by decide), zI_ne (show (6 : Nat) ≠ 2 by decide), t1, t2, t3]
    refine ⟨_, rfl, rfl, fun a b n => ?_, ?_, ?_, ?_, ?_⟩
    · by_cases z : a = 2
      · subst z
        rw [zI_eqn (by omega), zI_eqn (by omega), zI_eqn (by omega), zI_eqn (by omega)]
      · rw [zI_ne z, zI_ne z, zI_ne z, zI_ne z]
    · rw [zI_eqn (by decide), zI_eqn (by decide), zI_eqn (by decide), zI_eqs]
    · rw [zI_eqn (by decide), zI_eqn (by decide), zI_eqs]
    · rw [zI_eqn (by decide), zI_eqs]
    · rw [zI_eqs]
theorem c_fail0 {S : zS} {s : Nat} {i : Nat} (hr : rdC X S i) (h5 : S.1 2 5 = 0) : ∃ S', fX6_fail T 2 (nI s) S = some ((), S') ∧ S'.2 = S.2 ∧ (∀ a b, ¬ (a = 2 ∧ b = 5) → S'.1 a b = S.1 a b) ∧ S'.1 2 5 = flt (s, X.2.2.1 i) := by
  unfold fX6_fail fX6_fail_b22
  have e : (1 : Int32) + 8 * nI (X.2.2.1 i) + nI s = flt (s, X.2.2.1 i) := by
    unfold flt
    rw [show (8 : Int32) * nI (X.2.2.1 i) = nI (8 * X.2.2.1 i) from by rw [liq, n_mul], show (1 : Int32) = nI 1 from rfl, n_add, n_add]
  rw [h5, if_pos rfl, let_q, hr.2.2.2, e]
  exact ⟨_, rfl, rfl, fun a b n => by rw [zI_at, if_neg n], by rw [zI_eqs]⟩
theorem c_fail1 {S : zS} {x : Int32} (h5 : ¬ S.1 2 5 = 0) : fX6_fail T 2 x S = some ((), S) := by
  unfold fX6_fail fX6_fail_b22
  rw [if_neg h5]
theorem rdC_cg {S S' : zS} {i : Nat} (h : rdC X S i) (e : ∀ b, 1 ≤ b → b ≤ 4 → S'.1 2 b = S.1 2 b) : rdC X S' i := ⟨(e 1 (by omega) (by omega)).trans h.1, (e 2 (by omega) (by omega)).trans h.2.1, (e 3 (by omega) (by omega)).trans h.2.2.1, (e 4 (by omega) (by omega)).trans h.2.2.2⟩
theorem tkC_cg {S S' : zS} (h : tkC X m S) (e : ∀ a b, 4 ≤ a → a ≤ 6 → S'.1 a b = S.1 a b) (e8 : S'.1 2 8 = S.1 2 8) : tkC X m S' := ⟨fun i hi => by
  rw [e _ _ (by omega) (by omega), e _ _ (by omega) (by omega), e _ _ (by omega) (by omega)]; exact h.1 i hi, by rw [e8]; exact h.2⟩
/-! after a fault -/
theorem pf_next (hC : cdT T kc) (hX : okX X m) {S : zS} {F : Int32} (h : pfC X m kc S F) : ∃ S', fX6_next T 2 S = some ((), S') ∧ oC kc S S' ∧ pfC X m kc S' F := by
  obtain ⟨h1, ⟨i, hi, hr⟩, h3, l, h4, h5⟩ := h
  have h7 := hC.2.2.2
  obtain ⟨S', e, q1, q2, q3⟩ := c_next hC hX h1 hi hr
  refine ⟨S', e, ⟨q1, fun a b n _ _ => q2 a b (by omega)⟩, tkC_cg h1 (fun a b _ _ => q2 a b (by omega)) (q2 2 8 (by omega)), ⟨_, ?_, q3⟩, by rw [q2 _ _ (by omega)]; exact h3, l, h4, by rw [q2 _ _ (by omega)]; exact h5⟩
  by_cases y : X.1 i = 46
  · rw [if_pos y]; exact hi
  · rw [if_neg y]
    apply Classical.byContradiction
    intro q
    exact y ((hX.2.1 i).mpr (by omega))
theorem pf_add (hC : cdT T kc) {S : zS} {F : Int32} (h : pfC X m kc S F) (x y : Int32) : ∃ S', fX2_add T kc x y S = some ((), S') ∧ oC kc S S' ∧ pfC X m kc S' F := by
  obtain ⟨h1, ⟨i, hi, hr⟩, h3, l, h4, h5⟩ := h
  obtain ⟨S', e, q1, q2, l', q3, q4, -⟩ := c_add hC h5 h4 (x := x) (y := y)
  exact ⟨S', e, q1, tkC_o h1 hC.2.2.2 q1, ⟨i, hi, rdC_cg hr (fun b _ _ => q2 b)⟩, (q2 5).trans h3, l', q3, q4⟩
theorem pf_fail {S : zS} {F : Int32} (hF : ¬ F = 0) (h : pfC X m kc S F) (x : Int32) : fX6_fail T 2 x S = some ((), S) := c_fail1 (by rw [h.2.2.1]; exact hF)
theorem pf_6 (hk : 7 ≤ kc) {S : zS} {F x : Int32} (h : pfC X m kc S F) : pfC X m kc (zI S 2 6 x) F ∧ oC kc S (zI S 2 6 x) := by
  obtain ⟨h1, ⟨i, hi, hr⟩, h3, l, h4, h5⟩ := h
  refine ⟨⟨tkC_cg h1 (fun a b _ _ => zI_ne (by omega)) (zI_eqn (by decide)), ⟨i, hi, rdC_cg hr (fun b _ _ => zI_eqn (by omega))⟩, (zI_eqn (by decide)).trans h3, l, h4, (zI_ne (by omega)).trans h5⟩, rfl, fun a b n _ _ => ?_⟩
  rw [zI_at, if_neg (by omega)]
theorem c_isVal {S : zS} {i : Nat} (hX : okX X m) (hr : rdC X S i) (h8 : S.1 2 8 = if X.2.2.2 22 = true then 1 else 0) : fX6_isValueWord T 2 S = some (if X.2.2.2 (X.1 i) = true then 1 else 0) := by
  have hk := (hX.2.2.2.2.2.2.2 i).1
  have eq : ∀ n : Nat, n < 100 → ((nI (X.1 i) = nI n) = (X.1 i = n)) := fun n hn => n_eq (by omega) (by omega)
  unfold fX6_isValueWord fX6_isValueWord_b27 fX6_isValueWord_b76 fX6_isValueWord_b54 fX6_isValueWord_b72 fX6_isValueWord_b77 fX6_isValueWord_b76 fX6_isValueWord_b77
  rw [hr.2.1, h8]
  rcases hX.2.2.2.2.2.2.1 with e | e
  · rw [e, if_neg (show ¬ wB 22 = true by decide), if_pos (rfl : (0 : Int32) = 0)]
    by_cases a1 : X.1 i = 19
    · rw [if_pos (show nI (X.1 i) = 19 by rw [a1]; rfl), a1]; rfl
    · rw [if_neg (show ¬ nI (X.1 i) = 19 by rw [show (19 : Int32) = nI 19 from rfl, eq 19 (by omega)]; exact a1)]
      by_cases a2 : X.1 i = 20
      · rw [if_pos (show nI (X.1 i) = 20 by rw [a2]; rfl), a2]; rfl
      · rw [if_neg (show ¬ nI (X.1 i) = 20 by rw [show (20 : Int32) = nI 20 from rfl, eq 20 (by omega)]; exact a2)]
        by_cases a3 : X.1 i = 21
        · rw [if_pos (show nI (X.1 i) = 21 by rw [a3]; rfl), a3]; rfl
        · rw [if_neg (show ¬ nI (X.1 i) = 21 by rw [show (21 : Int32) = nI 21 from rfl, eq 21 (by omega)]; exact a3)]
          rw [if_neg (show ¬ wB (X.1 i) = true from fun q => by have := of_decide_eq_true q; omega)]; rfl
  · rw [e, if_pos (show wR 22 = true by decide), if_neg (show ¬ (1 : Int32) = 0 by decide)]
    by_cases a1 : X.1 i = 19
    · rw [if_pos (show nI (X.1 i) = 19 by rw [a1]; rfl), a1]; rfl
    · rw [if_neg (show ¬ nI (X.1 i) = 19 by rw [show (19 : Int32) = nI 19 from rfl, eq 19 (by omega)]; exact a1)]
      by_cases a2 : X.1 i = 20
      · rw [if_pos (show nI (X.1 i) = 20 by rw [a2]; rfl), a2]; rfl
      · rw [if_neg (show ¬ nI (X.1 i) = 20 by rw [show (20 : Int32) = nI 20 from rfl, eq 20 (by omega)]; exact a2)]
        by_cases a3 : X.1 i = 21
        · rw [if_pos (show nI (X.1 i) = 21 by rw [a3]; rfl), a3]; rfl
        · rw [if_neg (show ¬ nI (X.1 i) = 21 by rw [show (21 : Int32) = nI 21 from rfl, eq 21 (by omega)]; exact a3)]
          have b54 : ¬ (22 ≤ X.1 i ∧ X.1 i ≤ 25) → (if nI (X.1 i) = 13 then zgd (zbl 1) (some (1 : Int32)) else if nI (X.1 i) = 8 then zgd (zbl 1) (some 1) else zgd (zbl 0) (some 0)) = some (if wR (X.1 i) = true then 1 else 0) := by
            intro hn
            by_cases a4 : X.1 i = 13
            · rw [if_pos (show nI (X.1 i) = 13 by rw [a4]; rfl), a4]; rfl
            · rw [if_neg (show ¬ nI (X.1 i) = 13 by rw [show (13 : Int32) = nI 13 from rfl, eq 13 (by omega)]; exact a4)]
              by_cases a5 : X.1 i = 8
              · rw [if_pos (show nI (X.1 i) = 8 by rw [a5]; rfl), a5]; rfl
              · rw [if_neg (show ¬ nI (X.1 i) = 8 by rw [show (8 : Int32) = nI 8 from rfl, eq 8 (by omega)]; exact a5)]
                rw [if_neg (show ¬ wR (X.1 i) = true from fun q => by have := of_decide_eq_true q; omega)]; rfl
          by_cases a6 : X.1 i < 22
          · rw [if_pos (show nI (X.1 i) < 22 by rw [show (22 : Int32) = nI 22 from rfl, n_lt (by omega) (by omega)]; exact a6)]
            exact b54 (by omega)
          · rw [if_neg (show ¬ nI (X.1 i) < 22 by rw [show (22 : Int32) = nI 22 from rfl, n_lt (by omega) (by omega)]; exact a6)]
            by_cases a7 : X.1 i ≤ 25
            · rw [if_pos (show nI (X.1 i) ≤ 25 by rw [show (25 : Int32) = nI 25 from rfl, n_le (by omega) (by omega)]; exact a7)]
              rw [if_pos (show wR (X.1 i) = true from decide_eq_true (by omega))]; rfl
            · rw [if_neg (show ¬ nI (X.1 i) ≤ 25 by rw [show (25 : Int32) = nI 25 from rfl, n_le (by omega) (by omega)]; exact a7)]
              exact b54 (by omega)
end
