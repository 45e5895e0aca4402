/-! A CLAUSE OF A RULE, both sides -/
def toldR (L : List Rc) : Bool := L.any (fun c => c.1 == 1)
theorem toldR_iff {L : List Rc} : toldR L = true ↔ ∃ c, c ∈ L ∧ c.1 = 1 := by
  unfold toldR
  rw [List.any_eq_true]
  constructor
  · rintro ⟨c, h1, h2⟩
    exact ⟨c, h1, eq_of_beq h2⟩
  · rintro ⟨c, h1, h2⟩
    exact ⟨c, h1, beq_iff_eq.mpr h2⟩
def rcS (X : TK) (big told : Bool) (i k : Nat) : (Nat × Nat) ⊕ (Nat × Nat × Rc) :=
  if ¬ X.1 i = 14 ∧ ¬ X.1 i = 15 then .inl (0, X.2.2.1 i)
  else if big = true ∨ X.1 i = 15 ∧ told = true then .inl (4, X.2.2.1 i)
  else if X.1 i = 15 then (match numS X 0 9999 (i + 1) with
    | .inl f => .inl f
    | .inr v => .inr (i + 2, k, (1, nI v, [], [])))
  else (match sumS X (i + 1) k with
    | .inl f => .inl f
    | .inr p => match ifS X p.1 p.2.1 with
      | .inl f => .inl f
      | .inr q => .inr (q.1, q.2.1, (0, 0, p.2.2, q.2.2)))
/-- what a test read by an if is like -/
theorem ifS_ok {X : TK} {m : Nat} (hX : okX X m) {i k j k' : Nat} {c : List (Nat × Nat)} (hi : i ≤ m) (hk : k ≤ 60) (h : ifS X i k = .inr (j, k', c)) : i ≤ j ∧ j ≤ m ∧ k ≤ k' ∧ k' ≤ 60 ∧ (c = [] ∨ isT X.2.2.2 c) ∧ 3 * c.length ≤ 6 * (k' - k) + (X.2.2.1 j - X.2.2.1 i) ∧ (cdI c).length ≤ j - i ∧ nvs c ≤ k' - k ∧ c.length ≤ 253 := by
  unfold ifS at h
  by_cases y : X.1 i = 3
  · rw [if_pos y] at h
    have him : i < m := by
      apply Classical.byContradiction
      intro q
      have := (hX.2.1 i).mpr (by omega)
      omega
    obtain ⟨⟨g1, g2, g3, g4, g5, g6, g7, g8⟩, gne⟩ := tst_ne hX (by omega) (by omega) h
    have hp := hX.2.2.2.1 i
    have hpj := P_le hX (show i + 1 ≤ j by omega)
    have hb := hX.2.2.2.2.1 j
    have ec : cdI c = c ++ [(48, 0)] := if_neg gne
    refine ⟨by omega, g2, by omega, g4, Or.inr g5, by omega, by rw [ec, List.length_append]; show c.length + 1 ≤ _; omega, g8, by omega⟩
  · rw [if_neg y] at h
    have h' : (i, k, ([] : List (Nat × Nat))) = (j, k', c) := Sum.inr.inj h
    injection h' with e1 h'
    injection h' with e2 e3
    subst e1 e2 e3
    exact ⟨Nat.le_refl _, hi, Nat.le_refl _, hk, Or.inl rfl, by show 3 * 0 ≤ _; omega, by show 0 ≤ _; omega, by show 0 ≤ _; omega, by show 0 ≤ _; omega⟩
theorem okF_if {X : TK} {m : Nat} (hX : okX X m) {i k : Nat} {f : Nat × Nat} (hi : i ≤ m) (h : ifS X i k = .inl f) : okF f := by
  unfold ifS at h
  by_cases y : X.1 i = 3
  · rw [if_pos y] at h
    have him : i < m := by
      apply Classical.byContradiction
      intro q
      have := (hX.2.1 i).mpr (by omega)
      omega
    exact okF_tst hX (by omega) (by omega) h
  · rw [if_neg y] at h; cases h
def o7 (S S' : zS) : Prop := S'.2 = S.2 ∧ ∀ a b, ¬ (a = 2 ∧ 1 ≤ b ∧ b ≤ 7) → S'.1 a b = S.1 a b
def fRc (k : Nat) (S S' : zS) : Prop := S'.2 = S.2 ∧ ∀ a b, ¬ (a = 2 ∧ 1 ≤ b ∧ b ≤ 7) → (a < k ∨ k + 4 < a) → S'.1 a b = S.1 a b
theorem fRc_tr {k : Nat} {S S' S'' : zS} (h : fRc k S S') (g : fRc k S' S'') : fRc k S S'' := ⟨g.1.trans h.1, fun a b x y => (g.2 a b x y).trans (h.2 a b x y)⟩
theorem fRc_7 {k : Nat} {S S' : zS} (h : o7 S S') : fRc k S S' := ⟨h.1, fun a b x _ => h.2 a b x⟩
theorem fRc_C {k : Nat} {S S' : zS} (h : oC (k + 3) S S') : fRc k S S' := ⟨h.1, fun a b x y => h.2 a b (by omega) (by omega) (by omega)⟩
theorem fRc_2 {k : Nat} {S S' : zS} (h : o2 S S') : fRc k S S' := ⟨h.1, fun a b x _ => h.2 a b (by omega)⟩
def tldC (S : zS) (L : List Rc) : Prop := zm (S.1 2 7) 14 = false ∧ (zm (S.1 2 7) 15 = true ↔ toldR L = true)
def cR (X : TK) (m k : Nat) (S : zS) (i kk l : Nat) (L : List Rc) : Prop := stC X m (k + 3) S i kk l ∧ l ≤ i ∧ kk ≤ 60 ∧ ruC S k L ∧ tldC S L
section
variable {T : zT} {X : TK} {m kc k : Nat}
theorem c_startR (hC : cdT T kc) (hX : okX X m) (hw : X.2.2.2 = wR) {S : zS} {i kk l : Nat} (h : stC X m kc S i kk l) {L : List Rc} (ht : tldC S L) (big : Bool) : ∃ v S', fX6_startClause T 2 (if big = true then 1 else 0) S = some (v, S') ∧ o7 S S' ∧ (if ¬ X.1 i = 14 ∧ ¬ X.1 i = 15 then v = -1 ∧ pfC X m kc S' (flt (0, X.2.2.1 i)) else if big = true ∨ X.1 i = 15 ∧ toldR L = true then v = -1 ∧ pfC X m kc S' (flt (4, X.2.2.1 i)) else v = nI (X.1 i) ∧ i < m ∧ stC X m kc S' (i + 1) kk l ∧ zm (S'.1 2 7) 14 = false ∧ (zm (S'.1 2 7) 15 = true ↔ X.1 i = 15 ∨ toldR L = true)) := by
  have hk := hC.2.2.2
  have hb := hX.2.2.2.2.2.2.2 i
  have hr := h.2.2.1
  have h8 : S.1 2 8 = 1 := by
    rw [h.1.2, hw, if_pos (show wR 22 = true by decide)]
  have eqc : ∀ c : Nat, c < 100 → ((nI (X.1 i) = nI c) = (X.1 i = c)) := fun c hc => n_eq (by omega) (by omega)
  have e14 : (nI (X.1 i) = 14) = (X.1 i = 14) := eqc 14 (by decide)
  have e15 : (nI (X.1 i) = 15) = (X.1 i = 15) := eqc 15 (by decide)
  have eis : fX6_isClause T 2 S = some (if ¬ X.1 i = 14 ∧ ¬ X.1 i = 15 then 0 else 1) := by
    unfold fX6_isClause fX6_isClause_b25 fX6_isClause_b30
    rw [h8, if_neg n10, hr.2.1]
    by_cases a1 : X.1 i = 14
    · rw [if_pos (show nI (X.1 i) = 14 by rw [e14]; exact a1), if_neg (fun q => q.1 a1)]; rfl
    · rw [if_neg (show ¬ nI (X.1 i) = 14 by rw [e14]; exact a1)]
      by_cases a2 : X.1 i = 15
      · rw [if_pos (show nI (X.1 i) = 15 by rw [e15]; exact a2), if_neg (fun q => q.2 a2)]; rfl
      · rw [if_neg (show ¬ nI (X.1 i) = 15 by rw [e15]; exact a2), if_pos ⟨a1, a2⟩]; rfl
  unfold fX6_startClause fX6_startClause_b34 fX6_startClause_b60
  rw [let_q, eis, b1_q, hr.2.1]
  obtain ⟨S0, e0, o0, p0⟩ := st_fail2 (T := T) h hk 0
  obtain ⟨S4, e4, o4, p4⟩ := st_fail2 (T := T) h hk 4
  have e0' : fX6_fail T 2 0 S = some ((), S0) := e0
  have e4' : fX6_fail T 2 4 S = some ((), S4) := e4
  have o27 : ∀ {S'}, o2 S S' → o7 S S' := fun q => ⟨q.1, fun a b x => q.2 a b (by omega)⟩
  rw [e0', b_q, e4', b_q]
  by_cases y : ¬ X.1 i = 14 ∧ ¬ X.1 i = 15
  · rw [if_pos y, if_pos rfl]
    exact ⟨_, S0, rfl, o27 o0, by rw [if_pos y]; exact ⟨rfl, p0⟩⟩
  · rw [if_neg y, if_neg n10]
    have him : i < m := by
      apply Classical.byContradiction
      intro q
      have := (hX.2.1 i).mpr (by omega)
      omega
    cases big with
    | true =>
      rw [if_neg (show ¬ (if true = true then (1 : Int32) else 0) = 0 by rw [if_pos rfl]; decide)]
      exact ⟨_, S4, rfl, o27 o4, by rw [if_neg y, if_pos (Or.inl rfl)]; exact ⟨rfl, p4⟩⟩
    | false =>
      rw [if_pos (show (if false = true then (1 : Int32) else 0) = 0 by rw [if_neg (by decide)])]
      have ht2 : ((S.1 2 7) >>> (nI (X.1 i) &&& 31)) &&& 1 = 0 ↔ ¬ (X.1 i = 15 ∧ toldR L = true) := by
        rw [m_sh0 (by omega)]
        by_cases a1 : X.1 i = 14
        · rw [a1]
          exact ⟨fun _ q => absurd q.1 (by decide), fun _ => ht.1⟩
        · have a2 : X.1 i = 15 := Classical.byContradiction (fun q => y ⟨a1, q⟩)
          rw [a2]
          constructor
          · intro q z
            rw [ht.2.mpr z.2] at q; cases q
          · intro q
            cases z : zm (S.1 2 7) 15 with
            | false => rfl
            | true => exact absurd ⟨rfl, ht.2.mp z⟩ q
      by_cases v : X.1 i = 15 ∧ toldR L = true
      · rw [if_neg (fun q => (ht2.mp q) v)]
        exact ⟨_, S4, rfl, o27 o4, by rw [if_neg y, if_pos (Or.inr v)]; exact ⟨rfl, p4⟩⟩
      · rw [if_pos (ht2.mpr v)]
        have eonce : fX6_isOnceOnly T 2 S = some (if X.1 i = 15 then 1 else 0) := by
          unfold fX6_isOnceOnly fX6_isOnceOnly_b44 fX6_isOnceOnly_b49
          rw [hr.2.1]
          by_cases a1 : X.1 i = 14
          · rw [a1]; rfl
          · have a2 : X.1 i = 15 := Classical.byContradiction (fun q => y ⟨a1, q⟩)
            rw [a2]; rfl
        rw [eonce, b1_q]
        by_cases a2 : X.1 i = 15
        · have st7 : stC X m kc (zI S 2 7 (S.1 2 7 ||| (1 <<< (nI (X.1 i) &&& 31)))) i kk l := ⟨tkC_cg h.1 (fun a b _ _ => zI_ne (by omega)) (zI_eqn (by decide)), h.2.1, rdC_cg hr (fun b _ _ => zI_eqn (by omega)), by rw [zI_eqn (by decide)]; exact h.2.2.2.1, by rw [zI_eqn (by decide)]; exact h.2.2.2.2.1, h.2.2.2.2.2.1, by rw [zI_ne (by omega)]; exact h.2.2.2.2.2.2⟩
          obtain ⟨S2, e2, u1, u2, u3⟩ := st_next hC hX st7 him
          have e7 : S2.1 2 7 = S.1 2 7 ||| (1 <<< (nI 15 &&& 31)) := by rw [u2 _ _ (by omega), zI_eqs, a2]
          rw [if_pos a2, if_neg n10, let_q, e2, b_q]
          refine ⟨_, S2, rfl, ⟨u1, fun a b x => by rw [u2 a b (by omega), zI_at, if_neg (by omega)]⟩, ?_⟩
          rw [if_neg y, if_neg (fun q => q.elim (by decide) v)]
          refine ⟨rfl, him, u3, ?_, ?_⟩
          · rw [e7, m_or, ht.1, m_shl (by decide) (by decide)]; rfl
          · rw [e7, m_or, m_shl (by decide) (by decide)]
            exact ⟨fun _ => Or.inl a2, fun _ => by simp⟩
        · obtain ⟨S2, e2, u1, u2, u3⟩ := st_next hC hX h him
          have e7 : S2.1 2 7 = S.1 2 7 := u2 _ _ (by omega)
          rw [if_neg a2, if_pos rfl, e2, b_q]
          refine ⟨_, S2, rfl, ⟨u1, fun a b x => u2 a b (by omega)⟩, ?_⟩
          rw [if_neg y, if_neg (fun q => q.elim (by decide) v)]
          refine ⟨rfl, him, u3, by rw [e7]; exact ht.1, ?_⟩
          rw [e7, ht.2]
          exact ⟨Or.inr, fun q => q.resolve_left a2⟩
theorem keepF_app {L : List Rc} {c : Rc} : keepF (L ++ [c]) = if c.1 = 1 then c.2.1 else keepF L := by
  unfold keepF
  rw [List.foldl_append]
  rfl
theorem c_addR (hk0 : zr T k 0 = k + 1) (hk1 : zr T k 1 = k + 2) {S : zS} {c : Nat} (h : S.1 k 2 = nI c) (hc : c ≤ 12) {x y : Int32} : ∃ S', fX8_add T k x y S = some ((), S') ∧ S'.2 = S.2 ∧ (∀ a b, ¬ (a = k ∧ b = 2) → a ≠ k + 1 → a ≠ k + 2 → S'.1 a b = S.1 a b) ∧ (c < 12 → S'.1 k 2 = nI (c + 1) ∧ (∀ b, S'.1 (k + 1) b = if b = c then x else S.1 (k + 1) b) ∧ ∀ b, S'.1 (k + 2) b = if b = c then y else S.1 (k + 2) b) := by
  unfold fX8_add fX8_add_b39
  rw [h]
  by_cases z : c = 12
  · rw [if_pos (show 12 ≤ nI c by rw [n_leL (by omega) (by omega)]; omega)]
    exact ⟨S, rfl, rfl, fun _ _ _ _ _ => rfl, fun q => absurd q (by omega)⟩
  · rw [if_neg (show ¬ 12 ≤ nI c by rw [n_leL (by omega) (by omega)]; omega), g_in (by omega) (by decide), hk0, tn_nI (by omega), let_q, zI_ne (by omega), h, g_in (by omega) (by decide), hk1, tn_nI (by omega), let_q, zI_ne (by omega), zI_ne (by omega), h, n_addL, let_q]
    refine ⟨_, rfl, rfl, fun a b q1 q2 q3 => by rw [zI_at, if_neg q1, zI_ne q3, zI_ne q2], fun _ => ⟨by rw [zI_eqs], fun b => ?_, fun b => ?_⟩⟩
    · rw [zI_ne (by omega), zI_ne (by omega), zI_eq]
    · rw [zI_ne (by omega), zI_eq, zI_ne (by omega)]
/-- old codes stay -/
theorem cAt_wr {S S' : zS} {l l' i : Nat} {c : List (Nat × Nat)} (h : cAt S kc i c) (hl : S.1 kc 1 = nI l) (hl5 : l ≤ 512) (hl' : S'.1 kc 1 = nI l') (hl5' : l' ≤ 512) (hll : l ≤ l') (w : ∀ b, b < l → S'.1 (kc + 1) b = S.1 (kc + 1) b) : cAt S' kc i c := by
  intro j p hj
  obtain ⟨h1, h2⟩ := h j p hj
  rw [hl, nI_toInt (by omega)] at h2
  refine ⟨by rw [w _ (by omega)]; exact h1, ?_⟩
  rw [hl', nI_toInt (by omega)]; omega
theorem cTest_wr {S S' : zS} {l l' : Nat} {x : Int32} {c : List (Nat × Nat)} (h : cTest S kc x c) (hl : S.1 kc 1 = nI l) (hl5 : l ≤ 512) (hl' : S'.1 kc 1 = nI l') (hl5' : l' ≤ 512) (hll : l ≤ l') (w : ∀ b, b < l → S'.1 (kc + 1) b = S.1 (kc + 1) b) : cTest S' kc x c := by
  rcases h with h | ⟨h1, s, h2, h3, h4⟩
  · exact Or.inl h
  · exact Or.inr ⟨h1, s, h2, h3, cAt_wr h4 hl hl5 hl' hl5' hll w⟩
theorem cAt_new {S S' : zS} {l l' : Nat} {c : List (Nat × Nat)} (w : ∀ j p, c[j]? = some p → S'.1 (kc + 1) (l + j) = enc p) (hl' : S'.1 kc 1 = nI l') (h5 : l' ≤ 512) (hc : l + c.length ≤ l') : cAt S' kc l c := by
  intro j p hj
  have := (List.getElem?_eq_some_iff.mp hj).1
  refine ⟨w j p hj, ?_⟩
  rw [hl', nI_toInt (by omega)]; omega
theorem c_rc (hC : cdT T (k + 3)) (hk0 : zr T k 0 = k + 1) (hk1 : zr T k 1 = k + 2) (hk7 : 7 ≤ k) (hX : okX X m) (hw : X.2.2.2 = wR) {S : zS} {i kk l : Nat} {L : List Rc} (h : cR X m k S i kk l L) (big : Bool) (hb : big = false → L.length < 12) (hL12 : L.length ≤ 12) {x4 : Int32} : ∃ S1, fX6_readRule_b45 T 2 k x4 (if big = true then 1 else 0) 2 S = fX6_readRule_b84 T 2 k x4 S1 ∧ fRc k S S1 ∧ match rcS X big (toldR L) i kk with
    | .inl f => pfC X m (k + 3) S1 (flt f)
    | .inr p => ∃ l', cR X m k S1 p.1 p.2.1 l' (L ++ [p.2.2]) := by
  obtain ⟨hs, hl, hk60, hru, htl⟩ := h
  have hm := hX.1
  obtain ⟨v, S0, e0, o0, r0⟩ := c_startR hC hX hw hs htl big
  unfold fX6_readRule_b45 rcS
  rw [e0, b_q]
  by_cases y : ¬ X.1 i = 14 ∧ ¬ X.1 i = 15
  · rw [if_pos y] at r0 ⊢
    rw [r0.1, if_neg (by decide), if_neg (by decide)]
    exact ⟨S0, rfl, fRc_7 o0, r0.2⟩
  · rw [if_neg y] at r0 ⊢
    by_cases z : big = true ∨ X.1 i = 15 ∧ toldR L = true
    · rw [if_pos z] at r0 ⊢
      rw [r0.1, if_neg (by decide), if_neg (by decide)]
      exact ⟨S0, rfl, fRc_7 o0, r0.2⟩
    · rw [if_neg z] at r0 ⊢
      obtain ⟨hv, him, st0, t14, t15⟩ := r0
      have hL : L.length < 12 := hb (by cases big with
        | false => rfl
        | true => exact absurd (Or.inl rfl) z)
      have ru0 : ruC S0 k L := ruC_cg (fun a b h1 h2 => o0.2 a b (by omega)) hru
      obtain ⟨a1, a2, a3, a4⟩ := id ru0
      have hlk : S0.1 (k + 3) 1 = nI l := st0.2.2.2.2.2.2
      have hfl : (L.filter (ofR 0)).length ≤ L.length := List.length_filter_le _ _
      by_cases x : X.1 i = 15
      · have hv15 : v = 15 := by rw [hv, x]; rfl
        rw [if_pos x, hv15, if_neg (by decide), if_pos rfl]
        obtain ⟨u, S2, e2, o2', r2⟩ := c_nm hC hX st0 (low := 0) (top := 9999) (by decide) (by decide)
        have e2' : fX6_number T 2 0 9999 S0 = some (u, S2) := e2
        rw [e2', b_q, let_q]
        have of := fRc_tr (fRc_7 (k := k) o0) (fRc_2 o2')
        have ofz : fRc k S (zI S2 k 3 u) := fRc_tr of ⟨rfl, fun a b q1 q2 => by rw [zI_at, if_neg (by omega)]⟩
        cases hn : numS X 0 9999 (i + 1) with
        | inl f =>
          rw [hn] at r2
          obtain ⟨p1, ⟨p2, p3, p4⟩, p5, p6, p7, p8⟩ := r2
          exact ⟨_, rfl, ofz, tkC_cg p1 (fun a b _ _ => zI_ne (by omega)) (zI_ne (by omega)), ⟨p2, p3, rdC_cg p4 (fun b _ _ => zI_ne (by omega))⟩, by rw [zI_ne (by omega)]; exact p5, p6, p7, by rw [zI_ne (by omega)]; exact p8⟩
        | inr V =>
          rw [hn] at r2
          obtain ⟨hu, s2⟩ := r2
          have s2' : stC X m (k + 3) S2 (i + 2) kk l := s2
          obtain ⟨b1, b2, b3, b4, b5, b6, b7⟩ := s2'
          refine ⟨_, rfl, ofz, l, ⟨tkC_cg b1 (fun a b _ _ => zI_ne (by omega)) (zI_ne (by omega)), b2, rdC_cg b3 (fun b _ _ => zI_ne (by omega)), by rw [zI_ne (by omega)]; exact b4, by rw [zI_ne (by omega)]; exact b5, b6, by rw [zI_ne (by omega)]; exact b7⟩, by show l ≤ i + 2; omega, hk60, ?_, ?_⟩
          · have ef : (L ++ [((1 : Nat), nI V, ([] : List (Nat × Nat)), ([] : List (Nat × Nat)))]).filter (ofR 0) = L.filter (ofR 0) := by
              rw [List.filter_append]
              exact List.append_nil _
            have ecell : ∀ a b, k ≤ a → a ≤ k + 4 → ¬ (a = k ∧ b = 3) → (zI S2 k 3 u).1 a b = S0.1 a b := fun a b q1 q2 q3 => by rw [zI_at, if_neg q3]; exact o2'.2 a b (by omega)
            refine ⟨?_, ?_, ?_, ?_⟩
            · rw [ef, ecell _ _ (by omega) (by omega) (by omega)]; exact a1
            · rw [zI_eqs, keepF_app]
              show u = if 1 = 1 then nI V else _
              rw [if_pos rfl]; exact hu
            · rw [ef]
              intro j c hj
              obtain ⟨⟨s', d1, d2, d3⟩, d4⟩ := a3 j c hj
              rw [ecell _ _ (by omega) (by omega) (by omega), ecell _ _ (by omega) (by omega) (by omega)]
              exact ⟨⟨s', d1, d2, cAt_cg (fun b => ecell _ _ (by omega) (by omega) (by omega)) (fun b => ecell _ _ (by omega) (by omega) (by omega)) d3⟩, cTest_cg (fun b => ecell _ _ (by omega) (by omega) (by omega)) (fun b => ecell _ _ (by omega) (by omega) (by omega)) d4⟩
            · intro c hc h0 hm25
              rw [ecell _ _ (by omega) (by omega) (by omega)]
              rcases List.mem_append.mp hc with hc | hc
              · exact a4 c hc h0 hm25
              · rw [List.mem_singleton.mp hc] at h0
                exact absurd h0 (by show ¬ 1 = 0; decide)
          · have e27 : (zI S2 k 3 u).1 2 7 = S0.1 2 7 := by rw [zI_ne (by omega)]; exact o2'.2 _ _ (by omega)
            refine ⟨by rw [e27]; exact t14, ?_⟩
            rw [e27, t15, toldR_iff, toldR_iff]
            exact ⟨fun _ => ⟨_, List.mem_append.mpr (Or.inr (List.mem_singleton.mpr rfl)), rfl⟩, fun _ => Or.inl x⟩
      · have x14 : X.1 i = 14 := Classical.byContradiction (fun q => y ⟨q, x⟩)
        have hv14 : v = 14 := by rw [hv, x14]; rfl
        rw [if_neg x, hv14, if_pos rfl]
        unfold fX6_readLike
        rw [hC.2.1, hlk, let_q]
        obtain ⟨S2, e2, o2', r2⟩ := c_sum hC hX st0 hk60 (show l ≤ i + 1 by omega)
        rw [e2, b_q]
        have of2 := fRc_tr (fRc_7 (k := k) o0) (fRc_C o2')
        cases hv2 : sumS X (i + 1) kk with
        | inl f =>
          rw [hv2] at r2
          have hF := flt_ok (okF_sum hX hv2)
          obtain ⟨S3, e3, o3, p3⟩ := pf_add hC r2 48 0
          have h32 : S3.1 k 2 = nI (L.filter (ofR 0)).length := by rw [o3.2 _ _ (by omega) (by omega) (by omega), o2'.2 _ _ (by omega) (by omega) (by omega)]; exact a1
          obtain ⟨S4, e4, q1, q2, -⟩ := c_addR (T := T) hk0 hk1 h32 (by omega) (x := nI l) (y := -1)
          rw [e3, b_q, pf_if hF p3, b_q, e4, b_q, b_q]
          obtain ⟨w1, ⟨w2, w3, w4⟩, w5, w6, w7, w8⟩ := p3
          exact ⟨S4, rfl, fRc_tr of2 (fRc_tr (fRc_C o3) ⟨q1, fun a b z1 z2 => q2 a b (by omega) (by omega) (by omega)⟩), tkC_cg w1 (fun a b _ _ => q2 a b (by omega) (by omega) (by omega)) (q2 _ _ (by omega) (by omega) (by omega)), ⟨w2, w3, rdC_cg w4 (fun b _ _ => q2 _ _ (by omega) (by omega) (by omega))⟩, by rw [q2 _ _ (by omega) (by omega) (by omega)]; exact w5, w6, w7, by rw [q2 _ _ (by omega) (by omega) (by omega)]; exact w8⟩
        | inr p =>
          obtain ⟨j, k1, c1⟩ := p
          obtain ⟨g1, g2, g3, g4, g5, g6, g7, g8⟩ := gS_sum hX (by omega) (by omega) hv2
          rw [hv2] at r2
          obtain ⟨s2, w2⟩ := r2
          have s2' : stC X m (k + 3) S2 j k1 (l + c1.length) := s2
          obtain ⟨S3, e3, o3, p3, w3⟩ := st_add hC s2' (show l + c1.length < 512 by omega) 48 0
          have e3' : fX2_add T (k + 3) 48 0 S2 = some ((), S3) := e3
          obtain ⟨tv, S4, e4, o4, r4⟩ := c_if hC hX p3 g4 (show l + c1.length + 1 ≤ j by omega)
          have h42 : S4.1 k 2 = nI (L.filter (ofR 0)).length := by rw [o4.2 _ _ (by omega) (by omega) (by omega), o3.2 _ _ (by omega) (by omega) (by omega), o2'.2 _ _ (by omega) (by omega) (by omega)]; exact a1
          obtain ⟨S5, e5, q1, q2, q3⟩ := c_addR (T := T) hk0 hk1 h42 (by omega) (x := nI l) (y := tv)
          rw [e3', b_q, e4, b_q, e5, b_q, b_q]
          have of4 := fRc_tr of2 (fRc_tr (fRc_C o3) (fRc_C o4))
          have of5 : fRc k S S5 := fRc_tr of4 ⟨q1, fun a b z1 z2 => q2 a b (by omega) (by omega) (by omega)⟩
          show ∃ S1, _ ∧ _ ∧ match (match ifS X j k1 with
            | .inl f => (.inl f : (Nat × Nat) ⊕ (Nat × Nat × Rc))
            | .inr q => .inr (q.1, q.2.1, (0, 0, c1, q.2.2))) with
            | .inl f => pfC X m (k + 3) S1 (flt f)
            | .inr p => ∃ l', cR X m k S1 p.1 p.2.1 l' (L ++ [p.2.2])
          cases hv4 : ifS X j k1 with
          | inl f =>
            rw [hv4] at r4
            obtain ⟨w1, ⟨w2', w3', w4'⟩, w5, w6, w7, w8⟩ := r4
            exact ⟨S5, rfl, of5, tkC_cg w1 (fun a b _ _ => q2 a b (by omega) (by omega) (by omega)) (q2 _ _ (by omega) (by omega) (by omega)), ⟨w2', w3', rdC_cg w4' (fun b _ _ => q2 _ _ (by omega) (by omega) (by omega))⟩, by rw [q2 _ _ (by omega) (by omega) (by omega)]; exact w5, w6, w7, by rw [q2 _ _ (by omega) (by omega) (by omega)]; exact w8⟩
          | inr q =>
            obtain ⟨j2, k2, c2⟩ := q
            obtain ⟨f1, f2, f3, f4, f5, f6, f7, f8, f9⟩ := ifS_ok hX (by omega) g4 hv4
            rw [hv4] at r4
            obtain ⟨htv, s4, w4⟩ := r4
            have s4' : stC X m (k + 3) S4 j2 k2 (l + c1.length + 1 + (cdI c2).length) := s4
            have w4' : wrC (k + 3) S3 S4 (l + c1.length + 1) (cdI c2) := w4
            have htv' : tv = (if c2 = [] then -1 else nI (l + c1.length + 1)) := htv
            obtain ⟨q3a, q3b, q3c⟩ := q3 (by omega)
            have w23 := wrC_app w2 w3
            have w234 : wrC (k + 3) S0 S4 l ((c1 ++ [(48, 0)]) ++ cdI c2) := wrC_app w23 (by rw [List.length_append]; exact w4')
            obtain ⟨b1, b2, b3, b4, b5, b6, b7⟩ := s4'
            have z5 : ∀ a b, ¬ (a = k ∧ b = 2) → a ≠ k + 1 → a ≠ k + 2 → S5.1 a b = S4.1 a b := q2
            have hl5 : S5.1 (k + 3) 1 = nI (l + c1.length + 1 + (cdI c2).length) := by rw [z5 _ _ (by omega) (by omega) (by omega)]; exact b7
            have hb5 : l + c1.length + 1 + (cdI c2).length ≤ 512 := b6
            have w5o : ∀ b, b < l → S5.1 (k + 3 + 1) b = S0.1 (k + 3 + 1) b := fun b hb => by rw [z5 _ _ (by omega) (by omega) (by omega)]; exact w234.1 b hb
            have w5n : ∀ jj p, ((c1 ++ [(48, 0)]) ++ cdI c2)[jj]? = some p → S5.1 (k + 3 + 1) (l + jj) = enc p := fun jj p hj => by rw [z5 _ _ (by omega) (by omega) (by omega)]; exact w234.2.1 jj p hj
            refine ⟨S5, rfl, of5, l + c1.length + 1 + (cdI c2).length, ⟨tkC_cg b1 (fun a b _ _ => z5 a b (by omega) (by omega) (by omega)) (z5 _ _ (by omega) (by omega) (by omega)), b2, rdC_cg b3 (fun b _ _ => z5 _ _ (by omega) (by omega) (by omega)), by rw [z5 _ _ (by omega) (by omega) (by omega)]; exact b4, by rw [z5 _ _ (by omega) (by omega) (by omega)]; exact b5, b6, hl5⟩, by show _ ≤ j2; omega, f4, ?_, ?_⟩
            · have ef : (L ++ [((0 : Nat), (0 : Int32), c1, c2)]).filter (ofR 0) = L.filter (ofR 0) ++ [(0, 0, c1, c2)] := by
                rw [List.filter_append]
                rfl
              refine ⟨?_, ?_, ?_, ?_⟩
              · rw [ef, List.length_append, q3a]; rfl
              · rw [keepF_app]
                show S5.1 k 3 = if 0 = 1 then _ else keepF L
                rw [if_neg (by decide), z5 _ _ (by omega) (by omega) (by omega), o4.2 _ _ (by omega) (by omega) (by omega), o3.2 _ _ (by omega) (by omega) (by omega), o2'.2 _ _ (by omega) (by omega) (by omega)]; exact a2
              · rw [ef]
                intro jj c hj
                by_cases yj : jj < (L.filter (ofR 0)).length
                · rw [List.getElem?_append_left yj] at hj
                  obtain ⟨⟨s', d1, d2, d3⟩, d4⟩ := a3 jj c hj
                  have r1 : S5.1 (k + 1) jj = S0.1 (k + 1) jj := by rw [q3b, if_neg (by omega), o4.2 _ _ (by omega) (by omega) (by omega), o3.2 _ _ (by omega) (by omega) (by omega), o2'.2 _ _ (by omega) (by omega) (by omega)]
                  have r2' : S5.1 (k + 2) jj = S0.1 (k + 2) jj := by rw [q3c, if_neg (by omega), o4.2 _ _ (by omega) (by omega) (by omega), o3.2 _ _ (by omega) (by omega) (by omega), o2'.2 _ _ (by omega) (by omega) (by omega)]
                  rw [r1, r2']
                  exact ⟨⟨s', d1, d2, cAt_wr d3 hlk (by omega) hl5 hb5 (by omega) w5o⟩, cTest_wr d4 hlk (by omega) hl5 hb5 (by omega) w5o⟩
                · rw [List.getElem?_append_right (by omega)] at hj
                  have hj1 := (List.getElem?_eq_some_iff.mp hj).1
                  have e9 : [((0 : Nat), (0 : Int32), c1, c2)].length = 1 := rfl
                  have hjj : jj = (L.filter (ofR 0)).length := by omega
                  rw [hjj, Nat.sub_self] at hj
                  have hc := (Option.some.inj hj).symm
                  rw [hc, q3b, q3c, hjj, if_pos rfl, if_pos rfl]
                  refine ⟨⟨l, rfl, by show l + c1.length < 512; omega, ?_⟩, ?_⟩
                  · refine cAt_new (S := S0) (fun a p ha => w5n a p ?_) hl5 hb5 ?_
                    · have := (List.getElem?_eq_some_iff.mp ha).1
                      rw [List.getElem?_append_left this]; exact ha
                    · show l + (c1 ++ [(48, 0)]).length ≤ _
                      rw [List.length_append]; show l + (c1.length + 1) ≤ _; omega
                  · show cTest S5 (k + 3) tv c2
                    rw [htv']
                    by_cases ne : c2 = []
                    · rw [if_pos ne]; exact Or.inl ⟨ne, rfl⟩
                    · have ecd : cdI c2 = c2 ++ [(48, 0)] := if_neg ne
                      rw [if_neg ne]
                      refine Or.inr ⟨ne, l + c1.length + 1, rfl, by rw [ecd, List.length_append] at hb5; have : [((48 : Nat), (0 : Nat))].length = 1 := rfl; omega, ?_⟩
                      refine cAt_new (S := S0) (fun a p ha => ?_) hl5 hb5 (by rw [← ecd]; omega)
                      have hx := w5n (c1.length + 1 + a) p (by
                        rw [List.getElem?_append_right (by rw [List.length_append]; show c1.length + 1 ≤ _; omega), List.length_append]
                        show (cdI c2)[c1.length + 1 + a - (c1.length + 1)]? = some p
                        rw [Nat.add_sub_cancel_left, ecd]; exact ha)
                      rw [show l + c1.length + 1 + a = l + (c1.length + 1 + a) by omega]
                      exact hx
              · intro c hc h0 hm25
                rw [z5 _ _ (by omega) (by omega) (by omega)]
                rcases List.mem_append.mp hc with hc | hc
                · exact w234.2.2.1 25 (a4 c hc h0 hm25)
                · rw [List.mem_singleton.mp hc] at hm25
                  refine w234.2.2.2 25 (by decide) ?_
                  rcases hm25 with q | q
                  · exact List.mem_append.mpr (Or.inl (List.mem_append.mpr (Or.inl q)))
                  · refine List.mem_append.mpr (Or.inr ?_)
                    have ne : ¬ c2 = [] := fun z => by rw [z] at q; cases q
                    have ecd : cdI c2 = c2 ++ [(48, 0)] := if_neg ne
                    rw [ecd]
                    exact List.mem_append.mpr (Or.inl q)
            · have e27 : S5.1 2 7 = S0.1 2 7 := by rw [z5 _ _ (by omega) (by omega) (by omega), o4.2 _ _ (by omega) (by omega) (by omega), o3.2 _ _ (by omega) (by omega) (by omega), o2'.2 _ _ (by omega) (by omega) (by omega)]
              refine ⟨by rw [e27]; exact t14, ?_⟩
              rw [e27, t15, toldR_iff, toldR_iff]
              constructor
              · intro q
                obtain ⟨c, d1, d2⟩ := q.resolve_left x
                exact ⟨c, List.mem_append.mpr (Or.inl d1), d2⟩
              · rintro ⟨c, d1, d2⟩
                rcases List.mem_append.mp d1 with d1 | d1
                · exact Or.inr ⟨c, d1, d2⟩
                · rw [List.mem_singleton.mp d1] at d2
                  exact absurd d2 (by show ¬ 0 = 1; decide)
end
