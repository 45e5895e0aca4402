/-! FACTS, TESTS, by the reference -/
def oT (s : Nat) (S S' : zS) : Prop := S'.2 = S.2 ∧ ∀ a b, ¬ (a = 187 ∧ (b = 2 ∨ b = 3 ∨ 6 ≤ b ∧ b ≤ 9)) → ¬ ((a = 189 ∨ a = 190) ∧ 300 * s ≤ b ∧ b < 300 * s + 300) → a ≠ 198 → S'.1 a b = S.1 a b
theorem oT_refl {s : Nat} {S : zS} : oT s S S := ⟨rfl, fun _ _ _ _ _ => rfl⟩
theorem oT_tr {s : Nat} {S S' S'' : zS} (h : oT s S S') (g : oT s S' S'') : oT s S S'' := ⟨g.1.trans h.1, fun a b x y z => (g.2 a b x y z).trans (h.2 a b x y z)⟩
theorem oT_S {s : Nat} {S S' : zS} (h : oS s S S') : oT s S S' := ⟨h.1, fun a b x y _ => h.2 a b (by omega) y⟩
theorem oT_P {s : Nat} {S S' : zS} (h : oP S S') : oT s S S' := oT_S (oS_P h)
def skR (S : zS) (st : List Nat) : Prop := S.1 187 9 = nI st.length ∧ st.length ≤ 401 ∧ ∀ j x, st.reverse[j]? = some x → S.1 198 j = nI x
theorem skR_cg {S S' : zS} {st : List Nat} (h : skR S st) (e1 : S'.1 187 9 = S.1 187 9) (e2 : ∀ j, S'.1 198 j = S.1 198 j) : skR S' st := ⟨e1.trans h.1, h.2.1, fun j x hj => (e2 j).trans (h.2.2 j x hj)⟩
section
variable {T : zT} {u : Nat → Nat} {n s m : Nat} {w : Nat → Bool}
def tsR (u : Nat → Nat) (n s m : Nat) (S : zS) (i e k d : Nat) (st : List Nat) : Prop := stR u n s m S i e k ∧ S.1 187 7 = nI d ∧ skR S st
theorem ctR_T {S S' : zS} (h : ctR u n s S) (o : oT s S S') : ctR u n s S' := ⟨txR_o h.1 (o.2 _ _ (by omega) (by omega) (by decide)) (fun i => o.2 _ _ (by omega) (by omega) (by decide)), by rw [o.2 _ _ (by omega) (by omega) (by decide)]; exact h.2.1, h.2.2.1, by rw [o.2 _ _ (by omega) (by omega) (by decide)]; exact h.2.2.2⟩
def topI : List Nat → Int32
  | [] => -1
  | x :: _ => nI x
theorem r_top (hT : iT T) {S : zS} {st : List Nat} (h : skR S st) : fX12_top T 187 S = some (topI st) := by
  obtain ⟨h1, h2, h3⟩ := h
  unfold fX12_top fX12_top_b22
  rw [h1]
  cases st with
  | nil => rw [if_pos (show nI ([] : List Nat).length = 0 from rfl)]; rfl
  | cons x st =>
    have hl : (x :: st).length = st.length + 1 := rfl
    rw [hl] at h2 ⊢
    rw [if_neg (show ¬ nI (st.length + 1) = 0 by rw [show (0 : Int32) = nI 0 from rfl, n_eq (by omega) (by omega)]; omega), n_subL (by omega), show st.length + 1 - 1 = st.length from rfl, g_in (by omega) (by decide), zT_187_21 hT, tn_nI (by omega)]
    rw [h3 st.length x (by rw [List.reverse_cons, List.getElem?_append_right (by rw [List.length_reverse]; exact Nat.le_refl _), List.length_reverse, Nat.sub_self]; rfl)]
    rfl
theorem r_push (hT : iT T) {S : zS} {st : List Nat} (h : skR S st) (hl : st.length ≤ 400) (k : Nat) : ∃ S', fX12_opens_b40 T 187 (nI k) S = some ((), S') ∧ S'.2 = S.2 ∧ (∀ a b, ¬ (a = 187 ∧ b = 9) → a ≠ 198 → S'.1 a b = S.1 a b) ∧ skR S' (k :: st) := by
  obtain ⟨h1, h2, h3⟩ := h
  unfold fX12_opens_b40
  rw [h1, g_in (by omega) (by decide), zT_187_21 hT, tn_nI (by omega), let_q, zI_ne (by decide), h1, n_addL, let_q]
  refine ⟨_, rfl, rfl, fun a b q1 q2 => by rw [zI_at, if_neg q1, zI_ne q2], by rw [zI_eqs]; rfl, by show st.length + 1 ≤ 401; omega, fun j x hj => ?_⟩
  rw [zI_ne (by decide), zI_eq]
  rw [List.reverse_cons] at hj
  by_cases y : j < st.length
  · rw [List.getElem?_append_left (by rw [List.length_reverse]; exact y)] at hj
    rw [if_neg (by omega)]; exact h3 j x hj
  · rw [List.getElem?_append_right (by rw [List.length_reverse]; omega), List.length_reverse] at hj
    have hj0 := (List.getElem?_eq_some_iff.mp hj).1
    have e9 : [k].length = 1 := rfl
    have hjl : j = st.length := by omega
    rw [hjl, Nat.sub_self] at hj
    rw [if_pos hjl, (Option.some.inj hj : k = x)]
theorem skR_pop {S S' : zS} {x : Nat} {st : List Nat} (h : skR S (x :: st)) (e1 : S'.1 187 9 = nI st.length) (e2 : ∀ j, S'.1 198 j = S.1 198 j) : skR S' st := by
  obtain ⟨h1, h2, h3⟩ := h
  have hl : (x :: st).length = st.length + 1 := rfl
  refine ⟨e1, by omega, fun j y hj => ?_⟩
  rw [e2]
  refine h3 j y ?_
  have hj0 := (List.getElem?_eq_some_iff.mp hj).1
  rw [List.reverse_cons, List.getElem?_append_left hj0]
  exact hj
/-- signs that wait, answered -/
theorem r_answers (hT : iT T) {op kk : Nat} (hop : rk kk = op) (hkk : kk = 16 ∨ kk = 17 ∨ kk = 18) {st : List Nat} (hst : ∀ y, st.head? = some y → ¬ y = op) (hy : ∀ y, y ∈ st → y ≤ 12) : ∀ x S e d, ctR u n s S → S.1 187 3 = 0 → S.1 187 6 = nI e → e + x ≤ 300 → S.1 187 7 = nI (d + if op = 9 then x else 0) → skR S (List.replicate x op ++ st) → ∃ S', fX12_answers T 187 (nI op) S = some ((), S') ∧ oT s S S' ∧ (∀ b, b ≠ 6 → b ≠ 7 → b ≠ 9 → S'.1 187 b = S.1 187 b) ∧ skR S' st ∧ S'.1 187 7 = nI d ∧ S'.1 187 6 = nI (e + x) ∧ wrR s S S' e (List.replicate x (kk, 0)) := by
  have hop12 : op ≤ 12 := by rcases hkk with rfl | rfl | rfl <;> (rw [← hop]; decide)
  have key : ∀ x S e d, ctR u n s S → S.1 187 3 = 0 → S.1 187 6 = nI e → e + x ≤ 300 → S.1 187 7 = nI (d + if op = 9 then x else 0) → skR S (List.replicate x op ++ st) → ∃ S', lp (fun a => fX12_answers_l0 T 187 (nI op) a) S = some S' ∧ oT s S S' ∧ (∀ b, b ≠ 6 → b ≠ 7 → b ≠ 9 → S'.1 187 b = S.1 187 b) ∧ skR S' st ∧ S'.1 187 7 = nI d ∧ S'.1 187 6 = nI (e + x) ∧ wrR s S S' e (List.replicate x (kk, 0)) := by
    intro x
    induction x with
    | zero =>
      intro S e d hc h3 h6 he h7 hs
      have hs' : skR S st := hs
      have e7 : d + (if op = 9 then 0 else 0) = d := by split <;> rfl
      rw [e7] at h7
      refine ⟨S, lp_stop ?_, oT_refl, fun _ _ _ _ => rfl, hs', h7, h6, wrR_nil⟩
      unfold fX12_answers_l0
      rw [r_top hT hs', b1_q]
      cases st with
      | nil =>
        have : ¬ (-1 : Int32) = nI op := fun q => by
          have := z_eq.mp q
          rw [nI_toInt (by omega)] at this
          have em : (-1 : Int32).toInt = -1 := rfl
          omega
        rw [if_neg (show ¬ topI [] = nI op from this)]
      | cons y st =>
        have h12 := hy y (List.mem_cons_self ..)
        rw [if_neg (show ¬ topI (y :: st) = nI op from by show ¬ nI y = nI op; rw [n_eq (by omega) (by omega)]; exact hst y rfl)]
    | succ x ih =>
      intro S e d hc h3 h6 he h7 hs
      have hs' : skR S (op :: (List.replicate x op ++ st)) := hs
      obtain ⟨S1, e1, o1, b1, c1, w1⟩ := r_entry0 hT hc h3 h6 (by omega) (p := (kk, 0)) (x := nI op) (y := 0) (by show nI op = nI (rk kk); rw [hop]) (fun q => by have q' : kk = 31 := q; omega) (fun q => by have q' : kk = 47 := q; omega)
      have hlen : (op :: (List.replicate x op ++ st)).length = (List.replicate x op ++ st).length + 1 := rfl
      have e9 : S1.1 187 9 = nI ((List.replicate x op ++ st).length + 1) := by rw [b1 _ (by decide)]; exact hs'.1
      have e7 : S1.1 187 7 = nI (d + if op = 9 then x + 1 else 0) := by rw [b1 _ (by decide)]; exact h7
      have hb := hs'.2.1
      have eo : (nI op = 9) = (op = 9) := nI_eqL (show (9 : Int32) = nI 9 from rfl) (by omega) (by decide)
      have step : ∃ S2, fX12_answers_l0 T 187 (nI op) S = some (.inl S2) ∧ S2.2 = S1.2 ∧ (∀ a b, ¬ (a = 187 ∧ (b = 7 ∨ b = 9)) → S2.1 a b = S1.1 a b) ∧ S2.1 187 9 = nI (List.replicate x op ++ st).length ∧ S2.1 187 7 = nI (d + if op = 9 then x else 0) := by
        unfold fX12_answers_l0 fX12_answers_b47
        rw [r_top hT hs', b1_q]
        show ∃ S2, (if nI op = nI op then _ else _) = _ ∧ _
        rw [if_pos rfl, if_pos h3, e1, b_q, e9, n_subL (by omega), Nat.add_sub_cancel, let_q]
        by_cases z : op = 9
        · rw [if_pos (show nI op = 9 by rw [eo]; exact z), zI_eqn (by decide), e7, if_pos z, n_subL (by omega), let_q]
          refine ⟨_, rfl, rfl, fun a b q => by rw [zI_at, if_neg (by omega), zI_at, if_neg (by omega)], by rw [zI_eqn (by decide), zI_eqs], ?_⟩
          rw [zI_eqs, if_pos z]
          show nI (d + (x + 1) - 1) = _
          rw [show d + (x + 1) - 1 = d + x by omega]
        · rw [if_neg (show ¬ nI op = 9 by rw [eo]; exact z), zI_eqn (by decide), e7, if_neg z, Int32.sub_zero, let_q]
          refine ⟨_, rfl, rfl, fun a b q => by rw [zI_at, if_neg (by omega), zI_at, if_neg (by omega)], by rw [zI_eqn (by decide), zI_eqs], ?_⟩
          rw [zI_eqs, if_neg z]
      obtain ⟨S2, e2, q1, q2, q3, q4⟩ := step
      have o2 : oT s S1 S2 := ⟨q1, fun a b x _ _ => q2 a b (by omega)⟩
      have o12 := oT_tr (oT_S o1) o2
      have sk2 : skR S2 (List.replicate x op ++ st) := skR_pop hs' q3 (fun j => (q2 _ _ (by omega)).trans (o1.2 _ _ (by omega) (by omega)))
      obtain ⟨S3, e3, o3, b3, k3, d3, c3, w3⟩ := ih S2 (e + 1) d (ctR_T hc o12) (by rw [q2 _ _ (by omega), b1 _ (by decide)]; exact h3) (by rw [q2 _ _ (by omega)]; exact c1) (by omega) q4 sk2
      refine ⟨S3, lp_go e2 e3, oT_tr o12 o3, fun b n1 n2 n3 => by rw [b3 b n1 n2 n3, q2 _ _ (by omega), b1 b n1], k3, d3, by rw [c3]; exact congrArg nI (by omega), ?_⟩
      have w2 : wrR s S S2 e [(kk, 0)] := wrR_cg w1 (fun a b q => q2 a b (by omega))
      exact wrR_app w2 w3
  intro x S e d hc h3 h6 he h7 hs
  obtain ⟨S', e1, r⟩ := key x S e d hc h3 h6 he h7 hs
  refine ⟨S', ?_, r⟩
  unfold fX12_answers fX12_answers_b54
  rw [e1, b1_q]
theorem stR_T {S S' : zS} {i e e' k : Nat} (h : stR u n s m S i e k) (o : oT s S S') (hb : ∀ b, b ≠ 6 → b ≠ 7 → b ≠ 9 → S'.1 187 b = S.1 187 b) (he : S'.1 187 6 = nI e') : stR u n s m S' i e' k := ⟨ctR_T h.1 o, h.2.1, by rw [hb 2 (by decide) (by decide) (by decide)]; exact h.2.2.1, by rw [hb 3 (by decide) (by decide) (by decide)]; exact h.2.2.2.1, he, by rw [hb 8 (by decide) (by decide) (by decide)]; exact h.2.2.2.2.2⟩
/-- the end of a test, its waiting signs answered -/
noncomputable def endE (T : zT) (S : zS) : Option ((Int32 × Int32 × zS) ⊕ zS) := zb1 (fX12_top T 187 S) fun r33 => if r33 = 12 then zb1 (fX12_sign T 187 S) fun r36 => if r36 = 93 then fX12_test_b164 T 187 0 1 S else zb (fX12_fails T 187 0 (S.1 187 2) S) fun _ S44 => fX12_test_b164 T 187 0 1 S44 else fX12_test_b199 T 187 0 0 S
theorem l9_exit {S : zS} {F : Int32} {c : Nat} (hF : ¬ F = 0) (h : pfR u n s c S F) {x : Int32} : lp (fun a => fX12_test_l9 T 187 a.1 a.2.1 a.2.2) (x, 1, S) = some S := by
  refine lp_stop ?_
  show fX12_test_l9 T 187 x 1 S = _
  unfold fX12_test_l9
  rw [if_neg n10, h.2.2, if_neg hF]
/-- behind a fact: the waiting NOTs, then an AND, an OR, or the end -/
theorem r_behind (hT : iT T) (hn4 : n ≤ 400) (hm : m ≤ n ∧ pl u n m = n ∧ ∀ i, i < m → pl u n i < n) {S0 S : zS} {e0 j k d x : Nat} {a o : Bool} {st : List Nat} {c0 : List (Nat × Nat)} (hst : ∀ y, st.head? = some y → y = 12) (hy : ∀ y, y ∈ st → y ≤ 12) (o0 : oT s S0 S) (h : tsR u n s m S j (e0 + c0.length) k (d + x) (List.replicate x 9 ++ (List.replicate (bN a) 10 ++ (List.replicate (bN o) 11 ++ st)))) (wr : wrR s S0 S e0 c0) (he : e0 + c0.length + x + 2 ≤ 300) (hl : st.length + 2 ≤ 400) :
    ((tok u n (pl u n j)).1 = 17 → j < m ∧ ∃ S', fX12_test_l9 T 187 0 1 S = some (.inl (1, 1, S')) ∧ oT s S0 S' ∧ tsR u n s m S' (j + 1) (e0 + (aoC a 17 (c0 ++ List.replicate x (18, 0))).length) k d (List.replicate (bN true) 10 ++ (List.replicate (bN o) 11 ++ st)) ∧ wrR s S0 S' e0 (aoC a 17 (c0 ++ List.replicate x (18, 0)))) ∧
    ((tok u n (pl u n j)).1 = 16 → j < m ∧ ∃ S', fX12_test_l9 T 187 0 1 S = some (.inl (1, 1, S')) ∧ oT s S0 S' ∧ tsR u n s m S' (j + 1) (e0 + (aoC o 16 (aoC a 17 (c0 ++ List.replicate x (18, 0)))).length) k d (List.replicate (bN false) 10 ++ (List.replicate (bN true) 11 ++ st)) ∧ wrR s S0 S' e0 (aoC o 16 (aoC a 17 (c0 ++ List.replicate x (18, 0))))) ∧
    (¬ (tok u n (pl u n j)).1 = 17 → ¬ (tok u n (pl u n j)).1 = 16 → ∃ S', fX12_test_l9 T 187 0 1 S = endE T S' ∧ oT s S0 S' ∧ tsR u n s m S' j (e0 + (aoC o 16 (aoC a 17 (c0 ++ List.replicate x (18, 0)))).length) k d st ∧ S'.1 187 2 = nI (pl u n j) ∧ wrR s S0 S' e0 (aoC o 16 (aoC a 17 (c0 ++ List.replicate x (18, 0))))) := by
  obtain ⟨s1, s7, sk⟩ := h
  have hple := pl_le (u := u) (n := n) j
  have hu := txR_255 s1.1.1
  have ba : bN a ≤ 1 := by unfold bN; split <;> omega
  have bo : bN o ≤ 1 := by unfold bN; split <;> omega
  have hd : ∀ (b : Bool) (op : Nat) (l : List Nat) (y : Nat), (List.replicate (bN b) op ++ l).head? = some y → y = op ∨ l.head? = some y := by
    intro b op l y q
    cases b with
    | true => left; exact (Option.some.inj q).symm
    | false => right; exact q
  have hmem : ∀ (b : Bool) (op : Nat) (l : List Nat), op ≤ 12 → (∀ y, y ∈ l → y ≤ 12) → ∀ y, y ∈ List.replicate (bN b) op ++ l → y ≤ 12 := by
    intro b op l h1 h2 y q
    rcases List.mem_append.mp q with q | q
    · rw [(List.mem_replicate.mp q).2]; exact h1
    · exact h2 y q
  -- the NOTs
  obtain ⟨S7, e7, o7, b7, k7, d7, c7, w7⟩ := r_answers hT (kk := 18) (op := 9) rfl (by omega) (st := List.replicate (bN a) 10 ++ (List.replicate (bN o) 11 ++ st)) (fun y q => by
    rcases hd a 10 _ y q with q | q
    · omega
    · rcases hd o 11 _ y q with q | q
      · omega
      · have := hst y q; omega) (hmem a 10 _ (by decide) (hmem o 11 _ (by decide) hy)) x S (e0 + c0.length) d s1.1 s1.2.2.2.1 s1.2.2.2.2.1 (by omega) (by rw [if_pos rfl]; exact s7) sk
  have st7 := stR_T s1 o7 b7 c7
  obtain ⟨S10, e10, o10, p10, st10⟩ := st_blanks hT st7
  have k10 : skR S10 (List.replicate (bN a) 10 ++ (List.replicate (bN o) 11 ++ st)) := skR_cg k7 (o10.2 _ _ (by omega)) (fun j => o10.2 _ _ (by omega))
  have d10 : S10.1 187 7 = nI d := by rw [o10.2 _ _ (by omega)]; exact d7
  have w10 : wrR s S0 S10 e0 (c0 ++ List.replicate x (18, 0)) := wrR_cg (wrR_app wr w7) (fun a b q => o10.2 a b (by omega))
  have l10 : (c0 ++ List.replicate x (18, 0)).length = c0.length + x := by rw [List.length_append, List.length_replicate]
  have st10' : stR u n s m S10 j (e0 + (c0 ++ List.replicate x (18, 0)).length) k := by rw [l10, ← Nat.add_assoc]; exact st10
  -- the AND
  obtain ⟨S17, e17, o17, b17, k17, d17, c17, w17⟩ := r_answers hT (kk := 17) (op := 10) rfl (by omega) (st := List.replicate (bN o) 11 ++ st) (fun y q => by
    rcases hd o 11 _ y q with q | q
    · omega
    · have := hst y q; omega) (hmem o 11 _ (by decide) hy) (bN a) S10 (e0 + (c0 ++ List.replicate x (18, 0)).length) d st10'.1 st10'.2.2.2.1 st10'.2.2.2.2.1 (by rw [l10]; omega) (by rw [if_neg (by decide)]; exact d10) k10
  have ea : ∀ (b : Bool) (op : Nat) (c : List (Nat × Nat)), aoC b op c = c ++ List.replicate (bN b) (op, 0) := by
    intro b op c
    unfold aoC
    cases b with
    | true => rw [if_pos rfl]; rfl
    | false => exact (List.append_nil c).symm
  have w17' : wrR s S0 S17 e0 (aoC a 17 (c0 ++ List.replicate x (18, 0))) := by rw [ea]; exact wrR_app w10 w17
  have l17 : (aoC a 17 (c0 ++ List.replicate x (18, 0))).length = c0.length + x + bN a := by rw [aoC_len, l10]
  have st17 : stR u n s m S17 j (e0 + (aoC a 17 (c0 ++ List.replicate x (18, 0))).length) k := stR_T st10' o17 b17 (by rw [c17, l17, l10]; exact congrArg nI (by omega))
  have p17 : S17.1 187 2 = nI (pl u n j) := by rw [b17 _ (by decide) (by decide) (by decide)]; exact p10
  have ov17 := oT_tr o0 (oT_tr o7 (oT_tr (oT_P (s := s) o10) o17))
  have hl9 : fX12_test_l9 T 187 0 1 S = if (if (tok u n (pl u n j)).1 = 17 then (1 : Int32) else 0) = 0 then if (if (tok u n (pl u n j)).1 = 16 then (1 : Int32) else 0) = 0 then zb (fX12_answers T 187 11 S17) fun _ S32 => endE T S32 else fX12_test_b82 T 187 1 (if (tok u n (pl u n j)).1 = 17 then 1 else 0) (if (tok u n (pl u n j)).1 = 16 then 1 else 0) S17 else fX12_test_b82 T 187 1 (if (tok u n (pl u n j)).1 = 17 then 1 else 0) (if (tok u n (pl u n j)).1 = 16 then 1 else 0) S17 := by
    have e7' : fX12_answers T 187 9 S = some ((), S7) := e7
    have e17' : fX12_answers T 187 10 S10 = some ((), S17) := e17
    have h14 := r_stands hT st10.1.1 p10 (by omega) (k := 14) (by decide) (by decide)
    have h15 := r_stands hT st10.1.1 p10 (by omega) (k := 15) (by decide) (by decide)
    have w14 : sW 14 = 17 := by decide
    have w15 : sW 15 = 16 := by decide
    rw [w14] at h14
    rw [w15] at h15
    unfold fX12_test_l9
    rw [if_neg n10, s1.2.2.2.1, if_pos rfl, if_pos rfl, e7', b_q, e10, b_q, h14, b1_q, h15, b1_q, e17', b_q]
    rfl
  -- the OR
  obtain ⟨S32, e32, o32, b32, k32, d32, c32, w32⟩ := r_answers hT (kk := 16) (op := 11) rfl (by omega) (st := st) (fun y q => by have := hst y q; omega) hy (bN o) S17 (e0 + (aoC a 17 (c0 ++ List.replicate x (18, 0))).length) d st17.1 st17.2.2.2.1 st17.2.2.2.2.1 (by rw [l17]; omega) (by rw [if_neg (by decide)]; exact d17) k17
  have e32' : fX12_answers T 187 11 S17 = some ((), S32) := e32
  have w32' : wrR s S0 S32 e0 (aoC o 16 (aoC a 17 (c0 ++ List.replicate x (18, 0)))) := by rw [ea o]; exact wrR_app w17' w32
  have l32 : (aoC o 16 (aoC a 17 (c0 ++ List.replicate x (18, 0)))).length = c0.length + x + bN a + bN o := by rw [aoC_len, l17]
  have st32 : stR u n s m S32 j (e0 + (aoC o 16 (aoC a 17 (c0 ++ List.replicate x (18, 0)))).length) k := stR_T st17 o32 b32 (by rw [c32, l32, l17]; exact congrArg nI (by omega))
  have p32 : S32.1 187 2 = nI (pl u n j) := by rw [b32 _ (by decide) (by decide) (by decide)]; exact p17
  have ov32 := oT_tr ov17 o32
  -- on, behind the word
  have go : ∀ (Sx : zS) (ex op wd : Nat) (stx : List Nat), stR u n s m Sx j ex k → Sx.1 187 7 = nI d → skR Sx stx → stx.length ≤ 400 → Sx.1 187 2 = nI (pl u n j) → (op = 10 ∧ wd = 14 ∨ op = 11 ∧ wd = 15) → (tok u n (pl u n j)).1 = sW wd → j < m ∧ ∃ S', (zb (fX12_opens T 187 (nI op) Sx) fun _ S23 => zlet (zI S23 187 2 (S23.1 187 2 + nI (zsN wd))) fun S25 => (some (.inl (1, 1, S25)) : Option ((Int32 × Int32 × zS) ⊕ zS))) = some (.inl (1, 1, S')) ∧ oT s Sx S' ∧ tsR u n s m S' (j + 1) ex k d (op :: stx) ∧ ∀ a b, a = 189 ∨ a = 190 → S'.1 a b = Sx.1 a b := by
    intro Sx ex op wd stx hs hd7 hk hlen hp hopw htok
    have hwd : wd < 27 ∧ 1 ≤ wd := by omega
    obtain ⟨t1, t2⟩ := tok_wEnd hwd.1 hwd.2 hu htok
    have hz := (sW_at wd hwd.1 hwd.2).2.2.1
    have hjm := i_lt hm (show pl u n j < n by omega)
    obtain ⟨S23, e23, q1, q2, q3⟩ := r_push hT hk hlen op
    have eop : fX12_opens T 187 (nI op) Sx = fX12_opens_b40 T 187 (nI op) Sx := by
      unfold fX12_opens
      rcases hopw with ⟨rfl, -⟩ | ⟨rfl, -⟩
      · rw [if_neg (by decide), if_neg (by decide)]
      · rw [if_neg (by decide), if_neg (by decide)]
    rw [eop, e23, b_q, q2 187 2 (by omega) (by decide), hp, n_add, let_q]
    have oz : oT s Sx (zI S23 187 2 (nI (pl u n j + zsN wd))) := ⟨q1, fun a b x1 x2 x3 => by rw [zI_at, if_neg (by omega)]; exact q2 a b (by omega) x3⟩
    refine ⟨hjm, _, rfl, oz, ⟨⟨ctR_T hs.1 oz, hjm, ⟨pl u n j + zsN wd, t2, by rw [zI_eqs], by rw [← t1]; rfl⟩, ?_, ?_, ?_⟩, ?_, ?_⟩, fun a b q => ?_⟩
    · rw [zI_eqn (by decide), q2 _ _ (by omega) (by decide)]; exact hs.2.2.2.1
    · rw [zI_eqn (by decide), q2 _ _ (by omega) (by decide)]; exact hs.2.2.2.2.1
    · rw [zI_eqn (by decide), q2 _ _ (by omega) (by decide)]; exact hs.2.2.2.2.2
    · rw [zI_eqn (by decide), q2 _ _ (by omega) (by decide)]; exact hd7
    · exact skR_cg q3 (zI_eqn (by decide)) (fun j => zI_ne (by decide))
    · rw [zI_ne (by omega)]; exact q2 a b (by omega) (by omega)
  refine ⟨fun hk17 => ?_, fun hk16 => ?_, fun n17 n16 => ?_⟩
  · obtain ⟨g1, S', g2, g3, g4, g5⟩ := go S17 _ 10 14 _ st17 d17 k17 (by rw [List.length_append, List.length_replicate]; omega) p17 (by omega) (by rw [hk17]; decide)
    refine ⟨g1, S', ?_, oT_tr ov17 g3, g4, wrR_cg w17' g5⟩
    rw [hl9, if_pos hk17, if_neg n10, ← g2]
    unfold fX12_test_b82 fX12_test_b93 fX12_test_b105 fX12_test_b122 fX12_test_b199
    rw [if_neg (show ¬ (tok u n (pl u n j)).1 = 16 by omega), if_pos rfl, if_neg n10]
    refine zb_cg (fun _ S23 => ?_)
    rw [if_neg n10]
    rfl
  · obtain ⟨g1, S', g2, g3, g4, g5⟩ := go S32 _ 11 15 _ st32 d32 k32 (by omega) p32 (by omega) (by rw [hk16]; decide)
    refine ⟨g1, S', ?_, oT_tr ov32 g3, g4, wrR_cg w32' g5⟩
    rw [hl9, if_neg (show ¬ (tok u n (pl u n j)).1 = 17 by omega), if_pos rfl, if_pos hk16, if_neg n10, ← g2]
    unfold fX12_test_b82 fX12_test_b93 fX12_test_b105 fX12_test_b122 fX12_test_b199
    rw [if_neg n10, e32', b_q, if_pos rfl]
    refine zb_cg (fun _ S23 => ?_)
    rw [if_pos rfl]
    rfl
  · refine ⟨S32, ?_, ov32, ⟨st32, d32, k32⟩, p32, w32'⟩
    rw [hl9, if_neg n17, if_pos rfl, if_neg n16, if_pos rfl, e32', b_q]
end
