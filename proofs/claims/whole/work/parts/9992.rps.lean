/-! TESTS, by the reference: as the spec -/
section
variable {T : zT} {u : Nat → Nat} {n s m : Nat} {w : Nat → Bool}
theorem fact_eq (hT : iT T) {S : zS} {i e k : Nat} (h : stR u n s m S i e k) : ∃ S1, oP S S1 ∧ S1.1 187 2 = nI (pl u n i) ∧ stR u n s m S1 i e k ∧ fX12_fact T 187 S = if (tok u n (pl u n i)).1 = 18 then zb (fX12_opens T 187 9 S1) fun _ S19 => zlet (zI S19 187 2 (S19.1 187 2 + 3)) fun S20 => some (0, S20) else if (tok u n (pl u n i)).1 = 34 then zb (fX12_opens T 187 12 S1) fun _ S15 => zlet (zI S15 187 2 (S15.1 187 2 + 1)) fun S16 => some (0, S16) else zb (fX12_compared T 187 S1) fun _ S12 => some (1, S12) := by
  obtain ⟨S1, e1, o1, p1, s1⟩ := st_blanks hT h
  have hple := pl_le (u := u) (n := n) i
  have hn := h.1.1.1
  have hu := txR_255 s1.1.1
  have h13 := r_stands hT s1.1.1 p1 (by omega) (k := 13) (by decide) (by decide)
  have w13 : sW 13 = 18 := by decide
  rw [w13] at h13
  refine ⟨S1, o1, p1, s1, ?_⟩
  unfold fX12_fact
  rw [e1, b_q, h13, b1_q, r_sign hT s1.1.1 p1 (by omega), b1_q]
  have i91 := sg_iff (u := u) (n := n) (p := pl u n i) hu (c := 91) (k := 34) (by omega)
  by_cases y : (tok u n (pl u n i)).1 = 18
  · rw [if_pos y, if_neg n10, if_pos y]
  · rw [if_neg y, if_pos rfl, if_neg y]
    by_cases z : (tok u n (pl u n i)).1 = 34
    · rw [if_pos (show chI u n (pl u n i) = 91 from i91.mpr z), if_pos z]
    · rw [if_neg (show ¬ chI u n (pl u n i) = 91 from fun q => z (i91.mp q)), if_neg z]
/-- NOT or a bracket opened -/
theorem r_opens (hT : iT T) {S : zS} {d : Nat} {st : List Nat} (h3 : S.1 187 3 = 0) (h7 : S.1 187 7 = nI d) (hd : d ≤ 10) (hk : skR S st) (hl : st.length ≤ 400) {op : Nat} (hop : op = 9 ∨ op = 12) {p : Nat} (hp : S.1 187 2 = nI p) : ∃ S', fX12_opens T 187 (nI op) S = some ((), S') ∧ S'.2 = S.2 ∧ (∀ a b, ¬ (a = 187 ∧ (b = 3 ∨ b = 7 ∨ b = 9)) → a ≠ 198 → S'.1 a b = S.1 a b) ∧ S'.1 187 3 = (if d = 10 then flt (2, p) else 0) ∧ S'.1 187 7 = nI (d + 1) ∧ skR S' (op :: st) := by
  have e10 : (nI d = 10) = (d = 10) := nI_eqL (show (10 : Int32) = nI 10 from rfl) (by omega) (by decide)
  have e12 : fX12_opens T 187 (nI op) S = fX12_opens_b12 T 187 (nI op) S := by
    unfold fX12_opens
    rcases hop with rfl | rfl
    · rw [if_pos (show nI 9 = 9 from rfl)]
    · rw [if_neg (show ¬ nI 12 = 9 by decide), if_pos (show nI 12 = 12 from rfl)]
  have b30 : ∀ S1 : zS, S1.2 = S.2 → (∀ a b, ¬ (a = 187 ∧ b = 3) → S1.1 a b = S.1 a b) → ∃ S', fX12_opens_b30 T 187 (nI op) S1 = some ((), S') ∧ S'.2 = S.2 ∧ (∀ a b, ¬ (a = 187 ∧ (b = 3 ∨ b = 7 ∨ b = 9)) → a ≠ 198 → S'.1 a b = S.1 a b) ∧ S'.1 187 3 = S1.1 187 3 ∧ S'.1 187 7 = nI (d + 1) ∧ skR S' (op :: st) := by
    intro S1 q1 q2
    have k1 : skR (zI S1 187 7 (nI (d + 1))) st := skR_cg hk (by rw [zI_eqn (by decide)]; exact q2 _ _ (by omega)) (fun j => by rw [zI_ne (by decide)]; exact q2 _ _ (by omega))
    obtain ⟨S2, e2, u1, u2, u3⟩ := r_push hT k1 hl op
    unfold fX12_opens_b30
    rw [q2 187 7 (by omega), h7, n_addL, let_q, e2]
    refine ⟨S2, rfl, u1.trans q1, fun a b x y => ?_, ?_, ?_, u3⟩
    · rw [u2 a b (by omega) y, zI_at, if_neg (by omega)]; exact q2 a b (by omega)
    · rw [u2 _ _ (by omega) (by decide), zI_eqn (by decide)]
    · rw [u2 _ _ (by omega) (by decide), zI_eqs]
  rw [e12]
  unfold fX12_opens_b12
  rw [h7]
  by_cases y : d = 10
  · have ef : fX12_fails T 187 2 (nI p) S = some ((), zI S 187 3 (flt (2, p))) := r_fails0 h3 (c := 2)
    rw [if_pos (show nI d = 10 by rw [e10]; exact y), hp, ef, b_q]
    obtain ⟨S', e, a1, a2, a3, a4, a5⟩ := b30 (zI S 187 3 (flt (2, p))) rfl (fun a b q => by rw [zI_at, if_neg q])
    exact ⟨S', e, a1, a2, by rw [a3, zI_eqs, if_pos y], a4, a5⟩
  · rw [if_neg (show ¬ nI d = 10 by rw [e10]; exact y)]
    obtain ⟨S', e, a1, a2, a3, a4, a5⟩ := b30 S rfl (fun _ _ _ => rfl)
    exact ⟨S', e, a1, a2, by rw [a3, if_neg y]; exact h3, a4, a5⟩
theorem l9_want {S : zS} (h3 : S.1 187 3 = 0) : fX12_test_l9 T 187 1 1 S = zb (fX12_fact T 187 S) fun r45 S47 => some (.inl ((if r45 = 0 then 1 else 0), 1, S47)) := by
  unfold fX12_test_l9 fX12_test_b36
  rw [if_neg n10, if_pos h3, if_neg n10]
  refine zb_cg (fun r S47 => ?_)
  by_cases y : r = 0
  · rw [if_pos y, if_pos y]
  · rw [if_neg y, if_neg y]
theorem r_ps (hT : iT T) (hw : okWs w s) (hn4 : n ≤ 400) (hm : m ≤ n ∧ pl u n m = n ∧ ∀ i, i < m → pl u n i < n) : ∀ N,
    (∀ d i k st S e r, d ≤ 10 → tsR u n s m S i e k d st → 1 ≤ i → st.length + 1 ≤ i → (∀ y, y ∈ st → y ≤ 12) → k ≤ 60 → 3 * e ≤ 6 * k + pl u n i → psF (tkX u n w) N false d i k false false = some r → match r with
      | .inl f => ∃ S', lp (fun a => fX12_test_l9 T 187 a.1 a.2.1 a.2.2) (1, 1, S) = some S' ∧ oT s S S' ∧ pfR u n s 1 S' (flt f)
      | .inr p => ∃ x c0 S', p.2.2 = c0 ++ List.replicate x (18, 0) ∧ (∀ R, lp (fun a => fX12_test_l9 T 187 a.1 a.2.1 a.2.2) (0, 1, S') = some R → lp (fun a => fX12_test_l9 T 187 a.1 a.2.1 a.2.2) (1, 1, S) = some R) ∧ oT s S S' ∧ tsR u n s m S' p.1 (e + c0.length) p.2.1 (d + x) (List.replicate x 9 ++ st) ∧ wrR s S S' e c0) ∧
    (∀ d i k a o st S e r, d ≤ 10 → (∀ y, st.head? = some y → y = 12) → (∀ y, y ∈ st → y ≤ 12) → tsR u n s m S i e k d (List.replicate (bN a) 10 ++ (List.replicate (bN o) 11 ++ st)) → 1 ≤ i → bN a + bN o + st.length + 1 ≤ i → k ≤ 60 → 3 * (e + bN a + bN o) ≤ 6 * k + pl u n i → psF (tkX u n w) N true d i k a o = some r → match r with
      | .inl f => ∃ S', lp (fun a => fX12_test_l9 T 187 a.1 a.2.1 a.2.2) (1, 1, S) = some S' ∧ oT s S S' ∧ pfR u n s 1 S' (flt f)
      | .inr p => ∃ Sk S', (∀ R, lp (fun a => fX12_test_l9 T 187 a.1 a.2.1 a.2.2) (0, 1, Sk) = some R → lp (fun a => fX12_test_l9 T 187 a.1 a.2.1 a.2.2) (1, 1, S) = some R) ∧ fX12_test_l9 T 187 0 1 Sk = endE T S' ∧ oT s S S' ∧ tsR u n s m S' p.1 (e + p.2.2.length) p.2.1 d st ∧ S'.1 187 2 = nI (pl u n p.1) ∧ wrR s S S' e p.2.2) := by
  have hX := tkX_ok (w := w) hn4 (by rcases hw with ⟨-, q⟩ | ⟨-, q⟩ <;> simp [q]) hm
  have eK : ∀ i, (tkX u n w).1 i = (tok u n (pl u n i)).1 := fun i => rfl
  have eP : ∀ i, (tkX u n w).2.2.1 i = pl u n i := fun i => rfl
  have hbN : ∀ b, bN b ≤ 1 := fun b => by unfold bN; split <;> omega
  intro N
  induction N with
  | zero => exact ⟨fun d i k st S e r _ _ _ _ _ _ _ h => (by cases h), fun d i k a o st S e r _ _ _ _ _ _ _ _ h => (by cases h)⟩
  | succ N ih =>
    obtain ⟨ihF, ihT⟩ := ih
    refine ⟨?_, ?_⟩
    · intro d i k st S e r hd h h1 hl hmem hk he hps
      obtain ⟨hs, h7, hsk⟩ := id h
      obtain ⟨S1, o1, p1, s1, ef⟩ := fact_eq hT hs
      have hple := pl_le (u := u) (n := n) i
      have hu := txR_255 s1.1.1
      have h71 : S1.1 187 7 = nI d := by rw [o1.2 _ _ (by omega)]; exact h7
      have hsk1 : skR S1 st := skR_cg hsk (o1.2 _ _ (by omega)) (fun j => o1.2 _ _ (by omega))
      have hi := hs.2.1
      have wr01 : ∀ a b, a = 189 ∨ a = 190 → S1.1 a b = S.1 a b := fun a b q => o1.2 a b (by omega)
      have el := l9_want (T := T) hs.2.2.2.1
      rw [ef] at el
      unfold psF at hps
      rw [eK] at hps
      -- opened
      have opn : ∀ (op len : Nat), (op = 9 ∨ op = 12) → (tok u n (pl u n i)).2.2 = pl u n i + len → pl u n i + len ≤ n → 1 ≤ len → ∃ S2, oT s S1 S2 ∧ (zb (fX12_opens T 187 (nI op) S1) fun _ S19 => zlet (zI S19 187 2 (S19.1 187 2 + nI len)) fun S20 => some ((0 : Int32), S20)) = some (0, S2) ∧ (∀ a b, a = 189 ∨ a = 190 → S2.1 a b = S1.1 a b) ∧ (d < 10 → i < m ∧ tsR u n s m S2 (i + 1) e k (d + 1) (op :: st)) ∧ (¬ d < 10 → pfR u n s 1 S2 (flt (2, pl u n i))) := by
        intro op len hop ht htn hlen
        obtain ⟨S', e', a1, a2, a3, a4, a5⟩ := r_opens hT s1.2.2.2.1 h71 hd hsk1 (by have := hm.1; omega) hop p1
        have oz : oT s S1 (zI S' 187 2 (nI (pl u n i + len))) := ⟨a1, fun a b x y z => by rw [zI_at, if_neg (by omega)]; exact a2 a b (by omega) z⟩
        have him := i_lt hm (show pl u n i < n by omega)
        rw [e', b_q, a2 187 2 (by omega) (by decide), p1, n_add, let_q]
        refine ⟨_, oz, rfl, fun a b q => by rw [zI_ne (by omega)]; exact a2 a b (by omega) (by omega), fun hd10 => ⟨him, ⟨ctR_T s1.1 oz, him, ⟨pl u n i + len, htn, by rw [zI_eqs], by rw [← ht]; rfl⟩, ?_, ?_, ?_⟩, ?_, ?_⟩, fun hd10 => ⟨ctR_T s1.1 oz, ⟨pl u n i + len, by omega, by rw [zI_eqs]⟩, ?_⟩⟩
        · rw [zI_eqn (by decide), a3, if_neg (by omega)]
        · rw [zI_eqn (by decide), a2 _ _ (by omega) (by decide)]; exact s1.2.2.2.2.1
        · rw [zI_eqn (by decide), a2 _ _ (by omega) (by decide)]; exact s1.2.2.2.2.2
        · rw [zI_eqn (by decide)]; exact a4
        · exact skR_cg a5 (zI_eqn (by decide)) (fun j => zI_ne (by decide))
        · rw [zI_eqn (by decide), a3, if_pos (by omega)]
      by_cases y : (tok u n (pl u n i)).1 = 18
      · rw [if_pos y] at hps el
        obtain ⟨t1, t2⟩ := tok_wEnd (k := 13) (by decide) (by decide) hu (show (tok u n (pl u n i)).1 = sW 13 from y)
        have z13 : zsN 13 = 3 := by decide
        rw [z13] at t1 t2
        obtain ⟨S2, o2, e2, wr2, g1, g2⟩ := opn 9 3 (Or.inl rfl) t1 t2 (by decide)
        have e2' : (zb (fX12_opens T 187 9 S1) fun _ S19 => zlet (zI S19 187 2 (S19.1 187 2 + 3)) fun S20 => some ((0 : Int32), S20)) = some (0, S2) := e2
        rw [e2', b_q, if_pos rfl] at el
        by_cases z : d < 10
        · rw [if_pos z] at hps
          obtain ⟨him, g3⟩ := g1 z
          obtain ⟨r1, e3, e4⟩ := ob_inr hps
          have er := (Option.some.inj e4).symm
          have hpm := hX.2.2.2.1 i
          rw [eP, eP] at hpm
          have ii := ihF (d + 1) (i + 1) k (9 :: st) S2 e r1 (by omega) g3 (by omega) (by show st.length + 1 + 1 ≤ i + 1; omega) (fun q hq => by
            rcases List.mem_cons.mp hq with hq | hq
            · omega
            · exact hmem q hq) hk (by omega) e3
          cases r1 with
          | inl f =>
            rw [er]
            obtain ⟨S', f1, f2, f3⟩ := ii
            exact ⟨S', lp_go el f1, oT_tr (oT_P o1) (oT_tr o2 f2), f3⟩
          | inr p =>
            obtain ⟨j, k', c⟩ := p
            obtain ⟨x, c0, S', f1, f2, f3, f4, f5⟩ := ii
            have f1' : c = c0 ++ List.replicate x (18, 0) := f1
            rw [er]
            show ∃ x c0 S', c ++ [(18, 0)] = c0 ++ List.replicate x (18, 0) ∧ _
            refine ⟨x + 1, c0, S', ?_, fun R hR => lp_go el (f2 R hR), oT_tr (oT_P o1) (oT_tr o2 f3), ?_, wrR_cg0 f5 (fun a b q => (wr2 a b q).trans (wr01 a b q))⟩
            · rw [f1', List.append_assoc]
              refine congrArg (fun l => c0 ++ l) ?_
              rw [List.replicate_succ']
            · have f4' : tsR u n s m S' j (e + c0.length) k' (d + 1 + x) (List.replicate x 9 ++ 9 :: st) := f4
              rw [show d + 1 + x = d + (x + 1) by omega] at f4'
              have el9 : List.replicate x 9 ++ 9 :: st = List.replicate (x + 1) 9 ++ st := by
                rw [List.replicate_succ', List.append_assoc]; rfl
              rw [el9] at f4'
              exact f4'
        · rw [if_neg z] at hps
          have er := (Option.some.inj hps).symm
          have pf2 := g2 z
          rw [er]
          have hF : ¬ flt (2, pl u n i) = 0 := flt_0 (by show pl u n i ≤ 400; omega) (by show 2 ≤ 7; decide)
          exact ⟨S2, lp_go el (l9_exit hF pf2), oT_tr (oT_P o1) o2, pf2⟩
      · rw [if_neg y] at hps el
        by_cases y2 : (tok u n (pl u n i)).1 = 34
        · rw [if_pos y2] at hps el
          obtain ⟨t1, t2, t3, t4⟩ := tok_sg (u := u) (n := n) (p := pl u n i) (by omega)
          obtain ⟨S2, o2, e2, wr2, g1, g2⟩ := opn 12 1 (Or.inr rfl) t3 (by omega) (by decide)
          have e2' : (zb (fX12_opens T 187 12 S1) fun _ S15 => zlet (zI S15 187 2 (S15.1 187 2 + 1)) fun S16 => some ((0 : Int32), S16)) = some (0, S2) := e2
          rw [e2', b_q, if_pos rfl] at el
          by_cases z : d < 10
          · rw [if_pos z] at hps
            obtain ⟨him, g3⟩ := g1 z
            obtain ⟨r1, e3, e4⟩ := ob_inr hps
            have er := (Option.some.inj e4).symm
            have hpm := hX.2.2.2.1 i
            rw [eP, eP] at hpm
            have ii := ihT (d + 1) (i + 1) k false false (12 :: st) S2 e r1 (by omega) (fun q hq => (Option.some.inj hq).symm) (fun q hq => by
              rcases List.mem_cons.mp hq with hq | hq
              · omega
              · exact hmem q hq) g3 (by omega) (by show 0 + 0 + (st.length + 1) + 1 ≤ i + 1; omega) hk (by show 3 * (e + 0 + 0) ≤ _; omega) e3
            cases r1 with
            | inl f =>
              rw [er]
              obtain ⟨S', f1, f2, f3⟩ := ii
              exact ⟨S', lp_go el f1, oT_tr (oT_P o1) (oT_tr o2 f2), f3⟩
            | inr p =>
              obtain ⟨j, k', c⟩ := p
              obtain ⟨Sk, S', f1, f2, f3, f4, f5, f6⟩ := ii
              have f4' : tsR u n s m S' j (e + c.length) k' (d + 1) (12 :: st) := f4
              have f5' : S'.1 187 2 = nI (pl u n j) := f5
              have f6' : wrR s S2 S' e c := f6
              obtain ⟨q1, q2, q3⟩ := f4'
              have hplj := pl_le (u := u) (n := n) j
              have hu' := txR_255 q1.1.1
              have i93 := sg_iff (u := u) (n := n) (p := pl u n j) hu' (c := 93) (k := 35) (by omega)
              have ov := oT_tr (oT_P (s := s) o1) (oT_tr o2 f3)
              -- the bracket closed
              have b164 : ∀ Sx : zS, (∀ a b, ¬ (a = 187 ∧ b = 3) → Sx.1 a b = S'.1 a b) → Sx.2 = S'.2 → ∃ S4, fX12_test_b164 T 187 0 1 Sx = some (.inl (0, 1, S4)) ∧ oT s S' S4 ∧ S4.1 187 2 = nI (pl u n j + 1) ∧ S4.1 187 3 = Sx.1 187 3 ∧ S4.1 187 7 = nI d ∧ skR S4 st ∧ (∀ a b, ¬ (a = 187 ∧ (b = 2 ∨ b = 3 ∨ b = 7 ∨ b = 9)) → S4.1 a b = S'.1 a b) := by
                intro Sx x1 x2
                have hlen : (12 :: st).length = st.length + 1 := rfl
                unfold fX12_test_b164 fX12_test_b199
                rw [x1 187 2 (by omega), f5', n_addL, let_q, zI_eqn (by decide), x1 187 9 (by omega), q3.1, hlen, n_subL (by omega), Nat.add_sub_cancel, let_q, zI_eqn (by decide), zI_eqn (by decide), x1 187 7 (by omega), q2, n_subL (by omega), Nat.add_sub_cancel, let_q]
                refine ⟨_, rfl, ⟨x2, fun a b z1 z2 z3 => by rw [zI_at, if_neg (by omega), zI_at, if_neg (by omega), zI_at, if_neg (by omega)]; exact x1 a b (by omega)⟩, ?_, ?_, by rw [zI_eqs], ?_, fun a b z1 => ?_⟩
                · rw [zI_eqn (by decide), zI_eqn (by decide), zI_eqs]
                · rw [zI_eqn (by decide), zI_eqn (by decide), zI_eqn (by decide)]
                · refine skR_pop q3 (by rw [zI_eqn (by decide), zI_eqs]) (fun j => ?_)
                  rw [zI_ne (by decide), zI_ne (by decide), zI_ne (by decide)]; exact x1 _ _ (by omega)
                · rw [zI_at, if_neg (by omega), zI_at, if_neg (by omega), zI_at, if_neg (by omega)]; exact x1 a b (by omega)
              have eE : fX12_test_l9 T 187 0 1 Sk = if (tok u n (pl u n j)).1 = 35 then fX12_test_b164 T 187 0 1 S' else fX12_test_b164 T 187 0 1 (zI S' 187 3 (flt (0, pl u n j))) := by
                rw [f2]
                unfold endE
                have ef0 : fX12_fails T 187 0 (nI (pl u n j)) S' = some ((), zI S' 187 3 (flt (0, pl u n j))) := r_fails0 q1.2.2.2.1 (c := 0)
                rw [r_top hT q3, b1_q, if_pos (show topI (12 :: st) = 12 from rfl), r_sign hT q1.1.1 f5' (by omega), b1_q, f5', ef0, b_q]
                by_cases v : (tok u n (pl u n j)).1 = 35
                · rw [if_pos (show chI u n (pl u n j) = 93 from i93.mpr v), if_pos v]
                · rw [if_neg (show ¬ chI u n (pl u n j) = 93 from fun q => v (i93.mp q)), if_neg v]
              have er' : r = if (tok u n (pl u n j)).1 = 35 then .inr (j + 1, k', c) else .inl (0, pl u n j) := er
              by_cases v : (tok u n (pl u n j)).1 = 35
              · rw [if_pos v] at eE er'
                rw [er']
                obtain ⟨v1, v2, v3, v4⟩ := tok_sg (u := u) (n := n) (p := pl u n j) (by omega)
                have hjm := i_lt hm v1
                obtain ⟨S4, b1, b2, b3, b4, b5, b6, b7⟩ := b164 S' (fun _ _ _ => rfl) rfl
                rw [b1] at eE
                refine ⟨0, c, S4, (List.append_nil c).symm, fun R hR => lp_go el (f1 R (lp_go eE hR)), oT_tr ov b2, ?_, wrR_cg0 (wrR_cg f6' (fun a b q => b7 a b (by omega))) (fun a b q => (wr2 a b q).trans (wr01 a b q))⟩
                refine ⟨⟨ctR_T q1.1 b2, hjm, ⟨pl u n j + 1, by omega, b3, by rw [← v3]; rfl⟩, b4.trans q1.2.2.2.1, (b7 _ _ (by omega)).trans q1.2.2.2.2.1, (b7 _ _ (by omega)).trans q1.2.2.2.2.2⟩, b5, b6⟩
              · rw [if_neg v] at eE er'
                rw [er']
                obtain ⟨S4, b1, b2, b3, b4, b5, b6, b7⟩ := b164 (zI S' 187 3 (flt (0, pl u n j))) (fun a b q => by rw [zI_at, if_neg q]) rfl
                rw [b1] at eE
                have hF : ¬ flt (0, pl u n j) = 0 := flt_0 (by show pl u n j ≤ 400; omega) (by show 0 ≤ 7; decide)
                have pf4 : pfR u n s 1 S4 (flt (0, pl u n j)) := ⟨ctR_T q1.1 b2, ⟨pl u n j + 1, by omega, b3⟩, by rw [b4, zI_eqs]⟩
                exact ⟨S4, lp_go el (f1 _ (lp_go eE (l9_exit hF pf4))), oT_tr ov b2, pf4⟩
          · rw [if_neg z] at hps
            have er := (Option.some.inj hps).symm
            have pf2 := g2 z
            rw [er]
            have hF : ¬ flt (2, pl u n i) = 0 := flt_0 (by show pl u n i ≤ 400; omega) (by show 2 ≤ 7; decide)
            exact ⟨S2, lp_go el (l9_exit hF pf2), oT_tr (oT_P o1) o2, pf2⟩
        · rw [if_neg y2] at hps el
          have er := (Option.some.inj hps).symm
          obtain ⟨S2, e2, o2, r2⟩ := r_cmp hT hw hn4 hm s1 h1 hk (by omega)
          rw [e2, b_q, b_q, if_neg n10] at el
          rw [er]
          cases hv : cmpS (tkX u n w) i k with
          | inl f =>
            rw [hv] at r2
            have hF := flt_ok (okF_cmp hX hv)
            have r2' : pfR u n s 0 S2 (flt f) := r2
            obtain ⟨w1, ⟨p', hp', ep'⟩, w3⟩ := r2'
            have pf1 : pfR u n s 1 S2 (flt f) := ⟨w1, ⟨p', by omega, ep'⟩, w3⟩
            exact ⟨S2, lp_go el (l9_exit hF pf1), oT_tr (oT_P o1) (oT_S o2), pf1⟩
          | inr p =>
            obtain ⟨j, k', c⟩ := p
            rw [hv] at r2
            obtain ⟨s2, p2, w2⟩ := r2
            have w2' : wrR s S1 S2 e c := w2
            refine ⟨0, c, S2, (List.append_nil c).symm, fun R hR => lp_go el hR, oT_tr (oT_P o1) (oT_S o2), ⟨s2, ?_, ?_⟩, wrR_cg0 w2' wr01⟩
            · rw [o2.2 _ _ (by omega) (by omega)]; exact h71
            · exact skR_cg hsk1 (o2.2 _ _ (by omega) (by omega)) (fun j => o2.2 _ _ (by omega) (by omega))
    · intro d i k a o st S e r hd hst hmem h h1 hl hk he hps
      have ba := hbN a
      have bo := hbN o
      have hi := h.1.2.1
      have hm0 := hm.1
      have hmem2 : ∀ y, y ∈ List.replicate (bN a) 10 ++ (List.replicate (bN o) 11 ++ st) → y ≤ 12 := by
        intro y q
        rcases List.mem_append.mp q with q | q
        · rw [(List.mem_replicate.mp q).2]; decide
        · rcases List.mem_append.mp q with q | q
          · rw [(List.mem_replicate.mp q).2]; decide
          · exact hmem y q
      unfold psF at hps
      obtain ⟨r1, e1, e2⟩ := ob_inr hps
      have ii := ihF d i k _ S e r1 hd h h1 (by rw [List.length_append, List.length_append, List.length_replicate, List.length_replicate]; omega) hmem2 hk (by omega) e1
      cases r1 with
      | inl f =>
        have er : r = .inl f := (Option.some.inj e2).symm
        rw [er]
        exact ii
      | inr p =>
        obtain ⟨j, k', c⟩ := p
        obtain ⟨x, c0, S1, f1, f2, f3, f4, f5⟩ := ii
        have f1' : c = c0 ++ List.replicate x (18, 0) := f1
        have f4' : tsR u n s m S1 j (e + c0.length) k' (d + x) (List.replicate x 9 ++ (List.replicate (bN a) 10 ++ (List.replicate (bN o) 11 ++ st))) := f4
        have g := g_psF hX N false d i k false false h1 hi j k' c e1
        rw [if_neg (by decide)] at g
        obtain ⟨g1, g2, g3, g4, g5, g6, g7, g8⟩ := g
        rw [eP, eP] at g6
        have hplj := pl_le (u := u) (n := n) j
        have hpij := P_le hX (show i ≤ j by omega)
        rw [eP, eP] at hpij
        have lc : c.length = c0.length + x := by rw [f1', List.length_append, List.length_replicate]
        obtain ⟨B1, B2, B3⟩ := r_behind hT hn4 hm (S0 := S) (e0 := e) (j := j) (k := k') (d := d) (x := x) (a := a) (o := o) (st := st) (c0 := c0) hst hmem f3 f4' f5 (by omega) (by omega)
        rw [← f1'] at B1 B2 B3
        have e2' : (if (tok u n (pl u n j)).1 = 17 then (psF (tkX u n w) N true d (j + 1) k' true o).bind (fun r => some (prB r (fun j k' c' => .inr (j, k', aoC a 17 c ++ c'))))
          else if (tok u n (pl u n j)).1 = 16 then (psF (tkX u n w) N true d (j + 1) k' false true).bind (fun r => some (prB r (fun j k' c' => .inr (j, k', aoC o 16 (aoC a 17 c) ++ c'))))
          else some (.inr (j, k', aoC o 16 (aoC a 17 c)))) = some r := e2
        have la : (aoC a 17 c).length = c.length + bN a := aoC_len
        have lo : (aoC o 16 (aoC a 17 c)).length = c.length + bN a + bN o := by rw [aoC_len, la]
        have bt : bN true = 1 := rfl
        have bf : bN false = 0 := rfl
        have hpj1 := hX.2.2.2.1 j
        rw [eP, eP] at hpj1
        by_cases y : (tok u n (pl u n j)).1 = 17
        · rw [if_pos y] at e2'
          obtain ⟨r5, e5, e6⟩ := ob_inr e2'
          have er := (Option.some.inj e6).symm
          obtain ⟨hjm, S2, b1, b2, b3, b4⟩ := B1 y
          have jj := ihT d (j + 1) k' true o st S2 _ r5 hd hst hmem b3 (by omega) (by omega) g4 (by rw [la]; omega) e5
          cases r5 with
          | inl f =>
            rw [er]
            obtain ⟨S', h1', h2', h3'⟩ := jj
            exact ⟨S', f2 _ (lp_go b1 h1'), oT_tr b2 h2', h3'⟩
          | inr p =>
            obtain ⟨j2, k2, c2⟩ := p
            obtain ⟨Sk, S', h1', h2', h3', h4', h5', h6'⟩ := jj
            rw [er]
            refine ⟨Sk, S', fun R hR => f2 _ (lp_go b1 (h1' R hR)), h2', oT_tr b2 h3', ?_, h5', wrR_app b4 h6'⟩
            show tsR u n s m S' j2 (e + (aoC a 17 c ++ c2).length) k2 d st
            rw [List.length_append, ← Nat.add_assoc]; exact h4'
        · rw [if_neg y] at e2'
          by_cases y2 : (tok u n (pl u n j)).1 = 16
          · rw [if_pos y2] at e2'
            obtain ⟨r5, e5, e6⟩ := ob_inr e2'
            have er := (Option.some.inj e6).symm
            obtain ⟨hjm, S2, b1, b2, b3, b4⟩ := B2 y2
            have jj := ihT d (j + 1) k' false true st S2 _ r5 hd hst hmem b3 (by omega) (by omega) g4 (by rw [lo]; omega) e5
            cases r5 with
            | inl f =>
              rw [er]
              obtain ⟨S', h1', h2', h3'⟩ := jj
              exact ⟨S', f2 _ (lp_go b1 h1'), oT_tr b2 h2', h3'⟩
            | inr p =>
              obtain ⟨j2, k2, c2⟩ := p
              obtain ⟨Sk, S', h1', h2', h3', h4', h5', h6'⟩ := jj
              rw [er]
              refine ⟨Sk, S', fun R hR => f2 _ (lp_go b1 (h1' R hR)), h2', oT_tr b2 h3', ?_, h5', wrR_app b4 h6'⟩
              show tsR u n s m S' j2 (e + (aoC o 16 (aoC a 17 c) ++ c2).length) k2 d st
              rw [List.length_append, ← Nat.add_assoc]; exact h4'
          · rw [if_neg y2] at e2'
            have er := (Option.some.inj e2').symm
            obtain ⟨S2, b1, b2, b3, b4, b5⟩ := B3 y y2
            rw [er]
            exact ⟨S1, S2, f2, b1, b2, b3, b4, b5⟩
/-- a test read: what it leaves -/
def resE (u : Nat → Nat) (n s m : Nat) (S : zS) (e : Nat) (r : PR) (S' : zS) : Prop := oT s S S' ∧ match r with
  | .inl f => pfR u n s 1 S' (flt f)
  | .inr p => stR u n s m S' p.1 (e + p.2.2.length) p.2.1 ∧ S'.1 187 7 = nI 0 ∧ wrR s S S' e p.2.2
theorem r_test (hT : iT T) (hw : okWs w s) (hn4 : n ≤ 400) (hm : m ≤ n ∧ pl u n m = n ∧ ∀ i, i < m → pl u n i < n) {S : zS} {i e k : Nat} (h : stR u n s m S i e k) (h7 : S.1 187 7 = nI 0) (h1 : 1 ≤ i) (hk : k ≤ 60) (he : 3 * e ≤ 6 * k + pl u n i) : ∃ S', fX12_test T 187 S = some ((), S') ∧ resE u n s m S e (tstS (tkX u n w) i k) S' := by
  have hX := tkX_ok (w := w) hn4 (by rcases hw with ⟨-, q⟩ | ⟨-, q⟩ <;> simp [q]) hm
  have o0 : oT s S (zI S 187 9 0) := ⟨rfl, fun a b x _ _ => by rw [zI_at, if_neg (by omega)]⟩
  have s0 : stR u n s m (zI S 187 9 0) i e k := ⟨ctR_T h.1 o0, h.2.1, by rw [zI_eqn (by decide)]; exact h.2.2.1, by rw [zI_eqn (by decide)]; exact h.2.2.2.1, by rw [zI_eqn (by decide)]; exact h.2.2.2.2.1, by rw [zI_eqn (by decide)]; exact h.2.2.2.2.2⟩
  have t0 : tsR u n s m (zI S 187 9 0) i e k 0 [] := ⟨s0, by rw [zI_eqn (by decide)]; exact h7, by rw [zI_eqs]; rfl, Nat.zero_le _, fun j x hj => (by cases hj)⟩
  have ii := (r_ps hT hw hn4 hm 900).2 0 i k false false [] (zI S 187 9 0) e _ (by omega) (fun y q => (by cases q)) (fun y q => (by cases q)) t0 h1 (by show 0 + 0 + 0 + 1 ≤ i; omega) hk (by show 3 * (e + 0 + 0) ≤ _; omega) (tstS_eq hX h1 h.2.1)
  unfold fX12_test fX12_test_b202
  rw [let_q]
  cases hv : tstS (tkX u n w) i k with
  | inl f =>
    rw [hv] at ii
    obtain ⟨S', f1, f2, f3⟩ := ii
    rw [f1, b1_q]
    exact ⟨S', rfl, oT_tr o0 f2, f3⟩
  | inr p =>
    obtain ⟨j, k', c⟩ := p
    rw [hv] at ii
    obtain ⟨Sk, S', f1, f2, f3, f4, f5, f6⟩ := ii
    obtain ⟨q1, q2, q3⟩ := f4
    have eE : fX12_test_l9 T 187 0 1 Sk = some (.inl (0, 0, S')) := by
      rw [f2]
      unfold endE fX12_test_b199
      rw [r_top hT q3, b1_q, if_neg (show ¬ topI [] = 12 by decide)]
    have eX : lp (fun a => fX12_test_l9 T 187 a.1 a.2.1 a.2.2) ((0 : Int32), (0 : Int32), S') = some S' := by
      refine lp_stop ?_
      show fX12_test_l9 T 187 0 0 S' = _
      unfold fX12_test_l9
      rw [if_pos rfl]
    rw [f1 S' (lp_go eE eX), b1_q]
    have f6' : wrR s (zI S 187 9 0) S' e c := f6
    exact ⟨S', rfl, oT_tr o0 f3, q1, q2, wrR_cg0 f6' (fun a b q => zI_ne (by omega))⟩
end
