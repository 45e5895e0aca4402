/-! SUMS, by the reference -/
section
variable {T : zT} {u : Nat → Nat} {n s m : Nat} {w : Nat → Bool}
/-- a value read: what it leaves -/
def resV (u : Nat → Nat) (n s m : Nat) (S : zS) (e : Nat) (r : PR) (S' : zS) : Prop := oS s S S' ∧ match r with
  | .inl f => pfR u n s 0 S' (flt f)
  | .inr p => stR u n s m S' p.1 (e + p.2.2.length) p.2.1 ∧ wrR s S S' e p.2.2
/-- a sum read: the blanks behind it too -/
def resT (u : Nat → Nat) (n s m : Nat) (S : zS) (e : Nat) (r : PR) (S' : zS) : Prop := oS s S S' ∧ match r with
  | .inl f => pfR u n s 0 S' (flt f)
  | .inr p => stR u n s m S' p.1 (e + p.2.2.length) p.2.1 ∧ S'.1 187 2 = nI (pl u n p.1) ∧ wrR s S S' e p.2.2
theorem r_entry0 (hT : iT T) {S : zS} (h : ctR u n s S) (h3 : S.1 187 3 = 0) {e : Nat} (he : S.1 187 6 = nI e) (h300 : e < 300) {p : Nat × Nat} {x y : Int32} (hx : x = nI (rk p.1)) (hy1 : p.1 = 31 → y = nI p.2) (hy2 : p.1 = 47 → y = nI (wmS s p.2)) : ∃ S', fX12_entry T 187 x y S = some ((), S') ∧ oS s S S' ∧ (∀ b, b ≠ 6 → S'.1 187 b = S.1 187 b) ∧ S'.1 187 6 = nI (e + 1) ∧ wrR s S S' e [p] := by
  obtain ⟨-, h4, hs, -⟩ := h
  have e3 : (300 : Int32) * nI s + nI e = nI (300 * s + e) := by rw [show (300 : Int32) * nI s = nI (300 * s) from by rw [liq, n_mul], n_add]
  unfold fX12_entry fX12_entry_b55
  rw [if_pos h3, h4, he, e3, g_in (by omega) (by decide), zT_187_12 hT, zT_187_13 hT, tn_nI (by omega), let_q, zI_ne (show (187 : Nat) ≠ 189 by decide), zI_ne (show (187 : Nat) ≠ 189 by decide), h4, he, e3, g_in (by omega) (by decide), tn_nI (by omega), let_q, zI_ne (show (187 : Nat) ≠ 190 by decide), zI_ne (show (187 : Nat) ≠ 189 by decide), he, n_addL, let_q]
  refine ⟨_, rfl, ⟨rfl, fun a b q1 q2 => ?_⟩, fun b hb => ?_, by rw [zI_eqs], fun a b ha hb => ?_, fun j q hj => ?_⟩
  · rw [zI_at, if_neg (by omega), zI_at, if_neg (by omega), zI_at, if_neg (by omega)]
  · rw [zI_eqn hb, zI_ne (by decide), zI_ne (by decide)]
  · rw [zI_at, if_neg (by omega), zI_at, if_neg (by omega), zI_at, if_neg (by omega)]
  · have hj0 : j = 0 := by
      have := (List.getElem?_eq_some_iff.mp hj).1
      have e9 : [p].length = 1 := rfl
      omega
    subst hj0
    have hp : q = p := (Option.some.inj hj).symm
    subst hp
    rw [show 300 * s + e + 0 = 300 * s + e from rfl]
    refine ⟨?_, fun h31 => ?_, fun h47 => ?_⟩
    · rw [zI_ne (by decide), zI_ne (by decide), zI_eqs, hx]
    · rw [zI_ne (by decide), zI_eqs, hy1 h31]
    · rw [zI_ne (by decide), zI_eqs, hy2 h47]
theorem r_counted0 {S : zS} {k : Nat} (h3 : S.1 187 3 = 0) (h8 : S.1 187 8 = nI k) (hk : k ≤ 60) {p : Nat} : ∃ S', fX12_isCounted T 187 (nI p) S = some ((), S') ∧ S'.2 = S.2 ∧ (∀ a b, ¬ (a = 187 ∧ (b = 3 ∨ b = 8)) → S'.1 a b = S.1 a b) ∧ S'.1 187 8 = nI (k + 1) ∧ S'.1 187 3 = if 60 ≤ k then flt (3, p) else 0 := by
  unfold fX12_isCounted fX12_isCounted_b15
  rw [h8]
  have e60 : (nI k = 60) = (k = 60) := nI_eqL (show (60 : Int32) = nI 60 from rfl) (by omega) (by decide)
  by_cases y : k = 60
  · have ef : fX12_fails T 187 3 (nI p) S = some ((), zI S 187 3 (flt (3, p))) := r_fails0 h3 (c := 3)
    rw [if_pos (show nI k = 60 by rw [e60]; exact y), ef, b_q, zI_eqn (by decide), h8, n_addL, let_q]
    refine ⟨_, rfl, rfl, fun a b q => ?_, by rw [zI_eqs], ?_⟩
    · rw [zI_at, if_neg (by omega), zI_at, if_neg (by omega)]
    · rw [zI_eqn (by decide), zI_eqs, if_pos (by omega)]
  · rw [if_neg (show ¬ nI k = 60 by rw [e60]; exact y), n_addL, let_q]
    refine ⟨_, rfl, rfl, fun a b q => ?_, by rw [zI_eqs], ?_⟩
    · rw [zI_at, if_neg (by omega)]
    · rw [zI_eqn (by decide), if_neg (by omega)]; exact h3
/-- a value, after a fault -/
theorem pr_value (hT : iT T) (hw : okWs w s) {S : zS} {F : Int32} (hF : ¬ F = 0) (h : pfR u n s 0 S F) : ∃ S', fX12_value T 187 S = some ((), S') ∧ oS s S S' ∧ pfR u n s 0 S' F := by
  obtain ⟨h1, ⟨p, hp, ep⟩, h3⟩ := id h
  have hn := h1.1.1
  obtain ⟨S1, e1, o1, p1⟩ := r_blanks hT h1.1 ep (by omega)
  have hsk := skp_le (u := u) (show p ≤ n + 0 from hp)
  have pf1 : pfR u n s 0 S1 F := ⟨ctR_o h1 (oS_P o1), ⟨_, hsk, p1⟩, by rw [o1.2 _ _ (by omega)]; exact h3⟩
  unfold fX12_value
  rw [e1, b_q, p1, let_q, r_isDigit hT pf1.1.1 p1 (by omega), b1_q]
  by_cases y : skp u n p < n ∧ isDg (u (skp u n p)) = true
  · obtain ⟨v, S2, e2, o2, pf2⟩ := pr_digits hT hF pf1 (top := 99999)
    obtain ⟨S3, e3, o3, -, pf3⟩ := pr_counted hF pf2 (p := nI (skp u n p))
    rw [if_pos y, if_neg n10, e2, b_q, e3, b_q, pr_entry hF pf3, b_q]
    exact ⟨S3, rfl, oS_tr (oS_P o1) (oS_tr o2 o3), pf3⟩
  · rw [if_neg y, if_pos rfl, r_words hT hw pf1.1 p1 (by omega), b1_q]
    unfold fX12_value_b63
    have hnw : nWS s ≤ 9 := by unfold nWS; split <;> omega
    rw [pf1.1.2.2.2]
    by_cases z : w (tok u n (skp u n p)).1 = true
    · obtain ⟨c1, c2⟩ := ws2 hw z
      obtain ⟨-, -, q3, q4⟩ := ws1 hw c1
      have hend := tok_wEnd q4 q3 (txR_255 pf1.1.1) (p := skp u n p) c2.symm
      obtain ⟨S2, e2, o2, p2, pf2⟩ := pr_counted hF pf1 (p := nI (skp u n p))
      rw [if_pos z, if_neg (show ¬ nI (wmS s (tok u n (skp u n p)).1) = nI (nWS s) by rw [n_eq (by omega) (by omega)]; omega), e2, b_q, r_wordOf pf2.1.2.1 pf2.1.2.2.1 c1, b1_q, p2, p1, show zsL (siS s (wmS s (tok u n (skp u n p)).1)) = nI (zsN (siS s (wmS s (tok u n (skp u n p)).1))) from rfl, n_add, let_q]
      have pf3 := pfR_z pf2 (p := skp u n p + zsN (siS s (wmS s (tok u n (skp u n p)).1))) (by omega)
      rw [pr_entry hF pf3, b_q]
      exact ⟨_, rfl, oS_tr (oS_P o1) (oS_tr o2 (oS_z (by omega))), pf3⟩
    · rw [if_neg z, if_pos rfl, pr_fails hF pf1, b_q]
      exact ⟨S1, rfl, oS_P o1, pf1⟩
theorem r_value (hT : iT T) (hw : okWs w s) (hn4 : n ≤ 400) {S : zS} {i e k : Nat} (h : stR u n s m S i e k) (hk : k ≤ 60) (he : e < 300) (hm : m ≤ n ∧ pl u n m = n ∧ ∀ i, i < m → pl u n i < n) : ∃ S', fX12_value T 187 S = some ((), S') ∧ resV u n s m S e (valS (tkX u n w) i k) S' := by
  obtain ⟨h1, h2, ⟨p, hp, ep, esk⟩, h3, h6, h8⟩ := id h
  have hX := tkX_ok (w := w) hn4 (by rcases hw with ⟨-, q⟩ | ⟨-, q⟩ <;> simp [q]) hm
  have hn := h1.1.1
  have hple := pl_le (u := u) (n := n) i
  obtain ⟨S1, e1, o1, p1⟩ := r_blanks hT h1.1 ep (by omega)
  rw [esk] at p1
  have ct1 := ctR_o h1 (oS_P (s := s) o1)
  have f3 : S1.1 187 3 = 0 := by rw [o1.2 _ _ (by omega)]; exact h3
  have f6 : S1.1 187 6 = nI e := by rw [o1.2 _ _ (by omega)]; exact h6
  have f8 : S1.1 187 8 = nI k := by rw [o1.2 _ _ (by omega)]; exact h8
  have eK : (tkX u n w).1 i = (tok u n (pl u n i)).1 := rfl
  have eV : (tkX u n w).2.1 i = (tok u n (pl u n i)).2.1 := rfl
  have eP : (tkX u n w).2.2.1 i = pl u n i := rfl
  have eW : (tkX u n w).2.2.2 = w := rfl
  have wr1 : ∀ a b, a = 189 ∨ a = 190 → S1.1 a b = S.1 a b := fun a b q => o1.2 a b (by omega)
  have w31 : ¬ w 31 = true := fun q => by have := w_lt hX (q := 31) q; omega
  have w32 : ¬ w 32 = true := fun q => by have := w_lt hX (q := 32) q; omega
  unfold fX12_value
  rw [e1, b_q, p1, let_q, r_isDigit hT ct1.1 p1 (by omega), b1_q]
  by_cases y : pl u n i < n ∧ isDg (u (pl u n i)) = true
  · -- a number
    have e99 : (99999 : Int32) = nI 99999 := rfl
    obtain ⟨v, S2, e2, q1, q2, ⟨p2, hp2, ep2, hpe⟩, q4, q5⟩ := r_digits0 hT ct1.1 p1 hple f3 (top := 99999) (by decide)
    rw [if_pos y, if_neg n10, e99, e2, b_q]
    have o2 : oS s S1 S2 := ⟨q1, fun a b z _ => q2 a b (by omega)⟩
    have ct2 := ctR_o ct1 o2
    have et : (tok u n (pl u n i)).1 = 31 ∨ (tok u n (pl u n i)).1 = 32 := by
      unfold tok
      rw [if_neg (by omega), if_pos y.2]
      by_cases z : rn isDg u n (pl u n i) - pl u n i ≤ 5
      · rw [if_pos z]; exact Or.inl rfl
      · rw [if_neg z]; exact Or.inr rfl
    rcases et with et | et
    · have hv := (tok_r (u := u) y.1).2.2.1
      rw [if_pos et, if_pos hv] at q4
      obtain ⟨S3, e3, a1, a2, a3, a4⟩ := r_counted0 (T := T) q4 (show S2.1 187 8 = nI k by rw [q2 _ _ (by omega)]; exact f8) hk (p := pl u n i)
      have o3 : oS s S2 S3 := ⟨a1, fun a b z _ => a2 a b (by omega)⟩
      have ct3 := ctR_o ct2 o3
      have hval : valS (tkX u n w) i k = if 60 ≤ k then .inl (3, pl u n i) else .inr (i + 1, k + 1, [vlE (tkX u n w) i]) := by
        unfold valS
        rw [eK, if_neg (by omega), if_pos (Or.inl et)]
        rfl
      rw [e3, b_q, hval]
      by_cases z : 60 ≤ k
      · rw [if_pos z] at a4
        have pf3 : pfR u n s 0 S3 (flt (3, pl u n i)) := ⟨ct3, ⟨p2, by omega, by rw [a2 _ _ (by omega)]; exact ep2⟩, a4⟩
        rw [pr_entry (flt_0 (by show pl u n i ≤ 400; omega) (by show 3 ≤ 7; decide)) pf3, b_q, if_pos z]
        exact ⟨S3, rfl, oS_tr (oS_P o1) (oS_tr o2 o3), pf3⟩
      · rw [if_neg z] at a4
        have evl : vlE (tkX u n w) i = (31, (tok u n (pl u n i)).2.1) := by
          unfold vlE
          rw [eK, eV, if_pos et]
        obtain ⟨S4, e4, o4, b4, c4, w4⟩ := r_entry0 hT ct3 a4 (show S3.1 187 6 = nI e by rw [a2 _ _ (by omega), q2 _ _ (by omega)]; exact f6) he (p := (31, (tok u n (pl u n i)).2.1)) (x := 0) (y := v) rfl (fun _ => q5 et) (fun q => absurd q (by show ¬ 31 = 47; decide))
        rw [e4, b_q, if_neg z]
        have hpl := (pl_mono (u := u) (n := n) i).2 y.1
        refine ⟨S4, rfl, oS_tr (oS_P o1) (oS_tr o2 (oS_tr o3 o4)), ⟨ctR_o ct3 o4, ?_, ⟨p2, hp2, by rw [b4 _ (by decide), a2 _ _ (by omega)]; exact ep2, by rw [hpe et]; rfl⟩, by rw [b4 _ (by decide)]; exact a4, c4, by rw [b4 _ (by decide)]; exact a3⟩, ?_⟩
        · show i + 1 ≤ m
          apply Classical.byContradiction
          intro q
          have := pl_stay hm.2.1 (i - m)
          rw [show m + (i - m) = i by omega] at this
          omega
        · rw [evl]
          exact wrR_cg0 w4 (fun a b q => (a2 a b (by omega)).trans ((q2 a b (by omega)).trans (wr1 a b q)))
    · rw [if_neg (by omega), if_pos et] at q4
      have hF : ¬ flt (1, pl u n i) = 0 := flt_0 (by show pl u n i ≤ 400; omega) (by show 1 ≤ 7; decide)
      have pf2 : pfR u n s 0 S2 (flt (1, pl u n i)) := ⟨ct2, ⟨p2, by omega, ep2⟩, q4⟩
      obtain ⟨S3, e3, o3, -, pf3⟩ := pr_counted hF pf2 (p := nI (pl u n i))
      have hval : valS (tkX u n w) i k = .inl (1, pl u n i) := by
        unfold valS
        rw [eK, if_pos et]
        rfl
      rw [e3, b_q, pr_entry hF pf3, b_q, hval]
      exact ⟨S3, rfl, oS_tr (oS_P o1) (oS_tr o2 o3), pf3⟩
  · -- a word, or none
    have nk : ¬ (tok u n (pl u n i)).1 = 31 ∧ ¬ (tok u n (pl u n i)).1 = 32 := by
      obtain ⟨v, S2, e2, -, -, -, q4, -⟩ := r_digits0 hT ct1.1 p1 hple f3 (top := 99999) (by decide)
      unfold fX12_digits at e2
      rw [r_isDigit hT ct1.1 p1 (by omega), b1_q, if_neg y, if_pos rfl, p1] at e2
      have ef : fX12_fails T 187 0 (nI (pl u n i)) S1 = some ((), zI S1 187 3 (flt (0, pl u n i))) := r_fails0 f3 (c := 0)
      rw [ef, b_q] at e2
      have es : S2 = zI S1 187 3 (flt (0, pl u n i)) := by
        have := Option.some.inj e2
        exact (congrArg Prod.snd this).symm
      rw [es, zI_eqs] at q4
      have hne : ¬ flt (0, pl u n i) = flt (1, pl u n i) := by
        unfold flt
        rw [n_eq (by show 1 + 8 * pl u n i + 0 < _; omega) (by show 1 + 8 * pl u n i + 1 < _; omega)]
        show ¬ 1 + 8 * pl u n i + 0 = 1 + 8 * pl u n i + 1
        omega
      have hnz : ¬ flt (0, pl u n i) = 0 := flt_0 (by show pl u n i ≤ 400; omega) (by show 0 ≤ 7; decide)
      constructor
      · intro q
        rw [if_pos q] at q4
        by_cases z : (tok u n (pl u n i)).2.1 ≤ 99999
        · rw [if_pos z] at q4; exact hnz q4
        · rw [if_neg z] at q4; exact hne q4
      · intro q
        rw [if_neg (by omega), if_pos q] at q4; exact hne q4
    rw [if_neg y, if_pos rfl, r_words hT hw ct1 p1 (by omega), b1_q]
    unfold fX12_value_b63
    have hnw : nWS s ≤ 9 := by unfold nWS; split <;> omega
    rw [ct1.2.2.2]
    by_cases z : w (tok u n (pl u n i)).1 = true
    · obtain ⟨c1, c2⟩ := ws2 hw z
      obtain ⟨-, -, q3, q4⟩ := ws1 hw c1
      have hend := tok_wEnd q4 q3 (txR_255 ct1.1) (p := pl u n i) c2.symm
      obtain ⟨S3, e3, a1, a2, a3, a4⟩ := r_counted0 (T := T) f3 f8 hk (p := pl u n i)
      have o3 : oS s S1 S3 := ⟨a1, fun a b z _ => a2 a b (by omega)⟩
      have ct3 := ctR_o ct1 o3
      have hval : valS (tkX u n w) i k = if 60 ≤ k then .inl (3, pl u n i) else .inr (i + 1, k + 1, [vlE (tkX u n w) i]) := by
        unfold valS
        rw [eK, eW, if_neg nk.2, if_pos (Or.inr z)]
        rfl
      rw [if_pos z, if_neg (show ¬ nI (wmS s (tok u n (pl u n i)).1) = nI (nWS s) by rw [n_eq (by omega) (by omega)]; omega), e3, b_q, r_wordOf ct3.2.1 ct3.2.2.1 c1, b1_q, a2 187 2 (by omega), p1, show zsL (siS s (wmS s (tok u n (pl u n i)).1)) = nI (zsN (siS s (wmS s (tok u n (pl u n i)).1))) from rfl, n_add, let_q, hval]
      have ct4 := ctR_z ct3 (b := 2) (Or.inl rfl) (x := nI (pl u n i + zsN (siS s (wmS s (tok u n (pl u n i)).1))))
      by_cases x : 60 ≤ k
      · rw [if_pos x] at a4
        have pf3 : pfR u n s 0 (zI S3 187 2 (nI (pl u n i + zsN (siS s (wmS s (tok u n (pl u n i)).1))))) (flt (3, pl u n i)) := ⟨ct4, ⟨pl u n i + zsN (siS s (wmS s (tok u n (pl u n i)).1)), by omega, by rw [zI_eqs]⟩, by rw [zI_eqn (by decide)]; exact a4⟩
        rw [pr_entry (flt_0 (by show pl u n i ≤ 400; omega) (by show 3 ≤ 7; decide)) pf3, b_q, if_pos x]
        exact ⟨_, rfl, oS_tr (oS_P o1) (oS_tr o3 (oS_z (by omega))), pf3⟩
      · rw [if_neg x] at a4
        have evl : vlE (tkX u n w) i = (47, (tok u n (pl u n i)).1) := by
          unfold vlE
          rw [eK, if_neg nk.1]
        obtain ⟨S4, e4, o4, b4, c4, w4⟩ := r_entry0 hT ct4 (by rw [zI_eqn (by decide)]; exact a4) (show (zI S3 187 2 (nI (pl u n i + zsN (siS s (wmS s (tok u n (pl u n i)).1))))).1 187 6 = nI e by rw [zI_eqn (by decide), a2 _ _ (by omega)]; exact f6) he (p := (47, (tok u n (pl u n i)).1)) (x := 1) (y := nI (wmS s (tok u n (pl u n i)).1)) rfl (fun q => absurd q (by show ¬ 47 = 31; decide)) (fun _ => rfl)
        rw [e4, b_q, if_neg x]
        refine ⟨S4, rfl, oS_tr (oS_P o1) (oS_tr o3 (oS_tr (oS_z (by omega)) o4)), ⟨ctR_o ct4 o4, ?_, ⟨_, hend.2, by rw [b4 _ (by decide), zI_eqs], by rw [← hend.1]; rfl⟩, by rw [b4 _ (by decide), zI_eqn (by decide)]; exact a4, c4, by rw [b4 _ (by decide), zI_eqn (by decide)]; exact a3⟩, ?_⟩
        · show i + 1 ≤ m
          apply Classical.byContradiction
          intro q
          have := pl_stay hm.2.1 (i - m)
          rw [show m + (i - m) = i by omega] at this
          have hl := (sW_at _ q4 q3).2.2.1
          omega
        · rw [evl]
          exact wrR_cg0 w4 (fun a b q => by rw [zI_ne (by omega)]; exact (a2 a b (by omega)).trans (wr1 a b q))
    · have ef : fX12_fails T 187 0 (nI (pl u n i)) S1 = some ((), zI S1 187 3 (flt (0, pl u n i))) := r_fails0 f3 (c := 0)
      have hval : valS (tkX u n w) i k = .inl (0, pl u n i) := by
        unfold valS
        rw [eK, eW, if_neg nk.2, if_neg (fun q => q.elim nk.1 z)]
        rfl
      rw [if_neg z, if_pos rfl, ef, b_q, hval]
      exact ⟨_, rfl, oS_tr (oS_P o1) (oS_z (by omega)), ctR_z ct1 (by omega), ⟨_, by omega, by rw [zI_eqn (by decide)]; exact p1⟩, by rw [zI_eqs]⟩
end
