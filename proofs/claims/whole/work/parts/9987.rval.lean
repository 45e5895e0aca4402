/-! VALUES, by the reference -/
def wmS (s : Nat) : Nat → Nat := if s ≤ 1 then wmB else wmR
def nWS (s : Nat) : Nat := if s ≤ 1 then 3 else 9
def siS (s k : Nat) : Nat := if s ≤ 1 then [8, 10, 11].getD k 11 else 3 + k
def okWs (w : Nat → Bool) (s : Nat) : Prop := s ≤ 1 ∧ w = wB ∨ 2 ≤ s ∧ w = wR
theorem ws1B : ∀ k, k < 3 → wB (sW ([8, 10, 11].getD k 11)) = true ∧ wmB (sW ([8, 10, 11].getD k 11)) = k ∧ 1 ≤ [8, 10, 11].getD k 11 ∧ [8, 10, 11].getD k 11 < 27 := by decide +kernel
theorem ws1R : ∀ k, k < 9 → wR (sW (3 + k)) = true ∧ wmR (sW (3 + k)) = k ∧ 1 ≤ 3 + k ∧ 3 + k < 27 := by decide +kernel
theorem ws2B : ∀ q, q < 26 → wB q = true → wmB q < 3 ∧ sW ([8, 10, 11].getD (wmB q) 11) = q := by decide +kernel
theorem ws2R : ∀ q, q < 26 → wR q = true → wmR q < 9 ∧ sW (3 + wmR q) = q := by decide +kernel
theorem ws1 {w : Nat → Bool} {s : Nat} (h : okWs w s) {k : Nat} (hk : k < nWS s) : w (sW (siS s k)) = true ∧ wmS s (sW (siS s k)) = k ∧ 1 ≤ siS s k ∧ siS s k < 27 := by
  unfold wmS siS
  unfold nWS at hk
  rcases h with ⟨h1, h2⟩ | ⟨h1, h2⟩
  · rw [if_pos h1] at hk ⊢
    rw [if_pos h1, h2]
    exact ws1B k hk
  · rw [if_neg (show ¬ s ≤ 1 by omega)] at hk ⊢
    rw [if_neg (show ¬ s ≤ 1 by omega), h2]
    exact ws1R k hk
theorem ws2 {w : Nat → Bool} {s : Nat} (h : okWs w s) {q : Nat} (hq : w q = true) : wmS s q < nWS s ∧ sW (siS s (wmS s q)) = q := by
  unfold wmS siS nWS
  rcases h with ⟨h1, h2⟩ | ⟨h1, h2⟩
  · rw [h2] at hq
    have hl := of_decide_eq_true hq
    rw [if_pos h1, if_pos h1, if_pos h1]
    exact ws2B q (by omega) hq
  · rw [h2] at hq
    have hl := of_decide_eq_true hq
    rw [if_neg (show ¬ s ≤ 1 by omega), if_neg (show ¬ s ≤ 1 by omega), if_neg (show ¬ s ≤ 1 by omega)]
    exact ws2R q (by omega) hq
/-- what a reading of the reference's stands on -/
def ctR (u : Nat → Nat) (n : Nat) (s : Nat) (S : zS) : Prop := txR u n S ∧ S.1 187 4 = nI s ∧ s ≤ 7 ∧ S.1 187 10 = nI (nWS s)
def stR (u : Nat → Nat) (n s m : Nat) (S : zS) (i e k : Nat) : Prop := ctR u n s S ∧ i ≤ m ∧ (∃ p, p ≤ n ∧ S.1 187 2 = nI p ∧ skp u n p = pl u n i) ∧ S.1 187 3 = 0 ∧ S.1 187 6 = nI e ∧ S.1 187 8 = nI k
def pfR (u : Nat → Nat) (n s c : Nat) (S : zS) (F : Int32) : Prop := ctR u n s S ∧ (∃ p, p ≤ n + c ∧ S.1 187 2 = nI p) ∧ S.1 187 3 = F
/-- what a sum may change -/
def oS (s : Nat) (S S' : zS) : Prop := S'.2 = S.2 ∧ ∀ a b, ¬ (a = 187 ∧ (b = 2 ∨ b = 3 ∨ b = 6 ∨ b = 8)) → ¬ ((a = 189 ∨ a = 190) ∧ 300 * s ≤ b ∧ b < 300 * s + 300) → S'.1 a b = S.1 a b
theorem oS_refl {s : Nat} {S : zS} : oS s S S := ⟨rfl, fun _ _ _ _ => rfl⟩
theorem oS_tr {s : Nat} {S S' S'' : zS} (h : oS s S S') (g : oS s S' S'') : oS s S S'' := ⟨g.1.trans h.1, fun a b x y => (g.2 a b x y).trans (h.2 a b x y)⟩
theorem oS_P {s : Nat} {S S' : zS} (h : oP S S') : oS s S S' := ⟨h.1, fun a b x _ => h.2 a b (by omega)⟩
def wrR (s : Nat) (S S' : zS) (e : Nat) (c : List (Nat × Nat)) : Prop := (∀ a b, a = 189 ∨ a = 190 → b < 300 * s + e → S'.1 a b = S.1 a b) ∧ rAt S'.1 (wmS s) (300 * s + e) c
theorem wrR_nil {s : Nat} {S : zS} {e : Nat} : wrR s S S e [] := ⟨fun _ _ _ _ => rfl, fun j p h => (by cases h)⟩
theorem wrR_app {s : Nat} {S S1 S2 : zS} {e : Nat} {c1 c2 : List (Nat × Nat)} (h : wrR s S S1 e c1) (g : wrR s S1 S2 (e + c1.length) c2) : wrR s S S2 e (c1 ++ c2) := by
  obtain ⟨h1, h2⟩ := h
  obtain ⟨g1, g2⟩ := g
  refine ⟨fun a b ha hb => (g1 a b ha (by omega)).trans (h1 a b ha hb), fun j p hj => ?_⟩
  by_cases y : j < c1.length
  · rw [List.getElem?_append_left y] at hj
    rw [g1 189 _ (Or.inl rfl) (by omega), g1 190 _ (Or.inr rfl) (by omega)]; exact h2 j p hj
  · rw [List.getElem?_append_right (by omega)] at hj
    have := g2 _ p hj
    rwa [show 300 * s + (e + c1.length) + (j - c1.length) = 300 * s + e + j by omega] at this
theorem wrR_cg {s : Nat} {S S1 S2 : zS} {e : Nat} {c : List (Nat × Nat)} (h : wrR s S S1 e c) (q : ∀ a b, a = 189 ∨ a = 190 → S2.1 a b = S1.1 a b) : wrR s S S2 e c := ⟨fun a b ha hb => (q a b ha).trans (h.1 a b ha hb), fun j p hj => by rw [q 189 _ (Or.inl rfl), q 190 _ (Or.inr rfl)]; exact h.2 j p hj⟩
theorem wrR_cg0 {s : Nat} {S0 S S1 : zS} {e : Nat} {c : List (Nat × Nat)} (h : wrR s S S1 e c) (q : ∀ a b, a = 189 ∨ a = 190 → S.1 a b = S0.1 a b) : wrR s S0 S1 e c := ⟨fun a b ha hb => (h.1 a b ha hb).trans (q a b ha), h.2⟩
theorem skp_pl {u : Nat → Nat} {n i : Nat} : skp u n (pl u n i) = pl u n i := by
  have key : ∀ p, skp u n (skp u n p) = skp u n p := fun p => rn_stop (rn_spec (p := isBl) (u := u) (n := n) (i := p)).2.2.2
  cases i with
  | zero => exact key 0
  | succ i => exact key _
theorem skp_le {u : Nat → Nat} {n p c : Nat} (h : p ≤ n + c) : skp u n p ≤ n + c := by
  by_cases y : p ≤ n
  · have := (rn_spec (p := isBl) (u := u) (n := n) (i := p)).2.1 y
    show rn isBl u n p ≤ _; omega
  · have : skp u n p = p := rn_stop (fun q => by have := q.1; omega)
    omega
section
variable {T : zT} {u : Nat → Nat} {n s m : Nat} {w : Nat → Bool}
theorem ctR_o {S S' : zS} (h : ctR u n s S) (o : oS s S S') : ctR u n s S' := ⟨txR_o h.1 (o.2 _ _ (by omega) (by omega)) (fun i => o.2 _ _ (by omega) (by omega)), by rw [o.2 _ _ (by omega) (by omega)]; exact h.2.1, h.2.2.1, by rw [o.2 _ _ (by omega) (by omega)]; exact h.2.2.2⟩
theorem ctR_z {S : zS} (h : ctR u n s S) {b : Nat} (hb : b = 2 ∨ b = 3 ∨ b = 6 ∨ b = 8) {x : Int32} : ctR u n s (zI S 187 b x) := ctR_o h ⟨rfl, fun a c y _ => by rw [zI_at, if_neg (by omega)]⟩
theorem oS_z {S : zS} {b : Nat} (hb : b = 2 ∨ b = 3 ∨ b = 6 ∨ b = 8) {x : Int32} : oS s S (zI S 187 b x) := ⟨rfl, fun a c y _ => by rw [zI_at, if_neg (by omega)]⟩
theorem r_fails0 {S : zS} (h3 : S.1 187 3 = 0) {c p : Nat} : fX12_fails T 187 (nI c) (nI p) S = some ((), zI S 187 3 (flt (c, p))) := by
  unfold fX12_fails fX12_fails_b23
  have e : (1 : Int32) + 8 * nI p + nI c = flt (c, p) := by
    unfold flt
    rw [show (8 : Int32) * nI p = nI (8 * p) from by rw [liq, n_mul], show (1 : Int32) = nI 1 from rfl, n_add, n_add]
  rw [if_pos h3, e, let_q]
theorem r_fails1 {S : zS} (h3 : ¬ S.1 187 3 = 0) {c p : Int32} : fX12_fails T 187 c p S = some ((), zI S 187 3 (S.1 187 3)) := by
  unfold fX12_fails fX12_fails_b23
  rw [if_neg h3, let_q]
theorem zI_self {S : zS} {k i : Nat} : zI S k i (S.1 k i) = S := by
  unfold zI
  refine Prod.ext ?_ rfl
  funext a b
  show (if a = k ∧ b = i then S.1 k i else S.1 a b) = S.1 a b
  by_cases y : a = k ∧ b = i
  · rw [if_pos y, y.1, y.2]
  · rw [if_neg y]
theorem pr_fails {S : zS} {F : Int32} {c : Nat} (hF : ¬ F = 0) (h : pfR u n s c S F) {x p : Int32} : fX12_fails T 187 x p S = some ((), S) := by
  rw [r_fails1 (by rw [h.2.2]; exact hF), zI_self]
theorem pr_entry {S : zS} {F : Int32} {c : Nat} (hF : ¬ F = 0) (h : pfR u n s c S F) {x p : Int32} : fX12_entry T 187 x p S = some ((), S) := by
  unfold fX12_entry fX12_entry_b55
  rw [h.2.2, if_neg hF]
theorem pfR_z {S : zS} {F : Int32} {c p : Nat} (h : pfR u n s c S F) (hp : p ≤ n + c) : pfR u n s c (zI S 187 2 (nI p)) F := ⟨ctR_z h.1 (Or.inl rfl), ⟨p, hp, by rw [zI_eqs]⟩, by rw [zI_eqn (by decide)]; exact h.2.2⟩
theorem pr_counted {S : zS} {F : Int32} {c : Nat} (hF : ¬ F = 0) (h : pfR u n s c S F) {p : Int32} : ∃ S', fX12_isCounted T 187 p S = some ((), S') ∧ oS s S S' ∧ S'.1 187 2 = S.1 187 2 ∧ pfR u n s c S' F := by
  have fin : fX12_isCounted_b15 T 187 S = some ((), zI S 187 8 (S.1 187 8 + 1)) := rfl
  have hr : oS s S (zI S 187 8 (S.1 187 8 + 1)) ∧ (zI S 187 8 (S.1 187 8 + 1)).1 187 2 = S.1 187 2 ∧ pfR u n s c (zI S 187 8 (S.1 187 8 + 1)) F := ⟨oS_z (by omega), by rw [zI_eqn (by decide)], ctR_z h.1 (by omega), by rw [zI_eqn (by decide)]; exact h.2.1, by rw [zI_eqn (by decide)]; exact h.2.2⟩
  unfold fX12_isCounted
  by_cases y : S.1 187 8 = 60
  · rw [if_pos y, pr_fails hF h, b_q, fin]; exact ⟨_, rfl, hr⟩
  · rw [if_neg y, fin]; exact ⟨_, rfl, hr⟩
/-- digits: the number of them, and the state behind -/
theorem r_digloop (hT : iT T) {S : zS} (h : txR u n S) {p : Nat} (hp : S.1 187 2 = nI p) (hb : p ≤ n) {top : Int32} : ∃ v S', lp (fun a => fX12_digits_l25 T 187 top (nI p) a.1 a.2) (0, S) = some (v, S') ∧ oP S S' ∧ S'.1 187 2 = nI (rn isDg u n p) ∧ (rn isDg u n p - p ≤ 5 → v = nI (dgv u p (rn isDg u n p - p))) := by
  have hn := h.1
  have hu := txR_255 h
  obtain ⟨r1, r2, r3, r4⟩ := rn_spec (p := isDg) (u := u) (n := n) (i := p)
  have hle := r2 hb
  have key : zwp (lp (fun a => fX12_digits_l25 T 187 top (nI p) a.1 a.2) (0, S)) (fun e => oP S e.2 ∧ e.2.1 187 2 = nI (rn isDg u n p) ∧ (rn isDg u n p - p ≤ 5 → e.1 = nI (dgv u p (rn isDg u n p - p)))) := by
    refine lp_for (I := fun q a => oP S a.2 ∧ a.2.1 187 2 = nI (p + q) ∧ (q ≤ 5 → a.1 = nI (dgv u p q))) (rn isDg u n p - p) ?_ ?_ ?_
    · rintro q ⟨v, S'⟩ hq ⟨o, e, hv⟩
      left
      obtain ⟨q1, q2⟩ := r3 (p + q) (by omega) (by omega)
      have hd := of_decide_eq_true q2
      have ht := txR_P h o
      have e' : S'.1 187 2 = nI (p + q) := e
      show ∃ a', fX12_digits_l25 T 187 top (nI p) v S' = _ ∧ _
      unfold fX12_digits_l25 fX12_digits_b58
      rw [r_isDigit hT ht e' (by omega), b1_q, if_pos (show p + q < n ∧ isDg (u (p + q)) = true from ⟨q1, q2⟩), if_neg n10, e', n_sub (by omega), show p + q - p = q by omega, r_sign hT ht e' (by omega), b1_q, n_addL]
      simp only [let_q]
      by_cases y : 5 ≤ q
      · rw [if_pos (show 5 ≤ nI q by rw [n_leL (by omega) (by omega)]; exact y)]
        exact ⟨_, rfl, oP_tr o oP_z, by rw [zI_eqs]; rfl, fun z => absurd z (by omega)⟩
      · rw [if_neg (show ¬ 5 ≤ nI q by rw [n_leL (by omega) (by omega)]; exact y)]
        refine ⟨_, rfl, oP_tr o oP_z, by rw [zI_eqs]; rfl, fun z => ?_⟩
        have hv' : v = nI (dgv u p q) := hv (by omega)
        have ec : chI u n (p + q) = nI (u (p + q)) := if_pos q1
        show 10 * v + chI u n (p + q) - 48 = nI (10 * dgv u p q + u (p + q) - 48)
        rw [hv', ec, show (10 : Int32) * nI (dgv u p q) = nI (10 * dgv u p q) from by rw [liq, n_mul], n_add, n_subL (by omega)]
    · rintro ⟨v, S'⟩ ⟨o, e, hv⟩
      rw [show p + (rn isDg u n p - p) = rn isDg u n p by omega] at e
      have e' : S'.1 187 2 = nI (rn isDg u n p) := e
      refine ⟨(v, S'), ?_, o, e, hv⟩
      show fX12_digits_l25 T 187 top (nI p) v S' = _
      unfold fX12_digits_l25
      rw [r_isDigit hT (txR_P h o) e' (by omega), b1_q, if_neg r4, if_pos rfl]
    · exact ⟨oP_refl, hp, fun _ => rfl⟩
  obtain ⟨⟨v, S'⟩, e, q⟩ := key
  exact ⟨v, S', e, q⟩
/-- digits wanted: no fault so far -/
theorem r_digits0 (hT : iT T) {S : zS} (h : txR u n S) {p : Nat} (hp : S.1 187 2 = nI p) (hb : p ≤ n) (h3 : S.1 187 3 = 0) {top : Nat} (ht : top ≤ 99999) : ∃ v S', fX12_digits T 187 (nI top) S = some (v, S') ∧ S'.2 = S.2 ∧ (∀ a b, ¬ (a = 187 ∧ (b = 2 ∨ b = 3)) → S'.1 a b = S.1 a b) ∧ (∃ q, q ≤ n ∧ S'.1 187 2 = nI q ∧ ((tok u n p).1 = 31 → q = (tok u n p).2.2)) ∧ S'.1 187 3 = (if (tok u n p).1 = 31 then (if (tok u n p).2.1 ≤ top then 0 else flt (1, p)) else if (tok u n p).1 = 32 then flt (1, p) else flt (0, p)) ∧ ((tok u n p).1 = 31 → v = nI (tok u n p).2.1) := by
  have hn := h.1
  unfold fX12_digits fX12_digits_b87 fX12_digits_b93
  rw [r_isDigit hT h hp (by omega), b1_q]
  by_cases y : p < n ∧ isDg (u p) = true
  · obtain ⟨v, S1, e1, o1, p1, v1⟩ := r_digloop hT h hp hb (top := nI top)
    obtain ⟨r1, r2, r3, r4⟩ := rn_spec (p := isDg) (u := u) (n := n) (i := p)
    have hle := r2 hb
    have et : tok u n p = if rn isDg u n p - p ≤ 5 then (31, dgv u p (rn isDg u n p - p), rn isDg u n p) else (32, 0, rn isDg u n p) := by
      unfold tok
      rw [if_neg (by omega), if_pos y.2]
    have f3 : S1.1 187 3 = 0 := by rw [o1.2 _ _ (by omega)]; exact h3
    rw [if_pos y, if_neg n10, hp, let_q, e1, b1_q, p1, n_sub r1]
    by_cases z : rn isDg u n p - p ≤ 5
    · rw [if_pos z] at et
      rw [if_neg (show ¬ 5 < nI (rn isDg u n p - p) by rw [n_ltL (by omega) (by omega)]; omega)]
      have hv := v1 z
      have hd := dgv_lt (u := u) (i := p) (rn isDg u n p - p) (fun j hj => (r3 (p + j) (by omega) (by omega)).2)
      have hpw : 10 ^ (rn isDg u n p - p) ≤ 10 ^ 5 := Nat.pow_le_pow_right (by decide) z
      have e5 : (10 : Nat) ^ 5 = 100000 := by decide
      by_cases x : dgv u p (rn isDg u n p - p) ≤ top
      · rw [if_pos (show v ≤ nI top by rw [hv, n_le (by omega) (by omega)]; exact x)]
        refine ⟨v, S1, rfl, o1.1, fun a b q => o1.2 a b (by omega), ⟨_, hle, p1, fun _ => by rw [et]⟩, ?_, fun _ => by rw [et]; exact hv⟩
        rw [et, f3]
        rw [if_pos rfl, if_pos x]
      · rw [if_neg (show ¬ v ≤ nI top by rw [hv, n_le (by omega) (by omega)]; exact x)]
        have ef : fX12_fails T 187 1 (nI p) S1 = some ((), zI S1 187 3 (flt (1, p))) := r_fails0 f3 (c := 1)
        rw [ef, b_q]
        refine ⟨v, _, rfl, o1.1, fun a b q => ?_, ⟨_, hle, by rw [zI_eqn (by decide)]; exact p1, fun _ => by rw [et]⟩, ?_, fun _ => by rw [et]; exact hv⟩
        · rw [zI_at, if_neg (by omega)]; exact o1.2 a b (by omega)
        · rw [zI_eqs, et, if_pos rfl, if_neg x]
    · rw [if_neg z] at et
      have ef : fX12_fails T 187 1 (nI p) S1 = some ((), zI S1 187 3 (flt (1, p))) := r_fails0 f3 (c := 1)
      rw [if_pos (show 5 < nI (rn isDg u n p - p) by rw [n_ltL (by omega) (by omega)]; omega), ef, b_q]
      refine ⟨v, _, rfl, o1.1, fun a b q => ?_, ⟨_, hle, by rw [zI_eqn (by decide)]; exact p1, fun q => ?_⟩, ?_, fun q => ?_⟩
      · rw [zI_at, if_neg (by omega)]; exact o1.2 a b (by omega)
      · rw [et] at q; exact absurd q (by show ¬ 32 = 31; decide)
      · rw [zI_eqs, et, if_neg (show ¬ 32 = 31 by decide), if_pos rfl]
      · rw [et] at q; exact absurd q (by show ¬ 32 = 31; decide)
  · have ef : fX12_fails T 187 0 (nI p) S = some ((), zI S 187 3 (flt (0, p))) := r_fails0 h3 (c := 0)
    have nk : ¬ (tok u n p).1 = 31 ∧ ¬ (tok u n p).1 = 32 := by
      unfold tok
      by_cases a1 : n ≤ p
      · rw [if_pos a1]; exact ⟨by show ¬ 46 = 31; decide, by show ¬ 46 = 32; decide⟩
      · rw [if_neg a1, if_neg (fun q => y ⟨by omega, q⟩)]
        by_cases a2 : isLt (u p) = true
        · rw [if_pos a2]
          by_cases a3 : rn isLt u n p - p = 1 ∧ u p ≤ 104
          · rw [if_pos a3]; exact ⟨by show ¬ 30 = 31; decide, by show ¬ 30 = 32; decide⟩
          · rw [if_neg a3]
            show ¬ twd u p (rn isLt u n p - p) = 31 ∧ ¬ twd u p (rn isLt u n p - p) = 32
            rcases twd_r (u := u) (i := p) (len := rn isLt u n p - p) with ⟨q, -⟩ | ⟨q, -⟩ <;> omega
        · rw [if_neg a2]
          by_cases a3 : (u p = 60 ∨ u p = 62) ∧ p + 1 < n ∧ u (p + 1) = 61
          · rw [if_pos a3]
            show ¬ (if u p = 60 then 41 else 43) = 31 ∧ ¬ (if u p = 60 then 41 else 43) = 32
            split <;> omega
          · rw [if_neg a3]
            have := sgk_r (c := u p)
            exact ⟨by show ¬ sgk _ = 31; omega, by show ¬ sgk _ = 32; omega⟩
    rw [if_neg y, if_pos rfl, hp, ef, b_q]
    refine ⟨0, _, rfl, rfl, fun a b q => by rw [zI_at, if_neg (by omega)], ⟨p, hb, by rw [zI_eqn (by decide)]; exact hp, fun q => absurd q nk.1⟩, ?_, fun q => absurd q nk.1⟩
    rw [zI_eqs, if_neg nk.1, if_neg nk.2]
/-- digits after a fault -/
theorem pr_digits (hT : iT T) {S : zS} {F : Int32} (hF : ¬ F = 0) (h : pfR u n s 0 S F) {top : Int32} : ∃ v S', fX12_digits T 187 top S = some (v, S') ∧ oS s S S' ∧ pfR u n s 0 S' F := by
  obtain ⟨h1, ⟨p, hp, ep⟩, h3⟩ := id h
  have hn := h1.1.1
  unfold fX12_digits fX12_digits_b87 fX12_digits_b93
  rw [r_isDigit hT h1.1 ep (by omega), b1_q]
  by_cases y : p < n ∧ isDg (u p) = true
  · obtain ⟨v, S1, e1, o1, p1, v1⟩ := r_digloop hT h1.1 ep (by omega) (top := top)
    have hle := (rn_spec (p := isDg) (u := u) (n := n) (i := p)).2.1 (by omega)
    have pf1 : pfR u n s 0 S1 F := ⟨ctR_o h1 (oS_P o1), ⟨_, by omega, p1⟩, by rw [o1.2 _ _ (by omega)]; exact h3⟩
    rw [if_pos y, if_neg n10, ep, let_q, e1, b1_q]
    by_cases z : 5 < S1.1 187 2 - nI p
    · rw [if_pos z, pr_fails hF pf1, b_q]; exact ⟨v, S1, rfl, oS_P o1, pf1⟩
    · rw [if_neg z]
      by_cases x : v ≤ top
      · rw [if_pos x]; exact ⟨v, S1, rfl, oS_P o1, pf1⟩
      · rw [if_neg x, pr_fails hF pf1, b_q]; exact ⟨v, S1, rfl, oS_P o1, pf1⟩
  · rw [if_neg y, if_pos rfl, pr_fails hF h, b_q]; exact ⟨0, S, rfl, oS_refl, h⟩
theorem r_wordOf {S : zS} (h4 : S.1 187 4 = nI s) (hs : s ≤ 7) {k : Nat} (hk : k < nWS s) : fX12_wordOf T 187 (nI k) S = some (siS s k) := by
  unfold fX12_wordOf fX12_wordOf_b36
  rw [h4]
  unfold nWS at hk
  unfold siS
  by_cases y : s ≤ 1
  · rw [if_pos (show nI s ≤ 1 by rw [show (1 : Int32) = nI 1 from rfl, n_le (by omega) (by omega)]; exact y), if_pos y]
    rw [if_pos y] at hk
    have : k = 0 ∨ k = 1 ∨ k = 2 := by omega
    rcases this with rfl | rfl | rfl <;> rfl
  · rw [if_neg (show ¬ nI s ≤ 1 by rw [show (1 : Int32) = nI 1 from rfl, n_le (by omega) (by omega)]; exact y), if_neg y]
    rw [if_neg y] at hk
    have e : fX12_ruleWord T (nI k) S = some (3 + k) := by
      have : k = 0 ∨ k = 1 ∨ k = 2 ∨ k = 3 ∨ k = 4 ∨ k = 5 ∨ k = 6 ∨ k = 7 ∨ k = 8 := by omega
      rcases this with rfl | rfl | rfl | rfl | rfl | rfl | rfl | rfl | rfl <;> rfl
    rw [e, b1_q]
/-- the word that stands here, if one does -/
theorem r_words (hT : iT T) (hw : okWs w s) {S : zS} (h : ctR u n s S) {p : Nat} (hp : S.1 187 2 = nI p) (hb : p < 2000000) {x1 : Int32} : lp (fun a => fX12_value_l37 T 187 x1 S a) 0 = some (nI (if w (tok u n p).1 = true then wmS s (tok u n p).1 else nWS s)) := by
  obtain ⟨h1, h4, hs, h10⟩ := h
  have hnw : nWS s ≤ 9 := by unfold nWS; split <;> omega
  have key : zwp (lp (fun a => fX12_value_l37 T 187 x1 S a) 0) (fun e => e = nI (if w (tok u n p).1 = true then wmS s (tok u n p).1 else nWS s)) := by
    refine lp_for (I := fun k a => a = nI k ∧ ∀ j, j < k → ¬ (tok u n p).1 = sW (siS s j)) (nWS s) ?_ ?_ ?_
    · rintro k a hk ⟨rfl, hj⟩
      obtain ⟨q1, q2, q3, q4⟩ := ws1 hw hk
      unfold fX12_value_l37
      rw [h10, if_neg (show ¬ nI (nWS s) ≤ nI k by rw [n_le (by omega) (by omega)]; omega), r_wordOf h4 hs hk, b1_q, r_stands hT h1 hp (by omega) q4 q3, b1_q]
      by_cases y : (tok u n p).1 = sW (siS s k)
      · right
        rw [if_pos y, if_neg n10, if_pos (show w (tok u n p).1 = true by rw [y]; exact q1)]
        exact ⟨_, rfl, by rw [y, q2]⟩
      · left
        rw [if_neg y, if_pos rfl, let_q, n_addL]
        refine ⟨_, rfl, rfl, fun j hj2 => ?_⟩
        by_cases z : j = k
        · rw [z]; exact y
        · exact hj j (by omega)
    · rintro a ⟨rfl, hj⟩
      refine ⟨_, ?_, rfl⟩
      unfold fX12_value_l37
      rw [h10, if_pos (show nI (nWS s) ≤ nI (nWS s) by rw [n_le (by omega) (by omega)]; omega)]
      rw [if_neg (fun q => by
        obtain ⟨c1, c2⟩ := ws2 hw q
        exact hj _ c1 c2.symm)]
    · exact ⟨rfl, fun j hj => absurd hj (Nat.not_lt_zero _)⟩
  obtain ⟨e, e1, rfl⟩ := key
  exact e1
end
