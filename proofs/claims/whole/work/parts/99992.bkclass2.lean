/-! A THING, by the class; and any clause of a book -/
noncomputable def endT (T : zT) (e : zS ⊕ (zS ⊕ zS)) : Option (Unit × zS) := zsm e (fun e0 => fX6_readThing_b158 T e0) (fun r => zsm r (fun e1 => fX6_readThing_b114 T e1) (fun e2 => zb (fX6_fail T 2 4 e2) fun _ S36 => some ((), S36)))
theorem bkC_row {S : zS} {B : Bk} (h : bkC S 24 B) {j t : Nat} (hj : j ≤ 5) {v : Int32} : bkC (zI S (24 + 1 + j) t v) 24 (setB B j t v) := by
  obtain ⟨h1, h2, h3, h4, h5, n, h6, h7⟩ := h
  have eb : bth (setB B j t v) = bth B := by
    show (if 6 = j ∧ 0 = t then v else B.1 6 0) = B.1 6 0
    rw [if_neg (by omega)]
  refine ⟨fun i hi => ?_, fun t' ht hz k hk => ?_, cCls_cg (fun a b _ _ => zI_ne (by omega)) (fun b => zI_ne (by omega)) (fun b => zI_ne (by omega)) h3, cCls_cg (fun a b _ _ => zI_ne (by omega)) (fun b => zI_ne (by omega)) (fun b => zI_ne (by omega)) h4, fun c hc hm => by rw [zI_ne (by omega)]; exact h5 c hc hm, n, h6, by rw [zI_ne (by omega)]; exact h7⟩
  · show (zI S (24 + 1 + j) t v).1 24 i = if 6 = j ∧ i = t then v else B.1 6 i
    rw [zI_ne (by omega), if_neg (by omega)]; exact h1 i hi
  · rw [eb] at hz
    show (zI S (24 + 1 + j) t v).1 (24 + 1 + k) t' = if k = j ∧ t' = t then v else B.1 k t'
    rw [zI_at]
    by_cases z : k = j ∧ t' = t
    · rw [if_pos z, if_pos (by omega)]
    · rw [if_neg z, if_neg (by omega)]; exact h2 t' ht hz k hk
def tellS (S : zS) (t : Nat) (x y : Int32) : zS := zI (zI (zI (zI (zI (zI S 25 t x) 26 t y) 27 t (-1)) 28 t 0) 29 t 0) 30 t 0
theorem oK_tell {S : zS} {t : Nat} {x y : Int32} : oK S (tellS S t x y) := ⟨rfl, fun a b q => by
  unfold tellS
  rw [zI_ne (by omega), zI_ne (by omega), zI_ne (by omega), zI_ne (by omega), zI_ne (by omega), zI_ne (by omega)]⟩
theorem c_tell {T : zT} (hT : iT T) {S : zS} {t : Nat} (ht : t < 8) {x y : Int32} : fX0_tellThing T 24 (nI t) x y S = some ((), tellS S t x y) := by
  obtain ⟨z0, z1, z2, z3, z4, z5, -⟩ := zT24 hT
  unfold fX0_tellThing fX0_tellThing_b52 tellS
  rw [if_neg (show ¬ nI t < 0 by rw [show (0 : Int32) = nI 0 from rfl, n_lt (by omega) (by decide)]; omega), if_neg (show ¬ 8 ≤ nI t by rw [n_leL (by omega) (by omega)]; omega)]
  simp only [g_in ht (show 8 < 2147483648 by decide), tn_nI (show t < 2147483648 by omega), z0, z1, z2, z3, z4, z5, let_q]
theorem bkC_tell {S S3 : zS} {B : Bk} {t a b : Nat} (hB : bkC S 24 B) (o : ∀ a b, 24 ≤ a → a ≤ 40 → ¬ (a = 24 ∧ b = 0) → S3.1 a b = S.1 a b) (h0 : S3.1 24 0 = bth B ||| (1 <<< (nI t &&& 31))) (ht : t < 8) : bkC (tellS S3 t (nI a) (nI b)) 24 (newT B t a b) := by
  obtain ⟨h1, h2, h3, h4, h5, n, h6, h7⟩ := hB
  have eb : bth (newT B t a b) = bth B ||| (1 <<< (nI t &&& 31)) := rfl
  have oo : ∀ c d, 31 ≤ c → c ≤ 40 → (tellS S3 t (nI a) (nI b)).1 c d = S.1 c d := fun c d q1 q2 => by unfold tellS; rw [zI_ne (by omega), zI_ne (by omega), zI_ne (by omega), zI_ne (by omega), zI_ne (by omega), zI_ne (by omega)]; exact o c d (by omega) q2 (by omega)
  refine ⟨fun i hi => ?_, fun t' ht' hz k hk => ?_, cCls_cg (fun a b _ _ => oo a b (by omega) (by omega)) (fun b => oo _ b (by omega) (by omega)) (fun b => oo _ b (by omega) (by omega)) h3, cCls_cg (fun a b _ _ => oo a b (by omega) (by omega)) (fun b => oo _ b (by omega) (by omega)) (fun b => oo _ b (by omega) (by omega)) h4, fun c hc hm => by rw [oo _ _ (by omega) (by omega)]; exact h5 c hc hm, n, h6, by rw [oo _ _ (by omega) (by omega)]; exact h7⟩
  · have e1 : (tellS S3 t (nI a) (nI b)).1 24 i = S3.1 24 i := by
      unfold tellS
      rw [zI_ne (by omega), zI_ne (by omega), zI_ne (by omega), zI_ne (by omega), zI_ne (by omega), zI_ne (by omega)]
    rw [e1]
    show S3.1 24 i = if 6 ≤ 5 ∧ i = t then (if 6 = 0 then nI a else if 6 = 1 then nI b else if 6 = 2 then -1 else 0) else if 6 = 6 ∧ i = 0 then bth B ||| (1 <<< (nI t &&& 31)) else B.1 6 i
    rw [if_neg (by omega)]
    by_cases z : i = 0
    · rw [if_pos ⟨rfl, z⟩, z]; exact h0
    · rw [if_neg (fun q => z q.2), o 24 i (by omega) (by omega) (by omega)]; exact h1 i hi
  · rw [eb, m_or_shl (by omega) (by omega)] at hz
    show (tellS S3 t (nI a) (nI b)).1 (24 + 1 + k) t' = if k ≤ 5 ∧ t' = t then (if k = 0 then nI a else if k = 1 then nI b else if k = 2 then -1 else 0) else if k = 6 ∧ t' = 0 then bth B ||| (1 <<< (nI t &&& 31)) else B.1 k t'
    by_cases z : t' = t
    · subst z
      rw [if_pos ⟨by omega, rfl⟩]
      have : k = 0 ∨ k = 1 ∨ k = 2 ∨ k = 3 ∨ k = 4 ∨ k = 5 := by omega
      unfold tellS
      rcases this with rfl | rfl | rfl | rfl | rfl | rfl <;> simp (disch := decide) only [Nat.reduceAdd, zI_eqs, zI_ne] <;> rfl
    · rw [if_neg (fun q => z q.2), if_neg (by omega)]
      have e1 : (tellS S3 t (nI a) (nI b)).1 (24 + 1 + k) t' = S3.1 (24 + 1 + k) t' := by
        unfold tellS
        rw [zI_o (by omega), zI_o (by omega), zI_o (by omega), zI_o (by omega), zI_o (by omega), zI_o (by omega)]
      rw [e1, o _ _ (by omega) (by omega) (by omega)]
      refine h2 t' ht' ?_ k hk
      rw [decide_eq_false z, Bool.or_false] at hz
      exact hz
section
variable {T : zT} {X : TK} {m : Nat}
theorem c_ex (hC : cdT T 39) (hX : okX X m) {t : Nat} (ht : t < 8) : ∀ n v S i k l x sn B, n + v = 400 → stC X m 39 S i k l → bkC S 24 B → (∀ q, 10 ≤ q → q ≤ 13 → (zm x q = true ↔ sn q = true)) → ∃ e S', lp (fun a => fX6_readThing_l79 T 2 24 (nI t) a.1 a.2.1 a.2.2) (x, nI v, S) = some e ∧ endT T e = some ((), S') ∧ fBc S S' ∧ S'.1 2 7 = S.1 2 7 ∧ match exS X t n i sn B with
    | .inl f => pfC X m 39 S' (flt f)
    | .inr p => stC X m 39 S' p.1 k l ∧ bkC S' 24 p.2 ∧ i ≤ p.1 ∧ p.2.2 = B.2 := by
  intro n
  induction n with
  | zero =>
    intro v S i k l x sn B hv h hb hx
    refine ⟨.inl S, S, lp_stop ?_, rfl, ⟨rfl, fun _ _ _ _ => rfl⟩, rfl, h, hb, Nat.le_refl _, rfl⟩
    show fX6_readThing_l79 T 2 24 (nI t) x (nI v) S = _
    unfold fX6_readThing_l79
    rw [if_pos (show 400 ≤ nI v by rw [n_leL (by omega) (by omega)]; omega)]
  | succ n ih =>
    intro v S i k l x sn B hv h hb hx
    have hb46 := hX.2.2.2.2.2.2.2 i
    have el : fX6_readThing_l79 T 2 24 (nI t) x (nI v) S = if 10 ≤ X.1 i ∧ X.1 i ≤ 13 then (if sn (X.1 i) = true then some (.inr (.inr (.inr S))) else zb (fX6_next T 2 S) fun _ S28 => zb (fX6_readExtra T 2 24 (nI t) (nI (X.1 i)) S28) fun _ S31 => some (.inl (x ||| (1 <<< (nI (X.1 i) &&& 31)), nI (v + 1), S31))) else some (.inr (.inr (.inl S))) := by
      unfold fX6_readThing_l79
      rw [if_neg (show ¬ 400 ≤ nI v by rw [n_leL (by omega) (by omega)]; omega), if_pos h.2.2.2.1, h.2.2.1.2.1, let_q]
      by_cases y : X.1 i < 10
      · rw [if_pos (show nI (X.1 i) < 10 by rw [show (10 : Int32) = nI 10 from rfl, n_lt (by omega) (by omega)]; exact y), if_neg (by omega)]
      · rw [if_neg (show ¬ nI (X.1 i) < 10 by rw [show (10 : Int32) = nI 10 from rfl, n_lt (by omega) (by omega)]; exact y)]
        by_cases y2 : X.1 i ≤ 13
        · rw [if_pos (show nI (X.1 i) ≤ 13 by rw [show (13 : Int32) = nI 13 from rfl, n_le (by omega) (by omega)]; exact y2), if_pos (show 10 ≤ X.1 i ∧ X.1 i ≤ 13 from ⟨by omega, y2⟩)]
          have hxx := hx (X.1 i) (by omega) y2
          by_cases z : sn (X.1 i) = true
          · rw [if_neg (show ¬ ((x >>> (nI (X.1 i) &&& 31)) &&& 1) = 0 from fun q => by rw [(m_sh0 (by omega)).mp q] at hxx; exact absurd (hxx.mpr z) (by decide)), if_pos z]
          · rw [if_pos (show ((x >>> (nI (X.1 i) &&& 31)) &&& 1) = 0 from (m_sh0 (by omega)).mpr (by cases q : zm x (X.1 i) with
              | false => rfl
              | true => exact absurd (hxx.mp q) z)), if_neg z, let_q, n_addL]
            simp only [let_q]
        · rw [if_neg (show ¬ nI (X.1 i) ≤ 13 by rw [show (13 : Int32) = nI 13 from rfl, n_le (by omega) (by omega)]; exact y2), if_neg (show ¬ (10 ≤ X.1 i ∧ X.1 i ≤ 13) from fun q => y2 q.2)]
    unfold exS
    by_cases y : 10 ≤ X.1 i ∧ X.1 i ≤ 13
    · rw [if_pos y] at el ⊢
      by_cases z : sn (X.1 i) = true
      · rw [if_pos z] at el ⊢
        obtain ⟨S2, e2, o2', p2⟩ := st_fail2 (T := T) h (by decide) 4
        have e2' : fX6_fail T 2 4 S = some ((), S2) := e2
        refine ⟨_, S2, lp_stop el, ?_, fBc_2 o2', o2'.2 _ _ (by omega), p2⟩
        show zb (fX6_fail T 2 4 S) (fun _ S36 => some ((), S36)) = _
        rw [e2', b_q]
      · rw [if_neg z] at el ⊢
        have him : i < m := by
          apply Classical.byContradiction
          intro q
          have := (hX.2.1 i).mpr (by omega)
          omega
        obtain ⟨S1, e1, u1, u2, u3⟩ := st_next hC hX h him
        obtain ⟨w, S2, e2, o2', r2⟩ := c_nm hC hX u3 (low := if X.1 i = 10 then 1 else 0) (top := if X.1 i = 10 then 60 else 9999) (by split <;> decide) (by split <;> decide)
        have ex : fX6_readExtra T 2 24 (nI t) (nI (X.1 i)) S1 = some ((), zI S2 (24 + 1 + (X.1 i - 8)) t w) := by
          obtain ⟨-, -, z2, z3, z4, z5, -⟩ := zT24 hC.1
          unfold fX6_readExtra fX6_readExtra_b93
          rw [if_neg (show ¬ nI t < 0 by rw [show (0 : Int32) = nI 0 from rfl, n_lt (by omega) (by decide)]; omega), if_pos (show nI t < 8 by rw [show (8 : Int32) = nI 8 from rfl, n_lt (by omega) (by decide)]; exact ht)]
          have : X.1 i = 10 ∨ X.1 i = 11 ∨ X.1 i = 12 ∨ X.1 i = 13 := by omega
          rcases this with q | q | q | q
          · rw [q] at e2 ⊢
            have e2' : fX6_number T 2 1 60 S1 = some (w, S2) := e2
            rw [if_pos (show nI 10 = 10 from rfl), e2', b_q, g_in ht (by decide), tn_nI (by omega), z2, let_q]
          · rw [q] at e2 ⊢
            have e2' : fX6_number T 2 0 9999 S1 = some (w, S2) := e2
            rw [if_neg (show ¬ nI 11 = 10 by decide), if_pos (show nI 11 = 11 from rfl), e2', b_q, g_in ht (by decide), tn_nI (by omega), z3, let_q]
          · rw [q] at e2 ⊢
            have e2' : fX6_number T 2 0 9999 S1 = some (w, S2) := e2
            rw [if_neg (show ¬ nI 12 = 10 by decide), if_neg (show ¬ nI 12 = 11 by decide), if_pos (show nI 12 = 12 from rfl), e2', b_q, g_in ht (by decide), tn_nI (by omega), z4, let_q]
          · rw [q] at e2 ⊢
            have e2' : fX6_number T 2 0 9999 S1 = some (w, S2) := e2
            rw [if_neg (show ¬ nI 13 = 10 by decide), if_neg (show ¬ nI 13 = 11 by decide), if_neg (show ¬ nI 13 = 12 by decide), e2', b_q, g_in ht (by decide), tn_nI (by omega), z5, let_q]
        rw [e1, b_q, ex, b_q] at el
        have k3 : oK S2 (zI S2 (24 + 1 + (X.1 i - 8)) t w) := oK_z (by omega)
        have ff := fBc_tr (fBc_2 (o2_next u1 u2)) (fBc_tr (fBc_2 o2') (fBc_K k3))
        have e27 : (zI S2 (24 + 1 + (X.1 i - 8)) t w).1 2 7 = S.1 2 7 := by rw [zI_ne (by omega), o2'.2 _ _ (by omega), u2 _ _ (by omega)]
        cases hn : numS X (if X.1 i = 10 then 1 else 0) (if X.1 i = 10 then 60 else 9999) (i + 1) with
        | inl f =>
          rw [hn] at r2
          have hF := flt_ok (numS_inl hX hn)
          have p3 := pfC_K r2 k3
          refine ⟨.inl _, _, lp_go el (lp_stop ?_), rfl, ff, e27, p3⟩
          show fX6_readThing_l79 T 2 24 (nI t) _ (nI (v + 1)) _ = _
          unfold fX6_readThing_l79
          rw [p3.2.2.1, if_neg hF]
          split <;> rfl
        | inr V =>
          rw [hn] at r2
          obtain ⟨hw, s2⟩ := r2
          have b3 : bkC (zI S2 (24 + 1 + (X.1 i - 8)) t w) 24 (setB B (X.1 i - 8) t (nI V)) := by
            rw [hw]
            exact bkC_row (bkC_2 (bkC_2 hb (o2_next u1 u2)) o2') (by omega)
          obtain ⟨e, S', e4, e5, f5, g5, r5⟩ := ih (v + 1) _ (i + 2) k l (x ||| (1 <<< (nI (X.1 i) &&& 31))) (fun q => sn q || q == X.1 i) _ (by omega) (stC_K s2 k3) b3 (fun q h1 h2 => by
            rw [m_or_shl (by omega) (by omega), Bool.or_eq_true, Bool.or_eq_true, hx q h1 h2, decide_eq_true_iff, beq_iff_eq])
          refine ⟨e, S', lp_go el e4, e5, fBc_tr ff f5, g5.trans e27, ?_⟩
          show match exS X t n (i + 2) (fun q => sn q || q == X.1 i) (setB B (X.1 i - 8) t (nI V)) with
            | .inl f => pfC X m 39 S' (flt f)
            | .inr p => stC X m 39 S' p.1 k l ∧ bkC S' 24 p.2 ∧ i ≤ p.1 ∧ p.2.2 = B.2
          cases hr : exS X t n (i + 2) (fun q => sn q || q == X.1 i) (setB B (X.1 i - 8) t (nI V)) with
          | inl f => rw [hr] at r5; exact r5
          | inr p =>
            rw [hr] at r5
            exact ⟨r5.1, r5.2.1, by have := r5.2.2.1; omega, r5.2.2.2⟩
    · rw [if_neg y] at el ⊢
      exact ⟨_, S, lp_stop el, rfl, ⟨rfl, fun _ _ _ _ => rfl⟩, rfl, h, hb, Nat.le_refl _, rfl⟩
theorem c_exF (T : zT) {F : Int32} (hF : ¬ F = 0) {S : zS} (h : S.1 2 5 = F) {t : Nat} : lp (fun a => fX6_readThing_l79 T 2 24 (nI t) a.1 a.2.1 a.2.2) (0, 0, S) = some (.inl S) := lp_stop (by
  show fX6_readThing_l79 T 2 24 (nI t) 0 0 S = _
  unfold fX6_readThing_l79
  rw [h, if_neg hF]
  split <;> rfl)
theorem c_thing (hC : cdT T 39) (hX : okX X m) (hL : ∀ i, X.1 i = 30 → X.2.1 i ≤ 7) {S : zS} {i k l : Nat} {B : Bk} (h : stC X m 39 S i k l) (hl : l ≤ i) (hk : k ≤ 60) (hb : bkC S 24 B) (ht : ∀ c : Cl, c.1 = 0 → tldL S (B.2 ++ [c])) : ∃ S1, fX6_readThing T 2 24 S = some ((), S1) ∧ bcR X m S (thS X B i k) S1 := by
  have hb46 := hX.2.2.2.2.2.2.2 i
  unfold fX6_readThing thS
  rw [h.2.2.1.2.1, h.2.2.1.2.2.1]
  by_cases y : X.1 i = 30
  · have h7 := hL i y
    rw [if_pos (show nI (X.1 i) = 30 by rw [y]; rfl), if_pos y, let_q, c_has24 (hb.1 0 (by decide)) (by omega), b1_q]
    show ∃ S1, _ ∧ bcR X m S (if zm (bth B) (X.2.1 i) = true then _ else _) S1
    by_cases z : zm (bth B) (X.2.1 i) = true
    · obtain ⟨S2, e2, o2', p2⟩ := st_fail2 (T := T) h (by decide) 5
      have e2' : fX6_fail T 2 5 S = some ((), S2) := e2
      have z' : zm (B.1 6 0) (X.2.1 i) = true := z
      rw [if_pos z', if_neg n10, if_pos z, e2', b_q]
      exact ⟨S2, rfl, fBc_2 o2', p2⟩
    · have him : i < m := by
        apply Classical.byContradiction
        intro q
        have := (hX.2.1 i).mpr (by omega)
        omega
      obtain ⟨S1, e1, u1, u2, u3⟩ := st_next hC hX h him
      have z' : ¬ zm (B.1 6 0) (X.2.1 i) = true := z
      rw [if_neg z', if_pos rfl, if_neg z, e1, b_q, let_q]
      have e0 : S1.1 24 0 = bth B := by rw [u2 _ _ (by omega)]; exact hb.1 0 (by decide)
      rw [e0]
      have k2 : oK S1 (zI S1 24 0 (bth B ||| (1 <<< (nI (X.2.1 i) &&& 31)))) := oK_z (by omega)
      have f2 := fBc_tr (fBc_2 (o2_next u1 u2)) (fBc_K k2)
      obtain ⟨a, S3, e3, o3, r3⟩ := c_nm hC hX (stC_K u3 k2) (low := 1) (top := 9999) (by decide) (by decide)
      have e3' : fX6_number T 2 1 9999 (zI S1 24 0 (bth B ||| (1 <<< (nI (X.2.1 i) &&& 31)))) = some (a, S3) := e3
      rw [e3', b_q]
      have f3 := fBc_tr f2 (fBc_2 o3)
      cases hn : numS X 1 9999 (i + 1) with
      | inl f =>
        rw [hn] at r3
        have hF := flt_ok (numS_inl hX hn)
        obtain ⟨b, S4, e4, o4, p4⟩ := pf_num hC hX hF r3 (low := 0) (top := 999)
        have p5 := pfC_K p4 (oK_tell (t := X.2.1 i) (x := a) (y := b))
        rw [e4, b_q, c_tell hC.1 (by omega), b_q, c_exF T hF p5.2.2.1, b1_q]
        exact ⟨_, rfl, fBc_tr f3 (fBc_tr (fBc_2 o4) (fBc_K oK_tell)), p5⟩
      | inr A =>
        rw [hn] at r3
        obtain ⟨ha, s3⟩ := r3
        obtain ⟨b, S4, e4, o4, r4⟩ := c_nm hC hX s3 (low := 0) (top := 999) (by decide) (by decide)
        have e4' : fX6_number T 2 0 999 S3 = some (b, S4) := e4
        have f4 := fBc_tr f3 (fBc_tr (fBc_2 o4) (fBc_K (oK_tell (S := S4) (t := X.2.1 i) (x := a) (y := b))))
        rw [e4', b_q, c_tell hC.1 (by omega), b_q]
        show ∃ S1, _ ∧ bcR X m S (match numS X 0 999 (i + 2) with
          | .inl f => .inl f
          | .inr b => match exS X (X.2.1 i) 400 (i + 3) (fun _ => false) (newT B (X.2.1 i) A b) with
            | .inl f => .inl f
            | .inr p => .inr (p.1, k, addB p.2 (0, 0, 0, []))) S1
        cases hn2 : numS X 0 999 (i + 2) with
        | inl f =>
          have r4' : match numS X 0 999 (i + 2) with
            | .inl f => pfC X m 39 S4 (flt f)
            | .inr V => b = nI V ∧ stC X m 39 S4 (i + 2 + 1) k l := r4
          rw [hn2] at r4'
          have hF := flt_ok (numS_inl hX hn2)
          have p5 := pfC_K r4' (oK_tell (t := X.2.1 i) (x := a) (y := b))
          rw [c_exF T hF p5.2.2.1, b1_q]
          exact ⟨_, rfl, f4, p5⟩
        | inr Bn =>
          have r4' : match numS X 0 999 (i + 2) with
            | .inl f => pfC X m 39 S4 (flt f)
            | .inr V => b = nI V ∧ stC X m 39 S4 (i + 2 + 1) k l := r4
          rw [hn2] at r4'
          obtain ⟨hbn, s4⟩ := r4'
          have hbk : bkC (tellS S4 (X.2.1 i) a b) 24 (newT B (X.2.1 i) A Bn) := by
            rw [ha, hbn]
            exact bkC_tell hb (fun c d q1 q2 q3 => by rw [o4.2 _ _ (by omega), o3.2 _ _ (by omega), zI_o q3, u2 _ _ (by omega)]) (by rw [o4.2 _ _ (by omega), o3.2 _ _ (by omega), zI_eqs]) (by omega)
          obtain ⟨e, S', e5, e6, f6, g6, r6⟩ := c_ex hC hX (t := X.2.1 i) (by omega) 400 0 (tellS S4 (X.2.1 i) a b) (i + 3) k l 0 (fun _ => false) _ rfl (stC_K s4 oK_tell) hbk (fun q _ _ => by rw [m_0])
          have e5' : lp (fun a : Int32 × Int32 × zS => fX6_readThing_l79 T 2 24 (nI (X.2.1 i)) a.1 a.2.1 a.2.2) (0, 0, tellS S4 (X.2.1 i) a b) = some e := e5
          rw [e5', b1_q]
          have g : S'.1 2 7 = S.1 2 7 := by rw [g6, oK_tell.2 _ _ (by omega), o4.2 _ _ (by omega), o3.2 _ _ (by omega), zI_ne (by omega), u2 _ _ (by omega)]
          refine ⟨S', e6, fBc_tr f4 f6, ?_⟩
          show match (match exS X (X.2.1 i) 400 (i + 3) (fun _ => false) (newT B (X.2.1 i) A Bn) with
            | .inl f => (.inl f : BR)
            | .inr p => .inr (p.1, k, addB p.2 (0, 0, 0, []))) with
            | .inl f => pfC X m 39 S' (flt f)
            | .inr p => ∃ l', cB X m S' p.1 p.2.1 l' p.2.2
          cases hr : exS X (X.2.1 i) 400 (i + 3) (fun _ => false) (newT B (X.2.1 i) A Bn) with
          | inl f => rw [hr] at r6; exact r6
          | inr p =>
            rw [hr] at r6
            obtain ⟨s6, b6, j6, l6⟩ := r6
            refine ⟨l, s6, by show l ≤ p.1; omega, hk, bkC_add0 b6 (by show 0 ≠ 1; decide) (by show 0 ≠ 2; decide) rfl, ?_⟩
            have := tldL_cg (ht (0, 0, 0, []) rfl) g
            show tldL S' (p.2.2 ++ [(0, 0, 0, [])])
            rw [l6]
            exact this
  · obtain ⟨S2, e2, o2', p2⟩ := st_fail2 (T := T) h (by decide) 0
    have e2' : fX6_fail T 2 0 S = some ((), S2) := e2
    rw [if_neg (show ¬ nI (X.1 i) = 30 by rw [nI_eqL (show (30 : Int32) = nI 30 from rfl) (by omega) (by decide)]; exact y), e2', b_q]
    refine ⟨S2, rfl, fBc_2 o2', ?_⟩
    rw [if_neg y]
    exact p2
end
