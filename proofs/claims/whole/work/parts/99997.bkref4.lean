/-! A THING, by the reference -/
section
variable {T : zT} {u : Nat → Nat} {n m : Nat}
theorem zs_22 : zsL 22 = nI (zsN 22) ∧ zsL 23 = nI (zsN 23) ∧ zsL 24 = nI (zsN 24) ∧ zsL 7 = nI (zsN 7) := by decide
theorem sw_22 : sW 22 = 10 ∧ sW 23 = 11 ∧ sW 24 = 12 ∧ sW 7 = 13 := by decide
def exW (x : Nat) : Nat := if x = 0 then 22 else if x = 1 then 23 else if x = 2 then 24 else 7
theorem exW_r {x : Nat} (h : x < 4) : exW x < 27 ∧ 1 ≤ exW x ∧ sW (exW x) = 10 + x ∧ zsL (exW x) = nI (zsN (exW x)) := by
  have : x = 0 ∨ x = 1 ∨ x = 2 ∨ x = 3 := by omega
  rcases this with rfl | rfl | rfl | rfl <;> decide
theorem r_extraOf {S : zS} {x : Nat} (h : x < 4) : fX12_extraOf T (nI x) S = some (exW x) := by
  have : x = 0 ∨ x = 1 ∨ x = 2 ∨ x = 3 := by omega
  rcases this with rfl | rfl | rfl | rfl <;> rfl
theorem r_which (hT : iT T) {S : zS} {a b : Int32} {p : Nat} (h : txR u n S) (hp : S.1 187 2 = nI p) (hb : p < 2000000) : ∀ d k, d + k = 4 → (∀ j, j < k → ¬ (tok u n p).1 = 10 + j) → lp (fun x => fX12_thingClause_l118 T 187 a b S x) (nI k) = some (nI (if 10 ≤ (tok u n p).1 ∧ (tok u n p).1 ≤ 13 then (tok u n p).1 - 10 else 4)) := by
  intro d
  induction d with
  | zero =>
    intro k hk hj
    have h0 := hj 0 (by omega)
    have h1 := hj 1 (by omega)
    have h2 := hj 2 (by omega)
    have h3 := hj 3 (by omega)
    have ek : k = 4 := by omega
    subst ek
    rw [if_neg (by omega)]
    refine lp_stop ?_
    show fX12_thingClause_l118 T 187 a b S (nI 4) = _
    unfold fX12_thingClause_l118
    rw [if_pos (show 4 ≤ nI 4 by decide)]
  | succ d ih =>
    intro k hk hj
    obtain ⟨w1, w2, w3, w4⟩ := exW_r (x := k) (by omega)
    have el : fX12_thingClause_l118 T 187 a b S (nI k) = if (tok u n p).1 = 10 + k then some (.inr (nI k)) else some (.inl (nI (k + 1))) := by
      unfold fX12_thingClause_l118
      rw [if_neg (show ¬ 4 ≤ nI k by rw [n_leL (by omega) (by omega)]; omega), r_extraOf (by omega), b1_q, r_stands hT h hp (by omega) w1 w2, b1_q, w3]
      by_cases y : (tok u n p).1 = 10 + k
      · rw [if_pos y, if_neg n10, if_pos y]
      · rw [if_neg y, if_pos rfl, if_neg y, n_addL, let_q]
    by_cases y : (tok u n p).1 = 10 + k
    · rw [if_pos y] at el
      rw [if_pos (by omega), show (tok u n p).1 - 10 = k by omega]
      exact lp_stop el
    · rw [if_neg y] at el
      refine lp_go el (ih (k + 1) (by omega) (fun j hj2 => ?_))
      by_cases z : j = k
      · rw [z]; exact y
      · exact hj j (by omega)
theorem r_extra (hT : iT T) (hm : m ≤ n ∧ pl u n m = n ∧ ∀ i, i < m → pl u n i < n) {S : zS} {i e kk t x : Nat} (ht : t < 8) (hx : x < 4) (h : stR u n 1 m S i e kk) (hp : S.1 187 2 = nI (pl u n i)) (hk : (tok u n (pl u n i)).1 = 10 + x) : ∃ v S2, fX12_extra T 187 (nI (8 + t)) (nI x) S = some ((), zI S2 (202 + x) (8 + t) v) ∧ oN S S2 ∧ match numS (tkX u n wB) (if 10 + x = 10 then 1 else 0) (if 10 + x = 10 then 60 else 9999) (i + 1) with
    | .inl f => pfR u n 1 0 S2 (flt f)
    | .inr V => v = nI V ∧ stR u n 1 m S2 (i + 2) e kk := by
  have hu := txR_255 h.1.1
  obtain ⟨w1, w2, w3, w4⟩ := exW_r hx
  obtain ⟨q1, q2⟩ := tok_wEnd w1 w2 hu (show (tok u n (pl u n i)).1 = sW (exW x) by rw [w3]; exact hk)
  have hpos : pl u n i < n := by
    apply Classical.byContradiction
    intro q
    have e := tok_end (u := u) (n := n) (i := pl u n i) (by omega)
    rw [e] at hk
    have hk' : 46 = 10 + x := hk
    omega
  have st1 : stR u n 1 m (zI S 187 2 (nI (pl u n i + zsN (exW x)))) (i + 1) e kk := ⟨ctR_z h.1 (Or.inl rfl), i_lt hm hpos, ⟨pl u n i + zsN (exW x), q2, by rw [zI_eqs], by rw [← q1]; rfl⟩, by rw [zI_eqn (by decide)]; exact h.2.2.2.1, by rw [zI_eqn (by decide)]; exact h.2.2.2.2.1, by rw [zI_eqn (by decide)]; exact h.2.2.2.2.2⟩
  obtain ⟨v, S2, e2, o2', r2⟩ := r_nm (w := wB) hT st1 hm (low := if 10 + x = 10 then 1 else 0) (top := if 10 + x = 10 then 60 else 9999) (by split <;> decide) (by split <;> decide)
  refine ⟨v, S2, ?_, oN_tr (oN_z (Or.inl rfl)) o2', r2⟩
  have gi : ∀ {β : Type} {k : Option β}, zgd (zin (nI (8 + t)) 16) k = k := g_in (by omega) (by decide)
  have tn := tn_nI (show 8 + t < 2147483648 by omega)
  unfold fX12_extra
  rw [r_extraOf hx, b1_q, hp, w4, n_add, let_q]
  unfold fX12_extra_b26
  have : x = 0 ∨ x = 1 ∨ x = 2 ∨ x = 3 := by omega
  rcases this with rfl | rfl | rfl | rfl
  · have e2' : fX12_amount T 187 1 60 (zI S 187 2 (nI (pl u n i + zsN (exW 0)))) = some (v, S2) := e2
    rw [if_pos (show nI 0 = 0 from rfl), if_pos (show nI 0 = 0 from rfl)]
    unfold fX12_extra_b38 fX12_extra_b61 fX12_extra_b82 fX12_extra_b103 fX12_extra_b124
    rw [e2', b_q, if_pos (show nI 0 = 0 from rfl), zT_187_25 hT, zT_187_26 hT, zT_187_27 hT, zT_187_28 hT]
    simp only [gi, tn, let_q, zI_self, if_neg (show ¬ nI 0 = 1 by decide), if_neg (show ¬ nI 0 = 2 by decide), if_neg (show ¬ nI 0 = 3 by decide)]
  · have e2' : fX12_amount T 187 0 9999 (zI S 187 2 (nI (pl u n i + zsN (exW 1)))) = some (v, S2) := e2
    rw [if_neg (show ¬ nI 1 = 0 by decide), if_neg (show ¬ nI 1 = 0 by decide)]
    unfold fX12_extra_b38 fX12_extra_b61 fX12_extra_b82 fX12_extra_b103 fX12_extra_b124
    rw [e2', b_q, if_neg (show ¬ nI 1 = 0 by decide), zT_187_25 hT, zT_187_26 hT, zT_187_27 hT, zT_187_28 hT]
    simp only [gi, tn, let_q, zI_self, if_pos (show nI 1 = 1 from rfl), if_neg (show ¬ nI 1 = 2 by decide), if_neg (show ¬ nI 1 = 3 by decide)]
  · have e2' : fX12_amount T 187 0 9999 (zI S 187 2 (nI (pl u n i + zsN (exW 2)))) = some (v, S2) := e2
    rw [if_neg (show ¬ nI 2 = 0 by decide), if_neg (show ¬ nI 2 = 0 by decide)]
    unfold fX12_extra_b38 fX12_extra_b61 fX12_extra_b82 fX12_extra_b103 fX12_extra_b124
    rw [e2', b_q, if_neg (show ¬ nI 2 = 0 by decide), zT_187_25 hT, zT_187_26 hT, zT_187_27 hT, zT_187_28 hT]
    simp only [gi, tn, let_q, zI_self, if_neg (show ¬ nI 2 = 1 by decide), if_pos (show nI 2 = 2 from rfl), if_neg (show ¬ nI 2 = 3 by decide)]
  · have e2' : fX12_amount T 187 0 9999 (zI S 187 2 (nI (pl u n i + zsN (exW 3)))) = some (v, S2) := e2
    rw [if_neg (show ¬ nI 3 = 0 by decide), if_neg (show ¬ nI 3 = 0 by decide)]
    unfold fX12_extra_b38 fX12_extra_b61 fX12_extra_b82 fX12_extra_b103 fX12_extra_b124
    rw [e2', b_q, if_neg (show ¬ nI 3 = 0 by decide), zT_187_25 hT, zT_187_26 hT, zT_187_27 hT, zT_187_28 hT]
    simp only [gi, tn, let_q, zI_self, if_neg (show ¬ nI 3 = 1 by decide), if_neg (show ¬ nI 3 = 2 by decide), if_pos (show nI 3 = 3 from rfl)]
theorem mdR_rowB {S : zS} {i e kk kd j t : Nat} {B : Bk} {v : Int32} (h : mdR u n m S i e kk B kd) (hj : j ≤ 5) (ht : t < 8) (hz : zm (bth B) t = true) : mdR u n m (zI S (200 + j) (8 + t) v) i e kk (setB B j t v) kd := by
  obtain ⟨⟨h1, h2, ⟨a1, a2, a3, a4, a5, a6, a7⟩, h4, h5, h6, h7⟩, h8, h9⟩ := h
  have eb : bth (setB B j t v) = bth B := by
    show (if 6 = j ∧ 0 = t then v else B.1 6 0) = B.1 6 0
    rw [if_neg (by omega)]
  have e6 : ∀ k, (setB B j t v).1 6 k = B.1 6 k := fun k => if_neg (fun q => by have := q.1; omega)
  refine ⟨⟨stR_V h1 (oV_z (by omega)), by rw [zI_ne (by omega)]; exact h2, ⟨fun t' ht' => ?_, fun t' ht' k hk => ?_, by rw [zI_ne (by omega), e6]; exact a3, by rw [zI_ne (by omega), e6]; exact a4, by rw [zI_ne (by omega), e6]; exact a5, by rw [zI_ne (by omega), e6]; exact a6, by rw [zI_ne (by omega), e6]; exact a7⟩, rcl_cg h4 (fun a b _ _ _ _ => zI_ne (by omega)) (fun a b _ _ => zI_ne (by omega)) (Nat.le_refl _), fun t' ht' hz' => ?_, h6, h7⟩, by rw [zI_ne (by omega)]; exact h8, by rw [zI_ne (by omega)]; exact h9⟩
  · rw [eb, zI_ne (by omega)]; exact a1 t' ht'
  · show _ = if k = j ∧ t' = t then v else B.1 k t'
    rw [zI_at]
    by_cases z : k = j ∧ t' = t
    · rw [if_pos z, if_pos (by omega)]
    · rw [if_neg z, if_neg (by omega)]; exact a2 t' ht' k hk
  · rw [eb] at hz'
    have hne : ¬ t' = t := fun q => by rw [q, hz] at hz'; cases hz'
    have ee : ∀ k, (setB B j t v).1 k t' = B.1 k t' := fun k => if_neg (fun q => hne q.2)
    obtain ⟨b1, b2, b3, b4⟩ := h5 t' ht' hz'
    exact ⟨by rw [ee]; exact b1, by rw [ee]; exact b2, by rw [ee]; exact b3, by rw [ee]; exact b4⟩
theorem r_ex (hT : iT T) (hn4 : n ≤ 400) (hm : m ≤ n ∧ pl u n m = n ∧ ∀ i, i < m → pl u n i < n) {e kk kd t : Nat} (ht : t < 8) : ∀ N S i sn x B, m < N + i → mdR u n m S i e kk B kd → zm (bth B) t = true → (∀ q, 10 ≤ q → q ≤ 13 → (zm x (q - 10) = true ↔ sn q = true)) → ∃ S', lp (fun a => fX12_thingClause_l106 T 187 (nI (8 + t)) a.1 a.2.1 a.2.2) (x, 1, S) = some S' ∧ fRb S S' ∧ match exS (tkX u n wB) t N i sn B with
    | .inl f => pfR u n 1 1 S' (flt f)
    | .inr p => mdR u n m S' p.1 e kk p.2 kd := by
  have hX := tkX_ok (w := wB) hn4 (Or.inl rfl) hm
  have eK : ∀ i, (tkX u n wB).1 i = (tok u n (pl u n i)).1 := fun i => rfl
  have eP : ∀ i, (tkX u n wB).2.2.1 i = pl u n i := fun i => rfl
  have stop : ∀ (x : Int32) (S' : zS), lp (fun a : Int32 × Int32 × zS => fX12_thingClause_l106 T 187 (nI (8 + t)) a.1 a.2.1 a.2.2) (x, 0, S') = some S' := fun x S' => lp_stop (by
    show fX12_thingClause_l106 T 187 (nI (8 + t)) x 0 S' = _
    unfold fX12_thingClause_l106
    rw [if_pos rfl])
  intro N
  induction N with
  | zero => intro S i sn x B hN h _ _; have := h.1.1.2.1; omega
  | succ N ih =>
    intro S i sn x B hN h hz hx
    obtain ⟨S1, e1, o1, p1, s1⟩ := st_blanks hT h.1.1
    have d1 := mdR_P h o1 s1
    have hple := pl_le (u := u) (n := n) i
    have hwh := r_which hT (a := nI (8 + t)) (b := x) s1.1.1 p1 (by omega) 4 0 rfl (fun j hj => absurd hj (Nat.not_lt_zero _))
    have hwh' : lp (fun y => fX12_thingClause_l118 T 187 (nI (8 + t)) x S1 y) 0 = some (nI (if 10 ≤ (tok u n (pl u n i)).1 ∧ (tok u n (pl u n i)).1 ≤ 13 then (tok u n (pl u n i)).1 - 10 else 4)) := hwh
    have el : fX12_thingClause_l106 T 187 (nI (8 + t)) x 1 S = fX12_thingClause_b142 T 187 (nI (8 + t)) x (nI (if 10 ≤ (tok u n (pl u n i)).1 ∧ (tok u n (pl u n i)).1 ≤ 13 then (tok u n (pl u n i)).1 - 10 else 4)) S1 := by
      unfold fX12_thingClause_l106
      rw [if_neg n10, e1, b_q, hwh', b1_q]
    unfold exS
    rw [eK, eP]
    by_cases y : 10 ≤ (tok u n (pl u n i)).1 ∧ (tok u n (pl u n i)).1 ≤ 13
    · rw [if_pos y] at el ⊢
      obtain ⟨xx, hxx, hx4⟩ : ∃ xx, (tok u n (pl u n i)).1 = 10 + xx ∧ xx < 4 := ⟨(tok u n (pl u n i)).1 - 10, by omega, by omega⟩
      rw [show (tok u n (pl u n i)).1 - 10 = xx by omega] at el
      have hsn := hx (10 + xx) (by omega) (by omega)
      rw [show 10 + xx - 10 = xx by omega] at hsn
      have el2 : fX12_thingClause_b142 T 187 (nI (8 + t)) x (nI xx) S1 = if sn (10 + xx) = true then zb (fX12_fails T 187 4 (S1.1 187 2) S1) fun _ S46 => fX12_thingClause_b201 T 187 (nI (8 + t)) x 1 S46 else zb (fX12_extra T 187 (nI (8 + t)) (nI xx) S1) fun _ S42 => fX12_thingClause_b201 T 187 (nI (8 + t)) (x ||| (1 <<< (nI xx &&& 31))) 1 S42 := by
        unfold fX12_thingClause_b142 fX12_thingClause_b153 fX12_thingClause_b182
        rw [if_neg (show ¬ 4 ≤ nI xx by rw [n_leL (by omega) (by omega)]; omega), if_neg n10, if_neg n10, m_sh (by omega), let_q]
        cases w : zm x xx with
        | true => rw [if_pos (show (if true = true then (1 : Int32) else 0) = 1 by rw [if_pos rfl]), if_pos (hsn.mp w)]
        | false => rw [if_neg (show ¬ (if false = true then (1 : Int32) else 0) = 1 by decide), if_neg (show ¬ sn (10 + xx) = true from fun q => by have := hsn.mpr q; rw [w] at this; cases this)]
      rw [el2] at el
      rw [hxx]
      by_cases z : sn (10 + xx) = true
      · rw [if_pos z] at el ⊢
        have hf : okF (4, pl u n i) := ⟨by show 4 ≤ 5; decide, by show pl u n i ≤ 400; omega⟩
        have hF := flt_ok hf
        have ef : fX12_fails T 187 4 (nI (pl u n i)) S1 = some ((), zI S1 187 3 (flt (4, pl u n i))) := r_fails0 s1.2.2.2.1 (c := 4)
        have p3 : pfR u n 1 1 (zI S1 187 3 (flt (4, pl u n i))) (flt (4, pl u n i)) := ⟨ctR_z s1.1 (Or.inr (Or.inl rfl)), ⟨pl u n i, by omega, by rw [zI_eqn (by decide)]; exact p1⟩, by rw [zI_eqs]⟩
        rw [p1, ef, b_q] at el
        unfold fX12_thingClause_b201 fX12_thingClause_b217 fX12_thingClause_b218 at el
        rw [if_neg n10, p3.2.2, if_neg hF] at el
        exact ⟨_, lp_go el (stop _ _), fRb_tr (fRb_N (oN_P o1)) (fRb_N (oN_z (Or.inr rfl))), p3⟩
      · rw [if_neg z] at el ⊢
        obtain ⟨v, S2, e2, o2', r2⟩ := r_extra hT hm ht hx4 s1 p1 hxx
        rw [e2, b_q] at el
        unfold fX12_thingClause_b201 fX12_thingClause_b217 fX12_thingClause_b218 at el
        rw [if_neg n10] at el
        have ff : fRb S (zI S2 (202 + xx) (8 + t) v) := fRb_tr (fRb_N (oN_P o1)) (fRb_tr (fRb_N o2') (fRb_z (by omega)))
        cases hn : numS (tkX u n wB) (if 10 + xx = 10 then 1 else 0) (if 10 + xx = 10 then 60 else 9999) (i + 1) with
        | inl f =>
          rw [hn] at r2
          have hF := flt_ok (numS_inl hX hn)
          have p3 : pfR u n 1 0 (zI S2 (202 + xx) (8 + t) v) (flt f) := pfR_V r2 (oV_z (by omega))
          rw [p3.2.2, if_neg hF] at el
          exact ⟨_, lp_go el (stop _ _), ff, pfR_le p3 (by decide)⟩
        | inr V =>
          rw [hn] at r2
          obtain ⟨hv, s2⟩ := r2
          have hmo : pl u n i ≤ pl u n (i + 2) := Nat.le_trans (pl_go i) (pl_go (i + 1))
          have d3 := mdR_rowB (v := v) (j := 2 + xx) (mdR_N d1 o2' s2 hmo) (by omega) ht hz
          rw [show 200 + (2 + xx) = 202 + xx by omega, hv] at d3
          rw [hv] at el ff
          rw [d3.1.1.2.2.2.1, if_pos rfl] at el
          have ebb : zm (bth (setB B (2 + xx) t (nI V))) t = true := by
            have : bth (setB B (2 + xx) t (nI V)) = bth B := by
              show (if 6 = 2 + xx ∧ 0 = t then nI V else B.1 6 0) = B.1 6 0
              rw [if_neg (by omega)]
            rw [this]; exact hz
          obtain ⟨S3, e5, f5, r5⟩ := ih _ (i + 2) (fun q => sn q || q == 10 + xx) (x ||| (1 <<< (nI xx &&& 31))) _ (by omega) d3 ebb (fun q h1 h2 => by
            rw [m_or_shl (by omega) (by omega), Bool.or_eq_true, Bool.or_eq_true, hx q h1 h2, decide_eq_true_iff, beq_iff_eq]
            constructor
            · rintro (h | h)
              · exact Or.inl h
              · exact Or.inr (by omega)
            · rintro (h | h)
              · exact Or.inl h
              · exact Or.inr (by omega))
          refine ⟨S3, lp_go el e5, fRb_tr ff f5, ?_⟩
          rw [show 10 + xx - 8 = 2 + xx by omega]
          exact r5
    · rw [if_neg y] at el ⊢
      have el2 : fX12_thingClause_b142 T 187 (nI (8 + t)) x (nI 4) S1 = some (.inl (x, 0, S1)) := by
        unfold fX12_thingClause_b142 fX12_thingClause_b153 fX12_thingClause_b182 fX12_thingClause_b201 fX12_thingClause_b217 fX12_thingClause_b218
        rw [if_pos (show 4 ≤ nI 4 by decide), if_pos rfl, if_pos rfl, if_pos rfl]
      rw [el2] at el
      exact ⟨S1, lp_go el (stop _ _), fRb_N (oN_P o1), d1⟩
end
