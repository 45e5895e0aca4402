/-! A BOOK READ TO ITS END, both sides: the loops -/
section
variable {X : TK} {m : Nat}
theorem bc_ok (hX : okX X m) (hL : ∀ i, X.1 i = 30 → X.2.1 i ≤ 7) {B : Bk} {big : Bool} {i k : Nat} (hk : k ≤ 60) (hb : big = false → B.2.length < 24) : (∀ f, bcS X B big i k = .inl f → okF f) ∧ ∀ p, bcS X B big i k = .inr p → okB B → okB p.2.2 ∧ p.2.2.2.length = B.2.length + 1 ∧ big = false := by
  have hP : ∀ c j, c ≤ 5 → okF (c, X.2.2.1 j) := fun c j hc => ⟨hc, hX.2.2.2.2.1 j⟩
  unfold bcS
  by_cases y : bIdx (X.1 i) = 7
  · rw [if_pos y]
    exact ⟨(fun f h => by cases h; exact hP 0 i (by decide)), fun p h => by cases h⟩
  · rw [if_neg y]
    by_cases z : big = true ∨ 3 ≤ bIdx (X.1 i) ∧ toldL B.2 (bIdx (X.1 i)) = true
    · rw [if_pos z]
      exact ⟨(fun f h => by cases h; exact hP 4 i (by decide)), fun p h => by cases h⟩
    · rw [if_neg z]
      have hbig : big = false := by cases big with
        | false => rfl
        | true => exact absurd (Or.inl rfl) z
      have h24 := hb hbig
      have once : ∀ low top fld idx, 1 ≤ fld ∧ fld ≤ 5 → 3 ≤ idx → (fld = 1 ∧ low = 1 ∧ top = 60 ∨ fld = 2 ∧ low = 0 ∧ top = 9999 ∨ fld = 3 ∧ low = 0 ∧ top = 1000) → (∀ f, onceS X B low top fld idx (i + 1) k = .inl f → okF f) ∧ ∀ p, onceS X B low top fld idx (i + 1) k = .inr p → okB B → okB p.2.2 ∧ p.2.2.2.length = B.2.length + 1 ∧ big = false := fun low top fld idx h1 h2 h3 => ⟨(bc_once hX h1 h2 h3).1, fun p hp hB => ⟨((bc_once hX h1 h2 h3).2 p hp hB h24).1, ((bc_once hX h1 h2 h3).2 p hp hB h24).2, hbig⟩⟩
      by_cases k0 : X.1 i = 0
      · rw [if_pos k0]
        unfold thS
        by_cases a1 : X.1 (i + 1) = 30
        · have h7 := hL _ a1
          rw [if_pos a1]
          by_cases a2 : zm (bth B) (X.2.1 (i + 1)) = true
          · rw [if_pos a2]
            exact ⟨(fun f h => by cases h; exact hP 5 _ (by decide)), fun p h => by cases h⟩
          · rw [if_neg a2]
            cases hn : numS X 1 9999 (i + 1 + 1) with
            | inl g => exact ⟨(fun f h => by cases h; exact numS_inl hX hn), fun p h => by cases h⟩
            | inr A =>
              obtain ⟨n1, n2, -⟩ := num_i hX hn
              show (∀ f, (match numS X 0 999 (i + 1 + 2) with
                | .inl f => (.inl f : BR)
                | .inr b => match exS X (X.2.1 (i + 1)) 400 (i + 1 + 3) (fun _ => false) (newT B (X.2.1 (i + 1)) A b) with
                  | .inl f => .inl f
                  | .inr p => .inr (p.1, k, addB p.2 (0, 0, 0, []))) = .inl f → okF f) ∧ ∀ p, (match numS X 0 999 (i + 1 + 2) with
                | .inl f => (.inl f : BR)
                | .inr b => match exS X (X.2.1 (i + 1)) 400 (i + 1 + 3) (fun _ => false) (newT B (X.2.1 (i + 1)) A b) with
                  | .inl f => .inl f
                  | .inr p => .inr (p.1, k, addB p.2 (0, 0, 0, []))) = .inr p → _
              cases hn2 : numS X 0 999 (i + 1 + 2) with
              | inl g => exact ⟨(fun f h => by cases h; exact numS_inl hX hn2), fun p h => by cases h⟩
              | inr Bn =>
                obtain ⟨-, n4, -⟩ := num_i hX hn2
                show (∀ f, (match exS X (X.2.1 (i + 1)) 400 (i + 1 + 3) (fun _ => false) (newT B (X.2.1 (i + 1)) A Bn) with
                  | .inl f => (.inl f : BR)
                  | .inr p => .inr (p.1, k, addB p.2 (0, 0, 0, []))) = .inl f → okF f) ∧ ∀ p, (match exS X (X.2.1 (i + 1)) 400 (i + 1 + 3) (fun _ => false) (newT B (X.2.1 (i + 1)) A Bn) with
                  | .inl f => (.inl f : BR)
                  | .inr p => .inr (p.1, k, addB p.2 (0, 0, 0, []))) = .inr p → _
                cases hr : exS X (X.2.1 (i + 1)) 400 (i + 1 + 3) (fun _ => false) (newT B (X.2.1 (i + 1)) A Bn) with
                | inl g => exact ⟨(fun f h => by cases h; exact okF_ex hX _ _ _ _ hr), fun p h => by cases h⟩
                | inr q =>
                  refine ⟨(fun f h => by cases h), fun p h hB => ?_⟩
                  cases h
                  have hl : q.2.2 = B.2 := exS_2 400 _ _ (newT B (X.2.1 (i + 1)) A Bn) q hr
                  have ho := ok_ex hX _ _ _ _ _ hr (okB_new hB (by omega) ⟨n1, n2⟩ n4)
                  refine ⟨okB_add ho (by rw [hl]; exact h24) (fun q => by have q' : 0 = 1 ∨ 0 = 2 := q; omega), ?_, hbig⟩
                  show (addB q.2 (0, 0, 0, [])).2.length = _
                  rw [len_add, hl]
        · rw [if_neg a1]
          exact ⟨(fun f h => by cases h; exact hP 0 _ (by decide)), fun p h => by cases h⟩
      · rw [if_neg k0]
        by_cases k1 : X.1 i = 1
        · rw [if_pos k1]
          unfold setS
          cases hr : ltS X (bth B) 400 (i + 1) 0 with
          | inl g => exact ⟨(fun f h => by cases h; exact okF_lt hX _ _ _ hr), fun p h => by cases h⟩
          | inr q =>
            show (∀ f, (if q.2 = 0 then (.inl (0, X.2.2.1 q.1) : BR) else if X.1 q.1 = 2 then earnS X B 1 q.2 (q.1 + 1) k else .inl (0, X.2.2.1 q.1)) = .inl f → okF f) ∧ ∀ p, (if q.2 = 0 then (.inl (0, X.2.2.1 q.1) : BR) else if X.1 q.1 = 2 then earnS X B 1 q.2 (q.1 + 1) k else .inl (0, X.2.2.1 q.1)) = .inr p → _
            by_cases c1 : q.2 = 0
            · rw [if_pos c1]
              exact ⟨(fun f h => by cases h; exact hP 0 _ (by decide)), fun p h => by cases h⟩
            · rw [if_neg c1]
              by_cases c2 : X.1 q.1 = 2
              · rw [if_pos c2]
                exact ⟨(fun f h => okF_earn hX h hk), fun p h hB => ⟨(ok_earn hX h hB h24).1, (ok_earn hX h hB h24).2, hbig⟩⟩
              · rw [if_neg c2]
                exact ⟨(fun f h => by cases h; exact hP 0 _ (by decide)), fun p h => by cases h⟩
        · rw [if_neg k1]
          by_cases k4 : X.1 i = 4
          · rw [if_pos k4]
            exact ⟨(fun f h => okF_earn hX h hk), fun p h hB => ⟨(ok_earn hX h hB h24).1, (ok_earn hX h hB h24).2, hbig⟩⟩
          · rw [if_neg k4]
            by_cases k5 : X.1 i = 5
            · rw [if_pos k5]
              exact once 0 1000 3 3 (by decide) (by decide) (by omega)
            · rw [if_neg k5]
              by_cases k6 : X.1 i = 6
              · rw [if_pos k6]
                unfold cousS
                cases hn : numS X 0 9999 (i + 1) with
                | inl g => exact ⟨(fun f h => by cases h; exact numS_inl hX hn), fun p h => by cases h⟩
                | inr V =>
                  obtain ⟨-, n2, -⟩ := num_i hX hn
                  show (∀ f, (if X.1 (i + 1 + 1) = 7 then (match numS X 1 60 (i + 1 + 2) with
                    | .inl f => (.inl f : BR)
                    | .inr w => .inr (i + 1 + 3, k, addB (setB (setB B 6 4 (nI V)) 6 5 (nI w)) (4, 0, 0, []))) else .inl (0, X.2.2.1 (i + 1 + 1))) = .inl f → okF f) ∧ ∀ p, (if X.1 (i + 1 + 1) = 7 then (match numS X 1 60 (i + 1 + 2) with
                    | .inl f => (.inl f : BR)
                    | .inr w => .inr (i + 1 + 3, k, addB (setB (setB B 6 4 (nI V)) 6 5 (nI w)) (4, 0, 0, []))) else .inl (0, X.2.2.1 (i + 1 + 1))) = .inr p → _
                  by_cases c2 : X.1 (i + 1 + 1) = 7
                  · rw [if_pos c2]
                    cases hn2 : numS X 1 60 (i + 1 + 2) with
                    | inl g => exact ⟨(fun f h => by cases h; exact numS_inl hX hn2), fun p h => by cases h⟩
                    | inr W =>
                      obtain ⟨m1, m2, -⟩ := num_i hX hn2
                      refine ⟨(fun f h => by cases h), fun p h hB => ?_⟩
                      cases h
                      refine ⟨okB_add (okB_f (okB_f hB (by decide) (Or.inr (Or.inr (Or.inr (Or.inl ⟨rfl, btw_n (by omega) (by omega) (by omega)⟩))))) (by decide) (Or.inr (Or.inr (Or.inr (Or.inr ⟨rfl, btw_n (by omega) (by omega) (by omega)⟩))))) h24 (fun q => by have q' : 4 = 1 ∨ 4 = 2 := q; omega), len_add, hbig⟩
                  · rw [if_neg c2]
                    exact ⟨(fun f h => by cases h; exact hP 0 _ (by decide)), fun p h => by cases h⟩
              · rw [if_neg k6]
                by_cases k8 : X.1 i = 8
                · rw [if_pos k8]
                  exact once 0 9999 2 5 (by decide) (by decide) (by omega)
                · rw [if_neg k8]
                  exact once 1 60 1 6 (by decide) (by decide) (by omega)
end
theorem book_both {T : zT} {u : Nat → Nat} {n m : Nat} (hC : cdT T 39) (hn4 : n ≤ 400) (hm : m ≤ n ∧ pl u n m = n ∧ ∀ i, i < m → pl u n i < n) : ∀ d S R i kk l e B, d + B.2.length = 25 → cB (tkX u n wB) m S i kk l B → rB u n m R i e kk B → okB B → ∃ v x R' F, lp (fun a => fX6_readBook_l18 T 2 24 a.1 a.2) (nI B.2.length, S) = some v ∧ lp (fun a => fX12_reads_l47 T 187 a.1 a.2.1 a.2.2) (nI B.2.length, 1, R) = some (x, R') ∧ fBc S (endS v) ∧ fRb R R' ∧ (endS v).1 2 5 = F ∧ R'.1 187 3 = F ∧ ((F = 0 ∧ ∃ B', okB B' ∧ bkC (endS v) 24 B' ∧ rbk R' B' ∧ (∃ e', e' ≤ 300 ∧ rcl R' e' B'.2) ∧ x = nI B'.2.length) ∨ ∃ f, okF f ∧ F = flt f) := by
  have hT := hC.1
  have hX := tkX_ok (w := wB) hn4 (Or.inl rfl) hm
  have eK : ∀ i, (tkX u n wB).1 i = (tok u n (pl u n i)).1 := fun i => rfl
  have eP : ∀ i, (tkX u n wB).2.2.1 i = pl u n i := fun i => rfl
  intro d
  induction d with
  | zero => intro S R i kk l e B hd _ _ hB; have := hB.2.2.2.2.2.2.2.1; omega
  | succ d ih =>
    intro S R i kk l e B hd hc hr hB
    have hL24 := hB.2.2.2.2.2.2.2.1
    have hk60 := hc.2.2.1
    have hu := txR_255 hr.1.1.1
    have hL : ∀ i, (tkX u n wB).1 i = 30 → (tkX u n wB).2.1 i ≤ 7 := tkX_L hu
    have hbb : decide (B.2.length = 24) = false → B.2.length < 24 := fun q => by have := of_decide_eq_false q; omega
    obtain ⟨S1, e1, f1, m1⟩ := c_bc hC hX rfl hL hc (decide (B.2.length = 24)) hbb (x4 := nI B.2.length)
    obtain ⟨R1, e2, f2, m2⟩ := r_bc hT hn4 hm hr hL24
    obtain ⟨k1, k2⟩ := bc_ok hX hL (B := B) (big := decide (B.2.length = 24)) (i := i) (k := kk) hk60 hbb
    have el : fX6_readBook_l18 T 2 24 (nI B.2.length) S = fX6_readBook_b184 T 2 24 (nI B.2.length) S1 := by
      unfold fX6_readBook_l18
      rw [if_neg (show ¬ 24 < nI B.2.length by rw [n_ltL (by omega) (by omega)]; omega), if_pos hc.1.2.2.2.1]
      by_cases z : B.2.length = 24
      · rw [if_neg (show ¬ nI B.2.length < 24 by rw [show (24 : Int32) = nI 24 from rfl, n_lt (by omega) (by omega)]; omega), ← e1, if_pos (decide_eq_true z)]
      · rw [if_pos (show nI B.2.length < 24 by rw [show (24 : Int32) = nI 24 from rfl, n_lt (by omega) (by omega)]; omega), ← e1, if_neg (show ¬ decide (B.2.length = 24) = true from fun q => z (of_decide_eq_true q))]
    have er : fX12_reads_l47 T 187 (nI B.2.length) 1 R = fX12_reads_b72 T 187 (nI B.2.length) R1 := by
      unfold fX12_reads_l47
      rw [if_neg n10, hr.1.1.2.1, if_pos (show nI 1 ≤ 1 by decide), e2, b_q]
    have stop : ∀ (x : Int32) (R' : zS), lp (fun a : Int32 × Int32 × zS => fX12_reads_l47 T 187 a.1 a.2.1 a.2.2) (x, 0, R') = some (x, R') := fun x R' => lp_stop (by show fX12_reads_l47 T 187 x 0 R' = _; unfold fX12_reads_l47; rw [if_pos rfl])
    have cstop : ∀ (x : Int32) (S' : zS), ¬ S'.1 2 5 = 0 → lp (fun a : Int32 × zS => fX6_readBook_l18 T 2 24 a.1 a.2) (x, S') = some (.inl S') := fun x S' q => lp_stop (by
      show fX6_readBook_l18 T 2 24 x S' = _
      unfold fX6_readBook_l18
      rw [if_neg q]
      split <;> rfl)
    cases hv : bcS (tkX u n wB) B (decide (B.2.length = 24)) i kk with
    | inl f =>
      rw [hv] at m1 m2
      have hf := k1 f hv
      have hF := flt_ok hf
      have m1' : pfC (tkX u n wB) m 39 S1 (flt f) := m1
      have m2' : pfR u n 1 1 R1 (flt f) := m2
      obtain ⟨R2, e3, o3, p3⟩ := r_tailF hT hF (by decide) m2' (x1 := nI B.2.length)
      rw [e3] at er
      have el' : fX6_readBook_l18 T 2 24 (nI B.2.length) S = some (.inr (.inr S1)) := by
        rw [el]
        unfold fX6_readBook_b184
        rw [c_endF hF m1', b_q, if_neg n10]
      exact ⟨.inr S1, _, R2, flt f, lp_stop el', lp_go er (stop _ _), f1, fRb_tr f2 (fRb_N o3), m1'.2.2.1, p3, Or.inr ⟨f, hf, rfl⟩⟩
    | inr p =>
      rw [hv] at m1 m2
      obtain ⟨l', c1⟩ := m1
      obtain ⟨e', r1⟩ := m2
      obtain ⟨hB', hlen, hbig⟩ := k2 p hv hB
      have hL' : B.2.length < 24 := hbb hbig
      obtain ⟨v, S2, e3, o3, m3⟩ := c_end0 hC hX c1.1
      obtain ⟨y, R2, e4, o4, m4⟩ := r_tail0 hT hm r1.1 (x1 := nI B.2.length)
      have fr2 := fRb_tr f2 (fRb_N o4)
      have fc2 := fBc_tr f1 (fBc_2 o3)
      have he' : e' ≤ 300 := by
        have q1 := r1.2.2.2.2.2.2
        have q2 := r1.2.2.2.2.2.1
        have := pl_le (u := u) (n := n) p.1
        omega
      have rux : rcl R2 e' p.2.2.2 := rcl_cg r1.2.2.2.1 (fun a b _ _ _ _ => o4.2 a b (by omega)) (fun a b _ _ => o4.2 a b (by omega)) (Nat.le_refl _)
      have rb2 : rbk R2 p.2.2 := rbk_cg r1.2.2.1 (fun a b _ _ => o4.2 a b (by omega))
      have ruc : bkC S2 24 p.2.2 := bkC_2 c1.2.2.2.1 o3
      rw [e4, n_addL] at er
      rw [eK] at m3
      by_cases a46 : (tok u n (pl u n p.1)).1 = 46
      · rw [if_pos a46] at m3 m4
        obtain ⟨rfl, rfl⟩ := m3
        obtain ⟨rfl, h3⟩ := m4
        have el' : fX6_readBook_l18 T 2 24 (nI B.2.length) S = some (.inr (.inr S2)) := by
          rw [el]
          unfold fX6_readBook_b184
          rw [e3, b_q, if_neg n10]
        exact ⟨.inr S2, _, R2, 0, lp_stop el', lp_go er (stop _ _), fc2, fr2, c1.1.2.2.2.1, h3, Or.inl ⟨rfl, p.2.2, hB', ruc, rb2, ⟨e', he', rux⟩, by rw [hlen]⟩⟩
      · rw [if_neg a46] at m3 m4
        obtain ⟨rfl, m3⟩ := m3
        have el' : fX6_readBook_l18 T 2 24 (nI B.2.length) S = some (.inl (nI (B.2.length + 1), S2)) := by
          rw [el]
          unfold fX6_readBook_b184
          rw [e3, b_q, if_pos rfl, n_addL, let_q]
        by_cases a33 : (tok u n (pl u n p.1)).1 = 33
        · rw [if_pos a33] at m3 m4
          obtain ⟨rfl, s4⟩ := m4
          have hmo := (pl_mono (u := u) (n := n) p.1).1
          have cr2 : cB (tkX u n wB) m S2 (p.1 + 1) p.2.1 l' p.2.2 := ⟨m3, by have := c1.2.1; omega, c1.2.2.1, ruc, tldL_cg c1.2.2.2.2 (o3.2 _ _ (by omega))⟩
          have rr2 : rB u n m R2 (p.1 + 1) e' p.2.1 p.2.2 := ⟨s4, by rw [o4.2 _ _ (by omega)]; exact r1.2.1, rb2, rux, r1.2.2.2.2.1, r1.2.2.2.2.2.1, by have := r1.2.2.2.2.2.2; omega⟩
          obtain ⟨w, x, R3, F, u1, u2, u3, u4, u5, u6, u7⟩ := ih S2 R2 (p.1 + 1) p.2.1 l' e' p.2.2 (by omega) cr2 rr2 hB'
          rw [hlen] at u1 u2
          exact ⟨w, x, R3, F, lp_go el' u1, lp_go er u2, fBc_tr fc2 u3, fRb_tr fr2 u4, u5, u6, u7⟩
        · rw [if_neg a33] at m3 m4
          obtain ⟨rfl, h3⟩ := m4
          have hf : okF (0, pl u n p.1) := ⟨by show 0 ≤ 5; decide, by have := pl_le (u := u) (n := n) p.1; show pl u n p.1 ≤ 400; omega⟩
          have hF := flt_ok hf
          rw [eP] at m3
          exact ⟨.inl S2, _, R2, _, lp_go el' (cstop _ _ (by rw [m3.2.2.1]; exact hF)), lp_go er (stop _ _), fc2, fr2, m3.2.2.1, h3, Or.inr ⟨_, hf, rfl⟩⟩
