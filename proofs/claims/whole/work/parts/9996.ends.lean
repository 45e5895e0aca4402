/-! BEHIND A CLAUSE, both sides -/
section
variable {T : zT} {X : TK} {m kc : Nat}
theorem c_endF {F : Int32} (hF : ¬ F = 0) {S : zS} (h : pfC X m kc S F) : fX6_isAtEnd T 2 S = some (1, S) := by
  unfold fX6_isAtEnd fX6_isAtEnd_b16
  rw [h.2.2.1, if_neg hF]
theorem c_end0 (hC : cdT T kc) (hX : okX X m) {S : zS} {i k l : Nat} (h : stC X m kc S i k l) : ∃ v S', fX6_isAtEnd T 2 S = some (v, S') ∧ o2 S S' ∧ if X.1 i = 46 then v = 1 ∧ S' = S else v = 0 ∧ if X.1 i = 33 then stC X m kc S' (i + 1) k l else pfC X m kc S' (flt (0, X.2.2.1 i)) := by
  have hb := hX.2.2.2.2.2.2.2 i
  unfold fX6_isAtEnd fX6_isAtEnd_b16
  rw [h.2.2.2.1, if_pos rfl, h.2.2.1.2.1]
  by_cases y : X.1 i = 46
  · rw [if_pos (show nI (X.1 i) = 46 by rw [y]; rfl)]
    exact ⟨1, S, rfl, o2_refl, by rw [if_pos y]; exact ⟨rfl, rfl⟩⟩
  · rw [if_neg (show ¬ nI (X.1 i) = 46 by rw [nI_eqL (show (46 : Int32) = nI 46 from rfl) (by omega) (by decide)]; exact y)]
    obtain ⟨S', e, o, r⟩ := c_exp hC hX h (q := 33) (by decide)
    have e' : fX6_expect T 2 33 S = some ((), S') := e
    rw [e', b_q]
    exact ⟨0, S', rfl, o, by rw [if_neg y]; exact ⟨rfl, r⟩⟩
end
section
variable {T : zT} {u : Nat → Nat} {n s m : Nat}
theorem r_tailF (hT : iT T) {F : Int32} (hF : ¬ F = 0) {S : zS} {c : Nat} (hc : c ≤ 1000) (h : pfR u n s c S F) {x1 : Int32} : ∃ S', fX12_reads_b72 T 187 x1 S = some (.inl (x1 + 1, 0, S')) ∧ oN S S' ∧ S'.1 187 3 = F := by
  obtain ⟨S1, e1, o1, p1⟩ := pr_blanks hT hc h
  unfold fX12_reads_b72 fX12_reads_b115 fX12_reads_b137 fX12_reads_b138
  rw [let_q, e1, b_q, p1.2.2, if_neg hF, if_neg hF, let_q]
  exact ⟨_, rfl, oN_tr (oN_P o1) (oN_z (Or.inl rfl)), by rw [zI_eqn (by decide)]; exact p1.2.2⟩
theorem r_tail0 (hT : iT T) (hm : m ≤ n ∧ pl u n m = n ∧ ∀ i, i < m → pl u n i < n) {S : zS} {i e k : Nat} (h : stR u n s m S i e k) {x1 : Int32} : ∃ y S', fX12_reads_b72 T 187 x1 S = some (.inl (x1 + 1, y, S')) ∧ oN S S' ∧ if (tok u n (pl u n i)).1 = 46 then y = 0 ∧ S'.1 187 3 = 0 else if (tok u n (pl u n i)).1 = 33 then y = 1 ∧ stR u n s m S' (i + 1) e k else y = 0 ∧ S'.1 187 3 = flt (0, pl u n i) := by
  obtain ⟨S1, e1, o1, p1, s1⟩ := st_blanks hT h
  have hu := txR_255 s1.1.1
  have hn := s1.1.1.1
  have hple := pl_le (u := u) (n := n) i
  have h3 := s1.2.2.2.1
  have hi59 := sg_iff (u := u) (n := n) (p := pl u n i) hu (c := 59) (k := 33) (by omega)
  have hle : ((S1.1 187 1) ≤ (S1.1 187 2)) = (n ≤ pl u n i) := by rw [s1.1.1.2.1, p1, n_le (by omega) (by omega)]
  unfold fX12_reads_b72
  rw [let_q, e1, b_q, h3, if_pos rfl, r_sign hT s1.1.1 p1 (by omega), b1_q]
  by_cases y : (tok u n (pl u n i)).1 = 46
  · have hnp : n ≤ pl u n i := by
      apply Classical.byContradiction
      intro q
      exact (tok_r (u := u) (n := n) (i := pl u n i) (by omega)).1 y
    rw [if_pos (show (S1.1 187 1) ≤ (S1.1 187 2) by rw [hle]; exact hnp)]
    unfold fX12_reads_b115 fX12_reads_b137 fX12_reads_b138
    rw [h3, if_pos rfl, if_pos (show (S1.1 187 1) ≤ (S1.1 187 2) by rw [hle]; exact hnp), let_q]
    exact ⟨_, _, rfl, oN_tr (oN_P o1) (oN_z (Or.inl rfl)), by rw [if_pos y]; exact ⟨rfl, by rw [zI_eqn (by decide)]; exact h3⟩⟩
  · have hnp : pl u n i < n := by
      apply Classical.byContradiction
      intro q
      exact y (by rw [tok_end (by omega)])
    have hnle : ¬ (S1.1 187 1) ≤ (S1.1 187 2) := by rw [hle]; omega
    rw [if_neg hnle]
    by_cases z : (tok u n (pl u n i)).1 = 33
    · obtain ⟨t1, t2, t3, t4⟩ := tok_sg (u := u) (n := n) (p := pl u n i) (by omega)
      rw [if_pos (show chI u n (pl u n i) = 59 from hi59.mpr z)]
      unfold fX12_reads_b115 fX12_reads_b138
      rw [h3, if_pos rfl, if_neg hnle, p1, n_addL, let_q]
      exact ⟨_, _, rfl, oN_tr (oN_P o1) (oN_z (Or.inl rfl)), by rw [if_neg y, if_pos z]; exact ⟨rfl, st_step s1 p1 t3 hnp (i_lt hm hnp)⟩⟩
    · rw [if_neg (show ¬ chI u n (pl u n i) = 59 from fun q => z (hi59.mp q)), p1]
      have ef : fX12_fails T 187 0 (nI (pl u n i)) S1 = some ((), zI S1 187 3 (flt (0, pl u n i))) := r_fails0 h3 (c := 0)
      have hF : ¬ flt (0, pl u n i) = 0 := flt_0 (show pl u n i ≤ 400 by omega) (show 0 ≤ 7 by decide)
      rw [ef, b_q]
      unfold fX12_reads_b115 fX12_reads_b137 fX12_reads_b138
      rw [zI_eqs, if_neg hF, let_q]
      exact ⟨_, _, rfl, oN_tr (oN_P o1) (oN_tr (oN_z (Or.inr rfl)) (oN_z (Or.inl rfl))), by rw [if_neg y, if_neg z]; exact ⟨rfl, by rw [zI_eqn (by decide), zI_eqs]⟩⟩
end
/-! A RULE READ TO ITS END -/
theorem rc_kind {X : TK} {m : Nat} (hX : okX X m) {i : Nat} (h : ¬ (¬ X.1 i = 14 ∧ ¬ X.1 i = 15)) : i < m := by
  apply Classical.byContradiction
  intro q
  have := (hX.2.1 i).mpr (by omega)
  exact h ⟨by omega, by omega⟩
theorem okF_rc {X : TK} {m : Nat} (hX : okX X m) {big told : Bool} {i k : Nat} {f : Nat × Nat} (hk : k ≤ 60) (h : rcS X big told i k = .inl f) : okF f := by
  have hP := hX.2.2.2.2.1 i
  unfold rcS at h
  by_cases y : ¬ X.1 i = 14 ∧ ¬ X.1 i = 15
  · rw [if_pos y] at h
    cases h
    exact ⟨by show 0 ≤ 5; decide, hP⟩
  · rw [if_neg y] at h
    have him := rc_kind hX y
    by_cases z : big = true ∨ X.1 i = 15 ∧ told = true
    · rw [if_pos z] at h
      cases h
      exact ⟨by show 4 ≤ 5; decide, hP⟩
    · rw [if_neg z] at h
      by_cases v : X.1 i = 15
      · rw [if_pos v] at h
        cases hn : numS X 0 9999 (i + 1) with
        | inl f' =>
          rw [hn] at h
          cases h
          exact numS_inl hX hn
        | inr w => rw [hn] at h; cases h
      · rw [if_neg v] at h
        cases hs : sumS X (i + 1) k with
        | inl f' =>
          rw [hs] at h
          cases h
          exact okF_sum hX hs
        | inr p =>
          obtain ⟨j, k1, c1⟩ := p
          obtain ⟨g1, g2, g3, g4, g5, g6, g7, g8⟩ := gS_sum hX (by omega) (by omega) hs
          rw [hs] at h
          have h' : (match ifS X j k1 with
            | .inl f => (.inl f : (Nat × Nat) ⊕ (Nat × Nat × Rc))
            | .inr q => .inr (q.1, q.2.1, (0, 0, c1, q.2.2))) = .inl f := h
          cases hi : ifS X j k1 with
          | inl f' =>
            rw [hi] at h'
            cases h'
            exact okF_if hX g2 hi
          | inr q => rw [hi] at h'; cases h'
theorem okRc_rc {X : TK} {m : Nat} (hX : okX X m) (hw : X.2.2.2 = wR) {big told : Bool} {i k : Nat} {p : Nat × Nat × Rc} (hk : k ≤ 60) (h : rcS X big told i k = .inr p) : okRc p.2.2 ∧ big = false := by
  unfold rcS at h
  by_cases y : ¬ X.1 i = 14 ∧ ¬ X.1 i = 15
  · rw [if_pos y] at h; cases h
  · rw [if_neg y] at h
    have him := rc_kind hX y
    by_cases z : big = true ∨ X.1 i = 15 ∧ told = true
    · rw [if_pos z] at h; cases h
    · rw [if_neg z] at h
      refine ⟨?_, by cases big with
        | false => rfl
        | true => exact absurd (Or.inl rfl) z⟩
      by_cases v : X.1 i = 15
      · rw [if_pos v] at h
        cases hn : numS X 0 9999 (i + 1) with
        | inl f' => rw [hn] at h; cases h
        | inr w =>
          obtain ⟨a1, a2, -, -⟩ := numS_inr hX hn
          rw [hn] at h
          cases h
          refine ⟨by show 1 ≤ 1; decide, ?_, fun q => absurd q (by show ¬ 1 = 0; decide)⟩
          show (0 : Int) ≤ (nI w).toInt ∧ (nI w).toInt ≤ 9999
          rw [nI_toInt (by omega)]; omega
      · rw [if_neg v] at h
        cases hs : sumS X (i + 1) k with
        | inl f' => rw [hs] at h; cases h
        | inr p' =>
          obtain ⟨j, k1, c1⟩ := p'
          obtain ⟨g1, g2, g3, g4, g5, g6, g7, g8⟩ := gS_sum hX (by omega) (by omega) hs
          rw [hs] at h
          have h' : (match ifS X j k1 with
            | .inl f => (.inl f : (Nat × Nat) ⊕ (Nat × Nat × Rc))
            | .inr q => .inr (q.1, q.2.1, (0, 0, c1, q.2.2))) = .inr p := h
          cases hi : ifS X j k1 with
          | inl f' => rw [hi] at h'; cases h'
          | inr q =>
            obtain ⟨j2, k2, c2⟩ := q
            obtain ⟨x1, x2, x3, x4, x5, x6, x7, x8, x9⟩ := ifS_ok hX g2 g4 hi
            rw [hi] at h'
            cases h'
            rw [hw] at g5 x5
            refine ⟨by show 0 ≤ 1; decide, by show (0 : Int) ≤ (0 : Int32).toInt ∧ (0 : Int32).toInt ≤ 9999; decide, fun _ => ⟨g5, by show nvs c1 ≤ 60; omega, ?_⟩⟩
            rcases x5 with x5 | x5
            · exact Or.inl x5
            · exact Or.inr ⟨x5, by show nvs c2 ≤ 60; omega⟩
theorem toldR_k {L : List Rc} (h : okRu L) : ∀ c, c ∈ L → c.1 ≤ 1 := fun c hc => (h.2 c hc).1
theorem rul_both {T : zT} {u : Nat → Nat} {n s m k : Nat} (hC : cdT T (k + 3)) (hk0 : zr T k 0 = k + 1) (hk1 : zr T k 1 = k + 2) (hk7 : 7 ≤ k) (hs2 : 2 ≤ s) (hs7 : s ≤ 7) (hn4 : n ≤ 400) (hm : m ≤ n ∧ pl u n m = n ∧ ∀ i, i < m → pl u n i < n) : ∀ d L S R i kk l e, d + L.length = 13 → cR (tkX u n wR) m k S i kk l L → rR u n s m R i e kk L → okRu L → ∃ v x R' F, lp (fun a => fX6_readRule_l18 T 2 k a.1 a.2) (nI L.length, S) = some v ∧ lp (fun a => fX12_reads_l47 T 187 a.1 a.2.1 a.2.2) (nI L.length, 1, R) = some (x, R') ∧ fRc k S (endS v) ∧ fRr s R R' ∧ (endS v).1 2 5 = F ∧ R'.1 187 3 = F ∧ ((F = 0 ∧ ∃ L', okRu L' ∧ ruC (endS v) k L' ∧ (∃ e', e' ≤ 300 ∧ ruX R' s e' L') ∧ x = nI L'.length) ∨ ∃ f, okF f ∧ F = flt f) := by
  have hT := hC.1
  have hX := tkX_ok (w := wR) hn4 (Or.inr rfl) hm
  have eK : ∀ i, (tkX u n wR).1 i = (tok u n (pl u n i)).1 := fun i => rfl
  have eP : ∀ i, (tkX u n wR).2.2.1 i = pl u n i := fun i => rfl
  intro d
  induction d with
  | zero => intro L S R i kk l e hd _ _ hL; have := hL.1; omega
  | succ d ih =>
    intro L S R i kk l e hd hc hr hL
    have hL12 := hL.1
    have hk60 := hc.2.2.1
    obtain ⟨S1, e1, f1, m1⟩ := c_rc hC hk0 hk1 hk7 hX rfl hc (decide (L.length = 12)) (fun q => by have := of_decide_eq_false q; omega) hL12 (x4 := nI L.length)
    obtain ⟨R1, e2, f2, m2⟩ := r_rc hT hs2 hn4 hm hr hL12 (toldR_k hL)
    have el : fX6_readRule_l18 T 2 k (nI L.length) S = fX6_readRule_b84 T 2 k (nI L.length) S1 := by
      unfold fX6_readRule_l18
      rw [if_neg (show ¬ 12 < nI L.length by rw [n_ltL (by omega) (by omega)]; omega), if_pos hc.1.2.2.2.1]
      by_cases z : L.length = 12
      · rw [if_neg (show ¬ nI L.length < 12 by rw [show (12 : Int32) = nI 12 from rfl, n_lt (by omega) (by omega)]; omega), ← e1, if_pos (decide_eq_true z)]
      · rw [if_pos (show nI L.length < 12 by rw [show (12 : Int32) = nI 12 from rfl, n_lt (by omega) (by omega)]; omega), ← e1, if_neg (show ¬ decide (L.length = 12) = true from fun q => z (of_decide_eq_true q))]
    have er : fX12_reads_l47 T 187 (nI L.length) 1 R = fX12_reads_b72 T 187 (nI L.length) R1 := by
      unfold fX12_reads_l47
      rw [if_neg n10, hr.1.1.2.1, if_neg (show ¬ nI s ≤ 1 by rw [show (1 : Int32) = nI 1 from rfl, n_le (by omega) (by omega)]; omega), e2, b_q]
    have stop : ∀ (x : Int32) (R' : zS), lp (fun a : Int32 × Int32 × zS => fX12_reads_l47 T 187 a.1 a.2.1 a.2.2) (x, 0, R') = some (x, R') := fun x R' => lp_stop (by show fX12_reads_l47 T 187 x 0 R' = _; unfold fX12_reads_l47; rw [if_pos rfl])
    have cstop : ∀ (x : Int32) (S' : zS), ¬ S'.1 2 5 = 0 → lp (fun a : Int32 × zS => fX6_readRule_l18 T 2 k a.1 a.2) (x, S') = some (.inl S') := fun x S' q => lp_stop (by
      show fX6_readRule_l18 T 2 k x S' = _
      unfold fX6_readRule_l18
      rw [if_neg q]
      split <;> rfl)
    cases hv : rcS (tkX u n wR) (decide (L.length = 12)) (toldR L) i kk with
    | inl f =>
      rw [hv] at m1 m2
      have hf := okF_rc hX hk60 hv
      have hF := flt_ok hf
      obtain ⟨R2, e3, o3, p3⟩ := r_tailF hT hF (by decide) m2 (x1 := nI L.length)
      rw [e3] at er
      have el' : fX6_readRule_l18 T 2 k (nI L.length) S = some (.inr (.inr S1)) := by
        rw [el]
        unfold fX6_readRule_b84
        rw [c_endF hF m1, b_q, if_neg n10]
      exact ⟨.inr S1, _, R2, flt f, lp_stop el', lp_go er (stop _ _), f1, fRr_tr f2 (fRr_T (oT_S (oN_S o3))), m1.2.2.1, p3, Or.inr ⟨f, hf, rfl⟩⟩
    | inr p =>
      rw [hv] at m1 m2
      obtain ⟨l', c1⟩ := m1
      obtain ⟨e', r1⟩ := m2
      obtain ⟨okc, hbig⟩ := okRc_rc hX rfl hk60 hv
      have hL' : L.length < 12 := by have := of_decide_eq_false hbig; omega
      have hLL : okRu (L ++ [p.2.2]) := ⟨by rw [List.length_append]; show L.length + 1 ≤ 12; omega, fun c hc => by
        rcases List.mem_append.mp hc with hc | hc
        · exact hL.2 c hc
        · rw [List.mem_singleton.mp hc]; exact okc⟩
      have hlen : (L ++ [p.2.2]).length = L.length + 1 := by rw [List.length_append]; rfl
      obtain ⟨v, S2, e3, o3, m3⟩ := c_end0 hC hX c1.1
      obtain ⟨y, R2, e4, o4, m4⟩ := r_tail0 hT hm r1.1 (x1 := nI L.length)
      have fr2 := fRr_tr f2 (fRr_T (oT_S (oN_S o4)))
      have fc2 := fRc_tr f1 (fRc_2 (k := k) o3)
      have he' : e' ≤ 300 := by
        have q1 := r1.2.2.2.2
        have q2 := r1.2.2.2.1
        have := pl_le (u := u) (n := n) p.1
        omega
      have rux : ruX R2 s e' (L ++ [p.2.2]) := ruX_cg r1.2.2.1 (fun a b _ _ _ _ => o4.2 a b (by omega)) (fun a b _ _ => o4.2 a b (by omega)) (Nat.le_refl _)
      have ruc : ruC S2 k (L ++ [p.2.2]) := ruC_cg (fun a b _ _ => o3.2 a b (by omega)) c1.2.2.2.1
      rw [e4, n_addL] at er
      rw [eK] at m3
      by_cases a46 : (tok u n (pl u n p.1)).1 = 46
      · rw [if_pos a46] at m3 m4
        obtain ⟨rfl, rfl⟩ := m3
        obtain ⟨rfl, h3⟩ := m4
        have el' : fX6_readRule_l18 T 2 k (nI L.length) S = some (.inr (.inr S2)) := by
          rw [el]
          unfold fX6_readRule_b84
          rw [e3, b_q, if_neg n10]
        exact ⟨.inr S2, _, R2, 0, lp_stop el', lp_go er (stop _ _), fc2, fr2, c1.1.2.2.2.1, h3, Or.inl ⟨rfl, _, hLL, ruc, ⟨e', he', rux⟩, by rw [hlen]⟩⟩
      · rw [if_neg a46] at m3 m4
        obtain ⟨rfl, m3⟩ := m3
        have el' : fX6_readRule_l18 T 2 k (nI L.length) S = some (.inl (nI (L.length + 1), S2)) := by
          rw [el]
          unfold fX6_readRule_b84
          rw [e3, b_q, if_pos rfl, n_addL, let_q]
        by_cases a33 : (tok u n (pl u n p.1)).1 = 33
        · rw [if_pos a33] at m3 m4
          obtain ⟨rfl, s4⟩ := m4
          have hmo := (pl_mono (u := u) (n := n) p.1).1
          have cr2 : cR (tkX u n wR) m k S2 (p.1 + 1) p.2.1 l' (L ++ [p.2.2]) := ⟨m3, by have := c1.2.1; omega, c1.2.2.1, ruc, by
            unfold tldC
            rw [o3.2 _ _ (by omega)]; exact c1.2.2.2.2⟩
          have rr2 : rR u n s m R2 (p.1 + 1) e' p.2.1 (L ++ [p.2.2]) := ⟨s4, by rw [o4.2 _ _ (by omega)]; exact r1.2.1, rux, r1.2.2.2.1, by have := r1.2.2.2.2; omega⟩
          obtain ⟨w, x, R3, F, u1, u2, u3, u4, u5, u6, u7⟩ := ih (L ++ [p.2.2]) S2 R2 (p.1 + 1) p.2.1 l' e' (by omega) cr2 rr2 hLL
          rw [hlen] at u1 u2
          exact ⟨w, x, R3, F, lp_go el' u1, lp_go er u2, fRc_tr fc2 u3, fRr_tr fr2 u4, u5, u6, u7⟩
        · rw [if_neg a33] at m3 m4
          obtain ⟨rfl, h3⟩ := m4
          have hf : okF (0, pl u n p.1) := ⟨by show 0 ≤ 5; decide, by have := pl_le (u := u) (n := n) p.1; show pl u n p.1 ≤ 400; omega⟩
          have hF := flt_ok hf
          rw [eP] at m3
          exact ⟨.inl S2, _, R2, _, lp_go el' (cstop _ _ (by rw [m3.2.2.1]; exact hF)), lp_go er (stop _ _), fc2, fr2, m3.2.2.1, h3, Or.inr ⟨_, hf, rfl⟩⟩
