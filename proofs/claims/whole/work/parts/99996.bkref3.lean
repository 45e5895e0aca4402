/-! SETS, NEEDS AND COUSINS, by the reference -/
section
variable {T : zT} {u : Nat → Nat} {n m : Nat}
theorem mdR_row {S : zS} {i e kk kd a : Nat} {B : Bk} {x : Int32} (h : mdR u n m S i e kk B kd) (ha : a = 193 ∨ a = 194) : mdR u n m (zI S a (24 + B.2.length) x) i e kk B kd := by
  obtain ⟨⟨h1, h2, h3, h4, h5, h6, h7⟩, h8, h9⟩ := h
  exact ⟨⟨stR_V h1 (oV_z (by omega)), by rw [zI_ne (by omega)]; exact h2, rbk_cg h3 (fun c b _ _ => zI_ne (by omega)), rcl_cg h4 (fun c b _ _ _ q => zI_o (by omega)) (fun c b _ _ => zI_ne (by omega)) (Nat.le_refl _), h5, h6, h7⟩, by rw [zI_ne (by omega)]; exact h8, by rw [zI_ne (by omega)]; exact h9⟩
theorem mdR_196 {S : zS} {i e kk kd : Nat} {B : Bk} (h : mdR u n m S i e kk B kd) : zI S 196 (24 + B.2.length) (S.1 187 6) = S := by
  have e1 : S.1 187 6 = S.1 196 (24 + B.2.length) := by rw [h.2.2]; exact h.1.1.2.2.2.2.1
  rw [e1]
  exact zI_self
theorem r_need (hT : iT T) (hn4 : n ≤ 400) (hm : m ≤ n ∧ pl u n m = n ∧ ∀ i, i < m → pl u n i < n) {S : zS} {i e kk kd : Nat} {B : Bk} {x : Int32} (h : mdR u n m S i e kk B kd) (h24 : B.2.length < 24) (hkd : kd = 1 ∨ kd = 2) (hx1 : kd = 1 → S.1 193 (24 + B.2.length) = x) (hx2 : kd = 2 → x = 0) : ∃ v S1 S2 S', fX12_amount T 187 0 9999 S = some (v, S1) ∧ fX12_ifTest T 187 (zI S1 194 (24 + B.2.length) v) = some ((), S2) ∧ fX12_bookClause_b177 T 187 (nI (24 + B.2.length)) S2 = some ((), S') ∧ bbR u n m S (earnS (tkX u n wB) B kd x i kk) S' ∧ (zI S1 194 (24 + B.2.length) v = zI (zI S1 194 (24 + B.2.length) v) 196 (24 + B.2.length) ((zI S1 194 (24 + B.2.length) v).1 187 6) ∨ ¬ (zI S1 194 (24 + B.2.length) v).1 187 3 = 0 ∧ pfR u n 1 1 (zI S1 194 (24 + B.2.length) v) ((zI S1 194 (24 + B.2.length) v).1 187 3) ∧ earnS (tkX u n wB) B kd x i kk = .inl (0, 0) ∧ False ∨ ∃ f, numS (tkX u n wB) 0 9999 i = .inl f ∧ okF f ∧ pfR u n 1 1 (zI S1 194 (24 + B.2.length) v) (flt f)) := by
  have hX := tkX_ok (w := wB) hn4 (Or.inl rfl) hm
  obtain ⟨v, S1, e1, o1, r1⟩ := r_nm (w := wB) hT h.1.1 hm (low := 0) (top := 9999) (by decide) (by decide)
  have e1' : fX12_amount T 187 0 9999 S = some (v, S1) := e1
  unfold earnS
  cases hn : numS (tkX u n wB) 0 9999 i with
  | inl f =>
    rw [hn] at r1
    have hf := numS_inl hX hn
    have hF := flt_ok hf
    have p2 : pfR u n 1 0 (zI S1 194 (24 + B.2.length) v) (flt f) := pfR_V r1 (oV_z (by omega))
    obtain ⟨S', e3, f3, p3⟩ := r_b177F hT p2 (by decide) h24
    exact ⟨v, S1, _, S', e1', pr_if hF p2, e3, ⟨fRb_tr (fRb_N o1) (fRb_tr (fRb_z (by omega)) f3), p3⟩, Or.inr (Or.inr ⟨f, rfl, hf, pfR_le p2 (by decide)⟩)⟩
  | inr V =>
    rw [hn] at r1
    obtain ⟨hv, s1⟩ := r1
    obtain ⟨n1, n2, n3⟩ := num_i hX hn
    have h1 := mdR_row (x := v) (a := 194) (mdR_N h o1 s1 (pl_go i)) (Or.inr rfl)
    obtain ⟨S2, S', e2, e3, f3, r3⟩ := r_ifend (x := x) (v := nI V) hT hn4 hm h1 n3 h24 hkd (by rw [zI_eqs]; exact hv) (fun q => by rw [zI_ne (by decide), o1.2 _ _ (by omega)]; exact hx1 q) hx2
    refine ⟨v, S1, S2, S', e1', e2, e3, ⟨fRb_tr (fRb_N o1) (fRb_tr (fRb_z (by omega)) f3), ?_⟩, Or.inl (mdR_196 h1).symm⟩
    show match (match ifS (tkX u n wB) (i + 1) kk with
      | .inl f => (.inl f : BR)
      | .inr q => .inr (q.1, q.2.1, addB B (kd, x, nI V, q.2.2))) with
      | .inl f => pfR u n 1 1 S' (flt f)
      | .inr p => ∃ e', rB u n m S' p.1 e' p.2.1 p.2.2
    cases hv2 : ifS (tkX u n wB) (i + 1) kk with
    | inl f => rw [hv2] at r3; exact r3
    | inr q => rw [hv2] at r3; exact r3
/-- the tail of a set, behind a fault -/
theorem r_b113F (hT : iT T) {S : zS} {F : Int32} (hF : ¬ F = 0) (h : pfR u n 1 1 S F) {L : Nat} (hL : L < 24) {x : Int32} : ∃ S2 S', fX12_setClause_b113 T 187 (nI (24 + L)) x S = some ((), S2) ∧ fX12_bookClause_b177 T 187 (nI (24 + L)) S2 = some ((), S') ∧ fRb S S' ∧ pfR u n 1 1 S' F := by
  have p1 : pfR u n 1 1 (zI S 193 (24 + L) x) F := pfR_V h (oV_z (by omega))
  obtain ⟨S1, e1, o1, p2⟩ := pr_num hT (by decide) hF p1 (low := 0) (top := 9999)
  have p3 : pfR u n 1 1 (zI (zI S1 194 (24 + L) 0) 196 (24 + L) ((zI S1 194 (24 + L) 0).1 187 6)) F := pfR_V (pfR_V p2 (oV_z (by omega))) (oV_z (by omega))
  obtain ⟨S', e3, f3, p4⟩ := r_b177F hT p3 (by decide) hL
  refine ⟨_, S', ?_, e3, fRb_tr (fRb_z (by omega)) (fRb_tr (fRb_N o1) (fRb_tr (fRb_z (by omega)) (fRb_tr (fRb_z (by omega)) f3))), p4⟩
  unfold fX12_setClause_b113
  rw [g_in (by omega) (by decide), zT_187_16 hT, tn_nI (by omega), let_q, e1, b_q, g_in (by omega) (by decide), zT_187_17 hT, let_q, g_in (by omega) (by decide), zT_187_19 hT, let_q, pr_if hF p3, b_q]
theorem r_b113 (hT : iT T) (hn4 : n ≤ 400) (hm : m ≤ n ∧ pl u n m = n ∧ ∀ i, i < m → pl u n i < n) {S : zS} {i e kk : Nat} {B : Bk} {x : Int32} (h : mdR u n m S i e kk B 1) (h24 : B.2.length < 24) : ∃ S2 S', fX12_setClause_b113 T 187 (nI (24 + B.2.length)) x S = some ((), S2) ∧ fX12_bookClause_b177 T 187 (nI (24 + B.2.length)) S2 = some ((), S') ∧ bbR u n m S (earnS (tkX u n wB) B 1 x i kk) S' := by
  have h1 := mdR_row (x := x) (a := 193) h (Or.inl rfl)
  have hz : fRb S (zI S 193 (24 + B.2.length) x) := fRb_z (by omega)
  obtain ⟨v, S1, S2, S', e1, e2, e3, r3, hc⟩ := r_need (x := x) hT hn4 hm h1 h24 (Or.inl rfl) (fun _ => by rw [zI_eqs]) (fun q => absurd q (by decide))
  unfold fX12_setClause_b113
  rw [g_in (by omega) (by decide), zT_187_16 hT, tn_nI (by omega), let_q, e1, b_q, g_in (by omega) (by decide), zT_187_17 hT, let_q, g_in (by omega) (by decide), zT_187_19 hT, let_q]
  rcases hc with hc | ⟨-, -, -, hc⟩ | ⟨f, hn, hf, p⟩
  · rw [← hc, e2, b_q]
    exact ⟨S2, S', rfl, e3, fRb_tr hz r3.1, r3.2⟩
  · exact hc.elim
  · have hF := flt_ok hf
    have p3 : pfR u n 1 1 (zI (zI S1 194 (24 + B.2.length) v) 196 (24 + B.2.length) ((zI S1 194 (24 + B.2.length) v).1 187 6)) (flt f) := pfR_V p (oV_z (by omega))
    obtain ⟨S3, e4, f4, p4⟩ := r_b177F hT p3 (by decide) h24
    obtain ⟨o1, -⟩ : oN (zI S 193 (24 + B.2.length) x) S1 ∧ True := by
      obtain ⟨v', S1', e1', o1', -⟩ := r_nm (w := wB) hT h1.1.1 hm (low := 0) (top := 9999) (by decide) (by decide)
      have e1'' : fX12_amount T 187 0 9999 (zI S 193 (24 + B.2.length) x) = some (v', S1') := e1'
      rw [e1] at e1''
      cases e1''
      exact ⟨o1', trivial⟩
    rw [pr_if hF p3, b_q]
    refine ⟨_, S3, rfl, e4, fRb_tr hz (fRb_tr (fRb_N o1) (fRb_tr (fRb_z (by omega)) (fRb_tr (fRb_z (by omega)) f4))), ?_⟩
    unfold earnS
    rw [hn]
    exact p4
theorem r_set (hT : iT T) (hn4 : n ≤ 400) (hm : m ≤ n ∧ pl u n m = n ∧ ∀ i, i < m → pl u n i < n) {S : zS} {i e kk : Nat} {B : Bk} (h : mdR u n m S i e kk B 1) (h1 : 1 ≤ i) (h24 : B.2.length < 24) : ∃ S2 S', fX12_setClause T 187 (nI (24 + B.2.length)) S = some ((), S2) ∧ fX12_bookClause_b177 T 187 (nI (24 + B.2.length)) S2 = some ((), S') ∧ bbR u n m S (setS (tkX u n wB) B i kk) S' := by
  have hX := tkX_ok (w := wB) hn4 (Or.inl rfl) hm
  have eK : ∀ i, (tkX u n wB).1 i = (tok u n (pl u n i)).1 := fun i => rfl
  have eV : ∀ i, (tkX u n wB).2.1 i = (tok u n (pl u n i)).2.1 := fun i => rfl
  have eP : ∀ i, (tkX u n wB).2.2.1 i = pl u n i := fun i => rfl
  obtain ⟨S1, e1, o1, p1, s1⟩ := r_letter hT h.1.1
  have hu := txR_255 s1.1.1
  have d1 := mdR_P h o1 s1
  obtain ⟨y, S2, e2, o2', r2⟩ := r_lt (L := 24 + B.2.length) hT hn4 hm 400 S1 i 0 (by have := hX.1; omega) d1 p1
  have f2 := fRb_tr (fRb_N (oN_P o1)) (fRb_N o2')
  have hle := pl_le (u := u) (n := n) i
  have hPl : ∀ j, okF (0, pl u n j) := fun j => ⟨by show 0 ≤ 5; decide, by have := pl_le (u := u) (n := n) j; show pl u n j ≤ 400; omega⟩
  unfold fX12_setClause setS
  rw [e1, b_q]
  by_cases k30 : (tok u n (pl u n i)).1 = 30
  · have v7 := tkX_L (w := wB) hu i (by rw [eK]; exact k30)
    rw [eV] at v7
    rw [if_pos k30] at e2 ⊢
    have em1 : ¬ nI (tok u n (pl u n i)).2.1 = -1 := by
      intro q
      have := z_eq.mp q
      rw [nI_toInt (by omega)] at this
      have em : (-1 : Int32).toInt = -1 := rfl
      omega
    rw [if_neg em1]
    unfold fX12_setClause_e21
    rw [e2, b1_q]
    unfold fX12_setClause_b87
    cases hv : ltS (tkX u n wB) (bth B) 400 i 0 with
    | inl f =>
      rw [hv] at r2
      have hF := flt_ok r2.2
      obtain ⟨S3, S', e3, e4, f4, p4⟩ := r_b113F (x := y) hT hF r2.1 h24
      rw [r2.1.2.2, if_neg hF]
      exact ⟨S3, S', e3, e4, fRb_tr f2 f4, p4⟩
    | inr p =>
      rw [hv] at r2
      obtain ⟨hy, d2, p2⟩ := r2
      have hne : ¬ p.2 = 0 := by
        intro q
        unfold ltS at hv
        rw [eK, eV, if_pos k30] at hv
        by_cases z : zm (bth B) (tok u n (pl u n i)).2.1 = true ∧ zm (0 : Int32) (tok u n (pl u n i)).2.1 = false
        · rw [if_pos z] at hv
          have := ltS_ne (t := (tok u n (pl u n i)).2.1) (by omega) _ _ _ _ (by rw [m_or_eq (by omega)]) hv
          rw [q, m_0] at this
          cases this
        · rw [if_neg z] at hv; cases hv
      obtain ⟨S3, e3, o3, r3⟩ := r_takes hT d2.1.1 hm (q := 25) (by decide) (by decide)
      have w25 : sW 25 = 2 := by decide
      rw [w25] at e3 r3
      have f3 := fRb_tr f2 (fRb_N (oN_P o3))
      show ∃ S5 S', (if (S2.1 187 3) = 0 then _ else _) = _ ∧ _ ∧ bbR u n m S (if p.2 = 0 then .inl (0, (tkX u n wB).2.2.1 p.1) else if (tkX u n wB).1 p.1 = 2 then earnS (tkX u n wB) B 1 p.2 (p.1 + 1) kk else .inl (0, (tkX u n wB).2.2.1 p.1)) S'
      rw [d2.1.1.2.2.2.1, if_pos rfl, e3, b_q, if_neg hne, eK, eP, hy]
      by_cases k2 : (tok u n (pl u n p.1)).1 = 2
      · rw [if_pos k2] at r3
        rw [if_pos k2, if_neg n10, if_pos k2]
        obtain ⟨S4, S', e4, e5, r5⟩ := r_b113 (x := p.2) hT hn4 hm (mdR_N d2 (oN_P o3) r3 (pl_go p.1)) h24
        exact ⟨S4, S', e4, e5, fRb_tr f3 r5.1, r5.2⟩
      · rw [if_neg k2] at r3
        have hF := flt_ok (hPl p.1)
        have ef : fX12_fails T 187 0 (nI (pl u n p.1)) S3 = some ((), zI S3 187 3 (flt (0, pl u n p.1))) := r_fails0 r3.1.2.2.2.1 (c := 0)
        have p3 : pfR u n 1 1 (zI S3 187 3 (flt (0, pl u n p.1))) (flt (0, pl u n p.1)) := ⟨ctR_z r3.1.1 (Or.inr (Or.inl rfl)), ⟨pl u n p.1, by have := pl_le (u := u) (n := n) p.1; omega, by rw [zI_eqn (by decide)]; exact r3.2⟩, by rw [zI_eqs]⟩
        obtain ⟨S4, S', e4, e5, f5, p5⟩ := r_b113F (x := p.2) hT hF p3 h24
        rw [if_neg k2, if_pos rfl, r3.2, ef, b_q, if_neg k2]
        exact ⟨S4, S', e4, e5, fRb_tr f3 (fRb_tr (fRb_N (oN_z (Or.inr rfl))) f5), p5⟩
  · have hv : ltS (tkX u n wB) (bth B) 400 i 0 = .inr (i, 0) := by
      unfold ltS
      rw [eK, if_neg k30]
    have hF := flt_ok (hPl i)
    have ef : fX12_fails T 187 0 (nI (pl u n i)) S1 = some ((), zI S1 187 3 (flt (0, pl u n i))) := r_fails0 s1.2.2.2.1 (c := 0)
    have p3 : pfR u n 1 1 (zI S1 187 3 (flt (0, pl u n i))) (flt (0, pl u n i)) := ⟨ctR_z s1.1 (Or.inr (Or.inl rfl)), ⟨pl u n i, by omega, by rw [zI_eqn (by decide)]; exact p1⟩, by rw [zI_eqs]⟩
    obtain ⟨S4, S', e4, e5, f5, p5⟩ := r_b113F (x := 0) hT hF p3 h24
    rw [if_neg k30, if_pos rfl, p1, ef, b_q, hv]
    unfold fX12_setClause_e21
    have el : lp (fun a : Int32 × Int32 × zS => fX12_setClause_l21 T 187 (nI (24 + B.2.length)) a.1 a.2.1 a.2.2) (0, -1, zI S1 187 3 (flt (0, pl u n i))) = some (0, zI S1 187 3 (flt (0, pl u n i))) := lp_stop (by
      show fX12_setClause_l21 T 187 (nI (24 + B.2.length)) 0 (-1) _ = _
      unfold fX12_setClause_l21
      rw [if_pos rfl])
    rw [el, b1_q]
    unfold fX12_setClause_b87
    rw [p3.2.2, if_neg hF]
    refine ⟨S4, S', e4, e5, fRb_tr (fRb_N (oN_P o1)) (fRb_tr (fRb_N (oN_z (Or.inr rfl))) f5), ?_⟩
    show match (if (0 : Int32) = 0 then (.inl (0, (tkX u n wB).2.2.1 i) : BR) else if (tkX u n wB).1 i = 2 then earnS (tkX u n wB) B 1 0 (i + 1) kk else .inl (0, (tkX u n wB).2.2.1 i)) with
      | .inl f => pfR u n 1 1 S' (flt f)
      | .inr p => ∃ e', rB u n m S' p.1 e' p.2.1 p.2.2
    rw [if_pos rfl]
    exact p5
theorem r_cous (hT : iT T) (hn4 : n ≤ 400) (hm : m ≤ n ∧ pl u n m = n ∧ ∀ i, i < m → pl u n i < n) {S : zS} {i e kk : Nat} {B : Bk} (h : mdR u n m S i e kk B 4) (h24 : B.2.length < 24) : ∃ S2 S', fX12_onceClause T 187 4 S = some ((), S2) ∧ fX12_bookClause_b177 T 187 (nI (24 + B.2.length)) S2 = some ((), S') ∧ bbR u n m S (cousS (tkX u n wB) B i kk) S' := by
  have hX := tkX_ok (w := wB) hn4 (Or.inl rfl) hm
  have eK : ∀ i, (tkX u n wB).1 i = (tok u n (pl u n i)).1 := fun i => rfl
  have eP : ∀ i, (tkX u n wB).2.2.1 i = pl u n i := fun i => rfl
  obtain ⟨v, S1, e1, f1, r1⟩ := r_once (fld := 4) (low := 0) (top := 9999) hT hm h (by decide) (by decide) (by decide)
  have e1' : fX12_amount T 187 0 9999 S = some (v, S1) := e1
  have erow : ∀ v S1, zI S1 (rowF 4) 1 v = zI S1 207 1 v := fun _ _ => rfl
  have g12 : ∀ {β : Type} {k : Option β}, zgd (zin 1 2) k = k := g_in (i := 1) (by decide) (by decide)
  have t1 : (1 : Int32).toNatClampNeg = 1 := rfl
  unfold fX12_onceClause fX12_onceClause_b106 fX12_onceClause_b119 cousS
  rw [if_neg (show ¬ (4 : Int32) = 3 by decide), if_neg (show ¬ (4 : Int32) = 5 by decide), if_neg (show ¬ (4 : Int32) = 6 by decide), e1', b_q, g12, zT_187_30 hT, t1, let_q, zT_187_31 hT]
  rw [erow] at f1 r1
  generalize zI S1 207 1 v = S2 at f1 r1 ⊢
  have fault : ∀ {F : Int32} {S3 : zS}, ¬ F = 0 → pfR u n 1 1 S3 F → ∃ S4 S', (zb (fX12_amount T 187 1 60 S3) fun r10 S12 => zgd (zin 1 2) (zlet (zI S12 208 1 r10) fun S14 => some ((), S14))) = some ((), S4) ∧ fX12_bookClause_b177 T 187 (nI (24 + B.2.length)) S4 = some ((), S') ∧ fRb S3 S' ∧ pfR u n 1 1 S' F := by
    intro F S3 hF p
    obtain ⟨S4, e4, o4, p4⟩ := pr_num hT (by decide) hF p (low := 1) (top := 60)
    obtain ⟨S', e5, f5, p5⟩ := r_b177F (L := B.2.length) hT (pfR_V p4 (oV_z (a := 208) (b := 1) (x := 0) (by omega))) (by decide) h24
    refine ⟨_, S', ?_, e5, fRb_tr (fRb_N o4) (fRb_tr (fRb_z (by omega)) f5), p5⟩
    rw [e4, b_q, g12, let_q]
  cases hn : numS (tkX u n wB) 0 9999 i with
  | inl f =>
    rw [hn] at r1
    have hF := flt_ok (numS_inl hX hn)
    rw [r1.2.2, if_neg hF]
    obtain ⟨S4, S', e4, e5, f5, p5⟩ := fault hF (pfR_le r1 (by decide))
    exact ⟨S4, S', e4, e5, fRb_tr f1 f5, p5⟩
  | inr V =>
    rw [hn] at r1
    have d2 : mdR u n m S2 (i + 1) e kk (setB B 6 4 (nI V)) 4 := r1
    obtain ⟨S3, e3, o3, r3⟩ := r_takes hT d2.1.1 hm (q := 26) (by decide) (by decide)
    have w26 : sW 26 = 7 := by decide
    rw [w26] at e3 r3
    have f3 := fRb_tr f1 (fRb_N (oN_P o3))
    rw [d2.1.1.2.2.2.1, if_pos rfl, e3, b_q]
    show ∃ S2 S', _ ∧ _ ∧ bbR u n m S (if (tkX u n wB).1 (i + 1) = 7 then (match numS (tkX u n wB) 1 60 (i + 2) with
      | .inl f => (.inl f : BR)
      | .inr w => .inr (i + 3, kk, addB (setB (setB B 6 4 (nI V)) 6 5 (nI w)) (4, 0, 0, []))) else .inl (0, (tkX u n wB).2.2.1 (i + 1))) S'
    rw [eK, eP]
    by_cases k7 : (tok u n (pl u n (i + 1))).1 = 7
    · rw [if_pos k7] at r3
      rw [if_pos k7, if_neg n10, if_pos k7]
      have d3 := mdR_N d2 (oN_P o3) r3 (pl_go (i + 1))
      obtain ⟨w, S4, e4, f4, r4⟩ := r_once (fld := 5) (low := 1) (top := 60) hT hm d3 (by decide) (by decide) (by decide)
      have e4' : fX12_amount T 187 1 60 S3 = some (w, S4) := e4
      have r4' : match numS (tkX u n wB) 1 60 (i + 2) with
        | .inl f => pfR u n 1 0 (zI S4 208 1 w) (flt f)
        | .inr W => mdR u n m (zI S4 208 1 w) (i + 3) e kk (setB (setB B 6 4 (nI V)) 6 5 (nI W)) 4 := r4
      have f4' : fRb S3 (zI S4 208 1 w) := f4
      rw [e4', b_q, g12, let_q]
      cases hn2 : numS (tkX u n wB) 1 60 (i + 2) with
      | inl f =>
        rw [hn2] at r4'
        obtain ⟨S', e5, f5, p5⟩ := r_b177F (L := B.2.length) hT r4' (by decide) h24
        exact ⟨_, S', rfl, e5, fRb_tr f3 (fRb_tr f4' f5), p5⟩
      | inr W =>
        rw [hn2] at r4'
        obtain ⟨S', e5, f5, r5⟩ := r_b177 hT r4' h24 (by decide)
        exact ⟨_, S', rfl, e5, fRb_tr f3 (fRb_tr f4' f5), e, r5⟩
    · rw [if_neg k7] at r3
      have hf : okF (0, pl u n (i + 1)) := ⟨by show 0 ≤ 5; decide, by have := pl_le (u := u) (n := n) (i + 1); show pl u n (i + 1) ≤ 400; omega⟩
      have hF := flt_ok hf
      have ef : fX12_fails T 187 0 (nI (pl u n (i + 1))) S3 = some ((), zI S3 187 3 (flt (0, pl u n (i + 1)))) := r_fails0 r3.1.2.2.2.1 (c := 0)
      have p3 : pfR u n 1 1 (zI S3 187 3 (flt (0, pl u n (i + 1)))) (flt (0, pl u n (i + 1))) := ⟨ctR_z r3.1.1 (Or.inr (Or.inl rfl)), ⟨pl u n (i + 1), by have := pl_le (u := u) (n := n) (i + 1); omega, by rw [zI_eqn (by decide)]; exact r3.2⟩, by rw [zI_eqs]⟩
      obtain ⟨S4, S', e4, e5, f5, p5⟩ := fault hF p3
      rw [if_neg k7, if_pos rfl, r3.2, ef, b_q, if_neg k7]
      exact ⟨S4, S', e4, e5, fRb_tr f3 (fRb_tr (fRb_N (oN_z (Or.inr rfl))) f5), p5⟩
end
