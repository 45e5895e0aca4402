/-! ANY CLAUSE OF A BOOK, by the reference -/
def clW (k : Nat) : Nat := if k = 0 then 16 else if k = 1 then 17 else if k = 2 then 18 else if k = 3 then 19 else if k = 4 then 20 else if k = 5 then 9 else 21
def clQ (k : Nat) : Nat := if k = 0 then 0 else if k = 1 then 1 else if k = 2 then 4 else if k = 3 then 5 else if k = 4 then 6 else if k = 5 then 8 else 9
theorem clW_r {k : Nat} (h : k < 7) : clW k < 27 ∧ 1 ≤ clW k ∧ sW (clW k) = clQ k ∧ zsL (clW k) = nI (zsN (clW k)) := by
  have : k = 0 ∨ k = 1 ∨ k = 2 ∨ k = 3 ∨ k = 4 ∨ k = 5 ∨ k = 6 := by omega
  rcases this with rfl | rfl | rfl | rfl | rfl | rfl | rfl <;> decide
theorem clQ_b {k q : Nat} (h : k < 7) : q = clQ k ↔ bIdx q = k := by
  constructor
  · rintro rfl
    have : k = 0 ∨ k = 1 ∨ k = 2 ∨ k = 3 ∨ k = 4 ∨ k = 5 ∨ k = 6 := by omega
    rcases this with rfl | rfl | rfl | rfl | rfl | rfl | rfl <;> decide
  · intro hb
    have g := bIdx_7.mp (show ¬ bIdx q = 7 by omega)
    rcases g with rfl | rfl | rfl | rfl | rfl | rfl | rfl <;> (rw [← hb]; decide)
theorem bIdx_le {q : Nat} : bIdx q ≤ 7 := by
  unfold bIdx
  (repeat' split) <;> omega
section
variable {T : zT} {u : Nat → Nat} {n m : Nat}
theorem r_clauseOf {S : zS} {k : Nat} (h : k < 7) : fX12_clauseOf T (nI k) S = some (clW k) := by
  have : k = 0 ∨ k = 1 ∨ k = 2 ∨ k = 3 ∨ k = 4 ∨ k = 5 ∨ k = 6 := by omega
  rcases this with rfl | rfl | rfl | rfl | rfl | rfl | rfl <;> rfl
theorem r_which2 (hT : iT T) {S : zS} {a b : Int32} {p : Nat} (h : txR u n S) (hp : S.1 187 2 = nI p) (hb : p < 2000000) : ∀ d k, d + k = 7 → k ≤ bIdx (tok u n p).1 → lp (fun x => fX12_bookClause_l11 T 187 a b S x) (nI k) = some (nI (bIdx (tok u n p).1)) := by
  intro d
  induction d with
  | zero =>
    intro k hk hj
    have := bIdx_le (q := (tok u n p).1)
    have ek : k = 7 := by omega
    have e7 : bIdx (tok u n p).1 = 7 := by omega
    rw [e7, ek]
    refine lp_stop ?_
    show fX12_bookClause_l11 T 187 a b S (nI 7) = _
    unfold fX12_bookClause_l11
    rw [if_pos (show 7 ≤ nI 7 by decide)]
  | succ d ih =>
    intro k hk hj
    obtain ⟨w1, w2, w3, w4⟩ := clW_r (k := k) (by omega)
    have hq := clQ_b (k := k) (q := (tok u n p).1) (by omega)
    have el : fX12_bookClause_l11 T 187 a b S (nI k) = if bIdx (tok u n p).1 = k then some (.inr (nI k)) else some (.inl (nI (k + 1))) := by
      unfold fX12_bookClause_l11
      rw [if_neg (show ¬ 7 ≤ nI k by rw [n_leL (by omega) (by omega)]; omega), r_clauseOf (by omega), b1_q, r_stands hT h hp (by omega) w1 w2, b1_q, w3]
      by_cases y : (tok u n p).1 = clQ k
      · rw [if_pos y, if_neg n10, if_pos (hq.mp y)]
      · rw [if_neg y, if_pos rfl, if_neg (fun z => y (hq.mpr z)), n_addL, let_q]
    by_cases y : bIdx (tok u n p).1 = k
    · rw [if_pos y] at el
      rw [y]
      exact lp_stop el
    · rw [if_neg y] at el
      exact lp_go el (ih (k + 1) (by omega) (by omega))
theorem r_wasB (hT : iT T) {S : zS} (h4 : S.1 187 4 = nI 1) {L : List Cl} {e k : Nat} (h : rcl S e L) (hL : L.length ≤ 24) (hk : k ≤ 6) : fX12_wasTold T 187 (nI L.length) (nI k) S = some (if toldL L k = true then 1 else 0) := by
  have key : zwp (lp (fun a => fX12_wasTold_l5 T 187 (nI L.length) (nI k) S a.1 a.2) (0, 0)) (fun r => r = if toldL L k = true then 1 else 0) := by
    refine lp_for (I := fun q a => a = ((if toldL (L.take q) k = true then 1 else 0), nI q)) L.length ?_ ?_ ?_
    · rintro q a hq rfl
      left
      obtain ⟨c, hc⟩ : ∃ c, L[q]? = some c := ⟨L[q], List.getElem?_eq_getElem hq⟩
      have hr := (h q c hc).2.2.1
      have hc1 := (h q c hc).2.1
      have et : toldL (L.take (q + 1)) k = (toldL (L.take q) k || c.1 == k) := by
        rw [List.take_add_one, hc]
        exact toldL_add
      show ∃ a', fX12_wasTold_l5 T 187 (nI L.length) (nI k) S (if toldL (L.take q) k = true then 1 else 0) (nI q) = _ ∧ _
      unfold fX12_wasTold_l5 fX12_wasTold_b34 fX12_wasTold_b39
      rw [if_neg (show ¬ nI L.length ≤ nI q by rw [n_le (by omega) (by omega)]; omega), h4, show (24 : Int32) * nI 1 = nI 24 from rfl, n_add, let_q, let_q, n_addL, et]
      cases z : toldL (L.take q) k with
      | true =>
        rw [if_pos rfl, if_neg n10]
        exact ⟨_, rfl, rfl⟩
      | false =>
        rw [if_pos (show (if false = true then (1 : Int32) else 0) = 0 from rfl), g_in (by omega) (by decide), zT_187_15 hT, tn_nI (by omega), hr]
        by_cases v : c.1 = k
        · rw [if_pos (show nI c.1 = nI k by rw [v]), v, Bool.false_or, if_pos (show (k == k) = true from beq_self_eq_true k)]
          exact ⟨_, rfl, rfl⟩
        · rw [if_neg (show ¬ nI c.1 = nI k by rw [n_eq (by omega) (by omega)]; exact v), Bool.false_or, if_neg (show ¬ (c.1 == k) = true from fun q => v (beq_iff_eq.mp q))]
          exact ⟨_, rfl, rfl⟩
    · rintro a rfl
      refine ⟨_, ?_, rfl⟩
      show fX12_wasTold_l5 T 187 (nI L.length) (nI k) S (if toldL (L.take L.length) k = true then 1 else 0) (nI L.length) = _
      unfold fX12_wasTold_l5
      rw [if_pos (show nI L.length ≤ nI L.length by rw [n_le (by omega) (by omega)]; omega), List.take_length]
    · rfl
  obtain ⟨r, e1, rfl⟩ := key
  unfold fX12_wasTold
  rw [e1, b1_q]
  refine g_t (zbl_iff.mpr ?_)
  by_cases y : toldL L k = true
  · rw [if_pos y]; exact Or.inr rfl
  · rw [if_neg y]; exact Or.inl rfl
theorem r_bc (hT : iT T) (hn4 : n ≤ 400) (hm : m ≤ n ∧ pl u n m = n ∧ ∀ i, i < m → pl u n i < n) {S : zS} {i e kk : Nat} {B : Bk} (h : rB u n m S i e kk B) (hL24 : B.2.length ≤ 24) : ∃ S', fX12_bookClause T 187 (nI B.2.length) S = some ((), S') ∧ bbR u n m S (bcS (tkX u n wB) B (decide (B.2.length = 24)) i kk) S' := by
  obtain ⟨hs, h7, hbk, hcl, hun, hk60, he⟩ := h
  have eK : ∀ i, (tkX u n wB).1 i = (tok u n (pl u n i)).1 := fun i => rfl
  have eP : ∀ i, (tkX u n wB).2.2.1 i = pl u n i := fun i => rfl
  obtain ⟨S3, e3, o3, p3, s3⟩ := st_blanks hT hs
  have f3 : fRb S S3 := fRb_N (oN_P o3)
  have hple := pl_le (u := u) (n := n) i
  have hu := txR_255 s3.1.1
  have cl3 : rcl S3 e B.2 := rcl_cg hcl (fun a b _ _ _ _ => o3.2 a b (by omega)) (fun a b _ _ => o3.2 a b (by omega)) (Nat.le_refl _)
  have hwh := r_which2 hT (a := nI B.2.length) (b := nI (pl u n i)) s3.1.1 p3 (by omega) 7 0 rfl (Nat.zero_le _)
  have hwh' : lp (fun a => fX12_bookClause_l11 T 187 (nI B.2.length) (nI (pl u n i)) S3 a) 0 = some (nI (bIdx (tok u n (pl u n i)).1)) := hwh
  have flt0 : ∀ c : Nat, c ≤ 5 → fX12_fails T 187 (nI c) (nI (pl u n i)) S3 = some ((), zI S3 187 3 (flt (c, pl u n i))) ∧ fRb S (zI S3 187 3 (flt (c, pl u n i))) ∧ pfR u n 1 1 (zI S3 187 3 (flt (c, pl u n i))) (flt (c, pl u n i)) := fun c hc => ⟨r_fails0 s3.2.2.2.1, fRb_tr f3 (fRb_N (oN_z (Or.inr rfl))), ctR_z s3.1 (Or.inr (Or.inl rfl)), ⟨pl u n i, by omega, by rw [zI_eqn (by decide)]; exact p3⟩, by rw [zI_eqs]⟩
  unfold fX12_bookClause bcS
  rw [e3, b_q, p3, let_q, hwh', b1_q, eK, eP]
  unfold fX12_bookClause_b34 fX12_bookClause_b67
  obtain ⟨q1, q2, q3⟩ := flt0 0 (by decide)
  obtain ⟨g1, g2, g3⟩ := flt0 4 (by decide)
  have q1' : fX12_fails T 187 0 (nI (pl u n i)) S3 = some ((), zI S3 187 3 (flt (0, pl u n i))) := q1
  have g1' : fX12_fails T 187 4 (nI (pl u n i)) S3 = some ((), zI S3 187 3 (flt (4, pl u n i))) := g1
  rw [q1', b_q, g1', b_q]
  have hb7 := bIdx_le (q := (tok u n (pl u n i)).1)
  by_cases y : bIdx (tok u n (pl u n i)).1 = 7
  · refine ⟨zI S3 187 3 (flt (0, pl u n i)), by rw [if_pos (show nI (bIdx (tok u n (pl u n i)).1) = 7 by rw [y]; rfl)], ?_⟩
    rw [if_pos y]
    exact ⟨q2, q3⟩
  · have hq7 : ¬ nI (bIdx (tok u n (pl u n i)).1) = 7 := by rw [show (7 : Int32) = nI 7 from rfl, n_eq (by omega) (by omega)]; exact y
    rw [if_neg hq7, r_wasB hT s3.1.2.1 cl3 hL24 (by omega), b1_q]
    have e24 : (nI B.2.length = 24) = (B.2.length = 24) := nI_eqL (show (24 : Int32) = nI 24 from rfl) (by omega) (by decide)
    have e2 : (nI (bIdx (tok u n (pl u n i)).1) ≤ 2) = (bIdx (tok u n (pl u n i)).1 ≤ 2) := by rw [show (2 : Int32) = nI 2 from rfl, n_le (by omega) (by omega)]
    by_cases z : decide (B.2.length = 24) = true ∨ 3 ≤ bIdx (tok u n (pl u n i)).1 ∧ toldL B.2 (bIdx (tok u n (pl u n i)).1) = true
    · refine ⟨zI S3 187 3 (flt (4, pl u n i)), ?_, ?_⟩
      · by_cases z1 : B.2.length = 24
        · rw [if_pos (show nI B.2.length = 24 by rw [e24]; exact z1)]
        · have z2 := z.resolve_left (fun q => z1 (of_decide_eq_true q))
          rw [if_neg (show ¬ nI B.2.length = 24 by rw [e24]; exact z1), if_neg (show ¬ nI (bIdx (tok u n (pl u n i)).1) ≤ 2 by rw [e2]; omega), if_pos z2.2, if_neg n10]
      · rw [if_neg y, if_pos z]
        exact ⟨g2, g3⟩
    · have z1 : ¬ B.2.length = 24 := fun q => z (Or.inl (decide_eq_true q))
      have h24 : B.2.length < 24 := by omega
      have go : ∀ {P : zS → Prop}, (∃ S', fX12_bookClause_b74 T 187 (nI B.2.length) (nI (bIdx (tok u n (pl u n i)).1)) S3 = some ((), S') ∧ P S') → ∃ S', (if nI B.2.length = 24 then some ((), zI S3 187 3 (flt (4, pl u n i))) else if nI (bIdx (tok u n (pl u n i)).1) ≤ 2 then fX12_bookClause_b74 T 187 (nI B.2.length) (nI (bIdx (tok u n (pl u n i)).1)) S3 else if (if toldL B.2 (bIdx (tok u n (pl u n i)).1) = true then (1 : Int32) else 0) = 0 then fX12_bookClause_b74 T 187 (nI B.2.length) (nI (bIdx (tok u n (pl u n i)).1)) S3 else some ((), zI S3 187 3 (flt (4, pl u n i)))) = some ((), S') ∧ P S' := by
        rintro P ⟨S', e', hP⟩
        refine ⟨S', ?_, hP⟩
        rw [if_neg (show ¬ nI B.2.length = 24 by rw [e24]; exact z1)]
        by_cases z2 : bIdx (tok u n (pl u n i)).1 ≤ 2
        · rw [if_pos (show nI (bIdx (tok u n (pl u n i)).1) ≤ 2 by rw [e2]; exact z2)]; exact e'
        · have z3 : ¬ toldL B.2 (bIdx (tok u n (pl u n i)).1) = true := fun q => z (Or.inr ⟨by omega, q⟩)
          rw [if_neg (show ¬ nI (bIdx (tok u n (pl u n i)).1) ≤ 2 by rw [e2]; exact z2), if_neg z3, if_pos rfl]; exact e'
      refine go ?_
      rw [if_neg y, if_neg z]
      obtain ⟨w1, w2, w3, w4⟩ := clW_r (k := bIdx (tok u n (pl u n i)).1) (by omega)
      have hq := (clQ_b (k := bIdx (tok u n (pl u n i)).1) (q := (tok u n (pl u n i)).1) (by omega)).mpr rfl
      obtain ⟨t1, t2⟩ := tok_wEnd w1 w2 hu (show (tok u n (pl u n i)).1 = sW (clW (bIdx (tok u n (pl u n i)).1)) by rw [w3]; exact hq)
      have hpos : pl u n i < n := by
        apply Classical.byContradiction
        intro q
        have e' := tok_end (u := u) (n := n) (i := pl u n i) (by omega)
        rw [e'] at y
        exact y (show bIdx 46 = 7 by decide)
      have him := i_lt hm hpos
      unfold fX12_bookClause_b74
      rw [r_clauseOf (by omega), b1_q, p3, w4, n_add, let_q, zI_eqn (by decide), s3.1.2.1, show (24 : Int32) * nI 1 + nI B.2.length = nI (24 + B.2.length) from by rw [show (24 : Int32) * nI 1 = nI 24 from rfl, n_add], let_q, g_in (by omega) (by decide), zT_187_15 hT, tn_nI (by omega), let_q, g_in (by omega) (by decide), zT_187_19 hT, let_q]
      have hd : ∀ kd, kd = bIdx (tok u n (pl u n i)).1 → mdR u n m (zI (zI (zI S3 187 2 (nI (pl u n i + zsN (clW (bIdx (tok u n (pl u n i)).1))))) 192 (24 + B.2.length) (nI (bIdx (tok u n (pl u n i)).1))) 196 (24 + B.2.length) ((zI (zI S3 187 2 (nI (pl u n i + zsN (clW (bIdx (tok u n (pl u n i)).1))))) 192 (24 + B.2.length) (nI (bIdx (tok u n (pl u n i)).1))).1 187 6)) (i + 1) e kk B kd := by
        intro kd hkd
        have st1 : stR u n 1 m (zI S3 187 2 (nI (pl u n i + zsN (clW (bIdx (tok u n (pl u n i)).1))))) (i + 1) e kk := ⟨ctR_z s3.1 (Or.inl rfl), him, ⟨_, t2, by rw [zI_eqs], by rw [← t1]; rfl⟩, by rw [zI_eqn (by decide)]; exact s3.2.2.2.1, by rw [zI_eqn (by decide)]; exact s3.2.2.2.2.1, by rw [zI_eqn (by decide)]; exact s3.2.2.2.2.2⟩
        have hmo := pl_go (u := u) (n := n) i
        refine ⟨⟨stR_V (stR_V st1 (oV_z (by omega))) (oV_z (by omega)), ?_, rbk_cg hbk (fun a b _ _ => by rw [zI_ne (by omega), zI_ne (by omega), zI_ne (by omega), o3.2 a b (by omega)]), rcl_cg cl3 (fun a b _ _ _ q => by rw [zI_o (by omega), zI_o (by omega), zI_ne (by omega)]) (fun a b _ _ => by rw [zI_ne (by omega), zI_ne (by omega), zI_ne (by omega)]) (Nat.le_refl _), hun, hk60, by omega⟩, ?_, ?_⟩
        · rw [zI_ne (by decide), zI_ne (by decide), zI_eqn (by decide), o3.2 _ _ (by omega)]; exact h7
        · rw [zI_ne (by decide), zI_eqs, hkd]
        · rw [zI_eqs, zI_ne (by decide)]; exact st1.2.2.2.2.1
      have fz : fRb S (zI (zI (zI S3 187 2 (nI (pl u n i + zsN (clW (bIdx (tok u n (pl u n i)).1))))) 192 (24 + B.2.length) (nI (bIdx (tok u n (pl u n i)).1))) 196 (24 + B.2.length) ((zI (zI S3 187 2 (nI (pl u n i + zsN (clW (bIdx (tok u n (pl u n i)).1))))) 192 (24 + B.2.length) (nI (bIdx (tok u n (pl u n i)).1))).1 187 6)) := fRb_tr f3 (fRb_tr (fRb_N (oN_z (Or.inl rfl))) (fRb_tr (fRb_z (by omega)) (fRb_z (by omega))))
      generalize (zI (zI (zI S3 187 2 (nI (pl u n i + zsN (clW (bIdx (tok u n (pl u n i)).1))))) 192 (24 + B.2.length) (nI (bIdx (tok u n (pl u n i)).1))) 196 (24 + B.2.length) ((zI (zI S3 187 2 (nI (pl u n i + zsN (clW (bIdx (tok u n (pl u n i)).1))))) 192 (24 + B.2.length) (nI (bIdx (tok u n (pl u n i)).1))).1 187 6)) = S26 at hd fz ⊢
      have fin : ∀ {r : BR} {S' : zS}, bbR u n m S26 r S' → bbR u n m S r S' := fun q => ⟨fRb_tr fz q.1, q.2⟩
      have g12 : ∀ {β : Type} {k : Option β}, zgd (zin 1 2) k = k := g_in (i := 1) (by decide) (by decide)
      have tn1 : (1 : Int32).toNatClampNeg = 1 := rfl
      have once : ∀ low top fld kd, low ≤ 99999 → top ≤ 99999 → 1 ≤ fld ∧ fld ≤ 5 → kd ≤ 6 ∧ kd ≠ 1 ∧ kd ≠ 2 → kd = bIdx (tok u n (pl u n i)).1 → ∃ v S1 S', fX12_amount T 187 (nI low) (nI top) S26 = some (v, S1) ∧ fX12_bookClause_b177 T 187 (nI (24 + B.2.length)) (zI S1 (rowF fld) 1 v) = some ((), S') ∧ bbR u n m S26 (onceS (tkX u n wB) B low top fld kd (i + 1) kk) S' := by
        intro low top fld kd h1 h2 hf hk hkd
        obtain ⟨v, S1, ea, fa, ra⟩ := r_once (fld := fld) hT hm (hd kd hkd) h1 h2 hf
        unfold onceS
        cases hn : numS (tkX u n wB) low top (i + 1) with
        | inl f =>
          rw [hn] at ra
          obtain ⟨S', e5, f5, p5⟩ := r_b177F hT ra (by decide) h24
          exact ⟨v, S1, S', ea, e5, fRb_tr fa f5, p5⟩
        | inr V =>
          rw [hn] at ra
          obtain ⟨S', e5, f5, r5⟩ := r_b177 hT ra h24 hk
          exact ⟨v, S1, S', ea, e5, fRb_tr fa f5, e, r5⟩
      rcases bIdx_7.mp y with q | q | q | q | q | q | q
      · obtain ⟨S2, S', e4, e5, r5⟩ := r_thing hT hn4 hm (hd 0 (by rw [q]; rfl)) h24
        rw [q]
        refine ⟨S', ?_, fin r5⟩
        rw [if_pos (show nI (bIdx 0) = 0 from rfl), e4, b_q]; exact e5
      · obtain ⟨S2, S', e4, e5, r5⟩ := r_set hT hn4 hm (hd 1 (by rw [q]; rfl)) (by omega) h24
        rw [q]
        refine ⟨S', ?_, fin r5⟩
        rw [if_neg (show ¬ nI (bIdx 1) = 0 by decide), if_pos (show nI (bIdx 1) = 1 from rfl), e4, b_q]; exact e5
      · obtain ⟨v, S1, S2, S', e4, e5, e6, r5, -⟩ := r_need (x := 0) hT hn4 hm (hd 2 (by rw [q]; rfl)) h24 (Or.inr rfl) (fun q => absurd q (by decide)) (fun _ => rfl)
        rw [q]
        refine ⟨S', ?_, fin r5⟩
        rw [if_neg (show ¬ nI (bIdx 4) = 0 by decide), if_neg (show ¬ nI (bIdx 4) = 1 by decide), if_pos (show nI (bIdx 4) = 2 from rfl), e4, b_q, g_in (by omega) (by decide), zT_187_17 hT, let_q, e5, b_q]; exact e6
      · obtain ⟨v, S1, S', e4, e5, r5⟩ := once 0 1000 3 3 (by decide) (by decide) (by decide) (by decide) (by rw [q]; rfl)
        have e4' : fX12_amount T 187 0 1000 S26 = some (v, S1) := e4
        rw [q]
        refine ⟨S', ?_, fin r5⟩
        unfold fX12_onceClause fX12_onceClause_b119
        rw [if_neg (show ¬ nI (bIdx 5) = 0 by decide), if_neg (show ¬ nI (bIdx 5) = 1 by decide), if_neg (show ¬ nI (bIdx 5) = 2 by decide), if_pos (show nI (bIdx 5) = 3 from rfl), e4', b_q, g12, zT_187_29 hT, tn1, let_q, b_q]; exact e5
      · obtain ⟨S2, S', e4, e5, r5⟩ := r_cous hT hn4 hm (hd 4 (by rw [q]; rfl)) h24
        have e4' : fX12_onceClause T 187 (nI (bIdx 6)) S26 = some ((), S2) := e4
        rw [q]
        refine ⟨S', ?_, fin r5⟩
        rw [if_neg (show ¬ nI (bIdx 6) = 0 by decide), if_neg (show ¬ nI (bIdx 6) = 1 by decide), if_neg (show ¬ nI (bIdx 6) = 2 by decide), e4', b_q]; exact e5
      · obtain ⟨v, S1, S', e4, e5, r5⟩ := once 0 9999 2 5 (by decide) (by decide) (by decide) (by decide) (by rw [q]; rfl)
        have e4' : fX12_amount T 187 0 9999 S26 = some (v, S1) := e4
        rw [q]
        refine ⟨S', ?_, fin r5⟩
        unfold fX12_onceClause fX12_onceClause_b119
        rw [if_neg (show ¬ nI (bIdx 8) = 0 by decide), if_neg (show ¬ nI (bIdx 8) = 1 by decide), if_neg (show ¬ nI (bIdx 8) = 2 by decide), if_neg (show ¬ nI (bIdx 8) = 3 by decide), if_pos (show nI (bIdx 8) = 5 from rfl), e4', b_q, g12, zT_187_32 hT, tn1, let_q, b_q]; exact e5
      · obtain ⟨v, S1, S', e4, e5, r5⟩ := once 1 60 1 6 (by decide) (by decide) (by decide) (by decide) (by rw [q]; rfl)
        have e4' : fX12_amount T 187 1 60 S26 = some (v, S1) := e4
        rw [q]
        refine ⟨S', ?_, fin r5⟩
        unfold fX12_onceClause fX12_onceClause_b119
        rw [if_neg (show ¬ nI (bIdx 9) = 0 by decide), if_neg (show ¬ nI (bIdx 9) = 1 by decide), if_neg (show ¬ nI (bIdx 9) = 2 by decide), if_neg (show ¬ nI (bIdx 9) = 3 by decide), if_neg (show ¬ nI (bIdx 9) = 5 by decide), if_pos (show nI (bIdx 9) = 6 from rfl), e4', b_q, g12, zT_187_33 hT, tn1, let_q, b_q]; exact e5
end
