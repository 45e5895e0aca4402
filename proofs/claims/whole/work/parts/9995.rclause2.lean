/-! A CLAUSE OF A RULE, by the reference -/
def fRr (s : Nat) (S S' : zS) : Prop := S'.2 = S.2 ∧ ∀ a b, ¬ (a = 187 ∧ (b = 2 ∨ b = 3 ∨ 6 ≤ b ∧ b ≤ 9)) → ¬ ((a = 189 ∨ a = 190) ∧ 300 * s ≤ b ∧ b < 300 * s + 300) → ¬ (192 ≤ a ∧ a ≤ 197 ∧ 24 * s ≤ b ∧ b < 24 * s + 24) → a ≠ 198 → S'.1 a b = S.1 a b
theorem fRr_tr {s : Nat} {S S' S'' : zS} (h : fRr s S S') (g : fRr s S' S'') : fRr s S S'' := ⟨g.1.trans h.1, fun a b x y z v => (g.2 a b x y z v).trans (h.2 a b x y z v)⟩
theorem fRr_T {s : Nat} {S S' : zS} (h : oT s S S') : fRr s S S' := ⟨h.1, fun a b x y _ z => h.2 a b x y z⟩
theorem fRr_z {s : Nat} {S : zS} {a b : Nat} {x : Int32} (h : 192 ≤ a ∧ a ≤ 197 ∧ 24 * s ≤ b ∧ b < 24 * s + 24) : fRr s S (zI S a b x) := ⟨rfl, fun c d _ _ y _ => by rw [zI_at, if_neg (fun q => y (by rw [q.1, q.2]; exact h))]⟩
/-- but for the rows of the clauses all is as it was -/
def oW (S S' : zS) : Prop := S'.2 = S.2 ∧ ∀ a b, ¬ (192 ≤ a ∧ a ≤ 197) → S'.1 a b = S.1 a b
theorem oW_z {S : zS} {a b : Nat} {x : Int32} (h : 192 ≤ a ∧ a ≤ 197) : oW S (zI S a b x) := ⟨rfl, fun c d y => by rw [zI_at, if_neg (fun q => y (by rw [q.1]; exact h))]⟩
def ruX (S : zS) (s e : Nat) (L : List Rc) : Prop := ∀ i c, L[i]? = some c → S.1 192 (24 * s + i) = nI c.1 ∧ (c.1 = 1 → S.1 194 (24 * s + i) = c.2.1) ∧
  (c.1 = 0 → ∃ a, S.1 195 (24 * s + i) = nI a ∧ S.1 196 (24 * s + i) = nI (a + c.2.2.1.length) ∧ S.1 197 (24 * s + i) = nI (a + c.2.2.1.length + c.2.2.2.length) ∧ a + c.2.2.1.length + c.2.2.2.length ≤ e ∧ rAt S.1 wmR (300 * s + a) (c.2.2.1 ++ c.2.2.2))
section
variable {T : zT} {u : Nat → Nat} {n s m : Nat}
theorem pfR_le {S : zS} {F : Int32} {c c' : Nat} (h : pfR u n s c S F) (hc : c ≤ c') : pfR u n s c' S F := ⟨h.1, (by obtain ⟨p, a, b⟩ := h.2.1; exact ⟨p, by omega, b⟩), h.2.2⟩
theorem ctR_W {S S' : zS} (h : ctR u n s S) (o : oW S S') : ctR u n s S' := ⟨txR_o h.1 (o.2 _ _ (by omega)) (fun i => o.2 _ _ (by omega)), by rw [o.2 _ _ (by omega)]; exact h.2.1, h.2.2.1, by rw [o.2 _ _ (by omega)]; exact h.2.2.2⟩
theorem stR_W {S S' : zS} {i e k : Nat} (h : stR u n s m S i e k) (o : oW S S') : stR u n s m S' i e k := ⟨ctR_W h.1 o, h.2.1, by rw [o.2 _ _ (by omega)]; exact h.2.2.1, by rw [o.2 _ _ (by omega)]; exact h.2.2.2.1, by rw [o.2 _ _ (by omega)]; exact h.2.2.2.2.1, by rw [o.2 _ _ (by omega)]; exact h.2.2.2.2.2⟩
theorem pfR_W {S S' : zS} {F : Int32} {c : Nat} (h : pfR u n s c S F) (o : oW S S') : pfR u n s c S' F := ⟨ctR_W h.1 o, by rw [o.2 _ _ (by omega)]; exact h.2.1, by rw [o.2 _ _ (by omega)]; exact h.2.2⟩
def rR (u : Nat → Nat) (n s m : Nat) (S : zS) (i e kk : Nat) (L : List Rc) : Prop := stR u n s m S i e kk ∧ S.1 187 7 = nI 0 ∧ ruX S s e L ∧ kk ≤ 60 ∧ 3 * e ≤ 6 * kk + pl u n i
theorem r_wasR (hT : iT T) {S : zS} (h4 : S.1 187 4 = nI s) (hs : s ≤ 7) {L : List Rc} {e : Nat} (h : ruX S s e L) (hL : L.length ≤ 24) (h1 : ∀ c, c ∈ L → c.1 ≤ 1) : fX12_wasTold T 187 (nI L.length) 1 S = some (if toldR L = true then 1 else 0) := by
  have key : zwp (lp (fun a => fX12_wasTold_l5 T 187 (nI L.length) 1 S a.1 a.2) (0, 0)) (fun r => r = if toldR L = true then 1 else 0) := by
    refine lp_for (I := fun q a => a = ((if toldR (L.take q) = true then 1 else 0), nI q)) L.length ?_ ?_ ?_
    · rintro q a hq rfl
      left
      obtain ⟨c, hc⟩ : ∃ c, L[q]? = some c := ⟨L[q], List.getElem?_eq_getElem hq⟩
      have hr := (h q c hc).1
      have hc1 := h1 c (List.mem_of_getElem? hc)
      have et : toldR (L.take (q + 1)) = (toldR (L.take q) || c.1 == 1) := by
        unfold toldR
        rw [List.take_add_one, hc, List.any_append]
        exact congrArg (fun z => _ || z) (Bool.or_false _)
      show ∃ a', fX12_wasTold_l5 T 187 (nI L.length) 1 S (if toldR (L.take q) = true then 1 else 0) (nI q) = _ ∧ _
      unfold fX12_wasTold_l5 fX12_wasTold_b34 fX12_wasTold_b39
      rw [if_neg (show ¬ nI L.length ≤ nI q by rw [n_le (by omega) (by omega)]; omega), h4, show (24 : Int32) * nI s = nI (24 * s) from by rw [liq, n_mul], n_add, let_q, let_q, n_addL, et]
      cases z : toldR (L.take q) with
      | true =>
        rw [if_pos rfl, if_neg n10]
        exact ⟨_, rfl, rfl⟩
      | false =>
        rw [if_pos (show (if false = true then (1 : Int32) else 0) = 0 from rfl), g_in (by omega) (by decide), zT_187_15 hT, tn_nI (by omega), hr]
        by_cases v : c.1 = 1
        · rw [if_pos (show nI c.1 = 1 by rw [v]; rfl), v]
          exact ⟨_, rfl, rfl⟩
        · have v0 : c.1 = 0 := by omega
          rw [v0, if_neg (show ¬ nI 0 = 1 by decide)]
          exact ⟨_, rfl, rfl⟩
    · rintro a rfl
      refine ⟨_, ?_, rfl⟩
      show fX12_wasTold_l5 T 187 (nI L.length) 1 S (if toldR (L.take L.length) = true then 1 else 0) (nI L.length) = _
      unfold fX12_wasTold_l5
      rw [if_pos (show nI L.length ≤ nI L.length by rw [n_le (by omega) (by omega)]; omega), List.take_length]
    · rfl
  obtain ⟨r, e1, rfl⟩ := key
  unfold fX12_wasTold
  rw [e1, b1_q]
  refine g_t (zbl_iff.mpr ?_)
  by_cases y : toldR L = true
  · rw [if_pos y]; exact Or.inr rfl
  · rw [if_neg y]; exact Or.inl rfl
theorem ruX_cg {S S' : zS} {L : List Rc} {e e' : Nat} (h : ruX S s e L) (hx : ∀ a b, 192 ≤ a → a ≤ 197 → 24 * s ≤ b → b < 24 * s + L.length → S'.1 a b = S.1 a b) (hy : ∀ a b, a = 189 ∨ a = 190 → b < 300 * s + e → S'.1 a b = S.1 a b) (he : e ≤ e') : ruX S' s e' L := by
  intro i c hc
  have hi := (List.getElem?_eq_some_iff.mp hc).1
  obtain ⟨a1, a2, a3⟩ := h i c hc
  have e1 : ∀ a, 192 ≤ a → a ≤ 197 → S'.1 a (24 * s + i) = S.1 a (24 * s + i) := fun a q1 q2 => hx a _ q1 q2 (by omega) (by omega)
  refine ⟨by rw [e1 _ (by omega) (by omega)]; exact a1, fun q => by rw [e1 _ (by omega) (by omega)]; exact a2 q, fun q => ?_⟩
  obtain ⟨a, b1, b2, b3, b4, b5⟩ := a3 q
  refine ⟨a, by rw [e1 _ (by omega) (by omega)]; exact b1, by rw [e1 _ (by omega) (by omega)]; exact b2, by rw [e1 _ (by omega) (by omega)]; exact b3, by omega, fun j p hj => ?_⟩
  have hj' := (List.getElem?_eq_some_iff.mp hj).1
  rw [List.length_append] at hj'
  rw [hy 189 _ (Or.inl rfl) (by omega), hy 190 _ (Or.inr rfl) (by omega)]
  exact b5 j p hj
/-- the entries of a sum and a test, one behind the other -/
theorem rAt_join {R : Nat → Nat → Int32} {wm : Nat → Nat} {i : Nat} {a b : List (Nat × Nat)} (h1 : rAt R wm i a) (h2 : rAt R wm (i + a.length) b) : rAt R wm i (a ++ b) := by
  intro j p hj
  by_cases y : j < a.length
  · rw [List.getElem?_append_left y] at hj
    exact h1 j p hj
  · rw [List.getElem?_append_right (by omega)] at hj
    have := h2 _ p hj
    rwa [show i + a.length + (j - a.length) = i + j by omega] at this
theorem r_rc (hT : iT T) (hs2 : 2 ≤ s) (hn4 : n ≤ 400) (hm : m ≤ n ∧ pl u n m = n ∧ ∀ i, i < m → pl u n i < n) {S : zS} {i e kk : Nat} {L : List Rc} (h : rR u n s m S i e kk L) (hL12 : L.length ≤ 12) (h1 : ∀ c, c ∈ L → c.1 ≤ 1) : ∃ S', fX12_ruleClause T 187 (nI L.length) S = some ((), S') ∧ fRr s S S' ∧ match rcS (tkX u n wR) (decide (L.length = 12)) (toldR L) i kk with
    | .inl f => pfR u n s 1 S' (flt f)
    | .inr p => ∃ e', rR u n s m S' p.1 e' p.2.1 (L ++ [p.2.2]) := by
  obtain ⟨hs, h7, hru, hk60, he⟩ := h
  have hw : okWs wR s := Or.inr ⟨hs2, rfl⟩
  have hX := tkX_ok (w := wR) hn4 (Or.inr rfl) hm
  have wmR_s : wmS s = wmR := if_neg (by omega)
  obtain ⟨S3, e3, o3, p3, s3⟩ := st_blanks hT hs
  have hple := pl_le (u := u) (n := n) i
  have hu := txR_255 s3.1.1
  have hs7 := hs.1.2.2.1
  have eK : ∀ i, (tkX u n wR).1 i = (tok u n (pl u n i)).1 := fun i => rfl
  have eP : ∀ i, (tkX u n wR).2.2.1 i = pl u n i := fun i => rfl
  have h73 : S3.1 187 7 = nI 0 := by rw [o3.2 _ _ (by omega)]; exact h7
  have ru3 : ruX S3 s e L := ruX_cg hru (fun a b _ _ _ _ => o3.2 a b (by omega)) (fun a b _ _ => o3.2 a b (by omega)) (Nat.le_refl _)
  have f3 := fRr_T (s := s) (oT_P o3)
  have w1 : sW 1 = 14 := by decide
  have w2 : sW 2 = 15 := by decide
  have z1 : zsN 1 = 4 := by decide
  have z2 : zsN 2 = 4 := by decide
  have q1 := r_stands hT s3.1.1 p3 (by omega) (k := 1) (by decide) (by decide)
  have q2 := r_stands hT s3.1.1 p3 (by omega) (k := 2) (by decide) (by decide)
  rw [w1] at q1
  rw [w2] at q2
  have ef0 : fX12_fails T 187 0 (nI (pl u n i)) S3 = some ((), zI S3 187 3 (flt (0, pl u n i))) := r_fails0 s3.2.2.2.1 (c := 0)
  have ef4 : fX12_fails T 187 4 (nI (pl u n i)) S3 = some ((), zI S3 187 3 (flt (4, pl u n i))) := r_fails0 s3.2.2.2.1 (c := 4)
  have pfz : ∀ f, pfR u n s 1 (zI S3 187 3 (flt f)) (flt f) := fun f => ⟨ctR_z s3.1 (by omega), ⟨pl u n i, by omega, by rw [zI_eqn (by decide)]; exact p3⟩, by rw [zI_eqs]⟩
  have frz : ∀ x, fRr s S (zI S3 187 3 x) := fun x => fRr_tr f3 ⟨rfl, fun a b q _ _ _ => by rw [zI_at, if_neg (by omega)]⟩
  unfold fX12_ruleClause
  rw [e3, b_q, p3, let_q, q1, b1_q, q2, b1_q]
  unfold rcS
  rw [eK, eP]
  unfold fX12_ruleClause_b38 fX12_ruleClause_b71
  rw [ef0, b_q, ef4, b_q]
  have e12 : (nI L.length = 12) = (L.length = 12) := nI_eqL (show (12 : Int32) = nI 12 from rfl) (by omega) (by decide)
  -- told in time: a like or a keep
  have b78 : ∀ kd : Nat, (kd = 0 ∧ (tok u n (pl u n i)).1 = 14 ∨ kd = 1 ∧ (tok u n (pl u n i)).1 = 15) → L.length < 12 → ∃ S', fX12_ruleClause_b78 T 187 (nI L.length) (nI kd) S3 = some ((), S') ∧ fRr s S S' ∧ match (if kd = 1 then (match numS (tkX u n wR) 0 9999 (i + 1) with
        | .inl f => (.inl f : (Nat × Nat) ⊕ (Nat × Nat × Rc))
        | .inr v => .inr (i + 2, kk, (1, nI v, [], [])))
      else (match sumS (tkX u n wR) (i + 1) kk with
        | .inl f => .inl f
        | .inr p => match ifS (tkX u n wR) p.1 p.2.1 with
          | .inl f => .inl f
          | .inr q => .inr (q.1, q.2.1, (0, 0, p.2.2, q.2.2)))) with
      | .inl f => pfR u n s 1 S' (flt f)
      | .inr p => ∃ e', rR u n s m S' p.1 e' p.2.1 (L ++ [p.2.2]) := by
    intro kd hkd hL
    have htok : (tok u n (pl u n i)).2.2 = pl u n i + 4 ∧ pl u n i + 4 ≤ n := by
      rcases hkd with ⟨-, q⟩ | ⟨-, q⟩
      · have := tok_wEnd (k := 1) (by decide) (by decide) hu (show (tok u n (pl u n i)).1 = sW 1 by rw [w1]; exact q)
        rw [z1] at this; exact this
      · have := tok_wEnd (k := 2) (by decide) (by decide) hu (show (tok u n (pl u n i)).1 = sW 2 by rw [w2]; exact q)
        rw [z2] at this; exact this
    have him := i_lt hm (show pl u n i < n by omega)
    have s17 : stR u n s m (zI S3 187 2 (nI (pl u n i + 4))) (i + 1) e kk := ⟨ctR_z s3.1 (Or.inl rfl), him, ⟨pl u n i + 4, htok.2, by rw [zI_eqs], by rw [← htok.1]; rfl⟩, by rw [zI_eqn (by decide)]; exact s3.2.2.2.1, by rw [zI_eqn (by decide)]; exact s3.2.2.2.2.1, by rw [zI_eqn (by decide)]; exact s3.2.2.2.2.2⟩
    have eat : (24 : Int32) * nI s + nI L.length = nI (24 * s + L.length) := by rw [show (24 : Int32) * nI s = nI (24 * s) from by rw [liq, n_mul], n_add]
    -- the two rows first written
    have oW22 : oW (zI S3 187 2 (nI (pl u n i + 4))) (zI (zI (zI S3 187 2 (nI (pl u n i + 4))) 192 (24 * s + L.length) (nI kd)) 195 (24 * s + L.length) (nI e)) := ⟨rfl, fun a b q => by rw [zI_ne (by omega), zI_ne (by omega)]⟩
    have s22 := stR_W s17 oW22
    have h722 : (zI (zI (zI S3 187 2 (nI (pl u n i + 4))) 192 (24 * s + L.length) (nI kd)) 195 (24 * s + L.length) (nI e)).1 187 7 = nI 0 := by rw [zI_ne (by decide), zI_ne (by decide), zI_eqn (by decide)]; exact h73
    have r192 : (zI (zI (zI S3 187 2 (nI (pl u n i + 4))) 192 (24 * s + L.length) (nI kd)) 195 (24 * s + L.length) (nI e)).1 192 (24 * s + L.length) = nI kd := by rw [zI_ne (by decide), zI_eqs]
    have r195 : (zI (zI (zI S3 187 2 (nI (pl u n i + 4))) 192 (24 * s + L.length) (nI kd)) 195 (24 * s + L.length) (nI e)).1 195 (24 * s + L.length) = nI e := by rw [zI_eqs]
    have old22 : ∀ a b, ¬ (a = 187 ∧ b = 2) → ¬ (192 ≤ a ∧ a ≤ 197 ∧ b = 24 * s + L.length) → (zI (zI (zI S3 187 2 (nI (pl u n i + 4))) 192 (24 * s + L.length) (nI kd)) 195 (24 * s + L.length) (nI e)).1 a b = S3.1 a b := fun a b x1 x2 => by rw [zI_at, if_neg (by omega), zI_at, if_neg (by omega), zI_at, if_neg x1]
    have f22 : fRr s S (zI (zI (zI S3 187 2 (nI (pl u n i + 4))) 192 (24 * s + L.length) (nI kd)) 195 (24 * s + L.length) (nI e)) := fRr_tr f3 ⟨rfl, fun a b x1 x2 x3 x4 => old22 a b (by omega) (by omega)⟩
    have e6 : (zI (zI S3 187 2 (nI (pl u n i + 4))) 192 (24 * s + L.length) (nI kd)).1 187 6 = nI e := by rw [zI_ne (by decide), zI_eqn (by decide)]; exact s3.2.2.2.2.1
    have e4 : (zI S3 187 2 (nI (pl u n i + 4))).1 187 4 = nI s := by rw [zI_eqn (by decide)]; exact s3.1.2.1
    unfold fX12_ruleClause_b78
    rw [p3, n_addL, let_q, e4, eat, let_q, g_in (by omega) (by decide), zT_187_15 hT, zT_187_17 hT, zT_187_18 hT, tn_nI (by omega), let_q, g_in (by omega) (by decide), e6, let_q]
    generalize zI (zI (zI S3 187 2 (nI (pl u n i + 4))) 192 (24 * s + L.length) (nI kd)) 195 (24 * s + L.length) (nI e) = S22 at s22 h722 r192 r195 old22 f22 oW22 ⊢
    unfold fX12_ruleClause_b145 fX12_ruleClause_b164
    rw [zT_187_19 hT, zT_187_20 hT]
    have oldx : ∀ {S'' : zS}, (∀ a b, 192 ≤ a → a ≤ 197 → ¬ b = 24 * s + L.length → S''.1 a b = S22.1 a b) → ∀ a b, 192 ≤ a → a ≤ 197 → 24 * s ≤ b → b < 24 * s + L.length → S''.1 a b = S3.1 a b := fun hq a b x1 x2 x3 x4 => (hq a b x1 x2 (by omega)).trans (old22 a b (by omega) (by omega))
    rcases hkd with ⟨rfl, hk14⟩ | ⟨rfl, hk15⟩
    · -- like
      rw [if_neg (show ¬ nI 0 = 1 by decide), if_neg (show ¬ (0 : Nat) = 1 by decide)]
      obtain ⟨S26, e26, o26, r26⟩ := r_sum (m := m) hT hw hn4 hm s22 hk60 (by omega)
      rw [e26, b_q]
      cases hv : sumS (tkX u n wR) (i + 1) kk with
      | inl f =>
        rw [hv] at r26
        have hF := flt_ok (okF_sum hX hv)
        have p28 := pfR_W r26 (oW_z (S := S26) (a := 196) (b := 24 * s + L.length) (x := S26.1 187 6) (by omega))
        have p30 := pfR_W p28 (oW_z (S := zI S26 196 (24 * s + L.length) (S26.1 187 6)) (a := 197) (b := 24 * s + L.length) (x := (zI S26 196 (24 * s + L.length) (S26.1 187 6)).1 187 6) (by omega))
        rw [g_in (by omega) (by decide), tn_nI (by omega), let_q, if_pos (show nI 0 = 0 from rfl), pr_if hF p28, b_q, g_in (by omega) (by decide), let_q]
        exact ⟨_, rfl, fRr_tr f22 (fRr_tr (fRr_T (oT_S o26)) (fRr_tr (fRr_z (by omega)) (fRr_z (by omega)))), pfR_le p30 (by omega)⟩
      | inr p =>
        obtain ⟨j, k1, c1⟩ := p
        obtain ⟨g1, g2, g3, g4, g5, g6, g7, g8⟩ := gS_sum hX (by omega) (by omega) hv
        rw [hv] at r26
        obtain ⟨s26, p26, w26⟩ := r26
        have s26' : stR u n s m S26 j (e + c1.length) k1 := s26
        have hpij := P_le hX (show i ≤ j by omega)
        rw [eP, eP] at hpij
        have h726 : S26.1 187 7 = nI 0 := by rw [o26.2 _ _ (by omega) (by omega)]; exact h722
        have oW28 : oW S26 (zI S26 196 (24 * s + L.length) (S26.1 187 6)) := oW_z (by omega)
        have s28 := stR_W s26' oW28
        obtain ⟨S34, e34, o34, r34⟩ := r_if hT hw hn4 hm s28 (by rw [zI_ne (by decide)]; exact h726) g4 (by omega)
        rw [g_in (by omega) (by decide), tn_nI (by omega), let_q, if_pos (show nI 0 = 0 from rfl), e34, b_q, g_in (by omega) (by decide), let_q]
        have f35 : fRr s S (zI S34 197 (24 * s + L.length) (S34.1 187 6)) := fRr_tr f22 (fRr_tr (fRr_T (oT_S o26)) (fRr_tr (fRr_z (by omega)) (fRr_tr (fRr_T o34) (fRr_z (by omega)))))
        have oW35 : oW S34 (zI S34 197 (24 * s + L.length) (S34.1 187 6)) := oW_z (by omega)
        show ∃ S', _ ∧ _ ∧ match (match ifS (tkX u n wR) j k1 with
          | .inl f => (.inl f : (Nat × Nat) ⊕ (Nat × Nat × Rc))
          | .inr q => .inr (q.1, q.2.1, (0, 0, c1, q.2.2))) with
          | .inl f => pfR u n s 1 S' (flt f)
          | .inr p => ∃ e', rR u n s m S' p.1 e' p.2.1 (L ++ [p.2.2])
        cases hv4 : ifS (tkX u n wR) j k1 with
        | inl f =>
          rw [hv4] at r34
          exact ⟨_, rfl, f35, pfR_W r34 oW35⟩
        | inr q =>
          obtain ⟨j2, k2, c2⟩ := q
          obtain ⟨x1, x2, x3, x4, x5, x6, x7, x8, x9⟩ := ifS_ok hX (by omega) g4 hv4
          rw [eP, eP] at x6
          rw [hv4] at r34
          obtain ⟨s34, h734, w34⟩ := r34
          have s34' : stR u n s m S34 j2 (e + c1.length + c2.length) k2 := s34
          have w34' : wrR s (zI S26 196 (24 * s + L.length) (S26.1 187 6)) S34 (e + c1.length) c2 := w34
          have w26' : wrR s S22 S26 e c1 := w26
          have e626 : S26.1 187 6 = nI (e + c1.length) := s26'.2.2.2.2.1
          have e634 : S34.1 187 6 = nI (e + c1.length + c2.length) := s34'.2.2.2.2.1
          have row34 : ∀ a b, 192 ≤ a → a ≤ 197 → S34.1 a b = (zI S26 196 (24 * s + L.length) (S26.1 187 6)).1 a b := fun a b y1 y2 => o34.2 a b (by omega) (by omega) (by omega)
          have row26 : ∀ a b, 192 ≤ a → a ≤ 197 → S26.1 a b = S22.1 a b := fun a b y1 y2 => o26.2 a b (by omega) (by omega)
          have hplj2 := pl_le (u := u) (n := n) j2
          have hpj2 := P_le hX (show j ≤ j2 by omega)
          rw [eP, eP] at hpj2
          refine ⟨_, rfl, f35, e + c1.length + c2.length, stR_W s34' oW35, by rw [zI_ne (by decide)]; exact h734, ?_, x4, by show 3 * (e + c1.length + c2.length) ≤ 6 * k2 + pl u n j2; omega⟩
          intro ii c hc
          by_cases yi : ii < L.length
          · rw [List.getElem?_append_left yi] at hc
            have old := ruX_cg ru3 (S' := zI S34 197 (24 * s + L.length) (S34.1 187 6)) (e' := e + c1.length + c2.length) (oldx (fun a b y1 y2 y3 => by rw [zI_at, if_neg (fun z => y3 z.2), row34 a b y1 y2, zI_at, if_neg (fun z => y3 z.2), row26 a b y1 y2])) (fun a b ha hb => by
              rw [zI_ne (by omega), w34'.1 a b ha (by omega), zI_ne (by omega), w26'.1 a b ha hb]
              exact old22 a b (by omega) (by omega)) (by omega)
            exact old ii c hc
          · rw [List.getElem?_append_right (by omega)] at hc
            have hi1 : ii - L.length < 1 := (List.getElem?_eq_some_iff.mp hc).1
            have hii : ii = L.length := by omega
            rw [hii, Nat.sub_self] at hc
            have hcc := (Option.some.inj hc).symm
            rw [hcc, hii]
            refine ⟨?_, fun q => absurd q (by show ¬ 0 = 1; decide), fun _ => ⟨e, ?_, ?_, ?_, Nat.le_refl _, ?_⟩⟩
            · rw [zI_ne (by decide), row34 _ _ (by omega) (by omega), zI_ne (by decide), row26 _ _ (by omega) (by omega)]; exact r192
            · rw [zI_ne (by decide), row34 _ _ (by omega) (by omega), zI_ne (by decide), row26 _ _ (by omega) (by omega)]; exact r195
            · rw [zI_ne (by decide), row34 _ _ (by omega) (by omega), zI_eqs]; exact e626
            · rw [zI_eqs]; exact e634
            · rw [← wmR_s]
              refine rAt_join (fun jj p hj => ?_) (fun jj p hj => ?_)
              · have hjl := (List.getElem?_eq_some_iff.mp hj).1
                have hjl' : jj < c1.length := hjl
                rw [zI_ne (by decide), zI_ne (by decide), w34'.1 189 _ (Or.inl rfl) (by omega), w34'.1 190 _ (Or.inr rfl) (by omega), zI_ne (by decide), zI_ne (by decide)]
                exact w26'.2 jj p hj
              · rw [zI_ne (by decide), zI_ne (by decide)]
                have := w34'.2 jj p hj
                rwa [← Nat.add_assoc] at this
    · -- keep
      rw [if_pos (show nI 1 = 1 from rfl), if_pos (rfl : (1 : Nat) = 1)]
      obtain ⟨v, S37, e37, o37, r37⟩ := r_nm (w := wR) hT s22 hm (low := 0) (top := 9999) (by decide) (by decide)
      have e37' : fX12_amount T 187 0 9999 S22 = some (v, S37) := e37
      rw [e37', b_q, g_in (by omega) (by decide), tn_nI (by omega), let_q, g_in (by omega) (by decide), let_q, if_neg (show ¬ nI 1 = 0 by decide), g_in (by omega) (by decide), let_q]
      have oWa : oW S37 (zI (zI (zI S37 194 (24 * s + L.length) v) 196 (24 * s + L.length) ((zI S37 194 (24 * s + L.length) v).1 187 6)) 197 (24 * s + L.length) ((zI (zI S37 194 (24 * s + L.length) v) 196 (24 * s + L.length) ((zI S37 194 (24 * s + L.length) v).1 187 6)).1 187 6)) := ⟨rfl, fun a b q => by rw [zI_ne (by omega), zI_ne (by omega), zI_ne (by omega)]⟩
      have fa : fRr s S (zI (zI (zI S37 194 (24 * s + L.length) v) 196 (24 * s + L.length) ((zI S37 194 (24 * s + L.length) v).1 187 6)) 197 (24 * s + L.length) ((zI (zI S37 194 (24 * s + L.length) v) 196 (24 * s + L.length) ((zI S37 194 (24 * s + L.length) v).1 187 6)).1 187 6)) := fRr_tr f22 (fRr_tr (fRr_T (oT_S (oN_S o37))) (fRr_tr (fRr_z (by omega)) (fRr_tr (fRr_z (by omega)) (fRr_z (by omega)))))
      cases hn : numS (tkX u n wR) 0 9999 (i + 1) with
      | inl f =>
        rw [hn] at r37
        exact ⟨_, rfl, fa, pfR_le (pfR_W r37 oWa) (by omega)⟩
      | inr V =>
        rw [hn] at r37
        obtain ⟨hv, s37⟩ := r37
        have s37' : stR u n s m S37 (i + 2) e kk := s37
        have hpm := (pl_mono (u := u) (n := n) i).1
        have hpm2 := (pl_mono (u := u) (n := n) (i + 1)).1
        have hpm3 : pl u n i ≤ pl u n (i + 2) := by
          have : pl u n (i + 1 + 1) = pl u n (i + 2) := rfl
          omega
        refine ⟨_, rfl, fa, e, stR_W s37' oWa, by rw [zI_ne (by decide), zI_ne (by decide), zI_ne (by decide), o37.2 _ _ (by omega)]; exact h722, ?_, hk60, by show 3 * e ≤ 6 * kk + pl u n (i + 2); omega⟩
        intro ii c hc
        by_cases yi : ii < L.length
        · rw [List.getElem?_append_left yi] at hc
          refine ruX_cg ru3 (oldx (fun a b y1 y2 y3 => ?_)) (fun a b ha hb => ?_) (Nat.le_refl _) ii c hc
          · rw [zI_at, if_neg (fun z => y3 z.2), zI_at, if_neg (fun z => y3 z.2), zI_at, if_neg (fun z => y3 z.2)]; exact o37.2 a b (by omega)
          · rw [zI_ne (by omega), zI_ne (by omega), zI_ne (by omega), o37.2 a b (by omega)]
            exact old22 a b (by omega) (by omega)
        · rw [List.getElem?_append_right (by omega)] at hc
          have hi1 : ii - L.length < 1 := (List.getElem?_eq_some_iff.mp hc).1
          have hii : ii = L.length := by omega
          rw [hii, Nat.sub_self] at hc
          have hcc := (Option.some.inj hc).symm
          rw [hcc, hii]
          refine ⟨?_, fun _ => ?_, fun q => absurd q (by show ¬ 1 = 0; decide)⟩
          · rw [zI_ne (by decide), zI_ne (by decide), zI_ne (by decide), o37.2 _ _ (by omega)]; exact r192
          · rw [zI_ne (by decide), zI_ne (by decide), zI_eqs]; exact hv
  by_cases y : (tok u n (pl u n i)).1 = 14
  · rw [if_pos y, if_neg n10, if_neg (show ¬ (0 : Int32) = -1 by decide), if_neg (show ¬ (¬ (tok u n (pl u n i)).1 = 14 ∧ ¬ (tok u n (pl u n i)).1 = 15) from fun q => q.1 y)]
    by_cases z : L.length = 12
    · rw [if_pos (show nI L.length = 12 by rw [e12]; exact z), if_pos (show decide (L.length = 12) = true ∨ (tok u n (pl u n i)).1 = 15 ∧ toldR L = true from Or.inl (decide_eq_true z))]
      exact ⟨_, rfl, frz _, pfz _⟩
    · rw [if_neg (show ¬ nI L.length = 12 by rw [e12]; exact z), if_neg (show ¬ (0 : Int32) = 1 by decide), if_neg (show ¬ (decide (L.length = 12) = true ∨ (tok u n (pl u n i)).1 = 15 ∧ toldR L = true) from fun q => q.elim (fun q => z (of_decide_eq_true q)) (fun q => by have := q.1; omega)), if_neg (show ¬ (tok u n (pl u n i)).1 = 15 by omega)]
      have := b78 0 (Or.inl ⟨rfl, y⟩) (by omega)
      rw [if_neg (show ¬ (0 : Nat) = 1 by decide)] at this
      exact this
  · rw [if_neg y, if_pos rfl]
    by_cases y2 : (tok u n (pl u n i)).1 = 15
    · rw [if_pos y2, if_neg n10, if_neg (show ¬ (1 : Int32) = -1 by decide), if_neg (show ¬ (¬ (tok u n (pl u n i)).1 = 14 ∧ ¬ (tok u n (pl u n i)).1 = 15) from fun q => q.2 y2)]
      by_cases z : L.length = 12
      · rw [if_pos (show nI L.length = 12 by rw [e12]; exact z), if_pos (show decide (L.length = 12) = true ∨ (tok u n (pl u n i)).1 = 15 ∧ toldR L = true from Or.inl (decide_eq_true z))]
        exact ⟨_, rfl, frz _, pfz _⟩
      · rw [if_neg (show ¬ nI L.length = 12 by rw [e12]; exact z), if_pos rfl, r_wasR hT s3.1.2.1 hs7 ru3 (by omega) h1, b1_q]
        by_cases v : toldR L = true
        · rw [if_pos v, if_neg n10, if_pos (show decide (L.length = 12) = true ∨ (tok u n (pl u n i)).1 = 15 ∧ toldR L = true from Or.inr ⟨y2, v⟩)]
          exact ⟨_, rfl, frz _, pfz _⟩
        · rw [if_neg v, if_pos rfl, if_neg (show ¬ (decide (L.length = 12) = true ∨ (tok u n (pl u n i)).1 = 15 ∧ toldR L = true) from fun q => q.elim (fun q => z (of_decide_eq_true q)) (fun q => v q.2)), if_pos y2]
          have := b78 1 (Or.inr ⟨rfl, y2⟩) (by omega)
          rw [if_pos (rfl : (1 : Nat) = 1)] at this
          exact this
    · rw [if_neg y2, if_pos rfl, if_pos rfl, if_pos (show ¬ (tok u n (pl u n i)).1 = 14 ∧ ¬ (tok u n (pl u n i)).1 = 15 from ⟨y, y2⟩)]
      exact ⟨_, rfl, frz _, pfz _⟩
end
