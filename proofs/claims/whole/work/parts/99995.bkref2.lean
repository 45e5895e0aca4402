/-! LETTERS, SETS, NEEDS, COUSINS, by the reference -/
theorem tok_30 {u : Nat → Nat} {n p : Nat} (hu : ∀ i, i < n → u i ≤ 255) : ((tok u n p).1 = 30 ↔ p < n ∧ 97 ≤ u p ∧ u p ≤ 104 ∧ ¬ (p + 1 < n ∧ isLt (u (p + 1)) = true)) ∧ ((tok u n p).1 = 30 → (tok u n p).2.1 = u p - 97 ∧ (tok u n p).2.2 = p + 1) := by
  unfold tok
  by_cases a1 : n ≤ p
  · rw [if_pos a1]
    exact ⟨⟨fun q => absurd q (by show ¬ 46 = 30; decide), fun q => by omega⟩, fun q => absurd q (by show ¬ 46 = 30; decide)⟩
  · rw [if_neg a1]
    by_cases a2 : isDg (u p) = true
    · rw [if_pos a2]
      have := of_decide_eq_true a2
      by_cases a3 : rn isDg u n p - p ≤ 5
      · rw [if_pos a3]
        exact ⟨⟨fun q => absurd q (by show ¬ 31 = 30; decide), fun q => by omega⟩, fun q => absurd q (by show ¬ 31 = 30; decide)⟩
      · rw [if_neg a3]
        exact ⟨⟨fun q => absurd q (by show ¬ 32 = 30; decide), fun q => by omega⟩, fun q => absurd q (by show ¬ 32 = 30; decide)⟩
    · rw [if_neg a2]
      by_cases a3 : isLt (u p) = true
      · rw [if_pos a3]
        have hl := of_decide_eq_true a3
        have e1 : rn isLt u n p = rn isLt u n (p + 1) := rn_go ⟨by omega, a3⟩
        by_cases a4 : p + 1 < n ∧ isLt (u (p + 1)) = true
        · have e2 : rn isLt u n (p + 1) = rn isLt u n (p + 1 + 1) := rn_go a4
          have g := (rn_spec (p := isLt) (u := u) (n := n) (i := p + 1 + 1)).1
          rw [if_neg (show ¬ (rn isLt u n p - p = 1 ∧ u p ≤ 104) by omega)]
          have ht : ¬ twd u p (rn isLt u n p - p) = 30 := by
            rcases twd_r (u := u) (i := p) (len := rn isLt u n p - p) with ⟨h, -⟩ | ⟨h, -⟩ <;> omega
          exact ⟨⟨fun q => absurd q ht, fun q => absurd a4 q.2.2.2⟩, fun q => absurd q ht⟩
        · have e2 : rn isLt u n (p + 1) = p + 1 := rn_stop a4
          have e3 : rn isLt u n p - p = 1 := by omega
          by_cases a5 : u p ≤ 104
          · rw [if_pos ⟨e3, a5⟩]
            exact ⟨⟨fun _ => ⟨by omega, by omega, a5, a4⟩, fun _ => rfl⟩, fun _ => ⟨rfl, by show rn isLt u n p = p + 1; omega⟩⟩
          · rw [if_neg (show ¬ (rn isLt u n p - p = 1 ∧ u p ≤ 104) from fun q => a5 q.2)]
            have ht : ¬ twd u p (rn isLt u n p - p) = 30 := by
              rcases twd_r (u := u) (i := p) (len := rn isLt u n p - p) with ⟨h, -⟩ | ⟨h, -⟩ <;> omega
            exact ⟨⟨fun q => absurd q ht, fun q => absurd q.2.2.1 a5⟩, fun q => absurd q ht⟩
      · rw [if_neg a3]
        have hl : ¬ (97 ≤ u p ∧ u p ≤ 122) := fun q => a3 (decide_eq_true q)
        by_cases a4 : (u p = 60 ∨ u p = 62) ∧ p + 1 < n ∧ u (p + 1) = 61
        · rw [if_pos a4]
          have hk : ¬ (if u p = 60 then 41 else 43) = 30 := by split <;> decide
          exact ⟨⟨fun q => absurd q hk, fun q => by omega⟩, fun q => absurd q hk⟩
        · rw [if_neg a4]
          have hk : ¬ sgk (u p) = 30 := by have := (sgk_r (c := u p)).1; omega
          exact ⟨⟨fun q => absurd q hk, fun q => by omega⟩, fun q => absurd q hk⟩
section
variable {T : zT} {u : Nat → Nat} {n m : Nat}
theorem tkX_L {w : Nat → Bool} (hu : ∀ i, i < n → u i ≤ 255) : ∀ i, (tkX u n w).1 i = 30 → (tkX u n w).2.1 i ≤ 7 := fun i hi => by
  obtain ⟨a, b⟩ := tok_30 (n := n) (p := pl u n i) hu
  have h := a.mp hi
  have := (b hi).1
  show (tok u n (pl u n i)).2.1 ≤ 7
  omega
/-- the sign behind the blanks, as a letter -/
theorem r_letter0 (hT : iT T) {S : zS} (h : txR u n S) {p : Nat} (hp : S.1 187 2 = nI p) (hb : p < 2000000) : (zb1 (fX12_sign T 187 S) fun r4 => if (S.1 187 1) ≤ ((S.1 187 2) + 1) then fX12_letter_b58 T r4 S else zgd (zin ((S.1 187 2) + 1) 400) (if (S.1 (zr T 187 11) (((S.1 187 2) + 1) : Int32).toNatClampNeg) < 97 then fX12_letter_b58 T r4 S else zgd (zin ((S.1 187 2) + 1) 400) (if 122 < (S.1 (zr T 187 11) (((S.1 187 2) + 1) : Int32).toNatClampNeg) then fX12_letter_b58 T r4 S else fX12_letter_b59 T r4 1 S))) = some (if (tok u n p).1 = 30 then nI (tok u n p).2.1 else -1, S) := by
  have hu := txR_255 h
  obtain ⟨t1, t2⟩ := tok_30 (n := n) (p := p) hu
  have hn := h.1
  have b59 : ∀ s0 : Int32, fX12_letter_b59 T (chI u n p) s0 S = some (if (p < n ∧ 97 ≤ u p ∧ u p ≤ 104) ∧ s0 = 0 then nI (u p - 97) else -1, S) := by
    intro s0
    unfold fX12_letter_b59 fX12_letter_b85 fX12_letter_b86
    rw [v_in32, b1_q]
    have e97 : (97 : Int64).toInt = 97 := rfl
    have e104 : (104 : Int64).toInt = 104 := rfl
    unfold chI
    by_cases y : p < n
    · have := hu p y
      rw [if_pos y, nI_toInt (by omega), e97, e104]
      by_cases z : 97 ≤ u p ∧ u p ≤ 104
      · rw [if_pos (show (97 : Int) ≤ (u p : Int) ∧ (u p : Int) ≤ 104 by omega), if_neg n10]
        by_cases v : s0 = 0
        · rw [if_pos v, if_pos ⟨⟨y, z⟩, v⟩, n_subL (by omega)]
        · rw [if_neg v, if_neg (fun q => v q.2)]
      · rw [if_neg (show ¬ ((97 : Int) ≤ (u p : Int) ∧ (u p : Int) ≤ 104) by omega), if_pos rfl, if_neg (fun q => z q.1.2)]
    · rw [if_neg y, if_neg (show ¬ ((97 : Int64).toInt ≤ (-1 : Int32).toInt ∧ (-1 : Int32).toInt ≤ (104 : Int64).toInt) by decide), if_pos rfl, if_neg (fun q => y q.1.1)]
  have r0 : ¬ (p + 1 < n ∧ isLt (u (p + 1)) = true) → fX12_letter_b58 T (chI u n p) S = some (if (tok u n p).1 = 30 then nI (tok u n p).2.1 else -1, S) := by
    intro hno
    unfold fX12_letter_b58
    rw [b59]
    by_cases y : p < n ∧ 97 ≤ u p ∧ u p ≤ 104
    · have y3 := t1.mpr ⟨y.1, y.2.1, y.2.2, hno⟩
      rw [if_pos ⟨y, rfl⟩, if_pos y3, (t2 y3).1]
    · rw [if_neg (fun q => y q.1), if_neg (fun q => y ⟨(t1.mp q).1, (t1.mp q).2.1, (t1.mp q).2.2.1⟩)]
  rw [r_sign hT h hp (by omega), b1_q, hp, h.2.1, n_addL, zT_187_11 hT]
  by_cases y : n ≤ p + 1
  · rw [if_pos (show nI n ≤ nI (p + 1) by rw [n_le (by omega) (by omega)]; exact y)]
    exact r0 (fun q => by have := q.1; omega)
  · rw [if_neg (show ¬ nI n ≤ nI (p + 1) by rw [n_le (by omega) (by omega)]; exact y), g_in (by omega) (by decide), g_in (by omega) (by decide), tn_nI (by omega)]
    have lb := lt_byte h (show p + 1 < n by omega)
    by_cases z1 : S.1 188 (p + 1) < 97
    · rw [if_pos z1]
      exact r0 (fun q => (lb.mp q.2).1 z1)
    · rw [if_neg z1]
      by_cases z2 : 122 < S.1 188 (p + 1)
      · rw [if_pos z2]
        exact r0 (fun q => (lb.mp q.2).2 z2)
      · rw [if_neg z2, b59, if_neg (fun q => n10 q.2), if_neg (fun q => (t1.mp q).2.2.2 ⟨by omega, lb.mpr ⟨z1, z2⟩⟩)]
theorem r_letter (hT : iT T) {S : zS} {s i e k : Nat} (h : stR u n s m S i e k) : ∃ S', fX12_letter T 187 S = some (if (tok u n (pl u n i)).1 = 30 then nI (tok u n (pl u n i)).2.1 else -1, S') ∧ oP S S' ∧ S'.1 187 2 = nI (pl u n i) ∧ stR u n s m S' i e k := by
  obtain ⟨S1, e1, o1, p1, s1⟩ := st_blanks hT h
  have hple := pl_le (u := u) (n := n) i
  have hn := s1.1.1.1
  refine ⟨S1, ?_, o1, p1, s1⟩
  unfold fX12_letter
  rw [e1, b_q]
  exact r_letter0 hT s1.1.1 p1 (by omega)
theorem pr_letter (hT : iT T) {S : zS} {F : Int32} {s c : Nat} (hc : c ≤ 1000) (h : pfR u n s c S F) : ∃ v S', fX12_letter T 187 S = some (v, S') ∧ oP S S' ∧ pfR u n s c S' F := by
  obtain ⟨S1, e1, o1, p1⟩ := pr_blanks hT hc h
  obtain ⟨p, hp, ep⟩ := p1.2.1
  have hn := p1.1.1.1
  unfold fX12_letter
  rw [e1, b_q]
  exact ⟨_, S1, r_letter0 hT p1.1.1 ep (by omega), o1, p1⟩
theorem ltS_ne {X : TK} {hm : Int32} {t : Nat} (ht : t < 8) : ∀ n i x p, zm x t = true → ltS X hm n i x = .inr p → zm p.2 t = true := by
  intro n
  induction n with
  | zero => intro i x p hx h; cases h; exact hx
  | succ n ih =>
    intro i x p hx h
    unfold ltS at h
    by_cases y : X.1 i = 30
    · rw [if_pos y] at h
      by_cases z : zm hm (X.2.1 i) = true ∧ zm x (X.2.1 i) = false
      · rw [if_pos z] at h
        exact ih _ _ _ (by rw [m_or, hx]; rfl) h
      · rw [if_neg z] at h; cases h
    · rw [if_neg y] at h; cases h; exact hx
theorem mdR_P {S S' : zS} {i e kk kd : Nat} {B : Bk} (h : mdR u n m S i e kk B kd) (o : oP S S') (s : stR u n 1 m S' i e kk) : mdR u n m S' i e kk B kd := mdR_N h (oN_P o) s (Nat.le_refl _)
theorem r_lt (hT : iT T) (hn4 : n ≤ 400) (hm : m ≤ n ∧ pl u n m = n ∧ ∀ i, i < m → pl u n i < n) {e kk kd L : Nat} {B : Bk} : ∀ N S i x, m < N + i → mdR u n m S i e kk B kd → S.1 187 2 = nI (pl u n i) → ∃ y S', lp (fun a => fX12_setClause_l21 T 187 (nI L) a.1 a.2.1 a.2.2) (x, (if (tok u n (pl u n i)).1 = 30 then nI (tok u n (pl u n i)).2.1 else -1), S) = some (y, S') ∧ oN S S' ∧ match ltS (tkX u n wB) (bth B) N i x with
    | .inl f => pfR u n 1 1 S' (flt f) ∧ okF f
    | .inr p => y = p.2 ∧ mdR u n m S' p.1 e kk B kd ∧ S'.1 187 2 = nI (pl u n p.1) := by
  have eK : ∀ i, (tkX u n wB).1 i = (tok u n (pl u n i)).1 := fun i => rfl
  have eV : ∀ i, (tkX u n wB).2.1 i = (tok u n (pl u n i)).2.1 := fun i => rfl
  have eP : ∀ i, (tkX u n wB).2.2.1 i = pl u n i := fun i => rfl
  intro N
  induction N with
  | zero => intro S i x hN h _; have := h.1.1.2.1; omega
  | succ N ih =>
    intro S i x hN h hp
    have hs := h.1.1
    have hu := txR_255 hs.1.1
    have hn := hs.1.1.1
    have hple := pl_le (u := u) (n := n) i
    obtain ⟨t1, t2⟩ := tok_30 (n := n) (p := pl u n i) hu
    unfold ltS
    rw [eK, eV, eP]
    by_cases y : (tok u n (pl u n i)).1 = 30
    · have hq := t1.mp y
      obtain ⟨v1, v2⟩ := t2 y
      have v7 : (tok u n (pl u n i)).2.1 < 8 := by omega
      rw [if_pos y, if_pos y]
      have h199 := h.1.2.2.1.1 (tok u n (pl u n i)).2.1 v7
      have em1 : ¬ nI (tok u n (pl u n i)).2.1 = -1 := by
        intro q
        have := z_eq.mp q
        rw [nI_toInt (by omega)] at this
        have em : (-1 : Int32).toInt = -1 := rfl
        omega
      -- one step on
      have b63 : ∀ S' : zS, S'.1 187 2 = nI (pl u n i) → (∃ v S2, fX12_letter T 187 (zI S' 187 2 (nI (pl u n i + 1))) = some (v, S2)) → ∃ v S2, fX12_letter T 187 (zI S' 187 2 (nI (pl u n i + 1))) = some (v, S2) ∧ fX12_setClause_b63 T 187 (nI L) x (nI (tok u n (pl u n i)).2.1) S' = some (.inl (x ||| (1 <<< (nI (tok u n (pl u n i)).2.1 &&& 31)), v, S2)) := by
        rintro S' hp' ⟨v, S2, e2⟩
        refine ⟨v, S2, e2, ?_⟩
        unfold fX12_setClause_b63
        rw [let_q, hp', n_addL, let_q, e2, b_q]
      have el : fX12_setClause_l21 T 187 (nI L) x (nI (tok u n (pl u n i)).2.1) S = if zm (bth B) (tok u n (pl u n i)).2.1 = true ∧ zm x (tok u n (pl u n i)).2.1 = false then fX12_setClause_b63 T 187 (nI L) x (nI (tok u n (pl u n i)).2.1) S else fX12_setClause_b63 T 187 (nI L) x (nI (tok u n (pl u n i)).2.1) (zI S 187 3 (flt (5, pl u n i))) := by
        have e54 : fX12_setClause_b54 T 187 (nI L) x (nI (tok u n (pl u n i)).2.1) S = fX12_setClause_b63 T 187 (nI L) x (nI (tok u n (pl u n i)).2.1) (zI S 187 3 (flt (5, pl u n i))) := by
          unfold fX12_setClause_b54
          have ef : fX12_fails T 187 5 (nI (pl u n i)) S = some ((), zI S 187 3 (flt (5, pl u n i))) := r_fails0 hs.2.2.2.1 (c := 5)
          rw [hp, ef, b_q]
        unfold fX12_setClause_l21
        rw [if_neg em1, if_pos hs.2.2.2.1, show (8 : Int32) + nI (tok u n (pl u n i)).2.1 = nI (8 + (tok u n (pl u n i)).2.1) from by rw [show (8 : Int32) = nI 8 from rfl, n_add], g_in (by omega) (by decide), zT_187_22 hT, tn_nI (by omega), h199, e54]
        by_cases z : zm (bth B) (tok u n (pl u n i)).2.1 = true
        · rw [if_pos z, if_neg n10, m_sh (by omega)]
          cases w : zm x (tok u n (pl u n i)).2.1 with
          | true => rw [if_pos rfl, if_pos rfl, if_neg (show ¬ (zm (bth B) (tok u n (pl u n i)).2.1 = true ∧ true = false) from fun q => by cases q.2)]
          | false => rw [if_neg (show ¬ (if false = true then (1 : Int32) else 0) = 1 by decide), if_pos ⟨z, rfl⟩]
        · rw [if_neg z, if_pos rfl, if_neg (show ¬ (zm (bth B) (tok u n (pl u n i)).2.1 = true ∧ zm x (tok u n (pl u n i)).2.1 = false) from fun q => z q.1)]
      by_cases z : zm (bth B) (tok u n (pl u n i)).2.1 = true ∧ zm x (tok u n (pl u n i)).2.1 = false
      · rw [if_pos z] at el ⊢
        have st1 := st_step hs hp v2 hq.1 (i_lt hm hq.1)
        obtain ⟨S2, e2, o2', p2, s2⟩ := r_letter hT st1
        obtain ⟨v, S2', e3, e4⟩ := b63 S hp ⟨_, S2, e2⟩
        rw [e2] at e3
        cases e3
        rw [e4] at el
        have on : oN S S2 := oN_tr (oN_z (Or.inl rfl)) (oN_P o2')
        obtain ⟨yy, S3, e5, o5, r5⟩ := ih S2 (i + 1) _ (by omega) (mdR_N h on s2 (pl_go i)) p2
        exact ⟨yy, S3, lp_go el e5, oN_tr on o5, r5⟩
      · rw [if_neg z] at el ⊢
        have hf : okF (5, pl u n i) := ⟨by show 5 ≤ 5; decide, by show pl u n i ≤ 400; omega⟩
        have hF := flt_ok hf
        have p3 : pfR u n 1 1 (zI (zI S 187 3 (flt (5, pl u n i))) 187 2 (nI (pl u n i + 1))) (flt (5, pl u n i)) := ⟨ctR_z (ctR_z hs.1 (Or.inr (Or.inl rfl))) (Or.inl rfl), ⟨pl u n i + 1, by omega, by rw [zI_eqs]⟩, by rw [zI_eqn (by decide), zI_eqs]⟩
        obtain ⟨v, S2, e2, o2', p2⟩ := pr_letter hT (by decide) p3
        obtain ⟨v', S2', e3, e4⟩ := b63 (zI S 187 3 (flt (5, pl u n i))) (by rw [zI_eqn (by decide)]; exact hp) ⟨_, S2, e2⟩
        rw [e2] at e3
        cases e3
        rw [e4] at el
        refine ⟨x ||| (1 <<< (nI (tok u n (pl u n i)).2.1 &&& 31)), S2, lp_go el (lp_stop ?_), oN_tr (oN_z (Or.inr rfl)) (oN_tr (oN_z (Or.inl rfl)) (oN_P o2')), p2, hf⟩
        show fX12_setClause_l21 T 187 (nI L) _ v S2 = _
        unfold fX12_setClause_l21
        rw [p2.2.2, if_neg hF]
        split <;> rfl
    · rw [if_neg y, if_neg y]
      refine ⟨x, S, lp_stop ?_, oN_refl, rfl, h, hp⟩
      show fX12_setClause_l21 T 187 (nI L) x (-1) S = _
      unfold fX12_setClause_l21
      rw [if_pos rfl]
end
