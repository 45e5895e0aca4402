/-! A THING TO ITS END; ANY CLAUSE OF A BOOK, by the reference -/
section
variable {T : zT} {u : Nat → Nat} {n m : Nat}
theorem mdR_new {S S' : zS} {i i' e kk kd t A Bn : Nat} {B : Bk} (h : mdR u n m S i e kk B kd) (s : stR u n 1 m S' i' e kk) (hp : pl u n i ≤ pl u n i') (o : ∀ a b, ¬ (a = 187 ∧ (b = 2 ∨ b = 3)) → ¬ (199 ≤ a ∧ a ≤ 201 ∧ b = 8 + t) → S'.1 a b = S.1 a b) (c0 : S'.1 199 (8 + t) = 1) (c1 : S'.1 200 (8 + t) = nI A) (c2 : S'.1 201 (8 + t) = nI Bn) (ht : t < 8) (hz : zm (bth B) t = false) : mdR u n m S' i' e kk (newT B t A Bn) kd := by
  obtain ⟨⟨h1, h2, ⟨a1, a2, a3, a4, a5, a6, a7⟩, h4, h5, h6, h7⟩, h8, h9⟩ := h
  have eb : ∀ t', t' < 8 → zm (bth (newT B t A Bn)) t' = (zm (bth B) t' || decide (t' = t)) := fun t' ht' => by
    show zm (bth B ||| (1 <<< (nI t &&& 31))) t' = _
    exact m_or_shl (by omega) (by omega)
  have e6 : ∀ k, k ≠ 0 → (newT B t A Bn).1 6 k = B.1 6 k := fun k hk => by
    show (if 6 ≤ 5 ∧ k = t then (if 6 = 0 then nI A else if 6 = 1 then nI Bn else if 6 = 2 then -1 else 0) else if 6 = 6 ∧ k = 0 then bth B ||| (1 <<< (nI t &&& 31)) else B.1 6 k) = _
    rw [if_neg (by omega), if_neg (fun q => hk q.2)]
  have ene : ∀ k t', k ≤ 5 → t' ≠ t → (newT B t A Bn).1 k t' = B.1 k t' := fun k t' hk hne => by
    show (if k ≤ 5 ∧ t' = t then (if k = 0 then nI A else if k = 1 then nI Bn else if k = 2 then -1 else 0) else if k = 6 ∧ t' = 0 then bth B ||| (1 <<< (nI t &&& 31)) else B.1 k t') = _
    rw [if_neg (fun q => hne q.2), if_neg (by omega)]
  refine ⟨⟨s, by rw [o _ _ (by omega) (by omega)]; exact h2, ⟨fun t' ht' => ?_, fun t' ht' k hk => ?_, by rw [o _ _ (by omega) (by omega), e6 _ (by decide)]; exact a3, by rw [o _ _ (by omega) (by omega), e6 _ (by decide)]; exact a4, by rw [o _ _ (by omega) (by omega), e6 _ (by decide)]; exact a5, by rw [o _ _ (by omega) (by omega), e6 _ (by decide)]; exact a6, by rw [o _ _ (by omega) (by omega), e6 _ (by decide)]; exact a7⟩, rcl_cg h4 (fun a b _ _ _ _ => o a b (by omega) (by omega)) (fun a b _ _ => o a b (by omega) (by omega)) (Nat.le_refl _), fun t' ht' hz' => ?_, h6, by omega⟩, ?_, ?_⟩
  · rw [eb t' ht']
    by_cases z : t' = t
    · rw [z, c0, decide_eq_true rfl, Bool.or_true, if_pos rfl]
    · rw [decide_eq_false z, Bool.or_false, o _ _ (by omega) (by omega)]; exact a1 t' ht'
  · by_cases z : t' = t
    · subst z
      obtain ⟨b1, b2, b3, b4⟩ := h5 t' ht' hz
      show _ = (if k ≤ 5 ∧ t' = t' then (if k = 0 then nI A else if k = 1 then nI Bn else if k = 2 then -1 else 0) else if k = 6 ∧ t' = 0 then bth B ||| (1 <<< (nI t' &&& 31)) else B.1 k t')
      rw [if_pos ⟨by omega, rfl⟩]
      have : k = 0 ∨ k = 1 ∨ k = 2 ∨ k = 3 ∨ k = 4 ∨ k = 5 := by omega
      rcases this with rfl | rfl | rfl | rfl | rfl | rfl
      · exact c1
      · exact c2
      · rw [o _ _ (by omega) (by omega), a2 t' ht' 2 (by decide)]; exact b1
      · rw [o _ _ (by omega) (by omega), a2 t' ht' 3 (by decide)]; exact b2
      · rw [o _ _ (by omega) (by omega), a2 t' ht' 4 (by decide)]; exact b3
      · rw [o _ _ (by omega) (by omega), a2 t' ht' 5 (by decide)]; exact b4
    · rw [ene k t' (by omega) z, o _ _ (by omega) (by omega)]; exact a2 t' ht' k hk
  · rw [eb t' ht', Bool.or_eq_false_iff] at hz'
    have hne := of_decide_eq_false hz'.2
    obtain ⟨b1, b2, b3, b4⟩ := h5 t' ht' hz'.1
    exact ⟨by rw [ene _ _ (by decide) hne]; exact b1, by rw [ene _ _ (by decide) hne]; exact b2, by rw [ene _ _ (by decide) hne]; exact b3, by rw [ene _ _ (by decide) hne]; exact b4⟩
  · show S'.1 192 (24 + B.2.length) = nI kd
    rw [o _ _ (by omega) (by omega)]; exact h8
  · show S'.1 196 (24 + B.2.length) = nI e
    rw [o _ _ (by omega) (by omega)]; exact h9
theorem exS_2 {X : TK} {t : Nat} : ∀ N i sn B p, exS X t N i sn B = .inr p → p.2.2 = B.2 := by
  intro N
  induction N with
  | zero => intro i sn B p h; cases h; rfl
  | succ N ih =>
    intro i sn B p h
    unfold exS at h
    by_cases y : 10 ≤ X.1 i ∧ X.1 i ≤ 13
    · rw [if_pos y] at h
      by_cases z : sn (X.1 i) = true
      · rw [if_pos z] at h; cases h
      · rw [if_neg z] at h
        cases hn : numS X (if X.1 i = 10 then 1 else 0) (if X.1 i = 10 then 60 else 9999) (i + 1) with
        | inl f => rw [hn] at h; cases h
        | inr v =>
          rw [hn] at h
          exact ih (i + 2) (fun q => sn q || q == X.1 i) (setB B (X.1 i - 8) t (nI v)) p h
    · rw [if_neg y] at h; cases h; rfl
theorem r_thing (hT : iT T) (hn4 : n ≤ 400) (hm : m ≤ n ∧ pl u n m = n ∧ ∀ i, i < m → pl u n i < n) {S : zS} {i e kk : Nat} {B : Bk} (h : mdR u n m S i e kk B 0) (h24 : B.2.length < 24) : ∃ S2 S', fX12_thingClause T 187 S = some ((), S2) ∧ fX12_bookClause_b177 T 187 (nI (24 + B.2.length)) S2 = some ((), S') ∧ bbR u n m S (thS (tkX u n wB) B i kk) S' := by
  have hX := tkX_ok (w := wB) hn4 (Or.inl rfl) hm
  have eK : ∀ i, (tkX u n wB).1 i = (tok u n (pl u n i)).1 := fun i => rfl
  have eV : ∀ i, (tkX u n wB).2.1 i = (tok u n (pl u n i)).2.1 := fun i => rfl
  have eP : ∀ i, (tkX u n wB).2.2.1 i = pl u n i := fun i => rfl
  obtain ⟨S1, e1, o1, p1, s1⟩ := r_letter hT h.1.1
  have hu := txR_255 s1.1.1
  have d1 := mdR_P h o1 s1
  have f1 : fRb S S1 := fRb_N (oN_P o1)
  have hple := pl_le (u := u) (n := n) i
  -- a fault at the letter
  have flt0 : ∀ c : Nat, c ≤ 5 → ∃ S', fX12_fails T 187 (nI c) (nI (pl u n i)) S1 = some ((), zI S1 187 3 (flt (c, pl u n i))) ∧ fX12_bookClause_b177 T 187 (nI (24 + B.2.length)) (zI S1 187 3 (flt (c, pl u n i))) = some ((), S') ∧ fRb S S' ∧ pfR u n 1 1 S' (flt (c, pl u n i)) := by
    intro c hc
    have p3 : pfR u n 1 1 (zI S1 187 3 (flt (c, pl u n i))) (flt (c, pl u n i)) := ⟨ctR_z s1.1 (Or.inr (Or.inl rfl)), ⟨pl u n i, by omega, by rw [zI_eqn (by decide)]; exact p1⟩, by rw [zI_eqs]⟩
    obtain ⟨S', e5, f5, p5⟩ := r_b177F hT p3 (by decide) h24
    exact ⟨S', r_fails0 s1.2.2.2.1, e5, fRb_tr f1 (fRb_tr (fRb_N (oN_z (Or.inr rfl))) f5), p5⟩
  obtain ⟨t1, t2⟩ := tok_30 (n := n) (p := pl u n i) hu
  unfold fX12_thingClause thS
  rw [e1, b_q, p1]
  by_cases k30 : (tok u n (pl u n i)).1 = 30
  · have hq := t1.mp k30
    obtain ⟨v1, v2⟩ := t2 k30
    have v7 : (tok u n (pl u n i)).2.1 < 8 := by omega
    have em1 : ¬ nI (tok u n (pl u n i)).2.1 = -1 := by
      intro q
      have := z_eq.mp q
      rw [nI_toInt (by omega)] at this
      have em : (-1 : Int32).toInt = -1 := rfl
      omega
    have h199 := d1.1.2.2.1.1 (tok u n (pl u n i)).2.1 v7
    show ∃ S2 S', _ ∧ _ ∧ bbR u n m S (if (tok u n (pl u n i)).1 = 30 then (if zm (bth B) (tok u n (pl u n i)).2.1 = true then .inl (5, pl u n i) else match numS (tkX u n wB) 1 9999 (i + 1) with
      | .inl f => .inl f
      | .inr a => match numS (tkX u n wB) 0 999 (i + 2) with
        | .inl f => .inl f
        | .inr b => match exS (tkX u n wB) (tok u n (pl u n i)).2.1 400 (i + 3) (fun _ => false) (newT B (tok u n (pl u n i)).2.1 a b) with
          | .inl f => .inl f
          | .inr p => .inr (p.1, kk, addB p.2 (0, 0, 0, []))) else .inl (0, pl u n i)) S'
    rw [if_pos k30, if_pos k30, if_neg em1]
    generalize (tok u n (pl u n i)).2.1 = t at v7 h199 ⊢
    have gi : ∀ {β : Type} {k : Option β}, zgd (zin (nI (8 + t)) 16) k = k := g_in (by omega) (by decide)
    have tn := tn_nI (show 8 + t < 2147483648 by omega)
    rw [show (8 : Int32) + nI t = nI (8 + t) from by rw [show (8 : Int32) = nI 8 from rfl, n_add], let_q, gi, zT_187_22 hT, tn, h199]
    by_cases z : zm (bth B) t = true
    · obtain ⟨S', e3, e4, f4, p4⟩ := flt0 5 (by decide)
      have e3' : fX12_fails T 187 5 (nI (pl u n i)) S1 = some ((), zI S1 187 3 (flt (5, pl u n i))) := e3
      rw [if_pos z, if_pos z, if_pos rfl, e3', b_q]
      exact ⟨_, S', rfl, e4, f4, p4⟩
    · have z' : zm (bth B) t = false := by simpa using z
      have st1 := st_step s1 p1 v2 hq.1 (i_lt hm hq.1)
      have fz : fRb (zI S1 187 2 (nI (pl u n i + 1))) (zI (zI S1 187 2 (nI (pl u n i + 1))) 199 (8 + t) 1) := fRb_z (by omega)
      have st2 : stR u n 1 m (zI (zI S1 187 2 (nI (pl u n i + 1))) 199 (8 + t) 1) (i + 1) e kk := stR_V st1 (oV_z (by omega))
      obtain ⟨a, S3, e3, o3, r3⟩ := r_nm (w := wB) hT st2 hm (low := 1) (top := 9999) (by decide) (by decide)
      have e3' : fX12_amount T 187 1 9999 (zI (zI S1 187 2 (nI (pl u n i + 1))) 199 (8 + t) 1) = some (a, S3) := e3
      have f3 : fRb S (zI S3 200 (8 + t) a) := fRb_tr f1 (fRb_tr (fRb_N (oN_z (Or.inl rfl))) (fRb_tr fz (fRb_tr (fRb_N o3) (fRb_z (by omega)))))
      rw [if_neg z, if_neg z, if_neg (show ¬ (0 : Int32) = 1 by decide), n_addL, let_q, gi, let_q, e3', b_q, gi, zT_187_23 hT, let_q, zT_187_24 hT]
      unfold fX12_thingClause_b104
      have stop : ∀ (S' : zS), lp (fun a : Int32 × Int32 × zS => fX12_thingClause_l106 T 187 (nI (8 + t)) a.1 a.2.1 a.2.2) (0, 0, S') = some S' := fun S' => lp_stop (by
        show fX12_thingClause_l106 T 187 (nI (8 + t)) 0 0 S' = _
        unfold fX12_thingClause_l106
        rw [if_pos rfl])
      cases hn : numS (tkX u n wB) 1 9999 (i + 1) with
      | inl f =>
        rw [hn] at r3
        have hF := flt_ok (numS_inl hX hn)
        have p3 : pfR u n 1 0 (zI S3 200 (8 + t) a) (flt f) := pfR_V r3 (oV_z (by omega))
        obtain ⟨S4, e4, o4, p4⟩ := pr_num hT (by decide) hF p3 (low := 0) (top := 999)
        have p5 : pfR u n 1 0 (zI S4 201 (8 + t) 0) (flt f) := pfR_V p4 (oV_z (by omega))
        obtain ⟨S', e6, f6, p6⟩ := r_b177F hT p5 (by decide) h24
        rw [e4, b_q, gi, let_q, p5.2.2, if_neg hF, stop, b1_q]
        exact ⟨_, S', rfl, e6, fRb_tr f3 (fRb_tr (fRb_N o4) (fRb_tr (fRb_z (by omega)) f6)), p6⟩
      | inr A =>
        rw [hn] at r3
        obtain ⟨ha, s3⟩ := r3
        obtain ⟨b, S4, e4, o4, r4⟩ := r_nm (w := wB) hT (stR_V s3 (oV_z (a := 200) (b := 8 + t) (x := a) (by omega))) hm (low := 0) (top := 999) (by decide) (by decide)
        have e4' : fX12_amount T 187 0 999 (zI S3 200 (8 + t) a) = some (b, S4) := e4
        have f4 : fRb S (zI S4 201 (8 + t) b) := fRb_tr f3 (fRb_tr (fRb_N o4) (fRb_z (by omega)))
        have r4' : match numS (tkX u n wB) 0 999 (i + 2) with
          | .inl f => pfR u n 1 0 S4 (flt f)
          | .inr V => b = nI V ∧ stR u n 1 m S4 (i + 3) e kk := r4
        rw [e4', b_q, gi, let_q]
        show ∃ S2 S', _ ∧ _ ∧ bbR u n m S (match numS (tkX u n wB) 0 999 (i + 2) with
          | .inl f => .inl f
          | .inr b => match exS (tkX u n wB) t 400 (i + 3) (fun _ => false) (newT B t A b) with
            | .inl f => .inl f
            | .inr p => .inr (p.1, kk, addB p.2 (0, 0, 0, []))) S'
        cases hn2 : numS (tkX u n wB) 0 999 (i + 2) with
        | inl f =>
          rw [hn2] at r4'
          have hF := flt_ok (numS_inl hX hn2)
          have p5 : pfR u n 1 0 (zI S4 201 (8 + t) b) (flt f) := pfR_V r4' (oV_z (by omega))
          obtain ⟨S', e6, f6, p6⟩ := r_b177F hT p5 (by decide) h24
          rw [p5.2.2, if_neg hF, stop, b1_q]
          exact ⟨_, S', rfl, e6, fRb_tr f4 f6, p6⟩
        | inr Bn =>
          rw [hn2] at r4'
          obtain ⟨hbn, s4⟩ := r4'
          have hmo : pl u n i ≤ pl u n (i + 3) := Nat.le_trans (pl_go i) (Nat.le_trans (pl_go (i + 1)) (pl_go (i + 2)))
          have d5 : mdR u n m (zI S4 201 (8 + t) b) (i + 3) e kk (newT B t A Bn) 0 := mdR_new d1 (stR_V s4 (oV_z (by omega))) hmo (fun c d q1 q2 => by rw [zI_o (by omega), o4.2 c d q1, zI_o (by omega), o3.2 c d q1, zI_o (by omega), zI_o (by omega)]) (by rw [zI_ne (by decide), o4.2 _ _ (by omega), zI_ne (by decide), o3.2 _ _ (by omega), zI_eqs]) (by rw [zI_ne (by decide), o4.2 _ _ (by omega), zI_eqs]; exact ha) (by rw [zI_eqs]; exact hbn) v7 z'
          have ebb : zm (bth (newT B t A Bn)) t = true := by
            show zm (bth B ||| (1 <<< (nI t &&& 31))) t = true
            exact m_or_eq v7
          obtain ⟨S5, e5, f5, r5⟩ := r_ex hT hn4 hm v7 400 (zI S4 201 (8 + t) b) (i + 3) (fun _ => false) 0 _ (by have := hX.1; omega) d5 ebb (fun q _ _ => by rw [m_0])
          rw [d5.1.1.2.2.2.1, if_pos rfl, e5, b1_q]
          show ∃ S2 S', _ ∧ _ ∧ bbR u n m S (match exS (tkX u n wB) t 400 (i + 3) (fun _ => false) (newT B t A Bn) with
            | .inl f => .inl f
            | .inr p => .inr (p.1, kk, addB p.2 (0, 0, 0, []))) S'
          cases hr : exS (tkX u n wB) t 400 (i + 3) (fun _ => false) (newT B t A Bn) with
          | inl f =>
            rw [hr] at r5
            obtain ⟨S', e6, f6, p6⟩ := r_b177F hT r5 (by decide) h24
            exact ⟨S5, S', rfl, e6, fRb_tr f4 (fRb_tr f5 f6), p6⟩
          | inr p =>
            rw [hr] at r5
            have r5' : mdR u n m S5 p.1 e kk p.2 0 := r5
            have hl : p.2.2 = B.2 := exS_2 400 (i + 3) (fun _ => false) (newT B t A Bn) p hr
            have h24' : p.2.2.length < 24 := by rw [hl]; exact h24
            obtain ⟨S', e6, f6, r6⟩ := r_b177 hT r5' h24' (by decide)
            rw [hl] at e6
            exact ⟨S5, S', rfl, e6, fRb_tr f4 (fRb_tr f5 f6), e, r6⟩
  · obtain ⟨S', e3, e4, f4, p4⟩ := flt0 0 (by decide)
    have e3' : fX12_fails T 187 0 (nI (pl u n i)) S1 = some ((), zI S1 187 3 (flt (0, pl u n i))) := e3
    rw [if_neg k30, if_pos rfl, e3', b_q]
    refine ⟨_, S', rfl, e4, f4, ?_⟩
    rw [eK, if_neg k30]
    exact p4
end
