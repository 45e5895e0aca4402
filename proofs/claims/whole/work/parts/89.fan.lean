/-! ALL THAT COMES FROM ONE SET, by the reference -/
def cnd (B : Bk) (G : Cg) (L : Nat → Int) (w s fr : Nat) : Int := adI (cdP (fun s => ajC B G w (L s)) (innC B G (nI w)) (owI B w) s fr) (gnC B G w s)
def okS (inn : Int32) (fr s : Nat) : Prop := mi (nI fr) (nI s) = 0 ∧ mi (mi (nI s) (nI fr)) inn = 0
def dd (fr s : Nat) : Nat := (mi (nI s) (nI fr)).toNatClampNeg
theorem dd_n {fr s : Nat} (hs : s < 256) : mi (nI s) (nI fr) = nI (dd fr s) ∧ dd fr s < 256 := is8_n (is8_mi (is8_nI hs))
theorem dd_back {fr s : Nat} (hs : s < 256) (hfr : fr < 256) (h : mi (nI fr) (nI s) = 0) : nI fr ||| nI (dd fr s) = nI s := by
  rw [← (dd_n hs).1]
  refine is8_ext (is8_or (is8_nI hfr) (is8_mi (is8_nI hs))) (is8_nI hs) (fun t ht => ?_)
  rw [m_or, mi_m]
  cases x : zm (nI fr) t with
  | true => rw [(mi0 (is8_nI hfr)).mp h t ht x]; rfl
  | false => cases zm (nI s) t <;> rfl
theorem adI_neg {x d : Int} (h : x < 0) : adI x d = -1 := if_pos h
theorem ajC_neg {B : Bk} {G : Cg} {w : Nat} {x : Int} (h : x < 0) : ajC B G w x = -1 := if_pos h
theorem cnd_no {B : Bk} {G : Cg} {L : Nat → Int} {w s fr : Nat} (h : L fr < 0 ∨ ¬ okS (innC B G (nI w)) fr s) : cnd B G L w s fr = -1 := by
  unfold cnd
  refine adI_neg ?_
  unfold cdP
  rw [if_neg]
  · decide
  · rintro ⟨a1, a2, a3, -⟩
    rcases h with h | h
    · have : ajC B G w (L fr) = -1 := ajC_neg h
      have a1' : 0 ≤ ajC B G w (L fr) := a1
      omega
    · exact h ⟨a2, a3⟩
theorem cnd_ok {B : Bk} {G : Cg} {L : Nat → Int} {w s fr : Nat} (h : okS (innC B G (nI w)) fr s) : cnd B G L w s fr = ldI B G w (L fr) fr s := by
  unfold cnd ldI cdP
  show adI (if 0 ≤ ajC B G w (L fr) ∧ _ ∧ _ ∧ cs8 (owI B w) (mi (nI s) (nI fr)) ≤ ajC B G w (L fr) then ajC B G w (L fr) - cs8 (owI B w) (mi (nI s) (nI fr)) else -1) _ = _
  by_cases z : ajC B G w (L fr) < 0
  · rw [if_neg (fun q => absurd q.1 (by omega)), if_pos z]; exact adI_neg (by decide)
  · rw [if_neg z]
    by_cases v : cs8 (owI B w) (mi (nI s) (nI fr)) ≤ ajC B G w (L fr)
    · rw [if_pos ⟨by omega, h.1, h.2, v⟩, if_pos v]
    · rw [if_neg (fun q => v q.2.2.2), if_neg v]; exact adI_neg (by decide)
/-- but for the plan's row and two rows of longs all is as it was -/
def qR (S S' : zS) : Prop := (∀ a b, a ≠ 223 → S'.1 a b = S.1 a b) ∧ ∀ a b, a ≠ 211 → a ≠ 212 → S'.2 a b = S.2 a b
theorem qR_refl {S : zS} : qR S S := ⟨fun _ _ _ => rfl, fun _ _ _ _ => rfl⟩
theorem qR_trans {S S' S'' : zS} (h : qR S S') (g : qR S' S'') : qR S S'' := ⟨fun a b n => (g.1 a b n).trans (h.1 a b n), fun a b m n => (g.2 a b m n).trans (h.2 a b m n)⟩
theorem qR_bk {S S' : zS} {B : Bk} (h : qR S S') (hr : bkR S.1 B) : bkR S'.1 B := bkR_cg (fun a b hb => h.1 a b (fun z => by subst z; exact absurd hb (by unfold rN; rw [if_neg (by decide), if_neg (by decide), if_neg (by decide), if_neg (by decide)]; omega))) hr
theorem qR_cf {S S' : zS} {G : Cg} (h : qR S S') (hc : cfR S G) : cfR S' G := ⟨(h.1 _ _ (by decide)).trans hc.1, (h.1 _ _ (by decide)).trans hc.2.1, (h.1 _ _ (by decide)).trans hc.2.2.1, (h.1 _ _ (by decide)).trans hc.2.2.2⟩
theorem r_fan {T : zT} (hT : iT T) {B : Bk} (hB : okB B) {G : Cg} (hG : okG B G) {L : Nat → Int} {w fr m : Nat} (hw : w < 60) (hfr : fr < 256) (hm : nI m = mi (mi (mi (bth B) (nI fr)) (goC B G (nI w))) (sdB G)) (hm8 : m < 256) {x : Int32} {S : zS} (hr : bkR S.1 B) (hc : cfR S G) (hx : x.toInt = L fr) (h0 : 0 ≤ x.toInt) (h1 : x.toInt ≤ 1900000000) (hcell : ∀ s, s < 256 → (S.1 223 (256 * w + s)).toInt = bst (cnd B G L w s) fr) : ∃ S', lp (fun a => fX12_plans_l110 T 187 (nI w) (nI fr) x (nI m) a.1 a.2.1 a.2.2) (nI m, 1, S) = some S' ∧ qR S S' ∧ (∀ s, s < 256 → (S'.1 223 (256 * w + s)).toInt = bst (cnd B G L w s) (fr + 1)) ∧ ∀ j, j < 256 * w ∨ 256 * w + 256 ≤ j → S'.1 223 j = S.1 223 j := by
  have mb : ∀ t, zm (nI m) t = (((zm (bth B) t && !zm (nI fr) t) && !zm (goC B G (nI w)) t) && !zm (sdB G) t) := fun t => by rw [hm, mi_m, mi_m, mi_m]
  have ib : ∀ t, zm (innC B G (nI w)) t = ((zm (bth B) t && !zm (goC B G (nI w)) t) && !zm (sdB G) t) := fun t => by unfold innC; rw [mi_m, mi_m]
  -- a set that may come, by what is new in it
  have okm : ∀ s, s < 256 → okS (innC B G (nI w)) fr s → dd fr s &&& m = dd fr s := by
    intro s hs h
    obtain ⟨d1, d2⟩ := dd_n (fr := fr) hs
    have : nI (dd fr s &&& m) = nI (dd fr s) := by
      rw [← nI_and d2 hm8, ← d1]
      refine is8_ext (is8_and (is8_mi (is8_nI hs))) (is8_mi (is8_nI hs)) (fun t ht => ?_)
      rw [m_and]
      cases z : zm (mi (nI s) (nI fr)) t with
      | false => rfl
      | true =>
        have i1 := (mi0 (is8_mi (is8_nI hs))).mp h.2 t ht z
        rw [ib] at i1
        rw [mi_m] at z
        rw [mb]
        revert z i1
        cases zm (bth B) t <;> cases zm (nI fr) t <;> cases zm (goC B G (nI w)) t <;> cases zm (sdB G) t <;> cases zm (nI s) t <;> decide
    have h2 := z_eq.mp this
    rw [nI_toInt (by have := @Nat.and_le_left (dd fr s) m; omega), nI_toInt (by omega)] at h2
    omega
  have mok : ∀ c, c < 256 → c &&& m = c → ∃ s, s < 256 ∧ nI fr ||| nI c = nI s ∧ okS (innC B G (nI w)) fr s ∧ dd fr s = c := by
    intro c hc8 hcm
    obtain ⟨e, hs⟩ := is8_n (is8_or (is8_nI hfr) (is8_nI hc8))
    have cb : ∀ t, zm (nI c) t = true → zm (nI m) t = true := by
      intro t ht
      rw [← hcm, ← nI_and hc8 hm8, m_and, Bool.and_eq_true] at ht
      exact ht.2
    generalize (nI fr ||| nI c).toNatClampNeg = s at e hs
    have sb : ∀ t, zm (nI s) t = (zm (nI fr) t || zm (nI c) t) := fun t => by rw [← e, m_or]
    have ed : mi (nI s) (nI fr) = nI c := by
      refine is8_ext (is8_mi (is8_nI hs)) (is8_nI hc8) (fun t ht => ?_)
      rw [mi_m, sb]
      have k := cb t
      rw [mb] at k
      revert k
      cases zm (bth B) t <;> cases zm (nI fr) t <;> cases zm (goC B G (nI w)) t <;> cases zm (sdB G) t <;> cases zm (nI c) t <;> decide
    refine ⟨s, hs, e, ⟨(mi0 (is8_nI hfr)).mpr (fun t ht z => by rw [sb, z]; rfl), ?_⟩, ?_⟩
    · rw [ed]
      refine (mi0 (is8_nI hc8)).mpr (fun t ht z => ?_)
      have k := cb t z
      rw [mb] at k
      rw [ib]
      revert k
      cases zm (bth B) t <;> cases zm (nI fr) t <;> cases zm (goC B G (nI w)) t <;> cases zm (sdB G) t <;> decide
    · unfold dd
      rw [ed, tn_nI (by omega)]
  have none : ∀ s, ¬ okS (innC B G (nI w)) fr s → bst (cnd B G L w s) (fr + 1) = bst (cnd B G L w s) fr := by
    intro s h
    show (if bst (cnd B G L w s) fr < cnd B G L w s fr then cnd B G L w s fr else bst (cnd B G L w s) fr) = _
    rw [cnd_no (Or.inr h), if_neg]
    have := bst_m1 (cnd B G L w s) fr
    omega
  refine zwp_lp (I := fun a => ∃ S' cur fl, a = (nI cur, fl, S') ∧ cur < 256 ∧ cur &&& m = cur ∧ qR S S' ∧ (∀ j, j < 256 * w ∨ 256 * w + 256 ≤ j → S'.1 223 j = S.1 223 j) ∧ (fl = 1 ∧ (∀ s, s < 256 → (okS (innC B G (nI w)) fr s ∧ cur < dd fr s) → (S'.1 223 (256 * w + s)).toInt = bst (cnd B G L w s) (fr + 1)) ∧ (∀ s, s < 256 → ¬ (okS (innC B G (nI w)) fr s ∧ cur < dd fr s) → (S'.1 223 (256 * w + s)).toInt = bst (cnd B G L w s) fr) ∨ fl = 0 ∧ ∀ s, s < 256 → (S'.1 223 (256 * w + s)).toInt = bst (cnd B G L w s) (fr + 1))) (μ := fun a => if a.2.1 = 0 then 0 else a.1.toNatClampNeg + 1) ?_ ?_
  · rintro a ⟨S', cur, fl, rfl, c8, cm, o1, f1, (⟨rfl, k1, k2⟩ | ⟨rfl, k⟩)⟩
    · obtain ⟨u, hu, eu, ou, du⟩ := mok cur c8 cm
      show zwp (fX12_plans_l110 T 187 (nI w) (nI fr) x (nI m) (nI cur) 1 S') _
      unfold fX12_plans_l110
      have e2 : (256 : Int32) * nI w + nI u = nI (256 * w + u) := by rw [show (256 : Int32) * nI w = nI (256 * w) from by rw [liq, n_mul], n_add]
      obtain ⟨r, S2, er, o2, q⟩ := r_leads hT hB hG hw hu (fr := fr) (x := x) (S := S') (fun t ht z => by
        have i1 := (mi0 (is8_mi (is8_nI hu))).mp ou.2 t ht z
        rw [ib] at i1
        cases y : zm (bth B) t with
        | true => rfl
        | false => rw [y] at i1; cases i1) (qR_bk o1 hr) (qR_cf o1 hc) h0 h1
      rw [if_neg (by decide), eu, let_q, er, b_q, e2, g_in (by omega) (by decide), zT_187_53 hT, tn_nI (by omega), o2.1]
      have old := k2 u hu (fun z => by omega)
      rw [hx, ← cnd_ok ou] at q
      have eb : bst (cnd B G L w u) (fr + 1) = if bst (cnd B G L w u) fr < cnd B G L w u fr then cnd B G L w u fr else bst (cnd B G L w u) fr := rfl
      -- written
      have put : ∀ v : Int32, v.toInt = bst (cnd B G L w u) (fr + 1) → zwp (fX12_plans_b180 T 187 (nI w) (nI fr) x (nI m) (nI cur) v (nI (256 * w + u)) 223 15360 S2) (fun s => (∀ a', s = .inl a' → (∃ S' cur fl, a' = (nI cur, fl, S') ∧ cur < 256 ∧ cur &&& m = cur ∧ qR S S' ∧ (∀ j, j < 256 * w ∨ 256 * w + 256 ≤ j → S'.1 223 j = S.1 223 j) ∧ (fl = 1 ∧ (∀ s, s < 256 → (okS (innC B G (nI w)) fr s ∧ cur < dd fr s) → (S'.1 223 (256 * w + s)).toInt = bst (cnd B G L w s) (fr + 1)) ∧ (∀ s, s < 256 → ¬ (okS (innC B G (nI w)) fr s ∧ cur < dd fr s) → (S'.1 223 (256 * w + s)).toInt = bst (cnd B G L w s) fr) ∨ fl = 0 ∧ ∀ s, s < 256 → (S'.1 223 (256 * w + s)).toInt = bst (cnd B G L w s) (fr + 1))) ∧ (if a'.2.1 = 0 then 0 else a'.1.toNatClampNeg + 1) < (if (1 : Int32) = 0 then 0 else (nI cur).toNatClampNeg + 1)) ∧ ∀ b, s = .inr b → qR S b ∧ (∀ s, s < 256 → (b.1 223 (256 * w + s)).toInt = bst (cnd B G L w s) (fr + 1)) ∧ ∀ j, j < 256 * w ∨ 256 * w + 256 ≤ j → b.1 223 j = S.1 223 j) := by
        intro v hv
        unfold fX12_plans_b180 fX12_plans_b191
        rw [g_in (by omega) (by decide), tn_nI (by omega), let_q, let_q, let_q]
        have o3 : qR S (zI S2 223 (256 * w + u) v) := ⟨fun a b n => by rw [zI_ne n, o2.1]; exact o1.1 a b n, fun a b m n => (o2.2 a b m n).trans (o1.2 a b m n)⟩
        have f3 : ∀ j, j < 256 * w ∨ 256 * w + 256 ≤ j → (zI S2 223 (256 * w + u) v).1 223 j = S.1 223 j := fun j hj => by rw [zI_eq, if_neg (by omega), o2.1]; exact f1 j hj
        have cu : (zI S2 223 (256 * w + u) v).1 223 (256 * w + u) = v := by rw [zI_eq, if_pos rfl]
        have co : ∀ s, s ≠ u → (zI S2 223 (256 * w + u) v).1 223 (256 * w + s) = S'.1 223 (256 * w + s) := fun s hs => by rw [zI_eq, if_neg (by omega), o2.1]
        generalize zI S2 223 (256 * w + u) v = S3 at o3 f3 cu co
        have uniq : ∀ s, s < 256 → okS (innC B G (nI w)) fr s → dd fr s = cur → s = u := by
          intro s hs h1 h2
          have := dd_back hs hfr h1.1
          rw [h2, eu] at this
          have := z_eq.mp this
          rw [nI_toInt (by omega), nI_toInt (by omega)] at this
          omega
        by_cases z : cur = 0
        · have z' : nI cur = 0 := by rw [z]; rfl
          rw [if_pos z']
          refine w_some (zwp_inl ⟨⟨S3, m, 0, ?_, hm8, Nat.and_self m, o3, f3, Or.inr ⟨rfl, fun s hs => ?_⟩⟩, ?_⟩)
          · rw [z']
            have : (0 - 1 : Int32) &&& nI m = nI m := is8_ext (fun t ht => by rw [m_and, is8_nI hm8 t ht, Bool.and_false]) (is8_nI hm8) (fun t ht => by rw [m_and, show (0 - 1 : Int32) = -1 by decide, m_m1 t (by omega), Bool.true_and])
            rw [this]
          · by_cases y : s = u
            · rw [y, cu]; exact hv
            · rw [co s y]
              by_cases o : okS (innC B G (nI w)) fr s
              · have : dd fr s ≠ cur := fun q => y (uniq s hs o q)
                exact k1 s hs ⟨o, by omega⟩
              · rw [none s o]; exact k2 s hs (fun q => o q.1)
          · show (if (0 : Int32) = 0 then 0 else _) < _
            rw [if_pos rfl, if_neg (by decide)]; omega
        · rw [if_neg (fun q => z (by have := z_eq.mp q; rw [nI_toInt (by omega)] at this; have e0 : (0 : Int32).toInt = 0 := rfl; omega)), n_subL (by omega), nI_and (show cur - 1 < 256 by omega) hm8]
          have lt : (cur - 1) &&& m < cur := Nat.lt_of_le_of_lt Nat.and_le_left (by omega)
          refine w_some (zwp_inl ⟨⟨S3, (cur - 1) &&& m, 1, rfl, by omega, by rw [Nat.and_assoc, Nat.and_self], o3, f3, Or.inl ⟨rfl, fun s hs h => ?_, fun s hs h => ?_⟩⟩, ?_⟩)
          · by_cases y : s = u
            · rw [y, cu]; exact hv
            · rw [co s y]
              refine k1 s hs ⟨h.1, ?_⟩
              apply Classical.byContradiction
              intro q
              have n1 : dd fr s ≠ cur := fun q => y (uniq s hs h.1 q)
              have := sub_next cur (by omega) m (dd fr s) cm (okm s hs h.1) (by omega)
              have := h.2
              omega
          · have y : s ≠ u := by
              intro y
              rw [y] at h
              exact h ⟨ou, by omega⟩
            rw [co s y]
            exact k2 s hs (fun q => h ⟨q.1, by have := q.2; omega⟩)
          · show (if (1 : Int32) = 0 then 0 else _) < _
            rw [if_neg (by decide), if_neg (by decide), tn_nI (by omega), tn_nI (by omega)]; omega
      by_cases y : r ≤ S'.1 223 (256 * w + u)
      · have y' := z_le.mp y
        rw [if_pos y, g_in (by omega) (by decide)]
        exact put _ (by rw [eb, if_neg (by omega)]; exact old)
      · have y' := z_lt.mp (z_nle y)
        rw [if_neg y]
        exact put _ (by rw [eb, if_pos (by omega)]; exact q)
    · show zwp (fX12_plans_l110 T 187 (nI w) (nI fr) x (nI m) (nI cur) 0 S') _
      unfold fX12_plans_l110
      rw [if_pos rfl]
      exact w_some (zwp_inr ⟨o1, k, f1⟩)
  · exact ⟨S, m, 1, rfl, hm8, Nat.and_self m, qR_refl, fun _ _ => rfl, Or.inl ⟨rfl, fun s hs h => by
      have h1 := okm s hs h.1
      have := @Nat.and_le_right (dd fr s) m
      omega, fun s hs _ => hcell s hs⟩⟩
