theorem ernF_pos {env : Nat → Int64} {home : Int32} {c : Cl} (h : hld env c.2.2.2 ∧ c.2.1 &&& (home ^^^ (-1)) = 0) : ernF env home c = c.2.2.1 := if_pos h
theorem ernF_neg {env : Nat → Int64} {home : Int32} {c : Cl} (h : ¬ (hld env c.2.2.2 ∧ c.2.1 &&& (home ^^^ (-1)) = 0)) : ernF env home c = 0 := if_neg h
/-! EARNED and NEED, by the class -/
/-- ints are as they were, longs but for two cells -/
def onlyJ2 (S S' : zS) (k : Nat) : Prop := S'.1 = S.1 ∧ ∀ a b, a ≠ k → a ≠ k + 1 → S'.2 a b = S.2 a b
theorem v_place {T : zT} {ks : Nat} {w home inn : Int32} {S : zS} (h2 : zr T ks 0 = ks + 1) (i1 : is8 home) (i2 : is8 inn) : zwp (fX9_place T ks w home inn S) (fun r => onlyJ S r.2 (ks + 1) ∧ (∀ q, wB q = true → envB w (nI (pc home)) (nI (pc inn)) q = r.2.2 (ks + 1) q) ∧ ∀ q, wB q = false → r.2.2 (ks + 1) q = S.2 (ks + 1) q) := by
  unfold fX9_place
  rw [g_t (by decide), let_q, v_bitCount i1, b1_q, g_t (by decide), let_q, v_bitCount i2, b1_q, g_t (by decide), let_q, h2]
  refine w_some ⟨⟨rfl, fun a b hab => ?_⟩, fun q hq => ?_, fun q hq => ?_⟩
  · rw [zJ_o hab, zJ_o hab, zJ_o hab]
  · have hq' := of_decide_eq_true hq
    have : q = 19 ∨ q = 20 ∨ q = 21 := by omega
    rcases this with rfl | rfl | rfl
    · show _ = (zJ (zJ (zJ S (ks + 1) 19 _) (ks + 1) 20 _) (ks + 1) 21 _).2 (ks + 1) 19
      rw [zJ_at, if_neg (by omega), zJ_at, if_neg (by omega), zJ_s]; rfl
    · show _ = (zJ (zJ (zJ S (ks + 1) 19 _) (ks + 1) 20 _) (ks + 1) 21 _).2 (ks + 1) 20
      rw [zJ_at, if_neg (by omega), zJ_s]; rfl
    · show _ = (zJ (zJ (zJ S (ks + 1) 19 _) (ks + 1) 20 _) (ks + 1) 21 _).2 (ks + 1) 21
      rw [zJ_s]; rfl
  · have hq' := of_decide_eq_false hq
    rw [zJ_at, if_neg (fun z => hq' (by rw [z.2]; decide)), zJ_at, if_neg (fun z => hq' (by rw [z.2]; decide)), zJ_at, if_neg (fun z => hq' (by rw [z.2]; decide))]
theorem v_earnings {T : zT} {kb ks kk kc : Nat} {l : List Cl} {w home inn : Int32} {S : zS} (b12 : zr T kb 12 = kk) (b14 : zr T kb 14 = kc) (g0 : zr T kk 0 = kk + 1) (g1 : zr T kk 1 = kk + 2) (g2 : zr T kk 2 = kk + 3) (h1 : zr T kc 0 = kc + 1) (h2 : zr T ks 0 = ks + 1) (h3 : zr T ks 1 = ks + 2) (hl : cCls S kk kc l) (i1 : is8 home) (i2 : is8 inn) : zwp (fX0_earnings T kb ks w home inn S) (fun r => r.1 = ern (envB w (nI (pc home)) (nI (pc inn))) home l ∧ onlyJ2 S r.2 (ks + 1)) := by
  unfold fX0_earnings
  refine w_b (v_place h2 i1 i2) (fun _ S3 hp => ?_)
  obtain ⟨p1, p2, -⟩ := hp
  have hl3 := cCls_eq p1.1 hl
  rw [b12, b14]
  refine w_b (v_holding g2 h1 h2 h3 hl3 p2) (fun r S6 hq => ?_)
  obtain ⟨q1, q2⟩ := hq
  rw [v_together g0 g1 (cCls_eq q2.1 hl3) q1, b1_q]
  exact w_some ⟨rfl, q2.1.trans p1.1, fun a b ha hb => (q2.2 a b hb).trans (p1.2 a b ha)⟩
theorem v_needing {T : zT} {kb ks kk kc : Nat} {l : List Cl} {w home inn : Int32} {S : zS} (b12 : zr T kb 13 = kk) (b14 : zr T kb 14 = kc) (g0 : zr T kk 0 = kk + 1) (g1 : zr T kk 1 = kk + 2) (g2 : zr T kk 2 = kk + 3) (h1 : zr T kc 0 = kc + 1) (h2 : zr T ks 0 = ks + 1) (h3 : zr T ks 1 = ks + 2) (hl : cCls S kk kc l) (i1 : is8 home) (i2 : is8 inn) : zwp (fX0_needing T kb ks w home inn S) (fun r => r.1 = ern (envB w (nI (pc home)) (nI (pc inn))) home l ∧ onlyJ2 S r.2 (ks + 1)) := by
  unfold fX0_needing
  refine w_b (v_place h2 i1 i2) (fun _ S3 hp => ?_)
  obtain ⟨p1, p2, -⟩ := hp
  have hl3 := cCls_eq p1.1 hl
  rw [b12, b14]
  refine w_b (v_holding g2 h1 h2 h3 hl3 p2) (fun r S6 hq => ?_)
  obtain ⟨q1, q2⟩ := hq
  rw [v_together g0 g1 (cCls_eq q2.1 hl3) q1, b1_q]
  exact w_some ⟨rfl, q2.1.trans p1.1, fun a b ha hb => (q2.2 a b hb).trans (p1.2 a b ha)⟩
/-! by the reference -/
def rTest (R : Nat → Nat → Int32) (wm : Nat → Nat) (a b : Int32) (c : List (Nat × Nat)) : Prop := ∃ s, a = nI s ∧ b = nI (s + c.length) ∧ s + c.length ≤ 300 ∧ rAt R wm s c
def rCls (R : Nat → Nat → Int32) (L : List Cl) : Prop := R 191 0 = nI L.length ∧ L.length ≤ 24 ∧ ∀ i c, L[i]? = some c → okC c.2.2.2 ∧ c.1 ≤ 6 ∧ R 192 i = nI c.1 ∧ (c.1 = 1 → R 193 i = c.2.1) ∧ (c.1 = 2 → c.2.1 = 0) ∧ (c.1 = 1 ∨ c.1 = 2 → R 194 i = c.2.2.1 ∧ rTest R wmB (R 196 i) (R 197 i) c.2.2.2)
def ofK (k : Nat) (c : Cl) : Bool := c.1 == k
theorem v_comes {T : zT} (hT : iT T) {k : Nat} {L : List Cl} {w home inn : Int32} {S : zS} (hk : k = 1 ∨ k = 2) (hl : rCls S.1 L) (i1 : is8 home) (i2 : is8 inn) : zwp (fX12_comes T 187 (nI k) home inn w S) (fun r => r.1 = ern (envB w (nI (pc home)) (nI (pc inn))) home (L.filter (ofK k)) ∧ onlyJ2 S r.2 211) := by
  unfold fX12_comes
  rw [g_t (by decide), let_q, v_bits i1, b1_q, g_t (by decide), let_q, v_bits i2, b1_q, g_t (by decide), let_q, zT_187_34 hT]
  have hS3 : ∀ S3 : zS, onlyJ S S3 211 → (∀ q, wB q = true → envB w (nI (pc home)) (nI (pc inn)) q = S3.2 211 (wmB q)) → zwp (zb1 (lp (fun a => fX12_comes_l37 T 187 (nI k) home a.1 a.2.1 a.2.2) (0, 0, S3)) fun e31 => some (e31.1, e31.2)) (fun r => r.1 = ern (envB w (nI (pc home)) (nI (pc inn))) home (L.filter (ofK k)) ∧ onlyJ2 S r.2 211) := by
    intro S3 ho3 he3
    generalize envB w (nI (pc home)) (nI (pc inn)) = env at he3 ⊢
    have hlen := hl.1
    have h24 := hl.2.1
    refine w_b1 (P := fun e => e.1 = ern env home (L.filter (ofK k)) ∧ onlyJ2 S e.2 211) ?_ (fun r hr => w_some hr)
    have hF : ern env home (L.filter (ofK k)) = sumL (fun c => if ofK k c = true then ernF env home c else 0) L := sumL_filter.symm
    rw [hF]
    refine lp_for (I := fun n a => ∃ S', a = (sumL (fun c => if ofK k c = true then ernF env home c else 0) (L.take n), nI n, S') ∧ onlyJ S3 S' 212) L.length ?_ ?_ ?_
    · rintro n a hn ⟨S', rfl, ho⟩
      left
      obtain ⟨c, hc⟩ : ∃ c, L[n]? = some c := ⟨L[n], List.getElem?_eq_getElem hn⟩
      obtain ⟨c1, c0, c2, c3, c5, c4⟩ := hl.2.2 n c hc
      have eS : S'.1 = S.1 := ho.1.trans ho3.1
      rw [sumL_take hc]
      unfold fX12_comes_l37
      have t0 : (0 : Int32).toNatClampNeg = 0 := rfl
      simp (disch := omega) only [zT_187_14 hT, zT_187_15 hT, zT_187_16 hT, eS, hlen, t0, g_in, tn_nI, c2]
      rw [g_t (by decide), if_neg (by rw [n_le (by omega) (by omega)]; omega)]
      have last : ∀ S2 x, onlyJ S3 S2 212 → fX12_comes_b144 T 187 (nI k) home (nI n) x (sumL (fun c => if ofK k c = true then ernF env home c else 0) (L.take n)) S2 = some (.inl (sumL (fun c => if ofK k c = true then ernF env home c else 0) (L.take n) + x, nI (n + 1), S2)) := by
        intro S2 x _
        unfold fX12_comes_b144
        rw [let_q, let_q, n_addL]
      by_cases hkc : c.1 = k
      · have hof : ofK k c = true := by unfold ofK; rw [hkc]; exact beq_self_eq_true k
        rw [if_pos hof, if_pos (by rw [hkc])]
        obtain ⟨c6, s, c7, c8, c9, c10⟩ := c4 (by omega)
        -- the set is there
        have body : c.2.1 &&& (home ^^^ (-1)) = 0 → ∃ a', fX12_comes_b78 T 187 (nI k) home (sumL (fun c => if ofK k c = true then ernF env home c else 0) (L.take n)) (nI n) S' = some (.inl a') ∧ ∃ S'', a' = (sumL (fun c => if ofK k c = true then ernF env home c else 0) (L.take n) + ernF env home c, nI (n + 1), S'') ∧ onlyJ S3 S'' 212 := by
          intro hsub
          unfold fX12_comes_b78 fX12_comes_b83
          rw [if_neg (by decide)]
          simp (disch := omega) only [zT_187_19 hT, zT_187_20 hT, eS, g_in, tn_nI, c7, c8]
          by_cases hnil : c.2.2.2 = []
          · rw [if_pos (by rw [hnil]; rfl), ernF_pos ⟨Or.inl hnil, hsub⟩]
            unfold fX12_comes_b133
            simp (disch := omega) only [zT_187_17 hT, eS, g_in, tn_nI, c6]
            rw [last S' _ ho]
            exact ⟨_, rfl, S', rfl, ho⟩
          · have hpos : 0 < c.2.2.2.length := List.length_pos_iff.mpr hnil
            rw [if_neg (by rw [n_eq (by omega) (by omega)]; omega)]
            have hT' := c1.elim (fun q => absurd q hnil) (fun q => q)
            obtain ⟨r, e, p1, p2⟩ := v_answer hT (x := 0) (i := s) (u := s + c.2.2.2.length) (w := wB) (wm := wmB) (env := env) (c := c.2.2.2) (S := S') (by omega) (fun q hq => by have := of_decide_eq_true hq; unfold wmB; omega) (Or.inr hT'.1) (by rw [eS, Nat.mul_zero, Nat.zero_add]; exact c10) rfl c9 (fun q hq => by rw [he3 q hq, ho.2 _ _ (by omega)])
            have e' : fX12_answer T 187 0 (nI s) (nI (s + c.2.2.2.length)) S' = some r := e
            rw [e']
            have ho2 : onlyJ S3 r.2 212 := ⟨p2.1.trans ho.1, fun a b hab => (p2.2 a b hab).trans (ho.2 a b hab)⟩
            have hb := (evv_T (env := env) hT'.1).2
            show ∃ a', (if lg_cmp r.1 1 = 0 then _ else _) = _ ∧ _
            by_cases hv : r.1 = 1
            · rw [if_pos ((lg_cmp_eq _ _).mpr hv), ernF_pos ⟨Or.inr (by rw [← p1, hv]; decide), hsub⟩]
              unfold fX12_comes_b133
              have eS2 : r.2.1 = S.1 := p2.1.trans eS
              simp (disch := omega) only [zT_187_17 hT, eS2, g_in, tn_nI, c6]
              rw [last r.2 _ ho2]
              exact ⟨_, rfl, r.2, rfl, ho2⟩
            · have h0 : evv env c.2.2.2 = 0 := hb.elim id (fun q => absurd (p1.trans q) hv)
              rw [if_neg (fun q => hv ((lg_cmp_eq _ _).mp q)), ernF_neg (fun q => q.1.elim hnil (fun z => z h0))]
              unfold fX12_comes_b143
              rw [last r.2 _ ho2]
              exact ⟨_, rfl, r.2, rfl, ho2⟩
        rcases hk with rfl | rfl
        · rw [if_neg (by decide), c3 hkc]
          by_cases hsub : c.2.1 &&& (home ^^^ (-1)) = 0
          · rw [if_pos hsub]
            exact body hsub
          · rw [if_neg hsub]
            unfold fX12_comes_b82 fX12_comes_b83 fX12_comes_b143
            rw [if_pos rfl, last S' _ ho]
            rw [ernF_neg (fun q => hsub q.2)]
            exact ⟨_, rfl, S', rfl, ho⟩
        · rw [if_pos (show nI 2 = 2 from rfl)]
          exact body (by rw [c5 hkc]; exact Int32.zero_and)
      · have hof : ¬ ofK k c = true := by unfold ofK; rw [beq_iff_eq]; exact hkc
        rw [if_neg hof, if_neg (by rw [n_eq (by omega) (by omega)]; exact hkc)]
        unfold fX12_comes_b82 fX12_comes_b83 fX12_comes_b143
        rw [if_pos rfl, last S' _ ho]
        exact ⟨_, rfl, S', rfl, ho⟩
    · rintro a ⟨S', rfl, ho⟩
      have eS : S'.1 = S.1 := ho.1.trans ho3.1
      have t0 : (0 : Int32).toNatClampNeg = 0 := rfl
      refine ⟨(sumL (fun c => if ofK k c = true then ernF env home c else 0) (L.take L.length), S'), ?_, ?_, eS, fun a b h1 h2 => (ho.2 a b h2).trans (ho3.2 a b h1)⟩
      · unfold fX12_comes_l37
        simp (disch := omega) only [zT_187_14 hT, eS, hlen, t0]
        rw [g_t (by decide), if_pos (by rw [n_le (by omega) (by omega)]; exact Nat.le_refl _)]
      · rw [List.take_length]
    · exact ⟨S3, rfl, onlyJ_refl⟩
  refine hS3 _ ⟨rfl, fun a b hab => ?_⟩ (fun q hq => ?_)
  · rw [zJ_o hab, zJ_o hab, zJ_o hab]
  · have hq' := of_decide_eq_true hq
    have : q = 19 ∨ q = 20 ∨ q = 21 := by omega
    rcases this with rfl | rfl | rfl
    · show _ = (zJ (zJ (zJ S 211 0 _) 211 1 _) 211 2 _).2 211 0
      rw [zJ_at, if_neg (by omega), zJ_at, if_neg (by omega), zJ_s]; rfl
    · show _ = (zJ (zJ (zJ S 211 0 _) 211 1 _) 211 2 _).2 211 1
      rw [zJ_at, if_neg (by omega), zJ_s]; rfl
    · show _ = (zJ (zJ (zJ S 211 0 _) 211 1 _) 211 2 _).2 211 2
      rw [zJ_s]; rfl
