theorem goC_is8 {B : Bk} {G : Cg} {w : Int32} : is8 (goC B G w) := st8_is8
theorem bern_bd {B : Bk} (hB : okB B) {k : Nat} (hk : k = 1 ∨ k = 2) (w home inn : Int32) : 0 ≤ (bern B k w home inn).toInt ∧ (bern B k w home inn).toInt ≤ 239976 := bern_btw hB hk w home inn
/-- but for these two rows of longs all is as it was -/
def jR (S S' : zS) : Prop := S'.1 = S.1 ∧ ∀ a b, a ≠ 211 → a ≠ 212 → S'.2 a b = S.2 a b
theorem jR_refl {S : zS} : jR S S := ⟨rfl, fun _ _ _ _ => rfl⟩
theorem jR_trans {S S' S'' : zS} (h : jR S S') (g : jR S' S'') : jR S S'' := ⟨g.1.trans h.1, fun a b m n => (g.2 a b m n).trans (h.2 a b m n)⟩
theorem r_lead88 {T : zT} (hT : iT T) {B : Bk} (hB : okB B) {G : Cg} (hG : okG B G) {w fr to : Nat} (hw : w < 60) (hto : to < 256) (hx : ∀ t, t < 8 → zm (mi (nI to) (nI fr)) t = true → zm (bth B) t = true) {s0 s1 : Int32} {Y : Int} {S : zS} (hr : bkR S.1 B) (hc : cfR S G) (hY : (s1 + s0).toInt = Y) (h0 : 0 ≤ Y) (h1 : Y ≤ 2000000000) : ∃ r S', fX12_leads_b88 T 187 (nI fr) (nI to) (nI w) s0 s1 S = some (r, S') ∧ jR S S' ∧ r.toInt = if cs8 (owI B w) (mi (nI to) (nI fr)) ≤ Y then adI (Y - cs8 (owI B w) (mi (nI to) (nI fr))) (gnC B G w to) else -1 := by
  unfold fX12_leads_b88 fX12_leads_b215
  rw [let_q]
  generalize s1 + s0 = y at hY ⊢
  obtain ⟨c, e, q1, q2, q3⟩ := r_cost hT hB (w := w) (to := nI to) (fr := nI fr) (c := y) (S := S) (by omega) hx hr
  rw [e, b1_q]
  by_cases z : c ≤ y
  · have z' := z_le.mp z
    rw [if_pos z, if_pos (show cs8 (owI B w) (mi (nI to) (nI fr)) ≤ Y by omega), r_all hT hr hB.1, b1_q, r_goneC hT hG hr hc, b1_q, show (bth B &&& (nI to ^^^ (-1))) &&& (goC B G (nI w) ^^^ (-1)) = mi (mi (bth B) (nI to)) (goC B G (nI w)) from rfl, let_q]
    have i1 : is8 (nI to) := is8_nI hto
    have i2 : is8 (mi (mi (bth B) (nI to)) (goC B G (nI w))) := is8_mi (is8_mi hB.1)
    have ein : gnC B G w to = (bern B 1 (nI w) (nI to) (mi (mi (bth B) (nI to)) (goC B G (nI w)))).toInt - (bern B 2 (nI w) (nI to) (mi (mi (bth B) (nI to)) (goC B G (nI w)))).toInt := rfl
    generalize mi (mi (bth B) (nI to)) (goC B G (nI w)) = inn at i2 ein ⊢
    obtain ⟨⟨E, S1⟩, e1, p1, o1⟩ := r_ern hT (Or.inl rfl) (w := nI w) hr i1 i2
    have p1' : E = bern B 1 (nI w) (nI to) inn := p1
    have e1' : fX12_comes T 187 1 (nI to) inn (nI w) S = some (E, S1) := e1
    have hr1 : bkR S1.1 B := by rw [o1.1]; exact hr
    obtain ⟨⟨N, S2⟩, e2, p2, o2⟩ := r_ern hT (Or.inr rfl) (w := nI w) hr1 i1 i2
    have p2' : N = bern B 2 (nI w) (nI to) inn := p2
    have e2' : fX12_comes T 187 2 (nI to) inn (nI w) S1 = some (N, S2) := e2
    rw [e1', b_q, let_q, e2', b_q]
    have bE := bern_bd hB (Or.inl rfl) (nI w) (nI to) inn
    have bN := bern_bd hB (Or.inr rfl) (nI w) (nI to) inn
    rw [← p1'] at bE ein
    rw [← p2'] at bN ein
    have d1 : (E - c).toInt = E.toInt - c.toInt := z_sub (by omega) (by omega)
    have d2 : (y + (E - c)).toInt = Y + (E.toInt - c.toInt) := by rw [z_add (by omega) (by omega), d1, hY]
    have hj : jR S S2 := ⟨o2.1.trans o1.1, fun a b m n => (o2.2 a b m n).trans (o1.2 a b m n)⟩
    by_cases v : N ≤ y + (E - c)
    · have v' := z_le.mp v
      rw [if_pos v]
      refine ⟨_, S2, rfl, hj, ?_⟩
      rw [z_sub (by omega) (by omega), d2]
      unfold adI
      rw [if_neg (show ¬ Y - cs8 (owI B w) (mi (nI to) (nI fr)) < 0 by omega), if_neg (show ¬ Y - cs8 (owI B w) (mi (nI to) (nI fr)) + gnC B G w to < 0 by omega)]
      omega
    · have v' := z_lt.mp (z_nle v)
      rw [if_neg v]
      refine ⟨_, S2, rfl, hj, ?_⟩
      unfold adI
      rw [if_neg (show ¬ Y - cs8 (owI B w) (mi (nI to) (nI fr)) < 0 by omega), if_pos (show Y - cs8 (owI B w) (mi (nI to) (nI fr)) + gnC B G w to < 0 by omega)]
      rfl
  · have z' := z_lt.mp (z_nle z)
    rw [if_neg z, if_neg (show ¬ cs8 (owI B w) (mi (nI to) (nI fr)) ≤ Y by omega)]
    exact ⟨_, S, rfl, jR_refl, rfl⟩
/-- the coin of what is sold in a week -/
def slI (B : Bk) (G : Cg) (w : Nat) : Int := if nI w = G.2.2.1 then (B.1 4 G.2.1.toNatClampNeg).toInt else 0
def lnI (B : Bk) (G : Cg) (w : Nat) : Int := if nI w = G.2.2.2 then (B.1 6 4).toInt else 0
theorem n_m1' {w : Nat} (hw : w < 60) : ¬ nI w = -1 := by
  intro q; have := z_eq.mp q; rw [nI_toInt (by omega)] at this; have e1 : (-1 : Int32).toInt = -1 := rfl; omega
theorem slI_bd {B : Bk} (hB : okB B) {G : Cg} (hG : okG B G) {w : Nat} (hw : w < 60) : 0 ≤ slI B G w ∧ slI B G w ≤ 9999 := by
  unfold slI
  rcases hG.2 with ⟨-, h⟩ | ⟨t, ht, h, hz⟩
  · rw [if_neg (by rw [h]; exact n_m1' hw)]; omega
  · rw [h, tn_nI (by omega)]
    obtain ⟨a1, a2⟩ := (hB.2.1 t ht hz).2.2.2.2.1
    split <;> omega
theorem lnI_bd {B : Bk} (hB : okB B) {G : Cg} {w : Nat} : 0 ≤ lnI B G w ∧ lnI B G w ≤ 9999 := by
  obtain ⟨c1, c2⟩ := hB.2.2.2.2.2.1
  unfold lnI
  split <;> omega
theorem r_leads {T : zT} (hT : iT T) {B : Bk} (hB : okB B) {G : Cg} (hG : okG B G) {w fr to : Nat} (hw : w < 60) (hto : to < 256) (hx : ∀ t, t < 8 → zm (mi (nI to) (nI fr)) t = true → zm (bth B) t = true) {x : Int32} {S : zS} (hr : bkR S.1 B) (hc : cfR S G) (h0 : 0 ≤ x.toInt) (h1 : x.toInt ≤ 1900000000) : ∃ r S', fX12_leads T 187 x (nI fr) (nI to) (nI w) S = some (r, S') ∧ jR S S' ∧ r.toInt = ldI B G w x.toInt fr to := by
  obtain ⟨c1, c2⟩ := hB.2.2.2.2.2.1
  have e7 : S.1 207 0 = B.1 6 4 := hr.2.2.2.2.2.1
  have e8 : S.1 208 0 = B.1 6 5 := hr.2.2.2.2.2.2.1
  have bs := slI_bd hB hG hw
  have bl := lnI_bd hB (G := G) (w := w)
  have t0 : (0 : Int32).toNatClampNeg = 0 := rfl
  -- the sale
  have b61 : ∀ (s0 s1 : Int32) (Y : Int), (s1 + s0).toInt = Y → 0 ≤ Y → Y ≤ 1950000000 → ∃ r S', fX12_leads_b61 T 187 (nI fr) (nI to) (nI w) s0 s1 S = some (r, S') ∧ jR S S' ∧ r.toInt = if cs8 (owI B w) (mi (nI to) (nI fr)) ≤ Y + slI B G w then adI (Y + slI B G w - cs8 (owI B w) (mi (nI to) (nI fr))) (gnC B G w to) else -1 := by
    intro s0 s1 Y hY hY0 hY1
    unfold fX12_leads_b61
    rw [let_q, hc.2.2.1, hc.2.1]
    by_cases z : nI w = G.2.2.1
    · have hsl : slI B G w = (B.1 4 G.2.1.toNatClampNeg).toInt := if_pos z
      rcases hG.2 with ⟨-, h⟩ | ⟨t, ht, h, hz⟩
      · exact absurd (z.trans h) (n_m1' hw)
      · rw [if_pos z, h, g_in (by omega) (by decide), tn_nI (by omega), zT_187_27 hT, hr.2.1 t ht 4 (by decide)]
        rw [h, tn_nI (by omega)] at hsl
        exact r_lead88 hT hB hG hw hto hx hr hc (by rw [z_add (by omega) (by omega), hY, hsl]) (by omega) (by omega)
    · have hsl : slI B G w = 0 := if_neg z
      rw [if_neg z, hsl, Int.add_zero]
      exact r_lead88 hT hB hG hw hto hx hr hc (by rw [Int32.add_zero, hY]) (by omega) (by omega)
  have b40 : ∀ (y : Int32), 0 ≤ y.toInt → y.toInt ≤ 1900000000 → ∃ r S', fX12_leads_b40 T 187 (nI fr) (nI to) (nI w) y S = some (r, S') ∧ jR S S' ∧ r.toInt = if cs8 (owI B w) (mi (nI to) (nI fr)) ≤ y.toInt + lnI B G w + slI B G w then adI (y.toInt + lnI B G w + slI B G w - cs8 (owI B w) (mi (nI to) (nI fr))) (gnC B G w to) else -1 := by
    intro y hy0 hy1
    unfold fX12_leads_b40
    rw [hc.2.2.2]
    by_cases z : nI w = G.2.2.2
    · have hl : lnI B G w = (B.1 6 4).toInt := if_pos z
      rw [if_pos z, g_t (by decide), zT_187_30 hT, t0, e7]
      exact b61 _ _ _ (by rw [z_add (by omega) (by omega), hl]) (by omega) (by omega)
    · have hl : lnI B G w = 0 := if_neg z
      rw [if_neg z]
      exact b61 _ _ _ (by rw [Int32.add_zero, hl, Int.add_zero]) (by omega) (by omega)
  -- back to the cousin
  have fin : ∀ (y : Int32), 0 ≤ y.toInt → y.toInt ≤ 1900000000 → ajC B G w x.toInt = y.toInt + lnI B G w + slI B G w → ∃ r S', fX12_leads_b40 T 187 (nI fr) (nI to) (nI w) y S = some (r, S') ∧ jR S S' ∧ r.toInt = ldI B G w x.toInt fr to := by
    intro y hy0 hy1 ha
    obtain ⟨r, S', e, o, q⟩ := b40 y hy0 hy1
    refine ⟨r, S', e, o, ?_⟩
    unfold ldI
    rw [ha, if_neg (show ¬ y.toInt + lnI B G w + slI B G w < 0 by omega)]
    exact q
  have hx0 : ¬ x.toInt < 0 := by omega
  unfold fX12_leads
  rw [hc.2.2.2]
  by_cases z : G.2.2.2 = -1
  · rw [if_pos z]
    refine fin x h0 h1 ?_
    unfold ajC
    rw [if_neg hx0, if_neg (fun q => q.1 z), if_neg (fun q => q.1 z)]; rfl
  · rw [if_neg z, g_t (by decide), zT_187_31 hT, zT_187_30 hT, t0, e7, e8]
    by_cases y : nI w = B.1 6 5
    · rw [if_pos y, g_t (by decide), let_q]
      have d : (x - B.1 6 4).toInt = x.toInt - (B.1 6 4).toInt := z_sub (by omega) (by omega)
      by_cases v : 0 ≤ x - B.1 6 4
      · have v' : 0 ≤ (x - B.1 6 4).toInt := z_le.mp v
        rw [if_pos v]
        refine fin _ v' (by omega) ?_
        unfold ajC
        rw [if_neg hx0, if_neg (fun q => absurd q.2.2 (by omega)), if_pos ⟨z, y⟩, d]; rfl
      · have v' : (x - B.1 6 4).toInt < 0 := z_lt.mp (z_nle v)
        rw [if_neg v]
        refine ⟨_, S, rfl, jR_refl, ?_⟩
        unfold ldI ajC
        rw [if_neg hx0, if_pos (show ¬ G.2.2.2 = -1 ∧ nI w = B.1 6 5 ∧ x.toInt < (B.1 6 4).toInt from ⟨z, y, by omega⟩), if_pos (by decide)]
        rfl
    · rw [if_neg y]
      refine fin x h0 h1 ?_
      unfold ajC
      rw [if_neg hx0, if_neg (fun q => y q.2.1), if_neg (fun q => y q.2)]; rfl
