/-! A WEEK'S STEP, by the reference -/
/-- how the plans are asked: things gone at first, the thing sold (-1: none), its week, the week of the cousin's coin (-1: none) -/
abbrev Cg : Type := Int32 × Int32 × Int32 × Int32
def cfR (S : zS) (G : Cg) : Prop := S.1 187 54 = G.1 ∧ S.1 187 56 = G.2.1 ∧ S.1 187 57 = G.2.2.1 ∧ S.1 187 58 = G.2.2.2
def okG (B : Bk) (G : Cg) : Prop := is8 G.1 ∧ (G.2.1 = -1 ∧ G.2.2.1 = -1 ∨ ∃ t, t < 8 ∧ G.2.1 = nI t ∧ zm (bth B) t = true)
def goP (B : Bk) (G : Cg) (w : Int32) (t : Nat) : Bool := zm (bth B) t && ((decide (¬ B.1 2 t = -1) && decide (B.1 2 t ≤ w)) || (decide (nI t = G.2.1) && decide (¬ w < G.2.2.1)))
/-- what is gone in a week -/
def goC (B : Bk) (G : Cg) (w : Int32) : Int32 := st8 (fun t => zm G.1 t || goP B G w t)
theorem r_goneC {T : zT} (hT : iT T) {B : Bk} {G : Cg} (hG : okG B G) {w : Int32} {S : zS} (hr : bkR S.1 B) (hc : cfR S G) : fX12_gone T 187 w S = some (goC B G w) := by
  have key : zwp (lp (fun a => fX12_gone_l7 T 187 w S a.1 a.2) (G.1, 0)) (fun x => is8 x ∧ ∀ t, t < 8 → zm x t = (zm G.1 t || goP B G w t)) := by
    refine lp_for (I := fun n a => ∃ x, a = (x, nI n) ∧ is8 x ∧ ∀ t, t < 8 → zm x t = (zm G.1 t || (decide (t < n) && goP B G w t))) 8 ?_ ?_ ?_
    · rintro n a hn ⟨x, rfl, i1, h1⟩
      left
      show ∃ a', fX12_gone_l7 T 187 w S x (nI n) = _ ∧ _
      have old : ∀ t, ¬ t = n → decide (t < n + 1) = decide (t < n) := fun t h => by
        by_cases y : t < n
        · rw [decide_eq_true y, decide_eq_true (show t < n + 1 by omega)]
        · rw [decide_eq_false y, decide_eq_false (show ¬ t < n + 1 by omega)]
      have yes : goP B G w n = true → ∃ a', fX12_gone_b60 T 187 w (nI n) x S = some (.inl a') ∧ ∃ x', a' = (x', nI (n + 1)) ∧ is8 x' ∧ ∀ t, t < 8 → zm x' t = (zm G.1 t || (decide (t < n + 1) && goP B G w t)) := by
        intro hp
        unfold fX12_gone_b60 fX12_gone_b67
        rw [let_q, let_q, n_addL]
        refine ⟨_, rfl, _, rfl, fun t ht => by rw [m_or, i1 t ht, m_shl8 hn, decide_eq_false (by omega)]; rfl, fun t ht => ?_⟩
        rw [m_or, m_shl8 hn, h1 t ht]
        by_cases z : t = n
        · subst z; rw [decide_eq_true rfl, hp, decide_eq_true (show t < t + 1 by omega)]; simp
        · rw [decide_eq_false z, Bool.or_false, old t z]
      have no : goP B G w n = false → ∃ a', fX12_gone_b66 T 187 w (nI n) x S = some (.inl a') ∧ ∃ x', a' = (x', nI (n + 1)) ∧ is8 x' ∧ ∀ t, t < 8 → zm x' t = (zm G.1 t || (decide (t < n + 1) && goP B G w t)) := by
        intro hp
        unfold fX12_gone_b66 fX12_gone_b67
        rw [let_q, let_q, n_addL, Int32.or_zero]
        refine ⟨_, rfl, _, rfl, i1, fun t ht => ?_⟩
        rw [h1 t ht]
        by_cases z : t = n
        · subst z; rw [hp, Bool.and_false, Bool.and_false]
        · rw [old t z]
      unfold fX12_gone_l7
      rw [if_neg (show ¬ 8 ≤ nI n by rw [n_leL (by omega) (by omega)]; omega), g_in (by omega) (by decide), zT_187_22 hT, zT_187_25 hT, tn_nI (by omega), hr.1 n hn]
      cases z : zm (bth B) n with
      | false =>
        rw [if_neg (show ¬ (if false = true then (1 : Int32) else 0) = 1 by rw [if_neg (by decide)]; decide)]
        exact no (by unfold goP; rw [z]; rfl)
      | true =>
        have e2 : S.1 202 n = B.1 2 n := hr.2.1 n hn 2 (by decide)
        rw [if_pos (show (if true = true then (1 : Int32) else 0) = 1 by rw [if_pos rfl]), g_in (by omega) (by decide), g_in (by omega) (by decide), e2]
        -- not lost
        have b44 : (decide (¬ B.1 2 n = -1) && decide (B.1 2 n ≤ w)) = false → ∃ a', fX12_gone_b44 T 187 w (nI n) x S = some (.inl a') ∧ ∃ x', a' = (x', nI (n + 1)) ∧ is8 x' ∧ ∀ t, t < 8 → zm x' t = (zm G.1 t || (decide (t < n + 1) && goP B G w t)) := by
          intro hl
          unfold fX12_gone_b44
          rw [hc.2.1, hc.2.2.1]
          by_cases y : nI n = G.2.1
          · rw [if_pos y]
            by_cases v : w < G.2.2.1
            · rw [if_pos v]; exact no (by unfold goP; rw [z, hl, decide_eq_true y, decide_eq_false (fun q => q v)]; rfl)
            · rw [if_neg v]; exact yes (by unfold goP; rw [z, hl, decide_eq_true y, decide_eq_true v]; rfl)
          · rw [if_neg y]; exact no (by unfold goP; rw [z, hl, decide_eq_false y]; rfl)
        by_cases y : B.1 2 n = -1
        · rw [if_pos y]; exact b44 (by rw [decide_eq_false (fun q => q y)]; rfl)
        · rw [if_neg y]
          by_cases v : B.1 2 n ≤ w
          · rw [if_pos v]; exact yes (by unfold goP; rw [z, decide_eq_true y, decide_eq_true v]; rfl)
          · rw [if_neg v]; exact b44 (by rw [decide_eq_false v, Bool.and_false])
    · rintro a ⟨x, rfl, i1, h1⟩
      refine ⟨x, ?_, i1, fun t ht => ?_⟩
      · show fX12_gone_l7 T 187 w S x (nI 8) = _
        unfold fX12_gone_l7
        exact if_pos (show (8 : Int32) ≤ nI 8 by decide)
      · rw [h1 t ht, decide_eq_true ht, Bool.true_and]
    · exact ⟨G.1, rfl, hG.1, fun t _ => by rw [decide_eq_false (Nat.not_lt_zero _), Bool.false_and, Bool.or_false]⟩
  obtain ⟨x, e, i1, q⟩ := key
  unfold fX12_gone
  rw [let_q, hc.1, e, b1_q]
  exact congrArg some (st8_eq i1 (fun t ht => by rw [q t ht]))
def sdB (G : Cg) : Int32 := if G.2.1 = -1 then 0 else 1 <<< (G.2.1 &&& 31)
/-- what may be fetched in a week -/
def innC (B : Bk) (G : Cg) (w : Int32) : Int32 := mi (mi (bth B) (goC B G w)) (sdB G)
theorem r_fetchable {T : zT} (hT : iT T) {B : Bk} (hB : okB B) {G : Cg} (hG : okG B G) {w home : Int32} {S : zS} (hr : bkR S.1 B) (hc : cfR S G) : fX12_fetchable T 187 home w S = some (mi (mi (mi (bth B) home) (goC B G w)) (sdB G)) := by
  unfold fX12_fetchable fX12_fetchable_b34 sdB
  rw [r_all hT hr hB.1, b1_q, r_goneC hT hG hr hc, b1_q, hc.2.1]
  by_cases z : G.2.1 = -1
  · rw [if_pos z, if_pos z]; rfl
  · rw [if_neg z, if_neg z]; rfl
/-- coin ahead of a week and what comes and goes at once -/
def ajC (B : Bk) (G : Cg) (w : Nat) (x : Int) : Int :=
  if x < 0 then -1 else
  if ¬ G.2.2.2 = -1 ∧ nI w = B.1 6 5 ∧ x < (B.1 6 4).toInt then -1 else
  (if ¬ G.2.2.2 = -1 ∧ nI w = B.1 6 5 then x - (B.1 6 4).toInt else x) + (if nI w = G.2.2.2 then (B.1 6 4).toInt else 0) + (if nI w = G.2.2.1 then (B.1 4 G.2.1.toNatClampNeg).toInt else 0)
/-- earned less needed, of a set home at the end of a week -/
def gnC (B : Bk) (G : Cg) (w s : Nat) : Int := gnN B w s (pc (mi (mi (bth B) (nI s)) (goC B G (nI w))))
def ldI (B : Bk) (G : Cg) (w : Nat) (x : Int) (fr to : Nat) : Int := if ajC B G w x < 0 then -1 else if cs8 (owI B w) (mi (nI to) (nI fr)) ≤ ajC B G w x then adI (ajC B G w x - cs8 (owI B w) (mi (nI to) (nI fr))) (gnC B G w to) else -1
theorem r_cost {T : zT} (hT : iT T) {B : Bk} (hB : okB B) {w : Nat} (hw : w < 61) {to fr c : Int32} (hx : ∀ t, t < 8 → zm (mi to fr) t = true → zm (bth B) t = true) {S : zS} (hr : bkR S.1 B) : ∃ r, lp (fun a => fX12_leads_l97 T 187 fr to (nI w) c S a.1 a.2) (0, 0) = some r ∧ r.toInt = cs8 (owI B w) (mi to fr) ∧ 0 ≤ r.toInt ∧ r.toInt ≤ 800000 := by
  refine lp_for (I := fun n a => ∃ v : Int32, a = (v, nI n) ∧ v.toInt = cst (owI B w) (mi to fr) n ∧ 0 ≤ v.toInt ∧ v.toInt ≤ 100000 * n) 8 ?_ ?_ ?_
  · rintro n a hn ⟨v, rfl, h1, h2, h3⟩
    left
    show ∃ a', fX12_leads_l97 T 187 fr to (nI w) c S v (nI n) = _ ∧ _
    unfold fX12_leads_l97 fX12_leads_b132
    have hs : cst (owI B w) (mi to fr) (n + 1) = cst (owI B w) (mi to fr) n + if zm (mi to fr) n = true then owI B w n else 0 := rfl
    rw [if_neg (show ¬ 8 ≤ nI n by rw [n_leL (by omega) (by omega)]; omega), show to &&& (fr ^^^ (-1)) = mi to fr from rfl]
    cases z : zm (mi to fr) n with
    | false =>
      rw [if_neg (fun y => by rw [m_sh1 (by omega), z] at y; cases y), let_q, let_q, n_addL, Int32.add_zero]
      refine ⟨_, rfl, v, rfl, ?_, h2, by omega⟩
      rw [hs, z, if_neg (by decide)]; omega
    | true =>
      obtain ⟨o1, o2, o3⟩ := owI_e hB hn (hx n hn z) hw
      rw [if_pos ((m_sh1 (by omega)).mpr z), r_firstOwed hT hr hn, b1_q, let_q, let_q, n_addL]
      have ea : (v + (B.1 0 n + B.1 1 n * nI w)).toInt = v.toInt + owI B w n := by rw [z_add (by omega) (by omega), o1]
      refine ⟨_, rfl, _, rfl, ?_, ?_, ?_⟩
      · rw [hs, z, if_pos rfl, ea, h1]
      · omega
      · omega
  · rintro a ⟨v, rfl, h1, h2, h3⟩
    refine ⟨v, ?_, h1, h2, by omega⟩
    show fX12_leads_l97 T 187 fr to (nI w) c S v (nI 8) = _
    unfold fX12_leads_l97
    exact if_pos (show (8 : Int32) ≤ nI 8 by decide)
  · exact ⟨0, rfl, rfl, Int.le_refl _, Int.le_refl _⟩
