/-! THE TEXT, by the reference -/
def txR (u : Nat → Nat) (n : Nat) (S : zS) : Prop := n ≤ 400 ∧ S.1 187 1 = nI n ∧ ∀ i, i < n → (S.1 188 i).toInt = (if u i < 128 then (u i : Int) else (u i : Int) - 256) ∧ S.1 188 i &&& 255 = nI (u i) ∧ u i ≤ 255
/-- the reference's strings among the class's words -/
def sW (k : Nat) : Nat := [26, 14, 15, 22, 23, 24, 25, 13, 19, 8, 20, 21, 3, 18, 17, 16, 0, 1, 4, 5, 6, 9, 10, 11, 12, 2, 7].getD k 26
theorem sW_at : ∀ k, k < 27 → 1 ≤ k → zsN k = wLen (sW k) ∧ sW k < 26 ∧ 2 ≤ zsN k ∧ zsN k ≤ 6 ∧ (∀ j, j < zsN k → zsC k j = nI (wc (wAt (sW k) + j)) ∧ 97 ≤ wc (wAt (sW k) + j) ∧ wc (wAt (sW k) + j) ≤ 122) := by decide +kernel
theorem w_diff : ∀ a, a < 26 → ∀ b, b < 26 → a ≠ b → wLen a = wLen b → ∃ j, j < wLen a ∧ ¬ wc (wAt a + j) = wc (wAt b + j) := by decide +kernel
theorem mtB_uniq {u : Nat → Nat} {i len a b : Nat} (ha : a < 26) (hb : b < 26) (h1 : mtB u i len a = true) (h2 : mtB u i len b = true) : a = b := by
  obtain ⟨p1, p2⟩ := of_decide_eq_true h1
  obtain ⟨q1, q2⟩ := of_decide_eq_true h2
  apply Classical.byContradiction
  intro z
  obtain ⟨j, hj, hn⟩ := w_diff a ha b hb z (by omega)
  exact hn (by rw [← p2 j (by omega), ← q2 j (by omega)])
/-- a string stands at a place -/
def eqW (u : Nat → Nat) (n p k : Nat) : Prop := rn isLt u n p - p = zsN k ∧ ∀ j, j < zsN k → nI (u (p + j)) = zsC k j
theorem eqW_tok {u : Nat → Nat} {n p k : Nat} (hk : k < 27) (hk1 : 1 ≤ k) (hu : ∀ i, i < n → u i ≤ 255) : eqW u n p k ↔ (tok u n p).1 = sW k := by
  obtain ⟨a1, a2, a3, a4, a5⟩ := sW_at k hk hk1
  obtain ⟨r1, r2, r3, r4⟩ := rn_spec (p := isLt) (u := u) (n := n) (i := p)
  constructor
  · rintro ⟨h1, h2⟩
    obtain ⟨hp, hl⟩ := r3 p (Nat.le_refl _) (by omega)
    have hl' := of_decide_eq_true hl
    have hm : mtB u p (rn isLt u n p - p) (sW k) = true := by
      refine decide_eq_true ⟨by omega, fun j hj => ?_⟩
      have := h2 j (by omega)
      obtain ⟨b1, b2, b3⟩ := a5 j (by omega)
      have hb := hu (p + j) (by have := (r3 (p + j) (by omega) (by omega)).1; omega)
      rw [b1, n_eq (by omega) (by omega)] at this
      exact this
    unfold tok
    rw [if_neg (by omega), if_neg (fun q => by have := of_decide_eq_true q; omega), if_pos hl, if_neg (fun q => by have := q.1; omega)]
    show twd u p (rn isLt u n p - p) = sW k
    rcases twd_r (u := u) (i := p) (len := rn isLt u n p - p) with ⟨-, q⟩ | ⟨q1, q2⟩
    · rw [q _ a2] at hm; cases hm
    · exact mtB_uniq q1 a2 q2 hm
  · intro h
    unfold tok at h
    by_cases b1 : n ≤ p
    · rw [if_pos b1] at h
      have h' : 46 = sW k := h
      omega
    · rw [if_neg b1] at h
      by_cases b2 : isDg (u p) = true
      · rw [if_pos b2] at h
        by_cases b3 : rn isDg u n p - p ≤ 5
        · rw [if_pos b3] at h
          have h' : 31 = sW k := h
          omega
        · rw [if_neg b3] at h
          have h' : 32 = sW k := h
          omega
      · rw [if_neg b2] at h
        by_cases b3 : isLt (u p) = true
        · rw [if_pos b3] at h
          by_cases b4 : rn isLt u n p - p = 1 ∧ u p ≤ 104
          · rw [if_pos b4] at h
            have h' : 30 = sW k := h
            omega
          · rw [if_neg b4] at h
            have h' : twd u p (rn isLt u n p - p) = sW k := h
            rcases twd_r (u := u) (i := p) (len := rn isLt u n p - p) with ⟨q, -⟩ | ⟨q1, q2⟩
            · omega
            · rw [h'] at q2
              obtain ⟨q3, q4⟩ := of_decide_eq_true q2
              exact ⟨by omega, fun j hj => by rw [(a5 j hj).1, q4 j (by omega)]⟩
        · rw [if_neg b3] at h
          by_cases b4 : (u p = 60 ∨ u p = 62) ∧ p + 1 < n ∧ u (p + 1) = 61
          · rw [if_pos b4] at h
            have h' : (if u p = 60 then 41 else 43) = sW k := h
            split at h' <;> omega
          · rw [if_neg b4] at h
            have h' : sgk (u p) = sW k := h
            have := sgk_r (c := u p)
            omega
theorem tok_wEnd {u : Nat → Nat} {n p k : Nat} (hk : k < 27) (hk1 : 1 ≤ k) (hu : ∀ i, i < n → u i ≤ 255) (h : (tok u n p).1 = sW k) : (tok u n p).2.2 = p + zsN k ∧ p + zsN k ≤ n := by
  have he := (eqW_tok hk hk1 hu).mpr h
  obtain ⟨a1, a2, a3, a4, a5⟩ := sW_at k hk hk1
  obtain ⟨r1, r2, r3, r4⟩ := rn_spec (p := isLt) (u := u) (n := n) (i := p)
  obtain ⟨h1, h2⟩ := he
  obtain ⟨hp, hl⟩ := r3 p (Nat.le_refl _) (by omega)
  have hl' := of_decide_eq_true hl
  have hle := r2 (by omega)
  refine ⟨?_, by omega⟩
  unfold tok
  rw [if_neg (by omega), if_neg (fun q => by have := of_decide_eq_true q; omega), if_pos hl, if_neg (fun q => by have := q.1; omega)]
  show rn isLt u n p = p + zsN k
  omega
def oP (S S' : zS) : Prop := S'.2 = S.2 ∧ ∀ a b, ¬ (a = 187 ∧ b = 2) → S'.1 a b = S.1 a b
theorem oP_refl {S : zS} : oP S S := ⟨rfl, fun _ _ _ => rfl⟩
theorem oP_z {S : zS} {x : Int32} : oP S (zI S 187 2 x) := ⟨rfl, fun a b n => by rw [zI_at, if_neg n]⟩
theorem oP_tr {S S' S'' : zS} (h : oP S S') (g : oP S' S'') : oP S S'' := ⟨g.1.trans h.1, fun a b n => (g.2 a b n).trans (h.2 a b n)⟩
theorem txR_o {u : Nat → Nat} {n : Nat} {S S' : zS} (h : txR u n S) (e1 : S'.1 187 1 = S.1 187 1) (e2 : ∀ i, S'.1 188 i = S.1 188 i) : txR u n S' := ⟨h.1, e1.trans h.2.1, fun i hi => by rw [e2]; exact h.2.2 i hi⟩
section
variable {T : zT} {u : Nat → Nat} {n : Nat}
theorem txR_255 {S : zS} (h : txR u n S) : ∀ i, i < n → u i ≤ 255 := fun i hi => (h.2.2 i hi).2.2
theorem txR_P {S S' : zS} (h : txR u n S) (o : oP S S') : txR u n S' := txR_o h (o.2 _ _ (by omega)) (fun i => o.2 _ _ (by omega))
def chI (u : Nat → Nat) (n p : Nat) : Int32 := if p < n then nI (u p) else -1
theorem r_sign (hT : iT T) {S : zS} (h : txR u n S) {p : Nat} (hp : S.1 187 2 = nI p) (hb : p < 2147483648) : fX12_sign T 187 S = some (chI u n p) := by
  obtain ⟨h1, h2, h3⟩ := h
  unfold fX12_sign fX12_sign_b28 chI
  rw [h2, hp, zT_187_11 hT]
  by_cases y : p < n
  · rw [if_neg (show ¬ nI n ≤ nI p by rw [n_le (by omega) (by omega)]; omega), g_in (by omega) (by decide), tn_nI (by omega), (h3 p y).2.1, if_pos y]
  · rw [if_pos (show nI n ≤ nI p by rw [n_le (by omega) (by omega)]; omega), if_neg y]
theorem chI_eq {p c : Nat} (hu : ∀ i, i < n → u i ≤ 255) (hc : c < 1000) : (chI u n p = nI c) ↔ p < n ∧ u p = c := by
  unfold chI
  by_cases y : p < n
  · have := hu p y
    rw [if_pos y, n_eq (by omega) (by omega)]
    exact ⟨fun q => ⟨y, q⟩, fun q => q.2⟩
  · rw [if_neg y]
    constructor
    · intro q
      have := z_eq.mp q
      rw [nI_toInt (by omega)] at this
      have em : (-1 : Int32).toInt = -1 := rfl
      omega
    · exact fun q => absurd q.1 y
theorem r_blanks (hT : iT T) {S : zS} (h : txR u n S) {p : Nat} (hp : S.1 187 2 = nI p) (hb : p < 2000000000) : ∃ S', fX12_blanks T 187 S = some ((), S') ∧ oP S S' ∧ S'.1 187 2 = nI (skp u n p) := by
  have hu := txR_255 h
  have key : zwp (lp (fun a => fX12_blanks_l0 T 187 a) S) (fun S' => oP S S' ∧ S'.1 187 2 = nI (skp u n p)) := by
    obtain ⟨r1, r2, r3, r4⟩ := rn_spec (p := isBl) (u := u) (n := n) (i := p)
    have hend : rn isBl u n p < 2000000000 := by
      by_cases y : p ≤ n
      · have := r2 y; have := h.1; omega
      · rw [rn_stop (fun q => by have := q.1; omega)]; exact hb
    refine lp_for (I := fun k S' => oP S S' ∧ S'.1 187 2 = nI (p + k)) (rn isBl u n p - p) ?_ ?_ ?_
    · rintro k S' hk ⟨o, e⟩
      left
      obtain ⟨q1, q2⟩ := r3 (p + k) (by omega) (by omega)
      unfold fX12_blanks_l0
      rw [r_sign hT (txR_P h o) e (by omega), b1_q, if_pos (show chI u n (p + k) = 32 from (chI_eq hu (by decide)).mpr ⟨q1, of_decide_eq_true q2⟩), e, n_addL, let_q]
      exact ⟨_, rfl, oP_tr o oP_z, by rw [zI_eqs]; rfl⟩
    · rintro S' ⟨o, e⟩
      rw [show p + (rn isBl u n p - p) = rn isBl u n p by omega] at e
      refine ⟨S', ?_, o, e⟩
      unfold fX12_blanks_l0
      rw [r_sign hT (txR_P h o) e (by omega), b1_q, if_neg (show ¬ chI u n (rn isBl u n p) = 32 from fun q => by
        obtain ⟨q1, q2⟩ := (chI_eq (c := 32) hu (by decide)).mp q
        exact r4 ⟨q1, decide_eq_true q2⟩)]
    · exact ⟨oP_refl, hp⟩
  obtain ⟨S', e, q⟩ := key
  refine ⟨S', ?_, q⟩
  unfold fX12_blanks
  rw [e, b1_q]
theorem r_isDigit (hT : iT T) {S : zS} (h : txR u n S) {p : Nat} (hp : S.1 187 2 = nI p) (hb : p < 2147483648) : fX12_isDigit T 187 S = some (if p < n ∧ isDg (u p) = true then 1 else 0) := by
  have hu := txR_255 h
  unfold fX12_isDigit
  rw [r_sign hT h hp hb, b1_q, v_in32, b1_q]
  have e48 : (48 : Int64).toInt = 48 := rfl
  have e57 : (57 : Int64).toInt = 57 := rfl
  unfold chI
  by_cases y : p < n
  · have := hu p y
    rw [if_pos y, nI_toInt (by omega), e48, e57]
    by_cases z : isDg (u p) = true
    · have z' := of_decide_eq_true z
      rw [if_pos (show (48 : Int) ≤ (u p : Int) ∧ (u p : Int) ≤ 57 by omega), if_pos ⟨y, z⟩]; rfl
    · have z' : ¬ (48 ≤ u p ∧ u p ≤ 57) := fun q => z (decide_eq_true q)
      rw [if_neg (show ¬ ((48 : Int) ≤ (u p : Int) ∧ (u p : Int) ≤ 57) by omega), if_neg (fun q => z q.2)]; rfl
  · rw [if_neg y, if_neg (show ¬ ((48 : Int64).toInt ≤ (-1 : Int32).toInt ∧ (-1 : Int32).toInt ≤ (57 : Int64).toInt) by decide), if_neg (show ¬ (p < n ∧ isDg (u p) = true) from fun q => y q.1)]; rfl
theorem lt_byte {S : zS} (h : txR u n S) {i : Nat} (hi : i < n) : (isLt (u i) = true ↔ ¬ S.1 188 i < 97 ∧ ¬ 122 < S.1 188 i) := by
  obtain ⟨a1, a2, a3⟩ := h.2.2 i hi
  have e97 : (97 : Int32).toInt = 97 := rfl
  have e122 : (122 : Int32).toInt = 122 := rfl
  unfold isLt
  rw [decide_eq_true_iff, z_lt, z_lt, e97, e122, a1]
  split <;> omega
theorem r_stands (hT : iT T) {S : zS} (h : txR u n S) {p : Nat} (hp : S.1 187 2 = nI p) (hb : p < 2000000000) {k : Nat} (hk : k < 27) (hk1 : 1 ≤ k) : fX12_stands T 187 k S = some (if (tok u n p).1 = sW k then 1 else 0) := by
  have hu := txR_255 h
  have hn := h.1
  obtain ⟨a1, a2, a3, a4, a5⟩ := sW_at k hk hk1
  obtain ⟨r1, r2, r3, r4⟩ := rn_spec (p := isLt) (u := u) (n := n) (i := p)
  have hend : rn isLt u n p < 2000000000 := by
    by_cases y : p ≤ n
    · have := r2 y; omega
    · rw [rn_stop (fun q => by have := q.1; omega)]; exact hb
  have key : zwp (lp (fun a => fX12_stands_l5 T 187 k S a) (nI p)) (fun e => e = nI (rn isLt u n p)) := by
    refine lp_for (I := fun q a => a = nI (p + q)) (rn isLt u n p - p) ?_ ?_ ?_
    · rintro q a hq rfl
      left
      obtain ⟨q1, q2⟩ := r3 (p + q) (by omega) (by omega)
      obtain ⟨q3, q4⟩ := (lt_byte h q1).mp q2
      unfold fX12_stands_l5
      rw [h.2.1, if_neg (show ¬ nI n ≤ nI (p + q) by rw [n_le (by omega) (by omega)]; omega), g_in (by omega) (by decide), g_in (by omega) (by decide), zT_187_11 hT, tn_nI (by omega), if_neg q3, if_neg q4, let_q, n_addL]
      exact ⟨_, rfl, rfl⟩
    · rintro a rfl
      rw [show p + (rn isLt u n p - p) = rn isLt u n p by omega]
      refine ⟨_, ?_, rfl⟩
      unfold fX12_stands_l5
      rw [h.2.1]
      by_cases y : rn isLt u n p < n
      · have hnl : ¬ isLt (u (rn isLt u n p)) = true := fun q => r4 ⟨y, q⟩
        rw [if_neg (show ¬ nI n ≤ nI (rn isLt u n p) by rw [n_le (by omega) (by omega)]; omega), g_in (by omega) (by decide), g_in (by omega) (by decide), zT_187_11 hT, tn_nI (by omega)]
        by_cases z : S.1 188 (rn isLt u n p) < 97
        · rw [if_pos z]
        · rw [if_neg z]
          by_cases v : 122 < S.1 188 (rn isLt u n p)
          · rw [if_pos v]
          · exact absurd ((lt_byte h y).mpr ⟨z, v⟩) hnl
      · rw [if_pos (show nI n ≤ nI (rn isLt u n p) by rw [n_le (by omega) (by omega)]; omega)]
    · rfl
  obtain ⟨e, e1, rfl⟩ := key
  have hz : zsL k = nI (zsN k) := rfl
  unfold fX12_stands fX12_stands_b41 fX12_stands_b59 fX12_stands_b109
  rw [hp, let_q, e1, b1_q, n_sub r1, hz]
  by_cases y : rn isLt u n p - p = zsN k
  · rw [if_pos (show nI (rn isLt u n p - p) = nI (zsN k) by rw [y])]
    have hpn : ∀ j, j < zsN k → p + j < n := fun j hj => (r3 (p + j) (by omega) (by omega)).1
    have key2 : zwp (lp (fun a => fX12_stands_l63 T 187 k S a.1 a.2) (1, 0)) (fun e => e = if (tok u n p).1 = sW k then 1 else 0) := by
      refine lp_for (I := fun q a => ∃ b : Int32, a = (b, nI q) ∧ (b = 1 ∧ (∀ j, j < q → nI (u (p + j)) = zsC k j) ∨ b = 0 ∧ ∃ j, j < zsN k ∧ ¬ nI (u (p + j)) = zsC k j)) (zsN k) ?_ ?_ ?_
      · rintro q a hq ⟨b, rfl, hb1⟩
        show (∃ a', fX12_stands_l63 T 187 k S b (nI q) = _ ∧ _) ∨ ∃ r, fX12_stands_l63 T 187 k S b (nI q) = _ ∧ _
        unfold fX12_stands_l63 fX12_stands_b102
        rw [hz, if_neg (show ¬ nI (zsN k) ≤ nI q by rw [n_le (by omega) (by omega)]; omega)]
        rcases hb1 with ⟨rfl, hj⟩ | ⟨rfl, j, hj, hne⟩
        · left
          have hpq := hpn q hq
          obtain ⟨t1, t2, t3⟩ := h.2.2 (p + q) hpq
          obtain ⟨b1, b2, b3⟩ := a5 q hq
          rw [if_neg n10, hp, n_add, g_in (by omega) (by decide), g_in hq (by omega), zT_187_11 hT, tn_nI (by omega), tn_nI (by omega), let_q, let_q, n_addL]
          have hby : (S.1 188 (p + q) = zsC k q) ↔ nI (u (p + q)) = zsC k q := by
            rw [b1, z_eq, t1, nI_toInt (show wc (wAt (sW k) + q) < 2147483648 by omega), n_eq (by omega) (by omega)]
            split <;> omega
          by_cases v : S.1 188 (p + q) = zsC k q
          · rw [if_pos v]
            refine ⟨_, rfl, 1, rfl, Or.inl ⟨rfl, fun i hi => ?_⟩⟩
            by_cases w : i = q
            · rw [w]; exact hby.mp v
            · exact hj i (by omega)
          · rw [if_neg v]
            exact ⟨_, rfl, 0, rfl, Or.inr ⟨rfl, q, hq, fun w => v (hby.mpr w)⟩⟩
        · right
          rw [if_pos rfl]
          exact ⟨_, rfl, (if_neg (fun w => hne (((eqW_tok hk hk1 hu).mpr w).2 j hj))).symm⟩
      · rintro a ⟨b, rfl, hb1⟩
        refine ⟨b, ?_, ?_⟩
        · show fX12_stands_l63 T 187 k S b (nI (zsN k)) = _
          unfold fX12_stands_l63
          rw [hz]
          exact if_pos (show nI (zsN k) ≤ nI (zsN k) by rw [n_le (by omega) (by omega)]; omega)
        · rcases hb1 with ⟨rfl, hj⟩ | ⟨rfl, j, hj, hne⟩
          · exact (if_pos ((eqW_tok hk hk1 hu).mp ⟨y, hj⟩)).symm
          · exact (if_neg (fun w => hne (((eqW_tok hk hk1 hu).mpr w).2 j hj))).symm
      · exact ⟨1, rfl, Or.inl ⟨rfl, fun j hj => absurd hj (Nat.not_lt_zero _)⟩⟩
    obtain ⟨e, e2, rfl⟩ := key2
    rw [e2, b1_q]
    refine g_t (zbl_iff.mpr ?_)
    by_cases w : (tok u n p).1 = sW k
    · rw [if_pos w]; exact Or.inr rfl
    · rw [if_neg w]; exact Or.inl rfl
  · rw [if_neg (show ¬ nI (rn isLt u n p - p) = nI (zsN k) by rw [n_eq (by omega) (by omega)]; exact y)]
    have e2 : lp (fun a => fX12_stands_l63 T 187 k S a.1 a.2) ((0 : Int32), (0 : Int32)) = some 0 := by
      refine lp_stop ?_
      show fX12_stands_l63 T 187 k S 0 0 = _
      unfold fX12_stands_l63
      rw [if_pos (rfl : (0 : Int32) = 0)]
      split <;> rfl
    rw [e2, b1_q, if_neg (fun w => y ((eqW_tok hk hk1 hu).mpr w).1)]; rfl
end
