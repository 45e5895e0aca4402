/-! THE REFERENCE WORKS A CODE OUT -/
def rk (k : Nat) : Nat := if k = 31 then 0 else if k = 47 then 1 else if k = 36 then 2 else if k = 37 then 3 else if k = 40 then 4 else if k = 41 then 5 else if k = 42 then 6 else if k = 43 then 7 else if k = 44 then 8 else if k = 18 then 9 else if k = 17 then 10 else if k = 16 then 11 else if k = 38 then 13 else 14
/-- the code c stands in the reference's signs from place i on; wm: how it numbers the words -/
def rAt (R : Nat → Nat → Int32) (wm : Nat → Nat) (i : Nat) (c : List (Nat × Nat)) : Prop := ∀ j p, c[j]? = some p → R 189 (i + j) = nI (rk p.1) ∧ (p.1 = 31 → R 190 (i + j) = nI p.2) ∧ (p.1 = 47 → R 190 (i + j) = nI (wm p.2))
theorem rAt_h {R : Nat → Nat → Int32} {wm : Nat → Nat} {i : Nat} {p : Nat × Nat} {c : List (Nat × Nat)} (h : rAt R wm i (p :: c)) : (R 189 i = nI (rk p.1) ∧ (p.1 = 31 → R 190 i = nI p.2) ∧ (p.1 = 47 → R 190 i = nI (wm p.2))) ∧ rAt R wm (i + 1) c := by
  refine ⟨h 0 p rfl, fun j q hj => ?_⟩
  have := h (j + 1) q hj
  rw [show i + 1 + j = i + (j + 1) by omega]
  exact this
theorem v_both {T : zT} {k : Nat} {a b : Int64} {S : zS} (h : 36 ≤ k ∧ k ≤ 44 ∨ k = 16 ∨ k = 17) : fX12_both T (nI (rk k)) a b S = some (opv k a b) := by
  have h' : k = 36 ∨ k = 37 ∨ k = 38 ∨ k = 39 ∨ k = 40 ∨ k = 41 ∨ k = 42 ∨ k = 43 ∨ k = 44 ∨ k = 16 ∨ k = 17 := by omega
  unfold fX12_both
  rcases h' with rfl | rfl | rfl | rfl | rfl | rfl | rfl | rfl | rfl | rfl | rfl
  · simp (decide := true) only [↓reduceIte]; rfl
  · simp (decide := true) only [↓reduceIte]; rfl
  · simp (decide := true) only [↓reduceIte]; rfl
  · simp (decide := true) only [↓reduceIte]
    show _ = some (if b = 0 then 0 else a / b)
    by_cases hb : b = 0
    · rw [if_pos ((lg_cmp_eq b 0).mpr hb), if_pos hb]; rfl
    · rw [if_neg (fun q => hb ((lg_cmp_eq b 0).mp q)), if_neg hb, g_t (show zneL b = true from decide_eq_true hb)]; rfl
  · simp (decide := true) only [↓reduceIte]
    show _ = some (if a < b then 1 else 0)
    by_cases hb : a < b
    · rw [if_neg (fun q => lgc_ge.mp q hb), if_pos hb]; rfl
    · rw [if_pos (lgc_ge.mpr hb), if_neg hb]; rfl
  · simp (decide := true) only [↓reduceIte]
    show _ = some (if a ≤ b then 1 else 0)
    by_cases hb : a ≤ b
    · rw [if_neg (fun q => l_nlt.mpr hb ((lg_cmp_gt a b).mp q)), if_pos hb]; rfl
    · rw [if_pos ((lg_cmp_gt a b).mpr (Decidable.byContradiction fun q => hb (l_nlt.mp q))), if_neg hb]; rfl
  · simp (decide := true) only [↓reduceIte]
    show _ = some (if a = b then 1 else 0)
    by_cases hb : a = b
    · rw [if_pos ((lg_cmp_eq a b).mpr hb), if_pos hb]; rfl
    · rw [if_neg (fun q => hb ((lg_cmp_eq a b).mp q)), if_neg hb]; rfl
  · simp (decide := true) only [↓reduceIte]
    show _ = some (if b ≤ a then 1 else 0)
    by_cases hb : b ≤ a
    · rw [if_neg (fun q => l_nlt.mpr hb ((lg_cmp_lt a b).mp q)), if_pos hb]; rfl
    · rw [if_pos ((lg_cmp_lt a b).mpr (Decidable.byContradiction fun q => hb (l_nlt.mp q))), if_neg hb]; rfl
  · simp (decide := true) only [↓reduceIte]
    show _ = some (if b < a then 1 else 0)
    by_cases hb : b < a
    · rw [if_neg (fun q => lgc_le.mp q hb), if_pos hb]; rfl
    · rw [if_pos (lgc_le.mpr hb), if_neg hb]; rfl
  · simp (decide := true) only [↓reduceIte]; rfl
  · simp (decide := true) only [↓reduceIte]; rfl
theorem r_num {T : zT} (hT : iT T) {w n i u v : Nat} {S : zS} (hw : w < 8) (hi : i < 300) (hu : i < u) (hu2 : u ≤ 300) (hn : n < 300) (h1 : S.1 189 (300 * w + i) = nI 0) (h2 : S.1 190 (300 * w + i) = nI v) : fX12_answer_l6 T 187 (nI w) (nI u) (nI n) (nI i) S = some (.inl (nI (n + 1), nI (i + 1), zJ S 212 n (nI v).toInt64)) := by
  unfold fX12_answer_l6
  simp (disch := omega) only [zT_187_12 hT, zT_187_13 hT, liq, n_le, n_mul, n_add, if_neg, g_in, tn_nI, let_q, h1, h2]
  rw [if_pos trivial]
  unfold fX12_answer_b53 fX12_answer_b77 fX12_answer_b147
  rw [if_pos (show nI 0 = 0 from rfl)]
  simp (disch := omega) only [zT_187_35 hT, liq, n_add, g_in, tn_nI, let_q]
theorem r_word {T : zT} (hT : iT T) {w n i u v : Nat} {S : zS} (hw : w < 8) (hi : i < 300) (hu : i < u) (hu2 : u ≤ 300) (hn : n < 300) (hv : v < 9) (h1 : S.1 189 (300 * w + i) = nI 1) (h2 : S.1 190 (300 * w + i) = nI v) : fX12_answer_l6 T 187 (nI w) (nI u) (nI n) (nI i) S = some (.inl (nI (n + 1), nI (i + 1), zJ S 212 n (S.2 211 v))) := by
  unfold fX12_answer_l6
  simp (disch := omega) only [zT_187_12 hT, zT_187_13 hT, liq, n_le, n_mul, n_add, if_neg, g_in, tn_nI, let_q, h1, h2]
  rw [if_neg (by decide), if_pos trivial]
  unfold fX12_answer_b53 fX12_answer_b77 fX12_answer_b147
  rw [if_neg (by decide)]
  simp (disch := omega) only [zT_187_35 hT, zT_187_34 hT, liq, n_add, g_in, tn_nI, let_q]
theorem r_not {T : zT} (hT : iT T) {w n i u : Nat} {S : zS} (hw : w < 8) (hi : i < 300) (hu : i < u) (hu2 : u ≤ 300) (hn : n < 300) (h1 : S.1 189 (300 * w + i) = nI 9) : fX12_answer_l6 T 187 (nI w) (nI u) (nI (n + 1)) (nI i) S = some (.inl (nI (n + 1), nI (i + 1), zJ S 212 n (1 - S.2 212 n))) := by
  unfold fX12_answer_l6
  have e4 : n + 1 - 1 = n := rfl
  simp (disch := omega) only [zT_187_12 hT, zT_187_13 hT, liq, n_le, n_mul, n_add, if_neg, g_in, tn_nI, let_q, h1]
  rw [if_neg (by decide), if_neg (by decide), if_pos trivial]
  unfold fX12_answer_b147
  simp (disch := omega) only [liq, zT_187_35 hT, n_sub, g_in, tn_nI, n_add, let_q, e4]
theorem r_op {T : zT} (hT : iT T) {w n i u k : Nat} {S : zS} (hw : w < 8) (hi : i < 300) (hu : i < u) (hu2 : u ≤ 300) (hn : n + 1 < 300) (hk : 36 ≤ k ∧ k ≤ 44 ∨ k = 16 ∨ k = 17) (h1 : S.1 189 (300 * w + i) = nI (rk k)) : fX12_answer_l6 T 187 (nI w) (nI u) (nI (n + 2)) (nI i) S = some (.inl (nI (n + 1), nI (i + 1), zJ S 212 n (opv k (S.2 212 n) (S.2 212 (n + 1))))) := by
  unfold fX12_answer_l6
  have e5 : n + 1 - 1 = n := rfl
  have e6 : nI (n + 2) + -1 = nI (n + 1) := n_dec (a := n + 2) (by omega)
  have hk1 : rk k ≠ 0 ∧ rk k ≠ 1 ∧ rk k ≠ 9 ∧ rk k < 20 := by
    have h' : k = 36 ∨ k = 37 ∨ k = 38 ∨ k = 39 ∨ k = 40 ∨ k = 41 ∨ k = 42 ∨ k = 43 ∨ k = 44 ∨ k = 16 ∨ k = 17 := by omega
    rcases h' with rfl | rfl | rfl | rfl | rfl | rfl | rfl | rfl | rfl | rfl | rfl <;> decide
  obtain ⟨k1, k2, k3, k4⟩ := hk1
  simp (disch := omega) only [e6, h1]
  simp (disch := omega) only [zT_187_12 hT, zT_187_13 hT, zT_187_35 hT, liq, n_le, n_eq, n_mul, n_add, if_neg, g_in, tn_nI, let_q, h1]
  unfold fX12_answer_b147
  simp (disch := omega) only [liq, n_sub, g_in, tn_nI, n_add, let_q, e5, v_both hk, b1_q]
theorem r_end {T : zT} {w n i : Nat} {S : zS} (hi : i ≤ 300) : fX12_answer_l6 T 187 (nI w) (nI i) (nI n) (nI i) S = some (.inr S) := by
  unfold fX12_answer_l6
  simp (disch := omega) only [n_le, if_pos]
theorem r_loop {T : zT} (hT : iT T) {x : Nat} {w : Nat → Bool} {wm : Nat → Nat} {env : Nat → Int64} (hx : x < 8) (hw : ∀ q, w q = true → wm q < 9) : ∀ (c : List (Nat × Nat)) (ts ts' : List Bool) (st : List Int64) (S : zS) (i : Nat), chk w c ts = some ts' → tys ts st → stk S 212 st → st.length + c.length ≤ 300 → rAt S.1 wm (300 * x + i) c → i + c.length ≤ 300 → (∀ q, w q = true → env q = S.2 211 (wm q)) → ∃ S', lp (fun a => fX12_answer_l6 T 187 (nI x) (nI (i + c.length)) a.1 a.2.1 a.2.2) (nI st.length, nI i, S) = some S' ∧ onlyJ S S' 212 ∧ stk S' 212 (ev env c st) := by
  intro c
  induction c with
  | nil =>
    intro ts ts' st S i hc ht hs hn ha hl he
    exact ⟨S, lp_stop (r_end (by simpa using hl)), onlyJ_refl, hs⟩
  | cons p c ih =>
    intro ts ts' st S i hc ht hs hn ha hl he
    have hl' : i + (c.length + 1) ≤ 300 := hl
    have hn' : st.length + (c.length + 1) ≤ 300 := hn
    obtain ⟨hp, ha'⟩ := rAt_h ha
    have hc' : (cs w p ts).bind (chk w c) = some ts' := hc
    cases hcs : cs w p ts with
    | none => rw [hcs] at hc'; cases hc'
    | some t1 =>
      rw [hcs] at hc'
      have hty := es_tys (env := env) hcs ht
      have elen : i + (p :: c).length = i + 1 + c.length := by simp only [List.length_cons]; omega
      have fin : ∀ (S1 : zS), onlyJ S S1 212 → stk S1 212 (es env p st) → (es env p st).length + c.length ≤ 300 → fX12_answer_l6 T 187 (nI x) (nI (i + 1 + c.length)) (nI st.length) (nI i) S = some (.inl (nI (es env p st).length, nI (i + 1), S1)) → ∃ S', lp (fun a => fX12_answer_l6 T 187 (nI x) (nI (i + (p :: c).length)) a.1 a.2.1 a.2.2) (nI st.length, nI i, S) = some S' ∧ onlyJ S S' 212 ∧ stk S' 212 (ev env (p :: c) st) := by
        intro S1 hS1 hs1 hn1 hstep
        obtain ⟨S', e, ho, hk⟩ := ih t1 ts' (es env p st) S1 (i + 1) hc' hty hs1 hn1 (by rw [hS1.1]; exact ha') (by omega) (fun q hq => by rw [he q hq, hS1.2 _ _ (by omega)])
        rw [elen]
        exact ⟨S', lp_go hstep e, ⟨ho.1.trans hS1.1, fun a b n => (ho.2 a b n).trans (hS1.2 a b n)⟩, hk⟩
      have hoz : ∀ j x, onlyJ S (zJ S 212 j x) 212 := fun j x => ⟨rfl, fun a b n => zJ_o n⟩
      obtain ⟨pk, pv⟩ := p
      rcases cs_cases hcs with ⟨q1, q2, q3⟩ | ⟨q1, q2, q3⟩ | ⟨q1, r, q2, q3⟩ | ⟨q1, q2, r, q3, q4⟩ | ⟨q1, q2, r, q3, q4⟩ | ⟨q1, r, q3, q4⟩
      · have q1' : pk = 31 := q1
        subst q1'
        refine fin (zJ S 212 st.length (nI pv).toInt64) (hoz _ _) (stk_push hs) ?_ (r_num hT hx (by omega) (by omega) (by omega) (by omega) hp.1 (hp.2.1 rfl))
        show st.length + 1 + c.length ≤ 300
        omega
      · have q1' : pk = 47 := q1
        subst q1'
        have e := r_word hT hx (show i < 300 by omega) (show i < i + 1 + c.length by omega) (by omega) (show st.length < 300 by omega) (hw _ q2) hp.1 (hp.2.2 rfl)
        rw [← he pv q2] at e
        refine fin (zJ S 212 st.length (env pv)) (hoz _ _) (stk_push hs) ?_ e
        show st.length + 1 + c.length ≤ 300
        omega
      · have q1' : pk = 18 := q1
        subst q1'
        subst q2
        obtain ⟨v, s, rfl, -, hts⟩ := tys_1 ht
        have hn2 : s.length + 1 + (c.length + 1) ≤ 300 := hn'
        have hsv : S.2 212 s.length = v := hs.1
        have e := r_not hT hx (show i < 300 by omega) (show i < i + 1 + c.length by omega) (by omega) (show s.length < 300 by omega) hp.1
        rw [hsv] at e
        refine fin (zJ S 212 s.length (1 - v)) (hoz _ _) (stk_z2 hs) ?_ e
        show s.length + 1 + c.length ≤ 300
        omega
      all_goals
        subst q3
        obtain ⟨v, s, rfl, -, hts⟩ := tys_1 ht
        obtain ⟨u, s', rfl, -, hts'⟩ := tys_1 hts
        have hk : 36 ≤ pk ∧ pk ≤ 44 ∨ pk = 16 ∨ pk = 17 := by
          have q1' := q1
          simp only at q1'
          omega
        have hes : es env (pk, pv) (v :: u :: s') = opv pk u v :: s' := by
          unfold es
          rw [if_neg (by simp only; omega), if_neg (by simp only; omega), if_neg (by simp only; omega)]
        have hn2 : s'.length + 1 + 1 + (c.length + 1) ≤ 300 := hn'
        have hsv : S.2 212 (s'.length + 1) = v := hs.1
        have hsu : S.2 212 s'.length = u := hs.2.1
        have e := r_op hT hx (show i < 300 by omega) (show i < i + 1 + c.length by omega) (by omega) (show s'.length + 1 < 300 by omega) hk hp.1
        rw [hsv, hsu] at e
        refine fin (zJ S 212 s'.length (opv pk u v)) (hoz _ _) ?_ ?_ ?_
        · rw [hes]; exact stk_push hs.2.2
        · rw [hes]
          show s'.length + 1 + c.length ≤ 300
          omega
        · rw [hes]; exact e
theorem v_answer {T : zT} (hT : iT T) {x i u : Nat} {w : Nat → Bool} {wm : Nat → Nat} {env : Nat → Int64} {c : List (Nat × Nat)} {S : zS} (hx : x < 8) (hw : ∀ q, w q = true → wm q < 9) (hc : isS w c ∨ isT w c) (ha : rAt S.1 wm (300 * x + i) c) (hu : u = i + c.length) (hl : u ≤ 300) (he : ∀ q, w q = true → env q = S.2 211 (wm q)) : zwp (fX12_answer T 187 (nI x) (nI i) (nI u) S) (fun r => r.1 = evv env c ∧ onlyJ S r.2 212) := by
  subst hu
  have hev : ev env c [] = [evv env c] := by
    rcases hc with h | h
    · exact evv_S h
    · exact (evv_T h).1
  have hch : ∃ ts', chk w c [] = some ts' := by
    rcases hc with h | h
    · exact ⟨_, h []⟩
    · exact ⟨_, h []⟩
  obtain ⟨ts', hch⟩ := hch
  obtain ⟨S', e, ho, hk⟩ := r_loop hT hx hw c [] ts' [] S i hch trivial trivial (by simp only [List.length_nil]; omega) ha hl he
  rw [hev] at hk
  unfold fX12_answer
  have e' : lp (fun a => fX12_answer_l6 T 187 (nI x) (nI (i + c.length)) a.1 a.2.1 a.2.2) (0, nI i, S) = some S' := e
  rw [e', b1_q, g_t (by decide), zT_187_35 hT]
  exact w_some ⟨hk.1, ho⟩
