theorem lgc_ge {a b : Int64} : (0 ≤ lg_cmp a b) ↔ ¬ a < b := by
  rw [← lg_cmp_lt, z_le, z_lt]
  exact ⟨fun h q => by omega, fun h => by omega⟩
theorem lgc_le {a b : Int64} : (lg_cmp a b ≤ 0) ↔ ¬ b < a := by
  rw [← lg_cmp_gt, z_le, z_lt]
  exact ⟨fun h q => by omega, fun h => by omega⟩
theorem l_nlt {a b : Int64} : ¬ a < b ↔ b ≤ a := by rw [l_lt, l_le]; omega
theorem v_joined {T : zT} {k : Nat} {a b : Int64} {S : zS} (h : 36 ≤ k ∧ k ≤ 44 ∨ k = 16 ∨ k = 17) : fX9_joined T (nI k) a b S = some (opv k a b) := by
  have h' : k = 36 ∨ k = 37 ∨ k = 38 ∨ k = 39 ∨ k = 40 ∨ k = 41 ∨ k = 42 ∨ k = 43 ∨ k = 44 ∨ k = 16 ∨ k = 17 := by omega
  unfold fX9_joined
  rcases h' with rfl | rfl | rfl | rfl | rfl | rfl | rfl | rfl | rfl | rfl | rfl
  · simp (decide := true) only [↓reduceIte]; rfl
  · simp (decide := true) only [↓reduceIte]; rfl
  · simp (decide := true) only [↓reduceIte]; rfl
  · simp (decide := true) only [↓reduceIte]
    show _ = some (if b = 0 then 0 else a / b)
    by_cases hb : b = 0
    · rw [if_pos ((lg_cmp_eq b 0).mpr hb), if_pos hb]; rfl
    · rw [if_neg (fun q => hb ((lg_cmp_eq b 0).mp q)), if_neg hb, g_t (show zneL b = true from decide_eq_true hb)]; rfl
  · simp (decide := true) only [↓reduceIte]
    show _ = some (if a < b then 1 else 0)
    by_cases hb : a < b
    · rw [if_neg (fun q => lgc_ge.mp q hb), if_pos hb]; rfl
    · rw [if_pos (lgc_ge.mpr hb), if_neg hb]; rfl
  · simp (decide := true) only [↓reduceIte]
    show _ = some (if a ≤ b then 1 else 0)
    by_cases hb : a ≤ b
    · rw [if_neg (fun q => l_nlt.mpr hb ((lg_cmp_gt a b).mp q)), if_pos hb]; rfl
    · rw [if_pos ((lg_cmp_gt a b).mpr (Decidable.byContradiction fun q => hb (l_nlt.mp q))), if_neg hb]; rfl
  · simp (decide := true) only [↓reduceIte]
    show _ = some (if a = b then 1 else 0)
    by_cases hb : a = b
    · rw [if_pos ((lg_cmp_eq a b).mpr hb), if_pos hb]; rfl
    · rw [if_neg (fun q => hb ((lg_cmp_eq a b).mp q)), if_neg hb]; rfl
  · simp (decide := true) only [↓reduceIte]
    show _ = some (if b ≤ a then 1 else 0)
    by_cases hb : b ≤ a
    · rw [if_neg (fun q => l_nlt.mpr hb ((lg_cmp_lt a b).mp q)), if_pos hb]; rfl
    · rw [if_pos ((lg_cmp_lt a b).mpr (Decidable.byContradiction fun q => hb (l_nlt.mp q))), if_neg hb]; rfl
  · simp (decide := true) only [↓reduceIte]
    show _ = some (if b < a then 1 else 0)
    by_cases hb : b < a
    · rw [if_neg (fun q => lgc_le.mp q hb), if_pos hb]; rfl
    · rw [if_pos (lgc_le.mpr hb), if_neg hb]; rfl
  · simp (decide := true) only [↓reduceIte]; rfl
  · simp (decide := true) only [↓reduceIte]; rfl
theorem c_word {T : zT} {ks kc n i v : Nat} {S : zS} (h1 : zr T kc 0 = kc + 1) (h2 : zr T ks 0 = ks + 1) (h3 : zr T ks 1 = ks + 2) (hi : i < 512) (hn : n < 64) (hv : v < 26) (h : S.1 (kc + 1) i = enc (47, v) ∧ (i : Int) < (S.1 kc 1).toInt) : fX9_valueAt_l5 T ks kc (nI n) (nI i) S = some (.inl (nI (n + 1), nI (i + 1), zJ S (ks + 2) n (S.2 (ks + 1) v))) := by
  unfold fX9_valueAt_l5
  have e1 := v_kindAt h1 hi h (Nat.le_of_ble_eq_true rfl)
  have e2 := v_numberAt h1 hi h (show v < 131072 by omega)
  have e3 : fX9_wordValue T ks (nI v) S = some (S.2 (ks + 1) v) := by
    unfold fX9_wordValue fX9_wordValue_b20
    simp (disch := omega) only [liq, n_lt, n_le, if_neg, g_in, h2, tn_nI]
  simp (disch := omega) only [e1, e2, b1_q, let_q, liq, n_le, if_neg, h3]
  rw [if_neg (by decide), if_neg (by decide), if_pos (by decide)]
  unfold fX9_valueAt_b45 fX9_valueAt_b83 fX9_valueAt_b87 fX9_valueAt_b157
  simp (disch := omega) only [e2, e3, b1_q, let_q, liq, n_le, if_neg, h3]
  rw [if_neg (by decide)]
  simp (disch := omega) only [g_in, tn_nI, n_add, b1_q, e3]
theorem c_not {T : zT} {ks kc n i v : Nat} {S : zS} (h1 : zr T kc 0 = kc + 1) (h3 : zr T ks 1 = ks + 2) (hi : i < 512) (hn : n < 64) (h : S.1 (kc + 1) i = enc (18, v) ∧ (i : Int) < (S.1 kc 1).toInt) : fX9_valueAt_l5 T ks kc (nI (n + 1)) (nI i) S = some (.inl (nI (n + 1), nI (i + 1), zJ S (ks + 2) n (1 - S.2 (ks + 2) n))) := by
  unfold fX9_valueAt_l5
  have e1 := v_kindAt h1 hi h (Nat.le_of_ble_eq_true rfl)
  have e4 : n + 1 - 1 = n := rfl
  simp (disch := omega) only [e1, b1_q, let_q, liq, n_le, if_neg, h3]
  rw [if_neg (by decide), if_neg (by decide), if_neg (by decide), if_pos (by decide)]
  unfold fX9_valueAt_b157
  simp (disch := omega) only [liq, n_sub, g_in, tn_nI, n_add, let_q, e4]
theorem c_op {T : zT} {ks kc n i k v : Nat} {S : zS} (h1 : zr T kc 0 = kc + 1) (h3 : zr T ks 1 = ks + 2) (hi : i < 512) (hn : n + 1 < 64) (hk : 36 ≤ k ∧ k ≤ 44 ∨ k = 16 ∨ k = 17) (h : S.1 (kc + 1) i = enc (k, v) ∧ (i : Int) < (S.1 kc 1).toInt) : fX9_valueAt_l5 T ks kc (nI (n + 2)) (nI i) S = some (.inl (nI (n + 1), nI (i + 1), zJ S (ks + 2) n (opv k (S.2 (ks + 2) n) (S.2 (ks + 2) (n + 1))))) := by
  unfold fX9_valueAt_l5
  have e1 := v_kindAt h1 hi h (show k ≤ 48 by omega)
  have e4 : n + 2 - 1 = n + 1 := rfl
  have e5 : n + 1 - 1 = n := rfl
  have e6 : nI (n + 2) + -1 = nI (n + 1) := n_dec (a := n + 2) (by omega)
  simp (disch := omega) only [e1, b1_q, let_q, e6]
  simp (disch := omega) only [liq, n_le, n_eq, if_neg, h3]
  unfold fX9_valueAt_b157
  simp (disch := omega) only [liq, n_sub, g_in, tn_nI, n_add, let_q, e5, v_joined hk, b1_q]
theorem c_end {T : zT} {ks kc n i v : Nat} {S : zS} (h1 : zr T kc 0 = kc + 1) (hi : i < 512) (h : S.1 (kc + 1) i = enc (48, v) ∧ (i : Int) < (S.1 kc 1).toInt) : fX9_valueAt_l5 T ks kc (nI n) (nI i) S = some (.inr (.inr (nI n, S))) := by
  unfold fX9_valueAt_l5
  have e1 := v_kindAt h1 hi h (Nat.le_of_ble_eq_true rfl)
  simp (disch := omega) only [e1, b1_q, let_q, liq, n_le, if_neg]
  rw [if_pos (by decide)]
theorem onlyJ_cAt {S S' : zS} {k kc i : Nat} {c : List (Nat × Nat)} (h : onlyJ S S' k) (hc : cAt S kc i c) : cAt S' kc i c := cAt_eq h.1 hc
theorem stk_z2 {S : zS} {k : Nat} {x : Int64} {st : List Int64} {a : Int64} (hs : stk S k (a :: st)) : stk (zJ S k st.length x) k (x :: st) := stk_push hs.2
theorem c_loop {T : zT} {ks kc : Nat} {w : Nat → Bool} {env : Nat → Int64} (h1 : zr T kc 0 = kc + 1) (h2 : zr T ks 0 = ks + 1) (h3 : zr T ks 1 = ks + 2) (hw : ∀ q, w q = true → q < 26) : ∀ (c : List (Nat × Nat)) (ts ts' : List Bool) (st : List Int64) (S : zS) (i : Nat), chk w c ts = some ts' → tys ts st → stk S (ks + 2) st → st.length + nvs c ≤ 64 → cAt S kc i (c ++ [(48, 0)]) → i + c.length < 512 → (∀ q, w q = true → env q = S.2 (ks + 1) q) → ∃ S', lp (fun a => fX9_valueAt_l5 T ks kc a.1 a.2.1 a.2.2) (nI st.length, nI i, S) = some (.inr (nI (ev env c st).length, S')) ∧ onlyJ S S' (ks + 2) ∧ stk S' (ks + 2) (ev env c st) := by
  intro c
  induction c with
  | nil =>
    intro ts ts' st S i hc ht hs hn ha hl he
    have hl' : i < 512 := by simpa using hl
    exact ⟨S, lp_stop (c_end h1 hl' (cAt_h ha).1), onlyJ_refl, hs⟩
  | cons p c ih =>
    intro ts ts' st S i hc ht hs hn ha hl he
    have hl' : i + (c.length + 1) < 512 := hl
    have hn' : st.length + ((if p.1 = 31 ∨ p.1 = 47 then 1 else 0) + nvs c) ≤ 64 := hn
    obtain ⟨hp, ha'⟩ := cAt_h ha
    have hc' : (cs w p ts).bind (chk w c) = some ts' := hc
    cases hcs : cs w p ts with
    | none => rw [hcs] at hc'; cases hc'
    | some t1 =>
      rw [hcs] at hc'
      have hty := es_tys (env := env) hcs ht
      -- the rest, given the step
      have fin : ∀ (S1 : zS), onlyJ S S1 (ks + 2) → stk S1 (ks + 2) (es env p st) → (es env p st).length + nvs c ≤ 64 → fX9_valueAt_l5 T ks kc (nI st.length) (nI i) S = some (.inl (nI (es env p st).length, nI (i + 1), S1)) → ∃ S', lp (fun a => fX9_valueAt_l5 T ks kc a.1 a.2.1 a.2.2) (nI st.length, nI i, S) = some (.inr (nI (ev env (p :: c) st).length, S')) ∧ onlyJ S S' (ks + 2) ∧ stk S' (ks + 2) (ev env (p :: c) st) := by
        intro S1 hS1 hs1 hn1 hstep
        obtain ⟨S', e, ho, hk⟩ := ih t1 ts' (es env p st) S1 (i + 1) hc' hty hs1 hn1 (onlyJ_cAt hS1 ha') (by omega) (fun q hq => by rw [he q hq, hS1.2 _ _ (by omega)])
        exact ⟨S', lp_go hstep e, ⟨ho.1.trans hS1.1, fun a b n => (ho.2 a b n).trans (hS1.2 a b n)⟩, hk⟩
      have hoz : ∀ j x, onlyJ S (zJ S (ks + 2) j x) (ks + 2) := fun j x => ⟨rfl, fun a b n => zJ_o n⟩
      obtain ⟨pk, pv⟩ := p
      rcases cs_cases hcs with ⟨q1, q2, q3⟩ | ⟨q1, q2, q3⟩ | ⟨q1, r, q2, q3⟩ | ⟨q1, q2, r, q3, q4⟩ | ⟨q1, q2, r, q3, q4⟩ | ⟨q1, r, q3, q4⟩
      · have q1' : pk = 31 := q1
        subst q1'
        have q2' : pv ≤ 99999 := q2
        rw [if_pos (Or.inl rfl)] at hn'
        refine fin (zJ S (ks + 2) st.length (nI pv).toInt64) (hoz _ _) (stk_push hs) ?_ (c_num h1 h3 (by omega) (by omega) q2' hp)
        show st.length + 1 + nvs c ≤ 64
        omega
      · have q1' : pk = 47 := q1
        subst q1'
        have q2' : pv < 26 := hw _ q2
        rw [if_pos (Or.inr rfl)] at hn'
        have e := c_word h1 h2 h3 (show i < 512 by omega) (show st.length < 64 by omega) q2' hp
        rw [← he pv q2] at e
        refine fin (zJ S (ks + 2) st.length (env pv)) (hoz _ _) (stk_push hs) ?_ e
        show st.length + 1 + nvs c ≤ 64
        omega
      · have q1' : pk = 18 := q1
        subst q1'
        subst q2
        obtain ⟨v, s, rfl, -, hts⟩ := tys_1 ht
        have hn2 : s.length + 1 + ((if 18 = 31 ∨ 18 = 47 then 1 else 0) + nvs c) ≤ 64 := hn'
        have hsv : S.2 (ks + 2) s.length = v := hs.1
        have e := c_not h1 h3 (show i < 512 by omega) (show s.length < 64 by omega) hp
        rw [hsv] at e
        refine fin (zJ S (ks + 2) s.length (1 - v)) (hoz _ _) (stk_z2 hs) ?_ e
        show s.length + 1 + nvs c ≤ 64
        omega
      all_goals
        subst q3
        obtain ⟨v, s, rfl, -, hts⟩ := tys_1 ht
        obtain ⟨u, s', rfl, -, hts'⟩ := tys_1 hts
        have hk : 36 ≤ pk ∧ pk ≤ 44 ∨ pk = 16 ∨ pk = 17 := by
          have q1' := q1
          simp only at q1'
          omega
        have hes : es env (pk, pv) (v :: u :: s') = opv pk u v :: s' := by
          unfold es
          rw [if_neg (by simp only; omega), if_neg (by simp only; omega), if_neg (by simp only; omega)]
        have hn2 : s'.length + 1 + 1 + ((if pk = 31 ∨ pk = 47 then 1 else 0) + nvs c) ≤ 64 := hn'
        have hsv : S.2 (ks + 2) (s'.length + 1) = v := hs.1
        have hsu : S.2 (ks + 2) s'.length = u := hs.2.1
        have e := c_op h1 h3 (show i < 512 by omega) (show s'.length + 1 < 64 by omega) hk hp
        rw [hsv, hsu] at e
        refine fin (zJ S (ks + 2) s'.length (opv pk u v)) (hoz _ _) ?_ ?_ ?_
        · rw [hes]; exact stk_push hs.2.2
        · rw [hes]
          show s'.length + 1 + nvs c ≤ 64
          omega
        · rw [hes]; exact e
theorem v_valueAt {T : zT} {ks kc i : Nat} {w : Nat → Bool} {env : Nat → Int64} {c : List (Nat × Nat)} {S : zS} (h1 : zr T kc 0 = kc + 1) (h2 : zr T ks 0 = ks + 1) (h3 : zr T ks 1 = ks + 2) (hw : ∀ q, w q = true → q < 26) (hc : isS w c ∨ isT w c) (hn : nvs c ≤ 64) (ha : cAt S kc i (c ++ [(48, 0)])) (hl : i + c.length < 512) (he : ∀ q, w q = true → env q = S.2 (ks + 1) q) : zwp (fX9_valueAt T ks kc (nI i) S) (fun r => r.1 = evv env c ∧ onlyJ S r.2 (ks + 2)) := by
  have hev : ev env c [] = [evv env c] := by
    rcases hc with h | h
    · exact evv_S h
    · exact (evv_T h).1
  have hch : ∃ ts', chk w c [] = some ts' := by
    rcases hc with h | h
    · exact ⟨_, h []⟩
    · exact ⟨_, h []⟩
  obtain ⟨ts', hch⟩ := hch
  obtain ⟨S', e, ho, hk⟩ := c_loop (env := env) h1 h2 h3 hw c [] ts' [] S i hch trivial trivial (by simpa using hn) ha hl he
  rw [hev] at e hk
  unfold fX9_valueAt
  have e' : lp (fun a => fX9_valueAt_l5 T ks kc a.1 a.2.1 a.2.2) (0, nI i, S) = some (.inr (nI 1, S')) := e
  rw [e', b1_q]
  show zwp (fX9_valueAt_b163 T ks (nI 1) S') _
  unfold fX9_valueAt_b163 fX9_valueAt_b177
  rw [if_neg (by decide), g_t (by decide), h3]
  refine w_some ⟨?_, ho⟩
  exact hk.1
