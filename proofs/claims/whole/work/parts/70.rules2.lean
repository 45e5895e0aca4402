theorem eR22 {B : Bk} {t : Nat} {w home inn has : Int32} : envR B t w home inn has 22 = (B.1 0 t + B.1 1 t * w).toInt64 := by
  unfold envR
  rw [if_pos rfl]
theorem eR23 {B : Bk} {t : Nat} {w home inn has : Int32} : envR B t w home inn has 23 = (B.1 1 t).toInt64 := by
  unfold envR
  rw [if_neg (by decide), if_pos rfl]
theorem eR24 {B : Bk} {t : Nat} {w home inn has : Int32} : envR B t w home inn has 24 = if B.1 2 t = -1 then 9999 else (B.1 2 t - w).toInt64 := by
  unfold envR
  rw [if_neg (by decide), if_neg (by decide), if_pos rfl]
theorem eR25 {B : Bk} {t : Nat} {w home inn has : Int32} : envR B t w home inn has 25 = (bern B 1 w (home ||| (1 <<< (nI t &&& 31))) (inn &&& ((1 <<< (nI t &&& 31)) ^^^ (-1))) - bern B 1 w home inn).toInt64 := by
  unfold envR
  rw [if_neg (by decide), if_neg (by decide), if_neg (by decide), if_pos rfl]
theorem eR13 {B : Bk} {t : Nat} {w home inn has : Int32} : envR B t w home inn has 13 = (B.1 5 t).toInt64 := by
  unfold envR
  rw [if_neg (by decide), if_neg (by decide), if_neg (by decide), if_neg (by decide), if_pos rfl]
theorem eR8 {B : Bk} {t : Nat} {w home inn has : Int32} : envR B t w home inn has 8 = has.toInt64 := by
  unfold envR
  rw [if_neg (by decide), if_neg (by decide), if_neg (by decide), if_neg (by decide), if_neg (by decide), if_neg (by decide), if_pos rfl]
/-- the words in the reference's row -/
def askd (B : Bk) (t : Nat) (w home inn has : Int32) (S : zS) : Prop := S.2 211 0 = envR B t w home inn has 22 ∧ S.2 211 1 = envR B t w home inn has 23 ∧ S.2 211 2 = envR B t w home inn has 24 ∧ S.2 211 3 = envR B t w home inn has 25 ∧ S.2 211 4 = envR B t w home inn has 13 ∧ S.2 211 5 = envR B t w home inn has 19 ∧ S.2 211 6 = envR B t w home inn has 8 ∧ S.2 211 7 = envR B t w home inn has 20 ∧ S.2 211 8 = envR B t w home inn has 21
theorem askd_w {B : Bk} {t : Nat} {w home inn has : Int32} {S : zS} (h : askd B t w home inn has S) {q : Nat} (hq : wR q = true) : envR B t w home inn has q = S.2 211 (wmR q) := by
  obtain ⟨h0, h1, h2, h3, h4, h5, h6, h7, h8⟩ := h
  have hq' := of_decide_eq_true hq
  have : q = 22 ∨ q = 23 ∨ q = 24 ∨ q = 25 ∨ q = 13 ∨ q = 8 ∨ q = 19 ∨ q = 20 ∨ q = 21 := by omega
  rcases this with rfl | rfl | rfl | rfl | rfl | rfl | rfl | rfl | rfl
  · rw [show wmR 22 = 0 from by decide, h0]
  · rw [show wmR 23 = 1 from by decide, h1]
  · rw [show wmR 24 = 2 from by decide, h2]
  · rw [show wmR 25 = 3 from by decide, h3]
  · rw [show wmR 13 = 4 from by decide, h4]
  · rw [show wmR 8 = 6 from by decide, h6]
  · rw [show wmR 19 = 5 from by decide, h5]
  · rw [show wmR 20 = 7 from by decide, h7]
  · rw [show wmR 21 = 8 from by decide, h8]
theorem rAt_app {R : Nat → Nat → Int32} {wm : Nat → Nat} {i : Nat} {a b : List (Nat × Nat)} (h : rAt R wm i (a ++ b)) : rAt R wm i a ∧ rAt R wm (i + a.length) b := by
  refine ⟨fun j p hj => h j p ?_, fun j p hj => ?_⟩
  · have := (List.getElem?_eq_some_iff.mp hj).1
    rw [List.getElem?_append_left this]; exact hj
  · have := h (a.length + j) p (by rw [List.getElem?_append_right (by omega)]; rw [show a.length + j - a.length = j by omega]; exact hj)
    rw [show i + a.length + j = i + (a.length + j) by omega]
    exact this
theorem rul_loop {T : zT} (hT : iT T) {s : Nat} (hs : s < 8) {L : List Rc} (hL : okRu L) {env : Nat → Int64} {S : zS} (hr : ruR S s L) (he : ∀ q, wR q = true → env q = S.2 211 (wmR q)) : ∃ S', zb1 (lp (fun a => fX12_likesIt_l176 T 187 (nI s) a.1 a.2) (nI (24 * s), S)) (fun e55 => zsm e55 (fun e55_0 => some (0, e55_0)) (fun e55_1 => fX12_likesIt_b246 T 187 (nI s) e55_1.1 e55_1.2)) = some (lkV env L, S') ∧ S'.1 = S.1 := by
  obtain ⟨hlen, hcl⟩ := hr
  have h12 := hL.1
  have hok : ∀ (i : Nat) (c : Rc), L[i]? = some c → okRc c := fun i c hc => hL.2 c (List.mem_of_getElem? hc)
  have e24 : (24 : Int32) * nI s = nI (24 * s) := by rw [liq, n_mul]
  have key : zwp (lp (fun a => fX12_likesIt_l176 T 187 (nI s) a.1 a.2) (nI (24 * s), S)) (fun e => (∃ S', e = .inl S' ∧ onlyJ S S' 212 ∧ lkV env L = 0) ∨ ∃ i c S', e = .inr (nI (24 * s + i), S') ∧ onlyJ S S' 212 ∧ L[i]? = some c ∧ c.1 = 0 ∧ lkV env L = evv env c.2.2.1) := by
    refine lp_for (I := fun n a => ∃ S', a = (nI (24 * s + n), S') ∧ onlyJ S S' 212 ∧ lkV env L = lkV env (L.drop n)) L.length ?_ ?_ ?_
    · rintro n a hn ⟨S', rfl, ho, hv⟩
      obtain ⟨c, hc⟩ : ∃ c, L[n]? = some c := ⟨_, List.getElem?_eq_getElem hn⟩
      obtain ⟨c0, -, c1⟩ := hok n c hc
      obtain ⟨d1, d2, d3⟩ := hcl n c hc
      rw [lkV_drop hc] at hv
      show (∃ a', fX12_likesIt_l176 T 187 (nI s) (nI (24 * s + n)) S' = _ ∧ _) ∨ ∃ r, fX12_likesIt_l176 T 187 (nI s) (nI (24 * s + n)) S' = _ ∧ _
      unfold fX12_likesIt_l176 fX12_likesIt_b267
      rw [g_in hs (by decide), zT_187_14 hT, tn_nI (by omega), ho.1, hlen, e24, n_add, if_neg (by rw [n_le (by omega) (by omega)]; omega), g_in (by omega) (by decide), zT_187_15 hT, tn_nI (by omega), d1]
      by_cases q : c.1 = 0
      · obtain ⟨a, a1, a2, a3, a4, a5⟩ := d3 q
        obtain ⟨c2, c3, c4⟩ := c1 q
        rw [if_pos (by rw [q]; rfl)]
        simp only [g_in (show 24 * s + n < 192 by omega) (show 192 < 2147483648 by decide), zT_187_19 hT, zT_187_20 hT, tn_nI (show 24 * s + n < 2147483648 by omega), ho.1, a2, a3]
        by_cases hnil : c.2.2.2 = []
        · right
          rw [if_pos (by rw [hnil]; rfl)]
          rw [if_pos ⟨q, Or.inl hnil⟩] at hv
          exact ⟨_, rfl, Or.inr ⟨n, c, S', rfl, ho, hc, q, hv⟩⟩
        · have hpos : 0 < c.2.2.2.length := List.length_pos_iff.mpr hnil
          rw [if_neg (by rw [n_eq (by omega) (by omega)]; omega)]
          have hT' := c4.elim (fun z => absurd z hnil) (fun z => z)
          obtain ⟨r, e, p1, p2⟩ := v_answer hT (x := s) (i := a + c.2.2.1.length) (u := a + c.2.2.1.length + c.2.2.2.length) (w := wR) (wm := wmR) (env := env) (c := c.2.2.2) (S := S') hs (fun q hq => wR_9 hq) (Or.inr hT'.1) (by rw [ho.1, ← Nat.add_assoc]; exact (rAt_app a5).2) rfl (by omega) (fun q hq => by rw [he q hq, ho.2 _ _ (by decide)])
          rw [e]
          have ho2 : onlyJ S r.2 212 := ⟨p2.1.trans ho.1, fun a b n => (p2.2 a b n).trans (ho.2 a b n)⟩
          have hb := (evv_T (env := env) hT'.1).2
          show (∃ a', (if lg_cmp r.1 1 = 0 then _ else _) = _ ∧ _) ∨ ∃ r', (if lg_cmp r.1 1 = 0 then _ else _) = _ ∧ _
          by_cases hz : r.1 = 1
          · right
            rw [if_pos ((lg_cmp_eq _ _).mpr hz)]
            rw [if_pos ⟨q, Or.inr (by rw [← p1, hz]; decide)⟩] at hv
            exact ⟨_, rfl, Or.inr ⟨n, c, r.2, rfl, ho2, hc, q, hv⟩⟩
          · left
            have h0 : evv env c.2.2.2 = 0 := hb.elim id (fun z => absurd (p1.trans z) hz)
            rw [if_neg (fun z => hz ((lg_cmp_eq _ _).mp z))]
            rw [if_neg (fun z => z.2.elim hnil (fun y => y h0))] at hv
            exact ⟨_, rfl, r.2, (by show (nI (24 * s + n) + 1, r.2) = _; rw [n_addL]; rfl), ho2, hv⟩
      · left
        rw [if_neg (by rw [n_eqR (by omega) (by omega)]; exact q), let_q]
        rw [if_neg (fun z => q z.1)] at hv
        exact ⟨_, rfl, S', (by show (nI (24 * s + n) + 1, S') = _; rw [n_addL]; rfl), ho, hv⟩
    · rintro a ⟨S', rfl, ho, hv⟩
      refine ⟨.inl S', ?_, Or.inl ⟨S', rfl, ho, ?_⟩⟩
      · show fX12_likesIt_l176 T 187 (nI s) (nI (24 * s + L.length)) S' = _
        unfold fX12_likesIt_l176
        rw [g_in hs (by decide), zT_187_14 hT, tn_nI (by omega), ho.1, hlen, e24, n_add, if_pos (by rw [n_le (by omega) (by omega)]; exact Nat.le_refl _)]
      · rw [hv, List.drop_length]; rfl
    · exact ⟨S, rfl, onlyJ_refl, by rw [List.drop_zero]⟩
  obtain ⟨e, e1, ⟨S', rfl, ho, hv⟩ | ⟨i, c, S', rfl, ho, hc, q, hv⟩⟩ := key
  · rw [e1, b1_q, hv]
    exact ⟨S', rfl, ho.1⟩
  · rw [e1, b1_q]
    have hi : i < 12 := by have := (List.getElem?_eq_some_iff.mp hc).1; omega
    obtain ⟨c0, -, c1⟩ := hok i c hc
    obtain ⟨d1, d2, d3⟩ := hcl i c hc
    obtain ⟨a, a1, a2, a3, a4, a5⟩ := d3 q
    obtain ⟨c2, c3, c4⟩ := c1 q
    obtain ⟨r, e, p1, p2⟩ := v_answer hT (x := s) (i := a) (u := a + c.2.2.1.length) (w := wR) (wm := wmR) (env := env) (c := c.2.2.1) (S := S') hs (fun q hq => wR_9 hq) (Or.inl c2) (by rw [ho.1]; exact (rAt_app a5).1) rfl (by omega) (fun q hq => by rw [he q hq, ho.2 _ _ (by decide)])
    show ∃ S'', fX12_likesIt_b246 T 187 (nI s) (nI (24 * s + i)) S' = _ ∧ _
    unfold fX12_likesIt_b246
    rw [g_in (by omega) (by decide), g_in (by omega) (by decide), zT_187_18 hT, zT_187_19 hT, tn_nI (by omega), ho.1, a1, a2, e, hv, ← p1]
    exact ⟨r.2, rfl, p2.1.trans ho.1⟩
theorem r_likesIt {T : zT} (hT : iT T) {B : Bk} (hB : okB B) {q t : Nat} (hq : q < 6) (ht : t < 8) {L : List Rc} (hL : okRu L) {S : zS} (hr : bkR S.1 B) (hru : ruR S (2 + q) L) {w home inn has : Int32} (i1 : is8 home) (i2 : is8 inn) : ∃ S', fX12_likesIt T 187 (nI q) (nI t) w home inn has S = some (lkV (envR B t w home inn has) L, S') ∧ S'.1 = S.1 := by
  have a0 : zin 0 9 = true := by decide
  have a1 : zin 1 9 = true := by decide
  have a2 : zin 2 9 = true := by decide
  have a3 : zin 3 9 = true := by decide
  have a4 : zin 4 9 = true := by decide
  have a5 : zin 5 9 = true := by decide
  have a6 : zin 6 9 = true := by decide
  have a7 : zin 7 9 = true := by decide
  have a8 : zin 8 9 = true := by decide
  obtain ⟨S5, e5, o5⟩ := r_ernE hT (w := w) (home := home ||| ((1 : Int32) <<< (nI t &&& 31))) (inn := inn &&& (((1 : Int32) <<< (nI t &&& 31)) ^^^ (-1))) hr (is8_or i1 (is8_shl ht)) (is8_and i2)
  have hr5 : bkR S5.1 B := by rw [o5]; exact hr
  obtain ⟨S8, e8, o8⟩ := r_ernE hT (w := w) hr5 i1 i2
  have hr8 : bkR S8.1 B := by rw [o8]; exact hr5
  have e81 : S8.1 = S.1 := o8.trans o5
  have g16 : ∀ {β : Type} (k : Option β), zgd (zin (nI t) 16) k = k := fun k => g_in (by omega) (by decide)
  have run : S8.1 201 t = B.1 1 t := hr8.2.1 t ht 1 (by decide)
  have los : S8.1 202 t = B.1 2 t := hr8.2.1 t ht 2 (by decide)
  have wor : S8.1 205 t = B.1 5 t := hr8.2.1 t ht 5 (by decide)
  have e2q : (2 : Int32) + nI q = nI (2 + q) := by rw [liq, n_add]
  have e24 : (24 : Int32) * nI (2 + q) = nI (24 * (2 + q)) := by rw [liq, n_mul]
  have fin : ∀ S38 : zS, S38.1 = S.1 → askd B t w home inn has S38 → ∃ S', zb1 (lp (fun a => fX12_likesIt_l176 T 187 (nI (2 + q)) a.1 a.2) (nI (24 * (2 + q)), S38)) (fun e55 => zsm e55 (fun e55_0 => some (0, e55_0)) (fun e55_1 => fX12_likesIt_b246 T 187 (nI (2 + q)) e55_1.1 e55_1.2)) = some (lkV (envR B t w home inn has) L, S') ∧ S'.1 = S.1 := by
    intro S38 hs hask
    obtain ⟨S', q1, q2⟩ := rul_loop hT (s := 2 + q) (by omega) hL (env := envR B t w home inn has) (S := S38) (ruR_cg (by have := hL.1; omega) (fun a b _ _ _ _ _ => by rw [hs]) hru) (fun q hq => askd_w hask hq)
    exact ⟨S', q1, q2.trans hs⟩
  have rest : ∀ (lv : Int64) (S16 : zS), S16.1 = S.1 → S16.2 211 0 = envR B t w home inn has 22 → S16.2 211 1 = envR B t w home inn has 23 → lv = envR B t w home inn has 24 → ∃ S', fX12_likesIt_b97 T 187 (nI q) (nI t) w home inn has (bern B 1 w (home ||| ((1 : Int32) <<< (nI t &&& 31))) (inn &&& (((1 : Int32) <<< (nI t &&& 31)) ^^^ (-1))) - bern B 1 w home inn) lv 2 211 9 S16 = some (lkV (envR B t w home inn has) L, S') ∧ S'.1 = S.1 := by
    intro lv S16 h1 h2 h3 h4
    have w2 : (2 : Int32).toNatClampNeg = 2 := rfl
    have w3 : (3 : Int32).toNatClampNeg = 3 := rfl
    have w4 : (4 : Int32).toNatClampNeg = 4 := rfl
    have w5 : (5 : Int32).toNatClampNeg = 5 := rfl
    have w6 : (6 : Int32).toNatClampNeg = 6 := rfl
    have w7 : (7 : Int32).toNatClampNeg = 7 := rfl
    have w8 : (8 : Int32).toNatClampNeg = 8 := rfl
    have wor' : S16.1 205 t = B.1 5 t := by rw [h1, ← e81]; exact wor
    unfold fX12_likesIt_b97
    simp only [g_t a2, g_t a3, g_t a4, g_t a5, g_t a6, g_t a7, g_t a8, g16, let_q, zT_187_34 hT, zT_187_28 hT, w2, w3, w4, w5, w6, w7, w8, tn_nI (show t < 2147483648 by omega), zJ_iq, wor', v_bits i1, v_bits i2, b1_q, e2q, e24]
    refine fin _ ?_ ?_
    · exact h1
    · refine ⟨?_, ?_, ?_, ?_, ?_, ?_, ?_, ?_, ?_⟩
      · rw [zJ_at, if_neg (by omega), zJ_at, if_neg (by omega), zJ_at, if_neg (by omega), zJ_at, if_neg (by omega), zJ_at, if_neg (by omega), zJ_at, if_neg (by omega), zJ_at, if_neg (by omega)]; exact h2
      · rw [zJ_at, if_neg (by omega), zJ_at, if_neg (by omega), zJ_at, if_neg (by omega), zJ_at, if_neg (by omega), zJ_at, if_neg (by omega), zJ_at, if_neg (by omega), zJ_at, if_neg (by omega)]; exact h3
      · rw [zJ_at, if_neg (by omega), zJ_at, if_neg (by omega), zJ_at, if_neg (by omega), zJ_at, if_neg (by omega), zJ_at, if_neg (by omega), zJ_at, if_neg (by omega), zJ_s]; exact h4
      · rw [zJ_at, if_neg (by omega), zJ_at, if_neg (by omega), zJ_at, if_neg (by omega), zJ_at, if_neg (by omega), zJ_at, if_neg (by omega), zJ_s, eR25]
      · rw [zJ_at, if_neg (by omega), zJ_at, if_neg (by omega), zJ_at, if_neg (by omega), zJ_at, if_neg (by omega), zJ_s, eR13]
      · rw [zJ_at, if_neg (by omega), zJ_at, if_neg (by omega), zJ_at, if_neg (by omega), zJ_s, eR19]
      · rw [zJ_at, if_neg (by omega), zJ_at, if_neg (by omega), zJ_s, eR8]
      · rw [zJ_at, if_neg (by omega), zJ_s, eR20]
      · rw [zJ_s, eR21]
  have w0 : (0 : Int32).toNatClampNeg = 0 := rfl
  have w1 : (1 : Int32).toNatClampNeg = 1 := rfl
  have s0 : fX12_likesIt T 187 (nI q) (nI t) w home inn has S = if B.1 2 t = (-1) then fX12_likesIt_b97 T 187 (nI q) (nI t) w home inn has (bern B 1 w (home ||| ((1 : Int32) <<< (nI t &&& 31))) (inn &&& (((1 : Int32) <<< (nI t &&& 31)) ^^^ (-1))) - bern B 1 w home inn) 9999 2 211 9 (zJ (zJ S8 211 0 (B.1 0 t + B.1 1 t * w).toInt64) 211 1 (B.1 1 t).toInt64) else fX12_likesIt_b97 T 187 (nI q) (nI t) w home inn has (bern B 1 w (home ||| ((1 : Int32) <<< (nI t &&& 31))) (inn &&& (((1 : Int32) <<< (nI t &&& 31)) ^^^ (-1))) - bern B 1 w home inn) (B.1 2 t - w).toInt64 2 211 9 (zJ (zJ S8 211 0 (B.1 0 t + B.1 1 t * w).toInt64) 211 1 (B.1 1 t).toInt64) := by
    unfold fX12_likesIt
    rw [let_q, let_q, e5, b_q, e8, b_q, let_q, r_firstOwed hT hr8 ht, b1_q]
    simp only [g_t a0, g_t a1, g16, let_q, zT_187_34 hT, zT_187_24 hT, zT_187_25 hT, w0, w1, tn_nI (show t < 2147483648 by omega), zJ_iq, run, los]
  rw [s0]
  by_cases hl : B.1 2 t = -1
  · rw [if_pos hl]
    exact rest _ _ e81 (by rw [zJ_at, if_neg (by omega), zJ_s, eR22]) (by rw [zJ_s, eR23]) (by rw [eR24, if_pos hl])
  · rw [if_neg hl]
    exact rest _ _ e81 (by rw [zJ_at, if_neg (by omega), zJ_s, eR22]) (by rw [zJ_s, eR23]) (by rw [eR24, if_neg hl])
theorem r_keeps {T : zT} (hT : iT T) {q : Nat} (hq : q < 6) {L : List Rc} (hL : okRu L) {S : zS} (hru : ruR S (2 + q) L) : fX12_keeps T 187 (nI q) S = some (keepF L) := by
  obtain ⟨hlen, hcl⟩ := hru
  have h12 := hL.1
  have e2q : (2 : Int32) + nI q = nI (2 + q) := by rw [liq, n_add]
  have e24 : (24 : Int32) * nI (2 + q) = nI (24 * (2 + q)) := by rw [liq, n_mul]
  have key : lp (fun a => fX12_keeps_l12 T 187 (nI (2 + q)) S a.1 a.2) (0, nI (24 * (2 + q))) = some (keepF L) := by
    have e0 : ((0 : Int32), nI (24 * (2 + q))) = (fun n : Nat => (keepF (L.take n), nI (24 * (2 + q) + n))) 0 := rfl
    rw [e0]
    refine lp_steps (f := fun a => fX12_keeps_l12 T 187 (nI (2 + q)) S a.1 a.2) (fun n : Nat => (keepF (L.take n), nI (24 * (2 + q) + n))) L.length _ (fun n hn => ?_) ?_
    · show fX12_keeps_l12 T 187 (nI (2 + q)) S (keepF (L.take n)) (nI (24 * (2 + q) + n)) = some (.inl (keepF (L.take (n + 1)), nI (24 * (2 + q) + n + 1)))
      obtain ⟨c, hc⟩ : ∃ c, L[n]? = some c := ⟨_, List.getElem?_eq_getElem hn⟩
      obtain ⟨d1, d2, d3⟩ := hcl n c hc
      have c0 := (hL.2 c (List.mem_of_getElem? hc)).1
      have ek : keepF (L.take (n + 1)) = if c.1 = 1 then c.2.1 else keepF (L.take n) := by
        rw [List.take_add_one, hc]
        unfold keepF
        rw [List.foldl_append]
        rfl
      unfold fX12_keeps_l12 fX12_keeps_b50
      rw [g_in (show 2 + q < 8 by omega) (by decide), zT_187_14 hT, tn_nI (by omega), hlen, e24, n_add, if_neg (by rw [n_le (by omega) (by omega)]; omega), g_in (by omega) (by decide), zT_187_15 hT, tn_nI (by omega), d1, ek]
      by_cases z : c.1 = 1
      · rw [if_pos (by rw [z]; rfl), if_pos z, g_in (by omega) (by decide), let_q, n_addL, zT_187_17 hT, d2 z]
      · rw [if_neg (by rw [n_eqR (by omega) (by omega)]; exact z), if_neg z, let_q, n_addL]
    · show fX12_keeps_l12 T 187 (nI (2 + q)) S (keepF (L.take L.length)) (nI (24 * (2 + q) + L.length)) = _
      unfold fX12_keeps_l12
      rw [g_in (show 2 + q < 8 by omega) (by decide), zT_187_14 hT, tn_nI (by omega), hlen, e24, n_add, if_pos (by rw [n_le (by omega) (by omega)]; exact Nat.le_refl _), List.take_length]
  unfold fX12_keeps
  rw [let_q, let_q, e2q, e24, key, b1_q]
