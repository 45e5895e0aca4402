theorem zJ_iq {S : zS} {k i : Nat} {x : Int64} : (zJ S k i x).1 = S.1 := id rfl
/-! what a rule is worth -/
def lkV (env : Nat → Int64) : List Rc → Int64
  | [] => 0
  | c :: L => if c.1 = 0 ∧ hld env c.2.2.2 then evv env c.2.2.1 else lkV env L
theorem evv_congr {e1 e2 : Nat → Int64} {c : List (Nat × Nat)} (h : ∀ p, p ∈ c → p.1 = 47 → e1 p.2 = e2 p.2) : evv e1 c = evv e2 c := by unfold evv; rw [ev_congr c h]
theorem lkV_congr {e1 e2 : Nat → Int64} : ∀ {L : List Rc}, (∀ c, c ∈ L → c.1 = 0 → ∀ p, (p ∈ c.2.2.1 ∨ p ∈ c.2.2.2) → p.1 = 47 → e1 p.2 = e2 p.2) → lkV e1 L = lkV e2 L
  | [], _ => rfl
  | c :: L, h => by
    have ih : lkV e1 L = lkV e2 L := lkV_congr (fun d hd => h d (List.mem_cons_of_mem _ hd))
    show (if c.1 = 0 ∧ hld e1 c.2.2.2 then evv e1 c.2.2.1 else lkV e1 L) = (if c.1 = 0 ∧ hld e2 c.2.2.2 then evv e2 c.2.2.1 else lkV e2 L)
    by_cases q : c.1 = 0
    · have h' := h c (List.mem_cons_self ..) q
      have a1 : evv e1 c.2.2.1 = evv e2 c.2.2.1 := evv_congr (fun p hp => h' p (Or.inl hp))
      have a2 : evv e1 c.2.2.2 = evv e2 c.2.2.2 := evv_congr (fun p hp => h' p (Or.inr hp))
      simp only [hld, a1, a2, ih]
    · rw [if_neg (fun z => q z.1), if_neg (fun z => q z.1), ih]
theorem lkV_filter {env : Nat → Int64} : ∀ (L : List Rc), lkV env (L.filter (ofR 0)) = lkV env L
  | [] => rfl
  | c :: L => by
    have ih := lkV_filter (env := env) L
    by_cases q : c.1 = 0
    · rw [List.filter_cons_of_pos (show ofR 0 c = true from by unfold ofR; rw [q]; rfl)]
      show (if c.1 = 0 ∧ hld env c.2.2.2 then evv env c.2.2.1 else lkV env (L.filter (ofR 0))) = (if c.1 = 0 ∧ hld env c.2.2.2 then evv env c.2.2.1 else lkV env L)
      rw [ih]
    · rw [List.filter_cons_of_neg (show ¬ ofR 0 c = true from by unfold ofR; rw [beq_iff_eq]; exact q), ih]
      show lkV env L = (if c.1 = 0 ∧ hld env c.2.2.2 then evv env c.2.2.1 else lkV env L)
      rw [if_neg (fun z => q z.1)]
theorem wR_26 {q : Nat} (h : wR q = true) : q < 26 := by have := of_decide_eq_true h; omega
theorem wR_9 {q : Nat} (h : wR q = true) : wmR q < 9 := by
  have := of_decide_eq_true h
  unfold wmR
  split
  · omega
  · split <;> (try split) <;> (try split) <;> (try split) <;> omega
theorem lkV_drop {env : Nat → Int64} {L : List Rc} {n : Nat} {c : Rc} (h : L[n]? = some c) : lkV env (L.drop n) = if c.1 = 0 ∧ hld env c.2.2.2 then evv env c.2.2.1 else lkV env (L.drop (n + 1)) := by
  obtain ⟨h1, h2⟩ := List.getElem?_eq_some_iff.mp h
  rw [List.drop_eq_getElem_cons h1, h2]
  rfl
def ruT (T : zT) (k : Nat) : Prop := zr T k 0 = k + 1 ∧ zr T k 1 = k + 2 ∧ zr T k 4 = k + 3 ∧ zr T (k + 3) 0 = k + 4
theorem v_valueIn {T : zT} (hT : iT T) {k : Nat} (hk : ruT T k) {L : List Rc} (hL : okRu L) {S : zS} (hr : ruC S k L) : ∃ S', fX8_valueIn T k 167 S = some (lkV (fun q => S.2 168 q) L, S') ∧ S'.1 = S.1 ∧ ∀ a b, a ≠ 169 → S'.2 a b = S.2 a b := by
  obtain ⟨k0, k1, k4, k5⟩ := hk
  obtain ⟨r1, r2, r3, r4⟩ := hr
  have hlen : (L.filter (ofR 0)).length ≤ 12 := Nat.le_trans (List.length_filter_le _ _) hL.1
  have hok : ∀ (i : Nat) (c : Rc), (L.filter (ofR 0))[i]? = some c → c.1 = 0 ∧ okRc c := by
    intro i c hc
    have hm := List.mem_filter.mp (List.mem_of_getElem? hc)
    exact ⟨eq_of_beq hm.2, hL.2 c hm.1⟩
  rw [← lkV_filter]
  have key : zwp (lp (fun a => fX8_valueIn_l2 T k 167 a.1 a.2) (0, S)) (fun e => (∃ S', e = .inl S' ∧ onlyJ S S' 169 ∧ lkV (fun q => S.2 168 q) (L.filter (ofR 0)) = 0) ∨ ∃ i c S', e = .inr (nI i, S') ∧ onlyJ S S' 169 ∧ (L.filter (ofR 0))[i]? = some c ∧ lkV (fun q => S.2 168 q) (L.filter (ofR 0)) = evv (fun q => S.2 168 q) c.2.2.1) := by
    refine lp_for (I := fun n a => ∃ S', a = (nI n, S') ∧ onlyJ S S' 169 ∧ lkV (fun q => S.2 168 q) (L.filter (ofR 0)) = lkV (fun q => S.2 168 q) ((L.filter (ofR 0)).drop n)) (L.filter (ofR 0)).length ?_ ?_ ?_
    · rintro n a hn ⟨S', rfl, ho, hv⟩
      obtain ⟨c, hc⟩ : ∃ c, (L.filter (ofR 0))[n]? = some c := ⟨_, List.getElem?_eq_getElem hn⟩
      obtain ⟨c0, c1⟩ := hok n c hc
      obtain ⟨c2, c3, c4⟩ := c1.2.2 c0
      obtain ⟨-, hct⟩ := r3 n c hc
      rw [lkV_drop hc] at hv
      show (∃ a', fX8_valueIn_l2 T k 167 (nI n) S' = _ ∧ _) ∨ ∃ r, fX8_valueIn_l2 T k 167 (nI n) S' = _ ∧ _
      unfold fX8_valueIn_l2
      rw [ho.1, r1, if_neg (by rw [n_le (by omega) (by omega)]; omega), if_neg (by rw [n_leL (by omega) (by omega)]; omega), g_in (by omega) (by decide), g_in (by omega) (by decide), k1, k4, tn_nI (by omega)]
      rcases hct with ⟨h5, h6⟩ | ⟨h5, s, h6, h7, h8⟩
      · right
        rw [h6, if_pos rfl]
        rw [if_pos ⟨c0, Or.inl h5⟩] at hv
        exact ⟨_, rfl, Or.inr ⟨n, c, S', rfl, ho, hc, hv⟩⟩
      · rw [h6, if_neg (n_m1 (by omega))]
        obtain ⟨r, e, p1, p2⟩ := v_valueAt (T := T) (ks := 167) (kc := k + 3) (i := s) (w := wR) (env := fun q => S.2 168 q) (c := c.2.2.2) (S := S') k5 (zT_167_0 hT) (zT_167_1 hT) (fun q hq => wR_26 hq) (c4.elim (fun z => absurd z h5) (fun z => Or.inr z.1)) (c4.elim (fun z => absurd z h5) (fun z => by omega)) (cAt_eq ho.1 h8) h7 (fun q hq => (ho.2 168 q (by decide)).symm)
        rw [e]
        have ho2 : onlyJ S r.2 169 := ⟨p2.1.trans ho.1, fun a b n => (p2.2 a b n).trans (ho.2 a b n)⟩
        show (∃ a', (if lg_cmp r.1 0 = 0 then _ else _) = _ ∧ _) ∨ ∃ r', (if lg_cmp r.1 0 = 0 then _ else _) = _ ∧ _
        by_cases hz : r.1 = 0
        · left
          rw [if_pos ((lg_cmp_eq _ _).mpr hz)]
          rw [if_neg (fun z => z.2.elim h5 (fun y => y (p1 ▸ hz)))] at hv
          exact ⟨_, rfl, r.2, (by show (nI n + 1, r.2) = _; rw [n_addL]), ho2, hv⟩
        · right
          rw [if_neg (fun z => hz ((lg_cmp_eq _ _).mp z))]
          rw [if_pos ⟨c0, Or.inr (p1 ▸ hz)⟩] at hv
          exact ⟨_, rfl, Or.inr ⟨n, c, r.2, rfl, ho2, hc, hv⟩⟩
    · rintro a ⟨S', rfl, ho, hv⟩
      refine ⟨.inl S', ?_, Or.inl ⟨S', rfl, ho, ?_⟩⟩
      · show fX8_valueIn_l2 T k 167 (nI (L.filter (ofR 0)).length) S' = _
        unfold fX8_valueIn_l2
        rw [ho.1, r1, if_pos (by rw [n_le (by omega) (by omega)]; exact Nat.le_refl _)]
      · rw [hv, List.drop_length]; rfl
    · exact ⟨S, rfl, onlyJ_refl, by rw [List.drop_zero]⟩
  unfold fX8_valueIn
  obtain ⟨e, e1, ⟨S', rfl, ho, hv⟩ | ⟨i, c, S', rfl, ho, hc, hv⟩⟩ := key
  · rw [e1, b1_q, hv]
    exact ⟨S', rfl, ho.1, ho.2⟩
  · rw [e1, b1_q]
    show ∃ S'', fX8_valueIn_b45 T k 167 (nI i) S' = _ ∧ _
    have hi : i < 12 := by have := (List.getElem?_eq_some_iff.mp hc).1; omega
    obtain ⟨c0, c1⟩ := hok i c hc
    obtain ⟨c2, c3, c4⟩ := c1.2.2 c0
    obtain ⟨⟨s, h6, h7, h8⟩, -⟩ := r3 i c hc
    obtain ⟨r, e, p1, p2⟩ := v_valueAt (T := T) (ks := 167) (kc := k + 3) (i := s) (w := wR) (env := fun q => S.2 168 q) (c := c.2.2.1) (S := S') k5 (zT_167_0 hT) (zT_167_1 hT) (fun q hq => wR_26 hq) (Or.inl c2) (by omega) (cAt_eq ho.1 h8) h7 (fun q hq => (ho.2 168 q (by decide)).symm)
    unfold fX8_valueIn_b45
    rw [g_in hi (by decide), k0, k4, tn_nI (by omega), ho.1, h6, e, hv, ← p1]
    exact ⟨r.2, rfl, p2.1.trans ho.1, fun a b n => (p2.2 a b n).trans (ho.2 a b n)⟩
/-- what the words of a rule stand for -/
def envR (B : Bk) (t : Nat) (w home inn has : Int32) (q : Nat) : Int64 :=
  if q = 22 then (B.1 0 t + B.1 1 t * w).toInt64 else if q = 23 then (B.1 1 t).toInt64 else if q = 24 then (if B.1 2 t = -1 then 9999 else (B.1 2 t - w).toInt64)
  else if q = 25 then (bern B 1 w (home ||| (1 <<< (nI t &&& 31))) (inn &&& ((1 <<< (nI t &&& 31)) ^^^ (-1))) - bern B 1 w home inn).toInt64
  else if q = 13 then (B.1 5 t).toInt64 else if q = 19 then w.toInt64 else if q = 8 then has.toInt64 else if q = 20 then (nI (pc home)).toInt64 else (nI (pc inn)).toInt64
theorem eB19 {w h n : Int32} : envB w h n 19 = w.toInt64 := by unfold envB; rw [if_pos rfl]
theorem eB20 {w h n : Int32} : envB w h n 20 = h.toInt64 := by unfold envB; rw [if_neg (by decide), if_pos rfl]
theorem eB21 {w h n : Int32} : envB w h n 21 = n.toInt64 := by unfold envB; rw [if_neg (by decide), if_neg (by decide)]
theorem eR19 {B : Bk} {t : Nat} {w home inn has : Int32} : envR B t w home inn has 19 = w.toInt64 := by
  unfold envR
  rw [if_neg (by decide), if_neg (by decide), if_neg (by decide), if_neg (by decide), if_neg (by decide), if_pos rfl]
theorem eR20 {B : Bk} {t : Nat} {w home inn has : Int32} : envR B t w home inn has 20 = (nI (pc home)).toInt64 := by
  unfold envR
  rw [if_neg (by decide), if_neg (by decide), if_neg (by decide), if_neg (by decide), if_neg (by decide), if_neg (by decide), if_neg (by decide), if_pos rfl]
theorem eR21 {B : Bk} {t : Nat} {w home inn has : Int32} : envR B t w home inn has 21 = (nI (pc inn)).toInt64 := by
  unfold envR
  rw [if_neg (by decide), if_neg (by decide), if_neg (by decide), if_neg (by decide), if_neg (by decide), if_neg (by decide), if_neg (by decide), if_neg (by decide)]
theorem v_asks {T : zT} {k q : Nat} {S : zS} (hq : q < 32) : fX2_asks T k (nI q) S = some (if zm (S.1 k 2) q = true then 1 else 0) := by
  unfold fX2_asks fX2_asks_b16
  cases z : zm (S.1 k 2) q with
  | true => rw [if_neg (fun y => by rw [m_sh0 hq, z] at y; cases y)]; rfl
  | false => rw [if_pos ((m_sh0 hq).mpr z)]; rfl
theorem v_liking {T : zT} (hT : iT T) {k : Nat} (hk : ruT T k) {L : List Rc} (hL : okRu L) {B : Bk} (hB : okB B) {S : zS} (hc : bkC S 7 B) (hr : ruC S k L) {t : Nat} (ht : t < 8) (hz : zm (bth B) t = true) {w : Int32} (i1 : is8 (S.1 166 4)) (ho : lowd S t w = B.1 0 t + B.1 1 t * w) (hru : S.1 174 t = B.1 1 t) (hwL : ∀ c, c ∈ L → c.1 = 0 → ∀ p, (p ∈ c.2.2.1 ∨ p ∈ c.2.2.2) → p.1 = 47 → wR p.2 = true) : ∃ S', fX4_liking T 166 k (nI t) w S = some (lkV (envR B t w (S.1 166 4) (linn S) (S.1 166 3)) L, S') ∧ S'.1 = S.1 := by
  have i2 : is8 (linn S) := linn8 hB hc
  have g19 : zin 22 26 = true := by decide
  have g23 : zin 23 26 = true := by decide
  have g24 : zin 24 26 = true := by decide
  have g13 : zin 13 26 = true := by decide
  have g8 : zin 8 26 = true := by decide
  have g25 : zin 25 26 = true := by decide
  obtain ⟨⟨u, S7⟩, e7, p1, p2, p3⟩ := v_place (T := T) (ks := 167) (w := w) (S := S) (zT_167_0 hT) i1 i2
  have p1a : S7.1 = S.1 := p1.1
  have ho7 : fX4_owedNow T 166 (nI t) w S7 = some (B.1 0 t + B.1 1 t * w) := by
    rw [v_owedNow hT ht, ← ho]
    unfold lowd
    rw [p1a]
  have lostE : S.1 10 t = B.1 2 t := hc.2.1 t ht hz 2 (by decide)
  have worE : S.1 13 t = B.1 5 t := hc.2.1 t ht hz 5 (by decide)
  -- from where left is told
  have rest : ∀ (lv : Int64) (S14 : zS), S14.1 = S.1 → (lv = if B.1 2 t = -1 then 9999 else (B.1 2 t - w).toInt64) → (∀ q, wB q = true → S14.2 168 q = envR B t w (S.1 166 4) (linn S) (S.1 166 3) q) → S14.2 168 22 = (B.1 0 t + B.1 1 t * w).toInt64 → S14.2 168 23 = (B.1 1 t).toInt64 → ∃ S', fX4_liking_b106 T 166 k (nI t) w (linn S) lv 24 168 26 S14 = some (lkV (envR B t w (S.1 166 4) (linn S) (S.1 166 3)) L, S') ∧ S'.1 = S.1 := by
    intro lv S14 h1 hlv h2 h3 h4
    have w13 : (13 : Int32).toNatClampNeg = 13 := rfl
    have w24 : (24 : Int32).toNatClampNeg = 24 := rfl
    have w8 : (8 : Int32).toNatClampNeg = 8 := rfl
    have w25 : (25 : Int32).toNatClampNeg = 25 := rfl
    unfold fX4_liking_b106
    simp only [g_t g24, g_t g13, g_t g8, g_t g25, g_in ht (show 8 < 2147483648 by decide), let_q, zT_166_0 hT, zT_166_1 hT, zT_166_2 hT, zT_167_0 hT, zT_7_11 hT, w13, w24, w8, w25, tn_nI (show t < 2147483648 by omega), hk.2.2.1, zJ_iq, h1, worE]
    have a25 : fX2_asks T (k + 3) 25 (zJ (zJ (zJ S14 168 24 lv) 168 13 (B.1 5 t).toInt64) 168 8 (S.1 166 3).toInt64) = some (if zm (S.1 (k + 3) 2) 25 = true then 1 else 0) := by
      have := v_asks (T := T) (k := k + 3) (q := 25) (S := zJ (zJ (zJ S14 168 24 lv) 168 13 (B.1 5 t).toInt64) 168 8 (S.1 166 3).toInt64) (by decide)
      rw [zJ_iq, zJ_iq, zJ_iq, h1] at this
      exact this
    rw [a25, b1_q]
    -- the words, but adds
    have words : ∀ (S24 : zS), (∀ b, b ≠ 25 → S24.2 168 b = (zJ (zJ (zJ S14 168 24 lv) 168 13 (B.1 5 t).toInt64) 168 8 (S.1 166 3).toInt64).2 168 b) → ∀ q, wR q = true → q ≠ 25 → S24.2 168 q = envR B t w (S.1 166 4) (linn S) (S.1 166 3) q := by
      intro S24 hS q hq h25
      rw [hS q h25]
      have hq' := of_decide_eq_true hq
      have : q = 22 ∨ q = 23 ∨ q = 24 ∨ q = 13 ∨ q = 8 ∨ q = 19 ∨ q = 20 ∨ q = 21 := by omega
      rcases this with rfl | rfl | rfl | rfl | rfl | rfl | rfl | rfl
      · rw [zJ_at, if_neg (by omega), zJ_at, if_neg (by omega), zJ_at, if_neg (by omega), h3]; rfl
      · rw [zJ_at, if_neg (by omega), zJ_at, if_neg (by omega), zJ_at, if_neg (by omega), h4]; rfl
      · rw [zJ_at, if_neg (by omega), zJ_at, if_neg (by omega), zJ_s, hlv]; rfl
      · rw [zJ_at, if_neg (by omega), zJ_s]; rfl
      · rw [zJ_s]; rfl
      · rw [zJ_at, if_neg (by omega), zJ_at, if_neg (by omega), zJ_at, if_neg (by omega)]; exact h2 19 rfl
      · rw [zJ_at, if_neg (by omega), zJ_at, if_neg (by omega), zJ_at, if_neg (by omega)]; exact h2 20 rfl
      · rw [zJ_at, if_neg (by omega), zJ_at, if_neg (by omega), zJ_at, if_neg (by omega)]; exact h2 21 rfl
    generalize hS24 : zJ (zJ (zJ S14 168 24 lv) 168 13 (B.1 5 t).toInt64) 168 8 (S.1 166 3).toInt64 = S24 at words ⊢
    have e24 : S24.1 = S.1 := by rw [← hS24]; exact h1
    unfold fX4_liking_b219
    cases hask : zm (S.1 (k + 3) 2) 25 with
    | false =>
      rw [if_neg (show ¬ false = true by decide), if_pos rfl, zT_166_2 hT]
      obtain ⟨S', q1, q2, q3⟩ := v_valueIn hT hk hL (S := S24) (ruC_cg (fun a b _ _ => by rw [e24]) hr)
      rw [q1, b_q]
      refine ⟨S', ?_, q2.trans e24⟩
      rw [lkV_congr (fun c hcL h0 p hp h47 => words S24 (fun _ _ => rfl) p.2 (hwL c hcL h0 p hp h47) (fun h25 => ?_))]
      have hp47 : p = (47, 25) := Prod.ext h47 h25
      have := hr.2.2.2 c hcL h0 (by rw [← hp47]; exact hp)
      rw [hask] at this; cases this
    | true =>
      rw [if_pos rfl, if_neg n10]
      obtain ⟨S34, q1, q2⟩ := c_ern hT (w := w) (S := S24) (bkC_cg (fun a b _ _ => by rw [e24]) hc) (by exact i1) i2
      obtain ⟨S34r, S34⟩ := S34
      obtain ⟨q3, q4⟩ := q2
      have q3' : S34r = bern B 1 w (S.1 166 4) (linn S) := q3
      have e34 : S34.1 = S.1 := q4.1.trans e24
      obtain ⟨S37, q5, q6⟩ := c_ern hT (w := w) (home := S.1 166 4 ||| ((1 : Int32) <<< (nI t &&& 31))) (inn := linn S &&& (((1 : Int32) <<< (nI t &&& 31)) ^^^ (-1))) (S := S34) (bkC_cg (fun a b _ _ => by rw [e34]) hc) (is8_or i1 (is8_shl ht)) (is8_and i2)
      obtain ⟨S37r, S37⟩ := S37
      obtain ⟨q7, q8⟩ := q6
      have q7' : S37r = bern B 1 w (S.1 166 4 ||| ((1 : Int32) <<< (nI t &&& 31))) (linn S &&& (((1 : Int32) <<< (nI t &&& 31)) ^^^ (-1))) := q7
      have e37 : S37.1 = S.1 := q8.1.trans e34
      rw [q1, b_q, e34, q5, b_q, zT_166_2 hT]
      obtain ⟨S', r1, r2, r3⟩ := v_valueIn hT hk hL (S := zJ S37 168 25 (S37r - S34r).toInt64) (ruC_cg (fun a b _ _ => by show S37.1 a b = S.1 a b; rw [e37]) hr)
      rw [r1, b_q]
      refine ⟨S', ?_, r2.trans e37⟩
      rw [lkV_congr (fun c hcL h0 p hp h47 => ?_)]
      by_cases h25 : p.2 = 25
      · rw [h25, zJ_s, q3', q7']; rfl
      · refine words _ (fun b hb => ?_) p.2 (hwL c hcL h0 p hp h47) h25
        rw [zJ_at, if_neg (fun z => hb z.2), q8.2 _ _ (by decide) (by decide), q4.2 _ _ (by decide) (by decide)]
  have s0 : fX4_liking T 166 k (nI t) w S = if B.1 2 t = (-1) then fX4_liking_b106 T 166 k (nI t) w (linn S) 9999 24 168 26 (zJ (zJ S7 168 22 (B.1 0 t + B.1 1 t * w).toInt64) 168 23 (B.1 1 t).toInt64) else fX4_liking_b106 T 166 k (nI t) w (linn S) (B.1 2 t - w).toInt64 24 168 26 (zJ (zJ S7 168 22 (B.1 0 t + B.1 1 t * w).toInt64) 168 23 (B.1 1 t).toInt64) := by
    have w22 : (22 : Int32).toNatClampNeg = 22 := rfl
    have w23 : (23 : Int32).toNatClampNeg = 23 := rfl
    unfold fX4_liking
    rw [if_neg (n_lt0 (by omega)), if_pos (by rw [n_ltR (by omega) (by omega)]; exact ht), v_thingsIn hT, b1_q, zT_166_2 hT, e7, b_q, ho7, b1_q]
    simp only [g_t g19, g_t g23, g_in ht (show 8 < 2147483648 by decide), let_q, zT_166_0 hT, zT_166_13 hT, zT_167_0 hT, zT_7_8 hT, w22, w23, tn_nI (show t < 2147483648 by omega), zJ_iq, p1a, lostE, hru]
  have hw : ∀ q, wB q = true → (zJ (zJ S7 168 22 (B.1 0 t + B.1 1 t * w).toInt64) 168 23 (B.1 1 t).toInt64).2 168 q = envR B t w (S.1 166 4) (linn S) (S.1 166 3) q := by
    intro q hq
    have e := p2 q hq
    have hq' := of_decide_eq_true hq
    have e' : S7.2 168 q = envB w (nI (pc (S.1 166 4))) (nI (pc (linn S))) q := e.symm
    have : q = 19 ∨ q = 20 ∨ q = 21 := by omega
    rcases this with rfl | rfl | rfl
    · rw [zJ_at, if_neg (by omega), zJ_at, if_neg (by omega), e', eB19, eR19]
    · rw [zJ_at, if_neg (by omega), zJ_at, if_neg (by omega), e', eB20, eR20]
    · rw [zJ_at, if_neg (by omega), zJ_at, if_neg (by omega), e', eB21, eR21]
  rw [s0]
  by_cases q : B.1 2 t = -1
  · rw [if_pos q]
    exact rest _ _ p1a (by rw [if_pos q]) hw (by rw [zJ_at, if_neg (by omega), zJ_s]) zJ_s
  · rw [if_neg q]
    exact rest _ _ p1a (by rw [if_neg q]) hw (by rw [zJ_at, if_neg (by omega), zJ_s]) zJ_s
