/-! WHAT HANGS ON A THING, both -/
theorem goC_1 {B : Bk} {t w : Nat} (ht : t < 8) : ∀ u, u < 8 → zm (goC B (G1 t) (nI w)) u = (zm (lsS B w) u || decide (u = t)) := by
  intro u hu
  have e : goC B (G1 t) (nI w) = st8 (fun v => zm (tb t) v || goP B (G1 t) (nI w) v) := rfl
  unfold lsS
  rw [e, st8_m hu, st8_m hu, tb_m ht]
  unfold goP
  rw [show decide (nI u = (G1 t).2.1) = false from decide_eq_false (fun q => n_m1' (show u < 60 by omega) q), Bool.false_and, Bool.or_false]
  cases decide (u = t) <;> simp
theorem innC_1 {B : Bk} (hB : okB B) {t w : Nat} (ht : t < 8) : mi (mi (bth B) (lsS B w)) (tb t) = innC B (G1 t) (nI w) := by
  unfold innC
  rw [show sdB (G1 t) = 0 from if_pos rfl, mi_0 (is8_mi hB.1)]
  refine is8_ext (is8_mi (is8_mi hB.1)) (is8_mi hB.1) (fun u hu => ?_)
  rw [mi_m, mi_m, mi_m, goC_1 ht u hu, tb_m ht]
  cases zm (bth B) u <;> cases zm (lsS B w) u <;> cases decide (u = t) <;> rfl
theorem innC_1m {B : Bk} (hB : okB B) {t : Nat} (ht : t < 8) : ∀ w u, w < 60 → u < 8 → zm (innC B (G1 t) (nI w)) u = true → zm (mW B t) u = true := by
  intro w u _ hu h
  rw [← innC_1 hB ht, mi_m, mi_m, tb_m ht] at h
  rw [mW_m ht]
  cases x : zm (bth B) u <;> cases y : decide (u = t) <;> rw [x, y] at h <;> simp_all
theorem zm_n0 {u : Nat} {M : Int32} : zm (nI 0) u = true → zm M u = true := by
  intro h
  have : zm (nI 0) u = false := m_0
  rw [this] at h; cases h
/-- the most without a thing -/
def wiV (B : Bk) (t : Nat) : Int32 := iO (bst (rfL B (G1 t) 0 (B.1 6 2).toInt (bw B)) 256)
theorem rfL_c {B : Bk} (hB : okB B) {G : Cg} (hG : okG B G) {h : Nat} {c0 : Int} (hc : -1 ≤ c0 ∧ c0 ≤ 1000000) {w : Nat} (hw : w ≤ 60) : ∀ s, s < 256 → rfL B G h c0 w s ≤ 20000000 := fun s hs => by
  have := (rfL_bd hB hG (h := h) hc w hw s hs).2
  omega
def pO (x : Int32) : Int32 := if 0 < x then x else 0
theorem c_start {T : zT} {B : Bk} {S : zS} {k : Nat} {h : Nat} (hh : h < 256) {c : Int32} {x : Int32} (hx : x = nI h) : ∃ S', fX5_start T k 256 x c S = some ((), S') ∧ onlyI S S' k ∧ isLn S' k (stI h c.toInt) := by
  obtain ⟨S1, e, o, k1⟩ := v_start (T := T) (k := k) (h := x) (c := c) (S := S)
  refine ⟨S1, e, o, fun s hs => ?_⟩
  rw [k1 s hs]
  show _ = if s = h then c.toInt else -1
  by_cases z : s = h
  · rw [if_pos z, if_pos (by rw [z, hx])]
  · rw [if_neg z, if_neg (fun q => z (by rw [hx, n_eq (by omega) (by omega)] at q; exact q))]; rfl
theorem onlyI_tr {S S' S'' : zS} {k : Nat} (h : onlyI S S' k) (g : onlyI S' S'' k) : onlyI S S'' k := ⟨g.1.trans h.1, fun a b n => (g.2 a b n).trans (h.2 a b n)⟩
theorem v_hanging {T : zT} (hT : iT T) {B : Bk} (hB : okB B) {t : Nat} (ht : t < 8) (hz : zm (bth B) t = true) {S : zS} (hc : bkC S 7 B) (hp : rwOK B S.1) : ∃ S', fX5_hanging T 176 (nI t) S = some (S.1 176 3 - pO (wiV B t), S') ∧ onlyI S S' 181 := by
  obtain ⟨ebw, b1, b2⟩ := bw_n hB
  obtain ⟨d1, d2⟩ := hB.2.2.2.1
  have hcc : -1 ≤ (B.1 6 2).toInt ∧ (B.1 6 2).toInt ≤ 1000000 := by omega
  obtain ⟨S1, e1, o1, l1⟩ := c_start (T := T) (B := B) (k := 181) (h := 0) (c := S.1 7 2) (x := 0) (S := S) (by decide) rfl
  rw [hc.1 2 (by decide)] at l1
  have bk : ∀ {S'}, onlyI S S' 181 → bkC S' 7 B := fun ho => bkC_cg (fun a b _ _ => ho.2 a b (by omega)) hc
  have rk : ∀ {S'}, onlyI S S' 181 → rwOK B S'.1 := fun ho => rwOK_cg (fun a b h => ho.2 a b (by omega)) hp
  have key : zwp (lp (fun a => fX5_hanging_l17 T 176 (nI t) a.1 a.2) (0, S1)) (fun S' => onlyI S S' 181 ∧ isLn S' 181 (rfL B (G1 t) 0 (B.1 6 2).toInt (bw B))) := by
    refine lp_for (I := fun n a => ∃ S', a = (nI n, S') ∧ onlyI S S' 181 ∧ isLn S' 181 (rfL B (G1 t) 0 (B.1 6 2).toInt n)) (bw B) ?_ ?_ ?_
    · rintro n a hn ⟨S', rfl, o, l⟩
      left
      show ∃ a', fX5_hanging_l17 T 176 (nI t) (nI n) S' = _ ∧ _
      obtain ⟨kg, ek, hk, hv⟩ := v_gW hT hB ht hz hn (bk o) (rk o)
      have l' : isLn S' 181 (fun s => ajC B (G1 t) n (rfL B (G1 t) 0 (B.1 6 2).toInt n s)) := fun s hs => by
        rw [l s hs]
        exact (ajC_id rfl (n_m1' (show n < 60 by omega)) (by omega) (rfL_bd hB (okG_1 ht) hcc n (by omega) s hs).1).symm
      obtain ⟨S2, e2, o2, l2⟩ := v_stepG hT hB (okG_1 (B := B) ht) hcc (M := mW B t) mW_sub (fun u _ => zm_n0) (innC_1m hB ht) (k := 181) (kg := kg) (w := n) (bar := tb t) (by decide) (by omega) (by omega) (innC_1 hB ht) (bk o) l' (hv (G1 t) (goC_1 ht))
      unfold fX5_hanging_l17
      rw [zT_176_0 hT, (bk o).1 1 (by decide), ebw, if_neg (show ¬ nI (bw B) ≤ nI n by rw [n_le (by omega) (by omega)]; omega), ek, b1_q, zT_176_11 hT, show (1 : Int32) <<< (nI t &&& 31) = tb t from rfl, e2, b_q, let_q, n_addL]
      exact ⟨_, rfl, S2, rfl, onlyI_tr o o2, l2⟩
    · rintro a ⟨S', rfl, o, l⟩
      refine ⟨S', ?_, o, l⟩
      show fX5_hanging_l17 T 176 (nI t) (nI (bw B)) S' = _
      unfold fX5_hanging_l17
      rw [zT_176_0 hT, (bk o).1 1 (by decide), ebw, if_pos (show nI (bw B) ≤ nI (bw B) by rw [n_le (by omega) (by omega)]; omega)]
    · exact ⟨S1, rfl, o1, l1⟩
  obtain ⟨S2, e2, o2, l2⟩ := key
  obtain ⟨r, e3, q3⟩ := v_mostIn (T := T) l2
  refine ⟨S2, ?_, o2⟩
  unfold fX5_hanging
  rw [zT_176_0 hT, zT_176_11 hT, e1, b_q, e2, b1_q, e3, b1_q, let_q, o2.2 176 3 (by decide), iO_eq (bst_m1 _ _) q3]
  rfl
theorem r_hangsOn {T : zT} (hT : iT T) {B : Bk} (hB : okB B) {t : Nat} (ht : t < 8) {m : Int32} {S : zS} (hr : bkR S.1 B) : ∃ S', fX12_hangsOn T 187 (nI t) m S = some (m - pO (wiV B t), S') ∧ fP S S' ∧ bkR S'.1 B := by
  obtain ⟨r, S1, e, f, r1, q⟩ := r_without hT hB ht hr
  have er : r = wiV B t := iO_eq (bst_m1 _ _) q
  have hb := bst_m1 (rfL B (G1 t) 0 (B.1 6 2).toInt (bw B)) 256
  have e00 : (0 : Int32).toInt = 0 := rfl
  have em : (-1 : Int32).toInt = -1 := rfl
  unfold fX12_hangsOn fX12_hangsOn_b17
  rw [e, b_q, ← er]
  unfold pO
  by_cases z : r = -1
  · rw [if_pos z, if_neg (by rw [z]; decide)]
    exact ⟨S1, rfl, f, r1⟩
  · rw [if_neg z]
    by_cases y : 0 < r
    · rw [if_pos y]; exact ⟨S1, rfl, f, r1⟩
    · have y' := z_le.mp (z_nlt y)
      have z' : ¬ r.toInt = -1 := fun h => z (z_eq.mpr (h.trans em.symm))
      have : r = 0 := z_eq.mpr (by omega)
      rw [if_neg y, this]; exact ⟨S1, rfl, f, r1⟩
theorem fP_trans {S S' S'' : zS} (h : fP S S') (g : fP S' S'') : fP S S'' := fun a b n => (g a b n).trans (h a b n)
theorem inv_181 {S S' : zS} {k : Nat} (hk : k = 181 ∨ k = 182) (o : onlyI S S' k) (hi : inv S) : inv S' := inv_kp (fun a b q => o.2 a b (by have := of_decide_eq_true q; omega)) (fun a b q => o.2 a b (by have := of_decide_eq_true q; omega)) hi
theorem most_eq {T : zT} {B : Bk} {S : zS} (h : (S.1 176 3).toInt = bst (bsL B (bw B)) 256) : S.1 176 3 = iO (bst (bsL B (bw B)) 256) := iO_eq (bst_m1 _ _) h
theorem ok15 : oK15 invTS := by
  rintro T S ⟨hT, h1, h2, h3, B, A, h4, h5⟩ x1
  have hB := h4.1
  have em : (-1 : Int32).toInt = -1 := rfl
  have e00 : (0 : Int32).toInt = 0 := rfl
  unfold fX11_hangs fX11_hangs_b35 fX12_hangs fX12_hangs_b31
  rw [zT_0_3 hT]
  rcases c_has h4.2.2.1 x1 with ⟨⟨t, ht, rfl, hz⟩, e0⟩ | ⟨hn, e0⟩
  · obtain ⟨S1, e1, f1, j1, q1, p1, i1, b1⟩ := c_ready hT h1 h2 h3 h4 h5
    have pm := p1.2.2.2.1
    rw [e0, b1_q, if_neg n10, e1, b_q]
    by_cases hm : 0 ≤ S1.1 176 3
    · obtain ⟨S2, e2, o2⟩ := v_hanging hT hB ht hz b1.2.2.1 (rwOK_of p1)
      have i2 := inv_181 (Or.inl rfl) o2 i1
      have r2 : bkR S2.1 B := bkR_cg (fun a b hb => o2.2 a b (fun z => by subst z; exact absurd hb (by unfold rN; simp))) b1.2.2.2.1
      obtain ⟨r, S3, e3, f3, r3, q3⟩ := r_asBest hT hB r2
      obtain ⟨S4, e4, f4, r4⟩ := r_hangsOn hT hB ht (m := r) r3
      have er : r = S1.1 176 3 := z_eq.mpr (by omega)
      have hh : fX12_has T 187 (nI t) S2 = some 1 := by
        rcases r_has hT r2 (nI t) with ⟨-, e⟩ | ⟨h, -⟩
        · exact e
        · exact absurd ⟨t, ht, rfl, hz⟩ h
      rw [if_pos hm, e2, b_q]
      refine ⟨_, S2, S4, rfl, ?_, hT, inv_fP (fP_trans f3 f4) i2⟩
      rw [hh, b1_q, if_neg n10, e3, b_q, if_neg (show ¬ r = -1 by intro q; rw [← er, q] at hm; exact absurd hm (by decide)), e4, b_q, er]
    · obtain ⟨r, S3, e3, f3, r3, q3⟩ := r_asBest hT hB b1.2.2.2.1
      have hh : fX12_has T 187 (nI t) S1 = some 1 := by
        rcases r_has hT b1.2.2.2.1 (nI t) with ⟨-, e⟩ | ⟨h, -⟩
        · exact e
        · exact absurd ⟨t, ht, rfl, hz⟩ h
      have h6 := bst_m1 (bsL B (bw B)) 256
      have h7 := z_lt.mp (z_nle hm)
      rw [if_neg hm]
      refine ⟨-2, S1, S3, rfl, ?_, hT, inv_fP f3 i1⟩
      rw [hh, b1_q, if_neg n10, e3, b_q, if_pos (show r = -1 from z_eq.mpr (by omega))]
  · have hh : fX12_has T 187 x1 S = some 0 := by
      rcases r_has hT h4.2.2.2.1 x1 with ⟨h, -⟩ | ⟨-, e⟩
      · exact absurd h hn
      · exact e
    rw [e0, b1_q, if_pos rfl]
    refine ⟨-1, S, S, rfl, ?_, hT, h1, h2, h3, B, A, h4, h5⟩
    rw [hh, b1_q, if_pos rfl]
/-! KEY, both -/
def kyF (B : Bk) (m : Int32) : Nat → Option (Nat × Int32)
  | 0 => none
  | n + 1 => if zm (bth B) n = true then match kyF B m n with
      | none => some (n, m - pO (wiV B n))
      | some (j, v) => if v < m - pO (wiV B n) ∨ (m - pO (wiV B n) = v ∧ B.1 0 n < B.1 0 j) then some (n, m - pO (wiV B n)) else some (j, v)
    else kyF B m n
def kyA (x : Int32) : Option (Nat × Int32) → Int32 × Int32
  | none => (x, 0)
  | some (j, v) => (nI j, v)
theorem kyF_lt {B : Bk} {m : Int32} : ∀ n j v, kyF B m n = some (j, v) → j < n ∧ zm (bth B) j = true := by
  intro n
  induction n with
  | zero => intro j v h; cases h
  | succ n ih =>
    intro j v h
    unfold kyF at h
    cases hz : zm (bth B) n with
    | false =>
      rw [hz, if_neg (by decide)] at h
      have := ih j v h
      exact ⟨by omega, this.2⟩
    | true =>
      rw [hz, if_pos rfl] at h
      cases hk : kyF B m n with
      | none =>
        rw [hk] at h
        have h' : some (n, m - pO (wiV B n)) = some (j, v) := h
        injection h' with h'
        injection h' with h1 h2
        exact ⟨by omega, by rw [← h1]; exact hz⟩
      | some p =>
        obtain ⟨i, u⟩ := p
        rw [hk] at h
        have h' : (if u < m - pO (wiV B n) ∨ (m - pO (wiV B n) = u ∧ B.1 0 n < B.1 0 i) then some (n, m - pO (wiV B n)) else some (i, u)) = some (j, v) := h
        by_cases y : u < m - pO (wiV B n) ∨ (m - pO (wiV B n) = u ∧ B.1 0 n < B.1 0 i)
        · rw [if_pos y] at h'
          injection h' with h'
          injection h' with h1 h2
          exact ⟨by omega, by rw [← h1]; exact hz⟩
        · rw [if_neg y] at h'
          injection h' with h'
          injection h' with h1 h2
          have := ih i u hk
          exact ⟨by omega, by rw [← h1]; exact this.2⟩
theorem kyF_S {B : Bk} {m : Int32} {n : Nat} : kyF B m (n + 1) = if zm (bth B) n = true then match kyF B m n with
      | none => some (n, m - pO (wiV B n))
      | some (j, v) => if v < m - pO (wiV B n) ∨ (m - pO (wiV B n) = v ∧ B.1 0 n < B.1 0 j) then some (n, m - pO (wiV B n)) else some (j, v)
    else kyF B m n := rfl
theorem v_keyThing {T : zT} (hT : iT T) {B : Bk} (hB : okB B) {S : zS} (hc : bkC S 7 B) (hp : rwOK B S.1) : ∃ S', fX5_keyThing T 176 S = some ((kyA (-1) (kyF B (S.1 176 3) 8)).1, S') ∧ onlyI S S' 181 := by
  have bk : ∀ {S'}, onlyI S S' 181 → bkC S' 7 B := fun ho => bkC_cg (fun a b _ _ => ho.2 a b (by omega)) hc
  have rk : ∀ {S'}, onlyI S S' 181 → rwOK B S'.1 := fun ho => rwOK_cg (fun a b h => ho.2 a b (by omega)) hp
  have key : zwp (lp (fun a => fX5_keyThing_l6 T 176 a.1 a.2.1 a.2.2.1 a.2.2.2) ((-1), 0, 0, S)) (fun e => e.1 = (kyA (-1) (kyF B (S.1 176 3) 8)).1 ∧ onlyI S e.2 181) := by
    refine lp_for (I := fun n a => ∃ S', a = ((kyA (-1) (kyF B (S.1 176 3) n)).1, (kyA (-1) (kyF B (S.1 176 3) n)).2, nI n, S') ∧ onlyI S S' 181) 8 ?_ ?_ ?_
    · rintro n a hn ⟨S', rfl, o⟩
      left
      show ∃ a', fX5_keyThing_l6 T 176 (kyA (-1) (kyF B (S.1 176 3) n)).1 (kyA (-1) (kyF B (S.1 176 3) n)).2 (nI n) S' = _ ∧ _
      unfold fX5_keyThing_l6 fX5_keyThing_b41 fX5_keyThing_b46 fX5_keyThing_b80 fX5_keyThing_b85
      simp only [let_q]
      rw [if_neg (show ¬ 8 ≤ nI n by rw [n_leL (by omega) (by omega)]; omega), zT_176_0 hT]
      rcases c_has (T := T) (bk o) (nI n) with ⟨⟨t, ht, et, hz⟩, e0⟩ | ⟨hno, e0⟩
      · have : n = t := by rw [n_eq (by omega) (by omega)] at et; exact et
        subst this
        obtain ⟨S2, e2, o2⟩ := v_hanging hT hB hn hz (bk o) (rk o)
        rw [o.2 176 3 (by decide)] at e2
        rw [e0, b1_q, if_neg n10, e2, b_q]
        have o3 := onlyI_tr o o2
        cases hk : kyF B (S.1 176 3) n with
        | none =>
          rw [if_pos (show (kyA (-1) none).1 = -1 from rfl), if_neg (show ¬ (1 : Int32) = 0 by decide), n_addL]
          refine ⟨_, rfl, S2, ?_, o3⟩
          rw [show kyF B (S.1 176 3) (n + 1) = some (n, S.1 176 3 - pO (wiV B n)) from by rw [kyF_S, if_pos hz, hk]]
          rfl
        | some p =>
          obtain ⟨j, v⟩ := p
          obtain ⟨hj, hjz⟩ := kyF_lt n j v hk
          show ∃ a', (if nI j = -1 then _ else if S.1 176 3 - pO (wiV B n) ≤ v then _ else _) = _ ∧ _
          rw [if_neg (n_m1' (show j < 60 by omega))]
          have e8 : ∀ u, u < 8 → zm (bth B) u = true → S2.1 8 u = B.1 0 u := fun u hu hzu => (bk o3).2.1 u hu hzu 0 (by decide)
          by_cases y : S.1 176 3 - pO (wiV B n) ≤ v
          · rw [if_pos y, if_pos trivial]
            have y' := z_le.mp y
            show ∃ a', (if S.1 176 3 - pO (wiV B n) = v then _ else _) = _ ∧ _
            by_cases x : S.1 176 3 - pO (wiV B n) = v
            · rw [if_pos x, g_in hn (by decide)]
              show ∃ a', zgd (zin (nI j) 8) _ = _ ∧ _
              rw [g_in (show j < 8 by omega) (by decide), zT_7_6 hT, tn_nI (by omega)]
              show ∃ a', (if S2.1 8 (nI j).toNatClampNeg ≤ _ then _ else _) = _ ∧ _
              rw [tn_nI (by omega), e8 n hn hz, e8 j (by omega) hjz]
              by_cases u : B.1 0 j ≤ B.1 0 n
              · have u' := z_le.mp u
                rw [if_pos u, n_addL]
                refine ⟨_, rfl, S2, ?_, o3⟩
                rw [show kyF B (S.1 176 3) (n + 1) = some (j, v) from by
                  rw [kyF_S, if_pos hz, hk]
                  exact if_neg (fun q => by
                    rcases q with q | q
                    · have := z_lt.mp q; omega
                    · have := z_lt.mp q.2; omega)]
              · have u' := z_lt.mp (z_nle u)
                rw [if_neg u, n_addL]
                refine ⟨_, rfl, S2, ?_, o3⟩
                rw [show kyF B (S.1 176 3) (n + 1) = some (n, S.1 176 3 - pO (wiV B n)) from by
                  rw [kyF_S, if_pos hz, hk]
                  exact if_pos (Or.inr ⟨x, z_lt.mpr u'⟩)]
                rfl
            · rw [if_neg x, n_addL]
              refine ⟨_, rfl, S2, ?_, o3⟩
              rw [show kyF B (S.1 176 3) (n + 1) = some (j, v) from by
                rw [kyF_S, if_pos hz, hk]
                exact if_neg (fun q => by
                  rcases q with q | q
                  · have := z_lt.mp q; omega
                  · exact x q.1)]
          · have y' := z_lt.mp (z_nle y)
            rw [if_neg y, if_neg (show ¬ (1 : Int32) = 0 by decide), n_addL]
            refine ⟨_, rfl, S2, ?_, o3⟩
            rw [show kyF B (S.1 176 3) (n + 1) = some (n, S.1 176 3 - pO (wiV B n)) from by
              rw [kyF_S, if_pos hz, hk]
              exact if_pos (Or.inl (z_lt.mpr y'))]
            rfl
      · have hz : ¬ zm (bth B) n = true := fun h => hno ⟨n, hn, rfl, h⟩
        rw [e0, b1_q, if_pos rfl, n_addL]
        exact ⟨_, rfl, S', by rw [show kyF B (S.1 176 3) (n + 1) = kyF B (S.1 176 3) n from by rw [kyF_S, if_neg hz]], o⟩
    · rintro a ⟨S', rfl, o⟩
      refine ⟨(_, S'), ?_, rfl, o⟩
      show fX5_keyThing_l6 T 176 _ _ (nI 8) S' = _
      unfold fX5_keyThing_l6
      exact if_pos (show (8 : Int32) ≤ nI 8 by decide)
    · exact ⟨S, rfl, onlyI_refl⟩
  obtain ⟨⟨e1, S'⟩, e, q, o⟩ := key
  have q' : e1 = (kyA (-1) (kyF B (S.1 176 3) 8)).1 := q
  subst q'
  refine ⟨S', ?_, o⟩
  unfold fX5_keyThing
  rw [e, b1_q]
theorem r_key {T : zT} (hT : iT T) {B : Bk} (hB : okB B) {m : Int32} (hm : ¬ m = -1) {S : zS} (hr : bkR S.1 B) : ∃ S', lp (fun a => fX12_key_l13 T 187 m a.1 a.2.1 a.2.2.1 a.2.2.2) ((-2), 0, 0, S) = some ((kyA (-2) (kyF B m 8)).1, S') ∧ fP S S' := by
  have key : zwp (lp (fun a => fX12_key_l13 T 187 m a.1 a.2.1 a.2.2.1 a.2.2.2) ((-2), 0, 0, S)) (fun e => e.1 = (kyA (-2) (kyF B m 8)).1 ∧ fP S e.2) := by
    refine lp_for (I := fun n a => ∃ S', a = ((kyA (-2) (kyF B m n)).1, (kyA (-2) (kyF B m n)).2, nI n, S') ∧ fP S S' ∧ bkR S'.1 B) 8 ?_ ?_ ?_
    · rintro n a hn ⟨S', rfl, o, r1⟩
      left
      show ∃ a', fX12_key_l13 T 187 m (kyA (-2) (kyF B m n)).1 (kyA (-2) (kyF B m n)).2 (nI n) S' = _ ∧ _
      unfold fX12_key_l13 fX12_key_b79 fX12_key_b85
      simp only [let_q]
      rw [if_neg (show ¬ 8 ≤ nI n by rw [n_leL (by omega) (by omega)]; omega), if_neg hm, g_in (by omega) (by decide), zT_187_22 hT, tn_nI (by omega), r1.1 n hn]
      cases hz : zm (bth B) n with
      | true =>
        obtain ⟨S2, e2, o2, r2⟩ := r_hangsOn hT hB hn (m := m) r1
        rw [if_pos (show (if true = true then (1 : Int32) else 0) = 1 by rw [if_pos rfl]), e2, b_q]
        have o3 := fP_trans o o2
        cases hk : kyF B m n with
        | none =>
          rw [if_pos (show (kyA (-2) none).1 = -2 from rfl), n_addL]
          refine ⟨_, rfl, S2, ?_, o3, r2⟩
          rw [show kyF B m (n + 1) = some (n, m - pO (wiV B n)) from by rw [kyF_S, if_pos hz, hk]]
          rfl
        | some p =>
          obtain ⟨j, v⟩ := p
          obtain ⟨hj, hjz⟩ := kyF_lt n j v hk
          have hj2 : ¬ nI j = -2 := by
            intro q
            have := z_eq.mp q
            rw [nI_toInt (by omega)] at this
            have e2 : (-2 : Int32).toInt = -2 := rfl
            omega
          show ∃ a', (if nI j = -2 then _ else if v < m - pO (wiV B n) then _ else _) = _ ∧ _
          rw [if_neg hj2]
          have e8 : ∀ u, u < 8 → S2.1 200 u = B.1 0 u := fun u hu => r2.2.1 u hu 0 (by decide)
          by_cases y : v < m - pO (wiV B n)
          · rw [if_pos y, n_addL]
            refine ⟨_, rfl, S2, ?_, o3, r2⟩
            rw [show kyF B m (n + 1) = some (n, m - pO (wiV B n)) from by
              rw [kyF_S, if_pos hz, hk]
              exact if_pos (Or.inl y)]
            rfl
          · rw [if_neg y]
            show ∃ a', (if m - pO (wiV B n) = v then _ else _) = _ ∧ _
            by_cases x : m - pO (wiV B n) = v
            · rw [if_pos x, g_in (show n < 16 by omega) (by decide)]
              show ∃ a', zgd (zin (nI j) 16) _ = _ ∧ _
              rw [g_in (show j < 16 by omega) (by decide), zT_187_23 hT, e8 n hn]
              show ∃ a', (if S2.1 200 (nI j).toNatClampNeg ≤ _ then _ else _) = _ ∧ _
              rw [tn_nI (by omega), e8 j (by omega)]
              by_cases u : B.1 0 j ≤ B.1 0 n
              · have u' := z_le.mp u
                rw [if_pos u, n_addL]
                refine ⟨_, rfl, S2, ?_, o3, r2⟩
                rw [show kyF B m (n + 1) = some (j, v) from by
                  rw [kyF_S, if_pos hz, hk]
                  exact if_neg (fun q => by
                    rcases q with q | q
                    · exact y q
                    · have := z_lt.mp q.2; omega)]
              · have u' := z_lt.mp (z_nle u)
                rw [if_neg u, n_addL]
                refine ⟨_, rfl, S2, ?_, o3, r2⟩
                rw [show kyF B m (n + 1) = some (n, m - pO (wiV B n)) from by
                  rw [kyF_S, if_pos hz, hk]
                  exact if_pos (Or.inr ⟨x, z_lt.mpr u'⟩)]
                rfl
            · rw [if_neg x, n_addL]
              refine ⟨_, rfl, S2, ?_, o3, r2⟩
              rw [show kyF B m (n + 1) = some (j, v) from by
                rw [kyF_S, if_pos hz, hk]
                exact if_neg (fun q => by
                  rcases q with q | q
                  · exact y q
                  · exact x q.1)]
      | false =>
        rw [if_neg (show ¬ (if false = true then (1 : Int32) else 0) = 1 by rw [if_neg (by decide)]; decide), n_addL]
        exact ⟨_, rfl, S', by rw [show kyF B m (n + 1) = kyF B m n from by rw [kyF_S, if_neg (by rw [hz]; decide)]], o, r1⟩
    · rintro a ⟨S', rfl, o, r1⟩
      refine ⟨(_, S'), ?_, rfl, o⟩
      show fX12_key_l13 T 187 m _ _ (nI 8) S' = _
      unfold fX12_key_l13
      exact if_pos (show (8 : Int32) ≤ nI 8 by decide)
    · exact ⟨S, rfl, fun _ _ _ => rfl, hr⟩
  obtain ⟨⟨e1, S'⟩, e, q, o⟩ := key
  have q' : e1 = (kyA (-2) (kyF B m 8)).1 := q
  subst q'
  exact ⟨S', e, o⟩
theorem kyF_none {B : Bk} {m : Int32} : ∀ n, kyF B m n = none → ∀ u, u < n → zm (bth B) u = false := by
  intro n
  induction n with
  | zero => intro _ u hu; exact absurd hu (Nat.not_lt_zero _)
  | succ n ih =>
    intro h u hu
    rw [kyF_S] at h
    cases hz : zm (bth B) n with
    | true =>
      rw [hz, if_pos rfl] at h
      cases hk : kyF B m n with
      | none => rw [hk] at h; cases h
      | some p =>
        obtain ⟨i, v⟩ := p
        rw [hk] at h
        have h' : (if v < m - pO (wiV B n) ∨ (m - pO (wiV B n) = v ∧ B.1 0 n < B.1 0 i) then some (n, m - pO (wiV B n)) else some (i, v)) = none := h
        split at h' <;> cases h'
    | false =>
      rw [hz, if_neg (by decide)] at h
      by_cases y : u = n
      · rw [y]; exact hz
      · exact ih h u (by omega)
theorem kyF_all {B : Bk} {m : Int32} (h : bth B = 0) : ∀ n, kyF B m n = none := by
  intro n
  induction n with
  | zero => rfl
  | succ n ih => rw [kyF_S, h, if_neg (by rw [m_0]; decide)]; exact ih
theorem ok16 : oK16 invTS := by
  rintro T S ⟨hT, h1, h2, h3, B, A, h4, h5⟩
  have hB := h4.1
  have em : (-1 : Int32).toInt = -1 := rfl
  have e00 : (0 : Int32).toInt = 0 := rfl
  obtain ⟨S1, e1, f1, j1, q1, p1, i1, b1⟩ := c_ready hT h1 h2 h3 h4 h5
  have pm := p1.2.2.2.1
  have h6 := bst_m1 (bsL B (bw B)) 256
  unfold fX11_key fX11_key_b22 fX11_key_b31 fX12_key fX12_key_b91
  rw [zT_0_3 hT, e1, b_q]
  by_cases hm : S1.1 176 3 < 0
  · have h7 := z_lt.mp hm
    obtain ⟨r, S3, e3, f3, r3, q3⟩ := r_asBest hT hB b1.2.2.2.1
    have er : r = -1 := z_eq.mpr (by omega)
    have el : lp (fun a => fX12_key_l13 T 187 r a.1 a.2.1 a.2.2.1 a.2.2.2) ((-2), 0, 0, S3) = some ((-2 : Int32), S3) := by
      refine lp_stop ?_
      show fX12_key_l13 T 187 r (-2) 0 0 S3 = _
      unfold fX12_key_l13
      rw [if_neg (show ¬ (8 : Int32) ≤ 0 by decide), if_pos er]
    rw [if_pos hm]
    refine ⟨-2, S1, S3, rfl, ?_, hT, inv_fP f3 i1⟩
    rw [e3, b_q, el, b1_q]
  · have h7 := z_le.mp (z_nlt hm)
    rw [if_neg hm, bkC_th b1.2.2.1]
    by_cases hz : bth B = 0
    · obtain ⟨r, S3, e3, f3, r3, q3⟩ := r_asBest hT hB b1.2.2.2.1
      have nr : ¬ r = -1 := fun q => by rw [q, em] at q3; omega
      obtain ⟨S4, e4, f4⟩ := r_key hT hB nr r3
      rw [kyF_all hz] at e4
      rw [if_pos hz]
      refine ⟨-2, S1, S4, rfl, ?_, hT, inv_fP (fP_trans f3 f4) i1⟩
      rw [e3, b_q, e4, b1_q]; rfl
    · obtain ⟨S2, e2, o2⟩ := v_keyThing hT hB b1.2.2.1 (rwOK_of p1)
      have i2 := inv_181 (Or.inl rfl) o2 i1
      have r2 : bkR S2.1 B := bkR_cg (fun a b hb => o2.2 a b (fun z => by subst z; exact absurd hb (by unfold rN; simp))) b1.2.2.2.1
      obtain ⟨r, S3, e3, f3, r3, q3⟩ := r_asBest hT hB r2
      have er : r = S1.1 176 3 := z_eq.mpr (by omega)
      have nr : ¬ r = -1 := fun q => by rw [q, em] at q3; omega
      obtain ⟨S4, e4, f4⟩ := r_key hT hB nr r3
      rw [if_neg hz, e2, b_q]
      refine ⟨_, S2, S4, rfl, ?_, hT, inv_fP (fP_trans f3 f4) i2⟩
      rw [e3, b_q, e4, b1_q, er]
      cases hk : kyF B (S1.1 176 3) 8 with
      | none =>
        refine absurd (is8_ext hB.1 is8_0 (fun u hu => ?_)) hz
        rw [kyF_none 8 hk u hu, m_0]
      | some p => rfl
