/-! PLANS ASKED, by the class: a week, the coin changed, the gains without a thing -/
theorem pst_in {f : Nat → Int} {inn : Int32} {o : Nat → Int} {M : Int32} (hf : ∀ fr, fr < 256 → 0 ≤ f fr → ∀ u, u < 8 → zm (nI fr) u = true → zm M u = true) (hi : ∀ u, u < 8 → zm inn u = true → zm M u = true) {s : Nat} (hs : s < 256) (h0 : 0 ≤ pst f inn o s) : ∀ u, u < 8 → zm (nI s) u = true → zm M u = true := by
  unfold pst at h0
  rcases bst_at (cdP f inn o s) 256 with q | ⟨fr, hfr, q⟩
  · omega
  · rw [q] at h0
    by_cases z : 0 ≤ f fr ∧ mi (nI fr) (nI s) = 0 ∧ mi (mi (nI s) (nI fr)) inn = 0 ∧ cs8 o (mi (nI s) (nI fr)) ≤ f fr
    · intro u hu hz
      cases v : zm (nI fr) u with
      | true => exact hf fr hfr z.1 u hu v
      | false => exact hi u hu ((mi0 (is8_mi (is8_nI hs))).mp z.2.2.1 u hu (by rw [mi_m, hz, v]; rfl))
    · unfold cdP at h0
      rw [if_neg z] at h0
      omega
theorem ajC_nn {B : Bk} {G : Cg} {w : Nat} {x : Int} (h : 0 ≤ ajC B G w x) : 0 ≤ x := by
  apply Classical.byContradiction
  intro q
  rw [ajC_neg (show x < 0 by omega)] at h
  omega
theorem ajC_m1 {B : Bk} (hB : okB B) {G : Cg} (hG : okG B G) {w : Nat} (hw : w < 60) {x : Int} : -1 ≤ ajC B G w x := by
  have bs := slI_bd hB hG hw
  have bl := lnI_bd hB (G := G) (w := w)
  by_cases z : x < 0
  · rw [ajC_neg z]; omega
  · unfold ajC
    rw [if_neg z]
    show -1 ≤ (if ¬ G.2.2.2 = -1 ∧ nI w = B.1 6 5 ∧ x < (B.1 6 4).toInt then -1 else (if ¬ G.2.2.2 = -1 ∧ nI w = B.1 6 5 then x - (B.1 6 4).toInt else x) + lnI B G w + slI B G w)
    by_cases y : ¬ G.2.2.2 = -1 ∧ nI w = B.1 6 5
    · by_cases v : x < (B.1 6 4).toInt
      · rw [if_pos ⟨y.1, y.2, v⟩]; omega
      · rw [if_neg (fun q => v q.2.2), if_pos y]; omega
    · rw [if_neg (fun q => y ⟨q.1, q.2.1⟩), if_neg y]; omega
theorem rfL_stp {B : Bk} {G : Cg} {h : Nat} {c0 : Int} (w : Nat) : rfL B G h c0 (w + 1) = stp (fun s => ajC B G w (rfL B G h c0 w s)) (innC B G (nI w)) (owI B w) (gnC B G w) := rfl
/-- what can be home lies in what is at first and what may be fetched -/
theorem rfL_in {B : Bk} {G : Cg} {h : Nat} {c0 : Int} {M : Int32} (hh : ∀ u, u < 8 → zm (nI h) u = true → zm M u = true) (hi : ∀ w u, w < 60 → u < 8 → zm (innC B G (nI w)) u = true → zm M u = true) : ∀ w, w ≤ 60 → ∀ s, s < 256 → 0 ≤ rfL B G h c0 w s → ∀ u, u < 8 → zm (nI s) u = true → zm M u = true := by
  intro w
  induction w with
  | zero =>
    intro _ s hs h0 u hu hz
    have e : rfL B G h c0 0 s = if s = h then c0 else -1 := rfl
    rw [e] at h0
    by_cases y : s = h
    · rw [y] at hz; exact hh u hu hz
    · rw [if_neg y] at h0; omega
  | succ w ih =>
    intro hw s hs h0
    rw [rfL_stp] at h0
    exact pst_in (fun fr hfr h1 => ih (by omega) fr hfr (ajC_nn h1)) (fun u hu hz => hi w u (by omega) hu hz) hs (adI_nn h0).1
theorem v_stepG {T : zT} (hT : iT T) {B : Bk} (hB : okB B) {G : Cg} (hG : okG B G) {h : Nat} {c0 : Int} (hcc : -1 ≤ c0 ∧ c0 ≤ 1000000) {M : Int32} (hM : ∀ u, u < 8 → zm M u = true → zm (bth B) u = true) (hh : ∀ u, u < 8 → zm (nI h) u = true → zm M u = true) (hi : ∀ w u, w < 60 → u < 8 → zm (innC B G (nI w)) u = true → zm M u = true) {k kg w : Nat} (hk : 166 ≤ k) (hkg : k ≠ kg) (hw : w < 60) {bar : Int32} (hbar : mi (mi (bth B) (lsS B w)) bar = innC B G (nI w)) {S : zS} (hc : bkC S 7 B) (hf : isLn S k (fun s => ajC B G w (rfL B G h c0 w s))) (hg : ∀ s, s < 256 → (∀ u, u < 8 → zm (nI s) u = true → zm M u = true) → (S.1 kg (256 * w + s)).toInt = gnC B G w s) : ∃ S', fX5_pass T 176 k 256 (nI w) bar kg 15360 S = some ((), S') ∧ onlyI S S' k ∧ isLn S' k (rfL B G h c0 (w + 1)) := by
  have sub := rfL_in (c0 := c0) hh hi w (by omega)
  have bd := rfL_bd hB hG (h := h) hcc w (by omega)
  have hfm : ∀ fr, fr < 256 → 0 ≤ ajC B G w (rfL B G h c0 w fr) → ∀ u, u < 8 → zm (nI fr) u = true → zm M u = true := fun fr hfr h0 => sub fr hfr (ajC_nn h0)
  obtain ⟨S', e, o, l⟩ := v_pass hT hB hk hkg hw (bar := bar) (f := fun s => ajC B G w (rfL B G h c0 w s)) (g := gnC B G w) (c := 30000000) (by decide) hc hf (fun s hs => ⟨ajC_m1 hB hG hw, by
    by_cases z : rfL B G h c0 w s < 0
    · have := ajC_neg (B := B) (G := G) (w := w) z
      show ajC B G w (rfL B G h c0 w s) ≤ 30000000
      omega
    · have h1 := ajC_bd hB hG hw (x := rfL B G h c0 w s) (by omega)
      have h2 := bd s hs
      show ajC B G w (rfL B G h c0 w s) ≤ 30000000
      omega, fun h0 => (mi0 (is8_nI hs)).mpr (fun u hu hz => hM u hu (hfm s hs h0 u hu hz))⟩) (fun s hs hsub h0 => ⟨hg s hs (pst_in hfm (fun u hu hz => hi w u hw hu (by rw [← hbar]; exact hz)) hs h0), (gn_bounds hB w s _).2⟩)
  rw [hbar] at l
  exact ⟨S', e, o, l⟩
theorem v_shift {T : zT} {k : Nat} {f : Nat → Int} {x : Int32} {S : zS} (hf : isLn S k f) (hb : ∀ s, s < 256 → -1 ≤ f s ∧ f s ≤ 1000000000) (hx : -100000 ≤ x.toInt ∧ x.toInt ≤ 100000) : ∃ S', fX5_shift T k 256 x S = some ((), S') ∧ onlyI S S' k ∧ isLn S' k (fun s => adI (f s) x.toInt) := by
  have em : (-1 : Int32).toInt = -1 := rfl
  have e00 : (0 : Int32).toInt = 0 := rfl
  have key : zwp (lp (fun a => fX5_shift_l2 T k 256 x a.1 a.2) (0, S)) (fun S' => onlyI S S' k ∧ isLn S' k (fun s => adI (f s) x.toInt)) := by
    refine lp_for (I := fun n a => ∃ S', a = (nI n, S') ∧ onlyI S S' k ∧ ∀ s, s < 256 → (S'.1 k s).toInt = if s < n then adI (f s) x.toInt else f s) 256 ?_ ?_ ?_
    · rintro n a hn ⟨S', rfl, h1, h2⟩
      left
      show ∃ a', fX5_shift_l2 T k 256 x (nI n) S' = _ ∧ _
      have hv := h2 n hn
      rw [if_neg (Nat.lt_irrefl n)] at hv
      have b := hb n hn
      unfold fX5_shift_l2 fX5_shift_b26
      simp only [let_q]
      rw [show Int32.ofNat 256 = nI 256 from rfl, if_neg (show ¬ nI 256 ≤ nI n by rw [n_le (by omega) (by omega)]; omega), g_in hn (by decide), tn_nI (by omega), n_addL]
      by_cases z : S'.1 k n < 0
      · have z' := z_lt.mp z
        rw [if_pos z]
        refine ⟨_, rfl, S', rfl, h1, fun s hs => ?_⟩
        rw [h2 s hs]
        by_cases y : s = n
        · subst y
          rw [if_neg (Nat.lt_irrefl s), if_pos (Nat.lt_succ_self s), adI_neg (by omega)]; omega
        · by_cases v : s < n
          · rw [if_pos v, if_pos (by omega)]
          · rw [if_neg v, if_neg (by omega)]
      · have z' := z_le.mp (z_nlt z)
        have ea : (S'.1 k n + x).toInt = f n + x.toInt := by rw [z_add (by omega) (by omega), hv]
        rw [if_neg z, g_in hn (by decide), g_in hn (by decide)]
        refine ⟨_, rfl, _, rfl, onlyI_z h1, fun s hs => ?_⟩
        rw [zI_eq]
        by_cases y : s = n
        · subst y
          rw [if_pos rfl, if_pos (Nat.lt_succ_self s)]
          unfold adI
          rw [if_neg (show ¬ f s < 0 by omega)]
          by_cases v : -1 < S'.1 k s + x
          · have v' := z_lt.mp v
            rw [if_pos v, if_neg (show ¬ f s + x.toInt < 0 by omega)]; omega
          · have v' := z_le.mp (z_nlt v)
            rw [if_neg v, if_pos (show f s + x.toInt < 0 by omega)]; exact em
        · rw [if_neg y, h2 s hs]
          by_cases v : s < n
          · rw [if_pos v, if_pos (by omega)]
          · rw [if_neg v, if_neg (by omega)]
    · rintro a ⟨S', rfl, h1, h2⟩
      refine ⟨S', ?_, h1, fun s hs => by rw [h2 s hs, if_pos hs]⟩
      show fX5_shift_l2 T k 256 x (nI 256) S' = _
      unfold fX5_shift_l2
      exact if_pos (show nI 256 ≤ nI 256 by rw [n_le (by omega) (by omega)]; omega)
    · exact ⟨S, rfl, onlyI_refl, fun s hs => by rw [if_neg (Nat.not_lt_zero _)]; exact hf s hs⟩
  obtain ⟨S', e, q⟩ := key
  refine ⟨S', ?_, q⟩
  unfold fX5_shift
  rw [e, b1_q]
theorem c_isLost {T : zT} (hT : iT T) {B : Bk} {S : zS} (hc : bkC S 7 B) {t : Nat} (ht : t < 8) (hz : zm (bth B) t = true) (w : Nat) : fX0_isLost T 7 (nI t) (nI w) S = some (if zm (lsS B w) t = true then 1 else 0) := by
  have e10 : S.1 10 t = B.1 2 t := hc.2.1 t ht hz 2 (by decide)
  have el : zm (lsS B w) t = (decide (¬ B.1 2 t = -1) && decide (B.1 2 t ≤ nI w)) := by
    unfold lsS
    rw [st8_m ht, hz, Bool.true_and]
  unfold fX0_isLost fX0_isLost_b24 fX0_isLost_b25
  rw [g_in ht (by decide), tn_nI (by omega), zT_7_8 hT, e10, el]
  by_cases y : B.1 2 t = -1
  · rw [if_pos y, decide_eq_false (fun q => q y), Bool.false_and, if_neg (by decide)]; rfl
  · rw [if_neg y, decide_eq_true y, Bool.true_and, g_in ht (by decide)]
    by_cases v : B.1 2 t ≤ nI w
    · rw [decide_eq_true v, if_neg (fun q => by have := z_le.mp v; have := z_lt.mp q; omega), if_pos rfl]; rfl
    · rw [decide_eq_false v, if_pos (z_nle v), if_neg (by decide)]; rfl
/-- the rows of gains stand -/
def rwOK (B : Bk) (s : Nat → Nat → Int32) : Prop := (∀ w, w < bw B → ∀ i, i < 256 → mi (nI i) (bth B) = 0 → (s 179 (256 * w + i)).toInt = gnN B w i (pc (inS B w i))) ∧ (zm (s 22 2) 21 = true → ∀ w, w < bw B → ∀ i, i < 256 → mi (nI i) (bth B) = 0 → (s 180 (256 * w + i)).toInt = gnN B w i (pc (inS B w i) - 1))
theorem rwOK_of {B : Bk} {s : Nat → Nat → Int32} (h : plOK B s) : rwOK B s := ⟨h.2.1, h.2.2.1⟩
theorem rwOK_cg {B : Bk} {s s' : Nat → Nat → Int32} (e : ∀ a b, a < 181 → s' a b = s a b) (h : rwOK B s) : rwOK B s' := ⟨fun w hw i hi hs => by rw [e _ _ (by decide)]; exact h.1 w hw i hi hs, fun z w hw i hi hs => by rw [e _ _ (by decide)]; rw [e _ _ (by decide)] at z; exact h.2 z w hw i hi hs⟩
theorem bk_okC {B : Bk} {S : zS} {k : Nat} (hc : bkC S k B) {j : Nat} (hj : j = 1 ∨ j = 2) : ∀ c, c ∈ B.2.filter (ofK j) → okC c.2.2.2 := by
  intro c hm
  obtain ⟨i, hi⟩ := List.getElem?_of_mem hm
  rcases hj with rfl | rfl
  · exact (hc.2.2.1.2.2 i c hi).1
  · exact (hc.2.2.2.1.2.2 i c hi).1
theorem gnN_any {B : Bk} {S : zS} {k : Nat} (hc : bkC S k B) (hno : ∀ c, c ∈ B.2 → ¬ (47, 21) ∈ c.2.2.2) (w s n m : Nat) : gnN B w s n = gnN B w s m := by
  have key : ∀ k, k = 1 ∨ k = 2 → brN B k (nI w) (nI s) n = brN B k (nI w) (nI s) m := by
    intro k hk
    unfold brN ern
    refine sumL_congr (fun c hm => ?_)
    have hcB := (List.mem_filter.mp hm).1
    have e : evv (envB (nI w) (nI (pc (nI s))) (nI n)) c.2.2.2 = evv (envB (nI w) (nI (pc (nI s))) (nI m)) c.2.2.2 := evv_congr (fun p hp h47 => by
      have h21 : ¬ p.2 = 21 := fun q => hno c hcB (by rw [← h47, ← q]; exact hp)
      have hw : wB p.2 = true := by
        rcases bk_okC hc hk c hm with q | ⟨q, -⟩
        · rw [q] at hp; cases hp
        · exact chk_words (q []) p hp h47
      have hw' := of_decide_eq_true hw
      unfold envB
      by_cases y : p.2 = 19
      · rw [if_pos y, if_pos y]
      · rw [if_neg y, if_neg y, if_pos (show p.2 = 20 by omega), if_pos (show p.2 = 20 by omega)])
    unfold ernF hld
    rw [e]
  unfold gnN
  rw [key 1 (Or.inl rfl), key 2 (Or.inr rfl)]
theorem pc_bit : ∀ n, n < 256 → ∀ t, t < 8 → n.testBit t = true → pc (mi (nI n) (1 <<< (nI t &&& 31))) = pc (nI n) - 1 := by decide +kernel
/-- the bit of a thing -/
def tb (t : Nat) : Int32 := 1 <<< (nI t &&& 31)
theorem tb_m {t u : Nat} (ht : t < 8) : zm (tb t) u = decide (u = t) := m_shl8 ht
/-- all things but one -/
def mW (B : Bk) (t : Nat) : Int32 := mi (bth B) (tb t)
theorem mW_m {B : Bk} {t u : Nat} (ht : t < 8) : zm (mW B t) u = (zm (bth B) u && !decide (u = t)) := by unfold mW; rw [mi_m, tb_m ht]
theorem mW_sub {B : Bk} {t : Nat} : ∀ u, u < 8 → zm (mW B t) u = true → zm (bth B) u = true := by
  intro u hu h
  unfold mW at h
  rw [mi_m] at h
  cases x : zm (bth B) u with
  | true => rfl
  | false => rw [x] at h; cases h
theorem lsS_is8 {B : Bk} {w : Nat} : is8 (lsS B w) := st8_is8
theorem v_gW {T : zT} (hT : iT T) {B : Bk} (hB : okB B) {t w : Nat} (ht : t < 8) (hz : zm (bth B) t = true) (hw : w < bw B) {S : zS} (hc : bkC S 7 B) (hp : rwOK B S.1) : ∃ kg, fX5_gainsWithout T 176 (nI t) (nI w) S = some kg ∧ (kg = 179 ∨ kg = 180) ∧ ∀ G : Cg, (∀ u, u < 8 → zm (goC B G (nI w)) u = (zm (lsS B w) u || decide (u = t))) → ∀ s, s < 256 → (∀ u, u < 8 → zm (nI s) u = true → zm (mW B t) u = true) → (S.1 kg (256 * w + s)).toInt = gnC B G w s := by
  have hb := mW_sub (B := B) (t := t)
  have base : zm (lsS B w) t = true → ∀ G : Cg, (∀ u, u < 8 → zm (goC B G (nI w)) u = (zm (lsS B w) u || decide (u = t))) → ∀ s, s < 256 → (∀ u, u < 8 → zm (nI s) u = true → zm (mW B t) u = true) → (S.1 179 (256 * w + s)).toInt = gnC B G w s := by
    intro hl G hG s hs hsub
    rw [hp.1 w hw s hs ((mi0 (is8_nI hs)).mpr (fun u hu h => hb u hu (hsub u hu h)))]
    have e : goC B G (nI w) = lsS B w := is8_ext goC_is8 lsS_is8 (fun u hu => by
      rw [hG u hu]
      by_cases y : u = t
      · rw [y, hl]; rfl
      · rw [decide_eq_false y, Bool.or_false])
    unfold gnC
    rw [e]
    rfl
  unfold fX5_gainsWithout fX5_gainsWithout_b27 fX5_gainsWithout_b38
  rw [zT_176_0 hT, c_isLost hT hc ht hz w, b1_q]
  cases hl : zm (lsS B w) t with
  | true =>
    rw [if_neg (show ¬ (if true = true then (1 : Int32) else 0) = 0 by rw [if_pos rfl]; decide), zT_176_9 hT]
    exact ⟨179, rfl, Or.inl rfl, base hl⟩
  | false =>
    have ea : fX2_asks T 22 21 S = some (if zm (S.1 22 2) 21 = true then 1 else 0) := v_asks (q := 21) (by decide)
    rw [if_pos (show (if false = true then (1 : Int32) else 0) = 0 by rw [if_neg (by decide)]), zT_7_14 hT, ea, b1_q]
    -- what is in without it
    have hin : ∀ G : Cg, (∀ u, u < 8 → zm (goC B G (nI w)) u = (zm (lsS B w) u || decide (u = t))) → ∀ s, s < 256 → (∀ u, u < 8 → zm (nI s) u = true → zm (mW B t) u = true) → mi (mi (bth B) (nI s)) (goC B G (nI w)) = mi (inS B w s) (tb t) ∧ zm (inS B w s) t = true := by
      intro G hG s hs hsub
      have hst : zm (nI s) t = false := by
        cases x : zm (nI s) t with
        | false => rfl
        | true =>
          have := hsub t ht x
          rw [mW_m ht, decide_eq_true rfl] at this
          cases y : zm (bth B) t <;> rw [y] at this <;> cases this
      refine ⟨is8_ext (is8_mi (is8_mi hB.1)) (is8_mi (is8_mi (is8_mi hB.1))) (fun u hu => ?_), ?_⟩
      · unfold inS
        rw [mi_m, mi_m, mi_m, mi_m, mi_m, hG u hu, tb_m ht]
        cases zm (bth B) u <;> cases zm (nI s) u <;> cases zm (lsS B w) u <;> cases decide (u = t) <;> rfl
      · unfold inS
        rw [mi_m, mi_m, hz, hst, hl]; rfl
    cases hq : zm (S.1 22 2) 21 with
    | false =>
      rw [if_pos (show (if false = true then (1 : Int32) else 0) = 0 by rw [if_neg (by decide)]), zT_176_9 hT]
      refine ⟨179, rfl, Or.inl rfl, fun G hG s hs hsub => ?_⟩
      rw [hp.1 w hw s hs ((mi0 (is8_nI hs)).mpr (fun u hu h => hb u hu (hsub u hu h)))]
      exact gnN_any hc (fun c hcm hm => by rw [hc.2.2.2.2.1 c hcm hm] at hq; cases hq) w s _ _
    | true =>
      rw [if_neg (show ¬ (if true = true then (1 : Int32) else 0) = 0 by rw [if_pos rfl]; decide), zT_176_10 hT]
      refine ⟨180, rfl, Or.inr rfl, fun G hG s hs hsub => ?_⟩
      obtain ⟨e1, e2⟩ := hin G hG s hs hsub
      rw [hp.2 hq w hw s hs ((mi0 (is8_nI hs)).mpr (fun u hu h => hb u hu (hsub u hu h)))]
      unfold gnC
      rw [e1]
      obtain ⟨e3, h3⟩ := is8_n (x := inS B w s) (is8_mi (is8_mi hB.1))
      have e4 : pc (mi (inS B w s) (tb t)) = pc (inS B w s) - 1 := by
        rw [e3] at e2 ⊢
        exact pc_bit _ h3 t ht (by rw [← zm_nat h3]; exact e2)
      rw [e4]
/-- no coin: nothing -/
theorem ajC_id {B : Bk} {G : Cg} {w : Nat} (h1 : G.2.2.2 = -1) (h2 : ¬ nI w = G.2.2.1) (hw : w < 60) {x : Int} (h : -1 ≤ x) : ajC B G w x = x := by
  unfold ajC
  by_cases z : x < 0
  · rw [if_pos z]; omega
  · rw [if_neg z, if_neg (fun q => q.1 h1), if_neg (fun q => q.1 h1), h1, if_neg (n_m1' hw), if_neg h2]
    omega
/-- numbers as ints -/
def iO (x : Int) : Int32 := if x < 0 then -1 else nI x.toNat
theorem iO_toInt {x : Int} (h1 : -1 ≤ x) (h2 : x < 2147483648) : (iO x).toInt = x := by
  unfold iO
  by_cases z : x < 0
  · rw [if_pos z]
    have em : (-1 : Int32).toInt = -1 := rfl
    omega
  · rw [if_neg z, nI_toInt (by omega)]; omega
theorem iO_eq {r : Int32} {x : Int} (h1 : -1 ≤ x) (h : r.toInt = x) : r = iO x := z_eq.mpr (by rw [iO_toInt h1 (by have := z_rng r; omega), h])
theorem iO_m1 {x : Int} (h1 : -1 ≤ x) (h2 : x < 2147483648) : iO x = -1 ↔ x = -1 := by
  have em : (-1 : Int32).toInt = -1 := rfl
  rw [z_eq, iO_toInt h1 h2, em]
theorem bst_bd {f : Nat → Int} {n : Nat} {c : Int} (hc : 0 ≤ c) (h : ∀ i, i < n → f i ≤ c) : -1 ≤ bst f n ∧ bst f n ≤ c := by
  refine ⟨bst_m1 f n, ?_⟩
  rcases bst_at f n with q | ⟨i, hi, q⟩
  · omega
  · rw [q]; exact h i hi
