/-! THE TOKENS, by the class -/
section
variable {T : zT} {u : Nat → Nat} {n : Nat}
/-- the tape's bytes -/
def txC (u : Nat → Nat) (n : Nat) (S : zS) : Prop := n ≤ 400 ∧ ∀ i, i < n → S.1 1 i = nI (u i) ∧ u i ≤ 255
theorem c_run {S : zS} (ht : txC u n S) {p : Nat → Bool} {a b : Int32} (hp : ∀ x, x ≤ 255 → (p x = true ↔ ¬ nI x < a ∧ nI x ≤ b)) {i : Nat} (hi : i ≤ n) : fX10_behindRun T 1 400 (nI n) (nI i) a b S = some (nI (rn p u n i)) := by
  obtain ⟨hn, hu⟩ := ht
  have key : zwp (lp (fun x => fX10_behindRun_l3 T 1 400 (nI n) a b S x) (nI i)) (fun e => (e = .inl () ∧ rn p u n i = n) ∨ e = .inr (nI (rn p u n i))) := by
    refine lp_for (I := fun k x => x = nI (i + k) ∧ i + k ≤ n ∧ ∀ j, i ≤ j → j < i + k → j < n ∧ p (u j) = true) (n - i) ?_ ?_ ?_
    · rintro k x hk ⟨rfl, h1, h2⟩
      obtain ⟨hv, hu255⟩ := hu (i + k) (by omega)
      have hpx := hp (u (i + k)) hu255
      unfold fX10_behindRun_l3
      rw [if_neg (show ¬ nI n ≤ nI (i + k) by rw [n_le (by omega) (by omega)]; omega), show Int32.ofNat 400 = nI 400 from rfl, if_neg (show ¬ nI 400 ≤ nI (i + k) by rw [n_le (by omega) (by omega)]; omega), g_in (by omega) (by decide), g_in (by omega) (by decide), tn_nI (by omega), hv]
      have stop : ¬ p (u (i + k)) = true → i + k = rn p u n i := fun q => rn_uniq (by omega) h2 (fun z => q z.2)
      by_cases y : nI (u (i + k)) < a
      · right
        rw [if_pos y]
        exact ⟨_, rfl, Or.inr (by rw [← stop (fun q => (hpx.mp q).1 y)])⟩
      · rw [if_neg y]
        by_cases z : nI (u (i + k)) ≤ b
        · left
          rw [if_pos z, let_q, n_addL]
          refine ⟨_, rfl, rfl, by omega, fun j a b => ?_⟩
          by_cases v : j = i + k
          · rw [v]; exact ⟨by omega, hpx.mpr ⟨y, z⟩⟩
          · exact h2 j a (by omega)
        · right
          rw [if_neg z]
          exact ⟨_, rfl, Or.inr (by rw [← stop (fun q => z (hpx.mp q).2)])⟩
    · rintro x ⟨rfl, h1, h2⟩
      have e : i + (n - i) = n := by omega
      rw [e] at h2 ⊢
      refine ⟨.inl (), ?_, Or.inl ⟨rfl, (rn_uniq hi h2 (fun z => by have := z.1; omega)).symm⟩⟩
      unfold fX10_behindRun_l3
      exact if_pos (show nI n ≤ nI n by rw [n_le (by omega) (by omega)]; omega)
    · exact ⟨rfl, hi, fun j a b => by omega⟩
  obtain ⟨e, e1, q⟩ := key
  unfold fX10_behindRun fX10_behindRun_b42 fX10_behindRun_b33
  rw [e1, b1_q]
  rcases q with ⟨rfl, q⟩ | rfl
  · rw [q]; rfl
  · rfl
theorem c_number {S : zS} (ht : txC u n S) {i e : Nat} (hie : i ≤ e) (he : e ≤ n) (h5 : e - i ≤ 5) (hd : ∀ j, i ≤ j → j < e → isDg (u j) = true) : fX10_numberIn T 1 400 (nI i) (nI e) S = some (nI (dgv u i (e - i))) := by
  obtain ⟨hn, hu⟩ := ht
  have key : zwp (lp (fun a => fX10_numberIn_l5 T 1 400 (nI e) S a.1 a.2) (0, nI i)) (fun r => r = nI (dgv u i (e - i))) := by
    refine lp_for (I := fun k x => x = (nI (dgv u i k), nI (i + k))) (e - i) ?_ ?_ ?_
    · rintro k x hk rfl
      left
      obtain ⟨hv, -⟩ := hu (i + k) (by omega)
      have hdk := of_decide_eq_true (hd (i + k) (by omega) (by omega))
      show ∃ a', fX10_numberIn_l5 T 1 400 (nI e) S (nI (dgv u i k)) (nI (i + k)) = _ ∧ _
      unfold fX10_numberIn_l5
      have e1 : nI (dgv u i k) * 10 + nI (u (i + k)) - 48 = nI (dgv u i (k + 1)) := by
        rw [show nI (dgv u i k) * 10 = nI (dgv u i k * 10) from by rw [liq, n_mul], n_add, n_subL (by omega)]
        show _ = nI (10 * dgv u i k + u (i + k) - 48)
        rw [Nat.mul_comm]
      rw [if_neg (show ¬ nI e ≤ nI (i + k) by rw [n_le (by omega) (by omega)]; omega), show Int32.ofNat 400 = nI 400 from rfl, if_neg (show ¬ nI 400 ≤ nI (i + k) by rw [n_le (by omega) (by omega)]; omega), g_in (by omega) (by decide), tn_nI (by omega), hv, e1, let_q, let_q, n_addL]
      exact ⟨_, rfl, rfl⟩
    · rintro x rfl
      refine ⟨_, ?_, rfl⟩
      show fX10_numberIn_l5 T 1 400 (nI e) S (nI (dgv u i (e - i))) (nI (i + (e - i))) = _
      unfold fX10_numberIn_l5
      rw [show i + (e - i) = e by omega]
      exact if_pos (show nI e ≤ nI e by rw [n_le (by omega) (by omega)]; omega)
    · rfl
  obtain ⟨r, e1, rfl⟩ := key
  unfold fX10_numberIn fX10_numberIn_b37
  rw [e1, b1_q]
/-- of the words' text: its word at a place -/
def wI (q : Nat) : Nat := ((List.range q).filter (fun j => wc j == 32)).length
theorem wc_eq : ∀ j, j < 130 → zsC 0 j = nI (wc j) ∧ wc j ≤ 255 := by decide +kernel
theorem wI_at : ∀ q, q < 130 → (wc q = 32 → wI (q + 1) = wI q + 1 ∧ wAt (wI q + 1) = q + 1 ∧ wLen (wI q) = q - wAt (wI q) ∧ wAt (wI q) ≤ q ∧ wI q < 26) ∧ (¬ wc q = 32 → wI (q + 1) = wI q) := by decide +kernel
theorem wI_le : ∀ q, q ≤ 130 → wAt (wI q) ≤ q ∧ wI q ≤ 26 := by decide +kernel
theorem zs0 : zsN 0 = 130 ∧ zsL 0 = nI 130 := by decide +kernel
theorem c_same {S : zS} (ht : txC u n S) {i e f : Nat} (hie : i ≤ e) (he : e ≤ n) (hf : f + (e - i) ≤ 130) : fX10_isSame T 1 400 (nI i) (nI e) (nI f) S = some (if ∀ j, j < e - i → u (i + j) = wc (f + j) then 1 else 0) := by
  obtain ⟨hn, hu⟩ := ht
  have e00 : (0 : Int32).toInt = 0 := rfl
  have key : zwp (lp (fun x => fX10_isSame_l3 T 1 400 (nI i) (nI e) (nI f) S x) (nI i)) (fun r => (r = .inl () ∧ ∀ j, j < e - i → u (i + j) = wc (f + j)) ∨ r = .inr () ∧ ¬ ∀ j, j < e - i → u (i + j) = wc (f + j)) := by
    refine lp_for (I := fun k x => x = nI (i + k) ∧ ∀ j, j < k → u (i + j) = wc (f + j)) (e - i) ?_ ?_ ?_
    · rintro k x hk ⟨rfl, h1⟩
      obtain ⟨hv, hv2⟩ := hu (i + k) (by omega)
      obtain ⟨hw, hw2⟩ := wc_eq (f + k) (by omega)
      unfold fX10_isSame_l3
      have e1 : nI f + nI (i + k) - nI i = nI (f + k) := by rw [n_add, n_sub (by omega), show f + (i + k) - i = f + k by omega]
      rw [if_neg (show ¬ nI e ≤ nI (i + k) by rw [n_le (by omega) (by omega)]; omega), show Int32.ofNat 400 = nI 400 from rfl, if_neg (show ¬ nI 400 ≤ nI (i + k) by rw [n_le (by omega) (by omega)]; omega), e1, let_q, if_neg (show ¬ nI (f + k) < 0 by intro h; have := z_lt.mp h; rw [nI_toInt (by omega)] at this; omega), zs0.2, if_neg (show ¬ nI 130 ≤ nI (f + k) by rw [n_le (by omega) (by omega)]; omega), zs0.1, g_in (by omega) (by decide), g_in (by omega) (by decide), tn_nI (by omega), tn_nI (by omega), hv, hw]
      by_cases y : nI (wc (f + k)) = nI (u (i + k))
      · left
        have y' : u (i + k) = wc (f + k) := by rw [n_eq (by omega) (by omega)] at y; exact y.symm
        rw [if_pos y, let_q, n_addL]
        refine ⟨_, rfl, rfl, fun j hj => ?_⟩
        by_cases z : j = k
        · rw [z]; exact y'
        · exact h1 j (by omega)
      · right
        rw [if_neg y]
        exact ⟨_, rfl, Or.inr ⟨rfl, fun q => y (by rw [q k hk])⟩⟩
    · rintro x ⟨rfl, h1⟩
      refine ⟨.inl (), ?_, Or.inl ⟨rfl, h1⟩⟩
      unfold fX10_isSame_l3
      rw [show i + (e - i) = e by omega]
      exact if_pos (show nI e ≤ nI e by rw [n_le (by omega) (by omega)]; omega)
    · exact ⟨rfl, fun j hj => absurd hj (Nat.not_lt_zero _)⟩
  obtain ⟨r, e1, q⟩ := key
  unfold fX10_isSame fX10_isSame_b61 fX10_isSame_b53
  rw [e1, b1_q]
  rcases q with ⟨rfl, q⟩ | ⟨rfl, q⟩
  · rw [if_pos q]; rfl
  · rw [if_neg q]; rfl
theorem findW_at {p : Nat → Bool} : ∀ f w x, w ≤ x → x < w + f → p x = true → (∀ v, w ≤ v → v < x → p v = false) → findW p f w = x
  | 0, w, x, h1, h2, _, _ => absurd h2 (by omega)
  | f + 1, w, x, h1, h2, h3, h4 => by
    unfold findW
    by_cases y : p w = true
    · rw [if_pos y]
      apply Classical.byContradiction
      intro z
      rw [h4 w (Nat.le_refl _) (by omega)] at y; cases y
    · rw [if_neg y]
      have : w ≠ x := fun z => y (z ▸ h3)
      exact findW_at f (w + 1) x (by omega) (by omega) h3 (fun v a b => h4 v (by omega) b)
theorem findW_no {p : Nat → Bool} : ∀ f w, (∀ v, w ≤ v → v < w + f → p v = false) → findW p f w = 45
  | 0, w, _ => rfl
  | f + 1, w, h => by
    unfold findW
    rw [if_neg (by rw [h w (Nat.le_refl _) (by omega)]; decide)]
    exact findW_no f (w + 1) (fun v a b => h v (by omega) (by omega))
theorem c_wordIn {S : zS} (ht : txC u n S) {i e : Nat} (hie : i < e) (he : e ≤ n) : fX10_wordIn T 1 400 (nI i) (nI e) S = some (nI (twd u i (e - i))) := by
  have hn := ht.1
  have key : zwp (lp (fun a => fX10_wordIn_l8 T 1 400 (nI i) (nI e) S a.1 a.2.1 a.2.2) (0, 0, 0)) (fun r => (r = .inl () ∧ twd u i (e - i) = 45) ∨ r = .inr (nI (twd u i (e - i)))) := by
    refine lp_for (I := fun q a => a = (nI (wI q), nI (wAt (wI q)), nI q) ∧ ∀ v, v < wI q → mtB u i (e - i) v = false) 130 ?_ ?_ ?_
    · rintro q a hq ⟨rfl, h1⟩
      show (∃ a', fX10_wordIn_l8 T 1 400 (nI i) (nI e) S (nI (wI q)) (nI (wAt (wI q))) (nI q) = _ ∧ _) ∨ ∃ r, fX10_wordIn_l8 T 1 400 (nI i) (nI e) S (nI (wI q)) (nI (wAt (wI q))) (nI q) = _ ∧ _
      obtain ⟨hw, hw2⟩ := wc_eq q hq
      obtain ⟨f1, f2⟩ := wI_at q hq
      obtain ⟨g1, g2⟩ := wI_le q (by omega)
      have e32 : (nI (wc q) = 32) = (wc q = 32) := nI_eqL (show (32 : Int32) = nI 32 from rfl) (by omega) (by decide)
      unfold fX10_wordIn_l8 fX10_wordIn_b54 fX10_wordIn_b63
      rw [zs0.1, zs0.2, if_neg (show ¬ nI 130 ≤ nI q by rw [n_le (by omega) (by omega)]; omega), g_in hq (by decide), tn_nI (by omega), hw]
      by_cases y : wc q = 32
      · obtain ⟨a1, a2, a3, a4, a5⟩ := f1 y
        have no : mtB u i (e - i) (wI q) = false → ∃ a', (zlet (nI (wI q) + 1) fun u6 => zlet (nI q + 1) fun u7 => zlet (nI q + 1) fun u4 => (some (.inl (u6, u7, u4)) : Option ((Int32 × Int32 × Int32) ⊕ (Unit ⊕ Int32)))) = some (.inl a') ∧ a' = (nI (wI (q + 1)), nI (wAt (wI (q + 1))), nI (q + 1)) ∧ ∀ v, v < wI (q + 1) → mtB u i (e - i) v = false := by
          intro hm
          simp only [let_q]
          rw [n_addL, n_addL, a1, a2]
          refine ⟨_, rfl, rfl, fun v hv => ?_⟩
          by_cases z : v = wI q
          · rw [z]; exact hm
          · exact h1 v (by omega)
        have el : (nI q - nI (wAt (wI q)) = nI e - nI i) = (e - i = wLen (wI q)) := by
          rw [n_sub a4, n_sub (show i ≤ e by omega), n_eq (by omega) (by omega), a3]
          exact propext ⟨Eq.symm, Eq.symm⟩
        rw [if_pos (show nI (wc q) = 32 by rw [e32]; exact y)]
        by_cases z : e - i = wLen (wI q)
        · rw [if_pos (show nI q - nI (wAt (wI q)) = nI e - nI i by rw [el]; exact z), c_same ht (show i ≤ e by omega) he (by omega), b1_q]
          by_cases v : ∀ j, j < e - i → u (i + j) = wc (wAt (wI q) + j)
          · right
            rw [if_pos v, if_neg n10]
            have hm : mtB u i (e - i) (wI q) = true := decide_eq_true ⟨z, v⟩
            refine ⟨_, rfl, Or.inr ?_⟩
            have : twd u i (e - i) = wI q := findW_at 26 0 (wI q) (Nat.zero_le _) (by omega) hm (fun x _ b => h1 x b)
            rw [this]
          · left
            rw [if_neg v, if_pos rfl]
            exact no (decide_eq_false (fun w => v w.2))
        · left
          rw [if_neg (show ¬ nI q - nI (wAt (wI q)) = nI e - nI i by rw [el]; exact z)]
          exact no (decide_eq_false (fun w => z w.1))
      · left
        rw [if_neg (show ¬ nI (wc q) = 32 by rw [e32]; exact y), let_q, n_addL]
        refine ⟨_, rfl, ?_, ?_⟩
        · rw [f2 y]
        · rw [f2 y]; exact h1
    · rintro a ⟨rfl, h1⟩
      refine ⟨.inl (), ?_, Or.inl ⟨rfl, findW_no 26 0 (fun v _ b => h1 v ?_)⟩⟩
      · show fX10_wordIn_l8 T 1 400 (nI i) (nI e) S (nI (wI 130)) (nI (wAt (wI 130))) (nI 130) = _
        unfold fX10_wordIn_l8
        rw [zs0.2]
        exact if_pos (show nI 130 ≤ nI 130 by rw [n_le (by omega) (by omega)]; omega)
      · have : wI 130 = 26 := by decide +kernel
        omega
    · exact ⟨rfl, fun v hv => absurd hv (by have : wI 0 = 0 := rfl; omega)⟩
  obtain ⟨r, e1, q⟩ := key
  unfold fX10_wordIn
  rw [e1, b1_q]
  rcases q with ⟨rfl, q⟩ | rfl
  · rw [q]; rfl
  · rfl
theorem c_signKind {c : Nat} (hc : c ≤ 255) {S : zS} : fX10_signKind T (nI c) S = some (nI (sgk c)) := by
  have key : ∀ c, c ≤ 255 → ((if nI c = 42 then some (38 : Int32) else if nI c = 43 then some 36 else if nI c = 45 then some 37 else if nI c = 47 then some 39 else if nI c = 59 then some 33 else if nI c = 60 then some 40 else if nI c = 61 then some 42 else if nI c = 62 then some 44 else if nI c = 91 then some 34 else if nI c = 93 then some 35 else some 45) : Option Int32) = some (nI (sgk c)) := by decide +kernel
  exact key c hc
def addT (S : zS) (c : Nat) (k v p : Int32) : zS := zI (zI (zI (zI S 4 c k) 5 c v) 6 c p) 3 3 (nI (c + 1))
theorem addT_at {S : zS} {c : Nat} {k v p : Int32} : (addT S c k v p).2 = S.2 ∧ (addT S c k v p).1 3 3 = nI (c + 1) ∧ (∀ b, (addT S c k v p).1 4 b = if b = c then k else S.1 4 b) ∧ (∀ b, (addT S c k v p).1 5 b = if b = c then v else S.1 5 b) ∧ (∀ b, (addT S c k v p).1 6 b = if b = c then p else S.1 6 b) ∧ ∀ a b, ¬ (a = 3 ∧ b = 3) → a ≠ 4 → a ≠ 5 → a ≠ 6 → (addT S c k v p).1 a b = S.1 a b := by
  unfold addT
  refine ⟨rfl, by rw [zI_eqs], fun b => ?_, fun b => ?_, fun b => ?_, fun a b h1 h2 h3 h4 => ?_⟩
  · rw [zI_ne (by decide), zI_ne (by decide), zI_ne (by decide), zI_eq]
  · rw [zI_ne (by decide), zI_ne (by decide), zI_eq, zI_ne (by decide)]
  · rw [zI_ne (by decide), zI_eq, zI_ne (by decide), zI_ne (by decide)]
  · rw [zI_at, if_neg h1, zI_ne h4, zI_ne h3, zI_ne h2]
theorem c_addT (hT : iT T) {S : zS} {c : Nat} (hc : S.1 3 3 = nI c) (h4 : c ≤ 400) {k v p : Int32} : fX10_add T 3 k v p S = some ((), addT S c k v p) := by
  unfold fX10_add fX10_add_b50 addT
  rw [hc, if_neg (show ¬ 400 < nI c by rw [n_ltL (by omega) (by omega)]; omega), zT_3_0 hT, zT_3_1 hT, zT_3_2 hT]
  simp only [g_in (show c < 401 by omega) (show 401 < 2147483648 by decide), let_q, zI_ne (show (3 : Nat) ≠ 4 by decide), zI_ne (show (3 : Nat) ≠ 5 by decide), zI_ne (show (3 : Nat) ≠ 6 by decide), hc, tn_nI (show c < 2147483648 by omega), n_addL]
theorem c_splitOne (hT : iT T) {S : zS} (ht : txC u n S) {c : Nat} (hc : S.1 3 3 = nI c) (h4 : c ≤ 400) {i : Nat} (hi : i < n) : fX10_splitOne T 3 1 400 (nI n) (nI i) S = some (nI (tok u n i).2.2, addT S c (nI (tok u n i).1) (nI (tok u n i).2.1) (nI i)) := by
  have hn := ht.1
  obtain ⟨hv, h255⟩ := ht.2 i hi
  have lt : ∀ k : Nat, k < 1000 → (nI (u i) < nI k) = (u i < k) := fun k hk => n_lt (by omega) (by omega)
  have eqc : ∀ k : Nat, k < 1000 → (nI (u i) = nI k) = (u i = k) := fun k hk => n_eq (by omega) (by omega)
  have gtc : ∀ k : Nat, k < 1000 → (nI k < nI (u i)) = (k < u i) := fun k hk => n_lt (by omega) (by omega)
  have add := fun (k v p : Int32) => c_addT (T := T) hT hc h4 (k := k) (v := v) (p := p)
  -- a sign
  have sg : ¬ isDg (u i) = true → ¬ isLt (u i) = true → fX10_splitOne_b169 T 3 1 400 (nI n) (nI i) (nI (u i)) S = some (nI (tok u n i).2.2, addT S c (nI (tok u n i).1) (nI (tok u n i).2.1) (nI i)) := by
    intro nd nl
    have et : tok u n i = if (u i = 60 ∨ u i = 62) ∧ i + 1 < n ∧ u (i + 1) = 61 then (if u i = 60 then 41 else 43, 0, i + 2) else (sgk (u i), 0, i + 1) := by
      unfold tok
      rw [if_neg (by omega), if_neg nd, if_neg nl]
    have b244 : ¬ ((u i = 60 ∨ u i = 62) ∧ i + 1 < n ∧ u (i + 1) = 61) → fX10_splitOne_b244 T 3 (nI i) (nI (u i)) S = some (nI (tok u n i).2.2, addT S c (nI (tok u n i).1) (nI (tok u n i).2.1) (nI i)) := by
      intro hn2
      rw [et, if_neg hn2]
      unfold fX10_splitOne_b244
      rw [c_signKind h255, b1_q, add, b_q, n_addL]; rfl
    unfold fX10_splitOne_b169 fX10_splitOne_b198
    have b199 : ∀ s0 : Int32, (s0 = 0 ∨ s0 = 1 ∧ i + 1 < n ∧ u (i + 1) = 61) → (s0 = 0 → ¬ (i + 1 < n ∧ u (i + 1) = 61)) → fX10_splitOne_b199 T 3 (nI i) (nI (u i)) s0 S = some (nI (tok u n i).2.2, addT S c (nI (tok u n i).1) (nI (tok u n i).2.1) (nI i)) := by
      intro s0 h0 h1
      unfold fX10_splitOne_b199
      by_cases z : s0 = 0
      · rw [if_pos z]
        exact b244 (fun q => h1 z q.2)
      · rw [if_neg z]
        have h2 := (h0.resolve_left z).2
        have b220 : ∀ q : u i = 60 ∨ u i = 62, fX10_splitOne_b220 T 3 (nI i) (nI (u i)) S = some (nI (tok u n i).2.2, addT S c (nI (tok u n i).1) (nI (tok u n i).2.1) (nI i)) := by
          intro q
          rw [et, if_pos ⟨q, h2⟩]
          unfold fX10_splitOne_b220 fX10_splitOne_b235
          by_cases y : u i = 60
          · rw [if_pos (show nI (u i) = 60 by rw [y]; rfl), if_pos y, add, b_q, n_addL]; rfl
          · rw [if_neg (show ¬ nI (u i) = 60 by rw [show (60 : Int32) = nI 60 from rfl, eqc 60 (by omega)]; exact y), if_neg y, add, b_q, n_addL]; rfl
        by_cases y : u i = 60
        · rw [if_pos (show nI (u i) = 60 by rw [y]; rfl)]; exact b220 (Or.inl y)
        · rw [if_neg (show ¬ nI (u i) = 60 by rw [show (60 : Int32) = nI 60 from rfl, eqc 60 (by omega)]; exact y)]
          by_cases y2 : u i = 62
          · rw [if_pos (show nI (u i) = 62 by rw [y2]; rfl)]; exact b220 (Or.inr y2)
          · rw [if_neg (show ¬ nI (u i) = 62 by rw [show (62 : Int32) = nI 62 from rfl, eqc 62 (by omega)]; exact y2)]
            exact b244 (fun q => q.1.elim y y2)
    by_cases a1 : n ≤ i + 1
    · rw [if_pos (show nI n ≤ nI i + 1 by rw [n_addL, n_le (by omega) (by omega)]; exact a1)]
      exact b199 0 (Or.inl rfl) (fun _ q => by have := q.1; omega)
    · rw [if_neg (show ¬ nI n ≤ nI i + 1 by rw [n_addL, n_le (by omega) (by omega)]; exact a1), n_addL, show Int32.ofNat 400 = nI 400 from rfl, if_neg (show ¬ nI 400 ≤ nI (i + 1) by rw [n_le (by omega) (by omega)]; omega), g_in (by omega) (by decide), tn_nI (by omega)]
      obtain ⟨hv1, h1255⟩ := ht.2 (i + 1) (by omega)
      rw [hv1]
      by_cases a2 : u (i + 1) = 61
      · rw [if_pos (show nI (u (i + 1)) = 61 by rw [a2]; rfl)]
        exact b199 1 (Or.inr ⟨rfl, by omega, a2⟩) (fun q => absurd q n10)
      · rw [if_neg (show ¬ nI (u (i + 1)) = 61 by rw [show (61 : Int32) = nI 61 from rfl, n_eq (by omega) (by omega)]; exact a2)]
        exact b199 0 (Or.inl rfl) (fun _ q => a2 q.2)
  -- letters
  have lw : ¬ isDg (u i) = true → fX10_splitOne_b82 T 3 1 400 (nI n) (nI i) (nI (u i)) S = some (nI (tok u n i).2.2, addT S c (nI (tok u n i).1) (nI (tok u n i).2.1) (nI i)) := by
    intro nd
    unfold fX10_splitOne_b82
    by_cases a1 : u i < 97
    · rw [if_pos (show nI (u i) < 97 by rw [show (97 : Int32) = nI 97 from rfl, lt 97 (by omega)]; exact a1)]
      exact sg nd (fun q => by have := of_decide_eq_true q; omega)
    · rw [if_neg (show ¬ nI (u i) < 97 by rw [show (97 : Int32) = nI 97 from rfl, lt 97 (by omega)]; exact a1)]
      by_cases a2 : 122 < u i
      · rw [if_pos (show 122 < nI (u i) by rw [show (122 : Int32) = nI 122 from rfl, gtc 122 (by omega)]; exact a2)]
        exact sg nd (fun q => by have := of_decide_eq_true q; omega)
      · rw [if_neg (show ¬ 122 < nI (u i) by rw [show (122 : Int32) = nI 122 from rfl, gtc 122 (by omega)]; exact a2)]
        have hl : isLt (u i) = true := decide_eq_true (by omega)
        have hrun := c_run (T := T) ht (p := isLt) (a := 97) (b := 122) (fun x hx => by
          unfold isLt
          rw [decide_eq_true_iff, show (97 : Int32) = nI 97 from rfl, show (122 : Int32) = nI 122 from rfl, n_lt (by omega) (by omega), n_le (by omega) (by omega)]
          omega) (i := i) (by omega)
        have hge : i < rn isLt u n i := by
          rw [rn_go ⟨hi, hl⟩]
          have := (rn_spec (p := isLt) (u := u) (n := n) (i := i + 1)).1
          omega
        have hle := (rn_spec (p := isLt) (u := u) (n := n) (i := i)).2.1 (by omega)
        have et : tok u n i = if rn isLt u n i - i = 1 ∧ u i ≤ 104 then (30, u i - 97, rn isLt u n i) else (twd u i (rn isLt u n i - i), 0, rn isLt u n i) := by
          unfold tok
          rw [if_neg (by omega), if_neg nd, if_pos hl]
        have b127 : ¬ (rn isLt u n i - i = 1 ∧ u i ≤ 104) → fX10_splitOne_b127 T 3 1 400 (nI i) (nI (u i)) (nI (rn isLt u n i)) S = some (nI (tok u n i).2.2, addT S c (nI (tok u n i).1) (nI (tok u n i).2.1) (nI i)) := by
          intro hno
          rw [et, if_neg hno]
          unfold fX10_splitOne_b127 fX10_splitOne_b128 fX10_splitOne_b148 fX10_splitOne_b162
          rw [if_pos rfl, c_wordIn ht hge hle, b1_q, if_pos rfl, add, b_q]; rfl
        rw [hrun, b1_q, n_sub (by omega)]
        by_cases a3 : rn isLt u n i - i = 1
        · rw [if_pos (show nI (rn isLt u n i - i) = 1 by rw [a3]; rfl)]
          by_cases a4 : 104 < u i
          · rw [if_pos (show 104 < nI (u i) by rw [show (104 : Int32) = nI 104 from rfl, gtc 104 (by omega)]; exact a4)]
            exact b127 (fun q => by have := q.2; omega)
          · rw [if_neg (show ¬ 104 < nI (u i) by rw [show (104 : Int32) = nI 104 from rfl, gtc 104 (by omega)]; exact a4)]
            rw [et, if_pos ⟨a3, by omega⟩]
            unfold fX10_splitOne_b128 fX10_splitOne_b148 fX10_splitOne_b162
            rw [if_neg n10, if_neg n10, show nI (u i) - 97 = nI (u i - 97) from by rw [n_subL (by omega)], add, b_q]; rfl
        · rw [if_neg (show ¬ nI (rn isLt u n i - i) = 1 by rw [show (1 : Int32) = nI 1 from rfl, n_eq (by omega) (by omega)]; exact a3)]
          exact b127 (fun q => a3 q.1)
  unfold fX10_splitOne
  rw [g_in (by omega) (by decide), tn_nI (by omega), hv, let_q]
  by_cases a1 : u i < 48
  · rw [if_pos (show nI (u i) < 48 by rw [show (48 : Int32) = nI 48 from rfl, lt 48 (by omega)]; exact a1)]
    exact lw (fun q => by have := of_decide_eq_true q; omega)
  · rw [if_neg (show ¬ nI (u i) < 48 by rw [show (48 : Int32) = nI 48 from rfl, lt 48 (by omega)]; exact a1)]
    by_cases a2 : 57 < u i
    · rw [if_pos (show 57 < nI (u i) by rw [show (57 : Int32) = nI 57 from rfl, gtc 57 (by omega)]; exact a2)]
      exact lw (fun q => by have := of_decide_eq_true q; omega)
    · rw [if_neg (show ¬ 57 < nI (u i) by rw [show (57 : Int32) = nI 57 from rfl, gtc 57 (by omega)]; exact a2)]
      have hd : isDg (u i) = true := decide_eq_true (by omega)
      have hrun := c_run (T := T) ht (p := isDg) (a := 48) (b := 57) (fun x hx => by
        unfold isDg
        rw [decide_eq_true_iff, show (48 : Int32) = nI 48 from rfl, show (57 : Int32) = nI 57 from rfl, n_lt (by omega) (by omega), n_le (by omega) (by omega)]
        omega) (i := i) (by omega)
      obtain ⟨hge, hle, hdg, -⟩ := rn_spec (p := isDg) (u := u) (n := n) (i := i)
      have hle' := hle (by omega)
      have et : tok u n i = if rn isDg u n i - i ≤ 5 then (31, dgv u i (rn isDg u n i - i), rn isDg u n i) else (32, 0, rn isDg u n i) := by
        unfold tok
        rw [if_neg (by omega), if_pos hd]
      rw [hrun, b1_q, n_sub (by omega)]
      unfold fX10_splitOne_b44 fX10_splitOne_b59 fX10_splitOne_b75
      by_cases a3 : rn isDg u n i - i ≤ 5
      · rw [if_pos (show nI (rn isDg u n i - i) ≤ 5 by rw [show (5 : Int32) = nI 5 from rfl, n_le (by omega) (by omega)]; exact a3), if_pos rfl, if_pos rfl, c_number ht hge hle' a3 (fun j a b => (hdg j a b).2), b1_q, add, b_q, et, if_pos a3]; rfl
      · rw [if_neg (show ¬ nI (rn isDg u n i - i) ≤ 5 by rw [show (5 : Int32) = nI 5 from rfl, n_le (by omega) (by omega)]; exact a3), if_neg n10, if_neg n10, add, b_q, et, if_neg a3]; rfl
theorem c_split (hT : iT T) {S : zS} (ht : txC u n S) : ∃ S' m, fX10_split T 3 1 400 (nI n) S = some ((), S') ∧ S'.2 = S.2 ∧ (∀ a b, ¬ (a = 3 ∧ b = 3) → a ≠ 4 → a ≠ 5 → a ≠ 6 → S'.1 a b = S.1 a b) ∧ (m ≤ n ∧ pl u n m = n ∧ ∀ i, i < m → pl u n i < n) ∧ ∀ i, i ≤ m → S'.1 4 i = nI (tok u n (pl u n i)).1 ∧ S'.1 5 i = nI (tok u n (pl u n i)).2.1 ∧ S'.1 6 i = nI (pl u n i) := by
  have hn := ht.1
  have key : zwp (lp (fun a => fX10_split_l10 T 3 1 400 (nI n) a.1 a.2.1 a.2.2) (0, 0, zI S 3 3 0)) (fun S' => S'.2 = S.2 ∧ (∀ a b, ¬ (a = 3 ∧ b = 3) → a ≠ 4 → a ≠ 5 → a ≠ 6 → S'.1 a b = S.1 a b) ∧ ∃ c, c ≤ n ∧ S'.1 3 3 = nI c ∧ pl u n c = n ∧ (∀ i, i < c → pl u n i < n) ∧ ∀ i, i < c → S'.1 4 i = nI (tok u n (pl u n i)).1 ∧ S'.1 5 i = nI (tok u n (pl u n i)).2.1 ∧ S'.1 6 i = nI (pl u n i)) := by
    refine lp_for (I := fun q a => ∃ (nx c : Nat) (S' : zS), a = (nI nx, nI q, S') ∧ nx ≤ n ∧ c ≤ q ∧ S'.2 = S.2 ∧ (∀ a b, ¬ (a = 3 ∧ b = 3) → a ≠ 4 → a ≠ 5 → a ≠ 6 → S'.1 a b = S.1 a b) ∧ S'.1 3 3 = nI c ∧ pl u n c = skp u n (if q < nx then nx else q) ∧ (∀ i, i < c → pl u n i < n) ∧ ∀ i, i < c → S'.1 4 i = nI (tok u n (pl u n i)).1 ∧ S'.1 5 i = nI (tok u n (pl u n i)).2.1 ∧ S'.1 6 i = nI (pl u n i)) n ?_ ?_ ?_
    · rintro q a hq ⟨nx, c, S', rfl, h1, h2, h3, h4, h5, h6, h7, h8⟩
      left
      show ∃ a', fX10_split_l10 T 3 1 400 (nI n) (nI nx) (nI q) S' = _ ∧ _
      have ht' : txC u n S' := ⟨hn, fun i hi => by rw [h4 1 i (by omega) (by decide) (by decide) (by decide)]; exact ht.2 i hi⟩
      unfold fX10_split_l10 fX10_split_b47
      rw [if_neg (show ¬ nI n ≤ nI q by rw [n_le (by omega) (by omega)]; omega), show Int32.ofNat 400 = nI 400 from rfl, if_neg (show ¬ nI 400 ≤ nI q by rw [n_le (by omega) (by omega)]; omega)]
      by_cases y : q < nx
      · rw [if_pos (show nI q < nI nx by rw [n_lt (by omega) (by omega)]; exact y), let_q, n_addL]
        rw [if_pos y] at h6
        refine ⟨_, rfl, nx, c, S', rfl, h1, by omega, h3, h4, h5, ?_, h7, h8⟩
        by_cases z : q + 1 < nx
        · rw [if_pos z]; exact h6
        · rw [if_neg z, show q + 1 = nx by omega]; exact h6
      · rw [if_neg (show ¬ nI q < nI nx by rw [n_lt (by omega) (by omega)]; exact y), g_in (by omega) (by decide), tn_nI (by omega), (ht'.2 q hq).1]
        rw [if_neg y] at h6
        have h255 := (ht'.2 q hq).2
        by_cases z : u q = 32
        · rw [if_pos (show nI (u q) = 32 by rw [z]; rfl), let_q, n_addL]
          refine ⟨_, rfl, nx, c, S', rfl, h1, by omega, h3, h4, h5, ?_, h7, h8⟩
          rw [if_neg (by omega), h6]
          exact rn_go ⟨hq, decide_eq_true z⟩
        · rw [if_neg (show ¬ nI (u q) = 32 by rw [show (32 : Int32) = nI 32 from rfl, n_eq (by omega) (by omega)]; exact z)]
          have hp : pl u n c = q := by
            rw [h6]
            exact rn_stop (fun w => z (of_decide_eq_true w.2))
          rw [c_splitOne hT ht' h5 (by omega) hq, b_q, let_q, n_addL]
          obtain ⟨a1, a2, a3, a4, a5, a6⟩ := addT_at (S := S') (c := c) (k := nI (tok u n q).1) (v := nI (tok u n q).2.1) (p := nI q)
          obtain ⟨-, -, -, t4, t5, -⟩ := tok_r (u := u) hq
          refine ⟨_, rfl, (tok u n q).2.2, c + 1, _, rfl, t5, by omega, a1.trans h3, fun a b n1 n2 n3 n4 => (a6 a b n1 n2 n3 n4).trans (h4 a b n1 n2 n3 n4), a2, ?_, fun i hi => ?_, fun i hi => ?_⟩
          · rw [pl_S, hp]
            by_cases w : q + 1 < (tok u n q).2.2
            · rw [if_pos w]
            · rw [if_neg w, show q + 1 = (tok u n q).2.2 by omega]
          · by_cases w : i = c
            · rw [w, hp]; exact hq
            · exact h7 i (by omega)
          · rw [a3, a4, a5]
            by_cases w : i = c
            · rw [if_pos w, if_pos w, if_pos w, w, hp]; exact ⟨rfl, rfl, rfl⟩
            · rw [if_neg w, if_neg w, if_neg w]; exact h8 i (by omega)
    · rintro a ⟨nx, c, S', rfl, h1, h2, h3, h4, h5, h6, h7, h8⟩
      refine ⟨S', ?_, h3, h4, c, h2, h5, ?_, h7, h8⟩
      · show fX10_split_l10 T 3 1 400 (nI n) (nI nx) (nI n) S' = _
        unfold fX10_split_l10
        exact if_pos (show nI n ≤ nI n by rw [n_le (by omega) (by omega)]; omega)
      · rw [h6, if_neg (by omega)]
        exact rn_stop (fun w => by have := w.1; omega)
    · refine ⟨0, 0, _, rfl, Nat.zero_le _, Nat.le_refl _, rfl, fun a b n1 _ _ _ => by rw [zI_at, if_neg n1], by rw [zI_eqs]; rfl, ?_, fun i hi => absurd hi (Nat.not_lt_zero _), fun i hi => absurd hi (Nat.not_lt_zero _)⟩
      rw [if_neg (by omega)]; rfl
  obtain ⟨S1, e1, h3, h4, c, h2, h5, h6, h7, h8⟩ := key
  obtain ⟨a1, a2, a3, a4, a5, a6⟩ := addT_at (S := S1) (c := c) (k := 46) (v := 0) (p := nI n)
  refine ⟨addT S1 c 46 0 (nI n), c, ?_, a1.trans h3, fun a b n1 n2 n3 n4 => (a6 a b n1 n2 n3 n4).trans (h4 a b n1 n2 n3 n4), ⟨h2, h6, h7⟩, fun i hi => ?_⟩
  · unfold fX10_split fX10_split_b53
    rw [let_q, e1, b1_q, c_addT hT h5 (by omega), b_q]
  · rw [a3, a4, a5]
    by_cases w : i = c
    · rw [if_pos w, if_pos w, if_pos w, w, h6, tok_end (Nat.le_refl _)]; exact ⟨rfl, rfl, rfl⟩
    · rw [if_neg w, if_neg w, if_neg w]; exact h8 i (by omega)
end
