/-! A WEEK PASSED, by the class -/
/-- the row at cell k holds these numbers -/
def isLn (S : zS) (k : Nat) (f : Nat → Int) : Prop := ∀ s, s < 256 → (S.1 k s).toInt = f s
/-- numbers of coin: none below -1, of things alone, no more than c -/
def okLn (B : Bk) (c : Int) (f : Nat → Int) : Prop := ∀ s, s < 256 → -1 ≤ f s ∧ f s ≤ c ∧ (0 ≤ f s → mi (nI s) (bth B) = 0)
theorem isLn_o {S S' : zS} {k k' : Nat} {f : Nat → Int} (h : isLn S k f) (ho : onlyI S S' k') (hk : k ≠ k') : isLn S' k f := fun s hs => by rw [ho.2 _ _ hk]; exact h s hs
theorem v_start {T : zT} {k : Nat} {h c : Int32} {S : zS} : ∃ S', fX5_start T k 256 h c S = some ((), S') ∧ onlyI S S' k ∧ ∀ s, s < 256 → S'.1 k s = if nI s = h then c else -1 := by
  have key : zwp (lp (fun a => fX5_start_l2 T k 256 h c a.1 a.2) (0, S)) (fun S' => onlyI S S' k ∧ ∀ s, s < 256 → S'.1 k s = if nI s = h then c else -1) := by
    refine lp_for (I := fun n a => ∃ S', a = (nI n, S') ∧ onlyI S S' k ∧ ∀ s, s < n → S'.1 k s = if nI s = h then c else -1) 256 ?_ ?_ ?_
    · rintro n a hn ⟨S', rfl, h1, h2⟩
      left
      have fin : ∀ v, v = (if nI n = h then c else -1) → ∃ a', fX5_start_b20 T k 256 h c (nI n) v (nI n) k 256 S' = some (.inl a') ∧ ∃ S'', a' = (nI (n + 1), S'') ∧ onlyI S S'' k ∧ ∀ s, s < n + 1 → S''.1 k s = if nI s = h then c else -1 := by
        intro v hv
        unfold fX5_start_b20
        rw [g_in hn (by decide), let_q, let_q, n_addL, tn_nI (by omega)]
        refine ⟨_, rfl, _, rfl, onlyI_z h1, fun s hs => ?_⟩
        rw [zI_eq]
        by_cases z : s = n
        · rw [if_pos z, z]; exact hv
        · rw [if_neg z]; exact h2 s (by omega)
      show ∃ a', fX5_start_l2 T k 256 h c (nI n) S' = _ ∧ _
      unfold fX5_start_l2
      rw [show Int32.ofNat 256 = nI 256 from rfl, if_neg (show ¬ nI 256 ≤ nI n by rw [n_le (by omega) (by omega)]; omega)]
      by_cases z : nI n = h
      · rw [if_pos z]; exact fin c (by rw [if_pos z])
      · rw [if_neg z]; exact fin (-1) (by rw [if_neg z])
    · rintro a ⟨S', rfl, h1, h2⟩
      refine ⟨S', ?_, h1, h2⟩
      show fX5_start_l2 T k 256 h c (nI 256) S' = _
      unfold fX5_start_l2
      exact if_pos (show nI 256 ≤ nI 256 by rw [n_le (by omega) (by omega)]; omega)
    · exact ⟨S, rfl, onlyI_refl, fun s hs => absurd hs (Nat.not_lt_zero _)⟩
  obtain ⟨S', e, q⟩ := key
  refine ⟨S', ?_, q⟩
  unfold fX5_start
  rw [e, b1_q]
/-- one thing fetched from anywhere -/
def upF (f : Nat → Int) (o : Int) (t s : Nat) : Int := if s.testBit t = true then if o ≤ f (s - 2 ^ t) then (if f s < f (s - 2 ^ t) - o then f (s - 2 ^ t) - o else f s) else f s else f s
theorem bit_le : ∀ s, s < 256 → ∀ t, t < 8 → s.testBit t = true → 2 ^ t ≤ s := fun s hs t ht h => (bit_off s hs t ht h).1
theorem th_lt {B : Bk} (hB : okB B) : bth B < nI ((bth B).toNatClampNeg + 1) := by
  have h1 := is8_val hB.1
  have h2 := z_tn h1.1
  rw [z_lt, nI_toInt (by omega)]
  omega
theorem v_fetchAnywhere {T : zT} (hT : iT T) {B : Bk} (hB : okB B) {k t : Nat} (hk : 166 ≤ k) (ht : t < 8) {o : Int32} {f : Nat → Int} {c : Int} (hc0 : c < 2147483648) (ho : 1 ≤ o.toInt) {S : zS} (hc : bkC S 7 B) (hf : isLn S k f) (hok : okLn B c f) : ∃ S', fX5_fetchAnywhere T 176 k 256 (1 <<< (nI t &&& 31)) o S = some ((), S') ∧ onlyI S S' k ∧ isLn S' k (upF f o.toInt t) := by
  obtain ⟨eth, hth⟩ := th_n hB
  have key : zwp (lp (fun a => fX5_fetchAnywhere_l3 T 176 k 256 (1 <<< (nI t &&& 31)) o a.1 a.2) (0, S)) (fun S' => onlyI S S' k ∧ isLn S' k (upF f o.toInt t)) := by
    refine lp_for (I := fun n a => ∃ S', a = (nI n, S') ∧ onlyI S S' k ∧ ∀ s, s < 256 → (S'.1 k s).toInt = if s.testBit t = true ∧ s - 2 ^ t < n then upF f o.toInt t s else f s) ((bth B).toNatClampNeg + 1) ?_ ?_ ?_
    · rintro n a hn ⟨S', rfl, h1, h2⟩
      left
      show ∃ a', fX5_fetchAnywhere_l3 T 176 k 256 (1 <<< (nI t &&& 31)) o (nI n) S' = _ ∧ _
      obtain ⟨bs1, bs2⟩ := bit_set n (by omega) t ht
      unfold fX5_fetchAnywhere_l3 fX5_fetchAnywhere_b69
      rw [zT_176_0 hT, h1.2 7 0 (by omega), bkC_th hc, eth, if_neg (by rw [n_lt (by omega) (by omega)]; omega), if_neg (by rw [n_leL (by omega) (by omega)]; omega), let_q, bs1]
      have same : ∀ m : Nat, (∀ s, s < 256 → s.testBit t = true → s - 2 ^ t = n → upF f o.toInt t s = f s) → ∀ s, s < 256 → (S'.1 k s).toInt = if s.testBit t = true ∧ s - 2 ^ t < n + 1 then upF f o.toInt t s else f s := by
        intro _ hm s hs
        rw [h2 s hs]
        by_cases z : s.testBit t = true ∧ s - 2 ^ t < n
        · rw [if_pos z, if_pos ⟨z.1, by omega⟩]
        · rw [if_neg z]
          by_cases y : s.testBit t = true ∧ s - 2 ^ t < n + 1
          · have h7 : ¬ s - 2 ^ t < n := fun x => z ⟨y.1, x⟩
            rw [if_pos y, hm s hs y.1 (by have := y.2; omega)]
          · rw [if_neg y]
      cases hb : n.testBit t with
      | true =>
        rw [if_pos (show nI (if true = true then n else n + 2 ^ t) = nI n by rw [if_pos rfl]), let_q, n_addL]
        refine ⟨_, rfl, S', rfl, h1, same 0 (fun s hs h3 h4 => ?_)⟩
        have := (bit_off s hs t ht h3).2.2.1
        rw [h4, hb] at this; cases this
      | false =>
        obtain ⟨bo1, bo2⟩ := bit_on n (by omega) t ht hb
        have hpos : 0 < 2 ^ t := Nat.pow_pos (by decide)
        have he : (if false = true then n else n + 2 ^ t) = n + 2 ^ t := if_neg (by decide)
        rw [he, if_neg (by rw [n_eq (by omega) (by omega)]; omega), if_neg (by rw [n_leL (by omega) (by omega)]; omega), g_in (by omega) (by decide), tn_nI (show n < 2147483648 by omega)]
        have hn2 : (S'.1 k n).toInt = f n := by rw [h2 n (by omega), if_neg (fun z => by rw [hb] at z; cases z.1)]
        have ht2 : (S'.1 k (n + 2 ^ t)).toInt = f (n + 2 ^ t) := by rw [h2 _ bo1, if_neg (fun z => by have := z.2; omega)]
        by_cases q : S'.1 k n < o
        · rw [if_pos q, let_q, n_addL]
          refine ⟨_, rfl, S', rfl, h1, same 0 (fun s hs h3 h4 => ?_)⟩
          unfold upF
          have := z_lt.mp q
          rw [if_pos h3, h4, if_neg (by omega)]
        · rw [if_neg q]
          have q' := z_le.mp (z_nlt q)
          have hokn := hok n (by omega)
          have hokt := hok _ bo1
          simp only [g_in (show n + 2 ^ t < 256 by omega) (show 256 < 2147483648 by decide), g_in (show n < 256 by omega) (show 256 < 2147483648 by decide), let_q, n_addL, tn_nI (show n + 2 ^ t < 2147483648 by omega)]
          have e1 : (S'.1 k n - o).toInt = f n - o.toInt := by rw [z_sub (by omega) (by omega), hn2]
          refine ⟨_, rfl, _, rfl, onlyI_z h1, fun s hs => ?_⟩
          rw [zI_eq]
          by_cases z : s = n + 2 ^ t
          · subst z
            have hU : upF f o.toInt t (n + 2 ^ t) = if f (n + 2 ^ t) < f n - o.toInt then f n - o.toInt else f (n + 2 ^ t) := by
              unfold upF
              rw [if_pos bo2, show n + 2 ^ t - 2 ^ t = n by omega, if_pos (show o.toInt ≤ f n by omega)]
            rw [if_pos (show n + 2 ^ t = n + 2 ^ t from rfl), if_pos (show (n + 2 ^ t).testBit t = true ∧ n + 2 ^ t - 2 ^ t < n + 1 from ⟨bo2, by omega⟩), hU]
            by_cases y : S'.1 k (n + 2 ^ t) < S'.1 k n - o
            · have := z_lt.mp y
              rw [if_pos y, e1, if_pos (show f (n + 2 ^ t) < f n - o.toInt by omega)]
            · have := z_le.mp (z_nlt y)
              rw [if_neg y, ht2, if_neg (show ¬ f (n + 2 ^ t) < f n - o.toInt by omega)]
          · rw [if_neg z, h2 s hs]
            by_cases y : s.testBit t = true ∧ s - 2 ^ t < n
            · rw [if_pos y, if_pos ⟨y.1, by omega⟩]
            · have h8 : ¬ (s.testBit t = true ∧ s - 2 ^ t < n + 1) := by
                intro x
                have h5 := (bit_off s hs t ht x.1).1
                have h6 : ¬ s - 2 ^ t < n := fun v => y ⟨x.1, v⟩
                have h7 := x.2
                omega
              rw [if_neg y, if_neg h8]
    · rintro a ⟨S', rfl, h1, h2⟩
      refine ⟨S', ?_, h1, fun s hs => ?_⟩
      · show fX5_fetchAnywhere_l3 T 176 k 256 _ o (nI ((bth B).toNatClampNeg + 1)) S' = _
        unfold fX5_fetchAnywhere_l3
        rw [zT_176_0 hT, h1.2 7 0 (by omega), bkC_th hc, if_pos (th_lt hB)]
      · rw [h2 s hs]
        by_cases y : s.testBit t = true ∧ s - 2 ^ t < (bth B).toNatClampNeg + 1
        · rw [if_pos y]
        · rw [if_neg y]
          unfold upF
          by_cases z : s.testBit t = true
          · rw [if_pos z, if_neg]
            intro hle
            have hs2 := (bit_off s hs t ht z).2.1
            have := mi_le hB hs2 ((hok _ hs2).2.2 (by omega))
            exact y ⟨z, by omega⟩
          · rw [if_neg z]
    · exact ⟨S, rfl, onlyI_refl, fun s hs => by rw [if_neg (fun z => Nat.not_lt_zero _ z.2)]; exact hf s hs⟩
  obtain ⟨S', e, q⟩ := key
  refine ⟨S', ?_, q⟩
  unfold fX5_fetchAnywhere fX5_fetchAnywhere_b75
  rw [e, b1_q]
/-- the whole week: any things in it fetched, then the gain -/
theorem owI_e {B : Bk} (hB : okB B) {t w : Nat} (ht : t < 8) (hz : zm (bth B) t = true) (hw : w < 61) : (B.1 0 t + B.1 1 t * nI w).toInt = owI B w t ∧ 1 ≤ owI B w t ∧ owI B w t ≤ 100000 := by
  obtain ⟨⟨a1, a2⟩, ⟨a3, a4⟩, -⟩ := hB.2.1 t ht hz
  have ew : (nI w).toInt = w := nI_toInt (by omega)
  have hm : 0 ≤ (B.1 1 t).toInt * (w : Int) ∧ (B.1 1 t).toInt * (w : Int) ≤ 999 * 60 := ⟨Int.mul_nonneg a3 (by omega), Int.mul_le_mul a4 (by omega) (by omega) (by decide)⟩
  have e2 : (B.1 1 t * nI w).toInt = (B.1 1 t).toInt * (w : Int) := by rw [z_mul (by rw [ew]; omega) (by rw [ew]; omega), ew]
  unfold owI
  rw [z_add (by rw [e2]; omega) (by rw [e2]; omega), e2]
  omega
theorem okLn_pst {B : Bk} {c : Int} {f : Nat → Int} (hB : okB B) (h : okLn B c f) {inn : Int32} {w : Nat} (hw : w < 61) (hi : ∀ t, t < 8 → zm inn t = true → zm (bth B) t = true) : okLn B c (pst f inn (owI B w)) := by
  intro s hs
  refine ⟨bst_m1 _ _, ?_, ?_⟩
  · rcases bst_at (cdP f inn (owI B w) s) 256 with q | ⟨fr, hfr, q⟩
    · unfold pst; rw [q]; have := h s hs; omega
    · unfold pst
      rw [q, cdP_m hs hfr]
      have h1 := h fr hfr
      by_cases z : 0 ≤ f fr ∧ (∀ t, t < 8 → fr.testBit t = true → s.testBit t = true) ∧ (∀ t, t < 8 → s.testBit t = true → fr.testBit t = false → zm inn t = true) ∧ cs8 (owI B w) (mi (nI s) (nI fr)) ≤ f fr
      · rw [if_pos z]
        have : 0 ≤ cs8 (owI B w) (mi (nI s) (nI fr)) := cst_nn (fun t ht hz => by
          rw [mi_m, zm_nat hs, zm_nat hfr] at hz
          have h2 := z.2.2.1 t ht (by cases x : s.testBit t <;> simp_all) (by cases x : fr.testBit t <;> simp_all)
          have := (owI_e hB ht (hi t ht h2) hw).2.1
          omega) 8 (Nat.le_refl _)
        omega
      · rw [if_neg z]; omega
  · intro h0
    rcases bst_at (cdP f inn (owI B w) s) 256 with q | ⟨fr, hfr, q⟩
    · unfold pst at h0; omega
    · unfold pst at h0
      rw [q, cdP_m hs hfr] at h0
      by_cases z : 0 ≤ f fr ∧ (∀ t, t < 8 → fr.testBit t = true → s.testBit t = true) ∧ (∀ t, t < 8 → s.testBit t = true → fr.testBit t = false → zm inn t = true) ∧ cs8 (owI B w) (mi (nI s) (nI fr)) ≤ f fr
      · rw [mi0 (is8_nI hs)]
        intro t ht hz
        rw [zm_nat hs] at hz
        cases x : fr.testBit t with
        | true =>
          have h1 := (h fr hfr).2.2 z.1
          rw [mi0 (is8_nI hfr)] at h1
          exact h1 t ht (by rw [zm_nat hfr]; exact x)
        | false => exact hi t ht (z.2.2.1 t ht hz x)
      · rw [if_neg z] at h0; omega
theorem adI_nn {x d : Int} (h : 0 ≤ adI x d) : 0 ≤ x ∧ adI x d = x + d := by
  unfold adI at h ⊢
  split at h
  · omega
  · split at h
    · omega
    · rename_i h1 h2
      rw [if_neg h1, if_neg h2]; omega
theorem okLn_stp {B : Bk} {c G : Int} {f g : Nat → Int} (hB : okB B) (h : okLn B c f) {inn : Int32} {w : Nat} (hw : w < 61) (hG0 : 0 ≤ G) (hi : ∀ t, t < 8 → zm inn t = true → zm (bth B) t = true) (hg : ∀ s, s < 256 → 0 ≤ pst f inn (owI B w) s → g s ≤ G) : okLn B (c + G) (stp f inn (owI B w) g) := by
  intro s hs
  have h1 := okLn_pst hB h hw hi s hs
  have h2 := hg s hs
  refine ⟨adI_m1, ?_, fun h0 => h1.2.2 (adI_nn h0).1⟩
  unfold stp adI
  split
  · omega
  · split <;> omega
theorem v_pass {T : zT} (hT : iT T) {B : Bk} (hB : okB B) {k kg w : Nat} (hk : 166 ≤ k) (hkg : k ≠ kg) (hw : w < 60) {bar : Int32} {f g : Nat → Int} {c : Int} (hc0 : c + 240000 < 2147483648) {S : zS} (hc : bkC S 7 B) (hf : isLn S k f) (hok : okLn B c f) (hg : ∀ s, s < 256 → mi (nI s) (bth B) = 0 → (0 ≤ pst f (mi (mi (bth B) (lsS B w)) bar) (owI B w) s) → (S.1 kg (256 * w + s)).toInt = g s ∧ -240000 ≤ g s ∧ g s ≤ 240000) : ∃ S', fX5_pass T 176 k 256 (nI w) bar kg 15360 S = some ((), S') ∧ onlyI S S' k ∧ isLn S' k (stp f (mi (mi (bth B) (lsS B w)) bar) (owI B w) g) := by
  obtain ⟨eth, hth⟩ := th_n hB
  obtain ⟨p, e1, ip, hp⟩ := v_lostBy hT (w := nI w) (S := S)
  have ep : p = lsS B w := by
    refine st8_eq ip (fun t ht => ?_)
    rw [hp t ht, bkC_th hc]
    cases z : zm (bth B) t with
    | false => simp
    | true =>
      have e10 : S.1 10 t = B.1 2 t := hc.2.1 t ht z 2 (by decide)
      rw [e10]
      simp
  have einn : (bth B &&& (lsS B w ^^^ (-1))) &&& (bar ^^^ (-1)) = mi (mi (bth B) (lsS B w)) bar := rfl
  generalize hinn : mi (mi (bth B) (lsS B w)) bar = inn at *
  have hi8 : is8 inn := by rw [← hinn]; exact is8_mi (is8_mi hB.1)
  have hi : ∀ t, t < 8 → zm inn t = true → zm (bth B) t = true := by
    intro t ht hz
    rw [← hinn, mi_m, mi_m] at hz
    cases x : zm (bth B) t with
    | true => rfl
    | false => rw [x, Bool.false_and, Bool.false_and] at hz; cases hz
  have hik : ∀ n t, t < 8 → zm (inK inn n) t = true → zm (bth B) t = true := by
    intro n t ht hz
    rw [inK_m ht] at hz
    refine hi t ht ?_
    cases x : zm inn t with
    | true => rfl
    | false => rw [x, Bool.false_and] at hz; cases hz
  -- thing by thing
  have key : zwp (lp (fun a => fX5_pass_l27 T 176 k 256 (nI w) kg 15360 inn a.1 a.2) (0, S)) (fun S' => onlyI S S' k ∧ isLn S' k (pst f inn (owI B w))) := by
    refine lp_for (I := fun n a => ∃ S', a = (nI n, S') ∧ onlyI S S' k ∧ isLn S' k (pst f (inK inn n) (owI B w))) 8 ?_ ?_ ?_
    · rintro n a hn ⟨S', rfl, h1, h2⟩
      left
      show ∃ a', fX5_pass_l27 T 176 k 256 (nI w) kg 15360 inn (nI n) S' = _ ∧ _
      unfold fX5_pass_l27 fX5_pass_b63
      rw [if_neg (by rw [n_leL (by omega) (by omega)]; omega)]
      have hc' : bkC S' 7 B := bkC_cg (fun a b _ _ => h1.2 a b (by omega)) hc
      cases z : zm inn n with
      | false =>
        rw [if_pos ((m_sh0 (by omega)).mpr z), let_q, n_addL]
        refine ⟨_, rfl, S', rfl, h1, fun s hs => ?_⟩
        rw [h2 s hs]
        refine pst_same hs (fun t ht => ?_)
        rw [inK_m ht, inK_m ht]
        by_cases y : t = n
        · subst y; rw [z]; rfl
        · by_cases v : t < n
          · rw [decide_eq_true v, decide_eq_true (show t < n + 1 by omega)]
          · rw [decide_eq_false v, decide_eq_false (show ¬ t < n + 1 by omega)]
      | true =>
        have hth' := hi n hn z
        obtain ⟨o1, o2, o3⟩ := owI_e hB hn hth' (show w < 61 by omega)
        obtain ⟨S11, q1, q2, q3⟩ := v_fetchAnywhere hT hB hk hn (o := B.1 0 n + B.1 1 n * nI w) (c := c) (by omega) (by omega) hc' h2 (okLn_pst hB hok (by omega) (hik n))
        rw [if_neg (fun y => by rw [m_sh0 (by omega), z] at y; cases y), zT_176_0 hT, c_firstOwed hT hc' hn hth', b1_q, q1, b_q, let_q, n_addL]
        refine ⟨_, rfl, S11, rfl, ⟨q2.1.trans h1.1, fun a b n => (q2.2 a b n).trans (h1.2 a b n)⟩, fun s hs => ?_⟩
        rw [q3 s hs, o1, pst_S (inn := inK inn n) (inn' := inK inn (n + 1)) hn hs (by omega) (fun t ht hne => ?_) (by rw [inK_m hn, decide_eq_false (Nat.lt_irrefl _), Bool.and_false]) (by rw [inK_m hn, z, decide_eq_true (by omega : n < n + 1)]; rfl)]
        · rfl
        · rw [inK_m ht, inK_m ht]
          by_cases v : t < n
          · rw [decide_eq_true v, decide_eq_true (show t < n + 1 by omega)]
          · rw [decide_eq_false v, decide_eq_false (show ¬ t < n + 1 by omega)]
    · rintro a ⟨S', rfl, h1, h2⟩
      refine ⟨S', ?_, h1, fun s hs => ?_⟩
      · show fX5_pass_l27 T 176 k 256 (nI w) kg 15360 inn (nI 8) S' = _
        unfold fX5_pass_l27
        exact if_pos (show (8 : Int32) ≤ nI 8 by decide)
      · rw [h2 s hs]
        refine pst_same hs (fun t ht => ?_)
        rw [inK_m ht, decide_eq_true ht, Bool.and_true]
    · refine ⟨S, rfl, onlyI_refl, fun s hs => ?_⟩
      rw [hf s hs, pst_0 hs (hok s hs).1 (fun t ht => by rw [inK_m ht, decide_eq_false (Nat.not_lt_zero _), Bool.and_false])]
  obtain ⟨S12, e2, h1, h2⟩ := key
  have hpo := okLn_pst hB hok (show w < 61 by omega) hi
  -- the gain
  have e256 : nI w * 256 = nI (256 * w) := by rw [liq, n_mul, Nat.mul_comm]
  have hc12 : bkC S12 7 B := bkC_cg (fun a b _ _ => h1.2 a b (by omega)) hc
  have key2 : zwp (lp (fun a => fX5_pass_l79 T 176 k 256 kg 15360 (nI (256 * w)) a.1 a.2) (0, S12)) (fun S' => onlyI S S' k ∧ isLn S' k (stp f inn (owI B w) g)) := by
    refine lp_for (I := fun n a => ∃ S', a = (nI n, S') ∧ onlyI S S' k ∧ ∀ s, s < 256 → (S'.1 k s).toInt = if s < n then stp f inn (owI B w) g s else pst f inn (owI B w) s) ((bth B).toNatClampNeg + 1) ?_ ?_ ?_
    · rintro n a hn ⟨S', rfl, h3, h4⟩
      left
      show ∃ a', fX5_pass_l79 T 176 k 256 kg 15360 (nI (256 * w)) (nI n) S' = _ ∧ _
      unfold fX5_pass_l79 fX5_pass_b138
      rw [zT_176_0 hT, h3.2 7 0 (by omega), bkC_th hc, eth, if_neg (by rw [n_lt (by omega) (by omega)]; omega), if_neg (by rw [n_leL (by omega) (by omega)]; omega), n_add, show Int32.ofNat 15360 = nI 15360 from rfl, if_neg (by rw [n_le (by omega) (by omega)]; omega), g_in (by omega) (by decide), tn_nI (show n < 2147483648 by omega)]
      have hn4 : (S'.1 k n).toInt = pst f inn (owI B w) n := by rw [h4 n (by omega), if_neg (Nat.lt_irrefl _)]
      by_cases q : S'.1 k n < 0
      · have q' : (S'.1 k n).toInt < 0 := z_lt.mp q
        rw [if_pos q, let_q, n_addL]
        refine ⟨_, rfl, S', rfl, h3, fun s hs => ?_⟩
        rw [h4 s hs]
        by_cases z : s = n
        · subst z
          rw [if_neg (Nat.lt_irrefl _), if_pos (show s < s + 1 by omega)]
          unfold stp adI
          rw [if_pos (show pst f inn (owI B w) s < 0 by omega)]
          have := (hpo s hs).1
          omega
        · by_cases y : s < n
          · rw [if_pos y, if_pos (show s < n + 1 by omega)]
          · rw [if_neg y, if_neg (show ¬ s < n + 1 by omega)]
      · have q' : 0 ≤ (S'.1 k n).toInt := z_le.mp (z_nlt q)
        rw [if_neg q]
        simp only [g_in (show n < 256 by omega) (show 256 < 2147483648 by decide), g_in (show 256 * w + n < 15360 by omega) (show 15360 < 2147483648 by decide), let_q, n_addL, tn_nI (show 256 * w + n < 2147483648 by omega)]
        have hpn := hpo n (by omega)
        obtain ⟨g1, g2, g3⟩ := hg n (by omega) (hpn.2.2 (by omega)) (by omega)
        have eg : S'.1 kg (256 * w + n) = S.1 kg (256 * w + n) := h3.2 _ _ (by omega)
        have ea : (S'.1 k n + S'.1 kg (256 * w + n)).toInt = pst f inn (owI B w) n + g n := by rw [eg, z_add (by rw [g1]; omega) (by rw [g1]; omega), g1, hn4]
        refine ⟨_, rfl, _, rfl, onlyI_z h3, fun s hs => ?_⟩
        rw [zI_eq]
        by_cases z : s = n
        · subst z
          rw [if_pos rfl, if_pos (show s < s + 1 by omega)]
          have hU : stp f inn (owI B w) g s = if pst f inn (owI B w) s + g s < 0 then -1 else pst f inn (owI B w) s + g s := by
            unfold stp adI
            rw [if_neg (show ¬ pst f inn (owI B w) s < 0 by omega)]
          rw [hU]
          by_cases y : -1 < S'.1 k s + S'.1 kg (256 * w + s)
          · have y' : (-1 : Int) < _ := z_lt.mp y
            rw [if_pos y, ea, if_neg (show ¬ pst f inn (owI B w) s + g s < 0 by omega)]
          · have y' : _ ≤ (-1 : Int) := z_le.mp (z_nlt y)
            rw [if_neg y, if_pos (show pst f inn (owI B w) s + g s < 0 by omega)]; rfl
        · rw [if_neg z, h4 s hs]
          by_cases y : s < n
          · rw [if_pos y, if_pos (show s < n + 1 by omega)]
          · rw [if_neg y, if_neg (show ¬ s < n + 1 by omega)]
    · rintro a ⟨S', rfl, h3, h4⟩
      refine ⟨S', ?_, h3, fun s hs => ?_⟩
      · show fX5_pass_l79 T 176 k 256 kg 15360 (nI (256 * w)) (nI ((bth B).toNatClampNeg + 1)) S' = _
        unfold fX5_pass_l79
        rw [zT_176_0 hT, h3.2 7 0 (by omega), bkC_th hc, if_pos (th_lt hB)]
      · rw [h4 s hs]
        by_cases y : s < (bth B).toNatClampNeg + 1
        · rw [if_pos y]
        · rw [if_neg y]
          have h5 := hpo s hs
          have : pst f inn (owI B w) s < 0 := by
            apply Classical.byContradiction
            intro z
            have := mi_le hB hs (h5.2.2 (by omega))
            omega
          unfold stp adI
          rw [if_pos this]; omega
    · exact ⟨S12, rfl, h1, fun s hs => by rw [if_neg (Nat.not_lt_zero _)]; exact h2 s hs⟩
  obtain ⟨S', e3, q⟩ := key2
  refine ⟨S', ?_, q⟩
  unfold fX5_pass fX5_pass_b144
  rw [zT_176_0 hT, e1, b1_q, let_q, bkC_th hc, ep, einn, e2, b1_q, let_q, e256, e3, b1_q]
