theorem pc_dif (x y : Int32) : pc x + pc (mi y x) ≤ 8 := by
  unfold pc
  have key : ∀ l : List Nat, (l.filter (fun t => zm x t)).length + (l.filter (fun t => zm (mi y x) t)).length ≤ l.length := by
    intro l
    induction l with
    | nil => exact Nat.le_refl _
    | cons t l ih =>
      have h : zm (mi y x) t = (zm y t && !zm x t) := mi_m
      cases z : zm x t with
      | true =>
        rw [z, Bool.not_true, Bool.and_false] at h
        rw [List.filter_cons_of_pos (by exact z), List.filter_cons_of_neg (by rw [h]; decide)]
        simp only [List.length_cons]; omega
      | false =>
        rw [List.filter_cons_of_neg (by rw [z]; decide)]
        simp only [List.length_cons]
        cases y : zm (mi y x) t with
        | true => rw [List.filter_cons_of_pos (by exact y)]; simp only [List.length_cons]; omega
        | false => rw [List.filter_cons_of_neg (by rw [y]; decide)]; omega
  exact key (List.range 8)
theorem pc_in (B : Bk) (w s : Nat) : pc (nI s) + pc (inS B w s) ≤ 8 := by
  have h := pc_dif (nI s) (mi (bth B) (lsS B w))
  have e : mi (mi (bth B) (lsS B w)) (nI s) = inS B w s := by
    unfold inS mi
    rw [Int32.and_assoc, Int32.and_assoc, Int32.and_comm (lsS B w ^^^ (-1))]
  rwa [e] at h
theorem few : ∀ p, p ≤ 8 → ∀ f, f ≤ 1 → (if nI p - nI f < 0 then (0 : Int32) else nI p - nI f) = nI (p - f) := by decide
theorem c_lostBy {T : zT} (hT : iT T) {B : Bk} {S : zS} (hc : bkC S 7 B) (w : Nat) : fX0_lostBy T 7 (nI w) S = some (lsS B w) := by
  obtain ⟨p, e1, ip, hp⟩ := v_lostBy hT (w := nI w) (S := S)
  rw [e1]
  refine congrArg some (st8_eq ip (fun t ht => ?_))
  rw [hp t ht, bkC_th hc]
  cases z : zm (bth B) t with
  | false => simp
  | true =>
    have e10 : S.1 10 t = B.1 2 t := hc.2.1 t ht z 2 (by decide)
    rw [e10]
    simp
/-- a week's numbers of gain stand -/
def gnAt (S : zS) (B : Bk) (kg f v i : Nat) : Prop := mi (nI i) (bth B) = 0 → (S.1 kg (256 * v + i)).toInt = gnN B v i (pc (inS B v i) - f)
theorem gn_bounds {B : Bk} (hB : okB B) (v i n : Nat) : (brN B 1 (nI v) (nI i) n - brN B 2 (nI v) (nI i) n).toInt = gnN B v i n ∧ -240000 ≤ gnN B v i n ∧ gnN B v i n ≤ 240000 := by
  obtain ⟨a1, a2⟩ : btw (brN B 1 (nI v) (nI i) n) 0 239976 := ern_btw (fil_btw hB (Or.inl rfl)).1 (fil_btw hB (Or.inl rfl)).2
  obtain ⟨a3, a4⟩ : btw (brN B 2 (nI v) (nI i) n) 0 239976 := ern_btw (fil_btw hB (Or.inr rfl)).1 (fil_btw hB (Or.inr rfl)).2
  unfold gnN
  rw [z_sub (by omega) (by omega)]
  omega
theorem v_gains1 {T : zT} (hT : iT T) {B : Bk} (hB : okB B) {kg f w s : Nat} (hf : f ≤ 1) (hw : w < 60) (hs : s ≤ (bth B).toNatClampNeg) {S : zS} (hc : bkC S 7 B) (hh : ∀ h n, h + n ≤ 8 → hAt S (nI w) h n (B.2.filter (ofK 1)) 183 ∧ hAt S (nI w) h n (B.2.filter (ofK 2)) 184) : ∃ S', fX5_fillGains_l37 T 176 kg 15360 (nI f) (nI w) (lsS B w) (nI s) S = some (.inl (nI (s + 1), S')) ∧ oA (fun a => a = kg) S S' ∧ gnAt S' B kg f w s ∧ ∀ j, j ≠ 256 * w + s → S'.1 kg j = S.1 kg j := by
  obtain ⟨eth, hth⟩ := th_n hB
  have e2 : nI w * 256 + nI s = nI (256 * w + s) := by rw [show nI w * 256 = nI (256 * w) from by rw [liq, n_mul, Nat.mul_comm], n_add]
  have hpc := pc_in B w s
  have i1 : is8 (nI s) := is8_nI (by omega)
  have i2 : is8 (inS B w s) := is8_mi (is8_mi hB.1)
  have e9 : nI (pc (nI s)) * 9 + nI (pc (inS B w s) - f) = nI (9 * pc (nI s) + (pc (inS B w s) - f)) := by rw [show nI (pc (nI s)) * 9 = nI (9 * pc (nI s)) from by rw [liq, n_mul, Nat.mul_comm], n_add]
  unfold fX5_fillGains_l37
  rw [zT_176_0 hT, bkC_th hc, eth, if_neg (show ¬ nI _ < nI s by rw [n_lt (by omega) (by omega)]; omega), if_neg (show ¬ 256 ≤ nI s by rw [n_leL (by omega) (by omega)]; omega), ← eth]
  rw [show ((bth B &&& (nI s ^^^ (-1))) &&& (lsS B w ^^^ (-1))) = inS B w s from rfl, v_bitCount i2, b1_q, let_q, v_bitCount i1, b1_q, few _ (by omega) _ hf, let_q, e9, let_q]
  rw [show Int32.ofNat 81 = nI 81 from rfl, if_neg (show ¬ nI 81 ≤ nI _ by rw [n_le (by omega) (by omega)]; omega), c_hasAll hc, b1_q]
  unfold fX5_fillGains_b169
  by_cases z : mi (nI s) (bth B) = 0
  · rw [if_pos z, if_neg (by decide)]
    have hh' := hh (pc (nI s)) (pc (inS B w s) - f) (by omega)
    rw [tn_nI (show 9 * pc (nI s) + (pc (inS B w s) - f) < 2147483648 by omega), zT_176_13 hT, zT_176_14 hT, zT_7_12 hT, zT_7_13 hT, g_in (by omega) (by decide)]
    rw [v_together (kk := 14) (kc := 22) (zT_14_0 hT) (zT_14_1 hT) hc.2.2.1 hh'.1, b1_q, g_in (by omega) (by decide)]
    rw [v_together (kk := 18) (kc := 22) (zT_18_0 hT) (zT_18_1 hT) hc.2.2.2.1 hh'.2, b1_q, e2, g_in (by omega) (by decide), tn_nI (show 256 * w + s < 2147483648 by omega), let_q, let_q, n_addL]
    refine ⟨_, rfl, ⟨fun a b hp => zI_ne hp, fun _ _ _ => rfl⟩, fun _ => ?_, fun j hj => ?_⟩
    · rw [zI_eq, if_pos rfl]
      exact (gn_bounds hB w s (pc (inS B w s) - f)).1
    · rw [zI_eq, if_neg hj]
  · rw [if_neg z, if_pos rfl, let_q, n_addL]
    exact ⟨S, rfl, oA_refl, fun x => absurd x z, fun _ _ => rfl⟩
def pG (kg a : Nat) : Prop := a = 183 ∨ a = 184 ∨ a = kg
theorem gnAt_cg {S S' : zS} {B : Bk} {kg f v i : Nat} (e : S'.1 kg (256 * v + i) = S.1 kg (256 * v + i)) (h : gnAt S B kg f v i) : gnAt S' B kg f v i := fun z => by rw [e]; exact h z
theorem bw_n {B : Bk} (hB : okB B) : B.1 6 1 = nI (bw B) ∧ 1 ≤ bw B ∧ bw B ≤ 60 := by
  obtain ⟨h1, h2⟩ := hB.2.2.1
  unfold bw
  have h3 := z_tn (show 0 ≤ (B.1 6 1).toInt by omega)
  exact ⟨(nI_n (by omega)).symm, by omega, by omega⟩
theorem v_fillGains {T : zT} (hT : iT T) {B : Bk} (hB : okB B) {kg f : Nat} (hf : f ≤ 1) (hkg : 176 < kg ∧ kg < 183) {S : zS} (hc : bkC S 7 B) : ∃ S', fX5_fillGains T 176 kg 15360 (nI f) S = some ((), S') ∧ oA (pG kg) S S' ∧ ∀ w i, w < bw B → i < 256 → gnAt S' B kg f w i := by
  obtain ⟨eth, hth⟩ := th_n hB
  obtain ⟨ebw, b1, b2⟩ := bw_n hB
  have bk : ∀ {S'}, oA (pG kg) S S' → bkC S' 7 B := fun ho => bkC_cg (fun a b _ _ => ho.1 a b (by unfold pG; omega)) hc
  have over : ∀ {S' w i}, (bth B).toNatClampNeg < i → i < 256 → gnAt S' B kg f w i := by
    intro S' w i h1 h2 h3
    have := mi_le hB h2 h3
    omega
  have key : zwp (lp (fun a => fX5_fillGains_l2 T 176 kg 15360 (nI f) a.1 a.2) (0, S)) (fun S' => oA (pG kg) S S' ∧ ∀ w i, w < bw B → i < 256 → gnAt S' B kg f w i) := by
    refine lp_for (I := fun m a => ∃ S', a = (nI m, S') ∧ oA (pG kg) S S' ∧ ∀ w i, w < m → i < 256 → gnAt S' B kg f w i) (bw B) ?_ ?_ ?_
    · rintro m a hm ⟨S', rfl, h1, h2⟩
      left
      have hc' := bk h1
      obtain ⟨S5, e5, o5, q5⟩ := v_fillHolding hT (w := m) hc'
      have o5' : oA (pG kg) S S5 := oA_trans h1 (oA_mono o5 (fun a h => by unfold pEN at h; unfold pG; omega))
      have k5 : ∀ j, S5.1 kg j = S'.1 kg j := fun j => o5.1 _ _ (by unfold pEN; omega)
      have key2 : zwp (lp (fun a => fX5_fillGains_l37 T 176 kg 15360 (nI f) (nI m) (lsS B m) a.1 a.2) (0, S5)) (fun S'' => oA (pG kg) S S'' ∧ ∀ w i, w < m + 1 → i < 256 → gnAt S'' B kg f w i) := by
        refine lp_for (I := fun j a => ∃ S'', a = (nI j, S'') ∧ oA (fun a => a = kg) S5 S'' ∧ ∀ w i, w < m ∨ w = m ∧ i < j → i < 256 → gnAt S'' B kg f w i) ((bth B).toNatClampNeg + 1) ?_ ?_ ?_
        · rintro j a hj ⟨S'', rfl, h3, h4⟩
          left
          obtain ⟨S6, e, q1, q2, q3⟩ := v_gains1 hT hB (kg := kg) (f := f) (w := m) (s := j) hf (by omega) (by omega) (bk (oA_trans o5' (oA_mono h3 (fun a h => Or.inr (Or.inr h))))) (fun h n hn => ⟨hAt_cg (h3.1 _ _ (by omega)) (q5 h n hn).1, hAt_cg (h3.1 _ _ (by omega)) (q5 h n hn).2⟩)
          refine ⟨_, e, S6, rfl, oA_trans h3 q1, fun w i hh hi => ?_⟩
          by_cases z : w = m ∧ i = j
          · obtain ⟨rfl, rfl⟩ := z; exact q2
          · exact gnAt_cg (q3 _ (by omega)) (h4 w i (by omega) hi)
        · rintro a ⟨S'', rfl, h3, h4⟩
          have o3 : oA (pG kg) S S'' := oA_trans o5' (oA_mono h3 (fun a h => Or.inr (Or.inr h)))
          refine ⟨S'', ?_, o3, fun w i hh hi => ?_⟩
          · show fX5_fillGains_l37 T 176 kg 15360 (nI f) (nI m) (lsS B m) (nI ((bth B).toNatClampNeg + 1)) S'' = _
            unfold fX5_fillGains_l37
            rw [zT_176_0 hT, bkC_th (bk o3), if_pos (th_lt hB)]
          · by_cases z : w = m ∧ (bth B).toNatClampNeg < i
            · exact over z.2 hi
            · exact h4 w i (by omega) hi
        · exact ⟨S5, rfl, oA_refl, fun w i hh hi => gnAt_cg (k5 _) (h2 w i (by omega) hi)⟩
      obtain ⟨S'', e, q1, q2⟩ := key2
      refine ⟨(nI (m + 1), S''), ?_, S'', rfl, q1, q2⟩
      show fX5_fillGains_l2 T 176 kg 15360 (nI f) (nI m) S' = _
      unfold fX5_fillGains_l2 fX5_fillGains_b175
      rw [zT_176_0 hT, hc'.1 1 (by decide), ebw, if_neg (show ¬ nI (bw B) ≤ nI m by rw [n_le (by omega) (by omega)]; omega), if_neg (show ¬ 60 ≤ nI m by rw [n_leL (by omega) (by omega)]; omega), e5, b_q, c_lostBy hT (bk o5'), b1_q, e, b1_q, let_q, n_addL]
    · rintro a ⟨S', rfl, h1, h2⟩
      refine ⟨S', ?_, h1, h2⟩
      show fX5_fillGains_l2 T 176 kg 15360 (nI f) (nI (bw B)) S' = _
      unfold fX5_fillGains_l2
      rw [zT_176_0 hT, (bk h1).1 1 (by decide), ebw, if_pos (show nI (bw B) ≤ nI (bw B) by rw [n_le (by omega) (by omega)]; omega)]
    · exact ⟨S, rfl, oA_refl, fun w i hh => absurd hh (Nat.not_lt_zero _)⟩
  obtain ⟨S', e, q⟩ := key
  refine ⟨S', ?_, q⟩
  unfold fX5_fillGains fX5_fillGains_b181
  rw [e, b1_q]
