/-! surely -/
def chn (luck x : Int32) : Nat → Int64
  | 0 => 1000000000
  | n + 1 => chn luck x n * (if zm x n = true then luck else 1000 - luck).toInt64 / 1000
theorem l_mul {x y : Int64} (h1 : -9223372036854775808 ≤ x.toInt * y.toInt) (h2 : x.toInt * y.toInt < 9223372036854775808) : (x * y).toInt = x.toInt * y.toInt := by
  rw [Int64.toInt_mul]
  simp only [Int.bmod_def]
  omega
theorem l_div {x : Int64} (h : 0 ≤ x.toInt) : (x / 1000).toInt = x.toInt / 1000 := by
  rw [Int64.toInt_div_of_ne_right _ _ (by decide)]
  show x.toInt.tdiv 1000 = _
  exact Int.tdiv_eq_ediv_of_nonneg h
theorem chn_btw {luck x : Int32} (hl : btw luck 0 1000) : ∀ n, 0 ≤ (chn luck x n).toInt ∧ (chn luck x n).toInt ≤ 1000000000
  | 0 => by show 0 ≤ (1000000000 : Int64).toInt ∧ (1000000000 : Int64).toInt ≤ 1000000000; decide
  | n + 1 => by
    have ih := chn_btw (x := x) hl n
    have e : chn luck x (n + 1) = chn luck x n * (if zm x n = true then luck else 1000 - luck).toInt64 / 1000 := rfl
    rw [e]
    obtain ⟨h1, h2⟩ := hl
    have hp : 0 ≤ (if zm x n = true then luck else 1000 - luck).toInt64.toInt ∧ (if zm x n = true then luck else 1000 - luck).toInt64.toInt ≤ 1000 := by
      rw [i2l_t]
      split
      · exact ⟨h1, h2⟩
      · rw [z_sub (x := 1000) (by show _ ≤ (1000 : Int) - _; omega) (by show (1000 : Int) - _ < _; omega)]
        show 0 ≤ (1000 : Int) - _ ∧ (1000 : Int) - _ ≤ 1000
        omega
    generalize (if zm x n = true then luck else 1000 - luck).toInt64 = p at hp
    have h3 : 0 ≤ (chn luck x n).toInt * p.toInt ∧ (chn luck x n).toInt * p.toInt ≤ 1000000000 * 1000 := ⟨Int.mul_nonneg ih.1 hp.1, Int.mul_le_mul ih.2 hp.2 hp.1 (by decide)⟩
    rw [l_div (by rw [l_mul (by omega) (by omega)]; omega), l_mul (by omega) (by omega)]
    omega
theorem two_W : ∀ W, W ≤ 10 → (1 : Int32) <<< (nI W &&& 31) = nI (2 ^ W) := by decide
theorem pow_W {W : Nat} (h : W ≤ 10) : 2 ^ W ≤ 1024 := Nat.pow_le_pow_right (by decide) h
theorem v_chance {T : zT} (hT : iT T) {B : Bk} {S : zS} (hB : okB B) (hc : bkC S 7 B) (x : Int32) (h : bw B ≤ 10) : fX11_chanceOf T 0 x S = some (chn (B.1 6 3) x (bw B)).toInt32 := by
  obtain ⟨w1, w2, w3⟩ := bw_nI hB
  unfold fX11_chanceOf
  have key : lp (fun a => fX11_chanceOf_l7 T 0 x S a.1 a.2) (1000000000, nI 0) = some (chn (B.1 6 3) x (bw B)) := by
    refine lp_steps (f := fun a => fX11_chanceOf_l7 T 0 x S a.1 a.2) (fun n => (chn (B.1 6 3) x n, nI n)) (bw B) _ (fun n hn => ?_) ?_
    · show fX11_chanceOf_l7 T 0 x S (chn (B.1 6 3) x n) (nI n) = some (.inl (chn (B.1 6 3) x n * (if zm x n = true then B.1 6 3 else 1000 - B.1 6 3).toInt64 / 1000, nI (n + 1)))
      unfold fX11_chanceOf_l7 fX11_chanceOf_b49
      rw [zT_0_3 hT, hc.1 1 (by decide), hc.1 3 (by decide), w1, if_neg (by rw [n_le (by omega) (by omega)]; omega)]
      simp only [let_q, n_addL]
      cases q : zm x n with
      | true => rw [if_neg (fun z => by rw [m_sh0 (by omega), q] at z; cases z), if_pos rfl]
      | false => rw [if_pos ((m_sh0 (by omega)).mpr q), if_neg (by decide)]
    · show fX11_chanceOf_l7 T 0 x S (chn (B.1 6 3) x (bw B)) (nI (bw B)) = _
      unfold fX11_chanceOf_l7
      rw [zT_0_3 hT, hc.1 1 (by decide), w1, if_pos (by rw [n_le (by omega) (by omega)]; omega)]
  have key' : lp (fun a => fX11_chanceOf_l7 T 0 x S a.1 a.2) (1000000000, 0) = some (chn (B.1 6 3) x (bw B)) := key
  rw [key', b1_q]
theorem r_chance {T : zT} (hT : iT T) {B : Bk} {S : zS} (hB : okB B) (hr : bkR S.1 B) (x : Int32) (l1 : Int64) (h : bw B ≤ 10) : lp (fun a => fX12_surely_l37 T 187 l1 x S a.1 a.2) (1000000000, 0) = some (chn (B.1 6 3) x (bw B)) := by
  obtain ⟨w1, w2, w3⟩ := bw_nI hB
  have i0 : zin 0 2 = true := by decide
  have t0 : (0 : Int32).toNatClampNeg = 0 := rfl
  have key : lp (fun a => fX12_surely_l37 T 187 l1 x S a.1 a.2) (1000000000, nI 0) = some (chn (B.1 6 3) x (bw B)) := by
    refine lp_steps (f := fun a => fX12_surely_l37 T 187 l1 x S a.1 a.2) (fun n => (chn (B.1 6 3) x n, nI n)) (bw B) _ (fun n hn => ?_) ?_
    · show fX12_surely_l37 T 187 l1 x S (chn (B.1 6 3) x n) (nI n) = some (.inl (chn (B.1 6 3) x n * (if zm x n = true then B.1 6 3 else 1000 - B.1 6 3).toInt64 / 1000, nI (n + 1)))
      unfold fX12_surely_l37 fX12_surely_b79
      rw [g_t i0, zT_187_33 hT, zT_187_29 hT, t0, hr.2.2.1, hr.2.2.2.2.1, w1, if_neg (by rw [n_le (by omega) (by omega)]; omega)]
      simp only [let_q, n_addL, g_t i0]
      cases q : zm x n with
      | true => rw [if_pos ((m_sh1 (by omega)).mpr q), if_pos rfl]
      | false => rw [if_neg (fun z => by rw [m_sh1 (by omega), q] at z; cases z), if_neg (by decide)]
    · show fX12_surely_l37 T 187 l1 x S (chn (B.1 6 3) x (bw B)) (nI (bw B)) = _
      unfold fX12_surely_l37
      rw [g_t i0, zT_187_33 hT, t0, hr.2.2.1, w1, if_pos (by rw [n_le (by omega) (by omega)]; omega)]
  exact key
theorem surely_loop {T : zT} (hT : iT T) {B : Bk} {A : Rw} (hB : okB B) (hA : okRw B A) (h10 : bw B ≤ 10) : ∀ (m i : Nat) (c : Int64) (Sc Sr : zS), i + m = 2 ^ bw B → bkC Sc 7 B → rwC Sc 41 A → bkR Sr.1 B → rwR Sr.1 A → ∃ (v : Int64) (Sc' Sr' : zS), lp (fun a => fX11_surely_l18 T 0 a.1 a.2.1 a.2.2) (c.toInt32, nI i, Sc) = some (v.toInt32, Sc') ∧ lp (fun a => fX12_surely_l17 T 187 a.1 a.2.1 a.2.2) (c, nI i, Sr) = some (v, Sr') ∧ gI Sc Sc' ∧ hR Sr Sr' := by
  obtain ⟨t1, t2, t3, t4⟩ := zT_cells hT
  obtain ⟨w1, w2, w3⟩ := bw_nI hB
  have i0 : zin 0 2 = true := by decide
  have t0 : (0 : Int32).toNatClampNeg = 0 := rfl
  have hp := pow_W h10
  intro m
  induction m with
  | zero =>
    intro i c Sc Sr hi hc rc hr rr
    have e : i = 2 ^ bw B := by omega
    refine ⟨c, Sc, Sr, lp_stop ?_, lp_stop ?_, fun _ _ _ => rfl, hR_refl⟩
    · show fX11_surely_l18 T 0 c.toInt32 (nI i) Sc = _
      unfold fX11_surely_l18
      rw [t3, hc.1 1 (by decide), w1, two_W _ h10, if_pos (by rw [n_le (by omega) (by omega)]; omega)]
    · show fX12_surely_l17 T 187 c (nI i) Sr = _
      unfold fX12_surely_l17
      rw [g_t i0, zT_187_33 hT, t0, hr.2.2.1, w1, two_W _ h10, if_pos (by rw [n_le (by omega) (by omega)]; omega)]
  | succ m ih =>
    intro i c Sc Sr hi hc rc hr rr
    obtain ⟨Sc1, Sr1, q1, q2, q3, q4, q5, q6⟩ := row_sim hT hB hA w1 w3 (wrkR_2 (x2 := nI i) (Sr.2 187 52) (by omega)) (wrkC_2 (by omega)) hc hr rc rr rfl
    have hwl := rowEnd_well q3
    have hcb := chn_btw (x := nI i) hB.2.2.2.2.1 (bw B)
    have e32 : (chn (B.1 6 3) (nI i) (bw B)).toInt32.toInt = (chn (B.1 6 3) (nI i) (bw B)).toInt := by
      rw [Int64.toInt_toInt32]
      simp only [Int.bmod_def]
      omega
    have s2 : fX12_surely_l17 T 187 c (nI i) Sr = some (.inl (if Sc1.1 166 6 = -1 ∧ Sc1.1 166 7 = -1 then c + chn (B.1 6 3) (nI i) (bw B) else c, nI (i + 1), Sr1)) := by
      unfold fX12_surely_l17 fX12_surely_b121 fX12_surely_b122
      rw [g_t i0, zT_187_33 hT, t0, hr.2.2.1, w1, two_W _ h10, if_neg (by rw [n_le (by omega) (by omega)]; omega), r_chance hT hB hr _ _ h10, b1_q, q2, b_q]
      simp only [let_q, n_addL, Int64.add_zero]
      by_cases y1 : Sr1.1 187 49 = -1
      · rw [if_pos y1]
        by_cases y2 : Sr1.1 187 50 = -1
        · rw [if_pos y2, if_pos (hwl.mp ⟨y1, y2⟩)]
        · rw [if_neg y2, if_neg (fun z => y2 (hwl.mpr z).2)]
      · rw [if_neg y1, if_neg (fun z => y1 (hwl.mpr z).1)]
    by_cases q : (chn (B.1 6 3) (nI i) (bw B)).toInt32 ≤ 0
    · have e0 : chn (B.1 6 3) (nI i) (bw B) = 0 := by
        have := z_le.mp q
        rw [e32] at this
        have h0 : (0 : Int32).toInt = 0 := rfl
        exact Int64.toInt_inj.mp (show _ = (0 : Int) by omega)
      have s1 : fX11_surely_l18 T 0 c.toInt32 (nI i) Sc = some (.inl (c.toInt32, nI (i + 1), Sc)) := by
        unfold fX11_surely_l18 fX11_surely_b72
        rw [t3, hc.1 1 (by decide), w1, two_W _ h10, if_neg (by rw [n_le (by omega) (by omega)]; omega), v_chance hT hB hc _ h10, b1_q, if_pos q, let_q, n_addL]
      rw [e0] at s2
      have s2' : fX12_surely_l17 T 187 c (nI i) Sr = some (.inl (c, nI (i + 1), Sr1)) := by
        rw [s2]
        by_cases y : Sc1.1 166 6 = -1 ∧ Sc1.1 166 7 = -1
        · rw [if_pos y, Int64.add_zero]
        · rw [if_neg y]
      obtain ⟨v, Sc', Sr', p1, p2, p3, p4⟩ := ih (i + 1) c Sc Sr1 (by omega) hc rc (bkR_h q5 hr) (rwR_h q5 rr)
      exact ⟨v, Sc', Sr', lp_go s1 p1, lp_go s2' p2, p3, hR_tr q5 p4⟩
    · have s1 : fX11_surely_l18 T 0 c.toInt32 (nI i) Sc = some (.inl ((if Sc1.1 166 6 = -1 ∧ Sc1.1 166 7 = -1 then c + chn (B.1 6 3) (nI i) (bw B) else c).toInt32, nI (i + 1), Sc1)) := by
        unfold fX11_surely_l18 fX11_surely_b70 fX11_surely_b72
        rw [t3, hc.1 1 (by decide), w1, two_W _ h10, if_neg (by rw [n_le (by omega) (by omega)]; omega), v_chance hT hB hc _ h10, b1_q, if_neg q, t1, t2, q1, b_q, v_isWell, b1_q]
        simp only [let_q, n_addL, Int32.add_zero]
        by_cases y : Sc1.1 166 6 = -1 ∧ Sc1.1 166 7 = -1
        · rw [if_pos y, if_neg (by decide), if_pos y, Int64.toInt32_add]
        · rw [if_neg y, if_pos rfl, if_neg y]
      have g1 : gI Sc Sc1 := fun a b n => q4.1 a b n
      obtain ⟨v, Sc', Sr', p1, p2, p3, p4⟩ := ih (i + 1) _ Sc1 Sr1 (by omega) (bkC_I g1 hc) (rwC_I g1 rc) (bkR_h q5 hr) (rwR_h q5 rr)
      exact ⟨v, Sc', Sr', lp_go s1 p1, lp_go s2 p2, gI_tr g1 p3, hR_tr q5 p4⟩
theorem ok28 : oK28 invTS := by
  rintro T S ⟨hT, hi⟩
  obtain ⟨t1, t2, t3, t4⟩ := zT_cells hT
  obtain ⟨-, -, -, B, A, hb, -⟩ := id hi
  obtain ⟨b1, b2, b3, b4, b5, b6⟩ := id hb
  obtain ⟨w1, w2, w3⟩ := bw_nI b1
  have i0 : zin 0 2 = true := by decide
  have t0 : (0 : Int32).toNatClampNeg = 0 := rfl
  unfold fX11_surely fX12_surely
  rw [t3, b3.1 1 (by decide), w1]
  simp only [g_t i0, zT_187_33 hT, t0]
  by_cases q : nI (bw B) ≤ 10
  · rw [if_pos q]
    rw [n_leR (by omega) (by omega)] at q
    obtain ⟨a, f1, f2⟩ := det (oc := lp (fun a => fX11_surely_l18 T 0 a.1 a.2.1 a.2.2) ((0 : Int64).toInt32, nI 0, S)) (P := fun Sr : zS => bkR Sr.1 B ∧ rwR Sr.1 A) (g := fun Sr => lp (fun a => fX12_surely_l17 T 187 a.1 a.2.1 a.2.2) (0, nI 0, Sr)) (Q := fun Sr a b => a.1 = b.1.toInt32 ∧ gI S a.2 ∧ hR Sr b.2) (fun Sr hSr => by
      obtain ⟨v, Sc', Sr', p1, p2, p3, p4⟩ := surely_loop hT b1 b2 q (2 ^ bw B) 0 0 S Sr (by omega) b3 b5 hSr.1 hSr.2
      exact ⟨(v.toInt32, Sc'), (v, Sr'), p1, p2, rfl, p3, p4⟩) (c0 := S) ⟨b4, b6⟩
    obtain ⟨b, g1, g2, g3, g4⟩ := f2 S ⟨b4, b6⟩
    have hk := kp_I g3
    have hrB := bkR_kp hk.1 b4
    obtain ⟨b', h1, h2, h3, h4⟩ := f2 a.2 ⟨hrB, rwR_cg b2.1 (hk.1 _ _ rfl) (fun a b _ _ _ => hk.1 a b (decide_eq_true (by omega))) b6⟩
    have f1' : lp (fun a => fX11_surely_l18 T 0 a.1 a.2.1 a.2.2) (0, 0, S) = some a := f1
    have h1' : lp (fun a => fX12_surely_l17 T 187 a.1 a.2.1 a.2.2) (0, 0, a.2) = some b' := h1
    rw [f1', b1_q]
    refine ⟨a.1, a.2, b'.2, rfl, ?_, hT, inv_R h4 (inv_kp hk.1 hk.2 hi)⟩
    rw [hrB.2.2.1, w1, if_pos (by rw [n_leR (by omega) (by omega)]; exact q), h1', b1_q, h2]
  · rw [if_neg q]
    exact ⟨_, _, _, rfl, by rw [b4.2.2.1, w1, if_neg q], hT, hi⟩
