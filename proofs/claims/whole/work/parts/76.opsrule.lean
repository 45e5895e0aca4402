/-! THE OPS OF RULES: finest, parts, goes -/
/-- the reference's ints are as they were -/
def pR (S Sr : zS) : Prop := ∀ a b, 187 ≤ a → Sr.1 a b = S.1 a b
theorem pR_refl {S : zS} : pR S S := fun _ _ _ => rfl
theorem pR_I {S S' : zS} (h : gI S S') : pR S S' := fun a b n => h a b (by omega)
theorem bkR_p {S Sr : zS} {B : Bk} (h : pR S Sr) (hb : bkR S.1 B) : bkR Sr.1 B := bkR_cg (fun a b hab => by have := rN_big hab; exact h a b (by omega)) hb
theorem ruR_p {S Sr : zS} {s : Nat} {L : List Rc} (hL : okRu L) (h : pR S Sr) (hr : ruR S s L) : ruR Sr s L := ruR_cg (by have := hL.1; omega) (fun a b _ _ _ _ _ => h a b (by omega)) hr
/-- all rules, in both -/
def ru2 (r : Nat) (Sc Sr : zS) : Prop := ∀ q, q < r → ∃ L, okRu L ∧ ruC Sc (46 + 5 * q) L ∧ ruR Sr (2 + q) L
theorem ru2_g {r : Nat} (hr : r ≤ 6) {Sc Sr Sc' Sr' : zS} (h : ru2 r Sc Sr) (hc : gI Sc Sc') (hq : gQ Sr Sr') : ru2 r Sc' Sr' := by
  intro q hq'
  obtain ⟨L, h1, h2, h3⟩ := h q hq'
  exact ⟨L, h1, ruC_I (by omega) hc h2, ruR_Q h1 hq h3⟩
theorem gI_kQ {S S1 S2 : zS} (h1 : gI S S1) (h2 : gQ S1 S2) (hi : inv S) : inv S2 := by
  have a := kp_I h1
  have b := kp_Q h2
  exact inv_kp b.1 b.2 (inv_kp a.1 a.2 hi)
theorem finest_loop {T : zT} (hT : iT T) {B : Bk} (hB : okB B) {r : Nat} (hr6 : r ≤ 6) : ∀ (m q : Nat) (f mc mr : Int32) (Sc Sr : zS), q + m = r → bkC Sc 7 B → bkR Sr.1 B → ru2 r Sc Sr → Sc.1 0 7 = nI r → Sr.1 187 5 = nI r → (f = -2 ∧ mc = -1 ∨ ¬ f = -2 ∧ mc = mr) → ∃ v Sc' Sr', lp (fun a => fX11_finest_l7 T 0 a.1 a.2.1 a.2.2.1 a.2.2.2) (f, mc, nI q, Sc) = some (v, Sc') ∧ lp (fun a => fX12_finest_l7 T 187 a.1 a.2.1 a.2.2.1 a.2.2.2) (f, mr, nI q, Sr) = some (v, Sr') ∧ gI Sc Sc' ∧ gQ Sr Sr' := by
  obtain ⟨t1, -, -, -⟩ := zT_cells hT
  obtain ⟨w1, w2, w3⟩ := bw_nI hB
  intro m
  induction m with
  | zero =>
    intro q f mc mr Sc Sr hq hc hr hru h7 h5 hrel
    refine ⟨f, Sc, Sr, lp_stop ?_, lp_stop ?_, fun _ _ _ => rfl, gQ_refl⟩
    · show fX11_finest_l7 T 0 f mc (nI q) Sc = _
      unfold fX11_finest_l7
      rw [h7, if_pos (by rw [n_le (by omega) (by omega)]; omega)]
    · show fX12_finest_l7 T 187 f mr (nI q) Sr = _
      unfold fX12_finest_l7
      rw [h5, if_pos (by rw [n_le (by omega) (by omega)]; omega)]
  | succ m ih =>
    intro q f mc mr Sc Sr hq hc hr hru h7 h5 hrel
    obtain ⟨L, l1, l2, l3⟩ := hru q (by omega)
    obtain ⟨t2, -⟩ := rul_T hT (show q < 6 by omega)
    obtain ⟨Sc1, Sr1, e1, e2, ⟨k1, k2, k3, k4, k5, k6⟩, g1, g2, -, -⟩ := rule_sim hT hB l1 (show q < 6 by omega) w1 w3 (wrkR_0 (Sr.2 187 52)) (wrkC_0 w3) hc hr l2 l3 rfl
    have s1 : fX11_finest_l7 T 0 f mc (nI q) Sc = if Sc1.1 166 7 = -1 then if Sc1.1 166 3 ≤ mc then some (.inl (f, mc, nI (q + 1), Sc1)) else some (.inl (nI q, Sc1.1 166 3, nI (q + 1), Sc1)) else some (.inl (f, mc, nI (q + 1), Sc1)) := by
      unfold fX11_finest_l7 fX11_finest_b69
      rw [h7, if_neg (by rw [n_le (by omega) (by omega)]; omega), if_neg (by rw [n_leL (by omega) (by omega)]; omega), g_in (by omega) (by decide), zT_0_6 hT, tn_nI (by omega), t2, t1, e1, b_q]
      simp only [let_q, n_addL]
    have s2 : fX12_finest_l7 T 187 f mr (nI q) Sr = if Sc1.1 166 7 = -1 then if f = -2 then some (.inl (nI q, Sc1.1 166 3, nI (q + 1), Sr1)) else if Sc1.1 166 3 ≤ mr then some (.inl (f, mr, nI (q + 1), Sr1)) else some (.inl (nI q, Sc1.1 166 3, nI (q + 1), Sr1)) else some (.inl (f, mr, nI (q + 1), Sr1)) := by
      unfold fX12_finest_l7 fX12_finest_b43 fX12_finest_b50
      rw [h5, if_neg (by rw [n_le (by omega) (by omega)]; omega), e2, b_q, k2, k3]
      simp only [let_q, n_addL]
    have hc1 := bkC_I g1 hc
    have hr1 := bkR_Q g2 hr
    have hru1 := ru2_g hr6 hru g1 g2
    have h71 : Sc1.1 0 7 = nI r := by rw [g1 _ _ (by omega)]; exact h7
    have h51 : Sr1.1 187 5 = nI r := by rw [g2 _ _ (by omega) (by omega)]; exact h5
    have nm2 : ¬ nI q = -2 := by rw [z_eq, nI_toInt (by omega)]; show ¬ (q : Int) = -2; omega
    have step : ∀ (f' mc' mr' : Int32), fX11_finest_l7 T 0 f mc (nI q) Sc = some (.inl (f', mc', nI (q + 1), Sc1)) → fX12_finest_l7 T 187 f mr (nI q) Sr = some (.inl (f', mr', nI (q + 1), Sr1)) → (f' = -2 ∧ mc' = -1 ∨ ¬ f' = -2 ∧ mc' = mr') → ∃ v Sc' Sr', lp (fun a => fX11_finest_l7 T 0 a.1 a.2.1 a.2.2.1 a.2.2.2) (f, mc, nI q, Sc) = some (v, Sc') ∧ lp (fun a => fX12_finest_l7 T 187 a.1 a.2.1 a.2.2.1 a.2.2.2) (f, mr, nI q, Sr) = some (v, Sr') ∧ gI Sc Sc' ∧ gQ Sr Sr' := by
      intro f' mc' mr' a1 a2 a3
      obtain ⟨v, Sc', Sr', p1, p2, p3, p4⟩ := ih (q + 1) f' mc' mr' Sc1 Sr1 (by omega) hc1 hr1 hru1 h71 h51 a3
      exact ⟨v, Sc', Sr', lp_go a1 p1, lp_go a2 p2, gI_tr g1 p3, gQ_tr g2 p4⟩
    by_cases y : Sc1.1 166 7 = -1
    · rw [if_pos y] at s1 s2
      rcases hrel with ⟨rfl, rfl⟩ | ⟨h1, rfl⟩
      · rw [if_neg (fun z => by have a := z_le.mp z; have b : (-1 : Int32).toInt = -1 := rfl; omega)] at s1
        rw [if_pos rfl] at s2
        exact step _ _ _ s1 s2 (Or.inr ⟨nm2, rfl⟩)
      · rw [if_neg h1] at s2
        by_cases z : Sc1.1 166 3 ≤ mc
        · rw [if_pos z] at s1 s2
          exact step _ _ _ s1 s2 (Or.inr ⟨h1, rfl⟩)
        · rw [if_neg z] at s1 s2
          exact step _ _ _ s1 s2 (Or.inr ⟨nm2, rfl⟩)
    · rw [if_neg y] at s1 s2
      exact step _ _ _ s1 s2 hrel
theorem ok24 : oK24 invTS := by
  rintro T S ⟨hT, hi⟩
  obtain ⟨-, ⟨r, hr6, hrc, hrr, hru⟩, -, B, A, ⟨b1, b2, b3, b4, b5, b6⟩, -⟩ := id hi
  unfold fX11_finest fX12_finest fX11_finest_b75
  obtain ⟨a, f1, f2⟩ := det (oc := lp (fun a => fX11_finest_l7 T 0 a.1 a.2.1 a.2.2.1 a.2.2.2) ((-2), (-1), nI 0, S)) (P := fun Sr : zS => pR S Sr) (g := fun Sr => lp (fun a => fX12_finest_l7 T 187 a.1 a.2.1 a.2.2.1 a.2.2.2) ((-2), 0, nI 0, Sr)) (Q := fun Sr a b => a.1 = b.1 ∧ gI S a.2 ∧ gQ Sr b.2) (fun Sr hSr => by
    obtain ⟨v, Sc', Sr', p1, p2, p3, p4⟩ := finest_loop hT b1 hr6 r 0 (-2) (-1) 0 S Sr (by omega) b3 (bkR_p hSr b4) (fun q hq => by
      obtain ⟨L, l1, l2, l3⟩ := hru q hq
      exact ⟨L, l1, l2, ruR_p l1 hSr l3⟩) hrc (by rw [hSr _ _ (by omega)]; exact hrr) (Or.inl ⟨rfl, rfl⟩)
    exact ⟨(v, Sc'), (v, Sr'), p1, p2, rfl, p3, p4⟩) (c0 := S) pR_refl
  obtain ⟨b, g1, g2, g3, g4⟩ := f2 S pR_refl
  obtain ⟨b', h1, h2, h3, h4⟩ := f2 a.2 (pR_I g3)
  have f1' : lp (fun a => fX11_finest_l7 T 0 a.1 a.2.1 a.2.2.1 a.2.2.2) ((-2), (-1), 0, S) = some a := f1
  have h1' : lp (fun a => fX12_finest_l7 T 187 a.1 a.2.1 a.2.2.1 a.2.2.2) ((-2), 0, 0, a.2) = some b' := h1
  rw [f1', b1_q]
  exact ⟨a.1, a.2, b'.2, rfl, by rw [h1', b1_q, h2], hT, gI_kQ g3 h4 hi⟩
theorem goes_loop {T : zT} (hT : iT T) {B : Bk} (hB : okB B) {q : Nat} (hq : q < 6) {L : List Rc} (hL : okRu L) {n : Nat} (hn : n ≤ 100) : ∀ (m i : Nat) (c : Int32) (Sc Sr : zS), i + m = n → bkC Sc 7 B → bkR Sr.1 B → ruC Sc (46 + 5 * q) L → ruR Sr (2 + q) L → Sc.2 185 0 = Sr.2 187 52 → ∃ v Sc' Sr', lp (fun a => fX11_goes_l33 T 0 (nI q) (nI n) a.1 a.2.1 a.2.2) (c, nI i, Sc) = some (v, Sc') ∧ lp (fun a => fX12_goes_l38 T 187 (nI q) (nI n) a.1 a.2.1 a.2.2) (c, nI i, Sr) = some (v, Sr') ∧ gI Sc Sc' ∧ gQ Sr Sr' := by
  obtain ⟨t1, t2, t3, t4⟩ := zT_cells hT
  obtain ⟨t5, -⟩ := rul_T hT hq
  obtain ⟨w1, w2, w3⟩ := bw_nI hB
  intro m
  induction m with
  | zero =>
    intro i c Sc Sr hi hc hr hrc hrr hd
    refine ⟨c, Sc, Sr, lp_stop ?_, lp_stop ?_, fun _ _ _ => rfl, gQ_refl⟩
    · show fX11_goes_l33 T 0 (nI q) (nI n) c (nI i) Sc = _
      unfold fX11_goes_l33
      rw [if_pos (by rw [n_le (by omega) (by omega)]; omega)]
    · show fX12_goes_l38 T 187 (nI q) (nI n) c (nI i) Sr = _
      unfold fX12_goes_l38
      rw [if_pos (by rw [n_le (by omega) (by omega)]; omega)]
  | succ m ih =>
    intro i c Sc Sr hi hc hr hrc hrr hd
    obtain ⟨l, S8, k1, k2, k3, k4, k5⟩ := v_work (T := T) (W := bw B) (luck := B.1 6 3) (S := Sc) w3
    have g8 : gI Sc S8 := gI_e k2
    obtain ⟨Sc1, Sr1, e1, e2, ⟨h1, h2, h3, h4, h5, h6⟩, g1, g2, d1, d2⟩ := rule_sim hT hB hL hq w1 w3 (wrkR_1 hT (Sc.2 185 0)) k5 (bkC_I g8 hc) hr (ruC_I hq g8 hrc) hrr hd.symm
    have gc := gI_tr g8 g1
    have hc1 := bkC_I gc hc
    have hr1 := bkR_Q g2 hr
    have hd1 : Sc1.2 185 0 = Sr1.2 187 52 := by rw [d2, k3, d1]
    have s1 : fX11_goes_l33 T 0 (nI q) (nI n) c (nI i) Sc = some (.inl (if Sc1.1 166 7 = -1 ∧ Sc1.1 166 4 = bth B then c + 1 else c, nI (i + 1), Sc1)) := by
      unfold fX11_goes_l33 fX11_goes_b103
      rw [if_neg (by rw [n_le (by omega) (by omega)]; omega), g_in hq (by decide), t3, t4, hc.1 1 (by decide), hc.1 3 (by decide), w1, k1, b_q, t1, zT_0_6 hT, tn_nI (by omega), t5, e1, b_q, v_isWell, b1_q, bkC_th hc1]
      simp only [let_q, n_addL]
      by_cases y : Sc1.1 166 7 = -1
      · rw [if_pos (show Sc1.1 166 6 = -1 ∧ Sc1.1 166 7 = -1 from ⟨h1, y⟩), if_neg n10]
        by_cases z : Sc1.1 166 4 = bth B
        · rw [if_pos z, if_pos ⟨y, z⟩]
        · rw [if_neg z, if_neg (fun v => z v.2)]
      · rw [if_neg (fun v : Sc1.1 166 6 = -1 ∧ Sc1.1 166 7 = -1 => y v.2), if_pos rfl, if_neg (fun v => y v.1)]
    have s2 : fX12_goes_l38 T 187 (nI q) (nI n) c (nI i) Sr = some (.inl (if Sc1.1 166 7 = -1 ∧ Sc1.1 166 4 = bth B then c + 1 else c, nI (i + 1), Sr1)) := by
      unfold fX12_goes_l38 fX12_goes_b76 fX12_goes_b77
      rw [if_neg (by rw [n_le (by omega) (by omega)]; omega), e2, b_q, h2, r_home hT hr1 h4, r_all hT hr1 hB.1, b1_q, b1_q]
      simp only [let_q, n_addL, Int32.add_zero]
      by_cases y : Sc1.1 166 7 = -1
      · rw [if_pos y]
        by_cases z : Sc1.1 166 4 = bth B
        · rw [if_pos z, if_pos ⟨y, z⟩]
        · rw [if_neg z, if_neg (fun v => z v.2)]
      · rw [if_neg y, if_neg (fun v => y v.1)]
    obtain ⟨v, Sc', Sr', p1, p2, p3, p4⟩ := ih (i + 1) _ Sc1 Sr1 (by omega) hc1 hr1 (ruC_I hq gc hrc) (ruR_Q hL g2 hrr) hd1
    exact ⟨v, Sc', Sr', lp_go s1 p1, lp_go s2 p2, gI_tr gc p3, gQ_tr g2 p4⟩
theorem ok27 : oK27 invTS := by
  rintro T S ⟨hT, hi⟩ x1 x2 x3
  obtain ⟨t1, t2, t3, t4⟩ := zT_cells hT
  obtain ⟨-, ⟨r, hr6, hrc, hrr, hru⟩, -, B, A, ⟨b1, b2, b3, b4, b5, b6⟩, -⟩ := id hi
  have ei : ∀ S : zS, fX12_in T x3.toInt64 1 100 S = some (if 1 ≤ x3.toInt ∧ x3.toInt ≤ 100 then 1 else 0) := by
    intro S
    rw [v_in32]
    rfl
  unfold fX11_goes fX12_goes fX11_goes_b16 fX12_goes_b24
  rcases c_isRule (T := T) hr6 hrc x1 with ⟨h1, e1⟩ | ⟨h1, e1⟩
  · obtain ⟨q, hq, rfl⟩ := isRl_q hr6 h1
    obtain ⟨L, l1, l2, l3⟩ := hru q hq
    have hR : ∀ Sr : zS, pR S Sr → fX12_isRule T 187 (nI q) Sr = some 1 := by
      intro Sr hp
      rcases r_isRule (T := T) (S := Sr) hr6 (by rw [hp _ _ (by omega)]; exact hrr) (nI q) with ⟨-, e⟩ | ⟨n, -⟩
      · exact e
      · exact absurd h1 n
    rw [e1, b1_q, if_neg n10]
    rcases drawable (T := T) x2 x3 S with ⟨rr, e, ⟨rfl, hd⟩ | ⟨rfl, hd⟩⟩
    · rw [e, b1_q, if_neg n10, let_q, t4]
      have hx3 : x3 = nI x3.toNatClampNeg := (nI_n (by omega)).symm
      have hn : x3.toNatClampNeg ≤ 100 := by have := z_tn (i := x3) (by omega); omega
      obtain ⟨a, f1, f2⟩ := det (oc := lp (fun a => fX11_goes_l33 T 0 (nI q) (nI x3.toNatClampNeg) a.1 a.2.1 a.2.2) (0, nI 0, zJ S 185 0 x2.toInt64)) (P := fun Sr : zS => pR S Sr ∧ Sr.2 187 52 = x2.toInt64) (g := fun Sr => lp (fun a => fX12_goes_l38 T 187 (nI q) (nI x3.toNatClampNeg) a.1 a.2.1 a.2.2) (0, nI 0, Sr)) (Q := fun Sr a b => a.1 = b.1 ∧ gI S a.2 ∧ gQ Sr b.2) (fun Sr hSr => by
        obtain ⟨v, Sc', Sr', p1, p2, p3, p4⟩ := goes_loop hT b1 (show q < 6 by omega) l1 hn x3.toNatClampNeg 0 0 (zJ S 185 0 x2.toInt64) Sr (by omega) (bkC_cg (fun a b _ _ => rfl) b3) (bkR_p hSr.1 b4) (ruC_cg (fun a b _ _ => rfl) l2) (ruR_p l1 hSr.1 l3) (by rw [zJ_s, hSr.2])
        exact ⟨(v, Sc'), (v, Sr'), p1, p2, rfl, fun a b n => p3 a b n, p4⟩) (c0 := zJ S 187 52 x2.toInt64) ⟨fun _ _ _ => rfl, zJ_s⟩
      obtain ⟨b, g1, g2, g3, g4⟩ := f2 (zJ S 187 52 x2.toInt64) ⟨fun _ _ _ => rfl, zJ_s⟩
      obtain ⟨b', h1', h2, h3, h4⟩ := f2 (zJ a.2 187 52 x2.toInt64) ⟨fun a' b n => (pR_I g3) a' b n, zJ_s⟩
      rw [← hx3] at f1 h1'
      have f1' : lp (fun a => fX11_goes_l33 T 0 (nI q) x3 a.1 a.2.1 a.2.2) (0, 0, zJ S 185 0 x2.toInt64) = some a := f1
      have h1'' : lp (fun a => fX12_goes_l38 T 187 (nI q) x3 a.1 a.2.1 a.2.2) (0, 0, zJ a.2 187 52 x2.toInt64) = some b' := h1'
      rw [f1', b1_q]
      refine ⟨a.1, a.2, b'.2, rfl, ?_, hT, gI_kQ g3 (fun a' b n m => h4 a' b n m) hi⟩
      rw [hR a.2 (pR_I g3), b1_q, if_neg n10, if_neg (by rw [z_lt]; show ¬ _ < (0 : Int); omega), ei, b1_q, if_pos (show 1 ≤ x3.toInt ∧ x3.toInt ≤ 100 from ⟨hd.2.1, hd.2.2⟩), if_neg n10, let_q, h1'', b1_q, h2]
    · rw [e, b1_q, if_pos rfl]
      refine ⟨_, _, _, rfl, ?_, hT, hi⟩
      rw [hR S pR_refl, b1_q, if_neg n10]
      by_cases q0 : x2 < 0
      · rw [if_pos q0]
      · rw [if_neg q0, ei, b1_q, if_neg (fun z : 1 ≤ x3.toInt ∧ x3.toInt ≤ 100 => hd ⟨z_le.mp (z_nlt q0), z.1, z.2⟩), if_pos rfl]
  · rw [e1, b1_q, if_pos rfl]
    refine ⟨_, _, _, rfl, ?_, hT, hi⟩
    rcases r_isRule (T := T) (S := S) hr6 hrr x1 with ⟨h2, -⟩ | ⟨-, e⟩
    · exact absurd h2 h1
    · rw [e, b1_q, if_pos rfl]
