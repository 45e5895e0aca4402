/-! THE OPS OF THE ROW: judged, then, holds, surely -/
theorem bw_nI {B : Bk} (h : okB B) : B.1 6 1 = nI (bw B) ∧ 1 ≤ bw B ∧ bw B ≤ 60 := by
  obtain ⟨h1, h2⟩ := h.2.2.1
  have h3 := z_tn (i := B.1 6 1) (by omega)
  exact ⟨(nI_n (by omega)).symm, by unfold bw; omega, by unfold bw; omega⟩
theorem row_run {T : zT} (hT : iT T) {B : Bk} {A : Rw} {x1 x2 : Int32} {wk : Nat → Int32} {dr : Nat → Int64} {l2 : Int64} {S : zS} (hb : invB B A S) (hi : inv S) (hwr : wrkR T B (bw B) x1 x2 wk dr) (hwc : wrkC (bw B) l2 wk) (hd : S.2 187 52 = dr 0) : ∃ Sc Sr, fX4_liveByRow T 166 41 l2 S = some ((), Sc) ∧ fX12_goesBy T 187 x1 x2 Sc = some ((), Sr) ∧ rowEnd B (bw B) Sc Sr ∧ gC S Sc ∧ hR Sc Sr ∧ inv Sc ∧ inv Sr ∧ Sr.2 187 52 = dr (bw B) := by
  obtain ⟨b1, b2, b3, b4, b5, b6⟩ := hb
  obtain ⟨w1, w2, w3⟩ := bw_nI b1
  obtain ⟨Sc, e1, h1⟩ := det (oc := fX4_liveByRow T 166 41 l2 S) (P := fun Sr : zS => bkR Sr.1 B ∧ rwR Sr.1 A ∧ Sr.2 187 52 = dr 0) (g := fun Sr => fX12_goesBy T 187 x1 x2 Sr) (Q := fun Sr a b => rowEnd B (bw B) a.2 b.2 ∧ gC S a.2 ∧ hR Sr b.2 ∧ b.2.2 187 52 = dr (bw B)) (fun Sr hSr => by
    obtain ⟨Sc', Sr', q1, q2, q3, q4, q5, q6⟩ := row_sim hT b1 b2 w1 w3 hwr hwc b3 hSr.1 b5 hSr.2.1 hSr.2.2
    exact ⟨((), Sc'), ((), Sr'), q1, q2, q3, q4, q5, q6⟩) (c0 := S) ⟨b4, b6, hd⟩
  obtain ⟨b, f1, f2, f3, f4, f5⟩ := h1 S ⟨b4, b6, hd⟩
  have hk := kp_C f3
  obtain ⟨b', g1, g2, g3, g4, g5⟩ := h1 Sc.2 ⟨bkR_kp hk.1 b4, rwR_cg b2.1 (hk.1 _ _ rfl) (fun a b _ _ _ => hk.1 a b (decide_eq_true (by omega))) b6, by rw [f3.2 _ _ (by omega)]; exact hd⟩
  have hic : inv Sc.2 := inv_C f3 hi
  exact ⟨Sc.2, b'.2, e1, g1, g2, g3, g4, hic, inv_R g4 hic, g5⟩
theorem zT_cells {T : zT} (hT : iT T) : zr T 0 12 = 166 ∧ zr T 0 5 = 41 ∧ zr T 0 3 = 7 ∧ zr T 0 14 = 185 := ⟨zT_0_12 hT, zT_0_5 hT, zT_0_3 hT, zT_0_14 hT⟩
theorem ok10 : oK10 invTS := by
  rintro T S ⟨hT, hi⟩ x1
  obtain ⟨t1, t2, t3, t4⟩ := zT_cells hT
  obtain ⟨-, -, -, B, A, hb, -⟩ := id hi
  obtain ⟨w1, w2, w3⟩ := bw_nI hb.1
  obtain ⟨Sc, Sr, e1, e2, ⟨h49, h50, h48, hp, -⟩, gc, gr, hic, hir, -⟩ := row_run hT hb hi (wrkR_0 (x2 := 0) (S.2 187 52)) (wrkC_0 w3) rfl
  have hrB : bkR Sr.1 B := bkR_kp (kp_R gr).1 (bkR_kp (kp_C gc).1 hb.2.2.2.1)
  unfold fX11_judged fX12_judged
  rw [t1, t2, e1, b_q]
  by_cases q0 : x1 = 0
  · rw [if_pos q0]
    exact ⟨_, _, _, rfl, by rw [e2, b_q, if_pos q0, h49], hT, hir⟩
  rw [if_neg q0]
  by_cases q1 : x1 = 1
  · rw [if_pos q1]
    exact ⟨_, _, _, rfl, by rw [e2, b_q, if_neg q0, if_pos q1, h50], hT, hir⟩
  rw [if_neg q1]
  by_cases q2 : x1 = 2
  · rw [if_pos q2]
    exact ⟨_, _, _, rfl, by rw [e2, b_q, if_neg q0, if_neg q1, if_pos q2, h48], hT, hir⟩
  rw [if_neg q2]
  by_cases q3 : x1 = 3
  · rw [if_pos q3]
    exact ⟨_, _, _, rfl, by rw [e2, b_q, if_neg q0, if_neg q1, if_neg q2, if_pos q3, r_home hT hrB hp, b1_q], hT, hir⟩
  rw [if_neg q3]
  by_cases q4 : x1 = 4
  · rw [if_pos q4]
    exact ⟨_, _, _, rfl, by rw [e2, b_q, if_neg q0, if_neg q1, if_neg q2, if_neg q3, if_pos q4, r_gone hT hrB hp, b1_q], hT, hir⟩
  rw [if_neg q4]
  exact ⟨_, _, _, rfl, by rw [e2, b_q, if_neg q0, if_neg q1, if_neg q2, if_neg q3, if_neg q4], hT, hir⟩
theorem ok11 : oK11 invTS := by
  rintro T S ⟨hT, hi⟩ x1 x2
  obtain ⟨t1, t2, t3, t4⟩ := zT_cells hT
  obtain ⟨-, -, -, B, A, hb, -⟩ := id hi
  obtain ⟨w1, w2, w3⟩ := bw_nI hb.1
  obtain ⟨Sc, Sr, e1, e2, ⟨h49, h50, h48, hp, d, hdW, hd1, hd2, hd3⟩, gc, gr, hic, hir, -⟩ := row_run hT hb hi (wrkR_0 (x2 := 0) (S.2 187 52)) (wrkC_0 w3) rfl
  unfold fX11_then fX12_then fX11_then_b35 fX11_then_b71 fX12_then_b32 fX12_then_b56
  rw [t1, t2, e1, b_q]
  have e51 : Sr.1 187 51 - 1 = Sr.1 187 51 - 1 := rfl
  have ed : (Sr.1 187 51 - 1).toInt = (d : Int) - 1 := by
    rw [hd2, z_sub (by rw [nI_toInt (by omega)]; show _ ≤ _ - (1 : Int); omega) (by rw [nI_toInt (by omega)]; show _ - (1 : Int) < _; omega), nI_toInt (by omega)]
    rfl
  have ei : ∀ S : zS, fX12_in T x1.toInt64 0 (Sr.1 187 51 - 1).toInt64 S = some (if 0 ≤ x1.toInt ∧ x1.toInt ≤ (d : Int) - 1 then 1 else 0) := by
    intro S
    rw [v_in32, i2l_t, ed]
    rfl
  have ei2 : ∀ S : zS, fX12_in T x2.toInt64 0 1 S = some (if 0 ≤ x2.toInt ∧ x2.toInt ≤ 1 then 1 else 0) := by
    intro S
    rw [v_in32]
    rfl
  by_cases q : 0 ≤ x1.toInt ∧ x1.toInt ≤ (d : Int) - 1
  · have hx : x1 = nI x1.toNatClampNeg := (nI_n q.1).symm
    have hxn : x1.toNatClampNeg < d := by have := z_tn q.1; omega
    obtain ⟨v1, v2⟩ := hd3 _ hxn
    rw [if_neg (by rw [z_lt]; show ¬ _ < (0 : Int); omega), hd1, if_neg (by rw [z_le, nI_toInt (by omega)]; omega), if_pos (by rw [z_lt]; show _ < (60 : Int); omega)]
    have zx : zin x1 60 = true := zin_iff.mpr ⟨q.1, by omega⟩
    simp only [g_t zx, zT_166_9 hT, zT_166_10 hT]
    by_cases q0 : x2 = 0
    · rw [if_pos q0]
      refine ⟨_, _, _, rfl, ?_, hT, hir⟩
      rw [e2, b_q, ei, if_pos q, b1_q, if_neg (by decide), ei2, if_pos (by rw [q0]; decide), b1_q, if_neg (by decide), if_pos q0, zT_187_44 hT, v1]
    · rw [if_neg q0]
      by_cases q1 : x2 = 1
      · rw [if_pos q1]
        refine ⟨_, _, _, rfl, ?_, hT, hir⟩
        rw [e2, b_q, ei, if_pos q, b1_q, if_neg (by decide), ei2, if_pos (by rw [q1]; decide), b1_q, if_neg (by decide), if_neg q0, zT_187_45 hT, v2]
      · rw [if_neg q1]
        refine ⟨_, _, _, rfl, ?_, hT, hir⟩
        rw [e2, b_q, ei, if_pos q, b1_q, if_neg (by decide), ei2, if_neg (fun z => by
          have a : x2.toInt = 0 ∨ x2.toInt = 1 := by omega
          rcases a with a | a
          · exact q0 (z_eq.mpr a)
          · exact q1 (z_eq.mpr a)), b1_q, if_pos rfl]
  · have hr2 : fX12_then T 187 x1 x2 Sc = some (-2, Sr) := by
      unfold fX12_then fX12_then_b32 fX12_then_b56
      rw [e2, b_q, ei, if_neg q, b1_q, if_pos rfl]
    unfold fX12_then fX12_then_b32 fX12_then_b56 at hr2
    by_cases q0 : x1 < 0
    · rw [if_pos q0]
      exact ⟨_, _, _, rfl, hr2, hT, hir⟩
    · rw [if_neg q0, hd1, if_pos (by
        have a := z_nlt q0
        have b := z_le.mp a
        have c : (0 : Int) ≤ x1.toInt := b
        rw [z_le, nI_toInt (by omega)]; omega)]
      exact ⟨_, _, _, rfl, hr2, hT, hir⟩
theorem rowEnd_well {B : Bk} {W : Nat} {Sc Sr : zS} (h : rowEnd B W Sc Sr) : (Sr.1 187 49 = -1 ∧ Sr.1 187 50 = -1) ↔ (Sc.1 166 6 = -1 ∧ Sc.1 166 7 = -1) := by rw [h.1, h.2.1]
theorem drawable {T : zT} (x1 x2 : Int32) (S : zS) : ∃ r : Int32, fX11_isDrawable T x1 x2 S = some r ∧ (r = 1 ∧ (0 ≤ x1.toInt ∧ 1 ≤ x2.toInt ∧ x2.toInt ≤ 100) ∨ r = 0 ∧ ¬ (0 ≤ x1.toInt ∧ 1 ≤ x2.toInt ∧ x2.toInt ≤ 100)) := by
  unfold fX11_isDrawable fX11_isDrawable_b19 fX11_isDrawable_b20
  by_cases q0 : x1 < 0
  · rw [if_pos q0]
    have a : x1.toInt < 0 := z_lt.mp q0
    exact ⟨0, rfl, Or.inr ⟨rfl, by omega⟩⟩
  · rw [if_neg q0]
    have a : 0 ≤ x1.toInt := z_le.mp (z_nlt q0)
    by_cases q1 : x2 < 1
    · rw [if_pos q1]
      have b : x2.toInt < 1 := z_lt.mp q1
      exact ⟨0, rfl, Or.inr ⟨rfl, by omega⟩⟩
    · rw [if_neg q1]
      have b : 1 ≤ x2.toInt := z_le.mp (z_nlt q1)
      by_cases q2 : 100 < x2
      · rw [if_pos q2]
        have c : 100 < x2.toInt := z_lt.mp q2
        exact ⟨0, rfl, Or.inr ⟨rfl, by omega⟩⟩
      · rw [if_neg q2]
        have c : x2.toInt ≤ 100 := z_le.mp (z_nlt q2)
        exact ⟨1, rfl, Or.inl ⟨rfl, a, b, c⟩⟩
/-- ints are as they were but where lives are kept -/
def gI (S S' : zS) : Prop := ∀ a b, ¬ (166 ≤ a ∧ a ≤ 175) → S'.1 a b = S.1 a b
theorem gI_tr {S S1 S2 : zS} (h : gI S S1) (h' : gI S1 S2) : gI S S2 := fun a b n => (h' a b n).trans (h a b n)
theorem kp_I {S S' : zS} (h : gI S S') : (∀ a b, kp a b = true → S'.1 a b = S.1 a b) ∧ ∀ a b, kpP a b = true → S'.1 a b = S.1 a b := ⟨fun a b q => h a b (by have := of_decide_eq_true q; omega), fun a b q => h a b (by have := of_decide_eq_true q; omega)⟩
theorem bkC_I {S S' : zS} {B : Bk} (h : gI S S') (hb : bkC S 7 B) : bkC S' 7 B := bkC_cg (fun a b _ _ => h a b (by omega)) hb
theorem rwC_I {S S' : zS} {A : Rw} (h : gI S S') (hr : rwC S 41 A) : rwC S' 41 A := rwC_cg (fun a b _ _ => h a b (by omega)) hr
theorem holds_loop {T : zT} (hT : iT T) {B : Bk} {A : Rw} (hB : okB B) (hA : okRw B A) {n : Nat} (hn : n ≤ 100) : ∀ (m i : Nat) (c : Int32) (Sc Sr : zS), i + m = n → bkC Sc 7 B → rwC Sc 41 A → bkR Sr.1 B → rwR Sr.1 A → Sc.2 185 0 = Sr.2 187 52 → ∃ v Sc' Sr', lp (fun a => fX11_holds_l24 T 0 (nI n) a.1 a.2.1 a.2.2) (c, nI i, Sc) = some (v, Sc') ∧ lp (fun a => fX12_holds_l29 T 187 (nI n) a.1 a.2.1 a.2.2) (c, nI i, Sr) = some (v, Sr') ∧ gI Sc Sc' ∧ hR Sr Sr' := by
  obtain ⟨t1, t2, t3, t4⟩ := zT_cells hT
  obtain ⟨w1, w2, w3⟩ := bw_nI hB
  intro m
  induction m with
  | zero =>
    intro i c Sc Sr hi hc rc hr rr hd
    have e : i = n := by omega
    subst e
    refine ⟨c, Sc, Sr, lp_stop ?_, lp_stop ?_, fun _ _ _ => rfl, hR_refl⟩
    · show fX11_holds_l24 T 0 (nI i) c (nI i) Sc = _
      unfold fX11_holds_l24
      rw [if_pos (by rw [n_le (by omega) (by omega)]; omega)]
    · show fX12_holds_l29 T 187 (nI i) c (nI i) Sr = _
      unfold fX12_holds_l29
      rw [if_pos (by rw [n_le (by omega) (by omega)]; omega)]
  | succ m ih =>
    intro i c Sc Sr hi hc rc hr rr hd
    obtain ⟨l, S8, k1, k2, k3, k4, k5⟩ := v_work (T := T) (W := bw B) (luck := B.1 6 3) (S := Sc) w3
    have hc8 : bkC S8 7 B := bkC_cg (fun a b _ _ => by rw [k2]) hc
    have rc8 : rwC S8 41 A := rwC_cg (fun a b _ _ => by rw [k2]) rc
    obtain ⟨Sc1, Sr1, q1, q2, q3, q4, q5, q6⟩ := row_sim hT hB hA w1 w3 (wrkR_1 hT (x2 := 0) (Sc.2 185 0)) k5 hc8 hr rc8 rr hd.symm
    have g1 : gI Sc Sc1 := fun a b n => (q4.1 a b n).trans (by rw [k2])
    have hd1 : Sc1.2 185 0 = Sr1.2 187 52 := by rw [q4.2 _ _ (by omega), k3, q6]
    have s1 : fX11_holds_l24 T 0 (nI n) c (nI i) Sc = some (.inl (if Sc1.1 166 6 = -1 ∧ Sc1.1 166 7 = -1 then c + 1 else c, nI (i + 1), Sc1)) := by
      unfold fX11_holds_l24 fX11_holds_b75
      rw [if_neg (by rw [n_le (by omega) (by omega)]; omega), t3, t4, hc.1 1 (by decide), hc.1 3 (by decide), w1, k1, b_q, t1, t2, q1, b_q, v_isWell, b1_q]
      by_cases q : Sc1.1 166 6 = -1 ∧ Sc1.1 166 7 = -1
      · rw [if_pos q, if_neg (by decide), let_q, let_q, n_addL, if_pos q]
      · rw [if_neg q, if_pos rfl, let_q, n_addL, if_neg q]
    have s2 : fX12_holds_l29 T 187 (nI n) c (nI i) Sr = some (.inl (if Sc1.1 166 6 = -1 ∧ Sc1.1 166 7 = -1 then c + 1 else c, nI (i + 1), Sr1)) := by
      unfold fX12_holds_l29 fX12_holds_b62 fX12_holds_b63
      rw [if_neg (by rw [n_le (by omega) (by omega)]; omega), q2, b_q]
      simp only [let_q, n_addL, Int32.add_zero]
      have hwl := rowEnd_well q3
      by_cases y1 : Sr1.1 187 49 = -1
      · rw [if_pos y1]
        by_cases y2 : Sr1.1 187 50 = -1
        · rw [if_pos y2, if_pos (hwl.mp ⟨y1, y2⟩)]
        · rw [if_neg y2, if_neg (fun z => y2 (hwl.mpr z).2)]
      · rw [if_neg y1, if_neg (fun z => y1 (hwl.mpr z).1)]
    obtain ⟨v, Sc', Sr', p1, p2, p3, p4⟩ := ih (i + 1) _ Sc1 Sr1 (by omega) (bkC_I g1 hc) (rwC_I g1 rc) (bkR_h q5 hr) (rwR_h q5 rr) hd1
    exact ⟨v, Sc', Sr', lp_go s1 p1, lp_go s2 p2, gI_tr g1 p3, hR_tr q5 p4⟩
theorem ok26 : oK26 invTS := by
  rintro T S ⟨hT, hi⟩ x1 x2
  obtain ⟨t1, t2, t3, t4⟩ := zT_cells hT
  obtain ⟨-, -, -, B, A, hb, -⟩ := id hi
  obtain ⟨b1, b2, b3, b4, b5, b6⟩ := id hb
  have ei : ∀ S : zS, fX12_in T x2.toInt64 1 100 S = some (if 1 ≤ x2.toInt ∧ x2.toInt ≤ 100 then 1 else 0) := by
    intro S
    rw [v_in32]
    rfl
  unfold fX11_holds fX12_holds fX12_holds_b16
  rw [t4]
  rcases drawable (T := T) x1 x2 S with ⟨r, e, ⟨rfl, q⟩ | ⟨rfl, q⟩⟩
  · rw [e, b1_q, if_neg (by decide), let_q]
    have hx2 : x2 = nI x2.toNatClampNeg := (nI_n (by omega)).symm
    have hn : x2.toNatClampNeg ≤ 100 := by have := z_tn (i := x2) (by omega); omega
    obtain ⟨a, f1, f2⟩ := det (oc := lp (fun a => fX11_holds_l24 T 0 (nI x2.toNatClampNeg) a.1 a.2.1 a.2.2) (0, nI 0, zJ S 185 0 x1.toInt64)) (P := fun Sr : zS => bkR Sr.1 B ∧ rwR Sr.1 A ∧ Sr.2 187 52 = x1.toInt64) (g := fun Sr => lp (fun a => fX12_holds_l29 T 187 (nI x2.toNatClampNeg) a.1 a.2.1 a.2.2) (0, nI 0, Sr)) (Q := fun Sr a b => a.1 = b.1 ∧ gI S a.2 ∧ hR Sr b.2) (fun Sr hSr => by
      obtain ⟨v, Sc', Sr', p1, p2, p3, p4⟩ := holds_loop hT b1 b2 hn x2.toNatClampNeg 0 0 (zJ S 185 0 x1.toInt64) Sr (by omega) (bkC_cg (fun a b _ _ => rfl) b3) (rwC_cg (fun a b _ _ => rfl) b5) hSr.1 hSr.2.1 (by rw [zJ_s, hSr.2.2])
      exact ⟨(v, Sc'), (v, Sr'), p1, p2, rfl, fun a b n => p3 a b n, p4⟩) (c0 := zJ S 187 52 x1.toInt64) ⟨b4, b6, zJ_s⟩
    obtain ⟨b, g1, g2, g3, g4⟩ := f2 (zJ S 187 52 x1.toInt64) ⟨b4, b6, zJ_s⟩
    have hk := kp_I g3
    obtain ⟨b', h1, h2, h3, h4⟩ := f2 (zJ a.2 187 52 x1.toInt64) ⟨bkR_kp hk.1 b4, rwR_cg b2.1 (hk.1 _ _ rfl) (fun a b _ _ _ => hk.1 a b (decide_eq_true (by omega))) b6, zJ_s⟩
    rw [← hx2] at f1 h1
    have f1' : lp (fun a => fX11_holds_l24 T 0 x2 a.1 a.2.1 a.2.2) (0, 0, zJ S 185 0 x1.toInt64) = some a := f1
    have h1' : lp (fun a => fX12_holds_l29 T 187 x2 a.1 a.2.1 a.2.2) (0, 0, zJ a.2 187 52 x1.toInt64) = some b' := h1
    rw [f1', b1_q]
    refine ⟨a.1, a.2, b'.2, rfl, ?_, hT, inv_R h4 (inv_J rfl (inv_kp hk.1 hk.2 hi))⟩
    rw [if_neg (by rw [z_lt]; show ¬ _ < (0 : Int); omega), ei, if_pos ⟨q.2.1, q.2.2⟩, b1_q, if_neg (by decide), let_q, h1', b1_q, h2]
  · rw [e, b1_q, if_pos rfl]
    refine ⟨_, _, _, rfl, ?_, hT, hi⟩
    by_cases q0 : x1 < 0
    · rw [if_pos q0]
    · rw [if_neg q0, ei, if_neg (fun z => q ⟨z_le.mp (z_nlt q0), z.1, z.2⟩), b1_q, if_pos rfl]
