/-! THE WEEKS BY A RULE, in both -/
def rulEnd (B : Bk) (Sc Sr : zS) : Prop := Sc.1 166 6 = -1 ∧ Sr.1 187 50 = Sc.1 166 7 ∧ Sr.1 187 48 = Sc.1 166 3 ∧ lfP B Sc Sr ∧ (∀ t, t < 8 → Sr.1 225 t = Sc.1 172 t) ∧ 0 ≤ (Sc.1 166 3).toInt
section
variable {T : zT} {B : Bk} {L : List Rc} {q W : Nat} {x2 : Int32} {wk : Nat → Int32} {dr : Nat → Int64} {l2 : Int64}
theorem idle2 (hT : iT T) (hW : B.1 6 1 = nI W) (h60 : W ≤ 60) (hwr : wrkR T B W x2 0 wk dr) : ∀ (m w : Nat) (Sr : zS), w + m = W → bkR Sr.1 B → ¬ Sr.1 187 50 = -1 → Sr.2 187 52 = dr w → ∃ Sr', lp (fun a => fX12_follows_l27 T 187 (nI q) x2 a.1 a.2) (nI w, Sr) = some Sr' ∧ Sr'.1 = Sr.1 ∧ Sr'.2 187 52 = dr W := by
  have i0 : zin 0 2 = true := by decide
  have t0 : (0 : Int32).toNatClampNeg = 0 := rfl
  intro m
  induction m with
  | zero =>
    intro w Sr hw hr hn hd
    have e : w = W := by omega
    subst e
    refine ⟨Sr, lp_stop ?_, rfl, hd⟩
    show fX12_follows_l27 T 187 (nI q) x2 (nI w) Sr = _
    unfold fX12_follows_l27
    rw [g_t i0, zT_187_33 hT, t0, hr.2.2.1, hW, if_pos (by rw [n_le (by omega) (by omega)]; omega)]
  | succ m ih =>
    intro w Sr hw hr hn hd
    obtain ⟨S', e1, e2, e3, e4⟩ := hwr w (by omega) Sr hr hd
    obtain ⟨Sr', g1, g2, g3⟩ := ih (w + 1) S' (by omega) (by rw [e2]; exact hr) (by rw [e2]; exact hn) e3
    refine ⟨Sr', lp_go ?_ g1, g2.trans e2, g3⟩
    show fX12_follows_l27 T 187 (nI q) x2 (nI w) Sr = _
    unfold fX12_follows_l27 fX12_follows_b140
    rw [g_t i0, zT_187_33 hT, t0, hr.2.2.1, hW, if_neg (by rw [n_le (by omega) (by omega)]; omega), e1, b_q, e2, if_neg hn, let_q, n_addL]
noncomputable def cRul (T : zT) (e30 : zS ⊕ zS) : Option (Unit × zS) := zsm e30 (fun e30_0 => fX4_liveByRule_b113 T e30_0) (fun e30_1 => some ((), e30_1))
theorem gI_E {S S' : zS} (h : fE S S') : gI S S' := fun a b n => h a b (by omega) (by omega) (by omega)
theorem gQ_G {S S' : zS} (h : fG S S') : gQ S S' := fun a b n m => h a b (by omega)
theorem rule_loop (hT : iT T) (hB : okB B) (hL : okRu L) (hq : q < 6) (hW : B.1 6 1 = nI W) (h60 : W ≤ 60) (hwr : wrkR T B W x2 0 wk dr) (hwc : wrkC W l2 wk) : ∀ (m w : Nat) (Sc Sr : zS), w + m = W → bkC Sc 7 B → bkR Sr.1 B → ruC Sc (46 + 5 * q) L → ruR Sr (2 + q) L → lfR B w (10000 + 240000 * w) Sc Sr → rlF B Sc Sr → wel Sc Sr → Sr.2 187 52 = dr w → ∃ Sc' Sr', zb1 (lp (fun a => fX4_liveByRule_l7 T 166 (46 + 5 * q) l2 a.1 a.2) (nI w, Sc)) (cRul T) = some ((), Sc') ∧ lp (fun a => fX12_follows_l27 T 187 (nI q) x2 a.1 a.2) (nI w, Sr) = some Sr' ∧ rulEnd B Sc' Sr' ∧ gI Sc Sc' ∧ gQ Sr Sr' ∧ Sr'.2 187 52 = dr W := by
  have i0 : zin 0 2 = true := by decide
  have t0 : (0 : Int32).toNatClampNeg = 0 := rfl
  intro m
  induction m with
  | zero =>
    intro w Sc Sr hw hc hr hrc hrr rel hf hwl hdr
    have e : w = W := by omega
    subst e
    have s1 : fX4_liveByRule_l7 T 166 (46 + 5 * q) l2 (nI w) Sc = some (.inr (.inl Sc)) := by
      unfold fX4_liveByRule_l7
      rw [zT_166_0 hT, hc.1 1 (by decide), hW, if_pos (by rw [n_le (by omega) (by omega)]; omega)]
    have s2 : fX12_follows_l27 T 187 (nI q) x2 (nI w) Sr = some (.inr Sr) := by
      unfold fX12_follows_l27
      rw [g_t i0, zT_187_33 hT, t0, hr.2.2.1, hW, if_pos (by rw [n_le (by omega) (by omega)]; omega)]
    refine ⟨Sc, Sr, ?_, lp_stop s2, ⟨hwl.1, by rw [hwl.2.2.2, hwl.2.1], rel.2.2.1.1, rel.1, hf.2.1, rel.2.2.1.2.1⟩, fun _ _ _ => rfl, gQ_refl, hdr⟩
    rw [lp_stop (f := fun a => fX4_liveByRule_l7 T 166 (46 + 5 * q) l2 a.1 a.2) (a := (nI w, Sc)) s1, b1_q]
    rfl
  | succ m ih =>
    intro w Sc Sr hw hc hr hrc hrr rel hf hwl hdr
    obtain ⟨S8, k1, k2, k3, k4⟩ := hwr w (by omega) Sr hr hdr
    have hw60 : w < 60 := by omega
    have hr8 : bkR S8.1 B := by rw [k2]; exact hr
    have rel8 := lfR_e rel rfl k2
    have hf8 := rlF_e hf rfl k2
    have hwl8 := wel_e hwl rfl k2
    -- the start of the week
    obtain ⟨p, S14, e1, e2, rel1, hfr⟩ := los_sim hT hc hr8 rel8
    generalize hS3 : zI Sc 166 5 ((Sc.1 166 5) ||| (p &&& ((Sc.1 166 4) ^^^ (-1)))) = S3 at rel1
    have f3 : fC Sc S3 := by rw [← hS3]; exact fC_z (by omega) fC_refl
    have hstart : fX4_startWeek T 166 (nI w) Sc = some ((), S3) := by
      unfold fX4_startWeek fX4_startWeek_b80
      rw [zT_166_0 hT, e1, b1_q, let_q, hS3]
      have : S3.1 166 16 = 0 := by rw [← hS3, zI_eqn (by decide)]; exact hf.2.2
      rw [if_pos this]
    have g3 : gI Sc S3 := by rw [← hS3]; exact gI_z (by omega) (fun _ _ _ => rfl)
    have g14 : gQ Sr S14 := fun a b n m => by rw [hfr.2 a b (by omega) (by omega) (by omega), k2]
    have hf3 : rlF B S3 S14 := by
      refine ⟨fun t ht hz => ?_, fun t ht => ?_, ?_⟩
      · rw [← hS3, zI_ne (by decide), zI_ne (by decide), zI_ne (by decide)]; exact hf.1 t ht hz
      · rw [← hS3, zI_ne (by decide), hfr.2 _ _ (by omega) (by omega) (by omega), k2]; exact hf.2.1 t ht
      · rw [← hS3, zI_eqn (by decide)]; exact hf.2.2
    have hwl3 := wel_f hwl8 f3 hfr
    have hlin : pc (linn S3) ≤ 8 := pc_le _
    obtain ⟨Sc1, Sr1, l1, l2', rel2, hf2, hwl2, g4, g5, d5⟩ := in_loop hT hB hL hq hw60 (cap := 10000 + 240000 * (w : Int)) (by omega) l2 x2 (wk w) 8 0 S3 S14 (by omega) (bkC_I g3 hc) (bkR_Q g14 hr) (ruC_I hq g3 hrc) (ruR_Q hL g14 hrr) rel1 hf3 hwl3 hlin
    have gc1 : gI Sc Sc1 := gI_tr g3 g4
    have gr1 : gQ Sr Sr1 := gQ_tr g14 g5
    obtain ⟨Sc2, r, Sr2, n1, n2, rel3, hend, fe, fg, d6, d7⟩ := ends_sim hT hB hw60 (bkC_I gc1 hc) (bkR_Q gr1 hr) rel2 (by omega) hwl2 (wk w)
    have hf4 := rlF_E hf2 fe fg
    have gc2 : gI Sc Sc2 := gI_tr gc1 (gI_E fe)
    have gr2 : gQ Sr Sr2 := gQ_tr gr1 (gQ_G fg)
    have dr2 : Sr2.2 187 52 = dr (w + 1) := by rw [d6, d5, hfr.1]; exact k3
    -- the class's step
    have s1 : fX4_liveByRule_l7 T 166 (46 + 5 * q) l2 (nI w) Sc = zb1 (fX4_isWell T 166 Sc2) fun r24 => if r24 = 0 then some (.inr (.inr Sc2)) else some (.inl (nI (w + 1), Sc2)) := by
      unfold fX4_liveByRule_l7
      rw [zT_166_0 hT, hc.1 1 (by decide), hW, if_neg (by rw [n_le (by omega) (by omega)]; omega), if_neg (by rw [n_leL (by omega) (by omega)]; omega), hstart, b_q]
      have b77 : fX4_liveByRule_b77 T 166 (46 + 5 * q) l2 (nI w) Sc1 = zb1 (fX4_isWell T 166 Sc2) fun r24 => if r24 = 0 then some (.inr (.inr Sc2)) else some (.inl (nI (w + 1), Sc2)) := by
        unfold fX4_liveByRule_b77 fX4_liveByRule_b96
        have hwcw := hwc w (by omega)
        simp only [let_q, n_addL]
        by_cases z : (lg_cmp ((l2 >>> ((nI w).toInt64 &&& 63)) &&& 1) 0) = 0
        · rw [if_pos z] at hwcw ⊢
          rw [hwcw] at n1
          rw [n1, b_q]
        · rw [if_neg z] at hwcw ⊢
          rw [hwcw] at n1
          rw [n1, b_q]
      rcases l1 with l1 | l1
      · have l1' : lp (fun a => fX4_liveByRule_l35 T 166 (46 + 5 * q) l2 (nI w) a.1 a.2) (0, S3) = some (.inl Sc1) := l1
        rw [l1', b1_q]; exact b77
      · have l1' : lp (fun a => fX4_liveByRule_l35 T 166 (46 + 5 * q) l2 (nI w) a.1 a.2) (0, S3) = some (.inr Sc1) := l1
        rw [l1', b1_q]; exact b77
    have s2 : fX12_follows_l27 T 187 (nI q) x2 (nI w) Sr = some (.inl (nI (w + 1), zI Sr2 187 51 (Sr1.1 187 51 + r))) := by
      unfold fX12_follows_l27
      rw [g_t i0, zT_187_33 hT, t0, hr.2.2.1, hW, if_neg (by rw [n_le (by omega) (by omega)]; omega), k1, b_q, if_pos hwl8.2.2.2, e2, b_q, l2' _, n2, b_q]
      unfold fX12_follows_b136 fX12_follows_b140
      rcases hend with ⟨rfl, -⟩ | ⟨rfl, -⟩
      · rw [if_neg n10]; simp only [let_q, n_addL]
      · rw [if_pos rfl]; simp only [let_q, n_addL]
    have eS3 : ∀ a b, ¬ (a = 187 ∧ b = 51) → (zI Sr2 187 51 (Sr1.1 187 51 + r)).1 a b = Sr2.1 a b := fun a b n => zI_o n
    have gr3 : gQ Sr (zI Sr2 187 51 (Sr1.1 187 51 + r)) := gQ_z (by omega) gr2
    have lfP3 : lfP B Sc2 (zI Sr2 187 51 (Sr1.1 187 51 + r)) := lfP_eq rel3.1 rfl rfl (fun u _ => eS3 _ _ (by omega))
    rcases hend with ⟨-, hwl5⟩ | ⟨-, hbrk⟩
    · rw [v_isWell1 hwl5.1 hwl5.2.1, b1_q, if_neg n10] at s1
      have rel5 : lfR B (w + 1 : Nat) (10000 + 240000 * ((w + 1 : Nat) : Int)) Sc2 (zI Sr2 187 51 (Sr1.1 187 51 + r)) := by
        have e : (10000 + 240000 * (w : Int)) + 240000 = 10000 + 240000 * ((w + 1 : Nat) : Int) := by omega
        rw [← e]
        refine ⟨lfP3, lfT_eq rel3.2.1 (fun _ => rfl) (fun _ => rfl) (fun _ => rfl) rfl (fun u => eS3 _ _ (by omega)) (fun u => eS3 _ _ (by omega)) (fun u => eS3 _ _ (by omega)) (fun u => eS3 _ _ (by omega)), ⟨(eS3 _ _ (by omega)).trans rel3.2.2.1.1, rel3.2.2.1.2⟩, (eS3 _ _ (by omega)).trans rel3.2.2.2.1, rel3.2.2.2.2⟩
      obtain ⟨Sc', Sr', q1, q2, q3, q4, q5, q6⟩ := ih (w + 1) Sc2 _ (by omega) (bkC_I gc2 hc) (bkR_Q gr3 hr) (ruC_I hq gc2 hrc) (ruR_Q hL gr3 hrr) rel5 ⟨hf4.1, fun t ht => (eS3 _ _ (by omega)).trans (hf4.2.1 t ht), hf4.2.2⟩ ⟨hwl5.1, hwl5.2.1, (eS3 _ _ (by omega)).trans hwl5.2.2.1, (eS3 _ _ (by omega)).trans hwl5.2.2.2⟩ dr2
      refine ⟨Sc', Sr', ?_, lp_go s2 q2, q3, gI_tr gc2 q4, gQ_tr gr3 q5, q6⟩
      cases hl : lp (fun a => fX4_liveByRule_l7 T 166 (46 + 5 * q) l2 a.1 a.2) (nI (w + 1), Sc2) with
      | none => rw [hl] at q1; cases q1
      | some e =>
        rw [lp_go (f := fun a => fX4_liveByRule_l7 T 166 (46 + 5 * q) l2 a.1 a.2) (a := (nI w, Sc)) s1 hl]
        rw [hl] at q1
        exact q1
    · rw [v_isWell0 (fun z => n_m1 (n := w) (by omega) (hbrk.2.2.1 ▸ z.2)), b1_q, if_pos rfl] at s1
      obtain ⟨Sr', i1, i2, i3⟩ := idle2 (q := q) hT hW h60 hwr m (w + 1) (zI Sr2 187 51 (Sr1.1 187 51 + r)) (by omega) (bkR_Q gr3 hr) (by rw [eS3 _ _ (by omega), hbrk.2.2.2]; exact n_m1 (by omega)) dr2
      refine ⟨Sc2, Sr', ?_, lp_go s2 i1, ⟨hbrk.1, ?_, ?_, ?_, fun t ht => ?_, rel3.2.2.1.2.1⟩, gc2, gQ_tr gr3 (gQ_e i2), i3⟩
      · rw [lp_stop (f := fun a => fX4_liveByRule_l7 T 166 (46 + 5 * q) l2 a.1 a.2) (a := (nI w, Sc)) s1, b1_q]
        rfl
      · rw [i2, eS3 _ _ (by omega), hbrk.2.2.2, hbrk.2.2.1]
      · rw [i2, eS3 _ _ (by omega)]; exact rel3.2.2.1.1
      · exact lfP_eq lfP3 rfl rfl (fun u _ => by rw [i2])
      · rw [i2, eS3 _ _ (by omega)]; exact hf4.2.1 t ht
/-- a rule followed by both -/
theorem rule_sim (hT : iT T) (hB : okB B) (hL : okRu L) (hq : q < 6) (hW : B.1 6 1 = nI W) (h60 : W ≤ 60) (hwr : wrkR T B W x2 0 wk dr) (hwc : wrkC W l2 wk) {Sc Sr : zS} (hc : bkC Sc 7 B) (hr : bkR Sr.1 B) (hrc : ruC Sc (46 + 5 * q) L) (hrr : ruR Sr (2 + q) L) (hd : Sr.2 187 52 = dr 0) : ∃ Sc' Sr', fX4_liveByRule T 166 (46 + 5 * q) l2 Sc = some ((), Sc') ∧ fX12_follows T 187 (nI q) x2 Sr = some ((), Sr') ∧ rulEnd B Sc' Sr' ∧ gI Sc Sc' ∧ gQ Sr Sr' ∧ Sr'.2 187 52 = dr W ∧ Sc'.2 185 0 = Sc.2 185 0 := by
  obtain ⟨Sc1, e1, b1⟩ := c_begin hT (S := Sc)
  obtain ⟨Sr1, e2, b2⟩ := r_begins hT (S := Sr)
  obtain ⟨rel, hwl, hd0, gc, gr⟩ := begun_rel hB hc hr b1 b2
  -- nothing fetched yet
  have key : zwp (lp (fun a => fX12_follows_l6 T 187 (nI q) x2 a.1 a.2) (0, Sr1)) (fun S' => onlyI Sr1 S' 225 ∧ ∀ t, t < 8 → S'.1 225 t = -1) := by
    refine lp_for (I := fun n a => ∃ S', a = (nI n, S') ∧ onlyI Sr1 S' 225 ∧ ∀ t, t < n → S'.1 225 t = -1) 8 ?_ ?_ ?_
    · rintro n a hn ⟨S', rfl, h1, h2⟩
      left
      show ∃ a', fX12_follows_l6 T 187 (nI q) x2 (nI n) S' = _ ∧ _
      unfold fX12_follows_l6
      rw [if_neg (by rw [n_leL (by omega) (by omega)]; omega), g_in hn (by decide), let_q, let_q, n_addL, zT_187_61 hT, tn_nI (by omega)]
      refine ⟨_, rfl, _, rfl, onlyI_z h1, fun t ht => ?_⟩
      rw [zI_eq]
      by_cases z : t = n
      · rw [if_pos z]
      · rw [if_neg z]; exact h2 t (by omega)
    · rintro a ⟨S', rfl, h1, h2⟩
      refine ⟨S', ?_, h1, h2⟩
      show fX12_follows_l6 T 187 (nI q) x2 (nI 8) S' = _
      unfold fX12_follows_l6
      exact if_pos (show (8 : Int32) ≤ nI 8 by decide)
    · exact ⟨Sr1, rfl, onlyI_refl, fun t ht => absurd ht (Nat.not_lt_zero _)⟩
  obtain ⟨Sr2, e3, o1, o2⟩ := key
  have gI1 : gI Sc Sc1 := fun a b n => gc.1 a b n
  have gQ2 : gQ Sr Sr2 := fun a b n m => by rw [o1.2 _ _ (by omega)]; exact gr.1 a b (by omega) m
  have oe : ∀ a b, a ≠ 225 → Sr2.1 a b = Sr1.1 a b := o1.2
  have rel2 : lfR B (0 : Nat) (10000 + 240000 * ((0 : Nat) : Int)) Sc1 Sr2 := by
    refine ⟨lfP_eq rel.1 rfl rfl (fun u _ => oe _ _ (by decide)), lfT_eq rel.2.1 (fun _ => rfl) (fun _ => rfl) (fun _ => rfl) rfl (fun u => oe _ _ (by decide)) (fun u => oe _ _ (by decide)) (fun u => oe _ _ (by decide)) (fun u => oe _ _ (by decide)), ⟨(oe _ _ (by decide)).trans rel.2.2.1.1, rel.2.2.1.2⟩, (oe _ _ (by decide)).trans rel.2.2.2.1, rel.2.2.2.2⟩
  have hf2 : rlF B Sc1 Sr2 := by
    obtain ⟨c0, c1, c2, c3, c4, c5, c6, c7, c8, c9⟩ := b1
    refine ⟨fun t ht hz => ?_, fun t ht => by rw [o2 t ht, (c9 t ht).2.2.2], c8⟩
    obtain ⟨p1, p2, p3, p4⟩ := c9 t ht
    exact ⟨p1.trans (hc.2.1 t ht hz 0 (by decide)), p2.trans (hc.2.1 t ht hz 1 (by decide)), p3⟩
  have hwl2 : wel Sc1 Sr2 := ⟨hwl.1, hwl.2.1, (oe _ _ (by decide)).trans hwl.2.2.1, (oe _ _ (by decide)).trans hwl.2.2.2⟩
  obtain ⟨Sc', Sr', q1, q2, q3, q4, q5, q6⟩ := rule_loop hT hB hL hq hW h60 hwr hwc W 0 Sc1 Sr2 (by omega) (bkC_I gI1 hc) (bkR_Q gQ2 hr) (ruC_I hq gI1 hrc) (ruR_Q hL gQ2 hrr) rel2 hf2 hwl2 (by rw [o1.1, gr.2 _ _ (by omega)]; exact hd)
  have hC : fX4_liveByRule T 166 (46 + 5 * q) l2 Sc = some ((), Sc') := by
    unfold fX4_liveByRule
    rw [e1, b_q]
    exact q1
  refine ⟨Sc', Sr', hC, ?_, q3, gI_tr gI1 q4, gQ_tr gQ2 q5, q6, ?_⟩
  · unfold fX12_follows
    have q2' : lp (fun a => fX12_follows_l27 T 187 (nI q) x2 a.1 a.2) (0, Sr2) = some Sr' := q2
    rw [e2, b_q, e3, b1_q, q2', b1_q]
  · exact wJ_X4_liveByRule (T := T) (a := 185) (b := 0) (S0 := Sc) (by rw [zT_166_2 hT, zT_167_0 hT]; decide) (by rw [zT_166_2 hT, zT_167_1 hT]; decide) (by rw [zT_166_1 hT, zT_163_0 hT]; decide) (by rw [zT_166_1 hT, zT_163_1 hT]; decide) rfl _ hC
end
