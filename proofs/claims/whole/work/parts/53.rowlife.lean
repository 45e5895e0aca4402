/-! THE WEEKS BY THE ROW, in both -/
def hR (S S' : zS) : Prop := (∀ a b, ¬ (216 ≤ a ∧ a ≤ 222) → ¬ (a = 187 ∧ 47 ≤ b ∧ b ≤ 51) → S'.1 a b = S.1 a b) ∧ ∀ a b, ¬ (a = 211 ∨ a = 212) → ¬ (a = 187 ∧ b = 52) → S'.2 a b = S.2 a b
theorem hR_g {S S' : zS} (h : gR S S') : hR S S' := ⟨h.1, fun a b n _ => h.2 a b n⟩
theorem hR_refl {S : zS} : hR S S := hR_g gR_refl
theorem hR_tr {S S1 S2 : zS} (h : hR S S1) (h' : hR S1 S2) : hR S S2 := ⟨fun a b n m => (h'.1 a b n m).trans (h.1 a b n m), fun a b n m => (h'.2 a b n m).trans (h.2 a b n m)⟩
theorem bkR_h {S S' : zS} {B : Bk} (h : hR S S') (hb : bkR S.1 B) : bkR S'.1 B := bkR_cg (fun a b hab => by have := rN_big hab; exact h.1 a b (by omega) (by omega)) hb
theorem rwR_h {S S' : zS} {A : Rw} (h : hR S S') (hr : rwR S.1 A) : rwR S'.1 A := ⟨by rw [h.1 _ _ (by omega) (by omega)]; exact hr.1, fun i hi j hj => by rw [h.1 _ _ (by omega) (by omega)]; exact hr.2 i hi j hj⟩
/-- whether there is work: as the reference comes to it (way, pattern), and by which draws -/
def wrkR (T : zT) (B : Bk) (W : Nat) (x1 x2 : Int32) (wk : Nat → Int32) (dr : Nat → Int64) : Prop := ∀ w, w < W → ∀ S : zS, bkR S.1 B → S.2 187 52 = dr w → ∃ S', fX12_works T 187 x1 x2 (nI w) S = some (wk w, S') ∧ S'.1 = S.1 ∧ S'.2 187 52 = dr (w + 1) ∧ ∀ a b, ¬ (a = 187 ∧ b = 52) → S'.2 a b = S.2 a b
def wrkC (W : Nat) (l : Int64) (wk : Nat → Int32) : Prop := ∀ w, w < W → wk w = if (lg_cmp ((l >>> ((nI w).toInt64 &&& 63)) &&& 1) 0) = 0 then 0 else 1
def rowEnd (B : Bk) (W : Nat) (Sc Sr : zS) : Prop := Sr.1 187 49 = Sc.1 166 6 ∧ Sr.1 187 50 = Sc.1 166 7 ∧ Sr.1 187 48 = Sc.1 166 3 ∧ lfP B Sc Sr ∧ ∃ d, d ≤ W ∧ lfD d Sc Sr
noncomputable def rFin (T : zT) (e51 : Int32 × zS) : Option (Unit × zS) := if (e51.2.1 187 49) = (-1) then if (e51.2.1 187 50) = (-1) then if (e51.2.1 187 36) ≤ e51.1 then fX12_goesBy_b273 T e51.2 else zlet (zI e51.2 187 49 e51.1) fun S55 => fX12_goesBy_b273 T S55 else fX12_goesBy_b273 T e51.2 else fX12_goesBy_b273 T e51.2
noncomputable def cFin (T : zT) (e26 : (Int32 × zS) ⊕ zS) : Option (Unit × zS) := zsm e26 (fun e26_0 => fX4_liveByRow_b96 T 166 41 e26_0.1 e26_0.2) (fun e26_1 => some ((), e26_1))
theorem v_isWell1 {T : zT} {S : zS} (h1 : S.1 166 6 = -1) (h2 : S.1 166 7 = -1) : fX4_isWell T 166 S = some 1 := by rw [v_isWell, if_pos ⟨h1, h2⟩]
theorem v_isWell0 {T : zT} {S : zS} (h : ¬ (S.1 166 6 = -1 ∧ S.1 166 7 = -1)) : fX4_isWell T 166 S = some 0 := by rw [v_isWell, if_neg h]
section
variable {T : zT} {B : Bk} {A : Rw} {W : Nat} {x1 x2 : Int32} {wk : Nat → Int32} {dr : Nat → Int64} {l2 : Int64}
theorem idle (hT : iT T) (hW : B.1 6 1 = nI W) (h60 : W ≤ 60) (hwr : wrkR T B W x1 x2 wk dr) (x : Int32) : ∀ (m w : Nat) (Sr : zS), w + m = W → bkR Sr.1 B → ¬ (Sr.1 187 49 = -1 ∧ Sr.1 187 50 = -1) → Sr.2 187 52 = dr w → ∃ Sr', lp (fun a => fX12_goesBy_l9 T 187 x1 x2 a.1 a.2.1 a.2.2) (x, nI w, Sr) = some (x, Sr') ∧ Sr'.1 = Sr.1 ∧ Sr'.2 187 52 = dr W ∧ ∀ a b, ¬ (a = 187 ∧ b = 52) → Sr'.2 a b = Sr.2 a b := by
  have i0 : zin 0 2 = true := by decide
  have t0 : (0 : Int32).toNatClampNeg = 0 := rfl
  intro m
  induction m with
  | zero =>
    intro w Sr hw hr hn hd
    have e : w = W := by omega
    subst e
    refine ⟨Sr, lp_stop ?_, rfl, hd, fun _ _ _ => rfl⟩
    show fX12_goesBy_l9 T 187 x1 x2 x (nI w) Sr = _
    unfold fX12_goesBy_l9
    rw [g_t i0, zT_187_33 hT, t0, hr.2.2.1, hW, if_pos (by rw [n_le (by omega) (by omega)]; omega)]
  | succ m ih =>
    intro w Sr hw hr hn hd
    obtain ⟨S', e1, e2, e3, e4⟩ := hwr w (by omega) Sr hr hd
    obtain ⟨Sr', g1, g2, g3, g4⟩ := ih (w + 1) S' (by omega) (by rw [e2]; exact hr) (by rw [e2]; exact hn) e3
    refine ⟨Sr', lp_go ?_ g1, g2.trans e2, g3, fun a b n => (g4 a b n).trans (e4 a b n)⟩
    show fX12_goesBy_l9 T 187 x1 x2 x (nI w) Sr = _
    unfold fX12_goesBy_l9
    rw [g_t i0, zT_187_33 hT, t0, hr.2.2.1, hW, if_neg (by rw [n_le (by omega) (by omega)]; omega), e1, b_q, e2]
    unfold fX12_goesBy_b238
    by_cases q : Sr.1 187 49 = -1
    · rw [if_pos q, if_neg (fun z => hn ⟨q, z⟩), let_q, n_addL]
    · rw [if_neg q, let_q, n_addL]
theorem row_loop (hT : iT T) (hB : okB B) (hA : okRw B A) (hW : B.1 6 1 = nI W) (h60 : W ≤ 60) (hwr : wrkR T B W x1 x2 wk dr) (hwc : wrkC W l2 wk) : ∀ (m w n : Nat) (Sc Sr : zS), w + m = W → n ≤ A.1 → bkC Sc 7 B → bkR Sr.1 B → rwC Sc 41 A → rwR Sr.1 A → lfR B w (10000 + 10000 * n + 240000 * w) Sc Sr → wel Sc Sr → lfD w Sc Sr → Sr.2 187 52 = dr w → ∃ Sc' Sr', zb1 (lp (fun a => fX4_liveByRow_l10 T 166 41 l2 a.1 a.2.1 a.2.2) (nI n, nI w, Sc)) (cFin T) = some ((), Sc') ∧ zb1 (lp (fun a => fX12_goesBy_l9 T 187 x1 x2 a.1 a.2.1 a.2.2) (nI n, nI w, Sr)) (rFin T) = some ((), Sr') ∧ rowEnd B W Sc' Sr' ∧ gC Sc Sc' ∧ hR Sr Sr' ∧ Sr'.2 187 52 = dr W := by
  have i0 : zin 0 2 = true := by decide
  have t0 : (0 : Int32).toNatClampNeg = 0 := rfl
  have hA60 := hA.1
  intro m
  induction m with
  | zero =>
    intro w n Sc Sr hw hn hc hr rc rr rel hwl hd hdr
    have e : w = W := by omega
    subst e
    have s1 : fX4_liveByRow_l10 T 166 41 l2 (nI n) (nI w) Sc = some (.inr (.inl (nI n, Sc))) := by
      unfold fX4_liveByRow_l10
      rw [zT_166_0 hT, hc.1 1 (by decide), hW, if_pos (by rw [n_le (by omega) (by omega)]; omega)]
    have s2 : fX12_goesBy_l9 T 187 x1 x2 (nI n) (nI w) Sr = some (.inr (nI n, Sr)) := by
      unfold fX12_goesBy_l9
      rw [g_t i0, zT_187_33 hT, t0, hr.2.2.1, hW, if_pos (by rw [n_le (by omega) (by omega)]; omega)]
    rw [lp_stop (f := fun a => fX4_liveByRow_l10 T 166 41 l2 a.1 a.2.1 a.2.2) (a := (nI n, nI w, Sc)) s1, lp_stop (f := fun a => fX12_goesBy_l9 T 187 x1 x2 a.1 a.2.1 a.2.2) (a := (nI n, nI w, Sr)) s2, b1_q, b1_q]
    unfold rFin
    show ∃ Sc' Sr', fX4_liveByRow_b96 T 166 41 (nI n) Sc = some ((), Sc') ∧ (if Sr.1 187 49 = -1 then if Sr.1 187 50 = -1 then if Sr.1 187 36 ≤ nI n then fX12_goesBy_b273 T Sr else zlet (zI Sr 187 49 (nI n)) fun S55 => fX12_goesBy_b273 T S55 else fX12_goesBy_b273 T Sr else fX12_goesBy_b273 T Sr) = some ((), Sr') ∧ _
    rw [if_pos hwl.2.2.1, if_pos hwl.2.2.2]
    unfold fX4_liveByRow_b96 fX4_liveByRow_b111 fX12_goesBy_b273
    rw [rc.1, rr.1]
    by_cases q : nI A.1 ≤ nI n
    · rw [if_pos q, if_pos q]
      exact ⟨Sc, Sr, rfl, rfl, ⟨by rw [hwl.2.2.1, hwl.1], by rw [hwl.2.2.2, hwl.2.1], rel.2.2.1.1, rel.1, w, Nat.le_refl _, hd⟩, gC_refl, hR_refl, hdr⟩
    · rw [if_neg q, if_neg q]
      refine ⟨_, _, rfl, rfl, ⟨?_, ?_, ?_, ?_, w, Nat.le_refl _, ?_⟩, gC_z (by omega) gC_refl, hR_g (gR_z (by omega) gR_refl), hdr⟩
      · rw [zI_eqs, zI_eqs]
      · rw [zI_eqn (by decide), zI_eqn (by decide), hwl.2.2.2, hwl.2.1]
      · rw [zI_eqn (by decide), zI_eqn (by decide)]; exact rel.2.2.1.1
      · refine lfP_eq rel.1 ?_ ?_ ?_ <;> (try intro u _) <;> simp (decide := true) only [zI_ne, zI_eqn]
      · unfold lfD
        simp (decide := true) only [zI_eqn, zI_ne]
        exact hd
  | succ m ih =>
    intro w n Sc Sr hw hn hc hr rc rr rel hwl hd hdr
    obtain ⟨S8, k1, k2, k3, k4⟩ := hwr w (by omega) Sr hr hdr
    have hw60 : w < 60 := by omega
    have g8 : hR Sr S8 := ⟨fun a b _ _ => by rw [k2], fun a b _ n => k4 a b n⟩
    have hr8 : bkR S8.1 B := by rw [k2]; exact hr
    have rr8 : rwR S8.1 A := by rw [k2]; exact rr
    have rel8 : lfR B w (10000 + 10000 * n + 240000 * w) Sc S8 := by unfold lfR lfP lfT lfC lfL at rel ⊢; rw [k2]; exact rel
    have hwl8 : wel Sc S8 := by unfold wel at hwl ⊢; rw [k2]; exact hwl
    have hd8 : lfD w Sc S8 := by unfold lfD at hd ⊢; rw [k2]; exact hd
    obtain ⟨Sc1, Sr1, e1, e2, rel1, hwb, hd1, gc1, gr1⟩ := start_sim hT hB hw60 hc hr8 rel8 (by omega) hwl8 hd8
    have s2 : fX12_goesBy_l9 T 187 x1 x2 (nI n) (nI w) Sr = fX12_goesBy_e120 T 187 x1 x2 (nI n) (nI w) (wk w) Sr1 := by
      rw [← e2 x1 x2 (nI n) (wk w)]
      unfold fX12_goesBy_l9 rStart
      rw [g_t i0, zT_187_33 hT, t0, hr.2.2.1, hW, if_neg (by rw [n_le (by omega) (by omega)]; omega), k1, b_q, if_pos hwl8.2.2.1, if_pos hwl8.2.2.2]
    have hc1 := bkC_g gc1 hc
    have hr1 := bkR_g gr1 hr8
    have rc1 := rwC_g gc1 rc
    have rr1 := rwR_g gr1 rr8
    have dr1 : Sr1.2 187 52 = dr (w + 1) := by rw [gr1.2 _ _ (by omega)]; exact k3
    have s1 : fX4_liveByRow_l10 T 166 41 l2 (nI n) (nI w) Sc = zb1 (fX4_isWell T 166 Sc1) fun r9 => if r9 = 0 then fX4_liveByRow_b53 T 166 41 l2 (nI n) (nI w) Sc1 else zb (fX4_doActs T 166 41 (nI n) (nI w) Sc1) fun r23 S25 => fX4_liveByRow_b53 T 166 41 l2 r23 (nI w) S25 := by
      unfold fX4_liveByRow_l10
      rw [zT_166_0 hT, hc.1 1 (by decide), hW, if_neg (by rw [n_le (by omega) (by omega)]; omega), if_neg (by rw [n_leL (by omega) (by omega)]; omega), e1, b_q]
    -- the class is not well: it ends there
    have cbad : ∀ (x : Int32) (S : zS), ¬ (S.1 166 6 = -1 ∧ S.1 166 7 = -1) → fX4_liveByRow_b53 T 166 41 l2 x (nI w) S = some (.inr (.inr S)) := by
      intro x S h
      unfold fX4_liveByRow_b53 fX4_liveByRow_b82
      rw [v_isWell0 h, b1_q, if_pos rfl, b1_q, if_pos rfl]
    -- and the reference idles
    have rbad : ∀ (x : Int32) (S S' : zS), fX12_goesBy_l9 T 187 x1 x2 (nI n) (nI w) Sr = some (.inl (x, nI (w + 1), S)) → bkR S.1 B → ¬ (S.1 187 49 = -1 ∧ S.1 187 50 = -1) → S.2 187 52 = dr (w + 1) → ∃ Sr', zb1 (lp (fun a => fX12_goesBy_l9 T 187 x1 x2 a.1 a.2.1 a.2.2) (nI n, nI w, Sr)) (rFin T) = some ((), Sr') ∧ Sr'.1 = S.1 ∧ Sr'.2 187 52 = dr W ∧ ∀ a b, ¬ (a = 187 ∧ b = 52) → Sr'.2 a b = S.2 a b := by
      intro x S _ hs hrS hbS hdS
      obtain ⟨Sr', p1, p2, p3, p4⟩ := idle hT hW h60 hwr x m (w + 1) S (by omega) hrS hbS hdS
      refine ⟨Sr', ?_, p2, p3, p4⟩
      rw [lp_go (f := fun a => fX12_goesBy_l9 T 187 x1 x2 a.1 a.2.1 a.2.2) (a := (nI n, nI w, Sr)) hs p1, b1_q]
      unfold rFin fX12_goesBy_b273
      show (if Sr'.1 187 49 = -1 then if Sr'.1 187 50 = -1 then _ else _ else _) = _
      rw [p2]
      by_cases q : S.1 187 49 = -1
      · rw [if_pos q, if_neg (fun z => hbS ⟨q, z⟩)]
      · rw [if_neg q]
    have e120 : ∀ (x : Int32) (S : zS), lp (fun a => fX12_goesBy_l120 T 187 x1 x2 (nI w) (wk w) a.1 a.2) (nI n, Sr1) = some (x, S) → fX12_goesBy_e120 T 187 x1 x2 (nI n) (nI w) (wk w) Sr1 = fX12_goesBy_b178 T 187 x1 x2 x (nI w) (wk w) S := by
      intro x S h
      unfold fX12_goesBy_e120
      rw [h, b1_q]
    have b178bad : ∀ (x : Int32) (S : zS), ¬ (S.1 187 49 = -1 ∧ S.1 187 50 = -1) → fX12_goesBy_b178 T 187 x1 x2 x (nI w) (wk w) S = some (.inl (x, nI (w + 1), S)) := by
      intro x S h
      unfold fX12_goesBy_b178 fX12_goesBy_b238
      by_cases q : S.1 187 50 = -1
      · rw [if_pos q, if_neg (fun z => h ⟨z, q⟩), let_q, n_addL]
      · rw [if_neg q, let_q, n_addL]
    -- both are through, and the end is told
    have done : ∀ (x : Int32) (Sc2 Sr2 : zS) (d : Nat) (cap : Int) (w' : Int), fX4_liveByRow_l10 T 166 41 l2 (nI n) (nI w) Sc = some (.inr (.inr Sc2)) → fX12_goesBy_l9 T 187 x1 x2 (nI n) (nI w) Sr = some (.inl (x, nI (w + 1), Sr2)) → d ≤ W → lfD d Sc2 Sr2 → lfR B w' cap Sc2 Sr2 → Sr2.1 187 49 = Sc2.1 166 6 → Sr2.1 187 50 = Sc2.1 166 7 → ¬ (Sr2.1 187 49 = -1 ∧ Sr2.1 187 50 = -1) → gC Sc1 Sc2 → gR Sr1 Sr2 → ∃ Sc' Sr', zb1 (lp (fun a => fX4_liveByRow_l10 T 166 41 l2 a.1 a.2.1 a.2.2) (nI n, nI w, Sc)) (cFin T) = some ((), Sc') ∧ zb1 (lp (fun a => fX12_goesBy_l9 T 187 x1 x2 a.1 a.2.1 a.2.2) (nI n, nI w, Sr)) (rFin T) = some ((), Sr') ∧ rowEnd B W Sc' Sr' ∧ gC Sc Sc' ∧ hR Sr Sr' ∧ Sr'.2 187 52 = dr W := by
      intro x Sc2 Sr2 d cap w' hs1 hs2 hdW hd2 rel2 h49 h50 hbad gc2 gr2
      obtain ⟨Sr', p1, p2, p3, p4⟩ := rbad x Sr2 Sr2 hs2 (bkR_g gr2 hr1) hbad (by rw [gr2.2 _ _ (by omega)]; exact dr1)
      refine ⟨Sc2, Sr', ?_, p1, ⟨by rw [p2]; exact h49, by rw [p2]; exact h50, by rw [p2]; exact rel2.2.2.1.1, ?_, d, hdW, ?_⟩, gC_tr gc1 gc2, hR_tr g8 (hR_tr (hR_g (gR_tr gr1 gr2)) ⟨fun a b _ _ => by rw [p2], fun a b _ n => p4 a b n⟩), p3⟩
      · rw [lp_stop (f := fun a => fX4_liveByRow_l10 T 166 41 l2 a.1 a.2.1 a.2.2) (a := (nI n, nI w, Sc)) hs1, b1_q]
        rfl
      · have := rel2.1
        unfold lfP at this ⊢
        rw [p2]; exact this
      · unfold lfD at hd2 ⊢
        rw [p2]; exact hd2
    rcases hwb with hwel | hbrk
    · -- well: the acts
      rw [v_isWell1 hwel.1 hwel.2.1, b1_q, if_neg (by decide)] at s1
      obtain ⟨n', x, Sc2, Sr2, a1, a2, a3, a4, a5, a6, a7⟩ := acts_loop hT hB hA hw60 (c0 := 10000 + 240000 * w) (by omega) x1 x2 (wk w) (A.1 - n) n Sc1 Sr1 (by omega) hc1 hr1 rc1 rr1 (by rw [show (10000 + 240000 * (w : Int)) + 10000 * (n : Int) = 10000 + 10000 * n + 240000 * w by omega]; exact rel1) hwel hd1
      have a1' : fX4_doActs T 166 41 (nI n) (nI w) Sc1 = some (nI n', Sc2) := a1
      rw [a1', b_q] at s1
      rw [e120 x Sr2 a2] at s2
      rcases a4 with ⟨rfl, hwel2, rel2⟩ | ⟨b1, b2, b3, b4, b5, rel2⟩
      · -- the end of the week
        obtain ⟨Sc3, Sr3, d1, d2, rel3, d4, gc3, gr3⟩ := end_sim hT hB hw60 (bkC_g a6 hc1) (bkR_g a7 hr1) rel2 (by omega) hwel2 a5 (wk w)
        rw [d2 x1 x2 (nI n')] at s2
        have s1' : fX4_liveByRow_l10 T 166 41 l2 (nI n) (nI w) Sc = fX4_liveByRow_b82 T 166 41 l2 (nI n') (nI w) Sc3 := by
          rw [s1]
          unfold fX4_liveByRow_b53
          rw [v_isWell1 hwel2.1 hwel2.2.1, b1_q, if_neg (by decide)]
          have hwcw := hwc w (by omega)
          by_cases q : (lg_cmp ((l2 >>> ((nI w).toInt64 &&& 63)) &&& 1) 0) = 0
          · rw [if_pos q] at hwcw ⊢
            unfold fX4_liveByRow_b79
            rw [hwcw] at d1
            rw [d1, b_q]
          · rw [if_neg q] at hwcw ⊢
            unfold fX4_liveByRow_b79
            rw [hwcw] at d1
            rw [d1, b_q]
        unfold fX4_liveByRow_b82 at s1'
        rcases d4 with ⟨hwel3, hd3⟩ | ⟨hbrk3, hd3⟩
        · rw [v_isWell1 hwel3.1 hwel3.2.1, b1_q, if_neg (by decide), let_q, n_addL] at s1'
          have gr3' : gR S8 Sr3 := gR_tr gr1 (gR_tr a7 gr3)
          have gc3' : gC Sc Sc3 := gC_tr gc1 (gC_tr a6 gc3)
          obtain ⟨Sc', Sr', q1, q2, q3, q4, q5, q6⟩ := ih (w + 1) n' Sc3 Sr3 (by omega) a3 (bkC_g gc3' hc) (bkR_g gr3' hr8) (rwC_g gc3' rc) (rwR_g gr3' rr8) (by
            have e : (10000 + 240000 * (w : Int)) + 10000 * (n' : Int) + 240000 = 10000 + 10000 * (n' : Int) + 240000 * ((w + 1 : Nat) : Int) := by omega
            rw [← e]
            exact rel3) hwel3 hd3 (by rw [gr3'.2 _ _ (by omega)]; exact k3)
          refine ⟨Sc', Sr', ?_, ?_, q3, gC_tr gc3' q4, hR_tr g8 (hR_tr (hR_g gr3') q5), q6⟩
          · cases hl : lp (fun a => fX4_liveByRow_l10 T 166 41 l2 a.1 a.2.1 a.2.2) (nI n', nI (w + 1), Sc3) with
            | none => rw [hl] at q1; cases q1
            | some e =>
              rw [lp_go (f := fun a => fX4_liveByRow_l10 T 166 41 l2 a.1 a.2.1 a.2.2) (a := (nI n, nI w, Sc)) s1' hl]
              rw [hl] at q1
              exact q1
          · cases hl : lp (fun a => fX12_goesBy_l9 T 187 x1 x2 a.1 a.2.1 a.2.2) (nI n', nI (w + 1), Sr3) with
            | none => rw [hl] at q2; cases q2
            | some e =>
              rw [lp_go (f := fun a => fX12_goesBy_l9 T 187 x1 x2 a.1 a.2.1 a.2.2) (a := (nI n, nI w, Sr)) s2 hl]
              rw [hl] at q2
              exact q2
        · rw [v_isWell0 (fun z => n_m1 (n := w) (by omega) (hbrk3.2.2.1 ▸ z.2)), b1_q, if_pos rfl] at s1'
          exact done (nI n') Sc3 Sr3 w _ _ s1' s2 (by omega) hd3 rel3 (by rw [hbrk3.1, hbrk3.2.1]) (by rw [hbrk3.2.2.1, hbrk3.2.2.2]) (fun z => n_m1 (n := w) (by omega) (hbrk3.2.2.2 ▸ z.2)) (gC_tr a6 gc3) (gR_tr a7 gr3)
      · rw [cbad (nI n') Sc2 (fun z => n_m1 (n := n') (by omega) (b2 ▸ z.1))] at s1
        rw [b178bad x Sr2 (fun z => n_m1 (n := n') (by omega) (b3 ▸ z.1))] at s2
        exact done x Sc2 Sr2 w _ _ s1 s2 (by omega) a5 rel2 (by rw [b2, b3]) (by rw [b4, b5]) (fun z => n_m1 (n := n') (by omega) (b3 ▸ z.1)) a6 a7
    · -- broke at once
      have hnw : ¬ (Sc1.1 166 6 = -1 ∧ Sc1.1 166 7 = -1) := fun z => n_m1 (n := w) (by omega) (hbrk.2.2.1 ▸ z.2)
      have hnr : ¬ (Sr1.1 187 49 = -1 ∧ Sr1.1 187 50 = -1) := fun z => n_m1 (n := w) (by omega) (hbrk.2.2.2 ▸ z.2)
      rw [v_isWell0 hnw, b1_q, if_pos rfl, cbad _ _ hnw] at s1
      have l120 : lp (fun a => fX12_goesBy_l120 T 187 x1 x2 (nI w) (wk w) a.1 a.2) (nI n, Sr1) = some (nI n, Sr1) := by
        refine lp_stop ?_
        show fX12_goesBy_l120 T 187 x1 x2 (nI w) (wk w) (nI n) Sr1 = _
        unfold fX12_goesBy_l120
        by_cases q : Sr1.1 187 50 = -1
        · rw [if_pos q, if_neg (fun z => hnr ⟨z, q⟩)]
        · rw [if_neg q]
      rw [e120 _ _ l120, b178bad _ _ hnr] at s2
      exact done (nI n) Sc1 Sr1 w _ _ s1 s2 (by omega) hd1 rel1 (by rw [hbrk.1, hbrk.2.1]) (by rw [hbrk.2.2.1, hbrk.2.2.2]) hnr gC_refl gR_refl
end
