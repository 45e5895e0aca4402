/-- the reference's ints but where it lives -/
def gQ (S S' : zS) : Prop := ∀ a b, ¬ (216 ≤ a ∧ a ≤ 226) → ¬ (a = 187 ∧ 47 ≤ b ∧ b ≤ 51) → S'.1 a b = S.1 a b
theorem gQ_tr {S S1 S2 : zS} (h : gQ S S1) (h' : gQ S1 S2) : gQ S S2 := fun a b n m => (h' a b n m).trans (h a b n m)
theorem gQ_refl {S : zS} : gQ S S := fun _ _ _ _ => rfl
theorem gQ_e {S S' : zS} (h : S'.1 = S.1) : gQ S S' := fun _ _ _ _ => by rw [h]
theorem gQ_z {S S' : zS} {k i : Nat} {x : Int32} (hk : (216 ≤ k ∧ k ≤ 226) ∨ (k = 187 ∧ 47 ≤ i ∧ i ≤ 51)) (h : gQ S S') : gQ S (zI S' k i x) := fun a b n m => (zI_o (by omega)).trans (h a b n m)
theorem gQ_h {S S' : zS} (h : hR S S') : gQ S S' := fun a b n m => h.1 a b (by omega) m
theorem bkR_Q {S S' : zS} {B : Bk} (h : gQ S S') (hb : bkR S.1 B) : bkR S'.1 B := bkR_cg (fun a b hab => by have := rN_big hab; exact h a b (by omega) (by omega)) hb
theorem rwR_Q {S S' : zS} {A : Rw} (h : gQ S S') (hr : rwR S.1 A) : rwR S'.1 A := ⟨by rw [h _ _ (by omega) (by omega)]; exact hr.1, fun i hi j hj => by rw [h _ _ (by omega) (by omega)]; exact hr.2 i hi j hj⟩
theorem ruR_Q {S S' : zS} {s : Nat} {L : List Rc} (hL : okRu L) (h : gQ S S') (hr : ruR S s L) : ruR S' s L := ruR_cg (by have := hL.1; omega) (fun a b _ _ _ _ _ => h a b (by omega) (by omega)) hr
theorem ruC_I {S S' : zS} {q : Nat} {L : List Rc} (hq : q < 6) (h : gI S S') (hr : ruC S (46 + 5 * q) L) : ruC S' (46 + 5 * q) L := ruC_cg (fun a b _ _ => h a b (by omega)) hr
theorem kp_Q {S S' : zS} (h : gQ S S') : (∀ a b, kp a b = true → S'.1 a b = S.1 a b) ∧ ∀ a b, kpP a b = true → S'.1 a b = S.1 a b := ⟨fun a b q => h a b (by have := of_decide_eq_true q; omega) (by have := of_decide_eq_true q; omega), fun a b q => h a b (by have := of_decide_eq_true q; omega) (by have := of_decide_eq_true q; omega)⟩
theorem gI_z {S S' : zS} {k i : Nat} {x : Int32} (hk : 166 ≤ k ∧ k ≤ 175) (h : gI S S') : gI S (zI S' k i x) := fun a b n => (zI_o (by omega)).trans (h a b n)
theorem gI_e {S S' : zS} (h : S'.1 = S.1) : gI S S' := fun _ _ _ => by rw [h]
section
variable {T : zT} {B : Bk} {L : List Rc} {q w : Nat} {cap : Int}
theorem lfR_e {ww : Int} {Sc Sr Sc' Sr' : zS} (h : lfR B ww cap Sc Sr) (e1 : Sc'.1 = Sc.1) (e2 : Sr'.1 = Sr.1) : lfR B ww cap Sc' Sr' := by unfold lfR lfP lfT lfC lfL at h ⊢; rw [e1, e2]; exact h
theorem rlF_e {Sc Sr Sc' Sr' : zS} (h : rlF B Sc Sr) (e1 : Sc'.1 = Sc.1) (e2 : Sr'.1 = Sr.1) : rlF B Sc' Sr' := by unfold rlF at h ⊢; rw [e1, e2]; exact h
theorem wel_e {Sc Sr Sc' Sr' : zS} (h : wel Sc Sr) (e1 : Sc'.1 = Sc.1) (e2 : Sr'.1 = Sr.1) : wel Sc' Sr' := by unfold wel at h ⊢; rw [e1, e2]; exact h
theorem lfD_e {d : Nat} {Sc Sr Sc' Sr' : zS} (h : lfD d Sc Sr) (e1 : Sc'.1 = Sc.1) (e2 : Sr'.1 = Sr.1) : lfD d Sc' Sr' := by unfold lfD at h ⊢; rw [e1, e2]; exact h
/-- a thing is fetched, by both -/
theorem ft_sim (hT : iT T) (hw : w < 60) {Sc Sr : zS} (hc : bkC Sc 7 B) (hr : bkR Sr.1 B) (rel : lfR B w cap Sc Sr) (hf : rlF B Sc Sr) (hwl : wel Sc Sr) (hcap : cap < 2147483648) {t : Nat} (ht : t < 8) (hin : zm (linn Sc) t = true) (hle : B.1 0 t + B.1 1 t * nI w ≤ Sc.1 166 3) : fX4_fetchOne T 166 (nI t) (nI w) Sc = some (1, sFetch Sc t (nI w)) ∧ lfR B w cap (sFetch Sc t (nI w)) (zI (zI (zI Sr 187 48 (Sr.1 187 48 - (B.1 0 t + B.1 1 t * nI w))) 216 t 1) 225 t (nI w)) ∧ rlF B (sFetch Sc t (nI w)) (zI (zI (zI Sr 187 48 (Sr.1 187 48 - (B.1 0 t + B.1 1 t * nI w))) 216 t 1) 225 t (nI w)) ∧ wel (sFetch Sc t (nI w)) (zI (zI (zI Sr 187 48 (Sr.1 187 48 - (B.1 0 t + B.1 1 t * nI w))) 216 t 1) 225 t (nI w)) ∧ gI Sc (sFetch Sc t (nI w)) ∧ linn (sFetch Sc t (nI w)) = linn Sc &&& (((1 : Int32) <<< (nI t &&& 31)) ^^^ (-1)) := by
  obtain ⟨l1, l2, l3⟩ := linn_th hc hin
  have elow := rl_owd hf ht l1 (nI w)
  have hb := (lowd_btw (by omega) rel ht l1).1
  obtain ⟨e48, hcn⟩ := rel.2.2.1
  refine ⟨by rw [v_fetchOne hT ht, elow, if_pos ⟨hin, hle⟩], ⟨?_, ?_, ⟨?_, ?_⟩, ?_⟩, ⟨?_, ?_, ?_⟩, ?_, ?_, ?_⟩
  · refine lfP_up ht rel.1 ?_ ?_ ?_ ?_ ?_ ?_ ?_ ?_
    · simp (decide := true) only [sFetch, zI_ne, zI_eqs]
      exact is8_or rel.1.1 (is8_shl ht)
    · simp (decide := true) only [sFetch, zI_ne, zI_eqn]
      exact rel.1.2.1
    · intro u hu hn
      simp (decide := true) only [sFetch, zI_ne, zI_eqs]
      exact m_or_ne ht hn
    · intro u hu hn
      simp (decide := true) only [sFetch, zI_ne, zI_eqn]
    · intro _
      simp (decide := true) only [sFetch, zI_ne, zI_eqn]
      exact ⟨l1, l3⟩
    · intro _; exact l1
    · simp (decide := true) only [sFetch, zI_ne, zI_eqs]
      exact (plc_home.mpr (m_or_eq ht)).symm
    · intro u hu hn
      simp (decide := true) only [zI_ne, zI_eqn hn]
  · refine lfT_eq rel.2.1 ?_ ?_ ?_ ?_ ?_ ?_ ?_ ?_ <;> (try intro u) <;> simp (decide := true) only [sFetch, zI_ne, zI_eqn]
  · simp (decide := true) only [sFetch, zI_ne, zI_eqn, zI_eqs]
    rw [e48, elow]
  · simp (decide := true) only [sFetch, zI_ne, zI_eqn, zI_eqs]
    rw [elow] at hb ⊢
    have h2 := z_le.mp hle
    obtain ⟨p1, p2⟩ := hb
    obtain ⟨p3, p4⟩ := hcn
    unfold btw
    rw [z_sub (by omega) (by omega)]
    omega
  · unfold lfL
    simp (decide := true) only [sFetch, zI_ne, zI_eqn]
    exact rel.2.2.2
  · intro u hu hz
    simp (decide := true) only [sFetch, zI_ne]
    exact hf.1 u hu hz
  · intro u hu
    simp (decide := true) only [sFetch, zI_eq]
    by_cases z : u = t
    · rw [if_pos z, if_pos z]
    · rw [if_neg z, if_neg z]
      simp (decide := true) only [zI_ne]
      exact hf.2.1 u hu
  · simp (decide := true) only [sFetch, zI_ne, zI_eqn]
    exact hf.2.2
  · unfold wel
    simp (decide := true) only [sFetch, zI_ne, zI_eqn]
    exact hwl
  · exact gI_z (by omega) (gI_z (by omega) (gI_z (by omega) (fun _ _ _ => rfl)))
  · unfold linn sFetch
    simp (decide := true) only [zI_ne, zI_eqn, zI_eqs]
    rw [bkC_th hc]
    refine m_ext (fun u hu => ?_)
    rw [m_dif, m_dif, m_dif, m_dif, m_dif, m_or, m_shl (by omega) hu]
    cases zm (bth B) u <;> cases zm (Sc.1 166 4) u <;> cases zm (Sc.1 166 5) u <;> cases decide (u = t) <;> rfl
theorem pc_less {x : Int32} {t : Nat} (hx : is8 x) (ht : t < 8) (hz : zm x t = true) : pc (x &&& (((1 : Int32) <<< (nI t &&& 31)) ^^^ (-1))) + 1 = pc x := by
  obtain ⟨e, hn⟩ := is8_n hx
  have key : ∀ n, n < 256 → ∀ t, t < 8 → zm (nI n) t = true → pc (nI n &&& (((1 : Int32) <<< (nI t &&& 31)) ^^^ (-1))) + 1 = pc (nI n) := by decide +kernel
  rw [e] at hz ⊢
  exact key _ hn t ht hz
theorem pc_none {x : Int32} (h : pc x = 0) {t : Nat} (ht : t < 8) : zm x t = false := by
  unfold pc at h
  have h1 := List.length_eq_zero_iff.mp h
  cases hz : zm x t with
  | false => rfl
  | true =>
    have : t ∈ (List.range 8).filter (fun t => zm x t) := List.mem_filter.mpr ⟨List.mem_range.mpr ht, hz⟩
    rw [h1] at this; cases this
/-- a week's fetching, from where the reference asks what is next -/
theorem in_loop (hT : iT T) (hB : okB B) (hL : okRu L) (hq : q < 6) (hw : w < 60) (hcap : cap < 2147483648) (l2 : Int64) (x2 r11 : Int32) : ∀ (m k : Nat) (Sc Sr : zS), k + m = 8 → bkC Sc 7 B → bkR Sr.1 B → ruC Sc (46 + 5 * q) L → ruR Sr (2 + q) L → lfR B w cap Sc Sr → rlF B Sc Sr → wel Sc Sr → pc (linn Sc) ≤ m → ∃ Sc' Sr', (lp (fun a => fX4_liveByRule_l35 T 166 (46 + 5 * q) l2 (nI w) a.1 a.2) (nI k, Sc) = some (.inl Sc') ∨ lp (fun a => fX4_liveByRule_l35 T 166 (46 + 5 * q) l2 (nI w) a.1 a.2) (nI k, Sc) = some (.inr Sc')) ∧ (∀ {β : Type} (K : zS → Option β), zb (fX12_nextOf T 187 (nI q) (nI w) Sr) (fun r19 S21 => zb1 (lp (fun a => fX12_follows_l67 T 187 (nI q) x2 (nI w) r11 a.1 a.2) (r19, S21)) K) = K Sr') ∧ lfR B w cap Sc' Sr' ∧ rlF B Sc' Sr' ∧ wel Sc' Sr' ∧ gI Sc Sc' ∧ gQ Sr Sr' ∧ Sr'.2 187 52 = Sr.2 187 52 := by
  intro m
  induction m with
  | zero =>
    intro k Sc Sr hk hc hr hrc hrr rel hf hwl hpc
    obtain ⟨v, Sc1, Sr1, p1, p2, p3, p4, p5, p6⟩ := lm_sim hT hB hL hq hc hr hrc hrr rel hf (w := nI w)
    have hv : v = -1 := by
      rcases p6 with p6 | ⟨u, hu, -, hz, -⟩
      · exact p6
      · rw [pc_none (by omega) hu] at hz; cases hz
    refine ⟨Sc, Sr1, Or.inl (lp_stop ?_), fun K => ?_, lfR_e rel rfl p4, rlF_e hf rfl p4, wel_e hwl rfl p4, fun _ _ _ => rfl, gQ_e p4, p5⟩
    · show fX4_liveByRule_l35 T 166 (46 + 5 * q) l2 (nI w) (nI k) Sc = _
      unfold fX4_liveByRule_l35
      rw [if_pos (by rw [n_leL (by omega) (by omega)]; omega)]
    · rw [p2, b_q, hv, lp_stop (f := fun a => fX12_follows_l67 T 187 (nI q) x2 (nI w) r11 a.1 a.2) (a := ((-1 : Int32), Sr1)) (e := Sr1) (by
        show fX12_follows_l67 T 187 (nI q) x2 (nI w) r11 (-1) Sr1 = _
        unfold fX12_follows_l67
        rw [if_pos rfl]), b1_q]
  | succ m ih =>
    intro k Sc Sr hk hc hr hrc hrr rel hf hwl hpc
    obtain ⟨v, Sc1, Sr1, p1, p2, p3, p4, p5, p6⟩ := lm_sim hT hB hL hq hc hr hrc hrr rel hf (w := nI w)
    have s1 : fX4_liveByRule_l35 T 166 (46 + 5 * q) l2 (nI w) (nI k) Sc = if v = (-1) then some (.inr (.inl Sc1)) else zb (fX4_fetchOne T 166 v (nI w) Sc1) fun r14 S16 => if r14 = 0 then some (.inr (.inr S16)) else zlet (nI k + 1) fun u18 => some (.inl (u18, S16)) := by
      unfold fX4_liveByRule_l35
      rw [if_neg (by rw [n_leL (by omega) (by omega)]; omega), p1, b_q]
    have rel1 := lfR_e rel p3 p4
    have hf1 := rlF_e hf p3 p4
    have hwl1 := wel_e hwl p3 p4
    have hc1 : bkC Sc1 7 B := bkC_cg (fun a b _ _ => by rw [p3]) hc
    have hr1 : bkR Sr1.1 B := by rw [p4]; exact hr
    have stop : v = -1 → ∃ Sc' Sr', (lp (fun a => fX4_liveByRule_l35 T 166 (46 + 5 * q) l2 (nI w) a.1 a.2) (nI k, Sc) = some (.inl Sc') ∨ lp (fun a => fX4_liveByRule_l35 T 166 (46 + 5 * q) l2 (nI w) a.1 a.2) (nI k, Sc) = some (.inr Sc')) ∧ (∀ {β : Type} (K : zS → Option β), zb (fX12_nextOf T 187 (nI q) (nI w) Sr) (fun r19 S21 => zb1 (lp (fun a => fX12_follows_l67 T 187 (nI q) x2 (nI w) r11 a.1 a.2) (r19, S21)) K) = K Sr') ∧ lfR B w cap Sc' Sr' ∧ rlF B Sc' Sr' ∧ wel Sc' Sr' ∧ gI Sc Sc' ∧ gQ Sr Sr' ∧ Sr'.2 187 52 = Sr.2 187 52 := by
      intro hv
      rw [if_pos hv] at s1
      refine ⟨Sc1, Sr1, Or.inl (lp_stop s1), fun K => ?_, rel1, hf1, hwl1, gI_e p3, gQ_e p4, p5⟩
      rw [p2, b_q, hv, lp_stop (f := fun a => fX12_follows_l67 T 187 (nI q) x2 (nI w) r11 a.1 a.2) (a := ((-1 : Int32), Sr1)) (e := Sr1) (by
        show fX12_follows_l67 T 187 (nI q) x2 (nI w) r11 (-1) Sr1 = _
        unfold fX12_follows_l67
        rw [if_pos rfl]), b1_q]
    rcases p6 with p6 | ⟨u, hu, rfl, hz, hle⟩
    · exact stop p6
    · have hin1 : zm (linn Sc1) u = true := by unfold linn at hz ⊢; rw [p3]; exact hz
      have hle1 : B.1 0 u + B.1 1 u * nI w ≤ Sc1.1 166 3 := by
        rw [p3]
        have a := z_le.mp hle
        obtain ⟨b1, b2⟩ := rel.2.2.1.2
        obtain ⟨k1, k2⟩ := keepF_btw hL
        rw [z_sub (by omega) (by omega)] at a
        exact z_le.mpr (by omega)
      obtain ⟨f1, f2, f3, f4, f6, f7⟩ := ft_sim hT hw hc1 hr1 rel1 hf1 hwl1 hcap hu hin1 hle1
      rw [if_neg (n_m1 (by omega)), f1, b_q, if_neg n10, let_q, n_addL] at s1
      have g1 : gI Sc (sFetch Sc1 u (nI w)) := gI_tr (gI_e p3) f6
      have gz : gQ Sr (zI (zI (zI Sr1 187 48 (Sr1.1 187 48 - (B.1 0 u + B.1 1 u * nI w))) 216 u 1) 225 u (nI w)) := gQ_z (by omega) (gQ_z (by omega) (gQ_z (by omega) (gQ_e p4)))
      have hpc1 : pc (linn (sFetch Sc1 u (nI w))) ≤ m := by
        rw [f7]
        have h8 : is8 (linn Sc1) := linn8 hB hc1
        have := pc_less h8 hu hin1
        have e : linn Sc1 = linn Sc := by unfold linn; rw [p3]
        rw [e] at this ⊢
        omega
      obtain ⟨Sc', Sr', k1, k2, k3, k4, k5, k7, k8, k9⟩ := ih (k + 1) _ _ (by omega) (bkC_I g1 hc) (bkR_Q gz hr) (ruC_I hq g1 hrc) (ruR_Q hL gz hrr) f2 f3 f4 hpc1
      refine ⟨Sc', Sr', ?_, fun K => ?_, k3, k4, k5, gI_tr g1 k7, gQ_tr gz k8, k9.trans p5⟩
      · rcases k1 with k1 | k1
        · exact Or.inl (lp_go s1 k1)
        · exact Or.inr (lp_go s1 k1)
      · rw [← k2 K, p2, b_q]
        have s2 : fX12_follows_l67 T 187 (nI q) x2 (nI w) r11 (nI u) Sr1 = zb (fX12_nextOf T 187 (nI q) (nI w) (zI (zI (zI Sr1 187 48 (Sr1.1 187 48 - (B.1 0 u + B.1 1 u * nI w))) 216 u 1) 225 u (nI w))) fun r30 S32 => some (.inl (r30, S32)) := by
          unfold fX12_follows_l67
          rw [if_neg (n_m1 (by omega)), r_firstOwed hT hr1 hu, b1_q, let_q, g_in hu (by decide), let_q, g_in hu (by decide), let_q, zT_187_40 hT, zT_187_61 hT, tn_nI (by omega)]
        -- one more turn of the loop is the rest of it
        obtain ⟨v2, -, Sr2, -, n2, -⟩ := lm_sim hT hB hL hq (bkC_I g1 hc) (bkR_Q gz hr) (ruC_I hq g1 hrc) (ruR_Q hL gz hrr) f2 f3 (w := nI w)
        rw [n2, b_q] at s2 ⊢
        cases hl : lp (fun a => fX12_follows_l67 T 187 (nI q) x2 (nI w) r11 a.1 a.2) (v2, Sr2) with
        | none =>
          have := k2 (fun S => some S)
          rw [n2, b_q, hl] at this
          cases this
        | some e => rw [lp_go (f := fun a => fX12_follows_l67 T 187 (nI q) x2 (nI w) r11 a.1 a.2) (a := (nI u, Sr1)) s2 hl]
end
