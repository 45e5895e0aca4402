/-! WISE, both -/
theorem tb_n : ∀ t, t < 8 → tb t = nI (2 ^ t) ∧ 2 ^ t < 256 := by decide
theorem rfL_none {B : Bk} {G : Cg} {h : Nat} : ∀ w s, rfL B G h (-1) w s = -1 := by
  intro w
  induction w with
  | zero =>
    intro s
    show (if s = h then (-1 : Int) else -1) = -1
    split <;> rfl
  | succ w ih =>
    intro s
    rw [rfL_S]
    rcases bst_at (cnd B G (rfL B G h (-1) w) w s) 256 with q | ⟨i, hi, q⟩
    · exact q
    · rw [q, cnd_no (Or.inl (by rw [ih]; decide))]
def wiseC (B : Bk) (t : Nat) : Int := if (B.1 6 2 - B.1 0 t).toInt < 0 then -1 else (B.1 6 2 - B.1 0 t).toInt
def wiseV (B : Bk) (t : Nat) : Int32 := iO (bst (rfL B G0 (2 ^ t) (wiseC B t) (bw B)) 256)
theorem wiseC_bd {B : Bk} (hB : okB B) {t : Nat} (ht : t < 8) (hz : zm (bth B) t = true) : (B.1 6 2 - B.1 0 t).toInt ≤ 1000000 ∧ -1 ≤ wiseC B t ∧ wiseC B t ≤ 1000000 := by
  obtain ⟨d1, d2⟩ := hB.2.2.2.1
  obtain ⟨⟨a1, a2⟩, -⟩ := hB.2.1 t ht hz
  have : (B.1 6 2 - B.1 0 t).toInt = (B.1 6 2).toInt - (B.1 0 t).toInt := z_sub (by omega) (by omega)
  unfold wiseC
  split <;> omega
theorem v_neverPut {T : zT} (hT : iT T) {B : Bk} (hB : okB B) {t : Nat} (ht : t < 8) (hz : zm (bth B) t = true) {S : zS} (hc : bkC S 7 B) (hp : rwOK B S.1) : ∃ S', fX5_bestNeverPut T 176 (nI t) S = some (wiseV B t, S') ∧ onlyI S S' 181 := by
  obtain ⟨ebw, b1, b2⟩ := bw_n hB
  obtain ⟨c1, c2⟩ := wiseC_bd hB ht hz
  obtain ⟨t1, t2⟩ := tb_n t ht
  have e00 : (0 : Int32).toInt = 0 := rfl
  have bk : ∀ {S'}, onlyI S S' 181 → bkC S' 7 B := fun ho => bkC_cg (fun a b _ _ => ho.2 a b (by omega)) hc
  have rk : ∀ {S'}, onlyI S S' 181 → rwOK B S'.1 := fun ho => rwOK_cg (fun a b h => ho.2 a b (by omega)) hp
  have hM : ∀ u, u < 8 → zm (nI (2 ^ t)) u = true → zm (bth B) u = true := by
    intro u hu h
    rw [← t1, tb_m ht] at h
    rw [of_decide_eq_true h]; exact hz
  have hi : ∀ w u, w < 60 → u < 8 → zm (innC B G0 (nI w)) u = true → zm (bth B) u = true := by
    intro w u _ hu h
    rw [innC_0 hB, mi_m] at h
    cases x : zm (bth B) u with
    | true => rfl
    | false => rw [x] at h; cases h
  unfold fX5_bestNeverPut
  rw [g_in ht (by decide), tn_nI (by omega), zT_176_0 hT, zT_7_6 hT, zT_176_11 hT, hc.1 2 (by decide), hc.2.1 t ht hz 0 (by decide), let_q]
  by_cases y : 0 ≤ B.1 6 2 - B.1 0 t
  · have y' := z_le.mp y
    have ec : wiseC B t = (B.1 6 2 - B.1 0 t).toInt := if_neg (by omega)
    obtain ⟨S1, e1, o1, l1⟩ := c_start (T := T) (B := B) (k := 181) (h := 2 ^ t) (c := B.1 6 2 - B.1 0 t) (x := 1 <<< (nI t &&& 31)) (S := S) t2 t1
    rw [← ec] at l1
    have key : zwp (lp (fun a => fX5_bestNeverPut_l37 T 176 a.1 a.2) (0, S1)) (fun S' => onlyI S S' 181 ∧ isLn S' 181 (rfL B G0 (2 ^ t) (wiseC B t) (bw B))) := by
      refine lp_for (I := fun n a => ∃ S', a = (nI n, S') ∧ onlyI S S' 181 ∧ isLn S' 181 (rfL B G0 (2 ^ t) (wiseC B t) n)) (bw B) ?_ ?_ ?_
      · rintro n a hn ⟨S', rfl, o, l⟩
        left
        show ∃ a', fX5_bestNeverPut_l37 T 176 (nI n) S' = _ ∧ _
        have l' : isLn S' 181 (fun s => ajC B G0 n (rfL B G0 (2 ^ t) (wiseC B t) n s)) := fun s hs => by
          rw [l s hs]
          exact (ajC_0 (by omega) (rfL_bd hB okG_0 c2 n (by omega) s hs).1).symm
        obtain ⟨S2, e2, o2, l2⟩ := v_stepG hT hB (okG_0 (B := B)) c2 (M := bth B) (fun _ _ h => h) hM hi (k := 181) (kg := 179) (w := n) (bar := 0) (by decide) (by decide) (by omega) (by rw [innC_0 hB, mi_0 (is8_mi hB.1)]) (bk o) l' (fun s hs hsub => by
          rw [(rk o).1 n hn s hs ((mi0 (is8_nI hs)).mpr hsub)]
          unfold gnC inS
          rw [goC_0])
        unfold fX5_bestNeverPut_l37
        rw [zT_176_0 hT, (bk o).1 1 (by decide), ebw, if_neg (show ¬ nI (bw B) ≤ nI n by rw [n_le (by omega) (by omega)]; omega), zT_176_11 hT, zT_176_9 hT, e2, b_q, let_q, n_addL]
        exact ⟨_, rfl, S2, rfl, onlyI_tr o o2, l2⟩
      · rintro a ⟨S', rfl, o, l⟩
        refine ⟨S', ?_, o, l⟩
        show fX5_bestNeverPut_l37 T 176 (nI (bw B)) S' = _
        unfold fX5_bestNeverPut_l37
        rw [zT_176_0 hT, (bk o).1 1 (by decide), ebw, if_pos (show nI (bw B) ≤ nI (bw B) by rw [n_le (by omega) (by omega)]; omega)]
      · exact ⟨S1, rfl, o1, l1⟩
    obtain ⟨S2, e2, o2, l2⟩ := key
    obtain ⟨r, e3, q3⟩ := v_mostIn (T := T) l2
    rw [if_pos y, e1, b_q, e2, b1_q, e3, b1_q]
    exact ⟨S2, by rw [iO_eq (bst_m1 _ _) q3]; rfl, o2⟩
  · have y' := z_lt.mp (z_nle y)
    have ec : wiseC B t = -1 := if_pos (by omega)
    rw [if_neg y]
    refine ⟨S, ?_, onlyI_refl⟩
    have : wiseV B t = -1 := by
      unfold wiseV
      rw [ec]
      have hb : bst (rfL B G0 (2 ^ t) (-1) (bw B)) 256 = -1 := by
        rcases bst_at (rfL B G0 (2 ^ t) (-1) (bw B)) 256 with q | ⟨i, hi, q⟩
        · exact q
        · rw [q, rfL_none]
      rw [hb]; rfl
    rw [this]
theorem ok17 : oK17 invTS := by
  rintro T S ⟨hT, h1, h2, h3, B, A, h4, h5⟩ x1
  have hB := h4.1
  have em : (-1 : Int32).toInt = -1 := rfl
  have e00 : (0 : Int32).toInt = 0 := rfl
  have t0 : (0 : Int32).toNatClampNeg = 0 := rfl
  obtain ⟨ebw, w1, w2⟩ := bw_n hB
  unfold fX11_wise fX11_wise_b37 fX11_wise_b49 fX12_wise fX12_wise_b60 fX12_wise_b69
  rw [zT_0_3 hT]
  rcases c_has h4.2.2.1 x1 with ⟨⟨t, ht, rfl, hz⟩, e0⟩ | ⟨hn, e0⟩
  · obtain ⟨S1, e1, f1, j1, q1, p1, i1, b1⟩ := c_ready hT h1 h2 h3 h4 h5
    have pm := p1.2.2.2.1
    obtain ⟨S2, e2, o2⟩ := v_neverPut hT hB ht hz b1.2.2.1 (rwOK_of p1)
    have i2 := inv_181 (Or.inl rfl) o2 i1
    have r2 : bkR S2.1 B := bkR_cg (fun a b hb => o2.2 a b (fun z => by subst z; exact absurd hb (by unfold rN; simp))) b1.2.2.2.1
    obtain ⟨r, S3, e3, f3, r3, q3⟩ := r_asBest hT hB r2
    obtain ⟨S4, e4, j4, f4, c4, h55, h59⟩ := r_asItIs hT r3
    obtain ⟨t1, t2⟩ := tb_n t ht
    obtain ⟨c1, c2⟩ := wiseC_bd hB ht hz
    have hh : fX12_has T 187 (nI t) S2 = some 1 := by
      rcases r_has hT r2 (nI t) with ⟨-, e⟩ | ⟨h, -⟩
      · exact e
      · exact absurd ⟨t, ht, rfl, hz⟩ h
    have r4 : bkR S4.1 B := bkR_cg (fun a b hb => f4 a b (fun z => by
      rw [z.1] at hb
      exact absurd hb (by unfold rN; simp))) r3
    have e209 : (zI S4 187 55 (1 <<< (nI t &&& 31))).1 209 0 = B.1 6 2 := by rw [zI_ne (by decide)]; exact r4.2.2.2.1
    have e200 : (zI S4 187 55 (1 <<< (nI t &&& 31))).1 200 t = B.1 0 t := by rw [zI_ne (by decide)]; exact r4.2.1 t ht 0 (by decide)
    have f5 : ∀ a b, ¬ (a = 187 ∧ 54 ≤ b ∧ b ≤ 59) → (zI (zI S4 187 55 (1 <<< (nI t &&& 31))) 187 59 (B.1 6 2 - B.1 0 t)).1 a b = S4.1 a b := by
      intro a b h
      by_cases z : a = 187
      · subst z; rw [zI_eq, if_neg (fun q => h ⟨rfl, by omega⟩), zI_eq, if_neg (fun q => h ⟨rfl, by omega⟩)]
      · rw [zI_ne z, zI_ne z]
    have r5 : bkR (zI (zI S4 187 55 (1 <<< (nI t &&& 31))) 187 59 (B.1 6 2 - B.1 0 t)).1 B := bkR_cg (fun a b hb => f5 a b (fun z => by
      rw [z.1] at hb
      exact absurd hb (by unfold rN; simp))) r4
    have c5 : cfR (zI (zI S4 187 55 (1 <<< (nI t &&& 31))) 187 59 (B.1 6 2 - B.1 0 t)) G0 := ⟨by rw [zI_eq, if_neg (by decide), zI_eq, if_neg (by decide)]; exact c4.1, by rw [zI_eq, if_neg (by decide), zI_eq, if_neg (by decide)]; exact c4.2.1, by rw [zI_eq, if_neg (by decide), zI_eq, if_neg (by decide)]; exact c4.2.2.1, by rw [zI_eq, if_neg (by decide), zI_eq, if_neg (by decide)]; exact c4.2.2.2⟩
    obtain ⟨r', S6, e6, o6, q6⟩ := r_mostCoin hT hB okG_0 (h := 2 ^ t) (c := B.1 6 2 - B.1 0 t) t2 c1 r5 c5 (by rw [zI_eq, if_neg (by decide), zI_eq, if_pos rfl]; exact t1) (by rw [zI_eq, if_pos rfl])
    have er' : r' = wiseV B t := iO_eq (bst_m1 _ _) q6
    have er : r = S1.1 176 3 := z_eq.mpr (by omega)
    have f6 : fP S2 S6 := fun a b h => (o6.1 a b (by omega)).trans ((f5 a b (by omega)).trans ((f4 a b (by omega)).trans (f3 a b h)))
    have h6 := bst_m1 (bsL B (bw B)) 256
    have h7 := bst_m1 (rfL B G0 (2 ^ t) (wiseC B t) (bw B)) 256
    have q6'' : r'.toInt = bst (rfL B G0 (2 ^ t) (wiseC B t) (bw B)) 256 := q6
    have q6' : (wiseV B t).toInt = bst (rfL B G0 (2 ^ t) (wiseC B t) (bw B)) 256 := by rw [← er']; exact q6
    rw [e0, b1_q, if_neg n10, e1, b_q, e2, b_q, o2.2 176 3 (by decide)]
    have href : ∀ (Q : Int32 × zS → Prop), (∀ x, x = (if r = -1 then some ((-1000000 : Int32), S6) else if r' = -1 then some ((-1000000 : Int32), S6) else some (r - r', S6)) → ∃ v, x = some v ∧ Q v) → ∃ v, (zb1 (fX12_has T 187 (nI t) S2) fun r1 => if r1 = 0 then some ((-2000000 : Int32), S2) else zb (fX12_asBest T 187 S2) fun r4 S6 => zb (fX12_asItIs T 187 S6) fun _ S9 => zlet (zI S9 187 55 (1 <<< (nI t &&& 31))) fun S10 => zgd (zin 0 2) (zgd (zin (nI t) 16) (zlet (zI S10 187 59 ((S10.1 (zr T 187 32) (0:Int32).toNatClampNeg) - (S10.1 (zr T 187 23) (nI t).toNatClampNeg))) fun S13 => zb (fX12_mostCoin T 187 S13) fun r14 S16 => if r4 = (-1) then some ((-1000000 : Int32), S16) else if r14 = (-1) then some ((-1000000 : Int32), S16) else some ((r4 - r14), S16)))) = some v ∧ Q v := by
      intro Q h
      refine h _ ?_
      rw [hh, b1_q, if_neg n10, e3, b_q, e4, b_q, let_q, g_t (by decide), g_in (by omega) (by decide), zT_187_32 hT, zT_187_23 hT, t0, tn_nI (by omega), e209, e200, let_q, e6, b_q]
    by_cases hm : S1.1 176 3 < 0
    · have h8 := z_lt.mp hm
      rw [if_pos hm]
      obtain ⟨v, ev, hv⟩ := href (fun v => v = ((-1000000 : Int32), S6)) (fun x hx => by
        rw [if_pos (show r = -1 from z_eq.mpr (by omega))] at hx
        exact ⟨_, hx, rfl⟩)
      rw [hv] at ev
      exact ⟨_, S2, S6, rfl, ev, hT, inv_fP f6 i2⟩
    · have h8 := z_le.mp (z_nlt hm)
      rw [if_neg hm]
      have nr : ¬ r = -1 := fun q => by rw [q, em] at q3; omega
      by_cases hw : 0 ≤ wiseV B t
      · have h9 := z_le.mp hw
        rw [if_pos hw]
        obtain ⟨v, ev, hv⟩ := href (fun v => v = (S1.1 176 3 - wiseV B t, S6)) (fun x hx => by
          rw [if_neg nr, if_neg (show ¬ r' = -1 by rw [er']; intro q; rw [q, em] at h9; omega), er, er'] at hx
          exact ⟨_, hx, rfl⟩)
        rw [hv] at ev
        exact ⟨_, S2, S6, rfl, ev, hT, inv_fP f6 i2⟩
      · have h9 := z_lt.mp (z_nle hw)
        rw [if_neg hw]
        obtain ⟨v, ev, hv⟩ := href (fun v => v = ((-1000000 : Int32), S6)) (fun x hx => by
          rw [if_neg nr, if_pos (show r' = -1 from z_eq.mpr (by omega))] at hx
          exact ⟨_, hx, rfl⟩)
        rw [hv] at ev
        exact ⟨_, S2, S6, rfl, ev, hT, inv_fP f6 i2⟩
  · have hh : fX12_has T 187 x1 S = some 0 := by
      rcases r_has hT h4.2.2.2.1 x1 with ⟨h, -⟩ | ⟨-, e⟩
      · exact absurd h hn
      · exact e
    rw [e0, b1_q, if_pos rfl]
    refine ⟨-2000000, S, S, rfl, ?_, hT, h1, h2, h3, B, A, h4, h5⟩
    rw [hh, b1_q, if_pos rfl]
