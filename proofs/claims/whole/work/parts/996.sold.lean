/-! SOLD and SELLING, both -/
/-- a thing's ticket sold in a week -/
def Gs (t W : Nat) : Cg := (0, nI t, nI W, -1)
theorem okG_s {B : Bk} {t W : Nat} (ht : t < 8) (hz : zm (bth B) t = true) : okG B (Gs t W) := ⟨fun _ _ => m_0, Or.inr ⟨t, ht, rfl, hz⟩⟩
theorem goC_s {B : Bk} {t W w : Nat} (ht : t < 8) (hz : zm (bth B) t = true) (hW : W ≤ 60) (hw : w < 60) : ∀ u, u < 8 → zm (goC B (Gs t W) (nI w)) u = (zm (lsS B w) u || (decide (u = t) && decide (W ≤ w))) := by
  intro u hu
  have e : goC B (Gs t W) (nI w) = st8 (fun v => zm (0 : Int32) v || goP B (Gs t W) (nI w) v) := rfl
  unfold lsS
  rw [e, st8_m hu, st8_m hu, m_0, Bool.false_or]
  unfold goP
  have e1 : decide (nI u = (Gs t W).2.1) = decide (u = t) := by
    have : (nI u = (Gs t W).2.1) = (u = t) := n_eq (by omega) (by omega)
    exact decide_eq_decide.mpr (by rw [this])
  have e2 : decide (¬ nI w < (Gs t W).2.2.1) = decide (W ≤ w) := by
    have : (nI w < (Gs t W).2.2.1) = (w < W) := n_lt (by omega) (by omega)
    refine decide_eq_decide.mpr ?_
    rw [this]; omega
  rw [e1, e2]
  by_cases y : u = t
  · rw [y, hz, Bool.true_and, Bool.true_and]
  · rw [decide_eq_false y, Bool.false_and, Bool.or_false, Bool.or_false]
theorem sdB_s {t W : Nat} (ht : t < 8) : sdB (Gs t W) = tb t := if_neg (n_m1' (show t < 60 by omega))
theorem innC_s {B : Bk} (hB : okB B) {t W w : Nat} (ht : t < 8) (hz : zm (bth B) t = true) (hW : W ≤ 60) (hw : w < 60) : mi (mi (bth B) (lsS B w)) (tb t) = innC B (Gs t W) (nI w) := by
  unfold innC
  rw [sdB_s ht]
  refine is8_ext (is8_mi (is8_mi hB.1)) (is8_mi (is8_mi hB.1)) (fun u hu => ?_)
  rw [mi_m, mi_m, mi_m, mi_m, goC_s ht hz hW hw u hu, tb_m ht]
  cases zm (bth B) u <;> cases zm (lsS B w) u <;> cases decide (u = t) <;> cases decide (W ≤ w) <;> rfl
theorem innC_sm {B : Bk} (hB : okB B) {t W : Nat} (ht : t < 8) (hz : zm (bth B) t = true) (hW : W ≤ 60) : ∀ w u, w < 60 → u < 8 → zm (innC B (Gs t W) (nI w)) u = true → zm (mW B t) u = true := by
  intro w u hw hu h
  rw [← innC_s hB ht hz hW hw, mi_m, mi_m, tb_m ht] at h
  rw [mW_m ht]
  cases x : zm (bth B) u <;> cases y : decide (u = t) <;> rw [x, y] at h <;> simp_all
theorem gnC_s {B : Bk} {t W w s : Nat} (ht : t < 8) (hz : zm (bth B) t = true) (hW : W ≤ 60) (hw : w < W) : gnC B (Gs t W) w s = gnN B w s (pc (inS B w s)) := by
  have e : goC B (Gs t W) (nI w) = lsS B w := is8_ext goC_is8 lsS_is8 (fun u hu => by
    rw [goC_s ht hz hW (by omega) u hu, decide_eq_false (show ¬ W ≤ w by omega), Bool.and_false, Bool.or_false])
  unfold gnC
  rw [e]
  rfl
theorem ajs_at {B : Bk} (hB : okB B) {t W : Nat} (ht : t < 8) (hz : zm (bth B) t = true) (hW : W < 60) {x : Int} : ajC B (Gs t W) W x = adI x (B.1 4 t).toInt := by
  obtain ⟨a1, a2⟩ := (hB.2.1 t ht hz).2.2.2.2.1
  unfold ajC adI
  by_cases z : x < 0
  · rw [if_pos z, if_pos z]
  · rw [if_neg z, if_neg z, if_neg (fun q => q.1 rfl), if_neg (fun q => q.1 rfl), if_neg (show ¬ nI W = (Gs t W).2.2.2 from n_m1' hW), if_pos (show nI W = (Gs t W).2.2.1 from rfl), show (Gs t W).2.1 = nI t from rfl, tn_nI (by omega), if_neg (by omega)]
    omega
theorem ajs_no {B : Bk} {t W w : Nat} (hW : W ≤ 60) (hw : w < 60) (hn : ¬ w = W) {x : Int} (h : -1 ≤ x) : ajC B (Gs t W) w x = x := ajC_id rfl (fun q => hn (by
  have q' : nI w = nI W := q
  rw [n_eq (by omega) (by omega)] at q'; exact q')) hw h
def slL (B : Bk) (t W : Nat) : Nat → Nat → Int := rfL B (Gs t W) 0 (B.1 6 2).toInt
theorem slL_bd {B : Bk} (hB : okB B) {t W : Nat} (ht : t < 8) (hz : zm (bth B) t = true) {v : Nat} (hv : v ≤ 60) : ∀ s, s < 256 → -1 ≤ slL B t W v s ∧ slL B t W v s ≤ 1000000000 := fun s hs => by
  have := rfL_bd hB (okG_s (W := W) ht hz) (h := 0) (coin_bd hB) v hv s hs
  exact ⟨this.1, by have h2 := this.2; unfold slL; omega⟩
/-- ahead of its week all is the same, whatever the week -/
theorem slL_60 {B : Bk} (hB : okB B) {t W : Nat} (ht : t < 8) (hz : zm (bth B) t = true) (hW : W ≤ 60) : ∀ v, v ≤ W → ∀ s, s < 256 → slL B t W v s = slL B t 60 v s := by
  intro v hv s hs
  show rfL B (Gs t W) 0 (B.1 6 2).toInt v s = rfL B (Gs t 60) 0 (B.1 6 2).toInt v s
  refine rfL_cg hB (G := Gs t W) (G' := Gs t 60) (okG_s ht hz) (coin_bd hB) (V := W) hW (fun u hu => ?_) (fun u s hu => ?_) (fun u x hu hx => ?_) v hv s hs
  · rw [← innC_s hB ht hz hW (by omega), ← innC_s hB ht hz (Nat.le_refl _) (by omega)]
  · rw [gnC_s ht hz hW hu, gnC_s ht hz (Nat.le_refl _) (by omega)]
  · rw [ajs_no hW (by omega) (by omega) hx, ajs_no (Nat.le_refl _) (by omega) (by omega) hx]
def slV (B : Bk) (t W : Nat) : Int32 := iO (bst (slL B t W (bw B)) 256)
theorem slV_m1 {B : Bk} (hB : okB B) {t W : Nat} (ht : t < 8) (hz : zm (bth B) t = true) : -1 ≤ (slV B t W).toInt := by
  have h := rf_bst hB (okG_s (W := W) ht hz) (h := 0) (coin_bd hB) (bw_n hB).2.2
  have h' : -1 ≤ bst (slL B t W (bw B)) 256 ∧ bst (slL B t W (bw B)) 256 ≤ 20000000 := h
  unfold slV
  rw [iO_toInt (by omega) (by omega)]
  exact h'.1
/-- a week ahead of the sale -/
theorem v_sellStep {T : zT} (hT : iT T) {B : Bk} (hB : okB B) {t W n : Nat} (ht : t < 8) (hz : zm (bth B) t = true) (hW : W ≤ 60) (hn : n < W) (hnb : n < bw B) {S : zS} (hc : bkC S 7 B) (hp : rwOK B S.1) (hf : isLn S 181 (slL B t W n)) : ∃ S', fX5_pass T 176 181 256 (nI n) (tb t) 179 15360 S = some ((), S') ∧ onlyI S S' 181 ∧ isLn S' 181 (slL B t W (n + 1)) := by
  have l : isLn S 181 (fun s => ajC B (Gs t W) n (slL B t W n s)) := isLn_cg hf (fun s hs => (ajs_no hW (by omega) (by omega) (slL_bd hB ht hz (show n ≤ 60 by omega) s hs).1).symm)
  exact v_stepG hT hB (okG_s (B := B) (W := W) ht hz) (h := 0) (coin_bd hB) (M := mW B t) mW_sub (fun u _ => zm_n0) (innC_sm hB ht hz hW) (k := 181) (kg := 179) (w := n) (bar := tb t) (by decide) (by decide) (by omega) (innC_s hB ht hz hW (by omega)) hc l (fun s hs hsub => by
    rw [hp.1 n hnb s hs ((mi0 (is8_nI hs)).mpr (fun u hu h => mW_sub u hu (hsub u hu h))), gnC_s ht hz hW hn])
theorem v_fromLine {T : zT} (hT : iT T) {B : Bk} (hB : okB B) {t W : Nat} (ht : t < 8) (hz : zm (bth B) t = true) (hW : W < bw B) {S : zS} (hc : bkC S 7 B) (hp : rwOK B S.1) (hf : isLn S 181 (slL B t W W)) : ∃ S', fX5_bestSellingFromLine T 176 (nI t) (nI W) S = some (slV B t W, S') ∧ onlyI S S' 182 := by
  obtain ⟨ebw, b1, b2⟩ := bw_n hB
  obtain ⟨a1, a2⟩ := (hB.2.1 t ht hz).2.2.2.2.1
  have t0 : (0 : Int32).toNatClampNeg = 0 := rfl
  have t256 : (256 : Int32).toNatClampNeg = 256 := rfl
  have bk : ∀ {S'}, onlyI S S' 182 → bkC S' 7 B := fun ho => bkC_cg (fun a b _ _ => ho.2 a b (by omega)) hc
  have rk : ∀ {S'}, onlyI S S' 182 → rwOK B S'.1 := fun ho => rwOK_cg (fun a b h => ho.2 a b (by omega)) hp
  have ge : zcg 0 0 256 256 256 = true := by decide
  have cp : ∀ c j, (zCp S 181 182 0 0 256).1 c j = if c = 182 ∧ 0 ≤ j ∧ j < 0 + 256 then S.1 181 (0 + (j - 0)) else S.1 c j := fun _ _ => rfl
  have o1 : onlyI S (zCp S 181 182 0 0 256) 182 := ⟨rfl, fun a b h => by rw [cp, if_neg (fun q => h q.1)]⟩
  have l1 : isLn (zCp S 181 182 0 0 256) 182 (slL B t W W) := fun s hs => by
    rw [cp, if_pos ⟨rfl, by omega, by omega⟩, Nat.sub_zero, Nat.zero_add, hf s hs]
  have e12 : (zCp S 181 182 0 0 256).1 12 t = B.1 4 t := by rw [cp, if_neg (fun q => absurd q.1 (by decide))]; exact hc.2.1 t ht hz 4 (by decide)
  obtain ⟨S1, e1, o2, l2⟩ := v_shift (T := T) (x := B.1 4 t) l1 (slL_bd hB ht hz (by omega)) (by omega)
  have key : zwp (lp (fun a => fX5_bestSellingFromLine_l34 T 176 (nI t) a.1 a.2) (nI W, S1)) (fun S' => onlyI S S' 182 ∧ isLn S' 182 (slL B t W (bw B))) := by
    refine lp_for (I := fun m a => ∃ S', a = (nI (W + m), S') ∧ onlyI S S' 182 ∧ isLn S' 182 (if m = bw B - W then slL B t W (bw B) else fun s => ajC B (Gs t W) (W + m) (slL B t W (W + m) s))) (bw B - W) ?_ ?_ ?_
    · rintro m a hm ⟨S', rfl, o, l⟩
      left
      show ∃ a', fX5_bestSellingFromLine_l34 T 176 (nI t) (nI (W + m)) S' = _ ∧ _
      rw [if_neg (by omega)] at l
      obtain ⟨kg, ek, hk, hv⟩ := v_gW hT hB ht hz (show W + m < bw B by omega) (bk o) (rk o)
      obtain ⟨S2, e2, o2, l2⟩ := v_stepG hT hB (okG_s (B := B) (W := W) ht hz) (h := 0) (coin_bd hB) (M := mW B t) mW_sub (fun u _ => zm_n0) (innC_sm hB ht hz (by omega)) (k := 182) (kg := kg) (w := W + m) (bar := tb t) (by decide) (by omega) (by omega) (innC_s hB ht hz (by omega) (by omega)) (bk o) l (hv (Gs t W) (fun u hu => by rw [goC_s ht hz (by omega) (by omega) u hu, decide_eq_true (show W ≤ W + m by omega), Bool.and_true]))
      have l2' : isLn S2 182 (slL B t W (W + m + 1)) := l2
      unfold fX5_bestSellingFromLine_l34
      rw [zT_176_0 hT, (bk o).1 1 (by decide), ebw, if_neg (show ¬ nI (bw B) ≤ nI (W + m) by rw [n_le (by omega) (by omega)]; omega), ek, b1_q, zT_176_12 hT, show (1 : Int32) <<< (nI t &&& 31) = tb t from rfl, e2, b_q, let_q, n_addL]
      refine ⟨_, rfl, S2, rfl, onlyI_tr o o2, ?_⟩
      by_cases z : m + 1 = bw B - W
      · rw [if_pos z]
        rw [show W + m + 1 = bw B by omega] at l2'
        exact l2'
      · rw [if_neg z]
        exact isLn_cg l2' (fun s hs => (ajs_no (by omega) (by omega) (by omega) (slL_bd hB ht hz (show W + m + 1 ≤ 60 by omega) s hs).1).symm)
    · rintro a ⟨S', rfl, o, l⟩
      rw [if_pos rfl] at l
      refine ⟨S', ?_, o, l⟩
      rw [show W + (bw B - W) = bw B by omega]
      show fX5_bestSellingFromLine_l34 T 176 (nI t) (nI (bw B)) S' = _
      unfold fX5_bestSellingFromLine_l34
      rw [zT_176_0 hT, (bk o).1 1 (by decide), ebw, if_pos (show nI (bw B) ≤ nI (bw B) by rw [n_le (by omega) (by omega)]; omega)]
    · refine ⟨S1, rfl, onlyI_tr o1 o2, ?_⟩
      rw [if_neg (by omega)]
      exact isLn_cg l2 (fun s hs => by
        show _ = ajC B (Gs t W) W (slL B t W W s)
        rw [ajs_at hB ht hz (by omega)])
  obtain ⟨S2, e2, o3, l3⟩ := key
  obtain ⟨r, e3, q3⟩ := v_mostIn (T := T) l3
  unfold fX5_bestSellingFromLine
  rw [g_t ge, let_q, g_in ht (by decide), zT_176_0 hT, zT_176_11 hT, zT_176_12 hT, zT_7_10 hT, t0, t256, tn_nI (show t < 2147483648 by omega), e12, e1, b_q, e2, b1_q, e3, b1_q]
  exact ⟨S2, by rw [iO_eq (bst_m1 _ _) q3]; rfl, o3⟩
def onlyQ (S S' : zS) : Prop := S'.2 = S.2 ∧ ∀ a b, a ≠ 181 → a ≠ 182 → S'.1 a b = S.1 a b
theorem onlyQ_refl {S : zS} : onlyQ S S := ⟨rfl, fun _ _ _ _ => rfl⟩
theorem onlyQ_tr {S S' S'' : zS} (h : onlyQ S S') (g : onlyQ S' S'') : onlyQ S S'' := ⟨g.1.trans h.1, fun a b m n => (g.2 a b m n).trans (h.2 a b m n)⟩
theorem onlyQ_1 {S S' : zS} (h : onlyI S S' 181) : onlyQ S S' := ⟨h.1, fun a b m _ => h.2 a b m⟩
theorem onlyQ_2 {S S' : zS} (h : onlyI S S' 182) : onlyQ S S' := ⟨h.1, fun a b _ n => h.2 a b n⟩
theorem inv_Q {S S' : zS} (o : onlyQ S S') (hi : inv S) : inv S' := inv_kp (fun a b q => o.2 a b (by have := of_decide_eq_true q; omega) (by have := of_decide_eq_true q; omega)) (fun a b q => o.2 a b (by have := of_decide_eq_true q; omega) (by have := of_decide_eq_true q; omega)) hi
theorem bk_Q {S S' : zS} {B : Bk} (o : onlyQ S S') (hc : bkC S 7 B) : bkC S' 7 B := bkC_cg (fun a b _ _ => o.2 a b (by omega) (by omega)) hc
theorem rk_Q {S S' : zS} {B : Bk} (o : onlyQ S S') (hp : rwOK B S.1) : rwOK B S'.1 := rwOK_cg (fun a b h => o.2 a b (by omega) (by omega)) hp
theorem br_Q {S S' : zS} {B : Bk} (o : onlyQ S S') (hr : bkR S.1 B) : bkR S'.1 B := bkR_cg (fun a b hb => by
  have h1 := rN_big hb
  refine o.2 a b (by omega) (by omega)) hr
def sdV (B : Bk) (t W : Nat) : Int32 := if zm (lsS B W) t = true then -1 else slV B t W
theorem sdV_m1 {B : Bk} (hB : okB B) {t W : Nat} (ht : t < 8) (hz : zm (bth B) t = true) : -1 ≤ (sdV B t W).toInt := by
  unfold sdV
  split
  · exact Int.le_refl _
  · exact slV_m1 hB ht hz
theorem v_bestSelling {T : zT} (hT : iT T) {B : Bk} (hB : okB B) {t W : Nat} (ht : t < 8) (hz : zm (bth B) t = true) (hW : W < bw B) {S : zS} (hc : bkC S 7 B) (hp : rwOK B S.1) : ∃ S', fX5_bestSelling T 176 (nI t) (nI W) S = some (sdV B t W, S') ∧ onlyQ S S' := by
  obtain ⟨ebw, b1, b2⟩ := bw_n hB
  unfold fX5_bestSelling sdV
  rw [zT_176_0 hT, c_isLost hT hc ht hz W, b1_q]
  by_cases y : zm (lsS B W) t = true
  · rw [if_pos y, if_neg n10, if_pos y]
    exact ⟨S, rfl, onlyQ_refl⟩
  · rw [if_neg y, if_pos rfl, if_neg y]
    obtain ⟨S1, e1, o1, l1⟩ := c_start (T := T) (B := B) (k := 181) (h := 0) (c := S.1 7 2) (x := 0) (S := S) (by decide) rfl
    rw [hc.1 2 (by decide)] at l1
    have key : zwp (lp (fun a => fX5_bestSelling_l31 T 176 (nI t) (nI W) a.1 a.2) (0, S1)) (fun S' => onlyI S S' 181 ∧ isLn S' 181 (slL B t W W)) := by
      refine lp_for (I := fun n a => ∃ S', a = (nI n, S') ∧ onlyI S S' 181 ∧ isLn S' 181 (slL B t W n)) W ?_ ?_ ?_
      · rintro n a hn ⟨S', rfl, o, l⟩
        left
        show ∃ a', fX5_bestSelling_l31 T 176 (nI t) (nI W) (nI n) S' = _ ∧ _
        obtain ⟨S2, e2, o2, l2⟩ := v_sellStep hT hB ht hz (show W ≤ 60 by omega) hn (by omega) (bk_Q (onlyQ_1 o) hc) (rk_Q (onlyQ_1 o) hp) l
        unfold fX5_bestSelling_l31
        rw [if_neg (show ¬ nI W ≤ nI n by rw [n_le (by omega) (by omega)]; omega), zT_176_11 hT, zT_176_9 hT, show (1 : Int32) <<< (nI t &&& 31) = tb t from rfl, e2, b_q, let_q, n_addL]
        exact ⟨_, rfl, S2, rfl, onlyI_tr o o2, l2⟩
      · rintro a ⟨S', rfl, o, l⟩
        refine ⟨S', ?_, o, l⟩
        show fX5_bestSelling_l31 T 176 (nI t) (nI W) (nI W) S' = _
        unfold fX5_bestSelling_l31
        rw [if_pos (show nI W ≤ nI W by rw [n_le (by omega) (by omega)]; omega)]
      · exact ⟨S1, rfl, o1, l1⟩
    obtain ⟨S2, e2, o2, l2⟩ := key
    obtain ⟨S3, e3, o3⟩ := v_fromLine hT hB ht hz hW (bk_Q (onlyQ_1 o2) hc) (rk_Q (onlyQ_1 o2) hp) l2
    rw [zT_176_11 hT, e1, b_q, e2, b1_q, e3, b_q]
    exact ⟨S3, rfl, onlyQ_tr (onlyQ_1 o2) (onlyQ_2 o3)⟩
theorem r_soldBy {T : zT} (hT : iT T) {B : Bk} (hB : okB B) {t W : Nat} (ht : t < 8) (hz : zm (bth B) t = true) (hW : W < bw B) {S : zS} (hr : bkR S.1 B) : ∃ S', fX12_soldBy T 187 (nI t) (nI W) S = some (loL (sdV B t W), S') ∧ fP S S' ∧ bkR S'.1 B := by
  obtain ⟨ebw, b1, b2⟩ := bw_n hB
  obtain ⟨S1, e1, j1, f1, c1, h55, h59⟩ := r_asItIs hT hr
  have r1 : bkR S1.1 B := bkR_cg (fun a b hb => f1 a b (fun z => by
    rw [z.1] at hb
    exact absurd hb (by unfold rN; simp))) hr
  have fp1 : fP S S1 := fun a b h => f1 a b (by omega)
  have e202 : S1.1 202 t = B.1 2 t := r1.2.1 t ht 2 (by decide)
  have el : zm (lsS B W) t = (decide (¬ B.1 2 t = -1) && decide (B.1 2 t ≤ nI W)) := by
    unfold lsS
    rw [st8_m ht, hz, Bool.true_and]
  have b27 : zm (lsS B W) t = false → ∃ S', fX12_soldBy_b27 T 187 (nI t) (nI W) S1 = some (loL (sdV B t W), S') ∧ fP S S' ∧ bkR S'.1 B := by
    intro hl
    have f2 : ∀ a b, ¬ (a = 187 ∧ 54 ≤ b ∧ b ≤ 59) → (zI (zI S1 187 56 (nI t)) 187 57 (nI W)).1 a b = S.1 a b := by
      intro a b h
      by_cases q : a = 187
      · subst q; rw [zI_eq, if_neg (fun q => h ⟨rfl, by omega⟩), zI_eq, if_neg (fun q => h ⟨rfl, by omega⟩)]; exact f1 _ _ h
      · rw [zI_ne q, zI_ne q]; exact f1 _ _ h
    have r2 : bkR (zI (zI S1 187 56 (nI t)) 187 57 (nI W)).1 B := bkR_cg (fun a b hb => f2 a b (fun z => by
      rw [z.1] at hb
      exact absurd hb (by unfold rN; simp))) hr
    have c2 : cfR (zI (zI S1 187 56 (nI t)) 187 57 (nI W)) (Gs t W) := ⟨by rw [zI_eq, if_neg (by decide), zI_eq, if_neg (by decide)]; exact c1.1, by rw [zI_eq, if_neg (by decide), zI_eq, if_pos rfl]; rfl, by rw [zI_eq, if_pos rfl]; rfl, by rw [zI_eq, if_neg (by decide), zI_eq, if_neg (by decide)]; exact c1.2.2.2⟩
    have cb := coin_bd hB
    obtain ⟨d1, d2⟩ := hB.2.2.2.1
    obtain ⟨r, S2, e2, o2, q2⟩ := r_mostCoin hT hB (okG_s (W := W) ht hz) (h := 0) (c := B.1 6 2) (by decide) cb.2 r2 c2 (by rw [zI_eq, if_neg (by decide), zI_eq, if_neg (by decide)]; exact h55) (by rw [zI_eq, if_neg (by decide), zI_eq, if_neg (by decide)]; exact h59)
    rw [if_neg (show ¬ (B.1 6 2).toInt < 0 by omega)] at q2
    have er : r = slV B t W := iO_eq (bst_m1 _ _) q2
    have fp2 : fP S S2 := fun a b h => (o2.1 a b (by omega)).trans (f2 a b (by omega))
    have es : sdV B t W = slV B t W := if_neg (by rw [hl]; decide)
    unfold fX12_soldBy_b27 fX12_soldBy_b53
    rw [let_q, let_q, e2, b_q, es, ← loL_eq (slV_m1 hB ht hz), er]
    by_cases u : slV B t W = -1
    · rw [if_pos u, if_pos u]; exact ⟨S2, rfl, fp2, qR_bk o2 r2⟩
    · rw [if_neg u, if_neg u]; exact ⟨S2, rfl, fp2, qR_bk o2 r2⟩
  unfold fX12_soldBy
  rw [e1, b_q, g_in (show t < 16 by omega) (by decide), g_in (show t < 16 by omega) (by decide), zT_187_25 hT, tn_nI (by omega), e202]
  by_cases y : B.1 2 t = -1
  · rw [if_pos y]
    exact b27 (by rw [el, decide_eq_false (fun q => q y), Bool.false_and])
  · rw [if_neg y]
    by_cases v : nI W < B.1 2 t
    · rw [if_pos v]
      exact b27 (by rw [el, decide_eq_false (show ¬ B.1 2 t ≤ nI W from fun q => by have := z_lt.mp v; have := z_le.mp q; omega), Bool.and_false])
    · rw [if_neg v]
      have es : sdV B t W = -1 := if_pos (by rw [el, decide_eq_true y, decide_eq_true (z_nlt v)]; rfl)
      rw [es]
      exact ⟨S1, rfl, fp1, r1⟩
theorem ok20 : oK20 invTS := by
  rintro T S ⟨hT, h1, h2, h3, B, A, h4, h5⟩ x1 x2
  have hB := h4.1
  obtain ⟨ebw, w1, w2⟩ := bw_n hB
  have e00 : (0 : Int32).toInt = 0 := rfl
  unfold fX11_sold fX11_sold_b26 fX12_sold fX12_sold_b25 fX12_sold_b26
  rw [zT_0_3 hT]
  rcases c_has h4.2.2.1 x1 with ⟨⟨t, ht, rfl, hz⟩, e0⟩ | ⟨hn, e0⟩
  · have hh : ∀ {S'}, bkR S'.1 B → fX12_has T 187 (nI t) S' = some 1 := by
      intro S' r2
      rcases r_has hT r2 (nI t) with ⟨-, e⟩ | ⟨h, -⟩
      · exact e
      · exact absurd ⟨t, ht, rfl, hz⟩ h
    rw [e0, b1_q, if_neg n10, h4.2.2.1.1 1 (by decide), ebw]
    by_cases hx : 0 ≤ x2.toInt ∧ x2.toInt < (bw B : Int)
    · obtain ⟨S1, e1, f1, j1, q1, p1, i1, b1⟩ := c_ready hT h1 h2 h3 h4 h5
      have hxn := z_tn hx.1
      obtain ⟨S2, e2, o2⟩ := v_bestSelling hT hB ht hz (W := x2.toNatClampNeg) (by omega) b1.2.2.1 (rwOK_of p1)
      rw [nI_n hx.1] at e2
      have i2 := inv_Q o2 i1
      have r2 := br_Q o2 b1.2.2.2.1
      obtain ⟨S3, e3, f3, r3⟩ := r_soldBy hT hB ht hz (W := x2.toNatClampNeg) (by omega) r2
      rw [nI_n hx.1] at e3
      rw [if_neg (show ¬ x2 < 0 by intro q; have := z_lt.mp q; omega), if_pos (show x2 < nI (bw B) from z_lt.mpr (by rw [nI_toInt (by omega)]; exact hx.2)), e1, b_q, e2, b_q, v_orLacking, b1_q]
      refine ⟨_, S2, S3, rfl, ?_, hT, inv_fP f3 i2⟩
      rw [hh r2, b1_q, if_neg n10, r_isOfBook hT hB r2, b1_q, if_pos hx, if_neg n10, e3, b_q]
    · refine ⟨-1, S, S, ?_, ?_, hT, h1, h2, h3, B, A, h4, h5⟩
      · by_cases y : x2 < 0
        · rw [if_pos y]
        · have y' := z_le.mp (z_nlt y)
          rw [if_neg y, if_neg (fun q => by have := z_lt.mp q; rw [nI_toInt (by omega)] at this; exact hx ⟨by omega, this⟩)]
      · rw [hh h4.2.2.2.1, b1_q, if_neg n10, r_isOfBook hT hB h4.2.2.2.1, b1_q, if_neg hx, if_pos rfl]
  · have hh : fX12_has T 187 x1 S = some 0 := by
      rcases r_has hT h4.2.2.2.1 x1 with ⟨h, -⟩ | ⟨-, e⟩
      · exact absurd h hn
      · exact e
    rw [e0, b1_q, if_pos rfl]
    refine ⟨-1, S, S, rfl, ?_, hT, h1, h2, h3, B, A, h4, h5⟩
    rw [hh, b1_q, if_pos rfl]
/-! SELLING: the weeks one behind another -/
def sgF (B : Bk) (t : Nat) (m : Int32) : Nat → Int32 × Option Nat
  | 0 => (m, none)
  | n + 1 => if sdV B t n ≤ (sgF B t m n).1 then sgF B t m n else (sdV B t n, some n)
theorem sgF_S {B : Bk} {t : Nat} {m : Int32} {n : Nat} : sgF B t m (n + 1) = if sdV B t n ≤ (sgF B t m n).1 then sgF B t m n else (sdV B t n, some n) := rfl
def wkO (x : Int32) : Option Nat → Int32
  | none => x
  | some n => nI n
theorem sgF_m1 {B : Bk} {t : Nat} {m : Int32} (hm : -1 ≤ m.toInt) : ∀ n, -1 ≤ (sgF B t m n).1.toInt
  | 0 => hm
  | n + 1 => by
    have ih := sgF_m1 (B := B) (t := t) hm n
    rw [sgF_S]
    by_cases y : sdV B t n ≤ (sgF B t m n).1
    · rw [if_pos y]; exact ih
    · rw [if_neg y]
      have := z_lt.mp (z_nle y)
      show -1 ≤ (sdV B t n).toInt
      omega
theorem sgF_lt {B : Bk} {t : Nat} {m : Int32} : ∀ n i, (sgF B t m n).2 = some i → i < n
  | 0, i, h => by cases h
  | n + 1, i, h => by
    rw [sgF_S] at h
    by_cases y : sdV B t n ≤ (sgF B t m n).1
    · rw [if_pos y] at h
      have := sgF_lt n i h
      omega
    · rw [if_neg y] at h
      have h' : some n = some i := h
      injection h' with h'
      omega
theorem lsS_mono {B : Bk} {t a b : Nat} (ht : t < 8) (hab : a ≤ b) (hb : b < 100) (h : zm (lsS B a) t = true) : zm (lsS B b) t = true := by
  unfold lsS at h ⊢
  rw [st8_m ht] at h ⊢
  cases x : zm (bth B) t with
  | false => rw [x] at h; cases h
  | true =>
    rw [x, Bool.true_and] at h
    rw [Bool.true_and]
    by_cases y : B.1 2 t = -1
    · rw [decide_eq_false (fun q => q y)] at h; cases h
    · rw [decide_eq_true y, Bool.true_and] at h
      rw [decide_eq_true y, Bool.true_and]
      have h1 := z_le.mp (of_decide_eq_true h)
      rw [nI_toInt (by omega)] at h1
      exact decide_eq_true (z_le.mpr (by rw [nI_toInt (by omega)]; omega))
theorem sgF_lost {B : Bk} {t : Nat} {m : Int32} (ht : t < 8) (hm : -1 ≤ m.toInt) {n : Nat} (h : zm (lsS B n) t = true) : ∀ k, n + k < 100 → sgF B t m (n + k) = sgF B t m n
  | 0, _ => rfl
  | k + 1, hk => by
    have ih := sgF_lost ht hm h k (by omega)
    have hl := lsS_mono ht (show n ≤ n + k by omega) (by omega) h
    have es : sdV B t (n + k) = -1 := if_pos hl
    have h1 := sgF_m1 (B := B) (t := t) hm (n + k)
    show sgF B t m (n + k + 1) = _
    have h2 : (-1 : Int32) ≤ (sgF B t m (n + k)).1 := z_le.mpr h1
    rw [sgF_S, es, if_pos h2, ih]
theorem v_sellingWeek {T : zT} (hT : iT T) {B : Bk} (hB : okB B) {t : Nat} (ht : t < 8) (hz : zm (bth B) t = true) {S : zS} (hc : bkC S 7 B) (hp : rwOK B S.1) (hm : -1 ≤ (S.1 176 3).toInt) : ∃ S', fX5_sellingWeek T 176 (nI t) S = some (wkO (-1) (sgF B t (S.1 176 3) (bw B)).2, S') ∧ onlyQ S S' := by
  obtain ⟨ebw, b1, b2⟩ := bw_n hB
  obtain ⟨S1, e1, o1, l1⟩ := c_start (T := T) (B := B) (k := 181) (h := 0) (c := S.1 7 2) (x := 0) (S := S) (by decide) rfl
  rw [hc.1 2 (by decide)] at l1
  have key : zwp (lp (fun a => fX5_sellingWeek_l25 T 176 (nI t) a.1 a.2.1 a.2.2.1 a.2.2.2) ((-1), S.1 176 3, 0, S1)) (fun e => e.1 = wkO (-1) (sgF B t (S.1 176 3) (bw B)).2 ∧ onlyQ S e.2) := by
    refine lp_for (I := fun n a => ∃ S', a = (wkO (-1) (sgF B t (S.1 176 3) n).2, (sgF B t (S.1 176 3) n).1, nI n, S') ∧ onlyQ S S' ∧ isLn S' 181 (slL B t 60 n)) (bw B) ?_ ?_ ?_
    · rintro n a hn ⟨S', rfl, o, l⟩
      show (∃ a', fX5_sellingWeek_l25 T 176 (nI t) (wkO (-1) (sgF B t (S.1 176 3) n).2) (sgF B t (S.1 176 3) n).1 (nI n) S' = _ ∧ _) ∨ ∃ r, fX5_sellingWeek_l25 T 176 (nI t) (wkO (-1) (sgF B t (S.1 176 3) n).2) (sgF B t (S.1 176 3) n).1 (nI n) S' = _ ∧ _
      unfold fX5_sellingWeek_l25 fX5_sellingWeek_b71
      rw [zT_176_0 hT, (bk_Q o hc).1 1 (by decide), ebw, if_neg (show ¬ nI (bw B) ≤ nI n by rw [n_le (by omega) (by omega)]; omega), c_isLost hT (bk_Q o hc) ht hz n, b1_q]
      cases hl : zm (lsS B n) t with
      | true =>
        right
        rw [if_neg (show ¬ (if true = true then (1 : Int32) else 0) = 0 by rw [if_pos rfl]; decide)]
        refine ⟨_, rfl, ?_, o⟩
        show wkO (-1) (sgF B t (S.1 176 3) n).2 = _
        have := sgF_lost (B := B) (m := S.1 176 3) ht hm hl (bw B - n) (by omega)
        rw [show n + (bw B - n) = bw B by omega] at this
        rw [this]
      | false =>
        left
        have es : sdV B t n = slV B t n := if_neg (by rw [hl]; decide)
        have l' : isLn S' 181 (slL B t n n) := isLn_cg l (fun s hs => (slL_60 hB ht hz (by omega) n (Nat.le_refl _) s hs).symm)
        obtain ⟨S2, e2, o2⟩ := v_fromLine hT hB ht hz hn (bk_Q o hc) (rk_Q o hp) l'
        have o3 := onlyQ_tr o (onlyQ_2 o2)
        have l3 : isLn S2 181 (slL B t 60 n) := isLn_o l o2 (by decide)
        obtain ⟨S3, e3, o4, l4⟩ := v_sellStep hT hB ht hz (Nat.le_refl _) (show n < 60 by omega) hn (bk_Q o3 hc) (rk_Q o3 hp) l3
        rw [if_pos (show (if false = true then (1 : Int32) else 0) = 0 by rw [if_neg (by decide)]), e2, b_q, zT_176_11 hT, zT_176_9 hT, show (1 : Int32) <<< (nI t &&& 31) = tb t from rfl, e3, b_q, let_q, b_q, let_q, n_addL, sgF_S, es]
        by_cases y : slV B t n ≤ (sgF B t (S.1 176 3) n).1
        · rw [if_pos y, if_pos y]
          exact ⟨_, rfl, S3, rfl, onlyQ_tr o3 (onlyQ_1 o4), l4⟩
        · rw [if_neg y, if_neg y]
          exact ⟨_, rfl, S3, rfl, onlyQ_tr o3 (onlyQ_1 o4), l4⟩
    · rintro a ⟨S', rfl, o, l⟩
      refine ⟨(wkO (-1) (sgF B t (S.1 176 3) (bw B)).2, S'), ?_, rfl, o⟩
      show fX5_sellingWeek_l25 T 176 (nI t) _ _ (nI (bw B)) S' = _
      unfold fX5_sellingWeek_l25
      rw [zT_176_0 hT, (bk_Q o hc).1 1 (by decide), ebw, if_pos (show nI (bw B) ≤ nI (bw B) by rw [n_le (by omega) (by omega)]; omega)]
    · exact ⟨S1, rfl, onlyQ_1 o1, l1⟩
  obtain ⟨⟨v, S'⟩, e, q, o⟩ := key
  have q' : v = wkO (-1) (sgF B t (S.1 176 3) (bw B)).2 := q
  subst q'
  refine ⟨S', ?_, o⟩
  unfold fX5_sellingWeek fX5_sellingWeek_b94
  rw [let_q, zT_176_0 hT, zT_176_11 hT, e1, b_q, e, b1_q]
theorem r_selling {T : zT} (hT : iT T) {B : Bk} (hB : okB B) {t : Nat} (ht : t < 8) (hz : zm (bth B) t = true) {m : Int32} (hm : -1 ≤ m.toInt) {S : zS} (hr : bkR S.1 B) : ∃ S', lp (fun a => fX12_selling_l21 T 187 (nI t) a.1 a.2.1 a.2.2.1 a.2.2.2) (m, (-2), 0, S) = some (wkO (-2) (sgF B t m (bw B)).2, S') ∧ fP S S' := by
  obtain ⟨ebw, b1, b2⟩ := bw_n hB
  have t0 : (0 : Int32).toNatClampNeg = 0 := rfl
  have e00 : (0 : Int32).toInt = 0 := rfl
  have key : zwp (lp (fun a => fX12_selling_l21 T 187 (nI t) a.1 a.2.1 a.2.2.1 a.2.2.2) (m, (-2), 0, S)) (fun e => e.1 = wkO (-2) (sgF B t m (bw B)).2 ∧ fP S e.2) := by
    refine lp_for (I := fun n a => ∃ S', a = ((sgF B t m n).1, wkO (-2) (sgF B t m n).2, nI n, S') ∧ fP S S' ∧ bkR S'.1 B) (bw B) ?_ ?_ ?_
    · rintro n a hn ⟨S', rfl, o, r1⟩
      left
      show ∃ a', fX12_selling_l21 T 187 (nI t) (sgF B t m n).1 (wkO (-2) (sgF B t m n).2) (nI n) S' = _ ∧ _
      obtain ⟨S2, e2, o2, r2⟩ := r_soldBy hT hB ht hz hn r1
      have bm := sdV_m1 hB (W := n) ht hz
      have sm := sgF_m1 (B := B) (t := t) hm n
      have em : (-1 : Int32).toInt = -1 := rfl
      unfold fX12_selling_l21 fX12_selling_b60
      simp only [let_q]
      rw [zT_187_33 hT, t0, r1.2.2.1, ebw, g_t (by decide), if_neg (show ¬ nI (bw B) ≤ nI n by rw [n_le (by omega) (by omega)]; omega), e2, b_q, n_addL, sgF_S]
      have o3 := fP_trans o o2
      by_cases q : 0 ≤ sdV B t n
      · have q' := z_le.mp q
        rw [show loL (sdV B t n) = sdV B t n from if_pos q, if_neg (show ¬ sdV B t n = -2 by intro h; rw [h] at q; exact absurd q (by decide))]
        by_cases y : sdV B t n ≤ (sgF B t m n).1
        · rw [if_pos y, if_pos y]; exact ⟨_, rfl, S2, rfl, o3, r2⟩
        · rw [if_neg y, if_neg y]; exact ⟨_, rfl, S2, rfl, o3, r2⟩
      · have q' := z_lt.mp (z_nle q)
        rw [if_pos (show loL (sdV B t n) = -2 from if_neg q), if_pos (show sdV B t n ≤ (sgF B t m n).1 from z_le.mpr (by omega))]
        exact ⟨_, rfl, S2, rfl, o3, r2⟩
    · rintro a ⟨S', rfl, o, r1⟩
      refine ⟨(wkO (-2) (sgF B t m (bw B)).2, S'), ?_, rfl, o⟩
      show fX12_selling_l21 T 187 (nI t) _ _ (nI (bw B)) S' = _
      unfold fX12_selling_l21
      rw [zT_187_33 hT, t0, r1.2.2.1, ebw, g_t (by decide), if_pos (show nI (bw B) ≤ nI (bw B) by rw [n_le (by omega) (by omega)]; omega)]
    · exact ⟨S, rfl, fun _ _ _ => rfl, hr⟩
  obtain ⟨⟨v, S'⟩, e, q, o⟩ := key
  have q' : v = wkO (-2) (sgF B t m (bw B)).2 := q
  subst q'
  exact ⟨S', e, o⟩
theorem ok21 : oK21 invTS := by
  rintro T S ⟨hT, h1, h2, h3, B, A, h4, h5⟩ x1
  have hB := h4.1
  obtain ⟨ebw, w1, w2⟩ := bw_n hB
  have e00 : (0 : Int32).toInt = 0 := rfl
  unfold fX11_selling fX12_selling
  rw [zT_0_3 hT]
  rcases c_has h4.2.2.1 x1 with ⟨⟨t, ht, rfl, hz⟩, e0⟩ | ⟨hn, e0⟩
  · obtain ⟨S1, e1, f1, j1, q1, p1, i1, b1⟩ := c_ready hT h1 h2 h3 h4 h5
    have pm := p1.2.2.2.1
    have h6 := bst_m1 (bsL B (bw B)) 256
    obtain ⟨S2, e2, o2⟩ := v_sellingWeek hT hB ht hz b1.2.2.1 (rwOK_of p1) (by omega)
    have i2 := inv_Q o2 i1
    have r2 := br_Q o2 b1.2.2.2.1
    obtain ⟨r, S3, e3, f3, r3, q3⟩ := r_asBest hT hB r2
    have er : r = S1.1 176 3 := z_eq.mpr (by omega)
    obtain ⟨S4, e4, f4⟩ := r_selling hT hB ht hz (m := r) (by omega) r3
    have hh : fX12_has T 187 (nI t) S2 = some 1 := by
      rcases r_has hT r2 (nI t) with ⟨-, e⟩ | ⟨h, -⟩
      · exact e
      · exact absurd ⟨t, ht, rfl, hz⟩ h
    have eq1 : loL (wkO (-1) (sgF B t (S1.1 176 3) (bw B)).2) = wkO (-2) (sgF B t r (bw B)).2 := by
      rw [er]
      cases hk : (sgF B t (S1.1 176 3) (bw B)).2 with
      | none => rfl
      | some i =>
        have hi := sgF_lt _ _ hk
        show loL (nI i) = nI i
        exact if_pos (z_le.mpr (by rw [nI_toInt (by omega)]; omega))
    rw [e0, b1_q, if_neg n10, e1, b_q, e2, b_q, v_orLacking, b1_q, eq1]
    refine ⟨_, S2, S4, rfl, ?_, hT, inv_fP (fP_trans f3 f4) i2⟩
    rw [hh, b1_q, if_neg n10, e3, b_q, e4, b1_q]
  · have hh : fX12_has T 187 x1 S = some 0 := by
      rcases r_has hT h4.2.2.2.1 x1 with ⟨h, -⟩ | ⟨-, e⟩
      · exact absurd h hn
      · exact e
    rw [e0, b1_q, if_pos rfl]
    refine ⟨-1, S, S, rfl, ?_, hT, h1, h2, h3, B, A, h4, h5⟩
    rw [hh, b1_q, if_pos rfl]
