/-! BORROWED and WHEN, both -/
theorem rfL_cg {B : Bk} (hB : okB B) {G G' : Cg} (hG : okG B G) {h : Nat} {c0 : Int} (hcc : -1 ≤ c0 ∧ c0 ≤ 1000000) {V : Nat} (hV : V ≤ 60) (e1 : ∀ w, w < V → innC B G (nI w) = innC B G' (nI w)) (e2 : ∀ w s, w < V → gnC B G w s = gnC B G' w s) (e3 : ∀ w x, w < V → -1 ≤ x → ajC B G w x = ajC B G' w x) : ∀ w, w ≤ V → ∀ s, s < 256 → rfL B G h c0 w s = rfL B G' h c0 w s := by
  intro w
  induction w with
  | zero =>
    intro _ s _
    unfold rfL
    rw [lnG_0, lnG_0]
  | succ w ih =>
    intro hw s hs
    rw [rfL_S, rfL_S]
    refine bst_congr (fun fr hfr => ?_)
    have hm := (rfL_bd hB hG (h := h) hcc w (by omega) fr hfr).1
    unfold cnd
    rw [e1 w (by omega), e2 w s (by omega)]
    refine congrArg (fun z => adI z (gnC B G' w s)) (cdP_congr ?_)
    show ajC B G w (rfL B G h c0 w fr) = ajC B G' w (rfL B G' h c0 w fr)
    rw [e3 w _ (by omega) hm, ih (by omega) fr hfr]
/-- the cousin's coin in a week -/
def Gb (w : Nat) : Cg := (0, -1, -1, nI w)
theorem okG_b {B : Bk} {w : Nat} : okG B (Gb w) := ⟨fun _ _ => m_0, Or.inl ⟨rfl, rfl⟩⟩
theorem goC_b {B : Bk} {w v : Nat} : goC B (Gb w) (nI v) = goC B G0 (nI v) := rfl
theorem innC_b {B : Bk} {w v : Nat} : innC B (Gb w) (nI v) = innC B G0 (nI v) := rfl
theorem gnC_b {B : Bk} {w v s : Nat} : gnC B (Gb w) v s = gnC B G0 v s := rfl
/-- he lends in a week -/
def lnd (B : Bk) (w : Nat) : Prop := ¬ B.1 6 5 = -1 ∧ B.1 6 5 < B.1 6 1 ∧ nI w < B.1 6 5
theorem lnd_n {B : Bk} (hB : okB B) {w : Nat} (hw : w < 60) (h : lnd B w) : ∃ x, B.1 6 5 = nI x ∧ w < x ∧ x < bw B := by
  obtain ⟨ebw, b1, b2⟩ := bw_n hB
  obtain ⟨h1, h2, h3⟩ := h
  rcases hB.2.2.2.2.2.2.1 with q | ⟨q1, q2⟩
  · exact absurd q h1
  · refine ⟨(B.1 6 5).toNatClampNeg, (nI_n (by omega)).symm, ?_, ?_⟩
    · have := z_lt.mp h3; rw [nI_toInt (by omega)] at this; have := z_tn (i := B.1 6 5) (by omega); omega
    · have := z_lt.mp h2; rw [ebw, nI_toInt (by omega)] at this; have := z_tn (i := B.1 6 5) (by omega); omega
theorem ajb_at {B : Bk} (hB : okB B) {w : Nat} (hw : w < 60) (hn : ¬ nI w = B.1 6 5) {x : Int} : ajC B (Gb w) w x = adI x (B.1 6 4).toInt := by
  obtain ⟨c1, c2⟩ := hB.2.2.2.2.2.1
  unfold ajC adI
  by_cases z : x < 0
  · rw [if_pos z, if_pos z]
  · rw [if_neg z, if_neg z, if_neg (fun q => hn q.2.1), if_neg (fun q => hn q.2), if_pos (show nI w = (Gb w).2.2.2 from rfl), if_neg (show ¬ nI w = (Gb w).2.2.1 from n_m1' hw), if_neg (by omega)]
    omega
theorem ajb_till {B : Bk} {w v : Nat} (hw : w < 60) (hv : v < 60) (ht : nI v = B.1 6 5) (hn : ¬ v = w) {x : Int} : ajC B (Gb w) v x = adI x (-(B.1 6 4).toInt) := by
  have hn' : ¬ nI v = (Gb w).2.2.2 := fun q => hn (by
    have q' : nI v = nI w := q
    rw [n_eq (by omega) (by omega)] at q'; exact q')
  have h1 : ¬ (Gb w).2.2.2 = -1 := n_m1' hw
  unfold ajC adI
  by_cases z : x < 0
  · rw [if_pos z, if_pos z]
  · rw [if_neg z, if_neg z]
    by_cases y : x < (B.1 6 4).toInt
    · rw [if_pos ⟨h1, ht, y⟩, if_pos (by omega)]
    · rw [if_neg (fun q => y q.2.2), if_pos ⟨h1, ht⟩, if_neg hn', if_neg (show ¬ nI v = (Gb w).2.2.1 from n_m1' hv), if_neg (by omega)]
      omega
theorem ajb_no {B : Bk} {w v : Nat} (hw : w < 60) (hv : v < 60) (ht : ¬ nI v = B.1 6 5) (hn : ¬ v = w) {x : Int} (h : -1 ≤ x) : ajC B (Gb w) v x = x := by
  have hn' : ¬ nI v = (Gb w).2.2.2 := fun q => hn (by
    have q' : nI v = nI w := q
    rw [n_eq (by omega) (by omega)] at q'; exact q')
  unfold ajC
  by_cases z : x < 0
  · rw [if_pos z]; omega
  · rw [if_neg z, if_neg (fun q => ht q.2.1), if_neg (fun q => ht q.2), if_neg hn', if_neg (show ¬ nI v = (Gb w).2.2.1 from n_m1' hv)]
    omega
def brL (B : Bk) (w : Nat) : Nat → Nat → Int := rfL B (Gb w) 0 (B.1 6 2).toInt
theorem coin_bd {B : Bk} (hB : okB B) : -1 ≤ (B.1 6 2).toInt ∧ (B.1 6 2).toInt ≤ 1000000 := by
  obtain ⟨d1, d2⟩ := hB.2.2.2.1
  omega
theorem brL_0 {B : Bk} (hB : okB B) {w : Nat} (hw : w < 60) (hl : lnd B w) : ∀ v, v ≤ w → ∀ s, s < 256 → brL B w v s = bsL B v s := by
  obtain ⟨x, ex, x1, x2⟩ := lnd_n hB hw hl
  have b2 := (bw_n hB).2.2
  intro v hv s hs
  rw [← rfL_0 hB v (by omega) s hs]
  show rfL B (Gb w) 0 (B.1 6 2).toInt v s = _
  refine rfL_cg hB (G := Gb w) (G' := G0) okG_b (coin_bd hB) (V := w) (by omega) (fun u _ => innC_b) (fun u s _ => gnC_b) (fun u x hu hx => ?_) v hv s hs
  rw [ajb_no hw (by omega) (by rw [ex, n_eq (by omega) (by omega)]; omega) (by omega) hx, ajC_0 (by omega) hx]
def brV (B : Bk) (w : Nat) : Int32 := if ¬ B.1 6 5 = -1 ∧ B.1 6 5 < B.1 6 1 ∧ nI w < B.1 6 5 then iO (bst (brL B w (bw B)) 256) else -1
theorem c_cousin {T : zT} {B : Bk} {S : zS} (hc : bkC S 7 B) {w : Nat} : fX0_cousinLendsIn T 7 (nI w) S = some (if ¬ B.1 6 5 = -1 ∧ B.1 6 5 < B.1 6 1 ∧ nI w < B.1 6 5 then 1 else 0) := by
  unfold fX0_cousinLendsIn fX0_cousinLendsIn_b31 fX0_cousinLendsIn_b32
  rw [hc.1 5 (by decide), hc.1 1 (by decide)]
  by_cases y : B.1 6 5 = -1
  · rw [if_pos y, if_neg (fun q => q.1 y)]; rfl
  · rw [if_neg y]
    by_cases z : B.1 6 1 ≤ B.1 6 5
    · rw [if_pos z, if_neg (fun q => by have := z_lt.mp q.2.1; have := z_le.mp z; omega)]; rfl
    · rw [if_neg z]
      by_cases v : B.1 6 5 ≤ nI w
      · rw [if_pos v, if_neg (fun q => by have := z_lt.mp q.2.2; have := z_le.mp v; omega)]; rfl
      · rw [if_neg v, if_pos ⟨y, z_nle z, z_nle v⟩]; rfl
theorem hM_b {B : Bk} (hB : okB B) {w : Nat} : ∀ v u, v < 60 → u < 8 → zm (innC B (Gb w) (nI v)) u = true → zm (bth B) u = true := by
  intro v u _ hu h
  rw [innC_b, innC_0 hB, mi_m] at h
  cases x : zm (bth B) u with
  | true => rfl
  | false => rw [x] at h; cases h
theorem isLn_cg {S : zS} {k : Nat} {f g : Nat → Int} (h : isLn S k f) (e : ∀ s, s < 256 → f s = g s) : isLn S k g := fun s hs => by rw [h s hs, e s hs]
theorem v_borrow67 {T : zT} (hT : iT T) {B : Bk} (hB : okB B) {w : Nat} (hw : w < bw B) (hl : lnd B w) {S : zS} (hc : bkC S 7 B) (hp : rwOK B S.1) (hf : isLn S 181 (brL B w w)) : ∃ S', fX5_bestBorrowing_b67 T 176 (nI w) S = some (iO (bst (brL B w (bw B)) 256), S') ∧ onlyI S S' 181 := by
  obtain ⟨ebw, b1, b2⟩ := bw_n hB
  obtain ⟨x, ex, x1, x2⟩ := lnd_n hB (by omega) hl
  obtain ⟨c1, c2⟩ := hB.2.2.2.2.2.1
  have bk : ∀ {S'}, onlyI S S' 181 → bkC S' 7 B := fun ho => bkC_cg (fun a b _ _ => ho.2 a b (by omega)) hc
  have rk : ∀ {S'}, onlyI S S' 181 → rwOK B S'.1 := fun ho => rwOK_cg (fun a b h => ho.2 a b (by omega)) hp
  have bd : ∀ v, v ≤ 60 → ∀ s, s < 256 → -1 ≤ brL B w v s ∧ brL B w v s ≤ 1000000000 := fun v hv s hs => by
    have := rfL_bd hB (okG_b (w := w)) (h := 0) (coin_bd hB) v hv s hs
    exact ⟨this.1, by have h2 := this.2; unfold brL; omega⟩
  have hx : ¬ nI w = B.1 6 5 := by rw [ex, n_eq (by omega) (by omega)]; omega
  obtain ⟨S1, e1, o1, l1⟩ := v_shift (T := T) (x := B.1 6 4) hf (bd w (by omega)) (by omega)
  -- a week
  have step : ∀ n S', w ≤ n → n < bw B → onlyI S S' 181 → isLn S' 181 (fun s => ajC B (Gb w) n (brL B w n s)) → ∃ S2, fX5_bestBorrowing_b120 T 176 (nI n) S' = some (.inl (nI (n + 1), S2)) ∧ onlyI S S2 181 ∧ isLn S2 181 (brL B w (n + 1)) := by
    intro n S' _ hn o l
    obtain ⟨S2, e2, o2, l2⟩ := v_stepG hT hB (okG_b (B := B) (w := w)) (h := 0) (coin_bd hB) (M := bth B) (fun _ _ h => h) (fun u _ => zm_n0) (hM_b hB) (k := 181) (kg := 179) (w := n) (bar := 0) (by decide) (by decide) (by omega) (by rw [innC_b, innC_0 hB, mi_0 (is8_mi hB.1)]) (bk o) l (fun s hs hsub => by
      rw [(rk o).1 n hn s hs ((mi0 (is8_nI hs)).mpr hsub), gnC_b]
      unfold gnC inS
      rw [goC_0])
    unfold fX5_bestBorrowing_b120
    rw [zT_176_11 hT, zT_176_9 hT, e2, b_q, let_q, n_addL]
    exact ⟨S2, rfl, onlyI_tr o o2, l2⟩
  have key : zwp (lp (fun a => fX5_bestBorrowing_l83 T 176 a.1 a.2) (nI w, S1)) (fun S' => onlyI S S' 181 ∧ isLn S' 181 (brL B w (bw B))) := by
    refine lp_for (I := fun m a => ∃ S', a = (nI (w + m), S') ∧ onlyI S S' 181 ∧ isLn S' 181 (if m = 0 then (fun s => ajC B (Gb w) w (brL B w w s)) else brL B w (w + m))) (bw B - w) ?_ ?_ ?_
    · rintro m a hm ⟨S', rfl, o, l⟩
      left
      show ∃ a', fX5_bestBorrowing_l83 T 176 (nI (w + m)) S' = _ ∧ _
      unfold fX5_bestBorrowing_l83
      rw [zT_176_0 hT, (bk o).1 1 (by decide), (bk o).1 5 (by decide), (bk o).1 4 (by decide), ebw, if_neg (show ¬ nI (bw B) ≤ nI (w + m) by rw [n_le (by omega) (by omega)]; omega)]
      by_cases z : m = 0
      · subst z
        rw [if_pos rfl] at l
        rw [Nat.add_zero, if_neg hx]
        obtain ⟨S2, e2, o2, l2⟩ := step w S' (Nat.le_refl _) hw o l
        exact ⟨_, e2, S2, rfl, o2, by rw [if_neg (by omega)]; exact l2⟩
      · rw [if_neg z] at l
        by_cases y : nI (w + m) = B.1 6 5
        · have eneg : (-(B.1 6 4)).toInt = -(B.1 6 4).toInt := by
            rw [← Int32.zero_sub, z_sub (by have e00 : (0 : Int32).toInt = 0 := rfl; omega) (by have e00 : (0 : Int32).toInt = 0 := rfl; omega)]
            have e00 : (0 : Int32).toInt = 0 := rfl
            omega
          obtain ⟨S3, e3, o3, l3⟩ := v_shift (T := T) (x := -(B.1 6 4)) l (bd (w + m) (by omega)) (by omega)
          have l4 : isLn S3 181 (fun s => ajC B (Gb w) (w + m) (brL B w (w + m) s)) := isLn_cg l3 (fun s hs => by rw [eneg, ajb_till (by omega) (by omega) y (by omega)])
          obtain ⟨S2, e2, o2, l2⟩ := step (w + m) S3 (by omega) (by omega) (onlyI_tr o o3) l4
          rw [if_pos y, zT_176_11 hT, e3, b_q]
          exact ⟨_, e2, S2, rfl, o2, by rw [if_neg (by omega)]; exact l2⟩
        · have l4 : isLn S' 181 (fun s => ajC B (Gb w) (w + m) (brL B w (w + m) s)) := isLn_cg l (fun s hs => (ajb_no (by omega) (by omega) y (by omega) (bd (w + m) (by omega) s hs).1).symm)
          obtain ⟨S2, e2, o2, l2⟩ := step (w + m) S' (by omega) (by omega) o l4
          rw [if_neg y]
          exact ⟨_, e2, S2, rfl, o2, by rw [if_neg (by omega)]; exact l2⟩
    · rintro a ⟨S', rfl, o, l⟩
      rw [if_neg (by omega), show w + (bw B - w) = bw B by omega] at l
      refine ⟨S', ?_, o, l⟩
      rw [show w + (bw B - w) = bw B by omega]
      show fX5_bestBorrowing_l83 T 176 (nI (bw B)) S' = _
      unfold fX5_bestBorrowing_l83
      rw [zT_176_0 hT, (bk o).1 1 (by decide), ebw, if_pos (show nI (bw B) ≤ nI (bw B) by rw [n_le (by omega) (by omega)]; omega)]
    · refine ⟨S1, rfl, o1, ?_⟩
      rw [if_pos rfl]
      exact isLn_cg l1 (fun s hs => by rw [ajb_at hB (by omega) hx])
  obtain ⟨S2, e2, o2, l2⟩ := key
  obtain ⟨r, e3, q3⟩ := v_mostIn (T := T) l2
  unfold fX5_bestBorrowing_b67
  rw [zT_176_11 hT, zT_176_0 hT, hc.1 4 (by decide), e1, b_q, e2, b1_q, e3, b1_q]
  exact ⟨S2, by rw [iO_eq (bst_m1 _ _) q3], o2⟩
theorem v_bestBorrowing {T : zT} (hT : iT T) {B : Bk} (hB : okB B) {w : Nat} (hw : w < bw B) {S : zS} (hc : bkC S 7 B) (hp : rwOK B S.1) (hk : ∀ w, w < bw B → ∀ i, i < 256 → (S.1 178 (256 * w + i)).toInt = bsL B (w + 1) i) : ∃ S', fX5_bestBorrowing T 176 (nI w) S = some (brV B w, S') ∧ onlyI S S' 181 := by
  obtain ⟨ebw, b1, b2⟩ := bw_n hB
  have e00 : (0 : Int32).toInt = 0 := rfl
  unfold fX5_bestBorrowing fX5_bestBorrowing_b15 brV
  rw [if_neg (show ¬ nI w < 0 by intro h; have := z_lt.mp h; rw [nI_toInt (by omega)] at this; omega), zT_176_0 hT, c_cousin hc, b1_q]
  by_cases hl : ¬ B.1 6 5 = -1 ∧ B.1 6 5 < B.1 6 1 ∧ nI w < B.1 6 5
  · have hl0 := brL_0 hB (show w < 60 by omega) hl
    rw [if_pos hl, if_pos hl, if_neg n10]
    by_cases z : w = 0
    · subst z
      obtain ⟨S1, e1, o1, l1⟩ := c_start (T := T) (B := B) (k := 181) (h := 0) (c := S.1 7 2) (x := 0) (S := S) (by decide) rfl
      rw [hc.1 2 (by decide)] at l1
      obtain ⟨S2, e2, o2⟩ := v_borrow67 hT hB hw hl (S := S1) (bkC_cg (fun a b _ _ => o1.2 a b (by omega)) hc) (rwOK_cg (fun a b h => o1.2 a b (by omega)) hp) l1
      rw [if_pos (show nI 0 = 0 from rfl), zT_176_11 hT, e1, b_q, e2]
      exact ⟨S2, rfl, onlyI_tr o1 o2⟩
    · obtain ⟨v, rfl⟩ : ∃ v, w = v + 1 := ⟨w - 1, by omega⟩
      have e256 : (nI (v + 1) - 1) * 256 = nI (256 * v) := by rw [n_subL (by omega), show v + 1 - 1 = v from rfl, liq, n_mul, Nat.mul_comm]
      have t0 : (0 : Int32).toNatClampNeg = 0 := rfl
      have t256 : (256 : Int32).toNatClampNeg = 256 := rfl
      have ge : zcg (nI (256 * v)) 0 256 15360 256 = true := by
        refine decide_eq_true ⟨?_, by decide, by decide, ?_, by decide⟩
        · intro h
          have := z_lt.mp h
          rw [nI_toInt (by omega)] at this
          omega
        · rw [tn_nI (by omega), t256]; omega
      have cp : ∀ c j, (zCp S 178 181 (256 * v) 0 256).1 c j = if c = 181 ∧ 0 ≤ j ∧ j < 0 + 256 then S.1 178 (256 * v + (j - 0)) else S.1 c j := fun _ _ => rfl
      have o1 : onlyI S (zCp S 178 181 (256 * v) 0 256) 181 := ⟨rfl, fun a b h => by rw [cp, if_neg (fun q => h q.1)]⟩
      have l1 : isLn (zCp S 178 181 (256 * v) 0 256) 181 (brL B (v + 1) (v + 1)) := fun s hs => by
        rw [cp, if_pos ⟨rfl, by omega, by omega⟩, Nat.sub_zero, hk v (by omega) s hs, hl0 (v + 1) (Nat.le_refl _) s hs]
      obtain ⟨S2, e2, o2⟩ := v_borrow67 hT hB hw hl (S := zCp S 178 181 (256 * v) 0 256) (bkC_cg (fun a b _ _ => o1.2 a b (by omega)) hc) (rwOK_cg (fun a b h => o1.2 a b (by omega)) hp) l1
      rw [if_neg (show ¬ nI (v + 1) = 0 by intro q; have := z_eq.mp q; rw [nI_toInt (by omega)] at this; omega), if_neg (show ¬ 60 < nI (v + 1) by rw [n_ltL (by omega) (by omega)]; omega), e256, g_t ge, t0, t256, tn_nI (by omega), zT_176_8 hT, zT_176_11 hT, let_q, e2]
      exact ⟨S2, rfl, onlyI_tr o1 o2⟩
  · rw [if_neg hl, if_neg hl, if_pos rfl]
    exact ⟨S, rfl, onlyI_refl⟩
def loL (x : Int32) : Int32 := if 0 ≤ x then x else -2
theorem v_orLacking {T : zT} {x : Int32} {S : zS} : fX11_orLacking T x S = some (loL x) := by
  unfold fX11_orLacking fX11_orLacking_b10 loL
  split <;> rfl
theorem rf_bst {B : Bk} (hB : okB B) {G : Cg} (hG : okG B G) {h : Nat} {c0 : Int} (hc : -1 ≤ c0 ∧ c0 ≤ 1000000) {w : Nat} (hw : w ≤ 60) : -1 ≤ bst (rfL B G h c0 w) 256 ∧ bst (rfL B G h c0 w) 256 ≤ 20000000 := bst_bd (by omega) (rfL_c hB hG hc hw)
theorem brV_m1 {B : Bk} (hB : okB B) {w : Nat} : -1 ≤ (brV B w).toInt := by
  have h := rf_bst hB (okG_b (w := w)) (h := 0) (coin_bd hB) (bw_n hB).2.2
  unfold brV
  split
  · rw [iO_toInt (bst_m1 _ _) (by unfold brL; omega)]; exact bst_m1 _ _
  · exact Int.le_refl _
theorem loL_eq {x : Int32} (h : -1 ≤ x.toInt) : (if x = -1 then (-2 : Int32) else x) = loL x := by
  have em : (-1 : Int32).toInt = -1 := rfl
  have e00 : (0 : Int32).toInt = 0 := rfl
  unfold loL
  by_cases z : x = -1
  · rw [if_pos z, if_neg (fun q => by rw [z] at q; exact absurd q (by decide))]
  · have z' : ¬ x.toInt = -1 := fun q => z (z_eq.mpr (q.trans em.symm))
    rw [if_neg z, if_pos (z_le.mpr (by omega))]
theorem r_borrowedIn {T : zT} (hT : iT T) {B : Bk} (hB : okB B) {w : Nat} (hw : w < bw B) {S : zS} (hr : bkR S.1 B) : ∃ S', fX12_borrowedIn T 187 (nI w) S = some (loL (brV B w), S') ∧ fP S S' ∧ bkR S'.1 B := by
  obtain ⟨ebw, b1, b2⟩ := bw_n hB
  have t0 : (0 : Int32).toNatClampNeg = 0 := rfl
  obtain ⟨S1, e1, j1, f1, c1, h55, h59⟩ := r_asItIs hT hr
  have r1 : bkR S1.1 B := bkR_cg (fun a b hb => f1 a b (fun z => by
    rw [z.1] at hb
    exact absurd hb (by unfold rN; simp))) hr
  have fp1 : fP S S1 := fun a b h => f1 a b (by omega)
  have nol : ¬ lnd B w → loL (brV B w) = -2 := fun h => by
    have : brV B w = -1 := if_neg h
    rw [this]; rfl
  unfold fX12_borrowedIn fX12_borrowedIn_b39 fX12_borrowedIn_b63
  rw [e1, b_q, g_t (by decide), g_t (by decide), g_t (by decide), g_t (by decide), zT_187_31 hT, zT_187_33 hT, t0, r1.2.2.1, r1.2.2.2.2.2.2.1]
  by_cases y : B.1 6 5 = -1
  · rw [if_pos y, nol (fun q => q.1 y)]
    exact ⟨S1, rfl, fp1, r1⟩
  · rw [if_neg y]
    by_cases z : B.1 6 1 ≤ B.1 6 5
    · rw [if_pos z, nol (fun q => by have := z_lt.mp q.2.1; have := z_le.mp z; omega)]
      exact ⟨S1, rfl, fp1, r1⟩
    · rw [if_neg z]
      by_cases v : nI w < B.1 6 5
      · have hl : lnd B w := ⟨y, z_nle z, v⟩
        have f2 : ∀ a b, ¬ (a = 187 ∧ 54 ≤ b ∧ b ≤ 59) → (zI S1 187 58 (nI w)).1 a b = S.1 a b := by
          intro a b h
          by_cases q : a = 187
          · subst q; rw [zI_eq, if_neg (fun q => h ⟨rfl, by omega⟩)]; exact f1 _ _ h
          · rw [zI_ne q]; exact f1 _ _ h
        have r2 : bkR (zI S1 187 58 (nI w)).1 B := bkR_cg (fun a b hb => f2 a b (fun z => by
          rw [z.1] at hb
          exact absurd hb (by unfold rN; simp))) hr
        have c2 : cfR (zI S1 187 58 (nI w)) (Gb w) := ⟨by rw [zI_eq, if_neg (by decide)]; exact c1.1, by rw [zI_eq, if_neg (by decide)]; exact c1.2.1, by rw [zI_eq, if_neg (by decide)]; exact c1.2.2.1, by rw [zI_eq, if_pos rfl]; rfl⟩
        have cb := coin_bd hB
        obtain ⟨d1, d2⟩ := hB.2.2.2.1
        obtain ⟨r, S2, e2, o2, q2⟩ := r_mostCoin hT hB (okG_b (w := w)) (h := 0) (c := B.1 6 2) (by decide) cb.2 r2 c2 (by rw [zI_eq, if_neg (by decide)]; exact h55) (by rw [zI_eq, if_neg (by decide)]; exact h59)
        rw [if_neg (show ¬ (B.1 6 2).toInt < 0 by omega)] at q2
        have er : r = brV B w := by
          have : brV B w = iO (bst (brL B w (bw B)) 256) := if_pos hl
          rw [this]
          exact iO_eq (bst_m1 _ _) q2
        have fp2 : fP S S2 := fun a b h => (o2.1 a b (by omega)).trans (f2 a b (by omega))
        rw [if_pos v, let_q, e2, b_q, ← loL_eq (brV_m1 hB), er]
        by_cases u : brV B w = -1
        · rw [if_pos u, if_pos u]; exact ⟨S2, rfl, fp2, qR_bk o2 r2⟩
        · rw [if_neg u, if_neg u]; exact ⟨S2, rfl, fp2, qR_bk o2 r2⟩
      · rw [if_neg v, nol (fun q => v q.2.2)]
        exact ⟨S1, rfl, fp1, r1⟩
theorem ok18 : oK18 invTS := by
  rintro T S ⟨hT, h1, h2, h3, B, A, h4, h5⟩ x1
  have hB := h4.1
  have e00 : (0 : Int32).toInt = 0 := rfl
  obtain ⟨ebw, w1, w2⟩ := bw_n hB
  unfold fX11_borrowed fX11_borrowed_b15 fX12_borrowed fX12_borrowed_b17
  rw [zT_0_3 hT, h4.2.2.1.1 1 (by decide), ebw]
  by_cases hx : 0 ≤ x1.toInt ∧ x1.toInt < (bw B : Int)
  · obtain ⟨S1, e1, f1, j1, q1, p1, i1, b1⟩ := c_ready hT h1 h2 h3 h4 h5
    have hxn := z_tn hx.1
    obtain ⟨S2, e2, o2⟩ := v_bestBorrowing hT hB (w := x1.toNatClampNeg) (by omega) b1.2.2.1 (rwOK_of p1) p1.1
    rw [nI_n hx.1] at e2
    have i2 := inv_181 (Or.inl rfl) o2 i1
    have r2 : bkR S2.1 B := bkR_cg (fun a b hb => o2.2 a b (fun z => by subst z; exact absurd hb (by unfold rN; simp))) b1.2.2.2.1
    obtain ⟨S3, e3, f3, r3⟩ := r_borrowedIn hT hB (w := x1.toNatClampNeg) (by omega) r2
    rw [nI_n hx.1] at e3
    rw [if_neg (show ¬ x1 < 0 by intro q; have := z_lt.mp q; omega), if_pos (show x1 < nI (bw B) from z_lt.mpr (by rw [nI_toInt (by omega)]; exact hx.2)), e1, b_q, e2, b_q, v_orLacking, b1_q]
    refine ⟨_, S2, S3, rfl, ?_, hT, inv_fP f3 i2⟩
    rw [r_isOfBook hT hB r2, b1_q, if_pos hx, if_neg n10, e3, b_q]
  · refine ⟨-1, S, S, ?_, ?_, hT, h1, h2, h3, B, A, h4, h5⟩
    · by_cases y : x1 < 0
      · rw [if_pos y]
      · have y' := z_le.mp (z_nlt y)
        rw [if_neg y, if_neg (fun q => by have := z_lt.mp q; rw [nI_toInt (by omega)] at this; exact hx ⟨by omega, this⟩)]
    · rw [r_isOfBook hT hB h4.2.2.2.1, b1_q, if_neg hx, if_pos rfl]
/-! coin that comes earlier is never worse -/
theorem stp_mono {f f' : Nat → Int} {inn : Int32} {o g : Nat → Int} {d : Int} (hd : 0 ≤ d) (h : ∀ fr, fr < 256 → 0 ≤ f fr → f fr + d ≤ f' fr) {s : Nat} (h0 : 0 ≤ stp f inn o g s) : stp f inn o g s + d ≤ stp f' inn o g s := by
  have h0' : 0 ≤ adI (pst f inn o s) (g s) := h0
  obtain ⟨a1, a2⟩ := adI_nn h0'
  have h2 : pst f inn o s + d ≤ pst f' inn o s := by
    rcases bst_at (cdP f inn o s) 256 with q | ⟨fr, hfr, q⟩
    · have : pst f inn o s = -1 := q
      omega
    · have q' : pst f inn o s = cdP f inn o s fr := q
      by_cases z : 0 ≤ f fr ∧ mi (nI fr) (nI s) = 0 ∧ mi (mi (nI s) (nI fr)) inn = 0 ∧ cs8 o (mi (nI s) (nI fr)) ≤ f fr
      · have h3 := h fr hfr z.1
        have e1 : cdP f inn o s fr = f fr - cs8 o (mi (nI s) (nI fr)) := by unfold cdP; rw [if_pos z]
        have e2 : cdP f' inn o s fr = f' fr - cs8 o (mi (nI s) (nI fr)) := by unfold cdP; rw [if_pos ⟨by omega, z.2.1, z.2.2.1, by omega⟩]
        have h4 := bst_ge (cdP f' inn o s) 256 fr hfr
        have h5 : pst f' inn o s = bst (cdP f' inn o s) 256 := rfl
        omega
      · have e1 : cdP f inn o s fr = -1 := by unfold cdP; rw [if_neg z]
        omega
  show adI (pst f inn o s) (g s) + d ≤ adI (pst f' inn o s) (g s)
  rw [a2]
  unfold adI
  rw [if_neg (by omega), if_neg (by omega)]
  omega
def brD (B : Bk) (w v : Nat) : Int := if 1 ≤ v ∧ v ≤ w then (B.1 6 4).toInt else 0
theorem brL_mono {B : Bk} (hB : okB B) {w : Nat} (hw : w < bw B) (h1 : 1 ≤ w) (hl : lnd B w) : ∀ v, v ≤ bw B → ∀ s, s < 256 → 0 ≤ brL B w v s → brL B w v s + brD B w v ≤ brL B 0 v s := by
  obtain ⟨ebw, b1, b2⟩ := bw_n hB
  obtain ⟨x, ex, x1, x2⟩ := lnd_n hB (by omega) hl
  obtain ⟨c1, c2⟩ := hB.2.2.2.2.2.1
  intro v
  induction v with
  | zero =>
    intro _ s _ h0
    have e1 : brL B w 0 s = brL B 0 0 s := rfl
    unfold brD
    rw [if_neg (by omega), e1]; omega
  | succ v ih =>
    intro hv s hs h0
    have ih' := ih (by omega)
    have bd := fun s hs => (rfL_bd hB (okG_b (w := 0)) (h := 0) (coin_bd hB) v (by omega) s hs).1
    refine stp_mono (f := fun s => ajC B (Gb w) v (brL B w v s)) (f' := fun s => ajC B (Gb 0) v (brL B 0 v s)) (by unfold brD; split <;> omega) (fun fr hfr hf => ?_) h0
    have hx0 := ajC_nn hf
    have i := ih' fr hfr hx0
    have hf' : 0 ≤ ajC B (Gb w) v (brL B w v fr) := hf
    show ajC B (Gb w) v (brL B w v fr) + brD B w (v + 1) ≤ ajC B (Gb 0) v (brL B 0 v fr)
    generalize brL B w v fr = a at hx0 i hf' ⊢
    generalize brL B 0 v fr = b at i ⊢
    have ht : nI v = B.1 6 5 ↔ v = x := by rw [ex, n_eq (by omega) (by omega)]
    have hd0 : 0 ≤ brD B w v := by unfold brD; split <;> omega
    by_cases z : v = x
    · -- paid back
      have hz := ht.mpr z
      rw [ajb_till (by omega) (by omega) hz (by omega)] at hf' ⊢
      rw [ajb_till (by omega) (by omega) hz (by omega)]
      have e5 : brD B w (v + 1) = 0 := if_neg (by omega)
      obtain ⟨-, a2⟩ := adI_nn hf'
      rw [a2] at hf' ⊢
      rw [e5]
      unfold adI
      rw [if_neg (by omega), if_neg (by omega)]; omega
    · have hz : ¬ nI v = B.1 6 5 := fun q => z (ht.mp q)
      by_cases y : v = w
      · subst y
        rw [ajb_at hB (by omega) hz] at hf' ⊢
        rw [ajb_no (by omega) (by omega) hz (by omega) (by omega)]
        have e5 : brD B v (v + 1) = 0 := if_neg (by omega)
        have e6 : brD B v v = (B.1 6 4).toInt := if_pos ⟨h1, Nat.le_refl _⟩
        obtain ⟨-, a2⟩ := adI_nn hf'
        rw [a2, e5]; omega
      · rw [ajb_no (by omega) (by omega) hz y (by omega)]
        by_cases u : v = 0
        · subst u
          rw [ajb_at hB (by omega) hz]
          have e5 : brD B w (0 + 1) = (B.1 6 4).toInt := if_pos ⟨by omega, by omega⟩
          have e6 : brD B w 0 = 0 := if_neg (by omega)
          rw [e5]
          unfold adI
          rw [if_neg (by omega), if_neg (by omega)]; omega
        · rw [ajb_no (by omega) (by omega) hz u (by omega)]
          have e5 : brD B w (v + 1) ≤ brD B w v := by
            unfold brD
            by_cases q : v ≤ w
            · rw [if_pos (show 1 ≤ v + 1 ∧ v + 1 ≤ w by omega), if_pos (show 1 ≤ v ∧ v ≤ w by omega)]; omega
            · rw [if_neg (by omega), if_neg (by omega)]; omega
          omega
theorem brV_mono {B : Bk} (hB : okB B) {w : Nat} (hw : w < bw B) : (brV B w).toInt ≤ (brV B 0).toInt := by
  obtain ⟨ebw, b1, b2⟩ := bw_n hB
  have em : (-1 : Int32).toInt = -1 := rfl
  have h0 := brV_m1 hB (w := 0)
  by_cases z : w = 0
  · rw [z]; omega
  · by_cases hl : lnd B w
    · obtain ⟨x, ex, x1, x2⟩ := lnd_n hB (by omega) hl
      have hl0 : lnd B 0 := ⟨hl.1, hl.2.1, by rw [ex, n_lt (by omega) (by omega)]; omega⟩
      have e1 : brV B w = iO (bst (brL B w (bw B)) 256) := if_pos hl
      have e2 : brV B 0 = iO (bst (brL B 0 (bw B)) 256) := if_pos hl0
      have q1 := rf_bst hB (okG_b (w := w)) (h := 0) (coin_bd hB) b2
      have q2 := rf_bst hB (okG_b (w := 0)) (h := 0) (coin_bd hB) b2
      have q1' : -1 ≤ bst (brL B w (bw B)) 256 ∧ bst (brL B w (bw B)) 256 ≤ 20000000 := q1
      have q2' : -1 ≤ bst (brL B 0 (bw B)) 256 ∧ bst (brL B 0 (bw B)) 256 ≤ 20000000 := q2
      rw [e1, e2, iO_toInt (by omega) (by omega), iO_toInt (by omega) (by omega)]
      rcases bst_at (brL B w (bw B)) 256 with q | ⟨i, hi, q⟩
      · omega
      · by_cases y : 0 ≤ brL B w (bw B) i
        · have m := brL_mono hB hw (by omega) hl (bw B) (Nat.le_refl _) i hi y
          have e5 : brD B w (bw B) = 0 := if_neg (by omega)
          have := bst_ge (brL B 0 (bw B)) 256 i hi
          omega
        · omega
    · have : brV B w = -1 := if_neg hl
      rw [this, em]; exact h0
theorem r_when {T : zT} (hT : iT T) {B : Bk} (hB : okB B) {m : Int32} (hm : -1 ≤ m.toInt) {S : zS} (hr : bkR S.1 B) : ∃ u S', lp (fun a => fX12_when_l10 T 187 a.1 a.2.1 a.2.2.1 a.2.2.2) (m, (-2), 0, S) = some ((if brV B 0 ≤ m then -2 else 0), S') ∧ u = () ∧ fP S S' := by
  obtain ⟨ebw, b1, b2⟩ := bw_n hB
  have t0 : (0 : Int32).toNatClampNeg = 0 := rfl
  have e00 : (0 : Int32).toInt = 0 := rfl
  have em : (-1 : Int32).toInt = -1 := rfl
  have e2m : (-2 : Int32).toInt = -2 := rfl
  have key : zwp (lp (fun a => fX12_when_l10 T 187 a.1 a.2.1 a.2.2.1 a.2.2.2) (m, (-2), 0, S)) (fun e => e.1 = (if brV B 0 ≤ m then -2 else 0) ∧ fP S e.2) := by
    refine lp_for (I := fun n a => ∃ S', a = ((if n = 0 ∨ brV B 0 ≤ m then m else brV B 0), (if n = 0 ∨ brV B 0 ≤ m then -2 else 0), nI n, S') ∧ fP S S' ∧ bkR S'.1 B) (bw B) ?_ ?_ ?_
    · rintro n a hn ⟨S', rfl, o, r1⟩
      left
      show ∃ a', fX12_when_l10 T 187 (if n = 0 ∨ brV B 0 ≤ m then m else brV B 0) (if n = 0 ∨ brV B 0 ≤ m then -2 else 0) (nI n) S' = _ ∧ _
      obtain ⟨S2, e2, o2, r2⟩ := r_borrowedIn hT hB hn r1
      have bm := brV_m1 hB (w := n)
      have bmo := brV_mono hB hn
      unfold fX12_when_l10 fX12_when_b45
      simp only [let_q]
      rw [zT_187_33 hT, t0, r1.2.2.1, ebw, g_t (by decide), if_neg (show ¬ nI (bw B) ≤ nI n by rw [n_le (by omega) (by omega)]; omega), e2, b_q, n_addL]
      have o3 := fP_trans o o2
      by_cases y : brV B 0 ≤ m
      · have y' := z_le.mp y
        rw [if_pos (show n = 0 ∨ brV B 0 ≤ m from Or.inr y), if_pos (show n = 0 ∨ brV B 0 ≤ m from Or.inr y), if_pos (show n + 1 = 0 ∨ brV B 0 ≤ m from Or.inr y), if_pos (show n + 1 = 0 ∨ brV B 0 ≤ m from Or.inr y)]
        by_cases z : loL (brV B n) = -2
        · rw [if_pos z]; exact ⟨_, rfl, S2, rfl, o3, r2⟩
        · have : loL (brV B n) = brV B n := by
            unfold loL at z ⊢
            by_cases q : 0 ≤ brV B n
            · rw [if_pos q]
            · rw [if_neg q] at z; exact absurd rfl z
          rw [if_neg z, this, if_pos (z_le.mpr (by omega))]; exact ⟨_, rfl, S2, rfl, o3, r2⟩
      · have y' := z_lt.mp (z_nle y)
        rw [if_neg (show ¬ (n + 1 = 0 ∨ brV B 0 ≤ m) from fun q => q.elim (by omega) y), if_neg (show ¬ (n + 1 = 0 ∨ brV B 0 ≤ m) from fun q => q.elim (by omega) y)]
        by_cases x : n = 0
        · subst x
          rw [if_pos (show 0 = 0 ∨ brV B 0 ≤ m from Or.inl rfl), if_pos (show 0 = 0 ∨ brV B 0 ≤ m from Or.inl rfl)]
          have : loL (brV B 0) = brV B 0 := if_pos (z_le.mpr (by omega))
          rw [this, if_neg (show ¬ brV B 0 = -2 by intro q; rw [q] at bm; omega), if_neg y]
          exact ⟨_, rfl, S2, rfl, o3, r2⟩
        · rw [if_neg (show ¬ (n = 0 ∨ brV B 0 ≤ m) from fun q => q.elim x y), if_neg (show ¬ (n = 0 ∨ brV B 0 ≤ m) from fun q => q.elim x y)]
          by_cases z : loL (brV B n) = -2
          · rw [if_pos z]; exact ⟨_, rfl, S2, rfl, o3, r2⟩
          · have : loL (brV B n) = brV B n := by
              unfold loL at z ⊢
              by_cases q : 0 ≤ brV B n
              · rw [if_pos q]
              · rw [if_neg q] at z; exact absurd rfl z
            rw [if_neg z, this, if_pos (z_le.mpr (by omega))]; exact ⟨_, rfl, S2, rfl, o3, r2⟩
    · rintro a ⟨S', rfl, o, r1⟩
      refine ⟨((if brV B 0 ≤ m then -2 else 0), S'), ?_, rfl, o⟩
      show fX12_when_l10 T 187 _ _ (nI (bw B)) S' = _
      unfold fX12_when_l10
      rw [zT_187_33 hT, t0, r1.2.2.1, ebw, g_t (by decide), if_pos (show nI (bw B) ≤ nI (bw B) by rw [n_le (by omega) (by omega)]; omega)]
      by_cases y : brV B 0 ≤ m
      · rw [if_pos (show bw B = 0 ∨ brV B 0 ≤ m from Or.inr y), if_pos (show bw B = 0 ∨ brV B 0 ≤ m from Or.inr y), if_pos y]
      · rw [if_neg (show ¬ (bw B = 0 ∨ brV B 0 ≤ m) from fun q => q.elim (by omega) y), if_neg (show ¬ (bw B = 0 ∨ brV B 0 ≤ m) from fun q => q.elim (by omega) y), if_neg y]
    · exact ⟨S, by rw [if_pos (Or.inl rfl), if_pos (Or.inl rfl)]; rfl, fun _ _ _ => rfl, hr⟩
  obtain ⟨⟨e1, S'⟩, e, q, o⟩ := key
  have q' : e1 = (if brV B 0 ≤ m then -2 else 0) := q
  rw [q'] at e
  exact ⟨(), S', e, rfl, o⟩
theorem ok19 : oK19 invTS := by
  rintro T S ⟨hT, h1, h2, h3, B, A, h4, h5⟩
  have hB := h4.1
  obtain ⟨ebw, w1, w2⟩ := bw_n hB
  have em : (-1 : Int32).toInt = -1 := rfl
  obtain ⟨S1, e1, f1, j1, q1, p1, i1, b1⟩ := c_ready hT h1 h2 h3 h4 h5
  obtain ⟨S2, e2, o2⟩ := v_bestBorrowing hT hB (w := 0) (by omega) b1.2.2.1 (rwOK_of p1) p1.1
  have e2' : fX5_bestBorrowing T 176 0 S1 = some (brV B 0, S2) := e2
  have i2 := inv_181 (Or.inl rfl) o2 i1
  have r2 : bkR S2.1 B := bkR_cg (fun a b hb => o2.2 a b (fun z => by subst z; exact absurd hb (by unfold rN; simp))) b1.2.2.2.1
  obtain ⟨r, S3, e3, f3, r3, q3⟩ := r_asBest hT hB r2
  have pm := p1.2.2.2.1
  have er : r = S1.1 176 3 := z_eq.mpr (by omega)
  have h6 := bst_m1 (bsL B (bw B)) 256
  obtain ⟨-, S4, e4, -, f4⟩ := r_when hT hB (m := S1.1 176 3) (by omega) r3
  unfold fX11_when fX5_borrowingWeek fX5_borrowingWeek_b17 fX12_when
  rw [e1, b_q, e2', b_q, o2.2 176 3 (by decide)]
  by_cases y : brV B 0 ≤ S1.1 176 3
  · rw [if_pos y, b_q, v_orLacking, b1_q]
    rw [if_pos y] at e4
    refine ⟨_, S2, S4, rfl, ?_, hT, inv_fP (fP_trans f3 f4) i2⟩
    rw [e3, b_q, er, e4, b1_q]; rfl
  · rw [if_neg y, b_q, v_orLacking, b1_q]
    rw [if_neg y] at e4
    refine ⟨_, S2, S4, rfl, ?_, hT, inv_fP (fP_trans f3 f4) i2⟩
    rw [e3, b_q, er, e4, b1_q]; rfl
