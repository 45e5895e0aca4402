/-! A WEEK'S STEP, thing by thing -/
theorem bit_set : ∀ s, s < 256 → ∀ t, t < 8 → nI s ||| (1 <<< (nI t &&& 31)) = nI (if s.testBit t = true then s else s + 2 ^ t) ∧ (if s.testBit t = true then s else s + 2 ^ t) < 256 := by decide +kernel
theorem bit_off : ∀ s, s < 256 → ∀ t, t < 8 → s.testBit t = true → 2 ^ t ≤ s ∧ s - 2 ^ t < 256 ∧ (s - 2 ^ t).testBit t = false ∧ (s - 2 ^ t) + 2 ^ t = s := by decide +kernel
theorem bit_off2' : ∀ s, s < 256 → ∀ t, t < 8 → ∀ u, u < 8 → (s.testBit t = true ∧ u ≠ t) → (s - 2 ^ t).testBit u = s.testBit u := by decide +kernel
theorem bit_off2 (s : Nat) (hs : s < 256) (t : Nat) (ht : t < 8) (h : s.testBit t = true) (u : Nat) (hu : u < 8) (hn : u ≠ t) : (s - 2 ^ t).testBit u = s.testBit u := bit_off2' s hs t ht u hu ⟨h, hn⟩
theorem bit_on : ∀ s, s < 256 → ∀ t, t < 8 → s.testBit t = false → s + 2 ^ t < 256 ∧ (s + 2 ^ t).testBit t = true := by decide +kernel
theorem zm_nat {s t : Nat} (hs : s < 256) : zm (nI s) t = s.testBit t := zm_nI hs
theorem mi0 {x y : Int32} (hx : is8 x) : mi x y = 0 ↔ ∀ t, t < 8 → zm x t = true → zm y t = true := m_sub8 hx
theorem is8_mi {x y : Int32} (hx : is8 x) : is8 (mi x y) := is8_and hx
theorem cst_congr {o : Nat → Int} {x y : Int32} : ∀ n, n ≤ 8 → (∀ t, t < 8 → zm x t = zm y t) → cst o x n = cst o y n
  | 0, _, _ => rfl
  | n + 1, h, e => by
    show cst o x n + (if zm x n = true then o n else 0) = cst o y n + (if zm y n = true then o n else 0)
    rw [cst_congr n (by omega) e, e n (by omega)]
theorem cst_add {o : Nat → Int} {x y : Int32} {k : Nat} (hx : zm x k = false) (hy : zm y k = true) : ∀ n, n ≤ 8 → (∀ t, t < 8 → t ≠ k → zm y t = zm x t) → cst o y n = cst o x n + if k < n then o k else 0
  | 0, _, _ => by show (0 : Int) = 0 + _; rw [if_neg (Nat.not_lt_zero _)]; rfl
  | n + 1, h, e => by
    have ih := cst_add (o := o) hx hy n (by omega) e
    show cst o y n + (if zm y n = true then o n else 0) = cst o x n + (if zm x n = true then o n else 0) + (if k < n + 1 then o k else 0)
    rw [ih]
    by_cases z : n = k
    · subst z
      rw [hx, hy, if_pos rfl, if_neg (Nat.lt_irrefl _), if_neg (show ¬ false = true by decide), if_pos (show n < n + 1 by omega)]
      (try omega)
    · rw [e n (by omega) z]
      by_cases y : k < n
      · rw [if_pos y, if_pos (show k < n + 1 by omega)]; omega
      · rw [if_neg y, if_neg (show ¬ k < n + 1 by omega)]; omega
theorem cst_nn {o : Nat → Int} {x : Int32} (h : ∀ t, t < 8 → zm x t = true → 0 ≤ o t) : ∀ n, n ≤ 8 → 0 ≤ cst o x n
  | 0, _ => Int.le_refl _
  | n + 1, hn => by
    have ih := cst_nn h n (by omega)
    show 0 ≤ cst o x n + (if zm x n = true then o n else 0)
    by_cases z : zm x n = true
    · rw [if_pos z]; have := h n (by omega) z; omega
    · rw [if_neg z]; omega
/-- what may be fetched, of the first k things -/
def inK (inn : Int32) (k : Nat) : Int32 := st8 (fun t => zm inn t && decide (t < k))
theorem inK_m {inn : Int32} {k t : Nat} (ht : t < 8) : zm (inK inn k) t = (zm inn t && decide (t < k)) := st8_m ht
theorem cdP_m {prev : Nat → Int} {inn : Int32} {o : Nat → Int} {to fr : Nat} (ht : to < 256) (hf : fr < 256) : cdP prev inn o to fr = if 0 ≤ prev fr ∧ (∀ t, t < 8 → fr.testBit t = true → to.testBit t = true) ∧ (∀ t, t < 8 → to.testBit t = true → fr.testBit t = false → zm inn t = true) ∧ cs8 o (mi (nI to) (nI fr)) ≤ prev fr then prev fr - cs8 o (mi (nI to) (nI fr)) else -1 := by
  have a1 : mi (nI fr) (nI to) = 0 ↔ ∀ t, t < 8 → fr.testBit t = true → to.testBit t = true := by
    rw [mi0 (is8_nI hf)]
    simp only [zm_nat hf, zm_nat ht]
  have a2 : mi (mi (nI to) (nI fr)) inn = 0 ↔ ∀ t, t < 8 → to.testBit t = true → fr.testBit t = false → zm inn t = true := by
    rw [mi0 (is8_mi (is8_nI ht))]
    constructor
    · intro h t h8 h1 h2
      exact h t h8 (by rw [mi_m, zm_nat ht, zm_nat hf, h1, h2]; rfl)
    · intro h t h8 h1
      rw [mi_m, zm_nat ht, zm_nat hf] at h1
      cases x : to.testBit t <;> cases y : fr.testBit t <;> simp_all
  unfold cdP
  by_cases q : 0 ≤ prev fr ∧ mi (nI fr) (nI to) = 0 ∧ mi (mi (nI to) (nI fr)) inn = 0 ∧ cs8 o (mi (nI to) (nI fr)) ≤ prev fr
  · rw [if_pos q, if_pos ⟨q.1, a1.mp q.2.1, a2.mp q.2.2.1, q.2.2.2⟩]
  · rw [if_neg q, if_neg (fun z => q ⟨z.1, a1.mpr z.2.1, a2.mpr z.2.2.1, z.2.2.2⟩)]
theorem cdP_m1 {prev : Nat → Int} {inn : Int32} {o : Nat → Int} {to fr : Nat} : -1 ≤ cdP prev inn o to fr := by
  unfold cdP
  split <;> omega
/-- nothing may be fetched: all stays -/
theorem pst_0 {prev : Nat → Int} {o : Nat → Int} {to : Nat} (hto : to < 256) (hp : -1 ≤ prev to) {inn : Int32} (h0 : ∀ t, t < 8 → zm inn t = false) : pst prev inn o to = prev to := by
  have c0 : cs8 o (mi (nI to) (nI to)) = 0 := by
    have : cst o (mi (nI to) (nI to)) 8 = cst o 0 8 := cst_congr 8 (Nat.le_refl _) (fun t ht => by rw [mi_m, m_0]; cases zm (nI to) t <;> rfl)
    unfold cs8
    rw [this]
    have z : ∀ n, n ≤ 8 → cst o 0 n = 0 := by
      intro n
      induction n with
      | zero => intro _; rfl
      | succ n ih => intro h; show cst o 0 n + (if zm 0 n = true then o n else 0) = 0; rw [ih (by omega), m_0, if_neg (by decide)]; rfl
    exact z 8 (Nat.le_refl _)
  symm
  apply bst_uniq
  · intro fr hfr
    rw [cdP_m hto hfr]
    by_cases q : 0 ≤ prev fr ∧ (∀ t, t < 8 → fr.testBit t = true → to.testBit t = true) ∧ (∀ t, t < 8 → to.testBit t = true → fr.testBit t = false → zm inn t = true) ∧ cs8 o (mi (nI to) (nI fr)) ≤ prev fr
    · rw [if_pos q]
      have e : fr = to := by
        have : nI fr = nI to := is8_ext (is8_nI hfr) (is8_nI hto) (fun t ht => by
          rw [zm_nat hfr, zm_nat hto]
          have q1 := q.2.1 t ht
          have q2 := q.2.2.1 t ht
          rw [h0 t ht] at q2
          cases x : fr.testBit t <;> cases y : to.testBit t <;> simp_all)
        rwa [n_eq (by omega) (by omega)] at this
      rw [e, c0]; omega
    · rw [if_neg q]; exact hp
  · by_cases q : 0 ≤ prev to
    · right
      refine ⟨to, hto, ?_⟩
      rw [cdP_m hto hto, if_pos ⟨q, fun _ _ h => h, fun t _ h1 h2 => (by rw [h1] at h2; cases h2), by rw [c0]; exact q⟩, c0]
      omega
    · left; omega
  · exact hp
/-- one thing more -/
theorem pst_S {prev : Nat → Int} {inn inn' : Int32} {o : Nat → Int} {k to : Nat} (hk : k < 8) (hto : to < 256) (ho : 0 ≤ o k) (hi : ∀ t, t < 8 → t ≠ k → zm inn' t = zm inn t) (h0 : zm inn k = false) (h1 : zm inn' k = true) : pst prev inn' o to = if to.testBit k = true then if o k ≤ pst prev inn o (to - 2 ^ k) then (if pst prev inn o to < pst prev inn o (to - 2 ^ k) - o k then pst prev inn o (to - 2 ^ k) - o k else pst prev inn o to) else pst prev inn o to else pst prev inn o to := by
  by_cases hb : to.testBit k = true
  · rw [if_pos hb]
    obtain ⟨p1, p2, p3, p4⟩ := bit_off to hto k hk hb
    have p5 := bit_off2 to hto k hk hb
    -- a set that has it: nothing new
    have a1 : ∀ fr, fr < 256 → fr.testBit k = true → cdP prev inn' o to fr = cdP prev inn o to fr ∧ cdP prev inn o (to - 2 ^ k) fr = -1 := by
      intro fr hfr hf
      constructor
      · rw [cdP_m hto hfr, cdP_m hto hfr]
        have : (∀ t, t < 8 → to.testBit t = true → fr.testBit t = false → zm inn' t = true) ↔ (∀ t, t < 8 → to.testBit t = true → fr.testBit t = false → zm inn t = true) := by
          refine forall_congr' fun t => forall_congr' fun ht => forall_congr' fun _ => forall_congr' fun h2 => ?_
          rw [hi t ht (fun z => by rw [z, hf] at h2; cases h2)]
        simp only [this]
      · rw [cdP_m p2 hfr, if_neg (fun z => by have := z.2.1 k hk hf; rw [p3] at this; cases this)]
    -- a set that has it not: it is fetched now
    have a2 : ∀ fr, fr < 256 → fr.testBit k = false → cdP prev inn o to fr = -1 ∧ cdP prev inn' o to fr = if o k ≤ cdP prev inn o (to - 2 ^ k) fr ∧ 0 ≤ cdP prev inn o (to - 2 ^ k) fr then cdP prev inn o (to - 2 ^ k) fr - o k else -1 := by
      intro fr hfr hf
      constructor
      · rw [cdP_m hto hfr, if_neg (fun z => by have := z.2.2.1 k hk hb hf; rw [h0] at this; cases this)]
      · have hc : cs8 o (mi (nI to) (nI fr)) = cs8 o (mi (nI (to - 2 ^ k)) (nI fr)) + o k := by
          unfold cs8
          rw [cst_add (x := mi (nI (to - 2 ^ k)) (nI fr)) (y := mi (nI to) (nI fr)) (k := k) (by rw [mi_m, zm_nat p2, p3]; rfl) (by rw [mi_m, zm_nat hto, zm_nat hfr, hb, hf]; rfl) 8 (Nat.le_refl _) (fun t ht hn => by rw [mi_m, mi_m, zm_nat hto, zm_nat p2, p5 t ht hn]), if_pos hk]
        rw [cdP_m hto hfr, cdP_m p2 hfr, hc]
        have b1 : (∀ t, t < 8 → fr.testBit t = true → to.testBit t = true) ↔ (∀ t, t < 8 → fr.testBit t = true → (to - 2 ^ k).testBit t = true) := by
          refine forall_congr' fun t => forall_congr' fun ht => forall_congr' fun h2 => ?_
          rw [p5 t ht (fun z => by rw [z, hf] at h2; cases h2)]
        have b2 : (∀ t, t < 8 → to.testBit t = true → fr.testBit t = false → zm inn' t = true) ↔ (∀ t, t < 8 → (to - 2 ^ k).testBit t = true → fr.testBit t = false → zm inn t = true) := by
          constructor
          · intro h t ht h2 h3
            by_cases z : t = k
            · subst z; rw [p3] at h2; cases h2
            · rw [← hi t ht z]; exact h t ht (by rw [← p5 t ht z]; exact h2) h3
          · intro h t ht h2 h3
            by_cases z : t = k
            · subst z; exact h1
            · rw [hi t ht z]; exact h t ht (by rw [p5 t ht z]; exact h2) h3
        simp only [b1, b2]
        generalize cs8 o (mi (nI (to - 2 ^ k)) (nI fr)) = c
        by_cases q : (0 ≤ prev fr ∧ (∀ t, t < 8 → fr.testBit t = true → (to - 2 ^ k).testBit t = true) ∧ (∀ t, t < 8 → (to - 2 ^ k).testBit t = true → fr.testBit t = false → zm inn t = true)) ∧ c ≤ prev fr
        · rw [if_pos (show 0 ≤ prev fr ∧ (∀ t, t < 8 → fr.testBit t = true → (to - 2 ^ k).testBit t = true) ∧ (∀ t, t < 8 → (to - 2 ^ k).testBit t = true → fr.testBit t = false → zm inn t = true) ∧ c ≤ prev fr from ⟨q.1.1, q.1.2.1, q.1.2.2, q.2⟩)]
          by_cases q2 : c + o k ≤ prev fr
          · rw [if_pos ⟨q.1.1, q.1.2.1, q.1.2.2, q2⟩, if_pos (show o k ≤ prev fr - c ∧ 0 ≤ prev fr - c by omega)]; omega
          · rw [if_neg (fun z => q2 z.2.2.2), if_neg (show ¬ (o k ≤ prev fr - c ∧ 0 ≤ prev fr - c) by omega)]
        · rw [if_neg (fun z => q ⟨⟨z.1, z.2.1, z.2.2.1⟩, by have := z.2.2.2; omega⟩)]
          rw [if_neg (show ¬ (0 ≤ prev fr ∧ (∀ t, t < 8 → fr.testBit t = true → (to - 2 ^ k).testBit t = true) ∧ (∀ t, t < 8 → (to - 2 ^ k).testBit t = true → fr.testBit t = false → zm inn t = true) ∧ c ≤ prev fr) from fun z => q ⟨⟨z.1, z.2.1, z.2.2.1⟩, z.2.2.2⟩), if_neg (by omega)]
    have m1 := bst_m1 (cdP prev inn o to) 256
    have m2 := bst_m1 (cdP prev inn o (to - 2 ^ k)) 256
    have g1 := bst_ge (cdP prev inn o to) 256
    have g2 := bst_ge (cdP prev inn o (to - 2 ^ k)) 256
    have t1 := bst_at (cdP prev inn o to) 256
    have t2 := bst_at (cdP prev inn o (to - 2 ^ k)) 256
    unfold pst
    generalize bst (cdP prev inn o to) 256 = P at m1 g1 t1 ⊢
    generalize bst (cdP prev inn o (to - 2 ^ k)) 256 = Q at m2 g2 t2 ⊢
    have attP : P = -1 ∨ ∃ fr, fr < 256 ∧ P = cdP prev inn' o to fr := by
      rcases t1 with t1 | ⟨fr, hfr, e⟩
      · exact Or.inl t1
      · cases hf : fr.testBit k with
        | true => exact Or.inr ⟨fr, hfr, e.trans (a1 fr hfr hf).1.symm⟩
        | false => exact Or.inl (e.trans (a2 fr hfr hf).1)
    have attQ : o k ≤ Q → 0 ≤ Q → ∃ fr, fr < 256 ∧ Q - o k = cdP prev inn' o to fr := by
      intro q1 q2
      rcases t2 with t2 | ⟨fr, hfr, e⟩
      · omega
      · cases hf : fr.testBit k with
        | true => have := (a1 fr hfr hf).2; omega
        | false =>
          refine ⟨fr, hfr, ?_⟩
          rw [(a2 fr hfr hf).2, ← e, if_pos ⟨q1, q2⟩]
    symm
    by_cases q1 : o k ≤ Q
    · rw [if_pos q1]
      by_cases q2 : P < Q - o k
      · rw [if_pos q2]
        refine bst_uniq (fun fr hfr => ?_) (Or.inr (attQ q1 (by omega))) (by omega)
        cases hf : fr.testBit k with
        | true => rw [(a1 fr hfr hf).1]; have := g1 fr hfr; omega
        | false =>
          rw [(a2 fr hfr hf).2]
          have := g2 fr hfr
          split <;> omega
      · rw [if_neg q2]
        refine bst_uniq (fun fr hfr => ?_) attP m1
        cases hf : fr.testBit k with
        | true => rw [(a1 fr hfr hf).1]; exact g1 fr hfr
        | false =>
          rw [(a2 fr hfr hf).2]
          have := g2 fr hfr
          split <;> omega
    · rw [if_neg q1]
      refine bst_uniq (fun fr hfr => ?_) attP m1
      cases hf : fr.testBit k with
      | true => rw [(a1 fr hfr hf).1]; exact g1 fr hfr
      | false =>
        rw [(a2 fr hfr hf).2]
        have := g2 fr hfr
        split <;> omega
  · rw [if_neg hb]
    have hb' : to.testBit k = false := by simpa using hb
    unfold pst
    refine bst_congr (fun fr hfr => ?_)
    rw [cdP_m hto hfr, cdP_m hto hfr]
    have : (∀ t, t < 8 → to.testBit t = true → fr.testBit t = false → zm inn' t = true) ↔ (∀ t, t < 8 → to.testBit t = true → fr.testBit t = false → zm inn t = true) := by
      refine forall_congr' fun t => forall_congr' fun ht => forall_congr' fun h2 => forall_congr' fun _ => ?_
      rw [hi t ht (fun z => by rw [z, hb'] at h2; cases h2)]
    simp only [this]
theorem pst_same {prev : Nat → Int} {inn inn' : Int32} {o : Nat → Int} {to : Nat} (hto : to < 256) (hi : ∀ t, t < 8 → zm inn' t = zm inn t) : pst prev inn' o to = pst prev inn o to := by
  unfold pst
  refine bst_congr (fun fr hfr => ?_)
  rw [cdP_m hto hfr, cdP_m hto hfr]
  have : (∀ t, t < 8 → to.testBit t = true → fr.testBit t = false → zm inn' t = true) ↔ (∀ t, t < 8 → to.testBit t = true → fr.testBit t = false → zm inn t = true) := by
    refine forall_congr' fun t => forall_congr' fun ht => forall_congr' fun h2 => forall_congr' fun _ => ?_
    rw [hi t ht]
  simp only [this]
