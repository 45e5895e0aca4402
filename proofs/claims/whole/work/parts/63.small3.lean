/-! most, needed, pays -/
theorem Ic_J {S S' : zS} {k : Nat} (h : onlyJ2 S S' k) : S'.1 = S.1 := h.1
theorem c_ernE {T : zT} (hT : iT T) {B : Bk} {w home inn : Int32} {S : zS} (hb : bkC S 7 B) (i1 : is8 home) (i2 : is8 inn) : ∃ S', fX0_earnings T 7 163 w home inn S = some (bern B 1 w home inn, S') ∧ S'.1 = S.1 := by
  obtain ⟨⟨r, S'⟩, e, p, o⟩ := c_ern hT (w := w) hb i1 i2
  have p' : r = bern B 1 w home inn := p
  exact ⟨S', by rw [e, p'], o.1⟩
theorem r_ernE {T : zT} (hT : iT T) {B : Bk} {w home inn : Int32} {S : zS} (hb : bkR S.1 B) (i1 : is8 home) (i2 : is8 inn) : ∃ S', fX12_comes T 187 1 home inn w S = some (bern B 1 w home inn, S') ∧ S'.1 = S.1 := by
  obtain ⟨⟨r, S'⟩, e, p, o⟩ := r_ern hT (Or.inl rfl) (w := w) hb i1 i2
  have p' : r = bern B 1 w home inn := p
  have e' : fX12_comes T 187 1 home inn w S = some (r, S') := e
  exact ⟨S', by rw [e', p'], o.1⟩
/-- the finest so far, of the first sets: (-1: none yet) -/
def mstP (B : Bk) (w : Int32) (n : Nat) (s : Nat) : Prop := mi (nI s) (bth B) = 0 ∧ pc (nI s) = n
theorem th_n {B : Bk} (hB : okB B) : bth B = nI (bth B).toNatClampNeg ∧ (bth B).toNatClampNeg < 256 := is8_n hB.1
theorem mi_le {B : Bk} (hB : okB B) {s : Nat} (hs : s < 256) (h : mi (nI s) (bth B) = 0) : s ≤ (bth B).toNatClampNeg := by
  obtain ⟨e, hn⟩ := th_n hB
  rw [e] at h
  have key : ∀ a, a < 256 → ∀ b, b < 256 → nI a &&& (nI b ^^^ (-1)) = 0 → a ≤ b := by
    intro a ha b hb h
    have h1 := (m_sub8 (is8_nI ha)).mp h
    apply Nat.le_of_testBit
    intro i hi
    by_cases h8 : i < 8
    · have := h1 i h8 (by rw [zm_nI ha]; exact hi)
      rwa [zm_nI hb] at this
    · rw [Nat.testBit_lt_two_pow (Nat.lt_of_lt_of_le (show a < 2 ^ 8 from ha) (Nat.pow_le_pow_right (by decide) (by omega)))] at hi
      cases hi
  exact key s hs _ hn h
theorem most_loop {T : zT} (hT : iT T) {B : Bk} (hB : okB B) {w : Int32} {n : Nat} (hn : n ≤ 8) : ∀ (m s : Nat) (f mc mr : Int32) (Sc Sr : zS), s + m = 256 → bkC Sc 7 B → bkR Sr.1 B → (f = -1 ∧ mc = -1 ∧ mr = 0 ∨ ¬ f = -1 ∧ mc = mr ∧ 0 ≤ mc.toInt) → ∃ v Sc' Sr', lp (fun a => fX11_most_l35 T 0 w (nI n) a.1 a.2.1 a.2.2.1 a.2.2.2) (f, mc, nI s, Sc) = some (v, Sc') ∧ lp (fun a => fX12_most_l34 T 187 w (nI n) a.1 a.2.1 a.2.2.1 a.2.2.2) (f, mr, nI s, Sr) = some (v, Sr') ∧ Sc'.1 = Sc.1 ∧ Sr'.1 = Sr.1 := by
  obtain ⟨eth, hth⟩ := th_n hB
  -- behind the class's last set the reference only counts
  have idle : ∀ (m s : Nat) (f mr : Int32) (Sr : zS), s + m = 256 → (bth B).toNatClampNeg < s → bkR Sr.1 B → lp (fun a => fX12_most_l34 T 187 w (nI n) a.1 a.2.1 a.2.2.1 a.2.2.2) (f, mr, nI s, Sr) = some (f, Sr) := by
    intro m
    induction m with
    | zero =>
      intro s f mr Sr hs _ _
      refine lp_stop ?_
      show fX12_most_l34 T 187 w (nI n) f mr (nI s) Sr = _
      unfold fX12_most_l34
      rw [if_pos (by rw [n_leL (by omega) (by omega)]; omega)]
    | succ m ih =>
      intro s f mr Sr hs hlt hr
      refine lp_go (a' := (f, mr, nI (s + 1), Sr)) ?_ (ih (s + 1) f mr Sr (by omega) (by omega) hr)
      show fX12_most_l34 T 187 w (nI n) f mr (nI s) Sr = _
      unfold fX12_most_l34 fX12_most_b101
      rw [if_neg (by rw [n_leL (by omega) (by omega)]; omega), r_all hT hr hB.1, b1_q, if_neg (fun z => by have := mi_le hB (by omega) (show mi (nI s) (bth B) = 0 from z); omega), let_q, n_addL]
  intro m
  induction m with
  | zero =>
    intro s f mc mr Sc Sr hs hc hr _
    refine ⟨f, Sc, Sr, lp_stop ?_, lp_stop ?_, rfl, rfl⟩
    · show fX11_most_l35 T 0 w (nI n) f mc (nI s) Sc = _
      unfold fX11_most_l35
      rw [zT_0_3 hT, bkC_th hc, eth, if_pos (by rw [n_lt (by omega) (by omega)]; omega)]
    · show fX12_most_l34 T 187 w (nI n) f mr (nI s) Sr = _
      unfold fX12_most_l34
      rw [if_pos (by rw [n_leL (by omega) (by omega)]; omega)]
  | succ m ih =>
    intro s f mc mr Sc Sr hs hc hr hrel
    by_cases hlt : (bth B).toNatClampNeg < s
    · refine ⟨f, Sc, Sr, lp_stop ?_, idle (m + 1) s f mr Sr hs hlt hr, rfl, rfl⟩
      show fX11_most_l35 T 0 w (nI n) f mc (nI s) Sc = _
      unfold fX11_most_l35
      rw [zT_0_3 hT, bkC_th hc, eth, if_pos (by rw [n_lt (by omega) (by omega)]; omega)]
    · have i8 : is8 (nI s) := is8_nI (by omega)
      have s1 : fX11_most_l35 T 0 w (nI n) f mc (nI s) Sc = if mi (nI s) (bth B) = 0 then if pc (nI s) = n then zb (fX0_earnings T 7 163 w (nI s) (bth B &&& (nI s ^^^ (-1))) Sc) (fun r16 S18 => if r16 ≤ mc then some (.inl (f, mc, nI (s + 1), S18)) else some (.inl (nI s, r16, nI (s + 1), S18))) else some (.inl (f, mc, nI (s + 1), Sc)) else some (.inl (f, mc, nI (s + 1), Sc)) := by
        unfold fX11_most_l35 fX11_most_b110
        rw [zT_0_3 hT, zT_0_11 hT, bkC_th hc, if_neg (by rw [eth, n_lt (by omega) (by omega)]; exact hlt), c_hasAll hc, b1_q]
        simp only [let_q, n_addL, v_bitCount i8, b1_q]
        by_cases q : mi (nI s) (bth B) = 0
        · rw [if_pos q, if_neg n10, if_pos q]
          have := pc_le (nI s)
          by_cases z : pc (nI s) = n
          · rw [if_pos (by rw [z]), if_pos z]
          · rw [if_neg (by rw [n_eq (by omega) (by omega)]; exact z), if_neg z]
        · rw [if_neg q, if_pos rfl, if_neg q]
      have s2 : fX12_most_l34 T 187 w (nI n) f mr (nI s) Sr = if mi (nI s) (bth B) = 0 then if pc (nI s) = n then zb (fX12_comes T 187 1 (nI s) (bth B &&& (nI s ^^^ (-1))) w Sr) (fun r21 S23 => if f = (-1) then some (.inl (nI s, r21, nI (s + 1), S23)) else if r21 ≤ mr then some (.inl (f, mr, nI (s + 1), S23)) else some (.inl (nI s, r21, nI (s + 1), S23))) else some (.inl (f, mr, nI (s + 1), Sr)) else some (.inl (f, mr, nI (s + 1), Sr)) := by
        unfold fX12_most_l34 fX12_most_b94 fX12_most_b101
        rw [if_neg (by rw [n_leL (by omega) (by omega)]; omega), r_all hT hr hB.1, b1_q]
        simp only [let_q, n_addL, v_bits i8, b1_q]
        by_cases q : mi (nI s) (bth B) = 0
        · rw [if_pos (show nI s &&& (bth B ^^^ (-1)) = 0 from q), if_pos q]
          have := pc_le (nI s)
          by_cases z : pc (nI s) = n
          · rw [if_pos (by rw [z]), if_pos z]
          · rw [if_neg (by rw [n_eq (by omega) (by omega)]; exact z), if_neg z]
        · rw [if_neg (show ¬ nI s &&& (bth B ^^^ (-1)) = 0 from q), if_neg q]
      by_cases q : mi (nI s) (bth B) = 0
      · rw [if_pos q] at s1 s2
        by_cases q2 : pc (nI s) = n
        · rw [if_pos q2] at s1 s2
          obtain ⟨S18, e1, o1⟩ := c_ernE hT (w := w) hc i8 (th_minus hB (x := nI s))
          obtain ⟨S23, e2, o2⟩ := r_ernE hT (w := w) hr i8 (th_minus hB (x := nI s))
          rw [e1, b_q] at s1
          rw [e2, b_q] at s2
          have hb := (bern_btw hB (Or.inl rfl) w (nI s) (bth B &&& (nI s ^^^ (-1)))).1
          generalize bern B 1 w (nI s) (bth B &&& (nI s ^^^ (-1))) = v at s1 s2 hb
          have hc18 : bkC S18 7 B := bkC_cg (fun a b _ _ => by rw [o1]) hc
          have hr23 : bkR S23.1 B := by rw [o2]; exact hr
          have nm1 : ¬ nI s = -1 := n_m1 (by omega)
          rcases hrel with ⟨rfl, rfl, rfl⟩ | ⟨h1, rfl, h3⟩
          · rw [if_neg (show ¬ v ≤ -1 from fun z => by have a := z_le.mp z; have b : (-1 : Int32).toInt = -1 := rfl; omega)] at s1
            rw [if_pos rfl] at s2
            obtain ⟨v', Sc', Sr', p1, p2, p3, p4⟩ := ih (s + 1) (nI s) v v S18 S23 (by omega) hc18 hr23 (Or.inr ⟨nm1, rfl, hb⟩)
            exact ⟨v', Sc', Sr', lp_go s1 p1, lp_go s2 p2, p3.trans o1, p4.trans o2⟩
          · rw [if_neg h1] at s2
            by_cases q3 : v ≤ mc
            · rw [if_pos q3] at s1 s2
              obtain ⟨v', Sc', Sr', p1, p2, p3, p4⟩ := ih (s + 1) f mc mc S18 S23 (by omega) hc18 hr23 (Or.inr ⟨h1, rfl, h3⟩)
              exact ⟨v', Sc', Sr', lp_go s1 p1, lp_go s2 p2, p3.trans o1, p4.trans o2⟩
            · rw [if_neg q3] at s1 s2
              obtain ⟨v', Sc', Sr', p1, p2, p3, p4⟩ := ih (s + 1) (nI s) v v S18 S23 (by omega) hc18 hr23 (Or.inr ⟨nm1, rfl, hb⟩)
              exact ⟨v', Sc', Sr', lp_go s1 p1, lp_go s2 p2, p3.trans o1, p4.trans o2⟩
        · rw [if_neg q2] at s1 s2
          obtain ⟨v', Sc', Sr', p1, p2, p3, p4⟩ := ih (s + 1) f mc mr Sc Sr (by omega) hc hr hrel
          exact ⟨v', Sc', Sr', lp_go s1 p1, lp_go s2 p2, p3, p4⟩
      · rw [if_neg q] at s1 s2
        obtain ⟨v', Sc', Sr', p1, p2, p3, p4⟩ := ih (s + 1) f mc mr Sc Sr (by omega) hc hr hrel
        exact ⟨v', Sc', Sr', lp_go s1 p1, lp_go s2 p2, p3, p4⟩
theorem ok29 : oK29 invTS := by
  rintro T S ⟨hT, hi⟩ x1 x2
  obtain ⟨-, -, -, B, A, ⟨b1, b2, b3, b4, b5, b6⟩, -⟩ := id hi
  unfold fX11_most fX12_most fX11_most_b25 fX12_most_b24
  have hpc := pc_le (bth B)
  rw [v_isTellable, b1_q, zT_0_3 hT, bkC_th b3, v_bitCount b1.1]
  have ei : ∀ S : zS, fX12_in T x2.toInt64 0 (nI (pc (bth B))).toInt64 S = some (if 0 ≤ x2.toInt ∧ x2.toInt ≤ (pc (bth B) : Int) then 1 else 0) := by
    intro S
    rw [v_in32, i2l_t, nI_toInt (by omega)]
    rfl
  by_cases q1 : 0 ≤ x1.toInt ∧ x1.toInt ≤ 60
  · rw [if_pos q1, if_neg n10]
    by_cases q2 : x2 < 0
    · rw [if_pos q2]
      have a : x2.toInt < 0 := z_lt.mp q2
      refine ⟨_, _, _, rfl, ?_, hT, hi⟩
      rw [v_isWeek, b1_q, if_pos q1, if_neg n10, r_all hT b4 b1.1, b1_q, v_bits b1.1, b1_q, ei, b1_q, if_neg (show ¬ (0 ≤ x2.toInt ∧ x2.toInt ≤ (pc (bth B) : Int)) by omega), if_pos rfl]
    · rw [if_neg q2, b1_q]
      have a0 : 0 ≤ x2.toInt := z_le.mp (z_nlt q2)
      by_cases q3 : x2 ≤ nI (pc (bth B))
      · rw [if_pos q3]
        have a1 := z_le.mp q3
        rw [nI_toInt (by omega)] at a1
        have a2 := z_tn a0
        have hx : x2 = nI x2.toNatClampNeg := (nI_n a0).symm
        obtain ⟨a, f1, f2⟩ := det (oc := lp (fun a => fX11_most_l35 T 0 x1 x2 a.1 a.2.1 a.2.2.1 a.2.2.2) ((-1), (-1), nI 0, S)) (P := fun Sr : zS => bkR Sr.1 B) (g := fun Sr => lp (fun a => fX12_most_l34 T 187 x1 x2 a.1 a.2.1 a.2.2.1 a.2.2.2) ((-1), 0, nI 0, Sr)) (Q := fun Sr a b => a.1 = b.1 ∧ a.2.1 = S.1 ∧ b.2.1 = Sr.1) (fun Sr hSr => by
          obtain ⟨v, Sc', Sr', p1, p2, p3, p4⟩ := most_loop hT b1 (w := x1) (n := x2.toNatClampNeg) (by omega) 256 0 (-1) (-1) 0 S Sr (by omega) b3 hSr (Or.inl ⟨rfl, rfl, rfl⟩)
          rw [← hx] at p1 p2
          exact ⟨(v, Sc'), (v, Sr'), p1, p2, rfl, p3, p4⟩) (c0 := S) b4
        obtain ⟨b, g1, g2, g3, g4⟩ := f2 S b4
        obtain ⟨b', h1, h2, h3, h4⟩ := f2 a.2 (by rw [g3]; exact b4)
        have f1' : lp (fun a => fX11_most_l35 T 0 x1 x2 a.1 a.2.1 a.2.2.1 a.2.2.2) ((-1), (-1), 0, S) = some a := f1
        have h1' : lp (fun a => fX12_most_l34 T 187 x1 x2 a.1 a.2.1 a.2.2.1 a.2.2.2) ((-1), 0, 0, a.2) = some b' := h1
        rw [f1', b1_q]
        refine ⟨a.1, a.2, b'.2, rfl, ?_, hT, inv_J (h4.trans g3) hi⟩
        rw [v_isWeek, b1_q, if_pos q1, if_neg n10, r_all hT (by rw [g3]; exact b4) b1.1, b1_q, v_bits b1.1, b1_q, ei, b1_q, if_pos (show 0 ≤ x2.toInt ∧ x2.toInt ≤ (pc (bth B) : Int) from ⟨a0, a1⟩), if_neg n10, h1', b1_q, h2]
      · rw [if_neg q3]
        have a1 : ¬ x2.toInt ≤ (pc (bth B) : Int) := fun z => q3 (z_le.mpr (by rw [nI_toInt (by omega)]; exact z))
        refine ⟨_, _, _, rfl, ?_, hT, hi⟩
        rw [v_isWeek, b1_q, if_pos q1, if_neg n10, r_all hT b4 b1.1, b1_q, v_bits b1.1, b1_q, ei, b1_q, if_neg (show ¬ (0 ≤ x2.toInt ∧ x2.toInt ≤ (pc (bth B) : Int)) by omega), if_pos rfl]
  · rw [if_neg q1, if_pos rfl]
    refine ⟨_, _, _, rfl, ?_, hT, hi⟩
    rw [v_isWeek, b1_q, if_neg q1, if_pos rfl]
