/-! sets as bits of an int -/
def zm (x : Int32) (t : Nat) : Bool := x.toBitVec.getLsbD t
theorem m_sl : ∀ t, t < 32 → (nI t &&& 31).toBitVec.smod 32 = BitVec.ofNat 32 t := by decide
theorem m_and {x y : Int32} {t : Nat} : zm (x &&& y) t = (zm x t && zm y t) := by
  unfold zm; rw [Int32.toBitVec_and, BitVec.getLsbD_and]
theorem m_or {x y : Int32} {t : Nat} : zm (x ||| y) t = (zm x t || zm y t) := by
  unfold zm; rw [Int32.toBitVec_or, BitVec.getLsbD_or]
theorem m_xor {x y : Int32} {t : Nat} : zm (x ^^^ y) t = (zm x t ^^ zm y t) := by
  unfold zm; rw [Int32.toBitVec_xor, BitVec.getLsbD_xor]
theorem m_m1 : ∀ t, t < 32 → zm (-1) t = true := by decide
theorem m_0 {t : Nat} : zm 0 t = false := by unfold zm; exact BitVec.getLsbD_zero
theorem m_not {x : Int32} {t : Nat} (h : t < 32) : zm (x ^^^ (-1)) t = !zm x t := by
  rw [m_xor, m_m1 t h, Bool.xor_true]
theorem m_big {x : Int32} {t : Nat} (h : 32 ≤ t) : zm x t = false := BitVec.getLsbD_of_ge _ _ h
theorem m_dif {x y : Int32} {t : Nat} : zm (x &&& (y ^^^ (-1))) t = (zm x t && !zm y t) := by
  by_cases h : t < 32
  · rw [m_and, m_not h]
  · rw [m_big (by omega), m_big (by omega)]; rfl
theorem m_ext {x y : Int32} (h : ∀ t, t < 32 → zm x t = zm y t) : x = y := by
  apply Int32.toBitVec_inj.mp
  apply BitVec.eq_of_getLsbD_eq
  exact h
theorem m_shl {k t : Nat} (hk : k < 32) (ht : t < 32) : zm (1 <<< (nI k &&& 31)) t = decide (t = k) := by
  have := (by decide : ∀ k, k < 32 → ∀ t, t < 32 → zm (1 <<< (nI k &&& 31)) t = decide (t = k))
  exact this k hk t ht
theorem m_sh {x : Int32} {t : Nat} (h : t < 32) : (x >>> (nI t &&& 31)) &&& 1 = if zm x t then 1 else 0 := by
  apply Int32.toBitVec_inj.mp
  rw [Int32.toBitVec_and, Int32.toBitVec_shiftRight, m_sl t h, show (1 : Int32).toBitVec = 1#32 from rfl]
  apply BitVec.eq_of_getLsbD_eq
  intro i hi
  rw [BitVec.getLsbD_and, BitVec.sshiftRight_eq', BitVec.getLsbD_sshiftRight]
  have e1 : (BitVec.ofNat 32 t).toNat = t := by simp; omega
  rw [e1]
  by_cases hz : i = 0
  · subst hz
    rw [show (1#32).getLsbD 0 = true from rfl]
    by_cases hx : zm x t = true
    · have hx' : x.toBitVec.getLsbD t = true := hx
      rw [if_pos hx]
      simp [h]
      exact hx
    · have hx' : x.toBitVec.getLsbD t = false := by unfold zm at hx; simpa using hx
      rw [if_neg hx]
      simp [h]
      exact hx'
  · have : (1#32).getLsbD i = false := by
      rw [BitVec.getLsbD_one]; simp; omega
    rw [this, Bool.and_false]
    by_cases hx : zm x t = true
    · rw [if_pos hx]; exact this.symm
    · rw [if_neg hx]; exact BitVec.getLsbD_zero.symm
theorem m_sh0 {x : Int32} {t : Nat} (h : t < 32) : (x >>> (nI t &&& 31)) &&& 1 = 0 ↔ zm x t = false := by
  rw [m_sh h]
  by_cases hx : zm x t = true
  · rw [if_pos hx, hx]; decide
  · rw [if_neg hx]; simpa using hx
theorem m_sh1 {x : Int32} {t : Nat} (h : t < 32) : (x >>> (nI t &&& 31)) &&& 1 = 1 ↔ zm x t = true := by
  rw [m_sh h]
  by_cases hx : zm x t = true
  · rw [if_pos hx, hx]; decide
  · rw [if_neg hx]; exact ⟨fun q => absurd q (by decide), fun q => absurd q hx⟩
theorem nI_n {x : Int32} (h : 0 ≤ x.toInt) : nI x.toNatClampNeg = x := by
  apply z_eq.mpr
  have := z_tn h
  have h2 : x.toInt < 2147483648 := Int32.toInt_lt x
  rw [nI_toInt (by omega)]
  exact this
theorem tn_nI {n : Nat} (h : n < 2147483648) : (nI n).toNatClampNeg = n := by
  have h1 := nI_toInt h
  have := z_tn (i := nI n) (by omega)
  omega
/-- a set of things: of the bits 0 to 7 alone -/
def is8 (x : Int32) : Prop := ∀ t, 8 ≤ t → zm x t = false
theorem zm_nI {n t : Nat} (h : n < 256) : zm (nI n) t = n.testBit t := by
  unfold zm nI
  show (BitVec.ofNat 32 n).getLsbD t = _
  rw [BitVec.getLsbD_ofNat]
  by_cases ht : t < 32
  · rw [decide_eq_true ht, Bool.true_and]
  · rw [decide_eq_false ht, Bool.false_and]
    refine (Nat.testBit_lt_two_pow ?_).symm
    exact Nat.lt_of_lt_of_le (show n < 2 ^ 8 from h) (Nat.pow_le_pow_right (by decide) (by omega))
theorem is8_nI {n : Nat} (h : n < 256) : is8 (nI n) := by
  intro t ht
  rw [zm_nI h]
  exact Nat.testBit_lt_two_pow (Nat.lt_of_lt_of_le (show n < 2 ^ 8 from h) (Nat.pow_le_pow_right (by decide) ht))
theorem is8_val {x : Int32} (h : is8 x) : 0 ≤ x.toInt ∧ x.toInt < 256 := by
  have hn : x.toBitVec.toNat < 2 ^ 8 := by
    apply Nat.lt_pow_two_of_testBit
    intro i hi
    rw [← BitVec.getLsbD]
    exact h i hi
  have e : x.toInt = (x.toBitVec.toNat : Int) := by
    show x.toBitVec.toInt = _
    rw [BitVec.toInt_eq_toNat_of_lt (by omega)]
  omega
theorem is8_of {x : Int32} (h1 : 0 ≤ x.toInt) (h2 : x.toInt < 256) : is8 x := by
  rw [← nI_n h1]
  exact is8_nI (by have := z_tn h1; omega)
theorem is8_n {x : Int32} (h : is8 x) : x = nI x.toNatClampNeg ∧ x.toNatClampNeg < 256 := by
  have := is8_val h
  have h3 := z_tn this.1
  exact ⟨(nI_n this.1).symm, by omega⟩
theorem is8_0 : is8 0 := fun _ _ => m_0
theorem is8_and {x y : Int32} (h : is8 x) : is8 (x &&& y) := fun t ht => by rw [m_and, h t ht]; rfl
theorem is8_or {x y : Int32} (h : is8 x) (h' : is8 y) : is8 (x ||| y) := fun t ht => by rw [m_or, h t ht, h' t ht]; rfl
theorem is8_shl {k : Nat} (h : k < 8) : is8 (1 <<< (nI k &&& 31)) := fun t ht => by
  by_cases h2 : t < 32
  · rw [m_shl (by omega) h2]; exact decide_eq_false (by omega)
  · exact m_big (by omega)
theorem m_shl8 {k t : Nat} (hk : k < 8) : zm (1 <<< (nI k &&& 31)) t = decide (t = k) := by
  by_cases h2 : t < 32
  · exact m_shl (by omega) h2
  · rw [m_big (by omega)]; exact (decide_eq_false (by omega)).symm
theorem is8_ext {x y : Int32} (hx : is8 x) (hy : is8 y) (h : ∀ t, t < 8 → zm x t = zm y t) : x = y := by
  refine m_ext (fun t _ => ?_)
  by_cases h8 : t < 8
  · exact h t h8
  · rw [hx t (by omega), hy t (by omega)]
theorem m_sub {x y : Int32} : x &&& (y ^^^ (-1)) = 0 ↔ ∀ t, t < 32 → zm x t = true → zm y t = true := by
  constructor
  · intro h t ht hx
    have : zm (x &&& (y ^^^ (-1))) t = false := by rw [h]; exact m_0
    rw [m_dif, hx, Bool.true_and] at this
    simpa using this
  · intro h
    refine m_ext (fun t ht => ?_)
    rw [m_dif, m_0]
    by_cases hx : zm x t = true
    · rw [hx, h t ht hx]; rfl
    · rw [show zm x t = false by simpa using hx]; rfl
theorem m_sub8 {x y : Int32} (hx : is8 x) : x &&& (y ^^^ (-1)) = 0 ↔ ∀ t, t < 8 → zm x t = true → zm y t = true := by
  rw [m_sub]
  constructor
  · exact fun h t ht => h t (by omega)
  · intro h t ht hxt
    by_cases h8 : t < 8
    · exact h t h8 hxt
    · rw [hx t (by omega)] at hxt; cases hxt
/-- x is a subset of y, by the class's and the reference's own test, where y is of things -/
theorem m_sub_is8 {x y : Int32} (hy : is8 y) (h : x &&& (y ^^^ (-1)) = 0) : is8 x := by
  intro t ht
  by_cases h2 : t < 32
  · cases hx : zm x t with
    | false => rfl
    | true =>
      have := m_sub.mp h t h2 hx
      rw [hy t ht] at this
      cases this
  · exact m_big (by omega)
/-! how many bits -/
def pc (x : Int32) : Nat := ((List.range 8).filter (fun t => zm x t)).length
theorem pc_le (x : Int32) : pc x ≤ 8 := by
  unfold pc
  exact Nat.le_trans (List.length_filter_le _ _) (by decide)
theorem pc_step : ∀ n, n < 256 → n ≠ 0 → pc (nI n &&& (nI n - 1)) + 1 = pc (nI n) ∧ 0 ≤ (nI n &&& (nI n - 1)).toInt ∧ (nI n &&& (nI n - 1)).toInt < 256 := by decide +kernel
theorem pc_0 : pc 0 = 0 := by decide +kernel
theorem v_bitCount {T : zT} {x : Int32} {S : zS} (h : is8 x) : fJ6_bitCount_0f7a4 T x S = some (nI (pc x)) := by
  obtain ⟨e, hn⟩ := is8_n h
  have key : ∀ n, n < 256 → fJ6_bitCount_0f7a4 T (nI n) S = some (nI (pc (nI n))) := by
    have k2 : ∀ n, n < 256 → (let x0 := nI n
      let u1 := x0 - ((((x0 : Int32).toUInt32 >>> ((1 : Int32).toUInt32 &&& Int32.toUInt32 31)).toInt32) &&& 1431655765)
      let u2 := (u1 &&& 858993459) + ((((u1 : Int32).toUInt32 >>> ((2 : Int32).toUInt32 &&& Int32.toUInt32 31)).toInt32) &&& 858993459)
      let u3 := (u2 + (((u2 : Int32).toUInt32 >>> ((4 : Int32).toUInt32 &&& Int32.toUInt32 31)).toInt32)) &&& 252645135
      let u4 := u3 + (((u3 : Int32).toUInt32 >>> ((8 : Int32).toUInt32 &&& Int32.toUInt32 31)).toInt32)
      let u5 := u4 + (((u4 : Int32).toUInt32 >>> ((16 : Int32).toUInt32 &&& Int32.toUInt32 31)).toInt32)
      u5 &&& 63) = nI (pc (nI n)) := by decide +kernel
    intro n hn
    exact congrArg some (k2 n hn)
  rw [e]
  exact key _ hn
/-! loops with a count -/
theorem lp_for {α : Type _} {β : Type _} {f : α → Option (α ⊕ β)} {Q : β → Prop} (I : Nat → α → Prop) (N : Nat) (h1 : ∀ n a, n < N → I n a → (∃ a', f a = some (.inl a') ∧ I (n + 1) a') ∨ ∃ r, f a = some (.inr r) ∧ Q r) (h2 : ∀ a, I N a → ∃ r, f a = some (.inr r) ∧ Q r) {a : α} (h0 : I 0 a) : zwp (lp f a) Q := by
  have key : ∀ (m n : Nat) (a : α), n + m = N → I n a → zwp (lp f a) Q := by
    intro m
    induction m with
    | zero =>
      intro n a e hI
      have e' : n = N := by omega
      subst e'
      obtain ⟨r, h, hq⟩ := h2 a hI
      exact ⟨r, lp_stop h, hq⟩
    | succ m ih =>
      intro n a e hI
      rcases h1 n a (by omega) hI with ⟨a', h, hI'⟩ | ⟨r, h, hq⟩
      · obtain ⟨b, hb, hq⟩ := ih (n + 1) a' (by omega) hI'
        exact ⟨b, lp_go h hb, hq⟩
      · exact ⟨r, lp_stop h, hq⟩
  exact key N 0 a (by omega) h0
theorem lp_steps {α : Type _} {β : Type _} {f : α → Option (α ⊕ β)} (g : Nat → α) (N : Nat) (r : β) (h1 : ∀ n, n < N → f (g n) = some (.inl (g (n + 1)))) (h2 : f (g N) = some (.inr r)) : lp f (g 0) = some r := by
  obtain ⟨b, hb, hq⟩ := lp_for (f := f) (Q := fun b => b = r) (fun n a => a = g n) N (fun n a hn e => Or.inl ⟨_, by rw [e]; exact h1 n hn, rfl⟩) (fun a e => ⟨r, by rw [e]; exact h2, rfl⟩) (a := g 0) rfl
  rw [hb, hq]
theorem z_ok {β : Type _} {o : Option β} {Q : β → Prop} (h : zwp o Q) {P : β → Prop} (h' : zwl o P) : zwp o (fun b => Q b ∧ P b) := by
  obtain ⟨b, e, q⟩ := h
  exact ⟨b, e, q, h' b e⟩
theorem v_bits {T : zT} {x : Int32} {S : zS} (h : is8 x) : fX12_bits T x S = some (nI (pc x)) := by
  unfold fX12_bits
  have key : zwp (lp (fun a : Int32 × Int32 => fX12_bits_l4 T S a.1 a.2) (0, x)) (fun r => r = nI (pc x)) := by
    refine zwp_lp (fun a => ∃ m n, a = (nI m, nI n) ∧ n < 256 ∧ m + pc (nI n) = pc x) (fun a => pc a.2) ?_ ⟨0, x.toNatClampNeg, ?_, (is8_n h).2, ?_⟩
    · rintro a ⟨m, n, rfl, hn, e⟩
      unfold fX12_bits_l4
      by_cases hz : nI n = 0
      · refine ⟨_, if_pos hz, zwp_inr ?_⟩
        rw [hz, pc_0] at e
        rw [← e]
        rfl
      · have hz' : n ≠ 0 := fun q => hz (by rw [q]; rfl)
        obtain ⟨p1, p2, p3⟩ := pc_step n hn hz'
        have p4 := z_tn p2
        refine ⟨_, if_neg hz, zwp_inl ⟨⟨m + 1, (nI n &&& (nI n - 1)).toNatClampNeg, ?_, by omega, ?_⟩, ?_⟩⟩
        · show (nI m + 1, nI n &&& (nI n - 1)) = _
          rw [nI_n p2]
          have : nI m + 1 = nI (m + 1) := by unfold nI; exact (Int32.ofNat_add m 1).symm
          rw [this]
        · rw [nI_n p2]; omega
        · show pc (nI n &&& (nI n - 1)) < pc (nI n)
          omega
    · rw [nI_n (is8_val h).1]; rfl
    · rw [nI_n (is8_val h).1]; omega
  obtain ⟨r, e, q⟩ := key
  rw [e, q]
  rfl
