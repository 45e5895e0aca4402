/-! draws -/
theorem det {α β γ : Type _} {oc : Option α} {P : γ → Prop} {g : γ → Option β} {Q : γ → α → β → Prop} (h : ∀ c, P c → ∃ a b, oc = some a ∧ g c = some b ∧ Q c a b) {c0 : γ} (h0 : P c0) : ∃ a, oc = some a ∧ ∀ c, P c → ∃ b, g c = some b ∧ Q c a b := by
  obtain ⟨a, b, e1, -, -⟩ := h c0 h0
  refine ⟨a, e1, fun c hc => ?_⟩
  obtain ⟨a', b', f1, f2, f3⟩ := h c hc
  rw [e1] at f1
  cases f1
  exact ⟨b', f2, f3⟩
def zl (x : Int64) (t : Nat) : Bool := x.toBitVec.getLsbD t
theorem l_sl : ∀ t, t < 64 → ((nI t).toInt64 &&& 63).toBitVec.smod 64 = BitVec.ofNat 64 t := by decide
theorem l_sh {x : Int64} {t : Nat} (h : t < 64) : (x >>> ((nI t).toInt64 &&& 63)) &&& 1 = if zl x t then 1 else 0 := by
  apply Int64.toBitVec_inj.mp
  rw [Int64.toBitVec_and, Int64.toBitVec_shiftRight, l_sl t h, show (1 : Int64).toBitVec = 1#64 from rfl]
  apply BitVec.eq_of_getLsbD_eq
  intro i hi
  rw [BitVec.getLsbD_and, BitVec.sshiftRight_eq', BitVec.getLsbD_sshiftRight]
  have e1 : (BitVec.ofNat 64 t).toNat = t := by simp; omega
  rw [e1]
  by_cases hz : i = 0
  · subst hz
    rw [show (1#64).getLsbD 0 = true from rfl]
    by_cases hx : zl x t = true
    · rw [if_pos hx]
      simp [h]
      exact hx
    · have hx' : x.toBitVec.getLsbD t = false := by unfold zl at hx; simpa using hx
      rw [if_neg hx]
      simp [h]
      exact hx'
  · have : (1#64).getLsbD i = false := by
      rw [BitVec.getLsbD_one]; simp; omega
    rw [this, Bool.and_false]
    by_cases hx : zl x t = true
    · rw [if_pos hx]; exact this.symm
    · rw [if_neg hx]; exact BitVec.getLsbD_zero.symm
theorem l_sh0 {x : Int64} {t : Nat} (h : t < 64) : lg_cmp ((x >>> ((nI t).toInt64 &&& 63)) &&& 1) 0 = 0 ↔ zl x t = false := by
  rw [lg_cmp_eq, l_sh h]
  cases hx : zl x t with
  | true => decide
  | false => decide
theorem l_or {x y : Int64} {t : Nat} : zl (x ||| y) t = (zl x t || zl y t) := by
  unfold zl; rw [Int64.toBitVec_or, BitVec.getLsbD_or]
theorem l_shl {k t : Nat} (hk : k < 60) (ht : t < 60) : zl (1 <<< ((nI k).toInt64 &&& 63)) t = decide (t = k) := by
  have := (by decide +kernel : ∀ k, k < 60 → ∀ t, t < 60 → zl (1 <<< ((nI k).toInt64 &&& 63)) t = decide (t = k))
  exact this k hk t ht
theorem l_0 {t : Nat} : zl 0 t = false := by unfold zl; exact BitVec.getLsbD_zero
theorem l_m1 : ∀ t, t < 64 → zl (-1) t = true := by decide
theorem l_i {x : Int32} {t : Nat} (h : t < 32) : zl x.toInt64 t = zm x t := by
  unfold zl zm
  rw [show x.toInt64.toBitVec = x.toBitVec.signExtend 64 from rfl, BitVec.getLsbD_signExtend]
  simp [h]
  omega
def nxt (d : Int64) : Int64 := ((d * 1103515245) + 12345) - ((d * 1103515245) + 12345) / 2147483648 * 2147483648
/-- work is had, by a draw -/
def wkd (d : Int64) (luck : Int32) : Int32 := if 0 ≤ (lg_cmp ((d / 65536) - (d / 65536) / 1000 * 1000) luck.toInt64) then 0 else 1
def drs (d : Int64) : Nat → Int64
  | 0 => d
  | n + 1 => nxt (drs d n)
theorem drs_succ (d : Int64) (n : Nat) : drs d (n + 1) = nxt (drs d n) := rfl
/-- the class draws the work of all weeks -/
theorem v_work {T : zT} {W : Nat} {luck : Int32} {S : zS} (hW : W ≤ 60) : ∃ l S', fX3_work T 185 (nI W) luck S = some (l, S') ∧ S'.1 = S.1 ∧ S'.2 185 0 = drs (S.2 185 0) W ∧ (∀ a b, ¬ (a = 185 ∧ b = 0) → S'.2 a b = S.2 a b) ∧ wrkC W l (fun w => wkd (drs (S.2 185 0) (w + 1)) luck) := by
  have key : zwp (lp (fun a => fX3_work_l5 T 185 (nI W) luck a.1 a.2.1 a.2.2) (0, 0, S)) (fun e => e.2.1 = S.1 ∧ e.2.2 185 0 = drs (S.2 185 0) W ∧ (∀ a b, ¬ (a = 185 ∧ b = 0) → e.2.2 a b = S.2 a b) ∧ wrkC W e.1 (fun w => wkd (drs (S.2 185 0) (w + 1)) luck)) := by
    refine lp_for (I := fun n a => ∃ l S', a = (l, nI n, S') ∧ S'.1 = S.1 ∧ S'.2 185 0 = drs (S.2 185 0) n ∧ (∀ a b, ¬ (a = 185 ∧ b = 0) → S'.2 a b = S.2 a b) ∧ (∀ t, t < n → (zl l t = false ↔ wkd (drs (S.2 185 0) (t + 1)) luck = 0)) ∧ ∀ t, n ≤ t → t < 60 → zl l t = false) W ?_ ?_ ?_
    · rintro n a hn ⟨l, S', rfl, h1, h2, h3, h4, h5⟩
      left
      show ∃ a', fX3_work_l5 T 185 (nI W) luck l (nI n) S' = _ ∧ _
      unfold fX3_work_l5 fX3_work_b56
      rw [if_neg (by rw [n_le (by omega) (by omega)]; omega)]
      simp only [let_q, zJ_s, n_addL, h2]
      have hd : wkd (drs (S.2 185 0) (n + 1)) luck = if 0 ≤ (lg_cmp ((nxt (drs (S.2 185 0) n) / 65536) - (nxt (drs (S.2 185 0) n) / 65536) / 1000 * 1000) luck.toInt64) then 0 else 1 := rfl
      have hf : ∀ a b, ¬ (a = 185 ∧ b = 0) → (zJ S' 185 0 (nxt (drs (S.2 185 0) n))).2 a b = S.2 a b := fun a b q => by rw [zJ_at, if_neg q]; exact h3 a b q
      by_cases q : 0 ≤ (lg_cmp ((nxt (drs (S.2 185 0) n) / 65536) - (nxt (drs (S.2 185 0) n) / 65536) / 1000 * 1000) luck.toInt64)
      · rw [if_pos q] at hd
        refine ⟨_, if_pos q, l, _, rfl, h1, zJ_s, hf, fun t ht => ?_, fun t h6 h7 => h5 t (by omega) h7⟩
        by_cases z : t = n
        · subst z
          rw [h5 t (Nat.le_refl _) (by omega), hd]
          exact ⟨fun _ => rfl, fun _ => rfl⟩
        · exact h4 t (by omega)
      · rw [if_neg q] at hd
        refine ⟨_, if_neg q, _, _, rfl, h1, zJ_s, hf, fun t ht => ?_, fun t h6 h7 => ?_⟩
        · rw [l_or, l_shl (by omega) (by omega)]
          by_cases z : t = n
          · subst z
            rw [decide_eq_true rfl, Bool.or_true, hd]
            exact ⟨fun y => (by cases y), fun y => absurd y (by decide)⟩
          · rw [decide_eq_false z, Bool.or_false]
            exact h4 t (by omega)
        · rw [l_or, l_shl (by omega) (by omega), h5 t (by omega) h7, decide_eq_false (by omega)]
          rfl
    · rintro a ⟨l, S', rfl, h1, h2, h3, h4, h5⟩
      refine ⟨(l, S'), ?_, h1, h2, h3, fun w hw => ?_⟩
      · show fX3_work_l5 T 185 (nI W) luck l (nI W) S' = _
        unfold fX3_work_l5
        rw [if_pos (by rw [n_le (by omega) (by omega)]; exact Nat.le_refl _)]
      · have := h4 w hw
        rw [← l_sh0 (by omega)] at this
        by_cases q : lg_cmp ((l >>> ((nI w).toInt64 &&& 63)) &&& 1) 0 = 0
        · rw [if_pos q]; exact this.mp q
        · rw [if_neg q]
          have h6 : ¬ wkd (drs (S.2 185 0) (w + 1)) luck = 0 := fun z => q (this.mpr z)
          show wkd (drs (S.2 185 0) (w + 1)) luck = 1
          unfold wkd at h6 ⊢
          split at h6
          · exact absurd rfl h6
          · rename_i h7; rw [if_neg h7]
    · exact ⟨0, S, rfl, rfl, rfl, fun _ _ _ => rfl, fun t ht => absurd ht (Nat.not_lt_zero _), fun t _ _ => l_0⟩
  obtain ⟨e, e1, e2⟩ := key
  refine ⟨e.1, e.2, ?_, e2⟩
  unfold fX3_work
  rw [e1]
  rfl
theorem wrkR_1 {T : zT} (hT : iT T) {B : Bk} {W : Nat} {x2 : Int32} (d : Int64) : wrkR T B W 1 x2 (fun w => wkd (drs d (w + 1)) (B.1 6 3)) (drs d) := by
  intro w hw S hr hd
  refine ⟨zJ S 187 52 (nxt (drs d w)), ?_, rfl, zJ_s, fun a b q => by rw [zJ_at, if_neg q]⟩
  unfold fX12_works fX12_works_b53
  have t0 : (0 : Int32).toNatClampNeg = 0 := rfl
  rw [if_pos rfl, let_q, g_t (by decide), zT_187_29 hT, t0, zJ_i, hr.2.2.2.2.1, zJ_s, hd]
  show (if 0 ≤ (lg_cmp ((nxt (drs d w) / 65536) - (nxt (drs d w) / 65536) / 1000 * 1000) (B.1 6 3).toInt64) then _ else _) = some (wkd (nxt (drs d w)) (B.1 6 3), _)
  unfold wkd
  by_cases q : 0 ≤ (lg_cmp ((nxt (drs d w) / 65536) - (nxt (drs d w) / 65536) / 1000 * 1000) (B.1 6 3).toInt64)
  · rw [if_pos q, if_pos q]; rfl
  · rw [if_neg q, if_neg q]; rfl
theorem wrkR_0 {T : zT} {B : Bk} {W : Nat} {x2 : Int32} (d : Int64) : wrkR T B W 0 x2 (fun _ => 1) (fun _ => d) := by
  intro w hw S hr hd
  refine ⟨S, ?_, rfl, hd, fun a b _ => rfl⟩
  unfold fX12_works fX12_works_b67 fX12_works_b72
  rw [if_neg (by decide), if_pos rfl]
  rfl
theorem wrkC_0 {W : Nat} (h : W ≤ 60) : wrkC W (-1) (fun _ => 1) := by
  intro w hw
  rw [if_neg (fun q => by rw [l_sh0 (by omega), l_m1 w (by omega)] at q; cases q)]
theorem wrkR_2 {T : zT} {B : Bk} {W : Nat} {x2 : Int32} (d : Int64) (h : W ≤ 32) : wrkR T B W 2 x2 (fun w => if zm x2 w = true then 1 else 0) (fun _ => d) := by
  intro w hw S hr hd
  refine ⟨S, ?_, rfl, hd, fun a b _ => rfl⟩
  unfold fX12_works fX12_works_b67 fX12_works_b72
  rw [if_neg (by decide), if_neg (by decide)]
  show _ = some (if zm x2 w = true then (1 : Int32) else 0, S)
  by_cases q : zm x2 w = true
  · rw [if_pos ((m_sh1 (by omega)).mpr q), if_pos q]; rfl
  · rw [if_neg (fun z => q ((m_sh1 (by omega)).mp z)), if_neg q]; rfl
theorem wrkC_2 {W : Nat} {x2 : Int32} (h : W ≤ 32) : wrkC W x2.toInt64 (fun w => if zm x2 w = true then 1 else 0) := by
  intro w hw
  show (if zm x2 w = true then (1 : Int32) else 0) = _
  cases q : zm x2 w with
  | true => rw [if_pos rfl, if_neg (fun z => by rw [l_sh0 (by omega), l_i (by omega), q] at z; cases z)]
  | false => rw [if_neg (by decide), if_pos (by rw [l_sh0 (by omega), l_i (by omega)]; exact q)]
