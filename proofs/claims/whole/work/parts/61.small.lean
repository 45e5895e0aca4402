theorem n10 : ¬ (1 : Int32) = 0 := by decide
/-! thing, count, owed, earned, act, row -/
def hasP (B : Bk) (x : Int32) : Prop := ∃ t, t < 8 ∧ x = nI t ∧ zm (bth B) t = true
theorem c_has {T : zT} {B : Bk} {S : zS} (hc : bkC S 7 B) (x : Int32) : (hasP B x ∧ fX0_has T 7 x S = some 1) ∨ (¬ hasP B x ∧ fX0_has T 7 x S = some 0) := by
  obtain ⟨r, e, ⟨rfl, h1, h2, h3⟩ | ⟨rfl, h⟩⟩ := v_has T 7 x S
  · left
    refine ⟨⟨x.toNatClampNeg, by have := z_tn h1; omega, (nI_n h1).symm, ?_⟩, e⟩
    unfold zbit at h3
    rw [← nI_n h1, m_sh0 (by have := z_tn h1; omega), bkC_th hc] at h3
    simpa using h3
  · right
    refine ⟨?_, e⟩
    rintro ⟨t, ht, rfl, hz⟩
    apply h
    rw [nI_toInt (by omega)]
    refine ⟨by omega, by omega, ?_⟩
    unfold zbit
    rw [m_sh0 (by omega), bkC_th hc, hz]
    decide
theorem r_has {T : zT} (hT : iT T) {B : Bk} {S : zS} (hr : bkR S.1 B) (x : Int32) : (hasP B x ∧ fX12_has T 187 x S = some 1) ∨ (¬ hasP B x ∧ fX12_has T 187 x S = some 0) := by
  obtain ⟨r, e, ⟨rfl, h1, h2, h3⟩ | ⟨rfl, h⟩⟩ := v_has12 hT x S
  · left
    have ht : x.toNatClampNeg < 8 := by have := z_tn h1; omega
    exact ⟨⟨x.toNatClampNeg, ht, (nI_n h1).symm, (r199 hr ht).mp h3⟩, e⟩
  · right
    refine ⟨?_, e⟩
    rintro ⟨t, ht, rfl, hz⟩
    apply h
    rw [nI_toInt (by omega), tn_nI (by omega)]
    exact ⟨by omega, by omega, (r199 hr ht).mpr hz⟩
theorem c_hasAll {T : zT} {B : Bk} {S : zS} (hc : bkC S 7 B) (x : Int32) : fX0_hasAll T 7 x S = some (if mi x (bth B) = 0 then 1 else 0) := by
  unfold fX0_hasAll fX0_hasAll_b16 mi
  rw [bkC_th hc]
  by_cases q : x &&& (bth B ^^^ (-1)) = 0
  · rw [if_pos q, if_pos q]; rfl
  · rw [if_neg q, if_neg q]; rfl
theorem sub_is8 {B : Bk} (hB : okB B) {x : Int32} (h : mi x (bth B) = 0) : is8 x := m_sub_is8 hB.1 h
theorem r_isSet {T : zT} (hT : iT T) {B : Bk} {S : zS} (hB : okB B) (hr : bkR S.1 B) (x : Int32) : fX12_isSet T 187 x S = some (if mi x (bth B) = 0 then 1 else 0) := by
  unfold fX12_isSet fX12_isSet_b19 fX12_isSet_b20
  rw [r_all hT hr hB.1, b1_q]
  by_cases q0 : x < 0
  · have : ¬ mi x (bth B) = 0 := fun q => by
      have := is8_val (sub_is8 hB q)
      have a : x.toInt < 0 := z_lt.mp q0
      omega
    rw [if_pos q0, if_neg this]; rfl
  · rw [if_neg q0]
    unfold mi
    by_cases q : x &&& (bth B ^^^ (-1)) = 0
    · rw [if_pos q, if_pos q]; rfl
    · rw [if_neg q, if_neg q]; rfl
theorem ok4 : oK4 invTS := by
  rintro T S ⟨hT, hi⟩ x1 x2
  obtain ⟨-, -, -, B, A, ⟨b1, b2, b3, b4, b5, b6⟩, -⟩ := id hi
  unfold fX11_thing fX12_thing
  rw [zT_0_3 hT]
  rcases c_has (T := T) b3 x1 with ⟨⟨t, ht, rfl, hz⟩, e1⟩ | ⟨h, e1⟩ <;> rcases r_has hT b4 _ with ⟨h', e2⟩ | ⟨h', e2⟩ <;> rw [e1, e2, b1_q, b1_q]
  · rw [if_neg n10, if_neg n10]
    have c : ∀ j, j < 6 → S.1 (8 + j) t = S.1 (200 + j) t := fun j hj => by rw [b4.2.1 t ht j hj]; exact b3.2.1 t ht hz j hj
    simp only [g_in ht (show 8 < 2147483648 by decide), g_in (show t < 16 by omega) (show 16 < 2147483648 by decide), tn_nI (show t < 2147483648 by omega), zT_7_6 hT, zT_7_7 hT, zT_7_8 hT, zT_7_9 hT, zT_7_10 hT, zT_7_11 hT, zT_187_23 hT, zT_187_24 hT, zT_187_25 hT, zT_187_26 hT, zT_187_27 hT, zT_187_28 hT]
    have c0 := c 0 (by decide)
    have c1 := c 1 (by decide)
    have c2 := c 2 (by decide)
    have c3 := c 3 (by decide)
    have c4 := c 4 (by decide)
    have c5 := c 5 (by decide)
    simp only [Nat.add_zero, Nat.reduceAdd] at c0 c1 c2 c3 c4 c5
    rw [c0, c1, c2, c3, c4, c5]
    by_cases q0 : x2 = 0
    · rw [if_pos q0]; exact ⟨_, rfl, rfl, hT, hi⟩
    rw [if_neg q0]
    by_cases q1 : x2 = 1
    · rw [if_pos q1]; exact ⟨_, rfl, rfl, hT, hi⟩
    rw [if_neg q1]
    by_cases q2 : x2 = 2
    · rw [if_pos q2]; exact ⟨_, rfl, rfl, hT, hi⟩
    rw [if_neg q2]
    by_cases q3 : x2 = 3
    · rw [if_pos q3]; exact ⟨_, rfl, rfl, hT, hi⟩
    rw [if_neg q3]
    by_cases q4 : x2 = 4
    · rw [if_pos q4]; exact ⟨_, rfl, rfl, hT, hi⟩
    rw [if_neg q4]
    by_cases q5 : x2 = 5
    · rw [if_pos q5]; exact ⟨_, rfl, rfl, hT, hi⟩
    rw [if_neg q5]
    exact ⟨_, rfl, rfl, hT, hi⟩
  · exact absurd ⟨t, ht, rfl, hz⟩ h'
  · exact absurd h' h
  · rw [if_pos rfl, if_pos rfl]
    exact ⟨_, rfl, rfl, hT, hi⟩
theorem r_clausesOf {T : zT} (hT : iT T) {B : Bk} {S : zS} (hr : bkR S.1 B) {k : Nat} (hk : k < 7) : fX12_clausesOf T 187 (nI k) S = some (nI (B.2.filter (ofK k)).length) := by
  obtain ⟨hlen, h24, hcl⟩ := hr.2.2.2.2.2.2.2
  have i0 : zin 0 8 = true := by decide
  have t0 : (0 : Int32).toNatClampNeg = 0 := rfl
  have key : lp (fun a => fX12_clausesOf_l4 T 187 (nI k) S a.1 a.2) (nI 0, nI 0) = some (nI (B.2.filter (ofK k)).length) := by
    have e0 : (nI 0, nI 0) = (fun n : Nat => (nI ((B.2.take n).filter (ofK k)).length, nI n)) 0 := rfl
    rw [e0]
    refine lp_steps (f := fun a => fX12_clausesOf_l4 T 187 (nI k) S a.1 a.2) (fun n : Nat => (nI ((B.2.take n).filter (ofK k)).length, nI n)) B.2.length _ (fun n hn => ?_) ?_
    · show fX12_clausesOf_l4 T 187 (nI k) S (nI ((B.2.take n).filter (ofK k)).length) (nI n) = some (.inl (nI ((B.2.take (n + 1)).filter (ofK k)).length, nI (n + 1)))
      obtain ⟨c, hc⟩ : ∃ c, B.2[n]? = some c := ⟨B.2[n], List.getElem?_eq_getElem hn⟩
      obtain ⟨-, c6, c2, -⟩ := hcl n c hc
      unfold fX12_clausesOf_l4 fX12_clausesOf_b30
      simp only [g_t i0, t0, zT_187_14 hT, hlen, zT_187_15 hT, let_q, n_addL]
      rw [if_neg (by rw [n_le (by omega) (by omega)]; omega), g_in (by omega) (by decide), tn_nI (by omega), c2, List.take_add_one, hc, List.filter_append, List.length_append]
      by_cases q : c.1 = k
      · rw [if_pos (by rw [q])]
        have : ofK k c = true := by unfold ofK; rw [q]; exact beq_self_eq_true k
        simp [this]
      · rw [if_neg (by rw [n_eq (by omega) (by omega)]; exact q)]
        have : ofK k c = false := by unfold ofK; rw [beq_eq_false_iff_ne]; exact q
        simp [this]
    · show fX12_clausesOf_l4 T 187 (nI k) S (nI ((B.2.take B.2.length).filter (ofK k)).length) (nI B.2.length) = _
      unfold fX12_clausesOf_l4
      simp only [g_t i0, t0, zT_187_14 hT, hlen]
      rw [if_pos (by rw [n_le (by omega) (by omega)]; omega), List.take_length]
  unfold fX12_clausesOf
  have key' : lp (fun a => fX12_clausesOf_l4 T 187 (nI k) S a.1 a.2) (0, 0) = some (nI (B.2.filter (ofK k)).length) := key
  rw [key', b1_q]
theorem ok5 : oK5 invTS := by
  rintro T S ⟨hT, hi⟩ x1
  obtain ⟨⟨n, -, a1, a2, -⟩, ⟨r, -, r1, r2, -⟩, -, B, A, ⟨b1, b2, b3, b4, b5, b6⟩, -⟩ := id hi
  have i0 : zin 0 2 = true := by decide
  have t0 : (0 : Int32).toNatClampNeg = 0 := rfl
  unfold fX11_count fX12_count
  simp only [g_t i0, t0, zT_0_3 hT, zT_0_5 hT, zT_7_12 hT, zT_7_13 hT, zT_187_29 hT, zT_187_30 hT, zT_187_31 hT, zT_187_32 hT, zT_187_33 hT, r_all hT b4 b1.1, b1_q]
  have k1 : fX12_clausesOf T 187 1 S = some (nI (B.2.filter (ofK 1)).length) := r_clausesOf hT b4 (by decide)
  have k2 : fX12_clausesOf T 187 2 S = some (nI (B.2.filter (ofK 2)).length) := r_clausesOf hT b4 (by decide)
  obtain ⟨-, -, r3, r4, r5, r6, r7, -⟩ := b4
  rw [k1, k2, b1_q, b1_q, b3.1 0 (by decide), b3.1 1 (by decide), b3.1 2 (by decide), b3.1 3 (by decide), b3.1 4 (by decide), b3.1 5 (by decide), r3, r4, r5, r6, r7, b3.2.2.1.1, b3.2.2.2.1.1, r1, r2, a1, a2, b5.1, b6.1]
  have hs : ∀ (o : Option Int32), (∃ r, o = some r) → ∃ r, o = some r ∧ o = some r ∧ invTS T S := fun o ⟨r, e⟩ => ⟨r, e, e, hT, hi⟩
  refine hs _ ?_
  repeat' split
  all_goals exact ⟨_, rfl⟩
theorem c_firstOwed {T : zT} (hT : iT T) {B : Bk} {S : zS} (hc : bkC S 7 B) {t : Nat} (ht : t < 8) (hz : zm (bth B) t = true) (w : Int32) : fX0_firstOwed T 7 (nI t) w S = some (B.1 0 t + B.1 1 t * w) := by
  unfold fX0_firstOwed
  rw [g_in ht (by decide), g_in ht (by decide), zT_7_6 hT, zT_7_7 hT, tn_nI (by omega)]
  rw [show S.1 8 t = B.1 0 t from hc.2.1 t ht hz 0 (by decide), show S.1 9 t = B.1 1 t from hc.2.1 t ht hz 1 (by decide)]
theorem r_firstOwed {T : zT} (hT : iT T) {B : Bk} {S : zS} (hr : bkR S.1 B) {t : Nat} (ht : t < 8) (w : Int32) : fX12_owedAtFirst T 187 (nI t) w S = some (B.1 0 t + B.1 1 t * w) := by
  unfold fX12_owedAtFirst
  rw [g_in (by omega) (by decide), g_in (by omega) (by decide), zT_187_23 hT, zT_187_24 hT, tn_nI (by omega)]
  rw [show S.1 200 t = B.1 0 t from hr.2.1 t ht 0 (by decide), show S.1 201 t = B.1 1 t from hr.2.1 t ht 1 (by decide)]
theorem ok6 : oK6 invTS := by
  rintro T S ⟨hT, hi⟩ x1 x2
  obtain ⟨-, -, -, B, A, ⟨b1, b2, b3, b4, b5, b6⟩, -⟩ := id hi
  unfold fX11_owed fX12_owed fX11_owed_b30 fX11_owed_b31 fX12_owed_b24 fX12_owed_b25
  have hs : ∀ (o : Option Int32), (∃ r, o = some r) → ∃ r, o = some r ∧ o = some r ∧ invTS T S := fun o ⟨r, e⟩ => ⟨r, e, e, hT, hi⟩
  rw [zT_0_3 hT, v_isTellable, v_isWeek]
  simp only [b1_q]
  rcases c_has (T := T) b3 x1 with ⟨⟨t, ht, rfl, hz⟩, e1⟩ | ⟨h, e1⟩ <;> rcases r_has hT b4 _ with ⟨h', e2⟩ | ⟨h', e2⟩ <;> rw [e1, e2, b1_q, b1_q]
  · rw [if_neg n10, if_neg n10, c_firstOwed hT b3 ht hz, r_firstOwed hT b4 ht]
    simp only [b1_q]
    refine hs _ ?_
    split <;> exact ⟨_, rfl⟩
  · exact absurd ⟨t, ht, rfl, hz⟩ h'
  · exact absurd h' h
  · rw [if_pos rfl, if_pos rfl]
    exact ⟨_, rfl, rfl, hT, hi⟩
theorem th_minus {B : Bk} (hB : okB B) {x : Int32} : is8 (bth B &&& (x ^^^ (-1))) := is8_and hB.1
theorem gC_of {S S' : zS} (h : onlyJ2 S S' 164) : inv S → inv S' := inv_J h.1
theorem ok7 : oK7 invTS := by
  rintro T S ⟨hT, hi⟩ x1 x2 x3
  obtain ⟨-, -, -, B, A, ⟨b1, b2, b3, b4, b5, b6⟩, -⟩ := id hi
  unfold fX11_earned fX12_earned fX11_earned_b18 fX11_earned_b82 fX12_earned_b51 fX12_earned_b52 fX12_earned_b35
  rw [zT_0_3 hT, zT_0_11 hT, c_hasAll b3, v_isTellable, b1_q, b1_q, bkC_th b3]
  have ei : ∀ S : zS, fX12_in T x3.toInt64 0 1 S = some (if 0 ≤ x3.toInt ∧ x3.toInt ≤ 1 then 1 else 0) := by
    intro S
    rw [v_in32]
    rfl
  by_cases q1 : mi x1 (bth B) = 0
  · rw [if_pos q1, if_neg n10]
    have i1 := sub_is8 b1 q1
    by_cases q2 : 0 ≤ x2.toInt ∧ x2.toInt ≤ 60
    · rw [if_pos q2, if_neg n10]
      by_cases q3 : x3 = 0
      · rw [if_pos q3]
        obtain ⟨⟨r1, S1⟩, e1, p1, o1⟩ := c_ern hT (w := x2) (S := S) b3 i1 (th_minus b1 (x := x1))
        have o1a : S1.1 = S.1 := o1.1
        obtain ⟨⟨r2, S2⟩, e2, p2, o2⟩ := r_ern hT (Or.inl rfl) (w := x2) (S := S1) (by rw [o1a]; exact b4) i1 (th_minus b1 (x := x1))
        have o2a : S2.1 = S1.1 := o2.1
        have e2' : fX12_comes T 187 1 x1 (bth B &&& (x1 ^^^ (-1))) x2 S1 = some (r2, S2) := e2
        have p : r2 = r1 := p2.trans p1.symm
        rw [e1, b_q]
        refine ⟨r1, S1, S2, rfl, ?_, hT, inv_J (o2a.trans o1a) hi⟩
        rw [r_isSet hT b1 (by rw [o1a]; exact b4), b1_q, if_pos q1, if_neg n10, v_isWeek, b1_q, if_pos q2, if_neg n10, ei, b1_q, if_pos (show 0 ≤ x3.toInt ∧ x3.toInt ≤ 1 by rw [q3]; decide), if_neg n10, if_pos q3, r_all hT (by rw [o1a]; exact b4) b1.1, b1_q, e2', b_q, p]
        rfl
      · rw [if_neg q3]
        by_cases q4 : x3 = 1
        · rw [if_pos q4]
          obtain ⟨⟨r1, S1⟩, e1, p1, o1⟩ := c_need hT (w := x2) (S := S) b3 i1 (th_minus b1 (x := x1))
          have o1a : S1.1 = S.1 := o1.1
          obtain ⟨⟨r2, S2⟩, e2, p2, o2⟩ := r_ern hT (Or.inr rfl) (w := x2) (S := S1) (by rw [o1a]; exact b4) i1 (th_minus b1 (x := x1))
          have o2a : S2.1 = S1.1 := o2.1
          have e2' : fX12_comes T 187 2 x1 (bth B &&& (x1 ^^^ (-1))) x2 S1 = some (r2, S2) := e2
          have p : r2 = r1 := p2.trans p1.symm
          rw [e1, b_q]
          refine ⟨r1, S1, S2, rfl, ?_, hT, inv_J (o2a.trans o1a) hi⟩
          rw [r_isSet hT b1 (by rw [o1a]; exact b4), b1_q, if_pos q1, if_neg n10, v_isWeek, b1_q, if_pos q2, if_neg n10, ei, b1_q, if_pos (show 0 ≤ x3.toInt ∧ x3.toInt ≤ 1 by rw [q4]; decide), if_neg n10, if_neg q3, r_all hT (by rw [o1a]; exact b4) b1.1, b1_q, e2', b_q, p]
          rfl
        · rw [if_neg q4]
          refine ⟨_, _, _, rfl, ?_, hT, hi⟩
          rw [r_isSet hT b1 b4, b1_q, if_pos q1, if_neg n10, v_isWeek, b1_q, if_pos q2, if_neg n10, ei, b1_q, if_neg (fun z : 0 ≤ x3.toInt ∧ x3.toInt ≤ 1 => by
            have a : x3.toInt = 0 ∨ x3.toInt = 1 := by omega
            rcases a with a | a
            · exact q3 (z_eq.mpr a)
            · exact q4 (z_eq.mpr a)), if_pos rfl]
    · rw [if_neg q2, if_pos rfl]
      refine ⟨_, _, _, rfl, ?_, hT, hi⟩
      rw [r_isSet hT b1 b4, b1_q, if_pos q1, if_neg n10, v_isWeek, b1_q, if_neg q2, if_pos rfl]
  · rw [if_neg q1, if_pos rfl]
    refine ⟨_, _, _, rfl, ?_, hT, hi⟩
    rw [r_isSet hT b1 b4, b1_q, if_neg q1, if_pos rfl]
