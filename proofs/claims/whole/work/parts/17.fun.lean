/-! X0_tellThing -/
noncomputable def fX0_tellThing_b52 (T : zT)  (S : zS) : Option (Unit × zS) :=
  some ((), S)
noncomputable def fX0_tellThing (T : zT) (k0 : Nat) (x1 : Int32) (x2 : Int32) (x3 : Int32) (S : zS) : Option (Unit × zS) :=
  if x1 < 0 then fX0_tellThing_b52 T  S else if 8 ≤ x1 then fX0_tellThing_b52 T  S else zgd (zin x1 8) (zlet (zI S (zr T k0 6) (x1 : Int32).toNatClampNeg x2) fun S4 => zgd (zin x1 8) (zlet (zI S4 (zr T k0 7) (x1 : Int32).toNatClampNeg x3) fun S6 => zgd (zin x1 8) (zlet (zI S6 (zr T k0 8) (x1 : Int32).toNatClampNeg (-1)) fun S8 => zgd (zin x1 8) (zlet (zI S8 (zr T k0 9) (x1 : Int32).toNatClampNeg 0) fun S10 => zgd (zin x1 8) (zlet (zI S10 (zr T k0 10) (x1 : Int32).toNatClampNeg 0) fun S12 => zgd (zin x1 8) (zlet (zI S12 (zr T k0 11) (x1 : Int32).toNatClampNeg 0) fun S14 => fX0_tellThing_b52 T  S14))))))
set_option maxHeartbeats 4000000 in
set_option maxRecDepth 100000 in
theorem tX0_tellThing_b52 (T : zT)  (S : zS)  {g : zG} (r : (Unit × zS)) (h : fX0_tellThing_b52 T  S = some r)  : zg g 0 mX0_tellThing T 52 [none, none, none, none] [] T S none T r.2 := by
  unfold fX0_tellThing_b52 at h
  cases h
  exact z_vret rfl dX0_tellThing_52
set_option maxHeartbeats 4000000 in
set_option maxRecDepth 100000 in
theorem tX0_tellThing (T : zT) (k0 : Nat) (x1 : Int32) (x2 : Int32) (x3 : Int32) (S : zS) (h0 : iX0 T k0) (r : Unit × zS) (h : fX0_tellThing T k0 x1 x2 x3 S = some r) : zGM 0 mX0_tellThing [.ref k0, .int x1, .int x2, .int x3] T S none T r.2 := by
  refine zGM_of zpnX0 rfl (Nat.le_of_ble_eq_true rfl) (fun g => ?_)
  show zg g 0 mX0_tellThing T 0 [some (.ref k0), some (.int x1), some (.int x2), some (.int x3)] [] T S none T r.2
  unfold fX0_tellThing at h
  refine z_iload_n dX0_tellThing_0 rfl ?_
  refine z_if_lt (tgt := 52) dX0_tellThing_1 (by decide) (fun q1 => ?_) (fun q1 => ?_)
  · rw [if_pos q1] at h
    exact z_mask [false, false, false, false] rfl (tX0_tellThing_b52 T  S  r h)
  · rw [if_neg q1] at h
    refine z_iload_n dX0_tellThing_4 rfl ?_
    refine z_bipush dX0_tellThing_5 cB_8 ?_
    refine z_icmp_ge (tgt := 52) dX0_tellThing_7 (by decide) (fun q2 => ?_) (fun q2 => ?_)
    · rw [if_pos q2] at h
      exact z_mask [false, false, false, false] rfl (tX0_tellThing_b52 T  S  r h)
    · rw [if_neg q2] at h
      refine z_aload_n dX0_tellThing_10 rfl ?_
      refine z_gA (zF.x zfX0_9) h0.1 dX0_tellThing_11 ?_
      refine z_iload_n dX0_tellThing_14 rfl ?_
      refine z_iload_n dX0_tellThing_15 rfl ?_
      obtain ⟨q3, h⟩ := zgd_elim h
      refine z_iast h0.2.1 (zin_ok q3) dX0_tellThing_16 ?_
      obtain ⟨S4, eS4, h⟩ := zlet_elim h
      refine z_tS eS4 ?_
      refine z_aload_n dX0_tellThing_17 rfl ?_
      refine z_gA (zF.x zfX0_15) h0.1 dX0_tellThing_18 ?_
      refine z_iload_n dX0_tellThing_21 rfl ?_
      refine z_iload_n dX0_tellThing_22 rfl ?_
      obtain ⟨q5, h⟩ := zgd_elim h
      refine z_iast h0.2.2.1 (zin_ok q5) dX0_tellThing_23 ?_
      obtain ⟨S6, eS6, h⟩ := zlet_elim h
      refine z_tS eS6 ?_
      refine z_aload_n dX0_tellThing_24 rfl ?_
      refine z_gA (zF.x zfX0_18) h0.1 dX0_tellThing_25 ?_
      refine z_iload_n dX0_tellThing_28 rfl ?_
      refine z_iconst dX0_tellThing_29 cI_m1 ?_
      obtain ⟨q7, h⟩ := zgd_elim h
      refine z_iast h0.2.2.2.1 (zin_ok q7) dX0_tellThing_30 ?_
      obtain ⟨S8, eS8, h⟩ := zlet_elim h
      refine z_tS eS8 ?_
      refine z_aload_n dX0_tellThing_31 rfl ?_
      refine z_gA (zF.x zfX0_21) h0.1 dX0_tellThing_32 ?_
      refine z_iload_n dX0_tellThing_35 rfl ?_
      refine z_iconst dX0_tellThing_36 cI_0 ?_
      obtain ⟨q9, h⟩ := zgd_elim h
      refine z_iast h0.2.2.2.2.1 (zin_ok q9) dX0_tellThing_37 ?_
      obtain ⟨S10, eS10, h⟩ := zlet_elim h
      refine z_tS eS10 ?_
      refine z_aload_n dX0_tellThing_38 rfl ?_
      refine z_gA (zF.x zfX0_24) h0.1 dX0_tellThing_39 ?_
      refine z_iload_n dX0_tellThing_42 rfl ?_
      refine z_iconst dX0_tellThing_43 cI_0 ?_
      obtain ⟨q11, h⟩ := zgd_elim h
      refine z_iast h0.2.2.2.2.2.1 (zin_ok q11) dX0_tellThing_44 ?_
      obtain ⟨S12, eS12, h⟩ := zlet_elim h
      refine z_tS eS12 ?_
      refine z_aload_n dX0_tellThing_45 rfl ?_
      refine z_gA (zF.x zfX0_27) h0.1 dX0_tellThing_46 ?_
      refine z_iload_n dX0_tellThing_49 rfl ?_
      refine z_iconst dX0_tellThing_50 cI_0 ?_
      obtain ⟨q13, h⟩ := zgd_elim h
      refine z_iast h0.2.2.2.2.2.2.1 (zin_ok q13) dX0_tellThing_51 ?_
      obtain ⟨S14, eS14, h⟩ := zlet_elim h
      refine z_tS eS14 ?_
      exact z_mask [false, false, false, false] rfl (tX0_tellThing_b52 T  S14  r h)
/-! X0_has -/
noncomputable def fX0_has_b26 (T : zT) (s0 : Int32) (S : zS) : Option Int32 :=
  zgd (zbl s0) (some s0)
noncomputable def fX0_has_b25 (T : zT)  (S : zS) : Option Int32 :=
  fX0_has_b26 T 0 S
noncomputable def fX0_has (T : zT) (k0 : Nat) (x1 : Int32) (S : zS) : Option Int32 :=
  if x1 < 0 then fX0_has_b25 T  S else if 8 ≤ x1 then fX0_has_b25 T  S else if (((S.1 k0 0) >>> (x1 &&& 31)) &&& 1) = 0 then fX0_has_b25 T  S else fX0_has_b26 T 1 S
set_option maxHeartbeats 4000000 in
set_option maxRecDepth 100000 in
theorem tX0_has_b26 (T : zT) (s0 : Int32) (S : zS)  {g : zG} (r : Int32) (h : fX0_has_b26 T s0 S = some r)  : zg g 0 mX0_has T 26 [none, none] [.int s0] T S (some (.int r)) T S := by
  unfold fX0_has_b26 at h
  obtain ⟨q2, h⟩ := zgd_elim h
  cases h
  exact z_zret rfl (zbl_ok q2) dX0_has_26
set_option maxHeartbeats 4000000 in
set_option maxRecDepth 100000 in
theorem tX0_has_b25 (T : zT)  (S : zS)  {g : zG} (r : Int32) (h : fX0_has_b25 T  S = some r)  : zg g 0 mX0_has T 25 [none, none] [] T S (some (.int r)) T S := by
  unfold fX0_has_b25 at h
  refine z_iconst dX0_has_25 cI_0 ?_
  exact z_mask [false, false] rfl (tX0_has_b26 T 0 S  r h)
set_option maxHeartbeats 4000000 in
set_option maxRecDepth 100000 in
theorem tX0_has (T : zT) (k0 : Nat) (x1 : Int32) (S : zS) (h0 : iX0 T k0) (r : Int32) (h : fX0_has T k0 x1 S = some r) : zGM 0 mX0_has [.ref k0, .int x1] T S (some (.int r)) T S := by
  refine zGM_of zpnX0 rfl (Nat.le_of_ble_eq_true rfl) (fun g => ?_)
  show zg g 0 mX0_has T 0 [some (.ref k0), some (.int x1)] [] T S (some (.int r)) T S
  unfold fX0_has at h
  refine z_iload_n dX0_has_0 rfl ?_
  refine z_if_lt (tgt := 25) dX0_has_1 (by decide) (fun q1 => ?_) (fun q1 => ?_)
  · rw [if_pos q1] at h
    exact z_mask [false, false] rfl (tX0_has_b25 T  S  r h)
  · rw [if_neg q1] at h
    refine z_iload_n dX0_has_4 rfl ?_
    refine z_bipush dX0_has_5 cB_8 ?_
    refine z_icmp_ge (tgt := 25) dX0_has_7 (by decide) (fun q3 => ?_) (fun q3 => ?_)
    · rw [if_pos q3] at h
      exact z_mask [false, false] rfl (tX0_has_b25 T  S  r h)
    · rw [if_neg q3] at h
      refine z_aload_n dX0_has_10 rfl ?_
      refine z_gI (zF.x zfX0_50) h0.1 dX0_has_11 ?_
      refine z_iload_n dX0_has_14 rfl ?_
      refine z_ishr dX0_has_15 rfl ?_
      refine z_iconst dX0_has_16 cI_1 ?_
      refine z_iand dX0_has_17 rfl ?_
      refine z_if_eq (tgt := 25) dX0_has_18 (by decide) (fun q4 => ?_) (fun q4 => ?_)
      · rw [if_pos q4] at h
        exact z_mask [false, false] rfl (tX0_has_b25 T  S  r h)
      · rw [if_neg q4] at h
        refine z_iconst dX0_has_21 cI_1 ?_
        refine z_goto (tgt := 26) dX0_has_22 (by decide) ?_
        exact z_mask [false, false] rfl (tX0_has_b26 T 1 S  r h)
/-! X0_hasAll -/
noncomputable def fX0_hasAll_b16 (T : zT) (s0 : Int32) (S : zS) : Option Int32 :=
  zgd (zbl s0) (some s0)
noncomputable def fX0_hasAll (T : zT) (k0 : Nat) (x1 : Int32) (S : zS) : Option Int32 :=
  if (x1 &&& ((S.1 k0 0) ^^^ (-1))) = 0 then fX0_hasAll_b16 T 1 S else fX0_hasAll_b16 T 0 S
set_option maxHeartbeats 4000000 in
set_option maxRecDepth 100000 in
theorem tX0_hasAll_b16 (T : zT) (s0 : Int32) (S : zS)  {g : zG} (r : Int32) (h : fX0_hasAll_b16 T s0 S = some r)  : zg g 0 mX0_hasAll T 16 [none, none] [.int s0] T S (some (.int r)) T S := by
  unfold fX0_hasAll_b16 at h
  obtain ⟨q2, h⟩ := zgd_elim h
  cases h
  exact z_zret rfl (zbl_ok q2) dX0_hasAll_16
set_option maxHeartbeats 4000000 in
set_option maxRecDepth 100000 in
theorem tX0_hasAll (T : zT) (k0 : Nat) (x1 : Int32) (S : zS) (h0 : iX0 T k0) (r : Int32) (h : fX0_hasAll T k0 x1 S = some r) : zGM 0 mX0_hasAll [.ref k0, .int x1] T S (some (.int r)) T S := by
  refine zGM_of zpnX0 rfl (Nat.le_of_ble_eq_true rfl) (fun g => ?_)
  show zg g 0 mX0_hasAll T 0 [some (.ref k0), some (.int x1)] [] T S (some (.int r)) T S
  unfold fX0_hasAll at h
  refine z_iload_n dX0_hasAll_0 rfl ?_
  refine z_aload_n dX0_hasAll_1 rfl ?_
  refine z_gI (zF.x zfX0_50) h0.1 dX0_hasAll_2 ?_
  refine z_iconst dX0_hasAll_5 cI_m1 ?_
  refine z_ixor dX0_hasAll_6 rfl ?_
  refine z_iand dX0_hasAll_7 rfl ?_
  refine z_if_ne (tgt := 15) dX0_hasAll_8 (by decide) (fun q1 => ?_) (fun q1 => ?_)
  · rw [if_neg q1] at h
    refine z_iconst dX0_hasAll_15 cI_0 ?_
    exact z_mask [false, false] rfl (tX0_hasAll_b16 T 0 S  r h)
  · rw [if_pos q1] at h
    refine z_iconst dX0_hasAll_11 cI_1 ?_
    refine z_goto (tgt := 16) dX0_hasAll_12 (by decide) ?_
    exact z_mask [false, false] rfl (tX0_hasAll_b16 T 1 S  r h)
/-! X0_firstOwed -/
noncomputable def fX0_firstOwed (T : zT) (k0 : Nat) (x1 : Int32) (x2 : Int32) (S : zS) : Option Int32 :=
  zgd (zin x1 8) (zgd (zin x1 8) (some ((S.1 (zr T k0 6) (x1 : Int32).toNatClampNeg) + ((S.1 (zr T k0 7) (x1 : Int32).toNatClampNeg) * x2))))
set_option maxHeartbeats 4000000 in
set_option maxRecDepth 100000 in
theorem tX0_firstOwed (T : zT) (k0 : Nat) (x1 : Int32) (x2 : Int32) (S : zS) (h0 : iX0 T k0) (r : Int32) (h : fX0_firstOwed T k0 x1 x2 S = some r) : zGM 0 mX0_firstOwed [.ref k0, .int x1, .int x2] T S (some (.int r)) T S := by
  refine zGM_of zpnX0 rfl (Nat.le_of_ble_eq_true rfl) (fun g => ?_)
  show zg g 0 mX0_firstOwed T 0 [some (.ref k0), some (.int x1), some (.int x2)] [] T S (some (.int r)) T S
  unfold fX0_firstOwed at h
  refine z_aload_n dX0_firstOwed_0 rfl ?_
  refine z_gA (zF.x zfX0_9) h0.1 dX0_firstOwed_1 ?_
  refine z_iload_n dX0_firstOwed_4 rfl ?_
  obtain ⟨q1, h⟩ := zgd_elim h
  refine z_iald h0.2.1 (zin_ok q1) dX0_firstOwed_5 ?_
  refine z_aload_n dX0_firstOwed_6 rfl ?_
  refine z_gA (zF.x zfX0_15) h0.1 dX0_firstOwed_7 ?_
  refine z_iload_n dX0_firstOwed_10 rfl ?_
  obtain ⟨q2, h⟩ := zgd_elim h
  refine z_iald h0.2.2.1 (zin_ok q2) dX0_firstOwed_11 ?_
  refine z_iload_n dX0_firstOwed_12 rfl ?_
  refine z_imul dX0_firstOwed_13 rfl ?_
  refine z_iadd dX0_firstOwed_14 rfl ?_
  cases h
  exact z_iret rfl dX0_firstOwed_15
/-! X0_isLost -/
noncomputable def fX0_isLost_b25 (T : zT) (s0 : Int32) (S : zS) : Option Int32 :=
  zgd (zbl s0) (some s0)
noncomputable def fX0_isLost_b24 (T : zT)  (S : zS) : Option Int32 :=
  fX0_isLost_b25 T 0 S
noncomputable def fX0_isLost (T : zT) (k0 : Nat) (x1 : Int32) (x2 : Int32) (S : zS) : Option Int32 :=
  zgd (zin x1 8) (if (S.1 (zr T k0 8) (x1 : Int32).toNatClampNeg) = (-1) then fX0_isLost_b24 T  S else zgd (zin x1 8) (if x2 < (S.1 (zr T k0 8) (x1 : Int32).toNatClampNeg) then fX0_isLost_b24 T  S else fX0_isLost_b25 T 1 S))
set_option maxHeartbeats 4000000 in
set_option maxRecDepth 100000 in
theorem tX0_isLost_b25 (T : zT) (s0 : Int32) (S : zS)  {g : zG} (r : Int32) (h : fX0_isLost_b25 T s0 S = some r)  : zg g 0 mX0_isLost T 25 [none, none, none] [.int s0] T S (some (.int r)) T S := by
  unfold fX0_isLost_b25 at h
  obtain ⟨q3, h⟩ := zgd_elim h
  cases h
  exact z_zret rfl (zbl_ok q3) dX0_isLost_25
set_option maxHeartbeats 4000000 in
set_option maxRecDepth 100000 in
theorem tX0_isLost_b24 (T : zT)  (S : zS)  {g : zG} (r : Int32) (h : fX0_isLost_b24 T  S = some r)  : zg g 0 mX0_isLost T 24 [none, none, none] [] T S (some (.int r)) T S := by
  unfold fX0_isLost_b24 at h
  refine z_iconst dX0_isLost_24 cI_0 ?_
  exact z_mask [false, false, false] rfl (tX0_isLost_b25 T 0 S  r h)
set_option maxHeartbeats 4000000 in
set_option maxRecDepth 100000 in
theorem tX0_isLost (T : zT) (k0 : Nat) (x1 : Int32) (x2 : Int32) (S : zS) (h0 : iX0 T k0) (r : Int32) (h : fX0_isLost T k0 x1 x2 S = some r) : zGM 0 mX0_isLost [.ref k0, .int x1, .int x2] T S (some (.int r)) T S := by
  refine zGM_of zpnX0 rfl (Nat.le_of_ble_eq_true rfl) (fun g => ?_)
  show zg g 0 mX0_isLost T 0 [some (.ref k0), some (.int x1), some (.int x2)] [] T S (some (.int r)) T S
  unfold fX0_isLost at h
  refine z_aload_n dX0_isLost_0 rfl ?_
  refine z_gA (zF.x zfX0_18) h0.1 dX0_isLost_1 ?_
  refine z_iload_n dX0_isLost_4 rfl ?_
  obtain ⟨q1, h⟩ := zgd_elim h
  refine z_iald h0.2.2.2.1 (zin_ok q1) dX0_isLost_5 ?_
  refine z_iconst dX0_isLost_6 cI_m1 ?_
  refine z_icmp_eq (tgt := 24) dX0_isLost_7 (by decide) (fun q2 => ?_) (fun q2 => ?_)
  · rw [if_pos q2] at h
    exact z_mask [false, false, false] rfl (tX0_isLost_b24 T  S  r h)
  · rw [if_neg q2] at h
    refine z_aload_n dX0_isLost_10 rfl ?_
    refine z_gA (zF.x zfX0_18) h0.1 dX0_isLost_11 ?_
    refine z_iload_n dX0_isLost_14 rfl ?_
    obtain ⟨q4, h⟩ := zgd_elim h
    refine z_iald h0.2.2.2.1 (zin_ok q4) dX0_isLost_15 ?_
    refine z_iload_n dX0_isLost_16 rfl ?_
    refine z_icmp_gt (tgt := 24) dX0_isLost_17 (by decide) (fun q5 => ?_) (fun q5 => ?_)
    · rw [if_pos q5] at h
      exact z_mask [false, false, false] rfl (tX0_isLost_b24 T  S  r h)
    · rw [if_neg q5] at h
      refine z_iconst dX0_isLost_20 cI_1 ?_
      refine z_goto (tgt := 25) dX0_isLost_21 (by decide) ?_
      exact z_mask [false, false, false] rfl (tX0_isLost_b25 T 1 S  r h)
/-! X0_cousinLendsIn -/
noncomputable def fX0_cousinLendsIn_b32 (T : zT) (s0 : Int32) (S : zS) : Option Int32 :=
  zgd (zbl s0) (some s0)
noncomputable def fX0_cousinLendsIn_b31 (T : zT)  (S : zS) : Option Int32 :=
  fX0_cousinLendsIn_b32 T 0 S
noncomputable def fX0_cousinLendsIn (T : zT) (k0 : Nat) (x1 : Int32) (S : zS) : Option Int32 :=
  if (S.1 k0 5) = (-1) then fX0_cousinLendsIn_b31 T  S else if (S.1 k0 1) ≤ (S.1 k0 5) then fX0_cousinLendsIn_b31 T  S else if (S.1 k0 5) ≤ x1 then fX0_cousinLendsIn_b31 T  S else fX0_cousinLendsIn_b32 T 1 S
set_option maxHeartbeats 4000000 in
set_option maxRecDepth 100000 in
theorem tX0_cousinLendsIn_b32 (T : zT) (s0 : Int32) (S : zS)  {g : zG} (r : Int32) (h : fX0_cousinLendsIn_b32 T s0 S = some r)  : zg g 0 mX0_cousinLendsIn T 32 [none, none] [.int s0] T S (some (.int r)) T S := by
  unfold fX0_cousinLendsIn_b32 at h
  obtain ⟨q2, h⟩ := zgd_elim h
  cases h
  exact z_zret rfl (zbl_ok q2) dX0_cousinLendsIn_32
set_option maxHeartbeats 4000000 in
set_option maxRecDepth 100000 in
theorem tX0_cousinLendsIn_b31 (T : zT)  (S : zS)  {g : zG} (r : Int32) (h : fX0_cousinLendsIn_b31 T  S = some r)  : zg g 0 mX0_cousinLendsIn T 31 [none, none] [] T S (some (.int r)) T S := by
  unfold fX0_cousinLendsIn_b31 at h
  refine z_iconst dX0_cousinLendsIn_31 cI_0 ?_
  exact z_mask [false, false] rfl (tX0_cousinLendsIn_b32 T 0 S  r h)
set_option maxHeartbeats 4000000 in
set_option maxRecDepth 100000 in
theorem tX0_cousinLendsIn (T : zT) (k0 : Nat) (x1 : Int32) (S : zS) (h0 : iX0 T k0) (r : Int32) (h : fX0_cousinLendsIn T k0 x1 S = some r) : zGM 0 mX0_cousinLendsIn [.ref k0, .int x1] T S (some (.int r)) T S := by
  refine zGM_of zpnX0 rfl (Nat.le_of_ble_eq_true rfl) (fun g => ?_)
  show zg g 0 mX0_cousinLendsIn T 0 [some (.ref k0), some (.int x1)] [] T S (some (.int r)) T S
  unfold fX0_cousinLendsIn at h
  refine z_aload_n dX0_cousinLendsIn_0 rfl ?_
  refine z_gI (zF.x zfX0_66) h0.1 dX0_cousinLendsIn_1 ?_
  refine z_iconst dX0_cousinLendsIn_4 cI_m1 ?_
  refine z_icmp_eq (tgt := 31) dX0_cousinLendsIn_5 (by decide) (fun q1 => ?_) (fun q1 => ?_)
  · rw [if_pos q1] at h
    exact z_mask [false, false] rfl (tX0_cousinLendsIn_b31 T  S  r h)
  · rw [if_neg q1] at h
    refine z_aload_n dX0_cousinLendsIn_8 rfl ?_
    refine z_gI (zF.x zfX0_66) h0.1 dX0_cousinLendsIn_9 ?_
    refine z_aload_n dX0_cousinLendsIn_12 rfl ?_
    refine z_gI (zF.x zfX0_54) h0.1 dX0_cousinLendsIn_13 ?_
    refine z_icmp_ge (tgt := 31) dX0_cousinLendsIn_16 (by decide) (fun q3 => ?_) (fun q3 => ?_)
    · rw [if_pos q3] at h
      exact z_mask [false, false] rfl (tX0_cousinLendsIn_b31 T  S  r h)
    · rw [if_neg q3] at h
      refine z_iload_n dX0_cousinLendsIn_19 rfl ?_
      refine z_aload_n dX0_cousinLendsIn_20 rfl ?_
      refine z_gI (zF.x zfX0_66) h0.1 dX0_cousinLendsIn_21 ?_
      refine z_icmp_ge (tgt := 31) dX0_cousinLendsIn_24 (by decide) (fun q4 => ?_) (fun q4 => ?_)
      · rw [if_pos q4] at h
        exact z_mask [false, false] rfl (tX0_cousinLendsIn_b31 T  S  r h)
      · rw [if_neg q4] at h
        refine z_iconst dX0_cousinLendsIn_27 cI_1 ?_
        refine z_goto (tgt := 32) dX0_cousinLendsIn_28 (by decide) ?_
        exact z_mask [false, false] rfl (tX0_cousinLendsIn_b32 T 1 S  r h)
/-! X4_begin -/
noncomputable def fX4_begin_l48 (T : zT) (k0 : Nat) (x1 : Int32) (S : zS) : Option ((Int32 × zS) ⊕ zS) :=
  if 8 ≤ x1 then some (.inr S) else zgd (zin x1 8) (zgd (zin x1 8) (zlet (zI S (zr T k0 12) (x1 : Int32).toNatClampNeg (S.1 (zr T (zr T k0 0) 6) (x1 : Int32).toNatClampNeg)) fun S12 => zgd (zin x1 8) (zgd (zin x1 8) (zlet (zI S12 (zr T k0 13) (x1 : Int32).toNatClampNeg (S12.1 (zr T (zr T k0 0) 7) (x1 : Int32).toNatClampNeg)) fun S15 => zgd (zin x1 8) (zlet (zI S15 (zr T k0 14) (x1 : Int32).toNatClampNeg 0) fun S17 => zgd (zin x1 8) (zlet (zI S17 (zr T k0 11) (x1 : Int32).toNatClampNeg (-1)) fun S19 => zlet (x1 + 1) fun u20 => some (.inl (u20, S19))))))))
noncomputable def fX4_begin (T : zT) (k0 : Nat) (S : zS) : Option (Unit × zS) :=
  zlet (zI S k0 3 (S.1 (zr T k0 0) 2)) fun S1 => zlet (zI S1 k0 4 0) fun S2 => zlet (zI S2 k0 5 0) fun S3 => zlet (zI S3 k0 6 (-1)) fun S4 => zlet (zI S4 k0 7 (-1)) fun S5 => zlet (zI S5 k0 8 0) fun S6 => zlet (zI S6 k0 15 0) fun S7 => zlet (zI S7 k0 16 0) fun S8 => zb1 (lp (fun a => fX4_begin_l48 T k0 a.1 a.2) (0, S8)) fun e21 => some ((), e21)
set_option maxHeartbeats 4000000 in
set_option maxRecDepth 100000 in
theorem tX4_begin_l48b (T : zT) (k0 : Nat) (x1 : Int32) (S : zS) (h0 : iX4 T k0) {g : zG} {v : Option Value} {S' : zS} (r : (Int32 × zS) ⊕ zS) (h : fX4_begin_l48 T k0 x1 S = some r) (K1 : ∀ a : (Int32 × zS), r = .inl a → zg g 0 mX4_begin T 48 [some (.ref k0), some (.int a.1)] [] T a.2 v T S') (K2_0 : ∀ e : zS, r = .inr e → zg g 0 mX4_begin T 104 [none, none] [] T e v T S') : zg g 0 mX4_begin T 48 [some (.ref k0), some (.int x1)] [] T S v T S' := by
  unfold fX4_begin_l48 at h
  refine z_iload_n dX4_begin_48 rfl ?_
  refine z_bipush dX4_begin_49 cB_8 ?_
  refine z_icmp_ge (tgt := 104) dX4_begin_51 (by decide) (fun q9 => ?_) (fun q9 => ?_)
  · rw [if_pos q9] at h
    cases h
    exact z_mask [false, false] rfl (K2_0 _ rfl)
  · rw [if_neg q9] at h
    refine z_aload_n dX4_begin_54 rfl ?_
    refine z_gA (zF.x zfX4_35) h0.1 dX4_begin_55 ?_
    refine z_iload_n dX4_begin_58 rfl ?_
    refine z_aload_n dX4_begin_59 rfl ?_
    refine z_gR (zF.x zfX4_9) h0.1 dX4_begin_60 ?_
    refine z_gA zfX4_73 h0.2.1.1 dX4_begin_63 ?_
    refine z_iload_n dX4_begin_66 rfl ?_
    obtain ⟨q10, h⟩ := zgd_elim h
    refine z_iald h0.2.1.2.1 (zin_ok q10) dX4_begin_67 ?_
    obtain ⟨q11, h⟩ := zgd_elim h
    refine z_iast h0.2.2.2.2.2.2.2.1 (zin_ok q11) dX4_begin_68 ?_
    obtain ⟨S12, eS12, h⟩ := zlet_elim h
    refine z_tS eS12 ?_
    refine z_aload_n dX4_begin_69 rfl ?_
    refine z_gA (zF.x zfX4_38) h0.1 dX4_begin_70 ?_
    refine z_iload_n dX4_begin_73 rfl ?_
    refine z_aload_n dX4_begin_74 rfl ?_
    refine z_gR (zF.x zfX4_9) h0.1 dX4_begin_75 ?_
    refine z_gA zfX4_74 h0.2.1.1 dX4_begin_78 ?_
    refine z_iload_n dX4_begin_81 rfl ?_
    obtain ⟨q13, h⟩ := zgd_elim h
    refine z_iald h0.2.1.2.2.1 (zin_ok q13) dX4_begin_82 ?_
    obtain ⟨q14, h⟩ := zgd_elim h
    refine z_iast h0.2.2.2.2.2.2.2.2.1 (zin_ok q14) dX4_begin_83 ?_
    obtain ⟨S15, eS15, h⟩ := zlet_elim h
    refine z_tS eS15 ?_
    refine z_aload_n dX4_begin_84 rfl ?_
    refine z_gA (zF.x zfX4_41) h0.1 dX4_begin_85 ?_
    refine z_iload_n dX4_begin_88 rfl ?_
    refine z_iconst dX4_begin_89 cI_0 ?_
    obtain ⟨q16, h⟩ := zgd_elim h
    refine z_iast h0.2.2.2.2.2.2.2.2.2 (zin_ok q16) dX4_begin_90 ?_
    obtain ⟨S17, eS17, h⟩ := zlet_elim h
    refine z_tS eS17 ?_
    refine z_aload_n dX4_begin_91 rfl ?_
    refine z_gA (zF.x zfX4_32) h0.1 dX4_begin_92 ?_
    refine z_iload_n dX4_begin_95 rfl ?_
    refine z_iconst dX4_begin_96 cI_m1 ?_
    obtain ⟨q18, h⟩ := zgd_elim h
    refine z_iast h0.2.2.2.2.2.2.1 (zin_ok q18) dX4_begin_97 ?_
    obtain ⟨S19, eS19, h⟩ := zlet_elim h
    refine z_tS eS19 ?_
    obtain ⟨u20, eu20, h⟩ := zlet_elim h
    refine z_iinc (r := u20) dX4_begin_98 rfl (by rw [eu20, cI_1]) rfl (by decide) rfl ?_
    refine z_goto (tgt := 48) dX4_begin_101 (by decide) ?_
    cases h
    exact z_mask [true, true] rfl (K1 _ rfl)
set_option maxHeartbeats 4000000 in
set_option maxRecDepth 100000 in
theorem tX4_begin_l48 (T : zT) (k0 : Nat) (h0 : iX4 T k0) {g : zG} {v : Option Value} {S' : zS} : ∀ (n : Nat) (a : (Int32 × zS)) (e : zS), lpn (fun a => fX4_begin_l48 T k0 a.1 a.2) n a = some e → (∀ e1 : zS, e = e1 → zg g 0 mX4_begin T 104 [none, none] [] T e1 v T S') → zg g 0 mX4_begin T 48 [some (.ref k0), some (.int a.1)] [] T a.2 v T S' := by
  intro n
  induction n with
  | zero =>
    intro a e h
    cases h
  | succ n ih =>
    intro a e h k0_
    rcases lpn_succ h with ⟨a1, ha_, hb_⟩ | ha_
    · exact tX4_begin_l48b T k0 a.1 a.2 h0 _ ha_ (fun a2 q => by cases q; exact ih a1 e hb_ k0_) (fun e1 q => by cases q)
    · exact tX4_begin_l48b T k0 a.1 a.2 h0 _ ha_ (fun a2 q => by cases q) (fun e1 q => by cases q; exact k0_ _ rfl)
set_option maxHeartbeats 4000000 in
set_option maxRecDepth 100000 in
theorem tX4_begin (T : zT) (k0 : Nat) (S : zS) (h0 : iX4 T k0) (r : Unit × zS) (h : fX4_begin T k0 S = some r) : zGM 0 mX4_begin [.ref k0] T S none T r.2 := by
  refine zGM_of zpnX4 rfl (Nat.le_of_ble_eq_true rfl) (fun g => ?_)
  show zg g 0 mX4_begin T 0 [some (.ref k0), none] [] T S none T r.2
  unfold fX4_begin at h
  refine z_aload_n dX4_begin_0 rfl ?_
  refine z_aload_n dX4_begin_1 rfl ?_
  refine z_gR (zF.x zfX4_9) h0.1 dX4_begin_2 ?_
  refine z_gI (zF.x zfX4_44) h0.2.1.1 dX4_begin_5 ?_
  refine z_putI zfX4_50 h0.1 dX4_begin_8 ?_
  obtain ⟨S1, eS1, h⟩ := zlet_elim h
  refine z_tS eS1 ?_
  refine z_aload_n dX4_begin_11 rfl ?_
  refine z_iconst dX4_begin_12 cI_0 ?_
  refine z_putI zfX4_51 h0.1 dX4_begin_13 ?_
  obtain ⟨S2, eS2, h⟩ := zlet_elim h
  refine z_tS eS2 ?_
  refine z_aload_n dX4_begin_16 rfl ?_
  refine z_iconst dX4_begin_17 cI_0 ?_
  refine z_putI zfX4_54 h0.1 dX4_begin_18 ?_
  obtain ⟨S3, eS3, h⟩ := zlet_elim h
  refine z_tS eS3 ?_
  refine z_aload_n dX4_begin_21 rfl ?_
  refine z_iconst dX4_begin_22 cI_m1 ?_
  refine z_putI zfX4_57 h0.1 dX4_begin_23 ?_
  obtain ⟨S4, eS4, h⟩ := zlet_elim h
  refine z_tS eS4 ?_
  refine z_aload_n dX4_begin_26 rfl ?_
  refine z_iconst dX4_begin_27 cI_m1 ?_
  refine z_putI zfX4_60 h0.1 dX4_begin_28 ?_
  obtain ⟨S5, eS5, h⟩ := zlet_elim h
  refine z_tS eS5 ?_
  refine z_aload_n dX4_begin_31 rfl ?_
  refine z_iconst dX4_begin_32 cI_0 ?_
  refine z_putI zfX4_63 h0.1 dX4_begin_33 ?_
  obtain ⟨S6, eS6, h⟩ := zlet_elim h
  refine z_tS eS6 ?_
  refine z_aload_n dX4_begin_36 rfl ?_
  refine z_iconst dX4_begin_37 cI_0 ?_
  refine z_putI zfX4_66 h0.1 dX4_begin_38 ?_
  obtain ⟨S7, eS7, h⟩ := zlet_elim h
  refine z_tS eS7 ?_
  refine z_aload_n dX4_begin_41 rfl ?_
  refine z_iconst dX4_begin_42 cI_0 ?_
  refine z_putZ zfX4_69 (Or.inl rfl) h0.1 dX4_begin_43 ?_
  obtain ⟨S8, eS8, h⟩ := zlet_elim h
  refine z_tS eS8 ?_
  refine z_iconst dX4_begin_46 cI_0 ?_
  refine z_istore_n dX4_begin_47 rfl (by decide) rfl ?_
  obtain ⟨e21, hl22, h⟩ := zb1_elim h
  obtain ⟨nf23, hl22⟩ := lp_some hl22
  refine z_mask [true, true] rfl (tX4_begin_l48 T k0 h0 nf23 (0, S8) e21 hl22 (fun e_ q => ?_))
  · cases q
    cases h
    exact z_vret rfl dX4_begin_104
/-! X4_isWell -/
noncomputable def fX4_isWell_b21 (T : zT) (s0 : Int32) (S : zS) : Option Int32 :=
  zgd (zbl s0) (some s0)
noncomputable def fX4_isWell_b20 (T : zT)  (S : zS) : Option Int32 :=
  fX4_isWell_b21 T 0 S
noncomputable def fX4_isWell (T : zT) (k0 : Nat) (S : zS) : Option Int32 :=
  if (S.1 k0 6) = (-1) then if (S.1 k0 7) = (-1) then fX4_isWell_b21 T 1 S else fX4_isWell_b20 T  S else fX4_isWell_b20 T  S
set_option maxHeartbeats 4000000 in
set_option maxRecDepth 100000 in
theorem tX4_isWell_b21 (T : zT) (s0 : Int32) (S : zS)  {g : zG} (r : Int32) (h : fX4_isWell_b21 T s0 S = some r)  : zg g 0 mX4_isWell T 21 [none] [.int s0] T S (some (.int r)) T S := by
  unfold fX4_isWell_b21 at h
  obtain ⟨q2, h⟩ := zgd_elim h
  cases h
  exact z_zret rfl (zbl_ok q2) dX4_isWell_21
set_option maxHeartbeats 4000000 in
set_option maxRecDepth 100000 in
theorem tX4_isWell_b20 (T : zT)  (S : zS)  {g : zG} (r : Int32) (h : fX4_isWell_b20 T  S = some r)  : zg g 0 mX4_isWell T 20 [none] [] T S (some (.int r)) T S := by
  unfold fX4_isWell_b20 at h
  refine z_iconst dX4_isWell_20 cI_0 ?_
  exact z_mask [false] rfl (tX4_isWell_b21 T 0 S  r h)
set_option maxHeartbeats 4000000 in
set_option maxRecDepth 100000 in
theorem tX4_isWell (T : zT) (k0 : Nat) (S : zS) (h0 : iX4 T k0) (r : Int32) (h : fX4_isWell T k0 S = some r) : zGM 0 mX4_isWell [.ref k0] T S (some (.int r)) T S := by
  refine zGM_of zpnX4 rfl (Nat.le_of_ble_eq_true rfl) (fun g => ?_)
  show zg g 0 mX4_isWell T 0 [some (.ref k0)] [] T S (some (.int r)) T S
  unfold fX4_isWell at h
  refine z_aload_n dX4_isWell_0 rfl ?_
  refine z_gI (zF.x zfX4_57) h0.1 dX4_isWell_1 ?_
  refine z_iconst dX4_isWell_4 cI_m1 ?_
  refine z_icmp_ne (tgt := 20) dX4_isWell_5 (by decide) (fun q1 => ?_) (fun q1 => ?_)
  · rw [if_neg q1] at h
    exact z_mask [false] rfl (tX4_isWell_b20 T  S  r h)
  · rw [if_pos q1] at h
    refine z_aload_n dX4_isWell_8 rfl ?_
    refine z_gI (zF.x zfX4_60) h0.1 dX4_isWell_9 ?_
    refine z_iconst dX4_isWell_12 cI_m1 ?_
    refine z_icmp_ne (tgt := 20) dX4_isWell_13 (by decide) (fun q3 => ?_) (fun q3 => ?_)
    · rw [if_neg q3] at h
      exact z_mask [false] rfl (tX4_isWell_b20 T  S  r h)
    · rw [if_pos q3] at h
      refine z_iconst dX4_isWell_16 cI_1 ?_
      refine z_goto (tgt := 21) dX4_isWell_17 (by decide) ?_
      exact z_mask [false] rfl (tX4_isWell_b21 T 1 S  r h)
/-! X4_thingsIn -/
noncomputable def fX4_thingsIn (T : zT) (k0 : Nat) (S : zS) : Option Int32 :=
  some (((S.1 (zr T k0 0) 0) &&& ((S.1 k0 4) ^^^ (-1))) &&& ((S.1 k0 5) ^^^ (-1)))
set_option maxHeartbeats 4000000 in
set_option maxRecDepth 100000 in
theorem tX4_thingsIn (T : zT) (k0 : Nat) (S : zS) (h0 : iX4 T k0) (r : Int32) (h : fX4_thingsIn T k0 S = some r) : zGM 0 mX4_thingsIn [.ref k0] T S (some (.int r)) T S := by
  refine zGM_of zpnX4 rfl (Nat.le_of_ble_eq_true rfl) (fun g => ?_)
  show zg g 0 mX4_thingsIn T 0 [some (.ref k0)] [] T S (some (.int r)) T S
  unfold fX4_thingsIn at h
  refine z_aload_n dX4_thingsIn_0 rfl ?_
  refine z_gR (zF.x zfX4_9) h0.1 dX4_thingsIn_1 ?_
  refine z_gI (zF.x zfX4_131) h0.2.1.1 dX4_thingsIn_4 ?_
  refine z_aload_n dX4_thingsIn_7 rfl ?_
  refine z_gI (zF.x zfX4_51) h0.1 dX4_thingsIn_8 ?_
  refine z_iconst dX4_thingsIn_11 cI_m1 ?_
  refine z_ixor dX4_thingsIn_12 rfl ?_
  refine z_iand dX4_thingsIn_13 rfl ?_
  refine z_aload_n dX4_thingsIn_14 rfl ?_
  refine z_gI (zF.x zfX4_54) h0.1 dX4_thingsIn_15 ?_
  refine z_iconst dX4_thingsIn_18 cI_m1 ?_
  refine z_ixor dX4_thingsIn_19 rfl ?_
  refine z_iand dX4_thingsIn_20 rfl ?_
  cases h
  exact z_iret rfl dX4_thingsIn_21
/-! X4_owedNow -/
noncomputable def fX4_owedNow (T : zT) (k0 : Nat) (x1 : Int32) (x2 : Int32) (S : zS) : Option Int32 :=
  zgd (zin x1 8) (zgd (zin x1 8) (zgd (zin x1 8) (some ((S.1 (zr T k0 12) (x1 : Int32).toNatClampNeg) + ((S.1 (zr T k0 13) (x1 : Int32).toNatClampNeg) * (x2 - (S.1 (zr T k0 14) (x1 : Int32).toNatClampNeg)))))))
set_option maxHeartbeats 4000000 in
set_option maxRecDepth 100000 in
theorem tX4_owedNow (T : zT) (k0 : Nat) (x1 : Int32) (x2 : Int32) (S : zS) (h0 : iX4 T k0) (r : Int32) (h : fX4_owedNow T k0 x1 x2 S = some r) : zGM 0 mX4_owedNow [.ref k0, .int x1, .int x2] T S (some (.int r)) T S := by
  refine zGM_of zpnX4 rfl (Nat.le_of_ble_eq_true rfl) (fun g => ?_)
  show zg g 0 mX4_owedNow T 0 [some (.ref k0), some (.int x1), some (.int x2)] [] T S (some (.int r)) T S
  unfold fX4_owedNow at h
  refine z_aload_n dX4_owedNow_0 rfl ?_
  refine z_gA (zF.x zfX4_35) h0.1 dX4_owedNow_1 ?_
  refine z_iload_n dX4_owedNow_4 rfl ?_
  obtain ⟨q1, h⟩ := zgd_elim h
  refine z_iald h0.2.2.2.2.2.2.2.1 (zin_ok q1) dX4_owedNow_5 ?_
  refine z_aload_n dX4_owedNow_6 rfl ?_
  refine z_gA (zF.x zfX4_38) h0.1 dX4_owedNow_7 ?_
  refine z_iload_n dX4_owedNow_10 rfl ?_
  obtain ⟨q2, h⟩ := zgd_elim h
  refine z_iald h0.2.2.2.2.2.2.2.2.1 (zin_ok q2) dX4_owedNow_11 ?_
  refine z_iload_n dX4_owedNow_12 rfl ?_
  refine z_aload_n dX4_owedNow_13 rfl ?_
  refine z_gA (zF.x zfX4_41) h0.1 dX4_owedNow_14 ?_
  refine z_iload_n dX4_owedNow_17 rfl ?_
  obtain ⟨q3, h⟩ := zgd_elim h
  refine z_iald h0.2.2.2.2.2.2.2.2.2 (zin_ok q3) dX4_owedNow_18 ?_
  refine z_isub dX4_owedNow_19 rfl ?_
  refine z_imul dX4_owedNow_20 rfl ?_
  refine z_iadd dX4_owedNow_21 rfl ?_
  cases h
  exact z_iret rfl dX4_owedNow_22
/-! X4_putOne -/
noncomputable def fX4_putOne_b21 (T : zT)  (S : zS) : Option (Int32 × zS) :=
  some (0, S)
noncomputable def fX4_putOne (T : zT) (k0 : Nat) (x1 : Int32) (x2 : Int32) (S : zS) : Option (Int32 × zS) :=
  if x1 < 0 then fX4_putOne_b21 T  S else if 8 ≤ x1 then fX4_putOne_b21 T  S else if (((S.1 k0 4) >>> (x1 &&& 31)) &&& 1) = 0 then fX4_putOne_b21 T  S else zlet (zI S k0 4 ((S.1 k0 4) &&& ((1 <<< (x1 &&& 31)) ^^^ (-1)))) fun S4 => zlet (zI S4 k0 15 ((S4.1 k0 15) &&& ((1 <<< (x1 &&& 31)) ^^^ (-1)))) fun S5 => zgd (zin x1 8) (zlet (zI S5 k0 3 ((S5.1 k0 3) + (S5.1 (zr T (zr T k0 0) 9) (x1 : Int32).toNatClampNeg))) fun S7 => zgd (zin x1 8) (zgd (zin x1 8) (zlet (zI S7 (zr T k0 12) (x1 : Int32).toNatClampNeg (S7.1 (zr T (zr T k0 0) 9) (x1 : Int32).toNatClampNeg)) fun S10 => zgd (zin x1 8) (zgd (zin x1 8) (zlet (zI S10 (zr T k0 13) (x1 : Int32).toNatClampNeg (S10.1 (zr T (zr T k0 0) 7) (x1 : Int32).toNatClampNeg)) fun S13 => zgd (zin x1 8) (zlet (zI S13 (zr T k0 14) (x1 : Int32).toNatClampNeg x2) fun S15 => some (1, S15)))))))
set_option maxHeartbeats 4000000 in
set_option maxRecDepth 100000 in
theorem tX4_putOne_b21 (T : zT)  (S : zS)  {g : zG} (r : (Int32 × zS)) (h : fX4_putOne_b21 T  S = some r)  : zg g 0 mX4_putOne T 21 [none, none, none] [] T S (some (.int r.1)) T r.2 := by
  unfold fX4_putOne_b21 at h
  refine z_iconst dX4_putOne_21 cI_0 ?_
  cases h
  exact z_zret rfl (Or.inl rfl) dX4_putOne_22
set_option maxHeartbeats 4000000 in
set_option maxRecDepth 100000 in
theorem tX4_putOne (T : zT) (k0 : Nat) (x1 : Int32) (x2 : Int32) (S : zS) (h0 : iX4 T k0) (r : Int32 × zS) (h : fX4_putOne T k0 x1 x2 S = some r) : zGM 0 mX4_putOne [.ref k0, .int x1, .int x2] T S (some (.int r.1)) T r.2 := by
  refine zGM_of zpnX4 rfl (Nat.le_of_ble_eq_true rfl) (fun g => ?_)
  show zg g 0 mX4_putOne T 0 [some (.ref k0), some (.int x1), some (.int x2)] [] T S (some (.int r.1)) T r.2
  unfold fX4_putOne at h
  refine z_iload_n dX4_putOne_0 rfl ?_
  refine z_if_lt (tgt := 21) dX4_putOne_1 (by decide) (fun q1 => ?_) (fun q1 => ?_)
  · rw [if_pos q1] at h
    exact z_mask [false, false, false] rfl (tX4_putOne_b21 T  S  r h)
  · rw [if_neg q1] at h
    refine z_iload_n dX4_putOne_4 rfl ?_
    refine z_bipush dX4_putOne_5 cB_8 ?_
    refine z_icmp_ge (tgt := 21) dX4_putOne_7 (by decide) (fun q2 => ?_) (fun q2 => ?_)
    · rw [if_pos q2] at h
      exact z_mask [false, false, false] rfl (tX4_putOne_b21 T  S  r h)
    · rw [if_neg q2] at h
      refine z_aload_n dX4_putOne_10 rfl ?_
      refine z_gI (zF.x zfX4_51) h0.1 dX4_putOne_11 ?_
      refine z_iload_n dX4_putOne_14 rfl ?_
      refine z_ishr dX4_putOne_15 rfl ?_
      refine z_iconst dX4_putOne_16 cI_1 ?_
      refine z_iand dX4_putOne_17 rfl ?_
      refine z_if_ne (tgt := 23) dX4_putOne_18 (by decide) (fun q3 => ?_) (fun q3 => ?_)
      · rw [if_neg q3] at h
        refine z_aload_n dX4_putOne_23 rfl ?_
        refine z_dup dX4_putOne_24 rfl ?_
        refine z_gI (zF.x zfX4_51) h0.1 dX4_putOne_25 ?_
        refine z_iconst dX4_putOne_28 cI_1 ?_
        refine z_iload_n dX4_putOne_29 rfl ?_
        refine z_ishl dX4_putOne_30 rfl ?_
        refine z_iconst dX4_putOne_31 cI_m1 ?_
        refine z_ixor dX4_putOne_32 rfl ?_
        refine z_iand dX4_putOne_33 rfl ?_
        refine z_putI zfX4_51 h0.1 dX4_putOne_34 ?_
        obtain ⟨S4, eS4, h⟩ := zlet_elim h
        refine z_tS eS4 ?_
        refine z_aload_n dX4_putOne_37 rfl ?_
        refine z_dup dX4_putOne_38 rfl ?_
        refine z_gI (zF.x zfX4_66) h0.1 dX4_putOne_39 ?_
        refine z_iconst dX4_putOne_42 cI_1 ?_
        refine z_iload_n dX4_putOne_43 rfl ?_
        refine z_ishl dX4_putOne_44 rfl ?_
        refine z_iconst dX4_putOne_45 cI_m1 ?_
        refine z_ixor dX4_putOne_46 rfl ?_
        refine z_iand dX4_putOne_47 rfl ?_
        refine z_putI zfX4_66 h0.1 dX4_putOne_48 ?_
        obtain ⟨S5, eS5, h⟩ := zlet_elim h
        refine z_tS eS5 ?_
        refine z_aload_n dX4_putOne_51 rfl ?_
        refine z_dup dX4_putOne_52 rfl ?_
        refine z_gI (zF.x zfX4_50) h0.1 dX4_putOne_53 ?_
        refine z_aload_n dX4_putOne_56 rfl ?_
        refine z_gR (zF.x zfX4_9) h0.1 dX4_putOne_57 ?_
        refine z_gA zfX4_165 h0.2.1.1 dX4_putOne_60 ?_
        refine z_iload_n dX4_putOne_63 rfl ?_
        obtain ⟨q6, h⟩ := zgd_elim h
        refine z_iald h0.2.1.2.2.2.2.1 (zin_ok q6) dX4_putOne_64 ?_
        refine z_iadd dX4_putOne_65 rfl ?_
        refine z_putI zfX4_50 h0.1 dX4_putOne_66 ?_
        obtain ⟨S7, eS7, h⟩ := zlet_elim h
        refine z_tS eS7 ?_
        refine z_aload_n dX4_putOne_69 rfl ?_
        refine z_gA (zF.x zfX4_35) h0.1 dX4_putOne_70 ?_
        refine z_iload_n dX4_putOne_73 rfl ?_
        refine z_aload_n dX4_putOne_74 rfl ?_
        refine z_gR (zF.x zfX4_9) h0.1 dX4_putOne_75 ?_
        refine z_gA zfX4_165 h0.2.1.1 dX4_putOne_78 ?_
        refine z_iload_n dX4_putOne_81 rfl ?_
        obtain ⟨q8, h⟩ := zgd_elim h
        refine z_iald h0.2.1.2.2.2.2.1 (zin_ok q8) dX4_putOne_82 ?_
        obtain ⟨q9, h⟩ := zgd_elim h
        refine z_iast h0.2.2.2.2.2.2.2.1 (zin_ok q9) dX4_putOne_83 ?_
        obtain ⟨S10, eS10, h⟩ := zlet_elim h
        refine z_tS eS10 ?_
        refine z_aload_n dX4_putOne_84 rfl ?_
        refine z_gA (zF.x zfX4_38) h0.1 dX4_putOne_85 ?_
        refine z_iload_n dX4_putOne_88 rfl ?_
        refine z_aload_n dX4_putOne_89 rfl ?_
        refine z_gR (zF.x zfX4_9) h0.1 dX4_putOne_90 ?_
        refine z_gA zfX4_74 h0.2.1.1 dX4_putOne_93 ?_
        refine z_iload_n dX4_putOne_96 rfl ?_
        obtain ⟨q11, h⟩ := zgd_elim h
        refine z_iald h0.2.1.2.2.1 (zin_ok q11) dX4_putOne_97 ?_
        obtain ⟨q12, h⟩ := zgd_elim h
        refine z_iast h0.2.2.2.2.2.2.2.2.1 (zin_ok q12) dX4_putOne_98 ?_
        obtain ⟨S13, eS13, h⟩ := zlet_elim h
        refine z_tS eS13 ?_
        refine z_aload_n dX4_putOne_99 rfl ?_
        refine z_gA (zF.x zfX4_41) h0.1 dX4_putOne_100 ?_
        refine z_iload_n dX4_putOne_103 rfl ?_
        refine z_iload_n dX4_putOne_104 rfl ?_
        obtain ⟨q14, h⟩ := zgd_elim h
        refine z_iast h0.2.2.2.2.2.2.2.2.2 (zin_ok q14) dX4_putOne_105 ?_
        obtain ⟨S15, eS15, h⟩ := zlet_elim h
        refine z_tS eS15 ?_
        refine z_iconst dX4_putOne_106 cI_1 ?_
        cases h
        exact z_zret rfl (Or.inr rfl) dX4_putOne_107
      · rw [if_pos q3] at h
        exact z_mask [false, false, false] rfl (tX4_putOne_b21 T  S  r h)
/-! X0_clear -/
noncomputable def fX0_clear (T : zT) (k0 : Nat) (S : zS) : Option (Unit × zS) :=
  zlet (zI S k0 0 0) fun S1 => zlet (zI S1 k0 1 12) fun S2 => zlet (zI S2 k0 2 0) fun S3 => zlet (zI S3 k0 3 1000) fun S4 => zlet (zI S4 k0 4 0) fun S5 => zlet (zI S5 k0 5 (-1)) fun S6 => zlet (zI S6 (zr T k0 12) 3 0) fun S7 => zlet (zI S7 (zr T k0 13) 3 0) fun S8 => zb (fX2_clear T (zr T k0 14) S8) fun _ S11 => some ((), S11)
set_option maxHeartbeats 4000000 in
set_option maxRecDepth 100000 in
theorem tX0_clear (T : zT) (k0 : Nat) (S : zS) (h0 : iX0 T k0) (r : Unit × zS) (h : fX0_clear T k0 S = some r) : zGM 1 mX0_clear [.ref k0] T S none T r.2 := by
  refine zGM_of zpnX0 rfl (Nat.le_of_ble_eq_true rfl) (fun g => ?_)
  show zg g 1 mX0_clear T 0 [some (.ref k0)] [] T S none T r.2
  unfold fX0_clear at h
  refine z_aload_n dX0_clear_0 rfl ?_
  refine z_iconst dX0_clear_1 cI_0 ?_
  refine z_putI zfX0_50 h0.1 dX0_clear_2 ?_
  obtain ⟨S1, eS1, h⟩ := zlet_elim h
  refine z_tS eS1 ?_
  refine z_aload_n dX0_clear_5 rfl ?_
  refine z_bipush dX0_clear_6 cB_12 ?_
  refine z_putI zfX0_54 h0.1 dX0_clear_8 ?_
  obtain ⟨S2, eS2, h⟩ := zlet_elim h
  refine z_tS eS2 ?_
  refine z_aload_n dX0_clear_11 rfl ?_
  refine z_iconst dX0_clear_12 cI_0 ?_
  refine z_putI zfX0_57 h0.1 dX0_clear_13 ?_
  obtain ⟨S3, eS3, h⟩ := zlet_elim h
  refine z_tS eS3 ?_
  refine z_aload_n dX0_clear_16 rfl ?_
  refine z_sipush dX0_clear_17 cS_1000 ?_
  refine z_putI zfX0_60 h0.1 dX0_clear_20 ?_
  obtain ⟨S4, eS4, h⟩ := zlet_elim h
  refine z_tS eS4 ?_
  refine z_aload_n dX0_clear_23 rfl ?_
  refine z_iconst dX0_clear_24 cI_0 ?_
  refine z_putI zfX0_63 h0.1 dX0_clear_25 ?_
  obtain ⟨S5, eS5, h⟩ := zlet_elim h
  refine z_tS eS5 ?_
  refine z_aload_n dX0_clear_28 rfl ?_
  refine z_iconst dX0_clear_29 cI_m1 ?_
  refine z_putI zfX0_66 h0.1 dX0_clear_30 ?_
  obtain ⟨S6, eS6, h⟩ := zlet_elim h
  refine z_tS eS6 ?_
  refine z_aload_n dX0_clear_33 rfl ?_
  refine z_gR (zF.x zfX0_33) h0.1 dX0_clear_34 ?_
  refine z_iconst dX0_clear_37 cI_0 ?_
  refine z_putI zfX0_69 h0.2.2.2.2.2.2.2.1.1 dX0_clear_38 ?_
  obtain ⟨S7, eS7, h⟩ := zlet_elim h
  refine z_tS eS7 ?_
  refine z_aload_n dX0_clear_41 rfl ?_
  refine z_gR (zF.x zfX0_37) h0.1 dX0_clear_42 ?_
  refine z_iconst dX0_clear_45 cI_0 ?_
  refine z_putI zfX0_69 h0.2.2.2.2.2.2.2.2.1.1 dX0_clear_46 ?_
  obtain ⟨S8, eS8, h⟩ := zlet_elim h
  refine z_tS eS8 ?_
  refine z_aload_n dX0_clear_49 rfl ?_
  refine z_gR (zF.x zfX0_43) h0.1 dX0_clear_50 ?_
  obtain ⟨r9, S11, hc10, h⟩ := zb_elim h
  refine z_callV (As := []) zcX2 zkX0_72 ziX2_clear zqX2_clear h0.2.2.2.2.2.2.2.2.2.1 (tX2_clear T (zr T k0 14) S8 h0.2.2.2.2.2.2.2.2.2 (r9, S11) hc10) rfl rfl (Nat.le_of_ble_eq_true rfl) (by decide) ⟨Nat.le_refl _, Nat.le_refl _⟩ ⟨Nat.le_refl _, Nat.le_refl _⟩ dX0_clear_53 ?_
  cases h
  exact z_vret rfl dX0_clear_56
/-! X0_lostBy -/
noncomputable def fX0_lostBy_b36 (T : zT) (k0 : Nat) (x1 : Int32) (x2 : Int32) (x3 : Int32) (S : zS) : Option ((Int32 × Int32) ⊕ Int32) :=
  zlet (x3 + 1) fun u3 => some (.inl (x2, u3))
noncomputable def fX0_lostBy_l4 (T : zT) (k0 : Nat) (x1 : Int32) (S : zS) (x2 : Int32) (x3 : Int32) : Option ((Int32 × Int32) ⊕ Int32) :=
  if 8 ≤ x3 then some (.inr x2) else if (((S.1 k0 0) >>> (x3 &&& 31)) &&& 1) = 0 then fX0_lostBy_b36 T k0 x1 x2 x3 S else zb1 (fX0_isLost T k0 x3 x1 S) fun r4 => if r4 = 0 then fX0_lostBy_b36 T k0 x1 x2 x3 S else zlet (x2 ||| (1 <<< (x3 &&& 31))) fun u7 => fX0_lostBy_b36 T k0 x1 u7 x3 S
noncomputable def fX0_lostBy (T : zT) (k0 : Nat) (x1 : Int32) (S : zS) : Option Int32 :=
  zb1 (lp (fun a => fX0_lostBy_l4 T k0 x1 S a.1 a.2) (0, 0)) fun e8 => some e8
set_option maxHeartbeats 4000000 in
set_option maxRecDepth 100000 in
theorem tX0_lostBy_b36 (T : zT) (k0 : Nat) (x1 : Int32) (x2 : Int32) (x3 : Int32) (S : zS) (h0 : iX0 T k0) {g : zG} {v : Option Value} {S' : zS} (r : ((Int32 × Int32) ⊕ Int32)) (h : fX0_lostBy_b36 T k0 x1 x2 x3 S = some r) (K1 : ∀ a : (Int32 × Int32), r = .inl a → zg g 1 mX0_lostBy T 4 [some (.ref k0), some (.int x1), some (.int a.1), some (.int a.2)] [] T S v T S') (K2_0 : ∀ e : Int32, r = .inr e → zg g 1 mX0_lostBy T 42 [none, none, some (.int e), none] [] T S v T S') : zg g 1 mX0_lostBy T 36 [some (.ref k0), some (.int x1), some (.int x2), some (.int x3)] [] T S v T S' := by
  unfold fX0_lostBy_b36 at h
  obtain ⟨u3, eu3, h⟩ := zlet_elim h
  refine z_iinc (r := u3) dX0_lostBy_36 rfl (by rw [eu3, cI_1]) rfl (by decide) rfl ?_
  refine z_goto (tgt := 4) dX0_lostBy_39 (by decide) ?_
  cases h
  exact z_mask [true, true, true, true] rfl (K1 _ rfl)
set_option maxHeartbeats 4000000 in
set_option maxRecDepth 100000 in
theorem tX0_lostBy_l4b (T : zT) (k0 : Nat) (x1 : Int32) (S : zS) (x2 : Int32) (x3 : Int32) (h0 : iX0 T k0) {g : zG} {v : Option Value} {S' : zS} (r : (Int32 × Int32) ⊕ Int32) (h : fX0_lostBy_l4 T k0 x1 S x2 x3 = some r) (K1 : ∀ a : (Int32 × Int32), r = .inl a → zg g 1 mX0_lostBy T 4 [some (.ref k0), some (.int x1), some (.int a.1), some (.int a.2)] [] T S v T S') (K2_0 : ∀ e : Int32, r = .inr e → zg g 1 mX0_lostBy T 42 [none, none, some (.int e), none] [] T S v T S') : zg g 1 mX0_lostBy T 4 [some (.ref k0), some (.int x1), some (.int x2), some (.int x3)] [] T S v T S' := by
  unfold fX0_lostBy_l4 at h
  refine z_iload_n dX0_lostBy_4 rfl ?_
  refine z_bipush dX0_lostBy_5 cB_8 ?_
  refine z_icmp_ge (tgt := 42) dX0_lostBy_7 (by decide) (fun q1 => ?_) (fun q1 => ?_)
  · rw [if_pos q1] at h
    cases h
    exact z_mask [false, false, true, false] rfl (K2_0 _ rfl)
  · rw [if_neg q1] at h
    refine z_aload_n dX0_lostBy_10 rfl ?_
    refine z_gI (zF.x zfX0_50) h0.1 dX0_lostBy_11 ?_
    refine z_iload_n dX0_lostBy_14 rfl ?_
    refine z_ishr dX0_lostBy_15 rfl ?_
    refine z_iconst dX0_lostBy_16 cI_1 ?_
    refine z_iand dX0_lostBy_17 rfl ?_
    refine z_if_eq (tgt := 36) dX0_lostBy_18 (by decide) (fun q2 => ?_) (fun q2 => ?_)
    · rw [if_pos q2] at h
      exact z_mask [true, true, true, true] rfl (tX0_lostBy_b36 T k0 x1 x2 x3 S h0 r h K1 K2_0)
    · rw [if_neg q2] at h
      refine z_aload_n dX0_lostBy_21 rfl ?_
      refine z_iload_n dX0_lostBy_22 rfl ?_
      refine z_iload_n dX0_lostBy_23 rfl ?_
      obtain ⟨r4, hc5, h⟩ := zb1_elim h
      refine z_callV (As := [.int x3, .int x1]) zcX0 zkX0_86 ziX0_isLost zqX0_isLost h0.1 (tX0_isLost T k0 x3 x1 S h0 r4 hc5) rfl rfl (Nat.le_of_ble_eq_true rfl) (by decide) ⟨Nat.le_refl _, Nat.le_refl _⟩ ⟨Nat.le_refl _, Nat.le_refl _⟩ dX0_lostBy_24 ?_
      refine z_if_eq (tgt := 36) dX0_lostBy_27 (by decide) (fun q6 => ?_) (fun q6 => ?_)
      · rw [if_pos q6] at h
        exact z_mask [true, true, true, true] rfl (tX0_lostBy_b36 T k0 x1 x2 x3 S h0 r h K1 K2_0)
      · rw [if_neg q6] at h
        refine z_iload_n dX0_lostBy_30 rfl ?_
        refine z_iconst dX0_lostBy_31 cI_1 ?_
        refine z_iload_n dX0_lostBy_32 rfl ?_
        refine z_ishl dX0_lostBy_33 rfl ?_
        refine z_ior dX0_lostBy_34 rfl ?_
        obtain ⟨u7, eu7, h⟩ := zlet_elim h
        refine z_ti eu7 ?_
        refine z_istore_n dX0_lostBy_35 rfl (by decide) rfl ?_
        exact z_mask [true, true, true, true] rfl (tX0_lostBy_b36 T k0 x1 u7 x3 S h0 r h K1 K2_0)
set_option maxHeartbeats 4000000 in
set_option maxRecDepth 100000 in
theorem tX0_lostBy_l4 (T : zT) (k0 : Nat) (x1 : Int32) (S : zS) (h0 : iX0 T k0) {g : zG} {v : Option Value} {S' : zS} : ∀ (n : Nat) (a : (Int32 × Int32)) (e : Int32), lpn (fun a => fX0_lostBy_l4 T k0 x1 S a.1 a.2) n a = some e → (∀ e1 : Int32, e = e1 → zg g 1 mX0_lostBy T 42 [none, none, some (.int e1), none] [] T S v T S') → zg g 1 mX0_lostBy T 4 [some (.ref k0), some (.int x1), some (.int a.1), some (.int a.2)] [] T S v T S' := by
  intro n
  induction n with
  | zero =>
    intro a e h
    cases h
  | succ n ih =>
    intro a e h k0_
    rcases lpn_succ h with ⟨a1, ha_, hb_⟩ | ha_
    · exact tX0_lostBy_l4b T k0 x1 S a.1 a.2 h0 _ ha_ (fun a2 q => by cases q; exact ih a1 e hb_ k0_) (fun e1 q => by cases q)
    · exact tX0_lostBy_l4b T k0 x1 S a.1 a.2 h0 _ ha_ (fun a2 q => by cases q) (fun e1 q => by cases q; exact k0_ _ rfl)
set_option maxHeartbeats 4000000 in
set_option maxRecDepth 100000 in
theorem tX0_lostBy (T : zT) (k0 : Nat) (x1 : Int32) (S : zS) (h0 : iX0 T k0) (r : Int32) (h : fX0_lostBy T k0 x1 S = some r) : zGM 1 mX0_lostBy [.ref k0, .int x1] T S (some (.int r)) T S := by
  refine zGM_of zpnX0 rfl (Nat.le_of_ble_eq_true rfl) (fun g => ?_)
  show zg g 1 mX0_lostBy T 0 [some (.ref k0), some (.int x1), none, none] [] T S (some (.int r)) T S
  unfold fX0_lostBy at h
  refine z_iconst dX0_lostBy_0 cI_0 ?_
  refine z_istore_n dX0_lostBy_1 rfl (by decide) rfl ?_
  refine z_iconst dX0_lostBy_2 cI_0 ?_
  refine z_istore_n dX0_lostBy_3 rfl (by decide) rfl ?_
  obtain ⟨e8, hl9, h⟩ := zb1_elim h
  obtain ⟨nf10, hl9⟩ := lp_some hl9
  refine z_mask [true, true, true, true] rfl (tX0_lostBy_l4 T k0 x1 S h0 nf10 (0, 0) e8 hl9 (fun e_ q => ?_))
  · cases q
    refine z_iload_n dX0_lostBy_42 rfl ?_
    cases h
    exact z_iret rfl dX0_lostBy_43
/-! X4_isIn -/
noncomputable def fX4_isIn_b26 (T : zT) (s0 : Int32) (S : zS) : Option Int32 :=
  zgd (zbl s0) (some s0)
noncomputable def fX4_isIn_b25 (T : zT)  (S : zS) : Option Int32 :=
  fX4_isIn_b26 T 0 S
noncomputable def fX4_isIn (T : zT) (k0 : Nat) (x1 : Int32) (S : zS) : Option Int32 :=
  if x1 < 0 then fX4_isIn_b25 T  S else if 8 ≤ x1 then fX4_isIn_b25 T  S else zb1 (fX4_thingsIn T k0 S) fun r4 => if ((r4 >>> (x1 &&& 31)) &&& 1) = 0 then fX4_isIn_b25 T  S else fX4_isIn_b26 T 1 S
set_option maxHeartbeats 4000000 in
set_option maxRecDepth 100000 in
theorem tX4_isIn_b26 (T : zT) (s0 : Int32) (S : zS)  {g : zG} (r : Int32) (h : fX4_isIn_b26 T s0 S = some r)  : zg g 1 mX4_isIn T 26 [none, none] [.int s0] T S (some (.int r)) T S := by
  unfold fX4_isIn_b26 at h
  obtain ⟨q2, h⟩ := zgd_elim h
  cases h
  exact z_zret rfl (zbl_ok q2) dX4_isIn_26
set_option maxHeartbeats 4000000 in
set_option maxRecDepth 100000 in
theorem tX4_isIn_b25 (T : zT)  (S : zS)  {g : zG} (r : Int32) (h : fX4_isIn_b25 T  S = some r)  : zg g 1 mX4_isIn T 25 [none, none] [] T S (some (.int r)) T S := by
  unfold fX4_isIn_b25 at h
  refine z_iconst dX4_isIn_25 cI_0 ?_
  exact z_mask [false, false] rfl (tX4_isIn_b26 T 0 S  r h)
set_option maxHeartbeats 4000000 in
set_option maxRecDepth 100000 in
theorem tX4_isIn (T : zT) (k0 : Nat) (x1 : Int32) (S : zS) (h0 : iX4 T k0) (r : Int32) (h : fX4_isIn T k0 x1 S = some r) : zGM 1 mX4_isIn [.ref k0, .int x1] T S (some (.int r)) T S := by
  refine zGM_of zpnX4 rfl (Nat.le_of_ble_eq_true rfl) (fun g => ?_)
  show zg g 1 mX4_isIn T 0 [some (.ref k0), some (.int x1)] [] T S (some (.int r)) T S
  unfold fX4_isIn at h
  refine z_iload_n dX4_isIn_0 rfl ?_
  refine z_if_lt (tgt := 25) dX4_isIn_1 (by decide) (fun q1 => ?_) (fun q1 => ?_)
  · rw [if_pos q1] at h
    exact z_mask [false, false] rfl (tX4_isIn_b25 T  S  r h)
  · rw [if_neg q1] at h
    refine z_iload_n dX4_isIn_4 rfl ?_
    refine z_bipush dX4_isIn_5 cB_8 ?_
    refine z_icmp_ge (tgt := 25) dX4_isIn_7 (by decide) (fun q3 => ?_) (fun q3 => ?_)
    · rw [if_pos q3] at h
      exact z_mask [false, false] rfl (tX4_isIn_b25 T  S  r h)
    · rw [if_neg q3] at h
      refine z_aload_n dX4_isIn_10 rfl ?_
      obtain ⟨r4, hc5, h⟩ := zb1_elim h
      refine z_callV (As := []) zcX4 zkX4_120 ziX4_thingsIn zqX4_thingsIn h0.1 (tX4_thingsIn T k0 S h0 r4 hc5) rfl rfl (Nat.le_of_ble_eq_true rfl) (by decide) ⟨Nat.le_refl _, Nat.le_refl _⟩ ⟨Nat.le_refl _, Nat.le_refl _⟩ dX4_isIn_11 ?_
      refine z_iload_n dX4_isIn_14 rfl ?_
      refine z_ishr dX4_isIn_15 rfl ?_
      refine z_iconst dX4_isIn_16 cI_1 ?_
      refine z_iand dX4_isIn_17 rfl ?_
      refine z_if_eq (tgt := 25) dX4_isIn_18 (by decide) (fun q6 => ?_) (fun q6 => ?_)
      · rw [if_pos q6] at h
        exact z_mask [false, false] rfl (tX4_isIn_b25 T  S  r h)
      · rw [if_neg q6] at h
        refine z_iconst dX4_isIn_21 cI_1 ?_
        refine z_goto (tgt := 26) dX4_isIn_22 (by decide) ?_
        exact z_mask [false, false] rfl (tX4_isIn_b26 T 1 S  r h)
/-! X4_borrowOnce -/
noncomputable def fX4_borrowOnce_b18 (T : zT)  (S : zS) : Option (Int32 × zS) :=
  some (0, S)
noncomputable def fX4_borrowOnce (T : zT) (k0 : Nat) (x1 : Int32) (S : zS) : Option (Int32 × zS) :=
  if (S.1 k0 16) = 0 then zb1 (fX0_cousinLendsIn T (zr T k0 0) x1 S) fun r2 => if r2 = 0 then fX4_borrowOnce_b18 T  S else zlet (zI S k0 16 1) fun S5 => zlet (zI S5 k0 3 ((S5.1 k0 3) + (S5.1 (zr T k0 0) 4))) fun S6 => some (1, S6) else fX4_borrowOnce_b18 T  S
set_option maxHeartbeats 4000000 in
set_option maxRecDepth 100000 in
theorem tX4_borrowOnce_b18 (T : zT)  (S : zS)  {g : zG} (r : (Int32 × zS)) (h : fX4_borrowOnce_b18 T  S = some r)  : zg g 1 mX4_borrowOnce T 18 [none, none] [] T S (some (.int r.1)) T r.2 := by
  unfold fX4_borrowOnce_b18 at h
  refine z_iconst dX4_borrowOnce_18 cI_0 ?_
  cases h
  exact z_zret rfl (Or.inl rfl) dX4_borrowOnce_19
set_option maxHeartbeats 4000000 in
set_option maxRecDepth 100000 in
theorem tX4_borrowOnce (T : zT) (k0 : Nat) (x1 : Int32) (S : zS) (h0 : iX4 T k0) (r : Int32 × zS) (h : fX4_borrowOnce T k0 x1 S = some r) : zGM 1 mX4_borrowOnce [.ref k0, .int x1] T S (some (.int r.1)) T r.2 := by
  refine zGM_of zpnX4 rfl (Nat.le_of_ble_eq_true rfl) (fun g => ?_)
  show zg g 1 mX4_borrowOnce T 0 [some (.ref k0), some (.int x1)] [] T S (some (.int r.1)) T r.2
  unfold fX4_borrowOnce at h
  refine z_aload_n dX4_borrowOnce_0 rfl ?_
  refine z_gZ (zF.x zfX4_69) h0.1 dX4_borrowOnce_1 ?_
  refine z_if_ne (tgt := 18) dX4_borrowOnce_4 (by decide) (fun q1 => ?_) (fun q1 => ?_)
  · rw [if_neg q1] at h
    exact z_mask [false, false] rfl (tX4_borrowOnce_b18 T  S  r h)
  · rw [if_pos q1] at h
    refine z_aload_n dX4_borrowOnce_7 rfl ?_
    refine z_gR (zF.x zfX4_9) h0.1 dX4_borrowOnce_8 ?_
    refine z_iload_n dX4_borrowOnce_11 rfl ?_
    obtain ⟨r2, hc3, h⟩ := zb1_elim h
    refine z_callV (As := [.int x1]) zcX0 zkX4_171 ziX0_cousinLendsIn zqX0_cousinLendsIn h0.2.1.1 (tX0_cousinLendsIn T (zr T k0 0) x1 S h0.2.1 r2 hc3) rfl rfl (Nat.le_of_ble_eq_true rfl) (by decide) ⟨Nat.le_refl _, Nat.le_refl _⟩ ⟨Nat.le_refl _, Nat.le_refl _⟩ dX4_borrowOnce_12 ?_
    refine z_if_ne (tgt := 20) dX4_borrowOnce_15 (by decide) (fun q4 => ?_) (fun q4 => ?_)
    · rw [if_neg q4] at h
      refine z_aload_n dX4_borrowOnce_20 rfl ?_
      refine z_iconst dX4_borrowOnce_21 cI_1 ?_
      refine z_putZ zfX4_69 (Or.inr rfl) h0.1 dX4_borrowOnce_22 ?_
      obtain ⟨S5, eS5, h⟩ := zlet_elim h
      refine z_tS eS5 ?_
      refine z_aload_n dX4_borrowOnce_25 rfl ?_
      refine z_dup dX4_borrowOnce_26 rfl ?_
      refine z_gI (zF.x zfX4_50) h0.1 dX4_borrowOnce_27 ?_
      refine z_aload_n dX4_borrowOnce_30 rfl ?_
      refine z_gR (zF.x zfX4_9) h0.1 dX4_borrowOnce_31 ?_
      refine z_gI (zF.x zfX4_117) h0.2.1.1 dX4_borrowOnce_34 ?_
      refine z_iadd dX4_borrowOnce_37 rfl ?_
      refine z_putI zfX4_50 h0.1 dX4_borrowOnce_38 ?_
      obtain ⟨S6, eS6, h⟩ := zlet_elim h
      refine z_tS eS6 ?_
      refine z_iconst dX4_borrowOnce_41 cI_1 ?_
      cases h
      exact z_zret rfl (Or.inr rfl) dX4_borrowOnce_42
    · rw [if_pos q4] at h
      exact z_mask [false, false] rfl (tX4_borrowOnce_b18 T  S  r h)
/-! X0_take -/
noncomputable def fX0_take (T : zT) (k0 : Nat) (k1 : Nat) (S : zS) : Option (Unit × zS) :=
  zlet (zI S k0 0 (S.1 k1 0)) fun S1 => zlet (zI S1 k0 1 (S1.1 k1 1)) fun S2 => zlet (zI S2 k0 2 (S2.1 k1 2)) fun S3 => zlet (zI S3 k0 3 (S3.1 k1 3)) fun S4 => zlet (zI S4 k0 4 (S4.1 k1 4)) fun S5 => zlet (zI S5 k0 5 (S5.1 k1 5)) fun S6 => zgd (zcg 0 0 8 8 8) (zlet (zCp S6 (zr T k1 6) (zr T k0 6) (0 : Int32).toNatClampNeg (0 : Int32).toNatClampNeg (8 : Int32).toNatClampNeg) fun S8 => zgd (zcg 0 0 8 8 8) (zlet (zCp S8 (zr T k1 7) (zr T k0 7) (0 : Int32).toNatClampNeg (0 : Int32).toNatClampNeg (8 : Int32).toNatClampNeg) fun S10 => zgd (zcg 0 0 8 8 8) (zlet (zCp S10 (zr T k1 8) (zr T k0 8) (0 : Int32).toNatClampNeg (0 : Int32).toNatClampNeg (8 : Int32).toNatClampNeg) fun S12 => zgd (zcg 0 0 8 8 8) (zlet (zCp S12 (zr T k1 9) (zr T k0 9) (0 : Int32).toNatClampNeg (0 : Int32).toNatClampNeg (8 : Int32).toNatClampNeg) fun S14 => zgd (zcg 0 0 8 8 8) (zlet (zCp S14 (zr T k1 10) (zr T k0 10) (0 : Int32).toNatClampNeg (0 : Int32).toNatClampNeg (8 : Int32).toNatClampNeg) fun S16 => zgd (zcg 0 0 8 8 8) (zlet (zCp S16 (zr T k1 11) (zr T k0 11) (0 : Int32).toNatClampNeg (0 : Int32).toNatClampNeg (8 : Int32).toNatClampNeg) fun S18 => zb (fX1_take T (zr T k0 12) (zr T k1 12) S18) fun _ S21 => zb (fX1_take T (zr T k0 13) (zr T k1 13) S21) fun _ S24 => zb (fX2_take T (zr T k0 14) (zr T k1 14) S24) fun _ S27 => some ((), S27)))))))
set_option maxHeartbeats 4000000 in
set_option maxRecDepth 100000 in
theorem tX0_take (T : zT) (k0 : Nat) (k1 : Nat) (S : zS) (h0 : iX0 T k0) (h1 : iX0 T k1) (r : Unit × zS) (h : fX0_take T k0 k1 S = some r) : zGM 2 mX0_take [.ref k0, .ref k1] T S none T r.2 := by
  refine zGM_of zpnX0 rfl (Nat.le_of_ble_eq_true rfl) (fun g => ?_)
  show zg g 2 mX0_take T 0 [some (.ref k0), some (.ref k1)] [] T S none T r.2
  unfold fX0_take at h
  refine z_aload_n dX0_take_0 rfl ?_
  refine z_aload_n dX0_take_1 rfl ?_
  refine z_gI (zF.x zfX0_50) h1.1 dX0_take_2 ?_
  refine z_putI zfX0_50 h0.1 dX0_take_5 ?_
  obtain ⟨S1, eS1, h⟩ := zlet_elim h
  refine z_tS eS1 ?_
  refine z_aload_n dX0_take_8 rfl ?_
  refine z_aload_n dX0_take_9 rfl ?_
  refine z_gI (zF.x zfX0_54) h1.1 dX0_take_10 ?_
  refine z_putI zfX0_54 h0.1 dX0_take_13 ?_
  obtain ⟨S2, eS2, h⟩ := zlet_elim h
  refine z_tS eS2 ?_
  refine z_aload_n dX0_take_16 rfl ?_
  refine z_aload_n dX0_take_17 rfl ?_
  refine z_gI (zF.x zfX0_57) h1.1 dX0_take_18 ?_
  refine z_putI zfX0_57 h0.1 dX0_take_21 ?_
  obtain ⟨S3, eS3, h⟩ := zlet_elim h
  refine z_tS eS3 ?_
  refine z_aload_n dX0_take_24 rfl ?_
  refine z_aload_n dX0_take_25 rfl ?_
  refine z_gI (zF.x zfX0_60) h1.1 dX0_take_26 ?_
  refine z_putI zfX0_60 h0.1 dX0_take_29 ?_
  obtain ⟨S4, eS4, h⟩ := zlet_elim h
  refine z_tS eS4 ?_
  refine z_aload_n dX0_take_32 rfl ?_
  refine z_aload_n dX0_take_33 rfl ?_
  refine z_gI (zF.x zfX0_63) h1.1 dX0_take_34 ?_
  refine z_putI zfX0_63 h0.1 dX0_take_37 ?_
  obtain ⟨S5, eS5, h⟩ := zlet_elim h
  refine z_tS eS5 ?_
  refine z_aload_n dX0_take_40 rfl ?_
  refine z_aload_n dX0_take_41 rfl ?_
  refine z_gI (zF.x zfX0_66) h1.1 dX0_take_42 ?_
  refine z_putI zfX0_66 h0.1 dX0_take_45 ?_
  obtain ⟨S6, eS6, h⟩ := zlet_elim h
  refine z_tS eS6 ?_
  refine z_aload_n dX0_take_48 rfl ?_
  refine z_gA (zF.x zfX0_9) h1.1 dX0_take_49 ?_
  refine z_iconst dX0_take_52 cI_0 ?_
  refine z_aload_n dX0_take_53 rfl ?_
  refine z_gA (zF.x zfX0_9) h0.1 dX0_take_54 ?_
  refine z_iconst dX0_take_57 cI_0 ?_
  refine z_bipush dX0_take_58 cB_8 ?_
  obtain ⟨q7, h⟩ := zgd_elim h
  obtain ⟨q7a, q7b, q7c, q7d, q7e⟩ := zcg_ok q7
  refine z_copy zxX0_73 zcp_native zcp_static zjJ10 h1.2.1 h0.2.1 q7a q7b q7c q7d q7e (by decide) (Nat.le_of_ble_eq_true rfl) dX0_take_60 ?_
  obtain ⟨S8, eS8, h⟩ := zlet_elim h
  refine z_tS eS8 ?_
  refine z_aload_n dX0_take_63 rfl ?_
  refine z_gA (zF.x zfX0_15) h1.1 dX0_take_64 ?_
  refine z_iconst dX0_take_67 cI_0 ?_
  refine z_aload_n dX0_take_68 rfl ?_
  refine z_gA (zF.x zfX0_15) h0.1 dX0_take_69 ?_
  refine z_iconst dX0_take_72 cI_0 ?_
  refine z_bipush dX0_take_73 cB_8 ?_
  obtain ⟨q9, h⟩ := zgd_elim h
  obtain ⟨q9a, q9b, q9c, q9d, q9e⟩ := zcg_ok q9
  refine z_copy zxX0_73 zcp_native zcp_static zjJ10 h1.2.2.1 h0.2.2.1 q9a q9b q9c q9d q9e (by decide) (Nat.le_of_ble_eq_true rfl) dX0_take_75 ?_
  obtain ⟨S10, eS10, h⟩ := zlet_elim h
  refine z_tS eS10 ?_
  refine z_aload_n dX0_take_78 rfl ?_
  refine z_gA (zF.x zfX0_18) h1.1 dX0_take_79 ?_
  refine z_iconst dX0_take_82 cI_0 ?_
  refine z_aload_n dX0_take_83 rfl ?_
  refine z_gA (zF.x zfX0_18) h0.1 dX0_take_84 ?_
  refine z_iconst dX0_take_87 cI_0 ?_
  refine z_bipush dX0_take_88 cB_8 ?_
  obtain ⟨q11, h⟩ := zgd_elim h
  obtain ⟨q11a, q11b, q11c, q11d, q11e⟩ := zcg_ok q11
  refine z_copy zxX0_73 zcp_native zcp_static zjJ10 h1.2.2.2.1 h0.2.2.2.1 q11a q11b q11c q11d q11e (by decide) (Nat.le_of_ble_eq_true rfl) dX0_take_90 ?_
  obtain ⟨S12, eS12, h⟩ := zlet_elim h
  refine z_tS eS12 ?_
  refine z_aload_n dX0_take_93 rfl ?_
  refine z_gA (zF.x zfX0_21) h1.1 dX0_take_94 ?_
  refine z_iconst dX0_take_97 cI_0 ?_
  refine z_aload_n dX0_take_98 rfl ?_
  refine z_gA (zF.x zfX0_21) h0.1 dX0_take_99 ?_
  refine z_iconst dX0_take_102 cI_0 ?_
  refine z_bipush dX0_take_103 cB_8 ?_
  obtain ⟨q13, h⟩ := zgd_elim h
  obtain ⟨q13a, q13b, q13c, q13d, q13e⟩ := zcg_ok q13
  refine z_copy zxX0_73 zcp_native zcp_static zjJ10 h1.2.2.2.2.1 h0.2.2.2.2.1 q13a q13b q13c q13d q13e (by decide) (Nat.le_of_ble_eq_true rfl) dX0_take_105 ?_
  obtain ⟨S14, eS14, h⟩ := zlet_elim h
  refine z_tS eS14 ?_
  refine z_aload_n dX0_take_108 rfl ?_
  refine z_gA (zF.x zfX0_24) h1.1 dX0_take_109 ?_
  refine z_iconst dX0_take_112 cI_0 ?_
  refine z_aload_n dX0_take_113 rfl ?_
  refine z_gA (zF.x zfX0_24) h0.1 dX0_take_114 ?_
  refine z_iconst dX0_take_117 cI_0 ?_
  refine z_bipush dX0_take_118 cB_8 ?_
  obtain ⟨q15, h⟩ := zgd_elim h
  obtain ⟨q15a, q15b, q15c, q15d, q15e⟩ := zcg_ok q15
  refine z_copy zxX0_73 zcp_native zcp_static zjJ10 h1.2.2.2.2.2.1 h0.2.2.2.2.2.1 q15a q15b q15c q15d q15e (by decide) (Nat.le_of_ble_eq_true rfl) dX0_take_120 ?_
  obtain ⟨S16, eS16, h⟩ := zlet_elim h
  refine z_tS eS16 ?_
  refine z_aload_n dX0_take_123 rfl ?_
  refine z_gA (zF.x zfX0_27) h1.1 dX0_take_124 ?_
  refine z_iconst dX0_take_127 cI_0 ?_
  refine z_aload_n dX0_take_128 rfl ?_
  refine z_gA (zF.x zfX0_27) h0.1 dX0_take_129 ?_
  refine z_iconst dX0_take_132 cI_0 ?_
  refine z_bipush dX0_take_133 cB_8 ?_
  obtain ⟨q17, h⟩ := zgd_elim h
  obtain ⟨q17a, q17b, q17c, q17d, q17e⟩ := zcg_ok q17
  refine z_copy zxX0_73 zcp_native zcp_static zjJ10 h1.2.2.2.2.2.2.1 h0.2.2.2.2.2.2.1 q17a q17b q17c q17d q17e (by decide) (Nat.le_of_ble_eq_true rfl) dX0_take_135 ?_
  obtain ⟨S18, eS18, h⟩ := zlet_elim h
  refine z_tS eS18 ?_
  refine z_aload_n dX0_take_138 rfl ?_
  refine z_gR (zF.x zfX0_33) h0.1 dX0_take_139 ?_
  refine z_aload_n dX0_take_142 rfl ?_
  refine z_gR (zF.x zfX0_33) h1.1 dX0_take_143 ?_
  obtain ⟨r19, S21, hc20, h⟩ := zb_elim h
  refine z_callV (As := [.ref (zr T k1 12)]) zcX1 zkX0_79 ziX1_take zqX1_take h0.2.2.2.2.2.2.2.1.1 (tX1_take T (zr T k0 12) (zr T k1 12) S18 h0.2.2.2.2.2.2.2.1 h1.2.2.2.2.2.2.2.1 (r19, S21) hc20) rfl rfl (Nat.le_of_ble_eq_true rfl) (by decide) ⟨Nat.le_refl _, Nat.le_refl _⟩ ⟨Nat.le_refl _, Nat.le_refl _⟩ dX0_take_146 ?_
  refine z_aload_n dX0_take_149 rfl ?_
  refine z_gR (zF.x zfX0_37) h0.1 dX0_take_150 ?_
  refine z_aload_n dX0_take_153 rfl ?_
  refine z_gR (zF.x zfX0_37) h1.1 dX0_take_154 ?_
  obtain ⟨r22, S24, hc23, h⟩ := zb_elim h
  refine z_callV (As := [.ref (zr T k1 13)]) zcX1 zkX0_79 ziX1_take zqX1_take h0.2.2.2.2.2.2.2.2.1.1 (tX1_take T (zr T k0 13) (zr T k1 13) S21 h0.2.2.2.2.2.2.2.2.1 h1.2.2.2.2.2.2.2.2.1 (r22, S24) hc23) rfl rfl (Nat.le_of_ble_eq_true rfl) (by decide) ⟨Nat.le_refl _, Nat.le_refl _⟩ ⟨Nat.le_refl _, Nat.le_refl _⟩ dX0_take_157 ?_
  refine z_aload_n dX0_take_160 rfl ?_
  refine z_gR (zF.x zfX0_43) h0.1 dX0_take_161 ?_
  refine z_aload_n dX0_take_164 rfl ?_
  refine z_gR (zF.x zfX0_43) h1.1 dX0_take_165 ?_
  obtain ⟨r25, S27, hc26, h⟩ := zb_elim h
  refine z_callV (As := [.ref (zr T k1 14)]) zcX2 zkX0_83 ziX2_take zqX2_take h0.2.2.2.2.2.2.2.2.2.1 (tX2_take T (zr T k0 14) (zr T k1 14) S24 h0.2.2.2.2.2.2.2.2.2 h1.2.2.2.2.2.2.2.2.2 (r25, S27) hc26) rfl rfl (Nat.le_of_ble_eq_true rfl) (by decide) ⟨Nat.le_refl _, Nat.le_refl _⟩ ⟨Nat.le_refl _, Nat.le_refl _⟩ dX0_take_168 ?_
  cases h
  exact z_vret rfl dX0_take_171
/-! X4_startWeek -/
noncomputable def fX4_startWeek_b80 (T : zT)  (S : zS) : Option (Unit × zS) :=
  some ((), S)
noncomputable def fX4_startWeek (T : zT) (k0 : Nat) (x1 : Int32) (S : zS) : Option (Unit × zS) :=
  zb1 (fX0_lostBy T (zr T k0 0) x1 S) fun r1 => zlet (zI S k0 5 ((S.1 k0 5) ||| (r1 &&& ((S.1 k0 4) ^^^ (-1))))) fun S3 => if (S3.1 k0 16) = 0 then fX4_startWeek_b80 T  S3 else if x1 = (S3.1 (zr T k0 0) 5) then if (S3.1 (zr T k0 0) 4) ≤ (S3.1 k0 3) then zlet (zI S3 k0 3 ((S3.1 k0 3) - (S3.1 (zr T k0 0) 4))) fun S7 => fX4_startWeek_b80 T  S7 else zlet (zI S3 k0 7 x1) fun S8 => fX4_startWeek_b80 T  S8 else fX4_startWeek_b80 T  S3
set_option maxHeartbeats 4000000 in
set_option maxRecDepth 100000 in
theorem tX4_startWeek_b80 (T : zT)  (S : zS)  {g : zG} (r : (Unit × zS)) (h : fX4_startWeek_b80 T  S = some r)  : zg g 2 mX4_startWeek T 80 [none, none] [] T S none T r.2 := by
  unfold fX4_startWeek_b80 at h
  cases h
  exact z_vret rfl dX4_startWeek_80
set_option maxHeartbeats 4000000 in
set_option maxRecDepth 100000 in
theorem tX4_startWeek (T : zT) (k0 : Nat) (x1 : Int32) (S : zS) (h0 : iX4 T k0) (r : Unit × zS) (h : fX4_startWeek T k0 x1 S = some r) : zGM 2 mX4_startWeek [.ref k0, .int x1] T S none T r.2 := by
  refine zGM_of zpnX4 rfl (Nat.le_of_ble_eq_true rfl) (fun g => ?_)
  show zg g 2 mX4_startWeek T 0 [some (.ref k0), some (.int x1)] [] T S none T r.2
  unfold fX4_startWeek at h
  refine z_aload_n dX4_startWeek_0 rfl ?_
  refine z_dup dX4_startWeek_1 rfl ?_
  refine z_gI (zF.x zfX4_54) h0.1 dX4_startWeek_2 ?_
  refine z_aload_n dX4_startWeek_5 rfl ?_
  refine z_gR (zF.x zfX4_9) h0.1 dX4_startWeek_6 ?_
  refine z_iload_n dX4_startWeek_9 rfl ?_
  obtain ⟨r1, hc2, h⟩ := zb1_elim h
  refine z_callV (As := [.int x1]) zcX0 zkX4_110 ziX0_lostBy zqX0_lostBy h0.2.1.1 (tX0_lostBy T (zr T k0 0) x1 S h0.2.1 r1 hc2) rfl rfl (Nat.le_of_ble_eq_true rfl) (by decide) ⟨Nat.le_refl _, Nat.le_refl _⟩ ⟨Nat.le_refl _, Nat.le_refl _⟩ dX4_startWeek_10 ?_
  refine z_aload_n dX4_startWeek_13 rfl ?_
  refine z_gI (zF.x zfX4_51) h0.1 dX4_startWeek_14 ?_
  refine z_iconst dX4_startWeek_17 cI_m1 ?_
  refine z_ixor dX4_startWeek_18 rfl ?_
  refine z_iand dX4_startWeek_19 rfl ?_
  refine z_ior dX4_startWeek_20 rfl ?_
  refine z_putI zfX4_54 h0.1 dX4_startWeek_21 ?_
  obtain ⟨S3, eS3, h⟩ := zlet_elim h
  refine z_tS eS3 ?_
  refine z_aload_n dX4_startWeek_24 rfl ?_
  refine z_gZ (zF.x zfX4_69) h0.1 dX4_startWeek_25 ?_
  refine z_if_eq (tgt := 80) dX4_startWeek_28 (by decide) (fun q4 => ?_) (fun q4 => ?_)
  · rw [if_pos q4] at h
    exact z_mask [false, false] rfl (tX4_startWeek_b80 T  S3  r h)
  · rw [if_neg q4] at h
    refine z_iload_n dX4_startWeek_31 rfl ?_
    refine z_aload_n dX4_startWeek_32 rfl ?_
    refine z_gR (zF.x zfX4_9) h0.1 dX4_startWeek_33 ?_
    refine z_gI (zF.x zfX4_114) h0.2.1.1 dX4_startWeek_36 ?_
    refine z_icmp_ne (tgt := 80) dX4_startWeek_39 (by decide) (fun q5 => ?_) (fun q5 => ?_)
    · rw [if_neg q5] at h
      exact z_mask [false, false] rfl (tX4_startWeek_b80 T  S3  r h)
    · rw [if_pos q5] at h
      refine z_aload_n dX4_startWeek_42 rfl ?_
      refine z_gI (zF.x zfX4_50) h0.1 dX4_startWeek_43 ?_
      refine z_aload_n dX4_startWeek_46 rfl ?_
      refine z_gR (zF.x zfX4_9) h0.1 dX4_startWeek_47 ?_
      refine z_gI (zF.x zfX4_117) h0.2.1.1 dX4_startWeek_50 ?_
      refine z_icmp_ge (tgt := 64) dX4_startWeek_53 (by decide) (fun q6 => ?_) (fun q6 => ?_)
      · rw [if_pos q6] at h
        refine z_aload_n dX4_startWeek_64 rfl ?_
        refine z_dup dX4_startWeek_65 rfl ?_
        refine z_gI (zF.x zfX4_50) h0.1 dX4_startWeek_66 ?_
        refine z_aload_n dX4_startWeek_69 rfl ?_
        refine z_gR (zF.x zfX4_9) h0.1 dX4_startWeek_70 ?_
        refine z_gI (zF.x zfX4_117) h0.2.1.1 dX4_startWeek_73 ?_
        refine z_isub dX4_startWeek_76 rfl ?_
        refine z_putI zfX4_50 h0.1 dX4_startWeek_77 ?_
        obtain ⟨S7, eS7, h⟩ := zlet_elim h
        refine z_tS eS7 ?_
        exact z_mask [false, false] rfl (tX4_startWeek_b80 T  S7  r h)
      · rw [if_neg q6] at h
        refine z_aload_n dX4_startWeek_56 rfl ?_
        refine z_iload_n dX4_startWeek_57 rfl ?_
        refine z_putI zfX4_60 h0.1 dX4_startWeek_58 ?_
        obtain ⟨S8, eS8, h⟩ := zlet_elim h
        refine z_tS eS8 ?_
        refine z_goto (tgt := 80) dX4_startWeek_61 (by decide) ?_
        exact z_mask [false, false] rfl (tX4_startWeek_b80 T  S8  r h)
/-! X4_fetchOne -/
noncomputable def fX4_fetchOne_b21 (T : zT)  (S : zS) : Option (Int32 × zS) :=
  some (0, S)
noncomputable def fX4_fetchOne (T : zT) (k0 : Nat) (x1 : Int32) (x2 : Int32) (S : zS) : Option (Int32 × zS) :=
  zb1 (fX4_isIn T k0 x1 S) fun r1 => if r1 = 0 then fX4_fetchOne_b21 T  S else zb1 (fX4_owedNow T k0 x1 x2 S) fun r4 => if r4 ≤ (S.1 k0 3) then zb1 (fX4_owedNow T k0 x1 x2 S) fun r7 => zlet (zI S k0 3 ((S.1 k0 3) - r7)) fun S9 => zlet (zI S9 k0 4 ((S9.1 k0 4) ||| (1 <<< (x1 &&& 31)))) fun S10 => zgd (zin x1 8) (zlet (zI S10 (zr T k0 11) (x1 : Int32).toNatClampNeg x2) fun S12 => some (1, S12)) else fX4_fetchOne_b21 T  S
set_option maxHeartbeats 4000000 in
set_option maxRecDepth 100000 in
theorem tX4_fetchOne_b21 (T : zT)  (S : zS)  {g : zG} (r : (Int32 × zS)) (h : fX4_fetchOne_b21 T  S = some r)  : zg g 2 mX4_fetchOne T 21 [none, none, none] [] T S (some (.int r.1)) T r.2 := by
  unfold fX4_fetchOne_b21 at h
  refine z_iconst dX4_fetchOne_21 cI_0 ?_
  cases h
  exact z_zret rfl (Or.inl rfl) dX4_fetchOne_22
set_option maxHeartbeats 4000000 in
set_option maxRecDepth 100000 in
theorem tX4_fetchOne (T : zT) (k0 : Nat) (x1 : Int32) (x2 : Int32) (S : zS) (h0 : iX4 T k0) (r : Int32 × zS) (h : fX4_fetchOne T k0 x1 x2 S = some r) : zGM 2 mX4_fetchOne [.ref k0, .int x1, .int x2] T S (some (.int r.1)) T r.2 := by
  refine zGM_of zpnX4 rfl (Nat.le_of_ble_eq_true rfl) (fun g => ?_)
  show zg g 2 mX4_fetchOne T 0 [some (.ref k0), some (.int x1), some (.int x2)] [] T S (some (.int r.1)) T r.2
  unfold fX4_fetchOne at h
  refine z_aload_n dX4_fetchOne_0 rfl ?_
  refine z_iload_n dX4_fetchOne_1 rfl ?_
  obtain ⟨r1, hc2, h⟩ := zb1_elim h
  refine z_callV (As := [.int x1]) zcX4 zkX4_158 ziX4_isIn zqX4_isIn h0.1 (tX4_isIn T k0 x1 S h0 r1 hc2) rfl rfl (Nat.le_of_ble_eq_true rfl) (by decide) ⟨Nat.le_refl _, Nat.le_refl _⟩ ⟨Nat.le_refl _, Nat.le_refl _⟩ dX4_fetchOne_2 ?_
  refine z_if_eq (tgt := 21) dX4_fetchOne_5 (by decide) (fun q3 => ?_) (fun q3 => ?_)
  · rw [if_pos q3] at h
    exact z_mask [false, false, false] rfl (tX4_fetchOne_b21 T  S  r h)
  · rw [if_neg q3] at h
    refine z_aload_n dX4_fetchOne_8 rfl ?_
    refine z_gI (zF.x zfX4_50) h0.1 dX4_fetchOne_9 ?_
    refine z_aload_n dX4_fetchOne_12 rfl ?_
    refine z_iload_n dX4_fetchOne_13 rfl ?_
    refine z_iload_n dX4_fetchOne_14 rfl ?_
    obtain ⟨r4, hc5, h⟩ := zb1_elim h
    refine z_callV (As := [.int x1, .int x2]) zcX4 zkX4_161 ziX4_owedNow zqX4_owedNow h0.1 (tX4_owedNow T k0 x1 x2 S h0 r4 hc5) rfl rfl (Nat.le_of_ble_eq_true rfl) (by decide) ⟨Nat.le_refl _, Nat.le_refl _⟩ ⟨Nat.le_refl _, Nat.le_refl _⟩ dX4_fetchOne_15 ?_
    refine z_icmp_ge (tgt := 23) dX4_fetchOne_18 (by decide) (fun q6 => ?_) (fun q6 => ?_)
    · rw [if_pos q6] at h
      refine z_aload_n dX4_fetchOne_23 rfl ?_
      refine z_dup dX4_fetchOne_24 rfl ?_
      refine z_gI (zF.x zfX4_50) h0.1 dX4_fetchOne_25 ?_
      refine z_aload_n dX4_fetchOne_28 rfl ?_
      refine z_iload_n dX4_fetchOne_29 rfl ?_
      refine z_iload_n dX4_fetchOne_30 rfl ?_
      obtain ⟨r7, hc8, h⟩ := zb1_elim h
      refine z_callV (As := [.int x1, .int x2]) zcX4 zkX4_161 ziX4_owedNow zqX4_owedNow h0.1 (tX4_owedNow T k0 x1 x2 S h0 r7 hc8) rfl rfl (Nat.le_of_ble_eq_true rfl) (by decide) ⟨Nat.le_refl _, Nat.le_refl _⟩ ⟨Nat.le_refl _, Nat.le_refl _⟩ dX4_fetchOne_31 ?_
      refine z_isub dX4_fetchOne_34 rfl ?_
      refine z_putI zfX4_50 h0.1 dX4_fetchOne_35 ?_
      obtain ⟨S9, eS9, h⟩ := zlet_elim h
      refine z_tS eS9 ?_
      refine z_aload_n dX4_fetchOne_38 rfl ?_
      refine z_dup dX4_fetchOne_39 rfl ?_
      refine z_gI (zF.x zfX4_51) h0.1 dX4_fetchOne_40 ?_
      refine z_iconst dX4_fetchOne_43 cI_1 ?_
      refine z_iload_n dX4_fetchOne_44 rfl ?_
      refine z_ishl dX4_fetchOne_45 rfl ?_
      refine z_ior dX4_fetchOne_46 rfl ?_
      refine z_putI zfX4_51 h0.1 dX4_fetchOne_47 ?_
      obtain ⟨S10, eS10, h⟩ := zlet_elim h
      refine z_tS eS10 ?_
      refine z_aload_n dX4_fetchOne_50 rfl ?_
      refine z_gA (zF.x zfX4_32) h0.1 dX4_fetchOne_51 ?_
      refine z_iload_n dX4_fetchOne_54 rfl ?_
      refine z_iload_n dX4_fetchOne_55 rfl ?_
      obtain ⟨q11, h⟩ := zgd_elim h
      refine z_iast h0.2.2.2.2.2.2.1 (zin_ok q11) dX4_fetchOne_56 ?_
      obtain ⟨S12, eS12, h⟩ := zlet_elim h
      refine z_tS eS12 ?_
      refine z_iconst dX4_fetchOne_57 cI_1 ?_
      cases h
      exact z_zret rfl (Or.inr rfl) dX4_fetchOne_58
    · rw [if_neg q6] at h
      exact z_mask [false, false, false] rfl (tX4_fetchOne_b21 T  S  r h)
/-! X4_sellOne -/
noncomputable def fX4_sellOne (T : zT) (k0 : Nat) (x1 : Int32) (S : zS) : Option (Int32 × zS) :=
  zb1 (fX4_isIn T k0 x1 S) fun r1 => if r1 = 0 then some (0, S) else zlet (zI S k0 5 ((S.1 k0 5) ||| (1 <<< (x1 &&& 31)))) fun S4 => zgd (zin x1 8) (zlet (zI S4 k0 3 ((S4.1 k0 3) + (S4.1 (zr T (zr T k0 0) 10) (x1 : Int32).toNatClampNeg))) fun S6 => some (1, S6))
set_option maxHeartbeats 4000000 in
set_option maxRecDepth 100000 in
theorem tX4_sellOne (T : zT) (k0 : Nat) (x1 : Int32) (S : zS) (h0 : iX4 T k0) (r : Int32 × zS) (h : fX4_sellOne T k0 x1 S = some r) : zGM 2 mX4_sellOne [.ref k0, .int x1] T S (some (.int r.1)) T r.2 := by
  refine zGM_of zpnX4 rfl (Nat.le_of_ble_eq_true rfl) (fun g => ?_)
  show zg g 2 mX4_sellOne T 0 [some (.ref k0), some (.int x1)] [] T S (some (.int r.1)) T r.2
  unfold fX4_sellOne at h
  refine z_aload_n dX4_sellOne_0 rfl ?_
  refine z_iload_n dX4_sellOne_1 rfl ?_
  obtain ⟨r1, hc2, h⟩ := zb1_elim h
  refine z_callV (As := [.int x1]) zcX4 zkX4_158 ziX4_isIn zqX4_isIn h0.1 (tX4_isIn T k0 x1 S h0 r1 hc2) rfl rfl (Nat.le_of_ble_eq_true rfl) (by decide) ⟨Nat.le_refl _, Nat.le_refl _⟩ ⟨Nat.le_refl _, Nat.le_refl _⟩ dX4_sellOne_2 ?_
  refine z_if_ne (tgt := 10) dX4_sellOne_5 (by decide) (fun q3 => ?_) (fun q3 => ?_)
  · rw [if_neg q3] at h
    refine z_aload_n dX4_sellOne_10 rfl ?_
    refine z_dup dX4_sellOne_11 rfl ?_
    refine z_gI (zF.x zfX4_54) h0.1 dX4_sellOne_12 ?_
    refine z_iconst dX4_sellOne_15 cI_1 ?_
    refine z_iload_n dX4_sellOne_16 rfl ?_
    refine z_ishl dX4_sellOne_17 rfl ?_
    refine z_ior dX4_sellOne_18 rfl ?_
    refine z_putI zfX4_54 h0.1 dX4_sellOne_19 ?_
    obtain ⟨S4, eS4, h⟩ := zlet_elim h
    refine z_tS eS4 ?_
    refine z_aload_n dX4_sellOne_22 rfl ?_
    refine z_dup dX4_sellOne_23 rfl ?_
    refine z_gI (zF.x zfX4_50) h0.1 dX4_sellOne_24 ?_
    refine z_aload_n dX4_sellOne_27 rfl ?_
    refine z_gR (zF.x zfX4_9) h0.1 dX4_sellOne_28 ?_
    refine z_gA zfX4_168 h0.2.1.1 dX4_sellOne_31 ?_
    refine z_iload_n dX4_sellOne_34 rfl ?_
    obtain ⟨q5, h⟩ := zgd_elim h
    refine z_iald h0.2.1.2.2.2.2.2.1 (zin_ok q5) dX4_sellOne_35 ?_
    refine z_iadd dX4_sellOne_36 rfl ?_
    refine z_putI zfX4_50 h0.1 dX4_sellOne_37 ?_
    obtain ⟨S6, eS6, h⟩ := zlet_elim h
    refine z_tS eS6 ?_
    refine z_iconst dX4_sellOne_40 cI_1 ?_
    cases h
    exact z_zret rfl (Or.inr rfl) dX4_sellOne_41
  · rw [if_pos q3] at h
    refine z_iconst dX4_sellOne_8 cI_0 ?_
    cases h
    exact z_zret rfl (Or.inl rfl) dX4_sellOne_9
/-! X4_halveOne -/
noncomputable def fX4_halveOne_b19 (T : zT)  (S : zS) : Option (Int32 × zS) :=
  some (0, S)
noncomputable def fX4_halveOne (T : zT) (k0 : Nat) (x1 : Int32) (x2 : Int32) (S : zS) : Option (Int32 × zS) :=
  zb1 (fX4_isIn T k0 x1 S) fun r1 => if r1 = 0 then fX4_halveOne_b19 T  S else if (((S.1 k0 15) >>> (x1 &&& 31)) &&& 1) = 0 then zb1 (fX4_owedNow T k0 x1 x2 S) fun r5 => zlet ((r5 + 1) / 2) fun u7 => if u7 ≤ (S.1 k0 3) then zlet (zI S k0 3 ((S.1 k0 3) - u7)) fun S9 => zlet (zI S9 k0 15 ((S9.1 k0 15) ||| (1 <<< (x1 &&& 31)))) fun S10 => zgd (zin x1 8) (zlet (zI S10 (zr T k0 12) (x1 : Int32).toNatClampNeg (r5 - u7)) fun S12 => zgd (zin x1 8) (zgd (zin x1 8) (zlet (zI S12 (zr T k0 13) (x1 : Int32).toNatClampNeg ((S12.1 (zr T k0 13) (x1 : Int32).toNatClampNeg) / 2)) fun S15 => zgd (zin x1 8) (zlet (zI S15 (zr T k0 14) (x1 : Int32).toNatClampNeg x2) fun S17 => some (1, S17))))) else some (0, S) else fX4_halveOne_b19 T  S
set_option maxHeartbeats 4000000 in
set_option maxRecDepth 100000 in
theorem tX4_halveOne_b19 (T : zT)  (S : zS)  {g : zG} (r : (Int32 × zS)) (h : fX4_halveOne_b19 T  S = some r)  : zg g 2 mX4_halveOne T 19 [none, none, none, none, none] [] T S (some (.int r.1)) T r.2 := by
  unfold fX4_halveOne_b19 at h
  refine z_iconst dX4_halveOne_19 cI_0 ?_
  cases h
  exact z_zret rfl (Or.inl rfl) dX4_halveOne_20
set_option maxHeartbeats 4000000 in
set_option maxRecDepth 100000 in
theorem tX4_halveOne (T : zT) (k0 : Nat) (x1 : Int32) (x2 : Int32) (S : zS) (h0 : iX4 T k0) (r : Int32 × zS) (h : fX4_halveOne T k0 x1 x2 S = some r) : zGM 2 mX4_halveOne [.ref k0, .int x1, .int x2] T S (some (.int r.1)) T r.2 := by
  refine zGM_of zpnX4 rfl (Nat.le_of_ble_eq_true rfl) (fun g => ?_)
  show zg g 2 mX4_halveOne T 0 [some (.ref k0), some (.int x1), some (.int x2), none, none] [] T S (some (.int r.1)) T r.2
  unfold fX4_halveOne at h
  refine z_aload_n dX4_halveOne_0 rfl ?_
  refine z_iload_n dX4_halveOne_1 rfl ?_
  obtain ⟨r1, hc2, h⟩ := zb1_elim h
  refine z_callV (As := [.int x1]) zcX4 zkX4_158 ziX4_isIn zqX4_isIn h0.1 (tX4_isIn T k0 x1 S h0 r1 hc2) rfl rfl (Nat.le_of_ble_eq_true rfl) (by decide) ⟨Nat.le_refl _, Nat.le_refl _⟩ ⟨Nat.le_refl _, Nat.le_refl _⟩ dX4_halveOne_2 ?_
  refine z_if_eq (tgt := 19) dX4_halveOne_5 (by decide) (fun q3 => ?_) (fun q3 => ?_)
  · rw [if_pos q3] at h
    exact z_mask [false, false, false, false, false] rfl (tX4_halveOne_b19 T  S  r h)
  · rw [if_neg q3] at h
    refine z_aload_n dX4_halveOne_8 rfl ?_
    refine z_gI (zF.x zfX4_66) h0.1 dX4_halveOne_9 ?_
    refine z_iload_n dX4_halveOne_12 rfl ?_
    refine z_ishr dX4_halveOne_13 rfl ?_
    refine z_iconst dX4_halveOne_14 cI_1 ?_
    refine z_iand dX4_halveOne_15 rfl ?_
    refine z_if_eq (tgt := 21) dX4_halveOne_16 (by decide) (fun q4 => ?_) (fun q4 => ?_)
    · rw [if_pos q4] at h
      refine z_aload_n dX4_halveOne_21 rfl ?_
      refine z_iload_n dX4_halveOne_22 rfl ?_
      refine z_iload_n dX4_halveOne_23 rfl ?_
      obtain ⟨r5, hc6, h⟩ := zb1_elim h
      refine z_callV (As := [.int x1, .int x2]) zcX4 zkX4_161 ziX4_owedNow zqX4_owedNow h0.1 (tX4_owedNow T k0 x1 x2 S h0 r5 hc6) rfl rfl (Nat.le_of_ble_eq_true rfl) (by decide) ⟨Nat.le_refl _, Nat.le_refl _⟩ ⟨Nat.le_refl _, Nat.le_refl _⟩ dX4_halveOne_24 ?_
      refine z_istore_n dX4_halveOne_27 rfl (by decide) rfl ?_
      refine z_iload_n dX4_halveOne_28 rfl ?_
      refine z_iconst dX4_halveOne_29 cI_1 ?_
      refine z_iadd dX4_halveOne_30 rfl ?_
      refine z_iconst dX4_halveOne_31 cI_2 ?_
      refine z_idiv dX4_halveOne_32 (by decide) rfl ?_
      obtain ⟨u7, eu7, h⟩ := zlet_elim h
      refine z_ti eu7 ?_
      refine z_istore dX4_halveOne_33 rfl (by decide) rfl ?_
      refine z_aload_n dX4_halveOne_35 rfl ?_
      refine z_gI (zF.x zfX4_50) h0.1 dX4_halveOne_36 ?_
      refine z_iload dX4_halveOne_39 rfl ?_
      refine z_icmp_ge (tgt := 46) dX4_halveOne_41 (by decide) (fun q8 => ?_) (fun q8 => ?_)
      · rw [if_pos q8] at h
        refine z_aload_n dX4_halveOne_46 rfl ?_
        refine z_dup dX4_halveOne_47 rfl ?_
        refine z_gI (zF.x zfX4_50) h0.1 dX4_halveOne_48 ?_
        refine z_iload dX4_halveOne_51 rfl ?_
        refine z_isub dX4_halveOne_53 rfl ?_
        refine z_putI zfX4_50 h0.1 dX4_halveOne_54 ?_
        obtain ⟨S9, eS9, h⟩ := zlet_elim h
        refine z_tS eS9 ?_
        refine z_aload_n dX4_halveOne_57 rfl ?_
        refine z_dup dX4_halveOne_58 rfl ?_
        refine z_gI (zF.x zfX4_66) h0.1 dX4_halveOne_59 ?_
        refine z_iconst dX4_halveOne_62 cI_1 ?_
        refine z_iload_n dX4_halveOne_63 rfl ?_
        refine z_ishl dX4_halveOne_64 rfl ?_
        refine z_ior dX4_halveOne_65 rfl ?_
        refine z_putI zfX4_66 h0.1 dX4_halveOne_66 ?_
        obtain ⟨S10, eS10, h⟩ := zlet_elim h
        refine z_tS eS10 ?_
        refine z_aload_n dX4_halveOne_69 rfl ?_
        refine z_gA (zF.x zfX4_35) h0.1 dX4_halveOne_70 ?_
        refine z_iload_n dX4_halveOne_73 rfl ?_
        refine z_iload_n dX4_halveOne_74 rfl ?_
        refine z_iload dX4_halveOne_75 rfl ?_
        refine z_isub dX4_halveOne_77 rfl ?_
        obtain ⟨q11, h⟩ := zgd_elim h
        refine z_iast h0.2.2.2.2.2.2.2.1 (zin_ok q11) dX4_halveOne_78 ?_
        obtain ⟨S12, eS12, h⟩ := zlet_elim h
        refine z_tS eS12 ?_
        refine z_aload_n dX4_halveOne_79 rfl ?_
        refine z_gA (zF.x zfX4_38) h0.1 dX4_halveOne_80 ?_
        refine z_iload_n dX4_halveOne_83 rfl ?_
        refine z_aload_n dX4_halveOne_84 rfl ?_
        refine z_gA (zF.x zfX4_38) h0.1 dX4_halveOne_85 ?_
        refine z_iload_n dX4_halveOne_88 rfl ?_
        obtain ⟨q13, h⟩ := zgd_elim h
        refine z_iald h0.2.2.2.2.2.2.2.2.1 (zin_ok q13) dX4_halveOne_89 ?_
        refine z_iconst dX4_halveOne_90 cI_2 ?_
        refine z_idiv dX4_halveOne_91 (by decide) rfl ?_
        obtain ⟨q14, h⟩ := zgd_elim h
        refine z_iast h0.2.2.2.2.2.2.2.2.1 (zin_ok q14) dX4_halveOne_92 ?_
        obtain ⟨S15, eS15, h⟩ := zlet_elim h
        refine z_tS eS15 ?_
        refine z_aload_n dX4_halveOne_93 rfl ?_
        refine z_gA (zF.x zfX4_41) h0.1 dX4_halveOne_94 ?_
        refine z_iload_n dX4_halveOne_97 rfl ?_
        refine z_iload_n dX4_halveOne_98 rfl ?_
        obtain ⟨q16, h⟩ := zgd_elim h
        refine z_iast h0.2.2.2.2.2.2.2.2.2 (zin_ok q16) dX4_halveOne_99 ?_
        obtain ⟨S17, eS17, h⟩ := zlet_elim h
        refine z_tS eS17 ?_
        refine z_iconst dX4_halveOne_100 cI_1 ?_
        cases h
        exact z_zret rfl (Or.inr rfl) dX4_halveOne_101
      · rw [if_neg q8] at h
        refine z_iconst dX4_halveOne_44 cI_0 ?_
        cases h
        exact z_zret rfl (Or.inl rfl) dX4_halveOne_45
    · rw [if_neg q4] at h
      exact z_mask [false, false, false, false, false] rfl (tX4_halveOne_b19 T  S  r h)
/-! X0_earnings -/
noncomputable def fX0_earnings (T : zT) (k0 : Nat) (k1 : Nat) (x2 : Int32) (x3 : Int32) (x4 : Int32) (S : zS) : Option (Int32 × zS) :=
  zb (fX9_place T k1 x2 x3 x4 S) fun _ S3 => zb (fX1_holding T (zr T k0 12) (zr T k0 14) k1 S3) fun r4 S6 => zb1 (fX1_together T (zr T k0 12) r4 x3 S6) fun r7 => some (r7, S6)
set_option maxHeartbeats 4000000 in
set_option maxRecDepth 100000 in
theorem tX0_earnings (T : zT) (k0 : Nat) (k1 : Nat) (x2 : Int32) (x3 : Int32) (x4 : Int32) (S : zS) (h0 : iX0 T k0) (h1 : iX9 T k1) (r : Int32 × zS) (h : fX0_earnings T k0 k1 x2 x3 x4 S = some r) : zGM 3 mX0_earnings [.ref k0, .ref k1, .int x2, .int x3, .int x4] T S (some (.int r.1)) T r.2 := by
  refine zGM_of zpnX0 rfl (Nat.le_of_ble_eq_true rfl) (fun g => ?_)
  show zg g 3 mX0_earnings T 0 [some (.ref k0), some (.ref k1), some (.int x2), some (.int x3), some (.int x4)] [] T S (some (.int r.1)) T r.2
  unfold fX0_earnings at h
  refine z_aload_n dX0_earnings_0 rfl ?_
  refine z_iload_n dX0_earnings_1 rfl ?_
  refine z_iload_n dX0_earnings_2 rfl ?_
  refine z_iload dX0_earnings_3 rfl ?_
  obtain ⟨r1, S3, hc2, h⟩ := zb_elim h
  refine z_callV (As := [.int x2, .int x3, .int x4]) zcX9 zkX0_90 ziX9_place zqX9_place h1.1 (tX9_place T k1 x2 x3 x4 S h1 (r1, S3) hc2) rfl rfl (Nat.le_of_ble_eq_true rfl) (by decide) ⟨Nat.le_refl _, Nat.le_refl _⟩ ⟨Nat.le_refl _, Nat.le_refl _⟩ dX0_earnings_5 ?_
  refine z_aload_n dX0_earnings_8 rfl ?_
  refine z_gR (zF.x zfX0_33) h0.1 dX0_earnings_9 ?_
  refine z_aload_n dX0_earnings_12 rfl ?_
  refine z_gR (zF.x zfX0_33) h0.1 dX0_earnings_13 ?_
  refine z_aload_n dX0_earnings_16 rfl ?_
  refine z_gR (zF.x zfX0_43) h0.1 dX0_earnings_17 ?_
  refine z_aload_n dX0_earnings_20 rfl ?_
  obtain ⟨r4, S6, hc5, h⟩ := zb_elim h
  refine z_callV (As := [.ref (zr T k0 14), .ref k1]) zcX1 zkX0_96 ziX1_holding zqX1_holding h0.2.2.2.2.2.2.2.1.1 (tX1_holding T (zr T k0 12) (zr T k0 14) k1 S3 h0.2.2.2.2.2.2.2.1 h0.2.2.2.2.2.2.2.2.2 h1 (r4, S6) hc5) rfl rfl (Nat.le_of_ble_eq_true rfl) (by decide) ⟨Nat.le_refl _, Nat.le_refl _⟩ ⟨Nat.le_refl _, Nat.le_refl _⟩ dX0_earnings_21 ?_
  refine z_iload_n dX0_earnings_24 rfl ?_
  obtain ⟨r7, hc8, h⟩ := zb1_elim h
  refine z_callV (As := [.int r4, .int x3]) zcX1 zkX0_100 ziX1_together zqX1_together h0.2.2.2.2.2.2.2.1.1 (tX1_together T (zr T k0 12) r4 x3 S6 h0.2.2.2.2.2.2.2.1 r7 hc8) rfl rfl (Nat.le_of_ble_eq_true rfl) (by decide) ⟨Nat.le_refl _, Nat.le_refl _⟩ ⟨Nat.le_refl _, Nat.le_refl _⟩ dX0_earnings_25 ?_
  cases h
  exact z_iret rfl dX0_earnings_28
/-! X0_needing -/
noncomputable def fX0_needing (T : zT) (k0 : Nat) (k1 : Nat) (x2 : Int32) (x3 : Int32) (x4 : Int32) (S : zS) : Option (Int32 × zS) :=
  zb (fX9_place T k1 x2 x3 x4 S) fun _ S3 => zb (fX1_holding T (zr T k0 13) (zr T k0 14) k1 S3) fun r4 S6 => zb1 (fX1_together T (zr T k0 13) r4 x3 S6) fun r7 => some (r7, S6)
set_option maxHeartbeats 4000000 in
set_option maxRecDepth 100000 in
theorem tX0_needing (T : zT) (k0 : Nat) (k1 : Nat) (x2 : Int32) (x3 : Int32) (x4 : Int32) (S : zS) (h0 : iX0 T k0) (h1 : iX9 T k1) (r : Int32 × zS) (h : fX0_needing T k0 k1 x2 x3 x4 S = some r) : zGM 3 mX0_needing [.ref k0, .ref k1, .int x2, .int x3, .int x4] T S (some (.int r.1)) T r.2 := by
  refine zGM_of zpnX0 rfl (Nat.le_of_ble_eq_true rfl) (fun g => ?_)
  show zg g 3 mX0_needing T 0 [some (.ref k0), some (.ref k1), some (.int x2), some (.int x3), some (.int x4)] [] T S (some (.int r.1)) T r.2
  unfold fX0_needing at h
  refine z_aload_n dX0_needing_0 rfl ?_
  refine z_iload_n dX0_needing_1 rfl ?_
  refine z_iload_n dX0_needing_2 rfl ?_
  refine z_iload dX0_needing_3 rfl ?_
  obtain ⟨r1, S3, hc2, h⟩ := zb_elim h
  refine z_callV (As := [.int x2, .int x3, .int x4]) zcX9 zkX0_90 ziX9_place zqX9_place h1.1 (tX9_place T k1 x2 x3 x4 S h1 (r1, S3) hc2) rfl rfl (Nat.le_of_ble_eq_true rfl) (by decide) ⟨Nat.le_refl _, Nat.le_refl _⟩ ⟨Nat.le_refl _, Nat.le_refl _⟩ dX0_needing_5 ?_
  refine z_aload_n dX0_needing_8 rfl ?_
  refine z_gR (zF.x zfX0_37) h0.1 dX0_needing_9 ?_
  refine z_aload_n dX0_needing_12 rfl ?_
  refine z_gR (zF.x zfX0_37) h0.1 dX0_needing_13 ?_
  refine z_aload_n dX0_needing_16 rfl ?_
  refine z_gR (zF.x zfX0_43) h0.1 dX0_needing_17 ?_
  refine z_aload_n dX0_needing_20 rfl ?_
  obtain ⟨r4, S6, hc5, h⟩ := zb_elim h
  refine z_callV (As := [.ref (zr T k0 14), .ref k1]) zcX1 zkX0_96 ziX1_holding zqX1_holding h0.2.2.2.2.2.2.2.2.1.1 (tX1_holding T (zr T k0 13) (zr T k0 14) k1 S3 h0.2.2.2.2.2.2.2.2.1 h0.2.2.2.2.2.2.2.2.2 h1 (r4, S6) hc5) rfl rfl (Nat.le_of_ble_eq_true rfl) (by decide) ⟨Nat.le_refl _, Nat.le_refl _⟩ ⟨Nat.le_refl _, Nat.le_refl _⟩ dX0_needing_21 ?_
  refine z_iload_n dX0_needing_24 rfl ?_
  obtain ⟨r7, hc8, h⟩ := zb1_elim h
  refine z_callV (As := [.int r4, .int x3]) zcX1 zkX0_100 ziX1_together zqX1_together h0.2.2.2.2.2.2.2.2.1.1 (tX1_together T (zr T k0 13) r4 x3 S6 h0.2.2.2.2.2.2.2.2.1 r7 hc8) rfl rfl (Nat.le_of_ble_eq_true rfl) (by decide) ⟨Nat.le_refl _, Nat.le_refl _⟩ ⟨Nat.le_refl _, Nat.le_refl _⟩ dX0_needing_25 ?_
  cases h
  exact z_iret rfl dX0_needing_28
/-! X4_doAct -/
noncomputable def fX4_doAct (T : zT) (k0 : Nat) (x1 : Int32) (x2 : Int32) (x3 : Int32) (S : zS) : Option (Int32 × zS) :=
  if x1 = 0 then zb (fX4_fetchOne T k0 x2 x3 S) fun r2 S4 => zgd (zbl r2) (some (r2, S4)) else if x1 = 1 then zb (fX4_putOne T k0 x2 x3 S) fun r7 S9 => zgd (zbl r7) (some (r7, S9)) else if x1 = 2 then zb (fX4_sellOne T k0 x2 S) fun r12 S14 => zgd (zbl r12) (some (r12, S14)) else if x1 = 3 then zb (fX4_halveOne T k0 x2 x3 S) fun r17 S19 => zgd (zbl r17) (some (r17, S19)) else if x1 = 4 then zb (fX4_borrowOnce T k0 x3 S) fun r22 S24 => zgd (zbl r22) (some (r22, S24)) else some (0, S)
set_option maxHeartbeats 4000000 in
set_option maxRecDepth 100000 in
theorem tX4_doAct (T : zT) (k0 : Nat) (x1 : Int32) (x2 : Int32) (x3 : Int32) (S : zS) (h0 : iX4 T k0) (r : Int32 × zS) (h : fX4_doAct T k0 x1 x2 x3 S = some r) : zGM 3 mX4_doAct [.ref k0, .int x1, .int x2, .int x3] T S (some (.int r.1)) T r.2 := by
  refine zGM_of zpnX4 rfl (Nat.le_of_ble_eq_true rfl) (fun g => ?_)
  show zg g 3 mX4_doAct T 0 [some (.ref k0), some (.int x1), some (.int x2), some (.int x3)] [] T S (some (.int r.1)) T r.2
  unfold fX4_doAct at h
  refine z_iload_n dX4_doAct_0 rfl ?_
  by_cases q1 : x1 = 0
  · rw [if_pos q1] at h
    refine z_tableIn (off := 35) (tgt := 36) dX4_doAct_1 (by show ¬ x1.toInt < 0; rw [q1]; decide) (by show ¬ 4 < x1.toInt; rw [q1]; decide) (by rw [q1]; rfl) (by decide) ?_
    refine z_aload_n dX4_doAct_36 rfl ?_
    refine z_iload_n dX4_doAct_37 rfl ?_
    refine z_iload_n dX4_doAct_38 rfl ?_
    obtain ⟨r2, S4, hc3, h⟩ := zb_elim h
    refine z_callV (As := [.int x2, .int x3]) zcX4 zkX4_106 ziX4_fetchOne zqX4_fetchOne h0.1 (tX4_fetchOne T k0 x2 x3 S h0 (r2, S4) hc3) rfl rfl (Nat.le_of_ble_eq_true rfl) (by decide) ⟨Nat.le_refl _, Nat.le_refl _⟩ ⟨Nat.le_refl _, Nat.le_refl _⟩ dX4_doAct_39 ?_
    obtain ⟨q5, h⟩ := zgd_elim h
    cases h
    exact z_zret rfl (zbl_ok q5) dX4_doAct_42
  rw [if_neg q1] at h
  by_cases q6 : x1 = 1
  · rw [if_pos q6] at h
    refine z_tableIn (off := 42) (tgt := 43) dX4_doAct_1 (by show ¬ x1.toInt < 0; rw [q6]; decide) (by show ¬ 4 < x1.toInt; rw [q6]; decide) (by rw [q6]; rfl) (by decide) ?_
    refine z_aload_n dX4_doAct_43 rfl ?_
    refine z_iload_n dX4_doAct_44 rfl ?_
    refine z_iload_n dX4_doAct_45 rfl ?_
    obtain ⟨r7, S9, hc8, h⟩ := zb_elim h
    refine z_callV (As := [.int x2, .int x3]) zcX4 zkX4_145 ziX4_putOne zqX4_putOne h0.1 (tX4_putOne T k0 x2 x3 S h0 (r7, S9) hc8) rfl rfl (Nat.le_of_ble_eq_true rfl) (by decide) ⟨Nat.le_refl _, Nat.le_refl _⟩ ⟨Nat.le_refl _, Nat.le_refl _⟩ dX4_doAct_46 ?_
    obtain ⟨q10, h⟩ := zgd_elim h
    cases h
    exact z_zret rfl (zbl_ok q10) dX4_doAct_49
  rw [if_neg q6] at h
  by_cases q11 : x1 = 2
  · rw [if_pos q11] at h
    refine z_tableIn (off := 49) (tgt := 50) dX4_doAct_1 (by show ¬ x1.toInt < 0; rw [q11]; decide) (by show ¬ 4 < x1.toInt; rw [q11]; decide) (by rw [q11]; rfl) (by decide) ?_
    refine z_aload_n dX4_doAct_50 rfl ?_
    refine z_iload_n dX4_doAct_51 rfl ?_
    obtain ⟨r12, S14, hc13, h⟩ := zb_elim h
    refine z_callV (As := [.int x2]) zcX4 zkX4_148 ziX4_sellOne zqX4_sellOne h0.1 (tX4_sellOne T k0 x2 S h0 (r12, S14) hc13) rfl rfl (Nat.le_of_ble_eq_true rfl) (by decide) ⟨Nat.le_refl _, Nat.le_refl _⟩ ⟨Nat.le_refl _, Nat.le_refl _⟩ dX4_doAct_52 ?_
    obtain ⟨q15, h⟩ := zgd_elim h
    cases h
    exact z_zret rfl (zbl_ok q15) dX4_doAct_55
  rw [if_neg q11] at h
  by_cases q16 : x1 = 3
  · rw [if_pos q16] at h
    refine z_tableIn (off := 55) (tgt := 56) dX4_doAct_1 (by show ¬ x1.toInt < 0; rw [q16]; decide) (by show ¬ 4 < x1.toInt; rw [q16]; decide) (by rw [q16]; rfl) (by decide) ?_
    refine z_aload_n dX4_doAct_56 rfl ?_
    refine z_iload_n dX4_doAct_57 rfl ?_
    refine z_iload_n dX4_doAct_58 rfl ?_
    obtain ⟨r17, S19, hc18, h⟩ := zb_elim h
    refine z_callV (As := [.int x2, .int x3]) zcX4 zkX4_152 ziX4_halveOne zqX4_halveOne h0.1 (tX4_halveOne T k0 x2 x3 S h0 (r17, S19) hc18) rfl rfl (Nat.le_of_ble_eq_true rfl) (by decide) ⟨Nat.le_refl _, Nat.le_refl _⟩ ⟨Nat.le_refl _, Nat.le_refl _⟩ dX4_doAct_59 ?_
    obtain ⟨q20, h⟩ := zgd_elim h
    cases h
    exact z_zret rfl (zbl_ok q20) dX4_doAct_62
  rw [if_neg q16] at h
  by_cases q21 : x1 = 4
  · rw [if_pos q21] at h
    refine z_tableIn (off := 62) (tgt := 63) dX4_doAct_1 (by show ¬ x1.toInt < 0; rw [q21]; decide) (by show ¬ 4 < x1.toInt; rw [q21]; decide) (by rw [q21]; rfl) (by decide) ?_
    refine z_aload_n dX4_doAct_63 rfl ?_
    refine z_iload_n dX4_doAct_64 rfl ?_
    obtain ⟨r22, S24, hc23, h⟩ := zb_elim h
    refine z_callV (As := [.int x3]) zcX4 zkX4_155 ziX4_borrowOnce zqX4_borrowOnce h0.1 (tX4_borrowOnce T k0 x3 S h0 (r22, S24) hc23) rfl rfl (Nat.le_of_ble_eq_true rfl) (by decide) ⟨Nat.le_refl _, Nat.le_refl _⟩ ⟨Nat.le_refl _, Nat.le_refl _⟩ dX4_doAct_65 ?_
    obtain ⟨q25, h⟩ := zgd_elim h
    cases h
    exact z_zret rfl (zbl_ok q25) dX4_doAct_68
  rw [if_neg q21] at h
  have q1i : ¬ x1.toInt = 0 := zneI q1 (by decide)
  have q6i : ¬ x1.toInt = 1 := zneI q6 (by decide)
  have q11i : ¬ x1.toInt = 2 := zneI q11 (by decide)
  have q16i : ¬ x1.toInt = 3 := zneI q16 (by decide)
  have q21i : ¬ x1.toInt = 4 := zneI q21 (by decide)
  refine z_tableOut (tgt := 69) dX4_doAct_1 (by show x1.toInt < 0 ∨ 4 < x1.toInt; omega) (by decide) ?_
  refine z_iconst dX4_doAct_69 cI_0 ?_
  cases h
  exact z_zret rfl (Or.inl rfl) dX4_doAct_70
/-! X4_endWeek -/
noncomputable def fX4_endWeek_b106 (T : zT) (k0 : Nat) (x1 : Int32) (S : zS) : Option (Unit × zS) :=
  zlet (zI S k0 8 (x1 + 1)) fun S10 => some ((), S10)
noncomputable def fX4_endWeek_b35 (T : zT) (k0 : Nat) (x1 : Int32) (x3 : Int32) (S : zS) : Option (Unit × zS) :=
  zb (fX0_needing T (zr T k0 0) (zr T k0 1) x1 (S.1 k0 4) x3 S) fun r4 S6 => if r4 ≤ (S6.1 k0 3) then zlet (zI S6 k0 3 ((S6.1 k0 3) - r4)) fun S8 => if 60 ≤ x1 then fX4_endWeek_b106 T k0 x1 S8 else zgd (zin x1 60) (zlet (zI S8 (zr T k0 9) (x1 : Int32).toNatClampNeg (S8.1 k0 3)) fun S12 => zgd (zin x1 60) (zlet (zI S12 (zr T k0 10) (x1 : Int32).toNatClampNeg (S12.1 k0 4)) fun S14 => fX4_endWeek_b106 T k0 x1 S14)) else zlet (zI S6 k0 7 x1) fun S15 => some ((), S15)
noncomputable def fX4_endWeek (T : zT) (k0 : Nat) (x1 : Int32) (x2 : Int32) (S : zS) : Option (Unit × zS) :=
  zb1 (fX4_thingsIn T k0 S) fun r1 => if x2 = 0 then fX4_endWeek_b35 T k0 x1 r1 S else zb (fX0_earnings T (zr T k0 0) (zr T k0 1) x1 (S.1 k0 4) r1 S) fun r16 S18 => zlet (zI S18 k0 3 ((S.1 k0 3) + r16)) fun S19 => fX4_endWeek_b35 T k0 x1 r1 S19
set_option maxHeartbeats 4000000 in
set_option maxRecDepth 100000 in
theorem tX4_endWeek_b106 (T : zT) (k0 : Nat) (x1 : Int32) (S : zS) (h0 : iX4 T k0) {g : zG} (r : (Unit × zS)) (h : fX4_endWeek_b106 T k0 x1 S = some r)  : zg g 4 mX4_endWeek T 106 [some (.ref k0), some (.int x1), none, none, none] [] T S none T r.2 := by
  unfold fX4_endWeek_b106 at h
  refine z_aload_n dX4_endWeek_106 rfl ?_
  refine z_iload_n dX4_endWeek_107 rfl ?_
  refine z_iconst dX4_endWeek_108 cI_1 ?_
  refine z_iadd dX4_endWeek_109 rfl ?_
  refine z_putI zfX4_63 h0.1 dX4_endWeek_110 ?_
  obtain ⟨S10, eS10, h⟩ := zlet_elim h
  refine z_tS eS10 ?_
  cases h
  exact z_vret rfl dX4_endWeek_113
set_option maxHeartbeats 4000000 in
set_option maxRecDepth 100000 in
theorem tX4_endWeek_b35 (T : zT) (k0 : Nat) (x1 : Int32) (x3 : Int32) (S : zS) (h0 : iX4 T k0) {g : zG} (r : (Unit × zS)) (h : fX4_endWeek_b35 T k0 x1 x3 S = some r)  : zg g 4 mX4_endWeek T 35 [some (.ref k0), some (.int x1), none, some (.int x3), none] [] T S none T r.2 := by
  unfold fX4_endWeek_b35 at h
  refine z_aload_n dX4_endWeek_35 rfl ?_
  refine z_gR (zF.x zfX4_9) h0.1 dX4_endWeek_36 ?_
  refine z_aload_n dX4_endWeek_39 rfl ?_
  refine z_gR (zF.x zfX4_15) h0.1 dX4_endWeek_40 ?_
  refine z_iload_n dX4_endWeek_43 rfl ?_
  refine z_aload_n dX4_endWeek_44 rfl ?_
  refine z_gI (zF.x zfX4_51) h0.1 dX4_endWeek_45 ?_
  refine z_iload_n dX4_endWeek_48 rfl ?_
  obtain ⟨r4, S6, hc5, h⟩ := zb_elim h
  refine z_callV (As := [.ref (zr T k0 1), .int x1, .int (S.1 k0 4), .int x3]) zcX0 zkX4_128 ziX0_needing zqX0_needing h0.2.1.1 (tX0_needing T (zr T k0 0) (zr T k0 1) x1 (S.1 k0 4) x3 S h0.2.1 h0.2.2.1 (r4, S6) hc5) rfl rfl (Nat.le_of_ble_eq_true rfl) (by decide) ⟨Nat.le_refl _, Nat.le_refl _⟩ ⟨Nat.le_refl _, Nat.le_refl _⟩ dX4_endWeek_49 ?_
  refine z_istore dX4_endWeek_52 rfl (by decide) rfl ?_
  refine z_aload_n dX4_endWeek_54 rfl ?_
  refine z_gI (zF.x zfX4_50) h0.1 dX4_endWeek_55 ?_
  refine z_iload dX4_endWeek_58 rfl ?_
  refine z_icmp_ge (tgt := 69) dX4_endWeek_60 (by decide) (fun q7 => ?_) (fun q7 => ?_)
  · rw [if_pos q7] at h
    refine z_aload_n dX4_endWeek_69 rfl ?_
    refine z_dup dX4_endWeek_70 rfl ?_
    refine z_gI (zF.x zfX4_50) h0.1 dX4_endWeek_71 ?_
    refine z_iload dX4_endWeek_74 rfl ?_
    refine z_isub dX4_endWeek_76 rfl ?_
    refine z_putI zfX4_50 h0.1 dX4_endWeek_77 ?_
    obtain ⟨S8, eS8, h⟩ := zlet_elim h
    refine z_tS eS8 ?_
    refine z_iload_n dX4_endWeek_80 rfl ?_
    refine z_bipush dX4_endWeek_81 cB_60 ?_
    refine z_icmp_ge (tgt := 106) dX4_endWeek_83 (by decide) (fun q9 => ?_) (fun q9 => ?_)
    · rw [if_pos q9] at h
      exact z_mask [true, true, false, false, false] rfl (tX4_endWeek_b106 T k0 x1 S8 h0 r h)
    · rw [if_neg q9] at h
      refine z_aload_n dX4_endWeek_86 rfl ?_
      refine z_gA (zF.x zfX4_25) h0.1 dX4_endWeek_87 ?_
      refine z_iload_n dX4_endWeek_90 rfl ?_
      refine z_aload_n dX4_endWeek_91 rfl ?_
      refine z_gI (zF.x zfX4_50) h0.1 dX4_endWeek_92 ?_
      obtain ⟨q11, h⟩ := zgd_elim h
      refine z_iast h0.2.2.2.2.1 (zin_ok q11) dX4_endWeek_95 ?_
      obtain ⟨S12, eS12, h⟩ := zlet_elim h
      refine z_tS eS12 ?_
      refine z_aload_n dX4_endWeek_96 rfl ?_
      refine z_gA (zF.x zfX4_29) h0.1 dX4_endWeek_97 ?_
      refine z_iload_n dX4_endWeek_100 rfl ?_
      refine z_aload_n dX4_endWeek_101 rfl ?_
      refine z_gI (zF.x zfX4_51) h0.1 dX4_endWeek_102 ?_
      obtain ⟨q13, h⟩ := zgd_elim h
      refine z_iast h0.2.2.2.2.2.1 (zin_ok q13) dX4_endWeek_105 ?_
      obtain ⟨S14, eS14, h⟩ := zlet_elim h
      refine z_tS eS14 ?_
      exact z_mask [true, true, false, false, false] rfl (tX4_endWeek_b106 T k0 x1 S14 h0 r h)
  · rw [if_neg q7] at h
    refine z_aload_n dX4_endWeek_63 rfl ?_
    refine z_iload_n dX4_endWeek_64 rfl ?_
    refine z_putI zfX4_60 h0.1 dX4_endWeek_65 ?_
    obtain ⟨S15, eS15, h⟩ := zlet_elim h
    refine z_tS eS15 ?_
    cases h
    exact z_vret rfl dX4_endWeek_68
set_option maxHeartbeats 4000000 in
set_option maxRecDepth 100000 in
theorem tX4_endWeek (T : zT) (k0 : Nat) (x1 : Int32) (x2 : Int32) (S : zS) (h0 : iX4 T k0) (r : Unit × zS) (h : fX4_endWeek T k0 x1 x2 S = some r) : zGM 4 mX4_endWeek [.ref k0, .int x1, .int x2] T S none T r.2 := by
  refine zGM_of zpnX4 rfl (Nat.le_of_ble_eq_true rfl) (fun g => ?_)
  show zg g 4 mX4_endWeek T 0 [some (.ref k0), some (.int x1), some (.int x2), none, none] [] T S none T r.2
  unfold fX4_endWeek at h
  refine z_aload_n dX4_endWeek_0 rfl ?_
  obtain ⟨r1, hc2, h⟩ := zb1_elim h
  refine z_callV (As := []) zcX4 zkX4_120 ziX4_thingsIn zqX4_thingsIn h0.1 (tX4_thingsIn T k0 S h0 r1 hc2) rfl rfl (Nat.le_of_ble_eq_true rfl) (by decide) ⟨Nat.le_refl _, Nat.le_refl _⟩ ⟨Nat.le_refl _, Nat.le_refl _⟩ dX4_endWeek_1 ?_
  refine z_istore_n dX4_endWeek_4 rfl (by decide) rfl ?_
  refine z_iload_n dX4_endWeek_5 rfl ?_
  refine z_if_eq (tgt := 35) dX4_endWeek_6 (by decide) (fun q3 => ?_) (fun q3 => ?_)
  · rw [if_pos q3] at h
    exact z_mask [true, true, false, true, false] rfl (tX4_endWeek_b35 T k0 x1 r1 S h0 r h)
  · rw [if_neg q3] at h
    refine z_aload_n dX4_endWeek_9 rfl ?_
    refine z_dup dX4_endWeek_10 rfl ?_
    refine z_gI (zF.x zfX4_50) h0.1 dX4_endWeek_11 ?_
    refine z_aload_n dX4_endWeek_14 rfl ?_
    refine z_gR (zF.x zfX4_9) h0.1 dX4_endWeek_15 ?_
    refine z_aload_n dX4_endWeek_18 rfl ?_
    refine z_gR (zF.x zfX4_15) h0.1 dX4_endWeek_19 ?_
    refine z_iload_n dX4_endWeek_22 rfl ?_
    refine z_aload_n dX4_endWeek_23 rfl ?_
    refine z_gI (zF.x zfX4_51) h0.1 dX4_endWeek_24 ?_
    refine z_iload_n dX4_endWeek_27 rfl ?_
    obtain ⟨r16, S18, hc17, h⟩ := zb_elim h
    refine z_callV (As := [.ref (zr T k0 1), .int x1, .int (S.1 k0 4), .int r1]) zcX0 zkX4_124 ziX0_earnings zqX0_earnings h0.2.1.1 (tX0_earnings T (zr T k0 0) (zr T k0 1) x1 (S.1 k0 4) r1 S h0.2.1 h0.2.2.1 (r16, S18) hc17) rfl rfl (Nat.le_of_ble_eq_true rfl) (by decide) ⟨Nat.le_refl _, Nat.le_refl _⟩ ⟨Nat.le_refl _, Nat.le_refl _⟩ dX4_endWeek_28 ?_
    refine z_iadd dX4_endWeek_31 rfl ?_
    refine z_putI zfX4_50 h0.1 dX4_endWeek_32 ?_
    obtain ⟨S19, eS19, h⟩ := zlet_elim h
    refine z_tS eS19 ?_
    exact z_mask [true, true, false, true, false] rfl (tX4_endWeek_b35 T k0 x1 r1 S19 h0 r h)
/-! X4_doActs -/
noncomputable def fX4_doActs_l3 (T : zT) (k0 : Nat) (k1 : Nat) (x3 : Int32) (x4 : Int32) (S : zS) : Option ((Int32 × zS) ⊕ (zS ⊕ ((Int32 × zS) ⊕ (Int32 × zS)))) :=
  if x4 < 0 then some (.inr (.inl S)) else if (S.1 k1 3) ≤ x4 then some (.inr (.inl S)) else if 60 ≤ x4 then some (.inr (.inl S)) else zgd (zin x4 60) (if (S.1 (zr T k1 0) (x4 : Int32).toNatClampNeg) = x3 then zgd (zin x4 60) (zgd (zin x4 60) (zb (fX4_doAct T k0 (S.1 (zr T k1 1) (x4 : Int32).toNatClampNeg) (S.1 (zr T k1 2) (x4 : Int32).toNatClampNeg) x3 S) fun r8 S10 => if r8 = 0 then some (.inr (.inr (.inr (x4, S10)))) else zlet (x4 + 1) fun u12 => some (.inl (u12, S10)))) else some (.inr (.inr (.inl (x4, S)))))
noncomputable def fX4_doActs_b75 (T : zT) (k1 : Nat) (S : zS) : Option (Int32 × zS) :=
  some ((S.1 k1 3), S)
noncomputable def fX4_doActs (T : zT) (k0 : Nat) (k1 : Nat) (x2 : Int32) (x3 : Int32) (S : zS) : Option (Int32 × zS) :=
  zb1 (lp (fun a => fX4_doActs_l3 T k0 k1 x3 a.1 a.2) (x2, S)) fun e13 => zsm e13 (fun e13_0 => fX4_doActs_b75 T k1 e13_0) (fun e13r1 => zsm e13r1 (fun e13_1 => some (e13_1.1, e13_1.2)) (fun e13_2 => zlet (zI e13_2.2 k0 6 e13_2.1) fun S14 => some (e13_2.1, S14)))
set_option maxHeartbeats 4000000 in
set_option maxRecDepth 100000 in
theorem tX4_doActs_l3b (T : zT) (k0 : Nat) (k1 : Nat) (x3 : Int32) (x4 : Int32) (S : zS) (h0 : iX4 T k0) (h1 : iX7 T k1) {g : zG} {v : Option Value} {S' : zS} (r : (Int32 × zS) ⊕ (zS ⊕ ((Int32 × zS) ⊕ (Int32 × zS)))) (h : fX4_doActs_l3 T k0 k1 x3 x4 S = some r) (K1 : ∀ a : (Int32 × zS), r = .inl a → zg g 4 mX4_doActs T 3 [some (.ref k0), some (.ref k1), none, some (.int x3), some (.int a.1)] [] T a.2 v T S') (K2_0 : ∀ e : zS, r = .inr (.inl e) → zg g 4 mX4_doActs T 75 [none, some (.ref k1), none, none, none] [] T e v T S') (K2_1 : ∀ e : (Int32 × zS), r = .inr (.inr (.inl e)) → zg g 4 mX4_doActs T 35 [none, none, none, none, some (.int e.1)] [] T e.2 v T S') (K2_2 : ∀ e : (Int32 × zS), r = .inr (.inr (.inr e)) → zg g 4 mX4_doActs T 60 [some (.ref k0), none, none, none, some (.int e.1)] [] T e.2 v T S') : zg g 4 mX4_doActs T 3 [some (.ref k0), some (.ref k1), none, some (.int x3), some (.int x4)] [] T S v T S' := by
  unfold fX4_doActs_l3 at h
  refine z_iload dX4_doActs_3 rfl ?_
  refine z_if_lt (tgt := 75) dX4_doActs_5 (by decide) (fun q1 => ?_) (fun q1 => ?_)
  · rw [if_pos q1] at h
    cases h
    exact z_mask [false, true, false, false, false] rfl (K2_0 _ rfl)
  · rw [if_neg q1] at h
    refine z_iload dX4_doActs_8 rfl ?_
    refine z_aload_n dX4_doActs_10 rfl ?_
    refine z_gI (zF.x zfX4_97) h1.1 dX4_doActs_11 ?_
    refine z_icmp_ge (tgt := 75) dX4_doActs_14 (by decide) (fun q2 => ?_) (fun q2 => ?_)
    · rw [if_pos q2] at h
      cases h
      exact z_mask [false, true, false, false, false] rfl (K2_0 _ rfl)
    · rw [if_neg q2] at h
      refine z_iload dX4_doActs_17 rfl ?_
      refine z_bipush dX4_doActs_19 cB_60 ?_
      refine z_icmp_ge (tgt := 75) dX4_doActs_21 (by decide) (fun q3 => ?_) (fun q3 => ?_)
      · rw [if_pos q3] at h
        cases h
        exact z_mask [false, true, false, false, false] rfl (K2_0 _ rfl)
      · rw [if_neg q3] at h
        refine z_aload_n dX4_doActs_24 rfl ?_
        refine z_gA zfX4_134 h1.1 dX4_doActs_25 ?_
        refine z_iload dX4_doActs_28 rfl ?_
        obtain ⟨q4, h⟩ := zgd_elim h
        refine z_iald h1.2.1 (zin_ok q4) dX4_doActs_30 ?_
        refine z_iload_n dX4_doActs_31 rfl ?_
        refine z_icmp_eq (tgt := 38) dX4_doActs_32 (by decide) (fun q5 => ?_) (fun q5 => ?_)
        · rw [if_pos q5] at h
          refine z_aload_n dX4_doActs_38 rfl ?_
          refine z_aload_n dX4_doActs_39 rfl ?_
          refine z_gA zfX4_136 h1.1 dX4_doActs_40 ?_
          refine z_iload dX4_doActs_43 rfl ?_
          obtain ⟨q6, h⟩ := zgd_elim h
          refine z_iald h1.2.2.1 (zin_ok q6) dX4_doActs_45 ?_
          refine z_aload_n dX4_doActs_46 rfl ?_
          refine z_gA zfX4_139 h1.1 dX4_doActs_47 ?_
          refine z_iload dX4_doActs_50 rfl ?_
          obtain ⟨q7, h⟩ := zgd_elim h
          refine z_iald h1.2.2.2 (zin_ok q7) dX4_doActs_52 ?_
          refine z_iload_n dX4_doActs_53 rfl ?_
          obtain ⟨r8, S10, hc9, h⟩ := zb_elim h
          refine z_callV (As := [.int (S.1 (zr T k1 1) (x4 : Int32).toNatClampNeg), .int (S.1 (zr T k1 2) (x4 : Int32).toNatClampNeg), .int x3]) zcX4 zkX4_141 ziX4_doAct zqX4_doAct h0.1 (tX4_doAct T k0 (S.1 (zr T k1 1) (x4 : Int32).toNatClampNeg) (S.1 (zr T k1 2) (x4 : Int32).toNatClampNeg) x3 S h0 (r8, S10) hc9) rfl rfl (Nat.le_of_ble_eq_true rfl) (by decide) ⟨Nat.le_refl _, Nat.le_refl _⟩ ⟨Nat.le_refl _, Nat.le_refl _⟩ dX4_doActs_54 ?_
          refine z_if_ne (tgt := 69) dX4_doActs_57 (by decide) (fun q11 => ?_) (fun q11 => ?_)
          · rw [if_neg q11] at h
            obtain ⟨u12, eu12, h⟩ := zlet_elim h
            refine z_iinc (r := u12) dX4_doActs_69 rfl (by rw [eu12, cI_1]) rfl (by decide) rfl ?_
            refine z_goto (tgt := 3) dX4_doActs_72 (by decide) ?_
            cases h
            exact z_mask [true, true, false, true, true] rfl (K1 _ rfl)
          · rw [if_pos q11] at h
            cases h
            exact z_mask [true, false, false, false, true] rfl (K2_2 _ rfl)
        · rw [if_neg q5] at h
          cases h
          exact z_mask [false, false, false, false, true] rfl (K2_1 _ rfl)
set_option maxHeartbeats 4000000 in
set_option maxRecDepth 100000 in
theorem tX4_doActs_l3 (T : zT) (k0 : Nat) (k1 : Nat) (x3 : Int32) (h0 : iX4 T k0) (h1 : iX7 T k1) {g : zG} {v : Option Value} {S' : zS} : ∀ (n : Nat) (a : (Int32 × zS)) (e : (zS ⊕ ((Int32 × zS) ⊕ (Int32 × zS)))), lpn (fun a => fX4_doActs_l3 T k0 k1 x3 a.1 a.2) n a = some e → (∀ e1 : zS, e = (.inl e1) → zg g 4 mX4_doActs T 75 [none, some (.ref k1), none, none, none] [] T e1 v T S') → (∀ e1 : (Int32 × zS), e = (.inr (.inl e1)) → zg g 4 mX4_doActs T 35 [none, none, none, none, some (.int e1.1)] [] T e1.2 v T S') → (∀ e1 : (Int32 × zS), e = (.inr (.inr e1)) → zg g 4 mX4_doActs T 60 [some (.ref k0), none, none, none, some (.int e1.1)] [] T e1.2 v T S') → zg g 4 mX4_doActs T 3 [some (.ref k0), some (.ref k1), none, some (.int x3), some (.int a.1)] [] T a.2 v T S' := by
  intro n
  induction n with
  | zero =>
    intro a e h
    cases h
  | succ n ih =>
    intro a e h k0_ k1_ k2_
    rcases lpn_succ h with ⟨a1, ha_, hb_⟩ | ha_
    · exact tX4_doActs_l3b T k0 k1 x3 a.1 a.2 h0 h1 _ ha_ (fun a2 q => by cases q; exact ih a1 e hb_ k0_ k1_ k2_) (fun e1 q => by cases q) (fun e1 q => by cases q) (fun e1 q => by cases q)
    · exact tX4_doActs_l3b T k0 k1 x3 a.1 a.2 h0 h1 _ ha_ (fun a2 q => by cases q) (fun e1 q => by cases q; exact k0_ _ rfl) (fun e1 q => by cases q; exact k1_ _ rfl) (fun e1 q => by cases q; exact k2_ _ rfl)
set_option maxHeartbeats 4000000 in
set_option maxRecDepth 100000 in
theorem tX4_doActs_b75 (T : zT) (k1 : Nat) (S : zS) (h1 : iX7 T k1) {g : zG} (r : (Int32 × zS)) (h : fX4_doActs_b75 T k1 S = some r)  : zg g 4 mX4_doActs T 75 [none, some (.ref k1), none, none, none] [] T S (some (.int r.1)) T r.2 := by
  unfold fX4_doActs_b75 at h
  refine z_aload_n dX4_doActs_75 rfl ?_
  refine z_gI (zF.x zfX4_97) h1.1 dX4_doActs_76 ?_
  cases h
  exact z_iret rfl dX4_doActs_79
set_option maxHeartbeats 4000000 in
set_option maxRecDepth 100000 in
theorem tX4_doActs (T : zT) (k0 : Nat) (k1 : Nat) (x2 : Int32) (x3 : Int32) (S : zS) (h0 : iX4 T k0) (h1 : iX7 T k1) (r : Int32 × zS) (h : fX4_doActs T k0 k1 x2 x3 S = some r) : zGM 4 mX4_doActs [.ref k0, .ref k1, .int x2, .int x3] T S (some (.int r.1)) T r.2 := by
  refine zGM_of zpnX4 rfl (Nat.le_of_ble_eq_true rfl) (fun g => ?_)
  show zg g 4 mX4_doActs T 0 [some (.ref k0), some (.ref k1), some (.int x2), some (.int x3), none] [] T S (some (.int r.1)) T r.2
  unfold fX4_doActs at h
  refine z_iload_n dX4_doActs_0 rfl ?_
  refine z_istore dX4_doActs_1 rfl (by decide) rfl ?_
  obtain ⟨e13, hl15, h⟩ := zb1_elim h
  obtain ⟨nf16, hl15⟩ := lp_some hl15
  refine z_mask [true, true, false, true, true] rfl (tX4_doActs_l3 T k0 k1 x3 h0 h1 nf16 (x2, S) e13 hl15 (fun e13_0 q => ?_) (fun e13_1 q => ?_) (fun e13_2 q => ?_))
  · cases q
    replace h := zsm_l h
    exact z_mask [false, true, false, false, false] rfl (tX4_doActs_b75 T k1 e13_0 h1 r h)
  · cases q
    replace h := zsm_r h
    replace h := zsm_l h
    refine z_iload dX4_doActs_35 rfl ?_
    cases h
    exact z_iret rfl dX4_doActs_37
  · cases q
    replace h := zsm_r h
    replace h := zsm_r h
    refine z_aload_n dX4_doActs_60 rfl ?_
    refine z_iload dX4_doActs_61 rfl ?_
    refine z_putI zfX4_57 h0.1 dX4_doActs_63 ?_
    obtain ⟨S14, eS14, h⟩ := zlet_elim h
    refine z_tS eS14 ?_
    refine z_iload dX4_doActs_66 rfl ?_
    cases h
    exact z_iret rfl dX4_doActs_68
/-! X4_liking -/
noncomputable def fX4_liking_b10 (T : zT)  (S : zS) : Option (Int64 × zS) :=
  some (0, S)
noncomputable def fX4_liking_b219 (T : zT) (k0 : Nat) (k1 : Nat) (S : zS) : Option (Int64 × zS) :=
  zb (fX8_valueIn T k1 (zr T k0 2) S) fun r28 S30 => some (r28, S30)
noncomputable def fX4_liking_b106 (T : zT) (k0 : Nat) (k1 : Nat) (x2 : Int32) (x3 : Int32) (x4 : Int32) (s0 : Int64) (s1 : Int32) (s2 : Nat) (m2 : Nat) (S : zS) : Option (Int64 × zS) :=
  zgd (zin s1 m2) (zlet (zJ S s2 (s1 : Int32).toNatClampNeg s0) fun S19 => zgd (zin x2 8) (zgd (zin 13 26) (zlet (zJ S19 (zr T (zr T k0 2) 0) (13 : Int32).toNatClampNeg (((S19.1 (zr T (zr T k0 0) 11) (x2 : Int32).toNatClampNeg) : Int32).toInt64)) fun S22 => zgd (zin 8 26) (zlet (zJ S22 (zr T (zr T k0 2) 0) (8 : Int32).toNatClampNeg (((S22.1 k0 3) : Int32).toInt64)) fun S24 => zb1 (fX2_asks T (zr T k1 4) 25 S24) fun r25 => if r25 = 0 then fX4_liking_b219 T k0 k1 S24 else zlet (1 <<< (x2 &&& 31)) fun u31 => zb (fX0_earnings T (zr T k0 0) (zr T k0 1) x3 (S24.1 k0 4) x4 S24) fun r32 S34 => zb (fX0_earnings T (zr T k0 0) (zr T k0 1) x3 ((S34.1 k0 4) ||| u31) (x4 &&& (u31 ^^^ (-1))) S34) fun r35 S37 => zgd (zin 25 26) (zlet (zJ S37 (zr T (zr T k0 2) 0) (25 : Int32).toNatClampNeg (((r35 - r32) : Int32).toInt64)) fun S39 => fX4_liking_b219 T k0 k1 S39)))))
noncomputable def fX4_liking (T : zT) (k0 : Nat) (k1 : Nat) (x2 : Int32) (x3 : Int32) (S : zS) : Option (Int64 × zS) :=
  if x2 < 0 then fX4_liking_b10 T  S else if x2 < 8 then zb1 (fX4_thingsIn T k0 S) fun r3 => zb (fX9_place T (zr T k0 2) x3 (S.1 k0 4) r3 S) fun _ S7 => zb1 (fX4_owedNow T k0 x2 x3 S7) fun r8 => zgd (zin 22 26) (zlet (zJ S7 (zr T (zr T k0 2) 0) (22 : Int32).toNatClampNeg ((r8 : Int32).toInt64)) fun S11 => zgd (zin x2 8) (zgd (zin 23 26) (zlet (zJ S11 (zr T (zr T k0 2) 0) (23 : Int32).toNatClampNeg (((S11.1 (zr T k0 13) (x2 : Int32).toNatClampNeg) : Int32).toInt64)) fun S14 => zgd (zin x2 8) (if (S14.1 (zr T (zr T k0 0) 8) (x2 : Int32).toNatClampNeg) = (-1) then fX4_liking_b106 T k0 k1 x2 x3 r3 9999 24 (zr T (zr T k0 2) 0) 26 S14 else zgd (zin x2 8) (fX4_liking_b106 T k0 k1 x2 x3 r3 ((((S14.1 (zr T (zr T k0 0) 8) (x2 : Int32).toNatClampNeg) - x3) : Int32).toInt64) 24 (zr T (zr T k0 2) 0) 26 S14))))) else fX4_liking_b10 T  S
set_option maxHeartbeats 4000000 in
set_option maxRecDepth 100000 in
theorem tX4_liking_b10 (T : zT)  (S : zS)  {g : zG} (r : (Int64 × zS)) (h : fX4_liking_b10 T  S = some r)  : zg g 4 mX4_liking T 10 [none, none, none, none, none, none, none] [] T S (some (.long r.1)) T r.2 := by
  unfold fX4_liking_b10 at h
  refine z_lconst (r := 0) dX4_liking_10 rfl ?_
  cases h
  exact z_lret rfl dX4_liking_11
set_option maxHeartbeats 4000000 in
set_option maxRecDepth 100000 in
theorem tX4_liking_b219 (T : zT) (k0 : Nat) (k1 : Nat) (S : zS) (h0 : iX4 T k0) (h1 : iX8 T k1) {g : zG} (r : (Int64 × zS)) (h : fX4_liking_b219 T k0 k1 S = some r)  : zg g 4 mX4_liking T 219 [some (.ref k0), some (.ref k1), none, none, none, none, none] [] T S (some (.long r.1)) T r.2 := by
  unfold fX4_liking_b219 at h
  refine z_aload_n dX4_liking_219 rfl ?_
  refine z_aload_n dX4_liking_220 rfl ?_
  refine z_gR (zF.x zfX4_22) h0.1 dX4_liking_221 ?_
  obtain ⟨r28, S30, hc29, h⟩ := zb_elim h
  refine z_callV (As := [.ref (zr T k0 2)]) zcX8 zkX4_208 ziX8_valueIn zqX8_valueIn h1.1 (tX8_valueIn T k1 (zr T k0 2) S h1 h0.2.2.2.1 (r28, S30) hc29) rfl rfl (Nat.le_of_ble_eq_true rfl) (by decide) ⟨Nat.le_refl _, Nat.le_refl _⟩ ⟨Nat.le_refl _, Nat.le_refl _⟩ dX4_liking_224 ?_
  cases h
  exact z_lret rfl dX4_liking_227
set_option maxHeartbeats 4000000 in
set_option maxRecDepth 100000 in
theorem tX4_liking_b106 (T : zT) (k0 : Nat) (k1 : Nat) (x2 : Int32) (x3 : Int32) (x4 : Int32) (s0 : Int64) (s1 : Int32) (s2 : Nat) (m2 : Nat) (S : zS) (h0 : iX4 T k0) (h1 : iX8 T k1) (g2 : zL T s2 21 m2) {g : zG} (r : (Int64 × zS)) (h : fX4_liking_b106 T k0 k1 x2 x3 x4 s0 s1 s2 m2 S = some r)  : zg g 4 mX4_liking T 106 [some (.ref k0), some (.ref k1), some (.int x2), some (.int x3), some (.int x4), none, none] [.long s0, .int s1, .ref s2] T S (some (.long r.1)) T r.2 := by
  unfold fX4_liking_b106 at h
  obtain ⟨q18, h⟩ := zgd_elim h
  refine z_last g2 (zin_ok q18) dX4_liking_106 ?_
  obtain ⟨S19, eS19, h⟩ := zlet_elim h
  refine z_tS eS19 ?_
  refine z_aload_n dX4_liking_107 rfl ?_
  refine z_gR (zF.x zfX4_22) h0.1 dX4_liking_108 ?_
  refine z_gA zfX4_187 h0.2.2.2.1.1 dX4_liking_111 ?_
  refine z_bipush dX4_liking_114 cB_13 ?_
  refine z_aload_n dX4_liking_116 rfl ?_
  refine z_gR (zF.x zfX4_9) h0.1 dX4_liking_117 ?_
  refine z_gA zfX4_196 h0.2.1.1 dX4_liking_120 ?_
  refine z_iload_n dX4_liking_123 rfl ?_
  obtain ⟨q20, h⟩ := zgd_elim h
  refine z_iald h0.2.1.2.2.2.2.2.2.1 (zin_ok q20) dX4_liking_124 ?_
  refine z_i2l dX4_liking_125 rfl ?_
  obtain ⟨q21, h⟩ := zgd_elim h
  refine z_last h0.2.2.2.1.2.1 (zin_ok q21) dX4_liking_126 ?_
  obtain ⟨S22, eS22, h⟩ := zlet_elim h
  refine z_tS eS22 ?_
  refine z_aload_n dX4_liking_127 rfl ?_
  refine z_gR (zF.x zfX4_22) h0.1 dX4_liking_128 ?_
  refine z_gA zfX4_187 h0.2.2.2.1.1 dX4_liking_131 ?_
  refine z_bipush dX4_liking_134 cB_8 ?_
  refine z_aload_n dX4_liking_136 rfl ?_
  refine z_gI (zF.x zfX4_50) h0.1 dX4_liking_137 ?_
  refine z_i2l dX4_liking_140 rfl ?_
  obtain ⟨q23, h⟩ := zgd_elim h
  refine z_last h0.2.2.2.1.2.1 (zin_ok q23) dX4_liking_141 ?_
  obtain ⟨S24, eS24, h⟩ := zlet_elim h
  refine z_tS eS24 ?_
  refine z_aload_n dX4_liking_142 rfl ?_
  refine z_gR zfX4_199 h1.1 dX4_liking_143 ?_
  refine z_bipush dX4_liking_146 cB_25 ?_
  obtain ⟨r25, hc26, h⟩ := zb1_elim h
  refine z_callV (As := [.int 25]) zcX2 zkX4_203 ziX2_asks zqX2_asks h1.2.2.2.1 (tX2_asks T (zr T k1 4) 25 S24 h1.2.2.2 r25 hc26) rfl rfl (Nat.le_of_ble_eq_true rfl) (by decide) ⟨Nat.le_refl _, Nat.le_refl _⟩ ⟨Nat.le_refl _, Nat.le_refl _⟩ dX4_liking_148 ?_
  refine z_if_eq (tgt := 219) dX4_liking_151 (by decide) (fun q27 => ?_) (fun q27 => ?_)
  · rw [if_pos q27] at h
    exact z_mask [true, true, false, false, false, false, false] rfl (tX4_liking_b219 T k0 k1 S24 h0 h1 r h)
  · rw [if_neg q27] at h
    refine z_iconst dX4_liking_154 cI_1 ?_
    refine z_iload_n dX4_liking_155 rfl ?_
    refine z_ishl dX4_liking_156 rfl ?_
    obtain ⟨u31, eu31, h⟩ := zlet_elim h
    refine z_ti eu31 ?_
    refine z_istore dX4_liking_157 rfl (by decide) rfl ?_
    refine z_aload_n dX4_liking_159 rfl ?_
    refine z_gR (zF.x zfX4_9) h0.1 dX4_liking_160 ?_
    refine z_aload_n dX4_liking_163 rfl ?_
    refine z_gR (zF.x zfX4_15) h0.1 dX4_liking_164 ?_
    refine z_iload_n dX4_liking_167 rfl ?_
    refine z_aload_n dX4_liking_168 rfl ?_
    refine z_gI (zF.x zfX4_51) h0.1 dX4_liking_169 ?_
    refine z_iload dX4_liking_172 rfl ?_
    obtain ⟨r32, S34, hc33, h⟩ := zb_elim h
    refine z_callV (As := [.ref (zr T k0 1), .int x3, .int (S24.1 k0 4), .int x4]) zcX0 zkX4_124 ziX0_earnings zqX0_earnings h0.2.1.1 (tX0_earnings T (zr T k0 0) (zr T k0 1) x3 (S24.1 k0 4) x4 S24 h0.2.1 h0.2.2.1 (r32, S34) hc33) rfl rfl (Nat.le_of_ble_eq_true rfl) (by decide) ⟨Nat.le_refl _, Nat.le_refl _⟩ ⟨Nat.le_refl _, Nat.le_refl _⟩ dX4_liking_174 ?_
    refine z_istore dX4_liking_177 rfl (by decide) rfl ?_
    refine z_aload_n dX4_liking_179 rfl ?_
    refine z_gR (zF.x zfX4_22) h0.1 dX4_liking_180 ?_
    refine z_gA zfX4_187 h0.2.2.2.1.1 dX4_liking_183 ?_
    refine z_bipush dX4_liking_186 cB_25 ?_
    refine z_aload_n dX4_liking_188 rfl ?_
    refine z_gR (zF.x zfX4_9) h0.1 dX4_liking_189 ?_
    refine z_aload_n dX4_liking_192 rfl ?_
    refine z_gR (zF.x zfX4_15) h0.1 dX4_liking_193 ?_
    refine z_iload_n dX4_liking_196 rfl ?_
    refine z_aload_n dX4_liking_197 rfl ?_
    refine z_gI (zF.x zfX4_51) h0.1 dX4_liking_198 ?_
    refine z_iload dX4_liking_201 rfl ?_
    refine z_ior dX4_liking_203 rfl ?_
    refine z_iload dX4_liking_204 rfl ?_
    refine z_iload dX4_liking_206 rfl ?_
    refine z_iconst dX4_liking_208 cI_m1 ?_
    refine z_ixor dX4_liking_209 rfl ?_
    refine z_iand dX4_liking_210 rfl ?_
    obtain ⟨r35, S37, hc36, h⟩ := zb_elim h
    refine z_callV (As := [.ref (zr T k0 1), .int x3, .int ((S34.1 k0 4) ||| u31), .int (x4 &&& (u31 ^^^ (-1)))]) zcX0 zkX4_124 ziX0_earnings zqX0_earnings h0.2.1.1 (tX0_earnings T (zr T k0 0) (zr T k0 1) x3 ((S34.1 k0 4) ||| u31) (x4 &&& (u31 ^^^ (-1))) S34 h0.2.1 h0.2.2.1 (r35, S37) hc36) rfl rfl (Nat.le_of_ble_eq_true rfl) (by decide) ⟨Nat.le_refl _, Nat.le_refl _⟩ ⟨Nat.le_refl _, Nat.le_refl _⟩ dX4_liking_211 ?_
    refine z_iload dX4_liking_214 rfl ?_
    refine z_isub dX4_liking_216 rfl ?_
    refine z_i2l dX4_liking_217 rfl ?_
    obtain ⟨q38, h⟩ := zgd_elim h
    refine z_last h0.2.2.2.1.2.1 (zin_ok q38) dX4_liking_218 ?_
    obtain ⟨S39, eS39, h⟩ := zlet_elim h
    refine z_tS eS39 ?_
    exact z_mask [true, true, false, false, false, false, false] rfl (tX4_liking_b219 T k0 k1 S39 h0 h1 r h)
set_option maxHeartbeats 4000000 in
set_option maxRecDepth 100000 in
theorem tX4_liking (T : zT) (k0 : Nat) (k1 : Nat) (x2 : Int32) (x3 : Int32) (S : zS) (h0 : iX4 T k0) (h1 : iX8 T k1) (r : Int64 × zS) (h : fX4_liking T k0 k1 x2 x3 S = some r) : zGM 4 mX4_liking [.ref k0, .ref k1, .int x2, .int x3] T S (some (.long r.1)) T r.2 := by
  refine zGM_of zpnX4 rfl (Nat.le_of_ble_eq_true rfl) (fun g => ?_)
  show zg g 4 mX4_liking T 0 [some (.ref k0), some (.ref k1), some (.int x2), some (.int x3), none, none, none] [] T S (some (.long r.1)) T r.2
  unfold fX4_liking at h
  refine z_iload_n dX4_liking_0 rfl ?_
  refine z_if_lt (tgt := 10) dX4_liking_1 (by decide) (fun q1 => ?_) (fun q1 => ?_)
  · rw [if_pos q1] at h
    exact z_mask [false, false, false, false, false, false, false] rfl (tX4_liking_b10 T  S  r h)
  · rw [if_neg q1] at h
    refine z_iload_n dX4_liking_4 rfl ?_
    refine z_bipush dX4_liking_5 cB_8 ?_
    refine z_icmp_lt (tgt := 12) dX4_liking_7 (by decide) (fun q2 => ?_) (fun q2 => ?_)
    · rw [if_pos q2] at h
      refine z_aload_n dX4_liking_12 rfl ?_
      obtain ⟨r3, hc4, h⟩ := zb1_elim h
      refine z_callV (As := []) zcX4 zkX4_120 ziX4_thingsIn zqX4_thingsIn h0.1 (tX4_thingsIn T k0 S h0 r3 hc4) rfl rfl (Nat.le_of_ble_eq_true rfl) (by decide) ⟨Nat.le_refl _, Nat.le_refl _⟩ ⟨Nat.le_refl _, Nat.le_refl _⟩ dX4_liking_13 ?_
      refine z_istore dX4_liking_16 rfl (by decide) rfl ?_
      refine z_aload_n dX4_liking_18 rfl ?_
      refine z_gR (zF.x zfX4_22) h0.1 dX4_liking_19 ?_
      refine z_iload_n dX4_liking_22 rfl ?_
      refine z_aload_n dX4_liking_23 rfl ?_
      refine z_gI (zF.x zfX4_51) h0.1 dX4_liking_24 ?_
      refine z_iload dX4_liking_27 rfl ?_
      obtain ⟨r5, S7, hc6, h⟩ := zb_elim h
      refine z_callV (As := [.int x3, .int (S.1 k0 4), .int r3]) zcX9 zkX4_183 ziX9_place zqX9_place h0.2.2.2.1.1 (tX9_place T (zr T k0 2) x3 (S.1 k0 4) r3 S h0.2.2.2.1 (r5, S7) hc6) rfl rfl (Nat.le_of_ble_eq_true rfl) (by decide) ⟨Nat.le_refl _, Nat.le_refl _⟩ ⟨Nat.le_refl _, Nat.le_refl _⟩ dX4_liking_29 ?_
      refine z_aload_n dX4_liking_32 rfl ?_
      refine z_gR (zF.x zfX4_22) h0.1 dX4_liking_33 ?_
      refine z_gA zfX4_187 h0.2.2.2.1.1 dX4_liking_36 ?_
      refine z_bipush dX4_liking_39 cB_22 ?_
      refine z_aload_n dX4_liking_41 rfl ?_
      refine z_iload_n dX4_liking_42 rfl ?_
      refine z_iload_n dX4_liking_43 rfl ?_
      obtain ⟨r8, hc9, h⟩ := zb1_elim h
      refine z_callV (As := [.int x2, .int x3]) zcX4 zkX4_161 ziX4_owedNow zqX4_owedNow h0.1 (tX4_owedNow T k0 x2 x3 S7 h0 r8 hc9) rfl rfl (Nat.le_of_ble_eq_true rfl) (by decide) ⟨Nat.le_refl _, Nat.le_refl _⟩ ⟨Nat.le_refl _, Nat.le_refl _⟩ dX4_liking_44 ?_
      refine z_i2l dX4_liking_47 rfl ?_
      obtain ⟨q10, h⟩ := zgd_elim h
      refine z_last h0.2.2.2.1.2.1 (zin_ok q10) dX4_liking_48 ?_
      obtain ⟨S11, eS11, h⟩ := zlet_elim h
      refine z_tS eS11 ?_
      refine z_aload_n dX4_liking_49 rfl ?_
      refine z_gR (zF.x zfX4_22) h0.1 dX4_liking_50 ?_
      refine z_gA zfX4_187 h0.2.2.2.1.1 dX4_liking_53 ?_
      refine z_bipush dX4_liking_56 cB_23 ?_
      refine z_aload_n dX4_liking_58 rfl ?_
      refine z_gA (zF.x zfX4_38) h0.1 dX4_liking_59 ?_
      refine z_iload_n dX4_liking_62 rfl ?_
      obtain ⟨q12, h⟩ := zgd_elim h
      refine z_iald h0.2.2.2.2.2.2.2.2.1 (zin_ok q12) dX4_liking_63 ?_
      refine z_i2l dX4_liking_64 rfl ?_
      obtain ⟨q13, h⟩ := zgd_elim h
      refine z_last h0.2.2.2.1.2.1 (zin_ok q13) dX4_liking_65 ?_
      obtain ⟨S14, eS14, h⟩ := zlet_elim h
      refine z_tS eS14 ?_
      refine z_aload_n dX4_liking_66 rfl ?_
      refine z_gR (zF.x zfX4_22) h0.1 dX4_liking_67 ?_
      refine z_gA zfX4_187 h0.2.2.2.1.1 dX4_liking_70 ?_
      refine z_bipush dX4_liking_73 cB_24 ?_
      refine z_aload_n dX4_liking_75 rfl ?_
      refine z_gR (zF.x zfX4_9) h0.1 dX4_liking_76 ?_
      refine z_gA zfX4_191 h0.2.1.1 dX4_liking_79 ?_
      refine z_iload_n dX4_liking_82 rfl ?_
      obtain ⟨q15, h⟩ := zgd_elim h
      refine z_iald h0.2.1.2.2.2.1 (zin_ok q15) dX4_liking_83 ?_
      refine z_iconst dX4_liking_84 cI_m1 ?_
      refine z_icmp_ne (tgt := 94) dX4_liking_85 (by decide) (fun q16 => ?_) (fun q16 => ?_)
      · rw [if_neg q16] at h
        refine z_aload_n dX4_liking_94 rfl ?_
        refine z_gR (zF.x zfX4_9) h0.1 dX4_liking_95 ?_
        refine z_gA zfX4_191 h0.2.1.1 dX4_liking_98 ?_
        refine z_iload_n dX4_liking_101 rfl ?_
        obtain ⟨q17, h⟩ := zgd_elim h
        refine z_iald h0.2.1.2.2.2.1 (zin_ok q17) dX4_liking_102 ?_
        refine z_iload_n dX4_liking_103 rfl ?_
        refine z_isub dX4_liking_104 rfl ?_
        refine z_i2l dX4_liking_105 rfl ?_
        exact z_mask [true, true, true, true, true, false, false] rfl (tX4_liking_b106 T k0 k1 x2 x3 r3 ((((S14.1 (zr T (zr T k0 0) 8) (x2 : Int32).toNatClampNeg) - x3) : Int32).toInt64) 24 (zr T (zr T k0 2) 0) 26 S14 h0 h1 h0.2.2.2.1.2.1 r h)
      · rw [if_pos q16] at h
        refine z_ldc2 znX4_194 dX4_liking_88 ?_
        refine z_goto (tgt := 106) dX4_liking_91 (by decide) ?_
        exact z_mask [true, true, true, true, true, false, false] rfl (tX4_liking_b106 T k0 k1 x2 x3 r3 9999 24 (zr T (zr T k0 2) 0) 26 S14 h0 h1 h0.2.2.2.1.2.1 r h)
    · rw [if_neg q2] at h
      exact z_mask [false, false, false, false, false, false, false] rfl (tX4_liking_b10 T  S  r h)
/-! X4_liveByRow -/
noncomputable def fX4_liveByRow_b82 (T : zT) (k0 : Nat) (k1 : Nat) (l2 : Int64) (x4 : Int32) (x5 : Int32) (S : zS) : Option ((Int32 × Int32 × zS) ⊕ ((Int32 × zS) ⊕ zS)) :=
  zb1 (fX4_isWell T k0 S) fun r15 => if r15 = 0 then some (.inr (.inr S)) else zlet (x5 + 1) fun u18 => some (.inl (x4, u18, S))
noncomputable def fX4_liveByRow_b79 (T : zT) (k0 : Nat) (k1 : Nat) (l2 : Int64) (x4 : Int32) (x5 : Int32) (s0 : Int32) (s1 : Int32) (s2 : Nat) (S : zS) : Option ((Int32 × Int32 × zS) ⊕ ((Int32 × zS) ⊕ zS)) :=
  zb (fX4_endWeek T s2 s1 s0 S) fun _ S22 => fX4_liveByRow_b82 T k0 k1 l2 x4 x5 S22
noncomputable def fX4_liveByRow_b53 (T : zT) (k0 : Nat) (k1 : Nat) (l2 : Int64) (x4 : Int32) (x5 : Int32) (S : zS) : Option ((Int32 × Int32 × zS) ⊕ ((Int32 × zS) ⊕ zS)) :=
  zb1 (fX4_isWell T k0 S) fun r12 => if r12 = 0 then fX4_liveByRow_b82 T k0 k1 l2 x4 x5 S else if (lg_cmp ((l2 >>> ((x5 : Int32).toInt64 &&& 63)) &&& 1) 0) = 0 then fX4_liveByRow_b79 T k0 k1 l2 x4 x5 0 x5 k0 S else fX4_liveByRow_b79 T k0 k1 l2 x4 x5 1 x5 k0 S
noncomputable def fX4_liveByRow_l10 (T : zT) (k0 : Nat) (k1 : Nat) (l2 : Int64) (x4 : Int32) (x5 : Int32) (S : zS) : Option ((Int32 × Int32 × zS) ⊕ ((Int32 × zS) ⊕ zS)) :=
  if (S.1 (zr T k0 0) 1) ≤ x5 then some (.inr (.inl (x4, S))) else if 60 ≤ x5 then some (.inr (.inl (x4, S))) else zb (fX4_startWeek T k0 x5 S) fun _ S8 => zb1 (fX4_isWell T k0 S8) fun r9 => if r9 = 0 then fX4_liveByRow_b53 T k0 k1 l2 x4 x5 S8 else zb (fX4_doActs T k0 k1 x4 x5 S8) fun r23 S25 => fX4_liveByRow_b53 T k0 k1 l2 r23 x5 S25
noncomputable def fX4_liveByRow_b111 (T : zT)  (S : zS) : Option (Unit × zS) :=
  some ((), S)
noncomputable def fX4_liveByRow_b96 (T : zT) (k0 : Nat) (k1 : Nat) (x4 : Int32) (S : zS) : Option (Unit × zS) :=
  if (S.1 k1 3) ≤ x4 then fX4_liveByRow_b111 T  S else zlet (zI S k0 6 x4) fun S28 => fX4_liveByRow_b111 T  S28
noncomputable def fX4_liveByRow (T : zT) (k0 : Nat) (k1 : Nat) (l2 : Int64) (S : zS) : Option (Unit × zS) :=
  zb (fX4_begin T k0 S) fun _ S3 => zb1 (lp (fun a => fX4_liveByRow_l10 T k0 k1 l2 a.1 a.2.1 a.2.2) (0, 0, S3)) fun e26 => zsm e26 (fun e26_0 => fX4_liveByRow_b96 T k0 k1 e26_0.1 e26_0.2) (fun e26_1 => some ((), e26_1))
set_option maxHeartbeats 4000000 in
set_option maxRecDepth 100000 in
theorem tX4_liveByRow_b82 (T : zT) (k0 : Nat) (k1 : Nat) (l2 : Int64) (x4 : Int32) (x5 : Int32) (S : zS) (h0 : iX4 T k0) (h1 : iX7 T k1) {g : zG} {v : Option Value} {S' : zS} (r : ((Int32 × Int32 × zS) ⊕ ((Int32 × zS) ⊕ zS))) (h : fX4_liveByRow_b82 T k0 k1 l2 x4 x5 S = some r) (K1 : ∀ a : (Int32 × Int32 × zS), r = .inl a → zg g 5 mX4_liveByRow T 10 [some (.ref k0), some (.ref k1), some (.long l2), none, some (.int a.1), some (.int a.2.1)] [] T a.2.2 v T S') (K2_0 : ∀ e : (Int32 × zS), r = .inr (.inl e) → zg g 5 mX4_liveByRow T 96 [some (.ref k0), some (.ref k1), none, none, some (.int e.1), none] [] T e.2 v T S') (K2_1 : ∀ e : zS, r = .inr (.inr e) → zg g 5 mX4_liveByRow T 89 [none, none, none, none, none, none] [] T e v T S') : zg g 5 mX4_liveByRow T 82 [some (.ref k0), some (.ref k1), some (.long l2), none, some (.int x4), some (.int x5)] [] T S v T S' := by
  unfold fX4_liveByRow_b82 at h
  refine z_aload_n dX4_liveByRow_82 rfl ?_
  obtain ⟨r15, hc16, h⟩ := zb1_elim h
  refine z_callV (As := []) zcX4 zkX4_85 ziX4_isWell zqX4_isWell h0.1 (tX4_isWell T k0 S h0 r15 hc16) rfl rfl (Nat.le_of_ble_eq_true rfl) (by decide) ⟨Nat.le_refl _, Nat.le_refl _⟩ ⟨Nat.le_refl _, Nat.le_refl _⟩ dX4_liveByRow_83 ?_
  refine z_if_ne (tgt := 90) dX4_liveByRow_86 (by decide) (fun q17 => ?_) (fun q17 => ?_)
  · rw [if_neg q17] at h
    obtain ⟨u18, eu18, h⟩ := zlet_elim h
    refine z_iinc (r := u18) dX4_liveByRow_90 rfl (by rw [eu18, cI_1]) rfl (by decide) rfl ?_
    refine z_goto (tgt := 10) dX4_liveByRow_93 (by decide) ?_
    cases h
    exact z_mask [true, true, true, false, true, true] rfl (K1 _ rfl)
  · rw [if_pos q17] at h
    cases h
    exact z_mask [false, false, false, false, false, false] rfl (K2_1 _ rfl)
set_option maxHeartbeats 4000000 in
set_option maxRecDepth 100000 in
theorem tX4_liveByRow_b79 (T : zT) (k0 : Nat) (k1 : Nat) (l2 : Int64) (x4 : Int32) (x5 : Int32) (s0 : Int32) (s1 : Int32) (s2 : Nat) (S : zS) (h0 : iX4 T k0) (h1 : iX7 T k1) (g2 : iX4 T s2) {g : zG} {v : Option Value} {S' : zS} (r : ((Int32 × Int32 × zS) ⊕ ((Int32 × zS) ⊕ zS))) (h : fX4_liveByRow_b79 T k0 k1 l2 x4 x5 s0 s1 s2 S = some r) (K1 : ∀ a : (Int32 × Int32 × zS), r = .inl a → zg g 5 mX4_liveByRow T 10 [some (.ref k0), some (.ref k1), some (.long l2), none, some (.int a.1), some (.int a.2.1)] [] T a.2.2 v T S') (K2_0 : ∀ e : (Int32 × zS), r = .inr (.inl e) → zg g 5 mX4_liveByRow T 96 [some (.ref k0), some (.ref k1), none, none, some (.int e.1), none] [] T e.2 v T S') (K2_1 : ∀ e : zS, r = .inr (.inr e) → zg g 5 mX4_liveByRow T 89 [none, none, none, none, none, none] [] T e v T S') : zg g 5 mX4_liveByRow T 79 [some (.ref k0), some (.ref k1), some (.long l2), none, some (.int x4), some (.int x5)] [.int s0, .int s1, .ref s2] T S v T S' := by
  unfold fX4_liveByRow_b79 at h
  obtain ⟨r20, S22, hc21, h⟩ := zb_elim h
  refine z_callV (As := [.int s1, .int s0]) zcX4 zkX4_93 ziX4_endWeek zqX4_endWeek g2.1 (tX4_endWeek T s2 s1 s0 S g2 (r20, S22) hc21) rfl rfl (Nat.le_of_ble_eq_true rfl) (by decide) ⟨Nat.le_refl _, Nat.le_refl _⟩ ⟨Nat.le_refl _, Nat.le_refl _⟩ dX4_liveByRow_79 ?_
  exact z_mask [true, true, true, false, true, true] rfl (tX4_liveByRow_b82 T k0 k1 l2 x4 x5 S22 h0 h1 r h K1 K2_0 K2_1)
set_option maxHeartbeats 4000000 in
set_option maxRecDepth 100000 in
theorem tX4_liveByRow_b53 (T : zT) (k0 : Nat) (k1 : Nat) (l2 : Int64) (x4 : Int32) (x5 : Int32) (S : zS) (h0 : iX4 T k0) (h1 : iX7 T k1) {g : zG} {v : Option Value} {S' : zS} (r : ((Int32 × Int32 × zS) ⊕ ((Int32 × zS) ⊕ zS))) (h : fX4_liveByRow_b53 T k0 k1 l2 x4 x5 S = some r) (K1 : ∀ a : (Int32 × Int32 × zS), r = .inl a → zg g 5 mX4_liveByRow T 10 [some (.ref k0), some (.ref k1), some (.long l2), none, some (.int a.1), some (.int a.2.1)] [] T a.2.2 v T S') (K2_0 : ∀ e : (Int32 × zS), r = .inr (.inl e) → zg g 5 mX4_liveByRow T 96 [some (.ref k0), some (.ref k1), none, none, some (.int e.1), none] [] T e.2 v T S') (K2_1 : ∀ e : zS, r = .inr (.inr e) → zg g 5 mX4_liveByRow T 89 [none, none, none, none, none, none] [] T e v T S') : zg g 5 mX4_liveByRow T 53 [some (.ref k0), some (.ref k1), some (.long l2), none, some (.int x4), some (.int x5)] [] T S v T S' := by
  unfold fX4_liveByRow_b53 at h
  refine z_aload_n dX4_liveByRow_53 rfl ?_
  obtain ⟨r12, hc13, h⟩ := zb1_elim h
  refine z_callV (As := []) zcX4 zkX4_85 ziX4_isWell zqX4_isWell h0.1 (tX4_isWell T k0 S h0 r12 hc13) rfl rfl (Nat.le_of_ble_eq_true rfl) (by decide) ⟨Nat.le_refl _, Nat.le_refl _⟩ ⟨Nat.le_refl _, Nat.le_refl _⟩ dX4_liveByRow_54 ?_
  refine z_if_eq (tgt := 82) dX4_liveByRow_57 (by decide) (fun q14 => ?_) (fun q14 => ?_)
  · rw [if_pos q14] at h
    exact z_mask [true, true, true, false, true, true] rfl (tX4_liveByRow_b82 T k0 k1 l2 x4 x5 S h0 h1 r h K1 K2_0 K2_1)
  · rw [if_neg q14] at h
    refine z_aload_n dX4_liveByRow_60 rfl ?_
    refine z_iload dX4_liveByRow_61 rfl ?_
    refine z_lload_n dX4_liveByRow_63 rfl ?_
    refine z_iload dX4_liveByRow_64 rfl ?_
    refine z_lshr dX4_liveByRow_66 rfl ?_
    refine z_lconst (r := 1) dX4_liveByRow_67 rfl ?_
    refine z_land dX4_liveByRow_68 rfl ?_
    refine z_lconst (r := 0) dX4_liveByRow_69 rfl ?_
    refine z_lcmp dX4_liveByRow_70 rfl ?_
    refine z_if_eq (tgt := 78) dX4_liveByRow_71 (by decide) (fun q19 => ?_) (fun q19 => ?_)
    · rw [if_pos q19] at h
      refine z_iconst dX4_liveByRow_78 cI_0 ?_
      exact z_mask [true, true, true, false, true, true] rfl (tX4_liveByRow_b79 T k0 k1 l2 x4 x5 0 x5 k0 S h0 h1 h0 r h K1 K2_0 K2_1)
    · rw [if_neg q19] at h
      refine z_iconst dX4_liveByRow_74 cI_1 ?_
      refine z_goto (tgt := 79) dX4_liveByRow_75 (by decide) ?_
      exact z_mask [true, true, true, false, true, true] rfl (tX4_liveByRow_b79 T k0 k1 l2 x4 x5 1 x5 k0 S h0 h1 h0 r h K1 K2_0 K2_1)
set_option maxHeartbeats 4000000 in
set_option maxRecDepth 100000 in
theorem tX4_liveByRow_l10b (T : zT) (k0 : Nat) (k1 : Nat) (l2 : Int64) (x4 : Int32) (x5 : Int32) (S : zS) (h0 : iX4 T k0) (h1 : iX7 T k1) {g : zG} {v : Option Value} {S' : zS} (r : (Int32 × Int32 × zS) ⊕ ((Int32 × zS) ⊕ zS)) (h : fX4_liveByRow_l10 T k0 k1 l2 x4 x5 S = some r) (K1 : ∀ a : (Int32 × Int32 × zS), r = .inl a → zg g 5 mX4_liveByRow T 10 [some (.ref k0), some (.ref k1), some (.long l2), none, some (.int a.1), some (.int a.2.1)] [] T a.2.2 v T S') (K2_0 : ∀ e : (Int32 × zS), r = .inr (.inl e) → zg g 5 mX4_liveByRow T 96 [some (.ref k0), some (.ref k1), none, none, some (.int e.1), none] [] T e.2 v T S') (K2_1 : ∀ e : zS, r = .inr (.inr e) → zg g 5 mX4_liveByRow T 89 [none, none, none, none, none, none] [] T e v T S') : zg g 5 mX4_liveByRow T 10 [some (.ref k0), some (.ref k1), some (.long l2), none, some (.int x4), some (.int x5)] [] T S v T S' := by
  unfold fX4_liveByRow_l10 at h
  refine z_iload dX4_liveByRow_10 rfl ?_
  refine z_aload_n dX4_liveByRow_12 rfl ?_
  refine z_gR (zF.x zfX4_9) h0.1 dX4_liveByRow_13 ?_
  refine z_gI (zF.x zfX4_78) h0.2.1.1 dX4_liveByRow_16 ?_
  refine z_icmp_ge (tgt := 96) dX4_liveByRow_19 (by decide) (fun q4 => ?_) (fun q4 => ?_)
  · rw [if_pos q4] at h
    cases h
    exact z_mask [true, true, false, false, true, false] rfl (K2_0 _ rfl)
  · rw [if_neg q4] at h
    refine z_iload dX4_liveByRow_22 rfl ?_
    refine z_bipush dX4_liveByRow_24 cB_60 ?_
    refine z_icmp_ge (tgt := 96) dX4_liveByRow_26 (by decide) (fun q5 => ?_) (fun q5 => ?_)
    · rw [if_pos q5] at h
      cases h
      exact z_mask [true, true, false, false, true, false] rfl (K2_0 _ rfl)
    · rw [if_neg q5] at h
      refine z_aload_n dX4_liveByRow_29 rfl ?_
      refine z_iload dX4_liveByRow_30 rfl ?_
      obtain ⟨r6, S8, hc7, h⟩ := zb_elim h
      refine z_callV (As := [.int x5]) zcX4 zkX4_81 ziX4_startWeek zqX4_startWeek h0.1 (tX4_startWeek T k0 x5 S h0 (r6, S8) hc7) rfl rfl (Nat.le_of_ble_eq_true rfl) (by decide) ⟨Nat.le_refl _, Nat.le_refl _⟩ ⟨Nat.le_refl _, Nat.le_refl _⟩ dX4_liveByRow_32 ?_
      refine z_aload_n dX4_liveByRow_35 rfl ?_
      obtain ⟨r9, hc10, h⟩ := zb1_elim h
      refine z_callV (As := []) zcX4 zkX4_85 ziX4_isWell zqX4_isWell h0.1 (tX4_isWell T k0 S8 h0 r9 hc10) rfl rfl (Nat.le_of_ble_eq_true rfl) (by decide) ⟨Nat.le_refl _, Nat.le_refl _⟩ ⟨Nat.le_refl _, Nat.le_refl _⟩ dX4_liveByRow_36 ?_
      refine z_if_eq (tgt := 53) dX4_liveByRow_39 (by decide) (fun q11 => ?_) (fun q11 => ?_)
      · rw [if_pos q11] at h
        exact z_mask [true, true, true, false, true, true] rfl (tX4_liveByRow_b53 T k0 k1 l2 x4 x5 S8 h0 h1 r h K1 K2_0 K2_1)
      · rw [if_neg q11] at h
        refine z_aload_n dX4_liveByRow_42 rfl ?_
        refine z_aload_n dX4_liveByRow_43 rfl ?_
        refine z_iload dX4_liveByRow_44 rfl ?_
        refine z_iload dX4_liveByRow_46 rfl ?_
        obtain ⟨r23, S25, hc24, h⟩ := zb_elim h
        refine z_callV (As := [.ref k1, .int x4, .int x5]) zcX4 zkX4_89 ziX4_doActs zqX4_doActs h0.1 (tX4_doActs T k0 k1 x4 x5 S8 h0 h1 (r23, S25) hc24) rfl rfl (Nat.le_of_ble_eq_true rfl) (by decide) ⟨Nat.le_refl _, Nat.le_refl _⟩ ⟨Nat.le_refl _, Nat.le_refl _⟩ dX4_liveByRow_48 ?_
        refine z_istore dX4_liveByRow_51 rfl (by decide) rfl ?_
        exact z_mask [true, true, true, false, true, true] rfl (tX4_liveByRow_b53 T k0 k1 l2 r23 x5 S25 h0 h1 r h K1 K2_0 K2_1)
set_option maxHeartbeats 4000000 in
set_option maxRecDepth 100000 in
theorem tX4_liveByRow_l10 (T : zT) (k0 : Nat) (k1 : Nat) (l2 : Int64) (h0 : iX4 T k0) (h1 : iX7 T k1) {g : zG} {v : Option Value} {S' : zS} : ∀ (n : Nat) (a : (Int32 × Int32 × zS)) (e : ((Int32 × zS) ⊕ zS)), lpn (fun a => fX4_liveByRow_l10 T k0 k1 l2 a.1 a.2.1 a.2.2) n a = some e → (∀ e1 : (Int32 × zS), e = (.inl e1) → zg g 5 mX4_liveByRow T 96 [some (.ref k0), some (.ref k1), none, none, some (.int e1.1), none] [] T e1.2 v T S') → (∀ e1 : zS, e = (.inr e1) → zg g 5 mX4_liveByRow T 89 [none, none, none, none, none, none] [] T e1 v T S') → zg g 5 mX4_liveByRow T 10 [some (.ref k0), some (.ref k1), some (.long l2), none, some (.int a.1), some (.int a.2.1)] [] T a.2.2 v T S' := by
  intro n
  induction n with
  | zero =>
    intro a e h
    cases h
  | succ n ih =>
    intro a e h k0_ k1_
    rcases lpn_succ h with ⟨a1, ha_, hb_⟩ | ha_
    · exact tX4_liveByRow_l10b T k0 k1 l2 a.1 a.2.1 a.2.2 h0 h1 _ ha_ (fun a2 q => by cases q; exact ih a1 e hb_ k0_ k1_) (fun e1 q => by cases q) (fun e1 q => by cases q)
    · exact tX4_liveByRow_l10b T k0 k1 l2 a.1 a.2.1 a.2.2 h0 h1 _ ha_ (fun a2 q => by cases q) (fun e1 q => by cases q; exact k0_ _ rfl) (fun e1 q => by cases q; exact k1_ _ rfl)
set_option maxHeartbeats 4000000 in
set_option maxRecDepth 100000 in
theorem tX4_liveByRow_b111 (T : zT)  (S : zS)  {g : zG} (r : (Unit × zS)) (h : fX4_liveByRow_b111 T  S = some r)  : zg g 5 mX4_liveByRow T 111 [none, none, none, none, none, none] [] T S none T r.2 := by
  unfold fX4_liveByRow_b111 at h
  cases h
  exact z_vret rfl dX4_liveByRow_111
set_option maxHeartbeats 4000000 in
set_option maxRecDepth 100000 in
theorem tX4_liveByRow_b96 (T : zT) (k0 : Nat) (k1 : Nat) (x4 : Int32) (S : zS) (h0 : iX4 T k0) (h1 : iX7 T k1) {g : zG} (r : (Unit × zS)) (h : fX4_liveByRow_b96 T k0 k1 x4 S = some r)  : zg g 5 mX4_liveByRow T 96 [some (.ref k0), some (.ref k1), none, none, some (.int x4), none] [] T S none T r.2 := by
  unfold fX4_liveByRow_b96 at h
  refine z_iload dX4_liveByRow_96 rfl ?_
  refine z_aload_n dX4_liveByRow_98 rfl ?_
  refine z_gI (zF.x zfX4_97) h1.1 dX4_liveByRow_99 ?_
  refine z_icmp_ge (tgt := 111) dX4_liveByRow_102 (by decide) (fun q27 => ?_) (fun q27 => ?_)
  · rw [if_pos q27] at h
    exact z_mask [false, false, false, false, false, false] rfl (tX4_liveByRow_b111 T  S  r h)
  · rw [if_neg q27] at h
    refine z_aload_n dX4_liveByRow_105 rfl ?_
    refine z_iload dX4_liveByRow_106 rfl ?_
    refine z_putI zfX4_57 h0.1 dX4_liveByRow_108 ?_
    obtain ⟨S28, eS28, h⟩ := zlet_elim h
    refine z_tS eS28 ?_
    exact z_mask [false, false, false, false, false, false] rfl (tX4_liveByRow_b111 T  S28  r h)
set_option maxHeartbeats 4000000 in
set_option maxRecDepth 100000 in
theorem tX4_liveByRow (T : zT) (k0 : Nat) (k1 : Nat) (l2 : Int64) (S : zS) (h0 : iX4 T k0) (h1 : iX7 T k1) (r : Unit × zS) (h : fX4_liveByRow T k0 k1 l2 S = some r) : zGM 5 mX4_liveByRow [.ref k0, .ref k1, .long l2] T S none T r.2 := by
  refine zGM_of zpnX4 rfl (Nat.le_of_ble_eq_true rfl) (fun g => ?_)
  show zg g 5 mX4_liveByRow T 0 [some (.ref k0), some (.ref k1), some (.long l2), none, none, none] [] T S none T r.2
  unfold fX4_liveByRow at h
  refine z_aload_n dX4_liveByRow_0 rfl ?_
  obtain ⟨r1, S3, hc2, h⟩ := zb_elim h
  refine z_callV (As := []) zcX4 zkX4_75 ziX4_begin zqX4_begin h0.1 (tX4_begin T k0 S h0 (r1, S3) hc2) rfl rfl (Nat.le_of_ble_eq_true rfl) (by decide) ⟨Nat.le_refl _, Nat.le_refl _⟩ ⟨Nat.le_refl _, Nat.le_refl _⟩ dX4_liveByRow_1 ?_
  refine z_iconst dX4_liveByRow_4 cI_0 ?_
  refine z_istore dX4_liveByRow_5 rfl (by decide) rfl ?_
  refine z_iconst dX4_liveByRow_7 cI_0 ?_
  refine z_istore dX4_liveByRow_8 rfl (by decide) rfl ?_
  obtain ⟨e26, hl29, h⟩ := zb1_elim h
  obtain ⟨nf30, hl29⟩ := lp_some hl29
  refine z_mask [true, true, true, false, true, true] rfl (tX4_liveByRow_l10 T k0 k1 l2 h0 h1 nf30 (0, 0, S3) e26 hl29 (fun e26_0 q => ?_) (fun e26_1 q => ?_))
  · cases q
    replace h := zsm_l h
    exact z_mask [true, true, false, false, true, false] rfl (tX4_liveByRow_b96 T k0 k1 e26_0.1 e26_0.2 h0 h1 r h)
  · cases q
    replace h := zsm_r h
    cases h
    exact z_vret rfl dX4_liveByRow_89
/-! X4_likedMost -/
noncomputable def fX4_likedMost_b68 (T : zT) (k0 : Nat) (k1 : Nat) (x2 : Int32) (x3 : Int32) (l4 : Int64) (x6 : Int32) (S : zS) : Option ((Int32 × Int64 × Int32 × zS) ⊕ (Int32 × zS)) :=
  zlet (x6 + 1) fun u5 => some (.inl (x3, l4, u5, S))
noncomputable def fX4_likedMost_l8 (T : zT) (k0 : Nat) (k1 : Nat) (x2 : Int32) (x3 : Int32) (l4 : Int64) (x6 : Int32) (S : zS) : Option ((Int32 × Int64 × Int32 × zS) ⊕ (Int32 × zS)) :=
  if 8 ≤ x6 then some (.inr (x3, S)) else zb1 (fX4_isIn T k0 x6 S) fun r2 => if r2 = 0 then fX4_likedMost_b68 T k0 k1 x2 x3 l4 x6 S else zb1 (fX4_owedNow T k0 x6 x2 S) fun r6 => if ((S.1 k0 3) - (S.1 k1 3)) < r6 then fX4_likedMost_b68 T k0 k1 x2 x3 l4 x6 S else zb (fX4_liking T k0 k1 x6 x2 S) fun r9 S11 => if (lg_cmp r9 l4) ≤ 0 then fX4_likedMost_b68 T k0 k1 x2 x3 l4 x6 S11 else fX4_likedMost_b68 T k0 k1 x2 x6 r9 x6 S11
noncomputable def fX4_likedMost (T : zT) (k0 : Nat) (k1 : Nat) (x2 : Int32) (S : zS) : Option (Int32 × zS) :=
  zb1 (lp (fun a => fX4_likedMost_l8 T k0 k1 x2 a.1 a.2.1 a.2.2.1 a.2.2.2) ((-1), 0, 0, S)) fun e13 => some (e13.1, e13.2)
set_option maxHeartbeats 4000000 in
set_option maxRecDepth 100000 in
theorem tX4_likedMost_b68 (T : zT) (k0 : Nat) (k1 : Nat) (x2 : Int32) (x3 : Int32) (l4 : Int64) (x6 : Int32) (S : zS) (h0 : iX4 T k0) (h1 : iX8 T k1) {g : zG} {v : Option Value} {S' : zS} (r : ((Int32 × Int64 × Int32 × zS) ⊕ (Int32 × zS))) (h : fX4_likedMost_b68 T k0 k1 x2 x3 l4 x6 S = some r) (K1 : ∀ a : (Int32 × Int64 × Int32 × zS), r = .inl a → zg g 5 mX4_likedMost T 8 [some (.ref k0), some (.ref k1), some (.int x2), some (.int a.1), some (.long a.2.1), none, some (.int a.2.2.1), none, none] [] T a.2.2.2 v T S') (K2_0 : ∀ e : (Int32 × zS), r = .inr e → zg g 5 mX4_likedMost T 74 [none, none, none, some (.int e.1), none, none, none, none, none] [] T e.2 v T S') : zg g 5 mX4_likedMost T 68 [some (.ref k0), some (.ref k1), some (.int x2), some (.int x3), some (.long l4), none, some (.int x6), none, none] [] T S v T S' := by
  unfold fX4_likedMost_b68 at h
  obtain ⟨u5, eu5, h⟩ := zlet_elim h
  refine z_iinc (r := u5) dX4_likedMost_68 rfl (by rw [eu5, cI_1]) rfl (by decide) rfl ?_
  refine z_goto (tgt := 8) dX4_likedMost_71 (by decide) ?_
  cases h
  exact z_mask [true, true, true, true, true, false, true, false, false] rfl (K1 _ rfl)
set_option maxHeartbeats 4000000 in
set_option maxRecDepth 100000 in
theorem tX4_likedMost_l8b (T : zT) (k0 : Nat) (k1 : Nat) (x2 : Int32) (x3 : Int32) (l4 : Int64) (x6 : Int32) (S : zS) (h0 : iX4 T k0) (h1 : iX8 T k1) {g : zG} {v : Option Value} {S' : zS} (r : (Int32 × Int64 × Int32 × zS) ⊕ (Int32 × zS)) (h : fX4_likedMost_l8 T k0 k1 x2 x3 l4 x6 S = some r) (K1 : ∀ a : (Int32 × Int64 × Int32 × zS), r = .inl a → zg g 5 mX4_likedMost T 8 [some (.ref k0), some (.ref k1), some (.int x2), some (.int a.1), some (.long a.2.1), none, some (.int a.2.2.1), none, none] [] T a.2.2.2 v T S') (K2_0 : ∀ e : (Int32 × zS), r = .inr e → zg g 5 mX4_likedMost T 74 [none, none, none, some (.int e.1), none, none, none, none, none] [] T e.2 v T S') : zg g 5 mX4_likedMost T 8 [some (.ref k0), some (.ref k1), some (.int x2), some (.int x3), some (.long l4), none, some (.int x6), none, none] [] T S v T S' := by
  unfold fX4_likedMost_l8 at h
  refine z_iload dX4_likedMost_8 rfl ?_
  refine z_bipush dX4_likedMost_10 cB_8 ?_
  refine z_icmp_ge (tgt := 74) dX4_likedMost_12 (by decide) (fun q1 => ?_) (fun q1 => ?_)
  · rw [if_pos q1] at h
    cases h
    exact z_mask [false, false, false, true, false, false, false, false, false] rfl (K2_0 _ rfl)
  · rw [if_neg q1] at h
    refine z_aload_n dX4_likedMost_15 rfl ?_
    refine z_iload dX4_likedMost_16 rfl ?_
    obtain ⟨r2, hc3, h⟩ := zb1_elim h
    refine z_callV (As := [.int x6]) zcX4 zkX4_158 ziX4_isIn zqX4_isIn h0.1 (tX4_isIn T k0 x6 S h0 r2 hc3) rfl rfl (Nat.le_of_ble_eq_true rfl) (by decide) ⟨Nat.le_refl _, Nat.le_refl _⟩ ⟨Nat.le_refl _, Nat.le_refl _⟩ dX4_likedMost_18 ?_
    refine z_if_eq (tgt := 68) dX4_likedMost_21 (by decide) (fun q4 => ?_) (fun q4 => ?_)
    · rw [if_pos q4] at h
      exact z_mask [true, true, true, true, true, false, true, false, false] rfl (tX4_likedMost_b68 T k0 k1 x2 x3 l4 x6 S h0 h1 r h K1 K2_0)
    · rw [if_neg q4] at h
      refine z_aload_n dX4_likedMost_24 rfl ?_
      refine z_iload dX4_likedMost_25 rfl ?_
      refine z_iload_n dX4_likedMost_27 rfl ?_
      obtain ⟨r6, hc7, h⟩ := zb1_elim h
      refine z_callV (As := [.int x6, .int x2]) zcX4 zkX4_161 ziX4_owedNow zqX4_owedNow h0.1 (tX4_owedNow T k0 x6 x2 S h0 r6 hc7) rfl rfl (Nat.le_of_ble_eq_true rfl) (by decide) ⟨Nat.le_refl _, Nat.le_refl _⟩ ⟨Nat.le_refl _, Nat.le_refl _⟩ dX4_likedMost_28 ?_
      refine z_aload_n dX4_likedMost_31 rfl ?_
      refine z_gI (zF.x zfX4_50) h0.1 dX4_likedMost_32 ?_
      refine z_aload_n dX4_likedMost_35 rfl ?_
      refine z_gI (zF.x zfX4_174) h1.1 dX4_likedMost_36 ?_
      refine z_isub dX4_likedMost_39 rfl ?_
      refine z_icmp_gt (tgt := 68) dX4_likedMost_40 (by decide) (fun q8 => ?_) (fun q8 => ?_)
      · rw [if_pos q8] at h
        exact z_mask [true, true, true, true, true, false, true, false, false] rfl (tX4_likedMost_b68 T k0 k1 x2 x3 l4 x6 S h0 h1 r h K1 K2_0)
      · rw [if_neg q8] at h
        refine z_aload_n dX4_likedMost_43 rfl ?_
        refine z_aload_n dX4_likedMost_44 rfl ?_
        refine z_iload dX4_likedMost_45 rfl ?_
        refine z_iload_n dX4_likedMost_47 rfl ?_
        obtain ⟨r9, S11, hc10, h⟩ := zb_elim h
        refine z_callV (As := [.ref k1, .int x6, .int x2]) zcX4 zkX4_179 ziX4_liking zqX4_liking h0.1 (tX4_liking T k0 k1 x6 x2 S h0 h1 (r9, S11) hc10) rfl rfl (Nat.le_of_ble_eq_true rfl) (by decide) ⟨Nat.le_refl _, Nat.le_refl _⟩ ⟨Nat.le_refl _, Nat.le_refl _⟩ dX4_likedMost_48 ?_
        refine z_lstore dX4_likedMost_51 rfl (by decide) rfl ?_
        refine z_lload dX4_likedMost_53 rfl ?_
        refine z_lload dX4_likedMost_55 rfl ?_
        refine z_lcmp dX4_likedMost_57 rfl ?_
        refine z_if_le (tgt := 68) dX4_likedMost_58 (by decide) (fun q12 => ?_) (fun q12 => ?_)
        · rw [if_pos q12] at h
          exact z_mask [true, true, true, true, true, false, true, false, false] rfl (tX4_likedMost_b68 T k0 k1 x2 x3 l4 x6 S11 h0 h1 r h K1 K2_0)
        · rw [if_neg q12] at h
          refine z_lload dX4_likedMost_61 rfl ?_
          refine z_lstore dX4_likedMost_63 rfl (by decide) rfl ?_
          refine z_iload dX4_likedMost_65 rfl ?_
          refine z_istore_n dX4_likedMost_67 rfl (by decide) rfl ?_
          exact z_mask [true, true, true, true, true, false, true, false, false] rfl (tX4_likedMost_b68 T k0 k1 x2 x6 r9 x6 S11 h0 h1 r h K1 K2_0)
set_option maxHeartbeats 4000000 in
set_option maxRecDepth 100000 in
theorem tX4_likedMost_l8 (T : zT) (k0 : Nat) (k1 : Nat) (x2 : Int32) (h0 : iX4 T k0) (h1 : iX8 T k1) {g : zG} {v : Option Value} {S' : zS} : ∀ (n : Nat) (a : (Int32 × Int64 × Int32 × zS)) (e : (Int32 × zS)), lpn (fun a => fX4_likedMost_l8 T k0 k1 x2 a.1 a.2.1 a.2.2.1 a.2.2.2) n a = some e → (∀ e1 : (Int32 × zS), e = e1 → zg g 5 mX4_likedMost T 74 [none, none, none, some (.int e1.1), none, none, none, none, none] [] T e1.2 v T S') → zg g 5 mX4_likedMost T 8 [some (.ref k0), some (.ref k1), some (.int x2), some (.int a.1), some (.long a.2.1), none, some (.int a.2.2.1), none, none] [] T a.2.2.2 v T S' := by
  intro n
  induction n with
  | zero =>
    intro a e h
    cases h
  | succ n ih =>
    intro a e h k0_
    rcases lpn_succ h with ⟨a1, ha_, hb_⟩ | ha_
    · exact tX4_likedMost_l8b T k0 k1 x2 a.1 a.2.1 a.2.2.1 a.2.2.2 h0 h1 _ ha_ (fun a2 q => by cases q; exact ih a1 e hb_ k0_) (fun e1 q => by cases q)
    · exact tX4_likedMost_l8b T k0 k1 x2 a.1 a.2.1 a.2.2.1 a.2.2.2 h0 h1 _ ha_ (fun a2 q => by cases q) (fun e1 q => by cases q; exact k0_ _ rfl)
set_option maxHeartbeats 4000000 in
set_option maxRecDepth 100000 in
theorem tX4_likedMost (T : zT) (k0 : Nat) (k1 : Nat) (x2 : Int32) (S : zS) (h0 : iX4 T k0) (h1 : iX8 T k1) (r : Int32 × zS) (h : fX4_likedMost T k0 k1 x2 S = some r) : zGM 5 mX4_likedMost [.ref k0, .ref k1, .int x2] T S (some (.int r.1)) T r.2 := by
  refine zGM_of zpnX4 rfl (Nat.le_of_ble_eq_true rfl) (fun g => ?_)
  show zg g 5 mX4_likedMost T 0 [some (.ref k0), some (.ref k1), some (.int x2), none, none, none, none, none, none] [] T S (some (.int r.1)) T r.2
  unfold fX4_likedMost at h
  refine z_iconst dX4_likedMost_0 cI_m1 ?_
  refine z_istore_n dX4_likedMost_1 rfl (by decide) rfl ?_
  refine z_lconst (r := 0) dX4_likedMost_2 rfl ?_
  refine z_lstore dX4_likedMost_3 rfl (by decide) rfl ?_
  refine z_iconst dX4_likedMost_5 cI_0 ?_
  refine z_istore dX4_likedMost_6 rfl (by decide) rfl ?_
  obtain ⟨e13, hl14, h⟩ := zb1_elim h
  obtain ⟨nf15, hl14⟩ := lp_some hl14
  refine z_mask [true, true, true, true, true, false, true, false, false] rfl (tX4_likedMost_l8 T k0 k1 x2 h0 h1 nf15 ((-1), 0, 0, S) e13 hl14 (fun e_ q => ?_))
  · cases q
    refine z_iload_n dX4_likedMost_74 rfl ?_
    cases h
    exact z_iret rfl dX4_likedMost_75
/-! X4_liveByRule -/
noncomputable def fX4_liveByRule_l35 (T : zT) (k0 : Nat) (k1 : Nat) (l2 : Int64) (x4 : Int32) (x5 : Int32) (S : zS) : Option ((Int32 × zS) ⊕ (zS ⊕ zS)) :=
  if 8 ≤ x5 then some (.inr (.inl S)) else zb (fX4_likedMost T k0 k1 x4 S) fun r10 S12 => if r10 = (-1) then some (.inr (.inl S12)) else zb (fX4_fetchOne T k0 r10 x4 S12) fun r14 S16 => if r14 = 0 then some (.inr (.inr S16)) else zlet (x5 + 1) fun u18 => some (.inl (u18, S16))
noncomputable def fX4_liveByRule_b96 (T : zT) (k0 : Nat) (k1 : Nat) (l2 : Int64) (x4 : Int32) (s0 : Int32) (s1 : Int32) (s2 : Nat) (S : zS) : Option ((Int32 × zS) ⊕ (zS ⊕ zS)) :=
  zb (fX4_endWeek T s2 s1 s0 S) fun _ S23 => zb1 (fX4_isWell T k0 S23) fun r24 => if r24 = 0 then some (.inr (.inr S23)) else zlet (x4 + 1) fun u27 => some (.inl (u27, S23))
noncomputable def fX4_liveByRule_b77 (T : zT) (k0 : Nat) (k1 : Nat) (l2 : Int64) (x4 : Int32) (S : zS) : Option ((Int32 × zS) ⊕ (zS ⊕ zS)) :=
  if (lg_cmp ((l2 >>> ((x4 : Int32).toInt64 &&& 63)) &&& 1) 0) = 0 then fX4_liveByRule_b96 T k0 k1 l2 x4 0 x4 k0 S else fX4_liveByRule_b96 T k0 k1 l2 x4 1 x4 k0 S
noncomputable def fX4_liveByRule_l7 (T : zT) (k0 : Nat) (k1 : Nat) (l2 : Int64) (x4 : Int32) (S : zS) : Option ((Int32 × zS) ⊕ (zS ⊕ zS)) :=
  if (S.1 (zr T k0 0) 1) ≤ x4 then some (.inr (.inl S)) else if 60 ≤ x4 then some (.inr (.inl S)) else zb (fX4_startWeek T k0 x4 S) fun _ S8 => zb1 (lp (fun a => fX4_liveByRule_l35 T k0 k1 l2 x4 a.1 a.2) (0, S8)) fun e19 => zsm e19 (fun e19_0 => fX4_liveByRule_b77 T k0 k1 l2 x4 e19_0) (fun e19_1 => fX4_liveByRule_b77 T k0 k1 l2 x4 e19_1)
noncomputable def fX4_liveByRule_b113 (T : zT)  (S : zS) : Option (Unit × zS) :=
  some ((), S)
noncomputable def fX4_liveByRule (T : zT) (k0 : Nat) (k1 : Nat) (l2 : Int64) (S : zS) : Option (Unit × zS) :=
  zb (fX4_begin T k0 S) fun _ S3 => zb1 (lp (fun a => fX4_liveByRule_l7 T k0 k1 l2 a.1 a.2) (0, S3)) fun e30 => zsm e30 (fun e30_0 => fX4_liveByRule_b113 T  e30_0) (fun e30_1 => some ((), e30_1))
set_option maxHeartbeats 4000000 in
set_option maxRecDepth 100000 in
theorem tX4_liveByRule_l35b (T : zT) (k0 : Nat) (k1 : Nat) (l2 : Int64) (x4 : Int32) (x5 : Int32) (S : zS) (h0 : iX4 T k0) (h1 : iX8 T k1) {g : zG} {v : Option Value} {S' : zS} (r : (Int32 × zS) ⊕ (zS ⊕ zS)) (h : fX4_liveByRule_l35 T k0 k1 l2 x4 x5 S = some r) (K1 : ∀ a : (Int32 × zS), r = .inl a → zg g 6 mX4_liveByRule T 35 [some (.ref k0), some (.ref k1), some (.long l2), none, some (.int x4), some (.int a.1), none] [] T a.2 v T S') (K2_0 : ∀ e : zS, r = .inr (.inl e) → zg g 6 mX4_liveByRule T 77 [some (.ref k0), some (.ref k1), some (.long l2), none, some (.int x4), none, none] [] T e v T S') (K2_1 : ∀ e : zS, r = .inr (.inr e) → zg g 6 mX4_liveByRule T 68 [some (.ref k0), some (.ref k1), some (.long l2), none, some (.int x4), none, none] [] T e v T S') : zg g 6 mX4_liveByRule T 35 [some (.ref k0), some (.ref k1), some (.long l2), none, some (.int x4), some (.int x5), none] [] T S v T S' := by
  unfold fX4_liveByRule_l35 at h
  refine z_iload dX4_liveByRule_35 rfl ?_
  refine z_bipush dX4_liveByRule_37 cB_8 ?_
  refine z_icmp_ge (tgt := 77) dX4_liveByRule_39 (by decide) (fun q9 => ?_) (fun q9 => ?_)
  · rw [if_pos q9] at h
    cases h
    exact z_mask [true, true, true, false, true, false, false] rfl (K2_0 _ rfl)
  · rw [if_neg q9] at h
    refine z_aload_n dX4_liveByRule_42 rfl ?_
    refine z_aload_n dX4_liveByRule_43 rfl ?_
    refine z_iload dX4_liveByRule_44 rfl ?_
    obtain ⟨r10, S12, hc11, h⟩ := zb_elim h
    refine z_callV (As := [.ref k1, .int x4]) zcX4 zkX4_102 ziX4_likedMost zqX4_likedMost h0.1 (tX4_likedMost T k0 k1 x4 S h0 h1 (r10, S12) hc11) rfl rfl (Nat.le_of_ble_eq_true rfl) (by decide) ⟨Nat.le_refl _, Nat.le_refl _⟩ ⟨Nat.le_refl _, Nat.le_refl _⟩ dX4_liveByRule_46 ?_
    refine z_istore dX4_liveByRule_49 rfl (by decide) rfl ?_
    refine z_iload dX4_liveByRule_51 rfl ?_
    refine z_iconst dX4_liveByRule_53 cI_m1 ?_
    refine z_icmp_eq (tgt := 77) dX4_liveByRule_54 (by decide) (fun q13 => ?_) (fun q13 => ?_)
    · rw [if_pos q13] at h
      cases h
      exact z_mask [true, true, true, false, true, false, false] rfl (K2_0 _ rfl)
    · rw [if_neg q13] at h
      refine z_aload_n dX4_liveByRule_57 rfl ?_
      refine z_iload dX4_liveByRule_58 rfl ?_
      refine z_iload dX4_liveByRule_60 rfl ?_
      obtain ⟨r14, S16, hc15, h⟩ := zb_elim h
      refine z_callV (As := [.int r10, .int x4]) zcX4 zkX4_106 ziX4_fetchOne zqX4_fetchOne h0.1 (tX4_fetchOne T k0 r10 x4 S12 h0 (r14, S16) hc15) rfl rfl (Nat.le_of_ble_eq_true rfl) (by decide) ⟨Nat.le_refl _, Nat.le_refl _⟩ ⟨Nat.le_refl _, Nat.le_refl _⟩ dX4_liveByRule_62 ?_
      refine z_if_ne (tgt := 71) dX4_liveByRule_65 (by decide) (fun q17 => ?_) (fun q17 => ?_)
      · rw [if_neg q17] at h
        obtain ⟨u18, eu18, h⟩ := zlet_elim h
        refine z_iinc (r := u18) dX4_liveByRule_71 rfl (by rw [eu18, cI_1]) rfl (by decide) rfl ?_
        refine z_goto (tgt := 35) dX4_liveByRule_74 (by decide) ?_
        cases h
        exact z_mask [true, true, true, false, true, true, false] rfl (K1 _ rfl)
      · rw [if_pos q17] at h
        cases h
        exact z_mask [true, true, true, false, true, false, false] rfl (K2_1 _ rfl)
set_option maxHeartbeats 4000000 in
set_option maxRecDepth 100000 in
theorem tX4_liveByRule_l35 (T : zT) (k0 : Nat) (k1 : Nat) (l2 : Int64) (x4 : Int32) (h0 : iX4 T k0) (h1 : iX8 T k1) {g : zG} {v : Option Value} {S' : zS} : ∀ (n : Nat) (a : (Int32 × zS)) (e : (zS ⊕ zS)), lpn (fun a => fX4_liveByRule_l35 T k0 k1 l2 x4 a.1 a.2) n a = some e → (∀ e1 : zS, e = (.inl e1) → zg g 6 mX4_liveByRule T 77 [some (.ref k0), some (.ref k1), some (.long l2), none, some (.int x4), none, none] [] T e1 v T S') → (∀ e1 : zS, e = (.inr e1) → zg g 6 mX4_liveByRule T 68 [some (.ref k0), some (.ref k1), some (.long l2), none, some (.int x4), none, none] [] T e1 v T S') → zg g 6 mX4_liveByRule T 35 [some (.ref k0), some (.ref k1), some (.long l2), none, some (.int x4), some (.int a.1), none] [] T a.2 v T S' := by
  intro n
  induction n with
  | zero =>
    intro a e h
    cases h
  | succ n ih =>
    intro a e h k0_ k1_
    rcases lpn_succ h with ⟨a1, ha_, hb_⟩ | ha_
    · exact tX4_liveByRule_l35b T k0 k1 l2 x4 a.1 a.2 h0 h1 _ ha_ (fun a2 q => by cases q; exact ih a1 e hb_ k0_ k1_) (fun e1 q => by cases q) (fun e1 q => by cases q)
    · exact tX4_liveByRule_l35b T k0 k1 l2 x4 a.1 a.2 h0 h1 _ ha_ (fun a2 q => by cases q) (fun e1 q => by cases q; exact k0_ _ rfl) (fun e1 q => by cases q; exact k1_ _ rfl)
set_option maxHeartbeats 4000000 in
set_option maxRecDepth 100000 in
theorem tX4_liveByRule_b96 (T : zT) (k0 : Nat) (k1 : Nat) (l2 : Int64) (x4 : Int32) (s0 : Int32) (s1 : Int32) (s2 : Nat) (S : zS) (h0 : iX4 T k0) (h1 : iX8 T k1) (g2 : iX4 T s2) {g : zG} {v : Option Value} {S' : zS} (r : ((Int32 × zS) ⊕ (zS ⊕ zS))) (h : fX4_liveByRule_b96 T k0 k1 l2 x4 s0 s1 s2 S = some r) (K1 : ∀ a : (Int32 × zS), r = .inl a → zg g 6 mX4_liveByRule T 7 [some (.ref k0), some (.ref k1), some (.long l2), none, some (.int a.1), none, none] [] T a.2 v T S') (K2_0 : ∀ e : zS, r = .inr (.inl e) → zg g 6 mX4_liveByRule T 113 [none, none, none, none, none, none, none] [] T e v T S') (K2_1 : ∀ e : zS, r = .inr (.inr e) → zg g 6 mX4_liveByRule T 106 [none, none, none, none, none, none, none] [] T e v T S') : zg g 6 mX4_liveByRule T 96 [some (.ref k0), some (.ref k1), some (.long l2), none, some (.int x4), none, none] [.int s0, .int s1, .ref s2] T S v T S' := by
  unfold fX4_liveByRule_b96 at h
  obtain ⟨r21, S23, hc22, h⟩ := zb_elim h
  refine z_callV (As := [.int s1, .int s0]) zcX4 zkX4_93 ziX4_endWeek zqX4_endWeek g2.1 (tX4_endWeek T s2 s1 s0 S g2 (r21, S23) hc22) rfl rfl (Nat.le_of_ble_eq_true rfl) (by decide) ⟨Nat.le_refl _, Nat.le_refl _⟩ ⟨Nat.le_refl _, Nat.le_refl _⟩ dX4_liveByRule_96 ?_
  refine z_aload_n dX4_liveByRule_99 rfl ?_
  obtain ⟨r24, hc25, h⟩ := zb1_elim h
  refine z_callV (As := []) zcX4 zkX4_85 ziX4_isWell zqX4_isWell h0.1 (tX4_isWell T k0 S23 h0 r24 hc25) rfl rfl (Nat.le_of_ble_eq_true rfl) (by decide) ⟨Nat.le_refl _, Nat.le_refl _⟩ ⟨Nat.le_refl _, Nat.le_refl _⟩ dX4_liveByRule_100 ?_
  refine z_if_ne (tgt := 107) dX4_liveByRule_103 (by decide) (fun q26 => ?_) (fun q26 => ?_)
  · rw [if_neg q26] at h
    obtain ⟨u27, eu27, h⟩ := zlet_elim h
    refine z_iinc (r := u27) dX4_liveByRule_107 rfl (by rw [eu27, cI_1]) rfl (by decide) rfl ?_
    refine z_goto (tgt := 7) dX4_liveByRule_110 (by decide) ?_
    cases h
    exact z_mask [true, true, true, false, true, false, false] rfl (K1 _ rfl)
  · rw [if_pos q26] at h
    cases h
    exact z_mask [false, false, false, false, false, false, false] rfl (K2_1 _ rfl)
set_option maxHeartbeats 4000000 in
set_option maxRecDepth 100000 in
theorem tX4_liveByRule_b77 (T : zT) (k0 : Nat) (k1 : Nat) (l2 : Int64) (x4 : Int32) (S : zS) (h0 : iX4 T k0) (h1 : iX8 T k1) {g : zG} {v : Option Value} {S' : zS} (r : ((Int32 × zS) ⊕ (zS ⊕ zS))) (h : fX4_liveByRule_b77 T k0 k1 l2 x4 S = some r) (K1 : ∀ a : (Int32 × zS), r = .inl a → zg g 6 mX4_liveByRule T 7 [some (.ref k0), some (.ref k1), some (.long l2), none, some (.int a.1), none, none] [] T a.2 v T S') (K2_0 : ∀ e : zS, r = .inr (.inl e) → zg g 6 mX4_liveByRule T 113 [none, none, none, none, none, none, none] [] T e v T S') (K2_1 : ∀ e : zS, r = .inr (.inr e) → zg g 6 mX4_liveByRule T 106 [none, none, none, none, none, none, none] [] T e v T S') : zg g 6 mX4_liveByRule T 77 [some (.ref k0), some (.ref k1), some (.long l2), none, some (.int x4), none, none] [] T S v T S' := by
  unfold fX4_liveByRule_b77 at h
  refine z_aload_n dX4_liveByRule_77 rfl ?_
  refine z_iload dX4_liveByRule_78 rfl ?_
  refine z_lload_n dX4_liveByRule_80 rfl ?_
  refine z_iload dX4_liveByRule_81 rfl ?_
  refine z_lshr dX4_liveByRule_83 rfl ?_
  refine z_lconst (r := 1) dX4_liveByRule_84 rfl ?_
  refine z_land dX4_liveByRule_85 rfl ?_
  refine z_lconst (r := 0) dX4_liveByRule_86 rfl ?_
  refine z_lcmp dX4_liveByRule_87 rfl ?_
  refine z_if_eq (tgt := 95) dX4_liveByRule_88 (by decide) (fun q20 => ?_) (fun q20 => ?_)
  · rw [if_pos q20] at h
    refine z_iconst dX4_liveByRule_95 cI_0 ?_
    exact z_mask [true, true, true, false, true, false, false] rfl (tX4_liveByRule_b96 T k0 k1 l2 x4 0 x4 k0 S h0 h1 h0 r h K1 K2_0 K2_1)
  · rw [if_neg q20] at h
    refine z_iconst dX4_liveByRule_91 cI_1 ?_
    refine z_goto (tgt := 96) dX4_liveByRule_92 (by decide) ?_
    exact z_mask [true, true, true, false, true, false, false] rfl (tX4_liveByRule_b96 T k0 k1 l2 x4 1 x4 k0 S h0 h1 h0 r h K1 K2_0 K2_1)
set_option maxHeartbeats 4000000 in
set_option maxRecDepth 100000 in
theorem tX4_liveByRule_l7b (T : zT) (k0 : Nat) (k1 : Nat) (l2 : Int64) (x4 : Int32) (S : zS) (h0 : iX4 T k0) (h1 : iX8 T k1) {g : zG} {v : Option Value} {S' : zS} (r : (Int32 × zS) ⊕ (zS ⊕ zS)) (h : fX4_liveByRule_l7 T k0 k1 l2 x4 S = some r) (K1 : ∀ a : (Int32 × zS), r = .inl a → zg g 6 mX4_liveByRule T 7 [some (.ref k0), some (.ref k1), some (.long l2), none, some (.int a.1), none, none] [] T a.2 v T S') (K2_0 : ∀ e : zS, r = .inr (.inl e) → zg g 6 mX4_liveByRule T 113 [none, none, none, none, none, none, none] [] T e v T S') (K2_1 : ∀ e : zS, r = .inr (.inr e) → zg g 6 mX4_liveByRule T 106 [none, none, none, none, none, none, none] [] T e v T S') : zg g 6 mX4_liveByRule T 7 [some (.ref k0), some (.ref k1), some (.long l2), none, some (.int x4), none, none] [] T S v T S' := by
  unfold fX4_liveByRule_l7 at h
  refine z_iload dX4_liveByRule_7 rfl ?_
  refine z_aload_n dX4_liveByRule_9 rfl ?_
  refine z_gR (zF.x zfX4_9) h0.1 dX4_liveByRule_10 ?_
  refine z_gI (zF.x zfX4_78) h0.2.1.1 dX4_liveByRule_13 ?_
  refine z_icmp_ge (tgt := 113) dX4_liveByRule_16 (by decide) (fun q4 => ?_) (fun q4 => ?_)
  · rw [if_pos q4] at h
    cases h
    exact z_mask [false, false, false, false, false, false, false] rfl (K2_0 _ rfl)
  · rw [if_neg q4] at h
    refine z_iload dX4_liveByRule_19 rfl ?_
    refine z_bipush dX4_liveByRule_21 cB_60 ?_
    refine z_icmp_ge (tgt := 113) dX4_liveByRule_23 (by decide) (fun q5 => ?_) (fun q5 => ?_)
    · rw [if_pos q5] at h
      cases h
      exact z_mask [false, false, false, false, false, false, false] rfl (K2_0 _ rfl)
    · rw [if_neg q5] at h
      refine z_aload_n dX4_liveByRule_26 rfl ?_
      refine z_iload dX4_liveByRule_27 rfl ?_
      obtain ⟨r6, S8, hc7, h⟩ := zb_elim h
      refine z_callV (As := [.int x4]) zcX4 zkX4_81 ziX4_startWeek zqX4_startWeek h0.1 (tX4_startWeek T k0 x4 S h0 (r6, S8) hc7) rfl rfl (Nat.le_of_ble_eq_true rfl) (by decide) ⟨Nat.le_refl _, Nat.le_refl _⟩ ⟨Nat.le_refl _, Nat.le_refl _⟩ dX4_liveByRule_29 ?_
      refine z_iconst dX4_liveByRule_32 cI_0 ?_
      refine z_istore dX4_liveByRule_33 rfl (by decide) rfl ?_
      obtain ⟨e19, hl28, h⟩ := zb1_elim h
      obtain ⟨nf29, hl28⟩ := lp_some hl28
      refine z_mask [true, true, true, false, true, true, false] rfl (tX4_liveByRule_l35 T k0 k1 l2 x4 h0 h1 nf29 (0, S8) e19 hl28 (fun e19_0 q => ?_) (fun e19_1 q => ?_))
      · cases q
        replace h := zsm_l h
        exact z_mask [true, true, true, false, true, false, false] rfl (tX4_liveByRule_b77 T k0 k1 l2 x4 e19_0 h0 h1 r h K1 K2_0 K2_1)
      · cases q
        replace h := zsm_r h
        refine z_goto (tgt := 77) dX4_liveByRule_68 (by decide) ?_
        exact z_mask [true, true, true, false, true, false, false] rfl (tX4_liveByRule_b77 T k0 k1 l2 x4 e19_1 h0 h1 r h K1 K2_0 K2_1)
set_option maxHeartbeats 4000000 in
set_option maxRecDepth 100000 in
theorem tX4_liveByRule_l7 (T : zT) (k0 : Nat) (k1 : Nat) (l2 : Int64) (h0 : iX4 T k0) (h1 : iX8 T k1) {g : zG} {v : Option Value} {S' : zS} : ∀ (n : Nat) (a : (Int32 × zS)) (e : (zS ⊕ zS)), lpn (fun a => fX4_liveByRule_l7 T k0 k1 l2 a.1 a.2) n a = some e → (∀ e1 : zS, e = (.inl e1) → zg g 6 mX4_liveByRule T 113 [none, none, none, none, none, none, none] [] T e1 v T S') → (∀ e1 : zS, e = (.inr e1) → zg g 6 mX4_liveByRule T 106 [none, none, none, none, none, none, none] [] T e1 v T S') → zg g 6 mX4_liveByRule T 7 [some (.ref k0), some (.ref k1), some (.long l2), none, some (.int a.1), none, none] [] T a.2 v T S' := by
  intro n
  induction n with
  | zero =>
    intro a e h
    cases h
  | succ n ih =>
    intro a e h k0_ k1_
    rcases lpn_succ h with ⟨a1, ha_, hb_⟩ | ha_
    · exact tX4_liveByRule_l7b T k0 k1 l2 a.1 a.2 h0 h1 _ ha_ (fun a2 q => by cases q; exact ih a1 e hb_ k0_ k1_) (fun e1 q => by cases q) (fun e1 q => by cases q)
    · exact tX4_liveByRule_l7b T k0 k1 l2 a.1 a.2 h0 h1 _ ha_ (fun a2 q => by cases q) (fun e1 q => by cases q; exact k0_ _ rfl) (fun e1 q => by cases q; exact k1_ _ rfl)
set_option maxHeartbeats 4000000 in
set_option maxRecDepth 100000 in
theorem tX4_liveByRule_b113 (T : zT)  (S : zS)  {g : zG} (r : (Unit × zS)) (h : fX4_liveByRule_b113 T  S = some r)  : zg g 6 mX4_liveByRule T 113 [none, none, none, none, none, none, none] [] T S none T r.2 := by
  unfold fX4_liveByRule_b113 at h
  cases h
  exact z_vret rfl dX4_liveByRule_113
set_option maxHeartbeats 4000000 in
set_option maxRecDepth 100000 in
theorem tX4_liveByRule (T : zT) (k0 : Nat) (k1 : Nat) (l2 : Int64) (S : zS) (h0 : iX4 T k0) (h1 : iX8 T k1) (r : Unit × zS) (h : fX4_liveByRule T k0 k1 l2 S = some r) : zGM 6 mX4_liveByRule [.ref k0, .ref k1, .long l2] T S none T r.2 := by
  refine zGM_of zpnX4 rfl (Nat.le_of_ble_eq_true rfl) (fun g => ?_)
  show zg g 6 mX4_liveByRule T 0 [some (.ref k0), some (.ref k1), some (.long l2), none, none, none, none] [] T S none T r.2
  unfold fX4_liveByRule at h
  refine z_aload_n dX4_liveByRule_0 rfl ?_
  obtain ⟨r1, S3, hc2, h⟩ := zb_elim h
  refine z_callV (As := []) zcX4 zkX4_75 ziX4_begin zqX4_begin h0.1 (tX4_begin T k0 S h0 (r1, S3) hc2) rfl rfl (Nat.le_of_ble_eq_true rfl) (by decide) ⟨Nat.le_refl _, Nat.le_refl _⟩ ⟨Nat.le_refl _, Nat.le_refl _⟩ dX4_liveByRule_1 ?_
  refine z_iconst dX4_liveByRule_4 cI_0 ?_
  refine z_istore dX4_liveByRule_5 rfl (by decide) rfl ?_
  obtain ⟨e30, hl31, h⟩ := zb1_elim h
  obtain ⟨nf32, hl31⟩ := lp_some hl31
  refine z_mask [true, true, true, false, true, false, false] rfl (tX4_liveByRule_l7 T k0 k1 l2 h0 h1 nf32 (0, S3) e30 hl31 (fun e30_0 q => ?_) (fun e30_1 q => ?_))
  · cases q
    replace h := zsm_l h
    exact z_mask [false, false, false, false, false, false, false] rfl (tX4_liveByRule_b113 T  e30_0  r h)
  · cases q
    replace h := zsm_r h
    cases h
    exact z_vret rfl dX4_liveByRule_106
