/-! X6_next -/
noncomputable def fX6_next_b85 (T : zT)  (S : zS) : Option (Unit × zS) :=
  some ((), S)
noncomputable def fX6_next_b27 (T : zT) (k0 : Nat) (S : zS) : Option (Unit × zS) :=
  zlet (zI S k0 1 ((S.1 k0 1) + 1)) fun S2 => zgd (zin (S2.1 k0 1) 401) (zlet (zI S2 k0 2 (S2.1 (zr T (zr T k0 0) 0) ((S2.1 k0 1) : Int32).toNatClampNeg)) fun S4 => zgd (zin (S4.1 k0 1) 401) (zlet (zI S4 k0 3 (S4.1 (zr T (zr T k0 0) 1) ((S4.1 k0 1) : Int32).toNatClampNeg)) fun S6 => zgd (zin (S6.1 k0 1) 401) (zlet (zI S6 k0 4 (S6.1 (zr T (zr T k0 0) 2) ((S6.1 k0 1) : Int32).toNatClampNeg)) fun S8 => fX6_next_b85 T  S8)))
noncomputable def fX6_next (T : zT) (k0 : Nat) (S : zS) : Option (Unit × zS) :=
  if (S.1 k0 1) = (-1) then fX6_next_b27 T k0 S else if (S.1 k0 2) = 46 then fX6_next_b85 T  S else if 400 ≤ (S.1 k0 1) then fX6_next_b85 T  S else fX6_next_b27 T k0 S
set_option maxHeartbeats 4000000 in
set_option maxRecDepth 100000 in
theorem tX6_next_b85 (T : zT)  (S : zS)  {g : zG} (r : (Unit × zS)) (h : fX6_next_b85 T  S = some r)  : zg g 0 mX6_next T 85 [none] [] T S none T r.2 := by
  unfold fX6_next_b85 at h
  cases h
  exact z_vret rfl dX6_next_85
set_option maxHeartbeats 4000000 in
set_option maxRecDepth 100000 in
theorem tX6_next_b27 (T : zT) (k0 : Nat) (S : zS) (h0 : iX6n T k0) {g : zG} (r : (Unit × zS)) (h : fX6_next_b27 T k0 S = some r)  : zg g 0 mX6_next T 27 [some (.ref k0)] [] T S none T r.2 := by
  unfold fX6_next_b27 at h
  refine z_aload_n dX6_next_27 rfl ?_
  refine z_dup dX6_next_28 rfl ?_
  refine z_gI (zF.x zfX6_22) h0.1 dX6_next_29 ?_
  refine z_iconst dX6_next_32 cI_1 ?_
  refine z_iadd dX6_next_33 rfl ?_
  refine z_putI zfX6_22 h0.1 dX6_next_34 ?_
  obtain ⟨S2, eS2, h⟩ := zlet_elim h
  refine z_tS eS2 ?_
  refine z_aload_n dX6_next_37 rfl ?_
  refine z_aload_n dX6_next_38 rfl ?_
  refine z_gR (zF.x zfX6_12) h0.1 dX6_next_39 ?_
  refine z_gA zfX6_49 h0.2.1 dX6_next_42 ?_
  refine z_aload_n dX6_next_45 rfl ?_
  refine z_gI (zF.x zfX6_22) h0.1 dX6_next_46 ?_
  obtain ⟨q3, h⟩ := zgd_elim h
  refine z_iald h0.2.2.1 (zin_ok q3) dX6_next_49 ?_
  refine z_putI zfX6_46 h0.1 dX6_next_50 ?_
  obtain ⟨S4, eS4, h⟩ := zlet_elim h
  refine z_tS eS4 ?_
  refine z_aload_n dX6_next_53 rfl ?_
  refine z_aload_n dX6_next_54 rfl ?_
  refine z_gR (zF.x zfX6_12) h0.1 dX6_next_55 ?_
  refine z_gA zfX6_53 h0.2.1 dX6_next_58 ?_
  refine z_aload_n dX6_next_61 rfl ?_
  refine z_gI (zF.x zfX6_22) h0.1 dX6_next_62 ?_
  obtain ⟨q5, h⟩ := zgd_elim h
  refine z_iald h0.2.2.2.1 (zin_ok q5) dX6_next_65 ?_
  refine z_putI zfX6_56 h0.1 dX6_next_66 ?_
  obtain ⟨S6, eS6, h⟩ := zlet_elim h
  refine z_tS eS6 ?_
  refine z_aload_n dX6_next_69 rfl ?_
  refine z_aload_n dX6_next_70 rfl ?_
  refine z_gR (zF.x zfX6_12) h0.1 dX6_next_71 ?_
  refine z_gA zfX6_59 h0.2.1 dX6_next_74 ?_
  refine z_aload_n dX6_next_77 rfl ?_
  refine z_gI (zF.x zfX6_22) h0.1 dX6_next_78 ?_
  obtain ⟨q7, h⟩ := zgd_elim h
  refine z_iald h0.2.2.2.2 (zin_ok q7) dX6_next_81 ?_
  refine z_putI zfX6_62 h0.1 dX6_next_82 ?_
  obtain ⟨S8, eS8, h⟩ := zlet_elim h
  refine z_tS eS8 ?_
  exact z_mask [false] rfl (tX6_next_b85 T  S8  r h)
set_option maxHeartbeats 4000000 in
set_option maxRecDepth 100000 in
theorem tX6_next (T : zT) (k0 : Nat) (S : zS) (h0 : iX6n T k0) (r : Unit × zS) (h : fX6_next T k0 S = some r) : zGM 0 mX6_next [.ref k0] T S none T r.2 := by
  refine zGM_of zpnX6 rfl (Nat.le_of_ble_eq_true rfl) (fun g => ?_)
  show zg g 0 mX6_next T 0 [some (.ref k0)] [] T S none T r.2
  unfold fX6_next at h
  refine z_aload_n dX6_next_0 rfl ?_
  refine z_gI (zF.x zfX6_22) h0.1 dX6_next_1 ?_
  refine z_iconst dX6_next_4 cI_m1 ?_
  refine z_icmp_eq (tgt := 27) dX6_next_5 (by decide) (fun q1 => ?_) (fun q1 => ?_)
  · rw [if_pos q1] at h
    exact z_mask [true] rfl (tX6_next_b27 T k0 S h0 r h)
  · rw [if_neg q1] at h
    refine z_aload_n dX6_next_8 rfl ?_
    refine z_gI (zF.x zfX6_46) h0.1 dX6_next_9 ?_
    refine z_bipush dX6_next_12 cB_46 ?_
    refine z_icmp_eq (tgt := 85) dX6_next_14 (by decide) (fun q9 => ?_) (fun q9 => ?_)
    · rw [if_pos q9] at h
      exact z_mask [false] rfl (tX6_next_b85 T  S  r h)
    · rw [if_neg q9] at h
      refine z_aload_n dX6_next_17 rfl ?_
      refine z_gI (zF.x zfX6_22) h0.1 dX6_next_18 ?_
      refine z_sipush dX6_next_21 cS_400 ?_
      refine z_icmp_ge (tgt := 85) dX6_next_24 (by decide) (fun q10 => ?_) (fun q10 => ?_)
      · rw [if_pos q10] at h
        exact z_mask [false] rfl (tX6_next_b85 T  S  r h)
      · rw [if_neg q10] at h
        exact z_mask [true] rfl (tX6_next_b27 T k0 S h0 r h)
/-! X6_isOnceOnly -/
noncomputable def fX6_isOnceOnly_b49 (T : zT) (s0 : Int32) (S : zS) : Option Int32 :=
  zgd (zbl s0) (some s0)
noncomputable def fX6_isOnceOnly_b44 (T : zT)  (S : zS) : Option Int32 :=
  fX6_isOnceOnly_b49 T 1 S
noncomputable def fX6_isOnceOnly (T : zT) (k0 : Nat) (S : zS) : Option Int32 :=
  if (S.1 k0 2) = 5 then fX6_isOnceOnly_b44 T  S else if (S.1 k0 2) = 6 then fX6_isOnceOnly_b44 T  S else if (S.1 k0 2) = 8 then fX6_isOnceOnly_b44 T  S else if (S.1 k0 2) = 9 then fX6_isOnceOnly_b44 T  S else if (S.1 k0 2) = 15 then fX6_isOnceOnly_b44 T  S else fX6_isOnceOnly_b49 T 0 S
set_option maxHeartbeats 4000000 in
set_option maxRecDepth 100000 in
theorem tX6_isOnceOnly_b49 (T : zT) (s0 : Int32) (S : zS)  {g : zG} (r : Int32) (h : fX6_isOnceOnly_b49 T s0 S = some r)  : zg g 0 mX6_isOnceOnly T 49 [none] [.int s0] T S (some (.int r)) T S := by
  unfold fX6_isOnceOnly_b49 at h
  obtain ⟨q2, h⟩ := zgd_elim h
  cases h
  exact z_zret rfl (zbl_ok q2) dX6_isOnceOnly_49
set_option maxHeartbeats 4000000 in
set_option maxRecDepth 100000 in
theorem tX6_isOnceOnly_b44 (T : zT)  (S : zS)  {g : zG} (r : Int32) (h : fX6_isOnceOnly_b44 T  S = some r)  : zg g 0 mX6_isOnceOnly T 44 [none] [] T S (some (.int r)) T S := by
  unfold fX6_isOnceOnly_b44 at h
  refine z_iconst dX6_isOnceOnly_44 cI_1 ?_
  refine z_goto (tgt := 49) dX6_isOnceOnly_45 (by decide) ?_
  exact z_mask [false] rfl (tX6_isOnceOnly_b49 T 1 S  r h)
set_option maxHeartbeats 4000000 in
set_option maxRecDepth 100000 in
theorem tX6_isOnceOnly (T : zT) (k0 : Nat) (S : zS) (h0 : iX6 T k0) (r : Int32) (h : fX6_isOnceOnly T k0 S = some r) : zGM 0 mX6_isOnceOnly [.ref k0] T S (some (.int r)) T S := by
  refine zGM_of zpnX6 rfl (Nat.le_of_ble_eq_true rfl) (fun g => ?_)
  show zg g 0 mX6_isOnceOnly T 0 [some (.ref k0)] [] T S (some (.int r)) T S
  unfold fX6_isOnceOnly at h
  refine z_aload_n dX6_isOnceOnly_0 rfl ?_
  refine z_gI (zF.x zfX6_46) h0.1 dX6_isOnceOnly_1 ?_
  refine z_iconst dX6_isOnceOnly_4 cI_5 ?_
  refine z_icmp_eq (tgt := 44) dX6_isOnceOnly_5 (by decide) (fun q1 => ?_) (fun q1 => ?_)
  · rw [if_pos q1] at h
    exact z_mask [false] rfl (tX6_isOnceOnly_b44 T  S  r h)
  · rw [if_neg q1] at h
    refine z_aload_n dX6_isOnceOnly_8 rfl ?_
    refine z_gI (zF.x zfX6_46) h0.1 dX6_isOnceOnly_9 ?_
    refine z_bipush dX6_isOnceOnly_12 cB_6 ?_
    refine z_icmp_eq (tgt := 44) dX6_isOnceOnly_14 (by decide) (fun q3 => ?_) (fun q3 => ?_)
    · rw [if_pos q3] at h
      exact z_mask [false] rfl (tX6_isOnceOnly_b44 T  S  r h)
    · rw [if_neg q3] at h
      refine z_aload_n dX6_isOnceOnly_17 rfl ?_
      refine z_gI (zF.x zfX6_46) h0.1 dX6_isOnceOnly_18 ?_
      refine z_bipush dX6_isOnceOnly_21 cB_8 ?_
      refine z_icmp_eq (tgt := 44) dX6_isOnceOnly_23 (by decide) (fun q4 => ?_) (fun q4 => ?_)
      · rw [if_pos q4] at h
        exact z_mask [false] rfl (tX6_isOnceOnly_b44 T  S  r h)
      · rw [if_neg q4] at h
        refine z_aload_n dX6_isOnceOnly_26 rfl ?_
        refine z_gI (zF.x zfX6_46) h0.1 dX6_isOnceOnly_27 ?_
        refine z_bipush dX6_isOnceOnly_30 cB_9 ?_
        refine z_icmp_eq (tgt := 44) dX6_isOnceOnly_32 (by decide) (fun q5 => ?_) (fun q5 => ?_)
        · rw [if_pos q5] at h
          exact z_mask [false] rfl (tX6_isOnceOnly_b44 T  S  r h)
        · rw [if_neg q5] at h
          refine z_aload_n dX6_isOnceOnly_35 rfl ?_
          refine z_gI (zF.x zfX6_46) h0.1 dX6_isOnceOnly_36 ?_
          refine z_bipush dX6_isOnceOnly_39 cB_15 ?_
          refine z_icmp_ne (tgt := 48) dX6_isOnceOnly_41 (by decide) (fun q6 => ?_) (fun q6 => ?_)
          · rw [if_neg q6] at h
            refine z_iconst dX6_isOnceOnly_48 cI_0 ?_
            exact z_mask [false] rfl (tX6_isOnceOnly_b49 T 0 S  r h)
          · rw [if_pos q6] at h
            exact z_mask [false] rfl (tX6_isOnceOnly_b44 T  S  r h)
/-! X6_isValueWord -/
noncomputable def fX6_isValueWord_b27 (T : zT)  (S : zS) : Option Int32 :=
  some 1
noncomputable def fX6_isValueWord_b77 (T : zT) (s0 : Int32) (S : zS) : Option Int32 :=
  zgd (zbl s0) (some s0)
noncomputable def fX6_isValueWord_b76 (T : zT)  (S : zS) : Option Int32 :=
  fX6_isValueWord_b77 T 0 S
noncomputable def fX6_isValueWord_b72 (T : zT)  (S : zS) : Option Int32 :=
  fX6_isValueWord_b77 T 1 S
noncomputable def fX6_isValueWord_b54 (T : zT) (k0 : Nat) (S : zS) : Option Int32 :=
  if (S.1 k0 2) = 13 then fX6_isValueWord_b72 T  S else if (S.1 k0 2) = 8 then fX6_isValueWord_b72 T  S else fX6_isValueWord_b76 T  S
noncomputable def fX6_isValueWord (T : zT) (k0 : Nat) (S : zS) : Option Int32 :=
  if (S.1 k0 2) = 19 then fX6_isValueWord_b27 T  S else if (S.1 k0 2) = 20 then fX6_isValueWord_b27 T  S else if (S.1 k0 2) = 21 then fX6_isValueWord_b27 T  S else if (S.1 k0 8) = 0 then fX6_isValueWord_b76 T  S else if (S.1 k0 2) < 22 then fX6_isValueWord_b54 T k0 S else if (S.1 k0 2) ≤ 25 then fX6_isValueWord_b72 T  S else fX6_isValueWord_b54 T k0 S
set_option maxHeartbeats 4000000 in
set_option maxRecDepth 100000 in
theorem tX6_isValueWord_b27 (T : zT)  (S : zS)  {g : zG} (r : Int32) (h : fX6_isValueWord_b27 T  S = some r)  : zg g 0 mX6_isValueWord T 27 [none] [] T S (some (.int r)) T S := by
  unfold fX6_isValueWord_b27 at h
  refine z_iconst dX6_isValueWord_27 cI_1 ?_
  cases h
  exact z_zret rfl (Or.inr rfl) dX6_isValueWord_28
set_option maxHeartbeats 4000000 in
set_option maxRecDepth 100000 in
theorem tX6_isValueWord_b77 (T : zT) (s0 : Int32) (S : zS)  {g : zG} (r : Int32) (h : fX6_isValueWord_b77 T s0 S = some r)  : zg g 0 mX6_isValueWord T 77 [none] [.int s0] T S (some (.int r)) T S := by
  unfold fX6_isValueWord_b77 at h
  obtain ⟨q5, h⟩ := zgd_elim h
  cases h
  exact z_zret rfl (zbl_ok q5) dX6_isValueWord_77
set_option maxHeartbeats 4000000 in
set_option maxRecDepth 100000 in
theorem tX6_isValueWord_b76 (T : zT)  (S : zS)  {g : zG} (r : Int32) (h : fX6_isValueWord_b76 T  S = some r)  : zg g 0 mX6_isValueWord T 76 [none] [] T S (some (.int r)) T S := by
  unfold fX6_isValueWord_b76 at h
  refine z_iconst dX6_isValueWord_76 cI_0 ?_
  exact z_mask [false] rfl (tX6_isValueWord_b77 T 0 S  r h)
set_option maxHeartbeats 4000000 in
set_option maxRecDepth 100000 in
theorem tX6_isValueWord_b72 (T : zT)  (S : zS)  {g : zG} (r : Int32) (h : fX6_isValueWord_b72 T  S = some r)  : zg g 0 mX6_isValueWord T 72 [none] [] T S (some (.int r)) T S := by
  unfold fX6_isValueWord_b72 at h
  refine z_iconst dX6_isValueWord_72 cI_1 ?_
  refine z_goto (tgt := 77) dX6_isValueWord_73 (by decide) ?_
  exact z_mask [false] rfl (tX6_isValueWord_b77 T 1 S  r h)
set_option maxHeartbeats 4000000 in
set_option maxRecDepth 100000 in
theorem tX6_isValueWord_b54 (T : zT) (k0 : Nat) (S : zS) (h0 : iX6 T k0) {g : zG} (r : Int32) (h : fX6_isValueWord_b54 T k0 S = some r)  : zg g 0 mX6_isValueWord T 54 [some (.ref k0)] [] T S (some (.int r)) T S := by
  unfold fX6_isValueWord_b54 at h
  refine z_aload_n dX6_isValueWord_54 rfl ?_
  refine z_gI (zF.x zfX6_46) h0.1 dX6_isValueWord_55 ?_
  refine z_bipush dX6_isValueWord_58 cB_13 ?_
  refine z_icmp_eq (tgt := 72) dX6_isValueWord_60 (by decide) (fun q7 => ?_) (fun q7 => ?_)
  · rw [if_pos q7] at h
    exact z_mask [false] rfl (tX6_isValueWord_b72 T  S  r h)
  · rw [if_neg q7] at h
    refine z_aload_n dX6_isValueWord_63 rfl ?_
    refine z_gI (zF.x zfX6_46) h0.1 dX6_isValueWord_64 ?_
    refine z_bipush dX6_isValueWord_67 cB_8 ?_
    refine z_icmp_ne (tgt := 76) dX6_isValueWord_69 (by decide) (fun q8 => ?_) (fun q8 => ?_)
    · rw [if_neg q8] at h
      exact z_mask [false] rfl (tX6_isValueWord_b76 T  S  r h)
    · rw [if_pos q8] at h
      exact z_mask [false] rfl (tX6_isValueWord_b72 T  S  r h)
set_option maxHeartbeats 4000000 in
set_option maxRecDepth 100000 in
theorem tX6_isValueWord (T : zT) (k0 : Nat) (S : zS) (h0 : iX6 T k0) (r : Int32) (h : fX6_isValueWord T k0 S = some r) : zGM 0 mX6_isValueWord [.ref k0] T S (some (.int r)) T S := by
  refine zGM_of zpnX6 rfl (Nat.le_of_ble_eq_true rfl) (fun g => ?_)
  show zg g 0 mX6_isValueWord T 0 [some (.ref k0)] [] T S (some (.int r)) T S
  unfold fX6_isValueWord at h
  refine z_aload_n dX6_isValueWord_0 rfl ?_
  refine z_gI (zF.x zfX6_46) h0.1 dX6_isValueWord_1 ?_
  refine z_bipush dX6_isValueWord_4 cB_19 ?_
  refine z_icmp_eq (tgt := 27) dX6_isValueWord_6 (by decide) (fun q1 => ?_) (fun q1 => ?_)
  · rw [if_pos q1] at h
    exact z_mask [false] rfl (tX6_isValueWord_b27 T  S  r h)
  · rw [if_neg q1] at h
    refine z_aload_n dX6_isValueWord_9 rfl ?_
    refine z_gI (zF.x zfX6_46) h0.1 dX6_isValueWord_10 ?_
    refine z_bipush dX6_isValueWord_13 cB_20 ?_
    refine z_icmp_eq (tgt := 27) dX6_isValueWord_15 (by decide) (fun q2 => ?_) (fun q2 => ?_)
    · rw [if_pos q2] at h
      exact z_mask [false] rfl (tX6_isValueWord_b27 T  S  r h)
    · rw [if_neg q2] at h
      refine z_aload_n dX6_isValueWord_18 rfl ?_
      refine z_gI (zF.x zfX6_46) h0.1 dX6_isValueWord_19 ?_
      refine z_bipush dX6_isValueWord_22 cB_21 ?_
      refine z_icmp_ne (tgt := 29) dX6_isValueWord_24 (by decide) (fun q3 => ?_) (fun q3 => ?_)
      · rw [if_neg q3] at h
        refine z_aload_n dX6_isValueWord_29 rfl ?_
        refine z_gZ (zF.x zfX6_42) h0.1 dX6_isValueWord_30 ?_
        refine z_if_eq (tgt := 76) dX6_isValueWord_33 (by decide) (fun q4 => ?_) (fun q4 => ?_)
        · rw [if_pos q4] at h
          exact z_mask [false] rfl (tX6_isValueWord_b76 T  S  r h)
        · rw [if_neg q4] at h
          refine z_aload_n dX6_isValueWord_36 rfl ?_
          refine z_gI (zF.x zfX6_46) h0.1 dX6_isValueWord_37 ?_
          refine z_bipush dX6_isValueWord_40 cB_22 ?_
          refine z_icmp_lt (tgt := 54) dX6_isValueWord_42 (by decide) (fun q6 => ?_) (fun q6 => ?_)
          · rw [if_pos q6] at h
            exact z_mask [true] rfl (tX6_isValueWord_b54 T k0 S h0 r h)
          · rw [if_neg q6] at h
            refine z_aload_n dX6_isValueWord_45 rfl ?_
            refine z_gI (zF.x zfX6_46) h0.1 dX6_isValueWord_46 ?_
            refine z_bipush dX6_isValueWord_49 cB_25 ?_
            refine z_icmp_le (tgt := 72) dX6_isValueWord_51 (by decide) (fun q9 => ?_) (fun q9 => ?_)
            · rw [if_pos q9] at h
              exact z_mask [false] rfl (tX6_isValueWord_b72 T  S  r h)
            · rw [if_neg q9] at h
              exact z_mask [true] rfl (tX6_isValueWord_b54 T k0 S h0 r h)
      · rw [if_pos q3] at h
        exact z_mask [false] rfl (tX6_isValueWord_b27 T  S  r h)
/-! X6_fail -/
noncomputable def fX6_fail_b22 (T : zT)  (S : zS) : Option (Unit × zS) :=
  some ((), S)
noncomputable def fX6_fail (T : zT) (k0 : Nat) (x1 : Int32) (S : zS) : Option (Unit × zS) :=
  if (S.1 k0 5) = 0 then zlet (zI S k0 5 ((1 + (8 * (S.1 k0 4))) + x1)) fun S2 => fX6_fail_b22 T  S2 else fX6_fail_b22 T  S
set_option maxHeartbeats 4000000 in
set_option maxRecDepth 100000 in
theorem tX6_fail_b22 (T : zT)  (S : zS)  {g : zG} (r : (Unit × zS)) (h : fX6_fail_b22 T  S = some r)  : zg g 0 mX6_fail T 22 [none, none] [] T S none T r.2 := by
  unfold fX6_fail_b22 at h
  cases h
  exact z_vret rfl dX6_fail_22
set_option maxHeartbeats 4000000 in
set_option maxRecDepth 100000 in
theorem tX6_fail (T : zT) (k0 : Nat) (x1 : Int32) (S : zS) (h0 : iX6 T k0) (r : Unit × zS) (h : fX6_fail T k0 x1 S = some r) : zGM 0 mX6_fail [.ref k0, .int x1] T S none T r.2 := by
  refine zGM_of zpnX6 rfl (Nat.le_of_ble_eq_true rfl) (fun g => ?_)
  show zg g 0 mX6_fail T 0 [some (.ref k0), some (.int x1)] [] T S none T r.2
  unfold fX6_fail at h
  refine z_aload_n dX6_fail_0 rfl ?_
  refine z_gI (zF.x zfX6_29) h0.1 dX6_fail_1 ?_
  refine z_if_ne (tgt := 22) dX6_fail_4 (by decide) (fun q1 => ?_) (fun q1 => ?_)
  · rw [if_neg q1] at h
    exact z_mask [false, false] rfl (tX6_fail_b22 T  S  r h)
  · rw [if_pos q1] at h
    refine z_aload_n dX6_fail_7 rfl ?_
    refine z_iconst dX6_fail_8 cI_1 ?_
    refine z_bipush dX6_fail_9 cB_8 ?_
    refine z_aload_n dX6_fail_11 rfl ?_
    refine z_gI (zF.x zfX6_62) h0.1 dX6_fail_12 ?_
    refine z_imul dX6_fail_15 rfl ?_
    refine z_iadd dX6_fail_16 rfl ?_
    refine z_iload_n dX6_fail_17 rfl ?_
    refine z_iadd dX6_fail_18 rfl ?_
    refine z_putI zfX6_29 h0.1 dX6_fail_19 ?_
    obtain ⟨S2, eS2, h⟩ := zlet_elim h
    refine z_tS eS2 ?_
    exact z_mask [false, false] rfl (tX6_fail_b22 T  S2  r h)
/-! X10_add -/
noncomputable def fX10_add_b50 (T : zT)  (S : zS) : Option (Unit × zS) :=
  some ((), S)
noncomputable def fX10_add (T : zT) (k0 : Nat) (x1 : Int32) (x2 : Int32) (x3 : Int32) (S : zS) : Option (Unit × zS) :=
  if 400 < (S.1 k0 3) then fX10_add_b50 T  S else zgd (zin (S.1 k0 3) 401) (zlet (zI S (zr T k0 0) ((S.1 k0 3) : Int32).toNatClampNeg x1) fun S3 => zgd (zin (S3.1 k0 3) 401) (zlet (zI S3 (zr T k0 1) ((S3.1 k0 3) : Int32).toNatClampNeg x2) fun S5 => zgd (zin (S5.1 k0 3) 401) (zlet (zI S5 (zr T k0 2) ((S5.1 k0 3) : Int32).toNatClampNeg x3) fun S7 => zlet (zI S7 k0 3 ((S7.1 k0 3) + 1)) fun S8 => fX10_add_b50 T  S8)))
set_option maxHeartbeats 4000000 in
set_option maxRecDepth 100000 in
theorem tX10_add_b50 (T : zT)  (S : zS)  {g : zG} (r : (Unit × zS)) (h : fX10_add_b50 T  S = some r)  : zg g 0 mX10_add T 50 [none, none, none, none] [] T S none T r.2 := by
  unfold fX10_add_b50 at h
  cases h
  exact z_vret rfl dX10_add_50
set_option maxHeartbeats 4000000 in
set_option maxRecDepth 100000 in
theorem tX10_add (T : zT) (k0 : Nat) (x1 : Int32) (x2 : Int32) (x3 : Int32) (S : zS) (h0 : iX10 T k0) (r : Unit × zS) (h : fX10_add T k0 x1 x2 x3 S = some r) : zGM 0 mX10_add [.ref k0, .int x1, .int x2, .int x3] T S none T r.2 := by
  refine zGM_of zpnX10 rfl (Nat.le_of_ble_eq_true rfl) (fun g => ?_)
  show zg g 0 mX10_add T 0 [some (.ref k0), some (.int x1), some (.int x2), some (.int x3)] [] T S none T r.2
  unfold fX10_add at h
  refine z_aload_n dX10_add_0 rfl ?_
  refine z_gI (zF.x zfX10_21) h0.1 dX10_add_1 ?_
  refine z_sipush dX10_add_4 cS_400 ?_
  refine z_icmp_gt (tgt := 50) dX10_add_7 (by decide) (fun q1 => ?_) (fun q1 => ?_)
  · rw [if_pos q1] at h
    exact z_mask [false, false, false, false] rfl (tX10_add_b50 T  S  r h)
  · rw [if_neg q1] at h
    refine z_aload_n dX10_add_10 rfl ?_
    refine z_gA (zF.x zfX10_9) h0.1 dX10_add_11 ?_
    refine z_aload_n dX10_add_14 rfl ?_
    refine z_gI (zF.x zfX10_21) h0.1 dX10_add_15 ?_
    refine z_iload_n dX10_add_18 rfl ?_
    obtain ⟨q2, h⟩ := zgd_elim h
    refine z_iast h0.2.1 (zin_ok q2) dX10_add_19 ?_
    obtain ⟨S3, eS3, h⟩ := zlet_elim h
    refine z_tS eS3 ?_
    refine z_aload_n dX10_add_20 rfl ?_
    refine z_gA (zF.x zfX10_15) h0.1 dX10_add_21 ?_
    refine z_aload_n dX10_add_24 rfl ?_
    refine z_gI (zF.x zfX10_21) h0.1 dX10_add_25 ?_
    refine z_iload_n dX10_add_28 rfl ?_
    obtain ⟨q4, h⟩ := zgd_elim h
    refine z_iast h0.2.2.1 (zin_ok q4) dX10_add_29 ?_
    obtain ⟨S5, eS5, h⟩ := zlet_elim h
    refine z_tS eS5 ?_
    refine z_aload_n dX10_add_30 rfl ?_
    refine z_gA (zF.x zfX10_18) h0.1 dX10_add_31 ?_
    refine z_aload_n dX10_add_34 rfl ?_
    refine z_gI (zF.x zfX10_21) h0.1 dX10_add_35 ?_
    refine z_iload_n dX10_add_38 rfl ?_
    obtain ⟨q6, h⟩ := zgd_elim h
    refine z_iast h0.2.2.2 (zin_ok q6) dX10_add_39 ?_
    obtain ⟨S7, eS7, h⟩ := zlet_elim h
    refine z_tS eS7 ?_
    refine z_aload_n dX10_add_40 rfl ?_
    refine z_dup dX10_add_41 rfl ?_
    refine z_gI (zF.x zfX10_21) h0.1 dX10_add_42 ?_
    refine z_iconst dX10_add_45 cI_1 ?_
    refine z_iadd dX10_add_46 rfl ?_
    refine z_putI zfX10_21 h0.1 dX10_add_47 ?_
    obtain ⟨S8, eS8, h⟩ := zlet_elim h
    refine z_tS eS8 ?_
    exact z_mask [false, false, false, false] rfl (tX10_add_b50 T  S8  r h)
/-! X10_behindRun -/
noncomputable def fX10_behindRun_l3 (T : zT) (k0 : Nat) (n0 : Nat) (x1 : Int32) (x3 : Int32) (x4 : Int32) (S : zS) (x5 : Int32) : Option (Int32 ⊕ (Unit ⊕ Int32)) :=
  if x1 ≤ x5 then some (.inr (.inl ())) else if (Int32.ofNat n0) ≤ x5 then some (.inr (.inl ())) else zgd (zin x5 n0) (if (S.1 k0 (x5 : Int32).toNatClampNeg) < x3 then some (.inr (.inr x5)) else zgd (zin x5 n0) (if (S.1 k0 (x5 : Int32).toNatClampNeg) ≤ x4 then zlet (x5 + 1) fun u7 => some (.inl u7) else some (.inr (.inr x5))))
noncomputable def fX10_behindRun_b42 (T : zT) (x1 : Int32) (S : zS) : Option Int32 :=
  some x1
noncomputable def fX10_behindRun_b33 (T : zT) (x5 : Int32) (S : zS) : Option Int32 :=
  some x5
noncomputable def fX10_behindRun (T : zT) (k0 : Nat) (n0 : Nat) (x1 : Int32) (x2 : Int32) (x3 : Int32) (x4 : Int32) (S : zS) : Option Int32 :=
  zb1 (lp (fun a => fX10_behindRun_l3 T k0 n0 x1 x3 x4 S a) x2) fun e8 => zsm e8 (fun e8_0 => fX10_behindRun_b42 T x1 S) (fun e8_1 => fX10_behindRun_b33 T e8_1 S)
set_option maxHeartbeats 4000000 in
set_option maxRecDepth 100000 in
theorem tX10_behindRun_l3b (T : zT) (k0 : Nat) (n0 : Nat) (x1 : Int32) (x3 : Int32) (x4 : Int32) (S : zS) (x5 : Int32) (h0 : zL T k0 20 n0) {g : zG} {v : Option Value} {S' : zS} (r : Int32 ⊕ (Unit ⊕ Int32)) (h : fX10_behindRun_l3 T k0 n0 x1 x3 x4 S x5 = some r) (K1 : ∀ a : Int32, r = .inl a → zg g 0 mX10_behindRun T 3 [some (.ref k0), some (.int x1), none, some (.int x3), some (.int x4), some (.int a)] [] T S v T S') (K2_0 : ∀ e : Unit, r = .inr (.inl e) → zg g 0 mX10_behindRun T 42 [none, some (.int x1), none, none, none, none] [] T S v T S') (K2_1 : ∀ e : Int32, r = .inr (.inr e) → zg g 0 mX10_behindRun T 33 [none, none, none, none, none, some (.int e)] [] T S v T S') : zg g 0 mX10_behindRun T 3 [some (.ref k0), some (.int x1), none, some (.int x3), some (.int x4), some (.int x5)] [] T S v T S' := by
  unfold fX10_behindRun_l3 at h
  refine z_iload dX10_behindRun_3 rfl ?_
  refine z_iload_n dX10_behindRun_5 rfl ?_
  refine z_icmp_ge (tgt := 42) dX10_behindRun_6 (by decide) (fun q1 => ?_) (fun q1 => ?_)
  · rw [if_pos q1] at h
    cases h
    exact z_mask [false, true, false, false, false, false] rfl (K2_0 _ rfl)
  · rw [if_neg q1] at h
    refine z_iload dX10_behindRun_9 rfl ?_
    refine z_aload_n dX10_behindRun_11 rfl ?_
    refine z_alenI h0 (by decide) dX10_behindRun_12 ?_
    refine z_icmp_ge (tgt := 42) dX10_behindRun_13 (by decide) (fun q2 => ?_) (fun q2 => ?_)
    · rw [if_pos q2] at h
      cases h
      exact z_mask [false, true, false, false, false, false] rfl (K2_0 _ rfl)
    · rw [if_neg q2] at h
      refine z_aload_n dX10_behindRun_16 rfl ?_
      refine z_iload dX10_behindRun_17 rfl ?_
      obtain ⟨q3, h⟩ := zgd_elim h
      refine z_iald h0 (zin_ok q3) dX10_behindRun_19 ?_
      refine z_iload_n dX10_behindRun_20 rfl ?_
      refine z_icmp_lt (tgt := 33) dX10_behindRun_21 (by decide) (fun q4 => ?_) (fun q4 => ?_)
      · rw [if_pos q4] at h
        cases h
        exact z_mask [false, false, false, false, false, true] rfl (K2_1 _ rfl)
      · rw [if_neg q4] at h
        refine z_aload_n dX10_behindRun_24 rfl ?_
        refine z_iload dX10_behindRun_25 rfl ?_
        obtain ⟨q5, h⟩ := zgd_elim h
        refine z_iald h0 (zin_ok q5) dX10_behindRun_27 ?_
        refine z_iload dX10_behindRun_28 rfl ?_
        refine z_icmp_le (tgt := 36) dX10_behindRun_30 (by decide) (fun q6 => ?_) (fun q6 => ?_)
        · rw [if_pos q6] at h
          obtain ⟨u7, eu7, h⟩ := zlet_elim h
          refine z_iinc (r := u7) dX10_behindRun_36 rfl (by rw [eu7, cI_1]) rfl (by decide) rfl ?_
          refine z_goto (tgt := 3) dX10_behindRun_39 (by decide) ?_
          cases h
          exact z_mask [true, true, false, true, true, true] rfl (K1 _ rfl)
        · rw [if_neg q6] at h
          cases h
          exact z_mask [false, false, false, false, false, true] rfl (K2_1 _ rfl)
set_option maxHeartbeats 4000000 in
set_option maxRecDepth 100000 in
theorem tX10_behindRun_l3 (T : zT) (k0 : Nat) (n0 : Nat) (x1 : Int32) (x3 : Int32) (x4 : Int32) (S : zS) (h0 : zL T k0 20 n0) {g : zG} {v : Option Value} {S' : zS} : ∀ (n : Nat) (a : Int32) (e : (Unit ⊕ Int32)), lpn (fun a => fX10_behindRun_l3 T k0 n0 x1 x3 x4 S a) n a = some e → (∀ e1 : Unit, e = (.inl e1) → zg g 0 mX10_behindRun T 42 [none, some (.int x1), none, none, none, none] [] T S v T S') → (∀ e1 : Int32, e = (.inr e1) → zg g 0 mX10_behindRun T 33 [none, none, none, none, none, some (.int e1)] [] T S v T S') → zg g 0 mX10_behindRun T 3 [some (.ref k0), some (.int x1), none, some (.int x3), some (.int x4), some (.int a)] [] T S v T S' := by
  intro n
  induction n with
  | zero =>
    intro a e h
    cases h
  | succ n ih =>
    intro a e h k0_ k1_
    rcases lpn_succ h with ⟨a1, ha_, hb_⟩ | ha_
    · exact tX10_behindRun_l3b T k0 n0 x1 x3 x4 S a h0 _ ha_ (fun a2 q => by cases q; exact ih a1 e hb_ k0_ k1_) (fun e1 q => by cases q) (fun e1 q => by cases q)
    · exact tX10_behindRun_l3b T k0 n0 x1 x3 x4 S a h0 _ ha_ (fun a2 q => by cases q) (fun e1 q => by cases q; exact k0_ _ rfl) (fun e1 q => by cases q; exact k1_ _ rfl)
set_option maxHeartbeats 4000000 in
set_option maxRecDepth 100000 in
theorem tX10_behindRun_b42 (T : zT) (x1 : Int32) (S : zS)  {g : zG} (r : Int32) (h : fX10_behindRun_b42 T x1 S = some r)  : zg g 0 mX10_behindRun T 42 [none, some (.int x1), none, none, none, none] [] T S (some (.int r)) T S := by
  unfold fX10_behindRun_b42 at h
  refine z_iload_n dX10_behindRun_42 rfl ?_
  cases h
  exact z_iret rfl dX10_behindRun_43
set_option maxHeartbeats 4000000 in
set_option maxRecDepth 100000 in
theorem tX10_behindRun_b33 (T : zT) (x5 : Int32) (S : zS)  {g : zG} (r : Int32) (h : fX10_behindRun_b33 T x5 S = some r)  : zg g 0 mX10_behindRun T 33 [none, none, none, none, none, some (.int x5)] [] T S (some (.int r)) T S := by
  unfold fX10_behindRun_b33 at h
  refine z_iload dX10_behindRun_33 rfl ?_
  cases h
  exact z_iret rfl dX10_behindRun_35
set_option maxHeartbeats 4000000 in
set_option maxRecDepth 100000 in
theorem tX10_behindRun (T : zT) (k0 : Nat) (n0 : Nat) (x1 : Int32) (x2 : Int32) (x3 : Int32) (x4 : Int32) (S : zS) (h0 : zL T k0 20 n0) (r : Int32) (h : fX10_behindRun T k0 n0 x1 x2 x3 x4 S = some r) : zGM 0 mX10_behindRun [.ref k0, .int x1, .int x2, .int x3, .int x4] T S (some (.int r)) T S := by
  refine zGM_of zpnX10 rfl (Nat.le_of_ble_eq_true rfl) (fun g => ?_)
  show zg g 0 mX10_behindRun T 0 [some (.ref k0), some (.int x1), some (.int x2), some (.int x3), some (.int x4), none] [] T S (some (.int r)) T S
  unfold fX10_behindRun at h
  refine z_iload_n dX10_behindRun_0 rfl ?_
  refine z_istore dX10_behindRun_1 rfl (by decide) rfl ?_
  obtain ⟨e8, hl9, h⟩ := zb1_elim h
  obtain ⟨nf10, hl9⟩ := lp_some hl9
  refine z_mask [true, true, false, true, true, true] rfl (tX10_behindRun_l3 T k0 n0 x1 x3 x4 S h0 nf10 x2 e8 hl9 (fun e8_0 q => ?_) (fun e8_1 q => ?_))
  · cases q
    replace h := zsm_l h
    exact z_mask [false, true, false, false, false, false] rfl (tX10_behindRun_b42 T x1 S  r h)
  · cases q
    replace h := zsm_r h
    exact z_mask [false, false, false, false, false, true] rfl (tX10_behindRun_b33 T e8_1 S  r h)
/-! X10_numberIn -/
noncomputable def fX10_numberIn_l5 (T : zT) (k0 : Nat) (n0 : Nat) (x2 : Int32) (S : zS) (x3 : Int32) (x4 : Int32) : Option ((Int32 × Int32) ⊕ Int32) :=
  if x2 ≤ x4 then some (.inr x3) else if (Int32.ofNat n0) ≤ x4 then some (.inr x3) else zgd (zin x4 n0) (zlet (((x3 * 10) + (S.1 k0 (x4 : Int32).toNatClampNeg)) - 48) fun u4 => zlet (x4 + 1) fun u5 => some (.inl (u4, u5)))
noncomputable def fX10_numberIn_b37 (T : zT) (x3 : Int32) (S : zS) : Option Int32 :=
  some x3
noncomputable def fX10_numberIn (T : zT) (k0 : Nat) (n0 : Nat) (x1 : Int32) (x2 : Int32) (S : zS) : Option Int32 :=
  zb1 (lp (fun a => fX10_numberIn_l5 T k0 n0 x2 S a.1 a.2) (0, x1)) fun e6 => fX10_numberIn_b37 T e6 S
set_option maxHeartbeats 4000000 in
set_option maxRecDepth 100000 in
theorem tX10_numberIn_l5b (T : zT) (k0 : Nat) (n0 : Nat) (x2 : Int32) (S : zS) (x3 : Int32) (x4 : Int32) (h0 : zL T k0 20 n0) {g : zG} {v : Option Value} {S' : zS} (r : (Int32 × Int32) ⊕ Int32) (h : fX10_numberIn_l5 T k0 n0 x2 S x3 x4 = some r) (K1 : ∀ a : (Int32 × Int32), r = .inl a → zg g 0 mX10_numberIn T 5 [some (.ref k0), none, some (.int x2), some (.int a.1), some (.int a.2)] [] T S v T S') (K2_0 : ∀ e : Int32, r = .inr e → zg g 0 mX10_numberIn T 37 [none, none, none, some (.int e), none] [] T S v T S') : zg g 0 mX10_numberIn T 5 [some (.ref k0), none, some (.int x2), some (.int x3), some (.int x4)] [] T S v T S' := by
  unfold fX10_numberIn_l5 at h
  refine z_iload dX10_numberIn_5 rfl ?_
  refine z_iload_n dX10_numberIn_7 rfl ?_
  refine z_icmp_ge (tgt := 37) dX10_numberIn_8 (by decide) (fun q1 => ?_) (fun q1 => ?_)
  · rw [if_pos q1] at h
    cases h
    exact z_mask [false, false, false, true, false] rfl (K2_0 _ rfl)
  · rw [if_neg q1] at h
    refine z_iload dX10_numberIn_11 rfl ?_
    refine z_aload_n dX10_numberIn_13 rfl ?_
    refine z_alenI h0 (by decide) dX10_numberIn_14 ?_
    refine z_icmp_ge (tgt := 37) dX10_numberIn_15 (by decide) (fun q2 => ?_) (fun q2 => ?_)
    · rw [if_pos q2] at h
      cases h
      exact z_mask [false, false, false, true, false] rfl (K2_0 _ rfl)
    · rw [if_neg q2] at h
      refine z_iload_n dX10_numberIn_18 rfl ?_
      refine z_bipush dX10_numberIn_19 cB_10 ?_
      refine z_imul dX10_numberIn_21 rfl ?_
      refine z_aload_n dX10_numberIn_22 rfl ?_
      refine z_iload dX10_numberIn_23 rfl ?_
      obtain ⟨q3, h⟩ := zgd_elim h
      refine z_iald h0 (zin_ok q3) dX10_numberIn_25 ?_
      refine z_iadd dX10_numberIn_26 rfl ?_
      refine z_bipush dX10_numberIn_27 cB_48 ?_
      refine z_isub dX10_numberIn_29 rfl ?_
      obtain ⟨u4, eu4, h⟩ := zlet_elim h
      refine z_ti eu4 ?_
      refine z_istore_n dX10_numberIn_30 rfl (by decide) rfl ?_
      obtain ⟨u5, eu5, h⟩ := zlet_elim h
      refine z_iinc (r := u5) dX10_numberIn_31 rfl (by rw [eu5, cI_1]) rfl (by decide) rfl ?_
      refine z_goto (tgt := 5) dX10_numberIn_34 (by decide) ?_
      cases h
      exact z_mask [true, false, true, true, true] rfl (K1 _ rfl)
set_option maxHeartbeats 4000000 in
set_option maxRecDepth 100000 in
theorem tX10_numberIn_l5 (T : zT) (k0 : Nat) (n0 : Nat) (x2 : Int32) (S : zS) (h0 : zL T k0 20 n0) {g : zG} {v : Option Value} {S' : zS} : ∀ (n : Nat) (a : (Int32 × Int32)) (e : Int32), lpn (fun a => fX10_numberIn_l5 T k0 n0 x2 S a.1 a.2) n a = some e → (∀ e1 : Int32, e = e1 → zg g 0 mX10_numberIn T 37 [none, none, none, some (.int e1), none] [] T S v T S') → zg g 0 mX10_numberIn T 5 [some (.ref k0), none, some (.int x2), some (.int a.1), some (.int a.2)] [] T S v T S' := by
  intro n
  induction n with
  | zero =>
    intro a e h
    cases h
  | succ n ih =>
    intro a e h k0_
    rcases lpn_succ h with ⟨a1, ha_, hb_⟩ | ha_
    · exact tX10_numberIn_l5b T k0 n0 x2 S a.1 a.2 h0 _ ha_ (fun a2 q => by cases q; exact ih a1 e hb_ k0_) (fun e1 q => by cases q)
    · exact tX10_numberIn_l5b T k0 n0 x2 S a.1 a.2 h0 _ ha_ (fun a2 q => by cases q) (fun e1 q => by cases q; exact k0_ _ rfl)
set_option maxHeartbeats 4000000 in
set_option maxRecDepth 100000 in
theorem tX10_numberIn_b37 (T : zT) (x3 : Int32) (S : zS)  {g : zG} (r : Int32) (h : fX10_numberIn_b37 T x3 S = some r)  : zg g 0 mX10_numberIn T 37 [none, none, none, some (.int x3), none] [] T S (some (.int r)) T S := by
  unfold fX10_numberIn_b37 at h
  refine z_iload_n dX10_numberIn_37 rfl ?_
  cases h
  exact z_iret rfl dX10_numberIn_38
set_option maxHeartbeats 4000000 in
set_option maxRecDepth 100000 in
theorem tX10_numberIn (T : zT) (k0 : Nat) (n0 : Nat) (x1 : Int32) (x2 : Int32) (S : zS) (h0 : zL T k0 20 n0) (r : Int32) (h : fX10_numberIn T k0 n0 x1 x2 S = some r) : zGM 0 mX10_numberIn [.ref k0, .int x1, .int x2] T S (some (.int r)) T S := by
  refine zGM_of zpnX10 rfl (Nat.le_of_ble_eq_true rfl) (fun g => ?_)
  show zg g 0 mX10_numberIn T 0 [some (.ref k0), some (.int x1), some (.int x2), none, none] [] T S (some (.int r)) T S
  unfold fX10_numberIn at h
  refine z_iconst dX10_numberIn_0 cI_0 ?_
  refine z_istore_n dX10_numberIn_1 rfl (by decide) rfl ?_
  refine z_iload_n dX10_numberIn_2 rfl ?_
  refine z_istore dX10_numberIn_3 rfl (by decide) rfl ?_
  obtain ⟨e6, hl7, h⟩ := zb1_elim h
  obtain ⟨nf8, hl7⟩ := lp_some hl7
  refine z_mask [true, false, true, true, true] rfl (tX10_numberIn_l5 T k0 n0 x2 S h0 nf8 (0, x1) e6 hl7 (fun e_ q => ?_))
  · cases q
    exact z_mask [false, false, false, true, false] rfl (tX10_numberIn_b37 T e6 S  r h)
/-! X10_signKind -/
noncomputable def fX10_signKind (T : zT) (x0 : Int32) (S : zS) : Option Int32 :=
  if x0 = 42 then some 38 else if x0 = 43 then some 36 else if x0 = 45 then some 37 else if x0 = 47 then some 39 else if x0 = 59 then some 33 else if x0 = 60 then some 40 else if x0 = 61 then some 42 else if x0 = 62 then some 44 else if x0 = 91 then some 34 else if x0 = 93 then some 35 else some 45
set_option maxHeartbeats 4000000 in
set_option maxRecDepth 100000 in
theorem tX10_signKind (T : zT) (x0 : Int32) (S : zS)  (r : Int32) (h : fX10_signKind T x0 S = some r) : zGM 0 mX10_signKind [.int x0] T S (some (.int r)) T S := by
  refine zGM_of zpnX10 rfl (Nat.le_of_ble_eq_true rfl) (fun g => ?_)
  show zg g 0 mX10_signKind T 0 [some (.int x0)] [] T S (some (.int r)) T S
  unfold fX10_signKind at h
  refine z_iload_n dX10_signKind_0 rfl ?_
  by_cases q1 : x0 = 42
  · rw [if_pos q1] at h
    refine z_lookup (off := 106) (tgt := 107) dX10_signKind_1 (by decide) (by rw [q1]; rfl) (by decide) ?_
    refine z_bipush dX10_signKind_107 cB_38 ?_
    cases h
    exact z_iret rfl dX10_signKind_109
  rw [if_neg q1] at h
  by_cases q2 : x0 = 43
  · rw [if_pos q2] at h
    refine z_lookup (off := 100) (tgt := 101) dX10_signKind_1 (by decide) (by rw [q2]; rfl) (by decide) ?_
    refine z_bipush dX10_signKind_101 cB_36 ?_
    cases h
    exact z_iret rfl dX10_signKind_103
  rw [if_neg q2] at h
  by_cases q3 : x0 = 45
  · rw [if_pos q3] at h
    refine z_lookup (off := 103) (tgt := 104) dX10_signKind_1 (by decide) (by rw [q3]; rfl) (by decide) ?_
    refine z_bipush dX10_signKind_104 cB_37 ?_
    cases h
    exact z_iret rfl dX10_signKind_106
  rw [if_neg q3] at h
  by_cases q4 : x0 = 47
  · rw [if_pos q4] at h
    refine z_lookup (off := 109) (tgt := 110) dX10_signKind_1 (by decide) (by rw [q4]; rfl) (by decide) ?_
    refine z_bipush dX10_signKind_110 cB_39 ?_
    cases h
    exact z_iret rfl dX10_signKind_112
  rw [if_neg q4] at h
  by_cases q5 : x0 = 59
  · rw [if_pos q5] at h
    refine z_lookup (off := 91) (tgt := 92) dX10_signKind_1 (by decide) (by rw [q5]; rfl) (by decide) ?_
    refine z_bipush dX10_signKind_92 cB_33 ?_
    cases h
    exact z_iret rfl dX10_signKind_94
  rw [if_neg q5] at h
  by_cases q6 : x0 = 60
  · rw [if_pos q6] at h
    refine z_lookup (off := 112) (tgt := 113) dX10_signKind_1 (by decide) (by rw [q6]; rfl) (by decide) ?_
    refine z_bipush dX10_signKind_113 cB_40 ?_
    cases h
    exact z_iret rfl dX10_signKind_115
  rw [if_neg q6] at h
  by_cases q7 : x0 = 61
  · rw [if_pos q7] at h
    refine z_lookup (off := 115) (tgt := 116) dX10_signKind_1 (by decide) (by rw [q7]; rfl) (by decide) ?_
    refine z_bipush dX10_signKind_116 cB_42 ?_
    cases h
    exact z_iret rfl dX10_signKind_118
  rw [if_neg q7] at h
  by_cases q8 : x0 = 62
  · rw [if_pos q8] at h
    refine z_lookup (off := 118) (tgt := 119) dX10_signKind_1 (by decide) (by rw [q8]; rfl) (by decide) ?_
    refine z_bipush dX10_signKind_119 cB_44 ?_
    cases h
    exact z_iret rfl dX10_signKind_121
  rw [if_neg q8] at h
  by_cases q9 : x0 = 91
  · rw [if_pos q9] at h
    refine z_lookup (off := 94) (tgt := 95) dX10_signKind_1 (by decide) (by rw [q9]; rfl) (by decide) ?_
    refine z_bipush dX10_signKind_95 cB_34 ?_
    cases h
    exact z_iret rfl dX10_signKind_97
  rw [if_neg q9] at h
  by_cases q10 : x0 = 93
  · rw [if_pos q10] at h
    refine z_lookup (off := 97) (tgt := 98) dX10_signKind_1 (by decide) (by rw [q10]; rfl) (by decide) ?_
    refine z_bipush dX10_signKind_98 cB_35 ?_
    cases h
    exact z_iret rfl dX10_signKind_100
  rw [if_neg q10] at h
  refine z_lookup (off := 121) (tgt := 122) dX10_signKind_1 (by decide) (by rw [lv_osw q1 (by decide)]; rw [lv_osw q2 (by decide)]; rw [lv_osw q3 (by decide)]; rw [lv_osw q4 (by decide)]; rw [lv_osw q5 (by decide)]; rw [lv_osw q6 (by decide)]; rw [lv_osw q7 (by decide)]; rw [lv_osw q8 (by decide)]; rw [lv_osw q9 (by decide)]; rw [lv_osw q10 (by decide)]; rfl) (by decide) ?_
  refine z_bipush dX10_signKind_122 cB_45 ?_
  cases h
  exact z_iret rfl dX10_signKind_124
/-! X6_isClause -/
noncomputable def fX6_isClause_b75 (T : zT) (s0 : Int32) (S : zS) : Option Int32 :=
  zgd (zbl s0) (some s0)
noncomputable def fX6_isClause_b70 (T : zT)  (S : zS) : Option Int32 :=
  fX6_isClause_b75 T 1 S
noncomputable def fX6_isClause_b74 (T : zT)  (S : zS) : Option Int32 :=
  fX6_isClause_b75 T 0 S
noncomputable def fX6_isClause_b30 (T : zT) (s0 : Int32) (S : zS) : Option Int32 :=
  zgd (zbl s0) (some s0)
noncomputable def fX6_isClause_b25 (T : zT)  (S : zS) : Option Int32 :=
  fX6_isClause_b30 T 1 S
noncomputable def fX6_isClause (T : zT) (k0 : Nat) (S : zS) : Option Int32 :=
  if (S.1 k0 8) = 0 then if (S.1 k0 2) = 0 then fX6_isClause_b70 T  S else if (S.1 k0 2) = 1 then fX6_isClause_b70 T  S else if (S.1 k0 2) = 4 then fX6_isClause_b70 T  S else if (S.1 k0 2) = 15 then fX6_isClause_b74 T  S else zb1 (fX6_isOnceOnly T k0 S) fun r7 => if r7 = 0 then fX6_isClause_b74 T  S else fX6_isClause_b70 T  S else if (S.1 k0 2) = 14 then fX6_isClause_b25 T  S else if (S.1 k0 2) = 15 then fX6_isClause_b25 T  S else fX6_isClause_b30 T 0 S
set_option maxHeartbeats 4000000 in
set_option maxRecDepth 100000 in
theorem tX6_isClause_b75 (T : zT) (s0 : Int32) (S : zS)  {g : zG} (r : Int32) (h : fX6_isClause_b75 T s0 S = some r)  : zg g 1 mX6_isClause T 75 [none] [.int s0] T S (some (.int r)) T S := by
  unfold fX6_isClause_b75 at h
  obtain ⟨q3, h⟩ := zgd_elim h
  cases h
  exact z_zret rfl (zbl_ok q3) dX6_isClause_75
set_option maxHeartbeats 4000000 in
set_option maxRecDepth 100000 in
theorem tX6_isClause_b70 (T : zT)  (S : zS)  {g : zG} (r : Int32) (h : fX6_isClause_b70 T  S = some r)  : zg g 1 mX6_isClause T 70 [none] [] T S (some (.int r)) T S := by
  unfold fX6_isClause_b70 at h
  refine z_iconst dX6_isClause_70 cI_1 ?_
  refine z_goto (tgt := 75) dX6_isClause_71 (by decide) ?_
  exact z_mask [false] rfl (tX6_isClause_b75 T 1 S  r h)
set_option maxHeartbeats 4000000 in
set_option maxRecDepth 100000 in
theorem tX6_isClause_b74 (T : zT)  (S : zS)  {g : zG} (r : Int32) (h : fX6_isClause_b74 T  S = some r)  : zg g 1 mX6_isClause T 74 [none] [] T S (some (.int r)) T S := by
  unfold fX6_isClause_b74 at h
  refine z_iconst dX6_isClause_74 cI_0 ?_
  exact z_mask [false] rfl (tX6_isClause_b75 T 0 S  r h)
set_option maxHeartbeats 4000000 in
set_option maxRecDepth 100000 in
theorem tX6_isClause_b30 (T : zT) (s0 : Int32) (S : zS)  {g : zG} (r : Int32) (h : fX6_isClause_b30 T s0 S = some r)  : zg g 1 mX6_isClause T 30 [none] [.int s0] T S (some (.int r)) T S := by
  unfold fX6_isClause_b30 at h
  obtain ⟨q11, h⟩ := zgd_elim h
  cases h
  exact z_zret rfl (zbl_ok q11) dX6_isClause_30
set_option maxHeartbeats 4000000 in
set_option maxRecDepth 100000 in
theorem tX6_isClause_b25 (T : zT)  (S : zS)  {g : zG} (r : Int32) (h : fX6_isClause_b25 T  S = some r)  : zg g 1 mX6_isClause T 25 [none] [] T S (some (.int r)) T S := by
  unfold fX6_isClause_b25 at h
  refine z_iconst dX6_isClause_25 cI_1 ?_
  refine z_goto (tgt := 30) dX6_isClause_26 (by decide) ?_
  exact z_mask [false] rfl (tX6_isClause_b30 T 1 S  r h)
set_option maxHeartbeats 4000000 in
set_option maxRecDepth 100000 in
theorem tX6_isClause (T : zT) (k0 : Nat) (S : zS) (h0 : iX6 T k0) (r : Int32) (h : fX6_isClause T k0 S = some r) : zGM 1 mX6_isClause [.ref k0] T S (some (.int r)) T S := by
  refine zGM_of zpnX6 rfl (Nat.le_of_ble_eq_true rfl) (fun g => ?_)
  show zg g 1 mX6_isClause T 0 [some (.ref k0)] [] T S (some (.int r)) T S
  unfold fX6_isClause at h
  refine z_aload_n dX6_isClause_0 rfl ?_
  refine z_gZ (zF.x zfX6_42) h0.1 dX6_isClause_1 ?_
  refine z_if_eq (tgt := 31) dX6_isClause_4 (by decide) (fun q1 => ?_) (fun q1 => ?_)
  · rw [if_pos q1] at h
    refine z_aload_n dX6_isClause_31 rfl ?_
    refine z_gI (zF.x zfX6_46) h0.1 dX6_isClause_32 ?_
    refine z_if_eq (tgt := 70) dX6_isClause_35 (by decide) (fun q2 => ?_) (fun q2 => ?_)
    · rw [if_pos q2] at h
      exact z_mask [false] rfl (tX6_isClause_b70 T  S  r h)
    · rw [if_neg q2] at h
      refine z_aload_n dX6_isClause_38 rfl ?_
      refine z_gI (zF.x zfX6_46) h0.1 dX6_isClause_39 ?_
      refine z_iconst dX6_isClause_42 cI_1 ?_
      refine z_icmp_eq (tgt := 70) dX6_isClause_43 (by decide) (fun q4 => ?_) (fun q4 => ?_)
      · rw [if_pos q4] at h
        exact z_mask [false] rfl (tX6_isClause_b70 T  S  r h)
      · rw [if_neg q4] at h
        refine z_aload_n dX6_isClause_46 rfl ?_
        refine z_gI (zF.x zfX6_46) h0.1 dX6_isClause_47 ?_
        refine z_iconst dX6_isClause_50 cI_4 ?_
        refine z_icmp_eq (tgt := 70) dX6_isClause_51 (by decide) (fun q5 => ?_) (fun q5 => ?_)
        · rw [if_pos q5] at h
          exact z_mask [false] rfl (tX6_isClause_b70 T  S  r h)
        · rw [if_neg q5] at h
          refine z_aload_n dX6_isClause_54 rfl ?_
          refine z_gI (zF.x zfX6_46) h0.1 dX6_isClause_55 ?_
          refine z_bipush dX6_isClause_58 cB_15 ?_
          refine z_icmp_eq (tgt := 74) dX6_isClause_60 (by decide) (fun q6 => ?_) (fun q6 => ?_)
          · rw [if_pos q6] at h
            exact z_mask [false] rfl (tX6_isClause_b74 T  S  r h)
          · rw [if_neg q6] at h
            refine z_aload_n dX6_isClause_63 rfl ?_
            obtain ⟨r7, hc8, h⟩ := zb1_elim h
            refine z_callV (As := []) zcX6 zkX6_127 ziX6_isOnceOnly zqX6_isOnceOnly h0.1 (tX6_isOnceOnly T k0 S h0 r7 hc8) rfl rfl (Nat.le_of_ble_eq_true rfl) (by decide) ⟨Nat.le_refl _, Nat.le_refl _⟩ ⟨Nat.le_refl _, Nat.le_refl _⟩ dX6_isClause_64 ?_
            refine z_if_eq (tgt := 74) dX6_isClause_67 (by decide) (fun q9 => ?_) (fun q9 => ?_)
            · rw [if_pos q9] at h
              exact z_mask [false] rfl (tX6_isClause_b74 T  S  r h)
            · rw [if_neg q9] at h
              exact z_mask [false] rfl (tX6_isClause_b70 T  S  r h)
  · rw [if_neg q1] at h
    refine z_aload_n dX6_isClause_7 rfl ?_
    refine z_gI (zF.x zfX6_46) h0.1 dX6_isClause_8 ?_
    refine z_bipush dX6_isClause_11 cB_14 ?_
    refine z_icmp_eq (tgt := 25) dX6_isClause_13 (by decide) (fun q10 => ?_) (fun q10 => ?_)
    · rw [if_pos q10] at h
      exact z_mask [false] rfl (tX6_isClause_b25 T  S  r h)
    · rw [if_neg q10] at h
      refine z_aload_n dX6_isClause_16 rfl ?_
      refine z_gI (zF.x zfX6_46) h0.1 dX6_isClause_17 ?_
      refine z_bipush dX6_isClause_20 cB_15 ?_
      refine z_icmp_ne (tgt := 29) dX6_isClause_22 (by decide) (fun q12 => ?_) (fun q12 => ?_)
      · rw [if_neg q12] at h
        refine z_iconst dX6_isClause_29 cI_0 ?_
        exact z_mask [false] rfl (tX6_isClause_b30 T 0 S  r h)
      · rw [if_pos q12] at h
        exact z_mask [false] rfl (tX6_isClause_b25 T  S  r h)
/-! X6_readSign -/
noncomputable def fX6_readSign_b56 (T : zT) (x1 : Int32) (S : zS) : Option (Int32 × zS) :=
  some (x1, S)
noncomputable def fX6_readSign_b17 (T : zT) (k0 : Nat) (x1 : Int32) (S : zS) : Option (Int32 × zS) :=
  zb (fX6_fail T k0 0 S) fun _ S5 => fX6_readSign_b56 T x1 S5
noncomputable def fX6_readSign (T : zT) (k0 : Nat) (S : zS) : Option (Int32 × zS) :=
  zlet (S.1 k0 2) fun u1 => if u1 < 40 then fX6_readSign_b17 T k0 u1 S else if u1 ≤ 44 then if (S.1 k0 6) < 60 then zlet (zI S k0 6 ((S.1 k0 6) + 1)) fun S8 => zb (fX6_next T k0 S8) fun _ S11 => fX6_readSign_b56 T u1 S11 else zb (fX6_fail T k0 3 S) fun _ S14 => fX6_readSign_b56 T u1 S14 else fX6_readSign_b17 T k0 u1 S
set_option maxHeartbeats 4000000 in
set_option maxRecDepth 100000 in
theorem tX6_readSign_b56 (T : zT) (x1 : Int32) (S : zS)  {g : zG} (r : (Int32 × zS)) (h : fX6_readSign_b56 T x1 S = some r)  : zg g 1 mX6_readSign T 56 [none, some (.int x1)] [] T S (some (.int r.1)) T r.2 := by
  unfold fX6_readSign_b56 at h
  refine z_iload_n dX6_readSign_56 rfl ?_
  cases h
  exact z_iret rfl dX6_readSign_57
set_option maxHeartbeats 4000000 in
set_option maxRecDepth 100000 in
theorem tX6_readSign_b17 (T : zT) (k0 : Nat) (x1 : Int32) (S : zS) (h0 : iX6 T k0) {g : zG} (r : (Int32 × zS)) (h : fX6_readSign_b17 T k0 x1 S = some r)  : zg g 1 mX6_readSign T 17 [some (.ref k0), some (.int x1)] [] T S (some (.int r.1)) T r.2 := by
  unfold fX6_readSign_b17 at h
  refine z_aload_n dX6_readSign_17 rfl ?_
  refine z_iconst dX6_readSign_18 cI_0 ?_
  obtain ⟨r3, S5, hc4, h⟩ := zb_elim h
  refine z_callV (As := [.int 0]) zcX6 zkX6_123 ziX6_fail zqX6_fail h0.1 (tX6_fail T k0 0 S h0 (r3, S5) hc4) rfl rfl (Nat.le_of_ble_eq_true rfl) (by decide) ⟨Nat.le_refl _, Nat.le_refl _⟩ ⟨Nat.le_refl _, Nat.le_refl _⟩ dX6_readSign_19 ?_
  refine z_goto (tgt := 56) dX6_readSign_22 (by decide) ?_
  exact z_mask [false, true] rfl (tX6_readSign_b56 T x1 S5  r h)
set_option maxHeartbeats 4000000 in
set_option maxRecDepth 100000 in
theorem tX6_readSign (T : zT) (k0 : Nat) (S : zS) (h0 : iX6 T k0) (r : Int32 × zS) (h : fX6_readSign T k0 S = some r) : zGM 1 mX6_readSign [.ref k0] T S (some (.int r.1)) T r.2 := by
  refine zGM_of zpnX6 rfl (Nat.le_of_ble_eq_true rfl) (fun g => ?_)
  show zg g 1 mX6_readSign T 0 [some (.ref k0), none] [] T S (some (.int r.1)) T r.2
  unfold fX6_readSign at h
  refine z_aload_n dX6_readSign_0 rfl ?_
  refine z_gI (zF.x zfX6_46) h0.1 dX6_readSign_1 ?_
  obtain ⟨u1, eu1, h⟩ := zlet_elim h
  refine z_ti eu1 ?_
  refine z_istore_n dX6_readSign_4 rfl (by decide) rfl ?_
  refine z_iload_n dX6_readSign_5 rfl ?_
  refine z_bipush dX6_readSign_6 cB_40 ?_
  refine z_icmp_lt (tgt := 17) dX6_readSign_8 (by decide) (fun q2 => ?_) (fun q2 => ?_)
  · rw [if_pos q2] at h
    exact z_mask [true, true] rfl (tX6_readSign_b17 T k0 u1 S h0 r h)
  · rw [if_neg q2] at h
    refine z_iload_n dX6_readSign_11 rfl ?_
    refine z_bipush dX6_readSign_12 cB_44 ?_
    refine z_icmp_le (tgt := 25) dX6_readSign_14 (by decide) (fun q6 => ?_) (fun q6 => ?_)
    · rw [if_pos q6] at h
      refine z_aload_n dX6_readSign_25 rfl ?_
      refine z_gI (zF.x zfX6_32) h0.1 dX6_readSign_26 ?_
      refine z_bipush dX6_readSign_29 cB_60 ?_
      refine z_icmp_lt (tgt := 42) dX6_readSign_31 (by decide) (fun q7 => ?_) (fun q7 => ?_)
      · rw [if_pos q7] at h
        refine z_aload_n dX6_readSign_42 rfl ?_
        refine z_dup dX6_readSign_43 rfl ?_
        refine z_gI (zF.x zfX6_32) h0.1 dX6_readSign_44 ?_
        refine z_iconst dX6_readSign_47 cI_1 ?_
        refine z_iadd dX6_readSign_48 rfl ?_
        refine z_putI zfX6_32 h0.1 dX6_readSign_49 ?_
        obtain ⟨S8, eS8, h⟩ := zlet_elim h
        refine z_tS eS8 ?_
        refine z_aload_n dX6_readSign_52 rfl ?_
        obtain ⟨r9, S11, hc10, h⟩ := zb_elim h
        refine z_callV (As := []) zcX6 zkX6_26 ziX6_next zqX6_next h0.1 (tX6_next T k0 S8 (iX6_n h0) (r9, S11) hc10) rfl rfl (Nat.le_of_ble_eq_true rfl) (by decide) ⟨Nat.le_refl _, Nat.le_refl _⟩ ⟨Nat.le_refl _, Nat.le_refl _⟩ dX6_readSign_53 ?_
        exact z_mask [false, true] rfl (tX6_readSign_b56 T u1 S11  r h)
      · rw [if_neg q7] at h
        refine z_aload_n dX6_readSign_34 rfl ?_
        refine z_iconst dX6_readSign_35 cI_3 ?_
        obtain ⟨r12, S14, hc13, h⟩ := zb_elim h
        refine z_callV (As := [.int 3]) zcX6 zkX6_123 ziX6_fail zqX6_fail h0.1 (tX6_fail T k0 3 S h0 (r12, S14) hc13) rfl rfl (Nat.le_of_ble_eq_true rfl) (by decide) ⟨Nat.le_refl _, Nat.le_refl _⟩ ⟨Nat.le_refl _, Nat.le_refl _⟩ dX6_readSign_36 ?_
        refine z_goto (tgt := 56) dX6_readSign_39 (by decide) ?_
        exact z_mask [false, true] rfl (tX6_readSign_b56 T u1 S14  r h)
    · rw [if_neg q6] at h
      exact z_mask [true, true] rfl (tX6_readSign_b17 T k0 u1 S h0 r h)
/-! X6_readValue -/
noncomputable def fX6_readValue_b115 (T : zT)  (S : zS) : Option (Unit × zS) :=
  some ((), S)
noncomputable def fX6_readValue_b108 (T : zT) (k0 : Nat) (s0 : Int32) (s1 : Int32) (s2 : Nat) (S : zS) : Option (Unit × zS) :=
  zb (fX2_add T s2 s1 s0 S) fun _ S9 => zb (fX6_next T k0 S9) fun _ S12 => fX6_readValue_b115 T  S12
noncomputable def fX6_readValue_b88 (T : zT) (k0 : Nat) (s0 : Int32) (s1 : Nat) (S : zS) : Option (Unit × zS) :=
  if (S.1 k0 2) = 31 then fX6_readValue_b108 T k0 (S.1 k0 3) s0 s1 S else fX6_readValue_b108 T k0 (S.1 k0 2) s0 s1 S
noncomputable def fX6_readValue_b41 (T : zT) (k0 : Nat) (S : zS) : Option (Unit × zS) :=
  if (S.1 k0 6) < 60 then zlet (zI S k0 6 ((S.1 k0 6) + 1)) fun S4 => if (S4.1 k0 2) = 31 then fX6_readValue_b88 T k0 31 (zr T k0 9) S4 else fX6_readValue_b88 T k0 47 (zr T k0 9) S4 else zb (fX6_fail T k0 3 S) fun _ S15 => fX6_readValue_b115 T  S15
noncomputable def fX6_readValue (T : zT) (k0 : Nat) (S : zS) : Option (Unit × zS) :=
  if (S.1 k0 2) = 32 then zb (fX6_fail T k0 1 S) fun _ S24 => fX6_readValue_b115 T  S24 else if (S.1 k0 2) = 31 then fX6_readValue_b41 T k0 S else zb1 (fX6_isValueWord T k0 S) fun r16 => if r16 = 0 then zb (fX6_fail T k0 0 S) fun _ S21 => fX6_readValue_b115 T  S21 else fX6_readValue_b41 T k0 S
set_option maxHeartbeats 4000000 in
set_option maxRecDepth 100000 in
theorem tX6_readValue_b115 (T : zT)  (S : zS)  {g : zG} (r : (Unit × zS)) (h : fX6_readValue_b115 T  S = some r)  : zg g 1 mX6_readValue T 115 [none] [] T S none T r.2 := by
  unfold fX6_readValue_b115 at h
  cases h
  exact z_vret rfl dX6_readValue_115
set_option maxHeartbeats 4000000 in
set_option maxRecDepth 100000 in
theorem tX6_readValue_b108 (T : zT) (k0 : Nat) (s0 : Int32) (s1 : Int32) (s2 : Nat) (S : zS) (h0 : iX6 T k0) (g2 : iX2 T s2) {g : zG} (r : (Unit × zS)) (h : fX6_readValue_b108 T k0 s0 s1 s2 S = some r)  : zg g 1 mX6_readValue T 108 [some (.ref k0)] [.int s0, .int s1, .ref s2] T S none T r.2 := by
  unfold fX6_readValue_b108 at h
  obtain ⟨r7, S9, hc8, h⟩ := zb_elim h
  refine z_callV (As := [.int s1, .int s0]) zcX2 zkX6_190 ziX2_add zqX2_add g2.1 (tX2_add T s2 s1 s0 S g2 (r7, S9) hc8) rfl rfl (Nat.le_of_ble_eq_true rfl) (by decide) ⟨Nat.le_refl _, Nat.le_refl _⟩ ⟨Nat.le_refl _, Nat.le_refl _⟩ dX6_readValue_108 ?_
  refine z_aload_n dX6_readValue_111 rfl ?_
  obtain ⟨r10, S12, hc11, h⟩ := zb_elim h
  refine z_callV (As := []) zcX6 zkX6_26 ziX6_next zqX6_next h0.1 (tX6_next T k0 S9 (iX6_n h0) (r10, S12) hc11) rfl rfl (Nat.le_of_ble_eq_true rfl) (by decide) ⟨Nat.le_refl _, Nat.le_refl _⟩ ⟨Nat.le_refl _, Nat.le_refl _⟩ dX6_readValue_112 ?_
  exact z_mask [false] rfl (tX6_readValue_b115 T  S12  r h)
set_option maxHeartbeats 4000000 in
set_option maxRecDepth 100000 in
theorem tX6_readValue_b88 (T : zT) (k0 : Nat) (s0 : Int32) (s1 : Nat) (S : zS) (h0 : iX6 T k0) (g1 : iX2 T s1) {g : zG} (r : (Unit × zS)) (h : fX6_readValue_b88 T k0 s0 s1 S = some r)  : zg g 1 mX6_readValue T 88 [some (.ref k0)] [.int s0, .ref s1] T S none T r.2 := by
  unfold fX6_readValue_b88 at h
  refine z_aload_n dX6_readValue_88 rfl ?_
  refine z_gI (zF.x zfX6_46) h0.1 dX6_readValue_89 ?_
  refine z_bipush dX6_readValue_92 cB_31 ?_
  refine z_icmp_ne (tgt := 104) dX6_readValue_94 (by decide) (fun q6 => ?_) (fun q6 => ?_)
  · rw [if_neg q6] at h
    refine z_aload_n dX6_readValue_104 rfl ?_
    refine z_gI (zF.x zfX6_46) h0.1 dX6_readValue_105 ?_
    exact z_mask [true] rfl (tX6_readValue_b108 T k0 (S.1 k0 2) s0 s1 S h0 g1 r h)
  · rw [if_pos q6] at h
    refine z_aload_n dX6_readValue_97 rfl ?_
    refine z_gI (zF.x zfX6_56) h0.1 dX6_readValue_98 ?_
    refine z_goto (tgt := 108) dX6_readValue_101 (by decide) ?_
    exact z_mask [true] rfl (tX6_readValue_b108 T k0 (S.1 k0 3) s0 s1 S h0 g1 r h)
set_option maxHeartbeats 4000000 in
set_option maxRecDepth 100000 in
theorem tX6_readValue_b41 (T : zT) (k0 : Nat) (S : zS) (h0 : iX6 T k0) {g : zG} (r : (Unit × zS)) (h : fX6_readValue_b41 T k0 S = some r)  : zg g 1 mX6_readValue T 41 [some (.ref k0)] [] T S none T r.2 := by
  unfold fX6_readValue_b41 at h
  refine z_aload_n dX6_readValue_41 rfl ?_
  refine z_gI (zF.x zfX6_32) h0.1 dX6_readValue_42 ?_
  refine z_bipush dX6_readValue_45 cB_60 ?_
  refine z_icmp_lt (tgt := 58) dX6_readValue_47 (by decide) (fun q3 => ?_) (fun q3 => ?_)
  · rw [if_pos q3] at h
    refine z_aload_n dX6_readValue_58 rfl ?_
    refine z_dup dX6_readValue_59 rfl ?_
    refine z_gI (zF.x zfX6_32) h0.1 dX6_readValue_60 ?_
    refine z_iconst dX6_readValue_63 cI_1 ?_
    refine z_iadd dX6_readValue_64 rfl ?_
    refine z_putI zfX6_32 h0.1 dX6_readValue_65 ?_
    obtain ⟨S4, eS4, h⟩ := zlet_elim h
    refine z_tS eS4 ?_
    refine z_aload_n dX6_readValue_68 rfl ?_
    refine z_gR (zF.x zfX6_38) h0.1 dX6_readValue_69 ?_
    refine z_aload_n dX6_readValue_72 rfl ?_
    refine z_gI (zF.x zfX6_46) h0.1 dX6_readValue_73 ?_
    refine z_bipush dX6_readValue_76 cB_31 ?_
    refine z_icmp_ne (tgt := 86) dX6_readValue_78 (by decide) (fun q5 => ?_) (fun q5 => ?_)
    · rw [if_neg q5] at h
      refine z_bipush dX6_readValue_86 cB_47 ?_
      exact z_mask [true] rfl (tX6_readValue_b88 T k0 47 (zr T k0 9) S4 h0 h0.2.2 r h)
    · rw [if_pos q5] at h
      refine z_bipush dX6_readValue_81 cB_31 ?_
      refine z_goto (tgt := 88) dX6_readValue_83 (by decide) ?_
      exact z_mask [true] rfl (tX6_readValue_b88 T k0 31 (zr T k0 9) S4 h0 h0.2.2 r h)
  · rw [if_neg q3] at h
    refine z_aload_n dX6_readValue_50 rfl ?_
    refine z_iconst dX6_readValue_51 cI_3 ?_
    obtain ⟨r13, S15, hc14, h⟩ := zb_elim h
    refine z_callV (As := [.int 3]) zcX6 zkX6_123 ziX6_fail zqX6_fail h0.1 (tX6_fail T k0 3 S h0 (r13, S15) hc14) rfl rfl (Nat.le_of_ble_eq_true rfl) (by decide) ⟨Nat.le_refl _, Nat.le_refl _⟩ ⟨Nat.le_refl _, Nat.le_refl _⟩ dX6_readValue_52 ?_
    refine z_goto (tgt := 115) dX6_readValue_55 (by decide) ?_
    exact z_mask [false] rfl (tX6_readValue_b115 T  S15  r h)
set_option maxHeartbeats 4000000 in
set_option maxRecDepth 100000 in
theorem tX6_readValue (T : zT) (k0 : Nat) (S : zS) (h0 : iX6 T k0) (r : Unit × zS) (h : fX6_readValue T k0 S = some r) : zGM 1 mX6_readValue [.ref k0] T S none T r.2 := by
  refine zGM_of zpnX6 rfl (Nat.le_of_ble_eq_true rfl) (fun g => ?_)
  show zg g 1 mX6_readValue T 0 [some (.ref k0)] [] T S none T r.2
  unfold fX6_readValue at h
  refine z_aload_n dX6_readValue_0 rfl ?_
  refine z_gI (zF.x zfX6_46) h0.1 dX6_readValue_1 ?_
  refine z_bipush dX6_readValue_4 cB_32 ?_
  refine z_icmp_ne (tgt := 17) dX6_readValue_6 (by decide) (fun q1 => ?_) (fun q1 => ?_)
  · rw [if_neg q1] at h
    refine z_aload_n dX6_readValue_17 rfl ?_
    refine z_gI (zF.x zfX6_46) h0.1 dX6_readValue_18 ?_
    refine z_bipush dX6_readValue_21 cB_31 ?_
    refine z_icmp_eq (tgt := 41) dX6_readValue_23 (by decide) (fun q2 => ?_) (fun q2 => ?_)
    · rw [if_pos q2] at h
      exact z_mask [true] rfl (tX6_readValue_b41 T k0 S h0 r h)
    · rw [if_neg q2] at h
      refine z_aload_n dX6_readValue_26 rfl ?_
      obtain ⟨r16, hc17, h⟩ := zb1_elim h
      refine z_callV (As := []) zcX6 zkX6_206 ziX6_isValueWord zqX6_isValueWord h0.1 (tX6_isValueWord T k0 S h0 r16 hc17) rfl rfl (Nat.le_of_ble_eq_true rfl) (by decide) ⟨Nat.le_refl _, Nat.le_refl _⟩ ⟨Nat.le_refl _, Nat.le_refl _⟩ dX6_readValue_27 ?_
      refine z_if_ne (tgt := 41) dX6_readValue_30 (by decide) (fun q18 => ?_) (fun q18 => ?_)
      · rw [if_neg q18] at h
        exact z_mask [true] rfl (tX6_readValue_b41 T k0 S h0 r h)
      · rw [if_pos q18] at h
        refine z_aload_n dX6_readValue_33 rfl ?_
        refine z_iconst dX6_readValue_34 cI_0 ?_
        obtain ⟨r19, S21, hc20, h⟩ := zb_elim h
        refine z_callV (As := [.int 0]) zcX6 zkX6_123 ziX6_fail zqX6_fail h0.1 (tX6_fail T k0 0 S h0 (r19, S21) hc20) rfl rfl (Nat.le_of_ble_eq_true rfl) (by decide) ⟨Nat.le_refl _, Nat.le_refl _⟩ ⟨Nat.le_refl _, Nat.le_refl _⟩ dX6_readValue_35 ?_
        refine z_goto (tgt := 115) dX6_readValue_38 (by decide) ?_
        exact z_mask [false] rfl (tX6_readValue_b115 T  S21  r h)
  · rw [if_pos q1] at h
    refine z_aload_n dX6_readValue_9 rfl ?_
    refine z_iconst dX6_readValue_10 cI_1 ?_
    obtain ⟨r22, S24, hc23, h⟩ := zb_elim h
    refine z_callV (As := [.int 1]) zcX6 zkX6_123 ziX6_fail zqX6_fail h0.1 (tX6_fail T k0 1 S h0 (r22, S24) hc23) rfl rfl (Nat.le_of_ble_eq_true rfl) (by decide) ⟨Nat.le_refl _, Nat.le_refl _⟩ ⟨Nat.le_refl _, Nat.le_refl _⟩ dX6_readValue_11 ?_
    refine z_goto (tgt := 115) dX6_readValue_14 (by decide) ?_
    exact z_mask [false] rfl (tX6_readValue_b115 T  S24  r h)
/-! X6_number -/
noncomputable def fX6_number_b49 (T : zT) (k0 : Nat) (x1 : Int32) (S : zS) : Option (Int32 × zS) :=
  zb (fX6_fail T k0 1 S) fun _ S6 => some (x1, S6)
noncomputable def fX6_number_b30 (T : zT) (k0 : Nat) (x1 : Int32) (x2 : Int32) (x3 : Int32) (S : zS) : Option (Int32 × zS) :=
  if (S.1 k0 2) = 32 then fX6_number_b49 T k0 x1 S else if x3 < x1 then fX6_number_b49 T k0 x1 S else if x3 ≤ x2 then zb (fX6_next T k0 S) fun _ S11 => some (x3, S11) else fX6_number_b49 T k0 x1 S
noncomputable def fX6_number (T : zT) (k0 : Nat) (x1 : Int32) (x2 : Int32) (S : zS) : Option (Int32 × zS) :=
  zlet (S.1 k0 3) fun u1 => if (S.1 k0 2) = 31 then fX6_number_b30 T k0 x1 x2 u1 S else if (S.1 k0 2) = 32 then fX6_number_b30 T k0 x1 x2 u1 S else zb (fX6_fail T k0 0 S) fun _ S15 => some (x1, S15)
set_option maxHeartbeats 4000000 in
set_option maxRecDepth 100000 in
theorem tX6_number_b49 (T : zT) (k0 : Nat) (x1 : Int32) (S : zS) (h0 : iX6 T k0) {g : zG} (r : (Int32 × zS)) (h : fX6_number_b49 T k0 x1 S = some r)  : zg g 1 mX6_number T 49 [some (.ref k0), some (.int x1), none, none] [] T S (some (.int r.1)) T r.2 := by
  unfold fX6_number_b49 at h
  refine z_aload_n dX6_number_49 rfl ?_
  refine z_iconst dX6_number_50 cI_1 ?_
  obtain ⟨r4, S6, hc5, h⟩ := zb_elim h
  refine z_callV (As := [.int 1]) zcX6 zkX6_123 ziX6_fail zqX6_fail h0.1 (tX6_fail T k0 1 S h0 (r4, S6) hc5) rfl rfl (Nat.le_of_ble_eq_true rfl) (by decide) ⟨Nat.le_refl _, Nat.le_refl _⟩ ⟨Nat.le_refl _, Nat.le_refl _⟩ dX6_number_51 ?_
  refine z_iload_n dX6_number_54 rfl ?_
  cases h
  exact z_iret rfl dX6_number_55
set_option maxHeartbeats 4000000 in
set_option maxRecDepth 100000 in
theorem tX6_number_b30 (T : zT) (k0 : Nat) (x1 : Int32) (x2 : Int32) (x3 : Int32) (S : zS) (h0 : iX6 T k0) {g : zG} (r : (Int32 × zS)) (h : fX6_number_b30 T k0 x1 x2 x3 S = some r)  : zg g 1 mX6_number T 30 [some (.ref k0), some (.int x1), some (.int x2), some (.int x3)] [] T S (some (.int r.1)) T r.2 := by
  unfold fX6_number_b30 at h
  refine z_aload_n dX6_number_30 rfl ?_
  refine z_gI (zF.x zfX6_46) h0.1 dX6_number_31 ?_
  refine z_bipush dX6_number_34 cB_32 ?_
  refine z_icmp_eq (tgt := 49) dX6_number_36 (by decide) (fun q3 => ?_) (fun q3 => ?_)
  · rw [if_pos q3] at h
    exact z_mask [true, true, false, false] rfl (tX6_number_b49 T k0 x1 S h0 r h)
  · rw [if_neg q3] at h
    refine z_iload_n dX6_number_39 rfl ?_
    refine z_iload_n dX6_number_40 rfl ?_
    refine z_icmp_lt (tgt := 49) dX6_number_41 (by decide) (fun q7 => ?_) (fun q7 => ?_)
    · rw [if_pos q7] at h
      exact z_mask [true, true, false, false] rfl (tX6_number_b49 T k0 x1 S h0 r h)
    · rw [if_neg q7] at h
      refine z_iload_n dX6_number_44 rfl ?_
      refine z_iload_n dX6_number_45 rfl ?_
      refine z_icmp_le (tgt := 56) dX6_number_46 (by decide) (fun q8 => ?_) (fun q8 => ?_)
      · rw [if_pos q8] at h
        refine z_aload_n dX6_number_56 rfl ?_
        obtain ⟨r9, S11, hc10, h⟩ := zb_elim h
        refine z_callV (As := []) zcX6 zkX6_26 ziX6_next zqX6_next h0.1 (tX6_next T k0 S (iX6_n h0) (r9, S11) hc10) rfl rfl (Nat.le_of_ble_eq_true rfl) (by decide) ⟨Nat.le_refl _, Nat.le_refl _⟩ ⟨Nat.le_refl _, Nat.le_refl _⟩ dX6_number_57 ?_
        refine z_iload_n dX6_number_60 rfl ?_
        cases h
        exact z_iret rfl dX6_number_61
      · rw [if_neg q8] at h
        exact z_mask [true, true, false, false] rfl (tX6_number_b49 T k0 x1 S h0 r h)
set_option maxHeartbeats 4000000 in
set_option maxRecDepth 100000 in
theorem tX6_number (T : zT) (k0 : Nat) (x1 : Int32) (x2 : Int32) (S : zS) (h0 : iX6 T k0) (r : Int32 × zS) (h : fX6_number T k0 x1 x2 S = some r) : zGM 1 mX6_number [.ref k0, .int x1, .int x2] T S (some (.int r.1)) T r.2 := by
  refine zGM_of zpnX6 rfl (Nat.le_of_ble_eq_true rfl) (fun g => ?_)
  show zg g 1 mX6_number T 0 [some (.ref k0), some (.int x1), some (.int x2), none] [] T S (some (.int r.1)) T r.2
  unfold fX6_number at h
  refine z_aload_n dX6_number_0 rfl ?_
  refine z_gI (zF.x zfX6_56) h0.1 dX6_number_1 ?_
  obtain ⟨u1, eu1, h⟩ := zlet_elim h
  refine z_ti eu1 ?_
  refine z_istore_n dX6_number_4 rfl (by decide) rfl ?_
  refine z_aload_n dX6_number_5 rfl ?_
  refine z_gI (zF.x zfX6_46) h0.1 dX6_number_6 ?_
  refine z_bipush dX6_number_9 cB_31 ?_
  refine z_icmp_eq (tgt := 30) dX6_number_11 (by decide) (fun q2 => ?_) (fun q2 => ?_)
  · rw [if_pos q2] at h
    exact z_mask [true, true, true, true] rfl (tX6_number_b30 T k0 x1 x2 u1 S h0 r h)
  · rw [if_neg q2] at h
    refine z_aload_n dX6_number_14 rfl ?_
    refine z_gI (zF.x zfX6_46) h0.1 dX6_number_15 ?_
    refine z_bipush dX6_number_18 cB_32 ?_
    refine z_icmp_eq (tgt := 30) dX6_number_20 (by decide) (fun q12 => ?_) (fun q12 => ?_)
    · rw [if_pos q12] at h
      exact z_mask [true, true, true, true] rfl (tX6_number_b30 T k0 x1 x2 u1 S h0 r h)
    · rw [if_neg q12] at h
      refine z_aload_n dX6_number_23 rfl ?_
      refine z_iconst dX6_number_24 cI_0 ?_
      obtain ⟨r13, S15, hc14, h⟩ := zb_elim h
      refine z_callV (As := [.int 0]) zcX6 zkX6_123 ziX6_fail zqX6_fail h0.1 (tX6_fail T k0 0 S h0 (r13, S15) hc14) rfl rfl (Nat.le_of_ble_eq_true rfl) (by decide) ⟨Nat.le_refl _, Nat.le_refl _⟩ ⟨Nat.le_refl _, Nat.le_refl _⟩ dX6_number_25 ?_
      refine z_iload_n dX6_number_28 rfl ?_
      cases h
      exact z_iret rfl dX6_number_29
/-! X6_expect -/
noncomputable def fX6_expect_b20 (T : zT)  (S : zS) : Option (Unit × zS) :=
  some ((), S)
noncomputable def fX6_expect (T : zT) (k0 : Nat) (x1 : Int32) (S : zS) : Option (Unit × zS) :=
  if (S.1 k0 2) = x1 then zb (fX6_next T k0 S) fun _ S7 => fX6_expect_b20 T  S7 else zb (fX6_fail T k0 0 S) fun _ S4 => fX6_expect_b20 T  S4
set_option maxHeartbeats 4000000 in
set_option maxRecDepth 100000 in
theorem tX6_expect_b20 (T : zT)  (S : zS)  {g : zG} (r : (Unit × zS)) (h : fX6_expect_b20 T  S = some r)  : zg g 1 mX6_expect T 20 [none, none] [] T S none T r.2 := by
  unfold fX6_expect_b20 at h
  cases h
  exact z_vret rfl dX6_expect_20
set_option maxHeartbeats 4000000 in
set_option maxRecDepth 100000 in
theorem tX6_expect (T : zT) (k0 : Nat) (x1 : Int32) (S : zS) (h0 : iX6 T k0) (r : Unit × zS) (h : fX6_expect T k0 x1 S = some r) : zGM 1 mX6_expect [.ref k0, .int x1] T S none T r.2 := by
  refine zGM_of zpnX6 rfl (Nat.le_of_ble_eq_true rfl) (fun g => ?_)
  show zg g 1 mX6_expect T 0 [some (.ref k0), some (.int x1)] [] T S none T r.2
  unfold fX6_expect at h
  refine z_aload_n dX6_expect_0 rfl ?_
  refine z_gI (zF.x zfX6_46) h0.1 dX6_expect_1 ?_
  refine z_iload_n dX6_expect_4 rfl ?_
  refine z_icmp_ne (tgt := 15) dX6_expect_5 (by decide) (fun q1 => ?_) (fun q1 => ?_)
  · rw [if_neg q1] at h
    refine z_aload_n dX6_expect_15 rfl ?_
    refine z_iconst dX6_expect_16 cI_0 ?_
    obtain ⟨r2, S4, hc3, h⟩ := zb_elim h
    refine z_callV (As := [.int 0]) zcX6 zkX6_123 ziX6_fail zqX6_fail h0.1 (tX6_fail T k0 0 S h0 (r2, S4) hc3) rfl rfl (Nat.le_of_ble_eq_true rfl) (by decide) ⟨Nat.le_refl _, Nat.le_refl _⟩ ⟨Nat.le_refl _, Nat.le_refl _⟩ dX6_expect_17 ?_
    exact z_mask [false, false] rfl (tX6_expect_b20 T  S4  r h)
  · rw [if_pos q1] at h
    refine z_aload_n dX6_expect_8 rfl ?_
    obtain ⟨r5, S7, hc6, h⟩ := zb_elim h
    refine z_callV (As := []) zcX6 zkX6_26 ziX6_next zqX6_next h0.1 (tX6_next T k0 S (iX6_n h0) (r5, S7) hc6) rfl rfl (Nat.le_of_ble_eq_true rfl) (by decide) ⟨Nat.le_refl _, Nat.le_refl _⟩ ⟨Nat.le_refl _, Nat.le_refl _⟩ dX6_expect_9 ?_
    refine z_goto (tgt := 20) dX6_expect_12 (by decide) ?_
    exact z_mask [false, false] rfl (tX6_expect_b20 T  S7  r h)
/-! X6_startClause -/
noncomputable def fX6_startClause_b34 (T : zT) (k0 : Nat) (S : zS) : Option (Int32 × zS) :=
  zb (fX6_fail T k0 4 S) fun _ S8 => some ((-1), S8)
noncomputable def fX6_startClause_b60 (T : zT) (k0 : Nat) (x2 : Int32) (S : zS) : Option (Int32 × zS) :=
  zb (fX6_next T k0 S) fun _ S15 => some (x2, S15)
noncomputable def fX6_startClause (T : zT) (k0 : Nat) (x1 : Int32) (S : zS) : Option (Int32 × zS) :=
  zlet (S.1 k0 2) fun u1 => zb1 (fX6_isClause T k0 S) fun r2 => if r2 = 0 then zb (fX6_fail T k0 0 S) fun _ S19 => some ((-1), S19) else if x1 = 0 then if (((S.1 k0 7) >>> (u1 &&& 31)) &&& 1) = 0 then zb1 (fX6_isOnceOnly T k0 S) fun r10 => if r10 = 0 then fX6_startClause_b60 T k0 u1 S else zlet (zI S k0 7 ((S.1 k0 7) ||| (1 <<< (u1 &&& 31)))) fun S16 => fX6_startClause_b60 T k0 u1 S16 else fX6_startClause_b34 T k0 S else fX6_startClause_b34 T k0 S
set_option maxHeartbeats 4000000 in
set_option maxRecDepth 100000 in
theorem tX6_startClause_b34 (T : zT) (k0 : Nat) (S : zS) (h0 : iX6 T k0) {g : zG} (r : (Int32 × zS)) (h : fX6_startClause_b34 T k0 S = some r)  : zg g 2 mX6_startClause T 34 [some (.ref k0), none, none] [] T S (some (.int r.1)) T r.2 := by
  unfold fX6_startClause_b34 at h
  refine z_aload_n dX6_startClause_34 rfl ?_
  refine z_iconst dX6_startClause_35 cI_4 ?_
  obtain ⟨r6, S8, hc7, h⟩ := zb_elim h
  refine z_callV (As := [.int 4]) zcX6 zkX6_123 ziX6_fail zqX6_fail h0.1 (tX6_fail T k0 4 S h0 (r6, S8) hc7) rfl rfl (Nat.le_of_ble_eq_true rfl) (by decide) ⟨Nat.le_refl _, Nat.le_refl _⟩ ⟨Nat.le_refl _, Nat.le_refl _⟩ dX6_startClause_36 ?_
  refine z_iconst dX6_startClause_39 cI_m1 ?_
  cases h
  exact z_iret rfl dX6_startClause_40
set_option maxHeartbeats 4000000 in
set_option maxRecDepth 100000 in
theorem tX6_startClause_b60 (T : zT) (k0 : Nat) (x2 : Int32) (S : zS) (h0 : iX6 T k0) {g : zG} (r : (Int32 × zS)) (h : fX6_startClause_b60 T k0 x2 S = some r)  : zg g 2 mX6_startClause T 60 [some (.ref k0), none, some (.int x2)] [] T S (some (.int r.1)) T r.2 := by
  unfold fX6_startClause_b60 at h
  refine z_aload_n dX6_startClause_60 rfl ?_
  obtain ⟨r13, S15, hc14, h⟩ := zb_elim h
  refine z_callV (As := []) zcX6 zkX6_26 ziX6_next zqX6_next h0.1 (tX6_next T k0 S (iX6_n h0) (r13, S15) hc14) rfl rfl (Nat.le_of_ble_eq_true rfl) (by decide) ⟨Nat.le_refl _, Nat.le_refl _⟩ ⟨Nat.le_refl _, Nat.le_refl _⟩ dX6_startClause_61 ?_
  refine z_iload_n dX6_startClause_64 rfl ?_
  cases h
  exact z_iret rfl dX6_startClause_65
set_option maxHeartbeats 4000000 in
set_option maxRecDepth 100000 in
theorem tX6_startClause (T : zT) (k0 : Nat) (x1 : Int32) (S : zS) (h0 : iX6 T k0) (r : Int32 × zS) (h : fX6_startClause T k0 x1 S = some r) : zGM 2 mX6_startClause [.ref k0, .int x1] T S (some (.int r.1)) T r.2 := by
  refine zGM_of zpnX6 rfl (Nat.le_of_ble_eq_true rfl) (fun g => ?_)
  show zg g 2 mX6_startClause T 0 [some (.ref k0), some (.int x1), none] [] T S (some (.int r.1)) T r.2
  unfold fX6_startClause at h
  refine z_aload_n dX6_startClause_0 rfl ?_
  refine z_gI (zF.x zfX6_46) h0.1 dX6_startClause_1 ?_
  obtain ⟨u1, eu1, h⟩ := zlet_elim h
  refine z_ti eu1 ?_
  refine z_istore_n dX6_startClause_4 rfl (by decide) rfl ?_
  refine z_aload_n dX6_startClause_5 rfl ?_
  obtain ⟨r2, hc3, h⟩ := zb1_elim h
  refine z_callV (As := []) zcX6 zkX6_120 ziX6_isClause zqX6_isClause h0.1 (tX6_isClause T k0 S h0 r2 hc3) rfl rfl (Nat.le_of_ble_eq_true rfl) (by decide) ⟨Nat.le_refl _, Nat.le_refl _⟩ ⟨Nat.le_refl _, Nat.le_refl _⟩ dX6_startClause_6 ?_
  refine z_if_ne (tgt := 19) dX6_startClause_9 (by decide) (fun q4 => ?_) (fun q4 => ?_)
  · rw [if_neg q4] at h
    refine z_iload_n dX6_startClause_19 rfl ?_
    refine z_if_ne (tgt := 34) dX6_startClause_20 (by decide) (fun q5 => ?_) (fun q5 => ?_)
    · rw [if_neg q5] at h
      exact z_mask [true, false, false] rfl (tX6_startClause_b34 T k0 S h0 r h)
    · rw [if_pos q5] at h
      refine z_aload_n dX6_startClause_23 rfl ?_
      refine z_gI (zF.x zfX6_35) h0.1 dX6_startClause_24 ?_
      refine z_iload_n dX6_startClause_27 rfl ?_
      refine z_ishr dX6_startClause_28 rfl ?_
      refine z_iconst dX6_startClause_29 cI_1 ?_
      refine z_iand dX6_startClause_30 rfl ?_
      refine z_if_eq (tgt := 41) dX6_startClause_31 (by decide) (fun q9 => ?_) (fun q9 => ?_)
      · rw [if_pos q9] at h
        refine z_aload_n dX6_startClause_41 rfl ?_
        obtain ⟨r10, hc11, h⟩ := zb1_elim h
        refine z_callV (As := []) zcX6 zkX6_127 ziX6_isOnceOnly zqX6_isOnceOnly h0.1 (tX6_isOnceOnly T k0 S h0 r10 hc11) rfl rfl (Nat.le_of_ble_eq_true rfl) (by decide) ⟨Nat.le_refl _, Nat.le_refl _⟩ ⟨Nat.le_refl _, Nat.le_refl _⟩ dX6_startClause_42 ?_
        refine z_if_eq (tgt := 60) dX6_startClause_45 (by decide) (fun q12 => ?_) (fun q12 => ?_)
        · rw [if_pos q12] at h
          exact z_mask [true, false, true] rfl (tX6_startClause_b60 T k0 u1 S h0 r h)
        · rw [if_neg q12] at h
          refine z_aload_n dX6_startClause_48 rfl ?_
          refine z_dup dX6_startClause_49 rfl ?_
          refine z_gI (zF.x zfX6_35) h0.1 dX6_startClause_50 ?_
          refine z_iconst dX6_startClause_53 cI_1 ?_
          refine z_iload_n dX6_startClause_54 rfl ?_
          refine z_ishl dX6_startClause_55 rfl ?_
          refine z_ior dX6_startClause_56 rfl ?_
          refine z_putI zfX6_35 h0.1 dX6_startClause_57 ?_
          obtain ⟨S16, eS16, h⟩ := zlet_elim h
          refine z_tS eS16 ?_
          exact z_mask [true, false, true] rfl (tX6_startClause_b60 T k0 u1 S16 h0 r h)
      · rw [if_neg q9] at h
        exact z_mask [true, false, false] rfl (tX6_startClause_b34 T k0 S h0 r h)
  · rw [if_pos q4] at h
    refine z_aload_n dX6_startClause_12 rfl ?_
    refine z_iconst dX6_startClause_13 cI_0 ?_
    obtain ⟨r17, S19, hc18, h⟩ := zb_elim h
    refine z_callV (As := [.int 0]) zcX6 zkX6_123 ziX6_fail zqX6_fail h0.1 (tX6_fail T k0 0 S h0 (r17, S19) hc18) rfl rfl (Nat.le_of_ble_eq_true rfl) (by decide) ⟨Nat.le_refl _, Nat.le_refl _⟩ ⟨Nat.le_refl _, Nat.le_refl _⟩ dX6_startClause_14 ?_
    refine z_iconst dX6_startClause_17 cI_m1 ?_
    cases h
    exact z_iret rfl dX6_startClause_18
/-! X6_isAtEnd -/
noncomputable def fX6_isAtEnd_b16 (T : zT)  (S : zS) : Option (Int32 × zS) :=
  some (1, S)
noncomputable def fX6_isAtEnd (T : zT) (k0 : Nat) (S : zS) : Option (Int32 × zS) :=
  if (S.1 k0 5) = 0 then if (S.1 k0 2) = 46 then fX6_isAtEnd_b16 T  S else zb (fX6_expect T k0 33 S) fun _ S5 => some (0, S5) else fX6_isAtEnd_b16 T  S
set_option maxHeartbeats 4000000 in
set_option maxRecDepth 100000 in
theorem tX6_isAtEnd_b16 (T : zT)  (S : zS)  {g : zG} (r : (Int32 × zS)) (h : fX6_isAtEnd_b16 T  S = some r)  : zg g 2 mX6_isAtEnd T 16 [none] [] T S (some (.int r.1)) T r.2 := by
  unfold fX6_isAtEnd_b16 at h
  refine z_iconst dX6_isAtEnd_16 cI_1 ?_
  cases h
  exact z_zret rfl (Or.inr rfl) dX6_isAtEnd_17
set_option maxHeartbeats 4000000 in
set_option maxRecDepth 100000 in
theorem tX6_isAtEnd (T : zT) (k0 : Nat) (S : zS) (h0 : iX6 T k0) (r : Int32 × zS) (h : fX6_isAtEnd T k0 S = some r) : zGM 2 mX6_isAtEnd [.ref k0] T S (some (.int r.1)) T r.2 := by
  refine zGM_of zpnX6 rfl (Nat.le_of_ble_eq_true rfl) (fun g => ?_)
  show zg g 2 mX6_isAtEnd T 0 [some (.ref k0)] [] T S (some (.int r.1)) T r.2
  unfold fX6_isAtEnd at h
  refine z_aload_n dX6_isAtEnd_0 rfl ?_
  refine z_gI (zF.x zfX6_29) h0.1 dX6_isAtEnd_1 ?_
  refine z_if_ne (tgt := 16) dX6_isAtEnd_4 (by decide) (fun q1 => ?_) (fun q1 => ?_)
  · rw [if_neg q1] at h
    exact z_mask [false] rfl (tX6_isAtEnd_b16 T  S  r h)
  · rw [if_pos q1] at h
    refine z_aload_n dX6_isAtEnd_7 rfl ?_
    refine z_gI (zF.x zfX6_46) h0.1 dX6_isAtEnd_8 ?_
    refine z_bipush dX6_isAtEnd_11 cB_46 ?_
    refine z_icmp_ne (tgt := 18) dX6_isAtEnd_13 (by decide) (fun q2 => ?_) (fun q2 => ?_)
    · rw [if_neg q2] at h
      refine z_aload_n dX6_isAtEnd_18 rfl ?_
      refine z_bipush dX6_isAtEnd_19 cB_33 ?_
      obtain ⟨r3, S5, hc4, h⟩ := zb_elim h
      refine z_callV (As := [.int 33]) zcX6 zkX6_130 ziX6_expect zqX6_expect h0.1 (tX6_expect T k0 33 S h0 (r3, S5) hc4) rfl rfl (Nat.le_of_ble_eq_true rfl) (by decide) ⟨Nat.le_refl _, Nat.le_refl _⟩ ⟨Nat.le_refl _, Nat.le_refl _⟩ dX6_isAtEnd_21 ?_
      refine z_iconst dX6_isAtEnd_24 cI_0 ?_
      cases h
      exact z_zret rfl (Or.inl rfl) dX6_isAtEnd_25
    · rw [if_pos q2] at h
      exact z_mask [false] rfl (tX6_isAtEnd_b16 T  S  r h)
/-! X6_readExtra -/
noncomputable def fX6_readExtra_b10 (T : zT)  (S : zS) : Option (Unit × zS) :=
  some ((), S)
noncomputable def fX6_readExtra_b93 (T : zT)  (S : zS) : Option (Unit × zS) :=
  some ((), S)
noncomputable def fX6_readExtra (T : zT) (k0 : Nat) (k1 : Nat) (x2 : Int32) (x3 : Int32) (S : zS) : Option (Unit × zS) :=
  if x2 < 0 then fX6_readExtra_b10 T  S else if x2 < 8 then if x3 = 10 then zb (fX6_number T k0 1 60 S) fun r21 S23 => zgd (zin x2 8) (zlet (zI S23 (zr T k1 8) (x2 : Int32).toNatClampNeg r21) fun S25 => fX6_readExtra_b93 T  S25) else if x3 = 11 then zb (fX6_number T k0 0 9999 S) fun r16 S18 => zgd (zin x2 8) (zlet (zI S18 (zr T k1 9) (x2 : Int32).toNatClampNeg r16) fun S20 => fX6_readExtra_b93 T  S20) else if x3 = 12 then zb (fX6_number T k0 0 9999 S) fun r11 S13 => zgd (zin x2 8) (zlet (zI S13 (zr T k1 10) (x2 : Int32).toNatClampNeg r11) fun S15 => fX6_readExtra_b93 T  S15) else zb (fX6_number T k0 0 9999 S) fun r6 S8 => zgd (zin x2 8) (zlet (zI S8 (zr T k1 11) (x2 : Int32).toNatClampNeg r6) fun S10 => fX6_readExtra_b93 T  S10) else fX6_readExtra_b10 T  S
set_option maxHeartbeats 4000000 in
set_option maxRecDepth 100000 in
theorem tX6_readExtra_b10 (T : zT)  (S : zS)  {g : zG} (r : (Unit × zS)) (h : fX6_readExtra_b10 T  S = some r)  : zg g 2 mX6_readExtra T 10 [none, none, none, none] [] T S none T r.2 := by
  unfold fX6_readExtra_b10 at h
  cases h
  exact z_vret rfl dX6_readExtra_10
set_option maxHeartbeats 4000000 in
set_option maxRecDepth 100000 in
theorem tX6_readExtra_b93 (T : zT)  (S : zS)  {g : zG} (r : (Unit × zS)) (h : fX6_readExtra_b93 T  S = some r)  : zg g 2 mX6_readExtra T 93 [none, none, none, none] [] T S none T r.2 := by
  unfold fX6_readExtra_b93 at h
  cases h
  exact z_vret rfl dX6_readExtra_93
set_option maxHeartbeats 4000000 in
set_option maxRecDepth 100000 in
theorem tX6_readExtra (T : zT) (k0 : Nat) (k1 : Nat) (x2 : Int32) (x3 : Int32) (S : zS) (h0 : iX6 T k0) (h1 : iX0 T k1) (r : Unit × zS) (h : fX6_readExtra T k0 k1 x2 x3 S = some r) : zGM 2 mX6_readExtra [.ref k0, .ref k1, .int x2, .int x3] T S none T r.2 := by
  refine zGM_of zpnX6 rfl (Nat.le_of_ble_eq_true rfl) (fun g => ?_)
  show zg g 2 mX6_readExtra T 0 [some (.ref k0), some (.ref k1), some (.int x2), some (.int x3)] [] T S none T r.2
  unfold fX6_readExtra at h
  refine z_iload_n dX6_readExtra_0 rfl ?_
  refine z_if_lt (tgt := 10) dX6_readExtra_1 (by decide) (fun q1 => ?_) (fun q1 => ?_)
  · rw [if_pos q1] at h
    exact z_mask [false, false, false, false] rfl (tX6_readExtra_b10 T  S  r h)
  · rw [if_neg q1] at h
    refine z_iload_n dX6_readExtra_4 rfl ?_
    refine z_bipush dX6_readExtra_5 cB_8 ?_
    refine z_icmp_lt (tgt := 11) dX6_readExtra_7 (by decide) (fun q2 => ?_) (fun q2 => ?_)
    · rw [if_pos q2] at h
      refine z_iload_n dX6_readExtra_11 rfl ?_
      refine z_bipush dX6_readExtra_12 cB_10 ?_
      refine z_icmp_ne (tgt := 33) dX6_readExtra_14 (by decide) (fun q3 => ?_) (fun q3 => ?_)
      · rw [if_neg q3] at h
        refine z_iload_n dX6_readExtra_33 rfl ?_
        refine z_bipush dX6_readExtra_34 cB_11 ?_
        refine z_icmp_ne (tgt := 56) dX6_readExtra_36 (by decide) (fun q4 => ?_) (fun q4 => ?_)
        · rw [if_neg q4] at h
          refine z_iload_n dX6_readExtra_56 rfl ?_
          refine z_bipush dX6_readExtra_57 cB_12 ?_
          refine z_icmp_ne (tgt := 79) dX6_readExtra_59 (by decide) (fun q5 => ?_) (fun q5 => ?_)
          · rw [if_neg q5] at h
            refine z_aload_n dX6_readExtra_79 rfl ?_
            refine z_gA zfX6_157 h1.1 dX6_readExtra_80 ?_
            refine z_iload_n dX6_readExtra_83 rfl ?_
            refine z_aload_n dX6_readExtra_84 rfl ?_
            refine z_iconst dX6_readExtra_85 cI_0 ?_
            refine z_sipush dX6_readExtra_86 cS_9999 ?_
            obtain ⟨r6, S8, hc7, h⟩ := zb_elim h
            refine z_callV (As := [.int 0, .int 9999]) zcX6 zkX6_89 ziX6_number zqX6_number h0.1 (tX6_number T k0 0 9999 S h0 (r6, S8) hc7) rfl rfl (Nat.le_of_ble_eq_true rfl) (by decide) ⟨Nat.le_refl _, Nat.le_refl _⟩ ⟨Nat.le_refl _, Nat.le_refl _⟩ dX6_readExtra_89 ?_
            obtain ⟨q9, h⟩ := zgd_elim h
            refine z_iast h1.2.2.2.2.2.2.1 (zin_ok q9) dX6_readExtra_92 ?_
            obtain ⟨S10, eS10, h⟩ := zlet_elim h
            refine z_tS eS10 ?_
            exact z_mask [false, false, false, false] rfl (tX6_readExtra_b93 T  S10  r h)
          · rw [if_pos q5] at h
            refine z_aload_n dX6_readExtra_62 rfl ?_
            refine z_gA zfX6_154 h1.1 dX6_readExtra_63 ?_
            refine z_iload_n dX6_readExtra_66 rfl ?_
            refine z_aload_n dX6_readExtra_67 rfl ?_
            refine z_iconst dX6_readExtra_68 cI_0 ?_
            refine z_sipush dX6_readExtra_69 cS_9999 ?_
            obtain ⟨r11, S13, hc12, h⟩ := zb_elim h
            refine z_callV (As := [.int 0, .int 9999]) zcX6 zkX6_89 ziX6_number zqX6_number h0.1 (tX6_number T k0 0 9999 S h0 (r11, S13) hc12) rfl rfl (Nat.le_of_ble_eq_true rfl) (by decide) ⟨Nat.le_refl _, Nat.le_refl _⟩ ⟨Nat.le_refl _, Nat.le_refl _⟩ dX6_readExtra_72 ?_
            obtain ⟨q14, h⟩ := zgd_elim h
            refine z_iast h1.2.2.2.2.2.1 (zin_ok q14) dX6_readExtra_75 ?_
            obtain ⟨S15, eS15, h⟩ := zlet_elim h
            refine z_tS eS15 ?_
            refine z_goto (tgt := 93) dX6_readExtra_76 (by decide) ?_
            exact z_mask [false, false, false, false] rfl (tX6_readExtra_b93 T  S15  r h)
        · rw [if_pos q4] at h
          refine z_aload_n dX6_readExtra_39 rfl ?_
          refine z_gA zfX6_151 h1.1 dX6_readExtra_40 ?_
          refine z_iload_n dX6_readExtra_43 rfl ?_
          refine z_aload_n dX6_readExtra_44 rfl ?_
          refine z_iconst dX6_readExtra_45 cI_0 ?_
          refine z_sipush dX6_readExtra_46 cS_9999 ?_
          obtain ⟨r16, S18, hc17, h⟩ := zb_elim h
          refine z_callV (As := [.int 0, .int 9999]) zcX6 zkX6_89 ziX6_number zqX6_number h0.1 (tX6_number T k0 0 9999 S h0 (r16, S18) hc17) rfl rfl (Nat.le_of_ble_eq_true rfl) (by decide) ⟨Nat.le_refl _, Nat.le_refl _⟩ ⟨Nat.le_refl _, Nat.le_refl _⟩ dX6_readExtra_49 ?_
          obtain ⟨q19, h⟩ := zgd_elim h
          refine z_iast h1.2.2.2.2.1 (zin_ok q19) dX6_readExtra_52 ?_
          obtain ⟨S20, eS20, h⟩ := zlet_elim h
          refine z_tS eS20 ?_
          refine z_goto (tgt := 93) dX6_readExtra_53 (by decide) ?_
          exact z_mask [false, false, false, false] rfl (tX6_readExtra_b93 T  S20  r h)
      · rw [if_pos q3] at h
        refine z_aload_n dX6_readExtra_17 rfl ?_
        refine z_gA zfX6_148 h1.1 dX6_readExtra_18 ?_
        refine z_iload_n dX6_readExtra_21 rfl ?_
        refine z_aload_n dX6_readExtra_22 rfl ?_
        refine z_iconst dX6_readExtra_23 cI_1 ?_
        refine z_bipush dX6_readExtra_24 cB_60 ?_
        obtain ⟨r21, S23, hc22, h⟩ := zb_elim h
        refine z_callV (As := [.int 1, .int 60]) zcX6 zkX6_89 ziX6_number zqX6_number h0.1 (tX6_number T k0 1 60 S h0 (r21, S23) hc22) rfl rfl (Nat.le_of_ble_eq_true rfl) (by decide) ⟨Nat.le_refl _, Nat.le_refl _⟩ ⟨Nat.le_refl _, Nat.le_refl _⟩ dX6_readExtra_26 ?_
        obtain ⟨q24, h⟩ := zgd_elim h
        refine z_iast h1.2.2.2.1 (zin_ok q24) dX6_readExtra_29 ?_
        obtain ⟨S25, eS25, h⟩ := zlet_elim h
        refine z_tS eS25 ?_
        refine z_goto (tgt := 93) dX6_readExtra_30 (by decide) ?_
        exact z_mask [false, false, false, false] rfl (tX6_readExtra_b93 T  S25  r h)
    · rw [if_neg q2] at h
      exact z_mask [false, false, false, false] rfl (tX6_readExtra_b10 T  S  r h)
/-! X6_readCousin -/
noncomputable def fX6_readCousin (T : zT) (k0 : Nat) (k1 : Nat) (S : zS) : Option (Unit × zS) :=
  zb (fX6_number T k0 0 9999 S) fun r1 S3 => zlet (zI S3 k1 4 r1) fun S4 => zb (fX6_expect T k0 7 S4) fun _ S7 => zb (fX6_number T k0 1 60 S7) fun r8 S10 => zlet (zI S10 k1 5 r8) fun S11 => some ((), S11)
set_option maxHeartbeats 4000000 in
set_option maxRecDepth 100000 in
theorem tX6_readCousin (T : zT) (k0 : Nat) (k1 : Nat) (S : zS) (h0 : iX6 T k0) (h1 : iX0 T k1) (r : Unit × zS) (h : fX6_readCousin T k0 k1 S = some r) : zGM 2 mX6_readCousin [.ref k0, .ref k1] T S none T r.2 := by
  refine zGM_of zpnX6 rfl (Nat.le_of_ble_eq_true rfl) (fun g => ?_)
  show zg g 2 mX6_readCousin T 0 [some (.ref k0), some (.ref k1)] [] T S none T r.2
  unfold fX6_readCousin at h
  refine z_aload_n dX6_readCousin_0 rfl ?_
  refine z_aload_n dX6_readCousin_1 rfl ?_
  refine z_iconst dX6_readCousin_2 cI_0 ?_
  refine z_sipush dX6_readCousin_3 cS_9999 ?_
  obtain ⟨r1, S3, hc2, h⟩ := zb_elim h
  refine z_callV (As := [.int 0, .int 9999]) zcX6 zkX6_89 ziX6_number zqX6_number h0.1 (tX6_number T k0 0 9999 S h0 (r1, S3) hc2) rfl rfl (Nat.le_of_ble_eq_true rfl) (by decide) ⟨Nat.le_refl _, Nat.le_refl _⟩ ⟨Nat.le_refl _, Nat.le_refl _⟩ dX6_readCousin_6 ?_
  refine z_putI zfX6_176 h1.1 dX6_readCousin_9 ?_
  obtain ⟨S4, eS4, h⟩ := zlet_elim h
  refine z_tS eS4 ?_
  refine z_aload_n dX6_readCousin_12 rfl ?_
  refine z_bipush dX6_readCousin_13 cB_7 ?_
  obtain ⟨r5, S7, hc6, h⟩ := zb_elim h
  refine z_callV (As := [.int 7]) zcX6 zkX6_130 ziX6_expect zqX6_expect h0.1 (tX6_expect T k0 7 S4 h0 (r5, S7) hc6) rfl rfl (Nat.le_of_ble_eq_true rfl) (by decide) ⟨Nat.le_refl _, Nat.le_refl _⟩ ⟨Nat.le_refl _, Nat.le_refl _⟩ dX6_readCousin_15 ?_
  refine z_aload_n dX6_readCousin_18 rfl ?_
  refine z_aload_n dX6_readCousin_19 rfl ?_
  refine z_iconst dX6_readCousin_20 cI_1 ?_
  refine z_bipush dX6_readCousin_21 cB_60 ?_
  obtain ⟨r8, S10, hc9, h⟩ := zb_elim h
  refine z_callV (As := [.int 1, .int 60]) zcX6 zkX6_89 ziX6_number zqX6_number h0.1 (tX6_number T k0 1 60 S7 h0 (r8, S10) hc9) rfl rfl (Nat.le_of_ble_eq_true rfl) (by decide) ⟨Nat.le_refl _, Nat.le_refl _⟩ ⟨Nat.le_refl _, Nat.le_refl _⟩ dX6_readCousin_23 ?_
  refine z_putI zfX6_179 h1.1 dX6_readCousin_26 ?_
  obtain ⟨S11, eS11, h⟩ := zlet_elim h
  refine z_tS eS11 ?_
  cases h
  exact z_vret rfl dX6_readCousin_29
/-! X6_readSum -/
noncomputable def fX6_readSum_b50 (T : zT) (k0 : Nat) (x1 : Int32) (x2 : Int32) (x3 : Int32) (S : zS) : Option ((Int32 × zS) ⊕ zS) :=
  zlet (S.1 k0 2) fun u8 => zb (fX6_next T k0 S) fun _ S11 => zb (fX6_readValue T k0 S11) fun _ S14 => zb (fX2_add T (zr T k0 9) u8 0 S14) fun _ S17 => zlet (x3 + 1) fun u18 => some (.inl (u18, S17))
noncomputable def fX6_readSum_l25 (T : zT) (k0 : Nat) (x1 : Int32) (x2 : Int32) (x3 : Int32) (S : zS) : Option ((Int32 × zS) ⊕ zS) :=
  if 400 ≤ x3 then some (.inr S) else if (S.1 k0 2) = 38 then fX6_readSum_b50 T k0 x1 x2 x3 S else if (S.1 k0 2) = 39 then fX6_readSum_b50 T k0 x1 x2 x3 S else some (.inr S)
noncomputable def fX6_readSum_b114 (T : zT) (k0 : Nat) (x2 : Int32) (S : zS) : Option ((Int32 × Int32 × zS) ⊕ (zS ⊕ zS)) :=
  zlet (S.1 k0 2) fun u23 => zb (fX6_next T k0 S) fun _ S26 => zlet (x2 + 1) fun u27 => some (.inl (u23, u27, S26))
noncomputable def fX6_readSum_b95 (T : zT) (k0 : Nat) (x2 : Int32) (S : zS) : Option ((Int32 × Int32 × zS) ⊕ (zS ⊕ zS)) :=
  if (S.1 k0 2) = 36 then fX6_readSum_b114 T k0 x2 S else if (S.1 k0 2) = 37 then fX6_readSum_b114 T k0 x2 S else some (.inr (.inr S))
noncomputable def fX6_readSum_b80 (T : zT) (k0 : Nat) (x1 : Int32) (x2 : Int32) (S : zS) : Option ((Int32 × Int32 × zS) ⊕ (zS ⊕ zS)) :=
  if x1 = 48 then fX6_readSum_b95 T k0 x2 S else zb (fX2_add T (zr T k0 9) x1 0 S) fun _ S31 => fX6_readSum_b95 T k0 x2 S31
noncomputable def fX6_readSum_l5 (T : zT) (k0 : Nat) (x1 : Int32) (x2 : Int32) (S : zS) : Option ((Int32 × Int32 × zS) ⊕ (zS ⊕ zS)) :=
  if 400 ≤ x2 then some (.inr (.inl S)) else if (S.1 k0 5) = 0 then zb (fX6_readValue T k0 S) fun _ S5 => zb1 (lp (fun a => fX6_readSum_l25 T k0 x1 x2 a.1 a.2) (0, S5)) fun e20 => fX6_readSum_b80 T k0 x1 x2 e20 else some (.inr (.inl S))
noncomputable def fX6_readSum_b129 (T : zT)  (S : zS) : Option (Unit × zS) :=
  some ((), S)
noncomputable def fX6_readSum (T : zT) (k0 : Nat) (S : zS) : Option (Unit × zS) :=
  zb1 (lp (fun a => fX6_readSum_l5 T k0 a.1 a.2.1 a.2.2) (48, 0, S)) fun e34 => zsm e34 (fun e34_0 => fX6_readSum_b129 T  e34_0) (fun e34_1 => some ((), e34_1))
set_option maxHeartbeats 4000000 in
set_option maxRecDepth 100000 in
theorem tX6_readSum_b50 (T : zT) (k0 : Nat) (x1 : Int32) (x2 : Int32) (x3 : Int32) (S : zS) (h0 : iX6 T k0) {g : zG} {v : Option Value} {S' : zS} (r : ((Int32 × zS) ⊕ zS)) (h : fX6_readSum_b50 T k0 x1 x2 x3 S = some r) (K1 : ∀ a : (Int32 × zS), r = .inl a → zg g 2 mX6_readSum T 25 [some (.ref k0), some (.int x1), some (.int x2), some (.int a.1), none] [] T a.2 v T S') (K2_0 : ∀ e : zS, r = .inr e → zg g 2 mX6_readSum T 80 [some (.ref k0), some (.int x1), some (.int x2), none, none] [] T e v T S') : zg g 2 mX6_readSum T 50 [some (.ref k0), some (.int x1), some (.int x2), some (.int x3), none] [] T S v T S' := by
  unfold fX6_readSum_b50 at h
  refine z_aload_n dX6_readSum_50 rfl ?_
  refine z_gI (zF.x zfX6_46) h0.1 dX6_readSum_51 ?_
  obtain ⟨u8, eu8, h⟩ := zlet_elim h
  refine z_ti eu8 ?_
  refine z_istore dX6_readSum_54 rfl (by decide) rfl ?_
  refine z_aload_n dX6_readSum_56 rfl ?_
  obtain ⟨r9, S11, hc10, h⟩ := zb_elim h
  refine z_callV (As := []) zcX6 zkX6_26 ziX6_next zqX6_next h0.1 (tX6_next T k0 S (iX6_n h0) (r9, S11) hc10) rfl rfl (Nat.le_of_ble_eq_true rfl) (by decide) ⟨Nat.le_refl _, Nat.le_refl _⟩ ⟨Nat.le_refl _, Nat.le_refl _⟩ dX6_readSum_57 ?_
  refine z_aload_n dX6_readSum_60 rfl ?_
  obtain ⟨r12, S14, hc13, h⟩ := zb_elim h
  refine z_callV (As := []) zcX6 zkX6_203 ziX6_readValue zqX6_readValue h0.1 (tX6_readValue T k0 S11 h0 (r12, S14) hc13) rfl rfl (Nat.le_of_ble_eq_true rfl) (by decide) ⟨Nat.le_refl _, Nat.le_refl _⟩ ⟨Nat.le_refl _, Nat.le_refl _⟩ dX6_readSum_61 ?_
  refine z_aload_n dX6_readSum_64 rfl ?_
  refine z_gR (zF.x zfX6_38) h0.1 dX6_readSum_65 ?_
  refine z_iload dX6_readSum_68 rfl ?_
  refine z_iconst dX6_readSum_70 cI_0 ?_
  obtain ⟨r15, S17, hc16, h⟩ := zb_elim h
  refine z_callV (As := [.int u8, .int 0]) zcX2 zkX6_190 ziX2_add zqX2_add h0.2.2.1 (tX2_add T (zr T k0 9) u8 0 S14 h0.2.2 (r15, S17) hc16) rfl rfl (Nat.le_of_ble_eq_true rfl) (by decide) ⟨Nat.le_refl _, Nat.le_refl _⟩ ⟨Nat.le_refl _, Nat.le_refl _⟩ dX6_readSum_71 ?_
  obtain ⟨u18, eu18, h⟩ := zlet_elim h
  refine z_iinc (r := u18) dX6_readSum_74 rfl (by rw [eu18, cI_1]) rfl (by decide) rfl ?_
  refine z_goto (tgt := 25) dX6_readSum_77 (by decide) ?_
  cases h
  exact z_mask [true, true, true, true, false] rfl (K1 _ rfl)
set_option maxHeartbeats 4000000 in
set_option maxRecDepth 100000 in
theorem tX6_readSum_l25b (T : zT) (k0 : Nat) (x1 : Int32) (x2 : Int32) (x3 : Int32) (S : zS) (h0 : iX6 T k0) {g : zG} {v : Option Value} {S' : zS} (r : (Int32 × zS) ⊕ zS) (h : fX6_readSum_l25 T k0 x1 x2 x3 S = some r) (K1 : ∀ a : (Int32 × zS), r = .inl a → zg g 2 mX6_readSum T 25 [some (.ref k0), some (.int x1), some (.int x2), some (.int a.1), none] [] T a.2 v T S') (K2_0 : ∀ e : zS, r = .inr e → zg g 2 mX6_readSum T 80 [some (.ref k0), some (.int x1), some (.int x2), none, none] [] T e v T S') : zg g 2 mX6_readSum T 25 [some (.ref k0), some (.int x1), some (.int x2), some (.int x3), none] [] T S v T S' := by
  unfold fX6_readSum_l25 at h
  refine z_iload_n dX6_readSum_25 rfl ?_
  refine z_sipush dX6_readSum_26 cS_400 ?_
  refine z_icmp_ge (tgt := 80) dX6_readSum_29 (by decide) (fun q6 => ?_) (fun q6 => ?_)
  · rw [if_pos q6] at h
    cases h
    exact z_mask [true, true, true, false, false] rfl (K2_0 _ rfl)
  · rw [if_neg q6] at h
    refine z_aload_n dX6_readSum_32 rfl ?_
    refine z_gI (zF.x zfX6_46) h0.1 dX6_readSum_33 ?_
    refine z_bipush dX6_readSum_36 cB_38 ?_
    refine z_icmp_eq (tgt := 50) dX6_readSum_38 (by decide) (fun q7 => ?_) (fun q7 => ?_)
    · rw [if_pos q7] at h
      exact z_mask [true, true, true, true, false] rfl (tX6_readSum_b50 T k0 x1 x2 x3 S h0 r h K1 K2_0)
    · rw [if_neg q7] at h
      refine z_aload_n dX6_readSum_41 rfl ?_
      refine z_gI (zF.x zfX6_46) h0.1 dX6_readSum_42 ?_
      refine z_bipush dX6_readSum_45 cB_39 ?_
      refine z_icmp_ne (tgt := 80) dX6_readSum_47 (by decide) (fun q19 => ?_) (fun q19 => ?_)
      · rw [if_neg q19] at h
        cases h
        exact z_mask [true, true, true, false, false] rfl (K2_0 _ rfl)
      · rw [if_pos q19] at h
        exact z_mask [true, true, true, true, false] rfl (tX6_readSum_b50 T k0 x1 x2 x3 S h0 r h K1 K2_0)
set_option maxHeartbeats 4000000 in
set_option maxRecDepth 100000 in
theorem tX6_readSum_l25 (T : zT) (k0 : Nat) (x1 : Int32) (x2 : Int32) (h0 : iX6 T k0) {g : zG} {v : Option Value} {S' : zS} : ∀ (n : Nat) (a : (Int32 × zS)) (e : zS), lpn (fun a => fX6_readSum_l25 T k0 x1 x2 a.1 a.2) n a = some e → (∀ e1 : zS, e = e1 → zg g 2 mX6_readSum T 80 [some (.ref k0), some (.int x1), some (.int x2), none, none] [] T e1 v T S') → zg g 2 mX6_readSum T 25 [some (.ref k0), some (.int x1), some (.int x2), some (.int a.1), none] [] T a.2 v T S' := by
  intro n
  induction n with
  | zero =>
    intro a e h
    cases h
  | succ n ih =>
    intro a e h k0_
    rcases lpn_succ h with ⟨a1, ha_, hb_⟩ | ha_
    · exact tX6_readSum_l25b T k0 x1 x2 a.1 a.2 h0 _ ha_ (fun a2 q => by cases q; exact ih a1 e hb_ k0_) (fun e1 q => by cases q)
    · exact tX6_readSum_l25b T k0 x1 x2 a.1 a.2 h0 _ ha_ (fun a2 q => by cases q) (fun e1 q => by cases q; exact k0_ _ rfl)
set_option maxHeartbeats 4000000 in
set_option maxRecDepth 100000 in
theorem tX6_readSum_b114 (T : zT) (k0 : Nat) (x2 : Int32) (S : zS) (h0 : iX6 T k0) {g : zG} {v : Option Value} {S' : zS} (r : ((Int32 × Int32 × zS) ⊕ (zS ⊕ zS))) (h : fX6_readSum_b114 T k0 x2 S = some r) (K1 : ∀ a : (Int32 × Int32 × zS), r = .inl a → zg g 2 mX6_readSum T 5 [some (.ref k0), some (.int a.1), some (.int a.2.1), none, none] [] T a.2.2 v T S') (K2_0 : ∀ e : zS, r = .inr (.inl e) → zg g 2 mX6_readSum T 129 [none, none, none, none, none] [] T e v T S') (K2_1 : ∀ e : zS, r = .inr (.inr e) → zg g 2 mX6_readSum T 113 [none, none, none, none, none] [] T e v T S') : zg g 2 mX6_readSum T 114 [some (.ref k0), none, some (.int x2), none, none] [] T S v T S' := by
  unfold fX6_readSum_b114 at h
  refine z_aload_n dX6_readSum_114 rfl ?_
  refine z_gI (zF.x zfX6_46) h0.1 dX6_readSum_115 ?_
  obtain ⟨u23, eu23, h⟩ := zlet_elim h
  refine z_ti eu23 ?_
  refine z_istore_n dX6_readSum_118 rfl (by decide) rfl ?_
  refine z_aload_n dX6_readSum_119 rfl ?_
  obtain ⟨r24, S26, hc25, h⟩ := zb_elim h
  refine z_callV (As := []) zcX6 zkX6_26 ziX6_next zqX6_next h0.1 (tX6_next T k0 S (iX6_n h0) (r24, S26) hc25) rfl rfl (Nat.le_of_ble_eq_true rfl) (by decide) ⟨Nat.le_refl _, Nat.le_refl _⟩ ⟨Nat.le_refl _, Nat.le_refl _⟩ dX6_readSum_120 ?_
  obtain ⟨u27, eu27, h⟩ := zlet_elim h
  refine z_iinc (r := u27) dX6_readSum_123 rfl (by rw [eu27, cI_1]) rfl (by decide) rfl ?_
  refine z_goto (tgt := 5) dX6_readSum_126 (by decide) ?_
  cases h
  exact z_mask [true, true, true, false, false] rfl (K1 _ rfl)
set_option maxHeartbeats 4000000 in
set_option maxRecDepth 100000 in
theorem tX6_readSum_b95 (T : zT) (k0 : Nat) (x2 : Int32) (S : zS) (h0 : iX6 T k0) {g : zG} {v : Option Value} {S' : zS} (r : ((Int32 × Int32 × zS) ⊕ (zS ⊕ zS))) (h : fX6_readSum_b95 T k0 x2 S = some r) (K1 : ∀ a : (Int32 × Int32 × zS), r = .inl a → zg g 2 mX6_readSum T 5 [some (.ref k0), some (.int a.1), some (.int a.2.1), none, none] [] T a.2.2 v T S') (K2_0 : ∀ e : zS, r = .inr (.inl e) → zg g 2 mX6_readSum T 129 [none, none, none, none, none] [] T e v T S') (K2_1 : ∀ e : zS, r = .inr (.inr e) → zg g 2 mX6_readSum T 113 [none, none, none, none, none] [] T e v T S') : zg g 2 mX6_readSum T 95 [some (.ref k0), none, some (.int x2), none, none] [] T S v T S' := by
  unfold fX6_readSum_b95 at h
  refine z_aload_n dX6_readSum_95 rfl ?_
  refine z_gI (zF.x zfX6_46) h0.1 dX6_readSum_96 ?_
  refine z_bipush dX6_readSum_99 cB_36 ?_
  refine z_icmp_eq (tgt := 114) dX6_readSum_101 (by decide) (fun q22 => ?_) (fun q22 => ?_)
  · rw [if_pos q22] at h
    exact z_mask [true, false, true, false, false] rfl (tX6_readSum_b114 T k0 x2 S h0 r h K1 K2_0 K2_1)
  · rw [if_neg q22] at h
    refine z_aload_n dX6_readSum_104 rfl ?_
    refine z_gI (zF.x zfX6_46) h0.1 dX6_readSum_105 ?_
    refine z_bipush dX6_readSum_108 cB_37 ?_
    refine z_icmp_eq (tgt := 114) dX6_readSum_110 (by decide) (fun q28 => ?_) (fun q28 => ?_)
    · rw [if_pos q28] at h
      exact z_mask [true, false, true, false, false] rfl (tX6_readSum_b114 T k0 x2 S h0 r h K1 K2_0 K2_1)
    · rw [if_neg q28] at h
      cases h
      exact z_mask [false, false, false, false, false] rfl (K2_1 _ rfl)
set_option maxHeartbeats 4000000 in
set_option maxRecDepth 100000 in
theorem tX6_readSum_b80 (T : zT) (k0 : Nat) (x1 : Int32) (x2 : Int32) (S : zS) (h0 : iX6 T k0) {g : zG} {v : Option Value} {S' : zS} (r : ((Int32 × Int32 × zS) ⊕ (zS ⊕ zS))) (h : fX6_readSum_b80 T k0 x1 x2 S = some r) (K1 : ∀ a : (Int32 × Int32 × zS), r = .inl a → zg g 2 mX6_readSum T 5 [some (.ref k0), some (.int a.1), some (.int a.2.1), none, none] [] T a.2.2 v T S') (K2_0 : ∀ e : zS, r = .inr (.inl e) → zg g 2 mX6_readSum T 129 [none, none, none, none, none] [] T e v T S') (K2_1 : ∀ e : zS, r = .inr (.inr e) → zg g 2 mX6_readSum T 113 [none, none, none, none, none] [] T e v T S') : zg g 2 mX6_readSum T 80 [some (.ref k0), some (.int x1), some (.int x2), none, none] [] T S v T S' := by
  unfold fX6_readSum_b80 at h
  refine z_iload_n dX6_readSum_80 rfl ?_
  refine z_bipush dX6_readSum_81 cB_48 ?_
  refine z_icmp_eq (tgt := 95) dX6_readSum_83 (by decide) (fun q21 => ?_) (fun q21 => ?_)
  · rw [if_pos q21] at h
    exact z_mask [true, false, true, false, false] rfl (tX6_readSum_b95 T k0 x2 S h0 r h K1 K2_0 K2_1)
  · rw [if_neg q21] at h
    refine z_aload_n dX6_readSum_86 rfl ?_
    refine z_gR (zF.x zfX6_38) h0.1 dX6_readSum_87 ?_
    refine z_iload_n dX6_readSum_90 rfl ?_
    refine z_iconst dX6_readSum_91 cI_0 ?_
    obtain ⟨r29, S31, hc30, h⟩ := zb_elim h
    refine z_callV (As := [.int x1, .int 0]) zcX2 zkX6_190 ziX2_add zqX2_add h0.2.2.1 (tX2_add T (zr T k0 9) x1 0 S h0.2.2 (r29, S31) hc30) rfl rfl (Nat.le_of_ble_eq_true rfl) (by decide) ⟨Nat.le_refl _, Nat.le_refl _⟩ ⟨Nat.le_refl _, Nat.le_refl _⟩ dX6_readSum_92 ?_
    exact z_mask [true, false, true, false, false] rfl (tX6_readSum_b95 T k0 x2 S31 h0 r h K1 K2_0 K2_1)
set_option maxHeartbeats 4000000 in
set_option maxRecDepth 100000 in
theorem tX6_readSum_l5b (T : zT) (k0 : Nat) (x1 : Int32) (x2 : Int32) (S : zS) (h0 : iX6 T k0) {g : zG} {v : Option Value} {S' : zS} (r : (Int32 × Int32 × zS) ⊕ (zS ⊕ zS)) (h : fX6_readSum_l5 T k0 x1 x2 S = some r) (K1 : ∀ a : (Int32 × Int32 × zS), r = .inl a → zg g 2 mX6_readSum T 5 [some (.ref k0), some (.int a.1), some (.int a.2.1), none, none] [] T a.2.2 v T S') (K2_0 : ∀ e : zS, r = .inr (.inl e) → zg g 2 mX6_readSum T 129 [none, none, none, none, none] [] T e v T S') (K2_1 : ∀ e : zS, r = .inr (.inr e) → zg g 2 mX6_readSum T 113 [none, none, none, none, none] [] T e v T S') : zg g 2 mX6_readSum T 5 [some (.ref k0), some (.int x1), some (.int x2), none, none] [] T S v T S' := by
  unfold fX6_readSum_l5 at h
  refine z_iload_n dX6_readSum_5 rfl ?_
  refine z_sipush dX6_readSum_6 cS_400 ?_
  refine z_icmp_ge (tgt := 129) dX6_readSum_9 (by decide) (fun q1 => ?_) (fun q1 => ?_)
  · rw [if_pos q1] at h
    cases h
    exact z_mask [false, false, false, false, false] rfl (K2_0 _ rfl)
  · rw [if_neg q1] at h
    refine z_aload_n dX6_readSum_12 rfl ?_
    refine z_gI (zF.x zfX6_29) h0.1 dX6_readSum_13 ?_
    refine z_if_ne (tgt := 129) dX6_readSum_16 (by decide) (fun q2 => ?_) (fun q2 => ?_)
    · rw [if_neg q2] at h
      cases h
      exact z_mask [false, false, false, false, false] rfl (K2_0 _ rfl)
    · rw [if_pos q2] at h
      refine z_aload_n dX6_readSum_19 rfl ?_
      obtain ⟨r3, S5, hc4, h⟩ := zb_elim h
      refine z_callV (As := []) zcX6 zkX6_203 ziX6_readValue zqX6_readValue h0.1 (tX6_readValue T k0 S h0 (r3, S5) hc4) rfl rfl (Nat.le_of_ble_eq_true rfl) (by decide) ⟨Nat.le_refl _, Nat.le_refl _⟩ ⟨Nat.le_refl _, Nat.le_refl _⟩ dX6_readSum_20 ?_
      refine z_iconst dX6_readSum_23 cI_0 ?_
      refine z_istore_n dX6_readSum_24 rfl (by decide) rfl ?_
      obtain ⟨e20, hl32, h⟩ := zb1_elim h
      obtain ⟨nf33, hl32⟩ := lp_some hl32
      refine z_mask [true, true, true, true, false] rfl (tX6_readSum_l25 T k0 x1 x2 h0 nf33 (0, S5) e20 hl32 (fun e_ q => ?_))
      · cases q
        exact z_mask [true, true, true, false, false] rfl (tX6_readSum_b80 T k0 x1 x2 e20 h0 r h K1 K2_0 K2_1)
set_option maxHeartbeats 4000000 in
set_option maxRecDepth 100000 in
theorem tX6_readSum_l5 (T : zT) (k0 : Nat) (h0 : iX6 T k0) {g : zG} {v : Option Value} {S' : zS} : ∀ (n : Nat) (a : (Int32 × Int32 × zS)) (e : (zS ⊕ zS)), lpn (fun a => fX6_readSum_l5 T k0 a.1 a.2.1 a.2.2) n a = some e → (∀ e1 : zS, e = (.inl e1) → zg g 2 mX6_readSum T 129 [none, none, none, none, none] [] T e1 v T S') → (∀ e1 : zS, e = (.inr e1) → zg g 2 mX6_readSum T 113 [none, none, none, none, none] [] T e1 v T S') → zg g 2 mX6_readSum T 5 [some (.ref k0), some (.int a.1), some (.int a.2.1), none, none] [] T a.2.2 v T S' := by
  intro n
  induction n with
  | zero =>
    intro a e h
    cases h
  | succ n ih =>
    intro a e h k0_ k1_
    rcases lpn_succ h with ⟨a1, ha_, hb_⟩ | ha_
    · exact tX6_readSum_l5b T k0 a.1 a.2.1 a.2.2 h0 _ ha_ (fun a2 q => by cases q; exact ih a1 e hb_ k0_ k1_) (fun e1 q => by cases q) (fun e1 q => by cases q)
    · exact tX6_readSum_l5b T k0 a.1 a.2.1 a.2.2 h0 _ ha_ (fun a2 q => by cases q) (fun e1 q => by cases q; exact k0_ _ rfl) (fun e1 q => by cases q; exact k1_ _ rfl)
set_option maxHeartbeats 4000000 in
set_option maxRecDepth 100000 in
theorem tX6_readSum_b129 (T : zT)  (S : zS)  {g : zG} (r : (Unit × zS)) (h : fX6_readSum_b129 T  S = some r)  : zg g 2 mX6_readSum T 129 [none, none, none, none, none] [] T S none T r.2 := by
  unfold fX6_readSum_b129 at h
  cases h
  exact z_vret rfl dX6_readSum_129
set_option maxHeartbeats 4000000 in
set_option maxRecDepth 100000 in
theorem tX6_readSum (T : zT) (k0 : Nat) (S : zS) (h0 : iX6 T k0) (r : Unit × zS) (h : fX6_readSum T k0 S = some r) : zGM 2 mX6_readSum [.ref k0] T S none T r.2 := by
  refine zGM_of zpnX6 rfl (Nat.le_of_ble_eq_true rfl) (fun g => ?_)
  show zg g 2 mX6_readSum T 0 [some (.ref k0), none, none, none, none] [] T S none T r.2
  unfold fX6_readSum at h
  refine z_bipush dX6_readSum_0 cB_48 ?_
  refine z_istore_n dX6_readSum_2 rfl (by decide) rfl ?_
  refine z_iconst dX6_readSum_3 cI_0 ?_
  refine z_istore_n dX6_readSum_4 rfl (by decide) rfl ?_
  obtain ⟨e34, hl35, h⟩ := zb1_elim h
  obtain ⟨nf36, hl35⟩ := lp_some hl35
  refine z_mask [true, true, true, false, false] rfl (tX6_readSum_l5 T k0 h0 nf36 (48, 0, S) e34 hl35 (fun e34_0 q => ?_) (fun e34_1 q => ?_))
  · cases q
    replace h := zsm_l h
    exact z_mask [false, false, false, false, false] rfl (tX6_readSum_b129 T  e34_0  r h)
  · cases q
    replace h := zsm_r h
    cases h
    exact z_vret rfl dX6_readSum_113
/-! X6_readThing -/
noncomputable def fX6_readThing_l79 (T : zT) (k0 : Nat) (k1 : Nat) (x2 : Int32) (x4 : Int32) (x5 : Int32) (S : zS) : Option ((Int32 × Int32 × zS) ⊕ (zS ⊕ (zS ⊕ zS))) :=
  if 400 ≤ x5 then some (.inr (.inl S)) else if (S.1 k0 5) = 0 then zlet (S.1 k0 2) fun u21 => if u21 < 10 then some (.inr (.inr (.inl S))) else if u21 ≤ 13 then if ((x4 >>> (u21 &&& 31)) &&& 1) = 0 then zlet (x4 ||| (1 <<< (u21 &&& 31))) fun u25 => zb (fX6_next T k0 S) fun _ S28 => zb (fX6_readExtra T k0 k1 x2 u21 S28) fun _ S31 => zlet (x5 + 1) fun u32 => some (.inl (u25, u32, S31)) else some (.inr (.inr (.inr S))) else some (.inr (.inr (.inl S))) else some (.inr (.inl S))
noncomputable def fX6_readThing_b158 (T : zT)  (S : zS) : Option (Unit × zS) :=
  some ((), S)
noncomputable def fX6_readThing_b114 (T : zT)  (S : zS) : Option (Unit × zS) :=
  some ((), S)
noncomputable def fX6_readThing (T : zT) (k0 : Nat) (k1 : Nat) (S : zS) : Option (Unit × zS) :=
  if (S.1 k0 2) = 30 then zlet (S.1 k0 3) fun u2 => zb1 (fX0_has T k1 u2 S) fun r3 => if r3 = 0 then zb (fX6_next T k0 S) fun _ S8 => zlet (zI S8 k1 0 ((S8.1 k1 0) ||| (1 <<< (u2 &&& 31)))) fun S9 => zb (fX6_number T k0 1 9999 S9) fun r10 S12 => zb (fX6_number T k0 0 999 S12) fun r13 S15 => zb (fX0_tellThing T k1 u2 r10 r13 S15) fun _ S18 => zb1 (lp (fun a => fX6_readThing_l79 T k0 k1 u2 a.1 a.2.1 a.2.2) (0, 0, S18)) fun e33 => zsm e33 (fun e33_0 => fX6_readThing_b158 T  e33_0) (fun e33r1 => zsm e33r1 (fun e33_1 => fX6_readThing_b114 T  e33_1) (fun e33_2 => zb (fX6_fail T k0 4 e33_2) fun _ S36 => some ((), S36))) else zb (fX6_fail T k0 5 S) fun _ S41 => some ((), S41) else zb (fX6_fail T k0 0 S) fun _ S44 => some ((), S44)
set_option maxHeartbeats 4000000 in
set_option maxRecDepth 100000 in
theorem tX6_readThing_l79b (T : zT) (k0 : Nat) (k1 : Nat) (x2 : Int32) (x4 : Int32) (x5 : Int32) (S : zS) (h0 : iX6 T k0) (h1 : iX0 T k1) {g : zG} {v : Option Value} {S' : zS} (r : (Int32 × Int32 × zS) ⊕ (zS ⊕ (zS ⊕ zS))) (h : fX6_readThing_l79 T k0 k1 x2 x4 x5 S = some r) (K1 : ∀ a : (Int32 × Int32 × zS), r = .inl a → zg g 3 mX6_readThing T 79 [some (.ref k0), some (.ref k1), some (.int x2), none, some (.int a.1), some (.int a.2.1), none] [] T a.2.2 v T S') (K2_0 : ∀ e : zS, r = .inr (.inl e) → zg g 3 mX6_readThing T 158 [none, none, none, none, none, none, none] [] T e v T S') (K2_1 : ∀ e : zS, r = .inr (.inr (.inl e)) → zg g 3 mX6_readThing T 114 [none, none, none, none, none, none, none] [] T e v T S') (K2_2 : ∀ e : zS, r = .inr (.inr (.inr e)) → zg g 3 mX6_readThing T 125 [some (.ref k0), none, none, none, none, none, none] [] T e v T S') : zg g 3 mX6_readThing T 79 [some (.ref k0), some (.ref k1), some (.int x2), none, some (.int x4), some (.int x5), none] [] T S v T S' := by
  unfold fX6_readThing_l79 at h
  refine z_iload dX6_readThing_79 rfl ?_
  refine z_sipush dX6_readThing_81 cS_400 ?_
  refine z_icmp_ge (tgt := 158) dX6_readThing_84 (by decide) (fun q19 => ?_) (fun q19 => ?_)
  · rw [if_pos q19] at h
    cases h
    exact z_mask [false, false, false, false, false, false, false] rfl (K2_0 _ rfl)
  · rw [if_neg q19] at h
    refine z_aload_n dX6_readThing_87 rfl ?_
    refine z_gI (zF.x zfX6_29) h0.1 dX6_readThing_88 ?_
    refine z_if_ne (tgt := 158) dX6_readThing_91 (by decide) (fun q20 => ?_) (fun q20 => ?_)
    · rw [if_neg q20] at h
      cases h
      exact z_mask [false, false, false, false, false, false, false] rfl (K2_0 _ rfl)
    · rw [if_pos q20] at h
      refine z_aload_n dX6_readThing_94 rfl ?_
      refine z_gI (zF.x zfX6_46) h0.1 dX6_readThing_95 ?_
      obtain ⟨u21, eu21, h⟩ := zlet_elim h
      refine z_ti eu21 ?_
      refine z_istore dX6_readThing_98 rfl (by decide) rfl ?_
      refine z_iload dX6_readThing_100 rfl ?_
      refine z_bipush dX6_readThing_102 cB_10 ?_
      refine z_icmp_lt (tgt := 114) dX6_readThing_104 (by decide) (fun q22 => ?_) (fun q22 => ?_)
      · rw [if_pos q22] at h
        cases h
        exact z_mask [false, false, false, false, false, false, false] rfl (K2_1 _ rfl)
      · rw [if_neg q22] at h
        refine z_iload dX6_readThing_107 rfl ?_
        refine z_bipush dX6_readThing_109 cB_13 ?_
        refine z_icmp_le (tgt := 115) dX6_readThing_111 (by decide) (fun q23 => ?_) (fun q23 => ?_)
        · rw [if_pos q23] at h
          refine z_iload dX6_readThing_115 rfl ?_
          refine z_iload dX6_readThing_117 rfl ?_
          refine z_ishr dX6_readThing_119 rfl ?_
          refine z_iconst dX6_readThing_120 cI_1 ?_
          refine z_iand dX6_readThing_121 rfl ?_
          refine z_if_eq (tgt := 131) dX6_readThing_122 (by decide) (fun q24 => ?_) (fun q24 => ?_)
          · rw [if_pos q24] at h
            refine z_iload dX6_readThing_131 rfl ?_
            refine z_iconst dX6_readThing_133 cI_1 ?_
            refine z_iload dX6_readThing_134 rfl ?_
            refine z_ishl dX6_readThing_136 rfl ?_
            refine z_ior dX6_readThing_137 rfl ?_
            obtain ⟨u25, eu25, h⟩ := zlet_elim h
            refine z_ti eu25 ?_
            refine z_istore dX6_readThing_138 rfl (by decide) rfl ?_
            refine z_aload_n dX6_readThing_140 rfl ?_
            obtain ⟨r26, S28, hc27, h⟩ := zb_elim h
            refine z_callV (As := []) zcX6 zkX6_26 ziX6_next zqX6_next h0.1 (tX6_next T k0 S (iX6_n h0) (r26, S28) hc27) rfl rfl (Nat.le_of_ble_eq_true rfl) (by decide) ⟨Nat.le_refl _, Nat.le_refl _⟩ ⟨Nat.le_refl _, Nat.le_refl _⟩ dX6_readThing_141 ?_
            refine z_aload_n dX6_readThing_144 rfl ?_
            refine z_aload_n dX6_readThing_145 rfl ?_
            refine z_iload_n dX6_readThing_146 rfl ?_
            refine z_iload dX6_readThing_147 rfl ?_
            obtain ⟨r29, S31, hc30, h⟩ := zb_elim h
            refine z_callV (As := [.ref k1, .int x2, .int u21]) zcX6 zkX6_144 ziX6_readExtra zqX6_readExtra h0.1 (tX6_readExtra T k0 k1 x2 u21 S28 h0 h1 (r29, S31) hc30) rfl rfl (Nat.le_of_ble_eq_true rfl) (by decide) ⟨Nat.le_refl _, Nat.le_refl _⟩ ⟨Nat.le_refl _, Nat.le_refl _⟩ dX6_readThing_149 ?_
            obtain ⟨u32, eu32, h⟩ := zlet_elim h
            refine z_iinc (r := u32) dX6_readThing_152 rfl (by rw [eu32, cI_1]) rfl (by decide) rfl ?_
            refine z_goto (tgt := 79) dX6_readThing_155 (by decide) ?_
            cases h
            exact z_mask [true, true, true, false, true, true, false] rfl (K1 _ rfl)
          · rw [if_neg q24] at h
            cases h
            exact z_mask [true, false, false, false, false, false, false] rfl (K2_2 _ rfl)
        · rw [if_neg q23] at h
          cases h
          exact z_mask [false, false, false, false, false, false, false] rfl (K2_1 _ rfl)
set_option maxHeartbeats 4000000 in
set_option maxRecDepth 100000 in
theorem tX6_readThing_l79 (T : zT) (k0 : Nat) (k1 : Nat) (x2 : Int32) (h0 : iX6 T k0) (h1 : iX0 T k1) {g : zG} {v : Option Value} {S' : zS} : ∀ (n : Nat) (a : (Int32 × Int32 × zS)) (e : (zS ⊕ (zS ⊕ zS))), lpn (fun a => fX6_readThing_l79 T k0 k1 x2 a.1 a.2.1 a.2.2) n a = some e → (∀ e1 : zS, e = (.inl e1) → zg g 3 mX6_readThing T 158 [none, none, none, none, none, none, none] [] T e1 v T S') → (∀ e1 : zS, e = (.inr (.inl e1)) → zg g 3 mX6_readThing T 114 [none, none, none, none, none, none, none] [] T e1 v T S') → (∀ e1 : zS, e = (.inr (.inr e1)) → zg g 3 mX6_readThing T 125 [some (.ref k0), none, none, none, none, none, none] [] T e1 v T S') → zg g 3 mX6_readThing T 79 [some (.ref k0), some (.ref k1), some (.int x2), none, some (.int a.1), some (.int a.2.1), none] [] T a.2.2 v T S' := by
  intro n
  induction n with
  | zero =>
    intro a e h
    cases h
  | succ n ih =>
    intro a e h k0_ k1_ k2_
    rcases lpn_succ h with ⟨a1, ha_, hb_⟩ | ha_
    · exact tX6_readThing_l79b T k0 k1 x2 a.1 a.2.1 a.2.2 h0 h1 _ ha_ (fun a2 q => by cases q; exact ih a1 e hb_ k0_ k1_ k2_) (fun e1 q => by cases q) (fun e1 q => by cases q) (fun e1 q => by cases q)
    · exact tX6_readThing_l79b T k0 k1 x2 a.1 a.2.1 a.2.2 h0 h1 _ ha_ (fun a2 q => by cases q) (fun e1 q => by cases q; exact k0_ _ rfl) (fun e1 q => by cases q; exact k1_ _ rfl) (fun e1 q => by cases q; exact k2_ _ rfl)
set_option maxHeartbeats 4000000 in
set_option maxRecDepth 100000 in
theorem tX6_readThing_b158 (T : zT)  (S : zS)  {g : zG} (r : (Unit × zS)) (h : fX6_readThing_b158 T  S = some r)  : zg g 3 mX6_readThing T 158 [none, none, none, none, none, none, none] [] T S none T r.2 := by
  unfold fX6_readThing_b158 at h
  cases h
  exact z_vret rfl dX6_readThing_158
set_option maxHeartbeats 4000000 in
set_option maxRecDepth 100000 in
theorem tX6_readThing_b114 (T : zT)  (S : zS)  {g : zG} (r : (Unit × zS)) (h : fX6_readThing_b114 T  S = some r)  : zg g 3 mX6_readThing T 114 [none, none, none, none, none, none, none] [] T S none T r.2 := by
  unfold fX6_readThing_b114 at h
  cases h
  exact z_vret rfl dX6_readThing_114
set_option maxHeartbeats 4000000 in
set_option maxRecDepth 100000 in
theorem tX6_readThing (T : zT) (k0 : Nat) (k1 : Nat) (S : zS) (h0 : iX6 T k0) (h1 : iX0 T k1) (r : Unit × zS) (h : fX6_readThing T k0 k1 S = some r) : zGM 3 mX6_readThing [.ref k0, .ref k1] T S none T r.2 := by
  refine zGM_of zpnX6 rfl (Nat.le_of_ble_eq_true rfl) (fun g => ?_)
  show zg g 3 mX6_readThing T 0 [some (.ref k0), some (.ref k1), none, none, none, none, none] [] T S none T r.2
  unfold fX6_readThing at h
  refine z_aload_n dX6_readThing_0 rfl ?_
  refine z_gI (zF.x zfX6_46) h0.1 dX6_readThing_1 ?_
  refine z_bipush dX6_readThing_4 cB_30 ?_
  refine z_icmp_eq (tgt := 15) dX6_readThing_6 (by decide) (fun q1 => ?_) (fun q1 => ?_)
  · rw [if_pos q1] at h
    refine z_aload_n dX6_readThing_15 rfl ?_
    refine z_gI (zF.x zfX6_56) h0.1 dX6_readThing_16 ?_
    obtain ⟨u2, eu2, h⟩ := zlet_elim h
    refine z_ti eu2 ?_
    refine z_istore_n dX6_readThing_19 rfl (by decide) rfl ?_
    refine z_aload_n dX6_readThing_20 rfl ?_
    refine z_iload_n dX6_readThing_21 rfl ?_
    obtain ⟨r3, hc4, h⟩ := zb1_elim h
    refine z_callV (As := [.int u2]) zcX0 zkX6_133 ziX0_has zqX0_has h1.1 (tX0_has T k1 u2 S h1 r3 hc4) rfl rfl (Nat.le_of_ble_eq_true rfl) (by decide) ⟨Nat.le_refl _, Nat.le_refl _⟩ ⟨Nat.le_refl _, Nat.le_refl _⟩ dX6_readThing_22 ?_
    refine z_if_eq (tgt := 34) dX6_readThing_25 (by decide) (fun q5 => ?_) (fun q5 => ?_)
    · rw [if_pos q5] at h
      refine z_aload_n dX6_readThing_34 rfl ?_
      obtain ⟨r6, S8, hc7, h⟩ := zb_elim h
      refine z_callV (As := []) zcX6 zkX6_26 ziX6_next zqX6_next h0.1 (tX6_next T k0 S (iX6_n h0) (r6, S8) hc7) rfl rfl (Nat.le_of_ble_eq_true rfl) (by decide) ⟨Nat.le_refl _, Nat.le_refl _⟩ ⟨Nat.le_refl _, Nat.le_refl _⟩ dX6_readThing_35 ?_
      refine z_aload_n dX6_readThing_38 rfl ?_
      refine z_dup dX6_readThing_39 rfl ?_
      refine z_gI (zF.x zfX6_137) h1.1 dX6_readThing_40 ?_
      refine z_iconst dX6_readThing_43 cI_1 ?_
      refine z_iload_n dX6_readThing_44 rfl ?_
      refine z_ishl dX6_readThing_45 rfl ?_
      refine z_ior dX6_readThing_46 rfl ?_
      refine z_putI zfX6_137 h1.1 dX6_readThing_47 ?_
      obtain ⟨S9, eS9, h⟩ := zlet_elim h
      refine z_tS eS9 ?_
      refine z_aload_n dX6_readThing_50 rfl ?_
      refine z_iconst dX6_readThing_51 cI_1 ?_
      refine z_sipush dX6_readThing_52 cS_9999 ?_
      obtain ⟨r10, S12, hc11, h⟩ := zb_elim h
      refine z_callV (As := [.int 1, .int 9999]) zcX6 zkX6_89 ziX6_number zqX6_number h0.1 (tX6_number T k0 1 9999 S9 h0 (r10, S12) hc11) rfl rfl (Nat.le_of_ble_eq_true rfl) (by decide) ⟨Nat.le_refl _, Nat.le_refl _⟩ ⟨Nat.le_refl _, Nat.le_refl _⟩ dX6_readThing_55 ?_
      refine z_istore_n dX6_readThing_58 rfl (by decide) rfl ?_
      refine z_aload_n dX6_readThing_59 rfl ?_
      refine z_iload_n dX6_readThing_60 rfl ?_
      refine z_iload_n dX6_readThing_61 rfl ?_
      refine z_aload_n dX6_readThing_62 rfl ?_
      refine z_iconst dX6_readThing_63 cI_0 ?_
      refine z_sipush dX6_readThing_64 cS_999 ?_
      obtain ⟨r13, S15, hc14, h⟩ := zb_elim h
      refine z_callV (As := [.int 0, .int 999]) zcX6 zkX6_89 ziX6_number zqX6_number h0.1 (tX6_number T k0 0 999 S12 h0 (r13, S15) hc14) rfl rfl (Nat.le_of_ble_eq_true rfl) (by decide) ⟨Nat.le_refl _, Nat.le_refl _⟩ ⟨Nat.le_refl _, Nat.le_refl _⟩ dX6_readThing_67 ?_
      obtain ⟨r16, S18, hc17, h⟩ := zb_elim h
      refine z_callV (As := [.int u2, .int r10, .int r13]) zcX0 zkX6_140 ziX0_tellThing zqX0_tellThing h1.1 (tX0_tellThing T k1 u2 r10 r13 S15 h1 (r16, S18) hc17) rfl rfl (Nat.le_of_ble_eq_true rfl) (by decide) ⟨Nat.le_refl _, Nat.le_refl _⟩ ⟨Nat.le_refl _, Nat.le_refl _⟩ dX6_readThing_70 ?_
      refine z_iconst dX6_readThing_73 cI_0 ?_
      refine z_istore dX6_readThing_74 rfl (by decide) rfl ?_
      refine z_iconst dX6_readThing_76 cI_0 ?_
      refine z_istore dX6_readThing_77 rfl (by decide) rfl ?_
      obtain ⟨e33, hl37, h⟩ := zb1_elim h
      obtain ⟨nf38, hl37⟩ := lp_some hl37
      refine z_mask [true, true, true, false, true, true, false] rfl (tX6_readThing_l79 T k0 k1 u2 h0 h1 nf38 (0, 0, S18) e33 hl37 (fun e33_0 q => ?_) (fun e33_1 q => ?_) (fun e33_2 q => ?_))
      · cases q
        replace h := zsm_l h
        exact z_mask [false, false, false, false, false, false, false] rfl (tX6_readThing_b158 T  e33_0  r h)
      · cases q
        replace h := zsm_r h
        replace h := zsm_l h
        exact z_mask [false, false, false, false, false, false, false] rfl (tX6_readThing_b114 T  e33_1  r h)
      · cases q
        replace h := zsm_r h
        replace h := zsm_r h
        refine z_aload_n dX6_readThing_125 rfl ?_
        refine z_iconst dX6_readThing_126 cI_4 ?_
        obtain ⟨r34, S36, hc35, h⟩ := zb_elim h
        refine z_callV (As := [.int 4]) zcX6 zkX6_123 ziX6_fail zqX6_fail h0.1 (tX6_fail T k0 4 e33_2 h0 (r34, S36) hc35) rfl rfl (Nat.le_of_ble_eq_true rfl) (by decide) ⟨Nat.le_refl _, Nat.le_refl _⟩ ⟨Nat.le_refl _, Nat.le_refl _⟩ dX6_readThing_127 ?_
        cases h
        exact z_vret rfl dX6_readThing_130
    · rw [if_neg q5] at h
      refine z_aload_n dX6_readThing_28 rfl ?_
      refine z_iconst dX6_readThing_29 cI_5 ?_
      obtain ⟨r39, S41, hc40, h⟩ := zb_elim h
      refine z_callV (As := [.int 5]) zcX6 zkX6_123 ziX6_fail zqX6_fail h0.1 (tX6_fail T k0 5 S h0 (r39, S41) hc40) rfl rfl (Nat.le_of_ble_eq_true rfl) (by decide) ⟨Nat.le_refl _, Nat.le_refl _⟩ ⟨Nat.le_refl _, Nat.le_refl _⟩ dX6_readThing_30 ?_
      cases h
      exact z_vret rfl dX6_readThing_33
  · rw [if_neg q1] at h
    refine z_aload_n dX6_readThing_9 rfl ?_
    refine z_iconst dX6_readThing_10 cI_0 ?_
    obtain ⟨r42, S44, hc43, h⟩ := zb_elim h
    refine z_callV (As := [.int 0]) zcX6 zkX6_123 ziX6_fail zqX6_fail h0.1 (tX6_fail T k0 0 S h0 (r42, S44) hc43) rfl rfl (Nat.le_of_ble_eq_true rfl) (by decide) ⟨Nat.le_refl _, Nat.le_refl _⟩ ⟨Nat.le_refl _, Nat.le_refl _⟩ dX6_readThing_11 ?_
    cases h
    exact z_vret rfl dX6_readThing_14
/-! X10_isSame -/
noncomputable def fX10_isSame_l3 (T : zT) (k0 : Nat) (n0 : Nat) (x1 : Int32) (x2 : Int32) (x3 : Int32) (S : zS) (x4 : Int32) : Option (Int32 ⊕ (Unit ⊕ Unit)) :=
  if x2 ≤ x4 then some (.inr (.inl ())) else if (Int32.ofNat n0) ≤ x4 then some (.inr (.inl ())) else zlet ((x3 + x4) - x1) fun u3 => if u3 < 0 then some (.inr (.inr ())) else if (zsL 0) ≤ u3 then some (.inr (.inr ())) else zgd (zin u3 (zsN 0)) (zgd (zin x4 n0) (if (zsC 0 (u3 : Int32).toNatClampNeg) = (S.1 k0 (x4 : Int32).toNatClampNeg) then zlet (x4 + 1) fun u9 => some (.inl u9) else some (.inr (.inr ()))))
noncomputable def fX10_isSame_b61 (T : zT)  (S : zS) : Option Int32 :=
  some 1
noncomputable def fX10_isSame_b53 (T : zT)  (S : zS) : Option Int32 :=
  some 0
noncomputable def fX10_isSame (T : zT) (k0 : Nat) (n0 : Nat) (x1 : Int32) (x2 : Int32) (x3 : Int32) (S : zS) : Option Int32 :=
  zb1 (lp (fun a => fX10_isSame_l3 T k0 n0 x1 x2 x3 S a) x1) fun e10 => zsm e10 (fun e10_0 => fX10_isSame_b61 T  S) (fun e10_1 => fX10_isSame_b53 T  S)
set_option maxHeartbeats 4000000 in
set_option maxRecDepth 100000 in
theorem tX10_isSame_l3b (T : zT) (k0 : Nat) (n0 : Nat) (x1 : Int32) (x2 : Int32) (x3 : Int32) (S : zS) (x4 : Int32) (h0 : zL T k0 20 n0) {g : zG} {v : Option Value} {S' : zS} (r : Int32 ⊕ (Unit ⊕ Unit)) (h : fX10_isSame_l3 T k0 n0 x1 x2 x3 S x4 = some r) (K1 : ∀ a : Int32, r = .inl a → zg g 4 mX10_isSame T 3 [some (.ref k0), some (.int x1), some (.int x2), some (.int x3), some (.int a), none] [] T S v T S') (K2_0 : ∀ e : Unit, r = .inr (.inl e) → zg g 4 mX10_isSame T 61 [none, none, none, none, none, none] [] T S v T S') (K2_1 : ∀ e : Unit, r = .inr (.inr e) → zg g 4 mX10_isSame T 53 [none, none, none, none, none, none] [] T S v T S') : zg g 4 mX10_isSame T 3 [some (.ref k0), some (.int x1), some (.int x2), some (.int x3), some (.int x4), none] [] T S v T S' := by
  unfold fX10_isSame_l3 at h
  refine z_iload dX10_isSame_3 rfl ?_
  refine z_iload_n dX10_isSame_5 rfl ?_
  refine z_icmp_ge (tgt := 61) dX10_isSame_6 (by decide) (fun q1 => ?_) (fun q1 => ?_)
  · rw [if_pos q1] at h
    cases h
    exact z_mask [false, false, false, false, false, false] rfl (K2_0 _ rfl)
  · rw [if_neg q1] at h
    refine z_iload dX10_isSame_9 rfl ?_
    refine z_aload_n dX10_isSame_11 rfl ?_
    refine z_alenI h0 (by decide) dX10_isSame_12 ?_
    refine z_icmp_ge (tgt := 61) dX10_isSame_13 (by decide) (fun q2 => ?_) (fun q2 => ?_)
    · rw [if_pos q2] at h
      cases h
      exact z_mask [false, false, false, false, false, false] rfl (K2_0 _ rfl)
    · rw [if_neg q2] at h
      refine z_iload_n dX10_isSame_16 rfl ?_
      refine z_iload dX10_isSame_17 rfl ?_
      refine z_iadd dX10_isSame_19 rfl ?_
      refine z_iload_n dX10_isSame_20 rfl ?_
      refine z_isub dX10_isSame_21 rfl ?_
      obtain ⟨u3, eu3, h⟩ := zlet_elim h
      refine z_ti eu3 ?_
      refine z_istore dX10_isSame_22 rfl (by decide) rfl ?_
      refine z_iload dX10_isSame_24 rfl ?_
      refine z_if_lt (tgt := 53) dX10_isSame_26 (by decide) (fun q4 => ?_) (fun q4 => ?_)
      · rw [if_pos q4] at h
        cases h
        exact z_mask [false, false, false, false, false, false] rfl (K2_1 _ rfl)
      · rw [if_neg q4] at h
        refine z_iload dX10_isSame_29 rfl ?_
        refine z_ldcS (i := 0) rfl dX10_isSame_31 ?_
        refine z_callW (As := []) rfl zkX10_49 ziJ0_length_8abf5 zqJ0_length_8abf5 (by decide) (tJ0_length T 0 S (by decide)) rfl rfl (Nat.le_of_ble_eq_true rfl) (by decide) ⟨Nat.le_refl _, Nat.le_refl _⟩ dX10_isSame_33 ?_
        refine z_icmp_ge (tgt := 53) dX10_isSame_36 (by decide) (fun q5 => ?_) (fun q5 => ?_)
        · rw [if_pos q5] at h
          cases h
          exact z_mask [false, false, false, false, false, false] rfl (K2_1 _ rfl)
        · rw [if_neg q5] at h
          refine z_ldcS (i := 0) rfl dX10_isSame_39 ?_
          refine z_iload dX10_isSame_41 rfl ?_
          obtain ⟨q6, h⟩ := zgd_elim h
          refine z_callW (As := [.int u3]) rfl zkX10_55 ziJ0_charAt_5068e zqJ0_charAt_5068e (by decide) (tJ0_charAt T 0 u3 S (by decide) (zin_ok q6)) rfl rfl (Nat.le_of_ble_eq_true rfl) (by decide) ⟨Nat.le_refl _, Nat.le_refl _⟩ dX10_isSame_43 ?_
          refine z_aload_n dX10_isSame_46 rfl ?_
          refine z_iload dX10_isSame_47 rfl ?_
          obtain ⟨q7, h⟩ := zgd_elim h
          refine z_iald h0 (zin_ok q7) dX10_isSame_49 ?_
          refine z_icmp_eq (tgt := 55) dX10_isSame_50 (by decide) (fun q8 => ?_) (fun q8 => ?_)
          · rw [if_pos q8] at h
            obtain ⟨u9, eu9, h⟩ := zlet_elim h
            refine z_iinc (r := u9) dX10_isSame_55 rfl (by rw [eu9, cI_1]) rfl (by decide) rfl ?_
            refine z_goto (tgt := 3) dX10_isSame_58 (by decide) ?_
            cases h
            exact z_mask [true, true, true, true, true, false] rfl (K1 _ rfl)
          · rw [if_neg q8] at h
            cases h
            exact z_mask [false, false, false, false, false, false] rfl (K2_1 _ rfl)
set_option maxHeartbeats 4000000 in
set_option maxRecDepth 100000 in
theorem tX10_isSame_l3 (T : zT) (k0 : Nat) (n0 : Nat) (x1 : Int32) (x2 : Int32) (x3 : Int32) (S : zS) (h0 : zL T k0 20 n0) {g : zG} {v : Option Value} {S' : zS} : ∀ (n : Nat) (a : Int32) (e : (Unit ⊕ Unit)), lpn (fun a => fX10_isSame_l3 T k0 n0 x1 x2 x3 S a) n a = some e → (∀ e1 : Unit, e = (.inl e1) → zg g 4 mX10_isSame T 61 [none, none, none, none, none, none] [] T S v T S') → (∀ e1 : Unit, e = (.inr e1) → zg g 4 mX10_isSame T 53 [none, none, none, none, none, none] [] T S v T S') → zg g 4 mX10_isSame T 3 [some (.ref k0), some (.int x1), some (.int x2), some (.int x3), some (.int a), none] [] T S v T S' := by
  intro n
  induction n with
  | zero =>
    intro a e h
    cases h
  | succ n ih =>
    intro a e h k0_ k1_
    rcases lpn_succ h with ⟨a1, ha_, hb_⟩ | ha_
    · exact tX10_isSame_l3b T k0 n0 x1 x2 x3 S a h0 _ ha_ (fun a2 q => by cases q; exact ih a1 e hb_ k0_ k1_) (fun e1 q => by cases q) (fun e1 q => by cases q)
    · exact tX10_isSame_l3b T k0 n0 x1 x2 x3 S a h0 _ ha_ (fun a2 q => by cases q) (fun e1 q => by cases q; exact k0_ _ rfl) (fun e1 q => by cases q; exact k1_ _ rfl)
set_option maxHeartbeats 4000000 in
set_option maxRecDepth 100000 in
theorem tX10_isSame_b61 (T : zT)  (S : zS)  {g : zG} (r : Int32) (h : fX10_isSame_b61 T  S = some r)  : zg g 4 mX10_isSame T 61 [none, none, none, none, none, none] [] T S (some (.int r)) T S := by
  unfold fX10_isSame_b61 at h
  refine z_iconst dX10_isSame_61 cI_1 ?_
  cases h
  exact z_zret rfl (Or.inr rfl) dX10_isSame_62
set_option maxHeartbeats 4000000 in
set_option maxRecDepth 100000 in
theorem tX10_isSame_b53 (T : zT)  (S : zS)  {g : zG} (r : Int32) (h : fX10_isSame_b53 T  S = some r)  : zg g 4 mX10_isSame T 53 [none, none, none, none, none, none] [] T S (some (.int r)) T S := by
  unfold fX10_isSame_b53 at h
  refine z_iconst dX10_isSame_53 cI_0 ?_
  cases h
  exact z_zret rfl (Or.inl rfl) dX10_isSame_54
set_option maxHeartbeats 4000000 in
set_option maxRecDepth 100000 in
theorem tX10_isSame (T : zT) (k0 : Nat) (n0 : Nat) (x1 : Int32) (x2 : Int32) (x3 : Int32) (S : zS) (h0 : zL T k0 20 n0) (r : Int32) (h : fX10_isSame T k0 n0 x1 x2 x3 S = some r) : zGM 4 mX10_isSame [.ref k0, .int x1, .int x2, .int x3] T S (some (.int r)) T S := by
  refine zGM_of zpnX10 rfl (Nat.le_of_ble_eq_true rfl) (fun g => ?_)
  show zg g 4 mX10_isSame T 0 [some (.ref k0), some (.int x1), some (.int x2), some (.int x3), none, none] [] T S (some (.int r)) T S
  unfold fX10_isSame at h
  refine z_iload_n dX10_isSame_0 rfl ?_
  refine z_istore dX10_isSame_1 rfl (by decide) rfl ?_
  obtain ⟨e10, hl11, h⟩ := zb1_elim h
  obtain ⟨nf12, hl11⟩ := lp_some hl11
  refine z_mask [true, true, true, true, true, false] rfl (tX10_isSame_l3 T k0 n0 x1 x2 x3 S h0 nf12 x1 e10 hl11 (fun e10_0 q => ?_) (fun e10_1 q => ?_))
  · cases q
    replace h := zsm_l h
    exact z_mask [false, false, false, false, false, false] rfl (tX10_isSame_b61 T  S  r h)
  · cases q
    replace h := zsm_r h
    exact z_mask [false, false, false, false, false, false] rfl (tX10_isSame_b53 T  S  r h)
/-! X10_wordIn -/
noncomputable def fX10_wordIn_b63 (T : zT) (k0 : Nat) (n0 : Nat) (x1 : Int32) (x2 : Int32) (x3 : Int32) (x4 : Int32) (x5 : Int32) (S : zS) : Option ((Int32 × Int32 × Int32) ⊕ (Unit ⊕ Int32)) :=
  zlet (x5 + 1) fun u4 => some (.inl (x3, x4, u4))
noncomputable def fX10_wordIn_b54 (T : zT) (k0 : Nat) (n0 : Nat) (x1 : Int32) (x2 : Int32) (x3 : Int32) (x5 : Int32) (S : zS) : Option ((Int32 × Int32 × Int32) ⊕ (Unit ⊕ Int32)) :=
  zlet (x3 + 1) fun u6 => zlet (x5 + 1) fun u7 => fX10_wordIn_b63 T k0 n0 x1 x2 u6 u7 x5 S
noncomputable def fX10_wordIn_l8 (T : zT) (k0 : Nat) (n0 : Nat) (x1 : Int32) (x2 : Int32) (S : zS) (x3 : Int32) (x4 : Int32) (x5 : Int32) : Option ((Int32 × Int32 × Int32) ⊕ (Unit ⊕ Int32)) :=
  if (zsL 0) ≤ x5 then some (.inr (.inl ())) else zgd (zin x5 (zsN 0)) (if (zsC 0 (x5 : Int32).toNatClampNeg) = 32 then if (x5 - x4) = (x2 - x1) then zb1 (fX10_isSame T k0 n0 x1 x2 x4 S) fun r8 => if r8 = 0 then fX10_wordIn_b54 T k0 n0 x1 x2 x3 x5 S else some (.inr (.inr x3)) else fX10_wordIn_b54 T k0 n0 x1 x2 x3 x5 S else fX10_wordIn_b63 T k0 n0 x1 x2 x3 x4 x5 S)
noncomputable def fX10_wordIn (T : zT) (k0 : Nat) (n0 : Nat) (x1 : Int32) (x2 : Int32) (S : zS) : Option Int32 :=
  zb1 (lp (fun a => fX10_wordIn_l8 T k0 n0 x1 x2 S a.1 a.2.1 a.2.2) (0, 0, 0)) fun e11 => zsm e11 (fun e11_0 => some 45) (fun e11_1 => some e11_1)
set_option maxHeartbeats 4000000 in
set_option maxRecDepth 100000 in
theorem tX10_wordIn_b63 (T : zT) (k0 : Nat) (n0 : Nat) (x1 : Int32) (x2 : Int32) (x3 : Int32) (x4 : Int32) (x5 : Int32) (S : zS) (h0 : zL T k0 20 n0) {g : zG} {v : Option Value} {S' : zS} (r : ((Int32 × Int32 × Int32) ⊕ (Unit ⊕ Int32))) (h : fX10_wordIn_b63 T k0 n0 x1 x2 x3 x4 x5 S = some r) (K1 : ∀ a : (Int32 × Int32 × Int32), r = .inl a → zg g 5 mX10_wordIn T 8 [some (.ref k0), some (.int x1), some (.int x2), some (.int a.1), some (.int a.2.1), some (.int a.2.2)] [] T S v T S') (K2_0 : ∀ e : Unit, r = .inr (.inl e) → zg g 5 mX10_wordIn T 69 [none, none, none, none, none, none] [] T S v T S') (K2_1 : ∀ e : Int32, r = .inr (.inr e) → zg g 5 mX10_wordIn T 52 [none, none, none, some (.int e), none, none] [] T S v T S') : zg g 5 mX10_wordIn T 63 [some (.ref k0), some (.int x1), some (.int x2), some (.int x3), some (.int x4), some (.int x5)] [] T S v T S' := by
  unfold fX10_wordIn_b63 at h
  obtain ⟨u4, eu4, h⟩ := zlet_elim h
  refine z_iinc (r := u4) dX10_wordIn_63 rfl (by rw [eu4, cI_1]) rfl (by decide) rfl ?_
  refine z_goto (tgt := 8) dX10_wordIn_66 (by decide) ?_
  cases h
  exact z_mask [true, true, true, true, true, true] rfl (K1 _ rfl)
set_option maxHeartbeats 4000000 in
set_option maxRecDepth 100000 in
theorem tX10_wordIn_b54 (T : zT) (k0 : Nat) (n0 : Nat) (x1 : Int32) (x2 : Int32) (x3 : Int32) (x5 : Int32) (S : zS) (h0 : zL T k0 20 n0) {g : zG} {v : Option Value} {S' : zS} (r : ((Int32 × Int32 × Int32) ⊕ (Unit ⊕ Int32))) (h : fX10_wordIn_b54 T k0 n0 x1 x2 x3 x5 S = some r) (K1 : ∀ a : (Int32 × Int32 × Int32), r = .inl a → zg g 5 mX10_wordIn T 8 [some (.ref k0), some (.int x1), some (.int x2), some (.int a.1), some (.int a.2.1), some (.int a.2.2)] [] T S v T S') (K2_0 : ∀ e : Unit, r = .inr (.inl e) → zg g 5 mX10_wordIn T 69 [none, none, none, none, none, none] [] T S v T S') (K2_1 : ∀ e : Int32, r = .inr (.inr e) → zg g 5 mX10_wordIn T 52 [none, none, none, some (.int e), none, none] [] T S v T S') : zg g 5 mX10_wordIn T 54 [some (.ref k0), some (.int x1), some (.int x2), some (.int x3), none, some (.int x5)] [] T S v T S' := by
  unfold fX10_wordIn_b54 at h
  obtain ⟨u6, eu6, h⟩ := zlet_elim h
  refine z_iinc (r := u6) dX10_wordIn_54 rfl (by rw [eu6, cI_1]) rfl (by decide) rfl ?_
  refine z_iload dX10_wordIn_57 rfl ?_
  refine z_iconst dX10_wordIn_59 cI_1 ?_
  refine z_iadd dX10_wordIn_60 rfl ?_
  obtain ⟨u7, eu7, h⟩ := zlet_elim h
  refine z_ti eu7 ?_
  refine z_istore dX10_wordIn_61 rfl (by decide) rfl ?_
  exact z_mask [true, true, true, true, true, true] rfl (tX10_wordIn_b63 T k0 n0 x1 x2 u6 u7 x5 S h0 r h K1 K2_0 K2_1)
set_option maxHeartbeats 4000000 in
set_option maxRecDepth 100000 in
theorem tX10_wordIn_l8b (T : zT) (k0 : Nat) (n0 : Nat) (x1 : Int32) (x2 : Int32) (S : zS) (x3 : Int32) (x4 : Int32) (x5 : Int32) (h0 : zL T k0 20 n0) {g : zG} {v : Option Value} {S' : zS} (r : (Int32 × Int32 × Int32) ⊕ (Unit ⊕ Int32)) (h : fX10_wordIn_l8 T k0 n0 x1 x2 S x3 x4 x5 = some r) (K1 : ∀ a : (Int32 × Int32 × Int32), r = .inl a → zg g 5 mX10_wordIn T 8 [some (.ref k0), some (.int x1), some (.int x2), some (.int a.1), some (.int a.2.1), some (.int a.2.2)] [] T S v T S') (K2_0 : ∀ e : Unit, r = .inr (.inl e) → zg g 5 mX10_wordIn T 69 [none, none, none, none, none, none] [] T S v T S') (K2_1 : ∀ e : Int32, r = .inr (.inr e) → zg g 5 mX10_wordIn T 52 [none, none, none, some (.int e), none, none] [] T S v T S') : zg g 5 mX10_wordIn T 8 [some (.ref k0), some (.int x1), some (.int x2), some (.int x3), some (.int x4), some (.int x5)] [] T S v T S' := by
  unfold fX10_wordIn_l8 at h
  refine z_iload dX10_wordIn_8 rfl ?_
  refine z_ldcS (i := 0) rfl dX10_wordIn_10 ?_
  refine z_callW (As := []) rfl zkX10_49 ziJ0_length_8abf5 zqJ0_length_8abf5 (by decide) (tJ0_length T 0 S (by decide)) rfl rfl (Nat.le_of_ble_eq_true rfl) (by decide) ⟨Nat.le_refl _, Nat.le_refl _⟩ dX10_wordIn_12 ?_
  refine z_icmp_ge (tgt := 69) dX10_wordIn_15 (by decide) (fun q1 => ?_) (fun q1 => ?_)
  · rw [if_pos q1] at h
    cases h
    exact z_mask [false, false, false, false, false, false] rfl (K2_0 _ rfl)
  · rw [if_neg q1] at h
    refine z_ldcS (i := 0) rfl dX10_wordIn_18 ?_
    refine z_iload dX10_wordIn_20 rfl ?_
    obtain ⟨q2, h⟩ := zgd_elim h
    refine z_callW (As := [.int x5]) rfl zkX10_55 ziJ0_charAt_5068e zqJ0_charAt_5068e (by decide) (tJ0_charAt T 0 x5 S (by decide) (zin_ok q2)) rfl rfl (Nat.le_of_ble_eq_true rfl) (by decide) ⟨Nat.le_refl _, Nat.le_refl _⟩ dX10_wordIn_22 ?_
    refine z_bipush dX10_wordIn_25 cB_32 ?_
    refine z_icmp_ne (tgt := 63) dX10_wordIn_27 (by decide) (fun q3 => ?_) (fun q3 => ?_)
    · rw [if_neg q3] at h
      exact z_mask [true, true, true, true, true, true] rfl (tX10_wordIn_b63 T k0 n0 x1 x2 x3 x4 x5 S h0 r h K1 K2_0 K2_1)
    · rw [if_pos q3] at h
      refine z_iload dX10_wordIn_30 rfl ?_
      refine z_iload dX10_wordIn_32 rfl ?_
      refine z_isub dX10_wordIn_34 rfl ?_
      refine z_iload_n dX10_wordIn_35 rfl ?_
      refine z_iload_n dX10_wordIn_36 rfl ?_
      refine z_isub dX10_wordIn_37 rfl ?_
      refine z_icmp_ne (tgt := 54) dX10_wordIn_38 (by decide) (fun q5 => ?_) (fun q5 => ?_)
      · rw [if_neg q5] at h
        exact z_mask [true, true, true, true, false, true] rfl (tX10_wordIn_b54 T k0 n0 x1 x2 x3 x5 S h0 r h K1 K2_0 K2_1)
      · rw [if_pos q5] at h
        refine z_aload_n dX10_wordIn_41 rfl ?_
        refine z_iload_n dX10_wordIn_42 rfl ?_
        refine z_iload_n dX10_wordIn_43 rfl ?_
        refine z_iload dX10_wordIn_44 rfl ?_
        obtain ⟨r8, hc9, h⟩ := zb1_elim h
        refine z_callS (As := [.ref k0, .int x1, .int x2, .int x4]) zkX10_59 zsX10_isSame (tX10_isSame T k0 n0 x1 x2 x4 S h0 r8 hc9) rfl rfl (Nat.le_of_ble_eq_true rfl) (by decide) ⟨Nat.le_refl _, Nat.le_refl _⟩ ⟨Nat.le_refl _, Nat.le_refl _⟩ dX10_wordIn_46 ?_
        refine z_if_eq (tgt := 54) dX10_wordIn_49 (by decide) (fun q10 => ?_) (fun q10 => ?_)
        · rw [if_pos q10] at h
          exact z_mask [true, true, true, true, false, true] rfl (tX10_wordIn_b54 T k0 n0 x1 x2 x3 x5 S h0 r h K1 K2_0 K2_1)
        · rw [if_neg q10] at h
          cases h
          exact z_mask [false, false, false, true, false, false] rfl (K2_1 _ rfl)
set_option maxHeartbeats 4000000 in
set_option maxRecDepth 100000 in
theorem tX10_wordIn_l8 (T : zT) (k0 : Nat) (n0 : Nat) (x1 : Int32) (x2 : Int32) (S : zS) (h0 : zL T k0 20 n0) {g : zG} {v : Option Value} {S' : zS} : ∀ (n : Nat) (a : (Int32 × Int32 × Int32)) (e : (Unit ⊕ Int32)), lpn (fun a => fX10_wordIn_l8 T k0 n0 x1 x2 S a.1 a.2.1 a.2.2) n a = some e → (∀ e1 : Unit, e = (.inl e1) → zg g 5 mX10_wordIn T 69 [none, none, none, none, none, none] [] T S v T S') → (∀ e1 : Int32, e = (.inr e1) → zg g 5 mX10_wordIn T 52 [none, none, none, some (.int e1), none, none] [] T S v T S') → zg g 5 mX10_wordIn T 8 [some (.ref k0), some (.int x1), some (.int x2), some (.int a.1), some (.int a.2.1), some (.int a.2.2)] [] T S v T S' := by
  intro n
  induction n with
  | zero =>
    intro a e h
    cases h
  | succ n ih =>
    intro a e h k0_ k1_
    rcases lpn_succ h with ⟨a1, ha_, hb_⟩ | ha_
    · exact tX10_wordIn_l8b T k0 n0 x1 x2 S a.1 a.2.1 a.2.2 h0 _ ha_ (fun a2 q => by cases q; exact ih a1 e hb_ k0_ k1_) (fun e1 q => by cases q) (fun e1 q => by cases q)
    · exact tX10_wordIn_l8b T k0 n0 x1 x2 S a.1 a.2.1 a.2.2 h0 _ ha_ (fun a2 q => by cases q) (fun e1 q => by cases q; exact k0_ _ rfl) (fun e1 q => by cases q; exact k1_ _ rfl)
set_option maxHeartbeats 4000000 in
set_option maxRecDepth 100000 in
theorem tX10_wordIn (T : zT) (k0 : Nat) (n0 : Nat) (x1 : Int32) (x2 : Int32) (S : zS) (h0 : zL T k0 20 n0) (r : Int32) (h : fX10_wordIn T k0 n0 x1 x2 S = some r) : zGM 5 mX10_wordIn [.ref k0, .int x1, .int x2] T S (some (.int r)) T S := by
  refine zGM_of zpnX10 rfl (Nat.le_of_ble_eq_true rfl) (fun g => ?_)
  show zg g 5 mX10_wordIn T 0 [some (.ref k0), some (.int x1), some (.int x2), none, none, none] [] T S (some (.int r)) T S
  unfold fX10_wordIn at h
  refine z_iconst dX10_wordIn_0 cI_0 ?_
  refine z_istore_n dX10_wordIn_1 rfl (by decide) rfl ?_
  refine z_iconst dX10_wordIn_2 cI_0 ?_
  refine z_istore dX10_wordIn_3 rfl (by decide) rfl ?_
  refine z_iconst dX10_wordIn_5 cI_0 ?_
  refine z_istore dX10_wordIn_6 rfl (by decide) rfl ?_
  obtain ⟨e11, hl12, h⟩ := zb1_elim h
  obtain ⟨nf13, hl12⟩ := lp_some hl12
  refine z_mask [true, true, true, true, true, true] rfl (tX10_wordIn_l8 T k0 n0 x1 x2 S h0 nf13 (0, 0, 0) e11 hl12 (fun e11_0 q => ?_) (fun e11_1 q => ?_))
  · cases q
    replace h := zsm_l h
    refine z_bipush dX10_wordIn_69 cB_45 ?_
    cases h
    exact z_iret rfl dX10_wordIn_71
  · cases q
    replace h := zsm_r h
    refine z_iload_n dX10_wordIn_52 rfl ?_
    cases h
    exact z_iret rfl dX10_wordIn_53
/-! X10_splitOne -/
noncomputable def fX10_splitOne_b244 (T : zT) (k0 : Nat) (x3 : Int32) (x4 : Int32) (S : zS) : Option (Int32 × zS) :=
  zb1 (fX10_signKind T x4 S) fun r7 => zb (fX10_add T k0 r7 0 x3 S) fun _ S11 => some ((x3 + 1), S11)
noncomputable def fX10_splitOne_b235 (T : zT) (x3 : Int32) (s0 : Int32) (s1 : Nat) (S : zS) : Option (Int32 × zS) :=
  zb (fX10_add T s1 s0 0 x3 S) fun _ S16 => some ((x3 + 2), S16)
noncomputable def fX10_splitOne_b220 (T : zT) (k0 : Nat) (x3 : Int32) (x4 : Int32) (S : zS) : Option (Int32 × zS) :=
  if x4 = 60 then fX10_splitOne_b235 T x3 41 k0 S else fX10_splitOne_b235 T x3 43 k0 S
noncomputable def fX10_splitOne_b199 (T : zT) (k0 : Nat) (x3 : Int32) (x4 : Int32) (s0 : Int32) (S : zS) : Option (Int32 × zS) :=
  if s0 = 0 then fX10_splitOne_b244 T k0 x3 x4 S else if x4 = 60 then fX10_splitOne_b220 T k0 x3 x4 S else if x4 = 62 then fX10_splitOne_b220 T k0 x3 x4 S else fX10_splitOne_b244 T k0 x3 x4 S
noncomputable def fX10_splitOne_b198 (T : zT) (k0 : Nat) (x3 : Int32) (x4 : Int32) (S : zS) : Option (Int32 × zS) :=
  fX10_splitOne_b199 T k0 x3 x4 0 S
noncomputable def fX10_splitOne_b169 (T : zT) (k0 : Nat) (k1 : Nat) (n1 : Nat) (x2 : Int32) (x3 : Int32) (x4 : Int32) (S : zS) : Option (Int32 × zS) :=
  if x2 ≤ (x3 + 1) then fX10_splitOne_b198 T k0 x3 x4 S else if (Int32.ofNat n1) ≤ (x3 + 1) then fX10_splitOne_b198 T k0 x3 x4 S else zgd (zin (x3 + 1) n1) (if (S.1 k1 ((x3 + 1) : Int32).toNatClampNeg) = 61 then fX10_splitOne_b199 T k0 x3 x4 1 S else fX10_splitOne_b198 T k0 x3 x4 S)
noncomputable def fX10_splitOne_b162 (T : zT) (x3 : Int32) (x5 : Int32) (s0 : Int32) (s1 : Int32) (s2 : Nat) (S : zS) : Option (Int32 × zS) :=
  zb (fX10_add T s2 s1 s0 x3 S) fun _ S31 => some (x5, S31)
noncomputable def fX10_splitOne_b148 (T : zT) (x3 : Int32) (x4 : Int32) (x5 : Int32) (x6 : Int32) (s0 : Int32) (s1 : Nat) (S : zS) : Option (Int32 × zS) :=
  if x6 = 0 then fX10_splitOne_b162 T x3 x5 0 s0 s1 S else fX10_splitOne_b162 T x3 x5 (x4 - 97) s0 s1 S
noncomputable def fX10_splitOne_b128 (T : zT) (k0 : Nat) (k1 : Nat) (n1 : Nat) (x3 : Int32) (x4 : Int32) (x5 : Int32) (s0 : Int32) (S : zS) : Option (Int32 × zS) :=
  if s0 = 0 then zb1 (fX10_wordIn T k1 n1 x3 x5 S) fun r26 => fX10_splitOne_b148 T x3 x4 x5 s0 r26 k0 S else fX10_splitOne_b148 T x3 x4 x5 s0 30 k0 S
noncomputable def fX10_splitOne_b127 (T : zT) (k0 : Nat) (k1 : Nat) (n1 : Nat) (x3 : Int32) (x4 : Int32) (x5 : Int32) (S : zS) : Option (Int32 × zS) :=
  fX10_splitOne_b128 T k0 k1 n1 x3 x4 x5 0 S
noncomputable def fX10_splitOne_b82 (T : zT) (k0 : Nat) (k1 : Nat) (n1 : Nat) (x2 : Int32) (x3 : Int32) (x4 : Int32) (S : zS) : Option (Int32 × zS) :=
  if x4 < 97 then fX10_splitOne_b169 T k0 k1 n1 x2 x3 x4 S else if 122 < x4 then fX10_splitOne_b169 T k0 k1 n1 x2 x3 x4 S else zb1 (fX10_behindRun T k1 n1 x2 x3 97 122 S) fun r22 => if (r22 - x3) = 1 then if 104 < x4 then fX10_splitOne_b127 T k0 k1 n1 x3 x4 r22 S else fX10_splitOne_b128 T k0 k1 n1 x3 x4 r22 1 S else fX10_splitOne_b127 T k0 k1 n1 x3 x4 r22 S
noncomputable def fX10_splitOne_b75 (T : zT) (x3 : Int32) (x5 : Int32) (s0 : Int32) (s1 : Int32) (s2 : Nat) (S : zS) : Option (Int32 × zS) :=
  zb (fX10_add T s2 s1 s0 x3 S) fun _ S43 => some (x5, S43)
noncomputable def fX10_splitOne_b59 (T : zT) (k1 : Nat) (n1 : Nat) (x3 : Int32) (x5 : Int32) (x6 : Int32) (s0 : Int32) (s1 : Nat) (S : zS) : Option (Int32 × zS) :=
  if x6 = 0 then zb1 (fX10_numberIn T k1 n1 x3 x5 S) fun r39 => fX10_splitOne_b75 T x3 x5 r39 s0 s1 S else fX10_splitOne_b75 T x3 x5 0 s0 s1 S
noncomputable def fX10_splitOne_b44 (T : zT) (k0 : Nat) (k1 : Nat) (n1 : Nat) (x3 : Int32) (x5 : Int32) (s0 : Int32) (S : zS) : Option (Int32 × zS) :=
  if s0 = 0 then fX10_splitOne_b59 T k1 n1 x3 x5 s0 31 k0 S else fX10_splitOne_b59 T k1 n1 x3 x5 s0 32 k0 S
noncomputable def fX10_splitOne (T : zT) (k0 : Nat) (k1 : Nat) (n1 : Nat) (x2 : Int32) (x3 : Int32) (S : zS) : Option (Int32 × zS) :=
  zgd (zin x3 n1) (zlet (S.1 k1 (x3 : Int32).toNatClampNeg) fun u2 => if u2 < 48 then fX10_splitOne_b82 T k0 k1 n1 x2 x3 u2 S else if 57 < u2 then fX10_splitOne_b82 T k0 k1 n1 x2 x3 u2 S else zb1 (fX10_behindRun T k1 n1 x2 x3 48 57 S) fun r34 => if (r34 - x3) ≤ 5 then fX10_splitOne_b44 T k0 k1 n1 x3 r34 0 S else fX10_splitOne_b44 T k0 k1 n1 x3 r34 1 S)
set_option maxHeartbeats 4000000 in
set_option maxRecDepth 100000 in
theorem tX10_splitOne_b244 (T : zT) (k0 : Nat) (x3 : Int32) (x4 : Int32) (S : zS) (h0 : iX10 T k0) {g : zG} (r : (Int32 × zS)) (h : fX10_splitOne_b244 T k0 x3 x4 S = some r)  : zg g 6 mX10_splitOne T 244 [some (.ref k0), none, none, some (.int x3), some (.int x4), none, none] [] T S (some (.int r.1)) T r.2 := by
  unfold fX10_splitOne_b244 at h
  refine z_aload_n dX10_splitOne_244 rfl ?_
  refine z_iload dX10_splitOne_245 rfl ?_
  obtain ⟨r7, hc8, h⟩ := zb1_elim h
  refine z_callS (As := [.int x4]) zkX10_43 zsX10_signKind (tX10_signKind T x4 S  r7 hc8) rfl rfl (Nat.le_of_ble_eq_true rfl) (by decide) ⟨Nat.le_refl _, Nat.le_refl _⟩ ⟨Nat.le_refl _, Nat.le_refl _⟩ dX10_splitOne_247 ?_
  refine z_iconst dX10_splitOne_250 cI_0 ?_
  refine z_iload_n dX10_splitOne_251 rfl ?_
  obtain ⟨r9, S11, hc10, h⟩ := zb_elim h
  refine z_callV (As := [.int r7, .int 0, .int x3]) zcX10 zkX10_29 ziX10_add zqX10_add h0.1 (tX10_add T k0 r7 0 x3 S h0 (r9, S11) hc10) rfl rfl (Nat.le_of_ble_eq_true rfl) (by decide) ⟨Nat.le_refl _, Nat.le_refl _⟩ ⟨Nat.le_refl _, Nat.le_refl _⟩ dX10_splitOne_252 ?_
  refine z_iload_n dX10_splitOne_255 rfl ?_
  refine z_iconst dX10_splitOne_256 cI_1 ?_
  refine z_iadd dX10_splitOne_257 rfl ?_
  cases h
  exact z_iret rfl dX10_splitOne_258
set_option maxHeartbeats 4000000 in
set_option maxRecDepth 100000 in
theorem tX10_splitOne_b235 (T : zT) (x3 : Int32) (s0 : Int32) (s1 : Nat) (S : zS) (g1 : iX10 T s1) {g : zG} (r : (Int32 × zS)) (h : fX10_splitOne_b235 T x3 s0 s1 S = some r)  : zg g 6 mX10_splitOne T 235 [none, none, none, some (.int x3), none, none, none] [.int s0, .ref s1] T S (some (.int r.1)) T r.2 := by
  unfold fX10_splitOne_b235 at h
  refine z_iconst dX10_splitOne_235 cI_0 ?_
  refine z_iload_n dX10_splitOne_236 rfl ?_
  obtain ⟨r14, S16, hc15, h⟩ := zb_elim h
  refine z_callV (As := [.int s0, .int 0, .int x3]) zcX10 zkX10_29 ziX10_add zqX10_add g1.1 (tX10_add T s1 s0 0 x3 S g1 (r14, S16) hc15) rfl rfl (Nat.le_of_ble_eq_true rfl) (by decide) ⟨Nat.le_refl _, Nat.le_refl _⟩ ⟨Nat.le_refl _, Nat.le_refl _⟩ dX10_splitOne_237 ?_
  refine z_iload_n dX10_splitOne_240 rfl ?_
  refine z_iconst dX10_splitOne_241 cI_2 ?_
  refine z_iadd dX10_splitOne_242 rfl ?_
  cases h
  exact z_iret rfl dX10_splitOne_243
set_option maxHeartbeats 4000000 in
set_option maxRecDepth 100000 in
theorem tX10_splitOne_b220 (T : zT) (k0 : Nat) (x3 : Int32) (x4 : Int32) (S : zS) (h0 : iX10 T k0) {g : zG} (r : (Int32 × zS)) (h : fX10_splitOne_b220 T k0 x3 x4 S = some r)  : zg g 6 mX10_splitOne T 220 [some (.ref k0), none, none, some (.int x3), some (.int x4), none, none] [] T S (some (.int r.1)) T r.2 := by
  unfold fX10_splitOne_b220 at h
  refine z_aload_n dX10_splitOne_220 rfl ?_
  refine z_iload dX10_splitOne_221 rfl ?_
  refine z_bipush dX10_splitOne_223 cB_60 ?_
  refine z_icmp_ne (tgt := 233) dX10_splitOne_225 (by decide) (fun q13 => ?_) (fun q13 => ?_)
  · rw [if_neg q13] at h
    refine z_bipush dX10_splitOne_233 cB_43 ?_
    exact z_mask [false, false, false, true, false, false, false] rfl (tX10_splitOne_b235 T x3 43 k0 S h0 r h)
  · rw [if_pos q13] at h
    refine z_bipush dX10_splitOne_228 cB_41 ?_
    refine z_goto (tgt := 235) dX10_splitOne_230 (by decide) ?_
    exact z_mask [false, false, false, true, false, false, false] rfl (tX10_splitOne_b235 T x3 41 k0 S h0 r h)
set_option maxHeartbeats 4000000 in
set_option maxRecDepth 100000 in
theorem tX10_splitOne_b199 (T : zT) (k0 : Nat) (x3 : Int32) (x4 : Int32) (s0 : Int32) (S : zS) (h0 : iX10 T k0) {g : zG} (r : (Int32 × zS)) (h : fX10_splitOne_b199 T k0 x3 x4 s0 S = some r)  : zg g 6 mX10_splitOne T 199 [some (.ref k0), none, none, some (.int x3), some (.int x4), none, none] [.int s0] T S (some (.int r.1)) T r.2 := by
  unfold fX10_splitOne_b199 at h
  refine z_istore dX10_splitOne_199 rfl (by decide) rfl ?_
  refine z_iload dX10_splitOne_201 rfl ?_
  refine z_if_eq (tgt := 244) dX10_splitOne_203 (by decide) (fun q6 => ?_) (fun q6 => ?_)
  · rw [if_pos q6] at h
    exact z_mask [true, false, false, true, true, false, false] rfl (tX10_splitOne_b244 T k0 x3 x4 S h0 r h)
  · rw [if_neg q6] at h
    refine z_iload dX10_splitOne_206 rfl ?_
    refine z_bipush dX10_splitOne_208 cB_60 ?_
    refine z_icmp_eq (tgt := 220) dX10_splitOne_210 (by decide) (fun q12 => ?_) (fun q12 => ?_)
    · rw [if_pos q12] at h
      exact z_mask [true, false, false, true, true, false, false] rfl (tX10_splitOne_b220 T k0 x3 x4 S h0 r h)
    · rw [if_neg q12] at h
      refine z_iload dX10_splitOne_213 rfl ?_
      refine z_bipush dX10_splitOne_215 cB_62 ?_
      refine z_icmp_ne (tgt := 244) dX10_splitOne_217 (by decide) (fun q17 => ?_) (fun q17 => ?_)
      · rw [if_neg q17] at h
        exact z_mask [true, false, false, true, true, false, false] rfl (tX10_splitOne_b244 T k0 x3 x4 S h0 r h)
      · rw [if_pos q17] at h
        exact z_mask [true, false, false, true, true, false, false] rfl (tX10_splitOne_b220 T k0 x3 x4 S h0 r h)
set_option maxHeartbeats 4000000 in
set_option maxRecDepth 100000 in
theorem tX10_splitOne_b198 (T : zT) (k0 : Nat) (x3 : Int32) (x4 : Int32) (S : zS) (h0 : iX10 T k0) {g : zG} (r : (Int32 × zS)) (h : fX10_splitOne_b198 T k0 x3 x4 S = some r)  : zg g 6 mX10_splitOne T 198 [some (.ref k0), none, none, some (.int x3), some (.int x4), none, none] [] T S (some (.int r.1)) T r.2 := by
  unfold fX10_splitOne_b198 at h
  refine z_iconst dX10_splitOne_198 cI_0 ?_
  exact z_mask [true, false, false, true, true, false, false] rfl (tX10_splitOne_b199 T k0 x3 x4 0 S h0 r h)
set_option maxHeartbeats 4000000 in
set_option maxRecDepth 100000 in
theorem tX10_splitOne_b169 (T : zT) (k0 : Nat) (k1 : Nat) (n1 : Nat) (x2 : Int32) (x3 : Int32) (x4 : Int32) (S : zS) (h0 : iX10 T k0) (h1 : zL T k1 20 n1) {g : zG} (r : (Int32 × zS)) (h : fX10_splitOne_b169 T k0 k1 n1 x2 x3 x4 S = some r)  : zg g 6 mX10_splitOne T 169 [some (.ref k0), some (.ref k1), some (.int x2), some (.int x3), some (.int x4), none, none] [] T S (some (.int r.1)) T r.2 := by
  unfold fX10_splitOne_b169 at h
  refine z_iload_n dX10_splitOne_169 rfl ?_
  refine z_iconst dX10_splitOne_170 cI_1 ?_
  refine z_iadd dX10_splitOne_171 rfl ?_
  refine z_iload_n dX10_splitOne_172 rfl ?_
  refine z_icmp_ge (tgt := 198) dX10_splitOne_173 (by decide) (fun q5 => ?_) (fun q5 => ?_)
  · rw [if_pos q5] at h
    exact z_mask [true, false, false, true, true, false, false] rfl (tX10_splitOne_b198 T k0 x3 x4 S h0 r h)
  · rw [if_neg q5] at h
    refine z_iload_n dX10_splitOne_176 rfl ?_
    refine z_iconst dX10_splitOne_177 cI_1 ?_
    refine z_iadd dX10_splitOne_178 rfl ?_
    refine z_aload_n dX10_splitOne_179 rfl ?_
    refine z_alenI h1 (by decide) dX10_splitOne_180 ?_
    refine z_icmp_ge (tgt := 198) dX10_splitOne_181 (by decide) (fun q18 => ?_) (fun q18 => ?_)
    · rw [if_pos q18] at h
      exact z_mask [true, false, false, true, true, false, false] rfl (tX10_splitOne_b198 T k0 x3 x4 S h0 r h)
    · rw [if_neg q18] at h
      refine z_aload_n dX10_splitOne_184 rfl ?_
      refine z_iload_n dX10_splitOne_185 rfl ?_
      refine z_iconst dX10_splitOne_186 cI_1 ?_
      refine z_iadd dX10_splitOne_187 rfl ?_
      obtain ⟨q19, h⟩ := zgd_elim h
      refine z_iald h1 (zin_ok q19) dX10_splitOne_188 ?_
      refine z_bipush dX10_splitOne_189 cB_61 ?_
      refine z_icmp_ne (tgt := 198) dX10_splitOne_191 (by decide) (fun q20 => ?_) (fun q20 => ?_)
      · rw [if_neg q20] at h
        exact z_mask [true, false, false, true, true, false, false] rfl (tX10_splitOne_b198 T k0 x3 x4 S h0 r h)
      · rw [if_pos q20] at h
        refine z_iconst dX10_splitOne_194 cI_1 ?_
        refine z_goto (tgt := 199) dX10_splitOne_195 (by decide) ?_
        exact z_mask [true, false, false, true, true, false, false] rfl (tX10_splitOne_b199 T k0 x3 x4 1 S h0 r h)
set_option maxHeartbeats 4000000 in
set_option maxRecDepth 100000 in
theorem tX10_splitOne_b162 (T : zT) (x3 : Int32) (x5 : Int32) (s0 : Int32) (s1 : Int32) (s2 : Nat) (S : zS) (g2 : iX10 T s2) {g : zG} (r : (Int32 × zS)) (h : fX10_splitOne_b162 T x3 x5 s0 s1 s2 S = some r)  : zg g 6 mX10_splitOne T 162 [none, none, none, some (.int x3), none, some (.int x5), none] [.int s0, .int s1, .ref s2] T S (some (.int r.1)) T r.2 := by
  unfold fX10_splitOne_b162 at h
  refine z_iload_n dX10_splitOne_162 rfl ?_
  obtain ⟨r29, S31, hc30, h⟩ := zb_elim h
  refine z_callV (As := [.int s1, .int s0, .int x3]) zcX10 zkX10_29 ziX10_add zqX10_add g2.1 (tX10_add T s2 s1 s0 x3 S g2 (r29, S31) hc30) rfl rfl (Nat.le_of_ble_eq_true rfl) (by decide) ⟨Nat.le_refl _, Nat.le_refl _⟩ ⟨Nat.le_refl _, Nat.le_refl _⟩ dX10_splitOne_163 ?_
  refine z_iload dX10_splitOne_166 rfl ?_
  cases h
  exact z_iret rfl dX10_splitOne_168
set_option maxHeartbeats 4000000 in
set_option maxRecDepth 100000 in
theorem tX10_splitOne_b148 (T : zT) (x3 : Int32) (x4 : Int32) (x5 : Int32) (x6 : Int32) (s0 : Int32) (s1 : Nat) (S : zS) (g1 : iX10 T s1) {g : zG} (r : (Int32 × zS)) (h : fX10_splitOne_b148 T x3 x4 x5 x6 s0 s1 S = some r)  : zg g 6 mX10_splitOne T 148 [none, none, none, some (.int x3), some (.int x4), some (.int x5), some (.int x6)] [.int s0, .ref s1] T S (some (.int r.1)) T r.2 := by
  unfold fX10_splitOne_b148 at h
  refine z_iload dX10_splitOne_148 rfl ?_
  refine z_if_eq (tgt := 161) dX10_splitOne_150 (by decide) (fun q28 => ?_) (fun q28 => ?_)
  · rw [if_pos q28] at h
    refine z_iconst dX10_splitOne_161 cI_0 ?_
    exact z_mask [false, false, false, true, false, true, false] rfl (tX10_splitOne_b162 T x3 x5 0 s0 s1 S g1 r h)
  · rw [if_neg q28] at h
    refine z_iload dX10_splitOne_153 rfl ?_
    refine z_bipush dX10_splitOne_155 cB_97 ?_
    refine z_isub dX10_splitOne_157 rfl ?_
    refine z_goto (tgt := 162) dX10_splitOne_158 (by decide) ?_
    exact z_mask [false, false, false, true, false, true, false] rfl (tX10_splitOne_b162 T x3 x5 (x4 - 97) s0 s1 S g1 r h)
set_option maxHeartbeats 4000000 in
set_option maxRecDepth 100000 in
theorem tX10_splitOne_b128 (T : zT) (k0 : Nat) (k1 : Nat) (n1 : Nat) (x3 : Int32) (x4 : Int32) (x5 : Int32) (s0 : Int32) (S : zS) (h0 : iX10 T k0) (h1 : zL T k1 20 n1) {g : zG} (r : (Int32 × zS)) (h : fX10_splitOne_b128 T k0 k1 n1 x3 x4 x5 s0 S = some r)  : zg g 6 mX10_splitOne T 128 [some (.ref k0), some (.ref k1), none, some (.int x3), some (.int x4), some (.int x5), none] [.int s0] T S (some (.int r.1)) T r.2 := by
  unfold fX10_splitOne_b128 at h
  refine z_istore dX10_splitOne_128 rfl (by decide) rfl ?_
  refine z_aload_n dX10_splitOne_130 rfl ?_
  refine z_iload dX10_splitOne_131 rfl ?_
  refine z_if_eq (tgt := 141) dX10_splitOne_133 (by decide) (fun q25 => ?_) (fun q25 => ?_)
  · rw [if_pos q25] at h
    refine z_aload_n dX10_splitOne_141 rfl ?_
    refine z_iload_n dX10_splitOne_142 rfl ?_
    refine z_iload dX10_splitOne_143 rfl ?_
    obtain ⟨r26, hc27, h⟩ := zb1_elim h
    refine z_callS (As := [.ref k1, .int x3, .int x5]) zkX10_40 zsX10_wordIn (tX10_wordIn T k1 n1 x3 x5 S h1 r26 hc27) rfl rfl (Nat.le_of_ble_eq_true rfl) (by decide) ⟨Nat.le_refl _, Nat.le_refl _⟩ ⟨Nat.le_refl _, Nat.le_refl _⟩ dX10_splitOne_145 ?_
    exact z_mask [false, false, false, true, true, true, true] rfl (tX10_splitOne_b148 T x3 x4 x5 s0 r26 k0 S h0 r h)
  · rw [if_neg q25] at h
    refine z_bipush dX10_splitOne_136 cB_30 ?_
    refine z_goto (tgt := 148) dX10_splitOne_138 (by decide) ?_
    exact z_mask [false, false, false, true, true, true, true] rfl (tX10_splitOne_b148 T x3 x4 x5 s0 30 k0 S h0 r h)
set_option maxHeartbeats 4000000 in
set_option maxRecDepth 100000 in
theorem tX10_splitOne_b127 (T : zT) (k0 : Nat) (k1 : Nat) (n1 : Nat) (x3 : Int32) (x4 : Int32) (x5 : Int32) (S : zS) (h0 : iX10 T k0) (h1 : zL T k1 20 n1) {g : zG} (r : (Int32 × zS)) (h : fX10_splitOne_b127 T k0 k1 n1 x3 x4 x5 S = some r)  : zg g 6 mX10_splitOne T 127 [some (.ref k0), some (.ref k1), none, some (.int x3), some (.int x4), some (.int x5), none] [] T S (some (.int r.1)) T r.2 := by
  unfold fX10_splitOne_b127 at h
  refine z_iconst dX10_splitOne_127 cI_0 ?_
  exact z_mask [true, true, false, true, true, true, false] rfl (tX10_splitOne_b128 T k0 k1 n1 x3 x4 x5 0 S h0 h1 r h)
set_option maxHeartbeats 4000000 in
set_option maxRecDepth 100000 in
theorem tX10_splitOne_b82 (T : zT) (k0 : Nat) (k1 : Nat) (n1 : Nat) (x2 : Int32) (x3 : Int32) (x4 : Int32) (S : zS) (h0 : iX10 T k0) (h1 : zL T k1 20 n1) {g : zG} (r : (Int32 × zS)) (h : fX10_splitOne_b82 T k0 k1 n1 x2 x3 x4 S = some r)  : zg g 6 mX10_splitOne T 82 [some (.ref k0), some (.ref k1), some (.int x2), some (.int x3), some (.int x4), none, none] [] T S (some (.int r.1)) T r.2 := by
  unfold fX10_splitOne_b82 at h
  refine z_iload dX10_splitOne_82 rfl ?_
  refine z_bipush dX10_splitOne_84 cB_97 ?_
  refine z_icmp_lt (tgt := 169) dX10_splitOne_86 (by decide) (fun q4 => ?_) (fun q4 => ?_)
  · rw [if_pos q4] at h
    exact z_mask [true, true, true, true, true, false, false] rfl (tX10_splitOne_b169 T k0 k1 n1 x2 x3 x4 S h0 h1 r h)
  · rw [if_neg q4] at h
    refine z_iload dX10_splitOne_89 rfl ?_
    refine z_bipush dX10_splitOne_91 cB_122 ?_
    refine z_icmp_gt (tgt := 169) dX10_splitOne_93 (by decide) (fun q21 => ?_) (fun q21 => ?_)
    · rw [if_pos q21] at h
      exact z_mask [true, true, true, true, true, false, false] rfl (tX10_splitOne_b169 T k0 k1 n1 x2 x3 x4 S h0 h1 r h)
    · rw [if_neg q21] at h
      refine z_aload_n dX10_splitOne_96 rfl ?_
      refine z_iload_n dX10_splitOne_97 rfl ?_
      refine z_iload_n dX10_splitOne_98 rfl ?_
      refine z_bipush dX10_splitOne_99 cB_97 ?_
      refine z_bipush dX10_splitOne_101 cB_122 ?_
      obtain ⟨r22, hc23, h⟩ := zb1_elim h
      refine z_callS (As := [.ref k1, .int x2, .int x3, .int 97, .int 122]) zkX10_33 zsX10_behindRun (tX10_behindRun T k1 n1 x2 x3 97 122 S h1 r22 hc23) rfl rfl (Nat.le_of_ble_eq_true rfl) (by decide) ⟨Nat.le_refl _, Nat.le_refl _⟩ ⟨Nat.le_refl _, Nat.le_refl _⟩ dX10_splitOne_103 ?_
      refine z_istore dX10_splitOne_106 rfl (by decide) rfl ?_
      refine z_iload dX10_splitOne_108 rfl ?_
      refine z_iload_n dX10_splitOne_110 rfl ?_
      refine z_isub dX10_splitOne_111 rfl ?_
      refine z_iconst dX10_splitOne_112 cI_1 ?_
      refine z_icmp_ne (tgt := 127) dX10_splitOne_113 (by decide) (fun q24 => ?_) (fun q24 => ?_)
      · rw [if_neg q24] at h
        exact z_mask [true, true, false, true, true, true, false] rfl (tX10_splitOne_b127 T k0 k1 n1 x3 x4 r22 S h0 h1 r h)
      · rw [if_pos q24] at h
        refine z_iload dX10_splitOne_116 rfl ?_
        refine z_bipush dX10_splitOne_118 cB_104 ?_
        refine z_icmp_gt (tgt := 127) dX10_splitOne_120 (by decide) (fun q32 => ?_) (fun q32 => ?_)
        · rw [if_pos q32] at h
          exact z_mask [true, true, false, true, true, true, false] rfl (tX10_splitOne_b127 T k0 k1 n1 x3 x4 r22 S h0 h1 r h)
        · rw [if_neg q32] at h
          refine z_iconst dX10_splitOne_123 cI_1 ?_
          refine z_goto (tgt := 128) dX10_splitOne_124 (by decide) ?_
          exact z_mask [true, true, false, true, true, true, false] rfl (tX10_splitOne_b128 T k0 k1 n1 x3 x4 r22 1 S h0 h1 r h)
set_option maxHeartbeats 4000000 in
set_option maxRecDepth 100000 in
theorem tX10_splitOne_b75 (T : zT) (x3 : Int32) (x5 : Int32) (s0 : Int32) (s1 : Int32) (s2 : Nat) (S : zS) (g2 : iX10 T s2) {g : zG} (r : (Int32 × zS)) (h : fX10_splitOne_b75 T x3 x5 s0 s1 s2 S = some r)  : zg g 6 mX10_splitOne T 75 [none, none, none, some (.int x3), none, some (.int x5), none] [.int s0, .int s1, .ref s2] T S (some (.int r.1)) T r.2 := by
  unfold fX10_splitOne_b75 at h
  refine z_iload_n dX10_splitOne_75 rfl ?_
  obtain ⟨r41, S43, hc42, h⟩ := zb_elim h
  refine z_callV (As := [.int s1, .int s0, .int x3]) zcX10 zkX10_29 ziX10_add zqX10_add g2.1 (tX10_add T s2 s1 s0 x3 S g2 (r41, S43) hc42) rfl rfl (Nat.le_of_ble_eq_true rfl) (by decide) ⟨Nat.le_refl _, Nat.le_refl _⟩ ⟨Nat.le_refl _, Nat.le_refl _⟩ dX10_splitOne_76 ?_
  refine z_iload dX10_splitOne_79 rfl ?_
  cases h
  exact z_iret rfl dX10_splitOne_81
set_option maxHeartbeats 4000000 in
set_option maxRecDepth 100000 in
theorem tX10_splitOne_b59 (T : zT) (k1 : Nat) (n1 : Nat) (x3 : Int32) (x5 : Int32) (x6 : Int32) (s0 : Int32) (s1 : Nat) (S : zS) (h1 : zL T k1 20 n1) (g1 : iX10 T s1) {g : zG} (r : (Int32 × zS)) (h : fX10_splitOne_b59 T k1 n1 x3 x5 x6 s0 s1 S = some r)  : zg g 6 mX10_splitOne T 59 [none, some (.ref k1), none, some (.int x3), none, some (.int x5), some (.int x6)] [.int s0, .ref s1] T S (some (.int r.1)) T r.2 := by
  unfold fX10_splitOne_b59 at h
  refine z_iload dX10_splitOne_59 rfl ?_
  refine z_if_eq (tgt := 68) dX10_splitOne_61 (by decide) (fun q38 => ?_) (fun q38 => ?_)
  · rw [if_pos q38] at h
    refine z_aload_n dX10_splitOne_68 rfl ?_
    refine z_iload_n dX10_splitOne_69 rfl ?_
    refine z_iload dX10_splitOne_70 rfl ?_
    obtain ⟨r39, hc40, h⟩ := zb1_elim h
    refine z_callS (As := [.ref k1, .int x3, .int x5]) zkX10_37 zsX10_numberIn (tX10_numberIn T k1 n1 x3 x5 S h1 r39 hc40) rfl rfl (Nat.le_of_ble_eq_true rfl) (by decide) ⟨Nat.le_refl _, Nat.le_refl _⟩ ⟨Nat.le_refl _, Nat.le_refl _⟩ dX10_splitOne_72 ?_
    exact z_mask [false, false, false, true, false, true, false] rfl (tX10_splitOne_b75 T x3 x5 r39 s0 s1 S g1 r h)
  · rw [if_neg q38] at h
    refine z_iconst dX10_splitOne_64 cI_0 ?_
    refine z_goto (tgt := 75) dX10_splitOne_65 (by decide) ?_
    exact z_mask [false, false, false, true, false, true, false] rfl (tX10_splitOne_b75 T x3 x5 0 s0 s1 S g1 r h)
set_option maxHeartbeats 4000000 in
set_option maxRecDepth 100000 in
theorem tX10_splitOne_b44 (T : zT) (k0 : Nat) (k1 : Nat) (n1 : Nat) (x3 : Int32) (x5 : Int32) (s0 : Int32) (S : zS) (h0 : iX10 T k0) (h1 : zL T k1 20 n1) {g : zG} (r : (Int32 × zS)) (h : fX10_splitOne_b44 T k0 k1 n1 x3 x5 s0 S = some r)  : zg g 6 mX10_splitOne T 44 [some (.ref k0), some (.ref k1), none, some (.int x3), none, some (.int x5), none] [.int s0] T S (some (.int r.1)) T r.2 := by
  unfold fX10_splitOne_b44 at h
  refine z_istore dX10_splitOne_44 rfl (by decide) rfl ?_
  refine z_aload_n dX10_splitOne_46 rfl ?_
  refine z_iload dX10_splitOne_47 rfl ?_
  refine z_if_eq (tgt := 57) dX10_splitOne_49 (by decide) (fun q37 => ?_) (fun q37 => ?_)
  · rw [if_pos q37] at h
    refine z_bipush dX10_splitOne_57 cB_31 ?_
    exact z_mask [false, true, false, true, false, true, true] rfl (tX10_splitOne_b59 T k1 n1 x3 x5 s0 31 k0 S h1 h0 r h)
  · rw [if_neg q37] at h
    refine z_bipush dX10_splitOne_52 cB_32 ?_
    refine z_goto (tgt := 59) dX10_splitOne_54 (by decide) ?_
    exact z_mask [false, true, false, true, false, true, true] rfl (tX10_splitOne_b59 T k1 n1 x3 x5 s0 32 k0 S h1 h0 r h)
set_option maxHeartbeats 4000000 in
set_option maxRecDepth 100000 in
theorem tX10_splitOne (T : zT) (k0 : Nat) (k1 : Nat) (n1 : Nat) (x2 : Int32) (x3 : Int32) (S : zS) (h0 : iX10 T k0) (h1 : zL T k1 20 n1) (r : Int32 × zS) (h : fX10_splitOne T k0 k1 n1 x2 x3 S = some r) : zGM 6 mX10_splitOne [.ref k0, .ref k1, .int x2, .int x3] T S (some (.int r.1)) T r.2 := by
  refine zGM_of zpnX10 rfl (Nat.le_of_ble_eq_true rfl) (fun g => ?_)
  show zg g 6 mX10_splitOne T 0 [some (.ref k0), some (.ref k1), some (.int x2), some (.int x3), none, none, none] [] T S (some (.int r.1)) T r.2
  unfold fX10_splitOne at h
  refine z_aload_n dX10_splitOne_0 rfl ?_
  refine z_iload_n dX10_splitOne_1 rfl ?_
  obtain ⟨q1, h⟩ := zgd_elim h
  refine z_iald h1 (zin_ok q1) dX10_splitOne_2 ?_
  obtain ⟨u2, eu2, h⟩ := zlet_elim h
  refine z_ti eu2 ?_
  refine z_istore dX10_splitOne_3 rfl (by decide) rfl ?_
  refine z_iload dX10_splitOne_5 rfl ?_
  refine z_bipush dX10_splitOne_7 cB_48 ?_
  refine z_icmp_lt (tgt := 82) dX10_splitOne_9 (by decide) (fun q3 => ?_) (fun q3 => ?_)
  · rw [if_pos q3] at h
    exact z_mask [true, true, true, true, true, false, false] rfl (tX10_splitOne_b82 T k0 k1 n1 x2 x3 u2 S h0 h1 r h)
  · rw [if_neg q3] at h
    refine z_iload dX10_splitOne_12 rfl ?_
    refine z_bipush dX10_splitOne_14 cB_57 ?_
    refine z_icmp_gt (tgt := 82) dX10_splitOne_16 (by decide) (fun q33 => ?_) (fun q33 => ?_)
    · rw [if_pos q33] at h
      exact z_mask [true, true, true, true, true, false, false] rfl (tX10_splitOne_b82 T k0 k1 n1 x2 x3 u2 S h0 h1 r h)
    · rw [if_neg q33] at h
      refine z_aload_n dX10_splitOne_19 rfl ?_
      refine z_iload_n dX10_splitOne_20 rfl ?_
      refine z_iload_n dX10_splitOne_21 rfl ?_
      refine z_bipush dX10_splitOne_22 cB_48 ?_
      refine z_bipush dX10_splitOne_24 cB_57 ?_
      obtain ⟨r34, hc35, h⟩ := zb1_elim h
      refine z_callS (As := [.ref k1, .int x2, .int x3, .int 48, .int 57]) zkX10_33 zsX10_behindRun (tX10_behindRun T k1 n1 x2 x3 48 57 S h1 r34 hc35) rfl rfl (Nat.le_of_ble_eq_true rfl) (by decide) ⟨Nat.le_refl _, Nat.le_refl _⟩ ⟨Nat.le_refl _, Nat.le_refl _⟩ dX10_splitOne_26 ?_
      refine z_istore dX10_splitOne_29 rfl (by decide) rfl ?_
      refine z_iload dX10_splitOne_31 rfl ?_
      refine z_iload_n dX10_splitOne_33 rfl ?_
      refine z_isub dX10_splitOne_34 rfl ?_
      refine z_iconst dX10_splitOne_35 cI_5 ?_
      refine z_icmp_le (tgt := 43) dX10_splitOne_36 (by decide) (fun q36 => ?_) (fun q36 => ?_)
      · rw [if_pos q36] at h
        refine z_iconst dX10_splitOne_43 cI_0 ?_
        exact z_mask [true, true, false, true, false, true, false] rfl (tX10_splitOne_b44 T k0 k1 n1 x3 r34 0 S h0 h1 r h)
      · rw [if_neg q36] at h
        refine z_iconst dX10_splitOne_39 cI_1 ?_
        refine z_goto (tgt := 44) dX10_splitOne_40 (by decide) ?_
        exact z_mask [true, true, false, true, false, true, false] rfl (tX10_splitOne_b44 T k0 k1 n1 x3 r34 1 S h0 h1 r h)
/-! X10_split -/
noncomputable def fX10_split_b47 (T : zT) (k0 : Nat) (k1 : Nat) (n1 : Nat) (x2 : Int32) (x3 : Int32) (x4 : Int32) (S : zS) : Option ((Int32 × Int32 × zS) ⊕ zS) :=
  zlet (x4 + 1) fun u5 => some (.inl (x3, u5, S))
noncomputable def fX10_split_l10 (T : zT) (k0 : Nat) (k1 : Nat) (n1 : Nat) (x2 : Int32) (x3 : Int32) (x4 : Int32) (S : zS) : Option ((Int32 × Int32 × zS) ⊕ zS) :=
  if x2 ≤ x4 then some (.inr S) else if (Int32.ofNat n1) ≤ x4 then some (.inr S) else if x4 < x3 then fX10_split_b47 T k0 k1 n1 x2 x3 x4 S else zgd (zin x4 n1) (if (S.1 k1 (x4 : Int32).toNatClampNeg) = 32 then fX10_split_b47 T k0 k1 n1 x2 x3 x4 S else zb (fX10_splitOne T k0 k1 n1 x2 x4 S) fun r8 S10 => fX10_split_b47 T k0 k1 n1 x2 r8 x4 S10)
noncomputable def fX10_split_b53 (T : zT) (k0 : Nat) (x2 : Int32) (S : zS) : Option (Unit × zS) :=
  zb (fX10_add T k0 46 0 x2 S) fun _ S14 => some ((), S14)
noncomputable def fX10_split (T : zT) (k0 : Nat) (k1 : Nat) (n1 : Nat) (x2 : Int32) (S : zS) : Option (Unit × zS) :=
  zlet (zI S k0 3 0) fun S1 => zb1 (lp (fun a => fX10_split_l10 T k0 k1 n1 x2 a.1 a.2.1 a.2.2) (0, 0, S1)) fun e11 => fX10_split_b53 T k0 x2 e11
set_option maxHeartbeats 4000000 in
set_option maxRecDepth 100000 in
theorem tX10_split_b47 (T : zT) (k0 : Nat) (k1 : Nat) (n1 : Nat) (x2 : Int32) (x3 : Int32) (x4 : Int32) (S : zS) (h0 : iX10 T k0) (h1 : zL T k1 20 n1) {g : zG} {v : Option Value} {S' : zS} (r : ((Int32 × Int32 × zS) ⊕ zS)) (h : fX10_split_b47 T k0 k1 n1 x2 x3 x4 S = some r) (K1 : ∀ a : (Int32 × Int32 × zS), r = .inl a → zg g 7 mX10_split T 10 [some (.ref k0), some (.ref k1), some (.int x2), some (.int a.1), some (.int a.2.1)] [] T a.2.2 v T S') (K2_0 : ∀ e : zS, r = .inr e → zg g 7 mX10_split T 53 [some (.ref k0), none, some (.int x2), none, none] [] T e v T S') : zg g 7 mX10_split T 47 [some (.ref k0), some (.ref k1), some (.int x2), some (.int x3), some (.int x4)] [] T S v T S' := by
  unfold fX10_split_b47 at h
  obtain ⟨u5, eu5, h⟩ := zlet_elim h
  refine z_iinc (r := u5) dX10_split_47 rfl (by rw [eu5, cI_1]) rfl (by decide) rfl ?_
  refine z_goto (tgt := 10) dX10_split_50 (by decide) ?_
  cases h
  exact z_mask [true, true, true, true, true] rfl (K1 _ rfl)
set_option maxHeartbeats 4000000 in
set_option maxRecDepth 100000 in
theorem tX10_split_l10b (T : zT) (k0 : Nat) (k1 : Nat) (n1 : Nat) (x2 : Int32) (x3 : Int32) (x4 : Int32) (S : zS) (h0 : iX10 T k0) (h1 : zL T k1 20 n1) {g : zG} {v : Option Value} {S' : zS} (r : (Int32 × Int32 × zS) ⊕ zS) (h : fX10_split_l10 T k0 k1 n1 x2 x3 x4 S = some r) (K1 : ∀ a : (Int32 × Int32 × zS), r = .inl a → zg g 7 mX10_split T 10 [some (.ref k0), some (.ref k1), some (.int x2), some (.int a.1), some (.int a.2.1)] [] T a.2.2 v T S') (K2_0 : ∀ e : zS, r = .inr e → zg g 7 mX10_split T 53 [some (.ref k0), none, some (.int x2), none, none] [] T e v T S') : zg g 7 mX10_split T 10 [some (.ref k0), some (.ref k1), some (.int x2), some (.int x3), some (.int x4)] [] T S v T S' := by
  unfold fX10_split_l10 at h
  refine z_iload dX10_split_10 rfl ?_
  refine z_iload_n dX10_split_12 rfl ?_
  refine z_icmp_ge (tgt := 53) dX10_split_13 (by decide) (fun q2 => ?_) (fun q2 => ?_)
  · rw [if_pos q2] at h
    cases h
    exact z_mask [true, false, true, false, false] rfl (K2_0 _ rfl)
  · rw [if_neg q2] at h
    refine z_iload dX10_split_16 rfl ?_
    refine z_aload_n dX10_split_18 rfl ?_
    refine z_alenI h1 (by decide) dX10_split_19 ?_
    refine z_icmp_ge (tgt := 53) dX10_split_20 (by decide) (fun q3 => ?_) (fun q3 => ?_)
    · rw [if_pos q3] at h
      cases h
      exact z_mask [true, false, true, false, false] rfl (K2_0 _ rfl)
    · rw [if_neg q3] at h
      refine z_iload dX10_split_23 rfl ?_
      refine z_iload_n dX10_split_25 rfl ?_
      refine z_icmp_lt (tgt := 47) dX10_split_26 (by decide) (fun q4 => ?_) (fun q4 => ?_)
      · rw [if_pos q4] at h
        exact z_mask [true, true, true, true, true] rfl (tX10_split_b47 T k0 k1 n1 x2 x3 x4 S h0 h1 r h K1 K2_0)
      · rw [if_neg q4] at h
        refine z_aload_n dX10_split_29 rfl ?_
        refine z_iload dX10_split_30 rfl ?_
        obtain ⟨q6, h⟩ := zgd_elim h
        refine z_iald h1 (zin_ok q6) dX10_split_32 ?_
        refine z_bipush dX10_split_33 cB_32 ?_
        refine z_icmp_eq (tgt := 47) dX10_split_35 (by decide) (fun q7 => ?_) (fun q7 => ?_)
        · rw [if_pos q7] at h
          exact z_mask [true, true, true, true, true] rfl (tX10_split_b47 T k0 k1 n1 x2 x3 x4 S h0 h1 r h K1 K2_0)
        · rw [if_neg q7] at h
          refine z_aload_n dX10_split_38 rfl ?_
          refine z_aload_n dX10_split_39 rfl ?_
          refine z_iload_n dX10_split_40 rfl ?_
          refine z_iload dX10_split_41 rfl ?_
          obtain ⟨r8, S10, hc9, h⟩ := zb_elim h
          refine z_callV (As := [.ref k1, .int x2, .int x4]) zcX10 zkX10_25 ziX10_splitOne zqX10_splitOne h0.1 (tX10_splitOne T k0 k1 n1 x2 x4 S h0 h1 (r8, S10) hc9) rfl rfl (Nat.le_of_ble_eq_true rfl) (by decide) ⟨Nat.le_refl _, Nat.le_refl _⟩ ⟨Nat.le_refl _, Nat.le_refl _⟩ dX10_split_43 ?_
          refine z_istore_n dX10_split_46 rfl (by decide) rfl ?_
          exact z_mask [true, true, true, true, true] rfl (tX10_split_b47 T k0 k1 n1 x2 r8 x4 S10 h0 h1 r h K1 K2_0)
set_option maxHeartbeats 4000000 in
set_option maxRecDepth 100000 in
theorem tX10_split_l10 (T : zT) (k0 : Nat) (k1 : Nat) (n1 : Nat) (x2 : Int32) (h0 : iX10 T k0) (h1 : zL T k1 20 n1) {g : zG} {v : Option Value} {S' : zS} : ∀ (n : Nat) (a : (Int32 × Int32 × zS)) (e : zS), lpn (fun a => fX10_split_l10 T k0 k1 n1 x2 a.1 a.2.1 a.2.2) n a = some e → (∀ e1 : zS, e = e1 → zg g 7 mX10_split T 53 [some (.ref k0), none, some (.int x2), none, none] [] T e1 v T S') → zg g 7 mX10_split T 10 [some (.ref k0), some (.ref k1), some (.int x2), some (.int a.1), some (.int a.2.1)] [] T a.2.2 v T S' := by
  intro n
  induction n with
  | zero =>
    intro a e h
    cases h
  | succ n ih =>
    intro a e h k0_
    rcases lpn_succ h with ⟨a1, ha_, hb_⟩ | ha_
    · exact tX10_split_l10b T k0 k1 n1 x2 a.1 a.2.1 a.2.2 h0 h1 _ ha_ (fun a2 q => by cases q; exact ih a1 e hb_ k0_) (fun e1 q => by cases q)
    · exact tX10_split_l10b T k0 k1 n1 x2 a.1 a.2.1 a.2.2 h0 h1 _ ha_ (fun a2 q => by cases q) (fun e1 q => by cases q; exact k0_ _ rfl)
set_option maxHeartbeats 4000000 in
set_option maxRecDepth 100000 in
theorem tX10_split_b53 (T : zT) (k0 : Nat) (x2 : Int32) (S : zS) (h0 : iX10 T k0) {g : zG} (r : (Unit × zS)) (h : fX10_split_b53 T k0 x2 S = some r)  : zg g 7 mX10_split T 53 [some (.ref k0), none, some (.int x2), none, none] [] T S none T r.2 := by
  unfold fX10_split_b53 at h
  refine z_aload_n dX10_split_53 rfl ?_
  refine z_bipush dX10_split_54 cB_46 ?_
  refine z_iconst dX10_split_56 cI_0 ?_
  refine z_iload_n dX10_split_57 rfl ?_
  obtain ⟨r12, S14, hc13, h⟩ := zb_elim h
  refine z_callV (As := [.int 46, .int 0, .int x2]) zcX10 zkX10_29 ziX10_add zqX10_add h0.1 (tX10_add T k0 46 0 x2 S h0 (r12, S14) hc13) rfl rfl (Nat.le_of_ble_eq_true rfl) (by decide) ⟨Nat.le_refl _, Nat.le_refl _⟩ ⟨Nat.le_refl _, Nat.le_refl _⟩ dX10_split_58 ?_
  cases h
  exact z_vret rfl dX10_split_61
set_option maxHeartbeats 4000000 in
set_option maxRecDepth 100000 in
theorem tX10_split (T : zT) (k0 : Nat) (k1 : Nat) (n1 : Nat) (x2 : Int32) (S : zS) (h0 : iX10 T k0) (h1 : zL T k1 20 n1) (r : Unit × zS) (h : fX10_split T k0 k1 n1 x2 S = some r) : zGM 7 mX10_split [.ref k0, .ref k1, .int x2] T S none T r.2 := by
  refine zGM_of zpnX10 rfl (Nat.le_of_ble_eq_true rfl) (fun g => ?_)
  show zg g 7 mX10_split T 0 [some (.ref k0), some (.ref k1), some (.int x2), none, none] [] T S none T r.2
  unfold fX10_split at h
  refine z_aload_n dX10_split_0 rfl ?_
  refine z_iconst dX10_split_1 cI_0 ?_
  refine z_putI zfX10_21 h0.1 dX10_split_2 ?_
  obtain ⟨S1, eS1, h⟩ := zlet_elim h
  refine z_tS eS1 ?_
  refine z_iconst dX10_split_5 cI_0 ?_
  refine z_istore_n dX10_split_6 rfl (by decide) rfl ?_
  refine z_iconst dX10_split_7 cI_0 ?_
  refine z_istore dX10_split_8 rfl (by decide) rfl ?_
  obtain ⟨e11, hl15, h⟩ := zb1_elim h
  obtain ⟨nf16, hl15⟩ := lp_some hl15
  refine z_mask [true, true, true, true, true] rfl (tX10_split_l10 T k0 k1 n1 x2 h0 h1 nf16 (0, 0, S1) e11 hl15 (fun e_ q => ?_))
  · cases q
    exact z_mask [true, false, true, false, false] rfl (tX10_split_b53 T k0 x2 e11 h0 r h)
/-! X6_open -/
noncomputable def fX6_open (T : zT) (k0 : Nat) (k1 : Nat) (n1 : Nat) (x2 : Int32) (k3 : Nat) (x4 : Int32) (S : zS) : Option (Unit × zS) :=
  zb (fX10_split T (zr T k0 0) k1 n1 x2 S) fun _ S3 => zlet (zI S3 k0 1 (-1)) fun S4 => zb (fX6_next T k0 S4) fun _ S7 => zlet (zI S7 k0 5 0) fun S8 => zlet (zI S8 k0 6 0) fun S9 => zlet (zI S9 k0 7 0) fun S10 => zgd (zbl x4) (zlet (zI S10 k0 8 x4) fun S12 => some ((), S12))
set_option maxHeartbeats 4000000 in
set_option maxRecDepth 100000 in
theorem tX6_open (T : zT) (k0 : Nat) (k1 : Nat) (n1 : Nat) (x2 : Int32) (k3 : Nat) (x4 : Int32) (S : zS) (h0 : iX6n T k0) (h1 : zL T k1 20 n1) (h3 : iX2 T k3) (r : Unit × zS) (h : fX6_open T k0 k1 n1 x2 k3 x4 S = some r) : zGM 8 mX6_open [.ref k0, .ref k1, .int x2, .ref k3, .int x4] T S none (zQ T k0 9 k3) r.2 := by
  refine zGM_of zpnX6 rfl (Nat.le_of_ble_eq_true rfl) (fun g => ?_)
  show zg g 8 mX6_open T 0 [some (.ref k0), some (.ref k1), some (.int x2), some (.ref k3), some (.int x4)] [] T S none (zQ T k0 9 k3) r.2
  unfold fX6_open at h
  refine z_aload_n dX6_open_0 rfl ?_
  refine z_gR (zF.x zfX6_12) h0.1 dX6_open_1 ?_
  refine z_aload_n dX6_open_4 rfl ?_
  refine z_iload_n dX6_open_5 rfl ?_
  obtain ⟨r1, S3, hc2, h⟩ := zb_elim h
  refine z_callV (As := [.ref k1, .int x2]) zcX10 zkX6_18 ziX10_split zqX10_split h0.2.1 (tX10_split T (zr T k0 0) k1 n1 x2 S h0.2 h1 (r1, S3) hc2) rfl rfl (Nat.le_of_ble_eq_true rfl) (by decide) ⟨Nat.le_refl _, Nat.le_refl _⟩ ⟨Nat.le_refl _, Nat.le_refl _⟩ dX6_open_6 ?_
  refine z_aload_n dX6_open_9 rfl ?_
  refine z_iconst dX6_open_10 cI_m1 ?_
  refine z_putI zfX6_22 h0.1 dX6_open_11 ?_
  obtain ⟨S4, eS4, h⟩ := zlet_elim h
  refine z_tS eS4 ?_
  refine z_aload_n dX6_open_14 rfl ?_
  obtain ⟨r5, S7, hc6, h⟩ := zb_elim h
  refine z_callV (As := []) zcX6 zkX6_26 ziX6_next zqX6_next h0.1 (tX6_next T k0 S4 h0 (r5, S7) hc6) rfl rfl (Nat.le_of_ble_eq_true rfl) (by decide) ⟨Nat.le_refl _, Nat.le_refl _⟩ ⟨Nat.le_refl _, Nat.le_refl _⟩ dX6_open_15 ?_
  refine z_aload_n dX6_open_18 rfl ?_
  refine z_iconst dX6_open_19 cI_0 ?_
  refine z_putI zfX6_29 h0.1 dX6_open_20 ?_
  obtain ⟨S8, eS8, h⟩ := zlet_elim h
  refine z_tS eS8 ?_
  refine z_aload_n dX6_open_23 rfl ?_
  refine z_iconst dX6_open_24 cI_0 ?_
  refine z_putI zfX6_32 h0.1 dX6_open_25 ?_
  obtain ⟨S9, eS9, h⟩ := zlet_elim h
  refine z_tS eS9 ?_
  refine z_aload_n dX6_open_28 rfl ?_
  refine z_iconst dX6_open_29 cI_0 ?_
  refine z_putI zfX6_35 h0.1 dX6_open_30 ?_
  obtain ⟨S10, eS10, h⟩ := zlet_elim h
  refine z_tS eS10 ?_
  refine z_aload_n dX6_open_33 rfl ?_
  refine z_aload_n dX6_open_34 rfl ?_
  refine z_putR zfX6_38 (Or.inl ⟨_, rfl⟩) (fun h => by cases h) h0.1 dX6_open_35 ?_
  refine z_aload_n dX6_open_38 rfl ?_
  refine z_iload dX6_open_39 rfl ?_
  obtain ⟨q11, h⟩ := zgd_elim h
  refine z_putZ zfX6_42 (zbl_ok q11) h0.1 dX6_open_41 ?_
  obtain ⟨S12, eS12, h⟩ := zlet_elim h
  refine z_tS eS12 ?_
  cases h
  exact z_vret rfl dX6_open_44
/-! X6_readTest -/
noncomputable def fX6_readTestB_b37 (T : zT) (rc : Nat → zT → Nat → Int32 → zS → Option (Unit × zS)) (k0 : Nat) (x1 : Int32) (x2 : Int32) (x3 : Int32) (S : zS) : Option ((Int32 × zS) ⊕ (zS ⊕ zS)) :=
  if (S.1 k0 5) = 0 then if (S.1 k0 2) = 17 then zb (fX6_next T k0 S) fun _ S11 => zlet (x3 + 1) fun u12 => some (.inl (u12, S11)) else some (.inr (.inr S)) else some (.inr (.inl S))
noncomputable def fX6_readTestB_l11 (T : zT) (rc : Nat → zT → Nat → Int32 → zS → Option (Unit × zS)) (k0 : Nat) (x1 : Int32) (x2 : Int32) (x3 : Int32) (S : zS) : Option ((Int32 × zS) ⊕ (zS ⊕ zS)) :=
  if 400 ≤ x3 then some (.inr (.inl S)) else zb (rc 0 T k0 x1 S) fun _ S5 => if x3 ≤ 0 then fX6_readTestB_b37 T rc k0 x1 x2 x3 S5 else zb (fX2_add T (zr T k0 9) 17 0 S5) fun _ S15 => fX6_readTestB_b37 T rc k0 x1 x2 x3 S15
noncomputable def fX6_readTestB_b80 (T : zT) (rc : Nat → zT → Nat → Int32 → zS → Option (Unit × zS)) (k0 : Nat) (x1 : Int32) (x2 : Int32) (S : zS) : Option ((Int32 × zS) ⊕ (zS ⊕ zS)) :=
  if (S.1 k0 5) = 0 then if (S.1 k0 2) = 16 then zb (fX6_next T k0 S) fun _ S22 => zlet (x2 + 1) fun u23 => some (.inl (u23, S22)) else some (.inr (.inr S)) else some (.inr (.inr S))
noncomputable def fX6_readTestB_b66 (T : zT) (rc : Nat → zT → Nat → Int32 → zS → Option (Unit × zS)) (k0 : Nat) (x1 : Int32) (x2 : Int32) (S : zS) : Option ((Int32 × zS) ⊕ (zS ⊕ zS)) :=
  if x2 ≤ 0 then fX6_readTestB_b80 T rc k0 x1 x2 S else zb (fX2_add T (zr T k0 9) 16 0 S) fun _ S26 => fX6_readTestB_b80 T rc k0 x1 x2 S26
noncomputable def fX6_readTestB_l2 (T : zT) (rc : Nat → zT → Nat → Int32 → zS → Option (Unit × zS)) (k0 : Nat) (x1 : Int32) (x2 : Int32) (S : zS) : Option ((Int32 × zS) ⊕ (zS ⊕ zS)) :=
  if 400 ≤ x2 then some (.inr (.inl S)) else zb1 (lp (fun a => fX6_readTestB_l11 T rc k0 x1 x2 a.1 a.2) (0, S)) fun e16 => zsm e16 (fun e16_0 => fX6_readTestB_b66 T rc k0 x1 x2 e16_0) (fun e16_1 => fX6_readTestB_b66 T rc k0 x1 x2 e16_1)
noncomputable def fX6_readTestB_b96 (T : zT) (rc : Nat → zT → Nat → Int32 → zS → Option (Unit × zS))  (S : zS) : Option (Unit × zS) :=
  some ((), S)
noncomputable def fX6_readTestB (T : zT) (rc : Nat → zT → Nat → Int32 → zS → Option (Unit × zS)) (k0 : Nat) (x1 : Int32) (S : zS) : Option (Unit × zS) :=
  zb1 (lp (fun a => fX6_readTestB_l2 T rc k0 x1 a.1 a.2) (0, S)) fun e29 => zsm e29 (fun e29_0 => some ((), e29_0)) (fun e29_1 => fX6_readTestB_b96 T rc  e29_1)
set_option maxHeartbeats 4000000 in
set_option maxRecDepth 100000 in
theorem tX6_readTestB_b37 (T : zT) (rc : Nat → zT → Nat → Int32 → zS → Option (Unit × zS)) {dd : Nat} (hrc0 : ∀ (k : Nat) (x : Int32) (S : zS) (r : Unit × zS), iX6 T k → rc 0 T k x S = some r → zGM dd mX6_readFact [.ref k, .int x] T S none T r.2) (hrc1 : ∀ (k : Nat) (x : Int32) (S : zS) (r : Unit × zS), iX6 T k → rc 1 T k x S = some r → zGM dd mX6_readTest [.ref k, .int x] T S none T r.2) (k0 : Nat) (x1 : Int32) (x2 : Int32) (x3 : Int32) (S : zS) (h0 : iX6 T k0) {g : zG} {v : Option Value} {S' : zS} (r : ((Int32 × zS) ⊕ (zS ⊕ zS))) (h : fX6_readTestB_b37 T rc k0 x1 x2 x3 S = some r) (K1 : ∀ a : (Int32 × zS), r = .inl a → zg g (dd + 8) mX6_readTest T 11 [some (.ref k0), some (.int x1), some (.int x2), some (.int a.1)] [] T a.2 v T S') (K2_0 : ∀ e : zS, r = .inr (.inl e) → zg g (dd + 8) mX6_readTest T 66 [some (.ref k0), some (.int x1), some (.int x2), none] [] T e v T S') (K2_1 : ∀ e : zS, r = .inr (.inr e) → zg g (dd + 8) mX6_readTest T 53 [some (.ref k0), some (.int x1), some (.int x2), none] [] T e v T S') : zg g (dd + 8) mX6_readTest T 37 [some (.ref k0), some (.int x1), some (.int x2), some (.int x3)] [] T S v T S' := by
  unfold fX6_readTestB_b37 at h
  refine z_aload_n dX6_readTest_37 rfl ?_
  refine z_gI (zF.x zfX6_29) h0.1 dX6_readTest_38 ?_
  refine z_if_ne (tgt := 66) dX6_readTest_41 (by decide) (fun q7 => ?_) (fun q7 => ?_)
  · rw [if_neg q7] at h
    cases h
    exact z_mask [true, true, true, false] rfl (K2_0 _ rfl)
  · rw [if_pos q7] at h
    refine z_aload_n dX6_readTest_44 rfl ?_
    refine z_gI (zF.x zfX6_46) h0.1 dX6_readTest_45 ?_
    refine z_bipush dX6_readTest_48 cB_17 ?_
    refine z_icmp_eq (tgt := 56) dX6_readTest_50 (by decide) (fun q8 => ?_) (fun q8 => ?_)
    · rw [if_pos q8] at h
      refine z_aload_n dX6_readTest_56 rfl ?_
      obtain ⟨r9, S11, hc10, h⟩ := zb_elim h
      refine z_callV (As := []) zcX6 zkX6_26 ziX6_next zqX6_next h0.1 (tX6_next T k0 S (iX6_n h0) (r9, S11) hc10) rfl rfl (Nat.le_of_ble_eq_true rfl) (by omega) ⟨Nat.le_refl _, Nat.le_refl _⟩ ⟨Nat.le_refl _, Nat.le_refl _⟩ dX6_readTest_57 ?_
      obtain ⟨u12, eu12, h⟩ := zlet_elim h
      refine z_iinc (r := u12) dX6_readTest_60 rfl (by rw [eu12, cI_1]) rfl (by decide) rfl ?_
      refine z_goto (tgt := 11) dX6_readTest_63 (by decide) ?_
      cases h
      exact z_mask [true, true, true, true] rfl (K1 _ rfl)
    · rw [if_neg q8] at h
      cases h
      exact z_mask [true, true, true, false] rfl (K2_1 _ rfl)
set_option maxHeartbeats 4000000 in
set_option maxRecDepth 100000 in
theorem tX6_readTestB_l11b (T : zT) (rc : Nat → zT → Nat → Int32 → zS → Option (Unit × zS)) {dd : Nat} (hrc0 : ∀ (k : Nat) (x : Int32) (S : zS) (r : Unit × zS), iX6 T k → rc 0 T k x S = some r → zGM dd mX6_readFact [.ref k, .int x] T S none T r.2) (hrc1 : ∀ (k : Nat) (x : Int32) (S : zS) (r : Unit × zS), iX6 T k → rc 1 T k x S = some r → zGM dd mX6_readTest [.ref k, .int x] T S none T r.2) (k0 : Nat) (x1 : Int32) (x2 : Int32) (x3 : Int32) (S : zS) (h0 : iX6 T k0) {g : zG} {v : Option Value} {S' : zS} (r : (Int32 × zS) ⊕ (zS ⊕ zS)) (h : fX6_readTestB_l11 T rc k0 x1 x2 x3 S = some r) (K1 : ∀ a : (Int32 × zS), r = .inl a → zg g (dd + 8) mX6_readTest T 11 [some (.ref k0), some (.int x1), some (.int x2), some (.int a.1)] [] T a.2 v T S') (K2_0 : ∀ e : zS, r = .inr (.inl e) → zg g (dd + 8) mX6_readTest T 66 [some (.ref k0), some (.int x1), some (.int x2), none] [] T e v T S') (K2_1 : ∀ e : zS, r = .inr (.inr e) → zg g (dd + 8) mX6_readTest T 53 [some (.ref k0), some (.int x1), some (.int x2), none] [] T e v T S') : zg g (dd + 8) mX6_readTest T 11 [some (.ref k0), some (.int x1), some (.int x2), some (.int x3)] [] T S v T S' := by
  unfold fX6_readTestB_l11 at h
  refine z_iload_n dX6_readTest_11 rfl ?_
  refine z_sipush dX6_readTest_12 cS_400 ?_
  refine z_icmp_ge (tgt := 66) dX6_readTest_15 (by decide) (fun q2 => ?_) (fun q2 => ?_)
  · rw [if_pos q2] at h
    cases h
    exact z_mask [true, true, true, false] rfl (K2_0 _ rfl)
  · rw [if_neg q2] at h
    refine z_aload_n dX6_readTest_18 rfl ?_
    refine z_iload_n dX6_readTest_19 rfl ?_
    obtain ⟨r3, S5, hc4, h⟩ := zb_elim h
    refine z_callV (As := [.int x1]) zcX6 zkX6_197 ziX6_readFact zqX6_readFact h0.1 (hrc0 k0 x1 S (r3, S5) h0 hc4) rfl rfl (Nat.le_of_ble_eq_true rfl) (by omega) ⟨Nat.le_refl _, Nat.le_refl _⟩ ⟨Nat.le_refl _, Nat.le_refl _⟩ dX6_readTest_20 ?_
    refine z_iload_n dX6_readTest_23 rfl ?_
    refine z_if_le (tgt := 37) dX6_readTest_24 (by decide) (fun q6 => ?_) (fun q6 => ?_)
    · rw [if_pos q6] at h
      exact z_mask [true, true, true, true] rfl (tX6_readTestB_b37 T rc hrc0 hrc1 k0 x1 x2 x3 S5 h0 r h K1 K2_0 K2_1)
    · rw [if_neg q6] at h
      refine z_aload_n dX6_readTest_27 rfl ?_
      refine z_gR (zF.x zfX6_38) h0.1 dX6_readTest_28 ?_
      refine z_bipush dX6_readTest_31 cB_17 ?_
      refine z_iconst dX6_readTest_33 cI_0 ?_
      obtain ⟨r13, S15, hc14, h⟩ := zb_elim h
      refine z_callV (As := [.int 17, .int 0]) zcX2 zkX6_190 ziX2_add zqX2_add h0.2.2.1 (tX2_add T (zr T k0 9) 17 0 S5 h0.2.2 (r13, S15) hc14) rfl rfl (Nat.le_of_ble_eq_true rfl) (by omega) ⟨Nat.le_refl _, Nat.le_refl _⟩ ⟨Nat.le_refl _, Nat.le_refl _⟩ dX6_readTest_34 ?_
      exact z_mask [true, true, true, true] rfl (tX6_readTestB_b37 T rc hrc0 hrc1 k0 x1 x2 x3 S15 h0 r h K1 K2_0 K2_1)
set_option maxHeartbeats 4000000 in
set_option maxRecDepth 100000 in
theorem tX6_readTestB_l11 (T : zT) (rc : Nat → zT → Nat → Int32 → zS → Option (Unit × zS)) {dd : Nat} (hrc0 : ∀ (k : Nat) (x : Int32) (S : zS) (r : Unit × zS), iX6 T k → rc 0 T k x S = some r → zGM dd mX6_readFact [.ref k, .int x] T S none T r.2) (hrc1 : ∀ (k : Nat) (x : Int32) (S : zS) (r : Unit × zS), iX6 T k → rc 1 T k x S = some r → zGM dd mX6_readTest [.ref k, .int x] T S none T r.2) (k0 : Nat) (x1 : Int32) (x2 : Int32) (h0 : iX6 T k0) {g : zG} {v : Option Value} {S' : zS} : ∀ (n : Nat) (a : (Int32 × zS)) (e : (zS ⊕ zS)), lpn (fun a => fX6_readTestB_l11 T rc k0 x1 x2 a.1 a.2) n a = some e → (∀ e1 : zS, e = (.inl e1) → zg g (dd + 8) mX6_readTest T 66 [some (.ref k0), some (.int x1), some (.int x2), none] [] T e1 v T S') → (∀ e1 : zS, e = (.inr e1) → zg g (dd + 8) mX6_readTest T 53 [some (.ref k0), some (.int x1), some (.int x2), none] [] T e1 v T S') → zg g (dd + 8) mX6_readTest T 11 [some (.ref k0), some (.int x1), some (.int x2), some (.int a.1)] [] T a.2 v T S' := by
  intro n
  induction n with
  | zero =>
    intro a e h
    cases h
  | succ n ih =>
    intro a e h k0_ k1_
    rcases lpn_succ h with ⟨a1, ha_, hb_⟩ | ha_
    · exact tX6_readTestB_l11b T rc hrc0 hrc1 k0 x1 x2 a.1 a.2 h0 _ ha_ (fun a2 q => by cases q; exact ih a1 e hb_ k0_ k1_) (fun e1 q => by cases q) (fun e1 q => by cases q)
    · exact tX6_readTestB_l11b T rc hrc0 hrc1 k0 x1 x2 a.1 a.2 h0 _ ha_ (fun a2 q => by cases q) (fun e1 q => by cases q; exact k0_ _ rfl) (fun e1 q => by cases q; exact k1_ _ rfl)
set_option maxHeartbeats 4000000 in
set_option maxRecDepth 100000 in
theorem tX6_readTestB_b80 (T : zT) (rc : Nat → zT → Nat → Int32 → zS → Option (Unit × zS)) {dd : Nat} (hrc0 : ∀ (k : Nat) (x : Int32) (S : zS) (r : Unit × zS), iX6 T k → rc 0 T k x S = some r → zGM dd mX6_readFact [.ref k, .int x] T S none T r.2) (hrc1 : ∀ (k : Nat) (x : Int32) (S : zS) (r : Unit × zS), iX6 T k → rc 1 T k x S = some r → zGM dd mX6_readTest [.ref k, .int x] T S none T r.2) (k0 : Nat) (x1 : Int32) (x2 : Int32) (S : zS) (h0 : iX6 T k0) {g : zG} {v : Option Value} {S' : zS} (r : ((Int32 × zS) ⊕ (zS ⊕ zS))) (h : fX6_readTestB_b80 T rc k0 x1 x2 S = some r) (K1 : ∀ a : (Int32 × zS), r = .inl a → zg g (dd + 8) mX6_readTest T 2 [some (.ref k0), some (.int x1), some (.int a.1), none] [] T a.2 v T S') (K2_0 : ∀ e : zS, r = .inr (.inl e) → zg g (dd + 8) mX6_readTest T 107 [none, none, none, none] [] T e v T S') (K2_1 : ∀ e : zS, r = .inr (.inr e) → zg g (dd + 8) mX6_readTest T 96 [none, none, none, none] [] T e v T S') : zg g (dd + 8) mX6_readTest T 80 [some (.ref k0), some (.int x1), some (.int x2), none] [] T S v T S' := by
  unfold fX6_readTestB_b80 at h
  refine z_aload_n dX6_readTest_80 rfl ?_
  refine z_gI (zF.x zfX6_29) h0.1 dX6_readTest_81 ?_
  refine z_if_ne (tgt := 96) dX6_readTest_84 (by decide) (fun q18 => ?_) (fun q18 => ?_)
  · rw [if_neg q18] at h
    cases h
    exact z_mask [false, false, false, false] rfl (K2_1 _ rfl)
  · rw [if_pos q18] at h
    refine z_aload_n dX6_readTest_87 rfl ?_
    refine z_gI (zF.x zfX6_46) h0.1 dX6_readTest_88 ?_
    refine z_bipush dX6_readTest_91 cB_16 ?_
    refine z_icmp_eq (tgt := 97) dX6_readTest_93 (by decide) (fun q19 => ?_) (fun q19 => ?_)
    · rw [if_pos q19] at h
      refine z_aload_n dX6_readTest_97 rfl ?_
      obtain ⟨r20, S22, hc21, h⟩ := zb_elim h
      refine z_callV (As := []) zcX6 zkX6_26 ziX6_next zqX6_next h0.1 (tX6_next T k0 S (iX6_n h0) (r20, S22) hc21) rfl rfl (Nat.le_of_ble_eq_true rfl) (by omega) ⟨Nat.le_refl _, Nat.le_refl _⟩ ⟨Nat.le_refl _, Nat.le_refl _⟩ dX6_readTest_98 ?_
      obtain ⟨u23, eu23, h⟩ := zlet_elim h
      refine z_iinc (r := u23) dX6_readTest_101 rfl (by rw [eu23, cI_1]) rfl (by decide) rfl ?_
      refine z_goto (tgt := 2) dX6_readTest_104 (by decide) ?_
      cases h
      exact z_mask [true, true, true, false] rfl (K1 _ rfl)
    · rw [if_neg q19] at h
      cases h
      exact z_mask [false, false, false, false] rfl (K2_1 _ rfl)
set_option maxHeartbeats 4000000 in
set_option maxRecDepth 100000 in
theorem tX6_readTestB_b66 (T : zT) (rc : Nat → zT → Nat → Int32 → zS → Option (Unit × zS)) {dd : Nat} (hrc0 : ∀ (k : Nat) (x : Int32) (S : zS) (r : Unit × zS), iX6 T k → rc 0 T k x S = some r → zGM dd mX6_readFact [.ref k, .int x] T S none T r.2) (hrc1 : ∀ (k : Nat) (x : Int32) (S : zS) (r : Unit × zS), iX6 T k → rc 1 T k x S = some r → zGM dd mX6_readTest [.ref k, .int x] T S none T r.2) (k0 : Nat) (x1 : Int32) (x2 : Int32) (S : zS) (h0 : iX6 T k0) {g : zG} {v : Option Value} {S' : zS} (r : ((Int32 × zS) ⊕ (zS ⊕ zS))) (h : fX6_readTestB_b66 T rc k0 x1 x2 S = some r) (K1 : ∀ a : (Int32 × zS), r = .inl a → zg g (dd + 8) mX6_readTest T 2 [some (.ref k0), some (.int x1), some (.int a.1), none] [] T a.2 v T S') (K2_0 : ∀ e : zS, r = .inr (.inl e) → zg g (dd + 8) mX6_readTest T 107 [none, none, none, none] [] T e v T S') (K2_1 : ∀ e : zS, r = .inr (.inr e) → zg g (dd + 8) mX6_readTest T 96 [none, none, none, none] [] T e v T S') : zg g (dd + 8) mX6_readTest T 66 [some (.ref k0), some (.int x1), some (.int x2), none] [] T S v T S' := by
  unfold fX6_readTestB_b66 at h
  refine z_iload_n dX6_readTest_66 rfl ?_
  refine z_if_le (tgt := 80) dX6_readTest_67 (by decide) (fun q17 => ?_) (fun q17 => ?_)
  · rw [if_pos q17] at h
    exact z_mask [true, true, true, false] rfl (tX6_readTestB_b80 T rc hrc0 hrc1 k0 x1 x2 S h0 r h K1 K2_0 K2_1)
  · rw [if_neg q17] at h
    refine z_aload_n dX6_readTest_70 rfl ?_
    refine z_gR (zF.x zfX6_38) h0.1 dX6_readTest_71 ?_
    refine z_bipush dX6_readTest_74 cB_16 ?_
    refine z_iconst dX6_readTest_76 cI_0 ?_
    obtain ⟨r24, S26, hc25, h⟩ := zb_elim h
    refine z_callV (As := [.int 16, .int 0]) zcX2 zkX6_190 ziX2_add zqX2_add h0.2.2.1 (tX2_add T (zr T k0 9) 16 0 S h0.2.2 (r24, S26) hc25) rfl rfl (Nat.le_of_ble_eq_true rfl) (by omega) ⟨Nat.le_refl _, Nat.le_refl _⟩ ⟨Nat.le_refl _, Nat.le_refl _⟩ dX6_readTest_77 ?_
    exact z_mask [true, true, true, false] rfl (tX6_readTestB_b80 T rc hrc0 hrc1 k0 x1 x2 S26 h0 r h K1 K2_0 K2_1)
set_option maxHeartbeats 4000000 in
set_option maxRecDepth 100000 in
theorem tX6_readTestB_l2b (T : zT) (rc : Nat → zT → Nat → Int32 → zS → Option (Unit × zS)) {dd : Nat} (hrc0 : ∀ (k : Nat) (x : Int32) (S : zS) (r : Unit × zS), iX6 T k → rc 0 T k x S = some r → zGM dd mX6_readFact [.ref k, .int x] T S none T r.2) (hrc1 : ∀ (k : Nat) (x : Int32) (S : zS) (r : Unit × zS), iX6 T k → rc 1 T k x S = some r → zGM dd mX6_readTest [.ref k, .int x] T S none T r.2) (k0 : Nat) (x1 : Int32) (x2 : Int32) (S : zS) (h0 : iX6 T k0) {g : zG} {v : Option Value} {S' : zS} (r : (Int32 × zS) ⊕ (zS ⊕ zS)) (h : fX6_readTestB_l2 T rc k0 x1 x2 S = some r) (K1 : ∀ a : (Int32 × zS), r = .inl a → zg g (dd + 8) mX6_readTest T 2 [some (.ref k0), some (.int x1), some (.int a.1), none] [] T a.2 v T S') (K2_0 : ∀ e : zS, r = .inr (.inl e) → zg g (dd + 8) mX6_readTest T 107 [none, none, none, none] [] T e v T S') (K2_1 : ∀ e : zS, r = .inr (.inr e) → zg g (dd + 8) mX6_readTest T 96 [none, none, none, none] [] T e v T S') : zg g (dd + 8) mX6_readTest T 2 [some (.ref k0), some (.int x1), some (.int x2), none] [] T S v T S' := by
  unfold fX6_readTestB_l2 at h
  refine z_iload_n dX6_readTest_2 rfl ?_
  refine z_sipush dX6_readTest_3 cS_400 ?_
  refine z_icmp_ge (tgt := 107) dX6_readTest_6 (by decide) (fun q1 => ?_) (fun q1 => ?_)
  · rw [if_pos q1] at h
    cases h
    exact z_mask [false, false, false, false] rfl (K2_0 _ rfl)
  · rw [if_neg q1] at h
    refine z_iconst dX6_readTest_9 cI_0 ?_
    refine z_istore_n dX6_readTest_10 rfl (by decide) rfl ?_
    obtain ⟨e16, hl27, h⟩ := zb1_elim h
    obtain ⟨nf28, hl27⟩ := lp_some hl27
    refine z_mask [true, true, true, true] rfl (tX6_readTestB_l11 T rc hrc0 hrc1 k0 x1 x2 h0 nf28 (0, S) e16 hl27 (fun e16_0 q => ?_) (fun e16_1 q => ?_))
    · cases q
      replace h := zsm_l h
      exact z_mask [true, true, true, false] rfl (tX6_readTestB_b66 T rc hrc0 hrc1 k0 x1 x2 e16_0 h0 r h K1 K2_0 K2_1)
    · cases q
      replace h := zsm_r h
      refine z_goto (tgt := 66) dX6_readTest_53 (by decide) ?_
      exact z_mask [true, true, true, false] rfl (tX6_readTestB_b66 T rc hrc0 hrc1 k0 x1 x2 e16_1 h0 r h K1 K2_0 K2_1)
set_option maxHeartbeats 4000000 in
set_option maxRecDepth 100000 in
theorem tX6_readTestB_l2 (T : zT) (rc : Nat → zT → Nat → Int32 → zS → Option (Unit × zS)) {dd : Nat} (hrc0 : ∀ (k : Nat) (x : Int32) (S : zS) (r : Unit × zS), iX6 T k → rc 0 T k x S = some r → zGM dd mX6_readFact [.ref k, .int x] T S none T r.2) (hrc1 : ∀ (k : Nat) (x : Int32) (S : zS) (r : Unit × zS), iX6 T k → rc 1 T k x S = some r → zGM dd mX6_readTest [.ref k, .int x] T S none T r.2) (k0 : Nat) (x1 : Int32) (h0 : iX6 T k0) {g : zG} {v : Option Value} {S' : zS} : ∀ (n : Nat) (a : (Int32 × zS)) (e : (zS ⊕ zS)), lpn (fun a => fX6_readTestB_l2 T rc k0 x1 a.1 a.2) n a = some e → (∀ e1 : zS, e = (.inl e1) → zg g (dd + 8) mX6_readTest T 107 [none, none, none, none] [] T e1 v T S') → (∀ e1 : zS, e = (.inr e1) → zg g (dd + 8) mX6_readTest T 96 [none, none, none, none] [] T e1 v T S') → zg g (dd + 8) mX6_readTest T 2 [some (.ref k0), some (.int x1), some (.int a.1), none] [] T a.2 v T S' := by
  intro n
  induction n with
  | zero =>
    intro a e h
    cases h
  | succ n ih =>
    intro a e h k0_ k1_
    rcases lpn_succ h with ⟨a1, ha_, hb_⟩ | ha_
    · exact tX6_readTestB_l2b T rc hrc0 hrc1 k0 x1 a.1 a.2 h0 _ ha_ (fun a2 q => by cases q; exact ih a1 e hb_ k0_ k1_) (fun e1 q => by cases q) (fun e1 q => by cases q)
    · exact tX6_readTestB_l2b T rc hrc0 hrc1 k0 x1 a.1 a.2 h0 _ ha_ (fun a2 q => by cases q) (fun e1 q => by cases q; exact k0_ _ rfl) (fun e1 q => by cases q; exact k1_ _ rfl)
set_option maxHeartbeats 4000000 in
set_option maxRecDepth 100000 in
theorem tX6_readTestB_b96 (T : zT) (rc : Nat → zT → Nat → Int32 → zS → Option (Unit × zS)) {dd : Nat} (hrc0 : ∀ (k : Nat) (x : Int32) (S : zS) (r : Unit × zS), iX6 T k → rc 0 T k x S = some r → zGM dd mX6_readFact [.ref k, .int x] T S none T r.2) (hrc1 : ∀ (k : Nat) (x : Int32) (S : zS) (r : Unit × zS), iX6 T k → rc 1 T k x S = some r → zGM dd mX6_readTest [.ref k, .int x] T S none T r.2)  (S : zS)  {g : zG} (r : (Unit × zS)) (h : fX6_readTestB_b96 T rc  S = some r)  : zg g (dd + 8) mX6_readTest T 96 [none, none, none, none] [] T S none T r.2 := by
  unfold fX6_readTestB_b96 at h
  cases h
  exact z_vret rfl dX6_readTest_96
set_option maxHeartbeats 4000000 in
set_option maxRecDepth 100000 in
theorem tX6_readTestB (T : zT) (rc : Nat → zT → Nat → Int32 → zS → Option (Unit × zS)) {dd : Nat} (hrc0 : ∀ (k : Nat) (x : Int32) (S : zS) (r : Unit × zS), iX6 T k → rc 0 T k x S = some r → zGM dd mX6_readFact [.ref k, .int x] T S none T r.2) (hrc1 : ∀ (k : Nat) (x : Int32) (S : zS) (r : Unit × zS), iX6 T k → rc 1 T k x S = some r → zGM dd mX6_readTest [.ref k, .int x] T S none T r.2) (k0 : Nat) (x1 : Int32) (S : zS) (h0 : iX6 T k0) (r : Unit × zS) (h : fX6_readTestB T rc k0 x1 S = some r) : zGM (dd + 8) mX6_readTest [.ref k0, .int x1] T S none T r.2 := by
  refine zGM_of zpnX6 rfl (Nat.le_of_ble_eq_true rfl) (fun g => ?_)
  show zg g (dd + 8) mX6_readTest T 0 [some (.ref k0), some (.int x1), none, none] [] T S none T r.2
  unfold fX6_readTestB at h
  refine z_iconst dX6_readTest_0 cI_0 ?_
  refine z_istore_n dX6_readTest_1 rfl (by decide) rfl ?_
  obtain ⟨e29, hl30, h⟩ := zb1_elim h
  obtain ⟨nf31, hl30⟩ := lp_some hl30
  refine z_mask [true, true, true, false] rfl (tX6_readTestB_l2 T rc hrc0 hrc1 k0 x1 h0 nf31 (0, S) e29 hl30 (fun e29_0 q => ?_) (fun e29_1 q => ?_))
  · cases q
    replace h := zsm_l h
    cases h
    exact z_vret rfl dX6_readTest_107
  · cases q
    replace h := zsm_r h
    exact z_mask [false, false, false, false] rfl (tX6_readTestB_b96 T rc hrc0 hrc1  e29_1  r h)
/-! X6_readFact -/
noncomputable def fX6_readFactB_b104 (T : zT) (rc : Nat → zT → Nat → Int32 → zS → Option (Unit × zS))  (S : zS) : Option (Unit × zS) :=
  some ((), S)
noncomputable def fX6_readFactB_b51 (T : zT) (rc : Nat → zT → Nat → Int32 → zS → Option (Unit × zS)) (k0 : Nat) (x1 : Int32) (x2 : Int32) (S : zS) : Option (Unit × zS) :=
  if x1 < 10 then zb (fX6_next T k0 S) fun _ S6 => if x2 = 0 then zb (rc 1 T k0 (x1 + 1) S6) fun _ S10 => zb (fX6_expect T k0 35 S10) fun _ S13 => fX6_readFactB_b104 T rc  S13 else zb (rc 0 T k0 (x1 + 1) S6) fun _ S16 => zb (fX2_add T (zr T k0 9) 18 0 S16) fun _ S19 => fX6_readFactB_b104 T rc  S19 else zb (fX6_fail T k0 2 S) fun _ S22 => some ((), S22)
noncomputable def fX6_readFactB_b14 (T : zT) (rc : Nat → zT → Nat → Int32 → zS → Option (Unit × zS)) (k0 : Nat) (x1 : Int32) (s0 : Int32) (S : zS) : Option (Unit × zS) :=
  if s0 = 0 then if (S.1 k0 2) = 34 then fX6_readFactB_b51 T rc k0 x1 s0 S else zb (fX6_readSum T k0 S) fun _ S26 => zb (fX6_readSign T k0 S26) fun r27 S29 => zb (fX6_readSum T k0 S29) fun _ S32 => zb (fX2_add T (zr T k0 9) r27 0 S32) fun _ S35 => some ((), S35) else fX6_readFactB_b51 T rc k0 x1 s0 S
noncomputable def fX6_readFactB (T : zT) (rc : Nat → zT → Nat → Int32 → zS → Option (Unit × zS)) (k0 : Nat) (x1 : Int32) (S : zS) : Option (Unit × zS) :=
  if (S.1 k0 2) = 18 then fX6_readFactB_b14 T rc k0 x1 1 S else fX6_readFactB_b14 T rc k0 x1 0 S
set_option maxHeartbeats 4000000 in
set_option maxRecDepth 100000 in
theorem tX6_readFactB_b104 (T : zT) (rc : Nat → zT → Nat → Int32 → zS → Option (Unit × zS)) {dd : Nat} (hrc0 : ∀ (k : Nat) (x : Int32) (S : zS) (r : Unit × zS), iX6 T k → rc 0 T k x S = some r → zGM dd mX6_readFact [.ref k, .int x] T S none T r.2) (hrc1 : ∀ (k : Nat) (x : Int32) (S : zS) (r : Unit × zS), iX6 T k → rc 1 T k x S = some r → zGM dd mX6_readTest [.ref k, .int x] T S none T r.2)  (S : zS)  {g : zG} (r : (Unit × zS)) (h : fX6_readFactB_b104 T rc  S = some r)  : zg g (dd + 8) mX6_readFact T 104 [none, none, none, none] [] T S none T r.2 := by
  unfold fX6_readFactB_b104 at h
  cases h
  exact z_vret rfl dX6_readFact_104
set_option maxHeartbeats 4000000 in
set_option maxRecDepth 100000 in
theorem tX6_readFactB_b51 (T : zT) (rc : Nat → zT → Nat → Int32 → zS → Option (Unit × zS)) {dd : Nat} (hrc0 : ∀ (k : Nat) (x : Int32) (S : zS) (r : Unit × zS), iX6 T k → rc 0 T k x S = some r → zGM dd mX6_readFact [.ref k, .int x] T S none T r.2) (hrc1 : ∀ (k : Nat) (x : Int32) (S : zS) (r : Unit × zS), iX6 T k → rc 1 T k x S = some r → zGM dd mX6_readTest [.ref k, .int x] T S none T r.2) (k0 : Nat) (x1 : Int32) (x2 : Int32) (S : zS) (h0 : iX6 T k0) {g : zG} (r : (Unit × zS)) (h : fX6_readFactB_b51 T rc k0 x1 x2 S = some r)  : zg g (dd + 8) mX6_readFact T 51 [some (.ref k0), some (.int x1), some (.int x2), none] [] T S none T r.2 := by
  unfold fX6_readFactB_b51 at h
  refine z_iload_n dX6_readFact_51 rfl ?_
  refine z_bipush dX6_readFact_52 cB_10 ?_
  refine z_icmp_lt (tgt := 63) dX6_readFact_54 (by decide) (fun q3 => ?_) (fun q3 => ?_)
  · rw [if_pos q3] at h
    refine z_aload_n dX6_readFact_63 rfl ?_
    obtain ⟨r4, S6, hc5, h⟩ := zb_elim h
    refine z_callV (As := []) zcX6 zkX6_26 ziX6_next zqX6_next h0.1 (tX6_next T k0 S (iX6_n h0) (r4, S6) hc5) rfl rfl (Nat.le_of_ble_eq_true rfl) (by omega) ⟨Nat.le_refl _, Nat.le_refl _⟩ ⟨Nat.le_refl _, Nat.le_refl _⟩ dX6_readFact_64 ?_
    refine z_iload_n dX6_readFact_67 rfl ?_
    refine z_if_eq (tgt := 91) dX6_readFact_68 (by decide) (fun q7 => ?_) (fun q7 => ?_)
    · rw [if_pos q7] at h
      refine z_aload_n dX6_readFact_91 rfl ?_
      refine z_iload_n dX6_readFact_92 rfl ?_
      refine z_iconst dX6_readFact_93 cI_1 ?_
      refine z_iadd dX6_readFact_94 rfl ?_
      obtain ⟨r8, S10, hc9, h⟩ := zb_elim h
      refine z_callV (As := [.int (x1 + 1)]) zcX6 zkX6_194 ziX6_readTest zqX6_readTest h0.1 (hrc1 k0 (x1 + 1) S6 (r8, S10) h0 hc9) rfl rfl (Nat.le_of_ble_eq_true rfl) (by omega) ⟨Nat.le_refl _, Nat.le_refl _⟩ ⟨Nat.le_refl _, Nat.le_refl _⟩ dX6_readFact_95 ?_
      refine z_aload_n dX6_readFact_98 rfl ?_
      refine z_bipush dX6_readFact_99 cB_35 ?_
      obtain ⟨r11, S13, hc12, h⟩ := zb_elim h
      refine z_callV (As := [.int 35]) zcX6 zkX6_130 ziX6_expect zqX6_expect h0.1 (tX6_expect T k0 35 S10 h0 (r11, S13) hc12) rfl rfl (Nat.le_of_ble_eq_true rfl) (by omega) ⟨Nat.le_refl _, Nat.le_refl _⟩ ⟨Nat.le_refl _, Nat.le_refl _⟩ dX6_readFact_101 ?_
      exact z_mask [false, false, false, false] rfl (tX6_readFactB_b104 T rc hrc0 hrc1  S13  r h)
    · rw [if_neg q7] at h
      refine z_aload_n dX6_readFact_71 rfl ?_
      refine z_iload_n dX6_readFact_72 rfl ?_
      refine z_iconst dX6_readFact_73 cI_1 ?_
      refine z_iadd dX6_readFact_74 rfl ?_
      obtain ⟨r14, S16, hc15, h⟩ := zb_elim h
      refine z_callV (As := [.int (x1 + 1)]) zcX6 zkX6_197 ziX6_readFact zqX6_readFact h0.1 (hrc0 k0 (x1 + 1) S6 (r14, S16) h0 hc15) rfl rfl (Nat.le_of_ble_eq_true rfl) (by omega) ⟨Nat.le_refl _, Nat.le_refl _⟩ ⟨Nat.le_refl _, Nat.le_refl _⟩ dX6_readFact_75 ?_
      refine z_aload_n dX6_readFact_78 rfl ?_
      refine z_gR (zF.x zfX6_38) h0.1 dX6_readFact_79 ?_
      refine z_bipush dX6_readFact_82 cB_18 ?_
      refine z_iconst dX6_readFact_84 cI_0 ?_
      obtain ⟨r17, S19, hc18, h⟩ := zb_elim h
      refine z_callV (As := [.int 18, .int 0]) zcX2 zkX6_190 ziX2_add zqX2_add h0.2.2.1 (tX2_add T (zr T k0 9) 18 0 S16 h0.2.2 (r17, S19) hc18) rfl rfl (Nat.le_of_ble_eq_true rfl) (by omega) ⟨Nat.le_refl _, Nat.le_refl _⟩ ⟨Nat.le_refl _, Nat.le_refl _⟩ dX6_readFact_85 ?_
      refine z_goto (tgt := 104) dX6_readFact_88 (by decide) ?_
      exact z_mask [false, false, false, false] rfl (tX6_readFactB_b104 T rc hrc0 hrc1  S19  r h)
  · rw [if_neg q3] at h
    refine z_aload_n dX6_readFact_57 rfl ?_
    refine z_iconst dX6_readFact_58 cI_2 ?_
    obtain ⟨r20, S22, hc21, h⟩ := zb_elim h
    refine z_callV (As := [.int 2]) zcX6 zkX6_123 ziX6_fail zqX6_fail h0.1 (tX6_fail T k0 2 S h0 (r20, S22) hc21) rfl rfl (Nat.le_of_ble_eq_true rfl) (by omega) ⟨Nat.le_refl _, Nat.le_refl _⟩ ⟨Nat.le_refl _, Nat.le_refl _⟩ dX6_readFact_59 ?_
    cases h
    exact z_vret rfl dX6_readFact_62
set_option maxHeartbeats 4000000 in
set_option maxRecDepth 100000 in
theorem tX6_readFactB_b14 (T : zT) (rc : Nat → zT → Nat → Int32 → zS → Option (Unit × zS)) {dd : Nat} (hrc0 : ∀ (k : Nat) (x : Int32) (S : zS) (r : Unit × zS), iX6 T k → rc 0 T k x S = some r → zGM dd mX6_readFact [.ref k, .int x] T S none T r.2) (hrc1 : ∀ (k : Nat) (x : Int32) (S : zS) (r : Unit × zS), iX6 T k → rc 1 T k x S = some r → zGM dd mX6_readTest [.ref k, .int x] T S none T r.2) (k0 : Nat) (x1 : Int32) (s0 : Int32) (S : zS) (h0 : iX6 T k0) {g : zG} (r : (Unit × zS)) (h : fX6_readFactB_b14 T rc k0 x1 s0 S = some r)  : zg g (dd + 8) mX6_readFact T 14 [some (.ref k0), some (.int x1), none, none] [.int s0] T S none T r.2 := by
  unfold fX6_readFactB_b14 at h
  refine z_istore_n dX6_readFact_14 rfl (by decide) rfl ?_
  refine z_iload_n dX6_readFact_15 rfl ?_
  refine z_if_ne (tgt := 51) dX6_readFact_16 (by decide) (fun q2 => ?_) (fun q2 => ?_)
  · rw [if_neg q2] at h
    exact z_mask [true, true, true, false] rfl (tX6_readFactB_b51 T rc hrc0 hrc1 k0 x1 s0 S h0 r h)
  · rw [if_pos q2] at h
    refine z_aload_n dX6_readFact_19 rfl ?_
    refine z_gI (zF.x zfX6_46) h0.1 dX6_readFact_20 ?_
    refine z_bipush dX6_readFact_23 cB_34 ?_
    refine z_icmp_eq (tgt := 51) dX6_readFact_25 (by decide) (fun q23 => ?_) (fun q23 => ?_)
    · rw [if_pos q23] at h
      exact z_mask [true, true, true, false] rfl (tX6_readFactB_b51 T rc hrc0 hrc1 k0 x1 s0 S h0 r h)
    · rw [if_neg q23] at h
      refine z_aload_n dX6_readFact_28 rfl ?_
      obtain ⟨r24, S26, hc25, h⟩ := zb_elim h
      refine z_callV (As := []) zcX6 zkX6_187 ziX6_readSum zqX6_readSum h0.1 (tX6_readSum T k0 S h0 (r24, S26) hc25) rfl rfl (Nat.le_of_ble_eq_true rfl) (by omega) ⟨Nat.le_refl _, Nat.le_refl _⟩ ⟨Nat.le_refl _, Nat.le_refl _⟩ dX6_readFact_29 ?_
      refine z_aload_n dX6_readFact_32 rfl ?_
      obtain ⟨r27, S29, hc28, h⟩ := zb_elim h
      refine z_callV (As := []) zcX6 zkX6_200 ziX6_readSign zqX6_readSign h0.1 (tX6_readSign T k0 S26 h0 (r27, S29) hc28) rfl rfl (Nat.le_of_ble_eq_true rfl) (by omega) ⟨Nat.le_refl _, Nat.le_refl _⟩ ⟨Nat.le_refl _, Nat.le_refl _⟩ dX6_readFact_33 ?_
      refine z_istore_n dX6_readFact_36 rfl (by decide) rfl ?_
      refine z_aload_n dX6_readFact_37 rfl ?_
      obtain ⟨r30, S32, hc31, h⟩ := zb_elim h
      refine z_callV (As := []) zcX6 zkX6_187 ziX6_readSum zqX6_readSum h0.1 (tX6_readSum T k0 S29 h0 (r30, S32) hc31) rfl rfl (Nat.le_of_ble_eq_true rfl) (by omega) ⟨Nat.le_refl _, Nat.le_refl _⟩ ⟨Nat.le_refl _, Nat.le_refl _⟩ dX6_readFact_38 ?_
      refine z_aload_n dX6_readFact_41 rfl ?_
      refine z_gR (zF.x zfX6_38) h0.1 dX6_readFact_42 ?_
      refine z_iload_n dX6_readFact_45 rfl ?_
      refine z_iconst dX6_readFact_46 cI_0 ?_
      obtain ⟨r33, S35, hc34, h⟩ := zb_elim h
      refine z_callV (As := [.int r27, .int 0]) zcX2 zkX6_190 ziX2_add zqX2_add h0.2.2.1 (tX2_add T (zr T k0 9) r27 0 S32 h0.2.2 (r33, S35) hc34) rfl rfl (Nat.le_of_ble_eq_true rfl) (by omega) ⟨Nat.le_refl _, Nat.le_refl _⟩ ⟨Nat.le_refl _, Nat.le_refl _⟩ dX6_readFact_47 ?_
      cases h
      exact z_vret rfl dX6_readFact_50
set_option maxHeartbeats 4000000 in
set_option maxRecDepth 100000 in
theorem tX6_readFactB (T : zT) (rc : Nat → zT → Nat → Int32 → zS → Option (Unit × zS)) {dd : Nat} (hrc0 : ∀ (k : Nat) (x : Int32) (S : zS) (r : Unit × zS), iX6 T k → rc 0 T k x S = some r → zGM dd mX6_readFact [.ref k, .int x] T S none T r.2) (hrc1 : ∀ (k : Nat) (x : Int32) (S : zS) (r : Unit × zS), iX6 T k → rc 1 T k x S = some r → zGM dd mX6_readTest [.ref k, .int x] T S none T r.2) (k0 : Nat) (x1 : Int32) (S : zS) (h0 : iX6 T k0) (r : Unit × zS) (h : fX6_readFactB T rc k0 x1 S = some r) : zGM (dd + 8) mX6_readFact [.ref k0, .int x1] T S none T r.2 := by
  refine zGM_of zpnX6 rfl (Nat.le_of_ble_eq_true rfl) (fun g => ?_)
  show zg g (dd + 8) mX6_readFact T 0 [some (.ref k0), some (.int x1), none, none] [] T S none T r.2
  unfold fX6_readFactB at h
  refine z_aload_n dX6_readFact_0 rfl ?_
  refine z_gI (zF.x zfX6_46) h0.1 dX6_readFact_1 ?_
  refine z_bipush dX6_readFact_4 cB_18 ?_
  refine z_icmp_ne (tgt := 13) dX6_readFact_6 (by decide) (fun q1 => ?_) (fun q1 => ?_)
  · rw [if_neg q1] at h
    refine z_iconst dX6_readFact_13 cI_0 ?_
    exact z_mask [true, true, false, false] rfl (tX6_readFactB_b14 T rc hrc0 hrc1 k0 x1 0 S h0 r h)
  · rw [if_pos q1] at h
    refine z_iconst dX6_readFact_9 cI_1 ?_
    refine z_goto (tgt := 14) dX6_readFact_10 (by decide) ?_
    exact z_mask [true, true, false, false] rfl (tX6_readFactB_b14 T rc hrc0 hrc1 k0 x1 1 S h0 r h)
noncomputable def fX6_rec : Nat → Nat → zT → Nat → Int32 → zS → Option (Unit × zS)
  | 0, _, _, _, _, _ => none
  | n + 1, w, T, k, x, S => if w = 0 then fX6_readFactB T (fX6_rec n) k x S else fX6_readTestB T (fX6_rec n) k x S
theorem tX6_rec (T : zT) : ∀ n : Nat, (∀ (k : Nat) (x : Int32) (S : zS) (r : Unit × zS), iX6 T k → fX6_rec n 0 T k x S = some r → zGM (8 * n) mX6_readFact [.ref k, .int x] T S none T r.2) ∧ (∀ (k : Nat) (x : Int32) (S : zS) (r : Unit × zS), iX6 T k → fX6_rec n 1 T k x S = some r → zGM (8 * n) mX6_readTest [.ref k, .int x] T S none T r.2) := by
  intro n
  induction n with
  | zero => exact ⟨fun k x S r hk h => (by cases h), fun k x S r hk h => (by cases h)⟩
  | succ n ih =>
    refine ⟨fun k x S r hk h => ?_, fun k x S r hk h => ?_⟩
    · exact tX6_readFactB T (fX6_rec n) ih.1 ih.2 k x S hk r h
    · exact tX6_readTestB T (fX6_rec n) ih.1 ih.2 k x S hk r h
noncomputable def fX6_readFact (T : zT) (k0 : Nat) (x1 : Int32) (S : zS) : Option (Unit × zS) := fX6_rec 40 0 T k0 x1 S
noncomputable def fX6_readTest (T : zT) (k0 : Nat) (x1 : Int32) (S : zS) : Option (Unit × zS) := fX6_rec 40 1 T k0 x1 S
theorem tX6_readFact (T : zT) (k0 : Nat) (x1 : Int32) (S : zS) (h0 : iX6 T k0) (r : Unit × zS) (h : fX6_readFact T k0 x1 S = some r) : zGM 320 mX6_readFact [.ref k0, .int x1] T S none T r.2 := (tX6_rec T 40).1 k0 x1 S r h0 h
theorem tX6_readTest (T : zT) (k0 : Nat) (x1 : Int32) (S : zS) (h0 : iX6 T k0) (r : Unit × zS) (h : fX6_readTest T k0 x1 S = some r) : zGM 320 mX6_readTest [.ref k0, .int x1] T S none T r.2 := (tX6_rec T 40).2 k0 x1 S r h0 h
/-! X6_readIf -/
noncomputable def fX6_readIf_b15 (T : zT)  (S : zS) : Option (Int32 × zS) :=
  some ((-1), S)
noncomputable def fX6_readIf (T : zT) (k0 : Nat) (S : zS) : Option (Int32 × zS) :=
  if (S.1 k0 5) = 0 then if (S.1 k0 2) = 3 then zb (fX6_next T k0 S) fun _ S5 => zlet (S5.1 (zr T k0 9) 1) fun u6 => zb (fX6_readTest T k0 0 S5) fun _ S9 => zb (fX2_add T (zr T k0 9) 48 0 S9) fun _ S12 => some (u6, S12) else fX6_readIf_b15 T  S else fX6_readIf_b15 T  S
set_option maxHeartbeats 4000000 in
set_option maxRecDepth 100000 in
theorem tX6_readIf_b15 (T : zT)  (S : zS)  {g : zG} (r : (Int32 × zS)) (h : fX6_readIf_b15 T  S = some r)  : zg g 321 mX6_readIf T 15 [none, none] [] T S (some (.int r.1)) T r.2 := by
  unfold fX6_readIf_b15 at h
  refine z_iconst dX6_readIf_15 cI_m1 ?_
  cases h
  exact z_iret rfl dX6_readIf_16
set_option maxHeartbeats 4000000 in
set_option maxRecDepth 100000 in
theorem tX6_readIf (T : zT) (k0 : Nat) (S : zS) (h0 : iX6 T k0) (r : Int32 × zS) (h : fX6_readIf T k0 S = some r) : zGM 321 mX6_readIf [.ref k0] T S (some (.int r.1)) T r.2 := by
  refine zGM_of zpnX6 rfl (Nat.le_of_ble_eq_true rfl) (fun g => ?_)
  show zg g 321 mX6_readIf T 0 [some (.ref k0), none] [] T S (some (.int r.1)) T r.2
  unfold fX6_readIf at h
  refine z_aload_n dX6_readIf_0 rfl ?_
  refine z_gI (zF.x zfX6_29) h0.1 dX6_readIf_1 ?_
  refine z_if_ne (tgt := 15) dX6_readIf_4 (by decide) (fun q1 => ?_) (fun q1 => ?_)
  · rw [if_neg q1] at h
    exact z_mask [false, false] rfl (tX6_readIf_b15 T  S  r h)
  · rw [if_pos q1] at h
    refine z_aload_n dX6_readIf_7 rfl ?_
    refine z_gI (zF.x zfX6_46) h0.1 dX6_readIf_8 ?_
    refine z_iconst dX6_readIf_11 cI_3 ?_
    refine z_icmp_eq (tgt := 17) dX6_readIf_12 (by decide) (fun q2 => ?_) (fun q2 => ?_)
    · rw [if_pos q2] at h
      refine z_aload_n dX6_readIf_17 rfl ?_
      obtain ⟨r3, S5, hc4, h⟩ := zb_elim h
      refine z_callV (As := []) zcX6 zkX6_26 ziX6_next zqX6_next h0.1 (tX6_next T k0 S (iX6_n h0) (r3, S5) hc4) rfl rfl (Nat.le_of_ble_eq_true rfl) (by decide) ⟨Nat.le_refl _, Nat.le_refl _⟩ ⟨Nat.le_refl _, Nat.le_refl _⟩ dX6_readIf_18 ?_
      refine z_aload_n dX6_readIf_21 rfl ?_
      refine z_gR (zF.x zfX6_38) h0.1 dX6_readIf_22 ?_
      refine z_gI (zF.x zfX6_182) h0.2.2.1 dX6_readIf_25 ?_
      obtain ⟨u6, eu6, h⟩ := zlet_elim h
      refine z_ti eu6 ?_
      refine z_istore_n dX6_readIf_28 rfl (by decide) rfl ?_
      refine z_aload_n dX6_readIf_29 rfl ?_
      refine z_iconst dX6_readIf_30 cI_0 ?_
      obtain ⟨r7, S9, hc8, h⟩ := zb_elim h
      refine z_callV (As := [.int 0]) zcX6 zkX6_194 ziX6_readTest zqX6_readTest h0.1 (tX6_readTest T k0 0 S5 h0 (r7, S9) hc8) rfl rfl (Nat.le_of_ble_eq_true rfl) (by decide) ⟨Nat.le_refl _, Nat.le_refl _⟩ ⟨Nat.le_refl _, Nat.le_refl _⟩ dX6_readIf_31 ?_
      refine z_aload_n dX6_readIf_34 rfl ?_
      refine z_gR (zF.x zfX6_38) h0.1 dX6_readIf_35 ?_
      refine z_bipush dX6_readIf_38 cB_48 ?_
      refine z_iconst dX6_readIf_40 cI_0 ?_
      obtain ⟨r10, S12, hc11, h⟩ := zb_elim h
      refine z_callV (As := [.int 48, .int 0]) zcX2 zkX6_190 ziX2_add zqX2_add h0.2.2.1 (tX2_add T (zr T k0 9) 48 0 S9 h0.2.2 (r10, S12) hc11) rfl rfl (Nat.le_of_ble_eq_true rfl) (by decide) ⟨Nat.le_refl _, Nat.le_refl _⟩ ⟨Nat.le_refl _, Nat.le_refl _⟩ dX6_readIf_41 ?_
      refine z_iload_n dX6_readIf_44 rfl ?_
      cases h
      exact z_iret rfl dX6_readIf_45
    · rw [if_neg q2] at h
      exact z_mask [false, false] rfl (tX6_readIf_b15 T  S  r h)
/-! X6_readSet -/
noncomputable def fX6_readSet_l4 (T : zT) (k0 : Nat) (k1 : Nat) (x2 : Int32) (x3 : Int32) (S : zS) : Option ((Int32 × Int32 × zS) ⊕ ((Int32 × zS) ⊕ zS)) :=
  if 400 ≤ x3 then some (.inr (.inl (x2, S))) else if (S.1 k0 5) = 0 then if (S.1 k0 2) = 30 then zlet (S.1 k0 3) fun u4 => zb1 (fX0_has T k1 u4 S) fun r5 => if r5 = 0 then some (.inr (.inr S)) else if ((x2 >>> (u4 &&& 31)) &&& 1) = 0 then zlet (x2 ||| (1 <<< (u4 &&& 31))) fun u9 => zb (fX6_next T k0 S) fun _ S12 => zlet (x3 + 1) fun u13 => some (.inl (u9, u13, S12)) else some (.inr (.inr S)) else some (.inr (.inl (x2, S))) else some (.inr (.inl (x2, S)))
noncomputable def fX6_readSet_b74 (T : zT) (k0 : Nat) (k1 : Nat) (x2 : Int32) (S : zS) : Option (Unit × zS) :=
  if x2 = 0 then zb (fX6_fail T k0 0 S) fun _ S30 => some ((), S30) else zb (fX6_expect T k0 2 S) fun _ S18 => zb (fX6_number T k0 0 9999 S18) fun r19 S21 => zb (fX6_readIf T k0 S21) fun r22 S24 => zb (fX1_add T (zr T k1 12) x2 r19 r22 S24) fun _ S27 => some ((), S27)
noncomputable def fX6_readSet_b51 (T : zT) (k0 : Nat) (S : zS) : Option (Unit × zS) :=
  zb (fX6_fail T k0 5 S) fun _ S33 => some ((), S33)
noncomputable def fX6_readSet (T : zT) (k0 : Nat) (k1 : Nat) (S : zS) : Option (Unit × zS) :=
  zb1 (lp (fun a => fX6_readSet_l4 T k0 k1 a.1 a.2.1 a.2.2) (0, 0, S)) fun e14 => zsm e14 (fun e14_0 => fX6_readSet_b74 T k0 k1 e14_0.1 e14_0.2) (fun e14_1 => fX6_readSet_b51 T k0 e14_1)
set_option maxHeartbeats 4000000 in
set_option maxRecDepth 100000 in
theorem tX6_readSet_l4b (T : zT) (k0 : Nat) (k1 : Nat) (x2 : Int32) (x3 : Int32) (S : zS) (h0 : iX6 T k0) (h1 : iX0 T k1) {g : zG} {v : Option Value} {S' : zS} (r : (Int32 × Int32 × zS) ⊕ ((Int32 × zS) ⊕ zS)) (h : fX6_readSet_l4 T k0 k1 x2 x3 S = some r) (K1 : ∀ a : (Int32 × Int32 × zS), r = .inl a → zg g 322 mX6_readSet T 4 [some (.ref k0), some (.ref k1), some (.int a.1), some (.int a.2.1), none] [] T a.2.2 v T S') (K2_0 : ∀ e : (Int32 × zS), r = .inr (.inl e) → zg g 322 mX6_readSet T 74 [some (.ref k0), some (.ref k1), some (.int e.1), none, none] [] T e.2 v T S') (K2_1 : ∀ e : zS, r = .inr (.inr e) → zg g 322 mX6_readSet T 51 [some (.ref k0), none, none, none, none] [] T e v T S') : zg g 322 mX6_readSet T 4 [some (.ref k0), some (.ref k1), some (.int x2), some (.int x3), none] [] T S v T S' := by
  unfold fX6_readSet_l4 at h
  refine z_iload_n dX6_readSet_4 rfl ?_
  refine z_sipush dX6_readSet_5 cS_400 ?_
  refine z_icmp_ge (tgt := 74) dX6_readSet_8 (by decide) (fun q1 => ?_) (fun q1 => ?_)
  · rw [if_pos q1] at h
    cases h
    exact z_mask [true, true, true, false, false] rfl (K2_0 _ rfl)
  · rw [if_neg q1] at h
    refine z_aload_n dX6_readSet_11 rfl ?_
    refine z_gI (zF.x zfX6_29) h0.1 dX6_readSet_12 ?_
    refine z_if_ne (tgt := 74) dX6_readSet_15 (by decide) (fun q2 => ?_) (fun q2 => ?_)
    · rw [if_neg q2] at h
      cases h
      exact z_mask [true, true, true, false, false] rfl (K2_0 _ rfl)
    · rw [if_pos q2] at h
      refine z_aload_n dX6_readSet_18 rfl ?_
      refine z_gI (zF.x zfX6_46) h0.1 dX6_readSet_19 ?_
      refine z_bipush dX6_readSet_22 cB_30 ?_
      refine z_icmp_ne (tgt := 74) dX6_readSet_24 (by decide) (fun q3 => ?_) (fun q3 => ?_)
      · rw [if_neg q3] at h
        cases h
        exact z_mask [true, true, true, false, false] rfl (K2_0 _ rfl)
      · rw [if_pos q3] at h
        refine z_aload_n dX6_readSet_27 rfl ?_
        refine z_gI (zF.x zfX6_56) h0.1 dX6_readSet_28 ?_
        obtain ⟨u4, eu4, h⟩ := zlet_elim h
        refine z_ti eu4 ?_
        refine z_istore dX6_readSet_31 rfl (by decide) rfl ?_
        refine z_aload_n dX6_readSet_33 rfl ?_
        refine z_iload dX6_readSet_34 rfl ?_
        obtain ⟨r5, hc6, h⟩ := zb1_elim h
        refine z_callV (As := [.int u4]) zcX0 zkX6_133 ziX0_has zqX0_has h1.1 (tX0_has T k1 u4 S h1 r5 hc6) rfl rfl (Nat.le_of_ble_eq_true rfl) (by decide) ⟨Nat.le_refl _, Nat.le_refl _⟩ ⟨Nat.le_refl _, Nat.le_refl _⟩ dX6_readSet_36 ?_
        refine z_if_eq (tgt := 51) dX6_readSet_39 (by decide) (fun q7 => ?_) (fun q7 => ?_)
        · rw [if_pos q7] at h
          cases h
          exact z_mask [true, false, false, false, false] rfl (K2_1 _ rfl)
        · rw [if_neg q7] at h
          refine z_iload_n dX6_readSet_42 rfl ?_
          refine z_iload dX6_readSet_43 rfl ?_
          refine z_ishr dX6_readSet_45 rfl ?_
          refine z_iconst dX6_readSet_46 cI_1 ?_
          refine z_iand dX6_readSet_47 rfl ?_
          refine z_if_eq (tgt := 57) dX6_readSet_48 (by decide) (fun q8 => ?_) (fun q8 => ?_)
          · rw [if_pos q8] at h
            refine z_iload_n dX6_readSet_57 rfl ?_
            refine z_iconst dX6_readSet_58 cI_1 ?_
            refine z_iload dX6_readSet_59 rfl ?_
            refine z_ishl dX6_readSet_61 rfl ?_
            refine z_ior dX6_readSet_62 rfl ?_
            obtain ⟨u9, eu9, h⟩ := zlet_elim h
            refine z_ti eu9 ?_
            refine z_istore_n dX6_readSet_63 rfl (by decide) rfl ?_
            refine z_aload_n dX6_readSet_64 rfl ?_
            obtain ⟨r10, S12, hc11, h⟩ := zb_elim h
            refine z_callV (As := []) zcX6 zkX6_26 ziX6_next zqX6_next h0.1 (tX6_next T k0 S (iX6_n h0) (r10, S12) hc11) rfl rfl (Nat.le_of_ble_eq_true rfl) (by decide) ⟨Nat.le_refl _, Nat.le_refl _⟩ ⟨Nat.le_refl _, Nat.le_refl _⟩ dX6_readSet_65 ?_
            obtain ⟨u13, eu13, h⟩ := zlet_elim h
            refine z_iinc (r := u13) dX6_readSet_68 rfl (by rw [eu13, cI_1]) rfl (by decide) rfl ?_
            refine z_goto (tgt := 4) dX6_readSet_71 (by decide) ?_
            cases h
            exact z_mask [true, true, true, true, false] rfl (K1 _ rfl)
          · rw [if_neg q8] at h
            cases h
            exact z_mask [true, false, false, false, false] rfl (K2_1 _ rfl)
set_option maxHeartbeats 4000000 in
set_option maxRecDepth 100000 in
theorem tX6_readSet_l4 (T : zT) (k0 : Nat) (k1 : Nat) (h0 : iX6 T k0) (h1 : iX0 T k1) {g : zG} {v : Option Value} {S' : zS} : ∀ (n : Nat) (a : (Int32 × Int32 × zS)) (e : ((Int32 × zS) ⊕ zS)), lpn (fun a => fX6_readSet_l4 T k0 k1 a.1 a.2.1 a.2.2) n a = some e → (∀ e1 : (Int32 × zS), e = (.inl e1) → zg g 322 mX6_readSet T 74 [some (.ref k0), some (.ref k1), some (.int e1.1), none, none] [] T e1.2 v T S') → (∀ e1 : zS, e = (.inr e1) → zg g 322 mX6_readSet T 51 [some (.ref k0), none, none, none, none] [] T e1 v T S') → zg g 322 mX6_readSet T 4 [some (.ref k0), some (.ref k1), some (.int a.1), some (.int a.2.1), none] [] T a.2.2 v T S' := by
  intro n
  induction n with
  | zero =>
    intro a e h
    cases h
  | succ n ih =>
    intro a e h k0_ k1_
    rcases lpn_succ h with ⟨a1, ha_, hb_⟩ | ha_
    · exact tX6_readSet_l4b T k0 k1 a.1 a.2.1 a.2.2 h0 h1 _ ha_ (fun a2 q => by cases q; exact ih a1 e hb_ k0_ k1_) (fun e1 q => by cases q) (fun e1 q => by cases q)
    · exact tX6_readSet_l4b T k0 k1 a.1 a.2.1 a.2.2 h0 h1 _ ha_ (fun a2 q => by cases q) (fun e1 q => by cases q; exact k0_ _ rfl) (fun e1 q => by cases q; exact k1_ _ rfl)
set_option maxHeartbeats 4000000 in
set_option maxRecDepth 100000 in
theorem tX6_readSet_b74 (T : zT) (k0 : Nat) (k1 : Nat) (x2 : Int32) (S : zS) (h0 : iX6 T k0) (h1 : iX0 T k1) {g : zG} (r : (Unit × zS)) (h : fX6_readSet_b74 T k0 k1 x2 S = some r)  : zg g 322 mX6_readSet T 74 [some (.ref k0), some (.ref k1), some (.int x2), none, none] [] T S none T r.2 := by
  unfold fX6_readSet_b74 at h
  refine z_iload_n dX6_readSet_74 rfl ?_
  refine z_if_ne (tgt := 84) dX6_readSet_75 (by decide) (fun q15 => ?_) (fun q15 => ?_)
  · rw [if_neg q15] at h
    refine z_aload_n dX6_readSet_84 rfl ?_
    refine z_iconst dX6_readSet_85 cI_2 ?_
    obtain ⟨r16, S18, hc17, h⟩ := zb_elim h
    refine z_callV (As := [.int 2]) zcX6 zkX6_130 ziX6_expect zqX6_expect h0.1 (tX6_expect T k0 2 S h0 (r16, S18) hc17) rfl rfl (Nat.le_of_ble_eq_true rfl) (by decide) ⟨Nat.le_refl _, Nat.le_refl _⟩ ⟨Nat.le_refl _, Nat.le_refl _⟩ dX6_readSet_86 ?_
    refine z_aload_n dX6_readSet_89 rfl ?_
    refine z_iconst dX6_readSet_90 cI_0 ?_
    refine z_sipush dX6_readSet_91 cS_9999 ?_
    obtain ⟨r19, S21, hc20, h⟩ := zb_elim h
    refine z_callV (As := [.int 0, .int 9999]) zcX6 zkX6_89 ziX6_number zqX6_number h0.1 (tX6_number T k0 0 9999 S18 h0 (r19, S21) hc20) rfl rfl (Nat.le_of_ble_eq_true rfl) (by decide) ⟨Nat.le_refl _, Nat.le_refl _⟩ ⟨Nat.le_refl _, Nat.le_refl _⟩ dX6_readSet_94 ?_
    refine z_istore_n dX6_readSet_97 rfl (by decide) rfl ?_
    refine z_aload_n dX6_readSet_98 rfl ?_
    refine z_gR zfX6_160 h1.1 dX6_readSet_99 ?_
    refine z_iload_n dX6_readSet_102 rfl ?_
    refine z_iload_n dX6_readSet_103 rfl ?_
    refine z_aload_n dX6_readSet_104 rfl ?_
    obtain ⟨r22, S24, hc23, h⟩ := zb_elim h
    refine z_callV (As := []) zcX6 zkX6_164 ziX6_readIf zqX6_readIf h0.1 (tX6_readIf T k0 S21 h0 (r22, S24) hc23) rfl rfl (Nat.le_of_ble_eq_true rfl) (by decide) ⟨Nat.le_refl _, Nat.le_refl _⟩ ⟨Nat.le_refl _, Nat.le_refl _⟩ dX6_readSet_105 ?_
    obtain ⟨r25, S27, hc26, h⟩ := zb_elim h
    refine z_callV (As := [.int x2, .int r19, .int r22]) zcX1 zkX6_168 ziX1_add zqX1_add h1.2.2.2.2.2.2.2.1.1 (tX1_add T (zr T k1 12) x2 r19 r22 S24 h1.2.2.2.2.2.2.2.1 (r25, S27) hc26) rfl rfl (Nat.le_of_ble_eq_true rfl) (by decide) ⟨Nat.le_refl _, Nat.le_refl _⟩ ⟨Nat.le_refl _, Nat.le_refl _⟩ dX6_readSet_108 ?_
    cases h
    exact z_vret rfl dX6_readSet_111
  · rw [if_pos q15] at h
    refine z_aload_n dX6_readSet_78 rfl ?_
    refine z_iconst dX6_readSet_79 cI_0 ?_
    obtain ⟨r28, S30, hc29, h⟩ := zb_elim h
    refine z_callV (As := [.int 0]) zcX6 zkX6_123 ziX6_fail zqX6_fail h0.1 (tX6_fail T k0 0 S h0 (r28, S30) hc29) rfl rfl (Nat.le_of_ble_eq_true rfl) (by decide) ⟨Nat.le_refl _, Nat.le_refl _⟩ ⟨Nat.le_refl _, Nat.le_refl _⟩ dX6_readSet_80 ?_
    cases h
    exact z_vret rfl dX6_readSet_83
set_option maxHeartbeats 4000000 in
set_option maxRecDepth 100000 in
theorem tX6_readSet_b51 (T : zT) (k0 : Nat) (S : zS) (h0 : iX6 T k0) {g : zG} (r : (Unit × zS)) (h : fX6_readSet_b51 T k0 S = some r)  : zg g 322 mX6_readSet T 51 [some (.ref k0), none, none, none, none] [] T S none T r.2 := by
  unfold fX6_readSet_b51 at h
  refine z_aload_n dX6_readSet_51 rfl ?_
  refine z_iconst dX6_readSet_52 cI_5 ?_
  obtain ⟨r31, S33, hc32, h⟩ := zb_elim h
  refine z_callV (As := [.int 5]) zcX6 zkX6_123 ziX6_fail zqX6_fail h0.1 (tX6_fail T k0 5 S h0 (r31, S33) hc32) rfl rfl (Nat.le_of_ble_eq_true rfl) (by decide) ⟨Nat.le_refl _, Nat.le_refl _⟩ ⟨Nat.le_refl _, Nat.le_refl _⟩ dX6_readSet_53 ?_
  cases h
  exact z_vret rfl dX6_readSet_56
set_option maxHeartbeats 4000000 in
set_option maxRecDepth 100000 in
theorem tX6_readSet (T : zT) (k0 : Nat) (k1 : Nat) (S : zS) (h0 : iX6 T k0) (h1 : iX0 T k1) (r : Unit × zS) (h : fX6_readSet T k0 k1 S = some r) : zGM 322 mX6_readSet [.ref k0, .ref k1] T S none T r.2 := by
  refine zGM_of zpnX6 rfl (Nat.le_of_ble_eq_true rfl) (fun g => ?_)
  show zg g 322 mX6_readSet T 0 [some (.ref k0), some (.ref k1), none, none, none] [] T S none T r.2
  unfold fX6_readSet at h
  refine z_iconst dX6_readSet_0 cI_0 ?_
  refine z_istore_n dX6_readSet_1 rfl (by decide) rfl ?_
  refine z_iconst dX6_readSet_2 cI_0 ?_
  refine z_istore_n dX6_readSet_3 rfl (by decide) rfl ?_
  obtain ⟨e14, hl34, h⟩ := zb1_elim h
  obtain ⟨nf35, hl34⟩ := lp_some hl34
  refine z_mask [true, true, true, true, false] rfl (tX6_readSet_l4 T k0 k1 h0 h1 nf35 (0, 0, S) e14 hl34 (fun e14_0 q => ?_) (fun e14_1 q => ?_))
  · cases q
    replace h := zsm_l h
    exact z_mask [true, true, true, false, false] rfl (tX6_readSet_b74 T k0 k1 e14_0.1 e14_0.2 h0 h1 r h)
  · cases q
    replace h := zsm_r h
    exact z_mask [true, false, false, false, false] rfl (tX6_readSet_b51 T k0 e14_1 h0 r h)
/-! X6_readNeed -/
noncomputable def fX6_readNeed (T : zT) (k0 : Nat) (k1 : Nat) (S : zS) : Option (Unit × zS) :=
  zb (fX6_number T k0 0 9999 S) fun r1 S3 => zb (fX6_readIf T k0 S3) fun r4 S6 => zb (fX1_add T (zr T k1 13) 0 r1 r4 S6) fun _ S9 => some ((), S9)
set_option maxHeartbeats 4000000 in
set_option maxRecDepth 100000 in
theorem tX6_readNeed (T : zT) (k0 : Nat) (k1 : Nat) (S : zS) (h0 : iX6 T k0) (h1 : iX0 T k1) (r : Unit × zS) (h : fX6_readNeed T k0 k1 S = some r) : zGM 322 mX6_readNeed [.ref k0, .ref k1] T S none T r.2 := by
  refine zGM_of zpnX6 rfl (Nat.le_of_ble_eq_true rfl) (fun g => ?_)
  show zg g 322 mX6_readNeed T 0 [some (.ref k0), some (.ref k1), none] [] T S none T r.2
  unfold fX6_readNeed at h
  refine z_aload_n dX6_readNeed_0 rfl ?_
  refine z_iconst dX6_readNeed_1 cI_0 ?_
  refine z_sipush dX6_readNeed_2 cS_9999 ?_
  obtain ⟨r1, S3, hc2, h⟩ := zb_elim h
  refine z_callV (As := [.int 0, .int 9999]) zcX6 zkX6_89 ziX6_number zqX6_number h0.1 (tX6_number T k0 0 9999 S h0 (r1, S3) hc2) rfl rfl (Nat.le_of_ble_eq_true rfl) (by decide) ⟨Nat.le_refl _, Nat.le_refl _⟩ ⟨Nat.le_refl _, Nat.le_refl _⟩ dX6_readNeed_5 ?_
  refine z_istore_n dX6_readNeed_8 rfl (by decide) rfl ?_
  refine z_aload_n dX6_readNeed_9 rfl ?_
  refine z_gR zfX6_173 h1.1 dX6_readNeed_10 ?_
  refine z_iconst dX6_readNeed_13 cI_0 ?_
  refine z_iload_n dX6_readNeed_14 rfl ?_
  refine z_aload_n dX6_readNeed_15 rfl ?_
  obtain ⟨r4, S6, hc5, h⟩ := zb_elim h
  refine z_callV (As := []) zcX6 zkX6_164 ziX6_readIf zqX6_readIf h0.1 (tX6_readIf T k0 S3 h0 (r4, S6) hc5) rfl rfl (Nat.le_of_ble_eq_true rfl) (by decide) ⟨Nat.le_refl _, Nat.le_refl _⟩ ⟨Nat.le_refl _, Nat.le_refl _⟩ dX6_readNeed_16 ?_
  obtain ⟨r7, S9, hc8, h⟩ := zb_elim h
  refine z_callV (As := [.int 0, .int r1, .int r4]) zcX1 zkX6_168 ziX1_add zqX1_add h1.2.2.2.2.2.2.2.2.1.1 (tX1_add T (zr T k1 13) 0 r1 r4 S6 h1.2.2.2.2.2.2.2.2.1 (r7, S9) hc8) rfl rfl (Nat.le_of_ble_eq_true rfl) (by decide) ⟨Nat.le_refl _, Nat.le_refl _⟩ ⟨Nat.le_refl _, Nat.le_refl _⟩ dX6_readNeed_19 ?_
  cases h
  exact z_vret rfl dX6_readNeed_22
/-! X6_readLike -/
noncomputable def fX6_readLike (T : zT) (k0 : Nat) (k1 : Nat) (S : zS) : Option (Unit × zS) :=
  zlet (S.1 (zr T k0 9) 1) fun u1 => zb (fX6_readSum T k0 S) fun _ S4 => zb (fX2_add T (zr T k0 9) 48 0 S4) fun _ S7 => zb (fX6_readIf T k0 S7) fun r8 S10 => zb (fX8_add T k1 u1 r8 S10) fun _ S13 => some ((), S13)
set_option maxHeartbeats 4000000 in
set_option maxRecDepth 100000 in
theorem tX6_readLike (T : zT) (k0 : Nat) (k1 : Nat) (S : zS) (h0 : iX6 T k0) (h1 : iX8 T k1) (r : Unit × zS) (h : fX6_readLike T k0 k1 S = some r) : zGM 322 mX6_readLike [.ref k0, .ref k1] T S none T r.2 := by
  refine zGM_of zpnX6 rfl (Nat.le_of_ble_eq_true rfl) (fun g => ?_)
  show zg g 322 mX6_readLike T 0 [some (.ref k0), some (.ref k1), none] [] T S none T r.2
  unfold fX6_readLike at h
  refine z_aload_n dX6_readLike_0 rfl ?_
  refine z_gR (zF.x zfX6_38) h0.1 dX6_readLike_1 ?_
  refine z_gI (zF.x zfX6_182) h0.2.2.1 dX6_readLike_4 ?_
  obtain ⟨u1, eu1, h⟩ := zlet_elim h
  refine z_ti eu1 ?_
  refine z_istore_n dX6_readLike_7 rfl (by decide) rfl ?_
  refine z_aload_n dX6_readLike_8 rfl ?_
  obtain ⟨r2, S4, hc3, h⟩ := zb_elim h
  refine z_callV (As := []) zcX6 zkX6_187 ziX6_readSum zqX6_readSum h0.1 (tX6_readSum T k0 S h0 (r2, S4) hc3) rfl rfl (Nat.le_of_ble_eq_true rfl) (by decide) ⟨Nat.le_refl _, Nat.le_refl _⟩ ⟨Nat.le_refl _, Nat.le_refl _⟩ dX6_readLike_9 ?_
  refine z_aload_n dX6_readLike_12 rfl ?_
  refine z_gR (zF.x zfX6_38) h0.1 dX6_readLike_13 ?_
  refine z_bipush dX6_readLike_16 cB_48 ?_
  refine z_iconst dX6_readLike_18 cI_0 ?_
  obtain ⟨r5, S7, hc6, h⟩ := zb_elim h
  refine z_callV (As := [.int 48, .int 0]) zcX2 zkX6_190 ziX2_add zqX2_add h0.2.2.1 (tX2_add T (zr T k0 9) 48 0 S4 h0.2.2 (r5, S7) hc6) rfl rfl (Nat.le_of_ble_eq_true rfl) (by decide) ⟨Nat.le_refl _, Nat.le_refl _⟩ ⟨Nat.le_refl _, Nat.le_refl _⟩ dX6_readLike_19 ?_
  refine z_aload_n dX6_readLike_22 rfl ?_
  refine z_iload_n dX6_readLike_23 rfl ?_
  refine z_aload_n dX6_readLike_24 rfl ?_
  obtain ⟨r8, S10, hc9, h⟩ := zb_elim h
  refine z_callV (As := []) zcX6 zkX6_164 ziX6_readIf zqX6_readIf h0.1 (tX6_readIf T k0 S7 h0 (r8, S10) hc9) rfl rfl (Nat.le_of_ble_eq_true rfl) (by decide) ⟨Nat.le_refl _, Nat.le_refl _⟩ ⟨Nat.le_refl _, Nat.le_refl _⟩ dX6_readLike_25 ?_
  obtain ⟨r11, S13, hc12, h⟩ := zb_elim h
  refine z_callV (As := [.int u1, .int r8]) zcX8 zkX6_193 ziX8_add zqX8_add h1.1 (tX8_add T k1 u1 r8 S10 h1 (r11, S13) hc12) rfl rfl (Nat.le_of_ble_eq_true rfl) (by decide) ⟨Nat.le_refl _, Nat.le_refl _⟩ ⟨Nat.le_refl _, Nat.le_refl _⟩ dX6_readLike_28 ?_
  cases h
  exact z_vret rfl dX6_readLike_31
/-! X6_readBook -/
noncomputable def fX6_readBook_b184 (T : zT) (k0 : Nat) (k3 : Nat) (x4 : Int32) (S : zS) : Option ((Int32 × zS) ⊕ (zS ⊕ zS)) :=
  zb (fX6_isAtEnd T k0 S) fun r17 S19 => if r17 = 0 then zlet (x4 + 1) fun u21 => some (.inl (u21, S19)) else some (.inr (.inr S19))
noncomputable def fX6_readBook_b45 (T : zT) (k0 : Nat) (k3 : Nat) (x4 : Int32) (s0 : Int32) (s1 : Nat) (S : zS) : Option ((Int32 × zS) ⊕ (zS ⊕ zS)) :=
  zb (fX6_startClause T s1 s0 S) fun r10 S12 => if r10 = 0 then zb (fX6_readThing T k0 k3 S12) fun _ S16 => fX6_readBook_b184 T k0 k3 x4 S16 else if r10 = 1 then zb (fX6_readSet T k0 k3 S12) fun _ S25 => fX6_readBook_b184 T k0 k3 x4 S25 else if r10 = 2 then fX6_readBook_b184 T k0 k3 x4 S12 else if r10 = 3 then fX6_readBook_b184 T k0 k3 x4 S12 else if r10 = 4 then zb (fX6_readNeed T k0 k3 S12) fun _ S31 => fX6_readBook_b184 T k0 k3 x4 S31 else if r10 = 5 then zb (fX6_number T k0 0 1000 S12) fun r33 S35 => zlet (zI S35 k3 3 r33) fun S36 => fX6_readBook_b184 T k0 k3 x4 S36 else if r10 = 6 then zb (fX6_readCousin T k0 k3 S12) fun _ S40 => fX6_readBook_b184 T k0 k3 x4 S40 else if r10 = 7 then fX6_readBook_b184 T k0 k3 x4 S12 else if r10 = 8 then zb (fX6_number T k0 0 9999 S12) fun r43 S45 => zlet (zI S45 k3 2 r43) fun S46 => fX6_readBook_b184 T k0 k3 x4 S46 else if r10 = 9 then zb (fX6_number T k0 1 60 S12) fun r48 S50 => zlet (zI S50 k3 1 r48) fun S51 => fX6_readBook_b184 T k0 k3 x4 S51 else fX6_readBook_b184 T k0 k3 x4 S12
noncomputable def fX6_readBook_l18 (T : zT) (k0 : Nat) (k3 : Nat) (x4 : Int32) (S : zS) : Option ((Int32 × zS) ⊕ (zS ⊕ zS)) :=
  if 24 < x4 then some (.inr (.inl S)) else if (S.1 k0 5) = 0 then if x4 < 24 then fX6_readBook_b45 T k0 k3 x4 0 k0 S else fX6_readBook_b45 T k0 k3 x4 1 k0 S else some (.inr (.inl S))
noncomputable def fX6_readBook_b200 (T : zT) (k0 : Nat) (S : zS) : Option (Int32 × zS) :=
  some ((S.1 k0 5), S)
noncomputable def fX6_readBook_b15 (T : zT) (k0 : Nat) (k3 : Nat) (S : zS) : Option (Int32 × zS) :=
  zb1 (lp (fun a => fX6_readBook_l18 T k0 k3 a.1 a.2) (0, S)) fun e52 => zsm e52 (fun e52_0 => fX6_readBook_b200 T k0 e52_0) (fun e52_1 => fX6_readBook_b200 T k0 e52_1)
noncomputable def fX6_readBook (T : zT) (k0 : Nat) (k1 : Nat) (n1 : Nat) (x2 : Int32) (k3 : Nat) (S : zS) : Option (Int32 × zS) :=
  zb (fX0_clear T k3 S) fun _ S3 => zb (fX6_open T k0 k1 n1 x2 (zr T k3 14) 0 S3) fun _ S6 => fX6_readBook_b15 (zQ T k0 9 (zr T k3 14)) k0 k3 S6
set_option maxHeartbeats 4000000 in
set_option maxRecDepth 100000 in
theorem tX6_readBook_b184 (T : zT) (k0 : Nat) (k3 : Nat) (x4 : Int32) (S : zS) (h0 : iX6 T k0) (h3 : iX0 T k3) {g : zG} {v : Option Value} {S' : zS} (r : ((Int32 × zS) ⊕ (zS ⊕ zS))) (h : fX6_readBook_b184 T k0 k3 x4 S = some r) (K1 : ∀ a : (Int32 × zS), r = .inl a → zg g 323 mX6_readBook T 18 [some (.ref k0), none, none, some (.ref k3), some (.int a.1), none] [] T a.2 v T S') (K2_0 : ∀ e : zS, r = .inr (.inl e) → zg g 323 mX6_readBook T 200 [some (.ref k0), none, none, none, none, none] [] T e v T S') (K2_1 : ∀ e : zS, r = .inr (.inr e) → zg g 323 mX6_readBook T 191 [some (.ref k0), none, none, none, none, none] [] T e v T S') : zg g 323 mX6_readBook T 184 [some (.ref k0), none, none, some (.ref k3), some (.int x4), none] [] T S v T S' := by
  unfold fX6_readBook_b184 at h
  refine z_aload_n dX6_readBook_184 rfl ?_
  obtain ⟨r17, S19, hc18, h⟩ := zb_elim h
  refine z_callV (As := []) zcX6 zkX6_105 ziX6_isAtEnd zqX6_isAtEnd h0.1 (tX6_isAtEnd T k0 S h0 (r17, S19) hc18) rfl rfl (Nat.le_of_ble_eq_true rfl) (by decide) ⟨Nat.le_refl _, Nat.le_refl _⟩ ⟨Nat.le_refl _, Nat.le_refl _⟩ dX6_readBook_185 ?_
  refine z_if_eq (tgt := 194) dX6_readBook_188 (by decide) (fun q20 => ?_) (fun q20 => ?_)
  · rw [if_pos q20] at h
    obtain ⟨u21, eu21, h⟩ := zlet_elim h
    refine z_iinc (r := u21) dX6_readBook_194 rfl (by rw [eu21, cI_1]) rfl (by decide) rfl ?_
    refine z_goto (tgt := 18) dX6_readBook_197 (by decide) ?_
    cases h
    exact z_mask [true, false, false, true, true, false] rfl (K1 _ rfl)
  · rw [if_neg q20] at h
    cases h
    exact z_mask [true, false, false, false, false, false] rfl (K2_1 _ rfl)
set_option maxHeartbeats 4000000 in
set_option maxRecDepth 100000 in
theorem tX6_readBook_b45 (T : zT) (k0 : Nat) (k3 : Nat) (x4 : Int32) (s0 : Int32) (s1 : Nat) (S : zS) (h0 : iX6 T k0) (h3 : iX0 T k3) (g1 : iX6 T s1) {g : zG} {v : Option Value} {S' : zS} (r : ((Int32 × zS) ⊕ (zS ⊕ zS))) (h : fX6_readBook_b45 T k0 k3 x4 s0 s1 S = some r) (K1 : ∀ a : (Int32 × zS), r = .inl a → zg g 323 mX6_readBook T 18 [some (.ref k0), none, none, some (.ref k3), some (.int a.1), none] [] T a.2 v T S') (K2_0 : ∀ e : zS, r = .inr (.inl e) → zg g 323 mX6_readBook T 200 [some (.ref k0), none, none, none, none, none] [] T e v T S') (K2_1 : ∀ e : zS, r = .inr (.inr e) → zg g 323 mX6_readBook T 191 [some (.ref k0), none, none, none, none, none] [] T e v T S') : zg g 323 mX6_readBook T 45 [some (.ref k0), none, none, some (.ref k3), some (.int x4), none] [.int s0, .ref s1] T S v T S' := by
  unfold fX6_readBook_b45 at h
  obtain ⟨r10, S12, hc11, h⟩ := zb_elim h
  refine z_callV (As := [.int s0]) zcX6 zkX6_75 ziX6_startClause zqX6_startClause g1.1 (tX6_startClause T s1 s0 S g1 (r10, S12) hc11) rfl rfl (Nat.le_of_ble_eq_true rfl) (by decide) ⟨Nat.le_refl _, Nat.le_refl _⟩ ⟨Nat.le_refl _, Nat.le_refl _⟩ dX6_readBook_45 ?_
  refine z_istore dX6_readBook_48 rfl (by decide) rfl ?_
  refine z_iload dX6_readBook_50 rfl ?_
  by_cases q13 : r10 = 0
  · rw [if_pos q13] at h
    refine z_tableIn (off := 56) (tgt := 108) dX6_readBook_52 (by show ¬ r10.toInt < 0; rw [q13]; decide) (by show ¬ 9 < r10.toInt; rw [q13]; decide) (by rw [q13]; rfl) (by decide) ?_
    refine z_aload_n dX6_readBook_108 rfl ?_
    refine z_aload_n dX6_readBook_109 rfl ?_
    obtain ⟨r14, S16, hc15, h⟩ := zb_elim h
    refine z_callV (As := [.ref k3]) zcX6 zkX6_79 ziX6_readThing zqX6_readThing h0.1 (tX6_readThing T k0 k3 S12 h0 h3 (r14, S16) hc15) rfl rfl (Nat.le_of_ble_eq_true rfl) (by decide) ⟨Nat.le_refl _, Nat.le_refl _⟩ ⟨Nat.le_refl _, Nat.le_refl _⟩ dX6_readBook_110 ?_
    refine z_goto (tgt := 184) dX6_readBook_113 (by decide) ?_
    exact z_mask [true, false, false, true, true, false] rfl (tX6_readBook_b184 T k0 k3 x4 S16 h0 h3 r h K1 K2_0 K2_1)
  rw [if_neg q13] at h
  by_cases q22 : r10 = 1
  · rw [if_pos q22] at h
    refine z_tableIn (off := 64) (tgt := 116) dX6_readBook_52 (by show ¬ r10.toInt < 0; rw [q22]; decide) (by show ¬ 9 < r10.toInt; rw [q22]; decide) (by rw [q22]; rfl) (by decide) ?_
    refine z_aload_n dX6_readBook_116 rfl ?_
    refine z_aload_n dX6_readBook_117 rfl ?_
    obtain ⟨r23, S25, hc24, h⟩ := zb_elim h
    refine z_callV (As := [.ref k3]) zcX6 zkX6_83 ziX6_readSet zqX6_readSet h0.1 (tX6_readSet T k0 k3 S12 h0 h3 (r23, S25) hc24) rfl rfl (Nat.le_of_ble_eq_true rfl) (by decide) ⟨Nat.le_refl _, Nat.le_refl _⟩ ⟨Nat.le_refl _, Nat.le_refl _⟩ dX6_readBook_118 ?_
    refine z_goto (tgt := 184) dX6_readBook_121 (by decide) ?_
    exact z_mask [true, false, false, true, true, false] rfl (tX6_readBook_b184 T k0 k3 x4 S25 h0 h3 r h K1 K2_0 K2_1)
  rw [if_neg q22] at h
  by_cases q26 : r10 = 2
  · rw [if_pos q26] at h
    refine z_tableIn (off := 132) (tgt := 184) dX6_readBook_52 (by show ¬ r10.toInt < 0; rw [q26]; decide) (by show ¬ 9 < r10.toInt; rw [q26]; decide) (by rw [q26]; rfl) (by decide) ?_
    exact z_mask [true, false, false, true, true, false] rfl (tX6_readBook_b184 T k0 k3 x4 S12 h0 h3 r h K1 K2_0 K2_1)
  rw [if_neg q26] at h
  by_cases q27 : r10 = 3
  · rw [if_pos q27] at h
    refine z_tableIn (off := 132) (tgt := 184) dX6_readBook_52 (by show ¬ r10.toInt < 0; rw [q27]; decide) (by show ¬ 9 < r10.toInt; rw [q27]; decide) (by rw [q27]; rfl) (by decide) ?_
    exact z_mask [true, false, false, true, true, false] rfl (tX6_readBook_b184 T k0 k3 x4 S12 h0 h3 r h K1 K2_0 K2_1)
  rw [if_neg q27] at h
  by_cases q28 : r10 = 4
  · rw [if_pos q28] at h
    refine z_tableIn (off := 72) (tgt := 124) dX6_readBook_52 (by show ¬ r10.toInt < 0; rw [q28]; decide) (by show ¬ 9 < r10.toInt; rw [q28]; decide) (by rw [q28]; rfl) (by decide) ?_
    refine z_aload_n dX6_readBook_124 rfl ?_
    refine z_aload_n dX6_readBook_125 rfl ?_
    obtain ⟨r29, S31, hc30, h⟩ := zb_elim h
    refine z_callV (As := [.ref k3]) zcX6 zkX6_86 ziX6_readNeed zqX6_readNeed h0.1 (tX6_readNeed T k0 k3 S12 h0 h3 (r29, S31) hc30) rfl rfl (Nat.le_of_ble_eq_true rfl) (by decide) ⟨Nat.le_refl _, Nat.le_refl _⟩ ⟨Nat.le_refl _, Nat.le_refl _⟩ dX6_readBook_126 ?_
    refine z_goto (tgt := 184) dX6_readBook_129 (by decide) ?_
    exact z_mask [true, false, false, true, true, false] rfl (tX6_readBook_b184 T k0 k3 x4 S31 h0 h3 r h K1 K2_0 K2_1)
  rw [if_neg q28] at h
  by_cases q32 : r10 = 5
  · rw [if_pos q32] at h
    refine z_tableIn (off := 80) (tgt := 132) dX6_readBook_52 (by show ¬ r10.toInt < 0; rw [q32]; decide) (by show ¬ 9 < r10.toInt; rw [q32]; decide) (by rw [q32]; rfl) (by decide) ?_
    refine z_aload_n dX6_readBook_132 rfl ?_
    refine z_aload_n dX6_readBook_133 rfl ?_
    refine z_iconst dX6_readBook_134 cI_0 ?_
    refine z_sipush dX6_readBook_135 cS_1000 ?_
    obtain ⟨r33, S35, hc34, h⟩ := zb_elim h
    refine z_callV (As := [.int 0, .int 1000]) zcX6 zkX6_89 ziX6_number zqX6_number h0.1 (tX6_number T k0 0 1000 S12 h0 (r33, S35) hc34) rfl rfl (Nat.le_of_ble_eq_true rfl) (by decide) ⟨Nat.le_refl _, Nat.le_refl _⟩ ⟨Nat.le_refl _, Nat.le_refl _⟩ dX6_readBook_138 ?_
    refine z_putI zfX6_93 h3.1 dX6_readBook_141 ?_
    obtain ⟨S36, eS36, h⟩ := zlet_elim h
    refine z_tS eS36 ?_
    refine z_goto (tgt := 184) dX6_readBook_144 (by decide) ?_
    exact z_mask [true, false, false, true, true, false] rfl (tX6_readBook_b184 T k0 k3 x4 S36 h0 h3 r h K1 K2_0 K2_1)
  rw [if_neg q32] at h
  by_cases q37 : r10 = 6
  · rw [if_pos q37] at h
    refine z_tableIn (off := 95) (tgt := 147) dX6_readBook_52 (by show ¬ r10.toInt < 0; rw [q37]; decide) (by show ¬ 9 < r10.toInt; rw [q37]; decide) (by rw [q37]; rfl) (by decide) ?_
    refine z_aload_n dX6_readBook_147 rfl ?_
    refine z_aload_n dX6_readBook_148 rfl ?_
    obtain ⟨r38, S40, hc39, h⟩ := zb_elim h
    refine z_callV (As := [.ref k3]) zcX6 zkX6_96 ziX6_readCousin zqX6_readCousin h0.1 (tX6_readCousin T k0 k3 S12 h0 h3 (r38, S40) hc39) rfl rfl (Nat.le_of_ble_eq_true rfl) (by decide) ⟨Nat.le_refl _, Nat.le_refl _⟩ ⟨Nat.le_refl _, Nat.le_refl _⟩ dX6_readBook_149 ?_
    refine z_goto (tgt := 184) dX6_readBook_152 (by decide) ?_
    exact z_mask [true, false, false, true, true, false] rfl (tX6_readBook_b184 T k0 k3 x4 S40 h0 h3 r h K1 K2_0 K2_1)
  rw [if_neg q37] at h
  by_cases q41 : r10 = 7
  · rw [if_pos q41] at h
    refine z_tableIn (off := 132) (tgt := 184) dX6_readBook_52 (by show ¬ r10.toInt < 0; rw [q41]; decide) (by show ¬ 9 < r10.toInt; rw [q41]; decide) (by rw [q41]; rfl) (by decide) ?_
    exact z_mask [true, false, false, true, true, false] rfl (tX6_readBook_b184 T k0 k3 x4 S12 h0 h3 r h K1 K2_0 K2_1)
  rw [if_neg q41] at h
  by_cases q42 : r10 = 8
  · rw [if_pos q42] at h
    refine z_tableIn (off := 103) (tgt := 155) dX6_readBook_52 (by show ¬ r10.toInt < 0; rw [q42]; decide) (by show ¬ 9 < r10.toInt; rw [q42]; decide) (by rw [q42]; rfl) (by decide) ?_
    refine z_aload_n dX6_readBook_155 rfl ?_
    refine z_aload_n dX6_readBook_156 rfl ?_
    refine z_iconst dX6_readBook_157 cI_0 ?_
    refine z_sipush dX6_readBook_158 cS_9999 ?_
    obtain ⟨r43, S45, hc44, h⟩ := zb_elim h
    refine z_callV (As := [.int 0, .int 9999]) zcX6 zkX6_89 ziX6_number zqX6_number h0.1 (tX6_number T k0 0 9999 S12 h0 (r43, S45) hc44) rfl rfl (Nat.le_of_ble_eq_true rfl) (by decide) ⟨Nat.le_refl _, Nat.le_refl _⟩ ⟨Nat.le_refl _, Nat.le_refl _⟩ dX6_readBook_161 ?_
    refine z_putI zfX6_99 h3.1 dX6_readBook_164 ?_
    obtain ⟨S46, eS46, h⟩ := zlet_elim h
    refine z_tS eS46 ?_
    refine z_goto (tgt := 184) dX6_readBook_167 (by decide) ?_
    exact z_mask [true, false, false, true, true, false] rfl (tX6_readBook_b184 T k0 k3 x4 S46 h0 h3 r h K1 K2_0 K2_1)
  rw [if_neg q42] at h
  by_cases q47 : r10 = 9
  · rw [if_pos q47] at h
    refine z_tableIn (off := 118) (tgt := 170) dX6_readBook_52 (by show ¬ r10.toInt < 0; rw [q47]; decide) (by show ¬ 9 < r10.toInt; rw [q47]; decide) (by rw [q47]; rfl) (by decide) ?_
    refine z_aload_n dX6_readBook_170 rfl ?_
    refine z_aload_n dX6_readBook_171 rfl ?_
    refine z_iconst dX6_readBook_172 cI_1 ?_
    refine z_bipush dX6_readBook_173 cB_60 ?_
    obtain ⟨r48, S50, hc49, h⟩ := zb_elim h
    refine z_callV (As := [.int 1, .int 60]) zcX6 zkX6_89 ziX6_number zqX6_number h0.1 (tX6_number T k0 1 60 S12 h0 (r48, S50) hc49) rfl rfl (Nat.le_of_ble_eq_true rfl) (by decide) ⟨Nat.le_refl _, Nat.le_refl _⟩ ⟨Nat.le_refl _, Nat.le_refl _⟩ dX6_readBook_175 ?_
    refine z_putI zfX6_102 h3.1 dX6_readBook_178 ?_
    obtain ⟨S51, eS51, h⟩ := zlet_elim h
    refine z_tS eS51 ?_
    refine z_goto (tgt := 184) dX6_readBook_181 (by decide) ?_
    exact z_mask [true, false, false, true, true, false] rfl (tX6_readBook_b184 T k0 k3 x4 S51 h0 h3 r h K1 K2_0 K2_1)
  rw [if_neg q47] at h
  have q13i : ¬ r10.toInt = 0 := zneI q13 (by decide)
  have q22i : ¬ r10.toInt = 1 := zneI q22 (by decide)
  have q26i : ¬ r10.toInt = 2 := zneI q26 (by decide)
  have q27i : ¬ r10.toInt = 3 := zneI q27 (by decide)
  have q28i : ¬ r10.toInt = 4 := zneI q28 (by decide)
  have q32i : ¬ r10.toInt = 5 := zneI q32 (by decide)
  have q37i : ¬ r10.toInt = 6 := zneI q37 (by decide)
  have q41i : ¬ r10.toInt = 7 := zneI q41 (by decide)
  have q42i : ¬ r10.toInt = 8 := zneI q42 (by decide)
  have q47i : ¬ r10.toInt = 9 := zneI q47 (by decide)
  refine z_tableOut (tgt := 184) dX6_readBook_52 (by show r10.toInt < 0 ∨ 9 < r10.toInt; omega) (by decide) ?_
  exact z_mask [true, false, false, true, true, false] rfl (tX6_readBook_b184 T k0 k3 x4 S12 h0 h3 r h K1 K2_0 K2_1)
set_option maxHeartbeats 4000000 in
set_option maxRecDepth 100000 in
theorem tX6_readBook_l18b (T : zT) (k0 : Nat) (k3 : Nat) (x4 : Int32) (S : zS) (h0 : iX6 T k0) (h3 : iX0 T k3) {g : zG} {v : Option Value} {S' : zS} (r : (Int32 × zS) ⊕ (zS ⊕ zS)) (h : fX6_readBook_l18 T k0 k3 x4 S = some r) (K1 : ∀ a : (Int32 × zS), r = .inl a → zg g 323 mX6_readBook T 18 [some (.ref k0), none, none, some (.ref k3), some (.int a.1), none] [] T a.2 v T S') (K2_0 : ∀ e : zS, r = .inr (.inl e) → zg g 323 mX6_readBook T 200 [some (.ref k0), none, none, none, none, none] [] T e v T S') (K2_1 : ∀ e : zS, r = .inr (.inr e) → zg g 323 mX6_readBook T 191 [some (.ref k0), none, none, none, none, none] [] T e v T S') : zg g 323 mX6_readBook T 18 [some (.ref k0), none, none, some (.ref k3), some (.int x4), none] [] T S v T S' := by
  unfold fX6_readBook_l18 at h
  refine z_iload dX6_readBook_18 rfl ?_
  refine z_bipush dX6_readBook_20 cB_24 ?_
  refine z_icmp_gt (tgt := 200) dX6_readBook_22 (by decide) (fun q7 => ?_) (fun q7 => ?_)
  · rw [if_pos q7] at h
    cases h
    exact z_mask [true, false, false, false, false, false] rfl (K2_0 _ rfl)
  · rw [if_neg q7] at h
    refine z_aload_n dX6_readBook_25 rfl ?_
    refine z_gI (zF.x zfX6_29) h0.1 dX6_readBook_26 ?_
    refine z_if_ne (tgt := 200) dX6_readBook_29 (by decide) (fun q8 => ?_) (fun q8 => ?_)
    · rw [if_neg q8] at h
      cases h
      exact z_mask [true, false, false, false, false, false] rfl (K2_0 _ rfl)
    · rw [if_pos q8] at h
      refine z_aload_n dX6_readBook_32 rfl ?_
      refine z_iload dX6_readBook_33 rfl ?_
      refine z_bipush dX6_readBook_35 cB_24 ?_
      refine z_icmp_lt (tgt := 44) dX6_readBook_37 (by decide) (fun q9 => ?_) (fun q9 => ?_)
      · rw [if_pos q9] at h
        refine z_iconst dX6_readBook_44 cI_0 ?_
        exact z_mask [true, false, false, true, true, false] rfl (tX6_readBook_b45 T k0 k3 x4 0 k0 S h0 h3 h0 r h K1 K2_0 K2_1)
      · rw [if_neg q9] at h
        refine z_iconst dX6_readBook_40 cI_1 ?_
        refine z_goto (tgt := 45) dX6_readBook_41 (by decide) ?_
        exact z_mask [true, false, false, true, true, false] rfl (tX6_readBook_b45 T k0 k3 x4 1 k0 S h0 h3 h0 r h K1 K2_0 K2_1)
set_option maxHeartbeats 4000000 in
set_option maxRecDepth 100000 in
theorem tX6_readBook_l18 (T : zT) (k0 : Nat) (k3 : Nat) (h0 : iX6 T k0) (h3 : iX0 T k3) {g : zG} {v : Option Value} {S' : zS} : ∀ (n : Nat) (a : (Int32 × zS)) (e : (zS ⊕ zS)), lpn (fun a => fX6_readBook_l18 T k0 k3 a.1 a.2) n a = some e → (∀ e1 : zS, e = (.inl e1) → zg g 323 mX6_readBook T 200 [some (.ref k0), none, none, none, none, none] [] T e1 v T S') → (∀ e1 : zS, e = (.inr e1) → zg g 323 mX6_readBook T 191 [some (.ref k0), none, none, none, none, none] [] T e1 v T S') → zg g 323 mX6_readBook T 18 [some (.ref k0), none, none, some (.ref k3), some (.int a.1), none] [] T a.2 v T S' := by
  intro n
  induction n with
  | zero =>
    intro a e h
    cases h
  | succ n ih =>
    intro a e h k0_ k1_
    rcases lpn_succ h with ⟨a1, ha_, hb_⟩ | ha_
    · exact tX6_readBook_l18b T k0 k3 a.1 a.2 h0 h3 _ ha_ (fun a2 q => by cases q; exact ih a1 e hb_ k0_ k1_) (fun e1 q => by cases q) (fun e1 q => by cases q)
    · exact tX6_readBook_l18b T k0 k3 a.1 a.2 h0 h3 _ ha_ (fun a2 q => by cases q) (fun e1 q => by cases q; exact k0_ _ rfl) (fun e1 q => by cases q; exact k1_ _ rfl)
set_option maxHeartbeats 4000000 in
set_option maxRecDepth 100000 in
theorem tX6_readBook_b200 (T : zT) (k0 : Nat) (S : zS) (h0 : iX6 T k0) {g : zG} (r : (Int32 × zS)) (h : fX6_readBook_b200 T k0 S = some r)  : zg g 323 mX6_readBook T 200 [some (.ref k0), none, none, none, none, none] [] T S (some (.int r.1)) T r.2 := by
  unfold fX6_readBook_b200 at h
  refine z_aload_n dX6_readBook_200 rfl ?_
  refine z_gI (zF.x zfX6_29) h0.1 dX6_readBook_201 ?_
  cases h
  exact z_iret rfl dX6_readBook_204
set_option maxHeartbeats 4000000 in
set_option maxRecDepth 100000 in
theorem tX6_readBook_b15 (T : zT) (k0 : Nat) (k3 : Nat) (S : zS) (h0 : iX6 T k0) (h3 : iX0 T k3) {g : zG} (r : (Int32 × zS)) (h : fX6_readBook_b15 T k0 k3 S = some r)  : zg g 323 mX6_readBook T 15 [some (.ref k0), none, none, some (.ref k3), none, none] [] T S (some (.int r.1)) T r.2 := by
  unfold fX6_readBook_b15 at h
  refine z_iconst dX6_readBook_15 cI_0 ?_
  refine z_istore dX6_readBook_16 rfl (by decide) rfl ?_
  obtain ⟨e52, hl53, h⟩ := zb1_elim h
  obtain ⟨nf54, hl53⟩ := lp_some hl53
  refine z_mask [true, false, false, true, true, false] rfl (tX6_readBook_l18 T k0 k3 h0 h3 nf54 (0, S) e52 hl53 (fun e52_0 q => ?_) (fun e52_1 q => ?_))
  · cases q
    replace h := zsm_l h
    exact z_mask [true, false, false, false, false, false] rfl (tX6_readBook_b200 T k0 e52_0 h0 r h)
  · cases q
    replace h := zsm_r h
    refine z_goto (tgt := 200) dX6_readBook_191 (by decide) ?_
    exact z_mask [true, false, false, false, false, false] rfl (tX6_readBook_b200 T k0 e52_1 h0 r h)
set_option maxHeartbeats 4000000 in
set_option maxRecDepth 100000 in
theorem tX6_readBook (T : zT) (k0 : Nat) (k1 : Nat) (n1 : Nat) (x2 : Int32) (k3 : Nat) (S : zS) (h0 : iX6n T k0) (h1 : zL T k1 20 n1) (h3 : iX0 T k3) (r : Int32 × zS) (h : fX6_readBook T k0 k1 n1 x2 k3 S = some r) : zGM 323 mX6_readBook [.ref k0, .ref k1, .int x2, .ref k3] T S (some (.int r.1)) (zQ T k0 9 (zr T k3 14)) r.2 := by
  refine zGM_of zpnX6 rfl (Nat.le_of_ble_eq_true rfl) (fun g => ?_)
  show zg g 323 mX6_readBook T 0 [some (.ref k0), some (.ref k1), some (.int x2), some (.ref k3), none, none] [] T S (some (.int r.1)) (zQ T k0 9 (zr T k3 14)) r.2
  unfold fX6_readBook at h
  refine z_aload_n dX6_readBook_0 rfl ?_
  obtain ⟨r1, S3, hc2, h⟩ := zb_elim h
  refine z_callV (As := []) zcX0 zkX6_65 ziX0_clear zqX0_clear h3.1 (tX0_clear T k3 S h3 (r1, S3) hc2) rfl rfl (Nat.le_of_ble_eq_true rfl) (by decide) ⟨Nat.le_refl _, Nat.le_refl _⟩ ⟨Nat.le_refl _, Nat.le_refl _⟩ dX6_readBook_1 ?_
  refine z_aload_n dX6_readBook_4 rfl ?_
  refine z_aload_n dX6_readBook_5 rfl ?_
  refine z_iload_n dX6_readBook_6 rfl ?_
  refine z_aload_n dX6_readBook_7 rfl ?_
  refine z_gR zfX6_70 h3.1 dX6_readBook_8 ?_
  refine z_iconst dX6_readBook_11 cI_0 ?_
  obtain ⟨r4, S6, hc5, h⟩ := zb_elim h
  refine z_callV (T1 := (zQ T k0 9 (zr T k3 14))) (As := [.ref k1, .int x2, .ref (zr T k3 14), .int 0]) zcX6 zkX6_71 ziX6_open zqX6_open h0.1 (tX6_open T k0 k1 n1 x2 (zr T k3 14) 0 S3 h0 h1 h3.2.2.2.2.2.2.2.2.2 (r4, S6) hc5) rfl rfl (Nat.le_of_ble_eq_true rfl) (by decide) ⟨Nat.le_refl _, Nat.le_refl _⟩ ⟨Nat.le_refl _, Nat.le_refl _⟩ dX6_readBook_12 ?_
  exact z_mask [true, false, false, true, false, false] rfl (zg_T0 rfl rfl (tX6_readBook_b15 (zQ T k0 9 (zr T k3 14)) k0 k3 S6 (iX6_q h0 h3.2.2.2.2.2.2.2.2.2) (iX0_q h0.1 h3) r h))
/-! X6_readRule -/
noncomputable def fX6_readRule_b84 (T : zT) (k0 : Nat) (k3 : Nat) (x4 : Int32) (S : zS) : Option ((Int32 × zS) ⊕ (zS ⊕ zS)) :=
  zb (fX6_isAtEnd T k0 S) fun r15 S17 => if r15 = 0 then zlet (x4 + 1) fun u19 => some (.inl (u19, S17)) else some (.inr (.inr S17))
noncomputable def fX6_readRule_b45 (T : zT) (k0 : Nat) (k3 : Nat) (x4 : Int32) (s0 : Int32) (s1 : Nat) (S : zS) : Option ((Int32 × zS) ⊕ (zS ⊕ zS)) :=
  zb (fX6_startClause T s1 s0 S) fun r10 S12 => if r10 = 14 then zb (fX6_readLike T k0 k3 S12) fun _ S26 => fX6_readRule_b84 T k0 k3 x4 S26 else if r10 = 15 then zb (fX6_number T k0 0 9999 S12) fun r20 S22 => zlet (zI S22 k3 3 r20) fun S23 => fX6_readRule_b84 T k0 k3 x4 S23 else fX6_readRule_b84 T k0 k3 x4 S12
noncomputable def fX6_readRule_l18 (T : zT) (k0 : Nat) (k3 : Nat) (x4 : Int32) (S : zS) : Option ((Int32 × zS) ⊕ (zS ⊕ zS)) :=
  if 12 < x4 then some (.inr (.inl S)) else if (S.1 k0 5) = 0 then if x4 < 12 then fX6_readRule_b45 T k0 k3 x4 0 k0 S else fX6_readRule_b45 T k0 k3 x4 1 k0 S else some (.inr (.inl S))
noncomputable def fX6_readRule_b100 (T : zT) (k0 : Nat) (S : zS) : Option (Int32 × zS) :=
  some ((S.1 k0 5), S)
noncomputable def fX6_readRule_b15 (T : zT) (k0 : Nat) (k3 : Nat) (S : zS) : Option (Int32 × zS) :=
  zb1 (lp (fun a => fX6_readRule_l18 T k0 k3 a.1 a.2) (0, S)) fun e27 => zsm e27 (fun e27_0 => fX6_readRule_b100 T k0 e27_0) (fun e27_1 => fX6_readRule_b100 T k0 e27_1)
noncomputable def fX6_readRule (T : zT) (k0 : Nat) (k1 : Nat) (n1 : Nat) (x2 : Int32) (k3 : Nat) (S : zS) : Option (Int32 × zS) :=
  zb (fX8_clear T k3 S) fun _ S3 => zb (fX6_open T k0 k1 n1 x2 (zr T k3 4) 1 S3) fun _ S6 => fX6_readRule_b15 (zQ T k0 9 (zr T k3 4)) k0 k3 S6
set_option maxHeartbeats 4000000 in
set_option maxRecDepth 100000 in
theorem tX6_readRule_b84 (T : zT) (k0 : Nat) (k3 : Nat) (x4 : Int32) (S : zS) (h0 : iX6 T k0) (h3 : iX8 T k3) {g : zG} {v : Option Value} {S' : zS} (r : ((Int32 × zS) ⊕ (zS ⊕ zS))) (h : fX6_readRule_b84 T k0 k3 x4 S = some r) (K1 : ∀ a : (Int32 × zS), r = .inl a → zg g 323 mX6_readRule T 18 [some (.ref k0), none, none, some (.ref k3), some (.int a.1), none] [] T a.2 v T S') (K2_0 : ∀ e : zS, r = .inr (.inl e) → zg g 323 mX6_readRule T 100 [some (.ref k0), none, none, none, none, none] [] T e v T S') (K2_1 : ∀ e : zS, r = .inr (.inr e) → zg g 323 mX6_readRule T 91 [some (.ref k0), none, none, none, none, none] [] T e v T S') : zg g 323 mX6_readRule T 84 [some (.ref k0), none, none, some (.ref k3), some (.int x4), none] [] T S v T S' := by
  unfold fX6_readRule_b84 at h
  refine z_aload_n dX6_readRule_84 rfl ?_
  obtain ⟨r15, S17, hc16, h⟩ := zb_elim h
  refine z_callV (As := []) zcX6 zkX6_105 ziX6_isAtEnd zqX6_isAtEnd h0.1 (tX6_isAtEnd T k0 S h0 (r15, S17) hc16) rfl rfl (Nat.le_of_ble_eq_true rfl) (by decide) ⟨Nat.le_refl _, Nat.le_refl _⟩ ⟨Nat.le_refl _, Nat.le_refl _⟩ dX6_readRule_85 ?_
  refine z_if_eq (tgt := 94) dX6_readRule_88 (by decide) (fun q18 => ?_) (fun q18 => ?_)
  · rw [if_pos q18] at h
    obtain ⟨u19, eu19, h⟩ := zlet_elim h
    refine z_iinc (r := u19) dX6_readRule_94 rfl (by rw [eu19, cI_1]) rfl (by decide) rfl ?_
    refine z_goto (tgt := 18) dX6_readRule_97 (by decide) ?_
    cases h
    exact z_mask [true, false, false, true, true, false] rfl (K1 _ rfl)
  · rw [if_neg q18] at h
    cases h
    exact z_mask [true, false, false, false, false, false] rfl (K2_1 _ rfl)
set_option maxHeartbeats 4000000 in
set_option maxRecDepth 100000 in
theorem tX6_readRule_b45 (T : zT) (k0 : Nat) (k3 : Nat) (x4 : Int32) (s0 : Int32) (s1 : Nat) (S : zS) (h0 : iX6 T k0) (h3 : iX8 T k3) (g1 : iX6 T s1) {g : zG} {v : Option Value} {S' : zS} (r : ((Int32 × zS) ⊕ (zS ⊕ zS))) (h : fX6_readRule_b45 T k0 k3 x4 s0 s1 S = some r) (K1 : ∀ a : (Int32 × zS), r = .inl a → zg g 323 mX6_readRule T 18 [some (.ref k0), none, none, some (.ref k3), some (.int a.1), none] [] T a.2 v T S') (K2_0 : ∀ e : zS, r = .inr (.inl e) → zg g 323 mX6_readRule T 100 [some (.ref k0), none, none, none, none, none] [] T e v T S') (K2_1 : ∀ e : zS, r = .inr (.inr e) → zg g 323 mX6_readRule T 91 [some (.ref k0), none, none, none, none, none] [] T e v T S') : zg g 323 mX6_readRule T 45 [some (.ref k0), none, none, some (.ref k3), some (.int x4), none] [.int s0, .ref s1] T S v T S' := by
  unfold fX6_readRule_b45 at h
  obtain ⟨r10, S12, hc11, h⟩ := zb_elim h
  refine z_callV (As := [.int s0]) zcX6 zkX6_75 ziX6_startClause zqX6_startClause g1.1 (tX6_startClause T s1 s0 S g1 (r10, S12) hc11) rfl rfl (Nat.le_of_ble_eq_true rfl) (by decide) ⟨Nat.le_refl _, Nat.le_refl _⟩ ⟨Nat.le_refl _, Nat.le_refl _⟩ dX6_readRule_45 ?_
  refine z_istore dX6_readRule_48 rfl (by decide) rfl ?_
  refine z_iload dX6_readRule_50 rfl ?_
  refine z_bipush dX6_readRule_52 cB_14 ?_
  refine z_icmp_ne (tgt := 65) dX6_readRule_54 (by decide) (fun q13 => ?_) (fun q13 => ?_)
  · rw [if_neg q13] at h
    refine z_iload dX6_readRule_65 rfl ?_
    refine z_bipush dX6_readRule_67 cB_15 ?_
    refine z_icmp_ne (tgt := 84) dX6_readRule_69 (by decide) (fun q14 => ?_) (fun q14 => ?_)
    · rw [if_neg q14] at h
      exact z_mask [true, false, false, true, true, false] rfl (tX6_readRule_b84 T k0 k3 x4 S12 h0 h3 r h K1 K2_0 K2_1)
    · rw [if_pos q14] at h
      refine z_aload_n dX6_readRule_72 rfl ?_
      refine z_aload_n dX6_readRule_73 rfl ?_
      refine z_iconst dX6_readRule_74 cI_0 ?_
      refine z_sipush dX6_readRule_75 cS_9999 ?_
      obtain ⟨r20, S22, hc21, h⟩ := zb_elim h
      refine z_callV (As := [.int 0, .int 9999]) zcX6 zkX6_89 ziX6_number zqX6_number h0.1 (tX6_number T k0 0 9999 S12 h0 (r20, S22) hc21) rfl rfl (Nat.le_of_ble_eq_true rfl) (by decide) ⟨Nat.le_refl _, Nat.le_refl _⟩ ⟨Nat.le_refl _, Nat.le_refl _⟩ dX6_readRule_78 ?_
      refine z_putI zfX6_117 h3.1 dX6_readRule_81 ?_
      obtain ⟨S23, eS23, h⟩ := zlet_elim h
      refine z_tS eS23 ?_
      exact z_mask [true, false, false, true, true, false] rfl (tX6_readRule_b84 T k0 k3 x4 S23 h0 h3 r h K1 K2_0 K2_1)
  · rw [if_pos q13] at h
    refine z_aload_n dX6_readRule_57 rfl ?_
    refine z_aload_n dX6_readRule_58 rfl ?_
    obtain ⟨r24, S26, hc25, h⟩ := zb_elim h
    refine z_callV (As := [.ref k3]) zcX6 zkX6_113 ziX6_readLike zqX6_readLike h0.1 (tX6_readLike T k0 k3 S12 h0 h3 (r24, S26) hc25) rfl rfl (Nat.le_of_ble_eq_true rfl) (by decide) ⟨Nat.le_refl _, Nat.le_refl _⟩ ⟨Nat.le_refl _, Nat.le_refl _⟩ dX6_readRule_59 ?_
    refine z_goto (tgt := 84) dX6_readRule_62 (by decide) ?_
    exact z_mask [true, false, false, true, true, false] rfl (tX6_readRule_b84 T k0 k3 x4 S26 h0 h3 r h K1 K2_0 K2_1)
set_option maxHeartbeats 4000000 in
set_option maxRecDepth 100000 in
theorem tX6_readRule_l18b (T : zT) (k0 : Nat) (k3 : Nat) (x4 : Int32) (S : zS) (h0 : iX6 T k0) (h3 : iX8 T k3) {g : zG} {v : Option Value} {S' : zS} (r : (Int32 × zS) ⊕ (zS ⊕ zS)) (h : fX6_readRule_l18 T k0 k3 x4 S = some r) (K1 : ∀ a : (Int32 × zS), r = .inl a → zg g 323 mX6_readRule T 18 [some (.ref k0), none, none, some (.ref k3), some (.int a.1), none] [] T a.2 v T S') (K2_0 : ∀ e : zS, r = .inr (.inl e) → zg g 323 mX6_readRule T 100 [some (.ref k0), none, none, none, none, none] [] T e v T S') (K2_1 : ∀ e : zS, r = .inr (.inr e) → zg g 323 mX6_readRule T 91 [some (.ref k0), none, none, none, none, none] [] T e v T S') : zg g 323 mX6_readRule T 18 [some (.ref k0), none, none, some (.ref k3), some (.int x4), none] [] T S v T S' := by
  unfold fX6_readRule_l18 at h
  refine z_iload dX6_readRule_18 rfl ?_
  refine z_bipush dX6_readRule_20 cB_12 ?_
  refine z_icmp_gt (tgt := 100) dX6_readRule_22 (by decide) (fun q7 => ?_) (fun q7 => ?_)
  · rw [if_pos q7] at h
    cases h
    exact z_mask [true, false, false, false, false, false] rfl (K2_0 _ rfl)
  · rw [if_neg q7] at h
    refine z_aload_n dX6_readRule_25 rfl ?_
    refine z_gI (zF.x zfX6_29) h0.1 dX6_readRule_26 ?_
    refine z_if_ne (tgt := 100) dX6_readRule_29 (by decide) (fun q8 => ?_) (fun q8 => ?_)
    · rw [if_neg q8] at h
      cases h
      exact z_mask [true, false, false, false, false, false] rfl (K2_0 _ rfl)
    · rw [if_pos q8] at h
      refine z_aload_n dX6_readRule_32 rfl ?_
      refine z_iload dX6_readRule_33 rfl ?_
      refine z_bipush dX6_readRule_35 cB_12 ?_
      refine z_icmp_lt (tgt := 44) dX6_readRule_37 (by decide) (fun q9 => ?_) (fun q9 => ?_)
      · rw [if_pos q9] at h
        refine z_iconst dX6_readRule_44 cI_0 ?_
        exact z_mask [true, false, false, true, true, false] rfl (tX6_readRule_b45 T k0 k3 x4 0 k0 S h0 h3 h0 r h K1 K2_0 K2_1)
      · rw [if_neg q9] at h
        refine z_iconst dX6_readRule_40 cI_1 ?_
        refine z_goto (tgt := 45) dX6_readRule_41 (by decide) ?_
        exact z_mask [true, false, false, true, true, false] rfl (tX6_readRule_b45 T k0 k3 x4 1 k0 S h0 h3 h0 r h K1 K2_0 K2_1)
set_option maxHeartbeats 4000000 in
set_option maxRecDepth 100000 in
theorem tX6_readRule_l18 (T : zT) (k0 : Nat) (k3 : Nat) (h0 : iX6 T k0) (h3 : iX8 T k3) {g : zG} {v : Option Value} {S' : zS} : ∀ (n : Nat) (a : (Int32 × zS)) (e : (zS ⊕ zS)), lpn (fun a => fX6_readRule_l18 T k0 k3 a.1 a.2) n a = some e → (∀ e1 : zS, e = (.inl e1) → zg g 323 mX6_readRule T 100 [some (.ref k0), none, none, none, none, none] [] T e1 v T S') → (∀ e1 : zS, e = (.inr e1) → zg g 323 mX6_readRule T 91 [some (.ref k0), none, none, none, none, none] [] T e1 v T S') → zg g 323 mX6_readRule T 18 [some (.ref k0), none, none, some (.ref k3), some (.int a.1), none] [] T a.2 v T S' := by
  intro n
  induction n with
  | zero =>
    intro a e h
    cases h
  | succ n ih =>
    intro a e h k0_ k1_
    rcases lpn_succ h with ⟨a1, ha_, hb_⟩ | ha_
    · exact tX6_readRule_l18b T k0 k3 a.1 a.2 h0 h3 _ ha_ (fun a2 q => by cases q; exact ih a1 e hb_ k0_ k1_) (fun e1 q => by cases q) (fun e1 q => by cases q)
    · exact tX6_readRule_l18b T k0 k3 a.1 a.2 h0 h3 _ ha_ (fun a2 q => by cases q) (fun e1 q => by cases q; exact k0_ _ rfl) (fun e1 q => by cases q; exact k1_ _ rfl)
set_option maxHeartbeats 4000000 in
set_option maxRecDepth 100000 in
theorem tX6_readRule_b100 (T : zT) (k0 : Nat) (S : zS) (h0 : iX6 T k0) {g : zG} (r : (Int32 × zS)) (h : fX6_readRule_b100 T k0 S = some r)  : zg g 323 mX6_readRule T 100 [some (.ref k0), none, none, none, none, none] [] T S (some (.int r.1)) T r.2 := by
  unfold fX6_readRule_b100 at h
  refine z_aload_n dX6_readRule_100 rfl ?_
  refine z_gI (zF.x zfX6_29) h0.1 dX6_readRule_101 ?_
  cases h
  exact z_iret rfl dX6_readRule_104
set_option maxHeartbeats 4000000 in
set_option maxRecDepth 100000 in
theorem tX6_readRule_b15 (T : zT) (k0 : Nat) (k3 : Nat) (S : zS) (h0 : iX6 T k0) (h3 : iX8 T k3) {g : zG} (r : (Int32 × zS)) (h : fX6_readRule_b15 T k0 k3 S = some r)  : zg g 323 mX6_readRule T 15 [some (.ref k0), none, none, some (.ref k3), none, none] [] T S (some (.int r.1)) T r.2 := by
  unfold fX6_readRule_b15 at h
  refine z_iconst dX6_readRule_15 cI_0 ?_
  refine z_istore dX6_readRule_16 rfl (by decide) rfl ?_
  obtain ⟨e27, hl28, h⟩ := zb1_elim h
  obtain ⟨nf29, hl28⟩ := lp_some hl28
  refine z_mask [true, false, false, true, true, false] rfl (tX6_readRule_l18 T k0 k3 h0 h3 nf29 (0, S) e27 hl28 (fun e27_0 q => ?_) (fun e27_1 q => ?_))
  · cases q
    replace h := zsm_l h
    exact z_mask [true, false, false, false, false, false] rfl (tX6_readRule_b100 T k0 e27_0 h0 r h)
  · cases q
    replace h := zsm_r h
    refine z_goto (tgt := 100) dX6_readRule_91 (by decide) ?_
    exact z_mask [true, false, false, false, false, false] rfl (tX6_readRule_b100 T k0 e27_1 h0 r h)
set_option maxHeartbeats 4000000 in
set_option maxRecDepth 100000 in
theorem tX6_readRule (T : zT) (k0 : Nat) (k1 : Nat) (n1 : Nat) (x2 : Int32) (k3 : Nat) (S : zS) (h0 : iX6n T k0) (h1 : zL T k1 20 n1) (h3 : iX8 T k3) (r : Int32 × zS) (h : fX6_readRule T k0 k1 n1 x2 k3 S = some r) : zGM 323 mX6_readRule [.ref k0, .ref k1, .int x2, .ref k3] T S (some (.int r.1)) (zQ T k0 9 (zr T k3 4)) r.2 := by
  refine zGM_of zpnX6 rfl (Nat.le_of_ble_eq_true rfl) (fun g => ?_)
  show zg g 323 mX6_readRule T 0 [some (.ref k0), some (.ref k1), some (.int x2), some (.ref k3), none, none] [] T S (some (.int r.1)) (zQ T k0 9 (zr T k3 4)) r.2
  unfold fX6_readRule at h
  refine z_aload_n dX6_readRule_0 rfl ?_
  obtain ⟨r1, S3, hc2, h⟩ := zb_elim h
  refine z_callV (As := []) zcX8 zkX6_109 ziX8_clear zqX8_clear h3.1 (tX8_clear T k3 S h3 (r1, S3) hc2) rfl rfl (Nat.le_of_ble_eq_true rfl) (by decide) ⟨Nat.le_refl _, Nat.le_refl _⟩ ⟨Nat.le_refl _, Nat.le_refl _⟩ dX6_readRule_1 ?_
  refine z_aload_n dX6_readRule_4 rfl ?_
  refine z_aload_n dX6_readRule_5 rfl ?_
  refine z_iload_n dX6_readRule_6 rfl ?_
  refine z_aload_n dX6_readRule_7 rfl ?_
  refine z_gR zfX6_112 h3.1 dX6_readRule_8 ?_
  refine z_iconst dX6_readRule_11 cI_1 ?_
  obtain ⟨r4, S6, hc5, h⟩ := zb_elim h
  refine z_callV (T1 := (zQ T k0 9 (zr T k3 4))) (As := [.ref k1, .int x2, .ref (zr T k3 4), .int 1]) zcX6 zkX6_71 ziX6_open zqX6_open h0.1 (tX6_open T k0 k1 n1 x2 (zr T k3 4) 1 S3 h0 h1 h3.2.2.2 (r4, S6) hc5) rfl rfl (Nat.le_of_ble_eq_true rfl) (by decide) ⟨Nat.le_refl _, Nat.le_refl _⟩ ⟨Nat.le_refl _, Nat.le_refl _⟩ dX6_readRule_12 ?_
  exact z_mask [true, false, false, true, false, false] rfl (zg_T0 rfl rfl (tX6_readRule_b15 (zQ T k0 9 (zr T k3 4)) k0 k3 S6 (iX6_q h0 h3.2.2.2) (iX8_q h0.1 h3) r h))
