theorem iX4_q {T : zT} {q r k : Nat} (hR : zO T q 6) (h : iX4 T k) : iX4 (zQ T q 9 r) k := by
  have ne := zq_ne hR h.1 (by decide)
  exact ⟨h.1, (by rw [zr_q ne]; exact iX0_q hR h.2.1), (by rw [zr_q ne]; exact iX9_q hR h.2.2.1), (by rw [zr_q ne]; exact iX9_q hR h.2.2.2.1), (by rw [zr_q ne]; exact h.2.2.2.2.1), (by rw [zr_q ne]; exact h.2.2.2.2.2.1), (by rw [zr_q ne]; exact h.2.2.2.2.2.2.1), (by rw [zr_q ne]; exact h.2.2.2.2.2.2.2.1), (by rw [zr_q ne]; exact h.2.2.2.2.2.2.2.2.1), (by rw [zr_q ne]; exact h.2.2.2.2.2.2.2.2.2)⟩
theorem iX5_q {T : zT} {q r k : Nat} (hR : zO T q 6) (h : iX5 T k) : iX5 (zQ T q 9 r) k := by
  have ne := zq_ne hR h.1 (by decide)
  exact ⟨h.1, (by rw [zr_q ne]; exact iX0_q hR h.2.1), (by rw [zr_q ne]; exact iX9_q hR h.2.2.1), (by rw [zr_q ne]; exact h.2.2.2.1), (by rw [zr_q ne]; exact h.2.2.2.2.1), (by rw [zr_q ne]; exact h.2.2.2.2.2.1), (by rw [zr_q ne]; exact h.2.2.2.2.2.2.1), (by rw [zr_q ne]; exact h.2.2.2.2.2.2.2.1), (by rw [zr_q ne]; exact h.2.2.2.2.2.2.2.2.1), (by rw [zr_q ne]; exact h.2.2.2.2.2.2.2.2.2.1), (by rw [zr_q ne]; exact h.2.2.2.2.2.2.2.2.2.2)⟩
theorem zq_neL {T : zT} {q k kd n : Nat} (hR : zO T q 6) (h : zL T k kd n) (hc : kd ≠ 6) : k ≠ q := fun e => hc (by rw [e] at h; exact h.2.1.symm.trans hR.2)
theorem iX11_q {T : zT} {k r : Nat} (h : iX11 T k) (hr : iX2 T r) : iX11 (zQ T (zr T k 2) 9 r) k := by
  have hR : zO T (zr T k 2) 6 := h.2.2.1.1
  have ne := zq_ne hR h.1 (by decide)
  exact ⟨h.1, (by rw [zr_q ne]; exact h.2.1), (by rw [zr_q ne]; exact iX6n_q h.2.2.1), (by rw [zr_q ne]; exact iX0_q hR h.2.2.2.1), (by rw [zr_q ne]; exact iX0_q hR h.2.2.2.2.1), (by rw [zr_q ne]; exact iX7_q hR h.2.2.2.2.2.1), ⟨by rw [zr_q ne]; exact h.2.2.2.2.2.2.1.1, fun i hi => by rw [zr_q ne, zr_q (zq_neL hR h.2.2.2.2.2.2.1.1 (by decide))]; exact iX8_q hR (h.2.2.2.2.2.2.1.2 i hi)⟩, ⟨by rw [zr_q ne]; exact h.2.2.2.2.2.2.2.1.1, fun i hi => by rw [zr_q ne, zr_q (zq_neL hR h.2.2.2.2.2.2.2.1.1 (by decide))]; exact iX0_q hR (h.2.2.2.2.2.2.2.1.2 i hi)⟩, ⟨by rw [zr_q ne]; exact h.2.2.2.2.2.2.2.2.1.1, fun i hi => by rw [zr_q ne, zr_q (zq_neL hR h.2.2.2.2.2.2.2.2.1.1 (by decide))]; exact iX7_q hR (h.2.2.2.2.2.2.2.2.1.2 i hi)⟩, (by rw [zr_q ne]; exact h.2.2.2.2.2.2.2.2.2.1), (by rw [zr_q ne]; exact iX9_q hR h.2.2.2.2.2.2.2.2.2.2.1), (by rw [zr_q ne]; exact iX4_q hR h.2.2.2.2.2.2.2.2.2.2.2.1), (by rw [zr_q ne]; exact iX5_q hR h.2.2.2.2.2.2.2.2.2.2.2.2.1), (by rw [zr_q ne]; exact iX3_q hR h.2.2.2.2.2.2.2.2.2.2.2.2.2.1), (by rw [zr_q ne]; exact h.2.2.2.2.2.2.2.2.2.2.2.2.2.2)⟩
def fX11_ruleT (T : zT) (k0 : Nat) (S : zS) : zT := if S.1 k0 7 < 6 then zQ T (zr T k0 2) 9 (zr T (zr T (zr T k0 6) (S.1 k0 7 : Int32).toNatClampNeg) 4) else T
/-! X11_book -/
noncomputable def fX11_book_b19 (T : zT) (k0 : Nat) (s0 : Int32) (S : zS) : Option (Int32 × zS) :=
  zlet (zI S k0 1 0) fun S4 => if s0 = 0 then zb (fX0_take T (zr T k0 3) (zr T k0 4) S4) fun _ S8 => zlet (zI S8 (zr T k0 5) 3 0) fun S9 => zlet (zI S9 (zr T k0 13) 2 0) fun S10 => zb1 (fJ6_bitCount_0f7a4 T (S10.1 (zr T k0 3) 0) S10) fun r11 => some (r11, S10) else some (((-2) - s0), S4)
noncomputable def fX11_book (T : zT) (k0 : Nat) (S : zS) : Option (Int32 × zS) :=
  zb (fX6_readBook T (zr T k0 2) (zr T k0 0) 400 (S.1 k0 1) (zr T k0 4) S) fun r1 S3 => fX11_book_b19 (zQ T (zr T k0 2) 9 (zr T (zr T k0 4) 14)) k0 r1 S3
set_option maxHeartbeats 4000000 in
set_option maxRecDepth 100000 in
theorem tX11_book_b19 (T : zT) (k0 : Nat) (s0 : Int32) (S : zS) (h0 : iX11 T k0) {g : zG} (r : (Int32 × zS)) (h : fX11_book_b19 T k0 s0 S = some r)  : zg g 324 mX11_book T 19 [some (.ref k0), none] [.int s0] T S (some (.int r.1)) T r.2 := by
  unfold fX11_book_b19 at h
  refine z_istore_n dX11_book_19 rfl (by decide) rfl ?_
  refine z_aload_n dX11_book_20 rfl ?_
  refine z_iconst dX11_book_21 cI_0 ?_
  refine z_putI zfX11_89 h0.1 dX11_book_22 ?_
  obtain ⟨S4, eS4, h⟩ := zlet_elim h
  refine z_tS eS4 ?_
  refine z_iload_n dX11_book_25 rfl ?_
  refine z_if_eq (tgt := 34) dX11_book_26 (by decide) (fun q5 => ?_) (fun q5 => ?_)
  · rw [if_pos q5] at h
    refine z_aload_n dX11_book_34 rfl ?_
    refine z_gR (zF.x zfX11_23) h0.1 dX11_book_35 ?_
    refine z_aload_n dX11_book_38 rfl ?_
    refine z_gR (zF.x zfX11_27) h0.1 dX11_book_39 ?_
    obtain ⟨r6, S8, hc7, h⟩ := zb_elim h
    refine z_callV (As := [.ref (zr T k0 4)]) zcX0 zkX11_101 ziX0_take zqX0_take h0.2.2.2.1.1 (tX0_take T (zr T k0 3) (zr T k0 4) S4 h0.2.2.2.1 h0.2.2.2.2.1 (r6, S8) hc7) rfl rfl (Nat.le_of_ble_eq_true rfl) (by decide) ⟨Nat.le_refl _, Nat.le_refl _⟩ ⟨Nat.le_refl _, Nat.le_refl _⟩ dX11_book_42 ?_
    refine z_aload_n dX11_book_45 rfl ?_
    refine z_gR (zF.x zfX11_33) h0.1 dX11_book_46 ?_
    refine z_iconst dX11_book_49 cI_0 ?_
    refine z_putI zfX11_105 h0.2.2.2.2.2.1.1 dX11_book_50 ?_
    obtain ⟨S9, eS9, h⟩ := zlet_elim h
    refine z_tS eS9 ?_
    refine z_aload_n dX11_book_53 rfl ?_
    refine z_gR (zF.x zfX11_75) h0.1 dX11_book_54 ?_
    refine z_iconst dX11_book_57 cI_0 ?_
    refine z_putZ zfX11_108 (Or.inl rfl) h0.2.2.2.2.2.2.2.2.2.2.2.2.1.1 dX11_book_58 ?_
    obtain ⟨S10, eS10, h⟩ := zlet_elim h
    refine z_tS eS10 ?_
    refine z_aload_n dX11_book_61 rfl ?_
    refine z_gR (zF.x zfX11_23) h0.1 dX11_book_62 ?_
    refine z_gI (zF.x zfX11_112) h0.2.2.2.1.1 dX11_book_65 ?_
    obtain ⟨r11, hc12, h⟩ := zb1_elim h
    refine z_callS (As := [.int (S10.1 (zr T k0 3) 0)]) zkX11_115 zsJ6_bitCount_0f7a4 (tJ6_bitCount_0f7a4 T (S10.1 (zr T k0 3) 0) S10  r11 hc12) rfl rfl (Nat.le_of_ble_eq_true rfl) (by decide) ⟨Nat.le_refl _, Nat.le_refl _⟩ ⟨Nat.le_refl _, Nat.le_refl _⟩ dX11_book_68 ?_
    rw [← Option.some.inj h]
    exact z_iret rfl dX11_book_71
  · rw [if_neg q5] at h
    refine z_bipush dX11_book_29 cB_m2 ?_
    refine z_iload_n dX11_book_31 rfl ?_
    refine z_isub dX11_book_32 rfl ?_
    rw [← Option.some.inj h]
    exact z_iret rfl dX11_book_33
set_option maxHeartbeats 4000000 in
set_option maxRecDepth 100000 in
theorem tX11_book (T : zT) (k0 : Nat) (S : zS) (h0 : iX11 T k0) (r : Int32 × zS) (h : fX11_book T k0 S = some r) : zGM 324 mX11_book [.ref k0] T S (some (.int r.1)) (zQ T (zr T k0 2) 9 (zr T (zr T k0 4) 14)) r.2 := by
  refine zGM_of zpnX11 rfl (Nat.le_of_ble_eq_true rfl) (fun g => ?_)
  show zg g 324 mX11_book T 0 [some (.ref k0), none] [] T S (some (.int r.1)) (zQ T (zr T k0 2) 9 (zr T (zr T k0 4) 14)) r.2
  unfold fX11_book at h
  refine z_aload_n dX11_book_0 rfl ?_
  refine z_gR (zF.x zfX11_16) h0.1 dX11_book_1 ?_
  refine z_aload_n dX11_book_4 rfl ?_
  refine z_gA (zF.x zfX11_9) h0.1 dX11_book_5 ?_
  refine z_aload_n dX11_book_8 rfl ?_
  refine z_gI (zF.x zfX11_89) h0.1 dX11_book_9 ?_
  refine z_aload_n dX11_book_12 rfl ?_
  refine z_gR (zF.x zfX11_27) h0.1 dX11_book_13 ?_
  obtain ⟨r1, S3, hc2, h⟩ := zb_elim h
  refine z_callV (T1 := (zQ T (zr T k0 2) 9 (zr T (zr T k0 4) 14))) (As := [.ref (zr T k0 0), .int (S.1 k0 1), .ref (zr T k0 4)]) zcX6 zkX11_97 ziX6_readBook zqX6_readBook h0.2.2.1.1 (tX6_readBook T (zr T k0 2) (zr T k0 0) 400 (S.1 k0 1) (zr T k0 4) S h0.2.2.1 h0.2.1 h0.2.2.2.2.1 (r1, S3) hc2) rfl rfl (Nat.le_of_ble_eq_true rfl) (by decide) ⟨Nat.le_refl _, Nat.le_refl _⟩ ⟨Nat.le_refl _, Nat.le_refl _⟩ dX11_book_16 ?_
  exact z_mask [true, false] rfl (zg_T0 rfl rfl (tX11_book_b19 (zQ T (zr T k0 2) 9 (zr T (zr T k0 4) 14)) k0 r1 S3 (iX11_q h0 h0.2.2.2.2.1.2.2.2.2.2.2.2.2.2) r h))
/-! X11_rule -/
noncomputable def fX11_rule_b35 (T : zT) (k0 : Nat) (s0 : Int32) (S : zS) : Option (Int32 × zS) :=
  zlet (zI S k0 1 0) fun S6 => if s0 = 0 then zlet (zI S6 k0 7 ((S6.1 k0 7) + 1)) fun S8 => some (((S8.1 k0 7) - 1), S8) else some (((-2) - s0), S6)
noncomputable def fX11_rule (T : zT) (k0 : Nat) (S : zS) : Option (Int32 × zS) :=
  if (S.1 k0 7) < 6 then zgd (zin (S.1 k0 7) 6) (zb (fX6_readRule T (zr T k0 2) (zr T k0 0) 400 (S.1 k0 1) (zr T (zr T k0 6) ((S.1 k0 7) : Int32).toNatClampNeg) S) fun r3 S5 => fX11_rule_b35 (zQ T (zr T k0 2) 9 (zr T (zr T (zr T k0 6) ((S.1 k0 7) : Int32).toNatClampNeg) 4)) k0 r3 S5) else some ((-1), S)
set_option maxHeartbeats 4000000 in
set_option maxRecDepth 100000 in
theorem tX11_rule_b35 (T : zT) (k0 : Nat) (s0 : Int32) (S : zS) (h0 : iX11 T k0) {g : zG} (r : (Int32 × zS)) (h : fX11_rule_b35 T k0 s0 S = some r)  : zg g 324 mX11_rule T 35 [some (.ref k0), none] [.int s0] T S (some (.int r.1)) T r.2 := by
  unfold fX11_rule_b35 at h
  refine z_istore_n dX11_rule_35 rfl (by decide) rfl ?_
  refine z_aload_n dX11_rule_36 rfl ?_
  refine z_iconst dX11_rule_37 cI_0 ?_
  refine z_putI zfX11_89 h0.1 dX11_rule_38 ?_
  obtain ⟨S6, eS6, h⟩ := zlet_elim h
  refine z_tS eS6 ?_
  refine z_iload_n dX11_rule_41 rfl ?_
  refine z_if_eq (tgt := 50) dX11_rule_42 (by decide) (fun q7 => ?_) (fun q7 => ?_)
  · rw [if_pos q7] at h
    refine z_aload_n dX11_rule_50 rfl ?_
    refine z_dup dX11_rule_51 rfl ?_
    refine z_gI (zF.x zfX11_121) h0.1 dX11_rule_52 ?_
    refine z_iconst dX11_rule_55 cI_1 ?_
    refine z_iadd dX11_rule_56 rfl ?_
    refine z_putI zfX11_121 h0.1 dX11_rule_57 ?_
    obtain ⟨S8, eS8, h⟩ := zlet_elim h
    refine z_tS eS8 ?_
    refine z_aload_n dX11_rule_60 rfl ?_
    refine z_gI (zF.x zfX11_121) h0.1 dX11_rule_61 ?_
    refine z_iconst dX11_rule_64 cI_1 ?_
    refine z_isub dX11_rule_65 rfl ?_
    rw [← Option.some.inj h]
    exact z_iret rfl dX11_rule_66
  · rw [if_neg q7] at h
    refine z_bipush dX11_rule_45 cB_m2 ?_
    refine z_iload_n dX11_rule_47 rfl ?_
    refine z_isub dX11_rule_48 rfl ?_
    rw [← Option.some.inj h]
    exact z_iret rfl dX11_rule_49
set_option maxHeartbeats 4000000 in
set_option maxRecDepth 100000 in
theorem tX11_rule (T : zT) (k0 : Nat) (S : zS) (h0 : iX11 T k0) (r : Int32 × zS) (h : fX11_rule T k0 S = some r) : zGM 324 mX11_rule [.ref k0] T S (some (.int r.1)) (fX11_ruleT T k0 S) r.2 := by
  refine zGM_of zpnX11 rfl (Nat.le_of_ble_eq_true rfl) (fun g => ?_)
  show zg g 324 mX11_rule T 0 [some (.ref k0), none] [] T S (some (.int r.1)) (fX11_ruleT T k0 S) r.2
  unfold fX11_rule at h
  unfold fX11_ruleT
  refine z_aload_n dX11_rule_0 rfl ?_
  refine z_gI (zF.x zfX11_121) h0.1 dX11_rule_1 ?_
  refine z_bipush dX11_rule_4 cB_6 ?_
  refine z_icmp_lt (tgt := 11) dX11_rule_6 (by decide) (fun q1 => ?_) (fun q1 => ?_)
  · rw [if_pos q1] at h ⊢
    refine z_aload_n dX11_rule_11 rfl ?_
    refine z_gR (zF.x zfX11_16) h0.1 dX11_rule_12 ?_
    refine z_aload_n dX11_rule_15 rfl ?_
    refine z_gA (zF.x zfX11_9) h0.1 dX11_rule_16 ?_
    refine z_aload_n dX11_rule_19 rfl ?_
    refine z_gI (zF.x zfX11_89) h0.1 dX11_rule_20 ?_
    refine z_aload_n dX11_rule_23 rfl ?_
    refine z_gA (zF.x zfX11_39) h0.1 dX11_rule_24 ?_
    refine z_aload_n dX11_rule_27 rfl ?_
    refine z_gI (zF.x zfX11_121) h0.1 dX11_rule_28 ?_
    obtain ⟨q2, h⟩ := zgd_elim h
    refine z_aald h0.2.2.2.2.2.2.1.1 (by decide) (fun _ => rfl) (zin_ok q2) dX11_rule_31 ?_
    obtain ⟨r3, S5, hc4, h⟩ := zb_elim h
    refine z_callV (T1 := (zQ T (zr T k0 2) 9 (zr T (zr T (zr T k0 6) ((S.1 k0 7) : Int32).toNatClampNeg) 4))) (As := [.ref (zr T k0 0), .int (S.1 k0 1), .ref (zr T (zr T k0 6) ((S.1 k0 7) : Int32).toNatClampNeg)]) zcX6 zkX11_124 ziX6_readRule zqX6_readRule h0.2.2.1.1 (tX6_readRule T (zr T k0 2) (zr T k0 0) 400 (S.1 k0 1) (zr T (zr T k0 6) ((S.1 k0 7) : Int32).toNatClampNeg) S h0.2.2.1 h0.2.1 (h0.2.2.2.2.2.2.1.2 _ (zin_lt q2)) (r3, S5) hc4) rfl rfl (Nat.le_of_ble_eq_true rfl) (by decide) ⟨Nat.le_refl _, Nat.le_refl _⟩ ⟨Nat.le_refl _, Nat.le_refl _⟩ dX11_rule_32 ?_
    exact z_mask [true, false] rfl (zg_T0 rfl rfl (tX11_rule_b35 (zQ T (zr T k0 2) 9 (zr T (zr T (zr T k0 6) ((S.1 k0 7) : Int32).toNatClampNeg) 4)) k0 r3 S5 (iX11_q h0 ((h0.2.2.2.2.2.2.1.2 _ (zin_lt q2))).2.2.2) r h))
  · rw [if_neg q1] at h ⊢
    refine z_iconst dX11_rule_9 cI_m1 ?_
    rw [← Option.some.inj h]
    exact z_iret rfl dX11_rule_10
