/-! X11_putBytes -/
noncomputable def fX11_putBytes_b43 (T : zT) (k0 : Nat) (x1 : Int32) (x2 : Int32) (S : zS) : Option ((Int32 × zS) ⊕ zS) :=
  zlet (x2 + (-8)) fun u3 => some (.inl (u3, S))
noncomputable def fX11_putBytes_l3 (T : zT) (k0 : Nat) (x1 : Int32) (x2 : Int32) (S : zS) : Option ((Int32 × zS) ⊕ zS) :=
  if x2 < 0 then some (.inr S) else if 400 ≤ (S.1 k0 1) then fX11_putBytes_b43 T k0 x1 x2 S else zgd (zin (S.1 k0 1) 400) (zlet (zI S (zr T k0 0) ((S.1 k0 1) : Int32).toNatClampNeg ((((x1 : Int32).toUInt32 >>> ((x2 : Int32).toUInt32 &&& Int32.toUInt32 31)).toInt32) &&& 255)) fun S5 => zlet (zI S5 k0 1 ((S5.1 k0 1) + 1)) fun S6 => fX11_putBytes_b43 T k0 x1 x2 S6)
noncomputable def fX11_putBytes (T : zT) (k0 : Nat) (x1 : Int32) (S : zS) : Option (Unit × zS) :=
  zb1 (lp (fun a => fX11_putBytes_l3 T k0 x1 a.1 a.2) (24, S)) fun e7 => some ((), e7)
set_option maxHeartbeats 4000000 in
set_option maxRecDepth 100000 in
theorem tX11_putBytes_b43 (T : zT) (k0 : Nat) (x1 : Int32) (x2 : Int32) (S : zS) (h0 : iX11 T k0) {g : zG} {v : Option Value} {S' : zS} (r : ((Int32 × zS) ⊕ zS)) (h : fX11_putBytes_b43 T k0 x1 x2 S = some r) (K1 : ∀ a : (Int32 × zS), r = .inl a → zg g 0 mX11_putBytes T 3 [some (.ref k0), some (.int x1), some (.int a.1)] [] T a.2 v T S') (K2_0 : ∀ e : zS, r = .inr e → zg g 0 mX11_putBytes T 49 [none, none, none] [] T e v T S') : zg g 0 mX11_putBytes T 43 [some (.ref k0), some (.int x1), some (.int x2)] [] T S v T S' := by
  unfold fX11_putBytes_b43 at h
  obtain ⟨u3, eu3, h⟩ := zlet_elim h
  refine z_iinc (r := u3) dX11_putBytes_43 rfl (by rw [eu3, cI_m8]) rfl (by decide) rfl ?_
  refine z_goto (tgt := 3) dX11_putBytes_46 (by decide) ?_
  cases h
  exact z_mask [true, true, true] rfl (K1 _ rfl)
set_option maxHeartbeats 4000000 in
set_option maxRecDepth 100000 in
theorem tX11_putBytes_l3b (T : zT) (k0 : Nat) (x1 : Int32) (x2 : Int32) (S : zS) (h0 : iX11 T k0) {g : zG} {v : Option Value} {S' : zS} (r : (Int32 × zS) ⊕ zS) (h : fX11_putBytes_l3 T k0 x1 x2 S = some r) (K1 : ∀ a : (Int32 × zS), r = .inl a → zg g 0 mX11_putBytes T 3 [some (.ref k0), some (.int x1), some (.int a.1)] [] T a.2 v T S') (K2_0 : ∀ e : zS, r = .inr e → zg g 0 mX11_putBytes T 49 [none, none, none] [] T e v T S') : zg g 0 mX11_putBytes T 3 [some (.ref k0), some (.int x1), some (.int x2)] [] T S v T S' := by
  unfold fX11_putBytes_l3 at h
  refine z_iload_n dX11_putBytes_3 rfl ?_
  refine z_if_lt (tgt := 49) dX11_putBytes_4 (by decide) (fun q1 => ?_) (fun q1 => ?_)
  · rw [if_pos q1] at h
    cases h
    exact z_mask [false, false, false] rfl (K2_0 _ rfl)
  · rw [if_neg q1] at h
    refine z_aload_n dX11_putBytes_7 rfl ?_
    refine z_gI (zF.x zfX11_89) h0.1 dX11_putBytes_8 ?_
    refine z_sipush dX11_putBytes_11 cS_400 ?_
    refine z_icmp_ge (tgt := 43) dX11_putBytes_14 (by decide) (fun q2 => ?_) (fun q2 => ?_)
    · rw [if_pos q2] at h
      exact z_mask [true, true, true] rfl (tX11_putBytes_b43 T k0 x1 x2 S h0 r h K1 K2_0)
    · rw [if_neg q2] at h
      refine z_aload_n dX11_putBytes_17 rfl ?_
      refine z_gA (zF.x zfX11_9) h0.1 dX11_putBytes_18 ?_
      refine z_aload_n dX11_putBytes_21 rfl ?_
      refine z_gI (zF.x zfX11_89) h0.1 dX11_putBytes_22 ?_
      refine z_iload_n dX11_putBytes_25 rfl ?_
      refine z_iload_n dX11_putBytes_26 rfl ?_
      refine z_iushr dX11_putBytes_27 rfl ?_
      refine z_sipush dX11_putBytes_28 cS_255 ?_
      refine z_iand dX11_putBytes_31 rfl ?_
      obtain ⟨q4, h⟩ := zgd_elim h
      refine z_iast h0.2.1 (zin_ok q4) dX11_putBytes_32 ?_
      obtain ⟨S5, eS5, h⟩ := zlet_elim h
      refine z_tS eS5 ?_
      refine z_aload_n dX11_putBytes_33 rfl ?_
      refine z_dup dX11_putBytes_34 rfl ?_
      refine z_gI (zF.x zfX11_89) h0.1 dX11_putBytes_35 ?_
      refine z_iconst dX11_putBytes_38 cI_1 ?_
      refine z_iadd dX11_putBytes_39 rfl ?_
      refine z_putI zfX11_89 h0.1 dX11_putBytes_40 ?_
      obtain ⟨S6, eS6, h⟩ := zlet_elim h
      refine z_tS eS6 ?_
      exact z_mask [true, true, true] rfl (tX11_putBytes_b43 T k0 x1 x2 S6 h0 r h K1 K2_0)
set_option maxHeartbeats 4000000 in
set_option maxRecDepth 100000 in
theorem tX11_putBytes_l3 (T : zT) (k0 : Nat) (x1 : Int32) (h0 : iX11 T k0) {g : zG} {v : Option Value} {S' : zS} : ∀ (n : Nat) (a : (Int32 × zS)) (e : zS), lpn (fun a => fX11_putBytes_l3 T k0 x1 a.1 a.2) n a = some e → (∀ e1 : zS, e = e1 → zg g 0 mX11_putBytes T 49 [none, none, none] [] T e1 v T S') → zg g 0 mX11_putBytes T 3 [some (.ref k0), some (.int x1), some (.int a.1)] [] T a.2 v T S' := by
  intro n
  induction n with
  | zero =>
    intro a e h
    cases h
  | succ n ih =>
    intro a e h k0_
    rcases lpn_succ h with ⟨a1, ha_, hb_⟩ | ha_
    · exact tX11_putBytes_l3b T k0 x1 a.1 a.2 h0 _ ha_ (fun a2 q => by cases q; exact ih a1 e hb_ k0_) (fun e1 q => by cases q)
    · exact tX11_putBytes_l3b T k0 x1 a.1 a.2 h0 _ ha_ (fun a2 q => by cases q) (fun e1 q => by cases q; exact k0_ _ rfl)
set_option maxHeartbeats 4000000 in
set_option maxRecDepth 100000 in
theorem tX11_putBytes (T : zT) (k0 : Nat) (x1 : Int32) (S : zS) (h0 : iX11 T k0) (r : Unit × zS) (h : fX11_putBytes T k0 x1 S = some r) : zGM 0 mX11_putBytes [.ref k0, .int x1] T S none T r.2 := by
  refine zGM_of zpnX11 rfl (Nat.le_of_ble_eq_true rfl) (fun g => ?_)
  show zg g 0 mX11_putBytes T 0 [some (.ref k0), some (.int x1), none] [] T S none T r.2
  unfold fX11_putBytes at h
  refine z_bipush dX11_putBytes_0 cB_24 ?_
  refine z_istore_n dX11_putBytes_2 rfl (by decide) rfl ?_
  obtain ⟨e7, hl8, h⟩ := zb1_elim h
  obtain ⟨nf9, hl8⟩ := lp_some hl8
  refine z_mask [true, true, true] rfl (tX11_putBytes_l3 T k0 x1 h0 nf9 (24, S) e7 hl8 (fun e_ q => ?_))
  · cases q
    cases h
    exact z_vret rfl dX11_putBytes_49
/-! X11_end -/
noncomputable def fX11_end_b12 (T : zT)  (S : zS) : Option (Int32 × zS) :=
  some ((-1), S)
noncomputable def fX11_end (T : zT) (k0 : Nat) (x1 : Int32) (S : zS) : Option (Int32 × zS) :=
  if x1 < 0 then fX11_end_b12 T  S else if x1 ≤ (S.1 k0 1) then zlet (zI S k0 1 x1) fun S3 => some (x1, S3) else fX11_end_b12 T  S
set_option maxHeartbeats 4000000 in
set_option maxRecDepth 100000 in
theorem tX11_end_b12 (T : zT)  (S : zS)  {g : zG} (r : (Int32 × zS)) (h : fX11_end_b12 T  S = some r)  : zg g 0 mX11_end T 12 [none, none] [] T S (some (.int r.1)) T r.2 := by
  unfold fX11_end_b12 at h
  refine z_iconst dX11_end_12 cI_m1 ?_
  cases h
  exact z_iret rfl dX11_end_13
set_option maxHeartbeats 4000000 in
set_option maxRecDepth 100000 in
theorem tX11_end (T : zT) (k0 : Nat) (x1 : Int32) (S : zS) (h0 : iX11 T k0) (r : Int32 × zS) (h : fX11_end T k0 x1 S = some r) : zGM 0 mX11_end [.ref k0, .int x1] T S (some (.int r.1)) T r.2 := by
  refine zGM_of zpnX11 rfl (Nat.le_of_ble_eq_true rfl) (fun g => ?_)
  show zg g 0 mX11_end T 0 [some (.ref k0), some (.int x1)] [] T S (some (.int r.1)) T r.2
  unfold fX11_end at h
  refine z_iload_n dX11_end_0 rfl ?_
  refine z_if_lt (tgt := 12) dX11_end_1 (by decide) (fun q1 => ?_) (fun q1 => ?_)
  · rw [if_pos q1] at h
    exact z_mask [false, false] rfl (tX11_end_b12 T  S  r h)
  · rw [if_neg q1] at h
    refine z_iload_n dX11_end_4 rfl ?_
    refine z_aload_n dX11_end_5 rfl ?_
    refine z_gI (zF.x zfX11_89) h0.1 dX11_end_6 ?_
    refine z_icmp_le (tgt := 14) dX11_end_9 (by decide) (fun q2 => ?_) (fun q2 => ?_)
    · rw [if_pos q2] at h
      refine z_aload_n dX11_end_14 rfl ?_
      refine z_iload_n dX11_end_15 rfl ?_
      refine z_putI zfX11_89 h0.1 dX11_end_16 ?_
      obtain ⟨S3, eS3, h⟩ := zlet_elim h
      refine z_tS eS3 ?_
      refine z_iload_n dX11_end_19 rfl ?_
      cases h
      exact z_iret rfl dX11_end_20
    · rw [if_neg q2] at h
      exact z_mask [false, false] rfl (tX11_end_b12 T  S  r h)
/-! X11_count -/
noncomputable def fX11_count (T : zT) (k0 : Nat) (x1 : Int32) (S : zS) : Option Int32 :=
  if x1 = 0 then some (S.1 (zr T k0 3) 0) else if x1 = 1 then some (S.1 (zr T k0 3) 1) else if x1 = 2 then some (S.1 (zr T k0 3) 2) else if x1 = 3 then some (S.1 (zr T k0 3) 3) else if x1 = 4 then some (S.1 (zr T k0 3) 4) else if x1 = 5 then some (S.1 (zr T k0 3) 5) else if x1 = 6 then some (S.1 (zr T (zr T k0 3) 12) 3) else if x1 = 7 then some (S.1 (zr T (zr T k0 3) 13) 3) else if x1 = 8 then some (S.1 k0 7) else if x1 = 9 then some (S.1 (zr T k0 5) 3) else if x1 = 10 then some (S.1 k0 1) else some (-2)
set_option maxHeartbeats 4000000 in
set_option maxRecDepth 100000 in
theorem tX11_count (T : zT) (k0 : Nat) (x1 : Int32) (S : zS) (h0 : iX11 T k0) (r : Int32) (h : fX11_count T k0 x1 S = some r) : zGM 0 mX11_count [.ref k0, .int x1] T S (some (.int r)) T S := by
  refine zGM_of zpnX11 rfl (Nat.le_of_ble_eq_true rfl) (fun g => ?_)
  show zg g 0 mX11_count T 0 [some (.ref k0), some (.int x1)] [] T S (some (.int r)) T S
  unfold fX11_count at h
  refine z_iload_n dX11_count_0 rfl ?_
  by_cases q1 : x1 = 0
  · rw [if_pos q1] at h
    refine z_tableIn (off := 59) (tgt := 60) dX11_count_1 (by show ¬ x1.toInt < 0; rw [q1]; decide) (by show ¬ 10 < x1.toInt; rw [q1]; decide) (by rw [q1]; rfl) (by decide) ?_
    refine z_aload_n dX11_count_60 rfl ?_
    refine z_gR (zF.x zfX11_23) h0.1 dX11_count_61 ?_
    refine z_gI (zF.x zfX11_112) h0.2.2.2.1.1 dX11_count_64 ?_
    cases h
    exact z_iret rfl dX11_count_67
  rw [if_neg q1] at h
  by_cases q2 : x1 = 1
  · rw [if_pos q2] at h
    refine z_tableIn (off := 67) (tgt := 68) dX11_count_1 (by show ¬ x1.toInt < 0; rw [q2]; decide) (by show ¬ 10 < x1.toInt; rw [q2]; decide) (by rw [q2]; rfl) (by decide) ?_
    refine z_aload_n dX11_count_68 rfl ?_
    refine z_gR (zF.x zfX11_23) h0.1 dX11_count_69 ?_
    refine z_gI (zF.x zfX11_150) h0.2.2.2.1.1 dX11_count_72 ?_
    cases h
    exact z_iret rfl dX11_count_75
  rw [if_neg q2] at h
  by_cases q3 : x1 = 2
  · rw [if_pos q3] at h
    refine z_tableIn (off := 75) (tgt := 76) dX11_count_1 (by show ¬ x1.toInt < 0; rw [q3]; decide) (by show ¬ 10 < x1.toInt; rw [q3]; decide) (by rw [q3]; rfl) (by decide) ?_
    refine z_aload_n dX11_count_76 rfl ?_
    refine z_gR (zF.x zfX11_23) h0.1 dX11_count_77 ?_
    refine z_gI (zF.x zfX11_153) h0.2.2.2.1.1 dX11_count_80 ?_
    cases h
    exact z_iret rfl dX11_count_83
  rw [if_neg q3] at h
  by_cases q4 : x1 = 3
  · rw [if_pos q4] at h
    refine z_tableIn (off := 83) (tgt := 84) dX11_count_1 (by show ¬ x1.toInt < 0; rw [q4]; decide) (by show ¬ 10 < x1.toInt; rw [q4]; decide) (by rw [q4]; rfl) (by decide) ?_
    refine z_aload_n dX11_count_84 rfl ?_
    refine z_gR (zF.x zfX11_23) h0.1 dX11_count_85 ?_
    refine z_gI (zF.x zfX11_156) h0.2.2.2.1.1 dX11_count_88 ?_
    cases h
    exact z_iret rfl dX11_count_91
  rw [if_neg q4] at h
  by_cases q5 : x1 = 4
  · rw [if_pos q5] at h
    refine z_tableIn (off := 91) (tgt := 92) dX11_count_1 (by show ¬ x1.toInt < 0; rw [q5]; decide) (by show ¬ 10 < x1.toInt; rw [q5]; decide) (by rw [q5]; rfl) (by decide) ?_
    refine z_aload_n dX11_count_92 rfl ?_
    refine z_gR (zF.x zfX11_23) h0.1 dX11_count_93 ?_
    refine z_gI (zF.x zfX11_159) h0.2.2.2.1.1 dX11_count_96 ?_
    cases h
    exact z_iret rfl dX11_count_99
  rw [if_neg q5] at h
  by_cases q6 : x1 = 5
  · rw [if_pos q6] at h
    refine z_tableIn (off := 99) (tgt := 100) dX11_count_1 (by show ¬ x1.toInt < 0; rw [q6]; decide) (by show ¬ 10 < x1.toInt; rw [q6]; decide) (by rw [q6]; rfl) (by decide) ?_
    refine z_aload_n dX11_count_100 rfl ?_
    refine z_gR (zF.x zfX11_23) h0.1 dX11_count_101 ?_
    refine z_gI (zF.x zfX11_162) h0.2.2.2.1.1 dX11_count_104 ?_
    cases h
    exact z_iret rfl dX11_count_107
  rw [if_neg q6] at h
  by_cases q7 : x1 = 6
  · rw [if_pos q7] at h
    refine z_tableIn (off := 107) (tgt := 108) dX11_count_1 (by show ¬ x1.toInt < 0; rw [q7]; decide) (by show ¬ 10 < x1.toInt; rw [q7]; decide) (by rw [q7]; rfl) (by decide) ?_
    refine z_aload_n dX11_count_108 rfl ?_
    refine z_gR (zF.x zfX11_23) h0.1 dX11_count_109 ?_
    refine z_gR zfX11_165 h0.2.2.2.1.1 dX11_count_112 ?_
    refine z_gI (zF.x zfX11_169) h0.2.2.2.1.2.2.2.2.2.2.2.1.1 dX11_count_115 ?_
    cases h
    exact z_iret rfl dX11_count_118
  rw [if_neg q7] at h
  by_cases q8 : x1 = 7
  · rw [if_pos q8] at h
    refine z_tableIn (off := 118) (tgt := 119) dX11_count_1 (by show ¬ x1.toInt < 0; rw [q8]; decide) (by show ¬ 10 < x1.toInt; rw [q8]; decide) (by rw [q8]; rfl) (by decide) ?_
    refine z_aload_n dX11_count_119 rfl ?_
    refine z_gR (zF.x zfX11_23) h0.1 dX11_count_120 ?_
    refine z_gR zfX11_172 h0.2.2.2.1.1 dX11_count_123 ?_
    refine z_gI (zF.x zfX11_169) h0.2.2.2.1.2.2.2.2.2.2.2.2.1.1 dX11_count_126 ?_
    cases h
    exact z_iret rfl dX11_count_129
  rw [if_neg q8] at h
  by_cases q9 : x1 = 8
  · rw [if_pos q9] at h
    refine z_tableIn (off := 129) (tgt := 130) dX11_count_1 (by show ¬ x1.toInt < 0; rw [q9]; decide) (by show ¬ 10 < x1.toInt; rw [q9]; decide) (by rw [q9]; rfl) (by decide) ?_
    refine z_aload_n dX11_count_130 rfl ?_
    refine z_gI (zF.x zfX11_121) h0.1 dX11_count_131 ?_
    cases h
    exact z_iret rfl dX11_count_134
  rw [if_neg q9] at h
  by_cases q10 : x1 = 9
  · rw [if_pos q10] at h
    refine z_tableIn (off := 134) (tgt := 135) dX11_count_1 (by show ¬ x1.toInt < 0; rw [q10]; decide) (by show ¬ 10 < x1.toInt; rw [q10]; decide) (by rw [q10]; rfl) (by decide) ?_
    refine z_aload_n dX11_count_135 rfl ?_
    refine z_gR (zF.x zfX11_33) h0.1 dX11_count_136 ?_
    refine z_gI (zF.x zfX11_105) h0.2.2.2.2.2.1.1 dX11_count_139 ?_
    cases h
    exact z_iret rfl dX11_count_142
  rw [if_neg q10] at h
  by_cases q11 : x1 = 10
  · rw [if_pos q11] at h
    refine z_tableIn (off := 142) (tgt := 143) dX11_count_1 (by show ¬ x1.toInt < 0; rw [q11]; decide) (by show ¬ 10 < x1.toInt; rw [q11]; decide) (by rw [q11]; rfl) (by decide) ?_
    refine z_aload_n dX11_count_143 rfl ?_
    refine z_gI (zF.x zfX11_89) h0.1 dX11_count_144 ?_
    cases h
    exact z_iret rfl dX11_count_147
  rw [if_neg q11] at h
  have q1i : ¬ x1.toInt = 0 := zneI q1 (by decide)
  have q2i : ¬ x1.toInt = 1 := zneI q2 (by decide)
  have q3i : ¬ x1.toInt = 2 := zneI q3 (by decide)
  have q4i : ¬ x1.toInt = 3 := zneI q4 (by decide)
  have q5i : ¬ x1.toInt = 4 := zneI q5 (by decide)
  have q6i : ¬ x1.toInt = 5 := zneI q6 (by decide)
  have q7i : ¬ x1.toInt = 6 := zneI q7 (by decide)
  have q8i : ¬ x1.toInt = 7 := zneI q8 (by decide)
  have q9i : ¬ x1.toInt = 8 := zneI q9 (by decide)
  have q10i : ¬ x1.toInt = 9 := zneI q10 (by decide)
  have q11i : ¬ x1.toInt = 10 := zneI q11 (by decide)
  refine z_tableOut (tgt := 148) dX11_count_1 (by show x1.toInt < 0 ∨ 10 < x1.toInt; omega) (by decide) ?_
  refine z_bipush dX11_count_148 cB_m2 ?_
  cases h
  exact z_iret rfl dX11_count_150
/-! X11_isTellable -/
noncomputable def fX11_isTellable_b15 (T : zT) (s0 : Int32) (S : zS) : Option Int32 :=
  zgd (zbl s0) (some s0)
noncomputable def fX11_isTellable_b14 (T : zT)  (S : zS) : Option Int32 :=
  fX11_isTellable_b15 T 0 S
noncomputable def fX11_isTellable (T : zT) (x0 : Int32) (S : zS) : Option Int32 :=
  if x0 < 0 then fX11_isTellable_b14 T  S else if 60 < x0 then fX11_isTellable_b14 T  S else fX11_isTellable_b15 T 1 S
set_option maxHeartbeats 4000000 in
set_option maxRecDepth 100000 in
theorem tX11_isTellable_b15 (T : zT) (s0 : Int32) (S : zS)  {g : zG} (r : Int32) (h : fX11_isTellable_b15 T s0 S = some r)  : zg g 0 mX11_isTellable T 15 [none] [.int s0] T S (some (.int r)) T S := by
  unfold fX11_isTellable_b15 at h
  obtain ⟨q2, h⟩ := zgd_elim h
  cases h
  exact z_zret rfl (zbl_ok q2) dX11_isTellable_15
set_option maxHeartbeats 4000000 in
set_option maxRecDepth 100000 in
theorem tX11_isTellable_b14 (T : zT)  (S : zS)  {g : zG} (r : Int32) (h : fX11_isTellable_b14 T  S = some r)  : zg g 0 mX11_isTellable T 14 [none] [] T S (some (.int r)) T S := by
  unfold fX11_isTellable_b14 at h
  refine z_iconst dX11_isTellable_14 cI_0 ?_
  exact z_mask [false] rfl (tX11_isTellable_b15 T 0 S  r h)
set_option maxHeartbeats 4000000 in
set_option maxRecDepth 100000 in
theorem tX11_isTellable (T : zT) (x0 : Int32) (S : zS)  (r : Int32) (h : fX11_isTellable T x0 S = some r) : zGM 0 mX11_isTellable [.int x0] T S (some (.int r)) T S := by
  refine zGM_of zpnX11 rfl (Nat.le_of_ble_eq_true rfl) (fun g => ?_)
  show zg g 0 mX11_isTellable T 0 [some (.int x0)] [] T S (some (.int r)) T S
  unfold fX11_isTellable at h
  refine z_iload_n dX11_isTellable_0 rfl ?_
  refine z_if_lt (tgt := 14) dX11_isTellable_1 (by decide) (fun q1 => ?_) (fun q1 => ?_)
  · rw [if_pos q1] at h
    exact z_mask [false] rfl (tX11_isTellable_b14 T  S  r h)
  · rw [if_neg q1] at h
    refine z_iload_n dX11_isTellable_4 rfl ?_
    refine z_bipush dX11_isTellable_5 cB_60 ?_
    refine z_icmp_gt (tgt := 14) dX11_isTellable_7 (by decide) (fun q3 => ?_) (fun q3 => ?_)
    · rw [if_pos q3] at h
      exact z_mask [false] rfl (tX11_isTellable_b14 T  S  r h)
    · rw [if_neg q3] at h
      refine z_iconst dX11_isTellable_10 cI_1 ?_
      refine z_goto (tgt := 15) dX11_isTellable_11 (by decide) ?_
      exact z_mask [false] rfl (tX11_isTellable_b15 T 1 S  r h)
/-! X11_isRule -/
noncomputable def fX11_isRule_b23 (T : zT) (s0 : Int32) (S : zS) : Option Int32 :=
  zgd (zbl s0) (some s0)
noncomputable def fX11_isRule_b22 (T : zT)  (S : zS) : Option Int32 :=
  fX11_isRule_b23 T 0 S
noncomputable def fX11_isRule (T : zT) (k0 : Nat) (x1 : Int32) (S : zS) : Option Int32 :=
  if x1 < 0 then fX11_isRule_b22 T  S else if (S.1 k0 7) ≤ x1 then fX11_isRule_b22 T  S else if 6 ≤ x1 then fX11_isRule_b22 T  S else fX11_isRule_b23 T 1 S
set_option maxHeartbeats 4000000 in
set_option maxRecDepth 100000 in
theorem tX11_isRule_b23 (T : zT) (s0 : Int32) (S : zS)  {g : zG} (r : Int32) (h : fX11_isRule_b23 T s0 S = some r)  : zg g 0 mX11_isRule T 23 [none, none] [.int s0] T S (some (.int r)) T S := by
  unfold fX11_isRule_b23 at h
  obtain ⟨q2, h⟩ := zgd_elim h
  cases h
  exact z_zret rfl (zbl_ok q2) dX11_isRule_23
set_option maxHeartbeats 4000000 in
set_option maxRecDepth 100000 in
theorem tX11_isRule_b22 (T : zT)  (S : zS)  {g : zG} (r : Int32) (h : fX11_isRule_b22 T  S = some r)  : zg g 0 mX11_isRule T 22 [none, none] [] T S (some (.int r)) T S := by
  unfold fX11_isRule_b22 at h
  refine z_iconst dX11_isRule_22 cI_0 ?_
  exact z_mask [false, false] rfl (tX11_isRule_b23 T 0 S  r h)
set_option maxHeartbeats 4000000 in
set_option maxRecDepth 100000 in
theorem tX11_isRule (T : zT) (k0 : Nat) (x1 : Int32) (S : zS) (h0 : iX11 T k0) (r : Int32) (h : fX11_isRule T k0 x1 S = some r) : zGM 0 mX11_isRule [.ref k0, .int x1] T S (some (.int r)) T S := by
  refine zGM_of zpnX11 rfl (Nat.le_of_ble_eq_true rfl) (fun g => ?_)
  show zg g 0 mX11_isRule T 0 [some (.ref k0), some (.int x1)] [] T S (some (.int r)) T S
  unfold fX11_isRule at h
  refine z_iload_n dX11_isRule_0 rfl ?_
  refine z_if_lt (tgt := 22) dX11_isRule_1 (by decide) (fun q1 => ?_) (fun q1 => ?_)
  · rw [if_pos q1] at h
    exact z_mask [false, false] rfl (tX11_isRule_b22 T  S  r h)
  · rw [if_neg q1] at h
    refine z_iload_n dX11_isRule_4 rfl ?_
    refine z_aload_n dX11_isRule_5 rfl ?_
    refine z_gI (zF.x zfX11_121) h0.1 dX11_isRule_6 ?_
    refine z_icmp_ge (tgt := 22) dX11_isRule_9 (by decide) (fun q3 => ?_) (fun q3 => ?_)
    · rw [if_pos q3] at h
      exact z_mask [false, false] rfl (tX11_isRule_b22 T  S  r h)
    · rw [if_neg q3] at h
      refine z_iload_n dX11_isRule_12 rfl ?_
      refine z_bipush dX11_isRule_13 cB_6 ?_
      refine z_icmp_ge (tgt := 22) dX11_isRule_15 (by decide) (fun q4 => ?_) (fun q4 => ?_)
      · rw [if_pos q4] at h
        exact z_mask [false, false] rfl (tX11_isRule_b22 T  S  r h)
      · rw [if_neg q4] at h
        refine z_iconst dX11_isRule_18 cI_1 ?_
        refine z_goto (tgt := 23) dX11_isRule_19 (by decide) ?_
        exact z_mask [false, false] rfl (tX11_isRule_b23 T 1 S  r h)
/-! X11_row -/
noncomputable def fX11_row_b15 (T : zT)  (S : zS) : Option (Int32 × zS) :=
  some (0, S)
noncomputable def fX11_row (T : zT) (k0 : Nat) (x1 : Int32) (S : zS) : Option (Int32 × zS) :=
  if x1 < 0 then fX11_row_b15 T  S else if x1 ≤ (S.1 (zr T k0 5) 3) then zlet (zI S (zr T k0 5) 3 x1) fun S3 => some (1, S3) else fX11_row_b15 T  S
set_option maxHeartbeats 4000000 in
set_option maxRecDepth 100000 in
theorem tX11_row_b15 (T : zT)  (S : zS)  {g : zG} (r : (Int32 × zS)) (h : fX11_row_b15 T  S = some r)  : zg g 0 mX11_row T 15 [none, none] [] T S (some (.int r.1)) T r.2 := by
  unfold fX11_row_b15 at h
  refine z_iconst dX11_row_15 cI_0 ?_
  cases h
  exact z_zret rfl (Or.inl rfl) dX11_row_16
set_option maxHeartbeats 4000000 in
set_option maxRecDepth 100000 in
theorem tX11_row (T : zT) (k0 : Nat) (x1 : Int32) (S : zS) (h0 : iX11 T k0) (r : Int32 × zS) (h : fX11_row T k0 x1 S = some r) : zGM 0 mX11_row [.ref k0, .int x1] T S (some (.int r.1)) T r.2 := by
  refine zGM_of zpnX11 rfl (Nat.le_of_ble_eq_true rfl) (fun g => ?_)
  show zg g 0 mX11_row T 0 [some (.ref k0), some (.int x1)] [] T S (some (.int r.1)) T r.2
  unfold fX11_row at h
  refine z_iload_n dX11_row_0 rfl ?_
  refine z_if_lt (tgt := 15) dX11_row_1 (by decide) (fun q1 => ?_) (fun q1 => ?_)
  · rw [if_pos q1] at h
    exact z_mask [false, false] rfl (tX11_row_b15 T  S  r h)
  · rw [if_neg q1] at h
    refine z_iload_n dX11_row_4 rfl ?_
    refine z_aload_n dX11_row_5 rfl ?_
    refine z_gR (zF.x zfX11_33) h0.1 dX11_row_6 ?_
    refine z_gI (zF.x zfX11_105) h0.2.2.2.2.2.1.1 dX11_row_9 ?_
    refine z_icmp_le (tgt := 17) dX11_row_12 (by decide) (fun q2 => ?_) (fun q2 => ?_)
    · rw [if_pos q2] at h
      refine z_aload_n dX11_row_17 rfl ?_
      refine z_gR (zF.x zfX11_33) h0.1 dX11_row_18 ?_
      refine z_iload_n dX11_row_21 rfl ?_
      refine z_putI zfX11_105 h0.2.2.2.2.2.1.1 dX11_row_22 ?_
      obtain ⟨S3, eS3, h⟩ := zlet_elim h
      refine z_tS eS3 ?_
      refine z_iconst dX11_row_25 cI_1 ?_
      cases h
      exact z_zret rfl (Or.inr rfl) dX11_row_26
    · rw [if_neg q2] at h
      exact z_mask [false, false] rfl (tX11_row_b15 T  S  r h)
/-! X11_orLacking -/
noncomputable def fX11_orLacking_b10 (T : zT) (s0 : Int32) (S : zS) : Option Int32 :=
  some s0
noncomputable def fX11_orLacking (T : zT) (x0 : Int32) (S : zS) : Option Int32 :=
  if 0 ≤ x0 then fX11_orLacking_b10 T x0 S else fX11_orLacking_b10 T (-2) S
set_option maxHeartbeats 4000000 in
set_option maxRecDepth 100000 in
theorem tX11_orLacking_b10 (T : zT) (s0 : Int32) (S : zS)  {g : zG} (r : Int32) (h : fX11_orLacking_b10 T s0 S = some r)  : zg g 0 mX11_orLacking T 10 [none] [.int s0] T S (some (.int r)) T S := by
  unfold fX11_orLacking_b10 at h
  cases h
  exact z_iret rfl dX11_orLacking_10
set_option maxHeartbeats 4000000 in
set_option maxRecDepth 100000 in
theorem tX11_orLacking (T : zT) (x0 : Int32) (S : zS)  (r : Int32) (h : fX11_orLacking T x0 S = some r) : zGM 0 mX11_orLacking [.int x0] T S (some (.int r)) T S := by
  refine zGM_of zpnX11 rfl (Nat.le_of_ble_eq_true rfl) (fun g => ?_)
  show zg g 0 mX11_orLacking T 0 [some (.int x0)] [] T S (some (.int r)) T S
  unfold fX11_orLacking at h
  refine z_iload_n dX11_orLacking_0 rfl ?_
  refine z_if_ge (tgt := 9) dX11_orLacking_1 (by decide) (fun q1 => ?_) (fun q1 => ?_)
  · rw [if_pos q1] at h
    refine z_iload_n dX11_orLacking_9 rfl ?_
    exact z_mask [false] rfl (tX11_orLacking_b10 T x0 S  r h)
  · rw [if_neg q1] at h
    refine z_bipush dX11_orLacking_4 cB_m2 ?_
    refine z_goto (tgt := 10) dX11_orLacking_6 (by decide) ?_
    exact z_mask [false] rfl (tX11_orLacking_b10 T (-2) S  r h)
/-! X11_isDrawable -/
noncomputable def fX11_isDrawable_b20 (T : zT) (s0 : Int32) (S : zS) : Option Int32 :=
  zgd (zbl s0) (some s0)
noncomputable def fX11_isDrawable_b19 (T : zT)  (S : zS) : Option Int32 :=
  fX11_isDrawable_b20 T 0 S
noncomputable def fX11_isDrawable (T : zT) (x0 : Int32) (x1 : Int32) (S : zS) : Option Int32 :=
  if x0 < 0 then fX11_isDrawable_b19 T  S else if x1 < 1 then fX11_isDrawable_b19 T  S else if 100 < x1 then fX11_isDrawable_b19 T  S else fX11_isDrawable_b20 T 1 S
set_option maxHeartbeats 4000000 in
set_option maxRecDepth 100000 in
theorem tX11_isDrawable_b20 (T : zT) (s0 : Int32) (S : zS)  {g : zG} (r : Int32) (h : fX11_isDrawable_b20 T s0 S = some r)  : zg g 0 mX11_isDrawable T 20 [none, none] [.int s0] T S (some (.int r)) T S := by
  unfold fX11_isDrawable_b20 at h
  obtain ⟨q2, h⟩ := zgd_elim h
  cases h
  exact z_zret rfl (zbl_ok q2) dX11_isDrawable_20
set_option maxHeartbeats 4000000 in
set_option maxRecDepth 100000 in
theorem tX11_isDrawable_b19 (T : zT)  (S : zS)  {g : zG} (r : Int32) (h : fX11_isDrawable_b19 T  S = some r)  : zg g 0 mX11_isDrawable T 19 [none, none] [] T S (some (.int r)) T S := by
  unfold fX11_isDrawable_b19 at h
  refine z_iconst dX11_isDrawable_19 cI_0 ?_
  exact z_mask [false, false] rfl (tX11_isDrawable_b20 T 0 S  r h)
set_option maxHeartbeats 4000000 in
set_option maxRecDepth 100000 in
theorem tX11_isDrawable (T : zT) (x0 : Int32) (x1 : Int32) (S : zS)  (r : Int32) (h : fX11_isDrawable T x0 x1 S = some r) : zGM 0 mX11_isDrawable [.int x0, .int x1] T S (some (.int r)) T S := by
  refine zGM_of zpnX11 rfl (Nat.le_of_ble_eq_true rfl) (fun g => ?_)
  show zg g 0 mX11_isDrawable T 0 [some (.int x0), some (.int x1)] [] T S (some (.int r)) T S
  unfold fX11_isDrawable at h
  refine z_iload_n dX11_isDrawable_0 rfl ?_
  refine z_if_lt (tgt := 19) dX11_isDrawable_1 (by decide) (fun q1 => ?_) (fun q1 => ?_)
  · rw [if_pos q1] at h
    exact z_mask [false, false] rfl (tX11_isDrawable_b19 T  S  r h)
  · rw [if_neg q1] at h
    refine z_iload_n dX11_isDrawable_4 rfl ?_
    refine z_iconst dX11_isDrawable_5 cI_1 ?_
    refine z_icmp_lt (tgt := 19) dX11_isDrawable_6 (by decide) (fun q3 => ?_) (fun q3 => ?_)
    · rw [if_pos q3] at h
      exact z_mask [false, false] rfl (tX11_isDrawable_b19 T  S  r h)
    · rw [if_neg q3] at h
      refine z_iload_n dX11_isDrawable_9 rfl ?_
      refine z_bipush dX11_isDrawable_10 cB_100 ?_
      refine z_icmp_gt (tgt := 19) dX11_isDrawable_12 (by decide) (fun q4 => ?_) (fun q4 => ?_)
      · rw [if_pos q4] at h
        exact z_mask [false, false] rfl (tX11_isDrawable_b19 T  S  r h)
      · rw [if_neg q4] at h
        refine z_iconst dX11_isDrawable_15 cI_1 ?_
        refine z_goto (tgt := 20) dX11_isDrawable_16 (by decide) ?_
        exact z_mask [false, false] rfl (tX11_isDrawable_b20 T 1 S  r h)
/-! X11_chanceOf -/
noncomputable def fX11_chanceOf_b49 (T : zT) (k0 : Nat) (x1 : Int32) (l2 : Int64) (x4 : Int32) (s0 : Int32) (S : zS) : Option ((Int64 × Int32) ⊕ Int64) :=
  zlet ((l2 * ((s0 : Int32).toInt64)) / 1000) fun w3 => zlet (x4 + 1) fun u4 => some (.inl (w3, u4))
noncomputable def fX11_chanceOf_l7 (T : zT) (k0 : Nat) (x1 : Int32) (S : zS) (l2 : Int64) (x4 : Int32) : Option ((Int64 × Int32) ⊕ Int64) :=
  if (S.1 (zr T k0 3) 1) ≤ x4 then some (.inr l2) else if ((x1 >>> (x4 &&& 31)) &&& 1) = 0 then fX11_chanceOf_b49 T k0 x1 l2 x4 (1000 - (S.1 (zr T k0 3) 3)) S else fX11_chanceOf_b49 T k0 x1 l2 x4 (S.1 (zr T k0 3) 3) S
noncomputable def fX11_chanceOf (T : zT) (k0 : Nat) (x1 : Int32) (S : zS) : Option Int32 :=
  zb1 (lp (fun a => fX11_chanceOf_l7 T k0 x1 S a.1 a.2) (1000000000, 0)) fun e5 => some ((e5 : Int64).toInt32)
set_option maxHeartbeats 4000000 in
set_option maxRecDepth 100000 in
theorem tX11_chanceOf_b49 (T : zT) (k0 : Nat) (x1 : Int32) (l2 : Int64) (x4 : Int32) (s0 : Int32) (S : zS) (h0 : iX11 T k0) {g : zG} {v : Option Value} {S' : zS} (r : ((Int64 × Int32) ⊕ Int64)) (h : fX11_chanceOf_b49 T k0 x1 l2 x4 s0 S = some r) (K1 : ∀ a : (Int64 × Int32), r = .inl a → zg g 0 mX11_chanceOf T 7 [some (.ref k0), some (.int x1), some (.long a.1), none, some (.int a.2), none] [] T S v T S') (K2_0 : ∀ e : Int64, r = .inr e → zg g 0 mX11_chanceOf T 67 [none, none, some (.long e), none, none, none] [] T S v T S') : zg g 0 mX11_chanceOf T 49 [some (.ref k0), some (.int x1), some (.long l2), none, some (.int x4), none] [.int s0] T S v T S' := by
  unfold fX11_chanceOf_b49 at h
  refine z_istore dX11_chanceOf_49 rfl (by decide) rfl ?_
  refine z_lload_n dX11_chanceOf_51 rfl ?_
  refine z_iload dX11_chanceOf_52 rfl ?_
  refine z_i2l dX11_chanceOf_54 rfl ?_
  refine z_lmul dX11_chanceOf_55 rfl ?_
  refine z_ldc2 znX11_325 dX11_chanceOf_56 ?_
  refine z_ldiv dX11_chanceOf_59 (by decide) rfl ?_
  obtain ⟨w3, ew3, h⟩ := zlet_elim h
  refine z_tl ew3 ?_
  refine z_lstore_n dX11_chanceOf_60 rfl (by decide) rfl ?_
  obtain ⟨u4, eu4, h⟩ := zlet_elim h
  refine z_iinc (r := u4) dX11_chanceOf_61 rfl (by rw [eu4, cI_1]) rfl (by decide) rfl ?_
  refine z_goto (tgt := 7) dX11_chanceOf_64 (by decide) ?_
  cases h
  exact z_mask [true, true, true, false, true, false] rfl (K1 _ rfl)
set_option maxHeartbeats 4000000 in
set_option maxRecDepth 100000 in
theorem tX11_chanceOf_l7b (T : zT) (k0 : Nat) (x1 : Int32) (S : zS) (l2 : Int64) (x4 : Int32) (h0 : iX11 T k0) {g : zG} {v : Option Value} {S' : zS} (r : (Int64 × Int32) ⊕ Int64) (h : fX11_chanceOf_l7 T k0 x1 S l2 x4 = some r) (K1 : ∀ a : (Int64 × Int32), r = .inl a → zg g 0 mX11_chanceOf T 7 [some (.ref k0), some (.int x1), some (.long a.1), none, some (.int a.2), none] [] T S v T S') (K2_0 : ∀ e : Int64, r = .inr e → zg g 0 mX11_chanceOf T 67 [none, none, some (.long e), none, none, none] [] T S v T S') : zg g 0 mX11_chanceOf T 7 [some (.ref k0), some (.int x1), some (.long l2), none, some (.int x4), none] [] T S v T S' := by
  unfold fX11_chanceOf_l7 at h
  refine z_iload dX11_chanceOf_7 rfl ?_
  refine z_aload_n dX11_chanceOf_9 rfl ?_
  refine z_gR (zF.x zfX11_23) h0.1 dX11_chanceOf_10 ?_
  refine z_gI (zF.x zfX11_150) h0.2.2.2.1.1 dX11_chanceOf_13 ?_
  refine z_icmp_ge (tgt := 67) dX11_chanceOf_16 (by decide) (fun q1 => ?_) (fun q1 => ?_)
  · rw [if_pos q1] at h
    cases h
    exact z_mask [false, false, true, false, false, false] rfl (K2_0 _ rfl)
  · rw [if_neg q1] at h
    refine z_iload_n dX11_chanceOf_19 rfl ?_
    refine z_iload dX11_chanceOf_20 rfl ?_
    refine z_ishr dX11_chanceOf_22 rfl ?_
    refine z_iconst dX11_chanceOf_23 cI_1 ?_
    refine z_iand dX11_chanceOf_24 rfl ?_
    refine z_if_eq (tgt := 38) dX11_chanceOf_25 (by decide) (fun q2 => ?_) (fun q2 => ?_)
    · rw [if_pos q2] at h
      refine z_sipush dX11_chanceOf_38 cS_1000 ?_
      refine z_aload_n dX11_chanceOf_41 rfl ?_
      refine z_gR (zF.x zfX11_23) h0.1 dX11_chanceOf_42 ?_
      refine z_gI (zF.x zfX11_156) h0.2.2.2.1.1 dX11_chanceOf_45 ?_
      refine z_isub dX11_chanceOf_48 rfl ?_
      exact z_mask [true, true, true, false, true, false] rfl (tX11_chanceOf_b49 T k0 x1 l2 x4 (1000 - (S.1 (zr T k0 3) 3)) S h0 r h K1 K2_0)
    · rw [if_neg q2] at h
      refine z_aload_n dX11_chanceOf_28 rfl ?_
      refine z_gR (zF.x zfX11_23) h0.1 dX11_chanceOf_29 ?_
      refine z_gI (zF.x zfX11_156) h0.2.2.2.1.1 dX11_chanceOf_32 ?_
      refine z_goto (tgt := 49) dX11_chanceOf_35 (by decide) ?_
      exact z_mask [true, true, true, false, true, false] rfl (tX11_chanceOf_b49 T k0 x1 l2 x4 (S.1 (zr T k0 3) 3) S h0 r h K1 K2_0)
set_option maxHeartbeats 4000000 in
set_option maxRecDepth 100000 in
theorem tX11_chanceOf_l7 (T : zT) (k0 : Nat) (x1 : Int32) (S : zS) (h0 : iX11 T k0) {g : zG} {v : Option Value} {S' : zS} : ∀ (n : Nat) (a : (Int64 × Int32)) (e : Int64), lpn (fun a => fX11_chanceOf_l7 T k0 x1 S a.1 a.2) n a = some e → (∀ e1 : Int64, e = e1 → zg g 0 mX11_chanceOf T 67 [none, none, some (.long e1), none, none, none] [] T S v T S') → zg g 0 mX11_chanceOf T 7 [some (.ref k0), some (.int x1), some (.long a.1), none, some (.int a.2), none] [] T S v T S' := by
  intro n
  induction n with
  | zero =>
    intro a e h
    cases h
  | succ n ih =>
    intro a e h k0_
    rcases lpn_succ h with ⟨a1, ha_, hb_⟩ | ha_
    · exact tX11_chanceOf_l7b T k0 x1 S a.1 a.2 h0 _ ha_ (fun a2 q => by cases q; exact ih a1 e hb_ k0_) (fun e1 q => by cases q)
    · exact tX11_chanceOf_l7b T k0 x1 S a.1 a.2 h0 _ ha_ (fun a2 q => by cases q) (fun e1 q => by cases q; exact k0_ _ rfl)
set_option maxHeartbeats 4000000 in
set_option maxRecDepth 100000 in
theorem tX11_chanceOf (T : zT) (k0 : Nat) (x1 : Int32) (S : zS) (h0 : iX11 T k0) (r : Int32) (h : fX11_chanceOf T k0 x1 S = some r) : zGM 0 mX11_chanceOf [.ref k0, .int x1] T S (some (.int r)) T S := by
  refine zGM_of zpnX11 rfl (Nat.le_of_ble_eq_true rfl) (fun g => ?_)
  show zg g 0 mX11_chanceOf T 0 [some (.ref k0), some (.int x1), none, none, none, none] [] T S (some (.int r)) T S
  unfold fX11_chanceOf at h
  refine z_ldc2 znX11_323 dX11_chanceOf_0 ?_
  refine z_lstore_n dX11_chanceOf_3 rfl (by decide) rfl ?_
  refine z_iconst dX11_chanceOf_4 cI_0 ?_
  refine z_istore dX11_chanceOf_5 rfl (by decide) rfl ?_
  obtain ⟨e5, hl6, h⟩ := zb1_elim h
  obtain ⟨nf7, hl6⟩ := lp_some hl6
  refine z_mask [true, true, true, false, true, false] rfl (tX11_chanceOf_l7 T k0 x1 S h0 nf7 (1000000000, 0) e5 hl6 (fun e_ q => ?_))
  · cases q
    refine z_lload_n dX11_chanceOf_67 rfl ?_
    refine z_l2i dX11_chanceOf_68 rfl ?_
    cases h
    exact z_iret rfl dX11_chanceOf_69
/-! X11_feed -/
noncomputable def fX11_feed (T : zT) (k0 : Nat) (x1 : Int32) (x2 : Int32) (x3 : Int32) (x4 : Int32) (x5 : Int32) (S : zS) : Option (Int32 × zS) :=
  if ((S.1 k0 1) + 20) ≤ 400 then zb (fX11_putBytes T k0 x1 S) fun _ S4 => zb (fX11_putBytes T k0 x2 S4) fun _ S7 => zb (fX11_putBytes T k0 x3 S7) fun _ S10 => zb (fX11_putBytes T k0 x4 S10) fun _ S13 => zb (fX11_putBytes T k0 x5 S13) fun _ S16 => some ((S16.1 k0 1), S16) else some ((-1), S)
set_option maxHeartbeats 4000000 in
set_option maxRecDepth 100000 in
theorem tX11_feed (T : zT) (k0 : Nat) (x1 : Int32) (x2 : Int32) (x3 : Int32) (x4 : Int32) (x5 : Int32) (S : zS) (h0 : iX11 T k0) (r : Int32 × zS) (h : fX11_feed T k0 x1 x2 x3 x4 x5 S = some r) : zGM 1 mX11_feed [.ref k0, .int x1, .int x2, .int x3, .int x4, .int x5] T S (some (.int r.1)) T r.2 := by
  refine zGM_of zpnX11 rfl (Nat.le_of_ble_eq_true rfl) (fun g => ?_)
  show zg g 1 mX11_feed T 0 [some (.ref k0), some (.int x1), some (.int x2), some (.int x3), some (.int x4), some (.int x5)] [] T S (some (.int r.1)) T r.2
  unfold fX11_feed at h
  refine z_aload_n dX11_feed_0 rfl ?_
  refine z_gI (zF.x zfX11_89) h0.1 dX11_feed_1 ?_
  refine z_bipush dX11_feed_4 cB_20 ?_
  refine z_iadd dX11_feed_6 rfl ?_
  refine z_sipush dX11_feed_7 cS_400 ?_
  refine z_icmp_le (tgt := 15) dX11_feed_10 (by decide) (fun q1 => ?_) (fun q1 => ?_)
  · rw [if_pos q1] at h
    refine z_aload_n dX11_feed_15 rfl ?_
    refine z_iload_n dX11_feed_16 rfl ?_
    obtain ⟨r2, S4, hc3, h⟩ := zb_elim h
    refine z_callV (As := [.int x1]) zcX11 zkX11_93 ziX11_putBytes zqX11_putBytes h0.1 (tX11_putBytes T k0 x1 S h0 (r2, S4) hc3) rfl rfl (Nat.le_of_ble_eq_true rfl) (by decide) ⟨Nat.le_refl _, Nat.le_refl _⟩ ⟨Nat.le_refl _, Nat.le_refl _⟩ dX11_feed_17 ?_
    refine z_aload_n dX11_feed_20 rfl ?_
    refine z_iload_n dX11_feed_21 rfl ?_
    obtain ⟨r5, S7, hc6, h⟩ := zb_elim h
    refine z_callV (As := [.int x2]) zcX11 zkX11_93 ziX11_putBytes zqX11_putBytes h0.1 (tX11_putBytes T k0 x2 S4 h0 (r5, S7) hc6) rfl rfl (Nat.le_of_ble_eq_true rfl) (by decide) ⟨Nat.le_refl _, Nat.le_refl _⟩ ⟨Nat.le_refl _, Nat.le_refl _⟩ dX11_feed_22 ?_
    refine z_aload_n dX11_feed_25 rfl ?_
    refine z_iload_n dX11_feed_26 rfl ?_
    obtain ⟨r8, S10, hc9, h⟩ := zb_elim h
    refine z_callV (As := [.int x3]) zcX11 zkX11_93 ziX11_putBytes zqX11_putBytes h0.1 (tX11_putBytes T k0 x3 S7 h0 (r8, S10) hc9) rfl rfl (Nat.le_of_ble_eq_true rfl) (by decide) ⟨Nat.le_refl _, Nat.le_refl _⟩ ⟨Nat.le_refl _, Nat.le_refl _⟩ dX11_feed_27 ?_
    refine z_aload_n dX11_feed_30 rfl ?_
    refine z_iload dX11_feed_31 rfl ?_
    obtain ⟨r11, S13, hc12, h⟩ := zb_elim h
    refine z_callV (As := [.int x4]) zcX11 zkX11_93 ziX11_putBytes zqX11_putBytes h0.1 (tX11_putBytes T k0 x4 S10 h0 (r11, S13) hc12) rfl rfl (Nat.le_of_ble_eq_true rfl) (by decide) ⟨Nat.le_refl _, Nat.le_refl _⟩ ⟨Nat.le_refl _, Nat.le_refl _⟩ dX11_feed_33 ?_
    refine z_aload_n dX11_feed_36 rfl ?_
    refine z_iload dX11_feed_37 rfl ?_
    obtain ⟨r14, S16, hc15, h⟩ := zb_elim h
    refine z_callV (As := [.int x5]) zcX11 zkX11_93 ziX11_putBytes zqX11_putBytes h0.1 (tX11_putBytes T k0 x5 S13 h0 (r14, S16) hc15) rfl rfl (Nat.le_of_ble_eq_true rfl) (by decide) ⟨Nat.le_refl _, Nat.le_refl _⟩ ⟨Nat.le_refl _, Nat.le_refl _⟩ dX11_feed_39 ?_
    refine z_aload_n dX11_feed_42 rfl ?_
    refine z_gI (zF.x zfX11_89) h0.1 dX11_feed_43 ?_
    cases h
    exact z_iret rfl dX11_feed_46
  · rw [if_neg q1] at h
    refine z_iconst dX11_feed_13 cI_m1 ?_
    cases h
    exact z_iret rfl dX11_feed_14
/-! X11_thing -/
noncomputable def fX11_thing (T : zT) (k0 : Nat) (x1 : Int32) (x2 : Int32) (S : zS) : Option Int32 :=
  zb1 (fX0_has T (zr T k0 3) x1 S) fun r1 => if r1 = 0 then some (-2) else if x2 = 0 then zgd (zin x1 8) (some (S.1 (zr T (zr T k0 3) 6) (x1 : Int32).toNatClampNeg)) else if x2 = 1 then zgd (zin x1 8) (some (S.1 (zr T (zr T k0 3) 7) (x1 : Int32).toNatClampNeg)) else if x2 = 2 then zgd (zin x1 8) (some (S.1 (zr T (zr T k0 3) 8) (x1 : Int32).toNatClampNeg)) else if x2 = 3 then zgd (zin x1 8) (some (S.1 (zr T (zr T k0 3) 9) (x1 : Int32).toNatClampNeg)) else if x2 = 4 then zgd (zin x1 8) (some (S.1 (zr T (zr T k0 3) 10) (x1 : Int32).toNatClampNeg)) else if x2 = 5 then zgd (zin x1 8) (some (S.1 (zr T (zr T k0 3) 11) (x1 : Int32).toNatClampNeg)) else some (-2)
set_option maxHeartbeats 4000000 in
set_option maxRecDepth 100000 in
theorem tX11_thing (T : zT) (k0 : Nat) (x1 : Int32) (x2 : Int32) (S : zS) (h0 : iX11 T k0) (r : Int32) (h : fX11_thing T k0 x1 x2 S = some r) : zGM 1 mX11_thing [.ref k0, .int x1, .int x2] T S (some (.int r)) T S := by
  refine zGM_of zpnX11 rfl (Nat.le_of_ble_eq_true rfl) (fun g => ?_)
  show zg g 1 mX11_thing T 0 [some (.ref k0), some (.int x1), some (.int x2)] [] T S (some (.int r)) T S
  unfold fX11_thing at h
  refine z_aload_n dX11_thing_0 rfl ?_
  refine z_gR (zF.x zfX11_23) h0.1 dX11_thing_1 ?_
  refine z_iload_n dX11_thing_4 rfl ?_
  obtain ⟨r1, hc2, h⟩ := zb1_elim h
  refine z_callV (As := [.int x1]) zcX0 zkX11_128 ziX0_has zqX0_has h0.2.2.2.1.1 (tX0_has T (zr T k0 3) x1 S h0.2.2.2.1 r1 hc2) rfl rfl (Nat.le_of_ble_eq_true rfl) (by decide) ⟨Nat.le_refl _, Nat.le_refl _⟩ ⟨Nat.le_refl _, Nat.le_refl _⟩ dX11_thing_5 ?_
  refine z_if_ne (tgt := 14) dX11_thing_8 (by decide) (fun q3 => ?_) (fun q3 => ?_)
  · rw [if_neg q3] at h
    refine z_iload_n dX11_thing_14 rfl ?_
    by_cases q4 : x2 = 0
    · rw [if_pos q4] at h
      refine z_tableIn (off := 37) (tgt := 52) dX11_thing_15 (by show ¬ x2.toInt < 0; rw [q4]; decide) (by show ¬ 5 < x2.toInt; rw [q4]; decide) (by rw [q4]; rfl) (by decide) ?_
      refine z_aload_n dX11_thing_52 rfl ?_
      refine z_gR (zF.x zfX11_23) h0.1 dX11_thing_53 ?_
      refine z_gA zfX11_132 h0.2.2.2.1.1 dX11_thing_56 ?_
      refine z_iload_n dX11_thing_59 rfl ?_
      obtain ⟨q5, h⟩ := zgd_elim h
      refine z_iald h0.2.2.2.1.2.1 (zin_ok q5) dX11_thing_60 ?_
      cases h
      exact z_iret rfl dX11_thing_61
    rw [if_neg q4] at h
    by_cases q6 : x2 = 1
    · rw [if_pos q6] at h
      refine z_tableIn (off := 47) (tgt := 62) dX11_thing_15 (by show ¬ x2.toInt < 0; rw [q6]; decide) (by show ¬ 5 < x2.toInt; rw [q6]; decide) (by rw [q6]; rfl) (by decide) ?_
      refine z_aload_n dX11_thing_62 rfl ?_
      refine z_gR (zF.x zfX11_23) h0.1 dX11_thing_63 ?_
      refine z_gA zfX11_135 h0.2.2.2.1.1 dX11_thing_66 ?_
      refine z_iload_n dX11_thing_69 rfl ?_
      obtain ⟨q7, h⟩ := zgd_elim h
      refine z_iald h0.2.2.2.1.2.2.1 (zin_ok q7) dX11_thing_70 ?_
      cases h
      exact z_iret rfl dX11_thing_71
    rw [if_neg q6] at h
    by_cases q8 : x2 = 2
    · rw [if_pos q8] at h
      refine z_tableIn (off := 57) (tgt := 72) dX11_thing_15 (by show ¬ x2.toInt < 0; rw [q8]; decide) (by show ¬ 5 < x2.toInt; rw [q8]; decide) (by rw [q8]; rfl) (by decide) ?_
      refine z_aload_n dX11_thing_72 rfl ?_
      refine z_gR (zF.x zfX11_23) h0.1 dX11_thing_73 ?_
      refine z_gA zfX11_138 h0.2.2.2.1.1 dX11_thing_76 ?_
      refine z_iload_n dX11_thing_79 rfl ?_
      obtain ⟨q9, h⟩ := zgd_elim h
      refine z_iald h0.2.2.2.1.2.2.2.1 (zin_ok q9) dX11_thing_80 ?_
      cases h
      exact z_iret rfl dX11_thing_81
    rw [if_neg q8] at h
    by_cases q10 : x2 = 3
    · rw [if_pos q10] at h
      refine z_tableIn (off := 67) (tgt := 82) dX11_thing_15 (by show ¬ x2.toInt < 0; rw [q10]; decide) (by show ¬ 5 < x2.toInt; rw [q10]; decide) (by rw [q10]; rfl) (by decide) ?_
      refine z_aload_n dX11_thing_82 rfl ?_
      refine z_gR (zF.x zfX11_23) h0.1 dX11_thing_83 ?_
      refine z_gA zfX11_141 h0.2.2.2.1.1 dX11_thing_86 ?_
      refine z_iload_n dX11_thing_89 rfl ?_
      obtain ⟨q11, h⟩ := zgd_elim h
      refine z_iald h0.2.2.2.1.2.2.2.2.1 (zin_ok q11) dX11_thing_90 ?_
      cases h
      exact z_iret rfl dX11_thing_91
    rw [if_neg q10] at h
    by_cases q12 : x2 = 4
    · rw [if_pos q12] at h
      refine z_tableIn (off := 77) (tgt := 92) dX11_thing_15 (by show ¬ x2.toInt < 0; rw [q12]; decide) (by show ¬ 5 < x2.toInt; rw [q12]; decide) (by rw [q12]; rfl) (by decide) ?_
      refine z_aload_n dX11_thing_92 rfl ?_
      refine z_gR (zF.x zfX11_23) h0.1 dX11_thing_93 ?_
      refine z_gA zfX11_144 h0.2.2.2.1.1 dX11_thing_96 ?_
      refine z_iload_n dX11_thing_99 rfl ?_
      obtain ⟨q13, h⟩ := zgd_elim h
      refine z_iald h0.2.2.2.1.2.2.2.2.2.1 (zin_ok q13) dX11_thing_100 ?_
      cases h
      exact z_iret rfl dX11_thing_101
    rw [if_neg q12] at h
    by_cases q14 : x2 = 5
    · rw [if_pos q14] at h
      refine z_tableIn (off := 87) (tgt := 102) dX11_thing_15 (by show ¬ x2.toInt < 0; rw [q14]; decide) (by show ¬ 5 < x2.toInt; rw [q14]; decide) (by rw [q14]; rfl) (by decide) ?_
      refine z_aload_n dX11_thing_102 rfl ?_
      refine z_gR (zF.x zfX11_23) h0.1 dX11_thing_103 ?_
      refine z_gA zfX11_147 h0.2.2.2.1.1 dX11_thing_106 ?_
      refine z_iload_n dX11_thing_109 rfl ?_
      obtain ⟨q15, h⟩ := zgd_elim h
      refine z_iald h0.2.2.2.1.2.2.2.2.2.2.1 (zin_ok q15) dX11_thing_110 ?_
      cases h
      exact z_iret rfl dX11_thing_111
    rw [if_neg q14] at h
    have q4i : ¬ x2.toInt = 0 := zneI q4 (by decide)
    have q6i : ¬ x2.toInt = 1 := zneI q6 (by decide)
    have q8i : ¬ x2.toInt = 2 := zneI q8 (by decide)
    have q10i : ¬ x2.toInt = 3 := zneI q10 (by decide)
    have q12i : ¬ x2.toInt = 4 := zneI q12 (by decide)
    have q14i : ¬ x2.toInt = 5 := zneI q14 (by decide)
    refine z_tableOut (tgt := 112) dX11_thing_15 (by show x2.toInt < 0 ∨ 5 < x2.toInt; omega) (by decide) ?_
    refine z_bipush dX11_thing_112 cB_m2 ?_
    cases h
    exact z_iret rfl dX11_thing_114
  · rw [if_pos q3] at h
    refine z_bipush dX11_thing_11 cB_m2 ?_
    cases h
    exact z_iret rfl dX11_thing_13
/-! X11_owed -/
noncomputable def fX11_owed_b31 (T : zT) (s0 : Int32) (S : zS) : Option Int32 :=
  some s0
noncomputable def fX11_owed_b30 (T : zT)  (S : zS) : Option Int32 :=
  fX11_owed_b31 T (-1) S
noncomputable def fX11_owed (T : zT) (k0 : Nat) (x1 : Int32) (x2 : Int32) (S : zS) : Option Int32 :=
  zb1 (fX0_has T (zr T k0 3) x1 S) fun r1 => if r1 = 0 then fX11_owed_b30 T  S else zb1 (fX11_isTellable T x2 S) fun r4 => if r4 = 0 then fX11_owed_b30 T  S else zb1 (fX0_firstOwed T (zr T k0 3) x1 x2 S) fun r7 => fX11_owed_b31 T r7 S
set_option maxHeartbeats 4000000 in
set_option maxRecDepth 100000 in
theorem tX11_owed_b31 (T : zT) (s0 : Int32) (S : zS)  {g : zG} (r : Int32) (h : fX11_owed_b31 T s0 S = some r)  : zg g 1 mX11_owed T 31 [none, none, none] [.int s0] T S (some (.int r)) T S := by
  unfold fX11_owed_b31 at h
  cases h
  exact z_iret rfl dX11_owed_31
set_option maxHeartbeats 4000000 in
set_option maxRecDepth 100000 in
theorem tX11_owed_b30 (T : zT)  (S : zS)  {g : zG} (r : Int32) (h : fX11_owed_b30 T  S = some r)  : zg g 1 mX11_owed T 30 [none, none, none] [] T S (some (.int r)) T S := by
  unfold fX11_owed_b30 at h
  refine z_iconst dX11_owed_30 cI_m1 ?_
  exact z_mask [false, false, false] rfl (tX11_owed_b31 T (-1) S  r h)
set_option maxHeartbeats 4000000 in
set_option maxRecDepth 100000 in
theorem tX11_owed (T : zT) (k0 : Nat) (x1 : Int32) (x2 : Int32) (S : zS) (h0 : iX11 T k0) (r : Int32) (h : fX11_owed T k0 x1 x2 S = some r) : zGM 1 mX11_owed [.ref k0, .int x1, .int x2] T S (some (.int r)) T S := by
  refine zGM_of zpnX11 rfl (Nat.le_of_ble_eq_true rfl) (fun g => ?_)
  show zg g 1 mX11_owed T 0 [some (.ref k0), some (.int x1), some (.int x2)] [] T S (some (.int r)) T S
  unfold fX11_owed at h
  refine z_aload_n dX11_owed_0 rfl ?_
  refine z_gR (zF.x zfX11_23) h0.1 dX11_owed_1 ?_
  refine z_iload_n dX11_owed_4 rfl ?_
  obtain ⟨r1, hc2, h⟩ := zb1_elim h
  refine z_callV (As := [.int x1]) zcX0 zkX11_128 ziX0_has zqX0_has h0.2.2.2.1.1 (tX0_has T (zr T k0 3) x1 S h0.2.2.2.1 r1 hc2) rfl rfl (Nat.le_of_ble_eq_true rfl) (by decide) ⟨Nat.le_refl _, Nat.le_refl _⟩ ⟨Nat.le_refl _, Nat.le_refl _⟩ dX11_owed_5 ?_
  refine z_if_eq (tgt := 30) dX11_owed_8 (by decide) (fun q3 => ?_) (fun q3 => ?_)
  · rw [if_pos q3] at h
    exact z_mask [false, false, false] rfl (tX11_owed_b30 T  S  r h)
  · rw [if_neg q3] at h
    refine z_iload_n dX11_owed_11 rfl ?_
    obtain ⟨r4, hc5, h⟩ := zb1_elim h
    refine z_callS (As := [.int x2]) zkX11_175 zsX11_isTellable (tX11_isTellable T x2 S  r4 hc5) rfl rfl (Nat.le_of_ble_eq_true rfl) (by decide) ⟨Nat.le_refl _, Nat.le_refl _⟩ ⟨Nat.le_refl _, Nat.le_refl _⟩ dX11_owed_12 ?_
    refine z_if_eq (tgt := 30) dX11_owed_15 (by decide) (fun q6 => ?_) (fun q6 => ?_)
    · rw [if_pos q6] at h
      exact z_mask [false, false, false] rfl (tX11_owed_b30 T  S  r h)
    · rw [if_neg q6] at h
      refine z_aload_n dX11_owed_18 rfl ?_
      refine z_gR (zF.x zfX11_23) h0.1 dX11_owed_19 ?_
      refine z_iload_n dX11_owed_22 rfl ?_
      refine z_iload_n dX11_owed_23 rfl ?_
      obtain ⟨r7, hc8, h⟩ := zb1_elim h
      refine z_callV (As := [.int x1, .int x2]) zcX0 zkX11_178 ziX0_firstOwed zqX0_firstOwed h0.2.2.2.1.1 (tX0_firstOwed T (zr T k0 3) x1 x2 S h0.2.2.2.1 r7 hc8) rfl rfl (Nat.le_of_ble_eq_true rfl) (by decide) ⟨Nat.le_refl _, Nat.le_refl _⟩ ⟨Nat.le_refl _, Nat.le_refl _⟩ dX11_owed_24 ?_
      refine z_goto (tgt := 31) dX11_owed_27 (by decide) ?_
      exact z_mask [false, false, false] rfl (tX11_owed_b31 T r7 S  r h)
/-! X11_act -/
noncomputable def fX11_act_b67 (T : zT)  (S : zS) : Option (Int32 × zS) :=
  some ((-1), S)
noncomputable def fX11_act_b42 (T : zT) (k0 : Nat) (x1 : Int32) (x2 : Int32) (x3 : Int32) (s0 : Int32) (S : zS) : Option (Int32 × zS) :=
  if s0 = 0 then fX11_act_b67 T  S else zb1 (fX11_isTellable T x1 S) fun r4 => if r4 = 0 then fX11_act_b67 T  S else zb1 (fX7_canTake T (zr T k0 5) x1 S) fun r7 => if r7 = 0 then fX11_act_b67 T  S else zb (fX7_add T (zr T k0 5) x1 x2 x3 S) fun _ S12 => some ((S12.1 (zr T k0 5) 3), S12)
noncomputable def fX11_act_b41 (T : zT) (k0 : Nat) (x1 : Int32) (x2 : Int32) (x3 : Int32) (S : zS) : Option (Int32 × zS) :=
  fX11_act_b42 T k0 x1 x2 x3 0 S
noncomputable def fX11_act (T : zT) (k0 : Nat) (x1 : Int32) (x2 : Int32) (x3 : Int32) (S : zS) : Option (Int32 × zS) :=
  if x2 = 4 then if x3 = 0 then fX11_act_b42 T k0 x1 x2 x3 1 S else fX11_act_b42 T k0 x1 x2 x3 0 S else if x2 < 0 then fX11_act_b41 T k0 x1 x2 x3 S else if 4 ≤ x2 then fX11_act_b41 T k0 x1 x2 x3 S else zb1 (fX0_has T (zr T k0 3) x3 S) fun r14 => if r14 = 0 then fX11_act_b41 T k0 x1 x2 x3 S else fX11_act_b42 T k0 x1 x2 x3 1 S
set_option maxHeartbeats 4000000 in
set_option maxRecDepth 100000 in
theorem tX11_act_b67 (T : zT)  (S : zS)  {g : zG} (r : (Int32 × zS)) (h : fX11_act_b67 T  S = some r)  : zg g 1 mX11_act T 67 [none, none, none, none, none] [] T S (some (.int r.1)) T r.2 := by
  unfold fX11_act_b67 at h
  refine z_iconst dX11_act_67 cI_m1 ?_
  cases h
  exact z_iret rfl dX11_act_68
set_option maxHeartbeats 4000000 in
set_option maxRecDepth 100000 in
theorem tX11_act_b42 (T : zT) (k0 : Nat) (x1 : Int32) (x2 : Int32) (x3 : Int32) (s0 : Int32) (S : zS) (h0 : iX11 T k0) {g : zG} (r : (Int32 × zS)) (h : fX11_act_b42 T k0 x1 x2 x3 s0 S = some r)  : zg g 1 mX11_act T 42 [some (.ref k0), some (.int x1), some (.int x2), some (.int x3), none] [.int s0] T S (some (.int r.1)) T r.2 := by
  unfold fX11_act_b42 at h
  refine z_istore dX11_act_42 rfl (by decide) rfl ?_
  refine z_iload dX11_act_44 rfl ?_
  refine z_if_eq (tgt := 67) dX11_act_46 (by decide) (fun q3 => ?_) (fun q3 => ?_)
  · rw [if_pos q3] at h
    exact z_mask [false, false, false, false, false] rfl (tX11_act_b67 T  S  r h)
  · rw [if_neg q3] at h
    refine z_iload_n dX11_act_49 rfl ?_
    obtain ⟨r4, hc5, h⟩ := zb1_elim h
    refine z_callS (As := [.int x1]) zkX11_175 zsX11_isTellable (tX11_isTellable T x1 S  r4 hc5) rfl rfl (Nat.le_of_ble_eq_true rfl) (by decide) ⟨Nat.le_refl _, Nat.le_refl _⟩ ⟨Nat.le_refl _, Nat.le_refl _⟩ dX11_act_50 ?_
    refine z_if_eq (tgt := 67) dX11_act_53 (by decide) (fun q6 => ?_) (fun q6 => ?_)
    · rw [if_pos q6] at h
      exact z_mask [false, false, false, false, false] rfl (tX11_act_b67 T  S  r h)
    · rw [if_neg q6] at h
      refine z_aload_n dX11_act_56 rfl ?_
      refine z_gR (zF.x zfX11_33) h0.1 dX11_act_57 ?_
      refine z_iload_n dX11_act_60 rfl ?_
      obtain ⟨r7, hc8, h⟩ := zb1_elim h
      refine z_callV (As := [.int x1]) zcX7 zkX11_192 ziX7_canTake zqX7_canTake h0.2.2.2.2.2.1.1 (tX7_canTake T (zr T k0 5) x1 S h0.2.2.2.2.2.1 r7 hc8) rfl rfl (Nat.le_of_ble_eq_true rfl) (by decide) ⟨Nat.le_refl _, Nat.le_refl _⟩ ⟨Nat.le_refl _, Nat.le_refl _⟩ dX11_act_61 ?_
      refine z_if_ne (tgt := 69) dX11_act_64 (by decide) (fun q9 => ?_) (fun q9 => ?_)
      · rw [if_neg q9] at h
        refine z_aload_n dX11_act_69 rfl ?_
        refine z_gR (zF.x zfX11_33) h0.1 dX11_act_70 ?_
        refine z_iload_n dX11_act_73 rfl ?_
        refine z_iload_n dX11_act_74 rfl ?_
        refine z_iload_n dX11_act_75 rfl ?_
        obtain ⟨r10, S12, hc11, h⟩ := zb_elim h
        refine z_callV (As := [.int x1, .int x2, .int x3]) zcX7 zkX11_195 ziX7_add zqX7_add h0.2.2.2.2.2.1.1 (tX7_add T (zr T k0 5) x1 x2 x3 S h0.2.2.2.2.2.1 (r10, S12) hc11) rfl rfl (Nat.le_of_ble_eq_true rfl) (by decide) ⟨Nat.le_refl _, Nat.le_refl _⟩ ⟨Nat.le_refl _, Nat.le_refl _⟩ dX11_act_76 ?_
        refine z_aload_n dX11_act_79 rfl ?_
        refine z_gR (zF.x zfX11_33) h0.1 dX11_act_80 ?_
        refine z_gI (zF.x zfX11_105) h0.2.2.2.2.2.1.1 dX11_act_83 ?_
        cases h
        exact z_iret rfl dX11_act_86
      · rw [if_pos q9] at h
        exact z_mask [false, false, false, false, false] rfl (tX11_act_b67 T  S  r h)
set_option maxHeartbeats 4000000 in
set_option maxRecDepth 100000 in
theorem tX11_act_b41 (T : zT) (k0 : Nat) (x1 : Int32) (x2 : Int32) (x3 : Int32) (S : zS) (h0 : iX11 T k0) {g : zG} (r : (Int32 × zS)) (h : fX11_act_b41 T k0 x1 x2 x3 S = some r)  : zg g 1 mX11_act T 41 [some (.ref k0), some (.int x1), some (.int x2), some (.int x3), none] [] T S (some (.int r.1)) T r.2 := by
  unfold fX11_act_b41 at h
  refine z_iconst dX11_act_41 cI_0 ?_
  exact z_mask [true, true, true, true, false] rfl (tX11_act_b42 T k0 x1 x2 x3 0 S h0 r h)
set_option maxHeartbeats 4000000 in
set_option maxRecDepth 100000 in
theorem tX11_act (T : zT) (k0 : Nat) (x1 : Int32) (x2 : Int32) (x3 : Int32) (S : zS) (h0 : iX11 T k0) (r : Int32 × zS) (h : fX11_act T k0 x1 x2 x3 S = some r) : zGM 1 mX11_act [.ref k0, .int x1, .int x2, .int x3] T S (some (.int r.1)) T r.2 := by
  refine zGM_of zpnX11 rfl (Nat.le_of_ble_eq_true rfl) (fun g => ?_)
  show zg g 1 mX11_act T 0 [some (.ref k0), some (.int x1), some (.int x2), some (.int x3), none] [] T S (some (.int r.1)) T r.2
  unfold fX11_act at h
  refine z_iload_n dX11_act_0 rfl ?_
  refine z_iconst dX11_act_1 cI_4 ?_
  refine z_icmp_ne (tgt := 17) dX11_act_2 (by decide) (fun q1 => ?_) (fun q1 => ?_)
  · rw [if_neg q1] at h
    refine z_iload_n dX11_act_17 rfl ?_
    refine z_if_lt (tgt := 41) dX11_act_18 (by decide) (fun q2 => ?_) (fun q2 => ?_)
    · rw [if_pos q2] at h
      exact z_mask [true, true, true, true, false] rfl (tX11_act_b41 T k0 x1 x2 x3 S h0 r h)
    · rw [if_neg q2] at h
      refine z_iload_n dX11_act_21 rfl ?_
      refine z_iconst dX11_act_22 cI_4 ?_
      refine z_icmp_ge (tgt := 41) dX11_act_23 (by decide) (fun q13 => ?_) (fun q13 => ?_)
      · rw [if_pos q13] at h
        exact z_mask [true, true, true, true, false] rfl (tX11_act_b41 T k0 x1 x2 x3 S h0 r h)
      · rw [if_neg q13] at h
        refine z_aload_n dX11_act_26 rfl ?_
        refine z_gR (zF.x zfX11_23) h0.1 dX11_act_27 ?_
        refine z_iload_n dX11_act_30 rfl ?_
        obtain ⟨r14, hc15, h⟩ := zb1_elim h
        refine z_callV (As := [.int x3]) zcX0 zkX11_128 ziX0_has zqX0_has h0.2.2.2.1.1 (tX0_has T (zr T k0 3) x3 S h0.2.2.2.1 r14 hc15) rfl rfl (Nat.le_of_ble_eq_true rfl) (by decide) ⟨Nat.le_refl _, Nat.le_refl _⟩ ⟨Nat.le_refl _, Nat.le_refl _⟩ dX11_act_31 ?_
        refine z_if_eq (tgt := 41) dX11_act_34 (by decide) (fun q16 => ?_) (fun q16 => ?_)
        · rw [if_pos q16] at h
          exact z_mask [true, true, true, true, false] rfl (tX11_act_b41 T k0 x1 x2 x3 S h0 r h)
        · rw [if_neg q16] at h
          refine z_iconst dX11_act_37 cI_1 ?_
          refine z_goto (tgt := 42) dX11_act_38 (by decide) ?_
          exact z_mask [true, true, true, true, false] rfl (tX11_act_b42 T k0 x1 x2 x3 1 S h0 r h)
  · rw [if_pos q1] at h
    refine z_iload_n dX11_act_5 rfl ?_
    refine z_if_ne (tgt := 13) dX11_act_6 (by decide) (fun q17 => ?_) (fun q17 => ?_)
    · rw [if_neg q17] at h
      refine z_iconst dX11_act_13 cI_0 ?_
      refine z_goto (tgt := 42) dX11_act_14 (by decide) ?_
      exact z_mask [true, true, true, true, false] rfl (tX11_act_b42 T k0 x1 x2 x3 0 S h0 r h)
    · rw [if_pos q17] at h
      refine z_iconst dX11_act_9 cI_1 ?_
      refine z_goto (tgt := 42) dX11_act_10 (by decide) ?_
      exact z_mask [true, true, true, true, false] rfl (tX11_act_b42 T k0 x1 x2 x3 1 S h0 r h)
/-! X11_needed -/
noncomputable def fX11_needed_b18 (T : zT)  (S : zS) : Option Int32 :=
  some (-1)
noncomputable def fX11_needed_b85 (T : zT) (k0 : Nat) (x2 : Int32) (x3 : Int32) (x4 : Int32) (x5 : Int32) (S : zS) : Option ((Int32 × Int32) ⊕ Int32) :=
  zlet (x5 + 1) fun u13 => some (.inl (x4, u13))
noncomputable def fX11_needed_l54 (T : zT) (k0 : Nat) (x2 : Int32) (x3 : Int32) (S : zS) (x4 : Int32) (x5 : Int32) : Option ((Int32 × Int32) ⊕ Int32) :=
  if 8 ≤ x5 then some (.inr x4) else if ((x3 >>> (x5 &&& 31)) &&& 1) = 0 then fX11_needed_b85 T k0 x2 x3 x4 x5 S else zb1 (fX0_firstOwed T (zr T k0 3) x5 x2 S) fun r14 => zlet (x4 + r14) fun u16 => fX11_needed_b85 T k0 x2 x3 u16 x5 S
noncomputable def fX11_needed (T : zT) (k0 : Nat) (x1 : Int32) (x2 : Int32) (S : zS) : Option Int32 :=
  zb1 (fX0_hasAll T (zr T k0 3) x1 S) fun r1 => if r1 = 0 then fX11_needed_b18 T  S else zb1 (fX11_isTellable T x2 S) fun r4 => if r4 = 0 then fX11_needed_b18 T  S else zlet ((S.1 (zr T k0 3) 0) &&& (x1 ^^^ (-1))) fun u7 => zb1 (fX0_lostBy T (zr T k0 3) x2 S) fun r8 => if (u7 &&& r8) = 0 then zb1 (lp (fun a => fX11_needed_l54 T k0 x2 u7 S a.1 a.2) (0, 0)) fun e17 => some e17 else some (-2)
set_option maxHeartbeats 4000000 in
set_option maxRecDepth 100000 in
theorem tX11_needed_b18 (T : zT)  (S : zS)  {g : zG} (r : Int32) (h : fX11_needed_b18 T  S = some r)  : zg g 2 mX11_needed T 18 [none, none, none, none, none, none] [] T S (some (.int r)) T S := by
  unfold fX11_needed_b18 at h
  refine z_iconst dX11_needed_18 cI_m1 ?_
  cases h
  exact z_iret rfl dX11_needed_19
set_option maxHeartbeats 4000000 in
set_option maxRecDepth 100000 in
theorem tX11_needed_b85 (T : zT) (k0 : Nat) (x2 : Int32) (x3 : Int32) (x4 : Int32) (x5 : Int32) (S : zS) (h0 : iX11 T k0) {g : zG} {v : Option Value} {S' : zS} (r : ((Int32 × Int32) ⊕ Int32)) (h : fX11_needed_b85 T k0 x2 x3 x4 x5 S = some r) (K1 : ∀ a : (Int32 × Int32), r = .inl a → zg g 2 mX11_needed T 54 [some (.ref k0), none, some (.int x2), some (.int x3), some (.int a.1), some (.int a.2)] [] T S v T S') (K2_0 : ∀ e : Int32, r = .inr e → zg g 2 mX11_needed T 91 [none, none, none, none, some (.int e), none] [] T S v T S') : zg g 2 mX11_needed T 85 [some (.ref k0), none, some (.int x2), some (.int x3), some (.int x4), some (.int x5)] [] T S v T S' := by
  unfold fX11_needed_b85 at h
  obtain ⟨u13, eu13, h⟩ := zlet_elim h
  refine z_iinc (r := u13) dX11_needed_85 rfl (by rw [eu13, cI_1]) rfl (by decide) rfl ?_
  refine z_goto (tgt := 54) dX11_needed_88 (by decide) ?_
  cases h
  exact z_mask [true, false, true, true, true, true] rfl (K1 _ rfl)
set_option maxHeartbeats 4000000 in
set_option maxRecDepth 100000 in
theorem tX11_needed_l54b (T : zT) (k0 : Nat) (x2 : Int32) (x3 : Int32) (S : zS) (x4 : Int32) (x5 : Int32) (h0 : iX11 T k0) {g : zG} {v : Option Value} {S' : zS} (r : (Int32 × Int32) ⊕ Int32) (h : fX11_needed_l54 T k0 x2 x3 S x4 x5 = some r) (K1 : ∀ a : (Int32 × Int32), r = .inl a → zg g 2 mX11_needed T 54 [some (.ref k0), none, some (.int x2), some (.int x3), some (.int a.1), some (.int a.2)] [] T S v T S') (K2_0 : ∀ e : Int32, r = .inr e → zg g 2 mX11_needed T 91 [none, none, none, none, some (.int e), none] [] T S v T S') : zg g 2 mX11_needed T 54 [some (.ref k0), none, some (.int x2), some (.int x3), some (.int x4), some (.int x5)] [] T S v T S' := by
  unfold fX11_needed_l54 at h
  refine z_iload dX11_needed_54 rfl ?_
  refine z_bipush dX11_needed_56 cB_8 ?_
  refine z_icmp_ge (tgt := 91) dX11_needed_58 (by decide) (fun q11 => ?_) (fun q11 => ?_)
  · rw [if_pos q11] at h
    cases h
    exact z_mask [false, false, false, false, true, false] rfl (K2_0 _ rfl)
  · rw [if_neg q11] at h
    refine z_iload_n dX11_needed_61 rfl ?_
    refine z_iload dX11_needed_62 rfl ?_
    refine z_ishr dX11_needed_64 rfl ?_
    refine z_iconst dX11_needed_65 cI_1 ?_
    refine z_iand dX11_needed_66 rfl ?_
    refine z_if_eq (tgt := 85) dX11_needed_67 (by decide) (fun q12 => ?_) (fun q12 => ?_)
    · rw [if_pos q12] at h
      exact z_mask [true, false, true, true, true, true] rfl (tX11_needed_b85 T k0 x2 x3 x4 x5 S h0 r h K1 K2_0)
    · rw [if_neg q12] at h
      refine z_iload dX11_needed_70 rfl ?_
      refine z_aload_n dX11_needed_72 rfl ?_
      refine z_gR (zF.x zfX11_23) h0.1 dX11_needed_73 ?_
      refine z_iload dX11_needed_76 rfl ?_
      refine z_iload_n dX11_needed_78 rfl ?_
      obtain ⟨r14, hc15, h⟩ := zb1_elim h
      refine z_callV (As := [.int x5, .int x2]) zcX0 zkX11_178 ziX0_firstOwed zqX0_firstOwed h0.2.2.2.1.1 (tX0_firstOwed T (zr T k0 3) x5 x2 S h0.2.2.2.1 r14 hc15) rfl rfl (Nat.le_of_ble_eq_true rfl) (by decide) ⟨Nat.le_refl _, Nat.le_refl _⟩ ⟨Nat.le_refl _, Nat.le_refl _⟩ dX11_needed_79 ?_
      refine z_iadd dX11_needed_82 rfl ?_
      obtain ⟨u16, eu16, h⟩ := zlet_elim h
      refine z_ti eu16 ?_
      refine z_istore dX11_needed_83 rfl (by decide) rfl ?_
      exact z_mask [true, false, true, true, true, true] rfl (tX11_needed_b85 T k0 x2 x3 u16 x5 S h0 r h K1 K2_0)
set_option maxHeartbeats 4000000 in
set_option maxRecDepth 100000 in
theorem tX11_needed_l54 (T : zT) (k0 : Nat) (x2 : Int32) (x3 : Int32) (S : zS) (h0 : iX11 T k0) {g : zG} {v : Option Value} {S' : zS} : ∀ (n : Nat) (a : (Int32 × Int32)) (e : Int32), lpn (fun a => fX11_needed_l54 T k0 x2 x3 S a.1 a.2) n a = some e → (∀ e1 : Int32, e = e1 → zg g 2 mX11_needed T 91 [none, none, none, none, some (.int e1), none] [] T S v T S') → zg g 2 mX11_needed T 54 [some (.ref k0), none, some (.int x2), some (.int x3), some (.int a.1), some (.int a.2)] [] T S v T S' := by
  intro n
  induction n with
  | zero =>
    intro a e h
    cases h
  | succ n ih =>
    intro a e h k0_
    rcases lpn_succ h with ⟨a1, ha_, hb_⟩ | ha_
    · exact tX11_needed_l54b T k0 x2 x3 S a.1 a.2 h0 _ ha_ (fun a2 q => by cases q; exact ih a1 e hb_ k0_) (fun e1 q => by cases q)
    · exact tX11_needed_l54b T k0 x2 x3 S a.1 a.2 h0 _ ha_ (fun a2 q => by cases q) (fun e1 q => by cases q; exact k0_ _ rfl)
set_option maxHeartbeats 4000000 in
set_option maxRecDepth 100000 in
theorem tX11_needed (T : zT) (k0 : Nat) (x1 : Int32) (x2 : Int32) (S : zS) (h0 : iX11 T k0) (r : Int32) (h : fX11_needed T k0 x1 x2 S = some r) : zGM 2 mX11_needed [.ref k0, .int x1, .int x2] T S (some (.int r)) T S := by
  refine zGM_of zpnX11 rfl (Nat.le_of_ble_eq_true rfl) (fun g => ?_)
  show zg g 2 mX11_needed T 0 [some (.ref k0), some (.int x1), some (.int x2), none, none, none] [] T S (some (.int r)) T S
  unfold fX11_needed at h
  refine z_aload_n dX11_needed_0 rfl ?_
  refine z_gR (zF.x zfX11_23) h0.1 dX11_needed_1 ?_
  refine z_iload_n dX11_needed_4 rfl ?_
  obtain ⟨r1, hc2, h⟩ := zb1_elim h
  refine z_callV (As := [.int x1]) zcX0 zkX11_182 ziX0_hasAll zqX0_hasAll h0.2.2.2.1.1 (tX0_hasAll T (zr T k0 3) x1 S h0.2.2.2.1 r1 hc2) rfl rfl (Nat.le_of_ble_eq_true rfl) (by decide) ⟨Nat.le_refl _, Nat.le_refl _⟩ ⟨Nat.le_refl _, Nat.le_refl _⟩ dX11_needed_5 ?_
  refine z_if_eq (tgt := 18) dX11_needed_8 (by decide) (fun q3 => ?_) (fun q3 => ?_)
  · rw [if_pos q3] at h
    exact z_mask [false, false, false, false, false, false] rfl (tX11_needed_b18 T  S  r h)
  · rw [if_neg q3] at h
    refine z_iload_n dX11_needed_11 rfl ?_
    obtain ⟨r4, hc5, h⟩ := zb1_elim h
    refine z_callS (As := [.int x2]) zkX11_175 zsX11_isTellable (tX11_isTellable T x2 S  r4 hc5) rfl rfl (Nat.le_of_ble_eq_true rfl) (by decide) ⟨Nat.le_refl _, Nat.le_refl _⟩ ⟨Nat.le_refl _, Nat.le_refl _⟩ dX11_needed_12 ?_
    refine z_if_ne (tgt := 20) dX11_needed_15 (by decide) (fun q6 => ?_) (fun q6 => ?_)
    · rw [if_neg q6] at h
      refine z_aload_n dX11_needed_20 rfl ?_
      refine z_gR (zF.x zfX11_23) h0.1 dX11_needed_21 ?_
      refine z_gI (zF.x zfX11_112) h0.2.2.2.1.1 dX11_needed_24 ?_
      refine z_iload_n dX11_needed_27 rfl ?_
      refine z_iconst dX11_needed_28 cI_m1 ?_
      refine z_ixor dX11_needed_29 rfl ?_
      refine z_iand dX11_needed_30 rfl ?_
      obtain ⟨u7, eu7, h⟩ := zlet_elim h
      refine z_ti eu7 ?_
      refine z_istore_n dX11_needed_31 rfl (by decide) rfl ?_
      refine z_iload_n dX11_needed_32 rfl ?_
      refine z_aload_n dX11_needed_33 rfl ?_
      refine z_gR (zF.x zfX11_23) h0.1 dX11_needed_34 ?_
      refine z_iload_n dX11_needed_37 rfl ?_
      obtain ⟨r8, hc9, h⟩ := zb1_elim h
      refine z_callV (As := [.int x2]) zcX0 zkX11_327 ziX0_lostBy zqX0_lostBy h0.2.2.2.1.1 (tX0_lostBy T (zr T k0 3) x2 S h0.2.2.2.1 r8 hc9) rfl rfl (Nat.le_of_ble_eq_true rfl) (by decide) ⟨Nat.le_refl _, Nat.le_refl _⟩ ⟨Nat.le_refl _, Nat.le_refl _⟩ dX11_needed_38 ?_
      refine z_iand dX11_needed_41 rfl ?_
      refine z_if_eq (tgt := 48) dX11_needed_42 (by decide) (fun q10 => ?_) (fun q10 => ?_)
      · rw [if_pos q10] at h
        refine z_iconst dX11_needed_48 cI_0 ?_
        refine z_istore dX11_needed_49 rfl (by decide) rfl ?_
        refine z_iconst dX11_needed_51 cI_0 ?_
        refine z_istore dX11_needed_52 rfl (by decide) rfl ?_
        obtain ⟨e17, hl18, h⟩ := zb1_elim h
        obtain ⟨nf19, hl18⟩ := lp_some hl18
        refine z_mask [true, false, true, true, true, true] rfl (tX11_needed_l54 T k0 x2 u7 S h0 nf19 (0, 0) e17 hl18 (fun e_ q => ?_))
        · cases q
          refine z_iload dX11_needed_91 rfl ?_
          cases h
          exact z_iret rfl dX11_needed_93
      · rw [if_neg q10] at h
        refine z_bipush dX11_needed_45 cB_m2 ?_
        cases h
        exact z_iret rfl dX11_needed_47
    · rw [if_pos q6] at h
      exact z_mask [false, false, false, false, false, false] rfl (tX11_needed_b18 T  S  r h)
/-! X11_image -/
noncomputable def fX11_image_b9 (T : zT)  (S : zS) : Option (Int32 × zS) :=
  some ((-1), S)
noncomputable def fX11_image (T : zT) (k0 : Nat) (x1 : Int32) (S : zS) : Option (Int32 × zS) :=
  if x1 < 0 then fX11_image_b9 T  S else if x1 < 4 then zgd (zin x1 4) (zb (fX0_take T (zr T (zr T k0 8) (x1 : Int32).toNatClampNeg) (zr T k0 3) S) fun _ S6 => zgd (zin x1 4) (zb (fX7_take T (zr T (zr T k0 9) (x1 : Int32).toNatClampNeg) (zr T k0 5) S6) fun _ S10 => zgd (zin x1 4) (zlet (zI S10 (zr T k0 10) (x1 : Int32).toNatClampNeg (vp_nar .boolean 1)) fun S12 => some ((S12.1 (zr T k0 5) 3), S12)))) else fX11_image_b9 T  S
set_option maxHeartbeats 4000000 in
set_option maxRecDepth 100000 in
theorem tX11_image_b9 (T : zT)  (S : zS)  {g : zG} (r : (Int32 × zS)) (h : fX11_image_b9 T  S = some r)  : zg g 3 mX11_image T 9 [none, none] [] T S (some (.int r.1)) T r.2 := by
  unfold fX11_image_b9 at h
  refine z_iconst dX11_image_9 cI_m1 ?_
  cases h
  exact z_iret rfl dX11_image_10
set_option maxHeartbeats 4000000 in
set_option maxRecDepth 100000 in
theorem tX11_image (T : zT) (k0 : Nat) (x1 : Int32) (S : zS) (h0 : iX11 T k0) (r : Int32 × zS) (h : fX11_image T k0 x1 S = some r) : zGM 3 mX11_image [.ref k0, .int x1] T S (some (.int r.1)) T r.2 := by
  refine zGM_of zpnX11 rfl (Nat.le_of_ble_eq_true rfl) (fun g => ?_)
  show zg g 3 mX11_image T 0 [some (.ref k0), some (.int x1)] [] T S (some (.int r.1)) T r.2
  unfold fX11_image at h
  refine z_iload_n dX11_image_0 rfl ?_
  refine z_if_lt (tgt := 9) dX11_image_1 (by decide) (fun q1 => ?_) (fun q1 => ?_)
  · rw [if_pos q1] at h
    exact z_mask [false, false] rfl (tX11_image_b9 T  S  r h)
  · rw [if_neg q1] at h
    refine z_iload_n dX11_image_4 rfl ?_
    refine z_iconst dX11_image_5 cI_4 ?_
    refine z_icmp_lt (tgt := 11) dX11_image_6 (by decide) (fun q2 => ?_) (fun q2 => ?_)
    · rw [if_pos q2] at h
      refine z_aload_n dX11_image_11 rfl ?_
      refine z_gA (zF.x zfX11_44) h0.1 dX11_image_12 ?_
      refine z_iload_n dX11_image_15 rfl ?_
      obtain ⟨q3, h⟩ := zgd_elim h
      refine z_aald h0.2.2.2.2.2.2.2.1.1 (by decide) (fun _ => rfl) (zin_ok q3) dX11_image_16 ?_
      refine z_aload_n dX11_image_17 rfl ?_
      refine z_gR (zF.x zfX11_23) h0.1 dX11_image_18 ?_
      obtain ⟨r4, S6, hc5, h⟩ := zb_elim h
      refine z_callV (As := [.ref (zr T k0 3)]) zcX0 zkX11_101 ziX0_take zqX0_take ((h0.2.2.2.2.2.2.2.1.2 _ (zin_lt q3))).1 (tX0_take T (zr T (zr T k0 8) (x1 : Int32).toNatClampNeg) (zr T k0 3) S (h0.2.2.2.2.2.2.2.1.2 _ (zin_lt q3)) h0.2.2.2.1 (r4, S6) hc5) rfl rfl (Nat.le_of_ble_eq_true rfl) (by decide) ⟨Nat.le_refl _, Nat.le_refl _⟩ ⟨Nat.le_refl _, Nat.le_refl _⟩ dX11_image_21 ?_
      refine z_aload_n dX11_image_24 rfl ?_
      refine z_gA (zF.x zfX11_48) h0.1 dX11_image_25 ?_
      refine z_iload_n dX11_image_28 rfl ?_
      obtain ⟨q7, h⟩ := zgd_elim h
      refine z_aald h0.2.2.2.2.2.2.2.2.1.1 (by decide) (fun _ => rfl) (zin_ok q7) dX11_image_29 ?_
      refine z_aload_n dX11_image_30 rfl ?_
      refine z_gR (zF.x zfX11_33) h0.1 dX11_image_31 ?_
      obtain ⟨r8, S10, hc9, h⟩ := zb_elim h
      refine z_callV (As := [.ref (zr T k0 5)]) zcX7 zkX11_330 ziX7_take zqX7_take ((h0.2.2.2.2.2.2.2.2.1.2 _ (zin_lt q7))).1 (tX7_take T (zr T (zr T k0 9) (x1 : Int32).toNatClampNeg) (zr T k0 5) S6 (h0.2.2.2.2.2.2.2.2.1.2 _ (zin_lt q7)) h0.2.2.2.2.2.1 (r8, S10) hc9) rfl rfl (Nat.le_of_ble_eq_true rfl) (by decide) ⟨Nat.le_refl _, Nat.le_refl _⟩ ⟨Nat.le_refl _, Nat.le_refl _⟩ dX11_image_34 ?_
      refine z_aload_n dX11_image_37 rfl ?_
      refine z_gA (zF.x zfX11_52) h0.1 dX11_image_38 ?_
      refine z_iload_n dX11_image_41 rfl ?_
      refine z_iconst dX11_image_42 cI_1 ?_
      obtain ⟨q11, h⟩ := zgd_elim h
      refine z_zast h0.2.2.2.2.2.2.2.2.2.1 (zin_ok q11) dX11_image_43 ?_
      obtain ⟨S12, eS12, h⟩ := zlet_elim h
      refine z_tS eS12 ?_
      refine z_aload_n dX11_image_44 rfl ?_
      refine z_gR (zF.x zfX11_33) h0.1 dX11_image_45 ?_
      refine z_gI (zF.x zfX11_105) h0.2.2.2.2.2.1.1 dX11_image_48 ?_
      cases h
      exact z_iret rfl dX11_image_51
    · rw [if_neg q2] at h
      exact z_mask [false, false] rfl (tX11_image_b9 T  S  r h)
/-! X11_back -/
noncomputable def fX11_back_b18 (T : zT)  (S : zS) : Option (Int32 × zS) :=
  some ((-1), S)
noncomputable def fX11_back (T : zT) (k0 : Nat) (x1 : Int32) (S : zS) : Option (Int32 × zS) :=
  if x1 < 0 then fX11_back_b18 T  S else if 4 ≤ x1 then fX11_back_b18 T  S else zgd (zin x1 4) (if (S.1 (zr T k0 10) (x1 : Int32).toNatClampNeg) = 0 then fX11_back_b18 T  S else zgd (zin x1 4) (zb (fX0_take T (zr T k0 3) (zr T (zr T k0 8) (x1 : Int32).toNatClampNeg) S) fun _ S8 => zgd (zin x1 4) (zb (fX7_take T (zr T k0 5) (zr T (zr T k0 9) (x1 : Int32).toNatClampNeg) S8) fun _ S12 => zlet (zI S12 (zr T k0 13) 2 0) fun S13 => some ((S13.1 (zr T k0 5) 3), S13))))
set_option maxHeartbeats 4000000 in
set_option maxRecDepth 100000 in
theorem tX11_back_b18 (T : zT)  (S : zS)  {g : zG} (r : (Int32 × zS)) (h : fX11_back_b18 T  S = some r)  : zg g 3 mX11_back T 18 [none, none] [] T S (some (.int r.1)) T r.2 := by
  unfold fX11_back_b18 at h
  refine z_iconst dX11_back_18 cI_m1 ?_
  cases h
  exact z_iret rfl dX11_back_19
set_option maxHeartbeats 4000000 in
set_option maxRecDepth 100000 in
theorem tX11_back (T : zT) (k0 : Nat) (x1 : Int32) (S : zS) (h0 : iX11 T k0) (r : Int32 × zS) (h : fX11_back T k0 x1 S = some r) : zGM 3 mX11_back [.ref k0, .int x1] T S (some (.int r.1)) T r.2 := by
  refine zGM_of zpnX11 rfl (Nat.le_of_ble_eq_true rfl) (fun g => ?_)
  show zg g 3 mX11_back T 0 [some (.ref k0), some (.int x1)] [] T S (some (.int r.1)) T r.2
  unfold fX11_back at h
  refine z_iload_n dX11_back_0 rfl ?_
  refine z_if_lt (tgt := 18) dX11_back_1 (by decide) (fun q1 => ?_) (fun q1 => ?_)
  · rw [if_pos q1] at h
    exact z_mask [false, false] rfl (tX11_back_b18 T  S  r h)
  · rw [if_neg q1] at h
    refine z_iload_n dX11_back_4 rfl ?_
    refine z_iconst dX11_back_5 cI_4 ?_
    refine z_icmp_ge (tgt := 18) dX11_back_6 (by decide) (fun q2 => ?_) (fun q2 => ?_)
    · rw [if_pos q2] at h
      exact z_mask [false, false] rfl (tX11_back_b18 T  S  r h)
    · rw [if_neg q2] at h
      refine z_aload_n dX11_back_9 rfl ?_
      refine z_gA (zF.x zfX11_52) h0.1 dX11_back_10 ?_
      refine z_iload_n dX11_back_13 rfl ?_
      obtain ⟨q3, h⟩ := zgd_elim h
      refine z_zald h0.2.2.2.2.2.2.2.2.2.1 (zin_ok q3) dX11_back_14 ?_
      refine z_if_ne (tgt := 20) dX11_back_15 (by decide) (fun q4 => ?_) (fun q4 => ?_)
      · rw [if_neg q4] at h
        refine z_aload_n dX11_back_20 rfl ?_
        refine z_gR (zF.x zfX11_23) h0.1 dX11_back_21 ?_
        refine z_aload_n dX11_back_24 rfl ?_
        refine z_gA (zF.x zfX11_44) h0.1 dX11_back_25 ?_
        refine z_iload_n dX11_back_28 rfl ?_
        obtain ⟨q5, h⟩ := zgd_elim h
        refine z_aald h0.2.2.2.2.2.2.2.1.1 (by decide) (fun _ => rfl) (zin_ok q5) dX11_back_29 ?_
        obtain ⟨r6, S8, hc7, h⟩ := zb_elim h
        refine z_callV (As := [.ref (zr T (zr T k0 8) (x1 : Int32).toNatClampNeg)]) zcX0 zkX11_101 ziX0_take zqX0_take h0.2.2.2.1.1 (tX0_take T (zr T k0 3) (zr T (zr T k0 8) (x1 : Int32).toNatClampNeg) S h0.2.2.2.1 (h0.2.2.2.2.2.2.2.1.2 _ (zin_lt q5)) (r6, S8) hc7) rfl rfl (Nat.le_of_ble_eq_true rfl) (by decide) ⟨Nat.le_refl _, Nat.le_refl _⟩ ⟨Nat.le_refl _, Nat.le_refl _⟩ dX11_back_30 ?_
        refine z_aload_n dX11_back_33 rfl ?_
        refine z_gR (zF.x zfX11_33) h0.1 dX11_back_34 ?_
        refine z_aload_n dX11_back_37 rfl ?_
        refine z_gA (zF.x zfX11_48) h0.1 dX11_back_38 ?_
        refine z_iload_n dX11_back_41 rfl ?_
        obtain ⟨q9, h⟩ := zgd_elim h
        refine z_aald h0.2.2.2.2.2.2.2.2.1.1 (by decide) (fun _ => rfl) (zin_ok q9) dX11_back_42 ?_
        obtain ⟨r10, S12, hc11, h⟩ := zb_elim h
        refine z_callV (As := [.ref (zr T (zr T k0 9) (x1 : Int32).toNatClampNeg)]) zcX7 zkX11_330 ziX7_take zqX7_take h0.2.2.2.2.2.1.1 (tX7_take T (zr T k0 5) (zr T (zr T k0 9) (x1 : Int32).toNatClampNeg) S8 h0.2.2.2.2.2.1 (h0.2.2.2.2.2.2.2.2.1.2 _ (zin_lt q9)) (r10, S12) hc11) rfl rfl (Nat.le_of_ble_eq_true rfl) (by decide) ⟨Nat.le_refl _, Nat.le_refl _⟩ ⟨Nat.le_refl _, Nat.le_refl _⟩ dX11_back_43 ?_
        refine z_aload_n dX11_back_46 rfl ?_
        refine z_gR (zF.x zfX11_75) h0.1 dX11_back_47 ?_
        refine z_iconst dX11_back_50 cI_0 ?_
        refine z_putZ zfX11_108 (Or.inl rfl) h0.2.2.2.2.2.2.2.2.2.2.2.2.1.1 dX11_back_51 ?_
        obtain ⟨S13, eS13, h⟩ := zlet_elim h
        refine z_tS eS13 ?_
        refine z_aload_n dX11_back_54 rfl ?_
        refine z_gR (zF.x zfX11_33) h0.1 dX11_back_55 ?_
        refine z_gI (zF.x zfX11_105) h0.2.2.2.2.2.1.1 dX11_back_58 ?_
        cases h
        exact z_iret rfl dX11_back_61
      · rw [if_pos q4] at h
        exact z_mask [false, false] rfl (tX11_back_b18 T  S  r h)
/-! X11_earned -/
noncomputable def fX11_earned_b18 (T : zT)  (S : zS) : Option (Int32 × zS) :=
  some ((-1), S)
noncomputable def fX11_earned_b82 (T : zT) (s0 : Int32) (S : zS) : Option (Int32 × zS) :=
  some (s0, S)
noncomputable def fX11_earned (T : zT) (k0 : Nat) (x1 : Int32) (x2 : Int32) (x3 : Int32) (S : zS) : Option (Int32 × zS) :=
  zb1 (fX0_hasAll T (zr T k0 3) x1 S) fun r1 => if r1 = 0 then fX11_earned_b18 T  S else zb1 (fX11_isTellable T x2 S) fun r4 => if r4 = 0 then fX11_earned_b18 T  S else if x3 = 0 then zb (fX0_earnings T (zr T k0 3) (zr T k0 11) x2 x1 ((S.1 (zr T k0 3) 0) &&& (x1 ^^^ (-1))) S) fun r12 S14 => some (r12, S14) else if x3 = 1 then zb (fX0_needing T (zr T k0 3) (zr T k0 11) x2 x1 ((S.1 (zr T k0 3) 0) &&& (x1 ^^^ (-1))) S) fun r9 S11 => fX11_earned_b82 T r9 S11 else fX11_earned_b82 T (-1) S
set_option maxHeartbeats 4000000 in
set_option maxRecDepth 100000 in
theorem tX11_earned_b18 (T : zT)  (S : zS)  {g : zG} (r : (Int32 × zS)) (h : fX11_earned_b18 T  S = some r)  : zg g 4 mX11_earned T 18 [none, none, none, none] [] T S (some (.int r.1)) T r.2 := by
  unfold fX11_earned_b18 at h
  refine z_iconst dX11_earned_18 cI_m1 ?_
  cases h
  exact z_iret rfl dX11_earned_19
set_option maxHeartbeats 4000000 in
set_option maxRecDepth 100000 in
theorem tX11_earned_b82 (T : zT) (s0 : Int32) (S : zS)  {g : zG} (r : (Int32 × zS)) (h : fX11_earned_b82 T s0 S = some r)  : zg g 4 mX11_earned T 82 [none, none, none, none] [.int s0] T S (some (.int r.1)) T r.2 := by
  unfold fX11_earned_b82 at h
  cases h
  exact z_iret rfl dX11_earned_82
set_option maxHeartbeats 4000000 in
set_option maxRecDepth 100000 in
theorem tX11_earned (T : zT) (k0 : Nat) (x1 : Int32) (x2 : Int32) (x3 : Int32) (S : zS) (h0 : iX11 T k0) (r : Int32 × zS) (h : fX11_earned T k0 x1 x2 x3 S = some r) : zGM 4 mX11_earned [.ref k0, .int x1, .int x2, .int x3] T S (some (.int r.1)) T r.2 := by
  refine zGM_of zpnX11 rfl (Nat.le_of_ble_eq_true rfl) (fun g => ?_)
  show zg g 4 mX11_earned T 0 [some (.ref k0), some (.int x1), some (.int x2), some (.int x3)] [] T S (some (.int r.1)) T r.2
  unfold fX11_earned at h
  refine z_aload_n dX11_earned_0 rfl ?_
  refine z_gR (zF.x zfX11_23) h0.1 dX11_earned_1 ?_
  refine z_iload_n dX11_earned_4 rfl ?_
  obtain ⟨r1, hc2, h⟩ := zb1_elim h
  refine z_callV (As := [.int x1]) zcX0 zkX11_182 ziX0_hasAll zqX0_hasAll h0.2.2.2.1.1 (tX0_hasAll T (zr T k0 3) x1 S h0.2.2.2.1 r1 hc2) rfl rfl (Nat.le_of_ble_eq_true rfl) (by decide) ⟨Nat.le_refl _, Nat.le_refl _⟩ ⟨Nat.le_refl _, Nat.le_refl _⟩ dX11_earned_5 ?_
  refine z_if_eq (tgt := 18) dX11_earned_8 (by decide) (fun q3 => ?_) (fun q3 => ?_)
  · rw [if_pos q3] at h
    exact z_mask [false, false, false, false] rfl (tX11_earned_b18 T  S  r h)
  · rw [if_neg q3] at h
    refine z_iload_n dX11_earned_11 rfl ?_
    obtain ⟨r4, hc5, h⟩ := zb1_elim h
    refine z_callS (As := [.int x2]) zkX11_175 zsX11_isTellable (tX11_isTellable T x2 S  r4 hc5) rfl rfl (Nat.le_of_ble_eq_true rfl) (by decide) ⟨Nat.le_refl _, Nat.le_refl _⟩ ⟨Nat.le_refl _, Nat.le_refl _⟩ dX11_earned_12 ?_
    refine z_if_ne (tgt := 20) dX11_earned_15 (by decide) (fun q6 => ?_) (fun q6 => ?_)
    · rw [if_neg q6] at h
      refine z_iload_n dX11_earned_20 rfl ?_
      refine z_if_ne (tgt := 49) dX11_earned_21 (by decide) (fun q7 => ?_) (fun q7 => ?_)
      · rw [if_neg q7] at h
        refine z_iload_n dX11_earned_49 rfl ?_
        refine z_iconst dX11_earned_50 cI_1 ?_
        refine z_icmp_ne (tgt := 81) dX11_earned_51 (by decide) (fun q8 => ?_) (fun q8 => ?_)
        · rw [if_neg q8] at h
          refine z_iconst dX11_earned_81 cI_m1 ?_
          exact z_mask [false, false, false, false] rfl (tX11_earned_b82 T (-1) S  r h)
        · rw [if_pos q8] at h
          refine z_aload_n dX11_earned_54 rfl ?_
          refine z_gR (zF.x zfX11_23) h0.1 dX11_earned_55 ?_
          refine z_aload_n dX11_earned_58 rfl ?_
          refine z_gR (zF.x zfX11_59) h0.1 dX11_earned_59 ?_
          refine z_iload_n dX11_earned_62 rfl ?_
          refine z_iload_n dX11_earned_63 rfl ?_
          refine z_aload_n dX11_earned_64 rfl ?_
          refine z_gR (zF.x zfX11_23) h0.1 dX11_earned_65 ?_
          refine z_gI (zF.x zfX11_112) h0.2.2.2.1.1 dX11_earned_68 ?_
          refine z_iload_n dX11_earned_71 rfl ?_
          refine z_iconst dX11_earned_72 cI_m1 ?_
          refine z_ixor dX11_earned_73 rfl ?_
          refine z_iand dX11_earned_74 rfl ?_
          obtain ⟨r9, S11, hc10, h⟩ := zb_elim h
          refine z_callV (As := [.ref (zr T k0 11), .int x2, .int x1, .int ((S.1 (zr T k0 3) 0) &&& (x1 ^^^ (-1)))]) zcX0 zkX11_189 ziX0_needing zqX0_needing h0.2.2.2.1.1 (tX0_needing T (zr T k0 3) (zr T k0 11) x2 x1 ((S.1 (zr T k0 3) 0) &&& (x1 ^^^ (-1))) S h0.2.2.2.1 h0.2.2.2.2.2.2.2.2.2.2.1 (r9, S11) hc10) rfl rfl (Nat.le_of_ble_eq_true rfl) (by decide) ⟨Nat.le_refl _, Nat.le_refl _⟩ ⟨Nat.le_refl _, Nat.le_refl _⟩ dX11_earned_75 ?_
          refine z_goto (tgt := 82) dX11_earned_78 (by decide) ?_
          exact z_mask [false, false, false, false] rfl (tX11_earned_b82 T r9 S11  r h)
      · rw [if_pos q7] at h
        refine z_aload_n dX11_earned_24 rfl ?_
        refine z_gR (zF.x zfX11_23) h0.1 dX11_earned_25 ?_
        refine z_aload_n dX11_earned_28 rfl ?_
        refine z_gR (zF.x zfX11_59) h0.1 dX11_earned_29 ?_
        refine z_iload_n dX11_earned_32 rfl ?_
        refine z_iload_n dX11_earned_33 rfl ?_
        refine z_aload_n dX11_earned_34 rfl ?_
        refine z_gR (zF.x zfX11_23) h0.1 dX11_earned_35 ?_
        refine z_gI (zF.x zfX11_112) h0.2.2.2.1.1 dX11_earned_38 ?_
        refine z_iload_n dX11_earned_41 rfl ?_
        refine z_iconst dX11_earned_42 cI_m1 ?_
        refine z_ixor dX11_earned_43 rfl ?_
        refine z_iand dX11_earned_44 rfl ?_
        obtain ⟨r12, S14, hc13, h⟩ := zb_elim h
        refine z_callV (As := [.ref (zr T k0 11), .int x2, .int x1, .int ((S.1 (zr T k0 3) 0) &&& (x1 ^^^ (-1)))]) zcX0 zkX11_185 ziX0_earnings zqX0_earnings h0.2.2.2.1.1 (tX0_earnings T (zr T k0 3) (zr T k0 11) x2 x1 ((S.1 (zr T k0 3) 0) &&& (x1 ^^^ (-1))) S h0.2.2.2.1 h0.2.2.2.2.2.2.2.2.2.2.1 (r12, S14) hc13) rfl rfl (Nat.le_of_ble_eq_true rfl) (by decide) ⟨Nat.le_refl _, Nat.le_refl _⟩ ⟨Nat.le_refl _, Nat.le_refl _⟩ dX11_earned_45 ?_
        cases h
        exact z_iret rfl dX11_earned_48
    · rw [if_pos q6] at h
      exact z_mask [false, false, false, false] rfl (tX11_earned_b18 T  S  r h)
/-! X11_most -/
noncomputable def fX11_most_b25 (T : zT)  (S : zS) : Option (Int32 × zS) :=
  some ((-1), S)
noncomputable def fX11_most_b110 (T : zT) (k0 : Nat) (x1 : Int32) (x2 : Int32) (x3 : Int32) (x4 : Int32) (x5 : Int32) (S : zS) : Option ((Int32 × Int32 × Int32 × zS) ⊕ (Int32 × zS)) :=
  zlet (x5 + 1) fun u12 => some (.inl (x3, x4, u12, S))
noncomputable def fX11_most_l35 (T : zT) (k0 : Nat) (x1 : Int32) (x2 : Int32) (x3 : Int32) (x4 : Int32) (x5 : Int32) (S : zS) : Option ((Int32 × Int32 × Int32 × zS) ⊕ (Int32 × zS)) :=
  if (S.1 (zr T k0 3) 0) < x5 then some (.inr (x3, S)) else zb1 (fX0_hasAll T (zr T k0 3) x5 S) fun r9 => if r9 = 0 then fX11_most_b110 T k0 x1 x2 x3 x4 x5 S else zb1 (fJ6_bitCount_0f7a4 T x5 S) fun r13 => if r13 = x2 then zb (fX0_earnings T (zr T k0 3) (zr T k0 11) x1 x5 ((S.1 (zr T k0 3) 0) &&& (x5 ^^^ (-1))) S) fun r16 S18 => if r16 ≤ x4 then fX11_most_b110 T k0 x1 x2 x3 x4 x5 S18 else fX11_most_b110 T k0 x1 x2 x5 r16 x5 S18 else fX11_most_b110 T k0 x1 x2 x3 x4 x5 S
noncomputable def fX11_most (T : zT) (k0 : Nat) (x1 : Int32) (x2 : Int32) (S : zS) : Option (Int32 × zS) :=
  zb1 (fX11_isTellable T x1 S) fun r1 => if r1 = 0 then fX11_most_b25 T  S else if x2 < 0 then fX11_most_b25 T  S else zb1 (fJ6_bitCount_0f7a4 T (S.1 (zr T k0 3) 0) S) fun r5 => if x2 ≤ r5 then zb1 (lp (fun a => fX11_most_l35 T k0 x1 x2 a.1 a.2.1 a.2.2.1 a.2.2.2) ((-1), (-1), 0, S)) fun e20 => some (e20.1, e20.2) else fX11_most_b25 T  S
set_option maxHeartbeats 4000000 in
set_option maxRecDepth 100000 in
theorem tX11_most_b25 (T : zT)  (S : zS)  {g : zG} (r : (Int32 × zS)) (h : fX11_most_b25 T  S = some r)  : zg g 4 mX11_most T 25 [none, none, none, none, none, none, none] [] T S (some (.int r.1)) T r.2 := by
  unfold fX11_most_b25 at h
  refine z_iconst dX11_most_25 cI_m1 ?_
  cases h
  exact z_iret rfl dX11_most_26
set_option maxHeartbeats 4000000 in
set_option maxRecDepth 100000 in
theorem tX11_most_b110 (T : zT) (k0 : Nat) (x1 : Int32) (x2 : Int32) (x3 : Int32) (x4 : Int32) (x5 : Int32) (S : zS) (h0 : iX11 T k0) {g : zG} {v : Option Value} {S' : zS} (r : ((Int32 × Int32 × Int32 × zS) ⊕ (Int32 × zS))) (h : fX11_most_b110 T k0 x1 x2 x3 x4 x5 S = some r) (K1 : ∀ a : (Int32 × Int32 × Int32 × zS), r = .inl a → zg g 4 mX11_most T 35 [some (.ref k0), some (.int x1), some (.int x2), some (.int a.1), some (.int a.2.1), some (.int a.2.2.1), none] [] T a.2.2.2 v T S') (K2_0 : ∀ e : (Int32 × zS), r = .inr e → zg g 4 mX11_most T 116 [none, none, none, some (.int e.1), none, none, none] [] T e.2 v T S') : zg g 4 mX11_most T 110 [some (.ref k0), some (.int x1), some (.int x2), some (.int x3), some (.int x4), some (.int x5), none] [] T S v T S' := by
  unfold fX11_most_b110 at h
  obtain ⟨u12, eu12, h⟩ := zlet_elim h
  refine z_iinc (r := u12) dX11_most_110 rfl (by rw [eu12, cI_1]) rfl (by decide) rfl ?_
  refine z_goto (tgt := 35) dX11_most_113 (by decide) ?_
  cases h
  exact z_mask [true, true, true, true, true, true, false] rfl (K1 _ rfl)
set_option maxHeartbeats 4000000 in
set_option maxRecDepth 100000 in
theorem tX11_most_l35b (T : zT) (k0 : Nat) (x1 : Int32) (x2 : Int32) (x3 : Int32) (x4 : Int32) (x5 : Int32) (S : zS) (h0 : iX11 T k0) {g : zG} {v : Option Value} {S' : zS} (r : (Int32 × Int32 × Int32 × zS) ⊕ (Int32 × zS)) (h : fX11_most_l35 T k0 x1 x2 x3 x4 x5 S = some r) (K1 : ∀ a : (Int32 × Int32 × Int32 × zS), r = .inl a → zg g 4 mX11_most T 35 [some (.ref k0), some (.int x1), some (.int x2), some (.int a.1), some (.int a.2.1), some (.int a.2.2.1), none] [] T a.2.2.2 v T S') (K2_0 : ∀ e : (Int32 × zS), r = .inr e → zg g 4 mX11_most T 116 [none, none, none, some (.int e.1), none, none, none] [] T e.2 v T S') : zg g 4 mX11_most T 35 [some (.ref k0), some (.int x1), some (.int x2), some (.int x3), some (.int x4), some (.int x5), none] [] T S v T S' := by
  unfold fX11_most_l35 at h
  refine z_iload dX11_most_35 rfl ?_
  refine z_aload_n dX11_most_37 rfl ?_
  refine z_gR (zF.x zfX11_23) h0.1 dX11_most_38 ?_
  refine z_gI (zF.x zfX11_112) h0.2.2.2.1.1 dX11_most_41 ?_
  refine z_icmp_gt (tgt := 116) dX11_most_44 (by decide) (fun q8 => ?_) (fun q8 => ?_)
  · rw [if_pos q8] at h
    cases h
    exact z_mask [false, false, false, true, false, false, false] rfl (K2_0 _ rfl)
  · rw [if_neg q8] at h
    refine z_aload_n dX11_most_47 rfl ?_
    refine z_gR (zF.x zfX11_23) h0.1 dX11_most_48 ?_
    refine z_iload dX11_most_51 rfl ?_
    obtain ⟨r9, hc10, h⟩ := zb1_elim h
    refine z_callV (As := [.int x5]) zcX0 zkX11_182 ziX0_hasAll zqX0_hasAll h0.2.2.2.1.1 (tX0_hasAll T (zr T k0 3) x5 S h0.2.2.2.1 r9 hc10) rfl rfl (Nat.le_of_ble_eq_true rfl) (by decide) ⟨Nat.le_refl _, Nat.le_refl _⟩ ⟨Nat.le_refl _, Nat.le_refl _⟩ dX11_most_53 ?_
    refine z_if_eq (tgt := 110) dX11_most_56 (by decide) (fun q11 => ?_) (fun q11 => ?_)
    · rw [if_pos q11] at h
      exact z_mask [true, true, true, true, true, true, false] rfl (tX11_most_b110 T k0 x1 x2 x3 x4 x5 S h0 r h K1 K2_0)
    · rw [if_neg q11] at h
      refine z_iload dX11_most_59 rfl ?_
      obtain ⟨r13, hc14, h⟩ := zb1_elim h
      refine z_callS (As := [.int x5]) zkX11_115 zsJ6_bitCount_0f7a4 (tJ6_bitCount_0f7a4 T x5 S  r13 hc14) rfl rfl (Nat.le_of_ble_eq_true rfl) (by decide) ⟨Nat.le_refl _, Nat.le_refl _⟩ ⟨Nat.le_refl _, Nat.le_refl _⟩ dX11_most_61 ?_
      refine z_iload_n dX11_most_64 rfl ?_
      refine z_icmp_ne (tgt := 110) dX11_most_65 (by decide) (fun q15 => ?_) (fun q15 => ?_)
      · rw [if_neg q15] at h
        exact z_mask [true, true, true, true, true, true, false] rfl (tX11_most_b110 T k0 x1 x2 x3 x4 x5 S h0 r h K1 K2_0)
      · rw [if_pos q15] at h
        refine z_aload_n dX11_most_68 rfl ?_
        refine z_gR (zF.x zfX11_23) h0.1 dX11_most_69 ?_
        refine z_aload_n dX11_most_72 rfl ?_
        refine z_gR (zF.x zfX11_59) h0.1 dX11_most_73 ?_
        refine z_iload_n dX11_most_76 rfl ?_
        refine z_iload dX11_most_77 rfl ?_
        refine z_aload_n dX11_most_79 rfl ?_
        refine z_gR (zF.x zfX11_23) h0.1 dX11_most_80 ?_
        refine z_gI (zF.x zfX11_112) h0.2.2.2.1.1 dX11_most_83 ?_
        refine z_iload dX11_most_86 rfl ?_
        refine z_iconst dX11_most_88 cI_m1 ?_
        refine z_ixor dX11_most_89 rfl ?_
        refine z_iand dX11_most_90 rfl ?_
        obtain ⟨r16, S18, hc17, h⟩ := zb_elim h
        refine z_callV (As := [.ref (zr T k0 11), .int x1, .int x5, .int ((S.1 (zr T k0 3) 0) &&& (x5 ^^^ (-1)))]) zcX0 zkX11_185 ziX0_earnings zqX0_earnings h0.2.2.2.1.1 (tX0_earnings T (zr T k0 3) (zr T k0 11) x1 x5 ((S.1 (zr T k0 3) 0) &&& (x5 ^^^ (-1))) S h0.2.2.2.1 h0.2.2.2.2.2.2.2.2.2.2.1 (r16, S18) hc17) rfl rfl (Nat.le_of_ble_eq_true rfl) (by decide) ⟨Nat.le_refl _, Nat.le_refl _⟩ ⟨Nat.le_refl _, Nat.le_refl _⟩ dX11_most_91 ?_
        refine z_istore dX11_most_94 rfl (by decide) rfl ?_
        refine z_iload dX11_most_96 rfl ?_
        refine z_iload dX11_most_98 rfl ?_
        refine z_icmp_le (tgt := 110) dX11_most_100 (by decide) (fun q19 => ?_) (fun q19 => ?_)
        · rw [if_pos q19] at h
          exact z_mask [true, true, true, true, true, true, false] rfl (tX11_most_b110 T k0 x1 x2 x3 x4 x5 S18 h0 r h K1 K2_0)
        · rw [if_neg q19] at h
          refine z_iload dX11_most_103 rfl ?_
          refine z_istore dX11_most_105 rfl (by decide) rfl ?_
          refine z_iload dX11_most_107 rfl ?_
          refine z_istore_n dX11_most_109 rfl (by decide) rfl ?_
          exact z_mask [true, true, true, true, true, true, false] rfl (tX11_most_b110 T k0 x1 x2 x5 r16 x5 S18 h0 r h K1 K2_0)
set_option maxHeartbeats 4000000 in
set_option maxRecDepth 100000 in
theorem tX11_most_l35 (T : zT) (k0 : Nat) (x1 : Int32) (x2 : Int32) (h0 : iX11 T k0) {g : zG} {v : Option Value} {S' : zS} : ∀ (n : Nat) (a : (Int32 × Int32 × Int32 × zS)) (e : (Int32 × zS)), lpn (fun a => fX11_most_l35 T k0 x1 x2 a.1 a.2.1 a.2.2.1 a.2.2.2) n a = some e → (∀ e1 : (Int32 × zS), e = e1 → zg g 4 mX11_most T 116 [none, none, none, some (.int e1.1), none, none, none] [] T e1.2 v T S') → zg g 4 mX11_most T 35 [some (.ref k0), some (.int x1), some (.int x2), some (.int a.1), some (.int a.2.1), some (.int a.2.2.1), none] [] T a.2.2.2 v T S' := by
  intro n
  induction n with
  | zero =>
    intro a e h
    cases h
  | succ n ih =>
    intro a e h k0_
    rcases lpn_succ h with ⟨a1, ha_, hb_⟩ | ha_
    · exact tX11_most_l35b T k0 x1 x2 a.1 a.2.1 a.2.2.1 a.2.2.2 h0 _ ha_ (fun a2 q => by cases q; exact ih a1 e hb_ k0_) (fun e1 q => by cases q)
    · exact tX11_most_l35b T k0 x1 x2 a.1 a.2.1 a.2.2.1 a.2.2.2 h0 _ ha_ (fun a2 q => by cases q) (fun e1 q => by cases q; exact k0_ _ rfl)
set_option maxHeartbeats 4000000 in
set_option maxRecDepth 100000 in
theorem tX11_most (T : zT) (k0 : Nat) (x1 : Int32) (x2 : Int32) (S : zS) (h0 : iX11 T k0) (r : Int32 × zS) (h : fX11_most T k0 x1 x2 S = some r) : zGM 4 mX11_most [.ref k0, .int x1, .int x2] T S (some (.int r.1)) T r.2 := by
  refine zGM_of zpnX11 rfl (Nat.le_of_ble_eq_true rfl) (fun g => ?_)
  show zg g 4 mX11_most T 0 [some (.ref k0), some (.int x1), some (.int x2), none, none, none, none] [] T S (some (.int r.1)) T r.2
  unfold fX11_most at h
  refine z_iload_n dX11_most_0 rfl ?_
  obtain ⟨r1, hc2, h⟩ := zb1_elim h
  refine z_callS (As := [.int x1]) zkX11_175 zsX11_isTellable (tX11_isTellable T x1 S  r1 hc2) rfl rfl (Nat.le_of_ble_eq_true rfl) (by decide) ⟨Nat.le_refl _, Nat.le_refl _⟩ ⟨Nat.le_refl _, Nat.le_refl _⟩ dX11_most_1 ?_
  refine z_if_eq (tgt := 25) dX11_most_4 (by decide) (fun q3 => ?_) (fun q3 => ?_)
  · rw [if_pos q3] at h
    exact z_mask [false, false, false, false, false, false, false] rfl (tX11_most_b25 T  S  r h)
  · rw [if_neg q3] at h
    refine z_iload_n dX11_most_7 rfl ?_
    refine z_if_lt (tgt := 25) dX11_most_8 (by decide) (fun q4 => ?_) (fun q4 => ?_)
    · rw [if_pos q4] at h
      exact z_mask [false, false, false, false, false, false, false] rfl (tX11_most_b25 T  S  r h)
    · rw [if_neg q4] at h
      refine z_iload_n dX11_most_11 rfl ?_
      refine z_aload_n dX11_most_12 rfl ?_
      refine z_gR (zF.x zfX11_23) h0.1 dX11_most_13 ?_
      refine z_gI (zF.x zfX11_112) h0.2.2.2.1.1 dX11_most_16 ?_
      obtain ⟨r5, hc6, h⟩ := zb1_elim h
      refine z_callS (As := [.int (S.1 (zr T k0 3) 0)]) zkX11_115 zsJ6_bitCount_0f7a4 (tJ6_bitCount_0f7a4 T (S.1 (zr T k0 3) 0) S  r5 hc6) rfl rfl (Nat.le_of_ble_eq_true rfl) (by decide) ⟨Nat.le_refl _, Nat.le_refl _⟩ ⟨Nat.le_refl _, Nat.le_refl _⟩ dX11_most_19 ?_
      refine z_icmp_le (tgt := 27) dX11_most_22 (by decide) (fun q7 => ?_) (fun q7 => ?_)
      · rw [if_pos q7] at h
        refine z_iconst dX11_most_27 cI_m1 ?_
        refine z_istore_n dX11_most_28 rfl (by decide) rfl ?_
        refine z_iconst dX11_most_29 cI_m1 ?_
        refine z_istore dX11_most_30 rfl (by decide) rfl ?_
        refine z_iconst dX11_most_32 cI_0 ?_
        refine z_istore dX11_most_33 rfl (by decide) rfl ?_
        obtain ⟨e20, hl21, h⟩ := zb1_elim h
        obtain ⟨nf22, hl21⟩ := lp_some hl21
        refine z_mask [true, true, true, true, true, true, false] rfl (tX11_most_l35 T k0 x1 x2 h0 nf22 ((-1), (-1), 0, S) e20 hl21 (fun e_ q => ?_))
        · cases q
          refine z_iload_n dX11_most_116 rfl ?_
          cases h
          exact z_iret rfl dX11_most_117
      · rw [if_neg q7] at h
        exact z_mask [false, false, false, false, false, false, false] rfl (tX11_most_b25 T  S  r h)
/-! X11_pays -/
noncomputable def fX11_pays_b37 (T : zT)  (S : zS) : Option (Int32 × zS) :=
  some ((-1), S)
noncomputable def fX11_pays_l74 (T : zT) (k0 : Nat) (x2 : Int32) (x3 : Int32) (x4 : Int32) (x5 : Int32) (x6 : Int32) (x7 : Int32) (x8 : Int32) (S : zS) : Option ((Int32 × Int32 × zS) ⊕ (zS ⊕ (Int32 × zS))) :=
  if 200 < x8 then some (.inr (.inl S)) else zlet ((x3 + x8) - 1) fun u16 => zb (fX0_earnings T (zr T k0 3) (zr T k0 11) u16 x2 x4 S) fun r17 S19 => zlet (x7 + r17) fun u20 => zb (fX0_earnings T (zr T k0 3) (zr T k0 11) u16 (x2 &&& (x5 ^^^ (-1))) (x4 ||| x5) S19) fun r21 S23 => zlet (u20 - r21) fun u24 => if u24 < x6 then zlet (x8 + 1) fun u26 => some (.inl (u24, u26, S23)) else some (.inr (.inr (x8, S23)))
noncomputable def fX11_pays (T : zT) (k0 : Nat) (x1 : Int32) (x2 : Int32) (x3 : Int32) (S : zS) : Option (Int32 × zS) :=
  zb1 (fX0_has T (zr T k0 3) x1 S) fun r1 => if r1 = 0 then fX11_pays_b37 T  S else zb1 (fX0_hasAll T (zr T k0 3) x2 S) fun r4 => if r4 = 0 then fX11_pays_b37 T  S else zb1 (fX11_isTellable T x3 S) fun r7 => if r7 = 0 then fX11_pays_b37 T  S else if ((x2 >>> (x1 &&& 31)) &&& 1) = 0 then fX11_pays_b37 T  S else zlet ((S.1 (zr T k0 3) 0) &&& (x2 ^^^ (-1))) fun u11 => zlet (1 <<< (x1 &&& 31)) fun u12 => zb1 (fX0_firstOwed T (zr T k0 3) x1 x3 S) fun r13 => zb1 (lp (fun a => fX11_pays_l74 T k0 x2 x3 u11 u12 r13 a.1 a.2.1 a.2.2) (0, 1, S)) fun e27 => zsm e27 (fun e27_0 => some ((-2), e27_0)) (fun e27_1 => some (e27_1.1, e27_1.2))
set_option maxHeartbeats 4000000 in
set_option maxRecDepth 100000 in
theorem tX11_pays_b37 (T : zT)  (S : zS)  {g : zG} (r : (Int32 × zS)) (h : fX11_pays_b37 T  S = some r)  : zg g 4 mX11_pays T 37 [none, none, none, none, none, none, none, none, none, none] [] T S (some (.int r.1)) T r.2 := by
  unfold fX11_pays_b37 at h
  refine z_iconst dX11_pays_37 cI_m1 ?_
  cases h
  exact z_iret rfl dX11_pays_38
set_option maxHeartbeats 4000000 in
set_option maxRecDepth 100000 in
theorem tX11_pays_l74b (T : zT) (k0 : Nat) (x2 : Int32) (x3 : Int32) (x4 : Int32) (x5 : Int32) (x6 : Int32) (x7 : Int32) (x8 : Int32) (S : zS) (h0 : iX11 T k0) {g : zG} {v : Option Value} {S' : zS} (r : (Int32 × Int32 × zS) ⊕ (zS ⊕ (Int32 × zS))) (h : fX11_pays_l74 T k0 x2 x3 x4 x5 x6 x7 x8 S = some r) (K1 : ∀ a : (Int32 × Int32 × zS), r = .inl a → zg g 4 mX11_pays T 74 [some (.ref k0), none, some (.int x2), some (.int x3), some (.int x4), some (.int x5), some (.int x6), some (.int a.1), some (.int a.2.1), none] [] T a.2.2 v T S') (K2_0 : ∀ e : zS, r = .inr (.inl e) → zg g 4 mX11_pays T 156 [none, none, none, none, none, none, none, none, none, none] [] T e v T S') (K2_1 : ∀ e : (Int32 × zS), r = .inr (.inr e) → zg g 4 mX11_pays T 147 [none, none, none, none, none, none, none, none, some (.int e.1), none] [] T e.2 v T S') : zg g 4 mX11_pays T 74 [some (.ref k0), none, some (.int x2), some (.int x3), some (.int x4), some (.int x5), some (.int x6), some (.int x7), some (.int x8), none] [] T S v T S' := by
  unfold fX11_pays_l74 at h
  refine z_iload dX11_pays_74 rfl ?_
  refine z_sipush dX11_pays_76 cS_200 ?_
  refine z_icmp_gt (tgt := 156) dX11_pays_79 (by decide) (fun q15 => ?_) (fun q15 => ?_)
  · rw [if_pos q15] at h
    cases h
    exact z_mask [false, false, false, false, false, false, false, false, false, false] rfl (K2_0 _ rfl)
  · rw [if_neg q15] at h
    refine z_iload_n dX11_pays_82 rfl ?_
    refine z_iload dX11_pays_83 rfl ?_
    refine z_iadd dX11_pays_85 rfl ?_
    refine z_iconst dX11_pays_86 cI_1 ?_
    refine z_isub dX11_pays_87 rfl ?_
    obtain ⟨u16, eu16, h⟩ := zlet_elim h
    refine z_ti eu16 ?_
    refine z_istore dX11_pays_88 rfl (by decide) rfl ?_
    refine z_iload dX11_pays_90 rfl ?_
    refine z_aload_n dX11_pays_92 rfl ?_
    refine z_gR (zF.x zfX11_23) h0.1 dX11_pays_93 ?_
    refine z_aload_n dX11_pays_96 rfl ?_
    refine z_gR (zF.x zfX11_59) h0.1 dX11_pays_97 ?_
    refine z_iload dX11_pays_100 rfl ?_
    refine z_iload_n dX11_pays_102 rfl ?_
    refine z_iload dX11_pays_103 rfl ?_
    obtain ⟨r17, S19, hc18, h⟩ := zb_elim h
    refine z_callV (As := [.ref (zr T k0 11), .int u16, .int x2, .int x4]) zcX0 zkX11_185 ziX0_earnings zqX0_earnings h0.2.2.2.1.1 (tX0_earnings T (zr T k0 3) (zr T k0 11) u16 x2 x4 S h0.2.2.2.1 h0.2.2.2.2.2.2.2.2.2.2.1 (r17, S19) hc18) rfl rfl (Nat.le_of_ble_eq_true rfl) (by decide) ⟨Nat.le_refl _, Nat.le_refl _⟩ ⟨Nat.le_refl _, Nat.le_refl _⟩ dX11_pays_105 ?_
    refine z_iadd dX11_pays_108 rfl ?_
    obtain ⟨u20, eu20, h⟩ := zlet_elim h
    refine z_ti eu20 ?_
    refine z_istore dX11_pays_109 rfl (by decide) rfl ?_
    refine z_iload dX11_pays_111 rfl ?_
    refine z_aload_n dX11_pays_113 rfl ?_
    refine z_gR (zF.x zfX11_23) h0.1 dX11_pays_114 ?_
    refine z_aload_n dX11_pays_117 rfl ?_
    refine z_gR (zF.x zfX11_59) h0.1 dX11_pays_118 ?_
    refine z_iload dX11_pays_121 rfl ?_
    refine z_iload_n dX11_pays_123 rfl ?_
    refine z_iload dX11_pays_124 rfl ?_
    refine z_iconst dX11_pays_126 cI_m1 ?_
    refine z_ixor dX11_pays_127 rfl ?_
    refine z_iand dX11_pays_128 rfl ?_
    refine z_iload dX11_pays_129 rfl ?_
    refine z_iload dX11_pays_131 rfl ?_
    refine z_ior dX11_pays_133 rfl ?_
    obtain ⟨r21, S23, hc22, h⟩ := zb_elim h
    refine z_callV (As := [.ref (zr T k0 11), .int u16, .int (x2 &&& (x5 ^^^ (-1))), .int (x4 ||| x5)]) zcX0 zkX11_185 ziX0_earnings zqX0_earnings h0.2.2.2.1.1 (tX0_earnings T (zr T k0 3) (zr T k0 11) u16 (x2 &&& (x5 ^^^ (-1))) (x4 ||| x5) S19 h0.2.2.2.1 h0.2.2.2.2.2.2.2.2.2.2.1 (r21, S23) hc22) rfl rfl (Nat.le_of_ble_eq_true rfl) (by decide) ⟨Nat.le_refl _, Nat.le_refl _⟩ ⟨Nat.le_refl _, Nat.le_refl _⟩ dX11_pays_134 ?_
    refine z_isub dX11_pays_137 rfl ?_
    obtain ⟨u24, eu24, h⟩ := zlet_elim h
    refine z_ti eu24 ?_
    refine z_istore dX11_pays_138 rfl (by decide) rfl ?_
    refine z_iload dX11_pays_140 rfl ?_
    refine z_iload dX11_pays_142 rfl ?_
    refine z_icmp_lt (tgt := 150) dX11_pays_144 (by decide) (fun q25 => ?_) (fun q25 => ?_)
    · rw [if_pos q25] at h
      obtain ⟨u26, eu26, h⟩ := zlet_elim h
      refine z_iinc (r := u26) dX11_pays_150 rfl (by rw [eu26, cI_1]) rfl (by decide) rfl ?_
      refine z_goto (tgt := 74) dX11_pays_153 (by decide) ?_
      cases h
      exact z_mask [true, false, true, true, true, true, true, true, true, false] rfl (K1 _ rfl)
    · rw [if_neg q25] at h
      cases h
      exact z_mask [false, false, false, false, false, false, false, false, true, false] rfl (K2_1 _ rfl)
set_option maxHeartbeats 4000000 in
set_option maxRecDepth 100000 in
theorem tX11_pays_l74 (T : zT) (k0 : Nat) (x2 : Int32) (x3 : Int32) (x4 : Int32) (x5 : Int32) (x6 : Int32) (h0 : iX11 T k0) {g : zG} {v : Option Value} {S' : zS} : ∀ (n : Nat) (a : (Int32 × Int32 × zS)) (e : (zS ⊕ (Int32 × zS))), lpn (fun a => fX11_pays_l74 T k0 x2 x3 x4 x5 x6 a.1 a.2.1 a.2.2) n a = some e → (∀ e1 : zS, e = (.inl e1) → zg g 4 mX11_pays T 156 [none, none, none, none, none, none, none, none, none, none] [] T e1 v T S') → (∀ e1 : (Int32 × zS), e = (.inr e1) → zg g 4 mX11_pays T 147 [none, none, none, none, none, none, none, none, some (.int e1.1), none] [] T e1.2 v T S') → zg g 4 mX11_pays T 74 [some (.ref k0), none, some (.int x2), some (.int x3), some (.int x4), some (.int x5), some (.int x6), some (.int a.1), some (.int a.2.1), none] [] T a.2.2 v T S' := by
  intro n
  induction n with
  | zero =>
    intro a e h
    cases h
  | succ n ih =>
    intro a e h k0_ k1_
    rcases lpn_succ h with ⟨a1, ha_, hb_⟩ | ha_
    · exact tX11_pays_l74b T k0 x2 x3 x4 x5 x6 a.1 a.2.1 a.2.2 h0 _ ha_ (fun a2 q => by cases q; exact ih a1 e hb_ k0_ k1_) (fun e1 q => by cases q) (fun e1 q => by cases q)
    · exact tX11_pays_l74b T k0 x2 x3 x4 x5 x6 a.1 a.2.1 a.2.2 h0 _ ha_ (fun a2 q => by cases q) (fun e1 q => by cases q; exact k0_ _ rfl) (fun e1 q => by cases q; exact k1_ _ rfl)
set_option maxHeartbeats 4000000 in
set_option maxRecDepth 100000 in
theorem tX11_pays (T : zT) (k0 : Nat) (x1 : Int32) (x2 : Int32) (x3 : Int32) (S : zS) (h0 : iX11 T k0) (r : Int32 × zS) (h : fX11_pays T k0 x1 x2 x3 S = some r) : zGM 4 mX11_pays [.ref k0, .int x1, .int x2, .int x3] T S (some (.int r.1)) T r.2 := by
  refine zGM_of zpnX11 rfl (Nat.le_of_ble_eq_true rfl) (fun g => ?_)
  show zg g 4 mX11_pays T 0 [some (.ref k0), some (.int x1), some (.int x2), some (.int x3), none, none, none, none, none, none] [] T S (some (.int r.1)) T r.2
  unfold fX11_pays at h
  refine z_aload_n dX11_pays_0 rfl ?_
  refine z_gR (zF.x zfX11_23) h0.1 dX11_pays_1 ?_
  refine z_iload_n dX11_pays_4 rfl ?_
  obtain ⟨r1, hc2, h⟩ := zb1_elim h
  refine z_callV (As := [.int x1]) zcX0 zkX11_128 ziX0_has zqX0_has h0.2.2.2.1.1 (tX0_has T (zr T k0 3) x1 S h0.2.2.2.1 r1 hc2) rfl rfl (Nat.le_of_ble_eq_true rfl) (by decide) ⟨Nat.le_refl _, Nat.le_refl _⟩ ⟨Nat.le_refl _, Nat.le_refl _⟩ dX11_pays_5 ?_
  refine z_if_eq (tgt := 37) dX11_pays_8 (by decide) (fun q3 => ?_) (fun q3 => ?_)
  · rw [if_pos q3] at h
    exact z_mask [false, false, false, false, false, false, false, false, false, false] rfl (tX11_pays_b37 T  S  r h)
  · rw [if_neg q3] at h
    refine z_aload_n dX11_pays_11 rfl ?_
    refine z_gR (zF.x zfX11_23) h0.1 dX11_pays_12 ?_
    refine z_iload_n dX11_pays_15 rfl ?_
    obtain ⟨r4, hc5, h⟩ := zb1_elim h
    refine z_callV (As := [.int x2]) zcX0 zkX11_182 ziX0_hasAll zqX0_hasAll h0.2.2.2.1.1 (tX0_hasAll T (zr T k0 3) x2 S h0.2.2.2.1 r4 hc5) rfl rfl (Nat.le_of_ble_eq_true rfl) (by decide) ⟨Nat.le_refl _, Nat.le_refl _⟩ ⟨Nat.le_refl _, Nat.le_refl _⟩ dX11_pays_16 ?_
    refine z_if_eq (tgt := 37) dX11_pays_19 (by decide) (fun q6 => ?_) (fun q6 => ?_)
    · rw [if_pos q6] at h
      exact z_mask [false, false, false, false, false, false, false, false, false, false] rfl (tX11_pays_b37 T  S  r h)
    · rw [if_neg q6] at h
      refine z_iload_n dX11_pays_22 rfl ?_
      obtain ⟨r7, hc8, h⟩ := zb1_elim h
      refine z_callS (As := [.int x3]) zkX11_175 zsX11_isTellable (tX11_isTellable T x3 S  r7 hc8) rfl rfl (Nat.le_of_ble_eq_true rfl) (by decide) ⟨Nat.le_refl _, Nat.le_refl _⟩ ⟨Nat.le_refl _, Nat.le_refl _⟩ dX11_pays_23 ?_
      refine z_if_eq (tgt := 37) dX11_pays_26 (by decide) (fun q9 => ?_) (fun q9 => ?_)
      · rw [if_pos q9] at h
        exact z_mask [false, false, false, false, false, false, false, false, false, false] rfl (tX11_pays_b37 T  S  r h)
      · rw [if_neg q9] at h
        refine z_iload_n dX11_pays_29 rfl ?_
        refine z_iload_n dX11_pays_30 rfl ?_
        refine z_ishr dX11_pays_31 rfl ?_
        refine z_iconst dX11_pays_32 cI_1 ?_
        refine z_iand dX11_pays_33 rfl ?_
        refine z_if_ne (tgt := 39) dX11_pays_34 (by decide) (fun q10 => ?_) (fun q10 => ?_)
        · rw [if_neg q10] at h
          refine z_aload_n dX11_pays_39 rfl ?_
          refine z_gR (zF.x zfX11_23) h0.1 dX11_pays_40 ?_
          refine z_gI (zF.x zfX11_112) h0.2.2.2.1.1 dX11_pays_43 ?_
          refine z_iload_n dX11_pays_46 rfl ?_
          refine z_iconst dX11_pays_47 cI_m1 ?_
          refine z_ixor dX11_pays_48 rfl ?_
          refine z_iand dX11_pays_49 rfl ?_
          obtain ⟨u11, eu11, h⟩ := zlet_elim h
          refine z_ti eu11 ?_
          refine z_istore dX11_pays_50 rfl (by decide) rfl ?_
          refine z_iconst dX11_pays_52 cI_1 ?_
          refine z_iload_n dX11_pays_53 rfl ?_
          refine z_ishl dX11_pays_54 rfl ?_
          obtain ⟨u12, eu12, h⟩ := zlet_elim h
          refine z_ti eu12 ?_
          refine z_istore dX11_pays_55 rfl (by decide) rfl ?_
          refine z_aload_n dX11_pays_57 rfl ?_
          refine z_gR (zF.x zfX11_23) h0.1 dX11_pays_58 ?_
          refine z_iload_n dX11_pays_61 rfl ?_
          refine z_iload_n dX11_pays_62 rfl ?_
          obtain ⟨r13, hc14, h⟩ := zb1_elim h
          refine z_callV (As := [.int x1, .int x3]) zcX0 zkX11_178 ziX0_firstOwed zqX0_firstOwed h0.2.2.2.1.1 (tX0_firstOwed T (zr T k0 3) x1 x3 S h0.2.2.2.1 r13 hc14) rfl rfl (Nat.le_of_ble_eq_true rfl) (by decide) ⟨Nat.le_refl _, Nat.le_refl _⟩ ⟨Nat.le_refl _, Nat.le_refl _⟩ dX11_pays_63 ?_
          refine z_istore dX11_pays_66 rfl (by decide) rfl ?_
          refine z_iconst dX11_pays_68 cI_0 ?_
          refine z_istore dX11_pays_69 rfl (by decide) rfl ?_
          refine z_iconst dX11_pays_71 cI_1 ?_
          refine z_istore dX11_pays_72 rfl (by decide) rfl ?_
          obtain ⟨e27, hl28, h⟩ := zb1_elim h
          obtain ⟨nf29, hl28⟩ := lp_some hl28
          refine z_mask [true, false, true, true, true, true, true, true, true, false] rfl (tX11_pays_l74 T k0 x2 x3 u11 u12 r13 h0 nf29 (0, 1, S) e27 hl28 (fun e27_0 q => ?_) (fun e27_1 q => ?_))
          · cases q
            replace h := zsm_l h
            refine z_bipush dX11_pays_156 cB_m2 ?_
            cases h
            exact z_iret rfl dX11_pays_158
          · cases q
            replace h := zsm_r h
            refine z_iload dX11_pays_147 rfl ?_
            cases h
            exact z_iret rfl dX11_pays_149
        · rw [if_pos q10] at h
          exact z_mask [false, false, false, false, false, false, false, false, false, false] rfl (tX11_pays_b37 T  S  r h)
/-! X11_likes -/
noncomputable def fX11_likes_b71 (T : zT)  (S : zS) : Option (Int64 × zS) :=
  some (0, S)
noncomputable def fX11_likes_b36 (T : zT) (k0 : Nat) (x1 : Int32) (x2 : Int32) (x3 : Int32) (x4 : Int32) (x5 : Int32) (s0 : Int32) (S : zS) : Option (Int64 × zS) :=
  if s0 = 0 then fX11_likes_b71 T  S else if x3 < 0 then fX11_likes_b71 T  S else if (S.1 (zr T k0 3) 1) ≤ x3 then fX11_likes_b71 T  S else if x5 < 0 then fX11_likes_b71 T  S else if x5 ≤ 99999 then if ((x4 >>> (x2 &&& 31)) &&& 1) = 0 then zb (fX4_begin T (zr T k0 12) S) fun _ S12 => zlet (zI S12 (zr T k0 12) 4 x4) fun S13 => zlet (zI S13 (zr T k0 12) 3 x5) fun S14 => zgd (zin x1 6) (zb (fX4_liking T (zr T k0 12) (zr T (zr T k0 6) (x1 : Int32).toNatClampNeg) x2 x3 S14) fun r16 S18 => some (r16, S18)) else some (0, S) else fX11_likes_b71 T  S
noncomputable def fX11_likes_b35 (T : zT) (k0 : Nat) (x1 : Int32) (x2 : Int32) (x3 : Int32) (x4 : Int32) (x5 : Int32) (S : zS) : Option (Int64 × zS) :=
  fX11_likes_b36 T k0 x1 x2 x3 x4 x5 0 S
noncomputable def fX11_likes (T : zT) (k0 : Nat) (x1 : Int32) (x2 : Int32) (x3 : Int32) (x4 : Int32) (x5 : Int32) (S : zS) : Option (Int64 × zS) :=
  zb1 (fX11_isRule T k0 x1 S) fun r1 => if r1 = 0 then fX11_likes_b35 T k0 x1 x2 x3 x4 x5 S else zb1 (fX0_has T (zr T k0 3) x2 S) fun r19 => if r19 = 0 then fX11_likes_b35 T k0 x1 x2 x3 x4 x5 S else zb1 (fX0_hasAll T (zr T k0 3) x4 S) fun r22 => if r22 = 0 then fX11_likes_b35 T k0 x1 x2 x3 x4 x5 S else fX11_likes_b36 T k0 x1 x2 x3 x4 x5 1 S
set_option maxHeartbeats 4000000 in
set_option maxRecDepth 100000 in
theorem tX11_likes_b71 (T : zT)  (S : zS)  {g : zG} (r : (Int64 × zS)) (h : fX11_likes_b71 T  S = some r)  : zg g 5 mX11_likes T 71 [none, none, none, none, none, none, none] [] T S (some (.long r.1)) T r.2 := by
  unfold fX11_likes_b71 at h
  refine z_lconst (r := 0) dX11_likes_71 rfl ?_
  cases h
  exact z_lret rfl dX11_likes_72
set_option maxHeartbeats 4000000 in
set_option maxRecDepth 100000 in
theorem tX11_likes_b36 (T : zT) (k0 : Nat) (x1 : Int32) (x2 : Int32) (x3 : Int32) (x4 : Int32) (x5 : Int32) (s0 : Int32) (S : zS) (h0 : iX11 T k0) {g : zG} (r : (Int64 × zS)) (h : fX11_likes_b36 T k0 x1 x2 x3 x4 x5 s0 S = some r)  : zg g 5 mX11_likes T 36 [some (.ref k0), some (.int x1), some (.int x2), some (.int x3), some (.int x4), some (.int x5), none] [.int s0] T S (some (.long r.1)) T r.2 := by
  unfold fX11_likes_b36 at h
  refine z_istore dX11_likes_36 rfl (by decide) rfl ?_
  refine z_iload dX11_likes_38 rfl ?_
  refine z_if_eq (tgt := 71) dX11_likes_40 (by decide) (fun q4 => ?_) (fun q4 => ?_)
  · rw [if_pos q4] at h
    exact z_mask [false, false, false, false, false, false, false] rfl (tX11_likes_b71 T  S  r h)
  · rw [if_neg q4] at h
    refine z_iload_n dX11_likes_43 rfl ?_
    refine z_if_lt (tgt := 71) dX11_likes_44 (by decide) (fun q5 => ?_) (fun q5 => ?_)
    · rw [if_pos q5] at h
      exact z_mask [false, false, false, false, false, false, false] rfl (tX11_likes_b71 T  S  r h)
    · rw [if_neg q5] at h
      refine z_iload_n dX11_likes_47 rfl ?_
      refine z_aload_n dX11_likes_48 rfl ?_
      refine z_gR (zF.x zfX11_23) h0.1 dX11_likes_49 ?_
      refine z_gI (zF.x zfX11_150) h0.2.2.2.1.1 dX11_likes_52 ?_
      refine z_icmp_ge (tgt := 71) dX11_likes_55 (by decide) (fun q6 => ?_) (fun q6 => ?_)
      · rw [if_pos q6] at h
        exact z_mask [false, false, false, false, false, false, false] rfl (tX11_likes_b71 T  S  r h)
      · rw [if_neg q6] at h
        refine z_iload dX11_likes_58 rfl ?_
        refine z_if_lt (tgt := 71) dX11_likes_60 (by decide) (fun q7 => ?_) (fun q7 => ?_)
        · rw [if_pos q7] at h
          exact z_mask [false, false, false, false, false, false, false] rfl (tX11_likes_b71 T  S  r h)
        · rw [if_neg q7] at h
          refine z_iload dX11_likes_63 rfl ?_
          refine z_ldcw znX11_285 dX11_likes_65 ?_
          refine z_icmp_le (tgt := 73) dX11_likes_68 (by decide) (fun q8 => ?_) (fun q8 => ?_)
          · rw [if_pos q8] at h
            refine z_iload dX11_likes_73 rfl ?_
            refine z_iload_n dX11_likes_75 rfl ?_
            refine z_ishr dX11_likes_76 rfl ?_
            refine z_iconst dX11_likes_77 cI_1 ?_
            refine z_iand dX11_likes_78 rfl ?_
            refine z_if_eq (tgt := 84) dX11_likes_79 (by decide) (fun q9 => ?_) (fun q9 => ?_)
            · rw [if_pos q9] at h
              refine z_aload_n dX11_likes_84 rfl ?_
              refine z_gR (zF.x zfX11_68) h0.1 dX11_likes_85 ?_
              obtain ⟨r10, S12, hc11, h⟩ := zb_elim h
              refine z_callV (As := []) zcX4 zkX11_286 ziX4_begin zqX4_begin h0.2.2.2.2.2.2.2.2.2.2.2.1.1 (tX4_begin T (zr T k0 12) S h0.2.2.2.2.2.2.2.2.2.2.2.1 (r10, S12) hc11) rfl rfl (Nat.le_of_ble_eq_true rfl) (by decide) ⟨Nat.le_refl _, Nat.le_refl _⟩ ⟨Nat.le_refl _, Nat.le_refl _⟩ dX11_likes_88 ?_
              refine z_aload_n dX11_likes_91 rfl ?_
              refine z_gR (zF.x zfX11_68) h0.1 dX11_likes_92 ?_
              refine z_iload dX11_likes_95 rfl ?_
              refine z_putI zfX11_212 h0.2.2.2.2.2.2.2.2.2.2.2.1.1 dX11_likes_97 ?_
              obtain ⟨S13, eS13, h⟩ := zlet_elim h
              refine z_tS eS13 ?_
              refine z_aload_n dX11_likes_100 rfl ?_
              refine z_gR (zF.x zfX11_68) h0.1 dX11_likes_101 ?_
              refine z_iload dX11_likes_104 rfl ?_
              refine z_putI zfX11_211 h0.2.2.2.2.2.2.2.2.2.2.2.1.1 dX11_likes_106 ?_
              obtain ⟨S14, eS14, h⟩ := zlet_elim h
              refine z_tS eS14 ?_
              refine z_aload_n dX11_likes_109 rfl ?_
              refine z_gR (zF.x zfX11_68) h0.1 dX11_likes_110 ?_
              refine z_aload_n dX11_likes_113 rfl ?_
              refine z_gA (zF.x zfX11_39) h0.1 dX11_likes_114 ?_
              refine z_iload_n dX11_likes_117 rfl ?_
              obtain ⟨q15, h⟩ := zgd_elim h
              refine z_aald h0.2.2.2.2.2.2.1.1 (by decide) (fun _ => rfl) (zin_ok q15) dX11_likes_118 ?_
              refine z_iload_n dX11_likes_119 rfl ?_
              refine z_iload_n dX11_likes_120 rfl ?_
              obtain ⟨r16, S18, hc17, h⟩ := zb_elim h
              refine z_callV (As := [.ref (zr T (zr T k0 6) (x1 : Int32).toNatClampNeg), .int x2, .int x3]) zcX4 zkX11_289 ziX4_liking zqX4_liking h0.2.2.2.2.2.2.2.2.2.2.2.1.1 (tX4_liking T (zr T k0 12) (zr T (zr T k0 6) (x1 : Int32).toNatClampNeg) x2 x3 S14 h0.2.2.2.2.2.2.2.2.2.2.2.1 (h0.2.2.2.2.2.2.1.2 _ (zin_lt q15)) (r16, S18) hc17) rfl rfl (Nat.le_of_ble_eq_true rfl) (by decide) ⟨Nat.le_refl _, Nat.le_refl _⟩ ⟨Nat.le_refl _, Nat.le_refl _⟩ dX11_likes_121 ?_
              cases h
              exact z_lret rfl dX11_likes_124
            · rw [if_neg q9] at h
              refine z_lconst (r := 0) dX11_likes_82 rfl ?_
              cases h
              exact z_lret rfl dX11_likes_83
          · rw [if_neg q8] at h
            exact z_mask [false, false, false, false, false, false, false] rfl (tX11_likes_b71 T  S  r h)
set_option maxHeartbeats 4000000 in
set_option maxRecDepth 100000 in
theorem tX11_likes_b35 (T : zT) (k0 : Nat) (x1 : Int32) (x2 : Int32) (x3 : Int32) (x4 : Int32) (x5 : Int32) (S : zS) (h0 : iX11 T k0) {g : zG} (r : (Int64 × zS)) (h : fX11_likes_b35 T k0 x1 x2 x3 x4 x5 S = some r)  : zg g 5 mX11_likes T 35 [some (.ref k0), some (.int x1), some (.int x2), some (.int x3), some (.int x4), some (.int x5), none] [] T S (some (.long r.1)) T r.2 := by
  unfold fX11_likes_b35 at h
  refine z_iconst dX11_likes_35 cI_0 ?_
  exact z_mask [true, true, true, true, true, true, false] rfl (tX11_likes_b36 T k0 x1 x2 x3 x4 x5 0 S h0 r h)
set_option maxHeartbeats 4000000 in
set_option maxRecDepth 100000 in
theorem tX11_likes (T : zT) (k0 : Nat) (x1 : Int32) (x2 : Int32) (x3 : Int32) (x4 : Int32) (x5 : Int32) (S : zS) (h0 : iX11 T k0) (r : Int64 × zS) (h : fX11_likes T k0 x1 x2 x3 x4 x5 S = some r) : zGM 5 mX11_likes [.ref k0, .int x1, .int x2, .int x3, .int x4, .int x5] T S (some (.long r.1)) T r.2 := by
  refine zGM_of zpnX11 rfl (Nat.le_of_ble_eq_true rfl) (fun g => ?_)
  show zg g 5 mX11_likes T 0 [some (.ref k0), some (.int x1), some (.int x2), some (.int x3), some (.int x4), some (.int x5), none] [] T S (some (.long r.1)) T r.2
  unfold fX11_likes at h
  refine z_aload_n dX11_likes_0 rfl ?_
  refine z_iload_n dX11_likes_1 rfl ?_
  obtain ⟨r1, hc2, h⟩ := zb1_elim h
  refine z_callV (As := [.int x1]) zcX11 zkX11_282 ziX11_isRule zqX11_isRule h0.1 (tX11_isRule T k0 x1 S h0 r1 hc2) rfl rfl (Nat.le_of_ble_eq_true rfl) (by decide) ⟨Nat.le_refl _, Nat.le_refl _⟩ ⟨Nat.le_refl _, Nat.le_refl _⟩ dX11_likes_2 ?_
  refine z_if_eq (tgt := 35) dX11_likes_5 (by decide) (fun q3 => ?_) (fun q3 => ?_)
  · rw [if_pos q3] at h
    exact z_mask [true, true, true, true, true, true, false] rfl (tX11_likes_b35 T k0 x1 x2 x3 x4 x5 S h0 r h)
  · rw [if_neg q3] at h
    refine z_aload_n dX11_likes_8 rfl ?_
    refine z_gR (zF.x zfX11_23) h0.1 dX11_likes_9 ?_
    refine z_iload_n dX11_likes_12 rfl ?_
    obtain ⟨r19, hc20, h⟩ := zb1_elim h
    refine z_callV (As := [.int x2]) zcX0 zkX11_128 ziX0_has zqX0_has h0.2.2.2.1.1 (tX0_has T (zr T k0 3) x2 S h0.2.2.2.1 r19 hc20) rfl rfl (Nat.le_of_ble_eq_true rfl) (by decide) ⟨Nat.le_refl _, Nat.le_refl _⟩ ⟨Nat.le_refl _, Nat.le_refl _⟩ dX11_likes_13 ?_
    refine z_if_eq (tgt := 35) dX11_likes_16 (by decide) (fun q21 => ?_) (fun q21 => ?_)
    · rw [if_pos q21] at h
      exact z_mask [true, true, true, true, true, true, false] rfl (tX11_likes_b35 T k0 x1 x2 x3 x4 x5 S h0 r h)
    · rw [if_neg q21] at h
      refine z_aload_n dX11_likes_19 rfl ?_
      refine z_gR (zF.x zfX11_23) h0.1 dX11_likes_20 ?_
      refine z_iload dX11_likes_23 rfl ?_
      obtain ⟨r22, hc23, h⟩ := zb1_elim h
      refine z_callV (As := [.int x4]) zcX0 zkX11_182 ziX0_hasAll zqX0_hasAll h0.2.2.2.1.1 (tX0_hasAll T (zr T k0 3) x4 S h0.2.2.2.1 r22 hc23) rfl rfl (Nat.le_of_ble_eq_true rfl) (by decide) ⟨Nat.le_refl _, Nat.le_refl _⟩ ⟨Nat.le_refl _, Nat.le_refl _⟩ dX11_likes_25 ?_
      refine z_if_eq (tgt := 35) dX11_likes_28 (by decide) (fun q24 => ?_) (fun q24 => ?_)
      · rw [if_pos q24] at h
        exact z_mask [true, true, true, true, true, true, false] rfl (tX11_likes_b35 T k0 x1 x2 x3 x4 x5 S h0 r h)
      · rw [if_neg q24] at h
        refine z_iconst dX11_likes_31 cI_1 ?_
        refine z_goto (tgt := 36) dX11_likes_32 (by decide) ?_
        exact z_mask [true, true, true, true, true, true, false] rfl (tX11_likes_b36 T k0 x1 x2 x3 x4 x5 1 S h0 r h)
/-! X11_judged -/
noncomputable def fX11_judged (T : zT) (k0 : Nat) (x1 : Int32) (S : zS) : Option (Int32 × zS) :=
  zb (fX4_liveByRow T (zr T k0 12) (zr T k0 5) (-1) S) fun _ S3 => if x1 = 0 then some ((S3.1 (zr T k0 12) 6), S3) else if x1 = 1 then some ((S3.1 (zr T k0 12) 7), S3) else if x1 = 2 then some ((S3.1 (zr T k0 12) 3), S3) else if x1 = 3 then some ((S3.1 (zr T k0 12) 4), S3) else if x1 = 4 then some ((S3.1 (zr T k0 12) 5), S3) else some ((-2), S3)
set_option maxHeartbeats 4000000 in
set_option maxRecDepth 100000 in
theorem tX11_judged (T : zT) (k0 : Nat) (x1 : Int32) (S : zS) (h0 : iX11 T k0) (r : Int32 × zS) (h : fX11_judged T k0 x1 S = some r) : zGM 6 mX11_judged [.ref k0, .int x1] T S (some (.int r.1)) T r.2 := by
  refine zGM_of zpnX11 rfl (Nat.le_of_ble_eq_true rfl) (fun g => ?_)
  show zg g 6 mX11_judged T 0 [some (.ref k0), some (.int x1)] [] T S (some (.int r.1)) T r.2
  unfold fX11_judged at h
  refine z_aload_n dX11_judged_0 rfl ?_
  refine z_gR (zF.x zfX11_68) h0.1 dX11_judged_1 ?_
  refine z_aload_n dX11_judged_4 rfl ?_
  refine z_gR (zF.x zfX11_33) h0.1 dX11_judged_5 ?_
  refine z_ldc2 znX11_199 dX11_judged_8 ?_
  obtain ⟨r1, S3, hc2, h⟩ := zb_elim h
  refine z_callV (As := [.ref (zr T k0 5), .long (-1)]) zcX4 zkX11_201 ziX4_liveByRow zqX4_liveByRow h0.2.2.2.2.2.2.2.2.2.2.2.1.1 (tX4_liveByRow T (zr T k0 12) (zr T k0 5) (-1) S h0.2.2.2.2.2.2.2.2.2.2.2.1 h0.2.2.2.2.2.1 (r1, S3) hc2) rfl rfl (Nat.le_of_ble_eq_true rfl) (by decide) ⟨Nat.le_refl _, Nat.le_refl _⟩ ⟨Nat.le_refl _, Nat.le_refl _⟩ dX11_judged_11 ?_
  refine z_iload_n dX11_judged_14 rfl ?_
  by_cases q4 : x1 = 0
  · rw [if_pos q4] at h
    refine z_tableIn (off := 33) (tgt := 48) dX11_judged_15 (by show ¬ x1.toInt < 0; rw [q4]; decide) (by show ¬ 4 < x1.toInt; rw [q4]; decide) (by rw [q4]; rfl) (by decide) ?_
    refine z_aload_n dX11_judged_48 rfl ?_
    refine z_gR (zF.x zfX11_68) h0.1 dX11_judged_49 ?_
    refine z_gI (zF.x zfX11_205) h0.2.2.2.2.2.2.2.2.2.2.2.1.1 dX11_judged_52 ?_
    cases h
    exact z_iret rfl dX11_judged_55
  rw [if_neg q4] at h
  by_cases q5 : x1 = 1
  · rw [if_pos q5] at h
    refine z_tableIn (off := 41) (tgt := 56) dX11_judged_15 (by show ¬ x1.toInt < 0; rw [q5]; decide) (by show ¬ 4 < x1.toInt; rw [q5]; decide) (by rw [q5]; rfl) (by decide) ?_
    refine z_aload_n dX11_judged_56 rfl ?_
    refine z_gR (zF.x zfX11_68) h0.1 dX11_judged_57 ?_
    refine z_gI (zF.x zfX11_208) h0.2.2.2.2.2.2.2.2.2.2.2.1.1 dX11_judged_60 ?_
    cases h
    exact z_iret rfl dX11_judged_63
  rw [if_neg q5] at h
  by_cases q6 : x1 = 2
  · rw [if_pos q6] at h
    refine z_tableIn (off := 49) (tgt := 64) dX11_judged_15 (by show ¬ x1.toInt < 0; rw [q6]; decide) (by show ¬ 4 < x1.toInt; rw [q6]; decide) (by rw [q6]; rfl) (by decide) ?_
    refine z_aload_n dX11_judged_64 rfl ?_
    refine z_gR (zF.x zfX11_68) h0.1 dX11_judged_65 ?_
    refine z_gI (zF.x zfX11_211) h0.2.2.2.2.2.2.2.2.2.2.2.1.1 dX11_judged_68 ?_
    cases h
    exact z_iret rfl dX11_judged_71
  rw [if_neg q6] at h
  by_cases q7 : x1 = 3
  · rw [if_pos q7] at h
    refine z_tableIn (off := 57) (tgt := 72) dX11_judged_15 (by show ¬ x1.toInt < 0; rw [q7]; decide) (by show ¬ 4 < x1.toInt; rw [q7]; decide) (by rw [q7]; rfl) (by decide) ?_
    refine z_aload_n dX11_judged_72 rfl ?_
    refine z_gR (zF.x zfX11_68) h0.1 dX11_judged_73 ?_
    refine z_gI (zF.x zfX11_212) h0.2.2.2.2.2.2.2.2.2.2.2.1.1 dX11_judged_76 ?_
    cases h
    exact z_iret rfl dX11_judged_79
  rw [if_neg q7] at h
  by_cases q8 : x1 = 4
  · rw [if_pos q8] at h
    refine z_tableIn (off := 65) (tgt := 80) dX11_judged_15 (by show ¬ x1.toInt < 0; rw [q8]; decide) (by show ¬ 4 < x1.toInt; rw [q8]; decide) (by rw [q8]; rfl) (by decide) ?_
    refine z_aload_n dX11_judged_80 rfl ?_
    refine z_gR (zF.x zfX11_68) h0.1 dX11_judged_81 ?_
    refine z_gI (zF.x zfX11_215) h0.2.2.2.2.2.2.2.2.2.2.2.1.1 dX11_judged_84 ?_
    cases h
    exact z_iret rfl dX11_judged_87
  rw [if_neg q8] at h
  have q4i : ¬ x1.toInt = 0 := zneI q4 (by decide)
  have q5i : ¬ x1.toInt = 1 := zneI q5 (by decide)
  have q6i : ¬ x1.toInt = 2 := zneI q6 (by decide)
  have q7i : ¬ x1.toInt = 3 := zneI q7 (by decide)
  have q8i : ¬ x1.toInt = 4 := zneI q8 (by decide)
  refine z_tableOut (tgt := 88) dX11_judged_15 (by show x1.toInt < 0 ∨ 4 < x1.toInt; omega) (by decide) ?_
  refine z_bipush dX11_judged_88 cB_m2 ?_
  cases h
  exact z_iret rfl dX11_judged_90
/-! X11_then -/
noncomputable def fX11_then_b35 (T : zT)  (S : zS) : Option (Int32 × zS) :=
  some ((-2), S)
noncomputable def fX11_then_b71 (T : zT) (s0 : Int32) (S : zS) : Option (Int32 × zS) :=
  some (s0, S)
noncomputable def fX11_then (T : zT) (k0 : Nat) (x1 : Int32) (x2 : Int32) (S : zS) : Option (Int32 × zS) :=
  zb (fX4_liveByRow T (zr T k0 12) (zr T k0 5) (-1) S) fun _ S3 => if x1 < 0 then fX11_then_b35 T  S3 else if (S3.1 (zr T k0 12) 8) ≤ x1 then fX11_then_b35 T  S3 else if x1 < 60 then if x2 = 0 then zgd (zin x1 60) (some ((S3.1 (zr T (zr T k0 12) 9) (x1 : Int32).toNatClampNeg), S3)) else if x2 = 1 then zgd (zin x1 60) (fX11_then_b71 T (S3.1 (zr T (zr T k0 12) 10) (x1 : Int32).toNatClampNeg) S3) else fX11_then_b71 T (-2) S3 else fX11_then_b35 T  S3
set_option maxHeartbeats 4000000 in
set_option maxRecDepth 100000 in
theorem tX11_then_b35 (T : zT)  (S : zS)  {g : zG} (r : (Int32 × zS)) (h : fX11_then_b35 T  S = some r)  : zg g 6 mX11_then T 35 [none, none, none] [] T S (some (.int r.1)) T r.2 := by
  unfold fX11_then_b35 at h
  refine z_bipush dX11_then_35 cB_m2 ?_
  cases h
  exact z_iret rfl dX11_then_37
set_option maxHeartbeats 4000000 in
set_option maxRecDepth 100000 in
theorem tX11_then_b71 (T : zT) (s0 : Int32) (S : zS)  {g : zG} (r : (Int32 × zS)) (h : fX11_then_b71 T s0 S = some r)  : zg g 6 mX11_then T 71 [none, none, none] [.int s0] T S (some (.int r.1)) T r.2 := by
  unfold fX11_then_b71 at h
  cases h
  exact z_iret rfl dX11_then_71
set_option maxHeartbeats 4000000 in
set_option maxRecDepth 100000 in
theorem tX11_then (T : zT) (k0 : Nat) (x1 : Int32) (x2 : Int32) (S : zS) (h0 : iX11 T k0) (r : Int32 × zS) (h : fX11_then T k0 x1 x2 S = some r) : zGM 6 mX11_then [.ref k0, .int x1, .int x2] T S (some (.int r.1)) T r.2 := by
  refine zGM_of zpnX11 rfl (Nat.le_of_ble_eq_true rfl) (fun g => ?_)
  show zg g 6 mX11_then T 0 [some (.ref k0), some (.int x1), some (.int x2)] [] T S (some (.int r.1)) T r.2
  unfold fX11_then at h
  refine z_aload_n dX11_then_0 rfl ?_
  refine z_gR (zF.x zfX11_68) h0.1 dX11_then_1 ?_
  refine z_aload_n dX11_then_4 rfl ?_
  refine z_gR (zF.x zfX11_33) h0.1 dX11_then_5 ?_
  refine z_ldc2 znX11_199 dX11_then_8 ?_
  obtain ⟨r1, S3, hc2, h⟩ := zb_elim h
  refine z_callV (As := [.ref (zr T k0 5), .long (-1)]) zcX4 zkX11_201 ziX4_liveByRow zqX4_liveByRow h0.2.2.2.2.2.2.2.2.2.2.2.1.1 (tX4_liveByRow T (zr T k0 12) (zr T k0 5) (-1) S h0.2.2.2.2.2.2.2.2.2.2.2.1 h0.2.2.2.2.2.1 (r1, S3) hc2) rfl rfl (Nat.le_of_ble_eq_true rfl) (by decide) ⟨Nat.le_refl _, Nat.le_refl _⟩ ⟨Nat.le_refl _, Nat.le_refl _⟩ dX11_then_11 ?_
  refine z_iload_n dX11_then_14 rfl ?_
  refine z_if_lt (tgt := 35) dX11_then_15 (by decide) (fun q4 => ?_) (fun q4 => ?_)
  · rw [if_pos q4] at h
    exact z_mask [false, false, false] rfl (tX11_then_b35 T  S3  r h)
  · rw [if_neg q4] at h
    refine z_iload_n dX11_then_18 rfl ?_
    refine z_aload_n dX11_then_19 rfl ?_
    refine z_gR (zF.x zfX11_68) h0.1 dX11_then_20 ?_
    refine z_gI (zF.x zfX11_218) h0.2.2.2.2.2.2.2.2.2.2.2.1.1 dX11_then_23 ?_
    refine z_icmp_ge (tgt := 35) dX11_then_26 (by decide) (fun q5 => ?_) (fun q5 => ?_)
    · rw [if_pos q5] at h
      exact z_mask [false, false, false] rfl (tX11_then_b35 T  S3  r h)
    · rw [if_neg q5] at h
      refine z_iload_n dX11_then_29 rfl ?_
      refine z_bipush dX11_then_30 cB_60 ?_
      refine z_icmp_lt (tgt := 38) dX11_then_32 (by decide) (fun q6 => ?_) (fun q6 => ?_)
      · rw [if_pos q6] at h
        refine z_iload_n dX11_then_38 rfl ?_
        refine z_if_ne (tgt := 52) dX11_then_39 (by decide) (fun q7 => ?_) (fun q7 => ?_)
        · rw [if_neg q7] at h
          refine z_iload_n dX11_then_52 rfl ?_
          refine z_iconst dX11_then_53 cI_1 ?_
          refine z_icmp_ne (tgt := 69) dX11_then_54 (by decide) (fun q8 => ?_) (fun q8 => ?_)
          · rw [if_neg q8] at h
            refine z_bipush dX11_then_69 cB_m2 ?_
            exact z_mask [false, false, false] rfl (tX11_then_b71 T (-2) S3  r h)
          · rw [if_pos q8] at h
            refine z_aload_n dX11_then_57 rfl ?_
            refine z_gR (zF.x zfX11_68) h0.1 dX11_then_58 ?_
            refine z_gA zfX11_224 h0.2.2.2.2.2.2.2.2.2.2.2.1.1 dX11_then_61 ?_
            refine z_iload_n dX11_then_64 rfl ?_
            obtain ⟨q9, h⟩ := zgd_elim h
            refine z_iald h0.2.2.2.2.2.2.2.2.2.2.2.1.2.2.2.2.2.1 (zin_ok q9) dX11_then_65 ?_
            refine z_goto (tgt := 71) dX11_then_66 (by decide) ?_
            exact z_mask [false, false, false] rfl (tX11_then_b71 T (S3.1 (zr T (zr T k0 12) 10) (x1 : Int32).toNatClampNeg) S3  r h)
        · rw [if_pos q7] at h
          refine z_aload_n dX11_then_42 rfl ?_
          refine z_gR (zF.x zfX11_68) h0.1 dX11_then_43 ?_
          refine z_gA zfX11_221 h0.2.2.2.2.2.2.2.2.2.2.2.1.1 dX11_then_46 ?_
          refine z_iload_n dX11_then_49 rfl ?_
          obtain ⟨q10, h⟩ := zgd_elim h
          refine z_iald h0.2.2.2.2.2.2.2.2.2.2.2.1.2.2.2.2.1 (zin_ok q10) dX11_then_50 ?_
          cases h
          exact z_iret rfl dX11_then_51
      · rw [if_neg q6] at h
        exact z_mask [false, false, false] rfl (tX11_then_b35 T  S3  r h)
/-! X11_readyPlans -/
noncomputable def fX11_readyPlans (T : zT) (k0 : Nat) (S : zS) : Option (Nat × zS) :=
  zb (fX5_prepare T (zr T k0 13) S) fun _ S3 => some ((zr T k0 13), S3)
set_option maxHeartbeats 4000000 in
set_option maxRecDepth 100000 in
theorem tX11_readyPlans (T : zT) (k0 : Nat) (S : zS) (h0 : iX11 T k0) (r : Nat × zS) (h : fX11_readyPlans T k0 S = some r) : zGM 6 mX11_readyPlans [.ref k0] T S (some (.ref r.1)) T r.2 := by
  refine zGM_of zpnX11 rfl (Nat.le_of_ble_eq_true rfl) (fun g => ?_)
  show zg g 6 mX11_readyPlans T 0 [some (.ref k0)] [] T S (some (.ref r.1)) T r.2
  unfold fX11_readyPlans at h
  refine z_aload_n dX11_readyPlans_0 rfl ?_
  refine z_gR (zF.x zfX11_75) h0.1 dX11_readyPlans_1 ?_
  obtain ⟨r1, S3, hc2, h⟩ := zb_elim h
  refine z_callV (As := []) zcX5 zkX11_227 ziX5_prepare zqX5_prepare h0.2.2.2.2.2.2.2.2.2.2.2.2.1.1 (tX5_prepare T (zr T k0 13) S h0.2.2.2.2.2.2.2.2.2.2.2.2.1 (r1, S3) hc2) rfl rfl (Nat.le_of_ble_eq_true rfl) (by decide) ⟨Nat.le_refl _, Nat.le_refl _⟩ ⟨Nat.le_refl _, Nat.le_refl _⟩ dX11_readyPlans_4 ?_
  refine z_aload_n dX11_readyPlans_7 rfl ?_
  refine z_gR (zF.x zfX11_75) h0.1 dX11_readyPlans_8 ?_
  cases h
  exact z_aret rfl (Or.inl ⟨_, rfl⟩) dX11_readyPlans_11
set_option maxHeartbeats 4000000 in
set_option maxRecDepth 100000 in
theorem uX11_readyPlans (T : zT) (k0 : Nat) (S : zS) (h0 : iX11 T k0) (r : Nat × zS) (h : fX11_readyPlans T k0 S = some r) : iX5 T r.1 := by
  unfold fX11_readyPlans at h
  obtain ⟨r1, S1, hc, h⟩ := zb_elim h
  cases h
  exact h0.2.2.2.2.2.2.2.2.2.2.2.2.1
/-! X11_holds -/
noncomputable def fX11_holds_b75 (T : zT) (k0 : Nat) (x2 : Int32) (x3 : Int32) (x4 : Int32) (S : zS) : Option ((Int32 × Int32 × zS) ⊕ (Int32 × zS)) :=
  zlet (x4 + 1) fun u15 => some (.inl (x3, u15, S))
noncomputable def fX11_holds_l24 (T : zT) (k0 : Nat) (x2 : Int32) (x3 : Int32) (x4 : Int32) (S : zS) : Option ((Int32 × Int32 × zS) ⊕ (Int32 × zS)) :=
  if x2 ≤ x4 then some (.inr (x3, S)) else zb (fX3_work T (zr T k0 14) (S.1 (zr T k0 3) 1) (S.1 (zr T k0 3) 3) S) fun r6 S8 => zb (fX4_liveByRow T (zr T k0 12) (zr T k0 5) r6 S8) fun _ S11 => zb1 (fX4_isWell T (zr T k0 12) S11) fun r12 => if r12 = 0 then fX11_holds_b75 T k0 x2 x3 x4 S11 else zlet (x3 + 1) fun u16 => fX11_holds_b75 T k0 x2 u16 x4 S11
noncomputable def fX11_holds (T : zT) (k0 : Nat) (x1 : Int32) (x2 : Int32) (S : zS) : Option (Int32 × zS) :=
  zb1 (fX11_isDrawable T x1 x2 S) fun r1 => if r1 = 0 then some ((-1), S) else zlet (zJ S (zr T k0 14) 0 ((x1 : Int32).toInt64)) fun S4 => zb1 (lp (fun a => fX11_holds_l24 T k0 x2 a.1 a.2.1 a.2.2) (0, 0, S4)) fun e17 => some (e17.1, e17.2)
set_option maxHeartbeats 4000000 in
set_option maxRecDepth 100000 in
theorem tX11_holds_b75 (T : zT) (k0 : Nat) (x2 : Int32) (x3 : Int32) (x4 : Int32) (S : zS) (h0 : iX11 T k0) {g : zG} {v : Option Value} {S' : zS} (r : ((Int32 × Int32 × zS) ⊕ (Int32 × zS))) (h : fX11_holds_b75 T k0 x2 x3 x4 S = some r) (K1 : ∀ a : (Int32 × Int32 × zS), r = .inl a → zg g 6 mX11_holds T 24 [some (.ref k0), none, some (.int x2), some (.int a.1), some (.int a.2.1)] [] T a.2.2 v T S') (K2_0 : ∀ e : (Int32 × zS), r = .inr e → zg g 6 mX11_holds T 81 [none, none, none, some (.int e.1), none] [] T e.2 v T S') : zg g 6 mX11_holds T 75 [some (.ref k0), none, some (.int x2), some (.int x3), some (.int x4)] [] T S v T S' := by
  unfold fX11_holds_b75 at h
  obtain ⟨u15, eu15, h⟩ := zlet_elim h
  refine z_iinc (r := u15) dX11_holds_75 rfl (by rw [eu15, cI_1]) rfl (by decide) rfl ?_
  refine z_goto (tgt := 24) dX11_holds_78 (by decide) ?_
  cases h
  exact z_mask [true, false, true, true, true] rfl (K1 _ rfl)
set_option maxHeartbeats 4000000 in
set_option maxRecDepth 100000 in
theorem tX11_holds_l24b (T : zT) (k0 : Nat) (x2 : Int32) (x3 : Int32) (x4 : Int32) (S : zS) (h0 : iX11 T k0) {g : zG} {v : Option Value} {S' : zS} (r : (Int32 × Int32 × zS) ⊕ (Int32 × zS)) (h : fX11_holds_l24 T k0 x2 x3 x4 S = some r) (K1 : ∀ a : (Int32 × Int32 × zS), r = .inl a → zg g 6 mX11_holds T 24 [some (.ref k0), none, some (.int x2), some (.int a.1), some (.int a.2.1)] [] T a.2.2 v T S') (K2_0 : ∀ e : (Int32 × zS), r = .inr e → zg g 6 mX11_holds T 81 [none, none, none, some (.int e.1), none] [] T e.2 v T S') : zg g 6 mX11_holds T 24 [some (.ref k0), none, some (.int x2), some (.int x3), some (.int x4)] [] T S v T S' := by
  unfold fX11_holds_l24 at h
  refine z_iload dX11_holds_24 rfl ?_
  refine z_iload_n dX11_holds_26 rfl ?_
  refine z_icmp_ge (tgt := 81) dX11_holds_27 (by decide) (fun q5 => ?_) (fun q5 => ?_)
  · rw [if_pos q5] at h
    cases h
    exact z_mask [false, false, false, true, false] rfl (K2_0 _ rfl)
  · rw [if_neg q5] at h
    refine z_aload_n dX11_holds_30 rfl ?_
    refine z_gR (zF.x zfX11_68) h0.1 dX11_holds_31 ?_
    refine z_aload_n dX11_holds_34 rfl ?_
    refine z_gR (zF.x zfX11_33) h0.1 dX11_holds_35 ?_
    refine z_aload_n dX11_holds_38 rfl ?_
    refine z_gR (zF.x zfX11_82) h0.1 dX11_holds_39 ?_
    refine z_aload_n dX11_holds_42 rfl ?_
    refine z_gR (zF.x zfX11_23) h0.1 dX11_holds_43 ?_
    refine z_gI (zF.x zfX11_150) h0.2.2.2.1.1 dX11_holds_46 ?_
    refine z_aload_n dX11_holds_49 rfl ?_
    refine z_gR (zF.x zfX11_23) h0.1 dX11_holds_50 ?_
    refine z_gI (zF.x zfX11_156) h0.2.2.2.1.1 dX11_holds_53 ?_
    obtain ⟨r6, S8, hc7, h⟩ := zb_elim h
    refine z_callV (As := [.int (S.1 (zr T k0 3) 1), .int (S.1 (zr T k0 3) 3)]) zcX3 zkX11_312 ziX3_work zqX3_work h0.2.2.2.2.2.2.2.2.2.2.2.2.2.1.1 (tX3_work T (zr T k0 14) (S.1 (zr T k0 3) 1) (S.1 (zr T k0 3) 3) S h0.2.2.2.2.2.2.2.2.2.2.2.2.2.1 (r6, S8) hc7) rfl rfl (Nat.le_of_ble_eq_true rfl) (by decide) ⟨Nat.le_refl _, Nat.le_refl _⟩ ⟨Nat.le_refl _, Nat.le_refl _⟩ dX11_holds_56 ?_
    obtain ⟨r9, S11, hc10, h⟩ := zb_elim h
    refine z_callV (As := [.ref (zr T k0 5), .long r6]) zcX4 zkX11_201 ziX4_liveByRow zqX4_liveByRow h0.2.2.2.2.2.2.2.2.2.2.2.1.1 (tX4_liveByRow T (zr T k0 12) (zr T k0 5) r6 S8 h0.2.2.2.2.2.2.2.2.2.2.2.1 h0.2.2.2.2.2.1 (r9, S11) hc10) rfl rfl (Nat.le_of_ble_eq_true rfl) (by decide) ⟨Nat.le_refl _, Nat.le_refl _⟩ ⟨Nat.le_refl _, Nat.le_refl _⟩ dX11_holds_59 ?_
    refine z_aload_n dX11_holds_62 rfl ?_
    refine z_gR (zF.x zfX11_68) h0.1 dX11_holds_63 ?_
    obtain ⟨r12, hc13, h⟩ := zb1_elim h
    refine z_callV (As := []) zcX4 zkX11_316 ziX4_isWell zqX4_isWell h0.2.2.2.2.2.2.2.2.2.2.2.1.1 (tX4_isWell T (zr T k0 12) S11 h0.2.2.2.2.2.2.2.2.2.2.2.1 r12 hc13) rfl rfl (Nat.le_of_ble_eq_true rfl) (by decide) ⟨Nat.le_refl _, Nat.le_refl _⟩ ⟨Nat.le_refl _, Nat.le_refl _⟩ dX11_holds_66 ?_
    refine z_if_eq (tgt := 75) dX11_holds_69 (by decide) (fun q14 => ?_) (fun q14 => ?_)
    · rw [if_pos q14] at h
      exact z_mask [true, false, true, true, true] rfl (tX11_holds_b75 T k0 x2 x3 x4 S11 h0 r h K1 K2_0)
    · rw [if_neg q14] at h
      obtain ⟨u16, eu16, h⟩ := zlet_elim h
      refine z_iinc (r := u16) dX11_holds_72 rfl (by rw [eu16, cI_1]) rfl (by decide) rfl ?_
      exact z_mask [true, false, true, true, true] rfl (tX11_holds_b75 T k0 x2 u16 x4 S11 h0 r h K1 K2_0)
set_option maxHeartbeats 4000000 in
set_option maxRecDepth 100000 in
theorem tX11_holds_l24 (T : zT) (k0 : Nat) (x2 : Int32) (h0 : iX11 T k0) {g : zG} {v : Option Value} {S' : zS} : ∀ (n : Nat) (a : (Int32 × Int32 × zS)) (e : (Int32 × zS)), lpn (fun a => fX11_holds_l24 T k0 x2 a.1 a.2.1 a.2.2) n a = some e → (∀ e1 : (Int32 × zS), e = e1 → zg g 6 mX11_holds T 81 [none, none, none, some (.int e1.1), none] [] T e1.2 v T S') → zg g 6 mX11_holds T 24 [some (.ref k0), none, some (.int x2), some (.int a.1), some (.int a.2.1)] [] T a.2.2 v T S' := by
  intro n
  induction n with
  | zero =>
    intro a e h
    cases h
  | succ n ih =>
    intro a e h k0_
    rcases lpn_succ h with ⟨a1, ha_, hb_⟩ | ha_
    · exact tX11_holds_l24b T k0 x2 a.1 a.2.1 a.2.2 h0 _ ha_ (fun a2 q => by cases q; exact ih a1 e hb_ k0_) (fun e1 q => by cases q)
    · exact tX11_holds_l24b T k0 x2 a.1 a.2.1 a.2.2 h0 _ ha_ (fun a2 q => by cases q) (fun e1 q => by cases q; exact k0_ _ rfl)
set_option maxHeartbeats 4000000 in
set_option maxRecDepth 100000 in
theorem tX11_holds (T : zT) (k0 : Nat) (x1 : Int32) (x2 : Int32) (S : zS) (h0 : iX11 T k0) (r : Int32 × zS) (h : fX11_holds T k0 x1 x2 S = some r) : zGM 6 mX11_holds [.ref k0, .int x1, .int x2] T S (some (.int r.1)) T r.2 := by
  refine zGM_of zpnX11 rfl (Nat.le_of_ble_eq_true rfl) (fun g => ?_)
  show zg g 6 mX11_holds T 0 [some (.ref k0), some (.int x1), some (.int x2), none, none] [] T S (some (.int r.1)) T r.2
  unfold fX11_holds at h
  refine z_iload_n dX11_holds_0 rfl ?_
  refine z_iload_n dX11_holds_1 rfl ?_
  obtain ⟨r1, hc2, h⟩ := zb1_elim h
  refine z_callS (As := [.int x1, .int x2]) zkX11_304 zsX11_isDrawable (tX11_isDrawable T x1 x2 S  r1 hc2) rfl rfl (Nat.le_of_ble_eq_true rfl) (by decide) ⟨Nat.le_refl _, Nat.le_refl _⟩ ⟨Nat.le_refl _, Nat.le_refl _⟩ dX11_holds_2 ?_
  refine z_if_ne (tgt := 10) dX11_holds_5 (by decide) (fun q3 => ?_) (fun q3 => ?_)
  · rw [if_neg q3] at h
    refine z_aload_n dX11_holds_10 rfl ?_
    refine z_gR (zF.x zfX11_82) h0.1 dX11_holds_11 ?_
    refine z_iload_n dX11_holds_14 rfl ?_
    refine z_i2l dX11_holds_15 rfl ?_
    refine z_putJ zfX11_308 h0.2.2.2.2.2.2.2.2.2.2.2.2.2.1.1 dX11_holds_16 ?_
    obtain ⟨S4, eS4, h⟩ := zlet_elim h
    refine z_tS eS4 ?_
    refine z_iconst dX11_holds_19 cI_0 ?_
    refine z_istore_n dX11_holds_20 rfl (by decide) rfl ?_
    refine z_iconst dX11_holds_21 cI_0 ?_
    refine z_istore dX11_holds_22 rfl (by decide) rfl ?_
    obtain ⟨e17, hl18, h⟩ := zb1_elim h
    obtain ⟨nf19, hl18⟩ := lp_some hl18
    refine z_mask [true, false, true, true, true] rfl (tX11_holds_l24 T k0 x2 h0 nf19 (0, 0, S4) e17 hl18 (fun e_ q => ?_))
    · cases q
      refine z_iload_n dX11_holds_81 rfl ?_
      cases h
      exact z_iret rfl dX11_holds_82
  · rw [if_pos q3] at h
    refine z_iconst dX11_holds_8 cI_m1 ?_
    cases h
    exact z_iret rfl dX11_holds_9
/-! X11_surely -/
noncomputable def fX11_surely_b72 (T : zT) (k0 : Nat) (x1 : Int32) (x2 : Int32) (S : zS) : Option ((Int32 × Int32 × zS) ⊕ (Int32 × zS)) :=
  zlet (x2 + 1) fun u6 => some (.inl (x1, u6, S))
noncomputable def fX11_surely_b70 (T : zT) (k0 : Nat) (x2 : Int32) (s0 : Int32) (s1 : Int32) (S : zS) : Option ((Int32 × Int32 × zS) ⊕ (Int32 × zS)) :=
  zlet (s1 + s0) fun u13 => fX11_surely_b72 T k0 u13 x2 S
noncomputable def fX11_surely_l18 (T : zT) (k0 : Nat) (x1 : Int32) (x2 : Int32) (S : zS) : Option ((Int32 × Int32 × zS) ⊕ (Int32 × zS)) :=
  if (1 <<< ((S.1 (zr T k0 3) 1) &&& 31)) ≤ x2 then some (.inr (x1, S)) else zb1 (fX11_chanceOf T k0 x2 S) fun r3 => if r3 ≤ 0 then fX11_surely_b72 T k0 x1 x2 S else zb (fX4_liveByRow T (zr T k0 12) (zr T k0 5) ((x2 : Int32).toInt64) S) fun _ S9 => zb1 (fX4_isWell T (zr T k0 12) S9) fun r10 => if r10 = 0 then fX11_surely_b70 T k0 x2 0 x1 S9 else fX11_surely_b70 T k0 x2 r3 x1 S9
noncomputable def fX11_surely (T : zT) (k0 : Nat) (S : zS) : Option (Int32 × zS) :=
  if (S.1 (zr T k0 3) 1) ≤ 10 then zb1 (lp (fun a => fX11_surely_l18 T k0 a.1 a.2.1 a.2.2) (0, 0, S)) fun e14 => some (e14.1, e14.2) else some ((-1), S)
set_option maxHeartbeats 4000000 in
set_option maxRecDepth 100000 in
theorem tX11_surely_b72 (T : zT) (k0 : Nat) (x1 : Int32) (x2 : Int32) (S : zS) (h0 : iX11 T k0) {g : zG} {v : Option Value} {S' : zS} (r : ((Int32 × Int32 × zS) ⊕ (Int32 × zS))) (h : fX11_surely_b72 T k0 x1 x2 S = some r) (K1 : ∀ a : (Int32 × Int32 × zS), r = .inl a → zg g 6 mX11_surely T 18 [some (.ref k0), some (.int a.1), some (.int a.2.1), none] [] T a.2.2 v T S') (K2_0 : ∀ e : (Int32 × zS), r = .inr e → zg g 6 mX11_surely T 78 [none, some (.int e.1), none, none] [] T e.2 v T S') : zg g 6 mX11_surely T 72 [some (.ref k0), some (.int x1), some (.int x2), none] [] T S v T S' := by
  unfold fX11_surely_b72 at h
  obtain ⟨u6, eu6, h⟩ := zlet_elim h
  refine z_iinc (r := u6) dX11_surely_72 rfl (by rw [eu6, cI_1]) rfl (by decide) rfl ?_
  refine z_goto (tgt := 18) dX11_surely_75 (by decide) ?_
  cases h
  exact z_mask [true, true, true, false] rfl (K1 _ rfl)
set_option maxHeartbeats 4000000 in
set_option maxRecDepth 100000 in
theorem tX11_surely_b70 (T : zT) (k0 : Nat) (x2 : Int32) (s0 : Int32) (s1 : Int32) (S : zS) (h0 : iX11 T k0) {g : zG} {v : Option Value} {S' : zS} (r : ((Int32 × Int32 × zS) ⊕ (Int32 × zS))) (h : fX11_surely_b70 T k0 x2 s0 s1 S = some r) (K1 : ∀ a : (Int32 × Int32 × zS), r = .inl a → zg g 6 mX11_surely T 18 [some (.ref k0), some (.int a.1), some (.int a.2.1), none] [] T a.2.2 v T S') (K2_0 : ∀ e : (Int32 × zS), r = .inr e → zg g 6 mX11_surely T 78 [none, some (.int e.1), none, none] [] T e.2 v T S') : zg g 6 mX11_surely T 70 [some (.ref k0), none, some (.int x2), none] [.int s0, .int s1] T S v T S' := by
  unfold fX11_surely_b70 at h
  refine z_iadd dX11_surely_70 rfl ?_
  obtain ⟨u13, eu13, h⟩ := zlet_elim h
  refine z_ti eu13 ?_
  refine z_istore_n dX11_surely_71 rfl (by decide) rfl ?_
  exact z_mask [true, true, true, false] rfl (tX11_surely_b72 T k0 u13 x2 S h0 r h K1 K2_0)
set_option maxHeartbeats 4000000 in
set_option maxRecDepth 100000 in
theorem tX11_surely_l18b (T : zT) (k0 : Nat) (x1 : Int32) (x2 : Int32) (S : zS) (h0 : iX11 T k0) {g : zG} {v : Option Value} {S' : zS} (r : (Int32 × Int32 × zS) ⊕ (Int32 × zS)) (h : fX11_surely_l18 T k0 x1 x2 S = some r) (K1 : ∀ a : (Int32 × Int32 × zS), r = .inl a → zg g 6 mX11_surely T 18 [some (.ref k0), some (.int a.1), some (.int a.2.1), none] [] T a.2.2 v T S') (K2_0 : ∀ e : (Int32 × zS), r = .inr e → zg g 6 mX11_surely T 78 [none, some (.int e.1), none, none] [] T e.2 v T S') : zg g 6 mX11_surely T 18 [some (.ref k0), some (.int x1), some (.int x2), none] [] T S v T S' := by
  unfold fX11_surely_l18 at h
  refine z_iload_n dX11_surely_18 rfl ?_
  refine z_iconst dX11_surely_19 cI_1 ?_
  refine z_aload_n dX11_surely_20 rfl ?_
  refine z_gR (zF.x zfX11_23) h0.1 dX11_surely_21 ?_
  refine z_gI (zF.x zfX11_150) h0.2.2.2.1.1 dX11_surely_24 ?_
  refine z_ishl dX11_surely_27 rfl ?_
  refine z_icmp_ge (tgt := 78) dX11_surely_28 (by decide) (fun q2 => ?_) (fun q2 => ?_)
  · rw [if_pos q2] at h
    cases h
    exact z_mask [false, true, false, false] rfl (K2_0 _ rfl)
  · rw [if_neg q2] at h
    refine z_aload_n dX11_surely_31 rfl ?_
    refine z_iload_n dX11_surely_32 rfl ?_
    obtain ⟨r3, hc4, h⟩ := zb1_elim h
    refine z_callV (As := [.int x2]) zcX11 zkX11_320 ziX11_chanceOf zqX11_chanceOf h0.1 (tX11_chanceOf T k0 x2 S h0 r3 hc4) rfl rfl (Nat.le_of_ble_eq_true rfl) (by decide) ⟨Nat.le_refl _, Nat.le_refl _⟩ ⟨Nat.le_refl _, Nat.le_refl _⟩ dX11_surely_33 ?_
    refine z_istore_n dX11_surely_36 rfl (by decide) rfl ?_
    refine z_iload_n dX11_surely_37 rfl ?_
    refine z_if_le (tgt := 72) dX11_surely_38 (by decide) (fun q5 => ?_) (fun q5 => ?_)
    · rw [if_pos q5] at h
      exact z_mask [true, true, true, false] rfl (tX11_surely_b72 T k0 x1 x2 S h0 r h K1 K2_0)
    · rw [if_neg q5] at h
      refine z_aload_n dX11_surely_41 rfl ?_
      refine z_gR (zF.x zfX11_68) h0.1 dX11_surely_42 ?_
      refine z_aload_n dX11_surely_45 rfl ?_
      refine z_gR (zF.x zfX11_33) h0.1 dX11_surely_46 ?_
      refine z_iload_n dX11_surely_49 rfl ?_
      refine z_i2l dX11_surely_50 rfl ?_
      obtain ⟨r7, S9, hc8, h⟩ := zb_elim h
      refine z_callV (As := [.ref (zr T k0 5), .long ((x2 : Int32).toInt64)]) zcX4 zkX11_201 ziX4_liveByRow zqX4_liveByRow h0.2.2.2.2.2.2.2.2.2.2.2.1.1 (tX4_liveByRow T (zr T k0 12) (zr T k0 5) ((x2 : Int32).toInt64) S h0.2.2.2.2.2.2.2.2.2.2.2.1 h0.2.2.2.2.2.1 (r7, S9) hc8) rfl rfl (Nat.le_of_ble_eq_true rfl) (by decide) ⟨Nat.le_refl _, Nat.le_refl _⟩ ⟨Nat.le_refl _, Nat.le_refl _⟩ dX11_surely_51 ?_
      refine z_iload_n dX11_surely_54 rfl ?_
      refine z_aload_n dX11_surely_55 rfl ?_
      refine z_gR (zF.x zfX11_68) h0.1 dX11_surely_56 ?_
      obtain ⟨r10, hc11, h⟩ := zb1_elim h
      refine z_callV (As := []) zcX4 zkX11_316 ziX4_isWell zqX4_isWell h0.2.2.2.2.2.2.2.2.2.2.2.1.1 (tX4_isWell T (zr T k0 12) S9 h0.2.2.2.2.2.2.2.2.2.2.2.1 r10 hc11) rfl rfl (Nat.le_of_ble_eq_true rfl) (by decide) ⟨Nat.le_refl _, Nat.le_refl _⟩ ⟨Nat.le_refl _, Nat.le_refl _⟩ dX11_surely_59 ?_
      refine z_if_eq (tgt := 69) dX11_surely_62 (by decide) (fun q12 => ?_) (fun q12 => ?_)
      · rw [if_pos q12] at h
        refine z_iconst dX11_surely_69 cI_0 ?_
        exact z_mask [true, false, true, false] rfl (tX11_surely_b70 T k0 x2 0 x1 S9 h0 r h K1 K2_0)
      · rw [if_neg q12] at h
        refine z_iload_n dX11_surely_65 rfl ?_
        refine z_goto (tgt := 70) dX11_surely_66 (by decide) ?_
        exact z_mask [true, false, true, false] rfl (tX11_surely_b70 T k0 x2 r3 x1 S9 h0 r h K1 K2_0)
set_option maxHeartbeats 4000000 in
set_option maxRecDepth 100000 in
theorem tX11_surely_l18 (T : zT) (k0 : Nat) (h0 : iX11 T k0) {g : zG} {v : Option Value} {S' : zS} : ∀ (n : Nat) (a : (Int32 × Int32 × zS)) (e : (Int32 × zS)), lpn (fun a => fX11_surely_l18 T k0 a.1 a.2.1 a.2.2) n a = some e → (∀ e1 : (Int32 × zS), e = e1 → zg g 6 mX11_surely T 78 [none, some (.int e1.1), none, none] [] T e1.2 v T S') → zg g 6 mX11_surely T 18 [some (.ref k0), some (.int a.1), some (.int a.2.1), none] [] T a.2.2 v T S' := by
  intro n
  induction n with
  | zero =>
    intro a e h
    cases h
  | succ n ih =>
    intro a e h k0_
    rcases lpn_succ h with ⟨a1, ha_, hb_⟩ | ha_
    · exact tX11_surely_l18b T k0 a.1 a.2.1 a.2.2 h0 _ ha_ (fun a2 q => by cases q; exact ih a1 e hb_ k0_) (fun e1 q => by cases q)
    · exact tX11_surely_l18b T k0 a.1 a.2.1 a.2.2 h0 _ ha_ (fun a2 q => by cases q) (fun e1 q => by cases q; exact k0_ _ rfl)
set_option maxHeartbeats 4000000 in
set_option maxRecDepth 100000 in
theorem tX11_surely (T : zT) (k0 : Nat) (S : zS) (h0 : iX11 T k0) (r : Int32 × zS) (h : fX11_surely T k0 S = some r) : zGM 6 mX11_surely [.ref k0] T S (some (.int r.1)) T r.2 := by
  refine zGM_of zpnX11 rfl (Nat.le_of_ble_eq_true rfl) (fun g => ?_)
  show zg g 6 mX11_surely T 0 [some (.ref k0), none, none, none] [] T S (some (.int r.1)) T r.2
  unfold fX11_surely at h
  refine z_aload_n dX11_surely_0 rfl ?_
  refine z_gR (zF.x zfX11_23) h0.1 dX11_surely_1 ?_
  refine z_gI (zF.x zfX11_150) h0.2.2.2.1.1 dX11_surely_4 ?_
  refine z_bipush dX11_surely_7 cB_10 ?_
  refine z_icmp_le (tgt := 14) dX11_surely_9 (by decide) (fun q1 => ?_) (fun q1 => ?_)
  · rw [if_pos q1] at h
    refine z_iconst dX11_surely_14 cI_0 ?_
    refine z_istore_n dX11_surely_15 rfl (by decide) rfl ?_
    refine z_iconst dX11_surely_16 cI_0 ?_
    refine z_istore_n dX11_surely_17 rfl (by decide) rfl ?_
    obtain ⟨e14, hl15, h⟩ := zb1_elim h
    obtain ⟨nf16, hl15⟩ := lp_some hl15
    refine z_mask [true, true, true, false] rfl (tX11_surely_l18 T k0 h0 nf16 (0, 0, S) e14 hl15 (fun e_ q => ?_))
    · cases q
      refine z_iload_n dX11_surely_78 rfl ?_
      cases h
      exact z_iret rfl dX11_surely_79
  · rw [if_neg q1] at h
    refine z_iconst dX11_surely_12 cI_m1 ?_
    cases h
    exact z_iret rfl dX11_surely_13
/-! X11_soon -/
noncomputable def fX11_soon (T : zT) (k0 : Nat) (S : zS) : Option (Int32 × zS) :=
  zb (fX11_readyPlans T k0 S) fun r1 S3 => zb1 (fX5_firstAllHome T r1 S3) fun r4 => some (r4, S3)
set_option maxHeartbeats 4000000 in
set_option maxRecDepth 100000 in
theorem tX11_soon (T : zT) (k0 : Nat) (S : zS) (h0 : iX11 T k0) (r : Int32 × zS) (h : fX11_soon T k0 S = some r) : zGM 7 mX11_soon [.ref k0] T S (some (.int r.1)) T r.2 := by
  refine zGM_of zpnX11 rfl (Nat.le_of_ble_eq_true rfl) (fun g => ?_)
  show zg g 7 mX11_soon T 0 [some (.ref k0)] [] T S (some (.int r.1)) T r.2
  unfold fX11_soon at h
  refine z_aload_n dX11_soon_0 rfl ?_
  obtain ⟨r1, S3, hc2, h⟩ := zb_elim h
  refine z_callV (As := []) zcX11 zkX11_230 ziX11_readyPlans zqX11_readyPlans h0.1 (tX11_readyPlans T k0 S h0 (r1, S3) hc2) rfl rfl (Nat.le_of_ble_eq_true rfl) (by decide) ⟨Nat.le_refl _, Nat.le_refl _⟩ ⟨Nat.le_refl _, Nat.le_refl _⟩ dX11_soon_1 ?_
  obtain ⟨r4, hc5, h⟩ := zb1_elim h
  refine z_callV (As := []) zcX5 zkX11_234 ziX5_firstAllHome zqX5_firstAllHome ((uX11_readyPlans T k0 S h0 (r1, S3) hc2)).1 (tX5_firstAllHome T r1 S3 (uX11_readyPlans T k0 S h0 (r1, S3) hc2) r4 hc5) rfl rfl (Nat.le_of_ble_eq_true rfl) (by decide) ⟨Nat.le_refl _, Nat.le_refl _⟩ ⟨Nat.le_refl _, Nat.le_refl _⟩ dX11_soon_4 ?_
  cases h
  exact z_iret rfl dX11_soon_7
/-! X11_best -/
noncomputable def fX11_best_b44 (T : zT)  (S : zS) : Option (Int32 × zS) :=
  some ((-3), S)
noncomputable def fX11_best (T : zT) (k0 : Nat) (x1 : Int32) (S : zS) : Option (Int32 × zS) :=
  zb (fX11_readyPlans T k0 S) fun r1 S3 => if x1 = 3 then some ((S3.1 r1 5), S3) else if x1 = 4 then some (((S3.1 (zr T k0 3) 0) &&& ((S3.1 r1 6) ^^^ (-1))), S3) else if x1 < 0 then fX11_best_b44 T  S3 else if x1 ≤ 5 then if 0 ≤ (S3.1 r1 3) then if x1 = 0 then some ((S3.1 r1 3), S3) else if x1 = 1 then some ((S3.1 r1 4), S3) else if x1 = 2 then zb1 (fX5_richest T r1 S3) fun r12 => some (r12, S3) else some (((S3.1 (zr T k0 3) 0) &&& ((S3.1 r1 4) ^^^ (-1))), S3) else some ((-2), S3) else fX11_best_b44 T  S3
set_option maxHeartbeats 4000000 in
set_option maxRecDepth 100000 in
theorem tX11_best_b44 (T : zT)  (S : zS)  {g : zG} (r : (Int32 × zS)) (h : fX11_best_b44 T  S = some r)  : zg g 7 mX11_best T 44 [none, none, none] [] T S (some (.int r.1)) T r.2 := by
  unfold fX11_best_b44 at h
  refine z_bipush dX11_best_44 cB_m3 ?_
  cases h
  exact z_iret rfl dX11_best_46
set_option maxHeartbeats 4000000 in
set_option maxRecDepth 100000 in
theorem tX11_best (T : zT) (k0 : Nat) (x1 : Int32) (S : zS) (h0 : iX11 T k0) (r : Int32 × zS) (h : fX11_best T k0 x1 S = some r) : zGM 7 mX11_best [.ref k0, .int x1] T S (some (.int r.1)) T r.2 := by
  refine zGM_of zpnX11 rfl (Nat.le_of_ble_eq_true rfl) (fun g => ?_)
  show zg g 7 mX11_best T 0 [some (.ref k0), some (.int x1), none] [] T S (some (.int r.1)) T r.2
  unfold fX11_best at h
  refine z_aload_n dX11_best_0 rfl ?_
  obtain ⟨r1, S3, hc2, h⟩ := zb_elim h
  refine z_callV (As := []) zcX11 zkX11_230 ziX11_readyPlans zqX11_readyPlans h0.1 (tX11_readyPlans T k0 S h0 (r1, S3) hc2) rfl rfl (Nat.le_of_ble_eq_true rfl) (by decide) ⟨Nat.le_refl _, Nat.le_refl _⟩ ⟨Nat.le_refl _, Nat.le_refl _⟩ dX11_best_1 ?_
  refine z_astore_n dX11_best_4 rfl (by decide) rfl ?_
  refine z_iload_n dX11_best_5 rfl ?_
  refine z_iconst dX11_best_6 cI_3 ?_
  refine z_icmp_ne (tgt := 15) dX11_best_7 (by decide) (fun q4 => ?_) (fun q4 => ?_)
  · rw [if_neg q4] at h
    refine z_iload_n dX11_best_15 rfl ?_
    refine z_iconst dX11_best_16 cI_4 ?_
    refine z_icmp_ne (tgt := 35) dX11_best_17 (by decide) (fun q5 => ?_) (fun q5 => ?_)
    · rw [if_neg q5] at h
      refine z_iload_n dX11_best_35 rfl ?_
      refine z_if_lt (tgt := 44) dX11_best_36 (by decide) (fun q6 => ?_) (fun q6 => ?_)
      · rw [if_pos q6] at h
        exact z_mask [false, false, false] rfl (tX11_best_b44 T  S3  r h)
      · rw [if_neg q6] at h
        refine z_iload_n dX11_best_39 rfl ?_
        refine z_iconst dX11_best_40 cI_5 ?_
        refine z_icmp_le (tgt := 47) dX11_best_41 (by decide) (fun q7 => ?_) (fun q7 => ?_)
        · rw [if_pos q7] at h
          refine z_aload_n dX11_best_47 rfl ?_
          refine z_gI (zF.x zfX11_244) ((uX11_readyPlans T k0 S h0 (r1, S3) hc2)).1 dX11_best_48 ?_
          refine z_if_ge (tgt := 57) dX11_best_51 (by decide) (fun q8 => ?_) (fun q8 => ?_)
          · rw [if_pos q8] at h
            refine z_iload_n dX11_best_57 rfl ?_
            by_cases q9 : x1 = 0
            · rw [if_pos q9] at h
              refine z_tableIn (off := 26) (tgt := 84) dX11_best_58 (by show ¬ x1.toInt < 0; rw [q9]; decide) (by show ¬ 2 < x1.toInt; rw [q9]; decide) (by rw [q9]; rfl) (by decide) ?_
              refine z_aload_n dX11_best_84 rfl ?_
              refine z_gI (zF.x zfX11_244) ((uX11_readyPlans T k0 S h0 (r1, S3) hc2)).1 dX11_best_85 ?_
              cases h
              exact z_iret rfl dX11_best_88
            rw [if_neg q9] at h
            by_cases q10 : x1 = 1
            · rw [if_pos q10] at h
              refine z_tableIn (off := 31) (tgt := 89) dX11_best_58 (by show ¬ x1.toInt < 0; rw [q10]; decide) (by show ¬ 2 < x1.toInt; rw [q10]; decide) (by rw [q10]; rfl) (by decide) ?_
              refine z_aload_n dX11_best_89 rfl ?_
              refine z_gI (zF.x zfX11_247) ((uX11_readyPlans T k0 S h0 (r1, S3) hc2)).1 dX11_best_90 ?_
              cases h
              exact z_iret rfl dX11_best_93
            rw [if_neg q10] at h
            by_cases q11 : x1 = 2
            · rw [if_pos q11] at h
              refine z_tableIn (off := 36) (tgt := 94) dX11_best_58 (by show ¬ x1.toInt < 0; rw [q11]; decide) (by show ¬ 2 < x1.toInt; rw [q11]; decide) (by rw [q11]; rfl) (by decide) ?_
              refine z_aload_n dX11_best_94 rfl ?_
              obtain ⟨r12, hc13, h⟩ := zb1_elim h
              refine z_callV (As := []) zcX5 zkX11_250 ziX5_richest zqX5_richest ((uX11_readyPlans T k0 S h0 (r1, S3) hc2)).1 (tX5_richest T r1 S3 (uX11_readyPlans T k0 S h0 (r1, S3) hc2) r12 hc13) rfl rfl (Nat.le_of_ble_eq_true rfl) (by decide) ⟨Nat.le_refl _, Nat.le_refl _⟩ ⟨Nat.le_refl _, Nat.le_refl _⟩ dX11_best_95 ?_
              cases h
              exact z_iret rfl dX11_best_98
            rw [if_neg q11] at h
            have q9i : ¬ x1.toInt = 0 := zneI q9 (by decide)
            have q10i : ¬ x1.toInt = 1 := zneI q10 (by decide)
            have q11i : ¬ x1.toInt = 2 := zneI q11 (by decide)
            refine z_tableOut (tgt := 99) dX11_best_58 (by show x1.toInt < 0 ∨ 2 < x1.toInt; omega) (by decide) ?_
            refine z_aload_n dX11_best_99 rfl ?_
            refine z_gR (zF.x zfX11_23) h0.1 dX11_best_100 ?_
            refine z_gI (zF.x zfX11_112) h0.2.2.2.1.1 dX11_best_103 ?_
            refine z_aload_n dX11_best_106 rfl ?_
            refine z_gI (zF.x zfX11_247) ((uX11_readyPlans T k0 S h0 (r1, S3) hc2)).1 dX11_best_107 ?_
            refine z_iconst dX11_best_110 cI_m1 ?_
            refine z_ixor dX11_best_111 rfl ?_
            refine z_iand dX11_best_112 rfl ?_
            cases h
            exact z_iret rfl dX11_best_113
          · rw [if_neg q8] at h
            refine z_bipush dX11_best_54 cB_m2 ?_
            cases h
            exact z_iret rfl dX11_best_56
        · rw [if_neg q7] at h
          exact z_mask [false, false, false] rfl (tX11_best_b44 T  S3  r h)
    · rw [if_pos q5] at h
      refine z_aload_n dX11_best_20 rfl ?_
      refine z_gR (zF.x zfX11_23) h0.1 dX11_best_21 ?_
      refine z_gI (zF.x zfX11_112) h0.2.2.2.1.1 dX11_best_24 ?_
      refine z_aload_n dX11_best_27 rfl ?_
      refine z_gI (zF.x zfX11_241) ((uX11_readyPlans T k0 S h0 (r1, S3) hc2)).1 dX11_best_28 ?_
      refine z_iconst dX11_best_31 cI_m1 ?_
      refine z_ixor dX11_best_32 rfl ?_
      refine z_iand dX11_best_33 rfl ?_
      cases h
      exact z_iret rfl dX11_best_34
  · rw [if_pos q4] at h
    refine z_aload_n dX11_best_10 rfl ?_
    refine z_gI (zF.x zfX11_238) ((uX11_readyPlans T k0 S h0 (r1, S3) hc2)).1 dX11_best_11 ?_
    cases h
    exact z_iret rfl dX11_best_14
/-! X11_fetched -/
noncomputable def fX11_fetched_b37 (T : zT) (s0 : Int32) (S : zS) : Option (Int32 × zS) :=
  some (s0, S)
noncomputable def fX11_fetched (T : zT) (k0 : Nat) (x1 : Int32) (S : zS) : Option (Int32 × zS) :=
  zb1 (fX0_has T (zr T k0 3) x1 S) fun r1 => if r1 = 0 then some ((-3), S) else zb (fX11_readyPlans T k0 S) fun r4 S6 => if 0 ≤ (S6.1 r4 3) then zgd (zin x1 8) (fX11_fetched_b37 T (S6.1 (zr T r4 7) (x1 : Int32).toNatClampNeg) S6) else fX11_fetched_b37 T (-2) S6
set_option maxHeartbeats 4000000 in
set_option maxRecDepth 100000 in
theorem tX11_fetched_b37 (T : zT) (s0 : Int32) (S : zS)  {g : zG} (r : (Int32 × zS)) (h : fX11_fetched_b37 T s0 S = some r)  : zg g 7 mX11_fetched T 37 [none, none, none] [.int s0] T S (some (.int r.1)) T r.2 := by
  unfold fX11_fetched_b37 at h
  cases h
  exact z_iret rfl dX11_fetched_37
set_option maxHeartbeats 4000000 in
set_option maxRecDepth 100000 in
theorem tX11_fetched (T : zT) (k0 : Nat) (x1 : Int32) (S : zS) (h0 : iX11 T k0) (r : Int32 × zS) (h : fX11_fetched T k0 x1 S = some r) : zGM 7 mX11_fetched [.ref k0, .int x1] T S (some (.int r.1)) T r.2 := by
  refine zGM_of zpnX11 rfl (Nat.le_of_ble_eq_true rfl) (fun g => ?_)
  show zg g 7 mX11_fetched T 0 [some (.ref k0), some (.int x1), none] [] T S (some (.int r.1)) T r.2
  unfold fX11_fetched at h
  refine z_aload_n dX11_fetched_0 rfl ?_
  refine z_gR (zF.x zfX11_23) h0.1 dX11_fetched_1 ?_
  refine z_iload_n dX11_fetched_4 rfl ?_
  obtain ⟨r1, hc2, h⟩ := zb1_elim h
  refine z_callV (As := [.int x1]) zcX0 zkX11_128 ziX0_has zqX0_has h0.2.2.2.1.1 (tX0_has T (zr T k0 3) x1 S h0.2.2.2.1 r1 hc2) rfl rfl (Nat.le_of_ble_eq_true rfl) (by decide) ⟨Nat.le_refl _, Nat.le_refl _⟩ ⟨Nat.le_refl _, Nat.le_refl _⟩ dX11_fetched_5 ?_
  refine z_if_ne (tgt := 14) dX11_fetched_8 (by decide) (fun q3 => ?_) (fun q3 => ?_)
  · rw [if_neg q3] at h
    refine z_aload_n dX11_fetched_14 rfl ?_
    obtain ⟨r4, S6, hc5, h⟩ := zb_elim h
    refine z_callV (As := []) zcX11 zkX11_230 ziX11_readyPlans zqX11_readyPlans h0.1 (tX11_readyPlans T k0 S h0 (r4, S6) hc5) rfl rfl (Nat.le_of_ble_eq_true rfl) (by decide) ⟨Nat.le_refl _, Nat.le_refl _⟩ ⟨Nat.le_refl _, Nat.le_refl _⟩ dX11_fetched_15 ?_
    refine z_astore_n dX11_fetched_18 rfl (by decide) rfl ?_
    refine z_aload_n dX11_fetched_19 rfl ?_
    refine z_gI (zF.x zfX11_244) ((uX11_readyPlans T k0 S h0 (r4, S6) hc5)).1 dX11_fetched_20 ?_
    refine z_if_ge (tgt := 31) dX11_fetched_23 (by decide) (fun q7 => ?_) (fun q7 => ?_)
    · rw [if_pos q7] at h
      refine z_aload_n dX11_fetched_31 rfl ?_
      refine z_gA zfX11_253 ((uX11_readyPlans T k0 S h0 (r4, S6) hc5)).1 dX11_fetched_32 ?_
      refine z_iload_n dX11_fetched_35 rfl ?_
      obtain ⟨q8, h⟩ := zgd_elim h
      refine z_iald ((uX11_readyPlans T k0 S h0 (r4, S6) hc5)).2.2.2.1 (zin_ok q8) dX11_fetched_36 ?_
      exact z_mask [false, false, false] rfl (tX11_fetched_b37 T (S6.1 (zr T r4 7) (x1 : Int32).toNatClampNeg) S6  r h)
    · rw [if_neg q7] at h
      refine z_bipush dX11_fetched_26 cB_m2 ?_
      refine z_goto (tgt := 37) dX11_fetched_28 (by decide) ?_
      exact z_mask [false, false, false] rfl (tX11_fetched_b37 T (-2) S6  r h)
  · rw [if_pos q3] at h
    refine z_bipush dX11_fetched_11 cB_m3 ?_
    cases h
    exact z_iret rfl dX11_fetched_13
/-! X11_hangs -/
noncomputable def fX11_hangs_b35 (T : zT) (s0 : Int32) (S : zS) : Option (Int32 × zS) :=
  some (s0, S)
noncomputable def fX11_hangs (T : zT) (k0 : Nat) (x1 : Int32) (S : zS) : Option (Int32 × zS) :=
  zb1 (fX0_has T (zr T k0 3) x1 S) fun r1 => if r1 = 0 then some ((-1), S) else zb (fX11_readyPlans T k0 S) fun r4 S6 => if 0 ≤ (S6.1 r4 3) then zb (fX5_hanging T r4 x1 S6) fun r8 S10 => fX11_hangs_b35 T r8 S10 else fX11_hangs_b35 T (-2) S6
set_option maxHeartbeats 4000000 in
set_option maxRecDepth 100000 in
theorem tX11_hangs_b35 (T : zT) (s0 : Int32) (S : zS)  {g : zG} (r : (Int32 × zS)) (h : fX11_hangs_b35 T s0 S = some r)  : zg g 7 mX11_hangs T 35 [none, none, none] [.int s0] T S (some (.int r.1)) T r.2 := by
  unfold fX11_hangs_b35 at h
  cases h
  exact z_iret rfl dX11_hangs_35
set_option maxHeartbeats 4000000 in
set_option maxRecDepth 100000 in
theorem tX11_hangs (T : zT) (k0 : Nat) (x1 : Int32) (S : zS) (h0 : iX11 T k0) (r : Int32 × zS) (h : fX11_hangs T k0 x1 S = some r) : zGM 7 mX11_hangs [.ref k0, .int x1] T S (some (.int r.1)) T r.2 := by
  refine zGM_of zpnX11 rfl (Nat.le_of_ble_eq_true rfl) (fun g => ?_)
  show zg g 7 mX11_hangs T 0 [some (.ref k0), some (.int x1), none] [] T S (some (.int r.1)) T r.2
  unfold fX11_hangs at h
  refine z_aload_n dX11_hangs_0 rfl ?_
  refine z_gR (zF.x zfX11_23) h0.1 dX11_hangs_1 ?_
  refine z_iload_n dX11_hangs_4 rfl ?_
  obtain ⟨r1, hc2, h⟩ := zb1_elim h
  refine z_callV (As := [.int x1]) zcX0 zkX11_128 ziX0_has zqX0_has h0.2.2.2.1.1 (tX0_has T (zr T k0 3) x1 S h0.2.2.2.1 r1 hc2) rfl rfl (Nat.le_of_ble_eq_true rfl) (by decide) ⟨Nat.le_refl _, Nat.le_refl _⟩ ⟨Nat.le_refl _, Nat.le_refl _⟩ dX11_hangs_5 ?_
  refine z_if_ne (tgt := 13) dX11_hangs_8 (by decide) (fun q3 => ?_) (fun q3 => ?_)
  · rw [if_neg q3] at h
    refine z_aload_n dX11_hangs_13 rfl ?_
    obtain ⟨r4, S6, hc5, h⟩ := zb_elim h
    refine z_callV (As := []) zcX11 zkX11_230 ziX11_readyPlans zqX11_readyPlans h0.1 (tX11_readyPlans T k0 S h0 (r4, S6) hc5) rfl rfl (Nat.le_of_ble_eq_true rfl) (by decide) ⟨Nat.le_refl _, Nat.le_refl _⟩ ⟨Nat.le_refl _, Nat.le_refl _⟩ dX11_hangs_14 ?_
    refine z_astore_n dX11_hangs_17 rfl (by decide) rfl ?_
    refine z_aload_n dX11_hangs_18 rfl ?_
    refine z_gI (zF.x zfX11_244) ((uX11_readyPlans T k0 S h0 (r4, S6) hc5)).1 dX11_hangs_19 ?_
    refine z_if_ge (tgt := 30) dX11_hangs_22 (by decide) (fun q7 => ?_) (fun q7 => ?_)
    · rw [if_pos q7] at h
      refine z_aload_n dX11_hangs_30 rfl ?_
      refine z_iload_n dX11_hangs_31 rfl ?_
      obtain ⟨r8, S10, hc9, h⟩ := zb_elim h
      refine z_callV (As := [.int x1]) zcX5 zkX11_256 ziX5_hanging zqX5_hanging ((uX11_readyPlans T k0 S h0 (r4, S6) hc5)).1 (tX5_hanging T r4 x1 S6 (uX11_readyPlans T k0 S h0 (r4, S6) hc5) (r8, S10) hc9) rfl rfl (Nat.le_of_ble_eq_true rfl) (by decide) ⟨Nat.le_refl _, Nat.le_refl _⟩ ⟨Nat.le_refl _, Nat.le_refl _⟩ dX11_hangs_32 ?_
      exact z_mask [false, false, false] rfl (tX11_hangs_b35 T r8 S10  r h)
    · rw [if_neg q7] at h
      refine z_bipush dX11_hangs_25 cB_m2 ?_
      refine z_goto (tgt := 35) dX11_hangs_27 (by decide) ?_
      exact z_mask [false, false, false] rfl (tX11_hangs_b35 T (-2) S6  r h)
  · rw [if_pos q3] at h
    refine z_iconst dX11_hangs_11 cI_m1 ?_
    cases h
    exact z_iret rfl dX11_hangs_12
/-! X11_key -/
noncomputable def fX11_key_b31 (T : zT) (s0 : Int32) (S : zS) : Option (Int32 × zS) :=
  some (s0, S)
noncomputable def fX11_key_b22 (T : zT)  (S : zS) : Option (Int32 × zS) :=
  fX11_key_b31 T (-2) S
noncomputable def fX11_key (T : zT) (k0 : Nat) (S : zS) : Option (Int32 × zS) :=
  zb (fX11_readyPlans T k0 S) fun r1 S3 => if (S3.1 r1 3) < 0 then fX11_key_b22 T  S3 else if (S3.1 (zr T k0 3) 0) = 0 then fX11_key_b22 T  S3 else zb (fX5_keyThing T r1 S3) fun r6 S8 => fX11_key_b31 T r6 S8
set_option maxHeartbeats 4000000 in
set_option maxRecDepth 100000 in
theorem tX11_key_b31 (T : zT) (s0 : Int32) (S : zS)  {g : zG} (r : (Int32 × zS)) (h : fX11_key_b31 T s0 S = some r)  : zg g 7 mX11_key T 31 [none, none] [.int s0] T S (some (.int r.1)) T r.2 := by
  unfold fX11_key_b31 at h
  cases h
  exact z_iret rfl dX11_key_31
set_option maxHeartbeats 4000000 in
set_option maxRecDepth 100000 in
theorem tX11_key_b22 (T : zT)  (S : zS)  {g : zG} (r : (Int32 × zS)) (h : fX11_key_b22 T  S = some r)  : zg g 7 mX11_key T 22 [none, none] [] T S (some (.int r.1)) T r.2 := by
  unfold fX11_key_b22 at h
  refine z_bipush dX11_key_22 cB_m2 ?_
  refine z_goto (tgt := 31) dX11_key_24 (by decide) ?_
  exact z_mask [false, false] rfl (tX11_key_b31 T (-2) S  r h)
set_option maxHeartbeats 4000000 in
set_option maxRecDepth 100000 in
theorem tX11_key (T : zT) (k0 : Nat) (S : zS) (h0 : iX11 T k0) (r : Int32 × zS) (h : fX11_key T k0 S = some r) : zGM 7 mX11_key [.ref k0] T S (some (.int r.1)) T r.2 := by
  refine zGM_of zpnX11 rfl (Nat.le_of_ble_eq_true rfl) (fun g => ?_)
  show zg g 7 mX11_key T 0 [some (.ref k0), none] [] T S (some (.int r.1)) T r.2
  unfold fX11_key at h
  refine z_aload_n dX11_key_0 rfl ?_
  obtain ⟨r1, S3, hc2, h⟩ := zb_elim h
  refine z_callV (As := []) zcX11 zkX11_230 ziX11_readyPlans zqX11_readyPlans h0.1 (tX11_readyPlans T k0 S h0 (r1, S3) hc2) rfl rfl (Nat.le_of_ble_eq_true rfl) (by decide) ⟨Nat.le_refl _, Nat.le_refl _⟩ ⟨Nat.le_refl _, Nat.le_refl _⟩ dX11_key_1 ?_
  refine z_astore_n dX11_key_4 rfl (by decide) rfl ?_
  refine z_aload_n dX11_key_5 rfl ?_
  refine z_gI (zF.x zfX11_244) ((uX11_readyPlans T k0 S h0 (r1, S3) hc2)).1 dX11_key_6 ?_
  refine z_if_lt (tgt := 22) dX11_key_9 (by decide) (fun q4 => ?_) (fun q4 => ?_)
  · rw [if_pos q4] at h
    exact z_mask [false, false] rfl (tX11_key_b22 T  S3  r h)
  · rw [if_neg q4] at h
    refine z_aload_n dX11_key_12 rfl ?_
    refine z_gR (zF.x zfX11_23) h0.1 dX11_key_13 ?_
    refine z_gI (zF.x zfX11_112) h0.2.2.2.1.1 dX11_key_16 ?_
    refine z_if_ne (tgt := 27) dX11_key_19 (by decide) (fun q5 => ?_) (fun q5 => ?_)
    · rw [if_neg q5] at h
      refine z_aload_n dX11_key_27 rfl ?_
      obtain ⟨r6, S8, hc7, h⟩ := zb_elim h
      refine z_callV (As := []) zcX5 zkX11_259 ziX5_keyThing zqX5_keyThing ((uX11_readyPlans T k0 S h0 (r1, S3) hc2)).1 (tX5_keyThing T r1 S3 (uX11_readyPlans T k0 S h0 (r1, S3) hc2) (r6, S8) hc7) rfl rfl (Nat.le_of_ble_eq_true rfl) (by decide) ⟨Nat.le_refl _, Nat.le_refl _⟩ ⟨Nat.le_refl _, Nat.le_refl _⟩ dX11_key_28 ?_
      exact z_mask [false, false] rfl (tX11_key_b31 T r6 S8  r h)
    · rw [if_pos q5] at h
      exact z_mask [false, false] rfl (tX11_key_b22 T  S3  r h)
/-! X11_wise -/
noncomputable def fX11_wise_b49 (T : zT) (s0 : Int32) (S : zS) : Option (Int32 × zS) :=
  some (s0, S)
noncomputable def fX11_wise_b37 (T : zT)  (S : zS) : Option (Int32 × zS) :=
  fX11_wise_b49 T (-1000000) S
noncomputable def fX11_wise (T : zT) (k0 : Nat) (x1 : Int32) (S : zS) : Option (Int32 × zS) :=
  zb1 (fX0_has T (zr T k0 3) x1 S) fun r1 => if r1 = 0 then some ((-2000000), S) else zb (fX11_readyPlans T k0 S) fun r4 S6 => zb (fX5_bestNeverPut T r4 x1 S6) fun r7 S9 => if (S9.1 r4 3) < 0 then fX11_wise_b37 T  S9 else if 0 ≤ r7 then fX11_wise_b49 T ((S9.1 r4 3) - r7) S9 else fX11_wise_b37 T  S9
set_option maxHeartbeats 4000000 in
set_option maxRecDepth 100000 in
theorem tX11_wise_b49 (T : zT) (s0 : Int32) (S : zS)  {g : zG} (r : (Int32 × zS)) (h : fX11_wise_b49 T s0 S = some r)  : zg g 7 mX11_wise T 49 [none, none, none, none] [.int s0] T S (some (.int r.1)) T r.2 := by
  unfold fX11_wise_b49 at h
  cases h
  exact z_iret rfl dX11_wise_49
set_option maxHeartbeats 4000000 in
set_option maxRecDepth 100000 in
theorem tX11_wise_b37 (T : zT)  (S : zS)  {g : zG} (r : (Int32 × zS)) (h : fX11_wise_b37 T  S = some r)  : zg g 7 mX11_wise T 37 [none, none, none, none] [] T S (some (.int r.1)) T r.2 := by
  unfold fX11_wise_b37 at h
  refine z_ldcw znX11_266 dX11_wise_37 ?_
  refine z_goto (tgt := 49) dX11_wise_40 (by decide) ?_
  exact z_mask [false, false, false, false] rfl (tX11_wise_b49 T (-1000000) S  r h)
set_option maxHeartbeats 4000000 in
set_option maxRecDepth 100000 in
theorem tX11_wise (T : zT) (k0 : Nat) (x1 : Int32) (S : zS) (h0 : iX11 T k0) (r : Int32 × zS) (h : fX11_wise T k0 x1 S = some r) : zGM 7 mX11_wise [.ref k0, .int x1] T S (some (.int r.1)) T r.2 := by
  refine zGM_of zpnX11 rfl (Nat.le_of_ble_eq_true rfl) (fun g => ?_)
  show zg g 7 mX11_wise T 0 [some (.ref k0), some (.int x1), none, none] [] T S (some (.int r.1)) T r.2
  unfold fX11_wise at h
  refine z_aload_n dX11_wise_0 rfl ?_
  refine z_gR (zF.x zfX11_23) h0.1 dX11_wise_1 ?_
  refine z_iload_n dX11_wise_4 rfl ?_
  obtain ⟨r1, hc2, h⟩ := zb1_elim h
  refine z_callV (As := [.int x1]) zcX0 zkX11_128 ziX0_has zqX0_has h0.2.2.2.1.1 (tX0_has T (zr T k0 3) x1 S h0.2.2.2.1 r1 hc2) rfl rfl (Nat.le_of_ble_eq_true rfl) (by decide) ⟨Nat.le_refl _, Nat.le_refl _⟩ ⟨Nat.le_refl _, Nat.le_refl _⟩ dX11_wise_5 ?_
  refine z_if_ne (tgt := 15) dX11_wise_8 (by decide) (fun q3 => ?_) (fun q3 => ?_)
  · rw [if_neg q3] at h
    refine z_aload_n dX11_wise_15 rfl ?_
    obtain ⟨r4, S6, hc5, h⟩ := zb_elim h
    refine z_callV (As := []) zcX11 zkX11_230 ziX11_readyPlans zqX11_readyPlans h0.1 (tX11_readyPlans T k0 S h0 (r4, S6) hc5) rfl rfl (Nat.le_of_ble_eq_true rfl) (by decide) ⟨Nat.le_refl _, Nat.le_refl _⟩ ⟨Nat.le_refl _, Nat.le_refl _⟩ dX11_wise_16 ?_
    refine z_astore_n dX11_wise_19 rfl (by decide) rfl ?_
    refine z_aload_n dX11_wise_20 rfl ?_
    refine z_iload_n dX11_wise_21 rfl ?_
    obtain ⟨r7, S9, hc8, h⟩ := zb_elim h
    refine z_callV (As := [.int x1]) zcX5 zkX11_263 ziX5_bestNeverPut zqX5_bestNeverPut ((uX11_readyPlans T k0 S h0 (r4, S6) hc5)).1 (tX5_bestNeverPut T r4 x1 S6 (uX11_readyPlans T k0 S h0 (r4, S6) hc5) (r7, S9) hc8) rfl rfl (Nat.le_of_ble_eq_true rfl) (by decide) ⟨Nat.le_refl _, Nat.le_refl _⟩ ⟨Nat.le_refl _, Nat.le_refl _⟩ dX11_wise_22 ?_
    refine z_istore_n dX11_wise_25 rfl (by decide) rfl ?_
    refine z_aload_n dX11_wise_26 rfl ?_
    refine z_gI (zF.x zfX11_244) ((uX11_readyPlans T k0 S h0 (r4, S6) hc5)).1 dX11_wise_27 ?_
    refine z_if_lt (tgt := 37) dX11_wise_30 (by decide) (fun q10 => ?_) (fun q10 => ?_)
    · rw [if_pos q10] at h
      exact z_mask [false, false, false, false] rfl (tX11_wise_b37 T  S9  r h)
    · rw [if_neg q10] at h
      refine z_iload_n dX11_wise_33 rfl ?_
      refine z_if_ge (tgt := 43) dX11_wise_34 (by decide) (fun q11 => ?_) (fun q11 => ?_)
      · rw [if_pos q11] at h
        refine z_aload_n dX11_wise_43 rfl ?_
        refine z_gI (zF.x zfX11_244) ((uX11_readyPlans T k0 S h0 (r4, S6) hc5)).1 dX11_wise_44 ?_
        refine z_iload_n dX11_wise_47 rfl ?_
        refine z_isub dX11_wise_48 rfl ?_
        exact z_mask [false, false, false, false] rfl (tX11_wise_b49 T ((S9.1 r4 3) - r7) S9  r h)
      · rw [if_neg q11] at h
        exact z_mask [false, false, false, false] rfl (tX11_wise_b37 T  S9  r h)
  · rw [if_pos q3] at h
    refine z_ldcw znX11_262 dX11_wise_11 ?_
    cases h
    exact z_iret rfl dX11_wise_14
/-! X11_borrowed -/
noncomputable def fX11_borrowed_b15 (T : zT)  (S : zS) : Option (Int32 × zS) :=
  some ((-1), S)
noncomputable def fX11_borrowed (T : zT) (k0 : Nat) (x1 : Int32) (S : zS) : Option (Int32 × zS) :=
  if x1 < 0 then fX11_borrowed_b15 T  S else if x1 < (S.1 (zr T k0 3) 1) then zb (fX11_readyPlans T k0 S) fun r3 S5 => zb (fX5_bestBorrowing T r3 x1 S5) fun r6 S8 => zb1 (fX11_orLacking T r6 S8) fun r9 => some (r9, S8) else fX11_borrowed_b15 T  S
set_option maxHeartbeats 4000000 in
set_option maxRecDepth 100000 in
theorem tX11_borrowed_b15 (T : zT)  (S : zS)  {g : zG} (r : (Int32 × zS)) (h : fX11_borrowed_b15 T  S = some r)  : zg g 7 mX11_borrowed T 15 [none, none] [] T S (some (.int r.1)) T r.2 := by
  unfold fX11_borrowed_b15 at h
  refine z_iconst dX11_borrowed_15 cI_m1 ?_
  cases h
  exact z_iret rfl dX11_borrowed_16
set_option maxHeartbeats 4000000 in
set_option maxRecDepth 100000 in
theorem tX11_borrowed (T : zT) (k0 : Nat) (x1 : Int32) (S : zS) (h0 : iX11 T k0) (r : Int32 × zS) (h : fX11_borrowed T k0 x1 S = some r) : zGM 7 mX11_borrowed [.ref k0, .int x1] T S (some (.int r.1)) T r.2 := by
  refine zGM_of zpnX11 rfl (Nat.le_of_ble_eq_true rfl) (fun g => ?_)
  show zg g 7 mX11_borrowed T 0 [some (.ref k0), some (.int x1)] [] T S (some (.int r.1)) T r.2
  unfold fX11_borrowed at h
  refine z_iload_n dX11_borrowed_0 rfl ?_
  refine z_if_lt (tgt := 15) dX11_borrowed_1 (by decide) (fun q1 => ?_) (fun q1 => ?_)
  · rw [if_pos q1] at h
    exact z_mask [false, false] rfl (tX11_borrowed_b15 T  S  r h)
  · rw [if_neg q1] at h
    refine z_iload_n dX11_borrowed_4 rfl ?_
    refine z_aload_n dX11_borrowed_5 rfl ?_
    refine z_gR (zF.x zfX11_23) h0.1 dX11_borrowed_6 ?_
    refine z_gI (zF.x zfX11_150) h0.2.2.2.1.1 dX11_borrowed_9 ?_
    refine z_icmp_lt (tgt := 17) dX11_borrowed_12 (by decide) (fun q2 => ?_) (fun q2 => ?_)
    · rw [if_pos q2] at h
      refine z_aload_n dX11_borrowed_17 rfl ?_
      obtain ⟨r3, S5, hc4, h⟩ := zb_elim h
      refine z_callV (As := []) zcX11 zkX11_230 ziX11_readyPlans zqX11_readyPlans h0.1 (tX11_readyPlans T k0 S h0 (r3, S5) hc4) rfl rfl (Nat.le_of_ble_eq_true rfl) (by decide) ⟨Nat.le_refl _, Nat.le_refl _⟩ ⟨Nat.le_refl _, Nat.le_refl _⟩ dX11_borrowed_18 ?_
      refine z_iload_n dX11_borrowed_21 rfl ?_
      obtain ⟨r6, S8, hc7, h⟩ := zb_elim h
      refine z_callV (As := [.int x1]) zcX5 zkX11_267 ziX5_bestBorrowing zqX5_bestBorrowing ((uX11_readyPlans T k0 S h0 (r3, S5) hc4)).1 (tX5_bestBorrowing T r3 x1 S5 (uX11_readyPlans T k0 S h0 (r3, S5) hc4) (r6, S8) hc7) rfl rfl (Nat.le_of_ble_eq_true rfl) (by decide) ⟨Nat.le_refl _, Nat.le_refl _⟩ ⟨Nat.le_refl _, Nat.le_refl _⟩ dX11_borrowed_22 ?_
      obtain ⟨r9, hc10, h⟩ := zb1_elim h
      refine z_callS (As := [.int r6]) zkX11_270 zsX11_orLacking (tX11_orLacking T r6 S8  r9 hc10) rfl rfl (Nat.le_of_ble_eq_true rfl) (by decide) ⟨Nat.le_refl _, Nat.le_refl _⟩ ⟨Nat.le_refl _, Nat.le_refl _⟩ dX11_borrowed_25 ?_
      cases h
      exact z_iret rfl dX11_borrowed_28
    · rw [if_neg q2] at h
      exact z_mask [false, false] rfl (tX11_borrowed_b15 T  S  r h)
/-! X11_when -/
noncomputable def fX11_when (T : zT) (k0 : Nat) (S : zS) : Option (Int32 × zS) :=
  zb (fX11_readyPlans T k0 S) fun r1 S3 => zb (fX5_borrowingWeek T r1 S3) fun r4 S6 => zb1 (fX11_orLacking T r4 S6) fun r7 => some (r7, S6)
set_option maxHeartbeats 4000000 in
set_option maxRecDepth 100000 in
theorem tX11_when (T : zT) (k0 : Nat) (S : zS) (h0 : iX11 T k0) (r : Int32 × zS) (h : fX11_when T k0 S = some r) : zGM 7 mX11_when [.ref k0] T S (some (.int r.1)) T r.2 := by
  refine zGM_of zpnX11 rfl (Nat.le_of_ble_eq_true rfl) (fun g => ?_)
  show zg g 7 mX11_when T 0 [some (.ref k0)] [] T S (some (.int r.1)) T r.2
  unfold fX11_when at h
  refine z_aload_n dX11_when_0 rfl ?_
  obtain ⟨r1, S3, hc2, h⟩ := zb_elim h
  refine z_callV (As := []) zcX11 zkX11_230 ziX11_readyPlans zqX11_readyPlans h0.1 (tX11_readyPlans T k0 S h0 (r1, S3) hc2) rfl rfl (Nat.le_of_ble_eq_true rfl) (by decide) ⟨Nat.le_refl _, Nat.le_refl _⟩ ⟨Nat.le_refl _, Nat.le_refl _⟩ dX11_when_1 ?_
  obtain ⟨r4, S6, hc5, h⟩ := zb_elim h
  refine z_callV (As := []) zcX5 zkX11_273 ziX5_borrowingWeek zqX5_borrowingWeek ((uX11_readyPlans T k0 S h0 (r1, S3) hc2)).1 (tX5_borrowingWeek T r1 S3 (uX11_readyPlans T k0 S h0 (r1, S3) hc2) (r4, S6) hc5) rfl rfl (Nat.le_of_ble_eq_true rfl) (by decide) ⟨Nat.le_refl _, Nat.le_refl _⟩ ⟨Nat.le_refl _, Nat.le_refl _⟩ dX11_when_4 ?_
  obtain ⟨r7, hc8, h⟩ := zb1_elim h
  refine z_callS (As := [.int r4]) zkX11_270 zsX11_orLacking (tX11_orLacking T r4 S6  r7 hc8) rfl rfl (Nat.le_of_ble_eq_true rfl) (by decide) ⟨Nat.le_refl _, Nat.le_refl _⟩ ⟨Nat.le_refl _, Nat.le_refl _⟩ dX11_when_7 ?_
  cases h
  exact z_iret rfl dX11_when_10
/-! X11_sold -/
noncomputable def fX11_sold_b26 (T : zT)  (S : zS) : Option (Int32 × zS) :=
  some ((-1), S)
noncomputable def fX11_sold (T : zT) (k0 : Nat) (x1 : Int32) (x2 : Int32) (S : zS) : Option (Int32 × zS) :=
  zb1 (fX0_has T (zr T k0 3) x1 S) fun r1 => if r1 = 0 then fX11_sold_b26 T  S else if x2 < 0 then fX11_sold_b26 T  S else if x2 < (S.1 (zr T k0 3) 1) then zb (fX11_readyPlans T k0 S) fun r6 S8 => zb (fX5_bestSelling T r6 x1 x2 S8) fun r9 S11 => zb1 (fX11_orLacking T r9 S11) fun r12 => some (r12, S11) else fX11_sold_b26 T  S
set_option maxHeartbeats 4000000 in
set_option maxRecDepth 100000 in
theorem tX11_sold_b26 (T : zT)  (S : zS)  {g : zG} (r : (Int32 × zS)) (h : fX11_sold_b26 T  S = some r)  : zg g 7 mX11_sold T 26 [none, none, none] [] T S (some (.int r.1)) T r.2 := by
  unfold fX11_sold_b26 at h
  refine z_iconst dX11_sold_26 cI_m1 ?_
  cases h
  exact z_iret rfl dX11_sold_27
set_option maxHeartbeats 4000000 in
set_option maxRecDepth 100000 in
theorem tX11_sold (T : zT) (k0 : Nat) (x1 : Int32) (x2 : Int32) (S : zS) (h0 : iX11 T k0) (r : Int32 × zS) (h : fX11_sold T k0 x1 x2 S = some r) : zGM 7 mX11_sold [.ref k0, .int x1, .int x2] T S (some (.int r.1)) T r.2 := by
  refine zGM_of zpnX11 rfl (Nat.le_of_ble_eq_true rfl) (fun g => ?_)
  show zg g 7 mX11_sold T 0 [some (.ref k0), some (.int x1), some (.int x2)] [] T S (some (.int r.1)) T r.2
  unfold fX11_sold at h
  refine z_aload_n dX11_sold_0 rfl ?_
  refine z_gR (zF.x zfX11_23) h0.1 dX11_sold_1 ?_
  refine z_iload_n dX11_sold_4 rfl ?_
  obtain ⟨r1, hc2, h⟩ := zb1_elim h
  refine z_callV (As := [.int x1]) zcX0 zkX11_128 ziX0_has zqX0_has h0.2.2.2.1.1 (tX0_has T (zr T k0 3) x1 S h0.2.2.2.1 r1 hc2) rfl rfl (Nat.le_of_ble_eq_true rfl) (by decide) ⟨Nat.le_refl _, Nat.le_refl _⟩ ⟨Nat.le_refl _, Nat.le_refl _⟩ dX11_sold_5 ?_
  refine z_if_eq (tgt := 26) dX11_sold_8 (by decide) (fun q3 => ?_) (fun q3 => ?_)
  · rw [if_pos q3] at h
    exact z_mask [false, false, false] rfl (tX11_sold_b26 T  S  r h)
  · rw [if_neg q3] at h
    refine z_iload_n dX11_sold_11 rfl ?_
    refine z_if_lt (tgt := 26) dX11_sold_12 (by decide) (fun q4 => ?_) (fun q4 => ?_)
    · rw [if_pos q4] at h
      exact z_mask [false, false, false] rfl (tX11_sold_b26 T  S  r h)
    · rw [if_neg q4] at h
      refine z_iload_n dX11_sold_15 rfl ?_
      refine z_aload_n dX11_sold_16 rfl ?_
      refine z_gR (zF.x zfX11_23) h0.1 dX11_sold_17 ?_
      refine z_gI (zF.x zfX11_150) h0.2.2.2.1.1 dX11_sold_20 ?_
      refine z_icmp_lt (tgt := 28) dX11_sold_23 (by decide) (fun q5 => ?_) (fun q5 => ?_)
      · rw [if_pos q5] at h
        refine z_aload_n dX11_sold_28 rfl ?_
        obtain ⟨r6, S8, hc7, h⟩ := zb_elim h
        refine z_callV (As := []) zcX11 zkX11_230 ziX11_readyPlans zqX11_readyPlans h0.1 (tX11_readyPlans T k0 S h0 (r6, S8) hc7) rfl rfl (Nat.le_of_ble_eq_true rfl) (by decide) ⟨Nat.le_refl _, Nat.le_refl _⟩ ⟨Nat.le_refl _, Nat.le_refl _⟩ dX11_sold_29 ?_
        refine z_iload_n dX11_sold_32 rfl ?_
        refine z_iload_n dX11_sold_33 rfl ?_
        obtain ⟨r9, S11, hc10, h⟩ := zb_elim h
        refine z_callV (As := [.int x1, .int x2]) zcX5 zkX11_276 ziX5_bestSelling zqX5_bestSelling ((uX11_readyPlans T k0 S h0 (r6, S8) hc7)).1 (tX5_bestSelling T r6 x1 x2 S8 (uX11_readyPlans T k0 S h0 (r6, S8) hc7) (r9, S11) hc10) rfl rfl (Nat.le_of_ble_eq_true rfl) (by decide) ⟨Nat.le_refl _, Nat.le_refl _⟩ ⟨Nat.le_refl _, Nat.le_refl _⟩ dX11_sold_34 ?_
        obtain ⟨r12, hc13, h⟩ := zb1_elim h
        refine z_callS (As := [.int r9]) zkX11_270 zsX11_orLacking (tX11_orLacking T r9 S11  r12 hc13) rfl rfl (Nat.le_of_ble_eq_true rfl) (by decide) ⟨Nat.le_refl _, Nat.le_refl _⟩ ⟨Nat.le_refl _, Nat.le_refl _⟩ dX11_sold_37 ?_
        cases h
        exact z_iret rfl dX11_sold_40
      · rw [if_neg q5] at h
        exact z_mask [false, false, false] rfl (tX11_sold_b26 T  S  r h)
/-! X11_selling -/
noncomputable def fX11_selling (T : zT) (k0 : Nat) (x1 : Int32) (S : zS) : Option (Int32 × zS) :=
  zb1 (fX0_has T (zr T k0 3) x1 S) fun r1 => if r1 = 0 then some ((-1), S) else zb (fX11_readyPlans T k0 S) fun r4 S6 => zb (fX5_sellingWeek T r4 x1 S6) fun r7 S9 => zb1 (fX11_orLacking T r7 S9) fun r10 => some (r10, S9)
set_option maxHeartbeats 4000000 in
set_option maxRecDepth 100000 in
theorem tX11_selling (T : zT) (k0 : Nat) (x1 : Int32) (S : zS) (h0 : iX11 T k0) (r : Int32 × zS) (h : fX11_selling T k0 x1 S = some r) : zGM 7 mX11_selling [.ref k0, .int x1] T S (some (.int r.1)) T r.2 := by
  refine zGM_of zpnX11 rfl (Nat.le_of_ble_eq_true rfl) (fun g => ?_)
  show zg g 7 mX11_selling T 0 [some (.ref k0), some (.int x1)] [] T S (some (.int r.1)) T r.2
  unfold fX11_selling at h
  refine z_aload_n dX11_selling_0 rfl ?_
  refine z_gR (zF.x zfX11_23) h0.1 dX11_selling_1 ?_
  refine z_iload_n dX11_selling_4 rfl ?_
  obtain ⟨r1, hc2, h⟩ := zb1_elim h
  refine z_callV (As := [.int x1]) zcX0 zkX11_128 ziX0_has zqX0_has h0.2.2.2.1.1 (tX0_has T (zr T k0 3) x1 S h0.2.2.2.1 r1 hc2) rfl rfl (Nat.le_of_ble_eq_true rfl) (by decide) ⟨Nat.le_refl _, Nat.le_refl _⟩ ⟨Nat.le_refl _, Nat.le_refl _⟩ dX11_selling_5 ?_
  refine z_if_ne (tgt := 13) dX11_selling_8 (by decide) (fun q3 => ?_) (fun q3 => ?_)
  · rw [if_neg q3] at h
    refine z_aload_n dX11_selling_13 rfl ?_
    obtain ⟨r4, S6, hc5, h⟩ := zb_elim h
    refine z_callV (As := []) zcX11 zkX11_230 ziX11_readyPlans zqX11_readyPlans h0.1 (tX11_readyPlans T k0 S h0 (r4, S6) hc5) rfl rfl (Nat.le_of_ble_eq_true rfl) (by decide) ⟨Nat.le_refl _, Nat.le_refl _⟩ ⟨Nat.le_refl _, Nat.le_refl _⟩ dX11_selling_14 ?_
    refine z_iload_n dX11_selling_17 rfl ?_
    obtain ⟨r7, S9, hc8, h⟩ := zb_elim h
    refine z_callV (As := [.int x1]) zcX5 zkX11_279 ziX5_sellingWeek zqX5_sellingWeek ((uX11_readyPlans T k0 S h0 (r4, S6) hc5)).1 (tX5_sellingWeek T r4 x1 S6 (uX11_readyPlans T k0 S h0 (r4, S6) hc5) (r7, S9) hc8) rfl rfl (Nat.le_of_ble_eq_true rfl) (by decide) ⟨Nat.le_refl _, Nat.le_refl _⟩ ⟨Nat.le_refl _, Nat.le_refl _⟩ dX11_selling_18 ?_
    obtain ⟨r10, hc11, h⟩ := zb1_elim h
    refine z_callS (As := [.int r7]) zkX11_270 zsX11_orLacking (tX11_orLacking T r7 S9  r10 hc11) rfl rfl (Nat.le_of_ble_eq_true rfl) (by decide) ⟨Nat.le_refl _, Nat.le_refl _⟩ ⟨Nat.le_refl _, Nat.le_refl _⟩ dX11_selling_21 ?_
    cases h
    exact z_iret rfl dX11_selling_24
  · rw [if_pos q3] at h
    refine z_iconst dX11_selling_11 cI_m1 ?_
    cases h
    exact z_iret rfl dX11_selling_12
/-! X11_ruled -/
noncomputable def fX11_ruled_b17 (T : zT)  (S : zS) : Option (Int32 × zS) :=
  some ((-2), S)
noncomputable def fX11_ruled_b126 (T : zT) (s0 : Int32) (S : zS) : Option (Int32 × zS) :=
  some (s0, S)
noncomputable def fX11_ruled_b111 (T : zT)  (S : zS) : Option (Int32 × zS) :=
  fX11_ruled_b126 T (-1000000) S
noncomputable def fX11_ruled (T : zT) (k0 : Nat) (x1 : Int32) (x2 : Int32) (S : zS) : Option (Int32 × zS) :=
  zb1 (fX11_isRule T k0 x1 S) fun r1 => if r1 = 0 then fX11_ruled_b17 T  S else if x2 < 0 then fX11_ruled_b17 T  S else if x2 ≤ 3 then zgd (zin x1 6) (zb (fX4_liveByRule T (zr T k0 12) (zr T (zr T k0 6) (x1 : Int32).toNatClampNeg) (-1) S) fun _ S9 => if x2 = 0 then some ((S9.1 (zr T k0 12) 3), S9) else if x2 = 1 then some ((S9.1 (zr T k0 12) 4), S9) else if x2 = 2 then some ((S9.1 (zr T k0 12) 7), S9) else zb (fX11_readyPlans T k0 S9) fun r13 S15 => zlet (S15.1 r13 3) fun u16 => if (S15.1 (zr T k0 12) 7) = (-1) then if 0 ≤ u16 then fX11_ruled_b126 T (u16 - (S15.1 (zr T k0 12) 3)) S15 else fX11_ruled_b111 T  S15 else fX11_ruled_b111 T  S15) else fX11_ruled_b17 T  S
set_option maxHeartbeats 4000000 in
set_option maxRecDepth 100000 in
theorem tX11_ruled_b17 (T : zT)  (S : zS)  {g : zG} (r : (Int32 × zS)) (h : fX11_ruled_b17 T  S = some r)  : zg g 7 mX11_ruled T 17 [none, none, none, none] [] T S (some (.int r.1)) T r.2 := by
  unfold fX11_ruled_b17 at h
  refine z_bipush dX11_ruled_17 cB_m2 ?_
  cases h
  exact z_iret rfl dX11_ruled_19
set_option maxHeartbeats 4000000 in
set_option maxRecDepth 100000 in
theorem tX11_ruled_b126 (T : zT) (s0 : Int32) (S : zS)  {g : zG} (r : (Int32 × zS)) (h : fX11_ruled_b126 T s0 S = some r)  : zg g 7 mX11_ruled T 126 [none, none, none, none] [.int s0] T S (some (.int r.1)) T r.2 := by
  unfold fX11_ruled_b126 at h
  cases h
  exact z_iret rfl dX11_ruled_126
set_option maxHeartbeats 4000000 in
set_option maxRecDepth 100000 in
theorem tX11_ruled_b111 (T : zT)  (S : zS)  {g : zG} (r : (Int32 × zS)) (h : fX11_ruled_b111 T  S = some r)  : zg g 7 mX11_ruled T 111 [none, none, none, none] [] T S (some (.int r.1)) T r.2 := by
  unfold fX11_ruled_b111 at h
  refine z_ldcw znX11_266 dX11_ruled_111 ?_
  refine z_goto (tgt := 126) dX11_ruled_114 (by decide) ?_
  exact z_mask [false, false, false, false] rfl (tX11_ruled_b126 T (-1000000) S  r h)
set_option maxHeartbeats 4000000 in
set_option maxRecDepth 100000 in
theorem tX11_ruled (T : zT) (k0 : Nat) (x1 : Int32) (x2 : Int32) (S : zS) (h0 : iX11 T k0) (r : Int32 × zS) (h : fX11_ruled T k0 x1 x2 S = some r) : zGM 7 mX11_ruled [.ref k0, .int x1, .int x2] T S (some (.int r.1)) T r.2 := by
  refine zGM_of zpnX11 rfl (Nat.le_of_ble_eq_true rfl) (fun g => ?_)
  show zg g 7 mX11_ruled T 0 [some (.ref k0), some (.int x1), some (.int x2), none] [] T S (some (.int r.1)) T r.2
  unfold fX11_ruled at h
  refine z_aload_n dX11_ruled_0 rfl ?_
  refine z_iload_n dX11_ruled_1 rfl ?_
  obtain ⟨r1, hc2, h⟩ := zb1_elim h
  refine z_callV (As := [.int x1]) zcX11 zkX11_282 ziX11_isRule zqX11_isRule h0.1 (tX11_isRule T k0 x1 S h0 r1 hc2) rfl rfl (Nat.le_of_ble_eq_true rfl) (by decide) ⟨Nat.le_refl _, Nat.le_refl _⟩ ⟨Nat.le_refl _, Nat.le_refl _⟩ dX11_ruled_2 ?_
  refine z_if_eq (tgt := 17) dX11_ruled_5 (by decide) (fun q3 => ?_) (fun q3 => ?_)
  · rw [if_pos q3] at h
    exact z_mask [false, false, false, false] rfl (tX11_ruled_b17 T  S  r h)
  · rw [if_neg q3] at h
    refine z_iload_n dX11_ruled_8 rfl ?_
    refine z_if_lt (tgt := 17) dX11_ruled_9 (by decide) (fun q4 => ?_) (fun q4 => ?_)
    · rw [if_pos q4] at h
      exact z_mask [false, false, false, false] rfl (tX11_ruled_b17 T  S  r h)
    · rw [if_neg q4] at h
      refine z_iload_n dX11_ruled_12 rfl ?_
      refine z_iconst dX11_ruled_13 cI_3 ?_
      refine z_icmp_le (tgt := 20) dX11_ruled_14 (by decide) (fun q5 => ?_) (fun q5 => ?_)
      · rw [if_pos q5] at h
        refine z_aload_n dX11_ruled_20 rfl ?_
        refine z_gR (zF.x zfX11_68) h0.1 dX11_ruled_21 ?_
        refine z_aload_n dX11_ruled_24 rfl ?_
        refine z_gA (zF.x zfX11_39) h0.1 dX11_ruled_25 ?_
        refine z_iload_n dX11_ruled_28 rfl ?_
        obtain ⟨q6, h⟩ := zgd_elim h
        refine z_aald h0.2.2.2.2.2.2.1.1 (by decide) (fun _ => rfl) (zin_ok q6) dX11_ruled_29 ?_
        refine z_ldc2 znX11_199 dX11_ruled_30 ?_
        obtain ⟨r7, S9, hc8, h⟩ := zb_elim h
        refine z_callV (As := [.ref (zr T (zr T k0 6) (x1 : Int32).toNatClampNeg), .long (-1)]) zcX4 zkX11_293 ziX4_liveByRule zqX4_liveByRule h0.2.2.2.2.2.2.2.2.2.2.2.1.1 (tX4_liveByRule T (zr T k0 12) (zr T (zr T k0 6) (x1 : Int32).toNatClampNeg) (-1) S h0.2.2.2.2.2.2.2.2.2.2.2.1 (h0.2.2.2.2.2.2.1.2 _ (zin_lt q6)) (r7, S9) hc8) rfl rfl (Nat.le_of_ble_eq_true rfl) (by decide) ⟨Nat.le_refl _, Nat.le_refl _⟩ ⟨Nat.le_refl _, Nat.le_refl _⟩ dX11_ruled_33 ?_
        refine z_iload_n dX11_ruled_36 rfl ?_
        by_cases q10 : x2 = 0
        · rw [if_pos q10] at h
          refine z_tableIn (off := 27) (tgt := 64) dX11_ruled_37 (by show ¬ x2.toInt < 0; rw [q10]; decide) (by show ¬ 2 < x2.toInt; rw [q10]; decide) (by rw [q10]; rfl) (by decide) ?_
          refine z_aload_n dX11_ruled_64 rfl ?_
          refine z_gR (zF.x zfX11_68) h0.1 dX11_ruled_65 ?_
          refine z_gI (zF.x zfX11_211) h0.2.2.2.2.2.2.2.2.2.2.2.1.1 dX11_ruled_68 ?_
          cases h
          exact z_iret rfl dX11_ruled_71
        rw [if_neg q10] at h
        by_cases q11 : x2 = 1
        · rw [if_pos q11] at h
          refine z_tableIn (off := 35) (tgt := 72) dX11_ruled_37 (by show ¬ x2.toInt < 0; rw [q11]; decide) (by show ¬ 2 < x2.toInt; rw [q11]; decide) (by rw [q11]; rfl) (by decide) ?_
          refine z_aload_n dX11_ruled_72 rfl ?_
          refine z_gR (zF.x zfX11_68) h0.1 dX11_ruled_73 ?_
          refine z_gI (zF.x zfX11_212) h0.2.2.2.2.2.2.2.2.2.2.2.1.1 dX11_ruled_76 ?_
          cases h
          exact z_iret rfl dX11_ruled_79
        rw [if_neg q11] at h
        by_cases q12 : x2 = 2
        · rw [if_pos q12] at h
          refine z_tableIn (off := 43) (tgt := 80) dX11_ruled_37 (by show ¬ x2.toInt < 0; rw [q12]; decide) (by show ¬ 2 < x2.toInt; rw [q12]; decide) (by rw [q12]; rfl) (by decide) ?_
          refine z_aload_n dX11_ruled_80 rfl ?_
          refine z_gR (zF.x zfX11_68) h0.1 dX11_ruled_81 ?_
          refine z_gI (zF.x zfX11_208) h0.2.2.2.2.2.2.2.2.2.2.2.1.1 dX11_ruled_84 ?_
          cases h
          exact z_iret rfl dX11_ruled_87
        rw [if_neg q12] at h
        have q10i : ¬ x2.toInt = 0 := zneI q10 (by decide)
        have q11i : ¬ x2.toInt = 1 := zneI q11 (by decide)
        have q12i : ¬ x2.toInt = 2 := zneI q12 (by decide)
        refine z_tableOut (tgt := 88) dX11_ruled_37 (by show x2.toInt < 0 ∨ 2 < x2.toInt; omega) (by decide) ?_
        refine z_aload_n dX11_ruled_88 rfl ?_
        obtain ⟨r13, S15, hc14, h⟩ := zb_elim h
        refine z_callV (As := []) zcX11 zkX11_230 ziX11_readyPlans zqX11_readyPlans h0.1 (tX11_readyPlans T k0 S9 h0 (r13, S15) hc14) rfl rfl (Nat.le_of_ble_eq_true rfl) (by decide) ⟨Nat.le_refl _, Nat.le_refl _⟩ ⟨Nat.le_refl _, Nat.le_refl _⟩ dX11_ruled_89 ?_
        refine z_gI (zF.x zfX11_244) ((uX11_readyPlans T k0 S9 h0 (r13, S15) hc14)).1 dX11_ruled_92 ?_
        obtain ⟨u16, eu16, h⟩ := zlet_elim h
        refine z_ti eu16 ?_
        refine z_istore_n dX11_ruled_95 rfl (by decide) rfl ?_
        refine z_aload_n dX11_ruled_96 rfl ?_
        refine z_gR (zF.x zfX11_68) h0.1 dX11_ruled_97 ?_
        refine z_gI (zF.x zfX11_208) h0.2.2.2.2.2.2.2.2.2.2.2.1.1 dX11_ruled_100 ?_
        refine z_iconst dX11_ruled_103 cI_m1 ?_
        refine z_icmp_ne (tgt := 111) dX11_ruled_104 (by decide) (fun q17 => ?_) (fun q17 => ?_)
        · rw [if_neg q17] at h
          exact z_mask [false, false, false, false] rfl (tX11_ruled_b111 T  S15  r h)
        · rw [if_pos q17] at h
          refine z_iload_n dX11_ruled_107 rfl ?_
          refine z_if_ge (tgt := 117) dX11_ruled_108 (by decide) (fun q18 => ?_) (fun q18 => ?_)
          · rw [if_pos q18] at h
            refine z_iload_n dX11_ruled_117 rfl ?_
            refine z_aload_n dX11_ruled_118 rfl ?_
            refine z_gR (zF.x zfX11_68) h0.1 dX11_ruled_119 ?_
            refine z_gI (zF.x zfX11_211) h0.2.2.2.2.2.2.2.2.2.2.2.1.1 dX11_ruled_122 ?_
            refine z_isub dX11_ruled_125 rfl ?_
            exact z_mask [false, false, false, false] rfl (tX11_ruled_b126 T (u16 - (S15.1 (zr T k0 12) 3)) S15  r h)
          · rw [if_neg q18] at h
            exact z_mask [false, false, false, false] rfl (tX11_ruled_b111 T  S15  r h)
      · rw [if_neg q5] at h
        exact z_mask [false, false, false, false] rfl (tX11_ruled_b17 T  S  r h)
/-! X11_finest -/
noncomputable def fX11_finest_b69 (T : zT) (k0 : Nat) (x1 : Int32) (x2 : Int32) (x3 : Int32) (S : zS) : Option ((Int32 × Int32 × Int32 × zS) ⊕ (Int32 × zS)) :=
  zlet (x3 + 1) fun u8 => some (.inl (x1, x2, u8, S))
noncomputable def fX11_finest_l7 (T : zT) (k0 : Nat) (x1 : Int32) (x2 : Int32) (x3 : Int32) (S : zS) : Option ((Int32 × Int32 × Int32 × zS) ⊕ (Int32 × zS)) :=
  if (S.1 k0 7) ≤ x3 then some (.inr (x1, S)) else if 6 ≤ x3 then some (.inr (x1, S)) else zgd (zin x3 6) (zb (fX4_liveByRule T (zr T k0 12) (zr T (zr T k0 6) (x3 : Int32).toNatClampNeg) (-1) S) fun _ S6 => if (S6.1 (zr T k0 12) 7) = (-1) then if (S6.1 (zr T k0 12) 3) ≤ x2 then fX11_finest_b69 T k0 x1 x2 x3 S6 else zlet (S6.1 (zr T k0 12) 3) fun u10 => fX11_finest_b69 T k0 x3 u10 x3 S6 else fX11_finest_b69 T k0 x1 x2 x3 S6)
noncomputable def fX11_finest_b75 (T : zT) (x1 : Int32) (S : zS) : Option (Int32 × zS) :=
  some (x1, S)
noncomputable def fX11_finest (T : zT) (k0 : Nat) (S : zS) : Option (Int32 × zS) :=
  zb1 (lp (fun a => fX11_finest_l7 T k0 a.1 a.2.1 a.2.2.1 a.2.2.2) ((-2), (-1), 0, S)) fun e11 => fX11_finest_b75 T e11.1 e11.2
set_option maxHeartbeats 4000000 in
set_option maxRecDepth 100000 in
theorem tX11_finest_b69 (T : zT) (k0 : Nat) (x1 : Int32) (x2 : Int32) (x3 : Int32) (S : zS) (h0 : iX11 T k0) {g : zG} {v : Option Value} {S' : zS} (r : ((Int32 × Int32 × Int32 × zS) ⊕ (Int32 × zS))) (h : fX11_finest_b69 T k0 x1 x2 x3 S = some r) (K1 : ∀ a : (Int32 × Int32 × Int32 × zS), r = .inl a → zg g 7 mX11_finest T 7 [some (.ref k0), some (.int a.1), some (.int a.2.1), some (.int a.2.2.1)] [] T a.2.2.2 v T S') (K2_0 : ∀ e : (Int32 × zS), r = .inr e → zg g 7 mX11_finest T 75 [none, some (.int e.1), none, none] [] T e.2 v T S') : zg g 7 mX11_finest T 69 [some (.ref k0), some (.int x1), some (.int x2), some (.int x3)] [] T S v T S' := by
  unfold fX11_finest_b69 at h
  obtain ⟨u8, eu8, h⟩ := zlet_elim h
  refine z_iinc (r := u8) dX11_finest_69 rfl (by rw [eu8, cI_1]) rfl (by decide) rfl ?_
  refine z_goto (tgt := 7) dX11_finest_72 (by decide) ?_
  cases h
  exact z_mask [true, true, true, true] rfl (K1 _ rfl)
set_option maxHeartbeats 4000000 in
set_option maxRecDepth 100000 in
theorem tX11_finest_l7b (T : zT) (k0 : Nat) (x1 : Int32) (x2 : Int32) (x3 : Int32) (S : zS) (h0 : iX11 T k0) {g : zG} {v : Option Value} {S' : zS} (r : (Int32 × Int32 × Int32 × zS) ⊕ (Int32 × zS)) (h : fX11_finest_l7 T k0 x1 x2 x3 S = some r) (K1 : ∀ a : (Int32 × Int32 × Int32 × zS), r = .inl a → zg g 7 mX11_finest T 7 [some (.ref k0), some (.int a.1), some (.int a.2.1), some (.int a.2.2.1)] [] T a.2.2.2 v T S') (K2_0 : ∀ e : (Int32 × zS), r = .inr e → zg g 7 mX11_finest T 75 [none, some (.int e.1), none, none] [] T e.2 v T S') : zg g 7 mX11_finest T 7 [some (.ref k0), some (.int x1), some (.int x2), some (.int x3)] [] T S v T S' := by
  unfold fX11_finest_l7 at h
  refine z_iload_n dX11_finest_7 rfl ?_
  refine z_aload_n dX11_finest_8 rfl ?_
  refine z_gI (zF.x zfX11_121) h0.1 dX11_finest_9 ?_
  refine z_icmp_ge (tgt := 75) dX11_finest_12 (by decide) (fun q1 => ?_) (fun q1 => ?_)
  · rw [if_pos q1] at h
    cases h
    exact z_mask [false, true, false, false] rfl (K2_0 _ rfl)
  · rw [if_neg q1] at h
    refine z_iload_n dX11_finest_15 rfl ?_
    refine z_bipush dX11_finest_16 cB_6 ?_
    refine z_icmp_ge (tgt := 75) dX11_finest_18 (by decide) (fun q2 => ?_) (fun q2 => ?_)
    · rw [if_pos q2] at h
      cases h
      exact z_mask [false, true, false, false] rfl (K2_0 _ rfl)
    · rw [if_neg q2] at h
      refine z_aload_n dX11_finest_21 rfl ?_
      refine z_gR (zF.x zfX11_68) h0.1 dX11_finest_22 ?_
      refine z_aload_n dX11_finest_25 rfl ?_
      refine z_gA (zF.x zfX11_39) h0.1 dX11_finest_26 ?_
      refine z_iload_n dX11_finest_29 rfl ?_
      obtain ⟨q3, h⟩ := zgd_elim h
      refine z_aald h0.2.2.2.2.2.2.1.1 (by decide) (fun _ => rfl) (zin_ok q3) dX11_finest_30 ?_
      refine z_ldc2 znX11_199 dX11_finest_31 ?_
      obtain ⟨r4, S6, hc5, h⟩ := zb_elim h
      refine z_callV (As := [.ref (zr T (zr T k0 6) (x3 : Int32).toNatClampNeg), .long (-1)]) zcX4 zkX11_293 ziX4_liveByRule zqX4_liveByRule h0.2.2.2.2.2.2.2.2.2.2.2.1.1 (tX4_liveByRule T (zr T k0 12) (zr T (zr T k0 6) (x3 : Int32).toNatClampNeg) (-1) S h0.2.2.2.2.2.2.2.2.2.2.2.1 (h0.2.2.2.2.2.2.1.2 _ (zin_lt q3)) (r4, S6) hc5) rfl rfl (Nat.le_of_ble_eq_true rfl) (by decide) ⟨Nat.le_refl _, Nat.le_refl _⟩ ⟨Nat.le_refl _, Nat.le_refl _⟩ dX11_finest_34 ?_
      refine z_aload_n dX11_finest_37 rfl ?_
      refine z_gR (zF.x zfX11_68) h0.1 dX11_finest_38 ?_
      refine z_gI (zF.x zfX11_208) h0.2.2.2.2.2.2.2.2.2.2.2.1.1 dX11_finest_41 ?_
      refine z_iconst dX11_finest_44 cI_m1 ?_
      refine z_icmp_ne (tgt := 69) dX11_finest_45 (by decide) (fun q7 => ?_) (fun q7 => ?_)
      · rw [if_neg q7] at h
        exact z_mask [true, true, true, true] rfl (tX11_finest_b69 T k0 x1 x2 x3 S6 h0 r h K1 K2_0)
      · rw [if_pos q7] at h
        refine z_aload_n dX11_finest_48 rfl ?_
        refine z_gR (zF.x zfX11_68) h0.1 dX11_finest_49 ?_
        refine z_gI (zF.x zfX11_211) h0.2.2.2.2.2.2.2.2.2.2.2.1.1 dX11_finest_52 ?_
        refine z_iload_n dX11_finest_55 rfl ?_
        refine z_icmp_le (tgt := 69) dX11_finest_56 (by decide) (fun q9 => ?_) (fun q9 => ?_)
        · rw [if_pos q9] at h
          exact z_mask [true, true, true, true] rfl (tX11_finest_b69 T k0 x1 x2 x3 S6 h0 r h K1 K2_0)
        · rw [if_neg q9] at h
          refine z_aload_n dX11_finest_59 rfl ?_
          refine z_gR (zF.x zfX11_68) h0.1 dX11_finest_60 ?_
          refine z_gI (zF.x zfX11_211) h0.2.2.2.2.2.2.2.2.2.2.2.1.1 dX11_finest_63 ?_
          obtain ⟨u10, eu10, h⟩ := zlet_elim h
          refine z_ti eu10 ?_
          refine z_istore_n dX11_finest_66 rfl (by decide) rfl ?_
          refine z_iload_n dX11_finest_67 rfl ?_
          refine z_istore_n dX11_finest_68 rfl (by decide) rfl ?_
          exact z_mask [true, true, true, true] rfl (tX11_finest_b69 T k0 x3 u10 x3 S6 h0 r h K1 K2_0)
set_option maxHeartbeats 4000000 in
set_option maxRecDepth 100000 in
theorem tX11_finest_l7 (T : zT) (k0 : Nat) (h0 : iX11 T k0) {g : zG} {v : Option Value} {S' : zS} : ∀ (n : Nat) (a : (Int32 × Int32 × Int32 × zS)) (e : (Int32 × zS)), lpn (fun a => fX11_finest_l7 T k0 a.1 a.2.1 a.2.2.1 a.2.2.2) n a = some e → (∀ e1 : (Int32 × zS), e = e1 → zg g 7 mX11_finest T 75 [none, some (.int e1.1), none, none] [] T e1.2 v T S') → zg g 7 mX11_finest T 7 [some (.ref k0), some (.int a.1), some (.int a.2.1), some (.int a.2.2.1)] [] T a.2.2.2 v T S' := by
  intro n
  induction n with
  | zero =>
    intro a e h
    cases h
  | succ n ih =>
    intro a e h k0_
    rcases lpn_succ h with ⟨a1, ha_, hb_⟩ | ha_
    · exact tX11_finest_l7b T k0 a.1 a.2.1 a.2.2.1 a.2.2.2 h0 _ ha_ (fun a2 q => by cases q; exact ih a1 e hb_ k0_) (fun e1 q => by cases q)
    · exact tX11_finest_l7b T k0 a.1 a.2.1 a.2.2.1 a.2.2.2 h0 _ ha_ (fun a2 q => by cases q) (fun e1 q => by cases q; exact k0_ _ rfl)
set_option maxHeartbeats 4000000 in
set_option maxRecDepth 100000 in
theorem tX11_finest_b75 (T : zT) (x1 : Int32) (S : zS)  {g : zG} (r : (Int32 × zS)) (h : fX11_finest_b75 T x1 S = some r)  : zg g 7 mX11_finest T 75 [none, some (.int x1), none, none] [] T S (some (.int r.1)) T r.2 := by
  unfold fX11_finest_b75 at h
  refine z_iload_n dX11_finest_75 rfl ?_
  cases h
  exact z_iret rfl dX11_finest_76
set_option maxHeartbeats 4000000 in
set_option maxRecDepth 100000 in
theorem tX11_finest (T : zT) (k0 : Nat) (S : zS) (h0 : iX11 T k0) (r : Int32 × zS) (h : fX11_finest T k0 S = some r) : zGM 7 mX11_finest [.ref k0] T S (some (.int r.1)) T r.2 := by
  refine zGM_of zpnX11 rfl (Nat.le_of_ble_eq_true rfl) (fun g => ?_)
  show zg g 7 mX11_finest T 0 [some (.ref k0), none, none, none] [] T S (some (.int r.1)) T r.2
  unfold fX11_finest at h
  refine z_bipush dX11_finest_0 cB_m2 ?_
  refine z_istore_n dX11_finest_2 rfl (by decide) rfl ?_
  refine z_iconst dX11_finest_3 cI_m1 ?_
  refine z_istore_n dX11_finest_4 rfl (by decide) rfl ?_
  refine z_iconst dX11_finest_5 cI_0 ?_
  refine z_istore_n dX11_finest_6 rfl (by decide) rfl ?_
  obtain ⟨e11, hl12, h⟩ := zb1_elim h
  obtain ⟨nf13, hl12⟩ := lp_some hl12
  refine z_mask [true, true, true, true] rfl (tX11_finest_l7 T k0 h0 nf13 ((-2), (-1), 0, S) e11 hl12 (fun e_ q => ?_))
  · cases q
    exact z_mask [false, true, false, false] rfl (tX11_finest_b75 T e11.1 e11.2  r h)
/-! X11_parts -/
noncomputable def fX11_parts_b21 (T : zT)  (S : zS) : Option (Int32 × zS) :=
  some ((-1), S)
noncomputable def fX11_parts_b108 (T : zT) (k0 : Nat) (x3 : Int32) (x4 : Int32) (S : zS) : Option ((Int32 × Int32) ⊕ Int32) :=
  zlet (x4 + 1) fun u22 => some (.inl (x3, u22))
noncomputable def fX11_parts_l78 (T : zT) (k0 : Nat) (S : zS) (x3 : Int32) (x4 : Int32) : Option ((Int32 × Int32) ⊕ Int32) :=
  if 8 ≤ x4 then some (.inr x3) else zgd (zin x4 8) (zgd (zin x4 8) (if (S.1 (zr T k0 15) (x4 : Int32).toNatClampNeg) = (S.1 (zr T (zr T k0 12) 11) (x4 : Int32).toNatClampNeg) then fX11_parts_b108 T k0 x3 x4 S else zlet (x3 + 1) fun u23 => fX11_parts_b108 T k0 u23 x4 S))
noncomputable def fX11_parts (T : zT) (k0 : Nat) (x1 : Int32) (x2 : Int32) (S : zS) : Option (Int32 × zS) :=
  zb1 (fX11_isRule T k0 x1 S) fun r1 => if r1 = 0 then fX11_parts_b21 T  S else zb1 (fX11_isRule T k0 x2 S) fun r4 => if r4 = 0 then fX11_parts_b21 T  S else if x1 = x2 then fX11_parts_b21 T  S else zgd (zin x1 6) (zb (fX4_liveByRule T (zr T k0 12) (zr T (zr T k0 6) (x1 : Int32).toNatClampNeg) (-1) S) fun _ S11 => zgd (zcg 0 0 8 8 8) (zlet (zCp S11 (zr T (zr T k0 12) 11) (zr T k0 15) (0 : Int32).toNatClampNeg (0 : Int32).toNatClampNeg (8 : Int32).toNatClampNeg) fun S13 => zgd (zin x2 6) (zb (fX4_liveByRule T (zr T k0 12) (zr T (zr T k0 6) (x2 : Int32).toNatClampNeg) (-1) S13) fun _ S17 => zb1 (lp (fun a => fX11_parts_l78 T k0 S17 a.1 a.2) (0, 0)) fun e24 => some (e24, S17))))
set_option maxHeartbeats 4000000 in
set_option maxRecDepth 100000 in
theorem tX11_parts_b21 (T : zT)  (S : zS)  {g : zG} (r : (Int32 × zS)) (h : fX11_parts_b21 T  S = some r)  : zg g 7 mX11_parts T 21 [none, none, none, none, none] [] T S (some (.int r.1)) T r.2 := by
  unfold fX11_parts_b21 at h
  refine z_iconst dX11_parts_21 cI_m1 ?_
  cases h
  exact z_iret rfl dX11_parts_22
set_option maxHeartbeats 4000000 in
set_option maxRecDepth 100000 in
theorem tX11_parts_b108 (T : zT) (k0 : Nat) (x3 : Int32) (x4 : Int32) (S : zS) (h0 : iX11 T k0) {g : zG} {v : Option Value} {S' : zS} (r : ((Int32 × Int32) ⊕ Int32)) (h : fX11_parts_b108 T k0 x3 x4 S = some r) (K1 : ∀ a : (Int32 × Int32), r = .inl a → zg g 7 mX11_parts T 78 [some (.ref k0), none, none, some (.int a.1), some (.int a.2)] [] T S v T S') (K2_0 : ∀ e : Int32, r = .inr e → zg g 7 mX11_parts T 114 [none, none, none, some (.int e), none] [] T S v T S') : zg g 7 mX11_parts T 108 [some (.ref k0), none, none, some (.int x3), some (.int x4)] [] T S v T S' := by
  unfold fX11_parts_b108 at h
  obtain ⟨u22, eu22, h⟩ := zlet_elim h
  refine z_iinc (r := u22) dX11_parts_108 rfl (by rw [eu22, cI_1]) rfl (by decide) rfl ?_
  refine z_goto (tgt := 78) dX11_parts_111 (by decide) ?_
  cases h
  exact z_mask [true, false, false, true, true] rfl (K1 _ rfl)
set_option maxHeartbeats 4000000 in
set_option maxRecDepth 100000 in
theorem tX11_parts_l78b (T : zT) (k0 : Nat) (S : zS) (x3 : Int32) (x4 : Int32) (h0 : iX11 T k0) {g : zG} {v : Option Value} {S' : zS} (r : (Int32 × Int32) ⊕ Int32) (h : fX11_parts_l78 T k0 S x3 x4 = some r) (K1 : ∀ a : (Int32 × Int32), r = .inl a → zg g 7 mX11_parts T 78 [some (.ref k0), none, none, some (.int a.1), some (.int a.2)] [] T S v T S') (K2_0 : ∀ e : Int32, r = .inr e → zg g 7 mX11_parts T 114 [none, none, none, some (.int e), none] [] T S v T S') : zg g 7 mX11_parts T 78 [some (.ref k0), none, none, some (.int x3), some (.int x4)] [] T S v T S' := by
  unfold fX11_parts_l78 at h
  refine z_iload dX11_parts_78 rfl ?_
  refine z_bipush dX11_parts_80 cB_8 ?_
  refine z_icmp_ge (tgt := 114) dX11_parts_82 (by decide) (fun q18 => ?_) (fun q18 => ?_)
  · rw [if_pos q18] at h
    cases h
    exact z_mask [false, false, false, true, false] rfl (K2_0 _ rfl)
  · rw [if_neg q18] at h
    refine z_aload_n dX11_parts_85 rfl ?_
    refine z_gA (zF.x zfX11_86) h0.1 dX11_parts_86 ?_
    refine z_iload dX11_parts_89 rfl ?_
    obtain ⟨q19, h⟩ := zgd_elim h
    refine z_iald h0.2.2.2.2.2.2.2.2.2.2.2.2.2.2 (zin_ok q19) dX11_parts_91 ?_
    refine z_aload_n dX11_parts_92 rfl ?_
    refine z_gR (zF.x zfX11_68) h0.1 dX11_parts_93 ?_
    refine z_gA zfX11_297 h0.2.2.2.2.2.2.2.2.2.2.2.1.1 dX11_parts_96 ?_
    refine z_iload dX11_parts_99 rfl ?_
    obtain ⟨q20, h⟩ := zgd_elim h
    refine z_iald h0.2.2.2.2.2.2.2.2.2.2.2.1.2.2.2.2.2.2.1 (zin_ok q20) dX11_parts_101 ?_
    refine z_icmp_eq (tgt := 108) dX11_parts_102 (by decide) (fun q21 => ?_) (fun q21 => ?_)
    · rw [if_pos q21] at h
      exact z_mask [true, false, false, true, true] rfl (tX11_parts_b108 T k0 x3 x4 S h0 r h K1 K2_0)
    · rw [if_neg q21] at h
      obtain ⟨u23, eu23, h⟩ := zlet_elim h
      refine z_iinc (r := u23) dX11_parts_105 rfl (by rw [eu23, cI_1]) rfl (by decide) rfl ?_
      exact z_mask [true, false, false, true, true] rfl (tX11_parts_b108 T k0 u23 x4 S h0 r h K1 K2_0)
set_option maxHeartbeats 4000000 in
set_option maxRecDepth 100000 in
theorem tX11_parts_l78 (T : zT) (k0 : Nat) (S : zS) (h0 : iX11 T k0) {g : zG} {v : Option Value} {S' : zS} : ∀ (n : Nat) (a : (Int32 × Int32)) (e : Int32), lpn (fun a => fX11_parts_l78 T k0 S a.1 a.2) n a = some e → (∀ e1 : Int32, e = e1 → zg g 7 mX11_parts T 114 [none, none, none, some (.int e1), none] [] T S v T S') → zg g 7 mX11_parts T 78 [some (.ref k0), none, none, some (.int a.1), some (.int a.2)] [] T S v T S' := by
  intro n
  induction n with
  | zero =>
    intro a e h
    cases h
  | succ n ih =>
    intro a e h k0_
    rcases lpn_succ h with ⟨a1, ha_, hb_⟩ | ha_
    · exact tX11_parts_l78b T k0 S a.1 a.2 h0 _ ha_ (fun a2 q => by cases q; exact ih a1 e hb_ k0_) (fun e1 q => by cases q)
    · exact tX11_parts_l78b T k0 S a.1 a.2 h0 _ ha_ (fun a2 q => by cases q) (fun e1 q => by cases q; exact k0_ _ rfl)
set_option maxHeartbeats 4000000 in
set_option maxRecDepth 100000 in
theorem tX11_parts (T : zT) (k0 : Nat) (x1 : Int32) (x2 : Int32) (S : zS) (h0 : iX11 T k0) (r : Int32 × zS) (h : fX11_parts T k0 x1 x2 S = some r) : zGM 7 mX11_parts [.ref k0, .int x1, .int x2] T S (some (.int r.1)) T r.2 := by
  refine zGM_of zpnX11 rfl (Nat.le_of_ble_eq_true rfl) (fun g => ?_)
  show zg g 7 mX11_parts T 0 [some (.ref k0), some (.int x1), some (.int x2), none, none] [] T S (some (.int r.1)) T r.2
  unfold fX11_parts at h
  refine z_aload_n dX11_parts_0 rfl ?_
  refine z_iload_n dX11_parts_1 rfl ?_
  obtain ⟨r1, hc2, h⟩ := zb1_elim h
  refine z_callV (As := [.int x1]) zcX11 zkX11_282 ziX11_isRule zqX11_isRule h0.1 (tX11_isRule T k0 x1 S h0 r1 hc2) rfl rfl (Nat.le_of_ble_eq_true rfl) (by decide) ⟨Nat.le_refl _, Nat.le_refl _⟩ ⟨Nat.le_refl _, Nat.le_refl _⟩ dX11_parts_2 ?_
  refine z_if_eq (tgt := 21) dX11_parts_5 (by decide) (fun q3 => ?_) (fun q3 => ?_)
  · rw [if_pos q3] at h
    exact z_mask [false, false, false, false, false] rfl (tX11_parts_b21 T  S  r h)
  · rw [if_neg q3] at h
    refine z_aload_n dX11_parts_8 rfl ?_
    refine z_iload_n dX11_parts_9 rfl ?_
    obtain ⟨r4, hc5, h⟩ := zb1_elim h
    refine z_callV (As := [.int x2]) zcX11 zkX11_282 ziX11_isRule zqX11_isRule h0.1 (tX11_isRule T k0 x2 S h0 r4 hc5) rfl rfl (Nat.le_of_ble_eq_true rfl) (by decide) ⟨Nat.le_refl _, Nat.le_refl _⟩ ⟨Nat.le_refl _, Nat.le_refl _⟩ dX11_parts_10 ?_
    refine z_if_eq (tgt := 21) dX11_parts_13 (by decide) (fun q6 => ?_) (fun q6 => ?_)
    · rw [if_pos q6] at h
      exact z_mask [false, false, false, false, false] rfl (tX11_parts_b21 T  S  r h)
    · rw [if_neg q6] at h
      refine z_iload_n dX11_parts_16 rfl ?_
      refine z_iload_n dX11_parts_17 rfl ?_
      refine z_icmp_ne (tgt := 23) dX11_parts_18 (by decide) (fun q7 => ?_) (fun q7 => ?_)
      · rw [if_neg q7] at h
        refine z_aload_n dX11_parts_23 rfl ?_
        refine z_gR (zF.x zfX11_68) h0.1 dX11_parts_24 ?_
        refine z_aload_n dX11_parts_27 rfl ?_
        refine z_gA (zF.x zfX11_39) h0.1 dX11_parts_28 ?_
        refine z_iload_n dX11_parts_31 rfl ?_
        obtain ⟨q8, h⟩ := zgd_elim h
        refine z_aald h0.2.2.2.2.2.2.1.1 (by decide) (fun _ => rfl) (zin_ok q8) dX11_parts_32 ?_
        refine z_ldc2 znX11_199 dX11_parts_33 ?_
        obtain ⟨r9, S11, hc10, h⟩ := zb_elim h
        refine z_callV (As := [.ref (zr T (zr T k0 6) (x1 : Int32).toNatClampNeg), .long (-1)]) zcX4 zkX11_293 ziX4_liveByRule zqX4_liveByRule h0.2.2.2.2.2.2.2.2.2.2.2.1.1 (tX4_liveByRule T (zr T k0 12) (zr T (zr T k0 6) (x1 : Int32).toNatClampNeg) (-1) S h0.2.2.2.2.2.2.2.2.2.2.2.1 (h0.2.2.2.2.2.2.1.2 _ (zin_lt q8)) (r9, S11) hc10) rfl rfl (Nat.le_of_ble_eq_true rfl) (by decide) ⟨Nat.le_refl _, Nat.le_refl _⟩ ⟨Nat.le_refl _, Nat.le_refl _⟩ dX11_parts_36 ?_
        refine z_aload_n dX11_parts_39 rfl ?_
        refine z_gR (zF.x zfX11_68) h0.1 dX11_parts_40 ?_
        refine z_gA zfX11_297 h0.2.2.2.2.2.2.2.2.2.2.2.1.1 dX11_parts_43 ?_
        refine z_iconst dX11_parts_46 cI_0 ?_
        refine z_aload_n dX11_parts_47 rfl ?_
        refine z_gA (zF.x zfX11_86) h0.1 dX11_parts_48 ?_
        refine z_iconst dX11_parts_51 cI_0 ?_
        refine z_bipush dX11_parts_52 cB_8 ?_
        obtain ⟨q12, h⟩ := zgd_elim h
        obtain ⟨q12a, q12b, q12c, q12d, q12e⟩ := zcg_ok q12
        refine z_copy zxX11_298 zcp_native zcp_static zjJ10 h0.2.2.2.2.2.2.2.2.2.2.2.1.2.2.2.2.2.2.1 h0.2.2.2.2.2.2.2.2.2.2.2.2.2.2 q12a q12b q12c q12d q12e (by decide) (Nat.le_of_ble_eq_true rfl) dX11_parts_54 ?_
        obtain ⟨S13, eS13, h⟩ := zlet_elim h
        refine z_tS eS13 ?_
        refine z_aload_n dX11_parts_57 rfl ?_
        refine z_gR (zF.x zfX11_68) h0.1 dX11_parts_58 ?_
        refine z_aload_n dX11_parts_61 rfl ?_
        refine z_gA (zF.x zfX11_39) h0.1 dX11_parts_62 ?_
        refine z_iload_n dX11_parts_65 rfl ?_
        obtain ⟨q14, h⟩ := zgd_elim h
        refine z_aald h0.2.2.2.2.2.2.1.1 (by decide) (fun _ => rfl) (zin_ok q14) dX11_parts_66 ?_
        refine z_ldc2 znX11_199 dX11_parts_67 ?_
        obtain ⟨r15, S17, hc16, h⟩ := zb_elim h
        refine z_callV (As := [.ref (zr T (zr T k0 6) (x2 : Int32).toNatClampNeg), .long (-1)]) zcX4 zkX11_293 ziX4_liveByRule zqX4_liveByRule h0.2.2.2.2.2.2.2.2.2.2.2.1.1 (tX4_liveByRule T (zr T k0 12) (zr T (zr T k0 6) (x2 : Int32).toNatClampNeg) (-1) S13 h0.2.2.2.2.2.2.2.2.2.2.2.1 (h0.2.2.2.2.2.2.1.2 _ (zin_lt q14)) (r15, S17) hc16) rfl rfl (Nat.le_of_ble_eq_true rfl) (by decide) ⟨Nat.le_refl _, Nat.le_refl _⟩ ⟨Nat.le_refl _, Nat.le_refl _⟩ dX11_parts_70 ?_
        refine z_iconst dX11_parts_73 cI_0 ?_
        refine z_istore_n dX11_parts_74 rfl (by decide) rfl ?_
        refine z_iconst dX11_parts_75 cI_0 ?_
        refine z_istore dX11_parts_76 rfl (by decide) rfl ?_
        obtain ⟨e24, hl25, h⟩ := zb1_elim h
        obtain ⟨nf26, hl25⟩ := lp_some hl25
        refine z_mask [true, false, false, true, true] rfl (tX11_parts_l78 T k0 S17 h0 nf26 (0, 0) e24 hl25 (fun e_ q => ?_))
        · cases q
          refine z_iload_n dX11_parts_114 rfl ?_
          cases h
          exact z_iret rfl dX11_parts_115
      · rw [if_pos q7] at h
        exact z_mask [false, false, false, false, false] rfl (tX11_parts_b21 T  S  r h)
/-! X11_goes -/
noncomputable def fX11_goes_b16 (T : zT)  (S : zS) : Option (Int32 × zS) :=
  some ((-1), S)
noncomputable def fX11_goes_b103 (T : zT) (k0 : Nat) (x1 : Int32) (x3 : Int32) (x4 : Int32) (x5 : Int32) (S : zS) : Option ((Int32 × Int32 × zS) ⊕ (Int32 × zS)) :=
  zlet (x5 + 1) fun u19 => some (.inl (x4, u19, S))
noncomputable def fX11_goes_l33 (T : zT) (k0 : Nat) (x1 : Int32) (x3 : Int32) (x4 : Int32) (x5 : Int32) (S : zS) : Option ((Int32 × Int32 × zS) ⊕ (Int32 × zS)) :=
  if x3 ≤ x5 then some (.inr (x4, S)) else zgd (zin x1 6) (zb (fX3_work T (zr T k0 14) (S.1 (zr T k0 3) 1) (S.1 (zr T k0 3) 3) S) fun r10 S12 => zb (fX4_liveByRule T (zr T k0 12) (zr T (zr T k0 6) (x1 : Int32).toNatClampNeg) r10 S12) fun _ S15 => zb1 (fX4_isWell T (zr T k0 12) S15) fun r16 => if r16 = 0 then fX11_goes_b103 T k0 x1 x3 x4 x5 S15 else if (S15.1 (zr T k0 12) 4) = (S15.1 (zr T k0 3) 0) then zlet (x4 + 1) fun u21 => fX11_goes_b103 T k0 x1 x3 u21 x5 S15 else fX11_goes_b103 T k0 x1 x3 x4 x5 S15)
noncomputable def fX11_goes (T : zT) (k0 : Nat) (x1 : Int32) (x2 : Int32) (x3 : Int32) (S : zS) : Option (Int32 × zS) :=
  zb1 (fX11_isRule T k0 x1 S) fun r1 => if r1 = 0 then fX11_goes_b16 T  S else zb1 (fX11_isDrawable T x2 x3 S) fun r4 => if r4 = 0 then fX11_goes_b16 T  S else zlet (zJ S (zr T k0 14) 0 ((x2 : Int32).toInt64)) fun S7 => zb1 (lp (fun a => fX11_goes_l33 T k0 x1 x3 a.1 a.2.1 a.2.2) (0, 0, S7)) fun e22 => some (e22.1, e22.2)
set_option maxHeartbeats 4000000 in
set_option maxRecDepth 100000 in
theorem tX11_goes_b16 (T : zT)  (S : zS)  {g : zG} (r : (Int32 × zS)) (h : fX11_goes_b16 T  S = some r)  : zg g 7 mX11_goes T 16 [none, none, none, none, none, none] [] T S (some (.int r.1)) T r.2 := by
  unfold fX11_goes_b16 at h
  refine z_iconst dX11_goes_16 cI_m1 ?_
  cases h
  exact z_iret rfl dX11_goes_17
set_option maxHeartbeats 4000000 in
set_option maxRecDepth 100000 in
theorem tX11_goes_b103 (T : zT) (k0 : Nat) (x1 : Int32) (x3 : Int32) (x4 : Int32) (x5 : Int32) (S : zS) (h0 : iX11 T k0) {g : zG} {v : Option Value} {S' : zS} (r : ((Int32 × Int32 × zS) ⊕ (Int32 × zS))) (h : fX11_goes_b103 T k0 x1 x3 x4 x5 S = some r) (K1 : ∀ a : (Int32 × Int32 × zS), r = .inl a → zg g 7 mX11_goes T 33 [some (.ref k0), some (.int x1), none, some (.int x3), some (.int a.1), some (.int a.2.1)] [] T a.2.2 v T S') (K2_0 : ∀ e : (Int32 × zS), r = .inr e → zg g 7 mX11_goes T 109 [none, none, none, none, some (.int e.1), none] [] T e.2 v T S') : zg g 7 mX11_goes T 103 [some (.ref k0), some (.int x1), none, some (.int x3), some (.int x4), some (.int x5)] [] T S v T S' := by
  unfold fX11_goes_b103 at h
  obtain ⟨u19, eu19, h⟩ := zlet_elim h
  refine z_iinc (r := u19) dX11_goes_103 rfl (by rw [eu19, cI_1]) rfl (by decide) rfl ?_
  refine z_goto (tgt := 33) dX11_goes_106 (by decide) ?_
  cases h
  exact z_mask [true, true, false, true, true, true] rfl (K1 _ rfl)
set_option maxHeartbeats 4000000 in
set_option maxRecDepth 100000 in
theorem tX11_goes_l33b (T : zT) (k0 : Nat) (x1 : Int32) (x3 : Int32) (x4 : Int32) (x5 : Int32) (S : zS) (h0 : iX11 T k0) {g : zG} {v : Option Value} {S' : zS} (r : (Int32 × Int32 × zS) ⊕ (Int32 × zS)) (h : fX11_goes_l33 T k0 x1 x3 x4 x5 S = some r) (K1 : ∀ a : (Int32 × Int32 × zS), r = .inl a → zg g 7 mX11_goes T 33 [some (.ref k0), some (.int x1), none, some (.int x3), some (.int a.1), some (.int a.2.1)] [] T a.2.2 v T S') (K2_0 : ∀ e : (Int32 × zS), r = .inr e → zg g 7 mX11_goes T 109 [none, none, none, none, some (.int e.1), none] [] T e.2 v T S') : zg g 7 mX11_goes T 33 [some (.ref k0), some (.int x1), none, some (.int x3), some (.int x4), some (.int x5)] [] T S v T S' := by
  unfold fX11_goes_l33 at h
  refine z_iload dX11_goes_33 rfl ?_
  refine z_iload_n dX11_goes_35 rfl ?_
  refine z_icmp_ge (tgt := 109) dX11_goes_36 (by decide) (fun q8 => ?_) (fun q8 => ?_)
  · rw [if_pos q8] at h
    cases h
    exact z_mask [false, false, false, false, true, false] rfl (K2_0 _ rfl)
  · rw [if_neg q8] at h
    refine z_aload_n dX11_goes_39 rfl ?_
    refine z_gR (zF.x zfX11_68) h0.1 dX11_goes_40 ?_
    refine z_aload_n dX11_goes_43 rfl ?_
    refine z_gA (zF.x zfX11_39) h0.1 dX11_goes_44 ?_
    refine z_iload_n dX11_goes_47 rfl ?_
    obtain ⟨q9, h⟩ := zgd_elim h
    refine z_aald h0.2.2.2.2.2.2.1.1 (by decide) (fun _ => rfl) (zin_ok q9) dX11_goes_48 ?_
    refine z_aload_n dX11_goes_49 rfl ?_
    refine z_gR (zF.x zfX11_82) h0.1 dX11_goes_50 ?_
    refine z_aload_n dX11_goes_53 rfl ?_
    refine z_gR (zF.x zfX11_23) h0.1 dX11_goes_54 ?_
    refine z_gI (zF.x zfX11_150) h0.2.2.2.1.1 dX11_goes_57 ?_
    refine z_aload_n dX11_goes_60 rfl ?_
    refine z_gR (zF.x zfX11_23) h0.1 dX11_goes_61 ?_
    refine z_gI (zF.x zfX11_156) h0.2.2.2.1.1 dX11_goes_64 ?_
    obtain ⟨r10, S12, hc11, h⟩ := zb_elim h
    refine z_callV (As := [.int (S.1 (zr T k0 3) 1), .int (S.1 (zr T k0 3) 3)]) zcX3 zkX11_312 ziX3_work zqX3_work h0.2.2.2.2.2.2.2.2.2.2.2.2.2.1.1 (tX3_work T (zr T k0 14) (S.1 (zr T k0 3) 1) (S.1 (zr T k0 3) 3) S h0.2.2.2.2.2.2.2.2.2.2.2.2.2.1 (r10, S12) hc11) rfl rfl (Nat.le_of_ble_eq_true rfl) (by decide) ⟨Nat.le_refl _, Nat.le_refl _⟩ ⟨Nat.le_refl _, Nat.le_refl _⟩ dX11_goes_67 ?_
    obtain ⟨r13, S15, hc14, h⟩ := zb_elim h
    refine z_callV (As := [.ref (zr T (zr T k0 6) (x1 : Int32).toNatClampNeg), .long r10]) zcX4 zkX11_293 ziX4_liveByRule zqX4_liveByRule h0.2.2.2.2.2.2.2.2.2.2.2.1.1 (tX4_liveByRule T (zr T k0 12) (zr T (zr T k0 6) (x1 : Int32).toNatClampNeg) r10 S12 h0.2.2.2.2.2.2.2.2.2.2.2.1 (h0.2.2.2.2.2.2.1.2 _ (zin_lt q9)) (r13, S15) hc14) rfl rfl (Nat.le_of_ble_eq_true rfl) (by decide) ⟨Nat.le_refl _, Nat.le_refl _⟩ ⟨Nat.le_refl _, Nat.le_refl _⟩ dX11_goes_70 ?_
    refine z_aload_n dX11_goes_73 rfl ?_
    refine z_gR (zF.x zfX11_68) h0.1 dX11_goes_74 ?_
    obtain ⟨r16, hc17, h⟩ := zb1_elim h
    refine z_callV (As := []) zcX4 zkX11_316 ziX4_isWell zqX4_isWell h0.2.2.2.2.2.2.2.2.2.2.2.1.1 (tX4_isWell T (zr T k0 12) S15 h0.2.2.2.2.2.2.2.2.2.2.2.1 r16 hc17) rfl rfl (Nat.le_of_ble_eq_true rfl) (by decide) ⟨Nat.le_refl _, Nat.le_refl _⟩ ⟨Nat.le_refl _, Nat.le_refl _⟩ dX11_goes_77 ?_
    refine z_if_eq (tgt := 103) dX11_goes_80 (by decide) (fun q18 => ?_) (fun q18 => ?_)
    · rw [if_pos q18] at h
      exact z_mask [true, true, false, true, true, true] rfl (tX11_goes_b103 T k0 x1 x3 x4 x5 S15 h0 r h K1 K2_0)
    · rw [if_neg q18] at h
      refine z_aload_n dX11_goes_83 rfl ?_
      refine z_gR (zF.x zfX11_68) h0.1 dX11_goes_84 ?_
      refine z_gI (zF.x zfX11_212) h0.2.2.2.2.2.2.2.2.2.2.2.1.1 dX11_goes_87 ?_
      refine z_aload_n dX11_goes_90 rfl ?_
      refine z_gR (zF.x zfX11_23) h0.1 dX11_goes_91 ?_
      refine z_gI (zF.x zfX11_112) h0.2.2.2.1.1 dX11_goes_94 ?_
      refine z_icmp_ne (tgt := 103) dX11_goes_97 (by decide) (fun q20 => ?_) (fun q20 => ?_)
      · rw [if_neg q20] at h
        exact z_mask [true, true, false, true, true, true] rfl (tX11_goes_b103 T k0 x1 x3 x4 x5 S15 h0 r h K1 K2_0)
      · rw [if_pos q20] at h
        obtain ⟨u21, eu21, h⟩ := zlet_elim h
        refine z_iinc (r := u21) dX11_goes_100 rfl (by rw [eu21, cI_1]) rfl (by decide) rfl ?_
        exact z_mask [true, true, false, true, true, true] rfl (tX11_goes_b103 T k0 x1 x3 u21 x5 S15 h0 r h K1 K2_0)
set_option maxHeartbeats 4000000 in
set_option maxRecDepth 100000 in
theorem tX11_goes_l33 (T : zT) (k0 : Nat) (x1 : Int32) (x3 : Int32) (h0 : iX11 T k0) {g : zG} {v : Option Value} {S' : zS} : ∀ (n : Nat) (a : (Int32 × Int32 × zS)) (e : (Int32 × zS)), lpn (fun a => fX11_goes_l33 T k0 x1 x3 a.1 a.2.1 a.2.2) n a = some e → (∀ e1 : (Int32 × zS), e = e1 → zg g 7 mX11_goes T 109 [none, none, none, none, some (.int e1.1), none] [] T e1.2 v T S') → zg g 7 mX11_goes T 33 [some (.ref k0), some (.int x1), none, some (.int x3), some (.int a.1), some (.int a.2.1)] [] T a.2.2 v T S' := by
  intro n
  induction n with
  | zero =>
    intro a e h
    cases h
  | succ n ih =>
    intro a e h k0_
    rcases lpn_succ h with ⟨a1, ha_, hb_⟩ | ha_
    · exact tX11_goes_l33b T k0 x1 x3 a.1 a.2.1 a.2.2 h0 _ ha_ (fun a2 q => by cases q; exact ih a1 e hb_ k0_) (fun e1 q => by cases q)
    · exact tX11_goes_l33b T k0 x1 x3 a.1 a.2.1 a.2.2 h0 _ ha_ (fun a2 q => by cases q) (fun e1 q => by cases q; exact k0_ _ rfl)
set_option maxHeartbeats 4000000 in
set_option maxRecDepth 100000 in
theorem tX11_goes (T : zT) (k0 : Nat) (x1 : Int32) (x2 : Int32) (x3 : Int32) (S : zS) (h0 : iX11 T k0) (r : Int32 × zS) (h : fX11_goes T k0 x1 x2 x3 S = some r) : zGM 7 mX11_goes [.ref k0, .int x1, .int x2, .int x3] T S (some (.int r.1)) T r.2 := by
  refine zGM_of zpnX11 rfl (Nat.le_of_ble_eq_true rfl) (fun g => ?_)
  show zg g 7 mX11_goes T 0 [some (.ref k0), some (.int x1), some (.int x2), some (.int x3), none, none] [] T S (some (.int r.1)) T r.2
  unfold fX11_goes at h
  refine z_aload_n dX11_goes_0 rfl ?_
  refine z_iload_n dX11_goes_1 rfl ?_
  obtain ⟨r1, hc2, h⟩ := zb1_elim h
  refine z_callV (As := [.int x1]) zcX11 zkX11_282 ziX11_isRule zqX11_isRule h0.1 (tX11_isRule T k0 x1 S h0 r1 hc2) rfl rfl (Nat.le_of_ble_eq_true rfl) (by decide) ⟨Nat.le_refl _, Nat.le_refl _⟩ ⟨Nat.le_refl _, Nat.le_refl _⟩ dX11_goes_2 ?_
  refine z_if_eq (tgt := 16) dX11_goes_5 (by decide) (fun q3 => ?_) (fun q3 => ?_)
  · rw [if_pos q3] at h
    exact z_mask [false, false, false, false, false, false] rfl (tX11_goes_b16 T  S  r h)
  · rw [if_neg q3] at h
    refine z_iload_n dX11_goes_8 rfl ?_
    refine z_iload_n dX11_goes_9 rfl ?_
    obtain ⟨r4, hc5, h⟩ := zb1_elim h
    refine z_callS (As := [.int x2, .int x3]) zkX11_304 zsX11_isDrawable (tX11_isDrawable T x2 x3 S  r4 hc5) rfl rfl (Nat.le_of_ble_eq_true rfl) (by decide) ⟨Nat.le_refl _, Nat.le_refl _⟩ ⟨Nat.le_refl _, Nat.le_refl _⟩ dX11_goes_10 ?_
    refine z_if_ne (tgt := 18) dX11_goes_13 (by decide) (fun q6 => ?_) (fun q6 => ?_)
    · rw [if_neg q6] at h
      refine z_aload_n dX11_goes_18 rfl ?_
      refine z_gR (zF.x zfX11_82) h0.1 dX11_goes_19 ?_
      refine z_iload_n dX11_goes_22 rfl ?_
      refine z_i2l dX11_goes_23 rfl ?_
      refine z_putJ zfX11_308 h0.2.2.2.2.2.2.2.2.2.2.2.2.2.1.1 dX11_goes_24 ?_
      obtain ⟨S7, eS7, h⟩ := zlet_elim h
      refine z_tS eS7 ?_
      refine z_iconst dX11_goes_27 cI_0 ?_
      refine z_istore dX11_goes_28 rfl (by decide) rfl ?_
      refine z_iconst dX11_goes_30 cI_0 ?_
      refine z_istore dX11_goes_31 rfl (by decide) rfl ?_
      obtain ⟨e22, hl23, h⟩ := zb1_elim h
      obtain ⟨nf24, hl23⟩ := lp_some hl23
      refine z_mask [true, true, false, true, true, true] rfl (tX11_goes_l33 T k0 x1 x3 h0 nf24 (0, 0, S7) e22 hl23 (fun e_ q => ?_))
      · cases q
        refine z_iload dX11_goes_109 rfl ?_
        cases h
        exact z_iret rfl dX11_goes_111
    · rw [if_pos q6] at h
      exact z_mask [false, false, false, false, false, false] rfl (tX11_goes_b16 T  S  r h)
