/-! X1_add -/
noncomputable def fX1_add_b49 (T : zT)  (S : zS) : Option (Unit × zS) :=
  some ((), S)
noncomputable def fX1_add (T : zT) (k0 : Nat) (x1 : Int32) (x2 : Int32) (x3 : Int32) (S : zS) : Option (Unit × zS) :=
  if 24 ≤ (S.1 k0 3) then fX1_add_b49 T  S else zgd (zin (S.1 k0 3) 24) (zlet (zI S (zr T k0 0) ((S.1 k0 3) : Int32).toNatClampNeg x1) fun S3 => zgd (zin (S3.1 k0 3) 24) (zlet (zI S3 (zr T k0 1) ((S3.1 k0 3) : Int32).toNatClampNeg x2) fun S5 => zgd (zin (S5.1 k0 3) 24) (zlet (zI S5 (zr T k0 2) ((S5.1 k0 3) : Int32).toNatClampNeg x3) fun S7 => zlet (zI S7 k0 3 ((S7.1 k0 3) + 1)) fun S8 => fX1_add_b49 T  S8)))
set_option maxHeartbeats 4000000 in
set_option maxRecDepth 100000 in
theorem tX1_add_b49 (T : zT)  (S : zS)  {g : zG} (r : (Unit × zS)) (h : fX1_add_b49 T  S = some r)  : zg g 0 mX1_add T 49 [none, none, none, none] [] T S none T r.2 := by
  unfold fX1_add_b49 at h
  cases h
  exact z_vret rfl dX1_add_49
set_option maxHeartbeats 4000000 in
set_option maxRecDepth 100000 in
theorem tX1_add (T : zT) (k0 : Nat) (x1 : Int32) (x2 : Int32) (x3 : Int32) (S : zS) (h0 : iX1 T k0) (r : Unit × zS) (h : fX1_add T k0 x1 x2 x3 S = some r) : zGM 0 mX1_add [.ref k0, .int x1, .int x2, .int x3] T S none T r.2 := by
  refine zGM_of zpnX1 rfl (Nat.le_of_ble_eq_true rfl) (fun g => ?_)
  show zg g 0 mX1_add T 0 [some (.ref k0), some (.int x1), some (.int x2), some (.int x3)] [] T S none T r.2
  unfold fX1_add at h
  refine z_aload_n dX1_add_0 rfl ?_
  refine z_gI (zF.x zfX1_27) h0.1 dX1_add_1 ?_
  refine z_bipush dX1_add_4 cB_24 ?_
  refine z_icmp_ge (tgt := 49) dX1_add_6 (by decide) (fun q1 => ?_) (fun q1 => ?_)
  · rw [if_pos q1] at h
    exact z_mask [false, false, false, false] rfl (tX1_add_b49 T  S  r h)
  · rw [if_neg q1] at h
    refine z_aload_n dX1_add_9 rfl ?_
    refine z_gA (zF.x zfX1_9) h0.1 dX1_add_10 ?_
    refine z_aload_n dX1_add_13 rfl ?_
    refine z_gI (zF.x zfX1_27) h0.1 dX1_add_14 ?_
    refine z_iload_n dX1_add_17 rfl ?_
    obtain ⟨q2, h⟩ := zgd_elim h
    refine z_iast h0.2.1 (zin_ok q2) dX1_add_18 ?_
    obtain ⟨S3, eS3, h⟩ := zlet_elim h
    refine z_tS eS3 ?_
    refine z_aload_n dX1_add_19 rfl ?_
    refine z_gA (zF.x zfX1_15) h0.1 dX1_add_20 ?_
    refine z_aload_n dX1_add_23 rfl ?_
    refine z_gI (zF.x zfX1_27) h0.1 dX1_add_24 ?_
    refine z_iload_n dX1_add_27 rfl ?_
    obtain ⟨q4, h⟩ := zgd_elim h
    refine z_iast h0.2.2.1 (zin_ok q4) dX1_add_28 ?_
    obtain ⟨S5, eS5, h⟩ := zlet_elim h
    refine z_tS eS5 ?_
    refine z_aload_n dX1_add_29 rfl ?_
    refine z_gA (zF.x zfX1_18) h0.1 dX1_add_30 ?_
    refine z_aload_n dX1_add_33 rfl ?_
    refine z_gI (zF.x zfX1_27) h0.1 dX1_add_34 ?_
    refine z_iload_n dX1_add_37 rfl ?_
    obtain ⟨q6, h⟩ := zgd_elim h
    refine z_iast h0.2.2.2 (zin_ok q6) dX1_add_38 ?_
    obtain ⟨S7, eS7, h⟩ := zlet_elim h
    refine z_tS eS7 ?_
    refine z_aload_n dX1_add_39 rfl ?_
    refine z_dup dX1_add_40 rfl ?_
    refine z_gI (zF.x zfX1_27) h0.1 dX1_add_41 ?_
    refine z_iconst dX1_add_44 cI_1 ?_
    refine z_iadd dX1_add_45 rfl ?_
    refine z_putI zfX1_27 h0.1 dX1_add_46 ?_
    obtain ⟨S8, eS8, h⟩ := zlet_elim h
    refine z_tS eS8 ?_
    exact z_mask [false, false, false, false] rfl (tX1_add_b49 T  S8  r h)
/-! X1_together -/
noncomputable def fX1_together_b54 (T : zT) (k0 : Nat) (x1 : Int32) (x2 : Int32) (x3 : Int32) (x4 : Int32) (S : zS) : Option ((Int32 × Int32) ⊕ Int32) :=
  zlet (x4 + 1) fun u4 => some (.inl (x3, u4))
noncomputable def fX1_together_l5 (T : zT) (k0 : Nat) (x1 : Int32) (x2 : Int32) (S : zS) (x3 : Int32) (x4 : Int32) : Option ((Int32 × Int32) ⊕ Int32) :=
  if (S.1 k0 3) ≤ x4 then some (.inr x3) else if 24 ≤ x4 then some (.inr x3) else if ((x1 >>> (x4 &&& 31)) &&& 1) = 0 then fX1_together_b54 T k0 x1 x2 x3 x4 S else zgd (zin x4 24) (if ((S.1 (zr T k0 0) (x4 : Int32).toNatClampNeg) &&& (x2 ^^^ (-1))) = 0 then zgd (zin x4 24) (zlet (x3 + (S.1 (zr T k0 1) (x4 : Int32).toNatClampNeg)) fun u8 => fX1_together_b54 T k0 x1 x2 u8 x4 S) else fX1_together_b54 T k0 x1 x2 x3 x4 S)
noncomputable def fX1_together_b60 (T : zT) (x3 : Int32) (S : zS) : Option Int32 :=
  some x3
noncomputable def fX1_together (T : zT) (k0 : Nat) (x1 : Int32) (x2 : Int32) (S : zS) : Option Int32 :=
  zb1 (lp (fun a => fX1_together_l5 T k0 x1 x2 S a.1 a.2) (0, 0)) fun e9 => fX1_together_b60 T e9 S
set_option maxHeartbeats 4000000 in
set_option maxRecDepth 100000 in
theorem tX1_together_b54 (T : zT) (k0 : Nat) (x1 : Int32) (x2 : Int32) (x3 : Int32) (x4 : Int32) (S : zS) (h0 : iX1 T k0) {g : zG} {v : Option Value} {S' : zS} (r : ((Int32 × Int32) ⊕ Int32)) (h : fX1_together_b54 T k0 x1 x2 x3 x4 S = some r) (K1 : ∀ a : (Int32 × Int32), r = .inl a → zg g 0 mX1_together T 5 [some (.ref k0), some (.int x1), some (.int x2), some (.int a.1), some (.int a.2)] [] T S v T S') (K2_0 : ∀ e : Int32, r = .inr e → zg g 0 mX1_together T 60 [none, none, none, some (.int e), none] [] T S v T S') : zg g 0 mX1_together T 54 [some (.ref k0), some (.int x1), some (.int x2), some (.int x3), some (.int x4)] [] T S v T S' := by
  unfold fX1_together_b54 at h
  obtain ⟨u4, eu4, h⟩ := zlet_elim h
  refine z_iinc (r := u4) dX1_together_54 rfl (by rw [eu4, cI_1]) rfl (by decide) rfl ?_
  refine z_goto (tgt := 5) dX1_together_57 (by decide) ?_
  cases h
  exact z_mask [true, true, true, true, true] rfl (K1 _ rfl)
set_option maxHeartbeats 4000000 in
set_option maxRecDepth 100000 in
theorem tX1_together_l5b (T : zT) (k0 : Nat) (x1 : Int32) (x2 : Int32) (S : zS) (x3 : Int32) (x4 : Int32) (h0 : iX1 T k0) {g : zG} {v : Option Value} {S' : zS} (r : (Int32 × Int32) ⊕ Int32) (h : fX1_together_l5 T k0 x1 x2 S x3 x4 = some r) (K1 : ∀ a : (Int32 × Int32), r = .inl a → zg g 0 mX1_together T 5 [some (.ref k0), some (.int x1), some (.int x2), some (.int a.1), some (.int a.2)] [] T S v T S') (K2_0 : ∀ e : Int32, r = .inr e → zg g 0 mX1_together T 60 [none, none, none, some (.int e), none] [] T S v T S') : zg g 0 mX1_together T 5 [some (.ref k0), some (.int x1), some (.int x2), some (.int x3), some (.int x4)] [] T S v T S' := by
  unfold fX1_together_l5 at h
  refine z_iload dX1_together_5 rfl ?_
  refine z_aload_n dX1_together_7 rfl ?_
  refine z_gI (zF.x zfX1_27) h0.1 dX1_together_8 ?_
  refine z_icmp_ge (tgt := 60) dX1_together_11 (by decide) (fun q1 => ?_) (fun q1 => ?_)
  · rw [if_pos q1] at h
    cases h
    exact z_mask [false, false, false, true, false] rfl (K2_0 _ rfl)
  · rw [if_neg q1] at h
    refine z_iload dX1_together_14 rfl ?_
    refine z_bipush dX1_together_16 cB_24 ?_
    refine z_icmp_ge (tgt := 60) dX1_together_18 (by decide) (fun q2 => ?_) (fun q2 => ?_)
    · rw [if_pos q2] at h
      cases h
      exact z_mask [false, false, false, true, false] rfl (K2_0 _ rfl)
    · rw [if_neg q2] at h
      refine z_iload_n dX1_together_21 rfl ?_
      refine z_iload dX1_together_22 rfl ?_
      refine z_ishr dX1_together_24 rfl ?_
      refine z_iconst dX1_together_25 cI_1 ?_
      refine z_iand dX1_together_26 rfl ?_
      refine z_if_eq (tgt := 54) dX1_together_27 (by decide) (fun q3 => ?_) (fun q3 => ?_)
      · rw [if_pos q3] at h
        exact z_mask [true, true, true, true, true] rfl (tX1_together_b54 T k0 x1 x2 x3 x4 S h0 r h K1 K2_0)
      · rw [if_neg q3] at h
        refine z_aload_n dX1_together_30 rfl ?_
        refine z_gA (zF.x zfX1_9) h0.1 dX1_together_31 ?_
        refine z_iload dX1_together_34 rfl ?_
        obtain ⟨q5, h⟩ := zgd_elim h
        refine z_iald h0.2.1 (zin_ok q5) dX1_together_36 ?_
        refine z_iload_n dX1_together_37 rfl ?_
        refine z_iconst dX1_together_38 cI_m1 ?_
        refine z_ixor dX1_together_39 rfl ?_
        refine z_iand dX1_together_40 rfl ?_
        refine z_if_ne (tgt := 54) dX1_together_41 (by decide) (fun q6 => ?_) (fun q6 => ?_)
        · rw [if_neg q6] at h
          exact z_mask [true, true, true, true, true] rfl (tX1_together_b54 T k0 x1 x2 x3 x4 S h0 r h K1 K2_0)
        · rw [if_pos q6] at h
          refine z_iload_n dX1_together_44 rfl ?_
          refine z_aload_n dX1_together_45 rfl ?_
          refine z_gA (zF.x zfX1_15) h0.1 dX1_together_46 ?_
          refine z_iload dX1_together_49 rfl ?_
          obtain ⟨q7, h⟩ := zgd_elim h
          refine z_iald h0.2.2.1 (zin_ok q7) dX1_together_51 ?_
          refine z_iadd dX1_together_52 rfl ?_
          obtain ⟨u8, eu8, h⟩ := zlet_elim h
          refine z_ti eu8 ?_
          refine z_istore_n dX1_together_53 rfl (by decide) rfl ?_
          exact z_mask [true, true, true, true, true] rfl (tX1_together_b54 T k0 x1 x2 u8 x4 S h0 r h K1 K2_0)
set_option maxHeartbeats 4000000 in
set_option maxRecDepth 100000 in
theorem tX1_together_l5 (T : zT) (k0 : Nat) (x1 : Int32) (x2 : Int32) (S : zS) (h0 : iX1 T k0) {g : zG} {v : Option Value} {S' : zS} : ∀ (n : Nat) (a : (Int32 × Int32)) (e : Int32), lpn (fun a => fX1_together_l5 T k0 x1 x2 S a.1 a.2) n a = some e → (∀ e1 : Int32, e = e1 → zg g 0 mX1_together T 60 [none, none, none, some (.int e1), none] [] T S v T S') → zg g 0 mX1_together T 5 [some (.ref k0), some (.int x1), some (.int x2), some (.int a.1), some (.int a.2)] [] T S v T S' := by
  intro n
  induction n with
  | zero =>
    intro a e h
    cases h
  | succ n ih =>
    intro a e h k0_
    rcases lpn_succ h with ⟨a1, ha_, hb_⟩ | ha_
    · exact tX1_together_l5b T k0 x1 x2 S a.1 a.2 h0 _ ha_ (fun a2 q => by cases q; exact ih a1 e hb_ k0_) (fun e1 q => by cases q)
    · exact tX1_together_l5b T k0 x1 x2 S a.1 a.2 h0 _ ha_ (fun a2 q => by cases q) (fun e1 q => by cases q; exact k0_ _ rfl)
set_option maxHeartbeats 4000000 in
set_option maxRecDepth 100000 in
theorem tX1_together_b60 (T : zT) (x3 : Int32) (S : zS)  {g : zG} (r : Int32) (h : fX1_together_b60 T x3 S = some r)  : zg g 0 mX1_together T 60 [none, none, none, some (.int x3), none] [] T S (some (.int r)) T S := by
  unfold fX1_together_b60 at h
  refine z_iload_n dX1_together_60 rfl ?_
  cases h
  exact z_iret rfl dX1_together_61
set_option maxHeartbeats 4000000 in
set_option maxRecDepth 100000 in
theorem tX1_together (T : zT) (k0 : Nat) (x1 : Int32) (x2 : Int32) (S : zS) (h0 : iX1 T k0) (r : Int32) (h : fX1_together T k0 x1 x2 S = some r) : zGM 0 mX1_together [.ref k0, .int x1, .int x2] T S (some (.int r)) T S := by
  refine zGM_of zpnX1 rfl (Nat.le_of_ble_eq_true rfl) (fun g => ?_)
  show zg g 0 mX1_together T 0 [some (.ref k0), some (.int x1), some (.int x2), none, none] [] T S (some (.int r)) T S
  unfold fX1_together at h
  refine z_iconst dX1_together_0 cI_0 ?_
  refine z_istore_n dX1_together_1 rfl (by decide) rfl ?_
  refine z_iconst dX1_together_2 cI_0 ?_
  refine z_istore dX1_together_3 rfl (by decide) rfl ?_
  obtain ⟨e9, hl10, h⟩ := zb1_elim h
  obtain ⟨nf11, hl10⟩ := lp_some hl10
  refine z_mask [true, true, true, true, true] rfl (tX1_together_l5 T k0 x1 x2 S h0 nf11 (0, 0) e9 hl10 (fun e_ q => ?_))
  · cases q
    exact z_mask [false, false, false, true, false] rfl (tX1_together_b60 T e9 S  r h)
/-! X2_clear -/
noncomputable def fX2_clear (T : zT) (k0 : Nat) (S : zS) : Option (Unit × zS) :=
  zlet (zI S k0 1 0) fun S1 => zlet (zI S1 k0 2 0) fun S2 => some ((), S2)
set_option maxHeartbeats 4000000 in
set_option maxRecDepth 100000 in
theorem tX2_clear (T : zT) (k0 : Nat) (S : zS) (h0 : iX2 T k0) (r : Unit × zS) (h : fX2_clear T k0 S = some r) : zGM 0 mX2_clear [.ref k0] T S none T r.2 := by
  refine zGM_of zpnX2 rfl (Nat.le_of_ble_eq_true rfl) (fun g => ?_)
  show zg g 0 mX2_clear T 0 [some (.ref k0)] [] T S none T r.2
  unfold fX2_clear at h
  refine z_aload_n dX2_clear_0 rfl ?_
  refine z_iconst dX2_clear_1 cI_0 ?_
  refine z_putI zfX2_15 h0.1 dX2_clear_2 ?_
  obtain ⟨S1, eS1, h⟩ := zlet_elim h
  refine z_tS eS1 ?_
  refine z_aload_n dX2_clear_5 rfl ?_
  refine z_iconst dX2_clear_6 cI_0 ?_
  refine z_putI zfX2_19 h0.1 dX2_clear_7 ?_
  obtain ⟨S2, eS2, h⟩ := zlet_elim h
  refine z_tS eS2 ?_
  cases h
  exact z_vret rfl dX2_clear_10
/-! X2_add -/
noncomputable def fX2_add_b56 (T : zT)  (S : zS) : Option (Unit × zS) :=
  some ((), S)
noncomputable def fX2_add_b38 (T : zT) (k0 : Nat) (x1 : Int32) (x2 : Int32) (S : zS) : Option (Unit × zS) :=
  if x1 = 47 then zlet (zI S k0 2 ((S.1 k0 2) ||| (1 <<< (x2 &&& 31)))) fun S3 => fX2_add_b56 T  S3 else fX2_add_b56 T  S
noncomputable def fX2_add (T : zT) (k0 : Nat) (x1 : Int32) (x2 : Int32) (S : zS) : Option (Unit × zS) :=
  if 512 ≤ (S.1 k0 1) then fX2_add_b38 T k0 x1 x2 S else zgd (zin (S.1 k0 1) 512) (zlet (zI S (zr T k0 0) ((S.1 k0 1) : Int32).toNatClampNeg ((x1 <<< (17 &&& 31)) ||| (x2 &&& 131071))) fun S5 => zlet (zI S5 k0 1 ((S5.1 k0 1) + 1)) fun S6 => fX2_add_b38 T k0 x1 x2 S6)
set_option maxHeartbeats 4000000 in
set_option maxRecDepth 100000 in
theorem tX2_add_b56 (T : zT)  (S : zS)  {g : zG} (r : (Unit × zS)) (h : fX2_add_b56 T  S = some r)  : zg g 0 mX2_add T 56 [none, none, none] [] T S none T r.2 := by
  unfold fX2_add_b56 at h
  cases h
  exact z_vret rfl dX2_add_56
set_option maxHeartbeats 4000000 in
set_option maxRecDepth 100000 in
theorem tX2_add_b38 (T : zT) (k0 : Nat) (x1 : Int32) (x2 : Int32) (S : zS) (h0 : iX2 T k0) {g : zG} (r : (Unit × zS)) (h : fX2_add_b38 T k0 x1 x2 S = some r)  : zg g 0 mX2_add T 38 [some (.ref k0), some (.int x1), some (.int x2)] [] T S none T r.2 := by
  unfold fX2_add_b38 at h
  refine z_iload_n dX2_add_38 rfl ?_
  refine z_bipush dX2_add_39 cB_47 ?_
  refine z_icmp_ne (tgt := 56) dX2_add_41 (by decide) (fun q2 => ?_) (fun q2 => ?_)
  · rw [if_neg q2] at h
    exact z_mask [false, false, false] rfl (tX2_add_b56 T  S  r h)
  · rw [if_pos q2] at h
    refine z_aload_n dX2_add_44 rfl ?_
    refine z_dup dX2_add_45 rfl ?_
    refine z_gI (zF.x zfX2_19) h0.1 dX2_add_46 ?_
    refine z_iconst dX2_add_49 cI_1 ?_
    refine z_iload_n dX2_add_50 rfl ?_
    refine z_ishl dX2_add_51 rfl ?_
    refine z_ior dX2_add_52 rfl ?_
    refine z_putI zfX2_19 h0.1 dX2_add_53 ?_
    obtain ⟨S3, eS3, h⟩ := zlet_elim h
    refine z_tS eS3 ?_
    exact z_mask [false, false, false] rfl (tX2_add_b56 T  S3  r h)
set_option maxHeartbeats 4000000 in
set_option maxRecDepth 100000 in
theorem tX2_add (T : zT) (k0 : Nat) (x1 : Int32) (x2 : Int32) (S : zS) (h0 : iX2 T k0) (r : Unit × zS) (h : fX2_add T k0 x1 x2 S = some r) : zGM 0 mX2_add [.ref k0, .int x1, .int x2] T S none T r.2 := by
  refine zGM_of zpnX2 rfl (Nat.le_of_ble_eq_true rfl) (fun g => ?_)
  show zg g 0 mX2_add T 0 [some (.ref k0), some (.int x1), some (.int x2)] [] T S none T r.2
  unfold fX2_add at h
  refine z_aload_n dX2_add_0 rfl ?_
  refine z_gI (zF.x zfX2_15) h0.1 dX2_add_1 ?_
  refine z_sipush dX2_add_4 cS_512 ?_
  refine z_icmp_ge (tgt := 38) dX2_add_7 (by decide) (fun q1 => ?_) (fun q1 => ?_)
  · rw [if_pos q1] at h
    exact z_mask [true, true, true] rfl (tX2_add_b38 T k0 x1 x2 S h0 r h)
  · rw [if_neg q1] at h
    refine z_aload_n dX2_add_10 rfl ?_
    refine z_gA (zF.x zfX2_9) h0.1 dX2_add_11 ?_
    refine z_aload_n dX2_add_14 rfl ?_
    refine z_gI (zF.x zfX2_15) h0.1 dX2_add_15 ?_
    refine z_iload_n dX2_add_18 rfl ?_
    refine z_bipush dX2_add_19 cB_17 ?_
    refine z_ishl dX2_add_21 rfl ?_
    refine z_iload_n dX2_add_22 rfl ?_
    refine z_ldc znX2_28 dX2_add_23 ?_
    refine z_iand dX2_add_25 rfl ?_
    refine z_ior dX2_add_26 rfl ?_
    obtain ⟨q4, h⟩ := zgd_elim h
    refine z_iast h0.2 (zin_ok q4) dX2_add_27 ?_
    obtain ⟨S5, eS5, h⟩ := zlet_elim h
    refine z_tS eS5 ?_
    refine z_aload_n dX2_add_28 rfl ?_
    refine z_dup dX2_add_29 rfl ?_
    refine z_gI (zF.x zfX2_15) h0.1 dX2_add_30 ?_
    refine z_iconst dX2_add_33 cI_1 ?_
    refine z_iadd dX2_add_34 rfl ?_
    refine z_putI zfX2_15 h0.1 dX2_add_35 ?_
    obtain ⟨S6, eS6, h⟩ := zlet_elim h
    refine z_tS eS6 ?_
    exact z_mask [true, true, true] rfl (tX2_add_b38 T k0 x1 x2 S6 h0 r h)
/-! X2_kindAt -/
noncomputable def fX2_kindAt_b26 (T : zT) (s0 : Int32) (S : zS) : Option Int32 :=
  some s0
noncomputable def fX2_kindAt_b24 (T : zT)  (S : zS) : Option Int32 :=
  fX2_kindAt_b26 T 48 S
noncomputable def fX2_kindAt (T : zT) (k0 : Nat) (x1 : Int32) (S : zS) : Option Int32 :=
  if x1 < 0 then fX2_kindAt_b24 T  S else if (S.1 k0 1) ≤ x1 then fX2_kindAt_b24 T  S else zgd (zin x1 512) (fX2_kindAt_b26 T ((S.1 (zr T k0 0) (x1 : Int32).toNatClampNeg) >>> (17 &&& 31)) S)
set_option maxHeartbeats 4000000 in
set_option maxRecDepth 100000 in
theorem tX2_kindAt_b26 (T : zT) (s0 : Int32) (S : zS)  {g : zG} (r : Int32) (h : fX2_kindAt_b26 T s0 S = some r)  : zg g 0 mX2_kindAt T 26 [none, none] [.int s0] T S (some (.int r)) T S := by
  unfold fX2_kindAt_b26 at h
  cases h
  exact z_iret rfl dX2_kindAt_26
set_option maxHeartbeats 4000000 in
set_option maxRecDepth 100000 in
theorem tX2_kindAt_b24 (T : zT)  (S : zS)  {g : zG} (r : Int32) (h : fX2_kindAt_b24 T  S = some r)  : zg g 0 mX2_kindAt T 24 [none, none] [] T S (some (.int r)) T S := by
  unfold fX2_kindAt_b24 at h
  refine z_bipush dX2_kindAt_24 cB_48 ?_
  exact z_mask [false, false] rfl (tX2_kindAt_b26 T 48 S  r h)
set_option maxHeartbeats 4000000 in
set_option maxRecDepth 100000 in
theorem tX2_kindAt (T : zT) (k0 : Nat) (x1 : Int32) (S : zS) (h0 : iX2 T k0) (r : Int32) (h : fX2_kindAt T k0 x1 S = some r) : zGM 0 mX2_kindAt [.ref k0, .int x1] T S (some (.int r)) T S := by
  refine zGM_of zpnX2 rfl (Nat.le_of_ble_eq_true rfl) (fun g => ?_)
  show zg g 0 mX2_kindAt T 0 [some (.ref k0), some (.int x1)] [] T S (some (.int r)) T S
  unfold fX2_kindAt at h
  refine z_iload_n dX2_kindAt_0 rfl ?_
  refine z_if_lt (tgt := 24) dX2_kindAt_1 (by decide) (fun q1 => ?_) (fun q1 => ?_)
  · rw [if_pos q1] at h
    exact z_mask [false, false] rfl (tX2_kindAt_b24 T  S  r h)
  · rw [if_neg q1] at h
    refine z_iload_n dX2_kindAt_4 rfl ?_
    refine z_aload_n dX2_kindAt_5 rfl ?_
    refine z_gI (zF.x zfX2_15) h0.1 dX2_kindAt_6 ?_
    refine z_icmp_ge (tgt := 24) dX2_kindAt_9 (by decide) (fun q2 => ?_) (fun q2 => ?_)
    · rw [if_pos q2] at h
      exact z_mask [false, false] rfl (tX2_kindAt_b24 T  S  r h)
    · rw [if_neg q2] at h
      refine z_aload_n dX2_kindAt_12 rfl ?_
      refine z_gA (zF.x zfX2_9) h0.1 dX2_kindAt_13 ?_
      refine z_iload_n dX2_kindAt_16 rfl ?_
      obtain ⟨q3, h⟩ := zgd_elim h
      refine z_iald h0.2 (zin_ok q3) dX2_kindAt_17 ?_
      refine z_bipush dX2_kindAt_18 cB_17 ?_
      refine z_ishr dX2_kindAt_20 rfl ?_
      refine z_goto (tgt := 26) dX2_kindAt_21 (by decide) ?_
      exact z_mask [false, false] rfl (tX2_kindAt_b26 T ((S.1 (zr T k0 0) (x1 : Int32).toNatClampNeg) >>> (17 &&& 31)) S  r h)
/-! X2_numberAt -/
noncomputable def fX2_numberAt_b25 (T : zT) (s0 : Int32) (S : zS) : Option Int32 :=
  some s0
noncomputable def fX2_numberAt_b24 (T : zT)  (S : zS) : Option Int32 :=
  fX2_numberAt_b25 T 0 S
noncomputable def fX2_numberAt (T : zT) (k0 : Nat) (x1 : Int32) (S : zS) : Option Int32 :=
  if x1 < 0 then fX2_numberAt_b24 T  S else if (S.1 k0 1) ≤ x1 then fX2_numberAt_b24 T  S else zgd (zin x1 512) (fX2_numberAt_b25 T ((S.1 (zr T k0 0) (x1 : Int32).toNatClampNeg) &&& 131071) S)
set_option maxHeartbeats 4000000 in
set_option maxRecDepth 100000 in
theorem tX2_numberAt_b25 (T : zT) (s0 : Int32) (S : zS)  {g : zG} (r : Int32) (h : fX2_numberAt_b25 T s0 S = some r)  : zg g 0 mX2_numberAt T 25 [none, none] [.int s0] T S (some (.int r)) T S := by
  unfold fX2_numberAt_b25 at h
  cases h
  exact z_iret rfl dX2_numberAt_25
set_option maxHeartbeats 4000000 in
set_option maxRecDepth 100000 in
theorem tX2_numberAt_b24 (T : zT)  (S : zS)  {g : zG} (r : Int32) (h : fX2_numberAt_b24 T  S = some r)  : zg g 0 mX2_numberAt T 24 [none, none] [] T S (some (.int r)) T S := by
  unfold fX2_numberAt_b24 at h
  refine z_iconst dX2_numberAt_24 cI_0 ?_
  exact z_mask [false, false] rfl (tX2_numberAt_b25 T 0 S  r h)
set_option maxHeartbeats 4000000 in
set_option maxRecDepth 100000 in
theorem tX2_numberAt (T : zT) (k0 : Nat) (x1 : Int32) (S : zS) (h0 : iX2 T k0) (r : Int32) (h : fX2_numberAt T k0 x1 S = some r) : zGM 0 mX2_numberAt [.ref k0, .int x1] T S (some (.int r)) T S := by
  refine zGM_of zpnX2 rfl (Nat.le_of_ble_eq_true rfl) (fun g => ?_)
  show zg g 0 mX2_numberAt T 0 [some (.ref k0), some (.int x1)] [] T S (some (.int r)) T S
  unfold fX2_numberAt at h
  refine z_iload_n dX2_numberAt_0 rfl ?_
  refine z_if_lt (tgt := 24) dX2_numberAt_1 (by decide) (fun q1 => ?_) (fun q1 => ?_)
  · rw [if_pos q1] at h
    exact z_mask [false, false] rfl (tX2_numberAt_b24 T  S  r h)
  · rw [if_neg q1] at h
    refine z_iload_n dX2_numberAt_4 rfl ?_
    refine z_aload_n dX2_numberAt_5 rfl ?_
    refine z_gI (zF.x zfX2_15) h0.1 dX2_numberAt_6 ?_
    refine z_icmp_ge (tgt := 24) dX2_numberAt_9 (by decide) (fun q2 => ?_) (fun q2 => ?_)
    · rw [if_pos q2] at h
      exact z_mask [false, false] rfl (tX2_numberAt_b24 T  S  r h)
    · rw [if_neg q2] at h
      refine z_aload_n dX2_numberAt_12 rfl ?_
      refine z_gA (zF.x zfX2_9) h0.1 dX2_numberAt_13 ?_
      refine z_iload_n dX2_numberAt_16 rfl ?_
      obtain ⟨q3, h⟩ := zgd_elim h
      refine z_iald h0.2 (zin_ok q3) dX2_numberAt_17 ?_
      refine z_ldc znX2_28 dX2_numberAt_18 ?_
      refine z_iand dX2_numberAt_20 rfl ?_
      refine z_goto (tgt := 25) dX2_numberAt_21 (by decide) ?_
      exact z_mask [false, false] rfl (tX2_numberAt_b25 T ((S.1 (zr T k0 0) (x1 : Int32).toNatClampNeg) &&& 131071) S  r h)
/-! X2_asks -/
noncomputable def fX2_asks_b16 (T : zT) (s0 : Int32) (S : zS) : Option Int32 :=
  zgd (zbl s0) (some s0)
noncomputable def fX2_asks (T : zT) (k0 : Nat) (x1 : Int32) (S : zS) : Option Int32 :=
  if (((S.1 k0 2) >>> (x1 &&& 31)) &&& 1) = 0 then fX2_asks_b16 T 0 S else fX2_asks_b16 T 1 S
set_option maxHeartbeats 4000000 in
set_option maxRecDepth 100000 in
theorem tX2_asks_b16 (T : zT) (s0 : Int32) (S : zS)  {g : zG} (r : Int32) (h : fX2_asks_b16 T s0 S = some r)  : zg g 0 mX2_asks T 16 [none, none] [.int s0] T S (some (.int r)) T S := by
  unfold fX2_asks_b16 at h
  obtain ⟨q2, h⟩ := zgd_elim h
  cases h
  exact z_zret rfl (zbl_ok q2) dX2_asks_16
set_option maxHeartbeats 4000000 in
set_option maxRecDepth 100000 in
theorem tX2_asks (T : zT) (k0 : Nat) (x1 : Int32) (S : zS) (h0 : iX2 T k0) (r : Int32) (h : fX2_asks T k0 x1 S = some r) : zGM 0 mX2_asks [.ref k0, .int x1] T S (some (.int r)) T S := by
  refine zGM_of zpnX2 rfl (Nat.le_of_ble_eq_true rfl) (fun g => ?_)
  show zg g 0 mX2_asks T 0 [some (.ref k0), some (.int x1)] [] T S (some (.int r)) T S
  unfold fX2_asks at h
  refine z_aload_n dX2_asks_0 rfl ?_
  refine z_gI (zF.x zfX2_19) h0.1 dX2_asks_1 ?_
  refine z_iload_n dX2_asks_4 rfl ?_
  refine z_ishr dX2_asks_5 rfl ?_
  refine z_iconst dX2_asks_6 cI_1 ?_
  refine z_iand dX2_asks_7 rfl ?_
  refine z_if_eq (tgt := 15) dX2_asks_8 (by decide) (fun q1 => ?_) (fun q1 => ?_)
  · rw [if_pos q1] at h
    refine z_iconst dX2_asks_15 cI_0 ?_
    exact z_mask [false, false] rfl (tX2_asks_b16 T 0 S  r h)
  · rw [if_neg q1] at h
    refine z_iconst dX2_asks_11 cI_1 ?_
    refine z_goto (tgt := 16) dX2_asks_12 (by decide) ?_
    exact z_mask [false, false] rfl (tX2_asks_b16 T 1 S  r h)
/-! X3_work -/
noncomputable def fX3_work_b56 (T : zT) (k0 : Nat) (x1 : Int32) (x2 : Int32) (l3 : Int64) (x5 : Int32) (S : zS) : Option ((Int64 × Int32 × zS) ⊕ (Int64 × zS)) :=
  zlet (x5 + 1) fun u4 => some (.inl (l3, u4, S))
noncomputable def fX3_work_l5 (T : zT) (k0 : Nat) (x1 : Int32) (x2 : Int32) (l3 : Int64) (x5 : Int32) (S : zS) : Option ((Int64 × Int32 × zS) ⊕ (Int64 × zS)) :=
  if x1 ≤ x5 then some (.inr (l3, S)) else zlet (zJ S k0 0 ((((S.2 k0 0) * 1103515245) + 12345) - (((S.2 k0 0) * 1103515245) + 12345) / 2147483648 * 2147483648)) fun S2 => if 0 ≤ (lg_cmp (((S2.2 k0 0) / 65536) - ((S2.2 k0 0) / 65536) / 1000 * 1000) ((x2 : Int32).toInt64)) then fX3_work_b56 T k0 x1 x2 l3 x5 S2 else zlet (l3 ||| (1 <<< ((x5 : Int32).toInt64 &&& 63))) fun w5 => fX3_work_b56 T k0 x1 x2 w5 x5 S2
noncomputable def fX3_work (T : zT) (k0 : Nat) (x1 : Int32) (x2 : Int32) (S : zS) : Option (Int64 × zS) :=
  zb1 (lp (fun a => fX3_work_l5 T k0 x1 x2 a.1 a.2.1 a.2.2) (0, 0, S)) fun e6 => some (e6.1, e6.2)
set_option maxHeartbeats 4000000 in
set_option maxRecDepth 100000 in
theorem tX3_work_b56 (T : zT) (k0 : Nat) (x1 : Int32) (x2 : Int32) (l3 : Int64) (x5 : Int32) (S : zS) (h0 : iX3 T k0) {g : zG} {v : Option Value} {S' : zS} (r : ((Int64 × Int32 × zS) ⊕ (Int64 × zS))) (h : fX3_work_b56 T k0 x1 x2 l3 x5 S = some r) (K1 : ∀ a : (Int64 × Int32 × zS), r = .inl a → zg g 0 mX3_work T 5 [some (.ref k0), some (.int x1), some (.int x2), some (.long a.1), none, some (.int a.2.1)] [] T a.2.2 v T S') (K2_0 : ∀ e : (Int64 × zS), r = .inr e → zg g 0 mX3_work T 62 [none, none, none, some (.long e.1), none, none] [] T e.2 v T S') : zg g 0 mX3_work T 56 [some (.ref k0), some (.int x1), some (.int x2), some (.long l3), none, some (.int x5)] [] T S v T S' := by
  unfold fX3_work_b56 at h
  obtain ⟨u4, eu4, h⟩ := zlet_elim h
  refine z_iinc (r := u4) dX3_work_56 rfl (by rw [eu4, cI_1]) rfl (by decide) rfl ?_
  refine z_goto (tgt := 5) dX3_work_59 (by decide) ?_
  cases h
  exact z_mask [true, true, true, true, false, true] rfl (K1 _ rfl)
set_option maxHeartbeats 4000000 in
set_option maxRecDepth 100000 in
theorem tX3_work_l5b (T : zT) (k0 : Nat) (x1 : Int32) (x2 : Int32) (l3 : Int64) (x5 : Int32) (S : zS) (h0 : iX3 T k0) {g : zG} {v : Option Value} {S' : zS} (r : (Int64 × Int32 × zS) ⊕ (Int64 × zS)) (h : fX3_work_l5 T k0 x1 x2 l3 x5 S = some r) (K1 : ∀ a : (Int64 × Int32 × zS), r = .inl a → zg g 0 mX3_work T 5 [some (.ref k0), some (.int x1), some (.int x2), some (.long a.1), none, some (.int a.2.1)] [] T a.2.2 v T S') (K2_0 : ∀ e : (Int64 × zS), r = .inr e → zg g 0 mX3_work T 62 [none, none, none, some (.long e.1), none, none] [] T e.2 v T S') : zg g 0 mX3_work T 5 [some (.ref k0), some (.int x1), some (.int x2), some (.long l3), none, some (.int x5)] [] T S v T S' := by
  unfold fX3_work_l5 at h
  refine z_iload dX3_work_5 rfl ?_
  refine z_iload_n dX3_work_7 rfl ?_
  refine z_icmp_ge (tgt := 62) dX3_work_8 (by decide) (fun q1 => ?_) (fun q1 => ?_)
  · rw [if_pos q1] at h
    cases h
    exact z_mask [false, false, false, true, false, false] rfl (K2_0 _ rfl)
  · rw [if_neg q1] at h
    refine z_aload_n dX3_work_11 rfl ?_
    refine z_aload_n dX3_work_12 rfl ?_
    refine z_gJ (zF.x zfX3_9) h0.1 dX3_work_13 ?_
    refine z_ldc2 znX3_15 dX3_work_16 ?_
    refine z_lmul dX3_work_19 rfl ?_
    refine z_ldc2 znX3_17 dX3_work_20 ?_
    refine z_ladd dX3_work_23 rfl ?_
    refine z_ldc2 znX3_19 dX3_work_24 ?_
    refine z_lrem dX3_work_27 (by decide) rfl ?_
    refine z_putJ zfX3_9 h0.1 dX3_work_28 ?_
    obtain ⟨S2, eS2, h⟩ := zlet_elim h
    refine z_tS eS2 ?_
    refine z_aload_n dX3_work_31 rfl ?_
    refine z_gJ (zF.x zfX3_9) h0.1 dX3_work_32 ?_
    refine z_ldc2 znX3_21 dX3_work_35 ?_
    refine z_ldiv dX3_work_38 (by decide) rfl ?_
    refine z_ldc2 znX3_23 dX3_work_39 ?_
    refine z_lrem dX3_work_42 (by decide) rfl ?_
    refine z_iload_n dX3_work_43 rfl ?_
    refine z_i2l dX3_work_44 rfl ?_
    refine z_lcmp dX3_work_45 rfl ?_
    refine z_if_ge (tgt := 56) dX3_work_46 (by decide) (fun q3 => ?_) (fun q3 => ?_)
    · rw [if_pos q3] at h
      exact z_mask [true, true, true, true, false, true] rfl (tX3_work_b56 T k0 x1 x2 l3 x5 S2 h0 r h K1 K2_0)
    · rw [if_neg q3] at h
      refine z_lload_n dX3_work_49 rfl ?_
      refine z_lconst (r := 1) dX3_work_50 rfl ?_
      refine z_iload dX3_work_51 rfl ?_
      refine z_lshl dX3_work_53 rfl ?_
      refine z_lor dX3_work_54 rfl ?_
      obtain ⟨w5, ew5, h⟩ := zlet_elim h
      refine z_tl ew5 ?_
      refine z_lstore_n dX3_work_55 rfl (by decide) rfl ?_
      exact z_mask [true, true, true, true, false, true] rfl (tX3_work_b56 T k0 x1 x2 w5 x5 S2 h0 r h K1 K2_0)
set_option maxHeartbeats 4000000 in
set_option maxRecDepth 100000 in
theorem tX3_work_l5 (T : zT) (k0 : Nat) (x1 : Int32) (x2 : Int32) (h0 : iX3 T k0) {g : zG} {v : Option Value} {S' : zS} : ∀ (n : Nat) (a : (Int64 × Int32 × zS)) (e : (Int64 × zS)), lpn (fun a => fX3_work_l5 T k0 x1 x2 a.1 a.2.1 a.2.2) n a = some e → (∀ e1 : (Int64 × zS), e = e1 → zg g 0 mX3_work T 62 [none, none, none, some (.long e1.1), none, none] [] T e1.2 v T S') → zg g 0 mX3_work T 5 [some (.ref k0), some (.int x1), some (.int x2), some (.long a.1), none, some (.int a.2.1)] [] T a.2.2 v T S' := by
  intro n
  induction n with
  | zero =>
    intro a e h
    cases h
  | succ n ih =>
    intro a e h k0_
    rcases lpn_succ h with ⟨a1, ha_, hb_⟩ | ha_
    · exact tX3_work_l5b T k0 x1 x2 a.1 a.2.1 a.2.2 h0 _ ha_ (fun a2 q => by cases q; exact ih a1 e hb_ k0_) (fun e1 q => by cases q)
    · exact tX3_work_l5b T k0 x1 x2 a.1 a.2.1 a.2.2 h0 _ ha_ (fun a2 q => by cases q) (fun e1 q => by cases q; exact k0_ _ rfl)
set_option maxHeartbeats 4000000 in
set_option maxRecDepth 100000 in
theorem tX3_work (T : zT) (k0 : Nat) (x1 : Int32) (x2 : Int32) (S : zS) (h0 : iX3 T k0) (r : Int64 × zS) (h : fX3_work T k0 x1 x2 S = some r) : zGM 0 mX3_work [.ref k0, .int x1, .int x2] T S (some (.long r.1)) T r.2 := by
  refine zGM_of zpnX3 rfl (Nat.le_of_ble_eq_true rfl) (fun g => ?_)
  show zg g 0 mX3_work T 0 [some (.ref k0), some (.int x1), some (.int x2), none, none, none] [] T S (some (.long r.1)) T r.2
  unfold fX3_work at h
  refine z_lconst (r := 0) dX3_work_0 rfl ?_
  refine z_lstore_n dX3_work_1 rfl (by decide) rfl ?_
  refine z_iconst dX3_work_2 cI_0 ?_
  refine z_istore dX3_work_3 rfl (by decide) rfl ?_
  obtain ⟨e6, hl7, h⟩ := zb1_elim h
  obtain ⟨nf8, hl7⟩ := lp_some hl7
  refine z_mask [true, true, true, true, false, true] rfl (tX3_work_l5 T k0 x1 x2 h0 nf8 (0, 0, S) e6 hl7 (fun e_ q => ?_))
  · cases q
    refine z_lload_n dX3_work_62 rfl ?_
    cases h
    exact z_lret rfl dX3_work_63
/-! X7_canTake -/
noncomputable def fX7_canTake_b36 (T : zT) (s0 : Int32) (S : zS) : Option Int32 :=
  zgd (zbl s0) (some s0)
noncomputable def fX7_canTake_b35 (T : zT)  (S : zS) : Option Int32 :=
  fX7_canTake_b36 T 0 S
noncomputable def fX7_canTake_b31 (T : zT)  (S : zS) : Option Int32 :=
  fX7_canTake_b36 T 1 S
noncomputable def fX7_canTake (T : zT) (k0 : Nat) (x1 : Int32) (S : zS) : Option Int32 :=
  if 60 ≤ (S.1 k0 3) then fX7_canTake_b35 T  S else if (S.1 k0 3) = 0 then fX7_canTake_b31 T  S else zgd (zin ((S.1 k0 3) - 1) 60) (if x1 < (S.1 (zr T k0 0) (((S.1 k0 3) - 1) : Int32).toNatClampNeg) then fX7_canTake_b35 T  S else fX7_canTake_b31 T  S)
set_option maxHeartbeats 4000000 in
set_option maxRecDepth 100000 in
theorem tX7_canTake_b36 (T : zT) (s0 : Int32) (S : zS)  {g : zG} (r : Int32) (h : fX7_canTake_b36 T s0 S = some r)  : zg g 0 mX7_canTake T 36 [none, none] [.int s0] T S (some (.int r)) T S := by
  unfold fX7_canTake_b36 at h
  obtain ⟨q2, h⟩ := zgd_elim h
  cases h
  exact z_zret rfl (zbl_ok q2) dX7_canTake_36
set_option maxHeartbeats 4000000 in
set_option maxRecDepth 100000 in
theorem tX7_canTake_b35 (T : zT)  (S : zS)  {g : zG} (r : Int32) (h : fX7_canTake_b35 T  S = some r)  : zg g 0 mX7_canTake T 35 [none, none] [] T S (some (.int r)) T S := by
  unfold fX7_canTake_b35 at h
  refine z_iconst dX7_canTake_35 cI_0 ?_
  exact z_mask [false, false] rfl (tX7_canTake_b36 T 0 S  r h)
set_option maxHeartbeats 4000000 in
set_option maxRecDepth 100000 in
theorem tX7_canTake_b31 (T : zT)  (S : zS)  {g : zG} (r : Int32) (h : fX7_canTake_b31 T  S = some r)  : zg g 0 mX7_canTake T 31 [none, none] [] T S (some (.int r)) T S := by
  unfold fX7_canTake_b31 at h
  refine z_iconst dX7_canTake_31 cI_1 ?_
  refine z_goto (tgt := 36) dX7_canTake_32 (by decide) ?_
  exact z_mask [false, false] rfl (tX7_canTake_b36 T 1 S  r h)
set_option maxHeartbeats 4000000 in
set_option maxRecDepth 100000 in
theorem tX7_canTake (T : zT) (k0 : Nat) (x1 : Int32) (S : zS) (h0 : iX7 T k0) (r : Int32) (h : fX7_canTake T k0 x1 S = some r) : zGM 0 mX7_canTake [.ref k0, .int x1] T S (some (.int r)) T S := by
  refine zGM_of zpnX7 rfl (Nat.le_of_ble_eq_true rfl) (fun g => ?_)
  show zg g 0 mX7_canTake T 0 [some (.ref k0), some (.int x1)] [] T S (some (.int r)) T S
  unfold fX7_canTake at h
  refine z_aload_n dX7_canTake_0 rfl ?_
  refine z_gI (zF.x zfX7_27) h0.1 dX7_canTake_1 ?_
  refine z_bipush dX7_canTake_4 cB_60 ?_
  refine z_icmp_ge (tgt := 35) dX7_canTake_6 (by decide) (fun q1 => ?_) (fun q1 => ?_)
  · rw [if_pos q1] at h
    exact z_mask [false, false] rfl (tX7_canTake_b35 T  S  r h)
  · rw [if_neg q1] at h
    refine z_aload_n dX7_canTake_9 rfl ?_
    refine z_gI (zF.x zfX7_27) h0.1 dX7_canTake_10 ?_
    refine z_if_eq (tgt := 31) dX7_canTake_13 (by decide) (fun q3 => ?_) (fun q3 => ?_)
    · rw [if_pos q3] at h
      exact z_mask [false, false] rfl (tX7_canTake_b31 T  S  r h)
    · rw [if_neg q3] at h
      refine z_aload_n dX7_canTake_16 rfl ?_
      refine z_gA (zF.x zfX7_9) h0.1 dX7_canTake_17 ?_
      refine z_aload_n dX7_canTake_20 rfl ?_
      refine z_gI (zF.x zfX7_27) h0.1 dX7_canTake_21 ?_
      refine z_iconst dX7_canTake_24 cI_1 ?_
      refine z_isub dX7_canTake_25 rfl ?_
      obtain ⟨q4, h⟩ := zgd_elim h
      refine z_iald h0.2.1 (zin_ok q4) dX7_canTake_26 ?_
      refine z_iload_n dX7_canTake_27 rfl ?_
      refine z_icmp_gt (tgt := 35) dX7_canTake_28 (by decide) (fun q5 => ?_) (fun q5 => ?_)
      · rw [if_pos q5] at h
        exact z_mask [false, false] rfl (tX7_canTake_b35 T  S  r h)
      · rw [if_neg q5] at h
        exact z_mask [false, false] rfl (tX7_canTake_b31 T  S  r h)
/-! X7_add -/
noncomputable def fX7_add_b49 (T : zT)  (S : zS) : Option (Unit × zS) :=
  some ((), S)
noncomputable def fX7_add (T : zT) (k0 : Nat) (x1 : Int32) (x2 : Int32) (x3 : Int32) (S : zS) : Option (Unit × zS) :=
  if 60 ≤ (S.1 k0 3) then fX7_add_b49 T  S else zgd (zin (S.1 k0 3) 60) (zlet (zI S (zr T k0 0) ((S.1 k0 3) : Int32).toNatClampNeg x1) fun S3 => zgd (zin (S3.1 k0 3) 60) (zlet (zI S3 (zr T k0 1) ((S3.1 k0 3) : Int32).toNatClampNeg x2) fun S5 => zgd (zin (S5.1 k0 3) 60) (zlet (zI S5 (zr T k0 2) ((S5.1 k0 3) : Int32).toNatClampNeg x3) fun S7 => zlet (zI S7 k0 3 ((S7.1 k0 3) + 1)) fun S8 => fX7_add_b49 T  S8)))
set_option maxHeartbeats 4000000 in
set_option maxRecDepth 100000 in
theorem tX7_add_b49 (T : zT)  (S : zS)  {g : zG} (r : (Unit × zS)) (h : fX7_add_b49 T  S = some r)  : zg g 0 mX7_add T 49 [none, none, none, none] [] T S none T r.2 := by
  unfold fX7_add_b49 at h
  cases h
  exact z_vret rfl dX7_add_49
set_option maxHeartbeats 4000000 in
set_option maxRecDepth 100000 in
theorem tX7_add (T : zT) (k0 : Nat) (x1 : Int32) (x2 : Int32) (x3 : Int32) (S : zS) (h0 : iX7 T k0) (r : Unit × zS) (h : fX7_add T k0 x1 x2 x3 S = some r) : zGM 0 mX7_add [.ref k0, .int x1, .int x2, .int x3] T S none T r.2 := by
  refine zGM_of zpnX7 rfl (Nat.le_of_ble_eq_true rfl) (fun g => ?_)
  show zg g 0 mX7_add T 0 [some (.ref k0), some (.int x1), some (.int x2), some (.int x3)] [] T S none T r.2
  unfold fX7_add at h
  refine z_aload_n dX7_add_0 rfl ?_
  refine z_gI (zF.x zfX7_27) h0.1 dX7_add_1 ?_
  refine z_bipush dX7_add_4 cB_60 ?_
  refine z_icmp_ge (tgt := 49) dX7_add_6 (by decide) (fun q1 => ?_) (fun q1 => ?_)
  · rw [if_pos q1] at h
    exact z_mask [false, false, false, false] rfl (tX7_add_b49 T  S  r h)
  · rw [if_neg q1] at h
    refine z_aload_n dX7_add_9 rfl ?_
    refine z_gA (zF.x zfX7_9) h0.1 dX7_add_10 ?_
    refine z_aload_n dX7_add_13 rfl ?_
    refine z_gI (zF.x zfX7_27) h0.1 dX7_add_14 ?_
    refine z_iload_n dX7_add_17 rfl ?_
    obtain ⟨q2, h⟩ := zgd_elim h
    refine z_iast h0.2.1 (zin_ok q2) dX7_add_18 ?_
    obtain ⟨S3, eS3, h⟩ := zlet_elim h
    refine z_tS eS3 ?_
    refine z_aload_n dX7_add_19 rfl ?_
    refine z_gA (zF.x zfX7_15) h0.1 dX7_add_20 ?_
    refine z_aload_n dX7_add_23 rfl ?_
    refine z_gI (zF.x zfX7_27) h0.1 dX7_add_24 ?_
    refine z_iload_n dX7_add_27 rfl ?_
    obtain ⟨q4, h⟩ := zgd_elim h
    refine z_iast h0.2.2.1 (zin_ok q4) dX7_add_28 ?_
    obtain ⟨S5, eS5, h⟩ := zlet_elim h
    refine z_tS eS5 ?_
    refine z_aload_n dX7_add_29 rfl ?_
    refine z_gA (zF.x zfX7_18) h0.1 dX7_add_30 ?_
    refine z_aload_n dX7_add_33 rfl ?_
    refine z_gI (zF.x zfX7_27) h0.1 dX7_add_34 ?_
    refine z_iload_n dX7_add_37 rfl ?_
    obtain ⟨q6, h⟩ := zgd_elim h
    refine z_iast h0.2.2.2 (zin_ok q6) dX7_add_38 ?_
    obtain ⟨S7, eS7, h⟩ := zlet_elim h
    refine z_tS eS7 ?_
    refine z_aload_n dX7_add_39 rfl ?_
    refine z_dup dX7_add_40 rfl ?_
    refine z_gI (zF.x zfX7_27) h0.1 dX7_add_41 ?_
    refine z_iconst dX7_add_44 cI_1 ?_
    refine z_iadd dX7_add_45 rfl ?_
    refine z_putI zfX7_27 h0.1 dX7_add_46 ?_
    obtain ⟨S8, eS8, h⟩ := zlet_elim h
    refine z_tS eS8 ?_
    exact z_mask [false, false, false, false] rfl (tX7_add_b49 T  S8  r h)
/-! X8_add -/
noncomputable def fX8_add_b39 (T : zT)  (S : zS) : Option (Unit × zS) :=
  some ((), S)
noncomputable def fX8_add (T : zT) (k0 : Nat) (x1 : Int32) (x2 : Int32) (S : zS) : Option (Unit × zS) :=
  if 12 ≤ (S.1 k0 2) then fX8_add_b39 T  S else zgd (zin (S.1 k0 2) 12) (zlet (zI S (zr T k0 0) ((S.1 k0 2) : Int32).toNatClampNeg x1) fun S3 => zgd (zin (S3.1 k0 2) 12) (zlet (zI S3 (zr T k0 1) ((S3.1 k0 2) : Int32).toNatClampNeg x2) fun S5 => zlet (zI S5 k0 2 ((S5.1 k0 2) + 1)) fun S6 => fX8_add_b39 T  S6))
set_option maxHeartbeats 4000000 in
set_option maxRecDepth 100000 in
theorem tX8_add_b39 (T : zT)  (S : zS)  {g : zG} (r : (Unit × zS)) (h : fX8_add_b39 T  S = some r)  : zg g 0 mX8_add T 39 [none, none, none] [] T S none T r.2 := by
  unfold fX8_add_b39 at h
  cases h
  exact z_vret rfl dX8_add_39
set_option maxHeartbeats 4000000 in
set_option maxRecDepth 100000 in
theorem tX8_add (T : zT) (k0 : Nat) (x1 : Int32) (x2 : Int32) (S : zS) (h0 : iX8 T k0) (r : Unit × zS) (h : fX8_add T k0 x1 x2 S = some r) : zGM 0 mX8_add [.ref k0, .int x1, .int x2] T S none T r.2 := by
  refine zGM_of zpnX8 rfl (Nat.le_of_ble_eq_true rfl) (fun g => ?_)
  show zg g 0 mX8_add T 0 [some (.ref k0), some (.int x1), some (.int x2)] [] T S none T r.2
  unfold fX8_add at h
  refine z_aload_n dX8_add_0 rfl ?_
  refine z_gI (zF.x zfX8_25) h0.1 dX8_add_1 ?_
  refine z_bipush dX8_add_4 cB_12 ?_
  refine z_icmp_ge (tgt := 39) dX8_add_6 (by decide) (fun q1 => ?_) (fun q1 => ?_)
  · rw [if_pos q1] at h
    exact z_mask [false, false, false] rfl (tX8_add_b39 T  S  r h)
  · rw [if_neg q1] at h
    refine z_aload_n dX8_add_9 rfl ?_
    refine z_gA (zF.x zfX8_9) h0.1 dX8_add_10 ?_
    refine z_aload_n dX8_add_13 rfl ?_
    refine z_gI (zF.x zfX8_25) h0.1 dX8_add_14 ?_
    refine z_iload_n dX8_add_17 rfl ?_
    obtain ⟨q2, h⟩ := zgd_elim h
    refine z_iast h0.2.1 (zin_ok q2) dX8_add_18 ?_
    obtain ⟨S3, eS3, h⟩ := zlet_elim h
    refine z_tS eS3 ?_
    refine z_aload_n dX8_add_19 rfl ?_
    refine z_gA (zF.x zfX8_15) h0.1 dX8_add_20 ?_
    refine z_aload_n dX8_add_23 rfl ?_
    refine z_gI (zF.x zfX8_25) h0.1 dX8_add_24 ?_
    refine z_iload_n dX8_add_27 rfl ?_
    obtain ⟨q4, h⟩ := zgd_elim h
    refine z_iast h0.2.2.1 (zin_ok q4) dX8_add_28 ?_
    obtain ⟨S5, eS5, h⟩ := zlet_elim h
    refine z_tS eS5 ?_
    refine z_aload_n dX8_add_29 rfl ?_
    refine z_dup dX8_add_30 rfl ?_
    refine z_gI (zF.x zfX8_25) h0.1 dX8_add_31 ?_
    refine z_iconst dX8_add_34 cI_1 ?_
    refine z_iadd dX8_add_35 rfl ?_
    refine z_putI zfX8_25 h0.1 dX8_add_36 ?_
    obtain ⟨S6, eS6, h⟩ := zlet_elim h
    refine z_tS eS6 ?_
    exact z_mask [false, false, false] rfl (tX8_add_b39 T  S6  r h)
/-! X9_wordValue -/
noncomputable def fX9_wordValue_b20 (T : zT) (s0 : Int64) (S : zS) : Option Int64 :=
  some s0
noncomputable def fX9_wordValue_b19 (T : zT)  (S : zS) : Option Int64 :=
  fX9_wordValue_b20 T 0 S
noncomputable def fX9_wordValue (T : zT) (k0 : Nat) (x1 : Int32) (S : zS) : Option Int64 :=
  if x1 < 0 then fX9_wordValue_b19 T  S else if 26 ≤ x1 then fX9_wordValue_b19 T  S else zgd (zin x1 26) (fX9_wordValue_b20 T (S.2 (zr T k0 0) (x1 : Int32).toNatClampNeg) S)
set_option maxHeartbeats 4000000 in
set_option maxRecDepth 100000 in
theorem tX9_wordValue_b20 (T : zT) (s0 : Int64) (S : zS)  {g : zG} (r : Int64) (h : fX9_wordValue_b20 T s0 S = some r)  : zg g 0 mX9_wordValue T 20 [none, none] [.long s0] T S (some (.long r)) T S := by
  unfold fX9_wordValue_b20 at h
  cases h
  exact z_lret rfl dX9_wordValue_20
set_option maxHeartbeats 4000000 in
set_option maxRecDepth 100000 in
theorem tX9_wordValue_b19 (T : zT)  (S : zS)  {g : zG} (r : Int64) (h : fX9_wordValue_b19 T  S = some r)  : zg g 0 mX9_wordValue T 19 [none, none] [] T S (some (.long r)) T S := by
  unfold fX9_wordValue_b19 at h
  refine z_lconst (r := 0) dX9_wordValue_19 rfl ?_
  exact z_mask [false, false] rfl (tX9_wordValue_b20 T 0 S  r h)
set_option maxHeartbeats 4000000 in
set_option maxRecDepth 100000 in
theorem tX9_wordValue (T : zT) (k0 : Nat) (x1 : Int32) (S : zS) (h0 : iX9 T k0) (r : Int64) (h : fX9_wordValue T k0 x1 S = some r) : zGM 0 mX9_wordValue [.ref k0, .int x1] T S (some (.long r)) T S := by
  refine zGM_of zpnX9 rfl (Nat.le_of_ble_eq_true rfl) (fun g => ?_)
  show zg g 0 mX9_wordValue T 0 [some (.ref k0), some (.int x1)] [] T S (some (.long r)) T S
  unfold fX9_wordValue at h
  refine z_iload_n dX9_wordValue_0 rfl ?_
  refine z_if_lt (tgt := 19) dX9_wordValue_1 (by decide) (fun q1 => ?_) (fun q1 => ?_)
  · rw [if_pos q1] at h
    exact z_mask [false, false] rfl (tX9_wordValue_b19 T  S  r h)
  · rw [if_neg q1] at h
    refine z_iload_n dX9_wordValue_4 rfl ?_
    refine z_bipush dX9_wordValue_5 cB_26 ?_
    refine z_icmp_ge (tgt := 19) dX9_wordValue_7 (by decide) (fun q2 => ?_) (fun q2 => ?_)
    · rw [if_pos q2] at h
      exact z_mask [false, false] rfl (tX9_wordValue_b19 T  S  r h)
    · rw [if_neg q2] at h
      refine z_aload_n dX9_wordValue_10 rfl ?_
      refine z_gA (zF.x zfX9_9) h0.1 dX9_wordValue_11 ?_
      refine z_iload_n dX9_wordValue_14 rfl ?_
      obtain ⟨q3, h⟩ := zgd_elim h
      refine z_lald h0.2.1 (zin_ok q3) dX9_wordValue_15 ?_
      refine z_goto (tgt := 20) dX9_wordValue_16 (by decide) ?_
      exact z_mask [false, false] rfl (tX9_wordValue_b20 T (S.2 (zr T k0 0) (x1 : Int32).toNatClampNeg) S  r h)
/-! X9_joined -/
noncomputable def fX9_joined_b218 (T : zT) (l1 : Int64) (l3 : Int64) (S : zS) : Option Int64 :=
  some (l1 ||| l3)
noncomputable def fX9_joined_b153 (T : zT) (s0 : Int64) (S : zS) : Option Int64 :=
  some s0
noncomputable def fX9_joined_b165 (T : zT) (s0 : Int64) (S : zS) : Option Int64 :=
  some s0
noncomputable def fX9_joined_b177 (T : zT) (s0 : Int64) (S : zS) : Option Int64 :=
  some s0
noncomputable def fX9_joined_b189 (T : zT) (s0 : Int64) (S : zS) : Option Int64 :=
  some s0
noncomputable def fX9_joined_b201 (T : zT) (s0 : Int64) (S : zS) : Option Int64 :=
  some s0
noncomputable def fX9_joined_b213 (T : zT) (s0 : Int64) (S : zS) : Option Int64 :=
  some s0
noncomputable def fX9_joined (T : zT) (x0 : Int32) (l1 : Int64) (l3 : Int64) (S : zS) : Option Int64 :=
  if x0 = 17 then some (l1 &&& l3) else if x0 = 18 then fX9_joined_b218 T l1 l3 S else if x0 = 19 then fX9_joined_b218 T l1 l3 S else if x0 = 20 then fX9_joined_b218 T l1 l3 S else if x0 = 21 then fX9_joined_b218 T l1 l3 S else if x0 = 22 then fX9_joined_b218 T l1 l3 S else if x0 = 23 then fX9_joined_b218 T l1 l3 S else if x0 = 24 then fX9_joined_b218 T l1 l3 S else if x0 = 25 then fX9_joined_b218 T l1 l3 S else if x0 = 26 then fX9_joined_b218 T l1 l3 S else if x0 = 27 then fX9_joined_b218 T l1 l3 S else if x0 = 28 then fX9_joined_b218 T l1 l3 S else if x0 = 29 then fX9_joined_b218 T l1 l3 S else if x0 = 30 then fX9_joined_b218 T l1 l3 S else if x0 = 31 then fX9_joined_b218 T l1 l3 S else if x0 = 32 then fX9_joined_b218 T l1 l3 S else if x0 = 33 then fX9_joined_b218 T l1 l3 S else if x0 = 34 then fX9_joined_b218 T l1 l3 S else if x0 = 35 then fX9_joined_b218 T l1 l3 S else if x0 = 36 then some (l1 + l3) else if x0 = 37 then some (l1 - l3) else if x0 = 38 then some (l1 * l3) else if x0 = 39 then if (lg_cmp l3 0) = 0 then fX9_joined_b153 T 0 S else zgd (zneL l3) (fX9_joined_b153 T (l1 / l3) S) else if x0 = 40 then if 0 ≤ (lg_cmp l1 l3) then fX9_joined_b165 T 0 S else fX9_joined_b165 T 1 S else if x0 = 41 then if 0 < (lg_cmp l1 l3) then fX9_joined_b177 T 0 S else fX9_joined_b177 T 1 S else if x0 = 42 then if (lg_cmp l1 l3) = 0 then fX9_joined_b189 T 1 S else fX9_joined_b189 T 0 S else if x0 = 43 then if (lg_cmp l1 l3) < 0 then fX9_joined_b201 T 0 S else fX9_joined_b201 T 1 S else if x0 = 44 then if (lg_cmp l1 l3) ≤ 0 then fX9_joined_b213 T 0 S else fX9_joined_b213 T 1 S else fX9_joined_b218 T l1 l3 S
set_option maxHeartbeats 4000000 in
set_option maxRecDepth 100000 in
theorem tX9_joined_b218 (T : zT) (l1 : Int64) (l3 : Int64) (S : zS)  {g : zG} (r : Int64) (h : fX9_joined_b218 T l1 l3 S = some r)  : zg g 0 mX9_joined T 218 [none, some (.long l1), none, some (.long l3), none] [] T S (some (.long r)) T S := by
  unfold fX9_joined_b218 at h
  refine z_lload_n dX9_joined_218 rfl ?_
  refine z_lload_n dX9_joined_219 rfl ?_
  refine z_lor dX9_joined_220 rfl ?_
  cases h
  exact z_lret rfl dX9_joined_221
set_option maxHeartbeats 4000000 in
set_option maxRecDepth 100000 in
theorem tX9_joined_b153 (T : zT) (s0 : Int64) (S : zS)  {g : zG} (r : Int64) (h : fX9_joined_b153 T s0 S = some r)  : zg g 0 mX9_joined T 153 [none, none, none, none, none] [.long s0] T S (some (.long r)) T S := by
  unfold fX9_joined_b153 at h
  cases h
  exact z_lret rfl dX9_joined_153
set_option maxHeartbeats 4000000 in
set_option maxRecDepth 100000 in
theorem tX9_joined_b165 (T : zT) (s0 : Int64) (S : zS)  {g : zG} (r : Int64) (h : fX9_joined_b165 T s0 S = some r)  : zg g 0 mX9_joined T 165 [none, none, none, none, none] [.long s0] T S (some (.long r)) T S := by
  unfold fX9_joined_b165 at h
  cases h
  exact z_lret rfl dX9_joined_165
set_option maxHeartbeats 4000000 in
set_option maxRecDepth 100000 in
theorem tX9_joined_b177 (T : zT) (s0 : Int64) (S : zS)  {g : zG} (r : Int64) (h : fX9_joined_b177 T s0 S = some r)  : zg g 0 mX9_joined T 177 [none, none, none, none, none] [.long s0] T S (some (.long r)) T S := by
  unfold fX9_joined_b177 at h
  cases h
  exact z_lret rfl dX9_joined_177
set_option maxHeartbeats 4000000 in
set_option maxRecDepth 100000 in
theorem tX9_joined_b189 (T : zT) (s0 : Int64) (S : zS)  {g : zG} (r : Int64) (h : fX9_joined_b189 T s0 S = some r)  : zg g 0 mX9_joined T 189 [none, none, none, none, none] [.long s0] T S (some (.long r)) T S := by
  unfold fX9_joined_b189 at h
  cases h
  exact z_lret rfl dX9_joined_189
set_option maxHeartbeats 4000000 in
set_option maxRecDepth 100000 in
theorem tX9_joined_b201 (T : zT) (s0 : Int64) (S : zS)  {g : zG} (r : Int64) (h : fX9_joined_b201 T s0 S = some r)  : zg g 0 mX9_joined T 201 [none, none, none, none, none] [.long s0] T S (some (.long r)) T S := by
  unfold fX9_joined_b201 at h
  cases h
  exact z_lret rfl dX9_joined_201
set_option maxHeartbeats 4000000 in
set_option maxRecDepth 100000 in
theorem tX9_joined_b213 (T : zT) (s0 : Int64) (S : zS)  {g : zG} (r : Int64) (h : fX9_joined_b213 T s0 S = some r)  : zg g 0 mX9_joined T 213 [none, none, none, none, none] [.long s0] T S (some (.long r)) T S := by
  unfold fX9_joined_b213 at h
  cases h
  exact z_lret rfl dX9_joined_213
set_option maxHeartbeats 4000000 in
set_option maxRecDepth 100000 in
theorem tX9_joined (T : zT) (x0 : Int32) (l1 : Int64) (l3 : Int64) (S : zS)  (r : Int64) (h : fX9_joined T x0 l1 l3 S = some r) : zGM 0 mX9_joined [.int x0, .long l1, .long l3] T S (some (.long r)) T S := by
  refine zGM_of zpnX9 rfl (Nat.le_of_ble_eq_true rfl) (fun g => ?_)
  show zg g 0 mX9_joined T 0 [some (.int x0), some (.long l1), none, some (.long l3), none] [] T S (some (.long r)) T S
  unfold fX9_joined at h
  refine z_iload_n dX9_joined_0 rfl ?_
  by_cases q1 : x0 = 17
  · rw [if_pos q1] at h
    refine z_tableIn (off := 213) (tgt := 214) dX9_joined_1 (by show ¬ x0.toInt < 17; rw [q1]; decide) (by show ¬ 44 < x0.toInt; rw [q1]; decide) (by rw [q1]; rfl) (by decide) ?_
    refine z_lload_n dX9_joined_214 rfl ?_
    refine z_lload_n dX9_joined_215 rfl ?_
    refine z_land dX9_joined_216 rfl ?_
    cases h
    exact z_lret rfl dX9_joined_217
  rw [if_neg q1] at h
  by_cases q2 : x0 = 18
  · rw [if_pos q2] at h
    refine z_tableIn (off := 217) (tgt := 218) dX9_joined_1 (by show ¬ x0.toInt < 17; rw [q2]; decide) (by show ¬ 44 < x0.toInt; rw [q2]; decide) (by rw [q2]; rfl) (by decide) ?_
    exact z_mask [false, true, false, true, false] rfl (tX9_joined_b218 T l1 l3 S  r h)
  rw [if_neg q2] at h
  by_cases q3 : x0 = 19
  · rw [if_pos q3] at h
    refine z_tableIn (off := 217) (tgt := 218) dX9_joined_1 (by show ¬ x0.toInt < 17; rw [q3]; decide) (by show ¬ 44 < x0.toInt; rw [q3]; decide) (by rw [q3]; rfl) (by decide) ?_
    exact z_mask [false, true, false, true, false] rfl (tX9_joined_b218 T l1 l3 S  r h)
  rw [if_neg q3] at h
  by_cases q4 : x0 = 20
  · rw [if_pos q4] at h
    refine z_tableIn (off := 217) (tgt := 218) dX9_joined_1 (by show ¬ x0.toInt < 17; rw [q4]; decide) (by show ¬ 44 < x0.toInt; rw [q4]; decide) (by rw [q4]; rfl) (by decide) ?_
    exact z_mask [false, true, false, true, false] rfl (tX9_joined_b218 T l1 l3 S  r h)
  rw [if_neg q4] at h
  by_cases q5 : x0 = 21
  · rw [if_pos q5] at h
    refine z_tableIn (off := 217) (tgt := 218) dX9_joined_1 (by show ¬ x0.toInt < 17; rw [q5]; decide) (by show ¬ 44 < x0.toInt; rw [q5]; decide) (by rw [q5]; rfl) (by decide) ?_
    exact z_mask [false, true, false, true, false] rfl (tX9_joined_b218 T l1 l3 S  r h)
  rw [if_neg q5] at h
  by_cases q6 : x0 = 22
  · rw [if_pos q6] at h
    refine z_tableIn (off := 217) (tgt := 218) dX9_joined_1 (by show ¬ x0.toInt < 17; rw [q6]; decide) (by show ¬ 44 < x0.toInt; rw [q6]; decide) (by rw [q6]; rfl) (by decide) ?_
    exact z_mask [false, true, false, true, false] rfl (tX9_joined_b218 T l1 l3 S  r h)
  rw [if_neg q6] at h
  by_cases q7 : x0 = 23
  · rw [if_pos q7] at h
    refine z_tableIn (off := 217) (tgt := 218) dX9_joined_1 (by show ¬ x0.toInt < 17; rw [q7]; decide) (by show ¬ 44 < x0.toInt; rw [q7]; decide) (by rw [q7]; rfl) (by decide) ?_
    exact z_mask [false, true, false, true, false] rfl (tX9_joined_b218 T l1 l3 S  r h)
  rw [if_neg q7] at h
  by_cases q8 : x0 = 24
  · rw [if_pos q8] at h
    refine z_tableIn (off := 217) (tgt := 218) dX9_joined_1 (by show ¬ x0.toInt < 17; rw [q8]; decide) (by show ¬ 44 < x0.toInt; rw [q8]; decide) (by rw [q8]; rfl) (by decide) ?_
    exact z_mask [false, true, false, true, false] rfl (tX9_joined_b218 T l1 l3 S  r h)
  rw [if_neg q8] at h
  by_cases q9 : x0 = 25
  · rw [if_pos q9] at h
    refine z_tableIn (off := 217) (tgt := 218) dX9_joined_1 (by show ¬ x0.toInt < 17; rw [q9]; decide) (by show ¬ 44 < x0.toInt; rw [q9]; decide) (by rw [q9]; rfl) (by decide) ?_
    exact z_mask [false, true, false, true, false] rfl (tX9_joined_b218 T l1 l3 S  r h)
  rw [if_neg q9] at h
  by_cases q10 : x0 = 26
  · rw [if_pos q10] at h
    refine z_tableIn (off := 217) (tgt := 218) dX9_joined_1 (by show ¬ x0.toInt < 17; rw [q10]; decide) (by show ¬ 44 < x0.toInt; rw [q10]; decide) (by rw [q10]; rfl) (by decide) ?_
    exact z_mask [false, true, false, true, false] rfl (tX9_joined_b218 T l1 l3 S  r h)
  rw [if_neg q10] at h
  by_cases q11 : x0 = 27
  · rw [if_pos q11] at h
    refine z_tableIn (off := 217) (tgt := 218) dX9_joined_1 (by show ¬ x0.toInt < 17; rw [q11]; decide) (by show ¬ 44 < x0.toInt; rw [q11]; decide) (by rw [q11]; rfl) (by decide) ?_
    exact z_mask [false, true, false, true, false] rfl (tX9_joined_b218 T l1 l3 S  r h)
  rw [if_neg q11] at h
  by_cases q12 : x0 = 28
  · rw [if_pos q12] at h
    refine z_tableIn (off := 217) (tgt := 218) dX9_joined_1 (by show ¬ x0.toInt < 17; rw [q12]; decide) (by show ¬ 44 < x0.toInt; rw [q12]; decide) (by rw [q12]; rfl) (by decide) ?_
    exact z_mask [false, true, false, true, false] rfl (tX9_joined_b218 T l1 l3 S  r h)
  rw [if_neg q12] at h
  by_cases q13 : x0 = 29
  · rw [if_pos q13] at h
    refine z_tableIn (off := 217) (tgt := 218) dX9_joined_1 (by show ¬ x0.toInt < 17; rw [q13]; decide) (by show ¬ 44 < x0.toInt; rw [q13]; decide) (by rw [q13]; rfl) (by decide) ?_
    exact z_mask [false, true, false, true, false] rfl (tX9_joined_b218 T l1 l3 S  r h)
  rw [if_neg q13] at h
  by_cases q14 : x0 = 30
  · rw [if_pos q14] at h
    refine z_tableIn (off := 217) (tgt := 218) dX9_joined_1 (by show ¬ x0.toInt < 17; rw [q14]; decide) (by show ¬ 44 < x0.toInt; rw [q14]; decide) (by rw [q14]; rfl) (by decide) ?_
    exact z_mask [false, true, false, true, false] rfl (tX9_joined_b218 T l1 l3 S  r h)
  rw [if_neg q14] at h
  by_cases q15 : x0 = 31
  · rw [if_pos q15] at h
    refine z_tableIn (off := 217) (tgt := 218) dX9_joined_1 (by show ¬ x0.toInt < 17; rw [q15]; decide) (by show ¬ 44 < x0.toInt; rw [q15]; decide) (by rw [q15]; rfl) (by decide) ?_
    exact z_mask [false, true, false, true, false] rfl (tX9_joined_b218 T l1 l3 S  r h)
  rw [if_neg q15] at h
  by_cases q16 : x0 = 32
  · rw [if_pos q16] at h
    refine z_tableIn (off := 217) (tgt := 218) dX9_joined_1 (by show ¬ x0.toInt < 17; rw [q16]; decide) (by show ¬ 44 < x0.toInt; rw [q16]; decide) (by rw [q16]; rfl) (by decide) ?_
    exact z_mask [false, true, false, true, false] rfl (tX9_joined_b218 T l1 l3 S  r h)
  rw [if_neg q16] at h
  by_cases q17 : x0 = 33
  · rw [if_pos q17] at h
    refine z_tableIn (off := 217) (tgt := 218) dX9_joined_1 (by show ¬ x0.toInt < 17; rw [q17]; decide) (by show ¬ 44 < x0.toInt; rw [q17]; decide) (by rw [q17]; rfl) (by decide) ?_
    exact z_mask [false, true, false, true, false] rfl (tX9_joined_b218 T l1 l3 S  r h)
  rw [if_neg q17] at h
  by_cases q18 : x0 = 34
  · rw [if_pos q18] at h
    refine z_tableIn (off := 217) (tgt := 218) dX9_joined_1 (by show ¬ x0.toInt < 17; rw [q18]; decide) (by show ¬ 44 < x0.toInt; rw [q18]; decide) (by rw [q18]; rfl) (by decide) ?_
    exact z_mask [false, true, false, true, false] rfl (tX9_joined_b218 T l1 l3 S  r h)
  rw [if_neg q18] at h
  by_cases q19 : x0 = 35
  · rw [if_pos q19] at h
    refine z_tableIn (off := 217) (tgt := 218) dX9_joined_1 (by show ¬ x0.toInt < 17; rw [q19]; decide) (by show ¬ 44 < x0.toInt; rw [q19]; decide) (by rw [q19]; rfl) (by decide) ?_
    exact z_mask [false, true, false, true, false] rfl (tX9_joined_b218 T l1 l3 S  r h)
  rw [if_neg q19] at h
  by_cases q20 : x0 = 36
  · rw [if_pos q20] at h
    refine z_tableIn (off := 127) (tgt := 128) dX9_joined_1 (by show ¬ x0.toInt < 17; rw [q20]; decide) (by show ¬ 44 < x0.toInt; rw [q20]; decide) (by rw [q20]; rfl) (by decide) ?_
    refine z_lload_n dX9_joined_128 rfl ?_
    refine z_lload_n dX9_joined_129 rfl ?_
    refine z_ladd dX9_joined_130 rfl ?_
    cases h
    exact z_lret rfl dX9_joined_131
  rw [if_neg q20] at h
  by_cases q21 : x0 = 37
  · rw [if_pos q21] at h
    refine z_tableIn (off := 131) (tgt := 132) dX9_joined_1 (by show ¬ x0.toInt < 17; rw [q21]; decide) (by show ¬ 44 < x0.toInt; rw [q21]; decide) (by rw [q21]; rfl) (by decide) ?_
    refine z_lload_n dX9_joined_132 rfl ?_
    refine z_lload_n dX9_joined_133 rfl ?_
    refine z_lsub dX9_joined_134 rfl ?_
    cases h
    exact z_lret rfl dX9_joined_135
  rw [if_neg q21] at h
  by_cases q22 : x0 = 38
  · rw [if_pos q22] at h
    refine z_tableIn (off := 135) (tgt := 136) dX9_joined_1 (by show ¬ x0.toInt < 17; rw [q22]; decide) (by show ¬ 44 < x0.toInt; rw [q22]; decide) (by rw [q22]; rfl) (by decide) ?_
    refine z_lload_n dX9_joined_136 rfl ?_
    refine z_lload_n dX9_joined_137 rfl ?_
    refine z_lmul dX9_joined_138 rfl ?_
    cases h
    exact z_lret rfl dX9_joined_139
  rw [if_neg q22] at h
  by_cases q23 : x0 = 39
  · rw [if_pos q23] at h
    refine z_tableIn (off := 139) (tgt := 140) dX9_joined_1 (by show ¬ x0.toInt < 17; rw [q23]; decide) (by show ¬ 44 < x0.toInt; rw [q23]; decide) (by rw [q23]; rfl) (by decide) ?_
    refine z_lload_n dX9_joined_140 rfl ?_
    refine z_lconst (r := 0) dX9_joined_141 rfl ?_
    refine z_lcmp dX9_joined_142 rfl ?_
    refine z_if_ne (tgt := 150) dX9_joined_143 (by decide) (fun q24 => ?_) (fun q24 => ?_)
    · rw [if_neg q24] at h
      refine z_lload_n dX9_joined_150 rfl ?_
      refine z_lload_n dX9_joined_151 rfl ?_
      obtain ⟨q25, h⟩ := zgd_elim h
      refine z_ldiv dX9_joined_152 (zneL_ok q25) rfl ?_
      exact z_mask [false, false, false, false, false] rfl (tX9_joined_b153 T (l1 / l3) S  r h)
    · rw [if_pos q24] at h
      refine z_lconst (r := 0) dX9_joined_146 rfl ?_
      refine z_goto (tgt := 153) dX9_joined_147 (by decide) ?_
      exact z_mask [false, false, false, false, false] rfl (tX9_joined_b153 T 0 S  r h)
  rw [if_neg q23] at h
  by_cases q26 : x0 = 40
  · rw [if_pos q26] at h
    refine z_tableIn (off := 153) (tgt := 154) dX9_joined_1 (by show ¬ x0.toInt < 17; rw [q26]; decide) (by show ¬ 44 < x0.toInt; rw [q26]; decide) (by rw [q26]; rfl) (by decide) ?_
    refine z_lload_n dX9_joined_154 rfl ?_
    refine z_lload_n dX9_joined_155 rfl ?_
    refine z_lcmp dX9_joined_156 rfl ?_
    refine z_if_ge (tgt := 164) dX9_joined_157 (by decide) (fun q27 => ?_) (fun q27 => ?_)
    · rw [if_pos q27] at h
      refine z_lconst (r := 0) dX9_joined_164 rfl ?_
      exact z_mask [false, false, false, false, false] rfl (tX9_joined_b165 T 0 S  r h)
    · rw [if_neg q27] at h
      refine z_lconst (r := 1) dX9_joined_160 rfl ?_
      refine z_goto (tgt := 165) dX9_joined_161 (by decide) ?_
      exact z_mask [false, false, false, false, false] rfl (tX9_joined_b165 T 1 S  r h)
  rw [if_neg q26] at h
  by_cases q28 : x0 = 41
  · rw [if_pos q28] at h
    refine z_tableIn (off := 165) (tgt := 166) dX9_joined_1 (by show ¬ x0.toInt < 17; rw [q28]; decide) (by show ¬ 44 < x0.toInt; rw [q28]; decide) (by rw [q28]; rfl) (by decide) ?_
    refine z_lload_n dX9_joined_166 rfl ?_
    refine z_lload_n dX9_joined_167 rfl ?_
    refine z_lcmp dX9_joined_168 rfl ?_
    refine z_if_gt (tgt := 176) dX9_joined_169 (by decide) (fun q29 => ?_) (fun q29 => ?_)
    · rw [if_pos q29] at h
      refine z_lconst (r := 0) dX9_joined_176 rfl ?_
      exact z_mask [false, false, false, false, false] rfl (tX9_joined_b177 T 0 S  r h)
    · rw [if_neg q29] at h
      refine z_lconst (r := 1) dX9_joined_172 rfl ?_
      refine z_goto (tgt := 177) dX9_joined_173 (by decide) ?_
      exact z_mask [false, false, false, false, false] rfl (tX9_joined_b177 T 1 S  r h)
  rw [if_neg q28] at h
  by_cases q30 : x0 = 42
  · rw [if_pos q30] at h
    refine z_tableIn (off := 177) (tgt := 178) dX9_joined_1 (by show ¬ x0.toInt < 17; rw [q30]; decide) (by show ¬ 44 < x0.toInt; rw [q30]; decide) (by rw [q30]; rfl) (by decide) ?_
    refine z_lload_n dX9_joined_178 rfl ?_
    refine z_lload_n dX9_joined_179 rfl ?_
    refine z_lcmp dX9_joined_180 rfl ?_
    refine z_if_ne (tgt := 188) dX9_joined_181 (by decide) (fun q31 => ?_) (fun q31 => ?_)
    · rw [if_neg q31] at h
      refine z_lconst (r := 0) dX9_joined_188 rfl ?_
      exact z_mask [false, false, false, false, false] rfl (tX9_joined_b189 T 0 S  r h)
    · rw [if_pos q31] at h
      refine z_lconst (r := 1) dX9_joined_184 rfl ?_
      refine z_goto (tgt := 189) dX9_joined_185 (by decide) ?_
      exact z_mask [false, false, false, false, false] rfl (tX9_joined_b189 T 1 S  r h)
  rw [if_neg q30] at h
  by_cases q32 : x0 = 43
  · rw [if_pos q32] at h
    refine z_tableIn (off := 189) (tgt := 190) dX9_joined_1 (by show ¬ x0.toInt < 17; rw [q32]; decide) (by show ¬ 44 < x0.toInt; rw [q32]; decide) (by rw [q32]; rfl) (by decide) ?_
    refine z_lload_n dX9_joined_190 rfl ?_
    refine z_lload_n dX9_joined_191 rfl ?_
    refine z_lcmp dX9_joined_192 rfl ?_
    refine z_if_lt (tgt := 200) dX9_joined_193 (by decide) (fun q33 => ?_) (fun q33 => ?_)
    · rw [if_pos q33] at h
      refine z_lconst (r := 0) dX9_joined_200 rfl ?_
      exact z_mask [false, false, false, false, false] rfl (tX9_joined_b201 T 0 S  r h)
    · rw [if_neg q33] at h
      refine z_lconst (r := 1) dX9_joined_196 rfl ?_
      refine z_goto (tgt := 201) dX9_joined_197 (by decide) ?_
      exact z_mask [false, false, false, false, false] rfl (tX9_joined_b201 T 1 S  r h)
  rw [if_neg q32] at h
  by_cases q34 : x0 = 44
  · rw [if_pos q34] at h
    refine z_tableIn (off := 201) (tgt := 202) dX9_joined_1 (by show ¬ x0.toInt < 17; rw [q34]; decide) (by show ¬ 44 < x0.toInt; rw [q34]; decide) (by rw [q34]; rfl) (by decide) ?_
    refine z_lload_n dX9_joined_202 rfl ?_
    refine z_lload_n dX9_joined_203 rfl ?_
    refine z_lcmp dX9_joined_204 rfl ?_
    refine z_if_le (tgt := 212) dX9_joined_205 (by decide) (fun q35 => ?_) (fun q35 => ?_)
    · rw [if_pos q35] at h
      refine z_lconst (r := 0) dX9_joined_212 rfl ?_
      exact z_mask [false, false, false, false, false] rfl (tX9_joined_b213 T 0 S  r h)
    · rw [if_neg q35] at h
      refine z_lconst (r := 1) dX9_joined_208 rfl ?_
      refine z_goto (tgt := 213) dX9_joined_209 (by decide) ?_
      exact z_mask [false, false, false, false, false] rfl (tX9_joined_b213 T 1 S  r h)
  rw [if_neg q34] at h
  have q1i : ¬ x0.toInt = 17 := zneI q1 (by decide)
  have q2i : ¬ x0.toInt = 18 := zneI q2 (by decide)
  have q3i : ¬ x0.toInt = 19 := zneI q3 (by decide)
  have q4i : ¬ x0.toInt = 20 := zneI q4 (by decide)
  have q5i : ¬ x0.toInt = 21 := zneI q5 (by decide)
  have q6i : ¬ x0.toInt = 22 := zneI q6 (by decide)
  have q7i : ¬ x0.toInt = 23 := zneI q7 (by decide)
  have q8i : ¬ x0.toInt = 24 := zneI q8 (by decide)
  have q9i : ¬ x0.toInt = 25 := zneI q9 (by decide)
  have q10i : ¬ x0.toInt = 26 := zneI q10 (by decide)
  have q11i : ¬ x0.toInt = 27 := zneI q11 (by decide)
  have q12i : ¬ x0.toInt = 28 := zneI q12 (by decide)
  have q13i : ¬ x0.toInt = 29 := zneI q13 (by decide)
  have q14i : ¬ x0.toInt = 30 := zneI q14 (by decide)
  have q15i : ¬ x0.toInt = 31 := zneI q15 (by decide)
  have q16i : ¬ x0.toInt = 32 := zneI q16 (by decide)
  have q17i : ¬ x0.toInt = 33 := zneI q17 (by decide)
  have q18i : ¬ x0.toInt = 34 := zneI q18 (by decide)
  have q19i : ¬ x0.toInt = 35 := zneI q19 (by decide)
  have q20i : ¬ x0.toInt = 36 := zneI q20 (by decide)
  have q21i : ¬ x0.toInt = 37 := zneI q21 (by decide)
  have q22i : ¬ x0.toInt = 38 := zneI q22 (by decide)
  have q23i : ¬ x0.toInt = 39 := zneI q23 (by decide)
  have q26i : ¬ x0.toInt = 40 := zneI q26 (by decide)
  have q28i : ¬ x0.toInt = 41 := zneI q28 (by decide)
  have q30i : ¬ x0.toInt = 42 := zneI q30 (by decide)
  have q32i : ¬ x0.toInt = 43 := zneI q32 (by decide)
  have q34i : ¬ x0.toInt = 44 := zneI q34 (by decide)
  refine z_tableOut (tgt := 218) dX9_joined_1 (by show x0.toInt < 17 ∨ 44 < x0.toInt; omega) (by decide) ?_
  exact z_mask [false, true, false, true, false] rfl (tX9_joined_b218 T l1 l3 S  r h)
/-! J6_bitCount_0f7a4 -/
noncomputable def fJ6_bitCount_0f7a4 (T : zT) (x0 : Int32) (S : zS) : Option Int32 :=
  zlet (x0 - ((((x0 : Int32).toUInt32 >>> ((1 : Int32).toUInt32 &&& Int32.toUInt32 31)).toInt32) &&& 1431655765)) fun u1 => zlet ((u1 &&& 858993459) + ((((u1 : Int32).toUInt32 >>> ((2 : Int32).toUInt32 &&& Int32.toUInt32 31)).toInt32) &&& 858993459)) fun u2 => zlet ((u2 + (((u2 : Int32).toUInt32 >>> ((4 : Int32).toUInt32 &&& Int32.toUInt32 31)).toInt32)) &&& 252645135) fun u3 => zlet (u3 + (((u3 : Int32).toUInt32 >>> ((8 : Int32).toUInt32 &&& Int32.toUInt32 31)).toInt32)) fun u4 => zlet (u4 + (((u4 : Int32).toUInt32 >>> ((16 : Int32).toUInt32 &&& Int32.toUInt32 31)).toInt32)) fun u5 => some (u5 &&& 63)
set_option maxHeartbeats 4000000 in
set_option maxRecDepth 100000 in
theorem tJ6_bitCount_0f7a4 (T : zT) (x0 : Int32) (S : zS)  (r : Int32) (h : fJ6_bitCount_0f7a4 T x0 S = some r) : zGM 0 mJ6_bitCount_0f7a4 [.int x0] T S (some (.int r)) T S := by
  refine zGM_of zpnJ6 rfl (Nat.le_of_ble_eq_true rfl) (fun g => ?_)
  show zg g 0 mJ6_bitCount_0f7a4 T 0 [some (.int x0)] [] T S (some (.int r)) T S
  unfold fJ6_bitCount_0f7a4 at h
  refine z_iload_n dJ6_bitCount_0f7a4_0 rfl ?_
  refine z_iload_n dJ6_bitCount_0f7a4_1 rfl ?_
  refine z_iconst dJ6_bitCount_0f7a4_2 cI_1 ?_
  refine z_iushr dJ6_bitCount_0f7a4_3 rfl ?_
  refine z_ldcw znJ6_265 dJ6_bitCount_0f7a4_4 ?_
  refine z_iand dJ6_bitCount_0f7a4_7 rfl ?_
  refine z_isub dJ6_bitCount_0f7a4_8 rfl ?_
  obtain ⟨u1, eu1, h⟩ := zlet_elim h
  refine z_ti eu1 ?_
  refine z_istore_n dJ6_bitCount_0f7a4_9 rfl (by decide) rfl ?_
  refine z_iload_n dJ6_bitCount_0f7a4_10 rfl ?_
  refine z_ldcw znJ6_266 dJ6_bitCount_0f7a4_11 ?_
  refine z_iand dJ6_bitCount_0f7a4_14 rfl ?_
  refine z_iload_n dJ6_bitCount_0f7a4_15 rfl ?_
  refine z_iconst dJ6_bitCount_0f7a4_16 cI_2 ?_
  refine z_iushr dJ6_bitCount_0f7a4_17 rfl ?_
  refine z_ldcw znJ6_266 dJ6_bitCount_0f7a4_18 ?_
  refine z_iand dJ6_bitCount_0f7a4_21 rfl ?_
  refine z_iadd dJ6_bitCount_0f7a4_22 rfl ?_
  obtain ⟨u2, eu2, h⟩ := zlet_elim h
  refine z_ti eu2 ?_
  refine z_istore_n dJ6_bitCount_0f7a4_23 rfl (by decide) rfl ?_
  refine z_iload_n dJ6_bitCount_0f7a4_24 rfl ?_
  refine z_iload_n dJ6_bitCount_0f7a4_25 rfl ?_
  refine z_iconst dJ6_bitCount_0f7a4_26 cI_4 ?_
  refine z_iushr dJ6_bitCount_0f7a4_27 rfl ?_
  refine z_iadd dJ6_bitCount_0f7a4_28 rfl ?_
  refine z_ldcw znJ6_267 dJ6_bitCount_0f7a4_29 ?_
  refine z_iand dJ6_bitCount_0f7a4_32 rfl ?_
  obtain ⟨u3, eu3, h⟩ := zlet_elim h
  refine z_ti eu3 ?_
  refine z_istore_n dJ6_bitCount_0f7a4_33 rfl (by decide) rfl ?_
  refine z_iload_n dJ6_bitCount_0f7a4_34 rfl ?_
  refine z_iload_n dJ6_bitCount_0f7a4_35 rfl ?_
  refine z_bipush dJ6_bitCount_0f7a4_36 cB_8 ?_
  refine z_iushr dJ6_bitCount_0f7a4_38 rfl ?_
  refine z_iadd dJ6_bitCount_0f7a4_39 rfl ?_
  obtain ⟨u4, eu4, h⟩ := zlet_elim h
  refine z_ti eu4 ?_
  refine z_istore_n dJ6_bitCount_0f7a4_40 rfl (by decide) rfl ?_
  refine z_iload_n dJ6_bitCount_0f7a4_41 rfl ?_
  refine z_iload_n dJ6_bitCount_0f7a4_42 rfl ?_
  refine z_bipush dJ6_bitCount_0f7a4_43 cB_16 ?_
  refine z_iushr dJ6_bitCount_0f7a4_45 rfl ?_
  refine z_iadd dJ6_bitCount_0f7a4_46 rfl ?_
  obtain ⟨u5, eu5, h⟩ := zlet_elim h
  refine z_ti eu5 ?_
  refine z_istore_n dJ6_bitCount_0f7a4_47 rfl (by decide) rfl ?_
  refine z_iload_n dJ6_bitCount_0f7a4_48 rfl ?_
  refine z_bipush dJ6_bitCount_0f7a4_49 cB_63 ?_
  refine z_iand dJ6_bitCount_0f7a4_51 rfl ?_
  cases h
  exact z_iret rfl dJ6_bitCount_0f7a4_52
/-! X1_take -/
noncomputable def fX1_take (T : zT) (k0 : Nat) (k1 : Nat) (S : zS) : Option (Unit × zS) :=
  zgd (zcg 0 0 24 24 24) (zlet (zCp S (zr T k1 0) (zr T k0 0) (0 : Int32).toNatClampNeg (0 : Int32).toNatClampNeg (24 : Int32).toNatClampNeg) fun S2 => zgd (zcg 0 0 24 24 24) (zlet (zCp S2 (zr T k1 1) (zr T k0 1) (0 : Int32).toNatClampNeg (0 : Int32).toNatClampNeg (24 : Int32).toNatClampNeg) fun S4 => zgd (zcg 0 0 24 24 24) (zlet (zCp S4 (zr T k1 2) (zr T k0 2) (0 : Int32).toNatClampNeg (0 : Int32).toNatClampNeg (24 : Int32).toNatClampNeg) fun S6 => zlet (zI S6 k0 3 (S6.1 k1 3)) fun S7 => some ((), S7))))
set_option maxHeartbeats 4000000 in
set_option maxRecDepth 100000 in
theorem tX1_take (T : zT) (k0 : Nat) (k1 : Nat) (S : zS) (h0 : iX1 T k0) (h1 : iX1 T k1) (r : Unit × zS) (h : fX1_take T k0 k1 S = some r) : zGM 1 mX1_take [.ref k0, .ref k1] T S none T r.2 := by
  refine zGM_of zpnX1 rfl (Nat.le_of_ble_eq_true rfl) (fun g => ?_)
  show zg g 1 mX1_take T 0 [some (.ref k0), some (.ref k1)] [] T S none T r.2
  unfold fX1_take at h
  refine z_aload_n dX1_take_0 rfl ?_
  refine z_gA (zF.x zfX1_9) h1.1 dX1_take_1 ?_
  refine z_iconst dX1_take_4 cI_0 ?_
  refine z_aload_n dX1_take_5 rfl ?_
  refine z_gA (zF.x zfX1_9) h0.1 dX1_take_6 ?_
  refine z_iconst dX1_take_9 cI_0 ?_
  refine z_bipush dX1_take_10 cB_24 ?_
  obtain ⟨q1, h⟩ := zgd_elim h
  obtain ⟨q1a, q1b, q1c, q1d, q1e⟩ := zcg_ok q1
  refine z_copy zxX1_21 zcp_native zcp_static zjJ10 h1.2.1 h0.2.1 q1a q1b q1c q1d q1e (by decide) (Nat.le_of_ble_eq_true rfl) dX1_take_12 ?_
  obtain ⟨S2, eS2, h⟩ := zlet_elim h
  refine z_tS eS2 ?_
  refine z_aload_n dX1_take_15 rfl ?_
  refine z_gA (zF.x zfX1_15) h1.1 dX1_take_16 ?_
  refine z_iconst dX1_take_19 cI_0 ?_
  refine z_aload_n dX1_take_20 rfl ?_
  refine z_gA (zF.x zfX1_15) h0.1 dX1_take_21 ?_
  refine z_iconst dX1_take_24 cI_0 ?_
  refine z_bipush dX1_take_25 cB_24 ?_
  obtain ⟨q3, h⟩ := zgd_elim h
  obtain ⟨q3a, q3b, q3c, q3d, q3e⟩ := zcg_ok q3
  refine z_copy zxX1_21 zcp_native zcp_static zjJ10 h1.2.2.1 h0.2.2.1 q3a q3b q3c q3d q3e (by decide) (Nat.le_of_ble_eq_true rfl) dX1_take_27 ?_
  obtain ⟨S4, eS4, h⟩ := zlet_elim h
  refine z_tS eS4 ?_
  refine z_aload_n dX1_take_30 rfl ?_
  refine z_gA (zF.x zfX1_18) h1.1 dX1_take_31 ?_
  refine z_iconst dX1_take_34 cI_0 ?_
  refine z_aload_n dX1_take_35 rfl ?_
  refine z_gA (zF.x zfX1_18) h0.1 dX1_take_36 ?_
  refine z_iconst dX1_take_39 cI_0 ?_
  refine z_bipush dX1_take_40 cB_24 ?_
  obtain ⟨q5, h⟩ := zgd_elim h
  obtain ⟨q5a, q5b, q5c, q5d, q5e⟩ := zcg_ok q5
  refine z_copy zxX1_21 zcp_native zcp_static zjJ10 h1.2.2.2 h0.2.2.2 q5a q5b q5c q5d q5e (by decide) (Nat.le_of_ble_eq_true rfl) dX1_take_42 ?_
  obtain ⟨S6, eS6, h⟩ := zlet_elim h
  refine z_tS eS6 ?_
  refine z_aload_n dX1_take_45 rfl ?_
  refine z_aload_n dX1_take_46 rfl ?_
  refine z_gI (zF.x zfX1_27) h1.1 dX1_take_47 ?_
  refine z_putI zfX1_27 h0.1 dX1_take_50 ?_
  obtain ⟨S7, eS7, h⟩ := zlet_elim h
  refine z_tS eS7 ?_
  cases h
  exact z_vret rfl dX1_take_53
/-! X2_take -/
noncomputable def fX2_take (T : zT) (k0 : Nat) (k1 : Nat) (S : zS) : Option (Unit × zS) :=
  zgd (zcg 0 0 (S.1 k1 1) 512 512) (zlet (zCp S (zr T k1 0) (zr T k0 0) (0 : Int32).toNatClampNeg (0 : Int32).toNatClampNeg ((S.1 k1 1) : Int32).toNatClampNeg) fun S2 => zlet (zI S2 k0 1 (S2.1 k1 1)) fun S3 => zlet (zI S3 k0 2 (S3.1 k1 2)) fun S4 => some ((), S4))
set_option maxHeartbeats 4000000 in
set_option maxRecDepth 100000 in
theorem tX2_take (T : zT) (k0 : Nat) (k1 : Nat) (S : zS) (h0 : iX2 T k0) (h1 : iX2 T k1) (r : Unit × zS) (h : fX2_take T k0 k1 S = some r) : zGM 1 mX2_take [.ref k0, .ref k1] T S none T r.2 := by
  refine zGM_of zpnX2 rfl (Nat.le_of_ble_eq_true rfl) (fun g => ?_)
  show zg g 1 mX2_take T 0 [some (.ref k0), some (.ref k1)] [] T S none T r.2
  unfold fX2_take at h
  refine z_aload_n dX2_take_0 rfl ?_
  refine z_gA (zF.x zfX2_9) h1.1 dX2_take_1 ?_
  refine z_iconst dX2_take_4 cI_0 ?_
  refine z_aload_n dX2_take_5 rfl ?_
  refine z_gA (zF.x zfX2_9) h0.1 dX2_take_6 ?_
  refine z_iconst dX2_take_9 cI_0 ?_
  refine z_aload_n dX2_take_10 rfl ?_
  refine z_gI (zF.x zfX2_15) h1.1 dX2_take_11 ?_
  obtain ⟨q1, h⟩ := zgd_elim h
  obtain ⟨q1a, q1b, q1c, q1d, q1e⟩ := zcg_ok q1
  refine z_copy zxX2_22 zcp_native zcp_static zjJ10 h1.2 h0.2 q1a q1b q1c q1d q1e (by decide) (Nat.le_of_ble_eq_true rfl) dX2_take_14 ?_
  obtain ⟨S2, eS2, h⟩ := zlet_elim h
  refine z_tS eS2 ?_
  refine z_aload_n dX2_take_17 rfl ?_
  refine z_aload_n dX2_take_18 rfl ?_
  refine z_gI (zF.x zfX2_15) h1.1 dX2_take_19 ?_
  refine z_putI zfX2_15 h0.1 dX2_take_22 ?_
  obtain ⟨S3, eS3, h⟩ := zlet_elim h
  refine z_tS eS3 ?_
  refine z_aload_n dX2_take_25 rfl ?_
  refine z_aload_n dX2_take_26 rfl ?_
  refine z_gI (zF.x zfX2_19) h1.1 dX2_take_27 ?_
  refine z_putI zfX2_19 h0.1 dX2_take_30 ?_
  obtain ⟨S4, eS4, h⟩ := zlet_elim h
  refine z_tS eS4 ?_
  cases h
  exact z_vret rfl dX2_take_33
/-! X7_take -/
noncomputable def fX7_take (T : zT) (k0 : Nat) (k1 : Nat) (S : zS) : Option (Unit × zS) :=
  zgd (zcg 0 0 60 60 60) (zlet (zCp S (zr T k1 0) (zr T k0 0) (0 : Int32).toNatClampNeg (0 : Int32).toNatClampNeg (60 : Int32).toNatClampNeg) fun S2 => zgd (zcg 0 0 60 60 60) (zlet (zCp S2 (zr T k1 1) (zr T k0 1) (0 : Int32).toNatClampNeg (0 : Int32).toNatClampNeg (60 : Int32).toNatClampNeg) fun S4 => zgd (zcg 0 0 60 60 60) (zlet (zCp S4 (zr T k1 2) (zr T k0 2) (0 : Int32).toNatClampNeg (0 : Int32).toNatClampNeg (60 : Int32).toNatClampNeg) fun S6 => zlet (zI S6 k0 3 (S6.1 k1 3)) fun S7 => some ((), S7))))
set_option maxHeartbeats 4000000 in
set_option maxRecDepth 100000 in
theorem tX7_take (T : zT) (k0 : Nat) (k1 : Nat) (S : zS) (h0 : iX7 T k0) (h1 : iX7 T k1) (r : Unit × zS) (h : fX7_take T k0 k1 S = some r) : zGM 1 mX7_take [.ref k0, .ref k1] T S none T r.2 := by
  refine zGM_of zpnX7 rfl (Nat.le_of_ble_eq_true rfl) (fun g => ?_)
  show zg g 1 mX7_take T 0 [some (.ref k0), some (.ref k1)] [] T S none T r.2
  unfold fX7_take at h
  refine z_aload_n dX7_take_0 rfl ?_
  refine z_gA (zF.x zfX7_9) h1.1 dX7_take_1 ?_
  refine z_iconst dX7_take_4 cI_0 ?_
  refine z_aload_n dX7_take_5 rfl ?_
  refine z_gA (zF.x zfX7_9) h0.1 dX7_take_6 ?_
  refine z_iconst dX7_take_9 cI_0 ?_
  refine z_bipush dX7_take_10 cB_60 ?_
  obtain ⟨q1, h⟩ := zgd_elim h
  obtain ⟨q1a, q1b, q1c, q1d, q1e⟩ := zcg_ok q1
  refine z_copy zxX7_21 zcp_native zcp_static zjJ10 h1.2.1 h0.2.1 q1a q1b q1c q1d q1e (by decide) (Nat.le_of_ble_eq_true rfl) dX7_take_12 ?_
  obtain ⟨S2, eS2, h⟩ := zlet_elim h
  refine z_tS eS2 ?_
  refine z_aload_n dX7_take_15 rfl ?_
  refine z_gA (zF.x zfX7_15) h1.1 dX7_take_16 ?_
  refine z_iconst dX7_take_19 cI_0 ?_
  refine z_aload_n dX7_take_20 rfl ?_
  refine z_gA (zF.x zfX7_15) h0.1 dX7_take_21 ?_
  refine z_iconst dX7_take_24 cI_0 ?_
  refine z_bipush dX7_take_25 cB_60 ?_
  obtain ⟨q3, h⟩ := zgd_elim h
  obtain ⟨q3a, q3b, q3c, q3d, q3e⟩ := zcg_ok q3
  refine z_copy zxX7_21 zcp_native zcp_static zjJ10 h1.2.2.1 h0.2.2.1 q3a q3b q3c q3d q3e (by decide) (Nat.le_of_ble_eq_true rfl) dX7_take_27 ?_
  obtain ⟨S4, eS4, h⟩ := zlet_elim h
  refine z_tS eS4 ?_
  refine z_aload_n dX7_take_30 rfl ?_
  refine z_gA (zF.x zfX7_18) h1.1 dX7_take_31 ?_
  refine z_iconst dX7_take_34 cI_0 ?_
  refine z_aload_n dX7_take_35 rfl ?_
  refine z_gA (zF.x zfX7_18) h0.1 dX7_take_36 ?_
  refine z_iconst dX7_take_39 cI_0 ?_
  refine z_bipush dX7_take_40 cB_60 ?_
  obtain ⟨q5, h⟩ := zgd_elim h
  obtain ⟨q5a, q5b, q5c, q5d, q5e⟩ := zcg_ok q5
  refine z_copy zxX7_21 zcp_native zcp_static zjJ10 h1.2.2.2 h0.2.2.2 q5a q5b q5c q5d q5e (by decide) (Nat.le_of_ble_eq_true rfl) dX7_take_42 ?_
  obtain ⟨S6, eS6, h⟩ := zlet_elim h
  refine z_tS eS6 ?_
  refine z_aload_n dX7_take_45 rfl ?_
  refine z_aload_n dX7_take_46 rfl ?_
  refine z_gI (zF.x zfX7_27) h1.1 dX7_take_47 ?_
  refine z_putI zfX7_27 h0.1 dX7_take_50 ?_
  obtain ⟨S7, eS7, h⟩ := zlet_elim h
  refine z_tS eS7 ?_
  cases h
  exact z_vret rfl dX7_take_53
/-! X8_clear -/
noncomputable def fX8_clear (T : zT) (k0 : Nat) (S : zS) : Option (Unit × zS) :=
  zlet (zI S k0 2 0) fun S1 => zlet (zI S1 k0 3 0) fun S2 => zb (fX2_clear T (zr T k0 4) S2) fun _ S5 => some ((), S5)
set_option maxHeartbeats 4000000 in
set_option maxRecDepth 100000 in
theorem tX8_clear (T : zT) (k0 : Nat) (S : zS) (h0 : iX8 T k0) (r : Unit × zS) (h : fX8_clear T k0 S = some r) : zGM 1 mX8_clear [.ref k0] T S none T r.2 := by
  refine zGM_of zpnX8 rfl (Nat.le_of_ble_eq_true rfl) (fun g => ?_)
  show zg g 1 mX8_clear T 0 [some (.ref k0)] [] T S none T r.2
  unfold fX8_clear at h
  refine z_aload_n dX8_clear_0 rfl ?_
  refine z_iconst dX8_clear_1 cI_0 ?_
  refine z_putI zfX8_25 h0.1 dX8_clear_2 ?_
  obtain ⟨S1, eS1, h⟩ := zlet_elim h
  refine z_tS eS1 ?_
  refine z_aload_n dX8_clear_5 rfl ?_
  refine z_iconst dX8_clear_6 cI_0 ?_
  refine z_putI zfX8_29 h0.1 dX8_clear_7 ?_
  obtain ⟨S2, eS2, h⟩ := zlet_elim h
  refine z_tS eS2 ?_
  refine z_aload_n dX8_clear_10 rfl ?_
  refine z_gR (zF.x zfX8_21) h0.1 dX8_clear_11 ?_
  obtain ⟨r3, S5, hc4, h⟩ := zb_elim h
  refine z_callV (As := []) zcX2 zkX8_32 ziX2_clear zqX2_clear h0.2.2.2.1 (tX2_clear T (zr T k0 4) S2 h0.2.2.2 (r3, S5) hc4) rfl rfl (Nat.le_of_ble_eq_true rfl) (by decide) ⟨Nat.le_refl _, Nat.le_refl _⟩ ⟨Nat.le_refl _, Nat.le_refl _⟩ dX8_clear_14 ?_
  cases h
  exact z_vret rfl dX8_clear_17
/-! X9_place -/
noncomputable def fX9_place (T : zT) (k0 : Nat) (x1 : Int32) (x2 : Int32) (x3 : Int32) (S : zS) : Option (Unit × zS) :=
  zgd (zin 19 26) (zlet (zJ S (zr T k0 0) (19 : Int32).toNatClampNeg ((x1 : Int32).toInt64)) fun S2 => zb1 (fJ6_bitCount_0f7a4 T x2 S2) fun r3 => zgd (zin 20 26) (zlet (zJ S2 (zr T k0 0) (20 : Int32).toNatClampNeg ((r3 : Int32).toInt64)) fun S6 => zb1 (fJ6_bitCount_0f7a4 T x3 S6) fun r7 => zgd (zin 21 26) (zlet (zJ S6 (zr T k0 0) (21 : Int32).toNatClampNeg ((r7 : Int32).toInt64)) fun S10 => some ((), S10))))
set_option maxHeartbeats 4000000 in
set_option maxRecDepth 100000 in
theorem tX9_place (T : zT) (k0 : Nat) (x1 : Int32) (x2 : Int32) (x3 : Int32) (S : zS) (h0 : iX9 T k0) (r : Unit × zS) (h : fX9_place T k0 x1 x2 x3 S = some r) : zGM 1 mX9_place [.ref k0, .int x1, .int x2, .int x3] T S none T r.2 := by
  refine zGM_of zpnX9 rfl (Nat.le_of_ble_eq_true rfl) (fun g => ?_)
  show zg g 1 mX9_place T 0 [some (.ref k0), some (.int x1), some (.int x2), some (.int x3)] [] T S none T r.2
  unfold fX9_place at h
  refine z_aload_n dX9_place_0 rfl ?_
  refine z_gA (zF.x zfX9_9) h0.1 dX9_place_1 ?_
  refine z_bipush dX9_place_4 cB_19 ?_
  refine z_iload_n dX9_place_6 rfl ?_
  refine z_i2l dX9_place_7 rfl ?_
  obtain ⟨q1, h⟩ := zgd_elim h
  refine z_last h0.2.1 (zin_ok q1) dX9_place_8 ?_
  obtain ⟨S2, eS2, h⟩ := zlet_elim h
  refine z_tS eS2 ?_
  refine z_aload_n dX9_place_9 rfl ?_
  refine z_gA (zF.x zfX9_9) h0.1 dX9_place_10 ?_
  refine z_bipush dX9_place_13 cB_20 ?_
  refine z_iload_n dX9_place_15 rfl ?_
  obtain ⟨r3, hc4, h⟩ := zb1_elim h
  refine z_callS (As := [.int x2]) zkX9_18 zsJ6_bitCount_0f7a4 (tJ6_bitCount_0f7a4 T x2 S2  r3 hc4) rfl rfl (Nat.le_of_ble_eq_true rfl) (by decide) ⟨Nat.le_refl _, Nat.le_refl _⟩ ⟨Nat.le_refl _, Nat.le_refl _⟩ dX9_place_16 ?_
  refine z_i2l dX9_place_19 rfl ?_
  obtain ⟨q5, h⟩ := zgd_elim h
  refine z_last h0.2.1 (zin_ok q5) dX9_place_20 ?_
  obtain ⟨S6, eS6, h⟩ := zlet_elim h
  refine z_tS eS6 ?_
  refine z_aload_n dX9_place_21 rfl ?_
  refine z_gA (zF.x zfX9_9) h0.1 dX9_place_22 ?_
  refine z_bipush dX9_place_25 cB_21 ?_
  refine z_iload_n dX9_place_27 rfl ?_
  obtain ⟨r7, hc8, h⟩ := zb1_elim h
  refine z_callS (As := [.int x3]) zkX9_18 zsJ6_bitCount_0f7a4 (tJ6_bitCount_0f7a4 T x3 S6  r7 hc8) rfl rfl (Nat.le_of_ble_eq_true rfl) (by decide) ⟨Nat.le_refl _, Nat.le_refl _⟩ ⟨Nat.le_refl _, Nat.le_refl _⟩ dX9_place_28 ?_
  refine z_i2l dX9_place_31 rfl ?_
  obtain ⟨q9, h⟩ := zgd_elim h
  refine z_last h0.2.1 (zin_ok q9) dX9_place_32 ?_
  obtain ⟨S10, eS10, h⟩ := zlet_elim h
  refine z_tS eS10 ?_
  cases h
  exact z_vret rfl dX9_place_33
/-! X9_valueAt -/
noncomputable def fX9_valueAt_b157 (T : zT) (k0 : Nat) (k1 : Nat) (x3 : Int32) (x4 : Int32) (S : zS) : Option ((Int32 × Int32 × zS) ⊕ ((Int32 × zS) ⊕ (Int32 × zS))) :=
  zlet (x4 + 1) fun u9 => some (.inl (x3, u9, S))
noncomputable def fX9_valueAt_b87 (T : zT) (k0 : Nat) (k1 : Nat) (x3 : Int32) (x4 : Int32) (S : zS) : Option ((Int32 × Int32 × zS) ⊕ ((Int32 × zS) ⊕ (Int32 × zS))) :=
  fX9_valueAt_b157 T k0 k1 x3 x4 S
noncomputable def fX9_valueAt_b83 (T : zT) (k0 : Nat) (k1 : Nat) (x3 : Int32) (x4 : Int32) (s0 : Int64) (s1 : Int32) (s2 : Nat) (m2 : Nat) (S : zS) : Option ((Int32 × Int32 × zS) ⊕ ((Int32 × zS) ⊕ (Int32 × zS))) :=
  zgd (zin s1 m2) (zlet (zJ S s2 (s1 : Int32).toNatClampNeg s0) fun S14 => zlet (x3 + 1) fun u15 => fX9_valueAt_b87 T k0 k1 u15 x4 S14)
noncomputable def fX9_valueAt_b45 (T : zT) (k0 : Nat) (k1 : Nat) (x3 : Int32) (x4 : Int32) (x5 : Int32) (S : zS) : Option ((Int32 × Int32 × zS) ⊕ ((Int32 × zS) ⊕ (Int32 × zS))) :=
  zb1 (fX2_numberAt T k1 x4 S) fun r6 => if 64 ≤ x3 then fX9_valueAt_b87 T k0 k1 x3 x4 S else if x5 = 31 then fX9_valueAt_b83 T k0 k1 x3 x4 ((r6 : Int32).toInt64) x3 (zr T k0 1) 64 S else zb1 (fX9_wordValue T k0 r6 S) fun r11 => fX9_valueAt_b83 T k0 k1 x3 x4 r11 x3 (zr T k0 1) 64 S
noncomputable def fX9_valueAt_l5 (T : zT) (k0 : Nat) (k1 : Nat) (x3 : Int32) (x4 : Int32) (S : zS) : Option ((Int32 × Int32 × zS) ⊕ ((Int32 × zS) ⊕ (Int32 × zS))) :=
  if 512 ≤ x4 then some (.inr (.inl (x3, S))) else zb1 (fX2_kindAt T k1 x4 S) fun r2 => if r2 = 48 then some (.inr (.inr (x3, S))) else if r2 = 31 then fX9_valueAt_b45 T k0 k1 x3 x4 r2 S else if r2 = 47 then fX9_valueAt_b45 T k0 k1 x3 x4 r2 S else if r2 = 18 then if x3 ≤ 0 then fX9_valueAt_b157 T k0 k1 x3 x4 S else zgd (zin (x3 - 1) 64) (zgd (zin (x3 - 1) 64) (zlet (zJ S (zr T k0 1) ((x3 - 1) : Int32).toNatClampNeg (1 - (S.2 (zr T k0 1) ((x3 - 1) : Int32).toNatClampNeg))) fun S29 => fX9_valueAt_b157 T k0 k1 x3 x4 S29)) else if x3 ≤ 1 then fX9_valueAt_b157 T k0 k1 x3 x4 S else zlet (x3 + (-1)) fun u19 => zgd (zin (u19 - 1) 64) (zgd (zin u19 64) (zb1 (fX9_joined T r2 (S.2 (zr T k0 1) ((u19 - 1) : Int32).toNatClampNeg) (S.2 (zr T k0 1) (u19 : Int32).toNatClampNeg) S) fun r22 => zgd (zin (u19 - 1) 64) (zlet (zJ S (zr T k0 1) ((u19 - 1) : Int32).toNatClampNeg r22) fun S25 => fX9_valueAt_b157 T k0 k1 u19 x4 S25)))
noncomputable def fX9_valueAt_b177 (T : zT) (s0 : Int64) (S : zS) : Option (Int64 × zS) :=
  some (s0, S)
noncomputable def fX9_valueAt_b163 (T : zT) (k0 : Nat) (x3 : Int32) (S : zS) : Option (Int64 × zS) :=
  if x3 ≤ 0 then fX9_valueAt_b177 T 0 S else zgd (zin 0 64) (fX9_valueAt_b177 T (S.2 (zr T k0 1) (0 : Int32).toNatClampNeg) S)
noncomputable def fX9_valueAt (T : zT) (k0 : Nat) (k1 : Nat) (x2 : Int32) (S : zS) : Option (Int64 × zS) :=
  zb1 (lp (fun a => fX9_valueAt_l5 T k0 k1 a.1 a.2.1 a.2.2) (0, x2, S)) fun e30 => zsm e30 (fun e30_0 => fX9_valueAt_b163 T k0 e30_0.1 e30_0.2) (fun e30_1 => fX9_valueAt_b163 T k0 e30_1.1 e30_1.2)
set_option maxHeartbeats 4000000 in
set_option maxRecDepth 100000 in
theorem tX9_valueAt_b157 (T : zT) (k0 : Nat) (k1 : Nat) (x3 : Int32) (x4 : Int32) (S : zS) (h0 : iX9 T k0) (h1 : iX2 T k1) {g : zG} {v : Option Value} {S' : zS} (r : ((Int32 × Int32 × zS) ⊕ ((Int32 × zS) ⊕ (Int32 × zS)))) (h : fX9_valueAt_b157 T k0 k1 x3 x4 S = some r) (K1 : ∀ a : (Int32 × Int32 × zS), r = .inl a → zg g 1 mX9_valueAt T 5 [some (.ref k0), some (.ref k1), none, some (.int a.1), some (.int a.2.1), none, none] [] T a.2.2 v T S') (K2_0 : ∀ e : (Int32 × zS), r = .inr (.inl e) → zg g 1 mX9_valueAt T 163 [some (.ref k0), none, none, some (.int e.1), none, none, none] [] T e.2 v T S') (K2_1 : ∀ e : (Int32 × zS), r = .inr (.inr e) → zg g 1 mX9_valueAt T 28 [some (.ref k0), none, none, some (.int e.1), none, none, none] [] T e.2 v T S') : zg g 1 mX9_valueAt T 157 [some (.ref k0), some (.ref k1), none, some (.int x3), some (.int x4), none, none] [] T S v T S' := by
  unfold fX9_valueAt_b157 at h
  obtain ⟨u9, eu9, h⟩ := zlet_elim h
  refine z_iinc (r := u9) dX9_valueAt_157 rfl (by rw [eu9, cI_1]) rfl (by decide) rfl ?_
  refine z_goto (tgt := 5) dX9_valueAt_160 (by decide) ?_
  cases h
  exact z_mask [true, true, false, true, true, false, false] rfl (K1 _ rfl)
set_option maxHeartbeats 4000000 in
set_option maxRecDepth 100000 in
theorem tX9_valueAt_b87 (T : zT) (k0 : Nat) (k1 : Nat) (x3 : Int32) (x4 : Int32) (S : zS) (h0 : iX9 T k0) (h1 : iX2 T k1) {g : zG} {v : Option Value} {S' : zS} (r : ((Int32 × Int32 × zS) ⊕ ((Int32 × zS) ⊕ (Int32 × zS)))) (h : fX9_valueAt_b87 T k0 k1 x3 x4 S = some r) (K1 : ∀ a : (Int32 × Int32 × zS), r = .inl a → zg g 1 mX9_valueAt T 5 [some (.ref k0), some (.ref k1), none, some (.int a.1), some (.int a.2.1), none, none] [] T a.2.2 v T S') (K2_0 : ∀ e : (Int32 × zS), r = .inr (.inl e) → zg g 1 mX9_valueAt T 163 [some (.ref k0), none, none, some (.int e.1), none, none, none] [] T e.2 v T S') (K2_1 : ∀ e : (Int32 × zS), r = .inr (.inr e) → zg g 1 mX9_valueAt T 28 [some (.ref k0), none, none, some (.int e.1), none, none, none] [] T e.2 v T S') : zg g 1 mX9_valueAt T 87 [some (.ref k0), some (.ref k1), none, some (.int x3), some (.int x4), none, none] [] T S v T S' := by
  unfold fX9_valueAt_b87 at h
  refine z_goto (tgt := 157) dX9_valueAt_87 (by decide) ?_
  exact z_mask [true, true, false, true, true, false, false] rfl (tX9_valueAt_b157 T k0 k1 x3 x4 S h0 h1 r h K1 K2_0 K2_1)
set_option maxHeartbeats 4000000 in
set_option maxRecDepth 100000 in
theorem tX9_valueAt_b83 (T : zT) (k0 : Nat) (k1 : Nat) (x3 : Int32) (x4 : Int32) (s0 : Int64) (s1 : Int32) (s2 : Nat) (m2 : Nat) (S : zS) (h0 : iX9 T k0) (h1 : iX2 T k1) (g2 : zL T s2 21 m2) {g : zG} {v : Option Value} {S' : zS} (r : ((Int32 × Int32 × zS) ⊕ ((Int32 × zS) ⊕ (Int32 × zS)))) (h : fX9_valueAt_b83 T k0 k1 x3 x4 s0 s1 s2 m2 S = some r) (K1 : ∀ a : (Int32 × Int32 × zS), r = .inl a → zg g 1 mX9_valueAt T 5 [some (.ref k0), some (.ref k1), none, some (.int a.1), some (.int a.2.1), none, none] [] T a.2.2 v T S') (K2_0 : ∀ e : (Int32 × zS), r = .inr (.inl e) → zg g 1 mX9_valueAt T 163 [some (.ref k0), none, none, some (.int e.1), none, none, none] [] T e.2 v T S') (K2_1 : ∀ e : (Int32 × zS), r = .inr (.inr e) → zg g 1 mX9_valueAt T 28 [some (.ref k0), none, none, some (.int e.1), none, none, none] [] T e.2 v T S') : zg g 1 mX9_valueAt T 83 [some (.ref k0), some (.ref k1), none, some (.int x3), some (.int x4), none, none] [.long s0, .int s1, .ref s2] T S v T S' := by
  unfold fX9_valueAt_b83 at h
  obtain ⟨q13, h⟩ := zgd_elim h
  refine z_last g2 (zin_ok q13) dX9_valueAt_83 ?_
  obtain ⟨S14, eS14, h⟩ := zlet_elim h
  refine z_tS eS14 ?_
  obtain ⟨u15, eu15, h⟩ := zlet_elim h
  refine z_iinc (r := u15) dX9_valueAt_84 rfl (by rw [eu15, cI_1]) rfl (by decide) rfl ?_
  exact z_mask [true, true, false, true, true, false, false] rfl (tX9_valueAt_b87 T k0 k1 u15 x4 S14 h0 h1 r h K1 K2_0 K2_1)
set_option maxHeartbeats 4000000 in
set_option maxRecDepth 100000 in
theorem tX9_valueAt_b45 (T : zT) (k0 : Nat) (k1 : Nat) (x3 : Int32) (x4 : Int32) (x5 : Int32) (S : zS) (h0 : iX9 T k0) (h1 : iX2 T k1) {g : zG} {v : Option Value} {S' : zS} (r : ((Int32 × Int32 × zS) ⊕ ((Int32 × zS) ⊕ (Int32 × zS)))) (h : fX9_valueAt_b45 T k0 k1 x3 x4 x5 S = some r) (K1 : ∀ a : (Int32 × Int32 × zS), r = .inl a → zg g 1 mX9_valueAt T 5 [some (.ref k0), some (.ref k1), none, some (.int a.1), some (.int a.2.1), none, none] [] T a.2.2 v T S') (K2_0 : ∀ e : (Int32 × zS), r = .inr (.inl e) → zg g 1 mX9_valueAt T 163 [some (.ref k0), none, none, some (.int e.1), none, none, none] [] T e.2 v T S') (K2_1 : ∀ e : (Int32 × zS), r = .inr (.inr e) → zg g 1 mX9_valueAt T 28 [some (.ref k0), none, none, some (.int e.1), none, none, none] [] T e.2 v T S') : zg g 1 mX9_valueAt T 45 [some (.ref k0), some (.ref k1), none, some (.int x3), some (.int x4), some (.int x5), none] [] T S v T S' := by
  unfold fX9_valueAt_b45 at h
  refine z_aload_n dX9_valueAt_45 rfl ?_
  refine z_iload dX9_valueAt_46 rfl ?_
  obtain ⟨r6, hc7, h⟩ := zb1_elim h
  refine z_callV (As := [.int x4]) zcX2 zkX9_29 ziX2_numberAt zqX2_numberAt h1.1 (tX2_numberAt T k1 x4 S h1 r6 hc7) rfl rfl (Nat.le_of_ble_eq_true rfl) (by decide) ⟨Nat.le_refl _, Nat.le_refl _⟩ ⟨Nat.le_refl _, Nat.le_refl _⟩ dX9_valueAt_48 ?_
  refine z_istore dX9_valueAt_51 rfl (by decide) rfl ?_
  refine z_iload_n dX9_valueAt_53 rfl ?_
  refine z_bipush dX9_valueAt_54 cB_64 ?_
  refine z_icmp_ge (tgt := 87) dX9_valueAt_56 (by decide) (fun q8 => ?_) (fun q8 => ?_)
  · rw [if_pos q8] at h
    exact z_mask [true, true, false, true, true, false, false] rfl (tX9_valueAt_b87 T k0 k1 x3 x4 S h0 h1 r h K1 K2_0 K2_1)
  · rw [if_neg q8] at h
    refine z_aload_n dX9_valueAt_59 rfl ?_
    refine z_gA (zF.x zfX9_15) h0.1 dX9_valueAt_60 ?_
    refine z_iload_n dX9_valueAt_63 rfl ?_
    refine z_iload dX9_valueAt_64 rfl ?_
    refine z_bipush dX9_valueAt_66 cB_31 ?_
    refine z_icmp_ne (tgt := 77) dX9_valueAt_68 (by decide) (fun q10 => ?_) (fun q10 => ?_)
    · rw [if_neg q10] at h
      refine z_aload_n dX9_valueAt_77 rfl ?_
      refine z_iload dX9_valueAt_78 rfl ?_
      obtain ⟨r11, hc12, h⟩ := zb1_elim h
      refine z_callV (As := [.int r6]) zcX9 zkX9_32 ziX9_wordValue zqX9_wordValue h0.1 (tX9_wordValue T k0 r6 S h0 r11 hc12) rfl rfl (Nat.le_of_ble_eq_true rfl) (by decide) ⟨Nat.le_refl _, Nat.le_refl _⟩ ⟨Nat.le_refl _, Nat.le_refl _⟩ dX9_valueAt_80 ?_
      exact z_mask [true, true, false, true, true, false, false] rfl (tX9_valueAt_b83 T k0 k1 x3 x4 r11 x3 (zr T k0 1) 64 S h0 h1 h0.2.2 r h K1 K2_0 K2_1)
    · rw [if_pos q10] at h
      refine z_iload dX9_valueAt_71 rfl ?_
      refine z_i2l dX9_valueAt_73 rfl ?_
      refine z_goto (tgt := 83) dX9_valueAt_74 (by decide) ?_
      exact z_mask [true, true, false, true, true, false, false] rfl (tX9_valueAt_b83 T k0 k1 x3 x4 ((r6 : Int32).toInt64) x3 (zr T k0 1) 64 S h0 h1 h0.2.2 r h K1 K2_0 K2_1)
set_option maxHeartbeats 4000000 in
set_option maxRecDepth 100000 in
theorem tX9_valueAt_l5b (T : zT) (k0 : Nat) (k1 : Nat) (x3 : Int32) (x4 : Int32) (S : zS) (h0 : iX9 T k0) (h1 : iX2 T k1) {g : zG} {v : Option Value} {S' : zS} (r : (Int32 × Int32 × zS) ⊕ ((Int32 × zS) ⊕ (Int32 × zS))) (h : fX9_valueAt_l5 T k0 k1 x3 x4 S = some r) (K1 : ∀ a : (Int32 × Int32 × zS), r = .inl a → zg g 1 mX9_valueAt T 5 [some (.ref k0), some (.ref k1), none, some (.int a.1), some (.int a.2.1), none, none] [] T a.2.2 v T S') (K2_0 : ∀ e : (Int32 × zS), r = .inr (.inl e) → zg g 1 mX9_valueAt T 163 [some (.ref k0), none, none, some (.int e.1), none, none, none] [] T e.2 v T S') (K2_1 : ∀ e : (Int32 × zS), r = .inr (.inr e) → zg g 1 mX9_valueAt T 28 [some (.ref k0), none, none, some (.int e.1), none, none, none] [] T e.2 v T S') : zg g 1 mX9_valueAt T 5 [some (.ref k0), some (.ref k1), none, some (.int x3), some (.int x4), none, none] [] T S v T S' := by
  unfold fX9_valueAt_l5 at h
  refine z_iload dX9_valueAt_5 rfl ?_
  refine z_sipush dX9_valueAt_7 cS_512 ?_
  refine z_icmp_ge (tgt := 163) dX9_valueAt_10 (by decide) (fun q1 => ?_) (fun q1 => ?_)
  · rw [if_pos q1] at h
    cases h
    exact z_mask [true, false, false, true, false, false, false] rfl (K2_0 _ rfl)
  · rw [if_neg q1] at h
    refine z_aload_n dX9_valueAt_13 rfl ?_
    refine z_iload dX9_valueAt_14 rfl ?_
    obtain ⟨r2, hc3, h⟩ := zb1_elim h
    refine z_callV (As := [.int x4]) zcX2 zkX9_24 ziX2_kindAt zqX2_kindAt h1.1 (tX2_kindAt T k1 x4 S h1 r2 hc3) rfl rfl (Nat.le_of_ble_eq_true rfl) (by decide) ⟨Nat.le_refl _, Nat.le_refl _⟩ ⟨Nat.le_refl _, Nat.le_refl _⟩ dX9_valueAt_16 ?_
    refine z_istore dX9_valueAt_19 rfl (by decide) rfl ?_
    refine z_iload dX9_valueAt_21 rfl ?_
    refine z_bipush dX9_valueAt_23 cB_48 ?_
    refine z_icmp_ne (tgt := 31) dX9_valueAt_25 (by decide) (fun q4 => ?_) (fun q4 => ?_)
    · rw [if_neg q4] at h
      refine z_iload dX9_valueAt_31 rfl ?_
      refine z_bipush dX9_valueAt_33 cB_31 ?_
      refine z_icmp_eq (tgt := 45) dX9_valueAt_35 (by decide) (fun q5 => ?_) (fun q5 => ?_)
      · rw [if_pos q5] at h
        exact z_mask [true, true, false, true, true, true, false] rfl (tX9_valueAt_b45 T k0 k1 x3 x4 r2 S h0 h1 r h K1 K2_0 K2_1)
      · rw [if_neg q5] at h
        refine z_iload dX9_valueAt_38 rfl ?_
        refine z_bipush dX9_valueAt_40 cB_47 ?_
        refine z_icmp_ne (tgt := 90) dX9_valueAt_42 (by decide) (fun q16 => ?_) (fun q16 => ?_)
        · rw [if_neg q16] at h
          refine z_iload dX9_valueAt_90 rfl ?_
          refine z_bipush dX9_valueAt_92 cB_18 ?_
          refine z_icmp_ne (tgt := 122) dX9_valueAt_94 (by decide) (fun q17 => ?_) (fun q17 => ?_)
          · rw [if_neg q17] at h
            refine z_iload_n dX9_valueAt_122 rfl ?_
            refine z_iconst dX9_valueAt_123 cI_1 ?_
            refine z_icmp_le (tgt := 157) dX9_valueAt_124 (by decide) (fun q18 => ?_) (fun q18 => ?_)
            · rw [if_pos q18] at h
              exact z_mask [true, true, false, true, true, false, false] rfl (tX9_valueAt_b157 T k0 k1 x3 x4 S h0 h1 r h K1 K2_0 K2_1)
            · rw [if_neg q18] at h
              obtain ⟨u19, eu19, h⟩ := zlet_elim h
              refine z_iinc (r := u19) dX9_valueAt_127 rfl (by rw [eu19, cI_m1]) rfl (by decide) rfl ?_
              refine z_aload_n dX9_valueAt_130 rfl ?_
              refine z_gA (zF.x zfX9_15) h0.1 dX9_valueAt_131 ?_
              refine z_iload_n dX9_valueAt_134 rfl ?_
              refine z_iconst dX9_valueAt_135 cI_1 ?_
              refine z_isub dX9_valueAt_136 rfl ?_
              refine z_iload dX9_valueAt_137 rfl ?_
              refine z_aload_n dX9_valueAt_139 rfl ?_
              refine z_gA (zF.x zfX9_15) h0.1 dX9_valueAt_140 ?_
              refine z_iload_n dX9_valueAt_143 rfl ?_
              refine z_iconst dX9_valueAt_144 cI_1 ?_
              refine z_isub dX9_valueAt_145 rfl ?_
              obtain ⟨q20, h⟩ := zgd_elim h
              refine z_lald h0.2.2 (zin_ok q20) dX9_valueAt_146 ?_
              refine z_aload_n dX9_valueAt_147 rfl ?_
              refine z_gA (zF.x zfX9_15) h0.1 dX9_valueAt_148 ?_
              refine z_iload_n dX9_valueAt_151 rfl ?_
              obtain ⟨q21, h⟩ := zgd_elim h
              refine z_lald h0.2.2 (zin_ok q21) dX9_valueAt_152 ?_
              obtain ⟨r22, hc23, h⟩ := zb1_elim h
              refine z_callS (As := [.int r2, .long (S.2 (zr T k0 1) ((u19 - 1) : Int32).toNatClampNeg), .long (S.2 (zr T k0 1) (u19 : Int32).toNatClampNeg)]) zkX9_36 zsX9_joined (tX9_joined T r2 (S.2 (zr T k0 1) ((u19 - 1) : Int32).toNatClampNeg) (S.2 (zr T k0 1) (u19 : Int32).toNatClampNeg) S  r22 hc23) rfl rfl (Nat.le_of_ble_eq_true rfl) (by decide) ⟨Nat.le_refl _, Nat.le_refl _⟩ ⟨Nat.le_refl _, Nat.le_refl _⟩ dX9_valueAt_153 ?_
              obtain ⟨q24, h⟩ := zgd_elim h
              refine z_last h0.2.2 (zin_ok q24) dX9_valueAt_156 ?_
              obtain ⟨S25, eS25, h⟩ := zlet_elim h
              refine z_tS eS25 ?_
              exact z_mask [true, true, false, true, true, false, false] rfl (tX9_valueAt_b157 T k0 k1 u19 x4 S25 h0 h1 r h K1 K2_0 K2_1)
          · rw [if_pos q17] at h
            refine z_iload_n dX9_valueAt_97 rfl ?_
            refine z_if_le (tgt := 157) dX9_valueAt_98 (by decide) (fun q26 => ?_) (fun q26 => ?_)
            · rw [if_pos q26] at h
              exact z_mask [true, true, false, true, true, false, false] rfl (tX9_valueAt_b157 T k0 k1 x3 x4 S h0 h1 r h K1 K2_0 K2_1)
            · rw [if_neg q26] at h
              refine z_aload_n dX9_valueAt_101 rfl ?_
              refine z_gA (zF.x zfX9_15) h0.1 dX9_valueAt_102 ?_
              refine z_iload_n dX9_valueAt_105 rfl ?_
              refine z_iconst dX9_valueAt_106 cI_1 ?_
              refine z_isub dX9_valueAt_107 rfl ?_
              refine z_lconst (r := 1) dX9_valueAt_108 rfl ?_
              refine z_aload_n dX9_valueAt_109 rfl ?_
              refine z_gA (zF.x zfX9_15) h0.1 dX9_valueAt_110 ?_
              refine z_iload_n dX9_valueAt_113 rfl ?_
              refine z_iconst dX9_valueAt_114 cI_1 ?_
              refine z_isub dX9_valueAt_115 rfl ?_
              obtain ⟨q27, h⟩ := zgd_elim h
              refine z_lald h0.2.2 (zin_ok q27) dX9_valueAt_116 ?_
              refine z_lsub dX9_valueAt_117 rfl ?_
              obtain ⟨q28, h⟩ := zgd_elim h
              refine z_last h0.2.2 (zin_ok q28) dX9_valueAt_118 ?_
              obtain ⟨S29, eS29, h⟩ := zlet_elim h
              refine z_tS eS29 ?_
              refine z_goto (tgt := 157) dX9_valueAt_119 (by decide) ?_
              exact z_mask [true, true, false, true, true, false, false] rfl (tX9_valueAt_b157 T k0 k1 x3 x4 S29 h0 h1 r h K1 K2_0 K2_1)
        · rw [if_pos q16] at h
          exact z_mask [true, true, false, true, true, true, false] rfl (tX9_valueAt_b45 T k0 k1 x3 x4 r2 S h0 h1 r h K1 K2_0 K2_1)
    · rw [if_pos q4] at h
      cases h
      exact z_mask [true, false, false, true, false, false, false] rfl (K2_1 _ rfl)
set_option maxHeartbeats 4000000 in
set_option maxRecDepth 100000 in
theorem tX9_valueAt_l5 (T : zT) (k0 : Nat) (k1 : Nat) (h0 : iX9 T k0) (h1 : iX2 T k1) {g : zG} {v : Option Value} {S' : zS} : ∀ (n : Nat) (a : (Int32 × Int32 × zS)) (e : ((Int32 × zS) ⊕ (Int32 × zS))), lpn (fun a => fX9_valueAt_l5 T k0 k1 a.1 a.2.1 a.2.2) n a = some e → (∀ e1 : (Int32 × zS), e = (.inl e1) → zg g 1 mX9_valueAt T 163 [some (.ref k0), none, none, some (.int e1.1), none, none, none] [] T e1.2 v T S') → (∀ e1 : (Int32 × zS), e = (.inr e1) → zg g 1 mX9_valueAt T 28 [some (.ref k0), none, none, some (.int e1.1), none, none, none] [] T e1.2 v T S') → zg g 1 mX9_valueAt T 5 [some (.ref k0), some (.ref k1), none, some (.int a.1), some (.int a.2.1), none, none] [] T a.2.2 v T S' := by
  intro n
  induction n with
  | zero =>
    intro a e h
    cases h
  | succ n ih =>
    intro a e h k0_ k1_
    rcases lpn_succ h with ⟨a1, ha_, hb_⟩ | ha_
    · exact tX9_valueAt_l5b T k0 k1 a.1 a.2.1 a.2.2 h0 h1 _ ha_ (fun a2 q => by cases q; exact ih a1 e hb_ k0_ k1_) (fun e1 q => by cases q) (fun e1 q => by cases q)
    · exact tX9_valueAt_l5b T k0 k1 a.1 a.2.1 a.2.2 h0 h1 _ ha_ (fun a2 q => by cases q) (fun e1 q => by cases q; exact k0_ _ rfl) (fun e1 q => by cases q; exact k1_ _ rfl)
set_option maxHeartbeats 4000000 in
set_option maxRecDepth 100000 in
theorem tX9_valueAt_b177 (T : zT) (s0 : Int64) (S : zS)  {g : zG} (r : (Int64 × zS)) (h : fX9_valueAt_b177 T s0 S = some r)  : zg g 1 mX9_valueAt T 177 [none, none, none, none, none, none, none] [.long s0] T S (some (.long r.1)) T r.2 := by
  unfold fX9_valueAt_b177 at h
  cases h
  exact z_lret rfl dX9_valueAt_177
set_option maxHeartbeats 4000000 in
set_option maxRecDepth 100000 in
theorem tX9_valueAt_b163 (T : zT) (k0 : Nat) (x3 : Int32) (S : zS) (h0 : iX9 T k0) {g : zG} (r : (Int64 × zS)) (h : fX9_valueAt_b163 T k0 x3 S = some r)  : zg g 1 mX9_valueAt T 163 [some (.ref k0), none, none, some (.int x3), none, none, none] [] T S (some (.long r.1)) T r.2 := by
  unfold fX9_valueAt_b163 at h
  refine z_iload_n dX9_valueAt_163 rfl ?_
  refine z_if_le (tgt := 176) dX9_valueAt_164 (by decide) (fun q31 => ?_) (fun q31 => ?_)
  · rw [if_pos q31] at h
    refine z_lconst (r := 0) dX9_valueAt_176 rfl ?_
    exact z_mask [false, false, false, false, false, false, false] rfl (tX9_valueAt_b177 T 0 S  r h)
  · rw [if_neg q31] at h
    refine z_aload_n dX9_valueAt_167 rfl ?_
    refine z_gA (zF.x zfX9_15) h0.1 dX9_valueAt_168 ?_
    refine z_iconst dX9_valueAt_171 cI_0 ?_
    obtain ⟨q32, h⟩ := zgd_elim h
    refine z_lald h0.2.2 (zin_ok q32) dX9_valueAt_172 ?_
    refine z_goto (tgt := 177) dX9_valueAt_173 (by decide) ?_
    exact z_mask [false, false, false, false, false, false, false] rfl (tX9_valueAt_b177 T (S.2 (zr T k0 1) (0 : Int32).toNatClampNeg) S  r h)
set_option maxHeartbeats 4000000 in
set_option maxRecDepth 100000 in
theorem tX9_valueAt (T : zT) (k0 : Nat) (k1 : Nat) (x2 : Int32) (S : zS) (h0 : iX9 T k0) (h1 : iX2 T k1) (r : Int64 × zS) (h : fX9_valueAt T k0 k1 x2 S = some r) : zGM 1 mX9_valueAt [.ref k0, .ref k1, .int x2] T S (some (.long r.1)) T r.2 := by
  refine zGM_of zpnX9 rfl (Nat.le_of_ble_eq_true rfl) (fun g => ?_)
  show zg g 1 mX9_valueAt T 0 [some (.ref k0), some (.ref k1), some (.int x2), none, none, none, none] [] T S (some (.long r.1)) T r.2
  unfold fX9_valueAt at h
  refine z_iconst dX9_valueAt_0 cI_0 ?_
  refine z_istore_n dX9_valueAt_1 rfl (by decide) rfl ?_
  refine z_iload_n dX9_valueAt_2 rfl ?_
  refine z_istore dX9_valueAt_3 rfl (by decide) rfl ?_
  obtain ⟨e30, hl33, h⟩ := zb1_elim h
  obtain ⟨nf34, hl33⟩ := lp_some hl33
  refine z_mask [true, true, false, true, true, false, false] rfl (tX9_valueAt_l5 T k0 k1 h0 h1 nf34 (0, x2, S) e30 hl33 (fun e30_0 q => ?_) (fun e30_1 q => ?_))
  · cases q
    replace h := zsm_l h
    exact z_mask [true, false, false, true, false, false, false] rfl (tX9_valueAt_b163 T k0 e30_0.1 e30_0.2 h0 r h)
  · cases q
    replace h := zsm_r h
    refine z_goto (tgt := 163) dX9_valueAt_28 (by decide) ?_
    exact z_mask [true, false, false, true, false, false, false] rfl (tX9_valueAt_b163 T k0 e30_1.1 e30_1.2 h0 r h)
/-! X1_holding -/
noncomputable def fX1_holding_b56 (T : zT) (k0 : Nat) (k1 : Nat) (k2 : Nat) (x3 : Int32) (x4 : Int32) (S : zS) : Option ((Int32 × Int32 × zS) ⊕ (Int32 × zS)) :=
  zlet (x4 + 1) fun u6 => some (.inl (x3, u6, S))
noncomputable def fX1_holding_b49 (T : zT) (k0 : Nat) (k1 : Nat) (k2 : Nat) (x3 : Int32) (x4 : Int32) (S : zS) : Option ((Int32 × Int32 × zS) ⊕ (Int32 × zS)) :=
  zlet (x3 ||| (1 <<< (x4 &&& 31))) fun u5 => fX1_holding_b56 T k0 k1 k2 u5 x4 S
noncomputable def fX1_holding_l5 (T : zT) (k0 : Nat) (k1 : Nat) (k2 : Nat) (x3 : Int32) (x4 : Int32) (S : zS) : Option ((Int32 × Int32 × zS) ⊕ (Int32 × zS)) :=
  if (S.1 k0 3) ≤ x4 then some (.inr (x3, S)) else if 24 ≤ x4 then some (.inr (x3, S)) else zgd (zin x4 24) (if (S.1 (zr T k0 2) (x4 : Int32).toNatClampNeg) = (-1) then fX1_holding_b49 T k0 k1 k2 x3 x4 S else zgd (zin x4 24) (zb (fX9_valueAt T k2 k1 (S.1 (zr T k0 2) (x4 : Int32).toNatClampNeg) S) fun r8 S10 => if (lg_cmp r8 0) = 0 then fX1_holding_b56 T k0 k1 k2 x3 x4 S10 else fX1_holding_b49 T k0 k1 k2 x3 x4 S10))
noncomputable def fX1_holding_b62 (T : zT) (x3 : Int32) (S : zS) : Option (Int32 × zS) :=
  some (x3, S)
noncomputable def fX1_holding (T : zT) (k0 : Nat) (k1 : Nat) (k2 : Nat) (S : zS) : Option (Int32 × zS) :=
  zb1 (lp (fun a => fX1_holding_l5 T k0 k1 k2 a.1 a.2.1 a.2.2) (0, 0, S)) fun e12 => fX1_holding_b62 T e12.1 e12.2
set_option maxHeartbeats 4000000 in
set_option maxRecDepth 100000 in
theorem tX1_holding_b56 (T : zT) (k0 : Nat) (k1 : Nat) (k2 : Nat) (x3 : Int32) (x4 : Int32) (S : zS) (h0 : iX1 T k0) (h1 : iX2 T k1) (h2 : iX9 T k2) {g : zG} {v : Option Value} {S' : zS} (r : ((Int32 × Int32 × zS) ⊕ (Int32 × zS))) (h : fX1_holding_b56 T k0 k1 k2 x3 x4 S = some r) (K1 : ∀ a : (Int32 × Int32 × zS), r = .inl a → zg g 2 mX1_holding T 5 [some (.ref k0), some (.ref k1), some (.ref k2), some (.int a.1), some (.int a.2.1)] [] T a.2.2 v T S') (K2_0 : ∀ e : (Int32 × zS), r = .inr e → zg g 2 mX1_holding T 62 [none, none, none, some (.int e.1), none] [] T e.2 v T S') : zg g 2 mX1_holding T 56 [some (.ref k0), some (.ref k1), some (.ref k2), some (.int x3), some (.int x4)] [] T S v T S' := by
  unfold fX1_holding_b56 at h
  obtain ⟨u6, eu6, h⟩ := zlet_elim h
  refine z_iinc (r := u6) dX1_holding_56 rfl (by rw [eu6, cI_1]) rfl (by decide) rfl ?_
  refine z_goto (tgt := 5) dX1_holding_59 (by decide) ?_
  cases h
  exact z_mask [true, true, true, true, true] rfl (K1 _ rfl)
set_option maxHeartbeats 4000000 in
set_option maxRecDepth 100000 in
theorem tX1_holding_b49 (T : zT) (k0 : Nat) (k1 : Nat) (k2 : Nat) (x3 : Int32) (x4 : Int32) (S : zS) (h0 : iX1 T k0) (h1 : iX2 T k1) (h2 : iX9 T k2) {g : zG} {v : Option Value} {S' : zS} (r : ((Int32 × Int32 × zS) ⊕ (Int32 × zS))) (h : fX1_holding_b49 T k0 k1 k2 x3 x4 S = some r) (K1 : ∀ a : (Int32 × Int32 × zS), r = .inl a → zg g 2 mX1_holding T 5 [some (.ref k0), some (.ref k1), some (.ref k2), some (.int a.1), some (.int a.2.1)] [] T a.2.2 v T S') (K2_0 : ∀ e : (Int32 × zS), r = .inr e → zg g 2 mX1_holding T 62 [none, none, none, some (.int e.1), none] [] T e.2 v T S') : zg g 2 mX1_holding T 49 [some (.ref k0), some (.ref k1), some (.ref k2), some (.int x3), some (.int x4)] [] T S v T S' := by
  unfold fX1_holding_b49 at h
  refine z_iload_n dX1_holding_49 rfl ?_
  refine z_iconst dX1_holding_50 cI_1 ?_
  refine z_iload dX1_holding_51 rfl ?_
  refine z_ishl dX1_holding_53 rfl ?_
  refine z_ior dX1_holding_54 rfl ?_
  obtain ⟨u5, eu5, h⟩ := zlet_elim h
  refine z_ti eu5 ?_
  refine z_istore_n dX1_holding_55 rfl (by decide) rfl ?_
  exact z_mask [true, true, true, true, true] rfl (tX1_holding_b56 T k0 k1 k2 u5 x4 S h0 h1 h2 r h K1 K2_0)
set_option maxHeartbeats 4000000 in
set_option maxRecDepth 100000 in
theorem tX1_holding_l5b (T : zT) (k0 : Nat) (k1 : Nat) (k2 : Nat) (x3 : Int32) (x4 : Int32) (S : zS) (h0 : iX1 T k0) (h1 : iX2 T k1) (h2 : iX9 T k2) {g : zG} {v : Option Value} {S' : zS} (r : (Int32 × Int32 × zS) ⊕ (Int32 × zS)) (h : fX1_holding_l5 T k0 k1 k2 x3 x4 S = some r) (K1 : ∀ a : (Int32 × Int32 × zS), r = .inl a → zg g 2 mX1_holding T 5 [some (.ref k0), some (.ref k1), some (.ref k2), some (.int a.1), some (.int a.2.1)] [] T a.2.2 v T S') (K2_0 : ∀ e : (Int32 × zS), r = .inr e → zg g 2 mX1_holding T 62 [none, none, none, some (.int e.1), none] [] T e.2 v T S') : zg g 2 mX1_holding T 5 [some (.ref k0), some (.ref k1), some (.ref k2), some (.int x3), some (.int x4)] [] T S v T S' := by
  unfold fX1_holding_l5 at h
  refine z_iload dX1_holding_5 rfl ?_
  refine z_aload_n dX1_holding_7 rfl ?_
  refine z_gI (zF.x zfX1_27) h0.1 dX1_holding_8 ?_
  refine z_icmp_ge (tgt := 62) dX1_holding_11 (by decide) (fun q1 => ?_) (fun q1 => ?_)
  · rw [if_pos q1] at h
    cases h
    exact z_mask [false, false, false, true, false] rfl (K2_0 _ rfl)
  · rw [if_neg q1] at h
    refine z_iload dX1_holding_14 rfl ?_
    refine z_bipush dX1_holding_16 cB_24 ?_
    refine z_icmp_ge (tgt := 62) dX1_holding_18 (by decide) (fun q2 => ?_) (fun q2 => ?_)
    · rw [if_pos q2] at h
      cases h
      exact z_mask [false, false, false, true, false] rfl (K2_0 _ rfl)
    · rw [if_neg q2] at h
      refine z_aload_n dX1_holding_21 rfl ?_
      refine z_gA (zF.x zfX1_18) h0.1 dX1_holding_22 ?_
      refine z_iload dX1_holding_25 rfl ?_
      obtain ⟨q3, h⟩ := zgd_elim h
      refine z_iald h0.2.2.2 (zin_ok q3) dX1_holding_27 ?_
      refine z_iconst dX1_holding_28 cI_m1 ?_
      refine z_icmp_eq (tgt := 49) dX1_holding_29 (by decide) (fun q4 => ?_) (fun q4 => ?_)
      · rw [if_pos q4] at h
        exact z_mask [true, true, true, true, true] rfl (tX1_holding_b49 T k0 k1 k2 x3 x4 S h0 h1 h2 r h K1 K2_0)
      · rw [if_neg q4] at h
        refine z_aload_n dX1_holding_32 rfl ?_
        refine z_aload_n dX1_holding_33 rfl ?_
        refine z_aload_n dX1_holding_34 rfl ?_
        refine z_gA (zF.x zfX1_18) h0.1 dX1_holding_35 ?_
        refine z_iload dX1_holding_38 rfl ?_
        obtain ⟨q7, h⟩ := zgd_elim h
        refine z_iald h0.2.2.2 (zin_ok q7) dX1_holding_40 ?_
        obtain ⟨r8, S10, hc9, h⟩ := zb_elim h
        refine z_callV (As := [.ref k1, .int (S.1 (zr T k0 2) (x4 : Int32).toNatClampNeg)]) zcX9 zkX1_31 ziX9_valueAt zqX9_valueAt h2.1 (tX9_valueAt T k2 k1 (S.1 (zr T k0 2) (x4 : Int32).toNatClampNeg) S h2 h1 (r8, S10) hc9) rfl rfl (Nat.le_of_ble_eq_true rfl) (by decide) ⟨Nat.le_refl _, Nat.le_refl _⟩ ⟨Nat.le_refl _, Nat.le_refl _⟩ dX1_holding_41 ?_
        refine z_lconst (r := 0) dX1_holding_44 rfl ?_
        refine z_lcmp dX1_holding_45 rfl ?_
        refine z_if_eq (tgt := 56) dX1_holding_46 (by decide) (fun q11 => ?_) (fun q11 => ?_)
        · rw [if_pos q11] at h
          exact z_mask [true, true, true, true, true] rfl (tX1_holding_b56 T k0 k1 k2 x3 x4 S10 h0 h1 h2 r h K1 K2_0)
        · rw [if_neg q11] at h
          exact z_mask [true, true, true, true, true] rfl (tX1_holding_b49 T k0 k1 k2 x3 x4 S10 h0 h1 h2 r h K1 K2_0)
set_option maxHeartbeats 4000000 in
set_option maxRecDepth 100000 in
theorem tX1_holding_l5 (T : zT) (k0 : Nat) (k1 : Nat) (k2 : Nat) (h0 : iX1 T k0) (h1 : iX2 T k1) (h2 : iX9 T k2) {g : zG} {v : Option Value} {S' : zS} : ∀ (n : Nat) (a : (Int32 × Int32 × zS)) (e : (Int32 × zS)), lpn (fun a => fX1_holding_l5 T k0 k1 k2 a.1 a.2.1 a.2.2) n a = some e → (∀ e1 : (Int32 × zS), e = e1 → zg g 2 mX1_holding T 62 [none, none, none, some (.int e1.1), none] [] T e1.2 v T S') → zg g 2 mX1_holding T 5 [some (.ref k0), some (.ref k1), some (.ref k2), some (.int a.1), some (.int a.2.1)] [] T a.2.2 v T S' := by
  intro n
  induction n with
  | zero =>
    intro a e h
    cases h
  | succ n ih =>
    intro a e h k0_
    rcases lpn_succ h with ⟨a1, ha_, hb_⟩ | ha_
    · exact tX1_holding_l5b T k0 k1 k2 a.1 a.2.1 a.2.2 h0 h1 h2 _ ha_ (fun a2 q => by cases q; exact ih a1 e hb_ k0_) (fun e1 q => by cases q)
    · exact tX1_holding_l5b T k0 k1 k2 a.1 a.2.1 a.2.2 h0 h1 h2 _ ha_ (fun a2 q => by cases q) (fun e1 q => by cases q; exact k0_ _ rfl)
set_option maxHeartbeats 4000000 in
set_option maxRecDepth 100000 in
theorem tX1_holding_b62 (T : zT) (x3 : Int32) (S : zS)  {g : zG} (r : (Int32 × zS)) (h : fX1_holding_b62 T x3 S = some r)  : zg g 2 mX1_holding T 62 [none, none, none, some (.int x3), none] [] T S (some (.int r.1)) T r.2 := by
  unfold fX1_holding_b62 at h
  refine z_iload_n dX1_holding_62 rfl ?_
  cases h
  exact z_iret rfl dX1_holding_63
set_option maxHeartbeats 4000000 in
set_option maxRecDepth 100000 in
theorem tX1_holding (T : zT) (k0 : Nat) (k1 : Nat) (k2 : Nat) (S : zS) (h0 : iX1 T k0) (h1 : iX2 T k1) (h2 : iX9 T k2) (r : Int32 × zS) (h : fX1_holding T k0 k1 k2 S = some r) : zGM 2 mX1_holding [.ref k0, .ref k1, .ref k2] T S (some (.int r.1)) T r.2 := by
  refine zGM_of zpnX1 rfl (Nat.le_of_ble_eq_true rfl) (fun g => ?_)
  show zg g 2 mX1_holding T 0 [some (.ref k0), some (.ref k1), some (.ref k2), none, none] [] T S (some (.int r.1)) T r.2
  unfold fX1_holding at h
  refine z_iconst dX1_holding_0 cI_0 ?_
  refine z_istore_n dX1_holding_1 rfl (by decide) rfl ?_
  refine z_iconst dX1_holding_2 cI_0 ?_
  refine z_istore dX1_holding_3 rfl (by decide) rfl ?_
  obtain ⟨e12, hl13, h⟩ := zb1_elim h
  obtain ⟨nf14, hl13⟩ := lp_some hl13
  refine z_mask [true, true, true, true, true] rfl (tX1_holding_l5 T k0 k1 k2 h0 h1 h2 nf14 (0, 0, S) e12 hl13 (fun e_ q => ?_))
  · cases q
    exact z_mask [false, false, false, true, false] rfl (tX1_holding_b62 T e12.1 e12.2  r h)
/-! X8_valueIn -/
noncomputable def fX8_valueIn_l2 (T : zT) (k0 : Nat) (k1 : Nat) (x2 : Int32) (S : zS) : Option ((Int32 × zS) ⊕ (zS ⊕ (Int32 × zS))) :=
  if (S.1 k0 2) ≤ x2 then some (.inr (.inl S)) else if 12 ≤ x2 then some (.inr (.inl S)) else zgd (zin x2 12) (if (S.1 (zr T k0 1) (x2 : Int32).toNatClampNeg) = (-1) then some (.inr (.inr (x2, S))) else zgd (zin x2 12) (zb (fX9_valueAt T k1 (zr T k0 4) (S.1 (zr T k0 1) (x2 : Int32).toNatClampNeg) S) fun r6 S8 => if (lg_cmp r6 0) = 0 then zlet (x2 + 1) fun u10 => some (.inl (u10, S8)) else some (.inr (.inr (x2, S8)))))
noncomputable def fX8_valueIn_b66 (T : zT)  (S : zS) : Option (Int64 × zS) :=
  some (0, S)
noncomputable def fX8_valueIn_b45 (T : zT) (k0 : Nat) (k1 : Nat) (x2 : Int32) (S : zS) : Option (Int64 × zS) :=
  zgd (zin x2 12) (zb (fX9_valueAt T k1 (zr T k0 4) (S.1 (zr T k0 0) (x2 : Int32).toNatClampNeg) S) fun r13 S15 => some (r13, S15))
noncomputable def fX8_valueIn (T : zT) (k0 : Nat) (k1 : Nat) (S : zS) : Option (Int64 × zS) :=
  zb1 (lp (fun a => fX8_valueIn_l2 T k0 k1 a.1 a.2) (0, S)) fun e11 => zsm e11 (fun e11_0 => fX8_valueIn_b66 T  e11_0) (fun e11_1 => fX8_valueIn_b45 T k0 k1 e11_1.1 e11_1.2)
set_option maxHeartbeats 4000000 in
set_option maxRecDepth 100000 in
theorem tX8_valueIn_l2b (T : zT) (k0 : Nat) (k1 : Nat) (x2 : Int32) (S : zS) (h0 : iX8 T k0) (h1 : iX9 T k1) {g : zG} {v : Option Value} {S' : zS} (r : (Int32 × zS) ⊕ (zS ⊕ (Int32 × zS))) (h : fX8_valueIn_l2 T k0 k1 x2 S = some r) (K1 : ∀ a : (Int32 × zS), r = .inl a → zg g 2 mX8_valueIn T 2 [some (.ref k0), some (.ref k1), some (.int a.1)] [] T a.2 v T S') (K2_0 : ∀ e : zS, r = .inr (.inl e) → zg g 2 mX8_valueIn T 66 [none, none, none] [] T e v T S') (K2_1 : ∀ e : (Int32 × zS), r = .inr (.inr e) → zg g 2 mX8_valueIn T 45 [some (.ref k0), some (.ref k1), some (.int e.1)] [] T e.2 v T S') : zg g 2 mX8_valueIn T 2 [some (.ref k0), some (.ref k1), some (.int x2)] [] T S v T S' := by
  unfold fX8_valueIn_l2 at h
  refine z_iload_n dX8_valueIn_2 rfl ?_
  refine z_aload_n dX8_valueIn_3 rfl ?_
  refine z_gI (zF.x zfX8_25) h0.1 dX8_valueIn_4 ?_
  refine z_icmp_ge (tgt := 66) dX8_valueIn_7 (by decide) (fun q1 => ?_) (fun q1 => ?_)
  · rw [if_pos q1] at h
    cases h
    exact z_mask [false, false, false] rfl (K2_0 _ rfl)
  · rw [if_neg q1] at h
    refine z_iload_n dX8_valueIn_10 rfl ?_
    refine z_bipush dX8_valueIn_11 cB_12 ?_
    refine z_icmp_ge (tgt := 66) dX8_valueIn_13 (by decide) (fun q2 => ?_) (fun q2 => ?_)
    · rw [if_pos q2] at h
      cases h
      exact z_mask [false, false, false] rfl (K2_0 _ rfl)
    · rw [if_neg q2] at h
      refine z_aload_n dX8_valueIn_16 rfl ?_
      refine z_gA (zF.x zfX8_15) h0.1 dX8_valueIn_17 ?_
      refine z_iload_n dX8_valueIn_20 rfl ?_
      obtain ⟨q3, h⟩ := zgd_elim h
      refine z_iald h0.2.2.1 (zin_ok q3) dX8_valueIn_21 ?_
      refine z_iconst dX8_valueIn_22 cI_m1 ?_
      refine z_icmp_eq (tgt := 45) dX8_valueIn_23 (by decide) (fun q4 => ?_) (fun q4 => ?_)
      · rw [if_pos q4] at h
        cases h
        exact z_mask [true, true, true] rfl (K2_1 _ rfl)
      · rw [if_neg q4] at h
        refine z_aload_n dX8_valueIn_26 rfl ?_
        refine z_aload_n dX8_valueIn_27 rfl ?_
        refine z_gR (zF.x zfX8_21) h0.1 dX8_valueIn_28 ?_
        refine z_aload_n dX8_valueIn_31 rfl ?_
        refine z_gA (zF.x zfX8_15) h0.1 dX8_valueIn_32 ?_
        refine z_iload_n dX8_valueIn_35 rfl ?_
        obtain ⟨q5, h⟩ := zgd_elim h
        refine z_iald h0.2.2.1 (zin_ok q5) dX8_valueIn_36 ?_
        obtain ⟨r6, S8, hc7, h⟩ := zb_elim h
        refine z_callV (As := [.ref (zr T k0 4), .int (S.1 (zr T k0 1) (x2 : Int32).toNatClampNeg)]) zcX9 zkX8_35 ziX9_valueAt zqX9_valueAt h1.1 (tX9_valueAt T k1 (zr T k0 4) (S.1 (zr T k0 1) (x2 : Int32).toNatClampNeg) S h1 h0.2.2.2 (r6, S8) hc7) rfl rfl (Nat.le_of_ble_eq_true rfl) (by decide) ⟨Nat.le_refl _, Nat.le_refl _⟩ ⟨Nat.le_refl _, Nat.le_refl _⟩ dX8_valueIn_37 ?_
        refine z_lconst (r := 0) dX8_valueIn_40 rfl ?_
        refine z_lcmp dX8_valueIn_41 rfl ?_
        refine z_if_eq (tgt := 60) dX8_valueIn_42 (by decide) (fun q9 => ?_) (fun q9 => ?_)
        · rw [if_pos q9] at h
          obtain ⟨u10, eu10, h⟩ := zlet_elim h
          refine z_iinc (r := u10) dX8_valueIn_60 rfl (by rw [eu10, cI_1]) rfl (by decide) rfl ?_
          refine z_goto (tgt := 2) dX8_valueIn_63 (by decide) ?_
          cases h
          exact z_mask [true, true, true] rfl (K1 _ rfl)
        · rw [if_neg q9] at h
          cases h
          exact z_mask [true, true, true] rfl (K2_1 _ rfl)
set_option maxHeartbeats 4000000 in
set_option maxRecDepth 100000 in
theorem tX8_valueIn_l2 (T : zT) (k0 : Nat) (k1 : Nat) (h0 : iX8 T k0) (h1 : iX9 T k1) {g : zG} {v : Option Value} {S' : zS} : ∀ (n : Nat) (a : (Int32 × zS)) (e : (zS ⊕ (Int32 × zS))), lpn (fun a => fX8_valueIn_l2 T k0 k1 a.1 a.2) n a = some e → (∀ e1 : zS, e = (.inl e1) → zg g 2 mX8_valueIn T 66 [none, none, none] [] T e1 v T S') → (∀ e1 : (Int32 × zS), e = (.inr e1) → zg g 2 mX8_valueIn T 45 [some (.ref k0), some (.ref k1), some (.int e1.1)] [] T e1.2 v T S') → zg g 2 mX8_valueIn T 2 [some (.ref k0), some (.ref k1), some (.int a.1)] [] T a.2 v T S' := by
  intro n
  induction n with
  | zero =>
    intro a e h
    cases h
  | succ n ih =>
    intro a e h k0_ k1_
    rcases lpn_succ h with ⟨a1, ha_, hb_⟩ | ha_
    · exact tX8_valueIn_l2b T k0 k1 a.1 a.2 h0 h1 _ ha_ (fun a2 q => by cases q; exact ih a1 e hb_ k0_ k1_) (fun e1 q => by cases q) (fun e1 q => by cases q)
    · exact tX8_valueIn_l2b T k0 k1 a.1 a.2 h0 h1 _ ha_ (fun a2 q => by cases q) (fun e1 q => by cases q; exact k0_ _ rfl) (fun e1 q => by cases q; exact k1_ _ rfl)
set_option maxHeartbeats 4000000 in
set_option maxRecDepth 100000 in
theorem tX8_valueIn_b66 (T : zT)  (S : zS)  {g : zG} (r : (Int64 × zS)) (h : fX8_valueIn_b66 T  S = some r)  : zg g 2 mX8_valueIn T 66 [none, none, none] [] T S (some (.long r.1)) T r.2 := by
  unfold fX8_valueIn_b66 at h
  refine z_lconst (r := 0) dX8_valueIn_66 rfl ?_
  cases h
  exact z_lret rfl dX8_valueIn_67
set_option maxHeartbeats 4000000 in
set_option maxRecDepth 100000 in
theorem tX8_valueIn_b45 (T : zT) (k0 : Nat) (k1 : Nat) (x2 : Int32) (S : zS) (h0 : iX8 T k0) (h1 : iX9 T k1) {g : zG} (r : (Int64 × zS)) (h : fX8_valueIn_b45 T k0 k1 x2 S = some r)  : zg g 2 mX8_valueIn T 45 [some (.ref k0), some (.ref k1), some (.int x2)] [] T S (some (.long r.1)) T r.2 := by
  unfold fX8_valueIn_b45 at h
  refine z_aload_n dX8_valueIn_45 rfl ?_
  refine z_aload_n dX8_valueIn_46 rfl ?_
  refine z_gR (zF.x zfX8_21) h0.1 dX8_valueIn_47 ?_
  refine z_aload_n dX8_valueIn_50 rfl ?_
  refine z_gA (zF.x zfX8_9) h0.1 dX8_valueIn_51 ?_
  refine z_iload_n dX8_valueIn_54 rfl ?_
  obtain ⟨q12, h⟩ := zgd_elim h
  refine z_iald h0.2.1 (zin_ok q12) dX8_valueIn_55 ?_
  obtain ⟨r13, S15, hc14, h⟩ := zb_elim h
  refine z_callV (As := [.ref (zr T k0 4), .int (S.1 (zr T k0 0) (x2 : Int32).toNatClampNeg)]) zcX9 zkX8_35 ziX9_valueAt zqX9_valueAt h1.1 (tX9_valueAt T k1 (zr T k0 4) (S.1 (zr T k0 0) (x2 : Int32).toNatClampNeg) S h1 h0.2.2.2 (r13, S15) hc14) rfl rfl (Nat.le_of_ble_eq_true rfl) (by decide) ⟨Nat.le_refl _, Nat.le_refl _⟩ ⟨Nat.le_refl _, Nat.le_refl _⟩ dX8_valueIn_56 ?_
  cases h
  exact z_lret rfl dX8_valueIn_59
set_option maxHeartbeats 4000000 in
set_option maxRecDepth 100000 in
theorem tX8_valueIn (T : zT) (k0 : Nat) (k1 : Nat) (S : zS) (h0 : iX8 T k0) (h1 : iX9 T k1) (r : Int64 × zS) (h : fX8_valueIn T k0 k1 S = some r) : zGM 2 mX8_valueIn [.ref k0, .ref k1] T S (some (.long r.1)) T r.2 := by
  refine zGM_of zpnX8 rfl (Nat.le_of_ble_eq_true rfl) (fun g => ?_)
  show zg g 2 mX8_valueIn T 0 [some (.ref k0), some (.ref k1), none] [] T S (some (.long r.1)) T r.2
  unfold fX8_valueIn at h
  refine z_iconst dX8_valueIn_0 cI_0 ?_
  refine z_istore_n dX8_valueIn_1 rfl (by decide) rfl ?_
  obtain ⟨e11, hl16, h⟩ := zb1_elim h
  obtain ⟨nf17, hl16⟩ := lp_some hl16
  refine z_mask [true, true, true] rfl (tX8_valueIn_l2 T k0 k1 h0 h1 nf17 (0, S) e11 hl16 (fun e11_0 q => ?_) (fun e11_1 q => ?_))
  · cases q
    replace h := zsm_l h
    exact z_mask [false, false, false] rfl (tX8_valueIn_b66 T  e11_0  r h)
  · cases q
    replace h := zsm_r h
    exact z_mask [true, true, true] rfl (tX8_valueIn_b45 T k0 k1 e11_1.1 e11_1.2 h0 h1 r h)
